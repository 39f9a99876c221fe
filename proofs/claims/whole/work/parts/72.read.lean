/-- the reference alone reads an item -/
def Out1 (x : Nat) (hm : zH) (R : Option (Int32 × zH)) : Prop := ∃ w hm', R = some (w, hm') ∧ Fr hm hm' ∧ (w = 0 ∨ w = 1 ∧ ∃ q', hm' 0 12 = nI q' ∧ q' ≤ 300 ∧ x < q')
theorem OutR.o {a : Nat → Int32} {run : Option (Int32 × zH)} {hm : zH} {m x : Nat} {cond : List Int32 → Prop} {eff : List Int32 → zH → Prop} (hO : OutR a run hm m (x + 1) cond eff) (hm3 : m < 4) (hx : x ≤ 200) : Out1 x hm (run.bind fun r => gd (zb r.1) (some (r.1, r.2))) ∧ Out1 x hm run := by
  rcases hO with ⟨l, q, hm', g1, g2, g3, g4, g5, g6⟩ | ⟨hm', g1, g2, g3⟩
  · obtain ⟨w1, w2, w3⟩ := ch_no m _ l q g1
    refine ⟨⟨1, hm', ?_, g5, Or.inr ⟨rfl, q, g4, by omega, by omega⟩⟩, ⟨1, hm', g3, g5, Or.inr ⟨rfl, q, g4, by omega, by omega⟩⟩⟩
    rw [g3, Option.bind_some]; rfl
  · refine ⟨⟨0, hm', ?_, g2, Or.inl rfl⟩, ⟨0, hm', g1, g2, Or.inl rfl⟩⟩
    rw [g1, Option.bind_some]; rfl
theorem item_ref {a : Nat → Int32} {len x p b l q f s : Nat} {h hm : zH} (d : DX p h hm b l q f s) (hl : len ≤ 200) (lm : LM a len hm) (hx : x < len) : Out1 x hm (Mo_readsItem (a x) (nI (x + 1)) (if x = 0 then 1 else 0) hm) := by
  obtain ⟨⟨b6, l9, q6, f9, s5⟩, ⟨c0, c1, c2, c3, c4⟩, ⟨m0, m1, m2', m3', m4'⟩, dl, dq, df, ds⟩ := id d
  have lose : Out1 x hm (some (0, hm)) := ⟨0, hm, rfl, Fr.rf, Or.inl rfl⟩
  by_cases hb : a x = 98
  · rw [hb]
    by_cases hx0 : x = 0
    · rw [if_pos hx0, readsItem_b]
      exact ((outN (p := x + 1) hl lm (by omega)).o (by omega) (by omega)).2
    · rw [if_neg hx0, readsItem_b0]; exact lose
  by_cases hx0 : x = 0
  · rw [if_pos hx0, readsItem_1 _ _ hb]; exact lose
  rw [if_neg hx0, readsItem_0 _ _ hb]
  by_cases h102 : a x = 102
  · rw [if_pos h102]
    exact ((outF (n := f) (p := x + 1) hl lm (by omega) m3' f9).o (by omega) (by omega)).1
  rw [if_neg h102]
  by_cases h108 : a x = 108
  · rw [if_pos h108]
    exact ((outL (n := l) (p := x + 1) hl lm (by omega) m1 l9).o (by omega) (by omega)).1
  rw [if_neg h108]
  by_cases h112 : a x = 112
  · rw [if_pos h112]
    exact ((outP (n := q) (p := x + 1) hl lm (by omega) m2' q6).o (by omega) (by omega)).1
  rw [if_neg h112]
  by_cases h114 : a x = 114
  · rw [if_pos h114]
    exact ((outB (p := x + 1) hl lm (by omega)).o (by omega) (by omega)).1
  rw [if_neg h114]
  by_cases h115 : a x = 115
  · rw [if_pos h115]
    exact ((outS (n := s) (p := x + 1) hl lm (by omega) m4' s5).o (by omega) (by omega)).1
  rw [if_neg h115]
  exact lose
theorem first (a : Nat → Int32) (len : Nat) : ∀ (d x : Nat), x + d = len → (∃ e, x ≤ e ∧ e < len ∧ a e = 59 ∧ ∀ y, x ≤ y → y < e → a y ≠ 59) ∨ (∀ y, x ≤ y → y < len → a y ≠ 59)
  | 0, x, h => Or.inr (fun y y1 y2 => by omega)
  | d + 1, x, h => by
    by_cases e : a x = 59
    · exact Or.inl ⟨x, Nat.le_refl _, by omega, e, fun y y1 y2 => by omega⟩
    · rcases first a len d (x + 1) (by omega) with ⟨e', h1, h2, h3, h4⟩ | h1
      · refine Or.inl ⟨e', by omega, h2, h3, fun y y1 y2 => ?_⟩
        by_cases q : y = x
        · subst q; exact e
        · exact h4 y (by omega) y2
      · refine Or.inr (fun y y1 y2 => ?_)
        by_cases q : y = x
        · subst q; exact e
        · exact h1 y (by omega) y2
theorem scan {a : Nat → Int32} {len p : Nat} {h : zH} (lx : LX a len h) (hl : len ≤ 200) (k1 k2 : Int32 → zH → Option (Int32 × zH)) (x : Int32) : ∀ (d y n : Nat), y + d ≤ len → (∀ z, y ≤ z → z < y + d → a z ≠ 59) → Re_read_L9 p k1 k2 (n + d) x (nI y) h = Re_read_L9 p k1 k2 n x (nI (y + d)) h
  | 0, y, n, _, _ => rfl
  | d + 1, y, n, hy, hno => by
    rw [← Nat.add_assoc, Re_read_L9, lx.1, if_neg (nI_lt_of (show y < len by omega) (by omega)), zr_nI (show y < 200 by omega) (by omega), gd_true, nI_clamp (show y < 2 ^ 31 by omega), lx.2 y (by omega), if_neg (hno y (Nat.le_refl _) (by omega)), nI_1, scan lx hl k1 k2 x d (y + 1) n (by omega) (fun z z1 z2 => hno z (by omega) (by omega)), show y + 1 + d = y + (d + 1) by omega]
theorem read_loop {a : Nat → Int32} {len p : Nat} (hp : 5 ≤ p) (hl : len ≤ 200) : ∀ (D x n1 n2 : Nat) (h hm : zH) (b l q f s : Nat), len - x ≤ D → x ≤ len → len - x < n1 → len - x < n2 → DX p h hm b l q f s → LX a len h → LM a len hm → (x = 0 ↔ b = 0) → ∃ v h' hm', Re_read_L9 p (fun x3_2 h_3 => some (x3_2, h_3)) (fun x3_3 h_4 => if (h_4 1 1) ≤ x3_3 then some ((-4), h_4) else some (x3_3, h_4)) n1 (nI x) (nI x) h = some (v, h') ∧ Mo_reads_L6 (fun x1_2 h_3 => some (x1_2, h_3)) (fun h_4 => some ((-4), h_4)) n2 (nI x) hm = some (v, hm') ∧ (∀ k, k ≠ 4 → ¬ (p ≤ k ∧ k ≤ p + 11) → h' k = h k) ∧ Fr hm hm' ∧ (v = -4 → ∃ b' l' q' f' s', DX p h' hm' b' l' q' f' s')
  | D, x, n1, n2 + 1, h, hm, b, l, q, f, s, hD, hx, hn1, hn2, d, lx, lm, hf => by
    rcases Nat.lt_or_ge x len with hlt | hge
    · have hne : ∀ v : Nat, v ≤ 300 → ¬ nI v = -4 := fun v hv z => by
        have z1 := ieq.mp z
        rw [nI_toInt (by omega)] at z1
        have : (-4 : Int32).toInt = -4 := rfl
        omega
      have href : Mo_reads_L6 (fun x1_2 h_3 => some (x1_2, h_3)) (fun h_4 => some ((-4), h_4)) (n2 + 1) (nI x) hm = ((Mo_readsItem (a x) (nI (x + 1)) (if x = 0 then 1 else 0) hm).bind fun r => if r.1 = 0 then some (nI x, r.2) else (Mo_letterAt (r.2 0 12) r.2).bind fun r_1 => if r_1 = 59 then Mo_reads_L6 (fun x1_2 h_3 => some (x1_2, h_3)) (fun h_4 => some ((-4), h_4)) n2 ((r.2 0 12) + 1) r.2 else some (nI x, r.2)) := by
        have ha : hm 1 x = a x := by rw [lm.2 x, if_pos hlt]
        rw [Mo_reads_L6, lm.1, if_neg (nI_lt_of hlt (by omega)), zr_nI (show x < 200 by omega) (by omega), gd_true, zlet_n (α := Int32 → Option (Int32 × zH)), nI_clamp (show x < 2 ^ 31 by omega), ha, nI_1]
        simp only [zlet_n]
        by_cases h0 : x = 0
        · rw [if_pos h0, if_pos (show nI x = 0 by rw [h0]; rfl)]
        · rw [if_neg h0, if_neg (show ¬ nI x = 0 from fun z => h0 ((nI_eq (b := 0) (by omega) (by omega)).mp z))]
      rw [href]
      rcases first a len (len - x) x (by omega) with ⟨e, e1, e2, e3, e4⟩ | hnone
      · -- there is an end
        obtain ⟨n', rfl⟩ : ∃ n', n1 = n' + 1 + (e - x) := ⟨n1 - 1 - (e - x), by omega⟩
        rw [scan lx hl _ _ _ (e - x) x (n' + 1) (by omega) (fun z z1 z2 => e4 z z1 (by omega)), show x + (e - x) = e by omega, Re_read_L9, lx.1, if_neg (nI_lt_of e2 (by omega)), zr_nI (show e < 200 by omega) (by omega), gd_true, nI_clamp (show e < 2 ^ 31 by omega), lx.2 e e2, if_pos e3]
        obtain ⟨v, h', w, hm', g1, g2, g3, g4, g5⟩ := item hp d hl lx lm e1 e2 e3 e4 hf
        rw [g1, g2, Option.bind_some, Option.bind_some]
        dsimp only
        rcases g5 with ⟨rfl, g5⟩ | ⟨rfl, rfl, g6, b', l', q', f', s', g7, g8⟩
        · rw [if_pos rfl]
          rcases g5 with rfl | ⟨rfl, q', y1, y2, y3⟩
          · rw [if_pos rfl]
            exact ⟨_, _, _, rfl, rfl, g3, g4, fun z => absurd z (hne x (by omega))⟩
          · rw [if_neg (show ¬ (1 : Int32) = 0 by decide), y1, letterAt_eq (g4.LM lm) hl (by omega), Option.bind_some, if_neg y3]
            exact ⟨_, _, _, rfl, rfl, g3, g4, fun z => absurd z (hne x (by omega))⟩
        · rw [if_neg (show ¬ (1 : Int32) = 0 by decide), if_neg (show ¬ (1 : Int32) = 0 by decide), g6, letterAt_eq (g4.LM lm) hl (by omega), Option.bind_some, if_pos e3, zlet_n, nI_1]
          have lx' : LX a len h' := ⟨by rw [g3 1 (by omega) (by omega)]; exact lx.1, fun y hy => by rw [g3 2 (by omega) (by omega)]; exact lx.2 y hy⟩
          obtain ⟨D', rfl⟩ : ∃ D', D = D' + 1 := ⟨D - 1, by omega⟩
          obtain ⟨v, h2, hm2, t1, t2, t3, t4, t5⟩ := read_loop hp hl D' (e + 1) n' n2 h' hm' b' l' q' f' s' (by omega) (by omega) (by omega) (by omega) g7 lx' (g4.LM lm) ⟨fun z => by omega, fun z => by omega⟩
          exact ⟨v, h2, hm2, t1, t2, fun k k4 kp => (t3 k k4 kp).trans (g3 k k4 kp), g4.tr t4, t5⟩
      · -- there is none
        obtain ⟨n', rfl⟩ : ∃ n', n1 = n' + 1 + (len - x) := ⟨n1 - 1 - (len - x), by omega⟩
        rw [scan lx hl _ _ _ (len - x) x (n' + 1) (by omega) (fun z z1 z2 => hnone z z1 (by omega)), show x + (len - x) = len by omega, Re_read_L9, lx.1, if_pos (nI_le_rf _), if_neg (nI_lt_of hlt (by omega))]
        obtain ⟨w, hm', g1, g2, g3⟩ := item_ref d hl lm hlt
        rw [g1, Option.bind_some]
        dsimp only
        rcases g3 with rfl | ⟨rfl, q', y1, y2, y3⟩
        · rw [if_pos rfl]
          exact ⟨_, _, _, rfl, rfl, fun _ _ _ => rfl, g2, fun z => absurd z (hne x (by omega))⟩
        · have ha : a q' ≠ 59 := by
            by_cases z : q' < len
            · exact hnone q' (by omega) z
            · rw [lm.2 q', if_neg z]; decide
          rw [if_neg (show ¬ (1 : Int32) = 0 by decide), y1, letterAt_eq (g2.LM lm) hl (by omega), Option.bind_some, if_neg ha]
          exact ⟨_, _, _, rfl, rfl, fun _ _ _ => rfl, g2, fun z => absurd z (hne x (by omega))⟩
    · have hxl : x = len := by omega
      obtain ⟨n', rfl⟩ : ∃ n', n1 = n' + 1 := ⟨n1 - 1, by omega⟩
      refine ⟨-4, h, hm, ?_, ?_, fun _ _ _ => rfl, Fr.rf, fun _ => ⟨_, _, _, _, _, d⟩⟩
      · rw [Re_read_L9, lx.1, hxl, if_pos (nI_le_rf _), if_pos (nI_le_rf _)]
      · rw [Mo_reads_L6, lm.1, hxl, if_pos (nI_le_rf _)]
termination_by D => D
theorem clears_eq (hm : zH) : ∃ hm', Mo_clears hm = some hm' ∧ Fr hm hm' ∧ (∀ j, 5 ≤ j → j < 10 → hm' 2 j = 0) ∧ hm' 6 12 = 4980 ∧ hm' 6 13 = 4 := by
  unfold Mo_clears
  refine exists_step (loop_ex (fun n x s => Mo_clears_L2 (fun h_3 => zlet (upd2 h_3 6 12 4980) fun h_4 => zlet (upd2 h_4 6 13 4) fun h_5 => some h_5) n x s) (fun h_3 => zlet (upd2 h_3 6 12 4980) fun h_4 => zlet (upd2 h_4 6 13 4) fun h_5 => some h_5) (fun i s => 5 ≤ i ∧ ∃ r, s = setc hm 2 r ∧ (∀ j, 5 ≤ j → j < i → r j = 0) ∧ ∀ j, j < 5 → r j = hm 2 j) 10 ?_ ?_ 5 5 1000 hm (by omega) (by omega) ⟨Nat.le_refl _, hm 2, setc_self.symm, fun j j1 j2 => by omega, fun _ _ => rfl⟩) ?_
  · rintro n i s hi ⟨i5, r, rfl, g1, g2⟩
    rw [Mo_clears_L2, if_neg (show ¬ (10 : Int32) ≤ nI i from nI_lt_of (e := 10) hi (by omega)), zr_nI (show i < 10 by omega) (by omega), gd_true, zlet_n, nI_clamp (by omega), nI_1, upd2_c, setc_eq, setc_setc]
    refine ⟨_, ⟨by omega, _, rfl, fun j j1 j2 => ?_, fun j hj => ?_⟩, rfl⟩
    · by_cases e : j = i
      · subst e; exact upd_eq
      · rw [upd_ne e]; exact g1 j j1 (by omega)
    · rw [upd_ne (by omega)]; exact g2 j hj
  · rintro n s ⟨_, r, rfl, g1, g2⟩
    rw [Mo_clears_L2]
    exact if_pos (nI_le_rf 10)
  · rintro ⟨s, ⟨_, r, rfl, g1, g2⟩, g3⟩
    rw [zlet_n, zlet_n] at g3
    refine ⟨_, g3, ⟨fun k _ k2 _ _ _ k6 => by rw [upd2_ne k6, upd2_ne k6, setc_ne k2], fun _ _ _ => by rw [upd2_ne (by omega), upd2_ne (by omega), setc_ne (by omega)], fun j hj => by rw [upd2_ne (by omega), upd2_ne (by omega), setc_eq]; exact g2 j hj, fun _ _ => by rw [upd2_ne (by omega), upd2_ne (by omega), setc_ne (by omega)], fun _ _ => by rw [upd2_ne (by omega), upd2_ne (by omega), setc_ne (by omega)], fun _ _ => by rw [upd2_ne (by omega), upd2_ne (by omega), setc_ne (by omega)], fun j hj => by rw [upd2_eq, upd_ne (by omega), upd2_eq, upd_ne (by omega), setc_ne (by omega)]⟩, fun j j1 j2 => by rw [upd2_ne (by omega), upd2_ne (by omega), setc_eq]; exact g1 j j1 j2, by rw [upd2_eq, upd_ne (by omega), upd2_eq, upd_eq], by rw [upd2_eq, upd_eq]⟩
theorem clearP_eq {p : Nat} (h : zH) : ∃ h', Pl_clear p h = some h' ∧ (∀ k, ¬ (p ≤ k ∧ k ≤ p + 11) → h' k = h k) ∧ (∀ j, j < 5 → h' p j = 0) ∧ h' (p + 10) 0 = 4980 ∧ h' (p + 11) 0 = 4 := by
  unfold Pl_clear
  rw [zlet_n, zlet_n, zlet_n, zlet_n, zlet_n, zlet_n, zlet_n]
  refine ⟨_, rfl, fun k k0 => by rw [upd2_ne (by omega), upd2_ne (by omega), upd2_ne (by omega), upd2_ne (by omega), upd2_ne (by omega), upd2_ne (by omega), upd2_ne (by omega)], fun j hj => ?_, by rw [upd2_ne (by omega), upd2_eq, upd_eq], by rw [upd2_eq, upd_eq]⟩
  rw [upd2_ne (by omega), upd2_ne (by omega), upd2_eq, upd2_eq, upd2_eq, upd2_eq, upd2_eq]
  match j, hj with
  | 0, _ => rfl
  | 1, _ => rfl
  | 2, _ => rfl
  | 3, _ => rfl
  | 4, _ => rfl
/-- the whole text -/
theorem read_eq {hx hm : zH} {p : Nat} (hp : 5 ≤ p) (hT : TXt hx hm) : ∃ v hx' hm', Re_read p hx = some (v, hx') ∧ Mo_reads hm = some (v, hm') ∧ (∀ k, k ≠ 4 → ¬ (p ≤ k ∧ k ≤ p + 11) → hx' k = hx k) ∧ Fr hm hm' ∧ (v = -4 → ∃ b' l' q' f' s', DX p hx' hm' b' l' q' f' s') := by
  obtain ⟨len, t1, t2, t3, t4⟩ := hT
  obtain ⟨h1, c1, c2, c3, c4, c5⟩ := clearP_eq (p := p) hx
  obtain ⟨hm1, d1, d2, d3, d4, d5⟩ := clears_eq hm
  have lm : LM (fun q => if q < len then hm 1 q else 0) len hm := ⟨t3, fun _ => rfl⟩
  have lx : LX (fun q => if q < len then hm 1 q else 0) len h1 := ⟨by rw [c2 1 (by omega)]; exact t2, fun q hq => by dsimp only; rw [c2 2 (by omega), if_pos hq]; exact (t4 q hq).1⟩
  have hD : DX p h1 hm1 0 0 0 0 0 := by
    refine ⟨⟨by omega, by omega, by omega, by omega, by omega⟩, ⟨c3 0 (by omega), c3 1 (by omega), c3 2 (by omega), c3 3 (by omega), c3 4 (by omega)⟩, ⟨d3 5 (by omega) (by omega), d3 6 (by omega) (by omega), d3 7 (by omega) (by omega), d3 8 (by omega) (by omega), d3 9 (by omega) (by omega)⟩, fun i hi => by omega, fun i hi => by omega, fun i hi => by omega, fun i hi => ?_⟩
    have : i = 0 := by omega
    subst this
    rw [c4, c5]
    exact ⟨⟨by decide, by decide⟩, d4, d5⟩
  obtain ⟨v, h2, hm2, r1, r2, r3, r4, r5⟩ := read_loop hp t1 len 0 1000 1000 h1 hm1 0 0 0 0 0 (by omega) (by omega) (by omega) (by omega) hD lx (d2.LM lm) ⟨fun _ => rfl, fun _ => rfl⟩
  refine ⟨v, h2, hm2, ?_, ?_, fun k k4 kp => (r3 k k4 kp).trans (c2 k kp), d2.tr r4, r5⟩
  · unfold Re_read
    rw [c1, Option.bind_some]
    exact r1
  · unfold Mo_reads
    rw [d1, Option.bind_some]
    exact r2
theorem PM.fr {P hm hm' : zH} (hk : okN P) (h : PM P hm) (f : Fr hm hm') : PM P hm' := by
  have n1 : nb P ≤ 6 := hk.1.2
  have n9 := nl9 hk
  have n2 : np P ≤ 6 := hk.2.2.1.2
  have n5 : ns P ≤ 5 := hk.2.2.2.2.2
  have n4 : nf P ≤ 9 := hk.2.2.2.1.2
  obtain ⟨h1, h2, h3, h4, h5⟩ := h
  obtain ⟨f1, f2, f3, f4, f5, f6, f7⟩ := f
  refine ⟨fun k hk => by rw [f3 k hk]; exact h1 k hk, fun l hl => ⟨by rw [f4 _ (by omega)]; exact (h2 l hl).1, by rw [f4 _ (by omega)]; exact (h2 l hl).2⟩, fun p hp => ⟨by rw [f5 _ (by omega)]; exact (h3 p hp).1, by rw [f5 _ (by omega)]; exact (h3 p hp).2.1, by rw [f5 _ (by omega)]; exact (h3 p hp).2.2.1, by rw [f5 _ (by omega)]; exact (h3 p hp).2.2.2⟩, fun g hg => ⟨by rw [f6 _ (by omega)]; exact (h4 g hg).1, by rw [f6 _ (by omega)]; exact (h4 g hg).2.1, by rw [f6 _ (by omega)]; exact (h4 g hg).2.2⟩, fun s hs => by rw [f7 _ (by omega)]; exact h5 s hs⟩
/-- a reading into the draft leaves all else -/
theorem Inv.fr {hx hm hx' hm' : zH} (I : Inv hx hm) (e : ∀ k, k ≠ 4 → ¬ (5 ≤ k ∧ k ≤ 5 + 11) → hx' k = hx k) (f : Fr hm hm') : Inv hx' hm' := by
  obtain ⟨P, S, L, C, hT, hL, hTx⟩ := I
  obtain ⟨c1, c2, c3, c4, c5, c6⟩ := C
  refine ⟨P, S, L, ⟨c1, c2.of' (fun k k1 k2 => e k (by omega) (by omega)), c3.fr c1.1 f, c4, c5.of (fun k k1 k2 => e k (by omega) (by omega)), by rw [f.1 7 (by omega) (by omega) (by omega) (by omega) (by omega) (by omega)]; exact c6⟩, hT, hL.of (fun k k1 k2 => e k (by omega) (by omega)) (f.1 8 (by omega) (by omega) (by omega) (by omega) (by omega) (by omega)) (f.2.1 10 (by omega) (by omega)), hTx.of (e 1 (by omega) (by omega)) (e 2 (by omega) (by omega)) (f.2.1 0 (by omega) (by omega)) (f.1 1 (by omega) (by omega) (by omega) (by omega) (by omega) (by omega))⟩
theorem do_fault {hx hm : zH} (I : Inv hx hm) : Ok2 (SS_fault hx) (Mo_fault hm) := by
  obtain ⟨P, S, L, C, hT, hL, hTx⟩ := id I
  obtain ⟨v, hx', hm', r1, r2, r3, r4, _⟩ := read_eq (p := 5) (by omega) hTx
  unfold SS_fault Mo_fault
  rw [r1, r2, Option.bind_some, Option.bind_some]
  exact ⟨v, hx', hm', rfl, rfl, I.fr r3 r4⟩
