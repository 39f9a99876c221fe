/-! LINKS opened and closed -/
theorem Cn.mono {P : zH} {c c' : Int32} (sub : ∀ l, l < nl P → bt c' l = true → bt c l = true) {a b : Nat} (h : Cn P c' a b) : Cn P c a b := fun S hS => h S (fun l hl hb => hS l hl (sub l hl hb))
theorem rt_sub {P : zH} {c c' : Int32} (sub : ∀ l, l < nl P → bt c' l = true → bt c l = true) (b : Nat) : rt P c (rt P c' b) = rt P c b := rt_iff.mpr (Cn.mono sub rt_cn).sm
theorem rt_fix {P : zH} {c c' : Int32} (sub : ∀ l, l < nl P → bt c' l = true → bt c l = true) {x : Nat} (h : rt P c x = x) : rt P c' x = x := by
  have h1 : rt P c' x ≤ x := rt_le
  have h2 : rt P c x ≤ rt P c' x := rt_min (Cn.mono sub rt_cn)
  omega
theorem rt_join {P : zH} {c c' : Int32} {l : Nat} (hl : l < nl P) (h1 : ∀ j, j ≠ l → bt c' j = bt c j) (h2 : bt c' l = true) (b : Nat) : rt P c' b = if rt P c b = max (rt P c (la P l)) (rt P c (lb P l)) then min (rt P c (la P l)) (rt P c (lb P l)) else rt P c b := by
  have sub : ∀ j, j < nl P → bt c j = true → bt c' j = true := fun j _ hj => by
    by_cases e : j = l
    · subst e; exact h2
    · rw [h1 j e]; exact hj
  have mm : ∀ x y : Nat, Cn P c' x y → Cn P c' (max x y) (min x y) := fun x y h => by
    rcases Nat.le_total x y with q | q
    · rw [Nat.max_eq_right q, Nat.min_eq_left q]; exact h.sm
    · rw [Nat.max_eq_left q, Nat.min_eq_right q]; exact h
  have hAB : Cn P c' (rt P c (la P l)) (rt P c (lb P l)) := ((Cn.mono sub rt_cn).sm.tr (Cn.lk hl h2)).tr (Cn.mono sub rt_cn)
  have hb : Cn P c' b (rt P c b) := Cn.mono sub rt_cn
  refine Nat.le_antisymm (rt_min ?_) ?_
  · by_cases e : rt P c b = max (rt P c (la P l)) (rt P c (lb P l))
    · rw [if_pos e]; exact (e ▸ hb).tr (mm _ _ hAB)
    · rw [if_neg e]; exact hb
  · have key : ∀ x, (if rt P c x = max (rt P c (la P l)) (rt P c (lb P l)) then min (rt P c (la P l)) (rt P c (lb P l)) else rt P c x) ≤ x := fun x => by
      have : rt P c x ≤ x := rt_le
      split <;> omega
    have hT := (rt_cn (P := P) (cl := c') (b := b)) (fun x => (if rt P c x = max (rt P c (la P l)) (rt P c (lb P l)) then min (rt P c (la P l)) (rt P c (lb P l)) else rt P c x) = if rt P c b = max (rt P c (la P l)) (rt P c (lb P l)) then min (rt P c (la P l)) (rt P c (lb P l)) else rt P c b) (fun j hj hbj => by
      dsimp only
      by_cases e : j = l
      · subst e
        have : (if rt P c (la P j) = max (rt P c (la P j)) (rt P c (lb P j)) then min (rt P c (la P j)) (rt P c (lb P j)) else rt P c (la P j)) = (if rt P c (lb P j) = max (rt P c (la P j)) (rt P c (lb P j)) then min (rt P c (la P j)) (rt P c (lb P j)) else rt P c (lb P j)) := by
          split <;> split <;> omega
        rw [this]
      · rw [h1 j e] at hbj
        have : rt P c (la P j) = rt P c (lb P j) := rt_iff.mpr (Cn.lk hj hbj)
        rw [this]) rfl
    rw [← hT]
    exact key _
noncomputable def sOpen (P : zH) (S : St) (c' : Int32) : St := (c', fun r => sF S (rt P (sCl S) r), fun r s => sC S (rt P (sCl S) r) s, sG S, sOn S, sOff S, sMk S, sTk S)
theorem bt_clr {c : Int32} {l : Nat} (hl : l < 32) (j : Nat) : bt (c &&& (zshl 1 (nI l) ^^^ (-1))) j = (bt c j && !(decide (j = l))) := by
  by_cases hj : j < 32
  · rw [b_and, b_xor, bt_one hl, b_m1 j hj]
    by_cases e : j = l <;> simp [e]
  · rw [b_big (by omega), b_big (x := c) (by omega)]; rfl
theorem bt_put {c : Int32} {l : Nat} (hl : l < 32) (j : Nat) : bt (c ||| zshl 1 (nI l)) j = (bt c j || decide (j = l)) := by
  rw [b_or, bt_one hl]
theorem flip_clr {c : Int32} {l : Nat} (hl : l < 32) (h : bt c l = true) : c ^^^ zshl 1 (nI l) = c &&& (zshl 1 (nI l) ^^^ (-1)) := by
  refine b_ext (fun j hj => ?_)
  rw [bt_clr hl, b_xor, bt_one hl]
  by_cases e : j = l
  · subst e; simp [h]
  · simp [e]
theorem flip_put {c : Int32} {l : Nat} (hl : l < 32) (h : bt c l = false) : c ^^^ zshl 1 (nI l) = c ||| zshl 1 (nI l) := by
  refine b_ext (fun j hj => ?_)
  rw [bt_put hl, b_xor, bt_one hl]
  by_cases e : j = l
  · subst e; simp [h]
  · simp [e]
theorem open_m {P : zH} {row : Nat → Int32} {S : St} {c' : Int32} (hk : okN P) (hS : Sok P S) (h : RepM P row S) (sub : ∀ l, l < nl P → bt c' l = true → bt (sCl S) l = true) : RepM P (upd row 43 c') (sOpen P S c') := by
  have n1 : nb P ≤ 6 := hk.1.2
  have n2 : np P ≤ 6 := hk.2.2.1.2
  have n5 : ns P ≤ 5 := hk.2.2.2.2.2
  have n4 : nf P ≤ 9 := hk.2.2.2.1.2
  have hlen := hS.2.2.2.1.len
  obtain ⟨c1, c2, c3, c4, c5, c6⟩ := h
  refine ⟨upd_eq, fun b hb => ⟨?_, fun s hs => ?_⟩, fun p hp => by rw [upd_ne (by omega)]; exact c3 p hp, ⟨by rw [upd_ne (by omega)]; exact c4.1, by rw [upd_ne (by omega)]; exact c4.2.1, fun i f hi => ?_⟩, fun s hs => by rw [upd_ne (by omega)]; exact c5 s hs, by rw [upd_ne (by omega)]; exact c6⟩
  · rw [upd_ne (by omega)]
    show row b = sF S (rt P (sCl S) (rt P c' b))
    rw [rt_sub sub]; exact (c2 b hb).1
  · rw [upd_ne (by omega)]
    show row (6 + 6 * b + s) = sC S (rt P (sCl S) (rt P c' b)) s
    rw [rt_sub sub]; exact (c2 b hb).2 s hs
  · have := (List.getElem?_eq_some_iff.mp hi).1
    show upd row 43 c' (51 + i) = _
    rw [upd_ne (by omega)]; exact c4.2.2 i f hi
theorem copyC_eq {h : zH} {g a b : Nat} (ha : a < 6) (hb : b < 6) (hab : a ≠ b) : ∃ x, Gr_copyCounts g (nI a) (nI b) h = some (setc h (g + 4) x) ∧ (∀ t, t < 6 → x (6 * b + t) = h (g + 4) (6 * a + t)) ∧ ∀ j, ¬ (6 * b ≤ j ∧ j < 6 * b + 6) → x j = h (g + 4) j := by
  unfold Gr_copyCounts
  refine exists_step (loop_ex (fun n x s => Gr_copyCounts_L2 g (nI a) (nI b) (fun h_3 => some h_3) n x s) (fun h => some h) (fun i s => ∃ x, s = setc h (g + 4) x ∧ (∀ t, t < i → x (6 * b + t) = h (g + 4) (6 * a + t)) ∧ ∀ j, ¬ (6 * b ≤ j ∧ j < 6 * b + i) → x j = h (g + 4) j) 6 ?_ ?_ 6 0 1000 h (by omega) (by omega) ⟨h (g + 4), setc_self.symm, fun t ht => by omega, fun j _ => rfl⟩) ?_
  · rintro n i s hi ⟨x, rfl, g1, g2⟩
    rw [Gr_copyCounts_L2, if_neg (show ¬ (6 : Int32) ≤ nI i from nI_lt_of (e := 6) hi (by omega)), show nI a * 6 = nI (a * 6) from pk_mul a 6, show nI b * 6 = nI (b * 6) from pk_mul b 6, nI_add, nI_add, zr_nI (show a * 6 + i < 36 by omega) (by omega), zr_nI (show b * 6 + i < 36 by omega) (by omega), gd_true, gd_true, nI_clamp (show a * 6 + i < 2 ^ 31 by omega), nI_clamp (show b * 6 + i < 2 ^ 31 by omega), zlet_n, nI_1, upd2_c, setc_eq, setc_setc, g2 (a * 6 + i) (by omega)]
    refine ⟨_, ⟨_, rfl, fun t ht => ?_, fun j hj => ?_⟩, rfl⟩
    · by_cases e : t = i
      · subst e; rw [show 6 * b + t = b * 6 + t by omega, upd_eq, show a * 6 + t = 6 * a + t by omega]
      · rw [upd_ne (by omega)]; exact g1 t (by omega)
    · rw [upd_ne (by omega)]; exact g2 j (by omega)
  · rintro n s ⟨x, rfl, g1, g2⟩
    rw [Gr_copyCounts_L2]
    exact if_pos (nI_le_rf 6)
  · rintro ⟨s, ⟨x, rfl, g1, g2⟩, g3⟩
    exact ⟨x, g3, g1, g2⟩
theorem nl9 {P : zH} (hk : okN P) : nl P ≤ 9 := hk.2.1.2
theorem rt6 {P : zH} (hk : okN P) {c : Int32} {b : Nat} (hb : b < 6) : rt P c b < 6 := Nat.lt_of_le_of_lt rt_le hb
theorem open_x {P h : zH} {g l : Nat} {S : St} (hX : PX P h) (hk : okN P) (hl : okL P) (hg : 29 ≤ g) (hR : RepX P h g S) (hll : l < nl P) : ∃ h', Gr_open g (nI l) h = some h' ∧ (∀ k, ¬ (g ≤ k ∧ k ≤ g + 7) → h' k = h k) ∧ RepX P h' g (sOpen P S (sCl S &&& (zshl 1 (nI l) ^^^ (-1)))) := by
  have n2 : nb P ≤ 6 := hk.1.2
  have n9 := nl9 hk
  have sub : ∀ j, j < nl P → bt (sCl S &&& (zshl 1 (nI l) ^^^ (-1))) j = true → bt (sCl S) j = true := fun j _ hj => by
    rw [bt_clr (by omega)] at hj
    cases e : bt (sCl S) j
    · rw [e] at hj; exact hj
    · rfl
  obtain ⟨⟨h1, h2, h3, h4, h5, h6⟩, h7⟩ := id hR
  unfold Gr_open
  rw [zlet_n, zlet_n, h1]
  generalize hc : sCl S &&& (zshl 1 (nI l) ^^^ (-1)) = c' at sub
  have hX2 : PX P (cpy2 (upd2 h g 1 c') (g + 1) (g + 2) 6) := hX.of' (fun k k1 k2 => by rw [cpy2_ne (by omega), upd2_ne (by omega)])
  have hcl : cpy2 (upd2 h g 1 c') (g + 1) (g + 2) 6 g 1 = c' := by rw [cpy2_ne (by omega), upd2_eq, upd_eq]
  obtain ⟨r, f1, f2⟩ := findRoots_eq (g := g) hX2 hk hl hg
  rw [hcl] at f2
  rw [f1, Option.bind_some]
  have H1 : ∀ b, b < 6 → setc (cpy2 (upd2 h g 1 c') (g + 1) (g + 2) 6) (g + 1) r (g + 1) b = nI (rt P c' b) := fun b hb => by rw [setc_eq]; exact f2 b hb
  have H2 : ∀ b, b < 6 → setc (cpy2 (upd2 h g 1 c') (g + 1) (g + 2) 6) (g + 1) r (g + 2) b = nI (rt P (sCl S) b) := fun b hb => by rw [setc_ne (by omega), cpy2_eq hb, upd2_ne (by omega)]; exact (h2 b hb).1
  have Hk : ∀ k, k ≠ g → k ≠ g + 1 → k ≠ g + 2 → setc (cpy2 (upd2 h g 1 c') (g + 1) (g + 2) 6) (g + 1) r k = h k := fun k k0 k1 k2 => by rw [setc_ne k1, cpy2_ne k2, upd2_ne k0]
  have Hg : setc (cpy2 (upd2 h g 1 c') (g + 1) (g + 2) 6) (g + 1) r g = upd (h g) 1 c' := by rw [setc_ne (by omega), cpy2_ne (by omega), upd2_eq]
  revert H1 H2 Hk Hg
  generalize setc (cpy2 (upd2 h g 1 c') (g + 1) (g + 2) 6) (g + 1) r = H
  intro H1 H2 Hk Hg
  have n0 : ∀ f3 f4, setc (setc H (g + 3) f3) (g + 4) f4 17 0 = nI (nb P) := fun f3 f4 => by rw [setc_ne (by omega), setc_ne (by omega), Hk 17 (by omega) (by omega) (by omega), hX.1]; exact hk.1.1
  refine exists_step (loop_ex (fun n x s => Gr_open_L35 g (fun h_7 => some h_7) n x s) (fun h => some h) (fun i s => ∃ f3 f4, s = setc (setc H (g + 3) f3) (g + 4) f4 ∧ (∀ b, b < i → rt P c' b = b → f3 b = sF S (rt P (sCl S) b) ∧ ∀ s, s < 6 → f4 (6 * b + s) = sC S (rt P (sCl S) b) s) ∧ ∀ b, i ≤ b → f3 b = h (g + 3) b ∧ ∀ s, s < 6 → f4 (6 * b + s) = h (g + 4) (6 * b + s)) (nb P) ?_ ?_ (nb P) 0 1000 H (by omega) (by omega) ⟨H (g + 3), H (g + 4), by rw [setc_comm (by omega), setc_self, setc_self], fun b hb => by omega, fun b _ => ⟨by rw [Hk _ (by omega) (by omega) (by omega)], fun s _ => by rw [Hk _ (by omega) (by omega) (by omega)]⟩⟩) ?_
  · rintro n i s hi ⟨f3, f4, rfl, g1, g2⟩
    have e1 : setc (setc H (g + 3) f3) (g + 4) f4 (g + 1) i = nI (rt P c' i) := by rw [setc_ne (by omega), setc_ne (by omega)]; exact H1 i (by omega)
    have e2 : setc (setc H (g + 3) f3) (g + 4) f4 (g + 2) i = nI (rt P (sCl S) i) := by rw [setc_ne (by omega), setc_ne (by omega)]; exact H2 i (by omega)
    have r1 : rt P c' i ≤ i := rt_le
    have r2 : rt P (sCl S) i ≤ i := rt_le
    rw [Gr_open_L35, n0, if_neg (nI_lt_of hi (by omega)), zr_nI (show i < 6 by omega) (by omega), gd_true, nI_clamp (show i < 2 ^ 31 by omega), e1, e2, nI_1]
    by_cases q1 : rt P c' i = i
    · rw [if_pos (by rw [q1]), gd_true]
      by_cases q2 : rt P (sCl S) i = i
      · rw [if_pos (by rw [q2])]
        refine ⟨_, ⟨f3, f4, rfl, fun b hb hbb => ?_, fun b hb => g2 b (by omega)⟩, rfl⟩
        by_cases e : b = i
        · subst e
          obtain ⟨a1, a2⟩ := g2 b (Nat.le_refl _)
          obtain ⟨a3, a4⟩ := h3 b hi q2 rfl
          rw [q2]
          exact ⟨a1.trans a3, fun s hs => (a2 s hs).trans (a4 s hs)⟩
        · exact g1 b (by omega) hbb
      · rw [if_neg (fun q => q2 ((nI_eq (by omega) (by omega)).mp q))]
        simp only [gd_true]
        rw [zr_nI (show rt P (sCl S) i < 6 by omega) (by omega), gd_true, nI_clamp (show rt P (sCl S) i < 2 ^ 31 by omega), zlet_n]
        have hold : rt P c' (rt P (sCl S) i) = rt P (sCl S) i := rt_fix sub rt_rt
        obtain ⟨o1, o2⟩ := g1 (rt P (sCl S) i) (by omega) hold
        rw [rt_rt] at o1 o2
        have e3 : setc (setc H (g + 3) f3) (g + 4) f4 (g + 3) = f3 := by rw [setc_ne (by omega), setc_eq]
        rw [e3, o1, upd2_ne (show g + 2 ≠ g + 3 by omega), e2]
        obtain ⟨x, x1, x2, x3⟩ := copyC_eq (h := upd2 (setc (setc H (g + 3) f3) (g + 4) f4) (g + 3) i (sF S (rt P (sCl S) i))) (g := g) (a := rt P (sCl S) i) (b := i) (by omega) (by omega) q2
        have e5 : upd2 (setc (setc H (g + 3) f3) (g + 4) f4) (g + 3) i (sF S (rt P (sCl S) i)) (g + 4) = f4 := by rw [upd2_ne (by omega), setc_eq]
        rw [e5] at x2 x3
        rw [x1, Option.bind_some]
        refine ⟨_, ⟨upd f3 i (sF S (rt P (sCl S) i)), x, ?_, fun b hb hbb => ?_, fun b hb => ⟨?_, fun s hs => ?_⟩⟩, rfl⟩
        · rw [upd2_c, e3, setc_comm (show g + 4 ≠ g + 3 by omega), setc_setc, setc_setc]
        · by_cases e : b = i
          · subst e
            exact ⟨upd_eq, fun s hs => (x2 s hs).trans (o2 s hs)⟩
          · obtain ⟨a1, a2⟩ := g1 b (by omega) hbb
            exact ⟨by rw [upd_ne e]; exact a1, fun s hs => by rw [x3 _ (by omega)]; exact a2 s hs⟩
        · rw [upd_ne (by omega)]; exact (g2 b (by omega)).1
        · rw [x3 _ (by omega)]; exact (g2 b (by omega)).2 s hs
    · rw [if_neg (fun q => q1 ((nI_eq (by omega) (by omega)).mp q))]
      refine ⟨_, ⟨f3, f4, rfl, fun b hb hbb => ?_, fun b hb => g2 b (by omega)⟩, rfl⟩
      by_cases e : b = i
      · subst e; exact absurd hbb q1
      · exact g1 b (by omega) hbb
  · rintro n s ⟨f3, f4, rfl, g1, g2⟩
    rw [Gr_open_L35, n0, if_pos (nI_le_rf _)]
  · rintro ⟨s, ⟨f3, f4, rfl, g1, g2⟩, g3⟩
    refine ⟨_, g3, fun k hk0 => by rw [setc_ne (by omega), setc_ne (by omega), Hk k (by omega) (by omega) (by omega)], ?_⟩
    have K0 : setc (setc H (g + 3) f3) (g + 4) f4 g = upd (h g) 1 c' := by rw [setc_ne (by omega), setc_ne (by omega), Hg]
    have K : ∀ k, g + 5 ≤ k → setc (setc H (g + 3) f3) (g + 4) f4 k = h k := fun k hk0 => by rw [setc_ne (by omega), setc_ne (by omega), Hk k (by omega) (by omega) (by omega)]
    refine ⟨⟨by rw [K0, upd_eq]; rfl, fun b hb => ⟨?_, rt6 hk hb⟩, fun b hb hbb _ => ⟨?_, fun s hs => ?_⟩, fun p hp hJ => by rw [K _ (by omega)]; exact h4 p hp hJ, ?_, fun s hs => by rw [K _ (by omega)]; exact h6 s hs⟩, by rw [K0, upd_ne (by omega)]; exact h7⟩
    · rw [setc_ne (by omega), setc_ne (by omega)]; exact H1 b hb
    · rw [setc_ne (by omega), setc_eq]; exact (g1 b hb hbb).1
    · rw [setc_eq]; exact (g1 b hb hbb).2 s hs
    · rw [K0, K _ (by omega), upd_ne (by omega), upd_ne (by omega)]; exact h5
