abbrev wM (S : St) (x : Nat → Int32) : St := (sCl S, sF S, sC S, sG S, sOn S, sOff S, x, sTk S)
theorem isFrom_isIn (a b c : Int32) : Pl_isFrom a b c = Mo_isIn a b c := rfl
theorem isIn_01 (a b c : Int32) : Mo_isIn a b c = some 0 ∨ Mo_isIn a b c = some 1 := by
  unfold Mo_isIn
  by_cases h1 : a < b
  · rw [if_pos h1]; exact Or.inl rfl
  · rw [if_neg h1]
    by_cases h2 : c < a
    · rw [if_pos h2]; exact Or.inl rfl
    · rw [if_neg h2]; exact Or.inr rfl
theorem isMark_eq (s m : Int32) : Pl_isMark s m = Mo_isIn m (if s = 0 then 4900 else 4700) (if s = 0 then 5000 else 4999) := by
  unfold Pl_isMark
  by_cases h : s = 0
  · rw [if_pos h, if_pos h, if_pos h, isFrom_isIn]
    rcases isIn_01 m 4900 5000 with e | e <;> rw [e] <;> rfl
  · rw [if_neg h, if_neg h, if_neg h, isFrom_isIn]
    rcases isIn_01 m 4700 4999 with e | e <;> rw [e] <;> rfl
/-- behind what is kept, the state is as it was -/
theorem kept {hx hm : zH} {P : zH} {S : St} {L : List St} (C : Core P S hx hm) (hT : isIn (sTk S) 0 9999) (hL : HS P hx hm L) (hTx : TXt hx hm) : ∃ hx' hm', Pa_keep 29 hx = some hx' ∧ Mo_keeps hm = some hm' ∧ Core P S hx' hm' ∧ HS P hx' hm' (kpL L S) ∧ TXt hx' hm' := by
  obtain ⟨hx', hm', a1, a2, a3, a4, a5, a6⟩ := keep_eq C.1.1 C.2.2.2.1 hT C.2.2.2.2.1 C.2.2.2.2.2 hL
  exact ⟨hx', hm', a1, a2, C.of (fun k k1 k2 => a3 k (by omega)) (fun k k1 k2 => a4 k (by omega) (by omega)), a6, hTx.of (a3 1 (by omega)) (a3 2 (by omega)) (a5 0 (by omega)) (a4 1 (by omega) (by omega))⟩
theorem do_mark {hx hm : zH} (I : Inv hx hm) (v w : Int32) : Ok2 (SS_mark v w hx) (Mo_mark v w hm) := by
  obtain ⟨P, S, L, C, hT, hL, hTx⟩ := id I
  obtain ⟨⟨hk, hb1, hl, hP, hF, hSt⟩, hX, hM, hS, hR, hR2⟩ := id C
  have n5 : ns P ≤ 5 := hk.2.2.2.2.2
  unfold SS_mark Mo_mark
  rcases isRow_x hX hk v with ⟨s, hs, rfl, e⟩ | ⟨q, e⟩
  · rw [e, (isRow_m hM hk (nI s)).1 s hs rfl, Option.bind_some, Option.bind_some, if_neg (show ¬ (1 : Int32) = 0 by decide), if_neg (show ¬ (1 : Int32) = 0 by decide), isMark_eq]
    have main : ∀ lo hi, Ok2 ((Mo_isIn w lo hi).bind fun r_1 => if r_1 = 0 then some (-1, hx) else gd (zr (nI s) 6) (zlet (hx 36 (nI s).toNatClampNeg) fun x3 => if x3 = w then some (-2, hx) else (Pa_keep 29 hx).bind fun h_1 => gd (zr (nI s) 6) (zlet (upd2 h_1 36 (nI s).toNatClampNeg w) fun h_2 => some (x3, h_2)))) ((Mo_isIn w lo hi).bind fun r_1 => if r_1 = 0 then some (-1, hm) else gd (zr (60 + nI s) 67) (zlet (hm 7 (60 + nI s).toNatClampNeg) fun x3 => if x3 = w then some (-2, hm) else (Mo_keeps hm).bind fun h_1 => gd (zr (60 + nI s) 67) (zlet (upd2 h_1 7 (60 + nI s).toNatClampNeg w) fun h_2 => some (x3, h_2)))) := by
      intro lo hi
      rcases isIn_01 w lo hi with e1 | e1
      · rw [e1]; exact ⟨_, _, _, rfl, rfl, I⟩
      · rw [e1]
        simp (disch := omega) only [Option.bind_some, p60, zr_nI, gd_true, nI_clamp, zlet_eq]
        rw [if_neg (show ¬ (1 : Int32) = 0 by decide), if_neg (show ¬ (1 : Int32) = 0 by decide)]
        have m1 : hx 36 s = sMk S s := hR.1.2.2.2.2.2 s hs
        have m2 : hm 7 (60 + s) = sMk S s := hR2.2.2.2.2.1 s hs
        rw [m1, m2]
        by_cases e2 : sMk S s = w
        · rw [if_pos e2, if_pos e2]; exact ⟨_, _, _, rfl, rfl, I⟩
        · rw [if_neg e2, if_neg e2]
          obtain ⟨hx', hm', a1, a2, C', hL', hTx'⟩ := kept C hT hL hTx
          rw [a1, a2, Option.bind_some, Option.bind_some]
          obtain ⟨c1, c2, c3, c4, c5, c6⟩ := C'
          refine ⟨_, _, _, rfl, rfl, P, wM S (fun x => if x = s then w else sMk S x), kpL L S, ⟨c1, c2.of' (fun k k1 k2 => by rw [upd2_ne (by omega)]), c3.of' (fun k k1 k2 => by rw [upd2_ne (by omega)]), c4, ⟨?_, ?_⟩, ?_⟩, hT, hL'.of (fun k k1 k2 => by rw [upd2_ne (by omega)]) (by rw [upd2_ne (by omega)]) (by rw [upd2_ne (by omega)]), hTx'.of (by rw [upd2_ne (by omega)]) (by rw [upd2_ne (by omega)]) (by rw [upd2_ne (by omega)]) (by rw [upd2_ne (by omega)])⟩
          · obtain ⟨⟨h1, h2, h3, h4, h5, h6⟩, h7⟩ := c5
            refine ⟨by rw [upd2_ne (by omega)]; exact h1, h2.of (by rw [upd2_ne (by omega)]), by rw [upd2_ne (show (29 + 3 : Nat) ≠ 36 by omega), upd2_ne (show (29 + 4 : Nat) ≠ 36 by omega)]; exact h3, by rw [upd2_ne (show (29 + 5 : Nat) ≠ 36 by omega)]; exact h4, by rw [upd2_ne (show (29 : Nat) ≠ 36 by omega), upd2_ne (show (29 + 6 : Nat) ≠ 36 by omega)]; exact h5, fun t ht => ?_⟩
            show upd2 hx' 36 s w 36 t = if t = s then w else sMk S t
            rw [upd2_eq]
            by_cases et : t = s
            · rw [if_pos et, et, upd_eq]
            · rw [if_neg et, upd_ne et]; exact h6 t ht
          · rw [upd2_ne (by omega)]; exact c5.2
          · rw [upd2_eq]
            have hlen := c4.2.2.2.1.len
            have n1 : nb P ≤ 6 := hk.1.2
            have n2 : np P ≤ 6 := hk.2.2.1.2
            have n4 : nf P ≤ 9 := hk.2.2.2.1.2
            obtain ⟨h1, h2, h3, h4, h5, h6⟩ := c6
            refine ⟨by rw [upd_ne (by omega)]; exact h1, fun b hb => ⟨by rw [upd_ne (by omega)]; exact (h2 b hb).1, fun t ht => by rw [upd_ne (by omega)]; exact (h2 b hb).2 t ht⟩, fun p hp => by rw [upd_ne (by omega)]; exact h3 p hp, ⟨by rw [upd_ne (by omega)]; exact h4.1, by rw [upd_ne (by omega)]; exact h4.2.1, fun i f hi => ?_⟩, fun t ht => ?_, by rw [upd_ne (by omega)]; exact h6⟩
            · have hlt : i < (sOff S).length := (List.getElem?_eq_some_iff.mp hi).1
              show upd (hm' 7) (60 + s) w (51 + i) = _
              rw [upd_ne (by omega)]; exact h4.2.2 i f hi
            · show _ = if t = s then w else sMk S t
              by_cases et : t = s
              · rw [if_pos et, et, upd_eq]
              · rw [if_neg et, upd_ne (by omega)]; exact h5 t ht
    by_cases h0 : nI s = 0
    · rw [if_pos h0, if_pos h0, if_pos h0, zlet_n (α := Int32 → Option (Int32 × zH)), if_pos h0]
      exact main 4900 5000
    · rw [if_neg h0, if_neg h0, if_neg h0, zlet_n (α := Int32 → Option (Int32 × zH)), if_neg h0]
      exact main 4700 4999
  · rw [e, (isRow_m hM hk v).2 q]; exact ⟨_, _, _, rfl, rfl, I⟩
theorem sumTo_one {a : Nat → Int32} : ∀ (n : Nat), n ≤ 9 → (∀ i, i < n → 0 ≤ (a i).toInt ∧ (a i).toInt ≤ 99) → (∃ i, i < n ∧ 1 ≤ (a i).toInt) → ¬ sumTo a n = 0
  | 0, _, _, ⟨i, hi, _⟩ => by omega
  | n + 1, hn, h, ⟨i, hi, h1⟩ => by
    have hb := sumTo_bd (a := a) (B := 99) (by omega) n (fun j hj => h j (by omega)) (by omega)
    have hc := h n (by omega)
    have e : (sumTo a n + a n).toInt = (sumTo a n).toInt + (a n).toInt := ia (by omega) (by omega)
    intro q
    have q2 : (sumTo a n + a n).toInt = 0 := by rw [show sumTo a n + a n = 0 from q]; rfl
    rcases Nat.lt_or_ge i n with l | l
    · exact sumTo_one n (by omega) (fun j hj => h j (by omega)) ⟨i, l, h1⟩ (ieq.mpr (by show _ = (0 : Int); omega))
    · have : i = n := by omega
      subst this
      omega
theorem sumTo_z {a : Nat → Int32} : ∀ (n : Nat), (∀ i, i < n → a i = 0) → sumTo a n = 0
  | 0, _ => rfl
  | n + 1, h => by show sumTo a n + a n = 0; rw [sumTo_z n (fun i hi => h i (by omega)), h n (by omega)]; rfl
theorem hv_zero {P : zH} (hk : okN P) (hP : okP P) (q : Nat → Bool) : pSum P (P 6) q = 0 ↔ pSum P (fun _ => 1) q = 0 := by
  have n4 : np P ≤ 6 := hk.2.2.1.2
  by_cases h : ∃ p, p < np P ∧ q (pb P p) = true
  · obtain ⟨p, hp, hq⟩ := h
    have e1 : ¬ pSum P (P 6) q = 0 := sumTo_one (np P) (by omega) (fun i hi => by
      try dsimp only
      split
      · have := (hP i hi).2.2.2; exact ⟨by have := this.1; omega, by have := this.2; omega⟩
      · decide) ⟨p, hp, by show 1 ≤ (if q (pb P p) then P 6 p else 0 : Int32).toInt; rw [hq]; exact (hP p hp).2.2.2.1⟩
    have e2 : ¬ pSum P (fun _ => 1) q = 0 := sumTo_one (np P) (by omega) (fun i hi => by
      try dsimp only
      split
      · decide
      · decide) ⟨p, hp, by show 1 ≤ (if q (pb P p) then 1 else 0 : Int32).toInt; rw [hq]; decide⟩
    exact ⟨fun z => absurd z e1, fun z => absurd z e2⟩
  · have hz : ∀ p, p < np P → q (pb P p) = false := fun p hp => by
      cases e : q (pb P p)
      · rfl
      · exact absurd ⟨p, hp, e⟩ h
    have e1 : pSum P (P 6) q = 0 := sumTo_z (np P) (fun i hi => by simp [hz i hi])
    have e2 : pSum P (fun _ => 1) q = 0 := sumTo_z (np P) (fun i hi => by simp [hz i hi])
    exact ⟨fun _ => e2, fun _ => e1⟩
/-- COUNTS of an ISLAND become 0 -/
noncomputable def clr (r n : Nat) (C : Nat → Nat → Int32) : Nat → Nat → Int32 := itr (fun s C => upC C r s 0) 0 n C
theorem clear_x {P h : zH} {J : Nat → Bool} {g r : Nat} {S : St} (hR : RepJ P J h g S) (hr : r < 6) : ∃ x, Gr_clearCounts g (nI r) h = some (setc h (g + 4) x) ∧ RepJ P J (setc h (g + 4) x) g (wC S (clr r 6 (sC S))) := by
  unfold Gr_clearCounts
  refine exists_step (loop_ex (fun n x s => Gr_clearCounts_L2 g (nI r) (fun h_3 => some h_3) n x s) (fun h => some h) (fun i s => ∃ x, s = setc h (g + 4) x ∧ RepJ P J s g (wC S (clr r i (sC S)))) 6 ?_ ?_ 6 0 1000 h (by omega) (by omega) ⟨h (g + 4), setc_self.symm, hR⟩) ?_
  · rintro n i s hi ⟨x, rfl, g1⟩
    rw [Gr_clearCounts_L2, if_neg (show ¬ (6 : Int32) ≤ nI i from nI_lt_of (e := 6) hi (by omega)), show nI r * 6 = nI (r * 6) from pk_mul r 6, nI_add, zr_nI (by omega) (by omega), gd_true, zlet_eq, nI_clamp (by omega), nI_1, upd2_c, setc_eq, setc_setc]
    refine ⟨_, ⟨_, rfl, ?_⟩, rfl⟩
    have := g1.C (r := r) (s := i) hi 0
    rw [setc_eq, setc_setc] at this
    have e : clr r (i + 1) (sC S) = upC (clr r i (sC S)) r i 0 := by unfold clr; rw [itr_snoc, Nat.zero_add]
    rw [e, show r * 6 + i = 6 * r + i by omega]
    exact this
  · rintro n s ⟨x, rfl, g1⟩
    rw [Gr_clearCounts_L2]
    exact if_pos (nI_le_rf 6)
  · rintro ⟨s, ⟨x, rfl, g1⟩, g2⟩
    exact ⟨x, g2, g1⟩
theorem do_begin {hx hm : zH} (I : Inv hx hm) (v : Int32) : Ok2 (SS_begin v hx) (Mo_begin v hm) := by
  obtain ⟨P, S, L, C, hT, hL, hTx⟩ := id I
  obtain ⟨⟨hk, hb1, hl, hP, hF, hSt⟩, hX, hM, hS, hR, hR2⟩ := id C
  have n2 : nb P ≤ 6 := hk.1.2
  unfold SS_begin Mo_begin
  rcases isBus_x hX hk v with ⟨b, hb, rfl, e⟩ | ⟨q, e⟩
  · rw [e, (isBus_m hM hk (nI b)).1 b hb rfl, Option.bind_some, Option.bind_some, if_neg (show ¬ (1 : Int32) = 0 by decide), if_neg (show ¬ (1 : Int32) = 0 by decide)]
    simp (disch := omega) only [zr_nI, gd_true, nI_clamp]
    rw [zlet_n, show hx 30 b = nI (rt P (sCl S) b) from (hR.1.R b (by omega)).1]
    have hrb : rt P (sCl S) b < nb P := Nat.lt_of_le_of_lt rt_le hb
    have hrr : rt P (sCl S) (rt P (sCl S) b) = rt P (sCl S) b := rt_rt
    have hrow : hm 7 b = sF S (rt P (sCl S) b) := (hR2.2.1 b hb).1
    have hbo : Mo_busesOf (nI b) hm = some (bset (inR P S (rt P (sCl S) b)) (nb P)) := by rw [busesOf_eq hM hk hl hb, hR2.1]
    rw [hbo, Option.bind_some, hrow]
    generalize rt P (sCl S) b = r at hrb hrr
    have hset : ∀ c, c < nb P → bt (bset (inR P S r) (nb P)) c = inR P S r c := fun c hc => bset_R hk S r hc
    rw [isDark_eq (by omega), Option.bind_some, (hR.1.2.2.1 r hrb hrr rfl).1]
    by_cases hd : sF S r = 0
    · rw [if_neg (by simp [hd, b2i]), if_neg (show ¬ (0 : Int32) < sF S r by rw [hd]; decide), xheavy hX hk hP hR.1 (by omega), Option.bind_some, mplants_eq hM hk hP _ 4 (fun _ => 1) (Or.inr (Or.inl ⟨rfl, rfl⟩)), Option.bind_some, show pSum P (fun _ => 1) (bt (bset (inR P S r) (nb P))) = pSum P (fun _ => 1) (inR P S r) from pSum_congr (fun p hp => hset _ (hP p hp).1.2) (fun _ _ _ => rfl)]
      by_cases hz : sHv P S r = 0
      · rw [if_pos hz, if_pos ((hv_zero hk hP _).mp hz)]; exact ⟨_, _, _, rfl, rfl, I⟩
      · rw [if_neg hz, if_neg (fun q => hz ((hv_zero hk hP _).mpr q))]
        obtain ⟨hx', hm', a1, a2, C', hL', hTx'⟩ := kept C hT hL hTx
        obtain ⟨c1, c2, c3, c4, c5, c6⟩ := C'
        rw [a1, a2, Option.bind_some, Option.bind_some, zr_nI (by omega) (by omega), gd_true, zlet_eq, nI_clamp (by omega), mfreq_eq c3 hk, Option.bind_some, show (32 : Nat) = 29 + 3 from rfl, upd2_c]
        have r1 := c5.1.F (r := r) 5000
        have r2 := c6.F (r := r) hk 5000 hset
        obtain ⟨x, x1, x2⟩ := clear_x r1 (show r < 6 by omega)
        have hX2 : PX P (setc (setc hx' (29 + 3) (upd (hx' (29 + 3)) r 5000)) (29 + 4) x) := (c2.setc (by omega)).setc (by omega)
        rw [x1, Option.bind_some, xheavy hX2 hk hP x2 (by omega), Option.bind_some]
        refine exists_step (loop_ex (fun n x s => Mo_begin_L51 (bset (inR P S r) (nb P)) (fun h_5 => (Mo_plants (bset (inR P S r) (nb P)) 3 h_5).bind fun r_3 => some (r_3, h_5)) n x s) (fun h_5 => (Mo_plants (bset (inR P S r) (nb P)) 3 h_5).bind fun r_3 => some (r_3, h_5)) (fun i s => ∃ row, s = setc hm' 7 row ∧ RepM P row (wC (wF S (upF (sF S) r 5000)) (clr r i (sC S)))) 6 ?_ ?_ 6 0 1000 (setc hm' 7 (fun i => if i < nb P ∧ bt (bset (inR P S r) (nb P)) i = true then 5000 else hm' 7 i)) (by omega) (by omega) ⟨_, rfl, r2⟩) ?_
        · rintro n i s hi ⟨row, rfl, g1⟩
          have hMs : PM P (setc hm' 7 row) := c3.of Mfr.s7
          rw [Mo_begin_L51, if_neg (show ¬ (6 : Int32) ≤ nI i from nI_lt_of (e := 6) hi (by omega)), mcounts_eq hMs hk _ 0 hi, Option.bind_some, nI_1, setc_eq, setc_setc]
          refine ⟨_, ⟨_, rfl, ?_⟩, rfl⟩
          have e : clr r (i + 1) (sC S) = upC (clr r i (sC S)) r i 0 := by unfold clr; rw [itr_snoc, Nat.zero_add]
          rw [e]
          exact g1.C (r := r) hk hi 0 hset
        · rintro n s ⟨row, rfl, g1⟩
          rw [Mo_begin_L51]
          exact if_pos (nI_le_rf 6)
        · rintro ⟨s, ⟨row, rfl, g1⟩, g2⟩
          have hMs : PM P (setc hm' 7 row) := c3.of Mfr.s7
          have em : Mo_plants (bset (inR P S r) (nb P)) 3 (setc hm' 7 row) = some (sHv P S r) := by
            rw [mplants_eq hMs hk hP _ 3 (P 6) (Or.inr (Or.inr (Or.inr ⟨rfl, rfl⟩)))]
            exact congrArg some (pSum_congr (fun p hp => hset _ (hP p hp).1.2) (fun _ _ _ => rfl))
          rw [em, Option.bind_some] at g2
          refine ⟨_, _, _, rfl, g2, P, wC (wF S (upF (sF S) r 5000)) (clr r 6 (sC S)), kpL L S, ⟨c1, hX2, hMs, ⟨c4.1, upF_ok c4.2.1 (Or.inr ⟨by decide, by decide⟩), c4.2.2.1, c4.2.2.2.1, trivial⟩, ⟨x2, by rw [setc_ne (by omega), setc_ne (by omega)]; exact c5.2⟩, by rw [setc_eq]; exact g1⟩, hT, hL'.of (fun k k1 k2 => by rw [setc_ne (by omega), setc_ne (by omega)]) (by rw [setc_ne (by omega)]) (by rw [setc_ne (by omega)]), hTx'.of (by rw [setc_ne (by omega), setc_ne (by omega)]) (by rw [setc_ne (by omega), setc_ne (by omega)]) (by rw [setc_ne (by omega)]) (by rw [setc_ne (by omega)])⟩
    · rw [if_pos (by simp [hd, b2i]), if_pos (show (0 : Int32) < sF S r from Int32.not_le.mp (fun z => hd ((F_pos hS hrb).mp z)))]
      exact ⟨_, _, _, rfl, rfl, I⟩
  · rw [e, (isBus_m hM hk v).2 q]; exact ⟨_, _, _, rfl, rfl, I⟩
