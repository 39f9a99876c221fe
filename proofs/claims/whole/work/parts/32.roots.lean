def setc (h : zH) (a : Nat) (r : Nat → Int32) : zH := fun k => if k = a then r else h k
theorem setc_eq {h : zH} {a : Nat} {r : Nat → Int32} : setc h a r a = r := by simp [setc]
theorem setc_ne {h : zH} {a k : Nat} {r : Nat → Int32} (hk : k ≠ a) : setc h a r k = h k := by simp [setc, hk]
theorem upd2_c {h : zH} {a i : Nat} {v : Int32} : upd2 h a i v = setc h a (upd (h a) i v) := rfl
theorem setc_self {h : zH} {a : Nat} : setc h a (h a) = h := by funext k; by_cases e : k = a; subst e; exact setc_eq; exact setc_ne e
theorem setc_setc {h : zH} {a : Nat} {r r' : Nat → Int32} : setc (setc h a r) a r' = setc h a r' := by
  funext k; by_cases e : k = a; subst e; rw [setc_eq, setc_eq]; rw [setc_ne e, setc_ne e, setc_ne e]
theorem setc_comm {h : zH} {a b : Nat} {r r' : Nat → Int32} (hab : a ≠ b) : setc (setc h a r) b r' = setc (setc h b r') a r := by
  funext k
  by_cases e : k = a
  · subst e; rw [setc_ne hab, setc_eq, setc_eq]
  · by_cases e' : k = b
    · subst e'; rw [setc_eq, setc_ne e, setc_eq]
    · rw [setc_ne e', setc_ne e, setc_ne e, setc_ne e']
def PX (P : zH) (h : zH) : Prop := h 17 = P 0 ∧ h 18 = P 1 ∧ h 19 = P 2 ∧ h 20 = P 3 ∧ h 21 = P 4 ∧ h 22 = P 5 ∧ h 23 = P 6 ∧ h 24 = P 7 ∧ h 25 = P 8 ∧ h 26 = P 9 ∧ h 27 = P 10 ∧ h 28 = P 11
theorem PX.setc {P h : zH} (hP : PX P h) {a : Nat} (ha : 29 ≤ a) {r : Nat → Int32} : PX P (setc h a r) := by
  unfold PX at *
  refine ⟨?_, ?_, ?_, ?_, ?_, ?_, ?_, ?_, ?_, ?_, ?_, ?_⟩ <;> (rw [setc_ne (by omega)]; simp only [hP])
theorem PX.of {P h h' : zH} (hP : PX P h) (hh : ∀ k, 17 ≤ k → k < 29 → h' k = h k) : PX P h' := by
  unfold PX at *
  refine ⟨?_, ?_, ?_, ?_, ?_, ?_, ?_, ?_, ?_, ?_, ?_, ?_⟩ <;> (rw [hh _ (by omega) (by omega)]; simp only [hP])
theorem zmin_nI {a b : Nat} (ha : a < 2 ^ 31) (hb : b < 2 ^ 31) : zmin (nI a) (nI b) = nI (min a b) := by
  unfold zmin
  by_cases h : b < a
  · rw [if_pos (nI_lt h ha), Nat.min_eq_right (by omega)]
  · rw [if_neg (nI_nlt (by omega) hb), Nat.min_eq_left (by omega)]
def lab (f : Nat → Nat) (r0 : Nat → Int32) : Nat → Int32 := fun b => if b < 6 then nI (f b) else r0 b
theorem nI_lt_of {i e : Nat} (h : i < e) (he : e < 2 ^ 31) : ¬ nI e ≤ nI i := nI_ge h he
theorem nI_le_rf (i : Nat) : nI i ≤ nI i := Int32.le_refl _
theorem rlx_le {P : zH} {cl : Int32} {l : Nat} {f : Nat → Nat} (hf : ∀ b, f b ≤ b) (b : Nat) : rlx P cl l f b ≤ b := by
  unfold rlx
  split
  · dsimp only
    have e1 := hf (la P l); have e2 := hf (lb P l); have e3 := hf b
    split
    · rename_i hc
      rcases hc with rfl | rfl <;> omega
    · exact e3
  · exact hf b
theorem findRoots_eq {P h : zH} {g : Nat} (hP : PX P h) (hk : okN P) (hl : okL P) (hg : 29 ≤ g) : ∃ r, Gr_findRoots g h = some (setc h (g + 1) r) ∧ ∀ b, b < 6 → r b = nI (rt P (h g 1) b) := by
  have n1 : P 0 0 = nI (nb P) := hk.1.1
  have n2 : nb P ≤ 6 := hk.1.2
  have n3 : P 0 1 = nI (nl P) := hk.2.1.1
  have n4 : nl P ≤ 9 := hk.2.1.2
  refine ⟨lab (itr (fun _ => rnd P (h g 1)) 0 (nb P) (fun b => b)) (h (g + 1)), ?_, fun b hb => ?_⟩
  · -- the inner rounds
    have inner : ∀ (f : Nat → Nat) (k : zH → Option zH), (∀ b, f b ≤ b) → Gr_findRoots_L36 g k 1000 0 (setc h (g + 1) (lab f (h (g + 1)))) = k (setc h (g + 1) (lab (rnd P (h g 1) f) (h (g + 1)))) := by
      intro f k hf
      have hfi : ∀ i, i ≤ nl P → ∀ b, itr (rlx P (h g 1)) 0 i f b ≤ b := by
        intro i
        induction i with
        | zero => intro _ b; exact hf b
        | succ i ih =>
          intro hi b
          have ih := ih (by omega)
          rw [itr_snoc, Nat.zero_add]
          exact rlx_le ih b
      refine loop_pin (fun n x s => Gr_findRoots_L36 g k n x s) k (fun i => setc h (g + 1) (lab (itr (rlx P (h g 1)) 0 i f) (h (g + 1)))) (nl P) (i0 := 0) (Nat.zero_le _) (by omega) ?_ ?_
      · intro n i _ hi
        try dsimp only
        have hfb := hfi i (by omega)
        rw [itr_snoc, Nat.zero_add]
        generalize itr (rlx P (h g 1)) 0 i f = f1 at hfb ⊢
        rw [Gr_findRoots_L36]
        rw [setc_ne (a := g + 1) (k := 17) (by omega), setc_ne (a := g + 1) (k := g) (by omega), setc_ne (a := g + 1) (k := 18) (by omega), setc_ne (a := g + 1) (k := 19) (by omega), hP.1, hP.2.1, hP.2.2.1, n3, if_neg (nI_lt_of hi (by omega)), has_eq _ (by omega : i < 32), Option.bind_some]
        obtain ⟨⟨l1, l2⟩, l3, l4⟩ := hl i hi
        cases hb : bt (h g 1) i
        · rw [if_pos (by rfl), nI_1]
          simp only [rlx, hb]
          rfl
        · rw [if_neg (by decide)]
          have z1 : zr (nI i) 9 = true := zr_nI (by omega) (by omega)
          have c1 : (nI i).toNatClampNeg = i := nI_clamp (by omega)
          have c2 : (nI (la P i)).toNatClampNeg = la P i := nI_clamp (by omega)
          have c3 : (nI (lb P i)).toNatClampNeg = lb P i := nI_clamp (by omega)
          have z2 : zr (nI (la P i)) 6 = true := zr_nI (by omega) (by omega)
          have z3 : zr (nI (lb P i)) 6 = true := zr_nI (by omega) (by omega)
          have e1 := hfb (la P i); have e2 := hfb (lb P i)
          simp only [zlet, z1, gd_true, c1]
          rw [l1, l3]
          simp only [c2, c3, z2, z3, gd_true, setc_eq]
          rw [show lab f1 (h (g + 1)) (la P i) = nI (f1 (la P i)) by simp [lab]; omega, show lab f1 (h (g + 1)) (lb P i) = nI (f1 (lb P i)) by simp [lab]; omega, zmin_nI (by omega) (by omega), nI_1]
          rw [upd2_c, upd2_c, setc_eq, setc_setc, setc_eq, setc_setc]
          congr 2
          funext b
          simp only [upd, lab, rlx, hb, if_true]
          by_cases hb6 : b < 6
          · by_cases h1 : b = lb P i
            · simp [h1]; omega
            · by_cases h2 : b = la P i
              · simp [h2]; omega
              · simp [h1, h2]
          · rw [if_neg (by omega), if_neg (by omega), if_neg hb6, if_neg hb6]
      · intro n
        try dsimp only
        rw [Gr_findRoots_L36, setc_ne (a := g + 1) (k := 17) (by omega), hP.1, n3, if_pos (nI_le_rf _)]
        try rfl
    -- the rounds
    have outer : ∀ (k : zH → Option zH), Gr_findRoots_L23 g k 1000 0 (setc h (g + 1) (lab (fun b => b) (h (g + 1)))) = k (setc h (g + 1) (lab (itr (fun _ => rnd P (h g 1)) 0 (nb P) (fun b => b)) (h (g + 1)))) := by
      intro k
      refine loop_pin (fun n x s => Gr_findRoots_L23 g k n x s) k (fun i => setc h (g + 1) (lab (itr (fun _ => rnd P (h g 1)) 0 i (fun b => b)) (h (g + 1)))) (nb P) (i0 := 0) (Nat.zero_le _) (by omega) ?_ ?_
      · intro n i _ hi
        try dsimp only
        rw [Gr_findRoots_L23, setc_ne (a := g + 1) (k := 17) (by omega), hP.1, n1, if_neg (nI_lt_of hi (by omega)), inner _ _ ((rnds (cl := h g 1) hl i).1.2), nI_1, itr_snoc]
      · intro n
        try dsimp only
        rw [Gr_findRoots_L23, setc_ne (a := g + 1) (k := 17) (by omega), hP.1, n1, if_pos (nI_le_rf _)]
    unfold Gr_findRoots
    have first : ∀ (k : zH → Option zH), Gr_findRoots_L2 g k 1000 0 h = k (setc h (g + 1) (lab (fun b => b) (h (g + 1)))) := by
      intro k
      have e0 : h = setc h (g + 1) (fun b => if b < 0 then nI b else h (g + 1) b) := by
        conv => lhs; rw [← setc_self (h := h) (a := g + 1)]
        congr 1
      have e6 : setc h (g + 1) (fun b => if b < 6 then nI b else h (g + 1) b) = setc h (g + 1) (lab (fun b => b) (h (g + 1))) := rfl
      refine (congrArg (fun s => Gr_findRoots_L2 g k 1000 0 s) e0).trans ?_
      rw [← e6]
      refine loop_pin (fun n x s => Gr_findRoots_L2 g k n x s) k (fun i => setc h (g + 1) (fun b => if b < i then nI b else h (g + 1) b)) 6 (i0 := 0) (Nat.zero_le _) (by omega) ?_ ?_
      · intro n i _ hi
        try dsimp only
        rw [Gr_findRoots_L2, if_neg (show ¬ (6 : Int32) ≤ nI i from nI_lt_of (e := 6) hi (by omega)), zr_nI hi (by omega), gd_true, zlet, nI_clamp (by omega), nI_1, upd2_c, setc_eq, setc_setc]
        congr 2
        funext b
        simp only [upd]
        by_cases h1 : b = i
        · simp [h1]
        · by_cases h2 : b < i
          · simp [h1, h2]; omega
          · simp [h1, h2]; omega
      · intro n
        try dsimp only
        rw [Gr_findRoots_L2]
        exact if_pos (nI_le_rf 6)
    rw [first, outer]
  · simp only [lab, hb, if_true]
    rcases Nat.lt_or_ge b (nb P) with q | q
    · rw [rnds_end hl q]
    · rw [rnds_big hl q, rt_big hl q]
