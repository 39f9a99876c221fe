theorem m2 (i : Nat) : (2 : Int32) * nI i = nI (2 * i) := pk_mul 2 i
theorem m3 (i : Nat) : (3 : Int32) * nI i = nI (3 * i) := pk_mul 3 i
theorem m4 (i : Nat) : (4 : Int32) * nI i = nI (4 * i) := pk_mul 4 i
theorem m6 (i : Nat) : (6 : Int32) * nI i = nI (6 * i) := pk_mul 6 i
theorem m67 (i : Nat) : (67 : Int32) * nI i = nI (67 * i) := pk_mul 67 i
theorem a1 (i : Nat) : nI i + 1 = nI (i + 1) := nI_1 i
theorem a2 (i : Nat) : nI i + 2 = nI (i + 2) := nI_add i 2
theorem a3 (i : Nat) : nI i + 3 = nI (i + 3) := nI_add i 3
theorem p6 (i : Nat) : (6 : Int32) + nI i = nI (6 + i) := nI_add 6 i
theorem p44 (i : Nat) : (44 : Int32) + nI i = nI (44 + i) := nI_add 44 i
theorem p51 (i : Nat) : (51 : Int32) + nI i = nI (51 + i) := nI_add 51 i
theorem p60 (i : Nat) : (60 : Int32) + nI i = nI (60 + i) := nI_add 60 i
theorem b2i_inj (a b : Bool) : b2i a = b2i b ↔ a = b := by cases a <;> cases b <;> decide
theorem add0 (x : Int32) : x + 0 = x := Int32.add_zero x
/-- LOAD of the FEEDERS that are ON at BUSES of a kind; what PLANTS there have together -/
def pLoad (P : zH) (on q : Nat → Bool) : Int32 := sumTo (fun f => if q (fb P f) && on f then P 8 f else 0) (nf P)
def pSum (P : zH) (w : Nat → Int32) (q : Nat → Bool) : Int32 := sumTo (fun p => if q (pb P p) then w p else 0) (np P)
theorem pLoad_congr {P : zH} {on on' q q' : Nat → Bool} (hq : ∀ f, f < nf P → q (fb P f) = q' (fb P f)) (ho : ∀ f, f < nf P → q (fb P f) = true → on f = on' f) : pLoad P on q = pLoad P on' q' := sumTo_congr fun f hf => by
  rw [← hq f hf]
  cases h : q (fb P f)
  · simp
  · rw [ho f hf h]
theorem pSum_congr {P : zH} {w w' : Nat → Int32} {q q' : Nat → Bool} (hq : ∀ p, p < np P → q (pb P p) = q' (pb P p)) (hw : ∀ p, p < np P → q (pb P p) = true → w p = w' p) : pSum P w q = pSum P w' q' := sumTo_congr fun p hp => by
  rw [← hq p hp]
  cases h : q (pb P p)
  · simp
  · rw [hw p hp h]
theorem mload_eq {P hm : zH} (hM : PM P hm) (hk : okN P) (hF : okF P) (set : Int32) : Mo_load set hm = some (pLoad P (bt (hm 7 42)) (bt set)) := by
  have n2 : nb P ≤ 6 := hk.1.2
  have n3 : hm 2 3 = nI (nf P) := by rw [hM.1 3 (by omega)]; exact hk.2.2.2.1.1
  have n4 : nf P ≤ 9 := hk.2.2.2.1.2
  unfold Mo_load
  refine loop_pin (fun n x s => Mo_load_L4 set hm (fun x => some x) n s x) (fun x => some x) (fun i => sumTo (fun f => if bt set (fb P f) && bt (hm 7 42) f then P 8 f else 0) i) (nf P) (i0 := 0) (Nat.zero_le _) (by omega) ?_ ?_
  · intro n i _ hi
    obtain ⟨q1, q2, q3⟩ := hM.2.2.2.1 i hi
    obtain ⟨⟨f1, f2⟩, -⟩ := hF i hi
    have hn : ¬ nf P ≤ i := by omega
    rw [Mo_load_L4]
    simp (disch := omega) only [m2, m3, m4, m6, m67, a1, a2, a3, p6, p44, p51, p60, nI_add, nI_clamp, zr_nI, gd_true, zlet, Option.bind_some, mhas_eq, has_eq, nI_leI, nI_ltI, nI_eq, n3, hn, if_false, q1]
    rw [f1]
    simp (disch := omega) only [m2, m3, m4, m6, m67, a1, a2, a3, p6, p44, p51, p60, nI_add, nI_clamp, zr_nI, gd_true, zlet, Option.bind_some, mhas_eq, has_eq, nI_leI, nI_ltI, nI_eq, sumTo, q2, add0]
    cases bt set (fb P i) <;> cases bt (hm 7 42) i <;> simp [b2i, add0]
  · intro n
    rw [Mo_load_L4, n3, if_pos (nI_le_rf _)]
theorem mplants_eq {P hm : zH} (hM : PM P hm) (hk : okN P) (hP : okP P) (set what : Int32) (w : Nat → Int32) (hw : what = 0 ∧ (w = fun p => hm 7 (44 + p)) ∨ what = 4 ∧ (w = fun _ => 1) ∨ what = 1 ∧ w = P 4 ∨ what = 3 ∧ w = P 6) : Mo_plants set what hm = some (pSum P w (bt set)) := by
  have n2 : nb P ≤ 6 := hk.1.2
  have n3 : hm 2 2 = nI (np P) := by rw [hM.1 2 (by omega)]; exact hk.2.2.1.1
  have n4 : np P ≤ 6 := hk.2.2.1.2
  unfold Mo_plants
  refine loop_pin (fun n x s => Mo_plants_L5 set what hm (fun x => some x) n s x) (fun x => some x) (fun i => sumTo (fun p => if bt set (pb P p) then w p else 0) i) (np P) (i0 := 0) (Nat.zero_le _) (by omega) ?_ ?_
  · intro n i _ hi
    obtain ⟨q1, q2, q3, q4⟩ := hM.2.2.1 i hi
    obtain ⟨⟨f1, f2⟩, -⟩ := hP i hi
    have hn : ¬ np P ≤ i := by omega
    rw [Mo_plants_L5]
    simp (disch := omega) only [m2, m3, m4, m6, m67, a1, a2, a3, p6, p44, p51, p60, nI_add, nI_clamp, zr_nI, gd_true, zlet, Option.bind_some, mhas_eq, has_eq, nI_leI, nI_ltI, nI_eq, n3, hn, if_false, q1]
    rw [f1]
    simp (disch := omega) only [m2, m3, m4, m6, m67, a1, a2, a3, p6, p44, p51, p60, nI_add, nI_clamp, zr_nI, gd_true, zlet, Option.bind_some, mhas_eq, has_eq, nI_leI, nI_ltI, nI_eq, sumTo]
    rcases hw with ⟨e1, e2⟩ | ⟨e1, e2⟩ | ⟨e1, e2⟩ | ⟨e1, e2⟩ <;> subst e1 <;> subst e2
    · cases bt set (pb P i) <;> simp [b2i, add0]
    · cases bt set (pb P i) <;> simp [b2i, add0]
    · simp (disch := omega) only [m2, m3, m4, m6, m67, a1, a2, a3, p6, p44, p51, p60, nI_add, nI_clamp, zr_nI, gd_true, zlet, Option.bind_some, mhas_eq, has_eq, nI_leI, nI_ltI, nI_eq, q2]
      cases bt set (pb P i) <;> simp [b2i, add0]
    · simp (disch := omega) only [m2, m3, m4, m6, m67, a1, a2, a3, p6, p44, p51, p60, nI_add, nI_clamp, zr_nI, gd_true, zlet, Option.bind_some, mhas_eq, has_eq, nI_leI, nI_ltI, nI_eq, q4]
      cases bt set (pb P i) <;> simp [b2i, add0]
  · intro n
    rw [Mo_plants_L5, n3, if_pos (nI_le_rf _)]
/-- the class's side: roots as a function -/
def RX (h : zH) (g : Nat) (ρ : Nat → Nat) : Prop := ∀ b, b < 6 → h (g + 1) b = nI (ρ b) ∧ ρ b < 6
theorem feederBits_eq {P h : zH} {g r : Nat} {ρ : Nat → Nat} (hP : PX P h) (hk : okN P) (hF : okF P) (hR : RX h g ρ) (hr : r < 6) (on : Bool) : Gr_feederBits g (nI r) (b2i on) h = some (bset (fun f => (bt (h g 7) f == on) && decide (ρ (fb P f) = r)) (nf P)) := by
  have n2 : nb P ≤ 6 := hk.1.2
  have n3 : P 0 3 = nI (nf P) := hk.2.2.2.1.1
  have n4 : nf P ≤ 9 := hk.2.2.2.1.2
  unfold Gr_feederBits
  refine loop_pin (fun n x s => Gr_feederBits_L5 g (nI r) (b2i on) h (fun x => some x) n s x) (fun x => some x) (fun i => bset (fun f => (bt (h g 7) f == on) && decide (ρ (fb P f) = r)) i) (nf P) (i0 := 0) (Nat.zero_le _) (by omega) ?_ ?_
  · intro n i _ hi
    obtain ⟨⟨f1, f2⟩, -⟩ := hF i hi
    obtain ⟨r1, r2⟩ := hR (fb P i) (by omega)
    have hn : ¬ nf P ≤ i := by omega
    rw [Gr_feederBits_L5, hP.1, hP.2.2.2.2.2.2.2.1]
    simp (disch := omega) only [m2, m3, m4, m6, m67, a1, a2, a3, p6, p44, p51, p60, nI_add, nI_clamp, zr_nI, gd_true, zlet, Option.bind_some, mhas_eq, has_eq, nI_leI, nI_ltI, nI_eq, n3, hn, if_false]
    rw [f1]
    simp (disch := omega) only [m2, m3, m4, m6, m67, a1, a2, a3, p6, p44, p51, p60, nI_add, nI_clamp, zr_nI, gd_true, zlet, Option.bind_some, mhas_eq, has_eq, nI_leI, nI_ltI, nI_eq, r1, bset]
    simp only [b2i_inj]
    by_cases e : ρ (fb P i) = r <;> by_cases e2 : bt (h g 7) i = on <;> simp [e, e2]
  · intro n
    rw [Gr_feederBits_L5, hP.1, n3, if_pos (nI_le_rf _)]
theorem loadOfSet_eq {P h : zH} (hP : PX P h) (hk : okN P) (set : Int32) : Pl_loadOfSet 17 set h = some (sumTo (fun f => if bt set f then P 8 f else 0) (nf P)) := by
  have n3 : P 0 3 = nI (nf P) := hk.2.2.2.1.1
  have n4 : nf P ≤ 9 := hk.2.2.2.1.2
  unfold Pl_loadOfSet
  refine loop_pin (fun n x s => Pl_loadOfSet_L4 17 set h (fun x => some x) n s x) (fun x => some x) (fun i => sumTo (fun f => if bt set f then P 8 f else 0) i) (nf P) (i0 := 0) (Nat.zero_le _) (by omega) ?_ ?_
  · intro n i _ hi
    have hn : ¬ nf P ≤ i := by omega
    rw [Pl_loadOfSet_L4, hP.1, hP.2.2.2.2.2.2.2.2.1]
    simp (disch := omega) only [m2, m3, m4, m6, m67, a1, a2, a3, p6, p44, p51, p60, nI_add, nI_clamp, zr_nI, gd_true, zlet, Option.bind_some, mhas_eq, has_eq, nI_leI, nI_ltI, nI_eq, n3, hn, if_false, sumTo]
    cases bt set i <;> simp [b2i, add0]
  · intro n
    rw [Pl_loadOfSet_L4, hP.1, n3, if_pos (nI_le_rf _)]
theorem loadOf_eq {P h : zH} {g r : Nat} {ρ : Nat → Nat} (hP : PX P h) (hk : okN P) (hF : okF P) (hR : RX h g ρ) (hr : r < 6) : Gr_loadOf g (nI r) h = some (pLoad P (bt (h g 7)) (fun c => decide (ρ c = r))) := by
  have n2 : nb P ≤ 6 := hk.1.2
  have n3 : P 0 3 = nI (nf P) := hk.2.2.2.1.1
  have n4 : nf P ≤ 9 := hk.2.2.2.1.2
  unfold Gr_loadOf
  refine loop_pin (fun n x s => Gr_loadOf_L4 g (nI r) h (fun x => some x) n s x) (fun x => some x) (fun i => sumTo (fun f => if decide (ρ (fb P f) = r) && bt (h g 7) f then P 8 f else 0) i) (nf P) (i0 := 0) (Nat.zero_le _) (by omega) ?_ ?_
  · intro n i _ hi
    obtain ⟨⟨f1, f2⟩, -⟩ := hF i hi
    obtain ⟨r1, r2⟩ := hR (fb P i) (by omega)
    have hn : ¬ nf P ≤ i := by omega
    rw [Gr_loadOf_L4, hP.1, hP.2.2.2.2.2.2.2.1, hP.2.2.2.2.2.2.2.2.1]
    simp (disch := omega) only [m2, m3, m4, m6, m67, a1, a2, a3, p6, p44, p51, p60, nI_add, nI_clamp, zr_nI, gd_true, zlet, Option.bind_some, mhas_eq, has_eq, nI_leI, nI_ltI, nI_eq, n3, hn, if_false]
    rw [f1]
    simp (disch := omega) only [m2, m3, m4, m6, m67, a1, a2, a3, p6, p44, p51, p60, nI_add, nI_clamp, zr_nI, gd_true, zlet, Option.bind_some, mhas_eq, has_eq, nI_leI, nI_ltI, nI_eq, r1, sumTo]
    by_cases e : ρ (fb P i) = r <;> cases bt (h g 7) i <;> simp [e, b2i, add0]
  · intro n
    rw [Gr_loadOf_L4, hP.1, n3, if_pos (nI_le_rf _)]
theorem sumOfPlants_eq {P h : zH} {g a r : Nat} {ρ : Nat → Nat} (hP : PX P h) (hk : okN P) (hp : okP P) (hR : RX h g ρ) (hr : r < 6) : Gr_sumOfPlants g a (nI r) h = some (pSum P (h a) (fun c => decide (ρ c = r))) := by
  have n2 : nb P ≤ 6 := hk.1.2
  have n3 : P 0 2 = nI (np P) := hk.2.2.1.1
  have n4 : np P ≤ 6 := hk.2.2.1.2
  unfold Gr_sumOfPlants
  refine loop_pin (fun n x s => Gr_sumOfPlants_L5 g a (nI r) h (fun x => some x) n s x) (fun x => some x) (fun i => sumTo (fun p => if decide (ρ (pb P p) = r) then h a p else 0) i) (np P) (i0 := 0) (Nat.zero_le _) (by omega) ?_ ?_
  · intro n i _ hi
    obtain ⟨⟨f1, f2⟩, -⟩ := hp i hi
    obtain ⟨r1, r2⟩ := hR (pb P i) (by omega)
    have hn : ¬ np P ≤ i := by omega
    rw [Gr_sumOfPlants_L5, hP.1, hP.2.2.2.1]
    simp (disch := omega) only [m2, m3, m4, m6, m67, a1, a2, a3, p6, p44, p51, p60, nI_add, nI_clamp, zr_nI, gd_true, zlet, Option.bind_some, mhas_eq, has_eq, nI_leI, nI_ltI, nI_eq, n3, hn, if_false]
    rw [f1]
    simp (disch := omega) only [m2, m3, m4, m6, m67, a1, a2, a3, p6, p44, p51, p60, nI_add, nI_clamp, zr_nI, gd_true, zlet, Option.bind_some, mhas_eq, has_eq, nI_leI, nI_ltI, nI_eq, r1, sumTo]
    by_cases e : ρ (pb P i) = r <;> simp [e, add0]
  · intro n
    rw [Gr_sumOfPlants_L5, hP.1, n3, if_pos (nI_le_rf _)]
theorem givenOf_eq {P h : zH} {g r : Nat} {ρ : Nat → Nat} (hP : PX P h) (hk : okN P) (hp : okP P) (hR : RX h g ρ) (hr : r < 6) : Gr_givenOf g (nI r) h = some (pSum P (h (g + 5)) (fun c => decide (ρ c = r))) := by
  unfold Gr_givenOf; rw [sumOfPlants_eq hP hk hp hR hr]; rfl
theorem capOf_eq {P h : zH} {g r : Nat} {ρ : Nat → Nat} (hP : PX P h) (hk : okN P) (hp : okP P) (hR : RX h g ρ) (hr : r < 6) : Gr_capOf g (nI r) h = some (pSum P (P 4) (fun c => decide (ρ c = r))) := by
  unfold Gr_capOf; rw [sumOfPlants_eq hP hk hp hR hr, hP.2.2.2.2.1]; rfl
theorem heavyOf_eq {P h : zH} {g r : Nat} {ρ : Nat → Nat} (hP : PX P h) (hk : okN P) (hp : okP P) (hR : RX h g ρ) (hr : r < 6) : Gr_heavyOf g (nI r) h = some (pSum P (P 6) (fun c => decide (ρ c = r))) := by
  unfold Gr_heavyOf; rw [sumOfPlants_eq hP hk hp hR hr, hP.2.2.2.2.2.2.1]; rfl
