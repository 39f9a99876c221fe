/-! what is asked -/
theorem nI_m1 {n : Nat} (h : n < 2 ^ 30) : (nI n - 1).toInt = (n : Int) - 1 := by
  have : (nI n).toInt = n := nI_toInt (by omega)
  rw [is' (by rw [this]; show _ ≤ _ - (1 : Int); omega) (by rw [this]; show _ - (1 : Int) < _; omega), this]; rfl
theorem mIn_neg {v x : Int32} (h : v < 0) : Mo_isIn v 0 x = some 0 := by unfold Mo_isIn; rw [if_pos h]
theorem mIn_ge {v : Int32} {n : Nat} (hn : n < 2 ^ 30) (h : nI n ≤ v) : Mo_isIn v 0 (nI n - 1) = some 0 := by
  unfold Mo_isIn
  by_cases h0 : v < 0
  · rw [if_pos h0]
  · rw [if_neg h0, if_pos (ilt.mpr (by
      rw [nI_m1 hn]
      have := ile.mp h
      rw [nI_toInt (by omega)] at this
      omega))]
theorem mIn_ok {j n : Nat} (hn : n < 2 ^ 30) (h : j < n) : Mo_isIn (nI j) 0 (nI n - 1) = some 1 := by
  unfold Mo_isIn
  rw [if_neg (nI_pos (by omega)), if_neg (fun q => by
    have := ilt.mp q
    rw [nI_m1 hn, nI_toInt (by omega)] at this
    omega)]
theorem ask_plant {P : zH} {S : St} {hx hm : zH} (C : Core P S hx hm) (v : Int32) : ∃ a, SS_plant v hx = some a ∧ Mo_plant v hm = some a := by
  obtain ⟨⟨hk, hb1, hl, hP, hF, hSt⟩, hX, hM, hS, hR, hR2⟩ := C
  have n4 : np P ≤ 6 := hk.2.2.1.2
  have e1 : hx 17 2 = nI (np P) := by rw [hX.1]; exact hk.2.2.1.1
  have e2 : hm 2 2 = nI (np P) := by rw [hM.1 2 (by omega)]; exact hk.2.2.1.1
  unfold SS_plant Mo_plant
  rw [e1, e2]
  rcases pk_ix v (n := np P) (by omega) with h | h | ⟨j, hj, rfl⟩
  · rw [if_pos h, mIn_neg h]; exact ⟨_, rfl, rfl⟩
  · by_cases h0 : v < 0
    · rw [if_pos h0, mIn_neg h0]; exact ⟨_, rfl, rfl⟩
    · rw [if_neg h0, if_neg (Int32.not_lt.mpr h), mIn_ge (by omega) h]; exact ⟨_, rfl, rfl⟩
  · rw [if_neg (nI_pos (by omega)), if_pos (nI_lt hj (by omega)), mIn_ok (by omega) hj]
    simp (disch := omega) only [m2, m3, m4, m6, m67, a1, a2, a3, p6, p44, p51, p60, nI_add, nI_clamp, zr_nI, gd_true, zlet, Option.bind_some, mhas_eq, has_eq, nI_leI, nI_ltI, nI_eq]
    refine ⟨sG S j, ?_, ?_⟩
    · rw [hR.1.2.2.2.1 j hj rfl]
    · rw [hR2.2.2.1 j hj]; rfl
theorem ask_isOn {P : zH} {S : St} {hx hm : zH} (C : Core P S hx hm) (v : Int32) : ∃ a, SS_isOn v hx = some a ∧ Mo_isOn v hm = some a := by
  obtain ⟨⟨hk, hb1, hl, hP, hF, hSt⟩, hX, hM, hS, hR, hR2⟩ := C
  have n4 : nf P ≤ 9 := hk.2.2.2.1.2
  have e1 : hx 17 3 = nI (nf P) := by rw [hX.1]; exact hk.2.2.2.1.1
  have e2 : hm 2 3 = nI (nf P) := by rw [hM.1 3 (by omega)]; exact hk.2.2.2.1.1
  unfold SS_isOn Mo_isOn
  rw [e1, e2]
  rcases pk_ix v (n := nf P) (by omega) with h | h | ⟨j, hj, rfl⟩
  · rw [if_pos h, mIn_neg h]; exact ⟨_, rfl, rfl⟩
  · by_cases h0 : v < 0
    · rw [if_pos h0, mIn_neg h0]; exact ⟨_, rfl, rfl⟩
    · rw [if_neg h0, if_neg (Int32.not_lt.mpr h), mIn_ge (by omega) h]; exact ⟨_, rfl, rfl⟩
  · rw [if_neg (nI_pos (by omega)), if_pos (nI_lt hj (by omega)), mIn_ok (by omega) hj, has_eq _ (by omega : j < 32), bit_and1 _ (by omega : j < 32), hR.O.2.1 j, hR2.2.2.2.1.1 j]
    refine ⟨b2i (decide (j < nf P) && sOn S j), ?_, rfl⟩
    rw [Option.bind_some]
    cases (decide (j < nf P) && sOn S j) <;> rfl
theorem ask_isClosed {P : zH} {S : St} {hx hm : zH} (C : Core P S hx hm) (v : Int32) : ∃ a, SS_isClosed v hx = some a ∧ Mo_isClosed v hm = some a := by
  obtain ⟨⟨hk, hb1, hl, hP, hF, hSt⟩, hX, hM, hS, hR, hR2⟩ := C
  have n4 : nl P ≤ 9 := hk.2.1.2
  have e1 : hx 17 1 = nI (nl P) := by rw [hX.1]; exact hk.2.1.1
  have e2 : hm 2 1 = nI (nl P) := by rw [hM.1 1 (by omega)]; exact hk.2.1.1
  unfold SS_isClosed Mo_isClosed
  rw [e1, e2]
  rcases pk_ix v (n := nl P) (by omega) with h | h | ⟨j, hj, rfl⟩
  · rw [if_pos h, mIn_neg h]; exact ⟨_, rfl, rfl⟩
  · by_cases h0 : v < 0
    · rw [if_pos h0, mIn_neg h0]; exact ⟨_, rfl, rfl⟩
    · rw [if_neg h0, if_neg (Int32.not_lt.mpr h), mIn_ge (by omega) h]; exact ⟨_, rfl, rfl⟩
  · rw [if_neg (nI_pos (by omega)), if_pos (nI_lt hj (by omega)), mIn_ok (by omega) hj, has_eq _ (by omega : j < 32), bit_and1 _ (by omega : j < 32), hR.1.1, hR2.1]
    refine ⟨b2i (bt (sCl S) j), ?_, rfl⟩
    rw [Option.bind_some]
    cases bt (sCl S) j <;> rfl
theorem ask_dropped {P : zH} {S : St} {hx hm : zH} (C : Core P S hx hm) (v : Int32) : ∃ a, SS_dropped v hx = some a ∧ Mo_dropped v hm = some a := by
  obtain ⟨⟨hk, hb1, hl, hP, hF, hSt⟩, hX, hM, hS, hR, hR2⟩ := C
  have n4 : nf P ≤ 9 := hk.2.2.2.1.2
  have hlen := hR.O.1.len
  unfold SS_dropped Mo_dropped
  rw [hR.O.2.2.1, hR2.2.2.2.1.2.1]
  rcases pk_ix v (n := (sOff S).length) (by omega) with h | h | ⟨j, hj, rfl⟩
  · rw [if_neg (Int32.not_le.mpr h), if_neg (Int32.not_le.mpr h)]; exact ⟨_, rfl, rfl⟩
  · by_cases h0 : 0 ≤ v
    · rw [if_pos h0, if_pos h0, if_pos h, if_pos h]; exact ⟨_, rfl, rfl⟩
    · rw [if_neg h0, if_neg h0]; exact ⟨_, rfl, rfl⟩
  · rw [if_pos (nI_pos' (by omega)), if_pos (nI_pos' (by omega)), if_neg (nI_lt_of hj (by omega)), if_neg (nI_lt_of hj (by omega))]
    obtain ⟨m, hm1⟩ : ∃ m, (sOff S).length = m + 1 := ⟨(sOff S).length - 1, by omega⟩
    have e1 : nI (sOff S).length - 1 - nI j = nI (m - j) := by rw [hm1, nI_pred, pk_sub (by omega)]
    have e2 : 51 + nI (sOff S).length - 1 - nI j = nI (51 + (m - j)) := by
      rw [p51, hm1, show 51 + (m + 1) = (51 + m) + 1 by omega, nI_pred, pk_sub (by omega), show 51 + m - j = 51 + (m - j) by omega]
    rw [e1, e2]
    simp (disch := omega) only [m2, m3, m4, m6, m67, a1, a2, a3, p6, p44, p51, p60, nI_add, nI_clamp, zr_nI, gd_true, zlet, Option.bind_some, mhas_eq, has_eq, nI_leI, nI_ltI, nI_eq]
    have hg : (sOff S)[m - j]? = some (sOff S)[m - j] := List.getElem?_eq_getElem (by omega)
    refine ⟨nI (sOff S)[m - j], ?_, ?_⟩
    · rw [hR.O.2.2.2 _ _ hg]
    · exact congrArg some (hR2.2.2.2.1.2.2 _ _ hg)
/-- roots, and how many are below -/
noncomputable abbrev isR (P : zH) (cl : Int32) : Nat → Bool := fun b => decide (rt P cl b = b)
theorem cnt_hit {p : Nat → Bool} : ∀ {n k : Nat}, k < cnt p n → ∃ b, b < n ∧ p b = true ∧ cnt p b = k
  | 0, k, h => by simp [cnt] at h
  | n + 1, k, h => by
    simp only [cnt] at h
    rcases Nat.lt_or_ge k (cnt p n) with q | q
    · obtain ⟨b, b1, b2, b3⟩ := cnt_hit (n := n) q
      exact ⟨b, by omega, b2, b3⟩
    · cases hp : p n
      · simp [hp] at h; omega
      · simp [hp] at h; exact ⟨n, by omega, hp, by omega⟩
theorem cnt_lt {p : Nat → Bool} : ∀ {n b : Nat}, b < n → p b = true → cnt p b < cnt p n
  | 0, b, h, _ => by omega
  | n + 1, b, h, hp => by
    simp only [cnt]
    rcases Nat.lt_or_ge b n with q | q
    · have := cnt_lt (n := n) q hp; omega
    · have : b = n := by omega
      subst this; simp [hp]
theorem cnt_inj {p : Nat → Bool} {a b : Nat} (ha : p a = true) (hb : p b = true) (e : cnt p a = cnt p b) : a = b := by
  rcases Nat.lt_trichotomy a b with q | q | q
  · have := cnt_lt q ha; omega
  · exact q
  · have := cnt_lt q hb; omega
theorem roots_eq {P h : zH} {g : Nat} {S : St} (hR : RepX P h g S) {b : Nat} (hb : b < 6) : (h (g + 1) b = nI b) ↔ rt P (sCl S) b = b := by
  obtain ⟨r1, r2⟩ := hR.1.R b hb
  rw [r1]
  exact nI_eq (by omega) (by omega)
theorem islands_x {P h : zH} {g : Nat} {S : St} (hX : PX P h) (hk : okN P) (hR : RepX P h g S) : Gr_islands g h = some (nI (cnt (isR P (sCl S)) (nb P))) := by
  have n2 : nb P ≤ 6 := hk.1.2
  have n3 : h 17 0 = nI (nb P) := by rw [hX.1]; exact hk.1.1
  unfold Gr_islands
  refine loop_pin (fun n x s => Gr_islands_L4 g h (fun x => some x) n s x) (fun x => some x) (fun i => nI (cnt (isR P (sCl S)) i)) (nb P) (i0 := 0) (Nat.zero_le _) (by omega) ?_ ?_
  · intro n i _ hi
    rw [Gr_islands_L4, n3, if_neg (nI_lt_of hi (by omega)), zr_nI (by omega) (by omega), gd_true, nI_clamp (by omega)]
    simp only [roots_eq hR (show i < 6 by omega), nI_1, cnt]
    by_cases e : rt P (sCl S) i = i <;> simp [e]
  · intro n
    rw [Gr_islands_L4, n3, if_pos (nI_le_rf _)]
theorem islands_m {P hm : zH} {S : St} (hM : PM P hm) (hk : okN P) (hl : okL P) (hR : RepM P (hm 7) S) : Mo_islands hm = some (nI (cnt (isR P (sCl S)) (nb P))) := by
  have n2 : nb P ≤ 6 := hk.1.2
  have n3 : hm 2 0 = nI (nb P) := by rw [hM.1 0 (by omega)]; exact hk.1.1
  unfold Mo_islands
  refine loop_pin (fun n x s => Mo_islands_L4 hm (fun x => some x) n s x) (fun x => some x) (fun i => nI (cnt (isR P (sCl S)) i)) (nb P) (i0 := 0) (Nat.zero_le _) (by omega) ?_ ?_
  · intro n i _ hi
    rw [Mo_islands_L4, n3, if_neg (nI_lt_of hi (by omega)), isLowest_eq hM hk hl hi, hR.1]
    simp only [Option.bind_some, zlet_eq, nI_1, add0, cnt]
    by_cases e : rt P (sCl S) i = i <;> simp [e, b2i]
  · intro n
    rw [Mo_islands_L4, n3, if_pos (nI_le_rf _)]
/-- the root of the ISLAND of a number -/
noncomputable def rfind (P : zH) (cl v : Int32) (i c : Nat) : Option Nat := (List.range' i c).find? (fun b => isR P cl b && decide (nI (cnt (isR P cl) b) = v))
theorem rfind_succ (P : zH) (cl v : Int32) (i c : Nat) : rfind P cl v i (c + 1) = if (isR P cl i && decide (nI (cnt (isR P cl) i) = v)) = true then some i else rfind P cl v (i + 1) c := by
  unfold rfind
  rw [List.range'_succ, List.find?_cons]
  cases (isR P cl i && decide (nI (cnt (isR P cl) i) = v)) <;> rfl
theorem rootOf_x {P h : zH} {g : Nat} {S : St} (hX : PX P h) (hk : okN P) (hR : RepX P h g S) (v : Int32) : Gr_rootOf g v h = some (match rfind P (sCl S) v 0 (nb P) with
    | none => -1
    | some b => nI b) := by
  have n2 : nb P ≤ 6 := hk.1.2
  have n3 : h 17 0 = nI (nb P) := by rw [hX.1]; exact hk.1.1
  unfold Gr_rootOf
  have key : ∀ (c i n : Nat), i + c = nb P → c < n → Gr_rootOf_L4 g v h (fun x => some x) (some (-1)) n (nI (cnt (isR P (sCl S)) i)) (nI i) = some (match rfind P (sCl S) v i c with
    | none => -1
    | some b => nI b) := by
    intro c
    induction c with
    | zero =>
      intro i n h1 h2
      obtain ⟨n, rfl⟩ : ∃ m, n = m + 1 := ⟨n - 1, by omega⟩
      have : i = nb P := by omega
      subst this
      rw [Gr_rootOf_L4, n3, if_pos (nI_le_rf _)]
      rfl
    | succ c ih =>
      intro i n h1 h2
      obtain ⟨n, rfl⟩ : ∃ m, n = m + 1 := ⟨n - 1, by omega⟩
      have ih := ih (i + 1) n (by omega) (by omega)
      rw [Gr_rootOf_L4, n3, if_neg (nI_lt_of (by omega) (by omega)), zr_nI (by omega) (by omega), gd_true, nI_clamp (by omega), rfind_succ]
      simp only [roots_eq hR (show i < 6 by omega), nI_1]
      by_cases e : rt P (sCl S) i = i
      · by_cases e2 : nI (cnt (isR P (sCl S)) i) = v
        · rw [if_pos e, if_pos e2, if_pos (by rw [show isR P (sCl S) i = true from decide_eq_true e, decide_eq_true e2]; rfl)]
        · rw [if_pos e, if_neg e2, if_neg (by rw [decide_eq_false e2]; simp), ← ih]
          simp only [cnt, show isR P (sCl S) i = true from decide_eq_true e, if_true]
      · rw [if_neg e, if_neg (by rw [show isR P (sCl S) i = false from decide_eq_false e]; simp), ← ih]
        simp [cnt, e]
  exact key (nb P) 0 1000 (by omega) (by omega)
theorem busOf_m {P hm : zH} {S : St} (hM : PM P hm) (hk : okN P) (hl : okL P) (hR : RepM P (hm 7) S) (v : Int32) : Mo_busOf v hm = some (match rfind P (sCl S) v 0 (nb P) with
    | none => -4
    | some b => nI b) := by
  have n2 : nb P ≤ 6 := hk.1.2
  have n3 : hm 2 0 = nI (nb P) := by rw [hM.1 0 (by omega)]; exact hk.1.1
  unfold Mo_busOf
  have key : ∀ (c i n : Nat), i + c = nb P → c < n → Mo_busOf_L4 v hm (fun x => some x) (some (-4)) n (nI (cnt (isR P (sCl S)) i)) (nI i) = some (match rfind P (sCl S) v i c with
    | none => -4
    | some b => nI b) := by
    intro c
    induction c with
    | zero =>
      intro i n h1 h2
      obtain ⟨n, rfl⟩ : ∃ m, n = m + 1 := ⟨n - 1, by omega⟩
      have : i = nb P := by omega
      subst this
      rw [Mo_busOf_L4, n3, if_pos (nI_le_rf _)]
      rfl
    | succ c ih =>
      intro i n h1 h2
      obtain ⟨n, rfl⟩ : ∃ m, n = m + 1 := ⟨n - 1, by omega⟩
      have ih := ih (i + 1) n (by omega) (by omega)
      rw [Mo_busOf_L4, n3, if_neg (nI_lt_of (by omega) (by omega)), isLowest_eq hM hk hl (by omega), hR.1, Option.bind_some, rfind_succ, nI_1]
      by_cases e : rt P (sCl S) i = i
      · rw [if_neg (by simp [e, b2i])]
        by_cases e2 : nI (cnt (isR P (sCl S)) i) = v
        · rw [if_pos e2, if_pos (by rw [show isR P (sCl S) i = true from decide_eq_true e, decide_eq_true e2]; rfl)]
        · rw [if_neg e2, if_neg (by rw [decide_eq_false e2]; simp), ← ih]
          simp only [cnt, show isR P (sCl S) i = true from decide_eq_true e, if_true, nI_1]
      · rw [if_pos (by simp [e, b2i]), if_neg (by rw [show isR P (sCl S) i = false from decide_eq_false e]; simp), ← ih]
        simp [cnt, e]
  exact key (nb P) 0 1000 (by omega) (by omega)
theorem rfind_some {P : zH} {cl v : Int32} {n b : Nat} (h : rfind P cl v 0 n = some b) : b < n ∧ rt P cl b = b ∧ nI (cnt (isR P cl) b) = v := by
  have h1 := List.mem_of_find?_eq_some h
  have h2 := List.find?_some h
  simp only [Bool.and_eq_true, decide_eq_true_eq] at h2
  have h3 := (List.mem_range'_1.mp h1)
  exact ⟨by omega, h2.1, h2.2⟩
/-- the number of an ISLAND, as the reference tests it -/
theorem isl_in {P : zH} {cl v : Int32} (hk : okN P) : Mo_isIn v 0 (nI (cnt (isR P cl) (nb P)) - 1) = some (b2i (rfind P cl v 0 (nb P)).isSome) := by
  have n2 : nb P ≤ 6 := hk.1.2
  have hc := cnt_le (isR P cl) (nb P)
  rcases pk_ix v (n := cnt (isR P cl) (nb P)) (by omega) with h | h | ⟨j, hj, rfl⟩
  · rw [mIn_neg h]
    cases hf : rfind P cl v 0 (nb P) with
    | none => rfl
    | some b =>
      have := (rfind_some hf).2.2
      rw [← this] at h
      exact absurd h (nI_pos (by have := cnt_le (isR P cl) b; have := (rfind_some hf).1; omega))
  · rw [mIn_ge (by omega) h]
    cases hf : rfind P cl v 0 (nb P) with
    | none => rfl
    | some b =>
      obtain ⟨b1, b2, b3⟩ := rfind_some hf
      rw [← b3] at h
      have := cnt_lt (p := isR P cl) b1 (decide_eq_true b2)
      exact absurd h (nI_lt_of this (by omega))
  · rw [mIn_ok (by omega) hj]
    obtain ⟨b, b1, b2, b3⟩ := cnt_hit hj
    cases hf : rfind P cl (nI j) 0 (nb P) with
    | none =>
      have := List.find?_eq_none.mp hf b (List.mem_range'_1.mpr ⟨by omega, by omega⟩)
      rw [b3] at this
      simp at this
      exact absurd (of_decide_eq_true b2) this
    | some b => rfl
