theorem isBus_x {P h : zH} (hX : PX P h) (hk : okN P) (v : Int32) : (∃ b, b < nb P ∧ v = nI b ∧ Pl_isBus 17 v h = some 1) ∨ ((v < 0 ∨ nI (nb P) ≤ v) ∧ Pl_isBus 17 v h = some 0) := by
  have n2 : nb P ≤ 6 := hk.1.2
  have n3 : h 17 0 = nI (nb P) := by rw [hX.1]; exact hk.1.1
  unfold Pl_isBus
  rw [n3]
  rcases pk_ix v (n := nb P) (by omega) with q | q | ⟨j, hj, rfl⟩
  · exact Or.inr ⟨Or.inl q, by rw [if_pos q]⟩
  · refine Or.inr ⟨Or.inr q, ?_⟩
    by_cases h0 : v < 0
    · rw [if_pos h0]
    · rw [if_neg h0, if_pos q]
  · exact Or.inl ⟨j, hj, rfl, by rw [if_neg (nI_pos (by omega)), if_neg (nI_lt_of hj (by omega))]⟩
theorem isBus_m {P hm : zH} (hM : PM P hm) (hk : okN P) (v : Int32) : (∀ b, b < nb P → v = nI b → Mo_isBus v hm = some 1) ∧ ((v < 0 ∨ nI (nb P) ≤ v) → Mo_isBus v hm = some 0) := by
  have n2 : nb P ≤ 6 := hk.1.2
  have n3 : hm 2 0 = nI (nb P) := by rw [hM.1 0 (by omega)]; exact hk.1.1
  unfold Mo_isBus
  rw [n3]
  refine ⟨fun b hb e => ?_, fun h => ?_⟩
  · rw [e, mIn_ok (by omega) hb]; rfl
  · rcases h with h | h
    · rw [mIn_neg h]; rfl
    · rw [mIn_ge (by omega) h]; rfl
theorem ask_at {P : zH} {S : St} {hx hm : zH} (C : Core P S hx hm) (v : Int32) : ∃ a, SS_at v hx = some a ∧ Mo_at v hm = some a := by
  obtain ⟨⟨hk, hb1, hl, hP, hF, hSt⟩, hX, hM, hS, hR, hR2⟩ := C
  have n2 : nb P ≤ 6 := hk.1.2
  unfold SS_at Mo_at
  rcases isBus_x hX hk v with ⟨b, hb, rfl, e⟩ | ⟨q, e⟩
  · rw [e, (isBus_m hM hk (nI b)).1 b hb rfl, Option.bind_some, Option.bind_some, if_neg (by decide), if_neg (by decide), zr_nI (by omega) (by omega), gd_true, nI_clamp (by omega), busesOf_eq hM hk hl hb, hR2.1, Option.bind_some]
    have hr := (hR.1.R b (by omega)).1
    rw [show (30 : Nat) = 29 + 1 from rfl, hr]
    have hrb : rt P (sCl S) b < nb P := Nat.lt_of_le_of_lt rt_le hb
    have ex : Gr_numberOf 29 (nI (rt P (sCl S) b)) hx = some (nI (cnt (isR P (sCl S)) (rt P (sCl S) b))) := by
      unfold Gr_numberOf
      refine loop_pin (fun n x s => Gr_numberOf_L4 29 (nI (rt P (sCl S) b)) hx (fun x => some x) n s x) (fun x => some x) (fun i => nI (cnt (isR P (sCl S)) i)) (rt P (sCl S) b) (i0 := 0) (Nat.zero_le _) (by omega) ?_ ?_
      · intro n i _ hi
        rw [Gr_numberOf_L4, if_neg (nI_lt_of hi (by omega)), zr_nI (by omega) (by omega), gd_true, nI_clamp (by omega)]
        simp only [roots_eq hR (show i < 6 by omega), nI_1, cnt]
        by_cases e : rt P (sCl S) i = i <;> simp [e]
      · intro n
        rw [Gr_numberOf_L4, if_pos (nI_le_rf _)]
    have em : Mo_at_L21 hm (bset (fun c => decide (rt P (sCl S) c = rt P (sCl S) b)) (nb P)) (fun x => some x) 1000 0 0 = some (nI (cnt (isR P (sCl S)) (rt P (sCl S) b))) := by
      refine loop_pin (fun n x s => Mo_at_L21 hm (bset (fun c => decide (rt P (sCl S) c = rt P (sCl S) b)) (nb P)) (fun x => some x) n s x) (fun x => some x) (fun i => nI (cnt (isR P (sCl S)) i)) (rt P (sCl S) b) (i0 := 0) (Nat.zero_le _) (by omega) ?_ ?_
      · intro n i _ hi
        have hne : ¬ rt P (sCl S) i = rt P (sCl S) b := fun e => by have := @rt_le P (sCl S) i; omega
        rw [Mo_at_L21, mhas_eq _ (by omega : i < 32), bt_bset _ _ (by omega), isLowest_eq hM hk hl (by omega), hR2.1]
        simp only [hne, decide_false, Bool.and_false, Option.bind_some, zlet_eq, nI_1, add0, cnt]
        rw [if_pos (by rfl)]
        by_cases e : rt P (sCl S) i = i <;> simp [e, b2i]
      · intro n
        rw [Mo_at_L21, mhas_eq _ (by omega), bt_bset _ _ (by omega), rt_rt]
        simp [hrb, b2i]
    rw [ex, em]
    exact ⟨_, rfl, rfl⟩
  · rw [e, (isBus_m hM hk v).2 q]; exact ⟨_, rfl, rfl⟩
theorem isRow_x {P h : zH} (hX : PX P h) (hk : okN P) (v : Int32) : (∃ s, s ≤ ns P ∧ v = nI s ∧ Pl_isRow 17 v h = some 1) ∨ ((v < 0 ∨ nI (ns P) < v) ∧ Pl_isRow 17 v h = some 0) := by
  have n5 : ns P ≤ 5 := hk.2.2.2.2.2
  have n3 : h 17 4 = nI (ns P) := by rw [hX.1]; exact hk.2.2.2.2.1
  unfold Pl_isRow
  rw [n3]
  rcases pk_ix v (n := ns P + 1) (by omega) with q | q | ⟨j, hj, rfl⟩
  · exact Or.inr ⟨Or.inl q, by rw [if_pos q]⟩
  · have q2 : nI (ns P) < v := Int32.lt_of_lt_of_le (nI_lt (show ns P < ns P + 1 by omega) (by omega)) q
    refine Or.inr ⟨Or.inr q2, ?_⟩
    by_cases h0 : v < 0
    · rw [if_pos h0]
    · rw [if_neg h0, if_pos q2]
  · exact Or.inl ⟨j, by omega, rfl, by rw [if_neg (nI_pos (by omega)), if_neg (nI_nlt (by omega) (by omega))]⟩
theorem isRow_m {P hm : zH} (hM : PM P hm) (hk : okN P) (v : Int32) : (∀ s, s ≤ ns P → v = nI s → Mo_isIn v 0 (hm 2 4) = some 1) ∧ ((v < 0 ∨ nI (ns P) < v) → Mo_isIn v 0 (hm 2 4) = some 0) := by
  have n5 : ns P ≤ 5 := hk.2.2.2.2.2
  have n3 : hm 2 4 = nI (ns P) := by rw [hM.1 4 (by omega)]; exact hk.2.2.2.2.1
  rw [n3]
  unfold Mo_isIn
  refine ⟨fun s hs e => ?_, fun h => ?_⟩
  · rw [e, if_neg (nI_pos (by omega)), if_neg (nI_nlt (by omega) (by omega))]
  · rcases h with h | h
    · rw [if_pos h]
    · by_cases h0 : v < 0
      · rw [if_pos h0]
      · rw [if_neg h0, if_pos h]
theorem ask_counted {P : zH} {S : St} {hx hm : zH} (C : Core P S hx hm) (v w : Int32) : ∃ a, SS_counted v w hx = some a ∧ Mo_counted v w hm = some a := by
  obtain ⟨⟨hk, hb1, hl, hP, hF, hSt⟩, hX, hM, hS, hR, hR2⟩ := C
  have n2 : nb P ≤ 6 := hk.1.2
  have n5 : ns P ≤ 5 := hk.2.2.2.2.2
  unfold SS_counted Mo_counted
  rw [rootOf_x hX hk hR, islands_m hM hk hl hR2, Option.bind_some, Option.bind_some, isl_in hk, Option.bind_some, busOf_m hM hk hl hR2]
  cases hf : rfind P (sCl S) v 0 (nb P) with
  | none =>
    dsimp only
    rw [if_pos (by decide), if_pos (by rfl)]; exact ⟨_, rfl, rfl⟩
  | some r =>
    obtain ⟨b1, b2, b3⟩ := rfind_some hf
    dsimp only
    rw [if_neg (nI_pos (by omega)), if_neg (show ¬ b2i (some r).isSome = 0 from (by decide : ¬ b2i true = 0)), Option.bind_some]
    rcases isRow_x hX hk w with ⟨s, hs, rfl, e⟩ | ⟨q, e⟩
    · rw [e, (isRow_m hM hk (nI s)).1 s hs rfl, Option.bind_some, Option.bind_some, if_neg (by decide), if_neg (by decide)]
      rw [show nI r * 6 = nI (r * 6) from pk_mul r 6]
      simp (disch := omega) only [m2, m3, m4, m6, m67, a1, a2, a3, p6, p44, p51, p60, nI_add, nI_clamp, zr_nI, gd_true, zlet, Option.bind_some, mhas_eq, has_eq, nI_leI, nI_ltI, nI_eq]
      refine ⟨sC S r s, ?_, ?_⟩
      · have := (hR.1.2.2.1 r b1 b2 rfl).2 s (by omega)
        rw [show r * 6 + s = 6 * r + s by omega]
        exact congrArg some this
      · have := (hR2.2.1 r b1).2 s (by omega)
        rw [b2] at this
        exact congrArg some this
    · rw [e, (isRow_m hM hk w).2 q]; exact ⟨_, rfl, rfl⟩
theorem bc_all : ∀ n, n < 512 → In_bitCount (nI n) = some (sumTo (fun k => b2i (bt (nI n) k)) 9) := by decide +kernel
theorem small9 {x : Int32} (h : ∀ k, 9 ≤ k → bt x k = false) : ∃ n, n < 512 ∧ x = nI n := by
  refine ⟨x.toBitVec.toNat, ?_, ?_⟩
  · apply Classical.byContradiction
    intro hn
    obtain ⟨i, hi, hb⟩ := Nat.exists_ge_and_testBit_of_ge_two_pow (n := 9) (x := x.toBitVec.toNat) (by omega)
    have h1 := h i hi
    unfold bt at h1
    rw [BitVec.getLsbD] at h1
    rw [hb] at h1
    cases h1
  · apply Int32.toBitVec_inj.mp
    show x.toBitVec = BitVec.ofNat 32 x.toBitVec.toNat
    simp
theorem bitCount_eq {x : Int32} (h : ∀ k, 9 ≤ k → bt x k = false) : In_bitCount x = some (sumTo (fun k => b2i (bt x k)) 9) := by
  obtain ⟨n, hn, rfl⟩ := small9 h
  exact bc_all n hn
theorem mbits_eq (x : Int32) : Mo_bits x = some (sumTo (fun k => b2i (bt x k)) 9) := by
  unfold Mo_bits
  refine loop_pin (fun n i s => Mo_bits_L4 x (fun x => some x) n s i) (fun x => some x) (fun i => sumTo (fun k => b2i (bt x k)) i) 9 (i0 := 0) (Nat.zero_le _) (by omega) ?_ ?_
  · intro n i _ hi
    rw [Mo_bits_L4, if_neg (show ¬ (9 : Int32) ≤ nI i from nI_lt_of (e := 9) hi (by omega)), bit_and1 _ (by omega), zlet_eq, nI_1]
    rfl
  · intro n
    rw [Mo_bits_L4]
    exact if_pos (nI_le_rf 9)
theorem feedersOf_eq {P hm : zH} (hM : PM P hm) (hk : okN P) (hF : okF P) (set : Int32) : Mo_feedersOf set hm = some (bset (fun f => bt set (fb P f)) (nf P)) := by
  have n2 : nb P ≤ 6 := hk.1.2
  have n4 : nf P ≤ 9 := hk.2.2.2.1.2
  have n3 : hm 2 3 = nI (nf P) := by rw [hM.1 3 (by omega)]; exact hk.2.2.2.1.1
  unfold Mo_feedersOf
  refine loop_pin (fun n x s => Mo_feedersOf_L4 set hm (fun x => some x) n s x) (fun x => some x) (fun i => bset (fun f => bt set (fb P f)) i) (nf P) (i0 := 0) (Nat.zero_le _) (by omega) ?_ ?_
  · intro n i _ hi
    obtain ⟨q1, q2, q3⟩ := hM.2.2.2.1 i hi
    obtain ⟨⟨f1, f2⟩, -⟩ := hF i hi
    have hn : ¬ nf P ≤ i := by omega
    rw [Mo_feedersOf_L4]
    simp (disch := omega) only [m2, m3, m4, m6, m67, a1, a2, a3, p6, p44, p51, p60, nI_add, nI_clamp, zr_nI, gd_true, zlet, Option.bind_some, mhas_eq, has_eq, nI_leI, nI_ltI, nI_eq, n3, hn, if_false, q1]
    rw [f1]
    simp (disch := omega) only [m2, m3, m4, m6, m67, a1, a2, a3, p6, p44, p51, p60, nI_add, nI_clamp, zr_nI, gd_true, zlet, Option.bind_some, mhas_eq, has_eq, nI_leI, nI_ltI, nI_eq, bset, or_zero32]
    by_cases e : bt set (fb P i) = true <;> simp [e, b2i]
  · intro n
    rw [Mo_feedersOf_L4, n3, if_pos (nI_le_rf _)]
theorem busBits_eq {P h : zH} {g r : Nat} {S : St} (hX : PX P h) (hk : okN P) (hR : RepX P h g S) (hr : r < 6) : Gr_busBits g (nI r) h = some (bset (inR P S r) (nb P)) := by
  have n2 : nb P ≤ 6 := hk.1.2
  have n3 : h 17 0 = nI (nb P) := by rw [hX.1]; exact hk.1.1
  unfold Gr_busBits
  refine loop_pin (fun n x s => Gr_busBits_L4 g (nI r) h (fun x => some x) n s x) (fun x => some x) (fun i => bset (inR P S r) i) (nb P) (i0 := 0) (Nat.zero_le _) (by omega) ?_ ?_
  · intro n i _ hi
    obtain ⟨r1, r2⟩ := hR.1.R i (by omega)
    have hn : ¬ nb P ≤ i := by omega
    rw [Gr_busBits_L4]
    simp (disch := omega) only [m2, m3, m4, m6, m67, a1, a2, a3, p6, p44, p51, p60, nI_add, nI_clamp, zr_nI, gd_true, zlet, Option.bind_some, mhas_eq, has_eq, nI_leI, nI_ltI, nI_eq, n3, hn, if_false, r1, bset]
    by_cases e : rt P (sCl S) i = r <;> simp [e]
  · intro n
    rw [Gr_busBits_L4, n3, if_pos (nI_le_rf _)]
theorem ask_island {P : zH} {S : St} {hx hm : zH} (C : Core P S hx hm) (v w : Int32) : ∃ a, SS_island v w hx = some a ∧ Mo_island v w hm = some a := by
  obtain ⟨⟨hk, hb1, hl, hP, hF, hSt⟩, hX, hM, hS, hR, hR2⟩ := C
  have n2 : nb P ≤ 6 := hk.1.2
  have n4 : nf P ≤ 9 := hk.2.2.2.1.2
  unfold SS_island Mo_island
  rw [rootOf_x hX hk hR, islands_m hM hk hl hR2, Option.bind_some, Option.bind_some, isl_in hk, Option.bind_some, busOf_m hM hk hl hR2]
  cases hf : rfind P (sCl S) v 0 (nb P) with
  | none =>
    dsimp only
    rw [if_neg (show ¬ (0 : Int32) ≤ -1 by decide), if_pos (show b2i (none : Option Nat).isSome = 0 by rfl)]; exact ⟨_, rfl, rfl⟩
  | some r =>
    obtain ⟨b1, b2, b3⟩ := rfind_some hf
    dsimp only
    rw [if_pos (show (0 : Int32) ≤ nI r from nI_pos' (by omega)), if_neg (show ¬ b2i (some r).isSome = 0 from (by decide : ¬ b2i true = 0)), Option.bind_some]
    have hF0 : hx 32 r = sF S r := (hR.1.2.2.1 r b1 b2 rfl).1
    have hFm : hm 7 r = sF S r := by have := (hR2.2.1 r b1).1; rw [b2] at this; exact this
    have hset : ∀ c, c < nb P → bt (bset (inR P S r) (nb P)) c = inR P S r c := fun c hc => bset_R hk S r hc
    have hbo : Mo_busesOf (nI r) hm = some (bset (inR P S r) (nb P)) := by
      rw [busesOf_eq hM hk hl b1, hR2.1, b2]
    have hmI : ∀ x : Int32, Mo_isIn w 0 8 = some 1 ∨ (Mo_isIn w 0 8 = some 0 ∧ ¬ w = 0 ∧ ¬ w = 1 ∧ ¬ w = 2 ∧ ¬ w = 3 ∧ ¬ w = 4 ∧ ¬ w = 5 ∧ ¬ w = 6 ∧ ¬ w = 7 ∧ ¬ w = 8) := by
      intro _
      unfold Mo_isIn
      by_cases h1 : w < 0
      · rw [if_pos h1]
        right
        refine ⟨rfl, ?_, ?_, ?_, ?_, ?_, ?_, ?_, ?_, ?_⟩ <;> (intro e; rw [e] at h1; exact absurd h1 (by decide))
      · rw [if_neg h1]
        by_cases h2 : 8 < w
        · rw [if_pos h2]
          right
          refine ⟨rfl, ?_, ?_, ?_, ?_, ?_, ?_, ?_, ?_, ?_⟩ <;> (intro e; rw [e] at h2; exact absurd h2 (by decide))
        · rw [if_neg h2]; exact Or.inl rfl
    rcases hmI 0 with h1 | ⟨h1, q0, q1, q2, q3, q4, q5, q6, q7, q8⟩
    · rw [h1, Option.bind_some, if_neg (show ¬ (1 : Int32) = 0 by decide), hbo, Option.bind_some, feedersOf_eq hM hk hF, Option.bind_some]
      have hL : Mo_load (bset (inR P S r) (nb P)) hm = some (sLoad P S r) := by
        rw [mload_eq hM hk hF]
        congr 1
        exact pLoad_congr (fun f hf => hset _ (hF f hf).1.2) (fun f hf _ => by rw [hR2.2.2.2.1.1 f]; simp [hf])
      have hPs : ∀ what w', (what = 0 ∧ (w' = fun p => hm 7 (44 + p)) ∨ what = 4 ∧ (w' = fun _ => 1) ∨ what = 1 ∧ w' = P 4 ∨ what = 3 ∧ w' = P 6) → Mo_plants (bset (inR P S r) (nb P)) what hm = some (pSum P w' (inR P S r)) := by
        intro what w' hw
        rw [mplants_eq hM hk hP _ what w' hw]
        congr 1
        exact pSum_congr (fun p hp => hset _ (hP p hp).1.2) (fun _ _ _ => rfl)
      have hcnt : ∀ on : Bool, ∃ a, ((Gr_feederBits 29 (nI r) (b2i on) hx).bind fun r_1 => (In_bitCount r_1).bind fun r_2 => some r_2) = some a ∧ ((Mo_bits (bset (fun f => bt (bset (inR P S r) (nb P)) (fb P f)) (nf P) &&& (if on then hm 7 42 else hm 7 42 ^^^ -1))).bind fun r => some r) = some a := by
        intro on
        rw [feederBits_eq hX hk hF hR.1.R (by omega), Option.bind_some, bitCount_eq (fun k hk9 => by rw [bt_bset _ _ (by omega)]; simp; omega), mbits_eq]
        refine ⟨_, rfl, ?_⟩
        rw [Option.bind_some]
        refine congrArg some (sumTo_congr (fun k hk9 => ?_))
        refine congrArg b2i ?_
        rw [bt_bset _ _ (by omega), b_and, bt_bset _ _ (by omega)]
        by_cases hkf : k < nf P
        · rw [hset _ (hF k hkf).1.2, hR.O.2.1 k]
          cases on
          · simp only [Bool.false_eq_true, if_false, b_xor, b_m1 k (by omega), hR2.2.2.2.1.1 k]
            by_cases e : rt P (sCl S) (fb P k) = r <;> cases sOn S k <;> simp [hkf, e]
          · simp only [if_true, hR2.2.2.2.1.1 k]
            by_cases e : rt P (sCl S) (fb P k) = r <;> cases sOn S k <;> simp [hkf, e]
        · simp [hkf]
      by_cases w0 : w = 0
      · rw [if_pos w0, if_pos w0, busBits_eq hX hk hR (by omega)]; exact ⟨_, rfl, rfl⟩
      rw [if_neg w0, if_neg w0]
      by_cases w1 : w = 1
      · rw [if_pos w1, if_pos w1, zr_nI (by omega) (by omega), zr_nI (by omega) (by omega), gd_true, gd_true, nI_clamp (by omega), hF0, hFm]; exact ⟨_, rfl, rfl⟩
      rw [if_neg w1, if_neg w1]
      by_cases w2 : w = 2
      · rw [if_pos w2, if_pos w2, xload hX hk hF hR.1 allJ_ok (by omega) rfl, hL]; exact ⟨_, rfl, rfl⟩
      rw [if_neg w2, if_neg w2]
      by_cases w3 : w = 3
      · rw [if_pos w3, if_pos w3, xgiven hX hk hP hR.1 allJ_ok (by omega) rfl, hPs 0 _ (Or.inl ⟨rfl, rfl⟩)]
        refine ⟨_, rfl, ?_⟩
        rw [Option.bind_some]
        congr 1
        exact pSum_congr (fun _ _ => rfl) (fun p hp _ => hR2.2.2.1 p hp)
      rw [if_neg w3, if_neg w3]
      by_cases w4 : w = 4
      · rw [if_pos w4, if_pos w4, xcap hX hk hP hR.1 (by omega), hPs 1 _ (Or.inr (Or.inr (Or.inl ⟨rfl, rfl⟩)))]; exact ⟨_, rfl, rfl⟩
      rw [if_neg w4, if_neg w4]
      by_cases w5 : w = 5
      · rw [if_pos w5, if_pos w5, xheavy hX hk hP hR.1 (by omega), hPs 3 _ (Or.inr (Or.inr (Or.inr ⟨rfl, rfl⟩)))]; exact ⟨_, rfl, rfl⟩
      rw [if_neg w5, if_neg w5]
      by_cases w6 : w = 6
      · rw [if_pos w6, if_pos w6]
        exact hcnt true
      rw [if_neg w6, if_neg w6]
      by_cases w7 : w = 7
      · rw [if_pos w7, if_pos w7]
        exact hcnt false
      rw [if_neg w7, if_neg w7]
      by_cases w8 : w = 8
      · rw [if_pos w8, isDark_eq (by omega), Option.bind_some, show (29 + 3 : Nat) = 32 from rfl, hF0, zr_nI (by omega) (by omega), gd_true, nI_clamp (by omega), hFm]
        by_cases hd : sF S r = 0
        · rw [if_neg (by simp [hd, b2i]), if_pos hd]; exact ⟨_, rfl, rfl⟩
        · rw [if_pos (by simp [hd, b2i]), if_neg hd, xaim hX hk hF hR.1 allJ_ok b1 b2 rfl]
          have eA : Mo_aim (bset (inR P S r) (nb P)) (sF S r) hm = some (sAim P S r) := by unfold Mo_aim; rw [hL, Option.bind_some]
          rw [eA]
          exact ⟨_, rfl, rfl⟩
      · exfalso
        unfold Mo_isIn at h1
        by_cases h3 : w < 0
        · rw [if_pos h3] at h1; exact absurd h1 (by decide)
        · rw [if_neg h3] at h1
          by_cases h4 : 8 < w
          · rw [if_pos h4] at h1; exact absurd h1 (by decide)
          · have a1 := mt ilt.mpr h3
            have a2 := mt ilt.mpr h4
            have z0 : (0 : Int32).toInt = 0 := rfl
            have z8 : (8 : Int32).toInt = 8 := rfl
            have : w.toInt = 0 ∨ w.toInt = 1 ∨ w.toInt = 2 ∨ w.toInt = 3 ∨ w.toInt = 4 ∨ w.toInt = 5 ∨ w.toInt = 6 ∨ w.toInt = 7 ∨ w.toInt = 8 := by omega
            rcases this with e | e | e | e | e | e | e | e | e
            · exact w0 (ieq.mpr e)
            · exact w1 (ieq.mpr e)
            · exact w2 (ieq.mpr e)
            · exact w3 (ieq.mpr e)
            · exact w4 (ieq.mpr e)
            · exact w5 (ieq.mpr e)
            · exact w6 (ieq.mpr e)
            · exact w7 (ieq.mpr e)
            · exact w8 (ieq.mpr e)
    · rw [h1, Option.bind_some, if_pos rfl, if_neg q0, if_neg q1, if_neg q2, if_neg q3, if_neg q4, if_neg q5, if_neg q6, if_neg q7, if_neg q8]
      exact ⟨_, rfl, rfl⟩
