/-! what is done: class and reference answer alike, and stay in one state -/
def TXt (hx hm : zH) : Prop := ∃ len, len ≤ 200 ∧ hx 1 1 = nI len ∧ hm 0 0 = nI len ∧ ∀ i, i < len → hx 2 i = hm 1 i ∧ isIn (hm 1 i) 32 126
theorem TXt.of {hx hm hx' hm' : zH} (h : TXt hx hm) (e1 : hx' 1 = hx 1) (e2 : hx' 2 = hx 2) (e3 : hm' 0 0 = hm 0 0) (e4 : hm' 1 = hm 1) : TXt hx' hm' := by
  unfold TXt; rw [e1, e2, e3, e4]; exact h
def Inv (hx hm : zH) : Prop := ∃ (P : zH) (S : St) (L : List St), Core P S hx hm ∧ isIn (sTk S) 0 9999 ∧ HS P hx hm L ∧ TXt hx hm
def Ok2 (a b : Option (Int32 × zH)) : Prop := ∃ r hx hm, a = some (r, hx) ∧ b = some (r, hm) ∧ Inv hx hm
theorem PX.of' {P h h' : zH} (hP : PX P h) (hh : ∀ k, 17 ≤ k → k ≤ 28 → h' k = h k) : PX P h' := hP.of (fun k k1 k2 => hh k k1 (by omega))
theorem PM.of' {P hm hm' : zH} (h : PM P hm) (hh : ∀ k, 2 ≤ k → k ≤ 6 → hm' k = hm k) : PM P hm' := by
  unfold PM at *
  rw [hh 2 (by omega) (by omega), hh 3 (by omega) (by omega), hh 4 (by omega) (by omega), hh 5 (by omega) (by omega), hh 6 (by omega) (by omega)]
  exact h
/-- only cells that nobody looks at have changed -/
theorem Core.of {P : zH} {S : St} {hx hm hx' hm' : zH} (C : Core P S hx hm) (e1 : ∀ k, 17 ≤ k → k ≤ 36 → hx' k = hx k) (e2 : ∀ k, 2 ≤ k → k ≤ 7 → hm' k = hm k) : Core P S hx' hm' := by
  obtain ⟨c1, c2, c3, c4, c5, c6⟩ := C
  exact ⟨c1, c2.of' (fun k k1 k2 => e1 k k1 (by omega)), c3.of' (fun k k1 k2 => e2 k k1 (by omega)), c4, c5.of (fun k k1 k2 => e1 k (by omega) (by omega)), by rw [e2 7 (by omega) (by omega)]; exact c6⟩
theorem do_write {hx hm : zH} (I : Inv hx hm) (v : Int32) : Ok2 (SS_write v hx) (Mo_write v hm) := by
  obtain ⟨P, S, L, C, hT, hL, len, t1, t2, t3, t4⟩ := id I
  unfold SS_write Mo_write
  by_cases h1 : v < 32
  · rw [if_pos h1, if_pos h1]; exact ⟨_, _, _, rfl, rfl, I⟩
  rw [if_neg h1, if_neg h1]
  by_cases h2 : v ≤ 126
  · rw [if_pos h2, if_pos h2]
    unfold Le_add
    rw [t2, t3]
    by_cases h3 : len = 200
    · subst h3
      rw [if_neg (show ¬ nI 200 < 200 by decide), if_pos (show nI 200 = 200 by rfl)]
      exact ⟨_, _, _, rfl, rfl, I⟩
    · have hlt : len < 200 := by omega
      rw [if_pos (show nI len < 200 from nI_lt (b := 200) hlt (by omega)), if_neg (show ¬ nI len = 200 from fun q => h3 ((nI_eq (b := 200) (by omega) (by omega)).mp q))]
      simp (disch := omega) only [zr_nI, gd_true, nI_clamp, zlet_eq, Option.bind_some]
      have u1 : upd2 hx 2 len v 1 1 = nI len := by rw [upd2_ne (by omega)]; exact t2
      have u2 : upd2 hm 1 len v 0 0 = nI len := by rw [upd2_ne (by omega)]; exact t3
      rw [u1, u2, nI_1, if_neg (show ¬ (1 : Int32) = 0 by decide)]
      refine ⟨nI (len + 1), _, _, by rw [upd2_eq, upd_eq], by rw [upd2_eq, upd_eq], P, S, L, C.of (fun k k1 k2 => by rw [upd2_ne (by omega), upd2_ne (by omega)]) (fun k k1 k2 => by rw [upd2_ne (by omega), upd2_ne (by omega)]), hT, hL.of (fun k k1 k2 => by rw [upd2_ne (by omega), upd2_ne (by omega)]) (by rw [upd2_ne (by omega), upd2_ne (by omega)]) (by rw [upd2_eq, upd_ne (by omega), upd2_ne (by omega)]), len + 1, by omega, by rw [upd2_eq, upd_eq], by rw [upd2_eq, upd_eq], fun i hi => ?_⟩
      rw [upd2_ne (show (2 : Nat) ≠ 1 by omega), upd2_eq, upd2_ne (show (1 : Nat) ≠ 0 by omega), upd2_eq]
      by_cases e : i = len
      · subst e
        rw [upd_eq, upd_eq]
        refine ⟨rfl, ?_, ?_⟩
        · have := ile.mp (Int32.not_lt.mp h1); simpa using this
        · have := ile.mp h2; simpa using this
      · rw [upd_ne e, upd_ne e]; exact t4 i (by omega)
  · rw [if_neg h2, if_neg h2]; exact ⟨_, _, _, rfl, rfl, I⟩
theorem do_wipe {hx hm : zH} (I : Inv hx hm) : Ok2 (SS_wipe hx) (Mo_wipe hm) := by
  obtain ⟨P, S, L, C, hT, hL, len, t1, t2, t3, t4⟩ := id I
  unfold SS_wipe Mo_wipe Le_clear
  simp only [zlet_eq, Option.bind_some]
  rw [t2, t3]
  exact ⟨_, _, _, rfl, rfl, P, S, L, C.of (fun k k1 k2 => by rw [upd2_ne (by omega)]) (fun k k1 k2 => by rw [upd2_ne (by omega)]), hT, hL.of (fun k k1 k2 => by rw [upd2_ne (by omega)]) (by rw [upd2_ne (by omega)]) (by rw [upd2_eq, upd_ne (by omega)]), 0, by omega, by rw [upd2_eq, upd_eq]; rfl, by rw [upd2_eq, upd_eq]; rfl, fun i hi => by omega⟩
theorem nodup_cnt : ∀ (n : Nat) (l : List Nat), l.Nodup → (∀ x ∈ l, x < n) → l.length = cnt (fun x => decide (x ∈ l)) n
  | 0, l, _, h => by
    cases l with
    | nil => rfl
    | cons a l => exact absurd (h a List.mem_cons_self) (by omega)
  | n + 1, l, hd, h => by
    simp only [cnt]
    have cg : ∀ (m : Nat) (p q : Nat → Bool), (∀ i, i < m → p i = q i) → cnt p m = cnt q m := by
      intro m p q
      induction m with
      | zero => intro _; rfl
      | succ m ih => intro hpq; simp only [cnt]; rw [ih (fun i hi => hpq i (by omega)), hpq m (by omega)]
    by_cases hn : n ∈ l
    · have h1 := nodup_cnt n (l.erase n) (hd.erase n) (fun x hx => by
        have h2 := (hd.mem_erase_iff).mp hx
        have := h x h2.2
        omega)
      rw [List.length_erase_of_mem hn] at h1
      have h2 : cnt (fun x => decide (x ∈ l.erase n)) n = cnt (fun x => decide (x ∈ l)) n := cg n _ _ (fun i hi => by
        have : i ≠ n := by omega
        simp [hd.mem_erase_iff, this])
      have : 0 < l.length := List.length_pos_of_mem hn
      simp [hn]; omega
    · have h1 := nodup_cnt n l hd (fun x hx => by
        have h2 := h x hx
        have : x ≠ n := fun e => hn (e ▸ hx)
        omega)
      simp [hn]; exact h1
theorem cnt_not (p : Nat → Bool) : ∀ n, cnt p n + cnt (fun x => !(p x)) n = n
  | 0 => rfl
  | n + 1 => by have := cnt_not p n; simp only [cnt]; by_cases e : p n = true <;> simp [e] <;> omega
theorem sum_cnt (p : Nat → Bool) : ∀ n, sumTo (fun k => b2i (p k)) n = nI (cnt p n)
  | 0 => rfl
  | n + 1 => by
    show sumTo (fun k => b2i (p k)) n + b2i (p n) = nI (cnt p n + (if p n then 1 else 0))
    rw [sum_cnt p n]
    cases p n
    · simp [b2i, Int32.add_zero]
    · simp [b2i, nI_1]
theorem on_cnt {P : zH} (hk : okN P) {on : Nat → Bool} {off : List Nat} (h : okO P on off) {bits : Int32} (hb : ∀ f, bt bits f = (decide (f < nf P) && on f)) : sumTo (fun k => b2i (bt bits k)) 9 = nI (nf P) - nI off.length := by
  have n4 : nf P ≤ 9 := hk.2.2.2.1.2
  have h1 := h.len
  rw [sum_cnt, pk_sub h1]
  congr 1
  have h2 := nodup_cnt (nf P) off h.1 h.2.1
  have h3 := cnt_not (fun f => decide (f ∈ off)) (nf P)
  have h4 : ∀ m, m ≤ nf P → cnt (bt bits) m = cnt (fun x => !(decide (x ∈ off))) m := by
    intro m
    induction m with
    | zero => intro _; rfl
    | succ m ih =>
      intro hm
      simp only [cnt]
      rw [ih (by omega), hb m]
      have := h.2.2 m (by omega)
      by_cases e : m ∈ off
      · simp [e, this.mp e]
      · have : on m = true := by cases hq : on m; exact absurd (this.mpr hq) e; rfl
        simp [e, this]; omega
  have h5 : ∀ d, cnt (bt bits) (nf P + d) = cnt (bt bits) (nf P) := by
    intro d
    induction d with
    | zero => rfl
    | succ d ih =>
      show cnt (bt bits) (nf P + d) + (if bt bits (nf P + d) then 1 else 0) = _
      rw [ih, hb (nf P + d)]
      have : ¬ nf P + d < nf P := by omega
      simp [this]
  have h6 := h5 (9 - nf P)
  rw [show nf P + (9 - nf P) = 9 by omega] at h6
  have := h4 (nf P) (Nat.le_refl _)
  omega
theorem do_count {hx hm : zH} (I : Inv hx hm) (v : Int32) : ∃ a, SS_count v hx = some a ∧ Mo_count v hm = some a := by
  obtain ⟨P, S, L, C, hT, hL, len, t1, t2, t3, t4⟩ := I
  obtain ⟨⟨hk, hb1, hl, hP, hF, hSt⟩, hX, hM, hS, hR, hR2⟩ := C
  have n2 : nb P ≤ 6 := hk.1.2
  have n4 : nf P ≤ 9 := hk.2.2.2.1.2
  have n3 : hm 2 0 = nI (nb P) := by rw [hM.1 0 (by omega)]; exact hk.1.1
  have nx3 : hx 17 0 = nI (nb P) := by rw [hX.1]; exact hk.1.1
  have hdm : ∀ k : Int32 → Option Int32, Mo_count_L4 hm k 1000 0 0 = k (nI (cnt (fun b => isR P (sCl S) b && decide (sF S b = 0)) (nb P))) := by
    intro k
    refine loop_pin (fun n x s => Mo_count_L4 hm k n s x) k (fun i => nI (cnt (fun b => isR P (sCl S) b && decide (sF S b = 0)) i)) (nb P) (i0 := 0) (Nat.zero_le _) (by omega) ?_ ?_
    · intro n i _ hi
      rw [Mo_count_L4, n3, if_neg (nI_lt_of hi (by omega)), isLowest_eq hM hk hl hi, hR2.1, Option.bind_some, zr_nI (by omega) (by omega), gd_true, nI_clamp (by omega)]
      simp only [zlet_eq, nI_1, add0, cnt]
      by_cases e : rt P (sCl S) i = i
      · have hrow : hm 7 i = sF S i := by have := (hR2.2.1 i hi).1; rw [e] at this; exact this
        rw [hrow]
        by_cases e2 : sF S i = 0 <;> simp [e, e2, b2i]
      · simp [e, b2i]
    · intro n
      rw [Mo_count_L4, n3, if_pos (nI_le_rf _)]
  have hdx : Gr_darkIslands 29 hx = some (nI (cnt (fun b => isR P (sCl S) b && decide (sF S b = 0)) (nb P))) := by
    unfold Gr_darkIslands
    refine loop_pin (fun n x s => Gr_darkIslands_L4 29 hx (fun x => some x) n s x) (fun x => some x) (fun i => nI (cnt (fun b => isR P (sCl S) b && decide (sF S b = 0)) i)) (nb P) (i0 := 0) (Nat.zero_le _) (by omega) ?_ ?_
    · intro n i _ hi
      rw [Gr_darkIslands_L4, nx3, if_neg (nI_lt_of hi (by omega)), zr_nI (by omega) (by omega), gd_true, nI_clamp (by omega), isDark_eq (by omega), Option.bind_some]
      simp only [roots_eq hR (show i < 6 by omega), nI_1, cnt]
      by_cases e : rt P (sCl S) i = i
      · rw [(hR.1.2.2.1 i hi e rfl).1]
        by_cases e2 : sF S i = 0 <;> simp [e, e2, b2i]
      · simp [e]
    · intro n
      rw [Gr_darkIslands_L4, nx3, if_pos (nI_le_rf _)]
  unfold SS_count Mo_count
  rw [hdm]
  by_cases w0 : v = 0
  · rw [if_pos w0, if_pos w0, nx3, n3]; exact ⟨_, rfl, rfl⟩
  rw [if_neg w0, if_neg w0]
  by_cases w1 : v = 1
  · rw [if_pos w1, if_pos w1, hX.1, hM.1 1 (by omega)]; exact ⟨_, rfl, rfl⟩
  rw [if_neg w1, if_neg w1]
  by_cases w2 : v = 2
  · rw [if_pos w2, if_pos w2, hX.1, hM.1 2 (by omega)]; exact ⟨_, rfl, rfl⟩
  rw [if_neg w2, if_neg w2]
  by_cases w3 : v = 3
  · rw [if_pos w3, if_pos w3, hX.1, hM.1 3 (by omega)]; exact ⟨_, rfl, rfl⟩
  rw [if_neg w3, if_neg w3]
  by_cases w4 : v = 4
  · rw [if_pos w4, if_pos w4, hX.1, hM.1 4 (by omega)]; exact ⟨_, rfl, rfl⟩
  rw [if_neg w4, if_neg w4]
  by_cases w5 : v = 5
  · rw [if_pos w5, if_pos w5, islands_x hX hk hR, islands_m hM hk hl hR2]; exact ⟨_, rfl, rfl⟩
  rw [if_neg w5, if_neg w5]
  by_cases w6 : v = 6
  · rw [if_pos w6, if_pos w6, hdx]; exact ⟨_, rfl, rfl⟩
  rw [if_neg w6, if_neg w6]
  by_cases w7 : v = 7
  · rw [if_pos w7, if_pos w7, hR.2, hR2.2.2.2.2.2]; exact ⟨_, rfl, rfl⟩
  rw [if_neg w7, if_neg w7]
  by_cases w8 : v = 8
  · rw [if_pos w8, if_pos w8, mbits_eq, on_cnt hk hS.2.2.2.1 hR2.2.2.2.1.1, hX.1, hR.O.2.2.1, hk.2.2.2.1.1]; exact ⟨_, rfl, rfl⟩
  rw [if_neg w8, if_neg w8]
  by_cases w9 : v = 9
  · rw [if_pos w9, if_pos w9]
    unfold Gr_loadOfAll
    rw [loadOfSet_eq hX hk, mload_eq hM hk hF]
    refine ⟨_, rfl, ?_⟩
    rw [Option.bind_some]
    refine congrArg some (sumTo_congr (fun f hf => ?_))
    have h63 : ∀ c, c < 6 → bt 63 c = true := by decide
    rw [h63 _ (by have := (hF f hf).1.2; omega), hR.O.2.1 f, hR2.2.2.2.1.1 f]
    simp
  rw [if_neg w9, if_neg w9]
  by_cases w10 : v = 10
  · rw [if_pos w10, if_pos w10, hL.2.2.1, hL.2.1]; exact ⟨_, rfl, rfl⟩
  rw [if_neg w10, if_neg w10]
  by_cases w11 : v = 11
  · rw [if_pos w11, if_pos w11, t2, t3]; exact ⟨_, rfl, rfl⟩
  rw [if_neg w11, if_neg w11]
  exact ⟨_, rfl, rfl⟩
