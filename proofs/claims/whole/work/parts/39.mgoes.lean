theorem sumTo_bd {a : Nat → Int32} {B : Int} (hB : 0 ≤ B) : ∀ (n : Nat), (∀ i, i < n → 0 ≤ (a i).toInt ∧ (a i).toInt ≤ B) → n * B < 2147483648 → 0 ≤ (sumTo a n).toInt ∧ (sumTo a n).toInt ≤ n * B
  | 0, _, _ => by simp [sumTo]
  | n + 1, h, hb => by
    have e : ((n + 1 : Nat) : Int) * B = n * B + B := by rw [Int.natCast_add, Int.add_mul]; simp
    rw [e] at hb
    obtain ⟨i1, i2⟩ := sumTo_bd hB n (fun i hi => h i (by omega)) (by omega)
    obtain ⟨j1, j2⟩ := h n (by omega)
    have e2 : (sumTo a n + a n).toInt = (sumTo a n).toInt + (a n).toInt := ia (by omega) (by omega)
    have e3 : sumTo a (n + 1) = sumTo a n + a n := rfl
    rw [e3, e2, e]
    omega
theorem pSum_bd {P : zH} (hk : okN P) {w : Nat → Int32} {q : Nat → Bool} (hw : ∀ p, p < np P → 0 ≤ (w p).toInt ∧ (w p).toInt ≤ 99) : 0 ≤ (pSum P w q).toInt ∧ (pSum P w q).toInt ≤ 594 := by
  have n4 : np P ≤ 6 := hk.2.2.1.2
  have h := sumTo_bd (a := fun p => if q (pb P p) then w p else 0) (B := 99) (by omega) (np P) (fun i hi => by
    try dsimp only
    split
    · exact hw i hi
    · decide) (by omega)
  unfold pSum
  omega
theorem pLoad_bd {P : zH} (hk : okN P) (hF : okF P) {on q : Nat → Bool} : 0 ≤ (pLoad P on q).toInt ∧ (pLoad P on q).toInt ≤ 450 := by
  have n4 : nf P ≤ 9 := hk.2.2.2.1.2
  have h := sumTo_bd (a := fun f => if q (fb P f) && on f then P 8 f else 0) (B := 50) (by omega) (nf P) (fun i hi => by
    try dsimp only
    split
    · have := (hF i hi).2.1; exact ⟨by have := this.1; omega, this.2⟩
    · decide) (by omega)
  unfold pLoad
  omega
theorem hv_bd {P : zH} (hk : okN P) (hP : okP P) {q : Nat → Bool} : 0 ≤ (pSum P (P 6) q).toInt ∧ (pSum P (P 6) q).toInt ≤ 594 := pSum_bd hk (fun p hp => by have := (hP p hp).2.2.2; exact ⟨by have := this.1; omega, by have := this.2; omega⟩)
theorem newg_bd {g cap pace apart : Int32} (hc : 0 ≤ cap.toInt) : 0 ≤ (newg g cap pace apart).toInt ∧ (newg g cap pace apart).toInt ≤ cap.toInt := by
  unfold newg
  generalize g + (if apart ≤ pace then (if -pace ≤ apart then apart else -pace) else pace) = x
  dsimp only
  split
  · rename_i h1
    split
    · rename_i h2
      exact ⟨by simpa using ile.mp h1, ile.mp h2⟩
    · exact ⟨hc, Int.le_refl _⟩
  · exact ⟨by decide, hc⟩
theorem flw_bd {P : zH} (hP : okP P) (q : Nat → Bool) (aim : Int32) {gv : Nat → Int32} (hg : ∀ p, p < np P → 0 ≤ (gv p).toInt ∧ (gv p).toInt ≤ (P 4 p).toInt) : ∀ c, c ≤ np P → ∀ p, p < np P → 0 ≤ (itr (flw1 P q aim) 0 c gv p).toInt ∧ (itr (flw1 P q aim) 0 c gv p).toInt ≤ (P 4 p).toInt
  | 0, _, p, hp => hg p hp
  | c + 1, hc, p, hp => by
    have ih := flw_bd hP q aim hg c (by omega)
    rw [itr_snoc, Nat.zero_add]
    generalize itr (flw1 P q aim) 0 c gv = gv1 at ih
    unfold flw1
    split
    · by_cases e : p = c
      · subst e
        rw [upd_eq]
        exact newg_bd (by have := (hP p hp).2.1.1; omega)
      · rw [upd_ne e]; exact ih p hp
    · exact ih p hp
theorem dlN_nil {on sel : Nat → Bool} {n f : Nat} (h : dlN on sel n = []) (hf : f < n) : (sel f && on f) = false := by
  have h1 := List.filter_eq_nil_iff.mp h f (List.mem_range.mpr hf)
  simpa using h1
theorem sDropN_nil {S : St} {sel : Nat → Bool} {n : Nat} (h : dlN (sOn S) sel n = []) : sDropN S sel n = S := by
  show wO S _ _ = S
  have e1 : (fun f => sOn S f && !(sel f && decide (f < n))) = sOn S := by
    funext f
    by_cases hf : f < n
    · have := dlN_nil h hf
      revert this
      cases sel f <;> cases sOn S f <;> simp [hf]
    · simp [hf]
  have e2 : sOff S ++ dlN (sOn S) sel n = sOff S := by rw [h, List.append_nil]
  rw [e1, e2]
theorem upC_upC (C : Nat → Nat → Int32) (r s : Nat) (v w : Int32) : upC (upC C r s v) r s w = upC C r s w := by
  funext x y
  unfold upC
  by_cases h : x = r ∧ y = s <;> simp [h]
theorem sStage_ok {P : zH} {S : St} {r s : Nat} (hO : okO P (sOn S) (sOff S)) : okO P (sOn (sStage P r s S)) (sOff (sStage P r s S)) ∧ sCl (sStage P r s S) = sCl S ∧ sF (sStage P r s S) = sF S ∧ sG (sStage P r s S) = sG S ∧ sTk (sStage P r s S) = sTk S := by
  unfold sStage
  split
  · exact ⟨hO, rfl, rfl, rfl, rfl⟩
  · exact ⟨okO_dropN hO _ _ (Nat.le_refl _), rfl, rfl, rfl, rfl⟩
/-- one STAGE in the reference -/
theorem mstage_eq {P hm : zH} {S : St} {r s : Nat} (hM : PM P hm) (hk : okN P) (hF : okF P) (hR : RepM P (hm 7) S) (hO : okO P (sOn S) (sOff S)) (hr : r < nb P) (hrr : rt P (sCl S) r = r) (hs1 : 1 ≤ s) (hs : s ≤ ns P) (set : Int32) (hq : ∀ c, c < nb P → bt set c = inR P S r c) (k : zH → Option zH) :
    ∃ hm', MS P hm hm' (sStage P r s S) (stD P S r s) 0 ∧ ∀ n, Mo_goes_L100 (nI r) set (sF S r) k (n + 1) (nI s) hm = Mo_goes_L100 (nI r) set (sF S r) k n (nI (s + 1)) hm' := by
  have n5 : ns P ≤ 5 := hk.2.2.2.2.2
  have n2 : nb P ≤ 6 := hk.1.2
  have n4 : nf P ≤ 9 := hk.2.2.2.1.2
  have n3 : hm 2 4 = nI (ns P) := by rw [hM.1 4 (by omega)]; exact hk.2.2.2.2.1
  have hmk : hm 7 (60 + s) = sMk S s := hR.2.2.2.2.1 s hs
  have hct : hm 7 (6 + 6 * r + s) = sC S r s := by have := (hR.2.1 r hr).2 s (by omega); rw [hrr] at this; exact this
  have hn : ¬ ns P < s := by omega
  -- what is done with the new COUNT
  have key : ∃ hm', MS P hm hm' (sStage P r s S) (stD P S r s) 0 ∧ ∀ n, ((Mo_counts set (nI s) (stN S r s) hm).bind fun h_5 =>
        gd (zr ((2 * nI s) + 1) 24) (
         if (stN S r s) < (h_5 6 ((2 * nI s) + 1).toNatClampNeg) then (
          Mo_goes_L100 (nI r) set (sF S r) k n (nI s + 1) h_5)
         else (
          (Mo_dropAll set (nI s) h_5).bind fun r_3 =>
          if r_3.1 = 0 then (
           Mo_goes_L100 (nI r) set (sF S r) k n (nI s + 1) r_3.2)
          else (
           (Mo_counts set (nI s) 0 r_3.2).bind fun h_6 =>
           Mo_goes_L100 (nI r) set (sF S r) k n (nI s + 1) h_6)))) = Mo_goes_L100 (nI r) set (sF S r) k n (nI (s + 1)) hm' := by
    rw [mcounts_eq hM hk set (stN S r s) (show s < 6 by omega)]
    simp only [Option.bind_some]
    have h1 : MS P hm (setc hm 7 (rowC P (bt set) s (stN S r s) (nb P) (hm 7))) (wC S (upC (sC S) r s (stN S r s))) [] 0 := MS.s7 (hR.C hk (by omega) _ hq)
    generalize setc hm 7 (rowC P (bt set) s (stN S r s) (nb P) (hm 7)) = hm1 at h1
    have hM1 : PM P hm1 := hM.of h1.1
    have hw : hm1 6 (2 * s + 1) = P 11 s := hM1.2.2.2.2 s hs
    simp (disch := omega) only [m2, a1, nI_clamp, zr_nI, gd_true, hw]
    by_cases hlt : stN S r s < P 11 s
    · refine ⟨hm1, ?_, fun n => by rw [if_pos hlt]⟩
      have e1 : stD P S r s = [] := by unfold stD; rw [if_pos hlt]
      have e2 : sStage P r s S = wC S (upC (sC S) r s (stN S r s)) := by unfold sStage; rw [if_pos e1]
      rw [e1, e2]; exact h1
    · have e0 : stD P S r s = dl P (sOn S) (selS P S r s) := by unfold stD; rw [if_neg hlt]
      obtain ⟨hm2, d1, d2⟩ := mdropAll_eq hM1 hk hF h1.2.1 hO set (nI s) (selS P S r s) (fun f hf => by
        rw [hq _ (hF f hf).1.2]
        have : ¬ nI s < 0 := nI_pos (by omega)
        simp [selS, this])
      rw [d1]
      simp only [if_neg hlt, Option.bind_some]
      cases he : dlN (sOn S) (selS P S r s) (nf P) with
      | nil =>
        refine ⟨hm2, ?_, fun n => by simp [b2i]⟩
        have e1 : stD P S r s = [] := by rw [e0]; exact he
        have e2 : sStage P r s S = wC S (upC (sC S) r s (stN S r s)) := by unfold sStage; rw [if_pos e1]
        have h9 := h1.tr d2
        rw [show dlN (sOn (wC S (upC (sC S) r s (stN S r s)))) (selS P S r s) (nf P) = [] from he] at h9
        rw [sDropN_nil (S := wC S (upC (sC S) r s (stN S r s))) he] at h9
        rw [e1, e2]; exact h9
      | cons a l =>
        have hM2 : PM P hm2 := hM1.of d2.1
        have h3 := (d2.2.1).C (r := r) (s := s) hk (show s < 6 by omega) 0 (q := bt set) (fun c hc => hq c hc)
        refine ⟨setc hm2 7 (rowC P (bt set) s 0 (nb P) (hm2 7)), ?_, fun n => ?_⟩
        · have h9 := (h1.tr d2).tr (MS.s7 (hm := hm2) h3)
          have e1 : stD P S r s = a :: l := by rw [e0]; exact he
          have e2 : sStage P r s S = sDrop P (wC S (upC (sC S) r s 0)) (selS P S r s) := by unfold sStage; rw [if_neg (by rw [e1]; simp)]
          rw [e2, e0]
          have e3 : wC (sDropN (wC S (upC (sC S) r s (stN S r s))) (selS P S r s) (nf P)) (upC (sC (sDropN (wC S (upC (sC S) r s (stN S r s))) (selS P S r s) (nf P))) r s 0) = sDrop P (wC S (upC (sC S) r s 0)) (selS P S r s) := by
            show (_, _, upC (upC (sC S) r s (stN S r s)) r s 0, _) = _
            rw [upC_upC]
          rw [e3] at h9
          simpa using h9
        · rw [mcounts_eq hM2 hk set 0 (show s < 6 by omega), Option.bind_some]
          rw [if_neg (show ¬ b2i (!(a :: l).isEmpty) = 0 by show ¬ b2i true = 0; decide)]
  obtain ⟨hm', k1, k2⟩ := key
  refine ⟨hm', k1, fun n => ?_⟩
  rw [← k2 n, Mo_goes_L100]
  simp (disch := omega) only [m2, m3, m4, m6, m67, a1, a2, a3, p6, p44, p51, p60, nI_add, nI_clamp, zr_nI, gd_true, zlet, Option.bind_some, mhas_eq, has_eq, nI_leI, nI_ltI, nI_eq, n3, hn, if_false, hmk]
  unfold stN
  by_cases hc : sMk S s ≤ sF S r
  · rw [if_pos hc, if_pos hc]
  · rw [if_neg hc, if_neg hc]
    simp (disch := omega) only [m2, m3, m4, m6, m67, a1, a2, a3, p6, p44, p51, p60, nI_add, nI_clamp, zr_nI, gd_true, zlet, Option.bind_some, mhas_eq, has_eq, nI_leI, nI_ltI, nI_eq, hct]
