noncomputable def jF (P : zH) (S : St) (A B : Nat) : Int32 := if sF S A = 0 then sF S B else if sF S B = 0 then sF S A else if sHv P S A + sHv P S B = 0 then zmin (sF S A) (sF S B) else (sF S A * sHv P S A + sF S B * sHv P S B) / (sHv P S A + sHv P S B)
noncomputable def jC (S : St) (A B s : Nat) : Int32 := if sF S A = 0 then (if sF S B = 0 then 0 else sC S B s) else if sF S B = 0 then sC S A s else 0
theorem zmin_sy (a b : Int32) : zmin a b = zmin b a := by
  rw [zmin_if, zmin_if]
  by_cases h : a ≤ b
  · rw [if_pos h]
    by_cases h' : b ≤ a
    · rw [if_pos h']; exact Int32.le_antisymm h h'
    · rw [if_neg h']
  · rw [if_neg h, if_pos (Int32.le_of_lt (Int32.not_le.mp h))]
theorem jF_sy {P : zH} {S : St} {A B : Nat} : jF P S A B = jF P S B A := by
  unfold jF
  by_cases a : sF S A = 0 <;> by_cases b : sF S B = 0 <;> simp only [a, b, if_true, if_false]
  rw [Int32.add_comm (sHv P S B) (sHv P S A), zmin_sy, Int32.add_comm (sF S B * sHv P S B)]
theorem jC_sy {S : St} {A B s : Nat} : jC S A B s = jC S B A s := by
  unfold jC
  by_cases a : sF S A = 0 <;> by_cases b : sF S B = 0 <;> simp only [a, b, if_true, if_false]
theorem im {a b : Int32} (h1 : -2147483648 ≤ a.toInt * b.toInt) (h2 : a.toInt * b.toInt < 2147483648) : (a * b).toInt = a.toInt * b.toInt := by
  rw [Int32.toInt_mul]
  apply Int.bmod_eq_of_le <;> omega
theorem hvy_bd {P : zH} (hk : okN P) (hP : okP P) {q : Nat → Bool} : 0 ≤ (pSum P (P 6) q).toInt ∧ (pSum P (P 6) q).toInt ≤ 594 := pSum_bd hk (fun p hp => by have := (hP p hp).2.2.2; exact ⟨by have := this.1; omega, by have := this.2; omega⟩)
theorem jF_ok {P : zH} {S : St} {A B : Nat} (hk : okN P) (hP : okP P) (hS : Sok P S) (hA : A < nb P) (hB : B < nb P) : jF P S A B = 0 ∨ isIn (jF P S A B) 4700 5200 := by
  unfold jF
  by_cases a : sF S A = 0
  · rw [if_pos a]; exact hS.2.1 B hB
  by_cases b : sF S B = 0
  · rw [if_neg a, if_pos b]; exact hS.2.1 A hA
  rw [if_neg a, if_neg b]
  have fa : isIn (sF S A) 4700 5200 := (hS.2.1 A hA).resolve_left a
  have fb' : isIn (sF S B) 4700 5200 := (hS.2.1 B hB).resolve_left b
  by_cases z : sHv P S A + sHv P S B = 0
  · rw [if_pos z, zmin_if]
    split
    · exact Or.inr fa
    · exact Or.inr fb'
  · rw [if_neg z]
    have ha := hvy_bd hk hP (q := inR P S A)
    have hb := hvy_bd hk hP (q := inR P S B)
    revert z ha hb
    show ¬ pSum P (P 6) (inR P S A) + pSum P (P 6) (inR P S B) = 0 → _ → _ → (_ ∨ isIn ((sF S A * pSum P (P 6) (inR P S A) + sF S B * pSum P (P 6) (inR P S B)) / (pSum P (P 6) (inR P S A) + pSum P (P 6) (inR P S B))) 4700 5200)
    generalize pSum P (P 6) (inR P S A) = x
    generalize pSum P (P 6) (inR P S B) = y
    generalize sF S A = u at fa
    generalize sF S B = v at fb'
    intro z ha hb
    obtain ⟨fa1, fa2⟩ := fa
    obtain ⟨fb1, fb2⟩ := fb'
    obtain ⟨ha1, ha2⟩ := ha
    obtain ⟨hb1, hb2⟩ := hb
    have m1 : 4700 * x.toInt ≤ u.toInt * x.toInt := Int.mul_le_mul_of_nonneg_right fa1 ha1
    have m2 : u.toInt * x.toInt ≤ 5200 * x.toInt := Int.mul_le_mul_of_nonneg_right fa2 ha1
    have m3 : 4700 * y.toInt ≤ v.toInt * y.toInt := Int.mul_le_mul_of_nonneg_right fb1 hb1
    have m4 : v.toInt * y.toInt ≤ 5200 * y.toInt := Int.mul_le_mul_of_nonneg_right fb2 hb1
    have e1 : (u * x).toInt = u.toInt * x.toInt := im (by omega) (by omega)
    have e2 : (v * y).toInt = v.toInt * y.toInt := im (by omega) (by omega)
    have e3 : (u * x + v * y).toInt = u.toInt * x.toInt + v.toInt * y.toInt := by rw [ia (by omega) (by omega), e1, e2]
    have e4 : (x + y).toInt = x.toInt + y.toInt := ia (by omega) (by omega)
    have z' : ¬ x.toInt + y.toInt = 0 := fun q => z (ieq.mpr (by rw [e4, q]; rfl))
    have hd : 0 < x.toInt + y.toInt := by omega
    have q1 : 4700 ≤ (u.toInt * x.toInt + v.toInt * y.toInt) / (x.toInt + y.toInt) := (Int.le_ediv_iff_mul_le hd).mpr (by rw [Int.mul_add]; omega)
    have q2 : (u.toInt * x.toInt + v.toInt * y.toInt) / (x.toInt + y.toInt) ≤ 5200 := by
      have : (u.toInt * x.toInt + v.toInt * y.toInt) / (x.toInt + y.toInt) < 5201 := (Int.ediv_lt_iff_lt_mul hd).mpr (by rw [Int.mul_add]; omega)
      omega
    have e5 : ((u * x + v * y) / (x + y)).toInt = (u.toInt * x.toInt + v.toInt * y.toInt) / (x.toInt + y.toInt) := by
      rw [Int32.toInt_div, e3, e4, Int.tdiv_eq_ediv_of_nonneg (by omega)]
      apply Int.bmod_eq_of_le <;> omega
    exact Or.inr ⟨by rw [e5]; exact q1, by rw [e5]; exact q2⟩
noncomputable def sJoin (P : zH) (S : St) (c' : Int32) (A B : Nat) : St := (c', upF (sF S) (min A B) (jF P S A B), fun r s => if r = min A B then jC S A B s else sC S r s, sG S, sOn S, sOff S, sMk S, sTk S)
abbrev wCl (S : St) (c' : Int32) : St := (c', sF S, sC S, sG S, sOn S, sOff S, sMk S, sTk S)
theorem clearC_eq {h : zH} {g b : Nat} (hb : b < 6) : ∃ x, Gr_clearCounts g (nI b) h = some (setc h (g + 4) x) ∧ (∀ t, t < 6 → x (6 * b + t) = 0) ∧ ∀ j, ¬ (6 * b ≤ j ∧ j < 6 * b + 6) → x j = h (g + 4) j := by
  unfold Gr_clearCounts
  refine exists_step (loop_ex (fun n x s => Gr_clearCounts_L2 g (nI b) (fun h_3 => some h_3) n x s) (fun h => some h) (fun i s => ∃ x, s = setc h (g + 4) x ∧ (∀ t, t < i → x (6 * b + t) = 0) ∧ ∀ j, ¬ (6 * b ≤ j ∧ j < 6 * b + i) → x j = h (g + 4) j) 6 ?_ ?_ 6 0 1000 h (by omega) (by omega) ⟨h (g + 4), setc_self.symm, fun t ht => by omega, fun j _ => rfl⟩) ?_
  · rintro n i s hi ⟨x, rfl, g1, g2⟩
    rw [Gr_clearCounts_L2, if_neg (show ¬ (6 : Int32) ≤ nI i from nI_lt_of (e := 6) hi (by omega)), show nI b * 6 = nI (b * 6) from pk_mul b 6, nI_add, zr_nI (show b * 6 + i < 36 by omega) (by omega), gd_true, nI_clamp (show b * 6 + i < 2 ^ 31 by omega), zlet_n, nI_1, upd2_c, setc_eq, setc_setc]
    refine ⟨_, ⟨_, rfl, fun t ht => ?_, fun j hj => ?_⟩, rfl⟩
    · by_cases e : t = i
      · subst e; rw [show 6 * b + t = b * 6 + t by omega, upd_eq]
      · rw [upd_ne (by omega)]; exact g1 t (by omega)
    · rw [upd_ne (by omega)]; exact g2 j (by omega)
  · rintro n s ⟨x, rfl, g1, g2⟩
    rw [Gr_clearCounts_L2]
    exact if_pos (nI_le_rf 6)
  · rintro ⟨s, ⟨x, rfl, g1, g2⟩, g3⟩
    exact ⟨x, g3, g1, g2⟩
/-- roots are found anew -/
theorem fin_x {P h h1 : zH} {g : Nat} {S : St} {c' : Int32} {F' : Nat → Int32} {C' : Nat → Nat → Int32} (hX : PX P h1) (hk : okN P) (hl : okL P) (hg : 29 ≤ g) (hR : RepX P h g S) (ek : ∀ k, g + 5 ≤ k → k ≤ g + 7 → h1 k = h k) (e0 : h1 g = h g) (hFC : ∀ r, r < nb P → rt P c' r = r → h1 (g + 3) r = F' r ∧ ∀ s, s < 6 → h1 (g + 4) (6 * r + s) = C' r s) : ∃ h', (zlet (upd2 h1 g 1 c') fun h_2 => (Gr_findRoots g h_2).bind fun h_3 => some h_3) = some h' ∧ (∀ k, ¬ (g ≤ k ∧ k ≤ g + 7) → h' k = h1 k) ∧ RepX P h' g (c', F', C', sG S, sOn S, sOff S, sMk S, sTk S) := by
  obtain ⟨⟨h1', h2, h3, h4, h5, h6⟩, h7⟩ := hR
  obtain ⟨r, f1, f2⟩ := findRoots_eq (g := g) (h := upd2 h1 g 1 c') (hX.of' (fun k k1 k2 => by rw [upd2_ne (by omega)])) hk hl hg
  rw [upd2_eq, upd_eq] at f2
  rw [zlet_n, f1, Option.bind_some]
  have K0 : setc (upd2 h1 g 1 c') (g + 1) r g = upd (h g) 1 c' := by rw [setc_ne (by omega), upd2_eq, e0]
  have K : ∀ k, g + 2 ≤ k → setc (upd2 h1 g 1 c') (g + 1) r k = h1 k := fun k hk0 => by rw [setc_ne (by omega), upd2_ne (by omega)]
  refine ⟨_, rfl, fun k k2 => by rw [setc_ne (by omega), upd2_ne (by omega)], ⟨by rw [K0, upd_eq], fun b hb => ⟨by rw [setc_eq]; exact f2 b hb, rt6 hk hb⟩, fun b hb hbb _ => ⟨by rw [K _ (by omega)]; exact (hFC b hb hbb).1, fun s hs => by rw [K _ (by omega)]; exact (hFC b hb hbb).2 s hs⟩, fun p hp hJ => by rw [K _ (by omega), ek _ (by omega) (by omega)]; exact h4 p hp hJ, ?_, fun s hs => by rw [K _ (by omega), ek _ (by omega) (by omega)]; exact h6 s hs⟩, by rw [K0, upd_ne (by omega)]; exact h7⟩
  rw [K0, K _ (by omega), ek _ (by omega) (by omega), upd_ne (by omega), upd_ne (by omega)]; exact h5
theorem join_x {P h : zH} {g A B : Nat} {S : St} (hX : PX P h) (hk : okN P) (hP : okP P) (hg : 29 ≤ g) (hR : RepX P h g S) (hA : A < nb P) (hB : B < nb P) (hA1 : rt P (sCl S) A = A) (hB1 : rt P (sCl S) B = B) (hAB : A ≠ B) : ∃ f3 f4, Gr_join g (nI A) (nI B) h = some (setc (setc h (g + 4) f4) (g + 3) f3) ∧ f3 A = jF P S A B ∧ (∀ r, r ≠ A → f3 r = h (g + 3) r) ∧ (∀ s, s < 6 → f4 (6 * A + s) = jC S A B s) ∧ ∀ j, ¬ (6 * A ≤ j ∧ j < 6 * A + 6) → f4 j = h (g + 4) j := by
  have n2 : nb P ≤ 6 := hk.1.2
  obtain ⟨a1, a2⟩ := hR.1.2.2.1 A hA hA1 rfl
  obtain ⟨b1, b2⟩ := hR.1.2.2.1 B hB hB1 rfl
  unfold Gr_join
  rw [isDark_eq (show A < 6 by omega), isDark_eq (show B < 6 by omega), a1, b1, Option.bind_some, Option.bind_some, Option.bind_some]
  obtain ⟨x, x1, x2, x3⟩ := clearC_eq (h := h) (g := g) (b := A) (by omega)
  obtain ⟨y, y1, y2, y3⟩ := copyC_eq (h := h) (g := g) (a := B) (b := A) (by omega) (by omega) (Ne.symm hAB)
  by_cases dA : sF S A = 0
  · rw [if_neg (show ¬ b2i (decide (sF S A = 0)) = 0 by simp [dA, b2i]), zlet_n]
    have j30 : ∀ z : Nat → Int32, (gd (zr (nI B) 6) (gd (zr (nI A) 6) (zlet (upd2 (setc h (g + 4) z) (g + 3) (nI A).toNatClampNeg (setc h (g + 4) z (g + 3) (nI B).toNatClampNeg)) fun h_4 => some h_4))) = some (setc (setc h (g + 4) z) (g + 3) (upd (h (g + 3)) A (sF S B))) := fun z => by
      rw [zr_nI (show A < 6 by omega) (by omega), zr_nI (show B < 6 by omega) (by omega), gd_true, gd_true, zlet_n, nI_clamp (show A < 2 ^ 31 by omega), nI_clamp (show B < 2 ^ 31 by omega), upd2_c, setc_ne (show g + 3 ≠ g + 4 by omega), b1]
    by_cases dB : sF S B = 0
    · rw [if_neg (show ¬ b2i (decide (sF S B = 0)) = 0 by simp [dB, b2i]), x1, Option.bind_some]
      dsimp only
      rw [j30]
      refine ⟨_, _, rfl, by rw [upd_eq]; unfold jF; rw [if_pos dA], fun r hr => upd_ne hr, fun s hs => by rw [x2 s hs]; unfold jC; rw [if_pos dA, if_pos dB], x3⟩
    · rw [if_pos (show b2i (decide (sF S B = 0)) = 0 by simp [dB, b2i]), y1, Option.bind_some]
      dsimp only
      rw [j30]
      refine ⟨_, _, rfl, by rw [upd_eq]; unfold jF; rw [if_pos dA], fun r hr => upd_ne hr, fun s hs => by rw [y2 s hs, b2 s hs]; unfold jC; rw [if_pos dA, if_neg dB], y3⟩
  · rw [if_pos (show b2i (decide (sF S A = 0)) = 0 by simp [dA, b2i])]
    by_cases dB : sF S B = 0
    · rw [if_neg (show ¬ b2i (decide (sF S B = 0)) = 0 by simp [dB, b2i])]
      refine ⟨h (g + 3), h (g + 4), by rw [setc_self, setc_self], by rw [a1]; unfold jF; rw [if_neg dA, if_pos dB], fun _ _ => rfl, fun s hs => by rw [a2 s hs]; unfold jC; rw [if_neg dA, if_pos dB], fun _ _ => rfl⟩
    · rw [if_pos (show b2i (decide (sF S B = 0)) = 0 by simp [dB, b2i]), x1, Option.bind_some]
      unfold Gr_joinedFrequency
      have hR1 : RX (setc h (g + 4) x) g (rt P (sCl S)) := hR.1.R.of (setc_ne (by omega))
      rw [heavyOf_eq (hX.setc (by omega)) hk hP hR1 (show A < 6 by omega), heavyOf_eq (hX.setc (by omega)) hk hP hR1 (show B < 6 by omega), Option.bind_some, Option.bind_some, zlet_n, zr_nI (show A < 6 by omega) (by omega), zr_nI (show B < 6 by omega) (by omega), nI_clamp (show A < 2 ^ 31 by omega), nI_clamp (show B < 2 ^ 31 by omega), setc_ne (show g + 3 ≠ g + 4 by omega), a1, b1]
      simp only [gd_true]
      have hz : jF P S A B = if sHv P S A + sHv P S B = 0 then zmin (sF S A) (sF S B) else (sF S A * sHv P S A + sF S B * sHv P S B) / (sHv P S A + sHv P S B) := by unfold jF; rw [if_neg dA, if_neg dB]
      have fin : ∀ v : Int32, v = jF P S A B → ∃ f3 f4, (zlet (upd2 (setc h (g + 4) x) (g + 3) A v) fun h_2 => some h_2) = some (setc (setc h (g + 4) f4) (g + 3) f3) ∧ f3 A = jF P S A B ∧ (∀ r, r ≠ A → f3 r = h (g + 3) r) ∧ (∀ s, s < 6 → f4 (6 * A + s) = jC S A B s) ∧ ∀ j, ¬ (6 * A ≤ j ∧ j < 6 * A + 6) → f4 j = h (g + 4) j := by
        intro v hv
        rw [zlet_n, upd2_c, setc_ne (show g + 3 ≠ g + 4 by omega)]
        exact ⟨_, _, rfl, by rw [upd_eq, hv], fun r hr => upd_ne hr, fun s hs => by rw [x2 s hs]; unfold jC; rw [if_neg dA, if_neg dB], x3⟩
      by_cases z : sHv P S A + sHv P S B = 0
      · rw [if_pos z, Option.bind_some]
        exact fin _ (by rw [hz, if_pos z])
      · rw [if_neg z, show decide (¬ sHv P S A + sHv P S B = 0) = true from decide_eq_true z, gd_true, Option.bind_some]
        exact fin _ (by rw [hz, if_neg z])
