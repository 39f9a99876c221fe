theorem find_filter {p q : Nat → Bool} (h : ∀ x, p x = true → q x = true) : ∀ (l : List Nat), l.find? p = (l.filter q).find? p
  | [] => rfl
  | a :: l => by
    cases hp : p a
    · rw [List.find?_cons_of_neg (by simp [hp]), find_filter h l]
      cases hq : q a
      · rw [List.filter_cons_of_neg (by simp [hq])]
      · rw [List.filter_cons_of_pos hq, List.find?_cons_of_neg (by simp [hp])]
    · rw [List.find?_cons_of_pos hp, List.filter_cons_of_pos (h a hp), List.find?_cons_of_pos hp]
/-- the latest that fits, in the class -/
theorem xnext_loop {P h : zH} {g r : Nat} {ρ : Nat → Nat} (hX : PX P h) (hk : okN P) (hF : okF P) (hR : RX h g ρ) (hr : r < 6) {on : Nat → Bool} {off : List Nat} (hO : okO P on off) (hrow : ∀ i f, off[i]? = some f → h (g + 6) i = nI f) (room : Int32) : ∀ (j n : Nat), j ≤ off.length → j < n → Co_nextBack_L28 g (nI r) h room (fun x => some x) (some (-1)) n (nI j - 1) = some (match (off.take j).reverse.find? (fun f => decide (ρ (fb P f) = r) && !(decide (room < P 8 f))) with
    | none => -1
    | some f => nI f)
  | 0, n, _, hn => by
    obtain ⟨n, rfl⟩ : ∃ m, n = m + 1 := ⟨n - 1, by omega⟩
    rw [Co_nextBack_L28, if_pos (by decide)]
    rfl
  | j + 1, n, hj, hn => by
    obtain ⟨n, rfl⟩ : ∃ m, n = m + 1 := ⟨n - 1, by omega⟩
    have n4 : nf P ≤ 9 := hk.2.2.2.1.2
    have n2 : nb P ≤ 6 := hk.1.2
    have hlen := hO.len
    have ih := xnext_loop hX hk hF hR hr hO hrow room j n (by omega) (by omega)
    have hj2 : off[j]? = some off[j] := List.getElem?_eq_getElem (by omega)
    generalize off[j] = f at hj2
    have hfm : f ∈ off := List.mem_of_getElem? hj2
    have hf := hO.2.1 f hfm
    have hrw := hrow j f hj2
    obtain ⟨⟨f1, f2⟩, -⟩ := hF f hf
    obtain ⟨r1, r2⟩ := hR (fb P f) (by omega)
    have et : (off.take (j + 1)).reverse = f :: (off.take j).reverse := by
      rw [List.take_add_one, hj2]; simp
    rw [Co_nextBack_L28, nI_pred, if_neg (nI_pos (by omega)), hX.2.2.2.2.2.2.2.1, hX.2.2.2.2.2.2.2.2.1]
    simp (disch := omega) only [m2, m3, m4, m6, m67, a1, a2, a3, p6, p44, p51, p60, nI_add, nI_clamp, zr_nI, gd_true, zlet, Option.bind_some, mhas_eq, has_eq, nI_leI, nI_ltI, nI_eq, hrw]
    rw [f1]
    simp (disch := omega) only [m2, m3, m4, m6, m67, a1, a2, a3, p6, p44, p51, p60, nI_add, nI_clamp, zr_nI, gd_true, zlet, Option.bind_some, mhas_eq, has_eq, nI_leI, nI_ltI, nI_eq, r1]
    rw [et, List.find?_cons]
    rw [show nI j + -1 = nI j - 1 from (Int32.sub_eq_add_neg _ _).symm, ih]
    by_cases e : ρ (fb P f) = r
    · by_cases e2 : room < P 8 f
      · simp [e, e2]
      · simp [e, e2]
    · simp [e]
theorem xnext {P h : zH} {J : Nat → Bool} {g c r : Nat} {S : St} (hX : PX P h) (hk : okN P) (hP : okP P) (hF : okF P) (hR : RepJ P J h g S) (hJ : Jok P S J) (hr : r < nb P) (hJr : J r = true) (hO : okO P (sOn S) (sOff S)) : Co_nextBack c g (nI r) h = some (match (sOff S).reverse.find? (fun f => selR P S r f && !(decide (sCap P S r - sLoad P S r < P 8 f))) with
    | none => -1
    | some f => nI f) := by
  have n2 : nb P ≤ 6 := hk.1.2
  have n4 : nf P ≤ 9 := hk.2.2.2.1.2
  unfold Co_nextBack
  rw [xcap hX hk hP hR (by omega), Option.bind_some, xload hX hk hF hR hJ (by omega) hJr, Option.bind_some, zlet_eq, zlet_eq]
  obtain ⟨on, off, o1, o2, o3, o4⟩ := hR.2.2.2.2.1
  have hlen := o1.len
  rw [o2.2.1, xnext_loop hX hk hF hR.R (by omega) o1 o2.2.2 _ off.length 1000 (Nat.le_refl _) (by omega), List.take_length]
  have key : ∀ l : List Nat, (∀ f ∈ l, f < nf P) → l.reverse.find? (fun f => selR P S r f && !(decide (sCap P S r - sLoad P S r < P 8 f))) = ((l.filter (fun f => J (fb P f))).reverse).find? (fun f => selR P S r f && !(decide (sCap P S r - sLoad P S r < P 8 f))) := by
    intro l hl
    have hcg : l.filter (fun f => J (fb P f)) = l.filter (fun f => J (fb P f) || !(decide (f < nf P))) := List.filter_congr (fun f hf => by simp [hl f hf])
    rw [hcg, ← List.filter_reverse]
    refine find_filter (fun f hf => ?_) _
    by_cases hfl : f < nf P
    · have h1 : selR P S r f = true := (Bool.and_eq_true_iff.mp hf).1
      simp [Jin hJ hJr (hF f hfl).1.2 h1]
    · simp [hfl]
  have e1 := key off o1.2.1
  have e2 := key (sOff S) hO.2.1
  rw [o4] at e1
  show some (match off.reverse.find? (fun f => selR P S r f && !(decide (sCap P S r - sLoad P S r < P 8 f))) with
    | none => -1
    | some f => nI f) = _
  rw [e1, ← e2]
/-- a FEEDER of the class comes BACK -/
theorem xput {P h : zH} {J : Nat → Bool} {g c : Nat} {S : St} (hk : okN P) (hR : RepJ P J h g S) {f : Nat} (hf : f < nf P) (hJf : J (fb P f) = true) (ho : sOn S f = false) (hc : ¬ (g ≤ c ∧ c ≤ g + 7)) :
    ∃ h', Gr_putOn g (nI f) h = some h' ∧ Xfr g c h h' ∧ RepJ P J h' g (sPut S f) ∧ h' c = h c := by
  have n4 : nf P ≤ 9 := hk.2.2.2.1.2
  obtain ⟨h1, h2, h3, h4, ⟨on, off, o1, o2, o3, o4⟩, h6⟩ := hR
  have hlen := o1.len
  have hl9 : h g 9 = nI off.length := o2.2.1
  unfold Gr_putOn
  rw [zlet_eq]
  refine exists_step (loop_ex (fun n x (s : Int32 × zH) => Gr_putOn_L16 g (nI f) (fun x2_1 h_4 => zlet (upd2 h_4 g 9 x2_1) fun h_5 => some h_5) n s.1 x s.2) (fun s => some (upd2 s.2 g 9 s.1)) (fun i s => s.1 = nI ((off.take i).filter (fun x => !(x == f))).length ∧ ∃ row, s.2 = setc (upd2 h g 7 (h g 7 ||| zshl 1 (nI f))) (g + 6) row ∧ (∀ j x, ((off.take i).filter (fun x => !(x == f)))[j]? = some x → row j = nI x) ∧ ∀ j, i ≤ j → row j = h (g + 6) j) off.length ?_ ?_ off.length 0 1000 (0, upd2 h g 7 (h g 7 ||| zshl 1 (nI f))) (by omega) (by omega) ⟨rfl, h (g + 6), by
    have : upd2 h g 7 (h g 7 ||| zshl 1 (nI f)) (g + 6) = h (g + 6) := upd2_ne (by omega)
    rw [← this]; exact setc_self.symm, fun j x hx => by simp at hx, fun _ _ => rfl⟩) ?_
  · rintro n i ⟨kx, s⟩ hi ⟨g1, row, g2, g3, g4⟩
    dsimp only at g1 g2
    subst g1 g2
    have hi2 : off[i]? = some off[i] := List.getElem?_eq_getElem hi
    have hoi : off[i] < nf P := o1.2.1 _ (List.getElem_mem hi)
    generalize off[i] = y at hi2 hoi
    have hrow : row i = nI y := by rw [g4 i (Nat.le_refl _)]; exact o2.2.2 i y hi2
    have et : (off.take (i + 1)).filter (fun x => !(x == f)) = (off.take i).filter (fun x => !(x == f)) ++ (if y = f then [] else [y]) := by
      rw [List.take_add_one, hi2, List.filter_append]
      congr 1
      by_cases e : y = f <;> simp [e]
    have hkl : ((off.take i).filter (fun x => !(x == f))).length ≤ i := Nat.le_trans (List.length_filter_le _ _) (by simp; omega)
    have e9 : setc (upd2 h g 7 (h g 7 ||| zshl 1 (nI f))) (g + 6) row g 9 = nI off.length := by rw [setc_ne (by omega), upd2_eq, upd_ne (by omega), hl9]
    dsimp only
    rw [Gr_putOn_L16, e9, if_neg (nI_lt_of hi (by omega)), et]
    generalize (off.take i).filter (fun x => !(x == f)) = A at g3 hkl
    simp (disch := omega) only [zr_nI, gd_true, nI_clamp, setc_eq, hrow, nI_1, zlet_eq, upd2_c, setc_setc]
    by_cases e : y = f
    · rw [if_pos e, if_pos (show nI y = nI f by rw [e])]
      refine ⟨(nI A.length, setc _ (g + 6) row), ⟨by simp, row, rfl, by simpa using g3, fun j hj => g4 j (by omega)⟩, rfl⟩
    · rw [if_neg e, if_neg (show ¬ nI y = nI f from fun q => e ((nI_eq (by omega) (by omega)).mp q))]
      refine ⟨(nI (A.length + 1), setc _ (g + 6) (upd row A.length (nI y))), ⟨by simp, upd row A.length (nI y), rfl, fun j x hx => ?_, fun j hj => ?_⟩, rfl⟩
      · rcases Nat.lt_trichotomy j A.length with q | q | q
        · rw [upd_ne (by omega)]
          rw [List.getElem?_append_left q] at hx
          exact g3 j x hx
        · subst q
          rw [List.getElem?_append_right (Nat.le_refl _)] at hx
          simp at hx
          rw [upd_eq, hx]
        · rw [List.getElem?_eq_none (by simp; omega)] at hx
          cases hx
      · rw [upd_ne (by omega)]; exact g4 j (by omega)
  · rintro n ⟨kx, s⟩ ⟨g1, row, g2, g3, g4⟩
    dsimp only at g1 g2 ⊢
    subst g2
    have e9 : setc (upd2 h g 7 (h g 7 ||| zshl 1 (nI f))) (g + 6) row g 9 = nI off.length := by rw [setc_ne (by omega), upd2_eq, upd_ne (by omega), hl9]
    rw [Gr_putOn_L16, e9, if_pos (nI_le_rf _), zlet_eq]
  · rintro ⟨⟨kx, s⟩, ⟨g1, row, g2, g3, g4⟩, g5⟩
    dsimp only at g1 g2 g5
    subst g1 g2
    rw [List.take_length] at g3 g5
    refine ⟨_, g5, ⟨fun k k1 k2 => by rw [upd2_ne (by omega), setc_ne (by omega), upd2_ne (by omega)], by rw [upd2_eq, upd_ne (by omega), setc_ne (by omega), upd2_eq, upd_ne (by omega)]⟩, ?_, by rw [upd2_ne (by omega), setc_ne (by omega), upd2_ne (by omega)]⟩
    have z : ∀ k, k ≠ g → k ≠ g + 6 → upd2 (setc (upd2 h g 7 (h g 7 ||| zshl 1 (nI f))) (g + 6) row) g 9 (nI (off.filter (fun x => !(x == f))).length) k = h k := fun k k1 k2 => by rw [upd2_ne k1, setc_ne k2, upd2_ne k1]
    refine ⟨?_, h2.of (z _ (by omega) (by omega)), ?_, ?_, ?_, ?_⟩
    · rw [upd2_eq, upd_ne (by omega), setc_ne (by omega), upd2_eq, upd_ne (by omega)]; exact h1
    · rw [z (g + 3) (by omega) (by omega), z (g + 4) (by omega) (by omega)]; exact h3
    · rw [z (g + 5) (by omega) (by omega)]; exact h4
    · refine ⟨fun x => if x = f then true else on x, off.filter (fun x => !(x == f)), okO_put o1, ⟨fun x => ?_, ?_, ?_⟩, fun x hx hJx => ?_, ?_⟩
      · rw [upd2_eq, upd_ne (by omega), setc_ne (by omega), upd2_eq, upd_eq, b_or, o2.1 x, bt_one (by omega)]
        by_cases e : x = f
        · subst e; simp [hf]
        · simp [e]
      · rw [upd2_eq, upd_eq]
      · rw [upd2_ne (show g + 6 ≠ g by omega), setc_eq]; exact g3
      · show (if x = f then true else on x) = (if x = f then true else sOn S x)
        rw [o3 x hx hJx]
      · show (off.filter (fun x => !(x == f))).filter _ = ((sOff S).filter (fun x => !(x == f))).filter _
        rw [List.filter_filter, List.filter_filter]
        have : ∀ l : List Nat, l.filter (fun a => J (fb P a) && !(a == f)) = (l.filter (fun a => J (fb P a))).filter (fun a => !(a == f)) := fun l => by
          rw [List.filter_filter]
          refine List.filter_congr (fun x _ => ?_)
          rw [Bool.and_comm]
        rw [this off, this (sOff S), o4]
    · rw [z (g + 7) (by omega) (by omega)]; exact h6
theorem xback {P h : zH} {J : Nat → Bool} {g c r : Nat} {S : St} (hX : PX P h) (hk : okN P) (hP : okP P) (hF : okF P) (hg : 29 ≤ g) (hc : ¬ (g ≤ c ∧ c ≤ g + 7)) (hc29 : 29 ≤ c) (hR : RepJ P J h g S) (hJ : Jok P S J) (hO : okO P (sOn S) (sOff S)) (hr : r < nb P) (hrr : rt P (sCl S) r = r) (hJr : J r = true) :
    ∃ h', Co_passBack c g (nI r) h = some h' ∧ XS P J h h' g c (sBack P r S) [] (if (bkF P S r).isSome then 1 else 0) := by
  have n2 : nb P ≤ 6 := hk.1.2
  have n4 : nf P ≤ 9 := hk.2.2.2.1.2
  have hF0 := (hR.2.2.1 r hr hrr hJr).1
  have hC0 := (hR.2.2.1 r hr hrr hJr).2 0 (by omega)
  have hM0 := hR.2.2.2.2.2 0 (Nat.zero_le _)
  have e0 : nI r * 6 + 0 = nI (6 * r + 0) := by rw [show nI r * 6 = nI (r * 6) from pk_mul r 6, Int32.add_zero, Nat.mul_comm]; rfl
  unfold Co_passBack
  rw [e0]
  simp only [zlet_eq]
  have main : ∀ v, v = bkN S r → ∃ h', gd (zr (nI (6 * r + 0)) 36) (gd (zr (nI (6 * r + 0)) 36) (if (upd2 h (g + 4) (nI (6 * r + 0)).toNatClampNeg v (g + 4) (nI (6 * r + 0)).toNatClampNeg) < (upd2 h (g + 4) (nI (6 * r + 0)).toNatClampNeg v 28 0) then some (upd2 h (g + 4) (nI (6 * r + 0)).toNatClampNeg v) else (Co_nextBack c g (nI r) (upd2 h (g + 4) (nI (6 * r + 0)).toNatClampNeg v)).bind fun r_1 => if r_1 < 0 then some (upd2 h (g + 4) (nI (6 * r + 0)).toNatClampNeg v) else (Gr_putOn g r_1 (upd2 h (g + 4) (nI (6 * r + 0)).toNatClampNeg v)).bind fun h_2 => gd (zr (nI (6 * r + 0)) 36) (some (upd2 (upd2 h_2 c 4 (h_2 c 4 + 1)) (g + 4) (nI (6 * r + 0)).toNatClampNeg 0)))) = some h' ∧ XS P J h h' g c (sBack P r S) [] (if (bkF P S r).isSome then 1 else 0) := by
    intro v hv
    subst hv
    simp (disch := omega) only [zr_nI, gd_true, nI_clamp]
    rw [upd2_eq, upd_eq, upd2_ne (show (28 : Nat) ≠ g + 4 by omega), hX.2.2.2.2.2.2.2.2.2.2.2, upd2_c]
    have x1 : XS P J h (setc h (g + 4) (upd (h (g + 4)) (6 * r + 0) (bkN S r))) g c (wC S (upC (sC S) r 0 (bkN S r))) [] 0 := XS.s ⟨by omega, by omega⟩ hc (hR.C (by omega) _)
    have hX1 : PX P (setc h (g + 4) (upd (h (g + 4)) (6 * r + 0) (bkN S r))) := hX.setc (by omega)
    generalize setc h (g + 4) (upd (h (g + 4)) (6 * r + 0) (bkN S r)) = h1 at x1 hX1
    by_cases hlt : bkN S r < P 11 0
    · rw [if_pos hlt]
      have e1 : bkF P S r = none := by unfold bkF; rw [if_pos hlt]
      refine ⟨h1, rfl, ?_⟩
      unfold sBack
      rw [e1]
      exact x1
    · rw [if_neg hlt, xnext hX1 hk hP hF x1.2.1 (show Jok P (wC S (upC (sC S) r 0 (bkN S r))) J from hJ) hr hJr (show okO P (sOn (wC S (upC (sC S) r 0 (bkN S r)))) (sOff (wC S (upC (sC S) r 0 (bkN S r)))) from hO), Option.bind_some]
      show ∃ h', (if (match (sOff S).reverse.find? (fun f => selR P S r f && !(decide (sCap P S r - sLoad P S r < P 8 f))) with
        | none => (-1 : Int32)
        | some f => nI f) < 0 then _ else _) = some h' ∧ _
      cases hf : (sOff S).reverse.find? (fun f => selR P S r f && !(decide (sCap P S r - sLoad P S r < P 8 f))) with
      | none =>
        have e1 : bkF P S r = none := by unfold bkF; rw [if_neg hlt]; exact hf
        dsimp only
        rw [if_pos (by decide)]
        refine ⟨h1, rfl, ?_⟩
        unfold sBack
        rw [e1]
        exact x1
      | some f =>
        have e1 : bkF P S r = some f := by unfold bkF; rw [if_neg hlt]; exact hf
        have hfm : f ∈ sOff S := List.mem_reverse.mp (List.mem_of_find?_eq_some hf)
        have hfl := hO.2.1 f hfm
        have hfs : selR P S r f = true := by
          have := List.find?_some hf
          exact (Bool.and_eq_true_iff.mp this).1
        show ∃ h', (if nI f < 0 then _ else (Gr_putOn g (nI f) h1).bind _) = some h' ∧ _
        rw [if_neg (show ¬ nI f < 0 from nI_pos (by omega))]
        obtain ⟨h2, p1, p2, p3, p4⟩ := xput (c := c) hk x1.2.1 hfl (Jin hJ hJr (hF f hfl).1.2 hfs) (show sOn (wC S (upC (sC S) r 0 (bkN S r))) f = false from (hO.2.2 f hfl).mp hfm) hc
        rw [p1, Option.bind_some]
        refine ⟨_, rfl, ?_⟩
        have x2 : XS P J h1 (upd2 h2 c 4 (h2 c 4 + 1)) g c (sPut (wC S (upC (sC S) r 0 (bkN S r))) f) [] 1 := by
          refine ⟨p2.tr ⟨fun k k1 _ => upd2_ne k1, by rw [upd2_ne (by omega)]⟩, by rw [upd2_c]; exact p3.cell hc _, ?_⟩
          unfold ck
          rw [upd2_eq, ← p4]
          refine ⟨?_, ?_, ?_⟩
          · rw [upd_ne (by omega)]; exact (Int32.add_zero _).symm
          · rw [upd_ne (by omega)]; exact (Int32.add_zero _).symm
          · rw [upd_eq]; rfl
        rw [upd2_c (h := upd2 h2 c 4 (h2 c 4 + 1))]
        generalize upd2 h2 c 4 (h2 c 4 + 1) = h3 at x2
        have x3 : XS P J h3 (setc h3 (g + 4) (upd (h3 (g + 4)) (6 * r + 0) 0)) g c _ [] 0 := XS.s ⟨by omega, by omega⟩ hc (x2.2.1.C (r := r) (s := 0) (by omega) 0)
        have x4 := (x1.tr x2).tr x3
        have e3 : wC (sPut (wC S (upC (sC S) r 0 (bkN S r))) f) (upC (sC (sPut (wC S (upC (sC S) r 0 (bkN S r))) f)) r 0 0) = sPut (wC S (upC (sC S) r 0 0)) f := by
          show (_, _, upC (upC (sC S) r 0 (bkN S r)) r 0 0, _) = _
          rw [upC_upC]
          rfl
        rw [e3] at x4
        unfold sBack
        rw [e1]
        simpa using x4
  simp (disch := omega) only [zr_nI, gd_true, nI_clamp] at main ⊢
  rw [hF0, hM0, hC0]
  by_cases hcc : sF S r < sMk S 0
  · rw [if_pos hcc]
    exact main 0 (by unfold bkN; rw [if_pos hcc])
  · rw [if_neg hcc]
    exact main _ (by unfold bkN; rw [if_neg hcc])
