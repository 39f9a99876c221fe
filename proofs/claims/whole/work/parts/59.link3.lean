theorem bind_n {α β : Type} (a : α) (f : α → Option β) : (some a).bind f = f a := Eq.trans (Option.bind_some a f) (Eq.refl (f a))
theorem gd_n {ρ : Type} (o : Option ρ) : gd true o = o := Eq.trans (gd_true o) (Eq.refl o)
theorem if_t {ρ : Type} (a b : ρ) : (if True then a else b) = a := if_pos trivial
theorem if_f {ρ : Type} (a b : ρ) : (if False then a else b) = b := if_neg (fun h => h)
theorem ends {P : zH} (hl : okL P) {l : Nat} (h : l < nl P) : P 1 l = nI (la P l) ∧ P 2 l = nI (lb P l) ∧ la P l < nb P ∧ lb P l < nb P := ⟨(hl l h).1.1, (hl l h).2.1, (hl l h).1.2, (hl l h).2.2⟩
theorem abs20 {u v : Int32} (hu : isIn u 4700 5200) (hv : isIn v 4700 5200) : (20 < zabs (u - v) ∧ Mo_isIn (u - v) (-20) 20 = some 0) ∨ (¬ 20 < zabs (u - v) ∧ Mo_isIn (u - v) (-20) 20 = some 1) := by
  obtain ⟨u1, u2⟩ := hu
  obtain ⟨v1, v2⟩ := hv
  have e : (u - v).toInt = u.toInt - v.toInt := is' (by omega) (by omega)
  have e20 : (20 : Int32).toInt = 20 := rfl
  have em : (-20 : Int32).toInt = -20 := rfl
  have e0 : (0 : Int32).toInt = 0 := rfl
  unfold Mo_isIn zabs
  by_cases h0 : (0 : Int32) ≤ u - v
  · rw [if_pos h0]
    have h0' := ile.mp h0
    rw [if_neg (show ¬ u - v < -20 from fun q => by have := ilt.mp q; omega)]
    by_cases h1 : 20 < u - v
    · exact Or.inl ⟨h1, by rw [if_pos h1]⟩
    · exact Or.inr ⟨h1, by rw [if_neg h1]⟩
  · rw [if_neg h0]
    have h0' : (u - v).toInt < 0 := by have := ilt.mp (Int32.not_le.mp h0); omega
    have e2 : (0 - (u - v)).toInt = - (u - v).toInt := by rw [is' (by omega) (by omega), e0]; omega
    by_cases h1 : u - v < -20
    · exact Or.inl ⟨ilt.mpr (by have := ilt.mp h1; omega), by rw [if_pos h1]⟩
    · refine Or.inr ⟨fun q => h1 (ilt.mpr (by have := ilt.mp q; omega)), ?_⟩
      rw [if_neg h1, if_neg (show ¬ 20 < u - v from fun q => by have := ilt.mp q; omega)]
theorem canClose_eq {P : zH} {S : St} {hx hm : zH} (C : Core P S hx hm) {l : Nat} (h : l < nl P) : ∃ v, Gr_canClose 29 (nI l) hx = some v ∧ Mo_canClose (nI (la P l)) (nI (lb P l)) hm = some v := by
  obtain ⟨⟨hk, hb1, hl, hP, hF, hSt⟩, hX, hM, hS, hR, hR2⟩ := id C
  have n2 : nb P ≤ 6 := hk.1.2
  have n9 := nl9 hk
  obtain ⟨p1, p2, ha, hb⟩ := ends hl h
  have x18 : hx 18 l = nI (la P l) := by rw [hX.2.1]; exact p1
  have x19 : hx 19 l = nI (lb P l) := by rw [hX.2.2.1]; exact p2
  have y1 : hx (29 + 1) (la P l) = nI (rt P (sCl S) (la P l)) := (hR.1.R _ (by omega)).1
  have y2 : hx (29 + 1) (lb P l) = nI (rt P (sCl S) (lb P l)) := (hR.1.R _ (by omega)).1
  have fa : hm 7 (la P l) = sF S (rt P (sCl S) (la P l)) := (hR2.2.1 _ ha).1
  have fb' : hm 7 (lb P l) = sF S (rt P (sCl S) (lb P l)) := (hR2.2.1 _ hb).1
  have rA : rt P (sCl S) (la P l) < nb P := Nat.lt_of_le_of_lt rt_le ha
  have rB : rt P (sCl S) (lb P l) < nb P := Nat.lt_of_le_of_lt rt_le hb
  have gA : hx (29 + 3) (rt P (sCl S) (la P l)) = sF S (rt P (sCl S) (la P l)) := (hR.1.2.2.1 _ rA rt_rt rfl).1
  have gB : hx (29 + 3) (rt P (sCl S) (lb P l)) = sF S (rt P (sCl S) (lb P l)) := (hR.1.2.2.1 _ rB rt_rt rfl).1
  unfold Gr_canClose Mo_canClose
  rw [busesOf_eq hM hk hl ha, hR2.1]
  simp only [Option.bind_some]
  rw [mhas_eq _ (show lb P l < 32 by omega), bset_R hk S _ hb]
  simp only [Option.bind_some]
  rw [nI_clamp (show l < 2 ^ 31 by omega), x18, x19, nI_clamp (show la P l < 2 ^ 31 by omega), nI_clamp (show lb P l < 2 ^ 31 by omega), y1, y2, fa, fb', zr_nI (show l < 9 by omega) (by omega), zr_nI (show la P l < 6 by omega) (by omega), zr_nI (show lb P l < 6 by omega) (by omega), zr_nI (show la P l < 67 by omega) (by omega), zr_nI (show lb P l < 67 by omega) (by omega)]
  simp only [gd_true]
  rw [zlet_n, zlet_n, zlet_n, isDark_eq (show rt P (sCl S) (la P l) < 6 by omega), isDark_eq (show rt P (sCl S) (lb P l) < 6 by omega), gA, gB, zr_nI (show rt P (sCl S) (la P l) < 6 by omega) (by omega), zr_nI (show rt P (sCl S) (lb P l) < 6 by omega) (by omega), nI_clamp (show rt P (sCl S) (la P l) < 2 ^ 31 by omega), nI_clamp (show rt P (sCl S) (lb P l) < 2 ^ 31 by omega), gA, gB]
  simp only [gd_true, Option.bind_some]
  by_cases hAB : rt P (sCl S) (la P l) = rt P (sCl S) (lb P l)
  · refine ⟨1, by rw [if_pos (by rw [hAB])], by rw [if_neg (by simp [hAB, b2i])]⟩
  · rw [if_neg (show ¬ nI (rt P (sCl S) (la P l)) = nI (rt P (sCl S) (lb P l)) from fun q => hAB ((nI_eq (by omega) (by omega)).mp q)), if_pos (show b2i (inR P S (rt P (sCl S) (la P l)) (lb P l)) = 0 by simp [Ne.symm hAB, b2i])]
    have oA := hS.2.1 _ rA
    have oB := hS.2.1 _ rB
    revert oA oB
    generalize sF S (rt P (sCl S) (la P l)) = u
    generalize sF S (rt P (sCl S) (lb P l)) = v
    intro oA oB
    by_cases h1 : u = 0
    · refine ⟨1, by rw [if_neg (by simp [h1, b2i])], by rw [if_pos h1]⟩
    by_cases h2 : v = 0
    · refine ⟨1, by rw [if_pos (by simp [h1, b2i]), if_neg (by simp [h2, b2i])], by rw [if_neg h1, if_pos h2]⟩
    rw [if_pos (show b2i (decide (u = 0)) = 0 by simp [h1, b2i]), if_pos (show b2i (decide (v = 0)) = 0 by simp [h2, b2i]), if_neg h1, if_neg h2]
    rcases abs20 (oA.resolve_left h1) (oB.resolve_left h2) with ⟨e1, e2⟩ | ⟨e1, e2⟩
    · exact ⟨0, by rw [if_pos e1], by rw [e2]; rfl⟩
    · exact ⟨1, by rw [if_neg e1], by rw [e2]; rfl⟩
/-- a LINK is closed: what becomes of both sides -/
theorem close2 {P : zH} {S : St} {hx hm : zH} (C : Core P S hx hm) {l : Nat} (h : l < nl P) (ho : bt (sCl S) l = false) : ∃ S' hx' hm', Gr_close 29 (nI l) hx = some hx' ∧ Mo_joins (nI (la P l)) (nI (lb P l)) hm = some hm' ∧ (∀ k, ¬ (29 ≤ k ∧ k ≤ 36) → hx' k = hx k) ∧ (∀ k, k ≠ 7 → hm' k = hm k) ∧ sTk S' = sTk S ∧ Core P S' hx' (upd2 hm' 7 43 ((hm' 7 43) ^^^ (zshl 1 (nI l)))) := by
  obtain ⟨⟨hk, hb1, hl, hP, hF, hSt⟩, hX, hM, hS, hR, hR2⟩ := id C
  have n2 : nb P ≤ 6 := hk.1.2
  have m2' : np P ≤ 6 := hk.2.2.1.2
  have m5 : ns P ≤ 5 := hk.2.2.2.2.2
  have m4 : nf P ≤ 9 := hk.2.2.2.1.2
  have n9 := nl9 hk
  have hlen := hS.2.2.2.1.len
  obtain ⟨p1, p2, ha, hb⟩ := ends hl h
  have x18 : hx 18 l = nI (la P l) := by rw [hX.2.1]; exact p1
  have x19 : hx 19 l = nI (lb P l) := by rw [hX.2.2.1]; exact p2
  have y1 : hx (29 + 1) (la P l) = nI (rt P (sCl S) (la P l)) := (hR.1.R _ (by omega)).1
  have y2 : hx (29 + 1) (lb P l) = nI (rt P (sCl S) (lb P l)) := (hR.1.R _ (by omega)).1
  have rA : rt P (sCl S) (la P l) < nb P := Nat.lt_of_le_of_lt rt_le ha
  have rB : rt P (sCl S) (lb P l) < nb P := Nat.lt_of_le_of_lt rt_le hb
  have j1 : ∀ j, j ≠ l → bt (sCl S ||| zshl 1 (nI l)) j = bt (sCl S) j := fun j hj => by rw [bt_put (by omega)]; simp [hj]
  have j2 : bt (sCl S ||| zshl 1 (nI l)) l = true := by rw [bt_put (by omega)]; simp
  have hrt := rt_join h j1 j2
  have hcl : ∀ j, nl P ≤ j → bt (sCl S ||| zshl 1 (nI l)) j = false := fun j hj => by rw [j1 j (by omega)]; exact hS.1 j hj
  unfold Gr_close
  rw [nI_clamp (show l < 2 ^ 31 by omega), x18, x19, nI_clamp (show la P l < 2 ^ 31 by omega), nI_clamp (show lb P l < 2 ^ 31 by omega), y1, y2, zr_nI (show l < 9 by omega) (by omega), zr_nI (show la P l < 6 by omega) (by omega), zr_nI (show lb P l < 6 by omega) (by omega)]
  simp only [gd_true]
  rw [zlet_n, zlet_n, zlet_n]
  by_cases hAB : rt P (sCl S) (la P l) = rt P (sCl S) (lb P l)
  · rw [if_pos (by rw [hAB])]
    have hsame : ∀ b, rt P (sCl S ||| zshl 1 (nI l)) b = rt P (sCl S) b := fun b => by
      rw [hrt b, hAB, Nat.max_self, Nat.min_self]
      split
      · rename_i q; exact q.symm
      · rfl
    have hj : Mo_joins (nI (la P l)) (nI (lb P l)) hm = some hm := by
      unfold Mo_joins
      rw [busesOf_eq hM hk hl ha, busesOf_eq hM hk hl hb, Option.bind_some, Option.bind_some, hR2.1, hAB, if_pos rfl]
    obtain ⟨hx', f1, f2, f3⟩ := fin_x (h1 := hx) (S := S) (c' := sCl S ||| zshl 1 (nI l)) (F' := sF S) (C' := sC S) hX hk hl (Nat.le_refl 29) hR (fun _ _ _ => rfl) rfl (fun r hr hrr => hR.1.2.2.1 r hr (by rw [← hsame]; exact hrr) rfl)
    refine ⟨wCl S (sCl S ||| zshl 1 (nI l)), hx', hm, ?_, hj, f2, fun _ _ => rfl, rfl, C.mk ⟨hcl, hS.2.1, hS.2.2.1, hS.2.2.2.1, trivial⟩ (fun k k1 k2 => f2 k (by omega)) (fun k k1 k2 => by rw [upd2_ne (by omega)]) f3 ?_⟩
    · dsimp only; rw [hR.1.1]; exact f1
    · rw [upd2_eq, hR2.1, flip_put (by omega) ho]
      obtain ⟨c1, c2, c3, c4, c5, c6⟩ := hR2
      refine ⟨upd_eq, fun b hb => ⟨?_, fun s hs => ?_⟩, fun p hp => by rw [upd_ne (by omega)]; exact c3 p hp, ⟨by rw [upd_ne (by omega)]; exact c4.1, by rw [upd_ne (by omega)]; exact c4.2.1, fun i f hi => ?_⟩, fun s hs => by rw [upd_ne (by omega)]; exact c5 s hs, by rw [upd_ne (by omega)]; exact c6⟩
      · rw [upd_ne (by omega)]
        show hm 7 b = sF S (rt P (sCl S ||| zshl 1 (nI l)) b)
        rw [hsame]; exact (c2 b hb).1
      · rw [upd_ne (by omega)]
        show hm 7 (6 + 6 * b + s) = sC S (rt P (sCl S ||| zshl 1 (nI l)) b) s
        rw [hsame]; exact (c2 b hb).2 s hs
      · have := (List.getElem?_eq_some_iff.mp hi).1
        show upd (hm 7) 43 _ (51 + i) = _
        rw [upd_ne (by omega)]; exact c4.2.2 i f hi
  · rw [if_neg (show ¬ nI (rt P (sCl S) (la P l)) = nI (rt P (sCl S) (lb P l)) from fun q => hAB ((nI_eq (by omega) (by omega)).mp q))]
    obtain ⟨row, g1, g2, g3⟩ := joins_eq hM hk hl hP hR2 ha hb hAB
    have hAr : rt P (sCl S) (rt P (sCl S) (la P l)) = rt P (sCl S) (la P l) := rt_rt
    have hBr : rt P (sCl S) (rt P (sCl S) (lb P l)) = rt P (sCl S) (lb P l) := rt_rt
    rw [zmin_nI (by omega) (by omega), show zmax (nI (rt P (sCl S) (la P l))) (nI (rt P (sCl S) (lb P l))) = nI (max (rt P (sCl S) (la P l)) (rt P (sCl S) (lb P l))) by
      unfold zmax
      by_cases q : nI (rt P (sCl S) (la P l)) < nI (rt P (sCl S) (lb P l))
      · rw [if_pos q]
        have q' : ¬ rt P (sCl S) (lb P l) ≤ rt P (sCl S) (la P l) := fun z => nI_nlt z (by omega) q
        rw [Nat.max_eq_right (by omega)]
      · rw [if_neg q]
        have q' : ¬ rt P (sCl S) (la P l) < rt P (sCl S) (lb P l) := fun z => q (nI_lt z (by omega))
        rw [Nat.max_eq_left (by omega)]]
    generalize hA : rt P (sCl S) (la P l) = A at *
    generalize hB : rt P (sCl S) (lb P l) = B at *
    have lo_hi : (min A B = A ∧ max A B = B) ∨ (min A B = B ∧ max A B = A) := by omega
    have hlo : min A B < nb P := by omega
    have hhi : max A B < nb P := by omega
    have hlor : rt P (sCl S) (min A B) = min A B := by rcases lo_hi with ⟨e, _⟩ | ⟨e, _⟩ <;> rw [e] <;> assumption
    have hhir : rt P (sCl S) (max A B) = max A B := by rcases lo_hi with ⟨_, e⟩ | ⟨_, e⟩ <;> rw [e] <;> assumption
    have hJF : jF P S (min A B) (max A B) = jF P S A B := by
      rcases lo_hi with ⟨e, e'⟩ | ⟨e, e'⟩ <;> rw [e, e']
      exact jF_sy
    have hJC : ∀ s, jC S (min A B) (max A B) s = jC S A B s := fun s => by
      rcases lo_hi with ⟨e, e'⟩ | ⟨e, e'⟩ <;> rw [e, e']
      exact jC_sy
    obtain ⟨f3, f4, w1, w2, w3, w4, w5⟩ := join_x hX hk hP (Nat.le_refl 29) hR hlo hhi hlor hhir (by omega)
    rw [hJF] at w2
    rw [w1, Option.bind_some]
    have e3 : setc (setc hx (29 + 4) f4) (29 + 3) f3 (29 + 3) = f3 := setc_eq
    have e4 : setc (setc hx (29 + 4) f4) (29 + 3) f3 (29 + 4) = f4 := by rw [setc_ne (by omega), setc_eq]
    obtain ⟨hx', v1, v2, v3⟩ := fin_x (h := hx) (h1 := setc (setc hx (29 + 4) f4) (29 + 3) f3) (S := S) (c' := sCl S ||| zshl 1 (nI l)) (F' := upF (sF S) (min A B) (jF P S A B)) (C' := fun r s => if r = min A B then jC S A B s else sC S r s) ((hX.setc (by omega)).setc (by omega)) hk hl (Nat.le_refl 29) hR (fun k k1 k2 => by rw [setc_ne (by omega), setc_ne (by omega)]) (by rw [setc_ne (by omega), setc_ne (by omega)]) (fun r hr hrr => by
      rw [e3, e4]
      by_cases q : r = min A B
      · subst q
        refine ⟨by rw [w2]; unfold upF; rw [if_pos rfl], fun s hs => by rw [w4 s hs, hJC, if_pos rfl]⟩
      · have hrr2 : rt P (sCl S) r = r := by
          rw [hrt r] at hrr
          by_cases q2 : rt P (sCl S) r = max A B
          · rw [if_pos q2] at hrr; exact absurd hrr.symm q
          · rw [if_neg q2] at hrr; exact hrr
        obtain ⟨z1, z2⟩ := hR.1.2.2.1 r hr hrr2 rfl
        refine ⟨by rw [w3 r q]; unfold upF; rw [if_neg q]; exact z1, fun s hs => by rw [w5 _ (by omega), if_neg q]; exact z2 s hs⟩)
    refine ⟨sJoin P S (sCl S ||| zshl 1 (nI l)) A B, hx', setc hm 7 row, ?_, g1, fun k hk0 => by rw [v2 k (by omega), setc_ne (by omega), setc_ne (by omega)], fun k k7 => setc_ne k7, rfl, C.mk ⟨hcl, upF_ok hS.2.1 (jF_ok hk hP hS rA rB), hS.2.2.1, hS.2.2.2.1, trivial⟩ (fun k k1 k2 => by rw [v2 k (by omega), setc_ne (by omega), setc_ne (by omega)]) (fun k k1 k2 => by rw [upd2_ne (by omega), setc_ne (by omega)]) v3 ?_⟩
    · dsimp only; rw [show setc (setc hx (29 + 4) f4) (29 + 3) f3 29 1 = sCl S by rw [setc_ne (by omega), setc_ne (by omega)]; exact hR.1.1]; exact v1
    · rw [upd2_eq, setc_eq, g2 43 (by omega), hR2.1, flip_put (by omega) ho]
      obtain ⟨c1, c2, c3, c4, c5, c6⟩ := hR2
      have hnew : ∀ b, b < nb P → (rt P (sCl S) b = A ∨ rt P (sCl S) b = B) → rt P (sCl S ||| zshl 1 (nI l)) b = min A B := fun b hb hq => by
        rw [hrt b]; split <;> omega
      have hnew2 : ∀ b, b < nb P → ¬ (rt P (sCl S) b = A ∨ rt P (sCl S) b = B) → rt P (sCl S ||| zshl 1 (nI l)) b = rt P (sCl S) b ∧ rt P (sCl S) b ≠ min A B := fun b hb hq => by
        rw [hrt b]; split <;> omega
      refine ⟨upd_eq, fun b hb => ⟨?_, fun s hs => ?_⟩, fun p hp => by rw [upd_ne (by omega), g2 _ (by omega)]; exact c3 p hp, ⟨by rw [upd_ne (by omega), g2 _ (by omega)]; exact c4.1, by rw [upd_ne (by omega), g2 _ (by omega)]; exact c4.2.1, fun i f hi => ?_⟩, fun s hs => by rw [upd_ne (by omega), g2 _ (by omega)]; exact c5 s hs, by rw [upd_ne (by omega), g2 _ (by omega)]; exact c6⟩
      · rw [upd_ne (by omega), (g3 b hb).1]
        show _ = upF (sF S) (min A B) (jF P S A B) (rt P (sCl S ||| zshl 1 (nI l)) b)
        by_cases q : rt P (sCl S) b = A ∨ rt P (sCl S) b = B
        · rw [if_pos q, hnew b hb q]; unfold upF; rw [if_pos rfl]
        · rw [if_neg q, (hnew2 b hb q).1]; unfold upF; rw [if_neg (hnew2 b hb q).2]; exact (c2 b hb).1
      · rw [upd_ne (by omega), (g3 b hb).2 s hs]
        show _ = if rt P (sCl S ||| zshl 1 (nI l)) b = min A B then jC S A B s else sC S (rt P (sCl S ||| zshl 1 (nI l)) b) s
        by_cases q : rt P (sCl S) b = A ∨ rt P (sCl S) b = B
        · rw [if_pos q, hnew b hb q, if_pos rfl]
        · rw [if_neg q, (hnew2 b hb q).1, if_neg (hnew2 b hb q).2]; exact (c2 b hb).2 s hs
      · have := (List.getElem?_eq_some_iff.mp hi).1
        show upd row 43 _ (51 + i) = _
        rw [upd_ne (by omega), g2 _ (by omega)]; exact c4.2.2 i f hi
theorem do_link {hx hm : zH} (I : Inv hx hm) (v w : Int32) : Ok2 (SS_link v w hx) (Mo_link v w hm) := by
  obtain ⟨P, S, L, C, hT, hL, hTx⟩ := id I
  obtain ⟨⟨hk, hb1, hl, hP, hF, hSt⟩, hX, hM, hS, hR, hR2⟩ := id C
  have n2 : nb P ≤ 6 := hk.1.2
  have n9 := nl9 hk
  have e1 : hx 17 1 = nI (nl P) := by rw [hX.1]; exact hk.2.1.1
  have e2 : hm 2 1 = nI (nl P) := by rw [hM.1 1 (by omega)]; exact hk.2.1.1
  unfold SS_link Mo_link
  rw [e1, e2]
  rcases pk_ix v (n := nl P) (by omega) with h | h | ⟨l, hl0, rfl⟩
  · rw [if_pos h, mIn_neg h]; exact ⟨_, _, _, rfl, rfl, I⟩
  · by_cases h0 : v < 0
    · rw [if_pos h0, mIn_neg h0]; exact ⟨_, _, _, rfl, rfl, I⟩
    · rw [if_neg h0, if_pos h, mIn_ge (by omega) h]; exact ⟨_, _, _, rfl, rfl, I⟩
  rw [if_neg (nI_pos (by omega)), if_neg (nI_lt_of hl0 (by omega)), mIn_ok (by omega) hl0, Option.bind_some, if_neg (show ¬ (1 : Int32) = 0 by decide)]
  obtain ⟨p1, p2, ha, hb⟩ := ends hl hl0
  have y3 : hm 3 (2 * l) = nI (la P l) := by rw [(hM.2.1 l hl0).1]; exact p1
  have y4 : hm 3 (2 * l + 1) = nI (lb P l) := by rw [(hM.2.1 l hl0).2]; exact p2
  rw [m2, a1, nI_clamp (show 2 * l < 2 ^ 31 by omega), nI_clamp (show 2 * l + 1 < 2 ^ 31 by omega), y3, y4, zr_nI (show 2 * l < 36 by omega) (by omega), zr_nI (show 2 * l + 1 < 36 by omega) (by omega), has_eq _ (show l < 32 by omega), mhas_eq _ (show l < 32 by omega), hR.1.1, hR2.1]
  simp only [gd_n]
  rcases sw_eq w with ⟨rfl, s1, s2⟩ | ⟨rfl, s1, s2⟩ | ⟨s1, s2⟩
  · -- it is opened
    rw [s1, s2, Option.bind_some, Option.bind_some, if_neg (show ¬ (1 : Int32) = 0 by decide), if_neg (show ¬ (1 : Int32) = 0 by decide)]
    simp only [zlet_n, bind_n, if_t, if_f, if_neg (show ¬ (0 : Int32) = 1 by decide)]
    cases ho : bt (sCl S) l
    · rw [if_pos (show b2i false = 0 by rfl), if_pos (show b2i false = 0 by rfl)]; exact ⟨_, _, _, rfl, rfl, I⟩
    · rw [if_neg (show ¬ b2i true = 0 by decide), if_neg (show ¬ b2i true = 0 by decide)]
      obtain ⟨hx', hm', k1, k2, C', hL', hTx'⟩ := kept C hT hL hTx
      rw [k1, k2, Option.bind_some, Option.bind_some]
      obtain ⟨c1, c2, c3, c4, c5, c6⟩ := id C'
      obtain ⟨hx2, o1, o2, o3⟩ := open_x c2 hk hl (Nat.le_refl 29) c5 hl0
      have sub : ∀ j, j < nl P → bt (sCl S &&& (zshl 1 (nI l) ^^^ (-1))) j = true → bt (sCl S) j = true := fun j _ hj => by
        rw [bt_clr (by omega)] at hj
        cases e : bt (sCl S) j
        · rw [e] at hj; exact hj
        · rfl
      have o4 := open_m hk c4 c6 sub
      have hcl : ∀ j, nl P ≤ j → bt (sCl S &&& (zshl 1 (nI l) ^^^ (-1))) j = false := fun j hj => by rw [bt_clr (by omega), hS.1 j hj]; rfl
      have hok : Sok P (sOpen P S (sCl S &&& (zshl 1 (nI l) ^^^ (-1)))) := ⟨hcl, fun r hr => hS.2.1 _ (Nat.lt_of_le_of_lt rt_le hr), hS.2.2.1, hS.2.2.2.1, trivial⟩
      have C2 : Core P (sOpen P S (sCl S &&& (zshl 1 (nI l) ^^^ (-1)))) hx2 (upd2 hm' 7 43 ((hm' 7 43) ^^^ (zshl 1 (nI l)))) := C'.mk hok (fun k q1 q2 => o2 k (by omega)) (fun k q1 q2 => by rw [upd2_ne (by omega)]) o3 (by rw [upd2_eq, c6.1, flip_clr (by omega) ho]; exact o4)
      rw [o1, Option.bind_some, islands_x C2.2.1 hk C2.2.2.2.2.1, islands_m C2.2.2.1 hk hl C2.2.2.2.2.2]
      exact ⟨_, _, _, rfl, rfl, P, _, kpL L S, C2, hT, hL'.of (fun k q1 q2 => o2 k (by omega)) (by rw [upd2_ne (by omega)]) (by rw [upd2_ne (by omega)]), hTx'.of (o2 1 (by omega)) (o2 2 (by omega)) (by rw [upd2_ne (by omega)]) (by rw [upd2_ne (by omega)])⟩
  · -- it is closed
    rw [s1, s2, Option.bind_some, Option.bind_some, if_neg (show ¬ (1 : Int32) = 0 by decide), if_neg (show ¬ (1 : Int32) = 0 by decide)]
    simp only [zlet_n, bind_n, if_t, if_f, if_neg (show ¬ (1 : Int32) = 0 by decide)]
    cases ho : bt (sCl S) l
    · rw [if_neg (show ¬ b2i false = 1 by decide), if_neg (show ¬ b2i false = 1 by decide)]
      obtain ⟨cv, q1, q2⟩ := canClose_eq C hl0
      rw [q1, q2, Option.bind_some, Option.bind_some]
      by_cases hcv : cv = 0
      · rw [if_pos hcv, if_pos hcv]; exact ⟨_, _, _, rfl, rfl, I⟩
      rw [if_neg hcv, if_neg hcv]
      obtain ⟨hx', hm', k1, k2, C', hL', hTx'⟩ := kept C hT hL hTx
      rw [k1, k2, Option.bind_some, Option.bind_some]
      obtain ⟨S', hx2, hm2, w1, w2, w3, w4, w5, C2⟩ := close2 C' hl0 ho
      rw [w1, w2, Option.bind_some, Option.bind_some, islands_x C2.2.1 hk C2.2.2.2.2.1, islands_m C2.2.2.1 hk hl C2.2.2.2.2.2]
      exact ⟨_, _, _, rfl, rfl, P, S', kpL L S, C2, by rw [w5]; exact hT, hL'.of (fun k q1 q2 => w3 k (by omega)) (by rw [upd2_ne (by omega), w4 8 (by omega)]) (by rw [upd2_ne (by omega), w4 0 (by omega)]), hTx'.of (w3 1 (by omega)) (w3 2 (by omega)) (by rw [upd2_ne (by omega), w4 0 (by omega)]) (by rw [upd2_ne (by omega), w4 1 (by omega)])⟩
    · rw [if_pos (show b2i true = 1 by rfl), if_pos (show b2i true = 1 by rfl)]; exact ⟨_, _, _, rfl, rfl, I⟩
  · rw [s1, s2]; exact ⟨_, _, _, rfl, rfl, I⟩
