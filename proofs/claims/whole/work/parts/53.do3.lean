theorem RepM.of67 {P : zH} {row row' : Nat → Int32} {S : St} (hk : okN P) (hS : Sok P S) (h : RepM P row S) (e : ∀ i, i < 67 → row' i = row i) : RepM P row' S := by
  have n1 : nb P ≤ 6 := hk.1.2
  have n2 : np P ≤ 6 := hk.2.2.1.2
  have n5 : ns P ≤ 5 := hk.2.2.2.2.2
  have n4 : nf P ≤ 9 := hk.2.2.2.1.2
  obtain ⟨c1, c2, c3, c4, c5, c6⟩ := h
  have hlen := hS.2.2.2.1.len
  refine ⟨by rw [e _ (by omega)]; exact c1, fun b hb => ⟨by rw [e _ (by omega)]; exact (c2 b hb).1, fun s hs => by rw [e _ (by omega)]; exact (c2 b hb).2 s hs⟩, fun p hp => by rw [e _ (by omega)]; exact c3 p hp, ⟨by rw [e _ (by omega)]; exact c4.1, by rw [e _ (by omega)]; exact c4.2.1, fun i f hi => ?_⟩, fun s hs => by rw [e _ (by omega)]; exact c5 s hs, by rw [e _ (by omega)]; exact c6⟩
  have := (List.getElem?_eq_some_iff.mp hi).1
  show row' (51 + i) = _
  rw [e _ (by omega)]
  exact c4.2.2 i f hi
/-- cells that the state reaches, in the class -/
theorem Core.mk {P : zH} {S : St} {hx hm hx' hm' : zH} (C : Core P S hx hm) {S' : St} (hS : Sok P S') (e1 : ∀ k, 17 ≤ k → k ≤ 28 → hx' k = hx k) (e2 : ∀ k, 2 ≤ k → k ≤ 6 → hm' k = hm k) (r1 : RepX P hx' 29 S') (r2 : RepM P (hm' 7) S') : Core P S' hx' hm' := ⟨C.1, C.2.1.of' e1, C.2.2.1.of' e2, hS, r1, r2⟩
theorem do_undo {hx hm : zH} (I : Inv hx hm) : Ok2 (SS_undo hx) (Mo_undo hm) := by
  obtain ⟨P, S, L, C, hT, hL, hTx⟩ := id I
  have hk : okN P := C.1.1
  obtain ⟨h1, h2, h3, nx, h4, h5, h6⟩ := id hL
  unfold SS_undo Mo_undo
  rw [h3, h2]
  by_cases e0 : L.length = 0
  · rw [e0, if_pos (show nI 0 = 0 by rfl), if_pos (show nI 0 = 0 by rfl)]
    exact ⟨_, _, _, rfl, rfl, I⟩
  · obtain ⟨m, em⟩ : ∃ m, L.length = m + 1 := ⟨L.length - 1, by omega⟩
    have hne : ¬ nI L.length = 0 := fun q => e0 ((nI_eq (b := 0) (by omega) (by omega)).mp q)
    rw [if_neg hne, if_neg hne]
    have hm1 : L.length - 1 < L.length := by omega
    obtain ⟨S', hS'⟩ : ∃ S', L[m]? = some S' := ⟨L[m]'(by omega), List.getElem?_eq_some_iff.mpr ⟨by omega, rfl⟩⟩
    obtain ⟨d1, d2, d3, d4⟩ := h6 m S' hS'
    have hpos : (nx + 4 - L.length + m) % 4 = (nx + 3) % 4 := by omega
    rw [hpos] at d4
    unfold Pa_giveBack
    have z1 : zrem (hx 47 1 + 4 - 1) 4 = nI ((nx + 3) % 4) := by
      rw [h5, show nI nx + 4 - 1 = nI (nx + 3) from by rw [show nI nx + 4 = nI (nx + 4) from nI_add nx 4, show nI (nx + 4) - 1 = nI (nx + 4 - 1) from pk_sub (b := 1) (by omega)]; rfl, zrem_4 _ (by omega)]
    have hlt := Nat.mod_lt (nx + 3) (show 4 > 0 by omega)
    rw [z1, zlet_n, zlet_n]
    have u1 : upd2 hx 47 1 (nI ((nx + 3) % 4)) 47 2 - 1 = nI m := by rw [upd2_eq, upd_ne (by omega), h3, em, show nI (m + 1) - 1 = nI (m + 1 - 1) from pk_sub (b := 1) (by omega)]; rfl
    rw [u1]
    have u2 : upd2 (upd2 hx 47 1 (nI ((nx + 3) % 4))) 47 2 (nI m) 47 1 = nI ((nx + 3) % 4) := by rw [upd2_eq, upd_ne (by omega), upd2_eq, upd_eq]
    rw [u2, zr_nI (by omega) (by omega), gd_true, nI_clamp (by omega), kp_getD _ hlt]
    obtain ⟨x1, c1, c2, c3⟩ := copy_eq hk (upd2 (upd2 hx 47 1 (nI ((nx + 3) % 4))) 47 2 (nI m)) (g := 29) (o := 49 + 8 * ((nx + 3) % 4)) (by omega)
    rw [c1, Option.bind_some, Option.bind_some]
    have k47 : x1 47 2 = nI m := by rw [c2 47 (by omega), upd2_eq, upd_eq]
    have k47' : x1 47 1 = nI ((nx + 3) % 4) := by rw [c2 47 (by omega)]; exact u2
    have kx : ∀ k, k ≠ 47 → ¬ (29 ≤ k ∧ k ≤ 36) → x1 k = hx k := fun k k1 k2 => by rw [c2 k (by omega), upd2_ne k1, upd2_ne k1]
    rw [k47, zlet_n, em, show nI (m + 1) - 1 = nI m from pk_sub (b := 1) (by omega)]
    refine exists_step (loop_ex (fun n x s => Mo_undo_L22 (fun h_4 => some ((h_4 0 10), h_4)) n x s) (fun h_4 => some ((h_4 0 10), h_4)) (fun i s => ∃ r, s = setc (upd2 hm 0 10 (nI m)) 7 r ∧ ∀ j, j < i → r j = hm 8 (67 * m + j)) 67 ?_ ?_ 67 0 1000 (upd2 hm 0 10 (nI m)) (by omega) (by omega) ⟨_, setc_self.symm, fun j hj => by omega⟩) ?_
    · rintro n i s hi ⟨r, rfl, g1⟩
      have hh' : setc (upd2 hm 0 10 (nI m)) 7 r 0 10 = nI m := by rw [setc_ne (by omega), upd2_eq, upd_eq]
      have h8 : setc (upd2 hm 0 10 (nI m)) 7 r 8 = hm 8 := by rw [setc_ne (by omega), upd2_ne (by omega)]
      rw [Mo_undo_L22, if_neg (lit67 hi), hh', h8]
      simp (disch := omega) only [m67, nI_add, zr_nI, gd_true, nI_clamp]
      generalize upd2 hm 0 10 (nI m) = H
      rw [zlet_n, nI_1, upd2_c, setc_eq, setc_setc]
      refine ⟨_, ⟨_, rfl, fun j hj => ?_⟩, rfl⟩
      by_cases e : j = i
      · subst e; exact upd_eq
      · rw [upd_ne e]; exact g1 j (by omega)
    · rintro n s ⟨r, rfl, g1⟩
      rw [Mo_undo_L22]
      exact if_pos (nI_le_rf 67)
    · rintro ⟨s, ⟨r, rfl, g1⟩, g2⟩
      have hh' : setc (upd2 hm 0 10 (nI m)) 7 r 0 10 = nI m := by rw [setc_ne (by omega), upd2_eq, upd_eq]
      rw [hh'] at g2
      have km : ∀ k, k ≠ 0 → k ≠ 7 → setc (upd2 hm 0 10 (nI m)) 7 r k = hm k := fun k k0 k7 => by rw [setc_ne k7, upd2_ne k0]
      have r1 : RepX P x1 29 S' := c3 S' (d4.of (fun k k1 k2 => by rw [upd2_ne (by omega), upd2_ne (by omega)]))
      have r2 : RepM P (setc (upd2 hm 0 10 (nI m)) 7 r 7) S' := by rw [setc_eq]; exact d3.of67 hk d1 g1
      refine ⟨nI m, _, _, rfl, g2, P, S', L.take m, C.mk d1 (fun k k1 k2 => kx k (by omega) (by omega)) (fun k k1 k2 => km k (by omega) (by omega)) r1 r2, d2, ⟨by simp; omega, ?_, ?_, (nx + 3) % 4, hlt, k47', fun k S'' hg => ?_⟩, hTx.of (kx 1 (by omega) (by omega)) (kx 2 (by omega) (by omega)) (by rw [setc_ne (by omega), upd2_eq, upd_ne (by omega)]) (km 1 (by omega) (by omega))⟩
      · rw [hh', List.length_take, show min m L.length = m by omega]
      · rw [k47, List.length_take, show min m L.length = m by omega]
      · have hkm : k < m := by
          have := (List.getElem?_eq_some_iff.mp hg).1
          rw [List.length_take] at this; omega
        rw [List.getElem?_take_of_lt hkm] at hg
        obtain ⟨f1, f2, f3, f4⟩ := h6 k S'' hg
        rw [List.length_take, show min m L.length = m by omega]
        have ei : (nx + 4 - L.length + k) % 4 = ((nx + 3) % 4 + 4 - m + k) % 4 := by omega
        rw [← ei]
        have hlt2 := Nat.mod_lt (nx + 4 - L.length + k) (show 4 > 0 by omega)
        exact ⟨f1, f2, by rw [km 8 (by omega) (by omega)]; exact f3, f4.of (fun j j1 j2 => kx j (by omega) (by omega))⟩
/-- several TICKS -/
noncomputable def tkn (P : zH) (n : Nat) (S : St) : St × Ev := itr (fun _ q => ((sTicks P q.1).1, q.2.1 ++ (sTicks P q.1).2.1, q.2.2 + (sTicks P q.1).2.2)) 0 n (S, [], 0)
theorem tkn_succ {P : zH} {n : Nat} {S : St} : tkn P (n + 1) S = ((sTicks P (tkn P n S).1).1, (tkn P n S).2.1 ++ (sTicks P (tkn P n S).1).2.1, (tkn P n S).2.2 + (sTicks P (tkn P n S).1).2.2) := by
  unfold tkn; rw [itr_snoc]
theorem tkn_ok {P : zH} {S : St} (hP : okP P) (h : Sok P S) : ∀ n, Sok P (tkn P n S).1 ∧ sCl (tkn P n S).1 = sCl S ∧ sTk (tkn P n S).1 = sTk S + nI n
  | 0 => ⟨h, rfl, (Int32.add_zero _).symm⟩
  | n + 1 => by
    obtain ⟨h1, h2, h3⟩ := tkn_ok hP h n
    obtain ⟨g1, g2, g3⟩ := sTicks_ok hP h1
    rw [tkn_succ]
    exact ⟨g1, g2.trans h2, by rw [g3, h3, Int32.add_assoc, nI_1]⟩
theorem nI_btw {v : Int32} {a b : Nat} (h1 : (a : Int) ≤ v.toInt) (h2 : v.toInt ≤ (b : Int)) (hb : b < 2 ^ 30) : ∃ n, v = nI n ∧ a ≤ n ∧ n ≤ b := by
  refine ⟨v.toInt.toNat, ieq.mpr ?_, by omega, by omega⟩
  rw [nI_toInt (by omega)]; omega
theorem tk_bd {t : Int32} {n : Nat} (h : isIn t 0 9999) (hn : n ≤ 60) : (t + nI n).toInt = t.toInt + n := by
  have e : (nI n).toInt = n := nI_toInt (by omega)
  obtain ⟨h1, h2⟩ := h
  rw [ia (by rw [e]; omega) (by rw [e]; omega), e]
/-- the class passes several times -/
theorem xticks {P h : zH} {c g n : Nat} {S : St} {ρ : Type} (F : Nat → Int32 → zH → Option ρ) (k : zH → Option ρ) (hF1 : ∀ m i s, i < n → F (m + 1) (nI i) s = (Co_pass c g s).bind fun s' => F m (nI i + 1) s') (hF2 : ∀ m s, F (m + 1) (nI n) s = k s) (hX : PX P h) (hk : okN P) (hP : okP P) (hF : okF P) (hg : 29 ≤ g) (hc : ¬ (g ≤ c ∧ c ≤ g + 7)) (hc29 : 29 ≤ c) (hR : RepX P h g S) (hS : Sok P S) (hn : n ≤ 60) :
    ∃ h', F 1000 0 h = k h' ∧ Xf g c h h' ∧ RepX P h' g (tkn P n S).1 ∧ ck P h h' c (tkn P n S).2.1 (tkn P n S).2.2 := by
  refine exists_step (loop_ex F k (fun i s => Xf g c h s ∧ RepX P s g (tkn P i S).1 ∧ ck P h s c (tkn P i S).2.1 (tkn P i S).2.2) n ?_ ?_ n 0 1000 h (by omega) (by omega) ⟨fun _ _ _ => rfl, hR, ck.rf⟩) ?_
  · rintro m i s hi ⟨g1, g2, g3⟩
    rw [hF1 m i s hi]
    obtain ⟨s', p1, p2, p3, p4⟩ := xpass (hX.of' (fun k k1 k2 => g1 k (by omega) (by omega))) hk hP hF hg hc hc29 g2 (tkn_ok hP hS i).1
    rw [p1, Option.bind_some, nI_1]
    refine ⟨s', ⟨fun k k1 k2 => (p2 k k1 k2).trans (g1 k k1 k2), ?_, ?_⟩, rfl⟩
    · rw [tkn_succ]; exact p3
    · rw [tkn_succ]; exact g3.tr p4
  · rintro m s _
    exact hF2 m s
  · rintro ⟨s, ⟨g1, g2, g3⟩, g4⟩
    exact ⟨s, g4, g1, g2, g3⟩
theorem mticksn {P hm : zH} {n : Nat} {S : St} {ρ : Type} (F : Nat → Int32 → zH → Option ρ) (k : zH → Option ρ) (hF1 : ∀ m i s, i < n → F (m + 1) (nI i) s = (Mo_ticks s).bind fun s' => F m (nI i + 1) s') (hF2 : ∀ m s, F (m + 1) (nI n) s = k s) (hM : PM P hm) (hk : okN P) (hl : okL P) (hP : okP P) (hF : okF P) (hR : RepM P (hm 7) S) (hS : Sok P S) (hn : n ≤ 60) :
    ∃ h', F 1000 0 hm = k h' ∧ MS P hm h' (tkn P n S).1 (tkn P n S).2.1 (tkn P n S).2.2 := by
  refine exists_step (loop_ex F k (fun i s => MS P hm s (tkn P i S).1 (tkn P i S).2.1 (tkn P i S).2.2) n ?_ ?_ n 0 1000 hm (by omega) (by omega) ⟨Mfr.rf, hR, mk0.rf⟩) ?_
  · rintro m i s hi g1
    rw [hF1 m i s hi]
    obtain ⟨s', p1, p2⟩ := mticks_eq (hM.of g1.1) hk hl hP hF g1.2.1 (tkn_ok hP hS i).1
    rw [p1, Option.bind_some, nI_1]
    refine ⟨s', ?_, rfl⟩
    rw [tkn_succ]; exact g1.tr p2
  · rintro m s _
    exact hF2 m s
  · rintro ⟨s, g1, g4⟩
    exact ⟨s, g4, g1⟩
theorem do_tick {hx hm : zH} (I : Inv hx hm) (v : Int32) : Ok2 (SS_tick v hx) (Mo_tick v hm) := by
  obtain ⟨P, S, L, C, hT, hL, hTx⟩ := id I
  obtain ⟨⟨hk, hb1, hl, hP, hF, hSt⟩, hX, hM, hS, hR, hR2⟩ := id C
  unfold SS_tick Mo_tick Mo_isIn
  by_cases h1 : v < 1
  · rw [if_pos h1, if_pos h1]; exact ⟨_, _, _, rfl, rfl, I⟩
  rw [if_neg h1, if_neg h1]
  by_cases h2 : v ≤ 60
  · rw [if_pos h2, if_neg (Int32.not_lt.mpr h2), Option.bind_some, if_neg (show ¬ (1 : Int32) = 0 by decide), hR.2, hR2.2.2.2.2.2]
    obtain ⟨n, rfl, n1, n2⟩ := nI_btw (v := v) (a := 1) (b := 60) (by have := ile.mp (Int32.not_lt.mp h1); simpa using this) (by have := ile.mp h2; simpa using this) (by omega)
    by_cases h3 : sTk S + nI n ≤ 9999
    · rw [if_pos h3, if_pos h3]
      obtain ⟨hx', hm', a1, a2, C', hL', hTx'⟩ := kept C hT hL hTx
      rw [a1, a2, Option.bind_some, Option.bind_some]
      unfold Co_forget Mo_fresh
      simp only [zlet_eq, Option.bind_some]
      obtain ⟨c1, c2, c3, c4, c5, c6⟩ := id C'
      obtain ⟨x1, x2, x3, x4, x5⟩ := xticks (P := P) (S := S) (n := n) (c := 45) (g := 29) (h := upd2 (upd2 (upd2 hx' 45 2 0) 45 3 0) 45 4 0) (fun m x s => SS_tick_L51 (nI n) (fun h_5 => some ((h_5 45 2), h_5)) m x s) (fun h_5 => some ((h_5 45 2), h_5)) (fun m i s hi => by rw [SS_tick_L51, if_neg (nI_lt_of hi (by omega))]) (fun m s => by rw [SS_tick_L51, if_pos (nI_le_rf n)]) (c2.of' (fun k k1 k2 => by rw [upd2_ne (by omega), upd2_ne (by omega), upd2_ne (by omega)])) hk hP hF (by omega) (by omega) (by omega) (c5.of (fun k k1 k2 => by rw [upd2_ne (by omega), upd2_ne (by omega), upd2_ne (by omega)])) c4 n2
      obtain ⟨y1, y2, y3⟩ := mticksn (P := P) (S := S) (n := n) (hm := upd2 (upd2 (upd2 (upd2 hm' 0 13 0) 0 14 0) 0 15 0) 0 16 0) (fun m x s => Mo_tick_L40 (nI n) (fun h_5 => some ((h_5 0 13), h_5)) m x s) (fun h_5 => some ((h_5 0 13), h_5)) (fun m i s hi => by rw [Mo_tick_L40, if_neg (nI_lt_of hi (by omega))]) (fun m s => by rw [Mo_tick_L40, if_pos (nI_le_rf n)]) (c3.of' (fun k k1 k2 => by rw [upd2_ne (by omega), upd2_ne (by omega), upd2_ne (by omega), upd2_ne (by omega)])) hk hl hP hF (by rw [upd2_ne (by omega), upd2_ne (by omega), upd2_ne (by omega), upd2_ne (by omega)]; exact c6) c4 n2
      rw [x2, y2]
      have ex : x1 45 2 = nI (tkn P n S).2.1.length := by rw [x5.1, upd2_eq, upd_ne (by omega), upd2_eq, upd_ne (by omega), upd2_eq, upd_eq, Int32.zero_add]
      have ey : y1 0 13 = nI (tkn P n S).2.1.length := by rw [y3.2.2.1, upd2_eq, upd_ne (by omega), upd2_eq, upd_ne (by omega), upd2_eq, upd_ne (by omega), upd2_eq, upd_eq, Int32.zero_add]
      rw [ex, ey]
      obtain ⟨t1, t2, t3⟩ := tkn_ok hP hS n
      have kx : ∀ k, k ≠ 45 → ¬ (29 ≤ k ∧ k ≤ 36) → x1 k = hx' k := fun k k1 k2 => by rw [x3 k k1 k2, upd2_ne k1, upd2_ne k1, upd2_ne k1]
      have km : ∀ k, k ≠ 0 → k ≠ 7 → y1 k = hm' k := fun k k0 k7 => by rw [y3.1 k k0 k7, upd2_ne k0, upd2_ne k0, upd2_ne k0, upd2_ne k0]
      have k0 : ∀ j, j < 13 → y1 0 j = hm' 0 j := fun j hj => by rw [y3.2.2.2.2.2.2 j hj, upd2_eq, upd_ne (by omega), upd2_eq, upd_ne (by omega), upd2_eq, upd_ne (by omega), upd2_eq, upd_ne (by omega)]
      refine ⟨_, _, _, rfl, rfl, P, (tkn P n S).1, kpL L S, C'.mk t1 (fun k k1 k2 => kx k (by omega) (by omega)) (fun k k1 k2 => km k (by omega) (by omega)) x4 y3.2.1, ?_, hL'.of (fun k k1 k2 => kx k (by omega) (by omega)) (km 8 (by omega) (by omega)) (k0 10 (by omega)), hTx'.of (kx 1 (by omega) (by omega)) (kx 2 (by omega) (by omega)) (k0 0 (by omega)) (km 1 (by omega) (by omega))⟩
      rw [t3]
      have q := tk_bd hT n2
      have q2 := ile.mp h3
      refine ⟨by rw [q]; have := hT.1; omega, ?_⟩
      simpa using q2
    · rw [if_neg h3, if_neg h3]; exact ⟨_, _, _, rfl, rfl, I⟩
  · rw [if_neg h2, if_pos (Int32.not_le.mp h2)]; exact ⟨_, _, _, rfl, rfl, I⟩
