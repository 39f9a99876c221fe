/-- the reference takes the plan -/
theorem lay_m {h hm : zH} {b l q f s : Nat} (d : DX 17 h hm b l q f s) (hb : 0 < b) : ∃ hm', Mo_takes hm = some hm' ∧ PM (fun k => h (17 + k)) hm' ∧ RepM (fun k => h (17 + k)) (hm' 7) (wG (S00 (fun k => h (17 + k))) (gvA (fun k => h (17 + k)) (S00 (fun k => h (17 + k))))) ∧ hm' 0 10 = 0 ∧ hm' 0 0 = hm 0 0 ∧ hm' 1 = hm 1 ∧ hm' 8 = hm 8 := by
  obtain ⟨⟨hk, hb1, hl, hP, hF, hSt⟩, eb, el, eq, ef, es⟩ := d.plan hb
  obtain ⟨⟨b6, l9, q6, f9, s5⟩, ⟨c0, c1, c2, c3, c4⟩, ⟨m0, m1, m2', m3', m4'⟩, dl, dq, df, ds⟩ := id d
  unfold Mo_takes
  obtain ⟨r2, t1, t2⟩ := takes1 (fun h_3 => Mo_takes_L29 (fun h_11 => Mo_takes_L121 (fun h_14 => Mo_takes_L142 (fun h_17 => zlet (upd2 h_17 7 42 ((zshl 1 (h_17 2 3)) - 1)) fun h_18 => zlet (upd2 h_18 7 43 ((zshl 1 (h_18 2 1)) - 1)) fun h_19 => Mo_takes_L203 (fun h_22 => Mo_takes_L238 (fun h_25 => zlet (upd2 h_25 0 10 0) fun h_26 => some h_26) 1000 0 h_22) 1000 0 h_19) 1000 0 h_14) 1000 0 h_11) 1000 0 h_3) hm
  rw [t1]
  obtain ⟨hA, a1', a2', a3', a4', a5', a6'⟩ := takes2 (fun h_11 => Mo_takes_L121 (fun h_14 => Mo_takes_L142 (fun h_17 => zlet (upd2 h_17 7 42 ((zshl 1 (h_17 2 3)) - 1)) fun h_18 => zlet (upd2 h_18 7 43 ((zshl 1 (h_18 2 1)) - 1)) fun h_19 => Mo_takes_L203 (fun h_22 => Mo_takes_L238 (fun h_25 => zlet (upd2 h_25 0 10 0) fun h_26 => some h_26) 1000 0 h_22) 1000 0 h_19) 1000 0 h_14) 1000 0 h_11) (setc hm 2 r2)
  rw [a1']
  have A2 : hA 2 = r2 := by rw [a2' 2 (by omega) (by omega) (by omega) (by omega), setc_eq]
  have Ak : ∀ c, c ≠ 2 → c ≠ 3 → c ≠ 4 → c ≠ 5 → c ≠ 6 → hA c = hm c := fun c h2 h3 h4 h5 h6 => by rw [a2' c h3 h4 h5 h6, setc_ne h2]
  have hPM : PM (fun k => h (17 + k)) hA := by
    refine ⟨fun k hk5 => ?_, fun i hi => ?_, fun i hi => ?_, fun i hi => ?_, fun i hi => ?_⟩
    · rw [A2, t2 k hk5]
      match k, hk5 with
      | 0, _ => exact m0.trans c0.symm
      | 1, _ => exact m1.trans c1.symm
      | 2, _ => exact m2'.trans c2.symm
      | 3, _ => exact m3'.trans c3.symm
      | 4, _ => exact m4'.trans c4.symm
    · rw [el] at hi
      obtain ⟨_, _, z1, z2⟩ := dl i hi
      rw [a3' _ (by omega), a3' _ (by omega), setc_ne (by omega)]
      exact ⟨z1, by rw [show 18 + (2 * i + 1) = 19 + 2 * i by omega]; exact z2⟩
    · rw [eq] at hi
      obtain ⟨_, _, _, _, z1, z2, z3, z4⟩ := dq i hi
      rw [a4' _ (by omega), a4' _ (by omega), a4' _ (by omega), a4' _ (by omega), setc_ne (by omega)]
      exact ⟨z1, by rw [show 24 + (4 * i + 1) = 25 + 4 * i by omega]; exact z2, by rw [show 24 + (4 * i + 2) = 26 + 4 * i by omega]; exact z3, by rw [show 24 + (4 * i + 3) = 27 + 4 * i by omega]; exact z4⟩
    · rw [ef] at hi
      obtain ⟨_, _, _, z1, z2, z3⟩ := df i hi
      rw [a5' _ (by omega), a5' _ (by omega), a5' _ (by omega), setc_ne (by omega)]
      exact ⟨z1, by rw [show 27 + (3 * i + 1) = 28 + 3 * i by omega]; exact z2, by rw [show 27 + (3 * i + 2) = 29 + 3 * i by omega]; exact z3⟩
    · rw [es] at hi
      rw [a6' _ (by omega), setc_ne (by omega), show 12 + (2 * i + 1) = 13 + 2 * i by omega]
      exact (ds i hi).2.2
  have hA60 : ∀ j, j ≤ s → hA 6 (2 * j) = h (17 + 10) j := fun j hj => by rw [a6' _ (by omega), setc_ne (by omega)]; exact (ds j hj).2.1
  have hA20 : hA 2 0 = nI b := by rw [A2, t2 0 (by omega)]; exact m0
  have hA21 : hA 2 1 = nI l := by rw [A2, t2 1 (by omega)]; exact m1
  have hA23 : hA 2 3 = nI f := by rw [A2, t2 3 (by omega)]; exact m3'
  have hA24 : hA 2 4 = nI s := by rw [A2, t2 4 (by omega)]; exact m4'
  obtain ⟨r7, b1', b2'⟩ := takes3 (fun h_14 => Mo_takes_L142 (fun h_17 => zlet (upd2 h_17 7 42 ((zshl 1 (h_17 2 3)) - 1)) fun h_18 => zlet (upd2 h_18 7 43 ((zshl 1 (h_18 2 1)) - 1)) fun h_19 => Mo_takes_L203 (fun h_22 => Mo_takes_L238 (fun h_25 => zlet (upd2 h_25 0 10 0) fun h_26 => some h_26) 1000 0 h_22) 1000 0 h_19) 1000 0 h_14) hA
  rw [b1']
  obtain ⟨r8, c1', c2', c3'⟩ := takes4 (fun h_17 => zlet (upd2 h_17 7 42 ((zshl 1 (h_17 2 3)) - 1)) fun h_18 => zlet (upd2 h_18 7 43 ((zshl 1 (h_18 2 1)) - 1)) fun h_19 => Mo_takes_L203 (fun h_22 => Mo_takes_L238 (fun h_25 => zlet (upd2 h_25 0 10 0) fun h_26 => some h_26) 1000 0 h_22) 1000 0 h_19) (setc hA 7 r7) (b := b) (by rw [setc_ne (by omega)]; exact hA20) b6
  rw [c1', setc_setc, zlet_n, zlet_n, setc_ne (show (2 : Nat) ≠ 7 by omega), hA23, upd2_ne (show (2 : Nat) ≠ 7 by omega), setc_ne (show (2 : Nat) ≠ 7 by omega), hA21]
  rw [setc_eq] at c3'
  have eu : upd2 (upd2 (setc hA 7 r8) 7 42 (zshl 1 (nI f) - 1)) 7 43 (zshl 1 (nI l) - 1) = setc hA 7 (upd (upd r8 42 (zshl 1 (nI f) - 1)) 43 (zshl 1 (nI l) - 1)) := by
    funext k
    by_cases ek : k = 7
    · subst ek; rw [upd2_eq, upd2_eq, setc_eq, setc_eq]
    · rw [upd2_ne ek, upd2_ne ek, setc_ne ek, setc_ne ek]
  rw [eu]
  obtain ⟨r9, d1', d2', d3'⟩ := takes5 (fun h_22 => Mo_takes_L238 (fun h_25 => zlet (upd2 h_25 0 10 0) fun h_26 => some h_26) 1000 0 h_22) (setc hA 7 (upd (upd r8 42 (zshl 1 (nI f) - 1)) 43 (zshl 1 (nI l) - 1))) (s := s) (by rw [setc_ne (by omega)]; exact hA24) s5
  rw [d1', setc_setc]
  rw [setc_eq] at d3'
  rw [setc_ne (show (6 : Nat) ≠ 7 by omega)] at d2'
  have q43 : r9 43 = zshl 1 (nI l) - 1 := by rw [d3' 43 (by omega), upd_eq]
  have q42 : r9 42 = zshl 1 (nI f) - 1 := by rw [d3' 42 (by omega), upd_ne (by omega), upd_eq]
  have q0 : ∀ j, b ≤ j → j < 67 → j ≠ 42 → j ≠ 43 → ¬ (60 ≤ j ∧ j ≤ 65) → r9 j = 0 := fun j j1 j2 j3 j4 j5 => by rw [d3' j j5, upd_ne j4, upd_ne j3, c3' j j1]; exact b2' j j2
  have qF : ∀ j, j < b → r9 j = 5000 := fun j hj => by rw [d3' j (by omega), upd_ne (by omega), upd_ne (by omega)]; exact c2' j hj
  have hPM9 : PM (fun k => h (17 + k)) (setc hA 7 r9) := hPM.of Mfr.s7
  have hcl : sCl (S00 (fun k => h (17 + k))) = zshl 1 (nI l) - 1 := by show zshl 1 (nI (nl (fun k => h (17 + k)))) - 1 = _; rw [el]
  obtain ⟨r10, e1', e2', e3'⟩ := takes6 (S := S00 (fun k => h (17 + k))) hk hl hP hF (fun h_25 => zlet (upd2 h_25 0 10 0) fun h_26 => some h_26) (setc hA 7 r9) hPM9 (by rw [setc_eq, hcl]; exact q43) (fun g hg => by rw [ef] at hg; rw [setc_eq, q42, bt_low' (by omega)]; exact decide_eq_true hg) (fun i hi => by rw [eq] at hi; rw [setc_eq]; exact q0 _ (by omega) (by omega) (by omega) (by omega) (by omega))
  rw [e1', setc_setc, zlet_n]
  rw [setc_eq] at e2'
  refine ⟨_, rfl, hPM.of' (fun k k1 k2 => by rw [upd2_ne (by omega), setc_ne (by omega)]), ?_, by rw [upd2_eq, upd_eq], by rw [upd2_eq, upd_ne (by omega), setc_ne (by omega), Ak 0 (by omega) (by omega) (by omega) (by omega) (by omega)], by rw [upd2_ne (by omega), setc_ne (by omega), Ak 1 (by omega) (by omega) (by omega) (by omega) (by omega)], by rw [upd2_ne (by omega), setc_ne (by omega), Ak 8 (by omega) (by omega) (by omega) (by omega) (by omega)]⟩
  rw [upd2_ne (by omega), setc_eq]
  refine ⟨by rw [e2' 43 (by omega), q43]; exact hcl.symm, fun c hc => ⟨?_, fun t ht => ?_⟩, e3', ⟨fun g => ?_, ?_, fun i g hi => by cases hi⟩, fun t ht => ?_, ?_⟩
  · rw [eb] at hc
    rw [e2' c (by omega)]; exact qF c hc
  · rw [eb] at hc
    rw [e2' _ (by omega)]
    by_cases hz : 6 + 6 * c + t = 42 ∨ 6 + 6 * c + t = 43
    · omega
    · exact q0 _ (by omega) (by omega) (by omega) (by omega) (by omega)
  · rw [e2' 42 (by omega), q42, bt_low' (by omega), ef]
    exact (Bool.and_true _).symm
  · rw [e2' 50 (by omega)]; exact q0 50 (by omega) (by omega) (by omega) (by omega) (by omega)
  · rw [es] at ht
    rw [e2' _ (by omega), d2' t ht]; exact hA60 t ht
  · rw [e2' 66 (by omega)]; exact q0 66 (by omega) (by omega) (by omega) (by omega) (by omega)
theorem do_lay {hx hm : zH} (I : Inv hx hm) : Ok2 (SS_lay hx) (Mo_lay hm) := by
  obtain ⟨P, S, L, C, hT, hL, hTx⟩ := id I
  obtain ⟨v, hx', hm', r1, r2, r3, r4, r5⟩ := read_eq (p := 5) (by omega) hTx
  unfold SS_lay Mo_lay
  rw [r1, r2, Option.bind_some, Option.bind_some]
  dsimp only
  by_cases hv : v = -4
  · rw [if_pos hv, if_pos hv]
    obtain ⟨b, l, q, f, s, d⟩ := r5 hv
    have b6 := d.1.1
    by_cases hb : b = 0
    · rw [if_pos (show hx' 5 0 = 0 by rw [d.2.1.1, hb]; rfl), if_pos (show hm' 2 5 = 0 by rw [d.2.2.1.1, hb]; rfl)]
      exact ⟨_, _, _, rfl, rfl, I.fr r3 r4⟩
    · have hb' : ¬ nI b = 0 := fun z => hb ((nI_eq (b := 0) (by omega) (by omega)).mp z)
      rw [if_neg (show ¬ hx' 5 0 = 0 by rw [d.2.1.1]; exact hb'), if_neg (show ¬ hm' 2 5 = 0 by rw [d.2.2.1.1]; exact hb')]
      have hTx' : TXt hx' hm := hTx.of (r3 1 (by omega) (by omega)) (r3 2 (by omega) (by omega)) rfl rfl
      obtain ⟨v2, hx2, hm2, s1, s2, s3, s4, s5⟩ := read_eq (p := 17) (by omega) hTx'
      rw [r2] at s2
      cases s2
      obtain ⟨b2, l2, q2, f2, s2, d2⟩ := s5 hv
      have hb2 : 0 < b2 := by
        rcases Nat.eq_zero_or_pos b2 with z | z
        · subst z
          have := d2.2.2.1.1
          rw [d.2.2.1.1] at this
          exact absurd this hb'
        · exact z
      obtain ⟨hPk, eb, el, eq, ef, es⟩ := d2.plan hb2
      obtain ⟨hk, hb1, hl, hP, hF, hSt⟩ := id hPk
      have hPX : PX (fun k => hx2 (17 + k)) hx2 := ⟨rfl, rfl, rfl, rfl, rfl, rfl, rfl, rfl, rfl, rfl, rfl, rfl⟩
      obtain ⟨h3, w1, w2, w3⟩ := lay_x hPX hk hl hP hF
      obtain ⟨hm3, y1, y2, y3, y4, y5, y6, y7⟩ := lay_m d2 hb2
      rw [s1, Option.bind_some]
      dsimp only
      rw [w1, y1, Option.bind_some, Option.bind_some]
      unfold Pa_clear
      rw [zlet_n, Option.bind_some]
      have hok := S00_ok hk hP
      have hX3 : PX (fun k => hx2 (17 + k)) (upd2 h3 47 2 0) := hPX.of' (fun k k1 k2 => by rw [upd2_ne (by omega), w2 k (by omega)])
      have hR3 : RepX (fun k => hx2 (17 + k)) (upd2 h3 47 2 0) 29 (wG (S00 (fun k => hx2 (17 + k))) (gvA (fun k => hx2 (17 + k)) (S00 (fun k => hx2 (17 + k))))) := w3.of (fun k k1 k2 => by rw [upd2_ne (by omega)])
      have C3 : Core (fun k => hx2 (17 + k)) (wG (S00 (fun k => hx2 (17 + k))) (gvA (fun k => hx2 (17 + k)) (S00 (fun k => hx2 (17 + k))))) (upd2 h3 47 2 0) hm3 := ⟨hPk, hX3, y2, ⟨hok.1, hok.2.1, fun p hp => gv_ok hk hP hF hp, hok.2.2.2.1, trivial⟩, hR3, y3⟩
      rw [islands_x hX3 hk hR3, islands_m y2 hk hl y3]
      have ek : ∀ k, k ≠ 4 → ¬ (5 ≤ k ∧ k ≤ 36) → k ≠ 47 → upd2 h3 47 2 0 k = hx k := fun k k4 k0 k47 => by rw [upd2_ne k47, w2 k (by omega), s3 k k4 (by omega), r3 k k4 (by omega)]
      obtain ⟨g1, g2, g3, nx, g4, g5, g6⟩ := hL
      refine ⟨_, _, _, rfl, rfl, _, _, [], C3, ⟨by show (0 : Int) ≤ (0 : Int32).toInt; decide, by show (0 : Int32).toInt ≤ (9999 : Int); decide⟩, ⟨by simp, y4, by rw [upd2_eq, upd_eq]; rfl, nx, g4, ?_, fun k S' hk' => by cases hk'⟩, hTx.of (ek 1 (by omega) (by omega) (by omega)) (ek 2 (by omega) (by omega) (by omega)) (by rw [y5]; exact s4.2.1 0 (by omega) (by omega)) (by rw [y6]; exact s4.1 1 (by omega) (by omega) (by omega) (by omega) (by omega) (by omega))⟩
      rw [upd2_eq, upd_ne (by omega), w2 47 (by omega), s3 47 (by omega) (by omega), r3 47 (by omega) (by omega)]; exact g5
  · rw [if_neg hv, if_neg hv]
    exact ⟨_, _, _, rfl, rfl, I.fr r3 r4⟩
