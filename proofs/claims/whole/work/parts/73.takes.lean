/-! a plan is taken -/
theorem p5 (i : Nat) : (5 : Int32) + nI i = nI (5 + i) := nI_add 5 i
theorem p12 (i : Nat) : (12 : Int32) + nI i = nI (12 + i) := nI_add 12 i
theorem takes1 (k : zH → Option zH) (hm : zH) : ∃ r, Mo_takes_L2 k 1000 0 hm = k (setc hm 2 r) ∧ (∀ j, j < 5 → r j = hm 2 (5 + j)) := by
  refine exists_step (loop_ex (fun n x s => Mo_takes_L2 k n x s) k (fun i s => ∃ r, s = setc hm 2 r ∧ (∀ j, j < i → r j = hm 2 (5 + j)) ∧ ∀ j, 5 ≤ j → r j = hm 2 j) 5 ?_ ?_ 5 0 1000 hm (by omega) (by omega) ⟨hm 2, setc_self.symm, fun j hj => by omega, fun _ _ => rfl⟩) ?_
  · rintro n i s hi ⟨r, rfl, g1, g2⟩
    rw [Mo_takes_L2, if_neg (show ¬ (5 : Int32) ≤ nI i from nI_lt_of (e := 5) hi (by omega)), p5, zr_nI (show 5 + i < 10 by omega) (by omega), zr_nI (show i < 10 by omega) (by omega), gd_true, gd_true, zlet_n, nI_clamp (show i < 2 ^ 31 by omega), nI_clamp (show 5 + i < 2 ^ 31 by omega), nI_1, upd2_c, setc_eq, setc_setc, g2 (5 + i) (by omega)]
    refine ⟨_, ⟨_, rfl, fun j hj => ?_, fun j hj => ?_⟩, rfl⟩
    · by_cases e : j = i
      · subst e; exact upd_eq
      · rw [upd_ne e]; exact g1 j (by omega)
    · rw [upd_ne (by omega)]; exact g2 j hj
  · rintro n s ⟨r, rfl, g1, g2⟩
    rw [Mo_takes_L2]
    exact if_pos (nI_le_rf 5)
  · rintro ⟨s, ⟨r, rfl, g1, g2⟩, g3⟩
    exact ⟨r, g3, g1⟩
/-- cell c: the lower half becomes the upper one, so far -/
def Hf (c w i : Nat) (hm s : zH) : Prop := (∀ j, j < i → j < w → s c j = hm c (w + j)) ∧ ∀ j, w ≤ j → s c j = hm c j
theorem Hf.st {c w i : Nat} {hm s : zH} (h : Hf c w i hm s) (hi : i < w) : Hf c w (i + 1) hm (upd2 s c i (s c (w + i))) := by
  refine ⟨fun j hj hw => ?_, fun j hj => ?_⟩
  · by_cases e : j = i
    · subst e; rw [upd2_eq, upd_eq]; exact h.2 _ (by omega)
    · rw [upd2_eq, upd_ne e]; exact h.1 j (by omega) hw
  · rw [upd2_eq, upd_ne (by omega)]; exact h.2 j hj
theorem Hf.sk {c w i : Nat} {hm s : zH} (h : Hf c w i hm s) (hi : w ≤ i) : Hf c w (i + 1) hm s := ⟨fun j hj hw => h.1 j (by omega) hw, h.2⟩
theorem Hf.of {c w i : Nat} {hm s s' : zH} (h : Hf c w i hm s) (e : s' c = s c) : Hf c w i hm s' := ⟨fun j hj hw => by rw [e]; exact h.1 j hj hw, fun j hj => by rw [e]; exact h.2 j hj⟩
theorem takes2 (k : zH → Option zH) (hm : zH) : ∃ h', Mo_takes_L29 k 1000 0 hm = k h' ∧ (∀ c, c ≠ 3 → c ≠ 4 → c ≠ 5 → c ≠ 6 → h' c = hm c) ∧ (∀ j, j < 18 → h' 3 j = hm 3 (18 + j)) ∧ (∀ j, j < 24 → h' 4 j = hm 4 (24 + j)) ∧ (∀ j, j < 27 → h' 5 j = hm 5 (27 + j)) ∧ ∀ j, j < 12 → h' 6 j = hm 6 (12 + j) := by
  refine exists_step (loop_ex (fun n x s => Mo_takes_L29 k n x s) k (fun i s => (∀ c, c ≠ 3 → c ≠ 4 → c ≠ 5 → c ≠ 6 → s c = hm c) ∧ Hf 3 18 i hm s ∧ Hf 4 24 i hm s ∧ Hf 5 27 i hm s ∧ Hf 6 12 i hm s) 27 ?_ ?_ 27 0 1000 hm (by omega) (by omega) ⟨fun _ _ _ _ _ => rfl, ⟨fun j hj => by omega, fun _ _ => rfl⟩, ⟨fun j hj => by omega, fun _ _ => rfl⟩, ⟨fun j hj => by omega, fun _ _ => rfl⟩, ⟨fun j hj => by omega, fun _ _ => rfl⟩⟩) ?_
  · rintro n i s hi ⟨g0, g3, g4, g5, g6⟩
    rw [Mo_takes_L29, if_neg (show ¬ (27 : Int32) ≤ nI i from nI_lt_of (e := 27) hi (by omega)), nI_1]
    simp only [zlet_n]
    rw [p27, p12, p24, p18, zr_nI (show 27 + i < 54 by omega) (by omega), zr_nI (show i < 54 by omega) (by omega), nI_clamp (show i < 2 ^ 31 by omega), nI_clamp (show 27 + i < 2 ^ 31 by omega), nI_clamp (show 12 + i < 2 ^ 31 by omega), nI_clamp (show 24 + i < 2 ^ 31 by omega), nI_clamp (show 18 + i < 2 ^ 31 by omega)]
    simp only [gd_n]
    -- the four copies one after the other
    have s3 : ∃ s1, (∀ c, c ≠ 3 → s1 c = s c) ∧ Hf 3 18 (i + 1) hm s1 ∧ (if (18 : Int32) ≤ nI i then s else upd2 s 3 i (s 3 (18 + i))) = s1 := by
      by_cases e : 18 ≤ i
      · exact ⟨s, fun _ _ => rfl, g3.sk e, if_pos (show (18 : Int32) ≤ nI i from nI_leI (a := 18) (by omega) (by omega) |>.mpr e)⟩
      · exact ⟨upd2 s 3 i (s 3 (18 + i)), fun c hc => upd2_ne hc, g3.st (by omega), if_neg (show ¬ (18 : Int32) ≤ nI i from nI_lt_of (e := 18) (by omega) (by omega))⟩
    obtain ⟨s1, a1', a2', a3'⟩ := s3
    have s4 : ∃ s2, (∀ c, c ≠ 4 → s2 c = s1 c) ∧ Hf 4 24 (i + 1) hm s2 ∧ (if (24 : Int32) ≤ nI i then s1 else upd2 s1 4 i (s1 4 (24 + i))) = s2 := by
      by_cases e : 24 ≤ i
      · exact ⟨s1, fun _ _ => rfl, (g4.of (a1' 4 (by omega))).sk e, if_pos (show (24 : Int32) ≤ nI i from nI_leI (a := 24) (by omega) (by omega) |>.mpr e)⟩
      · exact ⟨upd2 s1 4 i (s1 4 (24 + i)), fun c hc => upd2_ne hc, (g4.of (a1' 4 (by omega))).st (by omega), if_neg (show ¬ (24 : Int32) ≤ nI i from nI_lt_of (e := 24) (by omega) (by omega))⟩
    obtain ⟨s2, b1', b2', b3'⟩ := s4
    have g5' : Hf 5 27 (i + 1) hm (upd2 s2 5 i (s2 5 (27 + i))) := (g5.of ((b1' 5 (by omega)).trans (a1' 5 (by omega)))).st hi
    have s6 : ∃ s3, (∀ c, c ≠ 6 → s3 c = upd2 s2 5 i (s2 5 (27 + i)) c) ∧ Hf 6 12 (i + 1) hm s3 ∧ (if (12 : Int32) ≤ nI i then upd2 s2 5 i (s2 5 (27 + i)) else upd2 (upd2 s2 5 i (s2 5 (27 + i))) 6 i (upd2 s2 5 i (s2 5 (27 + i)) 6 (12 + i))) = s3 := by
      have g6' : Hf 6 12 i hm (upd2 s2 5 i (s2 5 (27 + i))) := g6.of (by rw [upd2_ne (by omega), b1' 6 (by omega), a1' 6 (by omega)])
      by_cases e : 12 ≤ i
      · exact ⟨upd2 s2 5 i (s2 5 (27 + i)), fun _ _ => rfl, g6'.sk e, if_pos (show (12 : Int32) ≤ nI i from nI_leI (a := 12) (by omega) (by omega) |>.mpr e)⟩
      · exact ⟨upd2 (upd2 s2 5 i (s2 5 (27 + i))) 6 i (upd2 s2 5 i (s2 5 (27 + i)) 6 (12 + i)), fun c hc => upd2_ne hc, g6'.st (by omega), if_neg (show ¬ (12 : Int32) ≤ nI i from nI_lt_of (e := 12) (by omega) (by omega))⟩
    obtain ⟨s3, c1', c2', c3'⟩ := s6
    refine ⟨s3, ⟨fun c h3 h4 h5 h6 => by rw [c1' c h6, upd2_ne h5, b1' c h4, a1' c h3]; exact g0 c h3 h4 h5 h6, a2'.of (by rw [c1' 3 (by omega), upd2_ne (by omega), b1' 3 (by omega)]), b2'.of (by rw [c1' 4 (by omega), upd2_ne (by omega)]), g5'.of (c1' 5 (by omega)), c2'⟩, ?_⟩
    subst a3' b3' c3'
    by_cases e18 : (18 : Int32) ≤ nI i
    · by_cases e24 : (24 : Int32) ≤ nI i
      · by_cases e12 : (12 : Int32) ≤ nI i
        · simp only [if_pos e18, if_pos e24, if_pos e12]
        · exact absurd (Int32.le_trans (show (12 : Int32) ≤ 18 by decide) e18) e12
      · have z24 : i < 24 := by
          rcases Nat.lt_or_ge i 24 with w | w
          · exact w
          · exact absurd (nI_leI (a := 24) (by omega) (by omega) |>.mpr w) e24
        have e12 : (12 : Int32) ≤ nI i := Int32.le_trans (show (12 : Int32) ≤ 18 by decide) e18
        simp only [if_pos e18, if_neg e24, if_pos e12]
        rw [zr_nI (show 24 + i < 48 by omega) (by omega), zr_nI (show i < 48 by omega) (by omega), gd_true, gd_true]
    · have z18 : i < 18 := by
        rcases Nat.lt_or_ge i 18 with w | w
        · exact w
        · exact absurd (nI_leI (a := 18) (by omega) (by omega) |>.mpr w) e18
      have e24 : ¬ (24 : Int32) ≤ nI i := nI_lt_of (e := 24) (by omega) (by omega)
      by_cases e12 : (12 : Int32) ≤ nI i
      · simp only [if_neg e18, if_neg e24, if_pos e12]
        rw [zr_nI (show 24 + i < 48 by omega) (by omega), zr_nI (show i < 48 by omega) (by omega), zr_nI (show 18 + i < 36 by omega) (by omega), zr_nI (show i < 36 by omega) (by omega), gd_true, gd_true, gd_true, gd_true]
      · have z12 : i < 12 := by
          rcases Nat.lt_or_ge i 12 with w | w
          · exact w
          · exact absurd (nI_leI (a := 12) (by omega) (by omega) |>.mpr w) e12
        simp only [if_neg e18, if_neg e24, if_neg e12]
        rw [zr_nI (show 24 + i < 48 by omega) (by omega), zr_nI (show i < 48 by omega) (by omega), zr_nI (show 18 + i < 36 by omega) (by omega), zr_nI (show i < 36 by omega) (by omega), zr_nI (show 12 + i < 24 by omega) (by omega), zr_nI (show i < 24 by omega) (by omega)]
        simp only [gd_n]
  · rintro n s ⟨g0, _⟩
    rw [Mo_takes_L29]
    exact if_pos (nI_le_rf 27)
  · rintro ⟨s, ⟨g0, g3, g4, g5, g6⟩, g⟩
    exact ⟨s, g, g0, fun j hj => g3.1 j (by omega) hj, fun j hj => g4.1 j (by omega) hj, fun j hj => g5.1 j (by omega) hj, fun j hj => g6.1 j (by omega) hj⟩
theorem takes3 (k : zH → Option zH) (hm : zH) : ∃ r, Mo_takes_L121 k 1000 0 hm = k (setc hm 7 r) ∧ (∀ j, j < 67 → r j = 0) := by
  refine exists_step (loop_ex (fun n x s => Mo_takes_L121 k n x s) k (fun i s => ∃ r, s = setc hm 7 r ∧ (∀ j, j < i → r j = 0)) 67 ?_ ?_ 67 0 1000 hm (by omega) (by omega) ⟨hm 7, setc_self.symm, fun j hj => by omega⟩) ?_
  · rintro n i s hi ⟨r, rfl, g1⟩
    rw [Mo_takes_L121, if_neg (lit67 hi), zr_nI hi (by omega), gd_true, zlet_n, nI_clamp (by omega), nI_1, upd2_c, setc_eq, setc_setc]
    refine ⟨_, ⟨_, rfl, fun j hj => ?_⟩, rfl⟩
    by_cases e : j = i
    · subst e; exact upd_eq
    · rw [upd_ne e]; exact g1 j (by omega)
  · rintro n s ⟨r, rfl, g1⟩
    rw [Mo_takes_L121]
    exact if_pos (nI_le_rf 67)
  · rintro ⟨s, ⟨r, rfl, g1⟩, g3⟩
    exact ⟨r, g3, g1⟩
theorem takes4 (k : zH → Option zH) (hm : zH) {b : Nat} (hb : hm 2 0 = nI b) (hb6 : b ≤ 6) : ∃ r, Mo_takes_L142 k 1000 0 hm = k (setc hm 7 r) ∧ (∀ j, j < b → r j = 5000) ∧ ∀ j, b ≤ j → r j = hm 7 j := by
  refine exists_step (loop_ex (fun n x s => Mo_takes_L142 k n x s) k (fun i s => ∃ r, s = setc hm 7 r ∧ (∀ j, j < i → r j = 5000) ∧ ∀ j, i ≤ j → r j = hm 7 j) b ?_ ?_ b 0 1000 hm (by omega) (by omega) ⟨hm 7, setc_self.symm, fun j hj => by omega, fun _ _ => rfl⟩) ?_
  · rintro n i s hi ⟨r, rfl, g1, g2⟩
    rw [Mo_takes_L142, setc_ne (show (2 : Nat) ≠ 7 by omega), hb, if_neg (nI_lt_of hi (by omega)), zr_nI (show i < 67 by omega) (by omega), gd_true, zlet_n, nI_clamp (by omega), nI_1, upd2_c, setc_eq, setc_setc]
    refine ⟨_, ⟨_, rfl, fun j hj => ?_, fun j hj => ?_⟩, rfl⟩
    · by_cases e : j = i
      · subst e; exact upd_eq
      · rw [upd_ne e]; exact g1 j (by omega)
    · rw [upd_ne (by omega)]; exact g2 j (by omega)
  · rintro n s ⟨r, rfl, g1, g2⟩
    rw [Mo_takes_L142, setc_ne (show (2 : Nat) ≠ 7 by omega), hb, if_pos (nI_le_rf _)]
  · rintro ⟨s, ⟨r, rfl, g1, g2⟩, g3⟩
    exact ⟨r, g3, g1, g2⟩
theorem takes5 (k : zH → Option zH) (hm : zH) {s : Nat} (hb : hm 2 4 = nI s) (hb6 : s ≤ 5) : ∃ r, Mo_takes_L203 k 1000 0 hm = k (setc hm 7 r) ∧ (∀ j, j ≤ s → r (60 + j) = hm 6 (2 * j)) ∧ ∀ j, ¬ (60 ≤ j ∧ j ≤ 65) → r j = hm 7 j := by
  refine exists_step (loop_ex (fun n x t => Mo_takes_L203 k n x t) k (fun i t => ∃ r, t = setc hm 7 r ∧ (∀ j, j < i → r (60 + j) = hm 6 (2 * j)) ∧ ∀ j, ¬ (60 ≤ j ∧ j ≤ 65) → r j = hm 7 j) (s + 1) ?_ ?_ (s + 1) 0 1000 hm (by omega) (by omega) ⟨hm 7, setc_self.symm, fun j hj => by omega, fun _ _ => rfl⟩) ?_
  · rintro n i t hi ⟨r, rfl, g1, g2⟩
    rw [Mo_takes_L203, setc_ne (show (2 : Nat) ≠ 7 by omega), hb, if_neg (show ¬ nI s < nI i from nI_nlt (by omega) (by omega)), m2, p60, zr_nI (show 2 * i < 24 by omega) (by omega), zr_nI (show 60 + i < 67 by omega) (by omega), gd_true, gd_true, zlet_n, nI_clamp (show 60 + i < 2 ^ 31 by omega), nI_clamp (show 2 * i < 2 ^ 31 by omega), nI_1, setc_ne (show (6 : Nat) ≠ 7 by omega), upd2_c, setc_eq, setc_setc]
    refine ⟨_, ⟨_, rfl, fun j hj => ?_, fun j hj => ?_⟩, rfl⟩
    · by_cases e : j = i
      · subst e; exact upd_eq
      · rw [upd_ne (by omega)]; exact g1 j (by omega)
    · rw [upd_ne (by omega)]; exact g2 j hj
  · rintro n t ⟨r, rfl, g1, g2⟩
    rw [Mo_takes_L203, setc_ne (show (2 : Nat) ≠ 7 by omega), hb, if_pos (nI_lt (by omega) (by omega))]
  · rintro ⟨t, ⟨r, rfl, g1, g2⟩, g3⟩
    exact ⟨r, g3, fun j hj => g1 j (by omega), g2⟩
