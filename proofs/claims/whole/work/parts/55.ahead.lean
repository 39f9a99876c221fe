noncomputable def mn (P : zH) (S : St) (r : Nat) (c : Int32) : Nat → Int32
  | 0 => c
  | n + 1 => if mn P S r c n ≤ sF (tkn P (n + 1) S).1 r then mn P S r c n else sF (tkn P (n + 1) S).1 r
theorem mn_eq {P : zH} {S : St} {r : Nat} (hP : okP P) (hS : Sok P S) (hr : r < nb P) : ∀ n, mn P S r 5200 (n + 1) = mn P S r 9999 (n + 1)
  | 0 => by
    have hb : (sF (tkn P 1 S).1 r).toInt ≤ 5200 := by
      rcases (tkn_ok hP hS 1).1.2.1 r hr with e | e
      · rw [e]; decide
      · exact e.2
    show (if (5200 : Int32) ≤ sF (tkn P 1 S).1 r then 5200 else sF (tkn P 1 S).1 r) = if (9999 : Int32) ≤ sF (tkn P 1 S).1 r then 9999 else sF (tkn P 1 S).1 r
    rw [if_neg (show ¬ (9999 : Int32) ≤ sF (tkn P 1 S).1 r from fun q => by have := ile.mp q; have e : (9999 : Int32).toInt = 9999 := rfl; omega)]
    by_cases q : (5200 : Int32) ≤ sF (tkn P 1 S).1 r
    · rw [if_pos q]
      have := ile.mp q
      have e : (5200 : Int32).toInt = 5200 := rfl
      exact ieq.mpr (by omega)
    · rw [if_neg q]
  | n + 1 => by
    show (if mn P S r 5200 (n + 1) ≤ _ then mn P S r 5200 (n + 1) else _) = if mn P S r 9999 (n + 1) ≤ _ then mn P S r 9999 (n + 1) else _
    rw [mn_eq hP hS hr n]
theorem zmin_if (a b : Int32) : zmin a b = if a ≤ b then a else b := by
  unfold zmin
  by_cases h : a ≤ b
  · rw [if_pos h, if_neg (Int32.not_lt.mpr h)]
  · rw [if_neg h, if_pos (Int32.not_le.mp h)]
theorem saves_eq (h : zH) : ∃ r, Mo_saves h = some (setc h 9 r) ∧ ∀ i, i < 67 → r i = h 7 i := by
  unfold Mo_saves
  refine exists_step (loop_ex (fun n x s => Mo_saves_L2 (fun h_3 => some h_3) n x s) (fun h_3 => some h_3) (fun i s => ∃ r, s = setc h 9 r ∧ ∀ j, j < i → r j = h 7 j) 67 ?_ ?_ 67 0 1000 h (by omega) (by omega) ⟨_, setc_self.symm, fun j hj => by omega⟩) ?_
  · rintro n i s hi ⟨r, rfl, g1⟩
    rw [Mo_saves_L2, if_neg (lit67 hi), setc_ne (show (7 : Nat) ≠ 9 by omega)]
    simp (disch := omega) only [zr_nI, gd_true, nI_clamp]
    rw [zlet_n, nI_1, upd2_c, setc_eq, setc_setc]
    refine ⟨_, ⟨_, rfl, fun j hj => ?_⟩, rfl⟩
    by_cases e : j = i
    · subst e; exact upd_eq
    · rw [upd_ne e]; exact g1 j (by omega)
  · rintro n s ⟨r, rfl, g1⟩
    rw [Mo_saves_L2]
    exact if_pos (nI_le_rf 67)
  · rintro ⟨s, ⟨r, rfl, g1⟩, g2⟩
    exact ⟨r, g2, g1⟩
theorem restores_eq (h : zH) : ∃ r, Mo_restores h = some (setc h 7 r) ∧ ∀ i, i < 67 → r i = h 9 i := by
  unfold Mo_restores
  refine exists_step (loop_ex (fun n x s => Mo_restores_L2 (fun h_3 => some h_3) n x s) (fun h_3 => some h_3) (fun i s => ∃ r, s = setc h 7 r ∧ ∀ j, j < i → r j = h 9 j) 67 ?_ ?_ 67 0 1000 h (by omega) (by omega) ⟨_, setc_self.symm, fun j hj => by omega⟩) ?_
  · rintro n i s hi ⟨r, rfl, g1⟩
    rw [Mo_restores_L2, if_neg (lit67 hi), setc_ne (show (9 : Nat) ≠ 7 by omega)]
    simp (disch := omega) only [zr_nI, gd_true, nI_clamp]
    rw [zlet_n, nI_1, upd2_c, setc_eq, setc_setc]
    refine ⟨_, ⟨_, rfl, fun j hj => ?_⟩, rfl⟩
    by_cases e : j = i
    · subst e; exact upd_eq
    · rw [upd_ne e]; exact g1 j (by omega)
  · rintro n s ⟨r, rfl, g1⟩
    rw [Mo_restores_L2]
    exact if_pos (nI_le_rf 67)
  · rintro ⟨s, ⟨r, rfl, g1⟩, g2⟩
    exact ⟨r, g2, g1⟩
theorem forget_eq (c g : Nat) (h : zH) : Co_forget c g h = some (upd2 (upd2 (upd2 h c 2 0) c 3 0) c 4 0) := by
  unfold Co_forget; rw [zlet_n, zlet_n, zlet_n]
theorem fresh_eq (h : zH) : Mo_fresh h = some (upd2 (upd2 (upd2 (upd2 h 0 13 0) 0 14 0) 0 15 0) 0 16 0) := by
  unfold Mo_fresh; rw [zlet_n, zlet_n, zlet_n, zlet_n]
theorem xahead {P hx0 : zH} {S : St} {n r : Nat} (k : Int32 → zH → Option (Int32 × zH)) (hX0 : PX P hx0) (hk : okN P) (hP : okP P) (hF : okF P) (hS : Sok P S) (hR0 : RepX P hx0 37 S) (hrb : r < nb P) (hcl2 : ∀ i, rt P (sCl (tkn P i S).1) r = r) (n2 : n ≤ 60) : ∃ x2, SS_ahead_L70 (nI n) (nI r) k 1000 5200 0 hx0 = k (mn P S r 5200 n) x2 ∧ Xf 37 46 hx0 x2 ∧ RepX P x2 37 (tkn P n S).1 ∧ ck P hx0 x2 46 (tkn P n S).2.1 (tkn P n S).2.2 := by
  have nb6 : nb P ≤ 6 := hk.1.2
  refine exists_step (loop_ex (fun m x (s : Int32 × zH) => SS_ahead_L70 (nI n) (nI r) k m s.1 x s.2) (fun s => k s.1 s.2) (fun i s => s.1 = mn P S r 5200 i ∧ Xf 37 46 hx0 s.2 ∧ RepX P s.2 37 (tkn P i S).1 ∧ ck P hx0 s.2 46 (tkn P i S).2.1 (tkn P i S).2.2) n ?_ ?_ n 0 1000 (5200, hx0) (by omega) (by omega) ⟨rfl, fun _ _ _ => rfl, hR0, ck.rf⟩) ?_
  · rintro m i ⟨y, s⟩ hi ⟨g0, g1, g2, g3⟩
    dsimp only at g0 g1 g2 g3 ⊢
    obtain ⟨s', p1, p2, p3, p4⟩ := xpass (hX0.of' (fun k k1 k2 => g1 k (by omega) (by omega))) hk hP hF (show 29 ≤ 37 by omega) (show ¬ (37 ≤ 46 ∧ 46 ≤ 37 + 7) by omega) (by omega) g2 (tkn_ok hP hS i).1
    rw [SS_ahead_L70, if_neg (nI_lt_of hi (by omega)), p1, Option.bind_some, zr_nI (show r < 6 by omega) (by omega), gd_true, nI_clamp (show r < 2 ^ 31 by omega), zlet_n, nI_1]
    have p5 : RepX P s' 37 (tkn P (i + 1) S).1 := by rw [tkn_succ]; exact p3
    have p6 : s' 40 r = sF (tkn P (i + 1) S).1 r := (p5.1.2.2.1 r hrb (hcl2 _) rfl).1
    refine ⟨(zmin y (s' 40 r), s'), ⟨?_, fun k k1 k2 => (p2 k k1 k2).trans (g1 k k1 k2), p5, ?_⟩, rfl⟩
    · show zmin y (s' 40 r) = _
      rw [p6, zmin_if, g0]; rfl
    · rw [tkn_succ]; exact g3.tr p4
  · rintro m ⟨y, s⟩ _
    dsimp only
    rw [SS_ahead_L70, if_pos (nI_le_rf n)]
  · rintro ⟨⟨y, x2⟩, ⟨a0, a1, a2, a3⟩, a4⟩
    dsimp only at a0 a1 a2 a3 a4
    subst a0
    exact ⟨x2, a4, a1, a2, a3⟩
theorem mahead {P hm0 : zH} {S : St} {n r b : Nat} (k : Int32 → zH → Option (Int32 × zH)) (hM0 : PM P hm0) (hk : okN P) (hl : okL P) (hP : okP P) (hF : okF P) (hS : Sok P S) (hR20 : RepM P (hm0 7) S) (hb : b < nb P) (hcl : ∀ i, rt P (sCl (tkn P i S).1) b = r) (n2 : n ≤ 60) : ∃ y2, Mo_ahead_L45 (nI n) (nI b) k 1000 9999 0 hm0 = k (mn P S r 9999 n) y2 ∧ MS P hm0 y2 (tkn P n S).1 (tkn P n S).2.1 (tkn P n S).2.2 := by
  have nb6 : nb P ≤ 6 := hk.1.2
  refine exists_step (loop_ex (fun m x (s : Int32 × zH) => Mo_ahead_L45 (nI n) (nI b) k m s.1 x s.2) (fun s => k s.1 s.2) (fun i s => s.1 = mn P S r 9999 i ∧ MS P hm0 s.2 (tkn P i S).1 (tkn P i S).2.1 (tkn P i S).2.2) n ?_ ?_ n 0 1000 (9999, hm0) (by omega) (by omega) ⟨rfl, Mfr.rf, hR20, mk0.rf⟩) ?_
  · rintro m i ⟨z, s⟩ hi ⟨g0, g1⟩
    dsimp only at g0 g1 ⊢
    obtain ⟨s', p1, p2⟩ := mticks_eq (hM0.of g1.1) hk hl hP hF g1.2.1 (tkn_ok hP hS i).1
    have p3 : MS P hm0 s' (tkn P (i + 1) S).1 (tkn P (i + 1) S).2.1 (tkn P (i + 1) S).2.2 := by rw [tkn_succ]; exact g1.tr p2
    have p4 : s' 7 b = sF (tkn P (i + 1) S).1 r := by have := (p3.2.1.2.1 b hb).1; rw [hcl] at this; exact this
    rw [Mo_ahead_L45, if_neg (nI_lt_of hi (by omega)), p1, Option.bind_some, zr_nI (show b < 67 by omega) (by omega), gd_true, gd_true, nI_clamp (show b < 2 ^ 31 by omega), zlet_n, nI_1, p4]
    by_cases q : z ≤ sF (tkn P (i + 1) S).1 r
    · rw [if_pos q]
      refine ⟨(z, s'), ⟨?_, p3⟩, rfl⟩
      show z = if mn P S r 9999 i ≤ _ then mn P S r 9999 i else _
      rw [← g0, if_pos q]
    · rw [if_neg q]
      refine ⟨(sF (tkn P (i + 1) S).1 r, s'), ⟨?_, p3⟩, rfl⟩
      show _ = if mn P S r 9999 i ≤ _ then mn P S r 9999 i else _
      rw [← g0, if_neg q]
  · rintro m ⟨z, s⟩ _
    dsimp only
    rw [Mo_ahead_L45, if_pos (nI_le_rf n)]
  · rintro ⟨⟨z, y2⟩, ⟨b0, b1⟩, b2⟩
    dsimp only at b0 b1 b2
    subst b0
    exact ⟨y2, b2, b1⟩
theorem do_ahead {hx hm : zH} (I : Inv hx hm) (v w u : Int32) : Ok2 (SS_ahead v w u hx) (Mo_ahead v w u hm) := by
  obtain ⟨P, S, L, C, hT, hL, hTx⟩ := id I
  obtain ⟨⟨hk, hb1, hl, hP, hF, hSt⟩, hX, hM, hS, hR, hR2⟩ := id C
  have nb6 : nb P ≤ 6 := hk.1.2
  unfold SS_ahead Mo_ahead
  by_cases h1 : v < 1
  · rw [if_pos h1, show Mo_isIn v 1 60 = some 0 by unfold Mo_isIn; rw [if_pos h1]]; exact ⟨_, _, _, rfl, rfl, I⟩
  by_cases h2 : 60 < v
  · rw [if_neg h1, if_pos h2, show Mo_isIn v 1 60 = some 0 by unfold Mo_isIn; rw [if_neg h1, if_pos h2]]; exact ⟨_, _, _, rfl, rfl, I⟩
  rw [if_neg h1, if_neg h2, show Mo_isIn v 1 60 = some 1 by unfold Mo_isIn; rw [if_neg h1, if_neg h2], Option.bind_some, if_neg (show ¬ (1 : Int32) = 0 by decide)]
  obtain ⟨n, rfl, n1, n2⟩ := nI_btw (v := v) (a := 1) (b := 60) (by have := ile.mp (Int32.not_lt.mp h1); simpa using this) (by have := ile.mp (Int32.not_lt.mp h2); simpa using this) (by omega)
  rcases isBus_x hX hk w with ⟨b, hb, rfl, e⟩ | ⟨q, e⟩
  · rw [e, (isBus_m hM hk (nI b)).1 b hb rfl, Option.bind_some, Option.bind_some, if_neg (show ¬ (1 : Int32) = 0 by decide), if_neg (show ¬ (1 : Int32) = 0 by decide)]
    by_cases h3 : u < 0
    · rw [if_pos h3, mIn_neg h3]; exact ⟨_, _, _, rfl, rfl, I⟩
    by_cases h4 : u ≤ 4
    · rw [if_neg h3, if_pos h4, show Mo_isIn u 0 4 = some 1 by unfold Mo_isIn; rw [if_neg h3, if_neg (Int32.not_lt.mpr h4)], Option.bind_some, if_neg (show ¬ (1 : Int32) = 0 by decide)]
      obtain ⟨x1, c1, c2, c3⟩ := copy_eq hk hx (g := 37) (o := 29) (by omega)
      obtain ⟨r9, s1, s2⟩ := saves_eq hm
      rw [c1, s1, Option.bind_some, Option.bind_some]
      rw [forget_eq, fresh_eq, Option.bind_some, Option.bind_some]
      have x38 : upd2 (upd2 (upd2 x1 46 2 0) 46 3 0) 46 4 0 38 b = nI (rt P (sCl S) b) := by
        rw [upd2_ne (by omega), upd2_ne (by omega), upd2_ne (by omega)]
        exact ((c3 S hR).1.R b (by omega)).1
      have hrb : rt P (sCl S) b < nb P := Nat.lt_of_le_of_lt rt_le hb
      have hrr : rt P (sCl S) (rt P (sCl S) b) = rt P (sCl S) b := rt_rt
      have hX0 : PX P (upd2 (upd2 (upd2 x1 46 2 0) 46 3 0) 46 4 0) := hX.of' (fun k k1 k2 => by rw [upd2_ne (by omega), upd2_ne (by omega), upd2_ne (by omega), c2 k (by omega)])
      have hR0 : RepX P (upd2 (upd2 (upd2 x1 46 2 0) 46 3 0) 46 4 0) 37 S := (c3 S hR).of (fun k k1 k2 => by rw [upd2_ne (by omega), upd2_ne (by omega), upd2_ne (by omega)])
      have kx0 : ∀ k, k ≠ 46 → ¬ (37 ≤ k ∧ k ≤ 44) → upd2 (upd2 (upd2 x1 46 2 0) 46 3 0) 46 4 0 k = hx k := fun k k1 k2 => by rw [upd2_ne k1, upd2_ne k1, upd2_ne k1, c2 k (by omega)]
      have z2 : upd2 (upd2 (upd2 x1 46 2 0) 46 3 0) 46 4 0 46 2 = 0 := by rw [upd2_eq, upd_ne (by omega), upd2_eq, upd_ne (by omega), upd2_eq, upd_eq]
      have z3 : upd2 (upd2 (upd2 x1 46 2 0) 46 3 0) 46 4 0 46 3 = 0 := by rw [upd2_eq, upd_ne (by omega), upd2_eq, upd_eq]
      have z4 : upd2 (upd2 (upd2 x1 46 2 0) 46 3 0) 46 4 0 46 4 = 0 := by rw [upd2_eq, upd_eq]
      rw [zr_nI (show b < 6 by omega) (by omega), gd_true, zlet_n, nI_clamp (show b < 2 ^ 31 by omega), x38]
      revert hX0 hR0 kx0 z2 z3 z4
      clear x38
      generalize upd2 (upd2 (upd2 x1 46 2 0) 46 3 0) 46 4 0 = hx0
      intro hX0 hR0 kx0 z2 z3 z4
      have hM0 : PM P (upd2 (upd2 (upd2 (upd2 (setc hm 9 r9) 0 13 0) 0 14 0) 0 15 0) 0 16 0) := hM.of' (fun k k1 k2 => by rw [upd2_ne (by omega), upd2_ne (by omega), upd2_ne (by omega), upd2_ne (by omega), setc_ne (by omega)])
      have hR20 : RepM P (upd2 (upd2 (upd2 (upd2 (setc hm 9 r9) 0 13 0) 0 14 0) 0 15 0) 0 16 0 7) S := by rw [upd2_ne (by omega), upd2_ne (by omega), upd2_ne (by omega), upd2_ne (by omega), setc_ne (by omega)]; exact hR2
      have km0 : ∀ k, k ≠ 0 → k ≠ 9 → upd2 (upd2 (upd2 (upd2 (setc hm 9 r9) 0 13 0) 0 14 0) 0 15 0) 0 16 0 k = hm k := fun k k0 k9 => by rw [upd2_ne k0, upd2_ne k0, upd2_ne k0, upd2_ne k0, setc_ne k9]
      have km9 : upd2 (upd2 (upd2 (upd2 (setc hm 9 r9) 0 13 0) 0 14 0) 0 15 0) 0 16 0 9 = r9 := by rw [upd2_ne (by omega), upd2_ne (by omega), upd2_ne (by omega), upd2_ne (by omega), setc_eq]
      have km00 : ∀ j, j < 13 → upd2 (upd2 (upd2 (upd2 (setc hm 9 r9) 0 13 0) 0 14 0) 0 15 0) 0 16 0 0 j = hm 0 j := fun j hj => by rw [upd2_eq, upd_ne (by omega), upd2_eq, upd_ne (by omega), upd2_eq, upd_ne (by omega), upd2_eq, upd_ne (by omega), setc_ne (by omega)]
      have y13 : upd2 (upd2 (upd2 (upd2 (setc hm 9 r9) 0 13 0) 0 14 0) 0 15 0) 0 16 0 0 13 = 0 := by rw [upd2_eq, upd_ne (by omega), upd2_eq, upd_ne (by omega), upd2_eq, upd_ne (by omega), upd2_eq, upd_eq]
      have y14 : upd2 (upd2 (upd2 (upd2 (setc hm 9 r9) 0 13 0) 0 14 0) 0 15 0) 0 16 0 0 14 = 0 := by rw [upd2_eq, upd_ne (by omega), upd2_eq, upd_ne (by omega), upd2_eq, upd_eq]
      have y15 : upd2 (upd2 (upd2 (upd2 (setc hm 9 r9) 0 13 0) 0 14 0) 0 15 0) 0 16 0 0 15 = 0 := by rw [upd2_eq, upd_ne (by omega), upd2_eq, upd_eq]
      revert hM0 hR20 km0 km9 km00 y13 y14 y15
      generalize upd2 (upd2 (upd2 (upd2 (setc hm 9 r9) 0 13 0) 0 14 0) 0 15 0) 0 16 0 = hm0
      intro hM0 hR20 km0 km9 km00 y13 y14 y15
      generalize hrd : rt P (sCl S) b = r at hrb hrr
      have hcl : ∀ i, rt P (sCl (tkn P i S).1) b = r := fun i => by rw [(tkn_ok hP hS i).2.1]; exact hrd
      have hcl2 : ∀ i, rt P (sCl (tkn P i S).1) r = r := fun i => by rw [(tkn_ok hP hS i).2.1]; exact hrr
      obtain ⟨x2, a4, a1, a2, a3⟩ := xahead (fun x5_2 h_5 => if u = 0 then gd (zr (nI r) 6) (some (h_5 40 (nI r).toNatClampNeg, h_5)) else if u = 1 then some (x5_2, h_5) else if u = 2 then some (h_5 46 2, h_5) else if u = 3 then some (h_5 46 3, h_5) else some (h_5 46 4, h_5)) hX0 hk hP hF hS hR0 hrb hcl2 n2
      obtain ⟨y2, b2, b1⟩ := mahead (fun x4_2 h_5 => gd (zr (nI b) 67) (zlet (h_5 7 b) fun x5_1 => (Mo_restores h_5).bind fun h_6 => if u = 0 then some (x5_1, h_6) else if u = 1 then some (x4_2, h_6) else if u = 2 then some (h_6 0 13, h_6) else if u = 3 then some (h_6 0 14, h_6) else some (h_6 0 15, h_6))) hM0 hk hl hP hF hS hR20 hb hcl n2
      rw [a4, b2]
      have q1 : x2 40 r = sF (tkn P n S).1 r := (a2.1.2.2.1 r hrb (hcl2 _) rfl).1
      have q2 : y2 7 b = sF (tkn P n S).1 r := by have := (b1.2.1.2.1 b hb).1; rw [hcl] at this; exact this
      obtain ⟨r7, t1, t2⟩ := restores_eq y2
      rw [zr_nI (show b < 67 by omega) (by omega), zr_nI (show r < 6 by omega) (by omega), gd_true, gd_true, zlet_n, nI_clamp (show r < 2 ^ 31 by omega), t1, Option.bind_some, q1, q2]
      have hyz : mn P S r 5200 n = mn P S r 9999 n := by
        obtain ⟨n', rfl⟩ : ∃ n', n = n' + 1 := ⟨n - 1, by omega⟩
        exact mn_eq hP hS hrb n'
      have w0 : ∀ j, setc y2 7 r7 0 j = y2 0 j := fun j => by rw [setc_ne (by omega)]
      rw [w0, w0, w0]
      have v1 : y2 0 13 = x2 46 2 := by rw [b1.2.2.1, a3.1, y13, z2]
      have v2 : y2 0 14 = x2 46 3 := by rw [b1.2.2.2.1, a3.2.1, y14, z3]
      have v3 : y2 0 15 = x2 46 4 := by rw [b1.2.2.2.2.1, a3.2.2, y15, z4]
      rw [v1, v2, v3, ← hyz]
      have kx : ∀ k, k ≠ 46 → ¬ (37 ≤ k ∧ k ≤ 44) → x2 k = hx k := fun k k1 k2 => (a1 k k1 (by omega)).trans (kx0 k k1 k2)
      have km : ∀ k, k ≠ 0 → k ≠ 7 → k ≠ 9 → setc y2 7 r7 k = hm k := fun k k0 k7 k9 => by rw [setc_ne k7, b1.1 k k0 k7, km0 k k0 k9]
      have k0 : ∀ j, j < 13 → setc y2 7 r7 0 j = hm 0 j := fun j hj => by rw [w0, b1.2.2.2.2.2.2 j hj, km00 j hj]
      have hInv : Inv x2 (setc y2 7 r7) := by
        refine ⟨P, S, L, C.mk hS (fun k k1 k2 => kx k (by omega) (by omega)) (fun k k1 k2 => km k (by omega) (by omega) (by omega)) (hR.of (fun k k1 k2 => kx k (by omega) (by omega))) ?_, hT, hL.of (fun k k1 k2 => kx k (by omega) (by omega)) (km 8 (by omega) (by omega) (by omega)) (k0 10 (by omega)), hTx.of (kx 1 (by omega) (by omega)) (kx 2 (by omega) (by omega)) (k0 0 (by omega)) (km 1 (by omega) (by omega) (by omega))⟩
        rw [setc_eq]
        exact hR2.of67 hk hS (fun i hi => by rw [t2 i hi, b1.1 9 (by omega) (by omega), km9]; exact s2 i hi)
      by_cases u0 : u = 0
      · rw [if_pos u0, if_pos u0]; exact ⟨_, _, _, rfl, rfl, hInv⟩
      rw [if_neg u0, if_neg u0]
      by_cases u1 : u = 1
      · rw [if_pos u1, if_pos u1]; exact ⟨_, _, _, rfl, rfl, hInv⟩
      rw [if_neg u1, if_neg u1]
      by_cases u2 : u = 2
      · rw [if_pos u2, if_pos u2]; exact ⟨_, _, _, rfl, rfl, hInv⟩
      rw [if_neg u2, if_neg u2]
      by_cases u3 : u = 3
      · rw [if_pos u3, if_pos u3]; exact ⟨_, _, _, rfl, rfl, hInv⟩
      rw [if_neg u3, if_neg u3]
      exact ⟨_, _, _, rfl, rfl, hInv⟩
    · rw [if_neg h3, if_neg h4, show Mo_isIn u 0 4 = some 0 by unfold Mo_isIn; rw [if_neg h3, if_pos (Int32.not_le.mp h4)]]; exact ⟨_, _, _, rfl, rfl, I⟩
  · rw [e, (isBus_m hM hk w).2 q]; exact ⟨_, _, _, rfl, rfl, I⟩
