/-! the text at first -/
def txt0 : List Int32 := [98, 51, 59, 108, 48, 44, 49, 59, 108, 49, 44, 50, 59, 112, 48, 44, 54, 48, 44, 51, 44, 54, 59, 112, 50, 44, 51, 48, 44, 53, 44, 51, 59, 102, 48, 44, 50, 48, 44, 49, 59, 102, 49, 44, 50, 53, 44, 50, 59, 102, 50, 44, 49, 53, 44, 48, 59, 102, 49, 44, 49, 48, 44, 51, 59, 115, 52, 57, 48, 48, 44, 50, 59, 115, 52, 56, 53, 48, 44, 50, 59, 115, 52, 56, 48, 48, 44, 49, 59]
def hT : zH := fun k j => if k = 1 then (if j = 1 then 89 else 0) else if k = 2 then txt0.getD j 0 else 0
theorem first0 : ((Re_read 17 hT).map fun r => (r.1, (List.range 5).map (r.2 17))) = some (-4, [3, 2, 2, 4, 3]) := by decide +kernel
/-- both at their making, but for the objects -/
def h00 : zH := fun _ _ => 0
def mkM (h : zH) : Option zH := (Mo_clears h).bind fun h1 => (Mo_adds 1 0 1 0 0 (upd2 h1 2 5 3)).bind fun h2 => (Mo_adds 1 1 2 0 0 h2).bind fun h3 => (Mo_adds 2 0 60 3 6 h3).bind fun h4 => (Mo_adds 2 2 30 5 3 h4).bind fun h5 => (Mo_adds 3 0 20 1 0 h5).bind fun h6 => (Mo_adds 3 1 25 2 0 h6).bind fun h7 => (Mo_adds 3 2 15 0 0 h7).bind fun h8 => (Mo_adds 3 1 10 3 0 h8).bind fun h9 => (Mo_adds 4 4900 2 0 0 h9).bind fun h10 => (Mo_adds 4 4850 2 0 0 h10).bind fun h11 => (Mo_adds 4 4800 1 0 0 h11).bind fun h12 => some h12
def dxd (h hm : zH) : Bool := decide ((h 17 0 = 3 ∧ h 17 1 = 2 ∧ h 17 2 = 2 ∧ h 17 3 = 4 ∧ h 17 4 = 3) ∧ (hm 2 5 = 3 ∧ hm 2 6 = 2 ∧ hm 2 7 = 2 ∧ hm 2 8 = 4 ∧ hm 2 9 = 3))
  && (List.range 2).all (fun i => decide ((h 18 i = 0 ∨ h 18 i = 1 ∨ h 18 i = 2) ∧ (h 19 i = 0 ∨ h 19 i = 1 ∨ h 19 i = 2) ∧ hm 3 (18 + 2 * i) = h 18 i ∧ hm 3 (19 + 2 * i) = h 19 i))
  && (List.range 2).all (fun i => decide ((h 20 i = 0 ∨ h 20 i = 1 ∨ h 20 i = 2) ∧ (1 ≤ (h 21 i).toInt ∧ (h 21 i).toInt ≤ 99) ∧ (1 ≤ (h 22 i).toInt ∧ (h 22 i).toInt ≤ 9) ∧ (1 ≤ (h 23 i).toInt ∧ (h 23 i).toInt ≤ 9) ∧ hm 4 (24 + 4 * i) = h 20 i ∧ hm 4 (25 + 4 * i) = h 21 i ∧ hm 4 (26 + 4 * i) = h 22 i ∧ hm 4 (27 + 4 * i) = h 23 i))
  && (List.range 4).all (fun i => decide ((h 24 i = 0 ∨ h 24 i = 1 ∨ h 24 i = 2) ∧ (1 ≤ (h 25 i).toInt ∧ (h 25 i).toInt ≤ 50) ∧ (0 ≤ (h 26 i).toInt ∧ (h 26 i).toInt ≤ 5) ∧ hm 5 (27 + 3 * i) = h 24 i ∧ hm 5 (28 + 3 * i) = h 25 i ∧ hm 5 (29 + 3 * i) = h 26 i))
  && (List.range 4).all (fun i => decide ((1 ≤ (h 28 i).toInt ∧ (h 28 i).toInt ≤ 9) ∧ hm 6 (12 + 2 * i) = h 27 i ∧ hm 6 (13 + 2 * i) = h 28 i))
  && decide (h 47 1 = 0 ∧ h 47 2 = 0 ∧ hm 0 0 = 0)
theorem start_b : ((Re_read 17 hT).bind fun r => (mkM h00).map fun m => dxd r.2 m) = some true := by decide +kernel
theorem isB_ex {v : Int32} (h : v = 0 ∨ v = 1 ∨ v = 2) : ∃ j, j < 3 ∧ v = nI j := by
  rcases h with h | h | h
  · exact ⟨0, by omega, h⟩
  · exact ⟨1, by omega, h⟩
  · exact ⟨2, by omega, h⟩
theorem start_dx : ∃ v h1 hmR, Re_read 17 hT = some (v, h1) ∧ mkM h00 = some hmR ∧ DX 17 h1 hmR 3 2 2 4 3 ∧ h1 47 1 = 0 ∧ h1 47 2 = 0 ∧ hmR 0 0 = 0 := by
  have hb := start_b
  cases hr : Re_read 17 hT with
  | none => rw [hr] at hb; cases hb
  | some r =>
    rw [hr, Option.bind_some] at hb
    cases hm : mkM h00 with
    | none => rw [hm] at hb; cases hb
    | some m =>
      rw [hm] at hb
      have hd : dxd r.2 m = true := Option.some.inj hb
      unfold dxd at hd
      simp only [Bool.and_eq_true, decide_eq_true_eq, List.all_eq_true, List.mem_range] at hd
      obtain ⟨⟨⟨⟨⟨⟨⟨a0, a1, a2, a3, a4⟩, b0, b1, b2, b3, b4⟩, c1⟩, c2⟩, c3⟩, c4⟩, d1, d2, d3⟩ := hd
      refine ⟨r.1, r.2, m, rfl, rfl, ⟨⟨by omega, by omega, by omega, by omega, by omega⟩, ⟨a0, a1, a2, a3, a4⟩, ⟨b0, b1, b2, b3, b4⟩, fun i hi => ?_, fun i hi => ?_, fun i hi => ?_, fun i hi => ?_⟩, d1, d2, d3⟩
      · obtain ⟨z1, z2, z3⟩ := c1 i hi
        exact ⟨isB_ex z1, isB_ex z2, z3⟩
      · obtain ⟨z1, z2, z3, z4, z5⟩ := c2 i hi
        exact ⟨isB_ex z1, z2, z3, z4, z5⟩
      · obtain ⟨z1, z2, z3, z4⟩ := c3 i hi
        exact ⟨isB_ex z1, z2, z3, z4⟩
      · exact c4 i (by omega)
theorem start_gen {h1 hmR : zH} {b l q f s : Nat} (d : DX 17 h1 hmR b l q f s) (hb : 0 < b) (k1 : h1 47 1 = 0) (k2 : h1 47 2 = 0) (k3 : hmR 0 0 = 0) (k4 : h1 1 1 = 0) : ∃ h3 hm3, Gr_layOut 29 h1 = some h3 ∧ Mo_takes hmR = some hm3 ∧ Inv h3 hm3 := by
  obtain ⟨hPk, eb, el, eq, ef, es⟩ := d.plan hb
  obtain ⟨hk, hb1, hl, hP, hF, hSt⟩ := id hPk
  have hPX : PX (fun k => h1 (17 + k)) h1 := ⟨rfl, rfl, rfl, rfl, rfl, rfl, rfl, rfl, rfl, rfl, rfl, rfl⟩
  obtain ⟨h3, w1, w2, w3⟩ := lay_x hPX hk hl hP hF
  obtain ⟨hm3, y1, y2, y3, y4, y5, y6, y7⟩ := lay_m d hb
  have hok := S00_ok hk hP
  have C3 : Core (fun k => h1 (17 + k)) (wG (S00 (fun k => h1 (17 + k))) (gvA (fun k => h1 (17 + k)) (S00 (fun k => h1 (17 + k))))) h3 hm3 := ⟨hPk, hPX.of' (fun k k1 k2 => w2 k (by omega)), y2, ⟨hok.1, hok.2.1, fun p hp => gv_ok hk hP hF hp, hok.2.2.2.1, trivial⟩, w3, y3⟩
  have e2 : h3 47 2 = nI 0 := by rw [w2 47 (by omega)]; exact k2
  have e1 : h3 47 1 = nI 0 := by rw [w2 47 (by omega)]; exact k1
  have e3 : h3 1 1 = nI 0 := by rw [w2 1 (by omega)]; exact k4
  have e4 : hm3 0 0 = nI 0 := by rw [y5]; exact k3
  exact ⟨h3, hm3, w1, y1, _, _, [], C3, ⟨by show (0 : Int) ≤ (0 : Int32).toInt; decide, by show (0 : Int32).toInt ≤ (9999 : Int); decide⟩, ⟨by simp, y4, e2, 0, by omega, e1, fun k S' hk' => by cases hk'⟩, ⟨0, by omega, e3, e4, fun i hi => by omega⟩⟩
/-- what the makings come to, and that they come to the same -/
theorem start_inv : ∃ v h1 h3 hmR hm3, Re_read 17 hT = some (v, h1) ∧ Gr_layOut 29 (upd2 h1 1 1 0) = some h3 ∧ mkM h00 = some hmR ∧ Mo_takes hmR = some hm3 ∧ Inv h3 hm3 := by
  obtain ⟨v, h1, hmR, r1, r2, d, k1, k2, k3⟩ := start_dx
  obtain ⟨h3, hm3, w1, w2, w3⟩ := start_gen (h1 := upd2 h1 1 1 0) (hmR := hmR) (d.of (fun k k1 k2 => upd2_ne (by omega)) (fun _ _ _ => rfl)) (by omega) (by rw [upd2_ne (by omega)]; exact k1) (by rw [upd2_ne (by omega)]; exact k2) k3 (by rw [upd2_eq, upd_eq])
  exact ⟨v, h1, h3, hmR, hm3, r1, w1, r2, w2, w3⟩
theorem clear_eq (h : zH) : Le_clear h = some (upd2 h 1 1 0) := by unfold Le_clear; rw [zlet_n]
/-- the letters, one by one -/
def hTi (i : Nat) : zH := fun k j => if k = 1 then (if j = 1 then nI i else 0) else if k = 2 then (if j < i then txt0.getD j 0 else 0) else 0
theorem hT0 : hTi 0 = h00 := by
  funext k j
  unfold hTi h00
  by_cases h1 : k = 1
  · rw [if_pos h1]; by_cases h2 : j = 1
    · rw [if_pos h2]; rfl
    · rw [if_neg h2]
  · rw [if_neg h1]; by_cases h2 : k = 2
    · rw [if_pos h2, if_neg (by omega)]
    · rw [if_neg h2]
theorem hT89 : hTi 89 = hT := by
  funext k j
  unfold hTi hT
  by_cases h1 : k = 1
  · rw [if_pos h1, if_pos h1]; rfl
  · rw [if_neg h1, if_neg h1]; by_cases h2 : k = 2
    · rw [if_pos h2, if_pos h2]
      by_cases h3 : j < 89
      · rw [if_pos h3]
      · have hlen : txt0.length = 89 := by decide +kernel
        rw [if_neg h3, List.getD_eq_getElem?_getD, List.getElem?_eq_none (by omega)]; rfl
    · rw [if_neg h2, if_neg h2]
theorem hT_add {i : Nat} (hi : i < 89) : Le_add (txt0.getD i 0) (hTi i) = some (1, hTi (i + 1)) := by
  have e1 : hTi i 1 1 = nI i := rfl
  unfold Le_add
  rw [e1, if_pos (show nI i < 200 from nI_lt (b := 200) (by omega) (by omega)), zr_nI (show i < 200 by omega) (by omega), gd_true, zlet_n, nI_clamp (by omega), zlet_n, upd2_ne (show (1 : Nat) ≠ 2 by omega), e1, nI_1]
  have : upd2 (upd2 (hTi i) 2 i (txt0.getD i 0)) 1 1 (nI (i + 1)) = hTi (i + 1) := by
    funext k j
    by_cases h1 : k = 1
    · subst h1
      rw [upd2_eq]
      by_cases h2 : j = 1
      · subst h2; rw [upd_eq]; rfl
      · rw [upd_ne h2, upd2_ne (by omega)]
        show (if j = 1 then nI i else 0) = if j = 1 then nI (i + 1) else 0
        rw [if_neg h2, if_neg h2]
    · rw [upd2_ne h1]
      by_cases h2 : k = 2
      · subst h2
        rw [upd2_eq]
        by_cases h3 : j = i
        · subst h3; rw [upd_eq]
          show _ = if j < j + 1 then txt0.getD j 0 else 0
          rw [if_pos (by omega)]
        · rw [upd_ne h3]
          show (if j < i then txt0.getD j 0 else 0) = if j < i + 1 then txt0.getD j 0 else 0
          by_cases h4 : j < i
          · rw [if_pos h4, if_pos (by omega)]
          · rw [if_neg h4, if_neg (by omega)]
      · rw [upd2_ne h2]
        show (if k = 1 then _ else if k = 2 then _ else 0) = if k = 1 then _ else if k = 2 then _ else 0
        rw [if_neg h1, if_neg h1, if_neg h2, if_neg h2]
  rw [this]
