section ADD2
variable {p b l q f s : Nat} {h hm hm' : zH}
theorem setRow_eq {i : Nat} (hb : h p 0 = nI b) (hb6 : b ≤ 6) (hi : i < 6) (x y : Int32) : Pl_setRow p (nI i) x y h = if b = 0 then some (0, h) else if (inb x (if i = 0 then 4900 else 4700) (if i = 0 then 5000 else 4999) && inb y 1 9) = true then some (1, upd2 (upd2 h (p + 10) i x) (p + 11) i y) else some (0, h) := by
  unfold Pl_setRow
  rw [hb, isMark_eq, inb_eq, isFrom_inb, Option.bind_some, Option.bind_some]
  by_cases h0 : b = 0
  · rw [if_pos h0, if_pos (by rw [h0]; rfl)]
  · rw [if_neg h0, if_neg (show ¬ nI b = 0 from fun z => h0 ((nI_eq (b := 0) (by omega) (by omega)).mp z))]
    have e1 : (if nI i = 0 then (4900 : Int32) else 4700) = if i = 0 then 4900 else 4700 := by
      by_cases e : i = 0
      · rw [if_pos e, if_pos (by rw [e]; rfl)]
      · rw [if_neg e, if_neg (show ¬ nI i = 0 from fun z => e ((nI_eq (b := 0) (by omega) (by omega)).mp z))]
    have e2 : (if nI i = 0 then (5000 : Int32) else 4999) = if i = 0 then 5000 else 4999 := by
      by_cases e : i = 0
      · rw [if_pos e, if_pos (by rw [e]; rfl)]
      · rw [if_neg e, if_neg (show ¬ nI i = 0 from fun z => e ((nI_eq (b := 0) (by omega) (by omega)).mp z))]
    rw [e1, e2]
    cases inb x (if i = 0 then 4900 else 4700) (if i = 0 then 5000 else 4999)
    · rw [if_pos (by rfl)]; rfl
    · rw [if_neg (by decide)]
      cases inb y 1 9
      · rw [if_pos (by rfl)]; rfl
      · rw [if_neg (by decide), zr_nI hi (by omega), gd_true, zlet_n, gd_true, zlet_n, nI_clamp (by omega)]; rfl
theorem DX.row {c : Nat} {hm' : zH} (d : DX p h hm b l q f s) (x y : Int32) (hy : inb y 1 9 = true) (s' : Nat) (hs : (c ≤ s ∧ s' = s) ∨ (c = s + 1 ∧ s' = s + 1 ∧ s < 5)) {h2 : zH} (e0 : ∀ j, j ≠ 4 → h2 p j = h p j) (e4 : h2 p 4 = nI s') (e10 : h2 (p + 10) = upd (h (p + 10)) c x) (e11 : h2 (p + 11) = upd (h (p + 11)) c y) (ek : ∀ k, p < k → k < p + 10 → h2 k = h k) (g2 : ∀ j, j ≠ 9 → hm' 2 j = hm 2 j) (g9 : hm' 2 9 = nI s') (g3 : hm' 3 = hm 3) (g4 : hm' 4 = hm 4) (g5 : hm' 5 = hm 5) (g6 : hm' 6 = upd (upd (hm 6) (12 + 2 * c) x) (13 + 2 * c) y) : DX p h2 hm' b l q f s' := by
  obtain ⟨⟨b6, l9, q6, f9, s5⟩, ⟨c0, c1, c2, c3, c4⟩, ⟨m0, m1, m2', m3', m4'⟩, dl, dq, df, ds⟩ := d
  unfold DX
  rw [e0 0 (by omega), e0 1 (by omega), e0 2 (by omega), e0 3 (by omega), e4, e10, e11, ek (p + 1) (by omega) (by omega), ek (p + 2) (by omega) (by omega), ek (p + 3) (by omega) (by omega), ek (p + 4) (by omega) (by omega), ek (p + 5) (by omega) (by omega), ek (p + 6) (by omega) (by omega), ek (p + 7) (by omega) (by omega), ek (p + 8) (by omega) (by omega), ek (p + 9) (by omega) (by omega), g2 5 (by omega), g2 6 (by omega), g2 7 (by omega), g2 8 (by omega), g9, g3, g4, g5, g6]
  refine ⟨⟨b6, l9, q6, f9, by omega⟩, ⟨c0, c1, c2, c3, rfl⟩, ⟨m0, m1, m2', m3', rfl⟩, dl, dq, df, fun i hi => ?_⟩
  by_cases e : i = c
  · subst e
    rw [upd_eq, upd_eq, upd_eq]
    exact ⟨inb_in hy, by rw [upd_ne (by omega), upd_eq], rfl⟩
  · rw [upd_ne e, upd_ne e, upd_ne (show 12 + 2 * i ≠ 13 + 2 * c by omega), upd_ne (show 12 + 2 * i ≠ 12 + 2 * c by omega), upd_ne (show 13 + 2 * i ≠ 13 + 2 * c by omega), upd_ne (show 13 + 2 * i ≠ 12 + 2 * c by omega)]
    exact ds i (by omega)
theorem addS (d : DX p h hm b l q f s) (hb : b ≠ 0) (x y : Int32) : (¬ (¬ hm 2 9 = 5 ∧ rg [(4700, 4999), (1, 9)] [x, y] = true) ∧ Pl_addStage p x y h = some (0, h)) ∨ ((¬ hm 2 9 = 5 ∧ rg [(4700, 4999), (1, 9)] [x, y] = true) ∧ ∃ h2, Pl_addStage p x y h = some (1, h2) ∧ (∀ k, ¬ (p ≤ k ∧ k ≤ p + 11) → h2 k = h k) ∧ (hm' 2 = upd (hm 2) 9 (nI (s + 1)) → hm' 3 = hm 3 → hm' 4 = hm 4 → hm' 5 = hm 5 → hm' 6 = upd (upd (hm 6) (14 + 2 * s) x) (15 + 2 * s) y → DX p h2 hm' b l q f (s + 1))) := by
  obtain ⟨⟨b6, l9, q6, f9, s5⟩, ⟨c0, c1, c2, c3, c4⟩, ⟨m0, m1, m2', m3', m4'⟩, dl, dq, df, ds⟩ := id d
  rw [m4']
  show (¬ (_ ∧ (inb x 4700 4999 && (inb y 1 9 && true)) = true) ∧ _) ∨ ((_ ∧ (inb x 4700 4999 && (inb y 1 9 && true)) = true) ∧ _)
  unfold Pl_addStage
  rw [c4]
  by_cases h9 : s = 5
  · subst h9
    exact Or.inl ⟨fun z => z.1 rfl, by rw [if_pos (show (5 : Int32) ≤ nI 5 by decide)]⟩
  rw [if_neg (show ¬ (5 : Int32) ≤ nI s from nI_lt_of (e := 5) (by omega) (by omega)), nI_1, setRow_eq c0 b6 (by omega), if_neg hb, if_neg (show ¬ s + 1 = 0 by omega), if_neg (show ¬ s + 1 = 0 by omega)]
  rw [Bool.and_true]
  cases hx : (inb x 4700 4999 && inb y 1 9)
  · refine Or.inl ⟨(fun z => by cases z.2), ?_⟩
    rw [if_neg (by decide), Option.bind_some, if_pos rfl]
  · have hy : inb y 1 9 = true := by rw [Bool.and_eq_true] at hx; exact hx.2
    rw [if_pos rfl, Option.bind_some]
    dsimp only
    rw [if_neg (by decide), zlet_n]
    have u : upd2 (upd2 h (p + 10) (s + 1) x) (p + 11) (s + 1) y p 4 = nI s := by rw [upd2_ne (by omega), upd2_ne (by omega)]; exact c4
    rw [u, nI_1]
    refine Or.inr ⟨⟨fun z => h9 ((nI_eq (b := 5) (by omega) (by omega)).mp z), rfl⟩, _, rfl, fun k k0 => by rw [upd2_ne (by omega), upd2_ne (by omega), upd2_ne (by omega)], fun g2 g3 g4 g5 g6 => ?_⟩
    refine d.row (c := s + 1) x y hy (s + 1) (Or.inr ⟨rfl, rfl, by omega⟩) (fun j hj => ?_) ?_ ?_ ?_ (fun k k1 k2 => ?_) (fun j hj => by rw [g2, upd_ne hj]) (by rw [g2, upd_eq]) g3 g4 g5 (by rw [g6, show 12 + 2 * (s + 1) = 14 + 2 * s by omega, show 13 + 2 * (s + 1) = 15 + 2 * s by omega])
    · rw [upd2_eq, upd_ne hj, upd2_ne (by omega), upd2_ne (by omega)]
    · rw [upd2_eq, upd_eq]
    · rw [upd2_ne (by omega), upd2_ne (by omega), upd2_eq]
    · rw [upd2_ne (by omega), upd2_eq, upd2_ne (by omega)]
    · rw [upd2_ne (by omega), upd2_ne (by omega), upd2_ne (by omega)]
theorem addBk (d : DX p h hm b l q f s) (hb : b ≠ 0) (x y : Int32) : (¬ (rg [(4900, 5000), (1, 9)] [x, y] = true) ∧ Pl_setBack p x y h = some (0, h)) ∨ (rg [(4900, 5000), (1, 9)] [x, y] = true ∧ ∃ h2, Pl_setBack p x y h = some (1, h2) ∧ (∀ k, ¬ (p ≤ k ∧ k ≤ p + 11) → h2 k = h k) ∧ (hm' 2 = hm 2 → hm' 3 = hm 3 → hm' 4 = hm 4 → hm' 5 = hm 5 → hm' 6 = upd (upd (hm 6) 12 x) 13 y → DX p h2 hm' b l q f s)) := by
  obtain ⟨⟨b6, l9, q6, f9, s5⟩, ⟨c0, c1, c2, c3, c4⟩, ⟨m0, m1, m2', m3', m4'⟩, dl, dq, df, ds⟩ := id d
  show (¬ ((inb x 4900 5000 && (inb y 1 9 && true)) = true) ∧ _) ∨ ((inb x 4900 5000 && (inb y 1 9 && true)) = true ∧ _)
  unfold Pl_setBack
  have hr := setRow_eq (i := 0) c0 b6 (by omega) x y
  rw [if_neg hb, if_pos rfl, if_pos rfl] at hr
  have hr' : Pl_setRow p 0 x y h = _ := hr
  rw [hr', Bool.and_true]
  cases hx : (inb x 4900 5000 && inb y 1 9)
  · refine Or.inl ⟨(fun z => by cases z), ?_⟩
    rw [if_neg (by decide), Option.bind_some]; rfl
  · have hy : inb y 1 9 = true := by rw [Bool.and_eq_true] at hx; exact hx.2
    rw [if_pos rfl, Option.bind_some]
    dsimp only
    rw [show zb 1 = true from rfl, gd_true]
    refine Or.inr ⟨rfl, _, rfl, fun k k0 => by rw [upd2_ne (by omega), upd2_ne (by omega)], fun g2 g3 g4 g5 g6 => ?_⟩
    refine d.row (c := 0) x y hy s (Or.inl ⟨by omega, rfl⟩) (fun j hj => ?_) ?_ ?_ ?_ (fun k k1 k2 => ?_) (fun j hj => by rw [g2]) (by rw [g2]; exact m4') g3 g4 g5 g6
    · rw [upd2_ne (by omega), upd2_ne (by omega)]
    · rw [upd2_ne (by omega), upd2_ne (by omega)]; exact c4
    · rw [upd2_ne (by omega), upd2_eq]
    · rw [upd2_eq, upd2_ne (by omega)]
    · rw [upd2_ne (by omega), upd2_ne (by omega)]
theorem addN (d : DX p h hm 0 l q f s) (x : Int32) : (¬ (rg [(1, 6)] [x] = true) ∧ Pl_addBuses p x h = some (0, h)) ∨ (rg [(1, 6)] [x] = true ∧ ∃ h2, Pl_addBuses p x h = some (1, h2) ∧ (∀ k, ¬ (p ≤ k ∧ k ≤ p + 11) → h2 k = h k) ∧ (hm' 2 = upd (hm 2) 5 x → hm' 3 = hm 3 → hm' 4 = hm 4 → hm' 5 = hm 5 → hm' 6 = hm 6 → ∃ b', 0 < b' ∧ DX p h2 hm' b' l q f s)) := by
  obtain ⟨⟨b6, l9, q6, f9, s5⟩, ⟨c0, c1, c2, c3, c4⟩, ⟨m0, m1, m2', m3', m4'⟩, dl, dq, df, ds⟩ := id d
  show (¬ ((inb x 1 6 && true) = true) ∧ _) ∨ ((inb x 1 6 && true) = true ∧ _)
  unfold Pl_addBuses
  rw [c0, if_neg (show ¬ (0 : Int32) < nI 0 by decide), isFrom_inb, Option.bind_some, Bool.and_true]
  cases hx : inb x 1 6
  · exact Or.inl ⟨(fun z => by cases z), by rw [if_pos (by rfl)]⟩
  · rw [if_neg (by decide), zlet_n]
    refine Or.inr ⟨rfl, _, rfl, fun k k0 => upd2_ne (by omega), fun g2 g3 g4 g5 g6 => ?_⟩
    obtain ⟨z1, z2⟩ := inb_in hx
    have o1 : (1 : Int32).toInt = 1 := rfl
    have o6 : (6 : Int32).toInt = 6 := rfl
    obtain ⟨n, rfl, n1, n2⟩ := nI_btw (v := x) (a := 1) (b := 6) (by omega) (by omega) (by omega)
    refine ⟨n, by omega, ?_⟩
    unfold DX
    rw [upd2_eq, upd2_ne (show p + 1 ≠ p by omega), upd2_ne (show p + 2 ≠ p by omega), upd2_ne (show p + 3 ≠ p by omega), upd2_ne (show p + 4 ≠ p by omega), upd2_ne (show p + 5 ≠ p by omega), upd2_ne (show p + 6 ≠ p by omega), upd2_ne (show p + 7 ≠ p by omega), upd2_ne (show p + 8 ≠ p by omega), upd2_ne (show p + 9 ≠ p by omega), upd2_ne (show p + 10 ≠ p by omega), upd2_ne (show p + 11 ≠ p by omega), g2, g3, g4, g5, g6]
    refine ⟨⟨n2, l9, q6, f9, s5⟩, ⟨upd_eq, by rw [upd_ne (by omega)]; exact c1, by rw [upd_ne (by omega)]; exact c2, by rw [upd_ne (by omega)]; exact c3, by rw [upd_ne (by omega)]; exact c4⟩, ⟨upd_eq, by rw [upd_ne (by omega)]; exact m1, by rw [upd_ne (by omega)]; exact m2', by rw [upd_ne (by omega)]; exact m3', by rw [upd_ne (by omega)]; exact m4'⟩, fun i hi => ?_, fun i hi => ?_, fun i hi => ?_, ds⟩
    · obtain ⟨⟨j, hj, _⟩, _⟩ := dl i hi; omega
    · obtain ⟨⟨j, hj, _⟩, _⟩ := dq i hi; omega
    · obtain ⟨⟨j, hj, _⟩, _⟩ := df i hi; omega
end ADD2
/-- an item with its end -/
theorem comb {a : Nat → Int32} {run : Option (Int32 × zH)} {hm : zH} {m p e : Nat} {cond : List Int32 → Prop} {eff : List Int32 → zH → Prop} (hO : OutR a run hm m p cond eff) (hm3 : m < 4) (hpe : p ≤ e) (hp : p ≤ 250) (he : a e = 59) (hno : ∀ y, p ≤ y → y < e → a y ≠ 59) : (∃ l hm', nms a e 4 p = some l ∧ l.length = m + 1 ∧ cond l ∧ run = some (1, hm') ∧ hm' 0 12 = nI e ∧ Fr hm hm' ∧ eff l hm') ∨ (∃ w hm', run = some (w, hm') ∧ Fr hm hm' ∧ (w = 0 ∨ w = 1 ∧ ∃ q', hm' 0 12 = nI q' ∧ q' ≤ 300 ∧ a q' ≠ 59) ∧ ∀ l, nms a e 4 p = some l → l.length = m + 1 → ¬ cond l) := by
  rcases hO with ⟨l, q, hm', g1, g2, g3, g4, g5, g6⟩ | ⟨hm', g1, g2, g3⟩
  · by_cases hq : q = e
    · subst hq
      obtain ⟨z1, z2⟩ := (nms_ch he m 4 p l hm3 hpe).mpr g1
      exact Or.inl ⟨l, hm', z1, z2, g2, g3, g4, g5, g6⟩
    · obtain ⟨w1, w2, w3⟩ := ch_no m p l q g1
      have hlt : q < e := by
        rcases Nat.lt_or_ge q e with z | z
        · exact z
        · exact absurd he (w3 e hpe (by omega))
      refine Or.inr ⟨1, hm', g3, g5, Or.inr ⟨rfl, q, g4, by omega, hno q (by omega) hlt⟩, fun l' z1 z2 => ?_⟩
      have := (nms_ch he m 4 p l' hm3 hpe).mp ⟨z1, z2⟩
      rw [g1] at this
      cases this
      exact absurd rfl hq
  · exact Or.inr ⟨0, hm', g1, g2, Or.inl rfl, fun l z1 z2 => g3 l e ((nms_ch he m 4 p l hm3 hpe).mp ⟨z1, z2⟩)⟩
