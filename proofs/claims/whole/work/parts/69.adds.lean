theorem isFrom_inb (v lo hi : Int32) : Pl_isFrom v lo hi = some (b2i (inb v lo hi)) := by rw [isFrom_isIn, inb_eq]
theorem isBus_inb {p b : Nat} {h : zH} (hb : h p 0 = nI b) (hb6 : b ≤ 6) (v : Int32) : Pl_isBus p v h = some (b2i (inb v 0 (nI b - 1))) := by
  unfold Pl_isBus inb
  rw [hb]
  by_cases h1 : v < 0
  · rw [if_pos h1]; simp [h1, b2i]
  · rw [if_neg h1]
    have e := nI_m1 (n := b) (by omega)
    by_cases h2 : nI b ≤ v
    · have : nI b - 1 < v := ilt.mpr (by have := ile.mp h2; rw [nI_toInt (by omega)] at this; omega)
      rw [if_pos h2]; simp [this, b2i]
    · have : ¬ nI b - 1 < v := fun z => h2 (ile.mpr (by have := ilt.mp z; rw [nI_toInt (by omega)]; omega))
      rw [if_neg h2]; simp [h1, this, b2i]
theorem inb_in {v lo hi : Int32} (h : inb v lo hi = true) : lo.toInt ≤ v.toInt ∧ v.toInt ≤ hi.toInt := by
  unfold inb at h
  simp at h
  exact ⟨ile.mp h.1, ile.mp h.2⟩
theorem inb_bus {v : Int32} {b : Nat} (hb : b ≤ 6) (h : inb v 0 (nI b - 1) = true) : ∃ j, j < b ∧ v = nI j := by
  obtain ⟨h1, h2⟩ := inb_in h
  rw [nI_m1 (by omega)] at h2
  have h0 : (0 : Int32).toInt = 0 := rfl
  refine ⟨v.toInt.toNat, by omega, ieq.mpr ?_⟩
  rw [nI_toInt (by omega)]; omega
/-- what the text has told so far, counted, on both sides -/
def DX (p : Nat) (h hm : zH) (b l q f s : Nat) : Prop :=
  (b ≤ 6 ∧ l ≤ 9 ∧ q ≤ 6 ∧ f ≤ 9 ∧ s ≤ 5) ∧ (h p 0 = nI b ∧ h p 1 = nI l ∧ h p 2 = nI q ∧ h p 3 = nI f ∧ h p 4 = nI s) ∧ (hm 2 5 = nI b ∧ hm 2 6 = nI l ∧ hm 2 7 = nI q ∧ hm 2 8 = nI f ∧ hm 2 9 = nI s) ∧
  (∀ i, i < l → (∃ j, j < b ∧ h (p + 1) i = nI j) ∧ (∃ j, j < b ∧ h (p + 2) i = nI j) ∧ hm 3 (18 + 2 * i) = h (p + 1) i ∧ hm 3 (19 + 2 * i) = h (p + 2) i) ∧
  (∀ i, i < q → (∃ j, j < b ∧ h (p + 3) i = nI j) ∧ isIn (h (p + 4) i) 1 99 ∧ isIn (h (p + 5) i) 1 9 ∧ isIn (h (p + 6) i) 1 9 ∧ hm 4 (24 + 4 * i) = h (p + 3) i ∧ hm 4 (25 + 4 * i) = h (p + 4) i ∧ hm 4 (26 + 4 * i) = h (p + 5) i ∧ hm 4 (27 + 4 * i) = h (p + 6) i) ∧
  (∀ i, i < f → (∃ j, j < b ∧ h (p + 7) i = nI j) ∧ isIn (h (p + 8) i) 1 50 ∧ isIn (h (p + 9) i) 0 5 ∧ hm 5 (27 + 3 * i) = h (p + 7) i ∧ hm 5 (28 + 3 * i) = h (p + 8) i ∧ hm 5 (29 + 3 * i) = h (p + 9) i) ∧
  ∀ i, i ≤ s → isIn (h (p + 11) i) 1 9 ∧ hm 6 (12 + 2 * i) = h (p + 10) i ∧ hm 6 (13 + 2 * i) = h (p + 11) i
theorem DX.of {p b l q f s : Nat} {h h' hm hm' : zH} (d : DX p h hm b l q f s) (e1 : ∀ k, p ≤ k → k ≤ p + 11 → h' k = h k) (e2 : ∀ k, 2 ≤ k → k ≤ 6 → hm' k = hm k) : DX p h' hm' b l q f s := by
  unfold DX
  rw [e1 p (by omega) (by omega), e1 (p + 1) (by omega) (by omega), e1 (p + 2) (by omega) (by omega), e1 (p + 3) (by omega) (by omega), e1 (p + 4) (by omega) (by omega), e1 (p + 5) (by omega) (by omega), e1 (p + 6) (by omega) (by omega), e1 (p + 7) (by omega) (by omega), e1 (p + 8) (by omega) (by omega), e1 (p + 9) (by omega) (by omega), e1 (p + 10) (by omega) (by omega), e1 (p + 11) (by omega) (by omega), e2 2 (by omega) (by omega), e2 3 (by omega) (by omega), e2 4 (by omega) (by omega), e2 5 (by omega) (by omega), e2 6 (by omega) (by omega)]
  exact d
section ADD
variable {p b l q f s : Nat} {h hm hm' : zH}
theorem addF (d : DX p h hm b l q f s) (x y z : Int32) : (¬ (¬ hm 2 8 = 9 ∧ rg [(0, hm 2 5 - 1), (1, 50), (0, 5)] [x, y, z] = true) ∧ Pl_addFeeder p x y z h = some (0, h)) ∨ ((¬ hm 2 8 = 9 ∧ rg [(0, hm 2 5 - 1), (1, 50), (0, 5)] [x, y, z] = true) ∧ ∃ h2, Pl_addFeeder p x y z h = some (1, h2) ∧ (∀ k, ¬ (p ≤ k ∧ k ≤ p + 11) → h2 k = h k) ∧ (hm' 2 = upd (hm 2) 8 (nI (f + 1)) → hm' 3 = hm 3 → hm' 4 = hm 4 → hm' 5 = upd (upd (upd (hm 5) (27 + 3 * f) x) (28 + 3 * f) y) (29 + 3 * f) z → hm' 6 = hm 6 → DX p h2 hm' b l q (f + 1) s)) := by
  obtain ⟨⟨b6, l9, q6, f9, s5⟩, ⟨c0, c1, c2, c3, c4⟩, ⟨m0, m1, m2', m3', m4'⟩, dl, dq, df, ds⟩ := d
  rw [m0, m3']
  show (¬ (_ ∧ (inb x 0 (nI b - 1) && (inb y 1 50 && (inb z 0 5 && true))) = true) ∧ _) ∨ ((_ ∧ (inb x 0 (nI b - 1) && (inb y 1 50 && (inb z 0 5 && true))) = true) ∧ _)
  unfold Pl_addFeeder
  rw [c3, isBus_inb c0 b6, isFrom_inb, isFrom_inb, Option.bind_some, Option.bind_some, Option.bind_some]
  by_cases h9 : f = 9
  · subst h9
    exact Or.inl ⟨fun z => z.1 rfl, by rw [if_pos (show (9 : Int32) ≤ nI 9 by decide)]⟩
  rw [if_neg (show ¬ (9 : Int32) ≤ nI f from nI_lt_of (e := 9) (by omega) (by omega))]
  cases hx : inb x 0 (nI b - 1)
  · exact Or.inl ⟨fun z => by simp at z, by rw [if_pos (by rfl)]⟩
  rw [if_neg (by decide)]
  cases hy : inb y 1 50
  · exact Or.inl ⟨fun z => by simp at z, by rw [if_pos (by rfl)]⟩
  rw [if_neg (by decide)]
  cases hz : inb z 0 5
  · exact Or.inl ⟨fun z => by simp at z, by rw [if_pos (by rfl)]⟩
  rw [if_neg (by decide)]
  refine Or.inr ⟨⟨fun z => h9 ((nI_eq (b := 9) (by omega) (by omega)).mp z), rfl⟩, ?_⟩
  have u1 : ∀ (c : Nat) (v : Int32), c ≠ p → upd2 h c f v p 3 = nI f := fun c v hc => by rw [upd2_ne (Ne.symm hc)]; exact c3
  rw [zr_nI (show f < 9 by omega) (by omega), gd_true, nI_clamp (show f < 2 ^ 31 by omega), zlet_n, u1 _ _ (by omega), zr_nI (show f < 9 by omega) (by omega), gd_true, nI_clamp (show f < 2 ^ 31 by omega), zlet_n]
  have u2 : upd2 (upd2 h (p + 7) f x) (p + 8) f y p 3 = nI f := by rw [upd2_ne (by omega)]; exact u1 _ _ (by omega)
  rw [u2, zr_nI (show f < 9 by omega) (by omega), gd_true, nI_clamp (show f < 2 ^ 31 by omega), zlet_n, zlet_n]
  have u3 : upd2 (upd2 (upd2 h (p + 7) f x) (p + 8) f y) (p + 9) f z p 3 = nI f := by rw [upd2_ne (by omega)]; exact u2
  rw [u3, nI_1]
  refine ⟨_, rfl, fun k k0 => by rw [upd2_ne (by omega), upd2_ne (by omega), upd2_ne (by omega), upd2_ne (by omega)], fun g2 g3 g4 g5 g6 => ?_⟩
  have K : ∀ k, k ≠ p → k ≠ p + 7 → k ≠ p + 8 → k ≠ p + 9 → upd2 (upd2 (upd2 (upd2 h (p + 7) f x) (p + 8) f y) (p + 9) f z) p 3 (nI (f + 1)) k = h k := fun k k0 k7 k8 k9 => by rw [upd2_ne k0, upd2_ne k9, upd2_ne k8, upd2_ne k7]
  have K0 : upd2 (upd2 (upd2 (upd2 h (p + 7) f x) (p + 8) f y) (p + 9) f z) p 3 (nI (f + 1)) p = upd (h p) 3 (nI (f + 1)) := by rw [upd2_eq, upd2_ne (by omega), upd2_ne (by omega), upd2_ne (by omega)]
  have K7 : upd2 (upd2 (upd2 (upd2 h (p + 7) f x) (p + 8) f y) (p + 9) f z) p 3 (nI (f + 1)) (p + 7) = upd (h (p + 7)) f x := by rw [upd2_ne (by omega), upd2_ne (by omega), upd2_ne (by omega), upd2_eq]
  have K8 : upd2 (upd2 (upd2 (upd2 h (p + 7) f x) (p + 8) f y) (p + 9) f z) p 3 (nI (f + 1)) (p + 8) = upd (h (p + 8)) f y := by rw [upd2_ne (by omega), upd2_ne (by omega), upd2_eq, upd2_ne (by omega)]
  have K9 : upd2 (upd2 (upd2 (upd2 h (p + 7) f x) (p + 8) f y) (p + 9) f z) p 3 (nI (f + 1)) (p + 9) = upd (h (p + 9)) f z := by rw [upd2_ne (by omega), upd2_eq, upd2_ne (by omega), upd2_ne (by omega)]
  unfold DX
  rw [K0, K7, K8, K9, K (p + 1) (by omega) (by omega) (by omega) (by omega), K (p + 2) (by omega) (by omega) (by omega) (by omega), K (p + 3) (by omega) (by omega) (by omega) (by omega), K (p + 4) (by omega) (by omega) (by omega) (by omega), K (p + 5) (by omega) (by omega) (by omega) (by omega), K (p + 6) (by omega) (by omega) (by omega) (by omega), K (p + 10) (by omega) (by omega) (by omega) (by omega), K (p + 11) (by omega) (by omega) (by omega) (by omega), g2, g3, g4, g5, g6]
  refine ⟨⟨b6, l9, q6, by omega, s5⟩, ⟨by rw [upd_ne (by omega)]; exact c0, by rw [upd_ne (by omega)]; exact c1, by rw [upd_ne (by omega)]; exact c2, upd_eq, by rw [upd_ne (by omega)]; exact c4⟩, ⟨by rw [upd_ne (by omega)]; exact m0, by rw [upd_ne (by omega)]; exact m1, by rw [upd_ne (by omega)]; exact m2', upd_eq, by rw [upd_ne (by omega)]; exact m4'⟩, dl, dq, fun i hi => ?_, ds⟩
  by_cases e : i = f
  · subst e
    rw [upd_eq, upd_eq, upd_eq]
    refine ⟨inb_bus b6 hx, inb_in hy, inb_in hz, ?_, ?_, ?_⟩
    · rw [upd_ne (by omega), upd_ne (by omega), upd_eq]
    · rw [upd_ne (by omega), upd_eq]
    · rw [upd_eq]
  · rw [upd_ne e, upd_ne e, upd_ne e, upd_ne (show 27 + 3 * i ≠ 29 + 3 * f by omega), upd_ne (show 27 + 3 * i ≠ 28 + 3 * f by omega), upd_ne (show 27 + 3 * i ≠ 27 + 3 * f by omega), upd_ne (show 28 + 3 * i ≠ 29 + 3 * f by omega), upd_ne (show 28 + 3 * i ≠ 28 + 3 * f by omega), upd_ne (show 28 + 3 * i ≠ 27 + 3 * f by omega), upd_ne (show 29 + 3 * i ≠ 29 + 3 * f by omega), upd_ne (show 29 + 3 * i ≠ 28 + 3 * f by omega), upd_ne (show 29 + 3 * i ≠ 27 + 3 * f by omega)]
    exact df i (by omega)
theorem addL (d : DX p h hm b l q f s) (x y : Int32) : (¬ (¬ hm 2 6 = 9 ∧ rg [(0, hm 2 5 - 1), (0, hm 2 5 - 1)] [x, y] = true ∧ neq2 [x, y]) ∧ Pl_addLink p x y h = some (0, h)) ∨ ((¬ hm 2 6 = 9 ∧ rg [(0, hm 2 5 - 1), (0, hm 2 5 - 1)] [x, y] = true ∧ neq2 [x, y]) ∧ ∃ h2, Pl_addLink p x y h = some (1, h2) ∧ (∀ k, ¬ (p ≤ k ∧ k ≤ p + 11) → h2 k = h k) ∧ (hm' 2 = upd (hm 2) 6 (nI (l + 1)) → hm' 3 = upd (upd (hm 3) (18 + 2 * l) x) (19 + 2 * l) y → hm' 4 = hm 4 → hm' 5 = hm 5 → hm' 6 = hm 6 → DX p h2 hm' b (l + 1) q f s)) := by
  obtain ⟨⟨b6, l9, q6, f9, s5⟩, ⟨c0, c1, c2, c3, c4⟩, ⟨m0, m1, m2', m3', m4'⟩, dl, dq, df, ds⟩ := d
  rw [m0, m1]
  show (¬ (_ ∧ (inb x 0 (nI b - 1) && (inb y 0 (nI b - 1) && true)) = true ∧ ¬ y = x) ∧ _) ∨ ((_ ∧ (inb x 0 (nI b - 1) && (inb y 0 (nI b - 1) && true)) = true ∧ ¬ y = x) ∧ _)
  unfold Pl_addLink
  rw [c1, isBus_inb c0 b6, isBus_inb c0 b6, Option.bind_some, Option.bind_some]
  by_cases h9 : l = 9
  · subst h9
    exact Or.inl ⟨fun z => z.1 rfl, by rw [if_pos (show (9 : Int32) ≤ nI 9 by decide)]⟩
  rw [if_neg (show ¬ (9 : Int32) ≤ nI l from nI_lt_of (e := 9) (by omega) (by omega))]
  cases hx : inb x 0 (nI b - 1)
  · exact Or.inl ⟨fun z => by simp at z, by rw [if_pos (by rfl)]⟩
  rw [if_neg (by decide)]
  cases hy : inb y 0 (nI b - 1)
  · exact Or.inl ⟨fun z => by simp at z, by rw [if_pos (by rfl)]⟩
  rw [if_neg (by decide)]
  by_cases hxy : x = y
  · exact Or.inl ⟨fun z => z.2.2 hxy.symm, by rw [if_pos hxy]⟩
  rw [if_neg hxy]
  refine Or.inr ⟨⟨fun z => h9 ((nI_eq (b := 9) (by omega) (by omega)).mp z), rfl, fun z => hxy z.symm⟩, ?_⟩
  have u1 : ∀ (c : Nat) (v : Int32), c ≠ p → upd2 h c l v p 1 = nI l := fun c v hc => by rw [upd2_ne (Ne.symm hc)]; exact c1
  rw [zr_nI (show l < 9 by omega) (by omega), gd_true, nI_clamp (show l < 2 ^ 31 by omega), zlet_n, u1 _ _ (by omega), zr_nI (show l < 9 by omega) (by omega), gd_true, nI_clamp (show l < 2 ^ 31 by omega), zlet_n, zlet_n]
  have u2 : upd2 (upd2 h (p + 1) l x) (p + 2) l y p 1 = nI l := by rw [upd2_ne (by omega)]; exact u1 _ _ (by omega)
  rw [u2, nI_1]
  refine ⟨_, rfl, fun k k0 => by rw [upd2_ne (by omega), upd2_ne (by omega), upd2_ne (by omega)], fun g2 g3 g4 g5 g6 => ?_⟩
  have K : ∀ k, k ≠ p → k ≠ p + 1 → k ≠ p + 2 → upd2 (upd2 (upd2 h (p + 1) l x) (p + 2) l y) p 1 (nI (l + 1)) k = h k := fun k k0 k7 k8 => by rw [upd2_ne k0, upd2_ne k8, upd2_ne k7]
  have K0 : upd2 (upd2 (upd2 h (p + 1) l x) (p + 2) l y) p 1 (nI (l + 1)) p = upd (h p) 1 (nI (l + 1)) := by rw [upd2_eq, upd2_ne (by omega), upd2_ne (by omega)]
  have K1 : upd2 (upd2 (upd2 h (p + 1) l x) (p + 2) l y) p 1 (nI (l + 1)) (p + 1) = upd (h (p + 1)) l x := by rw [upd2_ne (by omega), upd2_ne (by omega), upd2_eq]
  have K2 : upd2 (upd2 (upd2 h (p + 1) l x) (p + 2) l y) p 1 (nI (l + 1)) (p + 2) = upd (h (p + 2)) l y := by rw [upd2_ne (by omega), upd2_eq, upd2_ne (by omega)]
  unfold DX
  rw [K0, K1, K2, K (p + 3) (by omega) (by omega) (by omega), K (p + 4) (by omega) (by omega) (by omega), K (p + 5) (by omega) (by omega) (by omega), K (p + 6) (by omega) (by omega) (by omega), K (p + 7) (by omega) (by omega) (by omega), K (p + 8) (by omega) (by omega) (by omega), K (p + 9) (by omega) (by omega) (by omega), K (p + 10) (by omega) (by omega) (by omega), K (p + 11) (by omega) (by omega) (by omega), g2, g3, g4, g5, g6]
  refine ⟨⟨b6, by omega, q6, f9, s5⟩, ⟨by rw [upd_ne (by omega)]; exact c0, upd_eq, by rw [upd_ne (by omega)]; exact c2, by rw [upd_ne (by omega)]; exact c3, by rw [upd_ne (by omega)]; exact c4⟩, ⟨by rw [upd_ne (by omega)]; exact m0, upd_eq, by rw [upd_ne (by omega)]; exact m2', by rw [upd_ne (by omega)]; exact m3', by rw [upd_ne (by omega)]; exact m4'⟩, fun i hi => ?_, dq, df, ds⟩
  by_cases e : i = l
  · subst e
    rw [upd_eq, upd_eq]
    refine ⟨inb_bus b6 hx, inb_bus b6 hy, ?_, ?_⟩
    · rw [upd_ne (by omega), upd_eq]
    · rw [upd_eq]
  · rw [upd_ne e, upd_ne e, upd_ne (show 18 + 2 * i ≠ 19 + 2 * l by omega), upd_ne (show 18 + 2 * i ≠ 18 + 2 * l by omega), upd_ne (show 19 + 2 * i ≠ 19 + 2 * l by omega), upd_ne (show 19 + 2 * i ≠ 18 + 2 * l by omega)]
    exact dl i (by omega)
theorem addP (d : DX p h hm b l q f s) (x y z w : Int32) : (¬ (¬ hm 2 7 = 6 ∧ rg [(0, hm 2 5 - 1), (1, 99), (1, 9), (1, 9)] [x, y, z, w] = true) ∧ Pl_addPlant p x y z w h = some (0, h)) ∨ ((¬ hm 2 7 = 6 ∧ rg [(0, hm 2 5 - 1), (1, 99), (1, 9), (1, 9)] [x, y, z, w] = true) ∧ ∃ h2, Pl_addPlant p x y z w h = some (1, h2) ∧ (∀ k, ¬ (p ≤ k ∧ k ≤ p + 11) → h2 k = h k) ∧ (hm' 2 = upd (hm 2) 7 (nI (q + 1)) → hm' 3 = hm 3 → hm' 4 = upd (upd (upd (upd (hm 4) (24 + 4 * q) x) (25 + 4 * q) y) (26 + 4 * q) z) (27 + 4 * q) w → hm' 5 = hm 5 → hm' 6 = hm 6 → DX p h2 hm' b l (q + 1) f s)) := by
  obtain ⟨⟨b6, l9, q6, f9, s5⟩, ⟨c0, c1, c2, c3, c4⟩, ⟨m0, m1, m2', m3', m4'⟩, dl, dq, df, ds⟩ := d
  rw [m0, m2']
  show (¬ (_ ∧ (inb x 0 (nI b - 1) && (inb y 1 99 && (inb z 1 9 && (inb w 1 9 && true)))) = true) ∧ _) ∨ ((_ ∧ (inb x 0 (nI b - 1) && (inb y 1 99 && (inb z 1 9 && (inb w 1 9 && true)))) = true) ∧ _)
  unfold Pl_addPlant
  rw [c2, isBus_inb c0 b6, isFrom_inb, isFrom_inb, isFrom_inb, Option.bind_some, Option.bind_some, Option.bind_some, Option.bind_some]
  by_cases h9 : q = 6
  · subst h9
    exact Or.inl ⟨fun z => z.1 rfl, by rw [if_pos (show (6 : Int32) ≤ nI 6 by decide)]⟩
  rw [if_neg (show ¬ (6 : Int32) ≤ nI q from nI_lt_of (e := 6) (by omega) (by omega))]
  cases hx : inb x 0 (nI b - 1)
  · exact Or.inl ⟨fun z => by simp at z, by rw [if_pos (by rfl)]⟩
  rw [if_neg (by decide)]
  cases hy : inb y 1 99
  · exact Or.inl ⟨fun z => by simp at z, by rw [if_pos (by rfl)]⟩
  rw [if_neg (by decide)]
  cases hz : inb z 1 9
  · exact Or.inl ⟨fun z => by simp at z, by rw [if_pos (by rfl)]⟩
  rw [if_neg (by decide)]
  cases hw : inb w 1 9
  · exact Or.inl ⟨fun z => by simp at z, by rw [if_pos (by rfl)]⟩
  rw [if_neg (by decide)]
  refine Or.inr ⟨⟨fun z => h9 ((nI_eq (b := 6) (by omega) (by omega)).mp z), rfl⟩, ?_⟩
  have u1 : ∀ (c : Nat) (v : Int32), c ≠ p → upd2 h c q v p 2 = nI q := fun c v hc => by rw [upd2_ne (Ne.symm hc)]; exact c2
  rw [zr_nI (show q < 6 by omega) (by omega), gd_true, nI_clamp (show q < 2 ^ 31 by omega), zlet_n, u1 _ _ (by omega), zr_nI (show q < 6 by omega) (by omega), gd_true, nI_clamp (show q < 2 ^ 31 by omega), zlet_n]
  have u2 : upd2 (upd2 h (p + 3) q x) (p + 4) q y p 2 = nI q := by rw [upd2_ne (by omega)]; exact u1 _ _ (by omega)
  rw [u2, zr_nI (show q < 6 by omega) (by omega), gd_true, nI_clamp (show q < 2 ^ 31 by omega), zlet_n]
  have u3 : upd2 (upd2 (upd2 h (p + 3) q x) (p + 4) q y) (p + 5) q z p 2 = nI q := by rw [upd2_ne (by omega)]; exact u2
  rw [u3, zr_nI (show q < 6 by omega) (by omega), gd_true, nI_clamp (show q < 2 ^ 31 by omega), zlet_n, zlet_n]
  have u4 : upd2 (upd2 (upd2 (upd2 h (p + 3) q x) (p + 4) q y) (p + 5) q z) (p + 6) q w p 2 = nI q := by rw [upd2_ne (by omega)]; exact u3
  rw [u4, nI_1]
  refine ⟨_, rfl, fun k k0 => by rw [upd2_ne (by omega), upd2_ne (by omega), upd2_ne (by omega), upd2_ne (by omega), upd2_ne (by omega)], fun g2 g3 g4 g5 g6 => ?_⟩
  have K : ∀ k, k ≠ p → k ≠ p + 3 → k ≠ p + 4 → k ≠ p + 5 → k ≠ p + 6 → upd2 (upd2 (upd2 (upd2 (upd2 h (p + 3) q x) (p + 4) q y) (p + 5) q z) (p + 6) q w) p 2 (nI (q + 1)) k = h k := fun k k0 k7 k8 k9 k10 => by rw [upd2_ne k0, upd2_ne k10, upd2_ne k9, upd2_ne k8, upd2_ne k7]
  have K0 : upd2 (upd2 (upd2 (upd2 (upd2 h (p + 3) q x) (p + 4) q y) (p + 5) q z) (p + 6) q w) p 2 (nI (q + 1)) p = upd (h p) 2 (nI (q + 1)) := by rw [upd2_eq, upd2_ne (by omega), upd2_ne (by omega), upd2_ne (by omega), upd2_ne (by omega)]
  have K3 : upd2 (upd2 (upd2 (upd2 (upd2 h (p + 3) q x) (p + 4) q y) (p + 5) q z) (p + 6) q w) p 2 (nI (q + 1)) (p + 3) = upd (h (p + 3)) q x := by rw [upd2_ne (by omega), upd2_ne (by omega), upd2_ne (by omega), upd2_ne (by omega), upd2_eq]
  have K4 : upd2 (upd2 (upd2 (upd2 (upd2 h (p + 3) q x) (p + 4) q y) (p + 5) q z) (p + 6) q w) p 2 (nI (q + 1)) (p + 4) = upd (h (p + 4)) q y := by rw [upd2_ne (by omega), upd2_ne (by omega), upd2_ne (by omega), upd2_eq, upd2_ne (by omega)]
  have K5 : upd2 (upd2 (upd2 (upd2 (upd2 h (p + 3) q x) (p + 4) q y) (p + 5) q z) (p + 6) q w) p 2 (nI (q + 1)) (p + 5) = upd (h (p + 5)) q z := by rw [upd2_ne (by omega), upd2_ne (by omega), upd2_eq, upd2_ne (by omega), upd2_ne (by omega)]
  have K6 : upd2 (upd2 (upd2 (upd2 (upd2 h (p + 3) q x) (p + 4) q y) (p + 5) q z) (p + 6) q w) p 2 (nI (q + 1)) (p + 6) = upd (h (p + 6)) q w := by rw [upd2_ne (by omega), upd2_eq, upd2_ne (by omega), upd2_ne (by omega), upd2_ne (by omega)]
  unfold DX
  rw [K0, K3, K4, K5, K6, K (p + 1) (by omega) (by omega) (by omega) (by omega) (by omega), K (p + 2) (by omega) (by omega) (by omega) (by omega) (by omega), K (p + 7) (by omega) (by omega) (by omega) (by omega) (by omega), K (p + 8) (by omega) (by omega) (by omega) (by omega) (by omega), K (p + 9) (by omega) (by omega) (by omega) (by omega) (by omega), K (p + 10) (by omega) (by omega) (by omega) (by omega) (by omega), K (p + 11) (by omega) (by omega) (by omega) (by omega) (by omega), g2, g3, g4, g5, g6]
  refine ⟨⟨b6, l9, by omega, f9, s5⟩, ⟨by rw [upd_ne (by omega)]; exact c0, by rw [upd_ne (by omega)]; exact c1, upd_eq, by rw [upd_ne (by omega)]; exact c3, by rw [upd_ne (by omega)]; exact c4⟩, ⟨by rw [upd_ne (by omega)]; exact m0, by rw [upd_ne (by omega)]; exact m1, upd_eq, by rw [upd_ne (by omega)]; exact m3', by rw [upd_ne (by omega)]; exact m4'⟩, dl, fun i hi => ?_, df, ds⟩
  by_cases e : i = q
  · subst e
    rw [upd_eq, upd_eq, upd_eq, upd_eq]
    refine ⟨inb_bus b6 hx, inb_in hy, inb_in hz, inb_in hw, ?_, ?_, ?_, ?_⟩
    · rw [upd_ne (by omega), upd_ne (by omega), upd_ne (by omega), upd_eq]
    · rw [upd_ne (by omega), upd_ne (by omega), upd_eq]
    · rw [upd_ne (by omega), upd_eq]
    · rw [upd_eq]
  · obtain ⟨d1, d2, d3, d4, d5, d6, d7, d8⟩ := dq i (by omega)
    rw [upd_ne e, upd_ne e, upd_ne e, upd_ne e]
    refine ⟨d1, d2, d3, d4, ?_, ?_, ?_, ?_⟩
    · rw [upd_ne (by omega), upd_ne (by omega), upd_ne (by omega), upd_ne (by omega)]; exact d5
    · rw [upd_ne (by omega), upd_ne (by omega), upd_ne (by omega), upd_ne (by omega)]; exact d6
    · rw [upd_ne (by omega), upd_ne (by omega), upd_ne (by omega), upd_ne (by omega)]; exact d7
    · rw [upd_ne (by omega), upd_ne (by omega), upd_ne (by omega), upd_ne (by omega)]; exact d8
end ADD
