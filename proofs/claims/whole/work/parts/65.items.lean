/-! items of the text -/
def ch (a : Nat → Int32) : Nat → Nat → Option (List Int32 × Nat)
  | 0, p => if kD a p = 0 then none else some ([nV a p], p + kD a p)
  | m + 1, p => if kD a p = 0 then none else if a (p + kD a p) = 44 then (ch a m (p + kD a p + 1)).map (fun r => (nV a p :: r.1, r.2)) else none
theorem nms_ne {a : Nat → Int32} {e : Nat} : ∀ (f p : Nat) (l : List Int32), nms a e f p = some l → 0 < l.length
  | 0, p, l, h => by cases h
  | f + 1, p, l, h => by
    unfold nms at h
    by_cases h0 : kD a p = 0
    · rw [if_pos h0] at h; cases h
    · rw [if_neg h0] at h
      by_cases h1 : p + kD a p = e
      · rw [if_pos h1] at h; cases h; simp
      · rw [if_neg h1] at h
        by_cases h2 : a (p + kD a p) = 44
        · rw [if_pos h2] at h
          cases h3 : nms a e f (p + kD a p + 1) with
          | none => rw [h3] at h; cases h
          | some l' => rw [h3] at h; cases h; simp
        · rw [if_neg h2] at h; cases h
theorem nms_ch {a : Nat → Int32} {e : Nat} (he : a e = 59) : ∀ (m f p : Nat) (l : List Int32), m < f → p ≤ e → ((nms a e f p = some l ∧ l.length = m + 1) ↔ ch a m p = some (l, e))
  | m, f + 1, p, l, hm, hp => by
    have hpe := kD_in he hp
    have e1 : nms a e (f + 1) p = (if kD a p = 0 then none else if p + kD a p = e then some [nV a p] else if a (p + kD a p) = 44 then (nms a e f (p + kD a p + 1)).map (fun l => nV a p :: l) else none) := rfl
    rw [e1]
    by_cases h0 : kD a p = 0
    · rw [if_pos h0]
      constructor
      · rintro ⟨q, _⟩; cases q
      · intro q
        cases m with
        | zero => unfold ch at q; rw [if_pos h0] at q; cases q
        | succ m => unfold ch at q; rw [if_pos h0] at q; cases q
    · rw [if_neg h0]
      by_cases h1 : p + kD a p = e
      · rw [if_pos h1]
        cases m with
        | zero =>
          unfold ch
          rw [if_neg h0, h1]
          constructor
          · rintro ⟨q, _⟩; cases q; rfl
          · intro q; cases q; exact ⟨rfl, rfl⟩
        | succ m =>
          unfold ch
          rw [if_neg h0, h1, he, if_neg (by decide)]
          constructor
          · rintro ⟨q, q2⟩; cases q; simp at q2
          · intro q; cases q
      · rw [if_neg h1]
        by_cases h2 : a (p + kD a p) = 44
        · rw [if_pos h2]
          cases m with
          | zero =>
            unfold ch
            rw [if_neg h0]
            constructor
            · rintro ⟨q, q2⟩
              cases h3 : nms a e f (p + kD a p + 1) with
              | none => rw [h3] at q; cases q
              | some l' =>
                rw [h3] at q; cases q
                have := nms_ne f _ l' h3
                simp at q2; subst q2; simp at this
            · intro q; cases q; exact absurd rfl h1
          | succ m =>
            have ih := fun l' => nms_ch he m f (p + kD a p + 1) l' (by omega) (by omega)
            unfold ch
            rw [if_neg h0, if_pos h2]
            constructor
            · rintro ⟨q, q2⟩
              cases h3 : nms a e f (p + kD a p + 1) with
              | none => rw [h3] at q; cases q
              | some l' =>
                rw [h3] at q; cases q
                rw [(ih l').mp ⟨h3, by simpa using q2⟩]; rfl
            · intro q
              cases h3 : ch a m (p + kD a p + 1) with
              | none => rw [h3] at q; cases q
              | some r =>
                obtain ⟨l', e'⟩ := r
                rw [h3] at q; cases q
                obtain ⟨z1, z2⟩ := (ih l').mpr h3
                rw [z1]; exact ⟨rfl, by simp [z2]⟩
        · rw [if_neg h2]
          constructor
          · rintro ⟨q, _⟩; cases q
          · intro q
            cases m with
            | zero => unfold ch at q; rw [if_neg h0] at q; cases q; exact absurd rfl h1
            | succ m => unfold ch at q; rw [if_neg h0, if_neg h2] at q; cases q
/-- nothing up to the end of the numbers ends the item -/
theorem ch_no {a : Nat → Int32} : ∀ (m p : Nat) (l : List Int32) (q : Nat), ch a m p = some (l, q) → p < q ∧ q ≤ p + 5 * m + 4 ∧ ∀ y, p ≤ y → y < q → a y ≠ 59
  | m, p, l, q, h => by
    have k4 := kD_le a p
    have hd : ∀ y, p ≤ y → y < p + kD a p → a y ≠ 59 := fun y y1 y2 z => by
      have := kD_dig (a := a) (p := p) (y - p) (by omega)
      rw [show p + (y - p) = y by omega, z] at this
      exact absurd this (by decide)
    cases m with
    | zero =>
      unfold ch at h
      by_cases h0 : kD a p = 0
      · rw [if_pos h0] at h; cases h
      · rw [if_neg h0] at h; cases h
        exact ⟨by omega, by omega, hd⟩
    | succ m =>
      unfold ch at h
      by_cases h0 : kD a p = 0
      · rw [if_pos h0] at h; cases h
      · rw [if_neg h0] at h
        by_cases h2 : a (p + kD a p) = 44
        · rw [if_pos h2] at h
          cases h3 : ch a m (p + kD a p + 1) with
          | none => rw [h3] at h; cases h
          | some r =>
            obtain ⟨l', e'⟩ := r
            rw [h3] at h; cases h
            obtain ⟨z1, z2, z3⟩ := ch_no m _ l' _ h3
            refine ⟨by omega, by omega, fun y y1 y2 => ?_⟩
            rcases Nat.lt_or_ge y (p + kD a p) with w | w
            · exact hd y y1 w
            · by_cases w2 : y = p + kD a p
              · rw [w2, h2]; decide
              · exact z3 y (by omega) y2
        · rw [if_neg h2] at h; cases h
/-- the reference's cells that a reading leaves -/
def Fr (hm hm' : zH) : Prop := (∀ k, k ≠ 0 → k ≠ 2 → k ≠ 3 → k ≠ 4 → k ≠ 5 → k ≠ 6 → hm' k = hm k) ∧ (∀ j, j ≠ 11 → j ≠ 12 → hm' 0 j = hm 0 j) ∧ (∀ j, j < 5 → hm' 2 j = hm 2 j) ∧ (∀ j, j < 18 → hm' 3 j = hm 3 j) ∧ (∀ j, j < 24 → hm' 4 j = hm 4 j) ∧ (∀ j, j < 27 → hm' 5 j = hm 5 j) ∧ ∀ j, j < 12 → hm' 6 j = hm 6 j
theorem Fr.rf {h : zH} : Fr h h := ⟨fun _ _ _ _ _ _ _ => rfl, fun _ _ _ => rfl, fun _ _ => rfl, fun _ _ => rfl, fun _ _ => rfl, fun _ _ => rfl, fun _ _ => rfl⟩
theorem Fr.tr {a b c : zH} (h : Fr a b) (h' : Fr b c) : Fr a c := by
  obtain ⟨a1, a2, a3, a4, a5, a6, a7⟩ := h
  obtain ⟨b1, b2, b3, b4, b5, b6, b7⟩ := h'
  exact ⟨fun k k0 k2 k3 k4 k5 k6 => (b1 k k0 k2 k3 k4 k5 k6).trans (a1 k k0 k2 k3 k4 k5 k6), fun j j1 j2 => (b2 j j1 j2).trans (a2 j j1 j2), fun j hj => (b3 j hj).trans (a3 j hj), fun j hj => (b4 j hj).trans (a4 j hj), fun j hj => (b5 j hj).trans (a5 j hj), fun j hj => (b6 j hj).trans (a6 j hj), fun j hj => (b7 j hj).trans (a7 j hj)⟩
theorem nH_Fr {a : Nat → Int32} {p j : Nat} {h : zH} : Fr h (nH a p j h) := ⟨fun k k0 _ _ _ _ _ => nH_k k0, fun j j1 j2 => nH_0 j1 j2, fun j _ => by rw [nH_k (by omega)], fun j _ => by rw [nH_k (by omega)], fun j _ => by rw [nH_k (by omega)], fun j _ => by rw [nH_k (by omega)], fun j _ => by rw [nH_k (by omega)]⟩
theorem Fr.LM {a : Nat → Int32} {len : Nat} {h h' : zH} (f : Fr h h') (l : LM a len h) : LM a len h' := l.of (f.2.1 0 (by omega) (by omega)) (f.1 1 (by omega) (by omega) (by omega) (by omega) (by omega) (by omega))
/-- what is told by the text so far, on both sides -/
def DR (p : Nat) (h hm : zH) : Prop := okN (fun k => h (p + k)) ∧ okL (fun k => h (p + k)) ∧ okP (fun k => h (p + k)) ∧ okF (fun k => h (p + k)) ∧ okS (fun k => h (p + k)) ∧ (∀ k, k < 5 → hm 2 (5 + k) = h p k) ∧ (∀ l, l < nl (fun k => h (p + k)) → hm 3 (18 + 2 * l) = h (p + 1) l ∧ hm 3 (19 + 2 * l) = h (p + 2) l) ∧ (∀ i, i < np (fun k => h (p + k)) → hm 4 (24 + 4 * i) = h (p + 3) i ∧ hm 4 (25 + 4 * i) = h (p + 4) i ∧ hm 4 (26 + 4 * i) = h (p + 5) i ∧ hm 4 (27 + 4 * i) = h (p + 6) i) ∧ (∀ i, i < nf (fun k => h (p + k)) → hm 5 (27 + 3 * i) = h (p + 7) i ∧ hm 5 (28 + 3 * i) = h (p + 8) i ∧ hm 5 (29 + 3 * i) = h (p + 9) i) ∧ ∀ s, s ≤ ns (fun k => h (p + k)) → hm 6 (12 + 2 * s) = h (p + 10) s ∧ hm 6 (13 + 2 * s) = h (p + 11) s
