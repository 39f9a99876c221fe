/-! the text: numbers -/
def dig (c : Int32) : Bool := !(decide (c < 48)) && !(decide (57 < c))
def kD (a : Nat → Int32) (p : Nat) : Nat := if dig (a p) then (if dig (a (p + 1)) then (if dig (a (p + 2)) then (if dig (a (p + 3)) then 4 else 3) else 2) else 1) else 0
def vD (a : Nat → Int32) (p : Nat) : Nat → Int32
  | 0 => 0
  | k + 1 => 10 * vD a p k + a (p + k) - 48
theorem kD_le (a : Nat → Int32) (p : Nat) : kD a p ≤ 4 := by unfold kD; (repeat' split) <;> omega
theorem kD_dig {a : Nat → Int32} {p : Nat} : ∀ j, j < kD a p → dig (a (p + j)) = true := by
  unfold kD
  by_cases h0 : dig (a p) = true
  · rw [if_pos h0]
    by_cases h1 : dig (a (p + 1)) = true
    · rw [if_pos h1]
      by_cases h2 : dig (a (p + 2)) = true
      · rw [if_pos h2]
        by_cases h3 : dig (a (p + 3)) = true
        · rw [if_pos h3]
          intro j hj
          match j with
          | 0 => exact h0
          | 1 => exact h1
          | 2 => exact h2
          | 3 => exact h3
          | j + 4 => omega
        · rw [if_neg h3]
          intro j hj
          match j with
          | 0 => exact h0
          | 1 => exact h1
          | 2 => exact h2
          | j + 3 => omega
      · rw [if_neg h2]
        intro j hj
        match j with
        | 0 => exact h0
        | 1 => exact h1
        | j + 2 => omega
    · rw [if_neg h1]
      intro j hj
      match j with
      | 0 => exact h0
      | j + 1 => omega
  · rw [if_neg h0]; intro j hj; omega
theorem kD_end {a : Nat → Int32} {p : Nat} (h : kD a p < 4) : dig (a (p + kD a p)) = false := by
  revert h
  unfold kD
  by_cases h0 : dig (a p) = true
  · rw [if_pos h0]
    by_cases h1 : dig (a (p + 1)) = true
    · rw [if_pos h1]
      by_cases h2 : dig (a (p + 2)) = true
      · rw [if_pos h2]
        by_cases h3 : dig (a (p + 3)) = true
        · rw [if_pos h3]; intro q; omega
        · rw [if_neg h3]; intro _; simpa using h3
      · rw [if_neg h2]; intro _; simpa using h2
    · rw [if_neg h1]; intro _; simpa using h1
  · rw [if_neg h0]; intro _; simpa using h0
theorem dig_t {c : Int32} (h : dig c = true) : ¬ c < 48 ∧ ¬ 57 < c := by
  unfold dig at h; simp at h; exact ⟨Int32.not_lt.mpr h.1, Int32.not_lt.mpr h.2⟩
theorem dig_f {c : Int32} (h : dig c = false) : c < 48 ∨ 57 < c := by
  by_cases h1 : c < 48
  · exact Or.inl h1
  by_cases h2 : 57 < c
  · exact Or.inr h2
  unfold dig at h; simp [h1, h2] at h
def LM (a : Nat → Int32) (len : Nat) (h : zH) : Prop := h 0 0 = nI len ∧ ∀ q, a q = if q < len then h 1 q else 0
def LX (a : Nat → Int32) (len : Nat) (h : zH) : Prop := h 1 1 = nI len ∧ ∀ q, q < len → h 2 q = a q
theorem LM.of {a : Nat → Int32} {len : Nat} {h h' : zH} (l : LM a len h) (e0 : h' 0 0 = h 0 0) (e1 : h' 1 = h 1) : LM a len h' := ⟨e0.trans l.1, fun q => by rw [e1]; exact l.2 q⟩
theorem letterAt_eq {a : Nat → Int32} {len : Nat} {h : zH} (l : LM a len h) (hl : len ≤ 200) {q : Nat} (hq : q < 2 ^ 30) : Mo_letterAt (nI q) h = some (a q) := by
  unfold Mo_letterAt
  rw [l.1, l.2 q]
  by_cases e : q < len
  · rw [if_neg (nI_lt_of e (by omega)), zr_nI (show q < 200 by omega) (by omega), gd_true, nI_clamp (by omega), if_pos e]
  · rw [if_pos (nI_leI (by omega) (by omega) |>.mpr (by omega)), if_neg e]
theorem a_len {a : Nat → Int32} {len : Nat} {h : zH} (l : LM a len h) {q : Nat} (hd : dig (a q) = true) : q < len := by
  by_cases e : q < len
  · exact e
  · rw [l.2 q, if_neg e] at hd; exact absurd hd (by decide)
def nH (a : Nat → Int32) (p j : Nat) (h : zH) : zH := setc h 0 (upd (upd (h 0) 11 (vD a p j)) 12 (nI (p + j)))
theorem nH_12 {a : Nat → Int32} {p j : Nat} {h : zH} : nH a p j h 0 12 = nI (p + j) := by unfold nH; rw [setc_eq, upd_eq]
theorem nH_11 {a : Nat → Int32} {p j : Nat} {h : zH} : nH a p j h 0 11 = vD a p j := by unfold nH; rw [setc_eq, upd_ne (by omega), upd_eq]
theorem nH_0 {a : Nat → Int32} {p j i : Nat} {h : zH} (h1 : i ≠ 11) (h2 : i ≠ 12) : nH a p j h 0 i = h 0 i := by unfold nH; rw [setc_eq, upd_ne h2, upd_ne h1]
theorem nH_k {a : Nat → Int32} {p j k : Nat} {h : zH} (hk : k ≠ 0) : nH a p j h k = h k := by unfold nH; exact setc_ne hk
theorem nH_LM {a : Nat → Int32} {len p j : Nat} {h : zH} (l : LM a len h) : LM a len (nH a p j h) := l.of (nH_0 (by omega) (by omega)) (nH_k (by omega))
theorem num_loop {a : Nat → Int32} {len p : Nat} {h : zH} (l : LM a len h) (hl : len ≤ 200) (hp : p ≤ 300) (k : zH → Option (Int32 × zH)) : ∀ (d j n : Nat), j + d = kD a p → d < n → Mo_number_L10 (nI p) k n (nH a p j h) = k (nH a p (kD a p) h)
  | 0, j, n + 1, hj, _ => by
    have e : j = kD a p := by omega
    subst e
    have lj := nH_LM (p := p) (j := kD a p) l
    have e12 : nH a p (kD a p) h 0 12 = nI (p + kD a p) := nH_12
    have k4 := kD_le a p
    rw [Mo_number_L10, e12, show nI p + 4 = nI (p + 4) from nI_add p 4]
    by_cases h4 : kD a p = 4
    · rw [if_pos (by rw [h4]; exact nI_le_rf _)]
    · rw [if_neg (nI_lt_of (by omega) (by omega)), letterAt_eq lj hl (by omega), Option.bind_some, Option.bind_some]
      by_cases h1 : a (p + kD a p) < 48
      · rw [if_pos h1]
      · rw [if_neg h1, if_pos ((dig_f (kD_end (by omega))).resolve_left h1)]
  | d + 1, j, n + 1, hj, hn => by
    have lj := nH_LM (p := p) (j := j) l
    have e12 : nH a p j h 0 12 = nI (p + j) := nH_12
    have k4 := kD_le a p
    have hd := kD_dig (a := a) (p := p) j (by omega)
    obtain ⟨d1, d2⟩ := dig_t hd
    have hlt := a_len l hd
    rw [Mo_number_L10, e12, show nI p + 4 = nI (p + 4) from nI_add p 4, if_neg (nI_lt_of (by omega) (by omega)), letterAt_eq lj hl (by omega), Option.bind_some, Option.bind_some, if_neg d1, if_neg d2, zr_nI (show p + j < 200 by omega) (by omega), gd_true, nI_clamp (show p + j < 2 ^ 31 by omega)]
    rw [zlet_n, zlet_n]
    have e11 : nH a p j h 0 11 = vD a p j := nH_11
    have e1 : nH a p j h 1 (p + j) = a (p + j) := by rw [nH_k (by omega), l.2 (p + j), if_pos hlt]
    rw [e11, e1]
    have e12' : upd2 (nH a p j h) 0 11 (10 * vD a p j + a (p + j) - 48) 0 12 = nI (p + j) := by rw [upd2_eq, upd_ne (by omega), e12]
    rw [e12', nI_1]
    have eH : upd2 (upd2 (nH a p j h) 0 11 (10 * vD a p j + a (p + j) - 48)) 0 12 (nI (p + j + 1)) = nH a p (j + 1) h := by
      unfold nH
      funext k
      by_cases ek : k = 0
      · subst ek
        rw [upd2_eq, upd2_eq, setc_eq, setc_eq]
        funext i
        by_cases e2 : i = 12
        · subst e2; rw [upd_eq, upd_eq]; rfl
        · rw [upd_ne e2, upd_ne e2]
          by_cases e3 : i = 11
          · subst e3; rw [upd_eq, upd_eq]; rfl
          · rw [upd_ne e3, upd_ne e3, upd_ne e2, upd_ne e3]
      · rw [upd2_ne ek, upd2_ne ek, setc_ne ek, setc_ne ek]
    rw [eH]
    exact num_loop l hl hp k d (j + 1) n (by omega) (by omega)
def inb (v lo hi : Int32) : Bool := !(decide (v < lo)) && !(decide (hi < v))
theorem inb_eq (v lo hi : Int32) : Mo_isIn v lo hi = some (b2i (inb v lo hi)) := by
  unfold Mo_isIn inb
  by_cases h1 : v < lo
  · rw [if_pos h1]; simp [h1, b2i]
  · rw [if_neg h1]
    by_cases h2 : hi < v
    · rw [if_pos h2]; simp [h2, b2i]
    · rw [if_neg h2]; simp [h1, h2, b2i]
abbrev nV (a : Nat → Int32) (p : Nat) : Int32 := vD a p (kD a p)
/-- the reference reads a number -/
theorem number_eq {a : Nat → Int32} {len p : Nat} {h : zH} (l : LM a len h) (hl : len ≤ 200) (hp : p ≤ 300) (lo hi : Int32) : Mo_number (nI p) lo hi h = some (b2i (decide (kD a p ≠ 0) && inb (nV a p) lo hi), nH a p (kD a p) h) := by
  unfold Mo_number
  rw [zlet_n, zlet_n]
  have eH : upd2 (upd2 h 0 11 0) 0 12 (nI p) = nH a p 0 h := by
    unfold nH
    funext k
    by_cases ek : k = 0
    · subst ek; rw [upd2_eq, upd2_eq, setc_eq]; rfl
    · rw [upd2_ne ek, upd2_ne ek, setc_ne ek]
  rw [eH, num_loop l hl hp _ (kD a p) 0 1000 (by omega) (by have := kD_le a p; omega)]
  have k4 := kD_le a p
  have e12 : nH a p (kD a p) h 0 12 = nI (p + kD a p) := nH_12
  have e11 : nH a p (kD a p) h 0 11 = nV a p := nH_11
  rw [e12, e11, inb_eq]
  by_cases h0 : kD a p = 0
  · rw [if_pos (by rw [h0]; exact nI_le_rf _)]; simp [h0, b2i]
  · rw [if_neg (nI_lt_of (by omega) (by omega)), Option.bind_some]
    cases e : inb (nV a p) lo hi
    · rw [if_pos (by rfl)]; simp [b2i]
    · rw [if_neg (by decide)]; simp [h0, b2i]
/-- behind a number, one more -/
theorem more_eq {a : Nat → Int32} {len q : Nat} {h : zH} (l : LM a len h) (hl : len ≤ 200) (hq : q ≤ 299) (h12 : h 0 12 = nI q) (lo hi : Int32) : Mo_more lo hi h = some (if a q = 44 then (b2i (decide (kD a (q + 1) ≠ 0) && inb (nV a (q + 1)) lo hi), nH a (q + 1) (kD a (q + 1)) h) else (0, h)) := by
  unfold Mo_more
  rw [h12, letterAt_eq l hl (by omega), Option.bind_some, nI_1]
  by_cases e : a q = 44
  · rw [if_pos e, if_pos e, number_eq l hl (by omega), Option.bind_some]
    cases e2 : (decide (kD a (q + 1) ≠ 0) && inb (nV a (q + 1)) lo hi)
    · dsimp only; rw [if_pos (by rfl)]; rfl
    · dsimp only; rw [if_neg (by decide)]; rfl
  · rw [if_neg e, if_neg e]
