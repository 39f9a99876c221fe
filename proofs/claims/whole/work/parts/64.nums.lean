def nms (a : Nat → Int32) (e : Nat) : Nat → Nat → Option (List Int32)
  | 0, _ => none
  | f + 1, p => if kD a p = 0 then none else if p + kD a p = e then some [nV a p] else if a (p + kD a p) = 44 then (nms a e f (p + kD a p + 1)).map (fun l => nV a p :: l) else none
theorem kD_in {a : Nat → Int32} {e p : Nat} (he : a e = 59) (hp : p ≤ e) : p + kD a p ≤ e := by
  rcases Nat.lt_or_ge e (p + kD a p) with q | q
  · have := kD_dig (a := a) (p := p) (e - p) (by omega)
    rw [show p + (e - p) = e by omega, he] at this
    exact absurd this (by decide)
  · exact q
section NUMS
variable {a : Nat → Int32} {len e : Nat}
theorem cdig {h : zH} (l : LX a len h) (hl : len ≤ 200) (hel : e < len) (k1 k2 : zH → Option (Int32 × zH)) (k3 : Int32 → zH → Option (Int32 × zH)) (c : Int32) {p : Nat} (hpe : p + kD a p ≤ e) : ∀ (d j n : Nat), j + d = kD a p → Re_readNumbers_L12 (nI e) k1 k2 k3 (n + d) c (nI j) (vD a p j) (nI (p + j)) h = Re_readNumbers_L12 (nI e) k1 k2 k3 n c (nI (kD a p)) (nV a p) (nI (p + kD a p)) h
  | 0, j, n, hj => by
    have e : j = kD a p := by omega
    subst e; rfl
  | d + 1, j, n, hj => by
    have k4 := kD_le a p
    have hd := kD_dig (a := a) (p := p) j (by omega)
    obtain ⟨d1, d2⟩ := dig_t hd
    rw [← Nat.add_assoc, Re_readNumbers_L12, if_neg (show ¬ nI e < nI (p + j) from nI_nlt (by omega) (by omega)), zlet_n (α := Int32 → Option (Int32 × zH)), if_neg (show ¬ nI e ≤ nI (p + j) from nI_lt_of (by omega) (by omega)), zr_nI (show p + j < 200 by omega) (by omega), gd_true, nI_clamp (show p + j < 2 ^ 31 by omega), l.2 (p + j) (by omega)]
    try dsimp only
    rw [if_neg (show ¬ a (p + j) = 44 from fun q => d1 (by rw [q]; decide)), if_neg d1, if_neg d2, if_neg (show ¬ (4 : Int32) ≤ nI j from nI_lt_of (e := 4) (by omega) (by omega)), zlet_n, nI_1, nI_1]
    rw [show vD a p j * 10 + a (p + j) - 48 = vD a p (j + 1) by
      show _ = 10 * vD a p j + a (p + j) - 48
      rw [Int32.mul_comm]]
    exact cdig l hl hel k1 k2 k3 c hpe d (j + 1) n (by omega)
theorem cnums (hl : len ≤ 200) (hel : e < len) (he : a e = 59) (k3 : Int32 → zH → Option (Int32 × zH)) : ∀ (f c p n : Nat) (h : zH), LX a len h → c + f = 4 → p ≤ e → 5 * f + 7 ≤ n → ∃ h', Re_readNumbers_L12 (nI e) (fun h_3 => some ((-1), h_3)) (fun h_4 => some ((-1), h_4)) k3 n (nI c) 0 0 (nI p) h = (match nms a e f p with
      | some l => k3 (nI (c + l.length)) h'
      | none => some (-1, h')) ∧ (∀ k, k ≠ 4 → h' k = h k) ∧ (∀ j, j < c → h' 4 j = h 4 j) ∧ ∀ l, nms a e f p = some l → ∀ i v, l[i]? = some v → h' 4 (c + i) = v
  | f, c, p, n, h, l, hc, hp, hn => by
    have k4 := kD_le a p
    have hpe := kD_in he hp
    obtain ⟨n', rfl⟩ : ∃ n', n = n' + 1 + kD a p := ⟨n - 1 - kD a p, by omega⟩
    have hd := cdig l hl hel (fun h_3 => some ((-1), h_3)) (fun h_4 => some ((-1), h_4)) k3 (nI c) hpe (kD a p) 0 (n' + 1) (by omega)
    have hd' : Re_readNumbers_L12 (nI e) (fun h_3 => some ((-1), h_3)) (fun h_4 => some ((-1), h_4)) k3 (n' + 1 + kD a p) (nI c) 0 0 (nI p) h = _ := hd
    rw [hd', Re_readNumbers_L12, if_neg (show ¬ nI e < nI (p + kD a p) from nI_nlt hpe (by omega)), zlet_n (α := Int32 → Option (Int32 × zH))]
    -- where it ends badly
    have bad : nms a e f p = none → ∃ h', some ((-1 : Int32), h) = (match nms a e f p with
      | some l => k3 (nI (c + l.length)) h'
      | none => some (-1, h')) ∧ (∀ k, k ≠ 4 → h' k = h k) ∧ (∀ j, j < c → h' 4 j = h 4 j) ∧ ∀ l, nms a e f p = some l → ∀ i v, l[i]? = some v → h' 4 (c + i) = v := fun q => by
      rw [q]; exact ⟨h, rfl, fun _ _ => rfl, fun _ _ => rfl, fun l hl => by cases hl⟩
    by_cases hz : kD a p = 0
    · have hnone : nms a e f p = none := by
        cases f with
        | zero => rfl
        | succ f => unfold nms; rw [if_pos hz]
      have hx5 : nI (kD a p) = 0 := by rw [hz]; rfl
      have hnd := kD_end (a := a) (p := p) (by omega)
      by_cases q : p + kD a p = e
      · rw [if_pos (by rw [q]; exact nI_le_rf _)]
        try dsimp only
        rw [if_pos rfl, if_pos hx5]
        exact bad hnone
      · rw [if_neg (nI_lt_of (show p + kD a p < e by omega) (by omega)), zr_nI (show p + kD a p < 200 by omega) (by omega), gd_true, nI_clamp (show p + kD a p < 2 ^ 31 by omega), l.2 (p + kD a p) (by omega)]
        try dsimp only
        by_cases q2 : a (p + kD a p) = 44
        · rw [if_pos q2, if_pos hx5]; exact bad hnone
        · rw [if_neg q2]
          rcases dig_f hnd with q3 | q3
          · rw [if_pos q3]; exact bad hnone
          · by_cases q4 : a (p + kD a p) < 48
            · rw [if_pos q4]; exact bad hnone
            · rw [if_neg q4, if_pos q3]; exact bad hnone
    · have hx5 : ¬ nI (kD a p) = 0 := fun q => hz ((nI_eq (b := 0) (by omega) (by omega)).mp q)
      by_cases q : p + kD a p = e
      · -- the last one
        rw [if_pos (show nI e ≤ nI (p + kD a p) by rw [q]; exact nI_le_rf _)]
        try dsimp only
        rw [if_pos rfl, if_neg hx5]
        cases f with
        | zero =>
          rw [if_neg (show ¬ nI c < 4 by rw [show c = 4 by omega]; decide)]
          exact bad rfl
        | succ f =>
          rw [if_pos (show nI c < 4 from nI_lt (b := 4) (by omega) (by omega)), zr_nI (show c < 4 by omega) (by omega), gd_true, nI_clamp (show c < 2 ^ 31 by omega), zlet_n, nI_1, nI_1, q]
          obtain ⟨n'', rfl⟩ : ∃ n'', n' = n'' + 1 := ⟨n' - 1, by omega⟩
          rw [Re_readNumbers_L12, if_pos (show nI e < nI (e + 1) from nI_lt (by omega) (by omega))]
          have hs : nms a e (f + 1) p = some [nV a p] := by unfold nms; rw [if_neg hz, if_pos q]
          rw [hs]
          refine ⟨_, rfl, fun k hk => upd2_ne hk, fun j hj => by rw [upd2_eq, upd_ne (by omega)], fun l' hl' i v hv => ?_⟩
          cases hl'
          match i, hv with
          | 0, hv => cases hv; rw [upd2_eq]; exact upd_eq
      · rw [if_neg (nI_lt_of (show p + kD a p < e by omega) (by omega)), zr_nI (show p + kD a p < 200 by omega) (by omega), gd_true, nI_clamp (show p + kD a p < 2 ^ 31 by omega), l.2 (p + kD a p) (by omega)]
        try dsimp only
        by_cases q2 : a (p + kD a p) = 44
        · rw [if_pos q2, if_neg hx5]
          cases f with
          | zero =>
            rw [if_neg (show ¬ nI c < 4 by rw [show c = 4 by omega]; decide)]
            exact bad rfl
          | succ f =>
            rw [if_pos (show nI c < 4 from nI_lt (b := 4) (by omega) (by omega)), zr_nI (show c < 4 by omega) (by omega), gd_true, nI_clamp (show c < 2 ^ 31 by omega), zlet_n, nI_1, nI_1]
            have l' : LX a len (upd2 h 4 c (nV a p)) := ⟨by rw [upd2_ne (by omega)]; exact l.1, fun x hx => by rw [upd2_ne (by omega)]; exact l.2 x hx⟩
            obtain ⟨h', r1, r2, r3, r4⟩ := cnums hl hel he k3 f (c + 1) (p + kD a p + 1) n' _ l' (by omega) (by omega) (by omega)
            have hs : nms a e (f + 1) p = (nms a e f (p + kD a p + 1)).map (fun l => nV a p :: l) := by
              show (if kD a p = 0 then none else if p + kD a p = e then some [nV a p] else if a (p + kD a p) = 44 then (nms a e f (p + kD a p + 1)).map (fun l => nV a p :: l) else none) = _
              rw [if_neg hz, if_neg q, if_pos q2]
            rw [r1, hs]
            refine ⟨h', ?_, fun k hk => (r2 k hk).trans (upd2_ne hk), fun j hj => by rw [r3 j (by omega), upd2_eq, upd_ne (by omega)], fun l2 hl2 i v hv => ?_⟩
            · cases nms a e f (p + kD a p + 1) with
              | none => rfl
              | some l3 =>
                show k3 (nI (c + 1 + l3.length)) h' = k3 (nI (c + (nV a p :: l3).length)) h'
                rw [List.length_cons, show c + 1 + l3.length = c + (l3.length + 1) by omega]
            · cases hn3 : nms a e f (p + kD a p + 1) with
              | none => rw [hn3] at hl2; cases hl2
              | some l3 =>
                rw [hn3] at hl2
                cases hl2
                match i, hv with
                | 0, hv => cases hv; rw [Nat.add_zero, r3 c (by omega), upd2_eq, upd_eq]
                | i + 1, hv =>
                  have := r4 l3 hn3 i v hv
                  rw [show c + (i + 1) = c + 1 + i by omega]; exact this
        · have hnone : nms a e f p = none := by
            cases f with
            | zero => rfl
            | succ f => unfold nms; rw [if_neg hz, if_neg q, if_neg q2]
          rw [if_neg q2]
          by_cases q4 : a (p + kD a p) < 48
          · rw [if_pos q4]; exact bad hnone
          · rw [if_neg q4]
            by_cases q3 : 57 < a (p + kD a p)
            · rw [if_pos q3]; exact bad hnone
            · rw [if_neg q3]
              have h4 : kD a p = 4 := by
                rcases Nat.lt_or_ge (kD a p) 4 with z | z
                · rcases dig_f (kD_end z) with z1 | z1
                  · exact absurd z1 q4
                  · exact absurd z1 q3
                · omega
              rw [if_pos (show (4 : Int32) ≤ nI (kD a p) by rw [h4]; decide)]
              exact bad hnone
termination_by f => f
/-- the class reads the numbers of an item -/
theorem readNumbers_eq {h : zH} (hl : len ≤ 200) (hel : e < len) (he : a e = 59) (l : LX a len h) {p : Nat} (hp : p ≤ e) : ∃ h', Re_readNumbers (nI p) (nI e) h = (match nms a e 4 p with
      | some l => some (nI l.length, h')
      | none => some (-1, h')) ∧ (∀ k, k ≠ 4 → h' k = h k) ∧ ∀ l, nms a e 4 p = some l → ∀ i v, l[i]? = some v → h' 4 i = v := by
  obtain ⟨h', r1, r2, r3, r4⟩ := cnums hl hel he (fun x4_1 h_5 => some (x4_1, h_5)) 4 0 p 1000 h l (by omega) hp (by omega)
  refine ⟨h', ?_, r2, fun l hl i v hv => by have := r4 l hl i v hv; rw [Nat.zero_add] at this; exact this⟩
  unfold Re_readNumbers
  refine Eq.trans r1 ?_
  cases nms a e 4 p with
  | none => rfl
  | some l => show some (nI (0 + l.length), h') = _; rw [Nat.zero_add]
end NUMS
