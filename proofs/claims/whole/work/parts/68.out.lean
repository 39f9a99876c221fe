theorem ch_len {a : Nat → Int32} : ∀ (m p : Nat) (l : List Int32) (q : Nat), ch a m p = some (l, q) → l.length = m + 1
  | 0, p, l, q, h => by obtain ⟨_, rfl, _⟩ := ch0_inv h; rfl
  | m + 1, p, l, q, h => by obtain ⟨_, _, l', rfl, h'⟩ := chs_inv h; simp [ch_len m _ l' q h']
theorem out_nr {a : Nat → Int32} {len p : Nat} (hl : len ≤ 200) {h : zH} (lm : LM a len h) {run : Option (Int32 × zH)} {cap : Prop} [Decidable cap] (b : Int32 × Int32) (bs : List (Int32 × Int32)) (k1 : List Int32 → zH → Option (Int32 × zH)) (good : List Int32 → Prop) (eff : List Int32 → zH → Prop) (hp : p + 5 * bs.length ≤ 290) (hrun : run = if cap then some (0, h) else nr p b bs k00 k0 k1 h) (hk1 : ¬ cap → ∀ l h', l.length = bs.length + 1 → Fr h h' → S26 h h' → (good l ∧ ∃ h2, k1 l h' = some (1, h2) ∧ Fr h' h2 ∧ h2 0 12 = h' 0 12 ∧ eff l h2) ∨ (¬ good l ∧ k1 l h' = some (0, h'))) : OutR a run h bs.length p (fun l => ¬ cap ∧ rg (b :: bs) l = true ∧ good l) eff := by
  by_cases hc : cap
  · rw [if_pos hc] at hrun
    exact Or.inr ⟨h, hrun, Fr.rf, fun l q _ z => z.1 hc⟩
  · rw [if_neg hc] at hrun
    rcases nr_eq hl k00 k0 k1 b bs lm hp with ⟨l, q, h', g1, g2, g3, g4, g5, g6⟩ | ⟨⟨h', g1, g2, g3⟩, g4⟩
    · rcases hk1 hc l h' (ch_len _ _ _ _ g5) g2 g3 with ⟨w1, h2, w2, w3, w4, w5⟩ | ⟨w1, w2⟩
      · exact Or.inl ⟨l, q, h2, g5, ⟨hc, g6, w1⟩, by rw [hrun, g1, w2], by rw [w4, g4], g2.tr w3, w5⟩
      · refine Or.inr ⟨h', by rw [hrun, g1, w2], g2, fun l' q' hch hc' => ?_⟩
        rw [g5] at hch; cases hch
        exact w1 hc'.2.2
    · refine Or.inr ⟨h', ?_, g2, fun l q hch hc' => ?_⟩
      · rcases g1 with g1 | ⟨lx, g1⟩
        · rw [hrun, g1]
        · rw [hrun, g1]
      · have := g4 l q hch
        rw [hc'.2.1] at this; cases this
theorem len1 {l : List Int32} (h : l.length = 1) : ∃ x, l = [x] := by
  match l, h with
  | [x], _ => exact ⟨x, rfl⟩
theorem len2 {l : List Int32} (h : l.length = 2) : ∃ x y, l = [x, y] := by
  match l, h with
  | [x, y], _ => exact ⟨x, y, rfl⟩
theorem len3 {l : List Int32} (h : l.length = 3) : ∃ x y z, l = [x, y, z] := by
  match l, h with
  | [x, y, z], _ => exact ⟨x, y, z, rfl⟩
theorem len4 {l : List Int32} (h : l.length = 4) : ∃ x y z w, l = [x, y, z, w] := by
  match l, h with
  | [x, y, z, w], _ => exact ⟨x, y, z, w, rfl⟩
section OUT
variable {a : Nat → Int32} {len p n : Nat} {hm : zH}
theorem outF (hl : len ≤ 200) (lm : LM a len hm) (hp : p ≤ 250) (hn : hm 2 8 = nI n) (hn9 : n ≤ 9) : OutR a (Mo_readsFeeder (nI p) hm) hm 2 p (fun l => ¬ hm 2 8 = 9 ∧ rg [(0, hm 2 5 - 1), (1, 50), (0, 5)] l = true ∧ True) (fun l hm' => ∃ x y z, l = [x, y, z] ∧ hm' 2 = upd (hm 2) 8 (nI (n + 1)) ∧ hm' 3 = hm 3 ∧ hm' 4 = hm 4 ∧ hm' 5 = upd (upd (upd (hm 5) (27 + 3 * n) x) (28 + 3 * n) y) (29 + 3 * n) z ∧ hm' 6 = hm 6) := by
  refine out_nr hl lm (0, hm 2 5 - 1) [(1, 50), (0, 5)] kF (fun _ => True) _ (by simp; omega) (readsF p hm) (fun hc l h' hlen hfr h26 => Or.inl ⟨trivial, ?_⟩)
  obtain ⟨x, y, z, rfl⟩ := len3 hlen
  have n9 : n < 9 := by
    rcases Nat.lt_or_ge n 9 with q | q
    · exact q
    · exact absurd (by rw [hn, show n = 9 by omega]; rfl) hc
  have e8 : h' 2 8 = nI n := by rw [h26.1]; exact hn
  show ∃ h2, ((Mo_adds 3 x y z 0 h').bind fun h_1 => some (1, h_1)) = some (1, h2) ∧ _
  rw [adds_f e8 n9, Option.bind_some]
  refine ⟨_, rfl, ⟨fun k k0 k2 k3 k4 k5 k6 => by rw [upd2_ne k5, upd2_ne k5, upd2_ne k5, upd2_ne k2], fun j _ _ => by rw [upd2_ne (by omega), upd2_ne (by omega), upd2_ne (by omega), upd2_ne (by omega)], fun j hj => by rw [upd2_ne (by omega), upd2_ne (by omega), upd2_ne (by omega), upd2_eq, upd_ne (by omega)], fun j hj => by rw [upd2_ne (by omega), upd2_ne (by omega), upd2_ne (by omega), upd2_ne (by omega)], fun j hj => by rw [upd2_ne (by omega), upd2_ne (by omega), upd2_ne (by omega), upd2_ne (by omega)], fun j hj => by rw [upd2_eq, upd_ne (by omega), upd2_eq, upd_ne (by omega), upd2_eq, upd_ne (by omega), upd2_ne (by omega)], fun j hj => by rw [upd2_ne (by omega), upd2_ne (by omega), upd2_ne (by omega), upd2_ne (by omega)]⟩, by rw [upd2_ne (by omega), upd2_ne (by omega), upd2_ne (by omega), upd2_ne (by omega)], x, y, z, rfl, by rw [upd2_ne (by omega), upd2_ne (by omega), upd2_ne (by omega), upd2_eq, h26.1], by rw [upd2_ne (by omega), upd2_ne (by omega), upd2_ne (by omega), upd2_ne (by omega), h26.2.1], by rw [upd2_ne (by omega), upd2_ne (by omega), upd2_ne (by omega), upd2_ne (by omega), h26.2.2.1], by rw [upd2_eq, upd2_eq, upd2_eq, upd2_ne (by omega), h26.2.2.2.1], by rw [upd2_ne (by omega), upd2_ne (by omega), upd2_ne (by omega), upd2_ne (by omega), h26.2.2.2.2]⟩
theorem outP (hl : len ≤ 200) (lm : LM a len hm) (hp : p ≤ 250) (hn : hm 2 7 = nI n) (hn9 : n ≤ 6) : OutR a (Mo_readsPlant (nI p) hm) hm 3 p (fun l => ¬ hm 2 7 = 6 ∧ rg [(0, hm 2 5 - 1), (1, 99), (1, 9), (1, 9)] l = true ∧ True) (fun l hm' => ∃ x y z w, l = [x, y, z, w] ∧ hm' 2 = upd (hm 2) 7 (nI (n + 1)) ∧ hm' 3 = hm 3 ∧ hm' 4 = upd (upd (upd (upd (hm 4) (24 + 4 * n) x) (25 + 4 * n) y) (26 + 4 * n) z) (27 + 4 * n) w ∧ hm' 5 = hm 5 ∧ hm' 6 = hm 6) := by
  refine out_nr hl lm (0, hm 2 5 - 1) [(1, 99), (1, 9), (1, 9)] kP (fun _ => True) _ (by simp; omega) (readsP p hm) (fun hc l h' hlen hfr h26 => Or.inl ⟨trivial, ?_⟩)
  obtain ⟨x, y, z, w, rfl⟩ := len4 hlen
  have n9 : n < 6 := by
    rcases Nat.lt_or_ge n 6 with q | q
    · exact q
    · exact absurd (by rw [hn, show n = 6 by omega]; rfl) hc
  have e8 : h' 2 7 = nI n := by rw [h26.1]; exact hn
  show ∃ h2, ((Mo_adds 2 x y z w h').bind fun h_1 => some (1, h_1)) = some (1, h2) ∧ _
  rw [adds_p e8 n9, Option.bind_some]
  refine ⟨_, rfl, ⟨fun k k0 k2 k3 k4 k5 k6 => by rw [upd2_ne k4, upd2_ne k4, upd2_ne k4, upd2_ne k4, upd2_ne k2], fun j _ _ => by rw [upd2_ne (by omega), upd2_ne (by omega), upd2_ne (by omega), upd2_ne (by omega), upd2_ne (by omega)], fun j hj => by rw [upd2_ne (by omega), upd2_ne (by omega), upd2_ne (by omega), upd2_ne (by omega), upd2_eq, upd_ne (by omega)], fun j hj => by rw [upd2_ne (by omega), upd2_ne (by omega), upd2_ne (by omega), upd2_ne (by omega), upd2_ne (by omega)], fun j hj => by rw [upd2_eq, upd_ne (by omega), upd2_eq, upd_ne (by omega), upd2_eq, upd_ne (by omega), upd2_eq, upd_ne (by omega), upd2_ne (by omega)], fun j hj => by rw [upd2_ne (by omega), upd2_ne (by omega), upd2_ne (by omega), upd2_ne (by omega), upd2_ne (by omega)], fun j hj => by rw [upd2_ne (by omega), upd2_ne (by omega), upd2_ne (by omega), upd2_ne (by omega), upd2_ne (by omega)]⟩, by rw [upd2_ne (by omega), upd2_ne (by omega), upd2_ne (by omega), upd2_ne (by omega), upd2_ne (by omega)], x, y, z, w, rfl, by rw [upd2_ne (by omega), upd2_ne (by omega), upd2_ne (by omega), upd2_ne (by omega), upd2_eq, h26.1], by rw [upd2_ne (by omega), upd2_ne (by omega), upd2_ne (by omega), upd2_ne (by omega), upd2_ne (by omega), h26.2.1], by rw [upd2_eq, upd2_eq, upd2_eq, upd2_eq, upd2_ne (by omega), h26.2.2.1], by rw [upd2_ne (by omega), upd2_ne (by omega), upd2_ne (by omega), upd2_ne (by omega), upd2_ne (by omega), h26.2.2.2.1], by rw [upd2_ne (by omega), upd2_ne (by omega), upd2_ne (by omega), upd2_ne (by omega), upd2_ne (by omega), h26.2.2.2.2]⟩
theorem outS (hl : len ≤ 200) (lm : LM a len hm) (hp : p ≤ 250) (hn : hm 2 9 = nI n) (hn9 : n ≤ 5) : OutR a (Mo_readsStage (nI p) hm) hm 1 p (fun l => ¬ hm 2 9 = 5 ∧ rg [(4700, 4999), (1, 9)] l = true ∧ True) (fun l hm' => ∃ x y, l = [x, y] ∧ hm' 2 = upd (hm 2) 9 (nI (n + 1)) ∧ hm' 3 = hm 3 ∧ hm' 4 = hm 4 ∧ hm' 5 = hm 5 ∧ hm' 6 = upd (upd (hm 6) (14 + 2 * n) x) (15 + 2 * n) y) := by
  refine out_nr hl lm (4700, 4999) [(1, 9)] kS (fun _ => True) _ (by simp; omega) (readsS p hm) (fun hc l h' hlen hfr h26 => Or.inl ⟨trivial, ?_⟩)
  obtain ⟨x, y, rfl⟩ := len2 hlen
  have n9 : n < 5 := by
    rcases Nat.lt_or_ge n 5 with q | q
    · exact q
    · exact absurd (by rw [hn, show n = 5 by omega]; rfl) hc
  have e8 : h' 2 9 = nI n := by rw [h26.1]; exact hn
  show ∃ h2, ((Mo_adds 4 x y 0 0 h').bind fun h_1 => some (1, h_1)) = some (1, h2) ∧ _
  rw [adds_s e8 n9, Option.bind_some]
  refine ⟨_, rfl, ⟨fun k k0 k2 k3 k4 k5 k6 => by rw [upd2_ne k6, upd2_ne k6, upd2_ne k2], fun j _ _ => by rw [upd2_ne (by omega), upd2_ne (by omega), upd2_ne (by omega)], fun j hj => by rw [upd2_ne (by omega), upd2_ne (by omega), upd2_eq, upd_ne (by omega)], fun j hj => by rw [upd2_ne (by omega), upd2_ne (by omega), upd2_ne (by omega)], fun j hj => by rw [upd2_ne (by omega), upd2_ne (by omega), upd2_ne (by omega)], fun j hj => by rw [upd2_ne (by omega), upd2_ne (by omega), upd2_ne (by omega)], fun j hj => by rw [upd2_eq, upd_ne (by omega), upd2_eq, upd_ne (by omega), upd2_ne (by omega)]⟩, by rw [upd2_ne (by omega), upd2_ne (by omega), upd2_ne (by omega)], x, y, rfl, by rw [upd2_ne (by omega), upd2_ne (by omega), upd2_eq, h26.1], by rw [upd2_ne (by omega), upd2_ne (by omega), upd2_ne (by omega), h26.2.1], by rw [upd2_ne (by omega), upd2_ne (by omega), upd2_ne (by omega), h26.2.2.1], by rw [upd2_ne (by omega), upd2_ne (by omega), upd2_ne (by omega), h26.2.2.2.1], by rw [upd2_eq, upd2_eq, upd2_ne (by omega), h26.2.2.2.2]⟩
def neq2 : List Int32 → Prop
  | [x, y] => ¬ y = x
  | _ => False
theorem outL (hl : len ≤ 200) (lm : LM a len hm) (hp : p ≤ 250) (hn : hm 2 6 = nI n) (hn9 : n ≤ 9) : OutR a (Mo_readsLink (nI p) hm) hm 1 p (fun l => ¬ hm 2 6 = 9 ∧ rg [(0, hm 2 5 - 1), (0, hm 2 5 - 1)] l = true ∧ neq2 l) (fun l hm' => ∃ x y, l = [x, y] ∧ hm' 2 = upd (hm 2) 6 (nI (n + 1)) ∧ hm' 3 = upd (upd (hm 3) (18 + 2 * n) x) (19 + 2 * n) y ∧ hm' 4 = hm 4 ∧ hm' 5 = hm 5 ∧ hm' 6 = hm 6) := by
  refine out_nr hl lm (0, hm 2 5 - 1) [(0, hm 2 5 - 1)] kL neq2 _ (by simp; omega) (readsL hl p (by omega) hm lm) (fun hc l h' hlen hfr h26 => ?_)
  obtain ⟨x, y, rfl⟩ := len2 hlen
  by_cases hxy : y = x
  · refine Or.inr ⟨fun z => z hxy, ?_⟩
    show (if y = x then some (0, h') else (Mo_adds 1 x y 0 0 h').bind fun h_1 => some (1, h_1)) = some (0, h')
    rw [if_pos hxy]
  refine Or.inl ⟨hxy, ?_⟩
  have n9 : n < 9 := by
    rcases Nat.lt_or_ge n 9 with q | q
    · exact q
    · exact absurd (by rw [hn, show n = 9 by omega]; rfl) hc
  have e8 : h' 2 6 = nI n := by rw [h26.1]; exact hn
  show ∃ h2, (if y = x then some (0, h') else (Mo_adds 1 x y 0 0 h').bind fun h_1 => some (1, h_1)) = some (1, h2) ∧ _
  rw [if_neg hxy, adds_l e8 n9, Option.bind_some]
  refine ⟨_, rfl, ⟨fun k k0 k2 k3 k4 k5 k6 => by rw [upd2_ne k3, upd2_ne k3, upd2_ne k2], fun j _ _ => by rw [upd2_ne (by omega), upd2_ne (by omega), upd2_ne (by omega)], fun j hj => by rw [upd2_ne (by omega), upd2_ne (by omega), upd2_eq, upd_ne (by omega)], fun j hj => by rw [upd2_eq, upd_ne (by omega), upd2_eq, upd_ne (by omega), upd2_ne (by omega)], fun j hj => by rw [upd2_ne (by omega), upd2_ne (by omega), upd2_ne (by omega)], fun j hj => by rw [upd2_ne (by omega), upd2_ne (by omega), upd2_ne (by omega)], fun j hj => by rw [upd2_ne (by omega), upd2_ne (by omega), upd2_ne (by omega)]⟩, by rw [upd2_ne (by omega), upd2_ne (by omega), upd2_ne (by omega)], x, y, rfl, by rw [upd2_ne (by omega), upd2_ne (by omega), upd2_eq, h26.1], by rw [upd2_eq, upd2_eq, upd2_ne (by omega), h26.2.1], by rw [upd2_ne (by omega), upd2_ne (by omega), upd2_ne (by omega), h26.2.2.1], by rw [upd2_ne (by omega), upd2_ne (by omega), upd2_ne (by omega), h26.2.2.2.1], by rw [upd2_ne (by omega), upd2_ne (by omega), upd2_ne (by omega), h26.2.2.2.2]⟩
theorem u6_Fr {h : zH} {j : Nat} {v : Int32} (hj : 12 ≤ j) : Fr h (upd2 h 6 j v) := ⟨fun k _ _ _ _ _ k6 => upd2_ne k6, fun _ _ _ => by rw [upd2_ne (by omega)], fun _ _ => by rw [upd2_ne (by omega)], fun _ _ => by rw [upd2_ne (by omega)], fun _ _ => by rw [upd2_ne (by omega)], fun _ _ => by rw [upd2_ne (by omega)], fun i hi => by rw [upd2_eq, upd_ne (by omega)]⟩
theorem u2_Fr {h : zH} {j : Nat} {v : Int32} (hj : 5 ≤ j) : Fr h (upd2 h 2 j v) := ⟨fun k _ k2 _ _ _ _ => upd2_ne k2, fun _ _ _ => by rw [upd2_ne (by omega)], fun i hi => by rw [upd2_eq, upd_ne (by omega)], fun _ _ => by rw [upd2_ne (by omega)], fun _ _ => by rw [upd2_ne (by omega)], fun _ _ => by rw [upd2_ne (by omega)], fun _ _ => by rw [upd2_ne (by omega)]⟩
theorem outB (hl : len ≤ 200) (lm : LM a len hm) (hp : p ≤ 250) : OutR a (Mo_readsBack (nI p) hm) hm 1 p (fun l => rg [(4900, 5000), (1, 9)] l = true) (fun l hm' => ∃ x y, l = [x, y] ∧ hm' 2 = hm 2 ∧ hm' 3 = hm 3 ∧ hm' 4 = hm 4 ∧ hm' 5 = hm 5 ∧ hm' 6 = upd (upd (hm 6) 12 x) 13 y) := by
  have k4 := kD_le a p
  unfold Mo_readsBack
  rw [number_eq lm hl (by omega), Option.bind_some]
  dsimp only
  cases hok : (decide (kD a p ≠ 0) && inb (nV a p) 4900 5000)
  · rw [if_pos (by rfl)]
    refine Or.inr ⟨_, rfl, nH_Fr, fun l q hch hc => ?_⟩
    obtain ⟨z1, z2, l', rfl, z3⟩ := chs_inv hch
    have : inb (nV a p) 4900 5000 = false := by simpa [z1] using hok
    have hc' : (inb (nV a p) 4900 5000 && rg [(1, 9)] l') = true := hc
    rw [this] at hc'; cases hc'
  · rw [if_neg (by decide)]
    have hk0 : kD a p ≠ 0 := by intro z; rw [z] at hok; simp at hok
    have hin : inb (nV a p) 4900 5000 = true := by simp at hok; exact hok.2
    rw [zlet_n, nH_11]
    have lm1 : LM a len (upd2 (nH a p (kD a p) hm) 6 12 (nV a p)) := (u6_Fr (by omega)).LM (nH_LM lm)
    have e12 : upd2 (nH a p (kD a p) hm) 6 12 (nV a p) 0 12 = nI (p + kD a p) := by rw [upd2_ne (by omega)]; exact nH_12
    rw [more_eq lm1 hl (by omega) e12, Option.bind_some]
    by_cases h44 : a (p + kD a p) = 44
    · rw [if_pos h44]
      dsimp only
      rw [zlet_n, nH_11]
      cases hok2 : (decide (kD a (p + kD a p + 1) ≠ 0) && inb (nV a (p + kD a p + 1)) 1 9)
      · refine Or.inr ⟨_, rfl, (nH_Fr.tr (u6_Fr (by omega))).tr (nH_Fr.tr (u6_Fr (by omega))), fun l q hch hc => ?_⟩
        obtain ⟨z1, z2, l', rfl, z3⟩ := chs_inv hch
        obtain ⟨z4, rfl, z5⟩ := ch0_inv z3
        have : inb (nV a (p + kD a p + 1)) 1 9 = false := by simpa [z4] using hok2
        have hc' : (inb (nV a p) 4900 5000 && (inb (nV a (p + kD a p + 1)) 1 9 && true)) = true := hc
        rw [this] at hc'; simp at hc'
      · have hk1 : kD a (p + kD a p + 1) ≠ 0 := by intro z; rw [z] at hok2; simp at hok2
        have hin1 : inb (nV a (p + kD a p + 1)) 1 9 = true := by simp at hok2; exact hok2.2
        refine Or.inl ⟨_, _, _, chs_mk hk0 h44 (ch0_mk hk1), ?_, rfl, by rw [upd2_ne (by omega)]; exact nH_12, (nH_Fr.tr (u6_Fr (by omega))).tr (nH_Fr.tr (u6_Fr (by omega))), _, _, rfl, ?_, ?_, ?_, ?_, ?_⟩
        · show (inb (nV a p) 4900 5000 && (inb (nV a (p + kD a p + 1)) 1 9 && true)) = true
          rw [hin, hin1]; rfl
        · rw [upd2_ne (by omega), nH_k (by omega), upd2_ne (by omega), nH_k (by omega)]
        · rw [upd2_ne (by omega), nH_k (by omega), upd2_ne (by omega), nH_k (by omega)]
        · rw [upd2_ne (by omega), nH_k (by omega), upd2_ne (by omega), nH_k (by omega)]
        · rw [upd2_ne (by omega), nH_k (by omega), upd2_ne (by omega), nH_k (by omega)]
        · rw [upd2_eq, nH_k (by omega), upd2_eq, nH_k (by omega)]
    · rw [if_neg h44]
      dsimp only
      rw [zlet_n]
      refine Or.inr ⟨_, rfl, (nH_Fr.tr (u6_Fr (by omega))).tr (u6_Fr (by omega)), fun l q hch hc => ?_⟩
      obtain ⟨z1, z2, _⟩ := chs_inv hch
      exact h44 z2
theorem outN (hl : len ≤ 200) (lm : LM a len hm) (hp : p ≤ 250) : OutR a ((Mo_number (nI p) 1 6 hm).bind fun r => if r.1 = 0 then zlet (upd2 r.2 2 5 0) fun h_1 => gd (zb r.1) (some (r.1, h_1)) else zlet (upd2 r.2 2 5 (r.2 0 11)) fun h_2 => gd (zb r.1) (some (r.1, h_2))) hm 0 p (fun l => rg [(1, 6)] l = true) (fun l hm' => ∃ x, l = [x] ∧ hm' 2 = upd (hm 2) 5 x ∧ hm' 3 = hm 3 ∧ hm' 4 = hm 4 ∧ hm' 5 = hm 5 ∧ hm' 6 = hm 6) := by
  have k4 := kD_le a p
  rw [number_eq lm hl (by omega), Option.bind_some]
  dsimp only
  cases hok : (decide (kD a p ≠ 0) && inb (nV a p) 1 6)
  · rw [if_pos (by rfl), zlet_n]
    refine Or.inr ⟨_, rfl, nH_Fr.tr (u2_Fr (by omega)), fun l q hch hc => ?_⟩
    obtain ⟨z1, rfl, z3⟩ := ch0_inv hch
    have : inb (nV a p) 1 6 = false := by simpa [z1] using hok
    have hc' : (inb (nV a p) 1 6 && true) = true := hc
    rw [this] at hc'; cases hc'
  · rw [if_neg (by decide), zlet_n]
    have hk0 : kD a p ≠ 0 := by intro z; rw [z] at hok; simp at hok
    have hin : inb (nV a p) 1 6 = true := by simp at hok; exact hok.2
    rw [nH_11]
    refine Or.inl ⟨_, _, _, ch0_mk hk0, ?_, rfl, by rw [upd2_ne (by omega)]; exact nH_12, nH_Fr.tr (u2_Fr (by omega)), _, rfl, ?_, ?_, ?_, ?_, ?_⟩
    · show (inb (nV a p) 1 6 && true) = true
      rw [hin]; rfl
    · rw [upd2_eq, nH_k (by omega)]
    · rw [upd2_ne (by omega), nH_k (by omega)]
    · rw [upd2_ne (by omega), nH_k (by omega)]
    · rw [upd2_ne (by omega), nH_k (by omega)]
    · rw [upd2_ne (by omega), nH_k (by omega)]
end OUT
