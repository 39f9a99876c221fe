theorem bind_cg {α β : Type} {X : Option α} {f g : α → Option β} (h : ∀ r, X = some r → f r = g r) : X.bind f = X.bind g := by
  cases X with
  | none => rfl
  | some r => exact h r rfl
theorem more01 {lo hi : Int32} {h : zH} {r : Int32 × zH} (hM : Mo_more lo hi h = some r) : r.1 = 0 ∨ r.1 = 1 := by
  unfold Mo_more at hM
  cases h1 : Mo_letterAt (h 0 12) h with
  | none => rw [h1] at hM; cases hM
  | some c =>
    rw [h1, Option.bind_some] at hM
    by_cases h2 : c = 44
    · rw [if_pos h2] at hM
      cases h3 : Mo_number (h 0 12 + 1) lo hi h with
      | none => rw [h3] at hM; cases hM
      | some s =>
        rw [h3, Option.bind_some] at hM
        by_cases h4 : s.1 = 0
        · rw [if_pos h4] at hM; cases hM; exact Or.inl rfl
        · rw [if_neg h4] at hM; cases hM; exact Or.inr rfl
    · rw [if_neg h2] at hM; cases hM; exact Or.inl rfl
theorem p27 (n : Nat) : (27 : Int32) + nI n = nI (27 + n) := nI_add 27 n
theorem p28 (n : Nat) : (28 : Int32) + nI n = nI (28 + n) := nI_add 28 n
theorem p29 (n : Nat) : (29 : Int32) + nI n = nI (29 + n) := nI_add 29 n
theorem p24 (n : Nat) : (24 : Int32) + nI n = nI (24 + n) := nI_add 24 n
theorem p25 (n : Nat) : (25 : Int32) + nI n = nI (25 + n) := nI_add 25 n
theorem p26 (n : Nat) : (26 : Int32) + nI n = nI (26 + n) := nI_add 26 n
theorem p18 (n : Nat) : (18 : Int32) + nI n = nI (18 + n) := nI_add 18 n
theorem p19 (n : Nat) : (19 : Int32) + nI n = nI (19 + n) := nI_add 19 n
theorem p14 (n : Nat) : (14 : Int32) + nI n = nI (14 + n) := nI_add 14 n
theorem p15 (n : Nat) : (15 : Int32) + nI n = nI (15 + n) := nI_add 15 n
theorem adds_f {h : zH} {n : Nat} (h8 : h 2 8 = nI n) (hn : n < 9) (x y z w : Int32) : Mo_adds 3 x y z w h = some (upd2 (upd2 (upd2 (upd2 h 2 8 (nI (n + 1))) 5 (27 + 3 * n) x) 5 (28 + 3 * n) y) 5 (29 + 3 * n) z) := by
  unfold Mo_adds
  rw [show ((5 : Int32) + 3) = nI 8 from rfl, nI_clamp (show 8 < 2 ^ 31 by omega), h8, zlet_n, zlet_n, if_neg (show ¬ (3 : Int32) = 1 by decide), if_neg (show ¬ (3 : Int32) = 2 by decide), if_pos rfl, m3, p27, p28, p29, nI_1]
  simp (disch := omega) only [zr_nI, gd_n, nI_clamp, zlet_n]
theorem adds_l {h : zH} {n : Nat} (h8 : h 2 6 = nI n) (hn : n < 9) (x y z w : Int32) : Mo_adds 1 x y z w h = some (upd2 (upd2 (upd2 h 2 6 (nI (n + 1))) 3 (18 + 2 * n) x) 3 (19 + 2 * n) y) := by
  unfold Mo_adds
  rw [show ((5 : Int32) + 1) = nI 6 from rfl, nI_clamp (show 6 < 2 ^ 31 by omega), h8, zlet_n, zlet_n, if_pos rfl, m2, p18, p19, nI_1]
  simp (disch := omega) only [zr_nI, gd_n, nI_clamp, zlet_n]
theorem adds_p {h : zH} {n : Nat} (h8 : h 2 7 = nI n) (hn : n < 6) (x y z w : Int32) : Mo_adds 2 x y z w h = some (upd2 (upd2 (upd2 (upd2 (upd2 h 2 7 (nI (n + 1))) 4 (24 + 4 * n) x) 4 (25 + 4 * n) y) 4 (26 + 4 * n) z) 4 (27 + 4 * n) w) := by
  unfold Mo_adds
  rw [show ((5 : Int32) + 2) = nI 7 from rfl, nI_clamp (show 7 < 2 ^ 31 by omega), h8, zlet_n, zlet_n, if_neg (show ¬ (2 : Int32) = 1 by decide), if_pos rfl, m4, p24, p25, p26, p27, nI_1]
  simp (disch := omega) only [zr_nI, gd_n, nI_clamp, zlet_n]
theorem adds_s {h : zH} {n : Nat} (h8 : h 2 9 = nI n) (hn : n < 5) (x y z w : Int32) : Mo_adds 4 x y z w h = some (upd2 (upd2 (upd2 h 2 9 (nI (n + 1))) 6 (14 + 2 * n) x) 6 (15 + 2 * n) y) := by
  unfold Mo_adds
  rw [show ((5 : Int32) + 4) = nI 9 from rfl, nI_clamp (show 9 < 2 ^ 31 by omega), h8, zlet_n, zlet_n, if_neg (show ¬ (4 : Int32) = 1 by decide), if_neg (show ¬ (4 : Int32) = 2 by decide), if_neg (show ¬ (4 : Int32) = 3 by decide), m2, p14, p15, nI_1]
  simp (disch := omega) only [zr_nI, gd_n, nI_clamp, zlet_n]
def kF : List Int32 → zH → Option (Int32 × zH)
  | [x, y, z], h => (Mo_adds 3 x y z 0 h).bind fun h_1 => some (1, h_1)
  | _, _ => none
def kL : List Int32 → zH → Option (Int32 × zH)
  | [x, y], h => if y = x then some (0, h) else (Mo_adds 1 x y 0 0 h).bind fun h_1 => some (1, h_1)
  | _, _ => none
def kP : List Int32 → zH → Option (Int32 × zH)
  | [x, y, z, w], h => (Mo_adds 2 x y z w h).bind fun h_1 => some (1, h_1)
  | _, _ => none
def kS : List Int32 → zH → Option (Int32 × zH)
  | [x, y], h => (Mo_adds 4 x y 0 0 h).bind fun h_1 => some (1, h_1)
  | _, _ => none
abbrev k0 : List Int32 → zH → Option (Int32 × zH) := fun _ h => some (0, h)
abbrev k00 : zH → Option (Int32 × zH) := fun h => some (0, h)
theorem last01 {X : Option (Int32 × zH)} {F : zH → Option zH} (hX : ∀ r, X = some r → r.1 = 0 ∨ r.1 = 1) : (X.bind fun r => if r.1 = 0 then gd (zb r.1) (some (r.1, r.2)) else (F r.2).bind fun h_1 => gd (zb r.1) (some (r.1, h_1))) = X.bind fun r => if r.1 = 0 then some (0, r.2) else (F r.2).bind fun h_1 => some (1, h_1) := by
  refine bind_cg fun r hr => ?_
  rcases hX r hr with e | e
  · rw [e, if_pos rfl, if_pos rfl]; rfl
  · rw [e, if_neg (by decide), if_neg (by decide)]; rfl
theorem readsF (p : Nat) (h : zH) : Mo_readsFeeder (nI p) h = if h 2 8 = 9 then some (0, h) else nr p (0, h 2 5 - 1) [(1, 50), (0, 5)] k00 k0 kF h := by
  unfold Mo_readsFeeder
  by_cases hc : h 2 8 = 9
  · rw [if_pos hc, if_pos hc]
  · rw [if_neg hc, if_neg hc]
    show _ = (Mo_number (nI p) 0 (h 2 5 - 1) h).bind fun r => if r.1 = 0 then some (0, r.2) else (Mo_more 1 50 r.2).bind fun r1 => if r1.1 = 0 then some (0, r1.2) else (Mo_more 0 5 r1.2).bind fun r2 => if r2.1 = 0 then some (0, r2.2) else (Mo_adds 3 (r.2 0 11) (r1.2 0 11) (r2.2 0 11) 0 r2.2).bind fun h_1 => some (1, h_1)
    refine bind_cg fun r _ => ?_
    by_cases h0 : r.1 = 0
    · rw [if_pos h0, if_pos h0]
    · rw [if_neg h0, if_neg h0, zlet_n]
      refine bind_cg fun r1 _ => ?_
      by_cases h1 : r1.1 = 0
      · rw [if_pos h1, if_pos h1]
      · rw [if_neg h1, if_neg h1, zlet_n]
        exact last01 (F := fun s => Mo_adds 3 (r.2 0 11) (r1.2 0 11) (s 0 11) 0 s) (fun r hr => more01 hr)
theorem readsP (p : Nat) (h : zH) : Mo_readsPlant (nI p) h = if h 2 7 = 6 then some (0, h) else nr p (0, h 2 5 - 1) [(1, 99), (1, 9), (1, 9)] k00 k0 kP h := by
  unfold Mo_readsPlant
  by_cases hc : h 2 7 = 6
  · rw [if_pos hc, if_pos hc]
  · rw [if_neg hc, if_neg hc]
    show _ = (Mo_number (nI p) 0 (h 2 5 - 1) h).bind fun r => if r.1 = 0 then some (0, r.2) else (Mo_more 1 99 r.2).bind fun r1 => if r1.1 = 0 then some (0, r1.2) else (Mo_more 1 9 r1.2).bind fun r2 => if r2.1 = 0 then some (0, r2.2) else (Mo_more 1 9 r2.2).bind fun r3 => if r3.1 = 0 then some (0, r3.2) else (Mo_adds 2 (r.2 0 11) (r1.2 0 11) (r2.2 0 11) (r3.2 0 11) r3.2).bind fun h_1 => some (1, h_1)
    refine bind_cg fun r _ => ?_
    by_cases h0 : r.1 = 0
    · rw [if_pos h0, if_pos h0]
    · rw [if_neg h0, if_neg h0, zlet_n]
      refine bind_cg fun r1 _ => ?_
      by_cases h1 : r1.1 = 0
      · rw [if_pos h1, if_pos h1]
      · rw [if_neg h1, if_neg h1, zlet_n]
        refine bind_cg fun r2 _ => ?_
        by_cases h2 : r2.1 = 0
        · rw [if_pos h2, if_pos h2]
        · rw [if_neg h2, if_neg h2, zlet_n]
          exact last01 (F := fun s => Mo_adds 2 (r.2 0 11) (r1.2 0 11) (r2.2 0 11) (s 0 11) s) (fun r hr => more01 hr)
theorem readsS (p : Nat) (h : zH) : Mo_readsStage (nI p) h = if h 2 9 = 5 then some (0, h) else nr p (4700, 4999) [(1, 9)] k00 k0 kS h := by
  unfold Mo_readsStage
  by_cases hc : h 2 9 = 5
  · rw [if_pos hc, if_pos hc]
  · rw [if_neg hc, if_neg hc]
    show _ = (Mo_number (nI p) 4700 4999 h).bind fun r => if r.1 = 0 then some (0, r.2) else (Mo_more 1 9 r.2).bind fun r1 => if r1.1 = 0 then some (0, r1.2) else (Mo_adds 4 (r.2 0 11) (r1.2 0 11) 0 0 r1.2).bind fun h_1 => some (1, h_1)
    refine bind_cg fun r _ => ?_
    by_cases h0 : r.1 = 0
    · rw [if_pos h0, if_pos h0]
    · rw [if_neg h0, if_neg h0, zlet_n]
      exact last01 (F := fun s => Mo_adds 4 (r.2 0 11) (s 0 11) 0 0 s) (fun r hr => more01 hr)
theorem readsL {a : Nat → Int32} {len : Nat} (hl : len ≤ 200) (p : Nat) (hp : p ≤ 250) (h : zH) (l : LM a len h) : Mo_readsLink (nI p) h = if h 2 6 = 9 then some (0, h) else nr p (0, h 2 5 - 1) [(0, h 2 5 - 1)] k00 k0 kL h := by
  unfold Mo_readsLink
  by_cases hc : h 2 6 = 9
  · rw [if_pos hc, if_pos hc]
  · rw [if_neg hc, if_neg hc]
    show _ = (Mo_number (nI p) 0 (h 2 5 - 1) h).bind fun r => if r.1 = 0 then some (0, r.2) else (Mo_more 0 (h 2 5 - 1) r.2).bind fun r1 => if r1.1 = 0 then some (0, r1.2) else if r1.2 0 11 = r.2 0 11 then some (0, r1.2) else (Mo_adds 1 (r.2 0 11) (r1.2 0 11) 0 0 r1.2).bind fun h_1 => some (1, h_1)
    refine bind_cg fun r hr => ?_
    have e25 : r.2 2 5 = h 2 5 := by
      rw [number_eq l hl (by omega)] at hr
      cases hr
      show nH a p (kD a p) h 2 5 = h 2 5; rw [nH_k (by omega)]
    by_cases h0 : r.1 = 0
    · rw [if_pos h0, if_pos h0]
    · rw [if_neg h0, if_neg h0, zlet_n, e25]
      refine bind_cg fun r1 _ => ?_
      rw [zlet_n]
      by_cases h1 : r1.1 = 0
      · rw [if_pos h1, if_pos h1]; dsimp only; rw [if_pos rfl]; rfl
      · rw [if_neg h1, if_neg h1]
        by_cases h2 : r1.2 0 11 = r.2 0 11
        · rw [if_pos h2, if_pos h2]; dsimp only; rw [if_pos rfl]; rfl
        · rw [if_neg h2, if_neg h2]; dsimp only; rw [if_neg (show ¬ (1 : Int32) = 0 by decide)]; rfl
