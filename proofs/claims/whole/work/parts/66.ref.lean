theorem ch0_inv {a : Nat → Int32} {p q : Nat} {l : List Int32} (h : ch a 0 p = some (l, q)) : kD a p ≠ 0 ∧ l = [nV a p] ∧ q = p + kD a p := by
  unfold ch at h
  by_cases h0 : kD a p = 0
  · rw [if_pos h0] at h; cases h
  · rw [if_neg h0] at h; cases h; exact ⟨h0, rfl, rfl⟩
theorem chs_inv {a : Nat → Int32} {m p q : Nat} {l : List Int32} (h : ch a (m + 1) p = some (l, q)) : kD a p ≠ 0 ∧ a (p + kD a p) = 44 ∧ ∃ l', l = nV a p :: l' ∧ ch a m (p + kD a p + 1) = some (l', q) := by
  unfold ch at h
  by_cases h0 : kD a p = 0
  · rw [if_pos h0] at h; cases h
  · rw [if_neg h0] at h
    by_cases h2 : a (p + kD a p) = 44
    · rw [if_pos h2] at h
      cases h3 : ch a m (p + kD a p + 1) with
      | none => rw [h3] at h; cases h
      | some r => obtain ⟨l', e'⟩ := r; rw [h3] at h; cases h; exact ⟨h0, h2, l', rfl, rfl⟩
    · rw [if_neg h2] at h; cases h
theorem ch0_mk {a : Nat → Int32} {p : Nat} (h0 : kD a p ≠ 0) : ch a 0 p = some ([nV a p], p + kD a p) := by unfold ch; rw [if_neg h0]
theorem chs_mk {a : Nat → Int32} {m p q : Nat} {l : List Int32} (h0 : kD a p ≠ 0) (h2 : a (p + kD a p) = 44) (h : ch a m (p + kD a p + 1) = some (l, q)) : ch a (m + 1) p = some (nV a p :: l, q) := by
  unfold ch; rw [if_neg h0, if_pos h2, h]; rfl
/-- the values lie where they must -/
def rg : List (Int32 × Int32) → List Int32 → Bool
  | [], [] => true
  | b :: bs, v :: l => inb v b.1 b.2 && rg bs l
  | _, _ => false
/-- an item that the reference reads: it is good and has told something, or it is not good -/
def OutR (a : Nat → Int32) (run : Option (Int32 × zH)) (hm : zH) (m p : Nat) (cond : List Int32 → Prop) (eff : List Int32 → zH → Prop) : Prop :=
  (∃ l q hm', ch a m p = some (l, q) ∧ cond l ∧ run = some (1, hm') ∧ hm' 0 12 = nI q ∧ Fr hm hm' ∧ eff l hm') ∨ (∃ hm', run = some (0, hm') ∧ Fr hm hm' ∧ ∀ l q, ch a m p = some (l, q) → ¬ cond l)
/-- cells 2 to 6 -/
def S26 (hm hm' : zH) : Prop := hm' 2 = hm 2 ∧ hm' 3 = hm 3 ∧ hm' 4 = hm 4 ∧ hm' 5 = hm 5 ∧ hm' 6 = hm 6
theorem S26.rf {h : zH} : S26 h h := ⟨rfl, rfl, rfl, rfl, rfl⟩
theorem S26.tr {a b c : zH} (h : S26 a b) (h' : S26 b c) : S26 a c := ⟨h'.1.trans h.1, h'.2.1.trans h.2.1, h'.2.2.1.trans h.2.2.1, h'.2.2.2.1.trans h.2.2.2.1, h'.2.2.2.2.trans h.2.2.2.2⟩
theorem nH_26 {a : Nat → Int32} {p j : Nat} {h : zH} : S26 h (nH a p j h) := ⟨nH_k (by omega), nH_k (by omega), nH_k (by omega), nH_k (by omega), nH_k (by omega)⟩
/-- m further numbers -/
def mr (bs : List (Int32 × Int32)) (k0 k1 : List Int32 → zH → Option (Int32 × zH)) (l : List Int32) (h : zH) : Option (Int32 × zH) := match bs with
  | [] => k1 l h
  | b :: bs => (Mo_more b.1 b.2 h).bind fun r => if r.1 = 0 then k0 l r.2 else mr bs k0 k1 (l ++ [r.2 0 11]) r.2
theorem mr_eq {a : Nat → Int32} {len : Nat} (hl : len ≤ 200) (k0 k1 : List Int32 → zH → Option (Int32 × zH)) : ∀ (bs : List (Int32 × Int32)) (q : Nat) (l0 : List Int32) (h : zH), LM a len h → q + 5 * bs.length ≤ 299 → h 0 12 = nI q → (∃ l q' h', mr bs k0 k1 l0 h = k1 (l0 ++ l) h' ∧ Fr h h' ∧ S26 h h' ∧ h' 0 12 = nI q' ∧ (bs = [] ∧ l = [] ∧ q' = q ∨ ∃ m, bs.length = m + 1 ∧ a q = 44 ∧ ch a m (q + 1) = some (l, q') ∧ rg bs l = true)) ∨ (∃ lx h', mr bs k0 k1 l0 h = k0 lx h' ∧ Fr h h' ∧ S26 h h' ∧ ∃ m, bs.length = m + 1 ∧ (a q = 44 → ∀ l q', ch a m (q + 1) = some (l, q') → rg bs l = false))
  | [], q, l0, h, l, hq, h12 => Or.inl ⟨[], q, h, by rw [List.append_nil]; rfl, Fr.rf, S26.rf, h12, Or.inl ⟨rfl, rfl, rfl⟩⟩
  | b :: bs, q, l0, h, l, hq, h12 => by
    rw [List.length_cons] at hq
    have k4 := kD_le a (q + 1)
    have e1 : mr (b :: bs) k0 k1 l0 h = ((Mo_more b.1 b.2 h).bind fun r => if r.1 = 0 then k0 l0 r.2 else mr bs k0 k1 (l0 ++ [r.2 0 11]) r.2) := rfl
    rw [e1, more_eq l hl (by omega) h12, Option.bind_some]
    by_cases h44 : a q = 44
    · rw [if_pos h44]
      dsimp only
      cases hok : (decide (kD a (q + 1) ≠ 0) && inb (nV a (q + 1)) b.1 b.2)
      · rw [if_pos (by rfl)]
        refine Or.inr ⟨l0, _, rfl, nH_Fr, nH_26, bs.length, rfl, fun _ l' q' hch => ?_⟩
        have hk0 : kD a (q + 1) ≠ 0 ∧ ∃ l2, l' = nV a (q + 1) :: l2 := by
          cases hb : bs.length with
          | zero => rw [hb] at hch; obtain ⟨z1, z2, _⟩ := ch0_inv hch; exact ⟨z1, [], z2⟩
          | succ m => rw [hb] at hch; obtain ⟨z1, _, l2, z2, _⟩ := chs_inv hch; exact ⟨z1, l2, z2⟩
        obtain ⟨z1, l2, rfl⟩ := hk0
        have : inb (nV a (q + 1)) b.1 b.2 = false := by simpa [z1] using hok
        show (inb (nV a (q + 1)) b.1 b.2 && rg bs l2) = false
        rw [this]; rfl
      · rw [if_neg (by decide)]
        have hk0 : kD a (q + 1) ≠ 0 := by
          intro z; rw [z] at hok; simp at hok
        have hin : inb (nV a (q + 1)) b.1 b.2 = true := by
          simp at hok; exact hok.2
        rw [nH_11]
        rcases mr_eq hl k0 k1 bs (q + 1 + kD a (q + 1)) (l0 ++ [nV a (q + 1)]) (nH a (q + 1) (kD a (q + 1)) h) (nH_LM l) (by omega) nH_12 with ⟨l2, q', h', g1, g2, g3, g4, g5⟩ | ⟨lx, h', g1, g2, g3, m, g4, g5⟩
        · refine Or.inl ⟨nV a (q + 1) :: l2, q', h', by rw [g1, List.append_assoc]; rfl, nH_Fr.tr g2, nH_26.tr g3, g4, Or.inr ⟨bs.length, rfl, h44, ?_, ?_⟩⟩
          · rcases g5 with ⟨rfl, rfl, rfl⟩ | ⟨m, hm, h44', hch, _⟩
            · exact ch0_mk hk0
            · rw [hm]; exact chs_mk hk0 h44' hch
          · rcases g5 with ⟨rfl, rfl, rfl⟩ | ⟨m, hm, h44', hch, hrg⟩
            · show (inb (nV a (q + 1)) b.1 b.2 && rg [] []) = true
              rw [hin]; rfl
            · show (inb (nV a (q + 1)) b.1 b.2 && rg bs l2) = true
              rw [hin, hrg]; rfl
        · refine Or.inr ⟨lx, h', g1, nH_Fr.tr g2, nH_26.tr g3, bs.length, rfl, fun _ l' q' hch => ?_⟩
          rw [g4] at hch
          obtain ⟨z1, z2, l2, rfl, z3⟩ := chs_inv hch
          show (inb (nV a (q + 1)) b.1 b.2 && rg bs l2) = false
          rw [g5 z2 l2 q' z3, Bool.and_false]
    · rw [if_neg h44]
      dsimp only
      rw [if_pos rfl]
      exact Or.inr ⟨l0, h, rfl, Fr.rf, S26.rf, bs.length, rfl, fun z => absurd z h44⟩
/-- a number and m further ones -/
def nr (p : Nat) (b : Int32 × Int32) (bs : List (Int32 × Int32)) (k00 : zH → Option (Int32 × zH)) (k0 k1 : List Int32 → zH → Option (Int32 × zH)) (h : zH) : Option (Int32 × zH) := (Mo_number (nI p) b.1 b.2 h).bind fun r => if r.1 = 0 then k00 r.2 else mr bs k0 k1 [r.2 0 11] r.2
theorem nr_eq {a : Nat → Int32} {len : Nat} (hl : len ≤ 200) (k00 : zH → Option (Int32 × zH)) (k0 k1 : List Int32 → zH → Option (Int32 × zH)) (b : Int32 × Int32) (bs : List (Int32 × Int32)) {p : Nat} {h : zH} (l : LM a len h) (hp : p + 5 * bs.length ≤ 290) : (∃ l q h', nr p b bs k00 k0 k1 h = k1 l h' ∧ Fr h h' ∧ S26 h h' ∧ h' 0 12 = nI q ∧ ch a bs.length p = some (l, q) ∧ rg (b :: bs) l = true) ∨ ((∃ h', (nr p b bs k00 k0 k1 h = k00 h' ∨ ∃ lx, nr p b bs k00 k0 k1 h = k0 lx h') ∧ Fr h h' ∧ S26 h h') ∧ ∀ l q, ch a bs.length p = some (l, q) → rg (b :: bs) l = false) := by
  have k4 := kD_le a p
  have e1 : nr p b bs k00 k0 k1 h = ((Mo_number (nI p) b.1 b.2 h).bind fun r => if r.1 = 0 then k00 r.2 else mr bs k0 k1 [r.2 0 11] r.2) := rfl
  rw [e1, number_eq l hl (by omega), Option.bind_some]
  dsimp only
  cases hok : (decide (kD a p ≠ 0) && inb (nV a p) b.1 b.2)
  · rw [if_pos (by rfl)]
    refine Or.inr ⟨⟨_, Or.inl rfl, nH_Fr, nH_26⟩, fun l' q' hch => ?_⟩
    have hk0 : kD a p ≠ 0 ∧ ∃ l2, l' = nV a p :: l2 := by
      cases hb : bs.length with
      | zero => rw [hb] at hch; obtain ⟨z1, z2, _⟩ := ch0_inv hch; exact ⟨z1, [], z2⟩
      | succ m => rw [hb] at hch; obtain ⟨z1, _, l2, z2, _⟩ := chs_inv hch; exact ⟨z1, l2, z2⟩
    obtain ⟨z1, l2, rfl⟩ := hk0
    have : inb (nV a p) b.1 b.2 = false := by simpa [z1] using hok
    show (inb (nV a p) b.1 b.2 && rg bs l2) = false
    rw [this]; rfl
  · rw [if_neg (by decide)]
    have hk0 : kD a p ≠ 0 := by
      intro z; rw [z] at hok; simp at hok
    have hin : inb (nV a p) b.1 b.2 = true := by
      simp at hok; exact hok.2
    rw [nH_11]
    rcases mr_eq hl k0 k1 bs (p + kD a p) [nV a p] (nH a p (kD a p) h) (nH_LM l) (by omega) nH_12 with ⟨l2, q', h', g1, g2, g3, g4, g5⟩ | ⟨lx, h', g1, g2, g3, m, g4, g5⟩
    · refine Or.inl ⟨nV a p :: l2, q', h', by rw [g1]; rfl, nH_Fr.tr g2, nH_26.tr g3, g4, ?_, ?_⟩
      · rcases g5 with ⟨rfl, rfl, rfl⟩ | ⟨m, hm, h44', hch, _⟩
        · exact ch0_mk hk0
        · rw [hm]; exact chs_mk hk0 h44' hch
      · rcases g5 with ⟨rfl, rfl, rfl⟩ | ⟨m, hm, h44', hch, hrg⟩
        · show (inb (nV a p) b.1 b.2 && rg [] []) = true
          rw [hin]; rfl
        · show (inb (nV a p) b.1 b.2 && rg bs l2) = true
          rw [hin, hrg]; rfl
    · refine Or.inr ⟨⟨h', Or.inr ⟨lx, g1⟩, nH_Fr.tr g2, nH_26.tr g3⟩, fun l' q' hch => ?_⟩
      rw [g4] at hch
      obtain ⟨z1, z2, l2, rfl, z3⟩ := chs_inv hch
      show (inb (nV a p) b.1 b.2 && rg bs l2) = false
      rw [g5 z2 l2 q' z3, Bool.and_false]
