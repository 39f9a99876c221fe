def PM (P hm : zH) : Prop := (∀ k, k < 5 → hm 2 k = P 0 k) ∧ (∀ l, l < nl P → hm 3 (2 * l) = P 1 l ∧ hm 3 (2 * l + 1) = P 2 l) ∧ (∀ p, p < np P → hm 4 (4 * p) = P 3 p ∧ hm 4 (4 * p + 1) = P 4 p ∧ hm 4 (4 * p + 2) = P 5 p ∧ hm 4 (4 * p + 3) = P 6 p) ∧ (∀ f, f < nf P → hm 5 (3 * f) = P 7 f ∧ hm 5 (3 * f + 1) = P 8 f ∧ hm 5 (3 * f + 2) = P 9 f) ∧ ∀ s, s ≤ ns P → hm 6 (2 * s + 1) = P 11 s
/-- a set of numbers below n, as bits -/
def bset (p : Nat → Bool) : Nat → Int32
  | 0 => 0
  | n + 1 => if p n then bset p n ||| zshl 1 (nI n) else bset p n
theorem bt_bset (p : Nat → Bool) : ∀ (n : Nat), n ≤ 32 → ∀ c, bt (bset p n) c = (decide (c < n) && p c)
  | 0, _, c => by simp [bset, b_0]
  | n + 1, hn, c => by
    have ih := bt_bset p n (by omega) c
    simp only [bset]
    by_cases hc : c = n
    · subst hc
      cases hp : p c
      · simp [ih, hp]
      · simp [b_or, ih, hp, bt_one (show c < 32 by omega)]
    · have h1 : decide (c < n + 1) = decide (c < n) := by simp; omega
      rw [h1]
      split
      · rw [b_or, ih, bt_one (show n < 32 by omega)]; simp [hc]
      · exact ih
def two (P : zH) (l : Nat) : Int32 := zshl 1 (P 1 l) ||| zshl 1 (P 2 l)
theorem bt_two {P : zH} (hk : okN P) (hl : okL P) {l : Nat} (h : l < nl P) (c : Nat) : bt (two P l) c = (decide (c = la P l) || decide (c = lb P l)) := by
  obtain ⟨⟨l1, l2⟩, l3, l4⟩ := hl l h
  have n2 : nb P ≤ 6 := hk.1.2
  unfold two
  rw [b_or]
  rw [show zshl 1 (P 1 l) = zshl 1 (nI (la P l)) by rw [← l1], show zshl 1 (P 2 l) = zshl 1 (nI (lb P l)) by rw [← l3], bt_one (by omega), bt_one (by omega)]
theorem and_two {P : zH} (hk : okN P) (hl : okL P) {l : Nat} (h : l < nl P) (s : Int32) : s &&& two P l = 0 ↔ bt s (la P l) = false ∧ bt s (lb P l) = false := by
  obtain ⟨⟨l1, l2⟩, l3, l4⟩ := hl l h
  have n2 : nb P ≤ 6 := hk.1.2
  constructor
  · intro e
    have e2 : ∀ c, bt (s &&& two P l) c = false := fun c => by rw [e, b_0]
    have h1 := e2 (la P l); have h2 := e2 (lb P l)
    rw [b_and, bt_two hk hl h] at h1 h2
    simp at h1 h2
    exact ⟨h1, h2⟩
  · rintro ⟨h1, h2⟩
    apply b_ext
    intro c _
    rw [b_and, bt_two hk hl h, b_0]
    by_cases e1 : c = la P l
    · subst e1; simp [h1]
    · by_cases e2 : c = lb P l
      · subst e2; simp [h2]
      · simp [e1, e2]
def grow (P : zH) (cl : Int32) (l : Nat) (s : Int32) : Int32 := if bt cl l = true ∧ ¬ s &&& two P l = 0 then s ||| two P l else s
def gpass (P : zH) (cl : Int32) (s : Int32) : Int32 := itr (grow P cl) 0 (nl P) s
theorem or_zero32 (s : Int32) : s ||| 0 = s := by apply b_ext; intro i _; rw [b_or, b_0, Bool.or_false]
def Sub (a b : Int32) : Prop := ∀ c, bt a c = true → bt b c = true
theorem grow_sub (P : zH) (cl : Int32) (l : Nat) (s : Int32) : Sub s (grow P cl l s) := by
  intro c hc
  unfold grow
  split
  · rw [b_or, hc, Bool.true_or]
  · exact hc
theorem itr_sub (P : zH) (cl : Int32) (s : Int32) : ∀ i j, i ≤ j → Sub (itr (grow P cl) 0 i s) (itr (grow P cl) 0 j s)
  | i, 0, h => by
    have : i = 0 := by omega
    subst this; exact fun _ h => h
  | i, j + 1, h => by
    rcases Nat.lt_or_ge i (j + 1) with q | q
    · intro c hc
      rw [itr_snoc, Nat.zero_add]
      exact grow_sub P cl j _ c (itr_sub P cl s i j (by omega) c hc)
    · have : i = j + 1 := by omega
      subst this; exact fun _ h => h
theorem sub_eq {a b : Int32} (h1 : Sub a b) (h2 : Sub b a) : a = b := b_ext fun i _ => by
  cases ha : bt a i
  · cases hb : bt b i
    · rfl
    · rw [h2 i hb] at ha; cases ha
  · rw [h1 i ha]
def Ginv (P : zH) (cl : Int32) (b : Nat) (s : Int32) : Prop := bt s b = true ∧ ∀ c, bt s c = true → c < nb P ∧ Cn P cl b c
theorem grow_inv {P : zH} {cl : Int32} {b l : Nat} {s : Int32} (hk : okN P) (hl : okL P) (h : l < nl P) (hi : Ginv P cl b s) : Ginv P cl b (grow P cl l s) := by
  refine ⟨grow_sub P cl l s b hi.1, fun c hc => ?_⟩
  unfold grow at hc
  split at hc
  · rename_i hq
    obtain ⟨q1, q2⟩ := hq
    rw [and_two hk hl h] at q2
    obtain ⟨⟨l1, l2⟩, l3, l4⟩ := hl l h
    have cc : Cn P cl b (la P l) ∧ Cn P cl b (lb P l) := by
      cases e1 : bt s (la P l)
      · cases e2 : bt s (lb P l)
        · exact absurd ⟨e1, e2⟩ q2
        · have := (hi.2 _ e2).2; exact ⟨this.tr (Cn.kl h q1), this⟩
      · have := (hi.2 _ e1).2; exact ⟨this, this.tr (Cn.lk h q1)⟩
    rw [b_or, bt_two hk hl h] at hc
    simp at hc
    rcases hc with hc | hc | hc
    · exact hi.2 c hc
    · subst hc; exact ⟨l2, cc.1⟩
    · subst hc; exact ⟨l4, cc.2⟩
  · exact hi.2 c hc
theorem gpass_inv {P : zH} {cl : Int32} {b : Nat} {s : Int32} (hk : okN P) (hl : okL P) (hi : Ginv P cl b s) : ∀ c, c ≤ nl P → Ginv P cl b (itr (grow P cl) 0 c s)
  | 0, _ => hi
  | c + 1, h => by rw [itr_snoc, Nat.zero_add]; exact grow_inv hk hl (by omega) (gpass_inv hk hl hi c (by omega))
theorem gpass_fix {P : zH} {cl : Int32} {b : Nat} {s : Int32} (hk : okN P) (hl : okL P) (hi : Ginv P cl b s) (hf : gpass P cl s = s) : ∀ c, bt s c = true ↔ c < nb P ∧ Cn P cl b c := by
  have stay : ∀ i, i ≤ nl P → itr (grow P cl) 0 i s = s := fun i h => sub_eq (by
    have h1 := itr_sub P cl s i (nl P) h
    rw [show itr (grow P cl) 0 (nl P) s = s from hf] at h1
    exact h1) (itr_sub P cl s 0 i (Nat.zero_le _))
  have hS : Lk P cl (fun c => bt s c = true) := by
    intro l h hb
    have e : grow P cl l s = s := by
      have h1 := stay (l + 1) h
      rw [itr_snoc, Nat.zero_add, stay l (by omega)] at h1
      exact h1
    have e2 : bt s (la P l) = false ∧ bt s (lb P l) = false ∨ bt s (la P l) = true ∧ bt s (lb P l) = true := by
      by_cases hz : s &&& two P l = 0
      · exact Or.inl ((and_two hk hl h s).mp hz)
      · right
        unfold grow at e
        rw [if_pos ⟨hb, hz⟩] at e
        constructor
        · rw [← e, b_or, bt_two hk hl h]; simp
        · rw [← e, b_or, bt_two hk hl h]; simp
    rcases e2 with ⟨a1, a2⟩ | ⟨a1, a2⟩ <;> simp [a1, a2]
  intro c
  exact ⟨hi.2 c, fun q => q.2 _ hS hi.1⟩
theorem busesOf_eq {P hm : zH} (hM : PM P hm) (hk : okN P) (hl : okL P) {b : Nat} (hb : b < nb P) : Mo_busesOf (nI b) hm = some (bset (fun c => decide (rt P (hm 7 43) c = rt P (hm 7 43) b)) (nb P)) := by
  have n2 : nb P ≤ 6 := hk.1.2
  have n3 : hm 2 1 = nI (nl P) := by rw [hM.1 1 (by omega)]; exact hk.2.1.1
  have n4 : nl P ≤ 9 := hk.2.1.2
  have inner : ∀ (s : Int32) (k : Int32 → Option Int32), Mo_busesOf_L16 hm k 1000 s 0 = k (gpass P (hm 7 43) s) := by
    intro s k
    refine loop_pin (fun n x s => Mo_busesOf_L16 hm k n s x) k (fun i => itr (grow P (hm 7 43)) 0 i s) (nl P) (i0 := 0) (Nat.zero_le _) (by omega) ?_ ?_
    · intro n i _ hi
      try dsimp only
      rw [itr_snoc, Nat.zero_add]
      generalize itr (grow P (hm 7 43)) 0 i s = s1
      obtain ⟨m1, m2⟩ := hM.2.1 i hi
      have e1 : (2 : Int32) * nI i = nI (2 * i) := pk_mul 2 i
      rw [Mo_busesOf_L16, n3, if_neg (nI_lt_of hi (by omega)), e1, nI_1, zr_nI (by omega) (by omega), zr_nI (by omega) (by omega), nI_clamp (by omega), nI_clamp (by omega), m1, m2, mhas_eq _ (by omega : i < 32), nI_1]
      simp only [gd_true, zlet, Option.bind_some, or_zero32]
      rw [show zshl 1 (P 1 i) ||| zshl 1 (P 2 i) = two P i from rfl]
      cases hc : bt (hm 7 43) i
      · rw [if_pos (by rfl)]
        simp [grow, hc]
      · rw [if_neg (by decide)]
        by_cases hz : s1 &&& two P i = 0
        · rw [if_pos hz]; simp [grow, hz]
        · rw [if_neg hz]; simp only [grow, hc, hz, not_false_eq_true, and_self, if_true]
    · intro n
      try dsimp only
      rw [Mo_busesOf_L16, n3, if_pos (nI_le_rf _)]
      try rfl
  have outer : ∀ (m : Nat) (s had : Int32) (n : Nat) (k : Int32 → Option Int32), Ginv P (hm 7 43) b s → 6 ≤ cnt (bt s) 6 + m → ¬ had = s → m + 2 ≤ n → ∃ s', Mo_busesOf_L6 hm k n s had = k s' ∧ Ginv P (hm 7 43) b s' ∧ gpass P (hm 7 43) s' = s' := by
    intro m
    induction m with
    | zero =>
      intro s had n k hi hc hne hn
      obtain ⟨n, rfl⟩ : ∃ q, n = q + 2 := ⟨n - 2, by omega⟩
      have hall := cnt_all (p := bt s) (n := 6) (by omega)
      have hfix : gpass P (hm 7 43) s = s := sub_eq (fun c h1 => by
        have h2 := ((gpass_inv hk hl hi (nl P) (Nat.le_refl _)).2 c h1).1
        exact hall c (by omega)) (itr_sub P (hm 7 43) s 0 (nl P) (Nat.zero_le _))
      refine ⟨s, ?_, hi, hfix⟩
      rw [Mo_busesOf_L6, if_neg hne, inner, hfix, Mo_busesOf_L6, if_pos rfl]
    | succ m ih =>
      intro s had n k hi hc hne hn
      obtain ⟨n, rfl⟩ : ∃ q, n = q + 1 := ⟨n - 1, by omega⟩
      have hi2 : Ginv P (hm 7 43) b (gpass P (hm 7 43) s) := gpass_inv hk hl hi (nl P) (Nat.le_refl _)
      have hs : Sub s (gpass P (hm 7 43) s) := itr_sub P (hm 7 43) s 0 (nl P) (Nat.zero_le _)
      rw [Mo_busesOf_L6, if_neg hne, inner]
      by_cases hf : s = gpass P (hm 7 43) s
      · refine ⟨s, ?_, hi, hf.symm⟩
        obtain ⟨n, rfl⟩ : ∃ q, n = q + 1 := ⟨n - 1, by omega⟩
        rw [← hf, Mo_busesOf_L6, if_pos rfl]
      · refine ih _ s n k hi2 ?_ hf (by omega)
        have hex : ∃ i, i < 6 ∧ bt s i = false ∧ bt (gpass P (hm 7 43) s) i = true := by
          apply Classical.byContradiction
          intro hq
          apply hf
          apply sub_eq hs
          intro c h1
          have h2 := (hi2.2 c h1).1
          cases h3 : bt s c
          · exact absurd ⟨c, by omega, h3, h1⟩ hq
          · rfl
        have := cnt_strict (p := bt s) (q := bt (gpass P (hm 7 43) s)) (n := 6) (fun i _ h => hs i h) hex
        omega
  have hg0 : Ginv P (hm 7 43) b (zshl 1 (nI b)) := by
    refine ⟨by rw [bt_one (by omega)]; simp, fun c hc => ?_⟩
    rw [bt_one (by omega)] at hc
    have : c = b := by simpa using hc
    subst this
    exact ⟨hb, Cn.rf⟩
  have hne0 : ¬ (0 : Int32) = zshl 1 (nI b) := by
    intro e
    have h1 := hg0.1
    rw [← e, b_0] at h1
    cases h1
  obtain ⟨s', e1, e2, e3⟩ := outer 6 (zshl 1 (nI b)) 0 1000 (fun x => some x) hg0 (by omega) hne0 (by omega)
  unfold Mo_busesOf
  simp only [zlet]
  rw [e1]
  congr 1
  have hfx := gpass_fix hk hl e2 e3
  apply b_ext
  intro c _
  rw [bt_bset _ _ (by omega)]
  have h1 := hfx c
  have h2 : rt P (hm 7 43) c = rt P (hm 7 43) b ↔ Cn P (hm 7 43) b c := ⟨fun h => (rt_iff.mp h).sm, fun h => rt_iff.mpr h.sm⟩
  cases h3 : bt s' c
  · have : ¬ (c < nb P ∧ Cn P (hm 7 43) b c) := fun q => by rw [h1.mpr q] at h3; cases h3
    rw [← h2] at this
    simp only [Bool.and_eq_false_iff, decide_eq_false_iff_not, Bool.false_eq]
    by_cases hc : c < nb P
    · right; exact fun q => this ⟨hc, q⟩
    · left; exact hc
  · have := h1.mp h3
    rw [← h2] at this
    simp [this.1, this.2]
