/-! the plan, and what LINKS join -/
abbrev nb (P : zH) : Nat := (P 0 0).toNatClampNeg
abbrev nl (P : zH) : Nat := (P 0 1).toNatClampNeg
abbrev np (P : zH) : Nat := (P 0 2).toNatClampNeg
abbrev nf (P : zH) : Nat := (P 0 3).toNatClampNeg
abbrev ns (P : zH) : Nat := (P 0 4).toNatClampNeg
abbrev la (P : zH) (l : Nat) : Nat := (P 1 l).toNatClampNeg
abbrev lb (P : zH) (l : Nat) : Nat := (P 2 l).toNatClampNeg
abbrev pb (P : zH) (p : Nat) : Nat := (P 3 p).toNatClampNeg
abbrev fb (P : zH) (f : Nat) : Nat := (P 7 f).toNatClampNeg
def isIn (v : Int32) (a b : Int) : Prop := a ≤ v.toInt ∧ v.toInt ≤ b
def okL (P : zH) : Prop := ∀ l, l < nl P → (P 1 l = nI (la P l) ∧ la P l < nb P) ∧ P 2 l = nI (lb P l) ∧ lb P l < nb P
def okP (P : zH) : Prop := ∀ p, p < np P → (P 3 p = nI (pb P p) ∧ pb P p < nb P) ∧ isIn (P 4 p) 1 99 ∧ isIn (P 5 p) 1 9 ∧ isIn (P 6 p) 1 9
def okF (P : zH) : Prop := ∀ f, f < nf P → (P 7 f = nI (fb P f) ∧ fb P f < nb P) ∧ isIn (P 8 f) 1 50 ∧ isIn (P 9 f) 0 5
def okS (P : zH) : Prop := ∀ s, s ≤ ns P → isIn (P 11 s) 1 9
/-- numbers as they are told -/
def okN (P : zH) : Prop := (P 0 0 = nI (nb P) ∧ nb P ≤ 6) ∧ (P 0 1 = nI (nl P) ∧ nl P ≤ 9) ∧ (P 0 2 = nI (np P) ∧ np P ≤ 6) ∧ (P 0 3 = nI (nf P) ∧ nf P ≤ 9) ∧ (P 0 4 = nI (ns P) ∧ ns P ≤ 5)
def Pok (P : zH) : Prop := okN P ∧ 1 ≤ nb P ∧ okL P ∧ okP P ∧ okF P ∧ okS P
def Lk (P : zH) (cl : Int32) (S : Nat → Prop) : Prop := ∀ l, l < nl P → bt cl l = true → (S (la P l) ↔ S (lb P l))
def Cn (P : zH) (cl : Int32) (a b : Nat) : Prop := ∀ S : Nat → Prop, Lk P cl S → S a → S b
theorem Cn.rf {P : zH} {cl : Int32} {a : Nat} : Cn P cl a a := fun _ _ h => h
theorem Cn.tr {P : zH} {cl : Int32} {a b c : Nat} (h1 : Cn P cl a b) (h2 : Cn P cl b c) : Cn P cl a c := fun S hS h => h2 S hS (h1 S hS h)
theorem Cn.lk {P : zH} {cl : Int32} {l : Nat} (hl : l < nl P) (hb : bt cl l = true) : Cn P cl (la P l) (lb P l) := fun _ hS h => (hS l hl hb).mp h
theorem Cn.kl {P : zH} {cl : Int32} {l : Nat} (hl : l < nl P) (hb : bt cl l = true) : Cn P cl (lb P l) (la P l) := fun _ hS h => (hS l hl hb).mpr h
theorem Cn.sm {P : zH} {cl : Int32} {a b : Nat} (h : Cn P cl a b) : Cn P cl b a := by
  refine h (fun x => Cn P cl x a) (fun l hl hb => ⟨fun q => (Cn.kl hl hb).tr q, fun q => (Cn.lk hl hb).tr q⟩) Cn.rf
noncomputable def rt (P : zH) (cl : Int32) (b : Nat) : Nat := Classical.choose (pk_least (fun c => Cn P cl b c) ⟨b, Cn.rf⟩)
theorem rt_cn {P : zH} {cl : Int32} {b : Nat} : Cn P cl b (rt P cl b) := (Classical.choose_spec (pk_least (fun c => Cn P cl b c) ⟨b, Cn.rf⟩)).1
theorem rt_min {P : zH} {cl : Int32} {b c : Nat} (h : Cn P cl b c) : rt P cl b ≤ c := by
  rcases Nat.lt_or_ge c (rt P cl b) with q | q
  · exact absurd h ((Classical.choose_spec (pk_least (fun c => Cn P cl b c) ⟨b, Cn.rf⟩)).2 c q)
  · exact q
theorem rt_le {P : zH} {cl : Int32} {b : Nat} : rt P cl b ≤ b := rt_min Cn.rf
theorem rt_iff {P : zH} {cl : Int32} {a b : Nat} : rt P cl a = rt P cl b ↔ Cn P cl a b := by
  constructor
  · intro h; have h1 : Cn P cl a (rt P cl b) := h ▸ rt_cn; exact h1.tr rt_cn.sm
  · intro h; exact Nat.le_antisymm (rt_min (h.tr rt_cn)) (rt_min (h.sm.tr rt_cn))
theorem rt_rt {P : zH} {cl : Int32} {b : Nat} : rt P cl (rt P cl b) = rt P cl b := rt_iff.mpr rt_cn.sm
theorem rt_big {P : zH} {cl : Int32} {b : Nat} (hk : okL P) (h : nb P ≤ b) : rt P cl b = b := by
  have h1 : Cn P cl b (rt P cl b) := rt_cn
  exact h1 (fun x => x = b) (fun l hl _ => by
    have := (hk l hl).1.2; have := (hk l hl).2.2
    constructor <;> intro q <;> omega) rfl
/-- the labels -/
def rlx (P : zH) (cl : Int32) (l : Nat) (f : Nat → Nat) : Nat → Nat := if bt cl l = true then fun b => if b = lb P l ∨ b = la P l then min (f (la P l)) (f (lb P l)) else f b else f
def rnd (P : zH) (cl : Int32) (f : Nat → Nat) : Nat → Nat := itr (rlx P cl) 0 (nl P) f
def Lok (P : zH) (cl : Int32) (f : Nat → Nat) : Prop := (∀ b, Cn P cl b (f b)) ∧ ∀ b, f b ≤ b
theorem Lok.ge {P : zH} {cl : Int32} {f : Nat → Nat} (h : Lok P cl f) (b : Nat) : rt P cl b ≤ f b := rt_min (h.1 b)
theorem rlx_ok {P : zH} {cl : Int32} {f : Nat → Nat} {l : Nat} (hl : l < nl P) (h : Lok P cl f) : Lok P cl (rlx P cl l f) := by
  unfold rlx
  split
  · rename_i hb
    refine ⟨fun b => ?_, fun b => ?_⟩
    · dsimp only
      split
      · rename_i hc
        have e1 := h.1 (la P l); have e2 := h.1 (lb P l)
        have k1 : Cn P cl b (la P l) := by rcases hc with rfl | rfl; exact Cn.kl hl hb; exact Cn.rf
        rcases Nat.le_total (f (la P l)) (f (lb P l)) with q | q
        · rw [Nat.min_eq_left q]; exact k1.tr e1
        · rw [Nat.min_eq_right q]; exact (k1.tr (Cn.lk hl hb)).tr e2
      · exact h.1 b
    · dsimp only
      split
      · rename_i hc
        have e1 := h.2 (la P l); have e2 := h.2 (lb P l)
        rcases hc with rfl | rfl
        · exact Nat.le_trans (Nat.min_le_right _ _) e2
        · exact Nat.le_trans (Nat.min_le_left _ _) e1
      · exact h.2 b
  · exact h
theorem rlx_T {P : zH} {cl : Int32} {f : Nat → Nat} {l b : Nat} (hl : l < nl P) (h : Lok P cl f) (hb : f b = rt P cl b) : rlx P cl l f b = rt P cl b := by
  have h' := (rlx_ok hl h).ge b
  refine Nat.le_antisymm ?_ h'
  unfold rlx
  split
  · dsimp only
    split
    · rename_i hc
      rcases hc with rfl | rfl
      · rw [← hb]; exact Nat.min_le_right _ _
      · rw [← hb]; exact Nat.min_le_left _ _
    · omega
  · omega
theorem rlx_lk {P : zH} {cl : Int32} {f : Nat → Nat} {l : Nat} (hl : l < nl P) (hcl : bt cl l = true) (h : Lok P cl f) (ht : f (la P l) = rt P cl (la P l) ∨ f (lb P l) = rt P cl (lb P l)) : rlx P cl l f (la P l) = rt P cl (la P l) ∧ rlx P cl l f (lb P l) = rt P cl (lb P l) := by
  have e : rt P cl (la P l) = rt P cl (lb P l) := rt_iff.mpr (Cn.lk hl hcl)
  have g1 := h.ge (la P l); have g2 := h.ge (lb P l)
  unfold rlx
  rw [if_pos hcl]
  rw [if_pos (Or.inr rfl), if_pos (Or.inl rfl)]
  constructor <;> omega
theorem rnd_inv {P : zH} {cl : Int32} {f : Nat → Nat} (h : Lok P cl f) : ∀ c, c ≤ nl P → Lok P cl (itr (rlx P cl) 0 c f) ∧ (∀ b, f b = rt P cl b → itr (rlx P cl) 0 c f b = rt P cl b) ∧ ∀ l, l < c → bt cl l = true → (f (la P l) = rt P cl (la P l) ∨ f (lb P l) = rt P cl (lb P l)) → itr (rlx P cl) 0 c f (la P l) = rt P cl (la P l) ∧ itr (rlx P cl) 0 c f (lb P l) = rt P cl (lb P l)
  | 0, _ => ⟨h, fun _ hb => hb, fun l hl => by omega⟩
  | c + 1, hc => by
    obtain ⟨i1, i2, i3⟩ := rnd_inv h c (by omega)
    rw [itr_snoc, Nat.zero_add]
    refine ⟨rlx_ok (by omega) i1, fun b hb => rlx_T (by omega) i1 (i2 b hb), fun l hl hcl ht => ?_⟩
    rcases Nat.lt_or_ge l c with q | q
    · obtain ⟨a1, a2⟩ := i3 l q hcl ht
      exact ⟨rlx_T (by omega) i1 a1, rlx_T (by omega) i1 a2⟩
    · have : l = c := by omega
      subst this
      exact rlx_lk (by omega) hcl i1 (ht.imp (i2 _) (i2 _))
def cnt (p : Nat → Bool) : Nat → Nat
  | 0 => 0
  | n + 1 => cnt p n + (if p n then 1 else 0)
theorem cnt_le (p : Nat → Bool) : ∀ n, cnt p n ≤ n
  | 0 => Nat.le_refl _
  | n + 1 => by have := cnt_le p n; simp only [cnt]; split <;> omega
theorem cnt_mono {p q : Nat → Bool} : ∀ {n : Nat}, (∀ i, i < n → p i = true → q i = true) → cnt p n ≤ cnt q n
  | 0, _ => Nat.le_refl _
  | n + 1, h => by
    have ih := cnt_mono (n := n) (fun i hi => h i (by omega))
    have h2 := h n (by omega)
    simp only [cnt]
    cases hp : p n <;> cases hq : q n <;> simp_all <;> omega
theorem cnt_strict {p q : Nat → Bool} : ∀ {n : Nat}, (∀ i, i < n → p i = true → q i = true) → (∃ i, i < n ∧ p i = false ∧ q i = true) → cnt p n < cnt q n
  | 0, _, ⟨i, hi, _⟩ => by omega
  | n + 1, h, ⟨i, hi, h1, h2⟩ => by
    have h3 := h n (by omega)
    simp only [cnt]
    rcases Nat.lt_or_ge i n with q1 | q1
    · have ih := cnt_strict (n := n) (fun i hi => h i (by omega)) ⟨i, q1, h1, h2⟩
      cases hp : p n <;> cases hq : q n <;> simp_all <;> omega
    · have : i = n := by omega
      subst this
      have ih := cnt_mono (n := i) (fun j hj => h j (by omega))
      simp [h1, h2]; omega
theorem cnt_all {p : Nat → Bool} : ∀ {n : Nat}, n ≤ cnt p n → ∀ i, i < n → p i = true
  | 0, _, i, hi => by omega
  | n + 1, h, i, hi => by
    have h1 := cnt_le p n
    simp only [cnt] at h
    cases hp : p n
    · simp [hp] at h; omega
    · simp [hp] at h
      rcases Nat.lt_or_ge i n with q | q
      · exact cnt_all (n := n) (by omega) i q
      · have : i = n := by omega
        subst this; exact hp
theorem rnds {P : zH} {cl : Int32} (hk : okL P) : ∀ r, Lok P cl (itr (fun _ => rnd P cl) 0 r (fun b => b)) ∧ ((∀ b, b < nb P → itr (fun _ => rnd P cl) 0 r (fun b => b) b = rt P cl b) ∨ (1 ≤ nb P → r + 1 ≤ cnt (fun b => decide (itr (fun _ => rnd P cl) 0 r (fun b => b) b = rt P cl b)) (nb P)))
  | 0 => by
    refine ⟨⟨fun b => Cn.rf, fun b => Nat.le_refl _⟩, Or.inr fun h1 => ?_⟩
    have h0 : (fun b => decide (b = rt P cl b)) 0 = true := by
      have := @rt_le P cl 0
      simp; omega
    have h2 : cnt (fun b => decide (b = 0)) (nb P) ≤ cnt (fun b => decide (b = rt P cl b)) (nb P) := cnt_mono (fun i _ hi => by
      have : i = 0 := by simpa using hi
      subst this; exact h0)
    have h3 : ∀ n, 1 ≤ n → 1 ≤ cnt (fun b => decide (b = 0)) n := by
      intro n hn
      induction n with
      | zero => omega
      | succ n ih =>
        rcases Nat.eq_zero_or_pos n with e | e
        · subst e; decide
        · have := ih e; simp only [cnt]; omega
    exact Nat.le_trans (h3 _ h1) h2
  | r + 1 => by
    obtain ⟨i1, i2⟩ := rnds hk r
    rw [itr_snoc]
    generalize itr (fun _ => rnd P cl) 0 r (fun b => b) = f at i1 i2
    obtain ⟨j1, j2, j3⟩ := rnd_inv i1 (nl P) (Nat.le_refl _)
    refine ⟨j1, ?_⟩
    rcases i2 with h | h
    · exact Or.inl fun b hb => j2 b (h b hb)
    · by_cases hs : ∃ i, i < nb P ∧ decide (f i = rt P cl i) = false ∧ decide (rnd P cl f i = rt P cl i) = true
      · refine Or.inr fun h1 => ?_
        have := h h1
        have := cnt_strict (p := fun b => decide (f b = rt P cl b)) (q := fun b => decide (rnd P cl f b = rt P cl b)) (n := nb P) (fun i _ hi => by
          have e1 : f i = rt P cl i := by simpa using hi
          exact decide_eq_true (j2 i e1)) hs
        omega
      · refine Or.inl fun b _ => j2 b ?_
        have hS : Lk P cl (fun x => f x = rt P cl x) := by
          intro l hl hb
          have kk : (f (la P l) = rt P cl (la P l) ∨ f (lb P l) = rt P cl (lb P l)) → f (la P l) = rt P cl (la P l) ∧ f (lb P l) = rt P cl (lb P l) := by
            intro ht
            obtain ⟨a1, a2⟩ := j3 l hl hb ht
            constructor
            · apply Classical.byContradiction
              intro q
              exact hs ⟨la P l, (hk l hl).1.2, by simpa using q, decide_eq_true a1⟩
            · apply Classical.byContradiction
              intro q
              exact hs ⟨lb P l, (hk l hl).2.2, by simpa using q, decide_eq_true a2⟩
          exact ⟨fun q => (kk (Or.inl q)).2, fun q => (kk (Or.inr q)).1⟩
        have h0 : f (rt P cl b) = rt P cl (rt P cl b) := by
          have a1 := i1.ge (rt P cl b)
          have a2 := i1.2 (rt P cl b)
          rw [rt_rt] at a1 ⊢
          omega
        exact (rt_cn (P := P) (cl := cl) (b := b)).sm (fun x => f x = rt P cl x) hS h0
/-- as many rounds as BUSES find all roots -/
theorem rnds_end {P : zH} {cl : Int32} (hk : okL P) {b : Nat} (hb : b < nb P) : itr (fun _ => rnd P cl) 0 (nb P) (fun b => b) b = rt P cl b := by
  rcases (rnds (cl := cl) hk (nb P)).2 with h | h
  · exact h b hb
  · have h1 := h (by omega)
    have h2 := cnt_le (fun b => decide (itr (fun _ => rnd P cl) 0 (nb P) (fun b => b) b = rt P cl b)) (nb P)
    omega
theorem rnds_big {P : zH} {cl : Int32} (hk : okL P) {b : Nat} (hb : nb P ≤ b) (r : Nat) : itr (fun _ => rnd P cl) 0 r (fun b => b) b = b := by
  have h := (rnds (cl := cl) hk r).1
  have h1 := h.ge b
  rw [rt_big hk hb] at h1
  have := h.2 b
  omega
