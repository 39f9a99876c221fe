/-- a counting loop: each turn goes to a state that the invariant holds -/
theorem loop_ex {σ ρ : Type} (F : Nat → Int32 → σ → Option ρ) (k : σ → Option ρ) (I : Nat → σ → Prop) (e : Nat)
    (hs : ∀ n i s, i < e → I i s → ∃ s', I (i + 1) s' ∧ F (n + 1) (nI i) s = F n (nI (i + 1)) s') (hx : ∀ n s, I e s → F (n + 1) (nI e) s = k s) :
    ∀ (c i n : Nat) (s : σ), i + c = e → c < n → I i s → ∃ s', I e s' ∧ F n (nI i) s = k s'
  | 0, i, n, s, h, hn, hi => by
    obtain ⟨n, rfl⟩ : ∃ m, n = m + 1 := ⟨n - 1, by omega⟩
    have : i = e := by omega
    subst this
    exact ⟨s, hi, hx n s hi⟩
  | c + 1, i, n, s, h, hn, hi => by
    obtain ⟨n, rfl⟩ : ∃ m, n = m + 1 := ⟨n - 1, by omega⟩
    obtain ⟨s', h1, h2⟩ := hs n i s (by omega) hi
    rw [h2]
    exact loop_ex F k I e hs hx c (i + 1) n s' (by omega) (by omega) h1
theorem upd_eq {f : Nat → Int32} {k : Nat} {v : Int32} : upd f k v k = v := by simp [upd]
theorem upd_ne {f : Nat → Int32} {k j : Nat} {v : Int32} (h : j ≠ k) : upd f k v j = f j := by simp [upd, h]
theorem nodup_len : ∀ (n : Nat) (l : List Nat), l.Nodup → (∀ x ∈ l, x < n) → l.length ≤ n
  | 0, l, _, h => by
    cases l with
    | nil => exact Nat.le_refl _
    | cons a l => exact absurd (h a List.mem_cons_self) (by omega)
  | n + 1, l, hd, h => by
    by_cases hn : n ∈ l
    · have h1 := nodup_len n (l.erase n) (hd.erase n) (fun x hx => by
        have h2 := (hd.mem_erase_iff).mp hx
        have := h x h2.2
        omega)
      rw [List.length_erase_of_mem hn] at h1
      omega
    · have h1 := nodup_len n l hd (fun x hx => by
        have h2 := h x hx
        have : x ≠ n := fun e => hn (e ▸ hx)
        omega)
      omega
theorem okO.len {P : zH} {on : Nat → Bool} {off : List Nat} (h : okO P on off) : off.length ≤ nf P := nodup_len _ _ h.1 h.2.1
theorem okO.lt {P : zH} {on : Nat → Bool} {off : List Nat} (h : okO P on off) {f : Nat} (hf : f < nf P) (ho : on f = true) : off.length < nf P := by
  have hn : f ∉ off := fun q => by rw [(h.2.2 f hf).mp q] at ho; cases ho
  have h1 := nodup_len (nf P) (f :: off) (List.nodup_cons.mpr ⟨hn, h.1⟩) (fun x hx => by
    rcases List.mem_cons.mp hx with e | e
    · subst e; exact hf
    · exact h.2.1 x e)
  simp only [List.length_cons] at h1
  omega
/-- one FEEDER is dropped: the bits, the list -/
theorem rpO_drop {P : zH} {bits n : Int32} {row row' : Nat → Int32} {on : Nat → Bool} {off : List Nat} (hk : okN P) (h : rpO P bits n row on off) {f : Nat} (hf : f < nf P) (hr : ∀ i, i ≠ off.length → row' i = row i) (hr2 : row' off.length = nI f) : rpO P (bits &&& (zshl 1 (nI f) ^^^ (-1))) (n + 1) row' (fun x => on x && !(x == f)) (off ++ [f]) := by
  have n4 : nf P ≤ 9 := hk.2.2.2.1.2
  obtain ⟨h1, h2, h3⟩ := h
  refine ⟨fun x => ?_, ?_, fun i x hi => ?_⟩
  · rw [b_and, b_xor, h1, bt_one (by omega)]
    rcases Nat.lt_or_ge x 32 with q | q
    · rw [b_m1 x q]
      by_cases e : x = f
      · subst e; simp
      · have e2 : (x == f) = false := by simpa using e
        simp [e, e2]
    · have : ¬ x < nf P := by omega
      simp [this]
  · rw [h2, List.length_append, nI_1]; rfl
  · rcases Nat.lt_trichotomy i off.length with q | q | q
    · rw [hr i (by omega)]
      rw [List.getElem?_append_left q] at hi
      exact h3 i x hi
    · subst q
      rw [List.getElem?_append_right (Nat.le_refl _)] at hi
      simp at hi
      rw [hr2, hi]
    · rw [List.getElem?_eq_none (by simp; omega)] at hi
      cases hi
theorem okO_drop {P : zH} {on : Nat → Bool} {off : List Nat} (h : okO P on off) {f : Nat} (hf : f < nf P) (ho : on f = true) : okO P (fun x => on x && !(x == f)) (off ++ [f]) := by
  obtain ⟨h1, h2, h3⟩ := h
  have hn : f ∉ off := fun q => by rw [(h3 f hf).mp q] at ho; cases ho
  refine ⟨List.nodup_append.mpr ⟨h1, by simp, fun a ha b hb => ?_⟩, fun x hx => ?_, fun x hx => ?_⟩
  · rw [List.mem_singleton.mp hb]; exact fun e => hn (e ▸ ha)
  · rcases List.mem_append.mp hx with q | q
    · exact h2 x q
    · rw [List.mem_singleton.mp q]; exact hf
  · rw [List.mem_append, List.mem_singleton, h3 x hx]
    by_cases e : x = f
    · simp [e]
    · simp [e]
theorem RepM.G {P : zH} {row : Nat → Int32} {S : St} (hk : okN P) (h : RepM P row S) {p : Nat} (hp : p < np P) (v : Int32) : RepM P (upd row (44 + p) v) (wG S (upd (sG S) p v)) := by
  have n1 : nb P ≤ 6 := hk.1.2
  have n2 : np P ≤ 6 := hk.2.2.1.2
  obtain ⟨h1, h2, h3, h4, h5, h6⟩ := h
  refine ⟨?_, fun b hb => ⟨?_, fun s hs => ?_⟩, fun q hq => ?_, ?_, fun s hs => ?_, ?_⟩
  · rw [upd_ne (by omega)]; exact h1
  · rw [upd_ne (by omega)]; exact (h2 b hb).1
  · rw [upd_ne (by omega)]; exact (h2 b hb).2 s hs
  · by_cases e : q = p
    · subst e; rw [upd_eq]; exact upd_eq.symm
    · rw [upd_ne (by omega), h3 q hq]; exact (upd_ne e).symm
  · rw [upd_ne (by omega), upd_ne (by omega)]
    refine ⟨h4.1, h4.2.1, fun i f hi => ?_⟩
    show upd row (44 + p) v (51 + i) = _
    rw [upd_ne (by omega)]; exact h4.2.2 i f hi
  · rw [upd_ne (by omega)]; exact h5 s hs
  · rw [upd_ne (by omega)]; exact h6
theorem RepM.F {P : zH} {row : Nat → Int32} {S : St} (hk : okN P) (h : RepM P row S) {r : Nat} (v : Int32) {q : Nat → Bool} (hq : ∀ c, c < nb P → q c = inR P S r c) : RepM P (fun i => if i < nb P ∧ q i = true then v else row i) (wF S (upF (sF S) r v)) := by
  have n1 : nb P ≤ 6 := hk.1.2
  have big : ∀ i, 6 ≤ i → (if i < nb P ∧ q i = true then v else row i) = row i := fun i hi => if_neg (by omega)
  obtain ⟨h1, h2, h3, h4, h5, h6⟩ := h
  refine ⟨?_, fun b hb => ⟨?_, fun s hs => ?_⟩, fun p hp => ?_, ?_, fun s hs => ?_, ?_⟩
  · dsimp only; rw [big 43 (by omega)]; exact h1
  · show (if b < nb P ∧ q b = true then v else row b) = upF (sF S) r v (rt P (sCl S) b)
    rw [(h2 b hb).1, hq b hb]
    by_cases e : rt P (sCl S) b = r <;> simp [upF, e, hb]
  · dsimp only; rw [big _ (by omega)]; exact (h2 b hb).2 s hs
  · dsimp only; rw [big _ (by omega)]; exact h3 p hp
  · dsimp only
    rw [big _ (by omega), big _ (by omega)]
    refine ⟨h4.1, h4.2.1, fun i f hi => ?_⟩
    dsimp only; rw [big _ (by omega)]; exact h4.2.2 i f hi
  · dsimp only; rw [big _ (by omega)]; exact h5 s hs
  · dsimp only; rw [big _ (by omega)]; exact h6
def rowC (P : zH) (q : Nat → Bool) (s : Nat) (v : Int32) (n : Nat) (row : Nat → Int32) : Nat → Int32 := fun j => if 6 ≤ j ∧ j < 6 + 6 * n ∧ (j - 6) % 6 = s ∧ q ((j - 6) / 6) = true then v else row j
theorem RepM.C {P : zH} {row : Nat → Int32} {S : St} (hk : okN P) (h : RepM P row S) {r s : Nat} (hs : s < 6) (v : Int32) {q : Nat → Bool} (hq : ∀ c, c < nb P → q c = inR P S r c) : RepM P (rowC P q s v (nb P) row) (wC S (upC (sC S) r s v)) := by
  have n1 : nb P ≤ 6 := hk.1.2
  have big : ∀ i, i < 6 ∨ 42 ≤ i → rowC P q s v (nb P) row i = row i := fun i hi => by unfold rowC; exact if_neg (by omega)
  obtain ⟨h1, h2, h3, h4, h5, h6⟩ := h
  refine ⟨?_, fun b hb => ⟨?_, fun t ht => ?_⟩, fun p hp => ?_, ?_, fun s hs => ?_, ?_⟩
  · rw [big 43 (by omega)]; exact h1
  · rw [big b (by omega)]; exact (h2 b hb).1
  · have e1 : (6 + 6 * b + t - 6) / 6 = b := by omega
    have e2 : (6 + 6 * b + t - 6) % 6 = t := by omega
    show rowC P q s v (nb P) row (6 + 6 * b + t) = upC (sC S) r s v (rt P (sCl S) b) t
    have e3 : 6 ≤ 6 + 6 * b + t := by omega
    have e4 : 6 + 6 * b + t < 6 + 6 * nb P := by omega
    have e5 : rowC P q s v (nb P) row (6 + 6 * b + t) = if t = s ∧ q b = true then v else row (6 + 6 * b + t) := by
      unfold rowC
      rw [e1, e2]
      simp only [e3, e4, true_and]
    rw [e5, (h2 b hb).2 t ht, hq b hb]
    by_cases e : rt P (sCl S) b = r <;> by_cases e' : t = s <;> simp [upC, e, e']
  · rw [big _ (by omega)]; exact h3 p hp
  · rw [big _ (by omega), big _ (by omega)]
    refine ⟨h4.1, h4.2.1, fun i f hi => ?_⟩
    dsimp only; rw [big _ (by omega)]; exact h4.2.2 i f hi
  · rw [big _ (by omega)]; exact h5 s hs
  · rw [big _ (by omega)]; exact h6
/-- the row with other FEEDERS -/
theorem RepM.O {P : zH} {row row' : Nat → Int32} {S : St} (hk : okN P) (h : RepM P row S) {on : Nat → Bool} {off : List Nat} (hr : ∀ i, (i < 42 ∨ i = 43 ∨ (44 ≤ i ∧ i < 50) ∨ 60 ≤ i) → row' i = row i) (hO : rpO P (row' 42) (row' 50) (fun i => row' (51 + i)) on off) : RepM P row' (wO S on off) := by
  have n1 : nb P ≤ 6 := hk.1.2
  have n2 : np P ≤ 6 := hk.2.2.1.2
  obtain ⟨h1, h2, h3, h4, h5, h6⟩ := h
  refine ⟨?_, fun b hb => ⟨?_, fun t ht => ?_⟩, fun p hp => ?_, hO, fun s hs => ?_, ?_⟩
  · rw [hr _ (by omega)]; exact h1
  · rw [hr _ (by omega)]; exact (h2 b hb).1
  · rw [hr _ (by omega)]; exact (h2 b hb).2 t ht
  · rw [hr _ (by omega)]; exact h3 p hp
  · rw [hr _ (by omega)]; exact h5 s hs
  · rw [hr _ (by omega)]; exact h6
theorem PM.of {P hm hm' : zH} (h : PM P hm) (hh : ∀ k, k ≠ 0 → k ≠ 7 → hm' k = hm k) : PM P hm' := by
  unfold PM at *
  rw [hh 2 (by omega) (by omega), hh 3 (by omega) (by omega), hh 4 (by omega) (by omega), hh 5 (by omega) (by omega), hh 6 (by omega) (by omega)]
  exact h
theorem mfreq_eq {P hm : zH} (hM : PM P hm) (hk : okN P) (set v : Int32) : Mo_frequency set v hm = some (setc hm 7 (fun i => if i < nb P ∧ bt set i = true then v else hm 7 i)) := by
  have n2 : nb P ≤ 6 := hk.1.2
  have n3 : hm 2 0 = nI (nb P) := by rw [hM.1 0 (by omega)]; exact hk.1.1
  unfold Mo_frequency
  have e0 : hm = setc hm 7 (fun i => if i < 0 ∧ bt set i = true then v else hm 7 i) := by
    conv => lhs; rw [← setc_self (h := hm) (a := 7)]
    congr 1
  refine (congrArg (fun s => Mo_frequency_L2 set v (fun h => some h) 1000 0 s) e0).trans ?_
  refine loop_pin (fun n x s => Mo_frequency_L2 set v (fun h => some h) n x s) (fun h => some h) (fun i => setc hm 7 (fun j => if j < i ∧ bt set j = true then v else hm 7 j)) (nb P) (i0 := 0) (Nat.zero_le _) (by omega) ?_ ?_
  · intro n i _ hi
    have hn : ¬ nb P ≤ i := by omega
    rw [Mo_frequency_L2, setc_ne (a := 7) (k := 2) (by omega)]
    simp (disch := omega) only [m2, m3, m4, m6, m67, a1, a2, a3, p6, p44, p51, p60, nI_add, nI_clamp, zr_nI, gd_true, zlet, Option.bind_some, mhas_eq, has_eq, nI_leI, nI_ltI, nI_eq, n3, hn, if_false, setc_eq, upd2_c, setc_setc]
    have key : ∀ x : Int32, (x = if bt set i = true then v else hm 7 i) → setc hm 7 (upd (fun j => if j < i ∧ bt set j = true then v else hm 7 j) i x) = setc hm 7 (fun j => if j < i + 1 ∧ bt set j = true then v else hm 7 j) := by
      intro x hx
      congr 1
      funext j
      simp only [upd]
      by_cases e : j = i
      · subst e; simp [hx]
      · have : (j < i + 1) ↔ (j < i) := by omega
        simp [e, this]
    cases hb : bt set i
    · rw [if_pos (by rfl), key _ (by simp [hb])]
    · rw [if_neg (by decide), key _ (by simp [hb])]
  · intro n
    rw [Mo_frequency_L2, setc_ne (a := 7) (k := 2) (by omega), n3, if_pos (nI_le_rf _)]
theorem mcounts_eq {P hm : zH} (hM : PM P hm) (hk : okN P) (set v : Int32) {t : Nat} (ht : t < 6) : Mo_counts set (nI t) v hm = some (setc hm 7 (rowC P (bt set) t v (nb P) (hm 7))) := by
  have n2 : nb P ≤ 6 := hk.1.2
  have n3 : hm 2 0 = nI (nb P) := by rw [hM.1 0 (by omega)]; exact hk.1.1
  unfold Mo_counts
  have e0 : hm = setc hm 7 (rowC P (bt set) t v 0 (hm 7)) := by
    conv => lhs; rw [← setc_self (h := hm) (a := 7)]
    congr 1
    funext i; unfold rowC; rw [if_neg (by omega)]
  refine (congrArg (fun s => Mo_counts_L3 set (nI t) v (fun h => some h) 1000 0 s) e0).trans ?_
  refine loop_pin (fun n x s => Mo_counts_L3 set (nI t) v (fun h => some h) n x s) (fun h => some h) (fun i => setc hm 7 (rowC P (bt set) t v i (hm 7))) (nb P) (i0 := 0) (Nat.zero_le _) (by omega) ?_ ?_
  · intro n i _ hi
    have hn : ¬ nb P ≤ i := by omega
    rw [Mo_counts_L3, setc_ne (a := 7) (k := 2) (by omega)]
    simp (disch := omega) only [m2, m3, m4, m6, m67, a1, a2, a3, p6, p44, p51, p60, nI_add, nI_clamp, zr_nI, gd_true, zlet, Option.bind_some, mhas_eq, has_eq, nI_leI, nI_ltI, nI_eq, n3, hn, if_false, setc_eq, upd2_c, setc_setc]
    have key : ∀ x : Int32, (x = if bt set i = true then v else hm 7 (6 + 6 * i + t)) → setc hm 7 (upd (rowC P (bt set) t v i (hm 7)) (6 + 6 * i + t) x) = setc hm 7 (rowC P (bt set) t v (i + 1) (hm 7)) := by
      intro x hx
      congr 1
      funext j
      by_cases e : j = 6 + 6 * i + t
      · subst e
        rw [upd_eq, hx]
        unfold rowC
        have e1 : (6 + 6 * i + t - 6) / 6 = i := by omega
        have e2 : (6 + 6 * i + t - 6) % 6 = t := by omega
        have e3 : 6 ≤ 6 + 6 * i + t := by omega
        have e4 : 6 + 6 * i + t < 6 + 6 * (i + 1) := by omega
        simp [e1, e2, e3, e4]
      · rw [upd_ne e]
        unfold rowC
        have : (6 ≤ j ∧ j < 6 + 6 * (i + 1) ∧ (j - 6) % 6 = t ∧ bt set ((j - 6) / 6) = true) ↔ (6 ≤ j ∧ j < 6 + 6 * i ∧ (j - 6) % 6 = t ∧ bt set ((j - 6) / 6) = true) := by
          constructor
          · rintro ⟨q1, q2, q3, q4⟩; exact ⟨q1, by omega, q3, q4⟩
          · rintro ⟨q1, q2, q3, q4⟩; exact ⟨q1, by omega, q3, q4⟩
        simp only [this]
    have hself : rowC P (bt set) t v i (hm 7) (6 + 6 * i + t) = hm 7 (6 + 6 * i + t) := by unfold rowC; exact if_neg (by omega)
    cases hb : bt set i
    · rw [if_pos (by rfl), key _ (by simp [hb, hself])]
    · rw [if_neg (by decide), key _ (by simp [hb])]
  · intro n
    rw [Mo_counts_L3, setc_ne (a := 7) (k := 2) (by omega), n3, if_pos (nI_le_rf _)]
