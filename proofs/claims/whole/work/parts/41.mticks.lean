theorem bt_low : ∀ b, b < 10 → ∀ j, j < 32 → bt (zshl 1 (nI b) - 1) j = decide (j < b) := by decide +kernel
theorem low_iff {P : zH} {cl : Int32} {b : Nat} : rt P cl b = b ↔ ∀ c, c < b → ¬ rt P cl c = rt P cl b := by
  constructor
  · intro h c hc e
    have h1 := @rt_le P cl c
    omega
  · intro h
    rcases Nat.lt_or_ge (rt P cl b) b with q | q
    · exact absurd rt_rt (h _ q)
    · exact Nat.le_antisymm rt_le q
theorem isLowest_eq {P hm : zH} (hM : PM P hm) (hk : okN P) (hl : okL P) {b : Nat} (hb : b < nb P) : Mo_isLowest (nI b) hm = some (b2i (decide (rt P (hm 7 43) b = b))) := by
  have n2 : nb P ≤ 6 := hk.1.2
  unfold Mo_isLowest
  rw [busesOf_eq hM hk hl hb, Option.bind_some]
  have key : (bset (fun c => decide (rt P (hm 7 43) c = rt P (hm 7 43) b)) (nb P) &&& (zshl 1 (nI b) - 1)) = 0 ↔ rt P (hm 7 43) b = b := by
    rw [low_iff]
    constructor
    · intro e c hc h
      have h1 : bt (bset (fun c => decide (rt P (hm 7 43) c = rt P (hm 7 43) b)) (nb P) &&& (zshl 1 (nI b) - 1)) c = true := by
        rw [b_and, bt_bset _ _ (by omega), bt_low b (by omega) c (by omega)]
        simp [h, hc]; omega
      rw [e, b_0] at h1
      cases h1
    · intro h
      apply b_ext
      intro j hj
      rw [b_and, bt_bset _ _ (by omega), bt_low b (by omega) j hj, b_0]
      by_cases hjb : j < b
      · simp [h j hjb]
      · simp [hjb]
  by_cases h : rt P (hm 7 43) b = b
  · rw [if_pos (key.mpr h)]; simp [h, b2i]
  · rw [if_neg (fun q => h (key.mp q))]; simp [h, b2i]
theorem upF_ok {P : zH} {F : Nat → Int32} {r : Nat} {v : Int32} (h : ∀ x, x < nb P → F x = 0 ∨ isIn (F x) 4700 5200) (hv : v = 0 ∨ isIn v 4700 5200) : ∀ x, x < nb P → upF F r v x = 0 ∨ isIn (upF F r v x) 4700 5200 := by
  intro x hx
  unfold upF
  by_cases e : x = r
  · rw [if_pos e]; exact hv
  · rw [if_neg e]; exact h x hx
theorem sTick1_ok {P : zH} {S : St} {r : Nat} (hP : okP P) (h : Sok P S) : Sok P (sTick1 P S r).1 ∧ sCl (sTick1 P S r).1 = sCl S ∧ sTk (sTick1 P S r).1 = sTk S := by
  have h1 := sFollow_ok (r := r) hP h
  have hcl : sCl (sFollow P S r) = sCl S := rfl
  have htk : sTk (sFollow P S r) = sTk S := rfl
  unfold sTick1
  generalize sFollow P S r = T at h1 hcl htk
  dsimp only
  obtain ⟨a1, a2, a3, a4, a5⟩ := h1
  split
  · refine ⟨⟨a1, upF_ok a2 (Or.inl rfl), fun p hp => ?_, okO_dropN a4 _ _ (Nat.le_refl _), a5⟩, hcl, htk⟩
    show 0 ≤ (if inR P T r (pb P p) = true then (0 : Int32) else sG T p).toInt ∧ _
    show 0 ≤ (if inR P T r (pb P p) = true then (0 : Int32) else sG T p).toInt ∧ (if inR P T r (pb P p) = true then (0 : Int32) else sG T p).toInt ≤ _
    split
    · exact ⟨by decide, by have := (hP p hp).2.1.1; show (0 : Int) ≤ _; omega⟩
    · exact a3 p hp
  · rename_i hc
    have hlow : isIn (nwF P T r) 4700 5200 := by
      refine ⟨?_, ?_⟩
      · have : ¬ nwF P T r < 4700 := fun q => hc (Or.inr q)
        have := ile.mp (Int32.not_lt.mp this)
        simpa using this
      · unfold nwF
        dsimp only
        split
        · rename_i q; simpa using ile.mp q
        · decide
    have hO : okO P (sOn (wF T (upF (sF T) r (nwF P T r)))) (sOff (wF T (upF (sF T) r (nwF P T r)))) := a4
    obtain ⟨o1, o2, o3, o4, o5⟩ := stages_ok (P := P) (r := r) hO (ns P) []
    generalize itr (stages P r) 0 (ns P) (wF T (upF (sF T) r (nwF P T r)), []) = q at o1 o2 o3 o4 o5
    have b1 : ∀ l, nl P ≤ l → bt (sCl q.1) l = false := by rw [o2]; exact a1
    have b2 : ∀ x, x < nb P → sF q.1 x = 0 ∨ isIn (sF q.1 x) 4700 5200 := by rw [o3]; exact upF_ok a2 (Or.inr hlow)
    have b3 : ∀ p, p < np P → 0 ≤ (sG q.1 p).toInt ∧ (sG q.1 p).toInt ≤ (P 4 p).toInt := by rw [o4]; exact a3
    have b5 : True := trivial
    unfold sBack
    split
    · exact ⟨⟨b1, b2, b3, o1, b5⟩, o2.trans hcl, o5.trans htk⟩
    · exact ⟨⟨b1, b2, b3, okO_put o1, b5⟩, o2.trans hcl, o5.trans htk⟩
theorem tk1_ok {P : zH} (hP : okP P) (q : St × Ev) (b : Nat) (h : Sok P q.1) : Sok P (tk1 P b q).1 ∧ sCl (tk1 P b q).1 = sCl q.1 ∧ sTk (tk1 P b q).1 = sTk q.1 := by
  unfold tk1
  split
  · exact sTick1_ok hP h
  · exact ⟨h, rfl, rfl⟩
theorem tks_ok {P : zH} (hP : okP P) {S : St} (h : Sok P S) : ∀ c, Sok P (itr (tk1 P) 0 c (S, [], 0)).1 ∧ sCl (itr (tk1 P) 0 c (S, [], 0)).1 = sCl S ∧ sTk (itr (tk1 P) 0 c (S, [], 0)).1 = sTk S
  | 0 => ⟨h, rfl, rfl⟩
  | c + 1 => by
    obtain ⟨i1, i2, i3⟩ := tks_ok hP h c
    rw [itr_snoc, Nat.zero_add]
    generalize itr (tk1 P) 0 c (S, [], 0) = q at i1 i2 i3
    obtain ⟨j1, j2, j3⟩ := tk1_ok hP q c i1
    exact ⟨j1, j2.trans i2, j3.trans i3⟩
theorem F_pos {P : zH} {S : St} (h : Sok P S) {b : Nat} (hb : b < nb P) : sF S b ≤ 0 ↔ sF S b = 0 := by
  constructor
  · intro q
    rcases h.2.1 b hb with e | e
    · exact e
    · have := ile.mp q
      have h2 := e.1
      have : (0 : Int32).toInt = 0 := rfl
      omega
  · intro q; rw [q]; exact Int32.le_refl _
theorem RepM.T {P : zH} {row : Nat → Int32} {S : St} (hk : okN P) (hO : okO P (sOn S) (sOff S)) (h : RepM P row S) (v : Int32) : RepM P (upd row 66 v) (wT S v) := by
  have n1 : nb P ≤ 6 := hk.1.2
  have n2 : np P ≤ 6 := hk.2.2.1.2
  have n5 : ns P ≤ 5 := hk.2.2.2.2.2
  have n4 : nf P ≤ 9 := hk.2.2.2.1.2
  have hlen := hO.len
  obtain ⟨h1, h2, h3, h4, h5, h6⟩ := h
  refine ⟨?_, fun b hb => ⟨?_, fun s hs => ?_⟩, fun q hq => ?_, ?_, fun s hs => ?_, ?_⟩
  · rw [upd_ne (by omega)]; exact h1
  · rw [upd_ne (by omega)]; exact (h2 b hb).1
  · rw [upd_ne (by omega)]; exact (h2 b hb).2 s hs
  · rw [upd_ne (by omega)]; exact h3 q hq
  · rw [upd_ne (by omega), upd_ne (by omega)]
    refine ⟨h4.1, h4.2.1, fun i f hi => ?_⟩
    have := (List.getElem?_eq_some_iff.mp hi).1
    show upd row 66 v (51 + i) = _
    have hle : (sOff S).length ≤ nf P := hlen
    have : i < (sOff S).length := this
    rw [upd_ne (by omega)]; exact h4.2.2 i f hi
  · rw [upd_ne (by omega)]; exact h5 s hs
  · exact upd_eq
theorem mticks_eq {P hm : zH} {S : St} (hM : PM P hm) (hk : okN P) (hl : okL P) (hP : okP P) (hF : okF P) (hR : RepM P (hm 7) S) (hS : Sok P S) :
    ∃ hm', Mo_ticks hm = some hm' ∧ MS P hm hm' (sTicks P S).1 (sTicks P S).2.1 (sTicks P S).2.2 := by
  have n2 : nb P ≤ 6 := hk.1.2
  unfold Mo_ticks
  refine exists_step (loop_ex (fun n x s => Mo_ticks_L2 (fun h_3 => zlet (upd2 h_3 7 66 ((h_3 7 66) + 1)) fun h_4 => some h_4) n x s) (fun h_3 => zlet (upd2 h_3 7 66 ((h_3 7 66) + 1)) fun h_4 => some h_4) (fun i s => MS P hm s (itr (tk1 P) 0 i (S, [], 0)).1 (itr (tk1 P) 0 i (S, [], 0)).2.1 (itr (tk1 P) 0 i (S, [], 0)).2.2) (nb P) ?_ ?_ (nb P) 0 1000 hm (by omega) (by omega) ⟨Mfr.rf, hR, mk0.rf⟩) ?_
  · rintro n i s hi g1
    obtain ⟨o1, o2, -⟩ := tks_ok hP hS i
    have e9 : itr (tk1 P) 0 (i + 1) (S, [], 0) = tk1 P i (itr (tk1 P) 0 i (S, [], 0)) := by rw [itr_snoc, Nat.zero_add]
    rw [e9]
    generalize itr (tk1 P) 0 i (S, [], 0) = q at g1 o1 o2
    have hMs : PM P s := hM.of g1.1
    have n3 : s 2 0 = nI (nb P) := by rw [hMs.1 0 (by omega)]; exact hk.1.1
    have hcl : s 7 43 = sCl q.1 := g1.2.1.1
    rw [Mo_ticks_L2, n3, if_neg (nI_lt_of hi (by omega)), isLowest_eq hMs hk hl hi, Option.bind_some, zr_nI (by omega) (by omega), gd_true, nI_clamp (by omega), nI_1, hcl]
    by_cases hr : rt P (sCl q.1) i = i
    · rw [if_neg (by rw [hr]; simp [b2i])]
      have hrow : s 7 i = sF q.1 i := by have := (g1.2.1.2.1 i hi).1; rw [hr] at this; exact this
      rw [hrow]
      by_cases hf : sF q.1 i = 0
      · rw [if_pos ((F_pos o1 hi).mpr hf)]
        refine ⟨s, ?_, rfl⟩
        unfold tk1
        rw [if_neg (by simp [hf])]
        exact g1
      · rw [if_neg (fun z => hf ((F_pos o1 hi).mp z))]
        obtain ⟨s', e1, e2⟩ := mgoes_eq hMs hk hl hP hF g1.2.1 o1 hi hr
        rw [e1, Option.bind_some]
        refine ⟨s', ?_, rfl⟩
        unfold tk1
        rw [if_pos ⟨hr, hf⟩]
        exact g1.tr e2
    · rw [if_pos (by simp [hr, b2i])]
      refine ⟨s, ?_, rfl⟩
      unfold tk1
      rw [if_neg (by simp [hr])]
      exact g1
  · rintro n s g1
    have hMs : PM P s := hM.of g1.1
    have n3 : s 2 0 = nI (nb P) := by rw [hMs.1 0 (by omega)]; exact hk.1.1
    rw [Mo_ticks_L2, n3, if_pos (nI_le_rf _)]
  · rintro ⟨s, g1, g2⟩
    refine ⟨_, g2, ?_⟩
    obtain ⟨o1, o2, -⟩ := tks_ok hP hS (nb P)
    unfold sTicks
    generalize itr (tk1 P) 0 (nb P) (S, [], 0) = q at g1 o1 o2
    refine ⟨fun k k0 k7 => by rw [upd2_ne k7]; exact g1.1 k k0 k7, ?_, by rw [upd2_ne (by omega)]; exact g1.2.2⟩
    rw [upd2_eq]
    have e66 : s 7 66 = sTk q.1 := g1.2.1.2.2.2.2.2
    rw [e66]
    exact g1.2.1.T hk o1.2.2.2.1 _
