theorem zlet_n {α ρ : Type} (e : α) (f : α → Option ρ) : zlet e f = f e := Eq.trans (zlet_eq e f) (Eq.refl (f e))
/-! copies of a grid, what is kept to be undone, what is set aside -/
theorem cpy2_eq {h : zH} {a b n i : Nat} (hi : i < n) : cpy2 h a b n b i = h a i := by simp [cpy2, va_cpy, hi]
theorem cpy2_ne {h : zH} {a b n k : Nat} (hk : k ≠ b) : cpy2 h a b n k = h k := by simp [cpy2, hk]
/-- a grid like another one -/
theorem RepX.copy {P h h' : zH} {g o : Nat} {S : St} (hk : okN P) (hR : RepX P h o S) (e1 : ∀ i, i < 6 → h' (g + 1) i = h (o + 1) i) (e3 : ∀ i, i < 6 → h' (g + 3) i = h (o + 3) i) (e4 : ∀ i, i < 36 → h' (g + 4) i = h (o + 4) i) (e5 : ∀ i, i < 6 → h' (g + 5) i = h (o + 5) i) (e6 : ∀ i, i < 9 → h' (g + 6) i = h (o + 6) i) (e7 : ∀ i, i < 6 → h' (g + 7) i = h (o + 7) i) (f1 : h' g 1 = h o 1) (f7 : h' g 7 = h o 7) (f9 : h' g 9 = h o 9) (f11 : h' g 11 = h o 11) : RepX P h' g S := by
  have n1 : nb P ≤ 6 := hk.1.2
  have n2 : np P ≤ 6 := hk.2.2.1.2
  have n5 : ns P ≤ 5 := hk.2.2.2.2.2
  have n4 : nf P ≤ 9 := hk.2.2.2.1.2
  obtain ⟨⟨h1, h2, h3, h4, ⟨on, off, o1, o2, o3, o4⟩, h6⟩, h7⟩ := hR
  refine ⟨⟨f1.trans h1, fun b hb => by rw [e1 b hb]; exact h2 b hb, fun r hr hrr hJ => ⟨by rw [e3 r (by omega)]; exact (h3 r hr hrr hJ).1, fun s hs => by rw [e4 _ (by omega)]; exact (h3 r hr hrr hJ).2 s hs⟩, fun p hp hJ => by rw [e5 p (by omega)]; exact h4 p hp hJ, ⟨on, off, o1, ⟨by rw [f7]; exact o2.1, by rw [f9]; exact o2.2.1, fun i f hi => ?_⟩, o3, o4⟩, fun s hs => by rw [e7 s (by omega)]; exact h6 s hs⟩, f11.trans h7⟩
  have := (List.getElem?_eq_some_iff.mp hi).1
  have := o1.len
  rw [e6 i (by omega)]
  exact o2.2.2 i f hi
theorem copy_eq {P : zH} (hk : okN P) (h : zH) {g o : Nat} (hgo : g + 8 ≤ o ∨ o + 8 ≤ g) : ∃ h', Gr_copy g o h = some h' ∧ (∀ k, ¬ (g ≤ k ∧ k ≤ g + 7) → h' k = h k) ∧ ∀ S, RepX P h o S → RepX P h' g S := by
  unfold Gr_copy
  simp only [zlet_eq]
  refine ⟨_, rfl, fun k hk0 => ?_, fun S hR => hR.copy hk (fun i hi => ?_) (fun i hi => ?_) (fun i hi => ?_) (fun i hi => ?_) (fun i hi => ?_) (fun i hi => ?_) ?_ ?_ ?_ ?_⟩
  · rw [upd2_ne (by omega), upd2_ne (by omega), upd2_ne (by omega), upd2_ne (by omega), cpy2_ne (by omega), cpy2_ne (by omega), cpy2_ne (by omega), cpy2_ne (by omega), cpy2_ne (by omega), cpy2_ne (by omega)]
  · rw [upd2_ne (by omega), upd2_ne (by omega), upd2_ne (by omega), upd2_ne (by omega), cpy2_ne (by omega), cpy2_ne (by omega), cpy2_ne (by omega), cpy2_ne (by omega), cpy2_ne (by omega), cpy2_eq hi]
  · rw [upd2_ne (by omega), upd2_ne (by omega), upd2_ne (by omega), upd2_ne (by omega), cpy2_ne (by omega), cpy2_ne (by omega), cpy2_ne (by omega), cpy2_ne (by omega), cpy2_eq hi, cpy2_ne (by omega)]
  · rw [upd2_ne (by omega), upd2_ne (by omega), upd2_ne (by omega), upd2_ne (by omega), cpy2_ne (by omega), cpy2_ne (by omega), cpy2_ne (by omega), cpy2_eq hi, cpy2_ne (by omega), cpy2_ne (by omega)]
  · rw [upd2_ne (by omega), upd2_ne (by omega), upd2_ne (by omega), upd2_ne (by omega), cpy2_ne (by omega), cpy2_ne (by omega), cpy2_eq hi, cpy2_ne (by omega), cpy2_ne (by omega), cpy2_ne (by omega)]
  · rw [upd2_ne (by omega), upd2_ne (by omega), upd2_ne (by omega), upd2_ne (by omega), cpy2_ne (by omega), cpy2_eq hi, cpy2_ne (by omega), cpy2_ne (by omega), cpy2_ne (by omega), cpy2_ne (by omega)]
  · rw [upd2_ne (by omega), upd2_ne (by omega), upd2_ne (by omega), upd2_ne (by omega), cpy2_eq hi, cpy2_ne (by omega), cpy2_ne (by omega), cpy2_ne (by omega), cpy2_ne (by omega), cpy2_ne (by omega)]
  all_goals
    simp (disch := omega) only [upd2_eq, upd2_ne, upd_eq, upd_ne, cpy2_ne]
theorem kp_getD : ∀ j, j < 4 → ([49, 57, 65, 73] : List Nat).getD j 0 = (49 + 8 * j) := by decide
def HS (P hx hm : zH) (L : List St) : Prop := L.length ≤ 4 ∧ hm 0 10 = nI L.length ∧ hx 47 2 = nI L.length ∧ ∃ nx, nx < 4 ∧ hx 47 1 = nI nx ∧ ∀ k S', L[k]? = some S' → Sok P S' ∧ isIn (sTk S') 0 9999 ∧ RepM P (fun i => hm 8 (67 * k + i)) S' ∧ RepX P hx ((49 + 8 * ((nx + 4 - L.length + k) % 4))) S'
theorem RepX.of {P h h' : zH} {g : Nat} {S : St} (hR : RepX P h g S) (e : ∀ k, g ≤ k → k ≤ g + 7 → h' k = h k) : RepX P h' g S := by
  have e0 := e g (Nat.le_refl _) (by omega)
  exact ⟨hR.1.of (fun k k1 k2 => e k (by omega) k2) (by rw [e0]; exact ⟨rfl, rfl, rfl⟩), by rw [e0]; exact hR.2⟩
/-- what is kept depends on few cells -/
theorem HS.of {P hx hm hx' hm' : zH} {L : List St} (h : HS P hx hm L) (e1 : ∀ k, 47 ≤ k → k ≤ 80 → hx' k = hx k) (e2 : hm' 8 = hm 8) (e3 : hm' 0 10 = hm 0 10) : HS P hx' hm' L := by
  obtain ⟨h1, h2, h3, nx, h4, h5, h6⟩ := h
  have e47 := e1 47 (by omega) (by omega)
  refine ⟨h1, by rw [e3]; exact h2, by rw [e47]; exact h3, nx, h4, by rw [e47]; exact h5, fun k S' hS => ?_⟩
  obtain ⟨a1, a2, a3, a4⟩ := h6 k S' hS
  have hlt := Nat.mod_lt (nx + 4 - L.length + k) (show 4 > 0 by omega)
  exact ⟨a1, a2, by rw [e2]; exact a3, a4.of (fun j j1 j2 => e1 j (by omega) (by omega))⟩
def kpL (L : List St) (S : St) : List St := if L.length = 4 then L.tail ++ [S] else L ++ [S]
theorem zmin_4 {m : Nat} (h : m ≤ 4) : zmin (nI m + 1) 4 = nI (min (m + 1) 4) := by rw [nI_1]; exact zmin_nI (b := 4) (by omega) (by omega)
theorem zrem_4 : ∀ n, n < 8 → zrem (nI n) 4 = nI (n % 4) := by decide +kernel
/-- the class keeps its grid -/
theorem xkeep {P hx : zH} {S : St} (hk : okN P) (hR : RepX P hx 29 S) {m nx : Nat} (hm : m ≤ 4) (hnx : nx < 4) (e2 : hx 47 2 = nI m) (e1 : hx 47 1 = nI nx) : ∃ h', Pa_keep 29 hx = some h' ∧ (∀ k, k ≠ 47 → ¬ ((49 + 8 * nx) ≤ k ∧ k ≤ (49 + 8 * nx) + 7) → h' k = hx k) ∧ RepX P h' ((49 + 8 * nx)) S ∧ h' 47 1 = nI ((nx + 1) % 4) ∧ h' 47 2 = nI (min (m + 1) 4) := by
  unfold Pa_keep
  rw [e1, zr_nI (by omega) (by omega), gd_true, nI_clamp (by omega), kp_getD nx hnx]
  obtain ⟨h1, c1, c2, c3⟩ := copy_eq hk hx (g := (49 + 8 * nx)) (o := 29) (by omega)
  have d47 : h1 47 = hx 47 := c2 47 (by omega)
  rw [c1, Option.bind_some]
  simp only [zlet_eq]
  have u2 : ∀ v, upd2 h1 47 1 v 47 2 = hx 47 2 := fun v => by rw [upd2_eq, upd_ne (by omega), d47]
  rw [d47, e1, nI_1, zrem_4 _ (by omega), u2, e2, zmin_4 hm]
  refine ⟨_, rfl, fun k k1 k2 => ?_, ?_, ?_, ?_⟩
  · rw [upd2_ne k1, upd2_ne k1]; exact c2 k k2
  · exact (c3 S hR).of (fun k k1 k2 => by rw [upd2_ne (by omega), upd2_ne (by omega)])
  · rw [upd2_eq, upd_ne (by omega), upd2_eq, upd_eq]
  · rw [upd2_eq, upd_eq]
theorem upd_self {f : Nat → Int32} {k : Nat} : upd f k (f k) = f := by funext j; by_cases e : j = k; subst e; exact upd_eq; exact upd_ne e
theorem lit67 {i : Nat} (h : i < 67) : ¬ (67 : Int32) ≤ nI i := nI_lt_of (e := 67) h (by omega)
theorem lit201 {i : Nat} (h : i < 201) : ¬ (201 : Int32) ≤ nI i := nI_lt_of (e := 201) h (by omega)
theorem keep_copy (k : zH → Option zH) (h : zH) (q : Nat) (hq : q < 4) (hh : h 0 10 = nI q) : ∃ r, Mo_keeps_L50 k 1000 0 h = k (setc h 8 r) ∧ (∀ i, i < 67 → r (67 * q + i) = h 7 i) ∧ ∀ j, j < 67 * q → r j = h 8 j := by
  refine exists_step (loop_ex (fun n x s => Mo_keeps_L50 k n x s) k (fun i s => ∃ r, s = setc h 8 r ∧ (∀ j, j < i → r (67 * q + j) = h 7 j) ∧ ∀ j, j < 67 * q → r j = h 8 j) 67 ?_ ?_ 67 0 1000 h (by omega) (by omega) ⟨h 8, setc_self.symm, fun j hj => by omega, fun _ _ => rfl⟩) ?_
  · rintro n i s hi ⟨r, rfl, g1, g2⟩
    have hh' : setc h 8 r 0 10 = nI q := by rw [setc_ne (by omega)]; exact hh
    have h7 : setc h 8 r 7 = h 7 := setc_ne (by omega)
    rw [Mo_keeps_L50, if_neg (lit67 hi), hh', h7]
    simp (disch := omega) only [m67, nI_add, zr_nI, gd_true, nI_clamp, zlet_eq, nI_1, upd2_c, setc_eq, setc_setc]
    refine ⟨_, ⟨_, rfl, fun j hj => ?_, fun j hj => ?_⟩, rfl⟩
    · by_cases e : j = i
      · subst e; exact upd_eq
      · rw [upd_ne (by omega)]; exact g1 j (by omega)
    · rw [upd_ne (by omega)]; exact g2 j hj
  · rintro n s ⟨r, rfl, g1, g2⟩
    rw [Mo_keeps_L50]
    exact if_pos (nI_le_rf 67)
  · rintro ⟨s, ⟨r, rfl, g1, g2⟩, g3⟩
    exact ⟨r, g3, g1, g2⟩
theorem keep_shift (hm : zH) (k : zH → Option zH) : ∃ r, Mo_keeps_L10 k 1000 0 hm = k (setc hm 8 r) ∧ (∀ j, j < 201 → r j = hm 8 (j + 67)) := by
  refine exists_step (loop_ex (fun n x s => Mo_keeps_L10 k n x s) k (fun i s => ∃ r, s = setc hm 8 r ∧ (∀ j, j < i → r j = hm 8 (j + 67)) ∧ ∀ j, i ≤ j → r j = hm 8 j) 201 ?_ ?_ 201 0 1000 hm (by omega) (by omega) ⟨hm 8, setc_self.symm, fun j hj => by omega, fun _ _ => rfl⟩) ?_
  · rintro n i s hi ⟨r, rfl, g1, g2⟩
    rw [Mo_keeps_L10, if_neg (lit201 hi), show nI i + 67 = nI (i + 67) from nI_add i 67]
    simp (disch := omega) only [zr_nI, gd_true, nI_clamp, zlet_eq, nI_1, upd2_c, setc_eq, setc_setc]
    refine ⟨_, ⟨_, rfl, fun j hj => ?_, fun j hj => ?_⟩, rfl⟩
    · by_cases e : j = i
      · subst e; rw [upd_eq]; exact g2 _ (by omega)
      · rw [upd_ne (by omega)]; exact g1 j (by omega)
    · rw [upd_ne (by omega)]; exact g2 j (by omega)
  · rintro n s ⟨r, rfl, g1, g2⟩
    rw [Mo_keeps_L10]
    exact if_pos (nI_le_rf 201)
  · rintro ⟨s, ⟨r, rfl, g1, g2⟩, g3⟩
    exact ⟨r, g3, g1⟩
/-- the reference keeps its row -/
theorem mkeep {hm : zH} {m : Nat} (h10 : hm 0 10 = nI m) (hm4 : m ≤ 4) : ∃ h', Mo_keeps hm = some h' ∧ (∀ k, k ≠ 0 → k ≠ 8 → h' k = hm k) ∧ (∀ j, j ≠ 10 → h' 0 j = hm 0 j) ∧ h' 0 10 = nI (min (m + 1) 4) ∧ (∀ i, i < 67 → h' 8 (67 * min m 3 + i) = hm 7 i) ∧ (m = 4 → ∀ j, j < 201 → h' 8 j = hm 8 (j + 67)) ∧ (m < 4 → ∀ j, j < 67 * m → h' 8 j = hm 8 j) := by
  unfold Mo_keeps
  rw [zlet_eq, h10]
  by_cases e4 : m = 4
  · subst e4
    rw [if_pos (by rfl)]
    obtain ⟨r, s1, s2⟩ := keep_shift hm (fun h_8 => zlet (upd2 h_8 0 10 ((h_8 0 10) - 1)) fun h_9 => Mo_keeps_L50 (fun h_4 => zlet (upd2 h_4 0 10 ((h_4 0 10) + 1)) fun h_5 => some h_5) 1000 0 h_9)
    rw [s1, zlet_eq]
    have e0 : setc hm 8 r 0 10 - 1 = nI 3 := by rw [setc_ne (by omega), h10]; rfl
    rw [e0]
    obtain ⟨r2, t1, t2, t3⟩ := keep_copy (fun h_4 => zlet (upd2 h_4 0 10 ((h_4 0 10) + 1)) fun h_5 => some h_5) (upd2 (setc hm 8 r) 0 10 (nI 3)) 3 (by omega) (by rw [upd2_eq, upd_eq])
    rw [t1, zlet_eq]
    refine ⟨_, rfl, fun k k0 k8 => ?_, fun j hj => ?_, ?_, fun i hi => ?_, fun _ j hj => ?_, fun q => by omega⟩
    · rw [upd2_ne k0, setc_ne k8, upd2_ne k0, setc_ne k8]
    · rw [upd2_eq, upd_ne hj, setc_ne (by omega), upd2_eq, upd_ne hj, setc_ne (by omega)]
    · rw [upd2_eq, upd_eq, setc_ne (by omega), upd2_eq, upd_eq]; rfl
    · rw [upd2_ne (by omega), setc_eq]
      have := t2 i hi
      rw [upd2_ne (by omega), setc_ne (by omega)] at this
      exact this
    · rw [upd2_ne (by omega), setc_eq, t3 j (by omega), upd2_ne (by omega), setc_eq]
      exact s2 j hj
  · rw [if_neg (show ¬ nI m = 4 from fun q => e4 ((nI_eq (b := 4) (by omega) (by omega)).mp q))]
    obtain ⟨r, t1, t2, t3⟩ := keep_copy (fun h_4 => zlet (upd2 h_4 0 10 (h_4 0 10 + 1)) fun h_5 => some h_5) hm m (by omega) h10
    show ∃ h', Mo_keeps_L50 (fun h_4 => zlet (upd2 h_4 0 10 (h_4 0 10 + 1)) fun h_5 => some h_5) 1000 0 hm = some h' ∧ _
    rw [t1, zlet_eq]
    refine ⟨_, rfl, fun k k0 k8 => ?_, fun j hj => ?_, ?_, fun i hi => ?_, fun q => absurd q e4, fun _ j hj => ?_⟩
    · rw [upd2_ne k0, setc_ne k8]
    · rw [upd2_eq, upd_ne hj, setc_ne (by omega)]
    · rw [upd2_eq, upd_eq, setc_ne (by omega), h10, nI_1, show min (m + 1) 4 = m + 1 by omega]
    · rw [upd2_ne (by omega), setc_eq, show min m 3 = m by omega]; exact t2 i hi
    · rw [upd2_ne (by omega), setc_eq]; exact t3 j hj
/-- both keep their state -/
theorem keep_eq {P hx hm : zH} {S : St} {L : List St} (hk : okN P) (hS : Sok P S) (hT : isIn (sTk S) 0 9999) (hR : RepX P hx 29 S) (hR2 : RepM P (hm 7) S) (hL : HS P hx hm L) : ∃ hx' hm', Pa_keep 29 hx = some hx' ∧ Mo_keeps hm = some hm' ∧ (∀ k, k < 47 → hx' k = hx k) ∧ (∀ k, k ≠ 0 → k ≠ 8 → hm' k = hm k) ∧ (∀ j, j ≠ 10 → hm' 0 j = hm 0 j) ∧ HS P hx' hm' (kpL L S) := by
  obtain ⟨h1, h2, h3, nx, h4, h5, h6⟩ := hL
  obtain ⟨hx', a1, a2, a3, a4, a5⟩ := xkeep hk hR h1 h4 h3 h5
  obtain ⟨hm', b1, b2, b3, b4, b5, b6, b7⟩ := mkeep h2 h1
  have n1 : nb P ≤ 6 := hk.1.2
  have n2 : np P ≤ 6 := hk.2.2.1.2
  have n5 : ns P ≤ 5 := hk.2.2.2.2.2
  have n4 : nf P ≤ 9 := hk.2.2.2.1.2
  have hnewM : ∀ q, (∀ i, i < 67 → hm' 8 (67 * q + i) = hm 7 i) → RepM P (fun i => hm' 8 (67 * q + i)) S := by
    intro q hq
    obtain ⟨c1, c2, c3, c4, c5, c6⟩ := hR2
    have hlen := hS.2.2.2.1.len
    refine ⟨by dsimp only; rw [hq _ (by omega)]; exact c1, fun b hb => ⟨by dsimp only; rw [hq _ (by omega)]; exact (c2 b hb).1, fun s hs => by dsimp only; rw [hq _ (by omega)]; exact (c2 b hb).2 s hs⟩, fun p hp => by dsimp only; rw [hq _ (by omega)]; exact c3 p hp, ⟨by dsimp only; rw [hq _ (by omega)]; exact c4.1, by dsimp only; rw [hq _ (by omega)]; exact c4.2.1, fun i f hi => ?_⟩, fun s hs => by dsimp only; rw [hq _ (by omega)]; exact c5 s hs, by dsimp only; rw [hq _ (by omega)]; exact c6⟩
    have := (List.getElem?_eq_some_iff.mp hi).1
    dsimp only
    rw [hq _ (by omega)]
    exact c4.2.2 i f hi
  have holdM : ∀ (q q' : Nat) (S' : St), Sok P S' → (∀ i, i < 67 → hm' 8 (67 * q + i) = hm 8 (67 * q' + i)) → RepM P (fun i => hm 8 (67 * q' + i)) S' → RepM P (fun i => hm' 8 (67 * q + i)) S' := by
    intro q q' S' hS' hq hRo
    obtain ⟨c1, c2, c3, c4, c5, c6⟩ := hRo
    have hlen := hS'.2.2.2.1.len
    refine ⟨by dsimp only; rw [hq _ (by omega)]; exact c1, fun b hb => ⟨by dsimp only; rw [hq _ (by omega)]; exact (c2 b hb).1, fun s hs => by dsimp only; rw [hq _ (by omega)]; exact (c2 b hb).2 s hs⟩, fun p hp => by dsimp only; rw [hq _ (by omega)]; exact c3 p hp, ⟨by dsimp only; rw [hq _ (by omega)]; exact c4.1, by dsimp only; rw [hq _ (by omega)]; exact c4.2.1, fun i f hi => ?_⟩, fun s hs => by dsimp only; rw [hq _ (by omega)]; exact c5 s hs, by dsimp only; rw [hq _ (by omega)]; exact c6⟩
    have := (List.getElem?_eq_some_iff.mp hi).1
    dsimp only
    rw [hq _ (by omega)]
    exact c4.2.2 i f hi
  refine ⟨hx', hm', a1, b1, fun k hk47 => a2 k (by omega) (by omega), b2, b3, ?_⟩
  have hoth : ∀ j, j < 4 → j ≠ nx → ∀ S', RepX P hx ((49 + 8 * j)) S' → RepX P hx' ((49 + 8 * j)) S' := fun j hj hne S' hr => hr.of (fun k k1 k2 => a2 k (by omega) (by omega))
  unfold kpL
  by_cases e4 : L.length = 4
  · rw [if_pos e4]
    have hl : (L.tail ++ [S]).length = 4 := by simp [e4]
    refine ⟨by omega, by rw [b4, hl, e4]; rfl, by rw [a5, hl, e4]; rfl, (nx + 1) % 4, Nat.mod_lt _ (by omega), a4, fun k S' hg => ?_⟩
    rw [hl]
    rcases Nat.lt_or_ge k 3 with q | q
    · have hg2 : L[k + 1]? = some S' := by
        rw [List.getElem?_append_left (by simp [e4]; omega), List.getElem?_tail] at hg
        exact hg
      obtain ⟨d1, d2, d3, d4⟩ := h6 (k + 1) S' hg2
      rw [e4] at d4
      refine ⟨d1, d2, holdM k (k + 1) S' d1 (fun i hi => by rw [b6 e4 _ (by omega)]; congr 1; omega) d3, ?_⟩
      have ei : (nx + 4 - 4 + (k + 1)) % 4 = ((nx + 1) % 4 + 4 - 4 + k) % 4 := by omega
      rw [← ei]
      exact hoth _ (Nat.mod_lt _ (by omega)) (by omega) S' d4
    · have hk3 : k = 3 := by
        have := (List.getElem?_eq_some_iff.mp hg).1
        rw [hl] at this; omega
      subst hk3
      rw [List.getElem?_append_right (by simp [e4])] at hg
      simp [e4] at hg
      subst hg
      have ei : ((nx + 1) % 4 + 4 - 4 + 3) % 4 = nx := by omega
      rw [ei]
      exact ⟨hS, hT, hnewM 3 (fun i hi => by have := b5 i hi; rw [e4] at this; exact this), a3⟩
  · rw [if_neg e4]
    have hl : (L ++ [S]).length = L.length + 1 := by simp
    refine ⟨by omega, by rw [b4, hl, show min (L.length + 1) 4 = L.length + 1 by omega], by rw [a5, hl, show min (L.length + 1) 4 = L.length + 1 by omega], (nx + 1) % 4, Nat.mod_lt _ (by omega), a4, fun k S' hg => ?_⟩
    rw [hl]
    rcases Nat.lt_or_ge k L.length with q | q
    · have hg2 : L[k]? = some S' := by rw [List.getElem?_append_left q] at hg; exact hg
      obtain ⟨d1, d2, d3, d4⟩ := h6 k S' hg2
      refine ⟨d1, d2, holdM k k S' d1 (fun i hi => b7 (by omega) _ (by omega)) d3, ?_⟩
      have ei : (nx + 4 - L.length + k) % 4 = ((nx + 1) % 4 + 4 - (L.length + 1) + k) % 4 := by omega
      rw [← ei]
      exact hoth _ (Nat.mod_lt _ (by omega)) (by omega) S' d4
    · have hk3 : k = L.length := by
        have := (List.getElem?_eq_some_iff.mp hg).1
        rw [hl] at this; omega
      subst hk3
      rw [List.getElem?_append_right (Nat.le_refl _)] at hg
      simp at hg
      subst hg
      have ei : ((nx + 1) % 4 + 4 - (L.length + 1) + L.length) % 4 = nx := by omega
      rw [ei]
      exact ⟨hS, hT, hnewM L.length (fun i hi => by have := b5 i hi; rw [show min L.length 3 = L.length by omega] at this; exact this), a3⟩
