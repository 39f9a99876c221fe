theorem bothF_eq {P hm : zH} {S : St} {a b : Nat} (hM : PM P hm) (hk : okN P) (hP : okP P) (hR2 : RepM P (hm 7) S) (ha : a < nb P) (hb : b < nb P) (s1 s2 : Int32) (q1 : ∀ c, c < nb P → bt s1 c = inR P S (rt P (sCl S) a) c) (q2 : ∀ c, c < nb P → bt s2 c = inR P S (rt P (sCl S) b) c) : Mo_bothF s1 s2 (nI a) (nI b) hm = some (jF P S (rt P (sCl S) a) (rt P (sCl S) b)) := by
  have n2 : nb P ≤ 6 := hk.1.2
  have fa : hm 7 a = sF S (rt P (sCl S) a) := (hR2.2.1 a ha).1
  have fb' : hm 7 b = sF S (rt P (sCl S) b) := (hR2.2.1 b hb).1
  have p1 : Mo_plants s1 3 hm = some (sHv P S (rt P (sCl S) a)) := by
    rw [mplants_eq hM hk hP _ 3 (P 6) (Or.inr (Or.inr (Or.inr ⟨rfl, rfl⟩)))]
    exact congrArg some (pSum_congr (fun p hp => q1 _ (hP p hp).1.2) (fun _ _ _ => rfl))
  have p2 : Mo_plants s2 3 hm = some (sHv P S (rt P (sCl S) b)) := by
    rw [mplants_eq hM hk hP _ 3 (P 6) (Or.inr (Or.inr (Or.inr ⟨rfl, rfl⟩)))]
    exact congrArg some (pSum_congr (fun p hp => q2 _ (hP p hp).1.2) (fun _ _ _ => rfl))
  unfold Mo_bothF jF
  rw [p1, p2]
  simp only [Option.bind_some]
  rw [zr_nI (show a < 67 by omega) (by omega), zr_nI (show b < 67 by omega) (by omega), nI_clamp (show a < 2 ^ 31 by omega), nI_clamp (show b < 2 ^ 31 by omega), fa, fb']
  simp only [gd_true]
  rw [zlet_n]
  generalize sHv P S (rt P (sCl S) a) = x
  generalize sHv P S (rt P (sCl S) b) = y
  generalize sF S (rt P (sCl S) a) = u
  generalize sF S (rt P (sCl S) b) = v
  by_cases h1 : u = 0
  · rw [if_pos h1, if_pos h1, h1, Int32.zero_add]
  · rw [if_neg h1, if_neg h1]
    by_cases h2 : v = 0
    · rw [if_pos h2, if_pos h2, h2, Int32.add_zero]
    · rw [if_neg h2, if_neg h2]
      by_cases h3 : x + y = 0
      · rw [if_pos h3, if_pos h3, zmin_sy, zmin_if]
        by_cases h4 : v ≤ u
        · rw [if_pos h4, if_pos h4]
        · rw [if_neg h4, if_neg h4]
      · rw [if_neg h3, if_neg h3, show decide (¬ x + y = 0) = true from decide_eq_true h3, gd_true]
theorem joins_eq {P hm : zH} {S : St} {a b : Nat} (hM : PM P hm) (hk : okN P) (hl : okL P) (hP : okP P) (hR2 : RepM P (hm 7) S) (ha : a < nb P) (hb : b < nb P) (hne : rt P (sCl S) a ≠ rt P (sCl S) b) : ∃ row, Mo_joins (nI a) (nI b) hm = some (setc hm 7 row) ∧ (∀ j, 42 ≤ j → row j = hm 7 j) ∧ ∀ c, c < nb P → row c = (if rt P (sCl S) c = rt P (sCl S) a ∨ rt P (sCl S) c = rt P (sCl S) b then jF P S (rt P (sCl S) a) (rt P (sCl S) b) else hm 7 c) ∧ ∀ t, t < 6 → row (6 + 6 * c + t) = if rt P (sCl S) c = rt P (sCl S) a ∨ rt P (sCl S) c = rt P (sCl S) b then jC S (rt P (sCl S) a) (rt P (sCl S) b) t else hm 7 (6 + 6 * c + t) := by
  have n2 : nb P ≤ 6 := hk.1.2
  obtain ⟨fa, ca⟩ := hR2.2.1 a ha
  obtain ⟨fb', cb⟩ := hR2.2.1 b hb
  have q1 : ∀ c, c < nb P → bt (bset (inR P S (rt P (sCl S) a)) (nb P)) c = inR P S (rt P (sCl S) a) c := fun c hc => bset_R hk S _ hc
  have q2 : ∀ c, c < nb P → bt (bset (inR P S (rt P (sCl S) b)) (nb P)) c = inR P S (rt P (sCl S) b) c := fun c hc => bset_R hk S _ hc
  have b1 : Mo_busesOf (nI a) hm = some (bset (inR P S (rt P (sCl S) a)) (nb P)) := by rw [busesOf_eq hM hk hl ha, hR2.1]
  have b2 : Mo_busesOf (nI b) hm = some (bset (inR P S (rt P (sCl S) b)) (nb P)) := by rw [busesOf_eq hM hk hl hb, hR2.1]
  have hsne : ¬ bset (inR P S (rt P (sCl S) a)) (nb P) = bset (inR P S (rt P (sCl S) b)) (nb P) := fun e => by
    have e1 := q1 a ha
    rw [e, q2 a ha] at e1
    simp at e1
    exact hne e1
  have q3 : ∀ c, c < nb P → (bt (bset (inR P S (rt P (sCl S) a)) (nb P) ||| bset (inR P S (rt P (sCl S) b)) (nb P)) c = true ↔ (rt P (sCl S) c = rt P (sCl S) a ∨ rt P (sCl S) c = rt P (sCl S) b)) := fun c hc => by
    rw [b_or, q1 c hc, q2 c hc]; simp
  unfold Mo_joins
  rw [b1, b2, Option.bind_some, Option.bind_some, if_neg hsne, bothF_eq hM hk hP hR2 ha hb _ _ q1 q2, Option.bind_some]
  generalize bset (inR P S (rt P (sCl S) a)) (nb P) = s1 at q3
  generalize bset (inR P S (rt P (sCl S) b)) (nb P) = s2 at q3
  generalize hA : rt P (sCl S) a = A at *
  generalize hB : rt P (sCl S) b = B at *
  refine exists_step (loop_ex (fun n x s => Mo_joins_L34 (nI a) (nI b) s1 s2 (fun h_3 => (Mo_frequency (s1 ||| s2) (jF P S A B) h_3).bind fun h_4 => some h_4) n x s) (fun h_3 => (Mo_frequency (s1 ||| s2) (jF P S A B) h_3).bind fun h_4 => some h_4) (fun i s => ∃ row, s = setc hm 7 row ∧ (∀ j, (j < 6 ∨ 42 ≤ j) → row j = hm 7 j) ∧ ∀ c, c < nb P → ∀ t, t < 6 → row (6 + 6 * c + t) = if t < i ∧ (rt P (sCl S) c = A ∨ rt P (sCl S) c = B) then jC S A B t else hm 7 (6 + 6 * c + t)) 6 ?_ ?_ 6 0 1000 hm (by omega) (by omega) ⟨hm 7, setc_self.symm, fun _ _ => rfl, fun c hc t ht => by rw [if_neg (by omega)]⟩) ?_
  · rintro n i s hi ⟨row, rfl, g1, g2⟩
    have e7 : setc hm 7 row 7 = row := setc_eq
    have hMs : PM P (setc hm 7 row) := hM.of Mfr.s7
    have ra : row a = sF S A := by rw [g1 a (by omega)]; exact fa
    have rb : row b = sF S B := by rw [g1 b (by omega)]; exact fb'
    have rca : row (6 + 6 * a + i) = sC S A i := by rw [g2 a ha i hi, if_neg (by omega)]; exact ca i hi
    have rcb : row (6 + 6 * b + i) = sC S B i := by rw [g2 b hb i hi, if_neg (by omega)]; exact cb i hi
    have step : ∃ s', (∃ row, s' = setc hm 7 row ∧ (∀ j, (j < 6 ∨ 42 ≤ j) → row j = hm 7 j) ∧ ∀ c, c < nb P → ∀ t, t < 6 → row (6 + 6 * c + t) = if t < i + 1 ∧ (rt P (sCl S) c = A ∨ rt P (sCl S) c = B) then jC S A B t else hm 7 (6 + 6 * c + t)) ∧ ((Mo_counts (s1 ||| s2) (nI i) (jC S A B i) (setc hm 7 row)).bind fun h_2 => Mo_joins_L34 (nI a) (nI b) s1 s2 (fun h_3 => (Mo_frequency (s1 ||| s2) (jF P S A B) h_3).bind fun h_4 => some h_4) n (nI i + 1) h_2) = Mo_joins_L34 (nI a) (nI b) s1 s2 (fun h_3 => (Mo_frequency (s1 ||| s2) (jF P S A B) h_3).bind fun h_4 => some h_4) n (nI (i + 1)) s' := by
      rw [mcounts_eq hMs hk _ _ hi, Option.bind_some, nI_1, setc_eq, setc_setc]
      refine ⟨_, ⟨_, rfl, fun j hj => ?_, fun c hc t ht => ?_⟩, rfl⟩
      · rw [show rowC P (bt (s1 ||| s2)) i (jC S A B i) (nb P) row j = row j by unfold rowC; exact if_neg (by omega)]; exact g1 j hj
      · have e1 : (6 + 6 * c + t - 6) / 6 = c := by omega
        have e2 : (6 + 6 * c + t - 6) % 6 = t := by omega
        have e3 : 6 ≤ 6 + 6 * c + t := by omega
        have e4 : 6 + 6 * c + t < 6 + 6 * nb P := by omega
        have e5 : rowC P (bt (s1 ||| s2)) i (jC S A B i) (nb P) row (6 + 6 * c + t) = if t = i ∧ bt (s1 ||| s2) c = true then jC S A B i else row (6 + 6 * c + t) := by
          unfold rowC
          rw [e1, e2]
          simp only [e3, e4, true_and]
        rw [e5]
        by_cases h1 : t = i ∧ bt (s1 ||| s2) c = true
        · rw [if_pos h1, if_pos ⟨by omega, (q3 c hc).mp h1.2⟩, h1.1]
        · rw [if_neg h1, g2 c hc t ht]
          by_cases h2 : t < i ∧ (rt P (sCl S) c = A ∨ rt P (sCl S) c = B)
          · rw [if_pos h2, if_pos ⟨by omega, h2.2⟩]
          · rw [if_neg h2, if_neg (fun h3 => by
              by_cases h4 : t = i
              · exact h1 ⟨h4, (q3 c hc).mpr h3.2⟩
              · exact h2 ⟨by omega, h3.2⟩)]
    rw [Mo_joins_L34, if_neg (show ¬ (6 : Int32) ≤ nI i from nI_lt_of (e := 6) hi (by omega)), e7, m6, m6, p6, p6, nI_add, nI_add, zr_nI (show a < 67 by omega) (by omega), zr_nI (show b < 67 by omega) (by omega), zr_nI (show 6 + 6 * a + i < 67 by omega) (by omega), zr_nI (show 6 + 6 * b + i < 67 by omega) (by omega), nI_clamp (show a < 2 ^ 31 by omega), nI_clamp (show b < 2 ^ 31 by omega), nI_clamp (show 6 + 6 * a + i < 2 ^ 31 by omega), nI_clamp (show 6 + 6 * b + i < 2 ^ 31 by omega), ra, rb, rca, rcb]
    rw [gd_true, zlet_n (α := Int32 → Option zH)]
    rw [gd_true, gd_true, gd_true]
    by_cases z1 : sF S A = 0
    · by_cases z2 : sF S B = 0
      · rw [if_pos z1, if_pos z2]
        rw [show jC S A B i = 0 by unfold jC; rw [if_pos z1, if_pos z2]] at step
        exact step
      · rw [if_pos z1, if_neg z2]
        rw [show jC S A B i = sC S B i by unfold jC; rw [if_pos z1, if_neg z2]] at step
        exact step
    · by_cases z2 : sF S B = 0
      · rw [if_neg z1, if_pos z2]
        rw [show jC S A B i = sC S A i by unfold jC; rw [if_neg z1, if_pos z2]] at step
        exact step
      · rw [if_neg z1, if_neg z2]
        rw [show jC S A B i = 0 by unfold jC; rw [if_neg z1, if_neg z2]] at step
        exact step
  · rintro n s ⟨row, rfl, g1, g2⟩
    rw [Mo_joins_L34]
    exact if_pos (nI_le_rf 6)
  · rintro ⟨s, ⟨row, rfl, g1, g2⟩, g3⟩
    have hMs : PM P (setc hm 7 row) := hM.of Mfr.s7
    rw [mfreq_eq hMs hk, Option.bind_some, setc_eq, setc_setc] at g3
    refine ⟨_, g3, fun j hj => ?_, fun c hc => ⟨?_, fun t ht => ?_⟩⟩
    · try dsimp only
      rw [if_neg (by omega)]; exact g1 j (Or.inr hj)
    · try dsimp only
      by_cases h1 : bt (s1 ||| s2) c = true
      · rw [if_pos ⟨hc, h1⟩, if_pos ((q3 c hc).mp h1)]
      · rw [if_neg (fun q => h1 q.2), if_neg (fun q => h1 ((q3 c hc).mpr q))]; exact g1 c (Or.inl (by omega))
    · try dsimp only
      rw [if_neg (by omega), g2 c hc t ht]
      by_cases h1 : rt P (sCl S) c = A ∨ rt P (sCl S) c = B
      · rw [if_pos ⟨ht, h1⟩, if_pos h1]
      · rw [if_neg (fun q => h1 q.2), if_neg h1]
