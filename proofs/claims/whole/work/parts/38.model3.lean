theorem mfollow_eq {P hm : zH} {S : St} (hM : PM P hm) (hk : okN P) (hP : okP P) (hR : RepM P (hm 7) S) (set aim : Int32) (q : Nat → Bool) (hq : ∀ c, c < nb P → bt set c = q c) : ∃ row', Mo_follow set aim hm = some (setc hm 7 row') ∧ RepM P row' (wG S (flw P q aim (sG S))) := by
  have n2 : nb P ≤ 6 := hk.1.2
  have n4 : np P ≤ 6 := hk.2.2.1.2
  have n3 : hm 2 2 = nI (np P) := by rw [hM.1 2 (by omega)]; exact hk.2.2.1.1
  unfold Mo_follow
  refine exists_step (loop_ex (fun n x s => Mo_follow_L2 set aim (fun h_5 => some h_5) n x s) (fun h => some h) (fun i s => ∃ row', s = setc hm 7 row' ∧ RepM P row' (wG S (itr (flw1 P q aim) 0 i (sG S)))) (np P) ?_ ?_ (np P) 0 1000 hm (by omega) (by omega) ⟨hm 7, setc_self.symm, hR⟩) ?_
  · rintro n i s hi ⟨row, rfl, h1⟩
    have hM1 : PM P (setc hm 7 row) := hM.of Mfr.s7
    obtain ⟨q1, q2, q3, q4⟩ := hM1.2.2.1 i hi
    obtain ⟨⟨f1, f2⟩, -⟩ := hP i hi
    have hn : ¬ np P ≤ i := by omega
    have n3' : setc hm 7 row 2 2 = nI (np P) := by rw [setc_ne (by omega)]; exact n3
    have hg : ∀ p, p < np P → row (44 + p) = itr (flw1 P q aim) 0 i (sG S) p := h1.2.2.1
    have hps : Mo_plants set 0 (setc hm 7 row) = some (pSum P (itr (flw1 P q aim) 0 i (sG S)) q) := by
      rw [mplants_eq hM1 hk hP set 0 (fun p => setc hm 7 row 7 (44 + p)) (Or.inl ⟨rfl, rfl⟩)]
      congr 1
      refine pSum_congr (fun p hp => hq _ (hP p hp).1.2) (fun p hp _ => ?_)
      rw [setc_eq]; exact hg p hp
    have e9 : itr (flw1 P q aim) 0 (i + 1) (sG S) = flw1 P q aim i (itr (flw1 P q aim) 0 i (sG S)) := by rw [itr_snoc, Nat.zero_add]
    rw [e9]
    generalize itr (flw1 P q aim) 0 i (sG S) = gv at h1 hg hps
    refine ⟨setc hm 7 (if q (pb P i) then upd row (44 + i) (newg (gv i) (P 4 i) (P 5 i) (aim - pSum P gv q)) else row), ⟨_, rfl, ?_⟩, ?_⟩
    · unfold flw1
      cases hqi : q (pb P i)
      · simpa using h1
      · simp only [if_true]
        exact h1.G hk hi _
    · rw [Mo_follow_L2]
      simp (disch := omega) only [m2, m3, m4, m6, m67, a1, a2, a3, p6, p44, p51, p60, nI_add, nI_clamp, zr_nI, gd_true, zlet, Option.bind_some, mhas_eq, has_eq, nI_leI, nI_ltI, nI_eq, n3', hn, if_false, q1]
      rw [f1]
      simp (disch := omega) only [m2, m3, m4, m6, m67, a1, a2, a3, p6, p44, p51, p60, nI_add, nI_clamp, zr_nI, gd_true, zlet, Option.bind_some, mhas_eq, has_eq, nI_leI, nI_ltI, nI_eq, hq _ f2, hps, q2, q3, setc_eq, hg i hi, upd2_c, setc_setc]
      cases hqi : q (pb P i)
      · simp [b2i]
      · rw [if_neg (show ¬ b2i true = 0 by decide), if_pos rfl]
        unfold newg
        by_cases c1 : aim - pSum P gv q ≤ P 5 i
        · by_cases c2 : -P 5 i ≤ aim - pSum P gv q
          · rw [if_pos c1, if_pos c2, if_pos c1, if_pos c2]
            dsimp only
            split
            · split <;> rfl
            · rfl
          · rw [if_pos c1, if_neg c2, if_pos c1, if_neg c2]
            dsimp only
            split
            · split <;> rfl
            · rfl
        · rw [if_neg c1, if_neg c1]
          dsimp only
          split
          · split <;> rfl
          · rfl
  · rintro n s ⟨row, rfl, h1⟩
    rw [Mo_follow_L2, setc_ne (by omega), n3, if_pos (nI_le_rf _)]
  · rintro ⟨s', ⟨row, rfl, h1⟩, h2⟩
    exact ⟨row, h2, h1⟩
theorem bset_R {P : zH} (hk : okN P) (S : St) (r : Nat) {c : Nat} (hc : c < nb P) : bt (bset (fun c => decide (rt P (sCl S) c = r)) (nb P)) c = inR P S r c := by
  have n2 : nb P ≤ 6 := hk.1.2
  rw [bt_bset _ _ (by omega)]; simp [hc]
theorem mdark_eq {P hm : zH} {S : St} (hM : PM P hm) (hk : okN P) (hP : okP P) (hF : okF P) (hR : RepM P (hm 7) S) (hO : okO P (sOn S) (sOff S)) (r : Nat) : ∃ hm', Mo_goesDark (bset (inR P S r) (nb P)) hm = some hm' ∧ MS P hm hm' (sDark P S r) (dl P (sOn S) (selR P S r)) 0 := by
  have n2 : nb P ≤ 6 := hk.1.2
  have n4 : np P ≤ 6 := hk.2.2.1.2
  generalize hset : bset (inR P S r) (nb P) = set
  have hq : ∀ c, c < nb P → bt set c = inR P S r c := fun c hc => by rw [← hset]; exact bset_R hk S r hc
  unfold Mo_goesDark
  rw [mfreq_eq hM hk, Option.bind_some]
  have h1 : MS P hm (setc hm 7 (fun i => if i < nb P ∧ bt set i = true then 0 else hm 7 i)) (wF S (upF (sF S) r 0)) [] 0 := MS.s7 (hR.F hk 0 hq)
  generalize setc hm 7 (fun i => if i < nb P ∧ bt set i = true then 0 else hm 7 i) = hm1 at h1
  have hM1 : PM P hm1 := hM.of h1.1
  obtain ⟨hm2, e2, h2⟩ := mdropAll_eq hM1 hk hF h1.2.1 hO set (-1) (selR P S r) (fun f hf => by rw [hq _ (hF f hf).1.2]; simp)
  rw [e2, Option.bind_some]
  have hM2 : PM P hm2 := hM1.of h2.1
  have n3 : hm2 2 2 = nI (np P) := by rw [hM2.1 2 (by omega)]; exact hk.2.2.1.1
  refine exists_step (loop_ex (fun n x s => Mo_goesDark_L15 set (fun h_5 => some h_5) n x s) (fun h => some h) (fun i s => ∃ row', s = setc hm2 7 row' ∧ RepM P row' (wG (sDrop P (wF S (upF (sF S) r 0)) (selR P S r)) (fun p => if inR P S r (pb P p) && decide (p < i) then 0 else sG S p))) (np P) ?_ ?_ (np P) 0 1000 hm2 (by omega) (by omega) ⟨hm2 7, setc_self.symm, by
    have e0 : (fun p => if inR P S r (pb P p) && decide (p < 0) then 0 else sG S p) = sG S := by funext p; simp
    rw [e0]; exact h2.2.1⟩) ?_
  · rintro n i s hi ⟨row, rfl, g1⟩
    have hM3 : PM P (setc hm2 7 row) := hM2.of Mfr.s7
    obtain ⟨q1, q2, q3, q4⟩ := hM3.2.2.1 i hi
    obtain ⟨⟨f1, f2⟩, -⟩ := hP i hi
    have hn : ¬ np P ≤ i := by omega
    have n3' : setc hm2 7 row 2 2 = nI (np P) := by rw [setc_ne (by omega)]; exact n3
    refine ⟨setc hm2 7 (upd row (44 + i) (if inR P S r (pb P i) then 0 else row (44 + i))), ⟨_, rfl, ?_⟩, ?_⟩
    · have g2 := g1.G hk hi (if inR P S r (pb P i) then 0 else row (44 + i))
      have e5 : upd (fun p => if inR P S r (pb P p) && decide (p < i) then 0 else sG S p) i (if inR P S r (pb P i) then 0 else row (44 + i)) = (fun p => if inR P S r (pb P p) && decide (p < i + 1) then 0 else sG S p) := by
        funext p
        by_cases e : p = i
        · subst e
          rw [upd_eq, g1.2.2.1 p hi]
          show (if inR P S r (pb P p) = true then 0 else if (inR P S r (pb P p) && decide (p < p)) = true then 0 else sG S p) = _
          cases inR P S r (pb P p) <;> simp
        · have : (p < i + 1) ↔ (p < i) := by omega
          rw [upd_ne e]; simp [this]
      rw [← e5]
      exact g2
    · rw [Mo_goesDark_L15]
      simp (disch := omega) only [m2, m3, m4, m6, m67, a1, a2, a3, p6, p44, p51, p60, nI_add, nI_clamp, zr_nI, gd_true, zlet, Option.bind_some, mhas_eq, has_eq, nI_leI, nI_ltI, nI_eq, n3', hn, if_false, q1]
      rw [f1]
      simp (disch := omega) only [m2, m3, m4, m6, m67, a1, a2, a3, p6, p44, p51, p60, nI_add, nI_clamp, zr_nI, gd_true, zlet, Option.bind_some, mhas_eq, has_eq, nI_leI, nI_ltI, nI_eq, hq _ f2, setc_eq, upd2_c, setc_setc]
      by_cases e : rt P (sCl S) (pb P i) = r
      · simp [e, b2i]
      · simp [e, b2i]
  · rintro n s ⟨row, rfl, g1⟩
    rw [Mo_goesDark_L15, setc_ne (by omega), n3, if_pos (nI_le_rf _)]
  · rintro ⟨s', ⟨row, rfl, g1⟩, g2⟩
    refine ⟨_, g2, ?_⟩
    have h3 : MS P hm2 (setc hm2 7 row) (sDark P S r) [] 0 := MS.s7 (by
      have e0 : sDark P S r = wG (sDrop P (wF S (upF (sF S) r 0)) (selR P S r)) (fun p => if inR P S r (pb P p) && decide (p < np P) then 0 else sG S p) ∨ True := Or.inr trivial
      obtain ⟨a1, a2, a3, a4, a5, a6⟩ := g1
      refine ⟨a1, a2, fun p hp => ?_, a4, a5, a6⟩
      rw [a3 p hp]
      show (if (inR P S r (pb P p) && decide (p < np P)) = true then 0 else sG S p) = (if inR P S r (pb P p) = true then 0 else sG S p)
      simp [hp])
    have h4 := (h1.tr h2).tr h3
    simpa using h4
/-- the latest of the FEEDERS that are off and fit -/
theorem mfit_loop {P hm : zH} {S : St} (hM : PM P hm) (hk : okN P) (hF : okF P) (hR : RepM P (hm 7) S) (hO : okO P (sOn S) (sOff S)) (r : Nat) (set room : Int32) (hq : ∀ c, c < nb P → bt set c = inR P S r c) : ∀ (j n : Nat), j ≤ (sOff S).length → j < n → Mo_fitting_L23 set hm room (fun x => some x) (some (-4)) n (nI j - 1) = some (match ((sOff S).take j).reverse.find? (fun f => selR P S r f && !(decide (room < P 8 f))) with
    | none => -4
    | some f => nI f)
  | 0, n, _, hn => by
    obtain ⟨n, rfl⟩ : ∃ m, n = m + 1 := ⟨n - 1, by omega⟩
    rw [Mo_fitting_L23, if_pos (by decide)]
    rfl
  | j + 1, n, hj, hn => by
    obtain ⟨n, rfl⟩ : ∃ m, n = m + 1 := ⟨n - 1, by omega⟩
    have n4 : nf P ≤ 9 := hk.2.2.2.1.2
    have n2 : nb P ≤ 6 := hk.1.2
    have hlen := hO.len
    have ih := mfit_loop hM hk hF hR hO r set room hq j n (by omega) (by omega)
    have hj2 : (sOff S)[j]? = some (sOff S)[j] := List.getElem?_eq_getElem (by omega)
    generalize (sOff S)[j] = f at hj2
    have hfm : f ∈ sOff S := List.mem_of_getElem? hj2
    have hf := hO.2.1 f hfm
    have hrow : hm 7 (51 + j) = nI f := hR.2.2.2.1.2.2 j f hj2
    obtain ⟨q1, q2, q3⟩ := hM.2.2.2.1 f hf
    obtain ⟨⟨f1, f2⟩, -⟩ := hF f hf
    have et : ((sOff S).take (j + 1)).reverse = f :: ((sOff S).take j).reverse := by
      rw [List.take_add_one, hj2]; simp
    rw [Mo_fitting_L23, nI_pred, if_neg (nI_pos (by omega))]
    simp (disch := omega) only [m2, m3, m4, m6, m67, a1, a2, a3, p6, p44, p51, p60, nI_add, nI_clamp, zr_nI, gd_true, zlet, Option.bind_some, mhas_eq, has_eq, nI_leI, nI_ltI, nI_eq, hrow, q1, q2]
    rw [f1]
    simp (disch := omega) only [m2, m3, m4, m6, m67, a1, a2, a3, p6, p44, p51, p60, nI_add, nI_clamp, zr_nI, gd_true, zlet, Option.bind_some, mhas_eq, has_eq, nI_leI, nI_ltI, nI_eq, hq _ f2]
    rw [et, List.find?_cons]
    rw [show nI j + -1 = nI j - 1 from (Int32.sub_eq_add_neg _ _).symm, ih]
    by_cases e : rt P (sCl S) (fb P f) = r
    · have hs : selR P S r f = true := decide_eq_true e
      by_cases e2 : room < P 8 f
      · simp [e, hs, e2, b2i]
      · simp [e, hs, e2, b2i]
    · have hs : selR P S r f = false := decide_eq_false e
      simp [e, hs, b2i]
theorem mfit_eq {P hm : zH} {S : St} (hM : PM P hm) (hk : okN P) (hP : okP P) (hF : okF P) (hR : RepM P (hm 7) S) (hO : okO P (sOn S) (sOff S)) (r : Nat) (set : Int32) (hq : ∀ c, c < nb P → bt set c = inR P S r c) : Mo_fitting set hm = some (match (sOff S).reverse.find? (fun f => selR P S r f && !(decide (sCap P S r - sLoad P S r < P 8 f))) with
    | none => -4
    | some f => nI f) := by
  have n4 : nf P ≤ 9 := hk.2.2.2.1.2
  have hlen := hO.len
  unfold Mo_fitting
  rw [mplants_eq hM hk hP set 1 (P 4) (Or.inr (Or.inr (Or.inl ⟨rfl, rfl⟩))), Option.bind_some, mload_eq hM hk hF, Option.bind_some]
  have e1 : pSum P (P 4) (bt set) = sCap P S r := pSum_congr (fun p hp => hq _ (hP p hp).1.2) (fun _ _ _ => rfl)
  have e2 : pLoad P (bt (hm 7 42)) (bt set) = sLoad P S r := pLoad_congr (fun f hf => hq _ (hF f hf).1.2) (fun f hf _ => by rw [hR.2.2.2.1.1 f]; simp [hf])
  rw [e1, e2]
  simp only [zlet]
  rw [hR.2.2.2.1.2.1, mfit_loop hM hk hF hR hO r set _ hq (sOff S).length 1000 (Nat.le_refl _) (by omega), List.take_length]
/-- a FEEDER comes out of the list -/
theorem filter_cut {f : Nat} {A B : List Nat} (h : (A ++ f :: B).Nodup) : (A ++ f :: B).filter (fun x => !(x == f)) = A ++ B := by
  rw [List.nodup_append] at h
  obtain ⟨h1, h2, h3⟩ := h
  rw [List.nodup_cons] at h2
  rw [List.filter_append, List.filter_cons_of_neg (by simp)]
  congr 1
  · refine List.filter_eq_self.mpr (fun x hx => ?_)
    have := h3 x hx f List.mem_cons_self
    simpa using this
  · refine List.filter_eq_self.mpr (fun x hx => ?_)
    have : x ≠ f := fun e => h2.1 (e ▸ hx)
    simpa using this
theorem okO_put {P : zH} {on : Nat → Bool} {off : List Nat} (h : okO P on off) {f : Nat} : okO P (fun x => if x = f then true else on x) (off.filter (fun x => !(x == f))) := by
  obtain ⟨h1, h2, h3⟩ := h
  refine ⟨h1.filter _, fun x hx => h2 x (List.mem_filter.mp hx).1, fun x hx => ?_⟩
  rw [List.mem_filter, h3 x hx]
  by_cases e : x = f <;> simp [e]
theorem rpO_put {P : zH} {bits : Int32} {n : Int32} {row row' : Nat → Int32} {on : Nat → Bool} {f : Nat} {A B : List Nat} (hk : okN P) (h : rpO P bits n row on (A ++ f :: B)) (hd : (A ++ f :: B).Nodup) (hf : f < nf P) (h1 : ∀ i, i < A.length → row' i = row i) (h2 : ∀ i, A.length ≤ i → i < (A ++ B).length → row' i = row (i + 1)) : rpO P (bits ||| zshl 1 (nI f)) (nI (A ++ B).length) row' (fun x => if x = f then true else on x) ((A ++ f :: B).filter (fun x => !(x == f))) := by
  have n4 : nf P ≤ 9 := hk.2.2.2.1.2
  rw [filter_cut hd]
  refine ⟨fun x => ?_, rfl, fun i x hi => ?_⟩
  · rw [b_or, h.1, bt_one (by omega)]
    by_cases e : x = f
    · subst e; simp [hf]
    · simp [e]
  · have hl := (List.getElem?_eq_some_iff.mp hi).1
    rcases Nat.lt_or_ge i A.length with q | q
    · rw [h1 i q]
      refine h.2.2 i x ?_
      rw [List.getElem?_append_left q] at hi ⊢
      exact hi
    · rw [h2 i q hl]
      refine h.2.2 (i + 1) x ?_
      rw [List.getElem?_append_right q] at hi
      rw [List.getElem?_append_right (by omega), show i + 1 - A.length = (i - A.length) + 1 by omega, List.getElem?_cons_succ]
      exact hi
theorem mon_eq {P hm : zH} {S : St} (hk : okN P) (hR : RepM P (hm 7) S) (hO : okO P (sOn S) (sOff S)) {f : Nat} (hf : f ∈ sOff S) : ∃ row', Mo_on (nI f) hm = some (setc hm 7 row') ∧ RepM P row' (sPut S f) := by
  have n4 : nf P ≤ 9 := hk.2.2.2.1.2
  have hlen := hO.len
  have hfl := hO.2.1 f hf
  obtain ⟨A, B, hAB⟩ := List.append_of_mem hf
  have hd := hO.1
  have hrow := hR.2.2.2.1
  rw [hAB] at hd hrow hlen
  simp only [List.length_append, List.length_cons] at hlen
  have hA : ∀ i, i < A.length → ¬ hm 7 (51 + i) = nI f := by
    intro i hi e
    have hi2 : (A ++ f :: B)[i]? = some A[i] := by rw [List.getElem?_append_left hi, List.getElem?_eq_getElem hi]
    have h1 : hm 7 (51 + i) = nI A[i] := hrow.2.2 i _ hi2
    have h2 : A[i] ∈ A := List.getElem_mem hi
    rw [List.nodup_append] at hd
    have h3 := hd.2.2 _ h2 f List.mem_cons_self
    have h4 : A[i] < nf P := hO.2.1 _ (by rw [hAB]; exact List.mem_append_left _ h2)
    rw [h1] at e
    exact h3 ((nI_eq (by omega) (by omega)).mp e)
  have hAt : hm 7 (51 + A.length) = nI f := hrow.2.2 A.length f (by rw [List.getElem?_append_right (Nat.le_refl _)]; simp)
  unfold Mo_on
  have find : ∀ (k : Int32 → Option zH) (c i n : Nat), i + c = A.length → c < n → Mo_on_L2 (nI f) hm k n (nI i) = k (nI A.length) := by
    intro k c
    induction c with
    | zero =>
      intro i n h1 h2
      obtain ⟨n, rfl⟩ : ∃ m, n = m + 1 := ⟨n - 1, by omega⟩
      have : i = A.length := by omega
      subst this
      rw [Mo_on_L2]
      simp (disch := omega) only [m2, m3, m4, m6, m67, a1, a2, a3, p6, p44, p51, p60, nI_add, nI_clamp, zr_nI, gd_true, zlet, Option.bind_some, mhas_eq, has_eq, nI_leI, nI_ltI, nI_eq, hAt, if_true]
    | succ c ih =>
      intro i n h1 h2
      obtain ⟨n, rfl⟩ : ∃ m, n = m + 1 := ⟨n - 1, by omega⟩
      rw [Mo_on_L2]
      simp (disch := omega) only [m2, m3, m4, m6, m67, a1, a2, a3, p6, p44, p51, p60, nI_add, nI_clamp, zr_nI, gd_true, hA i (by omega), if_false]
      exact ih (i + 1) n (by omega) (by omega)
  rw [show (0 : Int32) = nI 0 from rfl, find _ A.length 0 1000 (by omega) (by omega)]
  simp only [zlet]
  have h50 : hm 7 50 - 1 = nI (A ++ B).length := by rw [hrow.2.1]; simp only [List.length_append, List.length_cons]; exact nI_pred _
  rw [h50, upd2_c]
  refine exists_step (loop_ex (fun n x s => Mo_on_L34 (fun h_4 => some (upd2 h_4 7 42 (h_4 7 42 ||| zshl 1 (nI f)))) n x s) (fun h_4 => some (upd2 h_4 7 42 (h_4 7 42 ||| zshl 1 (nI f)))) (fun i s => ∃ row', s = setc hm 7 row' ∧ A.length ≤ i ∧ row' 50 = nI (A ++ B).length ∧ (∀ j, (j < 50 ∨ 60 ≤ j) → row' j = hm 7 j) ∧ (∀ j, j < A.length → row' (51 + j) = hm 7 (51 + j)) ∧ (∀ j, A.length ≤ j → j < i → row' (51 + j) = hm 7 (51 + (j + 1))) ∧ (∀ j, i ≤ j → row' (51 + j) = hm 7 (51 + j))) (A ++ B).length ?_ ?_ B.length A.length 1000 (setc hm 7 (upd (hm 7) 50 (nI (A ++ B).length))) (by simp) (by omega) ⟨_, rfl, Nat.le_refl _, upd_eq, fun j hj => upd_ne (by omega), fun j hj => upd_ne (by omega), fun j h1 h2 => by omega, fun j hj => upd_ne (by omega)⟩) ?_
  · rintro n i s hi ⟨row, rfl, g0, g1, g2, g3, g4, g5⟩
    simp only [List.length_append] at hi
    have hn : ¬ (A ++ B).length ≤ i := by simp; omega
    refine ⟨setc hm 7 (upd row (51 + i) (row (51 + i + 1))), ⟨_, rfl, by omega, ?_, fun j hj => ?_, fun j hj => ?_, fun j h1 h2 => ?_, fun j hj => ?_⟩, ?_⟩
    · rw [upd_ne (by omega)]; exact g1
    · rw [upd_ne (by omega)]; exact g2 j hj
    · rw [upd_ne (by omega)]; exact g3 j hj
    · by_cases e : j = i
      · subst e; rw [upd_eq]; exact g5 (j + 1) (by omega)
      · rw [upd_ne (by omega)]; exact g4 j h1 (by omega)
    · rw [upd_ne (by omega)]; exact g5 j (by omega)
    · rw [Mo_on_L34]
      have g1' : setc hm 7 row 7 50 = nI (A ++ B).length := by rw [setc_eq]; exact g1
      rw [g1', if_neg (nI_lt_of (by simp; omega) (by simp; omega))]
      simp (disch := omega) only [m2, m3, m4, m6, m67, a1, a2, a3, p6, p44, p51, p60, nI_add, nI_clamp, zr_nI, gd_true, zlet, setc_eq, upd2_c, setc_setc]
  · rintro n s ⟨row, rfl, -, g1, -⟩
    have g1' : setc hm 7 row 7 50 = nI (A ++ B).length := by rw [setc_eq]; exact g1
    rw [Mo_on_L34, g1', if_pos (nI_le_rf _)]
  · rintro ⟨s', ⟨row, rfl, -, g1, g2, g3, g4, g5⟩, h2⟩
    refine ⟨upd row 42 (row 42 ||| zshl 1 (nI f)), h2.trans (by rw [upd2_c, setc_eq, setc_setc]), ?_⟩
    refine hR.O hk (fun i hi => ?_) ?_
    · rw [upd_ne (by omega)]; exact g2 i (by omega)
    · rw [upd_eq, upd_ne (by omega), g1, g2 42 (by omega), hAB]
      refine rpO_put hk hrow hd hfl (fun i hi => ?_) (fun i h3 h4 => ?_)
      · show upd row 42 _ (51 + i) = _
        rw [upd_ne (by omega)]; exact g3 i hi
      · show upd row 42 _ (51 + i) = _
        rw [upd_ne (by omega)]; exact g4 i h3 h4
