theorem zlet_eq {α ρ : Type} (e : α) (f : α → Option ρ) : zlet e f = f e := rfl
/-- the end of an ISLAND's TICK in the reference -/
def bkK (x1 r x3_1 : Int32) (h_7 : zH) : Option zH :=
        zlet (fun (v226 : Int32) =>
          zlet (fun (v249 : Int32) =>
            zlet (fun (v267 : Int32) =>
              (Mo_counts r 0 v267 h_7).bind fun h_8 =>
              if v249 = (-4) then (
               some h_8)
              else (
               (Mo_on v249 h_8).bind fun h_9 =>
               zlet (upd2 h_9 0 15 ((h_9 0 15) + 1)) fun h_10 =>
               some h_10)) fun j267 =>
            if v249 = (-4) then (
             j267 v226)
            else (
             j267 0)) fun j249 =>
          if v226 < (h_7 6 1) then (
           j249 (-4))
          else (
           (Mo_fitting r h_7).bind fun r_4 =>
           j249 r_4)) fun j226 =>
        if x3_1 < (h_7 7 60) then (
         j226 0)
        else (
         gd (zr (6 + (6 * x1)) 67) (
          j226 ((h_7 7 (6 + (6 * x1)).toNatClampNeg) + 1)))
/-- the way BACK in the reference -/
theorem mback_eq {P hm : zH} {S : St} {r : Nat} (hM : PM P hm) (hk : okN P) (hP : okP P) (hF : okF P) (hR : RepM P (hm 7) S) (hO : okO P (sOn S) (sOff S)) (hr : r < nb P) (hrr : rt P (sCl S) r = r) (set : Int32) (hq : ∀ c, c < nb P → bt set c = inR P S r c) :
    ∃ hm', MS P hm hm' (sBack P r S) [] (if (bkF P S r).isSome then 1 else 0) ∧ bkK (nI r) set (sF S r) hm = some hm' := by
  unfold bkK
  have n2 : nb P ≤ 6 := hk.1.2
  have n4 : nf P ≤ 9 := hk.2.2.2.1.2
  have hmk : hm 7 60 = sMk S 0 := hR.2.2.2.2.1 0 (Nat.zero_le _)
  have hct : hm 7 (6 + 6 * r) = sC S r 0 := by have := (hR.2.1 r hr).2 0 (by omega); rw [hrr] at this; exact this
  have hw : hm 6 1 = P 11 0 := hM.2.2.2.2 0 (Nat.zero_le _)
  have cEq := fun v => mcounts_eq hM hk set v (show 0 < 6 by omega)
  -- the three ways
  have fin : ∃ hm', MS P hm hm' (sBack P r S) [] (if (bkF P S r).isSome then 1 else 0) ∧ (if bkN S r < P 11 0 then ((Mo_counts set 0 (bkN S r) hm).bind fun h_8 => some h_8) else (Mo_fitting set hm).bind fun r_4 => if r_4 = (-4) then ((Mo_counts set 0 (bkN S r) hm).bind fun h_8 => some h_8) else ((Mo_counts set 0 0 hm).bind fun h_8 => (Mo_on r_4 h_8).bind fun h_9 => some (upd2 h_9 0 15 ((h_9 0 15) + 1)))) = some hm' := by
    rw [show (0 : Int32) = nI 0 from rfl, cEq (bkN S r), cEq (nI 0)]
    simp only [Option.bind_some]
    have h1 : ∀ v, MS P hm (setc hm 7 (rowC P (bt set) 0 v (nb P) (hm 7))) (wC S (upC (sC S) r 0 v)) [] 0 := fun v => MS.s7 (hR.C hk (by omega) v hq)
    by_cases hlt : bkN S r < P 11 0
    · have e1 : bkF P S r = none := by unfold bkF; rw [if_pos hlt]
      rw [if_pos hlt]
      refine ⟨_, ?_, rfl⟩
      unfold sBack
      rw [e1]
      exact h1 _
    · rw [if_neg hlt, mfit_eq hM hk hP hF hR hO r set hq, Option.bind_some]
      cases hf : (sOff S).reverse.find? (fun f => selR P S r f && !(decide (sCap P S r - sLoad P S r < P 8 f))) with
      | none =>
        have e1 : bkF P S r = none := by unfold bkF; rw [if_neg hlt]; exact hf
        dsimp only
        rw [if_pos rfl]
        refine ⟨_, ?_, rfl⟩
        unfold sBack
        rw [e1]
        exact h1 _
      | some f =>
        have e1 : bkF P S r = some f := by unfold bkF; rw [if_neg hlt]; exact hf
        have hfm : f ∈ sOff S := List.mem_reverse.mp (List.mem_of_find?_eq_some hf)
        have hfl := hO.2.1 f hfm
        dsimp only
        rw [if_neg (show ¬ nI f = -4 by
          intro e
          have h0 : ¬ nI f < 0 := nI_pos (by omega)
          rw [e] at h0
          exact h0 (by decide))]
        have h2 := h1 (nI 0)
        generalize setc hm 7 (rowC P (bt set) 0 (nI 0) (nb P) (hm 7)) = hm1 at h2
        obtain ⟨row', o1, o2⟩ := mon_eq hk h2.2.1 hO (f := f) hfm
        rw [o1, Option.bind_some]
        refine ⟨_, ?_, rfl⟩
        have h3 := h2.tr (MS.s7 (hm := hm1) o2)
        unfold sBack
        rw [e1]
        refine ⟨?_, ?_, ?_⟩
        · intro k k0 k7
          rw [upd2_ne k0]
          exact h3.1 k k0 k7
        · rw [upd2_ne (by omega)]; exact h3.2.1
        · obtain ⟨c1, c2, c3, c4, c5⟩ := h3.2.2
          rw [upd2_eq]
          refine ⟨?_, ?_, ?_, fun x => ?_, fun j hj => ?_⟩
          · rw [upd_ne (by omega)]; exact c1
          · rw [upd_ne (by omega)]; exact c2
          · rw [upd_eq, c3]; simp only [Option.isSome_some, if_true]; rw [Int32.add_assoc]; rfl
          · rw [upd_ne (by omega)]; exact c4 x
          · rw [upd_ne (by omega)]; exact c5 j hj
  obtain ⟨hm', f1, f2⟩ := fin
  refine ⟨hm', f1, ?_⟩
  rw [← f2]
  simp (disch := omega) only [m6, p6, nI_clamp, zr_nI, gd_true, zlet, hmk, hct, hw]
  have e4 : (if (-4 : Int32) = -4 then (Mo_counts set 0 (bkN S r) hm).bind fun h_8 => some h_8 else (Mo_counts set 0 0 hm).bind fun h_8 => some h_8) = ((Mo_counts set 0 (bkN S r) hm).bind fun h_8 => some h_8) := if_pos rfl
  have main : ∀ v, v = bkN S r → (if v < P 11 0 then (if (-4 : Int32) = -4 then (Mo_counts set 0 v hm).bind fun h_8 => (if (-4 : Int32) = -4 then some h_8 else (Mo_on (-4) h_8).bind fun h_9 => some (upd2 h_9 0 15 (h_9 0 15 + 1))) else (Mo_counts set 0 0 hm).bind fun h_8 => (if (-4 : Int32) = -4 then some h_8 else (Mo_on (-4) h_8).bind fun h_9 => some (upd2 h_9 0 15 (h_9 0 15 + 1)))) else (Mo_fitting set hm).bind fun r_4 => if r_4 = -4 then (Mo_counts set 0 v hm).bind fun h_8 => (if r_4 = -4 then some h_8 else (Mo_on r_4 h_8).bind fun h_9 => some (upd2 h_9 0 15 (h_9 0 15 + 1))) else (Mo_counts set 0 0 hm).bind fun h_8 => (if r_4 = -4 then some h_8 else (Mo_on r_4 h_8).bind fun h_9 => some (upd2 h_9 0 15 (h_9 0 15 + 1)))) = (if bkN S r < P 11 0 then ((Mo_counts set 0 (bkN S r) hm).bind fun h_8 => some h_8) else (Mo_fitting set hm).bind fun r_4 => if r_4 = (-4) then ((Mo_counts set 0 (bkN S r) hm).bind fun h_8 => some h_8) else ((Mo_counts set 0 0 hm).bind fun h_8 => (Mo_on r_4 h_8).bind fun h_9 => some (upd2 h_9 0 15 ((h_9 0 15) + 1)))) := by
    intro v hv
    subst hv
    simp only [if_true]
    congr 2
    funext r_4
    by_cases e : r_4 = -4
    · simp only [e, if_true]
    · simp only [e, if_false]
  by_cases hc : sF S r < sMk S 0
  · rw [if_pos hc]
    exact main 0 (by unfold bkN; rw [if_pos hc])
  · rw [if_neg hc]
    exact main _ (by unfold bkN; rw [if_neg hc])
theorem sFollow_ok {P : zH} {S : St} (hP : okP P) (h : Sok P S) (r : Nat) : Sok P (sFollow P S r) := ⟨h.1, h.2.1, flw_bd hP _ _ h.2.2.1 (np P) (Nat.le_refl _), h.2.2.2.1, h.2.2.2.2⟩
theorem stages_ok {P : zH} {r : Nat} {S : St} (hO : okO P (sOn S) (sOff S)) : ∀ (c : Nat) (ds : List Nat), okO P (sOn (itr (stages P r) 0 c (S, ds)).1) (sOff (itr (stages P r) 0 c (S, ds)).1) ∧ sCl (itr (stages P r) 0 c (S, ds)).1 = sCl S ∧ sF (itr (stages P r) 0 c (S, ds)).1 = sF S ∧ sG (itr (stages P r) 0 c (S, ds)).1 = sG S ∧ sTk (itr (stages P r) 0 c (S, ds)).1 = sTk S
  | 0, ds => ⟨hO, rfl, rfl, rfl, rfl⟩
  | c + 1, ds => by
    obtain ⟨i1, i2, i3, i4, i5⟩ := stages_ok hO c ds
    rw [itr_snoc, Nat.zero_add]
    generalize itr (stages P r) 0 c (S, ds) = q at i1 i2 i3 i4 i5
    obtain ⟨j1, j2, j3, j4, j5⟩ := sStage_ok (P := P) (S := q.1) (r := r) (s := c + 1) i1
    exact ⟨j1, j2.trans i2, j3.trans i3, j4.trans i4, j5.trans i5⟩
theorem mgoes_eq {P hm : zH} {S : St} {r : Nat} (hM : PM P hm) (hk : okN P) (hl : okL P) (hP : okP P) (hF : okF P) (hR : RepM P (hm 7) S) (hS : Sok P S) (hr : r < nb P) (hrr : rt P (sCl S) r = r) :
    ∃ hm', Mo_goes (nI r) hm = some hm' ∧ MS P hm hm' (sTick1 P S r).1 (sTick1 P S r).2.1 (sTick1 P S r).2.2 := by
  have n2 : nb P ≤ 6 := hk.1.2
  have n5 : ns P ≤ 5 := hk.2.2.2.2.2
  have hcl : hm 7 43 = sCl S := hR.1
  have hrow : hm 7 r = sF S r := by have := (hR.2.1 r hr).1; rw [hrr] at this; exact this
  unfold Mo_goes
  rw [busesOf_eq hM hk hl hr, hcl, hrr, Option.bind_some]
  have hsetq : ∀ c, c < nb P → bt (bset (inR P S r) (nb P)) c = inR P S r c := fun c hc => bset_R hk S r hc
  have hdk : ∀ {h1 : zH} {S1 : St}, PM P h1 → RepM P (h1 7) S1 → okO P (sOn S1) (sOff S1) → sCl S1 = sCl S → ∃ hm', Mo_goesDark (bset (inR P S r) (nb P)) h1 = some hm' ∧ MS P h1 hm' (sDark P S1 r) (dl P (sOn S1) (selR P S1 r)) 0 := by
    intro h1 S1 a1 a2 a3 a4
    have : inR P S r = inR P S1 r := by unfold inR; rw [a4]
    rw [this]
    exact mdark_eq a1 hk hP hF a2 a3 r
  show ∃ hm', (gd (zr (nI r) 67) _) = some hm' ∧ _
  rw [zr_nI (by omega) (by omega), gd_true, nI_clamp (by omega), hrow]
  rw [zlet_eq]
  generalize hset : bset (inR P S r) (nb P) = set at hsetq hdk
  try rw [show bset (fun c => decide (rt P (sCl S) c = r)) (nb P) = set from hset]
  have eL : pLoad P (bt (hm 7 42)) (bt set) = sLoad P S r := pLoad_congr (fun f hf => hsetq _ (hF f hf).1.2) (fun f hf _ => by rw [hR.2.2.2.1.1 f]; simp [hf])
  have eA : Mo_aim set (sF S r) hm = some (sAim P S r) := by unfold Mo_aim; rw [mload_eq hM hk hF, Option.bind_some, eL]
  obtain ⟨row1, e1, R1⟩ := mfollow_eq hM hk hP hR set (sAim P S r) (inR P S r) hsetq
  rw [eA, Option.bind_some, e1, Option.bind_some]
  have h1 : MS P hm (setc hm 7 row1) (sFollow P S r) [] 0 := MS.s7 R1
  generalize setc hm 7 row1 = hm1 at h1
  have hM1 : PM P hm1 := hM.of h1.1
  have S1 := sFollow_ok (r := r) hP hS
  have hq1 : ∀ c, c < nb P → bt set c = inR P (sFollow P S r) r c := hsetq
  have hr1 : rt P (sCl (sFollow P S r)) r = r := hrr
  have hcl1 : sCl (sFollow P S r) = sCl S := rfl
  have hF1 : sF S r = sF (sFollow P S r) r := rfl
  have eT : sTick1 P S r = (fun S : St =>
    if sHv P S r = 0 ∨ nwF P S r < 4700 then (sDark P S r, dl P (sOn S) (selR P S r), 0)
    else (fun q : St × List Nat => (sBack P r q.1, q.2, if (bkF P q.1 r).isSome then 1 else 0)) (itr (stages P r) 0 (ns P) (wF S (upF (sF S) r (nwF P S r)), []))) (sFollow P S r) := rfl
  rw [eT, hF1]
  generalize sFollow P S r = T at h1 S1 hq1 hr1 hcl1
  dsimp only
  have eH : Mo_plants set 3 hm1 = some (sHv P T r) := by
    rw [mplants_eq hM1 hk hP set 3 (P 6) (Or.inr (Or.inr (Or.inr ⟨rfl, rfl⟩)))]
    congr 1
    exact pSum_congr (fun p hp => hq1 _ (hP p hp).1.2) (fun _ _ _ => rfl)
  rw [eH, Option.bind_some, zlet_eq]
  have hvb : 0 ≤ (sHv P T r).toInt ∧ (sHv P T r).toInt ≤ 594 := hv_bd (q := inR P T r) hk hP
  obtain ⟨hmD, dk1, dk2⟩ := hdk hM1 h1.2.1 S1.2.2.2.1 hcl1
  by_cases hv0 : sHv P T r = 0
  · -- no PLANT
    rw [if_pos (show sHv P T r ≤ 0 by rw [hv0]; exact Int32.le_refl _)]
    dsimp only
    rw [if_pos hv0, if_pos (Or.inl hv0), dk1]
    refine ⟨hmD, rfl, ?_⟩
    have := h1.tr dk2
    simpa using this
  · rw [if_neg (show ¬ sHv P T r ≤ 0 by
      intro q
      have q1 := ile.mp q
      exact hv0 (ieq.mpr (by have : (0 : Int32).toInt = 0 := rfl; omega)))]
    have eG : Mo_plants set 0 hm1 = some (sGiven P T r) := by
      rw [mplants_eq hM1 hk hP set 0 (fun p => hm1 7 (44 + p)) (Or.inl ⟨rfl, rfl⟩)]
      congr 1
      exact pSum_congr (fun p hp => hq1 _ (hP p hp).1.2) (fun p hp _ => h1.2.1.2.2.1 p hp)
    have eL1 : Mo_load set hm1 = some (sLoad P T r) := by
      rw [mload_eq hM1 hk hF]
      congr 1
      exact pLoad_congr (fun f hf => hq1 _ (hF f hf).1.2) (fun f hf _ => by rw [h1.2.1.2.2.2.1.1 f]; simp [hf])
    rw [eG, Option.bind_some, eL1, Option.bind_some, show decide (¬ sHv P T r = 0) = true from decide_eq_true hv0, gd_true, zlet_eq]
    have main : ∀ x, x = nwF P T r → ∃ hm', (if sHv P T r = 0 then (Mo_goesDark set hm1).bind fun h_2 => some h_2 else if 4700 ≤ x then (Mo_frequency set x hm1).bind fun h_3 => Mo_goes_L100 (nI r) set x (bkK (nI r) set x) 1000 1 h_3 else (Mo_goesDark set hm1).bind fun h_11 => some h_11) = some hm' ∧ MS P hm hm' (if sHv P T r = 0 ∨ nwF P T r < 4700 then (sDark P T r, dl P (sOn T) (selR P T r), 0) else (sBack P r (itr (stages P r) 0 (ns P) (wF T (upF (sF T) r (nwF P T r)), [])).1, (itr (stages P r) 0 (ns P) (wF T (upF (sF T) r (nwF P T r)), [])).2, if (bkF P (itr (stages P r) 0 (ns P) (wF T (upF (sF T) r (nwF P T r)), [])).1 r).isSome then 1 else 0)).1 (if sHv P T r = 0 ∨ nwF P T r < 4700 then (sDark P T r, dl P (sOn T) (selR P T r), 0) else (sBack P r (itr (stages P r) 0 (ns P) (wF T (upF (sF T) r (nwF P T r)), [])).1, (itr (stages P r) 0 (ns P) (wF T (upF (sF T) r (nwF P T r)), [])).2, if (bkF P (itr (stages P r) 0 (ns P) (wF T (upF (sF T) r (nwF P T r)), [])).1 r).isSome then 1 else 0)).2.1 (if sHv P T r = 0 ∨ nwF P T r < 4700 then (sDark P T r, dl P (sOn T) (selR P T r), 0) else (sBack P r (itr (stages P r) 0 (ns P) (wF T (upF (sF T) r (nwF P T r)), [])).1, (itr (stages P r) 0 (ns P) (wF T (upF (sF T) r (nwF P T r)), [])).2, if (bkF P (itr (stages P r) 0 (ns P) (wF T (upF (sF T) r (nwF P T r)), [])).1 r).isSome then 1 else 0)).2.2 := by
      intro x hx
      subst hx
      rw [if_neg hv0]
      by_cases hlow : 4700 ≤ nwF P T r
      · have hc : ¬ (sHv P T r = 0 ∨ nwF P T r < 4700) := by
          rintro (q | q)
          · exact hv0 q
          · exact absurd hlow (Int32.not_le.mpr q)
        rw [if_pos hlow, if_neg hc, mfreq_eq hM1 hk, Option.bind_some]
        have h2 := h1.tr (MS.s7 (hm := hm1) (h1.2.1.F (r := r) hk (nwF P T r) hq1))
        have hO2 : okO P (sOn (wF T (upF (sF T) r (nwF P T r)))) (sOff (wF T (upF (sF T) r (nwF P T r)))) := S1.2.2.2.1
        generalize setc hm1 7 (fun i => if i < nb P ∧ bt set i = true then nwF P T r else hm1 7 i) = hm2 at h2
        have hF2 : sF (wF T (upF (sF T) r (nwF P T r))) r = nwF P T r := by show upF (sF T) r (nwF P T r) r = _; simp [upF]
        have hcl2 : sCl (wF T (upF (sF T) r (nwF P T r))) = sCl T := rfl
        generalize wF T (upF (sF T) r (nwF P T r)) = U at h2 hO2 hF2 hcl2
        have hM2 : PM P hm2 := hM.of h2.1
        have h2' : MS P hm hm2 U [] 0 := by simpa using h2
        refine exists_step (loop_ex (fun n x s => Mo_goes_L100 (nI r) set (nwF P T r) (bkK (nI r) set (nwF P T r)) n x s) (bkK (nI r) set (nwF P T r)) (fun i s => 1 ≤ i ∧ MS P hm s (itr (stages P r) 0 (i - 1) (U, [])).1 (itr (stages P r) 0 (i - 1) (U, [])).2 0) (ns P + 1) ?_ ?_ (ns P) 1 1000 hm2 (by omega) (by omega) ⟨Nat.le_refl _, h2'⟩) ?_
        · rintro n i s hi ⟨g0, g1⟩
          obtain ⟨i, rfl⟩ : ∃ j, i = j + 1 := ⟨i - 1, by omega⟩
          obtain ⟨o1, o2, o3, o4, o5⟩ := stages_ok (P := P) (r := r) hO2 i []
          have hMs : PM P s := hM.of g1.1
          simp only [Nat.add_sub_cancel] at g1 ⊢
          have e9 : itr (stages P r) 0 (i + 1) (U, []) = stages P r i (itr (stages P r) 0 i (U, [])) := by rw [itr_snoc, Nat.zero_add]
          rw [e9]
          generalize itr (stages P r) 0 i (U, []) = q at g1 o1 o2 o3 o4 o5
          have hcq : sCl q.1 = sCl T := o2.trans hcl2
          have hinq : ∀ c, c < nb P → bt set c = inR P q.1 r c := fun c hc => by rw [hq1 c hc]; show decide (rt P (sCl T) c = r) = decide (rt P (sCl q.1) c = r); rw [hcq]
          obtain ⟨s', m1, m2⟩ := mstage_eq hMs hk hF g1.2.1 o1 hr (by rw [hcq]; exact hr1) (s := i + 1) (by omega) (by omega) set hinq _
          refine ⟨s', ⟨by omega, by have := g1.tr m1; exact this⟩, ?_⟩
          rw [← hF2, ← o3]
          exact m2 n
        · rintro n s ⟨g0, g1⟩
          have hMs : PM P s := hM.of g1.1
          have n3 : s 2 4 = nI (ns P) := by rw [hMs.1 4 (by omega)]; exact hk.2.2.2.2.1
          rw [Mo_goes_L100, n3, if_pos (nI_lt (by omega) (by omega))]
        · rintro ⟨s, ⟨g0, g1⟩, g2⟩
          obtain ⟨o1, o2, o3, o4, o5⟩ := stages_ok (P := P) (r := r) hO2 (ns P) []
          simp only [Nat.add_sub_cancel] at g1
          generalize itr (stages P r) 0 (ns P) (U, []) = q at g1 o1 o2 o3 o4 o5
          have hMs : PM P s := hM.of g1.1
          have hcq : sCl q.1 = sCl T := o2.trans hcl2
          have hinq : ∀ c, c < nb P → bt set c = inR P q.1 r c := fun c hc => by rw [hq1 c hc]; show decide (rt P (sCl T) c = r) = decide (rt P (sCl q.1) c = r); rw [hcq]
          obtain ⟨s', m1, m2⟩ := mback_eq hMs hk hP hF g1.2.1 o1 hr (by rw [hcq]; exact hr1) set hinq
          refine ⟨s', g2.trans ?_, ?_⟩
          · rw [o3, hF2] at m2
            exact m2
          · have := g1.tr m1
            simpa using this
      · have hc : sHv P T r = 0 ∨ nwF P T r < 4700 := Or.inr (Int32.not_le.mp hlow)
        rw [if_neg hlow, if_pos hc, dk1]
        refine ⟨hmD, rfl, ?_⟩
        have := h1.tr dk2
        simpa using this
    unfold nwF at main
    by_cases h52 : sF T r + 10 * (sGiven P T r - sLoad P T r) / sHv P T r ≤ 5200
    · rw [if_pos h52]
      exact main _ (by dsimp only; rw [if_pos h52])
    · rw [if_neg h52]
      exact main _ (by dsimp only; rw [if_neg h52])
