theorem zmin_52 (y : Int32) : zmin 5200 y = if y ≤ 5200 then y else 5200 := by
  unfold zmin
  by_cases h : y < 5200
  · rw [if_pos h, if_pos (Int32.le_of_lt h)]
  · rw [if_neg h]
    by_cases h2 : y ≤ 5200
    · rw [if_pos h2]; exact Int32.le_antisymm (Int32.not_lt.mp h) h2
    · rw [if_neg h2]
/-- an ISLAND's TICK in the class -/
theorem xisland {P h : zH} {J : Nat → Bool} {g c r : Nat} {S : St} (hX : PX P h) (hk : okN P) (hP : okP P) (hF : okF P) (hg : 29 ≤ g) (hc : ¬ (g ≤ c ∧ c ≤ g + 7)) (hc29 : 29 ≤ c) (hR : RepJ P J h g S) (hJ : Jok P S J) (hS : Sok P S) (hr : r < nb P) (hrr : rt P (sCl S) r = r) (hJr : J r = true) (hd : ¬ sF S r = 0) :
    ∃ h', Co_passIsland c g (nI r) h = some h' ∧ XS P J h h' g c (sTick1 P S r).1 (sTick1 P S r).2.1 (sTick1 P S r).2.2 := by
  have n2 : nb P ≤ 6 := hk.1.2
  have n5 : ns P ≤ 5 := hk.2.2.2.2.2
  have hF0 := (hR.2.2.1 r hr hrr hJr).1
  unfold Co_passIsland
  rw [isDark_eq (by omega), Option.bind_some, hF0, if_pos (by simp [hd, b2i])]
  obtain ⟨h1, f1, x1⟩ := xfollow (c := c) hX hk hP hF hg hc hR hJ hS hr hrr hJr
  rw [f1, Option.bind_some]
  have hX1 : PX P h1 := hX.of (fun k k1 k2 => x1.1.1 k (by omega) (by omega))
  have S1 := sFollow_ok (r := r) hP hS
  have hr1 : rt P (sCl (sFollow P S r)) r = r := hrr
  have hJ1 : Jok P (sFollow P S r) J := hJ
  have eT : sTick1 P S r = (fun S : St =>
    if sHv P S r = 0 ∨ nwF P S r < 4700 then (sDark P S r, dl P (sOn S) (selR P S r), 0)
    else (fun q : St × List Nat => (sBack P r q.1, q.2, if (bkF P q.1 r).isSome then 1 else 0)) (itr (stages P r) 0 (ns P) (wF S (upF (sF S) r (nwF P S r)), []))) (sFollow P S r) := rfl
  rw [eT]
  generalize sFollow P S r = T at x1 S1 hr1 hJ1
  dsimp only
  rw [xheavy hX1 hk hP x1.2.1 (by omega), Option.bind_some]
  obtain ⟨hD, dk1, dk2⟩ := xdarken hX1 hk hP hF hg hc hc29 x1.2.1 hJ1 S1.2.2.2.1 hr hJr
  by_cases hv0 : sHv P T r = 0
  · rw [if_pos hv0, if_pos (Or.inl hv0), dk1]
    refine ⟨hD, rfl, ?_⟩
    have := x1.tr dk2
    simpa using this
  · rw [if_neg hv0, xgiven hX1 hk hP x1.2.1 hJ1 (by omega) hJr, Option.bind_some, xload hX1 hk hF x1.2.1 hJ1 (by omega) hJr, Option.bind_some, zlet_eq, zr_nI (by omega) (by omega), gd_true, show decide (¬ sHv P T r = 0) = true from decide_eq_true hv0, gd_true, zlet_eq, nI_clamp (by omega), (x1.2.1.2.2.1 r hr hr1 hJr).1, zmin_52]
    have enw : (if sF T r + 10 * (sGiven P T r - sLoad P T r) / sHv P T r ≤ 5200 then sF T r + 10 * (sGiven P T r - sLoad P T r) / sHv P T r else 5200) = nwF P T r := rfl
    rw [enw]
    simp only [gd_true, zlet_eq, upd2_c]
    by_cases hlow : 4700 ≤ nwF P T r
    · have hcc : ¬ (sHv P T r = 0 ∨ nwF P T r < 4700) := by
        rintro (q | q)
        · exact hv0 q
        · exact absurd hlow (Int32.not_le.mpr q)
      rw [if_pos hlow, if_neg hcc]
      have x2 := x1.tr (XS.s (c := c) ⟨by omega, by omega⟩ hc (x1.2.1.F (r := r) (nwF P T r)))
      have hX2 : PX P (setc h1 (g + 3) (upd (h1 (g + 3)) r (nwF P T r))) := hX1.setc (by omega)
      have hO2 : okO P (sOn (wF T (upF (sF T) r (nwF P T r)))) (sOff (wF T (upF (sF T) r (nwF P T r)))) := S1.2.2.2.1
      have hcl2 : sCl (wF T (upF (sF T) r (nwF P T r))) = sCl T := rfl
      generalize wF T (upF (sF T) r (nwF P T r)) = U at x2 hO2 hcl2
      generalize setc h1 (g + 3) (upd (h1 (g + 3)) r (nwF P T r)) = h2 at x2 hX2
      have x2' : XS P J h h2 g c U [] 0 := by simpa using x2
      refine exists_step (loop_ex (fun n x s => Co_passIsland_L106 c g (nI r) (fun h_5 => (Co_passBack c g (nI r) h_5).bind fun h_6 => some h_6) n x s) (fun h_5 => (Co_passBack c g (nI r) h_5).bind fun h_6 => some h_6) (fun i s => 1 ≤ i ∧ XS P J h s g c (itr (stages P r) 0 (i - 1) (U, [])).1 (itr (stages P r) 0 (i - 1) (U, [])).2 0) (ns P + 1) ?_ ?_ (ns P) 1 1000 h2 (by omega) (by omega) ⟨Nat.le_refl _, x2'⟩) ?_
      · rintro n i s hi ⟨g0, g1⟩
        obtain ⟨i, rfl⟩ : ∃ j, i = j + 1 := ⟨i - 1, by omega⟩
        obtain ⟨o1, o2, o3, o4, o5⟩ := stages_ok (P := P) (r := r) hO2 i []
        have hXs : PX P s := hX.of (fun k k1 k2 => g1.1.1 k (by omega) (by omega))
        simp only [Nat.add_sub_cancel] at g1 ⊢
        have e9 : itr (stages P r) 0 (i + 1) (U, []) = stages P r i (itr (stages P r) 0 i (U, [])) := by rw [itr_snoc, Nat.zero_add]
        rw [e9]
        generalize itr (stages P r) 0 i (U, []) = q at g1 o1 o2 o3 o4 o5
        have hcq : sCl q.1 = sCl T := o2.trans hcl2
        obtain ⟨s', m1, m2⟩ := xstage (c := c) (s := i + 1) hXs hk hF hg hc hc29 g1.2.1 (show Jok P q.1 J by unfold Jok; rw [hcq]; exact hJ1) o1 hr (by rw [hcq]; exact hr1) hJr (by omega)
        have n3 : s 17 4 = nI (ns P) := by rw [hXs.1]; exact hk.2.2.2.2.1
        refine ⟨s', ⟨by omega, by have := g1.tr m2; exact this⟩, ?_⟩
        rw [Co_passIsland_L106, n3, if_neg (nI_nlt (by omega) (by omega)), m1, Option.bind_some, nI_1]
      · rintro n s ⟨g0, g1⟩
        have hXs : PX P s := hX.of (fun k k1 k2 => g1.1.1 k (by omega) (by omega))
        have n3 : s 17 4 = nI (ns P) := by rw [hXs.1]; exact hk.2.2.2.2.1
        rw [Co_passIsland_L106, n3, if_pos (nI_lt (by omega) (by omega))]
      · rintro ⟨s, ⟨g0, g1⟩, g2⟩
        obtain ⟨o1, o2, o3, o4, o5⟩ := stages_ok (P := P) (r := r) hO2 (ns P) []
        simp only [Nat.add_sub_cancel] at g1
        generalize itr (stages P r) 0 (ns P) (U, []) = q at g1 o1 o2 o3 o4 o5
        have hXs : PX P s := hX.of (fun k k1 k2 => g1.1.1 k (by omega) (by omega))
        have hcq : sCl q.1 = sCl T := o2.trans hcl2
        obtain ⟨s', m1, m2⟩ := xback (c := c) hXs hk hP hF hg hc hc29 g1.2.1 (show Jok P q.1 J by unfold Jok; rw [hcq]; exact hJ1) o1 hr (by rw [hcq]; exact hr1) hJr
        refine ⟨s', g2.trans (by rw [m1]; rfl), ?_⟩
        have := g1.tr m2
        simpa using this
    · have hcc : sHv P T r = 0 ∨ nwF P T r < 4700 := Or.inr (Int32.not_le.mp hlow)
      rw [if_neg hlow, if_pos hcc, dk1]
      refine ⟨hD, rfl, ?_⟩
      have := x1.tr dk2
      simpa using this
theorem xisland0 {P h : zH} {J : Nat → Bool} {g c r : Nat} {S : St} (hk : okN P) (hR : RepJ P J h g S) (hr : r < nb P) (hrr : rt P (sCl S) r = r) (hJr : J r = true) (hd : sF S r = 0) : Co_passIsland c g (nI r) h = some h := by
  have n2 : nb P ≤ 6 := hk.1.2
  have hF0 := (hR.2.2.1 r hr hrr hJr).1
  unfold Co_passIsland
  rw [isDark_eq (by omega), Option.bind_some, hF0, if_neg (by simp [hd, b2i])]
/-- a state that agrees with another one as far as J goes -/
def AgJ (P : zH) (J : Nat → Bool) (S S' : St) : Prop := sCl S' = sCl S ∧ (∀ r, r < nb P → rt P (sCl S) r = r → J r = true → sF S' r = sF S r ∧ ∀ s, s < 6 → sC S' r s = sC S r s) ∧ (∀ p, p < np P → J (pb P p) = true → sG S' p = sG S p) ∧ (∀ f, f < nf P → J (fb P f) = true → sOn S' f = sOn S f) ∧ (sOff S').filter (fun f => J (fb P f)) = (sOff S).filter (fun f => J (fb P f)) ∧ sMk S' = sMk S
theorem AgJ.rf {P : zH} {J : Nat → Bool} {S : St} : AgJ P J S S := ⟨rfl, fun _ _ _ _ => ⟨rfl, fun _ _ => rfl⟩, fun _ _ _ => rfl, fun _ _ _ => rfl, rfl, rfl⟩
theorem AgJ.tr {P : zH} {J : Nat → Bool} {S S' S'' : St} (a : AgJ P J S S') (b : AgJ P J S' S'') : AgJ P J S S'' := by
  obtain ⟨a1, a2, a3, a4, a5, a6⟩ := a
  obtain ⟨b1, b2, b3, b4, b5, b6⟩ := b
  refine ⟨b1.trans a1, fun r hr hrr hJ => ?_, fun p hp hJ => (b3 p hp hJ).trans (a3 p hp hJ), fun f hf hJ => (b4 f hf hJ).trans (a4 f hf hJ), b5.trans a5, b6.trans a6⟩
  have h1 := a2 r hr hrr hJ
  have h2 := b2 r hr (by rw [a1]; exact hrr) hJ
  exact ⟨h2.1.trans h1.1, fun s hs => (h2.2 s hs).trans (h1.2 s hs)⟩
theorem RepJ.ag {P h : zH} {J : Nat → Bool} {g : Nat} {S S' : St} (hR : RepJ P J h g S) (a : AgJ P J S S') : RepJ P J h g S' := by
  obtain ⟨h1, h2, h3, h4, ⟨on, off, o1, o2, o3, o4⟩, h6⟩ := hR
  obtain ⟨a1, a2, a3, a4, a5, a6⟩ := a
  refine ⟨by rw [a1]; exact h1, by rw [a1]; exact h2, fun r hr hrr hJ => ?_, fun p hp hJ => by rw [a3 p hp hJ]; exact h4 p hp hJ, ⟨on, off, o1, o2, fun f hf hJ => by rw [a4 f hf hJ]; exact o3 f hf hJ, by rw [a5]; exact o4⟩, by rw [a6]; exact h6⟩
  rw [a1] at hrr
  have := a2 r hr hrr hJ
  rw [this.1]
  exact ⟨(h3 r hr hrr hJ).1, fun s hs => by rw [this.2 s hs]; exact (h3 r hr hrr hJ).2 s hs⟩
section OTHER
variable {P : zH} {J : Nat → Bool} {S : St} {r : Nat}
theorem Jout (hJ : Jok P S J) (hr : J r = false) {b : Nat} (hb : b < nb P) (hb2 : J b = true) : inR P S r b = false := by
  refine decide_eq_false (fun e => ?_)
  have := hJ b hb
  rw [e, hr, hb2] at this
  cases this
theorem ag_follow (hP : okP P) (hJ : Jok P S J) (hr : J r = false) : AgJ P J S (sFollow P S r) := by
  refine ⟨rfl, fun _ _ _ _ => ⟨rfl, fun _ _ => rfl⟩, fun p hp hJp => ?_, fun _ _ _ => rfl, rfl, rfl⟩
  show itr (flw1 P (inR P S r) (sAim P S r)) 0 (np P) (sG S) p = sG S p
  have key : ∀ c, c ≤ np P → itr (flw1 P (inR P S r) (sAim P S r)) 0 c (sG S) p = sG S p := by
    intro c
    induction c with
    | zero => intro _; rfl
    | succ c ih =>
      intro hc
      rw [itr_snoc, Nat.zero_add]
      have ih := ih (by omega)
      generalize itr (flw1 P (inR P S r) (sAim P S r)) 0 c (sG S) = gv at ih
      unfold flw1
      split
      · rename_i hq
        by_cases e : p = c
        · subst e
          rw [Jout hJ hr (hP p hp).1.2 hJp] at hq
          cases hq
        · rw [upd_ne e]; exact ih
      · exact ih
  exact key (np P) (Nat.le_refl _)
theorem ag_drop {sel : Nat → Bool} (hsel : ∀ f, f < nf P → J (fb P f) = true → sel f = false) : AgJ P J S (sDrop P S sel) := by
  refine ⟨rfl, fun _ _ _ _ => ⟨rfl, fun _ _ => rfl⟩, fun _ _ _ => rfl, fun f hf hJf => ?_, ?_, rfl⟩
  · show (sOn S f && !(sel f && decide (f < nf P))) = sOn S f
    rw [hsel f hf hJf]; simp
  · show (sOff S ++ dlN (sOn S) sel (nf P)).filter _ = _
    rw [List.filter_append]
    have : (dlN (sOn S) sel (nf P)).filter (fun f => J (fb P f)) = [] := by
      refine List.filter_eq_nil_iff.mpr (fun f hf hJf => ?_)
      obtain ⟨q1, q2⟩ := List.mem_filter.mp hf
      rw [hsel f (List.mem_range.mp q1) hJf] at q2
      simp at q2
    rw [this, List.append_nil]
theorem ds_out {on sel : Nat → Bool} (hsel : ∀ f, f < nf P → J (fb P f) = true → sel f = false) : ∀ f ∈ dl P on sel, f < nf P ∧ J (fb P f) = false := by
  intro f hf
  obtain ⟨q1, q2⟩ := List.mem_filter.mp hf
  have q3 := List.mem_range.mp q1
  refine ⟨q3, ?_⟩
  cases e : J (fb P f)
  · rfl
  · rw [hsel f q3 e] at q2
    simp at q2
theorem ag_F (hr : J r = false) (v : Int32) : AgJ P J S (wF S (upF (sF S) r v)) := by
  refine ⟨rfl, fun x _ _ hJx => ⟨?_, fun _ _ => rfl⟩, fun _ _ _ => rfl, fun _ _ _ => rfl, rfl, rfl⟩
  show upF (sF S) r v x = sF S x
  unfold upF
  rw [if_neg (fun e => by rw [e, hr] at hJx; cases hJx)]
theorem ag_C (hr : J r = false) (s : Nat) (v : Int32) : AgJ P J S (wC S (upC (sC S) r s v)) := by
  refine ⟨rfl, fun x _ _ hJx => ⟨rfl, fun t _ => ?_⟩, fun _ _ _ => rfl, fun _ _ _ => rfl, rfl, rfl⟩
  show upC (sC S) r s v x t = sC S x t
  unfold upC
  rw [if_neg (fun e => by rw [e.1, hr] at hJx; cases hJx)]
theorem sel_out (hF : okF P) (hJ : Jok P S J) (hr : J r = false) : ∀ f, f < nf P → J (fb P f) = true → selR P S r f = false := fun f hf hJf => Jout hJ hr (hF f hf).1.2 hJf
theorem ag_dark (hP : okP P) (hF : okF P) (hJ : Jok P S J) (hr : J r = false) : AgJ P J S (sDark P S r) := by
  have h1 : AgJ P J S (wF S (upF (sF S) r 0)) := ag_F hr 0
  have h2 : AgJ P J (wF S (upF (sF S) r 0)) (sDrop P (wF S (upF (sF S) r 0)) (selR P S r)) := ag_drop (sel_out hF hJ hr)
  have h3 : AgJ P J (sDrop P (wF S (upF (sF S) r 0)) (selR P S r)) (sDark P S r) := by
    refine ⟨rfl, fun _ _ _ _ => ⟨rfl, fun _ _ => rfl⟩, fun p hp hJp => ?_, fun _ _ _ => rfl, rfl, rfl⟩
    show (if inR P S r (pb P p) = true then 0 else sG S p) = sG S p
    rw [Jout hJ hr (hP p hp).1.2 hJp]; simp
  exact (h1.tr h2).tr h3
theorem ag_stage (hF : okF P) (hJ : Jok P S J) (hr : J r = false) (s : Nat) : AgJ P J S (sStage P r s S) ∧ ∀ f ∈ stD P S r s, f < nf P ∧ J (fb P f) = false := by
  have hsel : ∀ f, f < nf P → J (fb P f) = true → selS P S r s f = false := fun f hf hJf => by unfold selS; rw [sel_out hF hJ hr f hf hJf]; rfl
  refine ⟨?_, fun f hf => ?_⟩
  · unfold sStage
    split
    · exact ag_C hr s _
    · exact (ag_C hr s 0).tr (ag_drop hsel)
  · unfold stD at hf
    split at hf
    · cases hf
    · exact ds_out hsel f hf
theorem ag_back (hF : okF P) (hJ : Jok P S J) (hO : okO P (sOn S) (sOff S)) (hr : J r = false) : AgJ P J S (sBack P r S) := by
  unfold sBack
  split
  · exact ag_C hr 0 _
  · rename_i f hf
    refine (ag_C hr 0 0).tr ?_
    have hfi : (sOff S).reverse.find? (fun f => selR P S r f && !(decide (sCap P S r - sLoad P S r < P 8 f))) = some f := by
      unfold bkF at hf
      split at hf
      · cases hf
      · exact hf
    have hfm : f ∈ sOff S := List.mem_reverse.mp (List.mem_of_find?_eq_some hfi)
    have hfl := hO.2.1 f hfm
    have hfs : selR P S r f = true := by
      have := List.find?_some hfi
      exact (Bool.and_eq_true_iff.mp this).1
    have hJf : J (fb P f) = false := by
      cases e : J (fb P f)
      · rfl
      · rw [sel_out hF hJ hr f hfl e] at hfs; cases hfs
    refine ⟨rfl, fun _ _ _ _ => ⟨rfl, fun _ _ => rfl⟩, fun _ _ _ => rfl, fun x hx hJx => ?_, ?_, rfl⟩
    · show (if x = f then true else sOn S x) = sOn S x
      rw [if_neg (fun e => by rw [e, hJf] at hJx; cases hJx)]
    · show ((sOff S).filter (fun x => !(x == f))).filter _ = (sOff S).filter _
      rw [List.filter_filter]
      refine List.filter_congr (fun x _ => ?_)
      by_cases e : x = f
      · subst e; simp [hJf]
      · have : (x == f) = false := by simpa using e
        simp [this]
/-- an ISLAND's TICK touches no other one -/
theorem ag_tick1 (hP : okP P) (hF : okF P) (hJ : Jok P S J) (hS : Sok P S) (hr : J r = false) : AgJ P J S (sTick1 P S r).1 ∧ ∀ f ∈ (sTick1 P S r).2.1, f < nf P ∧ J (fb P f) = false := by
  have h1 := ag_follow (S := S) hP hJ hr
  have S1 := sFollow_ok (r := r) hP hS
  have hJ1 : Jok P (sFollow P S r) J := hJ
  unfold sTick1
  generalize sFollow P S r = T at h1 S1 hJ1
  dsimp only
  split
  · exact ⟨h1.tr (ag_dark hP hF hJ1 hr), ds_out (sel_out hF hJ1 hr)⟩
  · have hO2 : okO P (sOn (wF T (upF (sF T) r (nwF P T r)))) (sOff (wF T (upF (sF T) r (nwF P T r)))) := S1.2.2.2.1
    have h2 : AgJ P J S (wF T (upF (sF T) r (nwF P T r))) := h1.tr (ag_F hr _)
    have hcl2 : sCl (wF T (upF (sF T) r (nwF P T r))) = sCl T := rfl
    generalize wF T (upF (sF T) r (nwF P T r)) = U at hO2 h2 hcl2
    have key : ∀ c, AgJ P J S (itr (stages P r) 0 c (U, [])).1 ∧ ∀ f ∈ (itr (stages P r) 0 c (U, [])).2, f < nf P ∧ J (fb P f) = false := by
      intro c
      induction c with
      | zero => exact ⟨h2, fun f hf => by cases hf⟩
      | succ c ih =>
        obtain ⟨o1, o2, -⟩ := stages_ok (P := P) (r := r) hO2 c []
        rw [itr_snoc, Nat.zero_add]
        generalize itr (stages P r) 0 c (U, []) = q at ih o1 o2
        have hJq : Jok P q.1 J := by unfold Jok; rw [o2, hcl2]; exact hJ1
        obtain ⟨g1, g2⟩ := ag_stage hF hJq hr (c + 1)
        refine ⟨ih.1.tr g1, fun f hf => ?_⟩
        rcases List.mem_append.mp hf with e | e
        · exact ih.2 f e
        · exact g2 f e
    obtain ⟨o1, o2, -⟩ := stages_ok (P := P) (r := r) hO2 (ns P) []
    obtain ⟨k1, k2⟩ := key (ns P)
    generalize itr (stages P r) 0 (ns P) (U, []) = q at o1 o2 k1 k2
    have hJq : Jok P q.1 J := by unfold Jok; rw [o2, hcl2]; exact hJ1
    exact ⟨k1.tr (ag_back hF hJq o1 hr), k2⟩
end OTHER
