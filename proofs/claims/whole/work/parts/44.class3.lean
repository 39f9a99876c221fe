/-- the bits of FEEDERS of an ISLAND that are ON -/
theorem xbits {P h : zH} {J : Nat → Bool} {g r : Nat} {S : St} (hX : PX P h) (hk : okN P) (hF : okF P) (hR : RepJ P J h g S) (hJ : Jok P S J) (hr : r < 6) (hJr : J r = true) : ∃ set, Gr_feederBits g (nI r) 1 h = some set ∧ ∀ f, bt set f = (decide (f < nf P) && (selR P S r f && sOn S f)) := by
  have n4 : nf P ≤ 9 := hk.2.2.2.1.2
  refine ⟨_, feederBits_eq hX hk hF hR.R hr true, fun f => ?_⟩
  rw [bt_bset _ _ (by omega)]
  by_cases hf : f < nf P
  · obtain ⟨on, off, o1, o2, o3, o4⟩ := hR.2.2.2.2.1
    simp only [hf, decide_true, Bool.true_and]
    rw [o2.1 f]
    by_cases e : rt P (sCl S) (fb P f) = r
    · rw [o3 f hf (Jin hJ hJr (hF f hf).1.2 (decide_eq_true e))]
      simp [hf, e]
    · simp [e]
  · simp [hf]
theorem xdarken {P h : zH} {J : Nat → Bool} {g c r : Nat} {S : St} (hX : PX P h) (hk : okN P) (hP : okP P) (hF : okF P) (hg : 29 ≤ g) (hc : ¬ (g ≤ c ∧ c ≤ g + 7)) (hc29 : 29 ≤ c) (hR : RepJ P J h g S) (hJ : Jok P S J) (hO : okO P (sOn S) (sOff S)) (hr : r < nb P) (hJr : J r = true) :
    ∃ h', Co_darken c g (nI r) h = some h' ∧ XS P J h h' g c (sDark P S r) (dl P (sOn S) (selR P S r)) 0 := by
  have n2 : nb P ≤ 6 := hk.1.2
  have n4 : np P ≤ 6 := hk.2.2.1.2
  unfold Co_darken
  rw [zr_nI (by omega) (by omega), gd_true, zlet_eq, nI_clamp (by omega), upd2_c]
  have x1 : XS P J h (setc h (g + 3) (upd (h (g + 3)) r 0)) g c (wF S (upF (sF S) r 0)) [] 0 := XS.s ⟨by omega, by omega⟩ hc (hR.F 0)
  have hX1 : PX P (setc h (g + 3) (upd (h (g + 3)) r 0)) := hX.setc (by omega)
  generalize setc h (g + 3) (upd (h (g + 3)) r 0) = h1 at x1 hX1
  obtain ⟨set, b1, b2⟩ := xbits hX1 hk hF x1.2.1 (show Jok P (wF S (upF (sF S) r 0)) J from hJ) (by omega) hJr
  rw [b1, Option.bind_some]
  obtain ⟨h2, d1, d2⟩ := xdropSet hX1 hk hg hc hc29 x1.2.1 (show okO P (sOn (wF S (upF (sF S) r 0))) (sOff (wF S (upF (sF S) r 0))) from hO) (selR P S r) (fun f hf e => Jin hJ hJr (hF f hf).1.2 e) set (fun f hf => by rw [b2 f]; simp [hf])
  rw [d1, Option.bind_some]
  have hX2 : PX P h2 := hX1.of (fun k k1 k2 => d2.1.1 k (by omega) (by omega))
  refine exists_step (loop_ex (fun n x s => Co_darken_L25 g (nI r) (fun h_5 => some h_5) n x s) (fun h => some h) (fun i s => ∃ gx, s = setc h2 (g + 5) gx ∧ ∀ p, p < np P → J (pb P p) = true → gx p = if inR P S r (pb P p) && decide (p < i) then 0 else sG S p) (np P) ?_ ?_ (np P) 0 1000 h2 (by omega) (by omega) ⟨h2 (g + 5), setc_self.symm, fun p hp hJp => by rw [d2.2.1.2.2.2.1 p hp hJp]; simp⟩) ?_
  · rintro n i s hi ⟨gx, rfl, g1⟩
    have hXs : PX P (setc h2 (g + 5) gx) := hX2.setc (by omega)
    obtain ⟨⟨f1, f2⟩, -⟩ := hP i hi
    obtain ⟨r1, r2⟩ := d2.2.1.R (pb P i) (by omega)
    have hn : ¬ np P ≤ i := by omega
    have n3 : P 0 2 = nI (np P) := hk.2.2.1.1
    have e1 : setc h2 (g + 5) gx (g + 1) = h2 (g + 1) := setc_ne (by omega)
    rw [Co_darken_L25, hXs.1, hXs.2.2.2.1, e1]
    simp (disch := omega) only [m2, m3, m4, m6, m67, a1, a2, a3, p6, p44, p51, p60, nI_add, nI_clamp, zr_nI, gd_true, zlet, Option.bind_some, mhas_eq, has_eq, nI_leI, nI_ltI, nI_eq, n3, hn, if_false]
    rw [f1]
    simp (disch := omega) only [m2, m3, m4, m6, m67, a1, a2, a3, p6, p44, p51, p60, nI_add, nI_clamp, zr_nI, gd_true, zlet, Option.bind_some, mhas_eq, has_eq, nI_leI, nI_ltI, nI_eq, r1, setc_eq, upd2_c, setc_setc]
    by_cases e : rt P (sCl S) (pb P i) = r
    · rw [if_pos e]
      refine ⟨_, ⟨_, rfl, fun p hp hJp => ?_⟩, rfl⟩
      by_cases ep : p = i
      · subst ep; rw [upd_eq]; simp [e]
      · have : (p < i + 1) ↔ (p < i) := by omega
        rw [upd_ne ep, g1 p hp hJp]; simp [this]
    · rw [if_neg e]
      refine ⟨_, ⟨gx, rfl, fun p hp hJp => ?_⟩, rfl⟩
      rw [g1 p hp hJp]
      by_cases ep : p = i
      · subst ep; simp [e]
      · have : (p < i + 1) ↔ (p < i) := by omega
        simp [this]
  · rintro n s ⟨gx, rfl, g1⟩
    have n3 : P 0 2 = nI (np P) := hk.2.2.1.1
    rw [Co_darken_L25, (hX2.setc (a := g + 5) (by omega)).1, n3, if_pos (nI_le_rf _)]
  · rintro ⟨s, ⟨gx, rfl, g1⟩, g2⟩
    refine ⟨_, g2, ?_⟩
    have x3 : XS P J h2 (setc h2 (g + 5) gx) g c (sDark P S r) [] 0 := XS.s ⟨by omega, by omega⟩ hc (d2.2.1.G gx (fun p => if inR P S r (pb P p) then 0 else sG S p) (fun p hp hJp => by rw [g1 p hp hJp]; simp [hp]))
    have := (x1.tr d2).tr x3
    simpa using this
theorem xonOf {P h : zH} {J : Nat → Bool} {g c r s : Nat} {S : St} (hX : PX P h) (hk : okN P) (hF : okF P) (hR : RepJ P J h g S) (hJ : Jok P S J) (hr : r < 6) (hJr : J r = true) : ∃ set, Co_onOfStage c g (nI r) (nI s) h = some set ∧ ∀ f, bt set f = (decide (f < nf P) && (selS P S r s f && sOn S f)) := by
  have n4 : nf P ≤ 9 := hk.2.2.2.1.2
  obtain ⟨set, b1, b2⟩ := xbits hX hk hF hR hJ hr hJr
  unfold Co_onOfStage
  rw [b1, Option.bind_some]
  refine exists_step (loop_ex (fun n x s' => Co_onOfStage_L13 (nI s) h (fun x => some x) n s' x) (fun x => some x) (fun i x => ∀ f, bt x f = (bt set f && !(decide (f < i) && !(decide (P 9 f = nI s))))) (nf P) ?_ ?_ (nf P) 0 1000 set (by omega) (by omega) (fun f => by simp)) ?_
  · rintro n i x hi g1
    have hn : ¬ nf P ≤ i := by omega
    have n3 : P 0 3 = nI (nf P) := hk.2.2.2.1.1
    rw [Co_onOfStage_L13, hX.1, hX.2.2.2.2.2.2.2.2.2.1]
    simp (disch := omega) only [m2, m3, m4, m6, m67, a1, a2, a3, p6, p44, p51, p60, nI_add, nI_clamp, zr_nI, gd_true, zlet, Option.bind_some, mhas_eq, has_eq, nI_leI, nI_ltI, nI_eq, n3, hn, if_false]
    by_cases e : P 9 i = nI s
    · rw [if_pos e]
      refine ⟨x, fun f => ?_, rfl⟩
      rw [g1 f]
      by_cases ef : f = i
      · subst ef; simp [e]
      · have : (f < i + 1) ↔ (f < i) := by omega
        simp [this]
    · rw [if_neg e]
      refine ⟨_, fun f => ?_, rfl⟩
      rw [b_and, b_xor, bt_one (by omega), g1 f]
      rcases Nat.lt_or_ge f 32 with q | q
      · rw [b_m1 f q]
        by_cases ef : f = i
        · subst ef; simp [e]
        · have : (f < i + 1) ↔ (f < i) := by omega
          simp [ef, this]
      · rw [b2 f]
        have : ¬ f < nf P := by omega
        simp [this]
  · rintro n x g1
    have n3 : P 0 3 = nI (nf P) := hk.2.2.2.1.1
    rw [Co_onOfStage_L13, hX.1, n3, if_pos (nI_le_rf _)]
  · rintro ⟨x, g1, g2⟩
    refine ⟨x, g2, fun f => ?_⟩
    rw [g1 f, b2 f]
    unfold selS
    by_cases hf : f < nf P
    · cases selR P S r f <;> cases sOn S f <;> simp [hf]
    · simp [hf]
theorem set_zero {P : zH} {set : Int32} {on sel : Nat → Bool} (h : ∀ f, bt set f = (decide (f < nf P) && (sel f && on f))) : set = 0 ↔ dl P on sel = [] := by
  constructor
  · intro e
    refine List.filter_eq_nil_iff.mpr (fun f hf => ?_)
    have h1 := h f
    rw [e, b_0] at h1
    have hf2 := List.mem_range.mp hf
    simpa [hf2] using h1.symm
  · intro e
    apply b_ext
    intro f _
    rw [h f, b_0]
    by_cases hf : f < nf P
    · have := dlN_nil e hf
      simp only [this, Bool.and_false]
    · simp [hf]
theorem xstage {P h : zH} {J : Nat → Bool} {g c r s : Nat} {S : St} (hX : PX P h) (hk : okN P) (hF : okF P) (hg : 29 ≤ g) (hc : ¬ (g ≤ c ∧ c ≤ g + 7)) (hc29 : 29 ≤ c) (hR : RepJ P J h g S) (hJ : Jok P S J) (hO : okO P (sOn S) (sOff S)) (hr : r < nb P) (hrr : rt P (sCl S) r = r) (hJr : J r = true) (hs : s ≤ ns P) :
    ∃ h', Co_passStage c g (nI r) (nI s) h = some h' ∧ XS P J h h' g c (sStage P r s S) (stD P S r s) 0 := by
  have n2 : nb P ≤ 6 := hk.1.2
  have n5 : ns P ≤ 5 := hk.2.2.2.2.2
  have n4 : nf P ≤ 9 := hk.2.2.2.1.2
  have hF0 := (hR.2.2.1 r hr hrr hJr).1
  have hC0 := (hR.2.2.1 r hr hrr hJr).2 s (by omega)
  have hM0 := hR.2.2.2.2.2 s hs
  have e0 : nI r * 6 + nI s = nI (6 * r + s) := by rw [show nI r * 6 = nI (r * 6) from pk_mul r 6, nI_add, Nat.mul_comm]
  unfold Co_passStage
  rw [e0]
  simp only [zlet_eq]
  have main : ∀ v, v = stN S r s → ∃ h', gd (zr (nI (6 * r + s)) 36) (gd (zr (nI (6 * r + s)) 36) (gd (zr (nI s) 6) (if (upd2 h (g + 4) (nI (6 * r + s)).toNatClampNeg v (g + 4) (nI (6 * r + s)).toNatClampNeg) < (upd2 h (g + 4) (nI (6 * r + s)).toNatClampNeg v 28 (nI s).toNatClampNeg) then some (upd2 h (g + 4) (nI (6 * r + s)).toNatClampNeg v) else (Co_onOfStage c g (nI r) (nI s) (upd2 h (g + 4) (nI (6 * r + s)).toNatClampNeg v)).bind fun r_1 => if r_1 = 0 then some (upd2 h (g + 4) (nI (6 * r + s)).toNatClampNeg v) else (Co_dropSet c g r_1 (upd2 h (g + 4) (nI (6 * r + s)).toNatClampNeg v)).bind fun h_2 => gd (zr (nI (6 * r + s)) 36) (some (upd2 h_2 (g + 4) (nI (6 * r + s)).toNatClampNeg 0))))) = some h' ∧ XS P J h h' g c (sStage P r s S) (stD P S r s) 0 := by
    intro v hv
    subst hv
    simp (disch := omega) only [zr_nI, gd_true, nI_clamp]
    rw [upd2_eq, upd_eq, upd2_ne (show (28 : Nat) ≠ g + 4 by omega), hX.2.2.2.2.2.2.2.2.2.2.2, upd2_c]
    have x1 : XS P J h (setc h (g + 4) (upd (h (g + 4)) (6 * r + s) (stN S r s))) g c (wC S (upC (sC S) r s (stN S r s))) [] 0 := XS.s ⟨by omega, by omega⟩ hc (hR.C (by omega) _)
    have hX1 : PX P (setc h (g + 4) (upd (h (g + 4)) (6 * r + s) (stN S r s))) := hX.setc (by omega)
    generalize setc h (g + 4) (upd (h (g + 4)) (6 * r + s) (stN S r s)) = h1 at x1 hX1
    by_cases hlt : stN S r s < P 11 s
    · rw [if_pos hlt]
      have e1 : stD P S r s = [] := by unfold stD; rw [if_pos hlt]
      have e2 : sStage P r s S = wC S (upC (sC S) r s (stN S r s)) := by unfold sStage; rw [if_pos e1]
      rw [e1, e2]
      exact ⟨h1, rfl, x1⟩
    · rw [if_neg hlt]
      have e00 : stD P S r s = dl P (sOn S) (selS P S r s) := by unfold stD; rw [if_neg hlt]
      obtain ⟨set, b1, b2⟩ := xonOf (c := c) (s := s) hX1 hk hF x1.2.1 (show Jok P (wC S (upC (sC S) r s (stN S r s))) J from hJ) (by omega) hJr
      rw [b1, Option.bind_some]
      have hz := set_zero (P := P) (on := sOn S) (sel := selS P S r s) b2
      by_cases h0 : set = 0
      · rw [if_pos h0]
        have e1 : stD P S r s = [] := by rw [e00]; exact hz.mp h0
        have e2 : sStage P r s S = wC S (upC (sC S) r s (stN S r s)) := by unfold sStage; rw [if_pos e1]
        rw [e1, e2]
        exact ⟨h1, rfl, x1⟩
      · rw [if_neg h0]
        obtain ⟨h2, d1, d2⟩ := xdropSet hX1 hk hg hc hc29 x1.2.1 (show okO P (sOn (wC S (upC (sC S) r s (stN S r s)))) (sOff (wC S (upC (sC S) r s (stN S r s)))) from hO) (selS P S r s) (fun f hf e => by
          unfold selS at e
          exact Jin hJ hJr (hF f hf).1.2 ((Bool.and_eq_true_iff.mp e).1)) set (fun f hf => by rw [b2 f]; simp [hf]; rfl)
        rw [d1, Option.bind_some]
        refine ⟨_, rfl, ?_⟩
        have x3 : XS P J h2 (setc h2 (g + 4) (upd (h2 (g + 4)) (6 * r + s) 0)) g c _ [] 0 := XS.s ⟨by omega, by omega⟩ hc (d2.2.1.C (r := r) (s := s) (by omega) 0)
        have x4 := (x1.tr d2).tr x3
        have e1 : ¬ stD P S r s = [] := by rw [e00]; exact fun q => h0 (hz.mpr q)
        have e2 : sStage P r s S = sDrop P (wC S (upC (sC S) r s 0)) (selS P S r s) := by unfold sStage; rw [if_neg e1]
        have e3 : wC (sDrop P (wC S (upC (sC S) r s (stN S r s))) (selS P S r s)) (upC (sC (sDrop P (wC S (upC (sC S) r s (stN S r s))) (selS P S r s))) r s 0) = sDrop P (wC S (upC (sC S) r s 0)) (selS P S r s) := by
          show (_, _, upC (upC (sC S) r s (stN S r s)) r s 0, _) = _
          rw [upC_upC]
        rw [e2, e00, upd2_c]
        rw [e3] at x4
        simpa using x4
  simp (disch := omega) only [zr_nI, gd_true, nI_clamp] at main ⊢
  rw [hF0, hM0, hC0]
  by_cases hcc : sMk S s ≤ sF S r
  · rw [if_pos hcc]
    exact main 0 (by unfold stN; rw [if_pos hcc])
  · rw [if_neg hcc]
    exact main _ (by unfold stN; rw [if_neg hcc])
