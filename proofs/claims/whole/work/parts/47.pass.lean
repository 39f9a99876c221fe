abbrev allJ : Nat → Bool := fun _ => true
theorem allJ_ok {P : zH} {S : St} : Jok P S allJ := fun _ _ => rfl
/-- the class's grid g holds a state, all of it -/
def RepX (P : zH) (h : zH) (g : Nat) (S : St) : Prop := RepJ P allJ h g S ∧ h g 11 = sTk S
theorem filter_all (l : List Nat) : l.filter (fun _ => true) = l := List.filter_eq_self.mpr (fun _ _ => rfl)
/-- what FEEDERS are in the class, if all is told -/
theorem RepX.O {P h : zH} {g : Nat} {S : St} (hR : RepX P h g S) : okO P (sOn S) (sOff S) ∧ rpO P (h g 7) (h g 9) (h (g + 6)) (sOn S) (sOff S) := by
  obtain ⟨on, off, o1, o2, o3, o4⟩ := hR.1.2.2.2.2.1
  have e : off = sOff S := by
    have h1 : off.filter (fun _ => true) = (sOff S).filter (fun _ => true) := o4
    rw [filter_all, filter_all] at h1
    exact h1
  subst e
  refine ⟨⟨o1.1, o1.2.1, fun f hf => by rw [o1.2.2 f hf, o3 f hf rfl]⟩, fun f => ?_, o2.2⟩
  rw [o2.1 f]
  by_cases hf : f < nf P
  · rw [o3 f hf rfl]
  · simp [hf]
/-- the cells that a grid's TICKS leave as they are -/
def Xf (g c : Nat) (h h' : zH) : Prop := ∀ k, k ≠ c → ¬ (g ≤ k ∧ k ≤ g + 7) → h' k = h k
theorem xpass {P h : zH} {g c : Nat} {S : St} (hX : PX P h) (hk : okN P) (hP : okP P) (hF : okF P) (hg : 29 ≤ g) (hc : ¬ (g ≤ c ∧ c ≤ g + 7)) (hc29 : 29 ≤ c) (hR : RepX P h g S) (hS : Sok P S) :
    ∃ h', Co_pass c g h = some h' ∧ Xf g c h h' ∧ RepX P h' g (sTicks P S).1 ∧ ck P h h' c (sTicks P S).2.1 (sTicks P S).2.2 := by
  have n2 : nb P ≤ 6 := hk.1.2
  unfold Co_pass
  rw [zlet_eq, upd2_c]
  have hX0 : PX P (setc h g (upd (h g) 11 (h g 11 + 1))) := hX.setc hg
  have hR0 : RepJ P allJ (setc h g (upd (h g) 11 (h g 11 + 1))) g S := hR.1.of (fun k k1 k2 => setc_ne (by omega)) (by rw [setc_eq, upd_ne (by omega), upd_ne (by omega), upd_ne (by omega)]; exact ⟨rfl, rfl, rfl⟩)
  have hT0 : setc h g (upd (h g) 11 (h g 11 + 1)) g 11 = sTk S + 1 := by rw [setc_eq, upd_eq, hR.2]
  have hf0 : Xf g c h (setc h g (upd (h g) 11 (h g 11 + 1))) := fun k k1 k2 => setc_ne (by omega)
  have hck0 : setc h g (upd (h g) 11 (h g 11 + 1)) c = h c := setc_ne (by omega)
  generalize setc h g (upd (h g) 11 (h g 11 + 1)) = h0 at hX0 hR0 hT0 hf0 hck0
  refine exists_step (loop_ex (fun n x s => Co_pass_L15 c g (fun h_4 => some h_4) n x s) (fun h => some h) (fun i s => XS P allJ h0 s g c (itr (tk1 P) 0 i (S, [], 0)).1 (itr (tk1 P) 0 i (S, [], 0)).2.1 (itr (tk1 P) 0 i (S, [], 0)).2.2) (nb P) ?_ ?_ (nb P) 0 1000 h0 (by omega) (by omega) ⟨Xfr.rf, hR0, ck.rf⟩) ?_
  · rintro n i s hi g1
    obtain ⟨o1, o2, -⟩ := tks_ok hP hS i
    have e9 : itr (tk1 P) 0 (i + 1) (S, [], 0) = tk1 P i (itr (tk1 P) 0 i (S, [], 0)) := by rw [itr_snoc, Nat.zero_add]
    rw [e9]
    generalize itr (tk1 P) 0 i (S, [], 0) = q at g1 o1 o2
    have hXs : PX P s := hX0.of (fun k k1 k2 => g1.1.1 k (by omega) (by omega))
    have n3 : s 17 0 = nI (nb P) := by rw [hXs.1]; exact hk.1.1
    obtain ⟨r1, r2⟩ := g1.2.1.R i (by omega)
    rw [Co_pass_L15, n3, if_neg (nI_lt_of hi (by omega)), zr_nI (by omega) (by omega), gd_true, nI_clamp (by omega), nI_1, r1]
    by_cases hr : rt P (sCl q.1) i = i
    · rw [if_pos (by rw [hr])]
      by_cases hf : sF q.1 i = 0
      · rw [xisland0 hk g1.2.1 hi hr rfl hf, Option.bind_some]
        refine ⟨s, ?_, rfl⟩
        unfold tk1
        rw [if_neg (by simp [hf])]
        exact g1
      · obtain ⟨s', e1, e2⟩ := xisland (c := c) hXs hk hP hF hg hc hc29 g1.2.1 allJ_ok o1 hi hr rfl hf
        rw [e1, Option.bind_some]
        refine ⟨s', ?_, rfl⟩
        unfold tk1
        rw [if_pos ⟨hr, hf⟩]
        exact g1.tr e2
    · rw [if_neg (fun z => hr ((nI_eq (by omega) (by omega)).mp z))]
      refine ⟨s, ?_, rfl⟩
      unfold tk1
      rw [if_neg (by simp [hr])]
      exact g1
  · rintro n s g1
    have hXs : PX P s := hX0.of (fun k k1 k2 => g1.1.1 k (by omega) (by omega))
    have n3 : s 17 0 = nI (nb P) := by rw [hXs.1]; exact hk.1.1
    rw [Co_pass_L15, n3, if_pos (nI_le_rf _)]
  · rintro ⟨s, g1, g2⟩
    refine ⟨s, g2, fun k k1 k2 => (g1.1.1 k k1 k2).trans (hf0 k k1 k2), ?_, ?_⟩
    · obtain ⟨o1, o2, o3⟩ := tks_ok hP hS (nb P)
      unfold sTicks
      generalize itr (tk1 P) 0 (nb P) (S, [], 0) = q at g1 o1 o2 o3
      refine ⟨g1.2.1, ?_⟩
      show s g 11 = sTk q.1 + 1
      rw [g1.1.2, hT0, o3]
    · have := g1.2.2
      unfold ck at this ⊢
      rw [hck0] at this
      exact this
theorem sTicks_ok {P : zH} {S : St} (hP : okP P) (h : Sok P S) : Sok P (sTicks P S).1 ∧ sCl (sTicks P S).1 = sCl S ∧ sTk (sTicks P S).1 = sTk S + 1 := by
  obtain ⟨o1, o2, o3⟩ := tks_ok hP h (nb P)
  unfold sTicks
  generalize itr (tk1 P) 0 (nb P) (S, [], 0) = q at o1 o2 o3
  obtain ⟨a1, a2, a3, a4, a5⟩ := o1
  exact ⟨⟨a1, a2, a3, a4, a5⟩, o2, by show sTk q.1 + 1 = _; rw [o3]⟩
/-- class and reference in one state -/
def Core (P : zH) (S : St) (hx hm : zH) : Prop := Pok P ∧ PX P hx ∧ PM P hm ∧ Sok P S ∧ RepX P hx 29 S ∧ RepM P (hm 7) S
