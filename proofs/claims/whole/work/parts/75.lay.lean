theorem takes6 {P : zH} {S : St} (hk : okN P) (hl : okL P) (hP : okP P) (hF : okF P) (k : zH → Option zH) (hm : zH) (hM : PM P hm) (h43 : hm 7 43 = sCl S) (h42 : ∀ f, f < nf P → bt (hm 7 42) f = sOn S f) (h44 : ∀ p, p < np P → hm 7 (44 + p) = 0) : ∃ r, Mo_takes_L238 k 1000 0 hm = k (setc hm 7 r) ∧ (∀ j, ¬ (44 ≤ j ∧ j < 50) → r j = hm 7 j) ∧ ∀ p, p < np P → r (44 + p) = gvA P S p := by
  have n1 : nb P ≤ 6 := hk.1.2
  have n2 : np P ≤ 6 := hk.2.2.1.2
  refine exists_step (loop_ex (fun n x s => Mo_takes_L238 k n x s) k (fun i s => ∃ r, s = setc hm 7 r ∧ (∀ j, ¬ (44 ≤ j ∧ j < 50) → r j = hm 7 j) ∧ ∀ p, p < np P → r (44 + p) = if rt P (sCl S) (pb P p) < i then gvA P S p else 0) (nb P) ?_ ?_ (nb P) 0 1000 hm (by omega) (by omega) ⟨hm 7, setc_self.symm, fun _ _ => rfl, fun p hp => by rw [if_neg (by omega)]; exact h44 p hp⟩) ?_
  · rintro n i s hi ⟨r, rfl, g1, g2⟩
    have hMs : PM P (setc hm 7 r) := hM.of Mfr.s7
    have e0 : setc hm 7 r 2 0 = nI (nb P) := by rw [hMs.1 0 (by omega)]; exact hk.1.1
    have e43 : setc hm 7 r 7 43 = sCl S := by rw [setc_eq, g1 43 (by omega)]; exact h43
    rw [Mo_takes_L238, e0, if_neg (nI_lt_of hi (by omega)), isLowest_eq hMs hk hl hi, Option.bind_some, e43, nI_1]
    by_cases e : rt P (sCl S) i = i
    · rw [if_neg (show ¬ b2i (decide (rt P (sCl S) i = i)) = 0 by simp [e, b2i]), busesOf_eq hMs hk hl hi, Option.bind_some, e43, e]
      obtain ⟨r', w1, w2, w3⟩ := begins_m (S := S) (c := i) hMs hk hP hF (bset (fun c => decide (rt P (sCl S) c = i)) (nb P)) (fun x hx => bset_R hk S i hx) (fun f hf => by rw [setc_eq, g1 42 (by omega)]; exact h42 f hf) (fun p hp => by rw [setc_eq]; exact g2 p hp)
      rw [w1, Option.bind_some, setc_setc]
      refine ⟨_, ⟨r', rfl, fun j hj => by rw [w2 j hj, setc_eq]; exact g1 j hj, w3⟩, rfl⟩
    · rw [if_pos (show b2i (decide (rt P (sCl S) i = i)) = 0 by simp [e, b2i])]
      refine ⟨_, ⟨r, rfl, g1, fun p hp => ?_⟩, rfl⟩
      rw [g2 p hp]
      have hne : rt P (sCl S) (pb P p) ≠ i := fun z => e (by rw [← z]; exact rt_rt)
      by_cases z : rt P (sCl S) (pb P p) < i
      · rw [if_pos z, if_pos (by omega)]
      · rw [if_neg z, if_neg (by omega)]
  · rintro n s ⟨r, rfl, g1, g2⟩
    have hMs : PM P (setc hm 7 r) := hM.of Mfr.s7
    have e0 : setc hm 7 r 2 0 = nI (nb P) := by rw [hMs.1 0 (by omega)]; exact hk.1.1
    rw [Mo_takes_L238, e0, if_pos (nI_le_rf _)]
  · rintro ⟨s, ⟨r, rfl, g1, g2⟩, g3⟩
    refine ⟨r, g3, g1, fun p hp => ?_⟩
    rw [g2 p hp, if_pos (Nat.lt_of_le_of_lt rt_le (hP p hp).1.2)]
/-- the plan that the text tells -/
theorem DX.plan {h hm : zH} {b l q f s : Nat} (d : DX 17 h hm b l q f s) (hb : 0 < b) : Pok (fun k => h (17 + k)) ∧ nb (fun k => h (17 + k)) = b ∧ nl (fun k => h (17 + k)) = l ∧ np (fun k => h (17 + k)) = q ∧ nf (fun k => h (17 + k)) = f ∧ ns (fun k => h (17 + k)) = s := by
  obtain ⟨⟨b6, l9, q6, f9, s5⟩, ⟨c0, c1, c2, c3, c4⟩, _, dl, dq, df, ds⟩ := d
  have e0 : nb (fun k => h (17 + k)) = b := by show (h 17 0).toNatClampNeg = b; rw [c0]; exact nI_clamp (by omega)
  have e1 : nl (fun k => h (17 + k)) = l := by show (h 17 1).toNatClampNeg = l; rw [c1]; exact nI_clamp (by omega)
  have e2 : np (fun k => h (17 + k)) = q := by show (h 17 2).toNatClampNeg = q; rw [c2]; exact nI_clamp (by omega)
  have e3 : nf (fun k => h (17 + k)) = f := by show (h 17 3).toNatClampNeg = f; rw [c3]; exact nI_clamp (by omega)
  have e4 : ns (fun k => h (17 + k)) = s := by show (h 17 4).toNatClampNeg = s; rw [c4]; exact nI_clamp (by omega)
  refine ⟨⟨⟨⟨by rw [e0]; exact c0, by omega⟩, ⟨by rw [e1]; exact c1, by omega⟩, ⟨by rw [e2]; exact c2, by omega⟩, ⟨by rw [e3]; exact c3, by omega⟩, ⟨by rw [e4]; exact c4, by omega⟩⟩, by omega, fun i hi => ?_, fun i hi => ?_, fun i hi => ?_, fun i hi => ?_⟩, e0, e1, e2, e3, e4⟩
  · rw [e1] at hi
    obtain ⟨⟨j, j1, j2⟩, ⟨j', j3, j4⟩, _⟩ := dl i hi
    rw [e0]
    have x1 : la (fun k => h (17 + k)) i = j := by show (h 18 i).toNatClampNeg = j; rw [show h 18 i = nI j from j2]; exact nI_clamp (by omega)
    have x2 : lb (fun k => h (17 + k)) i = j' := by show (h 19 i).toNatClampNeg = j'; rw [show h 19 i = nI j' from j4]; exact nI_clamp (by omega)
    rw [x1, x2]; exact ⟨⟨j2, j1⟩, j4, j3⟩
  · rw [e2] at hi
    obtain ⟨⟨j, j1, j2⟩, z1, z2, z3, _⟩ := dq i hi
    rw [e0]
    have x1 : pb (fun k => h (17 + k)) i = j := by show (h 20 i).toNatClampNeg = j; rw [show h 20 i = nI j from j2]; exact nI_clamp (by omega)
    rw [x1]; exact ⟨⟨j2, j1⟩, z1, z2, z3⟩
  · rw [e3] at hi
    obtain ⟨⟨j, j1, j2⟩, z1, z2, _⟩ := df i hi
    rw [e0]
    have x1 : fb (fun k => h (17 + k)) i = j := by show (h 24 i).toNatClampNeg = j; rw [show h 24 i = nI j from j2]; exact nI_clamp (by omega)
    rw [x1]; exact ⟨⟨j2, j1⟩, z1, z2⟩
  · rw [e4] at hi
    exact (ds i hi).1
/-- the state at the start -/
noncomputable def S00 (P : zH) : St := (zshl 1 (nI (nl P)) - 1, fun _ => 5000, fun _ _ => 0, fun _ => 0, fun _ => true, [], P 10, 0)
theorem bt_low' {n : Nat} (hn : n < 10) (j : Nat) : bt (zshl 1 (nI n) - 1) j = decide (j < n) := by
  by_cases h : j < 32
  · exact bt_low n hn j h
  · rw [b_big (by omega)]; exact (decide_eq_false (by omega)).symm
theorem okO_nil {P : zH} : okO P (fun _ => true) [] := ⟨List.nodup_nil, (fun f hf => absurd hf List.not_mem_nil), (fun f _ => ⟨(fun z => absurd z List.not_mem_nil), (fun z => absurd (show true = false from z) (by decide))⟩)⟩
theorem S00_ok {P : zH} (hk : okN P) (hP : okP P) : Sok P (S00 P) := by
  have n9 := nl9 hk
  refine ⟨fun l hl => ?_, fun r _ => Or.inr ⟨by show 4700 ≤ (5000 : Int32).toInt; decide, by show (5000 : Int32).toInt ≤ 5200; decide⟩, fun p hp => ?_, okO_nil, trivial⟩
  · show bt (zshl 1 (nI (nl P)) - 1) l = false
    rw [bt_low' (by omega)]; exact decide_eq_false (by omega)
  · show 0 ≤ (0 : Int32).toInt ∧ (0 : Int32).toInt ≤ _
    have := (hP p hp).2.1.1
    exact ⟨by decide, by show (0 : Int) ≤ _; omega⟩
/-- the class lays out -/
theorem lay_x {P h : zH} (hX : PX P h) (hk : okN P) (hl : okL P) (hP : okP P) (hF : okF P) : ∃ h', Gr_layOut 29 h = some h' ∧ (∀ k, ¬ (29 ≤ k ∧ k ≤ 36) → h' k = h k) ∧ RepX P h' 29 (wG (S00 P) (gvA P (S00 P))) := by
  have n1 : nb P ≤ 6 := hk.1.2
  have n9 := nl9 hk
  have n4 : nf P ≤ 9 := hk.2.2.2.1.2
  have n5 : ns P ≤ 5 := hk.2.2.2.2.2
  have e1 : h 17 1 = nI (nl P) := by rw [hX.1]; exact hk.2.1.1
  have e3 : h 17 3 = nI (nf P) := by rw [hX.1]; exact hk.2.2.2.1.1
  unfold Gr_layOut
  rw [zlet_n, zlet_n, zlet_n, zlet_n, zlet_n, upd2_ne (show (17 : Nat) ≠ 29 by omega), e1, e3]
  have hX2 : PX P (cpy2 (upd2 (upd2 (upd2 (upd2 h 29 1 (zshl 1 (nI (nl P)) - 1)) 29 7 (zshl 1 (nI (nf P)) - 1)) 29 9 0) 29 11 0) 27 (29 + 7) 6) := hX.of' (fun k k1 k2 => by rw [cpy2_ne (by omega), upd2_ne (by omega), upd2_ne (by omega), upd2_ne (by omega), upd2_ne (by omega)])
  have z1 : cpy2 (upd2 (upd2 (upd2 (upd2 h 29 1 (zshl 1 (nI (nl P)) - 1)) 29 7 (zshl 1 (nI (nf P)) - 1)) 29 9 0) 29 11 0) 27 (29 + 7) 6 29 1 = zshl 1 (nI (nl P)) - 1 := by rw [cpy2_ne (by omega), upd2_eq, upd_ne (by omega), upd2_eq, upd_ne (by omega), upd2_eq, upd_ne (by omega), upd2_eq, upd_eq]
  have z7 : cpy2 (upd2 (upd2 (upd2 (upd2 h 29 1 (zshl 1 (nI (nl P)) - 1)) 29 7 (zshl 1 (nI (nf P)) - 1)) 29 9 0) 29 11 0) 27 (29 + 7) 6 29 7 = zshl 1 (nI (nf P)) - 1 := by rw [cpy2_ne (by omega), upd2_eq, upd_ne (by omega), upd2_eq, upd_ne (by omega), upd2_eq, upd_eq]
  have z9 : cpy2 (upd2 (upd2 (upd2 (upd2 h 29 1 (zshl 1 (nI (nl P)) - 1)) 29 7 (zshl 1 (nI (nf P)) - 1)) 29 9 0) 29 11 0) 27 (29 + 7) 6 29 9 = 0 := by rw [cpy2_ne (by omega), upd2_eq, upd_ne (by omega), upd2_eq, upd_eq]
  have z11 : cpy2 (upd2 (upd2 (upd2 (upd2 h 29 1 (zshl 1 (nI (nl P)) - 1)) 29 7 (zshl 1 (nI (nf P)) - 1)) 29 9 0) 29 11 0) 27 (29 + 7) 6 29 11 = 0 := by rw [cpy2_ne (by omega), upd2_eq, upd_eq]
  have z36 : ∀ s, s < 6 → cpy2 (upd2 (upd2 (upd2 (upd2 h 29 1 (zshl 1 (nI (nl P)) - 1)) 29 7 (zshl 1 (nI (nf P)) - 1)) 29 9 0) 29 11 0) 27 (29 + 7) 6 (29 + 7) s = P 10 s := fun s hs => by rw [cpy2_eq hs, upd2_ne (by omega), upd2_ne (by omega), upd2_ne (by omega), upd2_ne (by omega), hX.2.2.2.2.2.2.2.2.2.2.1]
  have zk : ∀ k, ¬ (29 ≤ k ∧ k ≤ 36) → cpy2 (upd2 (upd2 (upd2 (upd2 h 29 1 (zshl 1 (nI (nl P)) - 1)) 29 7 (zshl 1 (nI (nf P)) - 1)) 29 9 0) 29 11 0) 27 (29 + 7) 6 k = h k := fun k k0 => by rw [cpy2_ne (by omega), upd2_ne (by omega), upd2_ne (by omega), upd2_ne (by omega), upd2_ne (by omega)]
  revert hX2 z1 z7 z9 z11 z36 zk
  generalize cpy2 (upd2 (upd2 (upd2 (upd2 h 29 1 (zshl 1 (nI (nl P)) - 1)) 29 7 (zshl 1 (nI (nf P)) - 1)) 29 9 0) 29 11 0) 27 (29 + 7) 6 = H
  intro hX2 z1 z7 z9 z11 z36 zk
  obtain ⟨r, f1, f2⟩ := findRoots_eq (g := 29) hX2 hk hl (by omega)
  rw [z1] at f2
  rw [f1, Option.bind_some]
  refine exists_step (loop_ex (fun n x s => Gr_layOut_L64 29 (fun h_10 => (Gr_giveLoad 29 h_10).bind fun h_11 => some h_11) n x s) (fun h_10 => (Gr_giveLoad 29 h_10).bind fun h_11 => some h_11) (fun i s => ∃ f3 f4, s = setc (setc (setc H (29 + 1) r) (29 + 3) f3) (29 + 4) f4 ∧ ∀ b, b < i → f3 b = 5000 ∧ ∀ t, t < 6 → f4 (6 * b + t) = 0) 6 ?_ ?_ 6 0 1000 (setc H (29 + 1) r) (by omega) (by omega) ⟨setc H (29 + 1) r (29 + 3), setc H (29 + 1) r (29 + 4), by rw [setc_comm (by omega), setc_self, setc_self], fun b hb => by omega⟩) ?_
  · rintro n i s hi ⟨f3, f4, rfl, g1⟩
    rw [Gr_layOut_L64, if_neg (show ¬ (6 : Int32) ≤ nI i from nI_lt_of (e := 6) hi (by omega)), zr_nI hi (by omega), gd_true, zlet_n, nI_clamp (by omega), nI_1]
    obtain ⟨x, x1, x2, x3⟩ := clearC_eq (h := upd2 (setc (setc (setc H (29 + 1) r) (29 + 3) f3) (29 + 4) f4) (29 + 3) i 5000) (g := 29) hi
    have e5 : upd2 (setc (setc (setc H (29 + 1) r) (29 + 3) f3) (29 + 4) f4) (29 + 3) i 5000 (29 + 4) = f4 := by rw [upd2_ne (by omega), setc_eq]
    rw [e5] at x3
    rw [x1, Option.bind_some]
    refine ⟨_, ⟨upd f3 i 5000, x, ?_, fun b hb => ?_⟩, rfl⟩
    · rw [upd2_c, setc_ne (show 29 + 3 ≠ 29 + 4 by omega), setc_eq, setc_comm (show 29 + 4 ≠ 29 + 3 by omega), setc_setc, setc_setc]
    · by_cases e : b = i
      · subst e; exact ⟨upd_eq, x2⟩
      · refine ⟨by rw [upd_ne e]; exact (g1 b (by omega)).1, fun t ht => by rw [x3 _ (by omega)]; exact (g1 b (by omega)).2 t ht⟩
  · rintro n s ⟨f3, f4, rfl, g1⟩
    rw [Gr_layOut_L64]
    exact if_pos (nI_le_rf 6)
  · rintro ⟨s, ⟨f3, f4, rfl, g1⟩, g2⟩
    have K : ∀ k, k ≠ 29 + 1 → k ≠ 29 + 3 → k ≠ 29 + 4 → setc (setc (setc H (29 + 1) r) (29 + 3) f3) (29 + 4) f4 k = H k := fun k k1 k3 k4 => by rw [setc_ne k4, setc_ne k3, setc_ne k1]
    have hX3 : PX P (setc (setc (setc H (29 + 1) r) (29 + 3) f3) (29 + 4) f4) := hX2.of' (fun k k1 k2 => K k (by omega) (by omega) (by omega))
    generalize hh : setc (setc (setc H (29 + 1) r) (29 + 3) f3) (29 + 4) f4 = h3 at g2 K hX3
    have k1 : h3 (29 + 1) = r := by rw [← hh, setc_ne (by omega), setc_ne (by omega), setc_eq]
    have k3 : h3 (29 + 3) = f3 := by rw [← hh, setc_ne (by omega), setc_eq]
    have k4 : h3 (29 + 4) = f4 := by rw [← hh, setc_eq]
    -- with what the PLANTS give just now
    have hR0 : RepX P h3 29 (wG (S00 P) (h3 (29 + 5))) := by
      refine ⟨⟨by rw [K 29 (by omega) (by omega) (by omega)]; exact z1, fun b hb => ⟨by rw [k1]; exact f2 b hb, rt6 hk hb⟩, fun b hb hbb _ => ⟨by rw [k3]; exact (g1 b (by omega)).1, fun t ht => by rw [k4]; exact (g1 b (by omega)).2 t ht⟩, fun p hp _ => rfl, ⟨fun _ => true, [], okO_nil, ⟨fun f => ?_, by rw [K 29 (by omega) (by omega) (by omega)]; exact z9, fun i f hi => by cases hi⟩, fun _ _ _ => rfl, rfl⟩, fun s hs => ?_⟩, by rw [K 29 (by omega) (by omega) (by omega)]; exact z11⟩
      · rw [K 29 (by omega) (by omega) (by omega), z7, bt_low' (by omega), Bool.and_true]
      · rw [K (29 + 7) (by omega) (by omega) (by omega)]; exact z36 s (by omega)
    obtain ⟨h4, w1, w2, w3⟩ := give_x hX3 hk hP hF hR0
    rw [w1, Option.bind_some] at g2
    refine ⟨h4, g2, fun k k0 => by rw [w2 k (by omega), K k (by omega) (by omega) (by omega), zk k k0], ?_⟩
    have : wG (wG (S00 P) (h3 (29 + 5))) (gvA P (wG (S00 P) (h3 (29 + 5)))) = wG (S00 P) (gvA P (S00 P)) := by
      have hg : ∀ n, gvN P (wG (S00 P) (h3 (29 + 5))) n = gvN P (S00 P) n := by
        intro n
        induction n with
        | zero => rfl
        | succ n ih =>
          show upd (gvN P (wG (S00 P) (h3 (29 + 5))) n) n (zmin (P 4 n) (sLoad P (S00 P) (rt P (sCl (S00 P)) (pb P n)) - pSum P (gvN P (wG (S00 P) (h3 (29 + 5))) n) (inR P (S00 P) (rt P (sCl (S00 P)) (pb P n))))) = _
          rw [ih]; rfl
      show (_, _, _, gvN P (wG (S00 P) (h3 (29 + 5))) (np P), _) = _
      rw [hg]
    rw [this] at w3
    exact w3
