theorem sub_sub32 (a b c : Int32) : a - b - c = a - (b + c) := by
  rw [Int32.sub_eq_add_neg, Int32.sub_eq_add_neg, Int32.sub_eq_add_neg, Int32.neg_add, Int32.sub_eq_add_neg, Int32.add_assoc]
theorem tdiv20 {x : Int} (h1 : -200 ≤ x) (h2 : x ≤ 5000) : -10 ≤ x.tdiv 20 ∧ x.tdiv 20 ≤ 250 := by
  rcases Int.le_total 0 x with h | h
  · rw [Int.tdiv_eq_ediv_of_nonneg h]; omega
  · have e : x.tdiv 20 = -((-x).tdiv 20) := by rw [Int.neg_tdiv]; simp
    rw [e, Int.tdiv_eq_ediv_of_nonneg (by omega)]; omega
/-- a FEEDER of the class is dropped -/
theorem xdrop {P h : zH} {J : Nat → Bool} {g c : Nat} {S : St} (hk : okN P) (hR : RepJ P J h g S) {f : Nat} (hf : f < nf P) (hJf : J (fb P f) = true) (ho : sOn S f = true) (hc : ¬ (g ≤ c ∧ c ≤ g + 7)) :
    ∃ h', Gr_drop g (nI f) h = some h' ∧ Xfr g c h h' ∧ RepJ P J h' g (wO S (fun x => sOn S x && !(x == f)) (sOff S ++ [f])) ∧ h' c = h c := by
  have n4 : nf P ≤ 9 := hk.2.2.2.1.2
  obtain ⟨h1, h2, h3, h4, ⟨on, off, o1, o2, o3, o4⟩, h6⟩ := hR
  have hon : on f = true := by rw [o3 f hf hJf]; exact ho
  have hlt := o1.lt hf hon
  have hlen : h g 9 = nI off.length := o2.2.1
  have hbit : bt (h g 7) f = true := by rw [o2.1 f, hon]; simp [hf]
  unfold Gr_drop
  rw [has_eq _ (by omega : f < 32), Option.bind_some, hbit, if_neg (show ¬ b2i true = 0 by decide), hlen, if_neg (show ¬ (9 : Int32) ≤ nI off.length from nI_lt_of (e := 9) (by omega) (by omega))]
  have e1 : upd2 h g 7 (h g 7 &&& (zshl 1 (nI f) ^^^ -1)) g 9 = nI off.length := by rw [upd2_eq, upd_ne (by omega), hlen]
  have e2 : ∀ v, upd2 (upd2 h g 7 (h g 7 &&& (zshl 1 (nI f) ^^^ -1))) (g + 6) off.length v g 9 = nI off.length := fun v => by rw [upd2_ne (by omega), e1]
  simp (disch := omega) only [zlet, e1, zr_nI, gd_true, nI_clamp, e2, nI_1]
  refine ⟨_, rfl, ⟨fun k k1 k2 => by rw [upd2_ne (by omega), upd2_ne (by omega), upd2_ne (by omega)], by rw [upd2_eq, upd_ne (by omega), upd2_ne (by omega), upd2_eq, upd_ne (by omega)]⟩, ?_, by rw [upd2_ne (by omega), upd2_ne (by omega), upd2_ne (by omega)]⟩
  have z : ∀ k, k ≠ g → k ≠ g + 6 → upd2 (upd2 (upd2 h g 7 (h g 7 &&& (zshl 1 (nI f) ^^^ -1))) (g + 6) off.length (nI f)) g 9 (nI (off.length + 1)) k = h k := fun k k1 k2 => by rw [upd2_ne k1, upd2_ne k2, upd2_ne k1]
  refine ⟨?_, h2.of (z _ (by omega) (by omega)), ?_, ?_, ?_, ?_⟩
  · rw [upd2_eq, upd_ne (by omega), upd2_ne (by omega), upd2_eq, upd_ne (by omega)]; exact h1
  · rw [z (g + 3) (by omega) (by omega), z (g + 4) (by omega) (by omega)]; exact h3
  · rw [z (g + 5) (by omega) (by omega)]; exact h4
  · refine ⟨fun x => on x && !(x == f), off ++ [f], okO_drop o1 hf hon, ?_, fun x hx hJx => ?_, ?_⟩
    · rw [upd2_eq, upd_ne (show (7 : Nat) ≠ 9 by omega), upd2_ne (show g ≠ g + 6 by omega), upd2_eq, upd_eq, upd_eq, upd2_ne (show g + 6 ≠ g by omega), upd2_eq, upd2_ne (show g + 6 ≠ g by omega)]
      have := rpO_drop (row' := upd (h (g + 6)) off.length (nI f)) hk o2 hf (fun i hi => upd_ne hi) upd_eq
      rw [hlen, nI_1] at this
      exact this
    · show (on x && !(x == f)) = (sOn S x && !(x == f))
      rw [o3 x hx hJx]
    · show (off ++ [f]).filter _ = (sOff S ++ [f]).filter _
      rw [List.filter_append, List.filter_append, o4]
  · rw [z (g + 7) (by omega) (by omega)]; exact h6
/-- FEEDERS of a set are dropped -/
theorem xdropSet {P h : zH} {J : Nat → Bool} {g c : Nat} {S : St} (hX : PX P h) (hk : okN P) (hg : 29 ≤ g) (hc : ¬ (g ≤ c ∧ c ≤ g + 7)) (hc29 : 29 ≤ c) (hR : RepJ P J h g S) (hO : okO P (sOn S) (sOff S)) (sel : Nat → Bool) (hsel : ∀ f, f < nf P → sel f = true → J (fb P f) = true) (set : Int32) (hset : ∀ f, f < nf P → bt set f = (sel f && sOn S f)) :
    ∃ h', Co_dropSet c g set h = some h' ∧ XS P J h h' g c (sDrop P S sel) (dl P (sOn S) sel) 0 := by
  have n4 : nf P ≤ 9 := hk.2.2.2.1.2
  unfold Co_dropSet
  refine exists_step (loop_ex (fun n x s => Co_dropSet_L2 c g set (fun h_5 => some h_5) n x s) (fun h => some h) (fun i s => XS P J h s g c (sDropN S sel i) (dlN (sOn S) sel i) 0) (nf P) ?_ ?_ (nf P) 0 1000 h (by omega) (by omega) ?_) ?_
  · rintro n i s hi g1
    have hXs : PX P s := hX.of (fun k k1 k2 => g1.1.1 k (by omega) (by omega))
    have n3 : s 17 3 = nI (nf P) := by rw [hXs.1]; exact hk.2.2.2.1.1
    rw [Co_dropSet_L2, n3, if_neg (nI_lt_of hi (by omega)), has_eq _ (by omega : i < 32), Option.bind_some, nI_1, hset i hi]
    cases hd : (sel i && sOn S i)
    · rw [if_pos (by rfl)]
      refine ⟨s, ?_, rfl⟩
      have e8 : dlN (sOn S) sel (i + 1) = dlN (sOn S) sel i := by rw [dlN_succ, hd]; simp
      have e9 : sDropN S sel (i + 1) = sDropN S sel i := by
        refine wO_eq ?_ (by rw [e8])
        funext f
        by_cases e : f = i
        · subst e
          revert hd
          cases sel f <;> cases sOn S f <;> simp
        · have : (f < i + 1) ↔ (f < i) := by omega
          simp [this]
      rw [e8, e9]; exact g1
    · rw [if_neg (by decide)]
      have hd2 : sel i = true ∧ sOn S i = true := by simpa using hd
      obtain ⟨s2, d1, d2, d3, d4⟩ := xdrop (c := c) hk g1.2.1 hi (hsel i hi hd2.1) (by show (sOn S i && !(sel i && decide (i < i))) = true; simp [hd2.2]) hc
      have hl25 : s2 25 = P 8 := by rw [d2.1 25 (by omega) (by omega)]; exact hXs.2.2.2.2.2.2.2.2.1
      rw [d1, Option.bind_some]
      have e3 : ∀ v, upd2 s2 c 2 v 25 = P 8 := fun v => by rw [upd2_ne (by omega)]; exact hl25
      simp (disch := omega) only [zlet, zr_nI, gd_true, nI_clamp, e3]
      refine ⟨_, ?_, rfl⟩
      have e8 : dlN (sOn S) sel (i + 1) = dlN (sOn S) sel i ++ [i] := by rw [dlN_succ, hd]; simp
      have e9 : sDropN S sel (i + 1) = wO (sDropN S sel i) (fun x => sOn (sDropN S sel i) x && !(x == i)) (sOff (sDropN S sel i) ++ [i]) := by
        refine wO_eq ?_ ?_
        · funext f
          show (sOn S f && !(sel f && decide (f < i + 1))) = ((sOn S f && !(sel f && decide (f < i))) && !(f == i))
          by_cases e : f = i
          · subst e; simp [hd2]
          · have e2 : (f == i) = false := by simpa using e
            have : (f < i + 1) ↔ (f < i) := by omega
            simp [this, e2]
        · show sOff S ++ dlN (sOn S) sel (i + 1) = (sOff S ++ dlN (sOn S) sel i) ++ [i]
          rw [e8, List.append_assoc]
      rw [e8, e9]
      have x1 : XS P J s (upd2 (upd2 s2 c 2 (s2 c 2 + 1)) c 3 (upd2 s2 c 2 (s2 c 2 + 1) c 3 + P 8 i)) g c (wO (sDropN S sel i) (fun x => sOn (sDropN S sel i) x && !(x == i)) (sOff (sDropN S sel i) ++ [i])) [i] 0 := by
        refine ⟨d2.tr ⟨fun k k1 _ => by rw [upd2_ne k1, upd2_ne k1], by rw [upd2_ne (by omega), upd2_ne (by omega)]⟩, ?_, ?_⟩
        · rw [upd2_c, upd2_c]
          exact (d3.cell hc _).cell hc _
        · unfold ck
          rw [upd2_eq, upd2_eq, ← d4]
          refine ⟨?_, ?_, ?_⟩
          · rw [upd_ne (by omega), upd_eq]; rfl
          · rw [upd_eq, upd_ne (by omega)]; show _ = _ + (P 8 i + 0); rw [Int32.add_zero]
          · rw [upd_ne (by omega), upd_ne (by omega)]; exact (Int32.add_zero _).symm
      exact g1.tr x1
  · rintro n s g1
    have hXs : PX P s := hX.of (fun k k1 k2 => g1.1.1 k (by omega) (by omega))
    have n3 : s 17 3 = nI (nf P) := by rw [hXs.1]; exact hk.2.2.2.1.1
    rw [Co_dropSet_L2, n3, if_pos (nI_le_rf _)]
  · have e9 : sDropN S sel 0 = S := by
      show wO S _ _ = S
      have e1 : (fun f => sOn S f && !(sel f && decide (f < 0))) = sOn S := by funext f; simp
      have e2 : sOff S ++ dlN (sOn S) sel 0 = sOff S := by show sOff S ++ [] = _; rw [List.append_nil]
      rw [e1, e2]
    rw [e9]
    exact ⟨Xfr.rf, hR, ck.rf⟩
  · rintro ⟨s, g1, g2⟩
    exact ⟨s, g2, g1⟩
/-- PLANTS follow -/
theorem xfollow {P h : zH} {J : Nat → Bool} {g c r : Nat} {S : St} (hX : PX P h) (hk : okN P) (hP : okP P) (hF : okF P) (hg : 29 ≤ g) (hc : ¬ (g ≤ c ∧ c ≤ g + 7)) (hR : RepJ P J h g S) (hJ : Jok P S J) (hS : Sok P S) (hr : r < nb P) (hrr : rt P (sCl S) r = r) (hJr : J r = true) :
    ∃ h', Co_follow c g (nI r) h = some h' ∧ XS P J h h' g c (sFollow P S r) [] 0 := by
  have n2 : nb P ≤ 6 := hk.1.2
  have n4 : np P ≤ 6 := hk.2.2.1.2
  unfold Co_follow
  rw [xaim hX hk hF hR hJ hr hrr hJr, Option.bind_some, xgiven hX hk hP hR hJ (by omega) hJr, Option.bind_some, zlet_eq]
  have hld : 0 ≤ (sLoad P S r).toInt ∧ (sLoad P S r).toInt ≤ 450 := pLoad_bd (on := sOn S) (q := inR P S r) hk hF
  have hFb : -100 ≤ ((5000 - sF S r) / 20).toInt ∧ ((5000 - sF S r) / 20).toInt ≤ 5000 := by
    have hb : 0 ≤ (sF S r).toInt ∧ (sF S r).toInt ≤ 5200 := by
      rcases hS.2.1 r hr with e | e
      · rw [e]; decide
      · have := e.1; have := e.2; omega
    have e1 : (5000 - sF S r).toInt = 5000 - (sF S r).toInt := is' (by show -2147483648 ≤ 5000 - _; omega) (by show 5000 - _ < _; omega)
    have t1 := tdiv20 (x := 5000 - (sF S r).toInt) (by omega) (by omega)
    have e2 : ((5000 - sF S r) / 20).toInt = (5000 - (sF S r).toInt).tdiv 20 := by
      rw [Int32.toInt_div, e1]
      have : (20 : Int32).toInt = 20 := rfl
      rw [this]
      apply Int.bmod_eq_of_le <;> omega
    omega
  have haim : -1000 ≤ (sAim P S r).toInt ∧ (sAim P S r).toInt ≤ 10000 := by
    have : (sAim P S r).toInt = (sLoad P S r).toInt + ((5000 - sF S r) / 20).toInt := ia (by omega) (by omega)
    omega
  refine exists_step (loop_ex (fun n x (s : Int32 × zH) => Co_follow_L20 g (nI r) (fun h_3 => some h_3) n s.1 x s.2) (fun s => some s.2) (fun i s => s.1 = sAim P S r - pSum P (itr (flw1 P (inR P S r) (sAim P S r)) 0 i (sG S)) (inR P S r) ∧ ∃ gx, s.2 = setc h (g + 5) gx ∧ ∀ p, p < np P → J (pb P p) = true → gx p = itr (flw1 P (inR P S r) (sAim P S r)) 0 i (sG S) p) (np P) ?_ ?_ (np P) 0 1000 (sAim P S r - sGiven P S r, h) (by omega) (by omega) ⟨rfl, h (g + 5), setc_self.symm, fun p hp hJp => hR.2.2.2.1 p hp hJp⟩) ?_
  · rintro n i ⟨lack, s⟩ hi ⟨g1, gx, g2, g3⟩
    dsimp only at g1 g2
    subst g2
    have hbd := flw_bd hP (inR P S r) (sAim P S r) hS.2.2.1 i (by omega)
    have e9 : itr (flw1 P (inR P S r) (sAim P S r)) 0 (i + 1) (sG S) = flw1 P (inR P S r) (sAim P S r) i (itr (flw1 P (inR P S r) (sAim P S r)) 0 i (sG S)) := by rw [itr_snoc, Nat.zero_add]
    rw [e9]
    generalize itr (flw1 P (inR P S r) (sAim P S r)) 0 i (sG S) = gv at g1 g3 hbd
    have hXs : PX P (setc h (g + 5) gx) := hX.setc (by omega)
    obtain ⟨⟨f1, f2⟩, f3, f4, f5⟩ := hP i hi
    obtain ⟨r1, r2⟩ := hR.R (pb P i) (by omega)
    have hn : ¬ np P ≤ i := by omega
    have n3 : P 0 2 = nI (np P) := hk.2.2.1.1
    have e1 : setc h (g + 5) gx (g + 1) = h (g + 1) := setc_ne (by omega)
    dsimp only
    rw [Co_follow_L20, hXs.1, hXs.2.2.2.1, hXs.2.2.2.2.1, hXs.2.2.2.2.2.1, e1]
    simp (disch := omega) only [m2, m3, m4, m6, m67, a1, a2, a3, p6, p44, p51, p60, nI_add, nI_clamp, zr_nI, gd_true, zlet, Option.bind_some, mhas_eq, has_eq, nI_leI, nI_ltI, nI_eq, n3, hn, if_false]
    rw [f1]
    simp (disch := omega) only [m2, m3, m4, m6, m67, a1, a2, a3, p6, p44, p51, p60, nI_add, nI_clamp, zr_nI, gd_true, zlet, Option.bind_some, mhas_eq, has_eq, nI_leI, nI_ltI, nI_eq, r1, setc_eq, upd2_c, setc_setc]
    by_cases hin : rt P (sCl S) (pb P i) = r
    · have hJi : J (pb P i) = true := Jin hJ hJr f2 (decide_eq_true hin)
      have hgi : gx i = gv i := g3 i hi hJi
      have hsum := pSum_bd (P := P) (w := gv) (q := inR P S r) hk (fun p hp => ⟨(hbd p hp).1, by have := (hbd p hp).2; have := (hP p hp).2.1.2; omega⟩)
      have hlk : lack.toInt = (sAim P S r).toInt - (pSum P gv (inR P S r)).toInt := by rw [g1]; exact is' (by omega) (by omega)
      have hst := step_eq (g := gv i) (cap := P 4 i) (pace := P 5 i) (lack := lack) (hbd i hi) f3.2 f4 (by omega)
      rw [if_pos hin, hgi]
      refine ⟨(lack - zmax (-(zmin (P 5 i) (gv i))) (zmin (zmin (P 5 i) (P 4 i - gv i)) lack), setc h (g + 5) (upd gx i (gv i + zmax (-(zmin (P 5 i) (gv i))) (zmin (zmin (P 5 i) (P 4 i - gv i)) lack)))), ⟨?_, upd gx i (newg (gv i) (P 4 i) (P 5 i) lack), ?_, fun p hp hJp => ?_⟩, rfl⟩
      · dsimp only
        have hfl : flw1 P (inR P S r) (sAim P S r) i gv = upd gv i (newg (gv i) (P 4 i) (P 5 i) lack) := by
          unfold flw1
          rw [if_pos (decide_eq_true hin), g1]
        rw [hfl]
        have e5 : pSum P (upd gv i (newg (gv i) (P 4 i) (P 5 i) lack)) (inR P S r) = pSum P gv (inR P S r) + (newg (gv i) (P 4 i) (P 5 i) lack - gv i) := sumTo_upd (fun p => inR P S r (pb P p)) (decide_eq_true hin) (np P) hi
        rw [e5, ← hst]
        generalize zmax (-(zmin (P 5 i) (gv i))) (zmin (zmin (P 5 i) (P 4 i - gv i)) lack) = st
        rw [g1]
        have e6 : gv i + st - gv i = st := by rw [Int32.add_comm, Int32.add_sub_cancel]
        rw [e6, sub_sub32]
      · dsimp only; rw [hst]
      · unfold flw1
        rw [if_pos (decide_eq_true hin), ← g1]
        by_cases e : p = i
        · subst e; rw [upd_eq, upd_eq]
        · rw [upd_ne e, upd_ne e]; exact g3 p hp hJp
    · rw [if_neg hin]
      have hfl : flw1 P (inR P S r) (sAim P S r) i gv = gv := by unfold flw1; rw [if_neg (by simp [hin])]
      refine ⟨(lack, setc h (g + 5) gx), ⟨?_, gx, rfl, fun p hp hJp => ?_⟩, rfl⟩
      · rw [hfl]; exact g1
      · rw [hfl]; exact g3 p hp hJp
  · rintro n ⟨lack, s⟩ ⟨g1, gx, g2, g3⟩
    dsimp only at g2 ⊢
    subst g2
    have n3 : P 0 2 = nI (np P) := hk.2.2.1.1
    rw [Co_follow_L20, (hX.setc (a := g + 5) (by omega)).1, n3, if_pos (nI_le_rf _)]
  · rintro ⟨⟨lack, s⟩, ⟨g1, gx, g2, g3⟩, g4⟩
    dsimp only at g2
    subst g2
    exact ⟨_, g4, XS.s ⟨by omega, by omega⟩ hc (hR.G gx _ g3)⟩
