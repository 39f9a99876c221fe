/-! the PLANTS begin -/
noncomputable def gvN (P : zH) (S : St) : Nat → Nat → Int32
  | 0 => fun _ => 0
  | n + 1 => upd (gvN P S n) n (zmin (P 4 n) (sLoad P S (rt P (sCl S) (pb P n)) - pSum P (gvN P S n) (inR P S (rt P (sCl S) (pb P n)))))
theorem gvN_ge {P : zH} {S : St} : ∀ (n k : Nat), n ≤ k → gvN P S n k = 0
  | 0, k, _ => rfl
  | n + 1, k, h => by
    show upd (gvN P S n) n _ k = 0
    rw [upd_ne (by omega)]; exact gvN_ge n k (by omega)
theorem gvN_lt {P : zH} {S : St} : ∀ (n k m : Nat), k < n → n ≤ m → gvN P S m k = gvN P S n k
  | n, k, m, h, hm => by
    induction m with
    | zero => omega
    | succ m ih =>
      by_cases e : n = m + 1
      · rw [e]
      · show upd (gvN P S m) m _ k = _
        rw [upd_ne (by omega)]; exact ih (by omega)
theorem sumTo_cut {a : Nat → Int32} {i : Nat} : ∀ n, i ≤ n → (∀ k, i ≤ k → k < n → a k = 0) → sumTo a n = sumTo a i
  | 0, h, _ => by rw [show i = 0 by omega]
  | n + 1, h, hz => by
    by_cases e : i = n + 1
    · rw [e]
    · show sumTo a n + a n = _
      rw [hz n (by omega) (by omega), Int32.add_zero]
      exact sumTo_cut n (by omega) (fun k k1 k2 => hz k k1 (by omega))
noncomputable abbrev gvA (P : zH) (S : St) : Nat → Int32 := gvN P S (np P)
/-- what is left to be given -/
noncomputable def rem (P : zH) (S : St) (r i : Nat) : Int32 := sLoad P S r - sumTo (fun k => if inR P S r (pb P k) then gvA P S k else 0) i
theorem gv_rem {P : zH} {S : St} {i : Nat} (hi : i < np P) : gvA P S i = zmin (P 4 i) (rem P S (rt P (sCl S) (pb P i)) i) := by
  have h1 : gvA P S i = gvN P S (i + 1) i := gvN_lt (i + 1) i (np P) (by omega) (by omega)
  rw [h1]
  show upd (gvN P S i) i _ i = _
  rw [upd_eq]
  unfold rem pSum
  rw [sumTo_cut (i := i) (np P) (by omega) (fun k k1 k2 => by
    split
    · exact gvN_ge i k k1
    · rfl)]
  have : sumTo (fun p => if inR P S (rt P (sCl S) (pb P i)) (pb P p) = true then gvN P S i p else 0) i = sumTo (fun k => if inR P S (rt P (sCl S) (pb P i)) (pb P k) = true then gvA P S k else 0) i := sumTo_congr (fun k hk => by
    rw [show gvA P S k = gvN P S i k from gvN_lt i k (np P) hk (by omega)])
  rw [this]
theorem rem_succ {P : zH} {S : St} {r i : Nat} : rem P S r (i + 1) = rem P S r i - (if inR P S r (pb P i) then gvA P S i else 0) := by
  unfold rem
  show _ - (sumTo _ i + _) = _
  rw [sub_sub32]
/-- all of it lies between nothing and the cap -/
theorem rem_ok {P : zH} {S : St} (hk : okN P) (hP : okP P) (hF : okF P) (r : Nat) : ∀ i, i ≤ np P → 0 ≤ (rem P S r i).toInt ∧ (rem P S r i).toInt ≤ 450
  | 0, _ => by
    have h := pLoad_bd hk hF (on := sOn S) (q := inR P S r)
    have e : rem P S r 0 = sLoad P S r := by unfold rem; show _ - 0 = _; exact Int32.sub_zero _
    rw [e]; exact h
  | i + 1, hi => by
    obtain ⟨h1, h2⟩ := rem_ok (S := S) hk hP hF r i (by omega)
    rw [rem_succ]
    by_cases e : rt P (sCl S) (pb P i) = r
    · have e' : inR P S r (pb P i) = true := decide_eq_true e
      rw [if_pos e', gv_rem (by omega), e, zmin_if]
      by_cases q : P 4 i ≤ rem P S r i
      · rw [if_pos q]
        have q' := ile.mp q
        have c1 := (hP i (by omega)).2.1
        have c2 := c1.1
        rw [is' (by omega) (by omega)]
        omega
      · rw [if_neg q, is' (by omega) (by omega)]; omega
    · have e' : ¬ inR P S r (pb P i) = true := by simpa using e
      rw [if_neg e', Int32.sub_zero]; exact ⟨h1, h2⟩
theorem gv_ok {P : zH} {S : St} (hk : okN P) (hP : okP P) (hF : okF P) {i : Nat} (hi : i < np P) : 0 ≤ (gvA P S i).toInt ∧ (gvA P S i).toInt ≤ (P 4 i).toInt := by
  have h := rem_ok (S := S) hk hP hF (rt P (sCl S) (pb P i)) i (by omega)
  have c1 := (hP i hi).2.1.1
  rw [gv_rem hi, zmin_if]
  by_cases q : P 4 i ≤ rem P S (rt P (sCl S) (pb P i)) i
  · rw [if_pos q]; omega
  · rw [if_neg q]
    have := ilt.mp (Int32.not_le.mp q)
    omega
/-- the class gives -/
theorem give_x {P h : zH} {S : St} (hX : PX P h) (hk : okN P) (hP : okP P) (hF : okF P) (hR : RepX P h 29 S) : ∃ h', Gr_giveLoad 29 h = some h' ∧ (∀ k, k ≠ 34 → h' k = h k) ∧ RepX P h' 29 (wG S (gvA P S)) := by
  have n1 : nb P ≤ 6 := hk.1.2
  have n2 : np P ≤ 6 := hk.2.2.1.2
  unfold Gr_giveLoad
  refine exists_step (loop_ex (fun n x s => Gr_giveLoad_L2 29 (fun h_3 => Gr_giveLoad_L23 29 (fun h_6 => some h_6) 1000 0 h_3) n x s) (fun h_3 => Gr_giveLoad_L23 29 (fun h_6 => some h_6) 1000 0 h_3) (fun i s => ∃ r, s = setc h (29 + 5) r ∧ ∀ j, j < i → r j = 0) 6 ?_ ?_ 6 0 1000 h (by omega) (by omega) ⟨h (29 + 5), setc_self.symm, fun j hj => by omega⟩) ?_
  · rintro n i s hi ⟨r, rfl, g1⟩
    rw [Gr_giveLoad_L2, if_neg (show ¬ (6 : Int32) ≤ nI i from nI_lt_of (e := 6) hi (by omega)), zr_nI hi (by omega), gd_true, zlet_n, nI_clamp (by omega), nI_1, upd2_c, setc_eq, setc_setc]
    refine ⟨_, ⟨_, rfl, fun j hj => ?_⟩, rfl⟩
    by_cases e : j = i
    · subst e; exact upd_eq
    · rw [upd_ne e]; exact g1 j (by omega)
  · rintro n s ⟨r, rfl, g1⟩
    rw [Gr_giveLoad_L2]
    exact if_pos (nI_le_rf 6)
  · rintro ⟨s, ⟨r, rfl, g1⟩, g2⟩
    have g2' : Gr_giveLoad_L2 29 (fun h_3 => Gr_giveLoad_L23 29 (fun h_6 => some h_6) 1000 0 h_3) 1000 0 h = Gr_giveLoad_L23 29 (fun h_6 => some h_6) 1000 0 (setc h (29 + 5) r) := g2
    rw [g2']
    have hR0 : RepX P (setc h (29 + 5) r) 29 (wG S (gvN P S 0)) := ⟨hR.1.G r _ (fun p hp _ => g1 p (by omega)), by rw [setc_ne (by omega)]; exact hR.2⟩
    refine exists_step (loop_ex (fun n x s => Gr_giveLoad_L23 29 (fun h_6 => some h_6) n x s) (fun h_6 => some h_6) (fun i s => ∃ r, s = setc h (29 + 5) r ∧ RepX P s 29 (wG S (gvN P S i))) (np P) ?_ ?_ (np P) 0 1000 (setc h (29 + 5) r) (by omega) (by omega) ⟨r, rfl, hR0⟩) ?_
    · rintro n i s hi ⟨r', rfl, g3⟩
      have hXs : PX P (setc h (29 + 5) r') := hX.setc (by omega)
      have e0 : setc h (29 + 5) r' 17 2 = nI (np P) := by rw [hXs.1]; exact hk.2.2.1.1
      have hb : pb P i < nb P := (hP i hi).1.2
      have e20 : setc h (29 + 5) r' 20 i = nI (pb P i) := by rw [hXs.2.2.2.1]; exact (hP i hi).1.1
      have e21 : setc h (29 + 5) r' 21 i = P 4 i := by rw [hXs.2.2.2.2.1]
      have e30 : setc h (29 + 5) r' (29 + 1) (pb P i) = nI (rt P (sCl S) (pb P i)) := (g3.1.R _ (by omega)).1
      have hr6 : rt P (sCl S) (pb P i) < 6 := rt6 hk (by omega)
      rw [Gr_giveLoad_L23, e0, if_neg (nI_lt_of hi (by omega)), zr_nI (show i < 6 by omega) (by omega), gd_true, nI_clamp (show i < 2 ^ 31 by omega), e20, zr_nI (show pb P i < 6 by omega) (by omega), gd_true, zlet_n, nI_clamp (show pb P i < 2 ^ 31 by omega), e30, gd_true, xload hXs hk hF g3.1 allJ_ok hr6 rfl, Option.bind_some, xgiven hXs hk hP g3.1 allJ_ok hr6 rfl, Option.bind_some, gd_true, zlet_n, e21, nI_1, upd2_c, setc_eq, setc_setc]
      refine ⟨_, ⟨_, rfl, ?_⟩, rfl⟩
      have := g3.1.G (upd r' i (zmin (P 4 i) (sLoad P S (rt P (sCl S) (pb P i)) - pSum P (gvN P S i) (inR P S (rt P (sCl S) (pb P i)))))) (gvN P S (i + 1)) (fun p hp _ => by
        show upd r' i _ p = upd (gvN P S i) i _ p
        by_cases e : p = i
        · subst e; rw [upd_eq, upd_eq]
        · rw [upd_ne e, upd_ne e]
          have := g3.1.2.2.2.1 p hp rfl
          rw [setc_eq] at this
          exact this)
      rw [setc_setc] at this
      exact ⟨this, by rw [setc_ne (by omega)]; exact hR.2⟩
    · rintro n s ⟨r', rfl, g3⟩
      have hXs : PX P (setc h (29 + 5) r') := hX.setc (by omega)
      have e0 : setc h (29 + 5) r' 17 2 = nI (np P) := by rw [hXs.1]; exact hk.2.2.1.1
      rw [Gr_giveLoad_L23, e0, if_pos (nI_le_rf _)]
    · rintro ⟨s, ⟨r', rfl, g3⟩, g4⟩
      exact ⟨_, g4, fun k k4 => setc_ne k4, g3⟩
/-- the reference gives, an ISLAND -/
theorem begins_m {P hm : zH} {S : St} (hM : PM P hm) (hk : okN P) (hP : okP P) (hF : okF P) {c : Nat} (set : Int32) (hset : ∀ x, x < nb P → bt set x = inR P S c x) (h42 : ∀ f, f < nf P → bt (hm 7 42) f = sOn S f) (hg : ∀ p, p < np P → hm 7 (44 + p) = if rt P (sCl S) (pb P p) < c then gvA P S p else 0) : ∃ r, Mo_begins set hm = some (setc hm 7 r) ∧ (∀ j, ¬ (44 ≤ j ∧ j < 50) → r j = hm 7 j) ∧ ∀ p, p < np P → r (44 + p) = if rt P (sCl S) (pb P p) < c + 1 then gvA P S p else 0 := by
  have n1 : nb P ≤ 6 := hk.1.2
  have n2 : np P ≤ 6 := hk.2.2.1.2
  unfold Mo_begins
  have hld : Mo_load set hm = some (rem P S c 0) := by
    rw [mload_eq hM hk hF]
    have e : rem P S c 0 = sLoad P S c := by unfold rem; show _ - 0 = _; exact Int32.sub_zero _
    rw [e]
    exact congrArg some (pLoad_congr (fun f hf => hset _ (hF f hf).1.2) (fun f hf _ => h42 f hf))
  rw [hld, Option.bind_some]
  refine exists_step (loop_ex (fun n x (s : Int32 × zH) => Mo_begins_L8 set (fun h_3 => some h_3) n s.1 x s.2) (fun s => some s.2) (fun i s => s.1 = rem P S c i ∧ ∃ r, s.2 = setc hm 7 r ∧ (∀ j, ¬ (44 ≤ j ∧ j < 50) → r j = hm 7 j) ∧ ∀ p, p < np P → r (44 + p) = if rt P (sCl S) (pb P p) < c ∨ rt P (sCl S) (pb P p) = c ∧ p < i then gvA P S p else 0) (np P) ?_ ?_ (np P) 0 1000 (rem P S c 0, hm) (by omega) (by omega) ⟨rfl, hm 7, setc_self.symm, fun _ _ => rfl, fun p hp => ?_⟩) ?_
  · rintro n i ⟨x2, s⟩ hi ⟨rfl, r, rfl, g1, g2⟩
    dsimp only
    have hMs : PM P (setc hm 7 r) := hM.of Mfr.s7
    have e0 : setc hm 7 r 2 2 = nI (np P) := by rw [hMs.1 2 (by omega)]; exact hk.2.2.1.1
    have hb : pb P i < nb P := (hP i hi).1.2
    obtain ⟨q1, q2, _, _⟩ := hMs.2.2.1 i hi
    rw [Mo_begins_L8, e0, if_neg (nI_lt_of hi (by omega)), m4, show nI (4 * i) + 1 = nI (4 * i + 1) from nI_add (4 * i) 1, p44, zr_nI (show 4 * i < 48 by omega) (by omega), zr_nI (show 4 * i + 1 < 48 by omega) (by omega), zr_nI (show 44 + i < 67 by omega) (by omega), nI_clamp (show 4 * i < 2 ^ 31 by omega), nI_clamp (show 4 * i + 1 < 2 ^ 31 by omega), nI_clamp (show 44 + i < 2 ^ 31 by omega), q1, q2, (hP i hi).1.1, mhas_eq _ (show pb P i < 32 by omega), hset _ hb, nI_1]
    simp only [gd_n, bind_n, zlet_n]
    by_cases e : rt P (sCl S) (pb P i) = c
    · have e' : inR P S c (pb P i) = true := decide_eq_true e
      rw [e', if_neg (show ¬ b2i true = 0 by decide)]
      have hv : ∀ v, v = gvA P S i → ∃ s', ((s' : Int32 × zH).1 = rem P S c (i + 1) ∧ ∃ r, s'.2 = setc hm 7 r ∧ (∀ j, ¬ (44 ≤ j ∧ j < 50) → r j = hm 7 j) ∧ ∀ p, p < np P → r (44 + p) = if rt P (sCl S) (pb P p) < c ∨ rt P (sCl S) (pb P p) = c ∧ p < i + 1 then gvA P S p else 0) ∧ Mo_begins_L8 set (fun h_3 => some h_3) n (rem P S c i - upd2 (setc hm 7 r) 7 (44 + i) v 7 (44 + i)) (nI (i + 1)) (upd2 (setc hm 7 r) 7 (44 + i) v) = Mo_begins_L8 set (fun h_3 => some h_3) n s'.1 (nI (i + 1)) s'.2 := by
        intro v hv
        refine ⟨(_, _), ⟨?_, upd r (44 + i) v, ?_, fun j hj => ?_, fun p hp => ?_⟩, rfl⟩
        · show rem P S c i - upd2 (setc hm 7 r) 7 (44 + i) v 7 (44 + i) = _
          rw [upd2_eq, upd_eq, rem_succ, if_pos e', hv]
        · show upd2 (setc hm 7 r) 7 (44 + i) v = _
          rw [upd2_c, setc_eq, setc_setc]
        · rw [upd_ne (by omega)]; exact g1 j hj
        · by_cases ep : p = i
          · subst ep; rw [upd_eq, if_pos (Or.inr ⟨e, by omega⟩), hv]
          · rw [upd_ne (by omega), g2 p hp]
            by_cases z : rt P (sCl S) (pb P p) < c ∨ rt P (sCl S) (pb P p) = c ∧ p < i
            · rw [if_pos z, if_pos (by omega)]
            · rw [if_neg z, if_neg (by omega)]
      have hgv : gvA P S i = if P 4 i ≤ rem P S c i then P 4 i else rem P S c i := by rw [gv_rem hi, e, zmin_if]
      by_cases q : P 4 i ≤ rem P S c i
      · rw [if_pos q]; exact hv _ (by rw [hgv, if_pos q])
      · rw [if_neg q]; exact hv _ (by rw [hgv, if_neg q])
    · have e' : inR P S c (pb P i) = false := decide_eq_false e
      rw [e', if_pos (show b2i false = 0 by rfl)]
      refine ⟨(rem P S c i, setc hm 7 r), ⟨?_, r, rfl, g1, fun p hp => ?_⟩, rfl⟩
      · show rem P S c i = _
        rw [rem_succ, e']; exact (Int32.sub_zero _).symm
      · rw [g2 p hp]
        by_cases z : rt P (sCl S) (pb P p) < c ∨ rt P (sCl S) (pb P p) = c ∧ p < i
        · rw [if_pos z, if_pos (by omega)]
        · rw [if_neg z, if_neg (fun w => by
            by_cases ep : p = i
            · subst ep; omega
            · omega)]
  · rintro n ⟨x2, s⟩ ⟨_, r, rfl, g1, g2⟩
    dsimp only
    have hMs : PM P (setc hm 7 r) := hM.of Mfr.s7
    have e0 : setc hm 7 r 2 2 = nI (np P) := by rw [hMs.1 2 (by omega)]; exact hk.2.2.1.1
    rw [Mo_begins_L8, e0, if_pos (nI_le_rf _)]
  · rw [hg p hp]
    by_cases z : rt P (sCl S) (pb P p) < c
    · rw [if_pos z, if_pos (Or.inl z)]
    · rw [if_neg z, if_neg (by omega)]
  · rintro ⟨⟨x2, s⟩, ⟨_, r, rfl, g1, g2⟩, g3⟩
    refine ⟨r, g3, g1, fun p hp => ?_⟩
    rw [g2 p hp]
    by_cases z : rt P (sCl S) (pb P p) < c ∨ rt P (sCl S) (pb P p) = c ∧ p < np P
    · rw [if_pos z, if_pos (by omega)]
    · rw [if_neg z, if_neg (by omega)]
