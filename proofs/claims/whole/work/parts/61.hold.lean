/-! a set of FEEDERS dropped on trial -/
noncomputable def dN (x : Int32) (n : Nat) (S : St) : St := itr (fun f S => if bt x f then wO S (fun y => sOn S y && !(y == f)) (sOff S ++ [f]) else S) 0 n S
theorem dN_succ {x : Int32} {n : Nat} {S : St} : dN x (n + 1) S = if bt x n then wO (dN x n S) (fun y => sOn (dN x n S) y && !(y == n)) (sOff (dN x n S) ++ [n]) else dN x n S := by
  unfold dN; rw [itr_snoc, Nat.zero_add]
theorem dN_ok {P : zH} {x : Int32} {S : St} (hS : Sok P S) (hx : ∀ f, f < nf P → bt x f = true → sOn S f = true) : ∀ n, n ≤ nf P → Sok P (dN x n S) ∧ sCl (dN x n S) = sCl S ∧ sF (dN x n S) = sF S ∧ ∀ f, n ≤ f → sOn (dN x n S) f = sOn S f
  | 0, _ => ⟨hS, rfl, rfl, fun _ _ => rfl⟩
  | n + 1, hn => by
    obtain ⟨h1, h2, h3, h4⟩ := dN_ok hS hx n (by omega)
    rw [dN_succ]
    cases e : bt x n
    · exact ⟨h1, h2, h3, fun f hf => h4 f (by omega)⟩
    · refine ⟨h1.O (okO_drop h1.2.2.2.1 (by omega) (by rw [h4 n (Nat.le_refl _)]; exact hx n (by omega) e)), h2, h3, fun f hf => ?_⟩
      show (sOn (dN x n S) f && !(f == n)) = _
      rw [h4 f (by omega), beq_eq_false_iff_ne.mpr (show f ≠ n by omega)]
      simp
theorem holdD_x {P h : zH} {S : St} {x : Int32} (hX : PX P h) (hk : okN P) (hS : Sok P S) (hR : RepX P h 37 S) (hx : ∀ f, f < nf P → bt x f = true → sOn S f = true) (k : zH → Option (Int32 × zH)) : ∃ h', SS_holds_L14 x k 1000 0 h = k h' ∧ (∀ k, ¬ (37 ≤ k ∧ k ≤ 44) → h' k = h k) ∧ RepX P h' 37 (dN x (nf P) S) := by
  have n4 : nf P ≤ 9 := hk.2.2.2.1.2
  refine exists_step (loop_ex (fun n i s => SS_holds_L14 x k n i s) k (fun i s => (∀ k, ¬ (37 ≤ k ∧ k ≤ 44) → s k = h k) ∧ RepX P s 37 (dN x i S)) (nf P) ?_ ?_ (nf P) 0 1000 h (by omega) (by omega) ⟨fun _ _ => rfl, hR⟩) ?_
  · rintro n i s hi ⟨g1, g2⟩
    have n0 : s 17 3 = nI (nf P) := by rw [g1 17 (by omega), hX.1]; exact hk.2.2.2.1.1
    rw [SS_holds_L14, n0, if_neg (nI_lt_of hi (by omega)), has_eq _ (show i < 32 by omega), Option.bind_some, nI_1, dN_succ]
    cases e : bt x i
    · rw [if_pos (show b2i false = 0 by rfl)]; exact ⟨s, ⟨g1, g2⟩, rfl⟩
    · rw [if_neg (show ¬ b2i true = 0 by decide)]
      obtain ⟨s', p1, p2, p3, p4⟩ := xdrop (c := 46) hk g2.1 hi rfl (by rw [(dN_ok hS hx i (by omega)).2.2.2 i (Nat.le_refl _)]; exact hx i hi e) (by omega)
      rw [p1, Option.bind_some]
      refine ⟨s', ⟨fun k k2 => ?_, p3, p2.2.trans g2.2⟩, rfl⟩
      by_cases q : k = 46
      · subst q; rw [p4]; exact g1 46 (by omega)
      · rw [p2.1 k q (by omega)]; exact g1 k k2
  · rintro n s ⟨g1, g2⟩
    have n0 : s 17 3 = nI (nf P) := by rw [g1 17 (by omega), hX.1]; exact hk.2.2.2.1.1
    rw [SS_holds_L14, n0, if_pos (nI_le_rf _)]
  · rintro ⟨s, ⟨g1, g2⟩, g3⟩
    exact ⟨s, g3, g1, g2⟩
theorem holdD_m {P hm : zH} {S : St} {x : Int32} (hM : PM P hm) (hk : okN P) (hS : Sok P S) (hR : RepM P (hm 7) S) (hx : ∀ f, f < nf P → bt x f = true → sOn S f = true) (k : zH → Option (Int32 × zH)) : ∃ h', Mo_isBorne_L14 x k 1000 0 hm = k h' ∧ Mtr hm h' ∧ RepM P (h' 7) (dN x (nf P) S) := by
  have n4 : nf P ≤ 9 := hk.2.2.2.1.2
  refine exists_step (loop_ex (fun n i s => Mo_isBorne_L14 x k n i s) k (fun i s => Mtr hm s ∧ RepM P (s 7) (dN x i S)) (nf P) ?_ ?_ (nf P) 0 1000 hm (by omega) (by omega) ⟨Mtr.rf, hR⟩) ?_
  · rintro n i s hi ⟨g1, g2⟩
    have hMs : PM P s := hM.of g1.1
    have n0 : s 2 3 = nI (nf P) := by rw [hMs.1 3 (by omega)]; exact hk.2.2.2.1.1
    have hok := dN_ok hS hx i (by omega)
    rw [Mo_isBorne_L14, n0, if_neg (nI_lt_of hi (by omega)), mhas_eq _ (show i < 32 by omega), Option.bind_some, nI_1, dN_succ]
    cases e : bt x i
    · rw [if_pos (show b2i false = 0 by rfl)]; exact ⟨s, ⟨g1, g2⟩, rfl⟩
    · rw [if_neg (show ¬ b2i true = 0 by decide)]
      obtain ⟨s', p1, p2⟩ := mdrop_eq hMs hk g2 hok.1.2.2.2.1 hi (by rw [hok.2.2.2 i (Nat.le_refl _)]; exact hx i hi e)
      rw [p1, Option.bind_some]
      exact ⟨s', ⟨g1.tr p2.t, p2.2.1⟩, rfl⟩
  · rintro n s ⟨g1, g2⟩
    have n0 : s 2 3 = nI (nf P) := by rw [(hM.of g1.1).1 3 (by omega)]; exact hk.2.2.2.1.1
    rw [Mo_isBorne_L14, n0, if_pos (nI_le_rf _)]
  · rintro ⟨s, ⟨g1, g2⟩, g3⟩
    exact ⟨s, g3, g1, g2⟩
theorem and_zero {x y : Int32} : x &&& y = 0 ↔ ∀ i, i < 32 → bt y i = true → bt x i = false := by
  constructor
  · intro h i hi hy
    have : bt (x &&& y) i = bt 0 i := by rw [h]
    rw [b_and, hy, b_0] at this
    simpa using this
  · intro h
    refine b_ext (fun i hi => ?_)
    rw [b_and, b_0]
    cases e : bt y i
    · simp
    · rw [h i hi e]; rfl
theorem hold_loop {P : zH} {cl FB : Int32} {r w : Nat} (hk : okN P) (hl : okL P) (hP : okP P) (hF : okF P) (hr : r < nb P) (hrr : rt P cl r = r) (hw : w ≤ 30) (hFB : ∀ f, bt FB f = (decide (f < nf P) && isl P cl r (fb P f))) : ∀ (d i n1 n2 : Nat) (S : St) (h hm : zH), i + d = w → d < n1 → d + 1 < n2 → sCl S = cl → RepJ P (isl P cl r) h 37 S → Sok P S → ¬ sF S r = 0 → RepM P (hm 7) S → PX P h → PM P hm → h 46 2 = 0 → (∀ f, f < nf P → isl P cl r (fb P f) = true → bt (hm 0 16) f = false) → ∃ v h' hm', (v = 0 ∨ v = 1) ∧ SS_holds_L60 (nI r) (nI w) (fun h_8 => some (0, h_8)) (fun h_9 => some (1, h_9)) n1 (nI i) h = some (v, h') ∧ Mo_isBorne_L56 (nI r) (nI w) FB (fun x5_2 h_7 => gd (zb x5_2) (some (x5_2, h_7))) n2 1 (nI i) hm = some (v, hm') ∧ Xtr h h' ∧ Mtr hm hm'
  | 0, i, n1 + 1, n2 + 1, S, h, hm, hi, _, _, _, _, _, _, _, _, _, _, _ => by
    have : i = w := by omega
    subst this
    refine ⟨1, h, hm, Or.inr rfl, ?_, ?_, Xtr.rf, Mtr.rf⟩
    · rw [SS_holds_L60, if_pos (nI_le_rf _)]
    · rw [Mo_isBorne_L56, if_pos (nI_le_rf _)]; rfl
  | d + 1, i, n1 + 1, n2 + 2, S, h, hm, hi, hn1, hn2, hcl, hR, hS, hd, hR2, hX, hM, hz, hz2 => by
    have n2' : nb P ≤ 6 := hk.1.2
    have n4 : nf P ≤ 9 := hk.2.2.2.1.2
    subst hcl
    obtain ⟨h', ds, bk, p1, p2, p3, p4, p5, p7, p6⟩ := one_pass hX hk hP hF (show 29 ≤ 37 by omega) (show ¬ (37 ≤ 46 ∧ 46 ≤ 37 + 7) by omega) (by omega) hR hS hr hrr hd
    obtain ⟨hm', q1, q2⟩ := mticks_eq hM hk hl hP hF hR2 hS
    obtain ⟨t1, t2, t3⟩ := sTicks_ok hP hS
    have fx : h' (37 + 3) r = sF (sTicks P S).1 r := (p3.2.2.1 r hr (by rw [t2]; exact hrr) (decide_eq_true hrr)).1
    have fm : hm' 7 r = sF (sTicks P S).1 r := by have := (q2.2.1.2.1 r hr).1; rw [t2, hrr] at this; exact this
    have ez : h' 46 2 = nI ds.length := by rw [p4.1, hz, Int32.zero_add]
    have em : ∀ f, bt (hm' 0 16) f = (bt (hm 0 16) f || decide (f ∈ (sTicks P S).2.1)) := q2.2.2.2.2.2.1
    rw [SS_holds_L60, if_neg (nI_lt_of (show i < w by omega) (by omega)), p1, Option.bind_some, ez, isDark_eq (show r < 6 by omega), Option.bind_some, fx, nI_1]
    rw [Mo_isBorne_L56, if_neg (nI_lt_of (show i < w by omega) (by omega)), if_neg (show ¬ (1 : Int32) = 0 by decide), q1, Option.bind_some, zr_nI (show r < 67 by omega) (by omega), gd_true, nI_clamp (show r < 2 ^ 31 by omega), fm, nI_1]
    have fail : ∃ v h'' hm'', (v = 0 ∨ v = 1) ∧ some ((0 : Int32), h') = some (v, h'') ∧ Mo_isBorne_L56 (nI r) (nI w) FB (fun x5_2 h_7 => gd (zb x5_2) (some (x5_2, h_7))) (n2 + 1) 0 (nI (i + 1)) hm' = some (v, hm'') ∧ Xtr h h'' ∧ Mtr hm hm'' := by
      refine ⟨0, h', hm', Or.inl rfl, rfl, ?_, p2.t, q2.t⟩
      rw [Mo_isBorne_L56]
      by_cases e6 : nI w ≤ nI (i + 1)
      · rw [if_pos e6]; rfl
      · rw [if_neg e6, if_pos rfl]; rfl
    cases hds : ds with
    | nil =>
      rw [List.length_nil, if_neg (show ¬ (0 : Int32) < nI 0 by decide)]
      have hnone : ∀ f, f < nf P → isl P (sCl S) r (fb P f) = true → bt (hm' 0 16) f = false := fun f hf hJ => by
        rw [em f, hz2 f hf hJ]
        have : f ∉ (sTicks P S).2.1 := fun z => by
          have := (p6 f hJ).mp z
          rw [hds] at this; cases this
        simp [this]
      have hand : hm' 0 16 &&& FB = 0 := and_zero.mpr (fun f _ hf => by
        rw [hFB f, Bool.and_eq_true, decide_eq_true_eq] at hf
        exact hnone f hf.1 hf.2)
      by_cases e : sF (sTicks P S).1 r = 0
      · rw [if_neg (show ¬ b2i (decide (sF (sTicks P S).1 r = 0)) = 0 by simp [e, b2i]), if_pos ((F_pos t1 hr).mpr e)]
        exact fail
      · rw [if_pos (show b2i (decide (sF (sTicks P S).1 r = 0)) = 0 by simp [e, b2i]), if_neg (fun z => e ((F_pos t1 hr).mp z)), if_pos hand]
        obtain ⟨v, hv, hmv, w0, w1, w2, w3, w4⟩ := hold_loop hk hl hP hF hr hrr hw hFB d (i + 1) n1 (n2 + 1) (sTicks P S).1 h' hm' (by omega) (by omega) (by omega) t2 p3 t1 e q2.2.1 (hX.of' (fun k k1 k2 => p2.1 k (by omega) (by omega))) (hM.of q2.1) (by rw [ez, hds]; rfl) hnone
        exact ⟨v, hv, hmv, w0, w1, w2, p2.t.tr w3, q2.t.tr w4⟩
    | cons f0 ds' =>
      have hlen : (f0 :: ds').length ≤ 54 := by rw [← hds]; exact p7
      have hl1 : 0 < (f0 :: ds').length := by simp
      rw [if_pos (show (0 : Int32) < nI (f0 :: ds').length from nI_lt (a := 0) hl1 (by omega))]
      have hf0 := p5 f0 (by rw [hds]; exact List.mem_cons_self)
      have hand : ¬ hm' 0 16 &&& FB = 0 := fun z => by
        have z1 := and_zero.mp z f0 (by omega) (by rw [hFB f0]; simp [hf0.1, hf0.2])
        rw [em f0] at z1
        have : f0 ∈ (sTicks P S).2.1 := (p6 f0 hf0.2).mpr (by rw [hds]; exact List.mem_cons_self)
        simp [this] at z1
      by_cases e : sF (sTicks P S).1 r ≤ 0
      · rw [if_pos e]; exact fail
      · rw [if_neg e, if_neg hand]; exact fail
theorem hold_eq {P : zH} {S : St} {h hm : zH} {r w : Nat} {x : Int32} (hk : okN P) (hl : okL P) (hP : okP P) (hF : okF P) (hX : PX P h) (hM : PM P hm) (hS : Sok P S) (hR : RepX P h 29 S) (hR2 : RepM P (hm 7) S) (hr : r < nb P) (hrr : rt P (sCl S) r = r) (hd : ¬ sF S r = 0) (hw : w ≤ 30) (hx : ∀ f, f < nf P → bt x f = true → sOn S f = true) : ∃ v h' hm', (v = 0 ∨ v = 1) ∧ SS_holds (nI r) x (nI w) h = some (v, h') ∧ Mo_isBorne (nI r) x (nI w) hm = some (v, hm') ∧ Xtr h h' ∧ Mtr hm hm' := by
  have n4 : nf P ≤ 9 := hk.2.2.2.1.2
  obtain ⟨o1, o2, o3, o4⟩ := dN_ok hS hx (nf P) (Nat.le_refl _)
  unfold SS_holds Mo_isBorne
  obtain ⟨x1, c1, c2, c3⟩ := copy_eq hk h (g := 37) (o := 29) (by omega)
  rw [c1, Option.bind_some, busesOf_eq hM hk hl hr, hR2.1, Option.bind_some, feedersOf_eq hM hk hF, Option.bind_some]
  have hFB : ∀ f, bt (bset (fun f => bt (bset (fun c => decide (rt P (sCl S) c = rt P (sCl S) r)) (nb P)) (fb P f)) (nf P)) f = (decide (f < nf P) && isl P (sCl S) r (fb P f)) := fun f => by
    rw [bt_bset _ _ (by omega)]
    by_cases e : f < nf P
    · rw [bset_R hk S _ (hF f e).1.2, hrr]
    · simp [e]
  generalize bset (fun f => bt (bset (fun c => decide (rt P (sCl S) c = rt P (sCl S) r)) (nb P)) (fb P f)) (nf P) = FB at hFB
  obtain ⟨x2, d1, d2, d3⟩ := holdD_x (hX.of' (fun k k1 k2 => c2 k (by omega))) hk hS (c3 S hR) hx (fun h_4 => (Co_forget 46 37 h_4).bind fun h_5 => SS_holds_L60 (nI r) (nI w) (fun h_8 => some (0, h_8)) (fun h_9 => some (1, h_9)) 1000 0 h_5)
  obtain ⟨y2, e1, e2, e3⟩ := holdD_m hM hk hS hR2 hx (fun h_3 => (Mo_fresh h_3).bind fun h_4 => Mo_isBorne_L56 (nI r) (nI w) FB (fun x5_2 h_7 => gd (zb x5_2) (some (x5_2, h_7))) 1000 1 0 h_4)
  rw [d1, e1, forget_eq, fresh_eq, Option.bind_some, Option.bind_some]
  have kx : Xtr h (upd2 (upd2 (upd2 x2 46 2 0) 46 3 0) 46 4 0) := fun k k1 k2 => by rw [upd2_ne k1, upd2_ne k1, upd2_ne k1, d2 k k2, c2 k (by omega)]
  have km : Mtr hm (upd2 (upd2 (upd2 (upd2 y2 0 13 0) 0 14 0) 0 15 0) 0 16 0) := ⟨fun k k0 k7 => by rw [upd2_ne k0, upd2_ne k0, upd2_ne k0, upd2_ne k0]; exact e2.1 k k0 k7, fun j hj => by rw [upd2_eq, upd_ne (by omega), upd2_eq, upd_ne (by omega), upd2_eq, upd_ne (by omega), upd2_eq, upd_ne (by omega)]; exact e2.2 j hj⟩
  obtain ⟨v, h', hm', v0, v1, v2, v3, v4⟩ := hold_loop (cl := sCl S) hk hl hP hF hr hrr hw hFB w 0 1000 1000 (dN x (nf P) S) (upd2 (upd2 (upd2 x2 46 2 0) 46 3 0) 46 4 0) (upd2 (upd2 (upd2 (upd2 y2 0 13 0) 0 14 0) 0 15 0) 0 16 0) (by omega) (by omega) (by omega) o2 ((d3.of (fun k k1 k2 => by rw [upd2_ne (by omega), upd2_ne (by omega), upd2_ne (by omega)])).J _) o1 (by rw [o3]; exact hd) (by rw [upd2_ne (by omega), upd2_ne (by omega), upd2_ne (by omega), upd2_ne (by omega)]; exact e3) (hX.of' (fun k k1 k2 => kx k (by omega) (by omega))) (hM.of km.1) (by rw [upd2_eq, upd_ne (by omega), upd2_eq, upd_ne (by omega), upd2_eq, upd_eq]) (fun f _ _ => by rw [upd2_eq, upd_eq, b_0])
  exact ⟨v, h', hm', v0, v1, v2, kx.tr v3, km.tr v4⟩
