/-! one ISLAND by itself -/
theorem RepX.J {P h : zH} {g : Nat} {S : St} (hR : RepX P h g S) (J : Nat → Bool) : RepJ P J h g S := by
  obtain ⟨o1, o2⟩ := hR.O
  obtain ⟨⟨h1, h2, h3, h4, h5, h6⟩, h7⟩ := hR
  exact ⟨h1, h2, fun r hr hrr _ => h3 r hr hrr rfl, fun p hp _ => h4 p hp rfl, ⟨sOn S, sOff S, o1, o2, fun _ _ _ => rfl, rfl⟩, h6⟩
noncomputable abbrev isl (P : zH) (cl : Int32) (r : Nat) : Nat → Bool := fun c => decide (rt P cl c = r)
theorem isl_ok {P : zH} {S : St} {r : Nat} : Jok P S (isl P (sCl S) r) := fun b _ => by
  show decide (rt P (sCl S) (rt P (sCl S) b) = r) = decide (rt P (sCl S) b = r)
  rw [rt_rt]
theorem ds_in {P : zH} {S : St} {r : Nat} (hP : okP P) (hF : okF P) (hS : Sok P S) (hrr : rt P (sCl S) r = r) : ∀ f ∈ (sTick1 P S r).2.1, f < nf P ∧ isl P (sCl S) r (fb P f) = true := by
  have h := (ag_tick1 (P := P) (J := fun c => !(isl P (sCl S) r c)) (S := S) (r := r) hP hF (fun b hb => by
    show (!(isl P (sCl S) r (rt P (sCl S) b))) = !(isl P (sCl S) r b)
    rw [isl_ok b hb]) hS (by simp [hrr])).2
  intro f hf
  obtain ⟨h1, h2⟩ := h f hf
  exact ⟨h1, by simpa using h2⟩
theorem before {P : zH} {S : St} {r : Nat} (hP : okP P) (hF : okF P) (hS : Sok P S) : ∀ i, i ≤ r → AgJ P (isl P (sCl S) r) S (itr (tk1 P) 0 i (S, [], 0)).1 ∧ ∀ f ∈ (itr (tk1 P) 0 i (S, [], 0)).2.1, isl P (sCl S) r (fb P f) = false
  | 0, _ => ⟨AgJ.rf, fun f hf => by cases hf⟩
  | i + 1, hi => by
    obtain ⟨h1, h2⟩ := before (r := r) hP hF hS i (by omega)
    obtain ⟨k1, k2, k3⟩ := tks_ok hP hS i
    rw [itr_snoc, Nat.zero_add]
    generalize itr (tk1 P) 0 i (S, [], 0) = q at h1 h2 k1 k2 k3
    unfold tk1
    by_cases e : rt P (sCl q.1) i = i ∧ ¬ sF q.1 i = 0
    · rw [if_pos e]
      have hJ : Jok P q.1 (isl P (sCl S) r) := by rw [← k2]; exact isl_ok
      have hJr : isl P (sCl S) r i = false := decide_eq_false (by rw [← k2, e.1]; omega)
      obtain ⟨a1, a2⟩ := ag_tick1 hP hF hJ k1 hJr
      refine ⟨h1.tr a1, fun f hf => ?_⟩
      rcases List.mem_append.mp hf with q' | q'
      · exact h2 f q'
      · exact (a2 f q').2
    · rw [if_neg e]; exact ⟨h1, h2⟩
theorem dl_len {on sel : Nat → Bool} {n : Nat} : (dlN on sel n).length ≤ n := by
  unfold dlN
  exact Nat.le_trans (List.length_filter_le _ _) (by rw [List.length_range]; exact Nat.le_refl _)
theorem stD_len {P : zH} {S : St} {r s : Nat} : (stD P S r s).length ≤ nf P := by
  unfold stD
  split
  · exact Nat.zero_le _
  · exact dl_len
theorem stages_len {P : zH} {r : Nat} (q : St × List Nat) : ∀ i, (itr (stages P r) 0 i q).2.length ≤ q.2.length + nf P * i
  | 0 => Nat.le_refl _
  | i + 1 => by
    have h1 := stages_len (P := P) (r := r) q i
    have h2 := stD_len (P := P) (S := (itr (stages P r) 0 i q).1) (r := r) (s := i + 1)
    rw [itr_snoc, Nat.zero_add]
    show ((itr (stages P r) 0 i q).2 ++ stD P (itr (stages P r) 0 i q).1 r (i + 1)).length ≤ _
    rw [List.length_append, Nat.mul_succ]
    omega
theorem tick_len {P : zH} {S : St} {r : Nat} (hk : okN P) : (sTick1 P S r).2.1.length ≤ 54 := by
  have n4 : nf P ≤ 9 := hk.2.2.2.1.2
  have n5 : ns P ≤ 5 := hk.2.2.2.2.2
  unfold sTick1
  dsimp only
  split
  · exact Nat.le_trans dl_len (by omega)
  · have h := stages_len (P := P) (r := r) (wF (sFollow P S r) (upF (sF (sFollow P S r)) r (nwF P (sFollow P S r) r)), []) (ns P)
    have h2 : nf P * ns P ≤ 9 * 5 := Nat.mul_le_mul n4 n5
    have h3 : ([] : List Nat).length = 0 := rfl
    dsimp only at h ⊢
    omega
/-- the class passes one ISLAND; the reference passes all of them -/
theorem one_pass {P h : zH} {g c r : Nat} {S : St} (hX : PX P h) (hk : okN P) (hP : okP P) (hF : okF P) (hg : 29 ≤ g) (hc : ¬ (g ≤ c ∧ c ≤ g + 7)) (hc29 : 29 ≤ c) (hR : RepJ P (isl P (sCl S) r) h g S) (hS : Sok P S) (hr : r < nb P) (hrr : rt P (sCl S) r = r) (hd : ¬ sF S r = 0) :
    ∃ h' ds bk, Co_passIsland c g (nI r) h = some h' ∧ Xfr g c h h' ∧ RepJ P (isl P (sCl S) r) h' g (sTicks P S).1 ∧ ck P h h' c ds bk ∧ (∀ f ∈ ds, f < nf P ∧ isl P (sCl S) r (fb P f) = true) ∧ ds.length ≤ 54 ∧ ∀ f, isl P (sCl S) r (fb P f) = true → (f ∈ (sTicks P S).2.1 ↔ f ∈ ds) := by
  obtain ⟨h1, h2⟩ := before (r := r) hP hF hS r (Nat.le_refl _)
  obtain ⟨k1, k2, k3⟩ := tks_ok hP hS r
  have hJr : isl P (sCl S) r r = true := decide_eq_true hrr
  have e0 := itr_snoc (tk1 P) r 0 (S, [], 0)
  rw [Nat.zero_add] at e0
  generalize hq : itr (tk1 P) 0 r (S, [], 0) = q at h1 h2 k1 k2 k3 e0
  have hJ : Jok P q.1 (isl P (sCl S) r) := by rw [← k2]; exact isl_ok
  have hrr2 : rt P (sCl q.1) r = r := by rw [k2]; exact hrr
  have hd2 : ¬ sF q.1 r = 0 := by rw [(h1.2.1 r hr hrr hJr).1]; exact hd
  obtain ⟨h', x1, x2, x3, x4⟩ := xisland hX hk hP hF hg hc hc29 (hR.ag h1) hJ k1 hr hrr2 hJr hd2
  have e1 : itr (tk1 P) 0 (r + 1) (S, [], 0) = ((sTick1 P q.1 r).1, q.2.1 ++ (sTick1 P q.1 r).2.1, q.2.2 + (sTick1 P q.1 r).2.2) := by
    rw [e0]; unfold tk1; rw [if_pos ⟨hrr2, hd2⟩]
  have hds := ds_in hP hF k1 hrr2
  rw [k2] at hds
  have after : ∀ d, RepJ P (isl P (sCl S) r) h' g (itr (tk1 P) 0 (r + 1 + d) (S, [], 0)).1 ∧ ∀ f, isl P (sCl S) r (fb P f) = true → (f ∈ (itr (tk1 P) 0 (r + 1 + d) (S, [], 0)).2.1 ↔ f ∈ (sTick1 P q.1 r).2.1) := by
    intro d
    induction d with
    | zero =>
      rw [Nat.add_zero, e1]
      refine ⟨x3, fun f hf => ⟨fun hm => ?_, fun hm => List.mem_append.mpr (Or.inr hm)⟩⟩
      rcases List.mem_append.mp hm with z | z
      · have := h2 f z; rw [hf] at this; cases this
      · exact z
    | succ d ih =>
      obtain ⟨i1, i2⟩ := ih
      obtain ⟨t1, t2, t3⟩ := tks_ok hP hS (r + 1 + d)
      rw [← Nat.add_assoc, itr_snoc, Nat.zero_add]
      generalize itr (tk1 P) 0 (r + 1 + d) (S, [], 0) = p at i1 i2 t1 t2 t3
      unfold tk1
      by_cases e : rt P (sCl p.1) (r + 1 + d) = r + 1 + d ∧ ¬ sF p.1 (r + 1 + d) = 0
      · rw [if_pos e]
        have hJ' : Jok P p.1 (isl P (sCl S) r) := by rw [← t2]; exact isl_ok
        have hJr' : isl P (sCl S) r (r + 1 + d) = false := decide_eq_false (by rw [← t2, e.1]; omega)
        obtain ⟨a1, a2⟩ := ag_tick1 hP hF hJ' t1 hJr'
        refine ⟨i1.ag a1, fun f hf => ⟨fun hm => ?_, fun hm => List.mem_append.mpr (Or.inl ((i2 f hf).mpr hm))⟩⟩
        rcases List.mem_append.mp hm with z | z
        · exact (i2 f hf).mp z
        · have := (a2 f z).2; rw [hf] at this; cases this
      · rw [if_neg e]; exact ⟨i1, i2⟩
  obtain ⟨f1, f2⟩ := after (nb P - (r + 1))
  rw [show r + 1 + (nb P - (r + 1)) = nb P by omega] at f1 f2
  exact ⟨h', _, _, x1, x2, f1, x4, hds, tick_len hk, f2⟩
/-- what no trial touches -/
def Xtr (h h' : zH) : Prop := ∀ k, k ≠ 46 → ¬ (37 ≤ k ∧ k ≤ 44) → h' k = h k
def Mtr (hm hm' : zH) : Prop := Mfr hm hm' ∧ ∀ j, j < 13 → hm' 0 j = hm 0 j
theorem Xtr.rf {h : zH} : Xtr h h := fun _ _ _ => rfl
theorem Xtr.tr {a b c : zH} (h : Xtr a b) (h' : Xtr b c) : Xtr a c := fun k k1 k2 => (h' k k1 k2).trans (h k k1 k2)
theorem Mtr.rf {h : zH} : Mtr h h := ⟨Mfr.rf, fun _ _ => rfl⟩
theorem Mtr.tr {a b c : zH} (h : Mtr a b) (h' : Mtr b c) : Mtr a c := ⟨h.1.tr h'.1, fun j hj => (h'.2 j hj).trans (h.2 j hj)⟩
theorem Xfr.t {h h' : zH} (x : Xfr 37 46 h h') : Xtr h h' := fun k k1 k2 => x.1 k k1 (by omega)
theorem MS.t {P hm hm' : zH} {S : St} {ds : List Nat} {bk : Nat} (m : MS P hm hm' S ds bk) : Mtr hm hm' := ⟨m.1, m.2.2.2.2.2.2⟩
theorem nI60 {i : Nat} (h : i ≤ 60) : ¬ (60 : Int32) < nI i := nI_nlt (a := 60) h (by omega)
theorem dark_loop {P : zH} {cl : Int32} {r b : Nat} (hk : okN P) (hl : okL P) (hP : okP P) (hF : okF P) (hr : r < nb P) (hrr : rt P cl r = r) (hb : b < nb P) (hbr : rt P cl b = r) (k69 : Int32 → zH → Option (Int32 × zH)) : ∀ (d i n1 n2 : Nat) (S : St) (h hm : zH), i + d = 60 → d < n1 → d + 1 < n2 → sCl S = cl → RepJ P (isl P cl r) h 37 S → Sok P S → ¬ sF S r = 0 → RepM P (hm 7) S → PX P h → PM P hm → ∃ v h' hm', SS_dark_L50 (nI r) (fun x3_1 h_4 => some (x3_1, h_4)) (fun h_5 => some ((-4), h_5)) n1 (nI (i + 1)) h = some (v, h') ∧ Mo_dark_L31 (nI b) k69 n2 (-4) (nI (i + 1)) hm = k69 v hm' ∧ Xtr h h' ∧ Mtr hm hm'
  | 0, i, n1 + 1, n2 + 1, S, h, hm, hi, _, _, _, _, _, _, _, _, _ => by
    have : i = 60 := by omega
    subst this
    refine ⟨-4, h, hm, ?_, ?_, Xtr.rf, Mtr.rf⟩
    · rw [SS_dark_L50, if_pos (show (60 : Int32) < nI 61 by decide)]
    · rw [Mo_dark_L31, if_pos (show (60 : Int32) < nI 61 by decide)]
  | d + 1, i, n1 + 1, n2 + 2, S, h, hm, hi, hn1, hn2, hcl, hR, hS, hd, hR2, hX, hM => by
    have n2' : nb P ≤ 6 := hk.1.2
    subst hcl
    obtain ⟨h', ds, bk, p1, p2, p3, p4, p5, p7, p6⟩ := one_pass hX hk hP hF (show 29 ≤ 37 by omega) (show ¬ (37 ≤ 46 ∧ 46 ≤ 37 + 7) by omega) (by omega) hR hS hr hrr hd
    obtain ⟨hm', q1, q2⟩ := mticks_eq hM hk hl hP hF hR2 hS
    obtain ⟨t1, t2, t3⟩ := sTicks_ok hP hS
    have fx : h' (37 + 3) r = sF (sTicks P S).1 r := (p3.2.2.1 r hr (by rw [t2]; exact hrr) (decide_eq_true hrr)).1
    have fm : hm' 7 b = sF (sTicks P S).1 r := by have := (q2.2.1.2.1 b hb).1; rw [t2, hbr] at this; exact this
    rw [SS_dark_L50, if_neg (nI60 (show i + 1 ≤ 60 by omega)), p1, Option.bind_some, isDark_eq (show r < 6 by omega), Option.bind_some, fx, nI_1]
    rw [Mo_dark_L31, if_neg (nI60 (show i + 1 ≤ 60 by omega)), if_pos rfl, q1, Option.bind_some, zr_nI (show b < 67 by omega) (by omega), gd_true, nI_clamp (show b < 2 ^ 31 by omega), fm, nI_1]
    by_cases e : sF (sTicks P S).1 r = 0
    · rw [if_neg (show ¬ b2i (decide (sF (sTicks P S).1 r = 0)) = 0 by simp [e, b2i]), if_pos e]
      refine ⟨nI (i + 1), h', hm', rfl, ?_, p2.t, q2.t⟩
      rw [Mo_dark_L31]
      have hne : ¬ nI (i + 1) = -4 := fun z => by
        have z1 := ieq.mp z
        rw [nI_toInt (by omega)] at z1
        have : (-4 : Int32).toInt = -4 := rfl
        omega
      rw [if_neg hne]
      by_cases e6 : (60 : Int32) < nI (i + 1 + 1)
      · rw [if_pos e6]
      · rw [if_neg e6]
    · rw [if_pos (show b2i (decide (sF (sTicks P S).1 r = 0)) = 0 by simp [e, b2i]), if_neg e]
      obtain ⟨v, hv, hmv, w1, w2, w3, w4⟩ := dark_loop hk hl hP hF hr hrr hb hbr k69 d (i + 1) n1 (n2 + 1) (sTicks P S).1 h' hm' (by omega) (by omega) (by omega) t2 p3 t1 e q2.2.1 (hX.of' (fun k k1 k2 => p2.1 k (by omega) (by omega))) (hM.of q2.1)
      exact ⟨v, hv, hmv, w1, w2, p2.t.tr w3, q2.t.tr w4⟩
/-- a trial is over: all is as it was -/
theorem trial_end {P : zH} {S : St} {L : List St} {hx hm hx' y : zH} {c9 c7 : Nat → Int32} (C : Core P S hx hm) (hT : isIn (sTk S) 0 9999) (hL : HS P hx hm L) (hTx : TXt hx hm) (h9 : ∀ i, i < 67 → c9 i = hm 7 i) (hX : Xtr hx hx') (hM : Mtr (setc hm 9 c9) y) (h7 : ∀ i, i < 67 → c7 i = y 9 i) : Inv hx' (setc y 7 c7) := by
  have kx := hX
  have km : ∀ k, k ≠ 0 → k ≠ 7 → k ≠ 9 → setc y 7 c7 k = hm k := fun k k0 k7 k9 => by rw [setc_ne k7, hM.1 k k0 k7, setc_ne k9]
  have k0 : ∀ j, j < 13 → setc y 7 c7 0 j = hm 0 j := fun j hj => by rw [setc_ne (by omega), hM.2 j hj, setc_ne (by omega)]
  refine ⟨P, S, L, C.mk C.2.2.2.1 (fun k k1 k2 => kx k (by omega) (by omega)) (fun k k1 k2 => km k (by omega) (by omega) (by omega)) (C.2.2.2.2.1.of (fun k k1 k2 => kx k (by omega) (by omega))) ?_, hT, hL.of (fun k k1 k2 => kx k (by omega) (by omega)) (km 8 (by omega) (by omega) (by omega)) (k0 10 (by omega)), hTx.of (kx 1 (by omega) (by omega)) (kx 2 (by omega) (by omega)) (k0 0 (by omega)) (km 1 (by omega) (by omega) (by omega))⟩
  rw [setc_eq]
  exact C.2.2.2.2.2.of67 C.1.1 C.2.2.2.1 (fun i hi => by rw [h7 i hi, hM.1 9 (by omega) (by omega), setc_eq]; exact h9 i hi)
theorem do_dark {hx hm : zH} (I : Inv hx hm) (v : Int32) : Ok2 (SS_dark v hx) (Mo_dark v hm) := by
  obtain ⟨P, S, L, C, hT, hL, hTx⟩ := id I
  obtain ⟨⟨hk, hb1, hl, hP, hF, hSt⟩, hX, hM, hS, hR, hR2⟩ := id C
  have n2 : nb P ≤ 6 := hk.1.2
  unfold SS_dark Mo_dark
  rcases isBus_x hX hk v with ⟨b, hb, rfl, e⟩ | ⟨q, e⟩
  · have hrb : rt P (sCl S) b < nb P := Nat.lt_of_le_of_lt rt_le hb
    have hrr : rt P (sCl S) (rt P (sCl S) b) = rt P (sCl S) b := rt_rt
    rw [e, (isBus_m hM hk (nI b)).1 b hb rfl, Option.bind_some, Option.bind_some, if_neg (show ¬ (1 : Int32) = 0 by decide), if_neg (show ¬ (1 : Int32) = 0 by decide), zr_nI (show b < 6 by omega) (by omega), zr_nI (show b < 67 by omega) (by omega), gd_true, gd_true, zlet_n, nI_clamp (show b < 2 ^ 31 by omega), show hx 30 b = nI (rt P (sCl S) b) from (hR.1.R b (by omega)).1, (hR2.2.1 b hb).1, isDark_eq (show rt P (sCl S) b < 6 by omega), (hR.1.2.2.1 _ hrb hrr rfl).1, Option.bind_some]
    by_cases hd : sF S (rt P (sCl S) b) = 0
    · rw [if_neg (by simp [hd, b2i]), if_pos hd]; exact ⟨_, _, _, rfl, rfl, I⟩
    · rw [if_pos (by simp [hd, b2i]), if_neg hd]
      obtain ⟨x1, c1, c2, c3⟩ := copy_eq hk hx (g := 37) (o := 29) (by omega)
      obtain ⟨r9, s1, s2⟩ := saves_eq hm
      rw [c1, s1, Option.bind_some, Option.bind_some]
      obtain ⟨w, hv, hmv, w1, w2, w3, w4⟩ := dark_loop hk hl hP hF hrb hrr hb rfl (fun x2_1 h_4 => (Mo_restores h_4).bind fun h_5 => some (x2_1, h_5)) 60 0 1000 1000 S x1 (setc hm 9 r9) (by omega) (by omega) (by omega) rfl ((c3 S hR).J _) hS hd (by rw [setc_ne (by omega)]; exact hR2) (hX.of' (fun k k1 k2 => c2 k (by omega))) (hM.of' (fun k k1 k2 => setc_ne (by omega)))
      obtain ⟨r7, t1, t2⟩ := restores_eq hmv
      rw [t1, Option.bind_some] at w2
      exact ⟨w, hv, _, w1, w2, trial_end C hT hL hTx s2 (Xtr.tr (fun k k1 k2 => c2 k (by omega)) w3) w4 t2⟩
  · rw [e, (isBus_m hM hk v).2 q]; exact ⟨_, _, _, rfl, rfl, I⟩
