/-- LOAD of FEEDERS in a list; their bits -/
def ldL (P : zH) : List Nat → Int32
  | [] => 0
  | f :: l => P 8 f + ldL P l
theorem ldL_app (P : zH) (f : Nat) : ∀ l, ldL P (l ++ [f]) = ldL P l + P 8 f
  | [] => by show P 8 f + 0 = 0 + P 8 f; rw [Int32.add_zero, Int32.zero_add]
  | a :: l => by show P 8 a + ldL P (l ++ [f]) = P 8 a + ldL P l + P 8 f; rw [ldL_app P f l, Int32.add_assoc]
/-- the reference's own counters behind drops ds and bk that come BACK -/
def mk0 (P : zH) (c c' : Nat → Int32) (ds : List Nat) (bk : Nat) : Prop := c' 13 = c 13 + nI ds.length ∧ c' 14 = c 14 + ldL P ds ∧ c' 15 = c 15 + nI bk ∧ (∀ f, bt (c' 16) f = (bt (c 16) f || decide (f ∈ ds))) ∧ ∀ j, j < 13 → c' j = c j
theorem mk0.rf {P : zH} {c : Nat → Int32} : mk0 P c c [] 0 := ⟨(Int32.add_zero _).symm, (Int32.add_zero _).symm, (Int32.add_zero _).symm, fun f => by simp, fun _ _ => rfl⟩
theorem ldL_app2 (P : zH) : ∀ l m, ldL P (l ++ m) = ldL P l + ldL P m
  | [], m => by show ldL P m = 0 + ldL P m; rw [Int32.zero_add]
  | a :: l, m => by show P 8 a + ldL P (l ++ m) = P 8 a + ldL P l + ldL P m; rw [ldL_app2 P l m, Int32.add_assoc]
theorem mk0.tr {P : zH} {c c' c'' : Nat → Int32} {ds ds' : List Nat} {b b' : Nat} (h : mk0 P c c' ds b) (h' : mk0 P c' c'' ds' b') : mk0 P c c'' (ds ++ ds') (b + b') := by
  obtain ⟨a1, a2, a3, a4, a5⟩ := h
  obtain ⟨b1, b2, b3, b4, b5⟩ := h'
  refine ⟨?_, ?_, ?_, fun f => ?_, fun j hj => by rw [b5 j hj, a5 j hj]⟩
  · rw [b1, a1, List.length_append, ← nI_add, Int32.add_assoc]
  · rw [b2, a2, ldL_app2, Int32.add_assoc]
  · rw [b3, a3, ← nI_add, Int32.add_assoc]
  · rw [b4, a4]; simp [List.mem_append, Bool.or_assoc]
/-- what the reference changes while TICKS go by: its row and its counters -/
def Mfr (hm hm' : zH) : Prop := ∀ k, k ≠ 0 → k ≠ 7 → hm' k = hm k
theorem Mfr.rf {hm : zH} : Mfr hm hm := fun _ _ _ => rfl
theorem Mfr.tr {a b c : zH} (h : Mfr a b) (h' : Mfr b c) : Mfr a c := fun k h0 h7 => (h' k h0 h7).trans (h k h0 h7)
theorem Mfr.s7 {hm : zH} {r : Nat → Int32} : Mfr hm (setc hm 7 r) := fun _ _ h7 => setc_ne h7
/-- the whole of it: the reference is in state S' behind drops ds, bk BACK -/
def MS (P hm hm' : zH) (S' : St) (ds : List Nat) (bk : Nat) : Prop := Mfr hm hm' ∧ RepM P (hm' 7) S' ∧ mk0 P (hm 0) (hm' 0) ds bk
theorem MS.tr {P a b c : zH} {S S' : St} {ds ds' : List Nat} {k k' : Nat} (h : MS P a b S ds k) (h' : MS P b c S' ds' k') : MS P a c S' (ds ++ ds') (k + k') := ⟨h.1.tr h'.1, h'.2.1, h.2.2.tr h'.2.2⟩
theorem MS.s7 {P hm : zH} {S' : St} {r : Nat → Int32} (h : RepM P r S') : MS P hm (setc hm 7 r) S' [] 0 := ⟨Mfr.s7, by rw [setc_eq]; exact h, by rw [setc_ne (show (0 : Nat) ≠ 7 by omega)]; exact mk0.rf⟩
theorem mdrop_eq {P hm : zH} {S : St} (hM : PM P hm) (hk : okN P) (hR : RepM P (hm 7) S) (hO : okO P (sOn S) (sOff S)) {f : Nat} (hf : f < nf P) (ho : sOn S f = true) : ∃ hm', Mo_drop (nI f) hm = some hm' ∧ MS P hm hm' (wO S (fun x => sOn S x && !(x == f)) (sOff S ++ [f])) [f] 0 := by
  have n4 : nf P ≤ 9 := hk.2.2.2.1.2
  have hlen := hO.lt hf ho
  have h50 : hm 7 50 = nI (sOff S).length := hR.2.2.2.1.2.1
  obtain ⟨q1, q2, q3⟩ := hM.2.2.2.1 f hf
  unfold Mo_drop
  have e1 : upd2 hm 7 42 (hm 7 42 &&& (zshl 1 (nI f) ^^^ -1)) 7 50 = nI (sOff S).length := by rw [upd2_eq, upd_ne (by omega), h50]
  simp (disch := omega) only [m2, m3, m4, m6, m67, a1, a2, a3, p6, p44, p51, p60, nI_add, nI_clamp, zr_nI, gd_true, zlet, Option.bind_some, mhas_eq, has_eq, nI_leI, nI_ltI, nI_eq, e1]
  have e2 : ∀ v, upd2 (upd2 hm 7 42 (hm 7 42 &&& (zshl 1 (nI f) ^^^ -1))) 7 (51 + (sOff S).length) v 7 50 = nI (sOff S).length := fun v => by rw [upd2_eq, upd_ne (by omega), e1]
  simp only [e2, nI_1]
  refine ⟨_, rfl, ?_, ?_, ?_⟩
  · intro k h0 h7
    rw [upd2_ne h0, upd2_ne h0, upd2_ne h0, upd2_ne h7, upd2_ne h7, upd2_ne h7]
  · rw [upd2_ne (show (7 : Nat) ≠ 0 by omega), upd2_ne (show (7 : Nat) ≠ 0 by omega), upd2_ne (show (7 : Nat) ≠ 0 by omega), upd2_eq, upd2_eq, upd2_eq]
    refine hR.O hk (fun i hi => ?_) ?_
    · rw [upd_ne (by omega), upd_ne (by omega), upd_ne (by omega)]
    · rw [upd_eq, upd_ne (show (42 : Nat) ≠ 50 by omega), upd_ne (show (42 : Nat) ≠ 51 + (sOff S).length by omega), upd_eq]
      have h9 := rpO_drop (row' := fun i => upd (upd (upd (hm 7) 42 (hm 7 42 &&& (zshl 1 (nI f) ^^^ -1))) (51 + (sOff S).length) (nI f)) 50 (nI ((sOff S).length + 1)) (51 + i)) hk hR.2.2.2.1 hf (fun i hi => by
        show upd _ _ _ (51 + i) = _
        rw [upd_ne (by omega), upd_ne (by omega), upd_ne (by omega)]) (by
        show upd _ _ _ (51 + _) = _
        rw [upd_ne (by omega), upd_eq])
      rw [h50, nI_1] at h9
      exact h9
  · simp only [upd2_eq, upd2_ne (show (0 : Nat) ≠ 7 by omega), upd2_ne (show (5 : Nat) ≠ 7 by omega), upd2_ne (show (5 : Nat) ≠ 0 by omega)]
    refine ⟨?_, ?_, ?_, fun x => ?_, fun j hj => ?_⟩
    · rw [upd_ne (by omega), upd_ne (by omega), upd_eq]; rfl
    · rw [upd_ne (by omega), upd_eq, upd_ne (by omega), q2]
      show _ = _ + (P 8 f + 0)
      rw [Int32.add_zero]
    · rw [upd_ne (by omega), upd_ne (by omega), upd_ne (by omega)]; exact (Int32.add_zero _).symm
    · rw [upd_eq, upd_ne (by omega), upd_ne (by omega), b_or, bt_one (by omega)]; simp
    · rw [upd_ne (by omega), upd_ne (by omega), upd_ne (by omega)]
theorem dlN_succ (on sel : Nat → Bool) (n : Nat) : dlN on sel (n + 1) = dlN on sel n ++ (if sel n && on n then [n] else []) := by
  unfold dlN
  rw [List.range_succ, List.filter_append]
  congr 1
  cases h : (sel n && on n) <;> simp [h]
theorem okO_dropN {P : zH} {on : Nat → Bool} {off : List Nat} (h : okO P on off) (sel : Nat → Bool) : ∀ n, n ≤ nf P → okO P (fun f => on f && !(sel f && decide (f < n))) (off ++ dlN on sel n)
  | 0, _ => by
    have : (fun f => on f && !(sel f && decide (f < 0))) = on := by funext f; simp
    rw [this]; show okO P on (off ++ []); rw [List.append_nil]; exact h
  | n + 1, hn => by
    have ih := okO_dropN h sel n (by omega)
    rw [dlN_succ]
    cases hc : (sel n && on n)
    · have : (fun f => on f && !(sel f && decide (f < n + 1))) = (fun f => on f && !(sel f && decide (f < n))) := by
        funext f
        by_cases e : f = n
        · subst e
          revert hc
          cases sel f <;> cases on f <;> simp
        · have : (f < n + 1) ↔ (f < n) := by omega
          simp [this]
      rw [this]; simpa using ih
    · have h1 : sel n = true ∧ on n = true := by simpa using hc
      have ih2 := okO_drop ih (f := n) (by omega) (by simp [h1])
      have : (fun f => on f && !(sel f && decide (f < n + 1))) = (fun x => (on x && !(sel x && decide (x < n))) && !(x == n)) := by
        funext f
        by_cases e : f = n
        · subst e; simp [h1]
        · have e2 : (f == n) = false := by simpa using e
          have : (f < n + 1) ↔ (f < n) := by omega
          simp [this, e2]
      rw [this]
      simpa [List.append_assoc] using ih2
theorem wO_eq {S : St} {on on' : Nat → Bool} {off off' : List Nat} (h1 : on = on') (h2 : off = off') : wO S on off = wO S on' off' := by rw [h1, h2]
theorem b2i_true : b2i true = 1 := rfl
theorem exists_step {A B : Prop} (h : A) (k : A → B) : B := k h
theorem mdropAll_eq {P hm : zH} {S : St} (hM : PM P hm) (hk : okN P) (hF : okF P) (hR : RepM P (hm 7) S) (hO : okO P (sOn S) (sOff S)) (set x2 : Int32) (sel : Nat → Bool) (hsel : ∀ f, f < nf P → sel f = (bt set (fb P f) && (decide (x2 < 0) || decide (P 9 f = x2)))) :
    ∃ hm', Mo_dropAll set x2 hm = some (b2i (!(dlN (sOn S) sel (nf P)).isEmpty), hm') ∧ MS P hm hm' (sDropN S sel (nf P)) (dlN (sOn S) sel (nf P)) 0 := by
  have n2 : nb P ≤ 6 := hk.1.2
  have n4 : nf P ≤ 9 := hk.2.2.2.1.2
  have n3 : P 0 3 = nI (nf P) := hk.2.2.2.1.1
  unfold Mo_dropAll
  refine exists_step (loop_ex (fun n x (s : Int32 × zH) => Mo_dropAll_L5 set x2 (fun x3_1 h_3 => gd (zb x3_1) (some (x3_1, h_3))) n s.1 x s.2) (fun s => gd (zb s.1) (some (s.1, s.2))) (fun i s => s.1 = b2i (!(dlN (sOn S) sel i).isEmpty) ∧ MS P hm s.2 (sDropN S sel i) (dlN (sOn S) sel i) 0) (nf P) ?_ ?_ (nf P) 0 1000 (0, hm) (by omega) (by omega) ?_) ?_
  · rintro n i ⟨x3, h1⟩ hi ⟨j1, j2, j3, j4⟩
    have hM1 : PM P h1 := hM.of j2
    obtain ⟨q1, q2, q3⟩ := hM1.2.2.2.1 i hi
    obtain ⟨⟨f1, f2⟩, -⟩ := hF i hi
    have hn : ¬ nf P ≤ i := by omega
    have n3' : h1 2 3 = nI (nf P) := by rw [hM1.1 3 (by omega)]; exact n3
    have hbit : bt (h1 7 42) i = (sOn S i && !(sel i && decide (i < i))) := by rw [j3.2.2.2.1.1 i]; show (decide (i < nf P) && (sOn S i && !(sel i && decide (i < i)))) = _; simp [hi]
    have hbit2 : bt (h1 7 42) i = sOn S i := by rw [hbit]; simp
    dsimp only at j1 ⊢
    rw [Mo_dropAll_L5]
    simp (disch := omega) only [m2, m3, m4, m6, m67, a1, a2, a3, p6, p44, p51, p60, nI_add, nI_clamp, zr_nI, gd_true, zlet, Option.bind_some, mhas_eq, has_eq, nI_leI, nI_ltI, nI_eq, n3', hn, if_false, q1]
    rw [f1]
    simp (disch := omega) only [m2, m3, m4, m6, m67, a1, a2, a3, p6, p44, p51, p60, nI_add, nI_clamp, zr_nI, gd_true, zlet, Option.bind_some, mhas_eq, has_eq, nI_leI, nI_ltI, nI_eq, q3, hbit2]
    have hs := hsel i hi
    by_cases hd : sel i = true ∧ sOn S i = true
    · have hO1 := okO_dropN hO sel i (by omega)
      obtain ⟨h2, d1, d2⟩ := mdrop_eq (S := sDropN S sel i) hM1 hk j3 hO1 (f := i) hi (by show (sOn S i && !(sel i && decide (i < i))) = true; simp [hd.2])
      refine ⟨(1, h2), ⟨?_, ?_⟩, ?_⟩
      · have e7 : (dlN (sOn S) sel i ++ [i]).isEmpty = false := by cases dlN (sOn S) sel i <;> rfl
        rw [dlN_succ]; simp only [hd, Bool.and_self, if_true, e7]; rfl
      · have h9 : MS P hm h2 _ _ _ := MS.tr ⟨j2, j3, j4⟩ d2
        rw [dlN_succ]
        simp only [hd, Bool.and_self, if_true]
        have e9 : sDropN S sel (i + 1) = wO (sDropN S sel i) (fun x => sOn (sDropN S sel i) x && !(x == i)) (sOff (sDropN S sel i) ++ [i]) := by
          refine wO_eq ?_ ?_
          · funext f
            show (sOn S f && !(sel f && decide (f < i + 1))) = ((sOn S f && !(sel f && decide (f < i))) && !(f == i))
            by_cases e : f = i
            · subst e; simp [hd]
            · have e2 : (f == i) = false := by simpa using e
              have : (f < i + 1) ↔ (f < i) := by omega
              simp [this, e2]
          · show sOff S ++ dlN (sOn S) sel (i + 1) = (sOff S ++ dlN (sOn S) sel i) ++ [i]
            rw [dlN_succ]; simp [hd]
        rw [e9]
        exact h9
      · rw [hs] at hd
        have hd1 : bt set (fb P i) = true := by have := hd.1; simp at this; exact this.1
        rw [hd1, hd.2, d1]
        simp only [Option.bind_some]
        rw [if_neg (by decide), if_neg (by decide)]
        by_cases hx : x2 < 0
        · rw [if_pos hx]
        · rw [if_neg hx, if_pos (by have := hd.1; simp [hx] at this; exact this.2)]
    · have hdd : (sel i && sOn S i) = false := Bool.eq_false_iff.mpr (fun q => hd (by simpa using q))
      have e8 : dlN (sOn S) sel (i + 1) = dlN (sOn S) sel i := by rw [dlN_succ, hdd]; simp
      refine ⟨(x3, h1), ⟨?_, ?_⟩, ?_⟩
      · rw [e8]; exact j1
      · rw [e8]
        have e9 : sDropN S sel (i + 1) = sDropN S sel i := by
          refine wO_eq ?_ ?_
          · funext f
            by_cases e : f = i
            · subst e
              revert hdd
              cases sel f <;> cases sOn S f <;> simp
            · have : (f < i + 1) ↔ (f < i) := by omega
              simp [this]
          · rw [e8]
        rw [e9]
        exact ⟨j2, j3, j4⟩
      · cases hb : bt set (fb P i)
        · rw [if_pos (by rfl)]
        · rw [if_neg (by decide)]
          cases ho : sOn S i
          · rw [if_pos (by rfl)]
          · rw [if_neg (by decide)]
            have hsf : sel i = false := by rw [ho] at hdd; simpa using hdd
            rw [hs, hb] at hsf
            simp at hsf
            rw [if_neg (by exact Int32.not_lt.mpr hsf.1), if_neg hsf.2]
  · rintro n ⟨x3, h1⟩ ⟨j1, j2, j3, j4⟩
    have hM1 : PM P h1 := hM.of j2
    have n3' : h1 2 3 = nI (nf P) := by rw [hM1.1 3 (by omega)]; exact n3
    dsimp only
    rw [Mo_dropAll_L5, n3', if_pos (nI_le_rf _)]
  · refine ⟨rfl, Mfr.rf, ?_, mk0.rf⟩
    have e9 : sDropN S sel 0 = S := by
      show wO S _ _ = S
      have e1 : (fun f => sOn S f && !(sel f && decide (f < 0))) = sOn S := by funext f; simp
      have e2 : sOff S ++ dlN (sOn S) sel 0 = sOff S := by show sOff S ++ [] = _; rw [List.append_nil]
      rw [e1, e2]
    rw [e9]
    exact hR
  · rintro ⟨s', ⟨i1, i2⟩, i3⟩
    refine ⟨s'.2, i3.trans ?_, i2⟩
    rw [i1]
    cases (!(dlN (sOn S) sel (nf P)).isEmpty) <;> rfl
