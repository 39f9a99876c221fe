/-- a FEEDER's LOAD counted on both sides -/
theorem load2 {P : zH} {S : St} {hx hm : zH} (C : Core P S hx hm) {b : Nat} (hb : b < nb P) : Gr_loadOf 29 (nI (rt P (sCl S) b)) hx = some (sLoad P S (rt P (sCl S) b)) ∧ ((Mo_busesOf (nI b) hm).bind fun r_3 => (Mo_load r_3 hm).bind fun r_4 => some (r_4, hm)) = some (sLoad P S (rt P (sCl S) b), hm) := by
  obtain ⟨⟨hk, hb1, hl, hP, hF, hSt⟩, hX, hM, hS, hR, hR2⟩ := id C
  have n2 : nb P ≤ 6 := hk.1.2
  have hrb : rt P (sCl S) b < nb P := Nat.lt_of_le_of_lt rt_le hb
  refine ⟨xload hX hk hF hR.1 allJ_ok (by omega) rfl, ?_⟩
  rw [busesOf_eq hM hk hl hb, hR2.1, Option.bind_some, mload_eq hM hk hF, Option.bind_some]
  refine congrArg (fun x => some (x, hm)) (pLoad_congr (fun f hf => bset_R hk S _ (hF f hf).1.2) (fun f hf _ => ?_))
  rw [hR2.2.2.2.1.1 f]; simp [hf]
theorem Sok.O {P : zH} {S : St} (h : Sok P S) {on : Nat → Bool} {off : List Nat} (hO : okO P on off) : Sok P (wO S on off) := ⟨h.1, h.2.1, h.2.2.1, hO, trivial⟩
theorem sw_eq (w : Int32) : (w = 0 ∧ SS_isSwitch w = some 1 ∧ Mo_isIn w 0 1 = some 1) ∨ (w = 1 ∧ SS_isSwitch w = some 1 ∧ Mo_isIn w 0 1 = some 1) ∨ (SS_isSwitch w = some 0 ∧ Mo_isIn w 0 1 = some 0) := by
  by_cases h0 : w = 0
  · subst h0; exact Or.inl ⟨rfl, rfl, rfl⟩
  by_cases h1 : w = 1
  · subst h1; exact Or.inr (Or.inl ⟨rfl, rfl, rfl⟩)
  refine Or.inr (Or.inr ⟨?_, ?_⟩)
  · unfold SS_isSwitch; rw [if_neg h0, if_neg h1]
  · unfold Mo_isIn
    by_cases h2 : w < 0
    · rw [if_pos h2]
    · rw [if_neg h2, if_pos (ilt.mpr (by
        have a := ile.mp (Int32.not_lt.mp h2)
        have b : ¬ w.toInt = 0 := fun q => h0 (ieq.mpr q)
        have c : ¬ w.toInt = 1 := fun q => h1 (ieq.mpr q)
        have d : (0 : Int32).toInt = 0 := rfl
        have e : (1 : Int32).toInt = 1 := rfl
        omega))]
theorem do_feeder {hx hm : zH} (I : Inv hx hm) (v w : Int32) : Ok2 (SS_feeder v w hx) (Mo_feeder v w hm) := by
  obtain ⟨P, S, L, C, hT, hL, hTx⟩ := id I
  obtain ⟨⟨hk, hb1, hl, hP, hF, hSt⟩, hX, hM, hS, hR, hR2⟩ := id C
  have n2 : nb P ≤ 6 := hk.1.2
  have n4 : nf P ≤ 9 := hk.2.2.2.1.2
  have e1 : hx 17 3 = nI (nf P) := by rw [hX.1]; exact hk.2.2.2.1.1
  have e2 : hm 2 3 = nI (nf P) := by rw [hM.1 3 (by omega)]; exact hk.2.2.2.1.1
  unfold SS_feeder Mo_feeder
  rw [e1, e2]
  rcases pk_ix v (n := nf P) (by omega) with h | h | ⟨f, hf, rfl⟩
  · rw [if_pos h, mIn_neg h]; exact ⟨_, _, _, rfl, rfl, I⟩
  · by_cases h0 : v < 0
    · rw [if_pos h0, mIn_neg h0]; exact ⟨_, _, _, rfl, rfl, I⟩
    · rw [if_neg h0, if_pos h, mIn_ge (by omega) h]; exact ⟨_, _, _, rfl, rfl, I⟩
  rw [if_neg (nI_pos (by omega)), if_neg (nI_lt_of hf (by omega)), mIn_ok (by omega) hf, Option.bind_some, if_neg (show ¬ (1 : Int32) = 0 by decide)]
  have hb : fb P f < nb P := (hF f hf).1.2
  have x24 : hx 24 f = nI (fb P f) := by rw [hX.2.2.2.2.2.2.2.1]; exact (hF f hf).1.1
  have m5 : hm 5 (3 * f) = nI (fb P f) := by rw [(hM.2.2.2.1 f hf).1]; exact (hF f hf).1.1
  have x30 : hx 30 (fb P f) = nI (rt P (sCl S) (fb P f)) := (hR.1.R _ (by omega)).1
  have m7 : hm 7 (fb P f) = sF S (rt P (sCl S) (fb P f)) := (hR2.2.1 _ hb).1
  have hrb : rt P (sCl S) (fb P f) < nb P := Nat.lt_of_le_of_lt rt_le hb
  have x32 : hx (29 + 3) (rt P (sCl S) (fb P f)) = sF S (rt P (sCl S) (fb P f)) := (hR.1.2.2.1 _ hrb rt_rt rfl).1
  have on1 : bt (hx 29 7) f = sOn S f := by rw [hR.O.2.1 f]; simp [hf]
  have on2 : bt (hm 7 42) f = sOn S f := by rw [hR2.2.2.2.1.1 f]; simp [hf]
  rw [nI_clamp (by omega), x24, m3, nI_clamp (show 3 * f < 2 ^ 31 by omega), m5, nI_clamp (by omega), x30, has_eq _ (by omega : f < 32), mhas_eq _ (by omega : f < 32), on1, on2]
  simp (disch := omega) only [zr_nI, gd_true]
  rcases sw_eq w with ⟨rfl, s1, s2⟩ | ⟨rfl, s1, s2⟩ | ⟨s1, s2⟩
  · -- off
    rw [s1, s2, Option.bind_some, Option.bind_some, if_neg (show ¬ (1 : Int32) = 0 by decide), if_neg (show ¬ (1 : Int32) = 0 by decide)]
    simp only [zlet_eq, Option.bind_some, if_true, if_neg (show ¬ (0 : Int32) = 1 by decide)]
    cases ho : sOn S f
    · rw [if_pos (show b2i false = 0 by rfl), if_pos (show b2i false = 0 by rfl)]; exact ⟨_, _, _, rfl, rfl, I⟩
    · rw [if_neg (show ¬ b2i true = 0 by decide), if_neg (show ¬ b2i true = 0 by decide)]
      obtain ⟨hx', hm', a1, a2, C', hL', hTx'⟩ := kept C hT hL hTx
      rw [a1, a2, Option.bind_some, Option.bind_some]
      obtain ⟨c1, c2, c3, c4, c5, c6⟩ := id C'
      obtain ⟨x1, x2, x3, x4, x5⟩ := xdrop (c := 0) hk c5.1 hf rfl ho (by omega)
      obtain ⟨y1, y2, y3⟩ := mdrop_eq c3 hk c6 c4.2.2.2.1 hf ho
      have C'' : Core P (wO S (fun x => sOn S x && !(x == f)) (sOff S ++ [f])) x1 y1 := C'.mk (c4.O (okO_drop c4.2.2.2.1 hf ho)) (fun k k1 k2 => x3.1 k (by omega) (by omega)) (fun k k1 k2 => y3.1 k (by omega) (by omega)) ⟨x4, x3.2.trans c5.2⟩ y3.2.1
      obtain ⟨l1, l2⟩ := load2 C'' hb
      have kx : ∀ k, ¬ (29 ≤ k ∧ k ≤ 36) → x1 k = hx' k := fun k k2 => by
        by_cases q : k = 0
        · subst q; exact x5
        · exact x3.1 k q (by omega)
      rw [x2, y2, Option.bind_some, Option.bind_some]
      refine ⟨_, _, _, congrArg (fun z => Option.bind z _) l1, l2, P, _, kpL L S, C'', hT, hL'.of (fun k k1 k2 => kx k (by omega)) (y3.1 8 (by omega) (by omega)) (y3.2.2.2.2.2.2 10 (by omega)), hTx'.of (kx 1 (by omega)) (kx 2 (by omega)) (y3.2.2.2.2.2.2 0 (by omega)) (y3.1 1 (by omega) (by omega))⟩
  · -- on
    rw [s1, s2, Option.bind_some, Option.bind_some, if_neg (show ¬ (1 : Int32) = 0 by decide), if_neg (show ¬ (1 : Int32) = 0 by decide)]
    simp only [zlet_eq, Option.bind_some, if_true, if_neg (show ¬ (1 : Int32) = 0 by decide)]
    cases ho : sOn S f
    · rw [if_neg (show ¬ b2i false = 1 by decide), if_neg (show ¬ b2i false = 1 by decide), isDark_eq (by omega), Option.bind_some, x32, zr_nI (show fb P f < 67 by omega) (by omega), gd_true, nI_clamp (show fb P f < 2 ^ 31 by omega), m7]
      by_cases hd : sF S (rt P (sCl S) (fb P f)) = 0
      · rw [if_neg (by simp [hd, b2i]), if_pos hd]; exact ⟨_, _, _, rfl, rfl, I⟩
      · rw [if_pos (by simp [hd, b2i]), if_neg hd]
        obtain ⟨hx', hm', a1, a2, C', hL', hTx'⟩ := kept C hT hL hTx
        rw [a1, a2, Option.bind_some, Option.bind_some]
        obtain ⟨c1, c2, c3, c4, c5, c6⟩ := id C'
        obtain ⟨x1, x2, x3, x4, x5⟩ := xput (c := 0) hk c5.1 hf rfl ho (by omega)
        obtain ⟨y1, y2, y3⟩ := mon_eq (hm := hm') hk c6 c4.2.2.2.1 ((c4.2.2.2.1.2.2 f hf).mpr ho)
        have C'' : Core P (sPut S f) x1 (setc hm' 7 y1) := C'.mk (c4.O (okO_put c4.2.2.2.1)) (fun k k1 k2 => x3.1 k (by omega) (by omega)) (fun k k1 k2 => setc_ne (by omega)) ⟨x4, x3.2.trans c5.2⟩ (by rw [setc_eq]; exact y3)
        obtain ⟨l1, l2⟩ := load2 C'' hb
        have kx : ∀ k, ¬ (29 ≤ k ∧ k ≤ 36) → x1 k = hx' k := fun k k2 => by
          by_cases q : k = 0
          · subst q; exact x5
          · exact x3.1 k q (by omega)
        rw [x2, y2, Option.bind_some, Option.bind_some]
        refine ⟨_, _, _, congrArg (fun z => Option.bind z _) l1, l2, P, _, kpL L S, C'', hT, hL'.of (fun k k1 k2 => kx k (by omega)) (setc_ne (by omega)) (by rw [setc_ne (by omega)]), hTx'.of (kx 1 (by omega)) (kx 2 (by omega)) (by rw [setc_ne (by omega)]) (setc_ne (by omega))⟩
    · rw [if_pos (show b2i true = 1 by rfl), if_pos (show b2i true = 1 by rfl)]; exact ⟨_, _, _, rfl, rfl, I⟩
  · rw [s1, s2]; exact ⟨_, _, _, rfl, rfl, I⟩
