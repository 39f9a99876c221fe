theorem mloadOf_eq {P hm : zH} (hM : PM P hm) (hk : okN P) (set : Int32) : Mo_loadOf set hm = some (sumTo (fun f => if bt set f then P 8 f else 0) (nf P)) := by
  have n4 : nf P ≤ 9 := hk.2.2.2.1.2
  have n3 : hm 2 3 = nI (nf P) := by rw [hM.1 3 (by omega)]; exact hk.2.2.2.1.1
  unfold Mo_loadOf
  refine loop_pin (fun n x s => Mo_loadOf_L4 set hm (fun x2_3 => some x2_3) n s x) (fun x => some x) (fun i => sumTo (fun f => if bt set f then P 8 f else 0) i) (nf P) (i0 := 0) (Nat.zero_le _) (by omega) ?_ ?_
  · intro n i _ hi
    rw [Mo_loadOf_L4, n3, if_neg (nI_lt_of hi (by omega)), mhas_eq _ (show i < 32 by omega), Option.bind_some, m3, show nI (3 * i) + 1 = nI (3 * i + 1) from nI_add (3 * i) 1, zr_nI (show 3 * i + 1 < 54 by omega) (by omega), gd_true, nI_clamp (show 3 * i + 1 < 2 ^ 31 by omega), (hM.2.2.2.1 i hi).2.1, zlet_n, zlet_n, nI_1]
    show _ = Mo_loadOf_L4 set hm (fun x2_3 => some x2_3) n (sumTo (fun f => if bt set f then P 8 f else 0) i + (if bt set i then P 8 i else 0)) (nI (i + 1))
    cases e : bt set i
    · rw [if_pos (show b2i false = 0 by rfl)]; rfl
    · rw [if_neg (show ¬ b2i true = 0 by decide)]; rfl
  · intro n
    rw [Mo_loadOf_L4, n3, if_pos (nI_le_rf _)]
def Rst (hm hm' : zH) : Prop := (∀ k, k ≠ 0 → k ≠ 7 → k ≠ 9 → hm' k = hm k) ∧ (∀ j, j < 13 → hm' 0 j = hm 0 j) ∧ (∀ i, i < 67 → hm' 7 i = hm 7 i) ∧ ∀ i, i < 67 → hm' 9 i = hm 7 i
def Bok (b : Int32) : Prop := b = -4 ∨ ∃ j, j < 512 ∧ b = nI j
theorem Bok.neg {b : Int32} (h : Bok b) : b < 0 ↔ b = -4 := by
  rcases h with rfl | ⟨j, hj, rfl⟩
  · exact ⟨fun _ => rfl, fun _ => by decide⟩
  · constructor
    · intro q; exact absurd q (nI_pos (by omega))
    · intro q
      have q1 := ieq.mp q
      rw [nI_toInt (by omega)] at q1
      have : (-4 : Int32).toInt = -4 := rfl
      omega
theorem bt_small : ∀ j, j < 512 → ∀ k, k < 32 → 9 ≤ k → bt (nI j) k = false := by decide +kernel
theorem bt_small' {j : Nat} (hj : j < 512) (k : Nat) (hk : 9 ≤ k) : bt (nI j) k = false := by
  by_cases h : k < 32
  · exact bt_small j hj k h hk
  · exact b_big (by omega)
theorem least_loop {P : zH} {S : St} {hx hm : zH} (C : Core P S hx hm) {full : Int32} {m r w : Nat} (hr : r < nb P) (hrr : rt P (sCl S) r = r) (hd : ¬ sF S r = 0) (hw : w ≤ 30) (hm0 : m < 512) (hf : full = nI m) (hfull : ∀ f, bt full f = (decide (f < nf P) && (selR P S r f && sOn S f))) (k207 : Int32 → zH → Option (Int32 × zH)) : ∀ (d i n1 n2 : Nat) (best : Int32) (h h2 : zH), i + d = m + 1 → d < n1 → d < n2 → Bok best → Xtr hx h → Rst hm h2 → ∃ v h' h2', SS_leastSet_L31 (nI r) (nI w) full (fun x4_1 h_2 => some (x4_1, h_2)) n1 best (nI i) h = some (v, h') ∧ Mo_least_L73 (nI w) (nI r) full k207 n2 best (nI i) h2 = k207 v h2' ∧ Bok v ∧ Xtr hx h' ∧ Rst hm h2'
  | 0, i, n1 + 1, n2 + 1, best, h, h2, hi, _, _, hB, hX, hR => by
    have : i = m + 1 := by omega
    subst this
    refine ⟨best, h, h2, ?_, ?_, hB, hX, hR⟩
    · rw [SS_leastSet_L31, hf, if_pos (nI_lt (by omega) (by omega))]
    · rw [Mo_least_L73, hf, if_pos (nI_lt (by omega) (by omega))]
  | d + 1, i, n1 + 1, n2 + 1, best, h, h2, hi, hn1, hn2, hB, hX, hR => by
    obtain ⟨⟨hk, hb1, hl, hP, hF, hSt⟩, hPX, hPM, hS, hRX, hRM⟩ := id C
    have n2' : nb P ≤ 6 := hk.1.2
    have n4 : nf P ≤ 9 := hk.2.2.2.1.2
    have hPX' : PX P h := hPX.of' (fun k k1 k2 => hX k (by omega) (by omega))
    have hPM' : PM P h2 := hPM.of' (fun k k1 k2 => hR.1 k (by omega) (by omega) (by omega))
    have hRX' : RepX P h 29 S := hRX.of (fun k k1 k2 => hX k (by omega) (by omega))
    have hRM' : RepM P (h2 7) S := hRM.of67 hk hS hR.2.2.1
    have h9 : h2 9 r = sF S r := by
      rw [hR.2.2.2 r (by omega)]
      have := (hRM.2.1 r hr).1
      rw [hrr] at this; exact this
    have hpos : ¬ h2 9 r ≤ 0 := by rw [h9]; exact fun z => hd ((F_pos hS hr).mp z)
    -- nothing is tried
    have skip := least_loop C hr hrr hd hw hm0 hf hfull k207 d (i + 1) n1 n2 best h h2 (by omega) (by omega) (by omega) hB hX hR
    -- the set is tried
    have trial : nI i &&& (full ^^^ (-1)) = 0 → ∃ v h' h2', ((SS_holds (nI r) (nI i) (nI w) h).bind fun r_2 => if r_2.1 = 0 then SS_leastSet_L31 (nI r) (nI w) full (fun x4_1 h_2 => some (x4_1, h_2)) n1 best (nI (i + 1)) r_2.2 else SS_leastSet_L31 (nI r) (nI w) full (fun x4_1 h_2 => some (x4_1, h_2)) n1 (nI i) (nI (i + 1)) r_2.2) = some (v, h') ∧ ((Mo_isBorne (nI r) (nI i) (nI w) h2).bind fun r_8 => if r_8.1 = 0 then (Mo_restores r_8.2).bind fun h_3 => Mo_least_L73 (nI w) (nI r) full k207 n2 best (nI (i + 1)) h_3 else (Mo_restores r_8.2).bind fun h_3 => Mo_least_L73 (nI w) (nI r) full k207 n2 (nI i) (nI (i + 1)) h_3) = k207 v h2' ∧ Bok v ∧ Xtr hx h' ∧ Rst hm h2' := by
      intro hsub
      have hx : ∀ f, f < nf P → bt (nI i) f = true → sOn S f = true := fun f hf1 hf2 => by
        have z1 := and_zero.mp hsub f (by omega)
        rw [b_xor, b_m1 f (by omega)] at z1
        cases e : bt full f
        · rw [e] at z1; have := z1 rfl; rw [hf2] at this; cases this
        · rw [hfull f] at e
          simp at e
          exact e.2.2
      obtain ⟨v, h', h2', v0, v1, v2, v3, v4⟩ := hold_eq hk hl hP hF hPX' hPM' hS hRX' hRM' hr hrr hd hw hx
      obtain ⟨c7, t1, t2⟩ := restores_eq h2'
      have hR' : Rst hm (setc h2' 7 c7) := by
        refine ⟨fun k k0 k7 k9 => by rw [setc_ne k7, v4.1 k k0 k7]; exact hR.1 k k0 k7 k9, fun j hj => by rw [setc_ne (by omega), v4.2 j hj]; exact hR.2.1 j hj, fun j hj => by rw [setc_eq, t2 j hj, v4.1 9 (by omega) (by omega)]; exact hR.2.2.2 j hj, fun j hj => by rw [setc_ne (by omega), v4.1 9 (by omega) (by omega)]; exact hR.2.2.2 j hj⟩
      rw [v1, v2, Option.bind_some, Option.bind_some]
      dsimp only
      rw [t1, Option.bind_some, Option.bind_some]
      by_cases e : v = 0
      · rw [if_pos e, if_pos e]
        exact least_loop C hr hrr hd hw hm0 hf hfull k207 d (i + 1) n1 n2 best h' _ (by omega) (by omega) (by omega) hB (hX.tr v3) hR'
      · rw [if_neg e, if_neg e]
        exact least_loop C hr hrr hd hw hm0 hf hfull k207 d (i + 1) n1 n2 (nI i) h' _ (by omega) (by omega) (by omega) (Or.inr ⟨i, by omega, rfl⟩) (hX.tr v3) hR'
    rw [SS_leastSet_L31, Mo_least_L73, nI_1]
    rw [if_neg (show ¬ full < nI i by rw [hf]; exact nI_nlt (by omega) (by omega)), if_neg (show ¬ full < nI i by rw [hf]; exact nI_nlt (by omega) (by omega)), zr_nI (show r < 67 by omega) (by omega), gd_true, nI_clamp (show r < 2 ^ 31 by omega), if_neg hpos]
    simp only [zlet_n]
    rw [mloadOf_eq hPM' hk, mloadOf_eq hPM' hk]
    simp only [bind_n]
    by_cases hsub : nI i &&& (full ^^^ (-1)) = 0
    · rw [if_pos hsub, if_pos hsub, if_neg (show ¬ (1 : Int32) = 0 by decide)]
      have tr := trial hsub
      by_cases hb : best = -4
      · rw [if_pos (hB.neg.mpr hb)]
        simp only [if_neg (show ¬ (1 : Int32) = 0 by decide), if_pos hb]
        exact tr
      · rw [if_neg (fun z => hb (hB.neg.mp z))]
        simp only [if_neg (show ¬ (1 : Int32) = 0 by decide), if_neg hb]
        obtain ⟨j, hj, rfl⟩ := hB.resolve_left hb
        unfold SS_isLess
        rw [loadOfSet_eq hPX' hk, loadOfSet_eq hPX' hk, Option.bind_some, Option.bind_some, bitCount_eq (bt_small' (show i < 512 by omega)), bitCount_eq (bt_small' hj), mbits_eq, mbits_eq]
        simp only [bind_n]
        generalize sumTo (fun f => if bt (nI i) f then P 8 f else 0) (nf P) = a
        generalize sumTo (fun f => if bt (nI j) f then P 8 f else 0) (nf P) = b
        generalize sumTo (fun k => b2i (bt (nI i) k)) 9 = a'
        generalize sumTo (fun k => b2i (bt (nI j) k)) 9 = b'
        unfold In_compare
        by_cases q1 : a < b
        · rw [if_neg (show ¬ b ≤ a from Int32.not_le.mpr q1), if_pos q1, Option.bind_some, if_pos (show (-1 : Int32) < 0 by decide), Option.bind_some, if_neg (show ¬ (1 : Int32) = 0 by decide)]
          exact tr
        · rw [if_pos (show b ≤ a from Int32.not_lt.mp q1), if_neg q1]
          by_cases q2 : a = b
          · rw [if_pos q2, if_pos q2, Option.bind_some, if_neg (show ¬ (0 : Int32) < 0 by decide), if_pos rfl]
            by_cases q3 : b' ≤ a'
            · rw [if_pos q3, if_pos q3, Option.bind_some, if_pos rfl]
              simp only [if_pos (show (0 : Int32) = 0 from rfl), if_t]
              exact skip
            · rw [if_neg q3, if_neg q3, Option.bind_some, if_neg (show ¬ (1 : Int32) = 0 by decide)]
              exact tr
          · rw [if_neg q2, if_neg q2, Option.bind_some, if_neg (show ¬ (1 : Int32) < 0 by decide), if_neg (show ¬ (1 : Int32) = 0 by decide), Option.bind_some, if_pos rfl]
            exact skip
    · rw [if_neg hsub, if_neg hsub, if_pos trivial, if_pos trivial]
      exact skip
theorem do_least {hx hm : zH} (I : Inv hx hm) (v w u : Int32) : Ok2 (SS_least v w u hx) (Mo_least v w u hm) := by
  obtain ⟨P, S, L, C, hT, hL, hTx⟩ := id I
  obtain ⟨⟨hk, hb1, hl, hP, hF, hSt⟩, hX, hM, hS, hR, hR2⟩ := id C
  have n2 : nb P ≤ 6 := hk.1.2
  have n4 : nf P ≤ 9 := hk.2.2.2.1.2
  unfold SS_least Mo_least
  rw [rootOf_x hX hk hR, islands_m hM hk hl hR2, Option.bind_some, Option.bind_some, isl_in hk, Option.bind_some, busOf_m hM hk hl hR2]
  cases hf : rfind P (sCl S) v 0 (nb P) with
  | none =>
    dsimp only
    rw [if_pos (show (-1 : Int32) < 0 by decide), if_pos (show b2i (none : Option Nat).isSome = 0 by rfl)]; exact ⟨_, _, _, rfl, rfl, I⟩
  | some r =>
    obtain ⟨b1, b2, b3⟩ := rfind_some hf
    dsimp only
    rw [if_neg (show ¬ nI r < 0 from nI_pos (by omega)), if_neg (show ¬ b2i (some r).isSome = 0 from (by decide : ¬ b2i true = 0))]
    by_cases h1 : w < 1
    · rw [if_pos h1, show Mo_isIn w 1 30 = some 0 by unfold Mo_isIn; rw [if_pos h1]]; exact ⟨_, _, _, rfl, rfl, I⟩
    by_cases h2 : 30 < w
    · rw [if_neg h1, if_pos h2, show Mo_isIn w 1 30 = some 0 by unfold Mo_isIn; rw [if_neg h1, if_pos h2]]; exact ⟨_, _, _, rfl, rfl, I⟩
    rw [if_neg h1, if_neg h2, show Mo_isIn w 1 30 = some 1 by unfold Mo_isIn; rw [if_neg h1, if_neg h2], Option.bind_some, if_neg (show ¬ (1 : Int32) = 0 by decide)]
    obtain ⟨n, rfl, m1, m2'⟩ := nI_btw (v := w) (a := 1) (b := 30) (by have := ile.mp (Int32.not_lt.mp h1); simpa using this) (by have := ile.mp (Int32.not_lt.mp h2); simpa using this) (by omega)
    by_cases h3 : u < 0
    · rw [if_pos h3, mIn_neg h3]; exact ⟨_, _, _, rfl, rfl, I⟩
    by_cases h4 : u ≤ 1
    · rw [if_neg h3, if_pos h4, show Mo_isIn u 0 1 = some 1 by unfold Mo_isIn; rw [if_neg h3, if_neg (Int32.not_lt.mpr h4)], Option.bind_some, if_neg (show ¬ (1 : Int32) = 0 by decide), Option.bind_some]
      rw [busesOf_eq hM hk hl b1, hR2.1, b2, Option.bind_some, feedersOf_eq hM hk hF, Option.bind_some, zlet_n]
      obtain ⟨set, f1, f2⟩ := xbits hX hk hF hR.1 allJ_ok (show r < 6 by omega) rfl
      have hset : bset (fun f => bt (bset (fun c => decide (rt P (sCl S) c = r)) (nb P)) (fb P f)) (nf P) &&& hm 7 42 = set := b_ext (fun f _ => by
        rw [b_and, bt_bset _ _ (by omega), f2 f, hR2.2.2.2.1.1 f]
        by_cases e : f < nf P
        · rw [bset_R hk S _ (hF f e).1.2]; simp [e]
        · simp [e])
      rw [hset]
      obtain ⟨m, k1, k2⟩ := small9 (x := set) (fun k hk9 => by rw [f2 k]; simp; intro q; omega)
      obtain ⟨r9, s1, s2⟩ := saves_eq hm
      rw [s1, Option.bind_some]
      unfold SS_leastSet
      rw [isDark_eq (show r < 6 by omega), (hR.1.2.2.1 r b1 b2 rfl).1, f1, Option.bind_some, Option.bind_some]
      have hR0 : Rst hm (setc hm 9 r9) := ⟨fun k k0 k7 k9 => setc_ne k9, fun j hj => by rw [setc_ne (by omega)], fun i hi => by rw [setc_ne (by omega)], fun i hi => by rw [setc_eq]; exact s2 i hi⟩
      have fin : ∀ h' h2', Xtr hx h' → Rst hm h2' → Inv h' h2' := fun h' h2' kx kr => by
        refine ⟨P, S, L, C.mk hS (fun k k1 k2 => kx k (by omega) (by omega)) (fun k k1 k2 => kr.1 k (by omega) (by omega) (by omega)) (hR.of (fun k k1 k2 => kx k (by omega) (by omega))) (hR2.of67 hk hS kr.2.2.1), hT, hL.of (fun k k1 k2 => kx k (by omega) (by omega)) (kr.1 8 (by omega) (by omega) (by omega)) (kr.2.1 10 (by omega)), hTx.of (kx 1 (by omega) (by omega)) (kx 2 (by omega) (by omega)) (kr.2.1 0 (by omega)) (kr.1 1 (by omega) (by omega) (by omega))⟩
      by_cases hd : sF S r = 0
      · rw [if_neg (show ¬ b2i (decide (sF S r = 0)) = 0 by simp [hd, b2i]), Option.bind_some]
        dsimp only
        rw [if_neg (show ¬ (0 : Int32) ≤ -4 by decide), Mo_least_L73]
        have h9 : setc hm 9 r9 9 r = 0 := by
          rw [setc_eq, s2 r (by omega)]
          have := (hR2.2.1 r b1).1
          rw [b2, hd] at this; exact this
        rw [zr_nI (show r < 67 by omega) (by omega), gd_true, nI_clamp (show r < 2 ^ 31 by omega), h9, if_pos (show (0 : Int32) ≤ 0 by decide)]
        by_cases q : set < 0
        · rw [if_pos q, if_pos rfl]; exact ⟨_, _, _, rfl, rfl, fin _ _ Xtr.rf hR0⟩
        · rw [if_neg q, if_pos rfl]; exact ⟨_, _, _, rfl, rfl, fin _ _ Xtr.rf hR0⟩
      · rw [if_pos (show b2i (decide (sF S r = 0)) = 0 by simp [hd, b2i])]
        obtain ⟨best, h', h2', w1, w2, w3, w4, w5⟩ := least_loop C b1 b2 hd m2' k1 k2 f2 (fun x6_1 h_4 => if x6_1 = (-4) then some (x6_1, h_4) else if u = 0 then some (x6_1, h_4) else (Mo_loadOf x6_1 h_4).bind fun r_13 => some (r_13, h_4)) (m + 1) 0 1000 1000 (-4) hx (setc hm 9 r9) (by omega) (by omega) (by omega) (Or.inl rfl) Xtr.rf hR0
        have w1' : SS_leastSet_L31 (nI r) (nI n) set (fun x4_1 h_2 => some (x4_1, h_2)) 1000 (-4) 0 hx = some (best, h') := w1
        have w2' : Mo_least_L73 (nI n) (nI r) set (fun x6_1 h_4 => if x6_1 = (-4) then some (x6_1, h_4) else if u = 0 then some (x6_1, h_4) else (Mo_loadOf x6_1 h_4).bind fun r_13 => some (r_13, h_4)) 1000 (-4) 0 (setc hm 9 r9) = if best = (-4) then some (best, h2') else if u = 0 then some (best, h2') else (Mo_loadOf best h2').bind fun r_13 => some (r_13, h2') := w2
        rw [w1', w2', Option.bind_some]
        dsimp only
        by_cases hb : best = -4
        · rw [if_pos hb, if_neg (show ¬ (0 : Int32) ≤ best by rw [hb]; decide), hb]
          exact ⟨_, _, _, rfl, rfl, fin _ _ w4 w5⟩
        · rw [if_neg hb, if_pos (Int32.not_lt.mp (fun z => hb (w3.neg.mp z)))]
          by_cases hu : u = 0
          · rw [if_pos hu, if_pos hu]; exact ⟨_, _, _, rfl, rfl, fin _ _ w4 w5⟩
          · rw [if_neg hu, if_neg hu, loadOfSet_eq (hX.of' (fun k k1 k2 => w4 k (by omega) (by omega))) hk, mloadOf_eq (hM.of' (fun k k1 k2 => w5.1 k (by omega) (by omega) (by omega))) hk]
            exact ⟨_, _, _, rfl, rfl, fin _ _ w4 w5⟩
    · rw [if_neg h3, if_neg h4, show Mo_isIn u 0 1 = some 0 by unfold Mo_isIn; rw [if_neg h3, if_pos (Int32.not_le.mp h4)]]; exact ⟨_, _, _, rfl, rfl, I⟩
