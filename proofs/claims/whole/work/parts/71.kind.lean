theorem nms_len {a : Nat → Int32} {e : Nat} : ∀ (f p : Nat) (l : List Int32), nms a e f p = some l → l.length ≤ f
  | 0, p, l, h => by cases h
  | f + 1, p, l, h => by
    unfold nms at h
    by_cases h0 : kD a p = 0
    · rw [if_pos h0] at h; cases h
    · rw [if_neg h0] at h
      by_cases h1 : p + kD a p = e
      · rw [if_pos h1] at h; cases h; simp
      · rw [if_neg h1] at h
        by_cases h2 : a (p + kD a p) = 44
        · rw [if_pos h2] at h
          cases h3 : nms a e f (p + kD a p + 1) with
          | none => rw [h3] at h; cases h
          | some l' => rw [h3] at h; cases h; have := nms_len f _ l' h3; simp; omega
        · rw [if_neg h2] at h; cases h
def nN (o : Option (List Int32)) : Int32 := match o with
  | some l => nI l.length
  | none => -1
theorem nN_iff {a : Nat → Int32} {e p k : Nat} (hk : k ≤ 4) : nN (nms a e 4 p) = nI k ↔ ∃ l, nms a e 4 p = some l ∧ l.length = k := by
  cases h : nms a e 4 p with
  | none =>
    constructor
    · intro q
      have q1 := ieq.mp (show (-1 : Int32) = nI k from q)
      rw [nI_toInt (by omega)] at q1
      have : (-1 : Int32).toInt = -1 := rfl
      omega
    · rintro ⟨l, z, _⟩; cases z
  | some l =>
    have := nms_len 4 p l h
    constructor
    · intro q
      exact ⟨l, rfl, (nI_eq (by omega) (by omega)).mp q⟩
    · rintro ⟨l', z, rfl⟩; cases z; rfl
/-- what an item comes to on both sides -/
def Res (p e : Nat) (a : Nat → Int32) (h hm : zH) (CL R : Option (Int32 × zH)) : Prop := ∃ v h' w hm', CL = some (v, h') ∧ R = some (w, hm') ∧ (∀ k, k ≠ 4 → ¬ (p ≤ k ∧ k ≤ p + 11) → h' k = h k) ∧ Fr hm hm' ∧ ((v = 0 ∧ (w = 0 ∨ w = 1 ∧ ∃ q', hm' 0 12 = nI q' ∧ q' ≤ 300 ∧ a q' ≠ 59)) ∨ (v = 1 ∧ w = 1 ∧ hm' 0 12 = nI e ∧ ∃ b' l' q' f' s', DX p h' hm' b' l' q' f' s' ∧ 0 < b'))
theorem kind {a : Nat → Int32} {run : Option (Int32 × zH)} {h h1 hm : zH} {m p e P : Nat} {cond : List Int32 → Prop} {eff : List Int32 → zH → Prop} (hO : OutR a run hm m P cond eff) (hm3 : m < 4) (hpe : P ≤ e) (hp : P ≤ 250) (he : a e = 59) (hno : ∀ y, P ≤ y → y < e → a y ≠ 59) (h14 : ∀ k, k ≠ 4 → h1 k = h k) (add : Option (Int32 × zH)) (hadd : ∀ l hm', nms a e 4 P = some l → l.length = m + 1 → (¬ cond l ∧ add = some (0, h1)) ∨ (cond l ∧ ∃ h2, add = some (1, h2) ∧ (∀ k, ¬ (p ≤ k ∧ k ≤ p + 11) → h2 k = h1 k) ∧ (eff l hm' → ∃ b' l' q' f' s', DX p h2 hm' b' l' q' f' s' ∧ 0 < b'))) {N : Int32} (hN : N = nN (nms a e 4 P)) : Res p e a h hm (if N = nI (m + 1) then add.bind (fun r => if r.1 = 0 then some (0, r.2) else some (1, r.2)) else some (0, h1)) (run.bind fun r => gd (zb r.1) (some (r.1, r.2))) := by
  rcases comb hO hm3 hpe hp he hno with ⟨l, hm', g1, g2, g3, g4, g5, g6, g7⟩ | ⟨w, hm', g1, g2, g3, g4⟩
  · rw [if_pos (hN.trans ((nN_iff (by omega)).mpr ⟨l, g1, g2⟩))]
    rcases hadd l hm' g1 g2 with ⟨z1, _⟩ | ⟨_, h2, z2, z3, z4⟩
    · exact absurd g3 z1
    · rw [z2, Option.bind_some, g4, Option.bind_some]
      exact ⟨1, h2, 1, hm', rfl, rfl, fun k k4 kp => (z3 k kp).trans (h14 k k4), g6, Or.inr ⟨rfl, rfl, g5, z4 g7⟩⟩
  · have hw : (run.bind fun r => gd (zb r.1) (some (r.1, r.2))) = some (w, hm') := by
      rw [g1, Option.bind_some]
      rcases g3 with rfl | ⟨rfl, _⟩
      · rfl
      · rfl
    rw [hw]
    by_cases hc : N = nI (m + 1)
    · rw [if_pos hc]
      obtain ⟨l, z1, z2⟩ := (nN_iff (by omega)).mp (hN.symm.trans hc)
      rcases hadd l hm' z1 z2 with ⟨_, y2⟩ | ⟨y1, _⟩
      · rw [y2, Option.bind_some]
        exact ⟨0, h1, w, hm', rfl, rfl, fun k k4 _ => h14 k k4, g2, Or.inl ⟨rfl, g3⟩⟩
      · exact absurd y1 (g4 l z1 z2)
    · rw [if_neg hc]
      exact ⟨0, h1, w, hm', rfl, rfl, fun k k4 _ => h14 k k4, g2, Or.inl ⟨rfl, g3⟩⟩
/-- the reference's item, in one piece -/
theorem readsItem_1 (c x2 : Int32) (hc : ¬ c = 98) (h : zH) : Mo_readsItem c x2 1 h = some (0, h) := by
  unfold Mo_readsItem
  rw [zlet_n (α := Int32 → Option (Int32 × zH)), if_neg hc]
  dsimp only
  rw [if_neg (show ¬ (1 : Int32) = 0 by decide)]
theorem readsItem_b (x2 : Int32) (h : zH) : Mo_readsItem 98 x2 1 h = ((Mo_number x2 1 6 h).bind fun r => if r.1 = 0 then zlet (upd2 r.2 2 5 0) fun h_1 => gd (zb r.1) (some (r.1, h_1)) else zlet (upd2 r.2 2 5 (r.2 0 11)) fun h_2 => gd (zb r.1) (some (r.1, h_2))) := by
  unfold Mo_readsItem
  rw [zlet_n (α := Int32 → Option (Int32 × zH)), if_pos rfl]
  dsimp only
  rw [if_pos rfl, if_pos rfl]
theorem readsItem_b0 (x2 : Int32) (h : zH) : Mo_readsItem 98 x2 0 h = some (0, h) := by
  unfold Mo_readsItem
  rw [zlet_n (α := Int32 → Option (Int32 × zH)), if_pos rfl]
  dsimp only
  rw [if_neg (show ¬ (0 : Int32) = 1 by decide)]
theorem readsItem_0 (c x2 : Int32) (hc : ¬ c = 98) (h : zH) : Mo_readsItem c x2 0 h = if c = 102 then (Mo_readsFeeder x2 h).bind fun r => gd (zb r.1) (some (r.1, r.2)) else if c = 108 then (Mo_readsLink x2 h).bind fun r => gd (zb r.1) (some (r.1, r.2)) else if c = 112 then (Mo_readsPlant x2 h).bind fun r => gd (zb r.1) (some (r.1, r.2)) else if c = 114 then (Mo_readsBack x2 h).bind fun r => gd (zb r.1) (some (r.1, r.2)) else if c = 115 then (Mo_readsStage x2 h).bind fun r => gd (zb r.1) (some (r.1, r.2)) else some (0, h) := by
  unfold Mo_readsItem
  rw [zlet_n (α := Int32 → Option (Int32 × zH)), if_neg hc]
  dsimp only
  rw [if_pos rfl, if_neg hc]
theorem gd01 {run : Option (Int32 × zH)} (h : ∀ r, run = some r → r.1 = 0 ∨ r.1 = 1) : (run.bind fun r => gd (zb r.1) (some (r.1, r.2))) = run := by
  cases run with
  | none => rfl
  | some r =>
    rcases h r rfl with e | e
    · rw [Option.bind_some, e]; show some (0, r.2) = some r; rw [← e]
    · rw [Option.bind_some, e]; show some (1, r.2) = some r; rw [← e]
theorem item {a : Nat → Int32} {len x e p b l q f s : Nat} {h hm : zH} (hp : 5 ≤ p) (d : DX p h hm b l q f s) (hl : len ≤ 200) (lx : LX a len h) (lm : LM a len hm) (hxe : x ≤ e) (hel : e < len) (he : a e = 59) (hno : ∀ y, x ≤ y → y < e → a y ≠ 59) (hf : x = 0 ↔ b = 0) : Res p e a h hm (Re_takeItem (nI x) (nI e) p h) (Mo_readsItem (a x) (nI (x + 1)) (if x = 0 then 1 else 0) hm) := by
  -- what the class reads
  have hrd : ∃ h1 N, Re_readNumbers (nI (x + 1)) (nI e) h = some (N, h1) ∧ (∀ k, k ≠ 4 → h1 k = h k) ∧ (x < e → N = nN (nms a e 4 (x + 1)) ∧ ∀ l, nms a e 4 (x + 1) = some l → ∀ i v, l[i]? = some v → h1 4 i = v) := by
    rcases Nat.lt_or_ge x e with hlt | hge
    · obtain ⟨h1, r1, r2, r3⟩ := readNumbers_eq hl hel he lx (p := x + 1) (by omega)
      refine ⟨h1, nN (nms a e 4 (x + 1)), ?_, r2, fun _ => ⟨rfl, r3⟩⟩
      rw [r1]
      cases nms a e 4 (x + 1) with
      | none => rfl
      | some l => rfl
    · refine ⟨h, 0, ?_, fun _ _ => rfl, fun z => by omega⟩
      unfold Re_readNumbers
      rw [Re_readNumbers_L12, if_pos (show nI e < nI (x + 1) from nI_lt (by omega) (by omega))]
  obtain ⟨h1, N, r1, r2, r3⟩ := hrd
  have d1 : DX p h1 hm b l q f s := d.of (fun k k1 k2 => r2 k (by omega)) (fun _ _ _ => rfl)
  have hletter : h1 2 x = a x := by rw [r2 2 (by omega)]; exact lx.2 x (by omega)
  obtain ⟨⟨b6, l9, q6, f9, s5⟩, ⟨c0, c1, c2, c3, c4⟩, ⟨m0, m1, m2', m3', m4'⟩, dl, dq, df, ds⟩ := id d1
  unfold Re_takeItem
  rw [nI_1, r1, Option.bind_some]
  dsimp only
  rw [zr_nI (show x < 200 by omega) (by omega), gd_true, nI_clamp (show x < 2 ^ 31 by omega)]
  simp only [hletter]
  have lose : ∀ R, R = some ((0 : Int32), hm) → Res p e a h hm (some (0, h1)) R := fun R hR => ⟨0, h1, 0, hm, rfl, hR, fun k k4 _ => r2 k k4, Fr.rf, Or.inl ⟨rfl, Or.inl rfl⟩⟩
  by_cases hb : a x = 98
  · -- the BUSES
    rw [hb, if_pos rfl]
    have hxlt : x < e := by
      rcases Nat.lt_or_ge x e with z | z
      · exact z
      · have : x = e := by omega
        rw [this, he] at hb; exact absurd hb (by decide)
    obtain ⟨hN, hv⟩ := r3 hxlt
    by_cases hx0 : x = 0
    · have hb0 := hf.mp hx0
      subst hb0
      rw [if_pos hx0, readsItem_b]
      have hO := outN (p := x + 1) hl lm (by omega)
      have hk := kind (p := p) (h := h) (h1 := h1) hO (by omega) (by omega) (by omega) he (fun y y1 y2 => hno y (by omega) y2) r2 (Pl_addBuses p (h1 4 0) h1) (fun l' hm' z1 z2 => by
        obtain ⟨v, rfl⟩ := len1 z2
        rw [hv [v] z1 0 v rfl]
        rcases addN (hm' := hm') d1 v with ⟨y1, y2⟩ | ⟨y1, h2, y2, y3, y4⟩
        · exact Or.inl ⟨y1, y2⟩
        · refine Or.inr ⟨y1, h2, y2, y3, fun ef => ?_⟩
          obtain ⟨v', w1, w2, w3, w4, w5, w6⟩ := ef
          cases w1
          obtain ⟨b', t1, t2⟩ := y4 w2 w3 w4 w5 w6
          exact ⟨b', _, _, _, _, t2, t1⟩) hN
      rw [gd01 (fun r hr => ?_)] at hk
      · exact hk
      · rcases hO with ⟨_, _, hm', _, _, g3, _⟩ | ⟨hm', g1, _⟩
        · rw [g3] at hr; cases hr; exact Or.inr rfl
        · rw [g1] at hr; cases hr; exact Or.inl rfl
    · have hb0 : b ≠ 0 := fun z => hx0 (hf.mpr z)
      rw [if_neg hx0, readsItem_b0]
      have hno2 : Pl_addBuses p (h1 4 0) h1 = some (0, h1) := by
        unfold Pl_addBuses
        rw [c0, if_pos (show (0 : Int32) < nI b from nI_lt (a := 0) (by omega) (by omega))]
      by_cases hN1 : N = 1
      · rw [if_pos hN1, hno2, Option.bind_some, if_pos rfl]; exact lose _ rfl
      · rw [if_neg hN1]; exact lose _ rfl
  rw [if_neg hb]
  by_cases hx0 : x = 0
  · -- it comes first, and tells no BUSES
    have hb0 := hf.mp hx0
    subst hb0
    rw [if_pos hx0, readsItem_1 _ _ hb]
    have nobus : ∀ v : Int32, inb v 0 (nI 0 - 1) = false := fun v => by
      cases e : inb v 0 (nI 0 - 1)
      · rfl
      · obtain ⟨j, hj, _⟩ := inb_bus (by omega) e; omega
    by_cases h102 : a x = 102
    · rw [if_pos h102]
      by_cases hN3 : N = 3
      · rw [if_pos hN3]
        rcases addF (hm' := hm) d1 (h1 4 0) (h1 4 1) (h1 4 2) with ⟨_, y⟩ | ⟨y, _⟩
        · rw [y, Option.bind_some, if_pos rfl]; exact lose _ rfl
        · have y2 : (inb (h1 4 0) 0 (hm 2 5 - 1) && _) = true := y.2
          rw [m0, nobus] at y2; cases y2
      · rw [if_neg hN3]; exact lose _ rfl
    rw [if_neg h102]
    by_cases h108 : a x = 108
    · rw [if_pos h108]
      by_cases hN3 : N = 2
      · rw [if_pos hN3]
        rcases addL (hm' := hm) d1 (h1 4 0) (h1 4 1) with ⟨_, y⟩ | ⟨y, _⟩
        · rw [y, Option.bind_some, if_pos rfl]; exact lose _ rfl
        · have y2 : (inb (h1 4 0) 0 (hm 2 5 - 1) && _) = true := y.2.1
          rw [m0, nobus] at y2; cases y2
      · rw [if_neg hN3]; exact lose _ rfl
    rw [if_neg h108]
    by_cases h112 : a x = 112
    · rw [if_pos h112]
      by_cases hN3 : N = 4
      · rw [if_pos hN3]
        rcases addP (hm' := hm) d1 (h1 4 0) (h1 4 1) (h1 4 2) (h1 4 3) with ⟨_, y⟩ | ⟨y, _⟩
        · rw [y, Option.bind_some, if_pos rfl]; exact lose _ rfl
        · have y2 : (inb (h1 4 0) 0 (hm 2 5 - 1) && _) = true := y.2
          rw [m0, nobus] at y2; cases y2
      · rw [if_neg hN3]; exact lose _ rfl
    rw [if_neg h112]
    by_cases h114 : a x = 114
    · rw [if_pos h114]
      by_cases hN3 : N = 2
      · rw [if_pos hN3]
        have y : Pl_setBack p (h1 4 0) (h1 4 1) h1 = some (0, h1) := by
          unfold Pl_setBack
          have hr := setRow_eq (i := 0) c0 b6 (by omega) (h1 4 0) (h1 4 1)
          rw [if_pos rfl] at hr
          have hr' : Pl_setRow p 0 (h1 4 0) (h1 4 1) h1 = _ := hr
          rw [hr', Option.bind_some]; rfl
        rw [y, Option.bind_some, if_pos rfl]; exact lose _ rfl
      · rw [if_neg hN3]; exact lose _ rfl
    rw [if_neg h114]
    by_cases h115 : a x = 115
    · rw [if_pos h115]
      by_cases hN3 : N = 2
      · rw [if_pos hN3]
        have y : Pl_addStage p (h1 4 0) (h1 4 1) h1 = some (0, h1) := by
          unfold Pl_addStage
          by_cases z : (5 : Int32) ≤ h1 p 4
          · rw [if_pos z]
          · rw [if_neg z]
            have s5' : s < 5 := by
              rcases Nat.lt_or_ge s 5 with w | w
              · exact w
              · exact absurd (by rw [c4, show s = 5 by omega]; decide) z
            rw [c4, nI_1, setRow_eq c0 b6 (by omega), if_pos rfl, Option.bind_some, if_pos rfl]
        rw [y, Option.bind_some, if_pos rfl]; exact lose _ rfl
      · rw [if_neg hN3]; exact lose _ rfl
    rw [if_neg h115]
    exact lose _ rfl
  · -- it comes later
    have hb0 : b ≠ 0 := fun z => hx0 (hf.mpr z)
    rw [if_neg hx0, readsItem_0 _ _ hb]
    by_cases h102 : a x = 102
    · rw [if_pos h102, if_pos h102]
      have hxlt : x < e := by
        rcases Nat.lt_or_ge x e with z | z
        · exact z
        · rw [show x = e by omega, he] at h102; exact absurd h102 (by decide)
      obtain ⟨hN, hv⟩ := r3 hxlt
      exact kind (p := p) (h := h) (h1 := h1) (outF (n := f) (p := x + 1) hl lm (by omega) m3' f9) (by omega) (by omega) (by omega) he (fun y y1 y2 => hno y (by omega) y2) r2 (Pl_addFeeder p (h1 4 0) (h1 4 1) (h1 4 2) h1) (fun l' hm' z1 z2 => by
        obtain ⟨v1, v2, v3, rfl⟩ := len3 z2
        rw [hv _ z1 0 v1 rfl, hv _ z1 1 v2 rfl, hv _ z1 2 v3 rfl]
        rcases addF (hm' := hm') d1 v1 v2 v3 with ⟨y1, y2⟩ | ⟨y1, h2, y2, y3, y4⟩
        · exact Or.inl ⟨fun z => y1 ⟨z.1, z.2.1⟩, y2⟩
        · refine Or.inr ⟨⟨y1.1, y1.2, trivial⟩, h2, y2, y3, fun ef => ?_⟩
          obtain ⟨_, _, _, w1, w2, w3, w4, w5, w6⟩ := ef
          cases w1
          exact ⟨_, _, _, _, _, y4 w2 w3 w4 w5 w6, by omega⟩) hN
    rw [if_neg h102, if_neg h102]
    by_cases h108 : a x = 108
    · rw [if_pos h108, if_pos h108]
      have hxlt : x < e := by
        rcases Nat.lt_or_ge x e with z | z
        · exact z
        · rw [show x = e by omega, he] at h108; exact absurd h108 (by decide)
      obtain ⟨hN, hv⟩ := r3 hxlt
      exact kind (p := p) (h := h) (h1 := h1) (outL (n := l) (p := x + 1) hl lm (by omega) m1 l9) (by omega) (by omega) (by omega) he (fun y y1 y2 => hno y (by omega) y2) r2 (Pl_addLink p (h1 4 0) (h1 4 1) h1) (fun l' hm' z1 z2 => by
        obtain ⟨v1, v2, rfl⟩ := len2 z2
        rw [hv _ z1 0 v1 rfl, hv _ z1 1 v2 rfl]
        rcases addL (hm' := hm') d1 v1 v2 with ⟨y1, y2⟩ | ⟨y1, h2, y2, y3, y4⟩
        · exact Or.inl ⟨y1, y2⟩
        · refine Or.inr ⟨y1, h2, y2, y3, fun ef => ?_⟩
          obtain ⟨_, _, w1, w2, w3, w4, w5, w6⟩ := ef
          cases w1
          exact ⟨_, _, _, _, _, y4 w2 w3 w4 w5 w6, by omega⟩) hN
    rw [if_neg h108, if_neg h108]
    by_cases h112 : a x = 112
    · rw [if_pos h112, if_pos h112]
      have hxlt : x < e := by
        rcases Nat.lt_or_ge x e with z | z
        · exact z
        · rw [show x = e by omega, he] at h112; exact absurd h112 (by decide)
      obtain ⟨hN, hv⟩ := r3 hxlt
      exact kind (p := p) (h := h) (h1 := h1) (outP (n := q) (p := x + 1) hl lm (by omega) m2' q6) (by omega) (by omega) (by omega) he (fun y y1 y2 => hno y (by omega) y2) r2 (Pl_addPlant p (h1 4 0) (h1 4 1) (h1 4 2) (h1 4 3) h1) (fun l' hm' z1 z2 => by
        obtain ⟨v1, v2, v3, v4, rfl⟩ := len4 z2
        rw [hv _ z1 0 v1 rfl, hv _ z1 1 v2 rfl, hv _ z1 2 v3 rfl, hv _ z1 3 v4 rfl]
        rcases addP (hm' := hm') d1 v1 v2 v3 v4 with ⟨y1, y2⟩ | ⟨y1, h2, y2, y3, y4⟩
        · exact Or.inl ⟨fun z => y1 ⟨z.1, z.2.1⟩, y2⟩
        · refine Or.inr ⟨⟨y1.1, y1.2, trivial⟩, h2, y2, y3, fun ef => ?_⟩
          obtain ⟨_, _, _, _, w1, w2, w3, w4, w5, w6⟩ := ef
          cases w1
          exact ⟨_, _, _, _, _, y4 w2 w3 w4 w5 w6, by omega⟩) hN
    rw [if_neg h112, if_neg h112]
    by_cases h114 : a x = 114
    · rw [if_pos h114, if_pos h114]
      have hxlt : x < e := by
        rcases Nat.lt_or_ge x e with z | z
        · exact z
        · rw [show x = e by omega, he] at h114; exact absurd h114 (by decide)
      obtain ⟨hN, hv⟩ := r3 hxlt
      exact kind (p := p) (h := h) (h1 := h1) (outB (p := x + 1) hl lm (by omega)) (by omega) (by omega) (by omega) he (fun y y1 y2 => hno y (by omega) y2) r2 (Pl_setBack p (h1 4 0) (h1 4 1) h1) (fun l' hm' z1 z2 => by
        obtain ⟨v1, v2, rfl⟩ := len2 z2
        rw [hv _ z1 0 v1 rfl, hv _ z1 1 v2 rfl]
        rcases addBk (hm' := hm') d1 hb0 v1 v2 with ⟨y1, y2⟩ | ⟨y1, h2, y2, y3, y4⟩
        · exact Or.inl ⟨y1, y2⟩
        · refine Or.inr ⟨y1, h2, y2, y3, fun ef => ?_⟩
          obtain ⟨_, _, w1, w2, w3, w4, w5, w6⟩ := ef
          cases w1
          exact ⟨_, _, _, _, _, y4 w2 w3 w4 w5 w6, by omega⟩) hN
    rw [if_neg h114, if_neg h114]
    by_cases h115 : a x = 115
    · rw [if_pos h115, if_pos h115]
      have hxlt : x < e := by
        rcases Nat.lt_or_ge x e with z | z
        · exact z
        · rw [show x = e by omega, he] at h115; exact absurd h115 (by decide)
      obtain ⟨hN, hv⟩ := r3 hxlt
      exact kind (p := p) (h := h) (h1 := h1) (outS (n := s) (p := x + 1) hl lm (by omega) m4' s5) (by omega) (by omega) (by omega) he (fun y y1 y2 => hno y (by omega) y2) r2 (Pl_addStage p (h1 4 0) (h1 4 1) h1) (fun l' hm' z1 z2 => by
        obtain ⟨v1, v2, rfl⟩ := len2 z2
        rw [hv _ z1 0 v1 rfl, hv _ z1 1 v2 rfl]
        rcases addS (hm' := hm') d1 hb0 v1 v2 with ⟨y1, y2⟩ | ⟨y1, h2, y2, y3, y4⟩
        · exact Or.inl ⟨fun z => y1 ⟨z.1, z.2.1⟩, y2⟩
        · refine Or.inr ⟨⟨y1.1, y1.2, trivial⟩, h2, y2, y3, fun ef => ?_⟩
          obtain ⟨_, _, w1, w2, w3, w4, w5, w6⟩ := ef
          cases w1
          exact ⟨_, _, _, _, _, y4 w2 w3 w4 w5 w6, by omega⟩) hN
    rw [if_neg h115, if_neg h115]
    exact lose _ rfl
