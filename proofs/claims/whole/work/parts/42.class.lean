/-! the class: its grid g, its course c -/
theorem RX.of {h h' : zH} {g : Nat} {ρ : Nat → Nat} (hR : RX h g ρ) (e : h' (g + 1) = h (g + 1)) : RX h' g ρ := fun b hb => by rw [e]; exact hR b hb
theorem RepJ.R {P h : zH} {J : Nat → Bool} {g : Nat} {S : St} (hR : RepJ P J h g S) : RX h g (rt P (sCl S)) := hR.2.1
/-- other cells, or the same in them -/
theorem RepJ.of {P h h' : zH} {J : Nat → Bool} {g : Nat} {S : St} (hR : RepJ P J h g S) (e : ∀ k, g + 1 ≤ k → k ≤ g + 7 → h' k = h k) (e0 : h' g 1 = h g 1 ∧ h' g 7 = h g 7 ∧ h' g 9 = h g 9) : RepJ P J h' g S := by
  obtain ⟨h1, h2, h3, h4, h5, h6⟩ := hR
  refine ⟨e0.1.trans h1, h2.of (e _ (by omega) (by omega)), ?_, ?_, ?_, ?_⟩
  · rw [e (g + 3) (by omega) (by omega), e (g + 4) (by omega) (by omega)]; exact h3
  · rw [e (g + 5) (by omega) (by omega)]; exact h4
  · rw [e (g + 6) (by omega) (by omega), e0.2.1, e0.2.2]; exact h5
  · rw [e (g + 7) (by omega) (by omega)]; exact h6
theorem RepJ.cell {P h : zH} {J : Nat → Bool} {g k : Nat} {S : St} (hR : RepJ P J h g S) (hk : ¬ (g ≤ k ∧ k ≤ g + 7)) (r : Nat → Int32) : RepJ P J (setc h k r) g S := hR.of (fun j h1 h2 => setc_ne (by omega)) (by rw [setc_ne (by omega)]; exact ⟨rfl, rfl, rfl⟩)
/-- what the class changes while TICKS go by -/
def Xfr (g c : Nat) (h h' : zH) : Prop := (∀ k, k ≠ c → ¬ (g ≤ k ∧ k ≤ g + 7) → h' k = h k) ∧ h' g 11 = h g 11
theorem Xfr.rf {g c : Nat} {h : zH} : Xfr g c h h := ⟨fun _ _ _ => rfl, rfl⟩
theorem Xfr.tr {g c : Nat} {h h' h'' : zH} (a : Xfr g c h h') (b : Xfr g c h' h'') : Xfr g c h h'' := ⟨fun k k1 k2 => (b.1 k k1 k2).trans (a.1 k k1 k2), b.2.trans a.2⟩
def ck (P h h' : zH) (c : Nat) (ds : List Nat) (bk : Nat) : Prop := h' c 2 = h c 2 + nI ds.length ∧ h' c 3 = h c 3 + ldL P ds ∧ h' c 4 = h c 4 + nI bk
theorem ck.rf {P h : zH} {c : Nat} : ck P h h c [] 0 := ⟨(Int32.add_zero _).symm, (Int32.add_zero _).symm, (Int32.add_zero _).symm⟩
theorem ck.tr {P h h' h'' : zH} {c : Nat} {ds ds' : List Nat} {b b' : Nat} (a : ck P h h' c ds b) (a' : ck P h' h'' c ds' b') : ck P h h'' c (ds ++ ds') (b + b') := by
  obtain ⟨a1, a2, a3⟩ := a
  obtain ⟨b1, b2, b3⟩ := a'
  refine ⟨?_, ?_, ?_⟩
  · rw [b1, a1, List.length_append, ← nI_add, Int32.add_assoc]
  · rw [b2, a2, ldL_app2, Int32.add_assoc]
  · rw [b3, a3, ← nI_add, Int32.add_assoc]
def XS (P : zH) (J : Nat → Bool) (h h' : zH) (g c : Nat) (S' : St) (ds : List Nat) (bk : Nat) : Prop := Xfr g c h h' ∧ RepJ P J h' g S' ∧ ck P h h' c ds bk
theorem XS.tr {P : zH} {J : Nat → Bool} {h h' h'' : zH} {g c : Nat} {S S' : St} {ds ds' : List Nat} {b b' : Nat} (a : XS P J h h' g c S ds b) (a' : XS P J h' h'' g c S' ds' b') : XS P J h h'' g c S' (ds ++ ds') (b + b') := ⟨a.1.tr a'.1, a'.2.1, a.2.2.tr a'.2.2⟩
/-- one cell of the grid is changed, not its object -/
theorem XS.s {P : zH} {J : Nat → Bool} {h : zH} {g c k : Nat} {S : St} {r : Nat → Int32} (hk : g + 1 ≤ k ∧ k ≤ g + 7) (hc : ¬ (g ≤ c ∧ c ≤ g + 7)) (hR : RepJ P J (setc h k r) g S) : XS P J h (setc h k r) g c S [] 0 := ⟨⟨fun j _ j2 => setc_ne (by omega), by rw [setc_ne (by omega)]⟩, hR, by
  unfold ck; rw [setc_ne (by omega)]; exact ck.rf⟩
theorem RepJ.F {P h : zH} {J : Nat → Bool} {g r : Nat} {S : St} (hR : RepJ P J h g S) (v : Int32) : RepJ P J (setc h (g + 3) (upd (h (g + 3)) r v)) g (wF S (upF (sF S) r v)) := by
  obtain ⟨h1, h2, h3, h4, h5, h6⟩ := hR
  refine ⟨by rw [setc_ne (by omega)]; exact h1, h2.of (setc_ne (by omega)), fun x hx hxx hJ => ⟨?_, fun s hs => ?_⟩, fun p hp hJ => ?_, ?_, fun s hs => ?_⟩
  · rw [setc_eq]
    show _ = upF (sF S) r v x
    unfold upF
    by_cases e : x = r
    · rw [if_pos e, e, upd_eq]
    · rw [if_neg e, upd_ne e]; exact (h3 x hx hxx hJ).1
  · rw [setc_ne (by omega)]; exact (h3 x hx hxx hJ).2 s hs
  · rw [setc_ne (by omega)]; exact h4 p hp hJ
  · rw [setc_ne (show g ≠ g + 3 by omega), setc_ne (show g + 6 ≠ g + 3 by omega)]; exact h5
  · rw [setc_ne (by omega)]; exact h6 s hs
theorem RepJ.C {P h : zH} {J : Nat → Bool} {g r s : Nat} {S : St} (hs : s < 6) (hR : RepJ P J h g S) (v : Int32) : RepJ P J (setc h (g + 4) (upd (h (g + 4)) (6 * r + s) v)) g (wC S (upC (sC S) r s v)) := by
  obtain ⟨h1, h2, h3, h4, h5, h6⟩ := hR
  refine ⟨by rw [setc_ne (by omega)]; exact h1, h2.of (setc_ne (by omega)), fun x hx hxx hJ => ⟨?_, fun t ht => ?_⟩, fun p hp hJ => ?_, ?_, fun s hs => ?_⟩
  · rw [setc_ne (by omega)]; exact (h3 x hx hxx hJ).1
  · rw [setc_eq]
    show _ = upC (sC S) r s v x t
    unfold upC
    by_cases e : x = r ∧ t = s
    · rw [if_pos e, e.1, e.2, upd_eq]
    · rw [if_neg e, upd_ne (by omega)]; exact (h3 x hx hxx hJ).2 t ht
  · rw [setc_ne (by omega)]; exact h4 p hp hJ
  · rw [setc_ne (show g ≠ g + 4 by omega), setc_ne (show g + 6 ≠ g + 4 by omega)]; exact h5
  · rw [setc_ne (by omega)]; exact h6 s hs
theorem RepJ.G {P h : zH} {J : Nat → Bool} {g : Nat} {S : St} (hR : RepJ P J h g S) (gx gv : Nat → Int32) (hg : ∀ p, p < np P → J (pb P p) = true → gx p = gv p) : RepJ P J (setc h (g + 5) gx) g (wG S gv) := by
  obtain ⟨h1, h2, h3, h4, h5, h6⟩ := hR
  refine ⟨by rw [setc_ne (by omega)]; exact h1, h2.of (setc_ne (by omega)), fun x hx hxx hJ => ⟨?_, fun t ht => ?_⟩, fun p hp hJ => ?_, ?_, fun s hs => ?_⟩
  · rw [setc_ne (by omega)]; exact (h3 x hx hxx hJ).1
  · rw [setc_ne (by omega)]; exact (h3 x hx hxx hJ).2 t ht
  · rw [setc_eq]; exact hg p hp hJ
  · rw [setc_ne (show g ≠ g + 5 by omega), setc_ne (show g + 6 ≠ g + 5 by omega)]; exact h5
  · rw [setc_ne (by omega)]; exact h6 s hs
/-- what is read of an ISLAND in J -/
theorem Jin {P : zH} {S : St} {J : Nat → Bool} (hJ : Jok P S J) {r : Nat} (hr : J r = true) {b : Nat} (hb : b < nb P) (e : inR P S r b = true) : J b = true := by
  have e1 : rt P (sCl S) b = r := of_decide_eq_true e
  rw [← hJ b hb, e1, hr]
theorem xload {P h : zH} {J : Nat → Bool} {g r : Nat} {S : St} (hX : PX P h) (hk : okN P) (hF : okF P) (hR : RepJ P J h g S) (hJ : Jok P S J) (hr : r < 6) (hJr : J r = true) : Gr_loadOf g (nI r) h = some (sLoad P S r) := by
  rw [loadOf_eq hX hk hF hR.R hr]
  congr 1
  refine pLoad_congr (fun _ _ => rfl) (fun f hf hq => ?_)
  obtain ⟨on, off, o1, o2, o3, o4⟩ := hR.2.2.2.2.1
  rw [o2.1 f, o3 f hf (Jin hJ hJr (hF f hf).1.2 hq)]
  simp [hf]
theorem xgiven {P h : zH} {J : Nat → Bool} {g r : Nat} {S : St} (hX : PX P h) (hk : okN P) (hP : okP P) (hR : RepJ P J h g S) (hJ : Jok P S J) (hr : r < 6) (hJr : J r = true) : Gr_givenOf g (nI r) h = some (sGiven P S r) := by
  rw [givenOf_eq hX hk hP hR.R hr]
  congr 1
  exact pSum_congr (fun _ _ => rfl) (fun p hp hq => hR.2.2.2.1 p hp (Jin hJ hJr (hP p hp).1.2 hq))
theorem xheavy {P h : zH} {J : Nat → Bool} {g r : Nat} {S : St} (hX : PX P h) (hk : okN P) (hP : okP P) (hR : RepJ P J h g S) (hr : r < 6) : Gr_heavyOf g (nI r) h = some (sHv P S r) := heavyOf_eq hX hk hP hR.R hr
theorem xcap {P h : zH} {J : Nat → Bool} {g r : Nat} {S : St} (hX : PX P h) (hk : okN P) (hP : okP P) (hR : RepJ P J h g S) (hr : r < 6) : Gr_capOf g (nI r) h = some (sCap P S r) := capOf_eq hX hk hP hR.R hr
theorem xaim {P h : zH} {J : Nat → Bool} {g r : Nat} {S : St} (hX : PX P h) (hk : okN P) (hF : okF P) (hR : RepJ P J h g S) (hJ : Jok P S J) (hr : r < nb P) (hrr : rt P (sCl S) r = r) (hJr : J r = true) : Gr_aimOf g (nI r) h = some (sAim P S r) := by
  have n2 : nb P ≤ 6 := hk.1.2
  unfold Gr_aimOf
  rw [xload hX hk hF hR hJ (by omega) hJr, Option.bind_some, zr_nI (by omega) (by omega), gd_true, nI_clamp (by omega), (hR.2.2.1 r hr hrr hJr).1]
theorem isDark_eq {h : zH} {g r : Nat} (hr : r < 6) : Gr_isDark g (nI r) h = some (b2i (decide (h (g + 3) r = 0))) := by
  unfold Gr_isDark
  rw [zr_nI hr (by omega), gd_true, nI_clamp (by omega)]
  by_cases e : h (g + 3) r = 0 <;> simp [e, b2i]
/-- a PLANT's step, in the class's words and in the reference's -/
theorem step_eq {g cap pace lack : Int32} (hg : 0 ≤ g.toInt ∧ g.toInt ≤ cap.toInt) (hc : cap.toInt ≤ 99) (hp : 1 ≤ pace.toInt ∧ pace.toInt ≤ 9) (hl : -100000 ≤ lack.toInt ∧ lack.toInt ≤ 100000) : g + zmax (-(zmin pace g)) (zmin (zmin pace (cap - g)) lack) = newg g cap pace lack := by
  have c1 : (cap - g).toInt = cap.toInt - g.toInt := is' (by omega) (by omega)
  have mn : ∀ x y : Int32, (zmin x y).toInt = min x.toInt y.toInt := by
    intro x y; unfold zmin
    by_cases q : y < x
    · rw [if_pos q]; have := ilt.mp q; omega
    · rw [if_neg q]; have := mt ilt.mpr q; omega
  have mx : ∀ x y : Int32, (zmax x y).toInt = max x.toInt y.toInt := by
    intro x y; unfold zmax
    by_cases q : x < y
    · rw [if_pos q]; have := ilt.mp q; omega
    · rw [if_neg q]; have := mt ilt.mpr q; omega
  have ng : ∀ x : Int32, -100000 ≤ x.toInt → (-x).toInt = -x.toInt := by
    intro x hx
    rw [Int32.toInt_neg]
    have := Int32.toInt_lt x
    apply Int.bmod_eq_of_le <;> omega
  have e1 : (zmin pace g).toInt = min pace.toInt g.toInt := mn _ _
  have e2 : (-(zmin pace g)).toInt = -min pace.toInt g.toInt := by rw [ng _ (by omega), e1]
  have e3 : (zmax (-(zmin pace g)) (zmin (zmin pace (cap - g)) lack)).toInt = max (-min pace.toInt g.toInt) (min (min pace.toInt (cap.toInt - g.toInt)) lack.toInt) := by rw [mx, e2, mn, mn, c1]
  have e4 : (-pace).toInt = -pace.toInt := ng _ (by omega)
  have e5 : (if lack ≤ pace then (if -pace ≤ lack then lack else -pace) else pace).toInt = max (-pace.toInt) (min pace.toInt lack.toInt) := by
    by_cases q : lack ≤ pace
    · rw [if_pos q]
      have := ile.mp q
      by_cases q2 : -pace ≤ lack
      · rw [if_pos q2]; have := ile.mp q2; omega
      · rw [if_neg q2]; have := mt ile.mpr q2; omega
    · rw [if_neg q]; have := mt ile.mpr q; omega
  apply ieq.mpr
  rw [ia (by omega) (by omega), e3]
  unfold newg
  generalize hx : (if lack ≤ pace then (if -pace ≤ lack then lack else -pace) else pace) = by1 at e5
  have e6 : (g + by1).toInt = g.toInt + by1.toInt := ia (by omega) (by omega)
  dsimp only
  by_cases q : 0 ≤ g + by1
  · rw [if_pos q]
    have q1 := ile.mp q
    have z0 : (0 : Int32).toInt = 0 := rfl
    by_cases q2 : g + by1 ≤ cap
    · rw [if_pos q2]; have := ile.mp q2; omega
    · rw [if_neg q2]; have := mt ile.mpr q2; omega
  · rw [if_neg q]
    have q1 := mt ile.mpr q
    have z0 : (0 : Int32).toInt = 0 := rfl
    omega
theorem sumTo_upd {f : Nat → Int32} {p : Nat} {v : Int32} (c : Nat → Bool) (hc : c p = true) : ∀ n, p < n → sumTo (fun i => if c i then upd f p v i else 0) n = sumTo (fun i => if c i then f i else 0) n + (v - f p)
  | 0, h => by omega
  | n + 1, h => by
    show sumTo _ n + _ = sumTo _ n + _ + _
    rcases Nat.lt_or_ge p n with q | q
    · rw [sumTo_upd c hc n q]
      dsimp only
      rw [upd_ne (show n ≠ p by omega)]
      rw [Int32.add_assoc, Int32.add_assoc, Int32.add_comm (v - f p)]
    · have : p = n := by omega
      subst this
      have e : sumTo (fun i => if c i then upd f p v i else 0) p = sumTo (fun i => if c i then f i else 0) p := sumTo_congr fun i hi => by rw [upd_ne (by omega)]
      rw [e]
      dsimp only
      rw [upd_eq, hc]
      simp only [if_true]
      rw [Int32.add_assoc]
      congr 1
      rw [Int32.add_comm, Int32.sub_add_cancel]
