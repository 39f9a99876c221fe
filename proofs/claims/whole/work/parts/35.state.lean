/-! what a state IS: LINKS closed, F and COUNTS by root, what PLANTS give, FEEDERS on, those that are off in their order, MARKS, TICKS -/
abbrev St : Type := Int32 × (Nat → Int32) × (Nat → Nat → Int32) × (Nat → Int32) × (Nat → Bool) × List Nat × (Nat → Int32) × Int32
abbrev sCl (S : St) : Int32 := S.1
abbrev sF (S : St) : Nat → Int32 := S.2.1
abbrev sC (S : St) : Nat → Nat → Int32 := S.2.2.1
abbrev sG (S : St) : Nat → Int32 := S.2.2.2.1
abbrev sOn (S : St) : Nat → Bool := S.2.2.2.2.1
abbrev sOff (S : St) : List Nat := S.2.2.2.2.2.1
abbrev sMk (S : St) : Nat → Int32 := S.2.2.2.2.2.2.1
abbrev sTk (S : St) : Int32 := S.2.2.2.2.2.2.2
abbrev wF (S : St) (x : Nat → Int32) : St := (sCl S, x, sC S, sG S, sOn S, sOff S, sMk S, sTk S)
abbrev wC (S : St) (x : Nat → Nat → Int32) : St := (sCl S, sF S, x, sG S, sOn S, sOff S, sMk S, sTk S)
abbrev wG (S : St) (x : Nat → Int32) : St := (sCl S, sF S, sC S, x, sOn S, sOff S, sMk S, sTk S)
abbrev wO (S : St) (x : Nat → Bool) (y : List Nat) : St := (sCl S, sF S, sC S, sG S, x, y, sMk S, sTk S)
/-- FEEDERS: the list of those that are off is what the bits say -/
def okO (P : zH) (on : Nat → Bool) (off : List Nat) : Prop := off.Nodup ∧ (∀ f ∈ off, f < nf P) ∧ ∀ f, f < nf P → (f ∈ off ↔ on f = false)
def Sok (P : zH) (S : St) : Prop := (∀ l, nl P ≤ l → bt (sCl S) l = false) ∧ (∀ r, r < nb P → sF S r = 0 ∨ isIn (sF S r) 4700 5200) ∧ (∀ p, p < np P → 0 ≤ (sG S p).toInt ∧ (sG S p).toInt ≤ (P 4 p).toInt) ∧ okO P (sOn S) (sOff S) ∧ True
/-- FEEDERS as they lie: the bits, how many are off, which -/
def rpO (P : zH) (bits n : Int32) (row : Nat → Int32) (on : Nat → Bool) (off : List Nat) : Prop := (∀ f, bt bits f = (decide (f < nf P) && on f)) ∧ n = nI off.length ∧ ∀ i f, off[i]? = some f → row i = nI f
/-- the reference's row holds a state -/
def RepM (P : zH) (row : Nat → Int32) (S : St) : Prop := row 43 = sCl S ∧ (∀ b, b < nb P → row b = sF S (rt P (sCl S) b) ∧ ∀ s, s < 6 → row (6 + 6 * b + s) = sC S (rt P (sCl S) b) s) ∧ (∀ p, p < np P → row (44 + p) = sG S p) ∧ rpO P (row 42) (row 50) (fun i => row (51 + i)) (sOn S) (sOff S) ∧ (∀ s, s ≤ ns P → row (60 + s) = sMk S s) ∧ row 66 = sTk S
/-- the class's grid g holds a state, as far as the BUSES of J go -/
def RepJ (P : zH) (J : Nat → Bool) (h : zH) (g : Nat) (S : St) : Prop := h g 1 = sCl S ∧ RX h g (rt P (sCl S)) ∧ (∀ r, r < nb P → rt P (sCl S) r = r → J r = true → h (g + 3) r = sF S r ∧ ∀ s, s < 6 → h (g + 4) (6 * r + s) = sC S r s) ∧ (∀ p, p < np P → J (pb P p) = true → h (g + 5) p = sG S p) ∧
  (∃ on off, okO P on off ∧ rpO P (h g 7) (h g 9) (h (g + 6)) on off ∧ (∀ f, f < nf P → J (fb P f) = true → on f = sOn S f) ∧ off.filter (fun f => J (fb P f)) = (sOff S).filter (fun f => J (fb P f))) ∧ ∀ s, s ≤ ns P → h (g + 7) s = sMk S s
/-- J holds whole ISLANDS -/
def Jok (P : zH) (S : St) (J : Nat → Bool) : Prop := ∀ b, b < nb P → J (rt P (sCl S) b) = J b
noncomputable abbrev inR (P : zH) (S : St) (r : Nat) : Nat → Bool := fun c => decide (rt P (sCl S) c = r)
noncomputable abbrev sLoad (P : zH) (S : St) (r : Nat) : Int32 := pLoad P (sOn S) (inR P S r)
noncomputable abbrev sGiven (P : zH) (S : St) (r : Nat) : Int32 := pSum P (sG S) (inR P S r)
noncomputable abbrev sCap (P : zH) (S : St) (r : Nat) : Int32 := pSum P (P 4) (inR P S r)
noncomputable abbrev sHv (P : zH) (S : St) (r : Nat) : Int32 := pSum P (P 6) (inR P S r)
noncomputable abbrev sAim (P : zH) (S : St) (r : Nat) : Int32 := sLoad P S r + (5000 - sF S r) / 20
/-- what a PLANT gives next: as much as lacks, by its pace at most, from 0 to its cap -/
noncomputable def newg (g cap pace apart : Int32) : Int32 := (fun x : Int32 => if 0 ≤ x then (if x ≤ cap then x else cap) else 0) (g + (if apart ≤ pace then (if -pace ≤ apart then apart else -pace) else pace))
noncomputable def flw1 (P : zH) (q : Nat → Bool) (aim : Int32) (p : Nat) (gv : Nat → Int32) : Nat → Int32 := if q (pb P p) then upd gv p (newg (gv p) (P 4 p) (P 5 p) (aim - pSum P gv q)) else gv
noncomputable def flw (P : zH) (q : Nat → Bool) (aim : Int32) (gv : Nat → Int32) : Nat → Int32 := itr (flw1 P q aim) 0 (np P) gv
noncomputable def sFollow (P : zH) (S : St) (r : Nat) : St := wG S (flw P (inR P S r) (sAim P S r) (sG S))
/-- FEEDERS below n that are dropped -/
def dlN (on sel : Nat → Bool) (n : Nat) : List Nat := (List.range n).filter (fun f => sel f && on f)
abbrev sDropN (S : St) (sel : Nat → Bool) (n : Nat) : St := wO S (fun f => sOn S f && !(sel f && decide (f < n))) (sOff S ++ dlN (sOn S) sel n)
abbrev dl (P : zH) (on sel : Nat → Bool) : List Nat := dlN on sel (nf P)
abbrev sDrop (P : zH) (S : St) (sel : Nat → Bool) : St := sDropN S sel (nf P)
noncomputable def upF (F : Nat → Int32) (r : Nat) (v : Int32) : Nat → Int32 := fun x => if x = r then v else F x
noncomputable def upC (C : Nat → Nat → Int32) (r s : Nat) (v : Int32) : Nat → Nat → Int32 := fun x y => if x = r ∧ y = s then v else C x y
noncomputable abbrev selR (P : zH) (S : St) (r : Nat) : Nat → Bool := fun f => inR P S r (fb P f)
noncomputable def sDark (P : zH) (S : St) (r : Nat) : St := (fun S1 : St => wG S1 (fun p => if inR P S r (pb P p) then 0 else sG S p)) (sDrop P (wF S (upF (sF S) r 0)) (selR P S r))
/-- one STAGE: its COUNT, and what it drops -/
noncomputable def selS (P : zH) (S : St) (r s : Nat) : Nat → Bool := fun f => selR P S r f && decide (P 9 f = nI s)
noncomputable def stN (S : St) (r s : Nat) : Int32 := if sMk S s ≤ sF S r then 0 else sC S r s + 1
noncomputable def stD (P : zH) (S : St) (r s : Nat) : List Nat := if stN S r s < P 11 s then [] else dl P (sOn S) (selS P S r s)
noncomputable def sStage (P : zH) (r s : Nat) (S : St) : St := if stD P S r s = [] then wC S (upC (sC S) r s (stN S r s)) else sDrop P (wC S (upC (sC S) r s 0)) (selS P S r s)
/-- the way BACK -/
noncomputable def bkN (S : St) (r : Nat) : Int32 := if sF S r < sMk S 0 then 0 else sC S r 0 + 1
noncomputable def bkF (P : zH) (S : St) (r : Nat) : Option Nat := if bkN S r < P 11 0 then none else (sOff S).reverse.find? (fun f => selR P S r f && !(decide (sCap P S r - sLoad P S r < P 8 f)))
noncomputable def sPut (S : St) (f : Nat) : St := wO S (fun x => if x = f then true else sOn S x) ((sOff S).filter (fun x => !(x == f)))
noncomputable def sBack (P : zH) (r : Nat) (S : St) : St := match bkF P S r with
  | none => wC S (upC (sC S) r 0 (bkN S r))
  | some f => sPut (wC S (upC (sC S) r 0 0)) f
/-- F behind the PLANTS -/
noncomputable def nwF (P : zH) (S : St) (r : Nat) : Int32 := (fun x : Int32 => if x ≤ 5200 then x else 5200) (sF S r + 10 * (sGiven P S r - sLoad P S r) / sHv P S r)
/-- an ISLAND's TICK, with what is dropped in it and how many come BACK -/
abbrev Ev : Type := List Nat × Nat
noncomputable def stages (P : zH) (r : Nat) : Nat → St × List Nat → St × List Nat := fun i q => (sStage P r (i + 1) q.1, q.2 ++ stD P q.1 r (i + 1))
noncomputable def sTick1 (P : zH) (S0 : St) (r : Nat) : St × Ev := (fun S : St =>
  if sHv P S r = 0 ∨ nwF P S r < 4700 then (sDark P S r, dl P (sOn S) (selR P S r), 0)
  else (fun q : St × List Nat => (sBack P r q.1, q.2, if (bkF P q.1 r).isSome then 1 else 0)) (itr (stages P r) 0 (ns P) (wF S (upF (sF S) r (nwF P S r)), []))) (sFollow P S0 r)
abbrev wT (S : St) (x : Int32) : St := (sCl S, sF S, sC S, sG S, sOn S, sOff S, sMk S, x)
/-- a TICK of all ISLANDS -/
noncomputable def tk1 (P : zH) (b : Nat) (q : St × Ev) : St × Ev := if rt P (sCl q.1) b = b ∧ ¬ sF q.1 b = 0 then ((sTick1 P q.1 b).1, q.2.1 ++ (sTick1 P q.1 b).2.1, q.2.2 + (sTick1 P q.1 b).2.2) else q
noncomputable def sTicks (P : zH) (S : St) : St × Ev := (fun q : St × Ev => (wT q.1 (sTk q.1 + 1), q.2)) (itr (tk1 P) 0 (nb P) (S, [], 0))
