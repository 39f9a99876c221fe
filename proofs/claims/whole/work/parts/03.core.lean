/-! THE CORE: a state of the class or of the reference after its making is a fixed list of cells ('sh': what each is) and the ints in them ('h'); a method's meaning is an Option of its answer and of the ints behind it; 'zG' says that the machine, at a frame, comes to what such an Option holds. -/
def zWd : List Cond := lw_tbl.filter goodWord
theorem zmem {w : Cond} (i : Nat) (h : lw_tbl[i]? = some w) (g : goodWord w = true) : w ∈ zWd := List.mem_filter.mpr ⟨List.mem_of_getElem? h, g⟩
theorem z_good {a b : Cond} (hb : b ∈ zWd) : GoodIn (a :: zWd) (b :: zWd) := by
  have k : ∀ w ∈ zWd, (w.onTables && w.keeps) = true ∨ ∃ ty, w = .arrayClass ty := fun w h => good_of_word (List.mem_filter.mp h).2
  intro w hw
  rcases List.mem_cons.mp hw with h | h
  · subst h; exact ⟨List.mem_cons_of_mem _ hb, k _ hb⟩
  · exact ⟨List.mem_cons_of_mem _ h, k _ h⟩
/-- the private methods of nest mates -/
def zNs : List (String × Nat × MethodName) := [(RX0, 117, yX6_has), (RX1, 102, yX6_has), (RX4, 76, yX6_has)]
def zNw (U : State) : Prop := ∀ q ∈ zNs, va_Nw (.methodLinkNest q.1 q.2.1 q.2.2 "ShedStages") U
theorem zNw.warm {s U : State} (hW : s.WarmedH U.vm) (h : zNw s) : zNw U := fun q hq => va_Nw.warmM hW (h q hq)
theorem zNw.same {u U : State} (hv : u.vm = U.vm) (h : zNw u) : zNw U := fun q hq => va_Nw.same rfl hv (h q hq)
abbrev zH : Type := Nat → Nat → Int32
abbrev zK : Type := Nat ⊕ ((Nat × List (Option Nat)) ⊕ List Nat)
def zF1 (ad : Nat → Nat) (h : zH) (k j : Nat) (o : Option Nat) : Value := match o with
  | none => .int (h k j)
  | some q => .ref (ad q)
def zF (ad : Nat → Nat) (h : zH) (k : Nat) (fs : List (Option Nat)) : List Value := fs.mapIdx (fun j o => zF1 ad h k j o)
def zE (cI cG : ClassId) (ad : Nat → Nat) (h : zH) (k : Nat) (x : zK) : va_E := match x with
  | .inl n => .inl (cI, n, .inl (h k))
  | .inr (.inl q) => .inr (q.1, zF ad h k q.2)
  | .inr (.inr L) => .inl (cG, L.length, .inr (.inr (.inr (.inr (fun j => (L[j]?).map ad)))))
def zW (cI cG : ClassId) (ad : Nat → Nat) (sh : List zK) (h : zH) : va_W := sh.mapIdx (fun k x => (ad k, zE cI cG ad h k x))
theorem zW_at {cI cG : ClassId} {ad : Nat → Nat} {sh : List zK} {h : zH} {k : Nat} {x : zK} (hk : sh[k]? = some x) : (zW cI cG ad sh h)[k]? = some (ad k, zE cI cG ad h k x) := by
  simp [zW, List.getElem?_mapIdx, hk]
def upd2 (h : zH) (a i : Nat) (v : Int32) : zH := fun k => if k = a then upd (h a) i v else h k
theorem zW_set {cI cG : ClassId} {ad : Nat → Nat} {sh : List zK} {h h' : zH} {a : Nat} {x : zK} (ha : sh[a]? = some x) (hh : ∀ k, k ≠ a → h' k = h k) : (zW cI cG ad sh h).set a (ad a, zE cI cG ad h' a x) = zW cI cG ad sh h' := by
  apply List.ext_getElem?
  intro k
  by_cases hk : k = a
  · subst hk
    rw [zW_at ha, List.getElem?_set_self]
    simp [zW]
    exact (List.getElem?_eq_some_iff.mp ha).1
  · rw [List.getElem?_set_ne (Ne.symm hk)]
    simp only [zW, List.getElem?_mapIdx]
    cases hs : sh[k]? with
    | none => rfl
    | some y =>
      simp only [Option.map_some]
      congr 2
      have e := hh k hk
      rcases y with n | q | L
      · simp only [zE, e]
      · simp only [zE, zF]
        congr 2
        apply List.ext_getElem?
        intro j
        simp only [List.getElem?_mapIdx]
        cases q.2[j]? with
        | none => rfl
        | some o => cases o <;> simp [zF1, e]
      · rfl
def zA (ad : Nat → Nat) (sh : List zK) : Nat → Prop := fun q => ∃ k, k < sh.length ∧ q = ad k
def zJ (ad : Nat → Nat) (sh : List zK) : Prop := ∀ i j, i < sh.length → j < sh.length → ad i = ad j → i = j
theorem zJ.D {cI cG : ClassId} {ad : Nat → Nat} {sh : List zK} {h : zH} (hj : zJ ad sh) : va_D (zA ad sh) (zW cI cG ad sh h) := by
  have key : ∀ (k : Nat) (q : Nat × va_E), (zW cI cG ad sh h)[k]? = some q → k < sh.length ∧ q.1 = ad k := by
    intro k q hk
    simp only [zW, List.getElem?_mapIdx] at hk
    cases hs : sh[k]? with
    | none => rw [hs] at hk; cases hk
    | some y =>
      rw [hs] at hk
      simp only [Option.map_some, Option.some.injEq] at hk
      exact ⟨(List.getElem?_eq_some_iff.mp hs).1, by rw [← hk]⟩
  refine ⟨fun i j p q hi hj' e => ?_, fun k q hk => ?_⟩
  · obtain ⟨a1, b1⟩ := key i p hi
    obtain ⟨a2, b2⟩ := key j q hj'
    exact hj i j a1 a2 (by rw [← b1, ← b2]; exact e)
  · obtain ⟨a1, b1⟩ := key k q hk
    exact ⟨k, a1, b1⟩
/-- locals: what each place holds, where that is known -/
def zL (ls : Array Slot) (nL : Nat) (lv : List (Option Value)) : Prop := ls.size = nL ∧ lv_wf ls ∧ ∀ (k : Nat) (v : Value), lv[k]? = some (some v) → ls[k]? = some (.val v) ∧ v.category = 1
def zl1 (lv : List (Option Value)) : List (Nat × Value) := (List.range lv.length).filterMap (fun k => match lv[k]? with
  | some (some v) => some (k, v)
  | _ => none)
theorem zl1_mem {lv : List (Option Value)} {q : Nat × Value} : q ∈ zl1 lv ↔ lv[q.1]? = some (some q.2) := by
  simp only [zl1, List.mem_filterMap, List.mem_range]
  constructor
  · rintro ⟨k, -, h⟩
    split at h
    · cases h; assumption
    · cases h
  · intro h
    refine ⟨q.1, (List.getElem?_eq_some_iff.mp h).1, ?_⟩
    rw [h]
theorem zL.has {ls : Array Slot} {nL : Nat} {lv : List (Option Value)} (h : zL ls nL lv) : lv_has ls nL (zl1 lv) := ⟨h.1, h.2.1, fun q hq => (h.2.2 q.1 q.2 (zl1_mem.mp hq)).1⟩
theorem zL.store {ls : Array Slot} {nL : Nat} {lv : List (Option Value)} {i : Nat} {v : Value} (h : zL ls nL lv) (hi : i < nL) (hc : v.category = 1) : ∃ ls', storeLocals ls i v = some ls' ∧ zL ls' nL (lv.set i (some v)) := by
  obtain ⟨ls', e, h1, h2, h3⟩ := lv_store1 h.has hi hc
  refine ⟨ls', e, h1, h2, fun k w hk => ?_⟩
  by_cases hki : k = i
  · subst hki
    have hw : w = v := by
      by_cases hl : k < lv.length
      · rw [List.getElem?_set_self hl] at hk; cases hk; rfl
      · rw [List.getElem?_eq_none (by simp; omega)] at hk; cases hk
    subst hw
    exact ⟨h3 (k, w) List.mem_cons_self, hc⟩
  · rw [List.getElem?_set_ne (Ne.symm hki)] at hk
    have hcat := (h.2.2 k w hk).2
    refine ⟨h3 (k, w) (List.mem_cons_of_mem _ (List.mem_filter.mpr ⟨zl1_mem.mpr hk, ?_⟩)), hcat⟩
    simp [hki, hcat]
theorem zL.weak {ls : Array Slot} {nL : Nat} {lv lv' : List (Option Value)} (h : zL ls nL lv) (hw : ∀ (k : Nat) (v : Value), lv'[k]? = some (some v) → lv[k]? = some (some v)) : zL ls nL lv' := ⟨h.1, h.2.1, fun k v hk => h.2.2 k v (hw k v hk)⟩
/-- a method's answer and the ints behind it, out of what its function gives -/
abbrev zR (d : Nat) : Room := { frames := d, cells := 0, slots := 0, locals := 35 * d }
def zQ (D : va_G) (cI cG : ClassId) (ad : Nat → Nat) (sh : List zK) (x : Option Value × zH) : Array Value → State → Outcome → State → Prop := fun _ st oc t => oc = .returned x.1 ∧ va_P D vwCl (zW cI cG ad sh x.2) t.heap ∧ va_F (zA ad sh) st t
/-- the machine's own things at a frame -/
abbrev zX : Type := Program × Launch × Env × Room × State × MethodId × Array Value × List Frame × Method × Code × Nat × va_G × ClassId × ClassId
abbrev zTy (cI cG : ClassId) : List (ClassId × FieldType) := [(cI, .int), (cG, .object RX1)]
def zC (X : zX) (ad : Nat → Nat) (sh : List zK) (cc : ByteArray) (own : String) (ret : Option FieldType) (d : Nat) : Prop := match X with
  | (p, _, _, R, s, m, args, _, meth, c, nL, D, cI, cG) => p.tables.exec = Jvm.exec ∧ c.code = cc ∧ c.maxLocals = nL ∧ s.vm.findClass own = some m.cls ∧ (∀ w ∈ zWd, w.before args s = true) ∧ va_K D vwCl (zTy cI cG) s ∧ zNw s ∧ meth.locks = false ∧ meth.sig.returnType = ret ∧ zJ ad sh ∧ R = zR d
def zG {ρ : Type} (X : zX) (ad : Nat → Nat) (sh : List zK) (emb : ρ → Option Value × zH) (pc : Nat) (lv : List (Option Value)) (st : List Value) (h : zH) (o : Option ρ) : Prop := match X with
  | (p, l, e, R, s, m, args, below, meth, c, nL, D, cI, cG) => ∀ x, o = some x → ∀ (H : Heap) (locs : List Loc) (ls : Array Slot), va_P D vwCl (zW cI cG ad sh h) H → va_S (zA ad sh) s.heap H locs → zL ls nL lv →
    W p l e R s m args below meth c H locs 0 0 (MQ below (zQ D cI cG ad sh (emb x)) args s 0 0 (zA ad sh)) (F0 m pc ls st)
/-- an instruction at its place, and the place behind it -/
def zI (cc : ByteArray) (pc : Nat) (i : Instr) (n q : Nat) : Prop := decode cc pc = .ok (i, n) ∧ pc + n = q
/-- a guard: what the machine tests by itself -/
def gd {ρ : Type} (b : Bool) (o : Option ρ) : Option ρ := match b with
  | true => o
  | false => none
theorem gd_true {ρ : Type} (o : Option ρ) : gd true o = o := rfl
theorem gd_some {ρ : Type} {b : Bool} {o : Option ρ} {x : ρ} (h : gd b o = some x) : b = true ∧ o = some x := by
  cases b with
  | true => exact ⟨rfl, h⟩
  | false => cases h
def zr (i : Int32) (n : Nat) : Bool := !(decide (i < 0) || decide (n ≤ i.toNatClampNeg))
theorem zr_in {i : Int32} {n : Nat} (h : zr i n = true) : vp_in i n := by
  simp only [zr, Bool.not_eq_true', Bool.or_eq_false_iff, decide_eq_false_iff_not] at h
  exact fun q => q.elim h.1 h.2
def zlet {α ρ : Type} (e : α) (f : α → Option ρ) : Option ρ := f e
def zmin (x y : Int32) : Int32 := if y < x then y else x
def zmax (x y : Int32) : Int32 := if x < y then y else x
def zabs (x : Int32) : Int32 := if 0 ≤ x then x else 0 - x
