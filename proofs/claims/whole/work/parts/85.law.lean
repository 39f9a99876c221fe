/-! THE CLAIM OUT OF ONE WALK OF THE LAW'S BODY. Your part is whole_start (and what it stands on); all else here is the same for every law, but numbers. -/
def R_law : String := "ShedStagesLaw"
def lw_P (b : Addr) (xs : List Int32) (args : Array Value) (s : State) : Prop := args = #[.ref b] ∧ s.IntsAt b xs ∧ xs.length ≤ 2048 ∧ (Jvm.Cond.and given_1 narrow_1).before args s = true
def lw_Q (_ : Array Value) (s : State) (o : Outcome) (t : State) : Prop := o = .returned (some (.int 1)) ∧ Framed s o t [] 600000 7302250
def lw_Z (below : List Frame) (a : Array Value) (s : State) : State → Prop := fun t => ∃ o, t.status = .running ∧ Ended t below o ∧ lw_Q a s o t
/-- the law's own end, with 1 on the stack, nothing written that was there before, its room as the claim has it -/
theorem lw_ret {p : Program} {l : Launch} {e : Env} {s : State} {m : MethodId} {below : List Frame} {meth : Method} {c : Code} {b : Nat} (hx : p.tables.exec = Jvm.exec) (hb : c.code = code) (hr : meth.sig.returnType = ret) (hlocks : meth.locks = false) {pc : Nat} {H : Heap} {ls : Array Slot} (hdg : decode code pc = .ok (.ireturn, 1)) : W p l e room_1 s m #[Value.ref b] below meth c H [] 600000 7302250 (lw_Z below #[Value.ref b] s) (F0 m pc ls [.int 1]) := by
  intro T hT X
  obtain ⟨fs, hret, hrun, hended, hW, hframe⟩ := X.leave (v := some (.int 1)) (hlocks := hlocks) (fun h => by rw [hr] at h; cases h)
  have hmeth' : T.vm.method? m = some meth := X.method'
  refine ⟨T.setFrames fs, ?_, .returned (some (.int 1)), hrun, hended, rfl, ⟨_, rfl⟩, hW, hframe⟩
  jvm_step X.here [X.here.top, hx, hb, hdg, hmeth', hr, ret, narrow_b1]
  (try refine ⟨rfl, ?_⟩); (try refine ⟨rfl, ?_⟩)
  first | (intro acts; rw [hret _ acts rfl rfl rfl]) | rw [hret _ _ rfl rfl rfl]
  exact Steps.refl _
/-- what holds at the law's entry: the machine, the code, the tables' words (any of lw_tbl by 'hts w (by decide +kernel)'), the script of L ints xs at the cell b, what the Statement gives of the start (any of its parts by flat_of_before) -/
def lw_At (p : Program) (s : State) (m : MethodId) (meth : Method) (c : Code) (b L : Nat) (xs : Nat → Int32) : Prop :=
  p.tables.exec = Jvm.exec ∧ c.code = code ∧ meth.sig.returnType = ret ∧ c.maxLocals = 4 ∧ s.vm.findClass R_law = some m.cls ∧ (∀ w ∈ lw_tbl, w.before #[Value.ref b] s = true) ∧ va_X b L xs s s.heap ∧ b < s.heap.size ∧ meth.locks = false ∧ (Jvm.Cond.and given_1 narrow_1).before #[Value.ref b] s = true
section ZL
variable {X : kX} {D : va_G} {cI cG : ClassId} {A : Nat → Prop} {E : State → Prop} {cc : ByteArray} {own nm : String} {d mc ms k n pc q : Nat} {lv : List (Option Value)} {st : List Value} {ws : va_W}
/-- the script -/
def kXs (b L : Nat) (xs : Nat → Int32) (A : Nat → Prop) (U : State) : Prop := va_X b L xs U U.heap ∧ b < U.heap.size ∧ ¬ A b
theorem k_slen (C : kC X D cI cG A E cc own nm d mc ms) {b L : Nat} {xs : Nat → Int32} (hX : ∀ s, E s → kXs b L xs A s) (i : zI cc pc .arraylength 1 q) (kt : kG X D A k n q lv (.int (Int32.ofNat L) :: st) ws) : kG X D A k n pc lv (.ref b :: st) ws := by
  obtain ⟨p, l, e, R, s, m, args, below, meth, c, nL, Q⟩ := X
  obtain ⟨hx, hb, hml, hown, hts, hK, hnm, hA, hRf, hRc, hRs, hRl, hE⟩ := C
  obtain ⟨di, rfl⟩ := i
  intro H locs ls hP hD hS hL
  exact va_slen hx hb (hX s hE).1 (hX s hE).2.1 (hX s hE).2.2 hS di (kt H locs ls hP hD hS hL)
theorem k_sld (C : kC X D cI cG A E cc own nm d mc ms) {b L : Nat} {xs : Nat → Int32} {j : Int32} (hX : ∀ s, E s → kXs b L xs A s) (i : zI cc pc .iaload 1 q) (hin : vp_in j L) (kt : kG X D A k n q lv (.int (xs j.toNatClampNeg) :: st) ws) : kG X D A k n pc lv (.int j :: .ref b :: st) ws := by
  obtain ⟨p, l, e, R, s, m, args, below, meth, c, nL, Q⟩ := X
  obtain ⟨hx, hb, hml, hown, hts, hK, hnm, hA, hRf, hRc, hRs, hRl, hE⟩ := C
  obtain ⟨di, rfl⟩ := i
  intro H locs ls hP hD hS hL
  exact va_sld hx hb (hX s hE).1 (hX s hE).2.1 (hX s hE).2.2 hS hin di (kt H locs ls hP hD hS hL)
theorem k_tab (C : kC X D cI cG A E cc own nm d mc ms) {dflt lo hi : Int} {offs : Array Int} {n0 : Nat} {x : Int32} (tgt : Nat) (i : zI cc pc (.tableswitch dflt lo hi offs) n0 q) (ht : zTg pc dflt lo hi offs x = (tgt : Int)) (kt : kG X D A k n tgt lv st ws) : kG X D A k n pc lv (.int x :: st) ws := by
  obtain ⟨p, l, e, R, s, m, args, below, meth, c, nL, Q⟩ := X
  obtain ⟨hx, hb, hml, hown, hts, hK, hnm, hA, hRf, hRc, hRs, hRl, hE⟩ := C
  obtain ⟨di, rfl⟩ := i
  intro H locs ls hP hD hS hL
  have kt := kt H locs ls hP hD hS hL
  unfold zTg at ht
  split at ht
  · rename_i hc
    exact lv_tableOut hx hb di hc ht kt
  · rename_i hc
    split at ht
    · rename_i off ho
      exact lv_tableIn hx hb di (fun z => hc (Or.inl z)) (fun z => hc (Or.inr z)) ho ht kt
    · omega
end ZL
/-- what the law's start bears -/
def kLw (k0 v0 b L : Nat) (xs : Nat → Int32) (A : Nat → Prop) (U : State) : Prop := kS1 k0 v0 A U ∧ kXs b L xs A U
