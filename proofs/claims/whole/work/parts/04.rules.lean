def zshl (x y : Int32) : Int32 := x <<< (y &&& 31)
def zshr (x y : Int32) : Int32 := x >>> (y &&& 31)
def zushr (x y : Int32) : Int32 := (x.toUInt32 >>> (y.toUInt32 &&& Int32.toUInt32 31)).toInt32
def zrem (x y : Int32) : Int32 := x - x / y * y
section ZR
variable {ρ : Type} {X : zX} {ad : Nat → Nat} {sh : List zK} {cc : ByteArray} {own : String} {ret : Option FieldType} {d : Nat} {emb : ρ → Option Value × zH} {pc q : Nat} {lv : List (Option Value)} {st : List Value} {h : zH} {o : Option ρ}
theorem g_ite {c : Prop} {ic : Decidable c} {o1 o2 : Option ρ} (k1 : c → zG X ad sh emb pc lv st h o1) (k2 : ¬ c → zG X ad sh emb pc lv st h o2) : zG X ad sh emb pc lv st h (@ite _ c ic o1 o2) := by
  by_cases hc : c
  · rw [if_pos hc]; exact k1 hc
  · rw [if_neg hc]; exact k2 hc
theorem g_none : zG X ad sh emb pc lv st h none := by
  obtain ⟨p, l, e, R, s, m, args, below, meth, c, nL, D, cI, cG⟩ := X
  intro x hx; cases hx
theorem g_weak {lv' : List (Option Value)} (hw : ∀ (k : Nat) (v : Value), lv'[k]? = some (some v) → lv[k]? = some (some v)) (k : zG X ad sh emb pc lv' st h o) : zG X ad sh emb pc lv st h o := by
  obtain ⟨p, l, e, R, s, m, args, below, meth, c, nL, D, cI, cG⟩ := X
  intro x hx H locs ls hP hS hL
  exact k x hx H locs ls hP hS (hL.weak hw)
def zsub : List (Option Value) → List (Option Value) → Prop
  | [], _ => True
  | none :: a, _ :: b => zsub a b
  | some v :: a, w :: b => some v = w ∧ zsub a b
  | _ :: _, [] => False
theorem zsub_ok : ∀ {a b : List (Option Value)}, zsub a b → ∀ (k : Nat) (v : Value), a[k]? = some (some v) → b[k]? = some (some v)
  | [], _, _, k, v, h => by simp at h
  | none :: a, _ :: b, hs, k, v, h => by
    cases k with
    | zero => simp at h
    | succ k => simp only [List.getElem?_cons_succ] at h ⊢; exact zsub_ok (a := a) hs k v h
  | some w :: a, y :: b, hs, k, v, h => by
    cases k with
    | zero => simp only [List.getElem?_cons_zero] at h ⊢; cases h; rw [hs.1]
    | succ k => simp only [List.getElem?_cons_succ] at h ⊢; exact zsub_ok (a := a) hs.2 k v h
  | _ :: _, [], hs, k, v, h => by exact absurd hs (by simp [zsub])
theorem g_sub {lv' : List (Option Value)} (hw : zsub lv' lv) (k : zG X ad sh emb pc lv' st h o) : zG X ad sh emb pc lv st h o := g_weak (zsub_ok hw) k
theorem g_iconst (C : zC X ad sh cc own ret d) {n : Int} (v : Int32) (i : zI cc pc (.iconst n) 1 q) (hv : Int32.ofInt n = v) (k : zG X ad sh emb q lv (.int v :: st) h o) : zG X ad sh emb pc lv (st) h o := by
  obtain ⟨p, l, e, R, s, m, args, below, meth, c, nL, D, cI, cG⟩ := X
  obtain ⟨hx, hb, hml, hown, hts, hK, hN, hlk, hr, hj, hR⟩ := C
  obtain ⟨di, rfl⟩ := i
  intro x9 hx9 H locs ls hP hS hL
  exact lv_iconst hx hb di hv (k x9 hx9 H locs ls hP hS hL)
theorem g_bipush (C : zC X ad sh cc own ret d) {n : Int} (v : Int32) (i : zI cc pc (.bipush n) 2 q) (hv : (Int8.ofInt n).toInt32 = v) (k : zG X ad sh emb q lv (.int v :: st) h o) : zG X ad sh emb pc lv (st) h o := by
  obtain ⟨p, l, e, R, s, m, args, below, meth, c, nL, D, cI, cG⟩ := X
  obtain ⟨hx, hb, hml, hown, hts, hK, hN, hlk, hr, hj, hR⟩ := C
  obtain ⟨di, rfl⟩ := i
  intro x9 hx9 H locs ls hP hS hL
  exact lv_bipush hx hb di hv (k x9 hx9 H locs ls hP hS hL)
theorem g_sipush (C : zC X ad sh cc own ret d) {n : Int} (v : Int32) (i : zI cc pc (.sipush n) 3 q) (hv : (Int16.ofInt n).toInt32 = v) (k : zG X ad sh emb q lv (.int v :: st) h o) : zG X ad sh emb pc lv (st) h o := by
  obtain ⟨p, l, e, R, s, m, args, below, meth, c, nL, D, cI, cG⟩ := X
  obtain ⟨hx, hb, hml, hown, hts, hK, hN, hlk, hr, hj, hR⟩ := C
  obtain ⟨di, rfl⟩ := i
  intro x9 hx9 H locs ls hP hS hL
  exact lv_sipush hx hb di hv (k x9 hx9 H locs ls hP hS hL)
theorem g_iload_n (C : zC X ad sh cc own ret d) {k : Fin 4} {x : Int32} (i : zI cc pc (.iload_n k) 1 q) (hl : lv[(k : Nat)]? = some (some (.int x))) (k : zG X ad sh emb q lv (.int x :: st) h o) : zG X ad sh emb pc lv (st) h o := by
  obtain ⟨p, l, e, R, s, m, args, below, meth, c, nL, D, cI, cG⟩ := X
  obtain ⟨hx, hb, hml, hown, hts, hK, hN, hlk, hr, hj, hR⟩ := C
  obtain ⟨di, rfl⟩ := i
  intro x9 hx9 H locs ls hP hS hL
  exact lv_iload_n hx hb di rfl (hL.2.2 _ _ hl).1 (k x9 hx9 H locs ls hP hS hL)
theorem g_iload (C : zC X ad sh cc own ret d) {k : Nat} {x : Int32} (i : zI cc pc (.iload k) 2 q) (hl : lv[k]? = some (some (.int x))) (k : zG X ad sh emb q lv (.int x :: st) h o) : zG X ad sh emb pc lv (st) h o := by
  obtain ⟨p, l, e, R, s, m, args, below, meth, c, nL, D, cI, cG⟩ := X
  obtain ⟨hx, hb, hml, hown, hts, hK, hN, hlk, hr, hj, hR⟩ := C
  obtain ⟨di, rfl⟩ := i
  intro x9 hx9 H locs ls hP hS hL
  exact lv_iload hx hb di (hL.2.2 _ _ hl).1 (k x9 hx9 H locs ls hP hS hL)
theorem g_aload_n (C : zC X ad sh cc own ret d) {k : Fin 4} {x : Nat} (i : zI cc pc (.aload_n k) 1 q) (hl : lv[(k : Nat)]? = some (some (.ref x))) (k : zG X ad sh emb q lv (.ref x :: st) h o) : zG X ad sh emb pc lv (st) h o := by
  obtain ⟨p, l, e, R, s, m, args, below, meth, c, nL, D, cI, cG⟩ := X
  obtain ⟨hx, hb, hml, hown, hts, hK, hN, hlk, hr, hj, hR⟩ := C
  obtain ⟨di, rfl⟩ := i
  intro x9 hx9 H locs ls hP hS hL
  exact lv_aload_n hx hb di rfl (hL.2.2 _ _ hl).1 (k x9 hx9 H locs ls hP hS hL)
theorem g_aload (C : zC X ad sh cc own ret d) {k : Nat} {x : Nat} (i : zI cc pc (.aload k) 2 q) (hl : lv[k]? = some (some (.ref x))) (k : zG X ad sh emb q lv (.ref x :: st) h o) : zG X ad sh emb pc lv (st) h o := by
  obtain ⟨p, l, e, R, s, m, args, below, meth, c, nL, D, cI, cG⟩ := X
  obtain ⟨hx, hb, hml, hown, hts, hK, hN, hlk, hr, hj, hR⟩ := C
  obtain ⟨di, rfl⟩ := i
  intro x9 hx9 H locs ls hP hS hL
  exact lv_aload hx hb di (hL.2.2 _ _ hl).1 (k x9 hx9 H locs ls hP hS hL)
theorem g_iadd (C : zC X ad sh cc own ret d) {x y : Int32} (i : zI cc pc .iadd 1 q) (k : zG X ad sh emb q lv (.int (x + y) :: st) h o) : zG X ad sh emb pc lv (.int y :: .int x :: st) h o := by
  obtain ⟨p, l, e, R, s, m, args, below, meth, c, nL, D, cI, cG⟩ := X
  obtain ⟨hx, hb, hml, hown, hts, hK, hN, hlk, hr, hj, hR⟩ := C
  obtain ⟨di, rfl⟩ := i
  intro x9 hx9 H locs ls hP hS hL
  exact lv_iadd hx hb di (k x9 hx9 H locs ls hP hS hL)
theorem g_isub (C : zC X ad sh cc own ret d) {x y : Int32} (i : zI cc pc .isub 1 q) (k : zG X ad sh emb q lv (.int (x - y) :: st) h o) : zG X ad sh emb pc lv (.int y :: .int x :: st) h o := by
  obtain ⟨p, l, e, R, s, m, args, below, meth, c, nL, D, cI, cG⟩ := X
  obtain ⟨hx, hb, hml, hown, hts, hK, hN, hlk, hr, hj, hR⟩ := C
  obtain ⟨di, rfl⟩ := i
  intro x9 hx9 H locs ls hP hS hL
  exact lv_isub hx hb di (k x9 hx9 H locs ls hP hS hL)
theorem g_imul (C : zC X ad sh cc own ret d) {x y : Int32} (i : zI cc pc .imul 1 q) (k : zG X ad sh emb q lv (.int (x * y) :: st) h o) : zG X ad sh emb pc lv (.int y :: .int x :: st) h o := by
  obtain ⟨p, l, e, R, s, m, args, below, meth, c, nL, D, cI, cG⟩ := X
  obtain ⟨hx, hb, hml, hown, hts, hK, hN, hlk, hr, hj, hR⟩ := C
  obtain ⟨di, rfl⟩ := i
  intro x9 hx9 H locs ls hP hS hL
  exact lv_imul hx hb di (k x9 hx9 H locs ls hP hS hL)
theorem g_iand (C : zC X ad sh cc own ret d) {x y : Int32} (i : zI cc pc .iand 1 q) (k : zG X ad sh emb q lv (.int (x &&& y) :: st) h o) : zG X ad sh emb pc lv (.int y :: .int x :: st) h o := by
  obtain ⟨p, l, e, R, s, m, args, below, meth, c, nL, D, cI, cG⟩ := X
  obtain ⟨hx, hb, hml, hown, hts, hK, hN, hlk, hr, hj, hR⟩ := C
  obtain ⟨di, rfl⟩ := i
  intro x9 hx9 H locs ls hP hS hL
  exact lv_iand hx hb di (k x9 hx9 H locs ls hP hS hL)
theorem g_ior (C : zC X ad sh cc own ret d) {x y : Int32} (i : zI cc pc .ior 1 q) (k : zG X ad sh emb q lv (.int (x ||| y) :: st) h o) : zG X ad sh emb pc lv (.int y :: .int x :: st) h o := by
  obtain ⟨p, l, e, R, s, m, args, below, meth, c, nL, D, cI, cG⟩ := X
  obtain ⟨hx, hb, hml, hown, hts, hK, hN, hlk, hr, hj, hR⟩ := C
  obtain ⟨di, rfl⟩ := i
  intro x9 hx9 H locs ls hP hS hL
  exact lv_ior hx hb di (k x9 hx9 H locs ls hP hS hL)
theorem g_ixor (C : zC X ad sh cc own ret d) {x y : Int32} (i : zI cc pc .ixor 1 q) (k : zG X ad sh emb q lv (.int (x ^^^ y) :: st) h o) : zG X ad sh emb pc lv (.int y :: .int x :: st) h o := by
  obtain ⟨p, l, e, R, s, m, args, below, meth, c, nL, D, cI, cG⟩ := X
  obtain ⟨hx, hb, hml, hown, hts, hK, hN, hlk, hr, hj, hR⟩ := C
  obtain ⟨di, rfl⟩ := i
  intro x9 hx9 H locs ls hP hS hL
  exact lv_ixor hx hb di (k x9 hx9 H locs ls hP hS hL)
theorem g_ineg (C : zC X ad sh cc own ret d) {x : Int32} (i : zI cc pc .ineg 1 q) (k : zG X ad sh emb q lv (.int (-x) :: st) h o) : zG X ad sh emb pc lv (.int x :: st) h o := by
  obtain ⟨p, l, e, R, s, m, args, below, meth, c, nL, D, cI, cG⟩ := X
  obtain ⟨hx, hb, hml, hown, hts, hK, hN, hlk, hr, hj, hR⟩ := C
  obtain ⟨di, rfl⟩ := i
  intro x9 hx9 H locs ls hP hS hL
  exact lv_ineg hx hb di (k x9 hx9 H locs ls hP hS hL)
theorem g_dup (C : zC X ad sh cc own ret d) {v : Value} (i : zI cc pc .dup 1 q) (hv : v.category = 1) (k : zG X ad sh emb q lv (v :: v :: st) h o) : zG X ad sh emb pc lv (v :: st) h o := by
  obtain ⟨p, l, e, R, s, m, args, below, meth, c, nL, D, cI, cG⟩ := X
  obtain ⟨hx, hb, hml, hown, hts, hK, hN, hlk, hr, hj, hR⟩ := C
  obtain ⟨di, rfl⟩ := i
  intro x9 hx9 H locs ls hP hS hL
  exact lv_dup hx hb di hv (k x9 hx9 H locs ls hP hS hL)
theorem g_dup2 (C : zC X ad sh cc own ret d) {v w : Value} (i : zI cc pc .dup2 1 q) (hv : v.category = 1) (hw : w.category = 1) (k : zG X ad sh emb q lv (v :: w :: v :: w :: st) h o) : zG X ad sh emb pc lv (v :: w :: st) h o := by
  obtain ⟨p, l, e, R, s, m, args, below, meth, c, nL, D, cI, cG⟩ := X
  obtain ⟨hx, hb, hml, hown, hts, hK, hN, hlk, hr, hj, hR⟩ := C
  obtain ⟨di, rfl⟩ := i
  intro x9 hx9 H locs ls hP hS hL
  exact lv_dup2_11 hx hb di hv hw (k x9 hx9 H locs ls hP hS hL)
theorem g_pop (C : zC X ad sh cc own ret d) {v : Value} (i : zI cc pc .pop 1 q) (hv : v.category = 1) (k : zG X ad sh emb q lv (st) h o) : zG X ad sh emb pc lv (v :: st) h o := by
  obtain ⟨p, l, e, R, s, m, args, below, meth, c, nL, D, cI, cG⟩ := X
  obtain ⟨hx, hb, hml, hown, hts, hK, hN, hlk, hr, hj, hR⟩ := C
  obtain ⟨di, rfl⟩ := i
  intro x9 hx9 H locs ls hP hS hL
  exact lv_pop hx hb di hv (k x9 hx9 H locs ls hP hS hL)
theorem g_ishl (C : zC X ad sh cc own ret d) {x y : Int32} (i : zI cc pc .ishl 1 q) (k : zG X ad sh emb q lv (.int (zshl x y) :: st) h o) : zG X ad sh emb pc lv (.int y :: .int x :: st) h o := by
  obtain ⟨p, l, e, R, s, m, args, below, meth, c, nL, D, cI, cG⟩ := X
  obtain ⟨hx, hb, hml, hown, hts, hK, hN, hlk, hr, hj, hR⟩ := C
  obtain ⟨di, rfl⟩ := i
  intro x9 hx9 H locs ls hP hS hL
  exact lv_ishl hx hb di (k x9 hx9 H locs ls hP hS hL)
theorem g_ishr (C : zC X ad sh cc own ret d) {x y : Int32} (i : zI cc pc .ishr 1 q) (k : zG X ad sh emb q lv (.int (zshr x y) :: st) h o) : zG X ad sh emb pc lv (.int y :: .int x :: st) h o := by
  obtain ⟨p, l, e, R, s, m, args, below, meth, c, nL, D, cI, cG⟩ := X
  obtain ⟨hx, hb, hml, hown, hts, hK, hN, hlk, hr, hj, hR⟩ := C
  obtain ⟨di, rfl⟩ := i
  intro x9 hx9 H locs ls hP hS hL
  exact lv_ishr hx hb di (k x9 hx9 H locs ls hP hS hL)
theorem g_iushr (C : zC X ad sh cc own ret d) {x y : Int32} (i : zI cc pc .iushr 1 q) (k : zG X ad sh emb q lv (.int (zushr x y) :: st) h o) : zG X ad sh emb pc lv (.int y :: .int x :: st) h o := by
  obtain ⟨p, l, e, R, s, m, args, below, meth, c, nL, D, cI, cG⟩ := X
  obtain ⟨hx, hb, hml, hown, hts, hK, hN, hlk, hr, hj, hR⟩ := C
  obtain ⟨di, rfl⟩ := i
  intro x9 hx9 H locs ls hP hS hL
  exact lv_iushr hx hb di rfl (k x9 hx9 H locs ls hP hS hL)
theorem g_idiv (C : zC X ad sh cc own ret d) {x y : Int32} (i : zI cc pc .idiv 1 q) (k : zG X ad sh emb q lv (.int (x / y) :: st) h o) : zG X ad sh emb pc lv (.int y :: .int x :: st) h (gd (decide (¬ y = 0)) o) := by
  obtain ⟨p, l, e, R, s, m, args, below, meth, c, nL, D, cI, cG⟩ := X
  obtain ⟨hx, hb, hml, hown, hts, hK, hN, hlk, hr, hj, hR⟩ := C
  obtain ⟨di, rfl⟩ := i
  intro x9 hx9 H locs ls hP hS hL
  obtain ⟨hg, hx9⟩ := gd_some hx9
  exact lv_idiv hx hb di (of_decide_eq_true hg) (k x9 hx9 H locs ls hP hS hL)
theorem g_irem (C : zC X ad sh cc own ret d) {x y : Int32} (i : zI cc pc .irem 1 q) (k : zG X ad sh emb q lv (.int (zrem x y) :: st) h o) : zG X ad sh emb pc lv (.int y :: .int x :: st) h (gd (decide (¬ y = 0)) o) := by
  obtain ⟨p, l, e, R, s, m, args, below, meth, c, nL, D, cI, cG⟩ := X
  obtain ⟨hx, hb, hml, hown, hts, hK, hN, hlk, hr, hj, hR⟩ := C
  obtain ⟨di, rfl⟩ := i
  intro x9 hx9 H locs ls hP hS hL
  obtain ⟨hg, hx9⟩ := gd_some hx9
  exact lv_irem hx hb di (of_decide_eq_true hg) (k x9 hx9 H locs ls hP hS hL)
theorem g_idivL (C : zC X ad sh cc own ret d) {x y : Int32} (i : zI cc pc .idiv 1 q) (hy : ¬ y = 0) (k : zG X ad sh emb q lv (.int (x / y) :: st) h o) : zG X ad sh emb pc lv (.int y :: .int x :: st) h o := by
  obtain ⟨p, l, e, R, s, m, args, below, meth, c, nL, D, cI, cG⟩ := X
  obtain ⟨hx, hb, hml, hown, hts, hK, hN, hlk, hr, hj, hR⟩ := C
  obtain ⟨di, rfl⟩ := i
  intro x9 hx9 H locs ls hP hS hL
  exact lv_idiv hx hb di hy (k x9 hx9 H locs ls hP hS hL)
theorem g_iremL (C : zC X ad sh cc own ret d) {x y : Int32} (i : zI cc pc .irem 1 q) (hy : ¬ y = 0) (k : zG X ad sh emb q lv (.int (zrem x y) :: st) h o) : zG X ad sh emb pc lv (.int y :: .int x :: st) h o := by
  obtain ⟨p, l, e, R, s, m, args, below, meth, c, nL, D, cI, cG⟩ := X
  obtain ⟨hx, hb, hml, hown, hts, hK, hN, hlk, hr, hj, hR⟩ := C
  obtain ⟨di, rfl⟩ := i
  intro x9 hx9 H locs ls hP hS hL
  exact lv_irem hx hb di hy (k x9 hx9 H locs ls hP hS hL)
theorem g_istore_n (C : zC X ad sh cc own ret d) {k : Fin 4} {nL : Nat} (hnL : nL = X.2.2.2.2.2.2.2.2.2.2.1) {x : Int32} {lv' : List (Option Value)} (i : zI cc pc (.istore_n k) 1 q) (hk : (k : Nat) < nL) (hlv : lv.set (k : Nat) (some (.int x)) = lv') (kt : zG X ad sh emb q lv' st h o) : zG X ad sh emb pc lv (.int x :: st) h o := by
  obtain ⟨p, l, e, R, s, m, args, below, meth, c, nL, D, cI, cG⟩ := X
  obtain ⟨hx, hb, hml, hown, hts, hK, hN, hlk, hr, hj, hR⟩ := C
  obtain ⟨di, rfl⟩ := i
  subst hnL
  subst hlv
  intro x9 hx9 H locs ls hP hS hL
  obtain ⟨ls', e', hL'⟩ := hL.store (v := .int x) hk rfl
  intro T hT X
  obtain ⟨t, a, b⟩ := kt x9 hx9 H locs ls' hP hS hL' T hT X
  refine ⟨t, ?_, b⟩
  jvm_step X.here [X.here.top, ↓top_set X.here.top, hx, hb, di, e']
  exact a
theorem g_istore (C : zC X ad sh cc own ret d) {k : Nat} {nL : Nat} (hnL : nL = X.2.2.2.2.2.2.2.2.2.2.1) {x : Int32} {lv' : List (Option Value)} (i : zI cc pc (.istore k) 2 q) (hk : k < nL) (hlv : lv.set k (some (.int x)) = lv') (kt : zG X ad sh emb q lv' st h o) : zG X ad sh emb pc lv (.int x :: st) h o := by
  obtain ⟨p, l, e, R, s, m, args, below, meth, c, nL, D, cI, cG⟩ := X
  obtain ⟨hx, hb, hml, hown, hts, hK, hN, hlk, hr, hj, hR⟩ := C
  obtain ⟨di, rfl⟩ := i
  subst hnL
  subst hlv
  intro x9 hx9 H locs ls hP hS hL
  obtain ⟨ls', e', hL'⟩ := hL.store (v := .int x) hk rfl
  intro T hT X
  obtain ⟨t, a, b⟩ := kt x9 hx9 H locs ls' hP hS hL' T hT X
  refine ⟨t, ?_, b⟩
  jvm_step X.here [X.here.top, ↓top_set X.here.top, hx, hb, di, e']
  exact a
theorem g_iinc (C : zC X ad sh cc own ret d) {k : Nat} {n : Int} {nL : Nat} (hnL : nL = X.2.2.2.2.2.2.2.2.2.2.1) {x v : Int32} {lv' : List (Option Value)} (i : zI cc pc (.iinc k n) 3 q) (hk : k < nL) (hl : lv[k]? = some (some (.int x))) (hv : x + Int32.ofInt n = v) (hlv : lv.set k (some (.int v)) = lv') (kt : zG X ad sh emb q lv' st h o) : zG X ad sh emb pc lv st h o := by
  obtain ⟨p, l, e, R, s, m, args, below, meth, c, nL, D, cI, cG⟩ := X
  obtain ⟨hx, hb, hml, hown, hts, hK, hN, hlk, hr, hj, hR⟩ := C
  obtain ⟨di, rfl⟩ := i
  subst hnL
  subst hv
  subst hlv
  intro x9 hx9 H locs ls hP hS hL
  obtain ⟨ls', e', hL'⟩ := hL.store (v := .int (x + Int32.ofInt n)) hk rfl
  have hg := (hL.2.2 _ _ hl).1
  intro T hT X
  obtain ⟨t, a, b⟩ := kt x9 hx9 H locs ls' hP hS hL' T hT X
  refine ⟨t, ?_, b⟩
  jvm_step X.here [X.here.top, ↓top_set X.here.top, hx, hb, di, hg, e']
  exact a
theorem g_if_eq (C : zC X ad sh cc own ret d) {x : Int32} {off : Int} (tgt : Nat) {o1 o2 : Option ρ} {ic : Decidable (x = 0)} (i : zI cc pc (.ifCond .eq off) 3 q) (ht : (pc : Int) + off = (tgt : Int)) (k1 : x = 0 → zG X ad sh emb tgt lv st h o1) (k2 : ¬ (x = 0) → zG X ad sh emb q lv st h o2) : zG X ad sh emb pc lv (.int x :: st) h (@ite _ (x = 0) ic o1 o2) := by
  refine g_ite (fun hc => ?_) (fun hc => ?_)
  · have k1 := k1 hc
    clear k2
    obtain ⟨p, l, e, R, s, m, args, below, meth, c, nL, D, cI, cG⟩ := X
    obtain ⟨hx, hb, hml, hown, hts, hK, hN, hlk, hr, hj, hR⟩ := C
    obtain ⟨di, rfl⟩ := i
    intro x9 hx9 H locs ls hP hS hL
    exact lv_if_eq hx hb di ht (fun _ => k1 x9 hx9 H locs ls hP hS hL) (fun h9 => absurd hc h9)
  · have k2 := k2 hc
    clear k1
    obtain ⟨p, l, e, R, s, m, args, below, meth, c, nL, D, cI, cG⟩ := X
    obtain ⟨hx, hb, hml, hown, hts, hK, hN, hlk, hr, hj, hR⟩ := C
    obtain ⟨di, rfl⟩ := i
    intro x9 hx9 H locs ls hP hS hL
    exact lv_if_eq hx hb di ht (fun h9 => absurd h9 hc) (fun _ => k2 x9 hx9 H locs ls hP hS hL)
theorem g_icmp_eq (C : zC X ad sh cc own ret d) {x y : Int32} {off : Int} (tgt : Nat) {o1 o2 : Option ρ} {ic : Decidable (x = y)} (i : zI cc pc (.if_icmp .eq off) 3 q) (ht : (pc : Int) + off = (tgt : Int)) (k1 : x = y → zG X ad sh emb tgt lv st h o1) (k2 : ¬ (x = y) → zG X ad sh emb q lv st h o2) : zG X ad sh emb pc lv (.int y :: .int x :: st) h (@ite _ (x = y) ic o1 o2) := by
  refine g_ite (fun hc => ?_) (fun hc => ?_)
  · have k1 := k1 hc
    clear k2
    obtain ⟨p, l, e, R, s, m, args, below, meth, c, nL, D, cI, cG⟩ := X
    obtain ⟨hx, hb, hml, hown, hts, hK, hN, hlk, hr, hj, hR⟩ := C
    obtain ⟨di, rfl⟩ := i
    intro x9 hx9 H locs ls hP hS hL
    exact lv_icmp_eq hx hb di ht (fun _ => k1 x9 hx9 H locs ls hP hS hL) (fun h9 => absurd hc h9)
  · have k2 := k2 hc
    clear k1
    obtain ⟨p, l, e, R, s, m, args, below, meth, c, nL, D, cI, cG⟩ := X
    obtain ⟨hx, hb, hml, hown, hts, hK, hN, hlk, hr, hj, hR⟩ := C
    obtain ⟨di, rfl⟩ := i
    intro x9 hx9 H locs ls hP hS hL
    exact lv_icmp_eq hx hb di ht (fun h9 => absurd h9 hc) (fun _ => k2 x9 hx9 H locs ls hP hS hL)
theorem g_if_ne (C : zC X ad sh cc own ret d) {x : Int32} {off : Int} (tgt : Nat) {o1 o2 : Option ρ} {ic : Decidable (x = 0)} (i : zI cc pc (.ifCond .ne off) 3 q) (ht : (pc : Int) + off = (tgt : Int)) (k1 : x = 0 → zG X ad sh emb q lv st h o1) (k2 : ¬ (x = 0) → zG X ad sh emb tgt lv st h o2) : zG X ad sh emb pc lv (.int x :: st) h (@ite _ (x = 0) ic o1 o2) := by
  refine g_ite (fun hc => ?_) (fun hc => ?_)
  · have k1 := k1 hc
    clear k2
    obtain ⟨p, l, e, R, s, m, args, below, meth, c, nL, D, cI, cG⟩ := X
    obtain ⟨hx, hb, hml, hown, hts, hK, hN, hlk, hr, hj, hR⟩ := C
    obtain ⟨di, rfl⟩ := i
    intro x9 hx9 H locs ls hP hS hL
    exact lv_if_ne hx hb di ht (fun h9 => absurd hc h9) (fun _ => k1 x9 hx9 H locs ls hP hS hL)
  · have k2 := k2 hc
    clear k1
    obtain ⟨p, l, e, R, s, m, args, below, meth, c, nL, D, cI, cG⟩ := X
    obtain ⟨hx, hb, hml, hown, hts, hK, hN, hlk, hr, hj, hR⟩ := C
    obtain ⟨di, rfl⟩ := i
    intro x9 hx9 H locs ls hP hS hL
    exact lv_if_ne hx hb di ht (fun _ => k2 x9 hx9 H locs ls hP hS hL) (fun h9 => absurd h9 hc)
theorem g_icmp_ne (C : zC X ad sh cc own ret d) {x y : Int32} {off : Int} (tgt : Nat) {o1 o2 : Option ρ} {ic : Decidable (x = y)} (i : zI cc pc (.if_icmp .ne off) 3 q) (ht : (pc : Int) + off = (tgt : Int)) (k1 : x = y → zG X ad sh emb q lv st h o1) (k2 : ¬ (x = y) → zG X ad sh emb tgt lv st h o2) : zG X ad sh emb pc lv (.int y :: .int x :: st) h (@ite _ (x = y) ic o1 o2) := by
  refine g_ite (fun hc => ?_) (fun hc => ?_)
  · have k1 := k1 hc
    clear k2
    obtain ⟨p, l, e, R, s, m, args, below, meth, c, nL, D, cI, cG⟩ := X
    obtain ⟨hx, hb, hml, hown, hts, hK, hN, hlk, hr, hj, hR⟩ := C
    obtain ⟨di, rfl⟩ := i
    intro x9 hx9 H locs ls hP hS hL
    exact lv_icmp_ne hx hb di ht (fun h9 => absurd hc h9) (fun _ => k1 x9 hx9 H locs ls hP hS hL)
  · have k2 := k2 hc
    clear k1
    obtain ⟨p, l, e, R, s, m, args, below, meth, c, nL, D, cI, cG⟩ := X
    obtain ⟨hx, hb, hml, hown, hts, hK, hN, hlk, hr, hj, hR⟩ := C
    obtain ⟨di, rfl⟩ := i
    intro x9 hx9 H locs ls hP hS hL
    exact lv_icmp_ne hx hb di ht (fun _ => k2 x9 hx9 H locs ls hP hS hL) (fun h9 => absurd h9 hc)
theorem g_if_lt (C : zC X ad sh cc own ret d) {x : Int32} {off : Int} (tgt : Nat) {o1 o2 : Option ρ} {ic : Decidable (x < 0)} (i : zI cc pc (.ifCond .lt off) 3 q) (ht : (pc : Int) + off = (tgt : Int)) (k1 : x < 0 → zG X ad sh emb tgt lv st h o1) (k2 : ¬ (x < 0) → zG X ad sh emb q lv st h o2) : zG X ad sh emb pc lv (.int x :: st) h (@ite _ (x < 0) ic o1 o2) := by
  refine g_ite (fun hc => ?_) (fun hc => ?_)
  · have k1 := k1 hc
    clear k2
    obtain ⟨p, l, e, R, s, m, args, below, meth, c, nL, D, cI, cG⟩ := X
    obtain ⟨hx, hb, hml, hown, hts, hK, hN, hlk, hr, hj, hR⟩ := C
    obtain ⟨di, rfl⟩ := i
    intro x9 hx9 H locs ls hP hS hL
    exact lv_if_lt hx hb di ht (fun _ => k1 x9 hx9 H locs ls hP hS hL) (fun h9 => absurd hc h9)
  · have k2 := k2 hc
    clear k1
    obtain ⟨p, l, e, R, s, m, args, below, meth, c, nL, D, cI, cG⟩ := X
    obtain ⟨hx, hb, hml, hown, hts, hK, hN, hlk, hr, hj, hR⟩ := C
    obtain ⟨di, rfl⟩ := i
    intro x9 hx9 H locs ls hP hS hL
    exact lv_if_lt hx hb di ht (fun h9 => absurd h9 hc) (fun _ => k2 x9 hx9 H locs ls hP hS hL)
theorem g_icmp_lt (C : zC X ad sh cc own ret d) {x y : Int32} {off : Int} (tgt : Nat) {o1 o2 : Option ρ} {ic : Decidable (x < y)} (i : zI cc pc (.if_icmp .lt off) 3 q) (ht : (pc : Int) + off = (tgt : Int)) (k1 : x < y → zG X ad sh emb tgt lv st h o1) (k2 : ¬ (x < y) → zG X ad sh emb q lv st h o2) : zG X ad sh emb pc lv (.int y :: .int x :: st) h (@ite _ (x < y) ic o1 o2) := by
  refine g_ite (fun hc => ?_) (fun hc => ?_)
  · have k1 := k1 hc
    clear k2
    obtain ⟨p, l, e, R, s, m, args, below, meth, c, nL, D, cI, cG⟩ := X
    obtain ⟨hx, hb, hml, hown, hts, hK, hN, hlk, hr, hj, hR⟩ := C
    obtain ⟨di, rfl⟩ := i
    intro x9 hx9 H locs ls hP hS hL
    exact lv_icmp_lt hx hb di ht (fun _ => k1 x9 hx9 H locs ls hP hS hL) (fun h9 => absurd hc h9)
  · have k2 := k2 hc
    clear k1
    obtain ⟨p, l, e, R, s, m, args, below, meth, c, nL, D, cI, cG⟩ := X
    obtain ⟨hx, hb, hml, hown, hts, hK, hN, hlk, hr, hj, hR⟩ := C
    obtain ⟨di, rfl⟩ := i
    intro x9 hx9 H locs ls hP hS hL
    exact lv_icmp_lt hx hb di ht (fun h9 => absurd h9 hc) (fun _ => k2 x9 hx9 H locs ls hP hS hL)
theorem g_if_ge (C : zC X ad sh cc own ret d) {x : Int32} {off : Int} (tgt : Nat) {o1 o2 : Option ρ} {ic : Decidable (0 ≤ x)} (i : zI cc pc (.ifCond .ge off) 3 q) (ht : (pc : Int) + off = (tgt : Int)) (k1 : 0 ≤ x → zG X ad sh emb tgt lv st h o1) (k2 : ¬ (0 ≤ x) → zG X ad sh emb q lv st h o2) : zG X ad sh emb pc lv (.int x :: st) h (@ite _ (0 ≤ x) ic o1 o2) := by
  refine g_ite (fun hc => ?_) (fun hc => ?_)
  · have k1 := k1 hc
    clear k2
    obtain ⟨p, l, e, R, s, m, args, below, meth, c, nL, D, cI, cG⟩ := X
    obtain ⟨hx, hb, hml, hown, hts, hK, hN, hlk, hr, hj, hR⟩ := C
    obtain ⟨di, rfl⟩ := i
    intro x9 hx9 H locs ls hP hS hL
    exact lv_if_ge hx hb di ht (fun _ => k1 x9 hx9 H locs ls hP hS hL) (fun h9 => absurd hc h9)
  · have k2 := k2 hc
    clear k1
    obtain ⟨p, l, e, R, s, m, args, below, meth, c, nL, D, cI, cG⟩ := X
    obtain ⟨hx, hb, hml, hown, hts, hK, hN, hlk, hr, hj, hR⟩ := C
    obtain ⟨di, rfl⟩ := i
    intro x9 hx9 H locs ls hP hS hL
    exact lv_if_ge hx hb di ht (fun h9 => absurd h9 hc) (fun _ => k2 x9 hx9 H locs ls hP hS hL)
theorem g_icmp_ge (C : zC X ad sh cc own ret d) {x y : Int32} {off : Int} (tgt : Nat) {o1 o2 : Option ρ} {ic : Decidable (y ≤ x)} (i : zI cc pc (.if_icmp .ge off) 3 q) (ht : (pc : Int) + off = (tgt : Int)) (k1 : y ≤ x → zG X ad sh emb tgt lv st h o1) (k2 : ¬ (y ≤ x) → zG X ad sh emb q lv st h o2) : zG X ad sh emb pc lv (.int y :: .int x :: st) h (@ite _ (y ≤ x) ic o1 o2) := by
  refine g_ite (fun hc => ?_) (fun hc => ?_)
  · have k1 := k1 hc
    clear k2
    obtain ⟨p, l, e, R, s, m, args, below, meth, c, nL, D, cI, cG⟩ := X
    obtain ⟨hx, hb, hml, hown, hts, hK, hN, hlk, hr, hj, hR⟩ := C
    obtain ⟨di, rfl⟩ := i
    intro x9 hx9 H locs ls hP hS hL
    exact lv_icmp_ge hx hb di ht (fun _ => k1 x9 hx9 H locs ls hP hS hL) (fun h9 => absurd hc h9)
  · have k2 := k2 hc
    clear k1
    obtain ⟨p, l, e, R, s, m, args, below, meth, c, nL, D, cI, cG⟩ := X
    obtain ⟨hx, hb, hml, hown, hts, hK, hN, hlk, hr, hj, hR⟩ := C
    obtain ⟨di, rfl⟩ := i
    intro x9 hx9 H locs ls hP hS hL
    exact lv_icmp_ge hx hb di ht (fun h9 => absurd h9 hc) (fun _ => k2 x9 hx9 H locs ls hP hS hL)
theorem g_if_gt (C : zC X ad sh cc own ret d) {x : Int32} {off : Int} (tgt : Nat) {o1 o2 : Option ρ} {ic : Decidable (0 < x)} (i : zI cc pc (.ifCond .gt off) 3 q) (ht : (pc : Int) + off = (tgt : Int)) (k1 : 0 < x → zG X ad sh emb tgt lv st h o1) (k2 : ¬ (0 < x) → zG X ad sh emb q lv st h o2) : zG X ad sh emb pc lv (.int x :: st) h (@ite _ (0 < x) ic o1 o2) := by
  refine g_ite (fun hc => ?_) (fun hc => ?_)
  · have k1 := k1 hc
    clear k2
    obtain ⟨p, l, e, R, s, m, args, below, meth, c, nL, D, cI, cG⟩ := X
    obtain ⟨hx, hb, hml, hown, hts, hK, hN, hlk, hr, hj, hR⟩ := C
    obtain ⟨di, rfl⟩ := i
    intro x9 hx9 H locs ls hP hS hL
    exact lv_if_gt hx hb di ht (fun _ => k1 x9 hx9 H locs ls hP hS hL) (fun h9 => absurd hc h9)
  · have k2 := k2 hc
    clear k1
    obtain ⟨p, l, e, R, s, m, args, below, meth, c, nL, D, cI, cG⟩ := X
    obtain ⟨hx, hb, hml, hown, hts, hK, hN, hlk, hr, hj, hR⟩ := C
    obtain ⟨di, rfl⟩ := i
    intro x9 hx9 H locs ls hP hS hL
    exact lv_if_gt hx hb di ht (fun h9 => absurd h9 hc) (fun _ => k2 x9 hx9 H locs ls hP hS hL)
theorem g_icmp_gt (C : zC X ad sh cc own ret d) {x y : Int32} {off : Int} (tgt : Nat) {o1 o2 : Option ρ} {ic : Decidable (y < x)} (i : zI cc pc (.if_icmp .gt off) 3 q) (ht : (pc : Int) + off = (tgt : Int)) (k1 : y < x → zG X ad sh emb tgt lv st h o1) (k2 : ¬ (y < x) → zG X ad sh emb q lv st h o2) : zG X ad sh emb pc lv (.int y :: .int x :: st) h (@ite _ (y < x) ic o1 o2) := by
  refine g_ite (fun hc => ?_) (fun hc => ?_)
  · have k1 := k1 hc
    clear k2
    obtain ⟨p, l, e, R, s, m, args, below, meth, c, nL, D, cI, cG⟩ := X
    obtain ⟨hx, hb, hml, hown, hts, hK, hN, hlk, hr, hj, hR⟩ := C
    obtain ⟨di, rfl⟩ := i
    intro x9 hx9 H locs ls hP hS hL
    exact lv_icmp_gt hx hb di ht (fun _ => k1 x9 hx9 H locs ls hP hS hL) (fun h9 => absurd hc h9)
  · have k2 := k2 hc
    clear k1
    obtain ⟨p, l, e, R, s, m, args, below, meth, c, nL, D, cI, cG⟩ := X
    obtain ⟨hx, hb, hml, hown, hts, hK, hN, hlk, hr, hj, hR⟩ := C
    obtain ⟨di, rfl⟩ := i
    intro x9 hx9 H locs ls hP hS hL
    exact lv_icmp_gt hx hb di ht (fun h9 => absurd h9 hc) (fun _ => k2 x9 hx9 H locs ls hP hS hL)
theorem g_if_le (C : zC X ad sh cc own ret d) {x : Int32} {off : Int} (tgt : Nat) {o1 o2 : Option ρ} {ic : Decidable (x ≤ 0)} (i : zI cc pc (.ifCond .le off) 3 q) (ht : (pc : Int) + off = (tgt : Int)) (k1 : x ≤ 0 → zG X ad sh emb tgt lv st h o1) (k2 : ¬ (x ≤ 0) → zG X ad sh emb q lv st h o2) : zG X ad sh emb pc lv (.int x :: st) h (@ite _ (x ≤ 0) ic o1 o2) := by
  refine g_ite (fun hc => ?_) (fun hc => ?_)
  · have k1 := k1 hc
    clear k2
    obtain ⟨p, l, e, R, s, m, args, below, meth, c, nL, D, cI, cG⟩ := X
    obtain ⟨hx, hb, hml, hown, hts, hK, hN, hlk, hr, hj, hR⟩ := C
    obtain ⟨di, rfl⟩ := i
    intro x9 hx9 H locs ls hP hS hL
    exact lv_if_le hx hb di ht (fun _ => k1 x9 hx9 H locs ls hP hS hL) (fun h9 => absurd hc h9)
  · have k2 := k2 hc
    clear k1
    obtain ⟨p, l, e, R, s, m, args, below, meth, c, nL, D, cI, cG⟩ := X
    obtain ⟨hx, hb, hml, hown, hts, hK, hN, hlk, hr, hj, hR⟩ := C
    obtain ⟨di, rfl⟩ := i
    intro x9 hx9 H locs ls hP hS hL
    exact lv_if_le hx hb di ht (fun h9 => absurd h9 hc) (fun _ => k2 x9 hx9 H locs ls hP hS hL)
theorem g_icmp_le (C : zC X ad sh cc own ret d) {x y : Int32} {off : Int} (tgt : Nat) {o1 o2 : Option ρ} {ic : Decidable (x ≤ y)} (i : zI cc pc (.if_icmp .le off) 3 q) (ht : (pc : Int) + off = (tgt : Int)) (k1 : x ≤ y → zG X ad sh emb tgt lv st h o1) (k2 : ¬ (x ≤ y) → zG X ad sh emb q lv st h o2) : zG X ad sh emb pc lv (.int y :: .int x :: st) h (@ite _ (x ≤ y) ic o1 o2) := by
  refine g_ite (fun hc => ?_) (fun hc => ?_)
  · have k1 := k1 hc
    clear k2
    obtain ⟨p, l, e, R, s, m, args, below, meth, c, nL, D, cI, cG⟩ := X
    obtain ⟨hx, hb, hml, hown, hts, hK, hN, hlk, hr, hj, hR⟩ := C
    obtain ⟨di, rfl⟩ := i
    intro x9 hx9 H locs ls hP hS hL
    exact lv_icmp_le hx hb di ht (fun _ => k1 x9 hx9 H locs ls hP hS hL) (fun h9 => absurd hc h9)
  · have k2 := k2 hc
    clear k1
    obtain ⟨p, l, e, R, s, m, args, below, meth, c, nL, D, cI, cG⟩ := X
    obtain ⟨hx, hb, hml, hown, hts, hK, hN, hlk, hr, hj, hR⟩ := C
    obtain ⟨di, rfl⟩ := i
    intro x9 hx9 H locs ls hP hS hL
    exact lv_icmp_le hx hb di ht (fun h9 => absurd h9 hc) (fun _ => k2 x9 hx9 H locs ls hP hS hL)
theorem g_goto (C : zC X ad sh cc own ret d) {off : Int} (tgt : Nat) (i : zI cc pc (.goto off) 3 q) (ht : (pc : Int) + off = (tgt : Int)) (k : zG X ad sh emb tgt lv st h o) : zG X ad sh emb pc lv st h o := by
  obtain ⟨p, l, e, R, s, m, args, below, meth, c, nL, D, cI, cG⟩ := X
  obtain ⟨hx, hb, hml, hown, hts, hK, hN, hlk, hr, hj, hR⟩ := C
  obtain ⟨di, rfl⟩ := i
  intro x9 hx9 H locs ls hP hS hL
  exact lv_goto hx hb di ht (k x9 hx9 H locs ls hP hS hL)
theorem g_top {e0 : Int32} {ko : Int32 → Option ρ} (k : ∀ v, zG X ad sh emb pc lv (.int v :: st) h (ko v)) : zG X ad sh emb pc lv (.int e0 :: st) h (zlet e0 ko) := k e0
theorem g_let {α : Type} {f : α} {ko : α → Option ρ} (k : ∀ j, j = f → zG X ad sh emb pc lv st h (ko j)) : zG X ad sh emb pc lv st h (zlet f ko) := k f rfl
end ZR
abbrev eP (h : zH) : Int32 → Option Value × zH := fun r => (some (.int r), h)
abbrev eI : Int32 × zH → Option Value × zH := fun q => (some (.int q.1), q.2)
abbrev eV : zH → Option Value × zH := fun h => (none, h)
