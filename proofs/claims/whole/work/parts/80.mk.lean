/-! THE MAKINGS AND THE LAW: a world that grows; a row an instruction; calls of makings ('kM') and of methods ('zM') -/
abbrev kR (d mc ms : Nat) : Room := { frames := d, cells := mc, slots := ms, locals := 35 * d }
abbrev kX : Type := Program × Launch × Env × Room × State × MethodId × Array Value × List Frame × Method × Code × Nat × (State → Prop)
def kC (X : kX) (D : va_G) (cI cG : ClassId) (A : Nat → Prop) (E : State → Prop) (cc : ByteArray) (own nm : String) (d mc ms : Nat) : Prop := match X with
  | (p, _, _, R, s, m, args, _, meth, c, nL, _) => p.tables.exec = Jvm.exec ∧ c.code = cc ∧ c.maxLocals = nL ∧ s.vm.findClass own = some m.cls ∧ (∀ w ∈ zWd, w.before args s = true) ∧ va_K D vwCl (zTy cI cG) s ∧ meth.name = nm ∧ (∀ q, s.heap.size ≤ q → A q) ∧ R.frames = d ∧ R.cells = mc ∧ R.slots = ms ∧ 35 * d ≤ R.locals ∧ E s
def kG (X : kX) (D : va_G) (A : Nat → Prop) (k n : Nat) (pc : Nat) (lv : List (Option Value)) (st : List Value) (ws : va_W) : Prop := match X with
  | (p, l, e, R, s, m, args, below, meth, c, nL, Q) => ∀ (H : Heap) (locs : List Loc) (ls : Array Slot), va_P D vwCl ws H → va_D A ws → va_S A s.heap H locs → zL ls nL lv → W p l e R s m args below meth c H locs k n Q (F0 m pc ls st)
/-- a making's contract: the object x, bare, becomes the world w1 -/
def kM (y : MethodName) (bytes : ByteArray) (maxL d mc ms : Nat) (E : Nat × va_E → Nat → State → Prop) (as : List Value) (x : Nat × va_E) (post : ClassId → ClassId → va_W → Prop) : Prop :=
  ∀ (l : Launch) (D : va_G) (cI cG : ClassId) (sz : Nat), Met l y (Cond.code y bytes maxL none :: zWd) (kR d mc ms) (va_Pc as (fun U => U.heap.size = sz ∧ va_P D vwCl [x] U.heap ∧ va_K D vwCl (zTy cI cG) U ∧ va_D (fun _ => True) [x] ∧ E x sz U)) (va_Qv (post cI cG) (fun w1 t => va_P D vwCl w1 t.heap ∧ va_D (va_A [x] sz) w1) (va_A [x] sz)) mc ms (va_A [x] sz)
theorem kM.of {y : MethodName} {bytes : ByteArray} {maxL d mc ms : Nat} {E : Nat × va_E → Nat → State → Prop} {as : List Value} {x : Nat × va_E} {post : ClassId → ClassId → va_W → Prop} (hy : plainName y.cls = true) (hi : y.name = "<init>") (hc : as.all (fun v => v.category == 1) = true) (hn : as.length ≤ maxL)
    (k : ∀ (X : kX) (D : va_G) (cI cG : ClassId) (A : Nat → Prop) (sz : Nat), A = va_A [x] sz → maxL = X.2.2.2.2.2.2.2.2.2.2.1 → kC X D cI cG A (E x sz) bytes y.cls "<init>" d mc ms → (∀ (pc q : Nat) (lv : List (Option Value)) (ws : va_W), zI bytes pc .return_ 1 q → post cI cG ws → kG X D A mc ms pc lv [] ws) → kG X D A 0 0 0 (zlv0 as maxL) [] [x]) : kM y bytes maxL d mc ms E as x post := by
  intro l D cI cG sz
  refine Met.ofW (cc := bytes) (maxL := maxL) (ret := none) hy rfl ?_
  intro p e s m args below meth c s₁ B hml hv
  obtain ⟨rfl, hsz, hP, hK, hD0, hE⟩ := hv
  subst hsz
  have hts := atoms_spec (ws := Cond.code y bytes maxL none :: zWd) B.pre
  have hname : meth.name = "<init>" := (name_of_methodNamed B.named B.method).1.trans hi
  have kk := k (p, l, e, kR d mc ms, s, m, as.toArray, below, meth, c, maxL, MQ below (va_Qv (post cI cG) (fun w1 t => va_P D vwCl w1 t.heap ∧ va_D (va_A [x] s.heap.size) w1) (va_A [x] s.heap.size)) as.toArray s mc ms (va_A [x] s.heap.size)) D cI cG (va_A [x] s.heap.size) s.heap.size rfl rfl ⟨B.exec, B.bytes, hml, findClass_of_methodNamed B.named, fun w hw => hts w (List.mem_cons_of_mem _ hw), hK, hname, fun q h => Or.inr h, rfl, rfl, rfl, Nat.le_refl _, hE⟩ (fun pc q lv ws hz hp H locs ls hP hD hS hL => W.vret B.exec B.bytes B.returns (fun t ht hW => ⟨⟨ws, rfl, hp, by rw [ht]; exact hP, hD⟩, hS.F ht⟩) hS.2.2 hz.1 B.notSynchronized)
  rw [lg_entry_eq]
  exact kk s.heap [] _ hP hD0.self va_S.rf (zL_entry (fun v hv => by simpa using List.all_eq_true.mp hc v hv) hn)
/-- what a making's extra words must bear -/
def kE (A : Nat → Prop) (x : Nat × va_E) (E : State → Prop) (E' : Nat × va_E → Nat → State → Prop) : Prop := (∀ (s U : State) (locs : List Loc), va_S A s.heap U.heap locs → (∀ q, va_A [x] U.heap.size q → A q) → s.WarmedH U.vm → E s → E' x U.heap.size U) ∧ ∀ (u U : State) (sz : Nat), u.vm = U.vm → u.heap = U.heap → E' x sz u → E' x sz U
theorem kE_T {A : Nat → Prop} {x : Nat × va_E} {E : State → Prop} : kE A x E (fun _ _ _ => True) := ⟨fun _ _ _ _ _ _ _ => trivial, fun _ _ _ _ _ _ => trivial⟩
/-- the caller's cells, and the world of what was made -/
theorem k_join {A0 : Nat → Prop} {D : va_G} {cl : List vw_C} {ws w1 : va_W} {x : Nat × va_E} {H H1 : Heap} (hP : va_P D cl (ws ++ [x]) H) (hD : va_D A0 (ws ++ [x])) (hk : ∀ q : Nat, q < H.size → ¬ va_A [x] H.size q → H1[q]? = H[q]?) (hF : ∀ q, va_A [x] H.size q → A0 q) (hP1 : va_P D cl w1 H1) (hD1 : va_D (va_A [x] H.size) w1) : va_P D cl (ws ++ w1) H1 ∧ va_D A0 (ws ++ w1) := by
  have at' : ∀ (k : Nat) (q : Nat × va_E), ws[k]? = some q → (ws ++ [x])[k]? = some q := fun k q hq => by
    rw [List.getElem?_append_left (List.getElem?_eq_some_iff.mp hq).1]; exact hq
  have hx : (ws ++ [x])[ws.length]? = some x := by simp
  have apart : ∀ (k : Nat) (q : Nat × va_E), ws[k]? = some q → q.1 < H.size ∧ ¬ va_A [x] H.size q.1 := by
    intro k q hq
    have hl := (hP k q (at' k q hq)).lt
    refine ⟨hl, fun h => ?_⟩
    rcases h with ⟨k2, e, h⟩ | h
    · have hk2 : k2 = 0 := by
        have := (List.getElem?_eq_some_iff.mp h).1
        simpa using this
      subst hk2
      have hxe : x = (q.1, e) := by simpa using h
      have hij := hD.1 k ws.length q x (at' k q hq) hx (by rw [hxe])
      have := (List.getElem?_eq_some_iff.mp hq).1
      omega
    · omega
  refine ⟨va_P.app (fun k q hq => ?_) hP1, va_D.app ⟨fun i j p q hi hj e => hD.1 i j p q (at' i p hi) (at' j q hj) e, fun k q hq => hD.2 k q (at' k q hq)⟩ (hD1.weaken (fun k q _ h => hF q.1 h)) (fun i j p q hp hq e => ?_)⟩
  · obtain ⟨g1, g2⟩ := apart k q hq
    exact (hP k q (at' k q hq)).kept (hk q.1 g1 g2)
  · exact (apart i p hp).2 (by rw [e]; exact hD1.2 j q hq)
theorem z_afterG {p : Program} {l : Launch} {e : Env} {R : Room} {s : State} {m : MethodId} {args : Array Value} {below : List Frame} {meth : Method} {c : Code} {H : Heap} {locs : List Loc} {k n : Nat} {Q : State → Prop} {D : va_G} {cI cG : ClassId} {ad : Nat → Nat} {sh : List zK} {y : Option Value × zH} {pc : Nat} {ls : Array Slot} {st0 rest : List Value} {a : Array Value} {H0 : Heap} {A : Nat → Prop} (hr : va_Run p l e R s m args below meth c H locs k n 0 0 (F0 m pc ls st0) rest (zQ D cI cG ad sh y a) (zA ad sh)) (hS : va_S A H0 H locs) (hA : ∀ q, zA ad sh q → A q)
    (kk : ∀ (H1 : Heap) (locs1 : List Loc), va_P D vwCl (zW cI cG ad sh y.2) H1 → (∀ q : Nat, q < H.size → ¬ zA ad sh q → H1[q]? = H[q]?) → va_S A H0 H1 locs1 → W p l e R s m args below meth c H1 locs1 k n Q (F0 m (pc + 3) ls (y.1.toList ++ rest))) : W p l e R s m args below meth c H locs k n Q (F0 m pc ls st0) := by
  intro T hT X
  obtain ⟨v, st₀, t, T', L, h0, X', hL, e1, e2, ⟨hv, hp, hz, hk⟩, st⟩ := hr T hT X
  cases hv
  rw [h0] at hz hk
  obtain ⟨t2, a1, b1⟩ := kk T'.heap (locs ++ L) (by rw [e1]; exact hp) (fun q h1 h2 => by rw [e1]; exact hk q h1 h2)
    ⟨Nat.le_trans hS.1 (by rw [e1]; exact hz), fun q h1 h2 => by rw [e1, hk q (Nat.lt_of_lt_of_le h1 hS.1) (fun z => h2 (hA q z))]; exact hS.2.1 q h1 h2, fun q hq => by
      rcases List.mem_append.mp hq with h | h
      · exact hS.2.2 q h
      · exact hA _ (hL q h)⟩ T' rfl X'
  exact ⟨t2, st t2 a1, b1⟩
theorem zW_fst {cI cG : ClassId} {ad : Nat → Nat} {sh : List zK} {h : zH} {k : Nat} {q : Nat × va_E} (hk : (zW cI cG ad sh h)[k]? = some q) : k < sh.length ∧ q.1 = ad k := by
  simp only [zW, List.getElem?_mapIdx] at hk
  cases hs : sh[k]? with
  | none => rw [hs] at hk; cases hk
  | some y =>
    rw [hs] at hk
    simp only [Option.map_some, Option.some.injEq] at hk
    exact ⟨(List.getElem?_eq_some_iff.mp hs).1, by rw [← hk]⟩
theorem zW_len {cI cG : ClassId} {ad : Nat → Nat} {sh : List zK} {h : zH} : (zW cI cG ad sh h).length = sh.length := by simp [zW]
theorem zW_ex {cI cG : ClassId} {ad : Nat → Nat} {sh : List zK} {h : zH} {k : Nat} (hk : k < sh.length) : ∃ e, (zW cI cG ad sh h)[k]? = some (ad k, e) := ⟨_, zW_at (List.getElem?_eq_getElem hk)⟩
theorem k_mid {α : Type} {wa wz wb : List α} {k : Nat} {q : α} (h : wz[k]? = some q) : (wa ++ (wz ++ wb))[wa.length + k]? = some q := by
  rw [List.getElem?_append_right (by omega), show wa.length + k - wa.length = k by omega, List.getElem?_append_left (List.getElem?_eq_some_iff.mp h).1]; exact h
theorem k_left {α : Type} {wa w : List α} {k : Nat} {q : α} (h : wa[k]? = some q) : (wa ++ w)[k]? = some q := by
  rw [List.getElem?_append_left (List.getElem?_eq_some_iff.mp h).1]; exact h
theorem k_right {α : Type} {wa w : List α} {k : Nat} {q : α} (h : w[k]? = some q) : (wa ++ w)[wa.length + k]? = some q := by
  rw [List.getElem?_append_right (by omega), show wa.length + k - wa.length = k by omega]; exact h
theorem va_P.left {D : va_G} {cl : List vw_C} {w1 w2 : va_W} {H : Heap} (h : va_P D cl (w1 ++ w2) H) : va_P D cl w1 H := fun k q hk => h k q (k_left hk)
theorem va_P.right {D : va_G} {cl : List vw_C} {w1 w2 : va_W} {H : Heap} (h : va_P D cl (w1 ++ w2) H) : va_P D cl w2 H := fun k q hk => h _ q (k_right hk)
/-- a world in whose midst the ints of a fixed list of cells change -/
theorem k_swap {A : Nat → Prop} {D : va_G} {wa wb : va_W} {cI cG : ClassId} {ad : Nat → Nat} {sh : List zK} {h h' : zH} {H H1 : Heap} (hP : va_P D vwCl (wa ++ (zW cI cG ad sh h ++ wb)) H) (hD : va_D A (wa ++ (zW cI cG ad sh h ++ wb))) (hk : ∀ q : Nat, q < H.size → ¬ zA ad sh q → H1[q]? = H[q]?) (hP1 : va_P D vwCl (zW cI cG ad sh h') H1) : va_P D vwCl (wa ++ (zW cI cG ad sh h' ++ wb)) H1 ∧ va_D A (wa ++ (zW cI cG ad sh h' ++ wb)) := by
  have hsame : (wa ++ (zW cI cG ad sh h' ++ wb)).map (·.1) = (wa ++ (zW cI cG ad sh h ++ wb)).map (·.1) := by
    have : (zW cI cG ad sh h').map (·.1) = (zW cI cG ad sh h).map (·.1) := by
      apply List.ext_getElem?
      intro k
      simp only [zW, List.getElem?_map, List.getElem?_mapIdx]
      cases sh[k]? <;> rfl
    simp only [List.map_append, this]
  have back : ∀ (k : Nat) (q : Nat × va_E), (wa ++ (zW cI cG ad sh h' ++ wb))[k]? = some q → ∃ q', (wa ++ (zW cI cG ad sh h ++ wb))[k]? = some q' ∧ q'.1 = q.1 := by
    intro k q hq
    have h1 := congrArg (fun l : List Nat => l[k]?) hsame
    simp only [List.getElem?_map, hq, Option.map_some] at h1
    cases hz : (wa ++ (zW cI cG ad sh h ++ wb))[k]? with
    | none => rw [hz] at h1; cases h1
    | some q' => rw [hz] at h1; exact ⟨q', rfl, (Option.some.inj h1).symm⟩
  have hout : ∀ (i : Nat) (q : Nat × va_E), (wa ++ (zW cI cG ad sh h ++ wb))[i]? = some q → (i < wa.length ∨ wa.length + sh.length ≤ i) → ¬ zA ad sh q.1 := by
    intro i q hq hi ⟨j, hj, he⟩
    obtain ⟨e, hz⟩ := zW_ex (cI := cI) (cG := cG) (ad := ad) (sh := sh) (h := h) hj
    have := hD.1 i (wa.length + j) q (ad j, e) hq (k_mid hz) he
    omega
  refine ⟨va_P.app (fun k q hq => ?_) (va_P.app hP1 (fun k q hq => ?_)), ⟨fun i j p q hi hj e => ?_, fun k q hq => ?_⟩⟩
  · have h1 := k_left (w := zW cI cG ad sh h ++ wb) hq
    exact (hP k q h1).kept (hk q.1 (hP k q h1).lt (hout k q h1 (Or.inl (List.getElem?_eq_some_iff.mp hq).1)))
  · have h1 := k_right (wa := wa) (k_right (wa := zW cI cG ad sh h) hq)
    exact (hP _ q h1).kept (hk q.1 (hP _ q h1).lt (hout _ q h1 (Or.inr (by rw [zW_len]; omega))))
  · obtain ⟨p', h1, e1⟩ := back i p hi
    obtain ⟨q', h2, e2⟩ := back j q hj
    exact hD.1 i j p' q' h1 h2 (by rw [e1, e2]; exact e)
  · obtain ⟨q', h1, e1⟩ := back k q hq
    rw [← e1]; exact hD.2 k q' h1
theorem k_zJ {A : Nat → Prop} {wa wb : va_W} {cI cG : ClassId} {ad : Nat → Nat} {sh : List zK} {h : zH} (hD : va_D A (wa ++ (zW cI cG ad sh h ++ wb))) : zJ ad sh ∧ ∀ q, zA ad sh q → A q := by
  refine ⟨fun i j hi hj e => ?_, fun q ⟨k, hk, e⟩ => ?_⟩
  · obtain ⟨e1, h1⟩ := zW_ex (cI := cI) (cG := cG) (ad := ad) (sh := sh) (h := h) hi
    obtain ⟨e2, h2⟩ := zW_ex (cI := cI) (cG := cG) (ad := ad) (sh := sh) (h := h) hj
    have := hD.1 _ _ _ _ (k_mid (wa := wa) (wb := wb) h1) (k_mid (wa := wa) (wb := wb) h2) e
    omega
  · obtain ⟨e1, h1⟩ := zW_ex (cI := cI) (cG := cG) (ad := ad) (sh := sh) (h := h) hk
    rw [e]; exact hD.2 _ _ (k_mid (wa := wa) (wb := wb) h1)
section ZK
variable {X : kX} {D : va_G} {cI cG : ClassId} {A : Nat → Prop} {E : State → Prop} {cc : ByteArray} {own nm : String} {d mc ms k n pc q : Nat} {lv : List (Option Value)} {st : List Value} {ws : va_W}
theorem k_eq {ws' : va_W} (e : ws = ws') (kt : kG X D A k n pc lv st ws') : kG X D A k n pc lv st ws := by rw [e]; exact kt
theorem k_sub {lv' : List (Option Value)} (hw : zsub lv' lv) (kt : kG X D A k n pc lv' st ws) : kG X D A k n pc lv st ws := by
  obtain ⟨p, l, e, R, s, m, args, below, meth, c, nL, Q⟩ := X
  intro H locs ls hP hD hS hL
  exact kt H locs ls hP hD hS (hL.weak (zsub_ok hw))
theorem k_wide {k' n' : Nat} (h1 : k ≤ k') (h2 : n ≤ n') (kt : kG X D A k' n' pc lv st ws) : kG X D A k n pc lv st ws := by
  obtain ⟨p, l, e, R, s, m, args, below, meth, c, nL, Q⟩ := X
  intro H locs ls hP hD hS hL
  exact W.widen h1 h2 (kt H locs ls hP hD hS hL)
theorem k_iconst (C : kC X D cI cG A E cc own nm d mc ms) {n0 : Int} (v : Int32) (i : zI cc pc (.iconst n0) 1 q) (hv : Int32.ofInt n0 = v) (kt : kG X D A k n q lv (.int v :: st) ws) : kG X D A k n pc lv (st) ws := by
  obtain ⟨p, l, e, R, s, m, args, below, meth, c, nL, Q⟩ := X
  obtain ⟨hx, hb, hml, hown, hts, hK, hnm, hA, hRf, hRc, hRs, hRl, hE⟩ := C
  obtain ⟨di, rfl⟩ := i
  intro H locs ls hP hD hS hL
  exact lv_iconst hx hb di hv (kt H locs ls hP hD hS hL)
theorem k_bipush (C : kC X D cI cG A E cc own nm d mc ms) {n0 : Int} (v : Int32) (i : zI cc pc (.bipush n0) 2 q) (hv : (Int8.ofInt n0).toInt32 = v) (kt : kG X D A k n q lv (.int v :: st) ws) : kG X D A k n pc lv (st) ws := by
  obtain ⟨p, l, e, R, s, m, args, below, meth, c, nL, Q⟩ := X
  obtain ⟨hx, hb, hml, hown, hts, hK, hnm, hA, hRf, hRc, hRs, hRl, hE⟩ := C
  obtain ⟨di, rfl⟩ := i
  intro H locs ls hP hD hS hL
  exact lv_bipush hx hb di hv (kt H locs ls hP hD hS hL)
theorem k_sipush (C : kC X D cI cG A E cc own nm d mc ms) {n0 : Int} (v : Int32) (i : zI cc pc (.sipush n0) 3 q) (hv : (Int16.ofInt n0).toInt32 = v) (kt : kG X D A k n q lv (.int v :: st) ws) : kG X D A k n pc lv (st) ws := by
  obtain ⟨p, l, e, R, s, m, args, below, meth, c, nL, Q⟩ := X
  obtain ⟨hx, hb, hml, hown, hts, hK, hnm, hA, hRf, hRc, hRs, hRl, hE⟩ := C
  obtain ⟨di, rfl⟩ := i
  intro H locs ls hP hD hS hL
  exact lv_sipush hx hb di hv (kt H locs ls hP hD hS hL)
theorem k_iload_n (C : kC X D cI cG A E cc own nm d mc ms) {j : Fin 4} {x : Int32} (i : zI cc pc (.iload_n j) 1 q) (hl : lv[(j : Nat)]? = some (some (.int x))) (kt : kG X D A k n q lv (.int x :: st) ws) : kG X D A k n pc lv (st) ws := by
  obtain ⟨p, l, e, R, s, m, args, below, meth, c, nL, Q⟩ := X
  obtain ⟨hx, hb, hml, hown, hts, hK, hnm, hA, hRf, hRc, hRs, hRl, hE⟩ := C
  obtain ⟨di, rfl⟩ := i
  intro H locs ls hP hD hS hL
  exact lv_iload_n hx hb di rfl (hL.2.2 _ _ hl).1 (kt H locs ls hP hD hS hL)
theorem k_aload_n (C : kC X D cI cG A E cc own nm d mc ms) {j : Fin 4} {x : Nat} (i : zI cc pc (.aload_n j) 1 q) (hl : lv[(j : Nat)]? = some (some (.ref x))) (kt : kG X D A k n q lv (.ref x :: st) ws) : kG X D A k n pc lv (st) ws := by
  obtain ⟨p, l, e, R, s, m, args, below, meth, c, nL, Q⟩ := X
  obtain ⟨hx, hb, hml, hown, hts, hK, hnm, hA, hRf, hRc, hRs, hRl, hE⟩ := C
  obtain ⟨di, rfl⟩ := i
  intro H locs ls hP hD hS hL
  exact lv_aload_n hx hb di rfl (hL.2.2 _ _ hl).1 (kt H locs ls hP hD hS hL)
theorem k_dup (C : kC X D cI cG A E cc own nm d mc ms) {v : Value} (i : zI cc pc .dup 1 q) (hv : v.category = 1) (kt : kG X D A k n q lv (v :: v :: st) ws) : kG X D A k n pc lv (v :: st) ws := by
  obtain ⟨p, l, e, R, s, m, args, below, meth, c, nL, Q⟩ := X
  obtain ⟨hx, hb, hml, hown, hts, hK, hnm, hA, hRf, hRc, hRs, hRl, hE⟩ := C
  obtain ⟨di, rfl⟩ := i
  intro H locs ls hP hD hS hL
  exact lv_dup hx hb di hv (kt H locs ls hP hD hS hL)
theorem k_pop (C : kC X D cI cG A E cc own nm d mc ms) {v : Value} (i : zI cc pc .pop 1 q) (hv : v.category = 1) (kt : kG X D A k n q lv (st) ws) : kG X D A k n pc lv (v :: st) ws := by
  obtain ⟨p, l, e, R, s, m, args, below, meth, c, nL, Q⟩ := X
  obtain ⟨hx, hb, hml, hown, hts, hK, hnm, hA, hRf, hRc, hRs, hRl, hE⟩ := C
  obtain ⟨di, rfl⟩ := i
  intro H locs ls hP hD hS hL
  exact lv_pop hx hb di hv (kt H locs ls hP hD hS hL)
theorem k_iadd (C : kC X D cI cG A E cc own nm d mc ms) {x y : Int32} (i : zI cc pc .iadd 1 q) (kt : kG X D A k n q lv (.int (x + y) :: st) ws) : kG X D A k n pc lv (.int y :: .int x :: st) ws := by
  obtain ⟨p, l, e, R, s, m, args, below, meth, c, nL, Q⟩ := X
  obtain ⟨hx, hb, hml, hown, hts, hK, hnm, hA, hRf, hRc, hRs, hRl, hE⟩ := C
  obtain ⟨di, rfl⟩ := i
  intro H locs ls hP hD hS hL
  exact lv_iadd hx hb di (kt H locs ls hP hD hS hL)
theorem k_isub (C : kC X D cI cG A E cc own nm d mc ms) {x y : Int32} (i : zI cc pc .isub 1 q) (kt : kG X D A k n q lv (.int (x - y) :: st) ws) : kG X D A k n pc lv (.int y :: .int x :: st) ws := by
  obtain ⟨p, l, e, R, s, m, args, below, meth, c, nL, Q⟩ := X
  obtain ⟨hx, hb, hml, hown, hts, hK, hnm, hA, hRf, hRc, hRs, hRl, hE⟩ := C
  obtain ⟨di, rfl⟩ := i
  intro H locs ls hP hD hS hL
  exact lv_isub hx hb di (kt H locs ls hP hD hS hL)
theorem k_iand (C : kC X D cI cG A E cc own nm d mc ms) {x y : Int32} (i : zI cc pc .iand 1 q) (kt : kG X D A k n q lv (.int (x &&& y) :: st) ws) : kG X D A k n pc lv (.int y :: .int x :: st) ws := by
  obtain ⟨p, l, e, R, s, m, args, below, meth, c, nL, Q⟩ := X
  obtain ⟨hx, hb, hml, hown, hts, hK, hnm, hA, hRf, hRc, hRs, hRl, hE⟩ := C
  obtain ⟨di, rfl⟩ := i
  intro H locs ls hP hD hS hL
  exact lv_iand hx hb di (kt H locs ls hP hD hS hL)
theorem k_goto (C : kC X D cI cG A E cc own nm d mc ms) {off : Int} (tgt : Nat) (i : zI cc pc (.goto off) 3 q) (ht : (pc : Int) + off = (tgt : Int)) (kt : kG X D A k n tgt lv st ws) : kG X D A k n pc lv st ws := by
  obtain ⟨p, l, e, R, s, m, args, below, meth, c, nL, Q⟩ := X
  obtain ⟨hx, hb, hml, hown, hts, hK, hnm, hA, hRf, hRc, hRs, hRl, hE⟩ := C
  obtain ⟨di, rfl⟩ := i
  intro H locs ls hP hD hS hL
  exact lv_goto hx hb di ht (kt H locs ls hP hD hS hL)
theorem k_icmp_ge (C : kC X D cI cG A E cc own nm d mc ms) {x y : Int32} {off : Int} (tgt : Nat) (i : zI cc pc (.if_icmp .ge off) 3 q) (ht : (pc : Int) + off = (tgt : Int)) (k1 : y ≤ x → kG X D A k n tgt lv st ws) (k2 : ¬ (y ≤ x) → kG X D A k n q lv st ws) : kG X D A k n pc lv (.int y :: .int x :: st) ws := by
  obtain ⟨p, l, e, R, s, m, args, below, meth, c, nL, Q⟩ := X
  obtain ⟨hx, hb, hml, hown, hts, hK, hnm, hA, hRf, hRc, hRs, hRl, hE⟩ := C
  obtain ⟨di, rfl⟩ := i
  intro H locs ls hP hD hS hL
  exact lv_icmp_ge hx hb di ht (fun h => k1 h H locs ls hP hD hS hL) (fun h => k2 h H locs ls hP hD hS hL)
theorem k_icmp_gt (C : kC X D cI cG A E cc own nm d mc ms) {x y : Int32} {off : Int} (tgt : Nat) (i : zI cc pc (.if_icmp .gt off) 3 q) (ht : (pc : Int) + off = (tgt : Int)) (k1 : y < x → kG X D A k n tgt lv st ws) (k2 : ¬ (y < x) → kG X D A k n q lv st ws) : kG X D A k n pc lv (.int y :: .int x :: st) ws := by
  obtain ⟨p, l, e, R, s, m, args, below, meth, c, nL, Q⟩ := X
  obtain ⟨hx, hb, hml, hown, hts, hK, hnm, hA, hRf, hRc, hRs, hRl, hE⟩ := C
  obtain ⟨di, rfl⟩ := i
  intro H locs ls hP hD hS hL
  exact lv_icmp_gt hx hb di ht (fun h => k1 h H locs ls hP hD hS hL) (fun h => k2 h H locs ls hP hD hS hL)
theorem k_icmp_eq (C : kC X D cI cG A E cc own nm d mc ms) {x y : Int32} {off : Int} (tgt : Nat) (i : zI cc pc (.if_icmp .eq off) 3 q) (ht : (pc : Int) + off = (tgt : Int)) (k1 : x = y → kG X D A k n tgt lv st ws) (k2 : ¬ (x = y) → kG X D A k n q lv st ws) : kG X D A k n pc lv (.int y :: .int x :: st) ws := by
  obtain ⟨p, l, e, R, s, m, args, below, meth, c, nL, Q⟩ := X
  obtain ⟨hx, hb, hml, hown, hts, hK, hnm, hA, hRf, hRc, hRs, hRl, hE⟩ := C
  obtain ⟨di, rfl⟩ := i
  intro H locs ls hP hD hS hL
  exact lv_icmp_eq hx hb di ht (fun h => k1 h H locs ls hP hD hS hL) (fun h => k2 h H locs ls hP hD hS hL)
theorem k_istore_n (C : kC X D cI cG A E cc own nm d mc ms) {j : Fin 4} {nL : Nat} (hnL : nL = X.2.2.2.2.2.2.2.2.2.2.1) {x : Int32} {lv' : List (Option Value)} (i : zI cc pc (.istore_n j) 1 q) (hk : (j : Nat) < nL) (hlv : lv.set (j : Nat) (some (.int x)) = lv') (kt : kG X D A k n q lv' st ws) : kG X D A k n pc lv (.int x :: st) ws := by
  obtain ⟨p, l, e, R, s, m, args, below, meth, c, nL, Q⟩ := X
  obtain ⟨hx, hb, hml, hown, hts, hK, hnm, hA, hRf, hRc, hRs, hRl, hE⟩ := C
  obtain ⟨di, rfl⟩ := i
  subst hnL
  subst hlv
  intro H locs ls hP hD hS hL
  obtain ⟨ls', e', hL'⟩ := hL.store (v := .int x) hk rfl
  intro T hT X
  obtain ⟨t, a, b⟩ := kt H locs ls' hP hD hS hL' T hT X
  refine ⟨t, ?_, b⟩
  jvm_step X.here [X.here.top, ↓top_set X.here.top, hx, hb, di, e']
  exact a
theorem k_astore_n (C : kC X D cI cG A E cc own nm d mc ms) {j : Fin 4} {nL : Nat} (hnL : nL = X.2.2.2.2.2.2.2.2.2.2.1) {x : Nat} {lv' : List (Option Value)} (i : zI cc pc (.astore_n j) 1 q) (hk : (j : Nat) < nL) (hlv : lv.set (j : Nat) (some (.ref x)) = lv') (kt : kG X D A k n q lv' st ws) : kG X D A k n pc lv (.ref x :: st) ws := by
  obtain ⟨p, l, e, R, s, m, args, below, meth, c, nL, Q⟩ := X
  obtain ⟨hx, hb, hml, hown, hts, hK, hnm, hA, hRf, hRc, hRs, hRl, hE⟩ := C
  obtain ⟨di, rfl⟩ := i
  subst hnL
  subst hlv
  intro H locs ls hP hD hS hL
  obtain ⟨ls', e', hL'⟩ := hL.store (v := .ref x) hk rfl
  intro T hT X
  obtain ⟨t, a, b⟩ := kt H locs ls' hP hD hS hL' T hT X
  refine ⟨t, ?_, b⟩
  jvm_step X.here [X.here.top, ↓top_set X.here.top, hx, hb, di, e', Value.isRef]
  exact a
theorem k_iinc (C : kC X D cI cG A E cc own nm d mc ms) {j : Nat} {n0 : Int} {nL : Nat} (hnL : nL = X.2.2.2.2.2.2.2.2.2.2.1) {x v : Int32} {lv' : List (Option Value)} (i : zI cc pc (.iinc j n0) 3 q) (hk : j < nL) (hl : lv[j]? = some (some (.int x))) (hv : x + Int32.ofInt n0 = v) (hlv : lv.set j (some (.int v)) = lv') (kt : kG X D A k n q lv' st ws) : kG X D A k n pc lv st ws := by
  obtain ⟨p, l, e, R, s, m, args, below, meth, c, nL, Q⟩ := X
  obtain ⟨hx, hb, hml, hown, hts, hK, hnm, hA, hRf, hRc, hRs, hRl, hE⟩ := C
  obtain ⟨di, rfl⟩ := i
  subst hnL
  subst hv
  subst hlv
  intro H locs ls hP hD hS hL
  obtain ⟨ls', e', hL'⟩ := hL.store (v := .int (x + Int32.ofInt n0)) hk rfl
  have hg := (hL.2.2 _ _ hl).1
  intro T hT X
  obtain ⟨t, a, b⟩ := kt H locs ls' hP hD hS hL' T hT X
  refine ⟨t, ?_, b⟩
  jvm_step X.here [X.here.top, ↓top_set X.here.top, hx, hb, di, hg, e']
  exact a
def zO (own : String) (idx : Nat) : Prop := Cond.methodLink own idx Lib.objectInit ∈ zWd ∧ Cond.instanceMethod Lib.objectInit ∈ zWd ∧ Cond.code Lib.objectInit ⟨#[0xb1]⟩ 1 none ∈ zWd
theorem k_obj (C : kC X D cI cG A E cc own nm d mc ms) {idx a : Nat} (w : zO own idx) (i : zI cc pc (.invokespecial idx) 3 q) (hd : 1 ≤ d) (hrm : (st.map fun v => v.category).sum ≤ 8) (kt : kG X D A k n q lv st ws) : kG X D A k n pc lv (.ref a :: st) ws := by
  obtain ⟨p, l, e, R, s, m, args, below, meth, c, nL, Q⟩ := X
  obtain ⟨hx, hb, hml, hown, hts, hK, hnm, hA, hRf, hRc, hRs, hRl, hE⟩ := C
  obtain ⟨di, rfl⟩ := i
  obtain ⟨w1, w2, w3⟩ := w
  intro H locs ls hP hD hS hL
  refine W.objInit hx hb hown (hts _ w1) (hts _ w2) (hts _ w3) (g := F0 m pc ls (.ref a :: st)) rfl (by rw [hml]; exact hL.1) rfl di (by omega) ?_ (kt H locs ls hP hD hS hL)
  have := lv_room (m := m) (pc := pc) (ls := ls) (rest := .ref a :: st) hrm
  omega
/-- a class that is made: its word, its fields when bare -/
def zMk (own : String) (idx ci N : Nat) (fs : List Value) : Prop := ∃ (Cn : String) (T : u_T) (ty : Nat → FieldType), vwCl[ci]? = some (Cn, T, N) ∧ Cond.classLink own idx Cn ∈ zWd ∧ Cond.instantiable Cn N ∈ zWd ∧ Cond.initialized Cn ∈ zWd ∧ (∀ w ∈ u_ws Cn T N, w ∈ zWd) ∧ (∀ k, k < N → parseFieldDescriptor (T k).2.2.1 = some (ty k)) ∧ ∀ j, j < N → defaultValue (ty j) = vp_V fs j
theorem k_new (C : kC X D cI cG A E cc own nm d mc ms) {idx ci N : Nat} {fs : List Value} (w : zMk own idx ci N fs) (i : zI cc pc (.new idx) 3 q) (hc : k + 1 ≤ mc) (hs : n + N ≤ ms) (kt : ∀ r, kG X D A (k + 1) (n + N) q lv (.ref r :: st) (ws ++ [(r, .inr (ci, fs))])) : kG X D A k n pc lv st ws := by
  obtain ⟨p, l, e, R, s, m, args, below, meth, c, nL, Q⟩ := X
  obtain ⟨hx, hb, hml, hown, hts, hK, hnm, hA, hRf, hRc, hRs, hRl, hE⟩ := C
  obtain ⟨di, rfl⟩ := i
  obtain ⟨Cn, T, ty, w1, w2, w3, w4, w5, w6, w7⟩ := w
  intro H locs ls hP hD hS hL
  exact va_new hx hb hts w5 ty w6 hown (hts _ w2) (hts _ w3) (hts _ w4) hK hP hD hS hA w1 w7 (by omega) (by omega) di (fun r H1 hP1 hD1 hS1 => kt r H1 locs ls hP1 hD1 hS1 hL)
theorem k_newa (C : kC X D cI cG A E cc own nm d mc ms) (w : Cond.arrayClass .int ∈ zWd) {n0 : Int32} (N : Nat) (i : zI cc pc (.newarray .int) 2 q) (hn : ¬ n0 < 0) (hN : n0.toNatClampNeg = N) (hby : N * componentBytes .int ≤ 536870912) (hc : k + 1 ≤ mc) (hs : n + N ≤ ms) (kt : ∀ r, kG X D A (k + 1) (n + N) q lv (.ref r :: st) (ws ++ [(r, .inl (cI, N, .inl (fun _ => 0)))])) : kG X D A k n pc lv (.int n0 :: st) ws := by
  obtain ⟨p, l, e, R, s, m, args, below, meth, c, nL, Q⟩ := X
  obtain ⟨hx, hb, hml, hown, hts, hK, hnm, hA, hRf, hRc, hRs, hRl, hE⟩ := C
  obtain ⟨di, rfl⟩ := i
  intro H locs ls hP hD hS hL
  refine va_newa (atype := .int) (ty := .int) (a0 := (N, .inl (fun _ => 0))) hx hb (hts _ w) rfl hK hP hD hS hA (fun cA => rfl) hn hN hby (by omega) (by omega) di (fun r cA H1 hK1 hP1 hD1 hS1 => ?_)
  have e1 : s.vm.findClass ("[" ++ FieldType.int.toString) = some cA := (hK1.2 2 (cA, .int) rfl).2
  have e2 : s.vm.findClass ("[" ++ FieldType.int.toString) = some cI := (hK.2 0 (cI, .int) rfl).2
  have e3 : cA = cI := Option.some.inj (e1.symm.trans e2)
  subst e3
  exact kt r H1 locs ls hP1 hD1 hS1 hL
theorem k_anew (C : kC X D cI cG A E cc own nm d mc ms) {idx : Nat} (w : Cond.classLink own idx RX1 ∈ zWd) (hO : ∀ s, E s → va_AO RX1 s) {n0 : Int32} (N : Nat) (i : zI cc pc (.anewarray idx) 3 q) (hn : ¬ n0 < 0) (hN : n0.toNatClampNeg = N) (hby : N * 4 ≤ 536870912) (hc : k + 1 ≤ mc) (hs : n + N ≤ ms) (kt : ∀ r, kG X D A (k + 1) (n + N) q lv (.ref r :: st) (ws ++ [(r, .inl (cG, N, .inr (.inr (.inr (.inr (fun _ => none))))))])) : kG X D A k n pc lv (.int n0 :: st) ws := by
  obtain ⟨p, l, e, R, s, m, args, below, meth, c, nL, Q⟩ := X
  obtain ⟨hx, hb, hml, hown, hts, hK, hnm, hA, hRf, hRc, hRs, hRl, hE⟩ := C
  obtain ⟨di, rfl⟩ := i
  intro H locs ls hP hD hS hL
  refine va_newq hx hb hown (hts _ w) (hO s hE) hK hP hD hS hA hn hN hby (by omega) (by omega) di (fun r cA H1 hK1 hP1 hD1 hS1 => ?_)
  obtain ⟨-, -, -, -, -, e1⟩ := (hK1.2 2 (cA, .object RX1) rfl).2
  obtain ⟨-, -, -, -, -, e2⟩ := (hK.2 1 (cG, .object RX1) rfl).2
  have e3 : cA = cG := Option.some.inj (e1.symm.trans e2)
  subst e3
  exact kt r H1 locs ls hP1 hD1 hS1 hL
theorem k_aast (C : kC X D cI cG A E cc own nm d mc ms) (q0 qk : Nat) {a v n1 : Nat} {vs : List Value} {f : Nat → Option Nat} {j : Int32} (i : zI cc pc .aastore 1 q) (ha : ws[q0]? = some (a, .inl (cG, n1, .inr (.inr (.inr (.inr f)))))) (hv : ws[qk]? = some (v, .inr (1, vs))) (hin : vp_in j n1) (kt : kG X D A k n q lv st (ws.set q0 (a, .inl (cG, n1, .inr (.inr (.inr (.inr (va_up f j.toNatClampNeg (some v))))))))) : kG X D A k n pc lv (.ref v :: .int j :: .ref a :: st) ws := by
  obtain ⟨p, l, e, R, s, m, args, below, meth, c, nL, Q⟩ := X
  obtain ⟨hx, hb, hml, hown, hts, hK, hnm, hA, hRf, hRc, hRs, hRl, hE⟩ := C
  obtain ⟨di, rfl⟩ := i
  intro H locs ls hP hD hS hL
  exact va_astq (r := (RX1, TX1, 12)) hx hb hK hP hD hS q0 1 qk 1 ha rfl hv rfl hin di (fun H1 locs1 hP1 hD1 hS1 => kt H1 locs1 ls hP1 hD1 hS1 hL)
/-- a final field that holds a reference -/
def zFf (own : String) (idx ci j : Nat) : Prop := ∃ (Cn : String) (T : u_T) (N : Nat), vwCl[ci]? = some (Cn, T, N) ∧ j < N ∧ Cond.fieldLink own idx (T j).1 (T j).2.1 (T j).2.2.1 ∈ zWd ∧ (∀ w ∈ u_ws Cn T N, w ∈ zWd) ∧ (T j).2.2.2 = true ∧ (T j).1 = own ∧ (∃ ty0 : Nat → FieldType, ∀ k, k < N → parseFieldDescriptor (T k).2.2.1 = some (ty0 k)) ∧ (∀ a, a < N → ∀ b, b < N → a ≠ b → (T a).2.1 ≠ (T b).2.1) ∧ ∃ ty : FieldType, parseFieldDescriptor (T j).2.2.1 = some ty ∧ (∀ r : Nat, narrow ty (.ref r) = .ref r) ∧ ∀ r : Nat, fits ty (.ref r) = true
theorem k_putF (C : kC X D cI cG A E cc own "<init>" d mc ms) {idx ci j a b : Nat} {fs : List Value} (q0 : Nat) (f : zFf own idx ci j) (i : zI cc pc (.putfield idx) 3 q) (ha : ws[q0]? = some (a, .inr (ci, fs))) (hl : j < fs.length) (kt : kG X D A k n q lv st (ws.set q0 (a, .inr (ci, fs.set j (.ref b))))) : kG X D A k n pc lv (.ref b :: .ref a :: st) ws := by
  obtain ⟨p, l, e, R, s, m, args, below, meth, c, nL, Q⟩ := X
  obtain ⟨hx, hb, hml, hown, hts, hK, hnm, hA, hRf, hRc, hRs, hRl, hE⟩ := C
  obtain ⟨di, rfl⟩ := i
  obtain ⟨Cn, T, N, f1, f2, f3, f4, f5, f6, ⟨ty0, f7⟩, f8, ty, f9, f10, f11⟩ := f
  intro H locs ls hP hD hS hL
  exact va_putF (ty := ty) hx hb hts f4 ty0 f7 f8 hown hK hP hD hS q0 ha f1 j f2 (hts _ f3) (fun _ h9 => h9) f5 hnm f6 f9 (f10 b) (f11 b) hl di (fun H1 locs1 hP1 hD1 hS1 => kt H1 locs1 ls hP1 hD1 hS1 hL)
theorem k_get (C : kC X D cI cG A E cc own nm d mc ms) {idx ci j a : Nat} {fs : List Value} {v : Value} (q0 : Nat) (f : zFl own idx ci j) (i : zI cc pc (.getfield idx) 3 q) (ha : ws[q0]? = some (a, .inr (ci, fs))) (hf : fs[j]? = some v) (kt : kG X D A k n q lv (v :: st) ws) : kG X D A k n pc lv (.ref a :: st) ws := by
  obtain ⟨p, l, e, R, s, m, args, below, meth, c, nL, Q⟩ := X
  obtain ⟨hx, hb, hml, hown, hts, hK, hnm, hA, hRf, hRc, hRs, hRl, hE⟩ := C
  obtain ⟨di, rfl⟩ := i
  obtain ⟨Cn, T, N, f1, f2, f3, f4⟩ := f
  intro H locs ls hP hD hS hL
  exact va_get hx hb hts f4 hown hK hP q0 ha f1 j f2 (hts _ f3) (fun _ h9 => h9) hf di (kt H locs ls hP hD hS hL)
/-- the words of a making's call -/
def zCi (y : MethodName) (bytes : ByteArray) (maxL nn : Nat) : Prop := Cond.initialized y.cls ∈ zWd ∧ Cond.code y bytes maxL none ∈ zWd ∧ (y.cls ≠ "java/lang/invoke/MethodHandle" ∧ y.cls ≠ "java/lang/invoke/VarHandle" ∧ (parseMethodDescriptor y.desc).map (fun d => d.parameters.length) = some nn) ∧ maxL ≤ 16 ∧ y.name = "<init>" ∧ Cond.instanceMethod y ∈ zWd
variable {y : MethodName} {bytes : ByteArray} {maxL d' mc' ms' nn idx b : Nat} {E' : Nat × va_E → Nat → State → Prop} {As st0 : List Value} {x : Nat × va_E} {post : ClassId → ClassId → va_W → Prop}
theorem k_callI (C : kC X D cI cG A E cc own nm d mc ms) (w : zCi y bytes maxL nn) (w0 : Cond.methodLink own idx y ∈ zWd) (i : zI cc pc (.invokespecial idx) 3 q) (hM : kM y bytes maxL d' mc' ms' E' (.ref b :: As) x post) (hd : d' + 1 ≤ d) (hEE : kE A x E E') (hn : As.length = nn) (hst : st0 = As.reverse ++ .ref b :: st) (hrm : (st.map fun v => v.category).sum ≤ 8) (hc : k + mc' ≤ mc) (hs : n + ms' ≤ ms) (kt : ∀ w1, post cI cG w1 → kG X D A (k + mc') (n + ms') q lv st (ws ++ w1)) : kG X D A k n pc lv st0 (ws ++ [x]) := by
  obtain ⟨p, l, e, R, s, m, args, below, meth, c, nL, Q⟩ := X
  obtain ⟨hx, hb, hml, hown, hts, hK, hnm, hA, hRf, hRc, hRs, hRl, hE⟩ := C
  obtain ⟨di, rfl⟩ := i
  obtain ⟨w2, w3, w4, w5, w6, w7⟩ := w
  intro H locs ls hP hD hS hL
  have hFc : ∀ q, va_A [x] H.size q → A q := va_free (wc := [x]) hD hS hA [ws.length] (by simp)
  have hPc : va_P D vwCl [x] H := hP.right
  refine va_callv (va_runI (Ts := zWd) (As := As) (rest := st) ⟨hx, hb, hml, hown, hts⟩ (hM l D cI cG H.size) ⟨callB_of nn hts (z_goodT w3) rfl rfl rfl (hts _ w2) (hts _ w0) w4 ⟨by show d' + 1 ≤ _; omega, by show 8 + (maxL + 11) + 35 * d' ≤ _; omega⟩, w6, hts _ w7⟩ ⟨fun a U g mk z => ?_, fun U hU hW => ⟨rfl, by rw [hU], by rw [hU]; exact hPc, va_K.moved hW.alike hK, ⟨fun i j p q hi hj _ => ?_, fun _ _ _ => trivial⟩, ?_⟩⟩ rfl hn hL.1 hst (lv_room hrm) di ⟨by omega, by omega⟩) hS (fun q _ h => hFc q h) hFc (fun w1 t H1 locs1 ht hvm hw hB hz1 hk1 hS1 => ?_)
  · obtain ⟨z0, z1, z2, z3, z4, z5⟩ := z
    exact ⟨z0, z1, z2, va_K.moved (u := U) (U := U.calling g mk a) (Vm.Alike.refl U.vm) z3, z4, hEE.2 U (U.calling g mk a) _ rfl rfl z5⟩
  · have h1 := (List.getElem?_eq_some_iff.mp hi).1
    have h2 := (List.getElem?_eq_some_iff.mp hj).1
    simp at h1 h2
    omega
  · subst hU
    exact hEE.1 s U locs hS hFc hW hE
  · obtain ⟨hP1, hD1⟩ := hB
    rw [ht] at hP1
    obtain ⟨hP2, hD2⟩ := k_join hP hD hk1 hFc hP1 hD1
    exact kt w1 hw H1 locs1 ls hP2 hD2 hS1 hL
theorem k_callIN (C : kC X D cI cG A E cc own nm d mc ms) (w : zCi y bytes maxL nn) (w0 : ∀ s, E s → va_Nw (.methodLinkNest own idx y "ShedStages") s) (i : zI cc pc (.invokespecial idx) 3 q) (hM : kM y bytes maxL d' mc' ms' E' (.ref b :: As) x post) (hd : d' + 1 ≤ d) (hEE : kE A x E E') (hn : As.length = nn) (hst : st0 = As.reverse ++ .ref b :: st) (hrm : (st.map fun v => v.category).sum ≤ 8) (hc : k + mc' ≤ mc) (hs : n + ms' ≤ ms) (kt : ∀ w1, post cI cG w1 → kG X D A (k + mc') (n + ms') q lv st (ws ++ w1)) : kG X D A k n pc lv st0 (ws ++ [x]) := by
  obtain ⟨p, l, e, R, s, m, args, below, meth, c, nL, Q⟩ := X
  obtain ⟨hx, hb, hml, hown, hts, hK, hnm, hA, hRf, hRc, hRs, hRl, hE⟩ := C
  obtain ⟨di, rfl⟩ := i
  obtain ⟨w2, w3, w4, w5, w6, w7⟩ := w
  intro H locs ls hP hD hS hL
  have hFc : ∀ q, va_A [x] H.size q → A q := va_free (wc := [x]) hD hS hA [ws.length] (by simp)
  have hPc : va_P D vwCl [x] H := hP.right
  refine va_callv (va_runIN (Ts := zWd) (As := As) (rest := st) (host := "ShedStages") ⟨hx, hb, hml, hown, hts⟩ (hM l D cI cG H.size) ⟨va_cnB nn hts (z_goodT w3) rfl rfl rfl (w0 s hE) (hts _ w2) w4 ⟨by show d' + 1 ≤ _; omega, by show 8 + (maxL + 11) + 35 * d' ≤ _; omega⟩, w6, hts _ w7⟩ ⟨fun a U g mk z => ?_, fun U hU hW => ⟨rfl, by rw [hU], by rw [hU]; exact hPc, va_K.moved hW.alike hK, ⟨fun i j p q hi hj _ => ?_, fun _ _ _ => trivial⟩, ?_⟩⟩ rfl hn hL.1 hst (lv_room hrm) di ⟨by omega, by omega⟩) hS (fun q _ h => hFc q h) hFc (fun w1 t H1 locs1 ht hvm hw hB hz1 hk1 hS1 => ?_)
  · obtain ⟨z0, z1, z2, z3, z4, z5⟩ := z
    exact ⟨z0, z1, z2, va_K.moved (u := U) (U := U.calling g mk a) (Vm.Alike.refl U.vm) z3, z4, hEE.2 U (U.calling g mk a) _ rfl rfl z5⟩
  · have h1 := (List.getElem?_eq_some_iff.mp hi).1
    have h2 := (List.getElem?_eq_some_iff.mp hj).1
    simp at h1 h2
    omega
  · subst hU
    exact hEE.1 s U locs hS hFc hW hE
  · obtain ⟨hP1, hD1⟩ := hB
    rw [ht] at hP1
    obtain ⟨hP2, hD2⟩ := k_join hP hD hk1 hFc hP1 hD1
    exact kt w1 hw H1 locs1 ls hP2 hD2 hS1 hL
variable {σ : Type} {rt : Option FieldType} {embc : σ → Option Value × zH} {oc : Option σ} {av : (Nat → Nat) → List Value} {ad : Nat → Nat} {sh : List zK} {h : zH} {z : σ} {wa wb : va_W}
/-- a call of a method with its contract zM, its cells in the midst of the world -/
theorem k_callZ (C : kC X D cI cG A E cc own nm d mc ms) (w : zCv own idx y bytes maxL rt nn) (i : zI cc pc (.invokevirtual idx) 3 q) (hM : zM y bytes maxL rt d' sh av h embc oc) (hoc : oc = some z) (hd : d' + 1 ≤ d) (hN : ∀ s, E s → zNw s) {a ci : Nat} {fs : List (Option Nat)} {T : u_T} {N : Nat} (ha : sh[a]? = some (.inr (.inl (ci, fs)))) (hci : vwCl[ci]? = some (y.cls, T, N)) (hav : av ad = .ref (ad a) :: As) (hn : As.length = nn) (hst : st0 = As.reverse ++ .ref (ad a) :: st) (hrm : (st.map fun v => v.category).sum ≤ 8) (hc : k ≤ mc) (hs : n ≤ ms)
    (kt : kG X D A k n q lv ((embc z).1.toList ++ st) (wa ++ (zW cI cG ad sh (embc z).2 ++ wb))) : kG X D A k n pc lv st0 (wa ++ (zW cI cG ad sh h ++ wb)) := by
  obtain ⟨p, l, e, R, s, m, args, below, meth, c, nL, Q⟩ := X
  obtain ⟨hx, hb, hml, hown, hts, hK, hnm, hA, hRf, hRc, hRs, hRl, hE⟩ := C
  obtain ⟨di, rfl⟩ := i
  obtain ⟨⟨w1, w2, w3, w4, w5⟩, w6, w7⟩ := w
  intro H locs ls hP hD hS hL
  obtain ⟨hj, hAz⟩ := k_zJ hD
  have hPz : va_P D vwCl (zW cI cG ad sh h) H := hP.right.left
  have M := hM z hoc l D cI cG ad hj
  rw [hav] at M
  have hN := hN s hE
  have hcw : CallW R s args own y.cls idx y bytes maxL rt (Cond.code y bytes maxL rt :: zWd) (zR d') 0 0 nn := ⟨callB_of nn hts (z_goodT w3) rfl rfl rfl (hts _ w2) (hts _ w1) w4 ⟨by show d' + 1 ≤ _; omega, by show 8 + (maxL + 11) + 35 * d' ≤ _; omega⟩, hts _ w6, hts _ w7⟩
  refine z_afterG (va_runV (Ts := zWd) (As := As) (rest := st) ⟨hx, hb, hml, hown, hts⟩ M hcw ⟨zPc_blind, va_recv hK hPz hci (zW_at ha), fun U hU hW => ⟨rfl, by rw [hU]; exact hPz, va_K.moved hW.alike hK, hN.warm hW⟩⟩ rfl hn hL.1 hst (lv_room hrm) di ⟨by omega, by omega⟩) hS hAz (fun H1 locs1 hP1 hk1 hS1 => ?_)
  obtain ⟨hP2, hD2⟩ := k_swap hP hD hk1 hP1
  exact kt H1 locs1 ls hP2 hD2 hS1 hL
theorem k_callZ0 (C : kC X D cI cG A E cc own nm d mc ms) (w : zCv own idx y bytes maxL rt nn) (i : zI cc pc (.invokevirtual idx) 3 q) (hM : zM y bytes maxL rt d' sh av h embc oc) (hoc : oc = some z) (hd : d' + 1 ≤ d) (hN : ∀ s, E s → zNw s) {a ci : Nat} {fs : List (Option Nat)} {T : u_T} {N : Nat} (ha : sh[a]? = some (.inr (.inl (ci, fs)))) (hci : vwCl[ci]? = some (y.cls, T, N)) (hav : av ad = .ref (ad a) :: As) (hn : As.length = nn) (hst : st0 = As.reverse ++ .ref (ad a) :: st) (hrm : (st.map fun v => v.category).sum ≤ 8) (hc : k ≤ mc) (hs : n ≤ ms) (kt : kG X D A k n q lv ((embc z).1.toList ++ st) (zW cI cG ad sh (embc z).2)) : kG X D A k n pc lv st0 (zW cI cG ad sh h) := k_eq (ws' := [] ++ (zW cI cG ad sh h ++ [])) (by simp) (k_callZ C w i hM hoc hd hN ha hci hav hn hst hrm hc hs (k_eq (by simp) kt))
theorem k_callZL (C : kC X D cI cG A E cc own nm d mc ms) (w : zCv own idx y bytes maxL rt nn) (i : zI cc pc (.invokevirtual idx) 3 q) (hM : zM y bytes maxL rt d' sh av h embc oc) (hoc : oc = some z) (hd : d' + 1 ≤ d) (hN : ∀ s, E s → zNw s) {a ci : Nat} {fs : List (Option Nat)} {T : u_T} {N : Nat} (ha : sh[a]? = some (.inr (.inl (ci, fs)))) (hci : vwCl[ci]? = some (y.cls, T, N)) (hav : av ad = .ref (ad a) :: As) (hn : As.length = nn) (hst : st0 = As.reverse ++ .ref (ad a) :: st) (hrm : (st.map fun v => v.category).sum ≤ 8) (hc : k ≤ mc) (hs : n ≤ ms) (kt : kG X D A k n q lv ((embc z).1.toList ++ st) (zW cI cG ad sh (embc z).2 ++ wb)) : kG X D A k n pc lv st0 (zW cI cG ad sh h ++ wb) := k_eq (ws' := [] ++ (zW cI cG ad sh h ++ wb)) (by simp) (k_callZ C w i hM hoc hd hN ha hci hav hn hst hrm hc hs (k_eq (by simp) kt))
theorem k_callZR (C : kC X D cI cG A E cc own nm d mc ms) (w : zCv own idx y bytes maxL rt nn) (i : zI cc pc (.invokevirtual idx) 3 q) (hM : zM y bytes maxL rt d' sh av h embc oc) (hoc : oc = some z) (hd : d' + 1 ≤ d) (hN : ∀ s, E s → zNw s) {a ci : Nat} {fs : List (Option Nat)} {T : u_T} {N : Nat} (ha : sh[a]? = some (.inr (.inl (ci, fs)))) (hci : vwCl[ci]? = some (y.cls, T, N)) (hav : av ad = .ref (ad a) :: As) (hn : As.length = nn) (hst : st0 = As.reverse ++ .ref (ad a) :: st) (hrm : (st.map fun v => v.category).sum ≤ 8) (hc : k ≤ mc) (hs : n ≤ ms) (kt : kG X D A k n q lv ((embc z).1.toList ++ st) (wa ++ zW cI cG ad sh (embc z).2)) : kG X D A k n pc lv st0 (wa ++ zW cI cG ad sh h) := k_eq (ws' := wa ++ (zW cI cG ad sh h ++ [])) (by simp) (k_callZ C w i hM hoc hd hN ha hci hav hn hst hrm hc hs (k_eq (by simp) kt))
end ZK
