/-! THE TEXT CONSTANT: String.length, String.charAt and what they call; nothing is written, nothing made -/
def sQ (sz : Nat) (rv : Option Value) : Array Value → State → Outcome → State → Prop := fun _ st oc t => oc = .returned rv ∧ va_F (va_A [] sz) st t
def sM (y : MethodName) (bytes : ByteArray) (maxL : Nat) (rt : Option FieldType) (d : Nat) (E : Nat → State → Prop) (as : List Value) (rv : Option Value) : Prop :=
  ∀ (l : Launch) (D : va_G) (cI cG : ClassId) (sz : Nat), Met l y (Cond.code y bytes maxL rt :: zWd) (zR d) (va_Pc as (fun U => U.heap.size = sz ∧ va_K D vwCl (zTy cI cG) U ∧ E sz U)) (sQ sz rv) 0 0 (va_A [] sz)
theorem sM.of {y : MethodName} {bytes : ByteArray} {maxL d : Nat} {rt : Option FieldType} {E : Nat → State → Prop} {as : List Value} {rv : Option Value} (hy : plainName y.cls = true) (hc : as.all (fun v => v.category == 1) = true) (hn : as.length ≤ maxL)
    (k : ∀ (X : kX) (D : va_G) (cI cG : ClassId) (A : Nat → Prop) (sz : Nat), A = va_A [] sz → maxL = X.2.2.2.2.2.2.2.2.2.2.1 → kC X D cI cG A (E sz) bytes y.cls y.name d 0 0 → (∀ (pc q : Nat) (lv : List (Option Value)) (v : Int32) (ty : FieldType), zI bytes pc .ireturn 1 q → rt = some ty → narrow ty (.int v) = .int v → rv = some (.int v) → kG X D A 0 0 pc lv [.int v] []) → (∀ (pc q : Nat) (lv : List (Option Value)), zI bytes pc .return_ 1 q → rt = none → rv = none → kG X D A 0 0 pc lv [] []) → kG X D A 0 0 0 (zlv0 as maxL) [] []) : sM y bytes maxL rt d E as rv := by
  intro l D cI cG sz
  refine Met.ofW (cc := bytes) (maxL := maxL) (ret := rt) hy rfl ?_
  intro p e s m args below meth c s₁ B hml hv
  obtain ⟨rfl, hsz, hK, hE⟩ := hv
  subst hsz
  have hts := atoms_spec (ws := Cond.code y bytes maxL rt :: zWd) B.pre
  have kk := k (p, l, e, zR d, s, m, as.toArray, below, meth, c, maxL, MQ below (sQ s.heap.size rv) as.toArray s 0 0 (va_A [] s.heap.size)) D cI cG (va_A [] s.heap.size) s.heap.size rfl rfl ⟨B.exec, B.bytes, hml, findClass_of_methodNamed B.named, fun w hw => hts w (List.mem_cons_of_mem _ hw), hK, (name_of_methodNamed B.named B.method).1, fun q h => Or.inr h, rfl, rfl, rfl, Nat.le_refl _, hE⟩ (fun pc q lv v ty hz hrt hnv hrv H locs ls hP hD hS hL => W.zret B.exec B.bytes (B.returns.trans hrt) hnv (fun t ht hW => ⟨by rw [hrv], hS.F ht⟩) hS.2.2 hz.1 B.notSynchronized) (fun pc q lv hz hrt hrv H locs ls hP hD hS hL => W.vret B.exec B.bytes (B.returns.trans hrt) (fun t ht hW => ⟨by rw [hrv], hS.F ht⟩) hS.2.2 hz.1 B.notSynchronized)
  rw [lg_entry_eq]
  exact kk s.heap [] _ (fun k q h => by simp at h) ⟨fun i j p q h => by simp at h, fun k q h => by simp at h⟩ va_S.rf (zL_entry (fun v hv => by simpa using List.all_eq_true.mp hc v hv) hn)
theorem s_after {p : Program} {l : Launch} {e : Env} {R : Room} {s : State} {m : MethodId} {args : Array Value} {below : List Frame} {meth : Method} {c : Code} {H : Heap} {locs : List Loc} {k n : Nat} {Q : State → Prop} {rv : Option Value} {pc : Nat} {ls : Array Slot} {st0 rest : List Value} {a : Array Value} {H0 : Heap} {A : Nat → Prop} (hr : va_Run p l e R s m args below meth c H locs k n 0 0 (F0 m pc ls st0) rest (sQ H.size rv a) (va_A [] H.size)) (hS : va_S A H0 H locs) (hA : ∀ q, va_A [] H.size q → A q)
    (kk : ∀ (H1 : Heap) (locs1 : List Loc), (∀ q : Nat, q < H.size → H1[q]? = H[q]?) → va_S A H0 H1 locs1 → W p l e R s m args below meth c H1 locs1 k n Q (F0 m (pc + 3) ls (rv.toList ++ rest))) : W p l e R s m args below meth c H locs k n Q (F0 m pc ls st0) := by
  intro T hT X
  obtain ⟨v, st₀, t, T', L, h0, X', hL, e1, e2, ⟨hv, hz, hk⟩, st⟩ := hr T hT X
  cases hv
  rw [h0] at hz hk
  have hout : ∀ q : Nat, q < H.size → ¬ va_A [] H.size q := fun q hq h => by
    rcases h with ⟨i, e, h⟩ | h
    · simp at h
    · omega
  obtain ⟨t2, a1, b1⟩ := kk T'.heap (locs ++ L) (fun q h1 => by rw [e1]; exact hk q h1 (hout q h1))
    ⟨Nat.le_trans hS.1 (by rw [e1]; exact hz), fun q h1 h2 => by rw [e1, hk q (Nat.lt_of_lt_of_le h1 hS.1) (hout q (Nat.lt_of_lt_of_le h1 hS.1))]; exact hS.2.1 q h1 h2, fun q hq => by
      rcases List.mem_append.mp hq with h | h
      · exact hS.2.2 q h
      · exact hA _ (hL q h)⟩ T' rfl X'
  exact ⟨t2, st t2 a1, b1⟩
/-- what the callee's extra words must bear -/
def sE (A : Nat → Prop) (E : State → Prop) (E' : Nat → State → Prop) : Prop := (∀ (s U : State) (locs : List Loc), va_S A s.heap U.heap locs → (∀ q, va_A [] U.heap.size q → A q) → s.WarmedH U.vm → E s → E' U.heap.size U) ∧ ∀ (u U : State) (sz : Nat), u.vm = U.vm → u.heap = U.heap → E' sz u → E' sz U
theorem sE_T {A : Nat → Prop} {E : State → Prop} : sE A E (fun _ _ => True) := ⟨fun _ _ _ _ _ _ _ => trivial, fun _ _ _ _ _ _ => trivial⟩
section ZS
variable {X : kX} {D : va_G} {cI cG : ClassId} {A : Nat → Prop} {E : State → Prop} {cc : ByteArray} {own nm : String} {d mc ms k n pc q : Nat} {lv : List (Option Value)} {st : List Value} {ws : va_W}
theorem k_ishr (C : kC X D cI cG A E cc own nm d mc ms) {x y : Int32} (i : zI cc pc .ishr 1 q) (kt : kG X D A k n q lv (.int (x >>> (y &&& 31)) :: st) ws) : kG X D A k n pc lv (.int y :: .int x :: st) ws := by
  obtain ⟨p, l, e, R, s, m, args, below, meth, c, nL, Q⟩ := X
  obtain ⟨hx, hb, hml, hown, hts, hK, hnm, hA, hRf, hRc, hRs, hRl, hE⟩ := C
  obtain ⟨di, rfl⟩ := i
  intro H locs ls hP hD hS hL
  exact lv_ishr hx hb di (kt H locs ls hP hD hS hL)
theorem k_i2c (C : kC X D cI cG A E cc own nm d mc ms) {x : Int32} (v : Int32) (i : zI cc pc .i2c 1 q) (hv : (x.toUInt32 % 65536).toInt32 = v) (kt : kG X D A k n q lv (.int v :: st) ws) : kG X D A k n pc lv (.int x :: st) ws := by
  obtain ⟨p, l, e, R, s, m, args, below, meth, c, nL, Q⟩ := X
  obtain ⟨hx, hb, hml, hown, hts, hK, hnm, hA, hRf, hRc, hRs, hRl, hE⟩ := C
  obtain ⟨di, rfl⟩ := i
  intro H locs ls hP hD hS hL
  exact lv_i2c hx hb di hv (kt H locs ls hP hD hS hL)
theorem k_if_eqY (C : kC X D cI cG A E cc own nm d mc ms) {x : Int32} {off : Int} (tgt : Nat) (i : zI cc pc (.ifCond .eq off) 3 q) (ht : (pc : Int) + off = (tgt : Int)) (hc : x = 0) (kt : kG X D A k n tgt lv st ws) : kG X D A k n pc lv (.int x :: st) ws := by
  obtain ⟨p, l, e, R, s, m, args, below, meth, c, nL, Q⟩ := X
  obtain ⟨hx, hb, hml, hown, hts, hK, hnm, hA, hRf, hRc, hRs, hRl, hE⟩ := C
  obtain ⟨di, rfl⟩ := i
  intro H locs ls hP hD hS hL
  exact lv_if_eq hx hb di ht (fun _ => kt H locs ls hP hD hS hL) (fun h => absurd hc h)
theorem k_if_eqN (C : kC X D cI cG A E cc own nm d mc ms) {x : Int32} {off : Int} (tgt : Nat) (i : zI cc pc (.ifCond .eq off) 3 q) (ht : (pc : Int) + off = (tgt : Int)) (hc : ¬ (x = 0)) (kt : kG X D A k n q lv st ws) : kG X D A k n pc lv (.int x :: st) ws := by
  obtain ⟨p, l, e, R, s, m, args, below, meth, c, nL, Q⟩ := X
  obtain ⟨hx, hb, hml, hown, hts, hK, hnm, hA, hRf, hRc, hRs, hRl, hE⟩ := C
  obtain ⟨di, rfl⟩ := i
  intro H locs ls hP hD hS hL
  exact lv_if_eq hx hb di ht (fun h => absurd h hc) (fun _ => kt H locs ls hP hD hS hL)
theorem k_if_neY (C : kC X D cI cG A E cc own nm d mc ms) {x : Int32} {off : Int} (tgt : Nat) (i : zI cc pc (.ifCond .ne off) 3 q) (ht : (pc : Int) + off = (tgt : Int)) (hc : ¬ x = 0) (kt : kG X D A k n tgt lv st ws) : kG X D A k n pc lv (.int x :: st) ws := by
  obtain ⟨p, l, e, R, s, m, args, below, meth, c, nL, Q⟩ := X
  obtain ⟨hx, hb, hml, hown, hts, hK, hnm, hA, hRf, hRc, hRs, hRl, hE⟩ := C
  obtain ⟨di, rfl⟩ := i
  intro H locs ls hP hD hS hL
  exact lv_if_ne hx hb di ht (fun _ => kt H locs ls hP hD hS hL) (fun h => absurd h hc)
theorem k_if_neN (C : kC X D cI cG A E cc own nm d mc ms) {x : Int32} {off : Int} (tgt : Nat) (i : zI cc pc (.ifCond .ne off) 3 q) (ht : (pc : Int) + off = (tgt : Int)) (hc : ¬ (¬ x = 0)) (kt : kG X D A k n q lv st ws) : kG X D A k n pc lv (.int x :: st) ws := by
  obtain ⟨p, l, e, R, s, m, args, below, meth, c, nL, Q⟩ := X
  obtain ⟨hx, hb, hml, hown, hts, hK, hnm, hA, hRf, hRc, hRs, hRl, hE⟩ := C
  obtain ⟨di, rfl⟩ := i
  intro H locs ls hP hD hS hL
  exact lv_if_ne hx hb di ht (fun h => absurd h hc) (fun _ => kt H locs ls hP hD hS hL)
theorem k_if_ltY (C : kC X D cI cG A E cc own nm d mc ms) {x : Int32} {off : Int} (tgt : Nat) (i : zI cc pc (.ifCond .lt off) 3 q) (ht : (pc : Int) + off = (tgt : Int)) (hc : x < 0) (kt : kG X D A k n tgt lv st ws) : kG X D A k n pc lv (.int x :: st) ws := by
  obtain ⟨p, l, e, R, s, m, args, below, meth, c, nL, Q⟩ := X
  obtain ⟨hx, hb, hml, hown, hts, hK, hnm, hA, hRf, hRc, hRs, hRl, hE⟩ := C
  obtain ⟨di, rfl⟩ := i
  intro H locs ls hP hD hS hL
  exact lv_if_lt hx hb di ht (fun _ => kt H locs ls hP hD hS hL) (fun h => absurd hc h)
theorem k_if_ltN (C : kC X D cI cG A E cc own nm d mc ms) {x : Int32} {off : Int} (tgt : Nat) (i : zI cc pc (.ifCond .lt off) 3 q) (ht : (pc : Int) + off = (tgt : Int)) (hc : ¬ (x < 0)) (kt : kG X D A k n q lv st ws) : kG X D A k n pc lv (.int x :: st) ws := by
  obtain ⟨p, l, e, R, s, m, args, below, meth, c, nL, Q⟩ := X
  obtain ⟨hx, hb, hml, hown, hts, hK, hnm, hA, hRf, hRc, hRs, hRl, hE⟩ := C
  obtain ⟨di, rfl⟩ := i
  intro H locs ls hP hD hS hL
  exact lv_if_lt hx hb di ht (fun h => absurd h hc) (fun _ => kt H locs ls hP hD hS hL)
theorem k_icmp_ltY (C : kC X D cI cG A E cc own nm d mc ms) {x y : Int32} {off : Int} (tgt : Nat) (i : zI cc pc (.if_icmp .lt off) 3 q) (ht : (pc : Int) + off = (tgt : Int)) (hc : x < y) (kt : kG X D A k n tgt lv st ws) : kG X D A k n pc lv (.int y :: .int x :: st) ws := by
  obtain ⟨p, l, e, R, s, m, args, below, meth, c, nL, Q⟩ := X
  obtain ⟨hx, hb, hml, hown, hts, hK, hnm, hA, hRf, hRc, hRs, hRl, hE⟩ := C
  obtain ⟨di, rfl⟩ := i
  intro H locs ls hP hD hS hL
  exact lv_icmp_lt hx hb di ht (fun _ => kt H locs ls hP hD hS hL) (fun h => absurd hc h)
theorem k_gets (C : kC X D cI cG A E cc own nm d mc ms) {idx : Nat} {Cn fn fd : String} {v : Value} (w : Cond.fieldLink own idx Cn fn fd ∈ zWd) (hZ : ∀ s, E s → va_Z Cn fn fd v A s s.heap) (i : zI cc pc (.getstatic idx) 3 q) (kt : kG X D A k n q lv (v :: st) ws) : kG X D A k n pc lv st ws := by
  obtain ⟨p, l, e, R, s, m, args, below, meth, c, nL, Q⟩ := X
  obtain ⟨hx, hb, hml, hown, hts, hK, hnm, hA, hRf, hRc, hRs, hRl, hE⟩ := C
  obtain ⟨di, rfl⟩ := i
  intro H locs ls hP hD hS hL
  exact va_gets hx hb (hZ s hE) hS hown (hts _ w) (fun _ h => h) di (kt H locs ls hP hD hS hL)
theorem k_getsq (C : kC X D cI cG A E cc own nm d mc ms) {idx : Nat} {Cn fn fd : String} (w : Cond.fieldLink own idx Cn fn fd ∈ zWd) (hZ : ∀ s, E s → va_Zq Cn fn fd A s s.heap) (i : zI cc pc (.getstatic idx) 3 q) (kt : ∀ v : Value, v.category = 1 → kG X D A k n q lv (v :: st) ws) : kG X D A k n pc lv st ws := by
  obtain ⟨p, l, e, R, s, m, args, below, meth, c, nL, Q⟩ := X
  obtain ⟨hx, hb, hml, hown, hts, hK, hnm, hA, hRf, hRc, hRs, hRl, hE⟩ := C
  obtain ⟨di, rfl⟩ := i
  intro H locs ls hP hD hS hL
  rcases hZ s hE with h | ⟨t, h⟩
  · exact va_gets hx hb h hS hown (hts _ w) (fun _ h => h) di (kt _ rfl H locs ls hP hD hS hL)
  · exact va_gets hx hb h hS hown (hts _ w) (fun _ h => h) di (kt _ rfl H locs ls hP hD hS hL)
theorem k_vget (C : kC X D cI cG A E cc own nm d mc ms) {idx r : Nat} {o fn fd : String} {v : Value} (w : Cond.fieldLink own idx o fn fd ∈ zWd) (hO : ∀ s, E s → va_OF o fn fd v r A s s.heap) (i : zI cc pc (.getfield idx) 3 q) (kt : kG X D A k n q lv (v :: st) ws) : kG X D A k n pc lv (.ref r :: st) ws := by
  obtain ⟨p, l, e, R, s, m, args, below, meth, c, nL, Q⟩ := X
  obtain ⟨hx, hb, hml, hown, hts, hK, hnm, hA, hRf, hRc, hRs, hRl, hE⟩ := C
  obtain ⟨di, rfl⟩ := i
  intro H locs ls hP hD hS hL
  exact vk_getf hx hb (hO s hE) hS hown (hts _ w) (fun _ h => h) di (kt H locs ls hP hD hS hL)
theorem k_tlen (C : kC X D cI cG A E cc own nm d mc ms) {t N : Nat} {f : Nat → Value} (v : Int32) (hT : ∀ s, E s → va_T .byte t N f A s s.heap) (i : zI cc pc .arraylength 1 q) (hv : Int32.ofNat N = v) (kt : kG X D A k n q lv (.int v :: st) ws) : kG X D A k n pc lv (.ref t :: st) ws := by
  obtain ⟨p, l, e, R, s, m, args, below, meth, c, nL, Q⟩ := X
  obtain ⟨hx, hb, hml, hown, hts, hK, hnm, hA, hRf, hRc, hRs, hRl, hE⟩ := C
  obtain ⟨di, rfl⟩ := i
  intro H locs ls hP hD hS hL
  exact va_tlen hx hb (hT s hE) hS hv di (kt H locs ls hP hD hS hL)
theorem k_tb (C : kC X D cI cG A E cc own nm d mc ms) {t N : Nat} {f : Nat → Value} {j : Int32} {v : Value} (hT : ∀ s, E s → va_T .byte t N f A s s.heap) (i : zI cc pc .baload 1 q) (hin : vp_in j N) (hv : f j.toNatClampNeg = v) (kt : kG X D A k n q lv (v :: st) ws) : kG X D A k n pc lv (.int j :: .ref t :: st) ws := by
  obtain ⟨p, l, e, R, s, m, args, below, meth, c, nL, Q⟩ := X
  obtain ⟨hx, hb, hml, hown, hts, hK, hnm, hA, hRf, hRc, hRs, hRl, hE⟩ := C
  obtain ⟨di, rfl⟩ := i
  intro H locs ls hP hD hS hL
  exact va_tb hx hb (hT s hE) hS hin hv di (kt H locs ls hP hD hS hL)
theorem k_ldcS (C : kC X D cI cG A E cc own nm d mc ms) {idx r : Nat} {tx : String} (hZ : ∀ s, E s → vk_R own idx tx r s) (i : zI cc pc (.ldc idx) 2 q) (kt : kG X D A k n q lv (.ref r :: st) ws) : kG X D A k n pc lv st ws := by
  obtain ⟨p, l, e, R, s, m, args, below, meth, c, nL, Q⟩ := X
  obtain ⟨hx, hb, hml, hown, hts, hK, hnm, hA, hRf, hRc, hRs, hRl, hE⟩ := C
  obtain ⟨di, rfl⟩ := i
  intro H locs ls hP hD hS hL
  exact va_ldcS hx hb hown (hZ s hE) di (kt H locs ls hP hD hS hL)
variable {y : MethodName} {bytes : ByteArray} {maxL d' nn idx b : Nat} {rt : Option FieldType} {E' : Nat → State → Prop} {As st0 : List Value} {rv : Option Value}
theorem k_callSS (C : kC X D cI cG A E cc own nm d mc ms) (w : zCs own idx y bytes maxL rt nn) (i : zI cc pc (.invokestatic idx) 3 q) (hM : sM y bytes maxL rt d' E' As rv) (hd : d' + 1 ≤ d) (hEE : sE A E E') (hn : As.length = nn) (hst : st0 = As.reverse ++ st) (hrm : (st.map fun v => v.category).sum ≤ 8) (hc : k ≤ mc) (hs : n ≤ ms) (kt : kG X D A k n q lv (rv.toList ++ st) ws) : kG X D A k n pc lv st0 ws := by
  obtain ⟨p, l, e, R, s, m, args, below, meth, c, nL, Q⟩ := X
  obtain ⟨hx, hb, hml, hown, hts, hK, hnm, hA, hRf, hRc, hRs, hRl, hE⟩ := C
  obtain ⟨di, rfl⟩ := i
  obtain ⟨⟨w1, w2, w3, w4, w5⟩, w6⟩ := w
  intro H locs ls hP hD hS hL
  have hFc : ∀ q, va_A [] H.size q → A q := fun q h => by
    rcases h with ⟨i, e, h⟩ | h
    · simp at h
    · exact hA q (Nat.le_trans hS.1 h)
  refine s_after (va_runS (Ts := zWd) (As := As) (rest := st) (n := nn) ⟨hx, hb, hml, hown, hts⟩ (hM l D cI cG H.size) ⟨callB_of nn hts (z_goodT w3) rfl rfl rfl (hts _ w2) (hts _ w1) w4 ⟨by show d' + 1 ≤ _; omega, by show 8 + (maxL + 11) + 35 * d' ≤ _; omega⟩, hts _ w6⟩ ⟨fun a U g mk z => ?_, fun U hU hW => ⟨rfl, by rw [hU], va_K.moved hW.alike hK, ?_⟩⟩ rfl hn hL.1 hst (lv_room hrm) di ⟨by omega, by omega⟩) hS hFc (fun H1 locs1 hk1 hS1 => ?_)
  · obtain ⟨z0, z1, z2, z3⟩ := z
    exact ⟨z0, z1, va_K.moved (u := U) (U := U.calling g mk a) (Vm.Alike.refl U.vm) z2, hEE.2 U (U.calling g mk a) _ rfl rfl z3⟩
  · subst hU
    exact hEE.1 s U locs hS hFc hW hE
  · exact kt H1 locs1 ls (hP.kept (fun j x hj => hk1 x.1 (hP j x hj).lt)) hD hS1 hL
theorem k_callVS (C : kC X D cI cG A E cc own nm d mc ms) (w : zCv own idx y bytes maxL rt nn) (hO : ∀ s, E s → va_O y.cls b A s s.heap) (i : zI cc pc (.invokevirtual idx) 3 q) (hM : sM y bytes maxL rt d' E' (.ref b :: As) rv) (hd : d' + 1 ≤ d) (hEE : sE A E E') (hn : As.length = nn) (hst : st0 = As.reverse ++ .ref b :: st) (hrm : (st.map fun v => v.category).sum ≤ 8) (hc : k ≤ mc) (hs : n ≤ ms) (kt : kG X D A k n q lv (rv.toList ++ st) ws) : kG X D A k n pc lv st0 ws := by
  obtain ⟨p, l, e, R, s, m, args, below, meth, c, nL, Q⟩ := X
  obtain ⟨hx, hb, hml, hown, hts, hK, hnm, hA, hRf, hRc, hRs, hRl, hE⟩ := C
  obtain ⟨di, rfl⟩ := i
  obtain ⟨⟨w1, w2, w3, w4, w5⟩, w6, w7⟩ := w
  intro H locs ls hP hD hS hL
  have hFc : ∀ q, va_A [] H.size q → A q := fun q h => by
    rcases h with ⟨i, e, h⟩ | h
    · simp at h
    · exact hA q (Nat.le_trans hS.1 h)
  have hcw : CallW R s args own y.cls idx y bytes maxL rt (Cond.code y bytes maxL rt :: zWd) (zR d') 0 0 nn := ⟨callB_of nn hts (z_goodT w3) rfl rfl rfl (hts _ w2) (hts _ w1) w4 ⟨by show d' + 1 ≤ _; omega, by show 8 + (maxL + 11) + 35 * d' ≤ _; omega⟩, hts _ w6, hts _ w7⟩
  obtain ⟨cell, o1, o2, o3, -⟩ := (hO s hE).kept hS.2.1
  refine s_after (va_runV (Ts := zWd) (As := As) (rest := st) ⟨hx, hb, hml, hown, hts⟩ (hM l D cI cG H.size) hcw ⟨fun a U g mk z => ?_, ⟨cell, o1, o2, o3⟩, fun U hU hW => ⟨rfl, by rw [hU], va_K.moved hW.alike hK, ?_⟩⟩ rfl hn hL.1 hst (lv_room hrm) di ⟨by omega, by omega⟩) hS hFc (fun H1 locs1 hk1 hS1 => ?_)
  · obtain ⟨z0, z1, z2, z3⟩ := z
    exact ⟨z0, z1, va_K.moved (u := U) (U := U.calling g mk a) (Vm.Alike.refl U.vm) z2, hEE.2 U (U.calling g mk a) _ rfl rfl z3⟩
  · subst hU
    exact hEE.1 s U locs hS hFc hW hE
  · exact kt H1 locs1 ls (hP.kept (fun j x hj => hk1 x.1 (hP j x hj).lt)) hD hS1 hL
end ZS
/-- the text: its String and the bytes -/
def sP (k0 v0 : Nat) (A : Nat → Prop) (U : State) (H : Heap) : Prop := va_O "java/lang/String" k0 A U H ∧ va_OF "java/lang/String" "coder" "B" (.int 0) k0 A U H ∧ va_OF "java/lang/String" "value" "[B" (.ref v0) k0 A U H ∧ va_T .byte v0 89 (fun j => .int (txt0.getD j 0)) A U H ∧ va_Z "java/lang/String" "COMPACT_STRINGS" "Z" (.int 1) A U H ∧ va_Zq "jdk/internal/util/Preconditions" "SIOOBE_FORMATTER" "Ljava/util/function/BiFunction;" A U H
theorem sP.go {k0 v0 : Nat} {A B : Nat → Prop} {u U : State} {H H1 : Heap} (hvm : u.vm.Alike U.vm) (hq : ∀ a : Nat, a < H.size → ¬ A a → H1[a]? = H[a]?) (hAB : ∀ q, B q → A q) (h : sP k0 v0 A u H) : sP k0 v0 B U H1 := by
  obtain ⟨h1, h2, h3, h4, h5, h6⟩ := h
  exact ⟨((h1.kept hq).narrow hAB).moved hvm, ((h2.kept hq).narrow hAB).moved hvm, ((h3.kept hq).narrow hAB).moved hvm, ((h4.kept hq).narrow hAB).moved hvm, ((h5.kept hq).narrow hAB).moved hvm, ((h6.kept hq).narrow hAB).moved hvm⟩
def sPe (k0 v0 : Nat) (sz : Nat) (U : State) : Prop := sP k0 v0 (va_A [] sz) U U.heap
theorem sPe_E {k0 v0 : Nat} {A : Nat → Prop} {E : State → Prop} (h : ∀ s, E s → sP k0 v0 A s s.heap) : sE A E (sPe k0 v0) := ⟨fun s U locs hS hF hW hE => (h s hE).go hW.alike hS.2.1 hF, fun u U sz hv hh hp => by
  show sP k0 v0 _ U U.heap
  rw [← hh]
  exact hp.go (by rw [hv]; exact Vm.Alike.refl _) (fun _ _ _ => rfl) (fun _ h => h)⟩
theorem iJ3_checkIndex_8e157_0 : zI cJ3_checkIndex_8e157 0 (.iload_n 0) 1 1 := ⟨by decide +kernel, rfl⟩
theorem iJ3_checkIndex_8e157_1 : zI cJ3_checkIndex_8e157 1 (.ifCond .lt 8) 3 4 := ⟨by decide +kernel, rfl⟩
theorem iJ3_checkIndex_8e157_4 : zI cJ3_checkIndex_8e157 4 (.iload_n 0) 1 5 := ⟨by decide +kernel, rfl⟩
theorem iJ3_checkIndex_8e157_5 : zI cJ3_checkIndex_8e157 5 (.iload_n 1) 1 6 := ⟨by decide +kernel, rfl⟩
theorem iJ3_checkIndex_8e157_6 : zI cJ3_checkIndex_8e157 6 (.if_icmp .lt 10) 3 9 := ⟨by decide +kernel, rfl⟩
theorem iJ3_checkIndex_8e157_16 : zI cJ3_checkIndex_8e157 16 (.iload_n 0) 1 17 := ⟨by decide +kernel, rfl⟩
theorem iJ3_checkIndex_8e157_17 : zI cJ3_checkIndex_8e157 17 (.ireturn) 1 18 := ⟨by decide +kernel, rfl⟩
theorem iJ0_checkIndex_df160_0 : zI cJ0_checkIndex_df160 0 (.iload_n 0) 1 1 := ⟨by decide +kernel, rfl⟩
theorem iJ0_checkIndex_df160_1 : zI cJ0_checkIndex_df160 1 (.iload_n 1) 1 2 := ⟨by decide +kernel, rfl⟩
theorem iJ0_checkIndex_df160_2 : zI cJ0_checkIndex_df160 2 (.getstatic 1053) 3 5 := ⟨by decide +kernel, rfl⟩
theorem iJ0_checkIndex_df160_5 : zI cJ0_checkIndex_df160 5 (.invokestatic 1059) 3 8 := ⟨by decide +kernel, rfl⟩
theorem iJ0_checkIndex_df160_8 : zI cJ0_checkIndex_df160 8 (.pop) 1 9 := ⟨by decide +kernel, rfl⟩
theorem iJ0_checkIndex_df160_9 : zI cJ0_checkIndex_df160 9 (.return_) 1 10 := ⟨by decide +kernel, rfl⟩
theorem iJ1_charAt_3b067_0 : zI cJ1_charAt_3b067 0 (.iload_n 1) 1 1 := ⟨by decide +kernel, rfl⟩
theorem iJ1_charAt_3b067_1 : zI cJ1_charAt_3b067 1 (.aload_n 0) 1 2 := ⟨by decide +kernel, rfl⟩
theorem iJ1_charAt_3b067_2 : zI cJ1_charAt_3b067 2 (.arraylength) 1 3 := ⟨by decide +kernel, rfl⟩
theorem iJ1_charAt_3b067_3 : zI cJ1_charAt_3b067 3 (.invokestatic 9) 3 6 := ⟨by decide +kernel, rfl⟩
theorem iJ1_charAt_3b067_6 : zI cJ1_charAt_3b067 6 (.aload_n 0) 1 7 := ⟨by decide +kernel, rfl⟩
theorem iJ1_charAt_3b067_7 : zI cJ1_charAt_3b067 7 (.iload_n 1) 1 8 := ⟨by decide +kernel, rfl⟩
theorem iJ1_charAt_3b067_8 : zI cJ1_charAt_3b067 8 (.baload) 1 9 := ⟨by decide +kernel, rfl⟩
theorem iJ1_charAt_3b067_9 : zI cJ1_charAt_3b067 9 (.sipush 255) 3 12 := ⟨by decide +kernel, rfl⟩
theorem iJ1_charAt_3b067_12 : zI cJ1_charAt_3b067 12 (.iand) 1 13 := ⟨by decide +kernel, rfl⟩
theorem iJ1_charAt_3b067_13 : zI cJ1_charAt_3b067 13 (.i2c) 1 14 := ⟨by decide +kernel, rfl⟩
theorem iJ1_charAt_3b067_14 : zI cJ1_charAt_3b067 14 (.ireturn) 1 15 := ⟨by decide +kernel, rfl⟩
theorem iJ0_charAt_5068e_0 : zI cJ0_charAt_5068e 0 (.aload_n 0) 1 1 := ⟨by decide +kernel, rfl⟩
theorem iJ0_charAt_5068e_1 : zI cJ0_charAt_5068e 1 (.invokevirtual 492) 3 4 := ⟨by decide +kernel, rfl⟩
theorem iJ0_charAt_5068e_4 : zI cJ0_charAt_5068e 4 (.ifCond .eq 12) 3 7 := ⟨by decide +kernel, rfl⟩
theorem iJ0_charAt_5068e_7 : zI cJ0_charAt_5068e 7 (.aload_n 0) 1 8 := ⟨by decide +kernel, rfl⟩
theorem iJ0_charAt_5068e_8 : zI cJ0_charAt_5068e 8 (.getfield 9) 3 11 := ⟨by decide +kernel, rfl⟩
theorem iJ0_charAt_5068e_11 : zI cJ0_charAt_5068e 11 (.iload_n 1) 1 12 := ⟨by decide +kernel, rfl⟩
theorem iJ0_charAt_5068e_12 : zI cJ0_charAt_5068e 12 (.invokestatic 495) 3 15 := ⟨by decide +kernel, rfl⟩
theorem iJ0_charAt_5068e_15 : zI cJ0_charAt_5068e 15 (.ireturn) 1 16 := ⟨by decide +kernel, rfl⟩
theorem iJ0_coder_7d493_0 : zI cJ0_coder_7d493 0 (.getstatic 38) 3 3 := ⟨by decide +kernel, rfl⟩
theorem iJ0_coder_7d493_3 : zI cJ0_coder_7d493 3 (.ifCond .eq 10) 3 6 := ⟨by decide +kernel, rfl⟩
theorem iJ0_coder_7d493_6 : zI cJ0_coder_7d493 6 (.aload_n 0) 1 7 := ⟨by decide +kernel, rfl⟩
theorem iJ0_coder_7d493_7 : zI cJ0_coder_7d493 7 (.getfield 15) 3 10 := ⟨by decide +kernel, rfl⟩
theorem iJ0_coder_7d493_10 : zI cJ0_coder_7d493 10 (.goto 4) 3 13 := ⟨by decide +kernel, rfl⟩
theorem iJ0_coder_7d493_14 : zI cJ0_coder_7d493 14 (.ireturn) 1 15 := ⟨by decide +kernel, rfl⟩
theorem iJ0_isLatin1_aae02_0 : zI cJ0_isLatin1_aae02 0 (.getstatic 38) 3 3 := ⟨by decide +kernel, rfl⟩
theorem iJ0_isLatin1_aae02_3 : zI cJ0_isLatin1_aae02 3 (.ifCond .eq 14) 3 6 := ⟨by decide +kernel, rfl⟩
theorem iJ0_isLatin1_aae02_6 : zI cJ0_isLatin1_aae02 6 (.aload_n 0) 1 7 := ⟨by decide +kernel, rfl⟩
theorem iJ0_isLatin1_aae02_7 : zI cJ0_isLatin1_aae02 7 (.getfield 15) 3 10 := ⟨by decide +kernel, rfl⟩
theorem iJ0_isLatin1_aae02_10 : zI cJ0_isLatin1_aae02 10 (.ifCond .ne 7) 3 13 := ⟨by decide +kernel, rfl⟩
theorem iJ0_isLatin1_aae02_13 : zI cJ0_isLatin1_aae02 13 (.iconst 1) 1 14 := ⟨by decide +kernel, rfl⟩
theorem iJ0_isLatin1_aae02_14 : zI cJ0_isLatin1_aae02 14 (.goto 4) 3 17 := ⟨by decide +kernel, rfl⟩
theorem iJ0_isLatin1_aae02_18 : zI cJ0_isLatin1_aae02 18 (.ireturn) 1 19 := ⟨by decide +kernel, rfl⟩
theorem iJ0_length_8abf5_0 : zI cJ0_length_8abf5 0 (.aload_n 0) 1 1 := ⟨by decide +kernel, rfl⟩
theorem iJ0_length_8abf5_1 : zI cJ0_length_8abf5 1 (.getfield 9) 3 4 := ⟨by decide +kernel, rfl⟩
theorem iJ0_length_8abf5_4 : zI cJ0_length_8abf5 4 (.arraylength) 1 5 := ⟨by decide +kernel, rfl⟩
theorem iJ0_length_8abf5_5 : zI cJ0_length_8abf5 5 (.aload_n 0) 1 6 := ⟨by decide +kernel, rfl⟩
theorem iJ0_length_8abf5_6 : zI cJ0_length_8abf5 6 (.invokevirtual 335) 3 9 := ⟨by decide +kernel, rfl⟩
theorem iJ0_length_8abf5_9 : zI cJ0_length_8abf5 9 (.ishr) 1 10 := ⟨by decide +kernel, rfl⟩
theorem iJ0_length_8abf5_10 : zI cJ0_length_8abf5 10 (.ireturn) 1 11 := ⟨by decide +kernel, rfl⟩
set_option maxRecDepth 100000 in
theorem wJ0_1059 : zCs RJ0 1059 yJ3_checkIndex_8e157 cJ3_checkIndex_8e157 3 (some .int) 3 := ⟨⟨(zmem 330 (by decide +kernel) (by decide +kernel)), (zmem 72 (by decide +kernel) (by decide +kernel)), (zmem 332 rfl rfl), ⟨by decide, by decide, by decide +kernel⟩, by decide⟩, (zmem 331 (by decide +kernel) (by decide +kernel))⟩
set_option maxRecDepth 100000 in
theorem wJ1_9 : zCs RJ1 9 yJ0_checkIndex_df160 cJ0_checkIndex_df160 2 none 2 := ⟨⟨(zmem 325 (by decide +kernel) (by decide +kernel)), (zmem 70 (by decide +kernel) (by decide +kernel)), (zmem 327 rfl rfl), ⟨by decide, by decide, by decide +kernel⟩, by decide⟩, (zmem 326 (by decide +kernel) (by decide +kernel))⟩
set_option maxRecDepth 100000 in
theorem wJ0_495 : zCs RJ0 495 yJ1_charAt_3b067 cJ1_charAt_3b067 2 (some .char) 2 := ⟨⟨(zmem 322 (by decide +kernel) (by decide +kernel)), (zmem 71 (by decide +kernel) (by decide +kernel)), (zmem 324 rfl rfl), ⟨by decide, by decide, by decide +kernel⟩, by decide⟩, (zmem 323 (by decide +kernel) (by decide +kernel))⟩
set_option maxRecDepth 100000 in
theorem wJ0_335 : zCv RJ0 335 yJ0_coder_7d493 cJ0_coder_7d493 1 (some .byte) 0 := ⟨⟨(zmem 308 (by decide +kernel) (by decide +kernel)), (zmem 70 (by decide +kernel) (by decide +kernel)), (zmem 311 rfl rfl), ⟨by decide, by decide, by decide +kernel⟩, by decide⟩, (zmem 309 (by decide +kernel) (by decide +kernel)), (zmem 310 (by decide +kernel) (by decide +kernel))⟩
set_option maxRecDepth 100000 in
theorem wJ0_492 : zCv RJ0 492 yJ0_isLatin1_aae02 cJ0_isLatin1_aae02 1 (some .boolean) 0 := ⟨⟨(zmem 318 (by decide +kernel) (by decide +kernel)), (zmem 70 (by decide +kernel) (by decide +kernel)), (zmem 321 rfl rfl), ⟨by decide, by decide, by decide +kernel⟩, by decide⟩, (zmem 319 (by decide +kernel) (by decide +kernel)), (zmem 320 (by decide +kernel) (by decide +kernel))⟩
set_option maxRecDepth 100000 in
theorem wX6_66 : zCv RX6 66 yJ0_length_8abf5 cJ0_length_8abf5 1 (some .int) 0 := ⟨⟨(zmem 304 (by decide +kernel) (by decide +kernel)), (zmem 70 (by decide +kernel) (by decide +kernel)), (zmem 307 rfl rfl), ⟨by decide, by decide, by decide +kernel⟩, by decide⟩, (zmem 305 (by decide +kernel) (by decide +kernel)), (zmem 306 (by decide +kernel) (by decide +kernel))⟩
set_option maxRecDepth 100000 in
theorem wX6_72 : zCv RX6 72 yJ0_charAt_5068e cJ0_charAt_5068e 2 (some .char) 1 := ⟨⟨(zmem 314 (by decide +kernel) (by decide +kernel)), (zmem 70 (by decide +kernel) (by decide +kernel)), (zmem 317 rfl rfl), ⟨by decide, by decide, by decide +kernel⟩, by decide⟩, (zmem 315 (by decide +kernel) (by decide +kernel)), (zmem 316 (by decide +kernel) (by decide +kernel))⟩
theorem fJ0_9 : Cond.fieldLink RJ0 9 "java/lang/String" "value" "[B" ∈ zWd := (zmem 1080 (by decide +kernel) (by decide +kernel))
theorem fJ0_15 : Cond.fieldLink RJ0 15 "java/lang/String" "coder" "B" ∈ zWd := (zmem 1081 (by decide +kernel) (by decide +kernel))
theorem fJ0_38 : Cond.fieldLink RJ0 38 "java/lang/String" "COMPACT_STRINGS" "Z" ∈ zWd := (zmem 312 (by decide +kernel) (by decide +kernel))
theorem fJ0_1053 : Cond.fieldLink RJ0 1053 "jdk/internal/util/Preconditions" "SIOOBE_FORMATTER" "Ljava/util/function/BiFunction;" ∈ zWd := (zmem 328 (by decide +kernel) (by decide +kernel))
set_option maxHeartbeats 4000000 in
set_option maxRecDepth 100000 in
theorem s_prec {i n : Int32} {v : Value} (hv : v.category = 1) (h0 : ¬ i < 0) (h1 : i < n) : sM yJ3_checkIndex_8e157 cJ3_checkIndex_8e157 3 (some .int) 0 (fun _ _ => True) [.int i, .int n, v] (some (.int i)) := by
  refine sM.of (by decide) (by show (true && (true && (v.category == 1 && true))) = true; rw [hv]; rfl) (Nat.le_of_ble_eq_true rfl) (fun X D cI cG A sz hA hnL C hr hv => ?_)
  refine k_sub (lv' := [some (.int i), some (.int n), none]) ⟨rfl, rfl, trivial⟩ ?_
  refine k_iload_n C iJ3_checkIndex_8e157_0 rfl ?_
  refine k_if_ltN C 9 iJ3_checkIndex_8e157_1 (by decide) h0 ?_
  refine k_iload_n C iJ3_checkIndex_8e157_4 rfl ?_
  refine k_iload_n C iJ3_checkIndex_8e157_5 rfl ?_
  refine k_icmp_ltY C 16 iJ3_checkIndex_8e157_6 (by decide) h1 ?_
  refine k_iload_n C iJ3_checkIndex_8e157_16 rfl ?_
  exact hr _ _ _ _ _ iJ3_checkIndex_8e157_17 rfl rfl rfl
set_option maxHeartbeats 4000000 in
set_option maxRecDepth 100000 in
theorem s_check {i n : Int32} {k0 v0 : Nat} (h0 : ¬ i < 0) (h1 : i < n) : sM yJ0_checkIndex_df160 cJ0_checkIndex_df160 2 none 1 (sPe k0 v0) [.int i, .int n] none := by
  refine sM.of (by decide) rfl (Nat.le_of_ble_eq_true rfl) (fun X D cI cG A sz hA hnL C hr hv => ?_)
  subst hA
  refine k_sub (lv' := [some (.int i), some (.int n)]) ⟨rfl, rfl, trivial⟩ ?_
  refine k_iload_n C iJ0_checkIndex_df160_0 rfl ?_
  refine k_iload_n C iJ0_checkIndex_df160_1 rfl ?_
  refine k_getsq C fJ0_1053 (fun s h => h.2.2.2.2.2) iJ0_checkIndex_df160_2 (fun v hv1 => ?_)
  refine k_callSS C wJ0_1059 iJ0_checkIndex_df160_5 (s_prec hv1 h0 h1) (by decide) sE_T rfl rfl (Nat.le_of_ble_eq_true rfl) (by decide) (by decide) ?_
  refine k_pop C iJ0_checkIndex_df160_8 rfl ?_
  exact hv _ _ _ iJ0_checkIndex_df160_9 rfl rfl
set_option maxHeartbeats 4000000 in
set_option maxRecDepth 100000 in
theorem s_latin {j : Nat} {k0 v0 : Nat} (hj : j < 89) : sM yJ1_charAt_3b067 cJ1_charAt_3b067 2 (some .char) 2 (sPe k0 v0) [.ref v0, .int (nI j)] (some (.int (txt0.getD j 0))) := by
  refine sM.of (by decide) rfl (Nat.le_of_ble_eq_true rfl) (fun X D cI cG A sz hA hnL C hr hv => ?_)
  subst hA
  have hb : ∀ j, j < 89 → (txt0.getD j 0 &&& 255 = txt0.getD j 0 ∧ ((txt0.getD j 0).toUInt32 % 65536).toInt32 = txt0.getD j 0 ∧ narrow .char (.int (txt0.getD j 0)) = .int (txt0.getD j 0)) := by decide +kernel
  obtain ⟨b1, b2, b3⟩ := hb j hj
  refine k_sub (lv' := [some (.ref v0), some (.int (nI j))]) ⟨rfl, rfl, trivial⟩ ?_
  refine k_iload_n C iJ1_charAt_3b067_0 rfl ?_
  refine k_aload_n C iJ1_charAt_3b067_1 rfl ?_
  refine k_tlen C (nI 89) (fun s h => h.2.2.2.1) iJ1_charAt_3b067_2 rfl ?_
  refine k_callSS C wJ1_9 iJ1_charAt_3b067_3 (s_check (k0 := k0) (v0 := v0) (nI_pos (by omega)) (nI_lt hj (by omega))) (by decide) (sPe_E (fun s h => h)) rfl rfl (Nat.le_of_ble_eq_true rfl) (by decide) (by decide) ?_
  refine k_aload_n C iJ1_charAt_3b067_6 rfl ?_
  refine k_iload_n C iJ1_charAt_3b067_7 rfl ?_
  refine k_tb C (v := .int (txt0.getD j 0)) (fun s h => h.2.2.2.1) iJ1_charAt_3b067_8 (vp_in_nI hj (by omega)) (by rw [nI_clamp (by omega)]) ?_
  refine k_sipush C 255 iJ1_charAt_3b067_9 (by decide) ?_
  refine k_iand C iJ1_charAt_3b067_12 ?_
  refine k_i2c C (txt0.getD j 0) iJ1_charAt_3b067_13 (by rw [b1]; exact b2) ?_
  exact hr _ _ _ _ _ iJ1_charAt_3b067_14 rfl b3 rfl
set_option maxHeartbeats 4000000 in
set_option maxRecDepth 100000 in
theorem s_isLatin (k0 v0 : Nat) : sM yJ0_isLatin1_aae02 cJ0_isLatin1_aae02 1 (some .boolean) 0 (sPe k0 v0) [.ref k0] (some (.int 1)) := by
  refine sM.of (by decide) rfl (Nat.le_of_ble_eq_true rfl) (fun X D cI cG A sz hA hnL C hr hv => ?_)
  subst hA
  refine k_sub (lv' := [some (.ref k0)]) ⟨rfl, trivial⟩ ?_
  refine k_gets C fJ0_38 (fun s h => h.2.2.2.2.1) iJ0_isLatin1_aae02_0 ?_
  refine k_if_eqN C 17 iJ0_isLatin1_aae02_3 (by decide) (by decide) ?_
  refine k_aload_n C iJ0_isLatin1_aae02_6 rfl ?_
  refine k_vget C fJ0_15 (fun s h => h.2.1) iJ0_isLatin1_aae02_7 ?_
  refine k_if_neN C 17 iJ0_isLatin1_aae02_10 (by decide) (by decide) ?_
  refine k_iconst C 1 iJ0_isLatin1_aae02_13 (by decide) ?_
  refine k_goto C 18 iJ0_isLatin1_aae02_14 (by decide) ?_
  exact hr _ _ _ _ _ iJ0_isLatin1_aae02_18 rfl rfl rfl
set_option maxHeartbeats 4000000 in
set_option maxRecDepth 100000 in
theorem s_coder (k0 v0 : Nat) : sM yJ0_coder_7d493 cJ0_coder_7d493 1 (some .byte) 0 (sPe k0 v0) [.ref k0] (some (.int 0)) := by
  refine sM.of (by decide) rfl (Nat.le_of_ble_eq_true rfl) (fun X D cI cG A sz hA hnL C hr hv => ?_)
  subst hA
  refine k_sub (lv' := [some (.ref k0)]) ⟨rfl, trivial⟩ ?_
  refine k_gets C fJ0_38 (fun s h => h.2.2.2.2.1) iJ0_coder_7d493_0 ?_
  refine k_if_eqN C 13 iJ0_coder_7d493_3 (by decide) (by decide) ?_
  refine k_aload_n C iJ0_coder_7d493_6 rfl ?_
  refine k_vget C fJ0_15 (fun s h => h.2.1) iJ0_coder_7d493_7 ?_
  refine k_goto C 14 iJ0_coder_7d493_10 (by decide) ?_
  exact hr _ _ _ _ _ iJ0_coder_7d493_14 rfl rfl rfl
set_option maxHeartbeats 4000000 in
set_option maxRecDepth 100000 in
theorem s_length (k0 v0 : Nat) : sM yJ0_length_8abf5 cJ0_length_8abf5 1 (some .int) 1 (sPe k0 v0) [.ref k0] (some (.int 89)) := by
  refine sM.of (by decide) rfl (Nat.le_of_ble_eq_true rfl) (fun X D cI cG A sz hA hnL C hr hv => ?_)
  subst hA
  refine k_sub (lv' := [some (.ref k0)]) ⟨rfl, trivial⟩ ?_
  refine k_aload_n C iJ0_length_8abf5_0 rfl ?_
  refine k_vget C fJ0_9 (fun s h => h.2.2.1) iJ0_length_8abf5_1 ?_
  refine k_tlen C 89 (fun s h => h.2.2.2.1) iJ0_length_8abf5_4 rfl ?_
  refine k_aload_n C iJ0_length_8abf5_5 rfl ?_
  refine k_callVS C wJ0_335 (fun s h => h.1) iJ0_length_8abf5_6 (s_coder k0 v0) (by decide) (sPe_E (fun s h => h)) rfl rfl (Nat.le_of_ble_eq_true rfl) (by decide) (by decide) ?_
  refine k_ishr C iJ0_length_8abf5_9 ?_
  exact hr _ _ _ _ _ iJ0_length_8abf5_10 rfl rfl (by decide)
set_option maxHeartbeats 4000000 in
set_option maxRecDepth 100000 in
theorem s_charAt {j : Nat} (k0 v0 : Nat) (hj : j < 89) : sM yJ0_charAt_5068e cJ0_charAt_5068e 2 (some .char) 3 (sPe k0 v0) [.ref k0, .int (nI j)] (some (.int (txt0.getD j 0))) := by
  refine sM.of (by decide) rfl (Nat.le_of_ble_eq_true rfl) (fun X D cI cG A sz hA hnL C hr hv => ?_)
  subst hA
  have hb : ∀ j, j < 89 → narrow .char (.int (txt0.getD j 0)) = .int (txt0.getD j 0) := by decide +kernel
  refine k_sub (lv' := [some (.ref k0), some (.int (nI j))]) ⟨rfl, rfl, trivial⟩ ?_
  refine k_aload_n C iJ0_charAt_5068e_0 rfl ?_
  refine k_callVS C wJ0_492 (fun s h => h.1) iJ0_charAt_5068e_1 (s_isLatin k0 v0) (by decide) (sPe_E (fun s h => h)) rfl rfl (Nat.le_of_ble_eq_true rfl) (by decide) (by decide) ?_
  refine k_if_eqN C 16 iJ0_charAt_5068e_4 (by decide) (by decide) ?_
  refine k_aload_n C iJ0_charAt_5068e_7 rfl ?_
  refine k_vget C fJ0_9 (fun s h => h.2.2.1) iJ0_charAt_5068e_8 ?_
  refine k_iload_n C iJ0_charAt_5068e_11 rfl ?_
  refine k_callSS C wJ0_495 iJ0_charAt_5068e_12 (s_latin (k0 := k0) (v0 := v0) hj) (by decide) (sPe_E (fun s h => h)) rfl rfl (Nat.le_of_ble_eq_true rfl) (by decide) (by decide) ?_
  exact hr _ _ _ _ _ iJ0_charAt_5068e_15 rfl (hb j hj) rfl
