/-- what a method's caller must hold, and the contract of a method: its function's value -/
def zPc (D : va_G) (cI cG : ClassId) (ad : Nat → Nat) (sh : List zK) (h : zH) (U : State) : Prop := va_P D vwCl (zW cI cG ad sh h) U.heap ∧ va_K D vwCl (zTy cI cG) U ∧ zNw U
def zM {ρ : Type} (y : MethodName) (bytes : ByteArray) (maxL : Nat) (ret : Option FieldType) (d : Nat) (sh : List zK) (av : (Nat → Nat) → List Value) (h : zH) (emb : ρ → Option Value × zH) (o : Option ρ) : Prop :=
  ∀ x, o = some x → ∀ (l : Launch) (D : va_G) (cI cG : ClassId) (ad : Nat → Nat), zJ ad sh → Met l y (Cond.code y bytes maxL ret :: zWd) (zR d) (va_Pc (av ad) (zPc D cI cG ad sh h)) (zQ D cI cG ad sh (emb x)) 0 0 (zA ad sh)
def zlv0 (vs : List Value) (n : Nat) : List (Option Value) := vs.map some ++ List.replicate (n - vs.length) none
theorem lg_sl1 : ∀ (vs : List Value), (∀ v ∈ vs, v.category = 1) → lg_sl vs = vs.map Slot.val
  | [], _ => rfl
  | v :: vs, h => by
    have h1 : v.category = 1 := h v List.mem_cons_self
    have ih := lg_sl1 vs (fun w hw => h w (List.mem_cons_of_mem _ hw))
    show (v :: vs).flatMap _ = _
    rw [List.flatMap_cons, if_neg (by omega)]
    show Slot.val v :: lg_sl vs = _
    rw [ih, List.map_cons]
theorem zL_entry {vs : List Value} {n : Nat} (hc : ∀ v ∈ vs, v.category = 1) (hn : vs.length ≤ n) : zL ((lg_sl vs ++ List.replicate (n - (lg_sl vs).length) Slot.unset).toArray) n (zlv0 vs n) := by
  have e := lg_sl1 vs hc
  have hl : (lg_sl vs).length = vs.length := by rw [e, List.length_map]
  have h0 := lv_entry vs (n := n) (by rw [hl]; exact hn)
  refine ⟨h0.1, h0.2.1, fun k v hk => ?_⟩
  by_cases hk2 : k < vs.length
  · rw [zlv0, List.getElem?_append_left (by simpa using hk2), List.getElem?_map, List.getElem?_eq_getElem hk2] at hk
    simp only [Option.map_some, Option.some.injEq] at hk
    refine ⟨?_, by rw [← hk]; exact hc _ (List.getElem_mem hk2)⟩
    rw [List.getElem?_toArray, e, List.getElem?_append_left (by simpa using hk2), List.getElem?_map, List.getElem?_eq_getElem hk2, ← hk]
    rfl
  · rw [zlv0, List.getElem?_append_right (by simpa using hk2), List.getElem?_replicate] at hk
    split at hk
    · simp at hk
    · cases hk
theorem zM.of {ρ : Type} {y : MethodName} {bytes : ByteArray} {maxL : Nat} {ret : Option FieldType} {d : Nat} {sh : List zK} {av : (Nat → Nat) → List Value} {h : zH} {emb : ρ → Option Value × zH} {o : Option ρ} (hy : plainName y.cls = true) (hc : ∀ ad, (av ad).all (fun v => v.category == 1) = true) (hn : ∀ ad, (av ad).length ≤ maxL)
    (k : ∀ (X : zX) (ad : Nat → Nat), maxL = X.2.2.2.2.2.2.2.2.2.2.1 → zC X ad sh bytes y.cls ret d → zG X ad sh emb 0 (zlv0 (av ad) maxL) [] h o) : zM y bytes maxL ret d sh av h emb o := by
  intro x hx l D cI cG ad hj
  refine Met.ofW (cc := bytes) (maxL := maxL) (ret := ret) hy rfl ?_
  intro p e s m args below meth c s₁ B hml hv
  obtain ⟨rfl, hP, hK, hN⟩ := hv
  have hts := atoms_spec (ws := Cond.code y bytes maxL ret :: zWd) B.pre
  have kk := k (p, l, e, zR d, s, m, (av ad).toArray, below, meth, c, maxL, D, cI, cG) ad rfl ⟨B.exec, B.bytes, hml, findClass_of_methodNamed B.named, fun w hw => hts w (List.mem_cons_of_mem _ hw), hK, hN, B.notSynchronized, B.returns, hj, rfl⟩
  rw [lg_entry_eq]
  exact kk x hx s.heap [] _ hP va_S.rf (zL_entry (fun v hv => by simpa using List.all_eq_true.mp (hc ad) v hv) (hn ad))
/-- the words of a call -/
def zCk (own : String) (idx : Nat) (y : MethodName) (bytes : ByteArray) (maxL : Nat) (ret : Option FieldType) (n : Nat) : Prop := Cond.methodLink own idx y ∈ zWd ∧ Cond.initialized y.cls ∈ zWd ∧ Cond.code y bytes maxL ret ∈ zWd ∧ (y.cls ≠ "java/lang/invoke/MethodHandle" ∧ y.cls ≠ "java/lang/invoke/VarHandle" ∧ (parseMethodDescriptor y.desc).map (fun d => d.parameters.length) = some n) ∧ maxL ≤ 16
def zCv (own : String) (idx : Nat) (y : MethodName) (bytes : ByteArray) (maxL : Nat) (ret : Option FieldType) (n : Nat) : Prop := zCk own idx y bytes maxL ret n ∧ Cond.instanceMethod y ∈ zWd ∧ Cond.selects y.cls y y ∈ zWd
def zCs (own : String) (idx : Nat) (y : MethodName) (bytes : ByteArray) (maxL : Nat) (ret : Option FieldType) (n : Nat) : Prop := zCk own idx y bytes maxL ret n ∧ Cond.static y ∈ zWd
def zCn (own : String) (idx : Nat) (y : MethodName) (bytes : ByteArray) (maxL : Nat) (ret : Option FieldType) (n : Nat) : Prop := (own, idx, y) ∈ zNs ∧ Cond.initialized y.cls ∈ zWd ∧ Cond.code y bytes maxL ret ∈ zWd ∧ (y.cls ≠ "java/lang/invoke/MethodHandle" ∧ y.cls ≠ "java/lang/invoke/VarHandle" ∧ (parseMethodDescriptor y.desc).map (fun d => d.parameters.length) = some n) ∧ maxL ≤ 16 ∧ Cond.static y ∈ zWd
theorem z_goodT {b : Cond} (hb : b ∈ zWd) : GoodIn zWd (b :: zWd) := by
  have k : ∀ w ∈ zWd, (w.onTables && w.keeps) = true ∨ ∃ ty, w = .arrayClass ty := fun w h => good_of_word (List.mem_filter.mp h).2
  intro w hw
  rcases List.mem_cons.mp hw with h | h
  · subst h; exact ⟨hb, k _ hb⟩
  · exact ⟨h, k _ h⟩
theorem zPc_blind {D : va_G} {cI cG : ClassId} {ad : Nat → Nat} {sh : List zK} {h : zH} {as : List Value} : FrameBlind (va_Pc as (zPc D cI cG ad sh h)) := fun a U g mk q => by
  obtain ⟨q0, qP, qK, qN⟩ := q
  exact ⟨q0, qP, va_K.moved (u := U) (U := U.calling g mk a) (Vm.Alike.refl U.vm) qK, qN.same rfl⟩
section ZC
variable {p : Program} {l : Launch} {e : Env} {R : Room} {s : State} {m : MethodId} {args : Array Value} {below : List Frame} {meth : Method} {c : Code} {H : Heap} {locs : List Loc} {Q : State → Prop}
/-- behind a call -/
theorem z_after {D : va_G} {cI cG : ClassId} {ad : Nat → Nat} {sh : List zK} {y : Option Value × zH} {pc : Nat} {ls : Array Slot} {st0 rest : List Value} {a : Array Value} {H0 : Heap} (hr : va_Run p l e R s m args below meth c H locs 0 0 0 0 (F0 m pc ls st0) rest (zQ D cI cG ad sh y a) (zA ad sh)) (hS : va_S (zA ad sh) H0 H locs)
    (kk : ∀ (H1 : Heap) (locs1 : List Loc), va_P D vwCl (zW cI cG ad sh y.2) H1 → va_S (zA ad sh) H0 H1 locs1 → W p l e R s m args below meth c H1 locs1 0 0 Q (F0 m (pc + 3) ls (y.1.toList ++ rest))) : W p l e R s m args below meth c H locs 0 0 Q (F0 m pc ls st0) := by
  intro T hT X
  obtain ⟨v, st₀, t, T', L, h0, X', hL, e1, e2, ⟨hv, hp, hz, hk⟩, st⟩ := hr T hT X
  cases hv
  rw [h0] at hz hk
  obtain ⟨t2, a1, b1⟩ := kk T'.heap (locs ++ L) (by rw [e1]; exact hp)
    ⟨Nat.le_trans hS.1 (by rw [e1]; exact hz), fun q h1 h2 => by rw [e1, hk q (Nat.lt_of_lt_of_le h1 hS.1) h2]; exact hS.2.1 q h1 h2, fun q hq => by
      rcases List.mem_append.mp hq with h | h
      · exact hS.2.2 q h
      · exact hL q h⟩ T' rfl X'
  exact ⟨t2, st t2 a1, b1⟩
end ZC
section ZR3
variable {ρ : Type} {X : zX} {ad : Nat → Nat} {sh : List zK} {cc : ByteArray} {own : String} {ret : Option FieldType} {d : Nat} {emb : ρ → Option Value × zH} {pc q : Nat} {lv : List (Option Value)} {st : List Value} {h : zH} {o : Option ρ}
variable {σ : Type} {y : MethodName} {bytes : ByteArray} {maxL idx n d' : Nat} {rt : Option FieldType} {embc : σ → Option Value × zH} {oc : Option σ} {ko : σ → Option ρ} {av : (Nat → Nat) → List Value} {As st0 : List Value}
theorem g_callV (C : zC X ad sh cc own ret d) (w : zCv own idx y bytes maxL rt n) (i : zI cc pc (.invokevirtual idx) 3 q) (hM : zM y bytes maxL rt d' sh av h embc oc) (hd : d' + 1 ≤ d) {a ci : Nat} {fs : List (Option Nat)} {T : u_T} {N : Nat} (ha : sh[a]? = some (.inr (.inl (ci, fs)))) (hci : vwCl[ci]? = some (y.cls, T, N)) (hav : av ad = .ref (ad a) :: As) (hn : As.length = n) (hst : st0 = As.reverse ++ .ref (ad a) :: st) (hrm : (st.map fun v => v.category).sum ≤ 8)
    (k : ∀ x, zG X ad sh emb q lv ((embc x).1.toList ++ st) (embc x).2 (ko x)) : zG X ad sh emb pc lv st0 h (oc.bind ko) := by
  obtain ⟨p, l, e, R, s, m, args, below, meth, c, nL, D, cI, cG⟩ := X
  obtain ⟨hx, hb, hml, hown, hts, hK, hN, hlk, hr, hj, hR⟩ := C
  obtain ⟨di, rfl⟩ := i
  obtain ⟨⟨w1, w2, w3, w4, w5⟩, w6, w7⟩ := w
  subst hR
  intro x9 hx9 H locs ls hP hS hL
  obtain ⟨x8, hx8, hx9⟩ := Option.bind_eq_some_iff.mp hx9
  have M := hM x8 hx8 l D cI cG ad hj
  rw [hav] at M
  have hcw : CallW (zR d) s args own y.cls idx y bytes maxL rt (Cond.code y bytes maxL rt :: zWd) (zR d') 0 0 n := ⟨callB_of n hts (z_goodT w3) rfl rfl rfl (hts _ w2) (hts _ w1) w4 ⟨hd, by show 8 + (maxL + 11) + 35 * d' ≤ 35 * d; omega⟩, hts _ w6, hts _ w7⟩
  refine z_after (va_runV (Ts := zWd) (As := As) (rest := st) ⟨hx, hb, hml, hown, hts⟩ M hcw ⟨zPc_blind, va_recv hK hP hci (zW_at ha), fun U hU hW => ⟨rfl, by rw [hU]; exact hP, va_K.moved hW.alike hK, hN.warm hW⟩⟩ rfl hn hL.1 hst (lv_room hrm) di ⟨Nat.zero_le _, Nat.zero_le _⟩) hS (fun H1 locs1 hP1 hS1 => ?_)
  exact k x8 x9 hx9 H1 locs1 ls hP1 hS1 hL
theorem g_callS (C : zC X ad sh cc own ret d) (w : zCs own idx y bytes maxL rt n) (i : zI cc pc (.invokestatic idx) 3 q) (hM : zM y bytes maxL rt d' sh av h embc oc) (hd : d' + 1 ≤ d) (hav : av ad = As) (hn : As.length = n) (hst : st0 = As.reverse ++ st) (hrm : (st.map fun v => v.category).sum ≤ 8)
    (k : ∀ x, zG X ad sh emb q lv ((embc x).1.toList ++ st) (embc x).2 (ko x)) : zG X ad sh emb pc lv st0 h (oc.bind ko) := by
  obtain ⟨p, l, e, R, s, m, args, below, meth, c, nL, D, cI, cG⟩ := X
  obtain ⟨hx, hb, hml, hown, hts, hK, hN, hlk, hr, hj, hR⟩ := C
  obtain ⟨di, rfl⟩ := i
  obtain ⟨⟨w1, w2, w3, w4, w5⟩, w6⟩ := w
  subst hR
  intro x9 hx9 H locs ls hP hS hL
  obtain ⟨x8, hx8, hx9⟩ := Option.bind_eq_some_iff.mp hx9
  have M := hM x8 hx8 l D cI cG ad hj
  rw [hav] at M
  refine z_after (va_runS (Ts := zWd) (As := As) (rest := st) (n := n) ⟨hx, hb, hml, hown, hts⟩ M ⟨callB_of n hts (z_goodT w3) rfl rfl rfl (hts _ w2) (hts _ w1) w4 ⟨hd, by show 8 + (maxL + 11) + 35 * d' ≤ 35 * d; omega⟩, hts _ w6⟩ ⟨zPc_blind, fun U hU hW => ⟨rfl, by rw [hU]; exact hP, va_K.moved hW.alike hK, hN.warm hW⟩⟩ rfl hn hL.1 hst (lv_room hrm) di ⟨Nat.zero_le _, Nat.zero_le _⟩) hS (fun H1 locs1 hP1 hS1 => ?_)
  exact k x8 x9 hx9 H1 locs1 ls hP1 hS1 hL
theorem g_callN (C : zC X ad sh cc own ret d) (w : zCn own idx y bytes maxL rt n) (i : zI cc pc (.invokestatic idx) 3 q) (hM : zM y bytes maxL rt d' sh av h embc oc) (hd : d' + 1 ≤ d) (hav : av ad = As) (hn : As.length = n) (hst : st0 = As.reverse ++ st) (hrm : (st.map fun v => v.category).sum ≤ 8)
    (k : ∀ x, zG X ad sh emb q lv ((embc x).1.toList ++ st) (embc x).2 (ko x)) : zG X ad sh emb pc lv st0 h (oc.bind ko) := by
  obtain ⟨p, l, e, R, s, m, args, below, meth, c, nL, D, cI, cG⟩ := X
  obtain ⟨hx, hb, hml, hown, hts, hK, hN, hlk, hr, hj, hR⟩ := C
  obtain ⟨di, rfl⟩ := i
  obtain ⟨w1, w2, w3, w4, w5, w6⟩ := w
  subst hR
  intro x9 hx9 H locs ls hP hS hL
  obtain ⟨x8, hx8, hx9⟩ := Option.bind_eq_some_iff.mp hx9
  have M := hM x8 hx8 l D cI cG ad hj
  rw [hav] at M
  refine z_after (va_runSN (Ts := zWd) (As := As) (rest := st) (n := n) (host := "ShedStages") ⟨hx, hb, hml, hown, hts⟩ M ⟨va_cnB n hts (z_goodT w3) rfl rfl rfl (hN _ w1) (hts _ w2) w4 ⟨hd, by show 8 + (maxL + 11) + 35 * d' ≤ 35 * d; omega⟩, hts _ w6, trivial⟩ ⟨zPc_blind, fun U hU hW => ⟨rfl, by rw [hU]; exact hP, va_K.moved hW.alike hK, hN.warm hW⟩⟩ rfl hn hL.1 hst (lv_room hrm) di ⟨Nat.zero_le _, Nat.zero_le _⟩) hS (fun H1 locs1 hP1 hS1 => ?_)
  exact k x8 x9 hx9 H1 locs1 ls hP1 hS1 hL
def zMw (own : String) (idx : Nat) (y : MethodName) (bytes : ByteArray) (maxL : Nat) : Prop := Cond.methodLink own idx y ∈ zWd ∧ Cond.static y ∈ zWd ∧ Cond.initialized "java/lang/Math" ∈ zWd ∧ Cond.code y bytes maxL (some .int) ∈ zWd
theorem g_min (C : zC X ad sh cc own ret d) {x z : Int32} (w : zMw own idx Lib.Math.min.name Lib.Math.min.code 2) (i : zI cc pc (.invokestatic idx) 3 q) (hd : 1 ≤ d) (hrm : (st.map fun v => v.category).sum ≤ 8) (k : zG X ad sh emb q lv (.int (zmin x z) :: st) h o) : zG X ad sh emb pc lv (.int z :: .int x :: st) h o := by
  obtain ⟨p, l, e, R, s, m, args, below, meth, c, nL, D, cI, cG⟩ := X
  obtain ⟨hx, hb, hml, hown, hts, hK, hN, hlk, hr, hj, hR⟩ := C
  obtain ⟨di, rfl⟩ := i
  obtain ⟨w1, w2, w3, w4⟩ := w
  subst hR
  intro x9 hx9 H locs ls hP hS hL
  exact va_mmin hx hb (hml.trans hL.1.symm) hown (hts _ w1) (hts _ w2) (hts _ w3) (hts _ w4) hd (by show _ ≤ 35 * d; omega) (Nat.zero_le _) (Nat.zero_le _) di (k x9 hx9 H locs ls hP hS hL)
theorem g_max (C : zC X ad sh cc own ret d) {x z : Int32} (w : zMw own idx Lib.Math.max.name Lib.Math.max.code 2) (i : zI cc pc (.invokestatic idx) 3 q) (hd : 1 ≤ d) (hrm : (st.map fun v => v.category).sum ≤ 8) (k : zG X ad sh emb q lv (.int (zmax x z) :: st) h o) : zG X ad sh emb pc lv (.int z :: .int x :: st) h o := by
  obtain ⟨p, l, e, R, s, m, args, below, meth, c, nL, D, cI, cG⟩ := X
  obtain ⟨hx, hb, hml, hown, hts, hK, hN, hlk, hr, hj, hR⟩ := C
  obtain ⟨di, rfl⟩ := i
  obtain ⟨w1, w2, w3, w4⟩ := w
  subst hR
  intro x9 hx9 H locs ls hP hS hL
  exact va_mmax hx hb (hml.trans hL.1.symm) hown (hts _ w1) (hts _ w2) (hts _ w3) (hts _ w4) hd (by show _ ≤ 35 * d; omega) (Nat.zero_le _) (Nat.zero_le _) di (k x9 hx9 H locs ls hP hS hL)
theorem g_abs (C : zC X ad sh cc own ret d) {x : Int32} (w : zMw own idx Lib.Math.abs.name Lib.Math.abs.code 1) (i : zI cc pc (.invokestatic idx) 3 q) (hd : 1 ≤ d) (hrm : (st.map fun v => v.category).sum ≤ 8) (k : zG X ad sh emb q lv (.int (zabs x) :: st) h o) : zG X ad sh emb pc lv (.int x :: st) h o := by
  obtain ⟨p, l, e, R, s, m, args, below, meth, c, nL, D, cI, cG⟩ := X
  obtain ⟨hx, hb, hml, hown, hts, hK, hN, hlk, hr, hj, hR⟩ := C
  obtain ⟨di, rfl⟩ := i
  obtain ⟨w1, w2, w3, w4⟩ := w
  subst hR
  intro x9 hx9 H locs ls hP hS hL
  exact va_mabs hx hb (hml.trans hL.1.symm) hown (hts _ w1) (hts _ w2) (hts _ w3) (hts _ w4) hd (by show _ ≤ 35 * d; omega) (Nat.zero_le _) (Nat.zero_le _) di (k x9 hx9 H locs ls hP hS hL)
def zCp (own : String) (idx : Nat) : Prop := Cond.methodLink own idx arraycopyName ∈ zWd ∧ Cond.native arraycopyName ∈ zWd ∧ Cond.static arraycopyName ∈ zWd ∧ Cond.initialized "java/lang/System" ∈ zWd
/-- the row b becomes the first n of the row a -/
def cpy2 (h : zH) (a b n : Nat) : zH := fun k => if k = b then va_cpy (h a) (h b) 0 0 n else h k
theorem g_copy (C : zC X ad sh cc own ret d) {a b na nb nn : Nat} {n0 : Int32} {ko : zH → Option ρ} (w : zCp own idx) (i : zI cc pc (.invokestatic idx) 3 q) (hd : 2 ≤ d) (hrm : (st.map fun v => v.category).sum ≤ 8) (ha : sh[a]? = some (.inl na)) (hb2 : sh[b]? = some (.inl nb)) (hn : n0.toNatClampNeg = nn) (h0 : ¬ n0 < 0) (h1 : nn ≤ na) (h2 : nn ≤ nb) (kt : ∀ h', zG X ad sh emb q lv st h' (ko h')) : zG X ad sh emb pc lv (.int n0 :: .int 0 :: .ref (ad b) :: .int 0 :: .ref (ad a) :: st) h (zlet (cpy2 h a b nn) ko) := by
  have kt := kt (cpy2 h a b nn)
  obtain ⟨p, l, e, R, s, m, args, below, meth, c, nL, D, cI, cG⟩ := X
  obtain ⟨hx, hb, hml, hown, hts, hK, hN, hlk, hr, hj, hR⟩ := C
  obtain ⟨di, rfl⟩ := i
  obtain ⟨w1, w2, w3, w4⟩ := w
  subst hR
  subst hn
  intro x9 hx9 H locs ls hP hS hL
  refine va_copyi (ty := .int) hx hb (hml.trans hL.1.symm) hown (hts _ w1) (hts _ w2) (hts _ w3) (hts _ w4) hK hP hj.D hS a b 0 0 (zW_at ha) (zW_at hb2) rfl rfl rfl (by decide) (by decide) h0 (by simpa using h1) (by simpa using h2) (fun _ _ => rfl) (by show 1 ≤ d; omega) (by
    have e1 : nativeFrameWords "java/lang/System" "arraycopy" 5 + 11 ≤ 50 := by decide +kernel
    show _ ≤ 35 * d; omega) di (fun H1 locs1 hP1 _ hS1 => ?_)
  refine kt x9 hx9 H1 locs1 ls ?_ hS1 hL
  rw [← zW_set (h := h) (h' := cpy2 h a b n0.toNatClampNeg) hb2 (fun k hk => by simp [cpy2, hk])]
  have e2 : cpy2 h a b n0.toNatClampNeg b = va_cpy (h a) (h b) 0 0 n0.toNatClampNeg := by simp [cpy2]
  show va_P D vwCl ((zW cI cG ad sh h).set b (ad b, .inl (cI, nb, .inl (cpy2 h a b n0.toNatClampNeg b)))) H1
  rw [e2]
  exact hP1
theorem g_ldc (C : zC X ad sh cc own ret d) {v : Int32} (w : Cond.constant own idx v ∈ zWd) (i : zI cc pc (.ldc idx) 2 q) (k : zG X ad sh emb q lv (.int v :: st) h o) : zG X ad sh emb pc lv st h o := by
  obtain ⟨p, l, e, R, s, m, args, below, meth, c, nL, D, cI, cG⟩ := X
  obtain ⟨hx, hb, hml, hown, hts, hK, hN, hlk, hr, hj, hR⟩ := C
  obtain ⟨di, rfl⟩ := i
  intro x9 hx9 H locs ls hP hS hL
  exact lv_ldc hx hb hown (hts _ w) di (k x9 hx9 H locs ls hP hS hL)
theorem g_ldcw (C : zC X ad sh cc own ret d) {v : Int32} (w : Cond.constant own idx v ∈ zWd) (i : zI cc pc (.ldc_w idx) 3 q) (k : zG X ad sh emb q lv (.int v :: st) h o) : zG X ad sh emb pc lv st h o := by
  obtain ⟨p, l, e, R, s, m, args, below, meth, c, nL, D, cI, cG⟩ := X
  obtain ⟨hx, hb, hml, hown, hts, hK, hN, hlk, hr, hj, hR⟩ := C
  obtain ⟨di, rfl⟩ := i
  intro x9 hx9 H locs ls hP hS hL
  exact lv_ldcw hx hb hown (hts _ w) di (k x9 hx9 H locs ls hP hS hL)
end ZR3
