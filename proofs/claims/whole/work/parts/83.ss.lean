/-! ShedStages.<init> -/
def txS : String := "b3;l0,1;l1,2;p0,60,3,6;p2,30,5,3;f0,20,1;f1,25,2;f2,15,0;f1,10,3;s4900,2;s4850,2;s4800,1;"
def zNi : List (String × Nat × MethodName) := [(RX6, 11, yX2_init), (RX6, 18, yX5_init), (RX6, 25, yX4_init)]
def zNin (U : State) : Prop := ∀ q ∈ zNi, va_Nw (.methodLinkNest q.1 q.2.1 q.2.2 "ShedStages") U
theorem zNin.warm {s U : State} (hW : s.WarmedH U.vm) (h : zNin s) : zNin U := fun q hq => va_Nw.warmM hW (h q hq)
theorem zNin.same {u U : State} (hv : u.vm = U.vm) (h : zNin u) : zNin U := fun q hq => va_Nw.same rfl hv (h q hq)
def kS1 (k0 v0 : Nat) (A : Nat → Prop) (U : State) : Prop := zNw U ∧ va_AO RX1 U ∧ zNin U ∧ vk_R RX6 64 txS k0 U ∧ sP k0 v0 A U U.heap
def kSs (x : Nat × va_E) (sz : Nat) (U : State) : Prop := ∃ kv : Nat × Nat, kS1 kv.1 kv.2 (va_A [x] sz) U
theorem kS1.go {k0 v0 : Nat} {A B : Nat → Prop} {s U : State} (hW : s.WarmedH U.vm) (hq : ∀ a : Nat, a < s.heap.size → ¬ A a → U.heap[a]? = s.heap[a]?) (hAB : ∀ q, B q → A q) (h : kS1 k0 v0 A s) : kS1 k0 v0 B U := by
  obtain ⟨h1, h2, h3, h4, h5⟩ := h
  exact ⟨h1.warm hW, va_AO.moved hW.alike h2, h3.warm hW, h4.warm hW, h5.go hW.alike hq hAB⟩
theorem kS1.same {k0 v0 : Nat} {A : Nat → Prop} {u U : State} (hv : u.vm = U.vm) (hh : u.heap = U.heap) (h : kS1 k0 v0 A u) : kS1 k0 v0 A U := by
  obtain ⟨h1, h2, h3, h4, h5⟩ := h
  refine ⟨h1.same hv, va_AO.moved (by rw [hv]; exact Vm.Alike.refl _) h2, h3.same hv, h4.same hv.symm, ?_⟩
  rw [← hh]
  exact h5.go (by rw [hv]; exact Vm.Alike.refl _) (fun _ _ _ => rfl) (fun _ h => h)
theorem kSs_E {A : Nat → Prop} {x : Nat × va_E} {E : State → Prop} {k0 v0 : Nat} (h : ∀ s, E s → kS1 k0 v0 A s) : kE A x E kSs := ⟨fun s U locs hS hF hW hE => ⟨(k0, v0), (h s hE).go hW hS.2.1 hF⟩, fun u U sz hv hh ⟨kv, hk⟩ => ⟨kv, hk.same hv hh⟩⟩
theorem kAO_E {A : Nat → Prop} {x : Nat × va_E} {E : State → Prop} (h : ∀ s, E s → va_AO RX1 s) : kE A x E (fun _ _ U => va_AO RX1 U) := ⟨fun s U _ _ _ hW hE => va_AO.moved hW.alike (h s hE), fun u U _ hv _ hk => va_AO.moved (by rw [hv]; exact Vm.Alike.refl _) hk⟩
theorem kNw_E {A : Nat → Prop} {x : Nat × va_E} {E : State → Prop} (h : ∀ s, E s → zNw s) : kE A x E (fun _ _ U => zNw U) := ⟨fun s U _ _ _ hW hE => (h s hE).warm hW, fun u U _ hv _ hk => hk.same hv⟩
theorem kC_ex {α : Type} {F : α → State → Prop} {X : kX} {D : va_G} {cI cG : ClassId} {A : Nat → Prop} {cc : ByteArray} {own nm : String} {d mc ms : Nat} (C : kC X D cI cG A (fun U => ∃ a, F a U) cc own nm d mc ms) : ∃ a, kC X D cI cG A (F a) cc own nm d mc ms := by
  obtain ⟨p, l, e, R, s, m, args, below, meth, c, nL, Q⟩ := X
  obtain ⟨hx, hb, hml, hown, hts, hK, hnm, hA, hRf, hRc, hRs, hRl, a, hE⟩ := C
  exact ⟨a, hx, hb, hml, hown, hts, hK, hnm, hA, hRf, hRc, hRs, hRl, hE⟩
theorem k_getZ {X : kX} {D : va_G} {cI cG : ClassId} {A : Nat → Prop} {E : State → Prop} {cc : ByteArray} {own nm : String} {d mc ms k n pc q : Nat} {lv : List (Option Value)} {st : List Value} {ad : Nat → Nat} {sh : List zK} {h : zH} (C : kC X D cI cG A E cc own nm d mc ms) {idx ci j a b : Nat} {fs : List (Option Nat)} (f : zFl own idx ci j) (i : zI cc pc (.getfield idx) 3 q) (ha : sh[a]? = some (.inr (.inl (ci, fs)))) (hf : fs[j]? = some (some b)) (kt : kG X D A k n q lv (.ref (ad b) :: st) (zW cI cG ad sh h)) : kG X D A k n pc lv (.ref (ad a) :: st) (zW cI cG ad sh h) := k_get C a f i (zW_at ha) (zF_at hf) kt
theorem k_iastZ {X : kX} {D : va_G} {cI cG : ClassId} {A : Nat → Prop} {E : State → Prop} {cc : ByteArray} {own nm : String} {d mc ms k n pc q : Nat} {lv : List (Option Value)} {st : List Value} {ad : Nat → Nat} {sh : List zK} {h : zH} (C : kC X D cI cG A E cc own nm d mc ms) {a n1 : Nat} {j v : Int32} (kj : Nat) (i : zI cc pc .iastore 1 q) (ha : sh[a]? = some (.inl n1)) (hj : j.toNatClampNeg = kj) (hr : zr j n1 = true) (kt : kG X D A k n q lv st (zW cI cG ad sh (upd2 h a kj v))) : kG X D A k n pc lv (.int v :: .int j :: .ref (ad a) :: st) (zW cI cG ad sh h) := by
  obtain ⟨p, l, e, R, s, m, args, below, meth, c, nL, Q⟩ := X
  obtain ⟨hx, hb, hml, hown, hts, hK, hnm, hA, hRf, hRc, hRs, hRl, hE⟩ := C
  obtain ⟨di, rfl⟩ := i
  subst hj
  intro H locs ls hP hD hS hL
  refine va_iast hx hb hK hP hD hS a 0 (zW_at ha) rfl (zr_in hr) di (fun H1 locs1 hP1 hD1 hS1 => ?_)
  rw [← upd2_eq (h := h) (a := a)] at hP1 hD1
  have e0 := zW_set (cI := cI) (cG := cG) (ad := ad) (h := h) (h' := upd2 h a j.toNatClampNeg v) ha (fun k hk => upd2_ne hk)
  refine kt H1 locs1 ls ?_ ?_ hS1 hL
  · rw [← e0]; exact hP1
  · rw [← e0]; exact hD1
def ssA (q0 q1 : Nat) (a1 : Nat → Nat) (q2 : Nat) (a2 : Nat → Nat) (q3 : Nat) (a3 : Nat → Nat) (q4 : Nat) (a4 : Nat → Nat) (q5 : Nat) (a5 : Nat → Nat) (q6 : Nat) (a6 : Nat → Nat) (q7 q8 q9 ka : Nat) (g : Nat → Nat) (b : Nat → Nat → Nat) : Nat → Nat := fun k => ([q0, q1, a1 0, q2, a2 0, q3, a3 0, a3 1, a3 2, a3 3, a3 4, a3 5, a3 6, a3 7, a3 8, a3 9, a3 10, q4, a4 0, a4 1, a4 2, a4 3, a4 4, a4 5, a4 6, a4 7, a4 8, a4 9, a4 10, q5, a5 0, a5 1, a5 2, a5 3, a5 4, a5 5, a5 6, q6, a6 0, a6 1, a6 2, a6 3, a6 4, a6 5, a6 6, q7, q8, q9, ka, g 0, b 0 0, b 0 1, b 0 2, b 0 3, b 0 4, b 0 5, b 0 6, g 1, b 1 0, b 1 1, b 1 2, b 1 3, b 1 4, b 1 5, b 1 6, g 2, b 2 0, b 2 1, b 2 2, b 2 3, b 2 4, b 2 5, b 2 6, g 3, b 3 0, b 3 1, b 3 2, b 3 3, b 3 4, b 3 5, b 3 6] : List Nat).getD k 0
def zFr (ad : Nat → Nat) (h : zH) (k : Nat) : Nat → List (Option Nat) → List Value
  | _, [] => []
  | j, o :: t => zF1 ad h k j o :: zFr ad h k (j + 1) t
theorem zF_r {ad : Nat → Nat} {h : zH} {k : Nat} (fs : List (Option Nat)) : ∀ j, fs.mapIdx (fun i o => zF1 ad h k (i + j) o) = zFr ad h k j fs := by
  induction fs with
  | nil => intro j; rfl
  | cons o t ih =>
    intro j
    rw [List.mapIdx_cons, zFr, ← ih (j + 1)]
    simp only [Nat.zero_add, Nat.add_assoc, Nat.add_comm 1 j]
def zEr (cI cG : ClassId) (ad : Nat → Nat) (h : zH) (k : Nat) (x : zK) : va_E := match x with
  | .inl n => .inl (cI, n, .inl (h k))
  | .inr (.inl q) => .inr (q.1, zFr ad h k 0 q.2)
  | .inr (.inr L) => .inl (cG, L.length, .inr (.inr (.inr (.inr (fun j => (L[j]?).map ad)))))
theorem zE_r {cI cG : ClassId} {ad : Nat → Nat} {h : zH} {k : Nat} (x : zK) : zE cI cG ad h k x = zEr cI cG ad h k x := by
  rcases x with n | q | L
  · rfl
  · show Sum.inr (q.1, zF ad h k q.2) = Sum.inr (q.1, zFr ad h k 0 q.2)
    rw [← zF_r]; rfl
  · rfl
def zWr (cI cG : ClassId) (ad : Nat → Nat) (h : zH) : Nat → List zK → va_W
  | _, [] => []
  | k, x :: t => (ad k, zEr cI cG ad h k x) :: zWr cI cG ad h (k + 1) t
theorem zW_r {cI cG : ClassId} {ad : Nat → Nat} {h : zH} (sh : List zK) : ∀ k, sh.mapIdx (fun i x => (ad (i + k), zE cI cG ad h (i + k) x)) = zWr cI cG ad h k sh := by
  induction sh with
  | nil => intro k; rfl
  | cons x t ih =>
    intro k
    rw [List.mapIdx_cons, zWr, ← ih (k + 1), ← zE_r]
    simp only [Nat.zero_add, Nat.add_assoc, Nat.add_comm 1 k]
theorem zW_rr {cI cG : ClassId} {ad : Nat → Nat} {h : zH} {sh : List zK} : zW cI cG ad sh h = zWr cI cG ad h 0 sh := zW_r sh 0
def ssM (cI cG : ClassId) (ad : Nat → Nat) : va_W := [(ad 0, .inr (6, [.ref (ad 1), .ref (ad 3), .ref (ad 5), .ref (ad 17), .ref (ad 29), .ref (ad 37), .ref (ad 45), .ref (ad 46), .ref (ad 47)])), (ad 1, .inr (2, [.ref (ad 2), .int 0])), (ad 2, .inl (cI, 200, .inl (fun _ => 0))), (ad 3, .inr (5, [.ref (ad 4)])), (ad 4, .inl (cI, 4, .inl (fun _ => 0))), (ad 5, .inr (4, [.int 0, .int 0, .int 0, .int 0, .int 0, .ref (ad 6), .ref (ad 7), .ref (ad 8), .ref (ad 9), .ref (ad 10), .ref (ad 11), .ref (ad 12), .ref (ad 13), .ref (ad 14), .ref (ad 15), .ref (ad 16)])), (ad 6, .inl (cI, 9, .inl (fun _ => 0))), (ad 7, .inl (cI, 9, .inl (fun _ => 0))), (ad 8, .inl (cI, 6, .inl (fun _ => 0))), (ad 9, .inl (cI, 6, .inl (fun _ => 0))), (ad 10, .inl (cI, 6, .inl (fun _ => 0))), (ad 11, .inl (cI, 6, .inl (fun _ => 0))), (ad 12, .inl (cI, 9, .inl (fun _ => 0))), (ad 13, .inl (cI, 9, .inl (fun _ => 0))), (ad 14, .inl (cI, 9, .inl (fun _ => 0))), (ad 15, .inl (cI, 6, .inl (fun _ => 0))), (ad 16, .inl (cI, 6, .inl (fun _ => 0))), (ad 17, .inr (4, [.int 0, .int 0, .int 0, .int 0, .int 0, .ref (ad 18), .ref (ad 19), .ref (ad 20), .ref (ad 21), .ref (ad 22), .ref (ad 23), .ref (ad 24), .ref (ad 25), .ref (ad 26), .ref (ad 27), .ref (ad 28)])), (ad 18, .inl (cI, 9, .inl (fun _ => 0))), (ad 19, .inl (cI, 9, .inl (fun _ => 0))), (ad 20, .inl (cI, 6, .inl (fun _ => 0))), (ad 21, .inl (cI, 6, .inl (fun _ => 0))), (ad 22, .inl (cI, 6, .inl (fun _ => 0))), (ad 23, .inl (cI, 6, .inl (fun _ => 0))), (ad 24, .inl (cI, 9, .inl (fun _ => 0))), (ad 25, .inl (cI, 9, .inl (fun _ => 0))), (ad 26, .inl (cI, 9, .inl (fun _ => 0))), (ad 27, .inl (cI, 6, .inl (fun _ => 0))), (ad 28, .inl (cI, 6, .inl (fun _ => 0))), (ad 29, .inr (1, [.ref (ad 17), .int 0, .ref (ad 30), .ref (ad 31), .ref (ad 32), .ref (ad 33), .ref (ad 34), .int 0, .ref (ad 35), .int 0, .ref (ad 36), .int 0])), (ad 30, .inl (cI, 6, .inl (fun _ => 0))), (ad 31, .inl (cI, 6, .inl (fun _ => 0))), (ad 32, .inl (cI, 6, .inl (fun _ => 0))), (ad 33, .inl (cI, 36, .inl (fun _ => 0))), (ad 34, .inl (cI, 6, .inl (fun _ => 0))), (ad 35, .inl (cI, 9, .inl (fun _ => 0))), (ad 36, .inl (cI, 6, .inl (fun _ => 0))), (ad 37, .inr (1, [.ref (ad 17), .int 0, .ref (ad 38), .ref (ad 39), .ref (ad 40), .ref (ad 41), .ref (ad 42), .int 0, .ref (ad 43), .int 0, .ref (ad 44), .int 0])), (ad 38, .inl (cI, 6, .inl (fun _ => 0))), (ad 39, .inl (cI, 6, .inl (fun _ => 0))), (ad 40, .inl (cI, 6, .inl (fun _ => 0))), (ad 41, .inl (cI, 36, .inl (fun _ => 0))), (ad 42, .inl (cI, 6, .inl (fun _ => 0))), (ad 43, .inl (cI, 9, .inl (fun _ => 0))), (ad 44, .inl (cI, 6, .inl (fun _ => 0))), (ad 45, .inr (0, [.ref (ad 17), .ref (ad 29), .int 0, .int 0, .int 0])), (ad 46, .inr (0, [.ref (ad 17), .ref (ad 37), .int 0, .int 0, .int 0])), (ad 47, .inr (3, [.ref (ad 48), .int 0, .int 0])), (ad 48, .inl (cG, 4, .inr (.inr (.inr (.inr (fun j => (([49, 57, 65, 73] : List Nat)[j]?).map ad)))))), (ad 49, .inr (1, [.ref (ad 17), .int 0, .ref (ad 50), .ref (ad 51), .ref (ad 52), .ref (ad 53), .ref (ad 54), .int 0, .ref (ad 55), .int 0, .ref (ad 56), .int 0])), (ad 50, .inl (cI, 6, .inl (fun _ => 0))), (ad 51, .inl (cI, 6, .inl (fun _ => 0))), (ad 52, .inl (cI, 6, .inl (fun _ => 0))), (ad 53, .inl (cI, 36, .inl (fun _ => 0))), (ad 54, .inl (cI, 6, .inl (fun _ => 0))), (ad 55, .inl (cI, 9, .inl (fun _ => 0))), (ad 56, .inl (cI, 6, .inl (fun _ => 0))), (ad 57, .inr (1, [.ref (ad 17), .int 0, .ref (ad 58), .ref (ad 59), .ref (ad 60), .ref (ad 61), .ref (ad 62), .int 0, .ref (ad 63), .int 0, .ref (ad 64), .int 0])), (ad 58, .inl (cI, 6, .inl (fun _ => 0))), (ad 59, .inl (cI, 6, .inl (fun _ => 0))), (ad 60, .inl (cI, 6, .inl (fun _ => 0))), (ad 61, .inl (cI, 36, .inl (fun _ => 0))), (ad 62, .inl (cI, 6, .inl (fun _ => 0))), (ad 63, .inl (cI, 9, .inl (fun _ => 0))), (ad 64, .inl (cI, 6, .inl (fun _ => 0))), (ad 65, .inr (1, [.ref (ad 17), .int 0, .ref (ad 66), .ref (ad 67), .ref (ad 68), .ref (ad 69), .ref (ad 70), .int 0, .ref (ad 71), .int 0, .ref (ad 72), .int 0])), (ad 66, .inl (cI, 6, .inl (fun _ => 0))), (ad 67, .inl (cI, 6, .inl (fun _ => 0))), (ad 68, .inl (cI, 6, .inl (fun _ => 0))), (ad 69, .inl (cI, 36, .inl (fun _ => 0))), (ad 70, .inl (cI, 6, .inl (fun _ => 0))), (ad 71, .inl (cI, 9, .inl (fun _ => 0))), (ad 72, .inl (cI, 6, .inl (fun _ => 0))), (ad 73, .inr (1, [.ref (ad 17), .int 0, .ref (ad 74), .ref (ad 75), .ref (ad 76), .ref (ad 77), .ref (ad 78), .int 0, .ref (ad 79), .int 0, .ref (ad 80), .int 0])), (ad 74, .inl (cI, 6, .inl (fun _ => 0))), (ad 75, .inl (cI, 6, .inl (fun _ => 0))), (ad 76, .inl (cI, 6, .inl (fun _ => 0))), (ad 77, .inl (cI, 36, .inl (fun _ => 0))), (ad 78, .inl (cI, 6, .inl (fun _ => 0))), (ad 79, .inl (cI, 9, .inl (fun _ => 0))), (ad 80, .inl (cI, 6, .inl (fun _ => 0)))]
set_option maxHeartbeats 4000000 in
set_option maxRecDepth 100000 in
theorem ssM_eq (cI cG : ClassId) (ad : Nat → Nat) : ssM cI cG ad = zW cI cG ad shX h00 := by
  rw [zW_rr]
  rfl
theorem ssA_0 (q0 q1 : Nat) (a1 : Nat → Nat) (q2 : Nat) (a2 : Nat → Nat) (q3 : Nat) (a3 : Nat → Nat) (q4 : Nat) (a4 : Nat → Nat) (q5 : Nat) (a5 : Nat → Nat) (q6 : Nat) (a6 : Nat → Nat) (q7 q8 q9 ka : Nat) (g : Nat → Nat) (b : Nat → Nat → Nat) : ssA q0 q1 a1 q2 a2 q3 a3 q4 a4 q5 a5 q6 a6 q7 q8 q9 ka g b 0 = q0 := rfl
theorem ssA_1 (q0 q1 : Nat) (a1 : Nat → Nat) (q2 : Nat) (a2 : Nat → Nat) (q3 : Nat) (a3 : Nat → Nat) (q4 : Nat) (a4 : Nat → Nat) (q5 : Nat) (a5 : Nat → Nat) (q6 : Nat) (a6 : Nat → Nat) (q7 q8 q9 ka : Nat) (g : Nat → Nat) (b : Nat → Nat → Nat) : ssA q0 q1 a1 q2 a2 q3 a3 q4 a4 q5 a5 q6 a6 q7 q8 q9 ka g b 1 = q1 := rfl
theorem ssA_2 (q0 q1 : Nat) (a1 : Nat → Nat) (q2 : Nat) (a2 : Nat → Nat) (q3 : Nat) (a3 : Nat → Nat) (q4 : Nat) (a4 : Nat → Nat) (q5 : Nat) (a5 : Nat → Nat) (q6 : Nat) (a6 : Nat → Nat) (q7 q8 q9 ka : Nat) (g : Nat → Nat) (b : Nat → Nat → Nat) : ssA q0 q1 a1 q2 a2 q3 a3 q4 a4 q5 a5 q6 a6 q7 q8 q9 ka g b 2 = a1 0 := rfl
theorem ssA_3 (q0 q1 : Nat) (a1 : Nat → Nat) (q2 : Nat) (a2 : Nat → Nat) (q3 : Nat) (a3 : Nat → Nat) (q4 : Nat) (a4 : Nat → Nat) (q5 : Nat) (a5 : Nat → Nat) (q6 : Nat) (a6 : Nat → Nat) (q7 q8 q9 ka : Nat) (g : Nat → Nat) (b : Nat → Nat → Nat) : ssA q0 q1 a1 q2 a2 q3 a3 q4 a4 q5 a5 q6 a6 q7 q8 q9 ka g b 3 = q2 := rfl
theorem ssA_4 (q0 q1 : Nat) (a1 : Nat → Nat) (q2 : Nat) (a2 : Nat → Nat) (q3 : Nat) (a3 : Nat → Nat) (q4 : Nat) (a4 : Nat → Nat) (q5 : Nat) (a5 : Nat → Nat) (q6 : Nat) (a6 : Nat → Nat) (q7 q8 q9 ka : Nat) (g : Nat → Nat) (b : Nat → Nat → Nat) : ssA q0 q1 a1 q2 a2 q3 a3 q4 a4 q5 a5 q6 a6 q7 q8 q9 ka g b 4 = a2 0 := rfl
theorem ssA_5 (q0 q1 : Nat) (a1 : Nat → Nat) (q2 : Nat) (a2 : Nat → Nat) (q3 : Nat) (a3 : Nat → Nat) (q4 : Nat) (a4 : Nat → Nat) (q5 : Nat) (a5 : Nat → Nat) (q6 : Nat) (a6 : Nat → Nat) (q7 q8 q9 ka : Nat) (g : Nat → Nat) (b : Nat → Nat → Nat) : ssA q0 q1 a1 q2 a2 q3 a3 q4 a4 q5 a5 q6 a6 q7 q8 q9 ka g b 5 = q3 := rfl
theorem ssA_6 (q0 q1 : Nat) (a1 : Nat → Nat) (q2 : Nat) (a2 : Nat → Nat) (q3 : Nat) (a3 : Nat → Nat) (q4 : Nat) (a4 : Nat → Nat) (q5 : Nat) (a5 : Nat → Nat) (q6 : Nat) (a6 : Nat → Nat) (q7 q8 q9 ka : Nat) (g : Nat → Nat) (b : Nat → Nat → Nat) : ssA q0 q1 a1 q2 a2 q3 a3 q4 a4 q5 a5 q6 a6 q7 q8 q9 ka g b 6 = a3 0 := rfl
theorem ssA_7 (q0 q1 : Nat) (a1 : Nat → Nat) (q2 : Nat) (a2 : Nat → Nat) (q3 : Nat) (a3 : Nat → Nat) (q4 : Nat) (a4 : Nat → Nat) (q5 : Nat) (a5 : Nat → Nat) (q6 : Nat) (a6 : Nat → Nat) (q7 q8 q9 ka : Nat) (g : Nat → Nat) (b : Nat → Nat → Nat) : ssA q0 q1 a1 q2 a2 q3 a3 q4 a4 q5 a5 q6 a6 q7 q8 q9 ka g b 7 = a3 1 := rfl
theorem ssA_8 (q0 q1 : Nat) (a1 : Nat → Nat) (q2 : Nat) (a2 : Nat → Nat) (q3 : Nat) (a3 : Nat → Nat) (q4 : Nat) (a4 : Nat → Nat) (q5 : Nat) (a5 : Nat → Nat) (q6 : Nat) (a6 : Nat → Nat) (q7 q8 q9 ka : Nat) (g : Nat → Nat) (b : Nat → Nat → Nat) : ssA q0 q1 a1 q2 a2 q3 a3 q4 a4 q5 a5 q6 a6 q7 q8 q9 ka g b 8 = a3 2 := rfl
theorem ssA_9 (q0 q1 : Nat) (a1 : Nat → Nat) (q2 : Nat) (a2 : Nat → Nat) (q3 : Nat) (a3 : Nat → Nat) (q4 : Nat) (a4 : Nat → Nat) (q5 : Nat) (a5 : Nat → Nat) (q6 : Nat) (a6 : Nat → Nat) (q7 q8 q9 ka : Nat) (g : Nat → Nat) (b : Nat → Nat → Nat) : ssA q0 q1 a1 q2 a2 q3 a3 q4 a4 q5 a5 q6 a6 q7 q8 q9 ka g b 9 = a3 3 := rfl
theorem ssA_10 (q0 q1 : Nat) (a1 : Nat → Nat) (q2 : Nat) (a2 : Nat → Nat) (q3 : Nat) (a3 : Nat → Nat) (q4 : Nat) (a4 : Nat → Nat) (q5 : Nat) (a5 : Nat → Nat) (q6 : Nat) (a6 : Nat → Nat) (q7 q8 q9 ka : Nat) (g : Nat → Nat) (b : Nat → Nat → Nat) : ssA q0 q1 a1 q2 a2 q3 a3 q4 a4 q5 a5 q6 a6 q7 q8 q9 ka g b 10 = a3 4 := rfl
theorem ssA_11 (q0 q1 : Nat) (a1 : Nat → Nat) (q2 : Nat) (a2 : Nat → Nat) (q3 : Nat) (a3 : Nat → Nat) (q4 : Nat) (a4 : Nat → Nat) (q5 : Nat) (a5 : Nat → Nat) (q6 : Nat) (a6 : Nat → Nat) (q7 q8 q9 ka : Nat) (g : Nat → Nat) (b : Nat → Nat → Nat) : ssA q0 q1 a1 q2 a2 q3 a3 q4 a4 q5 a5 q6 a6 q7 q8 q9 ka g b 11 = a3 5 := rfl
theorem ssA_12 (q0 q1 : Nat) (a1 : Nat → Nat) (q2 : Nat) (a2 : Nat → Nat) (q3 : Nat) (a3 : Nat → Nat) (q4 : Nat) (a4 : Nat → Nat) (q5 : Nat) (a5 : Nat → Nat) (q6 : Nat) (a6 : Nat → Nat) (q7 q8 q9 ka : Nat) (g : Nat → Nat) (b : Nat → Nat → Nat) : ssA q0 q1 a1 q2 a2 q3 a3 q4 a4 q5 a5 q6 a6 q7 q8 q9 ka g b 12 = a3 6 := rfl
theorem ssA_13 (q0 q1 : Nat) (a1 : Nat → Nat) (q2 : Nat) (a2 : Nat → Nat) (q3 : Nat) (a3 : Nat → Nat) (q4 : Nat) (a4 : Nat → Nat) (q5 : Nat) (a5 : Nat → Nat) (q6 : Nat) (a6 : Nat → Nat) (q7 q8 q9 ka : Nat) (g : Nat → Nat) (b : Nat → Nat → Nat) : ssA q0 q1 a1 q2 a2 q3 a3 q4 a4 q5 a5 q6 a6 q7 q8 q9 ka g b 13 = a3 7 := rfl
theorem ssA_14 (q0 q1 : Nat) (a1 : Nat → Nat) (q2 : Nat) (a2 : Nat → Nat) (q3 : Nat) (a3 : Nat → Nat) (q4 : Nat) (a4 : Nat → Nat) (q5 : Nat) (a5 : Nat → Nat) (q6 : Nat) (a6 : Nat → Nat) (q7 q8 q9 ka : Nat) (g : Nat → Nat) (b : Nat → Nat → Nat) : ssA q0 q1 a1 q2 a2 q3 a3 q4 a4 q5 a5 q6 a6 q7 q8 q9 ka g b 14 = a3 8 := rfl
theorem ssA_15 (q0 q1 : Nat) (a1 : Nat → Nat) (q2 : Nat) (a2 : Nat → Nat) (q3 : Nat) (a3 : Nat → Nat) (q4 : Nat) (a4 : Nat → Nat) (q5 : Nat) (a5 : Nat → Nat) (q6 : Nat) (a6 : Nat → Nat) (q7 q8 q9 ka : Nat) (g : Nat → Nat) (b : Nat → Nat → Nat) : ssA q0 q1 a1 q2 a2 q3 a3 q4 a4 q5 a5 q6 a6 q7 q8 q9 ka g b 15 = a3 9 := rfl
theorem ssA_16 (q0 q1 : Nat) (a1 : Nat → Nat) (q2 : Nat) (a2 : Nat → Nat) (q3 : Nat) (a3 : Nat → Nat) (q4 : Nat) (a4 : Nat → Nat) (q5 : Nat) (a5 : Nat → Nat) (q6 : Nat) (a6 : Nat → Nat) (q7 q8 q9 ka : Nat) (g : Nat → Nat) (b : Nat → Nat → Nat) : ssA q0 q1 a1 q2 a2 q3 a3 q4 a4 q5 a5 q6 a6 q7 q8 q9 ka g b 16 = a3 10 := rfl
theorem ssA_17 (q0 q1 : Nat) (a1 : Nat → Nat) (q2 : Nat) (a2 : Nat → Nat) (q3 : Nat) (a3 : Nat → Nat) (q4 : Nat) (a4 : Nat → Nat) (q5 : Nat) (a5 : Nat → Nat) (q6 : Nat) (a6 : Nat → Nat) (q7 q8 q9 ka : Nat) (g : Nat → Nat) (b : Nat → Nat → Nat) : ssA q0 q1 a1 q2 a2 q3 a3 q4 a4 q5 a5 q6 a6 q7 q8 q9 ka g b 17 = q4 := rfl
theorem ssA_18 (q0 q1 : Nat) (a1 : Nat → Nat) (q2 : Nat) (a2 : Nat → Nat) (q3 : Nat) (a3 : Nat → Nat) (q4 : Nat) (a4 : Nat → Nat) (q5 : Nat) (a5 : Nat → Nat) (q6 : Nat) (a6 : Nat → Nat) (q7 q8 q9 ka : Nat) (g : Nat → Nat) (b : Nat → Nat → Nat) : ssA q0 q1 a1 q2 a2 q3 a3 q4 a4 q5 a5 q6 a6 q7 q8 q9 ka g b 18 = a4 0 := rfl
theorem ssA_19 (q0 q1 : Nat) (a1 : Nat → Nat) (q2 : Nat) (a2 : Nat → Nat) (q3 : Nat) (a3 : Nat → Nat) (q4 : Nat) (a4 : Nat → Nat) (q5 : Nat) (a5 : Nat → Nat) (q6 : Nat) (a6 : Nat → Nat) (q7 q8 q9 ka : Nat) (g : Nat → Nat) (b : Nat → Nat → Nat) : ssA q0 q1 a1 q2 a2 q3 a3 q4 a4 q5 a5 q6 a6 q7 q8 q9 ka g b 19 = a4 1 := rfl
theorem ssA_20 (q0 q1 : Nat) (a1 : Nat → Nat) (q2 : Nat) (a2 : Nat → Nat) (q3 : Nat) (a3 : Nat → Nat) (q4 : Nat) (a4 : Nat → Nat) (q5 : Nat) (a5 : Nat → Nat) (q6 : Nat) (a6 : Nat → Nat) (q7 q8 q9 ka : Nat) (g : Nat → Nat) (b : Nat → Nat → Nat) : ssA q0 q1 a1 q2 a2 q3 a3 q4 a4 q5 a5 q6 a6 q7 q8 q9 ka g b 20 = a4 2 := rfl
theorem ssA_21 (q0 q1 : Nat) (a1 : Nat → Nat) (q2 : Nat) (a2 : Nat → Nat) (q3 : Nat) (a3 : Nat → Nat) (q4 : Nat) (a4 : Nat → Nat) (q5 : Nat) (a5 : Nat → Nat) (q6 : Nat) (a6 : Nat → Nat) (q7 q8 q9 ka : Nat) (g : Nat → Nat) (b : Nat → Nat → Nat) : ssA q0 q1 a1 q2 a2 q3 a3 q4 a4 q5 a5 q6 a6 q7 q8 q9 ka g b 21 = a4 3 := rfl
theorem ssA_22 (q0 q1 : Nat) (a1 : Nat → Nat) (q2 : Nat) (a2 : Nat → Nat) (q3 : Nat) (a3 : Nat → Nat) (q4 : Nat) (a4 : Nat → Nat) (q5 : Nat) (a5 : Nat → Nat) (q6 : Nat) (a6 : Nat → Nat) (q7 q8 q9 ka : Nat) (g : Nat → Nat) (b : Nat → Nat → Nat) : ssA q0 q1 a1 q2 a2 q3 a3 q4 a4 q5 a5 q6 a6 q7 q8 q9 ka g b 22 = a4 4 := rfl
theorem ssA_23 (q0 q1 : Nat) (a1 : Nat → Nat) (q2 : Nat) (a2 : Nat → Nat) (q3 : Nat) (a3 : Nat → Nat) (q4 : Nat) (a4 : Nat → Nat) (q5 : Nat) (a5 : Nat → Nat) (q6 : Nat) (a6 : Nat → Nat) (q7 q8 q9 ka : Nat) (g : Nat → Nat) (b : Nat → Nat → Nat) : ssA q0 q1 a1 q2 a2 q3 a3 q4 a4 q5 a5 q6 a6 q7 q8 q9 ka g b 23 = a4 5 := rfl
theorem ssA_24 (q0 q1 : Nat) (a1 : Nat → Nat) (q2 : Nat) (a2 : Nat → Nat) (q3 : Nat) (a3 : Nat → Nat) (q4 : Nat) (a4 : Nat → Nat) (q5 : Nat) (a5 : Nat → Nat) (q6 : Nat) (a6 : Nat → Nat) (q7 q8 q9 ka : Nat) (g : Nat → Nat) (b : Nat → Nat → Nat) : ssA q0 q1 a1 q2 a2 q3 a3 q4 a4 q5 a5 q6 a6 q7 q8 q9 ka g b 24 = a4 6 := rfl
theorem ssA_25 (q0 q1 : Nat) (a1 : Nat → Nat) (q2 : Nat) (a2 : Nat → Nat) (q3 : Nat) (a3 : Nat → Nat) (q4 : Nat) (a4 : Nat → Nat) (q5 : Nat) (a5 : Nat → Nat) (q6 : Nat) (a6 : Nat → Nat) (q7 q8 q9 ka : Nat) (g : Nat → Nat) (b : Nat → Nat → Nat) : ssA q0 q1 a1 q2 a2 q3 a3 q4 a4 q5 a5 q6 a6 q7 q8 q9 ka g b 25 = a4 7 := rfl
theorem ssA_26 (q0 q1 : Nat) (a1 : Nat → Nat) (q2 : Nat) (a2 : Nat → Nat) (q3 : Nat) (a3 : Nat → Nat) (q4 : Nat) (a4 : Nat → Nat) (q5 : Nat) (a5 : Nat → Nat) (q6 : Nat) (a6 : Nat → Nat) (q7 q8 q9 ka : Nat) (g : Nat → Nat) (b : Nat → Nat → Nat) : ssA q0 q1 a1 q2 a2 q3 a3 q4 a4 q5 a5 q6 a6 q7 q8 q9 ka g b 26 = a4 8 := rfl
theorem ssA_27 (q0 q1 : Nat) (a1 : Nat → Nat) (q2 : Nat) (a2 : Nat → Nat) (q3 : Nat) (a3 : Nat → Nat) (q4 : Nat) (a4 : Nat → Nat) (q5 : Nat) (a5 : Nat → Nat) (q6 : Nat) (a6 : Nat → Nat) (q7 q8 q9 ka : Nat) (g : Nat → Nat) (b : Nat → Nat → Nat) : ssA q0 q1 a1 q2 a2 q3 a3 q4 a4 q5 a5 q6 a6 q7 q8 q9 ka g b 27 = a4 9 := rfl
theorem ssA_28 (q0 q1 : Nat) (a1 : Nat → Nat) (q2 : Nat) (a2 : Nat → Nat) (q3 : Nat) (a3 : Nat → Nat) (q4 : Nat) (a4 : Nat → Nat) (q5 : Nat) (a5 : Nat → Nat) (q6 : Nat) (a6 : Nat → Nat) (q7 q8 q9 ka : Nat) (g : Nat → Nat) (b : Nat → Nat → Nat) : ssA q0 q1 a1 q2 a2 q3 a3 q4 a4 q5 a5 q6 a6 q7 q8 q9 ka g b 28 = a4 10 := rfl
theorem ssA_29 (q0 q1 : Nat) (a1 : Nat → Nat) (q2 : Nat) (a2 : Nat → Nat) (q3 : Nat) (a3 : Nat → Nat) (q4 : Nat) (a4 : Nat → Nat) (q5 : Nat) (a5 : Nat → Nat) (q6 : Nat) (a6 : Nat → Nat) (q7 q8 q9 ka : Nat) (g : Nat → Nat) (b : Nat → Nat → Nat) : ssA q0 q1 a1 q2 a2 q3 a3 q4 a4 q5 a5 q6 a6 q7 q8 q9 ka g b 29 = q5 := rfl
theorem ssA_30 (q0 q1 : Nat) (a1 : Nat → Nat) (q2 : Nat) (a2 : Nat → Nat) (q3 : Nat) (a3 : Nat → Nat) (q4 : Nat) (a4 : Nat → Nat) (q5 : Nat) (a5 : Nat → Nat) (q6 : Nat) (a6 : Nat → Nat) (q7 q8 q9 ka : Nat) (g : Nat → Nat) (b : Nat → Nat → Nat) : ssA q0 q1 a1 q2 a2 q3 a3 q4 a4 q5 a5 q6 a6 q7 q8 q9 ka g b 30 = a5 0 := rfl
theorem ssA_31 (q0 q1 : Nat) (a1 : Nat → Nat) (q2 : Nat) (a2 : Nat → Nat) (q3 : Nat) (a3 : Nat → Nat) (q4 : Nat) (a4 : Nat → Nat) (q5 : Nat) (a5 : Nat → Nat) (q6 : Nat) (a6 : Nat → Nat) (q7 q8 q9 ka : Nat) (g : Nat → Nat) (b : Nat → Nat → Nat) : ssA q0 q1 a1 q2 a2 q3 a3 q4 a4 q5 a5 q6 a6 q7 q8 q9 ka g b 31 = a5 1 := rfl
theorem ssA_32 (q0 q1 : Nat) (a1 : Nat → Nat) (q2 : Nat) (a2 : Nat → Nat) (q3 : Nat) (a3 : Nat → Nat) (q4 : Nat) (a4 : Nat → Nat) (q5 : Nat) (a5 : Nat → Nat) (q6 : Nat) (a6 : Nat → Nat) (q7 q8 q9 ka : Nat) (g : Nat → Nat) (b : Nat → Nat → Nat) : ssA q0 q1 a1 q2 a2 q3 a3 q4 a4 q5 a5 q6 a6 q7 q8 q9 ka g b 32 = a5 2 := rfl
theorem ssA_33 (q0 q1 : Nat) (a1 : Nat → Nat) (q2 : Nat) (a2 : Nat → Nat) (q3 : Nat) (a3 : Nat → Nat) (q4 : Nat) (a4 : Nat → Nat) (q5 : Nat) (a5 : Nat → Nat) (q6 : Nat) (a6 : Nat → Nat) (q7 q8 q9 ka : Nat) (g : Nat → Nat) (b : Nat → Nat → Nat) : ssA q0 q1 a1 q2 a2 q3 a3 q4 a4 q5 a5 q6 a6 q7 q8 q9 ka g b 33 = a5 3 := rfl
theorem ssA_34 (q0 q1 : Nat) (a1 : Nat → Nat) (q2 : Nat) (a2 : Nat → Nat) (q3 : Nat) (a3 : Nat → Nat) (q4 : Nat) (a4 : Nat → Nat) (q5 : Nat) (a5 : Nat → Nat) (q6 : Nat) (a6 : Nat → Nat) (q7 q8 q9 ka : Nat) (g : Nat → Nat) (b : Nat → Nat → Nat) : ssA q0 q1 a1 q2 a2 q3 a3 q4 a4 q5 a5 q6 a6 q7 q8 q9 ka g b 34 = a5 4 := rfl
theorem ssA_35 (q0 q1 : Nat) (a1 : Nat → Nat) (q2 : Nat) (a2 : Nat → Nat) (q3 : Nat) (a3 : Nat → Nat) (q4 : Nat) (a4 : Nat → Nat) (q5 : Nat) (a5 : Nat → Nat) (q6 : Nat) (a6 : Nat → Nat) (q7 q8 q9 ka : Nat) (g : Nat → Nat) (b : Nat → Nat → Nat) : ssA q0 q1 a1 q2 a2 q3 a3 q4 a4 q5 a5 q6 a6 q7 q8 q9 ka g b 35 = a5 5 := rfl
theorem ssA_36 (q0 q1 : Nat) (a1 : Nat → Nat) (q2 : Nat) (a2 : Nat → Nat) (q3 : Nat) (a3 : Nat → Nat) (q4 : Nat) (a4 : Nat → Nat) (q5 : Nat) (a5 : Nat → Nat) (q6 : Nat) (a6 : Nat → Nat) (q7 q8 q9 ka : Nat) (g : Nat → Nat) (b : Nat → Nat → Nat) : ssA q0 q1 a1 q2 a2 q3 a3 q4 a4 q5 a5 q6 a6 q7 q8 q9 ka g b 36 = a5 6 := rfl
theorem ssA_37 (q0 q1 : Nat) (a1 : Nat → Nat) (q2 : Nat) (a2 : Nat → Nat) (q3 : Nat) (a3 : Nat → Nat) (q4 : Nat) (a4 : Nat → Nat) (q5 : Nat) (a5 : Nat → Nat) (q6 : Nat) (a6 : Nat → Nat) (q7 q8 q9 ka : Nat) (g : Nat → Nat) (b : Nat → Nat → Nat) : ssA q0 q1 a1 q2 a2 q3 a3 q4 a4 q5 a5 q6 a6 q7 q8 q9 ka g b 37 = q6 := rfl
theorem ssA_38 (q0 q1 : Nat) (a1 : Nat → Nat) (q2 : Nat) (a2 : Nat → Nat) (q3 : Nat) (a3 : Nat → Nat) (q4 : Nat) (a4 : Nat → Nat) (q5 : Nat) (a5 : Nat → Nat) (q6 : Nat) (a6 : Nat → Nat) (q7 q8 q9 ka : Nat) (g : Nat → Nat) (b : Nat → Nat → Nat) : ssA q0 q1 a1 q2 a2 q3 a3 q4 a4 q5 a5 q6 a6 q7 q8 q9 ka g b 38 = a6 0 := rfl
theorem ssA_39 (q0 q1 : Nat) (a1 : Nat → Nat) (q2 : Nat) (a2 : Nat → Nat) (q3 : Nat) (a3 : Nat → Nat) (q4 : Nat) (a4 : Nat → Nat) (q5 : Nat) (a5 : Nat → Nat) (q6 : Nat) (a6 : Nat → Nat) (q7 q8 q9 ka : Nat) (g : Nat → Nat) (b : Nat → Nat → Nat) : ssA q0 q1 a1 q2 a2 q3 a3 q4 a4 q5 a5 q6 a6 q7 q8 q9 ka g b 39 = a6 1 := rfl
theorem ssA_40 (q0 q1 : Nat) (a1 : Nat → Nat) (q2 : Nat) (a2 : Nat → Nat) (q3 : Nat) (a3 : Nat → Nat) (q4 : Nat) (a4 : Nat → Nat) (q5 : Nat) (a5 : Nat → Nat) (q6 : Nat) (a6 : Nat → Nat) (q7 q8 q9 ka : Nat) (g : Nat → Nat) (b : Nat → Nat → Nat) : ssA q0 q1 a1 q2 a2 q3 a3 q4 a4 q5 a5 q6 a6 q7 q8 q9 ka g b 40 = a6 2 := rfl
theorem ssA_41 (q0 q1 : Nat) (a1 : Nat → Nat) (q2 : Nat) (a2 : Nat → Nat) (q3 : Nat) (a3 : Nat → Nat) (q4 : Nat) (a4 : Nat → Nat) (q5 : Nat) (a5 : Nat → Nat) (q6 : Nat) (a6 : Nat → Nat) (q7 q8 q9 ka : Nat) (g : Nat → Nat) (b : Nat → Nat → Nat) : ssA q0 q1 a1 q2 a2 q3 a3 q4 a4 q5 a5 q6 a6 q7 q8 q9 ka g b 41 = a6 3 := rfl
theorem ssA_42 (q0 q1 : Nat) (a1 : Nat → Nat) (q2 : Nat) (a2 : Nat → Nat) (q3 : Nat) (a3 : Nat → Nat) (q4 : Nat) (a4 : Nat → Nat) (q5 : Nat) (a5 : Nat → Nat) (q6 : Nat) (a6 : Nat → Nat) (q7 q8 q9 ka : Nat) (g : Nat → Nat) (b : Nat → Nat → Nat) : ssA q0 q1 a1 q2 a2 q3 a3 q4 a4 q5 a5 q6 a6 q7 q8 q9 ka g b 42 = a6 4 := rfl
theorem ssA_43 (q0 q1 : Nat) (a1 : Nat → Nat) (q2 : Nat) (a2 : Nat → Nat) (q3 : Nat) (a3 : Nat → Nat) (q4 : Nat) (a4 : Nat → Nat) (q5 : Nat) (a5 : Nat → Nat) (q6 : Nat) (a6 : Nat → Nat) (q7 q8 q9 ka : Nat) (g : Nat → Nat) (b : Nat → Nat → Nat) : ssA q0 q1 a1 q2 a2 q3 a3 q4 a4 q5 a5 q6 a6 q7 q8 q9 ka g b 43 = a6 5 := rfl
theorem ssA_44 (q0 q1 : Nat) (a1 : Nat → Nat) (q2 : Nat) (a2 : Nat → Nat) (q3 : Nat) (a3 : Nat → Nat) (q4 : Nat) (a4 : Nat → Nat) (q5 : Nat) (a5 : Nat → Nat) (q6 : Nat) (a6 : Nat → Nat) (q7 q8 q9 ka : Nat) (g : Nat → Nat) (b : Nat → Nat → Nat) : ssA q0 q1 a1 q2 a2 q3 a3 q4 a4 q5 a5 q6 a6 q7 q8 q9 ka g b 44 = a6 6 := rfl
theorem ssA_45 (q0 q1 : Nat) (a1 : Nat → Nat) (q2 : Nat) (a2 : Nat → Nat) (q3 : Nat) (a3 : Nat → Nat) (q4 : Nat) (a4 : Nat → Nat) (q5 : Nat) (a5 : Nat → Nat) (q6 : Nat) (a6 : Nat → Nat) (q7 q8 q9 ka : Nat) (g : Nat → Nat) (b : Nat → Nat → Nat) : ssA q0 q1 a1 q2 a2 q3 a3 q4 a4 q5 a5 q6 a6 q7 q8 q9 ka g b 45 = q7 := rfl
theorem ssA_46 (q0 q1 : Nat) (a1 : Nat → Nat) (q2 : Nat) (a2 : Nat → Nat) (q3 : Nat) (a3 : Nat → Nat) (q4 : Nat) (a4 : Nat → Nat) (q5 : Nat) (a5 : Nat → Nat) (q6 : Nat) (a6 : Nat → Nat) (q7 q8 q9 ka : Nat) (g : Nat → Nat) (b : Nat → Nat → Nat) : ssA q0 q1 a1 q2 a2 q3 a3 q4 a4 q5 a5 q6 a6 q7 q8 q9 ka g b 46 = q8 := rfl
theorem ssA_47 (q0 q1 : Nat) (a1 : Nat → Nat) (q2 : Nat) (a2 : Nat → Nat) (q3 : Nat) (a3 : Nat → Nat) (q4 : Nat) (a4 : Nat → Nat) (q5 : Nat) (a5 : Nat → Nat) (q6 : Nat) (a6 : Nat → Nat) (q7 q8 q9 ka : Nat) (g : Nat → Nat) (b : Nat → Nat → Nat) : ssA q0 q1 a1 q2 a2 q3 a3 q4 a4 q5 a5 q6 a6 q7 q8 q9 ka g b 47 = q9 := rfl
theorem ssA_48 (q0 q1 : Nat) (a1 : Nat → Nat) (q2 : Nat) (a2 : Nat → Nat) (q3 : Nat) (a3 : Nat → Nat) (q4 : Nat) (a4 : Nat → Nat) (q5 : Nat) (a5 : Nat → Nat) (q6 : Nat) (a6 : Nat → Nat) (q7 q8 q9 ka : Nat) (g : Nat → Nat) (b : Nat → Nat → Nat) : ssA q0 q1 a1 q2 a2 q3 a3 q4 a4 q5 a5 q6 a6 q7 q8 q9 ka g b 48 = ka := rfl
theorem ssA_49 (q0 q1 : Nat) (a1 : Nat → Nat) (q2 : Nat) (a2 : Nat → Nat) (q3 : Nat) (a3 : Nat → Nat) (q4 : Nat) (a4 : Nat → Nat) (q5 : Nat) (a5 : Nat → Nat) (q6 : Nat) (a6 : Nat → Nat) (q7 q8 q9 ka : Nat) (g : Nat → Nat) (b : Nat → Nat → Nat) : ssA q0 q1 a1 q2 a2 q3 a3 q4 a4 q5 a5 q6 a6 q7 q8 q9 ka g b 49 = g 0 := rfl
theorem ssA_50 (q0 q1 : Nat) (a1 : Nat → Nat) (q2 : Nat) (a2 : Nat → Nat) (q3 : Nat) (a3 : Nat → Nat) (q4 : Nat) (a4 : Nat → Nat) (q5 : Nat) (a5 : Nat → Nat) (q6 : Nat) (a6 : Nat → Nat) (q7 q8 q9 ka : Nat) (g : Nat → Nat) (b : Nat → Nat → Nat) : ssA q0 q1 a1 q2 a2 q3 a3 q4 a4 q5 a5 q6 a6 q7 q8 q9 ka g b 50 = b 0 0 := rfl
theorem ssA_51 (q0 q1 : Nat) (a1 : Nat → Nat) (q2 : Nat) (a2 : Nat → Nat) (q3 : Nat) (a3 : Nat → Nat) (q4 : Nat) (a4 : Nat → Nat) (q5 : Nat) (a5 : Nat → Nat) (q6 : Nat) (a6 : Nat → Nat) (q7 q8 q9 ka : Nat) (g : Nat → Nat) (b : Nat → Nat → Nat) : ssA q0 q1 a1 q2 a2 q3 a3 q4 a4 q5 a5 q6 a6 q7 q8 q9 ka g b 51 = b 0 1 := rfl
theorem ssA_52 (q0 q1 : Nat) (a1 : Nat → Nat) (q2 : Nat) (a2 : Nat → Nat) (q3 : Nat) (a3 : Nat → Nat) (q4 : Nat) (a4 : Nat → Nat) (q5 : Nat) (a5 : Nat → Nat) (q6 : Nat) (a6 : Nat → Nat) (q7 q8 q9 ka : Nat) (g : Nat → Nat) (b : Nat → Nat → Nat) : ssA q0 q1 a1 q2 a2 q3 a3 q4 a4 q5 a5 q6 a6 q7 q8 q9 ka g b 52 = b 0 2 := rfl
theorem ssA_53 (q0 q1 : Nat) (a1 : Nat → Nat) (q2 : Nat) (a2 : Nat → Nat) (q3 : Nat) (a3 : Nat → Nat) (q4 : Nat) (a4 : Nat → Nat) (q5 : Nat) (a5 : Nat → Nat) (q6 : Nat) (a6 : Nat → Nat) (q7 q8 q9 ka : Nat) (g : Nat → Nat) (b : Nat → Nat → Nat) : ssA q0 q1 a1 q2 a2 q3 a3 q4 a4 q5 a5 q6 a6 q7 q8 q9 ka g b 53 = b 0 3 := rfl
theorem ssA_54 (q0 q1 : Nat) (a1 : Nat → Nat) (q2 : Nat) (a2 : Nat → Nat) (q3 : Nat) (a3 : Nat → Nat) (q4 : Nat) (a4 : Nat → Nat) (q5 : Nat) (a5 : Nat → Nat) (q6 : Nat) (a6 : Nat → Nat) (q7 q8 q9 ka : Nat) (g : Nat → Nat) (b : Nat → Nat → Nat) : ssA q0 q1 a1 q2 a2 q3 a3 q4 a4 q5 a5 q6 a6 q7 q8 q9 ka g b 54 = b 0 4 := rfl
theorem ssA_55 (q0 q1 : Nat) (a1 : Nat → Nat) (q2 : Nat) (a2 : Nat → Nat) (q3 : Nat) (a3 : Nat → Nat) (q4 : Nat) (a4 : Nat → Nat) (q5 : Nat) (a5 : Nat → Nat) (q6 : Nat) (a6 : Nat → Nat) (q7 q8 q9 ka : Nat) (g : Nat → Nat) (b : Nat → Nat → Nat) : ssA q0 q1 a1 q2 a2 q3 a3 q4 a4 q5 a5 q6 a6 q7 q8 q9 ka g b 55 = b 0 5 := rfl
theorem ssA_56 (q0 q1 : Nat) (a1 : Nat → Nat) (q2 : Nat) (a2 : Nat → Nat) (q3 : Nat) (a3 : Nat → Nat) (q4 : Nat) (a4 : Nat → Nat) (q5 : Nat) (a5 : Nat → Nat) (q6 : Nat) (a6 : Nat → Nat) (q7 q8 q9 ka : Nat) (g : Nat → Nat) (b : Nat → Nat → Nat) : ssA q0 q1 a1 q2 a2 q3 a3 q4 a4 q5 a5 q6 a6 q7 q8 q9 ka g b 56 = b 0 6 := rfl
theorem ssA_57 (q0 q1 : Nat) (a1 : Nat → Nat) (q2 : Nat) (a2 : Nat → Nat) (q3 : Nat) (a3 : Nat → Nat) (q4 : Nat) (a4 : Nat → Nat) (q5 : Nat) (a5 : Nat → Nat) (q6 : Nat) (a6 : Nat → Nat) (q7 q8 q9 ka : Nat) (g : Nat → Nat) (b : Nat → Nat → Nat) : ssA q0 q1 a1 q2 a2 q3 a3 q4 a4 q5 a5 q6 a6 q7 q8 q9 ka g b 57 = g 1 := rfl
theorem ssA_58 (q0 q1 : Nat) (a1 : Nat → Nat) (q2 : Nat) (a2 : Nat → Nat) (q3 : Nat) (a3 : Nat → Nat) (q4 : Nat) (a4 : Nat → Nat) (q5 : Nat) (a5 : Nat → Nat) (q6 : Nat) (a6 : Nat → Nat) (q7 q8 q9 ka : Nat) (g : Nat → Nat) (b : Nat → Nat → Nat) : ssA q0 q1 a1 q2 a2 q3 a3 q4 a4 q5 a5 q6 a6 q7 q8 q9 ka g b 58 = b 1 0 := rfl
theorem ssA_59 (q0 q1 : Nat) (a1 : Nat → Nat) (q2 : Nat) (a2 : Nat → Nat) (q3 : Nat) (a3 : Nat → Nat) (q4 : Nat) (a4 : Nat → Nat) (q5 : Nat) (a5 : Nat → Nat) (q6 : Nat) (a6 : Nat → Nat) (q7 q8 q9 ka : Nat) (g : Nat → Nat) (b : Nat → Nat → Nat) : ssA q0 q1 a1 q2 a2 q3 a3 q4 a4 q5 a5 q6 a6 q7 q8 q9 ka g b 59 = b 1 1 := rfl
theorem ssA_60 (q0 q1 : Nat) (a1 : Nat → Nat) (q2 : Nat) (a2 : Nat → Nat) (q3 : Nat) (a3 : Nat → Nat) (q4 : Nat) (a4 : Nat → Nat) (q5 : Nat) (a5 : Nat → Nat) (q6 : Nat) (a6 : Nat → Nat) (q7 q8 q9 ka : Nat) (g : Nat → Nat) (b : Nat → Nat → Nat) : ssA q0 q1 a1 q2 a2 q3 a3 q4 a4 q5 a5 q6 a6 q7 q8 q9 ka g b 60 = b 1 2 := rfl
theorem ssA_61 (q0 q1 : Nat) (a1 : Nat → Nat) (q2 : Nat) (a2 : Nat → Nat) (q3 : Nat) (a3 : Nat → Nat) (q4 : Nat) (a4 : Nat → Nat) (q5 : Nat) (a5 : Nat → Nat) (q6 : Nat) (a6 : Nat → Nat) (q7 q8 q9 ka : Nat) (g : Nat → Nat) (b : Nat → Nat → Nat) : ssA q0 q1 a1 q2 a2 q3 a3 q4 a4 q5 a5 q6 a6 q7 q8 q9 ka g b 61 = b 1 3 := rfl
theorem ssA_62 (q0 q1 : Nat) (a1 : Nat → Nat) (q2 : Nat) (a2 : Nat → Nat) (q3 : Nat) (a3 : Nat → Nat) (q4 : Nat) (a4 : Nat → Nat) (q5 : Nat) (a5 : Nat → Nat) (q6 : Nat) (a6 : Nat → Nat) (q7 q8 q9 ka : Nat) (g : Nat → Nat) (b : Nat → Nat → Nat) : ssA q0 q1 a1 q2 a2 q3 a3 q4 a4 q5 a5 q6 a6 q7 q8 q9 ka g b 62 = b 1 4 := rfl
theorem ssA_63 (q0 q1 : Nat) (a1 : Nat → Nat) (q2 : Nat) (a2 : Nat → Nat) (q3 : Nat) (a3 : Nat → Nat) (q4 : Nat) (a4 : Nat → Nat) (q5 : Nat) (a5 : Nat → Nat) (q6 : Nat) (a6 : Nat → Nat) (q7 q8 q9 ka : Nat) (g : Nat → Nat) (b : Nat → Nat → Nat) : ssA q0 q1 a1 q2 a2 q3 a3 q4 a4 q5 a5 q6 a6 q7 q8 q9 ka g b 63 = b 1 5 := rfl
theorem ssA_64 (q0 q1 : Nat) (a1 : Nat → Nat) (q2 : Nat) (a2 : Nat → Nat) (q3 : Nat) (a3 : Nat → Nat) (q4 : Nat) (a4 : Nat → Nat) (q5 : Nat) (a5 : Nat → Nat) (q6 : Nat) (a6 : Nat → Nat) (q7 q8 q9 ka : Nat) (g : Nat → Nat) (b : Nat → Nat → Nat) : ssA q0 q1 a1 q2 a2 q3 a3 q4 a4 q5 a5 q6 a6 q7 q8 q9 ka g b 64 = b 1 6 := rfl
theorem ssA_65 (q0 q1 : Nat) (a1 : Nat → Nat) (q2 : Nat) (a2 : Nat → Nat) (q3 : Nat) (a3 : Nat → Nat) (q4 : Nat) (a4 : Nat → Nat) (q5 : Nat) (a5 : Nat → Nat) (q6 : Nat) (a6 : Nat → Nat) (q7 q8 q9 ka : Nat) (g : Nat → Nat) (b : Nat → Nat → Nat) : ssA q0 q1 a1 q2 a2 q3 a3 q4 a4 q5 a5 q6 a6 q7 q8 q9 ka g b 65 = g 2 := rfl
theorem ssA_66 (q0 q1 : Nat) (a1 : Nat → Nat) (q2 : Nat) (a2 : Nat → Nat) (q3 : Nat) (a3 : Nat → Nat) (q4 : Nat) (a4 : Nat → Nat) (q5 : Nat) (a5 : Nat → Nat) (q6 : Nat) (a6 : Nat → Nat) (q7 q8 q9 ka : Nat) (g : Nat → Nat) (b : Nat → Nat → Nat) : ssA q0 q1 a1 q2 a2 q3 a3 q4 a4 q5 a5 q6 a6 q7 q8 q9 ka g b 66 = b 2 0 := rfl
theorem ssA_67 (q0 q1 : Nat) (a1 : Nat → Nat) (q2 : Nat) (a2 : Nat → Nat) (q3 : Nat) (a3 : Nat → Nat) (q4 : Nat) (a4 : Nat → Nat) (q5 : Nat) (a5 : Nat → Nat) (q6 : Nat) (a6 : Nat → Nat) (q7 q8 q9 ka : Nat) (g : Nat → Nat) (b : Nat → Nat → Nat) : ssA q0 q1 a1 q2 a2 q3 a3 q4 a4 q5 a5 q6 a6 q7 q8 q9 ka g b 67 = b 2 1 := rfl
theorem ssA_68 (q0 q1 : Nat) (a1 : Nat → Nat) (q2 : Nat) (a2 : Nat → Nat) (q3 : Nat) (a3 : Nat → Nat) (q4 : Nat) (a4 : Nat → Nat) (q5 : Nat) (a5 : Nat → Nat) (q6 : Nat) (a6 : Nat → Nat) (q7 q8 q9 ka : Nat) (g : Nat → Nat) (b : Nat → Nat → Nat) : ssA q0 q1 a1 q2 a2 q3 a3 q4 a4 q5 a5 q6 a6 q7 q8 q9 ka g b 68 = b 2 2 := rfl
theorem ssA_69 (q0 q1 : Nat) (a1 : Nat → Nat) (q2 : Nat) (a2 : Nat → Nat) (q3 : Nat) (a3 : Nat → Nat) (q4 : Nat) (a4 : Nat → Nat) (q5 : Nat) (a5 : Nat → Nat) (q6 : Nat) (a6 : Nat → Nat) (q7 q8 q9 ka : Nat) (g : Nat → Nat) (b : Nat → Nat → Nat) : ssA q0 q1 a1 q2 a2 q3 a3 q4 a4 q5 a5 q6 a6 q7 q8 q9 ka g b 69 = b 2 3 := rfl
theorem ssA_70 (q0 q1 : Nat) (a1 : Nat → Nat) (q2 : Nat) (a2 : Nat → Nat) (q3 : Nat) (a3 : Nat → Nat) (q4 : Nat) (a4 : Nat → Nat) (q5 : Nat) (a5 : Nat → Nat) (q6 : Nat) (a6 : Nat → Nat) (q7 q8 q9 ka : Nat) (g : Nat → Nat) (b : Nat → Nat → Nat) : ssA q0 q1 a1 q2 a2 q3 a3 q4 a4 q5 a5 q6 a6 q7 q8 q9 ka g b 70 = b 2 4 := rfl
theorem ssA_71 (q0 q1 : Nat) (a1 : Nat → Nat) (q2 : Nat) (a2 : Nat → Nat) (q3 : Nat) (a3 : Nat → Nat) (q4 : Nat) (a4 : Nat → Nat) (q5 : Nat) (a5 : Nat → Nat) (q6 : Nat) (a6 : Nat → Nat) (q7 q8 q9 ka : Nat) (g : Nat → Nat) (b : Nat → Nat → Nat) : ssA q0 q1 a1 q2 a2 q3 a3 q4 a4 q5 a5 q6 a6 q7 q8 q9 ka g b 71 = b 2 5 := rfl
theorem ssA_72 (q0 q1 : Nat) (a1 : Nat → Nat) (q2 : Nat) (a2 : Nat → Nat) (q3 : Nat) (a3 : Nat → Nat) (q4 : Nat) (a4 : Nat → Nat) (q5 : Nat) (a5 : Nat → Nat) (q6 : Nat) (a6 : Nat → Nat) (q7 q8 q9 ka : Nat) (g : Nat → Nat) (b : Nat → Nat → Nat) : ssA q0 q1 a1 q2 a2 q3 a3 q4 a4 q5 a5 q6 a6 q7 q8 q9 ka g b 72 = b 2 6 := rfl
theorem ssA_73 (q0 q1 : Nat) (a1 : Nat → Nat) (q2 : Nat) (a2 : Nat → Nat) (q3 : Nat) (a3 : Nat → Nat) (q4 : Nat) (a4 : Nat → Nat) (q5 : Nat) (a5 : Nat → Nat) (q6 : Nat) (a6 : Nat → Nat) (q7 q8 q9 ka : Nat) (g : Nat → Nat) (b : Nat → Nat → Nat) : ssA q0 q1 a1 q2 a2 q3 a3 q4 a4 q5 a5 q6 a6 q7 q8 q9 ka g b 73 = g 3 := rfl
theorem ssA_74 (q0 q1 : Nat) (a1 : Nat → Nat) (q2 : Nat) (a2 : Nat → Nat) (q3 : Nat) (a3 : Nat → Nat) (q4 : Nat) (a4 : Nat → Nat) (q5 : Nat) (a5 : Nat → Nat) (q6 : Nat) (a6 : Nat → Nat) (q7 q8 q9 ka : Nat) (g : Nat → Nat) (b : Nat → Nat → Nat) : ssA q0 q1 a1 q2 a2 q3 a3 q4 a4 q5 a5 q6 a6 q7 q8 q9 ka g b 74 = b 3 0 := rfl
theorem ssA_75 (q0 q1 : Nat) (a1 : Nat → Nat) (q2 : Nat) (a2 : Nat → Nat) (q3 : Nat) (a3 : Nat → Nat) (q4 : Nat) (a4 : Nat → Nat) (q5 : Nat) (a5 : Nat → Nat) (q6 : Nat) (a6 : Nat → Nat) (q7 q8 q9 ka : Nat) (g : Nat → Nat) (b : Nat → Nat → Nat) : ssA q0 q1 a1 q2 a2 q3 a3 q4 a4 q5 a5 q6 a6 q7 q8 q9 ka g b 75 = b 3 1 := rfl
theorem ssA_76 (q0 q1 : Nat) (a1 : Nat → Nat) (q2 : Nat) (a2 : Nat → Nat) (q3 : Nat) (a3 : Nat → Nat) (q4 : Nat) (a4 : Nat → Nat) (q5 : Nat) (a5 : Nat → Nat) (q6 : Nat) (a6 : Nat → Nat) (q7 q8 q9 ka : Nat) (g : Nat → Nat) (b : Nat → Nat → Nat) : ssA q0 q1 a1 q2 a2 q3 a3 q4 a4 q5 a5 q6 a6 q7 q8 q9 ka g b 76 = b 3 2 := rfl
theorem ssA_77 (q0 q1 : Nat) (a1 : Nat → Nat) (q2 : Nat) (a2 : Nat → Nat) (q3 : Nat) (a3 : Nat → Nat) (q4 : Nat) (a4 : Nat → Nat) (q5 : Nat) (a5 : Nat → Nat) (q6 : Nat) (a6 : Nat → Nat) (q7 q8 q9 ka : Nat) (g : Nat → Nat) (b : Nat → Nat → Nat) : ssA q0 q1 a1 q2 a2 q3 a3 q4 a4 q5 a5 q6 a6 q7 q8 q9 ka g b 77 = b 3 3 := rfl
theorem ssA_78 (q0 q1 : Nat) (a1 : Nat → Nat) (q2 : Nat) (a2 : Nat → Nat) (q3 : Nat) (a3 : Nat → Nat) (q4 : Nat) (a4 : Nat → Nat) (q5 : Nat) (a5 : Nat → Nat) (q6 : Nat) (a6 : Nat → Nat) (q7 q8 q9 ka : Nat) (g : Nat → Nat) (b : Nat → Nat → Nat) : ssA q0 q1 a1 q2 a2 q3 a3 q4 a4 q5 a5 q6 a6 q7 q8 q9 ka g b 78 = b 3 4 := rfl
theorem ssA_79 (q0 q1 : Nat) (a1 : Nat → Nat) (q2 : Nat) (a2 : Nat → Nat) (q3 : Nat) (a3 : Nat → Nat) (q4 : Nat) (a4 : Nat → Nat) (q5 : Nat) (a5 : Nat → Nat) (q6 : Nat) (a6 : Nat → Nat) (q7 q8 q9 ka : Nat) (g : Nat → Nat) (b : Nat → Nat → Nat) : ssA q0 q1 a1 q2 a2 q3 a3 q4 a4 q5 a5 q6 a6 q7 q8 q9 ka g b 79 = b 3 5 := rfl
theorem ssA_80 (q0 q1 : Nat) (a1 : Nat → Nat) (q2 : Nat) (a2 : Nat → Nat) (q3 : Nat) (a3 : Nat → Nat) (q4 : Nat) (a4 : Nat → Nat) (q5 : Nat) (a5 : Nat → Nat) (q6 : Nat) (a6 : Nat → Nat) (q7 q8 q9 ka : Nat) (g : Nat → Nat) (b : Nat → Nat → Nat) : ssA q0 q1 a1 q2 a2 q3 a3 q4 a4 q5 a5 q6 a6 q7 q8 q9 ka g b 80 = b 3 6 := rfl
set_option maxHeartbeats 4000000 in
set_option maxRecDepth 100000 in
theorem ss_world (cI cG : ClassId) (q0 q1 : Nat) (a1 : Nat → Nat) (q2 : Nat) (a2 : Nat → Nat) (q3 : Nat) (a3 : Nat → Nat) (q4 : Nat) (a4 : Nat → Nat) (q5 : Nat) (a5 : Nat → Nat) (q6 : Nat) (a6 : Nat → Nat) (q7 q8 q9 ka : Nat) (g : Nat → Nat) (b : Nat → Nat → Nat) : (((((((([(q0, .inr (6, [.ref q1, .ref q2, .ref q3, .ref q4, .ref q5, .ref q6, .ref q7, .ref q8, .ref q9]))] ++ leC cI q1 a1) ++ reC cI q2 a2) ++ plC cI q3 a3) ++ plC cI q4 a4) ++ grC cI q4 q5 a5) ++ grC cI q4 q6 a6) ++ coC q4 q5 q7) ++ coC q4 q6 q8) ++ paC cI cG q4 q9 ka g b = zW cI cG (ssA q0 q1 a1 q2 a2 q3 a3 q4 a4 q5 a5 q6 a6 q7 q8 q9 ka g b) shX h00 := by
  have ek : (fun j : Nat => ([g 0, g 1, g 2, g 3] : List Nat)[j]?) = fun j : Nat => (([49, 57, 65, 73] : List Nat)[j]?).map (ssA q0 q1 a1 q2 a2 q3 a3 q4 a4 q5 a5 q6 a6 q7 q8 q9 ka g b) := by
    funext j
    rw [← List.getElem?_map]
    simp only [List.map_cons, List.map_nil, ssA_49, ssA_57, ssA_65, ssA_73]
  rw [← ssM_eq]
  unfold paC ssM
  rw [ek]
  simp only [ssA_0, ssA_1, ssA_2, ssA_3, ssA_4, ssA_5, ssA_6, ssA_7, ssA_8, ssA_9, ssA_10, ssA_11, ssA_12, ssA_13, ssA_14, ssA_15, ssA_16, ssA_17, ssA_18, ssA_19, ssA_20, ssA_21, ssA_22, ssA_23, ssA_24, ssA_25, ssA_26, ssA_27, ssA_28, ssA_29, ssA_30, ssA_31, ssA_32, ssA_33, ssA_34, ssA_35, ssA_36, ssA_37, ssA_38, ssA_39, ssA_40, ssA_41, ssA_42, ssA_43, ssA_44, ssA_45, ssA_46, ssA_47, ssA_48, ssA_49, ssA_50, ssA_51, ssA_52, ssA_53, ssA_54, ssA_55, ssA_56, ssA_57, ssA_58, ssA_59, ssA_60, ssA_61, ssA_62, ssA_63, ssA_64, ssA_65, ssA_66, ssA_67, ssA_68, ssA_69, ssA_70, ssA_71, ssA_72, ssA_73, ssA_74, ssA_75, ssA_76, ssA_77, ssA_78, ssA_79, ssA_80]
  rfl
theorem iX6_init_0 : zI cX6_init 0 (.aload_n 0) 1 1 := ⟨by decide +kernel, rfl⟩
theorem oX6_3 : zO RX6 3 := ⟨(zmem 83 (by decide +kernel) (by decide +kernel)), (zmem 84 (by decide +kernel) (by decide +kernel)), (zmem 85 rfl rfl)⟩
theorem iX6_init_1 : zI cX6_init 1 (.invokespecial 3) 3 4 := ⟨by decide +kernel, rfl⟩
theorem iX6_init_4 : zI cX6_init 4 (.aload_n 0) 1 5 := ⟨by decide +kernel, rfl⟩
theorem mkX6_9 : zMk RX6 9 2 2 [.null, .int 0] := ⟨RX2, TX2, tyX2, rfl, (zmem 86 (by decide +kernel) (by decide +kernel)), (zmem 87 (by decide +kernel) (by decide +kernel)), (zmem 64 (by decide +kernel) (by decide +kernel)), u_inX2, tyX2_ok, fun j hj => by rcases (show j = 0 ∨ j = 1 by omega) with rfl | rfl <;> rfl⟩
theorem iX6_init_5 : zI cX6_init 5 (.new 9) 3 8 := ⟨by decide +kernel, rfl⟩
theorem iX6_init_8 : zI cX6_init 8 (.dup) 1 9 := ⟨by decide +kernel, rfl⟩
set_option maxRecDepth 100000 in
theorem ciX2 : zCi yX2_init cX2_init 1 0 := ⟨(zmem 64 (by decide +kernel) (by decide +kernel)), (zmem 90 rfl rfl), ⟨by decide, by decide, by decide +kernel⟩, by decide, rfl, (zmem 89 (by decide +kernel) (by decide +kernel))⟩
theorem iX6_init_9 : zI cX6_init 9 (.invokespecial 11) 3 12 := ⟨by decide +kernel, rfl⟩
theorem ffX6_12 : zFf RX6 12 6 0 := ⟨RX6, TX6, 9, rfl, by decide, (zmem 451 (by decide +kernel) (by decide +kernel)), u_inX6, by decide +kernel, by decide +kernel, ⟨tyX6, tyX6_ok⟩, nmX6, tyX6 0, tyX6_ok 0 (by decide), fun _ => rfl, fun _ => rfl⟩
theorem iX6_init_12 : zI cX6_init 12 (.putfield 12) 3 15 := ⟨by decide +kernel, rfl⟩
theorem iX6_init_15 : zI cX6_init 15 (.aload_n 0) 1 16 := ⟨by decide +kernel, rfl⟩
theorem mkX6_16 : zMk RX6 16 5 1 [.null] := ⟨RX5, TX5, tyX5, rfl, (zmem 103 (by decide +kernel) (by decide +kernel)), (zmem 104 (by decide +kernel) (by decide +kernel)), (zmem 65 (by decide +kernel) (by decide +kernel)), u_inX5, tyX5_ok, fun j hj => by rcases (show j = 0 by omega) with rfl <;> rfl⟩
theorem iX6_init_16 : zI cX6_init 16 (.new 16) 3 19 := ⟨by decide +kernel, rfl⟩
theorem iX6_init_19 : zI cX6_init 19 (.dup) 1 20 := ⟨by decide +kernel, rfl⟩
set_option maxRecDepth 100000 in
theorem ciX5 : zCi yX5_init cX5_init 1 0 := ⟨(zmem 65 (by decide +kernel) (by decide +kernel)), (zmem 107 rfl rfl), ⟨by decide, by decide, by decide +kernel⟩, by decide, rfl, (zmem 106 (by decide +kernel) (by decide +kernel))⟩
theorem iX6_init_20 : zI cX6_init 20 (.invokespecial 18) 3 23 := ⟨by decide +kernel, rfl⟩
theorem ffX6_19 : zFf RX6 19 6 1 := ⟨RX6, TX6, 9, rfl, by decide, (zmem 452 (by decide +kernel) (by decide +kernel)), u_inX6, by decide +kernel, by decide +kernel, ⟨tyX6, tyX6_ok⟩, nmX6, tyX6 1, tyX6_ok 1 (by decide), fun _ => rfl, fun _ => rfl⟩
theorem iX6_init_23 : zI cX6_init 23 (.putfield 19) 3 26 := ⟨by decide +kernel, rfl⟩
theorem iX6_init_26 : zI cX6_init 26 (.aload_n 0) 1 27 := ⟨by decide +kernel, rfl⟩
theorem mkX6_23 : zMk RX6 23 4 16 [.int 0, .int 0, .int 0, .int 0, .int 0, .null, .null, .null, .null, .null, .null, .null, .null, .null, .null, .null] := ⟨RX4, TX4, tyX4, rfl, (zmem 113 (by decide +kernel) (by decide +kernel)), (zmem 114 (by decide +kernel) (by decide +kernel)), (zmem 66 (by decide +kernel) (by decide +kernel)), u_inX4, tyX4_ok, fun j hj => by rcases (show j = 0 ∨ j = 1 ∨ j = 2 ∨ j = 3 ∨ j = 4 ∨ j = 5 ∨ j = 6 ∨ j = 7 ∨ j = 8 ∨ j = 9 ∨ j = 10 ∨ j = 11 ∨ j = 12 ∨ j = 13 ∨ j = 14 ∨ j = 15 by omega) with rfl | rfl | rfl | rfl | rfl | rfl | rfl | rfl | rfl | rfl | rfl | rfl | rfl | rfl | rfl | rfl <;> rfl⟩
theorem iX6_init_27 : zI cX6_init 27 (.new 23) 3 30 := ⟨by decide +kernel, rfl⟩
theorem iX6_init_30 : zI cX6_init 30 (.dup) 1 31 := ⟨by decide +kernel, rfl⟩
set_option maxRecDepth 100000 in
theorem ciX4 : zCi yX4_init cX4_init 1 0 := ⟨(zmem 66 (by decide +kernel) (by decide +kernel)), (zmem 117 rfl rfl), ⟨by decide, by decide, by decide +kernel⟩, by decide, rfl, (zmem 116 (by decide +kernel) (by decide +kernel))⟩
theorem iX6_init_31 : zI cX6_init 31 (.invokespecial 25) 3 34 := ⟨by decide +kernel, rfl⟩
theorem ffX6_26 : zFf RX6 26 6 2 := ⟨RX6, TX6, 9, rfl, by decide, (zmem 453 (by decide +kernel) (by decide +kernel)), u_inX6, by decide +kernel, by decide +kernel, ⟨tyX6, tyX6_ok⟩, nmX6, tyX6 2, tyX6_ok 2 (by decide), fun _ => rfl, fun _ => rfl⟩
theorem iX6_init_34 : zI cX6_init 34 (.putfield 26) 3 37 := ⟨by decide +kernel, rfl⟩
theorem iX6_init_37 : zI cX6_init 37 (.aload_n 0) 1 38 := ⟨by decide +kernel, rfl⟩
theorem iX6_init_38 : zI cX6_init 38 (.new 23) 3 41 := ⟨by decide +kernel, rfl⟩
theorem iX6_init_41 : zI cX6_init 41 (.dup) 1 42 := ⟨by decide +kernel, rfl⟩
theorem iX6_init_42 : zI cX6_init 42 (.invokespecial 25) 3 45 := ⟨by decide +kernel, rfl⟩
theorem ffX6_30 : zFf RX6 30 6 3 := ⟨RX6, TX6, 9, rfl, by decide, (zmem 454 (by decide +kernel) (by decide +kernel)), u_inX6, by decide +kernel, by decide +kernel, ⟨tyX6, tyX6_ok⟩, nmX6, tyX6 3, tyX6_ok 3 (by decide), fun _ => rfl, fun _ => rfl⟩
theorem iX6_init_45 : zI cX6_init 45 (.putfield 30) 3 48 := ⟨by decide +kernel, rfl⟩
theorem iX6_init_48 : zI cX6_init 48 (.aload_n 0) 1 49 := ⟨by decide +kernel, rfl⟩
theorem mkX6_33 : zMk RX6 33 1 12 [.null, .int 0, .null, .null, .null, .null, .null, .int 0, .null, .int 0, .null, .int 0] := ⟨RX1, TX1, tyX1, rfl, (zmem 197 (by decide +kernel) (by decide +kernel)), (zmem 198 (by decide +kernel) (by decide +kernel)), (zmem 67 (by decide +kernel) (by decide +kernel)), u_inX1, tyX1_ok, fun j hj => by rcases (show j = 0 ∨ j = 1 ∨ j = 2 ∨ j = 3 ∨ j = 4 ∨ j = 5 ∨ j = 6 ∨ j = 7 ∨ j = 8 ∨ j = 9 ∨ j = 10 ∨ j = 11 by omega) with rfl | rfl | rfl | rfl | rfl | rfl | rfl | rfl | rfl | rfl | rfl | rfl <;> rfl⟩
theorem iX6_init_49 : zI cX6_init 49 (.new 33) 3 52 := ⟨by decide +kernel, rfl⟩
theorem iX6_init_52 : zI cX6_init 52 (.dup) 1 53 := ⟨by decide +kernel, rfl⟩
theorem iX6_init_53 : zI cX6_init 53 (.aload_n 0) 1 54 := ⟨by decide +kernel, rfl⟩
theorem fiX6_30 : zFl RX6 30 6 3 := ⟨RX6, TX6, 9, rfl, by decide, (zmem 454 (by decide +kernel) (by decide +kernel)), u_inX6⟩
theorem iX6_init_54 : zI cX6_init 54 (.getfield 30) 3 57 := ⟨by decide +kernel, rfl⟩
theorem wiX6_35 : Cond.methodLink RX6 35 yX1_init ∈ zWd := (zmem 199 (by decide +kernel) (by decide +kernel))
theorem iX6_init_57 : zI cX6_init 57 (.invokespecial 35) 3 60 := ⟨by decide +kernel, rfl⟩
theorem ffX6_38 : zFf RX6 38 6 4 := ⟨RX6, TX6, 9, rfl, by decide, (zmem 455 (by decide +kernel) (by decide +kernel)), u_inX6, by decide +kernel, by decide +kernel, ⟨tyX6, tyX6_ok⟩, nmX6, tyX6 4, tyX6_ok 4 (by decide), fun _ => rfl, fun _ => rfl⟩
theorem iX6_init_60 : zI cX6_init 60 (.putfield 38) 3 63 := ⟨by decide +kernel, rfl⟩
theorem iX6_init_63 : zI cX6_init 63 (.aload_n 0) 1 64 := ⟨by decide +kernel, rfl⟩
theorem iX6_init_64 : zI cX6_init 64 (.new 33) 3 67 := ⟨by decide +kernel, rfl⟩
theorem iX6_init_67 : zI cX6_init 67 (.dup) 1 68 := ⟨by decide +kernel, rfl⟩
theorem iX6_init_68 : zI cX6_init 68 (.aload_n 0) 1 69 := ⟨by decide +kernel, rfl⟩
theorem iX6_init_69 : zI cX6_init 69 (.getfield 30) 3 72 := ⟨by decide +kernel, rfl⟩
theorem iX6_init_72 : zI cX6_init 72 (.invokespecial 35) 3 75 := ⟨by decide +kernel, rfl⟩
theorem ffX6_42 : zFf RX6 42 6 5 := ⟨RX6, TX6, 9, rfl, by decide, (zmem 456 (by decide +kernel) (by decide +kernel)), u_inX6, by decide +kernel, by decide +kernel, ⟨tyX6, tyX6_ok⟩, nmX6, tyX6 5, tyX6_ok 5 (by decide), fun _ => rfl, fun _ => rfl⟩
theorem iX6_init_75 : zI cX6_init 75 (.putfield 42) 3 78 := ⟨by decide +kernel, rfl⟩
theorem iX6_init_78 : zI cX6_init 78 (.aload_n 0) 1 79 := ⟨by decide +kernel, rfl⟩
theorem mkX6_45 : zMk RX6 45 0 5 [.null, .null, .int 0, .int 0, .int 0] := ⟨RX0, TX0, tyX0, rfl, (zmem 258 (by decide +kernel) (by decide +kernel)), (zmem 259 (by decide +kernel) (by decide +kernel)), (zmem 68 (by decide +kernel) (by decide +kernel)), u_inX0, tyX0_ok, fun j hj => by rcases (show j = 0 ∨ j = 1 ∨ j = 2 ∨ j = 3 ∨ j = 4 by omega) with rfl | rfl | rfl | rfl | rfl <;> rfl⟩
theorem iX6_init_79 : zI cX6_init 79 (.new 45) 3 82 := ⟨by decide +kernel, rfl⟩
theorem iX6_init_82 : zI cX6_init 82 (.dup) 1 83 := ⟨by decide +kernel, rfl⟩
theorem iX6_init_83 : zI cX6_init 83 (.aload_n 0) 1 84 := ⟨by decide +kernel, rfl⟩
theorem iX6_init_84 : zI cX6_init 84 (.getfield 30) 3 87 := ⟨by decide +kernel, rfl⟩
theorem iX6_init_87 : zI cX6_init 87 (.aload_n 0) 1 88 := ⟨by decide +kernel, rfl⟩
theorem fiX6_38 : zFl RX6 38 6 4 := ⟨RX6, TX6, 9, rfl, by decide, (zmem 455 (by decide +kernel) (by decide +kernel)), u_inX6⟩
theorem iX6_init_88 : zI cX6_init 88 (.getfield 38) 3 91 := ⟨by decide +kernel, rfl⟩
set_option maxRecDepth 100000 in
theorem ciX0 : zCi yX0_init cX0_init 3 2 := ⟨(zmem 68 (by decide +kernel) (by decide +kernel)), (zmem 262 rfl rfl), ⟨by decide, by decide, by decide +kernel⟩, by decide, rfl, (zmem 261 (by decide +kernel) (by decide +kernel))⟩
theorem wiX6_47 : Cond.methodLink RX6 47 yX0_init ∈ zWd := (zmem 260 (by decide +kernel) (by decide +kernel))
theorem iX6_init_91 : zI cX6_init 91 (.invokespecial 47) 3 94 := ⟨by decide +kernel, rfl⟩
theorem ffX6_50 : zFf RX6 50 6 6 := ⟨RX6, TX6, 9, rfl, by decide, (zmem 457 (by decide +kernel) (by decide +kernel)), u_inX6, by decide +kernel, by decide +kernel, ⟨tyX6, tyX6_ok⟩, nmX6, tyX6 6, tyX6_ok 6 (by decide), fun _ => rfl, fun _ => rfl⟩
theorem iX6_init_94 : zI cX6_init 94 (.putfield 50) 3 97 := ⟨by decide +kernel, rfl⟩
theorem iX6_init_97 : zI cX6_init 97 (.aload_n 0) 1 98 := ⟨by decide +kernel, rfl⟩
theorem iX6_init_98 : zI cX6_init 98 (.new 45) 3 101 := ⟨by decide +kernel, rfl⟩
theorem iX6_init_101 : zI cX6_init 101 (.dup) 1 102 := ⟨by decide +kernel, rfl⟩
theorem iX6_init_102 : zI cX6_init 102 (.aload_n 0) 1 103 := ⟨by decide +kernel, rfl⟩
theorem iX6_init_103 : zI cX6_init 103 (.getfield 30) 3 106 := ⟨by decide +kernel, rfl⟩
theorem iX6_init_106 : zI cX6_init 106 (.aload_n 0) 1 107 := ⟨by decide +kernel, rfl⟩
theorem fiX6_42 : zFl RX6 42 6 5 := ⟨RX6, TX6, 9, rfl, by decide, (zmem 456 (by decide +kernel) (by decide +kernel)), u_inX6⟩
theorem iX6_init_107 : zI cX6_init 107 (.getfield 42) 3 110 := ⟨by decide +kernel, rfl⟩
theorem iX6_init_110 : zI cX6_init 110 (.invokespecial 47) 3 113 := ⟨by decide +kernel, rfl⟩
theorem ffX6_54 : zFf RX6 54 6 7 := ⟨RX6, TX6, 9, rfl, by decide, (zmem 458 (by decide +kernel) (by decide +kernel)), u_inX6, by decide +kernel, by decide +kernel, ⟨tyX6, tyX6_ok⟩, nmX6, tyX6 7, tyX6_ok 7 (by decide), fun _ => rfl, fun _ => rfl⟩
theorem iX6_init_113 : zI cX6_init 113 (.putfield 54) 3 116 := ⟨by decide +kernel, rfl⟩
theorem iX6_init_116 : zI cX6_init 116 (.aload_n 0) 1 117 := ⟨by decide +kernel, rfl⟩
theorem mkX6_57 : zMk RX6 57 3 3 [.null, .int 0, .int 0] := ⟨RX3, TX3, tyX3, rfl, (zmem 283 (by decide +kernel) (by decide +kernel)), (zmem 284 (by decide +kernel) (by decide +kernel)), (zmem 69 (by decide +kernel) (by decide +kernel)), u_inX3, tyX3_ok, fun j hj => by rcases (show j = 0 ∨ j = 1 ∨ j = 2 by omega) with rfl | rfl | rfl <;> rfl⟩
theorem iX6_init_117 : zI cX6_init 117 (.new 57) 3 120 := ⟨by decide +kernel, rfl⟩
theorem iX6_init_120 : zI cX6_init 120 (.dup) 1 121 := ⟨by decide +kernel, rfl⟩
theorem iX6_init_121 : zI cX6_init 121 (.aload_n 0) 1 122 := ⟨by decide +kernel, rfl⟩
theorem iX6_init_122 : zI cX6_init 122 (.getfield 30) 3 125 := ⟨by decide +kernel, rfl⟩
set_option maxRecDepth 100000 in
theorem ciX3 : zCi yX3_init cX3_init 3 1 := ⟨(zmem 69 (by decide +kernel) (by decide +kernel)), (zmem 287 rfl rfl), ⟨by decide, by decide, by decide +kernel⟩, by decide, rfl, (zmem 286 (by decide +kernel) (by decide +kernel))⟩
theorem wiX6_59 : Cond.methodLink RX6 59 yX3_init ∈ zWd := (zmem 285 (by decide +kernel) (by decide +kernel))
theorem iX6_init_125 : zI cX6_init 125 (.invokespecial 59) 3 128 := ⟨by decide +kernel, rfl⟩
theorem ffX6_60 : zFf RX6 60 6 8 := ⟨RX6, TX6, 9, rfl, by decide, (zmem 459 (by decide +kernel) (by decide +kernel)), u_inX6, by decide +kernel, by decide +kernel, ⟨tyX6, tyX6_ok⟩, nmX6, tyX6 8, tyX6_ok 8 (by decide), fun _ => rfl, fun _ => rfl⟩
theorem iX6_init_128 : zI cX6_init 128 (.putfield 60) 3 131 := ⟨by decide +kernel, rfl⟩
theorem iX6_init_192 : zI cX6_init 192 (.return_) 1 193 := ⟨by decide +kernel, rfl⟩
theorem iX6_init_131 : zI cX6_init 131 (.iconst 0) 1 132 := ⟨by decide +kernel, rfl⟩
theorem iX6_init_132 : zI cX6_init 132 (.istore_n 1) 1 133 := ⟨by decide +kernel, rfl⟩
theorem iX6_init_162 : zI cX6_init 162 (.aload_n 0) 1 163 := ⟨by decide +kernel, rfl⟩
theorem fiX6_19 : zFl RX6 19 6 1 := ⟨RX6, TX6, 9, rfl, by decide, (zmem 452 (by decide +kernel) (by decide +kernel)), u_inX6⟩
theorem iX6_init_163 : zI cX6_init 163 (.getfield 19) 3 166 := ⟨by decide +kernel, rfl⟩
theorem iX6_init_166 : zI cX6_init 166 (.aload_n 0) 1 167 := ⟨by decide +kernel, rfl⟩
theorem fiX6_12 : zFl RX6 12 6 0 := ⟨RX6, TX6, 9, rfl, by decide, (zmem 451 (by decide +kernel) (by decide +kernel)), u_inX6⟩
theorem iX6_init_167 : zI cX6_init 167 (.getfield 12) 3 170 := ⟨by decide +kernel, rfl⟩
theorem iX6_init_170 : zI cX6_init 170 (.aload_n 0) 1 171 := ⟨by decide +kernel, rfl⟩
theorem iX6_init_171 : zI cX6_init 171 (.getfield 30) 3 174 := ⟨by decide +kernel, rfl⟩
theorem iX6_init_174 : zI cX6_init 174 (.invokevirtual 80) 3 177 := ⟨by decide +kernel, rfl⟩
theorem iX6_init_177 : zI cX6_init 177 (.pop) 1 178 := ⟨by decide +kernel, rfl⟩
theorem iX6_init_178 : zI cX6_init 178 (.aload_n 0) 1 179 := ⟨by decide +kernel, rfl⟩
theorem iX6_init_179 : zI cX6_init 179 (.getfield 12) 3 182 := ⟨by decide +kernel, rfl⟩
theorem iX6_init_182 : zI cX6_init 182 (.invokevirtual 84) 3 185 := ⟨by decide +kernel, rfl⟩
theorem iX6_init_185 : zI cX6_init 185 (.aload_n 0) 1 186 := ⟨by decide +kernel, rfl⟩
theorem iX6_init_186 : zI cX6_init 186 (.getfield 38) 3 189 := ⟨by decide +kernel, rfl⟩
theorem iX6_init_189 : zI cX6_init 189 (.invokevirtual 87) 3 192 := ⟨by decide +kernel, rfl⟩
theorem iX6_init_133 : zI cX6_init 133 (.iload_n 1) 1 134 := ⟨by decide +kernel, rfl⟩
theorem iX6_init_134 : zI cX6_init 134 (.ldc 64) 2 136 := ⟨by decide +kernel, rfl⟩
theorem iX6_init_136 : zI cX6_init 136 (.invokevirtual 66) 3 139 := ⟨by decide +kernel, rfl⟩
theorem iX6_init_139 : zI cX6_init 139 (.if_icmp .ge 23) 3 142 := ⟨by decide +kernel, rfl⟩
theorem iX6_init_142 : zI cX6_init 142 (.aload_n 0) 1 143 := ⟨by decide +kernel, rfl⟩
theorem iX6_init_143 : zI cX6_init 143 (.getfield 12) 3 146 := ⟨by decide +kernel, rfl⟩
theorem iX6_init_146 : zI cX6_init 146 (.ldc 64) 2 148 := ⟨by decide +kernel, rfl⟩
theorem iX6_init_148 : zI cX6_init 148 (.iload_n 1) 1 149 := ⟨by decide +kernel, rfl⟩
theorem iX6_init_149 : zI cX6_init 149 (.invokevirtual 72) 3 152 := ⟨by decide +kernel, rfl⟩
theorem iX6_init_152 : zI cX6_init 152 (.invokevirtual 76) 3 155 := ⟨by decide +kernel, rfl⟩
theorem iX6_init_155 : zI cX6_init 155 (.pop) 1 156 := ⟨by decide +kernel, rfl⟩
theorem iX6_init_156 : zI cX6_init 156 (.iinc 1 1) 3 159 := ⟨by decide +kernel, rfl⟩
theorem iX6_init_159 : zI cX6_init 159 (.goto (-26)) 3 162 := ⟨by decide +kernel, rfl⟩
set_option maxHeartbeats 4000000 in
set_option maxRecDepth 100000 in
theorem ss_rest {X : kX} {D : va_G} {cI cG : ClassId} {A : Nat → Prop} {k0 v0 : Nat} {v : Int32} {h1 h3 : zH} (q0 q1 : Nat) (a1 : Nat → Nat) (q2 : Nat) (a2 : Nat → Nat) (q3 : Nat) (a3 : Nat → Nat) (q4 : Nat) (a4 : Nat → Nat) (q5 : Nat) (a5 : Nat → Nat) (q6 : Nat) (a6 : Nat → Nat) (q7 q8 q9 ka : Nat) (g : Nat → Nat) (b : Nat → Nat → Nat) (ad : Nat → Nat) (had : ad = ssA q0 q1 a1 q2 a2 q3 a3 q4 a4 q5 a5 q6 a6 q7 q8 q9 ka g b) (C : kC X D cI cG A (kS1 k0 v0 A) cX6_init RX6 "<init>" 9 80 940) (hnL : 2 = X.2.2.2.2.2.2.2.2.2.2.1) (r1 : Re_read 17 hT = some (v, h1)) (r2 : Gr_layOut 29 (upd2 h1 1 1 0) = some h3) (hr : ∀ ws, (∃ ad : Nat → Nat, ad 0 = q0 ∧ ws = zW cI cG ad shX h3) → kG X D A 80 940 192 [some (.ref q0), none] [] ws) : kG X D A 80 940 131 [some (.ref q0), none] [] (zW cI cG ad shX h00) := by
  obtain rfl : ad 0 = q0 := by rw [had]; rfl
  clear had
  refine k_iconst C 0 iX6_init_131 (by decide) ?_
  refine k_istore_n (lv' := [some (.ref (ad 0)), some (.int (nI 0))]) C hnL iX6_init_132 (by decide) rfl ?_
  have behind : kG X D A 80 940 162 [some (.ref (ad 0)), none] [] (zW cI cG ad shX hT) := by
    refine k_aload_n C iX6_init_162 rfl ?_
    refine k_getZ C fiX6_19 iX6_init_163 sh0 rfl ?_
    refine k_aload_n C iX6_init_166 rfl ?_
    refine k_getZ C fiX6_12 iX6_init_167 sh0 rfl ?_
    refine k_aload_n C iX6_init_170 rfl ?_
    refine k_getZ C fiX6_30 iX6_init_171 sh0 rfl ?_
    refine k_callZ0 C wX6_80 iX6_init_174 (m_Re_read 17 isP17 hT) r1 (by decide) (fun s h => h.1) sh3 rfl rfl rfl rfl (Nat.le_of_ble_eq_true rfl) (Nat.le_of_ble_eq_true rfl) (Nat.le_of_ble_eq_true rfl) ?_
    show kG X D A 80 940 177 [some (.ref (ad 0)), none] [.int v] (zW cI cG ad shX h1)
    refine k_pop C iX6_init_177 rfl ?_
    refine k_aload_n C iX6_init_178 rfl ?_
    refine k_getZ C fiX6_12 iX6_init_179 sh0 rfl ?_
    refine k_callZ0 C wX6_84 iX6_init_182 (m_Le_clear h1) (clear_eq h1) (by decide) (fun s h => h.1) sh1 rfl rfl rfl rfl (Nat.le_of_ble_eq_true rfl) (Nat.le_of_ble_eq_true rfl) (Nat.le_of_ble_eq_true rfl) ?_
    show kG X D A 80 940 185 [some (.ref (ad 0)), none] [] (zW cI cG ad shX (upd2 h1 1 1 0))
    refine k_aload_n C iX6_init_185 rfl ?_
    refine k_getZ C fiX6_38 iX6_init_186 sh0 rfl ?_
    refine k_callZ0 C wX6_87 iX6_init_189 (m_Gr_layOut 29 isG29 (upd2 h1 1 1 0)) r2 (by decide) (fun s h => h.1) isG29.1 rfl rfl rfl rfl (Nat.le_of_ble_eq_true rfl) (Nat.le_of_ble_eq_true rfl) (Nat.le_of_ble_eq_true rfl) ?_
    show kG X D A 80 940 192 [some (.ref (ad 0)), none] [] (zW cI cG ad shX h3)
    exact hr _ ⟨ad, rfl, rfl⟩
  have loop : ∀ t i : Nat, i + t = 89 → kG X D A 80 940 133 [some (.ref (ad 0)), some (.int (nI i))] [] (zW cI cG ad shX (hTi i)) := by
    intro t
    induction t with
    | zero =>
      intro i hi
      have hi : i = 89 := by omega
      subst hi
      refine k_iload_n C iX6_init_133 rfl ?_
      refine k_ldcS C (fun s h => h.2.2.2.1) iX6_init_134 ?_
      refine k_callVS C wX6_66 (fun s h => h.2.2.2.2.1) iX6_init_136 (s_length k0 v0) (by decide) (sPe_E (fun s h => h.2.2.2.2)) rfl rfl (Nat.le_of_ble_eq_true rfl) (Nat.le_of_ble_eq_true rfl) (Nat.le_of_ble_eq_true rfl) ?_
      refine k_icmp_ge C 162 iX6_init_139 (by decide) (fun _ => ?_) (fun hh => absurd (by decide) hh)
      rw [hT89]
      exact k_sub (lv' := [some (.ref (ad 0)), none]) ⟨rfl, trivial⟩ behind
    | succ t ih =>
      intro i hi
      have hi89 : i < 89 := by omega
      refine k_iload_n C iX6_init_133 rfl ?_
      refine k_ldcS C (fun s h => h.2.2.2.1) iX6_init_134 ?_
      refine k_callVS C wX6_66 (fun s h => h.2.2.2.2.1) iX6_init_136 (s_length k0 v0) (by decide) (sPe_E (fun s h => h.2.2.2.2)) rfl rfl (Nat.le_of_ble_eq_true rfl) (Nat.le_of_ble_eq_true rfl) (Nat.le_of_ble_eq_true rfl) ?_
      refine k_icmp_ge C 162 iX6_init_139 (by decide) (fun hh => absurd hh (nI_ge (b := 89) (by omega) (by omega))) (fun _ => ?_)
      refine k_aload_n C iX6_init_142 rfl ?_
      refine k_getZ C fiX6_12 iX6_init_143 sh0 rfl ?_
      refine k_ldcS C (fun s h => h.2.2.2.1) iX6_init_146 ?_
      refine k_iload_n C iX6_init_148 rfl ?_
      refine k_callVS C wX6_72 (fun s h => h.2.2.2.2.1) iX6_init_149 (s_charAt k0 v0 hi89) (by decide) (sPe_E (fun s h => h.2.2.2.2)) rfl rfl (Nat.le_of_ble_eq_true rfl) (Nat.le_of_ble_eq_true rfl) (Nat.le_of_ble_eq_true rfl) ?_
      show kG X D A 80 940 152 [some (.ref (ad 0)), some (.int (nI i))] [.int (txt0.getD i 0), .ref (ad 1)] (zW cI cG ad shX (hTi i))
      refine k_callZ0 C wX6_76 iX6_init_152 (m_Le_add (txt0.getD i 0) (hTi i)) (hT_add hi89) (by decide) (fun s h => h.1) sh1 rfl rfl rfl rfl (Nat.le_of_ble_eq_true rfl) (Nat.le_of_ble_eq_true rfl) (Nat.le_of_ble_eq_true rfl) ?_
      show kG X D A 80 940 155 [some (.ref (ad 0)), some (.int (nI i))] [.int 1] (zW cI cG ad shX (hTi (i + 1)))
      refine k_pop C iX6_init_155 rfl ?_
      refine k_iinc (v := nI (i + 1)) (lv' := [some (.ref (ad 0)), some (.int (nI (i + 1)))]) C hnL iX6_init_156 (by decide) rfl (nI_1 i) rfl ?_
      refine k_goto C 133 iX6_init_159 (by decide) ?_
      exact ih (i + 1) (by omega)
  have := loop 89 0 rfl
  rwa [hT0] at this
set_option maxHeartbeats 4000000 in
set_option maxRecDepth 100000 in
theorem n_SS (q0 : Nat) {v : Int32} {h1 h3 : zH} (r1 : Re_read 17 hT = some (v, h1)) (r2 : Gr_layOut 29 (upd2 h1 1 1 0) = some h3) : kM yX6_init cX6_init 2 9 80 940 kSs [.ref q0] (q0, .inr (6, [.null, .null, .null, .null, .null, .null, .null, .null, .null])) (fun cI cG w => ∃ ad : Nat → Nat, ad 0 = q0 ∧ w = zW cI cG ad shX h3) := by
  refine kM.of (by decide) rfl rfl (Nat.le_of_ble_eq_true rfl) (fun X D cI cG A sz hA hnL C hr => ?_)
  obtain ⟨⟨k0, v0⟩, C⟩ := kC_ex C
  subst hA
  show kG X D (va_A [(q0, .inr (6, [.null, .null, .null, .null, .null, .null, .null, .null, .null]))] sz) 0 0 0 [some (.ref q0), none] [] [(q0, .inr (6, [.null, .null, .null, .null, .null, .null, .null, .null, .null]))]
  generalize va_A [(q0, .inr (6, [.null, .null, .null, .null, .null, .null, .null, .null, .null]))] sz = A at C hr ⊢
  refine k_aload_n C iX6_init_0 rfl ?_
  refine k_obj C oX6_3 iX6_init_1 (by decide) (Nat.le_of_ble_eq_true rfl) ?_
  refine k_aload_n C iX6_init_4 rfl ?_
  refine k_new C mkX6_9 iX6_init_5 (Nat.le_of_ble_eq_true rfl) (Nat.le_of_ble_eq_true rfl) (fun q1 => ?_)
  refine k_dup C iX6_init_8 rfl ?_
  refine k_callIN C ciX2 (fun s h => h.2.2.1 _ (List.mem_of_getElem? (i := 0) rfl)) iX6_init_9 (n_Le q1) (by decide) kE_T rfl rfl (Nat.le_of_ble_eq_true rfl) (Nat.le_of_ble_eq_true rfl) (Nat.le_of_ble_eq_true rfl) (fun w1 hw1 => ?_)
  obtain ⟨a1, rfl⟩ := hw1
  show kG X D A 2 202 12 [some (.ref q0), none] [.ref q1, .ref q0] ([(q0, .inr (6, [.null, .null, .null, .null, .null, .null, .null, .null, .null]))] ++ leC cI q1 a1)
  refine k_putF C 0 ffX6_12 iX6_init_12 rfl (Nat.le_of_ble_eq_true rfl) ?_
  show kG X D A 2 202 15 [some (.ref q0), none] [] ([(q0, .inr (6, [.ref q1, .null, .null, .null, .null, .null, .null, .null, .null]))] ++ leC cI q1 a1)
  refine k_aload_n C iX6_init_15 rfl ?_
  refine k_new C mkX6_16 iX6_init_16 (Nat.le_of_ble_eq_true rfl) (Nat.le_of_ble_eq_true rfl) (fun q2 => ?_)
  refine k_dup C iX6_init_19 rfl ?_
  refine k_callIN C ciX5 (fun s h => h.2.2.1 _ (List.mem_of_getElem? (i := 1) rfl)) iX6_init_20 (n_Re q2) (by decide) kE_T rfl rfl (Nat.le_of_ble_eq_true rfl) (Nat.le_of_ble_eq_true rfl) (Nat.le_of_ble_eq_true rfl) (fun w1 hw1 => ?_)
  obtain ⟨a2, rfl⟩ := hw1
  show kG X D A 4 207 23 [some (.ref q0), none] [.ref q2, .ref q0] (([(q0, .inr (6, [.ref q1, .null, .null, .null, .null, .null, .null, .null, .null]))] ++ leC cI q1 a1) ++ reC cI q2 a2)
  refine k_putF C 0 ffX6_19 iX6_init_23 rfl (Nat.le_of_ble_eq_true rfl) ?_
  show kG X D A 4 207 26 [some (.ref q0), none] [] (([(q0, .inr (6, [.ref q1, .ref q2, .null, .null, .null, .null, .null, .null, .null]))] ++ leC cI q1 a1) ++ reC cI q2 a2)
  refine k_aload_n C iX6_init_26 rfl ?_
  refine k_new C mkX6_23 iX6_init_27 (Nat.le_of_ble_eq_true rfl) (Nat.le_of_ble_eq_true rfl) (fun q3 => ?_)
  refine k_dup C iX6_init_30 rfl ?_
  refine k_callIN C ciX4 (fun s h => h.2.2.1 _ (List.mem_of_getElem? (i := 2) rfl)) iX6_init_31 (n_Pl q3) (by decide) kE_T rfl rfl (Nat.le_of_ble_eq_true rfl) (Nat.le_of_ble_eq_true rfl) (Nat.le_of_ble_eq_true rfl) (fun w1 hw1 => ?_)
  obtain ⟨a3, rfl⟩ := hw1
  show kG X D A 16 304 34 [some (.ref q0), none] [.ref q3, .ref q0] ((([(q0, .inr (6, [.ref q1, .ref q2, .null, .null, .null, .null, .null, .null, .null]))] ++ leC cI q1 a1) ++ reC cI q2 a2) ++ plC cI q3 a3)
  refine k_putF C 0 ffX6_26 iX6_init_34 rfl (Nat.le_of_ble_eq_true rfl) ?_
  show kG X D A 16 304 37 [some (.ref q0), none] [] ((([(q0, .inr (6, [.ref q1, .ref q2, .ref q3, .null, .null, .null, .null, .null, .null]))] ++ leC cI q1 a1) ++ reC cI q2 a2) ++ plC cI q3 a3)
  refine k_aload_n C iX6_init_37 rfl ?_
  refine k_new C mkX6_23 iX6_init_38 (Nat.le_of_ble_eq_true rfl) (Nat.le_of_ble_eq_true rfl) (fun q4 => ?_)
  refine k_dup C iX6_init_41 rfl ?_
  refine k_callIN C ciX4 (fun s h => h.2.2.1 _ (List.mem_of_getElem? (i := 2) rfl)) iX6_init_42 (n_Pl q4) (by decide) kE_T rfl rfl (Nat.le_of_ble_eq_true rfl) (Nat.le_of_ble_eq_true rfl) (Nat.le_of_ble_eq_true rfl) (fun w1 hw1 => ?_)
  obtain ⟨a4, rfl⟩ := hw1
  show kG X D A 28 401 45 [some (.ref q0), none] [.ref q4, .ref q0] (((([(q0, .inr (6, [.ref q1, .ref q2, .ref q3, .null, .null, .null, .null, .null, .null]))] ++ leC cI q1 a1) ++ reC cI q2 a2) ++ plC cI q3 a3) ++ plC cI q4 a4)
  refine k_putF C 0 ffX6_30 iX6_init_45 rfl (Nat.le_of_ble_eq_true rfl) ?_
  show kG X D A 28 401 48 [some (.ref q0), none] [] (((([(q0, .inr (6, [.ref q1, .ref q2, .ref q3, .ref q4, .null, .null, .null, .null, .null]))] ++ leC cI q1 a1) ++ reC cI q2 a2) ++ plC cI q3 a3) ++ plC cI q4 a4)
  refine k_aload_n C iX6_init_48 rfl ?_
  refine k_new C mkX6_33 iX6_init_49 (Nat.le_of_ble_eq_true rfl) (Nat.le_of_ble_eq_true rfl) (fun q5 => ?_)
  refine k_dup C iX6_init_52 rfl ?_
  refine k_aload_n C iX6_init_53 rfl ?_
  refine k_get C 0 fiX6_30 iX6_init_54 rfl rfl ?_
  refine k_callI C ciX1 wiX6_35 iX6_init_57 (n_Gr q5 q4) (by decide) kE_T rfl rfl (Nat.le_of_ble_eq_true rfl) (Nat.le_of_ble_eq_true rfl) (Nat.le_of_ble_eq_true rfl) (fun w1 hw1 => ?_)
  obtain ⟨a5, rfl⟩ := hw1
  show kG X D A 36 488 60 [some (.ref q0), none] [.ref q5, .ref q0] ((((([(q0, .inr (6, [.ref q1, .ref q2, .ref q3, .ref q4, .null, .null, .null, .null, .null]))] ++ leC cI q1 a1) ++ reC cI q2 a2) ++ plC cI q3 a3) ++ plC cI q4 a4) ++ grC cI q4 q5 a5)
  refine k_putF C 0 ffX6_38 iX6_init_60 rfl (Nat.le_of_ble_eq_true rfl) ?_
  show kG X D A 36 488 63 [some (.ref q0), none] [] ((((([(q0, .inr (6, [.ref q1, .ref q2, .ref q3, .ref q4, .ref q5, .null, .null, .null, .null]))] ++ leC cI q1 a1) ++ reC cI q2 a2) ++ plC cI q3 a3) ++ plC cI q4 a4) ++ grC cI q4 q5 a5)
  refine k_aload_n C iX6_init_63 rfl ?_
  refine k_new C mkX6_33 iX6_init_64 (Nat.le_of_ble_eq_true rfl) (Nat.le_of_ble_eq_true rfl) (fun q6 => ?_)
  refine k_dup C iX6_init_67 rfl ?_
  refine k_aload_n C iX6_init_68 rfl ?_
  refine k_get C 0 fiX6_30 iX6_init_69 rfl rfl ?_
  refine k_callI C ciX1 wiX6_35 iX6_init_72 (n_Gr q6 q4) (by decide) kE_T rfl rfl (Nat.le_of_ble_eq_true rfl) (Nat.le_of_ble_eq_true rfl) (Nat.le_of_ble_eq_true rfl) (fun w1 hw1 => ?_)
  obtain ⟨a6, rfl⟩ := hw1
  show kG X D A 44 575 75 [some (.ref q0), none] [.ref q6, .ref q0] (((((([(q0, .inr (6, [.ref q1, .ref q2, .ref q3, .ref q4, .ref q5, .null, .null, .null, .null]))] ++ leC cI q1 a1) ++ reC cI q2 a2) ++ plC cI q3 a3) ++ plC cI q4 a4) ++ grC cI q4 q5 a5) ++ grC cI q4 q6 a6)
  refine k_putF C 0 ffX6_42 iX6_init_75 rfl (Nat.le_of_ble_eq_true rfl) ?_
  show kG X D A 44 575 78 [some (.ref q0), none] [] (((((([(q0, .inr (6, [.ref q1, .ref q2, .ref q3, .ref q4, .ref q5, .ref q6, .null, .null, .null]))] ++ leC cI q1 a1) ++ reC cI q2 a2) ++ plC cI q3 a3) ++ plC cI q4 a4) ++ grC cI q4 q5 a5) ++ grC cI q4 q6 a6)
  refine k_aload_n C iX6_init_78 rfl ?_
  refine k_new C mkX6_45 iX6_init_79 (Nat.le_of_ble_eq_true rfl) (Nat.le_of_ble_eq_true rfl) (fun q7 => ?_)
  refine k_dup C iX6_init_82 rfl ?_
  refine k_aload_n C iX6_init_83 rfl ?_
  refine k_get C 0 fiX6_30 iX6_init_84 rfl rfl ?_
  refine k_aload_n C iX6_init_87 rfl ?_
  refine k_get C 0 fiX6_38 iX6_init_88 rfl rfl ?_
  refine k_callI C ciX0 wiX6_47 iX6_init_91 (n_Co q7 q4 q5) (by decide) kE_T rfl rfl (Nat.le_of_ble_eq_true rfl) (Nat.le_of_ble_eq_true rfl) (Nat.le_of_ble_eq_true rfl) (fun w1 hw1 => ?_)
  subst hw1
  show kG X D A 45 580 94 [some (.ref q0), none] [.ref q7, .ref q0] ((((((([(q0, .inr (6, [.ref q1, .ref q2, .ref q3, .ref q4, .ref q5, .ref q6, .null, .null, .null]))] ++ leC cI q1 a1) ++ reC cI q2 a2) ++ plC cI q3 a3) ++ plC cI q4 a4) ++ grC cI q4 q5 a5) ++ grC cI q4 q6 a6) ++ coC q4 q5 q7)
  refine k_putF C 0 ffX6_50 iX6_init_94 rfl (Nat.le_of_ble_eq_true rfl) ?_
  show kG X D A 45 580 97 [some (.ref q0), none] [] ((((((([(q0, .inr (6, [.ref q1, .ref q2, .ref q3, .ref q4, .ref q5, .ref q6, .ref q7, .null, .null]))] ++ leC cI q1 a1) ++ reC cI q2 a2) ++ plC cI q3 a3) ++ plC cI q4 a4) ++ grC cI q4 q5 a5) ++ grC cI q4 q6 a6) ++ coC q4 q5 q7)
  refine k_aload_n C iX6_init_97 rfl ?_
  refine k_new C mkX6_45 iX6_init_98 (Nat.le_of_ble_eq_true rfl) (Nat.le_of_ble_eq_true rfl) (fun q8 => ?_)
  refine k_dup C iX6_init_101 rfl ?_
  refine k_aload_n C iX6_init_102 rfl ?_
  refine k_get C 0 fiX6_30 iX6_init_103 rfl rfl ?_
  refine k_aload_n C iX6_init_106 rfl ?_
  refine k_get C 0 fiX6_42 iX6_init_107 rfl rfl ?_
  refine k_callI C ciX0 wiX6_47 iX6_init_110 (n_Co q8 q4 q6) (by decide) kE_T rfl rfl (Nat.le_of_ble_eq_true rfl) (Nat.le_of_ble_eq_true rfl) (Nat.le_of_ble_eq_true rfl) (fun w1 hw1 => ?_)
  subst hw1
  show kG X D A 46 585 113 [some (.ref q0), none] [.ref q8, .ref q0] (((((((([(q0, .inr (6, [.ref q1, .ref q2, .ref q3, .ref q4, .ref q5, .ref q6, .ref q7, .null, .null]))] ++ leC cI q1 a1) ++ reC cI q2 a2) ++ plC cI q3 a3) ++ plC cI q4 a4) ++ grC cI q4 q5 a5) ++ grC cI q4 q6 a6) ++ coC q4 q5 q7) ++ coC q4 q6 q8)
  refine k_putF C 0 ffX6_54 iX6_init_113 rfl (Nat.le_of_ble_eq_true rfl) ?_
  show kG X D A 46 585 116 [some (.ref q0), none] [] (((((((([(q0, .inr (6, [.ref q1, .ref q2, .ref q3, .ref q4, .ref q5, .ref q6, .ref q7, .ref q8, .null]))] ++ leC cI q1 a1) ++ reC cI q2 a2) ++ plC cI q3 a3) ++ plC cI q4 a4) ++ grC cI q4 q5 a5) ++ grC cI q4 q6 a6) ++ coC q4 q5 q7) ++ coC q4 q6 q8)
  refine k_aload_n C iX6_init_116 rfl ?_
  refine k_new C mkX6_57 iX6_init_117 (Nat.le_of_ble_eq_true rfl) (Nat.le_of_ble_eq_true rfl) (fun q9 => ?_)
  refine k_dup C iX6_init_120 rfl ?_
  refine k_aload_n C iX6_init_121 rfl ?_
  refine k_get C 0 fiX6_30 iX6_init_122 rfl rfl ?_
  refine k_callI C ciX3 wiX6_59 iX6_init_125 (n_Pa q9 q4) (by decide) (kAO_E (fun s h => h.2.1)) rfl rfl (Nat.le_of_ble_eq_true rfl) (Nat.le_of_ble_eq_true rfl) (Nat.le_of_ble_eq_true rfl) (fun w1 hw1 => ?_)
  obtain ⟨ka, g, b, rfl⟩ := hw1
  show kG X D A 80 940 128 [some (.ref q0), none] [.ref q9, .ref q0] ((((((((([(q0, .inr (6, [.ref q1, .ref q2, .ref q3, .ref q4, .ref q5, .ref q6, .ref q7, .ref q8, .null]))] ++ leC cI q1 a1) ++ reC cI q2 a2) ++ plC cI q3 a3) ++ plC cI q4 a4) ++ grC cI q4 q5 a5) ++ grC cI q4 q6 a6) ++ coC q4 q5 q7) ++ coC q4 q6 q8) ++ paC cI cG q4 q9 ka g b)
  refine k_putF C 0 ffX6_60 iX6_init_128 rfl (Nat.le_of_ble_eq_true rfl) ?_
  show kG X D A 80 940 131 [some (.ref q0), none] [] ((((((((([(q0, .inr (6, [.ref q1, .ref q2, .ref q3, .ref q4, .ref q5, .ref q6, .ref q7, .ref q8, .ref q9]))] ++ leC cI q1 a1) ++ reC cI q2 a2) ++ plC cI q3 a3) ++ plC cI q4 a4) ++ grC cI q4 q5 a5) ++ grC cI q4 q6 a6) ++ coC q4 q5 q7) ++ coC q4 q6 q8) ++ paC cI cG q4 q9 ka g b)
  refine k_eq (ss_world cI cG q0 q1 a1 q2 a2 q3 a3 q4 a4 q5 a5 q6 a6 q7 q8 q9 ka g b) ?_
  refine ss_rest q0 q1 a1 q2 a2 q3 a3 q4 a4 q5 a5 q6 a6 q7 q8 q9 ka g b _ rfl C hnL r1 r2 (fun ws hw => hr _ _ _ _ iX6_init_192 hw)
