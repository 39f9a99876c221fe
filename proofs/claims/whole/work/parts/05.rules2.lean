/-- a field's link, its class and place -/
def zFl (own : String) (idx ci k : Nat) : Prop := ∃ (Cn : String) (T : u_T) (N : Nat), vwCl[ci]? = some (Cn, T, N) ∧ k < N ∧ Cond.fieldLink own idx (T k).1 (T k).2.1 (T k).2.2.1 ∈ zWd ∧ (∀ w ∈ u_ws Cn T N, w ∈ zWd)
def zFp (own : String) (idx ci k : Nat) : Prop := ∃ (Cn : String) (T : u_T) (N : Nat), vwCl[ci]? = some (Cn, T, N) ∧ k < N ∧ Cond.fieldLink own idx (T k).1 (T k).2.1 (T k).2.2.1 ∈ zWd ∧ (∀ w ∈ u_ws Cn T N, w ∈ zWd) ∧ (T k).2.2.2 = false ∧ parseFieldDescriptor (T k).2.2.1 = some .int ∧ (∃ ty0 : Nat → FieldType, ∀ k, k < N → parseFieldDescriptor (T k).2.2.1 = some (ty0 k)) ∧ ∀ a, a < N → ∀ b, b < N → a ≠ b → (T a).2.1 ≠ (T b).2.1
theorem zF_at {ad : Nat → Nat} {h : zH} {a k : Nat} {fs : List (Option Nat)} {o : Option Nat} (hf : fs[k]? = some o) : (zF ad h a fs)[k]? = some (zF1 ad h a k o) := by simp [zF, List.getElem?_mapIdx, hf]
theorem upd2_ne {h : zH} {a i k : Nat} {v : Int32} (hk : k ≠ a) : upd2 h a i v k = h k := by simp [upd2, hk]
theorem upd2_eq {h : zH} {a i : Nat} {v : Int32} : upd2 h a i v a = upd (h a) i v := by simp [upd2]
theorem zF_set {ad : Nat → Nat} {h : zH} {a k : Nat} {fs : List (Option Nat)} {v : Int32} (hf : fs[k]? = some none) : (zF ad h a fs).set k (.int v) = zF ad (upd2 h a k v) a fs := by
  apply List.ext_getElem?
  intro j
  have hl := (List.getElem?_eq_some_iff.mp hf).1
  by_cases hj : j = k
  · subst hj
    rw [List.getElem?_set_self (by simpa [zF] using hl), zF_at hf]
    simp [zF1, upd2_eq, upd]
  · rw [List.getElem?_set_ne (Ne.symm hj)]
    simp only [zF, List.getElem?_mapIdx]
    cases fs[j]? with
    | none => rfl
    | some o => cases o <;> simp [zF1, upd2_eq, upd, hj]
def zTg (pc : Nat) (dflt lo hi : Int) (offs : Array Int) (x : Int32) : Int := if x.toInt < lo ∨ hi < x.toInt then (pc : Int) + dflt else match offs[(x.toInt - lo).toNat]? with
  | some off => (pc : Int) + off
  | none => -1
theorem zTg_def {pc : Nat} {dflt lo hi : Int} {offs : Array Int} {x : Int32} (ks : List Int) (hk : ∀ k ∈ ks, ¬ x.toInt = k) (hc : (List.range ((hi - lo).toNat + 1)).all (fun j => ks.contains (lo + j) || offs[j]? == some dflt) = true) : zTg pc dflt lo hi offs x = (pc : Int) + dflt := by
  unfold zTg
  split
  · rfl
  · rename_i hn
    have h1 : lo ≤ x.toInt := by omega
    have h2 : x.toInt ≤ hi := by omega
    have h3 := List.all_eq_true.mp hc (x.toInt - lo).toNat (List.mem_range.mpr (by omega))
    rcases Bool.or_eq_true_iff.mp h3 with h4 | h4
    · have e : lo + ((x.toInt - lo).toNat : Int) = x.toInt := by omega
      rw [e] at h4
      exact absurd rfl (hk _ (by simpa using h4))
    · have h5 : offs[(x.toInt - lo).toNat]? = some dflt := by simpa using h4
      rw [h5]
section ZR2
variable {ρ : Type} {X : zX} {ad : Nat → Nat} {sh : List zK} {cc : ByteArray} {own : String} {ret : Option FieldType} {d : Nat} {emb : ρ → Option Value × zH} {pc q : Nat} {lv : List (Option Value)} {st : List Value} {h : zH} {o : Option ρ}
theorem g_getI (C : zC X ad sh cc own ret d) {idx ci k a : Nat} {fs : List (Option Nat)} (f : zFl own idx ci k) (i : zI cc pc (.getfield idx) 3 q) (ha : sh[a]? = some (.inr (.inl (ci, fs)))) (hf : fs[k]? = some none) (kt : zG X ad sh emb q lv (.int (h a k) :: st) h o) : zG X ad sh emb pc lv (.ref (ad a) :: st) h o := by
  obtain ⟨p, l, e, R, s, m, args, below, meth, c, nL, D, cI, cG⟩ := X
  obtain ⟨hx, hb, hml, hown, hts, hK, hN, hlk, hr, hj, hR⟩ := C
  obtain ⟨di, rfl⟩ := i
  obtain ⟨Cn, T, N, f1, f2, f3, f4⟩ := f
  intro x9 hx9 H locs ls hP hS hL
  exact va_get hx hb hts f4 hown hK hP a (zW_at ha) f1 k f2 (hts _ f3) (fun _ h9 => h9) (zF_at hf) di (kt x9 hx9 H locs ls hP hS hL)
theorem g_getR (C : zC X ad sh cc own ret d) {idx ci k a b : Nat} {fs : List (Option Nat)} (f : zFl own idx ci k) (i : zI cc pc (.getfield idx) 3 q) (ha : sh[a]? = some (.inr (.inl (ci, fs)))) (hf : fs[k]? = some (some b)) (kt : zG X ad sh emb q lv (.ref (ad b) :: st) h o) : zG X ad sh emb pc lv (.ref (ad a) :: st) h o := by
  obtain ⟨p, l, e, R, s, m, args, below, meth, c, nL, D, cI, cG⟩ := X
  obtain ⟨hx, hb, hml, hown, hts, hK, hN, hlk, hr, hj, hR⟩ := C
  obtain ⟨di, rfl⟩ := i
  obtain ⟨Cn, T, N, f1, f2, f3, f4⟩ := f
  intro x9 hx9 H locs ls hP hS hL
  exact va_get hx hb hts f4 hown hK hP a (zW_at ha) f1 k f2 (hts _ f3) (fun _ h9 => h9) (zF_at hf) di (kt x9 hx9 H locs ls hP hS hL)
theorem g_putI (C : zC X ad sh cc own ret d) {idx ci k a : Nat} {fs : List (Option Nat)} {v : Int32} {ko : zH → Option ρ} (f : zFp own idx ci k) (i : zI cc pc (.putfield idx) 3 q) (ha : sh[a]? = some (.inr (.inl (ci, fs)))) (hf : fs[k]? = some none) (kt : ∀ h', zG X ad sh emb q lv st h' (ko h')) : zG X ad sh emb pc lv (.int v :: .ref (ad a) :: st) h (zlet (upd2 h a k v) ko) := by
  have kt := kt (upd2 h a k v)
  obtain ⟨p, l, e, R, s, m, args, below, meth, c, nL, D, cI, cG⟩ := X
  obtain ⟨hx, hb, hml, hown, hts, hK, hN, hlk, hr, hj, hR⟩ := C
  obtain ⟨di, rfl⟩ := i
  obtain ⟨Cn, T, N, f1, f2, f3, f4, f5, f6, ⟨ty0, f7⟩, f8⟩ := f
  intro x9 hx9 H locs ls hP hS hL
  refine va_put (ty := .int) hx hb hts f4 ty0 f7 f8 hown hK hP hj.D hS a (zW_at ha) f1 k f2 (hts _ f3) (fun _ h9 => h9) f5 f6 rfl rfl (by simpa [zF] using (List.getElem?_eq_some_iff.mp hf).1) di (fun H1 locs1 hP1 _ hS1 => ?_)
  refine kt x9 hx9 H1 locs1 ls ?_ hS1 hL
  rw [zF_set hf] at hP1
  rw [← zW_set (h := h) (h' := upd2 h a k v) ha (fun k hk => upd2_ne hk)]
  exact hP1
theorem g_iaload (C : zC X ad sh cc own ret d) {a n : Nat} {j : Int32} (i : zI cc pc .iaload 1 q) (ha : sh[a]? = some (.inl n)) (kt : zG X ad sh emb q lv (.int (h a j.toNatClampNeg) :: st) h o) : zG X ad sh emb pc lv (.int j :: .ref (ad a) :: st) h (gd (zr j n) o) := by
  obtain ⟨p, l, e, R, s, m, args, below, meth, c, nL, D, cI, cG⟩ := X
  obtain ⟨hx, hb, hml, hown, hts, hK, hN, hlk, hr, hj, hR⟩ := C
  obtain ⟨di, rfl⟩ := i
  intro x9 hx9 H locs ls hP hS hL
  obtain ⟨hg, hx9⟩ := gd_some hx9
  exact va_iald hx hb hK hP a 0 (zW_at ha) rfl (zr_in hg) di (kt x9 hx9 H locs ls hP hS hL)
theorem g_iastore (C : zC X ad sh cc own ret d) {a n : Nat} {j v : Int32} {ko : zH → Option ρ} (i : zI cc pc .iastore 1 q) (ha : sh[a]? = some (.inl n)) (kt : ∀ h', zG X ad sh emb q lv st h' (ko h')) : zG X ad sh emb pc lv (.int v :: .int j :: .ref (ad a) :: st) h (gd (zr j n) (zlet (upd2 h a j.toNatClampNeg v) ko)) := by
  have kt := kt (upd2 h a j.toNatClampNeg v)
  obtain ⟨p, l, e, R, s, m, args, below, meth, c, nL, D, cI, cG⟩ := X
  obtain ⟨hx, hb, hml, hown, hts, hK, hN, hlk, hr, hj, hR⟩ := C
  obtain ⟨di, rfl⟩ := i
  intro x9 hx9 H locs ls hP hS hL
  obtain ⟨hg, hx9⟩ := gd_some hx9
  refine va_iast hx hb hK hP hj.D hS a 0 (zW_at ha) rfl (zr_in hg) di (fun H1 locs1 hP1 _ hS1 => ?_)
  refine kt x9 hx9 H1 locs1 ls ?_ hS1 hL
  rw [← upd2_eq (h := h) (a := a)] at hP1
  rw [← zW_set (h := h) (h' := upd2 h a j.toNatClampNeg v) ha (fun k hk => upd2_ne hk)]
  exact hP1
theorem g_ialoadL (C : zC X ad sh cc own ret d) {a n : Nat} {j : Int32} (kj : Nat) (i : zI cc pc .iaload 1 q) (ha : sh[a]? = some (.inl n)) (hj : j.toNatClampNeg = kj) (hr : zr j n = true) (kt : zG X ad sh emb q lv (.int (h a kj) :: st) h o) : zG X ad sh emb pc lv (.int j :: .ref (ad a) :: st) h o := by
  subst hj
  have := g_iaload (j := j) C i ha kt
  rwa [hr] at this
theorem g_iastoreL (C : zC X ad sh cc own ret d) {a n : Nat} {j v : Int32} {ko : zH → Option ρ} (kj : Nat) (i : zI cc pc .iastore 1 q) (ha : sh[a]? = some (.inl n)) (hj : j.toNatClampNeg = kj) (hr : zr j n = true) (kt : ∀ h', zG X ad sh emb q lv st h' (ko h')) : zG X ad sh emb pc lv (.int v :: .int j :: .ref (ad a) :: st) h (zlet (upd2 h a kj v) ko) := by
  subst hj
  have := g_iastore (h := h) (j := j) (v := v) C i ha kt
  rwa [hr] at this
theorem g_aaload (C : zC X ad sh cc own ret d) {a : Nat} {L : List Nat} {j : Int32} (i : zI cc pc .aaload 1 q) (ha : sh[a]? = some (.inr (.inr L))) (kt : zr j L.length = true → zG X ad sh emb q lv (.ref (ad (L.getD j.toNatClampNeg 0)) :: st) h o) : zG X ad sh emb pc lv (.int j :: .ref (ad a) :: st) h (gd (zr j L.length) o) := by
  obtain ⟨p, l, e, R, s, m, args, below, meth, c, nL, D, cI, cG⟩ := X
  obtain ⟨hx, hb, hml, hown, hts, hK, hN, hlk, hr, hj, hR⟩ := C
  obtain ⟨di, rfl⟩ := i
  intro x9 hx9 H locs ls hP hS hL
  obtain ⟨hg, hx9⟩ := gd_some hx9
  have hlt : j.toNatClampNeg < L.length := Nat.not_le.mp fun q => zr_in hg (Or.inr q)
  refine va_aldq (C := RX1) hx hb hK hP a 1 (zW_at ha) rfl (zr_in hg) di ?_
  have e1 : va_rf ((L[j.toNatClampNeg]?).map ad) = .ref (ad (L.getD j.toNatClampNeg 0)) := by
    simp [List.getD_eq_getElem?_getD, List.getElem?_eq_getElem hlt, va_rf]
  show W _ _ _ _ _ _ _ _ _ _ _ _ _ _ _ (F0 _ _ _ (va_rf ((L[j.toNatClampNeg]?).map ad) :: _))
  rw [e1]
  exact kt hg x9 hx9 H locs ls hP hS hL
theorem g_tab (C : zC X ad sh cc own ret d) {dflt lo hi : Int} {offs : Array Int} {n : Nat} {x : Int32} (tgt : Nat) (i : zI cc pc (.tableswitch dflt lo hi offs) n q) (ht : zTg pc dflt lo hi offs x = (tgt : Int)) (k : zG X ad sh emb tgt lv st h o) : zG X ad sh emb pc lv (.int x :: st) h o := by
  obtain ⟨p, l, e, R, s, m, args, below, meth, c, nL, D, cI, cG⟩ := X
  obtain ⟨hx, hb, hml, hown, hts, hK, hN, hlk, hr, hj, hR⟩ := C
  obtain ⟨di, rfl⟩ := i
  intro x9 hx9 H locs ls hP hS hL
  have k := k x9 hx9 H locs ls hP hS hL
  unfold zTg at ht
  split at ht
  · rename_i hc
    exact lv_tableOut hx hb di hc ht k
  · rename_i hc
    split at ht
    · rename_i off ho
      exact lv_tableIn hx hb di (fun z => hc (Or.inl z)) (fun z => hc (Or.inr z)) ho ht k
    · omega
theorem g_iret (C : zC X ad sh cc own (some .int) d) {v : Int32} {x : ρ} (i : zI cc pc .ireturn 1 q) (he : emb x = (some (.int v), h)) : zG X ad sh emb pc lv [.int v] h (some x) := by
  obtain ⟨p, l, e, R, s, m, args, below, meth, c, nL, D, cI, cG⟩ := X
  obtain ⟨hx, hb, hml, hown, hts, hK, hN, hlk, hr, hj, hR⟩ := C
  obtain ⟨di, rfl⟩ := i
  intro x9 hx9 H locs ls hP hS hL
  cases hx9
  rw [he]
  exact W.iret hx hb hr (fun t ht hW => ⟨rfl, by rw [ht]; exact hP, hS.F ht⟩) hS.2.2 di hlk
theorem g_zret (C : zC X ad sh cc own (some .boolean) d) {v : Int32} {x : ρ} (i : zI cc pc .ireturn 1 q) (hn : narrow .boolean (.int v) = .int v) (he : emb x = (some (.int v), h)) : zG X ad sh emb pc lv [.int v] h (some x) := by
  obtain ⟨p, l, e, R, s, m, args, below, meth, c, nL, D, cI, cG⟩ := X
  obtain ⟨hx, hb, hml, hown, hts, hK, hN, hlk, hr, hj, hR⟩ := C
  obtain ⟨di, rfl⟩ := i
  intro x9 hx9 H locs ls hP hS hL
  cases hx9
  rw [he]
  exact W.zret hx hb hr hn (fun t ht hW => ⟨rfl, by rw [ht]; exact hP, hS.F ht⟩) hS.2.2 di hlk
def zb (v : Int32) : Bool := decide (v = 0 ∨ v = 1)
theorem g_zretG (C : zC X ad sh cc own (some .boolean) d) {v : Int32} {x : ρ} (i : zI cc pc .ireturn 1 q) (he : emb x = (some (.int v), h)) : zG X ad sh emb pc lv [.int v] h (gd (zb v) (some x)) := by
  by_cases hv : v = 0 ∨ v = 1
  · rw [show zb v = true from decide_eq_true hv]
    refine g_zret C i ?_ he
    rcases hv with rfl | rfl <;> rfl
  · rw [show zb v = false from decide_eq_false hv]
    exact g_none
theorem g_vret (C : zC X ad sh cc own none d) {x : ρ} (i : zI cc pc .return_ 1 q) (he : emb x = (none, h)) : zG X ad sh emb pc lv [] h (some x) := by
  obtain ⟨p, l, e, R, s, m, args, below, meth, c, nL, D, cI, cG⟩ := X
  obtain ⟨hx, hb, hml, hown, hts, hK, hN, hlk, hr, hj, hR⟩ := C
  obtain ⟨di, rfl⟩ := i
  intro x9 hx9 H locs ls hP hS hL
  cases hx9
  rw [he]
  exact W.vret hx hb hr (fun t ht hW => ⟨rfl, by rw [ht]; exact hP, hS.F ht⟩) hS.2.2 di hlk
theorem g_bindI {e0 : Int32} {lvf : Int32 → List (Option Value)} {stf : Int32 → List Value} {ko : Int32 → Option ρ} (k : ∀ v, zG X ad sh emb pc (lvf v) (stf v) h (ko v)) : zG X ad sh emb pc (lvf e0) (stf e0) h (zlet e0 ko) := k e0
end ZR2
