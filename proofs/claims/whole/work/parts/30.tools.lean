/-! THE PURE LAYER: tools -/
def bt (x : Int32) (i : Nat) : Bool := x.toBitVec.getLsbD i
theorem b_ext {x y : Int32} (h : ∀ i, i < 32 → bt x i = bt y i) : x = y := Int32.toBitVec_inj.mp (BitVec.eq_of_getLsbD_eq (fun i hi => h i hi))
theorem b_or (x y : Int32) (i : Nat) : bt (x ||| y) i = (bt x i || bt y i) := by unfold bt; rw [Int32.toBitVec_or, BitVec.getLsbD_or]
theorem b_and (x y : Int32) (i : Nat) : bt (x &&& y) i = (bt x i && bt y i) := by unfold bt; rw [Int32.toBitVec_and, BitVec.getLsbD_and]
theorem b_xor (x y : Int32) (i : Nat) : bt (x ^^^ y) i = (bt x i ^^ bt y i) := by unfold bt; rw [Int32.toBitVec_xor, BitVec.getLsbD_xor]
theorem b_big {x : Int32} {i : Nat} (h : 32 ≤ i) : bt x i = false := BitVec.getLsbD_of_ge _ _ h
theorem b_m1 : ∀ i, i < 32 → bt (-1) i = true := by decide +kernel
theorem b_0 (i : Nat) : bt 0 i = false := BitVec.getLsbD_zero
theorem s_l : ∀ n, n < 32 → ((nI n &&& 31).toBitVec.smod 32).toNat = n := by decide +kernel
theorem s_u : ∀ n, n < 32 → (((nI n).toUInt32 &&& Int32.toUInt32 31).toBitVec % 32).toNat = n := by decide +kernel
theorem b_shl (n : Nat) (hn : n < 32) (x : Int32) {i : Nat} (hi : i < 32) : bt (x <<< (nI n &&& 31)) i = (decide (n ≤ i) && bt x (i - n)) := by
  unfold bt
  rw [Int32.toBitVec_shiftLeft]
  show (x.toBitVec <<< ((nI n &&& 31).toBitVec.smod 32).toNat).getLsbD i = _
  rw [s_l n hn, BitVec.getLsbD_shiftLeft]
  rcases Nat.lt_or_ge i n with h | h
  · simp [h, Nat.not_le.mpr h]
  · simp [hi, h, Nat.not_lt.mpr h]
theorem b_ushr (n : Nat) (hn : n < 32) (x : Int32) (i : Nat) : bt ((x.toUInt32 >>> ((nI n).toUInt32 &&& Int32.toUInt32 31)).toInt32) i = bt x (n + i) := by
  show (x.toUInt32 >>> ((nI n).toUInt32 &&& Int32.toUInt32 31)).toBitVec.getLsbD i = x.toUInt32.toBitVec.getLsbD (n + i)
  rw [UInt32.toBitVec_shiftRight]
  show (x.toUInt32.toBitVec >>> (((nI n).toUInt32 &&& Int32.toUInt32 31).toBitVec % 32).toNat).getLsbD i = _
  rw [s_u n hn, BitVec.getLsbD_ushiftRight]
theorem b_sshr (n : Nat) (hn : n < 32) (x : Int32) {i : Nat} (hi : i < 32) : bt (x >>> (nI n &&& 31)) i = if n + i < 32 then bt x (n + i) else bt x 31 := by
  unfold bt
  rw [Int32.toBitVec_shiftRight]
  show (x.toBitVec.sshiftRight ((nI n &&& 31).toBitVec.smod 32).toNat).getLsbD i = _
  rw [s_l n hn, BitVec.getLsbD_sshiftRight, BitVec.msb_eq_getLsbD_last]
  simp [hi]

def b2i (b : Bool) : Int32 := if b then 1 else 0
theorem b2i_ne (b : Bool) : ¬ b2i b = 0 ↔ b = true := by cases b <;> decide
theorem b2i_eq (b : Bool) : b2i b = 0 ↔ b = false := by cases b <;> decide
theorem bt1 (j : Nat) : bt 1 j = decide (j = 0) := by
  rcases Nat.lt_or_ge j 32 with h | h
  · exact (by decide +kernel : ∀ j, j < 32 → bt 1 j = decide (j = 0)) j h
  · rw [b_big h, decide_eq_false (by omega)]
theorem bt_one {k : Nat} (hk : k < 32) (j : Nat) : bt (zshl 1 (nI k)) j = decide (j = k) := by
  rcases Nat.lt_or_ge j 32 with h | h
  · unfold zshl
    rw [b_shl k hk 1 h, bt1]
    by_cases e : j = k
    · subst e; simp
    · by_cases h2 : k ≤ j
      · simp [h2, e]; omega
      · simp [h2, e]
  · rw [b_big h, decide_eq_false (by omega)]
theorem bit_and1 (x : Int32) {k : Nat} (hk : k < 32) : zshr x (nI k) &&& 1 = b2i (bt x k) := by
  apply b_ext
  intro i hi
  unfold zshr
  rw [b_and, bt1, b_sshr k hk x hi]
  by_cases h0 : i = 0
  · subst h0
    simp only [Nat.add_zero, hk, if_true, decide_true, Bool.and_true]
    cases bt x k <;> decide
  · simp only [h0, decide_false, Bool.and_false]
    cases bt x k <;> simp [b2i, b_0, bt1, h0]
theorem has_eq (x : Int32) {k : Nat} (hk : k < 32) : SS_has x (nI k) = some (b2i (bt x k)) := by
  unfold SS_has
  rw [bit_and1 x hk]
  cases bt x k <;> rfl
theorem mhas_eq (x : Int32) {k : Nat} (hk : k < 32) : Mo_has x (nI k) = some (b2i (bt x k)) := by
  unfold Mo_has
  rw [bit_and1 x hk]
  cases bt x k <;> rfl
theorem zr_nI {i n : Nat} (h : i < n) (hn : n < 2 ^ 31) : zr (nI i) n = true := by
  have h1 : ¬ nI i < 0 := nI_pos (by omega)
  have h2 : (nI i).toNatClampNeg = i := nI_clamp (by omega)
  simp only [zr, h2]
  simp [h1, h]
/-- a step again and again -/
def itr {σ : Type} (f : Nat → σ → σ) : Nat → Nat → σ → σ
  | _, 0, s => s
  | i, c + 1, s => itr f (i + 1) c (f i s)
theorem itr_snoc {σ : Type} (f : Nat → σ → σ) : ∀ (c i : Nat) (s : σ), itr f i (c + 1) s = f (i + c) (itr f i c s)
  | 0, _, _ => rfl
  | c + 1, i, s => by
    show itr f (i + 1) (c + 1) (f i s) = _
    rw [itr_snoc f c (i + 1) (f i s)]
    show _ = f (i + (c + 1)) (itr f (i + 1) c (f i s))
    rw [show i + 1 + c = i + (c + 1) by omega]
/-- a counting loop -/
theorem loop_up {σ ρ : Type} (F : Nat → Int32 → σ → Option ρ) (k : σ → Option ρ) (f : Nat → σ → σ) (I : Nat → σ → Prop) (e : Nat)
    (hs : ∀ n i s, i < e → I i s → F (n + 1) (nI i) s = F n (nI (i + 1)) (f i s)) (hI : ∀ i s, i < e → I i s → I (i + 1) (f i s)) (hx : ∀ n s, I e s → F (n + 1) (nI e) s = k s) :
    ∀ (c i n : Nat) (s : σ), i + c = e → c < n → I i s → F n (nI i) s = k (itr f i c s) ∧ I e (itr f i c s)
  | 0, i, n, s, h, hn, hi => by
    obtain ⟨n, rfl⟩ : ∃ m, n = m + 1 := ⟨n - 1, by omega⟩
    have : i = e := by omega
    subst this
    exact ⟨hx n s hi, hi⟩
  | c + 1, i, n, s, h, hn, hi => by
    obtain ⟨n, rfl⟩ : ∃ m, n = m + 1 := ⟨n - 1, by omega⟩
    rw [hs n i s (by omega) hi]
    exact loop_up F k f I e hs hI hx c (i + 1) n (f i s) (by omega) (by omega) (hI i s (by omega) hi)
/-- the same, from 0, with an invariant that says the end -/
theorem loop_0' {σ ρ : Type} (F : Nat → Int32 → σ → Option ρ) (k : σ → Option ρ) (f : Nat → σ → σ) (I : Nat → σ → Prop) (e : Nat) {n : Nat} {s : σ} (hn : e < n) (h0 : I 0 s)
    (hs : ∀ n i s, i < e → I i s → F (n + 1) (nI i) s = F n (nI (i + 1)) (f i s)) (hI : ∀ i s, i < e → I i s → I (i + 1) (f i s)) (hx : ∀ n s, I e s → F (n + 1) (nI e) s = k s) :
    F n 0 s = k (itr f 0 e s) ∧ I e (itr f 0 e s) := loop_up F k f I e hs hI hx e 0 n s (by omega) hn h0
/-- a counting loop whose invariant pins the state -/
theorem loop_pin {σ ρ : Type} (F : Nat → Int32 → σ → Option ρ) (k : σ → Option ρ) (S : Nat → σ) (e : Nat) {n i0 : Nat} (hi : i0 ≤ e) (hn : e - i0 < n)
    (hs : ∀ n i, i0 ≤ i → i < e → F (n + 1) (nI i) (S i) = F n (nI (i + 1)) (S (i + 1))) (hx : ∀ n, F (n + 1) (nI e) (S e) = k (S e)) : F n (nI i0) (S i0) = k (S e) := by
  have key : ∀ (c i n : Nat), i0 ≤ i → i + c = e → c < n → F n (nI i) (S i) = k (S e) := by
    intro c
    induction c with
    | zero =>
      intro i n h0 h1 h2
      obtain ⟨n, rfl⟩ : ∃ m, n = m + 1 := ⟨n - 1, by omega⟩
      have : i = e := by omega
      subst this
      exact hx n
    | succ c ih =>
      intro i n h0 h1 h2
      obtain ⟨n, rfl⟩ : ∃ m, n = m + 1 := ⟨n - 1, by omega⟩
      rw [hs n i h0 (by omega)]
      exact ih (i + 1) n (by omega) (by omega) (by omega)
  exact key (e - i0) i0 n (Nat.le_refl _) (by omega) hn
def sumTo (a : Nat → Int32) : Nat → Int32
  | 0 => 0
  | n + 1 => sumTo a n + a n
theorem sumTo_congr {a b : Nat → Int32} : ∀ {n : Nat}, (∀ i, i < n → a i = b i) → sumTo a n = sumTo b n
  | 0, _ => rfl
  | n + 1, h => by
    show sumTo a n + a n = sumTo b n + b n
    rw [sumTo_congr (fun i hi => h i (by omega)), h n (by omega)]
theorem ia {a b : Int32} (h1 : -2147483648 ≤ a.toInt + b.toInt) (h2 : a.toInt + b.toInt < 2147483648) : (a + b).toInt = a.toInt + b.toInt := by
  rw [Int32.toInt_add]
  apply Int.bmod_eq_of_le <;> omega
theorem is' {a b : Int32} (h1 : -2147483648 ≤ a.toInt - b.toInt) (h2 : a.toInt - b.toInt < 2147483648) : (a - b).toInt = a.toInt - b.toInt := by
  rw [Int32.toInt_sub]
  apply Int.bmod_eq_of_le <;> omega
theorem ilt {a b : Int32} : a < b ↔ a.toInt < b.toInt := Int32.lt_iff_toInt_lt
theorem ile {a b : Int32} : a ≤ b ↔ a.toInt ≤ b.toInt := Int32.le_iff_toInt_le
theorem ieq {a b : Int32} : a = b ↔ a.toInt = b.toInt := Int32.toInt_inj.symm
