def shX : List zK := [.inr (.inl (6, [some 1, some 3, some 5, some 17, some 29, some 37, some 45, some 46, some 47])), .inr (.inl (2, [some 2, none])), .inl 200, .inr (.inl (5, [some 4])), .inl 4, .inr (.inl (4, [none, none, none, none, none, some 6, some 7, some 8, some 9, some 10, some 11, some 12, some 13, some 14, some 15, some 16])), .inl 9, .inl 9, .inl 6, .inl 6, .inl 6, .inl 6, .inl 9, .inl 9, .inl 9, .inl 6, .inl 6, .inr (.inl (4, [none, none, none, none, none, some 18, some 19, some 20, some 21, some 22, some 23, some 24, some 25, some 26, some 27, some 28])), .inl 9, .inl 9, .inl 6, .inl 6, .inl 6, .inl 6, .inl 9, .inl 9, .inl 9, .inl 6, .inl 6, .inr (.inl (1, [some 17, none, some 30, some 31, some 32, some 33, some 34, none, some 35, none, some 36, none])), .inl 6, .inl 6, .inl 6, .inl 36, .inl 6, .inl 9, .inl 6, .inr (.inl (1, [some 17, none, some 38, some 39, some 40, some 41, some 42, none, some 43, none, some 44, none])), .inl 6, .inl 6, .inl 6, .inl 36, .inl 6, .inl 9, .inl 6, .inr (.inl (0, [some 17, some 29, none, none, none])), .inr (.inl (0, [some 17, some 37, none, none, none])), .inr (.inl (3, [some 48, none, none])), .inr (.inr [49, 57, 65, 73]), .inr (.inl (1, [some 17, none, some 50, some 51, some 52, some 53, some 54, none, some 55, none, some 56, none])), .inl 6, .inl 6, .inl 6, .inl 36, .inl 6, .inl 9, .inl 6, .inr (.inl (1, [some 17, none, some 58, some 59, some 60, some 61, some 62, none, some 63, none, some 64, none])), .inl 6, .inl 6, .inl 6, .inl 36, .inl 6, .inl 9, .inl 6, .inr (.inl (1, [some 17, none, some 66, some 67, some 68, some 69, some 70, none, some 71, none, some 72, none])), .inl 6, .inl 6, .inl 6, .inl 36, .inl 6, .inl 9, .inl 6, .inr (.inl (1, [some 17, none, some 74, some 75, some 76, some 77, some 78, none, some 79, none, some 80, none])), .inl 6, .inl 6, .inl 6, .inl 36, .inl 6, .inl 9, .inl 6]
def shM : List zK := [.inr (.inl (7, [none, some 1, some 2, some 3, some 4, some 5, some 6, some 7, some 8, some 9, none, none, none, none, none, none, none])), .inl 200, .inl 10, .inl 36, .inl 48, .inl 54, .inl 24, .inl 67, .inl 268, .inl 67]
def isG (g : Nat) : Prop := shX[g]? = some (.inr (.inl (1, [some 17, none, some (g + 1), some (g + 2), some (g + 3), some (g + 4), some (g + 5), none, some (g + 6), none, some (g + 7), none]))) ∧ shX[g + 1]? = some (.inl 6) ∧ shX[g + 2]? = some (.inl 6) ∧ shX[g + 3]? = some (.inl 6) ∧ shX[g + 4]? = some (.inl 36) ∧ shX[g + 5]? = some (.inl 6) ∧ shX[g + 6]? = some (.inl 9) ∧ shX[g + 7]? = some (.inl 6)
def isP (p : Nat) : Prop := shX[p]? = some (.inr (.inl (4, [none, none, none, none, none, some (p + 1), some (p + 2), some (p + 3), some (p + 4), some (p + 5), some (p + 6), some (p + 7), some (p + 8), some (p + 9), some (p + 10), some (p + 11)]))) ∧ shX[p + 1]? = some (.inl 9) ∧ shX[p + 2]? = some (.inl 9) ∧ shX[p + 3]? = some (.inl 6) ∧ shX[p + 4]? = some (.inl 6) ∧ shX[p + 5]? = some (.inl 6) ∧ shX[p + 6]? = some (.inl 6) ∧ shX[p + 7]? = some (.inl 9) ∧ shX[p + 8]? = some (.inl 9) ∧ shX[p + 9]? = some (.inl 9) ∧ shX[p + 10]? = some (.inl 6) ∧ shX[p + 11]? = some (.inl 6)
def isC (c g : Nat) : Prop := shX[c]? = some (.inr (.inl (0, [some 17, some g, none, none, none])))
theorem isG29 : isG 29 := ⟨rfl, rfl, rfl, rfl, rfl, rfl, rfl, rfl⟩
theorem isG37 : isG 37 := ⟨rfl, rfl, rfl, rfl, rfl, rfl, rfl, rfl⟩
theorem isG49 : isG 49 := ⟨rfl, rfl, rfl, rfl, rfl, rfl, rfl, rfl⟩
theorem isG57 : isG 57 := ⟨rfl, rfl, rfl, rfl, rfl, rfl, rfl, rfl⟩
theorem isG65 : isG 65 := ⟨rfl, rfl, rfl, rfl, rfl, rfl, rfl, rfl⟩
theorem isG73 : isG 73 := ⟨rfl, rfl, rfl, rfl, rfl, rfl, rfl, rfl⟩
theorem isP5 : isP 5 := ⟨rfl, rfl, rfl, rfl, rfl, rfl, rfl, rfl, rfl, rfl, rfl, rfl⟩
theorem isP17 : isP 17 := ⟨rfl, rfl, rfl, rfl, rfl, rfl, rfl, rfl, rfl, rfl, rfl, rfl⟩
theorem isC45 : isC 45 29 := rfl
theorem isC46 : isC 46 37 := rfl
theorem sh0 : shX[0]? = some (.inr (.inl (6, [some 1, some 3, some 5, some 17, some 29, some 37, some 45, some 46, some 47]))) := rfl
theorem sh1 : shX[1]? = some (.inr (.inl (2, [some 2, none]))) := rfl
theorem sh2 : shX[2]? = some (.inl 200) := rfl
theorem sh3 : shX[3]? = some (.inr (.inl (5, [some 4]))) := rfl
theorem sh4 : shX[4]? = some (.inl 4) := rfl
theorem sh47 : shX[47]? = some (.inr (.inl (3, [some 48, none, none]))) := rfl
theorem sh48 : shX[48]? = some (.inr (.inr [49, 57, 65, 73])) := rfl
theorem mh0 : shM[0]? = some (.inr (.inl (7, [none, some 1, some 2, some 3, some 4, some 5, some 6, some 7, some 8, some 9, none, none, none, none, none, none, none]))) := rfl
theorem mh1 : shM[1]? = some (.inl 200) := rfl
theorem mh2 : shM[2]? = some (.inl 10) := rfl
theorem mh3 : shM[3]? = some (.inl 36) := rfl
theorem mh4 : shM[4]? = some (.inl 48) := rfl
theorem mh5 : shM[5]? = some (.inl 54) := rfl
theorem mh6 : shM[6]? = some (.inl 24) := rfl
theorem mh7 : shM[7]? = some (.inl 67) := rfl
theorem mh8 : shM[8]? = some (.inl 268) := rfl
theorem mh9 : shM[9]? = some (.inl 67) := rfl
theorem isG_kept {j : Int32} (h : zr j ([49, 57, 65, 73] : List Nat).length = true) : isG (([49, 57, 65, 73] : List Nat).getD j.toNatClampNeg 0) := by
  have h1 : j.toNatClampNeg < 4 := Nat.not_le.mp fun q => zr_in h (Or.inr q)
  rcases (show j.toNatClampNeg = 0 ∨ j.toNatClampNeg = 1 ∨ j.toNatClampNeg = 2 ∨ j.toNatClampNeg = 3 by omega) with e | e | e | e <;> rw [e]
  · exact isG49
  · exact isG57
  · exact isG65
  · exact isG73
theorem u_inX0 : ∀ w ∈ u_ws RX0 TX0 5, w ∈ zWd := by decide +kernel
theorem u_inX1 : ∀ w ∈ u_ws RX1 TX1 12, w ∈ zWd := by decide +kernel
theorem u_inX2 : ∀ w ∈ u_ws RX2 TX2 2, w ∈ zWd := by decide +kernel
theorem u_inX3 : ∀ w ∈ u_ws RX3 TX3 3, w ∈ zWd := by decide +kernel
theorem u_inX4 : ∀ w ∈ u_ws RX4 TX4 16, w ∈ zWd := by decide +kernel
theorem u_inX5 : ∀ w ∈ u_ws RX5 TX5 1, w ∈ zWd := by decide +kernel
theorem u_inX6 : ∀ w ∈ u_ws RX6 TX6 9, w ∈ zWd := by decide +kernel
theorem u_inX7 : ∀ w ∈ u_ws RX7 TX7 17, w ∈ zWd := by decide +kernel
