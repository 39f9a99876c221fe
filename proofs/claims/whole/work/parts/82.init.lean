/-! THE CONSTRUCTORS of the nested classes -/
def leC (cI : ClassId) (q : Nat) (a : Nat → Nat) : va_W := [(q, .inr (2, [.ref (a 0), .int 0])), (a 0, .inl (cI, 200, .inl (fun _ => 0)))]
def reC (cI : ClassId) (q : Nat) (a : Nat → Nat) : va_W := [(q, .inr (5, [.ref (a 0)])), (a 0, .inl (cI, 4, .inl (fun _ => 0)))]
def plC (cI : ClassId) (q : Nat) (a : Nat → Nat) : va_W := [(q, .inr (4, [.int 0, .int 0, .int 0, .int 0, .int 0, .ref (a 0), .ref (a 1), .ref (a 2), .ref (a 3), .ref (a 4), .ref (a 5), .ref (a 6), .ref (a 7), .ref (a 8), .ref (a 9), .ref (a 10)])), (a 0, .inl (cI, 9, .inl (fun _ => 0))), (a 1, .inl (cI, 9, .inl (fun _ => 0))), (a 2, .inl (cI, 6, .inl (fun _ => 0))), (a 3, .inl (cI, 6, .inl (fun _ => 0))), (a 4, .inl (cI, 6, .inl (fun _ => 0))), (a 5, .inl (cI, 6, .inl (fun _ => 0))), (a 6, .inl (cI, 9, .inl (fun _ => 0))), (a 7, .inl (cI, 9, .inl (fun _ => 0))), (a 8, .inl (cI, 9, .inl (fun _ => 0))), (a 9, .inl (cI, 6, .inl (fun _ => 0))), (a 10, .inl (cI, 6, .inl (fun _ => 0)))]
def grC (cI : ClassId) (pr q : Nat) (a : Nat → Nat) : va_W := [(q, .inr (1, [.ref pr, .int 0, .ref (a 0), .ref (a 1), .ref (a 2), .ref (a 3), .ref (a 4), .int 0, .ref (a 5), .int 0, .ref (a 6), .int 0])), (a 0, .inl (cI, 6, .inl (fun _ => 0))), (a 1, .inl (cI, 6, .inl (fun _ => 0))), (a 2, .inl (cI, 6, .inl (fun _ => 0))), (a 3, .inl (cI, 36, .inl (fun _ => 0))), (a 4, .inl (cI, 6, .inl (fun _ => 0))), (a 5, .inl (cI, 9, .inl (fun _ => 0))), (a 6, .inl (cI, 6, .inl (fun _ => 0)))]
def coC (pr gr q : Nat) : va_W := [(q, .inr (0, [.ref pr, .ref gr, .int 0, .int 0, .int 0]))]
def moC (cI : ClassId) (q : Nat) (a : Nat → Nat) : va_W := [(q, .inr (7, [.int 0, .ref (a 0), .ref (a 1), .ref (a 2), .ref (a 3), .ref (a 4), .ref (a 5), .ref (a 6), .ref (a 7), .ref (a 8), .int 0, .int 0, .int 0, .int 0, .int 0, .int 0, .int 0])), (a 0, .inl (cI, 200, .inl (fun _ => 0))), (a 1, .inl (cI, 10, .inl (fun _ => 0))), (a 2, .inl (cI, 36, .inl (fun _ => 0))), (a 3, .inl (cI, 48, .inl (fun _ => 0))), (a 4, .inl (cI, 54, .inl (fun _ => 0))), (a 5, .inl (cI, 24, .inl (fun _ => 0))), (a 6, .inl (cI, 67, .inl (fun _ => 0))), (a 7, .inl (cI, 268, .inl (fun _ => 0))), (a 8, .inl (cI, 67, .inl (fun _ => 0)))]
def paC (cI cG : ClassId) (pr q ka : Nat) (g : Nat → Nat) (b : Nat → Nat → Nat) : va_W := ((([(q, .inr (3, [.ref ka, .int 0, .int 0])), (ka, .inl (cG, 4, .inr (.inr (.inr (.inr (fun j => ([g 0, g 1, g 2, g 3] : List Nat)[j]?))))))] ++ grC cI pr (g 0) (b 0)) ++ grC cI pr (g 1) (b 1)) ++ grC cI pr (g 2) (b 2)) ++ grC cI pr (g 3) (b 3)
theorem arrI : Cond.arrayClass .int ∈ zWd := (zmem 102 (by decide +kernel) (by decide +kernel))
theorem iX2_init_0 : zI cX2_init 0 (.aload_n 0) 1 1 := ⟨by decide +kernel, rfl⟩
theorem iX2_init_1 : zI cX2_init 1 (.invokespecial 3) 3 4 := ⟨by decide +kernel, rfl⟩
theorem oX2_3 : zO RX2 3 := ⟨(zmem 91 (by decide +kernel) (by decide +kernel)), (zmem 84 (by decide +kernel) (by decide +kernel)), (zmem 85 rfl rfl)⟩
theorem iX2_init_4 : zI cX2_init 4 (.aload_n 0) 1 5 := ⟨by decide +kernel, rfl⟩
theorem iX2_init_5 : zI cX2_init 5 (.sipush 200) 3 8 := ⟨by decide +kernel, rfl⟩
theorem iX2_init_8 : zI cX2_init 8 (.newarray .int) 2 10 := ⟨by decide +kernel, rfl⟩
theorem iX2_init_10 : zI cX2_init 10 (.putfield 9) 3 13 := ⟨by decide +kernel, rfl⟩
theorem ffX2_9 : zFf RX2 9 2 0 := ⟨RX2, TX2, 2, rfl, by decide, (zmem 92 (by decide +kernel) (by decide +kernel)), u_inX2, by decide +kernel, by decide +kernel, ⟨tyX2, tyX2_ok⟩, nmX2, tyX2 0, tyX2_ok 0 (by decide), fun _ => rfl, fun _ => rfl⟩
theorem iX2_init_13 : zI cX2_init 13 (.return_) 1 14 := ⟨by decide +kernel, rfl⟩
theorem iX5_init_0 : zI cX5_init 0 (.aload_n 0) 1 1 := ⟨by decide +kernel, rfl⟩
theorem iX5_init_1 : zI cX5_init 1 (.invokespecial 3) 3 4 := ⟨by decide +kernel, rfl⟩
theorem oX5_3 : zO RX5 3 := ⟨(zmem 108 (by decide +kernel) (by decide +kernel)), (zmem 84 (by decide +kernel) (by decide +kernel)), (zmem 85 rfl rfl)⟩
theorem iX5_init_4 : zI cX5_init 4 (.aload_n 0) 1 5 := ⟨by decide +kernel, rfl⟩
theorem iX5_init_5 : zI cX5_init 5 (.iconst 4) 1 6 := ⟨by decide +kernel, rfl⟩
theorem iX5_init_6 : zI cX5_init 6 (.newarray .int) 2 8 := ⟨by decide +kernel, rfl⟩
theorem iX5_init_8 : zI cX5_init 8 (.putfield 9) 3 11 := ⟨by decide +kernel, rfl⟩
theorem ffX5_9 : zFf RX5 9 5 0 := ⟨RX5, TX5, 1, rfl, by decide, (zmem 109 (by decide +kernel) (by decide +kernel)), u_inX5, by decide +kernel, by decide +kernel, ⟨tyX5, tyX5_ok⟩, nmX5, tyX5 0, tyX5_ok 0 (by decide), fun _ => rfl, fun _ => rfl⟩
theorem iX5_init_11 : zI cX5_init 11 (.return_) 1 12 := ⟨by decide +kernel, rfl⟩
theorem iX4_init_0 : zI cX4_init 0 (.aload_n 0) 1 1 := ⟨by decide +kernel, rfl⟩
theorem iX4_init_1 : zI cX4_init 1 (.invokespecial 3) 3 4 := ⟨by decide +kernel, rfl⟩
theorem oX4_3 : zO RX4 3 := ⟨(zmem 118 (by decide +kernel) (by decide +kernel)), (zmem 84 (by decide +kernel) (by decide +kernel)), (zmem 85 rfl rfl)⟩
theorem iX4_init_4 : zI cX4_init 4 (.aload_n 0) 1 5 := ⟨by decide +kernel, rfl⟩
theorem iX4_init_5 : zI cX4_init 5 (.bipush 9) 2 7 := ⟨by decide +kernel, rfl⟩
theorem iX4_init_7 : zI cX4_init 7 (.newarray .int) 2 9 := ⟨by decide +kernel, rfl⟩
theorem iX4_init_9 : zI cX4_init 9 (.putfield 9) 3 12 := ⟨by decide +kernel, rfl⟩
theorem ffX4_9 : zFf RX4 9 4 5 := ⟨RX4, TX4, 16, rfl, by decide, (zmem 137 (by decide +kernel) (by decide +kernel)), u_inX4, by decide +kernel, by decide +kernel, ⟨tyX4, tyX4_ok⟩, nmX4, tyX4 5, tyX4_ok 5 (by decide), fun _ => rfl, fun _ => rfl⟩
theorem iX4_init_12 : zI cX4_init 12 (.aload_n 0) 1 13 := ⟨by decide +kernel, rfl⟩
theorem iX4_init_13 : zI cX4_init 13 (.bipush 9) 2 15 := ⟨by decide +kernel, rfl⟩
theorem iX4_init_15 : zI cX4_init 15 (.newarray .int) 2 17 := ⟨by decide +kernel, rfl⟩
theorem iX4_init_17 : zI cX4_init 17 (.putfield 15) 3 20 := ⟨by decide +kernel, rfl⟩
theorem ffX4_15 : zFf RX4 15 4 6 := ⟨RX4, TX4, 16, rfl, by decide, (zmem 139 (by decide +kernel) (by decide +kernel)), u_inX4, by decide +kernel, by decide +kernel, ⟨tyX4, tyX4_ok⟩, nmX4, tyX4 6, tyX4_ok 6 (by decide), fun _ => rfl, fun _ => rfl⟩
theorem iX4_init_20 : zI cX4_init 20 (.aload_n 0) 1 21 := ⟨by decide +kernel, rfl⟩
theorem iX4_init_21 : zI cX4_init 21 (.bipush 6) 2 23 := ⟨by decide +kernel, rfl⟩
theorem iX4_init_23 : zI cX4_init 23 (.newarray .int) 2 25 := ⟨by decide +kernel, rfl⟩
theorem iX4_init_25 : zI cX4_init 25 (.putfield 18) 3 28 := ⟨by decide +kernel, rfl⟩
theorem ffX4_18 : zFf RX4 18 4 7 := ⟨RX4, TX4, 16, rfl, by decide, (zmem 141 (by decide +kernel) (by decide +kernel)), u_inX4, by decide +kernel, by decide +kernel, ⟨tyX4, tyX4_ok⟩, nmX4, tyX4 7, tyX4_ok 7 (by decide), fun _ => rfl, fun _ => rfl⟩
theorem iX4_init_28 : zI cX4_init 28 (.aload_n 0) 1 29 := ⟨by decide +kernel, rfl⟩
theorem iX4_init_29 : zI cX4_init 29 (.bipush 6) 2 31 := ⟨by decide +kernel, rfl⟩
theorem iX4_init_31 : zI cX4_init 31 (.newarray .int) 2 33 := ⟨by decide +kernel, rfl⟩
theorem iX4_init_33 : zI cX4_init 33 (.putfield 21) 3 36 := ⟨by decide +kernel, rfl⟩
theorem ffX4_21 : zFf RX4 21 4 8 := ⟨RX4, TX4, 16, rfl, by decide, (zmem 144 (by decide +kernel) (by decide +kernel)), u_inX4, by decide +kernel, by decide +kernel, ⟨tyX4, tyX4_ok⟩, nmX4, tyX4 8, tyX4_ok 8 (by decide), fun _ => rfl, fun _ => rfl⟩
theorem iX4_init_36 : zI cX4_init 36 (.aload_n 0) 1 37 := ⟨by decide +kernel, rfl⟩
theorem iX4_init_37 : zI cX4_init 37 (.bipush 6) 2 39 := ⟨by decide +kernel, rfl⟩
theorem iX4_init_39 : zI cX4_init 39 (.newarray .int) 2 41 := ⟨by decide +kernel, rfl⟩
theorem iX4_init_41 : zI cX4_init 41 (.putfield 24) 3 44 := ⟨by decide +kernel, rfl⟩
theorem ffX4_24 : zFf RX4 24 4 9 := ⟨RX4, TX4, 16, rfl, by decide, (zmem 147 (by decide +kernel) (by decide +kernel)), u_inX4, by decide +kernel, by decide +kernel, ⟨tyX4, tyX4_ok⟩, nmX4, tyX4 9, tyX4_ok 9 (by decide), fun _ => rfl, fun _ => rfl⟩
theorem iX4_init_44 : zI cX4_init 44 (.aload_n 0) 1 45 := ⟨by decide +kernel, rfl⟩
theorem iX4_init_45 : zI cX4_init 45 (.bipush 6) 2 47 := ⟨by decide +kernel, rfl⟩
theorem iX4_init_47 : zI cX4_init 47 (.newarray .int) 2 49 := ⟨by decide +kernel, rfl⟩
theorem iX4_init_49 : zI cX4_init 49 (.putfield 27) 3 52 := ⟨by decide +kernel, rfl⟩
theorem ffX4_27 : zFf RX4 27 4 10 := ⟨RX4, TX4, 16, rfl, by decide, (zmem 149 (by decide +kernel) (by decide +kernel)), u_inX4, by decide +kernel, by decide +kernel, ⟨tyX4, tyX4_ok⟩, nmX4, tyX4 10, tyX4_ok 10 (by decide), fun _ => rfl, fun _ => rfl⟩
theorem iX4_init_52 : zI cX4_init 52 (.aload_n 0) 1 53 := ⟨by decide +kernel, rfl⟩
theorem iX4_init_53 : zI cX4_init 53 (.bipush 9) 2 55 := ⟨by decide +kernel, rfl⟩
theorem iX4_init_55 : zI cX4_init 55 (.newarray .int) 2 57 := ⟨by decide +kernel, rfl⟩
theorem iX4_init_57 : zI cX4_init 57 (.putfield 30) 3 60 := ⟨by decide +kernel, rfl⟩
theorem ffX4_30 : zFf RX4 30 4 11 := ⟨RX4, TX4, 16, rfl, by decide, (zmem 151 (by decide +kernel) (by decide +kernel)), u_inX4, by decide +kernel, by decide +kernel, ⟨tyX4, tyX4_ok⟩, nmX4, tyX4 11, tyX4_ok 11 (by decide), fun _ => rfl, fun _ => rfl⟩
theorem iX4_init_60 : zI cX4_init 60 (.aload_n 0) 1 61 := ⟨by decide +kernel, rfl⟩
theorem iX4_init_61 : zI cX4_init 61 (.bipush 9) 2 63 := ⟨by decide +kernel, rfl⟩
theorem iX4_init_63 : zI cX4_init 63 (.newarray .int) 2 65 := ⟨by decide +kernel, rfl⟩
theorem iX4_init_65 : zI cX4_init 65 (.putfield 33) 3 68 := ⟨by decide +kernel, rfl⟩
theorem ffX4_33 : zFf RX4 33 4 12 := ⟨RX4, TX4, 16, rfl, by decide, (zmem 155 (by decide +kernel) (by decide +kernel)), u_inX4, by decide +kernel, by decide +kernel, ⟨tyX4, tyX4_ok⟩, nmX4, tyX4 12, tyX4_ok 12 (by decide), fun _ => rfl, fun _ => rfl⟩
theorem iX4_init_68 : zI cX4_init 68 (.aload_n 0) 1 69 := ⟨by decide +kernel, rfl⟩
theorem iX4_init_69 : zI cX4_init 69 (.bipush 9) 2 71 := ⟨by decide +kernel, rfl⟩
theorem iX4_init_71 : zI cX4_init 71 (.newarray .int) 2 73 := ⟨by decide +kernel, rfl⟩
theorem iX4_init_73 : zI cX4_init 73 (.putfield 36) 3 76 := ⟨by decide +kernel, rfl⟩
theorem ffX4_36 : zFf RX4 36 4 13 := ⟨RX4, TX4, 16, rfl, by decide, (zmem 158 (by decide +kernel) (by decide +kernel)), u_inX4, by decide +kernel, by decide +kernel, ⟨tyX4, tyX4_ok⟩, nmX4, tyX4 13, tyX4_ok 13 (by decide), fun _ => rfl, fun _ => rfl⟩
theorem iX4_init_76 : zI cX4_init 76 (.aload_n 0) 1 77 := ⟨by decide +kernel, rfl⟩
theorem iX4_init_77 : zI cX4_init 77 (.bipush 6) 2 79 := ⟨by decide +kernel, rfl⟩
theorem iX4_init_79 : zI cX4_init 79 (.newarray .int) 2 81 := ⟨by decide +kernel, rfl⟩
theorem iX4_init_81 : zI cX4_init 81 (.putfield 39) 3 84 := ⟨by decide +kernel, rfl⟩
theorem ffX4_39 : zFf RX4 39 4 14 := ⟨RX4, TX4, 16, rfl, by decide, (zmem 160 (by decide +kernel) (by decide +kernel)), u_inX4, by decide +kernel, by decide +kernel, ⟨tyX4, tyX4_ok⟩, nmX4, tyX4 14, tyX4_ok 14 (by decide), fun _ => rfl, fun _ => rfl⟩
theorem iX4_init_84 : zI cX4_init 84 (.aload_n 0) 1 85 := ⟨by decide +kernel, rfl⟩
theorem iX4_init_85 : zI cX4_init 85 (.bipush 6) 2 87 := ⟨by decide +kernel, rfl⟩
theorem iX4_init_87 : zI cX4_init 87 (.newarray .int) 2 89 := ⟨by decide +kernel, rfl⟩
theorem iX4_init_89 : zI cX4_init 89 (.putfield 42) 3 92 := ⟨by decide +kernel, rfl⟩
theorem ffX4_42 : zFf RX4 42 4 15 := ⟨RX4, TX4, 16, rfl, by decide, (zmem 162 (by decide +kernel) (by decide +kernel)), u_inX4, by decide +kernel, by decide +kernel, ⟨tyX4, tyX4_ok⟩, nmX4, tyX4 15, tyX4_ok 15 (by decide), fun _ => rfl, fun _ => rfl⟩
theorem iX4_init_92 : zI cX4_init 92 (.return_) 1 93 := ⟨by decide +kernel, rfl⟩
theorem iX1_init_0 : zI cX1_init 0 (.aload_n 0) 1 1 := ⟨by decide +kernel, rfl⟩
theorem iX1_init_1 : zI cX1_init 1 (.invokespecial 3) 3 4 := ⟨by decide +kernel, rfl⟩
theorem oX1_3 : zO RX1 3 := ⟨(zmem 202 (by decide +kernel) (by decide +kernel)), (zmem 84 (by decide +kernel) (by decide +kernel)), (zmem 85 rfl rfl)⟩
theorem iX1_init_4 : zI cX1_init 4 (.aload_n 0) 1 5 := ⟨by decide +kernel, rfl⟩
theorem iX1_init_5 : zI cX1_init 5 (.bipush 6) 2 7 := ⟨by decide +kernel, rfl⟩
theorem iX1_init_7 : zI cX1_init 7 (.newarray .int) 2 9 := ⟨by decide +kernel, rfl⟩
theorem iX1_init_9 : zI cX1_init 9 (.putfield 9) 3 12 := ⟨by decide +kernel, rfl⟩
theorem ffX1_9 : zFf RX1 9 1 2 := ⟨RX1, TX1, 12, rfl, by decide, (zmem 206 (by decide +kernel) (by decide +kernel)), u_inX1, by decide +kernel, by decide +kernel, ⟨tyX1, tyX1_ok⟩, nmX1, tyX1 2, tyX1_ok 2 (by decide), fun _ => rfl, fun _ => rfl⟩
theorem iX1_init_12 : zI cX1_init 12 (.aload_n 0) 1 13 := ⟨by decide +kernel, rfl⟩
theorem iX1_init_13 : zI cX1_init 13 (.bipush 6) 2 15 := ⟨by decide +kernel, rfl⟩
theorem iX1_init_15 : zI cX1_init 15 (.newarray .int) 2 17 := ⟨by decide +kernel, rfl⟩
theorem iX1_init_17 : zI cX1_init 17 (.putfield 15) 3 20 := ⟨by decide +kernel, rfl⟩
theorem ffX1_15 : zFf RX1 15 1 3 := ⟨RX1, TX1, 12, rfl, by decide, (zmem 209 (by decide +kernel) (by decide +kernel)), u_inX1, by decide +kernel, by decide +kernel, ⟨tyX1, tyX1_ok⟩, nmX1, tyX1 3, tyX1_ok 3 (by decide), fun _ => rfl, fun _ => rfl⟩
theorem iX1_init_20 : zI cX1_init 20 (.aload_n 0) 1 21 := ⟨by decide +kernel, rfl⟩
theorem iX1_init_21 : zI cX1_init 21 (.bipush 6) 2 23 := ⟨by decide +kernel, rfl⟩
theorem iX1_init_23 : zI cX1_init 23 (.newarray .int) 2 25 := ⟨by decide +kernel, rfl⟩
theorem iX1_init_25 : zI cX1_init 25 (.putfield 18) 3 28 := ⟨by decide +kernel, rfl⟩
theorem ffX1_18 : zFf RX1 18 1 4 := ⟨RX1, TX1, 12, rfl, by decide, (zmem 210 (by decide +kernel) (by decide +kernel)), u_inX1, by decide +kernel, by decide +kernel, ⟨tyX1, tyX1_ok⟩, nmX1, tyX1 4, tyX1_ok 4 (by decide), fun _ => rfl, fun _ => rfl⟩
theorem iX1_init_28 : zI cX1_init 28 (.aload_n 0) 1 29 := ⟨by decide +kernel, rfl⟩
theorem iX1_init_29 : zI cX1_init 29 (.bipush 36) 2 31 := ⟨by decide +kernel, rfl⟩
theorem iX1_init_31 : zI cX1_init 31 (.newarray .int) 2 33 := ⟨by decide +kernel, rfl⟩
theorem iX1_init_33 : zI cX1_init 33 (.putfield 21) 3 36 := ⟨by decide +kernel, rfl⟩
theorem ffX1_21 : zFf RX1 21 1 5 := ⟨RX1, TX1, 12, rfl, by decide, (zmem 213 (by decide +kernel) (by decide +kernel)), u_inX1, by decide +kernel, by decide +kernel, ⟨tyX1, tyX1_ok⟩, nmX1, tyX1 5, tyX1_ok 5 (by decide), fun _ => rfl, fun _ => rfl⟩
theorem iX1_init_36 : zI cX1_init 36 (.aload_n 0) 1 37 := ⟨by decide +kernel, rfl⟩
theorem iX1_init_37 : zI cX1_init 37 (.bipush 6) 2 39 := ⟨by decide +kernel, rfl⟩
theorem iX1_init_39 : zI cX1_init 39 (.newarray .int) 2 41 := ⟨by decide +kernel, rfl⟩
theorem iX1_init_41 : zI cX1_init 41 (.putfield 24) 3 44 := ⟨by decide +kernel, rfl⟩
theorem ffX1_24 : zFf RX1 24 1 6 := ⟨RX1, TX1, 12, rfl, by decide, (zmem 216 (by decide +kernel) (by decide +kernel)), u_inX1, by decide +kernel, by decide +kernel, ⟨tyX1, tyX1_ok⟩, nmX1, tyX1 6, tyX1_ok 6 (by decide), fun _ => rfl, fun _ => rfl⟩
theorem iX1_init_44 : zI cX1_init 44 (.aload_n 0) 1 45 := ⟨by decide +kernel, rfl⟩
theorem iX1_init_45 : zI cX1_init 45 (.bipush 9) 2 47 := ⟨by decide +kernel, rfl⟩
theorem iX1_init_47 : zI cX1_init 47 (.newarray .int) 2 49 := ⟨by decide +kernel, rfl⟩
theorem iX1_init_49 : zI cX1_init 49 (.putfield 27) 3 52 := ⟨by decide +kernel, rfl⟩
theorem ffX1_27 : zFf RX1 27 1 8 := ⟨RX1, TX1, 12, rfl, by decide, (zmem 221 (by decide +kernel) (by decide +kernel)), u_inX1, by decide +kernel, by decide +kernel, ⟨tyX1, tyX1_ok⟩, nmX1, tyX1 8, tyX1_ok 8 (by decide), fun _ => rfl, fun _ => rfl⟩
theorem iX1_init_52 : zI cX1_init 52 (.aload_n 0) 1 53 := ⟨by decide +kernel, rfl⟩
theorem iX1_init_53 : zI cX1_init 53 (.bipush 6) 2 55 := ⟨by decide +kernel, rfl⟩
theorem iX1_init_55 : zI cX1_init 55 (.newarray .int) 2 57 := ⟨by decide +kernel, rfl⟩
theorem iX1_init_57 : zI cX1_init 57 (.putfield 30) 3 60 := ⟨by decide +kernel, rfl⟩
theorem ffX1_30 : zFf RX1 30 1 10 := ⟨RX1, TX1, 12, rfl, by decide, (zmem 227 (by decide +kernel) (by decide +kernel)), u_inX1, by decide +kernel, by decide +kernel, ⟨tyX1, tyX1_ok⟩, nmX1, tyX1 10, tyX1_ok 10 (by decide), fun _ => rfl, fun _ => rfl⟩
theorem iX1_init_60 : zI cX1_init 60 (.aload_n 0) 1 61 := ⟨by decide +kernel, rfl⟩
theorem iX1_init_61 : zI cX1_init 61 (.aload_n 1) 1 62 := ⟨by decide +kernel, rfl⟩
theorem iX1_init_62 : zI cX1_init 62 (.putfield 33) 3 65 := ⟨by decide +kernel, rfl⟩
theorem ffX1_33 : zFf RX1 33 1 0 := ⟨RX1, TX1, 12, rfl, by decide, (zmem 203 (by decide +kernel) (by decide +kernel)), u_inX1, by decide +kernel, by decide +kernel, ⟨tyX1, tyX1_ok⟩, nmX1, tyX1 0, tyX1_ok 0 (by decide), fun _ => rfl, fun _ => rfl⟩
theorem iX1_init_65 : zI cX1_init 65 (.return_) 1 66 := ⟨by decide +kernel, rfl⟩
theorem iX0_init_0 : zI cX0_init 0 (.aload_n 0) 1 1 := ⟨by decide +kernel, rfl⟩
theorem iX0_init_1 : zI cX0_init 1 (.invokespecial 3) 3 4 := ⟨by decide +kernel, rfl⟩
theorem oX0_3 : zO RX0 3 := ⟨(zmem 263 (by decide +kernel) (by decide +kernel)), (zmem 84 (by decide +kernel) (by decide +kernel)), (zmem 85 rfl rfl)⟩
theorem iX0_init_4 : zI cX0_init 4 (.aload_n 0) 1 5 := ⟨by decide +kernel, rfl⟩
theorem iX0_init_5 : zI cX0_init 5 (.aload_n 1) 1 6 := ⟨by decide +kernel, rfl⟩
theorem iX0_init_6 : zI cX0_init 6 (.putfield 9) 3 9 := ⟨by decide +kernel, rfl⟩
theorem ffX0_9 : zFf RX0 9 0 0 := ⟨RX0, TX0, 5, rfl, by decide, (zmem 264 (by decide +kernel) (by decide +kernel)), u_inX0, by decide +kernel, by decide +kernel, ⟨tyX0, tyX0_ok⟩, nmX0, tyX0 0, tyX0_ok 0 (by decide), fun _ => rfl, fun _ => rfl⟩
theorem iX0_init_9 : zI cX0_init 9 (.aload_n 0) 1 10 := ⟨by decide +kernel, rfl⟩
theorem iX0_init_10 : zI cX0_init 10 (.aload_n 2) 1 11 := ⟨by decide +kernel, rfl⟩
theorem iX0_init_11 : zI cX0_init 11 (.putfield 15) 3 14 := ⟨by decide +kernel, rfl⟩
theorem ffX0_15 : zFf RX0 15 0 1 := ⟨RX0, TX0, 5, rfl, by decide, (zmem 265 (by decide +kernel) (by decide +kernel)), u_inX0, by decide +kernel, by decide +kernel, ⟨tyX0, tyX0_ok⟩, nmX0, tyX0 1, tyX0_ok 1 (by decide), fun _ => rfl, fun _ => rfl⟩
theorem iX0_init_14 : zI cX0_init 14 (.return_) 1 15 := ⟨by decide +kernel, rfl⟩
set_option maxRecDepth 100000 in
theorem ciX1 : zCi yX1_init cX1_init 2 1 := ⟨(zmem 67 (by decide +kernel) (by decide +kernel)), (zmem 201 rfl rfl), ⟨by decide, by decide, by decide +kernel⟩, by decide, rfl, (zmem 200 (by decide +kernel) (by decide +kernel))⟩
theorem wiX3_17 : Cond.methodLink RX3 17 yX1_init ∈ zWd := (zmem 291 (by decide +kernel) (by decide +kernel))
theorem clX3_9 : Cond.classLink RX3 9 RX1 ∈ zWd := (zmem 289 (by decide +kernel) (by decide +kernel))
theorem iX3_init_0 : zI cX3_init 0 (.aload_n 0) 1 1 := ⟨by decide +kernel, rfl⟩
theorem oX3_3 : zO RX3 3 := ⟨(zmem 288 (by decide +kernel) (by decide +kernel)), (zmem 84 (by decide +kernel) (by decide +kernel)), (zmem 85 rfl rfl)⟩
theorem iX3_init_1 : zI cX3_init 1 (.invokespecial 3) 3 4 := ⟨by decide +kernel, rfl⟩
theorem iX3_init_4 : zI cX3_init 4 (.aload_n 0) 1 5 := ⟨by decide +kernel, rfl⟩
theorem iX3_init_5 : zI cX3_init 5 (.iconst 4) 1 6 := ⟨by decide +kernel, rfl⟩
theorem iX3_init_6 : zI cX3_init 6 (.anewarray 9) 3 9 := ⟨by decide +kernel, rfl⟩
theorem ffX3_11 : zFf RX3 11 3 0 := ⟨RX3, TX3, 3, rfl, by decide, (zmem 292 (by decide +kernel) (by decide +kernel)), u_inX3, by decide +kernel, by decide +kernel, ⟨tyX3, tyX3_ok⟩, nmX3, tyX3 0, tyX3_ok 0 (by decide), fun _ => rfl, fun _ => rfl⟩
theorem iX3_init_9 : zI cX3_init 9 (.putfield 11) 3 12 := ⟨by decide +kernel, rfl⟩
theorem iX3_init_12 : zI cX3_init 12 (.iconst 0) 1 13 := ⟨by decide +kernel, rfl⟩
theorem iX3_init_13 : zI cX3_init 13 (.istore_n 2) 1 14 := ⟨by decide +kernel, rfl⟩
theorem fiX3_11 : zFl RX3 11 3 0 := ⟨RX3, TX3, 3, rfl, by decide, (zmem 292 (by decide +kernel) (by decide +kernel)), u_inX3⟩
theorem iX3_init_14 : zI cX3_init 14 (.iload_n 2) 1 15 := ⟨by decide +kernel, rfl⟩
theorem iX3_init_15 : zI cX3_init 15 (.iconst 4) 1 16 := ⟨by decide +kernel, rfl⟩
theorem iX3_init_16 : zI cX3_init 16 (.if_icmp .ge 23) 3 19 := ⟨by decide +kernel, rfl⟩
theorem iX3_init_19 : zI cX3_init 19 (.aload_n 0) 1 20 := ⟨by decide +kernel, rfl⟩
theorem iX3_init_20 : zI cX3_init 20 (.getfield 11) 3 23 := ⟨by decide +kernel, rfl⟩
theorem iX3_init_23 : zI cX3_init 23 (.iload_n 2) 1 24 := ⟨by decide +kernel, rfl⟩
theorem mkX3_9 : zMk RX3 9 1 12 [.null, .int 0, .null, .null, .null, .null, .null, .int 0, .null, .int 0, .null, .int 0] := ⟨RX1, TX1, tyX1, rfl, (zmem 289 (by decide +kernel) (by decide +kernel)), (zmem 198 (by decide +kernel) (by decide +kernel)), (zmem 67 (by decide +kernel) (by decide +kernel)), u_inX1, tyX1_ok, fun j hj => by rcases (show j = 0 ∨ j = 1 ∨ j = 2 ∨ j = 3 ∨ j = 4 ∨ j = 5 ∨ j = 6 ∨ j = 7 ∨ j = 8 ∨ j = 9 ∨ j = 10 ∨ j = 11 by omega) with rfl | rfl | rfl | rfl | rfl | rfl | rfl | rfl | rfl | rfl | rfl | rfl <;> rfl⟩
theorem iX3_init_24 : zI cX3_init 24 (.new 9) 3 27 := ⟨by decide +kernel, rfl⟩
theorem iX3_init_27 : zI cX3_init 27 (.dup) 1 28 := ⟨by decide +kernel, rfl⟩
theorem iX3_init_28 : zI cX3_init 28 (.aload_n 1) 1 29 := ⟨by decide +kernel, rfl⟩
theorem iX3_init_29 : zI cX3_init 29 (.invokespecial 17) 3 32 := ⟨by decide +kernel, rfl⟩
theorem iX3_init_32 : zI cX3_init 32 (.aastore) 1 33 := ⟨by decide +kernel, rfl⟩
theorem iX3_init_33 : zI cX3_init 33 (.iinc 2 1) 3 36 := ⟨by decide +kernel, rfl⟩
theorem iX3_init_36 : zI cX3_init 36 (.goto (-22)) 3 39 := ⟨by decide +kernel, rfl⟩
theorem iX3_init_39 : zI cX3_init 39 (.return_) 1 40 := ⟨by decide +kernel, rfl⟩
set_option maxHeartbeats 4000000 in
set_option maxRecDepth 100000 in
theorem n_Le (q : Nat) : kM yX2_init cX2_init 1 1 1 200 (fun _ _ _ => True) [.ref q] (q, .inr (2, [.null, .int 0])) (fun cI _ w => ∃ a, w = leC cI q a) := by
  refine kM.of (by decide) rfl rfl (Nat.le_of_ble_eq_true rfl) (fun X D cI cG A sz hA hnL C hr => ?_)
  show kG X D A 0 0 0 [some (.ref q)] [] [(q, .inr (2, [.null, .int 0]))]
  refine k_aload_n C iX2_init_0 rfl ?_
  refine k_obj C oX2_3 iX2_init_1 (by decide) (Nat.le_of_ble_eq_true rfl) ?_
  refine k_aload_n C iX2_init_4 rfl ?_
  refine k_sipush C 200 iX2_init_5 (by decide) ?_
  refine k_newa C arrI 200 iX2_init_8 (by decide) (by decide) (Nat.le_of_ble_eq_true rfl) (Nat.le_of_ble_eq_true rfl) (Nat.le_of_ble_eq_true rfl) (fun a0 => ?_)
  show kG X D A 1 200 10 [some (.ref q)] [.ref a0, .ref q] [(q, .inr (2, [.null, .int 0])), (a0, .inl (cI, 200, .inl (fun _ => 0)))]
  refine k_putF C 0 ffX2_9 iX2_init_10 rfl (Nat.le_of_ble_eq_true rfl) ?_
  show kG X D A 1 200 13 [some (.ref q)] [] [(q, .inr (2, [.ref a0, .int 0])), (a0, .inl (cI, 200, .inl (fun _ => 0)))]
  exact hr _ _ _ _ iX2_init_13 ⟨fun k => [a0].getD k 0, rfl⟩
set_option maxHeartbeats 4000000 in
set_option maxRecDepth 100000 in
theorem n_Re (q : Nat) : kM yX5_init cX5_init 1 1 1 4 (fun _ _ _ => True) [.ref q] (q, .inr (5, [.null])) (fun cI _ w => ∃ a, w = reC cI q a) := by
  refine kM.of (by decide) rfl rfl (Nat.le_of_ble_eq_true rfl) (fun X D cI cG A sz hA hnL C hr => ?_)
  show kG X D A 0 0 0 [some (.ref q)] [] [(q, .inr (5, [.null]))]
  refine k_aload_n C iX5_init_0 rfl ?_
  refine k_obj C oX5_3 iX5_init_1 (by decide) (Nat.le_of_ble_eq_true rfl) ?_
  refine k_aload_n C iX5_init_4 rfl ?_
  refine k_iconst C 4 iX5_init_5 (by decide) ?_
  refine k_newa C arrI 4 iX5_init_6 (by decide) (by decide) (Nat.le_of_ble_eq_true rfl) (Nat.le_of_ble_eq_true rfl) (Nat.le_of_ble_eq_true rfl) (fun a0 => ?_)
  show kG X D A 1 4 8 [some (.ref q)] [.ref a0, .ref q] [(q, .inr (5, [.null])), (a0, .inl (cI, 4, .inl (fun _ => 0)))]
  refine k_putF C 0 ffX5_9 iX5_init_8 rfl (Nat.le_of_ble_eq_true rfl) ?_
  show kG X D A 1 4 11 [some (.ref q)] [] [(q, .inr (5, [.ref a0])), (a0, .inl (cI, 4, .inl (fun _ => 0)))]
  exact hr _ _ _ _ iX5_init_11 ⟨fun k => [a0].getD k 0, rfl⟩
set_option maxHeartbeats 4000000 in
set_option maxRecDepth 100000 in
theorem n_Pl (q : Nat) : kM yX4_init cX4_init 1 1 11 81 (fun _ _ _ => True) [.ref q] (q, .inr (4, [.int 0, .int 0, .int 0, .int 0, .int 0, .null, .null, .null, .null, .null, .null, .null, .null, .null, .null, .null])) (fun cI _ w => ∃ a, w = plC cI q a) := by
  refine kM.of (by decide) rfl rfl (Nat.le_of_ble_eq_true rfl) (fun X D cI cG A sz hA hnL C hr => ?_)
  show kG X D A 0 0 0 [some (.ref q)] [] [(q, .inr (4, [.int 0, .int 0, .int 0, .int 0, .int 0, .null, .null, .null, .null, .null, .null, .null, .null, .null, .null, .null]))]
  refine k_aload_n C iX4_init_0 rfl ?_
  refine k_obj C oX4_3 iX4_init_1 (by decide) (Nat.le_of_ble_eq_true rfl) ?_
  refine k_aload_n C iX4_init_4 rfl ?_
  refine k_bipush C 9 iX4_init_5 (by decide) ?_
  refine k_newa C arrI 9 iX4_init_7 (by decide) (by decide) (Nat.le_of_ble_eq_true rfl) (Nat.le_of_ble_eq_true rfl) (Nat.le_of_ble_eq_true rfl) (fun a0 => ?_)
  show kG X D A 1 9 9 [some (.ref q)] [.ref a0, .ref q] [(q, .inr (4, [.int 0, .int 0, .int 0, .int 0, .int 0, .null, .null, .null, .null, .null, .null, .null, .null, .null, .null, .null])), (a0, .inl (cI, 9, .inl (fun _ => 0)))]
  refine k_putF C 0 ffX4_9 iX4_init_9 rfl (Nat.le_of_ble_eq_true rfl) ?_
  show kG X D A 1 9 12 [some (.ref q)] [] [(q, .inr (4, [.int 0, .int 0, .int 0, .int 0, .int 0, .ref a0, .null, .null, .null, .null, .null, .null, .null, .null, .null, .null])), (a0, .inl (cI, 9, .inl (fun _ => 0)))]
  refine k_aload_n C iX4_init_12 rfl ?_
  refine k_bipush C 9 iX4_init_13 (by decide) ?_
  refine k_newa C arrI 9 iX4_init_15 (by decide) (by decide) (Nat.le_of_ble_eq_true rfl) (Nat.le_of_ble_eq_true rfl) (Nat.le_of_ble_eq_true rfl) (fun a1 => ?_)
  show kG X D A 2 18 17 [some (.ref q)] [.ref a1, .ref q] [(q, .inr (4, [.int 0, .int 0, .int 0, .int 0, .int 0, .ref a0, .null, .null, .null, .null, .null, .null, .null, .null, .null, .null])), (a0, .inl (cI, 9, .inl (fun _ => 0))), (a1, .inl (cI, 9, .inl (fun _ => 0)))]
  refine k_putF C 0 ffX4_15 iX4_init_17 rfl (Nat.le_of_ble_eq_true rfl) ?_
  show kG X D A 2 18 20 [some (.ref q)] [] [(q, .inr (4, [.int 0, .int 0, .int 0, .int 0, .int 0, .ref a0, .ref a1, .null, .null, .null, .null, .null, .null, .null, .null, .null])), (a0, .inl (cI, 9, .inl (fun _ => 0))), (a1, .inl (cI, 9, .inl (fun _ => 0)))]
  refine k_aload_n C iX4_init_20 rfl ?_
  refine k_bipush C 6 iX4_init_21 (by decide) ?_
  refine k_newa C arrI 6 iX4_init_23 (by decide) (by decide) (Nat.le_of_ble_eq_true rfl) (Nat.le_of_ble_eq_true rfl) (Nat.le_of_ble_eq_true rfl) (fun a2 => ?_)
  show kG X D A 3 24 25 [some (.ref q)] [.ref a2, .ref q] [(q, .inr (4, [.int 0, .int 0, .int 0, .int 0, .int 0, .ref a0, .ref a1, .null, .null, .null, .null, .null, .null, .null, .null, .null])), (a0, .inl (cI, 9, .inl (fun _ => 0))), (a1, .inl (cI, 9, .inl (fun _ => 0))), (a2, .inl (cI, 6, .inl (fun _ => 0)))]
  refine k_putF C 0 ffX4_18 iX4_init_25 rfl (Nat.le_of_ble_eq_true rfl) ?_
  show kG X D A 3 24 28 [some (.ref q)] [] [(q, .inr (4, [.int 0, .int 0, .int 0, .int 0, .int 0, .ref a0, .ref a1, .ref a2, .null, .null, .null, .null, .null, .null, .null, .null])), (a0, .inl (cI, 9, .inl (fun _ => 0))), (a1, .inl (cI, 9, .inl (fun _ => 0))), (a2, .inl (cI, 6, .inl (fun _ => 0)))]
  refine k_aload_n C iX4_init_28 rfl ?_
  refine k_bipush C 6 iX4_init_29 (by decide) ?_
  refine k_newa C arrI 6 iX4_init_31 (by decide) (by decide) (Nat.le_of_ble_eq_true rfl) (Nat.le_of_ble_eq_true rfl) (Nat.le_of_ble_eq_true rfl) (fun a3 => ?_)
  show kG X D A 4 30 33 [some (.ref q)] [.ref a3, .ref q] [(q, .inr (4, [.int 0, .int 0, .int 0, .int 0, .int 0, .ref a0, .ref a1, .ref a2, .null, .null, .null, .null, .null, .null, .null, .null])), (a0, .inl (cI, 9, .inl (fun _ => 0))), (a1, .inl (cI, 9, .inl (fun _ => 0))), (a2, .inl (cI, 6, .inl (fun _ => 0))), (a3, .inl (cI, 6, .inl (fun _ => 0)))]
  refine k_putF C 0 ffX4_21 iX4_init_33 rfl (Nat.le_of_ble_eq_true rfl) ?_
  show kG X D A 4 30 36 [some (.ref q)] [] [(q, .inr (4, [.int 0, .int 0, .int 0, .int 0, .int 0, .ref a0, .ref a1, .ref a2, .ref a3, .null, .null, .null, .null, .null, .null, .null])), (a0, .inl (cI, 9, .inl (fun _ => 0))), (a1, .inl (cI, 9, .inl (fun _ => 0))), (a2, .inl (cI, 6, .inl (fun _ => 0))), (a3, .inl (cI, 6, .inl (fun _ => 0)))]
  refine k_aload_n C iX4_init_36 rfl ?_
  refine k_bipush C 6 iX4_init_37 (by decide) ?_
  refine k_newa C arrI 6 iX4_init_39 (by decide) (by decide) (Nat.le_of_ble_eq_true rfl) (Nat.le_of_ble_eq_true rfl) (Nat.le_of_ble_eq_true rfl) (fun a4 => ?_)
  show kG X D A 5 36 41 [some (.ref q)] [.ref a4, .ref q] [(q, .inr (4, [.int 0, .int 0, .int 0, .int 0, .int 0, .ref a0, .ref a1, .ref a2, .ref a3, .null, .null, .null, .null, .null, .null, .null])), (a0, .inl (cI, 9, .inl (fun _ => 0))), (a1, .inl (cI, 9, .inl (fun _ => 0))), (a2, .inl (cI, 6, .inl (fun _ => 0))), (a3, .inl (cI, 6, .inl (fun _ => 0))), (a4, .inl (cI, 6, .inl (fun _ => 0)))]
  refine k_putF C 0 ffX4_24 iX4_init_41 rfl (Nat.le_of_ble_eq_true rfl) ?_
  show kG X D A 5 36 44 [some (.ref q)] [] [(q, .inr (4, [.int 0, .int 0, .int 0, .int 0, .int 0, .ref a0, .ref a1, .ref a2, .ref a3, .ref a4, .null, .null, .null, .null, .null, .null])), (a0, .inl (cI, 9, .inl (fun _ => 0))), (a1, .inl (cI, 9, .inl (fun _ => 0))), (a2, .inl (cI, 6, .inl (fun _ => 0))), (a3, .inl (cI, 6, .inl (fun _ => 0))), (a4, .inl (cI, 6, .inl (fun _ => 0)))]
  refine k_aload_n C iX4_init_44 rfl ?_
  refine k_bipush C 6 iX4_init_45 (by decide) ?_
  refine k_newa C arrI 6 iX4_init_47 (by decide) (by decide) (Nat.le_of_ble_eq_true rfl) (Nat.le_of_ble_eq_true rfl) (Nat.le_of_ble_eq_true rfl) (fun a5 => ?_)
  show kG X D A 6 42 49 [some (.ref q)] [.ref a5, .ref q] [(q, .inr (4, [.int 0, .int 0, .int 0, .int 0, .int 0, .ref a0, .ref a1, .ref a2, .ref a3, .ref a4, .null, .null, .null, .null, .null, .null])), (a0, .inl (cI, 9, .inl (fun _ => 0))), (a1, .inl (cI, 9, .inl (fun _ => 0))), (a2, .inl (cI, 6, .inl (fun _ => 0))), (a3, .inl (cI, 6, .inl (fun _ => 0))), (a4, .inl (cI, 6, .inl (fun _ => 0))), (a5, .inl (cI, 6, .inl (fun _ => 0)))]
  refine k_putF C 0 ffX4_27 iX4_init_49 rfl (Nat.le_of_ble_eq_true rfl) ?_
  show kG X D A 6 42 52 [some (.ref q)] [] [(q, .inr (4, [.int 0, .int 0, .int 0, .int 0, .int 0, .ref a0, .ref a1, .ref a2, .ref a3, .ref a4, .ref a5, .null, .null, .null, .null, .null])), (a0, .inl (cI, 9, .inl (fun _ => 0))), (a1, .inl (cI, 9, .inl (fun _ => 0))), (a2, .inl (cI, 6, .inl (fun _ => 0))), (a3, .inl (cI, 6, .inl (fun _ => 0))), (a4, .inl (cI, 6, .inl (fun _ => 0))), (a5, .inl (cI, 6, .inl (fun _ => 0)))]
  refine k_aload_n C iX4_init_52 rfl ?_
  refine k_bipush C 9 iX4_init_53 (by decide) ?_
  refine k_newa C arrI 9 iX4_init_55 (by decide) (by decide) (Nat.le_of_ble_eq_true rfl) (Nat.le_of_ble_eq_true rfl) (Nat.le_of_ble_eq_true rfl) (fun a6 => ?_)
  show kG X D A 7 51 57 [some (.ref q)] [.ref a6, .ref q] [(q, .inr (4, [.int 0, .int 0, .int 0, .int 0, .int 0, .ref a0, .ref a1, .ref a2, .ref a3, .ref a4, .ref a5, .null, .null, .null, .null, .null])), (a0, .inl (cI, 9, .inl (fun _ => 0))), (a1, .inl (cI, 9, .inl (fun _ => 0))), (a2, .inl (cI, 6, .inl (fun _ => 0))), (a3, .inl (cI, 6, .inl (fun _ => 0))), (a4, .inl (cI, 6, .inl (fun _ => 0))), (a5, .inl (cI, 6, .inl (fun _ => 0))), (a6, .inl (cI, 9, .inl (fun _ => 0)))]
  refine k_putF C 0 ffX4_30 iX4_init_57 rfl (Nat.le_of_ble_eq_true rfl) ?_
  show kG X D A 7 51 60 [some (.ref q)] [] [(q, .inr (4, [.int 0, .int 0, .int 0, .int 0, .int 0, .ref a0, .ref a1, .ref a2, .ref a3, .ref a4, .ref a5, .ref a6, .null, .null, .null, .null])), (a0, .inl (cI, 9, .inl (fun _ => 0))), (a1, .inl (cI, 9, .inl (fun _ => 0))), (a2, .inl (cI, 6, .inl (fun _ => 0))), (a3, .inl (cI, 6, .inl (fun _ => 0))), (a4, .inl (cI, 6, .inl (fun _ => 0))), (a5, .inl (cI, 6, .inl (fun _ => 0))), (a6, .inl (cI, 9, .inl (fun _ => 0)))]
  refine k_aload_n C iX4_init_60 rfl ?_
  refine k_bipush C 9 iX4_init_61 (by decide) ?_
  refine k_newa C arrI 9 iX4_init_63 (by decide) (by decide) (Nat.le_of_ble_eq_true rfl) (Nat.le_of_ble_eq_true rfl) (Nat.le_of_ble_eq_true rfl) (fun a7 => ?_)
  show kG X D A 8 60 65 [some (.ref q)] [.ref a7, .ref q] [(q, .inr (4, [.int 0, .int 0, .int 0, .int 0, .int 0, .ref a0, .ref a1, .ref a2, .ref a3, .ref a4, .ref a5, .ref a6, .null, .null, .null, .null])), (a0, .inl (cI, 9, .inl (fun _ => 0))), (a1, .inl (cI, 9, .inl (fun _ => 0))), (a2, .inl (cI, 6, .inl (fun _ => 0))), (a3, .inl (cI, 6, .inl (fun _ => 0))), (a4, .inl (cI, 6, .inl (fun _ => 0))), (a5, .inl (cI, 6, .inl (fun _ => 0))), (a6, .inl (cI, 9, .inl (fun _ => 0))), (a7, .inl (cI, 9, .inl (fun _ => 0)))]
  refine k_putF C 0 ffX4_33 iX4_init_65 rfl (Nat.le_of_ble_eq_true rfl) ?_
  show kG X D A 8 60 68 [some (.ref q)] [] [(q, .inr (4, [.int 0, .int 0, .int 0, .int 0, .int 0, .ref a0, .ref a1, .ref a2, .ref a3, .ref a4, .ref a5, .ref a6, .ref a7, .null, .null, .null])), (a0, .inl (cI, 9, .inl (fun _ => 0))), (a1, .inl (cI, 9, .inl (fun _ => 0))), (a2, .inl (cI, 6, .inl (fun _ => 0))), (a3, .inl (cI, 6, .inl (fun _ => 0))), (a4, .inl (cI, 6, .inl (fun _ => 0))), (a5, .inl (cI, 6, .inl (fun _ => 0))), (a6, .inl (cI, 9, .inl (fun _ => 0))), (a7, .inl (cI, 9, .inl (fun _ => 0)))]
  refine k_aload_n C iX4_init_68 rfl ?_
  refine k_bipush C 9 iX4_init_69 (by decide) ?_
  refine k_newa C arrI 9 iX4_init_71 (by decide) (by decide) (Nat.le_of_ble_eq_true rfl) (Nat.le_of_ble_eq_true rfl) (Nat.le_of_ble_eq_true rfl) (fun a8 => ?_)
  show kG X D A 9 69 73 [some (.ref q)] [.ref a8, .ref q] [(q, .inr (4, [.int 0, .int 0, .int 0, .int 0, .int 0, .ref a0, .ref a1, .ref a2, .ref a3, .ref a4, .ref a5, .ref a6, .ref a7, .null, .null, .null])), (a0, .inl (cI, 9, .inl (fun _ => 0))), (a1, .inl (cI, 9, .inl (fun _ => 0))), (a2, .inl (cI, 6, .inl (fun _ => 0))), (a3, .inl (cI, 6, .inl (fun _ => 0))), (a4, .inl (cI, 6, .inl (fun _ => 0))), (a5, .inl (cI, 6, .inl (fun _ => 0))), (a6, .inl (cI, 9, .inl (fun _ => 0))), (a7, .inl (cI, 9, .inl (fun _ => 0))), (a8, .inl (cI, 9, .inl (fun _ => 0)))]
  refine k_putF C 0 ffX4_36 iX4_init_73 rfl (Nat.le_of_ble_eq_true rfl) ?_
  show kG X D A 9 69 76 [some (.ref q)] [] [(q, .inr (4, [.int 0, .int 0, .int 0, .int 0, .int 0, .ref a0, .ref a1, .ref a2, .ref a3, .ref a4, .ref a5, .ref a6, .ref a7, .ref a8, .null, .null])), (a0, .inl (cI, 9, .inl (fun _ => 0))), (a1, .inl (cI, 9, .inl (fun _ => 0))), (a2, .inl (cI, 6, .inl (fun _ => 0))), (a3, .inl (cI, 6, .inl (fun _ => 0))), (a4, .inl (cI, 6, .inl (fun _ => 0))), (a5, .inl (cI, 6, .inl (fun _ => 0))), (a6, .inl (cI, 9, .inl (fun _ => 0))), (a7, .inl (cI, 9, .inl (fun _ => 0))), (a8, .inl (cI, 9, .inl (fun _ => 0)))]
  refine k_aload_n C iX4_init_76 rfl ?_
  refine k_bipush C 6 iX4_init_77 (by decide) ?_
  refine k_newa C arrI 6 iX4_init_79 (by decide) (by decide) (Nat.le_of_ble_eq_true rfl) (Nat.le_of_ble_eq_true rfl) (Nat.le_of_ble_eq_true rfl) (fun a9 => ?_)
  show kG X D A 10 75 81 [some (.ref q)] [.ref a9, .ref q] [(q, .inr (4, [.int 0, .int 0, .int 0, .int 0, .int 0, .ref a0, .ref a1, .ref a2, .ref a3, .ref a4, .ref a5, .ref a6, .ref a7, .ref a8, .null, .null])), (a0, .inl (cI, 9, .inl (fun _ => 0))), (a1, .inl (cI, 9, .inl (fun _ => 0))), (a2, .inl (cI, 6, .inl (fun _ => 0))), (a3, .inl (cI, 6, .inl (fun _ => 0))), (a4, .inl (cI, 6, .inl (fun _ => 0))), (a5, .inl (cI, 6, .inl (fun _ => 0))), (a6, .inl (cI, 9, .inl (fun _ => 0))), (a7, .inl (cI, 9, .inl (fun _ => 0))), (a8, .inl (cI, 9, .inl (fun _ => 0))), (a9, .inl (cI, 6, .inl (fun _ => 0)))]
  refine k_putF C 0 ffX4_39 iX4_init_81 rfl (Nat.le_of_ble_eq_true rfl) ?_
  show kG X D A 10 75 84 [some (.ref q)] [] [(q, .inr (4, [.int 0, .int 0, .int 0, .int 0, .int 0, .ref a0, .ref a1, .ref a2, .ref a3, .ref a4, .ref a5, .ref a6, .ref a7, .ref a8, .ref a9, .null])), (a0, .inl (cI, 9, .inl (fun _ => 0))), (a1, .inl (cI, 9, .inl (fun _ => 0))), (a2, .inl (cI, 6, .inl (fun _ => 0))), (a3, .inl (cI, 6, .inl (fun _ => 0))), (a4, .inl (cI, 6, .inl (fun _ => 0))), (a5, .inl (cI, 6, .inl (fun _ => 0))), (a6, .inl (cI, 9, .inl (fun _ => 0))), (a7, .inl (cI, 9, .inl (fun _ => 0))), (a8, .inl (cI, 9, .inl (fun _ => 0))), (a9, .inl (cI, 6, .inl (fun _ => 0)))]
  refine k_aload_n C iX4_init_84 rfl ?_
  refine k_bipush C 6 iX4_init_85 (by decide) ?_
  refine k_newa C arrI 6 iX4_init_87 (by decide) (by decide) (Nat.le_of_ble_eq_true rfl) (Nat.le_of_ble_eq_true rfl) (Nat.le_of_ble_eq_true rfl) (fun a10 => ?_)
  show kG X D A 11 81 89 [some (.ref q)] [.ref a10, .ref q] [(q, .inr (4, [.int 0, .int 0, .int 0, .int 0, .int 0, .ref a0, .ref a1, .ref a2, .ref a3, .ref a4, .ref a5, .ref a6, .ref a7, .ref a8, .ref a9, .null])), (a0, .inl (cI, 9, .inl (fun _ => 0))), (a1, .inl (cI, 9, .inl (fun _ => 0))), (a2, .inl (cI, 6, .inl (fun _ => 0))), (a3, .inl (cI, 6, .inl (fun _ => 0))), (a4, .inl (cI, 6, .inl (fun _ => 0))), (a5, .inl (cI, 6, .inl (fun _ => 0))), (a6, .inl (cI, 9, .inl (fun _ => 0))), (a7, .inl (cI, 9, .inl (fun _ => 0))), (a8, .inl (cI, 9, .inl (fun _ => 0))), (a9, .inl (cI, 6, .inl (fun _ => 0))), (a10, .inl (cI, 6, .inl (fun _ => 0)))]
  refine k_putF C 0 ffX4_42 iX4_init_89 rfl (Nat.le_of_ble_eq_true rfl) ?_
  show kG X D A 11 81 92 [some (.ref q)] [] [(q, .inr (4, [.int 0, .int 0, .int 0, .int 0, .int 0, .ref a0, .ref a1, .ref a2, .ref a3, .ref a4, .ref a5, .ref a6, .ref a7, .ref a8, .ref a9, .ref a10])), (a0, .inl (cI, 9, .inl (fun _ => 0))), (a1, .inl (cI, 9, .inl (fun _ => 0))), (a2, .inl (cI, 6, .inl (fun _ => 0))), (a3, .inl (cI, 6, .inl (fun _ => 0))), (a4, .inl (cI, 6, .inl (fun _ => 0))), (a5, .inl (cI, 6, .inl (fun _ => 0))), (a6, .inl (cI, 9, .inl (fun _ => 0))), (a7, .inl (cI, 9, .inl (fun _ => 0))), (a8, .inl (cI, 9, .inl (fun _ => 0))), (a9, .inl (cI, 6, .inl (fun _ => 0))), (a10, .inl (cI, 6, .inl (fun _ => 0)))]
  exact hr _ _ _ _ iX4_init_92 ⟨fun k => [a0, a1, a2, a3, a4, a5, a6, a7, a8, a9, a10].getD k 0, rfl⟩
set_option maxHeartbeats 4000000 in
set_option maxRecDepth 100000 in
theorem n_Gr (q pr : Nat) : kM yX1_init cX1_init 2 1 7 75 (fun _ _ _ => True) [.ref q, .ref pr] (q, .inr (1, [.null, .int 0, .null, .null, .null, .null, .null, .int 0, .null, .int 0, .null, .int 0])) (fun cI _ w => ∃ a, w = grC cI pr q a) := by
  refine kM.of (by decide) rfl rfl (Nat.le_of_ble_eq_true rfl) (fun X D cI cG A sz hA hnL C hr => ?_)
  show kG X D A 0 0 0 [some (.ref q), some (.ref pr)] [] [(q, .inr (1, [.null, .int 0, .null, .null, .null, .null, .null, .int 0, .null, .int 0, .null, .int 0]))]
  refine k_aload_n C iX1_init_0 rfl ?_
  refine k_obj C oX1_3 iX1_init_1 (by decide) (Nat.le_of_ble_eq_true rfl) ?_
  refine k_aload_n C iX1_init_4 rfl ?_
  refine k_bipush C 6 iX1_init_5 (by decide) ?_
  refine k_newa C arrI 6 iX1_init_7 (by decide) (by decide) (Nat.le_of_ble_eq_true rfl) (Nat.le_of_ble_eq_true rfl) (Nat.le_of_ble_eq_true rfl) (fun a0 => ?_)
  show kG X D A 1 6 9 [some (.ref q), some (.ref pr)] [.ref a0, .ref q] [(q, .inr (1, [.null, .int 0, .null, .null, .null, .null, .null, .int 0, .null, .int 0, .null, .int 0])), (a0, .inl (cI, 6, .inl (fun _ => 0)))]
  refine k_putF C 0 ffX1_9 iX1_init_9 rfl (Nat.le_of_ble_eq_true rfl) ?_
  show kG X D A 1 6 12 [some (.ref q), some (.ref pr)] [] [(q, .inr (1, [.null, .int 0, .ref a0, .null, .null, .null, .null, .int 0, .null, .int 0, .null, .int 0])), (a0, .inl (cI, 6, .inl (fun _ => 0)))]
  refine k_aload_n C iX1_init_12 rfl ?_
  refine k_bipush C 6 iX1_init_13 (by decide) ?_
  refine k_newa C arrI 6 iX1_init_15 (by decide) (by decide) (Nat.le_of_ble_eq_true rfl) (Nat.le_of_ble_eq_true rfl) (Nat.le_of_ble_eq_true rfl) (fun a1 => ?_)
  show kG X D A 2 12 17 [some (.ref q), some (.ref pr)] [.ref a1, .ref q] [(q, .inr (1, [.null, .int 0, .ref a0, .null, .null, .null, .null, .int 0, .null, .int 0, .null, .int 0])), (a0, .inl (cI, 6, .inl (fun _ => 0))), (a1, .inl (cI, 6, .inl (fun _ => 0)))]
  refine k_putF C 0 ffX1_15 iX1_init_17 rfl (Nat.le_of_ble_eq_true rfl) ?_
  show kG X D A 2 12 20 [some (.ref q), some (.ref pr)] [] [(q, .inr (1, [.null, .int 0, .ref a0, .ref a1, .null, .null, .null, .int 0, .null, .int 0, .null, .int 0])), (a0, .inl (cI, 6, .inl (fun _ => 0))), (a1, .inl (cI, 6, .inl (fun _ => 0)))]
  refine k_aload_n C iX1_init_20 rfl ?_
  refine k_bipush C 6 iX1_init_21 (by decide) ?_
  refine k_newa C arrI 6 iX1_init_23 (by decide) (by decide) (Nat.le_of_ble_eq_true rfl) (Nat.le_of_ble_eq_true rfl) (Nat.le_of_ble_eq_true rfl) (fun a2 => ?_)
  show kG X D A 3 18 25 [some (.ref q), some (.ref pr)] [.ref a2, .ref q] [(q, .inr (1, [.null, .int 0, .ref a0, .ref a1, .null, .null, .null, .int 0, .null, .int 0, .null, .int 0])), (a0, .inl (cI, 6, .inl (fun _ => 0))), (a1, .inl (cI, 6, .inl (fun _ => 0))), (a2, .inl (cI, 6, .inl (fun _ => 0)))]
  refine k_putF C 0 ffX1_18 iX1_init_25 rfl (Nat.le_of_ble_eq_true rfl) ?_
  show kG X D A 3 18 28 [some (.ref q), some (.ref pr)] [] [(q, .inr (1, [.null, .int 0, .ref a0, .ref a1, .ref a2, .null, .null, .int 0, .null, .int 0, .null, .int 0])), (a0, .inl (cI, 6, .inl (fun _ => 0))), (a1, .inl (cI, 6, .inl (fun _ => 0))), (a2, .inl (cI, 6, .inl (fun _ => 0)))]
  refine k_aload_n C iX1_init_28 rfl ?_
  refine k_bipush C 36 iX1_init_29 (by decide) ?_
  refine k_newa C arrI 36 iX1_init_31 (by decide) (by decide) (Nat.le_of_ble_eq_true rfl) (Nat.le_of_ble_eq_true rfl) (Nat.le_of_ble_eq_true rfl) (fun a3 => ?_)
  show kG X D A 4 54 33 [some (.ref q), some (.ref pr)] [.ref a3, .ref q] [(q, .inr (1, [.null, .int 0, .ref a0, .ref a1, .ref a2, .null, .null, .int 0, .null, .int 0, .null, .int 0])), (a0, .inl (cI, 6, .inl (fun _ => 0))), (a1, .inl (cI, 6, .inl (fun _ => 0))), (a2, .inl (cI, 6, .inl (fun _ => 0))), (a3, .inl (cI, 36, .inl (fun _ => 0)))]
  refine k_putF C 0 ffX1_21 iX1_init_33 rfl (Nat.le_of_ble_eq_true rfl) ?_
  show kG X D A 4 54 36 [some (.ref q), some (.ref pr)] [] [(q, .inr (1, [.null, .int 0, .ref a0, .ref a1, .ref a2, .ref a3, .null, .int 0, .null, .int 0, .null, .int 0])), (a0, .inl (cI, 6, .inl (fun _ => 0))), (a1, .inl (cI, 6, .inl (fun _ => 0))), (a2, .inl (cI, 6, .inl (fun _ => 0))), (a3, .inl (cI, 36, .inl (fun _ => 0)))]
  refine k_aload_n C iX1_init_36 rfl ?_
  refine k_bipush C 6 iX1_init_37 (by decide) ?_
  refine k_newa C arrI 6 iX1_init_39 (by decide) (by decide) (Nat.le_of_ble_eq_true rfl) (Nat.le_of_ble_eq_true rfl) (Nat.le_of_ble_eq_true rfl) (fun a4 => ?_)
  show kG X D A 5 60 41 [some (.ref q), some (.ref pr)] [.ref a4, .ref q] [(q, .inr (1, [.null, .int 0, .ref a0, .ref a1, .ref a2, .ref a3, .null, .int 0, .null, .int 0, .null, .int 0])), (a0, .inl (cI, 6, .inl (fun _ => 0))), (a1, .inl (cI, 6, .inl (fun _ => 0))), (a2, .inl (cI, 6, .inl (fun _ => 0))), (a3, .inl (cI, 36, .inl (fun _ => 0))), (a4, .inl (cI, 6, .inl (fun _ => 0)))]
  refine k_putF C 0 ffX1_24 iX1_init_41 rfl (Nat.le_of_ble_eq_true rfl) ?_
  show kG X D A 5 60 44 [some (.ref q), some (.ref pr)] [] [(q, .inr (1, [.null, .int 0, .ref a0, .ref a1, .ref a2, .ref a3, .ref a4, .int 0, .null, .int 0, .null, .int 0])), (a0, .inl (cI, 6, .inl (fun _ => 0))), (a1, .inl (cI, 6, .inl (fun _ => 0))), (a2, .inl (cI, 6, .inl (fun _ => 0))), (a3, .inl (cI, 36, .inl (fun _ => 0))), (a4, .inl (cI, 6, .inl (fun _ => 0)))]
  refine k_aload_n C iX1_init_44 rfl ?_
  refine k_bipush C 9 iX1_init_45 (by decide) ?_
  refine k_newa C arrI 9 iX1_init_47 (by decide) (by decide) (Nat.le_of_ble_eq_true rfl) (Nat.le_of_ble_eq_true rfl) (Nat.le_of_ble_eq_true rfl) (fun a5 => ?_)
  show kG X D A 6 69 49 [some (.ref q), some (.ref pr)] [.ref a5, .ref q] [(q, .inr (1, [.null, .int 0, .ref a0, .ref a1, .ref a2, .ref a3, .ref a4, .int 0, .null, .int 0, .null, .int 0])), (a0, .inl (cI, 6, .inl (fun _ => 0))), (a1, .inl (cI, 6, .inl (fun _ => 0))), (a2, .inl (cI, 6, .inl (fun _ => 0))), (a3, .inl (cI, 36, .inl (fun _ => 0))), (a4, .inl (cI, 6, .inl (fun _ => 0))), (a5, .inl (cI, 9, .inl (fun _ => 0)))]
  refine k_putF C 0 ffX1_27 iX1_init_49 rfl (Nat.le_of_ble_eq_true rfl) ?_
  show kG X D A 6 69 52 [some (.ref q), some (.ref pr)] [] [(q, .inr (1, [.null, .int 0, .ref a0, .ref a1, .ref a2, .ref a3, .ref a4, .int 0, .ref a5, .int 0, .null, .int 0])), (a0, .inl (cI, 6, .inl (fun _ => 0))), (a1, .inl (cI, 6, .inl (fun _ => 0))), (a2, .inl (cI, 6, .inl (fun _ => 0))), (a3, .inl (cI, 36, .inl (fun _ => 0))), (a4, .inl (cI, 6, .inl (fun _ => 0))), (a5, .inl (cI, 9, .inl (fun _ => 0)))]
  refine k_aload_n C iX1_init_52 rfl ?_
  refine k_bipush C 6 iX1_init_53 (by decide) ?_
  refine k_newa C arrI 6 iX1_init_55 (by decide) (by decide) (Nat.le_of_ble_eq_true rfl) (Nat.le_of_ble_eq_true rfl) (Nat.le_of_ble_eq_true rfl) (fun a6 => ?_)
  show kG X D A 7 75 57 [some (.ref q), some (.ref pr)] [.ref a6, .ref q] [(q, .inr (1, [.null, .int 0, .ref a0, .ref a1, .ref a2, .ref a3, .ref a4, .int 0, .ref a5, .int 0, .null, .int 0])), (a0, .inl (cI, 6, .inl (fun _ => 0))), (a1, .inl (cI, 6, .inl (fun _ => 0))), (a2, .inl (cI, 6, .inl (fun _ => 0))), (a3, .inl (cI, 36, .inl (fun _ => 0))), (a4, .inl (cI, 6, .inl (fun _ => 0))), (a5, .inl (cI, 9, .inl (fun _ => 0))), (a6, .inl (cI, 6, .inl (fun _ => 0)))]
  refine k_putF C 0 ffX1_30 iX1_init_57 rfl (Nat.le_of_ble_eq_true rfl) ?_
  show kG X D A 7 75 60 [some (.ref q), some (.ref pr)] [] [(q, .inr (1, [.null, .int 0, .ref a0, .ref a1, .ref a2, .ref a3, .ref a4, .int 0, .ref a5, .int 0, .ref a6, .int 0])), (a0, .inl (cI, 6, .inl (fun _ => 0))), (a1, .inl (cI, 6, .inl (fun _ => 0))), (a2, .inl (cI, 6, .inl (fun _ => 0))), (a3, .inl (cI, 36, .inl (fun _ => 0))), (a4, .inl (cI, 6, .inl (fun _ => 0))), (a5, .inl (cI, 9, .inl (fun _ => 0))), (a6, .inl (cI, 6, .inl (fun _ => 0)))]
  refine k_aload_n C iX1_init_60 rfl ?_
  refine k_aload_n C iX1_init_61 rfl ?_
  refine k_putF C 0 ffX1_33 iX1_init_62 rfl (Nat.le_of_ble_eq_true rfl) ?_
  show kG X D A 7 75 65 [some (.ref q), some (.ref pr)] [] [(q, .inr (1, [.ref pr, .int 0, .ref a0, .ref a1, .ref a2, .ref a3, .ref a4, .int 0, .ref a5, .int 0, .ref a6, .int 0])), (a0, .inl (cI, 6, .inl (fun _ => 0))), (a1, .inl (cI, 6, .inl (fun _ => 0))), (a2, .inl (cI, 6, .inl (fun _ => 0))), (a3, .inl (cI, 36, .inl (fun _ => 0))), (a4, .inl (cI, 6, .inl (fun _ => 0))), (a5, .inl (cI, 9, .inl (fun _ => 0))), (a6, .inl (cI, 6, .inl (fun _ => 0)))]
  exact hr _ _ _ _ iX1_init_65 ⟨fun k => [a0, a1, a2, a3, a4, a5, a6].getD k 0, rfl⟩
set_option maxHeartbeats 4000000 in
set_option maxRecDepth 100000 in
theorem n_Co (q pr gr : Nat) : kM yX0_init cX0_init 3 1 0 0 (fun _ _ _ => True) [.ref q, .ref pr, .ref gr] (q, .inr (0, [.null, .null, .int 0, .int 0, .int 0])) (fun _ _ w => w = coC pr gr q) := by
  refine kM.of (by decide) rfl rfl (Nat.le_of_ble_eq_true rfl) (fun X D cI cG A sz hA hnL C hr => ?_)
  show kG X D A 0 0 0 [some (.ref q), some (.ref pr), some (.ref gr)] [] [(q, .inr (0, [.null, .null, .int 0, .int 0, .int 0]))]
  refine k_aload_n C iX0_init_0 rfl ?_
  refine k_obj C oX0_3 iX0_init_1 (by decide) (Nat.le_of_ble_eq_true rfl) ?_
  refine k_aload_n C iX0_init_4 rfl ?_
  refine k_aload_n C iX0_init_5 rfl ?_
  refine k_putF C 0 ffX0_9 iX0_init_6 rfl (Nat.le_of_ble_eq_true rfl) ?_
  show kG X D A 0 0 9 [some (.ref q), some (.ref pr), some (.ref gr)] [] [(q, .inr (0, [.ref pr, .null, .int 0, .int 0, .int 0]))]
  refine k_aload_n C iX0_init_9 rfl ?_
  refine k_aload_n C iX0_init_10 rfl ?_
  refine k_putF C 0 ffX0_15 iX0_init_11 rfl (Nat.le_of_ble_eq_true rfl) ?_
  show kG X D A 0 0 14 [some (.ref q), some (.ref pr), some (.ref gr)] [] [(q, .inr (0, [.ref pr, .ref gr, .int 0, .int 0, .int 0]))]
  exact hr _ _ _ _ iX0_init_14 rfl
theorem up4 {g0 g1 g2 g3 : Nat} : va_up (va_up (va_up (va_up (fun _ => none) 0 (some g0)) 1 (some g1)) 2 (some g2)) 3 (some g3) = fun j => ([g0, g1, g2, g3] : List Nat)[j]? := by
  funext j
  unfold va_up
  match j with
  | 0 => rfl
  | 1 => rfl
  | 2 => rfl
  | 3 => rfl
  | j + 4 => simp
set_option maxHeartbeats 4000000 in
set_option maxRecDepth 100000 in
theorem n_Pa (q pr : Nat) : kM yX3_init cX3_init 3 2 33 352 (fun _ _ U => va_AO RX1 U) [.ref q, .ref pr] (q, .inr (3, [.null, .int 0, .int 0])) (fun cI cG w => ∃ ka g b, w = paC cI cG pr q ka g b) := by
  refine kM.of (by decide) rfl rfl (Nat.le_of_ble_eq_true rfl) (fun X D cI cG A sz hA hnL C hr => ?_)
  show kG X D A 0 0 0 [some (.ref q), some (.ref pr), none] [] [(q, .inr (3, [.null, .int 0, .int 0]))]
  refine k_aload_n C iX3_init_0 rfl ?_
  refine k_obj C oX3_3 iX3_init_1 (by decide) (Nat.le_of_ble_eq_true rfl) ?_
  refine k_aload_n C iX3_init_4 rfl ?_
  refine k_iconst C 4 iX3_init_5 (by decide) ?_
  refine k_anew C clX3_9 (fun s h => h) 4 iX3_init_6 (by decide) (by decide) (Nat.le_of_ble_eq_true rfl) (Nat.le_of_ble_eq_true rfl) (Nat.le_of_ble_eq_true rfl) (fun ka => ?_)
  show kG X D A 1 4 9 [some (.ref q), some (.ref pr), none] [.ref ka, .ref q] [(q, .inr (3, [.null, .int 0, .int 0])), (ka, .inl (cG, 4, .inr (.inr (.inr (.inr (fun _ => none))))))]
  refine k_putF C 0 ffX3_11 iX3_init_9 rfl (Nat.le_of_ble_eq_true rfl) ?_
  show kG X D A 1 4 12 [some (.ref q), some (.ref pr), none] [] [(q, .inr (3, [.ref ka, .int 0, .int 0])), (ka, .inl (cG, 4, .inr (.inr (.inr (.inr (fun _ => none))))))]
  refine k_iconst C 0 iX3_init_12 (by decide) ?_
  refine k_istore_n (lv' := [some (.ref q), some (.ref pr), some (.int 0)]) C hnL iX3_init_13 (by decide) rfl ?_
  refine k_iload_n C iX3_init_14 rfl ?_
  refine k_iconst C 4 iX3_init_15 (by decide) ?_
  refine k_icmp_ge C 39 iX3_init_16 (by decide) (fun hh => absurd hh (by decide)) (fun _ => ?_)
  refine k_aload_n C iX3_init_19 rfl ?_
  refine k_get C 0 fiX3_11 iX3_init_20 rfl rfl ?_
  refine k_iload_n C iX3_init_23 rfl ?_
  refine k_new C mkX3_9 iX3_init_24 (Nat.le_of_ble_eq_true rfl) (Nat.le_of_ble_eq_true rfl) (fun g0 => ?_)
  refine k_dup C iX3_init_27 rfl ?_
  refine k_aload_n C iX3_init_28 rfl ?_
  refine k_callI C ciX1 wiX3_17 iX3_init_29 (n_Gr g0 pr) (by decide) kE_T rfl rfl (Nat.le_of_ble_eq_true rfl) (Nat.le_of_ble_eq_true rfl) (Nat.le_of_ble_eq_true rfl) (fun w1 hw1 => ?_)
  obtain ⟨b0, rfl⟩ := hw1
  show kG X D A 9 91 32 [some (.ref q), some (.ref pr), some (.int 0)] [.ref g0, .int 0, .ref ka] ([(q, .inr (3, [.ref ka, .int 0, .int 0])), (ka, .inl (cG, 4, .inr (.inr (.inr (.inr (fun _ => none))))))] ++ grC cI pr g0 b0)
  refine k_aast C 1 2 iX3_init_32 rfl rfl (zr_in (by decide)) ?_
  show kG X D A 9 91 33 [some (.ref q), some (.ref pr), some (.int 0)] [] ([(q, .inr (3, [.ref ka, .int 0, .int 0])), (ka, .inl (cG, 4, .inr (.inr (.inr (.inr (va_up (fun _ => none) 0 (some g0)))))))] ++ grC cI pr g0 b0)
  refine k_iinc (v := 1) (lv' := [some (.ref q), some (.ref pr), some (.int 1)]) C hnL iX3_init_33 (by decide) rfl (by decide) rfl ?_
  refine k_goto C 14 iX3_init_36 (by decide) ?_
  refine k_iload_n C iX3_init_14 rfl ?_
  refine k_iconst C 4 iX3_init_15 (by decide) ?_
  refine k_icmp_ge C 39 iX3_init_16 (by decide) (fun hh => absurd hh (by decide)) (fun _ => ?_)
  refine k_aload_n C iX3_init_19 rfl ?_
  refine k_get C 0 fiX3_11 iX3_init_20 rfl rfl ?_
  refine k_iload_n C iX3_init_23 rfl ?_
  refine k_new C mkX3_9 iX3_init_24 (Nat.le_of_ble_eq_true rfl) (Nat.le_of_ble_eq_true rfl) (fun g1 => ?_)
  refine k_dup C iX3_init_27 rfl ?_
  refine k_aload_n C iX3_init_28 rfl ?_
  refine k_callI C ciX1 wiX3_17 iX3_init_29 (n_Gr g1 pr) (by decide) kE_T rfl rfl (Nat.le_of_ble_eq_true rfl) (Nat.le_of_ble_eq_true rfl) (Nat.le_of_ble_eq_true rfl) (fun w1 hw1 => ?_)
  obtain ⟨b1, rfl⟩ := hw1
  show kG X D A 17 178 32 [some (.ref q), some (.ref pr), some (.int 1)] [.ref g1, .int 1, .ref ka] (([(q, .inr (3, [.ref ka, .int 0, .int 0])), (ka, .inl (cG, 4, .inr (.inr (.inr (.inr (va_up (fun _ => none) 0 (some g0)))))))] ++ grC cI pr g0 b0) ++ grC cI pr g1 b1)
  refine k_aast C 1 10 iX3_init_32 rfl rfl (zr_in (by decide)) ?_
  show kG X D A 17 178 33 [some (.ref q), some (.ref pr), some (.int 1)] [] (([(q, .inr (3, [.ref ka, .int 0, .int 0])), (ka, .inl (cG, 4, .inr (.inr (.inr (.inr (va_up (va_up (fun _ => none) 0 (some g0)) 1 (some g1)))))))] ++ grC cI pr g0 b0) ++ grC cI pr g1 b1)
  refine k_iinc (v := 2) (lv' := [some (.ref q), some (.ref pr), some (.int 2)]) C hnL iX3_init_33 (by decide) rfl (by decide) rfl ?_
  refine k_goto C 14 iX3_init_36 (by decide) ?_
  refine k_iload_n C iX3_init_14 rfl ?_
  refine k_iconst C 4 iX3_init_15 (by decide) ?_
  refine k_icmp_ge C 39 iX3_init_16 (by decide) (fun hh => absurd hh (by decide)) (fun _ => ?_)
  refine k_aload_n C iX3_init_19 rfl ?_
  refine k_get C 0 fiX3_11 iX3_init_20 rfl rfl ?_
  refine k_iload_n C iX3_init_23 rfl ?_
  refine k_new C mkX3_9 iX3_init_24 (Nat.le_of_ble_eq_true rfl) (Nat.le_of_ble_eq_true rfl) (fun g2 => ?_)
  refine k_dup C iX3_init_27 rfl ?_
  refine k_aload_n C iX3_init_28 rfl ?_
  refine k_callI C ciX1 wiX3_17 iX3_init_29 (n_Gr g2 pr) (by decide) kE_T rfl rfl (Nat.le_of_ble_eq_true rfl) (Nat.le_of_ble_eq_true rfl) (Nat.le_of_ble_eq_true rfl) (fun w1 hw1 => ?_)
  obtain ⟨b2, rfl⟩ := hw1
  show kG X D A 25 265 32 [some (.ref q), some (.ref pr), some (.int 2)] [.ref g2, .int 2, .ref ka] ((([(q, .inr (3, [.ref ka, .int 0, .int 0])), (ka, .inl (cG, 4, .inr (.inr (.inr (.inr (va_up (va_up (fun _ => none) 0 (some g0)) 1 (some g1)))))))] ++ grC cI pr g0 b0) ++ grC cI pr g1 b1) ++ grC cI pr g2 b2)
  refine k_aast C 1 18 iX3_init_32 rfl rfl (zr_in (by decide)) ?_
  show kG X D A 25 265 33 [some (.ref q), some (.ref pr), some (.int 2)] [] ((([(q, .inr (3, [.ref ka, .int 0, .int 0])), (ka, .inl (cG, 4, .inr (.inr (.inr (.inr (va_up (va_up (va_up (fun _ => none) 0 (some g0)) 1 (some g1)) 2 (some g2)))))))] ++ grC cI pr g0 b0) ++ grC cI pr g1 b1) ++ grC cI pr g2 b2)
  refine k_iinc (v := 3) (lv' := [some (.ref q), some (.ref pr), some (.int 3)]) C hnL iX3_init_33 (by decide) rfl (by decide) rfl ?_
  refine k_goto C 14 iX3_init_36 (by decide) ?_
  refine k_iload_n C iX3_init_14 rfl ?_
  refine k_iconst C 4 iX3_init_15 (by decide) ?_
  refine k_icmp_ge C 39 iX3_init_16 (by decide) (fun hh => absurd hh (by decide)) (fun _ => ?_)
  refine k_aload_n C iX3_init_19 rfl ?_
  refine k_get C 0 fiX3_11 iX3_init_20 rfl rfl ?_
  refine k_iload_n C iX3_init_23 rfl ?_
  refine k_new C mkX3_9 iX3_init_24 (Nat.le_of_ble_eq_true rfl) (Nat.le_of_ble_eq_true rfl) (fun g3 => ?_)
  refine k_dup C iX3_init_27 rfl ?_
  refine k_aload_n C iX3_init_28 rfl ?_
  refine k_callI C ciX1 wiX3_17 iX3_init_29 (n_Gr g3 pr) (by decide) kE_T rfl rfl (Nat.le_of_ble_eq_true rfl) (Nat.le_of_ble_eq_true rfl) (Nat.le_of_ble_eq_true rfl) (fun w1 hw1 => ?_)
  obtain ⟨b3, rfl⟩ := hw1
  show kG X D A 33 352 32 [some (.ref q), some (.ref pr), some (.int 3)] [.ref g3, .int 3, .ref ka] (((([(q, .inr (3, [.ref ka, .int 0, .int 0])), (ka, .inl (cG, 4, .inr (.inr (.inr (.inr (va_up (va_up (va_up (fun _ => none) 0 (some g0)) 1 (some g1)) 2 (some g2)))))))] ++ grC cI pr g0 b0) ++ grC cI pr g1 b1) ++ grC cI pr g2 b2) ++ grC cI pr g3 b3)
  refine k_aast C 1 26 iX3_init_32 rfl rfl (zr_in (by decide)) ?_
  show kG X D A 33 352 33 [some (.ref q), some (.ref pr), some (.int 3)] [] (((([(q, .inr (3, [.ref ka, .int 0, .int 0])), (ka, .inl (cG, 4, .inr (.inr (.inr (.inr (va_up (va_up (va_up (va_up (fun _ => none) 0 (some g0)) 1 (some g1)) 2 (some g2)) 3 (some g3)))))))] ++ grC cI pr g0 b0) ++ grC cI pr g1 b1) ++ grC cI pr g2 b2) ++ grC cI pr g3 b3)
  refine k_iinc (v := 4) (lv' := [some (.ref q), some (.ref pr), some (.int 4)]) C hnL iX3_init_33 (by decide) rfl (by decide) rfl ?_
  refine k_goto C 14 iX3_init_36 (by decide) ?_
  refine k_iload_n C iX3_init_14 rfl ?_
  refine k_iconst C 4 iX3_init_15 (by decide) ?_
  refine k_icmp_ge C 39 iX3_init_16 (by decide) (fun _ => ?_) (fun hh => absurd (by decide) hh)
  rw [up4]
  exact hr _ _ _ _ iX3_init_39 ⟨ka, fun k => [g0, g1, g2, g3].getD k 0, fun k => [b0, b1, b2, b3].getD k b0, rfl⟩

