/-! ShedStagesModel.<init> -/
def moA (q : Nat) (a : Nat → Nat) : Nat → Nat := fun k => ([q, a 0, a 1, a 2, a 3, a 4, a 5, a 6, a 7, a 8] : List Nat).getD k 0
set_option maxHeartbeats 4000000 in
set_option maxRecDepth 100000 in
theorem mo_world (cI cG : ClassId) (q : Nat) (a : Nat → Nat) : moC cI q a = zW cI cG (moA q a) shM h00 := rfl
theorem iX7_init_0 : zI cX7_init 0 (.aload_n 0) 1 1 := ⟨by decide +kernel, rfl⟩
theorem iX7_init_1 : zI cX7_init 1 (.invokespecial 1) 3 4 := ⟨by decide +kernel, rfl⟩
theorem oX7_1 : zO RX7 1 := ⟨(zmem 765 (by decide +kernel) (by decide +kernel)), (zmem 84 (by decide +kernel) (by decide +kernel)), (zmem 85 rfl rfl)⟩
theorem iX7_init_4 : zI cX7_init 4 (.aload_n 0) 1 5 := ⟨by decide +kernel, rfl⟩
theorem iX7_init_5 : zI cX7_init 5 (.sipush 200) 3 8 := ⟨by decide +kernel, rfl⟩
theorem iX7_init_8 : zI cX7_init 8 (.newarray .int) 2 10 := ⟨by decide +kernel, rfl⟩
theorem iX7_init_10 : zI cX7_init 10 (.putfield 7) 3 13 := ⟨by decide +kernel, rfl⟩
theorem ffX7_7 : zFf RX7 7 7 1 := ⟨RX7, TX7, 17, rfl, by decide, (zmem 798 (by decide +kernel) (by decide +kernel)), u_inX7, by decide +kernel, by decide +kernel, ⟨tyX7, tyX7_ok⟩, nmX7, tyX7 1, tyX7_ok 1 (by decide), fun _ => rfl, fun _ => rfl⟩
theorem iX7_init_13 : zI cX7_init 13 (.aload_n 0) 1 14 := ⟨by decide +kernel, rfl⟩
theorem iX7_init_14 : zI cX7_init 14 (.bipush 10) 2 16 := ⟨by decide +kernel, rfl⟩
theorem iX7_init_16 : zI cX7_init 16 (.newarray .int) 2 18 := ⟨by decide +kernel, rfl⟩
theorem iX7_init_18 : zI cX7_init 18 (.putfield 13) 3 21 := ⟨by decide +kernel, rfl⟩
theorem ffX7_13 : zFf RX7 13 7 2 := ⟨RX7, TX7, 17, rfl, by decide, (zmem 799 (by decide +kernel) (by decide +kernel)), u_inX7, by decide +kernel, by decide +kernel, ⟨tyX7, tyX7_ok⟩, nmX7, tyX7 2, tyX7_ok 2 (by decide), fun _ => rfl, fun _ => rfl⟩
theorem iX7_init_21 : zI cX7_init 21 (.aload_n 0) 1 22 := ⟨by decide +kernel, rfl⟩
theorem iX7_init_22 : zI cX7_init 22 (.bipush 36) 2 24 := ⟨by decide +kernel, rfl⟩
theorem iX7_init_24 : zI cX7_init 24 (.newarray .int) 2 26 := ⟨by decide +kernel, rfl⟩
theorem iX7_init_26 : zI cX7_init 26 (.putfield 16) 3 29 := ⟨by decide +kernel, rfl⟩
theorem ffX7_16 : zFf RX7 16 7 3 := ⟨RX7, TX7, 17, rfl, by decide, (zmem 800 (by decide +kernel) (by decide +kernel)), u_inX7, by decide +kernel, by decide +kernel, ⟨tyX7, tyX7_ok⟩, nmX7, tyX7 3, tyX7_ok 3 (by decide), fun _ => rfl, fun _ => rfl⟩
theorem iX7_init_29 : zI cX7_init 29 (.aload_n 0) 1 30 := ⟨by decide +kernel, rfl⟩
theorem iX7_init_30 : zI cX7_init 30 (.bipush 48) 2 32 := ⟨by decide +kernel, rfl⟩
theorem iX7_init_32 : zI cX7_init 32 (.newarray .int) 2 34 := ⟨by decide +kernel, rfl⟩
theorem iX7_init_34 : zI cX7_init 34 (.putfield 19) 3 37 := ⟨by decide +kernel, rfl⟩
theorem ffX7_19 : zFf RX7 19 7 4 := ⟨RX7, TX7, 17, rfl, by decide, (zmem 801 (by decide +kernel) (by decide +kernel)), u_inX7, by decide +kernel, by decide +kernel, ⟨tyX7, tyX7_ok⟩, nmX7, tyX7 4, tyX7_ok 4 (by decide), fun _ => rfl, fun _ => rfl⟩
theorem iX7_init_37 : zI cX7_init 37 (.aload_n 0) 1 38 := ⟨by decide +kernel, rfl⟩
theorem iX7_init_38 : zI cX7_init 38 (.bipush 54) 2 40 := ⟨by decide +kernel, rfl⟩
theorem iX7_init_40 : zI cX7_init 40 (.newarray .int) 2 42 := ⟨by decide +kernel, rfl⟩
theorem iX7_init_42 : zI cX7_init 42 (.putfield 22) 3 45 := ⟨by decide +kernel, rfl⟩
theorem ffX7_22 : zFf RX7 22 7 5 := ⟨RX7, TX7, 17, rfl, by decide, (zmem 802 (by decide +kernel) (by decide +kernel)), u_inX7, by decide +kernel, by decide +kernel, ⟨tyX7, tyX7_ok⟩, nmX7, tyX7 5, tyX7_ok 5 (by decide), fun _ => rfl, fun _ => rfl⟩
theorem iX7_init_45 : zI cX7_init 45 (.aload_n 0) 1 46 := ⟨by decide +kernel, rfl⟩
theorem iX7_init_46 : zI cX7_init 46 (.bipush 24) 2 48 := ⟨by decide +kernel, rfl⟩
theorem iX7_init_48 : zI cX7_init 48 (.newarray .int) 2 50 := ⟨by decide +kernel, rfl⟩
theorem iX7_init_50 : zI cX7_init 50 (.putfield 25) 3 53 := ⟨by decide +kernel, rfl⟩
theorem ffX7_25 : zFf RX7 25 7 6 := ⟨RX7, TX7, 17, rfl, by decide, (zmem 803 (by decide +kernel) (by decide +kernel)), u_inX7, by decide +kernel, by decide +kernel, ⟨tyX7, tyX7_ok⟩, nmX7, tyX7 6, tyX7_ok 6 (by decide), fun _ => rfl, fun _ => rfl⟩
theorem iX7_init_53 : zI cX7_init 53 (.aload_n 0) 1 54 := ⟨by decide +kernel, rfl⟩
theorem iX7_init_54 : zI cX7_init 54 (.bipush 67) 2 56 := ⟨by decide +kernel, rfl⟩
theorem iX7_init_56 : zI cX7_init 56 (.newarray .int) 2 58 := ⟨by decide +kernel, rfl⟩
theorem iX7_init_58 : zI cX7_init 58 (.putfield 28) 3 61 := ⟨by decide +kernel, rfl⟩
theorem ffX7_28 : zFf RX7 28 7 7 := ⟨RX7, TX7, 17, rfl, by decide, (zmem 804 (by decide +kernel) (by decide +kernel)), u_inX7, by decide +kernel, by decide +kernel, ⟨tyX7, tyX7_ok⟩, nmX7, tyX7 7, tyX7_ok 7 (by decide), fun _ => rfl, fun _ => rfl⟩
theorem iX7_init_61 : zI cX7_init 61 (.aload_n 0) 1 62 := ⟨by decide +kernel, rfl⟩
theorem iX7_init_62 : zI cX7_init 62 (.sipush 268) 3 65 := ⟨by decide +kernel, rfl⟩
theorem iX7_init_65 : zI cX7_init 65 (.newarray .int) 2 67 := ⟨by decide +kernel, rfl⟩
theorem iX7_init_67 : zI cX7_init 67 (.putfield 31) 3 70 := ⟨by decide +kernel, rfl⟩
theorem ffX7_31 : zFf RX7 31 7 8 := ⟨RX7, TX7, 17, rfl, by decide, (zmem 805 (by decide +kernel) (by decide +kernel)), u_inX7, by decide +kernel, by decide +kernel, ⟨tyX7, tyX7_ok⟩, nmX7, tyX7 8, tyX7_ok 8 (by decide), fun _ => rfl, fun _ => rfl⟩
theorem iX7_init_70 : zI cX7_init 70 (.aload_n 0) 1 71 := ⟨by decide +kernel, rfl⟩
theorem iX7_init_71 : zI cX7_init 71 (.bipush 67) 2 73 := ⟨by decide +kernel, rfl⟩
theorem iX7_init_73 : zI cX7_init 73 (.newarray .int) 2 75 := ⟨by decide +kernel, rfl⟩
theorem iX7_init_75 : zI cX7_init 75 (.putfield 34) 3 78 := ⟨by decide +kernel, rfl⟩
theorem ffX7_34 : zFf RX7 34 7 9 := ⟨RX7, TX7, 17, rfl, by decide, (zmem 806 (by decide +kernel) (by decide +kernel)), u_inX7, by decide +kernel, by decide +kernel, ⟨tyX7, tyX7_ok⟩, nmX7, tyX7 9, tyX7_ok 9 (by decide), fun _ => rfl, fun _ => rfl⟩
theorem iX7_init_205 : zI cX7_init 205 (.return_) 1 206 := ⟨by decide +kernel, rfl⟩
theorem iX7_init_78 : zI cX7_init 78 (.aload_n 0) 1 79 := ⟨by decide +kernel, rfl⟩
theorem iX7_init_79 : zI cX7_init 79 (.invokevirtual 37) 3 82 := ⟨by decide +kernel, rfl⟩
theorem iX7_init_82 : zI cX7_init 82 (.aload_n 0) 1 83 := ⟨by decide +kernel, rfl⟩
theorem fiX7_13 : zFl RX7 13 7 2 := ⟨RX7, TX7, 17, rfl, by decide, (zmem 799 (by decide +kernel) (by decide +kernel)), u_inX7⟩
theorem iX7_init_83 : zI cX7_init 83 (.getfield 13) 3 86 := ⟨by decide +kernel, rfl⟩
theorem iX7_init_86 : zI cX7_init 86 (.iconst 5) 1 87 := ⟨by decide +kernel, rfl⟩
theorem iX7_init_87 : zI cX7_init 87 (.iconst 3) 1 88 := ⟨by decide +kernel, rfl⟩
theorem iX7_init_88 : zI cX7_init 88 (.iastore) 1 89 := ⟨by decide +kernel, rfl⟩
theorem iX7_init_89 : zI cX7_init 89 (.aload_n 0) 1 90 := ⟨by decide +kernel, rfl⟩
theorem iX7_init_90 : zI cX7_init 90 (.iconst 1) 1 91 := ⟨by decide +kernel, rfl⟩
theorem iX7_init_91 : zI cX7_init 91 (.iconst 0) 1 92 := ⟨by decide +kernel, rfl⟩
theorem iX7_init_92 : zI cX7_init 92 (.iconst 1) 1 93 := ⟨by decide +kernel, rfl⟩
theorem iX7_init_93 : zI cX7_init 93 (.iconst 0) 1 94 := ⟨by decide +kernel, rfl⟩
theorem iX7_init_94 : zI cX7_init 94 (.iconst 0) 1 95 := ⟨by decide +kernel, rfl⟩
theorem iX7_init_95 : zI cX7_init 95 (.invokevirtual 40) 3 98 := ⟨by decide +kernel, rfl⟩
theorem iX7_init_98 : zI cX7_init 98 (.aload_n 0) 1 99 := ⟨by decide +kernel, rfl⟩
theorem iX7_init_99 : zI cX7_init 99 (.iconst 1) 1 100 := ⟨by decide +kernel, rfl⟩
theorem iX7_init_100 : zI cX7_init 100 (.iconst 1) 1 101 := ⟨by decide +kernel, rfl⟩
theorem iX7_init_101 : zI cX7_init 101 (.iconst 2) 1 102 := ⟨by decide +kernel, rfl⟩
theorem iX7_init_102 : zI cX7_init 102 (.iconst 0) 1 103 := ⟨by decide +kernel, rfl⟩
theorem iX7_init_103 : zI cX7_init 103 (.iconst 0) 1 104 := ⟨by decide +kernel, rfl⟩
theorem iX7_init_104 : zI cX7_init 104 (.invokevirtual 40) 3 107 := ⟨by decide +kernel, rfl⟩
theorem iX7_init_107 : zI cX7_init 107 (.aload_n 0) 1 108 := ⟨by decide +kernel, rfl⟩
theorem iX7_init_108 : zI cX7_init 108 (.iconst 2) 1 109 := ⟨by decide +kernel, rfl⟩
theorem iX7_init_109 : zI cX7_init 109 (.iconst 0) 1 110 := ⟨by decide +kernel, rfl⟩
theorem iX7_init_110 : zI cX7_init 110 (.bipush 60) 2 112 := ⟨by decide +kernel, rfl⟩
theorem iX7_init_112 : zI cX7_init 112 (.iconst 3) 1 113 := ⟨by decide +kernel, rfl⟩
theorem iX7_init_113 : zI cX7_init 113 (.bipush 6) 2 115 := ⟨by decide +kernel, rfl⟩
theorem iX7_init_115 : zI cX7_init 115 (.invokevirtual 40) 3 118 := ⟨by decide +kernel, rfl⟩
theorem iX7_init_118 : zI cX7_init 118 (.aload_n 0) 1 119 := ⟨by decide +kernel, rfl⟩
theorem iX7_init_119 : zI cX7_init 119 (.iconst 2) 1 120 := ⟨by decide +kernel, rfl⟩
theorem iX7_init_120 : zI cX7_init 120 (.iconst 2) 1 121 := ⟨by decide +kernel, rfl⟩
theorem iX7_init_121 : zI cX7_init 121 (.bipush 30) 2 123 := ⟨by decide +kernel, rfl⟩
theorem iX7_init_123 : zI cX7_init 123 (.iconst 5) 1 124 := ⟨by decide +kernel, rfl⟩
theorem iX7_init_124 : zI cX7_init 124 (.iconst 3) 1 125 := ⟨by decide +kernel, rfl⟩
theorem iX7_init_125 : zI cX7_init 125 (.invokevirtual 40) 3 128 := ⟨by decide +kernel, rfl⟩
theorem iX7_init_128 : zI cX7_init 128 (.aload_n 0) 1 129 := ⟨by decide +kernel, rfl⟩
theorem iX7_init_129 : zI cX7_init 129 (.iconst 3) 1 130 := ⟨by decide +kernel, rfl⟩
theorem iX7_init_130 : zI cX7_init 130 (.iconst 0) 1 131 := ⟨by decide +kernel, rfl⟩
theorem iX7_init_131 : zI cX7_init 131 (.bipush 20) 2 133 := ⟨by decide +kernel, rfl⟩
theorem iX7_init_133 : zI cX7_init 133 (.iconst 1) 1 134 := ⟨by decide +kernel, rfl⟩
theorem iX7_init_134 : zI cX7_init 134 (.iconst 0) 1 135 := ⟨by decide +kernel, rfl⟩
theorem iX7_init_135 : zI cX7_init 135 (.invokevirtual 40) 3 138 := ⟨by decide +kernel, rfl⟩
theorem iX7_init_138 : zI cX7_init 138 (.aload_n 0) 1 139 := ⟨by decide +kernel, rfl⟩
theorem iX7_init_139 : zI cX7_init 139 (.iconst 3) 1 140 := ⟨by decide +kernel, rfl⟩
theorem iX7_init_140 : zI cX7_init 140 (.iconst 1) 1 141 := ⟨by decide +kernel, rfl⟩
theorem iX7_init_141 : zI cX7_init 141 (.bipush 25) 2 143 := ⟨by decide +kernel, rfl⟩
theorem iX7_init_143 : zI cX7_init 143 (.iconst 2) 1 144 := ⟨by decide +kernel, rfl⟩
theorem iX7_init_144 : zI cX7_init 144 (.iconst 0) 1 145 := ⟨by decide +kernel, rfl⟩
theorem iX7_init_145 : zI cX7_init 145 (.invokevirtual 40) 3 148 := ⟨by decide +kernel, rfl⟩
theorem iX7_init_148 : zI cX7_init 148 (.aload_n 0) 1 149 := ⟨by decide +kernel, rfl⟩
theorem iX7_init_149 : zI cX7_init 149 (.iconst 3) 1 150 := ⟨by decide +kernel, rfl⟩
theorem iX7_init_150 : zI cX7_init 150 (.iconst 2) 1 151 := ⟨by decide +kernel, rfl⟩
theorem iX7_init_151 : zI cX7_init 151 (.bipush 15) 2 153 := ⟨by decide +kernel, rfl⟩
theorem iX7_init_153 : zI cX7_init 153 (.iconst 0) 1 154 := ⟨by decide +kernel, rfl⟩
theorem iX7_init_154 : zI cX7_init 154 (.iconst 0) 1 155 := ⟨by decide +kernel, rfl⟩
theorem iX7_init_155 : zI cX7_init 155 (.invokevirtual 40) 3 158 := ⟨by decide +kernel, rfl⟩
theorem iX7_init_158 : zI cX7_init 158 (.aload_n 0) 1 159 := ⟨by decide +kernel, rfl⟩
theorem iX7_init_159 : zI cX7_init 159 (.iconst 3) 1 160 := ⟨by decide +kernel, rfl⟩
theorem iX7_init_160 : zI cX7_init 160 (.iconst 1) 1 161 := ⟨by decide +kernel, rfl⟩
theorem iX7_init_161 : zI cX7_init 161 (.bipush 10) 2 163 := ⟨by decide +kernel, rfl⟩
theorem iX7_init_163 : zI cX7_init 163 (.iconst 3) 1 164 := ⟨by decide +kernel, rfl⟩
theorem iX7_init_164 : zI cX7_init 164 (.iconst 0) 1 165 := ⟨by decide +kernel, rfl⟩
theorem iX7_init_165 : zI cX7_init 165 (.invokevirtual 40) 3 168 := ⟨by decide +kernel, rfl⟩
theorem iX7_init_168 : zI cX7_init 168 (.aload_n 0) 1 169 := ⟨by decide +kernel, rfl⟩
theorem iX7_init_169 : zI cX7_init 169 (.iconst 4) 1 170 := ⟨by decide +kernel, rfl⟩
theorem iX7_init_170 : zI cX7_init 170 (.sipush 4900) 3 173 := ⟨by decide +kernel, rfl⟩
theorem iX7_init_173 : zI cX7_init 173 (.iconst 2) 1 174 := ⟨by decide +kernel, rfl⟩
theorem iX7_init_174 : zI cX7_init 174 (.iconst 0) 1 175 := ⟨by decide +kernel, rfl⟩
theorem iX7_init_175 : zI cX7_init 175 (.iconst 0) 1 176 := ⟨by decide +kernel, rfl⟩
theorem iX7_init_176 : zI cX7_init 176 (.invokevirtual 40) 3 179 := ⟨by decide +kernel, rfl⟩
theorem iX7_init_179 : zI cX7_init 179 (.aload_n 0) 1 180 := ⟨by decide +kernel, rfl⟩
theorem iX7_init_180 : zI cX7_init 180 (.iconst 4) 1 181 := ⟨by decide +kernel, rfl⟩
theorem iX7_init_181 : zI cX7_init 181 (.sipush 4850) 3 184 := ⟨by decide +kernel, rfl⟩
theorem iX7_init_184 : zI cX7_init 184 (.iconst 2) 1 185 := ⟨by decide +kernel, rfl⟩
theorem iX7_init_185 : zI cX7_init 185 (.iconst 0) 1 186 := ⟨by decide +kernel, rfl⟩
theorem iX7_init_186 : zI cX7_init 186 (.iconst 0) 1 187 := ⟨by decide +kernel, rfl⟩
theorem iX7_init_187 : zI cX7_init 187 (.invokevirtual 40) 3 190 := ⟨by decide +kernel, rfl⟩
theorem iX7_init_190 : zI cX7_init 190 (.aload_n 0) 1 191 := ⟨by decide +kernel, rfl⟩
theorem iX7_init_191 : zI cX7_init 191 (.iconst 4) 1 192 := ⟨by decide +kernel, rfl⟩
theorem iX7_init_192 : zI cX7_init 192 (.sipush 4800) 3 195 := ⟨by decide +kernel, rfl⟩
theorem iX7_init_195 : zI cX7_init 195 (.iconst 1) 1 196 := ⟨by decide +kernel, rfl⟩
theorem iX7_init_196 : zI cX7_init 196 (.iconst 0) 1 197 := ⟨by decide +kernel, rfl⟩
theorem iX7_init_197 : zI cX7_init 197 (.iconst 0) 1 198 := ⟨by decide +kernel, rfl⟩
theorem iX7_init_198 : zI cX7_init 198 (.invokevirtual 40) 3 201 := ⟨by decide +kernel, rfl⟩
theorem iX7_init_201 : zI cX7_init 201 (.aload_n 0) 1 202 := ⟨by decide +kernel, rfl⟩
theorem iX7_init_202 : zI cX7_init 202 (.invokevirtual 44) 3 205 := ⟨by decide +kernel, rfl⟩
set_option maxHeartbeats 4000000 in
set_option maxRecDepth 100000 in
theorem mo_rest {X : kX} {D : va_G} {cI cG : ClassId} {A : Nat → Prop} {q : Nat} {a : Nat → Nat} {hmR hm3 : zH} (ad : Nat → Nat) (had : ad = moA q a) (C : kC X D cI cG A zNw cX7_init RX7 "<init>" 9 9 774) (e1 : mkM h00 = some hmR) (e2 : Mo_takes hmR = some hm3) (hr : ∀ ws, (∃ ad : Nat → Nat, ad 0 = q ∧ ws = zW cI cG ad shM hm3) → kG X D A 9 774 205 [some (.ref q)] [] ws) : kG X D A 9 774 78 [some (.ref q)] [] (zW cI cG ad shM h00) := by
  obtain rfl : ad 0 = q := by rw [had]; rfl
  clear had
  unfold mkM at e1
  obtain ⟨h1, w1, e1⟩ := Option.bind_eq_some_iff.mp e1
  obtain ⟨h2, w2, e1⟩ := Option.bind_eq_some_iff.mp e1
  obtain ⟨h3, w3, e1⟩ := Option.bind_eq_some_iff.mp e1
  obtain ⟨h4, w4, e1⟩ := Option.bind_eq_some_iff.mp e1
  obtain ⟨h5, w5, e1⟩ := Option.bind_eq_some_iff.mp e1
  obtain ⟨h6, w6, e1⟩ := Option.bind_eq_some_iff.mp e1
  obtain ⟨h7, w7, e1⟩ := Option.bind_eq_some_iff.mp e1
  obtain ⟨h8, w8, e1⟩ := Option.bind_eq_some_iff.mp e1
  obtain ⟨h9, w9, e1⟩ := Option.bind_eq_some_iff.mp e1
  obtain ⟨h10, w10, e1⟩ := Option.bind_eq_some_iff.mp e1
  obtain ⟨h11, w11, e1⟩ := Option.bind_eq_some_iff.mp e1
  obtain ⟨h12, w12, e1⟩ := Option.bind_eq_some_iff.mp e1
  cases e1
  refine k_aload_n C iX7_init_78 rfl ?_
  refine k_callZ0 C wX7_37 iX7_init_79 (m_Mo_clears h00) w1 (by decide) (fun s h => h) mh0 rfl rfl rfl rfl (Nat.le_of_ble_eq_true rfl) (Nat.le_of_ble_eq_true rfl) (Nat.le_of_ble_eq_true rfl) ?_
  show kG X D A 9 774 82 [some (.ref (ad 0))] [] (zW cI cG ad shM h1)
  refine k_aload_n C iX7_init_82 rfl ?_
  refine k_getZ C fiX7_13 iX7_init_83 mh0 rfl ?_
  refine k_iconst C 5 iX7_init_86 (by decide) ?_
  refine k_iconst C 3 iX7_init_87 (by decide) ?_
  refine k_iastZ C 5 iX7_init_88 mh2 (by decide) (by decide) ?_
  refine k_aload_n C iX7_init_89 rfl ?_
  refine k_iconst C 1 iX7_init_90 (by decide) ?_
  refine k_iconst C 0 iX7_init_91 (by decide) ?_
  refine k_iconst C 1 iX7_init_92 (by decide) ?_
  refine k_iconst C 0 iX7_init_93 (by decide) ?_
  refine k_iconst C 0 iX7_init_94 (by decide) ?_
  refine k_callZ0 C wX7_40 iX7_init_95 (m_Mo_adds 1 0 1 0 0 (upd2 h1 2 5 3)) w2 (by decide) (fun s h => h) mh0 rfl rfl rfl rfl (Nat.le_of_ble_eq_true rfl) (Nat.le_of_ble_eq_true rfl) (Nat.le_of_ble_eq_true rfl) ?_
  show kG X D A 9 774 98 [some (.ref (ad 0))] [] (zW cI cG ad shM h2)
  refine k_aload_n C iX7_init_98 rfl ?_
  refine k_iconst C 1 iX7_init_99 (by decide) ?_
  refine k_iconst C 1 iX7_init_100 (by decide) ?_
  refine k_iconst C 2 iX7_init_101 (by decide) ?_
  refine k_iconst C 0 iX7_init_102 (by decide) ?_
  refine k_iconst C 0 iX7_init_103 (by decide) ?_
  refine k_callZ0 C wX7_40 iX7_init_104 (m_Mo_adds 1 1 2 0 0 h2) w3 (by decide) (fun s h => h) mh0 rfl rfl rfl rfl (Nat.le_of_ble_eq_true rfl) (Nat.le_of_ble_eq_true rfl) (Nat.le_of_ble_eq_true rfl) ?_
  show kG X D A 9 774 107 [some (.ref (ad 0))] [] (zW cI cG ad shM h3)
  refine k_aload_n C iX7_init_107 rfl ?_
  refine k_iconst C 2 iX7_init_108 (by decide) ?_
  refine k_iconst C 0 iX7_init_109 (by decide) ?_
  refine k_bipush C 60 iX7_init_110 (by decide) ?_
  refine k_iconst C 3 iX7_init_112 (by decide) ?_
  refine k_bipush C 6 iX7_init_113 (by decide) ?_
  refine k_callZ0 C wX7_40 iX7_init_115 (m_Mo_adds 2 0 60 3 6 h3) w4 (by decide) (fun s h => h) mh0 rfl rfl rfl rfl (Nat.le_of_ble_eq_true rfl) (Nat.le_of_ble_eq_true rfl) (Nat.le_of_ble_eq_true rfl) ?_
  show kG X D A 9 774 118 [some (.ref (ad 0))] [] (zW cI cG ad shM h4)
  refine k_aload_n C iX7_init_118 rfl ?_
  refine k_iconst C 2 iX7_init_119 (by decide) ?_
  refine k_iconst C 2 iX7_init_120 (by decide) ?_
  refine k_bipush C 30 iX7_init_121 (by decide) ?_
  refine k_iconst C 5 iX7_init_123 (by decide) ?_
  refine k_iconst C 3 iX7_init_124 (by decide) ?_
  refine k_callZ0 C wX7_40 iX7_init_125 (m_Mo_adds 2 2 30 5 3 h4) w5 (by decide) (fun s h => h) mh0 rfl rfl rfl rfl (Nat.le_of_ble_eq_true rfl) (Nat.le_of_ble_eq_true rfl) (Nat.le_of_ble_eq_true rfl) ?_
  show kG X D A 9 774 128 [some (.ref (ad 0))] [] (zW cI cG ad shM h5)
  refine k_aload_n C iX7_init_128 rfl ?_
  refine k_iconst C 3 iX7_init_129 (by decide) ?_
  refine k_iconst C 0 iX7_init_130 (by decide) ?_
  refine k_bipush C 20 iX7_init_131 (by decide) ?_
  refine k_iconst C 1 iX7_init_133 (by decide) ?_
  refine k_iconst C 0 iX7_init_134 (by decide) ?_
  refine k_callZ0 C wX7_40 iX7_init_135 (m_Mo_adds 3 0 20 1 0 h5) w6 (by decide) (fun s h => h) mh0 rfl rfl rfl rfl (Nat.le_of_ble_eq_true rfl) (Nat.le_of_ble_eq_true rfl) (Nat.le_of_ble_eq_true rfl) ?_
  show kG X D A 9 774 138 [some (.ref (ad 0))] [] (zW cI cG ad shM h6)
  refine k_aload_n C iX7_init_138 rfl ?_
  refine k_iconst C 3 iX7_init_139 (by decide) ?_
  refine k_iconst C 1 iX7_init_140 (by decide) ?_
  refine k_bipush C 25 iX7_init_141 (by decide) ?_
  refine k_iconst C 2 iX7_init_143 (by decide) ?_
  refine k_iconst C 0 iX7_init_144 (by decide) ?_
  refine k_callZ0 C wX7_40 iX7_init_145 (m_Mo_adds 3 1 25 2 0 h6) w7 (by decide) (fun s h => h) mh0 rfl rfl rfl rfl (Nat.le_of_ble_eq_true rfl) (Nat.le_of_ble_eq_true rfl) (Nat.le_of_ble_eq_true rfl) ?_
  show kG X D A 9 774 148 [some (.ref (ad 0))] [] (zW cI cG ad shM h7)
  refine k_aload_n C iX7_init_148 rfl ?_
  refine k_iconst C 3 iX7_init_149 (by decide) ?_
  refine k_iconst C 2 iX7_init_150 (by decide) ?_
  refine k_bipush C 15 iX7_init_151 (by decide) ?_
  refine k_iconst C 0 iX7_init_153 (by decide) ?_
  refine k_iconst C 0 iX7_init_154 (by decide) ?_
  refine k_callZ0 C wX7_40 iX7_init_155 (m_Mo_adds 3 2 15 0 0 h7) w8 (by decide) (fun s h => h) mh0 rfl rfl rfl rfl (Nat.le_of_ble_eq_true rfl) (Nat.le_of_ble_eq_true rfl) (Nat.le_of_ble_eq_true rfl) ?_
  show kG X D A 9 774 158 [some (.ref (ad 0))] [] (zW cI cG ad shM h8)
  refine k_aload_n C iX7_init_158 rfl ?_
  refine k_iconst C 3 iX7_init_159 (by decide) ?_
  refine k_iconst C 1 iX7_init_160 (by decide) ?_
  refine k_bipush C 10 iX7_init_161 (by decide) ?_
  refine k_iconst C 3 iX7_init_163 (by decide) ?_
  refine k_iconst C 0 iX7_init_164 (by decide) ?_
  refine k_callZ0 C wX7_40 iX7_init_165 (m_Mo_adds 3 1 10 3 0 h8) w9 (by decide) (fun s h => h) mh0 rfl rfl rfl rfl (Nat.le_of_ble_eq_true rfl) (Nat.le_of_ble_eq_true rfl) (Nat.le_of_ble_eq_true rfl) ?_
  show kG X D A 9 774 168 [some (.ref (ad 0))] [] (zW cI cG ad shM h9)
  refine k_aload_n C iX7_init_168 rfl ?_
  refine k_iconst C 4 iX7_init_169 (by decide) ?_
  refine k_sipush C 4900 iX7_init_170 (by decide) ?_
  refine k_iconst C 2 iX7_init_173 (by decide) ?_
  refine k_iconst C 0 iX7_init_174 (by decide) ?_
  refine k_iconst C 0 iX7_init_175 (by decide) ?_
  refine k_callZ0 C wX7_40 iX7_init_176 (m_Mo_adds 4 4900 2 0 0 h9) w10 (by decide) (fun s h => h) mh0 rfl rfl rfl rfl (Nat.le_of_ble_eq_true rfl) (Nat.le_of_ble_eq_true rfl) (Nat.le_of_ble_eq_true rfl) ?_
  show kG X D A 9 774 179 [some (.ref (ad 0))] [] (zW cI cG ad shM h10)
  refine k_aload_n C iX7_init_179 rfl ?_
  refine k_iconst C 4 iX7_init_180 (by decide) ?_
  refine k_sipush C 4850 iX7_init_181 (by decide) ?_
  refine k_iconst C 2 iX7_init_184 (by decide) ?_
  refine k_iconst C 0 iX7_init_185 (by decide) ?_
  refine k_iconst C 0 iX7_init_186 (by decide) ?_
  refine k_callZ0 C wX7_40 iX7_init_187 (m_Mo_adds 4 4850 2 0 0 h10) w11 (by decide) (fun s h => h) mh0 rfl rfl rfl rfl (Nat.le_of_ble_eq_true rfl) (Nat.le_of_ble_eq_true rfl) (Nat.le_of_ble_eq_true rfl) ?_
  show kG X D A 9 774 190 [some (.ref (ad 0))] [] (zW cI cG ad shM h11)
  refine k_aload_n C iX7_init_190 rfl ?_
  refine k_iconst C 4 iX7_init_191 (by decide) ?_
  refine k_sipush C 4800 iX7_init_192 (by decide) ?_
  refine k_iconst C 1 iX7_init_195 (by decide) ?_
  refine k_iconst C 0 iX7_init_196 (by decide) ?_
  refine k_iconst C 0 iX7_init_197 (by decide) ?_
  refine k_callZ0 C wX7_40 iX7_init_198 (m_Mo_adds 4 4800 1 0 0 h11) w12 (by decide) (fun s h => h) mh0 rfl rfl rfl rfl (Nat.le_of_ble_eq_true rfl) (Nat.le_of_ble_eq_true rfl) (Nat.le_of_ble_eq_true rfl) ?_
  show kG X D A 9 774 201 [some (.ref (ad 0))] [] (zW cI cG ad shM hmR)
  refine k_aload_n C iX7_init_201 rfl ?_
  refine k_callZ0 C wX7_44 iX7_init_202 (m_Mo_takes hmR) e2 (by decide) (fun s h => h) mh0 rfl rfl rfl rfl (Nat.le_of_ble_eq_true rfl) (Nat.le_of_ble_eq_true rfl) (Nat.le_of_ble_eq_true rfl) ?_
  show kG X D A 9 774 205 [some (.ref (ad 0))] [] (zW cI cG ad shM hm3)
  exact hr _ ⟨ad, rfl, rfl⟩
set_option maxHeartbeats 4000000 in
set_option maxRecDepth 100000 in
theorem n_Mo (q : Nat) {hmR hm3 : zH} (e1 : mkM h00 = some hmR) (e2 : Mo_takes hmR = some hm3) : kM yX7_init cX7_init 1 9 9 774 (fun _ _ U => zNw U) [.ref q] (q, .inr (7, [.int 0, .null, .null, .null, .null, .null, .null, .null, .null, .null, .int 0, .int 0, .int 0, .int 0, .int 0, .int 0, .int 0])) (fun cI cG w => ∃ ad : Nat → Nat, ad 0 = q ∧ w = zW cI cG ad shM hm3) := by
  refine kM.of (by decide) rfl rfl (Nat.le_of_ble_eq_true rfl) (fun X D cI cG A sz hA hnL C hr => ?_)
  show kG X D A 0 0 0 [some (.ref q)] [] [(q, .inr (7, [.int 0, .null, .null, .null, .null, .null, .null, .null, .null, .null, .int 0, .int 0, .int 0, .int 0, .int 0, .int 0, .int 0]))]
  refine k_aload_n C iX7_init_0 rfl ?_
  refine k_obj C oX7_1 iX7_init_1 (by decide) (Nat.le_of_ble_eq_true rfl) ?_
  refine k_aload_n C iX7_init_4 rfl ?_
  refine k_sipush C 200 iX7_init_5 (by decide) ?_
  refine k_newa C arrI 200 iX7_init_8 (by decide) (by decide) (Nat.le_of_ble_eq_true rfl) (Nat.le_of_ble_eq_true rfl) (Nat.le_of_ble_eq_true rfl) (fun a0 => ?_)
  show kG X D A 1 200 10 [some (.ref q)] [.ref a0, .ref q] [(q, .inr (7, [.int 0, .null, .null, .null, .null, .null, .null, .null, .null, .null, .int 0, .int 0, .int 0, .int 0, .int 0, .int 0, .int 0])), (a0, .inl (cI, 200, .inl (fun _ => 0)))]
  refine k_putF C 0 ffX7_7 iX7_init_10 rfl (Nat.le_of_ble_eq_true rfl) ?_
  show kG X D A 1 200 13 [some (.ref q)] [] [(q, .inr (7, [.int 0, .ref a0, .null, .null, .null, .null, .null, .null, .null, .null, .int 0, .int 0, .int 0, .int 0, .int 0, .int 0, .int 0])), (a0, .inl (cI, 200, .inl (fun _ => 0)))]
  refine k_aload_n C iX7_init_13 rfl ?_
  refine k_bipush C 10 iX7_init_14 (by decide) ?_
  refine k_newa C arrI 10 iX7_init_16 (by decide) (by decide) (Nat.le_of_ble_eq_true rfl) (Nat.le_of_ble_eq_true rfl) (Nat.le_of_ble_eq_true rfl) (fun a1 => ?_)
  show kG X D A 2 210 18 [some (.ref q)] [.ref a1, .ref q] [(q, .inr (7, [.int 0, .ref a0, .null, .null, .null, .null, .null, .null, .null, .null, .int 0, .int 0, .int 0, .int 0, .int 0, .int 0, .int 0])), (a0, .inl (cI, 200, .inl (fun _ => 0))), (a1, .inl (cI, 10, .inl (fun _ => 0)))]
  refine k_putF C 0 ffX7_13 iX7_init_18 rfl (Nat.le_of_ble_eq_true rfl) ?_
  show kG X D A 2 210 21 [some (.ref q)] [] [(q, .inr (7, [.int 0, .ref a0, .ref a1, .null, .null, .null, .null, .null, .null, .null, .int 0, .int 0, .int 0, .int 0, .int 0, .int 0, .int 0])), (a0, .inl (cI, 200, .inl (fun _ => 0))), (a1, .inl (cI, 10, .inl (fun _ => 0)))]
  refine k_aload_n C iX7_init_21 rfl ?_
  refine k_bipush C 36 iX7_init_22 (by decide) ?_
  refine k_newa C arrI 36 iX7_init_24 (by decide) (by decide) (Nat.le_of_ble_eq_true rfl) (Nat.le_of_ble_eq_true rfl) (Nat.le_of_ble_eq_true rfl) (fun a2 => ?_)
  show kG X D A 3 246 26 [some (.ref q)] [.ref a2, .ref q] [(q, .inr (7, [.int 0, .ref a0, .ref a1, .null, .null, .null, .null, .null, .null, .null, .int 0, .int 0, .int 0, .int 0, .int 0, .int 0, .int 0])), (a0, .inl (cI, 200, .inl (fun _ => 0))), (a1, .inl (cI, 10, .inl (fun _ => 0))), (a2, .inl (cI, 36, .inl (fun _ => 0)))]
  refine k_putF C 0 ffX7_16 iX7_init_26 rfl (Nat.le_of_ble_eq_true rfl) ?_
  show kG X D A 3 246 29 [some (.ref q)] [] [(q, .inr (7, [.int 0, .ref a0, .ref a1, .ref a2, .null, .null, .null, .null, .null, .null, .int 0, .int 0, .int 0, .int 0, .int 0, .int 0, .int 0])), (a0, .inl (cI, 200, .inl (fun _ => 0))), (a1, .inl (cI, 10, .inl (fun _ => 0))), (a2, .inl (cI, 36, .inl (fun _ => 0)))]
  refine k_aload_n C iX7_init_29 rfl ?_
  refine k_bipush C 48 iX7_init_30 (by decide) ?_
  refine k_newa C arrI 48 iX7_init_32 (by decide) (by decide) (Nat.le_of_ble_eq_true rfl) (Nat.le_of_ble_eq_true rfl) (Nat.le_of_ble_eq_true rfl) (fun a3 => ?_)
  show kG X D A 4 294 34 [some (.ref q)] [.ref a3, .ref q] [(q, .inr (7, [.int 0, .ref a0, .ref a1, .ref a2, .null, .null, .null, .null, .null, .null, .int 0, .int 0, .int 0, .int 0, .int 0, .int 0, .int 0])), (a0, .inl (cI, 200, .inl (fun _ => 0))), (a1, .inl (cI, 10, .inl (fun _ => 0))), (a2, .inl (cI, 36, .inl (fun _ => 0))), (a3, .inl (cI, 48, .inl (fun _ => 0)))]
  refine k_putF C 0 ffX7_19 iX7_init_34 rfl (Nat.le_of_ble_eq_true rfl) ?_
  show kG X D A 4 294 37 [some (.ref q)] [] [(q, .inr (7, [.int 0, .ref a0, .ref a1, .ref a2, .ref a3, .null, .null, .null, .null, .null, .int 0, .int 0, .int 0, .int 0, .int 0, .int 0, .int 0])), (a0, .inl (cI, 200, .inl (fun _ => 0))), (a1, .inl (cI, 10, .inl (fun _ => 0))), (a2, .inl (cI, 36, .inl (fun _ => 0))), (a3, .inl (cI, 48, .inl (fun _ => 0)))]
  refine k_aload_n C iX7_init_37 rfl ?_
  refine k_bipush C 54 iX7_init_38 (by decide) ?_
  refine k_newa C arrI 54 iX7_init_40 (by decide) (by decide) (Nat.le_of_ble_eq_true rfl) (Nat.le_of_ble_eq_true rfl) (Nat.le_of_ble_eq_true rfl) (fun a4 => ?_)
  show kG X D A 5 348 42 [some (.ref q)] [.ref a4, .ref q] [(q, .inr (7, [.int 0, .ref a0, .ref a1, .ref a2, .ref a3, .null, .null, .null, .null, .null, .int 0, .int 0, .int 0, .int 0, .int 0, .int 0, .int 0])), (a0, .inl (cI, 200, .inl (fun _ => 0))), (a1, .inl (cI, 10, .inl (fun _ => 0))), (a2, .inl (cI, 36, .inl (fun _ => 0))), (a3, .inl (cI, 48, .inl (fun _ => 0))), (a4, .inl (cI, 54, .inl (fun _ => 0)))]
  refine k_putF C 0 ffX7_22 iX7_init_42 rfl (Nat.le_of_ble_eq_true rfl) ?_
  show kG X D A 5 348 45 [some (.ref q)] [] [(q, .inr (7, [.int 0, .ref a0, .ref a1, .ref a2, .ref a3, .ref a4, .null, .null, .null, .null, .int 0, .int 0, .int 0, .int 0, .int 0, .int 0, .int 0])), (a0, .inl (cI, 200, .inl (fun _ => 0))), (a1, .inl (cI, 10, .inl (fun _ => 0))), (a2, .inl (cI, 36, .inl (fun _ => 0))), (a3, .inl (cI, 48, .inl (fun _ => 0))), (a4, .inl (cI, 54, .inl (fun _ => 0)))]
  refine k_aload_n C iX7_init_45 rfl ?_
  refine k_bipush C 24 iX7_init_46 (by decide) ?_
  refine k_newa C arrI 24 iX7_init_48 (by decide) (by decide) (Nat.le_of_ble_eq_true rfl) (Nat.le_of_ble_eq_true rfl) (Nat.le_of_ble_eq_true rfl) (fun a5 => ?_)
  show kG X D A 6 372 50 [some (.ref q)] [.ref a5, .ref q] [(q, .inr (7, [.int 0, .ref a0, .ref a1, .ref a2, .ref a3, .ref a4, .null, .null, .null, .null, .int 0, .int 0, .int 0, .int 0, .int 0, .int 0, .int 0])), (a0, .inl (cI, 200, .inl (fun _ => 0))), (a1, .inl (cI, 10, .inl (fun _ => 0))), (a2, .inl (cI, 36, .inl (fun _ => 0))), (a3, .inl (cI, 48, .inl (fun _ => 0))), (a4, .inl (cI, 54, .inl (fun _ => 0))), (a5, .inl (cI, 24, .inl (fun _ => 0)))]
  refine k_putF C 0 ffX7_25 iX7_init_50 rfl (Nat.le_of_ble_eq_true rfl) ?_
  show kG X D A 6 372 53 [some (.ref q)] [] [(q, .inr (7, [.int 0, .ref a0, .ref a1, .ref a2, .ref a3, .ref a4, .ref a5, .null, .null, .null, .int 0, .int 0, .int 0, .int 0, .int 0, .int 0, .int 0])), (a0, .inl (cI, 200, .inl (fun _ => 0))), (a1, .inl (cI, 10, .inl (fun _ => 0))), (a2, .inl (cI, 36, .inl (fun _ => 0))), (a3, .inl (cI, 48, .inl (fun _ => 0))), (a4, .inl (cI, 54, .inl (fun _ => 0))), (a5, .inl (cI, 24, .inl (fun _ => 0)))]
  refine k_aload_n C iX7_init_53 rfl ?_
  refine k_bipush C 67 iX7_init_54 (by decide) ?_
  refine k_newa C arrI 67 iX7_init_56 (by decide) (by decide) (Nat.le_of_ble_eq_true rfl) (Nat.le_of_ble_eq_true rfl) (Nat.le_of_ble_eq_true rfl) (fun a6 => ?_)
  show kG X D A 7 439 58 [some (.ref q)] [.ref a6, .ref q] [(q, .inr (7, [.int 0, .ref a0, .ref a1, .ref a2, .ref a3, .ref a4, .ref a5, .null, .null, .null, .int 0, .int 0, .int 0, .int 0, .int 0, .int 0, .int 0])), (a0, .inl (cI, 200, .inl (fun _ => 0))), (a1, .inl (cI, 10, .inl (fun _ => 0))), (a2, .inl (cI, 36, .inl (fun _ => 0))), (a3, .inl (cI, 48, .inl (fun _ => 0))), (a4, .inl (cI, 54, .inl (fun _ => 0))), (a5, .inl (cI, 24, .inl (fun _ => 0))), (a6, .inl (cI, 67, .inl (fun _ => 0)))]
  refine k_putF C 0 ffX7_28 iX7_init_58 rfl (Nat.le_of_ble_eq_true rfl) ?_
  show kG X D A 7 439 61 [some (.ref q)] [] [(q, .inr (7, [.int 0, .ref a0, .ref a1, .ref a2, .ref a3, .ref a4, .ref a5, .ref a6, .null, .null, .int 0, .int 0, .int 0, .int 0, .int 0, .int 0, .int 0])), (a0, .inl (cI, 200, .inl (fun _ => 0))), (a1, .inl (cI, 10, .inl (fun _ => 0))), (a2, .inl (cI, 36, .inl (fun _ => 0))), (a3, .inl (cI, 48, .inl (fun _ => 0))), (a4, .inl (cI, 54, .inl (fun _ => 0))), (a5, .inl (cI, 24, .inl (fun _ => 0))), (a6, .inl (cI, 67, .inl (fun _ => 0)))]
  refine k_aload_n C iX7_init_61 rfl ?_
  refine k_sipush C 268 iX7_init_62 (by decide) ?_
  refine k_newa C arrI 268 iX7_init_65 (by decide) (by decide) (Nat.le_of_ble_eq_true rfl) (Nat.le_of_ble_eq_true rfl) (Nat.le_of_ble_eq_true rfl) (fun a7 => ?_)
  show kG X D A 8 707 67 [some (.ref q)] [.ref a7, .ref q] [(q, .inr (7, [.int 0, .ref a0, .ref a1, .ref a2, .ref a3, .ref a4, .ref a5, .ref a6, .null, .null, .int 0, .int 0, .int 0, .int 0, .int 0, .int 0, .int 0])), (a0, .inl (cI, 200, .inl (fun _ => 0))), (a1, .inl (cI, 10, .inl (fun _ => 0))), (a2, .inl (cI, 36, .inl (fun _ => 0))), (a3, .inl (cI, 48, .inl (fun _ => 0))), (a4, .inl (cI, 54, .inl (fun _ => 0))), (a5, .inl (cI, 24, .inl (fun _ => 0))), (a6, .inl (cI, 67, .inl (fun _ => 0))), (a7, .inl (cI, 268, .inl (fun _ => 0)))]
  refine k_putF C 0 ffX7_31 iX7_init_67 rfl (Nat.le_of_ble_eq_true rfl) ?_
  show kG X D A 8 707 70 [some (.ref q)] [] [(q, .inr (7, [.int 0, .ref a0, .ref a1, .ref a2, .ref a3, .ref a4, .ref a5, .ref a6, .ref a7, .null, .int 0, .int 0, .int 0, .int 0, .int 0, .int 0, .int 0])), (a0, .inl (cI, 200, .inl (fun _ => 0))), (a1, .inl (cI, 10, .inl (fun _ => 0))), (a2, .inl (cI, 36, .inl (fun _ => 0))), (a3, .inl (cI, 48, .inl (fun _ => 0))), (a4, .inl (cI, 54, .inl (fun _ => 0))), (a5, .inl (cI, 24, .inl (fun _ => 0))), (a6, .inl (cI, 67, .inl (fun _ => 0))), (a7, .inl (cI, 268, .inl (fun _ => 0)))]
  refine k_aload_n C iX7_init_70 rfl ?_
  refine k_bipush C 67 iX7_init_71 (by decide) ?_
  refine k_newa C arrI 67 iX7_init_73 (by decide) (by decide) (Nat.le_of_ble_eq_true rfl) (Nat.le_of_ble_eq_true rfl) (Nat.le_of_ble_eq_true rfl) (fun a8 => ?_)
  show kG X D A 9 774 75 [some (.ref q)] [.ref a8, .ref q] [(q, .inr (7, [.int 0, .ref a0, .ref a1, .ref a2, .ref a3, .ref a4, .ref a5, .ref a6, .ref a7, .null, .int 0, .int 0, .int 0, .int 0, .int 0, .int 0, .int 0])), (a0, .inl (cI, 200, .inl (fun _ => 0))), (a1, .inl (cI, 10, .inl (fun _ => 0))), (a2, .inl (cI, 36, .inl (fun _ => 0))), (a3, .inl (cI, 48, .inl (fun _ => 0))), (a4, .inl (cI, 54, .inl (fun _ => 0))), (a5, .inl (cI, 24, .inl (fun _ => 0))), (a6, .inl (cI, 67, .inl (fun _ => 0))), (a7, .inl (cI, 268, .inl (fun _ => 0))), (a8, .inl (cI, 67, .inl (fun _ => 0)))]
  refine k_putF C 0 ffX7_34 iX7_init_75 rfl (Nat.le_of_ble_eq_true rfl) ?_
  show kG X D A 9 774 78 [some (.ref q)] [] [(q, .inr (7, [.int 0, .ref a0, .ref a1, .ref a2, .ref a3, .ref a4, .ref a5, .ref a6, .ref a7, .ref a8, .int 0, .int 0, .int 0, .int 0, .int 0, .int 0, .int 0])), (a0, .inl (cI, 200, .inl (fun _ => 0))), (a1, .inl (cI, 10, .inl (fun _ => 0))), (a2, .inl (cI, 36, .inl (fun _ => 0))), (a3, .inl (cI, 48, .inl (fun _ => 0))), (a4, .inl (cI, 54, .inl (fun _ => 0))), (a5, .inl (cI, 24, .inl (fun _ => 0))), (a6, .inl (cI, 67, .inl (fun _ => 0))), (a7, .inl (cI, 268, .inl (fun _ => 0))), (a8, .inl (cI, 67, .inl (fun _ => 0)))]
  refine k_eq (mo_world cI cG q (fun k => [a0, a1, a2, a3, a4, a5, a6, a7, a8].getD k 0)) ?_
  exact mo_rest _ rfl C e1 e2 (fun ws hw => hr _ _ _ _ iX7_init_205 hw)
