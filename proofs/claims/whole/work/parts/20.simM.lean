theorem iX7_isIn_2 : zI cX7_isIn 2 (.if_icmp .lt 12) 3 5 := ⟨by decide +kernel, rfl⟩
theorem iX7_isIn_15 : zI cX7_isIn 15 (.ireturn) 1 16 := ⟨by decide +kernel, rfl⟩
theorem iX7_isIn_14 : zI cX7_isIn 14 (.iconst 0) 1 15 := ⟨by decide +kernel, rfl⟩
theorem iX7_isIn_7 : zI cX7_isIn 7 (.if_icmp .gt 7) 3 10 := ⟨by decide +kernel, rfl⟩
theorem iX7_isIn_11 : zI cX7_isIn 11 (.goto 4) 3 14 := ⟨by decide +kernel, rfl⟩
theorem iX7_isIn_10 : zI cX7_isIn 10 (.iconst 1) 1 11 := ⟨by decide +kernel, rfl⟩
theorem iX7_isIn_6 : zI cX7_isIn 6 (.iload_n 2) 1 7 := ⟨by decide +kernel, rfl⟩
theorem iX7_isIn_5 : zI cX7_isIn 5 (.iload_n 0) 1 6 := ⟨by decide +kernel, rfl⟩
theorem iX7_isIn_1 : zI cX7_isIn 1 (.iload_n 1) 1 2 := ⟨by decide +kernel, rfl⟩
theorem iX7_isIn_0 : zI cX7_isIn 0 (.iload_n 0) 1 1 := ⟨by decide +kernel, rfl⟩
set_option maxHeartbeats 4000000 in
set_option maxRecDepth 100000 in
theorem m_Mo_isIn (x0 : Int32) (x1 : Int32) (x2 : Int32) (h : zH) : zM yX7_isIn cX7_isIn 3 (some .boolean) 0 shM (fun ad => [.int x0, .int x1, .int x2]) h (eP h) (Mo_isIn x0 x1 x2) := by
  refine zM.of (by decide) (fun _ => rfl) (fun _ => Nat.le_of_ble_eq_true rfl) (fun X ad hnL C => ?_)
  show zG X ad shM (eP h) 0 [some (.int x0), some (.int x1), some (.int x2)] [] h _
  unfold Mo_isIn
  refine g_iload_n C iX7_isIn_0 rfl ?_
  refine g_iload_n C iX7_isIn_1 rfl ?_
  refine g_icmp_lt C 14 iX7_isIn_2 (by decide) (fun c2 => ?_) (fun c2 => ?_)
  · refine g_iconst C 0 iX7_isIn_14 (by decide) ?_
    exact g_zret C iX7_isIn_15 rfl rfl
  · refine g_iload_n C iX7_isIn_5 rfl ?_
    refine g_iload_n C iX7_isIn_6 rfl ?_
    refine g_icmp_gt C 14 iX7_isIn_7 (by decide) (fun c7 => ?_) (fun c7 => ?_)
    · refine g_iconst C 0 iX7_isIn_14 (by decide) ?_
      exact g_zret C iX7_isIn_15 rfl rfl
    · refine g_iconst C 1 iX7_isIn_10 (by decide) ?_
      refine g_goto C 15 iX7_isIn_11 (by decide) ?_
      exact g_zret C iX7_isIn_15 rfl rfl

theorem iX7_has_6 : zI cX7_has 6 (.if_icmp .ne 7) 3 9 := ⟨by decide +kernel, rfl⟩
theorem iX7_has_14 : zI cX7_has 14 (.ireturn) 1 15 := ⟨by decide +kernel, rfl⟩
theorem iX7_has_13 : zI cX7_has 13 (.iconst 0) 1 14 := ⟨by decide +kernel, rfl⟩
theorem iX7_has_10 : zI cX7_has 10 (.goto 4) 3 13 := ⟨by decide +kernel, rfl⟩
theorem iX7_has_9 : zI cX7_has 9 (.iconst 1) 1 10 := ⟨by decide +kernel, rfl⟩
theorem iX7_has_5 : zI cX7_has 5 (.iconst 1) 1 6 := ⟨by decide +kernel, rfl⟩
theorem iX7_has_4 : zI cX7_has 4 (.iand) 1 5 := ⟨by decide +kernel, rfl⟩
theorem iX7_has_3 : zI cX7_has 3 (.iconst 1) 1 4 := ⟨by decide +kernel, rfl⟩
theorem iX7_has_2 : zI cX7_has 2 (.ishr) 1 3 := ⟨by decide +kernel, rfl⟩
theorem iX7_has_1 : zI cX7_has 1 (.iload_n 1) 1 2 := ⟨by decide +kernel, rfl⟩
theorem iX7_has_0 : zI cX7_has 0 (.iload_n 0) 1 1 := ⟨by decide +kernel, rfl⟩
set_option maxHeartbeats 4000000 in
set_option maxRecDepth 100000 in
theorem m_Mo_has (x0 : Int32) (x1 : Int32) (h : zH) : zM yX7_has cX7_has 2 (some .boolean) 0 shM (fun ad => [.int x0, .int x1]) h (eP h) (Mo_has x0 x1) := by
  refine zM.of (by decide) (fun _ => rfl) (fun _ => Nat.le_of_ble_eq_true rfl) (fun X ad hnL C => ?_)
  show zG X ad shM (eP h) 0 [some (.int x0), some (.int x1)] [] h _
  unfold Mo_has
  refine g_iload_n C iX7_has_0 rfl ?_
  refine g_iload_n C iX7_has_1 rfl ?_
  refine g_ishr C iX7_has_2 ?_
  refine g_iconst C 1 iX7_has_3 (by decide) ?_
  refine g_iand C iX7_has_4 ?_
  refine g_iconst C 1 iX7_has_5 (by decide) ?_
  refine g_icmp_ne C 13 iX7_has_6 (by decide) (fun c6 => ?_) (fun c6 => ?_)
  · refine g_iconst C 1 iX7_has_9 (by decide) ?_
    refine g_goto C 14 iX7_has_10 (by decide) ?_
    exact g_zret C iX7_has_14 rfl rfl
  · refine g_iconst C 0 iX7_has_13 (by decide) ?_
    exact g_zret C iX7_has_14 rfl rfl

theorem iX7_clears_5 : zI cX7_clears 5 (.if_icmp .ge 16) 3 8 := ⟨by decide +kernel, rfl⟩
theorem fX7_13 : zFl RX7 13 7 2 := ⟨RX7, TX7, 17, rfl, by decide, (zmem 799 (by decide +kernel) (by decide +kernel)), u_inX7⟩
theorem iX7_clears_18 : zI cX7_clears 18 (.goto (-16)) 3 21 := ⟨by decide +kernel, rfl⟩
theorem iX7_clears_15 : zI cX7_clears 15 (.iinc 1 1) 3 18 := ⟨by decide +kernel, rfl⟩
theorem iX7_clears_14 : zI cX7_clears 14 (.iastore) 1 15 := ⟨by decide +kernel, rfl⟩
theorem iX7_clears_13 : zI cX7_clears 13 (.iconst 0) 1 14 := ⟨by decide +kernel, rfl⟩
theorem iX7_clears_12 : zI cX7_clears 12 (.iload_n 1) 1 13 := ⟨by decide +kernel, rfl⟩
theorem iX7_clears_9 : zI cX7_clears 9 (.getfield 13) 3 12 := ⟨by decide +kernel, rfl⟩
theorem iX7_clears_8 : zI cX7_clears 8 (.aload_n 0) 1 9 := ⟨by decide +kernel, rfl⟩
theorem iX7_clears_3 : zI cX7_clears 3 (.bipush 10) 2 5 := ⟨by decide +kernel, rfl⟩
theorem iX7_clears_2 : zI cX7_clears 2 (.iload_n 1) 1 3 := ⟨by decide +kernel, rfl⟩
theorem fX7_25 : zFl RX7 25 7 6 := ⟨RX7, TX7, 17, rfl, by decide, (zmem 803 (by decide +kernel) (by decide +kernel)), u_inX7⟩
theorem iX7_clears_39 : zI cX7_clears 39 (.return_) 1 40 := ⟨by decide +kernel, rfl⟩
theorem iX7_clears_38 : zI cX7_clears 38 (.iastore) 1 39 := ⟨by decide +kernel, rfl⟩
theorem iX7_clears_37 : zI cX7_clears 37 (.iconst 4) 1 38 := ⟨by decide +kernel, rfl⟩
theorem iX7_clears_35 : zI cX7_clears 35 (.bipush 13) 2 37 := ⟨by decide +kernel, rfl⟩
theorem iX7_clears_32 : zI cX7_clears 32 (.getfield 25) 3 35 := ⟨by decide +kernel, rfl⟩
theorem iX7_clears_31 : zI cX7_clears 31 (.aload_n 0) 1 32 := ⟨by decide +kernel, rfl⟩
theorem iX7_clears_30 : zI cX7_clears 30 (.iastore) 1 31 := ⟨by decide +kernel, rfl⟩
theorem iX7_clears_27 : zI cX7_clears 27 (.sipush 4980) 3 30 := ⟨by decide +kernel, rfl⟩
theorem iX7_clears_25 : zI cX7_clears 25 (.bipush 12) 2 27 := ⟨by decide +kernel, rfl⟩
theorem iX7_clears_22 : zI cX7_clears 22 (.getfield 25) 3 25 := ⟨by decide +kernel, rfl⟩
theorem iX7_clears_21 : zI cX7_clears 21 (.aload_n 0) 1 22 := ⟨by decide +kernel, rfl⟩
theorem iX7_clears_1 : zI cX7_clears 1 (.istore_n 1) 1 2 := ⟨by decide +kernel, rfl⟩
theorem iX7_clears_0 : zI cX7_clears 0 (.iconst 5) 1 1 := ⟨by decide +kernel, rfl⟩
set_option maxHeartbeats 4000000 in
set_option maxRecDepth 100000 in
theorem m_Mo_clears (h : zH) : zM yX7_clears cX7_clears 2 none 0 shM (fun ad => [.ref (ad 0)]) h eV (Mo_clears h) := by
  refine zM.of (by decide) (fun _ => rfl) (fun _ => Nat.le_of_ble_eq_true rfl) (fun X ad hnL C => ?_)
  show zG X ad shM eV 0 [some (.ref (ad 0)), none] [] h _
  unfold Mo_clears
  refine g_iconst C 5 iX7_clears_0 (by decide) ?_
  refine g_istore_n (lv' := [some (.ref (ad 0)), some (.int 5)]) C hnL iX7_clears_1 (by decide) rfl ?_
  have L2 : ∀ (k21 : zH → Option (zH)), (∀ (hy : zH), zG X ad shM eV 21 [some (.ref (ad 0)), none] [] hy (k21 hy)) → ∀ (n : Nat) (x1 : Int32) (h_1 : zH), zG X ad shM eV 2 [some (.ref (ad 0)), some (.int x1)] [] h_1 (Mo_clears_L2 k21 n x1 h_1) := by
    intro k21 hk21 n
    induction n with
    | zero =>
      intro x1 h_1
      exact g_none
    | succ n ih2 =>
      intro x1 h_1
      rw [Mo_clears_L2]
      refine g_iload_n C iX7_clears_2 rfl ?_
      refine g_bipush C 10 iX7_clears_3 (by decide) ?_
      refine g_icmp_ge C 21 iX7_clears_5 (by decide) (fun c5 => ?_) (fun c5 => ?_)
      · refine g_sub (lv' := [some (.ref (ad 0)), none]) ⟨rfl, trivial⟩ ?_
        exact hk21 _
      · refine g_aload_n C iX7_clears_8 rfl ?_
        refine g_getR (b := 2) C fX7_13 iX7_clears_9 mh0 rfl ?_
        refine g_iload_n C iX7_clears_12 rfl ?_
        refine g_iconst C 0 iX7_clears_13 (by decide) ?_
        refine g_iastore C iX7_clears_14 mh2 (fun h_2 => ?_)
        refine g_iinc (v := (x1 + 1)) (lv' := [some (.ref (ad 0)), some (.int (x1 + 1))]) C hnL iX7_clears_15 (by decide) rfl rfl rfl ?_
        refine g_goto C 2 iX7_clears_18 (by decide) ?_
        exact ih2 _ _
  refine L2 _ (fun h_3 => ?_) 1000 _ _
  show zG X ad shM eV 21 [some (.ref (ad 0)), none] [] h_3 _
  refine g_aload_n C iX7_clears_21 rfl ?_
  refine g_getR (b := 6) C fX7_25 iX7_clears_22 mh0 rfl ?_
  refine g_bipush C 12 iX7_clears_25 (by decide) ?_
  refine g_sipush C 4980 iX7_clears_27 (by decide) ?_
  refine g_iastoreL C 12 iX7_clears_30 mh6 (by decide) (by decide) (fun h_4 => ?_)
  refine g_aload_n C iX7_clears_31 rfl ?_
  refine g_getR (b := 6) C fX7_25 iX7_clears_32 mh0 rfl ?_
  refine g_bipush C 13 iX7_clears_35 (by decide) ?_
  refine g_iconst C 4 iX7_clears_37 (by decide) ?_
  refine g_iastoreL C 13 iX7_clears_38 mh6 (by decide) (by decide) (fun h_5 => ?_)
  exact g_vret C iX7_clears_39 rfl

theorem iX7_adds_24 : zI cX7_adds 24 (.if_icmp .ne 32) 3 27 := ⟨by decide +kernel, rfl⟩
theorem iX7_adds_58 : zI cX7_adds 58 (.if_icmp .ne 60) 3 61 := ⟨by decide +kernel, rfl⟩
theorem iX7_adds_120 : zI cX7_adds 120 (.if_icmp .ne 46) 3 123 := ⟨by decide +kernel, rfl⟩
theorem iX7_adds_192 : zI cX7_adds 192 (.return_) 1 193 := ⟨by decide +kernel, rfl⟩
theorem iX7_adds_191 : zI cX7_adds 191 (.iastore) 1 192 := ⟨by decide +kernel, rfl⟩
theorem iX7_adds_190 : zI cX7_adds 190 (.iload_n 3) 1 191 := ⟨by decide +kernel, rfl⟩
theorem iX7_adds_189 : zI cX7_adds 189 (.iadd) 1 190 := ⟨by decide +kernel, rfl⟩
theorem iX7_adds_188 : zI cX7_adds 188 (.imul) 1 189 := ⟨by decide +kernel, rfl⟩
theorem iX7_adds_186 : zI cX7_adds 186 (.iload 6) 2 188 := ⟨by decide +kernel, rfl⟩
theorem iX7_adds_185 : zI cX7_adds 185 (.iconst 2) 1 186 := ⟨by decide +kernel, rfl⟩
theorem iX7_adds_183 : zI cX7_adds 183 (.bipush 15) 2 185 := ⟨by decide +kernel, rfl⟩
theorem iX7_adds_180 : zI cX7_adds 180 (.getfield 25) 3 183 := ⟨by decide +kernel, rfl⟩
theorem iX7_adds_179 : zI cX7_adds 179 (.aload_n 0) 1 180 := ⟨by decide +kernel, rfl⟩
theorem iX7_adds_178 : zI cX7_adds 178 (.iastore) 1 179 := ⟨by decide +kernel, rfl⟩
theorem iX7_adds_177 : zI cX7_adds 177 (.iload_n 2) 1 178 := ⟨by decide +kernel, rfl⟩
theorem iX7_adds_176 : zI cX7_adds 176 (.iadd) 1 177 := ⟨by decide +kernel, rfl⟩
theorem iX7_adds_175 : zI cX7_adds 175 (.imul) 1 176 := ⟨by decide +kernel, rfl⟩
theorem iX7_adds_173 : zI cX7_adds 173 (.iload 6) 2 175 := ⟨by decide +kernel, rfl⟩
theorem iX7_adds_172 : zI cX7_adds 172 (.iconst 2) 1 173 := ⟨by decide +kernel, rfl⟩
theorem iX7_adds_170 : zI cX7_adds 170 (.bipush 14) 2 172 := ⟨by decide +kernel, rfl⟩
theorem iX7_adds_167 : zI cX7_adds 167 (.getfield 25) 3 170 := ⟨by decide +kernel, rfl⟩
theorem iX7_adds_166 : zI cX7_adds 166 (.aload_n 0) 1 167 := ⟨by decide +kernel, rfl⟩
theorem fX7_22 : zFl RX7 22 7 5 := ⟨RX7, TX7, 17, rfl, by decide, (zmem 802 (by decide +kernel) (by decide +kernel)), u_inX7⟩
theorem iX7_adds_163 : zI cX7_adds 163 (.goto 29) 3 166 := ⟨by decide +kernel, rfl⟩
theorem iX7_adds_162 : zI cX7_adds 162 (.iastore) 1 163 := ⟨by decide +kernel, rfl⟩
theorem iX7_adds_160 : zI cX7_adds 160 (.iload 4) 2 162 := ⟨by decide +kernel, rfl⟩
theorem iX7_adds_159 : zI cX7_adds 159 (.iadd) 1 160 := ⟨by decide +kernel, rfl⟩
theorem iX7_adds_158 : zI cX7_adds 158 (.imul) 1 159 := ⟨by decide +kernel, rfl⟩
theorem iX7_adds_156 : zI cX7_adds 156 (.iload 6) 2 158 := ⟨by decide +kernel, rfl⟩
theorem iX7_adds_155 : zI cX7_adds 155 (.iconst 3) 1 156 := ⟨by decide +kernel, rfl⟩
theorem iX7_adds_153 : zI cX7_adds 153 (.bipush 29) 2 155 := ⟨by decide +kernel, rfl⟩
theorem iX7_adds_150 : zI cX7_adds 150 (.getfield 22) 3 153 := ⟨by decide +kernel, rfl⟩
theorem iX7_adds_149 : zI cX7_adds 149 (.aload_n 0) 1 150 := ⟨by decide +kernel, rfl⟩
theorem iX7_adds_148 : zI cX7_adds 148 (.iastore) 1 149 := ⟨by decide +kernel, rfl⟩
theorem iX7_adds_147 : zI cX7_adds 147 (.iload_n 3) 1 148 := ⟨by decide +kernel, rfl⟩
theorem iX7_adds_146 : zI cX7_adds 146 (.iadd) 1 147 := ⟨by decide +kernel, rfl⟩
theorem iX7_adds_145 : zI cX7_adds 145 (.imul) 1 146 := ⟨by decide +kernel, rfl⟩
theorem iX7_adds_143 : zI cX7_adds 143 (.iload 6) 2 145 := ⟨by decide +kernel, rfl⟩
theorem iX7_adds_142 : zI cX7_adds 142 (.iconst 3) 1 143 := ⟨by decide +kernel, rfl⟩
theorem iX7_adds_140 : zI cX7_adds 140 (.bipush 28) 2 142 := ⟨by decide +kernel, rfl⟩
theorem iX7_adds_137 : zI cX7_adds 137 (.getfield 22) 3 140 := ⟨by decide +kernel, rfl⟩
theorem iX7_adds_136 : zI cX7_adds 136 (.aload_n 0) 1 137 := ⟨by decide +kernel, rfl⟩
theorem iX7_adds_135 : zI cX7_adds 135 (.iastore) 1 136 := ⟨by decide +kernel, rfl⟩
theorem iX7_adds_134 : zI cX7_adds 134 (.iload_n 2) 1 135 := ⟨by decide +kernel, rfl⟩
theorem iX7_adds_133 : zI cX7_adds 133 (.iadd) 1 134 := ⟨by decide +kernel, rfl⟩
theorem iX7_adds_132 : zI cX7_adds 132 (.imul) 1 133 := ⟨by decide +kernel, rfl⟩
theorem iX7_adds_130 : zI cX7_adds 130 (.iload 6) 2 132 := ⟨by decide +kernel, rfl⟩
theorem iX7_adds_129 : zI cX7_adds 129 (.iconst 3) 1 130 := ⟨by decide +kernel, rfl⟩
theorem iX7_adds_127 : zI cX7_adds 127 (.bipush 27) 2 129 := ⟨by decide +kernel, rfl⟩
theorem iX7_adds_124 : zI cX7_adds 124 (.getfield 22) 3 127 := ⟨by decide +kernel, rfl⟩
theorem iX7_adds_123 : zI cX7_adds 123 (.aload_n 0) 1 124 := ⟨by decide +kernel, rfl⟩
theorem iX7_adds_119 : zI cX7_adds 119 (.iconst 3) 1 120 := ⟨by decide +kernel, rfl⟩
theorem iX7_adds_118 : zI cX7_adds 118 (.iload_n 1) 1 119 := ⟨by decide +kernel, rfl⟩
theorem fX7_19 : zFl RX7 19 7 4 := ⟨RX7, TX7, 17, rfl, by decide, (zmem 801 (by decide +kernel) (by decide +kernel)), u_inX7⟩
theorem iX7_adds_115 : zI cX7_adds 115 (.goto 77) 3 118 := ⟨by decide +kernel, rfl⟩
theorem iX7_adds_114 : zI cX7_adds 114 (.iastore) 1 115 := ⟨by decide +kernel, rfl⟩
theorem iX7_adds_112 : zI cX7_adds 112 (.iload 5) 2 114 := ⟨by decide +kernel, rfl⟩
theorem iX7_adds_111 : zI cX7_adds 111 (.iadd) 1 112 := ⟨by decide +kernel, rfl⟩
theorem iX7_adds_110 : zI cX7_adds 110 (.imul) 1 111 := ⟨by decide +kernel, rfl⟩
theorem iX7_adds_108 : zI cX7_adds 108 (.iload 6) 2 110 := ⟨by decide +kernel, rfl⟩
theorem iX7_adds_107 : zI cX7_adds 107 (.iconst 4) 1 108 := ⟨by decide +kernel, rfl⟩
theorem iX7_adds_105 : zI cX7_adds 105 (.bipush 27) 2 107 := ⟨by decide +kernel, rfl⟩
theorem iX7_adds_102 : zI cX7_adds 102 (.getfield 19) 3 105 := ⟨by decide +kernel, rfl⟩
theorem iX7_adds_101 : zI cX7_adds 101 (.aload_n 0) 1 102 := ⟨by decide +kernel, rfl⟩
theorem iX7_adds_100 : zI cX7_adds 100 (.iastore) 1 101 := ⟨by decide +kernel, rfl⟩
theorem iX7_adds_98 : zI cX7_adds 98 (.iload 4) 2 100 := ⟨by decide +kernel, rfl⟩
theorem iX7_adds_97 : zI cX7_adds 97 (.iadd) 1 98 := ⟨by decide +kernel, rfl⟩
theorem iX7_adds_96 : zI cX7_adds 96 (.imul) 1 97 := ⟨by decide +kernel, rfl⟩
theorem iX7_adds_94 : zI cX7_adds 94 (.iload 6) 2 96 := ⟨by decide +kernel, rfl⟩
theorem iX7_adds_93 : zI cX7_adds 93 (.iconst 4) 1 94 := ⟨by decide +kernel, rfl⟩
theorem iX7_adds_91 : zI cX7_adds 91 (.bipush 26) 2 93 := ⟨by decide +kernel, rfl⟩
theorem iX7_adds_88 : zI cX7_adds 88 (.getfield 19) 3 91 := ⟨by decide +kernel, rfl⟩
theorem iX7_adds_87 : zI cX7_adds 87 (.aload_n 0) 1 88 := ⟨by decide +kernel, rfl⟩
theorem iX7_adds_86 : zI cX7_adds 86 (.iastore) 1 87 := ⟨by decide +kernel, rfl⟩
theorem iX7_adds_85 : zI cX7_adds 85 (.iload_n 3) 1 86 := ⟨by decide +kernel, rfl⟩
theorem iX7_adds_84 : zI cX7_adds 84 (.iadd) 1 85 := ⟨by decide +kernel, rfl⟩
theorem iX7_adds_83 : zI cX7_adds 83 (.imul) 1 84 := ⟨by decide +kernel, rfl⟩
theorem iX7_adds_81 : zI cX7_adds 81 (.iload 6) 2 83 := ⟨by decide +kernel, rfl⟩
theorem iX7_adds_80 : zI cX7_adds 80 (.iconst 4) 1 81 := ⟨by decide +kernel, rfl⟩
theorem iX7_adds_78 : zI cX7_adds 78 (.bipush 25) 2 80 := ⟨by decide +kernel, rfl⟩
theorem iX7_adds_75 : zI cX7_adds 75 (.getfield 19) 3 78 := ⟨by decide +kernel, rfl⟩
theorem iX7_adds_74 : zI cX7_adds 74 (.aload_n 0) 1 75 := ⟨by decide +kernel, rfl⟩
theorem iX7_adds_73 : zI cX7_adds 73 (.iastore) 1 74 := ⟨by decide +kernel, rfl⟩
theorem iX7_adds_72 : zI cX7_adds 72 (.iload_n 2) 1 73 := ⟨by decide +kernel, rfl⟩
theorem iX7_adds_71 : zI cX7_adds 71 (.iadd) 1 72 := ⟨by decide +kernel, rfl⟩
theorem iX7_adds_70 : zI cX7_adds 70 (.imul) 1 71 := ⟨by decide +kernel, rfl⟩
theorem iX7_adds_68 : zI cX7_adds 68 (.iload 6) 2 70 := ⟨by decide +kernel, rfl⟩
theorem iX7_adds_67 : zI cX7_adds 67 (.iconst 4) 1 68 := ⟨by decide +kernel, rfl⟩
theorem iX7_adds_65 : zI cX7_adds 65 (.bipush 24) 2 67 := ⟨by decide +kernel, rfl⟩
theorem iX7_adds_62 : zI cX7_adds 62 (.getfield 19) 3 65 := ⟨by decide +kernel, rfl⟩
theorem iX7_adds_61 : zI cX7_adds 61 (.aload_n 0) 1 62 := ⟨by decide +kernel, rfl⟩
theorem iX7_adds_57 : zI cX7_adds 57 (.iconst 2) 1 58 := ⟨by decide +kernel, rfl⟩
theorem iX7_adds_56 : zI cX7_adds 56 (.iload_n 1) 1 57 := ⟨by decide +kernel, rfl⟩
theorem fX7_16 : zFl RX7 16 7 3 := ⟨RX7, TX7, 17, rfl, by decide, (zmem 800 (by decide +kernel) (by decide +kernel)), u_inX7⟩
theorem iX7_adds_53 : zI cX7_adds 53 (.goto 139) 3 56 := ⟨by decide +kernel, rfl⟩
theorem iX7_adds_52 : zI cX7_adds 52 (.iastore) 1 53 := ⟨by decide +kernel, rfl⟩
theorem iX7_adds_51 : zI cX7_adds 51 (.iload_n 3) 1 52 := ⟨by decide +kernel, rfl⟩
theorem iX7_adds_50 : zI cX7_adds 50 (.iadd) 1 51 := ⟨by decide +kernel, rfl⟩
theorem iX7_adds_49 : zI cX7_adds 49 (.imul) 1 50 := ⟨by decide +kernel, rfl⟩
theorem iX7_adds_47 : zI cX7_adds 47 (.iload 6) 2 49 := ⟨by decide +kernel, rfl⟩
theorem iX7_adds_46 : zI cX7_adds 46 (.iconst 2) 1 47 := ⟨by decide +kernel, rfl⟩
theorem iX7_adds_44 : zI cX7_adds 44 (.bipush 19) 2 46 := ⟨by decide +kernel, rfl⟩
theorem iX7_adds_41 : zI cX7_adds 41 (.getfield 16) 3 44 := ⟨by decide +kernel, rfl⟩
theorem iX7_adds_40 : zI cX7_adds 40 (.aload_n 0) 1 41 := ⟨by decide +kernel, rfl⟩
theorem iX7_adds_39 : zI cX7_adds 39 (.iastore) 1 40 := ⟨by decide +kernel, rfl⟩
theorem iX7_adds_38 : zI cX7_adds 38 (.iload_n 2) 1 39 := ⟨by decide +kernel, rfl⟩
theorem iX7_adds_37 : zI cX7_adds 37 (.iadd) 1 38 := ⟨by decide +kernel, rfl⟩
theorem iX7_adds_36 : zI cX7_adds 36 (.imul) 1 37 := ⟨by decide +kernel, rfl⟩
theorem iX7_adds_34 : zI cX7_adds 34 (.iload 6) 2 36 := ⟨by decide +kernel, rfl⟩
theorem iX7_adds_33 : zI cX7_adds 33 (.iconst 2) 1 34 := ⟨by decide +kernel, rfl⟩
theorem iX7_adds_31 : zI cX7_adds 31 (.bipush 18) 2 33 := ⟨by decide +kernel, rfl⟩
theorem iX7_adds_28 : zI cX7_adds 28 (.getfield 16) 3 31 := ⟨by decide +kernel, rfl⟩
theorem iX7_adds_27 : zI cX7_adds 27 (.aload_n 0) 1 28 := ⟨by decide +kernel, rfl⟩
theorem iX7_adds_23 : zI cX7_adds 23 (.iconst 1) 1 24 := ⟨by decide +kernel, rfl⟩
theorem iX7_adds_22 : zI cX7_adds 22 (.iload_n 1) 1 23 := ⟨by decide +kernel, rfl⟩
theorem iX7_adds_21 : zI cX7_adds 21 (.iastore) 1 22 := ⟨by decide +kernel, rfl⟩
theorem iX7_adds_20 : zI cX7_adds 20 (.iadd) 1 21 := ⟨by decide +kernel, rfl⟩
theorem iX7_adds_19 : zI cX7_adds 19 (.iconst 1) 1 20 := ⟨by decide +kernel, rfl⟩
theorem iX7_adds_18 : zI cX7_adds 18 (.iaload) 1 19 := ⟨by decide +kernel, rfl⟩
theorem iX7_adds_17 : zI cX7_adds 17 (.dup2) 1 18 := ⟨by decide +kernel, rfl⟩
theorem iX7_adds_16 : zI cX7_adds 16 (.iadd) 1 17 := ⟨by decide +kernel, rfl⟩
theorem iX7_adds_15 : zI cX7_adds 15 (.iload_n 1) 1 16 := ⟨by decide +kernel, rfl⟩
theorem iX7_adds_14 : zI cX7_adds 14 (.iconst 5) 1 15 := ⟨by decide +kernel, rfl⟩
theorem iX7_adds_11 : zI cX7_adds 11 (.getfield 13) 3 14 := ⟨by decide +kernel, rfl⟩
theorem iX7_adds_10 : zI cX7_adds 10 (.aload_n 0) 1 11 := ⟨by decide +kernel, rfl⟩
theorem iX7_adds_8 : zI cX7_adds 8 (.istore 6) 2 10 := ⟨by decide +kernel, rfl⟩
theorem iX7_adds_7 : zI cX7_adds 7 (.iaload) 1 8 := ⟨by decide +kernel, rfl⟩
theorem iX7_adds_6 : zI cX7_adds 6 (.iadd) 1 7 := ⟨by decide +kernel, rfl⟩
theorem iX7_adds_5 : zI cX7_adds 5 (.iload_n 1) 1 6 := ⟨by decide +kernel, rfl⟩
theorem iX7_adds_4 : zI cX7_adds 4 (.iconst 5) 1 5 := ⟨by decide +kernel, rfl⟩
theorem iX7_adds_1 : zI cX7_adds 1 (.getfield 13) 3 4 := ⟨by decide +kernel, rfl⟩
theorem iX7_adds_0 : zI cX7_adds 0 (.aload_n 0) 1 1 := ⟨by decide +kernel, rfl⟩
set_option maxHeartbeats 4000000 in
set_option maxRecDepth 100000 in
theorem m_Mo_adds (x1 : Int32) (x2 : Int32) (x3 : Int32) (x4 : Int32) (x5 : Int32) (h : zH) : zM yX7_adds cX7_adds 7 none 0 shM (fun ad => [.ref (ad 0), .int x1, .int x2, .int x3, .int x4, .int x5]) h eV (Mo_adds x1 x2 x3 x4 x5 h) := by
  refine zM.of (by decide) (fun _ => rfl) (fun _ => Nat.le_of_ble_eq_true rfl) (fun X ad hnL C => ?_)
  show zG X ad shM eV 0 [some (.ref (ad 0)), some (.int x1), some (.int x2), some (.int x3), some (.int x4), some (.int x5), none] [] h _
  unfold Mo_adds
  refine g_aload_n C iX7_adds_0 rfl ?_
  refine g_getR (b := 2) C fX7_13 iX7_adds_1 mh0 rfl ?_
  refine g_iconst C 5 iX7_adds_4 (by decide) ?_
  refine g_iload_n C iX7_adds_5 rfl ?_
  refine g_iadd C iX7_adds_6 ?_
  refine g_iaload C iX7_adds_7 mh2 ?_
  refine g_top (fun x6 => ?_)
  refine g_istore (lv' := [some (.ref (ad 0)), some (.int x1), some (.int x2), some (.int x3), some (.int x4), some (.int x5), some (.int x6)]) C hnL iX7_adds_8 (by decide) rfl ?_
  refine g_aload_n C iX7_adds_10 rfl ?_
  refine g_getR (b := 2) C fX7_13 iX7_adds_11 mh0 rfl ?_
  refine g_iconst C 5 iX7_adds_14 (by decide) ?_
  refine g_iload_n C iX7_adds_15 rfl ?_
  refine g_iadd C iX7_adds_16 ?_
  refine g_dup2 C iX7_adds_17 rfl rfl ?_
  refine g_iaload C iX7_adds_18 mh2 ?_
  refine g_iconst C 1 iX7_adds_19 (by decide) ?_
  refine g_iadd C iX7_adds_20 ?_
  refine g_iastore C iX7_adds_21 mh2 (fun h_1 => ?_)
  refine g_iload_n C iX7_adds_22 rfl ?_
  refine g_iconst C 1 iX7_adds_23 (by decide) ?_
  refine g_icmp_ne C 56 iX7_adds_24 (by decide) (fun c24 => ?_) (fun c24 => ?_)
  · refine g_aload_n C iX7_adds_27 rfl ?_
    refine g_getR (b := 3) C fX7_16 iX7_adds_28 mh0 rfl ?_
    refine g_bipush C 18 iX7_adds_31 (by decide) ?_
    refine g_iconst C 2 iX7_adds_33 (by decide) ?_
    refine g_iload C iX7_adds_34 rfl ?_
    refine g_imul C iX7_adds_36 ?_
    refine g_iadd C iX7_adds_37 ?_
    refine g_iload_n C iX7_adds_38 rfl ?_
    refine g_iastore C iX7_adds_39 mh3 (fun h_11 => ?_)
    refine g_aload_n C iX7_adds_40 rfl ?_
    refine g_getR (b := 3) C fX7_16 iX7_adds_41 mh0 rfl ?_
    refine g_bipush C 19 iX7_adds_44 (by decide) ?_
    refine g_iconst C 2 iX7_adds_46 (by decide) ?_
    refine g_iload C iX7_adds_47 rfl ?_
    refine g_imul C iX7_adds_49 ?_
    refine g_iadd C iX7_adds_50 ?_
    refine g_iload_n C iX7_adds_51 rfl ?_
    refine g_iastore C iX7_adds_52 mh3 (fun h_12 => ?_)
    refine g_goto C 192 iX7_adds_53 (by decide) ?_
    exact g_vret C iX7_adds_192 rfl
  · refine g_iload_n C iX7_adds_56 rfl ?_
    refine g_iconst C 2 iX7_adds_57 (by decide) ?_
    refine g_icmp_ne C 118 iX7_adds_58 (by decide) (fun c58 => ?_) (fun c58 => ?_)
    · refine g_aload_n C iX7_adds_61 rfl ?_
      refine g_getR (b := 4) C fX7_19 iX7_adds_62 mh0 rfl ?_
      refine g_bipush C 24 iX7_adds_65 (by decide) ?_
      refine g_iconst C 4 iX7_adds_67 (by decide) ?_
      refine g_iload C iX7_adds_68 rfl ?_
      refine g_imul C iX7_adds_70 ?_
      refine g_iadd C iX7_adds_71 ?_
      refine g_iload_n C iX7_adds_72 rfl ?_
      refine g_iastore C iX7_adds_73 mh4 (fun h_7 => ?_)
      refine g_aload_n C iX7_adds_74 rfl ?_
      refine g_getR (b := 4) C fX7_19 iX7_adds_75 mh0 rfl ?_
      refine g_bipush C 25 iX7_adds_78 (by decide) ?_
      refine g_iconst C 4 iX7_adds_80 (by decide) ?_
      refine g_iload C iX7_adds_81 rfl ?_
      refine g_imul C iX7_adds_83 ?_
      refine g_iadd C iX7_adds_84 ?_
      refine g_iload_n C iX7_adds_85 rfl ?_
      refine g_iastore C iX7_adds_86 mh4 (fun h_8 => ?_)
      refine g_aload_n C iX7_adds_87 rfl ?_
      refine g_getR (b := 4) C fX7_19 iX7_adds_88 mh0 rfl ?_
      refine g_bipush C 26 iX7_adds_91 (by decide) ?_
      refine g_iconst C 4 iX7_adds_93 (by decide) ?_
      refine g_iload C iX7_adds_94 rfl ?_
      refine g_imul C iX7_adds_96 ?_
      refine g_iadd C iX7_adds_97 ?_
      refine g_iload C iX7_adds_98 rfl ?_
      refine g_iastore C iX7_adds_100 mh4 (fun h_9 => ?_)
      refine g_aload_n C iX7_adds_101 rfl ?_
      refine g_getR (b := 4) C fX7_19 iX7_adds_102 mh0 rfl ?_
      refine g_bipush C 27 iX7_adds_105 (by decide) ?_
      refine g_iconst C 4 iX7_adds_107 (by decide) ?_
      refine g_iload C iX7_adds_108 rfl ?_
      refine g_imul C iX7_adds_110 ?_
      refine g_iadd C iX7_adds_111 ?_
      refine g_iload C iX7_adds_112 rfl ?_
      refine g_iastore C iX7_adds_114 mh4 (fun h_10 => ?_)
      refine g_goto C 192 iX7_adds_115 (by decide) ?_
      exact g_vret C iX7_adds_192 rfl
    · refine g_iload_n C iX7_adds_118 rfl ?_
      refine g_iconst C 3 iX7_adds_119 (by decide) ?_
      refine g_icmp_ne C 166 iX7_adds_120 (by decide) (fun c120 => ?_) (fun c120 => ?_)
      · refine g_aload_n C iX7_adds_123 rfl ?_
        refine g_getR (b := 5) C fX7_22 iX7_adds_124 mh0 rfl ?_
        refine g_bipush C 27 iX7_adds_127 (by decide) ?_
        refine g_iconst C 3 iX7_adds_129 (by decide) ?_
        refine g_iload C iX7_adds_130 rfl ?_
        refine g_imul C iX7_adds_132 ?_
        refine g_iadd C iX7_adds_133 ?_
        refine g_iload_n C iX7_adds_134 rfl ?_
        refine g_iastore C iX7_adds_135 mh5 (fun h_4 => ?_)
        refine g_aload_n C iX7_adds_136 rfl ?_
        refine g_getR (b := 5) C fX7_22 iX7_adds_137 mh0 rfl ?_
        refine g_bipush C 28 iX7_adds_140 (by decide) ?_
        refine g_iconst C 3 iX7_adds_142 (by decide) ?_
        refine g_iload C iX7_adds_143 rfl ?_
        refine g_imul C iX7_adds_145 ?_
        refine g_iadd C iX7_adds_146 ?_
        refine g_iload_n C iX7_adds_147 rfl ?_
        refine g_iastore C iX7_adds_148 mh5 (fun h_5 => ?_)
        refine g_aload_n C iX7_adds_149 rfl ?_
        refine g_getR (b := 5) C fX7_22 iX7_adds_150 mh0 rfl ?_
        refine g_bipush C 29 iX7_adds_153 (by decide) ?_
        refine g_iconst C 3 iX7_adds_155 (by decide) ?_
        refine g_iload C iX7_adds_156 rfl ?_
        refine g_imul C iX7_adds_158 ?_
        refine g_iadd C iX7_adds_159 ?_
        refine g_iload C iX7_adds_160 rfl ?_
        refine g_iastore C iX7_adds_162 mh5 (fun h_6 => ?_)
        refine g_goto C 192 iX7_adds_163 (by decide) ?_
        exact g_vret C iX7_adds_192 rfl
      · refine g_aload_n C iX7_adds_166 rfl ?_
        refine g_getR (b := 6) C fX7_25 iX7_adds_167 mh0 rfl ?_
        refine g_bipush C 14 iX7_adds_170 (by decide) ?_
        refine g_iconst C 2 iX7_adds_172 (by decide) ?_
        refine g_iload C iX7_adds_173 rfl ?_
        refine g_imul C iX7_adds_175 ?_
        refine g_iadd C iX7_adds_176 ?_
        refine g_iload_n C iX7_adds_177 rfl ?_
        refine g_iastore C iX7_adds_178 mh6 (fun h_2 => ?_)
        refine g_aload_n C iX7_adds_179 rfl ?_
        refine g_getR (b := 6) C fX7_25 iX7_adds_180 mh0 rfl ?_
        refine g_bipush C 15 iX7_adds_183 (by decide) ?_
        refine g_iconst C 2 iX7_adds_185 (by decide) ?_
        refine g_iload C iX7_adds_186 rfl ?_
        refine g_imul C iX7_adds_188 ?_
        refine g_iadd C iX7_adds_189 ?_
        refine g_iload_n C iX7_adds_190 rfl ?_
        refine g_iastore C iX7_adds_191 mh6 (fun h_3 => ?_)
        exact g_vret C iX7_adds_192 rfl

theorem iX7_busesOf_8 : zI cX7_busesOf 8 (.if_icmp .eq 86) 3 11 := ⟨by decide +kernel, rfl⟩
theorem iX7_busesOf_24 : zI cX7_busesOf 24 (.if_icmp .ge 67) 3 27 := ⟨by decide +kernel, rfl⟩
theorem fX7_28 : zFl RX7 28 7 7 := ⟨RX7, TX7, 17, rfl, by decide, (zmem 804 (by decide +kernel) (by decide +kernel)), u_inX7⟩
set_option maxRecDepth 100000 in
theorem wX7_66 : zCs RX7 66 yX7_has cX7_has 2 (some .boolean) 2 := ⟨⟨(zmem 786 (by decide +kernel) (by decide +kernel)), (zmem 76 (by decide +kernel) (by decide +kernel)), (zmem 788 rfl rfl), ⟨by decide, by decide, by decide +kernel⟩, by decide⟩, (zmem 787 (by decide +kernel) (by decide +kernel))⟩
theorem iX7_busesOf_64 : zI cX7_busesOf 64 (.invokestatic 66) 3 67 := ⟨by decide +kernel, rfl⟩
theorem iX7_busesOf_67 : zI cX7_busesOf 67 (.ifCond .eq 15) 3 70 := ⟨by decide +kernel, rfl⟩
theorem iX7_busesOf_88 : zI cX7_busesOf 88 (.goto (-72)) 3 91 := ⟨by decide +kernel, rfl⟩
theorem iX7_busesOf_85 : zI cX7_busesOf 85 (.iinc 4 1) 3 88 := ⟨by decide +kernel, rfl⟩
theorem iX7_busesOf_84 : zI cX7_busesOf 84 (.istore_n 2) 1 85 := ⟨by decide +kernel, rfl⟩
theorem iX7_busesOf_83 : zI cX7_busesOf 83 (.ior) 1 84 := ⟨by decide +kernel, rfl⟩
theorem iX7_busesOf_82 : zI cX7_busesOf 82 (.iconst 0) 1 83 := ⟨by decide +kernel, rfl⟩
theorem iX7_busesOf_74 : zI cX7_busesOf 74 (.ifCond .eq 8) 3 77 := ⟨by decide +kernel, rfl⟩
theorem iX7_busesOf_79 : zI cX7_busesOf 79 (.goto 4) 3 82 := ⟨by decide +kernel, rfl⟩
theorem iX7_busesOf_77 : zI cX7_busesOf 77 (.iload 5) 2 79 := ⟨by decide +kernel, rfl⟩
theorem iX7_busesOf_73 : zI cX7_busesOf 73 (.iand) 1 74 := ⟨by decide +kernel, rfl⟩
theorem iX7_busesOf_71 : zI cX7_busesOf 71 (.iload 5) 2 73 := ⟨by decide +kernel, rfl⟩
theorem iX7_busesOf_70 : zI cX7_busesOf 70 (.iload_n 2) 1 71 := ⟨by decide +kernel, rfl⟩
theorem iX7_busesOf_62 : zI cX7_busesOf 62 (.iload 4) 2 64 := ⟨by decide +kernel, rfl⟩
theorem iX7_busesOf_61 : zI cX7_busesOf 61 (.iaload) 1 62 := ⟨by decide +kernel, rfl⟩
theorem iX7_busesOf_59 : zI cX7_busesOf 59 (.bipush 43) 2 61 := ⟨by decide +kernel, rfl⟩
theorem iX7_busesOf_56 : zI cX7_busesOf 56 (.getfield 28) 3 59 := ⟨by decide +kernel, rfl⟩
theorem iX7_busesOf_55 : zI cX7_busesOf 55 (.aload_n 0) 1 56 := ⟨by decide +kernel, rfl⟩
theorem iX7_busesOf_54 : zI cX7_busesOf 54 (.iload_n 2) 1 55 := ⟨by decide +kernel, rfl⟩
theorem iX7_busesOf_52 : zI cX7_busesOf 52 (.istore 5) 2 54 := ⟨by decide +kernel, rfl⟩
theorem iX7_busesOf_51 : zI cX7_busesOf 51 (.ior) 1 52 := ⟨by decide +kernel, rfl⟩
theorem iX7_busesOf_50 : zI cX7_busesOf 50 (.ishl) 1 51 := ⟨by decide +kernel, rfl⟩
theorem iX7_busesOf_49 : zI cX7_busesOf 49 (.iaload) 1 50 := ⟨by decide +kernel, rfl⟩
theorem iX7_busesOf_48 : zI cX7_busesOf 48 (.iadd) 1 49 := ⟨by decide +kernel, rfl⟩
theorem iX7_busesOf_47 : zI cX7_busesOf 47 (.iconst 1) 1 48 := ⟨by decide +kernel, rfl⟩
theorem iX7_busesOf_46 : zI cX7_busesOf 46 (.imul) 1 47 := ⟨by decide +kernel, rfl⟩
theorem iX7_busesOf_44 : zI cX7_busesOf 44 (.iload 4) 2 46 := ⟨by decide +kernel, rfl⟩
theorem iX7_busesOf_43 : zI cX7_busesOf 43 (.iconst 2) 1 44 := ⟨by decide +kernel, rfl⟩
theorem iX7_busesOf_40 : zI cX7_busesOf 40 (.getfield 16) 3 43 := ⟨by decide +kernel, rfl⟩
theorem iX7_busesOf_39 : zI cX7_busesOf 39 (.aload_n 0) 1 40 := ⟨by decide +kernel, rfl⟩
theorem iX7_busesOf_38 : zI cX7_busesOf 38 (.iconst 1) 1 39 := ⟨by decide +kernel, rfl⟩
theorem iX7_busesOf_37 : zI cX7_busesOf 37 (.ishl) 1 38 := ⟨by decide +kernel, rfl⟩
theorem iX7_busesOf_36 : zI cX7_busesOf 36 (.iaload) 1 37 := ⟨by decide +kernel, rfl⟩
theorem iX7_busesOf_35 : zI cX7_busesOf 35 (.imul) 1 36 := ⟨by decide +kernel, rfl⟩
theorem iX7_busesOf_33 : zI cX7_busesOf 33 (.iload 4) 2 35 := ⟨by decide +kernel, rfl⟩
theorem iX7_busesOf_32 : zI cX7_busesOf 32 (.iconst 2) 1 33 := ⟨by decide +kernel, rfl⟩
theorem iX7_busesOf_29 : zI cX7_busesOf 29 (.getfield 16) 3 32 := ⟨by decide +kernel, rfl⟩
theorem iX7_busesOf_28 : zI cX7_busesOf 28 (.aload_n 0) 1 29 := ⟨by decide +kernel, rfl⟩
theorem iX7_busesOf_27 : zI cX7_busesOf 27 (.iconst 1) 1 28 := ⟨by decide +kernel, rfl⟩
theorem iX7_busesOf_23 : zI cX7_busesOf 23 (.iaload) 1 24 := ⟨by decide +kernel, rfl⟩
theorem iX7_busesOf_22 : zI cX7_busesOf 22 (.iconst 1) 1 23 := ⟨by decide +kernel, rfl⟩
theorem iX7_busesOf_19 : zI cX7_busesOf 19 (.getfield 13) 3 22 := ⟨by decide +kernel, rfl⟩
theorem iX7_busesOf_18 : zI cX7_busesOf 18 (.aload_n 0) 1 19 := ⟨by decide +kernel, rfl⟩
theorem iX7_busesOf_16 : zI cX7_busesOf 16 (.iload 4) 2 18 := ⟨by decide +kernel, rfl⟩
theorem iX7_busesOf_91 : zI cX7_busesOf 91 (.goto (-85)) 3 94 := ⟨by decide +kernel, rfl⟩
theorem iX7_busesOf_14 : zI cX7_busesOf 14 (.istore 4) 2 16 := ⟨by decide +kernel, rfl⟩
theorem iX7_busesOf_13 : zI cX7_busesOf 13 (.iconst 0) 1 14 := ⟨by decide +kernel, rfl⟩
theorem iX7_busesOf_12 : zI cX7_busesOf 12 (.istore_n 3) 1 13 := ⟨by decide +kernel, rfl⟩
theorem iX7_busesOf_11 : zI cX7_busesOf 11 (.iload_n 2) 1 12 := ⟨by decide +kernel, rfl⟩
theorem iX7_busesOf_7 : zI cX7_busesOf 7 (.iload_n 2) 1 8 := ⟨by decide +kernel, rfl⟩
theorem iX7_busesOf_6 : zI cX7_busesOf 6 (.iload_n 3) 1 7 := ⟨by decide +kernel, rfl⟩
theorem iX7_busesOf_95 : zI cX7_busesOf 95 (.ireturn) 1 96 := ⟨by decide +kernel, rfl⟩
theorem iX7_busesOf_94 : zI cX7_busesOf 94 (.iload_n 2) 1 95 := ⟨by decide +kernel, rfl⟩
theorem iX7_busesOf_5 : zI cX7_busesOf 5 (.istore_n 3) 1 6 := ⟨by decide +kernel, rfl⟩
theorem iX7_busesOf_4 : zI cX7_busesOf 4 (.iconst 0) 1 5 := ⟨by decide +kernel, rfl⟩
theorem iX7_busesOf_3 : zI cX7_busesOf 3 (.istore_n 2) 1 4 := ⟨by decide +kernel, rfl⟩
theorem iX7_busesOf_2 : zI cX7_busesOf 2 (.ishl) 1 3 := ⟨by decide +kernel, rfl⟩
theorem iX7_busesOf_1 : zI cX7_busesOf 1 (.iload_n 1) 1 2 := ⟨by decide +kernel, rfl⟩
theorem iX7_busesOf_0 : zI cX7_busesOf 0 (.iconst 1) 1 1 := ⟨by decide +kernel, rfl⟩
set_option maxHeartbeats 4000000 in
set_option maxRecDepth 100000 in
theorem m_Mo_busesOf (x1 : Int32) (h : zH) : zM yX7_busesOf cX7_busesOf 6 (some .int) 1 shM (fun ad => [.ref (ad 0), .int x1]) h (eP h) (Mo_busesOf x1 h) := by
  refine zM.of (by decide) (fun _ => rfl) (fun _ => Nat.le_of_ble_eq_true rfl) (fun X ad hnL C => ?_)
  show zG X ad shM (eP h) 0 [some (.ref (ad 0)), some (.int x1), none, none, none, none] [] h _
  unfold Mo_busesOf
  refine g_iconst C 1 iX7_busesOf_0 (by decide) ?_
  refine g_iload_n C iX7_busesOf_1 rfl ?_
  refine g_ishl C iX7_busesOf_2 ?_
  refine g_top (fun x2 => ?_)
  refine g_istore_n (lv' := [some (.ref (ad 0)), some (.int x1), some (.int x2), none, none, none]) C hnL iX7_busesOf_3 (by decide) rfl ?_
  refine g_iconst C 0 iX7_busesOf_4 (by decide) ?_
  refine g_istore_n (lv' := [some (.ref (ad 0)), some (.int x1), some (.int x2), some (.int 0), none, none]) C hnL iX7_busesOf_5 (by decide) rfl ?_
  have L6 : ∀ (k94 : Int32 → Option (Int32)), (∀ (y2 : Int32), zG X ad shM (eP h) 94 [none, none, some (.int y2), none, none, none] [] h (k94 y2)) → ∀ (n : Nat) (x2_1 x3 : Int32), zG X ad shM (eP h) 6 [some (.ref (ad 0)), none, some (.int x2_1), some (.int x3), none, none] [] h (Mo_busesOf_L6 h k94 n x2_1 x3) := by
    intro k94 hk94 n
    induction n with
    | zero =>
      intro x2_1 x3
      exact g_none
    | succ n ih6 =>
      intro x2_1 x3
      rw [Mo_busesOf_L6]
      refine g_iload_n C iX7_busesOf_6 rfl ?_
      refine g_iload_n C iX7_busesOf_7 rfl ?_
      refine g_icmp_eq C 94 iX7_busesOf_8 (by decide) (fun c8 => ?_) (fun c8 => ?_)
      · refine g_sub (lv' := [none, none, some (.int x2_1), none, none, none]) ⟨rfl, trivial⟩ ?_
        exact hk94 _
      · refine g_iload_n C iX7_busesOf_11 rfl ?_
        refine g_istore_n (lv' := [some (.ref (ad 0)), none, some (.int x2_1), some (.int x2_1), none, none]) C hnL iX7_busesOf_12 (by decide) rfl ?_
        refine g_iconst C 0 iX7_busesOf_13 (by decide) ?_
        refine g_istore (lv' := [some (.ref (ad 0)), none, some (.int x2_1), some (.int x2_1), some (.int 0), none]) C hnL iX7_busesOf_14 (by decide) rfl ?_
        have L16 : ∀ (k91 : Int32 → Option (Int32)), (∀ (y2 : Int32), zG X ad shM (eP h) 91 [some (.ref (ad 0)), none, some (.int y2), some (.int x2_1), none, none] [] h (k91 y2)) → ∀ (n_1 : Nat) (x2_2 x4 : Int32), zG X ad shM (eP h) 16 [some (.ref (ad 0)), none, some (.int x2_2), some (.int x2_1), some (.int x4), none] [] h (Mo_busesOf_L16 h k91 n_1 x2_2 x4) := by
          intro k91 hk91 n_1
          induction n_1 with
          | zero =>
            intro x2_2 x4
            exact g_none
          | succ n_1 ih16 =>
            intro x2_2 x4
            rw [Mo_busesOf_L16]
            refine g_iload C iX7_busesOf_16 rfl ?_
            refine g_aload_n C iX7_busesOf_18 rfl ?_
            refine g_getR (b := 2) C fX7_13 iX7_busesOf_19 mh0 rfl ?_
            refine g_iconst C 1 iX7_busesOf_22 (by decide) ?_
            refine g_ialoadL C 1 iX7_busesOf_23 mh2 (by decide) (by decide) ?_
            refine g_icmp_ge C 91 iX7_busesOf_24 (by decide) (fun c24 => ?_) (fun c24 => ?_)
            · refine g_sub (lv' := [some (.ref (ad 0)), none, some (.int x2_2), some (.int x2_1), none, none]) ⟨rfl, ⟨rfl, ⟨rfl, trivial⟩⟩⟩ ?_
              exact hk91 _
            · refine g_iconst C 1 iX7_busesOf_27 (by decide) ?_
              refine g_aload_n C iX7_busesOf_28 rfl ?_
              refine g_getR (b := 3) C fX7_16 iX7_busesOf_29 mh0 rfl ?_
              refine g_iconst C 2 iX7_busesOf_32 (by decide) ?_
              refine g_iload C iX7_busesOf_33 rfl ?_
              refine g_imul C iX7_busesOf_35 ?_
              refine g_iaload C iX7_busesOf_36 mh3 ?_
              refine g_ishl C iX7_busesOf_37 ?_
              refine g_iconst C 1 iX7_busesOf_38 (by decide) ?_
              refine g_aload_n C iX7_busesOf_39 rfl ?_
              refine g_getR (b := 3) C fX7_16 iX7_busesOf_40 mh0 rfl ?_
              refine g_iconst C 2 iX7_busesOf_43 (by decide) ?_
              refine g_iload C iX7_busesOf_44 rfl ?_
              refine g_imul C iX7_busesOf_46 ?_
              refine g_iconst C 1 iX7_busesOf_47 (by decide) ?_
              refine g_iadd C iX7_busesOf_48 ?_
              refine g_iaload C iX7_busesOf_49 mh3 ?_
              refine g_ishl C iX7_busesOf_50 ?_
              refine g_ior C iX7_busesOf_51 ?_
              refine g_top (fun x5 => ?_)
              refine g_istore (lv' := [some (.ref (ad 0)), none, some (.int x2_2), some (.int x2_1), some (.int x4), some (.int x5)]) C hnL iX7_busesOf_52 (by decide) rfl ?_
              refine g_iload_n C iX7_busesOf_54 rfl ?_
              refine g_aload_n C iX7_busesOf_55 rfl ?_
              refine g_getR (b := 7) C fX7_28 iX7_busesOf_56 mh0 rfl ?_
              refine g_bipush C 43 iX7_busesOf_59 (by decide) ?_
              refine g_ialoadL C 43 iX7_busesOf_61 mh7 (by decide) (by decide) ?_
              refine g_iload C iX7_busesOf_62 rfl ?_
              refine g_callS C wX7_66 iX7_busesOf_64 (m_Mo_has (h 7 43) x4 h) (by decide) rfl rfl rfl (Nat.le_of_ble_eq_true rfl) (fun r => ?_)
              show zG X ad shM (eP h) 67 [some (.ref (ad 0)), none, some (.int x2_2), some (.int x2_1), some (.int x4), some (.int x5)] [.int r, .int x2_2] h _
              refine g_if_eq C 82 iX7_busesOf_67 (by decide) (fun c67 => ?_) (fun c67 => ?_)
              · refine g_iconst C 0 iX7_busesOf_82 (by decide) ?_
                refine g_ior C iX7_busesOf_83 ?_
                refine g_top (fun x2_3 => ?_)
                refine g_istore_n (lv' := [some (.ref (ad 0)), none, some (.int x2_3), some (.int x2_1), some (.int x4), some (.int x5)]) C hnL iX7_busesOf_84 (by decide) rfl ?_
                refine g_iinc (v := (x4 + 1)) (lv' := [some (.ref (ad 0)), none, some (.int x2_3), some (.int x2_1), some (.int (x4 + 1)), some (.int x5)]) C hnL iX7_busesOf_85 (by decide) rfl rfl rfl ?_
                refine g_goto C 16 iX7_busesOf_88 (by decide) ?_
                refine g_sub (lv' := [some (.ref (ad 0)), none, some (.int x2_3), some (.int x2_1), some (.int (x4 + 1)), none]) ⟨rfl, ⟨rfl, ⟨rfl, ⟨rfl, trivial⟩⟩⟩⟩ ?_
                exact ih16 _ _
              · refine g_iload_n C iX7_busesOf_70 rfl ?_
                refine g_iload C iX7_busesOf_71 rfl ?_
                refine g_iand C iX7_busesOf_73 ?_
                refine g_if_eq C 82 iX7_busesOf_74 (by decide) (fun c74 => ?_) (fun c74 => ?_)
                · refine g_iconst C 0 iX7_busesOf_82 (by decide) ?_
                  refine g_ior C iX7_busesOf_83 ?_
                  refine g_top (fun x2_4 => ?_)
                  refine g_istore_n (lv' := [some (.ref (ad 0)), none, some (.int x2_4), some (.int x2_1), some (.int x4), some (.int x5)]) C hnL iX7_busesOf_84 (by decide) rfl ?_
                  refine g_iinc (v := (x4 + 1)) (lv' := [some (.ref (ad 0)), none, some (.int x2_4), some (.int x2_1), some (.int (x4 + 1)), some (.int x5)]) C hnL iX7_busesOf_85 (by decide) rfl rfl rfl ?_
                  refine g_goto C 16 iX7_busesOf_88 (by decide) ?_
                  refine g_sub (lv' := [some (.ref (ad 0)), none, some (.int x2_4), some (.int x2_1), some (.int (x4 + 1)), none]) ⟨rfl, ⟨rfl, ⟨rfl, ⟨rfl, trivial⟩⟩⟩⟩ ?_
                  exact ih16 _ _
                · refine g_iload C iX7_busesOf_77 rfl ?_
                  refine g_goto C 83 iX7_busesOf_79 (by decide) ?_
                  refine g_ior C iX7_busesOf_83 ?_
                  refine g_top (fun x2_5 => ?_)
                  refine g_istore_n (lv' := [some (.ref (ad 0)), none, some (.int x2_5), some (.int x2_1), some (.int x4), some (.int x5)]) C hnL iX7_busesOf_84 (by decide) rfl ?_
                  refine g_iinc (v := (x4 + 1)) (lv' := [some (.ref (ad 0)), none, some (.int x2_5), some (.int x2_1), some (.int (x4 + 1)), some (.int x5)]) C hnL iX7_busesOf_85 (by decide) rfl rfl rfl ?_
                  refine g_goto C 16 iX7_busesOf_88 (by decide) ?_
                  refine g_sub (lv' := [some (.ref (ad 0)), none, some (.int x2_5), some (.int x2_1), some (.int (x4 + 1)), none]) ⟨rfl, ⟨rfl, ⟨rfl, ⟨rfl, trivial⟩⟩⟩⟩ ?_
                  exact ih16 _ _
        refine L16 _ (fun x2_6 => ?_) 1000 _ _
        show zG X ad shM (eP h) 91 [some (.ref (ad 0)), none, some (.int x2_6), some (.int x2_1), none, none] [] h _
        refine g_goto C 6 iX7_busesOf_91 (by decide) ?_
        exact ih6 _ _
  refine g_sub (lv' := [some (.ref (ad 0)), none, some (.int x2), some (.int 0), none, none]) ⟨rfl, ⟨rfl, ⟨rfl, trivial⟩⟩⟩ ?_
  refine L6 _ (fun x2_7 => ?_) 1000 _ _
  show zG X ad shM (eP h) 94 [none, none, some (.int x2_7), none, none, none] [] h _
  refine g_iload_n C iX7_busesOf_94 rfl ?_
  exact g_iret C iX7_busesOf_95 rfl

set_option maxRecDepth 100000 in
theorem wX7_51 : zCv RX7 51 yX7_busesOf cX7_busesOf 6 (some .int) 1 := ⟨⟨(zmem 782 (by decide +kernel) (by decide +kernel)), (zmem 76 (by decide +kernel) (by decide +kernel)), (zmem 785 rfl rfl), ⟨by decide, by decide, by decide +kernel⟩, by decide⟩, (zmem 784 (by decide +kernel) (by decide +kernel)), (zmem 23 (by decide +kernel) (by decide +kernel))⟩
theorem iX7_isLowest_2 : zI cX7_isLowest 2 (.invokevirtual 51) 3 5 := ⟨by decide +kernel, rfl⟩
theorem iX7_isLowest_11 : zI cX7_isLowest 11 (.ifCond .ne 7) 3 14 := ⟨by decide +kernel, rfl⟩
theorem iX7_isLowest_19 : zI cX7_isLowest 19 (.ireturn) 1 20 := ⟨by decide +kernel, rfl⟩
theorem iX7_isLowest_18 : zI cX7_isLowest 18 (.iconst 0) 1 19 := ⟨by decide +kernel, rfl⟩
theorem iX7_isLowest_15 : zI cX7_isLowest 15 (.goto 4) 3 18 := ⟨by decide +kernel, rfl⟩
theorem iX7_isLowest_14 : zI cX7_isLowest 14 (.iconst 1) 1 15 := ⟨by decide +kernel, rfl⟩
theorem iX7_isLowest_10 : zI cX7_isLowest 10 (.iand) 1 11 := ⟨by decide +kernel, rfl⟩
theorem iX7_isLowest_9 : zI cX7_isLowest 9 (.isub) 1 10 := ⟨by decide +kernel, rfl⟩
theorem iX7_isLowest_8 : zI cX7_isLowest 8 (.iconst 1) 1 9 := ⟨by decide +kernel, rfl⟩
theorem iX7_isLowest_7 : zI cX7_isLowest 7 (.ishl) 1 8 := ⟨by decide +kernel, rfl⟩
theorem iX7_isLowest_6 : zI cX7_isLowest 6 (.iload_n 1) 1 7 := ⟨by decide +kernel, rfl⟩
theorem iX7_isLowest_5 : zI cX7_isLowest 5 (.iconst 1) 1 6 := ⟨by decide +kernel, rfl⟩
theorem iX7_isLowest_1 : zI cX7_isLowest 1 (.iload_n 1) 1 2 := ⟨by decide +kernel, rfl⟩
theorem iX7_isLowest_0 : zI cX7_isLowest 0 (.aload_n 0) 1 1 := ⟨by decide +kernel, rfl⟩
set_option maxHeartbeats 4000000 in
set_option maxRecDepth 100000 in
theorem m_Mo_isLowest (x1 : Int32) (h : zH) : zM yX7_isLowest cX7_isLowest 2 (some .boolean) 2 shM (fun ad => [.ref (ad 0), .int x1]) h (eP h) (Mo_isLowest x1 h) := by
  refine zM.of (by decide) (fun _ => rfl) (fun _ => Nat.le_of_ble_eq_true rfl) (fun X ad hnL C => ?_)
  show zG X ad shM (eP h) 0 [some (.ref (ad 0)), some (.int x1)] [] h _
  unfold Mo_isLowest
  refine g_aload_n C iX7_isLowest_0 rfl ?_
  refine g_iload_n C iX7_isLowest_1 rfl ?_
  refine g_callV C wX7_51 iX7_isLowest_2 (m_Mo_busesOf x1 h) (by decide) mh0 rfl rfl rfl rfl (Nat.le_of_ble_eq_true rfl) (fun r => ?_)
  show zG X ad shM (eP h) 5 [some (.ref (ad 0)), some (.int x1)] [.int r] h _
  refine g_iconst C 1 iX7_isLowest_5 (by decide) ?_
  refine g_iload_n C iX7_isLowest_6 rfl ?_
  refine g_ishl C iX7_isLowest_7 ?_
  refine g_iconst C 1 iX7_isLowest_8 (by decide) ?_
  refine g_isub C iX7_isLowest_9 ?_
  refine g_iand C iX7_isLowest_10 ?_
  refine g_if_ne C 18 iX7_isLowest_11 (by decide) (fun c11 => ?_) (fun c11 => ?_)
  · refine g_iconst C 1 iX7_isLowest_14 (by decide) ?_
    refine g_goto C 19 iX7_isLowest_15 (by decide) ?_
    exact g_zret C iX7_isLowest_19 rfl rfl
  · refine g_iconst C 0 iX7_isLowest_18 (by decide) ?_
    exact g_zret C iX7_isLowest_19 rfl rfl

theorem iX7_load_11 : zI cX7_load 11 (.if_icmp .ge 55) 3 14 := ⟨by decide +kernel, rfl⟩
theorem iX7_load_24 : zI cX7_load 24 (.invokestatic 66) 3 27 := ⟨by decide +kernel, rfl⟩
theorem iX7_load_27 : zI cX7_load 27 (.ifCond .eq 30) 3 30 := ⟨by decide +kernel, rfl⟩
theorem iX7_load_63 : zI cX7_load 63 (.goto (-59)) 3 66 := ⟨by decide +kernel, rfl⟩
theorem iX7_load_60 : zI cX7_load 60 (.iinc 3 1) 3 63 := ⟨by decide +kernel, rfl⟩
theorem iX7_load_59 : zI cX7_load 59 (.istore_n 2) 1 60 := ⟨by decide +kernel, rfl⟩
theorem iX7_load_58 : zI cX7_load 58 (.iadd) 1 59 := ⟨by decide +kernel, rfl⟩
theorem iX7_load_57 : zI cX7_load 57 (.iconst 0) 1 58 := ⟨by decide +kernel, rfl⟩
theorem iX7_load_38 : zI cX7_load 38 (.invokestatic 66) 3 41 := ⟨by decide +kernel, rfl⟩
theorem iX7_load_41 : zI cX7_load 41 (.ifCond .eq 16) 3 44 := ⟨by decide +kernel, rfl⟩
theorem iX7_load_54 : zI cX7_load 54 (.goto 4) 3 57 := ⟨by decide +kernel, rfl⟩
theorem iX7_load_53 : zI cX7_load 53 (.iaload) 1 54 := ⟨by decide +kernel, rfl⟩
theorem iX7_load_52 : zI cX7_load 52 (.iadd) 1 53 := ⟨by decide +kernel, rfl⟩
theorem iX7_load_51 : zI cX7_load 51 (.iconst 1) 1 52 := ⟨by decide +kernel, rfl⟩
theorem iX7_load_50 : zI cX7_load 50 (.imul) 1 51 := ⟨by decide +kernel, rfl⟩
theorem iX7_load_49 : zI cX7_load 49 (.iload_n 3) 1 50 := ⟨by decide +kernel, rfl⟩
theorem iX7_load_48 : zI cX7_load 48 (.iconst 3) 1 49 := ⟨by decide +kernel, rfl⟩
theorem iX7_load_45 : zI cX7_load 45 (.getfield 22) 3 48 := ⟨by decide +kernel, rfl⟩
theorem iX7_load_44 : zI cX7_load 44 (.aload_n 0) 1 45 := ⟨by decide +kernel, rfl⟩
theorem iX7_load_37 : zI cX7_load 37 (.iload_n 3) 1 38 := ⟨by decide +kernel, rfl⟩
theorem iX7_load_36 : zI cX7_load 36 (.iaload) 1 37 := ⟨by decide +kernel, rfl⟩
theorem iX7_load_34 : zI cX7_load 34 (.bipush 42) 2 36 := ⟨by decide +kernel, rfl⟩
theorem iX7_load_31 : zI cX7_load 31 (.getfield 28) 3 34 := ⟨by decide +kernel, rfl⟩
theorem iX7_load_30 : zI cX7_load 30 (.aload_n 0) 1 31 := ⟨by decide +kernel, rfl⟩
theorem iX7_load_23 : zI cX7_load 23 (.iaload) 1 24 := ⟨by decide +kernel, rfl⟩
theorem iX7_load_22 : zI cX7_load 22 (.imul) 1 23 := ⟨by decide +kernel, rfl⟩
theorem iX7_load_21 : zI cX7_load 21 (.iload_n 3) 1 22 := ⟨by decide +kernel, rfl⟩
theorem iX7_load_20 : zI cX7_load 20 (.iconst 3) 1 21 := ⟨by decide +kernel, rfl⟩
theorem iX7_load_17 : zI cX7_load 17 (.getfield 22) 3 20 := ⟨by decide +kernel, rfl⟩
theorem iX7_load_16 : zI cX7_load 16 (.aload_n 0) 1 17 := ⟨by decide +kernel, rfl⟩
theorem iX7_load_15 : zI cX7_load 15 (.iload_n 1) 1 16 := ⟨by decide +kernel, rfl⟩
theorem iX7_load_14 : zI cX7_load 14 (.iload_n 2) 1 15 := ⟨by decide +kernel, rfl⟩
theorem iX7_load_10 : zI cX7_load 10 (.iaload) 1 11 := ⟨by decide +kernel, rfl⟩
theorem iX7_load_9 : zI cX7_load 9 (.iconst 3) 1 10 := ⟨by decide +kernel, rfl⟩
theorem iX7_load_6 : zI cX7_load 6 (.getfield 13) 3 9 := ⟨by decide +kernel, rfl⟩
theorem iX7_load_5 : zI cX7_load 5 (.aload_n 0) 1 6 := ⟨by decide +kernel, rfl⟩
theorem iX7_load_4 : zI cX7_load 4 (.iload_n 3) 1 5 := ⟨by decide +kernel, rfl⟩
theorem iX7_load_67 : zI cX7_load 67 (.ireturn) 1 68 := ⟨by decide +kernel, rfl⟩
theorem iX7_load_66 : zI cX7_load 66 (.iload_n 2) 1 67 := ⟨by decide +kernel, rfl⟩
theorem iX7_load_3 : zI cX7_load 3 (.istore_n 3) 1 4 := ⟨by decide +kernel, rfl⟩
theorem iX7_load_2 : zI cX7_load 2 (.iconst 0) 1 3 := ⟨by decide +kernel, rfl⟩
theorem iX7_load_1 : zI cX7_load 1 (.istore_n 2) 1 2 := ⟨by decide +kernel, rfl⟩
theorem iX7_load_0 : zI cX7_load 0 (.iconst 0) 1 1 := ⟨by decide +kernel, rfl⟩
set_option maxHeartbeats 4000000 in
set_option maxRecDepth 100000 in
theorem m_Mo_load (x1 : Int32) (h : zH) : zM yX7_load cX7_load 4 (some .int) 1 shM (fun ad => [.ref (ad 0), .int x1]) h (eP h) (Mo_load x1 h) := by
  refine zM.of (by decide) (fun _ => rfl) (fun _ => Nat.le_of_ble_eq_true rfl) (fun X ad hnL C => ?_)
  show zG X ad shM (eP h) 0 [some (.ref (ad 0)), some (.int x1), none, none] [] h _
  unfold Mo_load
  refine g_iconst C 0 iX7_load_0 (by decide) ?_
  refine g_istore_n (lv' := [some (.ref (ad 0)), some (.int x1), some (.int 0), none]) C hnL iX7_load_1 (by decide) rfl ?_
  refine g_iconst C 0 iX7_load_2 (by decide) ?_
  refine g_istore_n (lv' := [some (.ref (ad 0)), some (.int x1), some (.int 0), some (.int 0)]) C hnL iX7_load_3 (by decide) rfl ?_
  have L4 : ∀ (k66 : Int32 → Option (Int32)), (∀ (y2 : Int32), zG X ad shM (eP h) 66 [none, none, some (.int y2), none] [] h (k66 y2)) → ∀ (n : Nat) (x2 x3 : Int32), zG X ad shM (eP h) 4 [some (.ref (ad 0)), some (.int x1), some (.int x2), some (.int x3)] [] h (Mo_load_L4 x1 h k66 n x2 x3) := by
    intro k66 hk66 n
    induction n with
    | zero =>
      intro x2 x3
      exact g_none
    | succ n ih4 =>
      intro x2 x3
      rw [Mo_load_L4]
      refine g_iload_n C iX7_load_4 rfl ?_
      refine g_aload_n C iX7_load_5 rfl ?_
      refine g_getR (b := 2) C fX7_13 iX7_load_6 mh0 rfl ?_
      refine g_iconst C 3 iX7_load_9 (by decide) ?_
      refine g_ialoadL C 3 iX7_load_10 mh2 (by decide) (by decide) ?_
      refine g_icmp_ge C 66 iX7_load_11 (by decide) (fun c11 => ?_) (fun c11 => ?_)
      · refine g_sub (lv' := [none, none, some (.int x2), none]) ⟨rfl, trivial⟩ ?_
        exact hk66 _
      · refine g_iload_n C iX7_load_14 rfl ?_
        refine g_iload_n C iX7_load_15 rfl ?_
        refine g_aload_n C iX7_load_16 rfl ?_
        refine g_getR (b := 5) C fX7_22 iX7_load_17 mh0 rfl ?_
        refine g_iconst C 3 iX7_load_20 (by decide) ?_
        refine g_iload_n C iX7_load_21 rfl ?_
        refine g_imul C iX7_load_22 ?_
        refine g_iaload C iX7_load_23 mh5 ?_
        refine g_callS C wX7_66 iX7_load_24 (m_Mo_has x1 (h 5 (3 * x3).toNatClampNeg) h) (by decide) rfl rfl rfl (Nat.le_of_ble_eq_true rfl) (fun r => ?_)
        show zG X ad shM (eP h) 27 [some (.ref (ad 0)), some (.int x1), some (.int x2), some (.int x3)] [.int r, .int x2] h _
        refine g_if_eq C 57 iX7_load_27 (by decide) (fun c27 => ?_) (fun c27 => ?_)
        · refine g_iconst C 0 iX7_load_57 (by decide) ?_
          refine g_iadd C iX7_load_58 ?_
          refine g_top (fun x2_1 => ?_)
          refine g_istore_n (lv' := [some (.ref (ad 0)), some (.int x1), some (.int x2_1), some (.int x3)]) C hnL iX7_load_59 (by decide) rfl ?_
          refine g_iinc (v := (x3 + 1)) (lv' := [some (.ref (ad 0)), some (.int x1), some (.int x2_1), some (.int (x3 + 1))]) C hnL iX7_load_60 (by decide) rfl rfl rfl ?_
          refine g_goto C 4 iX7_load_63 (by decide) ?_
          exact ih4 _ _
        · refine g_aload_n C iX7_load_30 rfl ?_
          refine g_getR (b := 7) C fX7_28 iX7_load_31 mh0 rfl ?_
          refine g_bipush C 42 iX7_load_34 (by decide) ?_
          refine g_ialoadL C 42 iX7_load_36 mh7 (by decide) (by decide) ?_
          refine g_iload_n C iX7_load_37 rfl ?_
          refine g_callS C wX7_66 iX7_load_38 (m_Mo_has (h 7 42) x3 h) (by decide) rfl rfl rfl (Nat.le_of_ble_eq_true rfl) (fun r_1 => ?_)
          show zG X ad shM (eP h) 41 [some (.ref (ad 0)), some (.int x1), some (.int x2), some (.int x3)] [.int r_1, .int x2] h _
          refine g_if_eq C 57 iX7_load_41 (by decide) (fun c41 => ?_) (fun c41 => ?_)
          · refine g_iconst C 0 iX7_load_57 (by decide) ?_
            refine g_iadd C iX7_load_58 ?_
            refine g_top (fun x2_2 => ?_)
            refine g_istore_n (lv' := [some (.ref (ad 0)), some (.int x1), some (.int x2_2), some (.int x3)]) C hnL iX7_load_59 (by decide) rfl ?_
            refine g_iinc (v := (x3 + 1)) (lv' := [some (.ref (ad 0)), some (.int x1), some (.int x2_2), some (.int (x3 + 1))]) C hnL iX7_load_60 (by decide) rfl rfl rfl ?_
            refine g_goto C 4 iX7_load_63 (by decide) ?_
            exact ih4 _ _
          · refine g_aload_n C iX7_load_44 rfl ?_
            refine g_getR (b := 5) C fX7_22 iX7_load_45 mh0 rfl ?_
            refine g_iconst C 3 iX7_load_48 (by decide) ?_
            refine g_iload_n C iX7_load_49 rfl ?_
            refine g_imul C iX7_load_50 ?_
            refine g_iconst C 1 iX7_load_51 (by decide) ?_
            refine g_iadd C iX7_load_52 ?_
            refine g_iaload C iX7_load_53 mh5 ?_
            refine g_goto C 58 iX7_load_54 (by decide) ?_
            refine g_iadd C iX7_load_58 ?_
            refine g_top (fun x2_3 => ?_)
            refine g_istore_n (lv' := [some (.ref (ad 0)), some (.int x1), some (.int x2_3), some (.int x3)]) C hnL iX7_load_59 (by decide) rfl ?_
            refine g_iinc (v := (x3 + 1)) (lv' := [some (.ref (ad 0)), some (.int x1), some (.int x2_3), some (.int (x3 + 1))]) C hnL iX7_load_60 (by decide) rfl rfl rfl ?_
            refine g_goto C 4 iX7_load_63 (by decide) ?_
            exact ih4 _ _
  refine L4 _ (fun x2_4 => ?_) 1000 _ _
  show zG X ad shM (eP h) 66 [none, none, some (.int x2_4), none] [] h _
  refine g_iload_n C iX7_load_66 rfl ?_
  exact g_iret C iX7_load_67 rfl

set_option maxRecDepth 100000 in
theorem wX7_63 : zCv RX7 63 yX7_load cX7_load 4 (some .int) 1 := ⟨⟨(zmem 793 (by decide +kernel) (by decide +kernel)), (zmem 76 (by decide +kernel) (by decide +kernel)), (zmem 796 rfl rfl), ⟨by decide, by decide, by decide +kernel⟩, by decide⟩, (zmem 795 (by decide +kernel) (by decide +kernel)), (zmem 25 (by decide +kernel) (by decide +kernel))⟩
theorem iX7_begins_2 : zI cX7_begins 2 (.invokevirtual 63) 3 5 := ⟨by decide +kernel, rfl⟩
theorem iX7_begins_15 : zI cX7_begins 15 (.if_icmp .ge 69) 3 18 := ⟨by decide +kernel, rfl⟩
theorem iX7_begins_27 : zI cX7_begins 27 (.invokestatic 66) 3 30 := ⟨by decide +kernel, rfl⟩
theorem iX7_begins_30 : zI cX7_begins 30 (.ifCond .eq 48) 3 33 := ⟨by decide +kernel, rfl⟩
theorem iX7_begins_81 : zI cX7_begins 81 (.goto (-73)) 3 84 := ⟨by decide +kernel, rfl⟩
theorem iX7_begins_78 : zI cX7_begins 78 (.iinc 3 1) 3 81 := ⟨by decide +kernel, rfl⟩
theorem iX7_begins_77 : zI cX7_begins 77 (.istore_n 2) 1 78 := ⟨by decide +kernel, rfl⟩
theorem iX7_begins_76 : zI cX7_begins 76 (.isub) 1 77 := ⟨by decide +kernel, rfl⟩
theorem iX7_begins_75 : zI cX7_begins 75 (.iaload) 1 76 := ⟨by decide +kernel, rfl⟩
theorem iX7_begins_74 : zI cX7_begins 74 (.iadd) 1 75 := ⟨by decide +kernel, rfl⟩
theorem iX7_begins_73 : zI cX7_begins 73 (.iload_n 3) 1 74 := ⟨by decide +kernel, rfl⟩
theorem iX7_begins_71 : zI cX7_begins 71 (.bipush 44) 2 73 := ⟨by decide +kernel, rfl⟩
theorem iX7_begins_68 : zI cX7_begins 68 (.getfield 28) 3 71 := ⟨by decide +kernel, rfl⟩
theorem iX7_begins_67 : zI cX7_begins 67 (.aload_n 0) 1 68 := ⟨by decide +kernel, rfl⟩
theorem iX7_begins_66 : zI cX7_begins 66 (.iload_n 2) 1 67 := ⟨by decide +kernel, rfl⟩
theorem iX7_begins_65 : zI cX7_begins 65 (.iastore) 1 66 := ⟨by decide +kernel, rfl⟩
theorem iX7_begins_56 : zI cX7_begins 56 (.if_icmp .ge 7) 3 59 := ⟨by decide +kernel, rfl⟩
theorem iX7_begins_63 : zI cX7_begins 63 (.iload 4) 2 65 := ⟨by decide +kernel, rfl⟩
theorem iX7_begins_60 : zI cX7_begins 60 (.goto 5) 3 63 := ⟨by decide +kernel, rfl⟩
theorem iX7_begins_59 : zI cX7_begins 59 (.iload_n 2) 1 60 := ⟨by decide +kernel, rfl⟩
theorem iX7_begins_54 : zI cX7_begins 54 (.iload 4) 2 56 := ⟨by decide +kernel, rfl⟩
theorem iX7_begins_53 : zI cX7_begins 53 (.iload_n 2) 1 54 := ⟨by decide +kernel, rfl⟩
theorem iX7_begins_52 : zI cX7_begins 52 (.iadd) 1 53 := ⟨by decide +kernel, rfl⟩
theorem iX7_begins_51 : zI cX7_begins 51 (.iload_n 3) 1 52 := ⟨by decide +kernel, rfl⟩
theorem iX7_begins_49 : zI cX7_begins 49 (.bipush 44) 2 51 := ⟨by decide +kernel, rfl⟩
theorem iX7_begins_46 : zI cX7_begins 46 (.getfield 28) 3 49 := ⟨by decide +kernel, rfl⟩
theorem iX7_begins_45 : zI cX7_begins 45 (.aload_n 0) 1 46 := ⟨by decide +kernel, rfl⟩
theorem iX7_begins_43 : zI cX7_begins 43 (.istore 4) 2 45 := ⟨by decide +kernel, rfl⟩
theorem iX7_begins_42 : zI cX7_begins 42 (.iaload) 1 43 := ⟨by decide +kernel, rfl⟩
theorem iX7_begins_41 : zI cX7_begins 41 (.iadd) 1 42 := ⟨by decide +kernel, rfl⟩
theorem iX7_begins_40 : zI cX7_begins 40 (.iconst 1) 1 41 := ⟨by decide +kernel, rfl⟩
theorem iX7_begins_39 : zI cX7_begins 39 (.imul) 1 40 := ⟨by decide +kernel, rfl⟩
theorem iX7_begins_38 : zI cX7_begins 38 (.iload_n 3) 1 39 := ⟨by decide +kernel, rfl⟩
theorem iX7_begins_37 : zI cX7_begins 37 (.iconst 4) 1 38 := ⟨by decide +kernel, rfl⟩
theorem iX7_begins_34 : zI cX7_begins 34 (.getfield 19) 3 37 := ⟨by decide +kernel, rfl⟩
theorem iX7_begins_33 : zI cX7_begins 33 (.aload_n 0) 1 34 := ⟨by decide +kernel, rfl⟩
theorem iX7_begins_26 : zI cX7_begins 26 (.iaload) 1 27 := ⟨by decide +kernel, rfl⟩
theorem iX7_begins_25 : zI cX7_begins 25 (.imul) 1 26 := ⟨by decide +kernel, rfl⟩
theorem iX7_begins_24 : zI cX7_begins 24 (.iload_n 3) 1 25 := ⟨by decide +kernel, rfl⟩
theorem iX7_begins_23 : zI cX7_begins 23 (.iconst 4) 1 24 := ⟨by decide +kernel, rfl⟩
theorem iX7_begins_20 : zI cX7_begins 20 (.getfield 19) 3 23 := ⟨by decide +kernel, rfl⟩
theorem iX7_begins_19 : zI cX7_begins 19 (.aload_n 0) 1 20 := ⟨by decide +kernel, rfl⟩
theorem iX7_begins_18 : zI cX7_begins 18 (.iload_n 1) 1 19 := ⟨by decide +kernel, rfl⟩
theorem iX7_begins_14 : zI cX7_begins 14 (.iaload) 1 15 := ⟨by decide +kernel, rfl⟩
theorem iX7_begins_13 : zI cX7_begins 13 (.iconst 2) 1 14 := ⟨by decide +kernel, rfl⟩
theorem iX7_begins_10 : zI cX7_begins 10 (.getfield 13) 3 13 := ⟨by decide +kernel, rfl⟩
theorem iX7_begins_9 : zI cX7_begins 9 (.aload_n 0) 1 10 := ⟨by decide +kernel, rfl⟩
theorem iX7_begins_8 : zI cX7_begins 8 (.iload_n 3) 1 9 := ⟨by decide +kernel, rfl⟩
theorem iX7_begins_84 : zI cX7_begins 84 (.return_) 1 85 := ⟨by decide +kernel, rfl⟩
theorem iX7_begins_7 : zI cX7_begins 7 (.istore_n 3) 1 8 := ⟨by decide +kernel, rfl⟩
theorem iX7_begins_6 : zI cX7_begins 6 (.iconst 0) 1 7 := ⟨by decide +kernel, rfl⟩
theorem iX7_begins_5 : zI cX7_begins 5 (.istore_n 2) 1 6 := ⟨by decide +kernel, rfl⟩
theorem iX7_begins_1 : zI cX7_begins 1 (.iload_n 1) 1 2 := ⟨by decide +kernel, rfl⟩
theorem iX7_begins_0 : zI cX7_begins 0 (.aload_n 0) 1 1 := ⟨by decide +kernel, rfl⟩
set_option maxHeartbeats 4000000 in
set_option maxRecDepth 100000 in
theorem m_Mo_begins (x1 : Int32) (h : zH) : zM yX7_begins cX7_begins 5 none 2 shM (fun ad => [.ref (ad 0), .int x1]) h eV (Mo_begins x1 h) := by
  refine zM.of (by decide) (fun _ => rfl) (fun _ => Nat.le_of_ble_eq_true rfl) (fun X ad hnL C => ?_)
  show zG X ad shM eV 0 [some (.ref (ad 0)), some (.int x1), none, none, none] [] h _
  unfold Mo_begins
  refine g_aload_n C iX7_begins_0 rfl ?_
  refine g_iload_n C iX7_begins_1 rfl ?_
  refine g_callV C wX7_63 iX7_begins_2 (m_Mo_load x1 h) (by decide) mh0 rfl rfl rfl rfl (Nat.le_of_ble_eq_true rfl) (fun r => ?_)
  show zG X ad shM eV 5 [some (.ref (ad 0)), some (.int x1), none, none, none] [.int r] h _
  refine g_istore_n (lv' := [some (.ref (ad 0)), some (.int x1), some (.int r), none, none]) C hnL iX7_begins_5 (by decide) rfl ?_
  refine g_iconst C 0 iX7_begins_6 (by decide) ?_
  refine g_istore_n (lv' := [some (.ref (ad 0)), some (.int x1), some (.int r), some (.int 0), none]) C hnL iX7_begins_7 (by decide) rfl ?_
  have L8 : ∀ (k84 : zH → Option (zH)), (∀ (hy : zH), zG X ad shM eV 84 [none, none, none, none, none] [] hy (k84 hy)) → ∀ (n : Nat) (x2 x3 : Int32) (h_1 : zH), zG X ad shM eV 8 [some (.ref (ad 0)), some (.int x1), some (.int x2), some (.int x3), none] [] h_1 (Mo_begins_L8 x1 k84 n x2 x3 h_1) := by
    intro k84 hk84 n
    induction n with
    | zero =>
      intro x2 x3 h_1
      exact g_none
    | succ n ih8 =>
      intro x2 x3 h_1
      rw [Mo_begins_L8]
      refine g_iload_n C iX7_begins_8 rfl ?_
      refine g_aload_n C iX7_begins_9 rfl ?_
      refine g_getR (b := 2) C fX7_13 iX7_begins_10 mh0 rfl ?_
      refine g_iconst C 2 iX7_begins_13 (by decide) ?_
      refine g_ialoadL C 2 iX7_begins_14 mh2 (by decide) (by decide) ?_
      refine g_icmp_ge C 84 iX7_begins_15 (by decide) (fun c15 => ?_) (fun c15 => ?_)
      · refine g_sub (lv' := [none, none, none, none, none]) trivial ?_
        exact hk84 _
      · refine g_iload_n C iX7_begins_18 rfl ?_
        refine g_aload_n C iX7_begins_19 rfl ?_
        refine g_getR (b := 4) C fX7_19 iX7_begins_20 mh0 rfl ?_
        refine g_iconst C 4 iX7_begins_23 (by decide) ?_
        refine g_iload_n C iX7_begins_24 rfl ?_
        refine g_imul C iX7_begins_25 ?_
        refine g_iaload C iX7_begins_26 mh4 ?_
        refine g_callS C wX7_66 iX7_begins_27 (m_Mo_has x1 (h_1 4 (4 * x3).toNatClampNeg) h_1) (by decide) rfl rfl rfl (Nat.le_of_ble_eq_true rfl) (fun r_1 => ?_)
        show zG X ad shM eV 30 [some (.ref (ad 0)), some (.int x1), some (.int x2), some (.int x3), none] [.int r_1] h_1 _
        refine g_if_eq C 78 iX7_begins_30 (by decide) (fun c30 => ?_) (fun c30 => ?_)
        · refine g_iinc (v := (x3 + 1)) (lv' := [some (.ref (ad 0)), some (.int x1), some (.int x2), some (.int (x3 + 1)), none]) C hnL iX7_begins_78 (by decide) rfl rfl rfl ?_
          refine g_goto C 8 iX7_begins_81 (by decide) ?_
          exact ih8 _ _ _
        · refine g_aload_n C iX7_begins_33 rfl ?_
          refine g_getR (b := 4) C fX7_19 iX7_begins_34 mh0 rfl ?_
          refine g_iconst C 4 iX7_begins_37 (by decide) ?_
          refine g_iload_n C iX7_begins_38 rfl ?_
          refine g_imul C iX7_begins_39 ?_
          refine g_iconst C 1 iX7_begins_40 (by decide) ?_
          refine g_iadd C iX7_begins_41 ?_
          refine g_iaload C iX7_begins_42 mh4 ?_
          refine g_top (fun x4 => ?_)
          refine g_istore (lv' := [some (.ref (ad 0)), some (.int x1), some (.int x2), some (.int x3), some (.int x4)]) C hnL iX7_begins_43 (by decide) rfl ?_
          refine g_aload_n C iX7_begins_45 rfl ?_
          refine g_getR (b := 7) C fX7_28 iX7_begins_46 mh0 rfl ?_
          refine g_bipush C 44 iX7_begins_49 (by decide) ?_
          refine g_iload_n C iX7_begins_51 rfl ?_
          refine g_iadd C iX7_begins_52 ?_
          refine g_iload_n C iX7_begins_53 rfl ?_
          refine g_iload C iX7_begins_54 rfl ?_
          refine g_let (fun j65 ej65 => ?_)
          have hj65 : ∀ (v65 : Int32), zG X ad shM eV 65 [some (.ref (ad 0)), some (.int x1), some (.int x2), some (.int x3), none] [.int v65, .int (44 + x3), .ref (ad 7)] h_1 (j65 v65) := by
            intro v65
            subst ej65
            refine g_iastore C iX7_begins_65 mh7 (fun h_2 => ?_)
            refine g_iload_n C iX7_begins_66 rfl ?_
            refine g_aload_n C iX7_begins_67 rfl ?_
            refine g_getR (b := 7) C fX7_28 iX7_begins_68 mh0 rfl ?_
            refine g_bipush C 44 iX7_begins_71 (by decide) ?_
            refine g_iload_n C iX7_begins_73 rfl ?_
            refine g_iadd C iX7_begins_74 ?_
            refine g_iaload C iX7_begins_75 mh7 ?_
            refine g_isub C iX7_begins_76 ?_
            refine g_top (fun x2_1 => ?_)
            refine g_istore_n (lv' := [some (.ref (ad 0)), some (.int x1), some (.int x2_1), some (.int x3), none]) C hnL iX7_begins_77 (by decide) rfl ?_
            refine g_iinc (v := (x3 + 1)) (lv' := [some (.ref (ad 0)), some (.int x1), some (.int x2_1), some (.int (x3 + 1)), none]) C hnL iX7_begins_78 (by decide) rfl rfl rfl ?_
            refine g_goto C 8 iX7_begins_81 (by decide) ?_
            exact ih8 _ _ _
          clear ej65
          refine g_icmp_ge C 63 iX7_begins_56 (by decide) (fun c56 => ?_) (fun c56 => ?_)
          · refine g_iload C iX7_begins_63 rfl ?_
            refine g_sub (lv' := [some (.ref (ad 0)), some (.int x1), some (.int x2), some (.int x3), none]) ⟨rfl, ⟨rfl, ⟨rfl, ⟨rfl, trivial⟩⟩⟩⟩ ?_
            exact hj65 _
          · refine g_iload_n C iX7_begins_59 rfl ?_
            refine g_goto C 65 iX7_begins_60 (by decide) ?_
            refine g_sub (lv' := [some (.ref (ad 0)), some (.int x1), some (.int x2), some (.int x3), none]) ⟨rfl, ⟨rfl, ⟨rfl, ⟨rfl, trivial⟩⟩⟩⟩ ?_
            exact hj65 _
  refine L8 _ (fun h_3 => ?_) 1000 _ _ _
  show zG X ad shM eV 84 [none, none, none, none, none] [] h_3 _
  exact g_vret C iX7_begins_84 rfl

theorem iX7_takes_4 : zI cX7_takes 4 (.if_icmp .ge 23) 3 7 := ⟨by decide +kernel, rfl⟩
theorem iX7_takes_24 : zI cX7_takes 24 (.goto (-22)) 3 27 := ⟨by decide +kernel, rfl⟩
theorem iX7_takes_21 : zI cX7_takes 21 (.iinc 1 1) 3 24 := ⟨by decide +kernel, rfl⟩
theorem iX7_takes_20 : zI cX7_takes 20 (.iastore) 1 21 := ⟨by decide +kernel, rfl⟩
theorem iX7_takes_19 : zI cX7_takes 19 (.iaload) 1 20 := ⟨by decide +kernel, rfl⟩
theorem iX7_takes_18 : zI cX7_takes 18 (.iadd) 1 19 := ⟨by decide +kernel, rfl⟩
theorem iX7_takes_17 : zI cX7_takes 17 (.iload_n 1) 1 18 := ⟨by decide +kernel, rfl⟩
theorem iX7_takes_16 : zI cX7_takes 16 (.iconst 5) 1 17 := ⟨by decide +kernel, rfl⟩
theorem iX7_takes_13 : zI cX7_takes 13 (.getfield 13) 3 16 := ⟨by decide +kernel, rfl⟩
theorem iX7_takes_12 : zI cX7_takes 12 (.aload_n 0) 1 13 := ⟨by decide +kernel, rfl⟩
theorem iX7_takes_11 : zI cX7_takes 11 (.iload_n 1) 1 12 := ⟨by decide +kernel, rfl⟩
theorem iX7_takes_8 : zI cX7_takes 8 (.getfield 13) 3 11 := ⟨by decide +kernel, rfl⟩
theorem iX7_takes_7 : zI cX7_takes 7 (.aload_n 0) 1 8 := ⟨by decide +kernel, rfl⟩
theorem iX7_takes_3 : zI cX7_takes 3 (.iconst 5) 1 4 := ⟨by decide +kernel, rfl⟩
theorem iX7_takes_2 : zI cX7_takes 2 (.iload_n 1) 1 3 := ⟨by decide +kernel, rfl⟩
theorem iX7_takes_32 : zI cX7_takes 32 (.if_icmp .ge 87) 3 35 := ⟨by decide +kernel, rfl⟩
theorem iX7_takes_95 : zI cX7_takes 95 (.if_icmp .ge 18) 3 98 := ⟨by decide +kernel, rfl⟩
theorem iX7_takes_116 : zI cX7_takes 116 (.goto (-87)) 3 119 := ⟨by decide +kernel, rfl⟩
theorem iX7_takes_113 : zI cX7_takes 113 (.iinc 1 1) 3 116 := ⟨by decide +kernel, rfl⟩
theorem iX7_takes_112 : zI cX7_takes 112 (.iastore) 1 113 := ⟨by decide +kernel, rfl⟩
theorem iX7_takes_111 : zI cX7_takes 111 (.iaload) 1 112 := ⟨by decide +kernel, rfl⟩
theorem iX7_takes_110 : zI cX7_takes 110 (.iadd) 1 111 := ⟨by decide +kernel, rfl⟩
theorem iX7_takes_109 : zI cX7_takes 109 (.iload_n 1) 1 110 := ⟨by decide +kernel, rfl⟩
theorem iX7_takes_107 : zI cX7_takes 107 (.bipush 12) 2 109 := ⟨by decide +kernel, rfl⟩
theorem iX7_takes_104 : zI cX7_takes 104 (.getfield 25) 3 107 := ⟨by decide +kernel, rfl⟩
theorem iX7_takes_103 : zI cX7_takes 103 (.aload_n 0) 1 104 := ⟨by decide +kernel, rfl⟩
theorem iX7_takes_102 : zI cX7_takes 102 (.iload_n 1) 1 103 := ⟨by decide +kernel, rfl⟩
theorem iX7_takes_99 : zI cX7_takes 99 (.getfield 25) 3 102 := ⟨by decide +kernel, rfl⟩
theorem iX7_takes_98 : zI cX7_takes 98 (.aload_n 0) 1 99 := ⟨by decide +kernel, rfl⟩
theorem iX7_takes_93 : zI cX7_takes 93 (.bipush 12) 2 95 := ⟨by decide +kernel, rfl⟩
theorem iX7_takes_92 : zI cX7_takes 92 (.iload_n 1) 1 93 := ⟨by decide +kernel, rfl⟩
theorem iX7_takes_91 : zI cX7_takes 91 (.iastore) 1 92 := ⟨by decide +kernel, rfl⟩
theorem iX7_takes_90 : zI cX7_takes 90 (.iaload) 1 91 := ⟨by decide +kernel, rfl⟩
theorem iX7_takes_89 : zI cX7_takes 89 (.iadd) 1 90 := ⟨by decide +kernel, rfl⟩
theorem iX7_takes_88 : zI cX7_takes 88 (.iload_n 1) 1 89 := ⟨by decide +kernel, rfl⟩
theorem iX7_takes_86 : zI cX7_takes 86 (.bipush 27) 2 88 := ⟨by decide +kernel, rfl⟩
theorem iX7_takes_83 : zI cX7_takes 83 (.getfield 22) 3 86 := ⟨by decide +kernel, rfl⟩
theorem iX7_takes_82 : zI cX7_takes 82 (.aload_n 0) 1 83 := ⟨by decide +kernel, rfl⟩
theorem iX7_takes_81 : zI cX7_takes 81 (.iload_n 1) 1 82 := ⟨by decide +kernel, rfl⟩
theorem iX7_takes_78 : zI cX7_takes 78 (.getfield 22) 3 81 := ⟨by decide +kernel, rfl⟩
theorem iX7_takes_77 : zI cX7_takes 77 (.aload_n 0) 1 78 := ⟨by decide +kernel, rfl⟩
theorem iX7_takes_59 : zI cX7_takes 59 (.if_icmp .ge 18) 3 62 := ⟨by decide +kernel, rfl⟩
theorem iX7_takes_76 : zI cX7_takes 76 (.iastore) 1 77 := ⟨by decide +kernel, rfl⟩
theorem iX7_takes_75 : zI cX7_takes 75 (.iaload) 1 76 := ⟨by decide +kernel, rfl⟩
theorem iX7_takes_74 : zI cX7_takes 74 (.iadd) 1 75 := ⟨by decide +kernel, rfl⟩
theorem iX7_takes_73 : zI cX7_takes 73 (.iload_n 1) 1 74 := ⟨by decide +kernel, rfl⟩
theorem iX7_takes_71 : zI cX7_takes 71 (.bipush 24) 2 73 := ⟨by decide +kernel, rfl⟩
theorem iX7_takes_68 : zI cX7_takes 68 (.getfield 19) 3 71 := ⟨by decide +kernel, rfl⟩
theorem iX7_takes_67 : zI cX7_takes 67 (.aload_n 0) 1 68 := ⟨by decide +kernel, rfl⟩
theorem iX7_takes_66 : zI cX7_takes 66 (.iload_n 1) 1 67 := ⟨by decide +kernel, rfl⟩
theorem iX7_takes_63 : zI cX7_takes 63 (.getfield 19) 3 66 := ⟨by decide +kernel, rfl⟩
theorem iX7_takes_62 : zI cX7_takes 62 (.aload_n 0) 1 63 := ⟨by decide +kernel, rfl⟩
theorem iX7_takes_57 : zI cX7_takes 57 (.bipush 24) 2 59 := ⟨by decide +kernel, rfl⟩
theorem iX7_takes_56 : zI cX7_takes 56 (.iload_n 1) 1 57 := ⟨by decide +kernel, rfl⟩
theorem iX7_takes_38 : zI cX7_takes 38 (.if_icmp .ge 18) 3 41 := ⟨by decide +kernel, rfl⟩
theorem iX7_takes_55 : zI cX7_takes 55 (.iastore) 1 56 := ⟨by decide +kernel, rfl⟩
theorem iX7_takes_54 : zI cX7_takes 54 (.iaload) 1 55 := ⟨by decide +kernel, rfl⟩
theorem iX7_takes_53 : zI cX7_takes 53 (.iadd) 1 54 := ⟨by decide +kernel, rfl⟩
theorem iX7_takes_52 : zI cX7_takes 52 (.iload_n 1) 1 53 := ⟨by decide +kernel, rfl⟩
theorem iX7_takes_50 : zI cX7_takes 50 (.bipush 18) 2 52 := ⟨by decide +kernel, rfl⟩
theorem iX7_takes_47 : zI cX7_takes 47 (.getfield 16) 3 50 := ⟨by decide +kernel, rfl⟩
theorem iX7_takes_46 : zI cX7_takes 46 (.aload_n 0) 1 47 := ⟨by decide +kernel, rfl⟩
theorem iX7_takes_45 : zI cX7_takes 45 (.iload_n 1) 1 46 := ⟨by decide +kernel, rfl⟩
theorem iX7_takes_42 : zI cX7_takes 42 (.getfield 16) 3 45 := ⟨by decide +kernel, rfl⟩
theorem iX7_takes_41 : zI cX7_takes 41 (.aload_n 0) 1 42 := ⟨by decide +kernel, rfl⟩
theorem iX7_takes_36 : zI cX7_takes 36 (.bipush 18) 2 38 := ⟨by decide +kernel, rfl⟩
theorem iX7_takes_35 : zI cX7_takes 35 (.iload_n 1) 1 36 := ⟨by decide +kernel, rfl⟩
theorem iX7_takes_30 : zI cX7_takes 30 (.bipush 27) 2 32 := ⟨by decide +kernel, rfl⟩
theorem iX7_takes_29 : zI cX7_takes 29 (.iload_n 1) 1 30 := ⟨by decide +kernel, rfl⟩
theorem iX7_takes_124 : zI cX7_takes 124 (.if_icmp .ge 16) 3 127 := ⟨by decide +kernel, rfl⟩
theorem iX7_takes_137 : zI cX7_takes 137 (.goto (-16)) 3 140 := ⟨by decide +kernel, rfl⟩
theorem iX7_takes_134 : zI cX7_takes 134 (.iinc 1 1) 3 137 := ⟨by decide +kernel, rfl⟩
theorem iX7_takes_133 : zI cX7_takes 133 (.iastore) 1 134 := ⟨by decide +kernel, rfl⟩
theorem iX7_takes_132 : zI cX7_takes 132 (.iconst 0) 1 133 := ⟨by decide +kernel, rfl⟩
theorem iX7_takes_131 : zI cX7_takes 131 (.iload_n 1) 1 132 := ⟨by decide +kernel, rfl⟩
theorem iX7_takes_128 : zI cX7_takes 128 (.getfield 28) 3 131 := ⟨by decide +kernel, rfl⟩
theorem iX7_takes_127 : zI cX7_takes 127 (.aload_n 0) 1 128 := ⟨by decide +kernel, rfl⟩
theorem iX7_takes_122 : zI cX7_takes 122 (.bipush 67) 2 124 := ⟨by decide +kernel, rfl⟩
theorem iX7_takes_121 : zI cX7_takes 121 (.iload_n 1) 1 122 := ⟨by decide +kernel, rfl⟩
theorem iX7_takes_149 : zI cX7_takes 149 (.if_icmp .ge 18) 3 152 := ⟨by decide +kernel, rfl⟩
theorem iX7_takes_164 : zI cX7_takes 164 (.goto (-22)) 3 167 := ⟨by decide +kernel, rfl⟩
theorem iX7_takes_161 : zI cX7_takes 161 (.iinc 1 1) 3 164 := ⟨by decide +kernel, rfl⟩
theorem iX7_takes_160 : zI cX7_takes 160 (.iastore) 1 161 := ⟨by decide +kernel, rfl⟩
theorem iX7_takes_157 : zI cX7_takes 157 (.sipush 5000) 3 160 := ⟨by decide +kernel, rfl⟩
theorem iX7_takes_156 : zI cX7_takes 156 (.iload_n 1) 1 157 := ⟨by decide +kernel, rfl⟩
theorem iX7_takes_153 : zI cX7_takes 153 (.getfield 28) 3 156 := ⟨by decide +kernel, rfl⟩
theorem iX7_takes_152 : zI cX7_takes 152 (.aload_n 0) 1 153 := ⟨by decide +kernel, rfl⟩
theorem iX7_takes_148 : zI cX7_takes 148 (.iaload) 1 149 := ⟨by decide +kernel, rfl⟩
theorem iX7_takes_147 : zI cX7_takes 147 (.iconst 0) 1 148 := ⟨by decide +kernel, rfl⟩
theorem iX7_takes_144 : zI cX7_takes 144 (.getfield 13) 3 147 := ⟨by decide +kernel, rfl⟩
theorem iX7_takes_143 : zI cX7_takes 143 (.aload_n 0) 1 144 := ⟨by decide +kernel, rfl⟩
theorem iX7_takes_142 : zI cX7_takes 142 (.iload_n 1) 1 143 := ⟨by decide +kernel, rfl⟩
theorem iX7_takes_210 : zI cX7_takes 210 (.if_icmp .gt 26) 3 213 := ⟨by decide +kernel, rfl⟩
theorem iX7_takes_233 : zI cX7_takes 233 (.goto (-30)) 3 236 := ⟨by decide +kernel, rfl⟩
theorem iX7_takes_230 : zI cX7_takes 230 (.iinc 1 1) 3 233 := ⟨by decide +kernel, rfl⟩
theorem iX7_takes_229 : zI cX7_takes 229 (.iastore) 1 230 := ⟨by decide +kernel, rfl⟩
theorem iX7_takes_228 : zI cX7_takes 228 (.iaload) 1 229 := ⟨by decide +kernel, rfl⟩
theorem iX7_takes_227 : zI cX7_takes 227 (.imul) 1 228 := ⟨by decide +kernel, rfl⟩
theorem iX7_takes_226 : zI cX7_takes 226 (.iload_n 1) 1 227 := ⟨by decide +kernel, rfl⟩
theorem iX7_takes_225 : zI cX7_takes 225 (.iconst 2) 1 226 := ⟨by decide +kernel, rfl⟩
theorem iX7_takes_222 : zI cX7_takes 222 (.getfield 25) 3 225 := ⟨by decide +kernel, rfl⟩
theorem iX7_takes_221 : zI cX7_takes 221 (.aload_n 0) 1 222 := ⟨by decide +kernel, rfl⟩
theorem iX7_takes_220 : zI cX7_takes 220 (.iadd) 1 221 := ⟨by decide +kernel, rfl⟩
theorem iX7_takes_219 : zI cX7_takes 219 (.iload_n 1) 1 220 := ⟨by decide +kernel, rfl⟩
theorem iX7_takes_217 : zI cX7_takes 217 (.bipush 60) 2 219 := ⟨by decide +kernel, rfl⟩
theorem iX7_takes_214 : zI cX7_takes 214 (.getfield 28) 3 217 := ⟨by decide +kernel, rfl⟩
theorem iX7_takes_213 : zI cX7_takes 213 (.aload_n 0) 1 214 := ⟨by decide +kernel, rfl⟩
theorem iX7_takes_209 : zI cX7_takes 209 (.iaload) 1 210 := ⟨by decide +kernel, rfl⟩
theorem iX7_takes_208 : zI cX7_takes 208 (.iconst 4) 1 209 := ⟨by decide +kernel, rfl⟩
theorem iX7_takes_205 : zI cX7_takes 205 (.getfield 13) 3 208 := ⟨by decide +kernel, rfl⟩
theorem iX7_takes_204 : zI cX7_takes 204 (.aload_n 0) 1 205 := ⟨by decide +kernel, rfl⟩
theorem iX7_takes_203 : zI cX7_takes 203 (.iload_n 1) 1 204 := ⟨by decide +kernel, rfl⟩
theorem iX7_takes_245 : zI cX7_takes 245 (.if_icmp .ge 26) 3 248 := ⟨by decide +kernel, rfl⟩
set_option maxRecDepth 100000 in
theorem wX7_47 : zCv RX7 47 yX7_isLowest cX7_isLowest 2 (some .boolean) 1 := ⟨⟨(zmem 778 (by decide +kernel) (by decide +kernel)), (zmem 76 (by decide +kernel) (by decide +kernel)), (zmem 781 rfl rfl), ⟨by decide, by decide, by decide +kernel⟩, by decide⟩, (zmem 780 (by decide +kernel) (by decide +kernel)), (zmem 22 (by decide +kernel) (by decide +kernel))⟩
theorem iX7_takes_250 : zI cX7_takes 250 (.invokevirtual 47) 3 253 := ⟨by decide +kernel, rfl⟩
theorem iX7_takes_253 : zI cX7_takes 253 (.ifCond .eq 12) 3 256 := ⟨by decide +kernel, rfl⟩
theorem iX7_takes_268 : zI cX7_takes 268 (.goto (-30)) 3 271 := ⟨by decide +kernel, rfl⟩
theorem iX7_takes_265 : zI cX7_takes 265 (.iinc 1 1) 3 268 := ⟨by decide +kernel, rfl⟩
theorem iX7_takes_259 : zI cX7_takes 259 (.invokevirtual 51) 3 262 := ⟨by decide +kernel, rfl⟩
set_option maxRecDepth 100000 in
theorem wX7_55 : zCv RX7 55 yX7_begins cX7_begins 5 none 1 := ⟨⟨(zmem 789 (by decide +kernel) (by decide +kernel)), (zmem 76 (by decide +kernel) (by decide +kernel)), (zmem 792 rfl rfl), ⟨by decide, by decide, by decide +kernel⟩, by decide⟩, (zmem 791 (by decide +kernel) (by decide +kernel)), (zmem 24 (by decide +kernel) (by decide +kernel))⟩
theorem iX7_takes_262 : zI cX7_takes 262 (.invokevirtual 55) 3 265 := ⟨by decide +kernel, rfl⟩
theorem iX7_takes_258 : zI cX7_takes 258 (.iload_n 1) 1 259 := ⟨by decide +kernel, rfl⟩
theorem iX7_takes_257 : zI cX7_takes 257 (.aload_n 0) 1 258 := ⟨by decide +kernel, rfl⟩
theorem iX7_takes_256 : zI cX7_takes 256 (.aload_n 0) 1 257 := ⟨by decide +kernel, rfl⟩
theorem iX7_takes_249 : zI cX7_takes 249 (.iload_n 1) 1 250 := ⟨by decide +kernel, rfl⟩
theorem iX7_takes_248 : zI cX7_takes 248 (.aload_n 0) 1 249 := ⟨by decide +kernel, rfl⟩
theorem iX7_takes_244 : zI cX7_takes 244 (.iaload) 1 245 := ⟨by decide +kernel, rfl⟩
theorem iX7_takes_243 : zI cX7_takes 243 (.iconst 0) 1 244 := ⟨by decide +kernel, rfl⟩
theorem iX7_takes_240 : zI cX7_takes 240 (.getfield 13) 3 243 := ⟨by decide +kernel, rfl⟩
theorem iX7_takes_239 : zI cX7_takes 239 (.aload_n 0) 1 240 := ⟨by decide +kernel, rfl⟩
theorem iX7_takes_238 : zI cX7_takes 238 (.iload_n 1) 1 239 := ⟨by decide +kernel, rfl⟩
theorem pX7_59 : zFp RX7 59 7 10 := ⟨RX7, TX7, 17, rfl, by decide, (zmem 807 (by decide +kernel) (by decide +kernel)), u_inX7, by decide +kernel, by decide +kernel, ⟨tyX7, tyX7_ok⟩, nmX7⟩
theorem iX7_takes_276 : zI cX7_takes 276 (.return_) 1 277 := ⟨by decide +kernel, rfl⟩
theorem iX7_takes_273 : zI cX7_takes 273 (.putfield 59) 3 276 := ⟨by decide +kernel, rfl⟩
theorem iX7_takes_272 : zI cX7_takes 272 (.iconst 0) 1 273 := ⟨by decide +kernel, rfl⟩
theorem iX7_takes_271 : zI cX7_takes 271 (.aload_n 0) 1 272 := ⟨by decide +kernel, rfl⟩
theorem iX7_takes_237 : zI cX7_takes 237 (.istore_n 1) 1 238 := ⟨by decide +kernel, rfl⟩
theorem iX7_takes_236 : zI cX7_takes 236 (.iconst 0) 1 237 := ⟨by decide +kernel, rfl⟩
theorem iX7_takes_202 : zI cX7_takes 202 (.istore_n 1) 1 203 := ⟨by decide +kernel, rfl⟩
theorem iX7_takes_201 : zI cX7_takes 201 (.iconst 0) 1 202 := ⟨by decide +kernel, rfl⟩
theorem iX7_takes_200 : zI cX7_takes 200 (.iastore) 1 201 := ⟨by decide +kernel, rfl⟩
theorem iX7_takes_199 : zI cX7_takes 199 (.isub) 1 200 := ⟨by decide +kernel, rfl⟩
theorem iX7_takes_198 : zI cX7_takes 198 (.iconst 1) 1 199 := ⟨by decide +kernel, rfl⟩
theorem iX7_takes_197 : zI cX7_takes 197 (.ishl) 1 198 := ⟨by decide +kernel, rfl⟩
theorem iX7_takes_196 : zI cX7_takes 196 (.iaload) 1 197 := ⟨by decide +kernel, rfl⟩
theorem iX7_takes_195 : zI cX7_takes 195 (.iconst 1) 1 196 := ⟨by decide +kernel, rfl⟩
theorem iX7_takes_192 : zI cX7_takes 192 (.getfield 13) 3 195 := ⟨by decide +kernel, rfl⟩
theorem iX7_takes_191 : zI cX7_takes 191 (.aload_n 0) 1 192 := ⟨by decide +kernel, rfl⟩
theorem iX7_takes_190 : zI cX7_takes 190 (.iconst 1) 1 191 := ⟨by decide +kernel, rfl⟩
theorem iX7_takes_188 : zI cX7_takes 188 (.bipush 43) 2 190 := ⟨by decide +kernel, rfl⟩
theorem iX7_takes_185 : zI cX7_takes 185 (.getfield 28) 3 188 := ⟨by decide +kernel, rfl⟩
theorem iX7_takes_184 : zI cX7_takes 184 (.aload_n 0) 1 185 := ⟨by decide +kernel, rfl⟩
theorem iX7_takes_183 : zI cX7_takes 183 (.iastore) 1 184 := ⟨by decide +kernel, rfl⟩
theorem iX7_takes_182 : zI cX7_takes 182 (.isub) 1 183 := ⟨by decide +kernel, rfl⟩
theorem iX7_takes_181 : zI cX7_takes 181 (.iconst 1) 1 182 := ⟨by decide +kernel, rfl⟩
theorem iX7_takes_180 : zI cX7_takes 180 (.ishl) 1 181 := ⟨by decide +kernel, rfl⟩
theorem iX7_takes_179 : zI cX7_takes 179 (.iaload) 1 180 := ⟨by decide +kernel, rfl⟩
theorem iX7_takes_178 : zI cX7_takes 178 (.iconst 3) 1 179 := ⟨by decide +kernel, rfl⟩
theorem iX7_takes_175 : zI cX7_takes 175 (.getfield 13) 3 178 := ⟨by decide +kernel, rfl⟩
theorem iX7_takes_174 : zI cX7_takes 174 (.aload_n 0) 1 175 := ⟨by decide +kernel, rfl⟩
theorem iX7_takes_173 : zI cX7_takes 173 (.iconst 1) 1 174 := ⟨by decide +kernel, rfl⟩
theorem iX7_takes_171 : zI cX7_takes 171 (.bipush 42) 2 173 := ⟨by decide +kernel, rfl⟩
theorem iX7_takes_168 : zI cX7_takes 168 (.getfield 28) 3 171 := ⟨by decide +kernel, rfl⟩
theorem iX7_takes_167 : zI cX7_takes 167 (.aload_n 0) 1 168 := ⟨by decide +kernel, rfl⟩
theorem iX7_takes_141 : zI cX7_takes 141 (.istore_n 1) 1 142 := ⟨by decide +kernel, rfl⟩
theorem iX7_takes_140 : zI cX7_takes 140 (.iconst 0) 1 141 := ⟨by decide +kernel, rfl⟩
theorem iX7_takes_120 : zI cX7_takes 120 (.istore_n 1) 1 121 := ⟨by decide +kernel, rfl⟩
theorem iX7_takes_119 : zI cX7_takes 119 (.iconst 0) 1 120 := ⟨by decide +kernel, rfl⟩
theorem iX7_takes_28 : zI cX7_takes 28 (.istore_n 1) 1 29 := ⟨by decide +kernel, rfl⟩
theorem iX7_takes_27 : zI cX7_takes 27 (.iconst 0) 1 28 := ⟨by decide +kernel, rfl⟩
theorem iX7_takes_1 : zI cX7_takes 1 (.istore_n 1) 1 2 := ⟨by decide +kernel, rfl⟩
theorem iX7_takes_0 : zI cX7_takes 0 (.iconst 0) 1 1 := ⟨by decide +kernel, rfl⟩
set_option maxHeartbeats 4000000 in
set_option maxRecDepth 100000 in
theorem m_Mo_takes (h : zH) : zM yX7_takes cX7_takes 2 none 3 shM (fun ad => [.ref (ad 0)]) h eV (Mo_takes h) := by
  refine zM.of (by decide) (fun _ => rfl) (fun _ => Nat.le_of_ble_eq_true rfl) (fun X ad hnL C => ?_)
  show zG X ad shM eV 0 [some (.ref (ad 0)), none] [] h _
  unfold Mo_takes
  refine g_iconst C 0 iX7_takes_0 (by decide) ?_
  refine g_istore_n (lv' := [some (.ref (ad 0)), some (.int 0)]) C hnL iX7_takes_1 (by decide) rfl ?_
  have L2 : ∀ (k27 : zH → Option (zH)), (∀ (hy : zH), zG X ad shM eV 27 [some (.ref (ad 0)), none] [] hy (k27 hy)) → ∀ (n : Nat) (x1 : Int32) (h_1 : zH), zG X ad shM eV 2 [some (.ref (ad 0)), some (.int x1)] [] h_1 (Mo_takes_L2 k27 n x1 h_1) := by
    intro k27 hk27 n
    induction n with
    | zero =>
      intro x1 h_1
      exact g_none
    | succ n ih2 =>
      intro x1 h_1
      rw [Mo_takes_L2]
      refine g_iload_n C iX7_takes_2 rfl ?_
      refine g_iconst C 5 iX7_takes_3 (by decide) ?_
      refine g_icmp_ge C 27 iX7_takes_4 (by decide) (fun c4 => ?_) (fun c4 => ?_)
      · refine g_sub (lv' := [some (.ref (ad 0)), none]) ⟨rfl, trivial⟩ ?_
        exact hk27 _
      · refine g_aload_n C iX7_takes_7 rfl ?_
        refine g_getR (b := 2) C fX7_13 iX7_takes_8 mh0 rfl ?_
        refine g_iload_n C iX7_takes_11 rfl ?_
        refine g_aload_n C iX7_takes_12 rfl ?_
        refine g_getR (b := 2) C fX7_13 iX7_takes_13 mh0 rfl ?_
        refine g_iconst C 5 iX7_takes_16 (by decide) ?_
        refine g_iload_n C iX7_takes_17 rfl ?_
        refine g_iadd C iX7_takes_18 ?_
        refine g_iaload C iX7_takes_19 mh2 ?_
        refine g_iastore C iX7_takes_20 mh2 (fun h_2 => ?_)
        refine g_iinc (v := (x1 + 1)) (lv' := [some (.ref (ad 0)), some (.int (x1 + 1))]) C hnL iX7_takes_21 (by decide) rfl rfl rfl ?_
        refine g_goto C 2 iX7_takes_24 (by decide) ?_
        exact ih2 _ _
  refine L2 _ (fun h_3 => ?_) 1000 _ _
  show zG X ad shM eV 27 [some (.ref (ad 0)), none] [] h_3 _
  refine g_iconst C 0 iX7_takes_27 (by decide) ?_
  refine g_istore_n (lv' := [some (.ref (ad 0)), some (.int 0)]) C hnL iX7_takes_28 (by decide) rfl ?_
  have L29 : ∀ (k119 : zH → Option (zH)), (∀ (hy : zH), zG X ad shM eV 119 [some (.ref (ad 0)), none] [] hy (k119 hy)) → ∀ (n_1 : Nat) (x1_1 : Int32) (h_4 : zH), zG X ad shM eV 29 [some (.ref (ad 0)), some (.int x1_1)] [] h_4 (Mo_takes_L29 k119 n_1 x1_1 h_4) := by
    intro k119 hk119 n_1
    induction n_1 with
    | zero =>
      intro x1_1 h_4
      exact g_none
    | succ n_1 ih29 =>
      intro x1_1 h_4
      rw [Mo_takes_L29]
      refine g_iload_n C iX7_takes_29 rfl ?_
      refine g_bipush C 27 iX7_takes_30 (by decide) ?_
      refine g_icmp_ge C 119 iX7_takes_32 (by decide) (fun c32 => ?_) (fun c32 => ?_)
      · refine g_sub (lv' := [some (.ref (ad 0)), none]) ⟨rfl, trivial⟩ ?_
        exact hk119 _
      · refine g_iload_n C iX7_takes_35 rfl ?_
        refine g_bipush C 18 iX7_takes_36 (by decide) ?_
        refine g_let (fun j56 ej56 => ?_)
        have hj56 : ∀ (h_5 : zH), zG X ad shM eV 56 [some (.ref (ad 0)), some (.int x1_1)] [] h_5 (j56 h_5) := by
          intro h_5
          subst ej56
          refine g_iload_n C iX7_takes_56 rfl ?_
          refine g_bipush C 24 iX7_takes_57 (by decide) ?_
          refine g_let (fun j77 ej77 => ?_)
          have hj77 : ∀ (h_6 : zH), zG X ad shM eV 77 [some (.ref (ad 0)), some (.int x1_1)] [] h_6 (j77 h_6) := by
            intro h_6
            subst ej77
            refine g_aload_n C iX7_takes_77 rfl ?_
            refine g_getR (b := 5) C fX7_22 iX7_takes_78 mh0 rfl ?_
            refine g_iload_n C iX7_takes_81 rfl ?_
            refine g_aload_n C iX7_takes_82 rfl ?_
            refine g_getR (b := 5) C fX7_22 iX7_takes_83 mh0 rfl ?_
            refine g_bipush C 27 iX7_takes_86 (by decide) ?_
            refine g_iload_n C iX7_takes_88 rfl ?_
            refine g_iadd C iX7_takes_89 ?_
            refine g_iaload C iX7_takes_90 mh5 ?_
            refine g_iastore C iX7_takes_91 mh5 (fun h_7 => ?_)
            refine g_iload_n C iX7_takes_92 rfl ?_
            refine g_bipush C 12 iX7_takes_93 (by decide) ?_
            refine g_icmp_ge C 113 iX7_takes_95 (by decide) (fun c95 => ?_) (fun c95 => ?_)
            · refine g_iinc (v := (x1_1 + 1)) (lv' := [some (.ref (ad 0)), some (.int (x1_1 + 1))]) C hnL iX7_takes_113 (by decide) rfl rfl rfl ?_
              refine g_goto C 29 iX7_takes_116 (by decide) ?_
              exact ih29 _ _
            · refine g_aload_n C iX7_takes_98 rfl ?_
              refine g_getR (b := 6) C fX7_25 iX7_takes_99 mh0 rfl ?_
              refine g_iload_n C iX7_takes_102 rfl ?_
              refine g_aload_n C iX7_takes_103 rfl ?_
              refine g_getR (b := 6) C fX7_25 iX7_takes_104 mh0 rfl ?_
              refine g_bipush C 12 iX7_takes_107 (by decide) ?_
              refine g_iload_n C iX7_takes_109 rfl ?_
              refine g_iadd C iX7_takes_110 ?_
              refine g_iaload C iX7_takes_111 mh6 ?_
              refine g_iastore C iX7_takes_112 mh6 (fun h_8 => ?_)
              refine g_iinc (v := (x1_1 + 1)) (lv' := [some (.ref (ad 0)), some (.int (x1_1 + 1))]) C hnL iX7_takes_113 (by decide) rfl rfl rfl ?_
              refine g_goto C 29 iX7_takes_116 (by decide) ?_
              exact ih29 _ _
          clear ej77
          refine g_icmp_ge C 77 iX7_takes_59 (by decide) (fun c59 => ?_) (fun c59 => ?_)
          · exact hj77 _
          · refine g_aload_n C iX7_takes_62 rfl ?_
            refine g_getR (b := 4) C fX7_19 iX7_takes_63 mh0 rfl ?_
            refine g_iload_n C iX7_takes_66 rfl ?_
            refine g_aload_n C iX7_takes_67 rfl ?_
            refine g_getR (b := 4) C fX7_19 iX7_takes_68 mh0 rfl ?_
            refine g_bipush C 24 iX7_takes_71 (by decide) ?_
            refine g_iload_n C iX7_takes_73 rfl ?_
            refine g_iadd C iX7_takes_74 ?_
            refine g_iaload C iX7_takes_75 mh4 ?_
            refine g_iastore C iX7_takes_76 mh4 (fun h_9 => ?_)
            exact hj77 _
        clear ej56
        refine g_icmp_ge C 56 iX7_takes_38 (by decide) (fun c38 => ?_) (fun c38 => ?_)
        · exact hj56 _
        · refine g_aload_n C iX7_takes_41 rfl ?_
          refine g_getR (b := 3) C fX7_16 iX7_takes_42 mh0 rfl ?_
          refine g_iload_n C iX7_takes_45 rfl ?_
          refine g_aload_n C iX7_takes_46 rfl ?_
          refine g_getR (b := 3) C fX7_16 iX7_takes_47 mh0 rfl ?_
          refine g_bipush C 18 iX7_takes_50 (by decide) ?_
          refine g_iload_n C iX7_takes_52 rfl ?_
          refine g_iadd C iX7_takes_53 ?_
          refine g_iaload C iX7_takes_54 mh3 ?_
          refine g_iastore C iX7_takes_55 mh3 (fun h_10 => ?_)
          exact hj56 _
  refine L29 _ (fun h_11 => ?_) 1000 _ _
  show zG X ad shM eV 119 [some (.ref (ad 0)), none] [] h_11 _
  refine g_iconst C 0 iX7_takes_119 (by decide) ?_
  refine g_istore_n (lv' := [some (.ref (ad 0)), some (.int 0)]) C hnL iX7_takes_120 (by decide) rfl ?_
  have L121 : ∀ (k140 : zH → Option (zH)), (∀ (hy : zH), zG X ad shM eV 140 [some (.ref (ad 0)), none] [] hy (k140 hy)) → ∀ (n_2 : Nat) (x1_2 : Int32) (h_12 : zH), zG X ad shM eV 121 [some (.ref (ad 0)), some (.int x1_2)] [] h_12 (Mo_takes_L121 k140 n_2 x1_2 h_12) := by
    intro k140 hk140 n_2
    induction n_2 with
    | zero =>
      intro x1_2 h_12
      exact g_none
    | succ n_2 ih121 =>
      intro x1_2 h_12
      rw [Mo_takes_L121]
      refine g_iload_n C iX7_takes_121 rfl ?_
      refine g_bipush C 67 iX7_takes_122 (by decide) ?_
      refine g_icmp_ge C 140 iX7_takes_124 (by decide) (fun c124 => ?_) (fun c124 => ?_)
      · refine g_sub (lv' := [some (.ref (ad 0)), none]) ⟨rfl, trivial⟩ ?_
        exact hk140 _
      · refine g_aload_n C iX7_takes_127 rfl ?_
        refine g_getR (b := 7) C fX7_28 iX7_takes_128 mh0 rfl ?_
        refine g_iload_n C iX7_takes_131 rfl ?_
        refine g_iconst C 0 iX7_takes_132 (by decide) ?_
        refine g_iastore C iX7_takes_133 mh7 (fun h_13 => ?_)
        refine g_iinc (v := (x1_2 + 1)) (lv' := [some (.ref (ad 0)), some (.int (x1_2 + 1))]) C hnL iX7_takes_134 (by decide) rfl rfl rfl ?_
        refine g_goto C 121 iX7_takes_137 (by decide) ?_
        exact ih121 _ _
  refine L121 _ (fun h_14 => ?_) 1000 _ _
  show zG X ad shM eV 140 [some (.ref (ad 0)), none] [] h_14 _
  refine g_iconst C 0 iX7_takes_140 (by decide) ?_
  refine g_istore_n (lv' := [some (.ref (ad 0)), some (.int 0)]) C hnL iX7_takes_141 (by decide) rfl ?_
  have L142 : ∀ (k167 : zH → Option (zH)), (∀ (hy : zH), zG X ad shM eV 167 [some (.ref (ad 0)), none] [] hy (k167 hy)) → ∀ (n_3 : Nat) (x1_3 : Int32) (h_15 : zH), zG X ad shM eV 142 [some (.ref (ad 0)), some (.int x1_3)] [] h_15 (Mo_takes_L142 k167 n_3 x1_3 h_15) := by
    intro k167 hk167 n_3
    induction n_3 with
    | zero =>
      intro x1_3 h_15
      exact g_none
    | succ n_3 ih142 =>
      intro x1_3 h_15
      rw [Mo_takes_L142]
      refine g_iload_n C iX7_takes_142 rfl ?_
      refine g_aload_n C iX7_takes_143 rfl ?_
      refine g_getR (b := 2) C fX7_13 iX7_takes_144 mh0 rfl ?_
      refine g_iconst C 0 iX7_takes_147 (by decide) ?_
      refine g_ialoadL C 0 iX7_takes_148 mh2 (by decide) (by decide) ?_
      refine g_icmp_ge C 167 iX7_takes_149 (by decide) (fun c149 => ?_) (fun c149 => ?_)
      · refine g_sub (lv' := [some (.ref (ad 0)), none]) ⟨rfl, trivial⟩ ?_
        exact hk167 _
      · refine g_aload_n C iX7_takes_152 rfl ?_
        refine g_getR (b := 7) C fX7_28 iX7_takes_153 mh0 rfl ?_
        refine g_iload_n C iX7_takes_156 rfl ?_
        refine g_sipush C 5000 iX7_takes_157 (by decide) ?_
        refine g_iastore C iX7_takes_160 mh7 (fun h_16 => ?_)
        refine g_iinc (v := (x1_3 + 1)) (lv' := [some (.ref (ad 0)), some (.int (x1_3 + 1))]) C hnL iX7_takes_161 (by decide) rfl rfl rfl ?_
        refine g_goto C 142 iX7_takes_164 (by decide) ?_
        exact ih142 _ _
  refine L142 _ (fun h_17 => ?_) 1000 _ _
  show zG X ad shM eV 167 [some (.ref (ad 0)), none] [] h_17 _
  refine g_aload_n C iX7_takes_167 rfl ?_
  refine g_getR (b := 7) C fX7_28 iX7_takes_168 mh0 rfl ?_
  refine g_bipush C 42 iX7_takes_171 (by decide) ?_
  refine g_iconst C 1 iX7_takes_173 (by decide) ?_
  refine g_aload_n C iX7_takes_174 rfl ?_
  refine g_getR (b := 2) C fX7_13 iX7_takes_175 mh0 rfl ?_
  refine g_iconst C 3 iX7_takes_178 (by decide) ?_
  refine g_ialoadL C 3 iX7_takes_179 mh2 (by decide) (by decide) ?_
  refine g_ishl C iX7_takes_180 ?_
  refine g_iconst C 1 iX7_takes_181 (by decide) ?_
  refine g_isub C iX7_takes_182 ?_
  refine g_iastoreL C 42 iX7_takes_183 mh7 (by decide) (by decide) (fun h_18 => ?_)
  refine g_aload_n C iX7_takes_184 rfl ?_
  refine g_getR (b := 7) C fX7_28 iX7_takes_185 mh0 rfl ?_
  refine g_bipush C 43 iX7_takes_188 (by decide) ?_
  refine g_iconst C 1 iX7_takes_190 (by decide) ?_
  refine g_aload_n C iX7_takes_191 rfl ?_
  refine g_getR (b := 2) C fX7_13 iX7_takes_192 mh0 rfl ?_
  refine g_iconst C 1 iX7_takes_195 (by decide) ?_
  refine g_ialoadL C 1 iX7_takes_196 mh2 (by decide) (by decide) ?_
  refine g_ishl C iX7_takes_197 ?_
  refine g_iconst C 1 iX7_takes_198 (by decide) ?_
  refine g_isub C iX7_takes_199 ?_
  refine g_iastoreL C 43 iX7_takes_200 mh7 (by decide) (by decide) (fun h_19 => ?_)
  refine g_iconst C 0 iX7_takes_201 (by decide) ?_
  refine g_istore_n (lv' := [some (.ref (ad 0)), some (.int 0)]) C hnL iX7_takes_202 (by decide) rfl ?_
  have L203 : ∀ (k236 : zH → Option (zH)), (∀ (hy : zH), zG X ad shM eV 236 [some (.ref (ad 0)), none] [] hy (k236 hy)) → ∀ (n_4 : Nat) (x1_4 : Int32) (h_20 : zH), zG X ad shM eV 203 [some (.ref (ad 0)), some (.int x1_4)] [] h_20 (Mo_takes_L203 k236 n_4 x1_4 h_20) := by
    intro k236 hk236 n_4
    induction n_4 with
    | zero =>
      intro x1_4 h_20
      exact g_none
    | succ n_4 ih203 =>
      intro x1_4 h_20
      rw [Mo_takes_L203]
      refine g_iload_n C iX7_takes_203 rfl ?_
      refine g_aload_n C iX7_takes_204 rfl ?_
      refine g_getR (b := 2) C fX7_13 iX7_takes_205 mh0 rfl ?_
      refine g_iconst C 4 iX7_takes_208 (by decide) ?_
      refine g_ialoadL C 4 iX7_takes_209 mh2 (by decide) (by decide) ?_
      refine g_icmp_gt C 236 iX7_takes_210 (by decide) (fun c210 => ?_) (fun c210 => ?_)
      · refine g_sub (lv' := [some (.ref (ad 0)), none]) ⟨rfl, trivial⟩ ?_
        exact hk236 _
      · refine g_aload_n C iX7_takes_213 rfl ?_
        refine g_getR (b := 7) C fX7_28 iX7_takes_214 mh0 rfl ?_
        refine g_bipush C 60 iX7_takes_217 (by decide) ?_
        refine g_iload_n C iX7_takes_219 rfl ?_
        refine g_iadd C iX7_takes_220 ?_
        refine g_aload_n C iX7_takes_221 rfl ?_
        refine g_getR (b := 6) C fX7_25 iX7_takes_222 mh0 rfl ?_
        refine g_iconst C 2 iX7_takes_225 (by decide) ?_
        refine g_iload_n C iX7_takes_226 rfl ?_
        refine g_imul C iX7_takes_227 ?_
        refine g_iaload C iX7_takes_228 mh6 ?_
        refine g_iastore C iX7_takes_229 mh7 (fun h_21 => ?_)
        refine g_iinc (v := (x1_4 + 1)) (lv' := [some (.ref (ad 0)), some (.int (x1_4 + 1))]) C hnL iX7_takes_230 (by decide) rfl rfl rfl ?_
        refine g_goto C 203 iX7_takes_233 (by decide) ?_
        exact ih203 _ _
  refine L203 _ (fun h_22 => ?_) 1000 _ _
  show zG X ad shM eV 236 [some (.ref (ad 0)), none] [] h_22 _
  refine g_iconst C 0 iX7_takes_236 (by decide) ?_
  refine g_istore_n (lv' := [some (.ref (ad 0)), some (.int 0)]) C hnL iX7_takes_237 (by decide) rfl ?_
  have L238 : ∀ (k271 : zH → Option (zH)), (∀ (hy : zH), zG X ad shM eV 271 [some (.ref (ad 0)), none] [] hy (k271 hy)) → ∀ (n_5 : Nat) (x1_5 : Int32) (h_23 : zH), zG X ad shM eV 238 [some (.ref (ad 0)), some (.int x1_5)] [] h_23 (Mo_takes_L238 k271 n_5 x1_5 h_23) := by
    intro k271 hk271 n_5
    induction n_5 with
    | zero =>
      intro x1_5 h_23
      exact g_none
    | succ n_5 ih238 =>
      intro x1_5 h_23
      rw [Mo_takes_L238]
      refine g_iload_n C iX7_takes_238 rfl ?_
      refine g_aload_n C iX7_takes_239 rfl ?_
      refine g_getR (b := 2) C fX7_13 iX7_takes_240 mh0 rfl ?_
      refine g_iconst C 0 iX7_takes_243 (by decide) ?_
      refine g_ialoadL C 0 iX7_takes_244 mh2 (by decide) (by decide) ?_
      refine g_icmp_ge C 271 iX7_takes_245 (by decide) (fun c245 => ?_) (fun c245 => ?_)
      · refine g_sub (lv' := [some (.ref (ad 0)), none]) ⟨rfl, trivial⟩ ?_
        exact hk271 _
      · refine g_aload_n C iX7_takes_248 rfl ?_
        refine g_iload_n C iX7_takes_249 rfl ?_
        refine g_callV C wX7_47 iX7_takes_250 (m_Mo_isLowest x1_5 h_23) (by decide) mh0 rfl rfl rfl rfl (Nat.le_of_ble_eq_true rfl) (fun r => ?_)
        show zG X ad shM eV 253 [some (.ref (ad 0)), some (.int x1_5)] [.int r] h_23 _
        refine g_if_eq C 265 iX7_takes_253 (by decide) (fun c253 => ?_) (fun c253 => ?_)
        · refine g_iinc (v := (x1_5 + 1)) (lv' := [some (.ref (ad 0)), some (.int (x1_5 + 1))]) C hnL iX7_takes_265 (by decide) rfl rfl rfl ?_
          refine g_goto C 238 iX7_takes_268 (by decide) ?_
          exact ih238 _ _
        · refine g_aload_n C iX7_takes_256 rfl ?_
          refine g_aload_n C iX7_takes_257 rfl ?_
          refine g_iload_n C iX7_takes_258 rfl ?_
          refine g_callV C wX7_51 iX7_takes_259 (m_Mo_busesOf x1_5 h_23) (by decide) mh0 rfl rfl rfl rfl (Nat.le_of_ble_eq_true rfl) (fun r_1 => ?_)
          show zG X ad shM eV 262 [some (.ref (ad 0)), some (.int x1_5)] [.int r_1, .ref (ad 0)] h_23 _
          refine g_callV C wX7_55 iX7_takes_262 (m_Mo_begins r_1 h_23) (by decide) mh0 rfl rfl rfl rfl (Nat.le_of_ble_eq_true rfl) (fun h_24 => ?_)
          show zG X ad shM eV 265 [some (.ref (ad 0)), some (.int x1_5)] [] h_24 _
          refine g_iinc (v := (x1_5 + 1)) (lv' := [some (.ref (ad 0)), some (.int (x1_5 + 1))]) C hnL iX7_takes_265 (by decide) rfl rfl rfl ?_
          refine g_goto C 238 iX7_takes_268 (by decide) ?_
          exact ih238 _ _
  refine L238 _ (fun h_25 => ?_) 1000 _ _
  show zG X ad shM eV 271 [some (.ref (ad 0)), none] [] h_25 _
  refine g_aload_n C iX7_takes_271 rfl ?_
  refine g_iconst C 0 iX7_takes_272 (by decide) ?_
  refine g_putI C pX7_59 iX7_takes_273 mh0 rfl (fun h_26 => ?_)
  exact g_vret C iX7_takes_276 rfl

