theorem iX7_count_11 : zI cX7_count 11 (.if_icmp .ge 34) 3 14 := ⟨by decide +kernel, rfl⟩
theorem iX7_count_17 : zI cX7_count 17 (.invokevirtual 47) 3 20 := ⟨by decide +kernel, rfl⟩
theorem iX7_count_20 : zI cX7_count 20 (.ifCond .eq 16) 3 23 := ⟨by decide +kernel, rfl⟩
theorem iX7_count_42 : zI cX7_count 42 (.goto (-38)) 3 45 := ⟨by decide +kernel, rfl⟩
theorem iX7_count_39 : zI cX7_count 39 (.iinc 3 1) 3 42 := ⟨by decide +kernel, rfl⟩
theorem iX7_count_38 : zI cX7_count 38 (.istore_n 2) 1 39 := ⟨by decide +kernel, rfl⟩
theorem iX7_count_37 : zI cX7_count 37 (.iadd) 1 38 := ⟨by decide +kernel, rfl⟩
theorem iX7_count_36 : zI cX7_count 36 (.iconst 0) 1 37 := ⟨by decide +kernel, rfl⟩
theorem iX7_count_29 : zI cX7_count 29 (.ifCond .ne 7) 3 32 := ⟨by decide +kernel, rfl⟩
theorem iX7_count_33 : zI cX7_count 33 (.goto 4) 3 36 := ⟨by decide +kernel, rfl⟩
theorem iX7_count_32 : zI cX7_count 32 (.iconst 1) 1 33 := ⟨by decide +kernel, rfl⟩
theorem iX7_count_28 : zI cX7_count 28 (.iaload) 1 29 := ⟨by decide +kernel, rfl⟩
theorem iX7_count_27 : zI cX7_count 27 (.iload_n 3) 1 28 := ⟨by decide +kernel, rfl⟩
theorem iX7_count_24 : zI cX7_count 24 (.getfield 28) 3 27 := ⟨by decide +kernel, rfl⟩
theorem iX7_count_23 : zI cX7_count 23 (.aload_n 0) 1 24 := ⟨by decide +kernel, rfl⟩
theorem iX7_count_16 : zI cX7_count 16 (.iload_n 3) 1 17 := ⟨by decide +kernel, rfl⟩
theorem iX7_count_15 : zI cX7_count 15 (.aload_n 0) 1 16 := ⟨by decide +kernel, rfl⟩
theorem iX7_count_14 : zI cX7_count 14 (.iload_n 2) 1 15 := ⟨by decide +kernel, rfl⟩
theorem iX7_count_10 : zI cX7_count 10 (.iaload) 1 11 := ⟨by decide +kernel, rfl⟩
theorem iX7_count_9 : zI cX7_count 9 (.iconst 0) 1 10 := ⟨by decide +kernel, rfl⟩
theorem iX7_count_6 : zI cX7_count 6 (.getfield 13) 3 9 := ⟨by decide +kernel, rfl⟩
theorem iX7_count_5 : zI cX7_count 5 (.aload_n 0) 1 6 := ⟨by decide +kernel, rfl⟩
theorem iX7_count_4 : zI cX7_count 4 (.iload_n 3) 1 5 := ⟨by decide +kernel, rfl⟩
theorem iX7_count_46 : zI cX7_count 46 (.tableswitch 141 0 11 #[62, 69, 76, 83, 90, 97, 102, 104, 112, 124, 131, 136]) 62 108 := ⟨by decide +kernel, rfl⟩
theorem iX7_count_114 : zI cX7_count 114 (.ireturn) 1 115 := ⟨by decide +kernel, rfl⟩
theorem iX7_count_113 : zI cX7_count 113 (.iaload) 1 114 := ⟨by decide +kernel, rfl⟩
theorem iX7_count_112 : zI cX7_count 112 (.iconst 0) 1 113 := ⟨by decide +kernel, rfl⟩
theorem iX7_count_109 : zI cX7_count 109 (.getfield 13) 3 112 := ⟨by decide +kernel, rfl⟩
theorem iX7_count_108 : zI cX7_count 108 (.aload_n 0) 1 109 := ⟨by decide +kernel, rfl⟩
theorem iX7_count_121 : zI cX7_count 121 (.ireturn) 1 122 := ⟨by decide +kernel, rfl⟩
theorem iX7_count_120 : zI cX7_count 120 (.iaload) 1 121 := ⟨by decide +kernel, rfl⟩
theorem iX7_count_119 : zI cX7_count 119 (.iconst 1) 1 120 := ⟨by decide +kernel, rfl⟩
theorem iX7_count_116 : zI cX7_count 116 (.getfield 13) 3 119 := ⟨by decide +kernel, rfl⟩
theorem iX7_count_115 : zI cX7_count 115 (.aload_n 0) 1 116 := ⟨by decide +kernel, rfl⟩
theorem iX7_count_128 : zI cX7_count 128 (.ireturn) 1 129 := ⟨by decide +kernel, rfl⟩
theorem iX7_count_127 : zI cX7_count 127 (.iaload) 1 128 := ⟨by decide +kernel, rfl⟩
theorem iX7_count_126 : zI cX7_count 126 (.iconst 2) 1 127 := ⟨by decide +kernel, rfl⟩
theorem iX7_count_123 : zI cX7_count 123 (.getfield 13) 3 126 := ⟨by decide +kernel, rfl⟩
theorem iX7_count_122 : zI cX7_count 122 (.aload_n 0) 1 123 := ⟨by decide +kernel, rfl⟩
theorem iX7_count_135 : zI cX7_count 135 (.ireturn) 1 136 := ⟨by decide +kernel, rfl⟩
theorem iX7_count_134 : zI cX7_count 134 (.iaload) 1 135 := ⟨by decide +kernel, rfl⟩
theorem iX7_count_133 : zI cX7_count 133 (.iconst 3) 1 134 := ⟨by decide +kernel, rfl⟩
theorem iX7_count_130 : zI cX7_count 130 (.getfield 13) 3 133 := ⟨by decide +kernel, rfl⟩
theorem iX7_count_129 : zI cX7_count 129 (.aload_n 0) 1 130 := ⟨by decide +kernel, rfl⟩
theorem iX7_count_142 : zI cX7_count 142 (.ireturn) 1 143 := ⟨by decide +kernel, rfl⟩
theorem iX7_count_141 : zI cX7_count 141 (.iaload) 1 142 := ⟨by decide +kernel, rfl⟩
theorem iX7_count_140 : zI cX7_count 140 (.iconst 4) 1 141 := ⟨by decide +kernel, rfl⟩
theorem iX7_count_137 : zI cX7_count 137 (.getfield 13) 3 140 := ⟨by decide +kernel, rfl⟩
theorem iX7_count_136 : zI cX7_count 136 (.aload_n 0) 1 137 := ⟨by decide +kernel, rfl⟩
theorem iX7_count_144 : zI cX7_count 144 (.invokevirtual 115) 3 147 := ⟨by decide +kernel, rfl⟩
theorem iX7_count_147 : zI cX7_count 147 (.ireturn) 1 148 := ⟨by decide +kernel, rfl⟩
theorem iX7_count_143 : zI cX7_count 143 (.aload_n 0) 1 144 := ⟨by decide +kernel, rfl⟩
theorem iX7_count_149 : zI cX7_count 149 (.ireturn) 1 150 := ⟨by decide +kernel, rfl⟩
theorem iX7_count_148 : zI cX7_count 148 (.iload_n 2) 1 149 := ⟨by decide +kernel, rfl⟩
theorem iX7_count_157 : zI cX7_count 157 (.ireturn) 1 158 := ⟨by decide +kernel, rfl⟩
theorem iX7_count_156 : zI cX7_count 156 (.iaload) 1 157 := ⟨by decide +kernel, rfl⟩
theorem iX7_count_154 : zI cX7_count 154 (.bipush 66) 2 156 := ⟨by decide +kernel, rfl⟩
theorem iX7_count_151 : zI cX7_count 151 (.getfield 28) 3 154 := ⟨by decide +kernel, rfl⟩
theorem iX7_count_150 : zI cX7_count 150 (.aload_n 0) 1 151 := ⟨by decide +kernel, rfl⟩
theorem iX7_count_166 : zI cX7_count 166 (.invokevirtual 194) 3 169 := ⟨by decide +kernel, rfl⟩
theorem iX7_count_169 : zI cX7_count 169 (.ireturn) 1 170 := ⟨by decide +kernel, rfl⟩
theorem iX7_count_165 : zI cX7_count 165 (.iaload) 1 166 := ⟨by decide +kernel, rfl⟩
theorem iX7_count_163 : zI cX7_count 163 (.bipush 42) 2 165 := ⟨by decide +kernel, rfl⟩
theorem iX7_count_160 : zI cX7_count 160 (.getfield 28) 3 163 := ⟨by decide +kernel, rfl⟩
theorem iX7_count_159 : zI cX7_count 159 (.aload_n 0) 1 160 := ⟨by decide +kernel, rfl⟩
theorem iX7_count_158 : zI cX7_count 158 (.aload_n 0) 1 159 := ⟨by decide +kernel, rfl⟩
theorem iX7_count_173 : zI cX7_count 173 (.invokevirtual 63) 3 176 := ⟨by decide +kernel, rfl⟩
theorem iX7_count_176 : zI cX7_count 176 (.ireturn) 1 177 := ⟨by decide +kernel, rfl⟩
theorem iX7_count_171 : zI cX7_count 171 (.bipush 63) 2 173 := ⟨by decide +kernel, rfl⟩
theorem iX7_count_170 : zI cX7_count 170 (.aload_n 0) 1 171 := ⟨by decide +kernel, rfl⟩
theorem iX7_count_181 : zI cX7_count 181 (.ireturn) 1 182 := ⟨by decide +kernel, rfl⟩
theorem iX7_count_178 : zI cX7_count 178 (.getfield 59) 3 181 := ⟨by decide +kernel, rfl⟩
theorem iX7_count_177 : zI cX7_count 177 (.aload_n 0) 1 178 := ⟨by decide +kernel, rfl⟩
theorem iX7_count_186 : zI cX7_count 186 (.ireturn) 1 187 := ⟨by decide +kernel, rfl⟩
theorem iX7_count_183 : zI cX7_count 183 (.getfield 70) 3 186 := ⟨by decide +kernel, rfl⟩
theorem iX7_count_182 : zI cX7_count 182 (.aload_n 0) 1 183 := ⟨by decide +kernel, rfl⟩
theorem iX7_count_188 : zI cX7_count 188 (.ireturn) 1 189 := ⟨by decide +kernel, rfl⟩
theorem iX7_count_187 : zI cX7_count 187 (.iconst (-1)) 1 188 := ⟨by decide +kernel, rfl⟩
theorem iX7_count_45 : zI cX7_count 45 (.iload_n 1) 1 46 := ⟨by decide +kernel, rfl⟩
theorem iX7_count_3 : zI cX7_count 3 (.istore_n 3) 1 4 := ⟨by decide +kernel, rfl⟩
theorem iX7_count_2 : zI cX7_count 2 (.iconst 0) 1 3 := ⟨by decide +kernel, rfl⟩
theorem iX7_count_1 : zI cX7_count 1 (.istore_n 2) 1 2 := ⟨by decide +kernel, rfl⟩
theorem iX7_count_0 : zI cX7_count 0 (.iconst 0) 1 1 := ⟨by decide +kernel, rfl⟩
set_option maxHeartbeats 4000000 in
set_option maxRecDepth 100000 in
theorem m_Mo_count (x1 : Int32) (h : zH) : zM yX7_count cX7_count 4 (some .int) 4 shM (fun ad => [.ref (ad 0), .int x1]) h (eP h) (Mo_count x1 h) := by
  refine zM.of (by decide) (fun _ => rfl) (fun _ => Nat.le_of_ble_eq_true rfl) (fun X ad hnL C => ?_)
  show zG X ad shM (eP h) 0 [some (.ref (ad 0)), some (.int x1), none, none] [] h _
  unfold Mo_count
  refine g_iconst C 0 iX7_count_0 (by decide) ?_
  refine g_istore_n (lv' := [some (.ref (ad 0)), some (.int x1), some (.int 0), none]) C hnL iX7_count_1 (by decide) rfl ?_
  refine g_iconst C 0 iX7_count_2 (by decide) ?_
  refine g_istore_n (lv' := [some (.ref (ad 0)), some (.int x1), some (.int 0), some (.int 0)]) C hnL iX7_count_3 (by decide) rfl ?_
  have L4 : ∀ (k45 : Int32 → Option (Int32)), (∀ (y2 : Int32), zG X ad shM (eP h) 45 [some (.ref (ad 0)), some (.int x1), some (.int y2), none] [] h (k45 y2)) → ∀ (n : Nat) (x2 x3 : Int32), zG X ad shM (eP h) 4 [some (.ref (ad 0)), some (.int x1), some (.int x2), some (.int x3)] [] h (Mo_count_L4 h k45 n x2 x3) := by
    intro k45 hk45 n
    induction n with
    | zero =>
      intro x2 x3
      exact g_none
    | succ n ih4 =>
      intro x2 x3
      rw [Mo_count_L4]
      refine g_iload_n C iX7_count_4 rfl ?_
      refine g_aload_n C iX7_count_5 rfl ?_
      refine g_getR (b := 2) C fX7_13 iX7_count_6 mh0 rfl ?_
      refine g_iconst C 0 iX7_count_9 (by decide) ?_
      refine g_ialoadL C 0 iX7_count_10 mh2 (by decide) (by decide) ?_
      refine g_icmp_ge C 45 iX7_count_11 (by decide) (fun c11 => ?_) (fun c11 => ?_)
      · refine g_sub (lv' := [some (.ref (ad 0)), some (.int x1), some (.int x2), none]) ⟨rfl, ⟨rfl, ⟨rfl, trivial⟩⟩⟩ ?_
        exact hk45 _
      · refine g_iload_n C iX7_count_14 rfl ?_
        refine g_aload_n C iX7_count_15 rfl ?_
        refine g_iload_n C iX7_count_16 rfl ?_
        refine g_callV C wX7_47 iX7_count_17 (m_Mo_isLowest x3 h) (by decide) mh0 rfl rfl rfl rfl (Nat.le_of_ble_eq_true rfl) (fun r => ?_)
        show zG X ad shM (eP h) 20 [some (.ref (ad 0)), some (.int x1), some (.int x2), some (.int x3)] [.int r, .int x2] h _
        refine g_if_eq C 36 iX7_count_20 (by decide) (fun c20 => ?_) (fun c20 => ?_)
        · refine g_iconst C 0 iX7_count_36 (by decide) ?_
          refine g_iadd C iX7_count_37 ?_
          refine g_top (fun x2_1 => ?_)
          refine g_istore_n (lv' := [some (.ref (ad 0)), some (.int x1), some (.int x2_1), some (.int x3)]) C hnL iX7_count_38 (by decide) rfl ?_
          refine g_iinc (v := (x3 + 1)) (lv' := [some (.ref (ad 0)), some (.int x1), some (.int x2_1), some (.int (x3 + 1))]) C hnL iX7_count_39 (by decide) rfl rfl rfl ?_
          refine g_goto C 4 iX7_count_42 (by decide) ?_
          exact ih4 _ _
        · refine g_aload_n C iX7_count_23 rfl ?_
          refine g_getR (b := 7) C fX7_28 iX7_count_24 mh0 rfl ?_
          refine g_iload_n C iX7_count_27 rfl ?_
          refine g_iaload C iX7_count_28 mh7 ?_
          refine g_if_ne C 36 iX7_count_29 (by decide) (fun c29 => ?_) (fun c29 => ?_)
          · refine g_iconst C 1 iX7_count_32 (by decide) ?_
            refine g_goto C 37 iX7_count_33 (by decide) ?_
            refine g_iadd C iX7_count_37 ?_
            refine g_top (fun x2_3 => ?_)
            refine g_istore_n (lv' := [some (.ref (ad 0)), some (.int x1), some (.int x2_3), some (.int x3)]) C hnL iX7_count_38 (by decide) rfl ?_
            refine g_iinc (v := (x3 + 1)) (lv' := [some (.ref (ad 0)), some (.int x1), some (.int x2_3), some (.int (x3 + 1))]) C hnL iX7_count_39 (by decide) rfl rfl rfl ?_
            refine g_goto C 4 iX7_count_42 (by decide) ?_
            exact ih4 _ _
          · refine g_iconst C 0 iX7_count_36 (by decide) ?_
            refine g_iadd C iX7_count_37 ?_
            refine g_top (fun x2_2 => ?_)
            refine g_istore_n (lv' := [some (.ref (ad 0)), some (.int x1), some (.int x2_2), some (.int x3)]) C hnL iX7_count_38 (by decide) rfl ?_
            refine g_iinc (v := (x3 + 1)) (lv' := [some (.ref (ad 0)), some (.int x1), some (.int x2_2), some (.int (x3 + 1))]) C hnL iX7_count_39 (by decide) rfl rfl rfl ?_
            refine g_goto C 4 iX7_count_42 (by decide) ?_
            exact ih4 _ _
  refine L4 _ (fun x2_4 => ?_) 1000 _ _
  show zG X ad shM (eP h) 45 [some (.ref (ad 0)), some (.int x1), some (.int x2_4), none] [] h _
  refine g_iload_n C iX7_count_45 rfl ?_
  refine g_ite (fun c46 => ?_) (fun c46_0 => ?_)
  · refine g_tab C 108 iX7_count_46 (by rw [c46]; decide +kernel) ?_
    refine g_aload_n C iX7_count_108 rfl ?_
    refine g_getR (b := 2) C fX7_13 iX7_count_109 mh0 rfl ?_
    refine g_iconst C 0 iX7_count_112 (by decide) ?_
    refine g_ialoadL C 0 iX7_count_113 mh2 (by decide) (by decide) ?_
    exact g_iret C iX7_count_114 rfl
  refine g_ite (fun c46 => ?_) (fun c46_1 => ?_)
  · refine g_tab C 115 iX7_count_46 (by rw [c46]; decide +kernel) ?_
    refine g_aload_n C iX7_count_115 rfl ?_
    refine g_getR (b := 2) C fX7_13 iX7_count_116 mh0 rfl ?_
    refine g_iconst C 1 iX7_count_119 (by decide) ?_
    refine g_ialoadL C 1 iX7_count_120 mh2 (by decide) (by decide) ?_
    exact g_iret C iX7_count_121 rfl
  refine g_ite (fun c46 => ?_) (fun c46_2 => ?_)
  · refine g_tab C 122 iX7_count_46 (by rw [c46]; decide +kernel) ?_
    refine g_aload_n C iX7_count_122 rfl ?_
    refine g_getR (b := 2) C fX7_13 iX7_count_123 mh0 rfl ?_
    refine g_iconst C 2 iX7_count_126 (by decide) ?_
    refine g_ialoadL C 2 iX7_count_127 mh2 (by decide) (by decide) ?_
    exact g_iret C iX7_count_128 rfl
  refine g_ite (fun c46 => ?_) (fun c46_3 => ?_)
  · refine g_tab C 129 iX7_count_46 (by rw [c46]; decide +kernel) ?_
    refine g_aload_n C iX7_count_129 rfl ?_
    refine g_getR (b := 2) C fX7_13 iX7_count_130 mh0 rfl ?_
    refine g_iconst C 3 iX7_count_133 (by decide) ?_
    refine g_ialoadL C 3 iX7_count_134 mh2 (by decide) (by decide) ?_
    exact g_iret C iX7_count_135 rfl
  refine g_ite (fun c46 => ?_) (fun c46_4 => ?_)
  · refine g_tab C 136 iX7_count_46 (by rw [c46]; decide +kernel) ?_
    refine g_aload_n C iX7_count_136 rfl ?_
    refine g_getR (b := 2) C fX7_13 iX7_count_137 mh0 rfl ?_
    refine g_iconst C 4 iX7_count_140 (by decide) ?_
    refine g_ialoadL C 4 iX7_count_141 mh2 (by decide) (by decide) ?_
    exact g_iret C iX7_count_142 rfl
  refine g_ite (fun c46 => ?_) (fun c46_5 => ?_)
  · refine g_tab C 143 iX7_count_46 (by rw [c46]; decide +kernel) ?_
    refine g_aload_n C iX7_count_143 rfl ?_
    refine g_callV C wX7_115 iX7_count_144 (m_Mo_islands h) (by decide) mh0 rfl rfl rfl rfl (Nat.le_of_ble_eq_true rfl) (fun r_1 => ?_)
    show zG X ad shM (eP h) 147 [some (.ref (ad 0)), some (.int x1), some (.int x2_4), none] [.int r_1] h _
    exact g_iret C iX7_count_147 rfl
  refine g_ite (fun c46 => ?_) (fun c46_6 => ?_)
  · refine g_tab C 148 iX7_count_46 (by rw [c46]; decide +kernel) ?_
    refine g_iload_n C iX7_count_148 rfl ?_
    exact g_iret C iX7_count_149 rfl
  refine g_ite (fun c46 => ?_) (fun c46_7 => ?_)
  · refine g_tab C 150 iX7_count_46 (by rw [c46]; decide +kernel) ?_
    refine g_aload_n C iX7_count_150 rfl ?_
    refine g_getR (b := 7) C fX7_28 iX7_count_151 mh0 rfl ?_
    refine g_bipush C 66 iX7_count_154 (by decide) ?_
    refine g_ialoadL C 66 iX7_count_156 mh7 (by decide) (by decide) ?_
    exact g_iret C iX7_count_157 rfl
  refine g_ite (fun c46 => ?_) (fun c46_8 => ?_)
  · refine g_tab C 158 iX7_count_46 (by rw [c46]; decide +kernel) ?_
    refine g_aload_n C iX7_count_158 rfl ?_
    refine g_aload_n C iX7_count_159 rfl ?_
    refine g_getR (b := 7) C fX7_28 iX7_count_160 mh0 rfl ?_
    refine g_bipush C 42 iX7_count_163 (by decide) ?_
    refine g_ialoadL C 42 iX7_count_165 mh7 (by decide) (by decide) ?_
    refine g_callV C wX7_194 iX7_count_166 (m_Mo_bits (h 7 42) h) (by decide) mh0 rfl rfl rfl rfl (Nat.le_of_ble_eq_true rfl) (fun r_2 => ?_)
    show zG X ad shM (eP h) 169 [some (.ref (ad 0)), some (.int x1), some (.int x2_4), none] [.int r_2] h _
    exact g_iret C iX7_count_169 rfl
  refine g_ite (fun c46 => ?_) (fun c46_9 => ?_)
  · refine g_tab C 170 iX7_count_46 (by rw [c46]; decide +kernel) ?_
    refine g_aload_n C iX7_count_170 rfl ?_
    refine g_bipush C 63 iX7_count_171 (by decide) ?_
    refine g_callV C wX7_63 iX7_count_173 (m_Mo_load 63 h) (by decide) mh0 rfl rfl rfl rfl (Nat.le_of_ble_eq_true rfl) (fun r_3 => ?_)
    show zG X ad shM (eP h) 176 [some (.ref (ad 0)), some (.int x1), some (.int x2_4), none] [.int r_3] h _
    exact g_iret C iX7_count_176 rfl
  refine g_ite (fun c46 => ?_) (fun c46_10 => ?_)
  · refine g_tab C 177 iX7_count_46 (by rw [c46]; decide +kernel) ?_
    refine g_aload_n C iX7_count_177 rfl ?_
    refine g_getI C fX7_59 iX7_count_178 mh0 rfl ?_
    exact g_iret C iX7_count_181 rfl
  refine g_ite (fun c46 => ?_) (fun c46_11 => ?_)
  · refine g_tab C 182 iX7_count_46 (by rw [c46]; decide +kernel) ?_
    refine g_aload_n C iX7_count_182 rfl ?_
    refine g_getI C fX7_70 iX7_count_183 mh0 rfl ?_
    exact g_iret C iX7_count_186 rfl
  refine g_tab C 187 iX7_count_46 ((zTg_def [0, 1, 2, 3, 4, 5, 6, 7, 8, 9, 10, 11] (List.forall_mem_cons.mpr ⟨fun z9 => c46_0 (Int32.toInt_inj.mp (z9.trans (by decide))), List.forall_mem_cons.mpr ⟨fun z9 => c46_1 (Int32.toInt_inj.mp (z9.trans (by decide))), List.forall_mem_cons.mpr ⟨fun z9 => c46_2 (Int32.toInt_inj.mp (z9.trans (by decide))), List.forall_mem_cons.mpr ⟨fun z9 => c46_3 (Int32.toInt_inj.mp (z9.trans (by decide))), List.forall_mem_cons.mpr ⟨fun z9 => c46_4 (Int32.toInt_inj.mp (z9.trans (by decide))), List.forall_mem_cons.mpr ⟨fun z9 => c46_5 (Int32.toInt_inj.mp (z9.trans (by decide))), List.forall_mem_cons.mpr ⟨fun z9 => c46_6 (Int32.toInt_inj.mp (z9.trans (by decide))), List.forall_mem_cons.mpr ⟨fun z9 => c46_7 (Int32.toInt_inj.mp (z9.trans (by decide))), List.forall_mem_cons.mpr ⟨fun z9 => c46_8 (Int32.toInt_inj.mp (z9.trans (by decide))), List.forall_mem_cons.mpr ⟨fun z9 => c46_9 (Int32.toInt_inj.mp (z9.trans (by decide))), List.forall_mem_cons.mpr ⟨fun z9 => c46_10 (Int32.toInt_inj.mp (z9.trans (by decide))), List.forall_mem_cons.mpr ⟨fun z9 => c46_11 (Int32.toInt_inj.mp (z9.trans (by decide))), fun _ h9 => by cases h9⟩⟩⟩⟩⟩⟩⟩⟩⟩⟩⟩⟩) (by decide +kernel)).trans (by decide)) ?_
  refine g_iconst C (-1) iX7_count_187 (by decide) ?_
  exact g_iret C iX7_count_188 rfl

