theorem iX6_ahead_2 : zI cX6_ahead 2 (.if_icmp .lt 29) 3 5 := ⟨by decide +kernel, rfl⟩
theorem iX6_ahead_32 : zI cX6_ahead 32 (.ireturn) 1 33 := ⟨by decide +kernel, rfl⟩
theorem iX6_ahead_31 : zI cX6_ahead 31 (.iconst (-1)) 1 32 := ⟨by decide +kernel, rfl⟩
theorem iX6_ahead_8 : zI cX6_ahead 8 (.if_icmp .gt 23) 3 11 := ⟨by decide +kernel, rfl⟩
theorem iX6_ahead_16 : zI cX6_ahead 16 (.invokevirtual 165) 3 19 := ⟨by decide +kernel, rfl⟩
theorem iX6_ahead_19 : zI cX6_ahead 19 (.ifCond .eq 12) 3 22 := ⟨by decide +kernel, rfl⟩
theorem iX6_ahead_23 : zI cX6_ahead 23 (.ifCond .lt 8) 3 26 := ⟨by decide +kernel, rfl⟩
theorem iX6_ahead_28 : zI cX6_ahead 28 (.if_icmp .le 5) 3 31 := ⟨by decide +kernel, rfl⟩
theorem fX6_42 : zFl RX6 42 6 5 := ⟨RX6, TX6, 9, rfl, by decide, (zmem 456 (by decide +kernel) (by decide +kernel)), u_inX6⟩
set_option maxRecDepth 100000 in
theorem wX6_234 : zCv RX6 234 yX1_copy cX1_copy 2 none 1 := ⟨⟨(zmem 716 (by decide +kernel) (by decide +kernel)), (zmem 67 (by decide +kernel) (by decide +kernel)), (zmem 515 rfl rfl), ⟨by decide, by decide, by decide +kernel⟩, by decide⟩, (zmem 513 (by decide +kernel) (by decide +kernel)), (zmem 514 (by decide +kernel) (by decide +kernel))⟩
theorem iX6_ahead_41 : zI cX6_ahead 41 (.invokevirtual 234) 3 44 := ⟨by decide +kernel, rfl⟩
theorem fX6_54 : zFl RX6 54 6 7 := ⟨RX6, TX6, 9, rfl, by decide, (zmem 458 (by decide +kernel) (by decide +kernel)), u_inX6⟩
theorem iX6_ahead_48 : zI cX6_ahead 48 (.invokevirtual 107) 3 51 := ⟨by decide +kernel, rfl⟩
theorem iX6_ahead_73 : zI cX6_ahead 73 (.if_icmp .ge 33) 3 76 := ⟨by decide +kernel, rfl⟩
theorem iX6_ahead_80 : zI cX6_ahead 80 (.invokevirtual 110) 3 83 := ⟨by decide +kernel, rfl⟩
set_option maxRecDepth 100000 in
theorem wX6_237 : zMw RX6 237 Lib.Math.min.name Lib.Math.min.code 2 := ⟨(zmem 717 (by decide +kernel) (by decide +kernel)), (zmem 429 (by decide +kernel) (by decide +kernel)), (zmem 75 (by decide +kernel) (by decide +kernel)), (zmem 430 rfl rfl)⟩
theorem iX6_ahead_95 : zI cX6_ahead 95 (.invokestatic 237) 3 98 := ⟨by decide +kernel, rfl⟩
theorem iX6_ahead_103 : zI cX6_ahead 103 (.goto (-33)) 3 106 := ⟨by decide +kernel, rfl⟩
theorem iX6_ahead_100 : zI cX6_ahead 100 (.iinc 6 1) 3 103 := ⟨by decide +kernel, rfl⟩
theorem iX6_ahead_98 : zI cX6_ahead 98 (.istore 5) 2 100 := ⟨by decide +kernel, rfl⟩
theorem iX6_ahead_94 : zI cX6_ahead 94 (.iaload) 1 95 := ⟨by decide +kernel, rfl⟩
theorem iX6_ahead_92 : zI cX6_ahead 92 (.iload 4) 2 94 := ⟨by decide +kernel, rfl⟩
theorem iX6_ahead_89 : zI cX6_ahead 89 (.getfield 171) 3 92 := ⟨by decide +kernel, rfl⟩
theorem iX6_ahead_86 : zI cX6_ahead 86 (.getfield 42) 3 89 := ⟨by decide +kernel, rfl⟩
theorem iX6_ahead_85 : zI cX6_ahead 85 (.aload_n 0) 1 86 := ⟨by decide +kernel, rfl⟩
theorem iX6_ahead_83 : zI cX6_ahead 83 (.iload 5) 2 85 := ⟨by decide +kernel, rfl⟩
theorem iX6_ahead_77 : zI cX6_ahead 77 (.getfield 54) 3 80 := ⟨by decide +kernel, rfl⟩
theorem iX6_ahead_76 : zI cX6_ahead 76 (.aload_n 0) 1 77 := ⟨by decide +kernel, rfl⟩
theorem iX6_ahead_72 : zI cX6_ahead 72 (.iload_n 1) 1 73 := ⟨by decide +kernel, rfl⟩
theorem iX6_ahead_70 : zI cX6_ahead 70 (.iload 6) 2 72 := ⟨by decide +kernel, rfl⟩
theorem iX6_ahead_107 : zI cX6_ahead 107 (.tableswitch 59 0 3 #[29, 40, 43, 51]) 29 136 := ⟨by decide +kernel, rfl⟩
theorem iX6_ahead_146 : zI cX6_ahead 146 (.ireturn) 1 147 := ⟨by decide +kernel, rfl⟩
theorem iX6_ahead_145 : zI cX6_ahead 145 (.iaload) 1 146 := ⟨by decide +kernel, rfl⟩
theorem iX6_ahead_143 : zI cX6_ahead 143 (.iload 4) 2 145 := ⟨by decide +kernel, rfl⟩
theorem iX6_ahead_140 : zI cX6_ahead 140 (.getfield 171) 3 143 := ⟨by decide +kernel, rfl⟩
theorem iX6_ahead_137 : zI cX6_ahead 137 (.getfield 42) 3 140 := ⟨by decide +kernel, rfl⟩
theorem iX6_ahead_136 : zI cX6_ahead 136 (.aload_n 0) 1 137 := ⟨by decide +kernel, rfl⟩
theorem iX6_ahead_149 : zI cX6_ahead 149 (.ireturn) 1 150 := ⟨by decide +kernel, rfl⟩
theorem iX6_ahead_147 : zI cX6_ahead 147 (.iload 5) 2 149 := ⟨by decide +kernel, rfl⟩
theorem iX6_ahead_157 : zI cX6_ahead 157 (.ireturn) 1 158 := ⟨by decide +kernel, rfl⟩
theorem iX6_ahead_154 : zI cX6_ahead 154 (.getfield 113) 3 157 := ⟨by decide +kernel, rfl⟩
theorem iX6_ahead_151 : zI cX6_ahead 151 (.getfield 54) 3 154 := ⟨by decide +kernel, rfl⟩
theorem iX6_ahead_150 : zI cX6_ahead 150 (.aload_n 0) 1 151 := ⟨by decide +kernel, rfl⟩
theorem fX6_243 : zFl RX6 243 0 3 := ⟨RX0, TX0, 5, rfl, by decide, (zmem 269 (by decide +kernel) (by decide +kernel)), u_inX0⟩
theorem iX6_ahead_165 : zI cX6_ahead 165 (.ireturn) 1 166 := ⟨by decide +kernel, rfl⟩
theorem iX6_ahead_162 : zI cX6_ahead 162 (.getfield 243) 3 165 := ⟨by decide +kernel, rfl⟩
theorem iX6_ahead_159 : zI cX6_ahead 159 (.getfield 54) 3 162 := ⟨by decide +kernel, rfl⟩
theorem iX6_ahead_158 : zI cX6_ahead 158 (.aload_n 0) 1 159 := ⟨by decide +kernel, rfl⟩
theorem fX6_246 : zFl RX6 246 0 4 := ⟨RX0, TX0, 5, rfl, by decide, (zmem 271 (by decide +kernel) (by decide +kernel)), u_inX0⟩
theorem iX6_ahead_173 : zI cX6_ahead 173 (.ireturn) 1 174 := ⟨by decide +kernel, rfl⟩
theorem iX6_ahead_170 : zI cX6_ahead 170 (.getfield 246) 3 173 := ⟨by decide +kernel, rfl⟩
theorem iX6_ahead_167 : zI cX6_ahead 167 (.getfield 54) 3 170 := ⟨by decide +kernel, rfl⟩
theorem iX6_ahead_166 : zI cX6_ahead 166 (.aload_n 0) 1 167 := ⟨by decide +kernel, rfl⟩
theorem iX6_ahead_106 : zI cX6_ahead 106 (.iload_n 3) 1 107 := ⟨by decide +kernel, rfl⟩
theorem iX6_ahead_68 : zI cX6_ahead 68 (.istore 6) 2 70 := ⟨by decide +kernel, rfl⟩
theorem iX6_ahead_67 : zI cX6_ahead 67 (.iconst 0) 1 68 := ⟨by decide +kernel, rfl⟩
theorem iX6_ahead_65 : zI cX6_ahead 65 (.istore 5) 2 67 := ⟨by decide +kernel, rfl⟩
theorem iX6_ahead_62 : zI cX6_ahead 62 (.sipush 5200) 3 65 := ⟨by decide +kernel, rfl⟩
theorem iX6_ahead_60 : zI cX6_ahead 60 (.istore 4) 2 62 := ⟨by decide +kernel, rfl⟩
theorem iX6_ahead_59 : zI cX6_ahead 59 (.iaload) 1 60 := ⟨by decide +kernel, rfl⟩
theorem iX6_ahead_58 : zI cX6_ahead 58 (.iload_n 2) 1 59 := ⟨by decide +kernel, rfl⟩
theorem iX6_ahead_55 : zI cX6_ahead 55 (.getfield 142) 3 58 := ⟨by decide +kernel, rfl⟩
theorem iX6_ahead_52 : zI cX6_ahead 52 (.getfield 42) 3 55 := ⟨by decide +kernel, rfl⟩
theorem iX6_ahead_51 : zI cX6_ahead 51 (.aload_n 0) 1 52 := ⟨by decide +kernel, rfl⟩
theorem iX6_ahead_45 : zI cX6_ahead 45 (.getfield 54) 3 48 := ⟨by decide +kernel, rfl⟩
theorem iX6_ahead_44 : zI cX6_ahead 44 (.aload_n 0) 1 45 := ⟨by decide +kernel, rfl⟩
theorem iX6_ahead_38 : zI cX6_ahead 38 (.getfield 38) 3 41 := ⟨by decide +kernel, rfl⟩
theorem iX6_ahead_37 : zI cX6_ahead 37 (.aload_n 0) 1 38 := ⟨by decide +kernel, rfl⟩
theorem iX6_ahead_34 : zI cX6_ahead 34 (.getfield 42) 3 37 := ⟨by decide +kernel, rfl⟩
theorem iX6_ahead_33 : zI cX6_ahead 33 (.aload_n 0) 1 34 := ⟨by decide +kernel, rfl⟩
theorem iX6_ahead_27 : zI cX6_ahead 27 (.iconst 4) 1 28 := ⟨by decide +kernel, rfl⟩
theorem iX6_ahead_26 : zI cX6_ahead 26 (.iload_n 3) 1 27 := ⟨by decide +kernel, rfl⟩
theorem iX6_ahead_22 : zI cX6_ahead 22 (.iload_n 3) 1 23 := ⟨by decide +kernel, rfl⟩
theorem iX6_ahead_15 : zI cX6_ahead 15 (.iload_n 2) 1 16 := ⟨by decide +kernel, rfl⟩
theorem iX6_ahead_12 : zI cX6_ahead 12 (.getfield 30) 3 15 := ⟨by decide +kernel, rfl⟩
theorem iX6_ahead_11 : zI cX6_ahead 11 (.aload_n 0) 1 12 := ⟨by decide +kernel, rfl⟩
theorem iX6_ahead_6 : zI cX6_ahead 6 (.bipush 60) 2 8 := ⟨by decide +kernel, rfl⟩
theorem iX6_ahead_5 : zI cX6_ahead 5 (.iload_n 1) 1 6 := ⟨by decide +kernel, rfl⟩
theorem iX6_ahead_1 : zI cX6_ahead 1 (.iconst 1) 1 2 := ⟨by decide +kernel, rfl⟩
theorem iX6_ahead_0 : zI cX6_ahead 0 (.iload_n 1) 1 1 := ⟨by decide +kernel, rfl⟩
set_option maxHeartbeats 4000000 in
set_option maxRecDepth 100000 in
theorem m_SS_ahead (x1 : Int32) (x2 : Int32) (x3 : Int32) (h : zH) : zM yX6_ahead cX6_ahead 7 (some .int) 6 shX (fun ad => [.ref (ad 0), .int x1, .int x2, .int x3]) h eI (SS_ahead x1 x2 x3 h) := by
  refine zM.of (by decide) (fun _ => rfl) (fun _ => Nat.le_of_ble_eq_true rfl) (fun X ad hnL C => ?_)
  show zG X ad shX eI 0 [some (.ref (ad 0)), some (.int x1), some (.int x2), some (.int x3), none, none, none] [] h _
  unfold SS_ahead
  refine g_iload_n C iX6_ahead_0 rfl ?_
  refine g_iconst C 1 iX6_ahead_1 (by decide) ?_
  refine g_icmp_lt C 31 iX6_ahead_2 (by decide) (fun c2 => ?_) (fun c2 => ?_)
  · refine g_iconst C (-1) iX6_ahead_31 (by decide) ?_
    exact g_iret C iX6_ahead_32 rfl
  · refine g_iload_n C iX6_ahead_5 rfl ?_
    refine g_bipush C 60 iX6_ahead_6 (by decide) ?_
    refine g_icmp_gt C 31 iX6_ahead_8 (by decide) (fun c8 => ?_) (fun c8 => ?_)
    · refine g_iconst C (-1) iX6_ahead_31 (by decide) ?_
      exact g_iret C iX6_ahead_32 rfl
    · refine g_aload_n C iX6_ahead_11 rfl ?_
      refine g_getR (b := 17) C fX6_30 iX6_ahead_12 sh0 rfl ?_
      refine g_iload_n C iX6_ahead_15 rfl ?_
      refine g_callV C wX6_165 iX6_ahead_16 (m_Pl_isBus 17 isP17 x2 h) (by decide) isP17.1 rfl rfl rfl rfl (Nat.le_of_ble_eq_true rfl) (fun r => ?_)
      show zG X ad shX eI 19 [some (.ref (ad 0)), some (.int x1), some (.int x2), some (.int x3), none, none, none] [.int r] h _
      refine g_if_eq C 31 iX6_ahead_19 (by decide) (fun c19 => ?_) (fun c19 => ?_)
      · refine g_iconst C (-1) iX6_ahead_31 (by decide) ?_
        exact g_iret C iX6_ahead_32 rfl
      · refine g_iload_n C iX6_ahead_22 rfl ?_
        refine g_if_lt C 31 iX6_ahead_23 (by decide) (fun c23 => ?_) (fun c23 => ?_)
        · refine g_iconst C (-1) iX6_ahead_31 (by decide) ?_
          exact g_iret C iX6_ahead_32 rfl
        · refine g_iload_n C iX6_ahead_26 rfl ?_
          refine g_iconst C 4 iX6_ahead_27 (by decide) ?_
          refine g_icmp_le C 33 iX6_ahead_28 (by decide) (fun c28 => ?_) (fun c28 => ?_)
          · refine g_aload_n C iX6_ahead_33 rfl ?_
            refine g_getR (b := 37) C fX6_42 iX6_ahead_34 sh0 rfl ?_
            refine g_aload_n C iX6_ahead_37 rfl ?_
            refine g_getR (b := 29) C fX6_38 iX6_ahead_38 sh0 rfl ?_
            refine g_callV C wX6_234 iX6_ahead_41 (m_Gr_copy 37 isG37 29 isG29 h) (by decide) isG37.1 rfl rfl rfl rfl (Nat.le_of_ble_eq_true rfl) (fun h_1 => ?_)
            show zG X ad shX eI 44 [some (.ref (ad 0)), some (.int x1), some (.int x2), some (.int x3), none, none, none] [] h_1 _
            refine g_aload_n C iX6_ahead_44 rfl ?_
            refine g_getR (b := 46) C fX6_54 iX6_ahead_45 sh0 rfl ?_
            refine g_callV C wX6_107 iX6_ahead_48 (m_Co_forget 46 37 isC46 isG37 h_1) (by decide) isC46 rfl rfl rfl rfl (Nat.le_of_ble_eq_true rfl) (fun h_2 => ?_)
            show zG X ad shX eI 51 [some (.ref (ad 0)), some (.int x1), some (.int x2), some (.int x3), none, none, none] [] h_2 _
            refine g_aload_n C iX6_ahead_51 rfl ?_
            refine g_getR (b := 37) C fX6_42 iX6_ahead_52 sh0 rfl ?_
            refine g_getR (b := 38) C fX6_142 iX6_ahead_55 isG37.1 rfl ?_
            refine g_iload_n C iX6_ahead_58 rfl ?_
            refine g_iaload C iX6_ahead_59 isG37.2.1 ?_
            refine g_top (fun x4 => ?_)
            refine g_istore (lv' := [some (.ref (ad 0)), some (.int x1), some (.int x2), some (.int x3), some (.int x4), none, none]) C hnL iX6_ahead_60 (by decide) rfl ?_
            refine g_sipush C 5200 iX6_ahead_62 (by decide) ?_
            refine g_istore (lv' := [some (.ref (ad 0)), some (.int x1), some (.int x2), some (.int x3), some (.int x4), some (.int 5200), none]) C hnL iX6_ahead_65 (by decide) rfl ?_
            refine g_iconst C 0 iX6_ahead_67 (by decide) ?_
            refine g_istore (lv' := [some (.ref (ad 0)), some (.int x1), some (.int x2), some (.int x3), some (.int x4), some (.int 5200), some (.int 0)]) C hnL iX6_ahead_68 (by decide) rfl ?_
            have L70 : ∀ (k106 : Int32 → zH → Option (Int32 × zH)), (∀ (y5 : Int32) (hy : zH), zG X ad shX eI 106 [some (.ref (ad 0)), none, none, some (.int x3), some (.int x4), some (.int y5), none] [] hy (k106 y5 hy)) → ∀ (n : Nat) (x5 x6 : Int32) (h_3 : zH), zG X ad shX eI 70 [some (.ref (ad 0)), some (.int x1), none, some (.int x3), some (.int x4), some (.int x5), some (.int x6)] [] h_3 (SS_ahead_L70 x1 x4 k106 n x5 x6 h_3) := by
              intro k106 hk106 n
              induction n with
              | zero =>
                intro x5 x6 h_3
                exact g_none
              | succ n ih70 =>
                intro x5 x6 h_3
                rw [SS_ahead_L70]
                refine g_iload C iX6_ahead_70 rfl ?_
                refine g_iload_n C iX6_ahead_72 rfl ?_
                refine g_icmp_ge C 106 iX6_ahead_73 (by decide) (fun c73 => ?_) (fun c73 => ?_)
                · refine g_sub (lv' := [some (.ref (ad 0)), none, none, some (.int x3), some (.int x4), some (.int x5), none]) ⟨rfl, ⟨rfl, ⟨rfl, ⟨rfl, trivial⟩⟩⟩⟩ ?_
                  exact hk106 _ _
                · refine g_aload_n C iX6_ahead_76 rfl ?_
                  refine g_getR (b := 46) C fX6_54 iX6_ahead_77 sh0 rfl ?_
                  refine g_callV C wX6_110 iX6_ahead_80 (m_Co_pass 46 37 isC46 isG37 h_3) (by decide) isC46 rfl rfl rfl rfl (Nat.le_of_ble_eq_true rfl) (fun h_4 => ?_)
                  show zG X ad shX eI 83 [some (.ref (ad 0)), some (.int x1), none, some (.int x3), some (.int x4), some (.int x5), some (.int x6)] [] h_4 _
                  refine g_iload C iX6_ahead_83 rfl ?_
                  refine g_aload_n C iX6_ahead_85 rfl ?_
                  refine g_getR (b := 37) C fX6_42 iX6_ahead_86 sh0 rfl ?_
                  refine g_getR (b := 40) C fX6_171 iX6_ahead_89 isG37.1 rfl ?_
                  refine g_iload C iX6_ahead_92 rfl ?_
                  refine g_iaload C iX6_ahead_94 isG37.2.2.2.1 ?_
                  refine g_min C wX6_237 iX6_ahead_95 (by decide) (Nat.le_of_ble_eq_true rfl) ?_
                  refine g_top (fun x5_1 => ?_)
                  refine g_istore (lv' := [some (.ref (ad 0)), some (.int x1), none, some (.int x3), some (.int x4), some (.int x5_1), some (.int x6)]) C hnL iX6_ahead_98 (by decide) rfl ?_
                  refine g_iinc (v := (x6 + 1)) (lv' := [some (.ref (ad 0)), some (.int x1), none, some (.int x3), some (.int x4), some (.int x5_1), some (.int (x6 + 1))]) C hnL iX6_ahead_100 (by decide) rfl rfl rfl ?_
                  refine g_goto C 70 iX6_ahead_103 (by decide) ?_
                  exact ih70 _ _ _
            refine g_sub (lv' := [some (.ref (ad 0)), some (.int x1), none, some (.int x3), some (.int x4), some (.int 5200), some (.int 0)]) ⟨rfl, ⟨rfl, ⟨rfl, ⟨rfl, ⟨rfl, ⟨rfl, trivial⟩⟩⟩⟩⟩⟩ ?_
            refine L70 _ (fun x5_2 h_5 => ?_) 1000 _ _ _
            show zG X ad shX eI 106 [some (.ref (ad 0)), none, none, some (.int x3), some (.int x4), some (.int x5_2), none] [] h_5 _
            refine g_iload_n C iX6_ahead_106 rfl ?_
            refine g_ite (fun c107 => ?_) (fun c107_0 => ?_)
            · refine g_tab C 136 iX6_ahead_107 (by rw [c107]; decide +kernel) ?_
              refine g_aload_n C iX6_ahead_136 rfl ?_
              refine g_getR (b := 37) C fX6_42 iX6_ahead_137 sh0 rfl ?_
              refine g_getR (b := 40) C fX6_171 iX6_ahead_140 isG37.1 rfl ?_
              refine g_iload C iX6_ahead_143 rfl ?_
              refine g_iaload C iX6_ahead_145 isG37.2.2.2.1 ?_
              exact g_iret C iX6_ahead_146 rfl
            refine g_ite (fun c107 => ?_) (fun c107_1 => ?_)
            · refine g_tab C 147 iX6_ahead_107 (by rw [c107]; decide +kernel) ?_
              refine g_iload C iX6_ahead_147 rfl ?_
              exact g_iret C iX6_ahead_149 rfl
            refine g_ite (fun c107 => ?_) (fun c107_2 => ?_)
            · refine g_tab C 150 iX6_ahead_107 (by rw [c107]; decide +kernel) ?_
              refine g_aload_n C iX6_ahead_150 rfl ?_
              refine g_getR (b := 46) C fX6_54 iX6_ahead_151 sh0 rfl ?_
              refine g_getI C fX6_113 iX6_ahead_154 isC46 rfl ?_
              exact g_iret C iX6_ahead_157 rfl
            refine g_ite (fun c107 => ?_) (fun c107_3 => ?_)
            · refine g_tab C 158 iX6_ahead_107 (by rw [c107]; decide +kernel) ?_
              refine g_aload_n C iX6_ahead_158 rfl ?_
              refine g_getR (b := 46) C fX6_54 iX6_ahead_159 sh0 rfl ?_
              refine g_getI C fX6_243 iX6_ahead_162 isC46 rfl ?_
              exact g_iret C iX6_ahead_165 rfl
            refine g_tab C 166 iX6_ahead_107 ((zTg_def [0, 1, 2, 3] (List.forall_mem_cons.mpr ⟨fun z9 => c107_0 (Int32.toInt_inj.mp (z9.trans (by decide))), List.forall_mem_cons.mpr ⟨fun z9 => c107_1 (Int32.toInt_inj.mp (z9.trans (by decide))), List.forall_mem_cons.mpr ⟨fun z9 => c107_2 (Int32.toInt_inj.mp (z9.trans (by decide))), List.forall_mem_cons.mpr ⟨fun z9 => c107_3 (Int32.toInt_inj.mp (z9.trans (by decide))), fun _ h9 => by cases h9⟩⟩⟩⟩) (by decide +kernel)).trans (by decide)) ?_
            refine g_aload_n C iX6_ahead_166 rfl ?_
            refine g_getR (b := 46) C fX6_54 iX6_ahead_167 sh0 rfl ?_
            refine g_getI C fX6_246 iX6_ahead_170 isC46 rfl ?_
            exact g_iret C iX6_ahead_173 rfl
          · refine g_iconst C (-1) iX6_ahead_31 (by decide) ?_
            exact g_iret C iX6_ahead_32 rfl

theorem iJ6_compare_7cf53_2 : zI cJ6_compare_7cf53 2 (.if_icmp .ge 7) 3 5 := ⟨by decide +kernel, rfl⟩
theorem iJ6_compare_7cf53_11 : zI cJ6_compare_7cf53 11 (.if_icmp .ne 7) 3 14 := ⟨by decide +kernel, rfl⟩
theorem iJ6_compare_7cf53_19 : zI cJ6_compare_7cf53 19 (.ireturn) 1 20 := ⟨by decide +kernel, rfl⟩
theorem iJ6_compare_7cf53_18 : zI cJ6_compare_7cf53 18 (.iconst 1) 1 19 := ⟨by decide +kernel, rfl⟩
theorem iJ6_compare_7cf53_15 : zI cJ6_compare_7cf53 15 (.goto 4) 3 18 := ⟨by decide +kernel, rfl⟩
theorem iJ6_compare_7cf53_14 : zI cJ6_compare_7cf53 14 (.iconst 0) 1 15 := ⟨by decide +kernel, rfl⟩
theorem iJ6_compare_7cf53_10 : zI cJ6_compare_7cf53 10 (.iload_n 1) 1 11 := ⟨by decide +kernel, rfl⟩
theorem iJ6_compare_7cf53_9 : zI cJ6_compare_7cf53 9 (.iload_n 0) 1 10 := ⟨by decide +kernel, rfl⟩
theorem iJ6_compare_7cf53_6 : zI cJ6_compare_7cf53 6 (.goto 13) 3 9 := ⟨by decide +kernel, rfl⟩
theorem iJ6_compare_7cf53_5 : zI cJ6_compare_7cf53 5 (.iconst (-1)) 1 6 := ⟨by decide +kernel, rfl⟩
theorem iJ6_compare_7cf53_1 : zI cJ6_compare_7cf53 1 (.iload_n 1) 1 2 := ⟨by decide +kernel, rfl⟩
theorem iJ6_compare_7cf53_0 : zI cJ6_compare_7cf53 0 (.iload_n 0) 1 1 := ⟨by decide +kernel, rfl⟩
set_option maxHeartbeats 4000000 in
set_option maxRecDepth 100000 in
theorem m_In_compare (x0 : Int32) (x1 : Int32) (h : zH) : zM yJ6_compare_7cf53 cJ6_compare_7cf53 2 (some .int) 0 shX (fun ad => [.int x0, .int x1]) h (eP h) (In_compare x0 x1) := by
  refine zM.of (by decide) (fun _ => rfl) (fun _ => Nat.le_of_ble_eq_true rfl) (fun X ad hnL C => ?_)
  show zG X ad shX (eP h) 0 [some (.int x0), some (.int x1)] [] h _
  unfold In_compare
  refine g_iload_n C iJ6_compare_7cf53_0 rfl ?_
  refine g_iload_n C iJ6_compare_7cf53_1 rfl ?_
  refine g_icmp_ge C 9 iJ6_compare_7cf53_2 (by decide) (fun c2 => ?_) (fun c2 => ?_)
  · refine g_iload_n C iJ6_compare_7cf53_9 rfl ?_
    refine g_iload_n C iJ6_compare_7cf53_10 rfl ?_
    refine g_icmp_ne C 18 iJ6_compare_7cf53_11 (by decide) (fun c11 => ?_) (fun c11 => ?_)
    · refine g_iconst C 0 iJ6_compare_7cf53_14 (by decide) ?_
      refine g_goto C 19 iJ6_compare_7cf53_15 (by decide) ?_
      exact g_iret C iJ6_compare_7cf53_19 rfl
    · refine g_iconst C 1 iJ6_compare_7cf53_18 (by decide) ?_
      exact g_iret C iJ6_compare_7cf53_19 rfl
  · refine g_iconst C (-1) iJ6_compare_7cf53_5 (by decide) ?_
    refine g_goto C 19 iJ6_compare_7cf53_6 (by decide) ?_
    exact g_iret C iJ6_compare_7cf53_19 rfl

set_option maxRecDepth 100000 in
theorem wX6_252 : zCv RX6 252 yX4_loadOfSet cX4_loadOfSet 4 (some .int) 1 := ⟨⟨(zmem 730 (by decide +kernel) (by decide +kernel)), (zmem 66 (by decide +kernel) (by decide +kernel)), (zmem 733 rfl rfl), ⟨by decide, by decide, by decide +kernel⟩, by decide⟩, (zmem 731 (by decide +kernel) (by decide +kernel)), (zmem 732 (by decide +kernel) (by decide +kernel))⟩
theorem iX6_isLess_5 : zI cX6_isLess 5 (.invokevirtual 252) 3 8 := ⟨by decide +kernel, rfl⟩
theorem iX6_isLess_13 : zI cX6_isLess 13 (.invokevirtual 252) 3 16 := ⟨by decide +kernel, rfl⟩
set_option maxRecDepth 100000 in
theorem wX6_274 : zCs RX6 274 yJ6_compare_7cf53 cJ6_compare_7cf53 2 (some .int) 2 := ⟨⟨(zmem 735 (by decide +kernel) (by decide +kernel)), (zmem 77 (by decide +kernel) (by decide +kernel)), (zmem 737 rfl rfl), ⟨by decide, by decide, by decide +kernel⟩, by decide⟩, (zmem 736 (by decide +kernel) (by decide +kernel))⟩
theorem iX6_isLess_16 : zI cX6_isLess 16 (.invokestatic 274) 3 19 := ⟨by decide +kernel, rfl⟩
theorem iX6_isLess_21 : zI cX6_isLess 21 (.ifCond .lt 18) 3 24 := ⟨by decide +kernel, rfl⟩
theorem iX6_isLess_44 : zI cX6_isLess 44 (.ireturn) 1 45 := ⟨by decide +kernel, rfl⟩
theorem iX6_isLess_40 : zI cX6_isLess 40 (.goto 4) 3 43 := ⟨by decide +kernel, rfl⟩
theorem iX6_isLess_39 : zI cX6_isLess 39 (.iconst 1) 1 40 := ⟨by decide +kernel, rfl⟩
theorem iX6_isLess_25 : zI cX6_isLess 25 (.ifCond .ne 18) 3 28 := ⟨by decide +kernel, rfl⟩
theorem iX6_isLess_43 : zI cX6_isLess 43 (.iconst 0) 1 44 := ⟨by decide +kernel, rfl⟩
theorem iX6_isLess_29 : zI cX6_isLess 29 (.invokestatic 208) 3 32 := ⟨by decide +kernel, rfl⟩
theorem iX6_isLess_33 : zI cX6_isLess 33 (.invokestatic 208) 3 36 := ⟨by decide +kernel, rfl⟩
theorem iX6_isLess_36 : zI cX6_isLess 36 (.if_icmp .ge 7) 3 39 := ⟨by decide +kernel, rfl⟩
theorem iX6_isLess_32 : zI cX6_isLess 32 (.iload_n 2) 1 33 := ⟨by decide +kernel, rfl⟩
theorem iX6_isLess_28 : zI cX6_isLess 28 (.iload_n 1) 1 29 := ⟨by decide +kernel, rfl⟩
theorem iX6_isLess_24 : zI cX6_isLess 24 (.iload_n 3) 1 25 := ⟨by decide +kernel, rfl⟩
theorem iX6_isLess_20 : zI cX6_isLess 20 (.iload_n 3) 1 21 := ⟨by decide +kernel, rfl⟩
theorem iX6_isLess_19 : zI cX6_isLess 19 (.istore_n 3) 1 20 := ⟨by decide +kernel, rfl⟩
theorem iX6_isLess_12 : zI cX6_isLess 12 (.iload_n 2) 1 13 := ⟨by decide +kernel, rfl⟩
theorem iX6_isLess_9 : zI cX6_isLess 9 (.getfield 30) 3 12 := ⟨by decide +kernel, rfl⟩
theorem iX6_isLess_8 : zI cX6_isLess 8 (.aload_n 0) 1 9 := ⟨by decide +kernel, rfl⟩
theorem iX6_isLess_4 : zI cX6_isLess 4 (.iload_n 1) 1 5 := ⟨by decide +kernel, rfl⟩
theorem iX6_isLess_1 : zI cX6_isLess 1 (.getfield 30) 3 4 := ⟨by decide +kernel, rfl⟩
theorem iX6_isLess_0 : zI cX6_isLess 0 (.aload_n 0) 1 1 := ⟨by decide +kernel, rfl⟩
set_option maxHeartbeats 4000000 in
set_option maxRecDepth 100000 in
theorem m_SS_isLess (x1 : Int32) (x2 : Int32) (h : zH) : zM yX6_isLess cX6_isLess 4 (some .boolean) 2 shX (fun ad => [.ref (ad 0), .int x1, .int x2]) h (eP h) (SS_isLess x1 x2 h) := by
  refine zM.of (by decide) (fun _ => rfl) (fun _ => Nat.le_of_ble_eq_true rfl) (fun X ad hnL C => ?_)
  show zG X ad shX (eP h) 0 [some (.ref (ad 0)), some (.int x1), some (.int x2), none] [] h _
  unfold SS_isLess
  refine g_aload_n C iX6_isLess_0 rfl ?_
  refine g_getR (b := 17) C fX6_30 iX6_isLess_1 sh0 rfl ?_
  refine g_iload_n C iX6_isLess_4 rfl ?_
  refine g_callV C wX6_252 iX6_isLess_5 (m_Pl_loadOfSet 17 isP17 x1 h) (by decide) isP17.1 rfl rfl rfl rfl (Nat.le_of_ble_eq_true rfl) (fun r => ?_)
  show zG X ad shX (eP h) 8 [some (.ref (ad 0)), some (.int x1), some (.int x2), none] [.int r] h _
  refine g_aload_n C iX6_isLess_8 rfl ?_
  refine g_getR (b := 17) C fX6_30 iX6_isLess_9 sh0 rfl ?_
  refine g_iload_n C iX6_isLess_12 rfl ?_
  refine g_callV C wX6_252 iX6_isLess_13 (m_Pl_loadOfSet 17 isP17 x2 h) (by decide) isP17.1 rfl rfl rfl rfl (Nat.le_of_ble_eq_true rfl) (fun r_1 => ?_)
  show zG X ad shX (eP h) 16 [some (.ref (ad 0)), some (.int x1), some (.int x2), none] [.int r_1, .int r] h _
  refine g_callS C wX6_274 iX6_isLess_16 (m_In_compare r r_1 h) (by decide) rfl rfl rfl (Nat.le_of_ble_eq_true rfl) (fun r_2 => ?_)
  show zG X ad shX (eP h) 19 [some (.ref (ad 0)), some (.int x1), some (.int x2), none] [.int r_2] h _
  refine g_istore_n (lv' := [some (.ref (ad 0)), some (.int x1), some (.int x2), some (.int r_2)]) C hnL iX6_isLess_19 (by decide) rfl ?_
  refine g_iload_n C iX6_isLess_20 rfl ?_
  refine g_if_lt C 39 iX6_isLess_21 (by decide) (fun c21 => ?_) (fun c21 => ?_)
  · refine g_iconst C 1 iX6_isLess_39 (by decide) ?_
    refine g_goto C 44 iX6_isLess_40 (by decide) ?_
    exact g_zret C iX6_isLess_44 rfl rfl
  · refine g_iload_n C iX6_isLess_24 rfl ?_
    refine g_if_ne C 43 iX6_isLess_25 (by decide) (fun c25 => ?_) (fun c25 => ?_)
    · refine g_iload_n C iX6_isLess_28 rfl ?_
      refine g_callS C wX6_208 iX6_isLess_29 (m_In_bitCount x1 h) (by decide) rfl rfl rfl (Nat.le_of_ble_eq_true rfl) (fun r_3 => ?_)
      show zG X ad shX (eP h) 32 [some (.ref (ad 0)), some (.int x1), some (.int x2), some (.int r_2)] [.int r_3] h _
      refine g_iload_n C iX6_isLess_32 rfl ?_
      refine g_callS C wX6_208 iX6_isLess_33 (m_In_bitCount x2 h) (by decide) rfl rfl rfl (Nat.le_of_ble_eq_true rfl) (fun r_4 => ?_)
      show zG X ad shX (eP h) 36 [some (.ref (ad 0)), some (.int x1), some (.int x2), some (.int r_2)] [.int r_4, .int r_3] h _
      refine g_icmp_ge C 43 iX6_isLess_36 (by decide) (fun c36 => ?_) (fun c36 => ?_)
      · refine g_iconst C 0 iX6_isLess_43 (by decide) ?_
        exact g_zret C iX6_isLess_44 rfl rfl
      · refine g_iconst C 1 iX6_isLess_39 (by decide) ?_
        refine g_goto C 44 iX6_isLess_40 (by decide) ?_
        exact g_zret C iX6_isLess_44 rfl rfl
    · refine g_iconst C 0 iX6_isLess_43 (by decide) ?_
      exact g_zret C iX6_isLess_44 rfl rfl

theorem iX6_holds_8 : zI cX6_holds 8 (.invokevirtual 234) 3 11 := ⟨by decide +kernel, rfl⟩
theorem iX6_holds_23 : zI cX6_holds 23 (.if_icmp .ge 27) 3 26 := ⟨by decide +kernel, rfl⟩
theorem iX6_holds_29 : zI cX6_holds 29 (.invokestatic 125) 3 32 := ⟨by decide +kernel, rfl⟩
theorem iX6_holds_32 : zI cX6_holds 32 (.ifCond .eq 12) 3 35 := ⟨by decide +kernel, rfl⟩
theorem iX6_holds_47 : zI cX6_holds 47 (.goto (-33)) 3 50 := ⟨by decide +kernel, rfl⟩
theorem iX6_holds_44 : zI cX6_holds 44 (.iinc 4 1) 3 47 := ⟨by decide +kernel, rfl⟩
theorem iX6_holds_41 : zI cX6_holds 41 (.invokevirtual 158) 3 44 := ⟨by decide +kernel, rfl⟩
theorem iX6_holds_39 : zI cX6_holds 39 (.iload 4) 2 41 := ⟨by decide +kernel, rfl⟩
theorem iX6_holds_36 : zI cX6_holds 36 (.getfield 42) 3 39 := ⟨by decide +kernel, rfl⟩
theorem iX6_holds_35 : zI cX6_holds 35 (.aload_n 0) 1 36 := ⟨by decide +kernel, rfl⟩
theorem iX6_holds_27 : zI cX6_holds 27 (.iload 4) 2 29 := ⟨by decide +kernel, rfl⟩
theorem iX6_holds_26 : zI cX6_holds 26 (.iload_n 2) 1 27 := ⟨by decide +kernel, rfl⟩
theorem iX6_holds_20 : zI cX6_holds 20 (.getfield 139) 3 23 := ⟨by decide +kernel, rfl⟩
theorem iX6_holds_17 : zI cX6_holds 17 (.getfield 30) 3 20 := ⟨by decide +kernel, rfl⟩
theorem iX6_holds_16 : zI cX6_holds 16 (.aload_n 0) 1 17 := ⟨by decide +kernel, rfl⟩
theorem iX6_holds_14 : zI cX6_holds 14 (.iload 4) 2 16 := ⟨by decide +kernel, rfl⟩
theorem iX6_holds_54 : zI cX6_holds 54 (.invokevirtual 107) 3 57 := ⟨by decide +kernel, rfl⟩
theorem iX6_holds_63 : zI cX6_holds 63 (.if_icmp .ge 40) 3 66 := ⟨by decide +kernel, rfl⟩
set_option maxRecDepth 100000 in
theorem wX6_255 : zCv RX6 255 yX0_passIsland cX0_passIsland 6 none 1 := ⟨⟨(zmem 742 (by decide +kernel) (by decide +kernel)), (zmem 68 (by decide +kernel) (by decide +kernel)), (zmem 528 rfl rfl), ⟨by decide, by decide, by decide +kernel⟩, by decide⟩, (zmem 526 (by decide +kernel) (by decide +kernel)), (zmem 527 (by decide +kernel) (by decide +kernel))⟩
theorem iX6_holds_71 : zI cX6_holds 71 (.invokevirtual 255) 3 74 := ⟨by decide +kernel, rfl⟩
theorem iX6_holds_81 : zI cX6_holds 81 (.ifCond .gt 14) 3 84 := ⟨by decide +kernel, rfl⟩
theorem iX6_holds_89 : zI cX6_holds 89 (.invokevirtual 152) 3 92 := ⟨by decide +kernel, rfl⟩
theorem iX6_holds_92 : zI cX6_holds 92 (.ifCond .eq 5) 3 95 := ⟨by decide +kernel, rfl⟩
theorem iX6_holds_100 : zI cX6_holds 100 (.goto (-40)) 3 103 := ⟨by decide +kernel, rfl⟩
theorem iX6_holds_97 : zI cX6_holds 97 (.iinc 4 1) 3 100 := ⟨by decide +kernel, rfl⟩
theorem iX6_holds_88 : zI cX6_holds 88 (.iload_n 1) 1 89 := ⟨by decide +kernel, rfl⟩
theorem iX6_holds_85 : zI cX6_holds 85 (.getfield 42) 3 88 := ⟨by decide +kernel, rfl⟩
theorem iX6_holds_84 : zI cX6_holds 84 (.aload_n 0) 1 85 := ⟨by decide +kernel, rfl⟩
theorem iX6_holds_78 : zI cX6_holds 78 (.getfield 113) 3 81 := ⟨by decide +kernel, rfl⟩
theorem iX6_holds_75 : zI cX6_holds 75 (.getfield 54) 3 78 := ⟨by decide +kernel, rfl⟩
theorem iX6_holds_74 : zI cX6_holds 74 (.aload_n 0) 1 75 := ⟨by decide +kernel, rfl⟩
theorem iX6_holds_70 : zI cX6_holds 70 (.iload_n 1) 1 71 := ⟨by decide +kernel, rfl⟩
theorem iX6_holds_67 : zI cX6_holds 67 (.getfield 54) 3 70 := ⟨by decide +kernel, rfl⟩
theorem iX6_holds_66 : zI cX6_holds 66 (.aload_n 0) 1 67 := ⟨by decide +kernel, rfl⟩
theorem iX6_holds_62 : zI cX6_holds 62 (.iload_n 3) 1 63 := ⟨by decide +kernel, rfl⟩
theorem iX6_holds_60 : zI cX6_holds 60 (.iload 4) 2 62 := ⟨by decide +kernel, rfl⟩
theorem iX6_holds_96 : zI cX6_holds 96 (.ireturn) 1 97 := ⟨by decide +kernel, rfl⟩
theorem iX6_holds_95 : zI cX6_holds 95 (.iconst 0) 1 96 := ⟨by decide +kernel, rfl⟩
theorem iX6_holds_104 : zI cX6_holds 104 (.ireturn) 1 105 := ⟨by decide +kernel, rfl⟩
theorem iX6_holds_103 : zI cX6_holds 103 (.iconst 1) 1 104 := ⟨by decide +kernel, rfl⟩
theorem iX6_holds_58 : zI cX6_holds 58 (.istore 4) 2 60 := ⟨by decide +kernel, rfl⟩
theorem iX6_holds_57 : zI cX6_holds 57 (.iconst 0) 1 58 := ⟨by decide +kernel, rfl⟩
theorem iX6_holds_51 : zI cX6_holds 51 (.getfield 54) 3 54 := ⟨by decide +kernel, rfl⟩
theorem iX6_holds_50 : zI cX6_holds 50 (.aload_n 0) 1 51 := ⟨by decide +kernel, rfl⟩
theorem iX6_holds_12 : zI cX6_holds 12 (.istore 4) 2 14 := ⟨by decide +kernel, rfl⟩
theorem iX6_holds_11 : zI cX6_holds 11 (.iconst 0) 1 12 := ⟨by decide +kernel, rfl⟩
theorem iX6_holds_5 : zI cX6_holds 5 (.getfield 38) 3 8 := ⟨by decide +kernel, rfl⟩
theorem iX6_holds_4 : zI cX6_holds 4 (.aload_n 0) 1 5 := ⟨by decide +kernel, rfl⟩
theorem iX6_holds_1 : zI cX6_holds 1 (.getfield 42) 3 4 := ⟨by decide +kernel, rfl⟩
theorem iX6_holds_0 : zI cX6_holds 0 (.aload_n 0) 1 1 := ⟨by decide +kernel, rfl⟩
set_option maxHeartbeats 4000000 in
set_option maxRecDepth 100000 in
theorem m_SS_holds (x1 : Int32) (x2 : Int32) (x3 : Int32) (h : zH) : zM yX6_holds cX6_holds 5 (some .boolean) 5 shX (fun ad => [.ref (ad 0), .int x1, .int x2, .int x3]) h eI (SS_holds x1 x2 x3 h) := by
  refine zM.of (by decide) (fun _ => rfl) (fun _ => Nat.le_of_ble_eq_true rfl) (fun X ad hnL C => ?_)
  show zG X ad shX eI 0 [some (.ref (ad 0)), some (.int x1), some (.int x2), some (.int x3), none] [] h _
  unfold SS_holds
  refine g_aload_n C iX6_holds_0 rfl ?_
  refine g_getR (b := 37) C fX6_42 iX6_holds_1 sh0 rfl ?_
  refine g_aload_n C iX6_holds_4 rfl ?_
  refine g_getR (b := 29) C fX6_38 iX6_holds_5 sh0 rfl ?_
  refine g_callV C wX6_234 iX6_holds_8 (m_Gr_copy 37 isG37 29 isG29 h) (by decide) isG37.1 rfl rfl rfl rfl (Nat.le_of_ble_eq_true rfl) (fun h_1 => ?_)
  show zG X ad shX eI 11 [some (.ref (ad 0)), some (.int x1), some (.int x2), some (.int x3), none] [] h_1 _
  refine g_iconst C 0 iX6_holds_11 (by decide) ?_
  refine g_istore (lv' := [some (.ref (ad 0)), some (.int x1), some (.int x2), some (.int x3), some (.int 0)]) C hnL iX6_holds_12 (by decide) rfl ?_
  have L14 : ∀ (k50 : zH → Option (Int32 × zH)), (∀ (hy : zH), zG X ad shX eI 50 [some (.ref (ad 0)), some (.int x1), none, some (.int x3), none] [] hy (k50 hy)) → ∀ (n : Nat) (x4 : Int32) (h_2 : zH), zG X ad shX eI 14 [some (.ref (ad 0)), some (.int x1), some (.int x2), some (.int x3), some (.int x4)] [] h_2 (SS_holds_L14 x2 k50 n x4 h_2) := by
    intro k50 hk50 n
    induction n with
    | zero =>
      intro x4 h_2
      exact g_none
    | succ n ih14 =>
      intro x4 h_2
      rw [SS_holds_L14]
      refine g_iload C iX6_holds_14 rfl ?_
      refine g_aload_n C iX6_holds_16 rfl ?_
      refine g_getR (b := 17) C fX6_30 iX6_holds_17 sh0 rfl ?_
      refine g_getI C fX6_139 iX6_holds_20 isP17.1 rfl ?_
      refine g_icmp_ge C 50 iX6_holds_23 (by decide) (fun c23 => ?_) (fun c23 => ?_)
      · refine g_sub (lv' := [some (.ref (ad 0)), some (.int x1), none, some (.int x3), none]) ⟨rfl, ⟨rfl, ⟨rfl, trivial⟩⟩⟩ ?_
        exact hk50 _
      · refine g_iload_n C iX6_holds_26 rfl ?_
        refine g_iload C iX6_holds_27 rfl ?_
        refine g_callS C wX6_125 iX6_holds_29 (m_SS_has x2 x4 h_2) (by decide) rfl rfl rfl (Nat.le_of_ble_eq_true rfl) (fun r => ?_)
        show zG X ad shX eI 32 [some (.ref (ad 0)), some (.int x1), some (.int x2), some (.int x3), some (.int x4)] [.int r] h_2 _
        refine g_if_eq C 44 iX6_holds_32 (by decide) (fun c32 => ?_) (fun c32 => ?_)
        · refine g_iinc (v := (x4 + 1)) (lv' := [some (.ref (ad 0)), some (.int x1), some (.int x2), some (.int x3), some (.int (x4 + 1))]) C hnL iX6_holds_44 (by decide) rfl rfl rfl ?_
          refine g_goto C 14 iX6_holds_47 (by decide) ?_
          exact ih14 _ _
        · refine g_aload_n C iX6_holds_35 rfl ?_
          refine g_getR (b := 37) C fX6_42 iX6_holds_36 sh0 rfl ?_
          refine g_iload C iX6_holds_39 rfl ?_
          refine g_callV C wX6_158 iX6_holds_41 (m_Gr_drop 37 isG37 x4 h_2) (by decide) isG37.1 rfl rfl rfl rfl (Nat.le_of_ble_eq_true rfl) (fun h_3 => ?_)
          show zG X ad shX eI 44 [some (.ref (ad 0)), some (.int x1), some (.int x2), some (.int x3), some (.int x4)] [] h_3 _
          refine g_iinc (v := (x4 + 1)) (lv' := [some (.ref (ad 0)), some (.int x1), some (.int x2), some (.int x3), some (.int (x4 + 1))]) C hnL iX6_holds_44 (by decide) rfl rfl rfl ?_
          refine g_goto C 14 iX6_holds_47 (by decide) ?_
          exact ih14 _ _
  refine L14 _ (fun h_4 => ?_) 1000 _ _
  show zG X ad shX eI 50 [some (.ref (ad 0)), some (.int x1), none, some (.int x3), none] [] h_4 _
  refine g_aload_n C iX6_holds_50 rfl ?_
  refine g_getR (b := 46) C fX6_54 iX6_holds_51 sh0 rfl ?_
  refine g_callV C wX6_107 iX6_holds_54 (m_Co_forget 46 37 isC46 isG37 h_4) (by decide) isC46 rfl rfl rfl rfl (Nat.le_of_ble_eq_true rfl) (fun h_5 => ?_)
  show zG X ad shX eI 57 [some (.ref (ad 0)), some (.int x1), none, some (.int x3), none] [] h_5 _
  refine g_iconst C 0 iX6_holds_57 (by decide) ?_
  refine g_istore (lv' := [some (.ref (ad 0)), some (.int x1), none, some (.int x3), some (.int 0)]) C hnL iX6_holds_58 (by decide) rfl ?_
  have L60 : ∀ (k95 : zH → Option (Int32 × zH)), (∀ (hy : zH), zG X ad shX eI 95 [none, none, none, none, none] [] hy (k95 hy)) → ∀ (k103 : zH → Option (Int32 × zH)), (∀ (hy : zH), zG X ad shX eI 103 [none, none, none, none, none] [] hy (k103 hy)) → ∀ (n_1 : Nat) (x4_1 : Int32) (h_6 : zH), zG X ad shX eI 60 [some (.ref (ad 0)), some (.int x1), none, some (.int x3), some (.int x4_1)] [] h_6 (SS_holds_L60 x1 x3 k95 k103 n_1 x4_1 h_6) := by
    intro k95 hk95 k103 hk103 n_1
    induction n_1 with
    | zero =>
      intro x4_1 h_6
      exact g_none
    | succ n_1 ih60 =>
      intro x4_1 h_6
      rw [SS_holds_L60]
      refine g_iload C iX6_holds_60 rfl ?_
      refine g_iload_n C iX6_holds_62 rfl ?_
      refine g_icmp_ge C 103 iX6_holds_63 (by decide) (fun c63 => ?_) (fun c63 => ?_)
      · refine g_sub (lv' := [none, none, none, none, none]) trivial ?_
        exact hk103 _
      · refine g_aload_n C iX6_holds_66 rfl ?_
        refine g_getR (b := 46) C fX6_54 iX6_holds_67 sh0 rfl ?_
        refine g_iload_n C iX6_holds_70 rfl ?_
        refine g_callV C wX6_255 iX6_holds_71 (m_Co_passIsland 46 37 isC46 isG37 x1 h_6) (by decide) isC46 rfl rfl rfl rfl (Nat.le_of_ble_eq_true rfl) (fun h_7 => ?_)
        show zG X ad shX eI 74 [some (.ref (ad 0)), some (.int x1), none, some (.int x3), some (.int x4_1)] [] h_7 _
        refine g_aload_n C iX6_holds_74 rfl ?_
        refine g_getR (b := 46) C fX6_54 iX6_holds_75 sh0 rfl ?_
        refine g_getI C fX6_113 iX6_holds_78 isC46 rfl ?_
        refine g_if_gt C 95 iX6_holds_81 (by decide) (fun c81 => ?_) (fun c81 => ?_)
        · refine g_sub (lv' := [none, none, none, none, none]) trivial ?_
          exact hk95 _
        · refine g_aload_n C iX6_holds_84 rfl ?_
          refine g_getR (b := 37) C fX6_42 iX6_holds_85 sh0 rfl ?_
          refine g_iload_n C iX6_holds_88 rfl ?_
          refine g_callV C wX6_152 iX6_holds_89 (m_Gr_isDark 37 isG37 x1 h_7) (by decide) isG37.1 rfl rfl rfl rfl (Nat.le_of_ble_eq_true rfl) (fun r_1 => ?_)
          show zG X ad shX eI 92 [some (.ref (ad 0)), some (.int x1), none, some (.int x3), some (.int x4_1)] [.int r_1] h_7 _
          refine g_if_eq C 97 iX6_holds_92 (by decide) (fun c92 => ?_) (fun c92 => ?_)
          · refine g_iinc (v := (x4_1 + 1)) (lv' := [some (.ref (ad 0)), some (.int x1), none, some (.int x3), some (.int (x4_1 + 1))]) C hnL iX6_holds_97 (by decide) rfl rfl rfl ?_
            refine g_goto C 60 iX6_holds_100 (by decide) ?_
            exact ih60 _ _
          · refine g_sub (lv' := [none, none, none, none, none]) trivial ?_
            exact hk95 _
  refine L60 _ (fun h_8 => ?_) _ (fun h_9 => ?_) 1000 _ _
  · show zG X ad shX eI 95 [none, none, none, none, none] [] h_8 _
    refine g_iconst C 0 iX6_holds_95 (by decide) ?_
    exact g_zret C iX6_holds_96 rfl rfl
  · show zG X ad shX eI 103 [none, none, none, none, none] [] h_9 _
    refine g_iconst C 1 iX6_holds_103 (by decide) ?_
    exact g_zret C iX6_holds_104 rfl rfl

theorem iX6_leastSet_5 : zI cX6_leastSet 5 (.invokevirtual 152) 3 8 := ⟨by decide +kernel, rfl⟩
theorem iX6_leastSet_8 : zI cX6_leastSet 8 (.ifCond .eq 6) 3 11 := ⟨by decide +kernel, rfl⟩
theorem iX6_leastSet_20 : zI cX6_leastSet 20 (.invokevirtual 204) 3 23 := ⟨by decide +kernel, rfl⟩
theorem iX6_leastSet_34 : zI cX6_leastSet 34 (.if_icmp .gt 61) 3 37 := ⟨by decide +kernel, rfl⟩
theorem iX6_leastSet_55 : zI cX6_leastSet 55 (.ifCond .eq 34) 3 58 := ⟨by decide +kernel, rfl⟩
theorem iX6_leastSet_92 : zI cX6_leastSet 92 (.goto (-61)) 3 95 := ⟨by decide +kernel, rfl⟩
theorem iX6_leastSet_89 : zI cX6_leastSet 89 (.iinc 5 1) 3 92 := ⟨by decide +kernel, rfl⟩
set_option maxRecDepth 100000 in
theorem wX6_270 : zCv RX6 270 yX6_holds cX6_holds 5 (some .boolean) 3 := ⟨⟨(zmem 738 (by decide +kernel) (by decide +kernel)), (zmem 63 (by decide +kernel) (by decide +kernel)), (zmem 741 rfl rfl), ⟨by decide, by decide, by decide +kernel⟩, by decide⟩, (zmem 740 (by decide +kernel) (by decide +kernel)), (zmem 18 (by decide +kernel) (by decide +kernel))⟩
theorem iX6_leastSet_79 : zI cX6_leastSet 79 (.invokevirtual 270) 3 82 := ⟨by decide +kernel, rfl⟩
theorem iX6_leastSet_82 : zI cX6_leastSet 82 (.ifCond .eq 7) 3 85 := ⟨by decide +kernel, rfl⟩
theorem iX6_leastSet_87 : zI cX6_leastSet 87 (.istore 4) 2 89 := ⟨by decide +kernel, rfl⟩
theorem iX6_leastSet_85 : zI cX6_leastSet 85 (.iload 5) 2 87 := ⟨by decide +kernel, rfl⟩
theorem iX6_leastSet_78 : zI cX6_leastSet 78 (.iload_n 2) 1 79 := ⟨by decide +kernel, rfl⟩
theorem iX6_leastSet_76 : zI cX6_leastSet 76 (.iload 5) 2 78 := ⟨by decide +kernel, rfl⟩
theorem iX6_leastSet_75 : zI cX6_leastSet 75 (.iload_n 1) 1 76 := ⟨by decide +kernel, rfl⟩
theorem iX6_leastSet_74 : zI cX6_leastSet 74 (.aload_n 0) 1 75 := ⟨by decide +kernel, rfl⟩
theorem iX6_leastSet_60 : zI cX6_leastSet 60 (.ifCond .lt 14) 3 63 := ⟨by decide +kernel, rfl⟩
set_option maxRecDepth 100000 in
theorem wX6_267 : zCv RX6 267 yX6_isLess cX6_isLess 4 (some .boolean) 2 := ⟨⟨(zmem 726 (by decide +kernel) (by decide +kernel)), (zmem 63 (by decide +kernel) (by decide +kernel)), (zmem 729 rfl rfl), ⟨by decide, by decide, by decide +kernel⟩, by decide⟩, (zmem 728 (by decide +kernel) (by decide +kernel)), (zmem 17 (by decide +kernel) (by decide +kernel))⟩
theorem iX6_leastSet_68 : zI cX6_leastSet 68 (.invokevirtual 267) 3 71 := ⟨by decide +kernel, rfl⟩
theorem iX6_leastSet_71 : zI cX6_leastSet 71 (.ifCond .eq 18) 3 74 := ⟨by decide +kernel, rfl⟩
theorem iX6_leastSet_66 : zI cX6_leastSet 66 (.iload 4) 2 68 := ⟨by decide +kernel, rfl⟩
theorem iX6_leastSet_64 : zI cX6_leastSet 64 (.iload 5) 2 66 := ⟨by decide +kernel, rfl⟩
theorem iX6_leastSet_63 : zI cX6_leastSet 63 (.aload_n 0) 1 64 := ⟨by decide +kernel, rfl⟩
theorem iX6_leastSet_58 : zI cX6_leastSet 58 (.iload 4) 2 60 := ⟨by decide +kernel, rfl⟩
theorem iX6_leastSet_53 : zI cX6_leastSet 53 (.iload 6) 2 55 := ⟨by decide +kernel, rfl⟩
theorem iX6_leastSet_51 : zI cX6_leastSet 51 (.istore 6) 2 53 := ⟨by decide +kernel, rfl⟩
theorem iX6_leastSet_43 : zI cX6_leastSet 43 (.ifCond .ne 7) 3 46 := ⟨by decide +kernel, rfl⟩
theorem iX6_leastSet_50 : zI cX6_leastSet 50 (.iconst 0) 1 51 := ⟨by decide +kernel, rfl⟩
theorem iX6_leastSet_47 : zI cX6_leastSet 47 (.goto 4) 3 50 := ⟨by decide +kernel, rfl⟩
theorem iX6_leastSet_46 : zI cX6_leastSet 46 (.iconst 1) 1 47 := ⟨by decide +kernel, rfl⟩
theorem iX6_leastSet_42 : zI cX6_leastSet 42 (.iand) 1 43 := ⟨by decide +kernel, rfl⟩
theorem iX6_leastSet_41 : zI cX6_leastSet 41 (.ixor) 1 42 := ⟨by decide +kernel, rfl⟩
theorem iX6_leastSet_40 : zI cX6_leastSet 40 (.iconst (-1)) 1 41 := ⟨by decide +kernel, rfl⟩
theorem iX6_leastSet_39 : zI cX6_leastSet 39 (.iload_n 3) 1 40 := ⟨by decide +kernel, rfl⟩
theorem iX6_leastSet_37 : zI cX6_leastSet 37 (.iload 5) 2 39 := ⟨by decide +kernel, rfl⟩
theorem iX6_leastSet_33 : zI cX6_leastSet 33 (.iload_n 3) 1 34 := ⟨by decide +kernel, rfl⟩
theorem iX6_leastSet_31 : zI cX6_leastSet 31 (.iload 5) 2 33 := ⟨by decide +kernel, rfl⟩
theorem iX6_leastSet_97 : zI cX6_leastSet 97 (.ireturn) 1 98 := ⟨by decide +kernel, rfl⟩
theorem iX6_leastSet_95 : zI cX6_leastSet 95 (.iload 4) 2 97 := ⟨by decide +kernel, rfl⟩
theorem iX6_leastSet_29 : zI cX6_leastSet 29 (.istore 5) 2 31 := ⟨by decide +kernel, rfl⟩
theorem iX6_leastSet_28 : zI cX6_leastSet 28 (.iconst 0) 1 29 := ⟨by decide +kernel, rfl⟩
theorem iX6_leastSet_26 : zI cX6_leastSet 26 (.istore 4) 2 28 := ⟨by decide +kernel, rfl⟩
theorem iX6_leastSet_24 : zI cX6_leastSet 24 (.bipush (-4)) 2 26 := ⟨by decide +kernel, rfl⟩
theorem iX6_leastSet_23 : zI cX6_leastSet 23 (.istore_n 3) 1 24 := ⟨by decide +kernel, rfl⟩
theorem iX6_leastSet_19 : zI cX6_leastSet 19 (.iconst 1) 1 20 := ⟨by decide +kernel, rfl⟩
theorem iX6_leastSet_18 : zI cX6_leastSet 18 (.iload_n 1) 1 19 := ⟨by decide +kernel, rfl⟩
theorem iX6_leastSet_15 : zI cX6_leastSet 15 (.getfield 38) 3 18 := ⟨by decide +kernel, rfl⟩
theorem iX6_leastSet_14 : zI cX6_leastSet 14 (.aload_n 0) 1 15 := ⟨by decide +kernel, rfl⟩
theorem iX6_leastSet_13 : zI cX6_leastSet 13 (.ireturn) 1 14 := ⟨by decide +kernel, rfl⟩
theorem iX6_leastSet_11 : zI cX6_leastSet 11 (.bipush (-4)) 2 13 := ⟨by decide +kernel, rfl⟩
theorem iX6_leastSet_4 : zI cX6_leastSet 4 (.iload_n 1) 1 5 := ⟨by decide +kernel, rfl⟩
theorem iX6_leastSet_1 : zI cX6_leastSet 1 (.getfield 38) 3 4 := ⟨by decide +kernel, rfl⟩
theorem iX6_leastSet_0 : zI cX6_leastSet 0 (.aload_n 0) 1 1 := ⟨by decide +kernel, rfl⟩
set_option maxHeartbeats 4000000 in
set_option maxRecDepth 100000 in
theorem m_SS_leastSet (x1 : Int32) (x2 : Int32) (h : zH) : zM yX6_leastSet cX6_leastSet 7 (some .int) 6 shX (fun ad => [.ref (ad 0), .int x1, .int x2]) h eI (SS_leastSet x1 x2 h) := by
  refine zM.of (by decide) (fun _ => rfl) (fun _ => Nat.le_of_ble_eq_true rfl) (fun X ad hnL C => ?_)
  show zG X ad shX eI 0 [some (.ref (ad 0)), some (.int x1), some (.int x2), none, none, none, none] [] h _
  unfold SS_leastSet
  refine g_aload_n C iX6_leastSet_0 rfl ?_
  refine g_getR (b := 29) C fX6_38 iX6_leastSet_1 sh0 rfl ?_
  refine g_iload_n C iX6_leastSet_4 rfl ?_
  refine g_callV C wX6_152 iX6_leastSet_5 (m_Gr_isDark 29 isG29 x1 h) (by decide) isG29.1 rfl rfl rfl rfl (Nat.le_of_ble_eq_true rfl) (fun r => ?_)
  show zG X ad shX eI 8 [some (.ref (ad 0)), some (.int x1), some (.int x2), none, none, none, none] [.int r] h _
  refine g_if_eq C 14 iX6_leastSet_8 (by decide) (fun c8 => ?_) (fun c8 => ?_)
  · refine g_aload_n C iX6_leastSet_14 rfl ?_
    refine g_getR (b := 29) C fX6_38 iX6_leastSet_15 sh0 rfl ?_
    refine g_iload_n C iX6_leastSet_18 rfl ?_
    refine g_iconst C 1 iX6_leastSet_19 (by decide) ?_
    refine g_callV C wX6_204 iX6_leastSet_20 (m_Gr_feederBits 29 isG29 x1 1 h) (by decide) isG29.1 rfl rfl rfl rfl (Nat.le_of_ble_eq_true rfl) (fun r_1 => ?_)
    show zG X ad shX eI 23 [some (.ref (ad 0)), some (.int x1), some (.int x2), none, none, none, none] [.int r_1] h _
    refine g_istore_n (lv' := [some (.ref (ad 0)), some (.int x1), some (.int x2), some (.int r_1), none, none, none]) C hnL iX6_leastSet_23 (by decide) rfl ?_
    refine g_bipush C (-4) iX6_leastSet_24 (by decide) ?_
    refine g_istore (lv' := [some (.ref (ad 0)), some (.int x1), some (.int x2), some (.int r_1), some (.int (-4)), none, none]) C hnL iX6_leastSet_26 (by decide) rfl ?_
    refine g_iconst C 0 iX6_leastSet_28 (by decide) ?_
    refine g_istore (lv' := [some (.ref (ad 0)), some (.int x1), some (.int x2), some (.int r_1), some (.int (-4)), some (.int 0), none]) C hnL iX6_leastSet_29 (by decide) rfl ?_
    have L31 : ∀ (k95 : Int32 → zH → Option (Int32 × zH)), (∀ (y4 : Int32) (hy : zH), zG X ad shX eI 95 [none, none, none, none, some (.int y4), none, none] [] hy (k95 y4 hy)) → ∀ (n : Nat) (x4 x5 : Int32) (h_1 : zH), zG X ad shX eI 31 [some (.ref (ad 0)), some (.int x1), some (.int x2), some (.int r_1), some (.int x4), some (.int x5), none] [] h_1 (SS_leastSet_L31 x1 x2 r_1 k95 n x4 x5 h_1) := by
      intro k95 hk95 n
      induction n with
      | zero =>
        intro x4 x5 h_1
        exact g_none
      | succ n ih31 =>
        intro x4 x5 h_1
        rw [SS_leastSet_L31]
        refine g_iload C iX6_leastSet_31 rfl ?_
        refine g_iload_n C iX6_leastSet_33 rfl ?_
        refine g_icmp_gt C 95 iX6_leastSet_34 (by decide) (fun c34 => ?_) (fun c34 => ?_)
        · refine g_sub (lv' := [none, none, none, none, some (.int x4), none, none]) ⟨rfl, trivial⟩ ?_
          exact hk95 _ _
        · refine g_iload C iX6_leastSet_37 rfl ?_
          refine g_iload_n C iX6_leastSet_39 rfl ?_
          refine g_iconst C (-1) iX6_leastSet_40 (by decide) ?_
          refine g_ixor C iX6_leastSet_41 ?_
          refine g_iand C iX6_leastSet_42 ?_
          refine g_let (fun j51 ej51 => ?_)
          have hj51 : ∀ (v51 : Int32), zG X ad shX eI 51 [some (.ref (ad 0)), some (.int x1), some (.int x2), some (.int r_1), some (.int x4), some (.int x5), none] [.int v51] h_1 (j51 v51) := by
            intro v51
            subst ej51
            refine g_istore (lv' := [some (.ref (ad 0)), some (.int x1), some (.int x2), some (.int r_1), some (.int x4), some (.int x5), some (.int v51)]) C hnL iX6_leastSet_51 (by decide) rfl ?_
            refine g_iload C iX6_leastSet_53 rfl ?_
            refine g_if_eq C 89 iX6_leastSet_55 (by decide) (fun c55 => ?_) (fun c55 => ?_)
            · refine g_iinc (v := (x5 + 1)) (lv' := [some (.ref (ad 0)), some (.int x1), some (.int x2), some (.int r_1), some (.int x4), some (.int (x5 + 1)), some (.int v51)]) C hnL iX6_leastSet_89 (by decide) rfl rfl rfl ?_
              refine g_goto C 31 iX6_leastSet_92 (by decide) ?_
              refine g_sub (lv' := [some (.ref (ad 0)), some (.int x1), some (.int x2), some (.int r_1), some (.int x4), some (.int (x5 + 1)), none]) ⟨rfl, ⟨rfl, ⟨rfl, ⟨rfl, ⟨rfl, ⟨rfl, trivial⟩⟩⟩⟩⟩⟩ ?_
              exact ih31 _ _ _
            · refine g_iload C iX6_leastSet_58 rfl ?_
              refine g_let (fun j74 ej74 => ?_)
              have hj74 : zG X ad shX eI 74 [some (.ref (ad 0)), some (.int x1), some (.int x2), some (.int r_1), some (.int x4), some (.int x5), none] [] h_1 j74 := by
                subst ej74
                refine g_aload_n C iX6_leastSet_74 rfl ?_
                refine g_iload_n C iX6_leastSet_75 rfl ?_
                refine g_iload C iX6_leastSet_76 rfl ?_
                refine g_iload_n C iX6_leastSet_78 rfl ?_
                refine g_callV C wX6_270 iX6_leastSet_79 (m_SS_holds x1 x5 x2 h_1) (by decide) sh0 rfl rfl rfl rfl (Nat.le_of_ble_eq_true rfl) (fun r_2 => ?_)
                show zG X ad shX eI 82 [some (.ref (ad 0)), some (.int x1), some (.int x2), some (.int r_1), some (.int x4), some (.int x5), none] [.int r_2.1] r_2.2 _
                refine g_if_eq C 89 iX6_leastSet_82 (by decide) (fun c82 => ?_) (fun c82 => ?_)
                · refine g_iinc (v := (x5 + 1)) (lv' := [some (.ref (ad 0)), some (.int x1), some (.int x2), some (.int r_1), some (.int x4), some (.int (x5 + 1)), none]) C hnL iX6_leastSet_89 (by decide) rfl rfl rfl ?_
                  refine g_goto C 31 iX6_leastSet_92 (by decide) ?_
                  exact ih31 _ _ _
                · refine g_iload C iX6_leastSet_85 rfl ?_
                  refine g_istore (lv' := [some (.ref (ad 0)), some (.int x1), some (.int x2), some (.int r_1), some (.int x5), some (.int x5), none]) C hnL iX6_leastSet_87 (by decide) rfl ?_
                  refine g_iinc (v := (x5 + 1)) (lv' := [some (.ref (ad 0)), some (.int x1), some (.int x2), some (.int r_1), some (.int x5), some (.int (x5 + 1)), none]) C hnL iX6_leastSet_89 (by decide) rfl rfl rfl ?_
                  refine g_goto C 31 iX6_leastSet_92 (by decide) ?_
                  exact ih31 _ _ _
              clear ej74
              refine g_if_lt C 74 iX6_leastSet_60 (by decide) (fun c60 => ?_) (fun c60 => ?_)
              · refine g_sub (lv' := [some (.ref (ad 0)), some (.int x1), some (.int x2), some (.int r_1), some (.int x4), some (.int x5), none]) ⟨rfl, ⟨rfl, ⟨rfl, ⟨rfl, ⟨rfl, ⟨rfl, trivial⟩⟩⟩⟩⟩⟩ ?_
                exact hj74
              · refine g_aload_n C iX6_leastSet_63 rfl ?_
                refine g_iload C iX6_leastSet_64 rfl ?_
                refine g_iload C iX6_leastSet_66 rfl ?_
                refine g_callV C wX6_267 iX6_leastSet_68 (m_SS_isLess x5 x4 h_1) (by decide) sh0 rfl rfl rfl rfl (Nat.le_of_ble_eq_true rfl) (fun r_3 => ?_)
                show zG X ad shX eI 71 [some (.ref (ad 0)), some (.int x1), some (.int x2), some (.int r_1), some (.int x4), some (.int x5), some (.int v51)] [.int r_3] h_1 _
                refine g_if_eq C 89 iX6_leastSet_71 (by decide) (fun c71 => ?_) (fun c71 => ?_)
                · refine g_iinc (v := (x5 + 1)) (lv' := [some (.ref (ad 0)), some (.int x1), some (.int x2), some (.int r_1), some (.int x4), some (.int (x5 + 1)), some (.int v51)]) C hnL iX6_leastSet_89 (by decide) rfl rfl rfl ?_
                  refine g_goto C 31 iX6_leastSet_92 (by decide) ?_
                  refine g_sub (lv' := [some (.ref (ad 0)), some (.int x1), some (.int x2), some (.int r_1), some (.int x4), some (.int (x5 + 1)), none]) ⟨rfl, ⟨rfl, ⟨rfl, ⟨rfl, ⟨rfl, ⟨rfl, trivial⟩⟩⟩⟩⟩⟩ ?_
                  exact ih31 _ _ _
                · refine g_sub (lv' := [some (.ref (ad 0)), some (.int x1), some (.int x2), some (.int r_1), some (.int x4), some (.int x5), none]) ⟨rfl, ⟨rfl, ⟨rfl, ⟨rfl, ⟨rfl, ⟨rfl, trivial⟩⟩⟩⟩⟩⟩ ?_
                  exact hj74
          clear ej51
          refine g_if_ne C 50 iX6_leastSet_43 (by decide) (fun c43 => ?_) (fun c43 => ?_)
          · refine g_iconst C 1 iX6_leastSet_46 (by decide) ?_
            refine g_goto C 51 iX6_leastSet_47 (by decide) ?_
            exact hj51 _
          · refine g_iconst C 0 iX6_leastSet_50 (by decide) ?_
            exact hj51 _
    refine L31 _ (fun x4_1 h_2 => ?_) 1000 _ _ _
    show zG X ad shX eI 95 [none, none, none, none, some (.int x4_1), none, none] [] h_2 _
    refine g_iload C iX6_leastSet_95 rfl ?_
    exact g_iret C iX6_leastSet_97 rfl
  · refine g_bipush C (-4) iX6_leastSet_11 (by decide) ?_
    exact g_iret C iX6_leastSet_13 rfl

theorem iX6_least_5 : zI cX6_least 5 (.invokevirtual 192) 3 8 := ⟨by decide +kernel, rfl⟩
theorem iX6_least_12 : zI cX6_least 12 (.ifCond .lt 23) 3 15 := ⟨by decide +kernel, rfl⟩
theorem iX6_least_36 : zI cX6_least 36 (.ireturn) 1 37 := ⟨by decide +kernel, rfl⟩
theorem iX6_least_35 : zI cX6_least 35 (.iconst (-1)) 1 36 := ⟨by decide +kernel, rfl⟩
theorem iX6_least_17 : zI cX6_least 17 (.if_icmp .lt 18) 3 20 := ⟨by decide +kernel, rfl⟩
theorem iX6_least_23 : zI cX6_least 23 (.if_icmp .gt 12) 3 26 := ⟨by decide +kernel, rfl⟩
theorem iX6_least_27 : zI cX6_least 27 (.ifCond .lt 8) 3 30 := ⟨by decide +kernel, rfl⟩
theorem iX6_least_32 : zI cX6_least 32 (.if_icmp .le 5) 3 35 := ⟨by decide +kernel, rfl⟩
set_option maxRecDepth 100000 in
theorem wX6_249 : zCv RX6 249 yX6_leastSet cX6_leastSet 7 (some .int) 2 := ⟨⟨(zmem 722 (by decide +kernel) (by decide +kernel)), (zmem 63 (by decide +kernel) (by decide +kernel)), (zmem 725 rfl rfl), ⟨by decide, by decide, by decide +kernel⟩, by decide⟩, (zmem 724 (by decide +kernel) (by decide +kernel)), (zmem 16 (by decide +kernel) (by decide +kernel))⟩
theorem iX6_least_41 : zI cX6_least 41 (.invokevirtual 249) 3 44 := ⟨by decide +kernel, rfl⟩
theorem iX6_least_48 : zI cX6_least 48 (.ifCond .ge 6) 3 51 := ⟨by decide +kernel, rfl⟩
theorem iX6_least_55 : zI cX6_least 55 (.ifCond .ne 8) 3 58 := ⟨by decide +kernel, rfl⟩
theorem iX6_least_69 : zI cX6_least 69 (.invokevirtual 252) 3 72 := ⟨by decide +kernel, rfl⟩
theorem iX6_least_72 : zI cX6_least 72 (.ireturn) 1 73 := ⟨by decide +kernel, rfl⟩
theorem iX6_least_67 : zI cX6_least 67 (.iload 5) 2 69 := ⟨by decide +kernel, rfl⟩
theorem iX6_least_64 : zI cX6_least 64 (.getfield 30) 3 67 := ⟨by decide +kernel, rfl⟩
theorem iX6_least_63 : zI cX6_least 63 (.aload_n 0) 1 64 := ⟨by decide +kernel, rfl⟩
theorem iX6_least_60 : zI cX6_least 60 (.goto 12) 3 63 := ⟨by decide +kernel, rfl⟩
theorem iX6_least_58 : zI cX6_least 58 (.iload 5) 2 60 := ⟨by decide +kernel, rfl⟩
theorem iX6_least_54 : zI cX6_least 54 (.iload_n 3) 1 55 := ⟨by decide +kernel, rfl⟩
theorem iX6_least_53 : zI cX6_least 53 (.ireturn) 1 54 := ⟨by decide +kernel, rfl⟩
theorem iX6_least_51 : zI cX6_least 51 (.bipush (-4)) 2 53 := ⟨by decide +kernel, rfl⟩
theorem iX6_least_46 : zI cX6_least 46 (.iload 5) 2 48 := ⟨by decide +kernel, rfl⟩
theorem iX6_least_44 : zI cX6_least 44 (.istore 5) 2 46 := ⟨by decide +kernel, rfl⟩
theorem iX6_least_40 : zI cX6_least 40 (.iload_n 2) 1 41 := ⟨by decide +kernel, rfl⟩
theorem iX6_least_38 : zI cX6_least 38 (.iload 4) 2 40 := ⟨by decide +kernel, rfl⟩
theorem iX6_least_37 : zI cX6_least 37 (.aload_n 0) 1 38 := ⟨by decide +kernel, rfl⟩
theorem iX6_least_31 : zI cX6_least 31 (.iconst 1) 1 32 := ⟨by decide +kernel, rfl⟩
theorem iX6_least_30 : zI cX6_least 30 (.iload_n 3) 1 31 := ⟨by decide +kernel, rfl⟩
theorem iX6_least_26 : zI cX6_least 26 (.iload_n 3) 1 27 := ⟨by decide +kernel, rfl⟩
theorem iX6_least_21 : zI cX6_least 21 (.bipush 30) 2 23 := ⟨by decide +kernel, rfl⟩
theorem iX6_least_20 : zI cX6_least 20 (.iload_n 2) 1 21 := ⟨by decide +kernel, rfl⟩
theorem iX6_least_16 : zI cX6_least 16 (.iconst 1) 1 17 := ⟨by decide +kernel, rfl⟩
theorem iX6_least_15 : zI cX6_least 15 (.iload_n 2) 1 16 := ⟨by decide +kernel, rfl⟩
theorem iX6_least_10 : zI cX6_least 10 (.iload 4) 2 12 := ⟨by decide +kernel, rfl⟩
theorem iX6_least_8 : zI cX6_least 8 (.istore 4) 2 10 := ⟨by decide +kernel, rfl⟩
theorem iX6_least_4 : zI cX6_least 4 (.iload_n 1) 1 5 := ⟨by decide +kernel, rfl⟩
theorem iX6_least_1 : zI cX6_least 1 (.getfield 38) 3 4 := ⟨by decide +kernel, rfl⟩
theorem iX6_least_0 : zI cX6_least 0 (.aload_n 0) 1 1 := ⟨by decide +kernel, rfl⟩
set_option maxHeartbeats 4000000 in
set_option maxRecDepth 100000 in
theorem m_SS_least (x1 : Int32) (x2 : Int32) (x3 : Int32) (h : zH) : zM yX6_least cX6_least 6 (some .int) 7 shX (fun ad => [.ref (ad 0), .int x1, .int x2, .int x3]) h eI (SS_least x1 x2 x3 h) := by
  refine zM.of (by decide) (fun _ => rfl) (fun _ => Nat.le_of_ble_eq_true rfl) (fun X ad hnL C => ?_)
  show zG X ad shX eI 0 [some (.ref (ad 0)), some (.int x1), some (.int x2), some (.int x3), none, none] [] h _
  unfold SS_least
  refine g_aload_n C iX6_least_0 rfl ?_
  refine g_getR (b := 29) C fX6_38 iX6_least_1 sh0 rfl ?_
  refine g_iload_n C iX6_least_4 rfl ?_
  refine g_callV C wX6_192 iX6_least_5 (m_Gr_rootOf 29 isG29 x1 h) (by decide) isG29.1 rfl rfl rfl rfl (Nat.le_of_ble_eq_true rfl) (fun r => ?_)
  show zG X ad shX eI 8 [some (.ref (ad 0)), some (.int x1), some (.int x2), some (.int x3), none, none] [.int r] h _
  refine g_istore (lv' := [some (.ref (ad 0)), some (.int x1), some (.int x2), some (.int x3), some (.int r), none]) C hnL iX6_least_8 (by decide) rfl ?_
  refine g_iload C iX6_least_10 rfl ?_
  refine g_if_lt C 35 iX6_least_12 (by decide) (fun c12 => ?_) (fun c12 => ?_)
  · refine g_iconst C (-1) iX6_least_35 (by decide) ?_
    exact g_iret C iX6_least_36 rfl
  · refine g_iload_n C iX6_least_15 rfl ?_
    refine g_iconst C 1 iX6_least_16 (by decide) ?_
    refine g_icmp_lt C 35 iX6_least_17 (by decide) (fun c17 => ?_) (fun c17 => ?_)
    · refine g_iconst C (-1) iX6_least_35 (by decide) ?_
      exact g_iret C iX6_least_36 rfl
    · refine g_iload_n C iX6_least_20 rfl ?_
      refine g_bipush C 30 iX6_least_21 (by decide) ?_
      refine g_icmp_gt C 35 iX6_least_23 (by decide) (fun c23 => ?_) (fun c23 => ?_)
      · refine g_iconst C (-1) iX6_least_35 (by decide) ?_
        exact g_iret C iX6_least_36 rfl
      · refine g_iload_n C iX6_least_26 rfl ?_
        refine g_if_lt C 35 iX6_least_27 (by decide) (fun c27 => ?_) (fun c27 => ?_)
        · refine g_iconst C (-1) iX6_least_35 (by decide) ?_
          exact g_iret C iX6_least_36 rfl
        · refine g_iload_n C iX6_least_30 rfl ?_
          refine g_iconst C 1 iX6_least_31 (by decide) ?_
          refine g_icmp_le C 37 iX6_least_32 (by decide) (fun c32 => ?_) (fun c32 => ?_)
          · refine g_aload_n C iX6_least_37 rfl ?_
            refine g_iload C iX6_least_38 rfl ?_
            refine g_iload_n C iX6_least_40 rfl ?_
            refine g_callV C wX6_249 iX6_least_41 (m_SS_leastSet r x2 h) (by decide) sh0 rfl rfl rfl rfl (Nat.le_of_ble_eq_true rfl) (fun r_1 => ?_)
            show zG X ad shX eI 44 [some (.ref (ad 0)), some (.int x1), some (.int x2), some (.int x3), some (.int r), none] [.int r_1.1] r_1.2 _
            refine g_istore (lv' := [some (.ref (ad 0)), some (.int x1), some (.int x2), some (.int x3), some (.int r), some (.int r_1.1)]) C hnL iX6_least_44 (by decide) rfl ?_
            refine g_iload C iX6_least_46 rfl ?_
            refine g_if_ge C 54 iX6_least_48 (by decide) (fun c48 => ?_) (fun c48 => ?_)
            · refine g_iload_n C iX6_least_54 rfl ?_
              refine g_if_ne C 63 iX6_least_55 (by decide) (fun c55 => ?_) (fun c55 => ?_)
              · refine g_iload C iX6_least_58 rfl ?_
                refine g_goto C 72 iX6_least_60 (by decide) ?_
                exact g_iret C iX6_least_72 rfl
              · refine g_aload_n C iX6_least_63 rfl ?_
                refine g_getR (b := 17) C fX6_30 iX6_least_64 sh0 rfl ?_
                refine g_iload C iX6_least_67 rfl ?_
                refine g_callV C wX6_252 iX6_least_69 (m_Pl_loadOfSet 17 isP17 r_1.1 r_1.2) (by decide) isP17.1 rfl rfl rfl rfl (Nat.le_of_ble_eq_true rfl) (fun r_2 => ?_)
                show zG X ad shX eI 72 [some (.ref (ad 0)), some (.int x1), some (.int x2), some (.int x3), some (.int r), some (.int r_1.1)] [.int r_2] r_1.2 _
                exact g_iret C iX6_least_72 rfl
            · refine g_bipush C (-4) iX6_least_51 (by decide) ?_
              exact g_iret C iX6_least_53 rfl
          · refine g_iconst C (-1) iX6_least_35 (by decide) ?_
            exact g_iret C iX6_least_36 rfl

theorem iX6_dark_5 : zI cX6_dark 5 (.invokevirtual 165) 3 8 := ⟨by decide +kernel, rfl⟩
theorem iX6_dark_8 : zI cX6_dark 8 (.ifCond .ne 5) 3 11 := ⟨by decide +kernel, rfl⟩
theorem iX6_dark_28 : zI cX6_dark 28 (.invokevirtual 152) 3 31 := ⟨by decide +kernel, rfl⟩
theorem iX6_dark_31 : zI cX6_dark 31 (.ifCond .eq 6) 3 34 := ⟨by decide +kernel, rfl⟩
theorem iX6_dark_45 : zI cX6_dark 45 (.invokevirtual 234) 3 48 := ⟨by decide +kernel, rfl⟩
theorem iX6_dark_53 : zI cX6_dark 53 (.if_icmp .gt 30) 3 56 := ⟨by decide +kernel, rfl⟩
theorem iX6_dark_61 : zI cX6_dark 61 (.invokevirtual 255) 3 64 := ⟨by decide +kernel, rfl⟩
theorem iX6_dark_69 : zI cX6_dark 69 (.invokevirtual 152) 3 72 := ⟨by decide +kernel, rfl⟩
theorem iX6_dark_72 : zI cX6_dark 72 (.ifCond .eq 5) 3 75 := ⟨by decide +kernel, rfl⟩
theorem iX6_dark_80 : zI cX6_dark 80 (.goto (-30)) 3 83 := ⟨by decide +kernel, rfl⟩
theorem iX6_dark_77 : zI cX6_dark 77 (.iinc 3 1) 3 80 := ⟨by decide +kernel, rfl⟩
theorem iX6_dark_68 : zI cX6_dark 68 (.iload_n 2) 1 69 := ⟨by decide +kernel, rfl⟩
theorem iX6_dark_65 : zI cX6_dark 65 (.getfield 42) 3 68 := ⟨by decide +kernel, rfl⟩
theorem iX6_dark_64 : zI cX6_dark 64 (.aload_n 0) 1 65 := ⟨by decide +kernel, rfl⟩
theorem iX6_dark_60 : zI cX6_dark 60 (.iload_n 2) 1 61 := ⟨by decide +kernel, rfl⟩
theorem iX6_dark_57 : zI cX6_dark 57 (.getfield 54) 3 60 := ⟨by decide +kernel, rfl⟩
theorem iX6_dark_56 : zI cX6_dark 56 (.aload_n 0) 1 57 := ⟨by decide +kernel, rfl⟩
theorem iX6_dark_51 : zI cX6_dark 51 (.bipush 60) 2 53 := ⟨by decide +kernel, rfl⟩
theorem iX6_dark_50 : zI cX6_dark 50 (.iload_n 3) 1 51 := ⟨by decide +kernel, rfl⟩
theorem iX6_dark_76 : zI cX6_dark 76 (.ireturn) 1 77 := ⟨by decide +kernel, rfl⟩
theorem iX6_dark_75 : zI cX6_dark 75 (.iload_n 3) 1 76 := ⟨by decide +kernel, rfl⟩
theorem iX6_dark_85 : zI cX6_dark 85 (.ireturn) 1 86 := ⟨by decide +kernel, rfl⟩
theorem iX6_dark_83 : zI cX6_dark 83 (.bipush (-4)) 2 85 := ⟨by decide +kernel, rfl⟩
theorem iX6_dark_49 : zI cX6_dark 49 (.istore_n 3) 1 50 := ⟨by decide +kernel, rfl⟩
theorem iX6_dark_48 : zI cX6_dark 48 (.iconst 1) 1 49 := ⟨by decide +kernel, rfl⟩
theorem iX6_dark_42 : zI cX6_dark 42 (.getfield 38) 3 45 := ⟨by decide +kernel, rfl⟩
theorem iX6_dark_41 : zI cX6_dark 41 (.aload_n 0) 1 42 := ⟨by decide +kernel, rfl⟩
theorem iX6_dark_38 : zI cX6_dark 38 (.getfield 42) 3 41 := ⟨by decide +kernel, rfl⟩
theorem iX6_dark_37 : zI cX6_dark 37 (.aload_n 0) 1 38 := ⟨by decide +kernel, rfl⟩
theorem iX6_dark_36 : zI cX6_dark 36 (.ireturn) 1 37 := ⟨by decide +kernel, rfl⟩
theorem iX6_dark_34 : zI cX6_dark 34 (.bipush (-2)) 2 36 := ⟨by decide +kernel, rfl⟩
theorem iX6_dark_27 : zI cX6_dark 27 (.iload_n 2) 1 28 := ⟨by decide +kernel, rfl⟩
theorem iX6_dark_24 : zI cX6_dark 24 (.getfield 38) 3 27 := ⟨by decide +kernel, rfl⟩
theorem iX6_dark_23 : zI cX6_dark 23 (.aload_n 0) 1 24 := ⟨by decide +kernel, rfl⟩
theorem iX6_dark_22 : zI cX6_dark 22 (.istore_n 2) 1 23 := ⟨by decide +kernel, rfl⟩
theorem iX6_dark_21 : zI cX6_dark 21 (.iaload) 1 22 := ⟨by decide +kernel, rfl⟩
theorem iX6_dark_20 : zI cX6_dark 20 (.iload_n 1) 1 21 := ⟨by decide +kernel, rfl⟩
theorem iX6_dark_17 : zI cX6_dark 17 (.getfield 142) 3 20 := ⟨by decide +kernel, rfl⟩
theorem iX6_dark_14 : zI cX6_dark 14 (.getfield 38) 3 17 := ⟨by decide +kernel, rfl⟩
theorem iX6_dark_13 : zI cX6_dark 13 (.aload_n 0) 1 14 := ⟨by decide +kernel, rfl⟩
theorem iX6_dark_12 : zI cX6_dark 12 (.ireturn) 1 13 := ⟨by decide +kernel, rfl⟩
theorem iX6_dark_11 : zI cX6_dark 11 (.iconst (-1)) 1 12 := ⟨by decide +kernel, rfl⟩
theorem iX6_dark_4 : zI cX6_dark 4 (.iload_n 1) 1 5 := ⟨by decide +kernel, rfl⟩
theorem iX6_dark_1 : zI cX6_dark 1 (.getfield 30) 3 4 := ⟨by decide +kernel, rfl⟩
theorem iX6_dark_0 : zI cX6_dark 0 (.aload_n 0) 1 1 := ⟨by decide +kernel, rfl⟩
set_option maxHeartbeats 4000000 in
set_option maxRecDepth 100000 in
theorem m_SS_dark (x1 : Int32) (h : zH) : zM yX6_dark cX6_dark 4 (some .int) 5 shX (fun ad => [.ref (ad 0), .int x1]) h eI (SS_dark x1 h) := by
  refine zM.of (by decide) (fun _ => rfl) (fun _ => Nat.le_of_ble_eq_true rfl) (fun X ad hnL C => ?_)
  show zG X ad shX eI 0 [some (.ref (ad 0)), some (.int x1), none, none] [] h _
  unfold SS_dark
  refine g_aload_n C iX6_dark_0 rfl ?_
  refine g_getR (b := 17) C fX6_30 iX6_dark_1 sh0 rfl ?_
  refine g_iload_n C iX6_dark_4 rfl ?_
  refine g_callV C wX6_165 iX6_dark_5 (m_Pl_isBus 17 isP17 x1 h) (by decide) isP17.1 rfl rfl rfl rfl (Nat.le_of_ble_eq_true rfl) (fun r => ?_)
  show zG X ad shX eI 8 [some (.ref (ad 0)), some (.int x1), none, none] [.int r] h _
  refine g_if_ne C 13 iX6_dark_8 (by decide) (fun c8 => ?_) (fun c8 => ?_)
  · refine g_iconst C (-1) iX6_dark_11 (by decide) ?_
    exact g_iret C iX6_dark_12 rfl
  · refine g_aload_n C iX6_dark_13 rfl ?_
    refine g_getR (b := 29) C fX6_38 iX6_dark_14 sh0 rfl ?_
    refine g_getR (b := 30) C fX6_142 iX6_dark_17 isG29.1 rfl ?_
    refine g_iload_n C iX6_dark_20 rfl ?_
    refine g_iaload C iX6_dark_21 isG29.2.1 ?_
    refine g_top (fun x2 => ?_)
    refine g_istore_n (lv' := [some (.ref (ad 0)), some (.int x1), some (.int x2), none]) C hnL iX6_dark_22 (by decide) rfl ?_
    refine g_aload_n C iX6_dark_23 rfl ?_
    refine g_getR (b := 29) C fX6_38 iX6_dark_24 sh0 rfl ?_
    refine g_iload_n C iX6_dark_27 rfl ?_
    refine g_callV C wX6_152 iX6_dark_28 (m_Gr_isDark 29 isG29 x2 h) (by decide) isG29.1 rfl rfl rfl rfl (Nat.le_of_ble_eq_true rfl) (fun r_1 => ?_)
    show zG X ad shX eI 31 [some (.ref (ad 0)), some (.int x1), some (.int x2), none] [.int r_1] h _
    refine g_if_eq C 37 iX6_dark_31 (by decide) (fun c31 => ?_) (fun c31 => ?_)
    · refine g_aload_n C iX6_dark_37 rfl ?_
      refine g_getR (b := 37) C fX6_42 iX6_dark_38 sh0 rfl ?_
      refine g_aload_n C iX6_dark_41 rfl ?_
      refine g_getR (b := 29) C fX6_38 iX6_dark_42 sh0 rfl ?_
      refine g_callV C wX6_234 iX6_dark_45 (m_Gr_copy 37 isG37 29 isG29 h) (by decide) isG37.1 rfl rfl rfl rfl (Nat.le_of_ble_eq_true rfl) (fun h_1 => ?_)
      show zG X ad shX eI 48 [some (.ref (ad 0)), some (.int x1), some (.int x2), none] [] h_1 _
      refine g_iconst C 1 iX6_dark_48 (by decide) ?_
      refine g_istore_n (lv' := [some (.ref (ad 0)), some (.int x1), some (.int x2), some (.int 1)]) C hnL iX6_dark_49 (by decide) rfl ?_
      have L50 : ∀ (k75 : Int32 → zH → Option (Int32 × zH)), (∀ (y3 : Int32) (hy : zH), zG X ad shX eI 75 [none, none, none, some (.int y3)] [] hy (k75 y3 hy)) → ∀ (k83 : zH → Option (Int32 × zH)), (∀ (hy : zH), zG X ad shX eI 83 [none, none, none, none] [] hy (k83 hy)) → ∀ (n : Nat) (x3 : Int32) (h_2 : zH), zG X ad shX eI 50 [some (.ref (ad 0)), none, some (.int x2), some (.int x3)] [] h_2 (SS_dark_L50 x2 k75 k83 n x3 h_2) := by
        intro k75 hk75 k83 hk83 n
        induction n with
        | zero =>
          intro x3 h_2
          exact g_none
        | succ n ih50 =>
          intro x3 h_2
          rw [SS_dark_L50]
          refine g_iload_n C iX6_dark_50 rfl ?_
          refine g_bipush C 60 iX6_dark_51 (by decide) ?_
          refine g_icmp_gt C 83 iX6_dark_53 (by decide) (fun c53 => ?_) (fun c53 => ?_)
          · refine g_sub (lv' := [none, none, none, none]) trivial ?_
            exact hk83 _
          · refine g_aload_n C iX6_dark_56 rfl ?_
            refine g_getR (b := 46) C fX6_54 iX6_dark_57 sh0 rfl ?_
            refine g_iload_n C iX6_dark_60 rfl ?_
            refine g_callV C wX6_255 iX6_dark_61 (m_Co_passIsland 46 37 isC46 isG37 x2 h_2) (by decide) isC46 rfl rfl rfl rfl (Nat.le_of_ble_eq_true rfl) (fun h_3 => ?_)
            show zG X ad shX eI 64 [some (.ref (ad 0)), none, some (.int x2), some (.int x3)] [] h_3 _
            refine g_aload_n C iX6_dark_64 rfl ?_
            refine g_getR (b := 37) C fX6_42 iX6_dark_65 sh0 rfl ?_
            refine g_iload_n C iX6_dark_68 rfl ?_
            refine g_callV C wX6_152 iX6_dark_69 (m_Gr_isDark 37 isG37 x2 h_3) (by decide) isG37.1 rfl rfl rfl rfl (Nat.le_of_ble_eq_true rfl) (fun r_2 => ?_)
            show zG X ad shX eI 72 [some (.ref (ad 0)), none, some (.int x2), some (.int x3)] [.int r_2] h_3 _
            refine g_if_eq C 77 iX6_dark_72 (by decide) (fun c72 => ?_) (fun c72 => ?_)
            · refine g_iinc (v := (x3 + 1)) (lv' := [some (.ref (ad 0)), none, some (.int x2), some (.int (x3 + 1))]) C hnL iX6_dark_77 (by decide) rfl rfl rfl ?_
              refine g_goto C 50 iX6_dark_80 (by decide) ?_
              exact ih50 _ _
            · refine g_sub (lv' := [none, none, none, some (.int x3)]) ⟨rfl, trivial⟩ ?_
              exact hk75 _ _
      refine g_sub (lv' := [some (.ref (ad 0)), none, some (.int x2), some (.int 1)]) ⟨rfl, ⟨rfl, ⟨rfl, trivial⟩⟩⟩ ?_
      refine L50 _ (fun x3_1 h_4 => ?_) _ (fun h_5 => ?_) 1000 _ _
      · show zG X ad shX eI 75 [none, none, none, some (.int x3_1)] [] h_4 _
        refine g_iload_n C iX6_dark_75 rfl ?_
        exact g_iret C iX6_dark_76 rfl
      · show zG X ad shX eI 83 [none, none, none, none] [] h_5 _
        refine g_bipush C (-4) iX6_dark_83 (by decide) ?_
        exact g_iret C iX6_dark_85 rfl
    · refine g_bipush C (-2) iX6_dark_34 (by decide) ?_
      exact g_iret C iX6_dark_36 rfl

theorem iX6_count_1 : zI cX6_count 1 (.tableswitch 167 0 11 #[63, 71, 79, 87, 95, 103, 111, 119, 127, 143, 151, 159]) 63 64 := ⟨by decide +kernel, rfl⟩
theorem iX6_count_71 : zI cX6_count 71 (.ireturn) 1 72 := ⟨by decide +kernel, rfl⟩
theorem iX6_count_68 : zI cX6_count 68 (.getfield 93) 3 71 := ⟨by decide +kernel, rfl⟩
theorem iX6_count_65 : zI cX6_count 65 (.getfield 30) 3 68 := ⟨by decide +kernel, rfl⟩
theorem iX6_count_64 : zI cX6_count 64 (.aload_n 0) 1 65 := ⟨by decide +kernel, rfl⟩
theorem iX6_count_79 : zI cX6_count 79 (.ireturn) 1 80 := ⟨by decide +kernel, rfl⟩
theorem iX6_count_76 : zI cX6_count 76 (.getfield 116) 3 79 := ⟨by decide +kernel, rfl⟩
theorem iX6_count_73 : zI cX6_count 73 (.getfield 30) 3 76 := ⟨by decide +kernel, rfl⟩
theorem iX6_count_72 : zI cX6_count 72 (.aload_n 0) 1 73 := ⟨by decide +kernel, rfl⟩
theorem iX6_count_87 : zI cX6_count 87 (.ireturn) 1 88 := ⟨by decide +kernel, rfl⟩
theorem iX6_count_84 : zI cX6_count 84 (.getfield 222) 3 87 := ⟨by decide +kernel, rfl⟩
theorem iX6_count_81 : zI cX6_count 81 (.getfield 30) 3 84 := ⟨by decide +kernel, rfl⟩
theorem iX6_count_80 : zI cX6_count 80 (.aload_n 0) 1 81 := ⟨by decide +kernel, rfl⟩
theorem iX6_count_95 : zI cX6_count 95 (.ireturn) 1 96 := ⟨by decide +kernel, rfl⟩
theorem iX6_count_92 : zI cX6_count 92 (.getfield 139) 3 95 := ⟨by decide +kernel, rfl⟩
theorem iX6_count_89 : zI cX6_count 89 (.getfield 30) 3 92 := ⟨by decide +kernel, rfl⟩
theorem iX6_count_88 : zI cX6_count 88 (.aload_n 0) 1 89 := ⟨by decide +kernel, rfl⟩
theorem fX6_258 : zFl RX6 258 4 4 := ⟨RX4, TX4, 16, rfl, by decide, (zmem 136 (by decide +kernel) (by decide +kernel)), u_inX4⟩
theorem iX6_count_103 : zI cX6_count 103 (.ireturn) 1 104 := ⟨by decide +kernel, rfl⟩
theorem iX6_count_100 : zI cX6_count 100 (.getfield 258) 3 103 := ⟨by decide +kernel, rfl⟩
theorem iX6_count_97 : zI cX6_count 97 (.getfield 30) 3 100 := ⟨by decide +kernel, rfl⟩
theorem iX6_count_96 : zI cX6_count 96 (.aload_n 0) 1 97 := ⟨by decide +kernel, rfl⟩
theorem iX6_count_108 : zI cX6_count 108 (.invokevirtual 97) 3 111 := ⟨by decide +kernel, rfl⟩
theorem iX6_count_111 : zI cX6_count 111 (.ireturn) 1 112 := ⟨by decide +kernel, rfl⟩
theorem iX6_count_105 : zI cX6_count 105 (.getfield 38) 3 108 := ⟨by decide +kernel, rfl⟩
theorem iX6_count_104 : zI cX6_count 104 (.aload_n 0) 1 105 := ⟨by decide +kernel, rfl⟩
set_option maxRecDepth 100000 in
theorem wX6_261 : zCv RX6 261 yX1_darkIslands cX1_darkIslands 3 (some .int) 0 := ⟨⟨(zmem 751 (by decide +kernel) (by decide +kernel)), (zmem 67 (by decide +kernel) (by decide +kernel)), (zmem 754 rfl rfl), ⟨by decide, by decide, by decide +kernel⟩, by decide⟩, (zmem 752 (by decide +kernel) (by decide +kernel)), (zmem 753 (by decide +kernel) (by decide +kernel))⟩
theorem iX6_count_116 : zI cX6_count 116 (.invokevirtual 261) 3 119 := ⟨by decide +kernel, rfl⟩
theorem iX6_count_119 : zI cX6_count 119 (.ireturn) 1 120 := ⟨by decide +kernel, rfl⟩
theorem iX6_count_113 : zI cX6_count 113 (.getfield 38) 3 116 := ⟨by decide +kernel, rfl⟩
theorem iX6_count_112 : zI cX6_count 112 (.aload_n 0) 1 113 := ⟨by decide +kernel, rfl⟩
theorem iX6_count_127 : zI cX6_count 127 (.ireturn) 1 128 := ⟨by decide +kernel, rfl⟩
theorem iX6_count_124 : zI cX6_count 124 (.getfield 100) 3 127 := ⟨by decide +kernel, rfl⟩
theorem iX6_count_121 : zI cX6_count 121 (.getfield 38) 3 124 := ⟨by decide +kernel, rfl⟩
theorem iX6_count_120 : zI cX6_count 120 (.aload_n 0) 1 121 := ⟨by decide +kernel, rfl⟩
theorem iX6_count_143 : zI cX6_count 143 (.ireturn) 1 144 := ⟨by decide +kernel, rfl⟩
theorem iX6_count_142 : zI cX6_count 142 (.isub) 1 143 := ⟨by decide +kernel, rfl⟩
theorem iX6_count_139 : zI cX6_count 139 (.getfield 228) 3 142 := ⟨by decide +kernel, rfl⟩
theorem iX6_count_136 : zI cX6_count 136 (.getfield 38) 3 139 := ⟨by decide +kernel, rfl⟩
theorem iX6_count_135 : zI cX6_count 135 (.aload_n 0) 1 136 := ⟨by decide +kernel, rfl⟩
theorem iX6_count_132 : zI cX6_count 132 (.getfield 139) 3 135 := ⟨by decide +kernel, rfl⟩
theorem iX6_count_129 : zI cX6_count 129 (.getfield 30) 3 132 := ⟨by decide +kernel, rfl⟩
theorem iX6_count_128 : zI cX6_count 128 (.aload_n 0) 1 129 := ⟨by decide +kernel, rfl⟩
set_option maxRecDepth 100000 in
theorem wX6_264 : zCv RX6 264 yX1_loadOfAll cX1_loadOfAll 1 (some .int) 0 := ⟨⟨(zmem 755 (by decide +kernel) (by decide +kernel)), (zmem 67 (by decide +kernel) (by decide +kernel)), (zmem 758 rfl rfl), ⟨by decide, by decide, by decide +kernel⟩, by decide⟩, (zmem 756 (by decide +kernel) (by decide +kernel)), (zmem 757 (by decide +kernel) (by decide +kernel))⟩
theorem iX6_count_148 : zI cX6_count 148 (.invokevirtual 264) 3 151 := ⟨by decide +kernel, rfl⟩
theorem iX6_count_151 : zI cX6_count 151 (.ireturn) 1 152 := ⟨by decide +kernel, rfl⟩
theorem iX6_count_145 : zI cX6_count 145 (.getfield 38) 3 148 := ⟨by decide +kernel, rfl⟩
theorem iX6_count_144 : zI cX6_count 144 (.aload_n 0) 1 145 := ⟨by decide +kernel, rfl⟩
theorem iX6_count_159 : zI cX6_count 159 (.ireturn) 1 160 := ⟨by decide +kernel, rfl⟩
theorem iX6_count_156 : zI cX6_count 156 (.getfield 186) 3 159 := ⟨by decide +kernel, rfl⟩
theorem iX6_count_153 : zI cX6_count 153 (.getfield 60) 3 156 := ⟨by decide +kernel, rfl⟩
theorem iX6_count_152 : zI cX6_count 152 (.aload_n 0) 1 153 := ⟨by decide +kernel, rfl⟩
theorem iX6_count_167 : zI cX6_count 167 (.ireturn) 1 168 := ⟨by decide +kernel, rfl⟩
theorem iX6_count_164 : zI cX6_count 164 (.getfield 90) 3 167 := ⟨by decide +kernel, rfl⟩
theorem iX6_count_161 : zI cX6_count 161 (.getfield 12) 3 164 := ⟨by decide +kernel, rfl⟩
theorem iX6_count_160 : zI cX6_count 160 (.aload_n 0) 1 161 := ⟨by decide +kernel, rfl⟩
theorem iX6_count_169 : zI cX6_count 169 (.ireturn) 1 170 := ⟨by decide +kernel, rfl⟩
theorem iX6_count_168 : zI cX6_count 168 (.iconst (-1)) 1 169 := ⟨by decide +kernel, rfl⟩
theorem iX6_count_0 : zI cX6_count 0 (.iload_n 1) 1 1 := ⟨by decide +kernel, rfl⟩
set_option maxHeartbeats 4000000 in
set_option maxRecDepth 100000 in
theorem m_SS_count (x1 : Int32) (h : zH) : zM yX6_count cX6_count 2 (some .int) 3 shX (fun ad => [.ref (ad 0), .int x1]) h (eP h) (SS_count x1 h) := by
  refine zM.of (by decide) (fun _ => rfl) (fun _ => Nat.le_of_ble_eq_true rfl) (fun X ad hnL C => ?_)
  show zG X ad shX (eP h) 0 [some (.ref (ad 0)), some (.int x1)] [] h _
  unfold SS_count
  refine g_iload_n C iX6_count_0 rfl ?_
  refine g_ite (fun c1 => ?_) (fun c1_0 => ?_)
  · refine g_tab C 64 iX6_count_1 (by rw [c1]; decide +kernel) ?_
    refine g_aload_n C iX6_count_64 rfl ?_
    refine g_getR (b := 17) C fX6_30 iX6_count_65 sh0 rfl ?_
    refine g_getI C fX6_93 iX6_count_68 isP17.1 rfl ?_
    exact g_iret C iX6_count_71 rfl
  refine g_ite (fun c1 => ?_) (fun c1_1 => ?_)
  · refine g_tab C 72 iX6_count_1 (by rw [c1]; decide +kernel) ?_
    refine g_aload_n C iX6_count_72 rfl ?_
    refine g_getR (b := 17) C fX6_30 iX6_count_73 sh0 rfl ?_
    refine g_getI C fX6_116 iX6_count_76 isP17.1 rfl ?_
    exact g_iret C iX6_count_79 rfl
  refine g_ite (fun c1 => ?_) (fun c1_2 => ?_)
  · refine g_tab C 80 iX6_count_1 (by rw [c1]; decide +kernel) ?_
    refine g_aload_n C iX6_count_80 rfl ?_
    refine g_getR (b := 17) C fX6_30 iX6_count_81 sh0 rfl ?_
    refine g_getI C fX6_222 iX6_count_84 isP17.1 rfl ?_
    exact g_iret C iX6_count_87 rfl
  refine g_ite (fun c1 => ?_) (fun c1_3 => ?_)
  · refine g_tab C 88 iX6_count_1 (by rw [c1]; decide +kernel) ?_
    refine g_aload_n C iX6_count_88 rfl ?_
    refine g_getR (b := 17) C fX6_30 iX6_count_89 sh0 rfl ?_
    refine g_getI C fX6_139 iX6_count_92 isP17.1 rfl ?_
    exact g_iret C iX6_count_95 rfl
  refine g_ite (fun c1 => ?_) (fun c1_4 => ?_)
  · refine g_tab C 96 iX6_count_1 (by rw [c1]; decide +kernel) ?_
    refine g_aload_n C iX6_count_96 rfl ?_
    refine g_getR (b := 17) C fX6_30 iX6_count_97 sh0 rfl ?_
    refine g_getI C fX6_258 iX6_count_100 isP17.1 rfl ?_
    exact g_iret C iX6_count_103 rfl
  refine g_ite (fun c1 => ?_) (fun c1_5 => ?_)
  · refine g_tab C 104 iX6_count_1 (by rw [c1]; decide +kernel) ?_
    refine g_aload_n C iX6_count_104 rfl ?_
    refine g_getR (b := 29) C fX6_38 iX6_count_105 sh0 rfl ?_
    refine g_callV C wX6_97 iX6_count_108 (m_Gr_islands 29 isG29 h) (by decide) isG29.1 rfl rfl rfl rfl (Nat.le_of_ble_eq_true rfl) (fun r => ?_)
    show zG X ad shX (eP h) 111 [some (.ref (ad 0)), some (.int x1)] [.int r] h _
    exact g_iret C iX6_count_111 rfl
  refine g_ite (fun c1 => ?_) (fun c1_6 => ?_)
  · refine g_tab C 112 iX6_count_1 (by rw [c1]; decide +kernel) ?_
    refine g_aload_n C iX6_count_112 rfl ?_
    refine g_getR (b := 29) C fX6_38 iX6_count_113 sh0 rfl ?_
    refine g_callV C wX6_261 iX6_count_116 (m_Gr_darkIslands 29 isG29 h) (by decide) isG29.1 rfl rfl rfl rfl (Nat.le_of_ble_eq_true rfl) (fun r_1 => ?_)
    show zG X ad shX (eP h) 119 [some (.ref (ad 0)), some (.int x1)] [.int r_1] h _
    exact g_iret C iX6_count_119 rfl
  refine g_ite (fun c1 => ?_) (fun c1_7 => ?_)
  · refine g_tab C 120 iX6_count_1 (by rw [c1]; decide +kernel) ?_
    refine g_aload_n C iX6_count_120 rfl ?_
    refine g_getR (b := 29) C fX6_38 iX6_count_121 sh0 rfl ?_
    refine g_getI C fX6_100 iX6_count_124 isG29.1 rfl ?_
    exact g_iret C iX6_count_127 rfl
  refine g_ite (fun c1 => ?_) (fun c1_8 => ?_)
  · refine g_tab C 128 iX6_count_1 (by rw [c1]; decide +kernel) ?_
    refine g_aload_n C iX6_count_128 rfl ?_
    refine g_getR (b := 17) C fX6_30 iX6_count_129 sh0 rfl ?_
    refine g_getI C fX6_139 iX6_count_132 isP17.1 rfl ?_
    refine g_aload_n C iX6_count_135 rfl ?_
    refine g_getR (b := 29) C fX6_38 iX6_count_136 sh0 rfl ?_
    refine g_getI C fX6_228 iX6_count_139 isG29.1 rfl ?_
    refine g_isub C iX6_count_142 ?_
    exact g_iret C iX6_count_143 rfl
  refine g_ite (fun c1 => ?_) (fun c1_9 => ?_)
  · refine g_tab C 144 iX6_count_1 (by rw [c1]; decide +kernel) ?_
    refine g_aload_n C iX6_count_144 rfl ?_
    refine g_getR (b := 29) C fX6_38 iX6_count_145 sh0 rfl ?_
    refine g_callV C wX6_264 iX6_count_148 (m_Gr_loadOfAll 29 isG29 h) (by decide) isG29.1 rfl rfl rfl rfl (Nat.le_of_ble_eq_true rfl) (fun r_2 => ?_)
    show zG X ad shX (eP h) 151 [some (.ref (ad 0)), some (.int x1)] [.int r_2] h _
    exact g_iret C iX6_count_151 rfl
  refine g_ite (fun c1 => ?_) (fun c1_10 => ?_)
  · refine g_tab C 152 iX6_count_1 (by rw [c1]; decide +kernel) ?_
    refine g_aload_n C iX6_count_152 rfl ?_
    refine g_getR (b := 47) C fX6_60 iX6_count_153 sh0 rfl ?_
    refine g_getI C fX6_186 iX6_count_156 sh47 rfl ?_
    exact g_iret C iX6_count_159 rfl
  refine g_ite (fun c1 => ?_) (fun c1_11 => ?_)
  · refine g_tab C 160 iX6_count_1 (by rw [c1]; decide +kernel) ?_
    refine g_aload_n C iX6_count_160 rfl ?_
    refine g_getR (b := 1) C fX6_12 iX6_count_161 sh0 rfl ?_
    refine g_getI C fX6_90 iX6_count_164 sh1 rfl ?_
    exact g_iret C iX6_count_167 rfl
  refine g_tab C 168 iX6_count_1 ((zTg_def [0, 1, 2, 3, 4, 5, 6, 7, 8, 9, 10, 11] (List.forall_mem_cons.mpr ⟨fun z9 => c1_0 (Int32.toInt_inj.mp (z9.trans (by decide))), List.forall_mem_cons.mpr ⟨fun z9 => c1_1 (Int32.toInt_inj.mp (z9.trans (by decide))), List.forall_mem_cons.mpr ⟨fun z9 => c1_2 (Int32.toInt_inj.mp (z9.trans (by decide))), List.forall_mem_cons.mpr ⟨fun z9 => c1_3 (Int32.toInt_inj.mp (z9.trans (by decide))), List.forall_mem_cons.mpr ⟨fun z9 => c1_4 (Int32.toInt_inj.mp (z9.trans (by decide))), List.forall_mem_cons.mpr ⟨fun z9 => c1_5 (Int32.toInt_inj.mp (z9.trans (by decide))), List.forall_mem_cons.mpr ⟨fun z9 => c1_6 (Int32.toInt_inj.mp (z9.trans (by decide))), List.forall_mem_cons.mpr ⟨fun z9 => c1_7 (Int32.toInt_inj.mp (z9.trans (by decide))), List.forall_mem_cons.mpr ⟨fun z9 => c1_8 (Int32.toInt_inj.mp (z9.trans (by decide))), List.forall_mem_cons.mpr ⟨fun z9 => c1_9 (Int32.toInt_inj.mp (z9.trans (by decide))), List.forall_mem_cons.mpr ⟨fun z9 => c1_10 (Int32.toInt_inj.mp (z9.trans (by decide))), List.forall_mem_cons.mpr ⟨fun z9 => c1_11 (Int32.toInt_inj.mp (z9.trans (by decide))), fun _ h9 => by cases h9⟩⟩⟩⟩⟩⟩⟩⟩⟩⟩⟩⟩) (by decide +kernel)).trans (by decide)) ?_
  refine g_iconst C (-1) iX6_count_168 (by decide) ?_
  exact g_iret C iX6_count_169 rfl

