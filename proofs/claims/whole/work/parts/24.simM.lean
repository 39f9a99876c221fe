theorem iX7_joins_2 : zI cX7_joins 2 (.invokevirtual 51) 3 5 := ⟨by decide +kernel, rfl⟩
theorem iX7_joins_8 : zI cX7_joins 8 (.invokevirtual 51) 3 11 := ⟨by decide +kernel, rfl⟩
theorem iX7_joins_16 : zI cX7_joins 16 (.if_icmp .ne 4) 3 19 := ⟨by decide +kernel, rfl⟩
set_option maxRecDepth 100000 in
theorem wX7_175 : zCv RX7 175 yX7_bothF cX7_bothF 7 (some .int) 4 := ⟨⟨(zmem 988 (by decide +kernel) (by decide +kernel)), (zmem 76 (by decide +kernel) (by decide +kernel)), (zmem 991 rfl rfl), ⟨by decide, by decide, by decide +kernel⟩, by decide⟩, (zmem 990 (by decide +kernel) (by decide +kernel)), (zmem 53 (by decide +kernel) (by decide +kernel))⟩
theorem iX7_joins_26 : zI cX7_joins 26 (.invokevirtual 175) 3 29 := ⟨by decide +kernel, rfl⟩
theorem iX7_joins_38 : zI cX7_joins 38 (.if_icmp .ge 91) 3 41 := ⟨by decide +kernel, rfl⟩
theorem iX7_joins_120 : zI cX7_joins 120 (.invokevirtual 150) 3 123 := ⟨by decide +kernel, rfl⟩
theorem iX7_joins_126 : zI cX7_joins 126 (.goto (-92)) 3 129 := ⟨by decide +kernel, rfl⟩
theorem iX7_joins_123 : zI cX7_joins 123 (.iinc 6 1) 3 126 := ⟨by decide +kernel, rfl⟩
theorem iX7_joins_118 : zI cX7_joins 118 (.iload 7) 2 120 := ⟨by decide +kernel, rfl⟩
theorem iX7_joins_116 : zI cX7_joins 116 (.iload 6) 2 118 := ⟨by decide +kernel, rfl⟩
theorem iX7_joins_115 : zI cX7_joins 115 (.ior) 1 116 := ⟨by decide +kernel, rfl⟩
theorem iX7_joins_113 : zI cX7_joins 113 (.iload 4) 2 115 := ⟨by decide +kernel, rfl⟩
theorem iX7_joins_112 : zI cX7_joins 112 (.iload_n 3) 1 113 := ⟨by decide +kernel, rfl⟩
theorem iX7_joins_111 : zI cX7_joins 111 (.aload_n 0) 1 112 := ⟨by decide +kernel, rfl⟩
theorem iX7_joins_109 : zI cX7_joins 109 (.istore 7) 2 111 := ⟨by decide +kernel, rfl⟩
theorem iX7_joins_47 : zI cX7_joins 47 (.ifCond .ne 34) 3 50 := ⟨by decide +kernel, rfl⟩
theorem iX7_joins_87 : zI cX7_joins 87 (.ifCond .ne 21) 3 90 := ⟨by decide +kernel, rfl⟩
theorem iX7_joins_108 : zI cX7_joins 108 (.iconst 0) 1 109 := ⟨by decide +kernel, rfl⟩
theorem iX7_joins_105 : zI cX7_joins 105 (.goto 4) 3 108 := ⟨by decide +kernel, rfl⟩
theorem iX7_joins_104 : zI cX7_joins 104 (.iaload) 1 105 := ⟨by decide +kernel, rfl⟩
theorem iX7_joins_103 : zI cX7_joins 103 (.iadd) 1 104 := ⟨by decide +kernel, rfl⟩
theorem iX7_joins_101 : zI cX7_joins 101 (.iload 6) 2 103 := ⟨by decide +kernel, rfl⟩
theorem iX7_joins_100 : zI cX7_joins 100 (.iadd) 1 101 := ⟨by decide +kernel, rfl⟩
theorem iX7_joins_99 : zI cX7_joins 99 (.imul) 1 100 := ⟨by decide +kernel, rfl⟩
theorem iX7_joins_98 : zI cX7_joins 98 (.iload_n 1) 1 99 := ⟨by decide +kernel, rfl⟩
theorem iX7_joins_96 : zI cX7_joins 96 (.bipush 6) 2 98 := ⟨by decide +kernel, rfl⟩
theorem iX7_joins_94 : zI cX7_joins 94 (.bipush 6) 2 96 := ⟨by decide +kernel, rfl⟩
theorem iX7_joins_91 : zI cX7_joins 91 (.getfield 28) 3 94 := ⟨by decide +kernel, rfl⟩
theorem iX7_joins_90 : zI cX7_joins 90 (.aload_n 0) 1 91 := ⟨by decide +kernel, rfl⟩
theorem iX7_joins_86 : zI cX7_joins 86 (.iaload) 1 87 := ⟨by decide +kernel, rfl⟩
theorem iX7_joins_85 : zI cX7_joins 85 (.iload_n 2) 1 86 := ⟨by decide +kernel, rfl⟩
theorem iX7_joins_82 : zI cX7_joins 82 (.getfield 28) 3 85 := ⟨by decide +kernel, rfl⟩
theorem iX7_joins_81 : zI cX7_joins 81 (.aload_n 0) 1 82 := ⟨by decide +kernel, rfl⟩
theorem iX7_joins_56 : zI cX7_joins 56 (.ifCond .ne 7) 3 59 := ⟨by decide +kernel, rfl⟩
theorem iX7_joins_78 : zI cX7_joins 78 (.goto 31) 3 81 := ⟨by decide +kernel, rfl⟩
theorem iX7_joins_77 : zI cX7_joins 77 (.iaload) 1 78 := ⟨by decide +kernel, rfl⟩
theorem iX7_joins_76 : zI cX7_joins 76 (.iadd) 1 77 := ⟨by decide +kernel, rfl⟩
theorem iX7_joins_74 : zI cX7_joins 74 (.iload 6) 2 76 := ⟨by decide +kernel, rfl⟩
theorem iX7_joins_73 : zI cX7_joins 73 (.iadd) 1 74 := ⟨by decide +kernel, rfl⟩
theorem iX7_joins_72 : zI cX7_joins 72 (.imul) 1 73 := ⟨by decide +kernel, rfl⟩
theorem iX7_joins_71 : zI cX7_joins 71 (.iload_n 2) 1 72 := ⟨by decide +kernel, rfl⟩
theorem iX7_joins_69 : zI cX7_joins 69 (.bipush 6) 2 71 := ⟨by decide +kernel, rfl⟩
theorem iX7_joins_67 : zI cX7_joins 67 (.bipush 6) 2 69 := ⟨by decide +kernel, rfl⟩
theorem iX7_joins_64 : zI cX7_joins 64 (.getfield 28) 3 67 := ⟨by decide +kernel, rfl⟩
theorem iX7_joins_63 : zI cX7_joins 63 (.aload_n 0) 1 64 := ⟨by decide +kernel, rfl⟩
theorem iX7_joins_60 : zI cX7_joins 60 (.goto 49) 3 63 := ⟨by decide +kernel, rfl⟩
theorem iX7_joins_59 : zI cX7_joins 59 (.iconst 0) 1 60 := ⟨by decide +kernel, rfl⟩
theorem iX7_joins_55 : zI cX7_joins 55 (.iaload) 1 56 := ⟨by decide +kernel, rfl⟩
theorem iX7_joins_54 : zI cX7_joins 54 (.iload_n 2) 1 55 := ⟨by decide +kernel, rfl⟩
theorem iX7_joins_51 : zI cX7_joins 51 (.getfield 28) 3 54 := ⟨by decide +kernel, rfl⟩
theorem iX7_joins_50 : zI cX7_joins 50 (.aload_n 0) 1 51 := ⟨by decide +kernel, rfl⟩
theorem iX7_joins_46 : zI cX7_joins 46 (.iaload) 1 47 := ⟨by decide +kernel, rfl⟩
theorem iX7_joins_45 : zI cX7_joins 45 (.iload_n 1) 1 46 := ⟨by decide +kernel, rfl⟩
theorem iX7_joins_42 : zI cX7_joins 42 (.getfield 28) 3 45 := ⟨by decide +kernel, rfl⟩
theorem iX7_joins_41 : zI cX7_joins 41 (.aload_n 0) 1 42 := ⟨by decide +kernel, rfl⟩
theorem iX7_joins_36 : zI cX7_joins 36 (.bipush 6) 2 38 := ⟨by decide +kernel, rfl⟩
theorem iX7_joins_34 : zI cX7_joins 34 (.iload 6) 2 36 := ⟨by decide +kernel, rfl⟩
theorem iX7_joins_136 : zI cX7_joins 136 (.invokevirtual 134) 3 139 := ⟨by decide +kernel, rfl⟩
theorem iX7_joins_139 : zI cX7_joins 139 (.return_) 1 140 := ⟨by decide +kernel, rfl⟩
theorem iX7_joins_134 : zI cX7_joins 134 (.iload 5) 2 136 := ⟨by decide +kernel, rfl⟩
theorem iX7_joins_133 : zI cX7_joins 133 (.ior) 1 134 := ⟨by decide +kernel, rfl⟩
theorem iX7_joins_131 : zI cX7_joins 131 (.iload 4) 2 133 := ⟨by decide +kernel, rfl⟩
theorem iX7_joins_130 : zI cX7_joins 130 (.iload_n 3) 1 131 := ⟨by decide +kernel, rfl⟩
theorem iX7_joins_129 : zI cX7_joins 129 (.aload_n 0) 1 130 := ⟨by decide +kernel, rfl⟩
theorem iX7_joins_32 : zI cX7_joins 32 (.istore 6) 2 34 := ⟨by decide +kernel, rfl⟩
theorem iX7_joins_31 : zI cX7_joins 31 (.iconst 0) 1 32 := ⟨by decide +kernel, rfl⟩
theorem iX7_joins_29 : zI cX7_joins 29 (.istore 5) 2 31 := ⟨by decide +kernel, rfl⟩
theorem iX7_joins_25 : zI cX7_joins 25 (.iload_n 2) 1 26 := ⟨by decide +kernel, rfl⟩
theorem iX7_joins_24 : zI cX7_joins 24 (.iload_n 1) 1 25 := ⟨by decide +kernel, rfl⟩
theorem iX7_joins_22 : zI cX7_joins 22 (.iload 4) 2 24 := ⟨by decide +kernel, rfl⟩
theorem iX7_joins_21 : zI cX7_joins 21 (.iload_n 3) 1 22 := ⟨by decide +kernel, rfl⟩
theorem iX7_joins_20 : zI cX7_joins 20 (.aload_n 0) 1 21 := ⟨by decide +kernel, rfl⟩
theorem iX7_joins_19 : zI cX7_joins 19 (.return_) 1 20 := ⟨by decide +kernel, rfl⟩
theorem iX7_joins_14 : zI cX7_joins 14 (.iload 4) 2 16 := ⟨by decide +kernel, rfl⟩
theorem iX7_joins_13 : zI cX7_joins 13 (.iload_n 3) 1 14 := ⟨by decide +kernel, rfl⟩
theorem iX7_joins_11 : zI cX7_joins 11 (.istore 4) 2 13 := ⟨by decide +kernel, rfl⟩
theorem iX7_joins_7 : zI cX7_joins 7 (.iload_n 2) 1 8 := ⟨by decide +kernel, rfl⟩
theorem iX7_joins_6 : zI cX7_joins 6 (.aload_n 0) 1 7 := ⟨by decide +kernel, rfl⟩
theorem iX7_joins_5 : zI cX7_joins 5 (.istore_n 3) 1 6 := ⟨by decide +kernel, rfl⟩
theorem iX7_joins_1 : zI cX7_joins 1 (.iload_n 1) 1 2 := ⟨by decide +kernel, rfl⟩
theorem iX7_joins_0 : zI cX7_joins 0 (.aload_n 0) 1 1 := ⟨by decide +kernel, rfl⟩
set_option maxHeartbeats 4000000 in
set_option maxRecDepth 100000 in
theorem m_Mo_joins (x1 : Int32) (x2 : Int32) (h : zH) : zM yX7_joins cX7_joins 8 none 3 shM (fun ad => [.ref (ad 0), .int x1, .int x2]) h eV (Mo_joins x1 x2 h) := by
  refine zM.of (by decide) (fun _ => rfl) (fun _ => Nat.le_of_ble_eq_true rfl) (fun X ad hnL C => ?_)
  show zG X ad shM eV 0 [some (.ref (ad 0)), some (.int x1), some (.int x2), none, none, none, none, none] [] h _
  unfold Mo_joins
  refine g_aload_n C iX7_joins_0 rfl ?_
  refine g_iload_n C iX7_joins_1 rfl ?_
  refine g_callV C wX7_51 iX7_joins_2 (m_Mo_busesOf x1 h) (by decide) mh0 rfl rfl rfl rfl (Nat.le_of_ble_eq_true rfl) (fun r => ?_)
  show zG X ad shM eV 5 [some (.ref (ad 0)), some (.int x1), some (.int x2), none, none, none, none, none] [.int r] h _
  refine g_istore_n (lv' := [some (.ref (ad 0)), some (.int x1), some (.int x2), some (.int r), none, none, none, none]) C hnL iX7_joins_5 (by decide) rfl ?_
  refine g_aload_n C iX7_joins_6 rfl ?_
  refine g_iload_n C iX7_joins_7 rfl ?_
  refine g_callV C wX7_51 iX7_joins_8 (m_Mo_busesOf x2 h) (by decide) mh0 rfl rfl rfl rfl (Nat.le_of_ble_eq_true rfl) (fun r_1 => ?_)
  show zG X ad shM eV 11 [some (.ref (ad 0)), some (.int x1), some (.int x2), some (.int r), none, none, none, none] [.int r_1] h _
  refine g_istore (lv' := [some (.ref (ad 0)), some (.int x1), some (.int x2), some (.int r), some (.int r_1), none, none, none]) C hnL iX7_joins_11 (by decide) rfl ?_
  refine g_iload_n C iX7_joins_13 rfl ?_
  refine g_iload C iX7_joins_14 rfl ?_
  refine g_icmp_ne C 20 iX7_joins_16 (by decide) (fun c16 => ?_) (fun c16 => ?_)
  · exact g_vret C iX7_joins_19 rfl
  · refine g_aload_n C iX7_joins_20 rfl ?_
    refine g_iload_n C iX7_joins_21 rfl ?_
    refine g_iload C iX7_joins_22 rfl ?_
    refine g_iload_n C iX7_joins_24 rfl ?_
    refine g_iload_n C iX7_joins_25 rfl ?_
    refine g_callV C wX7_175 iX7_joins_26 (m_Mo_bothF r r_1 x1 x2 h) (by decide) mh0 rfl rfl rfl rfl (Nat.le_of_ble_eq_true rfl) (fun r_2 => ?_)
    show zG X ad shM eV 29 [some (.ref (ad 0)), some (.int x1), some (.int x2), some (.int r), some (.int r_1), none, none, none] [.int r_2] h _
    refine g_istore (lv' := [some (.ref (ad 0)), some (.int x1), some (.int x2), some (.int r), some (.int r_1), some (.int r_2), none, none]) C hnL iX7_joins_29 (by decide) rfl ?_
    refine g_iconst C 0 iX7_joins_31 (by decide) ?_
    refine g_istore (lv' := [some (.ref (ad 0)), some (.int x1), some (.int x2), some (.int r), some (.int r_1), some (.int r_2), some (.int 0), none]) C hnL iX7_joins_32 (by decide) rfl ?_
    have L34 : ∀ (k129 : zH → Option (zH)), (∀ (hy : zH), zG X ad shM eV 129 [some (.ref (ad 0)), none, none, some (.int r), some (.int r_1), some (.int r_2), none, none] [] hy (k129 hy)) → ∀ (n : Nat) (x6 : Int32) (h_1 : zH), zG X ad shM eV 34 [some (.ref (ad 0)), some (.int x1), some (.int x2), some (.int r), some (.int r_1), some (.int r_2), some (.int x6), none] [] h_1 (Mo_joins_L34 x1 x2 r r_1 k129 n x6 h_1) := by
      intro k129 hk129 n
      induction n with
      | zero =>
        intro x6 h_1
        exact g_none
      | succ n ih34 =>
        intro x6 h_1
        rw [Mo_joins_L34]
        refine g_iload C iX7_joins_34 rfl ?_
        refine g_bipush C 6 iX7_joins_36 (by decide) ?_
        refine g_icmp_ge C 129 iX7_joins_38 (by decide) (fun c38 => ?_) (fun c38 => ?_)
        · refine g_sub (lv' := [some (.ref (ad 0)), none, none, some (.int r), some (.int r_1), some (.int r_2), none, none]) ⟨rfl, ⟨rfl, ⟨rfl, ⟨rfl, trivial⟩⟩⟩⟩ ?_
          exact hk129 _
        · refine g_aload_n C iX7_joins_41 rfl ?_
          refine g_getR (b := 7) C fX7_28 iX7_joins_42 mh0 rfl ?_
          refine g_iload_n C iX7_joins_45 rfl ?_
          refine g_iaload C iX7_joins_46 mh7 ?_
          refine g_let (fun j109 ej109 => ?_)
          have hj109 : ∀ (v109 : Int32), zG X ad shM eV 109 [some (.ref (ad 0)), some (.int x1), some (.int x2), some (.int r), some (.int r_1), some (.int r_2), some (.int x6), none] [.int v109] h_1 (j109 v109) := by
            intro v109
            subst ej109
            refine g_istore (lv' := [some (.ref (ad 0)), some (.int x1), some (.int x2), some (.int r), some (.int r_1), some (.int r_2), some (.int x6), some (.int v109)]) C hnL iX7_joins_109 (by decide) rfl ?_
            refine g_aload_n C iX7_joins_111 rfl ?_
            refine g_iload_n C iX7_joins_112 rfl ?_
            refine g_iload C iX7_joins_113 rfl ?_
            refine g_ior C iX7_joins_115 ?_
            refine g_iload C iX7_joins_116 rfl ?_
            refine g_iload C iX7_joins_118 rfl ?_
            refine g_callV C wX7_150 iX7_joins_120 (m_Mo_counts (r ||| r_1) x6 v109 h_1) (by decide) mh0 rfl rfl rfl rfl (Nat.le_of_ble_eq_true rfl) (fun h_2 => ?_)
            show zG X ad shM eV 123 [some (.ref (ad 0)), some (.int x1), some (.int x2), some (.int r), some (.int r_1), some (.int r_2), some (.int x6), some (.int v109)] [] h_2 _
            refine g_iinc (v := (x6 + 1)) (lv' := [some (.ref (ad 0)), some (.int x1), some (.int x2), some (.int r), some (.int r_1), some (.int r_2), some (.int (x6 + 1)), some (.int v109)]) C hnL iX7_joins_123 (by decide) rfl rfl rfl ?_
            refine g_goto C 34 iX7_joins_126 (by decide) ?_
            refine g_sub (lv' := [some (.ref (ad 0)), some (.int x1), some (.int x2), some (.int r), some (.int r_1), some (.int r_2), some (.int (x6 + 1)), none]) ⟨rfl, ⟨rfl, ⟨rfl, ⟨rfl, ⟨rfl, ⟨rfl, ⟨rfl, trivial⟩⟩⟩⟩⟩⟩⟩ ?_
            exact ih34 _ _
          clear ej109
          refine g_if_ne C 81 iX7_joins_47 (by decide) (fun c47 => ?_) (fun c47 => ?_)
          · refine g_aload_n C iX7_joins_50 rfl ?_
            refine g_getR (b := 7) C fX7_28 iX7_joins_51 mh0 rfl ?_
            refine g_iload_n C iX7_joins_54 rfl ?_
            refine g_iaload C iX7_joins_55 mh7 ?_
            refine g_if_ne C 63 iX7_joins_56 (by decide) (fun c56 => ?_) (fun c56 => ?_)
            · refine g_iconst C 0 iX7_joins_59 (by decide) ?_
              refine g_goto C 109 iX7_joins_60 (by decide) ?_
              exact hj109 _
            · refine g_aload_n C iX7_joins_63 rfl ?_
              refine g_getR (b := 7) C fX7_28 iX7_joins_64 mh0 rfl ?_
              refine g_bipush C 6 iX7_joins_67 (by decide) ?_
              refine g_bipush C 6 iX7_joins_69 (by decide) ?_
              refine g_iload_n C iX7_joins_71 rfl ?_
              refine g_imul C iX7_joins_72 ?_
              refine g_iadd C iX7_joins_73 ?_
              refine g_iload C iX7_joins_74 rfl ?_
              refine g_iadd C iX7_joins_76 ?_
              refine g_iaload C iX7_joins_77 mh7 ?_
              refine g_goto C 109 iX7_joins_78 (by decide) ?_
              exact hj109 _
          · refine g_aload_n C iX7_joins_81 rfl ?_
            refine g_getR (b := 7) C fX7_28 iX7_joins_82 mh0 rfl ?_
            refine g_iload_n C iX7_joins_85 rfl ?_
            refine g_iaload C iX7_joins_86 mh7 ?_
            refine g_if_ne C 108 iX7_joins_87 (by decide) (fun c87 => ?_) (fun c87 => ?_)
            · refine g_aload_n C iX7_joins_90 rfl ?_
              refine g_getR (b := 7) C fX7_28 iX7_joins_91 mh0 rfl ?_
              refine g_bipush C 6 iX7_joins_94 (by decide) ?_
              refine g_bipush C 6 iX7_joins_96 (by decide) ?_
              refine g_iload_n C iX7_joins_98 rfl ?_
              refine g_imul C iX7_joins_99 ?_
              refine g_iadd C iX7_joins_100 ?_
              refine g_iload C iX7_joins_101 rfl ?_
              refine g_iadd C iX7_joins_103 ?_
              refine g_iaload C iX7_joins_104 mh7 ?_
              refine g_goto C 109 iX7_joins_105 (by decide) ?_
              exact hj109 _
            · refine g_iconst C 0 iX7_joins_108 (by decide) ?_
              exact hj109 _
    refine L34 _ (fun h_3 => ?_) 1000 _ _
    show zG X ad shM eV 129 [some (.ref (ad 0)), none, none, some (.int r), some (.int r_1), some (.int r_2), none, none] [] h_3 _
    refine g_aload_n C iX7_joins_129 rfl ?_
    refine g_iload_n C iX7_joins_130 rfl ?_
    refine g_iload C iX7_joins_131 rfl ?_
    refine g_ior C iX7_joins_133 ?_
    refine g_iload C iX7_joins_134 rfl ?_
    refine g_callV C wX7_134 iX7_joins_136 (m_Mo_frequency (r ||| r_1) r_2 h_3) (by decide) mh0 rfl rfl rfl rfl (Nat.le_of_ble_eq_true rfl) (fun h_4 => ?_)
    show zG X ad shM eV 139 [some (.ref (ad 0)), none, none, some (.int r), some (.int r_1), some (.int r_2), none, none] [] h_4 _
    exact g_vret C iX7_joins_139 rfl

theorem iX7_link_10 : zI cX7_link 10 (.invokestatic 82) 3 13 := ⟨by decide +kernel, rfl⟩
theorem iX7_link_13 : zI cX7_link 13 (.ifCond .eq 12) 3 16 := ⟨by decide +kernel, rfl⟩
theorem iX7_link_26 : zI cX7_link 26 (.ireturn) 1 27 := ⟨by decide +kernel, rfl⟩
theorem iX7_link_25 : zI cX7_link 25 (.iconst (-1)) 1 26 := ⟨by decide +kernel, rfl⟩
theorem iX7_link_19 : zI cX7_link 19 (.invokestatic 82) 3 22 := ⟨by decide +kernel, rfl⟩
theorem iX7_link_22 : zI cX7_link 22 (.ifCond .ne 5) 3 25 := ⟨by decide +kernel, rfl⟩
theorem iX7_link_56 : zI cX7_link 56 (.invokestatic 66) 3 59 := ⟨by decide +kernel, rfl⟩
theorem iX7_link_69 : zI cX7_link 69 (.if_icmp .eq 18) 3 72 := ⟨by decide +kernel, rfl⟩
theorem iX7_link_89 : zI cX7_link 89 (.ireturn) 1 90 := ⟨by decide +kernel, rfl⟩
theorem iX7_link_87 : zI cX7_link 87 (.bipush (-2)) 2 89 := ⟨by decide +kernel, rfl⟩
theorem iX7_link_91 : zI cX7_link 91 (.invokevirtual 166) 3 94 := ⟨by decide +kernel, rfl⟩
theorem iX7_link_120 : zI cX7_link 120 (.invokevirtual 115) 3 123 := ⟨by decide +kernel, rfl⟩
theorem iX7_link_123 : zI cX7_link 123 (.ireturn) 1 124 := ⟨by decide +kernel, rfl⟩
theorem iX7_link_119 : zI cX7_link 119 (.aload_n 0) 1 120 := ⟨by decide +kernel, rfl⟩
theorem iX7_link_118 : zI cX7_link 118 (.iastore) 1 119 := ⟨by decide +kernel, rfl⟩
theorem iX7_link_117 : zI cX7_link 117 (.ixor) 1 118 := ⟨by decide +kernel, rfl⟩
theorem iX7_link_116 : zI cX7_link 116 (.ishl) 1 117 := ⟨by decide +kernel, rfl⟩
theorem iX7_link_115 : zI cX7_link 115 (.iload_n 1) 1 116 := ⟨by decide +kernel, rfl⟩
theorem iX7_link_114 : zI cX7_link 114 (.iconst 1) 1 115 := ⟨by decide +kernel, rfl⟩
theorem iX7_link_113 : zI cX7_link 113 (.iaload) 1 114 := ⟨by decide +kernel, rfl⟩
theorem iX7_link_112 : zI cX7_link 112 (.dup2) 1 113 := ⟨by decide +kernel, rfl⟩
theorem iX7_link_110 : zI cX7_link 110 (.bipush 43) 2 112 := ⟨by decide +kernel, rfl⟩
theorem iX7_link_107 : zI cX7_link 107 (.getfield 28) 3 110 := ⟨by decide +kernel, rfl⟩
theorem iX7_link_106 : zI cX7_link 106 (.aload_n 0) 1 107 := ⟨by decide +kernel, rfl⟩
theorem iX7_link_96 : zI cX7_link 96 (.if_icmp .ne 10) 3 99 := ⟨by decide +kernel, rfl⟩
set_option maxRecDepth 100000 in
theorem wX7_182 : zCv RX7 182 yX7_joins cX7_joins 8 none 2 := ⟨⟨(zmem 984 (by decide +kernel) (by decide +kernel)), (zmem 76 (by decide +kernel) (by decide +kernel)), (zmem 987 rfl rfl), ⟨by decide, by decide, by decide +kernel⟩, by decide⟩, (zmem 986 (by decide +kernel) (by decide +kernel)), (zmem 52 (by decide +kernel) (by decide +kernel))⟩
theorem iX7_link_103 : zI cX7_link 103 (.invokevirtual 182) 3 106 := ⟨by decide +kernel, rfl⟩
theorem iX7_link_101 : zI cX7_link 101 (.iload 4) 2 103 := ⟨by decide +kernel, rfl⟩
theorem iX7_link_100 : zI cX7_link 100 (.iload_n 3) 1 101 := ⟨by decide +kernel, rfl⟩
theorem iX7_link_99 : zI cX7_link 99 (.aload_n 0) 1 100 := ⟨by decide +kernel, rfl⟩
theorem iX7_link_95 : zI cX7_link 95 (.iconst 1) 1 96 := ⟨by decide +kernel, rfl⟩
theorem iX7_link_94 : zI cX7_link 94 (.iload_n 2) 1 95 := ⟨by decide +kernel, rfl⟩
theorem iX7_link_90 : zI cX7_link 90 (.aload_n 0) 1 91 := ⟨by decide +kernel, rfl⟩
theorem iX7_link_74 : zI cX7_link 74 (.if_icmp .ne 16) 3 77 := ⟨by decide +kernel, rfl⟩
set_option maxRecDepth 100000 in
theorem wX7_179 : zCv RX7 179 yX7_canClose cX7_canClose 4 (some .boolean) 2 := ⟨⟨(zmem 980 (by decide +kernel) (by decide +kernel)), (zmem 76 (by decide +kernel) (by decide +kernel)), (zmem 983 rfl rfl), ⟨by decide, by decide, by decide +kernel⟩, by decide⟩, (zmem 982 (by decide +kernel) (by decide +kernel)), (zmem 51 (by decide +kernel) (by decide +kernel))⟩
theorem iX7_link_81 : zI cX7_link 81 (.invokevirtual 179) 3 84 := ⟨by decide +kernel, rfl⟩
theorem iX7_link_84 : zI cX7_link 84 (.ifCond .ne 6) 3 87 := ⟨by decide +kernel, rfl⟩
theorem iX7_link_79 : zI cX7_link 79 (.iload 4) 2 81 := ⟨by decide +kernel, rfl⟩
theorem iX7_link_78 : zI cX7_link 78 (.iload_n 3) 1 79 := ⟨by decide +kernel, rfl⟩
theorem iX7_link_77 : zI cX7_link 77 (.aload_n 0) 1 78 := ⟨by decide +kernel, rfl⟩
theorem iX7_link_73 : zI cX7_link 73 (.iconst 1) 1 74 := ⟨by decide +kernel, rfl⟩
theorem iX7_link_72 : zI cX7_link 72 (.iload_n 2) 1 73 := ⟨by decide +kernel, rfl⟩
theorem iX7_link_61 : zI cX7_link 61 (.if_icmp .ne 7) 3 64 := ⟨by decide +kernel, rfl⟩
theorem iX7_link_68 : zI cX7_link 68 (.iconst 0) 1 69 := ⟨by decide +kernel, rfl⟩
theorem iX7_link_65 : zI cX7_link 65 (.goto 4) 3 68 := ⟨by decide +kernel, rfl⟩
theorem iX7_link_64 : zI cX7_link 64 (.iconst 1) 1 65 := ⟨by decide +kernel, rfl⟩
theorem iX7_link_60 : zI cX7_link 60 (.iconst 1) 1 61 := ⟨by decide +kernel, rfl⟩
theorem iX7_link_59 : zI cX7_link 59 (.iload_n 2) 1 60 := ⟨by decide +kernel, rfl⟩
theorem iX7_link_55 : zI cX7_link 55 (.iload_n 1) 1 56 := ⟨by decide +kernel, rfl⟩
theorem iX7_link_54 : zI cX7_link 54 (.iaload) 1 55 := ⟨by decide +kernel, rfl⟩
theorem iX7_link_52 : zI cX7_link 52 (.bipush 43) 2 54 := ⟨by decide +kernel, rfl⟩
theorem iX7_link_49 : zI cX7_link 49 (.getfield 28) 3 52 := ⟨by decide +kernel, rfl⟩
theorem iX7_link_48 : zI cX7_link 48 (.aload_n 0) 1 49 := ⟨by decide +kernel, rfl⟩
theorem iX7_link_46 : zI cX7_link 46 (.istore 4) 2 48 := ⟨by decide +kernel, rfl⟩
theorem iX7_link_45 : zI cX7_link 45 (.iaload) 1 46 := ⟨by decide +kernel, rfl⟩
theorem iX7_link_44 : zI cX7_link 44 (.iadd) 1 45 := ⟨by decide +kernel, rfl⟩
theorem iX7_link_43 : zI cX7_link 43 (.iconst 1) 1 44 := ⟨by decide +kernel, rfl⟩
theorem iX7_link_42 : zI cX7_link 42 (.imul) 1 43 := ⟨by decide +kernel, rfl⟩
theorem iX7_link_41 : zI cX7_link 41 (.iload_n 1) 1 42 := ⟨by decide +kernel, rfl⟩
theorem iX7_link_40 : zI cX7_link 40 (.iconst 2) 1 41 := ⟨by decide +kernel, rfl⟩
theorem iX7_link_37 : zI cX7_link 37 (.getfield 16) 3 40 := ⟨by decide +kernel, rfl⟩
theorem iX7_link_36 : zI cX7_link 36 (.aload_n 0) 1 37 := ⟨by decide +kernel, rfl⟩
theorem iX7_link_35 : zI cX7_link 35 (.istore_n 3) 1 36 := ⟨by decide +kernel, rfl⟩
theorem iX7_link_34 : zI cX7_link 34 (.iaload) 1 35 := ⟨by decide +kernel, rfl⟩
theorem iX7_link_33 : zI cX7_link 33 (.imul) 1 34 := ⟨by decide +kernel, rfl⟩
theorem iX7_link_32 : zI cX7_link 32 (.iload_n 1) 1 33 := ⟨by decide +kernel, rfl⟩
theorem iX7_link_31 : zI cX7_link 31 (.iconst 2) 1 32 := ⟨by decide +kernel, rfl⟩
theorem iX7_link_28 : zI cX7_link 28 (.getfield 16) 3 31 := ⟨by decide +kernel, rfl⟩
theorem iX7_link_27 : zI cX7_link 27 (.aload_n 0) 1 28 := ⟨by decide +kernel, rfl⟩
theorem iX7_link_18 : zI cX7_link 18 (.iconst 1) 1 19 := ⟨by decide +kernel, rfl⟩
theorem iX7_link_17 : zI cX7_link 17 (.iconst 0) 1 18 := ⟨by decide +kernel, rfl⟩
theorem iX7_link_16 : zI cX7_link 16 (.iload_n 2) 1 17 := ⟨by decide +kernel, rfl⟩
theorem iX7_link_9 : zI cX7_link 9 (.isub) 1 10 := ⟨by decide +kernel, rfl⟩
theorem iX7_link_8 : zI cX7_link 8 (.iconst 1) 1 9 := ⟨by decide +kernel, rfl⟩
theorem iX7_link_7 : zI cX7_link 7 (.iaload) 1 8 := ⟨by decide +kernel, rfl⟩
theorem iX7_link_6 : zI cX7_link 6 (.iconst 1) 1 7 := ⟨by decide +kernel, rfl⟩
theorem iX7_link_3 : zI cX7_link 3 (.getfield 13) 3 6 := ⟨by decide +kernel, rfl⟩
theorem iX7_link_2 : zI cX7_link 2 (.aload_n 0) 1 3 := ⟨by decide +kernel, rfl⟩
theorem iX7_link_1 : zI cX7_link 1 (.iconst 0) 1 2 := ⟨by decide +kernel, rfl⟩
theorem iX7_link_0 : zI cX7_link 0 (.iload_n 1) 1 1 := ⟨by decide +kernel, rfl⟩
set_option maxHeartbeats 4000000 in
set_option maxRecDepth 100000 in
theorem m_Mo_link (x1 : Int32) (x2 : Int32) (h : zH) : zM yX7_link cX7_link 5 (some .int) 4 shM (fun ad => [.ref (ad 0), .int x1, .int x2]) h eI (Mo_link x1 x2 h) := by
  refine zM.of (by decide) (fun _ => rfl) (fun _ => Nat.le_of_ble_eq_true rfl) (fun X ad hnL C => ?_)
  show zG X ad shM eI 0 [some (.ref (ad 0)), some (.int x1), some (.int x2), none, none] [] h _
  unfold Mo_link
  refine g_iload_n C iX7_link_0 rfl ?_
  refine g_iconst C 0 iX7_link_1 (by decide) ?_
  refine g_aload_n C iX7_link_2 rfl ?_
  refine g_getR (b := 2) C fX7_13 iX7_link_3 mh0 rfl ?_
  refine g_iconst C 1 iX7_link_6 (by decide) ?_
  refine g_ialoadL C 1 iX7_link_7 mh2 (by decide) (by decide) ?_
  refine g_iconst C 1 iX7_link_8 (by decide) ?_
  refine g_isub C iX7_link_9 ?_
  refine g_callS C wX7_82 iX7_link_10 (m_Mo_isIn x1 0 ((h 2 1) - 1) h) (by decide) rfl rfl rfl (Nat.le_of_ble_eq_true rfl) (fun r => ?_)
  show zG X ad shM eI 13 [some (.ref (ad 0)), some (.int x1), some (.int x2), none, none] [.int r] h _
  refine g_if_eq C 25 iX7_link_13 (by decide) (fun c13 => ?_) (fun c13 => ?_)
  · refine g_iconst C (-1) iX7_link_25 (by decide) ?_
    exact g_iret C iX7_link_26 rfl
  · refine g_iload_n C iX7_link_16 rfl ?_
    refine g_iconst C 0 iX7_link_17 (by decide) ?_
    refine g_iconst C 1 iX7_link_18 (by decide) ?_
    refine g_callS C wX7_82 iX7_link_19 (m_Mo_isIn x2 0 1 h) (by decide) rfl rfl rfl (Nat.le_of_ble_eq_true rfl) (fun r_1 => ?_)
    show zG X ad shM eI 22 [some (.ref (ad 0)), some (.int x1), some (.int x2), none, none] [.int r_1] h _
    refine g_if_ne C 27 iX7_link_22 (by decide) (fun c22 => ?_) (fun c22 => ?_)
    · refine g_iconst C (-1) iX7_link_25 (by decide) ?_
      exact g_iret C iX7_link_26 rfl
    · refine g_aload_n C iX7_link_27 rfl ?_
      refine g_getR (b := 3) C fX7_16 iX7_link_28 mh0 rfl ?_
      refine g_iconst C 2 iX7_link_31 (by decide) ?_
      refine g_iload_n C iX7_link_32 rfl ?_
      refine g_imul C iX7_link_33 ?_
      refine g_iaload C iX7_link_34 mh3 ?_
      refine g_top (fun x3 => ?_)
      refine g_istore_n (lv' := [some (.ref (ad 0)), some (.int x1), some (.int x2), some (.int x3), none]) C hnL iX7_link_35 (by decide) rfl ?_
      refine g_aload_n C iX7_link_36 rfl ?_
      refine g_getR (b := 3) C fX7_16 iX7_link_37 mh0 rfl ?_
      refine g_iconst C 2 iX7_link_40 (by decide) ?_
      refine g_iload_n C iX7_link_41 rfl ?_
      refine g_imul C iX7_link_42 ?_
      refine g_iconst C 1 iX7_link_43 (by decide) ?_
      refine g_iadd C iX7_link_44 ?_
      refine g_iaload C iX7_link_45 mh3 ?_
      refine g_top (fun x4 => ?_)
      refine g_istore (lv' := [some (.ref (ad 0)), some (.int x1), some (.int x2), some (.int x3), some (.int x4)]) C hnL iX7_link_46 (by decide) rfl ?_
      refine g_aload_n C iX7_link_48 rfl ?_
      refine g_getR (b := 7) C fX7_28 iX7_link_49 mh0 rfl ?_
      refine g_bipush C 43 iX7_link_52 (by decide) ?_
      refine g_ialoadL C 43 iX7_link_54 mh7 (by decide) (by decide) ?_
      refine g_iload_n C iX7_link_55 rfl ?_
      refine g_callS C wX7_66 iX7_link_56 (m_Mo_has (h 7 43) x1 h) (by decide) rfl rfl rfl (Nat.le_of_ble_eq_true rfl) (fun r_2 => ?_)
      show zG X ad shM eI 59 [some (.ref (ad 0)), some (.int x1), some (.int x2), some (.int x3), some (.int x4)] [.int r_2] h _
      refine g_iload_n C iX7_link_59 rfl ?_
      refine g_iconst C 1 iX7_link_60 (by decide) ?_
      refine g_let (fun j69 ej69 => ?_)
      have hj69 : ∀ (v69 : Int32), zG X ad shM eI 69 [some (.ref (ad 0)), some (.int x1), some (.int x2), some (.int x3), some (.int x4)] [.int v69, .int r_2] h (j69 v69) := by
        intro v69
        subst ej69
        refine g_icmp_eq C 87 iX7_link_69 (by decide) (fun c69 => ?_) (fun c69 => ?_)
        · refine g_bipush C (-2) iX7_link_87 (by decide) ?_
          exact g_iret C iX7_link_89 rfl
        · refine g_iload_n C iX7_link_72 rfl ?_
          refine g_iconst C 1 iX7_link_73 (by decide) ?_
          refine g_let (fun j90 ej90 => ?_)
          have hj90 : zG X ad shM eI 90 [some (.ref (ad 0)), some (.int x1), some (.int x2), some (.int x3), some (.int x4)] [] h j90 := by
            subst ej90
            refine g_aload_n C iX7_link_90 rfl ?_
            refine g_callV C wX7_166 iX7_link_91 (m_Mo_keeps h) (by decide) mh0 rfl rfl rfl rfl (Nat.le_of_ble_eq_true rfl) (fun h_1 => ?_)
            show zG X ad shM eI 94 [some (.ref (ad 0)), some (.int x1), some (.int x2), some (.int x3), some (.int x4)] [] h_1 _
            refine g_iload_n C iX7_link_94 rfl ?_
            refine g_iconst C 1 iX7_link_95 (by decide) ?_
            refine g_let (fun j106 ej106 => ?_)
            have hj106 : ∀ (h_2 : zH), zG X ad shM eI 106 [some (.ref (ad 0)), some (.int x1), none, none, none] [] h_2 (j106 h_2) := by
              intro h_2
              subst ej106
              refine g_aload_n C iX7_link_106 rfl ?_
              refine g_getR (b := 7) C fX7_28 iX7_link_107 mh0 rfl ?_
              refine g_bipush C 43 iX7_link_110 (by decide) ?_
              refine g_dup2 C iX7_link_112 rfl rfl ?_
              refine g_ialoadL C 43 iX7_link_113 mh7 (by decide) (by decide) ?_
              refine g_iconst C 1 iX7_link_114 (by decide) ?_
              refine g_iload_n C iX7_link_115 rfl ?_
              refine g_ishl C iX7_link_116 ?_
              refine g_ixor C iX7_link_117 ?_
              refine g_iastoreL C 43 iX7_link_118 mh7 (by decide) (by decide) (fun h_3 => ?_)
              refine g_aload_n C iX7_link_119 rfl ?_
              refine g_callV C wX7_115 iX7_link_120 (m_Mo_islands h_3) (by decide) mh0 rfl rfl rfl rfl (Nat.le_of_ble_eq_true rfl) (fun r_3 => ?_)
              show zG X ad shM eI 123 [some (.ref (ad 0)), some (.int x1), none, none, none] [.int r_3] h_3 _
              exact g_iret C iX7_link_123 rfl
            clear ej106
            refine g_icmp_ne C 106 iX7_link_96 (by decide) (fun c96 => ?_) (fun c96 => ?_)
            · refine g_aload_n C iX7_link_99 rfl ?_
              refine g_iload_n C iX7_link_100 rfl ?_
              refine g_iload C iX7_link_101 rfl ?_
              refine g_callV C wX7_182 iX7_link_103 (m_Mo_joins x3 x4 h_1) (by decide) mh0 rfl rfl rfl rfl (Nat.le_of_ble_eq_true rfl) (fun h_4 => ?_)
              show zG X ad shM eI 106 [some (.ref (ad 0)), some (.int x1), some (.int x2), some (.int x3), some (.int x4)] [] h_4 _
              refine g_sub (lv' := [some (.ref (ad 0)), some (.int x1), none, none, none]) ⟨rfl, ⟨rfl, trivial⟩⟩ ?_
              exact hj106 _
            · refine g_sub (lv' := [some (.ref (ad 0)), some (.int x1), none, none, none]) ⟨rfl, ⟨rfl, trivial⟩⟩ ?_
              exact hj106 _
          clear ej90
          refine g_icmp_ne C 90 iX7_link_74 (by decide) (fun c74 => ?_) (fun c74 => ?_)
          · refine g_aload_n C iX7_link_77 rfl ?_
            refine g_iload_n C iX7_link_78 rfl ?_
            refine g_iload C iX7_link_79 rfl ?_
            refine g_callV C wX7_179 iX7_link_81 (m_Mo_canClose x3 x4 h) (by decide) mh0 rfl rfl rfl rfl (Nat.le_of_ble_eq_true rfl) (fun r_4 => ?_)
            show zG X ad shM eI 84 [some (.ref (ad 0)), some (.int x1), some (.int x2), some (.int x3), some (.int x4)] [.int r_4] h _
            refine g_if_ne C 90 iX7_link_84 (by decide) (fun c84 => ?_) (fun c84 => ?_)
            · refine g_bipush C (-2) iX7_link_87 (by decide) ?_
              exact g_iret C iX7_link_89 rfl
            · exact hj90
          · exact hj90
      clear ej69
      refine g_icmp_ne C 68 iX7_link_61 (by decide) (fun c61 => ?_) (fun c61 => ?_)
      · refine g_iconst C 1 iX7_link_64 (by decide) ?_
        refine g_goto C 69 iX7_link_65 (by decide) ?_
        exact hj69 _
      · refine g_iconst C 0 iX7_link_68 (by decide) ?_
        exact hj69 _

theorem iX7_feeder_10 : zI cX7_feeder 10 (.invokestatic 82) 3 13 := ⟨by decide +kernel, rfl⟩
theorem iX7_feeder_13 : zI cX7_feeder 13 (.ifCond .eq 12) 3 16 := ⟨by decide +kernel, rfl⟩
theorem iX7_feeder_26 : zI cX7_feeder 26 (.ireturn) 1 27 := ⟨by decide +kernel, rfl⟩
theorem iX7_feeder_25 : zI cX7_feeder 25 (.iconst (-1)) 1 26 := ⟨by decide +kernel, rfl⟩
theorem iX7_feeder_19 : zI cX7_feeder 19 (.invokestatic 82) 3 22 := ⟨by decide +kernel, rfl⟩
theorem iX7_feeder_22 : zI cX7_feeder 22 (.ifCond .ne 5) 3 25 := ⟨by decide +kernel, rfl⟩
theorem iX7_feeder_44 : zI cX7_feeder 44 (.invokestatic 66) 3 47 := ⟨by decide +kernel, rfl⟩
theorem iX7_feeder_57 : zI cX7_feeder 57 (.if_icmp .eq 17) 3 60 := ⟨by decide +kernel, rfl⟩
theorem iX7_feeder_76 : zI cX7_feeder 76 (.ireturn) 1 77 := ⟨by decide +kernel, rfl⟩
theorem iX7_feeder_74 : zI cX7_feeder 74 (.bipush (-2)) 2 76 := ⟨by decide +kernel, rfl⟩
theorem iX7_feeder_78 : zI cX7_feeder 78 (.invokevirtual 166) 3 81 := ⟨by decide +kernel, rfl⟩
theorem iX7_feeder_102 : zI cX7_feeder 102 (.invokevirtual 51) 3 105 := ⟨by decide +kernel, rfl⟩
theorem iX7_feeder_105 : zI cX7_feeder 105 (.invokevirtual 63) 3 108 := ⟨by decide +kernel, rfl⟩
theorem iX7_feeder_108 : zI cX7_feeder 108 (.ireturn) 1 109 := ⟨by decide +kernel, rfl⟩
theorem iX7_feeder_101 : zI cX7_feeder 101 (.iload_n 3) 1 102 := ⟨by decide +kernel, rfl⟩
theorem iX7_feeder_100 : zI cX7_feeder 100 (.aload_n 0) 1 101 := ⟨by decide +kernel, rfl⟩
theorem iX7_feeder_99 : zI cX7_feeder 99 (.aload_n 0) 1 100 := ⟨by decide +kernel, rfl⟩
theorem iX7_feeder_83 : zI cX7_feeder 83 (.if_icmp .ne 11) 3 86 := ⟨by decide +kernel, rfl⟩
theorem iX7_feeder_96 : zI cX7_feeder 96 (.invokevirtual 127) 3 99 := ⟨by decide +kernel, rfl⟩
theorem iX7_feeder_95 : zI cX7_feeder 95 (.iload_n 1) 1 96 := ⟨by decide +kernel, rfl⟩
theorem iX7_feeder_94 : zI cX7_feeder 94 (.aload_n 0) 1 95 := ⟨by decide +kernel, rfl⟩
theorem iX7_feeder_88 : zI cX7_feeder 88 (.invokevirtual 157) 3 91 := ⟨by decide +kernel, rfl⟩
theorem iX7_feeder_91 : zI cX7_feeder 91 (.goto 8) 3 94 := ⟨by decide +kernel, rfl⟩
theorem iX7_feeder_87 : zI cX7_feeder 87 (.iload_n 1) 1 88 := ⟨by decide +kernel, rfl⟩
theorem iX7_feeder_86 : zI cX7_feeder 86 (.aload_n 0) 1 87 := ⟨by decide +kernel, rfl⟩
theorem iX7_feeder_82 : zI cX7_feeder 82 (.iconst 1) 1 83 := ⟨by decide +kernel, rfl⟩
theorem iX7_feeder_81 : zI cX7_feeder 81 (.iload_n 2) 1 82 := ⟨by decide +kernel, rfl⟩
theorem iX7_feeder_77 : zI cX7_feeder 77 (.aload_n 0) 1 78 := ⟨by decide +kernel, rfl⟩
theorem iX7_feeder_62 : zI cX7_feeder 62 (.if_icmp .ne 15) 3 65 := ⟨by decide +kernel, rfl⟩
theorem iX7_feeder_71 : zI cX7_feeder 71 (.ifCond .ne 6) 3 74 := ⟨by decide +kernel, rfl⟩
theorem iX7_feeder_70 : zI cX7_feeder 70 (.iaload) 1 71 := ⟨by decide +kernel, rfl⟩
theorem iX7_feeder_69 : zI cX7_feeder 69 (.iload_n 3) 1 70 := ⟨by decide +kernel, rfl⟩
theorem iX7_feeder_66 : zI cX7_feeder 66 (.getfield 28) 3 69 := ⟨by decide +kernel, rfl⟩
theorem iX7_feeder_65 : zI cX7_feeder 65 (.aload_n 0) 1 66 := ⟨by decide +kernel, rfl⟩
theorem iX7_feeder_61 : zI cX7_feeder 61 (.iconst 1) 1 62 := ⟨by decide +kernel, rfl⟩
theorem iX7_feeder_60 : zI cX7_feeder 60 (.iload_n 2) 1 61 := ⟨by decide +kernel, rfl⟩
theorem iX7_feeder_49 : zI cX7_feeder 49 (.if_icmp .ne 7) 3 52 := ⟨by decide +kernel, rfl⟩
theorem iX7_feeder_56 : zI cX7_feeder 56 (.iconst 0) 1 57 := ⟨by decide +kernel, rfl⟩
theorem iX7_feeder_53 : zI cX7_feeder 53 (.goto 4) 3 56 := ⟨by decide +kernel, rfl⟩
theorem iX7_feeder_52 : zI cX7_feeder 52 (.iconst 1) 1 53 := ⟨by decide +kernel, rfl⟩
theorem iX7_feeder_48 : zI cX7_feeder 48 (.iconst 1) 1 49 := ⟨by decide +kernel, rfl⟩
theorem iX7_feeder_47 : zI cX7_feeder 47 (.iload_n 2) 1 48 := ⟨by decide +kernel, rfl⟩
theorem iX7_feeder_43 : zI cX7_feeder 43 (.iload_n 1) 1 44 := ⟨by decide +kernel, rfl⟩
theorem iX7_feeder_42 : zI cX7_feeder 42 (.iaload) 1 43 := ⟨by decide +kernel, rfl⟩
theorem iX7_feeder_40 : zI cX7_feeder 40 (.bipush 42) 2 42 := ⟨by decide +kernel, rfl⟩
theorem iX7_feeder_37 : zI cX7_feeder 37 (.getfield 28) 3 40 := ⟨by decide +kernel, rfl⟩
theorem iX7_feeder_36 : zI cX7_feeder 36 (.aload_n 0) 1 37 := ⟨by decide +kernel, rfl⟩
theorem iX7_feeder_35 : zI cX7_feeder 35 (.istore_n 3) 1 36 := ⟨by decide +kernel, rfl⟩
theorem iX7_feeder_34 : zI cX7_feeder 34 (.iaload) 1 35 := ⟨by decide +kernel, rfl⟩
theorem iX7_feeder_33 : zI cX7_feeder 33 (.imul) 1 34 := ⟨by decide +kernel, rfl⟩
theorem iX7_feeder_32 : zI cX7_feeder 32 (.iload_n 1) 1 33 := ⟨by decide +kernel, rfl⟩
theorem iX7_feeder_31 : zI cX7_feeder 31 (.iconst 3) 1 32 := ⟨by decide +kernel, rfl⟩
theorem iX7_feeder_28 : zI cX7_feeder 28 (.getfield 22) 3 31 := ⟨by decide +kernel, rfl⟩
theorem iX7_feeder_27 : zI cX7_feeder 27 (.aload_n 0) 1 28 := ⟨by decide +kernel, rfl⟩
theorem iX7_feeder_18 : zI cX7_feeder 18 (.iconst 1) 1 19 := ⟨by decide +kernel, rfl⟩
theorem iX7_feeder_17 : zI cX7_feeder 17 (.iconst 0) 1 18 := ⟨by decide +kernel, rfl⟩
theorem iX7_feeder_16 : zI cX7_feeder 16 (.iload_n 2) 1 17 := ⟨by decide +kernel, rfl⟩
theorem iX7_feeder_9 : zI cX7_feeder 9 (.isub) 1 10 := ⟨by decide +kernel, rfl⟩
theorem iX7_feeder_8 : zI cX7_feeder 8 (.iconst 1) 1 9 := ⟨by decide +kernel, rfl⟩
theorem iX7_feeder_7 : zI cX7_feeder 7 (.iaload) 1 8 := ⟨by decide +kernel, rfl⟩
theorem iX7_feeder_6 : zI cX7_feeder 6 (.iconst 3) 1 7 := ⟨by decide +kernel, rfl⟩
theorem iX7_feeder_3 : zI cX7_feeder 3 (.getfield 13) 3 6 := ⟨by decide +kernel, rfl⟩
theorem iX7_feeder_2 : zI cX7_feeder 2 (.aload_n 0) 1 3 := ⟨by decide +kernel, rfl⟩
theorem iX7_feeder_1 : zI cX7_feeder 1 (.iconst 0) 1 2 := ⟨by decide +kernel, rfl⟩
theorem iX7_feeder_0 : zI cX7_feeder 0 (.iload_n 1) 1 1 := ⟨by decide +kernel, rfl⟩
set_option maxHeartbeats 4000000 in
set_option maxRecDepth 100000 in
theorem m_Mo_feeder (x1 : Int32) (x2 : Int32) (h : zH) : zM yX7_feeder cX7_feeder 4 (some .int) 2 shM (fun ad => [.ref (ad 0), .int x1, .int x2]) h eI (Mo_feeder x1 x2 h) := by
  refine zM.of (by decide) (fun _ => rfl) (fun _ => Nat.le_of_ble_eq_true rfl) (fun X ad hnL C => ?_)
  show zG X ad shM eI 0 [some (.ref (ad 0)), some (.int x1), some (.int x2), none] [] h _
  unfold Mo_feeder
  refine g_iload_n C iX7_feeder_0 rfl ?_
  refine g_iconst C 0 iX7_feeder_1 (by decide) ?_
  refine g_aload_n C iX7_feeder_2 rfl ?_
  refine g_getR (b := 2) C fX7_13 iX7_feeder_3 mh0 rfl ?_
  refine g_iconst C 3 iX7_feeder_6 (by decide) ?_
  refine g_ialoadL C 3 iX7_feeder_7 mh2 (by decide) (by decide) ?_
  refine g_iconst C 1 iX7_feeder_8 (by decide) ?_
  refine g_isub C iX7_feeder_9 ?_
  refine g_callS C wX7_82 iX7_feeder_10 (m_Mo_isIn x1 0 ((h 2 3) - 1) h) (by decide) rfl rfl rfl (Nat.le_of_ble_eq_true rfl) (fun r => ?_)
  show zG X ad shM eI 13 [some (.ref (ad 0)), some (.int x1), some (.int x2), none] [.int r] h _
  refine g_if_eq C 25 iX7_feeder_13 (by decide) (fun c13 => ?_) (fun c13 => ?_)
  · refine g_iconst C (-1) iX7_feeder_25 (by decide) ?_
    exact g_iret C iX7_feeder_26 rfl
  · refine g_iload_n C iX7_feeder_16 rfl ?_
    refine g_iconst C 0 iX7_feeder_17 (by decide) ?_
    refine g_iconst C 1 iX7_feeder_18 (by decide) ?_
    refine g_callS C wX7_82 iX7_feeder_19 (m_Mo_isIn x2 0 1 h) (by decide) rfl rfl rfl (Nat.le_of_ble_eq_true rfl) (fun r_1 => ?_)
    show zG X ad shM eI 22 [some (.ref (ad 0)), some (.int x1), some (.int x2), none] [.int r_1] h _
    refine g_if_ne C 27 iX7_feeder_22 (by decide) (fun c22 => ?_) (fun c22 => ?_)
    · refine g_iconst C (-1) iX7_feeder_25 (by decide) ?_
      exact g_iret C iX7_feeder_26 rfl
    · refine g_aload_n C iX7_feeder_27 rfl ?_
      refine g_getR (b := 5) C fX7_22 iX7_feeder_28 mh0 rfl ?_
      refine g_iconst C 3 iX7_feeder_31 (by decide) ?_
      refine g_iload_n C iX7_feeder_32 rfl ?_
      refine g_imul C iX7_feeder_33 ?_
      refine g_iaload C iX7_feeder_34 mh5 ?_
      refine g_top (fun x3 => ?_)
      refine g_istore_n (lv' := [some (.ref (ad 0)), some (.int x1), some (.int x2), some (.int x3)]) C hnL iX7_feeder_35 (by decide) rfl ?_
      refine g_aload_n C iX7_feeder_36 rfl ?_
      refine g_getR (b := 7) C fX7_28 iX7_feeder_37 mh0 rfl ?_
      refine g_bipush C 42 iX7_feeder_40 (by decide) ?_
      refine g_ialoadL C 42 iX7_feeder_42 mh7 (by decide) (by decide) ?_
      refine g_iload_n C iX7_feeder_43 rfl ?_
      refine g_callS C wX7_66 iX7_feeder_44 (m_Mo_has (h 7 42) x1 h) (by decide) rfl rfl rfl (Nat.le_of_ble_eq_true rfl) (fun r_2 => ?_)
      show zG X ad shM eI 47 [some (.ref (ad 0)), some (.int x1), some (.int x2), some (.int x3)] [.int r_2] h _
      refine g_iload_n C iX7_feeder_47 rfl ?_
      refine g_iconst C 1 iX7_feeder_48 (by decide) ?_
      refine g_let (fun j57 ej57 => ?_)
      have hj57 : ∀ (v57 : Int32), zG X ad shM eI 57 [some (.ref (ad 0)), some (.int x1), some (.int x2), some (.int x3)] [.int v57, .int r_2] h (j57 v57) := by
        intro v57
        subst ej57
        refine g_icmp_eq C 74 iX7_feeder_57 (by decide) (fun c57 => ?_) (fun c57 => ?_)
        · refine g_bipush C (-2) iX7_feeder_74 (by decide) ?_
          exact g_iret C iX7_feeder_76 rfl
        · refine g_iload_n C iX7_feeder_60 rfl ?_
          refine g_iconst C 1 iX7_feeder_61 (by decide) ?_
          refine g_let (fun j77 ej77 => ?_)
          have hj77 : zG X ad shM eI 77 [some (.ref (ad 0)), some (.int x1), some (.int x2), some (.int x3)] [] h j77 := by
            subst ej77
            refine g_aload_n C iX7_feeder_77 rfl ?_
            refine g_callV C wX7_166 iX7_feeder_78 (m_Mo_keeps h) (by decide) mh0 rfl rfl rfl rfl (Nat.le_of_ble_eq_true rfl) (fun h_1 => ?_)
            show zG X ad shM eI 81 [some (.ref (ad 0)), some (.int x1), some (.int x2), some (.int x3)] [] h_1 _
            refine g_iload_n C iX7_feeder_81 rfl ?_
            refine g_iconst C 1 iX7_feeder_82 (by decide) ?_
            refine g_let (fun j99 ej99 => ?_)
            have hj99 : ∀ (h_2 : zH), zG X ad shM eI 99 [some (.ref (ad 0)), none, none, some (.int x3)] [] h_2 (j99 h_2) := by
              intro h_2
              subst ej99
              refine g_aload_n C iX7_feeder_99 rfl ?_
              refine g_aload_n C iX7_feeder_100 rfl ?_
              refine g_iload_n C iX7_feeder_101 rfl ?_
              refine g_callV C wX7_51 iX7_feeder_102 (m_Mo_busesOf x3 h_2) (by decide) mh0 rfl rfl rfl rfl (Nat.le_of_ble_eq_true rfl) (fun r_3 => ?_)
              show zG X ad shM eI 105 [some (.ref (ad 0)), none, none, some (.int x3)] [.int r_3, .ref (ad 0)] h_2 _
              refine g_callV C wX7_63 iX7_feeder_105 (m_Mo_load r_3 h_2) (by decide) mh0 rfl rfl rfl rfl (Nat.le_of_ble_eq_true rfl) (fun r_4 => ?_)
              show zG X ad shM eI 108 [some (.ref (ad 0)), none, none, some (.int x3)] [.int r_4] h_2 _
              exact g_iret C iX7_feeder_108 rfl
            clear ej99
            refine g_icmp_ne C 94 iX7_feeder_83 (by decide) (fun c83 => ?_) (fun c83 => ?_)
            · refine g_aload_n C iX7_feeder_86 rfl ?_
              refine g_iload_n C iX7_feeder_87 rfl ?_
              refine g_callV C wX7_157 iX7_feeder_88 (m_Mo_on x1 h_1) (by decide) mh0 rfl rfl rfl rfl (Nat.le_of_ble_eq_true rfl) (fun h_4 => ?_)
              show zG X ad shM eI 91 [some (.ref (ad 0)), some (.int x1), some (.int x2), some (.int x3)] [] h_4 _
              refine g_goto C 99 iX7_feeder_91 (by decide) ?_
              refine g_sub (lv' := [some (.ref (ad 0)), none, none, some (.int x3)]) ⟨rfl, ⟨rfl, trivial⟩⟩ ?_
              exact hj99 _
            · refine g_aload_n C iX7_feeder_94 rfl ?_
              refine g_iload_n C iX7_feeder_95 rfl ?_
              refine g_callV C wX7_127 iX7_feeder_96 (m_Mo_drop x1 h_1) (by decide) mh0 rfl rfl rfl rfl (Nat.le_of_ble_eq_true rfl) (fun h_3 => ?_)
              show zG X ad shM eI 99 [some (.ref (ad 0)), some (.int x1), some (.int x2), some (.int x3)] [] h_3 _
              refine g_sub (lv' := [some (.ref (ad 0)), none, none, some (.int x3)]) ⟨rfl, ⟨rfl, trivial⟩⟩ ?_
              exact hj99 _
          clear ej77
          refine g_icmp_ne C 77 iX7_feeder_62 (by decide) (fun c62 => ?_) (fun c62 => ?_)
          · refine g_aload_n C iX7_feeder_65 rfl ?_
            refine g_getR (b := 7) C fX7_28 iX7_feeder_66 mh0 rfl ?_
            refine g_iload_n C iX7_feeder_69 rfl ?_
            refine g_iaload C iX7_feeder_70 mh7 ?_
            refine g_if_ne C 77 iX7_feeder_71 (by decide) (fun c71 => ?_) (fun c71 => ?_)
            · refine g_bipush C (-2) iX7_feeder_74 (by decide) ?_
              exact g_iret C iX7_feeder_76 rfl
            · exact hj77
          · exact hj77
      clear ej57
      refine g_icmp_ne C 56 iX7_feeder_49 (by decide) (fun c49 => ?_) (fun c49 => ?_)
      · refine g_iconst C 1 iX7_feeder_52 (by decide) ?_
        refine g_goto C 57 iX7_feeder_53 (by decide) ?_
        exact hj57 _
      · refine g_iconst C 0 iX7_feeder_56 (by decide) ?_
        exact hj57 _

theorem iX7_isBus_10 : zI cX7_isBus 10 (.invokestatic 82) 3 13 := ⟨by decide +kernel, rfl⟩
theorem iX7_isBus_13 : zI cX7_isBus 13 (.ireturn) 1 14 := ⟨by decide +kernel, rfl⟩
theorem iX7_isBus_9 : zI cX7_isBus 9 (.isub) 1 10 := ⟨by decide +kernel, rfl⟩
theorem iX7_isBus_8 : zI cX7_isBus 8 (.iconst 1) 1 9 := ⟨by decide +kernel, rfl⟩
theorem iX7_isBus_7 : zI cX7_isBus 7 (.iaload) 1 8 := ⟨by decide +kernel, rfl⟩
theorem iX7_isBus_6 : zI cX7_isBus 6 (.iconst 0) 1 7 := ⟨by decide +kernel, rfl⟩
theorem iX7_isBus_3 : zI cX7_isBus 3 (.getfield 13) 3 6 := ⟨by decide +kernel, rfl⟩
theorem iX7_isBus_2 : zI cX7_isBus 2 (.aload_n 0) 1 3 := ⟨by decide +kernel, rfl⟩
theorem iX7_isBus_1 : zI cX7_isBus 1 (.iconst 0) 1 2 := ⟨by decide +kernel, rfl⟩
theorem iX7_isBus_0 : zI cX7_isBus 0 (.iload_n 1) 1 1 := ⟨by decide +kernel, rfl⟩
set_option maxHeartbeats 4000000 in
set_option maxRecDepth 100000 in
theorem m_Mo_isBus (x1 : Int32) (h : zH) : zM yX7_isBus cX7_isBus 2 (some .boolean) 1 shM (fun ad => [.ref (ad 0), .int x1]) h (eP h) (Mo_isBus x1 h) := by
  refine zM.of (by decide) (fun _ => rfl) (fun _ => Nat.le_of_ble_eq_true rfl) (fun X ad hnL C => ?_)
  show zG X ad shM (eP h) 0 [some (.ref (ad 0)), some (.int x1)] [] h _
  unfold Mo_isBus
  refine g_iload_n C iX7_isBus_0 rfl ?_
  refine g_iconst C 0 iX7_isBus_1 (by decide) ?_
  refine g_aload_n C iX7_isBus_2 rfl ?_
  refine g_getR (b := 2) C fX7_13 iX7_isBus_3 mh0 rfl ?_
  refine g_iconst C 0 iX7_isBus_6 (by decide) ?_
  refine g_ialoadL C 0 iX7_isBus_7 mh2 (by decide) (by decide) ?_
  refine g_iconst C 1 iX7_isBus_8 (by decide) ?_
  refine g_isub C iX7_isBus_9 ?_
  refine g_callS C wX7_82 iX7_isBus_10 (m_Mo_isIn x1 0 ((h 2 0) - 1) h) (by decide) rfl rfl rfl (Nat.le_of_ble_eq_true rfl) (fun r => ?_)
  show zG X ad shM (eP h) 13 [some (.ref (ad 0)), some (.int x1)] [.int r] h _
  exact g_zretG C iX7_isBus_13 rfl

set_option maxRecDepth 100000 in
theorem wX7_185 : zCv RX7 185 yX7_isBus cX7_isBus 2 (some .boolean) 1 := ⟨⟨(zmem 1000 (by decide +kernel) (by decide +kernel)), (zmem 76 (by decide +kernel) (by decide +kernel)), (zmem 1003 rfl rfl), ⟨by decide, by decide, by decide +kernel⟩, by decide⟩, (zmem 1002 (by decide +kernel) (by decide +kernel)), (zmem 54 (by decide +kernel) (by decide +kernel))⟩
theorem iX7_begin_2 : zI cX7_begin 2 (.invokevirtual 185) 3 5 := ⟨by decide +kernel, rfl⟩
theorem iX7_begin_5 : zI cX7_begin 5 (.ifCond .ne 5) 3 8 := ⟨by decide +kernel, rfl⟩
theorem iX7_begin_12 : zI cX7_begin 12 (.invokevirtual 51) 3 15 := ⟨by decide +kernel, rfl⟩
theorem iX7_begin_22 : zI cX7_begin 22 (.ifCond .gt 12) 3 25 := ⟨by decide +kernel, rfl⟩
theorem iX7_begin_36 : zI cX7_begin 36 (.ireturn) 1 37 := ⟨by decide +kernel, rfl⟩
theorem iX7_begin_34 : zI cX7_begin 34 (.bipush (-2)) 2 36 := ⟨by decide +kernel, rfl⟩
theorem iX7_begin_28 : zI cX7_begin 28 (.invokevirtual 130) 3 31 := ⟨by decide +kernel, rfl⟩
theorem iX7_begin_31 : zI cX7_begin 31 (.ifCond .ne 6) 3 34 := ⟨by decide +kernel, rfl⟩
theorem iX7_begin_38 : zI cX7_begin 38 (.invokevirtual 166) 3 41 := ⟨by decide +kernel, rfl⟩
theorem iX7_begin_46 : zI cX7_begin 46 (.invokevirtual 134) 3 49 := ⟨by decide +kernel, rfl⟩
theorem iX7_begin_54 : zI cX7_begin 54 (.if_icmp .ge 16) 3 57 := ⟨by decide +kernel, rfl⟩
theorem iX7_begin_61 : zI cX7_begin 61 (.invokevirtual 150) 3 64 := ⟨by decide +kernel, rfl⟩
theorem iX7_begin_67 : zI cX7_begin 67 (.goto (-16)) 3 70 := ⟨by decide +kernel, rfl⟩
theorem iX7_begin_64 : zI cX7_begin 64 (.iinc 3 1) 3 67 := ⟨by decide +kernel, rfl⟩
theorem iX7_begin_60 : zI cX7_begin 60 (.iconst 0) 1 61 := ⟨by decide +kernel, rfl⟩
theorem iX7_begin_59 : zI cX7_begin 59 (.iload_n 3) 1 60 := ⟨by decide +kernel, rfl⟩
theorem iX7_begin_58 : zI cX7_begin 58 (.iload_n 2) 1 59 := ⟨by decide +kernel, rfl⟩
theorem iX7_begin_57 : zI cX7_begin 57 (.aload_n 0) 1 58 := ⟨by decide +kernel, rfl⟩
theorem iX7_begin_52 : zI cX7_begin 52 (.bipush 6) 2 54 := ⟨by decide +kernel, rfl⟩
theorem iX7_begin_51 : zI cX7_begin 51 (.iload_n 3) 1 52 := ⟨by decide +kernel, rfl⟩
theorem iX7_begin_73 : zI cX7_begin 73 (.invokevirtual 130) 3 76 := ⟨by decide +kernel, rfl⟩
theorem iX7_begin_76 : zI cX7_begin 76 (.ireturn) 1 77 := ⟨by decide +kernel, rfl⟩
theorem iX7_begin_72 : zI cX7_begin 72 (.iconst 3) 1 73 := ⟨by decide +kernel, rfl⟩
theorem iX7_begin_71 : zI cX7_begin 71 (.iload_n 2) 1 72 := ⟨by decide +kernel, rfl⟩
theorem iX7_begin_70 : zI cX7_begin 70 (.aload_n 0) 1 71 := ⟨by decide +kernel, rfl⟩
theorem iX7_begin_50 : zI cX7_begin 50 (.istore_n 3) 1 51 := ⟨by decide +kernel, rfl⟩
theorem iX7_begin_49 : zI cX7_begin 49 (.iconst 0) 1 50 := ⟨by decide +kernel, rfl⟩
theorem iX7_begin_43 : zI cX7_begin 43 (.sipush 5000) 3 46 := ⟨by decide +kernel, rfl⟩
theorem iX7_begin_42 : zI cX7_begin 42 (.iload_n 2) 1 43 := ⟨by decide +kernel, rfl⟩
theorem iX7_begin_41 : zI cX7_begin 41 (.aload_n 0) 1 42 := ⟨by decide +kernel, rfl⟩
theorem iX7_begin_37 : zI cX7_begin 37 (.aload_n 0) 1 38 := ⟨by decide +kernel, rfl⟩
theorem iX7_begin_27 : zI cX7_begin 27 (.iconst 4) 1 28 := ⟨by decide +kernel, rfl⟩
theorem iX7_begin_26 : zI cX7_begin 26 (.iload_n 2) 1 27 := ⟨by decide +kernel, rfl⟩
theorem iX7_begin_25 : zI cX7_begin 25 (.aload_n 0) 1 26 := ⟨by decide +kernel, rfl⟩
theorem iX7_begin_21 : zI cX7_begin 21 (.iaload) 1 22 := ⟨by decide +kernel, rfl⟩
theorem iX7_begin_20 : zI cX7_begin 20 (.iload_n 1) 1 21 := ⟨by decide +kernel, rfl⟩
theorem iX7_begin_17 : zI cX7_begin 17 (.getfield 28) 3 20 := ⟨by decide +kernel, rfl⟩
theorem iX7_begin_16 : zI cX7_begin 16 (.aload_n 0) 1 17 := ⟨by decide +kernel, rfl⟩
theorem iX7_begin_15 : zI cX7_begin 15 (.istore_n 2) 1 16 := ⟨by decide +kernel, rfl⟩
theorem iX7_begin_11 : zI cX7_begin 11 (.iload_n 1) 1 12 := ⟨by decide +kernel, rfl⟩
theorem iX7_begin_10 : zI cX7_begin 10 (.aload_n 0) 1 11 := ⟨by decide +kernel, rfl⟩
theorem iX7_begin_9 : zI cX7_begin 9 (.ireturn) 1 10 := ⟨by decide +kernel, rfl⟩
theorem iX7_begin_8 : zI cX7_begin 8 (.iconst (-1)) 1 9 := ⟨by decide +kernel, rfl⟩
theorem iX7_begin_1 : zI cX7_begin 1 (.iload_n 1) 1 2 := ⟨by decide +kernel, rfl⟩
theorem iX7_begin_0 : zI cX7_begin 0 (.aload_n 0) 1 1 := ⟨by decide +kernel, rfl⟩
set_option maxHeartbeats 4000000 in
set_option maxRecDepth 100000 in
theorem m_Mo_begin (x1 : Int32) (h : zH) : zM yX7_begin cX7_begin 4 (some .int) 2 shM (fun ad => [.ref (ad 0), .int x1]) h eI (Mo_begin x1 h) := by
  refine zM.of (by decide) (fun _ => rfl) (fun _ => Nat.le_of_ble_eq_true rfl) (fun X ad hnL C => ?_)
  show zG X ad shM eI 0 [some (.ref (ad 0)), some (.int x1), none, none] [] h _
  unfold Mo_begin
  refine g_aload_n C iX7_begin_0 rfl ?_
  refine g_iload_n C iX7_begin_1 rfl ?_
  refine g_callV C wX7_185 iX7_begin_2 (m_Mo_isBus x1 h) (by decide) mh0 rfl rfl rfl rfl (Nat.le_of_ble_eq_true rfl) (fun r => ?_)
  show zG X ad shM eI 5 [some (.ref (ad 0)), some (.int x1), none, none] [.int r] h _
  refine g_if_ne C 10 iX7_begin_5 (by decide) (fun c5 => ?_) (fun c5 => ?_)
  · refine g_iconst C (-1) iX7_begin_8 (by decide) ?_
    exact g_iret C iX7_begin_9 rfl
  · refine g_aload_n C iX7_begin_10 rfl ?_
    refine g_iload_n C iX7_begin_11 rfl ?_
    refine g_callV C wX7_51 iX7_begin_12 (m_Mo_busesOf x1 h) (by decide) mh0 rfl rfl rfl rfl (Nat.le_of_ble_eq_true rfl) (fun r_1 => ?_)
    show zG X ad shM eI 15 [some (.ref (ad 0)), some (.int x1), none, none] [.int r_1] h _
    refine g_istore_n (lv' := [some (.ref (ad 0)), some (.int x1), some (.int r_1), none]) C hnL iX7_begin_15 (by decide) rfl ?_
    refine g_aload_n C iX7_begin_16 rfl ?_
    refine g_getR (b := 7) C fX7_28 iX7_begin_17 mh0 rfl ?_
    refine g_iload_n C iX7_begin_20 rfl ?_
    refine g_iaload C iX7_begin_21 mh7 ?_
    refine g_if_gt C 34 iX7_begin_22 (by decide) (fun c22 => ?_) (fun c22 => ?_)
    · refine g_bipush C (-2) iX7_begin_34 (by decide) ?_
      exact g_iret C iX7_begin_36 rfl
    · refine g_aload_n C iX7_begin_25 rfl ?_
      refine g_iload_n C iX7_begin_26 rfl ?_
      refine g_iconst C 4 iX7_begin_27 (by decide) ?_
      refine g_callV C wX7_130 iX7_begin_28 (m_Mo_plants r_1 4 h) (by decide) mh0 rfl rfl rfl rfl (Nat.le_of_ble_eq_true rfl) (fun r_2 => ?_)
      show zG X ad shM eI 31 [some (.ref (ad 0)), some (.int x1), some (.int r_1), none] [.int r_2] h _
      refine g_if_ne C 37 iX7_begin_31 (by decide) (fun c31 => ?_) (fun c31 => ?_)
      · refine g_bipush C (-2) iX7_begin_34 (by decide) ?_
        exact g_iret C iX7_begin_36 rfl
      · refine g_aload_n C iX7_begin_37 rfl ?_
        refine g_callV C wX7_166 iX7_begin_38 (m_Mo_keeps h) (by decide) mh0 rfl rfl rfl rfl (Nat.le_of_ble_eq_true rfl) (fun h_1 => ?_)
        show zG X ad shM eI 41 [some (.ref (ad 0)), some (.int x1), some (.int r_1), none] [] h_1 _
        refine g_aload_n C iX7_begin_41 rfl ?_
        refine g_iload_n C iX7_begin_42 rfl ?_
        refine g_sipush C 5000 iX7_begin_43 (by decide) ?_
        refine g_callV C wX7_134 iX7_begin_46 (m_Mo_frequency r_1 5000 h_1) (by decide) mh0 rfl rfl rfl rfl (Nat.le_of_ble_eq_true rfl) (fun h_2 => ?_)
        show zG X ad shM eI 49 [some (.ref (ad 0)), some (.int x1), some (.int r_1), none] [] h_2 _
        refine g_iconst C 0 iX7_begin_49 (by decide) ?_
        refine g_istore_n (lv' := [some (.ref (ad 0)), some (.int x1), some (.int r_1), some (.int 0)]) C hnL iX7_begin_50 (by decide) rfl ?_
        have L51 : ∀ (k70 : zH → Option (Int32 × zH)), (∀ (hy : zH), zG X ad shM eI 70 [some (.ref (ad 0)), none, some (.int r_1), none] [] hy (k70 hy)) → ∀ (n : Nat) (x3 : Int32) (h_3 : zH), zG X ad shM eI 51 [some (.ref (ad 0)), none, some (.int r_1), some (.int x3)] [] h_3 (Mo_begin_L51 r_1 k70 n x3 h_3) := by
          intro k70 hk70 n
          induction n with
          | zero =>
            intro x3 h_3
            exact g_none
          | succ n ih51 =>
            intro x3 h_3
            rw [Mo_begin_L51]
            refine g_iload_n C iX7_begin_51 rfl ?_
            refine g_bipush C 6 iX7_begin_52 (by decide) ?_
            refine g_icmp_ge C 70 iX7_begin_54 (by decide) (fun c54 => ?_) (fun c54 => ?_)
            · refine g_sub (lv' := [some (.ref (ad 0)), none, some (.int r_1), none]) ⟨rfl, ⟨rfl, trivial⟩⟩ ?_
              exact hk70 _
            · refine g_aload_n C iX7_begin_57 rfl ?_
              refine g_iload_n C iX7_begin_58 rfl ?_
              refine g_iload_n C iX7_begin_59 rfl ?_
              refine g_iconst C 0 iX7_begin_60 (by decide) ?_
              refine g_callV C wX7_150 iX7_begin_61 (m_Mo_counts r_1 x3 0 h_3) (by decide) mh0 rfl rfl rfl rfl (Nat.le_of_ble_eq_true rfl) (fun h_4 => ?_)
              show zG X ad shM eI 64 [some (.ref (ad 0)), none, some (.int r_1), some (.int x3)] [] h_4 _
              refine g_iinc (v := (x3 + 1)) (lv' := [some (.ref (ad 0)), none, some (.int r_1), some (.int (x3 + 1))]) C hnL iX7_begin_64 (by decide) rfl rfl rfl ?_
              refine g_goto C 51 iX7_begin_67 (by decide) ?_
              exact ih51 _ _
        refine g_sub (lv' := [some (.ref (ad 0)), none, some (.int r_1), some (.int 0)]) ⟨rfl, ⟨rfl, ⟨rfl, trivial⟩⟩⟩ ?_
        refine L51 _ (fun h_5 => ?_) 1000 _ _
        show zG X ad shM eI 70 [some (.ref (ad 0)), none, some (.int r_1), none] [] h_5 _
        refine g_aload_n C iX7_begin_70 rfl ?_
        refine g_iload_n C iX7_begin_71 rfl ?_
        refine g_iconst C 3 iX7_begin_72 (by decide) ?_
        refine g_callV C wX7_130 iX7_begin_73 (m_Mo_plants r_1 3 h_5) (by decide) mh0 rfl rfl rfl rfl (Nat.le_of_ble_eq_true rfl) (fun r_3 => ?_)
        show zG X ad shM eI 76 [some (.ref (ad 0)), none, some (.int r_1), none] [.int r_3] h_5 _
        exact g_iret C iX7_begin_76 rfl

theorem iX7_mark_8 : zI cX7_mark 8 (.invokestatic 82) 3 11 := ⟨by decide +kernel, rfl⟩
theorem iX7_mark_11 : zI cX7_mark 11 (.ifCond .eq 36) 3 14 := ⟨by decide +kernel, rfl⟩
theorem iX7_mark_48 : zI cX7_mark 48 (.ireturn) 1 49 := ⟨by decide +kernel, rfl⟩
theorem iX7_mark_47 : zI cX7_mark 47 (.iconst (-1)) 1 48 := ⟨by decide +kernel, rfl⟩
theorem iX7_mark_16 : zI cX7_mark 16 (.ifCond .ne 9) 3 19 := ⟨by decide +kernel, rfl⟩
theorem iX7_mark_41 : zI cX7_mark 41 (.invokestatic 82) 3 44 := ⟨by decide +kernel, rfl⟩
theorem iX7_mark_44 : zI cX7_mark 44 (.ifCond .ne 5) 3 47 := ⟨by decide +kernel, rfl⟩
theorem iX7_mark_61 : zI cX7_mark 61 (.if_icmp .ne 6) 3 64 := ⟨by decide +kernel, rfl⟩
theorem iX7_mark_68 : zI cX7_mark 68 (.invokevirtual 166) 3 71 := ⟨by decide +kernel, rfl⟩
theorem iX7_mark_82 : zI cX7_mark 82 (.ireturn) 1 83 := ⟨by decide +kernel, rfl⟩
theorem iX7_mark_81 : zI cX7_mark 81 (.iload_n 3) 1 82 := ⟨by decide +kernel, rfl⟩
theorem iX7_mark_80 : zI cX7_mark 80 (.iastore) 1 81 := ⟨by decide +kernel, rfl⟩
theorem iX7_mark_79 : zI cX7_mark 79 (.iload_n 2) 1 80 := ⟨by decide +kernel, rfl⟩
theorem iX7_mark_78 : zI cX7_mark 78 (.iadd) 1 79 := ⟨by decide +kernel, rfl⟩
theorem iX7_mark_77 : zI cX7_mark 77 (.iload_n 1) 1 78 := ⟨by decide +kernel, rfl⟩
theorem iX7_mark_75 : zI cX7_mark 75 (.bipush 60) 2 77 := ⟨by decide +kernel, rfl⟩
theorem iX7_mark_72 : zI cX7_mark 72 (.getfield 28) 3 75 := ⟨by decide +kernel, rfl⟩
theorem iX7_mark_71 : zI cX7_mark 71 (.aload_n 0) 1 72 := ⟨by decide +kernel, rfl⟩
theorem iX7_mark_67 : zI cX7_mark 67 (.aload_n 0) 1 68 := ⟨by decide +kernel, rfl⟩
theorem iX7_mark_66 : zI cX7_mark 66 (.ireturn) 1 67 := ⟨by decide +kernel, rfl⟩
theorem iX7_mark_64 : zI cX7_mark 64 (.bipush (-2)) 2 66 := ⟨by decide +kernel, rfl⟩
theorem iX7_mark_60 : zI cX7_mark 60 (.iload_n 2) 1 61 := ⟨by decide +kernel, rfl⟩
theorem iX7_mark_59 : zI cX7_mark 59 (.iload_n 3) 1 60 := ⟨by decide +kernel, rfl⟩
theorem iX7_mark_58 : zI cX7_mark 58 (.istore_n 3) 1 59 := ⟨by decide +kernel, rfl⟩
theorem iX7_mark_57 : zI cX7_mark 57 (.iaload) 1 58 := ⟨by decide +kernel, rfl⟩
theorem iX7_mark_56 : zI cX7_mark 56 (.iadd) 1 57 := ⟨by decide +kernel, rfl⟩
theorem iX7_mark_55 : zI cX7_mark 55 (.iload_n 1) 1 56 := ⟨by decide +kernel, rfl⟩
theorem iX7_mark_53 : zI cX7_mark 53 (.bipush 60) 2 55 := ⟨by decide +kernel, rfl⟩
theorem iX7_mark_50 : zI cX7_mark 50 (.getfield 28) 3 53 := ⟨by decide +kernel, rfl⟩
theorem iX7_mark_49 : zI cX7_mark 49 (.aload_n 0) 1 50 := ⟨by decide +kernel, rfl⟩
theorem iX7_mark_29 : zI cX7_mark 29 (.ifCond .ne 9) 3 32 := ⟨by decide +kernel, rfl⟩
theorem iX7_mark_38 : zI cX7_mark 38 (.sipush 4999) 3 41 := ⟨by decide +kernel, rfl⟩
theorem iX7_mark_35 : zI cX7_mark 35 (.goto 6) 3 38 := ⟨by decide +kernel, rfl⟩
theorem iX7_mark_32 : zI cX7_mark 32 (.sipush 5000) 3 35 := ⟨by decide +kernel, rfl⟩
theorem iX7_mark_28 : zI cX7_mark 28 (.iload_n 1) 1 29 := ⟨by decide +kernel, rfl⟩
theorem iX7_mark_25 : zI cX7_mark 25 (.sipush 4700) 3 28 := ⟨by decide +kernel, rfl⟩
theorem iX7_mark_22 : zI cX7_mark 22 (.goto 6) 3 25 := ⟨by decide +kernel, rfl⟩
theorem iX7_mark_19 : zI cX7_mark 19 (.sipush 4900) 3 22 := ⟨by decide +kernel, rfl⟩
theorem iX7_mark_15 : zI cX7_mark 15 (.iload_n 1) 1 16 := ⟨by decide +kernel, rfl⟩
theorem iX7_mark_14 : zI cX7_mark 14 (.iload_n 2) 1 15 := ⟨by decide +kernel, rfl⟩
theorem iX7_mark_7 : zI cX7_mark 7 (.iaload) 1 8 := ⟨by decide +kernel, rfl⟩
theorem iX7_mark_6 : zI cX7_mark 6 (.iconst 4) 1 7 := ⟨by decide +kernel, rfl⟩
theorem iX7_mark_3 : zI cX7_mark 3 (.getfield 13) 3 6 := ⟨by decide +kernel, rfl⟩
theorem iX7_mark_2 : zI cX7_mark 2 (.aload_n 0) 1 3 := ⟨by decide +kernel, rfl⟩
theorem iX7_mark_1 : zI cX7_mark 1 (.iconst 0) 1 2 := ⟨by decide +kernel, rfl⟩
theorem iX7_mark_0 : zI cX7_mark 0 (.iload_n 1) 1 1 := ⟨by decide +kernel, rfl⟩
set_option maxHeartbeats 4000000 in
set_option maxRecDepth 100000 in
theorem m_Mo_mark (x1 : Int32) (x2 : Int32) (h : zH) : zM yX7_mark cX7_mark 4 (some .int) 1 shM (fun ad => [.ref (ad 0), .int x1, .int x2]) h eI (Mo_mark x1 x2 h) := by
  refine zM.of (by decide) (fun _ => rfl) (fun _ => Nat.le_of_ble_eq_true rfl) (fun X ad hnL C => ?_)
  show zG X ad shM eI 0 [some (.ref (ad 0)), some (.int x1), some (.int x2), none] [] h _
  unfold Mo_mark
  refine g_iload_n C iX7_mark_0 rfl ?_
  refine g_iconst C 0 iX7_mark_1 (by decide) ?_
  refine g_aload_n C iX7_mark_2 rfl ?_
  refine g_getR (b := 2) C fX7_13 iX7_mark_3 mh0 rfl ?_
  refine g_iconst C 4 iX7_mark_6 (by decide) ?_
  refine g_ialoadL C 4 iX7_mark_7 mh2 (by decide) (by decide) ?_
  refine g_callS C wX7_82 iX7_mark_8 (m_Mo_isIn x1 0 (h 2 4) h) (by decide) rfl rfl rfl (Nat.le_of_ble_eq_true rfl) (fun r => ?_)
  show zG X ad shM eI 11 [some (.ref (ad 0)), some (.int x1), some (.int x2), none] [.int r] h _
  refine g_if_eq C 47 iX7_mark_11 (by decide) (fun c11 => ?_) (fun c11 => ?_)
  · refine g_iconst C (-1) iX7_mark_47 (by decide) ?_
    exact g_iret C iX7_mark_48 rfl
  · refine g_iload_n C iX7_mark_14 rfl ?_
    refine g_iload_n C iX7_mark_15 rfl ?_
    refine g_if_ne C 25 iX7_mark_16 (by decide) (fun c16 => ?_) (fun c16 => ?_)
    · refine g_sipush C 4900 iX7_mark_19 (by decide) ?_
      refine g_goto C 28 iX7_mark_22 (by decide) ?_
      refine g_iload_n C iX7_mark_28 rfl ?_
      refine g_let (fun j41 ej41 => ?_)
      have hj41 : ∀ (v41_1 : Int32), zG X ad shM eI 41 [some (.ref (ad 0)), some (.int x1), some (.int x2), none] [.int v41_1, .int 4900, .int x2] h (j41 v41_1) := by
        intro v41_1
        subst ej41
        refine g_callS C wX7_82 iX7_mark_41 (m_Mo_isIn x2 4900 v41_1 h) (by decide) rfl rfl rfl (Nat.le_of_ble_eq_true rfl) (fun r_2 => ?_)
        show zG X ad shM eI 44 [some (.ref (ad 0)), some (.int x1), some (.int x2), none] [.int r_2] h _
        refine g_if_ne C 49 iX7_mark_44 (by decide) (fun c44 => ?_) (fun c44 => ?_)
        · refine g_iconst C (-1) iX7_mark_47 (by decide) ?_
          exact g_iret C iX7_mark_48 rfl
        · refine g_aload_n C iX7_mark_49 rfl ?_
          refine g_getR (b := 7) C fX7_28 iX7_mark_50 mh0 rfl ?_
          refine g_bipush C 60 iX7_mark_53 (by decide) ?_
          refine g_iload_n C iX7_mark_55 rfl ?_
          refine g_iadd C iX7_mark_56 ?_
          refine g_iaload C iX7_mark_57 mh7 ?_
          refine g_top (fun x3_1 => ?_)
          refine g_istore_n (lv' := [some (.ref (ad 0)), some (.int x1), some (.int x2), some (.int x3_1)]) C hnL iX7_mark_58 (by decide) rfl ?_
          refine g_iload_n C iX7_mark_59 rfl ?_
          refine g_iload_n C iX7_mark_60 rfl ?_
          refine g_icmp_ne C 67 iX7_mark_61 (by decide) (fun c61 => ?_) (fun c61 => ?_)
          · refine g_bipush C (-2) iX7_mark_64 (by decide) ?_
            exact g_iret C iX7_mark_66 rfl
          · refine g_aload_n C iX7_mark_67 rfl ?_
            refine g_callV C wX7_166 iX7_mark_68 (m_Mo_keeps h) (by decide) mh0 rfl rfl rfl rfl (Nat.le_of_ble_eq_true rfl) (fun h_3 => ?_)
            show zG X ad shM eI 71 [some (.ref (ad 0)), some (.int x1), some (.int x2), some (.int x3_1)] [] h_3 _
            refine g_aload_n C iX7_mark_71 rfl ?_
            refine g_getR (b := 7) C fX7_28 iX7_mark_72 mh0 rfl ?_
            refine g_bipush C 60 iX7_mark_75 (by decide) ?_
            refine g_iload_n C iX7_mark_77 rfl ?_
            refine g_iadd C iX7_mark_78 ?_
            refine g_iload_n C iX7_mark_79 rfl ?_
            refine g_iastore C iX7_mark_80 mh7 (fun h_4 => ?_)
            refine g_iload_n C iX7_mark_81 rfl ?_
            exact g_iret C iX7_mark_82 rfl
      clear ej41
      refine g_if_ne C 38 iX7_mark_29 (by decide) (fun c29 => ?_) (fun c29 => ?_)
      · refine g_sipush C 5000 iX7_mark_32 (by decide) ?_
        refine g_goto C 41 iX7_mark_35 (by decide) ?_
        exact hj41 _
      · refine g_sipush C 4999 iX7_mark_38 (by decide) ?_
        exact hj41 _
    · refine g_sipush C 4700 iX7_mark_25 (by decide) ?_
      refine g_iload_n C iX7_mark_28 rfl ?_
      refine g_let (fun j41 ej41 => ?_)
      have hj41 : ∀ (v41 : Int32), zG X ad shM eI 41 [some (.ref (ad 0)), some (.int x1), some (.int x2), none] [.int v41, .int 4700, .int x2] h (j41 v41) := by
        intro v41
        subst ej41
        refine g_callS C wX7_82 iX7_mark_41 (m_Mo_isIn x2 4700 v41 h) (by decide) rfl rfl rfl (Nat.le_of_ble_eq_true rfl) (fun r_1 => ?_)
        show zG X ad shM eI 44 [some (.ref (ad 0)), some (.int x1), some (.int x2), none] [.int r_1] h _
        refine g_if_ne C 49 iX7_mark_44 (by decide) (fun c44 => ?_) (fun c44 => ?_)
        · refine g_iconst C (-1) iX7_mark_47 (by decide) ?_
          exact g_iret C iX7_mark_48 rfl
        · refine g_aload_n C iX7_mark_49 rfl ?_
          refine g_getR (b := 7) C fX7_28 iX7_mark_50 mh0 rfl ?_
          refine g_bipush C 60 iX7_mark_53 (by decide) ?_
          refine g_iload_n C iX7_mark_55 rfl ?_
          refine g_iadd C iX7_mark_56 ?_
          refine g_iaload C iX7_mark_57 mh7 ?_
          refine g_top (fun x3 => ?_)
          refine g_istore_n (lv' := [some (.ref (ad 0)), some (.int x1), some (.int x2), some (.int x3)]) C hnL iX7_mark_58 (by decide) rfl ?_
          refine g_iload_n C iX7_mark_59 rfl ?_
          refine g_iload_n C iX7_mark_60 rfl ?_
          refine g_icmp_ne C 67 iX7_mark_61 (by decide) (fun c61 => ?_) (fun c61 => ?_)
          · refine g_bipush C (-2) iX7_mark_64 (by decide) ?_
            exact g_iret C iX7_mark_66 rfl
          · refine g_aload_n C iX7_mark_67 rfl ?_
            refine g_callV C wX7_166 iX7_mark_68 (m_Mo_keeps h) (by decide) mh0 rfl rfl rfl rfl (Nat.le_of_ble_eq_true rfl) (fun h_1 => ?_)
            show zG X ad shM eI 71 [some (.ref (ad 0)), some (.int x1), some (.int x2), some (.int x3)] [] h_1 _
            refine g_aload_n C iX7_mark_71 rfl ?_
            refine g_getR (b := 7) C fX7_28 iX7_mark_72 mh0 rfl ?_
            refine g_bipush C 60 iX7_mark_75 (by decide) ?_
            refine g_iload_n C iX7_mark_77 rfl ?_
            refine g_iadd C iX7_mark_78 ?_
            refine g_iload_n C iX7_mark_79 rfl ?_
            refine g_iastore C iX7_mark_80 mh7 (fun h_2 => ?_)
            refine g_iload_n C iX7_mark_81 rfl ?_
            exact g_iret C iX7_mark_82 rfl
      clear ej41
      refine g_if_ne C 38 iX7_mark_29 (by decide) (fun c29 => ?_) (fun c29 => ?_)
      · refine g_sipush C 5000 iX7_mark_32 (by decide) ?_
        refine g_goto C 41 iX7_mark_35 (by decide) ?_
        exact hj41 _
      · refine g_sipush C 4999 iX7_mark_38 (by decide) ?_
        exact hj41 _

theorem iX7_bits_7 : zI cX7_bits 7 (.if_icmp .ge 17) 3 10 := ⟨by decide +kernel, rfl⟩
theorem iX7_bits_21 : zI cX7_bits 21 (.goto (-17)) 3 24 := ⟨by decide +kernel, rfl⟩
theorem iX7_bits_18 : zI cX7_bits 18 (.iinc 3 1) 3 21 := ⟨by decide +kernel, rfl⟩
theorem iX7_bits_17 : zI cX7_bits 17 (.istore_n 2) 1 18 := ⟨by decide +kernel, rfl⟩
theorem iX7_bits_16 : zI cX7_bits 16 (.iadd) 1 17 := ⟨by decide +kernel, rfl⟩
theorem iX7_bits_15 : zI cX7_bits 15 (.iand) 1 16 := ⟨by decide +kernel, rfl⟩
theorem iX7_bits_14 : zI cX7_bits 14 (.iconst 1) 1 15 := ⟨by decide +kernel, rfl⟩
theorem iX7_bits_13 : zI cX7_bits 13 (.ishr) 1 14 := ⟨by decide +kernel, rfl⟩
theorem iX7_bits_12 : zI cX7_bits 12 (.iload_n 3) 1 13 := ⟨by decide +kernel, rfl⟩
theorem iX7_bits_11 : zI cX7_bits 11 (.iload_n 1) 1 12 := ⟨by decide +kernel, rfl⟩
theorem iX7_bits_10 : zI cX7_bits 10 (.iload_n 2) 1 11 := ⟨by decide +kernel, rfl⟩
theorem iX7_bits_5 : zI cX7_bits 5 (.bipush 9) 2 7 := ⟨by decide +kernel, rfl⟩
theorem iX7_bits_4 : zI cX7_bits 4 (.iload_n 3) 1 5 := ⟨by decide +kernel, rfl⟩
theorem iX7_bits_25 : zI cX7_bits 25 (.ireturn) 1 26 := ⟨by decide +kernel, rfl⟩
theorem iX7_bits_24 : zI cX7_bits 24 (.iload_n 2) 1 25 := ⟨by decide +kernel, rfl⟩
theorem iX7_bits_3 : zI cX7_bits 3 (.istore_n 3) 1 4 := ⟨by decide +kernel, rfl⟩
theorem iX7_bits_2 : zI cX7_bits 2 (.iconst 0) 1 3 := ⟨by decide +kernel, rfl⟩
theorem iX7_bits_1 : zI cX7_bits 1 (.istore_n 2) 1 2 := ⟨by decide +kernel, rfl⟩
theorem iX7_bits_0 : zI cX7_bits 0 (.iconst 0) 1 1 := ⟨by decide +kernel, rfl⟩
set_option maxHeartbeats 4000000 in
set_option maxRecDepth 100000 in
theorem m_Mo_bits (x1 : Int32) (h : zH) : zM yX7_bits cX7_bits 4 (some .int) 0 shM (fun ad => [.ref (ad 0), .int x1]) h (eP h) (Mo_bits x1) := by
  refine zM.of (by decide) (fun _ => rfl) (fun _ => Nat.le_of_ble_eq_true rfl) (fun X ad hnL C => ?_)
  show zG X ad shM (eP h) 0 [some (.ref (ad 0)), some (.int x1), none, none] [] h _
  unfold Mo_bits
  refine g_iconst C 0 iX7_bits_0 (by decide) ?_
  refine g_istore_n (lv' := [some (.ref (ad 0)), some (.int x1), some (.int 0), none]) C hnL iX7_bits_1 (by decide) rfl ?_
  refine g_iconst C 0 iX7_bits_2 (by decide) ?_
  refine g_istore_n (lv' := [some (.ref (ad 0)), some (.int x1), some (.int 0), some (.int 0)]) C hnL iX7_bits_3 (by decide) rfl ?_
  have L4 : ∀ (k24 : Int32 → Option (Int32)), (∀ (y2 : Int32), zG X ad shM (eP h) 24 [none, none, some (.int y2), none] [] h (k24 y2)) → ∀ (n : Nat) (x2 x3 : Int32), zG X ad shM (eP h) 4 [none, some (.int x1), some (.int x2), some (.int x3)] [] h (Mo_bits_L4 x1 k24 n x2 x3) := by
    intro k24 hk24 n
    induction n with
    | zero =>
      intro x2 x3
      exact g_none
    | succ n ih4 =>
      intro x2 x3
      rw [Mo_bits_L4]
      refine g_iload_n C iX7_bits_4 rfl ?_
      refine g_bipush C 9 iX7_bits_5 (by decide) ?_
      refine g_icmp_ge C 24 iX7_bits_7 (by decide) (fun c7 => ?_) (fun c7 => ?_)
      · refine g_sub (lv' := [none, none, some (.int x2), none]) ⟨rfl, trivial⟩ ?_
        exact hk24 _
      · refine g_iload_n C iX7_bits_10 rfl ?_
        refine g_iload_n C iX7_bits_11 rfl ?_
        refine g_iload_n C iX7_bits_12 rfl ?_
        refine g_ishr C iX7_bits_13 ?_
        refine g_iconst C 1 iX7_bits_14 (by decide) ?_
        refine g_iand C iX7_bits_15 ?_
        refine g_iadd C iX7_bits_16 ?_
        refine g_top (fun x2_1 => ?_)
        refine g_istore_n (lv' := [none, some (.int x1), some (.int x2_1), some (.int x3)]) C hnL iX7_bits_17 (by decide) rfl ?_
        refine g_iinc (v := (x3 + 1)) (lv' := [none, some (.int x1), some (.int x2_1), some (.int (x3 + 1))]) C hnL iX7_bits_18 (by decide) rfl rfl rfl ?_
        refine g_goto C 4 iX7_bits_21 (by decide) ?_
        exact ih4 _ _
  refine g_sub (lv' := [none, some (.int x1), some (.int 0), some (.int 0)]) ⟨rfl, ⟨rfl, ⟨rfl, trivial⟩⟩⟩ ?_
  refine L4 _ (fun x2_2 => ?_) 1000 _ _
  show zG X ad shM (eP h) 24 [none, none, some (.int x2_2), none] [] h _
  refine g_iload_n C iX7_bits_24 rfl ?_
  exact g_iret C iX7_bits_25 rfl

theorem iX7_feedersOf_11 : zI cX7_feedersOf 11 (.if_icmp .ge 34) 3 14 := ⟨by decide +kernel, rfl⟩
theorem iX7_feedersOf_24 : zI cX7_feedersOf 24 (.invokestatic 66) 3 27 := ⟨by decide +kernel, rfl⟩
theorem iX7_feedersOf_27 : zI cX7_feedersOf 27 (.ifCond .eq 9) 3 30 := ⟨by decide +kernel, rfl⟩
theorem iX7_feedersOf_42 : zI cX7_feedersOf 42 (.goto (-38)) 3 45 := ⟨by decide +kernel, rfl⟩
theorem iX7_feedersOf_39 : zI cX7_feedersOf 39 (.iinc 3 1) 3 42 := ⟨by decide +kernel, rfl⟩
theorem iX7_feedersOf_38 : zI cX7_feedersOf 38 (.istore_n 2) 1 39 := ⟨by decide +kernel, rfl⟩
theorem iX7_feedersOf_37 : zI cX7_feedersOf 37 (.ior) 1 38 := ⟨by decide +kernel, rfl⟩
theorem iX7_feedersOf_36 : zI cX7_feedersOf 36 (.iconst 0) 1 37 := ⟨by decide +kernel, rfl⟩
theorem iX7_feedersOf_33 : zI cX7_feedersOf 33 (.goto 4) 3 36 := ⟨by decide +kernel, rfl⟩
theorem iX7_feedersOf_32 : zI cX7_feedersOf 32 (.ishl) 1 33 := ⟨by decide +kernel, rfl⟩
theorem iX7_feedersOf_31 : zI cX7_feedersOf 31 (.iload_n 3) 1 32 := ⟨by decide +kernel, rfl⟩
theorem iX7_feedersOf_30 : zI cX7_feedersOf 30 (.iconst 1) 1 31 := ⟨by decide +kernel, rfl⟩
theorem iX7_feedersOf_23 : zI cX7_feedersOf 23 (.iaload) 1 24 := ⟨by decide +kernel, rfl⟩
theorem iX7_feedersOf_22 : zI cX7_feedersOf 22 (.imul) 1 23 := ⟨by decide +kernel, rfl⟩
theorem iX7_feedersOf_21 : zI cX7_feedersOf 21 (.iload_n 3) 1 22 := ⟨by decide +kernel, rfl⟩
theorem iX7_feedersOf_20 : zI cX7_feedersOf 20 (.iconst 3) 1 21 := ⟨by decide +kernel, rfl⟩
theorem iX7_feedersOf_17 : zI cX7_feedersOf 17 (.getfield 22) 3 20 := ⟨by decide +kernel, rfl⟩
theorem iX7_feedersOf_16 : zI cX7_feedersOf 16 (.aload_n 0) 1 17 := ⟨by decide +kernel, rfl⟩
theorem iX7_feedersOf_15 : zI cX7_feedersOf 15 (.iload_n 1) 1 16 := ⟨by decide +kernel, rfl⟩
theorem iX7_feedersOf_14 : zI cX7_feedersOf 14 (.iload_n 2) 1 15 := ⟨by decide +kernel, rfl⟩
theorem iX7_feedersOf_10 : zI cX7_feedersOf 10 (.iaload) 1 11 := ⟨by decide +kernel, rfl⟩
theorem iX7_feedersOf_9 : zI cX7_feedersOf 9 (.iconst 3) 1 10 := ⟨by decide +kernel, rfl⟩
theorem iX7_feedersOf_6 : zI cX7_feedersOf 6 (.getfield 13) 3 9 := ⟨by decide +kernel, rfl⟩
theorem iX7_feedersOf_5 : zI cX7_feedersOf 5 (.aload_n 0) 1 6 := ⟨by decide +kernel, rfl⟩
theorem iX7_feedersOf_4 : zI cX7_feedersOf 4 (.iload_n 3) 1 5 := ⟨by decide +kernel, rfl⟩
theorem iX7_feedersOf_46 : zI cX7_feedersOf 46 (.ireturn) 1 47 := ⟨by decide +kernel, rfl⟩
theorem iX7_feedersOf_45 : zI cX7_feedersOf 45 (.iload_n 2) 1 46 := ⟨by decide +kernel, rfl⟩
theorem iX7_feedersOf_3 : zI cX7_feedersOf 3 (.istore_n 3) 1 4 := ⟨by decide +kernel, rfl⟩
theorem iX7_feedersOf_2 : zI cX7_feedersOf 2 (.iconst 0) 1 3 := ⟨by decide +kernel, rfl⟩
theorem iX7_feedersOf_1 : zI cX7_feedersOf 1 (.istore_n 2) 1 2 := ⟨by decide +kernel, rfl⟩
theorem iX7_feedersOf_0 : zI cX7_feedersOf 0 (.iconst 0) 1 1 := ⟨by decide +kernel, rfl⟩
set_option maxHeartbeats 4000000 in
set_option maxRecDepth 100000 in
theorem m_Mo_feedersOf (x1 : Int32) (h : zH) : zM yX7_feedersOf cX7_feedersOf 4 (some .int) 1 shM (fun ad => [.ref (ad 0), .int x1]) h (eP h) (Mo_feedersOf x1 h) := by
  refine zM.of (by decide) (fun _ => rfl) (fun _ => Nat.le_of_ble_eq_true rfl) (fun X ad hnL C => ?_)
  show zG X ad shM (eP h) 0 [some (.ref (ad 0)), some (.int x1), none, none] [] h _
  unfold Mo_feedersOf
  refine g_iconst C 0 iX7_feedersOf_0 (by decide) ?_
  refine g_istore_n (lv' := [some (.ref (ad 0)), some (.int x1), some (.int 0), none]) C hnL iX7_feedersOf_1 (by decide) rfl ?_
  refine g_iconst C 0 iX7_feedersOf_2 (by decide) ?_
  refine g_istore_n (lv' := [some (.ref (ad 0)), some (.int x1), some (.int 0), some (.int 0)]) C hnL iX7_feedersOf_3 (by decide) rfl ?_
  have L4 : ∀ (k45 : Int32 → Option (Int32)), (∀ (y2 : Int32), zG X ad shM (eP h) 45 [none, none, some (.int y2), none] [] h (k45 y2)) → ∀ (n : Nat) (x2 x3 : Int32), zG X ad shM (eP h) 4 [some (.ref (ad 0)), some (.int x1), some (.int x2), some (.int x3)] [] h (Mo_feedersOf_L4 x1 h k45 n x2 x3) := by
    intro k45 hk45 n
    induction n with
    | zero =>
      intro x2 x3
      exact g_none
    | succ n ih4 =>
      intro x2 x3
      rw [Mo_feedersOf_L4]
      refine g_iload_n C iX7_feedersOf_4 rfl ?_
      refine g_aload_n C iX7_feedersOf_5 rfl ?_
      refine g_getR (b := 2) C fX7_13 iX7_feedersOf_6 mh0 rfl ?_
      refine g_iconst C 3 iX7_feedersOf_9 (by decide) ?_
      refine g_ialoadL C 3 iX7_feedersOf_10 mh2 (by decide) (by decide) ?_
      refine g_icmp_ge C 45 iX7_feedersOf_11 (by decide) (fun c11 => ?_) (fun c11 => ?_)
      · refine g_sub (lv' := [none, none, some (.int x2), none]) ⟨rfl, trivial⟩ ?_
        exact hk45 _
      · refine g_iload_n C iX7_feedersOf_14 rfl ?_
        refine g_iload_n C iX7_feedersOf_15 rfl ?_
        refine g_aload_n C iX7_feedersOf_16 rfl ?_
        refine g_getR (b := 5) C fX7_22 iX7_feedersOf_17 mh0 rfl ?_
        refine g_iconst C 3 iX7_feedersOf_20 (by decide) ?_
        refine g_iload_n C iX7_feedersOf_21 rfl ?_
        refine g_imul C iX7_feedersOf_22 ?_
        refine g_iaload C iX7_feedersOf_23 mh5 ?_
        refine g_callS C wX7_66 iX7_feedersOf_24 (m_Mo_has x1 (h 5 (3 * x3).toNatClampNeg) h) (by decide) rfl rfl rfl (Nat.le_of_ble_eq_true rfl) (fun r => ?_)
        show zG X ad shM (eP h) 27 [some (.ref (ad 0)), some (.int x1), some (.int x2), some (.int x3)] [.int r, .int x2] h _
        refine g_if_eq C 36 iX7_feedersOf_27 (by decide) (fun c27 => ?_) (fun c27 => ?_)
        · refine g_iconst C 0 iX7_feedersOf_36 (by decide) ?_
          refine g_ior C iX7_feedersOf_37 ?_
          refine g_top (fun x2_1 => ?_)
          refine g_istore_n (lv' := [some (.ref (ad 0)), some (.int x1), some (.int x2_1), some (.int x3)]) C hnL iX7_feedersOf_38 (by decide) rfl ?_
          refine g_iinc (v := (x3 + 1)) (lv' := [some (.ref (ad 0)), some (.int x1), some (.int x2_1), some (.int (x3 + 1))]) C hnL iX7_feedersOf_39 (by decide) rfl rfl rfl ?_
          refine g_goto C 4 iX7_feedersOf_42 (by decide) ?_
          exact ih4 _ _
        · refine g_iconst C 1 iX7_feedersOf_30 (by decide) ?_
          refine g_iload_n C iX7_feedersOf_31 rfl ?_
          refine g_ishl C iX7_feedersOf_32 ?_
          refine g_goto C 37 iX7_feedersOf_33 (by decide) ?_
          refine g_ior C iX7_feedersOf_37 ?_
          refine g_top (fun x2_2 => ?_)
          refine g_istore_n (lv' := [some (.ref (ad 0)), some (.int x1), some (.int x2_2), some (.int x3)]) C hnL iX7_feedersOf_38 (by decide) rfl ?_
          refine g_iinc (v := (x3 + 1)) (lv' := [some (.ref (ad 0)), some (.int x1), some (.int x2_2), some (.int (x3 + 1))]) C hnL iX7_feedersOf_39 (by decide) rfl rfl rfl ?_
          refine g_goto C 4 iX7_feedersOf_42 (by decide) ?_
          exact ih4 _ _
  refine L4 _ (fun x2_3 => ?_) 1000 _ _
  show zG X ad shM (eP h) 45 [none, none, some (.int x2_3), none] [] h _
  refine g_iload_n C iX7_feedersOf_45 rfl ?_
  exact g_iret C iX7_feedersOf_46 rfl

theorem iX7_island_3 : zI cX7_island 3 (.invokevirtual 115) 3 6 := ⟨by decide +kernel, rfl⟩
theorem iX7_island_8 : zI cX7_island 8 (.invokestatic 82) 3 11 := ⟨by decide +kernel, rfl⟩
theorem iX7_island_11 : zI cX7_island 11 (.ifCond .eq 13) 3 14 := ⟨by decide +kernel, rfl⟩
theorem iX7_island_25 : zI cX7_island 25 (.ireturn) 1 26 := ⟨by decide +kernel, rfl⟩
theorem iX7_island_24 : zI cX7_island 24 (.iconst (-1)) 1 25 := ⟨by decide +kernel, rfl⟩
theorem iX7_island_18 : zI cX7_island 18 (.invokestatic 82) 3 21 := ⟨by decide +kernel, rfl⟩
theorem iX7_island_21 : zI cX7_island 21 (.ifCond .ne 5) 3 24 := ⟨by decide +kernel, rfl⟩
set_option maxRecDepth 100000 in
theorem wX7_188 : zCv RX7 188 yX7_busOf cX7_busOf 4 (some .int) 1 := ⟨⟨(zmem 1012 (by decide +kernel) (by decide +kernel)), (zmem 76 (by decide +kernel) (by decide +kernel)), (zmem 1015 rfl rfl), ⟨by decide, by decide, by decide +kernel⟩, by decide⟩, (zmem 1014 (by decide +kernel) (by decide +kernel)), (zmem 55 (by decide +kernel) (by decide +kernel))⟩
theorem iX7_island_28 : zI cX7_island 28 (.invokevirtual 188) 3 31 := ⟨by decide +kernel, rfl⟩
theorem iX7_island_34 : zI cX7_island 34 (.invokevirtual 51) 3 37 := ⟨by decide +kernel, rfl⟩
set_option maxRecDepth 100000 in
theorem wX7_191 : zCv RX7 191 yX7_feedersOf cX7_feedersOf 4 (some .int) 1 := ⟨⟨(zmem 1016 (by decide +kernel) (by decide +kernel)), (zmem 76 (by decide +kernel) (by decide +kernel)), (zmem 1019 rfl rfl), ⟨by decide, by decide, by decide +kernel⟩, by decide⟩, (zmem 1018 (by decide +kernel) (by decide +kernel)), (zmem 56 (by decide +kernel) (by decide +kernel))⟩
theorem iX7_island_42 : zI cX7_island 42 (.invokevirtual 191) 3 45 := ⟨by decide +kernel, rfl⟩
theorem iX7_island_48 : zI cX7_island 48 (.tableswitch 121 0 7 #[48, 51, 58, 65, 73, 81, 89, 104]) 48 96 := ⟨by decide +kernel, rfl⟩
theorem iX7_island_98 : zI cX7_island 98 (.ireturn) 1 99 := ⟨by decide +kernel, rfl⟩
theorem iX7_island_96 : zI cX7_island 96 (.iload 4) 2 98 := ⟨by decide +kernel, rfl⟩
theorem iX7_island_105 : zI cX7_island 105 (.ireturn) 1 106 := ⟨by decide +kernel, rfl⟩
theorem iX7_island_104 : zI cX7_island 104 (.iaload) 1 105 := ⟨by decide +kernel, rfl⟩
theorem iX7_island_103 : zI cX7_island 103 (.iload_n 3) 1 104 := ⟨by decide +kernel, rfl⟩
theorem iX7_island_100 : zI cX7_island 100 (.getfield 28) 3 103 := ⟨by decide +kernel, rfl⟩
theorem iX7_island_99 : zI cX7_island 99 (.aload_n 0) 1 100 := ⟨by decide +kernel, rfl⟩
theorem iX7_island_109 : zI cX7_island 109 (.invokevirtual 63) 3 112 := ⟨by decide +kernel, rfl⟩
theorem iX7_island_112 : zI cX7_island 112 (.ireturn) 1 113 := ⟨by decide +kernel, rfl⟩
theorem iX7_island_107 : zI cX7_island 107 (.iload 4) 2 109 := ⟨by decide +kernel, rfl⟩
theorem iX7_island_106 : zI cX7_island 106 (.aload_n 0) 1 107 := ⟨by decide +kernel, rfl⟩
theorem iX7_island_117 : zI cX7_island 117 (.invokevirtual 130) 3 120 := ⟨by decide +kernel, rfl⟩
theorem iX7_island_120 : zI cX7_island 120 (.ireturn) 1 121 := ⟨by decide +kernel, rfl⟩
theorem iX7_island_116 : zI cX7_island 116 (.iconst 0) 1 117 := ⟨by decide +kernel, rfl⟩
theorem iX7_island_114 : zI cX7_island 114 (.iload 4) 2 116 := ⟨by decide +kernel, rfl⟩
theorem iX7_island_113 : zI cX7_island 113 (.aload_n 0) 1 114 := ⟨by decide +kernel, rfl⟩
theorem iX7_island_125 : zI cX7_island 125 (.invokevirtual 130) 3 128 := ⟨by decide +kernel, rfl⟩
theorem iX7_island_128 : zI cX7_island 128 (.ireturn) 1 129 := ⟨by decide +kernel, rfl⟩
theorem iX7_island_124 : zI cX7_island 124 (.iconst 1) 1 125 := ⟨by decide +kernel, rfl⟩
theorem iX7_island_122 : zI cX7_island 122 (.iload 4) 2 124 := ⟨by decide +kernel, rfl⟩
theorem iX7_island_121 : zI cX7_island 121 (.aload_n 0) 1 122 := ⟨by decide +kernel, rfl⟩
theorem iX7_island_133 : zI cX7_island 133 (.invokevirtual 130) 3 136 := ⟨by decide +kernel, rfl⟩
theorem iX7_island_136 : zI cX7_island 136 (.ireturn) 1 137 := ⟨by decide +kernel, rfl⟩
theorem iX7_island_132 : zI cX7_island 132 (.iconst 3) 1 133 := ⟨by decide +kernel, rfl⟩
theorem iX7_island_130 : zI cX7_island 130 (.iload 4) 2 132 := ⟨by decide +kernel, rfl⟩
theorem iX7_island_129 : zI cX7_island 129 (.aload_n 0) 1 130 := ⟨by decide +kernel, rfl⟩
set_option maxRecDepth 100000 in
theorem wX7_194 : zCv RX7 194 yX7_bits cX7_bits 4 (some .int) 1 := ⟨⟨(zmem 1020 (by decide +kernel) (by decide +kernel)), (zmem 76 (by decide +kernel) (by decide +kernel)), (zmem 1023 rfl rfl), ⟨by decide, by decide, by decide +kernel⟩, by decide⟩, (zmem 1022 (by decide +kernel) (by decide +kernel)), (zmem 57 (by decide +kernel) (by decide +kernel))⟩
theorem iX7_island_148 : zI cX7_island 148 (.invokevirtual 194) 3 151 := ⟨by decide +kernel, rfl⟩
theorem iX7_island_151 : zI cX7_island 151 (.ireturn) 1 152 := ⟨by decide +kernel, rfl⟩
theorem iX7_island_147 : zI cX7_island 147 (.iand) 1 148 := ⟨by decide +kernel, rfl⟩
theorem iX7_island_146 : zI cX7_island 146 (.iaload) 1 147 := ⟨by decide +kernel, rfl⟩
theorem iX7_island_144 : zI cX7_island 144 (.bipush 42) 2 146 := ⟨by decide +kernel, rfl⟩
theorem iX7_island_141 : zI cX7_island 141 (.getfield 28) 3 144 := ⟨by decide +kernel, rfl⟩
theorem iX7_island_140 : zI cX7_island 140 (.aload_n 0) 1 141 := ⟨by decide +kernel, rfl⟩
theorem iX7_island_138 : zI cX7_island 138 (.iload 5) 2 140 := ⟨by decide +kernel, rfl⟩
theorem iX7_island_137 : zI cX7_island 137 (.aload_n 0) 1 138 := ⟨by decide +kernel, rfl⟩
theorem iX7_island_165 : zI cX7_island 165 (.invokevirtual 194) 3 168 := ⟨by decide +kernel, rfl⟩
theorem iX7_island_168 : zI cX7_island 168 (.ireturn) 1 169 := ⟨by decide +kernel, rfl⟩
theorem iX7_island_164 : zI cX7_island 164 (.iand) 1 165 := ⟨by decide +kernel, rfl⟩
theorem iX7_island_163 : zI cX7_island 163 (.ixor) 1 164 := ⟨by decide +kernel, rfl⟩
theorem iX7_island_162 : zI cX7_island 162 (.iconst (-1)) 1 163 := ⟨by decide +kernel, rfl⟩
theorem iX7_island_161 : zI cX7_island 161 (.iaload) 1 162 := ⟨by decide +kernel, rfl⟩
theorem iX7_island_159 : zI cX7_island 159 (.bipush 42) 2 161 := ⟨by decide +kernel, rfl⟩
theorem iX7_island_156 : zI cX7_island 156 (.getfield 28) 3 159 := ⟨by decide +kernel, rfl⟩
theorem iX7_island_155 : zI cX7_island 155 (.aload_n 0) 1 156 := ⟨by decide +kernel, rfl⟩
theorem iX7_island_153 : zI cX7_island 153 (.iload 5) 2 155 := ⟨by decide +kernel, rfl⟩
theorem iX7_island_152 : zI cX7_island 152 (.aload_n 0) 1 153 := ⟨by decide +kernel, rfl⟩
theorem iX7_island_175 : zI cX7_island 175 (.ifCond .ne 7) 3 178 := ⟨by decide +kernel, rfl⟩
theorem iX7_island_191 : zI cX7_island 191 (.invokevirtual 141) 3 194 := ⟨by decide +kernel, rfl⟩
theorem iX7_island_194 : zI cX7_island 194 (.ireturn) 1 195 := ⟨by decide +kernel, rfl⟩
theorem iX7_island_190 : zI cX7_island 190 (.iaload) 1 191 := ⟨by decide +kernel, rfl⟩
theorem iX7_island_189 : zI cX7_island 189 (.iload_n 3) 1 190 := ⟨by decide +kernel, rfl⟩
theorem iX7_island_186 : zI cX7_island 186 (.getfield 28) 3 189 := ⟨by decide +kernel, rfl⟩
theorem iX7_island_185 : zI cX7_island 185 (.aload_n 0) 1 186 := ⟨by decide +kernel, rfl⟩
theorem iX7_island_183 : zI cX7_island 183 (.iload 4) 2 185 := ⟨by decide +kernel, rfl⟩
theorem iX7_island_182 : zI cX7_island 182 (.aload_n 0) 1 183 := ⟨by decide +kernel, rfl⟩
theorem iX7_island_179 : zI cX7_island 179 (.goto 15) 3 182 := ⟨by decide +kernel, rfl⟩
theorem iX7_island_178 : zI cX7_island 178 (.iconst 0) 1 179 := ⟨by decide +kernel, rfl⟩
theorem iX7_island_174 : zI cX7_island 174 (.iaload) 1 175 := ⟨by decide +kernel, rfl⟩
theorem iX7_island_173 : zI cX7_island 173 (.iload_n 3) 1 174 := ⟨by decide +kernel, rfl⟩
theorem iX7_island_170 : zI cX7_island 170 (.getfield 28) 3 173 := ⟨by decide +kernel, rfl⟩
theorem iX7_island_169 : zI cX7_island 169 (.aload_n 0) 1 170 := ⟨by decide +kernel, rfl⟩
theorem iX7_island_47 : zI cX7_island 47 (.iload_n 2) 1 48 := ⟨by decide +kernel, rfl⟩
theorem iX7_island_45 : zI cX7_island 45 (.istore 5) 2 47 := ⟨by decide +kernel, rfl⟩
theorem iX7_island_40 : zI cX7_island 40 (.iload 4) 2 42 := ⟨by decide +kernel, rfl⟩
theorem iX7_island_39 : zI cX7_island 39 (.aload_n 0) 1 40 := ⟨by decide +kernel, rfl⟩
theorem iX7_island_37 : zI cX7_island 37 (.istore 4) 2 39 := ⟨by decide +kernel, rfl⟩
theorem iX7_island_33 : zI cX7_island 33 (.iload_n 3) 1 34 := ⟨by decide +kernel, rfl⟩
theorem iX7_island_32 : zI cX7_island 32 (.aload_n 0) 1 33 := ⟨by decide +kernel, rfl⟩
theorem iX7_island_31 : zI cX7_island 31 (.istore_n 3) 1 32 := ⟨by decide +kernel, rfl⟩
theorem iX7_island_27 : zI cX7_island 27 (.iload_n 1) 1 28 := ⟨by decide +kernel, rfl⟩
theorem iX7_island_26 : zI cX7_island 26 (.aload_n 0) 1 27 := ⟨by decide +kernel, rfl⟩
theorem iX7_island_16 : zI cX7_island 16 (.bipush 8) 2 18 := ⟨by decide +kernel, rfl⟩
theorem iX7_island_15 : zI cX7_island 15 (.iconst 0) 1 16 := ⟨by decide +kernel, rfl⟩
theorem iX7_island_14 : zI cX7_island 14 (.iload_n 2) 1 15 := ⟨by decide +kernel, rfl⟩
theorem iX7_island_7 : zI cX7_island 7 (.isub) 1 8 := ⟨by decide +kernel, rfl⟩
theorem iX7_island_6 : zI cX7_island 6 (.iconst 1) 1 7 := ⟨by decide +kernel, rfl⟩
theorem iX7_island_2 : zI cX7_island 2 (.aload_n 0) 1 3 := ⟨by decide +kernel, rfl⟩
theorem iX7_island_1 : zI cX7_island 1 (.iconst 0) 1 2 := ⟨by decide +kernel, rfl⟩
theorem iX7_island_0 : zI cX7_island 0 (.iload_n 1) 1 1 := ⟨by decide +kernel, rfl⟩
set_option maxHeartbeats 4000000 in
set_option maxRecDepth 100000 in
theorem m_Mo_island (x1 : Int32) (x2 : Int32) (h : zH) : zM yX7_island cX7_island 6 (some .int) 4 shM (fun ad => [.ref (ad 0), .int x1, .int x2]) h (eP h) (Mo_island x1 x2 h) := by
  refine zM.of (by decide) (fun _ => rfl) (fun _ => Nat.le_of_ble_eq_true rfl) (fun X ad hnL C => ?_)
  show zG X ad shM (eP h) 0 [some (.ref (ad 0)), some (.int x1), some (.int x2), none, none, none] [] h _
  unfold Mo_island
  refine g_iload_n C iX7_island_0 rfl ?_
  refine g_iconst C 0 iX7_island_1 (by decide) ?_
  refine g_aload_n C iX7_island_2 rfl ?_
  refine g_callV C wX7_115 iX7_island_3 (m_Mo_islands h) (by decide) mh0 rfl rfl rfl rfl (Nat.le_of_ble_eq_true rfl) (fun r => ?_)
  show zG X ad shM (eP h) 6 [some (.ref (ad 0)), some (.int x1), some (.int x2), none, none, none] [.int r, .int 0, .int x1] h _
  refine g_iconst C 1 iX7_island_6 (by decide) ?_
  refine g_isub C iX7_island_7 ?_
  refine g_callS C wX7_82 iX7_island_8 (m_Mo_isIn x1 0 (r - 1) h) (by decide) rfl rfl rfl (Nat.le_of_ble_eq_true rfl) (fun r_1 => ?_)
  show zG X ad shM (eP h) 11 [some (.ref (ad 0)), some (.int x1), some (.int x2), none, none, none] [.int r_1] h _
  refine g_if_eq C 24 iX7_island_11 (by decide) (fun c11 => ?_) (fun c11 => ?_)
  · refine g_iconst C (-1) iX7_island_24 (by decide) ?_
    exact g_iret C iX7_island_25 rfl
  · refine g_iload_n C iX7_island_14 rfl ?_
    refine g_iconst C 0 iX7_island_15 (by decide) ?_
    refine g_bipush C 8 iX7_island_16 (by decide) ?_
    refine g_callS C wX7_82 iX7_island_18 (m_Mo_isIn x2 0 8 h) (by decide) rfl rfl rfl (Nat.le_of_ble_eq_true rfl) (fun r_2 => ?_)
    show zG X ad shM (eP h) 21 [some (.ref (ad 0)), some (.int x1), some (.int x2), none, none, none] [.int r_2] h _
    refine g_if_ne C 26 iX7_island_21 (by decide) (fun c21 => ?_) (fun c21 => ?_)
    · refine g_iconst C (-1) iX7_island_24 (by decide) ?_
      exact g_iret C iX7_island_25 rfl
    · refine g_aload_n C iX7_island_26 rfl ?_
      refine g_iload_n C iX7_island_27 rfl ?_
      refine g_callV C wX7_188 iX7_island_28 (m_Mo_busOf x1 h) (by decide) mh0 rfl rfl rfl rfl (Nat.le_of_ble_eq_true rfl) (fun r_3 => ?_)
      show zG X ad shM (eP h) 31 [some (.ref (ad 0)), some (.int x1), some (.int x2), none, none, none] [.int r_3] h _
      refine g_istore_n (lv' := [some (.ref (ad 0)), some (.int x1), some (.int x2), some (.int r_3), none, none]) C hnL iX7_island_31 (by decide) rfl ?_
      refine g_aload_n C iX7_island_32 rfl ?_
      refine g_iload_n C iX7_island_33 rfl ?_
      refine g_callV C wX7_51 iX7_island_34 (m_Mo_busesOf r_3 h) (by decide) mh0 rfl rfl rfl rfl (Nat.le_of_ble_eq_true rfl) (fun r_4 => ?_)
      show zG X ad shM (eP h) 37 [some (.ref (ad 0)), some (.int x1), some (.int x2), some (.int r_3), none, none] [.int r_4] h _
      refine g_istore (lv' := [some (.ref (ad 0)), some (.int x1), some (.int x2), some (.int r_3), some (.int r_4), none]) C hnL iX7_island_37 (by decide) rfl ?_
      refine g_aload_n C iX7_island_39 rfl ?_
      refine g_iload C iX7_island_40 rfl ?_
      refine g_callV C wX7_191 iX7_island_42 (m_Mo_feedersOf r_4 h) (by decide) mh0 rfl rfl rfl rfl (Nat.le_of_ble_eq_true rfl) (fun r_5 => ?_)
      show zG X ad shM (eP h) 45 [some (.ref (ad 0)), some (.int x1), some (.int x2), some (.int r_3), some (.int r_4), none] [.int r_5] h _
      refine g_istore (lv' := [some (.ref (ad 0)), some (.int x1), some (.int x2), some (.int r_3), some (.int r_4), some (.int r_5)]) C hnL iX7_island_45 (by decide) rfl ?_
      refine g_iload_n C iX7_island_47 rfl ?_
      refine g_ite (fun c48 => ?_) (fun c48_0 => ?_)
      · refine g_tab C 96 iX7_island_48 (by rw [c48]; decide +kernel) ?_
        refine g_iload C iX7_island_96 rfl ?_
        exact g_iret C iX7_island_98 rfl
      refine g_ite (fun c48 => ?_) (fun c48_1 => ?_)
      · refine g_tab C 99 iX7_island_48 (by rw [c48]; decide +kernel) ?_
        refine g_aload_n C iX7_island_99 rfl ?_
        refine g_getR (b := 7) C fX7_28 iX7_island_100 mh0 rfl ?_
        refine g_iload_n C iX7_island_103 rfl ?_
        refine g_iaload C iX7_island_104 mh7 ?_
        exact g_iret C iX7_island_105 rfl
      refine g_ite (fun c48 => ?_) (fun c48_2 => ?_)
      · refine g_tab C 106 iX7_island_48 (by rw [c48]; decide +kernel) ?_
        refine g_aload_n C iX7_island_106 rfl ?_
        refine g_iload C iX7_island_107 rfl ?_
        refine g_callV C wX7_63 iX7_island_109 (m_Mo_load r_4 h) (by decide) mh0 rfl rfl rfl rfl (Nat.le_of_ble_eq_true rfl) (fun r_6 => ?_)
        show zG X ad shM (eP h) 112 [some (.ref (ad 0)), some (.int x1), some (.int x2), some (.int r_3), some (.int r_4), some (.int r_5)] [.int r_6] h _
        exact g_iret C iX7_island_112 rfl
      refine g_ite (fun c48 => ?_) (fun c48_3 => ?_)
      · refine g_tab C 113 iX7_island_48 (by rw [c48]; decide +kernel) ?_
        refine g_aload_n C iX7_island_113 rfl ?_
        refine g_iload C iX7_island_114 rfl ?_
        refine g_iconst C 0 iX7_island_116 (by decide) ?_
        refine g_callV C wX7_130 iX7_island_117 (m_Mo_plants r_4 0 h) (by decide) mh0 rfl rfl rfl rfl (Nat.le_of_ble_eq_true rfl) (fun r_7 => ?_)
        show zG X ad shM (eP h) 120 [some (.ref (ad 0)), some (.int x1), some (.int x2), some (.int r_3), some (.int r_4), some (.int r_5)] [.int r_7] h _
        exact g_iret C iX7_island_120 rfl
      refine g_ite (fun c48 => ?_) (fun c48_4 => ?_)
      · refine g_tab C 121 iX7_island_48 (by rw [c48]; decide +kernel) ?_
        refine g_aload_n C iX7_island_121 rfl ?_
        refine g_iload C iX7_island_122 rfl ?_
        refine g_iconst C 1 iX7_island_124 (by decide) ?_
        refine g_callV C wX7_130 iX7_island_125 (m_Mo_plants r_4 1 h) (by decide) mh0 rfl rfl rfl rfl (Nat.le_of_ble_eq_true rfl) (fun r_8 => ?_)
        show zG X ad shM (eP h) 128 [some (.ref (ad 0)), some (.int x1), some (.int x2), some (.int r_3), some (.int r_4), some (.int r_5)] [.int r_8] h _
        exact g_iret C iX7_island_128 rfl
      refine g_ite (fun c48 => ?_) (fun c48_5 => ?_)
      · refine g_tab C 129 iX7_island_48 (by rw [c48]; decide +kernel) ?_
        refine g_aload_n C iX7_island_129 rfl ?_
        refine g_iload C iX7_island_130 rfl ?_
        refine g_iconst C 3 iX7_island_132 (by decide) ?_
        refine g_callV C wX7_130 iX7_island_133 (m_Mo_plants r_4 3 h) (by decide) mh0 rfl rfl rfl rfl (Nat.le_of_ble_eq_true rfl) (fun r_9 => ?_)
        show zG X ad shM (eP h) 136 [some (.ref (ad 0)), some (.int x1), some (.int x2), some (.int r_3), some (.int r_4), some (.int r_5)] [.int r_9] h _
        exact g_iret C iX7_island_136 rfl
      refine g_ite (fun c48 => ?_) (fun c48_6 => ?_)
      · refine g_tab C 137 iX7_island_48 (by rw [c48]; decide +kernel) ?_
        refine g_aload_n C iX7_island_137 rfl ?_
        refine g_iload C iX7_island_138 rfl ?_
        refine g_aload_n C iX7_island_140 rfl ?_
        refine g_getR (b := 7) C fX7_28 iX7_island_141 mh0 rfl ?_
        refine g_bipush C 42 iX7_island_144 (by decide) ?_
        refine g_ialoadL C 42 iX7_island_146 mh7 (by decide) (by decide) ?_
        refine g_iand C iX7_island_147 ?_
        refine g_callV C wX7_194 iX7_island_148 (m_Mo_bits (r_5 &&& (h 7 42)) h) (by decide) mh0 rfl rfl rfl rfl (Nat.le_of_ble_eq_true rfl) (fun r_10 => ?_)
        show zG X ad shM (eP h) 151 [some (.ref (ad 0)), some (.int x1), some (.int x2), some (.int r_3), some (.int r_4), some (.int r_5)] [.int r_10] h _
        exact g_iret C iX7_island_151 rfl
      refine g_ite (fun c48 => ?_) (fun c48_7 => ?_)
      · refine g_tab C 152 iX7_island_48 (by rw [c48]; decide +kernel) ?_
        refine g_aload_n C iX7_island_152 rfl ?_
        refine g_iload C iX7_island_153 rfl ?_
        refine g_aload_n C iX7_island_155 rfl ?_
        refine g_getR (b := 7) C fX7_28 iX7_island_156 mh0 rfl ?_
        refine g_bipush C 42 iX7_island_159 (by decide) ?_
        refine g_ialoadL C 42 iX7_island_161 mh7 (by decide) (by decide) ?_
        refine g_iconst C (-1) iX7_island_162 (by decide) ?_
        refine g_ixor C iX7_island_163 ?_
        refine g_iand C iX7_island_164 ?_
        refine g_callV C wX7_194 iX7_island_165 (m_Mo_bits (r_5 &&& ((h 7 42) ^^^ (-1))) h) (by decide) mh0 rfl rfl rfl rfl (Nat.le_of_ble_eq_true rfl) (fun r_11 => ?_)
        show zG X ad shM (eP h) 168 [some (.ref (ad 0)), some (.int x1), some (.int x2), some (.int r_3), some (.int r_4), some (.int r_5)] [.int r_11] h _
        exact g_iret C iX7_island_168 rfl
      refine g_tab C 169 iX7_island_48 ((zTg_def [0, 1, 2, 3, 4, 5, 6, 7] (List.forall_mem_cons.mpr ⟨fun z9 => c48_0 (Int32.toInt_inj.mp (z9.trans (by decide))), List.forall_mem_cons.mpr ⟨fun z9 => c48_1 (Int32.toInt_inj.mp (z9.trans (by decide))), List.forall_mem_cons.mpr ⟨fun z9 => c48_2 (Int32.toInt_inj.mp (z9.trans (by decide))), List.forall_mem_cons.mpr ⟨fun z9 => c48_3 (Int32.toInt_inj.mp (z9.trans (by decide))), List.forall_mem_cons.mpr ⟨fun z9 => c48_4 (Int32.toInt_inj.mp (z9.trans (by decide))), List.forall_mem_cons.mpr ⟨fun z9 => c48_5 (Int32.toInt_inj.mp (z9.trans (by decide))), List.forall_mem_cons.mpr ⟨fun z9 => c48_6 (Int32.toInt_inj.mp (z9.trans (by decide))), List.forall_mem_cons.mpr ⟨fun z9 => c48_7 (Int32.toInt_inj.mp (z9.trans (by decide))), fun _ h9 => by cases h9⟩⟩⟩⟩⟩⟩⟩⟩) (by decide +kernel)).trans (by decide)) ?_
      refine g_aload_n C iX7_island_169 rfl ?_
      refine g_getR (b := 7) C fX7_28 iX7_island_170 mh0 rfl ?_
      refine g_iload_n C iX7_island_173 rfl ?_
      refine g_iaload C iX7_island_174 mh7 ?_
      refine g_if_ne C 182 iX7_island_175 (by decide) (fun c175 => ?_) (fun c175 => ?_)
      · refine g_iconst C 0 iX7_island_178 (by decide) ?_
        refine g_goto C 194 iX7_island_179 (by decide) ?_
        exact g_iret C iX7_island_194 rfl
      · refine g_aload_n C iX7_island_182 rfl ?_
        refine g_iload C iX7_island_183 rfl ?_
        refine g_aload_n C iX7_island_185 rfl ?_
        refine g_getR (b := 7) C fX7_28 iX7_island_186 mh0 rfl ?_
        refine g_iload_n C iX7_island_189 rfl ?_
        refine g_iaload C iX7_island_190 mh7 ?_
        refine g_callV C wX7_141 iX7_island_191 (m_Mo_aim r_4 (h 7 r_3.toNatClampNeg) h) (by decide) mh0 rfl rfl rfl rfl (Nat.le_of_ble_eq_true rfl) (fun r_12 => ?_)
        show zG X ad shM (eP h) 194 [some (.ref (ad 0)), some (.int x1), some (.int x2), some (.int r_3), some (.int r_4), some (.int r_5)] [.int r_12] h _
        exact g_iret C iX7_island_194 rfl

theorem iX7_counted_3 : zI cX7_counted 3 (.invokevirtual 115) 3 6 := ⟨by decide +kernel, rfl⟩
theorem iX7_counted_8 : zI cX7_counted 8 (.invokestatic 82) 3 11 := ⟨by decide +kernel, rfl⟩
theorem iX7_counted_11 : zI cX7_counted 11 (.ifCond .eq 17) 3 14 := ⟨by decide +kernel, rfl⟩
theorem iX7_counted_29 : zI cX7_counted 29 (.ireturn) 1 30 := ⟨by decide +kernel, rfl⟩
theorem iX7_counted_28 : zI cX7_counted 28 (.iconst (-1)) 1 29 := ⟨by decide +kernel, rfl⟩
theorem iX7_counted_22 : zI cX7_counted 22 (.invokestatic 82) 3 25 := ⟨by decide +kernel, rfl⟩
theorem iX7_counted_25 : zI cX7_counted 25 (.ifCond .ne 5) 3 28 := ⟨by decide +kernel, rfl⟩
theorem iX7_counted_40 : zI cX7_counted 40 (.invokevirtual 188) 3 43 := ⟨by decide +kernel, rfl⟩
theorem iX7_counted_48 : zI cX7_counted 48 (.ireturn) 1 49 := ⟨by decide +kernel, rfl⟩
theorem iX7_counted_47 : zI cX7_counted 47 (.iaload) 1 48 := ⟨by decide +kernel, rfl⟩
theorem iX7_counted_46 : zI cX7_counted 46 (.iadd) 1 47 := ⟨by decide +kernel, rfl⟩
theorem iX7_counted_45 : zI cX7_counted 45 (.iload_n 2) 1 46 := ⟨by decide +kernel, rfl⟩
theorem iX7_counted_44 : zI cX7_counted 44 (.iadd) 1 45 := ⟨by decide +kernel, rfl⟩
theorem iX7_counted_43 : zI cX7_counted 43 (.imul) 1 44 := ⟨by decide +kernel, rfl⟩
theorem iX7_counted_39 : zI cX7_counted 39 (.iload_n 1) 1 40 := ⟨by decide +kernel, rfl⟩
theorem iX7_counted_38 : zI cX7_counted 38 (.aload_n 0) 1 39 := ⟨by decide +kernel, rfl⟩
theorem iX7_counted_36 : zI cX7_counted 36 (.bipush 6) 2 38 := ⟨by decide +kernel, rfl⟩
theorem iX7_counted_34 : zI cX7_counted 34 (.bipush 6) 2 36 := ⟨by decide +kernel, rfl⟩
theorem iX7_counted_31 : zI cX7_counted 31 (.getfield 28) 3 34 := ⟨by decide +kernel, rfl⟩
theorem iX7_counted_30 : zI cX7_counted 30 (.aload_n 0) 1 31 := ⟨by decide +kernel, rfl⟩
theorem iX7_counted_21 : zI cX7_counted 21 (.iaload) 1 22 := ⟨by decide +kernel, rfl⟩
theorem iX7_counted_20 : zI cX7_counted 20 (.iconst 4) 1 21 := ⟨by decide +kernel, rfl⟩
theorem iX7_counted_17 : zI cX7_counted 17 (.getfield 13) 3 20 := ⟨by decide +kernel, rfl⟩
theorem iX7_counted_16 : zI cX7_counted 16 (.aload_n 0) 1 17 := ⟨by decide +kernel, rfl⟩
theorem iX7_counted_15 : zI cX7_counted 15 (.iconst 0) 1 16 := ⟨by decide +kernel, rfl⟩
theorem iX7_counted_14 : zI cX7_counted 14 (.iload_n 2) 1 15 := ⟨by decide +kernel, rfl⟩
theorem iX7_counted_7 : zI cX7_counted 7 (.isub) 1 8 := ⟨by decide +kernel, rfl⟩
theorem iX7_counted_6 : zI cX7_counted 6 (.iconst 1) 1 7 := ⟨by decide +kernel, rfl⟩
theorem iX7_counted_2 : zI cX7_counted 2 (.aload_n 0) 1 3 := ⟨by decide +kernel, rfl⟩
theorem iX7_counted_1 : zI cX7_counted 1 (.iconst 0) 1 2 := ⟨by decide +kernel, rfl⟩
theorem iX7_counted_0 : zI cX7_counted 0 (.iload_n 1) 1 1 := ⟨by decide +kernel, rfl⟩
set_option maxHeartbeats 4000000 in
set_option maxRecDepth 100000 in
theorem m_Mo_counted (x1 : Int32) (x2 : Int32) (h : zH) : zM yX7_counted cX7_counted 3 (some .int) 4 shM (fun ad => [.ref (ad 0), .int x1, .int x2]) h (eP h) (Mo_counted x1 x2 h) := by
  refine zM.of (by decide) (fun _ => rfl) (fun _ => Nat.le_of_ble_eq_true rfl) (fun X ad hnL C => ?_)
  show zG X ad shM (eP h) 0 [some (.ref (ad 0)), some (.int x1), some (.int x2)] [] h _
  unfold Mo_counted
  refine g_iload_n C iX7_counted_0 rfl ?_
  refine g_iconst C 0 iX7_counted_1 (by decide) ?_
  refine g_aload_n C iX7_counted_2 rfl ?_
  refine g_callV C wX7_115 iX7_counted_3 (m_Mo_islands h) (by decide) mh0 rfl rfl rfl rfl (Nat.le_of_ble_eq_true rfl) (fun r => ?_)
  show zG X ad shM (eP h) 6 [some (.ref (ad 0)), some (.int x1), some (.int x2)] [.int r, .int 0, .int x1] h _
  refine g_iconst C 1 iX7_counted_6 (by decide) ?_
  refine g_isub C iX7_counted_7 ?_
  refine g_callS C wX7_82 iX7_counted_8 (m_Mo_isIn x1 0 (r - 1) h) (by decide) rfl rfl rfl (Nat.le_of_ble_eq_true rfl) (fun r_1 => ?_)
  show zG X ad shM (eP h) 11 [some (.ref (ad 0)), some (.int x1), some (.int x2)] [.int r_1] h _
  refine g_if_eq C 28 iX7_counted_11 (by decide) (fun c11 => ?_) (fun c11 => ?_)
  · refine g_iconst C (-1) iX7_counted_28 (by decide) ?_
    exact g_iret C iX7_counted_29 rfl
  · refine g_iload_n C iX7_counted_14 rfl ?_
    refine g_iconst C 0 iX7_counted_15 (by decide) ?_
    refine g_aload_n C iX7_counted_16 rfl ?_
    refine g_getR (b := 2) C fX7_13 iX7_counted_17 mh0 rfl ?_
    refine g_iconst C 4 iX7_counted_20 (by decide) ?_
    refine g_ialoadL C 4 iX7_counted_21 mh2 (by decide) (by decide) ?_
    refine g_callS C wX7_82 iX7_counted_22 (m_Mo_isIn x2 0 (h 2 4) h) (by decide) rfl rfl rfl (Nat.le_of_ble_eq_true rfl) (fun r_2 => ?_)
    show zG X ad shM (eP h) 25 [some (.ref (ad 0)), some (.int x1), some (.int x2)] [.int r_2] h _
    refine g_if_ne C 30 iX7_counted_25 (by decide) (fun c25 => ?_) (fun c25 => ?_)
    · refine g_iconst C (-1) iX7_counted_28 (by decide) ?_
      exact g_iret C iX7_counted_29 rfl
    · refine g_aload_n C iX7_counted_30 rfl ?_
      refine g_getR (b := 7) C fX7_28 iX7_counted_31 mh0 rfl ?_
      refine g_bipush C 6 iX7_counted_34 (by decide) ?_
      refine g_bipush C 6 iX7_counted_36 (by decide) ?_
      refine g_aload_n C iX7_counted_38 rfl ?_
      refine g_iload_n C iX7_counted_39 rfl ?_
      refine g_callV C wX7_188 iX7_counted_40 (m_Mo_busOf x1 h) (by decide) mh0 rfl rfl rfl rfl (Nat.le_of_ble_eq_true rfl) (fun r_3 => ?_)
      show zG X ad shM (eP h) 43 [some (.ref (ad 0)), some (.int x1), some (.int x2)] [.int r_3, .int 6, .int 6, .ref (ad 7)] h _
      refine g_imul C iX7_counted_43 ?_
      refine g_iadd C iX7_counted_44 ?_
      refine g_iload_n C iX7_counted_45 rfl ?_
      refine g_iadd C iX7_counted_46 ?_
      refine g_iaload C iX7_counted_47 mh7 ?_
      exact g_iret C iX7_counted_48 rfl

