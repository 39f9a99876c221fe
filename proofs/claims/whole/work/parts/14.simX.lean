theorem iX6_tick_2 : zI cX6_tick 2 (.if_icmp .lt 9) 3 5 := ⟨by decide +kernel, rfl⟩
theorem iX6_tick_12 : zI cX6_tick 12 (.ireturn) 1 13 := ⟨by decide +kernel, rfl⟩
theorem iX6_tick_11 : zI cX6_tick 11 (.iconst (-1)) 1 12 := ⟨by decide +kernel, rfl⟩
theorem iX6_tick_8 : zI cX6_tick 8 (.if_icmp .le 5) 3 11 := ⟨by decide +kernel, rfl⟩
theorem fX6_100 : zFl RX6 100 1 11 := ⟨RX1, TX1, 12, rfl, by decide, (zmem 232 (by decide +kernel) (by decide +kernel)), u_inX1⟩
theorem iX6_tick_25 : zI cX6_tick 25 (.if_icmp .le 6) 3 28 := ⟨by decide +kernel, rfl⟩
set_option maxRecDepth 100000 in
theorem wX6_103 : zCv RX6 103 yX3_keep cX3_keep 2 none 1 := ⟨⟨(zmem 508 (by decide +kernel) (by decide +kernel)), (zmem 69 (by decide +kernel) (by decide +kernel)), (zmem 511 rfl rfl), ⟨by decide, by decide, by decide +kernel⟩, by decide⟩, (zmem 509 (by decide +kernel) (by decide +kernel)), (zmem 510 (by decide +kernel) (by decide +kernel))⟩
theorem iX6_tick_39 : zI cX6_tick 39 (.invokevirtual 103) 3 42 := ⟨by decide +kernel, rfl⟩
theorem fX6_50 : zFl RX6 50 6 6 := ⟨RX6, TX6, 9, rfl, by decide, (zmem 457 (by decide +kernel) (by decide +kernel)), u_inX6⟩
set_option maxRecDepth 100000 in
theorem wX6_107 : zCv RX6 107 yX0_forget cX0_forget 1 none 0 := ⟨⟨(zmem 517 (by decide +kernel) (by decide +kernel)), (zmem 68 (by decide +kernel) (by decide +kernel)), (zmem 520 rfl rfl), ⟨by decide, by decide, by decide +kernel⟩, by decide⟩, (zmem 518 (by decide +kernel) (by decide +kernel)), (zmem 519 (by decide +kernel) (by decide +kernel))⟩
theorem iX6_tick_46 : zI cX6_tick 46 (.invokevirtual 107) 3 49 := ⟨by decide +kernel, rfl⟩
theorem iX6_tick_53 : zI cX6_tick 53 (.if_icmp .ge 16) 3 56 := ⟨by decide +kernel, rfl⟩
set_option maxRecDepth 100000 in
theorem wX6_110 : zCv RX6 110 yX0_pass cX0_pass 2 none 0 := ⟨⟨(zmem 521 (by decide +kernel) (by decide +kernel)), (zmem 68 (by decide +kernel) (by decide +kernel)), (zmem 524 rfl rfl), ⟨by decide, by decide, by decide +kernel⟩, by decide⟩, (zmem 522 (by decide +kernel) (by decide +kernel)), (zmem 523 (by decide +kernel) (by decide +kernel))⟩
theorem iX6_tick_60 : zI cX6_tick 60 (.invokevirtual 110) 3 63 := ⟨by decide +kernel, rfl⟩
theorem iX6_tick_66 : zI cX6_tick 66 (.goto (-15)) 3 69 := ⟨by decide +kernel, rfl⟩
theorem iX6_tick_63 : zI cX6_tick 63 (.iinc 2 1) 3 66 := ⟨by decide +kernel, rfl⟩
theorem iX6_tick_57 : zI cX6_tick 57 (.getfield 50) 3 60 := ⟨by decide +kernel, rfl⟩
theorem iX6_tick_56 : zI cX6_tick 56 (.aload_n 0) 1 57 := ⟨by decide +kernel, rfl⟩
theorem iX6_tick_52 : zI cX6_tick 52 (.iload_n 1) 1 53 := ⟨by decide +kernel, rfl⟩
theorem iX6_tick_51 : zI cX6_tick 51 (.iload_n 2) 1 52 := ⟨by decide +kernel, rfl⟩
theorem fX6_113 : zFl RX6 113 0 2 := ⟨RX0, TX0, 5, rfl, by decide, (zmem 267 (by decide +kernel) (by decide +kernel)), u_inX0⟩
theorem iX6_tick_76 : zI cX6_tick 76 (.ireturn) 1 77 := ⟨by decide +kernel, rfl⟩
theorem iX6_tick_73 : zI cX6_tick 73 (.getfield 113) 3 76 := ⟨by decide +kernel, rfl⟩
theorem iX6_tick_70 : zI cX6_tick 70 (.getfield 50) 3 73 := ⟨by decide +kernel, rfl⟩
theorem iX6_tick_69 : zI cX6_tick 69 (.aload_n 0) 1 70 := ⟨by decide +kernel, rfl⟩
theorem iX6_tick_50 : zI cX6_tick 50 (.istore_n 2) 1 51 := ⟨by decide +kernel, rfl⟩
theorem iX6_tick_49 : zI cX6_tick 49 (.iconst 0) 1 50 := ⟨by decide +kernel, rfl⟩
theorem iX6_tick_43 : zI cX6_tick 43 (.getfield 50) 3 46 := ⟨by decide +kernel, rfl⟩
theorem iX6_tick_42 : zI cX6_tick 42 (.aload_n 0) 1 43 := ⟨by decide +kernel, rfl⟩
theorem iX6_tick_36 : zI cX6_tick 36 (.getfield 38) 3 39 := ⟨by decide +kernel, rfl⟩
theorem iX6_tick_35 : zI cX6_tick 35 (.aload_n 0) 1 36 := ⟨by decide +kernel, rfl⟩
theorem iX6_tick_32 : zI cX6_tick 32 (.getfield 60) 3 35 := ⟨by decide +kernel, rfl⟩
theorem iX6_tick_31 : zI cX6_tick 31 (.aload_n 0) 1 32 := ⟨by decide +kernel, rfl⟩
theorem iX6_tick_30 : zI cX6_tick 30 (.ireturn) 1 31 := ⟨by decide +kernel, rfl⟩
theorem iX6_tick_28 : zI cX6_tick 28 (.bipush (-2)) 2 30 := ⟨by decide +kernel, rfl⟩
theorem iX6_tick_22 : zI cX6_tick 22 (.sipush 9999) 3 25 := ⟨by decide +kernel, rfl⟩
theorem iX6_tick_21 : zI cX6_tick 21 (.iadd) 1 22 := ⟨by decide +kernel, rfl⟩
theorem iX6_tick_20 : zI cX6_tick 20 (.iload_n 1) 1 21 := ⟨by decide +kernel, rfl⟩
theorem iX6_tick_17 : zI cX6_tick 17 (.getfield 100) 3 20 := ⟨by decide +kernel, rfl⟩
theorem iX6_tick_14 : zI cX6_tick 14 (.getfield 38) 3 17 := ⟨by decide +kernel, rfl⟩
theorem iX6_tick_13 : zI cX6_tick 13 (.aload_n 0) 1 14 := ⟨by decide +kernel, rfl⟩
theorem iX6_tick_6 : zI cX6_tick 6 (.bipush 60) 2 8 := ⟨by decide +kernel, rfl⟩
theorem iX6_tick_5 : zI cX6_tick 5 (.iload_n 1) 1 6 := ⟨by decide +kernel, rfl⟩
theorem iX6_tick_1 : zI cX6_tick 1 (.iconst 1) 1 2 := ⟨by decide +kernel, rfl⟩
theorem iX6_tick_0 : zI cX6_tick 0 (.iload_n 1) 1 1 := ⟨by decide +kernel, rfl⟩
set_option maxHeartbeats 4000000 in
set_option maxRecDepth 100000 in
theorem m_SS_tick (x1 : Int32) (h : zH) : zM yX6_tick cX6_tick 3 (some .int) 6 shX (fun ad => [.ref (ad 0), .int x1]) h eI (SS_tick x1 h) := by
  refine zM.of (by decide) (fun _ => rfl) (fun _ => Nat.le_of_ble_eq_true rfl) (fun X ad hnL C => ?_)
  show zG X ad shX eI 0 [some (.ref (ad 0)), some (.int x1), none] [] h _
  unfold SS_tick
  refine g_iload_n C iX6_tick_0 rfl ?_
  refine g_iconst C 1 iX6_tick_1 (by decide) ?_
  refine g_icmp_lt C 11 iX6_tick_2 (by decide) (fun c2 => ?_) (fun c2 => ?_)
  · refine g_iconst C (-1) iX6_tick_11 (by decide) ?_
    exact g_iret C iX6_tick_12 rfl
  · refine g_iload_n C iX6_tick_5 rfl ?_
    refine g_bipush C 60 iX6_tick_6 (by decide) ?_
    refine g_icmp_le C 13 iX6_tick_8 (by decide) (fun c8 => ?_) (fun c8 => ?_)
    · refine g_aload_n C iX6_tick_13 rfl ?_
      refine g_getR (b := 29) C fX6_38 iX6_tick_14 sh0 rfl ?_
      refine g_getI C fX6_100 iX6_tick_17 isG29.1 rfl ?_
      refine g_iload_n C iX6_tick_20 rfl ?_
      refine g_iadd C iX6_tick_21 ?_
      refine g_sipush C 9999 iX6_tick_22 (by decide) ?_
      refine g_icmp_le C 31 iX6_tick_25 (by decide) (fun c25 => ?_) (fun c25 => ?_)
      · refine g_aload_n C iX6_tick_31 rfl ?_
        refine g_getR (b := 47) C fX6_60 iX6_tick_32 sh0 rfl ?_
        refine g_aload_n C iX6_tick_35 rfl ?_
        refine g_getR (b := 29) C fX6_38 iX6_tick_36 sh0 rfl ?_
        refine g_callV C wX6_103 iX6_tick_39 (m_Pa_keep 29 isG29 h) (by decide) sh47 rfl rfl rfl rfl (Nat.le_of_ble_eq_true rfl) (fun h_1 => ?_)
        show zG X ad shX eI 42 [some (.ref (ad 0)), some (.int x1), none] [] h_1 _
        refine g_aload_n C iX6_tick_42 rfl ?_
        refine g_getR (b := 45) C fX6_50 iX6_tick_43 sh0 rfl ?_
        refine g_callV C wX6_107 iX6_tick_46 (m_Co_forget 45 29 isC45 isG29 h_1) (by decide) isC45 rfl rfl rfl rfl (Nat.le_of_ble_eq_true rfl) (fun h_2 => ?_)
        show zG X ad shX eI 49 [some (.ref (ad 0)), some (.int x1), none] [] h_2 _
        refine g_iconst C 0 iX6_tick_49 (by decide) ?_
        refine g_istore_n (lv' := [some (.ref (ad 0)), some (.int x1), some (.int 0)]) C hnL iX6_tick_50 (by decide) rfl ?_
        have L51 : ∀ (k69 : zH → Option (Int32 × zH)), (∀ (hy : zH), zG X ad shX eI 69 [some (.ref (ad 0)), none, none] [] hy (k69 hy)) → ∀ (n : Nat) (x2 : Int32) (h_3 : zH), zG X ad shX eI 51 [some (.ref (ad 0)), some (.int x1), some (.int x2)] [] h_3 (SS_tick_L51 x1 k69 n x2 h_3) := by
          intro k69 hk69 n
          induction n with
          | zero =>
            intro x2 h_3
            exact g_none
          | succ n ih51 =>
            intro x2 h_3
            rw [SS_tick_L51]
            refine g_iload_n C iX6_tick_51 rfl ?_
            refine g_iload_n C iX6_tick_52 rfl ?_
            refine g_icmp_ge C 69 iX6_tick_53 (by decide) (fun c53 => ?_) (fun c53 => ?_)
            · refine g_sub (lv' := [some (.ref (ad 0)), none, none]) ⟨rfl, trivial⟩ ?_
              exact hk69 _
            · refine g_aload_n C iX6_tick_56 rfl ?_
              refine g_getR (b := 45) C fX6_50 iX6_tick_57 sh0 rfl ?_
              refine g_callV C wX6_110 iX6_tick_60 (m_Co_pass 45 29 isC45 isG29 h_3) (by decide) isC45 rfl rfl rfl rfl (Nat.le_of_ble_eq_true rfl) (fun h_4 => ?_)
              show zG X ad shX eI 63 [some (.ref (ad 0)), some (.int x1), some (.int x2)] [] h_4 _
              refine g_iinc (v := (x2 + 1)) (lv' := [some (.ref (ad 0)), some (.int x1), some (.int (x2 + 1))]) C hnL iX6_tick_63 (by decide) rfl rfl rfl ?_
              refine g_goto C 51 iX6_tick_66 (by decide) ?_
              exact ih51 _ _
        refine L51 _ (fun h_5 => ?_) 1000 _ _
        show zG X ad shX eI 69 [some (.ref (ad 0)), none, none] [] h_5 _
        refine g_aload_n C iX6_tick_69 rfl ?_
        refine g_getR (b := 45) C fX6_50 iX6_tick_70 sh0 rfl ?_
        refine g_getI C fX6_113 iX6_tick_73 isC45 rfl ?_
        exact g_iret C iX6_tick_76 rfl
      · refine g_bipush C (-2) iX6_tick_28 (by decide) ?_
        exact g_iret C iX6_tick_30 rfl
    · refine g_iconst C (-1) iX6_tick_11 (by decide) ?_
      exact g_iret C iX6_tick_12 rfl

theorem iX6_isSwitch_1 : zI cX6_isSwitch 1 (.ifCond .eq 8) 3 4 := ⟨by decide +kernel, rfl⟩
theorem iX6_isSwitch_14 : zI cX6_isSwitch 14 (.ireturn) 1 15 := ⟨by decide +kernel, rfl⟩
theorem iX6_isSwitch_10 : zI cX6_isSwitch 10 (.goto 4) 3 13 := ⟨by decide +kernel, rfl⟩
theorem iX6_isSwitch_9 : zI cX6_isSwitch 9 (.iconst 1) 1 10 := ⟨by decide +kernel, rfl⟩
theorem iX6_isSwitch_6 : zI cX6_isSwitch 6 (.if_icmp .ne 7) 3 9 := ⟨by decide +kernel, rfl⟩
theorem iX6_isSwitch_13 : zI cX6_isSwitch 13 (.iconst 0) 1 14 := ⟨by decide +kernel, rfl⟩
theorem iX6_isSwitch_5 : zI cX6_isSwitch 5 (.iconst 1) 1 6 := ⟨by decide +kernel, rfl⟩
theorem iX6_isSwitch_4 : zI cX6_isSwitch 4 (.iload_n 0) 1 5 := ⟨by decide +kernel, rfl⟩
theorem iX6_isSwitch_0 : zI cX6_isSwitch 0 (.iload_n 0) 1 1 := ⟨by decide +kernel, rfl⟩
set_option maxHeartbeats 4000000 in
set_option maxRecDepth 100000 in
theorem m_SS_isSwitch (x0 : Int32) (h : zH) : zM yX6_isSwitch cX6_isSwitch 1 (some .boolean) 0 shX (fun ad => [.int x0]) h (eP h) (SS_isSwitch x0) := by
  refine zM.of (by decide) (fun _ => rfl) (fun _ => Nat.le_of_ble_eq_true rfl) (fun X ad hnL C => ?_)
  show zG X ad shX (eP h) 0 [some (.int x0)] [] h _
  unfold SS_isSwitch
  refine g_iload_n C iX6_isSwitch_0 rfl ?_
  refine g_if_eq C 9 iX6_isSwitch_1 (by decide) (fun c1 => ?_) (fun c1 => ?_)
  · refine g_iconst C 1 iX6_isSwitch_9 (by decide) ?_
    refine g_goto C 14 iX6_isSwitch_10 (by decide) ?_
    exact g_zret C iX6_isSwitch_14 rfl rfl
  · refine g_iload_n C iX6_isSwitch_4 rfl ?_
    refine g_iconst C 1 iX6_isSwitch_5 (by decide) ?_
    refine g_icmp_ne C 13 iX6_isSwitch_6 (by decide) (fun c6 => ?_) (fun c6 => ?_)
    · refine g_iconst C 1 iX6_isSwitch_9 (by decide) ?_
      refine g_goto C 14 iX6_isSwitch_10 (by decide) ?_
      exact g_zret C iX6_isSwitch_14 rfl rfl
    · refine g_iconst C 0 iX6_isSwitch_13 (by decide) ?_
      exact g_zret C iX6_isSwitch_14 rfl rfl

theorem iX6_link_1 : zI cX6_link 1 (.ifCond .lt 21) 3 4 := ⟨by decide +kernel, rfl⟩
theorem iX6_link_23 : zI cX6_link 23 (.ireturn) 1 24 := ⟨by decide +kernel, rfl⟩
theorem iX6_link_22 : zI cX6_link 22 (.iconst (-1)) 1 23 := ⟨by decide +kernel, rfl⟩
theorem fX6_116 : zFl RX6 116 4 1 := ⟨RX4, TX4, 16, rfl, by decide, (zmem 125 (by decide +kernel) (by decide +kernel)), u_inX4⟩
theorem iX6_link_12 : zI cX6_link 12 (.if_icmp .ge 10) 3 15 := ⟨by decide +kernel, rfl⟩
set_option maxRecDepth 100000 in
theorem wX6_119 : zCs RX6 119 yX6_isSwitch cX6_isSwitch 1 (some .boolean) 1 := ⟨⟨(zmem 596 (by decide +kernel) (by decide +kernel)), (zmem 63 (by decide +kernel) (by decide +kernel)), (zmem 598 rfl rfl), ⟨by decide, by decide, by decide +kernel⟩, by decide⟩, (zmem 597 (by decide +kernel) (by decide +kernel))⟩
theorem iX6_link_16 : zI cX6_link 16 (.invokestatic 119) 3 19 := ⟨by decide +kernel, rfl⟩
theorem iX6_link_19 : zI cX6_link 19 (.ifCond .ne 5) 3 22 := ⟨by decide +kernel, rfl⟩
theorem fX6_122 : zFl RX6 122 1 1 := ⟨RX1, TX1, 12, rfl, by decide, (zmem 205 (by decide +kernel) (by decide +kernel)), u_inX1⟩
set_option maxRecDepth 100000 in
theorem wX6_125 : zCs RX6 125 yX6_has cX6_has 2 (some .boolean) 2 := ⟨⟨(zmem 599 (by decide +kernel) (by decide +kernel)), (zmem 63 (by decide +kernel) (by decide +kernel)), (zmem 427 rfl rfl), ⟨by decide, by decide, by decide +kernel⟩, by decide⟩, (zmem 426 (by decide +kernel) (by decide +kernel))⟩
theorem iX6_link_43 : zI cX6_link 43 (.invokestatic 125) 3 46 := ⟨by decide +kernel, rfl⟩
theorem iX6_link_47 : zI cX6_link 47 (.if_icmp .eq 18) 3 50 := ⟨by decide +kernel, rfl⟩
theorem iX6_link_67 : zI cX6_link 67 (.ireturn) 1 68 := ⟨by decide +kernel, rfl⟩
theorem iX6_link_65 : zI cX6_link 65 (.bipush (-2)) 2 67 := ⟨by decide +kernel, rfl⟩
theorem iX6_link_76 : zI cX6_link 76 (.invokevirtual 103) 3 79 := ⟨by decide +kernel, rfl⟩
theorem iX6_link_80 : zI cX6_link 80 (.ifCond .eq 14) 3 83 := ⟨by decide +kernel, rfl⟩
set_option maxRecDepth 100000 in
theorem wX6_136 : zCv RX6 136 yX1_open cX1_open 3 none 1 := ⟨⟨(zmem 626 (by decide +kernel) (by decide +kernel)), (zmem 67 (by decide +kernel) (by decide +kernel)), (zmem 629 rfl rfl), ⟨by decide, by decide, by decide +kernel⟩, by decide⟩, (zmem 627 (by decide +kernel) (by decide +kernel)), (zmem 628 (by decide +kernel) (by decide +kernel))⟩
theorem iX6_link_99 : zI cX6_link 99 (.invokevirtual 136) 3 102 := ⟨by decide +kernel, rfl⟩
theorem iX6_link_106 : zI cX6_link 106 (.invokevirtual 97) 3 109 := ⟨by decide +kernel, rfl⟩
theorem iX6_link_109 : zI cX6_link 109 (.ireturn) 1 110 := ⟨by decide +kernel, rfl⟩
theorem iX6_link_103 : zI cX6_link 103 (.getfield 38) 3 106 := ⟨by decide +kernel, rfl⟩
theorem iX6_link_102 : zI cX6_link 102 (.aload_n 0) 1 103 := ⟨by decide +kernel, rfl⟩
theorem iX6_link_98 : zI cX6_link 98 (.iload_n 1) 1 99 := ⟨by decide +kernel, rfl⟩
theorem iX6_link_95 : zI cX6_link 95 (.getfield 38) 3 98 := ⟨by decide +kernel, rfl⟩
theorem iX6_link_94 : zI cX6_link 94 (.aload_n 0) 1 95 := ⟨by decide +kernel, rfl⟩
set_option maxRecDepth 100000 in
theorem wX6_132 : zCv RX6 132 yX1_close cX1_close 4 none 1 := ⟨⟨(zmem 608 (by decide +kernel) (by decide +kernel)), (zmem 67 (by decide +kernel) (by decide +kernel)), (zmem 611 rfl rfl), ⟨by decide, by decide, by decide +kernel⟩, by decide⟩, (zmem 609 (by decide +kernel) (by decide +kernel)), (zmem 610 (by decide +kernel) (by decide +kernel))⟩
theorem iX6_link_88 : zI cX6_link 88 (.invokevirtual 132) 3 91 := ⟨by decide +kernel, rfl⟩
theorem iX6_link_91 : zI cX6_link 91 (.goto 11) 3 94 := ⟨by decide +kernel, rfl⟩
theorem iX6_link_87 : zI cX6_link 87 (.iload_n 1) 1 88 := ⟨by decide +kernel, rfl⟩
theorem iX6_link_84 : zI cX6_link 84 (.getfield 38) 3 87 := ⟨by decide +kernel, rfl⟩
theorem iX6_link_83 : zI cX6_link 83 (.aload_n 0) 1 84 := ⟨by decide +kernel, rfl⟩
theorem iX6_link_79 : zI cX6_link 79 (.iload_n 3) 1 80 := ⟨by decide +kernel, rfl⟩
theorem iX6_link_73 : zI cX6_link 73 (.getfield 38) 3 76 := ⟨by decide +kernel, rfl⟩
theorem iX6_link_72 : zI cX6_link 72 (.aload_n 0) 1 73 := ⟨by decide +kernel, rfl⟩
theorem iX6_link_69 : zI cX6_link 69 (.getfield 60) 3 72 := ⟨by decide +kernel, rfl⟩
theorem iX6_link_68 : zI cX6_link 68 (.aload_n 0) 1 69 := ⟨by decide +kernel, rfl⟩
theorem iX6_link_51 : zI cX6_link 51 (.ifCond .eq 17) 3 54 := ⟨by decide +kernel, rfl⟩
set_option maxRecDepth 100000 in
theorem wX6_129 : zCv RX6 129 yX1_canClose cX1_canClose 4 (some .boolean) 1 := ⟨⟨(zmem 600 (by decide +kernel) (by decide +kernel)), (zmem 67 (by decide +kernel) (by decide +kernel)), (zmem 603 rfl rfl), ⟨by decide, by decide, by decide +kernel⟩, by decide⟩, (zmem 601 (by decide +kernel) (by decide +kernel)), (zmem 602 (by decide +kernel) (by decide +kernel))⟩
theorem iX6_link_59 : zI cX6_link 59 (.invokevirtual 129) 3 62 := ⟨by decide +kernel, rfl⟩
theorem iX6_link_62 : zI cX6_link 62 (.ifCond .ne 6) 3 65 := ⟨by decide +kernel, rfl⟩
theorem iX6_link_58 : zI cX6_link 58 (.iload_n 1) 1 59 := ⟨by decide +kernel, rfl⟩
theorem iX6_link_55 : zI cX6_link 55 (.getfield 38) 3 58 := ⟨by decide +kernel, rfl⟩
theorem iX6_link_54 : zI cX6_link 54 (.aload_n 0) 1 55 := ⟨by decide +kernel, rfl⟩
theorem iX6_link_50 : zI cX6_link 50 (.iload_n 3) 1 51 := ⟨by decide +kernel, rfl⟩
theorem iX6_link_46 : zI cX6_link 46 (.iload_n 3) 1 47 := ⟨by decide +kernel, rfl⟩
theorem iX6_link_42 : zI cX6_link 42 (.iload_n 1) 1 43 := ⟨by decide +kernel, rfl⟩
theorem iX6_link_39 : zI cX6_link 39 (.getfield 122) 3 42 := ⟨by decide +kernel, rfl⟩
theorem iX6_link_36 : zI cX6_link 36 (.getfield 38) 3 39 := ⟨by decide +kernel, rfl⟩
theorem iX6_link_35 : zI cX6_link 35 (.aload_n 0) 1 36 := ⟨by decide +kernel, rfl⟩
theorem iX6_link_34 : zI cX6_link 34 (.istore_n 3) 1 35 := ⟨by decide +kernel, rfl⟩
theorem iX6_link_26 : zI cX6_link 26 (.if_icmp .ne 7) 3 29 := ⟨by decide +kernel, rfl⟩
theorem iX6_link_33 : zI cX6_link 33 (.iconst 0) 1 34 := ⟨by decide +kernel, rfl⟩
theorem iX6_link_30 : zI cX6_link 30 (.goto 4) 3 33 := ⟨by decide +kernel, rfl⟩
theorem iX6_link_29 : zI cX6_link 29 (.iconst 1) 1 30 := ⟨by decide +kernel, rfl⟩
theorem iX6_link_25 : zI cX6_link 25 (.iconst 1) 1 26 := ⟨by decide +kernel, rfl⟩
theorem iX6_link_24 : zI cX6_link 24 (.iload_n 2) 1 25 := ⟨by decide +kernel, rfl⟩
theorem iX6_link_15 : zI cX6_link 15 (.iload_n 2) 1 16 := ⟨by decide +kernel, rfl⟩
theorem iX6_link_9 : zI cX6_link 9 (.getfield 116) 3 12 := ⟨by decide +kernel, rfl⟩
theorem iX6_link_6 : zI cX6_link 6 (.getfield 30) 3 9 := ⟨by decide +kernel, rfl⟩
theorem iX6_link_5 : zI cX6_link 5 (.aload_n 0) 1 6 := ⟨by decide +kernel, rfl⟩
theorem iX6_link_4 : zI cX6_link 4 (.iload_n 1) 1 5 := ⟨by decide +kernel, rfl⟩
theorem iX6_link_0 : zI cX6_link 0 (.iload_n 1) 1 1 := ⟨by decide +kernel, rfl⟩
set_option maxHeartbeats 4000000 in
set_option maxRecDepth 100000 in
theorem m_SS_link (x1 : Int32) (x2 : Int32) (h : zH) : zM yX6_link cX6_link 4 (some .int) 5 shX (fun ad => [.ref (ad 0), .int x1, .int x2]) h eI (SS_link x1 x2 h) := by
  refine zM.of (by decide) (fun _ => rfl) (fun _ => Nat.le_of_ble_eq_true rfl) (fun X ad hnL C => ?_)
  show zG X ad shX eI 0 [some (.ref (ad 0)), some (.int x1), some (.int x2), none] [] h _
  unfold SS_link
  refine g_iload_n C iX6_link_0 rfl ?_
  refine g_if_lt C 22 iX6_link_1 (by decide) (fun c1 => ?_) (fun c1 => ?_)
  · refine g_iconst C (-1) iX6_link_22 (by decide) ?_
    exact g_iret C iX6_link_23 rfl
  · refine g_iload_n C iX6_link_4 rfl ?_
    refine g_aload_n C iX6_link_5 rfl ?_
    refine g_getR (b := 17) C fX6_30 iX6_link_6 sh0 rfl ?_
    refine g_getI C fX6_116 iX6_link_9 isP17.1 rfl ?_
    refine g_icmp_ge C 22 iX6_link_12 (by decide) (fun c12 => ?_) (fun c12 => ?_)
    · refine g_iconst C (-1) iX6_link_22 (by decide) ?_
      exact g_iret C iX6_link_23 rfl
    · refine g_iload_n C iX6_link_15 rfl ?_
      refine g_callS C wX6_119 iX6_link_16 (m_SS_isSwitch x2 h) (by decide) rfl rfl rfl (Nat.le_of_ble_eq_true rfl) (fun r => ?_)
      show zG X ad shX eI 19 [some (.ref (ad 0)), some (.int x1), some (.int x2), none] [.int r] h _
      refine g_if_ne C 24 iX6_link_19 (by decide) (fun c19 => ?_) (fun c19 => ?_)
      · refine g_iconst C (-1) iX6_link_22 (by decide) ?_
        exact g_iret C iX6_link_23 rfl
      · refine g_iload_n C iX6_link_24 rfl ?_
        refine g_iconst C 1 iX6_link_25 (by decide) ?_
        refine g_let (fun j34 ej34 => ?_)
        have hj34 : ∀ (v34 : Int32), zG X ad shX eI 34 [some (.ref (ad 0)), some (.int x1), none, none] [.int v34] h (j34 v34) := by
          intro v34
          subst ej34
          refine g_istore_n (lv' := [some (.ref (ad 0)), some (.int x1), none, some (.int v34)]) C hnL iX6_link_34 (by decide) rfl ?_
          refine g_aload_n C iX6_link_35 rfl ?_
          refine g_getR (b := 29) C fX6_38 iX6_link_36 sh0 rfl ?_
          refine g_getI C fX6_122 iX6_link_39 isG29.1 rfl ?_
          refine g_iload_n C iX6_link_42 rfl ?_
          refine g_callS C wX6_125 iX6_link_43 (m_SS_has (h 29 1) x1 h) (by decide) rfl rfl rfl (Nat.le_of_ble_eq_true rfl) (fun r_1 => ?_)
          show zG X ad shX eI 46 [some (.ref (ad 0)), some (.int x1), none, some (.int v34)] [.int r_1] h _
          refine g_iload_n C iX6_link_46 rfl ?_
          refine g_icmp_eq C 65 iX6_link_47 (by decide) (fun c47 => ?_) (fun c47 => ?_)
          · refine g_bipush C (-2) iX6_link_65 (by decide) ?_
            exact g_iret C iX6_link_67 rfl
          · refine g_iload_n C iX6_link_50 rfl ?_
            refine g_let (fun j68 ej68 => ?_)
            have hj68 : zG X ad shX eI 68 [some (.ref (ad 0)), some (.int x1), none, some (.int v34)] [] h j68 := by
              subst ej68
              refine g_aload_n C iX6_link_68 rfl ?_
              refine g_getR (b := 47) C fX6_60 iX6_link_69 sh0 rfl ?_
              refine g_aload_n C iX6_link_72 rfl ?_
              refine g_getR (b := 29) C fX6_38 iX6_link_73 sh0 rfl ?_
              refine g_callV C wX6_103 iX6_link_76 (m_Pa_keep 29 isG29 h) (by decide) sh47 rfl rfl rfl rfl (Nat.le_of_ble_eq_true rfl) (fun h_1 => ?_)
              show zG X ad shX eI 79 [some (.ref (ad 0)), some (.int x1), none, some (.int v34)] [] h_1 _
              refine g_iload_n C iX6_link_79 rfl ?_
              refine g_if_eq C 94 iX6_link_80 (by decide) (fun c80 => ?_) (fun c80 => ?_)
              · refine g_aload_n C iX6_link_94 rfl ?_
                refine g_getR (b := 29) C fX6_38 iX6_link_95 sh0 rfl ?_
                refine g_iload_n C iX6_link_98 rfl ?_
                refine g_callV C wX6_136 iX6_link_99 (m_Gr_open 29 isG29 x1 h_1) (by decide) isG29.1 rfl rfl rfl rfl (Nat.le_of_ble_eq_true rfl) (fun h_2 => ?_)
                show zG X ad shX eI 102 [some (.ref (ad 0)), some (.int x1), none, some (.int v34)] [] h_2 _
                refine g_aload_n C iX6_link_102 rfl ?_
                refine g_getR (b := 29) C fX6_38 iX6_link_103 sh0 rfl ?_
                refine g_callV C wX6_97 iX6_link_106 (m_Gr_islands 29 isG29 h_2) (by decide) isG29.1 rfl rfl rfl rfl (Nat.le_of_ble_eq_true rfl) (fun r_2 => ?_)
                show zG X ad shX eI 109 [some (.ref (ad 0)), some (.int x1), none, some (.int v34)] [.int r_2] h_2 _
                exact g_iret C iX6_link_109 rfl
              · refine g_aload_n C iX6_link_83 rfl ?_
                refine g_getR (b := 29) C fX6_38 iX6_link_84 sh0 rfl ?_
                refine g_iload_n C iX6_link_87 rfl ?_
                refine g_callV C wX6_132 iX6_link_88 (m_Gr_close 29 isG29 x1 h_1) (by decide) isG29.1 rfl rfl rfl rfl (Nat.le_of_ble_eq_true rfl) (fun h_3 => ?_)
                show zG X ad shX eI 91 [some (.ref (ad 0)), some (.int x1), none, some (.int v34)] [] h_3 _
                refine g_goto C 102 iX6_link_91 (by decide) ?_
                refine g_aload_n C iX6_link_102 rfl ?_
                refine g_getR (b := 29) C fX6_38 iX6_link_103 sh0 rfl ?_
                refine g_callV C wX6_97 iX6_link_106 (m_Gr_islands 29 isG29 h_3) (by decide) isG29.1 rfl rfl rfl rfl (Nat.le_of_ble_eq_true rfl) (fun r_3 => ?_)
                show zG X ad shX eI 109 [some (.ref (ad 0)), some (.int x1), none, some (.int v34)] [.int r_3] h_3 _
                exact g_iret C iX6_link_109 rfl
            clear ej68
            refine g_if_eq C 68 iX6_link_51 (by decide) (fun c51 => ?_) (fun c51 => ?_)
            · exact hj68
            · refine g_aload_n C iX6_link_54 rfl ?_
              refine g_getR (b := 29) C fX6_38 iX6_link_55 sh0 rfl ?_
              refine g_iload_n C iX6_link_58 rfl ?_
              refine g_callV C wX6_129 iX6_link_59 (m_Gr_canClose 29 isG29 x1 h) (by decide) isG29.1 rfl rfl rfl rfl (Nat.le_of_ble_eq_true rfl) (fun r_4 => ?_)
              show zG X ad shX eI 62 [some (.ref (ad 0)), some (.int x1), none, some (.int v34)] [.int r_4] h _
              refine g_if_ne C 68 iX6_link_62 (by decide) (fun c62 => ?_) (fun c62 => ?_)
              · refine g_bipush C (-2) iX6_link_65 (by decide) ?_
                exact g_iret C iX6_link_67 rfl
              · exact hj68
        clear ej34
        refine g_icmp_ne C 33 iX6_link_26 (by decide) (fun c26 => ?_) (fun c26 => ?_)
        · refine g_iconst C 1 iX6_link_29 (by decide) ?_
          refine g_goto C 34 iX6_link_30 (by decide) ?_
          refine g_sub (lv' := [some (.ref (ad 0)), some (.int x1), none, none]) ⟨rfl, ⟨rfl, trivial⟩⟩ ?_
          exact hj34 _
        · refine g_iconst C 0 iX6_link_33 (by decide) ?_
          refine g_sub (lv' := [some (.ref (ad 0)), some (.int x1), none, none]) ⟨rfl, ⟨rfl, trivial⟩⟩ ?_
          exact hj34 _

theorem iX6_feeder_1 : zI cX6_feeder 1 (.ifCond .lt 21) 3 4 := ⟨by decide +kernel, rfl⟩
theorem iX6_feeder_23 : zI cX6_feeder 23 (.ireturn) 1 24 := ⟨by decide +kernel, rfl⟩
theorem iX6_feeder_22 : zI cX6_feeder 22 (.iconst (-1)) 1 23 := ⟨by decide +kernel, rfl⟩
theorem fX6_139 : zFl RX6 139 4 3 := ⟨RX4, TX4, 16, rfl, by decide, (zmem 133 (by decide +kernel) (by decide +kernel)), u_inX4⟩
theorem iX6_feeder_12 : zI cX6_feeder 12 (.if_icmp .ge 10) 3 15 := ⟨by decide +kernel, rfl⟩
theorem iX6_feeder_16 : zI cX6_feeder 16 (.invokestatic 119) 3 19 := ⟨by decide +kernel, rfl⟩
theorem iX6_feeder_19 : zI cX6_feeder 19 (.ifCond .ne 5) 3 22 := ⟨by decide +kernel, rfl⟩
theorem fX6_142 : zFl RX6 142 1 2 := ⟨RX1, TX1, 12, rfl, by decide, (zmem 208 (by decide +kernel) (by decide +kernel)), u_inX1⟩
theorem fX6_146 : zFl RX6 146 4 11 := ⟨RX4, TX4, 16, rfl, by decide, (zmem 152 (by decide +kernel) (by decide +kernel)), u_inX4⟩
theorem fX6_149 : zFl RX6 149 1 7 := ⟨RX1, TX1, 12, rfl, by decide, (zmem 220 (by decide +kernel) (by decide +kernel)), u_inX1⟩
theorem iX6_feeder_62 : zI cX6_feeder 62 (.invokestatic 125) 3 65 := ⟨by decide +kernel, rfl⟩
theorem iX6_feeder_67 : zI cX6_feeder 67 (.if_icmp .eq 19) 3 70 := ⟨by decide +kernel, rfl⟩
theorem iX6_feeder_88 : zI cX6_feeder 88 (.ireturn) 1 89 := ⟨by decide +kernel, rfl⟩
theorem iX6_feeder_86 : zI cX6_feeder 86 (.bipush (-2)) 2 88 := ⟨by decide +kernel, rfl⟩
theorem iX6_feeder_97 : zI cX6_feeder 97 (.invokevirtual 103) 3 100 := ⟨by decide +kernel, rfl⟩
theorem iX6_feeder_102 : zI cX6_feeder 102 (.ifCond .eq 14) 3 105 := ⟨by decide +kernel, rfl⟩
set_option maxRecDepth 100000 in
theorem wX6_158 : zCv RX6 158 yX1_drop cX1_drop 2 none 1 := ⟨⟨(zmem 636 (by decide +kernel) (by decide +kernel)), (zmem 67 (by decide +kernel) (by decide +kernel)), (zmem 566 rfl rfl), ⟨by decide, by decide, by decide +kernel⟩, by decide⟩, (zmem 564 (by decide +kernel) (by decide +kernel)), (zmem 565 (by decide +kernel) (by decide +kernel))⟩
theorem iX6_feeder_121 : zI cX6_feeder 121 (.invokevirtual 158) 3 124 := ⟨by decide +kernel, rfl⟩
set_option maxRecDepth 100000 in
theorem wX6_161 : zCv RX6 161 yX1_loadOf cX1_loadOf 4 (some .int) 1 := ⟨⟨(zmem 637 (by decide +kernel) (by decide +kernel)), (zmem 67 (by decide +kernel) (by decide +kernel)), (zmem 442 rfl rfl), ⟨by decide, by decide, by decide +kernel⟩, by decide⟩, (zmem 440 (by decide +kernel) (by decide +kernel)), (zmem 441 (by decide +kernel) (by decide +kernel))⟩
theorem iX6_feeder_129 : zI cX6_feeder 129 (.invokevirtual 161) 3 132 := ⟨by decide +kernel, rfl⟩
theorem iX6_feeder_132 : zI cX6_feeder 132 (.ireturn) 1 133 := ⟨by decide +kernel, rfl⟩
theorem iX6_feeder_128 : zI cX6_feeder 128 (.iload_n 3) 1 129 := ⟨by decide +kernel, rfl⟩
theorem iX6_feeder_125 : zI cX6_feeder 125 (.getfield 38) 3 128 := ⟨by decide +kernel, rfl⟩
theorem iX6_feeder_124 : zI cX6_feeder 124 (.aload_n 0) 1 125 := ⟨by decide +kernel, rfl⟩
theorem iX6_feeder_120 : zI cX6_feeder 120 (.iload_n 1) 1 121 := ⟨by decide +kernel, rfl⟩
theorem iX6_feeder_117 : zI cX6_feeder 117 (.getfield 38) 3 120 := ⟨by decide +kernel, rfl⟩
theorem iX6_feeder_116 : zI cX6_feeder 116 (.aload_n 0) 1 117 := ⟨by decide +kernel, rfl⟩
set_option maxRecDepth 100000 in
theorem wX6_155 : zCv RX6 155 yX1_putOn cX1_putOn 4 none 1 := ⟨⟨(zmem 635 (by decide +kernel) (by decide +kernel)), (zmem 67 (by decide +kernel) (by decide +kernel)), (zmem 591 rfl rfl), ⟨by decide, by decide, by decide +kernel⟩, by decide⟩, (zmem 589 (by decide +kernel) (by decide +kernel)), (zmem 590 (by decide +kernel) (by decide +kernel))⟩
theorem iX6_feeder_110 : zI cX6_feeder 110 (.invokevirtual 155) 3 113 := ⟨by decide +kernel, rfl⟩
theorem iX6_feeder_113 : zI cX6_feeder 113 (.goto 11) 3 116 := ⟨by decide +kernel, rfl⟩
theorem iX6_feeder_109 : zI cX6_feeder 109 (.iload_n 1) 1 110 := ⟨by decide +kernel, rfl⟩
theorem iX6_feeder_106 : zI cX6_feeder 106 (.getfield 38) 3 109 := ⟨by decide +kernel, rfl⟩
theorem iX6_feeder_105 : zI cX6_feeder 105 (.aload_n 0) 1 106 := ⟨by decide +kernel, rfl⟩
theorem iX6_feeder_100 : zI cX6_feeder 100 (.iload 4) 2 102 := ⟨by decide +kernel, rfl⟩
theorem iX6_feeder_94 : zI cX6_feeder 94 (.getfield 38) 3 97 := ⟨by decide +kernel, rfl⟩
theorem iX6_feeder_93 : zI cX6_feeder 93 (.aload_n 0) 1 94 := ⟨by decide +kernel, rfl⟩
theorem iX6_feeder_90 : zI cX6_feeder 90 (.getfield 60) 3 93 := ⟨by decide +kernel, rfl⟩
theorem iX6_feeder_89 : zI cX6_feeder 89 (.aload_n 0) 1 90 := ⟨by decide +kernel, rfl⟩
theorem iX6_feeder_72 : zI cX6_feeder 72 (.ifCond .eq 17) 3 75 := ⟨by decide +kernel, rfl⟩
set_option maxRecDepth 100000 in
theorem wX6_152 : zCv RX6 152 yX1_isDark cX1_isDark 2 (some .boolean) 1 := ⟨⟨(zmem 634 (by decide +kernel) (by decide +kernel)), (zmem 67 (by decide +kernel) (by decide +kernel)), (zmem 532 rfl rfl), ⟨by decide, by decide, by decide +kernel⟩, by decide⟩, (zmem 530 (by decide +kernel) (by decide +kernel)), (zmem 531 (by decide +kernel) (by decide +kernel))⟩
theorem iX6_feeder_80 : zI cX6_feeder 80 (.invokevirtual 152) 3 83 := ⟨by decide +kernel, rfl⟩
theorem iX6_feeder_83 : zI cX6_feeder 83 (.ifCond .eq 6) 3 86 := ⟨by decide +kernel, rfl⟩
theorem iX6_feeder_79 : zI cX6_feeder 79 (.iload_n 3) 1 80 := ⟨by decide +kernel, rfl⟩
theorem iX6_feeder_76 : zI cX6_feeder 76 (.getfield 38) 3 79 := ⟨by decide +kernel, rfl⟩
theorem iX6_feeder_75 : zI cX6_feeder 75 (.aload_n 0) 1 76 := ⟨by decide +kernel, rfl⟩
theorem iX6_feeder_70 : zI cX6_feeder 70 (.iload 4) 2 72 := ⟨by decide +kernel, rfl⟩
theorem iX6_feeder_65 : zI cX6_feeder 65 (.iload 4) 2 67 := ⟨by decide +kernel, rfl⟩
theorem iX6_feeder_61 : zI cX6_feeder 61 (.iload_n 1) 1 62 := ⟨by decide +kernel, rfl⟩
theorem iX6_feeder_58 : zI cX6_feeder 58 (.getfield 149) 3 61 := ⟨by decide +kernel, rfl⟩
theorem iX6_feeder_55 : zI cX6_feeder 55 (.getfield 38) 3 58 := ⟨by decide +kernel, rfl⟩
theorem iX6_feeder_54 : zI cX6_feeder 54 (.aload_n 0) 1 55 := ⟨by decide +kernel, rfl⟩
theorem iX6_feeder_52 : zI cX6_feeder 52 (.istore 4) 2 54 := ⟨by decide +kernel, rfl⟩
theorem iX6_feeder_44 : zI cX6_feeder 44 (.if_icmp .ne 7) 3 47 := ⟨by decide +kernel, rfl⟩
theorem iX6_feeder_51 : zI cX6_feeder 51 (.iconst 0) 1 52 := ⟨by decide +kernel, rfl⟩
theorem iX6_feeder_48 : zI cX6_feeder 48 (.goto 4) 3 51 := ⟨by decide +kernel, rfl⟩
theorem iX6_feeder_47 : zI cX6_feeder 47 (.iconst 1) 1 48 := ⟨by decide +kernel, rfl⟩
theorem iX6_feeder_43 : zI cX6_feeder 43 (.iconst 1) 1 44 := ⟨by decide +kernel, rfl⟩
theorem iX6_feeder_42 : zI cX6_feeder 42 (.iload_n 2) 1 43 := ⟨by decide +kernel, rfl⟩
theorem iX6_feeder_41 : zI cX6_feeder 41 (.istore_n 3) 1 42 := ⟨by decide +kernel, rfl⟩
theorem iX6_feeder_40 : zI cX6_feeder 40 (.iaload) 1 41 := ⟨by decide +kernel, rfl⟩
theorem iX6_feeder_39 : zI cX6_feeder 39 (.iaload) 1 40 := ⟨by decide +kernel, rfl⟩
theorem iX6_feeder_38 : zI cX6_feeder 38 (.iload_n 1) 1 39 := ⟨by decide +kernel, rfl⟩
theorem iX6_feeder_35 : zI cX6_feeder 35 (.getfield 146) 3 38 := ⟨by decide +kernel, rfl⟩
theorem iX6_feeder_32 : zI cX6_feeder 32 (.getfield 30) 3 35 := ⟨by decide +kernel, rfl⟩
theorem iX6_feeder_31 : zI cX6_feeder 31 (.aload_n 0) 1 32 := ⟨by decide +kernel, rfl⟩
theorem iX6_feeder_28 : zI cX6_feeder 28 (.getfield 142) 3 31 := ⟨by decide +kernel, rfl⟩
theorem iX6_feeder_25 : zI cX6_feeder 25 (.getfield 38) 3 28 := ⟨by decide +kernel, rfl⟩
theorem iX6_feeder_24 : zI cX6_feeder 24 (.aload_n 0) 1 25 := ⟨by decide +kernel, rfl⟩
theorem iX6_feeder_15 : zI cX6_feeder 15 (.iload_n 2) 1 16 := ⟨by decide +kernel, rfl⟩
theorem iX6_feeder_9 : zI cX6_feeder 9 (.getfield 139) 3 12 := ⟨by decide +kernel, rfl⟩
theorem iX6_feeder_6 : zI cX6_feeder 6 (.getfield 30) 3 9 := ⟨by decide +kernel, rfl⟩
theorem iX6_feeder_5 : zI cX6_feeder 5 (.aload_n 0) 1 6 := ⟨by decide +kernel, rfl⟩
theorem iX6_feeder_4 : zI cX6_feeder 4 (.iload_n 1) 1 5 := ⟨by decide +kernel, rfl⟩
theorem iX6_feeder_0 : zI cX6_feeder 0 (.iload_n 1) 1 1 := ⟨by decide +kernel, rfl⟩
set_option maxHeartbeats 4000000 in
set_option maxRecDepth 100000 in
theorem m_SS_feeder (x1 : Int32) (x2 : Int32) (h : zH) : zM yX6_feeder cX6_feeder 5 (some .int) 4 shX (fun ad => [.ref (ad 0), .int x1, .int x2]) h eI (SS_feeder x1 x2 h) := by
  refine zM.of (by decide) (fun _ => rfl) (fun _ => Nat.le_of_ble_eq_true rfl) (fun X ad hnL C => ?_)
  show zG X ad shX eI 0 [some (.ref (ad 0)), some (.int x1), some (.int x2), none, none] [] h _
  unfold SS_feeder
  refine g_iload_n C iX6_feeder_0 rfl ?_
  refine g_if_lt C 22 iX6_feeder_1 (by decide) (fun c1 => ?_) (fun c1 => ?_)
  · refine g_iconst C (-1) iX6_feeder_22 (by decide) ?_
    exact g_iret C iX6_feeder_23 rfl
  · refine g_iload_n C iX6_feeder_4 rfl ?_
    refine g_aload_n C iX6_feeder_5 rfl ?_
    refine g_getR (b := 17) C fX6_30 iX6_feeder_6 sh0 rfl ?_
    refine g_getI C fX6_139 iX6_feeder_9 isP17.1 rfl ?_
    refine g_icmp_ge C 22 iX6_feeder_12 (by decide) (fun c12 => ?_) (fun c12 => ?_)
    · refine g_iconst C (-1) iX6_feeder_22 (by decide) ?_
      exact g_iret C iX6_feeder_23 rfl
    · refine g_iload_n C iX6_feeder_15 rfl ?_
      refine g_callS C wX6_119 iX6_feeder_16 (m_SS_isSwitch x2 h) (by decide) rfl rfl rfl (Nat.le_of_ble_eq_true rfl) (fun r => ?_)
      show zG X ad shX eI 19 [some (.ref (ad 0)), some (.int x1), some (.int x2), none, none] [.int r] h _
      refine g_if_ne C 24 iX6_feeder_19 (by decide) (fun c19 => ?_) (fun c19 => ?_)
      · refine g_iconst C (-1) iX6_feeder_22 (by decide) ?_
        exact g_iret C iX6_feeder_23 rfl
      · refine g_aload_n C iX6_feeder_24 rfl ?_
        refine g_getR (b := 29) C fX6_38 iX6_feeder_25 sh0 rfl ?_
        refine g_getR (b := 30) C fX6_142 iX6_feeder_28 isG29.1 rfl ?_
        refine g_aload_n C iX6_feeder_31 rfl ?_
        refine g_getR (b := 17) C fX6_30 iX6_feeder_32 sh0 rfl ?_
        refine g_getR (b := 24) C fX6_146 iX6_feeder_35 isP17.1 rfl ?_
        refine g_iload_n C iX6_feeder_38 rfl ?_
        refine g_iaload C iX6_feeder_39 isP17.2.2.2.2.2.2.2.1 ?_
        refine g_iaload C iX6_feeder_40 isG29.2.1 ?_
        refine g_top (fun x3 => ?_)
        refine g_istore_n (lv' := [some (.ref (ad 0)), some (.int x1), some (.int x2), some (.int x3), none]) C hnL iX6_feeder_41 (by decide) rfl ?_
        refine g_iload_n C iX6_feeder_42 rfl ?_
        refine g_iconst C 1 iX6_feeder_43 (by decide) ?_
        refine g_let (fun j52 ej52 => ?_)
        have hj52 : ∀ (v52 : Int32), zG X ad shX eI 52 [some (.ref (ad 0)), some (.int x1), none, some (.int x3), none] [.int v52] h (j52 v52) := by
          intro v52
          subst ej52
          refine g_istore (lv' := [some (.ref (ad 0)), some (.int x1), none, some (.int x3), some (.int v52)]) C hnL iX6_feeder_52 (by decide) rfl ?_
          refine g_aload_n C iX6_feeder_54 rfl ?_
          refine g_getR (b := 29) C fX6_38 iX6_feeder_55 sh0 rfl ?_
          refine g_getI C fX6_149 iX6_feeder_58 isG29.1 rfl ?_
          refine g_iload_n C iX6_feeder_61 rfl ?_
          refine g_callS C wX6_125 iX6_feeder_62 (m_SS_has (h 29 7) x1 h) (by decide) rfl rfl rfl (Nat.le_of_ble_eq_true rfl) (fun r_1 => ?_)
          show zG X ad shX eI 65 [some (.ref (ad 0)), some (.int x1), none, some (.int x3), some (.int v52)] [.int r_1] h _
          refine g_iload C iX6_feeder_65 rfl ?_
          refine g_icmp_eq C 86 iX6_feeder_67 (by decide) (fun c67 => ?_) (fun c67 => ?_)
          · refine g_bipush C (-2) iX6_feeder_86 (by decide) ?_
            exact g_iret C iX6_feeder_88 rfl
          · refine g_iload C iX6_feeder_70 rfl ?_
            refine g_let (fun j89 ej89 => ?_)
            have hj89 : zG X ad shX eI 89 [some (.ref (ad 0)), some (.int x1), none, some (.int x3), some (.int v52)] [] h j89 := by
              subst ej89
              refine g_aload_n C iX6_feeder_89 rfl ?_
              refine g_getR (b := 47) C fX6_60 iX6_feeder_90 sh0 rfl ?_
              refine g_aload_n C iX6_feeder_93 rfl ?_
              refine g_getR (b := 29) C fX6_38 iX6_feeder_94 sh0 rfl ?_
              refine g_callV C wX6_103 iX6_feeder_97 (m_Pa_keep 29 isG29 h) (by decide) sh47 rfl rfl rfl rfl (Nat.le_of_ble_eq_true rfl) (fun h_1 => ?_)
              show zG X ad shX eI 100 [some (.ref (ad 0)), some (.int x1), none, some (.int x3), some (.int v52)] [] h_1 _
              refine g_iload C iX6_feeder_100 rfl ?_
              refine g_if_eq C 116 iX6_feeder_102 (by decide) (fun c102 => ?_) (fun c102 => ?_)
              · refine g_aload_n C iX6_feeder_116 rfl ?_
                refine g_getR (b := 29) C fX6_38 iX6_feeder_117 sh0 rfl ?_
                refine g_iload_n C iX6_feeder_120 rfl ?_
                refine g_callV C wX6_158 iX6_feeder_121 (m_Gr_drop 29 isG29 x1 h_1) (by decide) isG29.1 rfl rfl rfl rfl (Nat.le_of_ble_eq_true rfl) (fun h_2 => ?_)
                show zG X ad shX eI 124 [some (.ref (ad 0)), some (.int x1), none, some (.int x3), some (.int v52)] [] h_2 _
                refine g_aload_n C iX6_feeder_124 rfl ?_
                refine g_getR (b := 29) C fX6_38 iX6_feeder_125 sh0 rfl ?_
                refine g_iload_n C iX6_feeder_128 rfl ?_
                refine g_callV C wX6_161 iX6_feeder_129 (m_Gr_loadOf 29 isG29 x3 h_2) (by decide) isG29.1 rfl rfl rfl rfl (Nat.le_of_ble_eq_true rfl) (fun r_2 => ?_)
                show zG X ad shX eI 132 [some (.ref (ad 0)), some (.int x1), none, some (.int x3), some (.int v52)] [.int r_2] h_2 _
                exact g_iret C iX6_feeder_132 rfl
              · refine g_aload_n C iX6_feeder_105 rfl ?_
                refine g_getR (b := 29) C fX6_38 iX6_feeder_106 sh0 rfl ?_
                refine g_iload_n C iX6_feeder_109 rfl ?_
                refine g_callV C wX6_155 iX6_feeder_110 (m_Gr_putOn 29 isG29 x1 h_1) (by decide) isG29.1 rfl rfl rfl rfl (Nat.le_of_ble_eq_true rfl) (fun h_3 => ?_)
                show zG X ad shX eI 113 [some (.ref (ad 0)), some (.int x1), none, some (.int x3), some (.int v52)] [] h_3 _
                refine g_goto C 124 iX6_feeder_113 (by decide) ?_
                refine g_aload_n C iX6_feeder_124 rfl ?_
                refine g_getR (b := 29) C fX6_38 iX6_feeder_125 sh0 rfl ?_
                refine g_iload_n C iX6_feeder_128 rfl ?_
                refine g_callV C wX6_161 iX6_feeder_129 (m_Gr_loadOf 29 isG29 x3 h_3) (by decide) isG29.1 rfl rfl rfl rfl (Nat.le_of_ble_eq_true rfl) (fun r_3 => ?_)
                show zG X ad shX eI 132 [some (.ref (ad 0)), some (.int x1), none, some (.int x3), some (.int v52)] [.int r_3] h_3 _
                exact g_iret C iX6_feeder_132 rfl
            clear ej89
            refine g_if_eq C 89 iX6_feeder_72 (by decide) (fun c72 => ?_) (fun c72 => ?_)
            · exact hj89
            · refine g_aload_n C iX6_feeder_75 rfl ?_
              refine g_getR (b := 29) C fX6_38 iX6_feeder_76 sh0 rfl ?_
              refine g_iload_n C iX6_feeder_79 rfl ?_
              refine g_callV C wX6_152 iX6_feeder_80 (m_Gr_isDark 29 isG29 x3 h) (by decide) isG29.1 rfl rfl rfl rfl (Nat.le_of_ble_eq_true rfl) (fun r_4 => ?_)
              show zG X ad shX eI 83 [some (.ref (ad 0)), some (.int x1), none, some (.int x3), some (.int v52)] [.int r_4] h _
              refine g_if_eq C 89 iX6_feeder_83 (by decide) (fun c83 => ?_) (fun c83 => ?_)
              · exact hj89
              · refine g_bipush C (-2) iX6_feeder_86 (by decide) ?_
                exact g_iret C iX6_feeder_88 rfl
        clear ej52
        refine g_icmp_ne C 51 iX6_feeder_44 (by decide) (fun c44 => ?_) (fun c44 => ?_)
        · refine g_iconst C 1 iX6_feeder_47 (by decide) ?_
          refine g_goto C 52 iX6_feeder_48 (by decide) ?_
          refine g_sub (lv' := [some (.ref (ad 0)), some (.int x1), none, some (.int x3), none]) ⟨rfl, ⟨rfl, ⟨rfl, trivial⟩⟩⟩ ?_
          exact hj52 _
        · refine g_iconst C 0 iX6_feeder_51 (by decide) ?_
          refine g_sub (lv' := [some (.ref (ad 0)), some (.int x1), none, some (.int x3), none]) ⟨rfl, ⟨rfl, ⟨rfl, trivial⟩⟩⟩ ?_
          exact hj52 _

set_option maxRecDepth 100000 in
theorem wX6_165 : zCv RX6 165 yX4_isBus cX4_isBus 2 (some .boolean) 1 := ⟨⟨(zmem 642 (by decide +kernel) (by decide +kernel)), (zmem 66 (by decide +kernel) (by decide +kernel)), (zmem 386 rfl rfl), ⟨by decide, by decide, by decide +kernel⟩, by decide⟩, (zmem 384 (by decide +kernel) (by decide +kernel)), (zmem 385 (by decide +kernel) (by decide +kernel))⟩
theorem iX6_begin_5 : zI cX6_begin 5 (.invokevirtual 165) 3 8 := ⟨by decide +kernel, rfl⟩
theorem iX6_begin_8 : zI cX6_begin 8 (.ifCond .ne 5) 3 11 := ⟨by decide +kernel, rfl⟩
theorem iX6_begin_28 : zI cX6_begin 28 (.invokevirtual 152) 3 31 := ⟨by decide +kernel, rfl⟩
theorem iX6_begin_31 : zI cX6_begin 31 (.ifCond .eq 14) 3 34 := ⟨by decide +kernel, rfl⟩
theorem iX6_begin_47 : zI cX6_begin 47 (.ireturn) 1 48 := ⟨by decide +kernel, rfl⟩
theorem iX6_begin_45 : zI cX6_begin 45 (.bipush (-2)) 2 47 := ⟨by decide +kernel, rfl⟩
set_option maxRecDepth 100000 in
theorem wX6_168 : zCv RX6 168 yX1_heavyOf cX1_heavyOf 2 (some .int) 1 := ⟨⟨(zmem 643 (by decide +kernel) (by decide +kernel)), (zmem 67 (by decide +kernel) (by decide +kernel)), (zmem 549 rfl rfl), ⟨by decide, by decide, by decide +kernel⟩, by decide⟩, (zmem 547 (by decide +kernel) (by decide +kernel)), (zmem 548 (by decide +kernel) (by decide +kernel))⟩
theorem iX6_begin_39 : zI cX6_begin 39 (.invokevirtual 168) 3 42 := ⟨by decide +kernel, rfl⟩
theorem iX6_begin_42 : zI cX6_begin 42 (.ifCond .ne 6) 3 45 := ⟨by decide +kernel, rfl⟩
theorem iX6_begin_56 : zI cX6_begin 56 (.invokevirtual 103) 3 59 := ⟨by decide +kernel, rfl⟩
theorem fX6_171 : zFl RX6 171 1 4 := ⟨RX1, TX1, 12, rfl, by decide, (zmem 212 (by decide +kernel) (by decide +kernel)), u_inX1⟩
set_option maxRecDepth 100000 in
theorem wX6_174 : zCv RX6 174 yX1_clearCounts cX1_clearCounts 3 none 1 := ⟨⟨(zmem 644 (by decide +kernel) (by decide +kernel)), (zmem 67 (by decide +kernel) (by decide +kernel)), (zmem 434 rfl rfl), ⟨by decide, by decide, by decide +kernel⟩, by decide⟩, (zmem 432 (by decide +kernel) (by decide +kernel)), (zmem 433 (by decide +kernel) (by decide +kernel))⟩
theorem iX6_begin_76 : zI cX6_begin 76 (.invokevirtual 174) 3 79 := ⟨by decide +kernel, rfl⟩
theorem iX6_begin_84 : zI cX6_begin 84 (.invokevirtual 168) 3 87 := ⟨by decide +kernel, rfl⟩
theorem iX6_begin_87 : zI cX6_begin 87 (.ireturn) 1 88 := ⟨by decide +kernel, rfl⟩
theorem iX6_begin_83 : zI cX6_begin 83 (.iload_n 2) 1 84 := ⟨by decide +kernel, rfl⟩
theorem iX6_begin_80 : zI cX6_begin 80 (.getfield 38) 3 83 := ⟨by decide +kernel, rfl⟩
theorem iX6_begin_79 : zI cX6_begin 79 (.aload_n 0) 1 80 := ⟨by decide +kernel, rfl⟩
theorem iX6_begin_75 : zI cX6_begin 75 (.iload_n 2) 1 76 := ⟨by decide +kernel, rfl⟩
theorem iX6_begin_72 : zI cX6_begin 72 (.getfield 38) 3 75 := ⟨by decide +kernel, rfl⟩
theorem iX6_begin_71 : zI cX6_begin 71 (.aload_n 0) 1 72 := ⟨by decide +kernel, rfl⟩
theorem iX6_begin_70 : zI cX6_begin 70 (.iastore) 1 71 := ⟨by decide +kernel, rfl⟩
theorem iX6_begin_67 : zI cX6_begin 67 (.sipush 5000) 3 70 := ⟨by decide +kernel, rfl⟩
theorem iX6_begin_66 : zI cX6_begin 66 (.iload_n 2) 1 67 := ⟨by decide +kernel, rfl⟩
theorem iX6_begin_63 : zI cX6_begin 63 (.getfield 171) 3 66 := ⟨by decide +kernel, rfl⟩
theorem iX6_begin_60 : zI cX6_begin 60 (.getfield 38) 3 63 := ⟨by decide +kernel, rfl⟩
theorem iX6_begin_59 : zI cX6_begin 59 (.aload_n 0) 1 60 := ⟨by decide +kernel, rfl⟩
theorem iX6_begin_53 : zI cX6_begin 53 (.getfield 38) 3 56 := ⟨by decide +kernel, rfl⟩
theorem iX6_begin_52 : zI cX6_begin 52 (.aload_n 0) 1 53 := ⟨by decide +kernel, rfl⟩
theorem iX6_begin_49 : zI cX6_begin 49 (.getfield 60) 3 52 := ⟨by decide +kernel, rfl⟩
theorem iX6_begin_48 : zI cX6_begin 48 (.aload_n 0) 1 49 := ⟨by decide +kernel, rfl⟩
theorem iX6_begin_38 : zI cX6_begin 38 (.iload_n 2) 1 39 := ⟨by decide +kernel, rfl⟩
theorem iX6_begin_35 : zI cX6_begin 35 (.getfield 38) 3 38 := ⟨by decide +kernel, rfl⟩
theorem iX6_begin_34 : zI cX6_begin 34 (.aload_n 0) 1 35 := ⟨by decide +kernel, rfl⟩
theorem iX6_begin_27 : zI cX6_begin 27 (.iload_n 2) 1 28 := ⟨by decide +kernel, rfl⟩
theorem iX6_begin_24 : zI cX6_begin 24 (.getfield 38) 3 27 := ⟨by decide +kernel, rfl⟩
theorem iX6_begin_23 : zI cX6_begin 23 (.aload_n 0) 1 24 := ⟨by decide +kernel, rfl⟩
theorem iX6_begin_22 : zI cX6_begin 22 (.istore_n 2) 1 23 := ⟨by decide +kernel, rfl⟩
theorem iX6_begin_21 : zI cX6_begin 21 (.iaload) 1 22 := ⟨by decide +kernel, rfl⟩
theorem iX6_begin_20 : zI cX6_begin 20 (.iload_n 1) 1 21 := ⟨by decide +kernel, rfl⟩
theorem iX6_begin_17 : zI cX6_begin 17 (.getfield 142) 3 20 := ⟨by decide +kernel, rfl⟩
theorem iX6_begin_14 : zI cX6_begin 14 (.getfield 38) 3 17 := ⟨by decide +kernel, rfl⟩
theorem iX6_begin_13 : zI cX6_begin 13 (.aload_n 0) 1 14 := ⟨by decide +kernel, rfl⟩
theorem iX6_begin_12 : zI cX6_begin 12 (.ireturn) 1 13 := ⟨by decide +kernel, rfl⟩
theorem iX6_begin_11 : zI cX6_begin 11 (.iconst (-1)) 1 12 := ⟨by decide +kernel, rfl⟩
theorem iX6_begin_4 : zI cX6_begin 4 (.iload_n 1) 1 5 := ⟨by decide +kernel, rfl⟩
theorem iX6_begin_1 : zI cX6_begin 1 (.getfield 30) 3 4 := ⟨by decide +kernel, rfl⟩
theorem iX6_begin_0 : zI cX6_begin 0 (.aload_n 0) 1 1 := ⟨by decide +kernel, rfl⟩
set_option maxHeartbeats 4000000 in
set_option maxRecDepth 100000 in
theorem m_SS_begin (x1 : Int32) (h : zH) : zM yX6_begin cX6_begin 3 (some .int) 4 shX (fun ad => [.ref (ad 0), .int x1]) h eI (SS_begin x1 h) := by
  refine zM.of (by decide) (fun _ => rfl) (fun _ => Nat.le_of_ble_eq_true rfl) (fun X ad hnL C => ?_)
  show zG X ad shX eI 0 [some (.ref (ad 0)), some (.int x1), none] [] h _
  unfold SS_begin
  refine g_aload_n C iX6_begin_0 rfl ?_
  refine g_getR (b := 17) C fX6_30 iX6_begin_1 sh0 rfl ?_
  refine g_iload_n C iX6_begin_4 rfl ?_
  refine g_callV C wX6_165 iX6_begin_5 (m_Pl_isBus 17 isP17 x1 h) (by decide) isP17.1 rfl rfl rfl rfl (Nat.le_of_ble_eq_true rfl) (fun r => ?_)
  show zG X ad shX eI 8 [some (.ref (ad 0)), some (.int x1), none] [.int r] h _
  refine g_if_ne C 13 iX6_begin_8 (by decide) (fun c8 => ?_) (fun c8 => ?_)
  · refine g_iconst C (-1) iX6_begin_11 (by decide) ?_
    exact g_iret C iX6_begin_12 rfl
  · refine g_aload_n C iX6_begin_13 rfl ?_
    refine g_getR (b := 29) C fX6_38 iX6_begin_14 sh0 rfl ?_
    refine g_getR (b := 30) C fX6_142 iX6_begin_17 isG29.1 rfl ?_
    refine g_iload_n C iX6_begin_20 rfl ?_
    refine g_iaload C iX6_begin_21 isG29.2.1 ?_
    refine g_top (fun x2 => ?_)
    refine g_istore_n (lv' := [some (.ref (ad 0)), some (.int x1), some (.int x2)]) C hnL iX6_begin_22 (by decide) rfl ?_
    refine g_aload_n C iX6_begin_23 rfl ?_
    refine g_getR (b := 29) C fX6_38 iX6_begin_24 sh0 rfl ?_
    refine g_iload_n C iX6_begin_27 rfl ?_
    refine g_callV C wX6_152 iX6_begin_28 (m_Gr_isDark 29 isG29 x2 h) (by decide) isG29.1 rfl rfl rfl rfl (Nat.le_of_ble_eq_true rfl) (fun r_1 => ?_)
    show zG X ad shX eI 31 [some (.ref (ad 0)), some (.int x1), some (.int x2)] [.int r_1] h _
    refine g_if_eq C 45 iX6_begin_31 (by decide) (fun c31 => ?_) (fun c31 => ?_)
    · refine g_bipush C (-2) iX6_begin_45 (by decide) ?_
      exact g_iret C iX6_begin_47 rfl
    · refine g_aload_n C iX6_begin_34 rfl ?_
      refine g_getR (b := 29) C fX6_38 iX6_begin_35 sh0 rfl ?_
      refine g_iload_n C iX6_begin_38 rfl ?_
      refine g_callV C wX6_168 iX6_begin_39 (m_Gr_heavyOf 29 isG29 x2 h) (by decide) isG29.1 rfl rfl rfl rfl (Nat.le_of_ble_eq_true rfl) (fun r_2 => ?_)
      show zG X ad shX eI 42 [some (.ref (ad 0)), some (.int x1), some (.int x2)] [.int r_2] h _
      refine g_if_ne C 48 iX6_begin_42 (by decide) (fun c42 => ?_) (fun c42 => ?_)
      · refine g_bipush C (-2) iX6_begin_45 (by decide) ?_
        exact g_iret C iX6_begin_47 rfl
      · refine g_aload_n C iX6_begin_48 rfl ?_
        refine g_getR (b := 47) C fX6_60 iX6_begin_49 sh0 rfl ?_
        refine g_aload_n C iX6_begin_52 rfl ?_
        refine g_getR (b := 29) C fX6_38 iX6_begin_53 sh0 rfl ?_
        refine g_callV C wX6_103 iX6_begin_56 (m_Pa_keep 29 isG29 h) (by decide) sh47 rfl rfl rfl rfl (Nat.le_of_ble_eq_true rfl) (fun h_1 => ?_)
        show zG X ad shX eI 59 [some (.ref (ad 0)), some (.int x1), some (.int x2)] [] h_1 _
        refine g_aload_n C iX6_begin_59 rfl ?_
        refine g_getR (b := 29) C fX6_38 iX6_begin_60 sh0 rfl ?_
        refine g_getR (b := 32) C fX6_171 iX6_begin_63 isG29.1 rfl ?_
        refine g_iload_n C iX6_begin_66 rfl ?_
        refine g_sipush C 5000 iX6_begin_67 (by decide) ?_
        refine g_iastore C iX6_begin_70 isG29.2.2.2.1 (fun h_2 => ?_)
        refine g_aload_n C iX6_begin_71 rfl ?_
        refine g_getR (b := 29) C fX6_38 iX6_begin_72 sh0 rfl ?_
        refine g_iload_n C iX6_begin_75 rfl ?_
        refine g_callV C wX6_174 iX6_begin_76 (m_Gr_clearCounts 29 isG29 x2 h_2) (by decide) isG29.1 rfl rfl rfl rfl (Nat.le_of_ble_eq_true rfl) (fun h_3 => ?_)
        show zG X ad shX eI 79 [some (.ref (ad 0)), some (.int x1), some (.int x2)] [] h_3 _
        refine g_aload_n C iX6_begin_79 rfl ?_
        refine g_getR (b := 29) C fX6_38 iX6_begin_80 sh0 rfl ?_
        refine g_iload_n C iX6_begin_83 rfl ?_
        refine g_callV C wX6_168 iX6_begin_84 (m_Gr_heavyOf 29 isG29 x2 h_3) (by decide) isG29.1 rfl rfl rfl rfl (Nat.le_of_ble_eq_true rfl) (fun r_3 => ?_)
        show zG X ad shX eI 87 [some (.ref (ad 0)), some (.int x1), some (.int x2)] [.int r_3] h_3 _
        exact g_iret C iX6_begin_87 rfl

set_option maxRecDepth 100000 in
theorem wX6_177 : zCv RX6 177 yX4_isRow cX4_isRow 2 (some .boolean) 1 := ⟨⟨(zmem 649 (by decide +kernel) (by decide +kernel)), (zmem 66 (by decide +kernel) (by decide +kernel)), (zmem 652 rfl rfl), ⟨by decide, by decide, by decide +kernel⟩, by decide⟩, (zmem 650 (by decide +kernel) (by decide +kernel)), (zmem 651 (by decide +kernel) (by decide +kernel))⟩
theorem iX6_mark_5 : zI cX6_mark 5 (.invokevirtual 177) 3 8 := ⟨by decide +kernel, rfl⟩
theorem iX6_mark_8 : zI cX6_mark 8 (.ifCond .eq 11) 3 11 := ⟨by decide +kernel, rfl⟩
theorem iX6_mark_20 : zI cX6_mark 20 (.ireturn) 1 21 := ⟨by decide +kernel, rfl⟩
theorem iX6_mark_19 : zI cX6_mark 19 (.iconst (-1)) 1 20 := ⟨by decide +kernel, rfl⟩
set_option maxRecDepth 100000 in
theorem wX6_180 : zCs RX6 180 yX4_isMark cX4_isMark 2 (some .boolean) 2 := ⟨⟨(zmem 653 (by decide +kernel) (by decide +kernel)), (zmem 66 (by decide +kernel) (by decide +kernel)), (zmem 405 rfl rfl), ⟨by decide, by decide, by decide +kernel⟩, by decide⟩, (zmem 404 (by decide +kernel) (by decide +kernel))⟩
theorem iX6_mark_13 : zI cX6_mark 13 (.invokestatic 180) 3 16 := ⟨by decide +kernel, rfl⟩
theorem iX6_mark_16 : zI cX6_mark 16 (.ifCond .ne 5) 3 19 := ⟨by decide +kernel, rfl⟩
theorem fX6_183 : zFl RX6 183 1 10 := ⟨RX1, TX1, 12, rfl, by decide, (zmem 229 (by decide +kernel) (by decide +kernel)), u_inX1⟩
theorem iX6_mark_33 : zI cX6_mark 33 (.if_icmp .ne 6) 3 36 := ⟨by decide +kernel, rfl⟩
theorem iX6_mark_47 : zI cX6_mark 47 (.invokevirtual 103) 3 50 := ⟨by decide +kernel, rfl⟩
theorem iX6_mark_61 : zI cX6_mark 61 (.ireturn) 1 62 := ⟨by decide +kernel, rfl⟩
theorem iX6_mark_60 : zI cX6_mark 60 (.iload_n 3) 1 61 := ⟨by decide +kernel, rfl⟩
theorem iX6_mark_59 : zI cX6_mark 59 (.iastore) 1 60 := ⟨by decide +kernel, rfl⟩
theorem iX6_mark_58 : zI cX6_mark 58 (.iload_n 2) 1 59 := ⟨by decide +kernel, rfl⟩
theorem iX6_mark_57 : zI cX6_mark 57 (.iload_n 1) 1 58 := ⟨by decide +kernel, rfl⟩
theorem iX6_mark_54 : zI cX6_mark 54 (.getfield 183) 3 57 := ⟨by decide +kernel, rfl⟩
theorem iX6_mark_51 : zI cX6_mark 51 (.getfield 38) 3 54 := ⟨by decide +kernel, rfl⟩
theorem iX6_mark_50 : zI cX6_mark 50 (.aload_n 0) 1 51 := ⟨by decide +kernel, rfl⟩
theorem iX6_mark_44 : zI cX6_mark 44 (.getfield 38) 3 47 := ⟨by decide +kernel, rfl⟩
theorem iX6_mark_43 : zI cX6_mark 43 (.aload_n 0) 1 44 := ⟨by decide +kernel, rfl⟩
theorem iX6_mark_40 : zI cX6_mark 40 (.getfield 60) 3 43 := ⟨by decide +kernel, rfl⟩
theorem iX6_mark_39 : zI cX6_mark 39 (.aload_n 0) 1 40 := ⟨by decide +kernel, rfl⟩
theorem iX6_mark_38 : zI cX6_mark 38 (.ireturn) 1 39 := ⟨by decide +kernel, rfl⟩
theorem iX6_mark_36 : zI cX6_mark 36 (.bipush (-2)) 2 38 := ⟨by decide +kernel, rfl⟩
theorem iX6_mark_32 : zI cX6_mark 32 (.iload_n 2) 1 33 := ⟨by decide +kernel, rfl⟩
theorem iX6_mark_31 : zI cX6_mark 31 (.iload_n 3) 1 32 := ⟨by decide +kernel, rfl⟩
theorem iX6_mark_30 : zI cX6_mark 30 (.istore_n 3) 1 31 := ⟨by decide +kernel, rfl⟩
theorem iX6_mark_29 : zI cX6_mark 29 (.iaload) 1 30 := ⟨by decide +kernel, rfl⟩
theorem iX6_mark_28 : zI cX6_mark 28 (.iload_n 1) 1 29 := ⟨by decide +kernel, rfl⟩
theorem iX6_mark_25 : zI cX6_mark 25 (.getfield 183) 3 28 := ⟨by decide +kernel, rfl⟩
theorem iX6_mark_22 : zI cX6_mark 22 (.getfield 38) 3 25 := ⟨by decide +kernel, rfl⟩
theorem iX6_mark_21 : zI cX6_mark 21 (.aload_n 0) 1 22 := ⟨by decide +kernel, rfl⟩
theorem iX6_mark_12 : zI cX6_mark 12 (.iload_n 2) 1 13 := ⟨by decide +kernel, rfl⟩
theorem iX6_mark_11 : zI cX6_mark 11 (.iload_n 1) 1 12 := ⟨by decide +kernel, rfl⟩
theorem iX6_mark_4 : zI cX6_mark 4 (.iload_n 1) 1 5 := ⟨by decide +kernel, rfl⟩
theorem iX6_mark_1 : zI cX6_mark 1 (.getfield 30) 3 4 := ⟨by decide +kernel, rfl⟩
theorem iX6_mark_0 : zI cX6_mark 0 (.aload_n 0) 1 1 := ⟨by decide +kernel, rfl⟩
set_option maxHeartbeats 4000000 in
set_option maxRecDepth 100000 in
theorem m_SS_mark (x1 : Int32) (x2 : Int32) (h : zH) : zM yX6_mark cX6_mark 4 (some .int) 4 shX (fun ad => [.ref (ad 0), .int x1, .int x2]) h eI (SS_mark x1 x2 h) := by
  refine zM.of (by decide) (fun _ => rfl) (fun _ => Nat.le_of_ble_eq_true rfl) (fun X ad hnL C => ?_)
  show zG X ad shX eI 0 [some (.ref (ad 0)), some (.int x1), some (.int x2), none] [] h _
  unfold SS_mark
  refine g_aload_n C iX6_mark_0 rfl ?_
  refine g_getR (b := 17) C fX6_30 iX6_mark_1 sh0 rfl ?_
  refine g_iload_n C iX6_mark_4 rfl ?_
  refine g_callV C wX6_177 iX6_mark_5 (m_Pl_isRow 17 isP17 x1 h) (by decide) isP17.1 rfl rfl rfl rfl (Nat.le_of_ble_eq_true rfl) (fun r => ?_)
  show zG X ad shX eI 8 [some (.ref (ad 0)), some (.int x1), some (.int x2), none] [.int r] h _
  refine g_if_eq C 19 iX6_mark_8 (by decide) (fun c8 => ?_) (fun c8 => ?_)
  · refine g_iconst C (-1) iX6_mark_19 (by decide) ?_
    exact g_iret C iX6_mark_20 rfl
  · refine g_iload_n C iX6_mark_11 rfl ?_
    refine g_iload_n C iX6_mark_12 rfl ?_
    refine g_callS C wX6_180 iX6_mark_13 (m_Pl_isMark x1 x2 h) (by decide) rfl rfl rfl (Nat.le_of_ble_eq_true rfl) (fun r_1 => ?_)
    show zG X ad shX eI 16 [some (.ref (ad 0)), some (.int x1), some (.int x2), none] [.int r_1] h _
    refine g_if_ne C 21 iX6_mark_16 (by decide) (fun c16 => ?_) (fun c16 => ?_)
    · refine g_iconst C (-1) iX6_mark_19 (by decide) ?_
      exact g_iret C iX6_mark_20 rfl
    · refine g_aload_n C iX6_mark_21 rfl ?_
      refine g_getR (b := 29) C fX6_38 iX6_mark_22 sh0 rfl ?_
      refine g_getR (b := 36) C fX6_183 iX6_mark_25 isG29.1 rfl ?_
      refine g_iload_n C iX6_mark_28 rfl ?_
      refine g_iaload C iX6_mark_29 isG29.2.2.2.2.2.2.2 ?_
      refine g_top (fun x3 => ?_)
      refine g_istore_n (lv' := [some (.ref (ad 0)), some (.int x1), some (.int x2), some (.int x3)]) C hnL iX6_mark_30 (by decide) rfl ?_
      refine g_iload_n C iX6_mark_31 rfl ?_
      refine g_iload_n C iX6_mark_32 rfl ?_
      refine g_icmp_ne C 39 iX6_mark_33 (by decide) (fun c33 => ?_) (fun c33 => ?_)
      · refine g_bipush C (-2) iX6_mark_36 (by decide) ?_
        exact g_iret C iX6_mark_38 rfl
      · refine g_aload_n C iX6_mark_39 rfl ?_
        refine g_getR (b := 47) C fX6_60 iX6_mark_40 sh0 rfl ?_
        refine g_aload_n C iX6_mark_43 rfl ?_
        refine g_getR (b := 29) C fX6_38 iX6_mark_44 sh0 rfl ?_
        refine g_callV C wX6_103 iX6_mark_47 (m_Pa_keep 29 isG29 h) (by decide) sh47 rfl rfl rfl rfl (Nat.le_of_ble_eq_true rfl) (fun h_1 => ?_)
        show zG X ad shX eI 50 [some (.ref (ad 0)), some (.int x1), some (.int x2), some (.int x3)] [] h_1 _
        refine g_aload_n C iX6_mark_50 rfl ?_
        refine g_getR (b := 29) C fX6_38 iX6_mark_51 sh0 rfl ?_
        refine g_getR (b := 36) C fX6_183 iX6_mark_54 isG29.1 rfl ?_
        refine g_iload_n C iX6_mark_57 rfl ?_
        refine g_iload_n C iX6_mark_58 rfl ?_
        refine g_iastore C iX6_mark_59 isG29.2.2.2.2.2.2.2 (fun h_2 => ?_)
        refine g_iload_n C iX6_mark_60 rfl ?_
        exact g_iret C iX6_mark_61 rfl

theorem fX6_186 : zFl RX6 186 3 2 := ⟨RX3, TX3, 3, rfl, by decide, (zmem 295 (by decide +kernel) (by decide +kernel)), u_inX3⟩
theorem iX6_undo_7 : zI cX6_undo 7 (.ifCond .ne 6) 3 10 := ⟨by decide +kernel, rfl⟩
set_option maxRecDepth 100000 in
theorem wX6_189 : zCv RX6 189 yX3_giveBack cX3_giveBack 2 none 1 := ⟨⟨(zmem 658 (by decide +kernel) (by decide +kernel)), (zmem 69 (by decide +kernel) (by decide +kernel)), (zmem 661 rfl rfl), ⟨by decide, by decide, by decide +kernel⟩, by decide⟩, (zmem 659 (by decide +kernel) (by decide +kernel)), (zmem 660 (by decide +kernel) (by decide +kernel))⟩
theorem iX6_undo_21 : zI cX6_undo 21 (.invokevirtual 189) 3 24 := ⟨by decide +kernel, rfl⟩
theorem iX6_undo_31 : zI cX6_undo 31 (.ireturn) 1 32 := ⟨by decide +kernel, rfl⟩
theorem iX6_undo_28 : zI cX6_undo 28 (.getfield 186) 3 31 := ⟨by decide +kernel, rfl⟩
theorem iX6_undo_25 : zI cX6_undo 25 (.getfield 60) 3 28 := ⟨by decide +kernel, rfl⟩
theorem iX6_undo_24 : zI cX6_undo 24 (.aload_n 0) 1 25 := ⟨by decide +kernel, rfl⟩
theorem iX6_undo_18 : zI cX6_undo 18 (.getfield 38) 3 21 := ⟨by decide +kernel, rfl⟩
theorem iX6_undo_17 : zI cX6_undo 17 (.aload_n 0) 1 18 := ⟨by decide +kernel, rfl⟩
theorem iX6_undo_14 : zI cX6_undo 14 (.getfield 60) 3 17 := ⟨by decide +kernel, rfl⟩
theorem iX6_undo_13 : zI cX6_undo 13 (.aload_n 0) 1 14 := ⟨by decide +kernel, rfl⟩
theorem iX6_undo_12 : zI cX6_undo 12 (.ireturn) 1 13 := ⟨by decide +kernel, rfl⟩
theorem iX6_undo_10 : zI cX6_undo 10 (.bipush (-2)) 2 12 := ⟨by decide +kernel, rfl⟩
theorem iX6_undo_4 : zI cX6_undo 4 (.getfield 186) 3 7 := ⟨by decide +kernel, rfl⟩
theorem iX6_undo_1 : zI cX6_undo 1 (.getfield 60) 3 4 := ⟨by decide +kernel, rfl⟩
theorem iX6_undo_0 : zI cX6_undo 0 (.aload_n 0) 1 1 := ⟨by decide +kernel, rfl⟩
set_option maxHeartbeats 4000000 in
set_option maxRecDepth 100000 in
theorem m_SS_undo (h : zH) : zM yX6_undo cX6_undo 1 (some .int) 4 shX (fun ad => [.ref (ad 0)]) h eI (SS_undo h) := by
  refine zM.of (by decide) (fun _ => rfl) (fun _ => Nat.le_of_ble_eq_true rfl) (fun X ad hnL C => ?_)
  show zG X ad shX eI 0 [some (.ref (ad 0))] [] h _
  unfold SS_undo
  refine g_aload_n C iX6_undo_0 rfl ?_
  refine g_getR (b := 47) C fX6_60 iX6_undo_1 sh0 rfl ?_
  refine g_getI C fX6_186 iX6_undo_4 sh47 rfl ?_
  refine g_if_ne C 13 iX6_undo_7 (by decide) (fun c7 => ?_) (fun c7 => ?_)
  · refine g_bipush C (-2) iX6_undo_10 (by decide) ?_
    exact g_iret C iX6_undo_12 rfl
  · refine g_aload_n C iX6_undo_13 rfl ?_
    refine g_getR (b := 47) C fX6_60 iX6_undo_14 sh0 rfl ?_
    refine g_aload_n C iX6_undo_17 rfl ?_
    refine g_getR (b := 29) C fX6_38 iX6_undo_18 sh0 rfl ?_
    refine g_callV C wX6_189 iX6_undo_21 (m_Pa_giveBack 29 isG29 h) (by decide) sh47 rfl rfl rfl rfl (Nat.le_of_ble_eq_true rfl) (fun h_1 => ?_)
    show zG X ad shX eI 24 [some (.ref (ad 0))] [] h_1 _
    refine g_aload_n C iX6_undo_24 rfl ?_
    refine g_getR (b := 47) C fX6_60 iX6_undo_25 sh0 rfl ?_
    refine g_getI C fX6_186 iX6_undo_28 sh47 rfl ?_
    exact g_iret C iX6_undo_31 rfl

theorem kJ6_265 : Cond.constant RJ6 265 1431655765 ∈ zWd := (zmem 680 (by decide +kernel) (by decide +kernel))
theorem kJ6_266 : Cond.constant RJ6 266 858993459 ∈ zWd := (zmem 681 (by decide +kernel) (by decide +kernel))
theorem kJ6_267 : Cond.constant RJ6 267 252645135 ∈ zWd := (zmem 682 (by decide +kernel) (by decide +kernel))
theorem iJ6_bitCount_0f7a4_52 : zI cJ6_bitCount_0f7a4 52 (.ireturn) 1 53 := ⟨by decide +kernel, rfl⟩
theorem iJ6_bitCount_0f7a4_51 : zI cJ6_bitCount_0f7a4 51 (.iand) 1 52 := ⟨by decide +kernel, rfl⟩
theorem iJ6_bitCount_0f7a4_49 : zI cJ6_bitCount_0f7a4 49 (.bipush 63) 2 51 := ⟨by decide +kernel, rfl⟩
theorem iJ6_bitCount_0f7a4_48 : zI cJ6_bitCount_0f7a4 48 (.iload_n 0) 1 49 := ⟨by decide +kernel, rfl⟩
theorem iJ6_bitCount_0f7a4_47 : zI cJ6_bitCount_0f7a4 47 (.istore_n 0) 1 48 := ⟨by decide +kernel, rfl⟩
theorem iJ6_bitCount_0f7a4_46 : zI cJ6_bitCount_0f7a4 46 (.iadd) 1 47 := ⟨by decide +kernel, rfl⟩
theorem iJ6_bitCount_0f7a4_45 : zI cJ6_bitCount_0f7a4 45 (.iushr) 1 46 := ⟨by decide +kernel, rfl⟩
theorem iJ6_bitCount_0f7a4_43 : zI cJ6_bitCount_0f7a4 43 (.bipush 16) 2 45 := ⟨by decide +kernel, rfl⟩
theorem iJ6_bitCount_0f7a4_42 : zI cJ6_bitCount_0f7a4 42 (.iload_n 0) 1 43 := ⟨by decide +kernel, rfl⟩
theorem iJ6_bitCount_0f7a4_41 : zI cJ6_bitCount_0f7a4 41 (.iload_n 0) 1 42 := ⟨by decide +kernel, rfl⟩
theorem iJ6_bitCount_0f7a4_40 : zI cJ6_bitCount_0f7a4 40 (.istore_n 0) 1 41 := ⟨by decide +kernel, rfl⟩
theorem iJ6_bitCount_0f7a4_39 : zI cJ6_bitCount_0f7a4 39 (.iadd) 1 40 := ⟨by decide +kernel, rfl⟩
theorem iJ6_bitCount_0f7a4_38 : zI cJ6_bitCount_0f7a4 38 (.iushr) 1 39 := ⟨by decide +kernel, rfl⟩
theorem iJ6_bitCount_0f7a4_36 : zI cJ6_bitCount_0f7a4 36 (.bipush 8) 2 38 := ⟨by decide +kernel, rfl⟩
theorem iJ6_bitCount_0f7a4_35 : zI cJ6_bitCount_0f7a4 35 (.iload_n 0) 1 36 := ⟨by decide +kernel, rfl⟩
theorem iJ6_bitCount_0f7a4_34 : zI cJ6_bitCount_0f7a4 34 (.iload_n 0) 1 35 := ⟨by decide +kernel, rfl⟩
theorem iJ6_bitCount_0f7a4_33 : zI cJ6_bitCount_0f7a4 33 (.istore_n 0) 1 34 := ⟨by decide +kernel, rfl⟩
theorem iJ6_bitCount_0f7a4_32 : zI cJ6_bitCount_0f7a4 32 (.iand) 1 33 := ⟨by decide +kernel, rfl⟩
theorem iJ6_bitCount_0f7a4_29 : zI cJ6_bitCount_0f7a4 29 (.ldc_w 267) 3 32 := ⟨by decide +kernel, rfl⟩
theorem iJ6_bitCount_0f7a4_28 : zI cJ6_bitCount_0f7a4 28 (.iadd) 1 29 := ⟨by decide +kernel, rfl⟩
theorem iJ6_bitCount_0f7a4_27 : zI cJ6_bitCount_0f7a4 27 (.iushr) 1 28 := ⟨by decide +kernel, rfl⟩
theorem iJ6_bitCount_0f7a4_26 : zI cJ6_bitCount_0f7a4 26 (.iconst 4) 1 27 := ⟨by decide +kernel, rfl⟩
theorem iJ6_bitCount_0f7a4_25 : zI cJ6_bitCount_0f7a4 25 (.iload_n 0) 1 26 := ⟨by decide +kernel, rfl⟩
theorem iJ6_bitCount_0f7a4_24 : zI cJ6_bitCount_0f7a4 24 (.iload_n 0) 1 25 := ⟨by decide +kernel, rfl⟩
theorem iJ6_bitCount_0f7a4_23 : zI cJ6_bitCount_0f7a4 23 (.istore_n 0) 1 24 := ⟨by decide +kernel, rfl⟩
theorem iJ6_bitCount_0f7a4_22 : zI cJ6_bitCount_0f7a4 22 (.iadd) 1 23 := ⟨by decide +kernel, rfl⟩
theorem iJ6_bitCount_0f7a4_21 : zI cJ6_bitCount_0f7a4 21 (.iand) 1 22 := ⟨by decide +kernel, rfl⟩
theorem iJ6_bitCount_0f7a4_18 : zI cJ6_bitCount_0f7a4 18 (.ldc_w 266) 3 21 := ⟨by decide +kernel, rfl⟩
theorem iJ6_bitCount_0f7a4_17 : zI cJ6_bitCount_0f7a4 17 (.iushr) 1 18 := ⟨by decide +kernel, rfl⟩
theorem iJ6_bitCount_0f7a4_16 : zI cJ6_bitCount_0f7a4 16 (.iconst 2) 1 17 := ⟨by decide +kernel, rfl⟩
theorem iJ6_bitCount_0f7a4_15 : zI cJ6_bitCount_0f7a4 15 (.iload_n 0) 1 16 := ⟨by decide +kernel, rfl⟩
theorem iJ6_bitCount_0f7a4_14 : zI cJ6_bitCount_0f7a4 14 (.iand) 1 15 := ⟨by decide +kernel, rfl⟩
theorem iJ6_bitCount_0f7a4_11 : zI cJ6_bitCount_0f7a4 11 (.ldc_w 266) 3 14 := ⟨by decide +kernel, rfl⟩
theorem iJ6_bitCount_0f7a4_10 : zI cJ6_bitCount_0f7a4 10 (.iload_n 0) 1 11 := ⟨by decide +kernel, rfl⟩
theorem iJ6_bitCount_0f7a4_9 : zI cJ6_bitCount_0f7a4 9 (.istore_n 0) 1 10 := ⟨by decide +kernel, rfl⟩
theorem iJ6_bitCount_0f7a4_8 : zI cJ6_bitCount_0f7a4 8 (.isub) 1 9 := ⟨by decide +kernel, rfl⟩
theorem iJ6_bitCount_0f7a4_7 : zI cJ6_bitCount_0f7a4 7 (.iand) 1 8 := ⟨by decide +kernel, rfl⟩
theorem iJ6_bitCount_0f7a4_4 : zI cJ6_bitCount_0f7a4 4 (.ldc_w 265) 3 7 := ⟨by decide +kernel, rfl⟩
theorem iJ6_bitCount_0f7a4_3 : zI cJ6_bitCount_0f7a4 3 (.iushr) 1 4 := ⟨by decide +kernel, rfl⟩
theorem iJ6_bitCount_0f7a4_2 : zI cJ6_bitCount_0f7a4 2 (.iconst 1) 1 3 := ⟨by decide +kernel, rfl⟩
theorem iJ6_bitCount_0f7a4_1 : zI cJ6_bitCount_0f7a4 1 (.iload_n 0) 1 2 := ⟨by decide +kernel, rfl⟩
theorem iJ6_bitCount_0f7a4_0 : zI cJ6_bitCount_0f7a4 0 (.iload_n 0) 1 1 := ⟨by decide +kernel, rfl⟩
set_option maxHeartbeats 4000000 in
set_option maxRecDepth 100000 in
theorem m_In_bitCount (x0 : Int32) (h : zH) : zM yJ6_bitCount_0f7a4 cJ6_bitCount_0f7a4 1 (some .int) 0 shX (fun ad => [.int x0]) h (eP h) (In_bitCount x0) := by
  refine zM.of (by decide) (fun _ => rfl) (fun _ => Nat.le_of_ble_eq_true rfl) (fun X ad hnL C => ?_)
  show zG X ad shX (eP h) 0 [some (.int x0)] [] h _
  unfold In_bitCount
  refine g_iload_n C iJ6_bitCount_0f7a4_0 rfl ?_
  refine g_iload_n C iJ6_bitCount_0f7a4_1 rfl ?_
  refine g_iconst C 1 iJ6_bitCount_0f7a4_2 (by decide) ?_
  refine g_iushr C iJ6_bitCount_0f7a4_3 ?_
  refine g_ldcw C (v := 1431655765) kJ6_265 iJ6_bitCount_0f7a4_4 ?_
  refine g_iand C iJ6_bitCount_0f7a4_7 ?_
  refine g_isub C iJ6_bitCount_0f7a4_8 ?_
  refine g_top (fun x0_1 => ?_)
  refine g_istore_n (lv' := [some (.int x0_1)]) C hnL iJ6_bitCount_0f7a4_9 (by decide) rfl ?_
  refine g_iload_n C iJ6_bitCount_0f7a4_10 rfl ?_
  refine g_ldcw C (v := 858993459) kJ6_266 iJ6_bitCount_0f7a4_11 ?_
  refine g_iand C iJ6_bitCount_0f7a4_14 ?_
  refine g_iload_n C iJ6_bitCount_0f7a4_15 rfl ?_
  refine g_iconst C 2 iJ6_bitCount_0f7a4_16 (by decide) ?_
  refine g_iushr C iJ6_bitCount_0f7a4_17 ?_
  refine g_ldcw C (v := 858993459) kJ6_266 iJ6_bitCount_0f7a4_18 ?_
  refine g_iand C iJ6_bitCount_0f7a4_21 ?_
  refine g_iadd C iJ6_bitCount_0f7a4_22 ?_
  refine g_top (fun x0_2 => ?_)
  refine g_istore_n (lv' := [some (.int x0_2)]) C hnL iJ6_bitCount_0f7a4_23 (by decide) rfl ?_
  refine g_iload_n C iJ6_bitCount_0f7a4_24 rfl ?_
  refine g_iload_n C iJ6_bitCount_0f7a4_25 rfl ?_
  refine g_iconst C 4 iJ6_bitCount_0f7a4_26 (by decide) ?_
  refine g_iushr C iJ6_bitCount_0f7a4_27 ?_
  refine g_iadd C iJ6_bitCount_0f7a4_28 ?_
  refine g_ldcw C (v := 252645135) kJ6_267 iJ6_bitCount_0f7a4_29 ?_
  refine g_iand C iJ6_bitCount_0f7a4_32 ?_
  refine g_top (fun x0_3 => ?_)
  refine g_istore_n (lv' := [some (.int x0_3)]) C hnL iJ6_bitCount_0f7a4_33 (by decide) rfl ?_
  refine g_iload_n C iJ6_bitCount_0f7a4_34 rfl ?_
  refine g_iload_n C iJ6_bitCount_0f7a4_35 rfl ?_
  refine g_bipush C 8 iJ6_bitCount_0f7a4_36 (by decide) ?_
  refine g_iushr C iJ6_bitCount_0f7a4_38 ?_
  refine g_iadd C iJ6_bitCount_0f7a4_39 ?_
  refine g_top (fun x0_4 => ?_)
  refine g_istore_n (lv' := [some (.int x0_4)]) C hnL iJ6_bitCount_0f7a4_40 (by decide) rfl ?_
  refine g_iload_n C iJ6_bitCount_0f7a4_41 rfl ?_
  refine g_iload_n C iJ6_bitCount_0f7a4_42 rfl ?_
  refine g_bipush C 16 iJ6_bitCount_0f7a4_43 (by decide) ?_
  refine g_iushr C iJ6_bitCount_0f7a4_45 ?_
  refine g_iadd C iJ6_bitCount_0f7a4_46 ?_
  refine g_top (fun x0_5 => ?_)
  refine g_istore_n (lv' := [some (.int x0_5)]) C hnL iJ6_bitCount_0f7a4_47 (by decide) rfl ?_
  refine g_iload_n C iJ6_bitCount_0f7a4_48 rfl ?_
  refine g_bipush C 63 iJ6_bitCount_0f7a4_49 (by decide) ?_
  refine g_iand C iJ6_bitCount_0f7a4_51 ?_
  exact g_iret C iJ6_bitCount_0f7a4_52 rfl

set_option maxRecDepth 100000 in
theorem wX6_192 : zCv RX6 192 yX1_rootOf cX1_rootOf 4 (some .int) 1 := ⟨⟨(zmem 666 (by decide +kernel) (by decide +kernel)), (zmem 67 (by decide +kernel) (by decide +kernel)), (zmem 669 rfl rfl), ⟨by decide, by decide, by decide +kernel⟩, by decide⟩, (zmem 667 (by decide +kernel) (by decide +kernel)), (zmem 668 (by decide +kernel) (by decide +kernel))⟩
theorem iX6_island_5 : zI cX6_island 5 (.invokevirtual 192) 3 8 := ⟨by decide +kernel, rfl⟩
theorem iX6_island_10 : zI cX6_island 10 (.ifCond .ge 5) 3 13 := ⟨by decide +kernel, rfl⟩
theorem iX6_island_16 : zI cX6_island 16 (.tableswitch 157 0 8 #[52, 61, 71, 80, 89, 98, 107, 120, 133]) 52 68 := ⟨by decide +kernel, rfl⟩
set_option maxRecDepth 100000 in
theorem wX6_195 : zCv RX6 195 yX1_busBits cX1_busBits 4 (some .int) 1 := ⟨⟨(zmem 670 (by decide +kernel) (by decide +kernel)), (zmem 67 (by decide +kernel) (by decide +kernel)), (zmem 673 rfl rfl), ⟨by decide, by decide, by decide +kernel⟩, by decide⟩, (zmem 671 (by decide +kernel) (by decide +kernel)), (zmem 672 (by decide +kernel) (by decide +kernel))⟩
theorem iX6_island_73 : zI cX6_island 73 (.invokevirtual 195) 3 76 := ⟨by decide +kernel, rfl⟩
theorem iX6_island_76 : zI cX6_island 76 (.ireturn) 1 77 := ⟨by decide +kernel, rfl⟩
theorem iX6_island_72 : zI cX6_island 72 (.iload_n 3) 1 73 := ⟨by decide +kernel, rfl⟩
theorem iX6_island_69 : zI cX6_island 69 (.getfield 38) 3 72 := ⟨by decide +kernel, rfl⟩
theorem iX6_island_68 : zI cX6_island 68 (.aload_n 0) 1 69 := ⟨by decide +kernel, rfl⟩
theorem iX6_island_86 : zI cX6_island 86 (.ireturn) 1 87 := ⟨by decide +kernel, rfl⟩
theorem iX6_island_85 : zI cX6_island 85 (.iaload) 1 86 := ⟨by decide +kernel, rfl⟩
theorem iX6_island_84 : zI cX6_island 84 (.iload_n 3) 1 85 := ⟨by decide +kernel, rfl⟩
theorem iX6_island_81 : zI cX6_island 81 (.getfield 171) 3 84 := ⟨by decide +kernel, rfl⟩
theorem iX6_island_78 : zI cX6_island 78 (.getfield 38) 3 81 := ⟨by decide +kernel, rfl⟩
theorem iX6_island_77 : zI cX6_island 77 (.aload_n 0) 1 78 := ⟨by decide +kernel, rfl⟩
theorem iX6_island_92 : zI cX6_island 92 (.invokevirtual 161) 3 95 := ⟨by decide +kernel, rfl⟩
theorem iX6_island_95 : zI cX6_island 95 (.ireturn) 1 96 := ⟨by decide +kernel, rfl⟩
theorem iX6_island_91 : zI cX6_island 91 (.iload_n 3) 1 92 := ⟨by decide +kernel, rfl⟩
theorem iX6_island_88 : zI cX6_island 88 (.getfield 38) 3 91 := ⟨by decide +kernel, rfl⟩
theorem iX6_island_87 : zI cX6_island 87 (.aload_n 0) 1 88 := ⟨by decide +kernel, rfl⟩
set_option maxRecDepth 100000 in
theorem wX6_198 : zCv RX6 198 yX1_givenOf cX1_givenOf 2 (some .int) 1 := ⟨⟨(zmem 674 (by decide +kernel) (by decide +kernel)), (zmem 67 (by decide +kernel) (by decide +kernel)), (zmem 446 rfl rfl), ⟨by decide, by decide, by decide +kernel⟩, by decide⟩, (zmem 444 (by decide +kernel) (by decide +kernel)), (zmem 445 (by decide +kernel) (by decide +kernel))⟩
theorem iX6_island_101 : zI cX6_island 101 (.invokevirtual 198) 3 104 := ⟨by decide +kernel, rfl⟩
theorem iX6_island_104 : zI cX6_island 104 (.ireturn) 1 105 := ⟨by decide +kernel, rfl⟩
theorem iX6_island_100 : zI cX6_island 100 (.iload_n 3) 1 101 := ⟨by decide +kernel, rfl⟩
theorem iX6_island_97 : zI cX6_island 97 (.getfield 38) 3 100 := ⟨by decide +kernel, rfl⟩
theorem iX6_island_96 : zI cX6_island 96 (.aload_n 0) 1 97 := ⟨by decide +kernel, rfl⟩
set_option maxRecDepth 100000 in
theorem wX6_201 : zCv RX6 201 yX1_capOf cX1_capOf 2 (some .int) 1 := ⟨⟨(zmem 675 (by decide +kernel) (by decide +kernel)), (zmem 67 (by decide +kernel) (by decide +kernel)), (zmem 587 rfl rfl), ⟨by decide, by decide, by decide +kernel⟩, by decide⟩, (zmem 585 (by decide +kernel) (by decide +kernel)), (zmem 586 (by decide +kernel) (by decide +kernel))⟩
theorem iX6_island_110 : zI cX6_island 110 (.invokevirtual 201) 3 113 := ⟨by decide +kernel, rfl⟩
theorem iX6_island_113 : zI cX6_island 113 (.ireturn) 1 114 := ⟨by decide +kernel, rfl⟩
theorem iX6_island_109 : zI cX6_island 109 (.iload_n 3) 1 110 := ⟨by decide +kernel, rfl⟩
theorem iX6_island_106 : zI cX6_island 106 (.getfield 38) 3 109 := ⟨by decide +kernel, rfl⟩
theorem iX6_island_105 : zI cX6_island 105 (.aload_n 0) 1 106 := ⟨by decide +kernel, rfl⟩
theorem iX6_island_119 : zI cX6_island 119 (.invokevirtual 168) 3 122 := ⟨by decide +kernel, rfl⟩
theorem iX6_island_122 : zI cX6_island 122 (.ireturn) 1 123 := ⟨by decide +kernel, rfl⟩
theorem iX6_island_118 : zI cX6_island 118 (.iload_n 3) 1 119 := ⟨by decide +kernel, rfl⟩
theorem iX6_island_115 : zI cX6_island 115 (.getfield 38) 3 118 := ⟨by decide +kernel, rfl⟩
theorem iX6_island_114 : zI cX6_island 114 (.aload_n 0) 1 115 := ⟨by decide +kernel, rfl⟩
set_option maxRecDepth 100000 in
theorem wX6_204 : zCv RX6 204 yX1_feederBits cX1_feederBits 5 (some .int) 2 := ⟨⟨(zmem 676 (by decide +kernel) (by decide +kernel)), (zmem 67 (by decide +kernel) (by decide +kernel)), (zmem 557 rfl rfl), ⟨by decide, by decide, by decide +kernel⟩, by decide⟩, (zmem 555 (by decide +kernel) (by decide +kernel)), (zmem 556 (by decide +kernel) (by decide +kernel))⟩
theorem iX6_island_129 : zI cX6_island 129 (.invokevirtual 204) 3 132 := ⟨by decide +kernel, rfl⟩
set_option maxRecDepth 100000 in
theorem wX6_208 : zCs RX6 208 yJ6_bitCount_0f7a4 cJ6_bitCount_0f7a4 1 (some .int) 1 := ⟨⟨(zmem 677 (by decide +kernel) (by decide +kernel)), (zmem 77 (by decide +kernel) (by decide +kernel)), (zmem 679 rfl rfl), ⟨by decide, by decide, by decide +kernel⟩, by decide⟩, (zmem 678 (by decide +kernel) (by decide +kernel))⟩
theorem iX6_island_132 : zI cX6_island 132 (.invokestatic 208) 3 135 := ⟨by decide +kernel, rfl⟩
theorem iX6_island_135 : zI cX6_island 135 (.ireturn) 1 136 := ⟨by decide +kernel, rfl⟩
theorem iX6_island_128 : zI cX6_island 128 (.iconst 1) 1 129 := ⟨by decide +kernel, rfl⟩
theorem iX6_island_127 : zI cX6_island 127 (.iload_n 3) 1 128 := ⟨by decide +kernel, rfl⟩
theorem iX6_island_124 : zI cX6_island 124 (.getfield 38) 3 127 := ⟨by decide +kernel, rfl⟩
theorem iX6_island_123 : zI cX6_island 123 (.aload_n 0) 1 124 := ⟨by decide +kernel, rfl⟩
theorem iX6_island_142 : zI cX6_island 142 (.invokevirtual 204) 3 145 := ⟨by decide +kernel, rfl⟩
theorem iX6_island_145 : zI cX6_island 145 (.invokestatic 208) 3 148 := ⟨by decide +kernel, rfl⟩
theorem iX6_island_148 : zI cX6_island 148 (.ireturn) 1 149 := ⟨by decide +kernel, rfl⟩
theorem iX6_island_141 : zI cX6_island 141 (.iconst 0) 1 142 := ⟨by decide +kernel, rfl⟩
theorem iX6_island_140 : zI cX6_island 140 (.iload_n 3) 1 141 := ⟨by decide +kernel, rfl⟩
theorem iX6_island_137 : zI cX6_island 137 (.getfield 38) 3 140 := ⟨by decide +kernel, rfl⟩
theorem iX6_island_136 : zI cX6_island 136 (.aload_n 0) 1 137 := ⟨by decide +kernel, rfl⟩
theorem iX6_island_154 : zI cX6_island 154 (.invokevirtual 152) 3 157 := ⟨by decide +kernel, rfl⟩
theorem iX6_island_157 : zI cX6_island 157 (.ifCond .eq 7) 3 160 := ⟨by decide +kernel, rfl⟩
set_option maxRecDepth 100000 in
theorem wX6_213 : zCv RX6 213 yX1_aimOf cX1_aimOf 2 (some .int) 1 := ⟨⟨(zmem 683 (by decide +kernel) (by decide +kernel)), (zmem 67 (by decide +kernel) (by decide +kernel)), (zmem 540 rfl rfl), ⟨by decide, by decide, by decide +kernel⟩, by decide⟩, (zmem 538 (by decide +kernel) (by decide +kernel)), (zmem 539 (by decide +kernel) (by decide +kernel))⟩
theorem iX6_island_169 : zI cX6_island 169 (.invokevirtual 213) 3 172 := ⟨by decide +kernel, rfl⟩
theorem iX6_island_172 : zI cX6_island 172 (.ireturn) 1 173 := ⟨by decide +kernel, rfl⟩
theorem iX6_island_168 : zI cX6_island 168 (.iload_n 3) 1 169 := ⟨by decide +kernel, rfl⟩
theorem iX6_island_165 : zI cX6_island 165 (.getfield 38) 3 168 := ⟨by decide +kernel, rfl⟩
theorem iX6_island_164 : zI cX6_island 164 (.aload_n 0) 1 165 := ⟨by decide +kernel, rfl⟩
theorem iX6_island_161 : zI cX6_island 161 (.goto 11) 3 164 := ⟨by decide +kernel, rfl⟩
theorem iX6_island_160 : zI cX6_island 160 (.iconst 0) 1 161 := ⟨by decide +kernel, rfl⟩
theorem iX6_island_153 : zI cX6_island 153 (.iload_n 3) 1 154 := ⟨by decide +kernel, rfl⟩
theorem iX6_island_150 : zI cX6_island 150 (.getfield 38) 3 153 := ⟨by decide +kernel, rfl⟩
theorem iX6_island_149 : zI cX6_island 149 (.aload_n 0) 1 150 := ⟨by decide +kernel, rfl⟩
theorem iX6_island_174 : zI cX6_island 174 (.ireturn) 1 175 := ⟨by decide +kernel, rfl⟩
theorem iX6_island_173 : zI cX6_island 173 (.iconst (-1)) 1 174 := ⟨by decide +kernel, rfl⟩
theorem iX6_island_15 : zI cX6_island 15 (.iload_n 2) 1 16 := ⟨by decide +kernel, rfl⟩
theorem iX6_island_14 : zI cX6_island 14 (.ireturn) 1 15 := ⟨by decide +kernel, rfl⟩
theorem iX6_island_13 : zI cX6_island 13 (.iconst (-1)) 1 14 := ⟨by decide +kernel, rfl⟩
theorem iX6_island_9 : zI cX6_island 9 (.iload_n 3) 1 10 := ⟨by decide +kernel, rfl⟩
theorem iX6_island_8 : zI cX6_island 8 (.istore_n 3) 1 9 := ⟨by decide +kernel, rfl⟩
theorem iX6_island_4 : zI cX6_island 4 (.iload_n 1) 1 5 := ⟨by decide +kernel, rfl⟩
theorem iX6_island_1 : zI cX6_island 1 (.getfield 38) 3 4 := ⟨by decide +kernel, rfl⟩
theorem iX6_island_0 : zI cX6_island 0 (.aload_n 0) 1 1 := ⟨by decide +kernel, rfl⟩
set_option maxHeartbeats 4000000 in
set_option maxRecDepth 100000 in
theorem m_SS_island (x1 : Int32) (x2 : Int32) (h : zH) : zM yX6_island cX6_island 4 (some .int) 3 shX (fun ad => [.ref (ad 0), .int x1, .int x2]) h (eP h) (SS_island x1 x2 h) := by
  refine zM.of (by decide) (fun _ => rfl) (fun _ => Nat.le_of_ble_eq_true rfl) (fun X ad hnL C => ?_)
  show zG X ad shX (eP h) 0 [some (.ref (ad 0)), some (.int x1), some (.int x2), none] [] h _
  unfold SS_island
  refine g_aload_n C iX6_island_0 rfl ?_
  refine g_getR (b := 29) C fX6_38 iX6_island_1 sh0 rfl ?_
  refine g_iload_n C iX6_island_4 rfl ?_
  refine g_callV C wX6_192 iX6_island_5 (m_Gr_rootOf 29 isG29 x1 h) (by decide) isG29.1 rfl rfl rfl rfl (Nat.le_of_ble_eq_true rfl) (fun r => ?_)
  show zG X ad shX (eP h) 8 [some (.ref (ad 0)), some (.int x1), some (.int x2), none] [.int r] h _
  refine g_istore_n (lv' := [some (.ref (ad 0)), some (.int x1), some (.int x2), some (.int r)]) C hnL iX6_island_8 (by decide) rfl ?_
  refine g_iload_n C iX6_island_9 rfl ?_
  refine g_if_ge C 15 iX6_island_10 (by decide) (fun c10 => ?_) (fun c10 => ?_)
  · refine g_iload_n C iX6_island_15 rfl ?_
    refine g_ite (fun c16 => ?_) (fun c16_0 => ?_)
    · refine g_tab C 68 iX6_island_16 (by rw [c16]; decide +kernel) ?_
      refine g_aload_n C iX6_island_68 rfl ?_
      refine g_getR (b := 29) C fX6_38 iX6_island_69 sh0 rfl ?_
      refine g_iload_n C iX6_island_72 rfl ?_
      refine g_callV C wX6_195 iX6_island_73 (m_Gr_busBits 29 isG29 r h) (by decide) isG29.1 rfl rfl rfl rfl (Nat.le_of_ble_eq_true rfl) (fun r_1 => ?_)
      show zG X ad shX (eP h) 76 [some (.ref (ad 0)), some (.int x1), some (.int x2), some (.int r)] [.int r_1] h _
      exact g_iret C iX6_island_76 rfl
    refine g_ite (fun c16 => ?_) (fun c16_1 => ?_)
    · refine g_tab C 77 iX6_island_16 (by rw [c16]; decide +kernel) ?_
      refine g_aload_n C iX6_island_77 rfl ?_
      refine g_getR (b := 29) C fX6_38 iX6_island_78 sh0 rfl ?_
      refine g_getR (b := 32) C fX6_171 iX6_island_81 isG29.1 rfl ?_
      refine g_iload_n C iX6_island_84 rfl ?_
      refine g_iaload C iX6_island_85 isG29.2.2.2.1 ?_
      exact g_iret C iX6_island_86 rfl
    refine g_ite (fun c16 => ?_) (fun c16_2 => ?_)
    · refine g_tab C 87 iX6_island_16 (by rw [c16]; decide +kernel) ?_
      refine g_aload_n C iX6_island_87 rfl ?_
      refine g_getR (b := 29) C fX6_38 iX6_island_88 sh0 rfl ?_
      refine g_iload_n C iX6_island_91 rfl ?_
      refine g_callV C wX6_161 iX6_island_92 (m_Gr_loadOf 29 isG29 r h) (by decide) isG29.1 rfl rfl rfl rfl (Nat.le_of_ble_eq_true rfl) (fun r_2 => ?_)
      show zG X ad shX (eP h) 95 [some (.ref (ad 0)), some (.int x1), some (.int x2), some (.int r)] [.int r_2] h _
      exact g_iret C iX6_island_95 rfl
    refine g_ite (fun c16 => ?_) (fun c16_3 => ?_)
    · refine g_tab C 96 iX6_island_16 (by rw [c16]; decide +kernel) ?_
      refine g_aload_n C iX6_island_96 rfl ?_
      refine g_getR (b := 29) C fX6_38 iX6_island_97 sh0 rfl ?_
      refine g_iload_n C iX6_island_100 rfl ?_
      refine g_callV C wX6_198 iX6_island_101 (m_Gr_givenOf 29 isG29 r h) (by decide) isG29.1 rfl rfl rfl rfl (Nat.le_of_ble_eq_true rfl) (fun r_3 => ?_)
      show zG X ad shX (eP h) 104 [some (.ref (ad 0)), some (.int x1), some (.int x2), some (.int r)] [.int r_3] h _
      exact g_iret C iX6_island_104 rfl
    refine g_ite (fun c16 => ?_) (fun c16_4 => ?_)
    · refine g_tab C 105 iX6_island_16 (by rw [c16]; decide +kernel) ?_
      refine g_aload_n C iX6_island_105 rfl ?_
      refine g_getR (b := 29) C fX6_38 iX6_island_106 sh0 rfl ?_
      refine g_iload_n C iX6_island_109 rfl ?_
      refine g_callV C wX6_201 iX6_island_110 (m_Gr_capOf 29 isG29 r h) (by decide) isG29.1 rfl rfl rfl rfl (Nat.le_of_ble_eq_true rfl) (fun r_4 => ?_)
      show zG X ad shX (eP h) 113 [some (.ref (ad 0)), some (.int x1), some (.int x2), some (.int r)] [.int r_4] h _
      exact g_iret C iX6_island_113 rfl
    refine g_ite (fun c16 => ?_) (fun c16_5 => ?_)
    · refine g_tab C 114 iX6_island_16 (by rw [c16]; decide +kernel) ?_
      refine g_aload_n C iX6_island_114 rfl ?_
      refine g_getR (b := 29) C fX6_38 iX6_island_115 sh0 rfl ?_
      refine g_iload_n C iX6_island_118 rfl ?_
      refine g_callV C wX6_168 iX6_island_119 (m_Gr_heavyOf 29 isG29 r h) (by decide) isG29.1 rfl rfl rfl rfl (Nat.le_of_ble_eq_true rfl) (fun r_5 => ?_)
      show zG X ad shX (eP h) 122 [some (.ref (ad 0)), some (.int x1), some (.int x2), some (.int r)] [.int r_5] h _
      exact g_iret C iX6_island_122 rfl
    refine g_ite (fun c16 => ?_) (fun c16_6 => ?_)
    · refine g_tab C 123 iX6_island_16 (by rw [c16]; decide +kernel) ?_
      refine g_aload_n C iX6_island_123 rfl ?_
      refine g_getR (b := 29) C fX6_38 iX6_island_124 sh0 rfl ?_
      refine g_iload_n C iX6_island_127 rfl ?_
      refine g_iconst C 1 iX6_island_128 (by decide) ?_
      refine g_callV C wX6_204 iX6_island_129 (m_Gr_feederBits 29 isG29 r 1 h) (by decide) isG29.1 rfl rfl rfl rfl (Nat.le_of_ble_eq_true rfl) (fun r_6 => ?_)
      show zG X ad shX (eP h) 132 [some (.ref (ad 0)), some (.int x1), some (.int x2), some (.int r)] [.int r_6] h _
      refine g_callS C wX6_208 iX6_island_132 (m_In_bitCount r_6 h) (by decide) rfl rfl rfl (Nat.le_of_ble_eq_true rfl) (fun r_7 => ?_)
      show zG X ad shX (eP h) 135 [some (.ref (ad 0)), some (.int x1), some (.int x2), some (.int r)] [.int r_7] h _
      exact g_iret C iX6_island_135 rfl
    refine g_ite (fun c16 => ?_) (fun c16_7 => ?_)
    · refine g_tab C 136 iX6_island_16 (by rw [c16]; decide +kernel) ?_
      refine g_aload_n C iX6_island_136 rfl ?_
      refine g_getR (b := 29) C fX6_38 iX6_island_137 sh0 rfl ?_
      refine g_iload_n C iX6_island_140 rfl ?_
      refine g_iconst C 0 iX6_island_141 (by decide) ?_
      refine g_callV C wX6_204 iX6_island_142 (m_Gr_feederBits 29 isG29 r 0 h) (by decide) isG29.1 rfl rfl rfl rfl (Nat.le_of_ble_eq_true rfl) (fun r_8 => ?_)
      show zG X ad shX (eP h) 145 [some (.ref (ad 0)), some (.int x1), some (.int x2), some (.int r)] [.int r_8] h _
      refine g_callS C wX6_208 iX6_island_145 (m_In_bitCount r_8 h) (by decide) rfl rfl rfl (Nat.le_of_ble_eq_true rfl) (fun r_9 => ?_)
      show zG X ad shX (eP h) 148 [some (.ref (ad 0)), some (.int x1), some (.int x2), some (.int r)] [.int r_9] h _
      exact g_iret C iX6_island_148 rfl
    refine g_ite (fun c16 => ?_) (fun c16_8 => ?_)
    · refine g_tab C 149 iX6_island_16 (by rw [c16]; decide +kernel) ?_
      refine g_aload_n C iX6_island_149 rfl ?_
      refine g_getR (b := 29) C fX6_38 iX6_island_150 sh0 rfl ?_
      refine g_iload_n C iX6_island_153 rfl ?_
      refine g_callV C wX6_152 iX6_island_154 (m_Gr_isDark 29 isG29 r h) (by decide) isG29.1 rfl rfl rfl rfl (Nat.le_of_ble_eq_true rfl) (fun r_10 => ?_)
      show zG X ad shX (eP h) 157 [some (.ref (ad 0)), some (.int x1), some (.int x2), some (.int r)] [.int r_10] h _
      refine g_if_eq C 164 iX6_island_157 (by decide) (fun c157 => ?_) (fun c157 => ?_)
      · refine g_aload_n C iX6_island_164 rfl ?_
        refine g_getR (b := 29) C fX6_38 iX6_island_165 sh0 rfl ?_
        refine g_iload_n C iX6_island_168 rfl ?_
        refine g_callV C wX6_213 iX6_island_169 (m_Gr_aimOf 29 isG29 r h) (by decide) isG29.1 rfl rfl rfl rfl (Nat.le_of_ble_eq_true rfl) (fun r_11 => ?_)
        show zG X ad shX (eP h) 172 [some (.ref (ad 0)), some (.int x1), some (.int x2), some (.int r)] [.int r_11] h _
        exact g_iret C iX6_island_172 rfl
      · refine g_iconst C 0 iX6_island_160 (by decide) ?_
        refine g_goto C 172 iX6_island_161 (by decide) ?_
        exact g_iret C iX6_island_172 rfl
    refine g_tab C 173 iX6_island_16 ((zTg_def [0, 1, 2, 3, 4, 5, 6, 7, 8] (List.forall_mem_cons.mpr ⟨fun z9 => c16_0 (Int32.toInt_inj.mp (z9.trans (by decide))), List.forall_mem_cons.mpr ⟨fun z9 => c16_1 (Int32.toInt_inj.mp (z9.trans (by decide))), List.forall_mem_cons.mpr ⟨fun z9 => c16_2 (Int32.toInt_inj.mp (z9.trans (by decide))), List.forall_mem_cons.mpr ⟨fun z9 => c16_3 (Int32.toInt_inj.mp (z9.trans (by decide))), List.forall_mem_cons.mpr ⟨fun z9 => c16_4 (Int32.toInt_inj.mp (z9.trans (by decide))), List.forall_mem_cons.mpr ⟨fun z9 => c16_5 (Int32.toInt_inj.mp (z9.trans (by decide))), List.forall_mem_cons.mpr ⟨fun z9 => c16_6 (Int32.toInt_inj.mp (z9.trans (by decide))), List.forall_mem_cons.mpr ⟨fun z9 => c16_7 (Int32.toInt_inj.mp (z9.trans (by decide))), List.forall_mem_cons.mpr ⟨fun z9 => c16_8 (Int32.toInt_inj.mp (z9.trans (by decide))), fun _ h9 => by cases h9⟩⟩⟩⟩⟩⟩⟩⟩⟩) (by decide +kernel)).trans (by decide)) ?_
    refine g_iconst C (-1) iX6_island_173 (by decide) ?_
    exact g_iret C iX6_island_174 rfl
  · refine g_iconst C (-1) iX6_island_13 (by decide) ?_
    exact g_iret C iX6_island_14 rfl

theorem iX6_counted_5 : zI cX6_counted 5 (.invokevirtual 192) 3 8 := ⟨by decide +kernel, rfl⟩
theorem iX6_counted_10 : zI cX6_counted 10 (.ifCond .lt 14) 3 13 := ⟨by decide +kernel, rfl⟩
theorem iX6_counted_25 : zI cX6_counted 25 (.ireturn) 1 26 := ⟨by decide +kernel, rfl⟩
theorem iX6_counted_24 : zI cX6_counted 24 (.iconst (-1)) 1 25 := ⟨by decide +kernel, rfl⟩
theorem iX6_counted_18 : zI cX6_counted 18 (.invokevirtual 177) 3 21 := ⟨by decide +kernel, rfl⟩
theorem iX6_counted_21 : zI cX6_counted 21 (.ifCond .ne 5) 3 24 := ⟨by decide +kernel, rfl⟩
theorem fX6_216 : zFl RX6 216 1 5 := ⟨RX1, TX1, 12, rfl, by decide, (zmem 215 (by decide +kernel) (by decide +kernel)), u_inX1⟩
theorem iX6_counted_40 : zI cX6_counted 40 (.ireturn) 1 41 := ⟨by decide +kernel, rfl⟩
theorem iX6_counted_39 : zI cX6_counted 39 (.iaload) 1 40 := ⟨by decide +kernel, rfl⟩
theorem iX6_counted_38 : zI cX6_counted 38 (.iadd) 1 39 := ⟨by decide +kernel, rfl⟩
theorem iX6_counted_37 : zI cX6_counted 37 (.iload_n 2) 1 38 := ⟨by decide +kernel, rfl⟩
theorem iX6_counted_36 : zI cX6_counted 36 (.imul) 1 37 := ⟨by decide +kernel, rfl⟩
theorem iX6_counted_34 : zI cX6_counted 34 (.bipush 6) 2 36 := ⟨by decide +kernel, rfl⟩
theorem iX6_counted_33 : zI cX6_counted 33 (.iload_n 3) 1 34 := ⟨by decide +kernel, rfl⟩
theorem iX6_counted_30 : zI cX6_counted 30 (.getfield 216) 3 33 := ⟨by decide +kernel, rfl⟩
theorem iX6_counted_27 : zI cX6_counted 27 (.getfield 38) 3 30 := ⟨by decide +kernel, rfl⟩
theorem iX6_counted_26 : zI cX6_counted 26 (.aload_n 0) 1 27 := ⟨by decide +kernel, rfl⟩
theorem iX6_counted_17 : zI cX6_counted 17 (.iload_n 2) 1 18 := ⟨by decide +kernel, rfl⟩
theorem iX6_counted_14 : zI cX6_counted 14 (.getfield 30) 3 17 := ⟨by decide +kernel, rfl⟩
theorem iX6_counted_13 : zI cX6_counted 13 (.aload_n 0) 1 14 := ⟨by decide +kernel, rfl⟩
theorem iX6_counted_9 : zI cX6_counted 9 (.iload_n 3) 1 10 := ⟨by decide +kernel, rfl⟩
theorem iX6_counted_8 : zI cX6_counted 8 (.istore_n 3) 1 9 := ⟨by decide +kernel, rfl⟩
theorem iX6_counted_4 : zI cX6_counted 4 (.iload_n 1) 1 5 := ⟨by decide +kernel, rfl⟩
theorem iX6_counted_1 : zI cX6_counted 1 (.getfield 38) 3 4 := ⟨by decide +kernel, rfl⟩
theorem iX6_counted_0 : zI cX6_counted 0 (.aload_n 0) 1 1 := ⟨by decide +kernel, rfl⟩
set_option maxHeartbeats 4000000 in
set_option maxRecDepth 100000 in
theorem m_SS_counted (x1 : Int32) (x2 : Int32) (h : zH) : zM yX6_counted cX6_counted 4 (some .int) 1 shX (fun ad => [.ref (ad 0), .int x1, .int x2]) h (eP h) (SS_counted x1 x2 h) := by
  refine zM.of (by decide) (fun _ => rfl) (fun _ => Nat.le_of_ble_eq_true rfl) (fun X ad hnL C => ?_)
  show zG X ad shX (eP h) 0 [some (.ref (ad 0)), some (.int x1), some (.int x2), none] [] h _
  unfold SS_counted
  refine g_aload_n C iX6_counted_0 rfl ?_
  refine g_getR (b := 29) C fX6_38 iX6_counted_1 sh0 rfl ?_
  refine g_iload_n C iX6_counted_4 rfl ?_
  refine g_callV C wX6_192 iX6_counted_5 (m_Gr_rootOf 29 isG29 x1 h) (by decide) isG29.1 rfl rfl rfl rfl (Nat.le_of_ble_eq_true rfl) (fun r => ?_)
  show zG X ad shX (eP h) 8 [some (.ref (ad 0)), some (.int x1), some (.int x2), none] [.int r] h _
  refine g_istore_n (lv' := [some (.ref (ad 0)), some (.int x1), some (.int x2), some (.int r)]) C hnL iX6_counted_8 (by decide) rfl ?_
  refine g_iload_n C iX6_counted_9 rfl ?_
  refine g_if_lt C 24 iX6_counted_10 (by decide) (fun c10 => ?_) (fun c10 => ?_)
  · refine g_iconst C (-1) iX6_counted_24 (by decide) ?_
    exact g_iret C iX6_counted_25 rfl
  · refine g_aload_n C iX6_counted_13 rfl ?_
    refine g_getR (b := 17) C fX6_30 iX6_counted_14 sh0 rfl ?_
    refine g_iload_n C iX6_counted_17 rfl ?_
    refine g_callV C wX6_177 iX6_counted_18 (m_Pl_isRow 17 isP17 x2 h) (by decide) isP17.1 rfl rfl rfl rfl (Nat.le_of_ble_eq_true rfl) (fun r_1 => ?_)
    show zG X ad shX (eP h) 21 [some (.ref (ad 0)), some (.int x1), some (.int x2), some (.int r)] [.int r_1] h _
    refine g_if_ne C 26 iX6_counted_21 (by decide) (fun c21 => ?_) (fun c21 => ?_)
    · refine g_iconst C (-1) iX6_counted_24 (by decide) ?_
      exact g_iret C iX6_counted_25 rfl
    · refine g_aload_n C iX6_counted_26 rfl ?_
      refine g_getR (b := 29) C fX6_38 iX6_counted_27 sh0 rfl ?_
      refine g_getR (b := 33) C fX6_216 iX6_counted_30 isG29.1 rfl ?_
      refine g_iload_n C iX6_counted_33 rfl ?_
      refine g_bipush C 6 iX6_counted_34 (by decide) ?_
      refine g_imul C iX6_counted_36 ?_
      refine g_iload_n C iX6_counted_37 rfl ?_
      refine g_iadd C iX6_counted_38 ?_
      refine g_iaload C iX6_counted_39 isG29.2.2.2.2.1 ?_
      exact g_iret C iX6_counted_40 rfl

theorem iX6_at_5 : zI cX6_at 5 (.invokevirtual 165) 3 8 := ⟨by decide +kernel, rfl⟩
theorem iX6_at_8 : zI cX6_at 8 (.ifCond .eq 22) 3 11 := ⟨by decide +kernel, rfl⟩
theorem iX6_at_31 : zI cX6_at 31 (.ireturn) 1 32 := ⟨by decide +kernel, rfl⟩
theorem iX6_at_30 : zI cX6_at 30 (.iconst (-1)) 1 31 := ⟨by decide +kernel, rfl⟩
set_option maxRecDepth 100000 in
theorem wX6_219 : zCv RX6 219 yX1_numberOf cX1_numberOf 4 (some .int) 1 := ⟨⟨(zmem 692 (by decide +kernel) (by decide +kernel)), (zmem 67 (by decide +kernel) (by decide +kernel)), (zmem 695 rfl rfl), ⟨by decide, by decide, by decide +kernel⟩, by decide⟩, (zmem 693 (by decide +kernel) (by decide +kernel)), (zmem 694 (by decide +kernel) (by decide +kernel))⟩
theorem iX6_at_24 : zI cX6_at 24 (.invokevirtual 219) 3 27 := ⟨by decide +kernel, rfl⟩
theorem iX6_at_27 : zI cX6_at 27 (.goto 4) 3 30 := ⟨by decide +kernel, rfl⟩
theorem iX6_at_23 : zI cX6_at 23 (.iaload) 1 24 := ⟨by decide +kernel, rfl⟩
theorem iX6_at_22 : zI cX6_at 22 (.iload_n 1) 1 23 := ⟨by decide +kernel, rfl⟩
theorem iX6_at_19 : zI cX6_at 19 (.getfield 142) 3 22 := ⟨by decide +kernel, rfl⟩
theorem iX6_at_16 : zI cX6_at 16 (.getfield 38) 3 19 := ⟨by decide +kernel, rfl⟩
theorem iX6_at_15 : zI cX6_at 15 (.aload_n 0) 1 16 := ⟨by decide +kernel, rfl⟩
theorem iX6_at_12 : zI cX6_at 12 (.getfield 38) 3 15 := ⟨by decide +kernel, rfl⟩
theorem iX6_at_11 : zI cX6_at 11 (.aload_n 0) 1 12 := ⟨by decide +kernel, rfl⟩
theorem iX6_at_4 : zI cX6_at 4 (.iload_n 1) 1 5 := ⟨by decide +kernel, rfl⟩
theorem iX6_at_1 : zI cX6_at 1 (.getfield 30) 3 4 := ⟨by decide +kernel, rfl⟩
theorem iX6_at_0 : zI cX6_at 0 (.aload_n 0) 1 1 := ⟨by decide +kernel, rfl⟩
set_option maxHeartbeats 4000000 in
set_option maxRecDepth 100000 in
theorem m_SS_at (x1 : Int32) (h : zH) : zM yX6_at cX6_at 2 (some .int) 1 shX (fun ad => [.ref (ad 0), .int x1]) h (eP h) (SS_at x1 h) := by
  refine zM.of (by decide) (fun _ => rfl) (fun _ => Nat.le_of_ble_eq_true rfl) (fun X ad hnL C => ?_)
  show zG X ad shX (eP h) 0 [some (.ref (ad 0)), some (.int x1)] [] h _
  unfold SS_at
  refine g_aload_n C iX6_at_0 rfl ?_
  refine g_getR (b := 17) C fX6_30 iX6_at_1 sh0 rfl ?_
  refine g_iload_n C iX6_at_4 rfl ?_
  refine g_callV C wX6_165 iX6_at_5 (m_Pl_isBus 17 isP17 x1 h) (by decide) isP17.1 rfl rfl rfl rfl (Nat.le_of_ble_eq_true rfl) (fun r => ?_)
  show zG X ad shX (eP h) 8 [some (.ref (ad 0)), some (.int x1)] [.int r] h _
  refine g_if_eq C 30 iX6_at_8 (by decide) (fun c8 => ?_) (fun c8 => ?_)
  · refine g_iconst C (-1) iX6_at_30 (by decide) ?_
    exact g_iret C iX6_at_31 rfl
  · refine g_aload_n C iX6_at_11 rfl ?_
    refine g_getR (b := 29) C fX6_38 iX6_at_12 sh0 rfl ?_
    refine g_aload_n C iX6_at_15 rfl ?_
    refine g_getR (b := 29) C fX6_38 iX6_at_16 sh0 rfl ?_
    refine g_getR (b := 30) C fX6_142 iX6_at_19 isG29.1 rfl ?_
    refine g_iload_n C iX6_at_22 rfl ?_
    refine g_iaload C iX6_at_23 isG29.2.1 ?_
    refine g_callV C wX6_219 iX6_at_24 (m_Gr_numberOf 29 isG29 (h 30 x1.toNatClampNeg) h) (by decide) isG29.1 rfl rfl rfl rfl (Nat.le_of_ble_eq_true rfl) (fun r_1 => ?_)
    show zG X ad shX (eP h) 27 [some (.ref (ad 0)), some (.int x1)] [.int r_1] h _
    refine g_goto C 31 iX6_at_27 (by decide) ?_
    exact g_iret C iX6_at_31 rfl

theorem iX6_plant_1 : zI cX6_plant 1 (.ifCond .lt 14) 3 4 := ⟨by decide +kernel, rfl⟩
theorem iX6_plant_28 : zI cX6_plant 28 (.ireturn) 1 29 := ⟨by decide +kernel, rfl⟩
theorem iX6_plant_16 : zI cX6_plant 16 (.goto 12) 3 19 := ⟨by decide +kernel, rfl⟩
theorem iX6_plant_15 : zI cX6_plant 15 (.iconst (-1)) 1 16 := ⟨by decide +kernel, rfl⟩
theorem fX6_222 : zFl RX6 222 4 2 := ⟨RX4, TX4, 16, rfl, by decide, (zmem 129 (by decide +kernel) (by decide +kernel)), u_inX4⟩
theorem iX6_plant_12 : zI cX6_plant 12 (.if_icmp .lt 7) 3 15 := ⟨by decide +kernel, rfl⟩
theorem fX6_225 : zFl RX6 225 1 6 := ⟨RX1, TX1, 12, rfl, by decide, (zmem 218 (by decide +kernel) (by decide +kernel)), u_inX1⟩
theorem iX6_plant_27 : zI cX6_plant 27 (.iaload) 1 28 := ⟨by decide +kernel, rfl⟩
theorem iX6_plant_26 : zI cX6_plant 26 (.iload_n 1) 1 27 := ⟨by decide +kernel, rfl⟩
theorem iX6_plant_23 : zI cX6_plant 23 (.getfield 225) 3 26 := ⟨by decide +kernel, rfl⟩
theorem iX6_plant_20 : zI cX6_plant 20 (.getfield 38) 3 23 := ⟨by decide +kernel, rfl⟩
theorem iX6_plant_19 : zI cX6_plant 19 (.aload_n 0) 1 20 := ⟨by decide +kernel, rfl⟩
theorem iX6_plant_9 : zI cX6_plant 9 (.getfield 222) 3 12 := ⟨by decide +kernel, rfl⟩
theorem iX6_plant_6 : zI cX6_plant 6 (.getfield 30) 3 9 := ⟨by decide +kernel, rfl⟩
theorem iX6_plant_5 : zI cX6_plant 5 (.aload_n 0) 1 6 := ⟨by decide +kernel, rfl⟩
theorem iX6_plant_4 : zI cX6_plant 4 (.iload_n 1) 1 5 := ⟨by decide +kernel, rfl⟩
theorem iX6_plant_0 : zI cX6_plant 0 (.iload_n 1) 1 1 := ⟨by decide +kernel, rfl⟩
set_option maxHeartbeats 4000000 in
set_option maxRecDepth 100000 in
theorem m_SS_plant (x1 : Int32) (h : zH) : zM yX6_plant cX6_plant 2 (some .int) 0 shX (fun ad => [.ref (ad 0), .int x1]) h (eP h) (SS_plant x1 h) := by
  refine zM.of (by decide) (fun _ => rfl) (fun _ => Nat.le_of_ble_eq_true rfl) (fun X ad hnL C => ?_)
  show zG X ad shX (eP h) 0 [some (.ref (ad 0)), some (.int x1)] [] h _
  unfold SS_plant
  refine g_iload_n C iX6_plant_0 rfl ?_
  refine g_if_lt C 15 iX6_plant_1 (by decide) (fun c1 => ?_) (fun c1 => ?_)
  · refine g_iconst C (-1) iX6_plant_15 (by decide) ?_
    refine g_goto C 28 iX6_plant_16 (by decide) ?_
    exact g_iret C iX6_plant_28 rfl
  · refine g_iload_n C iX6_plant_4 rfl ?_
    refine g_aload_n C iX6_plant_5 rfl ?_
    refine g_getR (b := 17) C fX6_30 iX6_plant_6 sh0 rfl ?_
    refine g_getI C fX6_222 iX6_plant_9 isP17.1 rfl ?_
    refine g_icmp_lt C 19 iX6_plant_12 (by decide) (fun c12 => ?_) (fun c12 => ?_)
    · refine g_aload_n C iX6_plant_19 rfl ?_
      refine g_getR (b := 29) C fX6_38 iX6_plant_20 sh0 rfl ?_
      refine g_getR (b := 34) C fX6_225 iX6_plant_23 isG29.1 rfl ?_
      refine g_iload_n C iX6_plant_26 rfl ?_
      refine g_iaload C iX6_plant_27 isG29.2.2.2.2.2.1 ?_
      exact g_iret C iX6_plant_28 rfl
    · refine g_iconst C (-1) iX6_plant_15 (by decide) ?_
      refine g_goto C 28 iX6_plant_16 (by decide) ?_
      exact g_iret C iX6_plant_28 rfl

theorem iX6_isOn_1 : zI cX6_isOn 1 (.ifCond .lt 14) 3 4 := ⟨by decide +kernel, rfl⟩
theorem iX6_isOn_16 : zI cX6_isOn 16 (.ireturn) 1 17 := ⟨by decide +kernel, rfl⟩
theorem iX6_isOn_15 : zI cX6_isOn 15 (.iconst (-1)) 1 16 := ⟨by decide +kernel, rfl⟩
theorem iX6_isOn_12 : zI cX6_isOn 12 (.if_icmp .lt 5) 3 15 := ⟨by decide +kernel, rfl⟩
theorem iX6_isOn_25 : zI cX6_isOn 25 (.invokestatic 125) 3 28 := ⟨by decide +kernel, rfl⟩
theorem iX6_isOn_28 : zI cX6_isOn 28 (.ifCond .eq 7) 3 31 := ⟨by decide +kernel, rfl⟩
theorem iX6_isOn_36 : zI cX6_isOn 36 (.ireturn) 1 37 := ⟨by decide +kernel, rfl⟩
theorem iX6_isOn_35 : zI cX6_isOn 35 (.iconst 0) 1 36 := ⟨by decide +kernel, rfl⟩
theorem iX6_isOn_32 : zI cX6_isOn 32 (.goto 4) 3 35 := ⟨by decide +kernel, rfl⟩
theorem iX6_isOn_31 : zI cX6_isOn 31 (.iconst 1) 1 32 := ⟨by decide +kernel, rfl⟩
theorem iX6_isOn_24 : zI cX6_isOn 24 (.iload_n 1) 1 25 := ⟨by decide +kernel, rfl⟩
theorem iX6_isOn_21 : zI cX6_isOn 21 (.getfield 149) 3 24 := ⟨by decide +kernel, rfl⟩
theorem iX6_isOn_18 : zI cX6_isOn 18 (.getfield 38) 3 21 := ⟨by decide +kernel, rfl⟩
theorem iX6_isOn_17 : zI cX6_isOn 17 (.aload_n 0) 1 18 := ⟨by decide +kernel, rfl⟩
theorem iX6_isOn_9 : zI cX6_isOn 9 (.getfield 139) 3 12 := ⟨by decide +kernel, rfl⟩
theorem iX6_isOn_6 : zI cX6_isOn 6 (.getfield 30) 3 9 := ⟨by decide +kernel, rfl⟩
theorem iX6_isOn_5 : zI cX6_isOn 5 (.aload_n 0) 1 6 := ⟨by decide +kernel, rfl⟩
theorem iX6_isOn_4 : zI cX6_isOn 4 (.iload_n 1) 1 5 := ⟨by decide +kernel, rfl⟩
theorem iX6_isOn_0 : zI cX6_isOn 0 (.iload_n 1) 1 1 := ⟨by decide +kernel, rfl⟩
set_option maxHeartbeats 4000000 in
set_option maxRecDepth 100000 in
theorem m_SS_isOn (x1 : Int32) (h : zH) : zM yX6_isOn cX6_isOn 2 (some .int) 1 shX (fun ad => [.ref (ad 0), .int x1]) h (eP h) (SS_isOn x1 h) := by
  refine zM.of (by decide) (fun _ => rfl) (fun _ => Nat.le_of_ble_eq_true rfl) (fun X ad hnL C => ?_)
  show zG X ad shX (eP h) 0 [some (.ref (ad 0)), some (.int x1)] [] h _
  unfold SS_isOn
  refine g_iload_n C iX6_isOn_0 rfl ?_
  refine g_if_lt C 15 iX6_isOn_1 (by decide) (fun c1 => ?_) (fun c1 => ?_)
  · refine g_iconst C (-1) iX6_isOn_15 (by decide) ?_
    exact g_iret C iX6_isOn_16 rfl
  · refine g_iload_n C iX6_isOn_4 rfl ?_
    refine g_aload_n C iX6_isOn_5 rfl ?_
    refine g_getR (b := 17) C fX6_30 iX6_isOn_6 sh0 rfl ?_
    refine g_getI C fX6_139 iX6_isOn_9 isP17.1 rfl ?_
    refine g_icmp_lt C 17 iX6_isOn_12 (by decide) (fun c12 => ?_) (fun c12 => ?_)
    · refine g_aload_n C iX6_isOn_17 rfl ?_
      refine g_getR (b := 29) C fX6_38 iX6_isOn_18 sh0 rfl ?_
      refine g_getI C fX6_149 iX6_isOn_21 isG29.1 rfl ?_
      refine g_iload_n C iX6_isOn_24 rfl ?_
      refine g_callS C wX6_125 iX6_isOn_25 (m_SS_has (h 29 7) x1 h) (by decide) rfl rfl rfl (Nat.le_of_ble_eq_true rfl) (fun r => ?_)
      show zG X ad shX (eP h) 28 [some (.ref (ad 0)), some (.int x1)] [.int r] h _
      refine g_if_eq C 35 iX6_isOn_28 (by decide) (fun c28 => ?_) (fun c28 => ?_)
      · refine g_iconst C 0 iX6_isOn_35 (by decide) ?_
        exact g_iret C iX6_isOn_36 rfl
      · refine g_iconst C 1 iX6_isOn_31 (by decide) ?_
        refine g_goto C 36 iX6_isOn_32 (by decide) ?_
        exact g_iret C iX6_isOn_36 rfl
    · refine g_iconst C (-1) iX6_isOn_15 (by decide) ?_
      exact g_iret C iX6_isOn_16 rfl

theorem iX6_isClosed_1 : zI cX6_isClosed 1 (.ifCond .lt 14) 3 4 := ⟨by decide +kernel, rfl⟩
theorem iX6_isClosed_16 : zI cX6_isClosed 16 (.ireturn) 1 17 := ⟨by decide +kernel, rfl⟩
theorem iX6_isClosed_15 : zI cX6_isClosed 15 (.iconst (-1)) 1 16 := ⟨by decide +kernel, rfl⟩
theorem iX6_isClosed_12 : zI cX6_isClosed 12 (.if_icmp .lt 5) 3 15 := ⟨by decide +kernel, rfl⟩
theorem iX6_isClosed_25 : zI cX6_isClosed 25 (.invokestatic 125) 3 28 := ⟨by decide +kernel, rfl⟩
theorem iX6_isClosed_28 : zI cX6_isClosed 28 (.ifCond .eq 7) 3 31 := ⟨by decide +kernel, rfl⟩
theorem iX6_isClosed_36 : zI cX6_isClosed 36 (.ireturn) 1 37 := ⟨by decide +kernel, rfl⟩
theorem iX6_isClosed_35 : zI cX6_isClosed 35 (.iconst 0) 1 36 := ⟨by decide +kernel, rfl⟩
theorem iX6_isClosed_32 : zI cX6_isClosed 32 (.goto 4) 3 35 := ⟨by decide +kernel, rfl⟩
theorem iX6_isClosed_31 : zI cX6_isClosed 31 (.iconst 1) 1 32 := ⟨by decide +kernel, rfl⟩
theorem iX6_isClosed_24 : zI cX6_isClosed 24 (.iload_n 1) 1 25 := ⟨by decide +kernel, rfl⟩
theorem iX6_isClosed_21 : zI cX6_isClosed 21 (.getfield 122) 3 24 := ⟨by decide +kernel, rfl⟩
theorem iX6_isClosed_18 : zI cX6_isClosed 18 (.getfield 38) 3 21 := ⟨by decide +kernel, rfl⟩
theorem iX6_isClosed_17 : zI cX6_isClosed 17 (.aload_n 0) 1 18 := ⟨by decide +kernel, rfl⟩
theorem iX6_isClosed_9 : zI cX6_isClosed 9 (.getfield 116) 3 12 := ⟨by decide +kernel, rfl⟩
theorem iX6_isClosed_6 : zI cX6_isClosed 6 (.getfield 30) 3 9 := ⟨by decide +kernel, rfl⟩
theorem iX6_isClosed_5 : zI cX6_isClosed 5 (.aload_n 0) 1 6 := ⟨by decide +kernel, rfl⟩
theorem iX6_isClosed_4 : zI cX6_isClosed 4 (.iload_n 1) 1 5 := ⟨by decide +kernel, rfl⟩
theorem iX6_isClosed_0 : zI cX6_isClosed 0 (.iload_n 1) 1 1 := ⟨by decide +kernel, rfl⟩
set_option maxHeartbeats 4000000 in
set_option maxRecDepth 100000 in
theorem m_SS_isClosed (x1 : Int32) (h : zH) : zM yX6_isClosed cX6_isClosed 2 (some .int) 1 shX (fun ad => [.ref (ad 0), .int x1]) h (eP h) (SS_isClosed x1 h) := by
  refine zM.of (by decide) (fun _ => rfl) (fun _ => Nat.le_of_ble_eq_true rfl) (fun X ad hnL C => ?_)
  show zG X ad shX (eP h) 0 [some (.ref (ad 0)), some (.int x1)] [] h _
  unfold SS_isClosed
  refine g_iload_n C iX6_isClosed_0 rfl ?_
  refine g_if_lt C 15 iX6_isClosed_1 (by decide) (fun c1 => ?_) (fun c1 => ?_)
  · refine g_iconst C (-1) iX6_isClosed_15 (by decide) ?_
    exact g_iret C iX6_isClosed_16 rfl
  · refine g_iload_n C iX6_isClosed_4 rfl ?_
    refine g_aload_n C iX6_isClosed_5 rfl ?_
    refine g_getR (b := 17) C fX6_30 iX6_isClosed_6 sh0 rfl ?_
    refine g_getI C fX6_116 iX6_isClosed_9 isP17.1 rfl ?_
    refine g_icmp_lt C 17 iX6_isClosed_12 (by decide) (fun c12 => ?_) (fun c12 => ?_)
    · refine g_aload_n C iX6_isClosed_17 rfl ?_
      refine g_getR (b := 29) C fX6_38 iX6_isClosed_18 sh0 rfl ?_
      refine g_getI C fX6_122 iX6_isClosed_21 isG29.1 rfl ?_
      refine g_iload_n C iX6_isClosed_24 rfl ?_
      refine g_callS C wX6_125 iX6_isClosed_25 (m_SS_has (h 29 1) x1 h) (by decide) rfl rfl rfl (Nat.le_of_ble_eq_true rfl) (fun r => ?_)
      show zG X ad shX (eP h) 28 [some (.ref (ad 0)), some (.int x1)] [.int r] h _
      refine g_if_eq C 35 iX6_isClosed_28 (by decide) (fun c28 => ?_) (fun c28 => ?_)
      · refine g_iconst C 0 iX6_isClosed_35 (by decide) ?_
        exact g_iret C iX6_isClosed_36 rfl
      · refine g_iconst C 1 iX6_isClosed_31 (by decide) ?_
        refine g_goto C 36 iX6_isClosed_32 (by decide) ?_
        exact g_iret C iX6_isClosed_36 rfl
    · refine g_iconst C (-1) iX6_isClosed_15 (by decide) ?_
      exact g_iret C iX6_isClosed_16 rfl

theorem iX6_dropped_1 : zI cX6_dropped 1 (.ifCond .ge 5) 3 4 := ⟨by decide +kernel, rfl⟩
theorem fX6_228 : zFl RX6 228 1 9 := ⟨RX1, TX1, 12, rfl, by decide, (zmem 226 (by decide +kernel) (by decide +kernel)), u_inX1⟩
theorem iX6_dropped_14 : zI cX6_dropped 14 (.if_icmp .ge 25) 3 17 := ⟨by decide +kernel, rfl⟩
theorem iX6_dropped_41 : zI cX6_dropped 41 (.ireturn) 1 42 := ⟨by decide +kernel, rfl⟩
theorem iX6_dropped_39 : zI cX6_dropped 39 (.bipush (-4)) 2 41 := ⟨by decide +kernel, rfl⟩
theorem fX6_231 : zFl RX6 231 1 8 := ⟨RX1, TX1, 12, rfl, by decide, (zmem 223 (by decide +kernel) (by decide +kernel)), u_inX1⟩
theorem iX6_dropped_36 : zI cX6_dropped 36 (.goto 5) 3 39 := ⟨by decide +kernel, rfl⟩
theorem iX6_dropped_35 : zI cX6_dropped 35 (.iaload) 1 36 := ⟨by decide +kernel, rfl⟩
theorem iX6_dropped_34 : zI cX6_dropped 34 (.isub) 1 35 := ⟨by decide +kernel, rfl⟩
theorem iX6_dropped_33 : zI cX6_dropped 33 (.iload_n 1) 1 34 := ⟨by decide +kernel, rfl⟩
theorem iX6_dropped_32 : zI cX6_dropped 32 (.isub) 1 33 := ⟨by decide +kernel, rfl⟩
theorem iX6_dropped_31 : zI cX6_dropped 31 (.iconst 1) 1 32 := ⟨by decide +kernel, rfl⟩
theorem iX6_dropped_28 : zI cX6_dropped 28 (.getfield 228) 3 31 := ⟨by decide +kernel, rfl⟩
theorem iX6_dropped_25 : zI cX6_dropped 25 (.getfield 38) 3 28 := ⟨by decide +kernel, rfl⟩
theorem iX6_dropped_24 : zI cX6_dropped 24 (.aload_n 0) 1 25 := ⟨by decide +kernel, rfl⟩
theorem iX6_dropped_21 : zI cX6_dropped 21 (.getfield 231) 3 24 := ⟨by decide +kernel, rfl⟩
theorem iX6_dropped_18 : zI cX6_dropped 18 (.getfield 38) 3 21 := ⟨by decide +kernel, rfl⟩
theorem iX6_dropped_17 : zI cX6_dropped 17 (.aload_n 0) 1 18 := ⟨by decide +kernel, rfl⟩
theorem iX6_dropped_11 : zI cX6_dropped 11 (.getfield 228) 3 14 := ⟨by decide +kernel, rfl⟩
theorem iX6_dropped_8 : zI cX6_dropped 8 (.getfield 38) 3 11 := ⟨by decide +kernel, rfl⟩
theorem iX6_dropped_7 : zI cX6_dropped 7 (.aload_n 0) 1 8 := ⟨by decide +kernel, rfl⟩
theorem iX6_dropped_6 : zI cX6_dropped 6 (.iload_n 1) 1 7 := ⟨by decide +kernel, rfl⟩
theorem iX6_dropped_5 : zI cX6_dropped 5 (.ireturn) 1 6 := ⟨by decide +kernel, rfl⟩
theorem iX6_dropped_4 : zI cX6_dropped 4 (.iconst (-1)) 1 5 := ⟨by decide +kernel, rfl⟩
theorem iX6_dropped_0 : zI cX6_dropped 0 (.iload_n 1) 1 1 := ⟨by decide +kernel, rfl⟩
set_option maxHeartbeats 4000000 in
set_option maxRecDepth 100000 in
theorem m_SS_dropped (x1 : Int32) (h : zH) : zM yX6_dropped cX6_dropped 2 (some .int) 0 shX (fun ad => [.ref (ad 0), .int x1]) h (eP h) (SS_dropped x1 h) := by
  refine zM.of (by decide) (fun _ => rfl) (fun _ => Nat.le_of_ble_eq_true rfl) (fun X ad hnL C => ?_)
  show zG X ad shX (eP h) 0 [some (.ref (ad 0)), some (.int x1)] [] h _
  unfold SS_dropped
  refine g_iload_n C iX6_dropped_0 rfl ?_
  refine g_if_ge C 6 iX6_dropped_1 (by decide) (fun c1 => ?_) (fun c1 => ?_)
  · refine g_iload_n C iX6_dropped_6 rfl ?_
    refine g_aload_n C iX6_dropped_7 rfl ?_
    refine g_getR (b := 29) C fX6_38 iX6_dropped_8 sh0 rfl ?_
    refine g_getI C fX6_228 iX6_dropped_11 isG29.1 rfl ?_
    refine g_icmp_ge C 39 iX6_dropped_14 (by decide) (fun c14 => ?_) (fun c14 => ?_)
    · refine g_bipush C (-4) iX6_dropped_39 (by decide) ?_
      exact g_iret C iX6_dropped_41 rfl
    · refine g_aload_n C iX6_dropped_17 rfl ?_
      refine g_getR (b := 29) C fX6_38 iX6_dropped_18 sh0 rfl ?_
      refine g_getR (b := 35) C fX6_231 iX6_dropped_21 isG29.1 rfl ?_
      refine g_aload_n C iX6_dropped_24 rfl ?_
      refine g_getR (b := 29) C fX6_38 iX6_dropped_25 sh0 rfl ?_
      refine g_getI C fX6_228 iX6_dropped_28 isG29.1 rfl ?_
      refine g_iconst C 1 iX6_dropped_31 (by decide) ?_
      refine g_isub C iX6_dropped_32 ?_
      refine g_iload_n C iX6_dropped_33 rfl ?_
      refine g_isub C iX6_dropped_34 ?_
      refine g_iaload C iX6_dropped_35 isG29.2.2.2.2.2.2.1 ?_
      refine g_goto C 41 iX6_dropped_36 (by decide) ?_
      exact g_iret C iX6_dropped_41 rfl
  · refine g_iconst C (-1) iX6_dropped_4 (by decide) ?_
    exact g_iret C iX6_dropped_5 rfl

