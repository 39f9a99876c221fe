theorem fX7_70 : zFl RX7 70 7 0 := ⟨RX7, TX7, 17, rfl, by decide, (zmem 797 (by decide +kernel) (by decide +kernel)), u_inX7⟩
theorem iX7_letterAt_5 : zI cX7_letterAt 5 (.if_icmp .ge 12) 3 8 := ⟨by decide +kernel, rfl⟩
theorem iX7_letterAt_18 : zI cX7_letterAt 18 (.ireturn) 1 19 := ⟨by decide +kernel, rfl⟩
theorem iX7_letterAt_17 : zI cX7_letterAt 17 (.iconst 0) 1 18 := ⟨by decide +kernel, rfl⟩
theorem fX7_7 : zFl RX7 7 7 1 := ⟨RX7, TX7, 17, rfl, by decide, (zmem 798 (by decide +kernel) (by decide +kernel)), u_inX7⟩
theorem iX7_letterAt_14 : zI cX7_letterAt 14 (.goto 4) 3 17 := ⟨by decide +kernel, rfl⟩
theorem iX7_letterAt_13 : zI cX7_letterAt 13 (.iaload) 1 14 := ⟨by decide +kernel, rfl⟩
theorem iX7_letterAt_12 : zI cX7_letterAt 12 (.iload_n 1) 1 13 := ⟨by decide +kernel, rfl⟩
theorem iX7_letterAt_9 : zI cX7_letterAt 9 (.getfield 7) 3 12 := ⟨by decide +kernel, rfl⟩
theorem iX7_letterAt_8 : zI cX7_letterAt 8 (.aload_n 0) 1 9 := ⟨by decide +kernel, rfl⟩
theorem iX7_letterAt_2 : zI cX7_letterAt 2 (.getfield 70) 3 5 := ⟨by decide +kernel, rfl⟩
theorem iX7_letterAt_1 : zI cX7_letterAt 1 (.aload_n 0) 1 2 := ⟨by decide +kernel, rfl⟩
theorem iX7_letterAt_0 : zI cX7_letterAt 0 (.iload_n 1) 1 1 := ⟨by decide +kernel, rfl⟩
set_option maxHeartbeats 4000000 in
set_option maxRecDepth 100000 in
theorem m_Mo_letterAt (x1 : Int32) (h : zH) : zM yX7_letterAt cX7_letterAt 2 (some .int) 0 shM (fun ad => [.ref (ad 0), .int x1]) h (eP h) (Mo_letterAt x1 h) := by
  refine zM.of (by decide) (fun _ => rfl) (fun _ => Nat.le_of_ble_eq_true rfl) (fun X ad hnL C => ?_)
  show zG X ad shM (eP h) 0 [some (.ref (ad 0)), some (.int x1)] [] h _
  unfold Mo_letterAt
  refine g_iload_n C iX7_letterAt_0 rfl ?_
  refine g_aload_n C iX7_letterAt_1 rfl ?_
  refine g_getI C fX7_70 iX7_letterAt_2 mh0 rfl ?_
  refine g_icmp_ge C 17 iX7_letterAt_5 (by decide) (fun c5 => ?_) (fun c5 => ?_)
  · refine g_iconst C 0 iX7_letterAt_17 (by decide) ?_
    exact g_iret C iX7_letterAt_18 rfl
  · refine g_aload_n C iX7_letterAt_8 rfl ?_
    refine g_getR (b := 1) C fX7_7 iX7_letterAt_9 mh0 rfl ?_
    refine g_iload_n C iX7_letterAt_12 rfl ?_
    refine g_iaload C iX7_letterAt_13 mh1 ?_
    refine g_goto C 18 iX7_letterAt_14 (by decide) ?_
    exact g_iret C iX7_letterAt_18 rfl

theorem pX7_73 : zFp RX7 73 7 11 := ⟨RX7, TX7, 17, rfl, by decide, (zmem 808 (by decide +kernel) (by decide +kernel)), u_inX7, by decide +kernel, by decide +kernel, ⟨tyX7, tyX7_ok⟩, nmX7⟩
theorem pX7_76 : zFp RX7 76 7 12 := ⟨RX7, TX7, 17, rfl, by decide, (zmem 809 (by decide +kernel) (by decide +kernel)), u_inX7, by decide +kernel, by decide +kernel, ⟨tyX7, tyX7_ok⟩, nmX7⟩
theorem fX7_76 : zFl RX7 76 7 12 := ⟨RX7, TX7, 17, rfl, by decide, (zmem 809 (by decide +kernel) (by decide +kernel)), u_inX7⟩
theorem iX7_number_17 : zI cX7_number 17 (.if_icmp .ge 66) 3 20 := ⟨by decide +kernel, rfl⟩
set_option maxRecDepth 100000 in
theorem wX7_79 : zCv RX7 79 yX7_letterAt cX7_letterAt 2 (some .int) 1 := ⟨⟨(zmem 873 (by decide +kernel) (by decide +kernel)), (zmem 76 (by decide +kernel) (by decide +kernel)), (zmem 876 rfl rfl), ⟨by decide, by decide, by decide +kernel⟩, by decide⟩, (zmem 875 (by decide +kernel) (by decide +kernel)), (zmem 29 (by decide +kernel) (by decide +kernel))⟩
theorem iX7_number_25 : zI cX7_number 25 (.invokevirtual 79) 3 28 := ⟨by decide +kernel, rfl⟩
theorem iX7_number_30 : zI cX7_number 30 (.if_icmp .lt 53) 3 33 := ⟨by decide +kernel, rfl⟩
theorem iX7_number_38 : zI cX7_number 38 (.invokevirtual 79) 3 41 := ⟨by decide +kernel, rfl⟩
theorem iX7_number_43 : zI cX7_number 43 (.if_icmp .gt 40) 3 46 := ⟨by decide +kernel, rfl⟩
theorem fX7_73 : zFl RX7 73 7 11 := ⟨RX7, TX7, 17, rfl, by decide, (zmem 808 (by decide +kernel) (by decide +kernel)), u_inX7⟩
theorem iX7_number_80 : zI cX7_number 80 (.goto (-70)) 3 83 := ⟨by decide +kernel, rfl⟩
theorem iX7_number_77 : zI cX7_number 77 (.putfield 76) 3 80 := ⟨by decide +kernel, rfl⟩
theorem iX7_number_76 : zI cX7_number 76 (.iadd) 1 77 := ⟨by decide +kernel, rfl⟩
theorem iX7_number_75 : zI cX7_number 75 (.iconst 1) 1 76 := ⟨by decide +kernel, rfl⟩
theorem iX7_number_72 : zI cX7_number 72 (.getfield 76) 3 75 := ⟨by decide +kernel, rfl⟩
theorem iX7_number_71 : zI cX7_number 71 (.dup) 1 72 := ⟨by decide +kernel, rfl⟩
theorem iX7_number_70 : zI cX7_number 70 (.aload_n 0) 1 71 := ⟨by decide +kernel, rfl⟩
theorem iX7_number_67 : zI cX7_number 67 (.putfield 73) 3 70 := ⟨by decide +kernel, rfl⟩
theorem iX7_number_66 : zI cX7_number 66 (.isub) 1 67 := ⟨by decide +kernel, rfl⟩
theorem iX7_number_64 : zI cX7_number 64 (.bipush 48) 2 66 := ⟨by decide +kernel, rfl⟩
theorem iX7_number_63 : zI cX7_number 63 (.iadd) 1 64 := ⟨by decide +kernel, rfl⟩
theorem iX7_number_62 : zI cX7_number 62 (.iaload) 1 63 := ⟨by decide +kernel, rfl⟩
theorem iX7_number_59 : zI cX7_number 59 (.getfield 76) 3 62 := ⟨by decide +kernel, rfl⟩
theorem iX7_number_58 : zI cX7_number 58 (.aload_n 0) 1 59 := ⟨by decide +kernel, rfl⟩
theorem iX7_number_55 : zI cX7_number 55 (.getfield 7) 3 58 := ⟨by decide +kernel, rfl⟩
theorem iX7_number_54 : zI cX7_number 54 (.aload_n 0) 1 55 := ⟨by decide +kernel, rfl⟩
theorem iX7_number_53 : zI cX7_number 53 (.imul) 1 54 := ⟨by decide +kernel, rfl⟩
theorem iX7_number_50 : zI cX7_number 50 (.getfield 73) 3 53 := ⟨by decide +kernel, rfl⟩
theorem iX7_number_49 : zI cX7_number 49 (.aload_n 0) 1 50 := ⟨by decide +kernel, rfl⟩
theorem iX7_number_47 : zI cX7_number 47 (.bipush 10) 2 49 := ⟨by decide +kernel, rfl⟩
theorem iX7_number_46 : zI cX7_number 46 (.aload_n 0) 1 47 := ⟨by decide +kernel, rfl⟩
theorem iX7_number_41 : zI cX7_number 41 (.bipush 57) 2 43 := ⟨by decide +kernel, rfl⟩
theorem iX7_number_35 : zI cX7_number 35 (.getfield 76) 3 38 := ⟨by decide +kernel, rfl⟩
theorem iX7_number_34 : zI cX7_number 34 (.aload_n 0) 1 35 := ⟨by decide +kernel, rfl⟩
theorem iX7_number_33 : zI cX7_number 33 (.aload_n 0) 1 34 := ⟨by decide +kernel, rfl⟩
theorem iX7_number_28 : zI cX7_number 28 (.bipush 48) 2 30 := ⟨by decide +kernel, rfl⟩
theorem iX7_number_22 : zI cX7_number 22 (.getfield 76) 3 25 := ⟨by decide +kernel, rfl⟩
theorem iX7_number_21 : zI cX7_number 21 (.aload_n 0) 1 22 := ⟨by decide +kernel, rfl⟩
theorem iX7_number_20 : zI cX7_number 20 (.aload_n 0) 1 21 := ⟨by decide +kernel, rfl⟩
theorem iX7_number_16 : zI cX7_number 16 (.iadd) 1 17 := ⟨by decide +kernel, rfl⟩
theorem iX7_number_15 : zI cX7_number 15 (.iconst 4) 1 16 := ⟨by decide +kernel, rfl⟩
theorem iX7_number_14 : zI cX7_number 14 (.iload_n 1) 1 15 := ⟨by decide +kernel, rfl⟩
theorem iX7_number_11 : zI cX7_number 11 (.getfield 76) 3 14 := ⟨by decide +kernel, rfl⟩
theorem iX7_number_10 : zI cX7_number 10 (.aload_n 0) 1 11 := ⟨by decide +kernel, rfl⟩
theorem iX7_number_88 : zI cX7_number 88 (.if_icmp .le 19) 3 91 := ⟨by decide +kernel, rfl⟩
theorem iX7_number_108 : zI cX7_number 108 (.ireturn) 1 109 := ⟨by decide +kernel, rfl⟩
theorem iX7_number_107 : zI cX7_number 107 (.iconst 0) 1 108 := ⟨by decide +kernel, rfl⟩
set_option maxRecDepth 100000 in
theorem wX7_82 : zCs RX7 82 yX7_isIn cX7_isIn 3 (some .boolean) 3 := ⟨⟨(zmem 877 (by decide +kernel) (by decide +kernel)), (zmem 76 (by decide +kernel) (by decide +kernel)), (zmem 879 rfl rfl), ⟨by decide, by decide, by decide +kernel⟩, by decide⟩, (zmem 878 (by decide +kernel) (by decide +kernel))⟩
theorem iX7_number_97 : zI cX7_number 97 (.invokestatic 82) 3 100 := ⟨by decide +kernel, rfl⟩
theorem iX7_number_100 : zI cX7_number 100 (.ifCond .eq 7) 3 103 := ⟨by decide +kernel, rfl⟩
theorem iX7_number_104 : zI cX7_number 104 (.goto 4) 3 107 := ⟨by decide +kernel, rfl⟩
theorem iX7_number_103 : zI cX7_number 103 (.iconst 1) 1 104 := ⟨by decide +kernel, rfl⟩
theorem iX7_number_96 : zI cX7_number 96 (.iload_n 3) 1 97 := ⟨by decide +kernel, rfl⟩
theorem iX7_number_95 : zI cX7_number 95 (.iload_n 2) 1 96 := ⟨by decide +kernel, rfl⟩
theorem iX7_number_92 : zI cX7_number 92 (.getfield 73) 3 95 := ⟨by decide +kernel, rfl⟩
theorem iX7_number_91 : zI cX7_number 91 (.aload_n 0) 1 92 := ⟨by decide +kernel, rfl⟩
theorem iX7_number_87 : zI cX7_number 87 (.iload_n 1) 1 88 := ⟨by decide +kernel, rfl⟩
theorem iX7_number_84 : zI cX7_number 84 (.getfield 76) 3 87 := ⟨by decide +kernel, rfl⟩
theorem iX7_number_83 : zI cX7_number 83 (.aload_n 0) 1 84 := ⟨by decide +kernel, rfl⟩
theorem iX7_number_7 : zI cX7_number 7 (.putfield 76) 3 10 := ⟨by decide +kernel, rfl⟩
theorem iX7_number_6 : zI cX7_number 6 (.iload_n 1) 1 7 := ⟨by decide +kernel, rfl⟩
theorem iX7_number_5 : zI cX7_number 5 (.aload_n 0) 1 6 := ⟨by decide +kernel, rfl⟩
theorem iX7_number_2 : zI cX7_number 2 (.putfield 73) 3 5 := ⟨by decide +kernel, rfl⟩
theorem iX7_number_1 : zI cX7_number 1 (.iconst 0) 1 2 := ⟨by decide +kernel, rfl⟩
theorem iX7_number_0 : zI cX7_number 0 (.aload_n 0) 1 1 := ⟨by decide +kernel, rfl⟩
set_option maxHeartbeats 4000000 in
set_option maxRecDepth 100000 in
theorem m_Mo_number (x1 : Int32) (x2 : Int32) (x3 : Int32) (h : zH) : zM yX7_number cX7_number 4 (some .boolean) 1 shM (fun ad => [.ref (ad 0), .int x1, .int x2, .int x3]) h eI (Mo_number x1 x2 x3 h) := by
  refine zM.of (by decide) (fun _ => rfl) (fun _ => Nat.le_of_ble_eq_true rfl) (fun X ad hnL C => ?_)
  show zG X ad shM eI 0 [some (.ref (ad 0)), some (.int x1), some (.int x2), some (.int x3)] [] h _
  unfold Mo_number
  refine g_aload_n C iX7_number_0 rfl ?_
  refine g_iconst C 0 iX7_number_1 (by decide) ?_
  refine g_putI C pX7_73 iX7_number_2 mh0 rfl (fun h_1 => ?_)
  refine g_aload_n C iX7_number_5 rfl ?_
  refine g_iload_n C iX7_number_6 rfl ?_
  refine g_putI C pX7_76 iX7_number_7 mh0 rfl (fun h_2 => ?_)
  have L10 : ∀ (k83 : zH → Option (Int32 × zH)), (∀ (hy : zH), zG X ad shM eI 83 [some (.ref (ad 0)), some (.int x1), some (.int x2), some (.int x3)] [] hy (k83 hy)) → ∀ (n : Nat) (h_3 : zH), zG X ad shM eI 10 [some (.ref (ad 0)), some (.int x1), some (.int x2), some (.int x3)] [] h_3 (Mo_number_L10 x1 k83 n h_3) := by
    intro k83 hk83 n
    induction n with
    | zero =>
      intro h_3
      exact g_none
    | succ n ih10 =>
      intro h_3
      rw [Mo_number_L10]
      refine g_aload_n C iX7_number_10 rfl ?_
      refine g_getI C fX7_76 iX7_number_11 mh0 rfl ?_
      refine g_iload_n C iX7_number_14 rfl ?_
      refine g_iconst C 4 iX7_number_15 (by decide) ?_
      refine g_iadd C iX7_number_16 ?_
      refine g_icmp_ge C 83 iX7_number_17 (by decide) (fun c17 => ?_) (fun c17 => ?_)
      · exact hk83 _
      · refine g_aload_n C iX7_number_20 rfl ?_
        refine g_aload_n C iX7_number_21 rfl ?_
        refine g_getI C fX7_76 iX7_number_22 mh0 rfl ?_
        refine g_callV C wX7_79 iX7_number_25 (m_Mo_letterAt (h_3 0 12) h_3) (by decide) mh0 rfl rfl rfl rfl (Nat.le_of_ble_eq_true rfl) (fun r => ?_)
        show zG X ad shM eI 28 [some (.ref (ad 0)), some (.int x1), some (.int x2), some (.int x3)] [.int r] h_3 _
        refine g_bipush C 48 iX7_number_28 (by decide) ?_
        refine g_icmp_lt C 83 iX7_number_30 (by decide) (fun c30 => ?_) (fun c30 => ?_)
        · exact hk83 _
        · refine g_aload_n C iX7_number_33 rfl ?_
          refine g_aload_n C iX7_number_34 rfl ?_
          refine g_getI C fX7_76 iX7_number_35 mh0 rfl ?_
          refine g_callV C wX7_79 iX7_number_38 (m_Mo_letterAt (h_3 0 12) h_3) (by decide) mh0 rfl rfl rfl rfl (Nat.le_of_ble_eq_true rfl) (fun r_1 => ?_)
          show zG X ad shM eI 41 [some (.ref (ad 0)), some (.int x1), some (.int x2), some (.int x3)] [.int r_1] h_3 _
          refine g_bipush C 57 iX7_number_41 (by decide) ?_
          refine g_icmp_gt C 83 iX7_number_43 (by decide) (fun c43 => ?_) (fun c43 => ?_)
          · exact hk83 _
          · refine g_aload_n C iX7_number_46 rfl ?_
            refine g_bipush C 10 iX7_number_47 (by decide) ?_
            refine g_aload_n C iX7_number_49 rfl ?_
            refine g_getI C fX7_73 iX7_number_50 mh0 rfl ?_
            refine g_imul C iX7_number_53 ?_
            refine g_aload_n C iX7_number_54 rfl ?_
            refine g_getR (b := 1) C fX7_7 iX7_number_55 mh0 rfl ?_
            refine g_aload_n C iX7_number_58 rfl ?_
            refine g_getI C fX7_76 iX7_number_59 mh0 rfl ?_
            refine g_iaload C iX7_number_62 mh1 ?_
            refine g_iadd C iX7_number_63 ?_
            refine g_bipush C 48 iX7_number_64 (by decide) ?_
            refine g_isub C iX7_number_66 ?_
            refine g_putI C pX7_73 iX7_number_67 mh0 rfl (fun h_4 => ?_)
            refine g_aload_n C iX7_number_70 rfl ?_
            refine g_dup C iX7_number_71 rfl ?_
            refine g_getI C fX7_76 iX7_number_72 mh0 rfl ?_
            refine g_iconst C 1 iX7_number_75 (by decide) ?_
            refine g_iadd C iX7_number_76 ?_
            refine g_putI C pX7_76 iX7_number_77 mh0 rfl (fun h_5 => ?_)
            refine g_goto C 10 iX7_number_80 (by decide) ?_
            exact ih10 _
  refine L10 _ (fun h_6 => ?_) 1000 _
  show zG X ad shM eI 83 [some (.ref (ad 0)), some (.int x1), some (.int x2), some (.int x3)] [] h_6 _
  refine g_aload_n C iX7_number_83 rfl ?_
  refine g_getI C fX7_76 iX7_number_84 mh0 rfl ?_
  refine g_iload_n C iX7_number_87 rfl ?_
  refine g_icmp_le C 107 iX7_number_88 (by decide) (fun c88 => ?_) (fun c88 => ?_)
  · refine g_iconst C 0 iX7_number_107 (by decide) ?_
    exact g_zret C iX7_number_108 rfl rfl
  · refine g_aload_n C iX7_number_91 rfl ?_
    refine g_getI C fX7_73 iX7_number_92 mh0 rfl ?_
    refine g_iload_n C iX7_number_95 rfl ?_
    refine g_iload_n C iX7_number_96 rfl ?_
    refine g_callS C wX7_82 iX7_number_97 (m_Mo_isIn (h_6 0 11) x2 x3 h_6) (by decide) rfl rfl rfl (Nat.le_of_ble_eq_true rfl) (fun r_2 => ?_)
    show zG X ad shM eI 100 [some (.ref (ad 0)), some (.int x1), some (.int x2), some (.int x3)] [.int r_2] h_6 _
    refine g_if_eq C 107 iX7_number_100 (by decide) (fun c100 => ?_) (fun c100 => ?_)
    · refine g_iconst C 0 iX7_number_107 (by decide) ?_
      exact g_zret C iX7_number_108 rfl rfl
    · refine g_iconst C 1 iX7_number_103 (by decide) ?_
      refine g_goto C 108 iX7_number_104 (by decide) ?_
      exact g_zret C iX7_number_108 rfl rfl

theorem iX7_more_5 : zI cX7_more 5 (.invokevirtual 79) 3 8 := ⟨by decide +kernel, rfl⟩
theorem iX7_more_10 : zI cX7_more 10 (.if_icmp .ne 22) 3 13 := ⟨by decide +kernel, rfl⟩
theorem iX7_more_33 : zI cX7_more 33 (.ireturn) 1 34 := ⟨by decide +kernel, rfl⟩
theorem iX7_more_32 : zI cX7_more 32 (.iconst 0) 1 33 := ⟨by decide +kernel, rfl⟩
set_option maxRecDepth 100000 in
theorem wX7_86 : zCv RX7 86 yX7_number cX7_number 4 (some .boolean) 3 := ⟨⟨(zmem 869 (by decide +kernel) (by decide +kernel)), (zmem 76 (by decide +kernel) (by decide +kernel)), (zmem 872 rfl rfl), ⟨by decide, by decide, by decide +kernel⟩, by decide⟩, (zmem 871 (by decide +kernel) (by decide +kernel)), (zmem 28 (by decide +kernel) (by decide +kernel))⟩
theorem iX7_more_22 : zI cX7_more 22 (.invokevirtual 86) 3 25 := ⟨by decide +kernel, rfl⟩
theorem iX7_more_25 : zI cX7_more 25 (.ifCond .eq 7) 3 28 := ⟨by decide +kernel, rfl⟩
theorem iX7_more_29 : zI cX7_more 29 (.goto 4) 3 32 := ⟨by decide +kernel, rfl⟩
theorem iX7_more_28 : zI cX7_more 28 (.iconst 1) 1 29 := ⟨by decide +kernel, rfl⟩
theorem iX7_more_21 : zI cX7_more 21 (.iload_n 2) 1 22 := ⟨by decide +kernel, rfl⟩
theorem iX7_more_20 : zI cX7_more 20 (.iload_n 1) 1 21 := ⟨by decide +kernel, rfl⟩
theorem iX7_more_19 : zI cX7_more 19 (.iadd) 1 20 := ⟨by decide +kernel, rfl⟩
theorem iX7_more_18 : zI cX7_more 18 (.iconst 1) 1 19 := ⟨by decide +kernel, rfl⟩
theorem iX7_more_15 : zI cX7_more 15 (.getfield 76) 3 18 := ⟨by decide +kernel, rfl⟩
theorem iX7_more_14 : zI cX7_more 14 (.aload_n 0) 1 15 := ⟨by decide +kernel, rfl⟩
theorem iX7_more_13 : zI cX7_more 13 (.aload_n 0) 1 14 := ⟨by decide +kernel, rfl⟩
theorem iX7_more_8 : zI cX7_more 8 (.bipush 44) 2 10 := ⟨by decide +kernel, rfl⟩
theorem iX7_more_2 : zI cX7_more 2 (.getfield 76) 3 5 := ⟨by decide +kernel, rfl⟩
theorem iX7_more_1 : zI cX7_more 1 (.aload_n 0) 1 2 := ⟨by decide +kernel, rfl⟩
theorem iX7_more_0 : zI cX7_more 0 (.aload_n 0) 1 1 := ⟨by decide +kernel, rfl⟩
set_option maxHeartbeats 4000000 in
set_option maxRecDepth 100000 in
theorem m_Mo_more (x1 : Int32) (x2 : Int32) (h : zH) : zM yX7_more cX7_more 3 (some .boolean) 2 shM (fun ad => [.ref (ad 0), .int x1, .int x2]) h eI (Mo_more x1 x2 h) := by
  refine zM.of (by decide) (fun _ => rfl) (fun _ => Nat.le_of_ble_eq_true rfl) (fun X ad hnL C => ?_)
  show zG X ad shM eI 0 [some (.ref (ad 0)), some (.int x1), some (.int x2)] [] h _
  unfold Mo_more
  refine g_aload_n C iX7_more_0 rfl ?_
  refine g_aload_n C iX7_more_1 rfl ?_
  refine g_getI C fX7_76 iX7_more_2 mh0 rfl ?_
  refine g_callV C wX7_79 iX7_more_5 (m_Mo_letterAt (h 0 12) h) (by decide) mh0 rfl rfl rfl rfl (Nat.le_of_ble_eq_true rfl) (fun r => ?_)
  show zG X ad shM eI 8 [some (.ref (ad 0)), some (.int x1), some (.int x2)] [.int r] h _
  refine g_bipush C 44 iX7_more_8 (by decide) ?_
  refine g_icmp_ne C 32 iX7_more_10 (by decide) (fun c10 => ?_) (fun c10 => ?_)
  · refine g_aload_n C iX7_more_13 rfl ?_
    refine g_aload_n C iX7_more_14 rfl ?_
    refine g_getI C fX7_76 iX7_more_15 mh0 rfl ?_
    refine g_iconst C 1 iX7_more_18 (by decide) ?_
    refine g_iadd C iX7_more_19 ?_
    refine g_iload_n C iX7_more_20 rfl ?_
    refine g_iload_n C iX7_more_21 rfl ?_
    refine g_callV C wX7_86 iX7_more_22 (m_Mo_number ((h 0 12) + 1) x1 x2 h) (by decide) mh0 rfl rfl rfl rfl (Nat.le_of_ble_eq_true rfl) (fun r_1 => ?_)
    show zG X ad shM eI 25 [some (.ref (ad 0)), some (.int x1), some (.int x2)] [.int r_1.1] r_1.2 _
    refine g_if_eq C 32 iX7_more_25 (by decide) (fun c25 => ?_) (fun c25 => ?_)
    · refine g_iconst C 0 iX7_more_32 (by decide) ?_
      exact g_zret C iX7_more_33 rfl rfl
    · refine g_iconst C 1 iX7_more_28 (by decide) ?_
      refine g_goto C 33 iX7_more_29 (by decide) ?_
      exact g_zret C iX7_more_33 rfl rfl
  · refine g_iconst C 0 iX7_more_32 (by decide) ?_
    exact g_zret C iX7_more_33 rfl rfl

theorem iX7_readsLink_9 : zI cX7_readsLink 9 (.if_icmp .eq 20) 3 12 := ⟨by decide +kernel, rfl⟩
theorem iX7_readsLink_30 : zI cX7_readsLink 30 (.ireturn) 1 31 := ⟨by decide +kernel, rfl⟩
theorem iX7_readsLink_29 : zI cX7_readsLink 29 (.iconst 0) 1 30 := ⟨by decide +kernel, rfl⟩
theorem iX7_readsLink_23 : zI cX7_readsLink 23 (.invokevirtual 86) 3 26 := ⟨by decide +kernel, rfl⟩
theorem iX7_readsLink_26 : zI cX7_readsLink 26 (.ifCond .ne 5) 3 29 := ⟨by decide +kernel, rfl⟩
set_option maxRecDepth 100000 in
theorem wX7_89 : zCv RX7 89 yX7_more cX7_more 3 (some .boolean) 2 := ⟨⟨(zmem 884 (by decide +kernel) (by decide +kernel)), (zmem 76 (by decide +kernel) (by decide +kernel)), (zmem 887 rfl rfl), ⟨by decide, by decide, by decide +kernel⟩, by decide⟩, (zmem 886 (by decide +kernel) (by decide +kernel)), (zmem 31 (by decide +kernel) (by decide +kernel))⟩
theorem iX7_readsLink_46 : zI cX7_readsLink 46 (.invokevirtual 89) 3 49 := ⟨by decide +kernel, rfl⟩
theorem iX7_readsLink_67 : zI cX7_readsLink 67 (.ifCond .eq 15) 3 70 := ⟨by decide +kernel, rfl⟩
theorem iX7_readsLink_83 : zI cX7_readsLink 83 (.ireturn) 1 84 := ⟨by decide +kernel, rfl⟩
theorem iX7_readsLink_82 : zI cX7_readsLink 82 (.iload_n 3) 1 83 := ⟨by decide +kernel, rfl⟩
set_option maxRecDepth 100000 in
theorem wX7_40 : zCv RX7 40 yX7_adds cX7_adds 7 none 5 := ⟨⟨(zmem 770 (by decide +kernel) (by decide +kernel)), (zmem 76 (by decide +kernel) (by decide +kernel)), (zmem 773 rfl rfl), ⟨by decide, by decide, by decide +kernel⟩, by decide⟩, (zmem 772 (by decide +kernel) (by decide +kernel)), (zmem 20 (by decide +kernel) (by decide +kernel))⟩
theorem iX7_readsLink_79 : zI cX7_readsLink 79 (.invokevirtual 40) 3 82 := ⟨by decide +kernel, rfl⟩
theorem iX7_readsLink_78 : zI cX7_readsLink 78 (.iconst 0) 1 79 := ⟨by decide +kernel, rfl⟩
theorem iX7_readsLink_77 : zI cX7_readsLink 77 (.iconst 0) 1 78 := ⟨by decide +kernel, rfl⟩
theorem iX7_readsLink_74 : zI cX7_readsLink 74 (.getfield 73) 3 77 := ⟨by decide +kernel, rfl⟩
theorem iX7_readsLink_73 : zI cX7_readsLink 73 (.aload_n 0) 1 74 := ⟨by decide +kernel, rfl⟩
theorem iX7_readsLink_72 : zI cX7_readsLink 72 (.iload_n 2) 1 73 := ⟨by decide +kernel, rfl⟩
theorem iX7_readsLink_71 : zI cX7_readsLink 71 (.iconst 1) 1 72 := ⟨by decide +kernel, rfl⟩
theorem iX7_readsLink_70 : zI cX7_readsLink 70 (.aload_n 0) 1 71 := ⟨by decide +kernel, rfl⟩
theorem iX7_readsLink_66 : zI cX7_readsLink 66 (.iload_n 3) 1 67 := ⟨by decide +kernel, rfl⟩
theorem iX7_readsLink_65 : zI cX7_readsLink 65 (.istore_n 3) 1 66 := ⟨by decide +kernel, rfl⟩
theorem iX7_readsLink_49 : zI cX7_readsLink 49 (.ifCond .eq 15) 3 52 := ⟨by decide +kernel, rfl⟩
theorem iX7_readsLink_64 : zI cX7_readsLink 64 (.iconst 0) 1 65 := ⟨by decide +kernel, rfl⟩
theorem iX7_readsLink_57 : zI cX7_readsLink 57 (.if_icmp .eq 7) 3 60 := ⟨by decide +kernel, rfl⟩
theorem iX7_readsLink_61 : zI cX7_readsLink 61 (.goto 4) 3 64 := ⟨by decide +kernel, rfl⟩
theorem iX7_readsLink_60 : zI cX7_readsLink 60 (.iconst 1) 1 61 := ⟨by decide +kernel, rfl⟩
theorem iX7_readsLink_56 : zI cX7_readsLink 56 (.iload_n 2) 1 57 := ⟨by decide +kernel, rfl⟩
theorem iX7_readsLink_53 : zI cX7_readsLink 53 (.getfield 73) 3 56 := ⟨by decide +kernel, rfl⟩
theorem iX7_readsLink_52 : zI cX7_readsLink 52 (.aload_n 0) 1 53 := ⟨by decide +kernel, rfl⟩
theorem iX7_readsLink_45 : zI cX7_readsLink 45 (.isub) 1 46 := ⟨by decide +kernel, rfl⟩
theorem iX7_readsLink_44 : zI cX7_readsLink 44 (.iconst 1) 1 45 := ⟨by decide +kernel, rfl⟩
theorem iX7_readsLink_43 : zI cX7_readsLink 43 (.iaload) 1 44 := ⟨by decide +kernel, rfl⟩
theorem iX7_readsLink_42 : zI cX7_readsLink 42 (.iconst 5) 1 43 := ⟨by decide +kernel, rfl⟩
theorem iX7_readsLink_39 : zI cX7_readsLink 39 (.getfield 13) 3 42 := ⟨by decide +kernel, rfl⟩
theorem iX7_readsLink_38 : zI cX7_readsLink 38 (.aload_n 0) 1 39 := ⟨by decide +kernel, rfl⟩
theorem iX7_readsLink_37 : zI cX7_readsLink 37 (.iconst 0) 1 38 := ⟨by decide +kernel, rfl⟩
theorem iX7_readsLink_36 : zI cX7_readsLink 36 (.aload_n 0) 1 37 := ⟨by decide +kernel, rfl⟩
theorem iX7_readsLink_35 : zI cX7_readsLink 35 (.istore_n 2) 1 36 := ⟨by decide +kernel, rfl⟩
theorem iX7_readsLink_32 : zI cX7_readsLink 32 (.getfield 73) 3 35 := ⟨by decide +kernel, rfl⟩
theorem iX7_readsLink_31 : zI cX7_readsLink 31 (.aload_n 0) 1 32 := ⟨by decide +kernel, rfl⟩
theorem iX7_readsLink_22 : zI cX7_readsLink 22 (.isub) 1 23 := ⟨by decide +kernel, rfl⟩
theorem iX7_readsLink_21 : zI cX7_readsLink 21 (.iconst 1) 1 22 := ⟨by decide +kernel, rfl⟩
theorem iX7_readsLink_20 : zI cX7_readsLink 20 (.iaload) 1 21 := ⟨by decide +kernel, rfl⟩
theorem iX7_readsLink_19 : zI cX7_readsLink 19 (.iconst 5) 1 20 := ⟨by decide +kernel, rfl⟩
theorem iX7_readsLink_16 : zI cX7_readsLink 16 (.getfield 13) 3 19 := ⟨by decide +kernel, rfl⟩
theorem iX7_readsLink_15 : zI cX7_readsLink 15 (.aload_n 0) 1 16 := ⟨by decide +kernel, rfl⟩
theorem iX7_readsLink_14 : zI cX7_readsLink 14 (.iconst 0) 1 15 := ⟨by decide +kernel, rfl⟩
theorem iX7_readsLink_13 : zI cX7_readsLink 13 (.iload_n 1) 1 14 := ⟨by decide +kernel, rfl⟩
theorem iX7_readsLink_12 : zI cX7_readsLink 12 (.aload_n 0) 1 13 := ⟨by decide +kernel, rfl⟩
theorem iX7_readsLink_7 : zI cX7_readsLink 7 (.bipush 9) 2 9 := ⟨by decide +kernel, rfl⟩
theorem iX7_readsLink_6 : zI cX7_readsLink 6 (.iaload) 1 7 := ⟨by decide +kernel, rfl⟩
theorem iX7_readsLink_4 : zI cX7_readsLink 4 (.bipush 6) 2 6 := ⟨by decide +kernel, rfl⟩
theorem iX7_readsLink_1 : zI cX7_readsLink 1 (.getfield 13) 3 4 := ⟨by decide +kernel, rfl⟩
theorem iX7_readsLink_0 : zI cX7_readsLink 0 (.aload_n 0) 1 1 := ⟨by decide +kernel, rfl⟩
set_option maxHeartbeats 4000000 in
set_option maxRecDepth 100000 in
theorem m_Mo_readsLink (x1 : Int32) (h : zH) : zM yX7_readsLink cX7_readsLink 4 (some .boolean) 3 shM (fun ad => [.ref (ad 0), .int x1]) h eI (Mo_readsLink x1 h) := by
  refine zM.of (by decide) (fun _ => rfl) (fun _ => Nat.le_of_ble_eq_true rfl) (fun X ad hnL C => ?_)
  show zG X ad shM eI 0 [some (.ref (ad 0)), some (.int x1), none, none] [] h _
  unfold Mo_readsLink
  refine g_aload_n C iX7_readsLink_0 rfl ?_
  refine g_getR (b := 2) C fX7_13 iX7_readsLink_1 mh0 rfl ?_
  refine g_bipush C 6 iX7_readsLink_4 (by decide) ?_
  refine g_ialoadL C 6 iX7_readsLink_6 mh2 (by decide) (by decide) ?_
  refine g_bipush C 9 iX7_readsLink_7 (by decide) ?_
  refine g_icmp_eq C 29 iX7_readsLink_9 (by decide) (fun c9 => ?_) (fun c9 => ?_)
  · refine g_iconst C 0 iX7_readsLink_29 (by decide) ?_
    exact g_zret C iX7_readsLink_30 rfl rfl
  · refine g_aload_n C iX7_readsLink_12 rfl ?_
    refine g_iload_n C iX7_readsLink_13 rfl ?_
    refine g_iconst C 0 iX7_readsLink_14 (by decide) ?_
    refine g_aload_n C iX7_readsLink_15 rfl ?_
    refine g_getR (b := 2) C fX7_13 iX7_readsLink_16 mh0 rfl ?_
    refine g_iconst C 5 iX7_readsLink_19 (by decide) ?_
    refine g_ialoadL C 5 iX7_readsLink_20 mh2 (by decide) (by decide) ?_
    refine g_iconst C 1 iX7_readsLink_21 (by decide) ?_
    refine g_isub C iX7_readsLink_22 ?_
    refine g_callV C wX7_86 iX7_readsLink_23 (m_Mo_number x1 0 ((h 2 5) - 1) h) (by decide) mh0 rfl rfl rfl rfl (Nat.le_of_ble_eq_true rfl) (fun r => ?_)
    show zG X ad shM eI 26 [some (.ref (ad 0)), some (.int x1), none, none] [.int r.1] r.2 _
    refine g_if_ne C 31 iX7_readsLink_26 (by decide) (fun c26 => ?_) (fun c26 => ?_)
    · refine g_iconst C 0 iX7_readsLink_29 (by decide) ?_
      exact g_zret C iX7_readsLink_30 rfl rfl
    · refine g_aload_n C iX7_readsLink_31 rfl ?_
      refine g_getI C fX7_73 iX7_readsLink_32 mh0 rfl ?_
      refine g_top (fun x2 => ?_)
      refine g_istore_n (lv' := [some (.ref (ad 0)), some (.int x1), some (.int x2), none]) C hnL iX7_readsLink_35 (by decide) rfl ?_
      refine g_aload_n C iX7_readsLink_36 rfl ?_
      refine g_iconst C 0 iX7_readsLink_37 (by decide) ?_
      refine g_aload_n C iX7_readsLink_38 rfl ?_
      refine g_getR (b := 2) C fX7_13 iX7_readsLink_39 mh0 rfl ?_
      refine g_iconst C 5 iX7_readsLink_42 (by decide) ?_
      refine g_ialoadL C 5 iX7_readsLink_43 mh2 (by decide) (by decide) ?_
      refine g_iconst C 1 iX7_readsLink_44 (by decide) ?_
      refine g_isub C iX7_readsLink_45 ?_
      refine g_callV C wX7_89 iX7_readsLink_46 (m_Mo_more 0 ((r.2 2 5) - 1) r.2) (by decide) mh0 rfl rfl rfl rfl (Nat.le_of_ble_eq_true rfl) (fun r_1 => ?_)
      show zG X ad shM eI 49 [some (.ref (ad 0)), some (.int x1), some (.int x2), none] [.int r_1.1] r_1.2 _
      refine g_let (fun j65 ej65 => ?_)
      have hj65 : ∀ (v65 : Int32), zG X ad shM eI 65 [some (.ref (ad 0)), none, some (.int x2), none] [.int v65] r_1.2 (j65 v65) := by
        intro v65
        subst ej65
        refine g_istore_n (lv' := [some (.ref (ad 0)), none, some (.int x2), some (.int v65)]) C hnL iX7_readsLink_65 (by decide) rfl ?_
        refine g_iload_n C iX7_readsLink_66 rfl ?_
        refine g_if_eq C 82 iX7_readsLink_67 (by decide) (fun c67 => ?_) (fun c67 => ?_)
        · refine g_iload_n C iX7_readsLink_82 rfl ?_
          exact g_zretG C iX7_readsLink_83 rfl
        · refine g_aload_n C iX7_readsLink_70 rfl ?_
          refine g_iconst C 1 iX7_readsLink_71 (by decide) ?_
          refine g_iload_n C iX7_readsLink_72 rfl ?_
          refine g_aload_n C iX7_readsLink_73 rfl ?_
          refine g_getI C fX7_73 iX7_readsLink_74 mh0 rfl ?_
          refine g_iconst C 0 iX7_readsLink_77 (by decide) ?_
          refine g_iconst C 0 iX7_readsLink_78 (by decide) ?_
          refine g_callV C wX7_40 iX7_readsLink_79 (m_Mo_adds 1 x2 (r_1.2 0 11) 0 0 r_1.2) (by decide) mh0 rfl rfl rfl rfl (Nat.le_of_ble_eq_true rfl) (fun h_1 => ?_)
          show zG X ad shM eI 82 [some (.ref (ad 0)), none, some (.int x2), some (.int v65)] [] h_1 _
          refine g_iload_n C iX7_readsLink_82 rfl ?_
          exact g_zretG C iX7_readsLink_83 rfl
      clear ej65
      refine g_if_eq C 64 iX7_readsLink_49 (by decide) (fun c49 => ?_) (fun c49 => ?_)
      · refine g_iconst C 0 iX7_readsLink_64 (by decide) ?_
        refine g_sub (lv' := [some (.ref (ad 0)), none, some (.int x2), none]) ⟨rfl, ⟨rfl, trivial⟩⟩ ?_
        exact hj65 _
      · refine g_aload_n C iX7_readsLink_52 rfl ?_
        refine g_getI C fX7_73 iX7_readsLink_53 mh0 rfl ?_
        refine g_iload_n C iX7_readsLink_56 rfl ?_
        refine g_icmp_eq C 64 iX7_readsLink_57 (by decide) (fun c57 => ?_) (fun c57 => ?_)
        · refine g_iconst C 0 iX7_readsLink_64 (by decide) ?_
          refine g_sub (lv' := [some (.ref (ad 0)), none, some (.int x2), none]) ⟨rfl, ⟨rfl, trivial⟩⟩ ?_
          exact hj65 _
        · refine g_iconst C 1 iX7_readsLink_60 (by decide) ?_
          refine g_goto C 65 iX7_readsLink_61 (by decide) ?_
          refine g_sub (lv' := [some (.ref (ad 0)), none, some (.int x2), none]) ⟨rfl, ⟨rfl, trivial⟩⟩ ?_
          exact hj65 _

theorem iX7_readsPlant_9 : zI cX7_readsPlant 9 (.if_icmp .eq 20) 3 12 := ⟨by decide +kernel, rfl⟩
theorem iX7_readsPlant_30 : zI cX7_readsPlant 30 (.ireturn) 1 31 := ⟨by decide +kernel, rfl⟩
theorem iX7_readsPlant_29 : zI cX7_readsPlant 29 (.iconst 0) 1 30 := ⟨by decide +kernel, rfl⟩
theorem iX7_readsPlant_23 : zI cX7_readsPlant 23 (.invokevirtual 86) 3 26 := ⟨by decide +kernel, rfl⟩
theorem iX7_readsPlant_26 : zI cX7_readsPlant 26 (.ifCond .ne 5) 3 29 := ⟨by decide +kernel, rfl⟩
theorem iX7_readsPlant_40 : zI cX7_readsPlant 40 (.invokevirtual 89) 3 43 := ⟨by decide +kernel, rfl⟩
theorem iX7_readsPlant_43 : zI cX7_readsPlant 43 (.ifCond .ne 5) 3 46 := ⟨by decide +kernel, rfl⟩
theorem iX7_readsPlant_57 : zI cX7_readsPlant 57 (.invokevirtual 89) 3 60 := ⟨by decide +kernel, rfl⟩
theorem iX7_readsPlant_60 : zI cX7_readsPlant 60 (.ifCond .ne 5) 3 63 := ⟨by decide +kernel, rfl⟩
theorem iX7_readsPlant_75 : zI cX7_readsPlant 75 (.invokevirtual 89) 3 78 := ⟨by decide +kernel, rfl⟩
theorem iX7_readsPlant_82 : zI cX7_readsPlant 82 (.ifCond .eq 16) 3 85 := ⟨by decide +kernel, rfl⟩
theorem iX7_readsPlant_100 : zI cX7_readsPlant 100 (.ireturn) 1 101 := ⟨by decide +kernel, rfl⟩
theorem iX7_readsPlant_98 : zI cX7_readsPlant 98 (.iload 5) 2 100 := ⟨by decide +kernel, rfl⟩
theorem iX7_readsPlant_95 : zI cX7_readsPlant 95 (.invokevirtual 40) 3 98 := ⟨by decide +kernel, rfl⟩
theorem iX7_readsPlant_92 : zI cX7_readsPlant 92 (.getfield 73) 3 95 := ⟨by decide +kernel, rfl⟩
theorem iX7_readsPlant_91 : zI cX7_readsPlant 91 (.aload_n 0) 1 92 := ⟨by decide +kernel, rfl⟩
theorem iX7_readsPlant_89 : zI cX7_readsPlant 89 (.iload 4) 2 91 := ⟨by decide +kernel, rfl⟩
theorem iX7_readsPlant_88 : zI cX7_readsPlant 88 (.iload_n 3) 1 89 := ⟨by decide +kernel, rfl⟩
theorem iX7_readsPlant_87 : zI cX7_readsPlant 87 (.iload_n 2) 1 88 := ⟨by decide +kernel, rfl⟩
theorem iX7_readsPlant_86 : zI cX7_readsPlant 86 (.iconst 2) 1 87 := ⟨by decide +kernel, rfl⟩
theorem iX7_readsPlant_85 : zI cX7_readsPlant 85 (.aload_n 0) 1 86 := ⟨by decide +kernel, rfl⟩
theorem iX7_readsPlant_80 : zI cX7_readsPlant 80 (.iload 5) 2 82 := ⟨by decide +kernel, rfl⟩
theorem iX7_readsPlant_78 : zI cX7_readsPlant 78 (.istore 5) 2 80 := ⟨by decide +kernel, rfl⟩
theorem iX7_readsPlant_73 : zI cX7_readsPlant 73 (.bipush 9) 2 75 := ⟨by decide +kernel, rfl⟩
theorem iX7_readsPlant_72 : zI cX7_readsPlant 72 (.iconst 1) 1 73 := ⟨by decide +kernel, rfl⟩
theorem iX7_readsPlant_71 : zI cX7_readsPlant 71 (.aload_n 0) 1 72 := ⟨by decide +kernel, rfl⟩
theorem iX7_readsPlant_69 : zI cX7_readsPlant 69 (.istore 4) 2 71 := ⟨by decide +kernel, rfl⟩
theorem iX7_readsPlant_66 : zI cX7_readsPlant 66 (.getfield 73) 3 69 := ⟨by decide +kernel, rfl⟩
theorem iX7_readsPlant_65 : zI cX7_readsPlant 65 (.aload_n 0) 1 66 := ⟨by decide +kernel, rfl⟩
theorem iX7_readsPlant_64 : zI cX7_readsPlant 64 (.ireturn) 1 65 := ⟨by decide +kernel, rfl⟩
theorem iX7_readsPlant_63 : zI cX7_readsPlant 63 (.iconst 0) 1 64 := ⟨by decide +kernel, rfl⟩
theorem iX7_readsPlant_55 : zI cX7_readsPlant 55 (.bipush 9) 2 57 := ⟨by decide +kernel, rfl⟩
theorem iX7_readsPlant_54 : zI cX7_readsPlant 54 (.iconst 1) 1 55 := ⟨by decide +kernel, rfl⟩
theorem iX7_readsPlant_53 : zI cX7_readsPlant 53 (.aload_n 0) 1 54 := ⟨by decide +kernel, rfl⟩
theorem iX7_readsPlant_52 : zI cX7_readsPlant 52 (.istore_n 3) 1 53 := ⟨by decide +kernel, rfl⟩
theorem iX7_readsPlant_49 : zI cX7_readsPlant 49 (.getfield 73) 3 52 := ⟨by decide +kernel, rfl⟩
theorem iX7_readsPlant_48 : zI cX7_readsPlant 48 (.aload_n 0) 1 49 := ⟨by decide +kernel, rfl⟩
theorem iX7_readsPlant_47 : zI cX7_readsPlant 47 (.ireturn) 1 48 := ⟨by decide +kernel, rfl⟩
theorem iX7_readsPlant_46 : zI cX7_readsPlant 46 (.iconst 0) 1 47 := ⟨by decide +kernel, rfl⟩
theorem iX7_readsPlant_38 : zI cX7_readsPlant 38 (.bipush 99) 2 40 := ⟨by decide +kernel, rfl⟩
theorem iX7_readsPlant_37 : zI cX7_readsPlant 37 (.iconst 1) 1 38 := ⟨by decide +kernel, rfl⟩
theorem iX7_readsPlant_36 : zI cX7_readsPlant 36 (.aload_n 0) 1 37 := ⟨by decide +kernel, rfl⟩
theorem iX7_readsPlant_35 : zI cX7_readsPlant 35 (.istore_n 2) 1 36 := ⟨by decide +kernel, rfl⟩
theorem iX7_readsPlant_32 : zI cX7_readsPlant 32 (.getfield 73) 3 35 := ⟨by decide +kernel, rfl⟩
theorem iX7_readsPlant_31 : zI cX7_readsPlant 31 (.aload_n 0) 1 32 := ⟨by decide +kernel, rfl⟩
theorem iX7_readsPlant_22 : zI cX7_readsPlant 22 (.isub) 1 23 := ⟨by decide +kernel, rfl⟩
theorem iX7_readsPlant_21 : zI cX7_readsPlant 21 (.iconst 1) 1 22 := ⟨by decide +kernel, rfl⟩
theorem iX7_readsPlant_20 : zI cX7_readsPlant 20 (.iaload) 1 21 := ⟨by decide +kernel, rfl⟩
theorem iX7_readsPlant_19 : zI cX7_readsPlant 19 (.iconst 5) 1 20 := ⟨by decide +kernel, rfl⟩
theorem iX7_readsPlant_16 : zI cX7_readsPlant 16 (.getfield 13) 3 19 := ⟨by decide +kernel, rfl⟩
theorem iX7_readsPlant_15 : zI cX7_readsPlant 15 (.aload_n 0) 1 16 := ⟨by decide +kernel, rfl⟩
theorem iX7_readsPlant_14 : zI cX7_readsPlant 14 (.iconst 0) 1 15 := ⟨by decide +kernel, rfl⟩
theorem iX7_readsPlant_13 : zI cX7_readsPlant 13 (.iload_n 1) 1 14 := ⟨by decide +kernel, rfl⟩
theorem iX7_readsPlant_12 : zI cX7_readsPlant 12 (.aload_n 0) 1 13 := ⟨by decide +kernel, rfl⟩
theorem iX7_readsPlant_7 : zI cX7_readsPlant 7 (.bipush 6) 2 9 := ⟨by decide +kernel, rfl⟩
theorem iX7_readsPlant_6 : zI cX7_readsPlant 6 (.iaload) 1 7 := ⟨by decide +kernel, rfl⟩
theorem iX7_readsPlant_4 : zI cX7_readsPlant 4 (.bipush 7) 2 6 := ⟨by decide +kernel, rfl⟩
theorem iX7_readsPlant_1 : zI cX7_readsPlant 1 (.getfield 13) 3 4 := ⟨by decide +kernel, rfl⟩
theorem iX7_readsPlant_0 : zI cX7_readsPlant 0 (.aload_n 0) 1 1 := ⟨by decide +kernel, rfl⟩
set_option maxHeartbeats 4000000 in
set_option maxRecDepth 100000 in
theorem m_Mo_readsPlant (x1 : Int32) (h : zH) : zM yX7_readsPlant cX7_readsPlant 6 (some .boolean) 3 shM (fun ad => [.ref (ad 0), .int x1]) h eI (Mo_readsPlant x1 h) := by
  refine zM.of (by decide) (fun _ => rfl) (fun _ => Nat.le_of_ble_eq_true rfl) (fun X ad hnL C => ?_)
  show zG X ad shM eI 0 [some (.ref (ad 0)), some (.int x1), none, none, none, none] [] h _
  unfold Mo_readsPlant
  refine g_aload_n C iX7_readsPlant_0 rfl ?_
  refine g_getR (b := 2) C fX7_13 iX7_readsPlant_1 mh0 rfl ?_
  refine g_bipush C 7 iX7_readsPlant_4 (by decide) ?_
  refine g_ialoadL C 7 iX7_readsPlant_6 mh2 (by decide) (by decide) ?_
  refine g_bipush C 6 iX7_readsPlant_7 (by decide) ?_
  refine g_icmp_eq C 29 iX7_readsPlant_9 (by decide) (fun c9 => ?_) (fun c9 => ?_)
  · refine g_iconst C 0 iX7_readsPlant_29 (by decide) ?_
    exact g_zret C iX7_readsPlant_30 rfl rfl
  · refine g_aload_n C iX7_readsPlant_12 rfl ?_
    refine g_iload_n C iX7_readsPlant_13 rfl ?_
    refine g_iconst C 0 iX7_readsPlant_14 (by decide) ?_
    refine g_aload_n C iX7_readsPlant_15 rfl ?_
    refine g_getR (b := 2) C fX7_13 iX7_readsPlant_16 mh0 rfl ?_
    refine g_iconst C 5 iX7_readsPlant_19 (by decide) ?_
    refine g_ialoadL C 5 iX7_readsPlant_20 mh2 (by decide) (by decide) ?_
    refine g_iconst C 1 iX7_readsPlant_21 (by decide) ?_
    refine g_isub C iX7_readsPlant_22 ?_
    refine g_callV C wX7_86 iX7_readsPlant_23 (m_Mo_number x1 0 ((h 2 5) - 1) h) (by decide) mh0 rfl rfl rfl rfl (Nat.le_of_ble_eq_true rfl) (fun r => ?_)
    show zG X ad shM eI 26 [some (.ref (ad 0)), some (.int x1), none, none, none, none] [.int r.1] r.2 _
    refine g_if_ne C 31 iX7_readsPlant_26 (by decide) (fun c26 => ?_) (fun c26 => ?_)
    · refine g_iconst C 0 iX7_readsPlant_29 (by decide) ?_
      exact g_zret C iX7_readsPlant_30 rfl rfl
    · refine g_aload_n C iX7_readsPlant_31 rfl ?_
      refine g_getI C fX7_73 iX7_readsPlant_32 mh0 rfl ?_
      refine g_top (fun x2 => ?_)
      refine g_istore_n (lv' := [some (.ref (ad 0)), some (.int x1), some (.int x2), none, none, none]) C hnL iX7_readsPlant_35 (by decide) rfl ?_
      refine g_aload_n C iX7_readsPlant_36 rfl ?_
      refine g_iconst C 1 iX7_readsPlant_37 (by decide) ?_
      refine g_bipush C 99 iX7_readsPlant_38 (by decide) ?_
      refine g_callV C wX7_89 iX7_readsPlant_40 (m_Mo_more 1 99 r.2) (by decide) mh0 rfl rfl rfl rfl (Nat.le_of_ble_eq_true rfl) (fun r_1 => ?_)
      show zG X ad shM eI 43 [some (.ref (ad 0)), some (.int x1), some (.int x2), none, none, none] [.int r_1.1] r_1.2 _
      refine g_if_ne C 48 iX7_readsPlant_43 (by decide) (fun c43 => ?_) (fun c43 => ?_)
      · refine g_iconst C 0 iX7_readsPlant_46 (by decide) ?_
        exact g_zret C iX7_readsPlant_47 rfl rfl
      · refine g_aload_n C iX7_readsPlant_48 rfl ?_
        refine g_getI C fX7_73 iX7_readsPlant_49 mh0 rfl ?_
        refine g_top (fun x3 => ?_)
        refine g_istore_n (lv' := [some (.ref (ad 0)), some (.int x1), some (.int x2), some (.int x3), none, none]) C hnL iX7_readsPlant_52 (by decide) rfl ?_
        refine g_aload_n C iX7_readsPlant_53 rfl ?_
        refine g_iconst C 1 iX7_readsPlant_54 (by decide) ?_
        refine g_bipush C 9 iX7_readsPlant_55 (by decide) ?_
        refine g_callV C wX7_89 iX7_readsPlant_57 (m_Mo_more 1 9 r_1.2) (by decide) mh0 rfl rfl rfl rfl (Nat.le_of_ble_eq_true rfl) (fun r_2 => ?_)
        show zG X ad shM eI 60 [some (.ref (ad 0)), some (.int x1), some (.int x2), some (.int x3), none, none] [.int r_2.1] r_2.2 _
        refine g_if_ne C 65 iX7_readsPlant_60 (by decide) (fun c60 => ?_) (fun c60 => ?_)
        · refine g_iconst C 0 iX7_readsPlant_63 (by decide) ?_
          exact g_zret C iX7_readsPlant_64 rfl rfl
        · refine g_aload_n C iX7_readsPlant_65 rfl ?_
          refine g_getI C fX7_73 iX7_readsPlant_66 mh0 rfl ?_
          refine g_top (fun x4 => ?_)
          refine g_istore (lv' := [some (.ref (ad 0)), some (.int x1), some (.int x2), some (.int x3), some (.int x4), none]) C hnL iX7_readsPlant_69 (by decide) rfl ?_
          refine g_aload_n C iX7_readsPlant_71 rfl ?_
          refine g_iconst C 1 iX7_readsPlant_72 (by decide) ?_
          refine g_bipush C 9 iX7_readsPlant_73 (by decide) ?_
          refine g_callV C wX7_89 iX7_readsPlant_75 (m_Mo_more 1 9 r_2.2) (by decide) mh0 rfl rfl rfl rfl (Nat.le_of_ble_eq_true rfl) (fun r_3 => ?_)
          show zG X ad shM eI 78 [some (.ref (ad 0)), some (.int x1), some (.int x2), some (.int x3), some (.int x4), none] [.int r_3.1] r_3.2 _
          refine g_istore (lv' := [some (.ref (ad 0)), some (.int x1), some (.int x2), some (.int x3), some (.int x4), some (.int r_3.1)]) C hnL iX7_readsPlant_78 (by decide) rfl ?_
          refine g_iload C iX7_readsPlant_80 rfl ?_
          refine g_if_eq C 98 iX7_readsPlant_82 (by decide) (fun c82 => ?_) (fun c82 => ?_)
          · refine g_iload C iX7_readsPlant_98 rfl ?_
            exact g_zretG C iX7_readsPlant_100 rfl
          · refine g_aload_n C iX7_readsPlant_85 rfl ?_
            refine g_iconst C 2 iX7_readsPlant_86 (by decide) ?_
            refine g_iload_n C iX7_readsPlant_87 rfl ?_
            refine g_iload_n C iX7_readsPlant_88 rfl ?_
            refine g_iload C iX7_readsPlant_89 rfl ?_
            refine g_aload_n C iX7_readsPlant_91 rfl ?_
            refine g_getI C fX7_73 iX7_readsPlant_92 mh0 rfl ?_
            refine g_callV C wX7_40 iX7_readsPlant_95 (m_Mo_adds 2 x2 x3 x4 (r_3.2 0 11) r_3.2) (by decide) mh0 rfl rfl rfl rfl (Nat.le_of_ble_eq_true rfl) (fun h_1 => ?_)
            show zG X ad shM eI 98 [some (.ref (ad 0)), some (.int x1), some (.int x2), some (.int x3), some (.int x4), some (.int r_3.1)] [] h_1 _
            refine g_iload C iX7_readsPlant_98 rfl ?_
            exact g_zretG C iX7_readsPlant_100 rfl

theorem iX7_readsFeeder_9 : zI cX7_readsFeeder 9 (.if_icmp .eq 20) 3 12 := ⟨by decide +kernel, rfl⟩
theorem iX7_readsFeeder_30 : zI cX7_readsFeeder 30 (.ireturn) 1 31 := ⟨by decide +kernel, rfl⟩
theorem iX7_readsFeeder_29 : zI cX7_readsFeeder 29 (.iconst 0) 1 30 := ⟨by decide +kernel, rfl⟩
theorem iX7_readsFeeder_23 : zI cX7_readsFeeder 23 (.invokevirtual 86) 3 26 := ⟨by decide +kernel, rfl⟩
theorem iX7_readsFeeder_26 : zI cX7_readsFeeder 26 (.ifCond .ne 5) 3 29 := ⟨by decide +kernel, rfl⟩
theorem iX7_readsFeeder_40 : zI cX7_readsFeeder 40 (.invokevirtual 89) 3 43 := ⟨by decide +kernel, rfl⟩
theorem iX7_readsFeeder_43 : zI cX7_readsFeeder 43 (.ifCond .ne 5) 3 46 := ⟨by decide +kernel, rfl⟩
theorem iX7_readsFeeder_56 : zI cX7_readsFeeder 56 (.invokevirtual 89) 3 59 := ⟨by decide +kernel, rfl⟩
theorem iX7_readsFeeder_63 : zI cX7_readsFeeder 63 (.ifCond .eq 15) 3 66 := ⟨by decide +kernel, rfl⟩
theorem iX7_readsFeeder_80 : zI cX7_readsFeeder 80 (.ireturn) 1 81 := ⟨by decide +kernel, rfl⟩
theorem iX7_readsFeeder_78 : zI cX7_readsFeeder 78 (.iload 4) 2 80 := ⟨by decide +kernel, rfl⟩
theorem iX7_readsFeeder_75 : zI cX7_readsFeeder 75 (.invokevirtual 40) 3 78 := ⟨by decide +kernel, rfl⟩
theorem iX7_readsFeeder_74 : zI cX7_readsFeeder 74 (.iconst 0) 1 75 := ⟨by decide +kernel, rfl⟩
theorem iX7_readsFeeder_71 : zI cX7_readsFeeder 71 (.getfield 73) 3 74 := ⟨by decide +kernel, rfl⟩
theorem iX7_readsFeeder_70 : zI cX7_readsFeeder 70 (.aload_n 0) 1 71 := ⟨by decide +kernel, rfl⟩
theorem iX7_readsFeeder_69 : zI cX7_readsFeeder 69 (.iload_n 3) 1 70 := ⟨by decide +kernel, rfl⟩
theorem iX7_readsFeeder_68 : zI cX7_readsFeeder 68 (.iload_n 2) 1 69 := ⟨by decide +kernel, rfl⟩
theorem iX7_readsFeeder_67 : zI cX7_readsFeeder 67 (.iconst 3) 1 68 := ⟨by decide +kernel, rfl⟩
theorem iX7_readsFeeder_66 : zI cX7_readsFeeder 66 (.aload_n 0) 1 67 := ⟨by decide +kernel, rfl⟩
theorem iX7_readsFeeder_61 : zI cX7_readsFeeder 61 (.iload 4) 2 63 := ⟨by decide +kernel, rfl⟩
theorem iX7_readsFeeder_59 : zI cX7_readsFeeder 59 (.istore 4) 2 61 := ⟨by decide +kernel, rfl⟩
theorem iX7_readsFeeder_55 : zI cX7_readsFeeder 55 (.iconst 5) 1 56 := ⟨by decide +kernel, rfl⟩
theorem iX7_readsFeeder_54 : zI cX7_readsFeeder 54 (.iconst 0) 1 55 := ⟨by decide +kernel, rfl⟩
theorem iX7_readsFeeder_53 : zI cX7_readsFeeder 53 (.aload_n 0) 1 54 := ⟨by decide +kernel, rfl⟩
theorem iX7_readsFeeder_52 : zI cX7_readsFeeder 52 (.istore_n 3) 1 53 := ⟨by decide +kernel, rfl⟩
theorem iX7_readsFeeder_49 : zI cX7_readsFeeder 49 (.getfield 73) 3 52 := ⟨by decide +kernel, rfl⟩
theorem iX7_readsFeeder_48 : zI cX7_readsFeeder 48 (.aload_n 0) 1 49 := ⟨by decide +kernel, rfl⟩
theorem iX7_readsFeeder_47 : zI cX7_readsFeeder 47 (.ireturn) 1 48 := ⟨by decide +kernel, rfl⟩
theorem iX7_readsFeeder_46 : zI cX7_readsFeeder 46 (.iconst 0) 1 47 := ⟨by decide +kernel, rfl⟩
theorem iX7_readsFeeder_38 : zI cX7_readsFeeder 38 (.bipush 50) 2 40 := ⟨by decide +kernel, rfl⟩
theorem iX7_readsFeeder_37 : zI cX7_readsFeeder 37 (.iconst 1) 1 38 := ⟨by decide +kernel, rfl⟩
theorem iX7_readsFeeder_36 : zI cX7_readsFeeder 36 (.aload_n 0) 1 37 := ⟨by decide +kernel, rfl⟩
theorem iX7_readsFeeder_35 : zI cX7_readsFeeder 35 (.istore_n 2) 1 36 := ⟨by decide +kernel, rfl⟩
theorem iX7_readsFeeder_32 : zI cX7_readsFeeder 32 (.getfield 73) 3 35 := ⟨by decide +kernel, rfl⟩
theorem iX7_readsFeeder_31 : zI cX7_readsFeeder 31 (.aload_n 0) 1 32 := ⟨by decide +kernel, rfl⟩
theorem iX7_readsFeeder_22 : zI cX7_readsFeeder 22 (.isub) 1 23 := ⟨by decide +kernel, rfl⟩
theorem iX7_readsFeeder_21 : zI cX7_readsFeeder 21 (.iconst 1) 1 22 := ⟨by decide +kernel, rfl⟩
theorem iX7_readsFeeder_20 : zI cX7_readsFeeder 20 (.iaload) 1 21 := ⟨by decide +kernel, rfl⟩
theorem iX7_readsFeeder_19 : zI cX7_readsFeeder 19 (.iconst 5) 1 20 := ⟨by decide +kernel, rfl⟩
theorem iX7_readsFeeder_16 : zI cX7_readsFeeder 16 (.getfield 13) 3 19 := ⟨by decide +kernel, rfl⟩
theorem iX7_readsFeeder_15 : zI cX7_readsFeeder 15 (.aload_n 0) 1 16 := ⟨by decide +kernel, rfl⟩
theorem iX7_readsFeeder_14 : zI cX7_readsFeeder 14 (.iconst 0) 1 15 := ⟨by decide +kernel, rfl⟩
theorem iX7_readsFeeder_13 : zI cX7_readsFeeder 13 (.iload_n 1) 1 14 := ⟨by decide +kernel, rfl⟩
theorem iX7_readsFeeder_12 : zI cX7_readsFeeder 12 (.aload_n 0) 1 13 := ⟨by decide +kernel, rfl⟩
theorem iX7_readsFeeder_7 : zI cX7_readsFeeder 7 (.bipush 9) 2 9 := ⟨by decide +kernel, rfl⟩
theorem iX7_readsFeeder_6 : zI cX7_readsFeeder 6 (.iaload) 1 7 := ⟨by decide +kernel, rfl⟩
theorem iX7_readsFeeder_4 : zI cX7_readsFeeder 4 (.bipush 8) 2 6 := ⟨by decide +kernel, rfl⟩
theorem iX7_readsFeeder_1 : zI cX7_readsFeeder 1 (.getfield 13) 3 4 := ⟨by decide +kernel, rfl⟩
theorem iX7_readsFeeder_0 : zI cX7_readsFeeder 0 (.aload_n 0) 1 1 := ⟨by decide +kernel, rfl⟩
set_option maxHeartbeats 4000000 in
set_option maxRecDepth 100000 in
theorem m_Mo_readsFeeder (x1 : Int32) (h : zH) : zM yX7_readsFeeder cX7_readsFeeder 5 (some .boolean) 3 shM (fun ad => [.ref (ad 0), .int x1]) h eI (Mo_readsFeeder x1 h) := by
  refine zM.of (by decide) (fun _ => rfl) (fun _ => Nat.le_of_ble_eq_true rfl) (fun X ad hnL C => ?_)
  show zG X ad shM eI 0 [some (.ref (ad 0)), some (.int x1), none, none, none] [] h _
  unfold Mo_readsFeeder
  refine g_aload_n C iX7_readsFeeder_0 rfl ?_
  refine g_getR (b := 2) C fX7_13 iX7_readsFeeder_1 mh0 rfl ?_
  refine g_bipush C 8 iX7_readsFeeder_4 (by decide) ?_
  refine g_ialoadL C 8 iX7_readsFeeder_6 mh2 (by decide) (by decide) ?_
  refine g_bipush C 9 iX7_readsFeeder_7 (by decide) ?_
  refine g_icmp_eq C 29 iX7_readsFeeder_9 (by decide) (fun c9 => ?_) (fun c9 => ?_)
  · refine g_iconst C 0 iX7_readsFeeder_29 (by decide) ?_
    exact g_zret C iX7_readsFeeder_30 rfl rfl
  · refine g_aload_n C iX7_readsFeeder_12 rfl ?_
    refine g_iload_n C iX7_readsFeeder_13 rfl ?_
    refine g_iconst C 0 iX7_readsFeeder_14 (by decide) ?_
    refine g_aload_n C iX7_readsFeeder_15 rfl ?_
    refine g_getR (b := 2) C fX7_13 iX7_readsFeeder_16 mh0 rfl ?_
    refine g_iconst C 5 iX7_readsFeeder_19 (by decide) ?_
    refine g_ialoadL C 5 iX7_readsFeeder_20 mh2 (by decide) (by decide) ?_
    refine g_iconst C 1 iX7_readsFeeder_21 (by decide) ?_
    refine g_isub C iX7_readsFeeder_22 ?_
    refine g_callV C wX7_86 iX7_readsFeeder_23 (m_Mo_number x1 0 ((h 2 5) - 1) h) (by decide) mh0 rfl rfl rfl rfl (Nat.le_of_ble_eq_true rfl) (fun r => ?_)
    show zG X ad shM eI 26 [some (.ref (ad 0)), some (.int x1), none, none, none] [.int r.1] r.2 _
    refine g_if_ne C 31 iX7_readsFeeder_26 (by decide) (fun c26 => ?_) (fun c26 => ?_)
    · refine g_iconst C 0 iX7_readsFeeder_29 (by decide) ?_
      exact g_zret C iX7_readsFeeder_30 rfl rfl
    · refine g_aload_n C iX7_readsFeeder_31 rfl ?_
      refine g_getI C fX7_73 iX7_readsFeeder_32 mh0 rfl ?_
      refine g_top (fun x2 => ?_)
      refine g_istore_n (lv' := [some (.ref (ad 0)), some (.int x1), some (.int x2), none, none]) C hnL iX7_readsFeeder_35 (by decide) rfl ?_
      refine g_aload_n C iX7_readsFeeder_36 rfl ?_
      refine g_iconst C 1 iX7_readsFeeder_37 (by decide) ?_
      refine g_bipush C 50 iX7_readsFeeder_38 (by decide) ?_
      refine g_callV C wX7_89 iX7_readsFeeder_40 (m_Mo_more 1 50 r.2) (by decide) mh0 rfl rfl rfl rfl (Nat.le_of_ble_eq_true rfl) (fun r_1 => ?_)
      show zG X ad shM eI 43 [some (.ref (ad 0)), some (.int x1), some (.int x2), none, none] [.int r_1.1] r_1.2 _
      refine g_if_ne C 48 iX7_readsFeeder_43 (by decide) (fun c43 => ?_) (fun c43 => ?_)
      · refine g_iconst C 0 iX7_readsFeeder_46 (by decide) ?_
        exact g_zret C iX7_readsFeeder_47 rfl rfl
      · refine g_aload_n C iX7_readsFeeder_48 rfl ?_
        refine g_getI C fX7_73 iX7_readsFeeder_49 mh0 rfl ?_
        refine g_top (fun x3 => ?_)
        refine g_istore_n (lv' := [some (.ref (ad 0)), some (.int x1), some (.int x2), some (.int x3), none]) C hnL iX7_readsFeeder_52 (by decide) rfl ?_
        refine g_aload_n C iX7_readsFeeder_53 rfl ?_
        refine g_iconst C 0 iX7_readsFeeder_54 (by decide) ?_
        refine g_iconst C 5 iX7_readsFeeder_55 (by decide) ?_
        refine g_callV C wX7_89 iX7_readsFeeder_56 (m_Mo_more 0 5 r_1.2) (by decide) mh0 rfl rfl rfl rfl (Nat.le_of_ble_eq_true rfl) (fun r_2 => ?_)
        show zG X ad shM eI 59 [some (.ref (ad 0)), some (.int x1), some (.int x2), some (.int x3), none] [.int r_2.1] r_2.2 _
        refine g_istore (lv' := [some (.ref (ad 0)), some (.int x1), some (.int x2), some (.int x3), some (.int r_2.1)]) C hnL iX7_readsFeeder_59 (by decide) rfl ?_
        refine g_iload C iX7_readsFeeder_61 rfl ?_
        refine g_if_eq C 78 iX7_readsFeeder_63 (by decide) (fun c63 => ?_) (fun c63 => ?_)
        · refine g_iload C iX7_readsFeeder_78 rfl ?_
          exact g_zretG C iX7_readsFeeder_80 rfl
        · refine g_aload_n C iX7_readsFeeder_66 rfl ?_
          refine g_iconst C 3 iX7_readsFeeder_67 (by decide) ?_
          refine g_iload_n C iX7_readsFeeder_68 rfl ?_
          refine g_iload_n C iX7_readsFeeder_69 rfl ?_
          refine g_aload_n C iX7_readsFeeder_70 rfl ?_
          refine g_getI C fX7_73 iX7_readsFeeder_71 mh0 rfl ?_
          refine g_iconst C 0 iX7_readsFeeder_74 (by decide) ?_
          refine g_callV C wX7_40 iX7_readsFeeder_75 (m_Mo_adds 3 x2 x3 (r_2.2 0 11) 0 r_2.2) (by decide) mh0 rfl rfl rfl rfl (Nat.le_of_ble_eq_true rfl) (fun h_1 => ?_)
          show zG X ad shM eI 78 [some (.ref (ad 0)), some (.int x1), some (.int x2), some (.int x3), some (.int r_2.1)] [] h_1 _
          refine g_iload C iX7_readsFeeder_78 rfl ?_
          exact g_zretG C iX7_readsFeeder_80 rfl

theorem iX7_readsStage_8 : zI cX7_readsStage 8 (.if_icmp .eq 17) 3 11 := ⟨by decide +kernel, rfl⟩
theorem iX7_readsStage_26 : zI cX7_readsStage 26 (.ireturn) 1 27 := ⟨by decide +kernel, rfl⟩
theorem iX7_readsStage_25 : zI cX7_readsStage 25 (.iconst 0) 1 26 := ⟨by decide +kernel, rfl⟩
theorem iX7_readsStage_19 : zI cX7_readsStage 19 (.invokevirtual 86) 3 22 := ⟨by decide +kernel, rfl⟩
theorem iX7_readsStage_22 : zI cX7_readsStage 22 (.ifCond .ne 5) 3 25 := ⟨by decide +kernel, rfl⟩
theorem iX7_readsStage_36 : zI cX7_readsStage 36 (.invokevirtual 89) 3 39 := ⟨by decide +kernel, rfl⟩
theorem iX7_readsStage_41 : zI cX7_readsStage 41 (.ifCond .eq 15) 3 44 := ⟨by decide +kernel, rfl⟩
theorem iX7_readsStage_57 : zI cX7_readsStage 57 (.ireturn) 1 58 := ⟨by decide +kernel, rfl⟩
theorem iX7_readsStage_56 : zI cX7_readsStage 56 (.iload_n 3) 1 57 := ⟨by decide +kernel, rfl⟩
theorem iX7_readsStage_53 : zI cX7_readsStage 53 (.invokevirtual 40) 3 56 := ⟨by decide +kernel, rfl⟩
theorem iX7_readsStage_52 : zI cX7_readsStage 52 (.iconst 0) 1 53 := ⟨by decide +kernel, rfl⟩
theorem iX7_readsStage_51 : zI cX7_readsStage 51 (.iconst 0) 1 52 := ⟨by decide +kernel, rfl⟩
theorem iX7_readsStage_48 : zI cX7_readsStage 48 (.getfield 73) 3 51 := ⟨by decide +kernel, rfl⟩
theorem iX7_readsStage_47 : zI cX7_readsStage 47 (.aload_n 0) 1 48 := ⟨by decide +kernel, rfl⟩
theorem iX7_readsStage_46 : zI cX7_readsStage 46 (.iload_n 2) 1 47 := ⟨by decide +kernel, rfl⟩
theorem iX7_readsStage_45 : zI cX7_readsStage 45 (.iconst 4) 1 46 := ⟨by decide +kernel, rfl⟩
theorem iX7_readsStage_44 : zI cX7_readsStage 44 (.aload_n 0) 1 45 := ⟨by decide +kernel, rfl⟩
theorem iX7_readsStage_40 : zI cX7_readsStage 40 (.iload_n 3) 1 41 := ⟨by decide +kernel, rfl⟩
theorem iX7_readsStage_39 : zI cX7_readsStage 39 (.istore_n 3) 1 40 := ⟨by decide +kernel, rfl⟩
theorem iX7_readsStage_34 : zI cX7_readsStage 34 (.bipush 9) 2 36 := ⟨by decide +kernel, rfl⟩
theorem iX7_readsStage_33 : zI cX7_readsStage 33 (.iconst 1) 1 34 := ⟨by decide +kernel, rfl⟩
theorem iX7_readsStage_32 : zI cX7_readsStage 32 (.aload_n 0) 1 33 := ⟨by decide +kernel, rfl⟩
theorem iX7_readsStage_31 : zI cX7_readsStage 31 (.istore_n 2) 1 32 := ⟨by decide +kernel, rfl⟩
theorem iX7_readsStage_28 : zI cX7_readsStage 28 (.getfield 73) 3 31 := ⟨by decide +kernel, rfl⟩
theorem iX7_readsStage_27 : zI cX7_readsStage 27 (.aload_n 0) 1 28 := ⟨by decide +kernel, rfl⟩
theorem iX7_readsStage_16 : zI cX7_readsStage 16 (.sipush 4999) 3 19 := ⟨by decide +kernel, rfl⟩
theorem iX7_readsStage_13 : zI cX7_readsStage 13 (.sipush 4700) 3 16 := ⟨by decide +kernel, rfl⟩
theorem iX7_readsStage_12 : zI cX7_readsStage 12 (.iload_n 1) 1 13 := ⟨by decide +kernel, rfl⟩
theorem iX7_readsStage_11 : zI cX7_readsStage 11 (.aload_n 0) 1 12 := ⟨by decide +kernel, rfl⟩
theorem iX7_readsStage_7 : zI cX7_readsStage 7 (.iconst 5) 1 8 := ⟨by decide +kernel, rfl⟩
theorem iX7_readsStage_6 : zI cX7_readsStage 6 (.iaload) 1 7 := ⟨by decide +kernel, rfl⟩
theorem iX7_readsStage_4 : zI cX7_readsStage 4 (.bipush 9) 2 6 := ⟨by decide +kernel, rfl⟩
theorem iX7_readsStage_1 : zI cX7_readsStage 1 (.getfield 13) 3 4 := ⟨by decide +kernel, rfl⟩
theorem iX7_readsStage_0 : zI cX7_readsStage 0 (.aload_n 0) 1 1 := ⟨by decide +kernel, rfl⟩
set_option maxHeartbeats 4000000 in
set_option maxRecDepth 100000 in
theorem m_Mo_readsStage (x1 : Int32) (h : zH) : zM yX7_readsStage cX7_readsStage 4 (some .boolean) 3 shM (fun ad => [.ref (ad 0), .int x1]) h eI (Mo_readsStage x1 h) := by
  refine zM.of (by decide) (fun _ => rfl) (fun _ => Nat.le_of_ble_eq_true rfl) (fun X ad hnL C => ?_)
  show zG X ad shM eI 0 [some (.ref (ad 0)), some (.int x1), none, none] [] h _
  unfold Mo_readsStage
  refine g_aload_n C iX7_readsStage_0 rfl ?_
  refine g_getR (b := 2) C fX7_13 iX7_readsStage_1 mh0 rfl ?_
  refine g_bipush C 9 iX7_readsStage_4 (by decide) ?_
  refine g_ialoadL C 9 iX7_readsStage_6 mh2 (by decide) (by decide) ?_
  refine g_iconst C 5 iX7_readsStage_7 (by decide) ?_
  refine g_icmp_eq C 25 iX7_readsStage_8 (by decide) (fun c8 => ?_) (fun c8 => ?_)
  · refine g_iconst C 0 iX7_readsStage_25 (by decide) ?_
    exact g_zret C iX7_readsStage_26 rfl rfl
  · refine g_aload_n C iX7_readsStage_11 rfl ?_
    refine g_iload_n C iX7_readsStage_12 rfl ?_
    refine g_sipush C 4700 iX7_readsStage_13 (by decide) ?_
    refine g_sipush C 4999 iX7_readsStage_16 (by decide) ?_
    refine g_callV C wX7_86 iX7_readsStage_19 (m_Mo_number x1 4700 4999 h) (by decide) mh0 rfl rfl rfl rfl (Nat.le_of_ble_eq_true rfl) (fun r => ?_)
    show zG X ad shM eI 22 [some (.ref (ad 0)), some (.int x1), none, none] [.int r.1] r.2 _
    refine g_if_ne C 27 iX7_readsStage_22 (by decide) (fun c22 => ?_) (fun c22 => ?_)
    · refine g_iconst C 0 iX7_readsStage_25 (by decide) ?_
      exact g_zret C iX7_readsStage_26 rfl rfl
    · refine g_aload_n C iX7_readsStage_27 rfl ?_
      refine g_getI C fX7_73 iX7_readsStage_28 mh0 rfl ?_
      refine g_top (fun x2 => ?_)
      refine g_istore_n (lv' := [some (.ref (ad 0)), some (.int x1), some (.int x2), none]) C hnL iX7_readsStage_31 (by decide) rfl ?_
      refine g_aload_n C iX7_readsStage_32 rfl ?_
      refine g_iconst C 1 iX7_readsStage_33 (by decide) ?_
      refine g_bipush C 9 iX7_readsStage_34 (by decide) ?_
      refine g_callV C wX7_89 iX7_readsStage_36 (m_Mo_more 1 9 r.2) (by decide) mh0 rfl rfl rfl rfl (Nat.le_of_ble_eq_true rfl) (fun r_1 => ?_)
      show zG X ad shM eI 39 [some (.ref (ad 0)), some (.int x1), some (.int x2), none] [.int r_1.1] r_1.2 _
      refine g_istore_n (lv' := [some (.ref (ad 0)), some (.int x1), some (.int x2), some (.int r_1.1)]) C hnL iX7_readsStage_39 (by decide) rfl ?_
      refine g_iload_n C iX7_readsStage_40 rfl ?_
      refine g_if_eq C 56 iX7_readsStage_41 (by decide) (fun c41 => ?_) (fun c41 => ?_)
      · refine g_iload_n C iX7_readsStage_56 rfl ?_
        exact g_zretG C iX7_readsStage_57 rfl
      · refine g_aload_n C iX7_readsStage_44 rfl ?_
        refine g_iconst C 4 iX7_readsStage_45 (by decide) ?_
        refine g_iload_n C iX7_readsStage_46 rfl ?_
        refine g_aload_n C iX7_readsStage_47 rfl ?_
        refine g_getI C fX7_73 iX7_readsStage_48 mh0 rfl ?_
        refine g_iconst C 0 iX7_readsStage_51 (by decide) ?_
        refine g_iconst C 0 iX7_readsStage_52 (by decide) ?_
        refine g_callV C wX7_40 iX7_readsStage_53 (m_Mo_adds 4 x2 (r_1.2 0 11) 0 0 r_1.2) (by decide) mh0 rfl rfl rfl rfl (Nat.le_of_ble_eq_true rfl) (fun h_1 => ?_)
        show zG X ad shM eI 56 [some (.ref (ad 0)), some (.int x1), some (.int x2), some (.int r_1.1)] [] h_1 _
        refine g_iload_n C iX7_readsStage_56 rfl ?_
        exact g_zretG C iX7_readsStage_57 rfl

theorem iX7_readsBack_8 : zI cX7_readsBack 8 (.invokevirtual 86) 3 11 := ⟨by decide +kernel, rfl⟩
theorem iX7_readsBack_11 : zI cX7_readsBack 11 (.ifCond .ne 5) 3 14 := ⟨by decide +kernel, rfl⟩
theorem iX7_readsBack_31 : zI cX7_readsBack 31 (.invokevirtual 89) 3 34 := ⟨by decide +kernel, rfl⟩
theorem iX7_readsBack_47 : zI cX7_readsBack 47 (.ireturn) 1 48 := ⟨by decide +kernel, rfl⟩
theorem iX7_readsBack_46 : zI cX7_readsBack 46 (.iload_n 2) 1 47 := ⟨by decide +kernel, rfl⟩
theorem iX7_readsBack_45 : zI cX7_readsBack 45 (.iastore) 1 46 := ⟨by decide +kernel, rfl⟩
theorem iX7_readsBack_42 : zI cX7_readsBack 42 (.getfield 73) 3 45 := ⟨by decide +kernel, rfl⟩
theorem iX7_readsBack_41 : zI cX7_readsBack 41 (.aload_n 0) 1 42 := ⟨by decide +kernel, rfl⟩
theorem iX7_readsBack_39 : zI cX7_readsBack 39 (.bipush 13) 2 41 := ⟨by decide +kernel, rfl⟩
theorem iX7_readsBack_36 : zI cX7_readsBack 36 (.getfield 25) 3 39 := ⟨by decide +kernel, rfl⟩
theorem iX7_readsBack_35 : zI cX7_readsBack 35 (.aload_n 0) 1 36 := ⟨by decide +kernel, rfl⟩
theorem iX7_readsBack_34 : zI cX7_readsBack 34 (.istore_n 2) 1 35 := ⟨by decide +kernel, rfl⟩
theorem iX7_readsBack_29 : zI cX7_readsBack 29 (.bipush 9) 2 31 := ⟨by decide +kernel, rfl⟩
theorem iX7_readsBack_28 : zI cX7_readsBack 28 (.iconst 1) 1 29 := ⟨by decide +kernel, rfl⟩
theorem iX7_readsBack_27 : zI cX7_readsBack 27 (.aload_n 0) 1 28 := ⟨by decide +kernel, rfl⟩
theorem iX7_readsBack_26 : zI cX7_readsBack 26 (.iastore) 1 27 := ⟨by decide +kernel, rfl⟩
theorem iX7_readsBack_23 : zI cX7_readsBack 23 (.getfield 73) 3 26 := ⟨by decide +kernel, rfl⟩
theorem iX7_readsBack_22 : zI cX7_readsBack 22 (.aload_n 0) 1 23 := ⟨by decide +kernel, rfl⟩
theorem iX7_readsBack_20 : zI cX7_readsBack 20 (.bipush 12) 2 22 := ⟨by decide +kernel, rfl⟩
theorem iX7_readsBack_17 : zI cX7_readsBack 17 (.getfield 25) 3 20 := ⟨by decide +kernel, rfl⟩
theorem iX7_readsBack_16 : zI cX7_readsBack 16 (.aload_n 0) 1 17 := ⟨by decide +kernel, rfl⟩
theorem iX7_readsBack_15 : zI cX7_readsBack 15 (.ireturn) 1 16 := ⟨by decide +kernel, rfl⟩
theorem iX7_readsBack_14 : zI cX7_readsBack 14 (.iconst 0) 1 15 := ⟨by decide +kernel, rfl⟩
theorem iX7_readsBack_5 : zI cX7_readsBack 5 (.sipush 5000) 3 8 := ⟨by decide +kernel, rfl⟩
theorem iX7_readsBack_2 : zI cX7_readsBack 2 (.sipush 4900) 3 5 := ⟨by decide +kernel, rfl⟩
theorem iX7_readsBack_1 : zI cX7_readsBack 1 (.iload_n 1) 1 2 := ⟨by decide +kernel, rfl⟩
theorem iX7_readsBack_0 : zI cX7_readsBack 0 (.aload_n 0) 1 1 := ⟨by decide +kernel, rfl⟩
set_option maxHeartbeats 4000000 in
set_option maxRecDepth 100000 in
theorem m_Mo_readsBack (x1 : Int32) (h : zH) : zM yX7_readsBack cX7_readsBack 3 (some .boolean) 3 shM (fun ad => [.ref (ad 0), .int x1]) h eI (Mo_readsBack x1 h) := by
  refine zM.of (by decide) (fun _ => rfl) (fun _ => Nat.le_of_ble_eq_true rfl) (fun X ad hnL C => ?_)
  show zG X ad shM eI 0 [some (.ref (ad 0)), some (.int x1), none] [] h _
  unfold Mo_readsBack
  refine g_aload_n C iX7_readsBack_0 rfl ?_
  refine g_iload_n C iX7_readsBack_1 rfl ?_
  refine g_sipush C 4900 iX7_readsBack_2 (by decide) ?_
  refine g_sipush C 5000 iX7_readsBack_5 (by decide) ?_
  refine g_callV C wX7_86 iX7_readsBack_8 (m_Mo_number x1 4900 5000 h) (by decide) mh0 rfl rfl rfl rfl (Nat.le_of_ble_eq_true rfl) (fun r => ?_)
  show zG X ad shM eI 11 [some (.ref (ad 0)), some (.int x1), none] [.int r.1] r.2 _
  refine g_if_ne C 16 iX7_readsBack_11 (by decide) (fun c11 => ?_) (fun c11 => ?_)
  · refine g_iconst C 0 iX7_readsBack_14 (by decide) ?_
    exact g_zret C iX7_readsBack_15 rfl rfl
  · refine g_aload_n C iX7_readsBack_16 rfl ?_
    refine g_getR (b := 6) C fX7_25 iX7_readsBack_17 mh0 rfl ?_
    refine g_bipush C 12 iX7_readsBack_20 (by decide) ?_
    refine g_aload_n C iX7_readsBack_22 rfl ?_
    refine g_getI C fX7_73 iX7_readsBack_23 mh0 rfl ?_
    refine g_iastoreL C 12 iX7_readsBack_26 mh6 (by decide) (by decide) (fun h_1 => ?_)
    refine g_aload_n C iX7_readsBack_27 rfl ?_
    refine g_iconst C 1 iX7_readsBack_28 (by decide) ?_
    refine g_bipush C 9 iX7_readsBack_29 (by decide) ?_
    refine g_callV C wX7_89 iX7_readsBack_31 (m_Mo_more 1 9 h_1) (by decide) mh0 rfl rfl rfl rfl (Nat.le_of_ble_eq_true rfl) (fun r_1 => ?_)
    show zG X ad shM eI 34 [some (.ref (ad 0)), some (.int x1), none] [.int r_1.1] r_1.2 _
    refine g_istore_n (lv' := [some (.ref (ad 0)), some (.int x1), some (.int r_1.1)]) C hnL iX7_readsBack_34 (by decide) rfl ?_
    refine g_aload_n C iX7_readsBack_35 rfl ?_
    refine g_getR (b := 6) C fX7_25 iX7_readsBack_36 mh0 rfl ?_
    refine g_bipush C 13 iX7_readsBack_39 (by decide) ?_
    refine g_aload_n C iX7_readsBack_41 rfl ?_
    refine g_getI C fX7_73 iX7_readsBack_42 mh0 rfl ?_
    refine g_iastoreL C 13 iX7_readsBack_45 mh6 (by decide) (by decide) (fun h_2 => ?_)
    refine g_iload_n C iX7_readsBack_46 rfl ?_
    exact g_zretG C iX7_readsBack_47 rfl

theorem iX7_readsItem_12 : zI cX7_readsItem 12 (.if_icmp .eq 5) 3 15 := ⟨by decide +kernel, rfl⟩
theorem iX7_readsItem_18 : zI cX7_readsItem 18 (.tableswitch 148 98 115 #[86, 148, 148, 148, 130, 148, 148, 148, 148, 148, 118, 148, 148, 148, 124, 148, 142, 136]) 86 104 := ⟨by decide +kernel, rfl⟩
theorem iX7_readsItem_109 : zI cX7_readsItem 109 (.invokevirtual 86) 3 112 := ⟨by decide +kernel, rfl⟩
theorem iX7_readsItem_121 : zI cX7_readsItem 121 (.ifCond .eq 10) 3 124 := ⟨by decide +kernel, rfl⟩
theorem iX7_readsItem_135 : zI cX7_readsItem 135 (.ireturn) 1 136 := ⟨by decide +kernel, rfl⟩
theorem iX7_readsItem_133 : zI cX7_readsItem 133 (.iload 4) 2 135 := ⟨by decide +kernel, rfl⟩
theorem iX7_readsItem_132 : zI cX7_readsItem 132 (.iastore) 1 133 := ⟨by decide +kernel, rfl⟩
theorem iX7_readsItem_131 : zI cX7_readsItem 131 (.iconst 0) 1 132 := ⟨by decide +kernel, rfl⟩
theorem iX7_readsItem_128 : zI cX7_readsItem 128 (.goto 4) 3 131 := ⟨by decide +kernel, rfl⟩
theorem iX7_readsItem_125 : zI cX7_readsItem 125 (.getfield 73) 3 128 := ⟨by decide +kernel, rfl⟩
theorem iX7_readsItem_124 : zI cX7_readsItem 124 (.aload_n 0) 1 125 := ⟨by decide +kernel, rfl⟩
theorem iX7_readsItem_119 : zI cX7_readsItem 119 (.iload 4) 2 121 := ⟨by decide +kernel, rfl⟩
theorem iX7_readsItem_118 : zI cX7_readsItem 118 (.iconst 5) 1 119 := ⟨by decide +kernel, rfl⟩
theorem iX7_readsItem_115 : zI cX7_readsItem 115 (.getfield 13) 3 118 := ⟨by decide +kernel, rfl⟩
theorem iX7_readsItem_114 : zI cX7_readsItem 114 (.aload_n 0) 1 115 := ⟨by decide +kernel, rfl⟩
theorem iX7_readsItem_112 : zI cX7_readsItem 112 (.istore 4) 2 114 := ⟨by decide +kernel, rfl⟩
theorem iX7_readsItem_107 : zI cX7_readsItem 107 (.bipush 6) 2 109 := ⟨by decide +kernel, rfl⟩
theorem iX7_readsItem_106 : zI cX7_readsItem 106 (.iconst 1) 1 107 := ⟨by decide +kernel, rfl⟩
theorem iX7_readsItem_105 : zI cX7_readsItem 105 (.iload_n 2) 1 106 := ⟨by decide +kernel, rfl⟩
theorem iX7_readsItem_104 : zI cX7_readsItem 104 (.aload_n 0) 1 105 := ⟨by decide +kernel, rfl⟩
set_option maxRecDepth 100000 in
theorem wX7_98 : zCv RX7 98 yX7_readsFeeder cX7_readsFeeder 5 (some .boolean) 1 := ⟨⟨(zmem 892 (by decide +kernel) (by decide +kernel)), (zmem 76 (by decide +kernel) (by decide +kernel)), (zmem 895 rfl rfl), ⟨by decide, by decide, by decide +kernel⟩, by decide⟩, (zmem 894 (by decide +kernel) (by decide +kernel)), (zmem 33 (by decide +kernel) (by decide +kernel))⟩
theorem iX7_readsItem_150 : zI cX7_readsItem 150 (.invokevirtual 98) 3 153 := ⟨by decide +kernel, rfl⟩
theorem iX7_readsItem_153 : zI cX7_readsItem 153 (.ireturn) 1 154 := ⟨by decide +kernel, rfl⟩
theorem iX7_readsItem_149 : zI cX7_readsItem 149 (.iload_n 2) 1 150 := ⟨by decide +kernel, rfl⟩
theorem iX7_readsItem_148 : zI cX7_readsItem 148 (.aload_n 0) 1 149 := ⟨by decide +kernel, rfl⟩
set_option maxRecDepth 100000 in
theorem wX7_92 : zCv RX7 92 yX7_readsLink cX7_readsLink 4 (some .boolean) 1 := ⟨⟨(zmem 880 (by decide +kernel) (by decide +kernel)), (zmem 76 (by decide +kernel) (by decide +kernel)), (zmem 883 rfl rfl), ⟨by decide, by decide, by decide +kernel⟩, by decide⟩, (zmem 882 (by decide +kernel) (by decide +kernel)), (zmem 30 (by decide +kernel) (by decide +kernel))⟩
theorem iX7_readsItem_138 : zI cX7_readsItem 138 (.invokevirtual 92) 3 141 := ⟨by decide +kernel, rfl⟩
theorem iX7_readsItem_141 : zI cX7_readsItem 141 (.ireturn) 1 142 := ⟨by decide +kernel, rfl⟩
theorem iX7_readsItem_137 : zI cX7_readsItem 137 (.iload_n 2) 1 138 := ⟨by decide +kernel, rfl⟩
theorem iX7_readsItem_136 : zI cX7_readsItem 136 (.aload_n 0) 1 137 := ⟨by decide +kernel, rfl⟩
set_option maxRecDepth 100000 in
theorem wX7_95 : zCv RX7 95 yX7_readsPlant cX7_readsPlant 6 (some .boolean) 1 := ⟨⟨(zmem 888 (by decide +kernel) (by decide +kernel)), (zmem 76 (by decide +kernel) (by decide +kernel)), (zmem 891 rfl rfl), ⟨by decide, by decide, by decide +kernel⟩, by decide⟩, (zmem 890 (by decide +kernel) (by decide +kernel)), (zmem 32 (by decide +kernel) (by decide +kernel))⟩
theorem iX7_readsItem_144 : zI cX7_readsItem 144 (.invokevirtual 95) 3 147 := ⟨by decide +kernel, rfl⟩
theorem iX7_readsItem_147 : zI cX7_readsItem 147 (.ireturn) 1 148 := ⟨by decide +kernel, rfl⟩
theorem iX7_readsItem_143 : zI cX7_readsItem 143 (.iload_n 2) 1 144 := ⟨by decide +kernel, rfl⟩
theorem iX7_readsItem_142 : zI cX7_readsItem 142 (.aload_n 0) 1 143 := ⟨by decide +kernel, rfl⟩
set_option maxRecDepth 100000 in
theorem wX7_104 : zCv RX7 104 yX7_readsBack cX7_readsBack 3 (some .boolean) 1 := ⟨⟨(zmem 900 (by decide +kernel) (by decide +kernel)), (zmem 76 (by decide +kernel) (by decide +kernel)), (zmem 903 rfl rfl), ⟨by decide, by decide, by decide +kernel⟩, by decide⟩, (zmem 902 (by decide +kernel) (by decide +kernel)), (zmem 35 (by decide +kernel) (by decide +kernel))⟩
theorem iX7_readsItem_162 : zI cX7_readsItem 162 (.invokevirtual 104) 3 165 := ⟨by decide +kernel, rfl⟩
theorem iX7_readsItem_165 : zI cX7_readsItem 165 (.ireturn) 1 166 := ⟨by decide +kernel, rfl⟩
theorem iX7_readsItem_161 : zI cX7_readsItem 161 (.iload_n 2) 1 162 := ⟨by decide +kernel, rfl⟩
theorem iX7_readsItem_160 : zI cX7_readsItem 160 (.aload_n 0) 1 161 := ⟨by decide +kernel, rfl⟩
set_option maxRecDepth 100000 in
theorem wX7_101 : zCv RX7 101 yX7_readsStage cX7_readsStage 4 (some .boolean) 1 := ⟨⟨(zmem 896 (by decide +kernel) (by decide +kernel)), (zmem 76 (by decide +kernel) (by decide +kernel)), (zmem 899 rfl rfl), ⟨by decide, by decide, by decide +kernel⟩, by decide⟩, (zmem 898 (by decide +kernel) (by decide +kernel)), (zmem 34 (by decide +kernel) (by decide +kernel))⟩
theorem iX7_readsItem_156 : zI cX7_readsItem 156 (.invokevirtual 101) 3 159 := ⟨by decide +kernel, rfl⟩
theorem iX7_readsItem_159 : zI cX7_readsItem 159 (.ireturn) 1 160 := ⟨by decide +kernel, rfl⟩
theorem iX7_readsItem_155 : zI cX7_readsItem 155 (.iload_n 2) 1 156 := ⟨by decide +kernel, rfl⟩
theorem iX7_readsItem_154 : zI cX7_readsItem 154 (.aload_n 0) 1 155 := ⟨by decide +kernel, rfl⟩
theorem iX7_readsItem_167 : zI cX7_readsItem 167 (.ireturn) 1 168 := ⟨by decide +kernel, rfl⟩
theorem iX7_readsItem_166 : zI cX7_readsItem 166 (.iconst 0) 1 167 := ⟨by decide +kernel, rfl⟩
theorem iX7_readsItem_17 : zI cX7_readsItem 17 (.iload_n 1) 1 18 := ⟨by decide +kernel, rfl⟩
theorem iX7_readsItem_16 : zI cX7_readsItem 16 (.ireturn) 1 17 := ⟨by decide +kernel, rfl⟩
theorem iX7_readsItem_15 : zI cX7_readsItem 15 (.iconst 0) 1 16 := ⟨by decide +kernel, rfl⟩
theorem iX7_readsItem_4 : zI cX7_readsItem 4 (.if_icmp .ne 7) 3 7 := ⟨by decide +kernel, rfl⟩
theorem iX7_readsItem_11 : zI cX7_readsItem 11 (.iconst 0) 1 12 := ⟨by decide +kernel, rfl⟩
theorem iX7_readsItem_8 : zI cX7_readsItem 8 (.goto 4) 3 11 := ⟨by decide +kernel, rfl⟩
theorem iX7_readsItem_7 : zI cX7_readsItem 7 (.iconst 1) 1 8 := ⟨by decide +kernel, rfl⟩
theorem iX7_readsItem_2 : zI cX7_readsItem 2 (.bipush 98) 2 4 := ⟨by decide +kernel, rfl⟩
theorem iX7_readsItem_1 : zI cX7_readsItem 1 (.iload_n 1) 1 2 := ⟨by decide +kernel, rfl⟩
theorem iX7_readsItem_0 : zI cX7_readsItem 0 (.iload_n 3) 1 1 := ⟨by decide +kernel, rfl⟩
set_option maxHeartbeats 4000000 in
set_option maxRecDepth 100000 in
theorem m_Mo_readsItem (x1 : Int32) (x2 : Int32) (x3 : Int32) (h : zH) : zM yX7_readsItem cX7_readsItem 5 (some .boolean) 4 shM (fun ad => [.ref (ad 0), .int x1, .int x2, .int x3]) h eI (Mo_readsItem x1 x2 x3 h) := by
  refine zM.of (by decide) (fun _ => rfl) (fun _ => Nat.le_of_ble_eq_true rfl) (fun X ad hnL C => ?_)
  show zG X ad shM eI 0 [some (.ref (ad 0)), some (.int x1), some (.int x2), some (.int x3), none] [] h _
  unfold Mo_readsItem
  refine g_iload_n C iX7_readsItem_0 rfl ?_
  refine g_iload_n C iX7_readsItem_1 rfl ?_
  refine g_bipush C 98 iX7_readsItem_2 (by decide) ?_
  refine g_let (fun j12 ej12 => ?_)
  have hj12 : ∀ (v12 : Int32), zG X ad shM eI 12 [some (.ref (ad 0)), some (.int x1), some (.int x2), none, none] [.int v12, .int x3] h (j12 v12) := by
    intro v12
    subst ej12
    refine g_icmp_eq C 17 iX7_readsItem_12 (by decide) (fun c12 => ?_) (fun c12 => ?_)
    · refine g_iload_n C iX7_readsItem_17 rfl ?_
      refine g_ite (fun c18 => ?_) (fun c18_98 => ?_)
      · refine g_tab C 104 iX7_readsItem_18 (by rw [c18]; decide +kernel) ?_
        refine g_aload_n C iX7_readsItem_104 rfl ?_
        refine g_iload_n C iX7_readsItem_105 rfl ?_
        refine g_iconst C 1 iX7_readsItem_106 (by decide) ?_
        refine g_bipush C 6 iX7_readsItem_107 (by decide) ?_
        refine g_callV C wX7_86 iX7_readsItem_109 (m_Mo_number x2 1 6 h) (by decide) mh0 rfl rfl rfl rfl (Nat.le_of_ble_eq_true rfl) (fun r => ?_)
        show zG X ad shM eI 112 [some (.ref (ad 0)), some (.int x1), some (.int x2), none, none] [.int r.1] r.2 _
        refine g_istore (lv' := [some (.ref (ad 0)), some (.int x1), some (.int x2), none, some (.int r.1)]) C hnL iX7_readsItem_112 (by decide) rfl ?_
        refine g_aload_n C iX7_readsItem_114 rfl ?_
        refine g_getR (b := 2) C fX7_13 iX7_readsItem_115 mh0 rfl ?_
        refine g_iconst C 5 iX7_readsItem_118 (by decide) ?_
        refine g_iload C iX7_readsItem_119 rfl ?_
        refine g_if_eq C 131 iX7_readsItem_121 (by decide) (fun c121 => ?_) (fun c121 => ?_)
        · refine g_iconst C 0 iX7_readsItem_131 (by decide) ?_
          refine g_iastoreL C 5 iX7_readsItem_132 mh2 (by decide) (by decide) (fun h_1 => ?_)
          refine g_iload C iX7_readsItem_133 rfl ?_
          exact g_zretG C iX7_readsItem_135 rfl
        · refine g_aload_n C iX7_readsItem_124 rfl ?_
          refine g_getI C fX7_73 iX7_readsItem_125 mh0 rfl ?_
          refine g_goto C 132 iX7_readsItem_128 (by decide) ?_
          refine g_iastoreL C 5 iX7_readsItem_132 mh2 (by decide) (by decide) (fun h_2 => ?_)
          refine g_iload C iX7_readsItem_133 rfl ?_
          exact g_zretG C iX7_readsItem_135 rfl
      refine g_ite (fun c18 => ?_) (fun c18_102 => ?_)
      · refine g_tab C 148 iX7_readsItem_18 (by rw [c18]; decide +kernel) ?_
        refine g_aload_n C iX7_readsItem_148 rfl ?_
        refine g_iload_n C iX7_readsItem_149 rfl ?_
        refine g_callV C wX7_98 iX7_readsItem_150 (m_Mo_readsFeeder x2 h) (by decide) mh0 rfl rfl rfl rfl (Nat.le_of_ble_eq_true rfl) (fun r_1 => ?_)
        show zG X ad shM eI 153 [some (.ref (ad 0)), some (.int x1), some (.int x2), none, none] [.int r_1.1] r_1.2 _
        exact g_zretG C iX7_readsItem_153 rfl
      refine g_ite (fun c18 => ?_) (fun c18_108 => ?_)
      · refine g_tab C 136 iX7_readsItem_18 (by rw [c18]; decide +kernel) ?_
        refine g_aload_n C iX7_readsItem_136 rfl ?_
        refine g_iload_n C iX7_readsItem_137 rfl ?_
        refine g_callV C wX7_92 iX7_readsItem_138 (m_Mo_readsLink x2 h) (by decide) mh0 rfl rfl rfl rfl (Nat.le_of_ble_eq_true rfl) (fun r_2 => ?_)
        show zG X ad shM eI 141 [some (.ref (ad 0)), some (.int x1), some (.int x2), none, none] [.int r_2.1] r_2.2 _
        exact g_zretG C iX7_readsItem_141 rfl
      refine g_ite (fun c18 => ?_) (fun c18_112 => ?_)
      · refine g_tab C 142 iX7_readsItem_18 (by rw [c18]; decide +kernel) ?_
        refine g_aload_n C iX7_readsItem_142 rfl ?_
        refine g_iload_n C iX7_readsItem_143 rfl ?_
        refine g_callV C wX7_95 iX7_readsItem_144 (m_Mo_readsPlant x2 h) (by decide) mh0 rfl rfl rfl rfl (Nat.le_of_ble_eq_true rfl) (fun r_3 => ?_)
        show zG X ad shM eI 147 [some (.ref (ad 0)), some (.int x1), some (.int x2), none, none] [.int r_3.1] r_3.2 _
        exact g_zretG C iX7_readsItem_147 rfl
      refine g_ite (fun c18 => ?_) (fun c18_114 => ?_)
      · refine g_tab C 160 iX7_readsItem_18 (by rw [c18]; decide +kernel) ?_
        refine g_aload_n C iX7_readsItem_160 rfl ?_
        refine g_iload_n C iX7_readsItem_161 rfl ?_
        refine g_callV C wX7_104 iX7_readsItem_162 (m_Mo_readsBack x2 h) (by decide) mh0 rfl rfl rfl rfl (Nat.le_of_ble_eq_true rfl) (fun r_4 => ?_)
        show zG X ad shM eI 165 [some (.ref (ad 0)), some (.int x1), some (.int x2), none, none] [.int r_4.1] r_4.2 _
        exact g_zretG C iX7_readsItem_165 rfl
      refine g_ite (fun c18 => ?_) (fun c18_115 => ?_)
      · refine g_tab C 154 iX7_readsItem_18 (by rw [c18]; decide +kernel) ?_
        refine g_aload_n C iX7_readsItem_154 rfl ?_
        refine g_iload_n C iX7_readsItem_155 rfl ?_
        refine g_callV C wX7_101 iX7_readsItem_156 (m_Mo_readsStage x2 h) (by decide) mh0 rfl rfl rfl rfl (Nat.le_of_ble_eq_true rfl) (fun r_5 => ?_)
        show zG X ad shM eI 159 [some (.ref (ad 0)), some (.int x1), some (.int x2), none, none] [.int r_5.1] r_5.2 _
        exact g_zretG C iX7_readsItem_159 rfl
      refine g_tab C 166 iX7_readsItem_18 ((zTg_def [98, 102, 108, 112, 114, 115] (List.forall_mem_cons.mpr ⟨fun z9 => c18_98 (Int32.toInt_inj.mp (z9.trans (by decide))), List.forall_mem_cons.mpr ⟨fun z9 => c18_102 (Int32.toInt_inj.mp (z9.trans (by decide))), List.forall_mem_cons.mpr ⟨fun z9 => c18_108 (Int32.toInt_inj.mp (z9.trans (by decide))), List.forall_mem_cons.mpr ⟨fun z9 => c18_112 (Int32.toInt_inj.mp (z9.trans (by decide))), List.forall_mem_cons.mpr ⟨fun z9 => c18_114 (Int32.toInt_inj.mp (z9.trans (by decide))), List.forall_mem_cons.mpr ⟨fun z9 => c18_115 (Int32.toInt_inj.mp (z9.trans (by decide))), fun _ h9 => by cases h9⟩⟩⟩⟩⟩⟩) (by decide +kernel)).trans (by decide)) ?_
      refine g_iconst C 0 iX7_readsItem_166 (by decide) ?_
      exact g_zret C iX7_readsItem_167 rfl rfl
    · refine g_iconst C 0 iX7_readsItem_15 (by decide) ?_
      exact g_zret C iX7_readsItem_16 rfl rfl
  clear ej12
  refine g_icmp_ne C 11 iX7_readsItem_4 (by decide) (fun c4 => ?_) (fun c4 => ?_)
  · refine g_iconst C 1 iX7_readsItem_7 (by decide) ?_
    refine g_goto C 12 iX7_readsItem_8 (by decide) ?_
    refine g_sub (lv' := [some (.ref (ad 0)), some (.int x1), some (.int x2), none, none]) ⟨rfl, ⟨rfl, ⟨rfl, trivial⟩⟩⟩ ?_
    exact hj12 _
  · refine g_iconst C 0 iX7_readsItem_11 (by decide) ?_
    refine g_sub (lv' := [some (.ref (ad 0)), some (.int x1), some (.int x2), none, none]) ⟨rfl, ⟨rfl, ⟨rfl, trivial⟩⟩⟩ ?_
    exact hj12 _

set_option maxRecDepth 100000 in
theorem wX7_37 : zCv RX7 37 yX7_clears cX7_clears 2 none 0 := ⟨⟨(zmem 766 (by decide +kernel) (by decide +kernel)), (zmem 76 (by decide +kernel) (by decide +kernel)), (zmem 769 rfl rfl), ⟨by decide, by decide, by decide +kernel⟩, by decide⟩, (zmem 768 (by decide +kernel) (by decide +kernel)), (zmem 19 (by decide +kernel) (by decide +kernel))⟩
theorem iX7_reads_1 : zI cX7_reads 1 (.invokevirtual 37) 3 4 := ⟨by decide +kernel, rfl⟩
theorem iX7_reads_11 : zI cX7_reads 11 (.if_icmp .ge 53) 3 14 := ⟨by decide +kernel, rfl⟩
set_option maxRecDepth 100000 in
theorem wX7_107 : zCv RX7 107 yX7_readsItem cX7_readsItem 5 (some .boolean) 3 := ⟨⟨(zmem 865 (by decide +kernel) (by decide +kernel)), (zmem 76 (by decide +kernel) (by decide +kernel)), (zmem 868 rfl rfl), ⟨by decide, by decide, by decide +kernel⟩, by decide⟩, (zmem 867 (by decide +kernel) (by decide +kernel)), (zmem 27 (by decide +kernel) (by decide +kernel))⟩
theorem iX7_reads_33 : zI cX7_reads 33 (.invokevirtual 107) 3 36 := ⟨by decide +kernel, rfl⟩
theorem iX7_reads_36 : zI cX7_reads 36 (.ifCond .eq 16) 3 39 := ⟨by decide +kernel, rfl⟩
theorem iX7_reads_44 : zI cX7_reads 44 (.invokevirtual 79) 3 47 := ⟨by decide +kernel, rfl⟩
theorem iX7_reads_49 : zI cX7_reads 49 (.if_icmp .eq 5) 3 52 := ⟨by decide +kernel, rfl⟩
theorem iX7_reads_61 : zI cX7_reads 61 (.goto (-55)) 3 64 := ⟨by decide +kernel, rfl⟩
theorem iX7_reads_60 : zI cX7_reads 60 (.istore_n 1) 1 61 := ⟨by decide +kernel, rfl⟩
theorem iX7_reads_59 : zI cX7_reads 59 (.iadd) 1 60 := ⟨by decide +kernel, rfl⟩
theorem iX7_reads_58 : zI cX7_reads 58 (.iconst 1) 1 59 := ⟨by decide +kernel, rfl⟩
theorem iX7_reads_55 : zI cX7_reads 55 (.getfield 76) 3 58 := ⟨by decide +kernel, rfl⟩
theorem iX7_reads_54 : zI cX7_reads 54 (.aload_n 0) 1 55 := ⟨by decide +kernel, rfl⟩
theorem iX7_reads_47 : zI cX7_reads 47 (.bipush 59) 2 49 := ⟨by decide +kernel, rfl⟩
theorem iX7_reads_41 : zI cX7_reads 41 (.getfield 76) 3 44 := ⟨by decide +kernel, rfl⟩
theorem iX7_reads_40 : zI cX7_reads 40 (.aload_n 0) 1 41 := ⟨by decide +kernel, rfl⟩
theorem iX7_reads_39 : zI cX7_reads 39 (.aload_n 0) 1 40 := ⟨by decide +kernel, rfl⟩
theorem iX7_reads_25 : zI cX7_reads 25 (.ifCond .ne 7) 3 28 := ⟨by decide +kernel, rfl⟩
theorem iX7_reads_32 : zI cX7_reads 32 (.iconst 0) 1 33 := ⟨by decide +kernel, rfl⟩
theorem iX7_reads_29 : zI cX7_reads 29 (.goto 4) 3 32 := ⟨by decide +kernel, rfl⟩
theorem iX7_reads_28 : zI cX7_reads 28 (.iconst 1) 1 29 := ⟨by decide +kernel, rfl⟩
theorem iX7_reads_24 : zI cX7_reads 24 (.iload_n 1) 1 25 := ⟨by decide +kernel, rfl⟩
theorem iX7_reads_23 : zI cX7_reads 23 (.iadd) 1 24 := ⟨by decide +kernel, rfl⟩
theorem iX7_reads_22 : zI cX7_reads 22 (.iconst 1) 1 23 := ⟨by decide +kernel, rfl⟩
theorem iX7_reads_21 : zI cX7_reads 21 (.iload_n 1) 1 22 := ⟨by decide +kernel, rfl⟩
theorem iX7_reads_20 : zI cX7_reads 20 (.iaload) 1 21 := ⟨by decide +kernel, rfl⟩
theorem iX7_reads_19 : zI cX7_reads 19 (.iload_n 1) 1 20 := ⟨by decide +kernel, rfl⟩
theorem iX7_reads_16 : zI cX7_reads 16 (.getfield 7) 3 19 := ⟨by decide +kernel, rfl⟩
theorem iX7_reads_15 : zI cX7_reads 15 (.aload_n 0) 1 16 := ⟨by decide +kernel, rfl⟩
theorem iX7_reads_14 : zI cX7_reads 14 (.aload_n 0) 1 15 := ⟨by decide +kernel, rfl⟩
theorem iX7_reads_8 : zI cX7_reads 8 (.getfield 70) 3 11 := ⟨by decide +kernel, rfl⟩
theorem iX7_reads_7 : zI cX7_reads 7 (.aload_n 0) 1 8 := ⟨by decide +kernel, rfl⟩
theorem iX7_reads_6 : zI cX7_reads 6 (.iload_n 1) 1 7 := ⟨by decide +kernel, rfl⟩
theorem iX7_reads_53 : zI cX7_reads 53 (.ireturn) 1 54 := ⟨by decide +kernel, rfl⟩
theorem iX7_reads_52 : zI cX7_reads 52 (.iload_n 1) 1 53 := ⟨by decide +kernel, rfl⟩
theorem iX7_reads_66 : zI cX7_reads 66 (.ireturn) 1 67 := ⟨by decide +kernel, rfl⟩
theorem iX7_reads_64 : zI cX7_reads 64 (.bipush (-4)) 2 66 := ⟨by decide +kernel, rfl⟩
theorem iX7_reads_5 : zI cX7_reads 5 (.istore_n 1) 1 6 := ⟨by decide +kernel, rfl⟩
theorem iX7_reads_4 : zI cX7_reads 4 (.iconst 0) 1 5 := ⟨by decide +kernel, rfl⟩
theorem iX7_reads_0 : zI cX7_reads 0 (.aload_n 0) 1 1 := ⟨by decide +kernel, rfl⟩
set_option maxHeartbeats 4000000 in
set_option maxRecDepth 100000 in
theorem m_Mo_reads (h : zH) : zM yX7_reads cX7_reads 2 (some .int) 5 shM (fun ad => [.ref (ad 0)]) h eI (Mo_reads h) := by
  refine zM.of (by decide) (fun _ => rfl) (fun _ => Nat.le_of_ble_eq_true rfl) (fun X ad hnL C => ?_)
  show zG X ad shM eI 0 [some (.ref (ad 0)), none] [] h _
  unfold Mo_reads
  refine g_aload_n C iX7_reads_0 rfl ?_
  refine g_callV C wX7_37 iX7_reads_1 (m_Mo_clears h) (by decide) mh0 rfl rfl rfl rfl (Nat.le_of_ble_eq_true rfl) (fun h_1 => ?_)
  show zG X ad shM eI 4 [some (.ref (ad 0)), none] [] h_1 _
  refine g_iconst C 0 iX7_reads_4 (by decide) ?_
  refine g_istore_n (lv' := [some (.ref (ad 0)), some (.int 0)]) C hnL iX7_reads_5 (by decide) rfl ?_
  have L6 : ∀ (k52 : Int32 → zH → Option (Int32 × zH)), (∀ (y1 : Int32) (hy : zH), zG X ad shM eI 52 [none, some (.int y1)] [] hy (k52 y1 hy)) → ∀ (k64 : zH → Option (Int32 × zH)), (∀ (hy : zH), zG X ad shM eI 64 [none, none] [] hy (k64 hy)) → ∀ (n : Nat) (x1 : Int32) (h_2 : zH), zG X ad shM eI 6 [some (.ref (ad 0)), some (.int x1)] [] h_2 (Mo_reads_L6 k52 k64 n x1 h_2) := by
    intro k52 hk52 k64 hk64 n
    induction n with
    | zero =>
      intro x1 h_2
      exact g_none
    | succ n ih6 =>
      intro x1 h_2
      rw [Mo_reads_L6]
      refine g_iload_n C iX7_reads_6 rfl ?_
      refine g_aload_n C iX7_reads_7 rfl ?_
      refine g_getI C fX7_70 iX7_reads_8 mh0 rfl ?_
      refine g_icmp_ge C 64 iX7_reads_11 (by decide) (fun c11 => ?_) (fun c11 => ?_)
      · refine g_sub (lv' := [none, none]) trivial ?_
        exact hk64 _
      · refine g_aload_n C iX7_reads_14 rfl ?_
        refine g_aload_n C iX7_reads_15 rfl ?_
        refine g_getR (b := 1) C fX7_7 iX7_reads_16 mh0 rfl ?_
        refine g_iload_n C iX7_reads_19 rfl ?_
        refine g_iaload C iX7_reads_20 mh1 ?_
        refine g_iload_n C iX7_reads_21 rfl ?_
        refine g_iconst C 1 iX7_reads_22 (by decide) ?_
        refine g_iadd C iX7_reads_23 ?_
        refine g_iload_n C iX7_reads_24 rfl ?_
        refine g_let (fun j33 ej33 => ?_)
        have hj33 : ∀ (v33 : Int32), zG X ad shM eI 33 [some (.ref (ad 0)), some (.int x1)] [.int v33, .int (x1 + 1), .int (h_2 1 x1.toNatClampNeg), .ref (ad 0)] h_2 (j33 v33) := by
          intro v33
          subst ej33
          refine g_callV C wX7_107 iX7_reads_33 (m_Mo_readsItem (h_2 1 x1.toNatClampNeg) (x1 + 1) v33 h_2) (by decide) mh0 rfl rfl rfl rfl (Nat.le_of_ble_eq_true rfl) (fun r => ?_)
          show zG X ad shM eI 36 [some (.ref (ad 0)), some (.int x1)] [.int r.1] r.2 _
          refine g_if_eq C 52 iX7_reads_36 (by decide) (fun c36 => ?_) (fun c36 => ?_)
          · refine g_sub (lv' := [none, some (.int x1)]) ⟨rfl, trivial⟩ ?_
            exact hk52 _ _
          · refine g_aload_n C iX7_reads_39 rfl ?_
            refine g_aload_n C iX7_reads_40 rfl ?_
            refine g_getI C fX7_76 iX7_reads_41 mh0 rfl ?_
            refine g_callV C wX7_79 iX7_reads_44 (m_Mo_letterAt (r.2 0 12) r.2) (by decide) mh0 rfl rfl rfl rfl (Nat.le_of_ble_eq_true rfl) (fun r_1 => ?_)
            show zG X ad shM eI 47 [some (.ref (ad 0)), some (.int x1)] [.int r_1] r.2 _
            refine g_bipush C 59 iX7_reads_47 (by decide) ?_
            refine g_icmp_eq C 54 iX7_reads_49 (by decide) (fun c49 => ?_) (fun c49 => ?_)
            · refine g_aload_n C iX7_reads_54 rfl ?_
              refine g_getI C fX7_76 iX7_reads_55 mh0 rfl ?_
              refine g_iconst C 1 iX7_reads_58 (by decide) ?_
              refine g_iadd C iX7_reads_59 ?_
              refine g_top (fun x1_1 => ?_)
              refine g_istore_n (lv' := [some (.ref (ad 0)), some (.int x1_1)]) C hnL iX7_reads_60 (by decide) rfl ?_
              refine g_goto C 6 iX7_reads_61 (by decide) ?_
              exact ih6 _ _
            · refine g_sub (lv' := [none, some (.int x1)]) ⟨rfl, trivial⟩ ?_
              exact hk52 _ _
        clear ej33
        refine g_if_ne C 32 iX7_reads_25 (by decide) (fun c25 => ?_) (fun c25 => ?_)
        · refine g_iconst C 1 iX7_reads_28 (by decide) ?_
          refine g_goto C 33 iX7_reads_29 (by decide) ?_
          exact hj33 _
        · refine g_iconst C 0 iX7_reads_32 (by decide) ?_
          exact hj33 _
  refine L6 _ (fun x1_2 h_3 => ?_) _ (fun h_4 => ?_) 1000 _ _
  · show zG X ad shM eI 52 [none, some (.int x1_2)] [] h_3 _
    refine g_iload_n C iX7_reads_52 rfl ?_
    exact g_iret C iX7_reads_53 rfl
  · show zG X ad shM eI 64 [none, none] [] h_4 _
    refine g_bipush C (-4) iX7_reads_64 (by decide) ?_
    exact g_iret C iX7_reads_66 rfl

theorem iX7_write_3 : zI cX7_write 3 (.if_icmp .lt 9) 3 6 := ⟨by decide +kernel, rfl⟩
theorem iX7_write_13 : zI cX7_write 13 (.ireturn) 1 14 := ⟨by decide +kernel, rfl⟩
theorem iX7_write_12 : zI cX7_write 12 (.iconst (-1)) 1 13 := ⟨by decide +kernel, rfl⟩
theorem iX7_write_9 : zI cX7_write 9 (.if_icmp .le 5) 3 12 := ⟨by decide +kernel, rfl⟩
theorem iX7_write_21 : zI cX7_write 21 (.if_icmp .ne 6) 3 24 := ⟨by decide +kernel, rfl⟩
theorem pX7_70 : zFp RX7 70 7 0 := ⟨RX7, TX7, 17, rfl, by decide, (zmem 797 (by decide +kernel) (by decide +kernel)), u_inX7, by decide +kernel, by decide +kernel, ⟨tyX7, tyX7_ok⟩, nmX7⟩
theorem iX7_write_51 : zI cX7_write 51 (.ireturn) 1 52 := ⟨by decide +kernel, rfl⟩
theorem iX7_write_48 : zI cX7_write 48 (.getfield 70) 3 51 := ⟨by decide +kernel, rfl⟩
theorem iX7_write_47 : zI cX7_write 47 (.aload_n 0) 1 48 := ⟨by decide +kernel, rfl⟩
theorem iX7_write_44 : zI cX7_write 44 (.putfield 70) 3 47 := ⟨by decide +kernel, rfl⟩
theorem iX7_write_43 : zI cX7_write 43 (.iadd) 1 44 := ⟨by decide +kernel, rfl⟩
theorem iX7_write_42 : zI cX7_write 42 (.iconst 1) 1 43 := ⟨by decide +kernel, rfl⟩
theorem iX7_write_39 : zI cX7_write 39 (.getfield 70) 3 42 := ⟨by decide +kernel, rfl⟩
theorem iX7_write_38 : zI cX7_write 38 (.dup) 1 39 := ⟨by decide +kernel, rfl⟩
theorem iX7_write_37 : zI cX7_write 37 (.aload_n 0) 1 38 := ⟨by decide +kernel, rfl⟩
theorem iX7_write_36 : zI cX7_write 36 (.iastore) 1 37 := ⟨by decide +kernel, rfl⟩
theorem iX7_write_35 : zI cX7_write 35 (.iload_n 1) 1 36 := ⟨by decide +kernel, rfl⟩
theorem iX7_write_32 : zI cX7_write 32 (.getfield 70) 3 35 := ⟨by decide +kernel, rfl⟩
theorem iX7_write_31 : zI cX7_write 31 (.aload_n 0) 1 32 := ⟨by decide +kernel, rfl⟩
theorem iX7_write_28 : zI cX7_write 28 (.getfield 7) 3 31 := ⟨by decide +kernel, rfl⟩
theorem iX7_write_27 : zI cX7_write 27 (.aload_n 0) 1 28 := ⟨by decide +kernel, rfl⟩
theorem iX7_write_26 : zI cX7_write 26 (.ireturn) 1 27 := ⟨by decide +kernel, rfl⟩
theorem iX7_write_24 : zI cX7_write 24 (.bipush (-3)) 2 26 := ⟨by decide +kernel, rfl⟩
theorem iX7_write_18 : zI cX7_write 18 (.sipush 200) 3 21 := ⟨by decide +kernel, rfl⟩
theorem iX7_write_15 : zI cX7_write 15 (.getfield 70) 3 18 := ⟨by decide +kernel, rfl⟩
theorem iX7_write_14 : zI cX7_write 14 (.aload_n 0) 1 15 := ⟨by decide +kernel, rfl⟩
theorem iX7_write_7 : zI cX7_write 7 (.bipush 126) 2 9 := ⟨by decide +kernel, rfl⟩
theorem iX7_write_6 : zI cX7_write 6 (.iload_n 1) 1 7 := ⟨by decide +kernel, rfl⟩
theorem iX7_write_1 : zI cX7_write 1 (.bipush 32) 2 3 := ⟨by decide +kernel, rfl⟩
theorem iX7_write_0 : zI cX7_write 0 (.iload_n 1) 1 1 := ⟨by decide +kernel, rfl⟩
set_option maxHeartbeats 4000000 in
set_option maxRecDepth 100000 in
theorem m_Mo_write (x1 : Int32) (h : zH) : zM yX7_write cX7_write 2 (some .int) 0 shM (fun ad => [.ref (ad 0), .int x1]) h eI (Mo_write x1 h) := by
  refine zM.of (by decide) (fun _ => rfl) (fun _ => Nat.le_of_ble_eq_true rfl) (fun X ad hnL C => ?_)
  show zG X ad shM eI 0 [some (.ref (ad 0)), some (.int x1)] [] h _
  unfold Mo_write
  refine g_iload_n C iX7_write_0 rfl ?_
  refine g_bipush C 32 iX7_write_1 (by decide) ?_
  refine g_icmp_lt C 12 iX7_write_3 (by decide) (fun c3 => ?_) (fun c3 => ?_)
  · refine g_iconst C (-1) iX7_write_12 (by decide) ?_
    exact g_iret C iX7_write_13 rfl
  · refine g_iload_n C iX7_write_6 rfl ?_
    refine g_bipush C 126 iX7_write_7 (by decide) ?_
    refine g_icmp_le C 14 iX7_write_9 (by decide) (fun c9 => ?_) (fun c9 => ?_)
    · refine g_aload_n C iX7_write_14 rfl ?_
      refine g_getI C fX7_70 iX7_write_15 mh0 rfl ?_
      refine g_sipush C 200 iX7_write_18 (by decide) ?_
      refine g_icmp_ne C 27 iX7_write_21 (by decide) (fun c21 => ?_) (fun c21 => ?_)
      · refine g_bipush C (-3) iX7_write_24 (by decide) ?_
        exact g_iret C iX7_write_26 rfl
      · refine g_aload_n C iX7_write_27 rfl ?_
        refine g_getR (b := 1) C fX7_7 iX7_write_28 mh0 rfl ?_
        refine g_aload_n C iX7_write_31 rfl ?_
        refine g_getI C fX7_70 iX7_write_32 mh0 rfl ?_
        refine g_iload_n C iX7_write_35 rfl ?_
        refine g_iastore C iX7_write_36 mh1 (fun h_1 => ?_)
        refine g_aload_n C iX7_write_37 rfl ?_
        refine g_dup C iX7_write_38 rfl ?_
        refine g_getI C fX7_70 iX7_write_39 mh0 rfl ?_
        refine g_iconst C 1 iX7_write_42 (by decide) ?_
        refine g_iadd C iX7_write_43 ?_
        refine g_putI C pX7_70 iX7_write_44 mh0 rfl (fun h_2 => ?_)
        refine g_aload_n C iX7_write_47 rfl ?_
        refine g_getI C fX7_70 iX7_write_48 mh0 rfl ?_
        exact g_iret C iX7_write_51 rfl
    · refine g_iconst C (-1) iX7_write_12 (by decide) ?_
      exact g_iret C iX7_write_13 rfl

theorem iX7_wipe_11 : zI cX7_wipe 11 (.ireturn) 1 12 := ⟨by decide +kernel, rfl⟩
theorem iX7_wipe_10 : zI cX7_wipe 10 (.iload_n 1) 1 11 := ⟨by decide +kernel, rfl⟩
theorem iX7_wipe_7 : zI cX7_wipe 7 (.putfield 70) 3 10 := ⟨by decide +kernel, rfl⟩
theorem iX7_wipe_6 : zI cX7_wipe 6 (.iconst 0) 1 7 := ⟨by decide +kernel, rfl⟩
theorem iX7_wipe_5 : zI cX7_wipe 5 (.aload_n 0) 1 6 := ⟨by decide +kernel, rfl⟩
theorem iX7_wipe_4 : zI cX7_wipe 4 (.istore_n 1) 1 5 := ⟨by decide +kernel, rfl⟩
theorem iX7_wipe_1 : zI cX7_wipe 1 (.getfield 70) 3 4 := ⟨by decide +kernel, rfl⟩
theorem iX7_wipe_0 : zI cX7_wipe 0 (.aload_n 0) 1 1 := ⟨by decide +kernel, rfl⟩
set_option maxHeartbeats 4000000 in
set_option maxRecDepth 100000 in
theorem m_Mo_wipe (h : zH) : zM yX7_wipe cX7_wipe 2 (some .int) 0 shM (fun ad => [.ref (ad 0)]) h eI (Mo_wipe h) := by
  refine zM.of (by decide) (fun _ => rfl) (fun _ => Nat.le_of_ble_eq_true rfl) (fun X ad hnL C => ?_)
  show zG X ad shM eI 0 [some (.ref (ad 0)), none] [] h _
  unfold Mo_wipe
  refine g_aload_n C iX7_wipe_0 rfl ?_
  refine g_getI C fX7_70 iX7_wipe_1 mh0 rfl ?_
  refine g_top (fun x1 => ?_)
  refine g_istore_n (lv' := [some (.ref (ad 0)), some (.int x1)]) C hnL iX7_wipe_4 (by decide) rfl ?_
  refine g_aload_n C iX7_wipe_5 rfl ?_
  refine g_iconst C 0 iX7_wipe_6 (by decide) ?_
  refine g_putI C pX7_70 iX7_wipe_7 mh0 rfl (fun h_1 => ?_)
  refine g_iload_n C iX7_wipe_10 rfl ?_
  exact g_iret C iX7_wipe_11 rfl

set_option maxRecDepth 100000 in
theorem wX7_111 : zCv RX7 111 yX7_reads cX7_reads 2 (some .int) 0 := ⟨⟨(zmem 861 (by decide +kernel) (by decide +kernel)), (zmem 76 (by decide +kernel) (by decide +kernel)), (zmem 864 rfl rfl), ⟨by decide, by decide, by decide +kernel⟩, by decide⟩, (zmem 863 (by decide +kernel) (by decide +kernel)), (zmem 26 (by decide +kernel) (by decide +kernel))⟩
theorem iX7_fault_1 : zI cX7_fault 1 (.invokevirtual 111) 3 4 := ⟨by decide +kernel, rfl⟩
theorem iX7_fault_4 : zI cX7_fault 4 (.ireturn) 1 5 := ⟨by decide +kernel, rfl⟩
theorem iX7_fault_0 : zI cX7_fault 0 (.aload_n 0) 1 1 := ⟨by decide +kernel, rfl⟩
set_option maxHeartbeats 4000000 in
set_option maxRecDepth 100000 in
theorem m_Mo_fault (h : zH) : zM yX7_fault cX7_fault 1 (some .int) 6 shM (fun ad => [.ref (ad 0)]) h eI (Mo_fault h) := by
  refine zM.of (by decide) (fun _ => rfl) (fun _ => Nat.le_of_ble_eq_true rfl) (fun X ad hnL C => ?_)
  show zG X ad shM eI 0 [some (.ref (ad 0))] [] h _
  unfold Mo_fault
  refine g_aload_n C iX7_fault_0 rfl ?_
  refine g_callV C wX7_111 iX7_fault_1 (m_Mo_reads h) (by decide) mh0 rfl rfl rfl rfl (Nat.le_of_ble_eq_true rfl) (fun r => ?_)
  show zG X ad shM eI 4 [some (.ref (ad 0))] [.int r.1] r.2 _
  exact g_iret C iX7_fault_4 rfl

theorem iX7_islands_11 : zI cX7_islands 11 (.if_icmp .ge 25) 3 14 := ⟨by decide +kernel, rfl⟩
theorem iX7_islands_17 : zI cX7_islands 17 (.invokevirtual 47) 3 20 := ⟨by decide +kernel, rfl⟩
theorem iX7_islands_20 : zI cX7_islands 20 (.ifCond .eq 7) 3 23 := ⟨by decide +kernel, rfl⟩
theorem iX7_islands_33 : zI cX7_islands 33 (.goto (-29)) 3 36 := ⟨by decide +kernel, rfl⟩
theorem iX7_islands_30 : zI cX7_islands 30 (.iinc 2 1) 3 33 := ⟨by decide +kernel, rfl⟩
theorem iX7_islands_29 : zI cX7_islands 29 (.istore_n 1) 1 30 := ⟨by decide +kernel, rfl⟩
theorem iX7_islands_28 : zI cX7_islands 28 (.iadd) 1 29 := ⟨by decide +kernel, rfl⟩
theorem iX7_islands_27 : zI cX7_islands 27 (.iconst 0) 1 28 := ⟨by decide +kernel, rfl⟩
theorem iX7_islands_24 : zI cX7_islands 24 (.goto 4) 3 27 := ⟨by decide +kernel, rfl⟩
theorem iX7_islands_23 : zI cX7_islands 23 (.iconst 1) 1 24 := ⟨by decide +kernel, rfl⟩
theorem iX7_islands_16 : zI cX7_islands 16 (.iload_n 2) 1 17 := ⟨by decide +kernel, rfl⟩
theorem iX7_islands_15 : zI cX7_islands 15 (.aload_n 0) 1 16 := ⟨by decide +kernel, rfl⟩
theorem iX7_islands_14 : zI cX7_islands 14 (.iload_n 1) 1 15 := ⟨by decide +kernel, rfl⟩
theorem iX7_islands_10 : zI cX7_islands 10 (.iaload) 1 11 := ⟨by decide +kernel, rfl⟩
theorem iX7_islands_9 : zI cX7_islands 9 (.iconst 0) 1 10 := ⟨by decide +kernel, rfl⟩
theorem iX7_islands_6 : zI cX7_islands 6 (.getfield 13) 3 9 := ⟨by decide +kernel, rfl⟩
theorem iX7_islands_5 : zI cX7_islands 5 (.aload_n 0) 1 6 := ⟨by decide +kernel, rfl⟩
theorem iX7_islands_4 : zI cX7_islands 4 (.iload_n 2) 1 5 := ⟨by decide +kernel, rfl⟩
theorem iX7_islands_37 : zI cX7_islands 37 (.ireturn) 1 38 := ⟨by decide +kernel, rfl⟩
theorem iX7_islands_36 : zI cX7_islands 36 (.iload_n 1) 1 37 := ⟨by decide +kernel, rfl⟩
theorem iX7_islands_3 : zI cX7_islands 3 (.istore_n 2) 1 4 := ⟨by decide +kernel, rfl⟩
theorem iX7_islands_2 : zI cX7_islands 2 (.iconst 0) 1 3 := ⟨by decide +kernel, rfl⟩
theorem iX7_islands_1 : zI cX7_islands 1 (.istore_n 1) 1 2 := ⟨by decide +kernel, rfl⟩
theorem iX7_islands_0 : zI cX7_islands 0 (.iconst 0) 1 1 := ⟨by decide +kernel, rfl⟩
set_option maxHeartbeats 4000000 in
set_option maxRecDepth 100000 in
theorem m_Mo_islands (h : zH) : zM yX7_islands cX7_islands 3 (some .int) 3 shM (fun ad => [.ref (ad 0)]) h (eP h) (Mo_islands h) := by
  refine zM.of (by decide) (fun _ => rfl) (fun _ => Nat.le_of_ble_eq_true rfl) (fun X ad hnL C => ?_)
  show zG X ad shM (eP h) 0 [some (.ref (ad 0)), none, none] [] h _
  unfold Mo_islands
  refine g_iconst C 0 iX7_islands_0 (by decide) ?_
  refine g_istore_n (lv' := [some (.ref (ad 0)), some (.int 0), none]) C hnL iX7_islands_1 (by decide) rfl ?_
  refine g_iconst C 0 iX7_islands_2 (by decide) ?_
  refine g_istore_n (lv' := [some (.ref (ad 0)), some (.int 0), some (.int 0)]) C hnL iX7_islands_3 (by decide) rfl ?_
  have L4 : ∀ (k36 : Int32 → Option (Int32)), (∀ (y1 : Int32), zG X ad shM (eP h) 36 [none, some (.int y1), none] [] h (k36 y1)) → ∀ (n : Nat) (x1 x2 : Int32), zG X ad shM (eP h) 4 [some (.ref (ad 0)), some (.int x1), some (.int x2)] [] h (Mo_islands_L4 h k36 n x1 x2) := by
    intro k36 hk36 n
    induction n with
    | zero =>
      intro x1 x2
      exact g_none
    | succ n ih4 =>
      intro x1 x2
      rw [Mo_islands_L4]
      refine g_iload_n C iX7_islands_4 rfl ?_
      refine g_aload_n C iX7_islands_5 rfl ?_
      refine g_getR (b := 2) C fX7_13 iX7_islands_6 mh0 rfl ?_
      refine g_iconst C 0 iX7_islands_9 (by decide) ?_
      refine g_ialoadL C 0 iX7_islands_10 mh2 (by decide) (by decide) ?_
      refine g_icmp_ge C 36 iX7_islands_11 (by decide) (fun c11 => ?_) (fun c11 => ?_)
      · refine g_sub (lv' := [none, some (.int x1), none]) ⟨rfl, trivial⟩ ?_
        exact hk36 _
      · refine g_iload_n C iX7_islands_14 rfl ?_
        refine g_aload_n C iX7_islands_15 rfl ?_
        refine g_iload_n C iX7_islands_16 rfl ?_
        refine g_callV C wX7_47 iX7_islands_17 (m_Mo_isLowest x2 h) (by decide) mh0 rfl rfl rfl rfl (Nat.le_of_ble_eq_true rfl) (fun r => ?_)
        show zG X ad shM (eP h) 20 [some (.ref (ad 0)), some (.int x1), some (.int x2)] [.int r, .int x1] h _
        refine g_if_eq C 27 iX7_islands_20 (by decide) (fun c20 => ?_) (fun c20 => ?_)
        · refine g_iconst C 0 iX7_islands_27 (by decide) ?_
          refine g_iadd C iX7_islands_28 ?_
          refine g_top (fun x1_1 => ?_)
          refine g_istore_n (lv' := [some (.ref (ad 0)), some (.int x1_1), some (.int x2)]) C hnL iX7_islands_29 (by decide) rfl ?_
          refine g_iinc (v := (x2 + 1)) (lv' := [some (.ref (ad 0)), some (.int x1_1), some (.int (x2 + 1))]) C hnL iX7_islands_30 (by decide) rfl rfl rfl ?_
          refine g_goto C 4 iX7_islands_33 (by decide) ?_
          exact ih4 _ _
        · refine g_iconst C 1 iX7_islands_23 (by decide) ?_
          refine g_goto C 28 iX7_islands_24 (by decide) ?_
          refine g_iadd C iX7_islands_28 ?_
          refine g_top (fun x1_2 => ?_)
          refine g_istore_n (lv' := [some (.ref (ad 0)), some (.int x1_2), some (.int x2)]) C hnL iX7_islands_29 (by decide) rfl ?_
          refine g_iinc (v := (x2 + 1)) (lv' := [some (.ref (ad 0)), some (.int x1_2), some (.int (x2 + 1))]) C hnL iX7_islands_30 (by decide) rfl rfl rfl ?_
          refine g_goto C 4 iX7_islands_33 (by decide) ?_
          exact ih4 _ _
  refine L4 _ (fun x1_3 => ?_) 1000 _ _
  show zG X ad shM (eP h) 36 [none, some (.int x1_3), none] [] h _
  refine g_iload_n C iX7_islands_36 rfl ?_
  exact g_iret C iX7_islands_37 rfl

theorem iX7_lay_1 : zI cX7_lay 1 (.invokevirtual 111) 3 4 := ⟨by decide +kernel, rfl⟩
theorem iX7_lay_6 : zI cX7_lay 6 (.if_icmp .ne 12) 3 9 := ⟨by decide +kernel, rfl⟩
theorem iX7_lay_20 : zI cX7_lay 20 (.ireturn) 1 21 := ⟨by decide +kernel, rfl⟩
theorem iX7_lay_18 : zI cX7_lay 18 (.bipush (-2)) 2 20 := ⟨by decide +kernel, rfl⟩
theorem iX7_lay_15 : zI cX7_lay 15 (.ifCond .ne 6) 3 18 := ⟨by decide +kernel, rfl⟩
set_option maxRecDepth 100000 in
theorem wX7_44 : zCv RX7 44 yX7_takes cX7_takes 2 none 0 := ⟨⟨(zmem 774 (by decide +kernel) (by decide +kernel)), (zmem 76 (by decide +kernel) (by decide +kernel)), (zmem 777 rfl rfl), ⟨by decide, by decide, by decide +kernel⟩, by decide⟩, (zmem 776 (by decide +kernel) (by decide +kernel)), (zmem 21 (by decide +kernel) (by decide +kernel))⟩
theorem iX7_lay_22 : zI cX7_lay 22 (.invokevirtual 44) 3 25 := ⟨by decide +kernel, rfl⟩
set_option maxRecDepth 100000 in
theorem wX7_115 : zCv RX7 115 yX7_islands cX7_islands 3 (some .int) 0 := ⟨⟨(zmem 908 (by decide +kernel) (by decide +kernel)), (zmem 76 (by decide +kernel) (by decide +kernel)), (zmem 911 rfl rfl), ⟨by decide, by decide, by decide +kernel⟩, by decide⟩, (zmem 910 (by decide +kernel) (by decide +kernel)), (zmem 36 (by decide +kernel) (by decide +kernel))⟩
theorem iX7_lay_26 : zI cX7_lay 26 (.invokevirtual 115) 3 29 := ⟨by decide +kernel, rfl⟩
theorem iX7_lay_29 : zI cX7_lay 29 (.ireturn) 1 30 := ⟨by decide +kernel, rfl⟩
theorem iX7_lay_25 : zI cX7_lay 25 (.aload_n 0) 1 26 := ⟨by decide +kernel, rfl⟩
theorem iX7_lay_21 : zI cX7_lay 21 (.aload_n 0) 1 22 := ⟨by decide +kernel, rfl⟩
theorem iX7_lay_14 : zI cX7_lay 14 (.iaload) 1 15 := ⟨by decide +kernel, rfl⟩
theorem iX7_lay_13 : zI cX7_lay 13 (.iconst 5) 1 14 := ⟨by decide +kernel, rfl⟩
theorem iX7_lay_10 : zI cX7_lay 10 (.getfield 13) 3 13 := ⟨by decide +kernel, rfl⟩
theorem iX7_lay_9 : zI cX7_lay 9 (.aload_n 0) 1 10 := ⟨by decide +kernel, rfl⟩
theorem iX7_lay_4 : zI cX7_lay 4 (.bipush (-4)) 2 6 := ⟨by decide +kernel, rfl⟩
theorem iX7_lay_0 : zI cX7_lay 0 (.aload_n 0) 1 1 := ⟨by decide +kernel, rfl⟩
set_option maxHeartbeats 4000000 in
set_option maxRecDepth 100000 in
theorem m_Mo_lay (h : zH) : zM yX7_lay cX7_lay 1 (some .int) 6 shM (fun ad => [.ref (ad 0)]) h eI (Mo_lay h) := by
  refine zM.of (by decide) (fun _ => rfl) (fun _ => Nat.le_of_ble_eq_true rfl) (fun X ad hnL C => ?_)
  show zG X ad shM eI 0 [some (.ref (ad 0))] [] h _
  unfold Mo_lay
  refine g_aload_n C iX7_lay_0 rfl ?_
  refine g_callV C wX7_111 iX7_lay_1 (m_Mo_reads h) (by decide) mh0 rfl rfl rfl rfl (Nat.le_of_ble_eq_true rfl) (fun r => ?_)
  show zG X ad shM eI 4 [some (.ref (ad 0))] [.int r.1] r.2 _
  refine g_bipush C (-4) iX7_lay_4 (by decide) ?_
  refine g_icmp_ne C 18 iX7_lay_6 (by decide) (fun c6 => ?_) (fun c6 => ?_)
  · refine g_aload_n C iX7_lay_9 rfl ?_
    refine g_getR (b := 2) C fX7_13 iX7_lay_10 mh0 rfl ?_
    refine g_iconst C 5 iX7_lay_13 (by decide) ?_
    refine g_ialoadL C 5 iX7_lay_14 mh2 (by decide) (by decide) ?_
    refine g_if_ne C 21 iX7_lay_15 (by decide) (fun c15 => ?_) (fun c15 => ?_)
    · refine g_bipush C (-2) iX7_lay_18 (by decide) ?_
      exact g_iret C iX7_lay_20 rfl
    · refine g_aload_n C iX7_lay_21 rfl ?_
      refine g_callV C wX7_44 iX7_lay_22 (m_Mo_takes r.2) (by decide) mh0 rfl rfl rfl rfl (Nat.le_of_ble_eq_true rfl) (fun h_1 => ?_)
      show zG X ad shM eI 25 [some (.ref (ad 0))] [] h_1 _
      refine g_aload_n C iX7_lay_25 rfl ?_
      refine g_callV C wX7_115 iX7_lay_26 (m_Mo_islands h_1) (by decide) mh0 rfl rfl rfl rfl (Nat.le_of_ble_eq_true rfl) (fun r_1 => ?_)
      show zG X ad shM eI 29 [some (.ref (ad 0))] [.int r_1] h_1 _
      exact g_iret C iX7_lay_29 rfl
  · refine g_bipush C (-2) iX7_lay_18 (by decide) ?_
    exact g_iret C iX7_lay_20 rfl

theorem iX7_busOf_11 : zI cX7_busOf 11 (.if_icmp .ge 27) 3 14 := ⟨by decide +kernel, rfl⟩
theorem iX7_busOf_16 : zI cX7_busOf 16 (.invokevirtual 47) 3 19 := ⟨by decide +kernel, rfl⟩
theorem iX7_busOf_19 : zI cX7_busOf 19 (.ifCond .eq 13) 3 22 := ⟨by decide +kernel, rfl⟩
theorem iX7_busOf_35 : zI cX7_busOf 35 (.goto (-31)) 3 38 := ⟨by decide +kernel, rfl⟩
theorem iX7_busOf_32 : zI cX7_busOf 32 (.iinc 3 1) 3 35 := ⟨by decide +kernel, rfl⟩
theorem iX7_busOf_24 : zI cX7_busOf 24 (.if_icmp .ne 5) 3 27 := ⟨by decide +kernel, rfl⟩
theorem iX7_busOf_29 : zI cX7_busOf 29 (.iinc 2 1) 3 32 := ⟨by decide +kernel, rfl⟩
theorem iX7_busOf_23 : zI cX7_busOf 23 (.iload_n 1) 1 24 := ⟨by decide +kernel, rfl⟩
theorem iX7_busOf_22 : zI cX7_busOf 22 (.iload_n 2) 1 23 := ⟨by decide +kernel, rfl⟩
theorem iX7_busOf_15 : zI cX7_busOf 15 (.iload_n 3) 1 16 := ⟨by decide +kernel, rfl⟩
theorem iX7_busOf_14 : zI cX7_busOf 14 (.aload_n 0) 1 15 := ⟨by decide +kernel, rfl⟩
theorem iX7_busOf_10 : zI cX7_busOf 10 (.iaload) 1 11 := ⟨by decide +kernel, rfl⟩
theorem iX7_busOf_9 : zI cX7_busOf 9 (.iconst 0) 1 10 := ⟨by decide +kernel, rfl⟩
theorem iX7_busOf_6 : zI cX7_busOf 6 (.getfield 13) 3 9 := ⟨by decide +kernel, rfl⟩
theorem iX7_busOf_5 : zI cX7_busOf 5 (.aload_n 0) 1 6 := ⟨by decide +kernel, rfl⟩
theorem iX7_busOf_4 : zI cX7_busOf 4 (.iload_n 3) 1 5 := ⟨by decide +kernel, rfl⟩
theorem iX7_busOf_28 : zI cX7_busOf 28 (.ireturn) 1 29 := ⟨by decide +kernel, rfl⟩
theorem iX7_busOf_27 : zI cX7_busOf 27 (.iload_n 3) 1 28 := ⟨by decide +kernel, rfl⟩
theorem iX7_busOf_40 : zI cX7_busOf 40 (.ireturn) 1 41 := ⟨by decide +kernel, rfl⟩
theorem iX7_busOf_38 : zI cX7_busOf 38 (.bipush (-4)) 2 40 := ⟨by decide +kernel, rfl⟩
theorem iX7_busOf_3 : zI cX7_busOf 3 (.istore_n 3) 1 4 := ⟨by decide +kernel, rfl⟩
theorem iX7_busOf_2 : zI cX7_busOf 2 (.iconst 0) 1 3 := ⟨by decide +kernel, rfl⟩
theorem iX7_busOf_1 : zI cX7_busOf 1 (.istore_n 2) 1 2 := ⟨by decide +kernel, rfl⟩
theorem iX7_busOf_0 : zI cX7_busOf 0 (.iconst 0) 1 1 := ⟨by decide +kernel, rfl⟩
set_option maxHeartbeats 4000000 in
set_option maxRecDepth 100000 in
theorem m_Mo_busOf (x1 : Int32) (h : zH) : zM yX7_busOf cX7_busOf 4 (some .int) 3 shM (fun ad => [.ref (ad 0), .int x1]) h (eP h) (Mo_busOf x1 h) := by
  refine zM.of (by decide) (fun _ => rfl) (fun _ => Nat.le_of_ble_eq_true rfl) (fun X ad hnL C => ?_)
  show zG X ad shM (eP h) 0 [some (.ref (ad 0)), some (.int x1), none, none] [] h _
  unfold Mo_busOf
  refine g_iconst C 0 iX7_busOf_0 (by decide) ?_
  refine g_istore_n (lv' := [some (.ref (ad 0)), some (.int x1), some (.int 0), none]) C hnL iX7_busOf_1 (by decide) rfl ?_
  refine g_iconst C 0 iX7_busOf_2 (by decide) ?_
  refine g_istore_n (lv' := [some (.ref (ad 0)), some (.int x1), some (.int 0), some (.int 0)]) C hnL iX7_busOf_3 (by decide) rfl ?_
  have L4 : ∀ (k27 : Int32 → Option (Int32)), (∀ (y3 : Int32), zG X ad shM (eP h) 27 [none, none, none, some (.int y3)] [] h (k27 y3)) → ∀ (k38 : Option (Int32)), (zG X ad shM (eP h) 38 [none, none, none, none] [] h (k38)) → ∀ (n : Nat) (x2 x3 : Int32), zG X ad shM (eP h) 4 [some (.ref (ad 0)), some (.int x1), some (.int x2), some (.int x3)] [] h (Mo_busOf_L4 x1 h k27 k38 n x2 x3) := by
    intro k27 hk27 k38 hk38 n
    induction n with
    | zero =>
      intro x2 x3
      exact g_none
    | succ n ih4 =>
      intro x2 x3
      rw [Mo_busOf_L4]
      refine g_iload_n C iX7_busOf_4 rfl ?_
      refine g_aload_n C iX7_busOf_5 rfl ?_
      refine g_getR (b := 2) C fX7_13 iX7_busOf_6 mh0 rfl ?_
      refine g_iconst C 0 iX7_busOf_9 (by decide) ?_
      refine g_ialoadL C 0 iX7_busOf_10 mh2 (by decide) (by decide) ?_
      refine g_icmp_ge C 38 iX7_busOf_11 (by decide) (fun c11 => ?_) (fun c11 => ?_)
      · refine g_sub (lv' := [none, none, none, none]) trivial ?_
        exact hk38
      · refine g_aload_n C iX7_busOf_14 rfl ?_
        refine g_iload_n C iX7_busOf_15 rfl ?_
        refine g_callV C wX7_47 iX7_busOf_16 (m_Mo_isLowest x3 h) (by decide) mh0 rfl rfl rfl rfl (Nat.le_of_ble_eq_true rfl) (fun r => ?_)
        show zG X ad shM (eP h) 19 [some (.ref (ad 0)), some (.int x1), some (.int x2), some (.int x3)] [.int r] h _
        refine g_if_eq C 32 iX7_busOf_19 (by decide) (fun c19 => ?_) (fun c19 => ?_)
        · refine g_iinc (v := (x3 + 1)) (lv' := [some (.ref (ad 0)), some (.int x1), some (.int x2), some (.int (x3 + 1))]) C hnL iX7_busOf_32 (by decide) rfl rfl rfl ?_
          refine g_goto C 4 iX7_busOf_35 (by decide) ?_
          exact ih4 _ _
        · refine g_iload_n C iX7_busOf_22 rfl ?_
          refine g_iload_n C iX7_busOf_23 rfl ?_
          refine g_icmp_ne C 29 iX7_busOf_24 (by decide) (fun c24 => ?_) (fun c24 => ?_)
          · refine g_sub (lv' := [none, none, none, some (.int x3)]) ⟨rfl, trivial⟩ ?_
            exact hk27 _
          · refine g_iinc (v := (x2 + 1)) (lv' := [some (.ref (ad 0)), some (.int x1), some (.int (x2 + 1)), some (.int x3)]) C hnL iX7_busOf_29 (by decide) rfl rfl rfl ?_
            refine g_iinc (v := (x3 + 1)) (lv' := [some (.ref (ad 0)), some (.int x1), some (.int (x2 + 1)), some (.int (x3 + 1))]) C hnL iX7_busOf_32 (by decide) rfl rfl rfl ?_
            refine g_goto C 4 iX7_busOf_35 (by decide) ?_
            exact ih4 _ _
  refine L4 _ (fun x3_1 => ?_) _ (?_) 1000 _ _
  · show zG X ad shM (eP h) 27 [none, none, none, some (.int x3_1)] [] h _
    refine g_iload_n C iX7_busOf_27 rfl ?_
    exact g_iret C iX7_busOf_28 rfl
  · show zG X ad shM (eP h) 38 [none, none, none, none] [] h _
    refine g_bipush C (-4) iX7_busOf_38 (by decide) ?_
    exact g_iret C iX7_busOf_40 rfl

