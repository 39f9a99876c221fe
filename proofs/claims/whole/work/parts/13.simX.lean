theorem fX4_49 : zFl RX4 49 4 1 := ⟨RX4, TX4, 16, rfl, by decide, (zmem 123 (by decide +kernel) (by decide +kernel)), u_inX4⟩
theorem iX4_addLink_6 : zI cX4_addLink 6 (.if_icmp .ge 24) 3 9 := ⟨by decide +kernel, rfl⟩
theorem iX4_addLink_31 : zI cX4_addLink 31 (.ireturn) 1 32 := ⟨by decide +kernel, rfl⟩
theorem iX4_addLink_30 : zI cX4_addLink 30 (.iconst 0) 1 31 := ⟨by decide +kernel, rfl⟩
set_option maxRecDepth 100000 in
theorem wX4_65 : zCv RX4 65 yX4_isBus cX4_isBus 2 (some .boolean) 1 := ⟨⟨(zmem 383 (by decide +kernel) (by decide +kernel)), (zmem 66 (by decide +kernel) (by decide +kernel)), (zmem 386 rfl rfl), ⟨by decide, by decide, by decide +kernel⟩, by decide⟩, (zmem 384 (by decide +kernel) (by decide +kernel)), (zmem 385 (by decide +kernel) (by decide +kernel))⟩
theorem iX4_addLink_11 : zI cX4_addLink 11 (.invokevirtual 65) 3 14 := ⟨by decide +kernel, rfl⟩
theorem iX4_addLink_14 : zI cX4_addLink 14 (.ifCond .eq 16) 3 17 := ⟨by decide +kernel, rfl⟩
theorem iX4_addLink_19 : zI cX4_addLink 19 (.invokevirtual 65) 3 22 := ⟨by decide +kernel, rfl⟩
theorem iX4_addLink_22 : zI cX4_addLink 22 (.ifCond .eq 8) 3 25 := ⟨by decide +kernel, rfl⟩
theorem iX4_addLink_27 : zI cX4_addLink 27 (.if_icmp .ne 5) 3 30 := ⟨by decide +kernel, rfl⟩
theorem fX4_9 : zFl RX4 9 4 5 := ⟨RX4, TX4, 16, rfl, by decide, (zmem 137 (by decide +kernel) (by decide +kernel)), u_inX4⟩
theorem fX4_15 : zFl RX4 15 4 6 := ⟨RX4, TX4, 16, rfl, by decide, (zmem 139 (by decide +kernel) (by decide +kernel)), u_inX4⟩
theorem iX4_addLink_63 : zI cX4_addLink 63 (.ireturn) 1 64 := ⟨by decide +kernel, rfl⟩
theorem iX4_addLink_62 : zI cX4_addLink 62 (.iconst 1) 1 63 := ⟨by decide +kernel, rfl⟩
theorem iX4_addLink_59 : zI cX4_addLink 59 (.putfield 49) 3 62 := ⟨by decide +kernel, rfl⟩
theorem iX4_addLink_58 : zI cX4_addLink 58 (.iadd) 1 59 := ⟨by decide +kernel, rfl⟩
theorem iX4_addLink_57 : zI cX4_addLink 57 (.iconst 1) 1 58 := ⟨by decide +kernel, rfl⟩
theorem iX4_addLink_54 : zI cX4_addLink 54 (.getfield 49) 3 57 := ⟨by decide +kernel, rfl⟩
theorem iX4_addLink_53 : zI cX4_addLink 53 (.dup) 1 54 := ⟨by decide +kernel, rfl⟩
theorem iX4_addLink_52 : zI cX4_addLink 52 (.aload_n 0) 1 53 := ⟨by decide +kernel, rfl⟩
theorem iX4_addLink_51 : zI cX4_addLink 51 (.iastore) 1 52 := ⟨by decide +kernel, rfl⟩
theorem iX4_addLink_50 : zI cX4_addLink 50 (.iload_n 2) 1 51 := ⟨by decide +kernel, rfl⟩
theorem iX4_addLink_47 : zI cX4_addLink 47 (.getfield 49) 3 50 := ⟨by decide +kernel, rfl⟩
theorem iX4_addLink_46 : zI cX4_addLink 46 (.aload_n 0) 1 47 := ⟨by decide +kernel, rfl⟩
theorem iX4_addLink_43 : zI cX4_addLink 43 (.getfield 15) 3 46 := ⟨by decide +kernel, rfl⟩
theorem iX4_addLink_42 : zI cX4_addLink 42 (.aload_n 0) 1 43 := ⟨by decide +kernel, rfl⟩
theorem iX4_addLink_41 : zI cX4_addLink 41 (.iastore) 1 42 := ⟨by decide +kernel, rfl⟩
theorem iX4_addLink_40 : zI cX4_addLink 40 (.iload_n 1) 1 41 := ⟨by decide +kernel, rfl⟩
theorem iX4_addLink_37 : zI cX4_addLink 37 (.getfield 49) 3 40 := ⟨by decide +kernel, rfl⟩
theorem iX4_addLink_36 : zI cX4_addLink 36 (.aload_n 0) 1 37 := ⟨by decide +kernel, rfl⟩
theorem iX4_addLink_33 : zI cX4_addLink 33 (.getfield 9) 3 36 := ⟨by decide +kernel, rfl⟩
theorem iX4_addLink_32 : zI cX4_addLink 32 (.aload_n 0) 1 33 := ⟨by decide +kernel, rfl⟩
theorem iX4_addLink_26 : zI cX4_addLink 26 (.iload_n 2) 1 27 := ⟨by decide +kernel, rfl⟩
theorem iX4_addLink_25 : zI cX4_addLink 25 (.iload_n 1) 1 26 := ⟨by decide +kernel, rfl⟩
theorem iX4_addLink_18 : zI cX4_addLink 18 (.iload_n 2) 1 19 := ⟨by decide +kernel, rfl⟩
theorem iX4_addLink_17 : zI cX4_addLink 17 (.aload_n 0) 1 18 := ⟨by decide +kernel, rfl⟩
theorem iX4_addLink_10 : zI cX4_addLink 10 (.iload_n 1) 1 11 := ⟨by decide +kernel, rfl⟩
theorem iX4_addLink_9 : zI cX4_addLink 9 (.aload_n 0) 1 10 := ⟨by decide +kernel, rfl⟩
theorem iX4_addLink_4 : zI cX4_addLink 4 (.bipush 9) 2 6 := ⟨by decide +kernel, rfl⟩
theorem iX4_addLink_1 : zI cX4_addLink 1 (.getfield 49) 3 4 := ⟨by decide +kernel, rfl⟩
theorem iX4_addLink_0 : zI cX4_addLink 0 (.aload_n 0) 1 1 := ⟨by decide +kernel, rfl⟩
set_option maxHeartbeats 4000000 in
set_option maxRecDepth 100000 in
theorem m_Pl_addLink (p : Nat) (hp : isP p) (x1 : Int32) (x2 : Int32) (h : zH) : zM yX4_addLink cX4_addLink 3 (some .boolean) 1 shX (fun ad => [.ref (ad p), .int x1, .int x2]) h eI (Pl_addLink p x1 x2 h) := by
  refine zM.of (by decide) (fun _ => rfl) (fun _ => Nat.le_of_ble_eq_true rfl) (fun X ad hnL C => ?_)
  show zG X ad shX eI 0 [some (.ref (ad p)), some (.int x1), some (.int x2)] [] h _
  unfold Pl_addLink
  refine g_aload_n C iX4_addLink_0 rfl ?_
  refine g_getI C fX4_49 iX4_addLink_1 hp.1 rfl ?_
  refine g_bipush C 9 iX4_addLink_4 (by decide) ?_
  refine g_icmp_ge C 30 iX4_addLink_6 (by decide) (fun c6 => ?_) (fun c6 => ?_)
  · refine g_iconst C 0 iX4_addLink_30 (by decide) ?_
    exact g_zret C iX4_addLink_31 rfl rfl
  · refine g_aload_n C iX4_addLink_9 rfl ?_
    refine g_iload_n C iX4_addLink_10 rfl ?_
    refine g_callV C wX4_65 iX4_addLink_11 (m_Pl_isBus p hp x1 h) (by decide) hp.1 rfl rfl rfl rfl (Nat.le_of_ble_eq_true rfl) (fun r => ?_)
    show zG X ad shX eI 14 [some (.ref (ad p)), some (.int x1), some (.int x2)] [.int r] h _
    refine g_if_eq C 30 iX4_addLink_14 (by decide) (fun c14 => ?_) (fun c14 => ?_)
    · refine g_iconst C 0 iX4_addLink_30 (by decide) ?_
      exact g_zret C iX4_addLink_31 rfl rfl
    · refine g_aload_n C iX4_addLink_17 rfl ?_
      refine g_iload_n C iX4_addLink_18 rfl ?_
      refine g_callV C wX4_65 iX4_addLink_19 (m_Pl_isBus p hp x2 h) (by decide) hp.1 rfl rfl rfl rfl (Nat.le_of_ble_eq_true rfl) (fun r_1 => ?_)
      show zG X ad shX eI 22 [some (.ref (ad p)), some (.int x1), some (.int x2)] [.int r_1] h _
      refine g_if_eq C 30 iX4_addLink_22 (by decide) (fun c22 => ?_) (fun c22 => ?_)
      · refine g_iconst C 0 iX4_addLink_30 (by decide) ?_
        exact g_zret C iX4_addLink_31 rfl rfl
      · refine g_iload_n C iX4_addLink_25 rfl ?_
        refine g_iload_n C iX4_addLink_26 rfl ?_
        refine g_icmp_ne C 32 iX4_addLink_27 (by decide) (fun c27 => ?_) (fun c27 => ?_)
        · refine g_iconst C 0 iX4_addLink_30 (by decide) ?_
          exact g_zret C iX4_addLink_31 rfl rfl
        · refine g_aload_n C iX4_addLink_32 rfl ?_
          refine g_getR (b := (p + 1)) C fX4_9 iX4_addLink_33 hp.1 rfl ?_
          refine g_aload_n C iX4_addLink_36 rfl ?_
          refine g_getI C fX4_49 iX4_addLink_37 hp.1 rfl ?_
          refine g_iload_n C iX4_addLink_40 rfl ?_
          refine g_iastore C iX4_addLink_41 hp.2.1 (fun h_1 => ?_)
          refine g_aload_n C iX4_addLink_42 rfl ?_
          refine g_getR (b := (p + 2)) C fX4_15 iX4_addLink_43 hp.1 rfl ?_
          refine g_aload_n C iX4_addLink_46 rfl ?_
          refine g_getI C fX4_49 iX4_addLink_47 hp.1 rfl ?_
          refine g_iload_n C iX4_addLink_50 rfl ?_
          refine g_iastore C iX4_addLink_51 hp.2.2.1 (fun h_2 => ?_)
          refine g_aload_n C iX4_addLink_52 rfl ?_
          refine g_dup C iX4_addLink_53 rfl ?_
          refine g_getI C fX4_49 iX4_addLink_54 hp.1 rfl ?_
          refine g_iconst C 1 iX4_addLink_57 (by decide) ?_
          refine g_iadd C iX4_addLink_58 ?_
          refine g_putI C pX4_49 iX4_addLink_59 hp.1 rfl (fun h_3 => ?_)
          refine g_iconst C 1 iX4_addLink_62 (by decide) ?_
          exact g_zret C iX4_addLink_63 rfl rfl

theorem fX4_52 : zFl RX4 52 4 2 := ⟨RX4, TX4, 16, rfl, by decide, (zmem 126 (by decide +kernel) (by decide +kernel)), u_inX4⟩
theorem iX4_addPlant_6 : zI cX4_addPlant 6 (.if_icmp .ge 42) 3 9 := ⟨by decide +kernel, rfl⟩
theorem iX4_addPlant_49 : zI cX4_addPlant 49 (.ireturn) 1 50 := ⟨by decide +kernel, rfl⟩
theorem iX4_addPlant_48 : zI cX4_addPlant 48 (.iconst 0) 1 49 := ⟨by decide +kernel, rfl⟩
theorem iX4_addPlant_11 : zI cX4_addPlant 11 (.invokevirtual 65) 3 14 := ⟨by decide +kernel, rfl⟩
theorem iX4_addPlant_14 : zI cX4_addPlant 14 (.ifCond .eq 34) 3 17 := ⟨by decide +kernel, rfl⟩
theorem iX4_addPlant_21 : zI cX4_addPlant 21 (.invokestatic 61) 3 24 := ⟨by decide +kernel, rfl⟩
theorem iX4_addPlant_24 : zI cX4_addPlant 24 (.ifCond .eq 24) 3 27 := ⟨by decide +kernel, rfl⟩
theorem iX4_addPlant_31 : zI cX4_addPlant 31 (.invokestatic 61) 3 34 := ⟨by decide +kernel, rfl⟩
theorem iX4_addPlant_34 : zI cX4_addPlant 34 (.ifCond .eq 14) 3 37 := ⟨by decide +kernel, rfl⟩
theorem iX4_addPlant_42 : zI cX4_addPlant 42 (.invokestatic 61) 3 45 := ⟨by decide +kernel, rfl⟩
theorem iX4_addPlant_45 : zI cX4_addPlant 45 (.ifCond .ne 5) 3 48 := ⟨by decide +kernel, rfl⟩
theorem fX4_18 : zFl RX4 18 4 7 := ⟨RX4, TX4, 16, rfl, by decide, (zmem 141 (by decide +kernel) (by decide +kernel)), u_inX4⟩
theorem fX4_21 : zFl RX4 21 4 8 := ⟨RX4, TX4, 16, rfl, by decide, (zmem 144 (by decide +kernel) (by decide +kernel)), u_inX4⟩
theorem fX4_24 : zFl RX4 24 4 9 := ⟨RX4, TX4, 16, rfl, by decide, (zmem 147 (by decide +kernel) (by decide +kernel)), u_inX4⟩
theorem fX4_27 : zFl RX4 27 4 10 := ⟨RX4, TX4, 16, rfl, by decide, (zmem 149 (by decide +kernel) (by decide +kernel)), u_inX4⟩
theorem iX4_addPlant_102 : zI cX4_addPlant 102 (.ireturn) 1 103 := ⟨by decide +kernel, rfl⟩
theorem iX4_addPlant_101 : zI cX4_addPlant 101 (.iconst 1) 1 102 := ⟨by decide +kernel, rfl⟩
theorem iX4_addPlant_98 : zI cX4_addPlant 98 (.putfield 52) 3 101 := ⟨by decide +kernel, rfl⟩
theorem iX4_addPlant_97 : zI cX4_addPlant 97 (.iadd) 1 98 := ⟨by decide +kernel, rfl⟩
theorem iX4_addPlant_96 : zI cX4_addPlant 96 (.iconst 1) 1 97 := ⟨by decide +kernel, rfl⟩
theorem iX4_addPlant_93 : zI cX4_addPlant 93 (.getfield 52) 3 96 := ⟨by decide +kernel, rfl⟩
theorem iX4_addPlant_92 : zI cX4_addPlant 92 (.dup) 1 93 := ⟨by decide +kernel, rfl⟩
theorem iX4_addPlant_91 : zI cX4_addPlant 91 (.aload_n 0) 1 92 := ⟨by decide +kernel, rfl⟩
theorem iX4_addPlant_90 : zI cX4_addPlant 90 (.iastore) 1 91 := ⟨by decide +kernel, rfl⟩
theorem iX4_addPlant_88 : zI cX4_addPlant 88 (.iload 4) 2 90 := ⟨by decide +kernel, rfl⟩
theorem iX4_addPlant_85 : zI cX4_addPlant 85 (.getfield 52) 3 88 := ⟨by decide +kernel, rfl⟩
theorem iX4_addPlant_84 : zI cX4_addPlant 84 (.aload_n 0) 1 85 := ⟨by decide +kernel, rfl⟩
theorem iX4_addPlant_81 : zI cX4_addPlant 81 (.getfield 27) 3 84 := ⟨by decide +kernel, rfl⟩
theorem iX4_addPlant_80 : zI cX4_addPlant 80 (.aload_n 0) 1 81 := ⟨by decide +kernel, rfl⟩
theorem iX4_addPlant_79 : zI cX4_addPlant 79 (.iastore) 1 80 := ⟨by decide +kernel, rfl⟩
theorem iX4_addPlant_78 : zI cX4_addPlant 78 (.iload_n 3) 1 79 := ⟨by decide +kernel, rfl⟩
theorem iX4_addPlant_75 : zI cX4_addPlant 75 (.getfield 52) 3 78 := ⟨by decide +kernel, rfl⟩
theorem iX4_addPlant_74 : zI cX4_addPlant 74 (.aload_n 0) 1 75 := ⟨by decide +kernel, rfl⟩
theorem iX4_addPlant_71 : zI cX4_addPlant 71 (.getfield 24) 3 74 := ⟨by decide +kernel, rfl⟩
theorem iX4_addPlant_70 : zI cX4_addPlant 70 (.aload_n 0) 1 71 := ⟨by decide +kernel, rfl⟩
theorem iX4_addPlant_69 : zI cX4_addPlant 69 (.iastore) 1 70 := ⟨by decide +kernel, rfl⟩
theorem iX4_addPlant_68 : zI cX4_addPlant 68 (.iload_n 2) 1 69 := ⟨by decide +kernel, rfl⟩
theorem iX4_addPlant_65 : zI cX4_addPlant 65 (.getfield 52) 3 68 := ⟨by decide +kernel, rfl⟩
theorem iX4_addPlant_64 : zI cX4_addPlant 64 (.aload_n 0) 1 65 := ⟨by decide +kernel, rfl⟩
theorem iX4_addPlant_61 : zI cX4_addPlant 61 (.getfield 21) 3 64 := ⟨by decide +kernel, rfl⟩
theorem iX4_addPlant_60 : zI cX4_addPlant 60 (.aload_n 0) 1 61 := ⟨by decide +kernel, rfl⟩
theorem iX4_addPlant_59 : zI cX4_addPlant 59 (.iastore) 1 60 := ⟨by decide +kernel, rfl⟩
theorem iX4_addPlant_58 : zI cX4_addPlant 58 (.iload_n 1) 1 59 := ⟨by decide +kernel, rfl⟩
theorem iX4_addPlant_55 : zI cX4_addPlant 55 (.getfield 52) 3 58 := ⟨by decide +kernel, rfl⟩
theorem iX4_addPlant_54 : zI cX4_addPlant 54 (.aload_n 0) 1 55 := ⟨by decide +kernel, rfl⟩
theorem iX4_addPlant_51 : zI cX4_addPlant 51 (.getfield 18) 3 54 := ⟨by decide +kernel, rfl⟩
theorem iX4_addPlant_50 : zI cX4_addPlant 50 (.aload_n 0) 1 51 := ⟨by decide +kernel, rfl⟩
theorem iX4_addPlant_40 : zI cX4_addPlant 40 (.bipush 9) 2 42 := ⟨by decide +kernel, rfl⟩
theorem iX4_addPlant_39 : zI cX4_addPlant 39 (.iconst 1) 1 40 := ⟨by decide +kernel, rfl⟩
theorem iX4_addPlant_37 : zI cX4_addPlant 37 (.iload 4) 2 39 := ⟨by decide +kernel, rfl⟩
theorem iX4_addPlant_29 : zI cX4_addPlant 29 (.bipush 9) 2 31 := ⟨by decide +kernel, rfl⟩
theorem iX4_addPlant_28 : zI cX4_addPlant 28 (.iconst 1) 1 29 := ⟨by decide +kernel, rfl⟩
theorem iX4_addPlant_27 : zI cX4_addPlant 27 (.iload_n 3) 1 28 := ⟨by decide +kernel, rfl⟩
theorem iX4_addPlant_19 : zI cX4_addPlant 19 (.bipush 99) 2 21 := ⟨by decide +kernel, rfl⟩
theorem iX4_addPlant_18 : zI cX4_addPlant 18 (.iconst 1) 1 19 := ⟨by decide +kernel, rfl⟩
theorem iX4_addPlant_17 : zI cX4_addPlant 17 (.iload_n 2) 1 18 := ⟨by decide +kernel, rfl⟩
theorem iX4_addPlant_10 : zI cX4_addPlant 10 (.iload_n 1) 1 11 := ⟨by decide +kernel, rfl⟩
theorem iX4_addPlant_9 : zI cX4_addPlant 9 (.aload_n 0) 1 10 := ⟨by decide +kernel, rfl⟩
theorem iX4_addPlant_4 : zI cX4_addPlant 4 (.bipush 6) 2 6 := ⟨by decide +kernel, rfl⟩
theorem iX4_addPlant_1 : zI cX4_addPlant 1 (.getfield 52) 3 4 := ⟨by decide +kernel, rfl⟩
theorem iX4_addPlant_0 : zI cX4_addPlant 0 (.aload_n 0) 1 1 := ⟨by decide +kernel, rfl⟩
set_option maxHeartbeats 4000000 in
set_option maxRecDepth 100000 in
theorem m_Pl_addPlant (p : Nat) (hp : isP p) (x1 : Int32) (x2 : Int32) (x3 : Int32) (x4 : Int32) (h : zH) : zM yX4_addPlant cX4_addPlant 5 (some .boolean) 1 shX (fun ad => [.ref (ad p), .int x1, .int x2, .int x3, .int x4]) h eI (Pl_addPlant p x1 x2 x3 x4 h) := by
  refine zM.of (by decide) (fun _ => rfl) (fun _ => Nat.le_of_ble_eq_true rfl) (fun X ad hnL C => ?_)
  show zG X ad shX eI 0 [some (.ref (ad p)), some (.int x1), some (.int x2), some (.int x3), some (.int x4)] [] h _
  unfold Pl_addPlant
  refine g_aload_n C iX4_addPlant_0 rfl ?_
  refine g_getI C fX4_52 iX4_addPlant_1 hp.1 rfl ?_
  refine g_bipush C 6 iX4_addPlant_4 (by decide) ?_
  refine g_icmp_ge C 48 iX4_addPlant_6 (by decide) (fun c6 => ?_) (fun c6 => ?_)
  · refine g_iconst C 0 iX4_addPlant_48 (by decide) ?_
    exact g_zret C iX4_addPlant_49 rfl rfl
  · refine g_aload_n C iX4_addPlant_9 rfl ?_
    refine g_iload_n C iX4_addPlant_10 rfl ?_
    refine g_callV C wX4_65 iX4_addPlant_11 (m_Pl_isBus p hp x1 h) (by decide) hp.1 rfl rfl rfl rfl (Nat.le_of_ble_eq_true rfl) (fun r => ?_)
    show zG X ad shX eI 14 [some (.ref (ad p)), some (.int x1), some (.int x2), some (.int x3), some (.int x4)] [.int r] h _
    refine g_if_eq C 48 iX4_addPlant_14 (by decide) (fun c14 => ?_) (fun c14 => ?_)
    · refine g_iconst C 0 iX4_addPlant_48 (by decide) ?_
      exact g_zret C iX4_addPlant_49 rfl rfl
    · refine g_iload_n C iX4_addPlant_17 rfl ?_
      refine g_iconst C 1 iX4_addPlant_18 (by decide) ?_
      refine g_bipush C 99 iX4_addPlant_19 (by decide) ?_
      refine g_callS C wX4_61 iX4_addPlant_21 (m_Pl_isFrom x2 1 99 h) (by decide) rfl rfl rfl (Nat.le_of_ble_eq_true rfl) (fun r_1 => ?_)
      show zG X ad shX eI 24 [some (.ref (ad p)), some (.int x1), some (.int x2), some (.int x3), some (.int x4)] [.int r_1] h _
      refine g_if_eq C 48 iX4_addPlant_24 (by decide) (fun c24 => ?_) (fun c24 => ?_)
      · refine g_iconst C 0 iX4_addPlant_48 (by decide) ?_
        exact g_zret C iX4_addPlant_49 rfl rfl
      · refine g_iload_n C iX4_addPlant_27 rfl ?_
        refine g_iconst C 1 iX4_addPlant_28 (by decide) ?_
        refine g_bipush C 9 iX4_addPlant_29 (by decide) ?_
        refine g_callS C wX4_61 iX4_addPlant_31 (m_Pl_isFrom x3 1 9 h) (by decide) rfl rfl rfl (Nat.le_of_ble_eq_true rfl) (fun r_2 => ?_)
        show zG X ad shX eI 34 [some (.ref (ad p)), some (.int x1), some (.int x2), some (.int x3), some (.int x4)] [.int r_2] h _
        refine g_if_eq C 48 iX4_addPlant_34 (by decide) (fun c34 => ?_) (fun c34 => ?_)
        · refine g_iconst C 0 iX4_addPlant_48 (by decide) ?_
          exact g_zret C iX4_addPlant_49 rfl rfl
        · refine g_iload C iX4_addPlant_37 rfl ?_
          refine g_iconst C 1 iX4_addPlant_39 (by decide) ?_
          refine g_bipush C 9 iX4_addPlant_40 (by decide) ?_
          refine g_callS C wX4_61 iX4_addPlant_42 (m_Pl_isFrom x4 1 9 h) (by decide) rfl rfl rfl (Nat.le_of_ble_eq_true rfl) (fun r_3 => ?_)
          show zG X ad shX eI 45 [some (.ref (ad p)), some (.int x1), some (.int x2), some (.int x3), some (.int x4)] [.int r_3] h _
          refine g_if_ne C 50 iX4_addPlant_45 (by decide) (fun c45 => ?_) (fun c45 => ?_)
          · refine g_iconst C 0 iX4_addPlant_48 (by decide) ?_
            exact g_zret C iX4_addPlant_49 rfl rfl
          · refine g_aload_n C iX4_addPlant_50 rfl ?_
            refine g_getR (b := (p + 3)) C fX4_18 iX4_addPlant_51 hp.1 rfl ?_
            refine g_aload_n C iX4_addPlant_54 rfl ?_
            refine g_getI C fX4_52 iX4_addPlant_55 hp.1 rfl ?_
            refine g_iload_n C iX4_addPlant_58 rfl ?_
            refine g_iastore C iX4_addPlant_59 hp.2.2.2.1 (fun h_1 => ?_)
            refine g_aload_n C iX4_addPlant_60 rfl ?_
            refine g_getR (b := (p + 4)) C fX4_21 iX4_addPlant_61 hp.1 rfl ?_
            refine g_aload_n C iX4_addPlant_64 rfl ?_
            refine g_getI C fX4_52 iX4_addPlant_65 hp.1 rfl ?_
            refine g_iload_n C iX4_addPlant_68 rfl ?_
            refine g_iastore C iX4_addPlant_69 hp.2.2.2.2.1 (fun h_2 => ?_)
            refine g_aload_n C iX4_addPlant_70 rfl ?_
            refine g_getR (b := (p + 5)) C fX4_24 iX4_addPlant_71 hp.1 rfl ?_
            refine g_aload_n C iX4_addPlant_74 rfl ?_
            refine g_getI C fX4_52 iX4_addPlant_75 hp.1 rfl ?_
            refine g_iload_n C iX4_addPlant_78 rfl ?_
            refine g_iastore C iX4_addPlant_79 hp.2.2.2.2.2.1 (fun h_3 => ?_)
            refine g_aload_n C iX4_addPlant_80 rfl ?_
            refine g_getR (b := (p + 6)) C fX4_27 iX4_addPlant_81 hp.1 rfl ?_
            refine g_aload_n C iX4_addPlant_84 rfl ?_
            refine g_getI C fX4_52 iX4_addPlant_85 hp.1 rfl ?_
            refine g_iload C iX4_addPlant_88 rfl ?_
            refine g_iastore C iX4_addPlant_90 hp.2.2.2.2.2.2.1 (fun h_4 => ?_)
            refine g_aload_n C iX4_addPlant_91 rfl ?_
            refine g_dup C iX4_addPlant_92 rfl ?_
            refine g_getI C fX4_52 iX4_addPlant_93 hp.1 rfl ?_
            refine g_iconst C 1 iX4_addPlant_96 (by decide) ?_
            refine g_iadd C iX4_addPlant_97 ?_
            refine g_putI C pX4_52 iX4_addPlant_98 hp.1 rfl (fun h_5 => ?_)
            refine g_iconst C 1 iX4_addPlant_101 (by decide) ?_
            exact g_zret C iX4_addPlant_102 rfl rfl

theorem iX4_addFeeder_6 : zI cX4_addFeeder 6 (.if_icmp .ge 30) 3 9 := ⟨by decide +kernel, rfl⟩
theorem iX4_addFeeder_37 : zI cX4_addFeeder 37 (.ireturn) 1 38 := ⟨by decide +kernel, rfl⟩
theorem iX4_addFeeder_36 : zI cX4_addFeeder 36 (.iconst 0) 1 37 := ⟨by decide +kernel, rfl⟩
theorem iX4_addFeeder_11 : zI cX4_addFeeder 11 (.invokevirtual 65) 3 14 := ⟨by decide +kernel, rfl⟩
theorem iX4_addFeeder_14 : zI cX4_addFeeder 14 (.ifCond .eq 22) 3 17 := ⟨by decide +kernel, rfl⟩
theorem iX4_addFeeder_21 : zI cX4_addFeeder 21 (.invokestatic 61) 3 24 := ⟨by decide +kernel, rfl⟩
theorem iX4_addFeeder_24 : zI cX4_addFeeder 24 (.ifCond .eq 12) 3 27 := ⟨by decide +kernel, rfl⟩
theorem iX4_addFeeder_30 : zI cX4_addFeeder 30 (.invokestatic 61) 3 33 := ⟨by decide +kernel, rfl⟩
theorem iX4_addFeeder_33 : zI cX4_addFeeder 33 (.ifCond .ne 5) 3 36 := ⟨by decide +kernel, rfl⟩
theorem fX4_30 : zFl RX4 30 4 11 := ⟨RX4, TX4, 16, rfl, by decide, (zmem 151 (by decide +kernel) (by decide +kernel)), u_inX4⟩
theorem fX4_36 : zFl RX4 36 4 13 := ⟨RX4, TX4, 16, rfl, by decide, (zmem 158 (by decide +kernel) (by decide +kernel)), u_inX4⟩
theorem iX4_addFeeder_79 : zI cX4_addFeeder 79 (.ireturn) 1 80 := ⟨by decide +kernel, rfl⟩
theorem iX4_addFeeder_78 : zI cX4_addFeeder 78 (.iconst 1) 1 79 := ⟨by decide +kernel, rfl⟩
theorem iX4_addFeeder_75 : zI cX4_addFeeder 75 (.putfield 55) 3 78 := ⟨by decide +kernel, rfl⟩
theorem iX4_addFeeder_74 : zI cX4_addFeeder 74 (.iadd) 1 75 := ⟨by decide +kernel, rfl⟩
theorem iX4_addFeeder_73 : zI cX4_addFeeder 73 (.iconst 1) 1 74 := ⟨by decide +kernel, rfl⟩
theorem iX4_addFeeder_70 : zI cX4_addFeeder 70 (.getfield 55) 3 73 := ⟨by decide +kernel, rfl⟩
theorem iX4_addFeeder_69 : zI cX4_addFeeder 69 (.dup) 1 70 := ⟨by decide +kernel, rfl⟩
theorem iX4_addFeeder_68 : zI cX4_addFeeder 68 (.aload_n 0) 1 69 := ⟨by decide +kernel, rfl⟩
theorem iX4_addFeeder_67 : zI cX4_addFeeder 67 (.iastore) 1 68 := ⟨by decide +kernel, rfl⟩
theorem iX4_addFeeder_66 : zI cX4_addFeeder 66 (.iload_n 3) 1 67 := ⟨by decide +kernel, rfl⟩
theorem iX4_addFeeder_63 : zI cX4_addFeeder 63 (.getfield 55) 3 66 := ⟨by decide +kernel, rfl⟩
theorem iX4_addFeeder_62 : zI cX4_addFeeder 62 (.aload_n 0) 1 63 := ⟨by decide +kernel, rfl⟩
theorem iX4_addFeeder_59 : zI cX4_addFeeder 59 (.getfield 36) 3 62 := ⟨by decide +kernel, rfl⟩
theorem iX4_addFeeder_58 : zI cX4_addFeeder 58 (.aload_n 0) 1 59 := ⟨by decide +kernel, rfl⟩
theorem iX4_addFeeder_57 : zI cX4_addFeeder 57 (.iastore) 1 58 := ⟨by decide +kernel, rfl⟩
theorem iX4_addFeeder_56 : zI cX4_addFeeder 56 (.iload_n 2) 1 57 := ⟨by decide +kernel, rfl⟩
theorem iX4_addFeeder_53 : zI cX4_addFeeder 53 (.getfield 55) 3 56 := ⟨by decide +kernel, rfl⟩
theorem iX4_addFeeder_52 : zI cX4_addFeeder 52 (.aload_n 0) 1 53 := ⟨by decide +kernel, rfl⟩
theorem iX4_addFeeder_49 : zI cX4_addFeeder 49 (.getfield 33) 3 52 := ⟨by decide +kernel, rfl⟩
theorem iX4_addFeeder_48 : zI cX4_addFeeder 48 (.aload_n 0) 1 49 := ⟨by decide +kernel, rfl⟩
theorem iX4_addFeeder_47 : zI cX4_addFeeder 47 (.iastore) 1 48 := ⟨by decide +kernel, rfl⟩
theorem iX4_addFeeder_46 : zI cX4_addFeeder 46 (.iload_n 1) 1 47 := ⟨by decide +kernel, rfl⟩
theorem iX4_addFeeder_43 : zI cX4_addFeeder 43 (.getfield 55) 3 46 := ⟨by decide +kernel, rfl⟩
theorem iX4_addFeeder_42 : zI cX4_addFeeder 42 (.aload_n 0) 1 43 := ⟨by decide +kernel, rfl⟩
theorem iX4_addFeeder_39 : zI cX4_addFeeder 39 (.getfield 30) 3 42 := ⟨by decide +kernel, rfl⟩
theorem iX4_addFeeder_38 : zI cX4_addFeeder 38 (.aload_n 0) 1 39 := ⟨by decide +kernel, rfl⟩
theorem iX4_addFeeder_29 : zI cX4_addFeeder 29 (.iconst 5) 1 30 := ⟨by decide +kernel, rfl⟩
theorem iX4_addFeeder_28 : zI cX4_addFeeder 28 (.iconst 0) 1 29 := ⟨by decide +kernel, rfl⟩
theorem iX4_addFeeder_27 : zI cX4_addFeeder 27 (.iload_n 3) 1 28 := ⟨by decide +kernel, rfl⟩
theorem iX4_addFeeder_19 : zI cX4_addFeeder 19 (.bipush 50) 2 21 := ⟨by decide +kernel, rfl⟩
theorem iX4_addFeeder_18 : zI cX4_addFeeder 18 (.iconst 1) 1 19 := ⟨by decide +kernel, rfl⟩
theorem iX4_addFeeder_17 : zI cX4_addFeeder 17 (.iload_n 2) 1 18 := ⟨by decide +kernel, rfl⟩
theorem iX4_addFeeder_10 : zI cX4_addFeeder 10 (.iload_n 1) 1 11 := ⟨by decide +kernel, rfl⟩
theorem iX4_addFeeder_9 : zI cX4_addFeeder 9 (.aload_n 0) 1 10 := ⟨by decide +kernel, rfl⟩
theorem iX4_addFeeder_4 : zI cX4_addFeeder 4 (.bipush 9) 2 6 := ⟨by decide +kernel, rfl⟩
theorem iX4_addFeeder_1 : zI cX4_addFeeder 1 (.getfield 55) 3 4 := ⟨by decide +kernel, rfl⟩
theorem iX4_addFeeder_0 : zI cX4_addFeeder 0 (.aload_n 0) 1 1 := ⟨by decide +kernel, rfl⟩
set_option maxHeartbeats 4000000 in
set_option maxRecDepth 100000 in
theorem m_Pl_addFeeder (p : Nat) (hp : isP p) (x1 : Int32) (x2 : Int32) (x3 : Int32) (h : zH) : zM yX4_addFeeder cX4_addFeeder 4 (some .boolean) 1 shX (fun ad => [.ref (ad p), .int x1, .int x2, .int x3]) h eI (Pl_addFeeder p x1 x2 x3 h) := by
  refine zM.of (by decide) (fun _ => rfl) (fun _ => Nat.le_of_ble_eq_true rfl) (fun X ad hnL C => ?_)
  show zG X ad shX eI 0 [some (.ref (ad p)), some (.int x1), some (.int x2), some (.int x3)] [] h _
  unfold Pl_addFeeder
  refine g_aload_n C iX4_addFeeder_0 rfl ?_
  refine g_getI C fX4_55 iX4_addFeeder_1 hp.1 rfl ?_
  refine g_bipush C 9 iX4_addFeeder_4 (by decide) ?_
  refine g_icmp_ge C 36 iX4_addFeeder_6 (by decide) (fun c6 => ?_) (fun c6 => ?_)
  · refine g_iconst C 0 iX4_addFeeder_36 (by decide) ?_
    exact g_zret C iX4_addFeeder_37 rfl rfl
  · refine g_aload_n C iX4_addFeeder_9 rfl ?_
    refine g_iload_n C iX4_addFeeder_10 rfl ?_
    refine g_callV C wX4_65 iX4_addFeeder_11 (m_Pl_isBus p hp x1 h) (by decide) hp.1 rfl rfl rfl rfl (Nat.le_of_ble_eq_true rfl) (fun r => ?_)
    show zG X ad shX eI 14 [some (.ref (ad p)), some (.int x1), some (.int x2), some (.int x3)] [.int r] h _
    refine g_if_eq C 36 iX4_addFeeder_14 (by decide) (fun c14 => ?_) (fun c14 => ?_)
    · refine g_iconst C 0 iX4_addFeeder_36 (by decide) ?_
      exact g_zret C iX4_addFeeder_37 rfl rfl
    · refine g_iload_n C iX4_addFeeder_17 rfl ?_
      refine g_iconst C 1 iX4_addFeeder_18 (by decide) ?_
      refine g_bipush C 50 iX4_addFeeder_19 (by decide) ?_
      refine g_callS C wX4_61 iX4_addFeeder_21 (m_Pl_isFrom x2 1 50 h) (by decide) rfl rfl rfl (Nat.le_of_ble_eq_true rfl) (fun r_1 => ?_)
      show zG X ad shX eI 24 [some (.ref (ad p)), some (.int x1), some (.int x2), some (.int x3)] [.int r_1] h _
      refine g_if_eq C 36 iX4_addFeeder_24 (by decide) (fun c24 => ?_) (fun c24 => ?_)
      · refine g_iconst C 0 iX4_addFeeder_36 (by decide) ?_
        exact g_zret C iX4_addFeeder_37 rfl rfl
      · refine g_iload_n C iX4_addFeeder_27 rfl ?_
        refine g_iconst C 0 iX4_addFeeder_28 (by decide) ?_
        refine g_iconst C 5 iX4_addFeeder_29 (by decide) ?_
        refine g_callS C wX4_61 iX4_addFeeder_30 (m_Pl_isFrom x3 0 5 h) (by decide) rfl rfl rfl (Nat.le_of_ble_eq_true rfl) (fun r_2 => ?_)
        show zG X ad shX eI 33 [some (.ref (ad p)), some (.int x1), some (.int x2), some (.int x3)] [.int r_2] h _
        refine g_if_ne C 38 iX4_addFeeder_33 (by decide) (fun c33 => ?_) (fun c33 => ?_)
        · refine g_iconst C 0 iX4_addFeeder_36 (by decide) ?_
          exact g_zret C iX4_addFeeder_37 rfl rfl
        · refine g_aload_n C iX4_addFeeder_38 rfl ?_
          refine g_getR (b := (p + 7)) C fX4_30 iX4_addFeeder_39 hp.1 rfl ?_
          refine g_aload_n C iX4_addFeeder_42 rfl ?_
          refine g_getI C fX4_55 iX4_addFeeder_43 hp.1 rfl ?_
          refine g_iload_n C iX4_addFeeder_46 rfl ?_
          refine g_iastore C iX4_addFeeder_47 hp.2.2.2.2.2.2.2.1 (fun h_1 => ?_)
          refine g_aload_n C iX4_addFeeder_48 rfl ?_
          refine g_getR (b := (p + 8)) C fX4_33 iX4_addFeeder_49 hp.1 rfl ?_
          refine g_aload_n C iX4_addFeeder_52 rfl ?_
          refine g_getI C fX4_55 iX4_addFeeder_53 hp.1 rfl ?_
          refine g_iload_n C iX4_addFeeder_56 rfl ?_
          refine g_iastore C iX4_addFeeder_57 hp.2.2.2.2.2.2.2.2.1 (fun h_2 => ?_)
          refine g_aload_n C iX4_addFeeder_58 rfl ?_
          refine g_getR (b := (p + 9)) C fX4_36 iX4_addFeeder_59 hp.1 rfl ?_
          refine g_aload_n C iX4_addFeeder_62 rfl ?_
          refine g_getI C fX4_55 iX4_addFeeder_63 hp.1 rfl ?_
          refine g_iload_n C iX4_addFeeder_66 rfl ?_
          refine g_iastore C iX4_addFeeder_67 hp.2.2.2.2.2.2.2.2.2.1 (fun h_3 => ?_)
          refine g_aload_n C iX4_addFeeder_68 rfl ?_
          refine g_dup C iX4_addFeeder_69 rfl ?_
          refine g_getI C fX4_55 iX4_addFeeder_70 hp.1 rfl ?_
          refine g_iconst C 1 iX4_addFeeder_73 (by decide) ?_
          refine g_iadd C iX4_addFeeder_74 ?_
          refine g_putI C pX4_55 iX4_addFeeder_75 hp.1 rfl (fun h_4 => ?_)
          refine g_iconst C 1 iX4_addFeeder_78 (by decide) ?_
          exact g_zret C iX4_addFeeder_79 rfl rfl

theorem iX4_setRow_4 : zI cX4_setRow 4 (.ifCond .eq 21) 3 7 := ⟨by decide +kernel, rfl⟩
theorem iX4_setRow_26 : zI cX4_setRow 26 (.ireturn) 1 27 := ⟨by decide +kernel, rfl⟩
theorem iX4_setRow_25 : zI cX4_setRow 25 (.iconst 0) 1 26 := ⟨by decide +kernel, rfl⟩
set_option maxRecDepth 100000 in
theorem wX4_72 : zCs RX4 72 yX4_isMark cX4_isMark 2 (some .boolean) 2 := ⟨⟨(zmem 403 (by decide +kernel) (by decide +kernel)), (zmem 66 (by decide +kernel) (by decide +kernel)), (zmem 405 rfl rfl), ⟨by decide, by decide, by decide +kernel⟩, by decide⟩, (zmem 404 (by decide +kernel) (by decide +kernel))⟩
theorem iX4_setRow_9 : zI cX4_setRow 9 (.invokestatic 72) 3 12 := ⟨by decide +kernel, rfl⟩
theorem iX4_setRow_12 : zI cX4_setRow 12 (.ifCond .eq 13) 3 15 := ⟨by decide +kernel, rfl⟩
theorem iX4_setRow_19 : zI cX4_setRow 19 (.invokestatic 61) 3 22 := ⟨by decide +kernel, rfl⟩
theorem iX4_setRow_22 : zI cX4_setRow 22 (.ifCond .ne 5) 3 25 := ⟨by decide +kernel, rfl⟩
theorem iX4_setRow_42 : zI cX4_setRow 42 (.ireturn) 1 43 := ⟨by decide +kernel, rfl⟩
theorem iX4_setRow_41 : zI cX4_setRow 41 (.iconst 1) 1 42 := ⟨by decide +kernel, rfl⟩
theorem iX4_setRow_40 : zI cX4_setRow 40 (.iastore) 1 41 := ⟨by decide +kernel, rfl⟩
theorem iX4_setRow_39 : zI cX4_setRow 39 (.iload_n 3) 1 40 := ⟨by decide +kernel, rfl⟩
theorem iX4_setRow_38 : zI cX4_setRow 38 (.iload_n 1) 1 39 := ⟨by decide +kernel, rfl⟩
theorem iX4_setRow_35 : zI cX4_setRow 35 (.getfield 42) 3 38 := ⟨by decide +kernel, rfl⟩
theorem iX4_setRow_34 : zI cX4_setRow 34 (.aload_n 0) 1 35 := ⟨by decide +kernel, rfl⟩
theorem iX4_setRow_33 : zI cX4_setRow 33 (.iastore) 1 34 := ⟨by decide +kernel, rfl⟩
theorem iX4_setRow_32 : zI cX4_setRow 32 (.iload_n 2) 1 33 := ⟨by decide +kernel, rfl⟩
theorem iX4_setRow_31 : zI cX4_setRow 31 (.iload_n 1) 1 32 := ⟨by decide +kernel, rfl⟩
theorem iX4_setRow_28 : zI cX4_setRow 28 (.getfield 39) 3 31 := ⟨by decide +kernel, rfl⟩
theorem iX4_setRow_27 : zI cX4_setRow 27 (.aload_n 0) 1 28 := ⟨by decide +kernel, rfl⟩
theorem iX4_setRow_17 : zI cX4_setRow 17 (.bipush 9) 2 19 := ⟨by decide +kernel, rfl⟩
theorem iX4_setRow_16 : zI cX4_setRow 16 (.iconst 1) 1 17 := ⟨by decide +kernel, rfl⟩
theorem iX4_setRow_15 : zI cX4_setRow 15 (.iload_n 3) 1 16 := ⟨by decide +kernel, rfl⟩
theorem iX4_setRow_8 : zI cX4_setRow 8 (.iload_n 2) 1 9 := ⟨by decide +kernel, rfl⟩
theorem iX4_setRow_7 : zI cX4_setRow 7 (.iload_n 1) 1 8 := ⟨by decide +kernel, rfl⟩
theorem iX4_setRow_1 : zI cX4_setRow 1 (.getfield 45) 3 4 := ⟨by decide +kernel, rfl⟩
theorem iX4_setRow_0 : zI cX4_setRow 0 (.aload_n 0) 1 1 := ⟨by decide +kernel, rfl⟩
set_option maxHeartbeats 4000000 in
set_option maxRecDepth 100000 in
theorem m_Pl_setRow (p : Nat) (hp : isP p) (x1 : Int32) (x2 : Int32) (x3 : Int32) (h : zH) : zM yX4_setRow cX4_setRow 4 (some .boolean) 2 shX (fun ad => [.ref (ad p), .int x1, .int x2, .int x3]) h eI (Pl_setRow p x1 x2 x3 h) := by
  refine zM.of (by decide) (fun _ => rfl) (fun _ => Nat.le_of_ble_eq_true rfl) (fun X ad hnL C => ?_)
  show zG X ad shX eI 0 [some (.ref (ad p)), some (.int x1), some (.int x2), some (.int x3)] [] h _
  unfold Pl_setRow
  refine g_aload_n C iX4_setRow_0 rfl ?_
  refine g_getI C fX4_45 iX4_setRow_1 hp.1 rfl ?_
  refine g_if_eq C 25 iX4_setRow_4 (by decide) (fun c4 => ?_) (fun c4 => ?_)
  · refine g_iconst C 0 iX4_setRow_25 (by decide) ?_
    exact g_zret C iX4_setRow_26 rfl rfl
  · refine g_iload_n C iX4_setRow_7 rfl ?_
    refine g_iload_n C iX4_setRow_8 rfl ?_
    refine g_callS C wX4_72 iX4_setRow_9 (m_Pl_isMark x1 x2 h) (by decide) rfl rfl rfl (Nat.le_of_ble_eq_true rfl) (fun r => ?_)
    show zG X ad shX eI 12 [some (.ref (ad p)), some (.int x1), some (.int x2), some (.int x3)] [.int r] h _
    refine g_if_eq C 25 iX4_setRow_12 (by decide) (fun c12 => ?_) (fun c12 => ?_)
    · refine g_iconst C 0 iX4_setRow_25 (by decide) ?_
      exact g_zret C iX4_setRow_26 rfl rfl
    · refine g_iload_n C iX4_setRow_15 rfl ?_
      refine g_iconst C 1 iX4_setRow_16 (by decide) ?_
      refine g_bipush C 9 iX4_setRow_17 (by decide) ?_
      refine g_callS C wX4_61 iX4_setRow_19 (m_Pl_isFrom x3 1 9 h) (by decide) rfl rfl rfl (Nat.le_of_ble_eq_true rfl) (fun r_1 => ?_)
      show zG X ad shX eI 22 [some (.ref (ad p)), some (.int x1), some (.int x2), some (.int x3)] [.int r_1] h _
      refine g_if_ne C 27 iX4_setRow_22 (by decide) (fun c22 => ?_) (fun c22 => ?_)
      · refine g_iconst C 0 iX4_setRow_25 (by decide) ?_
        exact g_zret C iX4_setRow_26 rfl rfl
      · refine g_aload_n C iX4_setRow_27 rfl ?_
        refine g_getR (b := (p + 10)) C fX4_39 iX4_setRow_28 hp.1 rfl ?_
        refine g_iload_n C iX4_setRow_31 rfl ?_
        refine g_iload_n C iX4_setRow_32 rfl ?_
        refine g_iastore C iX4_setRow_33 hp.2.2.2.2.2.2.2.2.2.2.1 (fun h_1 => ?_)
        refine g_aload_n C iX4_setRow_34 rfl ?_
        refine g_getR (b := (p + 11)) C fX4_42 iX4_setRow_35 hp.1 rfl ?_
        refine g_iload_n C iX4_setRow_38 rfl ?_
        refine g_iload_n C iX4_setRow_39 rfl ?_
        refine g_iastore C iX4_setRow_40 hp.2.2.2.2.2.2.2.2.2.2.2 (fun h_2 => ?_)
        refine g_iconst C 1 iX4_setRow_41 (by decide) ?_
        exact g_zret C iX4_setRow_42 rfl rfl

theorem iX4_addStage_5 : zI cX4_addStage 5 (.if_icmp .ge 18) 3 8 := ⟨by decide +kernel, rfl⟩
theorem iX4_addStage_24 : zI cX4_addStage 24 (.ireturn) 1 25 := ⟨by decide +kernel, rfl⟩
theorem iX4_addStage_23 : zI cX4_addStage 23 (.iconst 0) 1 24 := ⟨by decide +kernel, rfl⟩
set_option maxRecDepth 100000 in
theorem wX4_69 : zCv RX4 69 yX4_setRow cX4_setRow 4 (some .boolean) 3 := ⟨⟨(zmem 399 (by decide +kernel) (by decide +kernel)), (zmem 66 (by decide +kernel) (by decide +kernel)), (zmem 402 rfl rfl), ⟨by decide, by decide, by decide +kernel⟩, by decide⟩, (zmem 401 (by decide +kernel) (by decide +kernel)), (zmem 2 (by decide +kernel) (by decide +kernel))⟩
theorem iX4_addStage_17 : zI cX4_addStage 17 (.invokevirtual 69) 3 20 := ⟨by decide +kernel, rfl⟩
theorem iX4_addStage_20 : zI cX4_addStage 20 (.ifCond .ne 5) 3 23 := ⟨by decide +kernel, rfl⟩
theorem iX4_addStage_36 : zI cX4_addStage 36 (.ireturn) 1 37 := ⟨by decide +kernel, rfl⟩
theorem iX4_addStage_35 : zI cX4_addStage 35 (.iconst 1) 1 36 := ⟨by decide +kernel, rfl⟩
theorem iX4_addStage_32 : zI cX4_addStage 32 (.putfield 58) 3 35 := ⟨by decide +kernel, rfl⟩
theorem iX4_addStage_31 : zI cX4_addStage 31 (.iadd) 1 32 := ⟨by decide +kernel, rfl⟩
theorem iX4_addStage_30 : zI cX4_addStage 30 (.iconst 1) 1 31 := ⟨by decide +kernel, rfl⟩
theorem iX4_addStage_27 : zI cX4_addStage 27 (.getfield 58) 3 30 := ⟨by decide +kernel, rfl⟩
theorem iX4_addStage_26 : zI cX4_addStage 26 (.dup) 1 27 := ⟨by decide +kernel, rfl⟩
theorem iX4_addStage_25 : zI cX4_addStage 25 (.aload_n 0) 1 26 := ⟨by decide +kernel, rfl⟩
theorem iX4_addStage_16 : zI cX4_addStage 16 (.iload_n 2) 1 17 := ⟨by decide +kernel, rfl⟩
theorem iX4_addStage_15 : zI cX4_addStage 15 (.iload_n 1) 1 16 := ⟨by decide +kernel, rfl⟩
theorem iX4_addStage_14 : zI cX4_addStage 14 (.iadd) 1 15 := ⟨by decide +kernel, rfl⟩
theorem iX4_addStage_13 : zI cX4_addStage 13 (.iconst 1) 1 14 := ⟨by decide +kernel, rfl⟩
theorem iX4_addStage_10 : zI cX4_addStage 10 (.getfield 58) 3 13 := ⟨by decide +kernel, rfl⟩
theorem iX4_addStage_9 : zI cX4_addStage 9 (.aload_n 0) 1 10 := ⟨by decide +kernel, rfl⟩
theorem iX4_addStage_8 : zI cX4_addStage 8 (.aload_n 0) 1 9 := ⟨by decide +kernel, rfl⟩
theorem iX4_addStage_4 : zI cX4_addStage 4 (.iconst 5) 1 5 := ⟨by decide +kernel, rfl⟩
theorem iX4_addStage_1 : zI cX4_addStage 1 (.getfield 58) 3 4 := ⟨by decide +kernel, rfl⟩
theorem iX4_addStage_0 : zI cX4_addStage 0 (.aload_n 0) 1 1 := ⟨by decide +kernel, rfl⟩
set_option maxHeartbeats 4000000 in
set_option maxRecDepth 100000 in
theorem m_Pl_addStage (p : Nat) (hp : isP p) (x1 : Int32) (x2 : Int32) (h : zH) : zM yX4_addStage cX4_addStage 3 (some .boolean) 3 shX (fun ad => [.ref (ad p), .int x1, .int x2]) h eI (Pl_addStage p x1 x2 h) := by
  refine zM.of (by decide) (fun _ => rfl) (fun _ => Nat.le_of_ble_eq_true rfl) (fun X ad hnL C => ?_)
  show zG X ad shX eI 0 [some (.ref (ad p)), some (.int x1), some (.int x2)] [] h _
  unfold Pl_addStage
  refine g_aload_n C iX4_addStage_0 rfl ?_
  refine g_getI C fX4_58 iX4_addStage_1 hp.1 rfl ?_
  refine g_iconst C 5 iX4_addStage_4 (by decide) ?_
  refine g_icmp_ge C 23 iX4_addStage_5 (by decide) (fun c5 => ?_) (fun c5 => ?_)
  · refine g_iconst C 0 iX4_addStage_23 (by decide) ?_
    exact g_zret C iX4_addStage_24 rfl rfl
  · refine g_aload_n C iX4_addStage_8 rfl ?_
    refine g_aload_n C iX4_addStage_9 rfl ?_
    refine g_getI C fX4_58 iX4_addStage_10 hp.1 rfl ?_
    refine g_iconst C 1 iX4_addStage_13 (by decide) ?_
    refine g_iadd C iX4_addStage_14 ?_
    refine g_iload_n C iX4_addStage_15 rfl ?_
    refine g_iload_n C iX4_addStage_16 rfl ?_
    refine g_callV C wX4_69 iX4_addStage_17 (m_Pl_setRow p hp ((h p 4) + 1) x1 x2 h) (by decide) hp.1 rfl rfl rfl rfl (Nat.le_of_ble_eq_true rfl) (fun r => ?_)
    show zG X ad shX eI 20 [some (.ref (ad p)), some (.int x1), some (.int x2)] [.int r.1] r.2 _
    refine g_if_ne C 25 iX4_addStage_20 (by decide) (fun c20 => ?_) (fun c20 => ?_)
    · refine g_iconst C 0 iX4_addStage_23 (by decide) ?_
      exact g_zret C iX4_addStage_24 rfl rfl
    · refine g_aload_n C iX4_addStage_25 rfl ?_
      refine g_dup C iX4_addStage_26 rfl ?_
      refine g_getI C fX4_58 iX4_addStage_27 hp.1 rfl ?_
      refine g_iconst C 1 iX4_addStage_30 (by decide) ?_
      refine g_iadd C iX4_addStage_31 ?_
      refine g_putI C pX4_58 iX4_addStage_32 hp.1 rfl (fun h_1 => ?_)
      refine g_iconst C 1 iX4_addStage_35 (by decide) ?_
      exact g_zret C iX4_addStage_36 rfl rfl

theorem iX4_setBack_4 : zI cX4_setBack 4 (.invokevirtual 69) 3 7 := ⟨by decide +kernel, rfl⟩
theorem iX4_setBack_7 : zI cX4_setBack 7 (.ireturn) 1 8 := ⟨by decide +kernel, rfl⟩
theorem iX4_setBack_3 : zI cX4_setBack 3 (.iload_n 2) 1 4 := ⟨by decide +kernel, rfl⟩
theorem iX4_setBack_2 : zI cX4_setBack 2 (.iload_n 1) 1 3 := ⟨by decide +kernel, rfl⟩
theorem iX4_setBack_1 : zI cX4_setBack 1 (.iconst 0) 1 2 := ⟨by decide +kernel, rfl⟩
theorem iX4_setBack_0 : zI cX4_setBack 0 (.aload_n 0) 1 1 := ⟨by decide +kernel, rfl⟩
set_option maxHeartbeats 4000000 in
set_option maxRecDepth 100000 in
theorem m_Pl_setBack (p : Nat) (hp : isP p) (x1 : Int32) (x2 : Int32) (h : zH) : zM yX4_setBack cX4_setBack 3 (some .boolean) 3 shX (fun ad => [.ref (ad p), .int x1, .int x2]) h eI (Pl_setBack p x1 x2 h) := by
  refine zM.of (by decide) (fun _ => rfl) (fun _ => Nat.le_of_ble_eq_true rfl) (fun X ad hnL C => ?_)
  show zG X ad shX eI 0 [some (.ref (ad p)), some (.int x1), some (.int x2)] [] h _
  unfold Pl_setBack
  refine g_aload_n C iX4_setBack_0 rfl ?_
  refine g_iconst C 0 iX4_setBack_1 (by decide) ?_
  refine g_iload_n C iX4_setBack_2 rfl ?_
  refine g_iload_n C iX4_setBack_3 rfl ?_
  refine g_callV C wX4_69 iX4_setBack_4 (m_Pl_setRow p hp 0 x1 x2 h) (by decide) hp.1 rfl rfl rfl rfl (Nat.le_of_ble_eq_true rfl) (fun r => ?_)
  show zG X ad shX eI 7 [some (.ref (ad p)), some (.int x1), some (.int x2)] [.int r.1] r.2 _
  exact g_zretG C iX4_setBack_7 rfl

theorem iX5_readNumbers_15 : zI cX5_readNumbers 15 (.if_icmp .gt 111) 3 18 := ⟨by decide +kernel, rfl⟩
theorem iX5_readNumbers_42 : zI cX5_readNumbers 42 (.if_icmp .ne 37) 3 45 := ⟨by decide +kernel, rfl⟩
theorem iX5_readNumbers_83 : zI cX5_readNumbers 83 (.if_icmp .lt 35) 3 86 := ⟨by decide +kernel, rfl⟩
theorem iX5_readNumbers_90 : zI cX5_readNumbers 90 (.if_icmp .gt 28) 3 93 := ⟨by decide +kernel, rfl⟩
theorem iX5_readNumbers_96 : zI cX5_readNumbers 96 (.if_icmp .ge 22) 3 99 := ⟨by decide +kernel, rfl⟩
theorem iX5_readNumbers_123 : zI cX5_readNumbers 123 (.goto (-111)) 3 126 := ⟨by decide +kernel, rfl⟩
theorem iX5_readNumbers_120 : zI cX5_readNumbers 120 (.iinc 7 1) 3 123 := ⟨by decide +kernel, rfl⟩
theorem iX5_readNumbers_115 : zI cX5_readNumbers 115 (.goto 5) 3 118 := ⟨by decide +kernel, rfl⟩
theorem iX5_readNumbers_112 : zI cX5_readNumbers 112 (.iinc 5 1) 3 115 := ⟨by decide +kernel, rfl⟩
theorem iX5_readNumbers_110 : zI cX5_readNumbers 110 (.istore 6) 2 112 := ⟨by decide +kernel, rfl⟩
theorem iX5_readNumbers_109 : zI cX5_readNumbers 109 (.isub) 1 110 := ⟨by decide +kernel, rfl⟩
theorem iX5_readNumbers_107 : zI cX5_readNumbers 107 (.bipush 48) 2 109 := ⟨by decide +kernel, rfl⟩
theorem iX5_readNumbers_106 : zI cX5_readNumbers 106 (.iadd) 1 107 := ⟨by decide +kernel, rfl⟩
theorem iX5_readNumbers_104 : zI cX5_readNumbers 104 (.iload 8) 2 106 := ⟨by decide +kernel, rfl⟩
theorem iX5_readNumbers_103 : zI cX5_readNumbers 103 (.imul) 1 104 := ⟨by decide +kernel, rfl⟩
theorem iX5_readNumbers_101 : zI cX5_readNumbers 101 (.bipush 10) 2 103 := ⟨by decide +kernel, rfl⟩
theorem iX5_readNumbers_99 : zI cX5_readNumbers 99 (.iload 6) 2 101 := ⟨by decide +kernel, rfl⟩
theorem iX5_readNumbers_95 : zI cX5_readNumbers 95 (.iconst 4) 1 96 := ⟨by decide +kernel, rfl⟩
theorem iX5_readNumbers_93 : zI cX5_readNumbers 93 (.iload 5) 2 95 := ⟨by decide +kernel, rfl⟩
theorem iX5_readNumbers_88 : zI cX5_readNumbers 88 (.bipush 57) 2 90 := ⟨by decide +kernel, rfl⟩
theorem iX5_readNumbers_86 : zI cX5_readNumbers 86 (.iload 8) 2 88 := ⟨by decide +kernel, rfl⟩
theorem iX5_readNumbers_81 : zI cX5_readNumbers 81 (.bipush 48) 2 83 := ⟨by decide +kernel, rfl⟩
theorem iX5_readNumbers_79 : zI cX5_readNumbers 79 (.iload 8) 2 81 := ⟨by decide +kernel, rfl⟩
theorem iX5_readNumbers_47 : zI cX5_readNumbers 47 (.ifCond .eq 9) 3 50 := ⟨by decide +kernel, rfl⟩
theorem iX5_readNumbers_53 : zI cX5_readNumbers 53 (.if_icmp .lt 5) 3 56 := ⟨by decide +kernel, rfl⟩
theorem fX5_9 : zFl RX5 9 5 0 := ⟨RX5, TX5, 1, rfl, by decide, (zmem 109 (by decide +kernel) (by decide +kernel)), u_inX5⟩
theorem iX5_readNumbers_76 : zI cX5_readNumbers 76 (.goto 44) 3 79 := ⟨by decide +kernel, rfl⟩
theorem iX5_readNumbers_74 : zI cX5_readNumbers 74 (.istore 6) 2 76 := ⟨by decide +kernel, rfl⟩
theorem iX5_readNumbers_73 : zI cX5_readNumbers 73 (.iconst 0) 1 74 := ⟨by decide +kernel, rfl⟩
theorem iX5_readNumbers_71 : zI cX5_readNumbers 71 (.istore 5) 2 73 := ⟨by decide +kernel, rfl⟩
theorem iX5_readNumbers_70 : zI cX5_readNumbers 70 (.iconst 0) 1 71 := ⟨by decide +kernel, rfl⟩
theorem iX5_readNumbers_67 : zI cX5_readNumbers 67 (.iinc 4 1) 3 70 := ⟨by decide +kernel, rfl⟩
theorem iX5_readNumbers_66 : zI cX5_readNumbers 66 (.iastore) 1 67 := ⟨by decide +kernel, rfl⟩
theorem iX5_readNumbers_64 : zI cX5_readNumbers 64 (.iload 6) 2 66 := ⟨by decide +kernel, rfl⟩
theorem iX5_readNumbers_62 : zI cX5_readNumbers 62 (.iload 4) 2 64 := ⟨by decide +kernel, rfl⟩
theorem iX5_readNumbers_59 : zI cX5_readNumbers 59 (.getfield 9) 3 62 := ⟨by decide +kernel, rfl⟩
theorem iX5_readNumbers_58 : zI cX5_readNumbers 58 (.aload_n 0) 1 59 := ⟨by decide +kernel, rfl⟩
theorem iX5_readNumbers_52 : zI cX5_readNumbers 52 (.iconst 4) 1 53 := ⟨by decide +kernel, rfl⟩
theorem iX5_readNumbers_50 : zI cX5_readNumbers 50 (.iload 4) 2 52 := ⟨by decide +kernel, rfl⟩
theorem iX5_readNumbers_45 : zI cX5_readNumbers 45 (.iload 5) 2 47 := ⟨by decide +kernel, rfl⟩
theorem iX5_readNumbers_40 : zI cX5_readNumbers 40 (.bipush 44) 2 42 := ⟨by decide +kernel, rfl⟩
theorem iX5_readNumbers_38 : zI cX5_readNumbers 38 (.iload 8) 2 40 := ⟨by decide +kernel, rfl⟩
theorem iX5_readNumbers_36 : zI cX5_readNumbers 36 (.istore 8) 2 38 := ⟨by decide +kernel, rfl⟩
theorem iX5_readNumbers_21 : zI cX5_readNumbers 21 (.if_icmp .ge 13) 3 24 := ⟨by decide +kernel, rfl⟩
theorem iX5_readNumbers_34 : zI cX5_readNumbers 34 (.bipush 44) 2 36 := ⟨by decide +kernel, rfl⟩
theorem fX5_26 : zFl RX5 26 2 0 := ⟨RX2, TX2, 2, rfl, by decide, (zmem 93 (by decide +kernel) (by decide +kernel)), u_inX2⟩
theorem iX5_readNumbers_31 : zI cX5_readNumbers 31 (.goto 5) 3 34 := ⟨by decide +kernel, rfl⟩
theorem iX5_readNumbers_30 : zI cX5_readNumbers 30 (.iaload) 1 31 := ⟨by decide +kernel, rfl⟩
theorem iX5_readNumbers_28 : zI cX5_readNumbers 28 (.iload 7) 2 30 := ⟨by decide +kernel, rfl⟩
theorem iX5_readNumbers_25 : zI cX5_readNumbers 25 (.getfield 26) 3 28 := ⟨by decide +kernel, rfl⟩
theorem iX5_readNumbers_24 : zI cX5_readNumbers 24 (.aload_n 1) 1 25 := ⟨by decide +kernel, rfl⟩
theorem iX5_readNumbers_20 : zI cX5_readNumbers 20 (.iload_n 3) 1 21 := ⟨by decide +kernel, rfl⟩
theorem iX5_readNumbers_18 : zI cX5_readNumbers 18 (.iload 7) 2 20 := ⟨by decide +kernel, rfl⟩
theorem iX5_readNumbers_14 : zI cX5_readNumbers 14 (.iload_n 3) 1 15 := ⟨by decide +kernel, rfl⟩
theorem iX5_readNumbers_12 : zI cX5_readNumbers 12 (.iload 7) 2 14 := ⟨by decide +kernel, rfl⟩
theorem iX5_readNumbers_57 : zI cX5_readNumbers 57 (.ireturn) 1 58 := ⟨by decide +kernel, rfl⟩
theorem iX5_readNumbers_56 : zI cX5_readNumbers 56 (.iconst (-1)) 1 57 := ⟨by decide +kernel, rfl⟩
theorem iX5_readNumbers_119 : zI cX5_readNumbers 119 (.ireturn) 1 120 := ⟨by decide +kernel, rfl⟩
theorem iX5_readNumbers_118 : zI cX5_readNumbers 118 (.iconst (-1)) 1 119 := ⟨by decide +kernel, rfl⟩
theorem iX5_readNumbers_128 : zI cX5_readNumbers 128 (.ireturn) 1 129 := ⟨by decide +kernel, rfl⟩
theorem iX5_readNumbers_126 : zI cX5_readNumbers 126 (.iload 4) 2 128 := ⟨by decide +kernel, rfl⟩
theorem iX5_readNumbers_10 : zI cX5_readNumbers 10 (.istore 7) 2 12 := ⟨by decide +kernel, rfl⟩
theorem iX5_readNumbers_9 : zI cX5_readNumbers 9 (.iload_n 2) 1 10 := ⟨by decide +kernel, rfl⟩
theorem iX5_readNumbers_7 : zI cX5_readNumbers 7 (.istore 6) 2 9 := ⟨by decide +kernel, rfl⟩
theorem iX5_readNumbers_6 : zI cX5_readNumbers 6 (.iconst 0) 1 7 := ⟨by decide +kernel, rfl⟩
theorem iX5_readNumbers_4 : zI cX5_readNumbers 4 (.istore 5) 2 6 := ⟨by decide +kernel, rfl⟩
theorem iX5_readNumbers_3 : zI cX5_readNumbers 3 (.iconst 0) 1 4 := ⟨by decide +kernel, rfl⟩
theorem iX5_readNumbers_1 : zI cX5_readNumbers 1 (.istore 4) 2 3 := ⟨by decide +kernel, rfl⟩
theorem iX5_readNumbers_0 : zI cX5_readNumbers 0 (.iconst 0) 1 1 := ⟨by decide +kernel, rfl⟩
set_option maxHeartbeats 4000000 in
set_option maxRecDepth 100000 in
theorem m_Re_readNumbers (x2 : Int32) (x3 : Int32) (h : zH) : zM yX5_readNumbers cX5_readNumbers 9 (some .int) 0 shX (fun ad => [.ref (ad 3), .ref (ad 1), .int x2, .int x3]) h eI (Re_readNumbers x2 x3 h) := by
  refine zM.of (by decide) (fun _ => rfl) (fun _ => Nat.le_of_ble_eq_true rfl) (fun X ad hnL C => ?_)
  show zG X ad shX eI 0 [some (.ref (ad 3)), some (.ref (ad 1)), some (.int x2), some (.int x3), none, none, none, none, none] [] h _
  unfold Re_readNumbers
  refine g_iconst C 0 iX5_readNumbers_0 (by decide) ?_
  refine g_istore (lv' := [some (.ref (ad 3)), some (.ref (ad 1)), some (.int x2), some (.int x3), some (.int 0), none, none, none, none]) C hnL iX5_readNumbers_1 (by decide) rfl ?_
  refine g_iconst C 0 iX5_readNumbers_3 (by decide) ?_
  refine g_istore (lv' := [some (.ref (ad 3)), some (.ref (ad 1)), some (.int x2), some (.int x3), some (.int 0), some (.int 0), none, none, none]) C hnL iX5_readNumbers_4 (by decide) rfl ?_
  refine g_iconst C 0 iX5_readNumbers_6 (by decide) ?_
  refine g_istore (lv' := [some (.ref (ad 3)), some (.ref (ad 1)), some (.int x2), some (.int x3), some (.int 0), some (.int 0), some (.int 0), none, none]) C hnL iX5_readNumbers_7 (by decide) rfl ?_
  refine g_iload_n C iX5_readNumbers_9 rfl ?_
  refine g_istore (lv' := [some (.ref (ad 3)), some (.ref (ad 1)), some (.int x2), some (.int x3), some (.int 0), some (.int 0), some (.int 0), some (.int x2), none]) C hnL iX5_readNumbers_10 (by decide) rfl ?_
  have L12 : ∀ (k56 : zH → Option (Int32 × zH)), (∀ (hy : zH), zG X ad shX eI 56 [none, none, none, none, none, none, none, none, none] [] hy (k56 hy)) → ∀ (k118 : zH → Option (Int32 × zH)), (∀ (hy : zH), zG X ad shX eI 118 [none, none, none, none, none, none, none, none, none] [] hy (k118 hy)) → ∀ (k126 : Int32 → zH → Option (Int32 × zH)), (∀ (y4 : Int32) (hy : zH), zG X ad shX eI 126 [none, none, none, none, some (.int y4), none, none, none, none] [] hy (k126 y4 hy)) → ∀ (n : Nat) (x4 x5 x6 x7 : Int32) (h_1 : zH), zG X ad shX eI 12 [some (.ref (ad 3)), some (.ref (ad 1)), none, some (.int x3), some (.int x4), some (.int x5), some (.int x6), some (.int x7), none] [] h_1 (Re_readNumbers_L12 x3 k56 k118 k126 n x4 x5 x6 x7 h_1) := by
    intro k56 hk56 k118 hk118 k126 hk126 n
    induction n with
    | zero =>
      intro x4 x5 x6 x7 h_1
      exact g_none
    | succ n ih12 =>
      intro x4 x5 x6 x7 h_1
      rw [Re_readNumbers_L12]
      refine g_iload C iX5_readNumbers_12 rfl ?_
      refine g_iload_n C iX5_readNumbers_14 rfl ?_
      refine g_icmp_gt C 126 iX5_readNumbers_15 (by decide) (fun c15 => ?_) (fun c15 => ?_)
      · refine g_sub (lv' := [none, none, none, none, some (.int x4), none, none, none, none]) ⟨rfl, trivial⟩ ?_
        exact hk126 _ _
      · refine g_iload C iX5_readNumbers_18 rfl ?_
        refine g_iload_n C iX5_readNumbers_20 rfl ?_
        refine g_let (fun j36 ej36 => ?_)
        have hj36 : ∀ (v36 : Int32), zG X ad shX eI 36 [some (.ref (ad 3)), some (.ref (ad 1)), none, some (.int x3), some (.int x4), some (.int x5), some (.int x6), some (.int x7), none] [.int v36] h_1 (j36 v36) := by
          intro v36
          subst ej36
          refine g_istore (lv' := [some (.ref (ad 3)), some (.ref (ad 1)), none, some (.int x3), some (.int x4), some (.int x5), some (.int x6), some (.int x7), some (.int v36)]) C hnL iX5_readNumbers_36 (by decide) rfl ?_
          refine g_iload C iX5_readNumbers_38 rfl ?_
          refine g_bipush C 44 iX5_readNumbers_40 (by decide) ?_
          refine g_icmp_ne C 79 iX5_readNumbers_42 (by decide) (fun c42 => ?_) (fun c42 => ?_)
          · refine g_iload C iX5_readNumbers_45 rfl ?_
            refine g_if_eq C 56 iX5_readNumbers_47 (by decide) (fun c47 => ?_) (fun c47 => ?_)
            · refine g_sub (lv' := [none, none, none, none, none, none, none, none, none]) trivial ?_
              exact hk56 _
            · refine g_iload C iX5_readNumbers_50 rfl ?_
              refine g_iconst C 4 iX5_readNumbers_52 (by decide) ?_
              refine g_icmp_lt C 58 iX5_readNumbers_53 (by decide) (fun c53 => ?_) (fun c53 => ?_)
              · refine g_aload_n C iX5_readNumbers_58 rfl ?_
                refine g_getR (b := 4) C fX5_9 iX5_readNumbers_59 sh3 rfl ?_
                refine g_iload C iX5_readNumbers_62 rfl ?_
                refine g_iload C iX5_readNumbers_64 rfl ?_
                refine g_iastore C iX5_readNumbers_66 sh4 (fun h_2 => ?_)
                refine g_iinc (v := (x4 + 1)) (lv' := [some (.ref (ad 3)), some (.ref (ad 1)), none, some (.int x3), some (.int (x4 + 1)), some (.int x5), some (.int x6), some (.int x7), some (.int v36)]) C hnL iX5_readNumbers_67 (by decide) rfl rfl rfl ?_
                refine g_iconst C 0 iX5_readNumbers_70 (by decide) ?_
                refine g_istore (lv' := [some (.ref (ad 3)), some (.ref (ad 1)), none, some (.int x3), some (.int (x4 + 1)), some (.int 0), some (.int x6), some (.int x7), some (.int v36)]) C hnL iX5_readNumbers_71 (by decide) rfl ?_
                refine g_iconst C 0 iX5_readNumbers_73 (by decide) ?_
                refine g_istore (lv' := [some (.ref (ad 3)), some (.ref (ad 1)), none, some (.int x3), some (.int (x4 + 1)), some (.int 0), some (.int 0), some (.int x7), some (.int v36)]) C hnL iX5_readNumbers_74 (by decide) rfl ?_
                refine g_goto C 120 iX5_readNumbers_76 (by decide) ?_
                refine g_iinc (v := (x7 + 1)) (lv' := [some (.ref (ad 3)), some (.ref (ad 1)), none, some (.int x3), some (.int (x4 + 1)), some (.int 0), some (.int 0), some (.int (x7 + 1)), some (.int v36)]) C hnL iX5_readNumbers_120 (by decide) rfl rfl rfl ?_
                refine g_goto C 12 iX5_readNumbers_123 (by decide) ?_
                refine g_sub (lv' := [some (.ref (ad 3)), some (.ref (ad 1)), none, some (.int x3), some (.int (x4 + 1)), some (.int 0), some (.int 0), some (.int (x7 + 1)), none]) ⟨rfl, ⟨rfl, ⟨rfl, ⟨rfl, ⟨rfl, ⟨rfl, ⟨rfl, trivial⟩⟩⟩⟩⟩⟩⟩ ?_
                exact ih12 _ _ _ _ _
              · refine g_sub (lv' := [none, none, none, none, none, none, none, none, none]) trivial ?_
                exact hk56 _
          · refine g_iload C iX5_readNumbers_79 rfl ?_
            refine g_bipush C 48 iX5_readNumbers_81 (by decide) ?_
            refine g_icmp_lt C 118 iX5_readNumbers_83 (by decide) (fun c83 => ?_) (fun c83 => ?_)
            · refine g_sub (lv' := [none, none, none, none, none, none, none, none, none]) trivial ?_
              exact hk118 _
            · refine g_iload C iX5_readNumbers_86 rfl ?_
              refine g_bipush C 57 iX5_readNumbers_88 (by decide) ?_
              refine g_icmp_gt C 118 iX5_readNumbers_90 (by decide) (fun c90 => ?_) (fun c90 => ?_)
              · refine g_sub (lv' := [none, none, none, none, none, none, none, none, none]) trivial ?_
                exact hk118 _
              · refine g_iload C iX5_readNumbers_93 rfl ?_
                refine g_iconst C 4 iX5_readNumbers_95 (by decide) ?_
                refine g_icmp_ge C 118 iX5_readNumbers_96 (by decide) (fun c96 => ?_) (fun c96 => ?_)
                · refine g_sub (lv' := [none, none, none, none, none, none, none, none, none]) trivial ?_
                  exact hk118 _
                · refine g_iload C iX5_readNumbers_99 rfl ?_
                  refine g_bipush C 10 iX5_readNumbers_101 (by decide) ?_
                  refine g_imul C iX5_readNumbers_103 ?_
                  refine g_iload C iX5_readNumbers_104 rfl ?_
                  refine g_iadd C iX5_readNumbers_106 ?_
                  refine g_bipush C 48 iX5_readNumbers_107 (by decide) ?_
                  refine g_isub C iX5_readNumbers_109 ?_
                  refine g_top (fun x6_1 => ?_)
                  refine g_istore (lv' := [some (.ref (ad 3)), some (.ref (ad 1)), none, some (.int x3), some (.int x4), some (.int x5), some (.int x6_1), some (.int x7), some (.int v36)]) C hnL iX5_readNumbers_110 (by decide) rfl ?_
                  refine g_iinc (v := (x5 + 1)) (lv' := [some (.ref (ad 3)), some (.ref (ad 1)), none, some (.int x3), some (.int x4), some (.int (x5 + 1)), some (.int x6_1), some (.int x7), some (.int v36)]) C hnL iX5_readNumbers_112 (by decide) rfl rfl rfl ?_
                  refine g_goto C 120 iX5_readNumbers_115 (by decide) ?_
                  refine g_iinc (v := (x7 + 1)) (lv' := [some (.ref (ad 3)), some (.ref (ad 1)), none, some (.int x3), some (.int x4), some (.int (x5 + 1)), some (.int x6_1), some (.int (x7 + 1)), some (.int v36)]) C hnL iX5_readNumbers_120 (by decide) rfl rfl rfl ?_
                  refine g_goto C 12 iX5_readNumbers_123 (by decide) ?_
                  refine g_sub (lv' := [some (.ref (ad 3)), some (.ref (ad 1)), none, some (.int x3), some (.int x4), some (.int (x5 + 1)), some (.int x6_1), some (.int (x7 + 1)), none]) ⟨rfl, ⟨rfl, ⟨rfl, ⟨rfl, ⟨rfl, ⟨rfl, ⟨rfl, trivial⟩⟩⟩⟩⟩⟩⟩ ?_
                  exact ih12 _ _ _ _ _
        clear ej36
        refine g_icmp_ge C 34 iX5_readNumbers_21 (by decide) (fun c21 => ?_) (fun c21 => ?_)
        · refine g_bipush C 44 iX5_readNumbers_34 (by decide) ?_
          exact hj36 _
        · refine g_aload_n C iX5_readNumbers_24 rfl ?_
          refine g_getR (b := 2) C fX5_26 iX5_readNumbers_25 sh1 rfl ?_
          refine g_iload C iX5_readNumbers_28 rfl ?_
          refine g_iaload C iX5_readNumbers_30 sh2 ?_
          refine g_goto C 36 iX5_readNumbers_31 (by decide) ?_
          exact hj36 _
  refine g_sub (lv' := [some (.ref (ad 3)), some (.ref (ad 1)), none, some (.int x3), some (.int 0), some (.int 0), some (.int 0), some (.int x2), none]) ⟨rfl, ⟨rfl, ⟨rfl, ⟨rfl, ⟨rfl, ⟨rfl, ⟨rfl, trivial⟩⟩⟩⟩⟩⟩⟩ ?_
  refine L12 _ (fun h_3 => ?_) _ (fun h_4 => ?_) _ (fun x4_1 h_5 => ?_) 1000 _ _ _ _ _
  · show zG X ad shX eI 56 [none, none, none, none, none, none, none, none, none] [] h_3 _
    refine g_iconst C (-1) iX5_readNumbers_56 (by decide) ?_
    exact g_iret C iX5_readNumbers_57 rfl
  · show zG X ad shX eI 118 [none, none, none, none, none, none, none, none, none] [] h_4 _
    refine g_iconst C (-1) iX5_readNumbers_118 (by decide) ?_
    exact g_iret C iX5_readNumbers_119 rfl
  · show zG X ad shX eI 126 [none, none, none, none, some (.int x4_1), none, none, none, none] [] h_5 _
    refine g_iload C iX5_readNumbers_126 rfl ?_
    exact g_iret C iX5_readNumbers_128 rfl

set_option maxRecDepth 100000 in
theorem wX5_33 : zCv RX5 33 yX5_readNumbers cX5_readNumbers 9 (some .int) 3 := ⟨⟨(zmem 368 (by decide +kernel) (by decide +kernel)), (zmem 65 (by decide +kernel) (by decide +kernel)), (zmem 371 rfl rfl), ⟨by decide, by decide, by decide +kernel⟩, by decide⟩, (zmem 370 (by decide +kernel) (by decide +kernel)), (zmem 1 (by decide +kernel) (by decide +kernel))⟩
theorem iX5_takeItem_6 : zI cX5_takeItem 6 (.invokevirtual 33) 3 9 := ⟨by decide +kernel, rfl⟩
theorem iX5_takeItem_17 : zI cX5_takeItem 17 (.tableswitch 291 98 115 #[87, 291, 291, 291, 189, 291, 291, 291, 291, 291, 113, 291, 291, 291, 145, 291, 259, 227]) 87 104 := ⟨by decide +kernel, rfl⟩
theorem iX5_takeItem_107 : zI cX5_takeItem 107 (.if_icmp .ne 21) 3 110 := ⟨by decide +kernel, rfl⟩
theorem iX5_takeItem_129 : zI cX5_takeItem 129 (.ireturn) 1 130 := ⟨by decide +kernel, rfl⟩
theorem iX5_takeItem_128 : zI cX5_takeItem 128 (.iconst 0) 1 129 := ⟨by decide +kernel, rfl⟩
set_option maxRecDepth 100000 in
theorem wX5_37 : zCv RX5 37 yX4_addBuses cX4_addBuses 2 (some .boolean) 1 := ⟨⟨(zmem 372 (by decide +kernel) (by decide +kernel)), (zmem 66 (by decide +kernel) (by decide +kernel)), (zmem 375 rfl rfl), ⟨by decide, by decide, by decide +kernel⟩, by decide⟩, (zmem 373 (by decide +kernel) (by decide +kernel)), (zmem 374 (by decide +kernel) (by decide +kernel))⟩
theorem iX5_takeItem_118 : zI cX5_takeItem 118 (.invokevirtual 37) 3 121 := ⟨by decide +kernel, rfl⟩
theorem iX5_takeItem_121 : zI cX5_takeItem 121 (.ifCond .eq 7) 3 124 := ⟨by decide +kernel, rfl⟩
theorem iX5_takeItem_125 : zI cX5_takeItem 125 (.goto 4) 3 128 := ⟨by decide +kernel, rfl⟩
theorem iX5_takeItem_124 : zI cX5_takeItem 124 (.iconst 1) 1 125 := ⟨by decide +kernel, rfl⟩
theorem iX5_takeItem_117 : zI cX5_takeItem 117 (.iaload) 1 118 := ⟨by decide +kernel, rfl⟩
theorem iX5_takeItem_116 : zI cX5_takeItem 116 (.iconst 0) 1 117 := ⟨by decide +kernel, rfl⟩
theorem iX5_takeItem_113 : zI cX5_takeItem 113 (.getfield 9) 3 116 := ⟨by decide +kernel, rfl⟩
theorem iX5_takeItem_112 : zI cX5_takeItem 112 (.aload_n 0) 1 113 := ⟨by decide +kernel, rfl⟩
theorem iX5_takeItem_110 : zI cX5_takeItem 110 (.aload 4) 2 112 := ⟨by decide +kernel, rfl⟩
theorem iX5_takeItem_106 : zI cX5_takeItem 106 (.iconst 1) 1 107 := ⟨by decide +kernel, rfl⟩
theorem iX5_takeItem_104 : zI cX5_takeItem 104 (.iload 5) 2 106 := ⟨by decide +kernel, rfl⟩
theorem iX5_takeItem_209 : zI cX5_takeItem 209 (.if_icmp .ne 33) 3 212 := ⟨by decide +kernel, rfl⟩
theorem iX5_takeItem_243 : zI cX5_takeItem 243 (.ireturn) 1 244 := ⟨by decide +kernel, rfl⟩
theorem iX5_takeItem_242 : zI cX5_takeItem 242 (.iconst 0) 1 243 := ⟨by decide +kernel, rfl⟩
set_option maxRecDepth 100000 in
theorem wX5_49 : zCv RX5 49 yX4_addFeeder cX4_addFeeder 4 (some .boolean) 3 := ⟨⟨(zmem 391 (by decide +kernel) (by decide +kernel)), (zmem 66 (by decide +kernel) (by decide +kernel)), (zmem 394 rfl rfl), ⟨by decide, by decide, by decide +kernel⟩, by decide⟩, (zmem 392 (by decide +kernel) (by decide +kernel)), (zmem 393 (by decide +kernel) (by decide +kernel))⟩
theorem iX5_takeItem_232 : zI cX5_takeItem 232 (.invokevirtual 49) 3 235 := ⟨by decide +kernel, rfl⟩
theorem iX5_takeItem_235 : zI cX5_takeItem 235 (.ifCond .eq 7) 3 238 := ⟨by decide +kernel, rfl⟩
theorem iX5_takeItem_239 : zI cX5_takeItem 239 (.goto 4) 3 242 := ⟨by decide +kernel, rfl⟩
theorem iX5_takeItem_238 : zI cX5_takeItem 238 (.iconst 1) 1 239 := ⟨by decide +kernel, rfl⟩
theorem iX5_takeItem_231 : zI cX5_takeItem 231 (.iaload) 1 232 := ⟨by decide +kernel, rfl⟩
theorem iX5_takeItem_230 : zI cX5_takeItem 230 (.iconst 2) 1 231 := ⟨by decide +kernel, rfl⟩
theorem iX5_takeItem_227 : zI cX5_takeItem 227 (.getfield 9) 3 230 := ⟨by decide +kernel, rfl⟩
theorem iX5_takeItem_226 : zI cX5_takeItem 226 (.aload_n 0) 1 227 := ⟨by decide +kernel, rfl⟩
theorem iX5_takeItem_225 : zI cX5_takeItem 225 (.iaload) 1 226 := ⟨by decide +kernel, rfl⟩
theorem iX5_takeItem_224 : zI cX5_takeItem 224 (.iconst 1) 1 225 := ⟨by decide +kernel, rfl⟩
theorem iX5_takeItem_221 : zI cX5_takeItem 221 (.getfield 9) 3 224 := ⟨by decide +kernel, rfl⟩
theorem iX5_takeItem_220 : zI cX5_takeItem 220 (.aload_n 0) 1 221 := ⟨by decide +kernel, rfl⟩
theorem iX5_takeItem_219 : zI cX5_takeItem 219 (.iaload) 1 220 := ⟨by decide +kernel, rfl⟩
theorem iX5_takeItem_218 : zI cX5_takeItem 218 (.iconst 0) 1 219 := ⟨by decide +kernel, rfl⟩
theorem iX5_takeItem_215 : zI cX5_takeItem 215 (.getfield 9) 3 218 := ⟨by decide +kernel, rfl⟩
theorem iX5_takeItem_214 : zI cX5_takeItem 214 (.aload_n 0) 1 215 := ⟨by decide +kernel, rfl⟩
theorem iX5_takeItem_212 : zI cX5_takeItem 212 (.aload 4) 2 214 := ⟨by decide +kernel, rfl⟩
theorem iX5_takeItem_208 : zI cX5_takeItem 208 (.iconst 3) 1 209 := ⟨by decide +kernel, rfl⟩
theorem iX5_takeItem_206 : zI cX5_takeItem 206 (.iload 5) 2 208 := ⟨by decide +kernel, rfl⟩
theorem iX5_takeItem_133 : zI cX5_takeItem 133 (.if_icmp .ne 27) 3 136 := ⟨by decide +kernel, rfl⟩
theorem iX5_takeItem_161 : zI cX5_takeItem 161 (.ireturn) 1 162 := ⟨by decide +kernel, rfl⟩
theorem iX5_takeItem_160 : zI cX5_takeItem 160 (.iconst 0) 1 161 := ⟨by decide +kernel, rfl⟩
set_option maxRecDepth 100000 in
theorem wX5_41 : zCv RX5 41 yX4_addLink cX4_addLink 3 (some .boolean) 2 := ⟨⟨(zmem 379 (by decide +kernel) (by decide +kernel)), (zmem 66 (by decide +kernel) (by decide +kernel)), (zmem 382 rfl rfl), ⟨by decide, by decide, by decide +kernel⟩, by decide⟩, (zmem 380 (by decide +kernel) (by decide +kernel)), (zmem 381 (by decide +kernel) (by decide +kernel))⟩
theorem iX5_takeItem_150 : zI cX5_takeItem 150 (.invokevirtual 41) 3 153 := ⟨by decide +kernel, rfl⟩
theorem iX5_takeItem_153 : zI cX5_takeItem 153 (.ifCond .eq 7) 3 156 := ⟨by decide +kernel, rfl⟩
theorem iX5_takeItem_157 : zI cX5_takeItem 157 (.goto 4) 3 160 := ⟨by decide +kernel, rfl⟩
theorem iX5_takeItem_156 : zI cX5_takeItem 156 (.iconst 1) 1 157 := ⟨by decide +kernel, rfl⟩
theorem iX5_takeItem_149 : zI cX5_takeItem 149 (.iaload) 1 150 := ⟨by decide +kernel, rfl⟩
theorem iX5_takeItem_148 : zI cX5_takeItem 148 (.iconst 1) 1 149 := ⟨by decide +kernel, rfl⟩
theorem iX5_takeItem_145 : zI cX5_takeItem 145 (.getfield 9) 3 148 := ⟨by decide +kernel, rfl⟩
theorem iX5_takeItem_144 : zI cX5_takeItem 144 (.aload_n 0) 1 145 := ⟨by decide +kernel, rfl⟩
theorem iX5_takeItem_143 : zI cX5_takeItem 143 (.iaload) 1 144 := ⟨by decide +kernel, rfl⟩
theorem iX5_takeItem_142 : zI cX5_takeItem 142 (.iconst 0) 1 143 := ⟨by decide +kernel, rfl⟩
theorem iX5_takeItem_139 : zI cX5_takeItem 139 (.getfield 9) 3 142 := ⟨by decide +kernel, rfl⟩
theorem iX5_takeItem_138 : zI cX5_takeItem 138 (.aload_n 0) 1 139 := ⟨by decide +kernel, rfl⟩
theorem iX5_takeItem_136 : zI cX5_takeItem 136 (.aload 4) 2 138 := ⟨by decide +kernel, rfl⟩
theorem iX5_takeItem_132 : zI cX5_takeItem 132 (.iconst 2) 1 133 := ⟨by decide +kernel, rfl⟩
theorem iX5_takeItem_130 : zI cX5_takeItem 130 (.iload 5) 2 132 := ⟨by decide +kernel, rfl⟩
theorem iX5_takeItem_165 : zI cX5_takeItem 165 (.if_icmp .ne 39) 3 168 := ⟨by decide +kernel, rfl⟩
theorem iX5_takeItem_205 : zI cX5_takeItem 205 (.ireturn) 1 206 := ⟨by decide +kernel, rfl⟩
theorem iX5_takeItem_204 : zI cX5_takeItem 204 (.iconst 0) 1 205 := ⟨by decide +kernel, rfl⟩
set_option maxRecDepth 100000 in
theorem wX5_45 : zCv RX5 45 yX4_addPlant cX4_addPlant 5 (some .boolean) 4 := ⟨⟨(zmem 387 (by decide +kernel) (by decide +kernel)), (zmem 66 (by decide +kernel) (by decide +kernel)), (zmem 390 rfl rfl), ⟨by decide, by decide, by decide +kernel⟩, by decide⟩, (zmem 388 (by decide +kernel) (by decide +kernel)), (zmem 389 (by decide +kernel) (by decide +kernel))⟩
theorem iX5_takeItem_194 : zI cX5_takeItem 194 (.invokevirtual 45) 3 197 := ⟨by decide +kernel, rfl⟩
theorem iX5_takeItem_197 : zI cX5_takeItem 197 (.ifCond .eq 7) 3 200 := ⟨by decide +kernel, rfl⟩
theorem iX5_takeItem_201 : zI cX5_takeItem 201 (.goto 4) 3 204 := ⟨by decide +kernel, rfl⟩
theorem iX5_takeItem_200 : zI cX5_takeItem 200 (.iconst 1) 1 201 := ⟨by decide +kernel, rfl⟩
theorem iX5_takeItem_193 : zI cX5_takeItem 193 (.iaload) 1 194 := ⟨by decide +kernel, rfl⟩
theorem iX5_takeItem_192 : zI cX5_takeItem 192 (.iconst 3) 1 193 := ⟨by decide +kernel, rfl⟩
theorem iX5_takeItem_189 : zI cX5_takeItem 189 (.getfield 9) 3 192 := ⟨by decide +kernel, rfl⟩
theorem iX5_takeItem_188 : zI cX5_takeItem 188 (.aload_n 0) 1 189 := ⟨by decide +kernel, rfl⟩
theorem iX5_takeItem_187 : zI cX5_takeItem 187 (.iaload) 1 188 := ⟨by decide +kernel, rfl⟩
theorem iX5_takeItem_186 : zI cX5_takeItem 186 (.iconst 2) 1 187 := ⟨by decide +kernel, rfl⟩
theorem iX5_takeItem_183 : zI cX5_takeItem 183 (.getfield 9) 3 186 := ⟨by decide +kernel, rfl⟩
theorem iX5_takeItem_182 : zI cX5_takeItem 182 (.aload_n 0) 1 183 := ⟨by decide +kernel, rfl⟩
theorem iX5_takeItem_181 : zI cX5_takeItem 181 (.iaload) 1 182 := ⟨by decide +kernel, rfl⟩
theorem iX5_takeItem_180 : zI cX5_takeItem 180 (.iconst 1) 1 181 := ⟨by decide +kernel, rfl⟩
theorem iX5_takeItem_177 : zI cX5_takeItem 177 (.getfield 9) 3 180 := ⟨by decide +kernel, rfl⟩
theorem iX5_takeItem_176 : zI cX5_takeItem 176 (.aload_n 0) 1 177 := ⟨by decide +kernel, rfl⟩
theorem iX5_takeItem_175 : zI cX5_takeItem 175 (.iaload) 1 176 := ⟨by decide +kernel, rfl⟩
theorem iX5_takeItem_174 : zI cX5_takeItem 174 (.iconst 0) 1 175 := ⟨by decide +kernel, rfl⟩
theorem iX5_takeItem_171 : zI cX5_takeItem 171 (.getfield 9) 3 174 := ⟨by decide +kernel, rfl⟩
theorem iX5_takeItem_170 : zI cX5_takeItem 170 (.aload_n 0) 1 171 := ⟨by decide +kernel, rfl⟩
theorem iX5_takeItem_168 : zI cX5_takeItem 168 (.aload 4) 2 170 := ⟨by decide +kernel, rfl⟩
theorem iX5_takeItem_164 : zI cX5_takeItem 164 (.iconst 4) 1 165 := ⟨by decide +kernel, rfl⟩
theorem iX5_takeItem_162 : zI cX5_takeItem 162 (.iload 5) 2 164 := ⟨by decide +kernel, rfl⟩
theorem iX5_takeItem_279 : zI cX5_takeItem 279 (.if_icmp .ne 27) 3 282 := ⟨by decide +kernel, rfl⟩
theorem iX5_takeItem_307 : zI cX5_takeItem 307 (.ireturn) 1 308 := ⟨by decide +kernel, rfl⟩
theorem iX5_takeItem_306 : zI cX5_takeItem 306 (.iconst 0) 1 307 := ⟨by decide +kernel, rfl⟩
set_option maxRecDepth 100000 in
theorem wX5_56 : zCv RX5 56 yX4_setBack cX4_setBack 3 (some .boolean) 2 := ⟨⟨(zmem 406 (by decide +kernel) (by decide +kernel)), (zmem 66 (by decide +kernel) (by decide +kernel)), (zmem 409 rfl rfl), ⟨by decide, by decide, by decide +kernel⟩, by decide⟩, (zmem 407 (by decide +kernel) (by decide +kernel)), (zmem 408 (by decide +kernel) (by decide +kernel))⟩
theorem iX5_takeItem_296 : zI cX5_takeItem 296 (.invokevirtual 56) 3 299 := ⟨by decide +kernel, rfl⟩
theorem iX5_takeItem_299 : zI cX5_takeItem 299 (.ifCond .eq 7) 3 302 := ⟨by decide +kernel, rfl⟩
theorem iX5_takeItem_303 : zI cX5_takeItem 303 (.goto 4) 3 306 := ⟨by decide +kernel, rfl⟩
theorem iX5_takeItem_302 : zI cX5_takeItem 302 (.iconst 1) 1 303 := ⟨by decide +kernel, rfl⟩
theorem iX5_takeItem_295 : zI cX5_takeItem 295 (.iaload) 1 296 := ⟨by decide +kernel, rfl⟩
theorem iX5_takeItem_294 : zI cX5_takeItem 294 (.iconst 1) 1 295 := ⟨by decide +kernel, rfl⟩
theorem iX5_takeItem_291 : zI cX5_takeItem 291 (.getfield 9) 3 294 := ⟨by decide +kernel, rfl⟩
theorem iX5_takeItem_290 : zI cX5_takeItem 290 (.aload_n 0) 1 291 := ⟨by decide +kernel, rfl⟩
theorem iX5_takeItem_289 : zI cX5_takeItem 289 (.iaload) 1 290 := ⟨by decide +kernel, rfl⟩
theorem iX5_takeItem_288 : zI cX5_takeItem 288 (.iconst 0) 1 289 := ⟨by decide +kernel, rfl⟩
theorem iX5_takeItem_285 : zI cX5_takeItem 285 (.getfield 9) 3 288 := ⟨by decide +kernel, rfl⟩
theorem iX5_takeItem_284 : zI cX5_takeItem 284 (.aload_n 0) 1 285 := ⟨by decide +kernel, rfl⟩
theorem iX5_takeItem_282 : zI cX5_takeItem 282 (.aload 4) 2 284 := ⟨by decide +kernel, rfl⟩
theorem iX5_takeItem_278 : zI cX5_takeItem 278 (.iconst 2) 1 279 := ⟨by decide +kernel, rfl⟩
theorem iX5_takeItem_276 : zI cX5_takeItem 276 (.iload 5) 2 278 := ⟨by decide +kernel, rfl⟩
theorem iX5_takeItem_247 : zI cX5_takeItem 247 (.if_icmp .ne 27) 3 250 := ⟨by decide +kernel, rfl⟩
theorem iX5_takeItem_275 : zI cX5_takeItem 275 (.ireturn) 1 276 := ⟨by decide +kernel, rfl⟩
theorem iX5_takeItem_274 : zI cX5_takeItem 274 (.iconst 0) 1 275 := ⟨by decide +kernel, rfl⟩
set_option maxRecDepth 100000 in
theorem wX5_53 : zCv RX5 53 yX4_addStage cX4_addStage 3 (some .boolean) 2 := ⟨⟨(zmem 395 (by decide +kernel) (by decide +kernel)), (zmem 66 (by decide +kernel) (by decide +kernel)), (zmem 398 rfl rfl), ⟨by decide, by decide, by decide +kernel⟩, by decide⟩, (zmem 396 (by decide +kernel) (by decide +kernel)), (zmem 397 (by decide +kernel) (by decide +kernel))⟩
theorem iX5_takeItem_264 : zI cX5_takeItem 264 (.invokevirtual 53) 3 267 := ⟨by decide +kernel, rfl⟩
theorem iX5_takeItem_267 : zI cX5_takeItem 267 (.ifCond .eq 7) 3 270 := ⟨by decide +kernel, rfl⟩
theorem iX5_takeItem_271 : zI cX5_takeItem 271 (.goto 4) 3 274 := ⟨by decide +kernel, rfl⟩
theorem iX5_takeItem_270 : zI cX5_takeItem 270 (.iconst 1) 1 271 := ⟨by decide +kernel, rfl⟩
theorem iX5_takeItem_263 : zI cX5_takeItem 263 (.iaload) 1 264 := ⟨by decide +kernel, rfl⟩
theorem iX5_takeItem_262 : zI cX5_takeItem 262 (.iconst 1) 1 263 := ⟨by decide +kernel, rfl⟩
theorem iX5_takeItem_259 : zI cX5_takeItem 259 (.getfield 9) 3 262 := ⟨by decide +kernel, rfl⟩
theorem iX5_takeItem_258 : zI cX5_takeItem 258 (.aload_n 0) 1 259 := ⟨by decide +kernel, rfl⟩
theorem iX5_takeItem_257 : zI cX5_takeItem 257 (.iaload) 1 258 := ⟨by decide +kernel, rfl⟩
theorem iX5_takeItem_256 : zI cX5_takeItem 256 (.iconst 0) 1 257 := ⟨by decide +kernel, rfl⟩
theorem iX5_takeItem_253 : zI cX5_takeItem 253 (.getfield 9) 3 256 := ⟨by decide +kernel, rfl⟩
theorem iX5_takeItem_252 : zI cX5_takeItem 252 (.aload_n 0) 1 253 := ⟨by decide +kernel, rfl⟩
theorem iX5_takeItem_250 : zI cX5_takeItem 250 (.aload 4) 2 252 := ⟨by decide +kernel, rfl⟩
theorem iX5_takeItem_246 : zI cX5_takeItem 246 (.iconst 2) 1 247 := ⟨by decide +kernel, rfl⟩
theorem iX5_takeItem_244 : zI cX5_takeItem 244 (.iload 5) 2 246 := ⟨by decide +kernel, rfl⟩
theorem iX5_takeItem_309 : zI cX5_takeItem 309 (.ireturn) 1 310 := ⟨by decide +kernel, rfl⟩
theorem iX5_takeItem_308 : zI cX5_takeItem 308 (.iconst 0) 1 309 := ⟨by decide +kernel, rfl⟩
theorem iX5_takeItem_16 : zI cX5_takeItem 16 (.iaload) 1 17 := ⟨by decide +kernel, rfl⟩
theorem iX5_takeItem_15 : zI cX5_takeItem 15 (.iload_n 2) 1 16 := ⟨by decide +kernel, rfl⟩
theorem iX5_takeItem_12 : zI cX5_takeItem 12 (.getfield 26) 3 15 := ⟨by decide +kernel, rfl⟩
theorem iX5_takeItem_11 : zI cX5_takeItem 11 (.aload_n 1) 1 12 := ⟨by decide +kernel, rfl⟩
theorem iX5_takeItem_9 : zI cX5_takeItem 9 (.istore 5) 2 11 := ⟨by decide +kernel, rfl⟩
theorem iX5_takeItem_5 : zI cX5_takeItem 5 (.iload_n 3) 1 6 := ⟨by decide +kernel, rfl⟩
theorem iX5_takeItem_4 : zI cX5_takeItem 4 (.iadd) 1 5 := ⟨by decide +kernel, rfl⟩
theorem iX5_takeItem_3 : zI cX5_takeItem 3 (.iconst 1) 1 4 := ⟨by decide +kernel, rfl⟩
theorem iX5_takeItem_2 : zI cX5_takeItem 2 (.iload_n 2) 1 3 := ⟨by decide +kernel, rfl⟩
theorem iX5_takeItem_1 : zI cX5_takeItem 1 (.aload_n 1) 1 2 := ⟨by decide +kernel, rfl⟩
theorem iX5_takeItem_0 : zI cX5_takeItem 0 (.aload_n 0) 1 1 := ⟨by decide +kernel, rfl⟩
set_option maxHeartbeats 4000000 in
set_option maxRecDepth 100000 in
theorem m_Re_takeItem (x2 : Int32) (x3 : Int32) (p : Nat) (hp : isP p) (h : zH) : zM yX5_takeItem cX5_takeItem 6 (some .boolean) 4 shX (fun ad => [.ref (ad 3), .ref (ad 1), .int x2, .int x3, .ref (ad p)]) h eI (Re_takeItem x2 x3 p h) := by
  refine zM.of (by decide) (fun _ => rfl) (fun _ => Nat.le_of_ble_eq_true rfl) (fun X ad hnL C => ?_)
  show zG X ad shX eI 0 [some (.ref (ad 3)), some (.ref (ad 1)), some (.int x2), some (.int x3), some (.ref (ad p)), none] [] h _
  unfold Re_takeItem
  refine g_aload_n C iX5_takeItem_0 rfl ?_
  refine g_aload_n C iX5_takeItem_1 rfl ?_
  refine g_iload_n C iX5_takeItem_2 rfl ?_
  refine g_iconst C 1 iX5_takeItem_3 (by decide) ?_
  refine g_iadd C iX5_takeItem_4 ?_
  refine g_iload_n C iX5_takeItem_5 rfl ?_
  refine g_callV C wX5_33 iX5_takeItem_6 (m_Re_readNumbers (x2 + 1) x3 h) (by decide) sh3 rfl rfl rfl rfl (Nat.le_of_ble_eq_true rfl) (fun r => ?_)
  show zG X ad shX eI 9 [some (.ref (ad 3)), some (.ref (ad 1)), some (.int x2), some (.int x3), some (.ref (ad p)), none] [.int r.1] r.2 _
  refine g_istore (lv' := [some (.ref (ad 3)), some (.ref (ad 1)), some (.int x2), some (.int x3), some (.ref (ad p)), some (.int r.1)]) C hnL iX5_takeItem_9 (by decide) rfl ?_
  refine g_aload_n C iX5_takeItem_11 rfl ?_
  refine g_getR (b := 2) C fX5_26 iX5_takeItem_12 sh1 rfl ?_
  refine g_iload_n C iX5_takeItem_15 rfl ?_
  refine g_iaload C iX5_takeItem_16 sh2 ?_
  refine g_ite (fun c17 => ?_) (fun c17_98 => ?_)
  · refine g_tab C 104 iX5_takeItem_17 (by rw [c17]; decide +kernel) ?_
    refine g_iload C iX5_takeItem_104 rfl ?_
    refine g_iconst C 1 iX5_takeItem_106 (by decide) ?_
    refine g_icmp_ne C 128 iX5_takeItem_107 (by decide) (fun c107 => ?_) (fun c107 => ?_)
    · refine g_aload C iX5_takeItem_110 rfl ?_
      refine g_aload_n C iX5_takeItem_112 rfl ?_
      refine g_getR (b := 4) C fX5_9 iX5_takeItem_113 sh3 rfl ?_
      refine g_iconst C 0 iX5_takeItem_116 (by decide) ?_
      refine g_ialoadL C 0 iX5_takeItem_117 sh4 (by decide) (by decide) ?_
      refine g_callV C wX5_37 iX5_takeItem_118 (m_Pl_addBuses p hp (r.2 4 0) r.2) (by decide) hp.1 rfl rfl rfl rfl (Nat.le_of_ble_eq_true rfl) (fun r_1 => ?_)
      show zG X ad shX eI 121 [some (.ref (ad 3)), some (.ref (ad 1)), some (.int x2), some (.int x3), some (.ref (ad p)), some (.int r.1)] [.int r_1.1] r_1.2 _
      refine g_if_eq C 128 iX5_takeItem_121 (by decide) (fun c121 => ?_) (fun c121 => ?_)
      · refine g_iconst C 0 iX5_takeItem_128 (by decide) ?_
        exact g_zret C iX5_takeItem_129 rfl rfl
      · refine g_iconst C 1 iX5_takeItem_124 (by decide) ?_
        refine g_goto C 129 iX5_takeItem_125 (by decide) ?_
        exact g_zret C iX5_takeItem_129 rfl rfl
    · refine g_iconst C 0 iX5_takeItem_128 (by decide) ?_
      exact g_zret C iX5_takeItem_129 rfl rfl
  refine g_ite (fun c17 => ?_) (fun c17_102 => ?_)
  · refine g_tab C 206 iX5_takeItem_17 (by rw [c17]; decide +kernel) ?_
    refine g_iload C iX5_takeItem_206 rfl ?_
    refine g_iconst C 3 iX5_takeItem_208 (by decide) ?_
    refine g_icmp_ne C 242 iX5_takeItem_209 (by decide) (fun c209 => ?_) (fun c209 => ?_)
    · refine g_aload C iX5_takeItem_212 rfl ?_
      refine g_aload_n C iX5_takeItem_214 rfl ?_
      refine g_getR (b := 4) C fX5_9 iX5_takeItem_215 sh3 rfl ?_
      refine g_iconst C 0 iX5_takeItem_218 (by decide) ?_
      refine g_ialoadL C 0 iX5_takeItem_219 sh4 (by decide) (by decide) ?_
      refine g_aload_n C iX5_takeItem_220 rfl ?_
      refine g_getR (b := 4) C fX5_9 iX5_takeItem_221 sh3 rfl ?_
      refine g_iconst C 1 iX5_takeItem_224 (by decide) ?_
      refine g_ialoadL C 1 iX5_takeItem_225 sh4 (by decide) (by decide) ?_
      refine g_aload_n C iX5_takeItem_226 rfl ?_
      refine g_getR (b := 4) C fX5_9 iX5_takeItem_227 sh3 rfl ?_
      refine g_iconst C 2 iX5_takeItem_230 (by decide) ?_
      refine g_ialoadL C 2 iX5_takeItem_231 sh4 (by decide) (by decide) ?_
      refine g_callV C wX5_49 iX5_takeItem_232 (m_Pl_addFeeder p hp (r.2 4 0) (r.2 4 1) (r.2 4 2) r.2) (by decide) hp.1 rfl rfl rfl rfl (Nat.le_of_ble_eq_true rfl) (fun r_2 => ?_)
      show zG X ad shX eI 235 [some (.ref (ad 3)), some (.ref (ad 1)), some (.int x2), some (.int x3), some (.ref (ad p)), some (.int r.1)] [.int r_2.1] r_2.2 _
      refine g_if_eq C 242 iX5_takeItem_235 (by decide) (fun c235 => ?_) (fun c235 => ?_)
      · refine g_iconst C 0 iX5_takeItem_242 (by decide) ?_
        exact g_zret C iX5_takeItem_243 rfl rfl
      · refine g_iconst C 1 iX5_takeItem_238 (by decide) ?_
        refine g_goto C 243 iX5_takeItem_239 (by decide) ?_
        exact g_zret C iX5_takeItem_243 rfl rfl
    · refine g_iconst C 0 iX5_takeItem_242 (by decide) ?_
      exact g_zret C iX5_takeItem_243 rfl rfl
  refine g_ite (fun c17 => ?_) (fun c17_108 => ?_)
  · refine g_tab C 130 iX5_takeItem_17 (by rw [c17]; decide +kernel) ?_
    refine g_iload C iX5_takeItem_130 rfl ?_
    refine g_iconst C 2 iX5_takeItem_132 (by decide) ?_
    refine g_icmp_ne C 160 iX5_takeItem_133 (by decide) (fun c133 => ?_) (fun c133 => ?_)
    · refine g_aload C iX5_takeItem_136 rfl ?_
      refine g_aload_n C iX5_takeItem_138 rfl ?_
      refine g_getR (b := 4) C fX5_9 iX5_takeItem_139 sh3 rfl ?_
      refine g_iconst C 0 iX5_takeItem_142 (by decide) ?_
      refine g_ialoadL C 0 iX5_takeItem_143 sh4 (by decide) (by decide) ?_
      refine g_aload_n C iX5_takeItem_144 rfl ?_
      refine g_getR (b := 4) C fX5_9 iX5_takeItem_145 sh3 rfl ?_
      refine g_iconst C 1 iX5_takeItem_148 (by decide) ?_
      refine g_ialoadL C 1 iX5_takeItem_149 sh4 (by decide) (by decide) ?_
      refine g_callV C wX5_41 iX5_takeItem_150 (m_Pl_addLink p hp (r.2 4 0) (r.2 4 1) r.2) (by decide) hp.1 rfl rfl rfl rfl (Nat.le_of_ble_eq_true rfl) (fun r_3 => ?_)
      show zG X ad shX eI 153 [some (.ref (ad 3)), some (.ref (ad 1)), some (.int x2), some (.int x3), some (.ref (ad p)), some (.int r.1)] [.int r_3.1] r_3.2 _
      refine g_if_eq C 160 iX5_takeItem_153 (by decide) (fun c153 => ?_) (fun c153 => ?_)
      · refine g_iconst C 0 iX5_takeItem_160 (by decide) ?_
        exact g_zret C iX5_takeItem_161 rfl rfl
      · refine g_iconst C 1 iX5_takeItem_156 (by decide) ?_
        refine g_goto C 161 iX5_takeItem_157 (by decide) ?_
        exact g_zret C iX5_takeItem_161 rfl rfl
    · refine g_iconst C 0 iX5_takeItem_160 (by decide) ?_
      exact g_zret C iX5_takeItem_161 rfl rfl
  refine g_ite (fun c17 => ?_) (fun c17_112 => ?_)
  · refine g_tab C 162 iX5_takeItem_17 (by rw [c17]; decide +kernel) ?_
    refine g_iload C iX5_takeItem_162 rfl ?_
    refine g_iconst C 4 iX5_takeItem_164 (by decide) ?_
    refine g_icmp_ne C 204 iX5_takeItem_165 (by decide) (fun c165 => ?_) (fun c165 => ?_)
    · refine g_aload C iX5_takeItem_168 rfl ?_
      refine g_aload_n C iX5_takeItem_170 rfl ?_
      refine g_getR (b := 4) C fX5_9 iX5_takeItem_171 sh3 rfl ?_
      refine g_iconst C 0 iX5_takeItem_174 (by decide) ?_
      refine g_ialoadL C 0 iX5_takeItem_175 sh4 (by decide) (by decide) ?_
      refine g_aload_n C iX5_takeItem_176 rfl ?_
      refine g_getR (b := 4) C fX5_9 iX5_takeItem_177 sh3 rfl ?_
      refine g_iconst C 1 iX5_takeItem_180 (by decide) ?_
      refine g_ialoadL C 1 iX5_takeItem_181 sh4 (by decide) (by decide) ?_
      refine g_aload_n C iX5_takeItem_182 rfl ?_
      refine g_getR (b := 4) C fX5_9 iX5_takeItem_183 sh3 rfl ?_
      refine g_iconst C 2 iX5_takeItem_186 (by decide) ?_
      refine g_ialoadL C 2 iX5_takeItem_187 sh4 (by decide) (by decide) ?_
      refine g_aload_n C iX5_takeItem_188 rfl ?_
      refine g_getR (b := 4) C fX5_9 iX5_takeItem_189 sh3 rfl ?_
      refine g_iconst C 3 iX5_takeItem_192 (by decide) ?_
      refine g_ialoadL C 3 iX5_takeItem_193 sh4 (by decide) (by decide) ?_
      refine g_callV C wX5_45 iX5_takeItem_194 (m_Pl_addPlant p hp (r.2 4 0) (r.2 4 1) (r.2 4 2) (r.2 4 3) r.2) (by decide) hp.1 rfl rfl rfl rfl (Nat.le_of_ble_eq_true rfl) (fun r_4 => ?_)
      show zG X ad shX eI 197 [some (.ref (ad 3)), some (.ref (ad 1)), some (.int x2), some (.int x3), some (.ref (ad p)), some (.int r.1)] [.int r_4.1] r_4.2 _
      refine g_if_eq C 204 iX5_takeItem_197 (by decide) (fun c197 => ?_) (fun c197 => ?_)
      · refine g_iconst C 0 iX5_takeItem_204 (by decide) ?_
        exact g_zret C iX5_takeItem_205 rfl rfl
      · refine g_iconst C 1 iX5_takeItem_200 (by decide) ?_
        refine g_goto C 205 iX5_takeItem_201 (by decide) ?_
        exact g_zret C iX5_takeItem_205 rfl rfl
    · refine g_iconst C 0 iX5_takeItem_204 (by decide) ?_
      exact g_zret C iX5_takeItem_205 rfl rfl
  refine g_ite (fun c17 => ?_) (fun c17_114 => ?_)
  · refine g_tab C 276 iX5_takeItem_17 (by rw [c17]; decide +kernel) ?_
    refine g_iload C iX5_takeItem_276 rfl ?_
    refine g_iconst C 2 iX5_takeItem_278 (by decide) ?_
    refine g_icmp_ne C 306 iX5_takeItem_279 (by decide) (fun c279 => ?_) (fun c279 => ?_)
    · refine g_aload C iX5_takeItem_282 rfl ?_
      refine g_aload_n C iX5_takeItem_284 rfl ?_
      refine g_getR (b := 4) C fX5_9 iX5_takeItem_285 sh3 rfl ?_
      refine g_iconst C 0 iX5_takeItem_288 (by decide) ?_
      refine g_ialoadL C 0 iX5_takeItem_289 sh4 (by decide) (by decide) ?_
      refine g_aload_n C iX5_takeItem_290 rfl ?_
      refine g_getR (b := 4) C fX5_9 iX5_takeItem_291 sh3 rfl ?_
      refine g_iconst C 1 iX5_takeItem_294 (by decide) ?_
      refine g_ialoadL C 1 iX5_takeItem_295 sh4 (by decide) (by decide) ?_
      refine g_callV C wX5_56 iX5_takeItem_296 (m_Pl_setBack p hp (r.2 4 0) (r.2 4 1) r.2) (by decide) hp.1 rfl rfl rfl rfl (Nat.le_of_ble_eq_true rfl) (fun r_5 => ?_)
      show zG X ad shX eI 299 [some (.ref (ad 3)), some (.ref (ad 1)), some (.int x2), some (.int x3), some (.ref (ad p)), some (.int r.1)] [.int r_5.1] r_5.2 _
      refine g_if_eq C 306 iX5_takeItem_299 (by decide) (fun c299 => ?_) (fun c299 => ?_)
      · refine g_iconst C 0 iX5_takeItem_306 (by decide) ?_
        exact g_zret C iX5_takeItem_307 rfl rfl
      · refine g_iconst C 1 iX5_takeItem_302 (by decide) ?_
        refine g_goto C 307 iX5_takeItem_303 (by decide) ?_
        exact g_zret C iX5_takeItem_307 rfl rfl
    · refine g_iconst C 0 iX5_takeItem_306 (by decide) ?_
      exact g_zret C iX5_takeItem_307 rfl rfl
  refine g_ite (fun c17 => ?_) (fun c17_115 => ?_)
  · refine g_tab C 244 iX5_takeItem_17 (by rw [c17]; decide +kernel) ?_
    refine g_iload C iX5_takeItem_244 rfl ?_
    refine g_iconst C 2 iX5_takeItem_246 (by decide) ?_
    refine g_icmp_ne C 274 iX5_takeItem_247 (by decide) (fun c247 => ?_) (fun c247 => ?_)
    · refine g_aload C iX5_takeItem_250 rfl ?_
      refine g_aload_n C iX5_takeItem_252 rfl ?_
      refine g_getR (b := 4) C fX5_9 iX5_takeItem_253 sh3 rfl ?_
      refine g_iconst C 0 iX5_takeItem_256 (by decide) ?_
      refine g_ialoadL C 0 iX5_takeItem_257 sh4 (by decide) (by decide) ?_
      refine g_aload_n C iX5_takeItem_258 rfl ?_
      refine g_getR (b := 4) C fX5_9 iX5_takeItem_259 sh3 rfl ?_
      refine g_iconst C 1 iX5_takeItem_262 (by decide) ?_
      refine g_ialoadL C 1 iX5_takeItem_263 sh4 (by decide) (by decide) ?_
      refine g_callV C wX5_53 iX5_takeItem_264 (m_Pl_addStage p hp (r.2 4 0) (r.2 4 1) r.2) (by decide) hp.1 rfl rfl rfl rfl (Nat.le_of_ble_eq_true rfl) (fun r_6 => ?_)
      show zG X ad shX eI 267 [some (.ref (ad 3)), some (.ref (ad 1)), some (.int x2), some (.int x3), some (.ref (ad p)), some (.int r.1)] [.int r_6.1] r_6.2 _
      refine g_if_eq C 274 iX5_takeItem_267 (by decide) (fun c267 => ?_) (fun c267 => ?_)
      · refine g_iconst C 0 iX5_takeItem_274 (by decide) ?_
        exact g_zret C iX5_takeItem_275 rfl rfl
      · refine g_iconst C 1 iX5_takeItem_270 (by decide) ?_
        refine g_goto C 275 iX5_takeItem_271 (by decide) ?_
        exact g_zret C iX5_takeItem_275 rfl rfl
    · refine g_iconst C 0 iX5_takeItem_274 (by decide) ?_
      exact g_zret C iX5_takeItem_275 rfl rfl
  refine g_tab C 308 iX5_takeItem_17 ((zTg_def [98, 102, 108, 112, 114, 115] (List.forall_mem_cons.mpr ⟨fun z9 => c17_98 (Int32.toInt_inj.mp (z9.trans (by decide))), List.forall_mem_cons.mpr ⟨fun z9 => c17_102 (Int32.toInt_inj.mp (z9.trans (by decide))), List.forall_mem_cons.mpr ⟨fun z9 => c17_108 (Int32.toInt_inj.mp (z9.trans (by decide))), List.forall_mem_cons.mpr ⟨fun z9 => c17_112 (Int32.toInt_inj.mp (z9.trans (by decide))), List.forall_mem_cons.mpr ⟨fun z9 => c17_114 (Int32.toInt_inj.mp (z9.trans (by decide))), List.forall_mem_cons.mpr ⟨fun z9 => c17_115 (Int32.toInt_inj.mp (z9.trans (by decide))), fun _ h9 => by cases h9⟩⟩⟩⟩⟩⟩) (by decide +kernel)).trans (by decide)) ?_
  refine g_iconst C 0 iX5_takeItem_308 (by decide) ?_
  exact g_zret C iX5_takeItem_309 rfl rfl

set_option maxRecDepth 100000 in
theorem wX5_15 : zCv RX5 15 yX4_clear cX4_clear 1 none 0 := ⟨⟨(zmem 360 (by decide +kernel) (by decide +kernel)), (zmem 66 (by decide +kernel) (by decide +kernel)), (zmem 363 rfl rfl), ⟨by decide, by decide, by decide +kernel⟩, by decide⟩, (zmem 361 (by decide +kernel) (by decide +kernel)), (zmem 362 (by decide +kernel) (by decide +kernel))⟩
theorem iX5_read_1 : zI cX5_read 1 (.invokevirtual 15) 3 4 := ⟨by decide +kernel, rfl⟩
theorem fX5_20 : zFl RX5 20 2 1 := ⟨RX2, TX2, 2, rfl, by decide, (zmem 95 (by decide +kernel) (by decide +kernel)), u_inX2⟩
theorem iX5_read_15 : zI cX5_read 15 (.if_icmp .ge 40) 3 18 := ⟨by decide +kernel, rfl⟩
theorem iX5_read_27 : zI cX5_read 27 (.if_icmp .ne 22) 3 30 := ⟨by decide +kernel, rfl⟩
theorem iX5_read_52 : zI cX5_read 52 (.goto (-43)) 3 55 := ⟨by decide +kernel, rfl⟩
theorem iX5_read_49 : zI cX5_read 49 (.iinc 4 1) 3 52 := ⟨by decide +kernel, rfl⟩
set_option maxRecDepth 100000 in
theorem wX5_29 : zCv RX5 29 yX5_takeItem cX5_takeItem 6 (some .boolean) 4 := ⟨⟨(zmem 364 (by decide +kernel) (by decide +kernel)), (zmem 65 (by decide +kernel) (by decide +kernel)), (zmem 367 rfl rfl), ⟨by decide, by decide, by decide +kernel⟩, by decide⟩, (zmem 366 (by decide +kernel) (by decide +kernel)), (zmem 0 (by decide +kernel) (by decide +kernel))⟩
theorem iX5_read_36 : zI cX5_read 36 (.invokevirtual 29) 3 39 := ⟨by decide +kernel, rfl⟩
theorem iX5_read_39 : zI cX5_read 39 (.ifCond .ne 5) 3 42 := ⟨by decide +kernel, rfl⟩
theorem iX5_read_48 : zI cX5_read 48 (.istore_n 3) 1 49 := ⟨by decide +kernel, rfl⟩
theorem iX5_read_47 : zI cX5_read 47 (.iadd) 1 48 := ⟨by decide +kernel, rfl⟩
theorem iX5_read_46 : zI cX5_read 46 (.iconst 1) 1 47 := ⟨by decide +kernel, rfl⟩
theorem iX5_read_44 : zI cX5_read 44 (.iload 4) 2 46 := ⟨by decide +kernel, rfl⟩
theorem iX5_read_35 : zI cX5_read 35 (.aload_n 2) 1 36 := ⟨by decide +kernel, rfl⟩
theorem iX5_read_33 : zI cX5_read 33 (.iload 4) 2 35 := ⟨by decide +kernel, rfl⟩
theorem iX5_read_32 : zI cX5_read 32 (.iload_n 3) 1 33 := ⟨by decide +kernel, rfl⟩
theorem iX5_read_31 : zI cX5_read 31 (.aload_n 1) 1 32 := ⟨by decide +kernel, rfl⟩
theorem iX5_read_30 : zI cX5_read 30 (.aload_n 0) 1 31 := ⟨by decide +kernel, rfl⟩
theorem iX5_read_25 : zI cX5_read 25 (.bipush 59) 2 27 := ⟨by decide +kernel, rfl⟩
theorem iX5_read_24 : zI cX5_read 24 (.iaload) 1 25 := ⟨by decide +kernel, rfl⟩
theorem iX5_read_22 : zI cX5_read 22 (.iload 4) 2 24 := ⟨by decide +kernel, rfl⟩
theorem iX5_read_19 : zI cX5_read 19 (.getfield 26) 3 22 := ⟨by decide +kernel, rfl⟩
theorem iX5_read_18 : zI cX5_read 18 (.aload_n 1) 1 19 := ⟨by decide +kernel, rfl⟩
theorem iX5_read_12 : zI cX5_read 12 (.getfield 20) 3 15 := ⟨by decide +kernel, rfl⟩
theorem iX5_read_11 : zI cX5_read 11 (.aload_n 1) 1 12 := ⟨by decide +kernel, rfl⟩
theorem iX5_read_9 : zI cX5_read 9 (.iload 4) 2 11 := ⟨by decide +kernel, rfl⟩
theorem iX5_read_43 : zI cX5_read 43 (.ireturn) 1 44 := ⟨by decide +kernel, rfl⟩
theorem iX5_read_42 : zI cX5_read 42 (.iload_n 3) 1 43 := ⟨by decide +kernel, rfl⟩
theorem iX5_read_60 : zI cX5_read 60 (.if_icmp .ge 7) 3 63 := ⟨by decide +kernel, rfl⟩
theorem iX5_read_69 : zI cX5_read 69 (.ireturn) 1 70 := ⟨by decide +kernel, rfl⟩
theorem iX5_read_67 : zI cX5_read 67 (.bipush (-4)) 2 69 := ⟨by decide +kernel, rfl⟩
theorem iX5_read_64 : zI cX5_read 64 (.goto 5) 3 67 := ⟨by decide +kernel, rfl⟩
theorem iX5_read_63 : zI cX5_read 63 (.iload_n 3) 1 64 := ⟨by decide +kernel, rfl⟩
theorem iX5_read_57 : zI cX5_read 57 (.getfield 20) 3 60 := ⟨by decide +kernel, rfl⟩
theorem iX5_read_56 : zI cX5_read 56 (.aload_n 1) 1 57 := ⟨by decide +kernel, rfl⟩
theorem iX5_read_55 : zI cX5_read 55 (.iload_n 3) 1 56 := ⟨by decide +kernel, rfl⟩
theorem iX5_read_7 : zI cX5_read 7 (.istore 4) 2 9 := ⟨by decide +kernel, rfl⟩
theorem iX5_read_6 : zI cX5_read 6 (.iconst 0) 1 7 := ⟨by decide +kernel, rfl⟩
theorem iX5_read_5 : zI cX5_read 5 (.istore_n 3) 1 6 := ⟨by decide +kernel, rfl⟩
theorem iX5_read_4 : zI cX5_read 4 (.iconst 0) 1 5 := ⟨by decide +kernel, rfl⟩
theorem iX5_read_0 : zI cX5_read 0 (.aload_n 2) 1 1 := ⟨by decide +kernel, rfl⟩
set_option maxHeartbeats 4000000 in
set_option maxRecDepth 100000 in
theorem m_Re_read (p : Nat) (hp : isP p) (h : zH) : zM yX5_read cX5_read 5 (some .int) 5 shX (fun ad => [.ref (ad 3), .ref (ad 1), .ref (ad p)]) h eI (Re_read p h) := by
  refine zM.of (by decide) (fun _ => rfl) (fun _ => Nat.le_of_ble_eq_true rfl) (fun X ad hnL C => ?_)
  show zG X ad shX eI 0 [some (.ref (ad 3)), some (.ref (ad 1)), some (.ref (ad p)), none, none] [] h _
  unfold Re_read
  refine g_aload_n C iX5_read_0 rfl ?_
  refine g_callV C wX5_15 iX5_read_1 (m_Pl_clear p hp h) (by decide) hp.1 rfl rfl rfl rfl (Nat.le_of_ble_eq_true rfl) (fun h_1 => ?_)
  show zG X ad shX eI 4 [some (.ref (ad 3)), some (.ref (ad 1)), some (.ref (ad p)), none, none] [] h_1 _
  refine g_iconst C 0 iX5_read_4 (by decide) ?_
  refine g_istore_n (lv' := [some (.ref (ad 3)), some (.ref (ad 1)), some (.ref (ad p)), some (.int 0), none]) C hnL iX5_read_5 (by decide) rfl ?_
  refine g_iconst C 0 iX5_read_6 (by decide) ?_
  refine g_istore (lv' := [some (.ref (ad 3)), some (.ref (ad 1)), some (.ref (ad p)), some (.int 0), some (.int 0)]) C hnL iX5_read_7 (by decide) rfl ?_
  have L9 : ∀ (k42 : Int32 → zH → Option (Int32 × zH)), (∀ (y3 : Int32) (hy : zH), zG X ad shX eI 42 [none, none, none, some (.int y3), none] [] hy (k42 y3 hy)) → ∀ (k55 : Int32 → zH → Option (Int32 × zH)), (∀ (y3 : Int32) (hy : zH), zG X ad shX eI 55 [none, some (.ref (ad 1)), none, some (.int y3), none] [] hy (k55 y3 hy)) → ∀ (n : Nat) (x3 x4 : Int32) (h_2 : zH), zG X ad shX eI 9 [some (.ref (ad 3)), some (.ref (ad 1)), some (.ref (ad p)), some (.int x3), some (.int x4)] [] h_2 (Re_read_L9 p k42 k55 n x3 x4 h_2) := by
    intro k42 hk42 k55 hk55 n
    induction n with
    | zero =>
      intro x3 x4 h_2
      exact g_none
    | succ n ih9 =>
      intro x3 x4 h_2
      rw [Re_read_L9]
      refine g_iload C iX5_read_9 rfl ?_
      refine g_aload_n C iX5_read_11 rfl ?_
      refine g_getI C fX5_20 iX5_read_12 sh1 rfl ?_
      refine g_icmp_ge C 55 iX5_read_15 (by decide) (fun c15 => ?_) (fun c15 => ?_)
      · refine g_sub (lv' := [none, some (.ref (ad 1)), none, some (.int x3), none]) ⟨rfl, ⟨rfl, trivial⟩⟩ ?_
        exact hk55 _ _
      · refine g_aload_n C iX5_read_18 rfl ?_
        refine g_getR (b := 2) C fX5_26 iX5_read_19 sh1 rfl ?_
        refine g_iload C iX5_read_22 rfl ?_
        refine g_iaload C iX5_read_24 sh2 ?_
        refine g_bipush C 59 iX5_read_25 (by decide) ?_
        refine g_icmp_ne C 49 iX5_read_27 (by decide) (fun c27 => ?_) (fun c27 => ?_)
        · refine g_aload_n C iX5_read_30 rfl ?_
          refine g_aload_n C iX5_read_31 rfl ?_
          refine g_iload_n C iX5_read_32 rfl ?_
          refine g_iload C iX5_read_33 rfl ?_
          refine g_aload_n C iX5_read_35 rfl ?_
          refine g_callV C wX5_29 iX5_read_36 (m_Re_takeItem x3 x4 p hp h_2) (by decide) sh3 rfl rfl rfl rfl (Nat.le_of_ble_eq_true rfl) (fun r => ?_)
          show zG X ad shX eI 39 [some (.ref (ad 3)), some (.ref (ad 1)), some (.ref (ad p)), some (.int x3), some (.int x4)] [.int r.1] r.2 _
          refine g_if_ne C 44 iX5_read_39 (by decide) (fun c39 => ?_) (fun c39 => ?_)
          · refine g_sub (lv' := [none, none, none, some (.int x3), none]) ⟨rfl, trivial⟩ ?_
            exact hk42 _ _
          · refine g_iload C iX5_read_44 rfl ?_
            refine g_iconst C 1 iX5_read_46 (by decide) ?_
            refine g_iadd C iX5_read_47 ?_
            refine g_top (fun x3_1 => ?_)
            refine g_istore_n (lv' := [some (.ref (ad 3)), some (.ref (ad 1)), some (.ref (ad p)), some (.int x3_1), some (.int x4)]) C hnL iX5_read_48 (by decide) rfl ?_
            refine g_iinc (v := (x4 + 1)) (lv' := [some (.ref (ad 3)), some (.ref (ad 1)), some (.ref (ad p)), some (.int x3_1), some (.int (x4 + 1))]) C hnL iX5_read_49 (by decide) rfl rfl rfl ?_
            refine g_goto C 9 iX5_read_52 (by decide) ?_
            exact ih9 _ _ _
        · refine g_iinc (v := (x4 + 1)) (lv' := [some (.ref (ad 3)), some (.ref (ad 1)), some (.ref (ad p)), some (.int x3), some (.int (x4 + 1))]) C hnL iX5_read_49 (by decide) rfl rfl rfl ?_
          refine g_goto C 9 iX5_read_52 (by decide) ?_
          exact ih9 _ _ _
  refine L9 _ (fun x3_2 h_3 => ?_) _ (fun x3_3 h_4 => ?_) 1000 _ _ _
  · show zG X ad shX eI 42 [none, none, none, some (.int x3_2), none] [] h_3 _
    refine g_iload_n C iX5_read_42 rfl ?_
    exact g_iret C iX5_read_43 rfl
  · show zG X ad shX eI 55 [none, some (.ref (ad 1)), none, some (.int x3_3), none] [] h_4 _
    refine g_iload_n C iX5_read_55 rfl ?_
    refine g_aload_n C iX5_read_56 rfl ?_
    refine g_getI C fX5_20 iX5_read_57 sh1 rfl ?_
    refine g_icmp_ge C 67 iX5_read_60 (by decide) (fun c60 => ?_) (fun c60 => ?_)
    · refine g_bipush C (-4) iX5_read_67 (by decide) ?_
      exact g_iret C iX5_read_69 rfl
    · refine g_iload_n C iX5_read_63 rfl ?_
      refine g_goto C 69 iX5_read_64 (by decide) ?_
      exact g_iret C iX5_read_69 rfl

theorem iX6_write_3 : zI cX6_write 3 (.if_icmp .lt 9) 3 6 := ⟨by decide +kernel, rfl⟩
theorem iX6_write_13 : zI cX6_write 13 (.ireturn) 1 14 := ⟨by decide +kernel, rfl⟩
theorem iX6_write_12 : zI cX6_write 12 (.iconst (-1)) 1 13 := ⟨by decide +kernel, rfl⟩
theorem iX6_write_9 : zI cX6_write 9 (.if_icmp .le 5) 3 12 := ⟨by decide +kernel, rfl⟩
theorem fX6_12 : zFl RX6 12 6 0 := ⟨RX6, TX6, 9, rfl, by decide, (zmem 451 (by decide +kernel) (by decide +kernel)), u_inX6⟩
set_option maxRecDepth 100000 in
theorem wX6_76 : zCv RX6 76 yX2_add cX2_add 2 (some .boolean) 1 := ⟨⟨(zmem 352 (by decide +kernel) (by decide +kernel)), (zmem 64 (by decide +kernel) (by decide +kernel)), (zmem 355 rfl rfl), ⟨by decide, by decide, by decide +kernel⟩, by decide⟩, (zmem 353 (by decide +kernel) (by decide +kernel)), (zmem 354 (by decide +kernel) (by decide +kernel))⟩
theorem iX6_write_19 : zI cX6_write 19 (.invokevirtual 76) 3 22 := ⟨by decide +kernel, rfl⟩
theorem iX6_write_22 : zI cX6_write 22 (.ifCond .eq 13) 3 25 := ⟨by decide +kernel, rfl⟩
theorem iX6_write_37 : zI cX6_write 37 (.ireturn) 1 38 := ⟨by decide +kernel, rfl⟩
theorem iX6_write_35 : zI cX6_write 35 (.bipush (-3)) 2 37 := ⟨by decide +kernel, rfl⟩
theorem fX6_90 : zFl RX6 90 2 1 := ⟨RX2, TX2, 2, rfl, by decide, (zmem 96 (by decide +kernel) (by decide +kernel)), u_inX2⟩
theorem iX6_write_32 : zI cX6_write 32 (.goto 5) 3 35 := ⟨by decide +kernel, rfl⟩
theorem iX6_write_29 : zI cX6_write 29 (.getfield 90) 3 32 := ⟨by decide +kernel, rfl⟩
theorem iX6_write_26 : zI cX6_write 26 (.getfield 12) 3 29 := ⟨by decide +kernel, rfl⟩
theorem iX6_write_25 : zI cX6_write 25 (.aload_n 0) 1 26 := ⟨by decide +kernel, rfl⟩
theorem iX6_write_18 : zI cX6_write 18 (.iload_n 1) 1 19 := ⟨by decide +kernel, rfl⟩
theorem iX6_write_15 : zI cX6_write 15 (.getfield 12) 3 18 := ⟨by decide +kernel, rfl⟩
theorem iX6_write_14 : zI cX6_write 14 (.aload_n 0) 1 15 := ⟨by decide +kernel, rfl⟩
theorem iX6_write_7 : zI cX6_write 7 (.bipush 126) 2 9 := ⟨by decide +kernel, rfl⟩
theorem iX6_write_6 : zI cX6_write 6 (.iload_n 1) 1 7 := ⟨by decide +kernel, rfl⟩
theorem iX6_write_1 : zI cX6_write 1 (.bipush 32) 2 3 := ⟨by decide +kernel, rfl⟩
theorem iX6_write_0 : zI cX6_write 0 (.iload_n 1) 1 1 := ⟨by decide +kernel, rfl⟩
set_option maxHeartbeats 4000000 in
set_option maxRecDepth 100000 in
theorem m_SS_write (x1 : Int32) (h : zH) : zM yX6_write cX6_write 2 (some .int) 1 shX (fun ad => [.ref (ad 0), .int x1]) h eI (SS_write x1 h) := by
  refine zM.of (by decide) (fun _ => rfl) (fun _ => Nat.le_of_ble_eq_true rfl) (fun X ad hnL C => ?_)
  show zG X ad shX eI 0 [some (.ref (ad 0)), some (.int x1)] [] h _
  unfold SS_write
  refine g_iload_n C iX6_write_0 rfl ?_
  refine g_bipush C 32 iX6_write_1 (by decide) ?_
  refine g_icmp_lt C 12 iX6_write_3 (by decide) (fun c3 => ?_) (fun c3 => ?_)
  · refine g_iconst C (-1) iX6_write_12 (by decide) ?_
    exact g_iret C iX6_write_13 rfl
  · refine g_iload_n C iX6_write_6 rfl ?_
    refine g_bipush C 126 iX6_write_7 (by decide) ?_
    refine g_icmp_le C 14 iX6_write_9 (by decide) (fun c9 => ?_) (fun c9 => ?_)
    · refine g_aload_n C iX6_write_14 rfl ?_
      refine g_getR (b := 1) C fX6_12 iX6_write_15 sh0 rfl ?_
      refine g_iload_n C iX6_write_18 rfl ?_
      refine g_callV C wX6_76 iX6_write_19 (m_Le_add x1 h) (by decide) sh1 rfl rfl rfl rfl (Nat.le_of_ble_eq_true rfl) (fun r => ?_)
      show zG X ad shX eI 22 [some (.ref (ad 0)), some (.int x1)] [.int r.1] r.2 _
      refine g_if_eq C 35 iX6_write_22 (by decide) (fun c22 => ?_) (fun c22 => ?_)
      · refine g_bipush C (-3) iX6_write_35 (by decide) ?_
        exact g_iret C iX6_write_37 rfl
      · refine g_aload_n C iX6_write_25 rfl ?_
        refine g_getR (b := 1) C fX6_12 iX6_write_26 sh0 rfl ?_
        refine g_getI C fX6_90 iX6_write_29 sh1 rfl ?_
        refine g_goto C 37 iX6_write_32 (by decide) ?_
        exact g_iret C iX6_write_37 rfl
    · refine g_iconst C (-1) iX6_write_12 (by decide) ?_
      exact g_iret C iX6_write_13 rfl

set_option maxRecDepth 100000 in
theorem wX6_84 : zCv RX6 84 yX2_clear cX2_clear 1 none 0 := ⟨⟨(zmem 410 (by decide +kernel) (by decide +kernel)), (zmem 64 (by decide +kernel) (by decide +kernel)), (zmem 413 rfl rfl), ⟨by decide, by decide, by decide +kernel⟩, by decide⟩, (zmem 411 (by decide +kernel) (by decide +kernel)), (zmem 412 (by decide +kernel) (by decide +kernel))⟩
theorem iX6_wipe_12 : zI cX6_wipe 12 (.invokevirtual 84) 3 15 := ⟨by decide +kernel, rfl⟩
theorem iX6_wipe_16 : zI cX6_wipe 16 (.ireturn) 1 17 := ⟨by decide +kernel, rfl⟩
theorem iX6_wipe_15 : zI cX6_wipe 15 (.iload_n 1) 1 16 := ⟨by decide +kernel, rfl⟩
theorem iX6_wipe_9 : zI cX6_wipe 9 (.getfield 12) 3 12 := ⟨by decide +kernel, rfl⟩
theorem iX6_wipe_8 : zI cX6_wipe 8 (.aload_n 0) 1 9 := ⟨by decide +kernel, rfl⟩
theorem iX6_wipe_7 : zI cX6_wipe 7 (.istore_n 1) 1 8 := ⟨by decide +kernel, rfl⟩
theorem iX6_wipe_4 : zI cX6_wipe 4 (.getfield 90) 3 7 := ⟨by decide +kernel, rfl⟩
theorem iX6_wipe_1 : zI cX6_wipe 1 (.getfield 12) 3 4 := ⟨by decide +kernel, rfl⟩
theorem iX6_wipe_0 : zI cX6_wipe 0 (.aload_n 0) 1 1 := ⟨by decide +kernel, rfl⟩
set_option maxHeartbeats 4000000 in
set_option maxRecDepth 100000 in
theorem m_SS_wipe (h : zH) : zM yX6_wipe cX6_wipe 2 (some .int) 1 shX (fun ad => [.ref (ad 0)]) h eI (SS_wipe h) := by
  refine zM.of (by decide) (fun _ => rfl) (fun _ => Nat.le_of_ble_eq_true rfl) (fun X ad hnL C => ?_)
  show zG X ad shX eI 0 [some (.ref (ad 0)), none] [] h _
  unfold SS_wipe
  refine g_aload_n C iX6_wipe_0 rfl ?_
  refine g_getR (b := 1) C fX6_12 iX6_wipe_1 sh0 rfl ?_
  refine g_getI C fX6_90 iX6_wipe_4 sh1 rfl ?_
  refine g_top (fun x1 => ?_)
  refine g_istore_n (lv' := [some (.ref (ad 0)), some (.int x1)]) C hnL iX6_wipe_7 (by decide) rfl ?_
  refine g_aload_n C iX6_wipe_8 rfl ?_
  refine g_getR (b := 1) C fX6_12 iX6_wipe_9 sh0 rfl ?_
  refine g_callV C wX6_84 iX6_wipe_12 (m_Le_clear h) (by decide) sh1 rfl rfl rfl rfl (Nat.le_of_ble_eq_true rfl) (fun h_1 => ?_)
  show zG X ad shX eI 15 [some (.ref (ad 0)), some (.int x1)] [] h_1 _
  refine g_iload_n C iX6_wipe_15 rfl ?_
  exact g_iret C iX6_wipe_16 rfl

theorem fX6_19 : zFl RX6 19 6 1 := ⟨RX6, TX6, 9, rfl, by decide, (zmem 452 (by decide +kernel) (by decide +kernel)), u_inX6⟩
theorem fX6_26 : zFl RX6 26 6 2 := ⟨RX6, TX6, 9, rfl, by decide, (zmem 453 (by decide +kernel) (by decide +kernel)), u_inX6⟩
set_option maxRecDepth 100000 in
theorem wX6_80 : zCv RX6 80 yX5_read cX5_read 5 (some .int) 2 := ⟨⟨(zmem 356 (by decide +kernel) (by decide +kernel)), (zmem 65 (by decide +kernel) (by decide +kernel)), (zmem 359 rfl rfl), ⟨by decide, by decide, by decide +kernel⟩, by decide⟩, (zmem 357 (by decide +kernel) (by decide +kernel)), (zmem 358 (by decide +kernel) (by decide +kernel))⟩
theorem iX6_fault_12 : zI cX6_fault 12 (.invokevirtual 80) 3 15 := ⟨by decide +kernel, rfl⟩
theorem iX6_fault_15 : zI cX6_fault 15 (.ireturn) 1 16 := ⟨by decide +kernel, rfl⟩
theorem iX6_fault_9 : zI cX6_fault 9 (.getfield 26) 3 12 := ⟨by decide +kernel, rfl⟩
theorem iX6_fault_8 : zI cX6_fault 8 (.aload_n 0) 1 9 := ⟨by decide +kernel, rfl⟩
theorem iX6_fault_5 : zI cX6_fault 5 (.getfield 12) 3 8 := ⟨by decide +kernel, rfl⟩
theorem iX6_fault_4 : zI cX6_fault 4 (.aload_n 0) 1 5 := ⟨by decide +kernel, rfl⟩
theorem iX6_fault_1 : zI cX6_fault 1 (.getfield 19) 3 4 := ⟨by decide +kernel, rfl⟩
theorem iX6_fault_0 : zI cX6_fault 0 (.aload_n 0) 1 1 := ⟨by decide +kernel, rfl⟩
set_option maxHeartbeats 4000000 in
set_option maxRecDepth 100000 in
theorem m_SS_fault (h : zH) : zM yX6_fault cX6_fault 1 (some .int) 6 shX (fun ad => [.ref (ad 0)]) h eI (SS_fault h) := by
  refine zM.of (by decide) (fun _ => rfl) (fun _ => Nat.le_of_ble_eq_true rfl) (fun X ad hnL C => ?_)
  show zG X ad shX eI 0 [some (.ref (ad 0))] [] h _
  unfold SS_fault
  refine g_aload_n C iX6_fault_0 rfl ?_
  refine g_getR (b := 3) C fX6_19 iX6_fault_1 sh0 rfl ?_
  refine g_aload_n C iX6_fault_4 rfl ?_
  refine g_getR (b := 1) C fX6_12 iX6_fault_5 sh0 rfl ?_
  refine g_aload_n C iX6_fault_8 rfl ?_
  refine g_getR (b := 5) C fX6_26 iX6_fault_9 sh0 rfl ?_
  refine g_callV C wX6_80 iX6_fault_12 (m_Re_read 5 isP5 h) (by decide) sh3 rfl rfl rfl rfl (Nat.le_of_ble_eq_true rfl) (fun r => ?_)
  show zG X ad shX eI 15 [some (.ref (ad 0))] [.int r.1] r.2 _
  exact g_iret C iX6_fault_15 rfl

theorem iX6_lay_12 : zI cX6_lay 12 (.invokevirtual 80) 3 15 := ⟨by decide +kernel, rfl⟩
theorem iX6_lay_17 : zI cX6_lay 17 (.if_icmp .ne 13) 3 20 := ⟨by decide +kernel, rfl⟩
theorem iX6_lay_32 : zI cX6_lay 32 (.ireturn) 1 33 := ⟨by decide +kernel, rfl⟩
theorem iX6_lay_30 : zI cX6_lay 30 (.bipush (-2)) 2 32 := ⟨by decide +kernel, rfl⟩
theorem fX6_93 : zFl RX6 93 4 0 := ⟨RX4, TX4, 16, rfl, by decide, (zmem 121 (by decide +kernel) (by decide +kernel)), u_inX4⟩
theorem iX6_lay_27 : zI cX6_lay 27 (.ifCond .ne 6) 3 30 := ⟨by decide +kernel, rfl⟩
theorem fX6_30 : zFl RX6 30 6 3 := ⟨RX6, TX6, 9, rfl, by decide, (zmem 454 (by decide +kernel) (by decide +kernel)), u_inX6⟩
theorem iX6_lay_45 : zI cX6_lay 45 (.invokevirtual 80) 3 48 := ⟨by decide +kernel, rfl⟩
theorem fX6_38 : zFl RX6 38 6 4 := ⟨RX6, TX6, 9, rfl, by decide, (zmem 455 (by decide +kernel) (by decide +kernel)), u_inX6⟩
set_option maxRecDepth 100000 in
theorem wX6_87 : zCv RX6 87 yX1_layOut cX1_layOut 2 none 0 := ⟨⟨(zmem 414 (by decide +kernel) (by decide +kernel)), (zmem 67 (by decide +kernel) (by decide +kernel)), (zmem 417 rfl rfl), ⟨by decide, by decide, by decide +kernel⟩, by decide⟩, (zmem 415 (by decide +kernel) (by decide +kernel)), (zmem 416 (by decide +kernel) (by decide +kernel))⟩
theorem iX6_lay_53 : zI cX6_lay 53 (.invokevirtual 87) 3 56 := ⟨by decide +kernel, rfl⟩
theorem fX6_60 : zFl RX6 60 6 8 := ⟨RX6, TX6, 9, rfl, by decide, (zmem 459 (by decide +kernel) (by decide +kernel)), u_inX6⟩
set_option maxRecDepth 100000 in
theorem wX6_96 : zCv RX6 96 yX3_clear cX3_clear 1 none 0 := ⟨⟨(zmem 496 (by decide +kernel) (by decide +kernel)), (zmem 69 (by decide +kernel) (by decide +kernel)), (zmem 499 rfl rfl), ⟨by decide, by decide, by decide +kernel⟩, by decide⟩, (zmem 497 (by decide +kernel) (by decide +kernel)), (zmem 498 (by decide +kernel) (by decide +kernel))⟩
theorem iX6_lay_60 : zI cX6_lay 60 (.invokevirtual 96) 3 63 := ⟨by decide +kernel, rfl⟩
set_option maxRecDepth 100000 in
theorem wX6_97 : zCv RX6 97 yX1_islands cX1_islands 3 (some .int) 0 := ⟨⟨(zmem 500 (by decide +kernel) (by decide +kernel)), (zmem 67 (by decide +kernel) (by decide +kernel)), (zmem 503 rfl rfl), ⟨by decide, by decide, by decide +kernel⟩, by decide⟩, (zmem 501 (by decide +kernel) (by decide +kernel)), (zmem 502 (by decide +kernel) (by decide +kernel))⟩
theorem iX6_lay_67 : zI cX6_lay 67 (.invokevirtual 97) 3 70 := ⟨by decide +kernel, rfl⟩
theorem iX6_lay_70 : zI cX6_lay 70 (.ireturn) 1 71 := ⟨by decide +kernel, rfl⟩
theorem iX6_lay_64 : zI cX6_lay 64 (.getfield 38) 3 67 := ⟨by decide +kernel, rfl⟩
theorem iX6_lay_63 : zI cX6_lay 63 (.aload_n 0) 1 64 := ⟨by decide +kernel, rfl⟩
theorem iX6_lay_57 : zI cX6_lay 57 (.getfield 60) 3 60 := ⟨by decide +kernel, rfl⟩
theorem iX6_lay_56 : zI cX6_lay 56 (.aload_n 0) 1 57 := ⟨by decide +kernel, rfl⟩
theorem iX6_lay_50 : zI cX6_lay 50 (.getfield 38) 3 53 := ⟨by decide +kernel, rfl⟩
theorem iX6_lay_49 : zI cX6_lay 49 (.aload_n 0) 1 50 := ⟨by decide +kernel, rfl⟩
theorem iX6_lay_48 : zI cX6_lay 48 (.pop) 1 49 := ⟨by decide +kernel, rfl⟩
theorem iX6_lay_42 : zI cX6_lay 42 (.getfield 30) 3 45 := ⟨by decide +kernel, rfl⟩
theorem iX6_lay_41 : zI cX6_lay 41 (.aload_n 0) 1 42 := ⟨by decide +kernel, rfl⟩
theorem iX6_lay_38 : zI cX6_lay 38 (.getfield 12) 3 41 := ⟨by decide +kernel, rfl⟩
theorem iX6_lay_37 : zI cX6_lay 37 (.aload_n 0) 1 38 := ⟨by decide +kernel, rfl⟩
theorem iX6_lay_34 : zI cX6_lay 34 (.getfield 19) 3 37 := ⟨by decide +kernel, rfl⟩
theorem iX6_lay_33 : zI cX6_lay 33 (.aload_n 0) 1 34 := ⟨by decide +kernel, rfl⟩
theorem iX6_lay_24 : zI cX6_lay 24 (.getfield 93) 3 27 := ⟨by decide +kernel, rfl⟩
theorem iX6_lay_21 : zI cX6_lay 21 (.getfield 26) 3 24 := ⟨by decide +kernel, rfl⟩
theorem iX6_lay_20 : zI cX6_lay 20 (.aload_n 0) 1 21 := ⟨by decide +kernel, rfl⟩
theorem iX6_lay_15 : zI cX6_lay 15 (.bipush (-4)) 2 17 := ⟨by decide +kernel, rfl⟩
theorem iX6_lay_9 : zI cX6_lay 9 (.getfield 26) 3 12 := ⟨by decide +kernel, rfl⟩
theorem iX6_lay_8 : zI cX6_lay 8 (.aload_n 0) 1 9 := ⟨by decide +kernel, rfl⟩
theorem iX6_lay_5 : zI cX6_lay 5 (.getfield 12) 3 8 := ⟨by decide +kernel, rfl⟩
theorem iX6_lay_4 : zI cX6_lay 4 (.aload_n 0) 1 5 := ⟨by decide +kernel, rfl⟩
theorem iX6_lay_1 : zI cX6_lay 1 (.getfield 19) 3 4 := ⟨by decide +kernel, rfl⟩
theorem iX6_lay_0 : zI cX6_lay 0 (.aload_n 0) 1 1 := ⟨by decide +kernel, rfl⟩
set_option maxHeartbeats 4000000 in
set_option maxRecDepth 100000 in
theorem m_SS_lay (h : zH) : zM yX6_lay cX6_lay 1 (some .int) 6 shX (fun ad => [.ref (ad 0)]) h eI (SS_lay h) := by
  refine zM.of (by decide) (fun _ => rfl) (fun _ => Nat.le_of_ble_eq_true rfl) (fun X ad hnL C => ?_)
  show zG X ad shX eI 0 [some (.ref (ad 0))] [] h _
  unfold SS_lay
  refine g_aload_n C iX6_lay_0 rfl ?_
  refine g_getR (b := 3) C fX6_19 iX6_lay_1 sh0 rfl ?_
  refine g_aload_n C iX6_lay_4 rfl ?_
  refine g_getR (b := 1) C fX6_12 iX6_lay_5 sh0 rfl ?_
  refine g_aload_n C iX6_lay_8 rfl ?_
  refine g_getR (b := 5) C fX6_26 iX6_lay_9 sh0 rfl ?_
  refine g_callV C wX6_80 iX6_lay_12 (m_Re_read 5 isP5 h) (by decide) sh3 rfl rfl rfl rfl (Nat.le_of_ble_eq_true rfl) (fun r => ?_)
  show zG X ad shX eI 15 [some (.ref (ad 0))] [.int r.1] r.2 _
  refine g_bipush C (-4) iX6_lay_15 (by decide) ?_
  refine g_icmp_ne C 30 iX6_lay_17 (by decide) (fun c17 => ?_) (fun c17 => ?_)
  · refine g_aload_n C iX6_lay_20 rfl ?_
    refine g_getR (b := 5) C fX6_26 iX6_lay_21 sh0 rfl ?_
    refine g_getI C fX6_93 iX6_lay_24 isP5.1 rfl ?_
    refine g_if_ne C 33 iX6_lay_27 (by decide) (fun c27 => ?_) (fun c27 => ?_)
    · refine g_bipush C (-2) iX6_lay_30 (by decide) ?_
      exact g_iret C iX6_lay_32 rfl
    · refine g_aload_n C iX6_lay_33 rfl ?_
      refine g_getR (b := 3) C fX6_19 iX6_lay_34 sh0 rfl ?_
      refine g_aload_n C iX6_lay_37 rfl ?_
      refine g_getR (b := 1) C fX6_12 iX6_lay_38 sh0 rfl ?_
      refine g_aload_n C iX6_lay_41 rfl ?_
      refine g_getR (b := 17) C fX6_30 iX6_lay_42 sh0 rfl ?_
      refine g_callV C wX6_80 iX6_lay_45 (m_Re_read 17 isP17 r.2) (by decide) sh3 rfl rfl rfl rfl (Nat.le_of_ble_eq_true rfl) (fun r_1 => ?_)
      show zG X ad shX eI 48 [some (.ref (ad 0))] [.int r_1.1] r_1.2 _
      refine g_pop C iX6_lay_48 rfl ?_
      refine g_aload_n C iX6_lay_49 rfl ?_
      refine g_getR (b := 29) C fX6_38 iX6_lay_50 sh0 rfl ?_
      refine g_callV C wX6_87 iX6_lay_53 (m_Gr_layOut 29 isG29 r_1.2) (by decide) isG29.1 rfl rfl rfl rfl (Nat.le_of_ble_eq_true rfl) (fun h_1 => ?_)
      show zG X ad shX eI 56 [some (.ref (ad 0))] [] h_1 _
      refine g_aload_n C iX6_lay_56 rfl ?_
      refine g_getR (b := 47) C fX6_60 iX6_lay_57 sh0 rfl ?_
      refine g_callV C wX6_96 iX6_lay_60 (m_Pa_clear h_1) (by decide) sh47 rfl rfl rfl rfl (Nat.le_of_ble_eq_true rfl) (fun h_2 => ?_)
      show zG X ad shX eI 63 [some (.ref (ad 0))] [] h_2 _
      refine g_aload_n C iX6_lay_63 rfl ?_
      refine g_getR (b := 29) C fX6_38 iX6_lay_64 sh0 rfl ?_
      refine g_callV C wX6_97 iX6_lay_67 (m_Gr_islands 29 isG29 h_2) (by decide) isG29.1 rfl rfl rfl rfl (Nat.le_of_ble_eq_true rfl) (fun r_2 => ?_)
      show zG X ad shX eI 70 [some (.ref (ad 0))] [.int r_2] h_2 _
      exact g_iret C iX6_lay_70 rfl
  · refine g_bipush C (-2) iX6_lay_30 (by decide) ?_
    exact g_iret C iX6_lay_32 rfl

