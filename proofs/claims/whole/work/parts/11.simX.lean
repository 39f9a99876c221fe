theorem iX1_putOn_21 : zI cX1_putOn 21 (.if_icmp .ge 34) 3 24 := ⟨by decide +kernel, rfl⟩
theorem iX1_putOn_31 : zI cX1_putOn 31 (.if_icmp .eq 18) 3 34 := ⟨by decide +kernel, rfl⟩
theorem iX1_putOn_52 : zI cX1_putOn 52 (.goto (-36)) 3 55 := ⟨by decide +kernel, rfl⟩
theorem iX1_putOn_49 : zI cX1_putOn 49 (.iinc 3 1) 3 52 := ⟨by decide +kernel, rfl⟩
theorem iX1_putOn_46 : zI cX1_putOn 46 (.iinc 2 1) 3 49 := ⟨by decide +kernel, rfl⟩
theorem iX1_putOn_45 : zI cX1_putOn 45 (.iastore) 1 46 := ⟨by decide +kernel, rfl⟩
theorem iX1_putOn_44 : zI cX1_putOn 44 (.iaload) 1 45 := ⟨by decide +kernel, rfl⟩
theorem iX1_putOn_43 : zI cX1_putOn 43 (.iload_n 3) 1 44 := ⟨by decide +kernel, rfl⟩
theorem iX1_putOn_40 : zI cX1_putOn 40 (.getfield 27) 3 43 := ⟨by decide +kernel, rfl⟩
theorem iX1_putOn_39 : zI cX1_putOn 39 (.aload_n 0) 1 40 := ⟨by decide +kernel, rfl⟩
theorem iX1_putOn_38 : zI cX1_putOn 38 (.iload_n 2) 1 39 := ⟨by decide +kernel, rfl⟩
theorem iX1_putOn_35 : zI cX1_putOn 35 (.getfield 27) 3 38 := ⟨by decide +kernel, rfl⟩
theorem iX1_putOn_34 : zI cX1_putOn 34 (.aload_n 0) 1 35 := ⟨by decide +kernel, rfl⟩
theorem iX1_putOn_30 : zI cX1_putOn 30 (.iload_n 1) 1 31 := ⟨by decide +kernel, rfl⟩
theorem iX1_putOn_29 : zI cX1_putOn 29 (.iaload) 1 30 := ⟨by decide +kernel, rfl⟩
theorem iX1_putOn_28 : zI cX1_putOn 28 (.iload_n 3) 1 29 := ⟨by decide +kernel, rfl⟩
theorem iX1_putOn_25 : zI cX1_putOn 25 (.getfield 27) 3 28 := ⟨by decide +kernel, rfl⟩
theorem iX1_putOn_24 : zI cX1_putOn 24 (.aload_n 0) 1 25 := ⟨by decide +kernel, rfl⟩
theorem iX1_putOn_18 : zI cX1_putOn 18 (.getfield 50) 3 21 := ⟨by decide +kernel, rfl⟩
theorem iX1_putOn_17 : zI cX1_putOn 17 (.aload_n 0) 1 18 := ⟨by decide +kernel, rfl⟩
theorem iX1_putOn_16 : zI cX1_putOn 16 (.iload_n 3) 1 17 := ⟨by decide +kernel, rfl⟩
theorem iX1_putOn_60 : zI cX1_putOn 60 (.return_) 1 61 := ⟨by decide +kernel, rfl⟩
theorem iX1_putOn_57 : zI cX1_putOn 57 (.putfield 50) 3 60 := ⟨by decide +kernel, rfl⟩
theorem iX1_putOn_56 : zI cX1_putOn 56 (.iload_n 2) 1 57 := ⟨by decide +kernel, rfl⟩
theorem iX1_putOn_55 : zI cX1_putOn 55 (.aload_n 0) 1 56 := ⟨by decide +kernel, rfl⟩
theorem iX1_putOn_15 : zI cX1_putOn 15 (.istore_n 3) 1 16 := ⟨by decide +kernel, rfl⟩
theorem iX1_putOn_14 : zI cX1_putOn 14 (.iconst 0) 1 15 := ⟨by decide +kernel, rfl⟩
theorem iX1_putOn_13 : zI cX1_putOn 13 (.istore_n 2) 1 14 := ⟨by decide +kernel, rfl⟩
theorem iX1_putOn_12 : zI cX1_putOn 12 (.iconst 0) 1 13 := ⟨by decide +kernel, rfl⟩
theorem iX1_putOn_9 : zI cX1_putOn 9 (.putfield 47) 3 12 := ⟨by decide +kernel, rfl⟩
theorem iX1_putOn_8 : zI cX1_putOn 8 (.ior) 1 9 := ⟨by decide +kernel, rfl⟩
theorem iX1_putOn_7 : zI cX1_putOn 7 (.ishl) 1 8 := ⟨by decide +kernel, rfl⟩
theorem iX1_putOn_6 : zI cX1_putOn 6 (.iload_n 1) 1 7 := ⟨by decide +kernel, rfl⟩
theorem iX1_putOn_5 : zI cX1_putOn 5 (.iconst 1) 1 6 := ⟨by decide +kernel, rfl⟩
theorem iX1_putOn_2 : zI cX1_putOn 2 (.getfield 47) 3 5 := ⟨by decide +kernel, rfl⟩
theorem iX1_putOn_1 : zI cX1_putOn 1 (.dup) 1 2 := ⟨by decide +kernel, rfl⟩
theorem iX1_putOn_0 : zI cX1_putOn 0 (.aload_n 0) 1 1 := ⟨by decide +kernel, rfl⟩
set_option maxHeartbeats 4000000 in
set_option maxRecDepth 100000 in
theorem m_Gr_putOn (g : Nat) (hg : isG g) (x1 : Int32) (h : zH) : zM yX1_putOn cX1_putOn 4 none 0 shX (fun ad => [.ref (ad g), .int x1]) h eV (Gr_putOn g x1 h) := by
  refine zM.of (by decide) (fun _ => rfl) (fun _ => Nat.le_of_ble_eq_true rfl) (fun X ad hnL C => ?_)
  show zG X ad shX eV 0 [some (.ref (ad g)), some (.int x1), none, none] [] h _
  unfold Gr_putOn
  refine g_aload_n C iX1_putOn_0 rfl ?_
  refine g_dup C iX1_putOn_1 rfl ?_
  refine g_getI C fX1_47 iX1_putOn_2 hg.1 rfl ?_
  refine g_iconst C 1 iX1_putOn_5 (by decide) ?_
  refine g_iload_n C iX1_putOn_6 rfl ?_
  refine g_ishl C iX1_putOn_7 ?_
  refine g_ior C iX1_putOn_8 ?_
  refine g_putI C pX1_47 iX1_putOn_9 hg.1 rfl (fun h_1 => ?_)
  refine g_iconst C 0 iX1_putOn_12 (by decide) ?_
  refine g_istore_n (lv' := [some (.ref (ad g)), some (.int x1), some (.int 0), none]) C hnL iX1_putOn_13 (by decide) rfl ?_
  refine g_iconst C 0 iX1_putOn_14 (by decide) ?_
  refine g_istore_n (lv' := [some (.ref (ad g)), some (.int x1), some (.int 0), some (.int 0)]) C hnL iX1_putOn_15 (by decide) rfl ?_
  have L16 : ∀ (k55 : Int32 → zH → Option (zH)), (∀ (y2 : Int32) (hy : zH), zG X ad shX eV 55 [some (.ref (ad g)), none, some (.int y2), none] [] hy (k55 y2 hy)) → ∀ (n : Nat) (x2 x3 : Int32) (h_2 : zH), zG X ad shX eV 16 [some (.ref (ad g)), some (.int x1), some (.int x2), some (.int x3)] [] h_2 (Gr_putOn_L16 g x1 k55 n x2 x3 h_2) := by
    intro k55 hk55 n
    induction n with
    | zero =>
      intro x2 x3 h_2
      exact g_none
    | succ n ih16 =>
      intro x2 x3 h_2
      rw [Gr_putOn_L16]
      refine g_iload_n C iX1_putOn_16 rfl ?_
      refine g_aload_n C iX1_putOn_17 rfl ?_
      refine g_getI C fX1_50 iX1_putOn_18 hg.1 rfl ?_
      refine g_icmp_ge C 55 iX1_putOn_21 (by decide) (fun c21 => ?_) (fun c21 => ?_)
      · refine g_sub (lv' := [some (.ref (ad g)), none, some (.int x2), none]) ⟨rfl, ⟨rfl, trivial⟩⟩ ?_
        exact hk55 _ _
      · refine g_aload_n C iX1_putOn_24 rfl ?_
        refine g_getR (b := (g + 6)) C fX1_27 iX1_putOn_25 hg.1 rfl ?_
        refine g_iload_n C iX1_putOn_28 rfl ?_
        refine g_iaload C iX1_putOn_29 hg.2.2.2.2.2.2.1 ?_
        refine g_iload_n C iX1_putOn_30 rfl ?_
        refine g_icmp_eq C 49 iX1_putOn_31 (by decide) (fun c31 => ?_) (fun c31 => ?_)
        · refine g_iinc (v := (x3 + 1)) (lv' := [some (.ref (ad g)), some (.int x1), some (.int x2), some (.int (x3 + 1))]) C hnL iX1_putOn_49 (by decide) rfl rfl rfl ?_
          refine g_goto C 16 iX1_putOn_52 (by decide) ?_
          exact ih16 _ _ _
        · refine g_aload_n C iX1_putOn_34 rfl ?_
          refine g_getR (b := (g + 6)) C fX1_27 iX1_putOn_35 hg.1 rfl ?_
          refine g_iload_n C iX1_putOn_38 rfl ?_
          refine g_aload_n C iX1_putOn_39 rfl ?_
          refine g_getR (b := (g + 6)) C fX1_27 iX1_putOn_40 hg.1 rfl ?_
          refine g_iload_n C iX1_putOn_43 rfl ?_
          refine g_iaload C iX1_putOn_44 hg.2.2.2.2.2.2.1 ?_
          refine g_iastore C iX1_putOn_45 hg.2.2.2.2.2.2.1 (fun h_3 => ?_)
          refine g_iinc (v := (x2 + 1)) (lv' := [some (.ref (ad g)), some (.int x1), some (.int (x2 + 1)), some (.int x3)]) C hnL iX1_putOn_46 (by decide) rfl rfl rfl ?_
          refine g_iinc (v := (x3 + 1)) (lv' := [some (.ref (ad g)), some (.int x1), some (.int (x2 + 1)), some (.int (x3 + 1))]) C hnL iX1_putOn_49 (by decide) rfl rfl rfl ?_
          refine g_goto C 16 iX1_putOn_52 (by decide) ?_
          exact ih16 _ _ _
  refine L16 _ (fun x2_1 h_4 => ?_) 1000 _ _ _
  show zG X ad shX eV 55 [some (.ref (ad g)), none, some (.int x2_1), none] [] h_4 _
  refine g_aload_n C iX1_putOn_55 rfl ?_
  refine g_iload_n C iX1_putOn_56 rfl ?_
  refine g_putI C pX1_50 iX1_putOn_57 hg.1 rfl (fun h_5 => ?_)
  exact g_vret C iX1_putOn_60 rfl

theorem iX0_passBack_70 : zI cX0_passBack 70 (.if_icmp .lt 41) 3 73 := ⟨by decide +kernel, rfl⟩
theorem iX0_passBack_111 : zI cX0_passBack 111 (.return_) 1 112 := ⟨by decide +kernel, rfl⟩
set_option maxRecDepth 100000 in
theorem wX0_142 : zCv RX0 142 yX0_nextBack cX0_nextBack 5 (some .int) 1 := ⟨⟨(zmem 580 (by decide +kernel) (by decide +kernel)), (zmem 68 (by decide +kernel) (by decide +kernel)), (zmem 583 rfl rfl), ⟨by decide, by decide, by decide +kernel⟩, by decide⟩, (zmem 582 (by decide +kernel) (by decide +kernel)), (zmem 12 (by decide +kernel) (by decide +kernel))⟩
theorem iX0_passBack_75 : zI cX0_passBack 75 (.invokevirtual 142) 3 78 := ⟨by decide +kernel, rfl⟩
theorem iX0_passBack_80 : zI cX0_passBack 80 (.ifCond .lt 31) 3 83 := ⟨by decide +kernel, rfl⟩
set_option maxRecDepth 100000 in
theorem wX0_145 : zCv RX0 145 yX1_putOn cX1_putOn 4 none 1 := ⟨⟨(zmem 588 (by decide +kernel) (by decide +kernel)), (zmem 67 (by decide +kernel) (by decide +kernel)), (zmem 591 rfl rfl), ⟨by decide, by decide, by decide +kernel⟩, by decide⟩, (zmem 589 (by decide +kernel) (by decide +kernel)), (zmem 590 (by decide +kernel) (by decide +kernel))⟩
theorem iX0_passBack_88 : zI cX0_passBack 88 (.invokevirtual 145) 3 91 := ⟨by decide +kernel, rfl⟩
theorem fX0_26 : zFl RX0 26 0 4 := ⟨RX0, TX0, 5, rfl, by decide, (zmem 270 (by decide +kernel) (by decide +kernel)), u_inX0⟩
theorem iX0_passBack_110 : zI cX0_passBack 110 (.iastore) 1 111 := ⟨by decide +kernel, rfl⟩
theorem iX0_passBack_109 : zI cX0_passBack 109 (.iconst 0) 1 110 := ⟨by decide +kernel, rfl⟩
theorem iX0_passBack_108 : zI cX0_passBack 108 (.iload_n 2) 1 109 := ⟨by decide +kernel, rfl⟩
theorem iX0_passBack_105 : zI cX0_passBack 105 (.getfield 127) 3 108 := ⟨by decide +kernel, rfl⟩
theorem iX0_passBack_102 : zI cX0_passBack 102 (.getfield 15) 3 105 := ⟨by decide +kernel, rfl⟩
theorem iX0_passBack_101 : zI cX0_passBack 101 (.aload_n 0) 1 102 := ⟨by decide +kernel, rfl⟩
theorem iX0_passBack_98 : zI cX0_passBack 98 (.putfield 26) 3 101 := ⟨by decide +kernel, rfl⟩
theorem iX0_passBack_97 : zI cX0_passBack 97 (.iadd) 1 98 := ⟨by decide +kernel, rfl⟩
theorem iX0_passBack_96 : zI cX0_passBack 96 (.iconst 1) 1 97 := ⟨by decide +kernel, rfl⟩
theorem iX0_passBack_93 : zI cX0_passBack 93 (.getfield 26) 3 96 := ⟨by decide +kernel, rfl⟩
theorem iX0_passBack_92 : zI cX0_passBack 92 (.dup) 1 93 := ⟨by decide +kernel, rfl⟩
theorem iX0_passBack_91 : zI cX0_passBack 91 (.aload_n 0) 1 92 := ⟨by decide +kernel, rfl⟩
theorem iX0_passBack_87 : zI cX0_passBack 87 (.iload_n 3) 1 88 := ⟨by decide +kernel, rfl⟩
theorem iX0_passBack_84 : zI cX0_passBack 84 (.getfield 15) 3 87 := ⟨by decide +kernel, rfl⟩
theorem iX0_passBack_83 : zI cX0_passBack 83 (.aload_n 0) 1 84 := ⟨by decide +kernel, rfl⟩
theorem iX0_passBack_79 : zI cX0_passBack 79 (.iload_n 3) 1 80 := ⟨by decide +kernel, rfl⟩
theorem iX0_passBack_78 : zI cX0_passBack 78 (.istore_n 3) 1 79 := ⟨by decide +kernel, rfl⟩
theorem iX0_passBack_74 : zI cX0_passBack 74 (.iload_n 1) 1 75 := ⟨by decide +kernel, rfl⟩
theorem iX0_passBack_73 : zI cX0_passBack 73 (.aload_n 0) 1 74 := ⟨by decide +kernel, rfl⟩
theorem iX0_passBack_69 : zI cX0_passBack 69 (.iaload) 1 70 := ⟨by decide +kernel, rfl⟩
theorem iX0_passBack_68 : zI cX0_passBack 68 (.iconst 0) 1 69 := ⟨by decide +kernel, rfl⟩
theorem iX0_passBack_65 : zI cX0_passBack 65 (.getfield 133) 3 68 := ⟨by decide +kernel, rfl⟩
theorem iX0_passBack_62 : zI cX0_passBack 62 (.getfield 9) 3 65 := ⟨by decide +kernel, rfl⟩
theorem iX0_passBack_61 : zI cX0_passBack 61 (.aload_n 0) 1 62 := ⟨by decide +kernel, rfl⟩
theorem iX0_passBack_60 : zI cX0_passBack 60 (.iaload) 1 61 := ⟨by decide +kernel, rfl⟩
theorem iX0_passBack_59 : zI cX0_passBack 59 (.iload_n 2) 1 60 := ⟨by decide +kernel, rfl⟩
theorem iX0_passBack_56 : zI cX0_passBack 56 (.getfield 127) 3 59 := ⟨by decide +kernel, rfl⟩
theorem iX0_passBack_53 : zI cX0_passBack 53 (.getfield 15) 3 56 := ⟨by decide +kernel, rfl⟩
theorem iX0_passBack_52 : zI cX0_passBack 52 (.aload_n 0) 1 53 := ⟨by decide +kernel, rfl⟩
theorem iX0_passBack_51 : zI cX0_passBack 51 (.iastore) 1 52 := ⟨by decide +kernel, rfl⟩
theorem iX0_passBack_33 : zI cX0_passBack 33 (.if_icmp .lt 17) 3 36 := ⟨by decide +kernel, rfl⟩
theorem iX0_passBack_50 : zI cX0_passBack 50 (.iconst 0) 1 51 := ⟨by decide +kernel, rfl⟩
theorem iX0_passBack_47 : zI cX0_passBack 47 (.goto 4) 3 50 := ⟨by decide +kernel, rfl⟩
theorem iX0_passBack_46 : zI cX0_passBack 46 (.iadd) 1 47 := ⟨by decide +kernel, rfl⟩
theorem iX0_passBack_45 : zI cX0_passBack 45 (.iconst 1) 1 46 := ⟨by decide +kernel, rfl⟩
theorem iX0_passBack_44 : zI cX0_passBack 44 (.iaload) 1 45 := ⟨by decide +kernel, rfl⟩
theorem iX0_passBack_43 : zI cX0_passBack 43 (.iload_n 2) 1 44 := ⟨by decide +kernel, rfl⟩
theorem iX0_passBack_40 : zI cX0_passBack 40 (.getfield 127) 3 43 := ⟨by decide +kernel, rfl⟩
theorem iX0_passBack_37 : zI cX0_passBack 37 (.getfield 15) 3 40 := ⟨by decide +kernel, rfl⟩
theorem iX0_passBack_36 : zI cX0_passBack 36 (.aload_n 0) 1 37 := ⟨by decide +kernel, rfl⟩
theorem iX0_passBack_32 : zI cX0_passBack 32 (.iaload) 1 33 := ⟨by decide +kernel, rfl⟩
theorem iX0_passBack_31 : zI cX0_passBack 31 (.iconst 0) 1 32 := ⟨by decide +kernel, rfl⟩
theorem iX0_passBack_28 : zI cX0_passBack 28 (.getfield 130) 3 31 := ⟨by decide +kernel, rfl⟩
theorem iX0_passBack_25 : zI cX0_passBack 25 (.getfield 15) 3 28 := ⟨by decide +kernel, rfl⟩
theorem iX0_passBack_24 : zI cX0_passBack 24 (.aload_n 0) 1 25 := ⟨by decide +kernel, rfl⟩
theorem iX0_passBack_23 : zI cX0_passBack 23 (.iaload) 1 24 := ⟨by decide +kernel, rfl⟩
theorem iX0_passBack_22 : zI cX0_passBack 22 (.iload_n 1) 1 23 := ⟨by decide +kernel, rfl⟩
theorem iX0_passBack_19 : zI cX0_passBack 19 (.getfield 67) 3 22 := ⟨by decide +kernel, rfl⟩
theorem iX0_passBack_16 : zI cX0_passBack 16 (.getfield 15) 3 19 := ⟨by decide +kernel, rfl⟩
theorem iX0_passBack_15 : zI cX0_passBack 15 (.aload_n 0) 1 16 := ⟨by decide +kernel, rfl⟩
theorem iX0_passBack_14 : zI cX0_passBack 14 (.iload_n 2) 1 15 := ⟨by decide +kernel, rfl⟩
theorem iX0_passBack_11 : zI cX0_passBack 11 (.getfield 127) 3 14 := ⟨by decide +kernel, rfl⟩
theorem iX0_passBack_8 : zI cX0_passBack 8 (.getfield 15) 3 11 := ⟨by decide +kernel, rfl⟩
theorem iX0_passBack_7 : zI cX0_passBack 7 (.aload_n 0) 1 8 := ⟨by decide +kernel, rfl⟩
theorem iX0_passBack_6 : zI cX0_passBack 6 (.istore_n 2) 1 7 := ⟨by decide +kernel, rfl⟩
theorem iX0_passBack_5 : zI cX0_passBack 5 (.iadd) 1 6 := ⟨by decide +kernel, rfl⟩
theorem iX0_passBack_4 : zI cX0_passBack 4 (.iconst 0) 1 5 := ⟨by decide +kernel, rfl⟩
theorem iX0_passBack_3 : zI cX0_passBack 3 (.imul) 1 4 := ⟨by decide +kernel, rfl⟩
theorem iX0_passBack_1 : zI cX0_passBack 1 (.bipush 6) 2 3 := ⟨by decide +kernel, rfl⟩
theorem iX0_passBack_0 : zI cX0_passBack 0 (.iload_n 1) 1 1 := ⟨by decide +kernel, rfl⟩
set_option maxHeartbeats 4000000 in
set_option maxRecDepth 100000 in
theorem m_Co_passBack (c g : Nat) (hc : isC c g) (hg : isG g) (x1 : Int32) (h : zH) : zM yX0_passBack cX0_passBack 4 none 3 shX (fun ad => [.ref (ad c), .int x1]) h eV (Co_passBack c g x1 h) := by
  refine zM.of (by decide) (fun _ => rfl) (fun _ => Nat.le_of_ble_eq_true rfl) (fun X ad hnL C => ?_)
  show zG X ad shX eV 0 [some (.ref (ad c)), some (.int x1), none, none] [] h _
  unfold Co_passBack
  refine g_iload_n C iX0_passBack_0 rfl ?_
  refine g_bipush C 6 iX0_passBack_1 (by decide) ?_
  refine g_imul C iX0_passBack_3 ?_
  refine g_iconst C 0 iX0_passBack_4 (by decide) ?_
  refine g_iadd C iX0_passBack_5 ?_
  refine g_top (fun x2 => ?_)
  refine g_istore_n (lv' := [some (.ref (ad c)), some (.int x1), some (.int x2), none]) C hnL iX0_passBack_6 (by decide) rfl ?_
  refine g_aload_n C iX0_passBack_7 rfl ?_
  refine g_getR (b := g) C fX0_15 iX0_passBack_8 hc rfl ?_
  refine g_getR (b := (g + 4)) C fX0_127 iX0_passBack_11 hg.1 rfl ?_
  refine g_iload_n C iX0_passBack_14 rfl ?_
  refine g_aload_n C iX0_passBack_15 rfl ?_
  refine g_getR (b := g) C fX0_15 iX0_passBack_16 hc rfl ?_
  refine g_getR (b := (g + 3)) C fX0_67 iX0_passBack_19 hg.1 rfl ?_
  refine g_iload_n C iX0_passBack_22 rfl ?_
  refine g_iaload C iX0_passBack_23 hg.2.2.2.1 ?_
  refine g_aload_n C iX0_passBack_24 rfl ?_
  refine g_getR (b := g) C fX0_15 iX0_passBack_25 hc rfl ?_
  refine g_getR (b := (g + 7)) C fX0_130 iX0_passBack_28 hg.1 rfl ?_
  refine g_iconst C 0 iX0_passBack_31 (by decide) ?_
  refine g_ialoadL C 0 iX0_passBack_32 hg.2.2.2.2.2.2.2 (by decide) (by decide) ?_
  refine g_let (fun j51 ej51 => ?_)
  have hj51 : ∀ (v51 : Int32), zG X ad shX eV 51 [some (.ref (ad c)), some (.int x1), some (.int x2), none] [.int v51, .int x2, .ref (ad (g + 4))] h (j51 v51) := by
    intro v51
    subst ej51
    refine g_iastore C iX0_passBack_51 hg.2.2.2.2.1 (fun h_1 => ?_)
    refine g_aload_n C iX0_passBack_52 rfl ?_
    refine g_getR (b := g) C fX0_15 iX0_passBack_53 hc rfl ?_
    refine g_getR (b := (g + 4)) C fX0_127 iX0_passBack_56 hg.1 rfl ?_
    refine g_iload_n C iX0_passBack_59 rfl ?_
    refine g_iaload C iX0_passBack_60 hg.2.2.2.2.1 ?_
    refine g_aload_n C iX0_passBack_61 rfl ?_
    refine g_getR (b := 17) C fX0_9 iX0_passBack_62 hc rfl ?_
    refine g_getR (b := 28) C fX0_133 iX0_passBack_65 isP17.1 rfl ?_
    refine g_iconst C 0 iX0_passBack_68 (by decide) ?_
    refine g_ialoadL C 0 iX0_passBack_69 isP17.2.2.2.2.2.2.2.2.2.2.2 (by decide) (by decide) ?_
    refine g_icmp_lt C 111 iX0_passBack_70 (by decide) (fun c70 => ?_) (fun c70 => ?_)
    · exact g_vret C iX0_passBack_111 rfl
    · refine g_aload_n C iX0_passBack_73 rfl ?_
      refine g_iload_n C iX0_passBack_74 rfl ?_
      refine g_callV C wX0_142 iX0_passBack_75 (m_Co_nextBack c g hc hg x1 h_1) (by decide) hc rfl rfl rfl rfl (Nat.le_of_ble_eq_true rfl) (fun r => ?_)
      show zG X ad shX eV 78 [some (.ref (ad c)), some (.int x1), some (.int x2), none] [.int r] h_1 _
      refine g_istore_n (lv' := [some (.ref (ad c)), some (.int x1), some (.int x2), some (.int r)]) C hnL iX0_passBack_78 (by decide) rfl ?_
      refine g_iload_n C iX0_passBack_79 rfl ?_
      refine g_if_lt C 111 iX0_passBack_80 (by decide) (fun c80 => ?_) (fun c80 => ?_)
      · exact g_vret C iX0_passBack_111 rfl
      · refine g_aload_n C iX0_passBack_83 rfl ?_
        refine g_getR (b := g) C fX0_15 iX0_passBack_84 hc rfl ?_
        refine g_iload_n C iX0_passBack_87 rfl ?_
        refine g_callV C wX0_145 iX0_passBack_88 (m_Gr_putOn g hg r h_1) (by decide) hg.1 rfl rfl rfl rfl (Nat.le_of_ble_eq_true rfl) (fun h_2 => ?_)
        show zG X ad shX eV 91 [some (.ref (ad c)), some (.int x1), some (.int x2), some (.int r)] [] h_2 _
        refine g_aload_n C iX0_passBack_91 rfl ?_
        refine g_dup C iX0_passBack_92 rfl ?_
        refine g_getI C fX0_26 iX0_passBack_93 hc rfl ?_
        refine g_iconst C 1 iX0_passBack_96 (by decide) ?_
        refine g_iadd C iX0_passBack_97 ?_
        refine g_putI C pX0_26 iX0_passBack_98 hc rfl (fun h_3 => ?_)
        refine g_aload_n C iX0_passBack_101 rfl ?_
        refine g_getR (b := g) C fX0_15 iX0_passBack_102 hc rfl ?_
        refine g_getR (b := (g + 4)) C fX0_127 iX0_passBack_105 hg.1 rfl ?_
        refine g_iload_n C iX0_passBack_108 rfl ?_
        refine g_iconst C 0 iX0_passBack_109 (by decide) ?_
        refine g_iastore C iX0_passBack_110 hg.2.2.2.2.1 (fun h_4 => ?_)
        exact g_vret C iX0_passBack_111 rfl
  clear ej51
  refine g_icmp_lt C 50 iX0_passBack_33 (by decide) (fun c33 => ?_) (fun c33 => ?_)
  · refine g_iconst C 0 iX0_passBack_50 (by decide) ?_
    exact hj51 _
  · refine g_aload_n C iX0_passBack_36 rfl ?_
    refine g_getR (b := g) C fX0_15 iX0_passBack_37 hc rfl ?_
    refine g_getR (b := (g + 4)) C fX0_127 iX0_passBack_40 hg.1 rfl ?_
    refine g_iload_n C iX0_passBack_43 rfl ?_
    refine g_iaload C iX0_passBack_44 hg.2.2.2.2.1 ?_
    refine g_iconst C 1 iX0_passBack_45 (by decide) ?_
    refine g_iadd C iX0_passBack_46 ?_
    refine g_goto C 51 iX0_passBack_47 (by decide) ?_
    exact hj51 _

set_option maxRecDepth 100000 in
theorem wX0_47 : zCv RX0 47 yX1_isDark cX1_isDark 2 (some .boolean) 1 := ⟨⟨(zmem 529 (by decide +kernel) (by decide +kernel)), (zmem 67 (by decide +kernel) (by decide +kernel)), (zmem 532 rfl rfl), ⟨by decide, by decide, by decide +kernel⟩, by decide⟩, (zmem 530 (by decide +kernel) (by decide +kernel)), (zmem 531 (by decide +kernel) (by decide +kernel))⟩
theorem iX0_passIsland_5 : zI cX0_passIsland 5 (.invokevirtual 47) 3 8 := ⟨by decide +kernel, rfl⟩
theorem iX0_passIsland_8 : zI cX0_passIsland 8 (.ifCond .eq 4) 3 11 := ⟨by decide +kernel, rfl⟩
set_option maxRecDepth 100000 in
theorem wX0_51 : zCv RX0 51 yX0_follow cX0_follow 8 none 1 := ⟨⟨(zmem 533 (by decide +kernel) (by decide +kernel)), (zmem 68 (by decide +kernel) (by decide +kernel)), (zmem 536 rfl rfl), ⟨by decide, by decide, by decide +kernel⟩, by decide⟩, (zmem 535 (by decide +kernel) (by decide +kernel)), (zmem 6 (by decide +kernel) (by decide +kernel))⟩
theorem iX0_passIsland_14 : zI cX0_passIsland 14 (.invokevirtual 51) 3 17 := ⟨by decide +kernel, rfl⟩
set_option maxRecDepth 100000 in
theorem wX0_54 : zCv RX0 54 yX1_heavyOf cX1_heavyOf 2 (some .int) 1 := ⟨⟨(zmem 546 (by decide +kernel) (by decide +kernel)), (zmem 67 (by decide +kernel) (by decide +kernel)), (zmem 549 rfl rfl), ⟨by decide, by decide, by decide +kernel⟩, by decide⟩, (zmem 547 (by decide +kernel) (by decide +kernel)), (zmem 548 (by decide +kernel) (by decide +kernel))⟩
theorem iX0_passIsland_22 : zI cX0_passIsland 22 (.invokevirtual 54) 3 25 := ⟨by decide +kernel, rfl⟩
theorem iX0_passIsland_27 : zI cX0_passIsland 27 (.ifCond .ne 9) 3 30 := ⟨by decide +kernel, rfl⟩
theorem iX0_passIsland_41 : zI cX0_passIsland 41 (.invokevirtual 61) 3 44 := ⟨by decide +kernel, rfl⟩
theorem iX0_passIsland_49 : zI cX0_passIsland 49 (.invokevirtual 64) 3 52 := ⟨by decide +kernel, rfl⟩
theorem iX0_passIsland_73 : zI cX0_passIsland 73 (.invokestatic 70) 3 76 := ⟨by decide +kernel, rfl⟩
theorem iX0_passIsland_83 : zI cX0_passIsland 83 (.if_icmp .ge 9) 3 86 := ⟨by decide +kernel, rfl⟩
theorem fX0_76 : zFl RX0 76 4 4 := ⟨RX4, TX4, 16, rfl, by decide, (zmem 135 (by decide +kernel) (by decide +kernel)), u_inX4⟩
theorem iX0_passIsland_115 : zI cX0_passIsland 115 (.if_icmp .gt 16) 3 118 := ⟨by decide +kernel, rfl⟩
set_option maxRecDepth 100000 in
theorem wX0_79 : zCv RX0 79 yX0_passStage cX0_passStage 5 none 2 := ⟨⟨(zmem 568 (by decide +kernel) (by decide +kernel)), (zmem 68 (by decide +kernel) (by decide +kernel)), (zmem 571 rfl rfl), ⟨by decide, by decide, by decide +kernel⟩, by decide⟩, (zmem 570 (by decide +kernel) (by decide +kernel)), (zmem 9 (by decide +kernel) (by decide +kernel))⟩
theorem iX0_passIsland_122 : zI cX0_passIsland 122 (.invokevirtual 79) 3 125 := ⟨by decide +kernel, rfl⟩
theorem iX0_passIsland_128 : zI cX0_passIsland 128 (.goto (-22)) 3 131 := ⟨by decide +kernel, rfl⟩
theorem iX0_passIsland_125 : zI cX0_passIsland 125 (.iinc 5 1) 3 128 := ⟨by decide +kernel, rfl⟩
theorem iX0_passIsland_120 : zI cX0_passIsland 120 (.iload 5) 2 122 := ⟨by decide +kernel, rfl⟩
theorem iX0_passIsland_119 : zI cX0_passIsland 119 (.iload_n 1) 1 120 := ⟨by decide +kernel, rfl⟩
theorem iX0_passIsland_118 : zI cX0_passIsland 118 (.aload_n 0) 1 119 := ⟨by decide +kernel, rfl⟩
theorem iX0_passIsland_112 : zI cX0_passIsland 112 (.getfield 76) 3 115 := ⟨by decide +kernel, rfl⟩
theorem iX0_passIsland_109 : zI cX0_passIsland 109 (.getfield 9) 3 112 := ⟨by decide +kernel, rfl⟩
theorem iX0_passIsland_108 : zI cX0_passIsland 108 (.aload_n 0) 1 109 := ⟨by decide +kernel, rfl⟩
theorem iX0_passIsland_106 : zI cX0_passIsland 106 (.iload 5) 2 108 := ⟨by decide +kernel, rfl⟩
set_option maxRecDepth 100000 in
theorem wX0_83 : zCv RX0 83 yX0_passBack cX0_passBack 4 none 1 := ⟨⟨(zmem 576 (by decide +kernel) (by decide +kernel)), (zmem 68 (by decide +kernel) (by decide +kernel)), (zmem 579 rfl rfl), ⟨by decide, by decide, by decide +kernel⟩, by decide⟩, (zmem 578 (by decide +kernel) (by decide +kernel)), (zmem 11 (by decide +kernel) (by decide +kernel))⟩
theorem iX0_passIsland_133 : zI cX0_passIsland 133 (.invokevirtual 83) 3 136 := ⟨by decide +kernel, rfl⟩
theorem iX0_passIsland_136 : zI cX0_passIsland 136 (.return_) 1 137 := ⟨by decide +kernel, rfl⟩
theorem iX0_passIsland_132 : zI cX0_passIsland 132 (.iload_n 1) 1 133 := ⟨by decide +kernel, rfl⟩
theorem iX0_passIsland_131 : zI cX0_passIsland 131 (.aload_n 0) 1 132 := ⟨by decide +kernel, rfl⟩
theorem iX0_passIsland_104 : zI cX0_passIsland 104 (.istore 5) 2 106 := ⟨by decide +kernel, rfl⟩
theorem iX0_passIsland_103 : zI cX0_passIsland 103 (.iconst 1) 1 104 := ⟨by decide +kernel, rfl⟩
theorem iX0_passIsland_102 : zI cX0_passIsland 102 (.iastore) 1 103 := ⟨by decide +kernel, rfl⟩
theorem iX0_passIsland_100 : zI cX0_passIsland 100 (.iload 4) 2 102 := ⟨by decide +kernel, rfl⟩
theorem iX0_passIsland_99 : zI cX0_passIsland 99 (.iload_n 1) 1 100 := ⟨by decide +kernel, rfl⟩
theorem iX0_passIsland_96 : zI cX0_passIsland 96 (.getfield 67) 3 99 := ⟨by decide +kernel, rfl⟩
theorem iX0_passIsland_93 : zI cX0_passIsland 93 (.getfield 15) 3 96 := ⟨by decide +kernel, rfl⟩
theorem iX0_passIsland_92 : zI cX0_passIsland 92 (.aload_n 0) 1 93 := ⟨by decide +kernel, rfl⟩
set_option maxRecDepth 100000 in
theorem wX0_58 : zCv RX0 58 yX0_darken cX0_darken 3 none 1 := ⟨⟨(zmem 550 (by decide +kernel) (by decide +kernel)), (zmem 68 (by decide +kernel) (by decide +kernel)), (zmem 553 rfl rfl), ⟨by decide, by decide, by decide +kernel⟩, by decide⟩, (zmem 552 (by decide +kernel) (by decide +kernel)), (zmem 7 (by decide +kernel) (by decide +kernel))⟩
theorem iX0_passIsland_88 : zI cX0_passIsland 88 (.invokevirtual 58) 3 91 := ⟨by decide +kernel, rfl⟩
theorem iX0_passIsland_91 : zI cX0_passIsland 91 (.return_) 1 92 := ⟨by decide +kernel, rfl⟩
theorem iX0_passIsland_87 : zI cX0_passIsland 87 (.iload_n 1) 1 88 := ⟨by decide +kernel, rfl⟩
theorem iX0_passIsland_86 : zI cX0_passIsland 86 (.aload_n 0) 1 87 := ⟨by decide +kernel, rfl⟩
theorem iX0_passIsland_80 : zI cX0_passIsland 80 (.sipush 4700) 3 83 := ⟨by decide +kernel, rfl⟩
theorem iX0_passIsland_78 : zI cX0_passIsland 78 (.iload 4) 2 80 := ⟨by decide +kernel, rfl⟩
theorem iX0_passIsland_76 : zI cX0_passIsland 76 (.istore 4) 2 78 := ⟨by decide +kernel, rfl⟩
theorem iX0_passIsland_72 : zI cX0_passIsland 72 (.iadd) 1 73 := ⟨by decide +kernel, rfl⟩
theorem iX0_passIsland_71 : zI cX0_passIsland 71 (.idiv) 1 72 := ⟨by decide +kernel, rfl⟩
theorem iX0_passIsland_70 : zI cX0_passIsland 70 (.iload_n 2) 1 71 := ⟨by decide +kernel, rfl⟩
theorem iX0_passIsland_69 : zI cX0_passIsland 69 (.imul) 1 70 := ⟨by decide +kernel, rfl⟩
theorem iX0_passIsland_68 : zI cX0_passIsland 68 (.iload_n 3) 1 69 := ⟨by decide +kernel, rfl⟩
theorem iX0_passIsland_66 : zI cX0_passIsland 66 (.bipush 10) 2 68 := ⟨by decide +kernel, rfl⟩
theorem iX0_passIsland_65 : zI cX0_passIsland 65 (.iaload) 1 66 := ⟨by decide +kernel, rfl⟩
theorem iX0_passIsland_64 : zI cX0_passIsland 64 (.iload_n 1) 1 65 := ⟨by decide +kernel, rfl⟩
theorem iX0_passIsland_61 : zI cX0_passIsland 61 (.getfield 67) 3 64 := ⟨by decide +kernel, rfl⟩
theorem iX0_passIsland_58 : zI cX0_passIsland 58 (.getfield 15) 3 61 := ⟨by decide +kernel, rfl⟩
theorem iX0_passIsland_57 : zI cX0_passIsland 57 (.aload_n 0) 1 58 := ⟨by decide +kernel, rfl⟩
theorem iX0_passIsland_54 : zI cX0_passIsland 54 (.sipush 5200) 3 57 := ⟨by decide +kernel, rfl⟩
theorem iX0_passIsland_53 : zI cX0_passIsland 53 (.istore_n 3) 1 54 := ⟨by decide +kernel, rfl⟩
theorem iX0_passIsland_52 : zI cX0_passIsland 52 (.isub) 1 53 := ⟨by decide +kernel, rfl⟩
theorem iX0_passIsland_48 : zI cX0_passIsland 48 (.iload_n 1) 1 49 := ⟨by decide +kernel, rfl⟩
theorem iX0_passIsland_45 : zI cX0_passIsland 45 (.getfield 15) 3 48 := ⟨by decide +kernel, rfl⟩
theorem iX0_passIsland_44 : zI cX0_passIsland 44 (.aload_n 0) 1 45 := ⟨by decide +kernel, rfl⟩
theorem iX0_passIsland_40 : zI cX0_passIsland 40 (.iload_n 1) 1 41 := ⟨by decide +kernel, rfl⟩
theorem iX0_passIsland_37 : zI cX0_passIsland 37 (.getfield 15) 3 40 := ⟨by decide +kernel, rfl⟩
theorem iX0_passIsland_36 : zI cX0_passIsland 36 (.aload_n 0) 1 37 := ⟨by decide +kernel, rfl⟩
theorem iX0_passIsland_32 : zI cX0_passIsland 32 (.invokevirtual 58) 3 35 := ⟨by decide +kernel, rfl⟩
theorem iX0_passIsland_35 : zI cX0_passIsland 35 (.return_) 1 36 := ⟨by decide +kernel, rfl⟩
theorem iX0_passIsland_31 : zI cX0_passIsland 31 (.iload_n 1) 1 32 := ⟨by decide +kernel, rfl⟩
theorem iX0_passIsland_30 : zI cX0_passIsland 30 (.aload_n 0) 1 31 := ⟨by decide +kernel, rfl⟩
theorem iX0_passIsland_26 : zI cX0_passIsland 26 (.iload_n 2) 1 27 := ⟨by decide +kernel, rfl⟩
theorem iX0_passIsland_25 : zI cX0_passIsland 25 (.istore_n 2) 1 26 := ⟨by decide +kernel, rfl⟩
theorem iX0_passIsland_21 : zI cX0_passIsland 21 (.iload_n 1) 1 22 := ⟨by decide +kernel, rfl⟩
theorem iX0_passIsland_18 : zI cX0_passIsland 18 (.getfield 15) 3 21 := ⟨by decide +kernel, rfl⟩
theorem iX0_passIsland_17 : zI cX0_passIsland 17 (.aload_n 0) 1 18 := ⟨by decide +kernel, rfl⟩
theorem iX0_passIsland_13 : zI cX0_passIsland 13 (.iload_n 1) 1 14 := ⟨by decide +kernel, rfl⟩
theorem iX0_passIsland_12 : zI cX0_passIsland 12 (.aload_n 0) 1 13 := ⟨by decide +kernel, rfl⟩
theorem iX0_passIsland_11 : zI cX0_passIsland 11 (.return_) 1 12 := ⟨by decide +kernel, rfl⟩
theorem iX0_passIsland_4 : zI cX0_passIsland 4 (.iload_n 1) 1 5 := ⟨by decide +kernel, rfl⟩
theorem iX0_passIsland_1 : zI cX0_passIsland 1 (.getfield 15) 3 4 := ⟨by decide +kernel, rfl⟩
theorem iX0_passIsland_0 : zI cX0_passIsland 0 (.aload_n 0) 1 1 := ⟨by decide +kernel, rfl⟩
set_option maxHeartbeats 4000000 in
set_option maxRecDepth 100000 in
theorem m_Co_passIsland (c g : Nat) (hc : isC c g) (hg : isG g) (x1 : Int32) (h : zH) : zM yX0_passIsland cX0_passIsland 6 none 4 shX (fun ad => [.ref (ad c), .int x1]) h eV (Co_passIsland c g x1 h) := by
  refine zM.of (by decide) (fun _ => rfl) (fun _ => Nat.le_of_ble_eq_true rfl) (fun X ad hnL C => ?_)
  show zG X ad shX eV 0 [some (.ref (ad c)), some (.int x1), none, none, none, none] [] h _
  unfold Co_passIsland
  refine g_aload_n C iX0_passIsland_0 rfl ?_
  refine g_getR (b := g) C fX0_15 iX0_passIsland_1 hc rfl ?_
  refine g_iload_n C iX0_passIsland_4 rfl ?_
  refine g_callV C wX0_47 iX0_passIsland_5 (m_Gr_isDark g hg x1 h) (by decide) hg.1 rfl rfl rfl rfl (Nat.le_of_ble_eq_true rfl) (fun r => ?_)
  show zG X ad shX eV 8 [some (.ref (ad c)), some (.int x1), none, none, none, none] [.int r] h _
  refine g_if_eq C 12 iX0_passIsland_8 (by decide) (fun c8 => ?_) (fun c8 => ?_)
  · refine g_aload_n C iX0_passIsland_12 rfl ?_
    refine g_iload_n C iX0_passIsland_13 rfl ?_
    refine g_callV C wX0_51 iX0_passIsland_14 (m_Co_follow c g hc hg x1 h) (by decide) hc rfl rfl rfl rfl (Nat.le_of_ble_eq_true rfl) (fun h_1 => ?_)
    show zG X ad shX eV 17 [some (.ref (ad c)), some (.int x1), none, none, none, none] [] h_1 _
    refine g_aload_n C iX0_passIsland_17 rfl ?_
    refine g_getR (b := g) C fX0_15 iX0_passIsland_18 hc rfl ?_
    refine g_iload_n C iX0_passIsland_21 rfl ?_
    refine g_callV C wX0_54 iX0_passIsland_22 (m_Gr_heavyOf g hg x1 h_1) (by decide) hg.1 rfl rfl rfl rfl (Nat.le_of_ble_eq_true rfl) (fun r_1 => ?_)
    show zG X ad shX eV 25 [some (.ref (ad c)), some (.int x1), none, none, none, none] [.int r_1] h_1 _
    refine g_istore_n (lv' := [some (.ref (ad c)), some (.int x1), some (.int r_1), none, none, none]) C hnL iX0_passIsland_25 (by decide) rfl ?_
    refine g_iload_n C iX0_passIsland_26 rfl ?_
    refine g_if_ne C 36 iX0_passIsland_27 (by decide) (fun c27 => ?_) (fun c27 => ?_)
    · refine g_aload_n C iX0_passIsland_30 rfl ?_
      refine g_iload_n C iX0_passIsland_31 rfl ?_
      refine g_callV C wX0_58 iX0_passIsland_32 (m_Co_darken c g hc hg x1 h_1) (by decide) hc rfl rfl rfl rfl (Nat.le_of_ble_eq_true rfl) (fun h_8 => ?_)
      show zG X ad shX eV 35 [some (.ref (ad c)), some (.int x1), some (.int r_1), none, none, none] [] h_8 _
      exact g_vret C iX0_passIsland_35 rfl
    · refine g_aload_n C iX0_passIsland_36 rfl ?_
      refine g_getR (b := g) C fX0_15 iX0_passIsland_37 hc rfl ?_
      refine g_iload_n C iX0_passIsland_40 rfl ?_
      refine g_callV C wX0_61 iX0_passIsland_41 (m_Gr_givenOf g hg x1 h_1) (by decide) hg.1 rfl rfl rfl rfl (Nat.le_of_ble_eq_true rfl) (fun r_2 => ?_)
      show zG X ad shX eV 44 [some (.ref (ad c)), some (.int x1), some (.int r_1), none, none, none] [.int r_2] h_1 _
      refine g_aload_n C iX0_passIsland_44 rfl ?_
      refine g_getR (b := g) C fX0_15 iX0_passIsland_45 hc rfl ?_
      refine g_iload_n C iX0_passIsland_48 rfl ?_
      refine g_callV C wX0_64 iX0_passIsland_49 (m_Gr_loadOf g hg x1 h_1) (by decide) hg.1 rfl rfl rfl rfl (Nat.le_of_ble_eq_true rfl) (fun r_3 => ?_)
      show zG X ad shX eV 52 [some (.ref (ad c)), some (.int x1), some (.int r_1), none, none, none] [.int r_3, .int r_2] h_1 _
      refine g_isub C iX0_passIsland_52 ?_
      refine g_top (fun x3 => ?_)
      refine g_istore_n (lv' := [some (.ref (ad c)), some (.int x1), some (.int r_1), some (.int x3), none, none]) C hnL iX0_passIsland_53 (by decide) rfl ?_
      refine g_sipush C 5200 iX0_passIsland_54 (by decide) ?_
      refine g_aload_n C iX0_passIsland_57 rfl ?_
      refine g_getR (b := g) C fX0_15 iX0_passIsland_58 hc rfl ?_
      refine g_getR (b := (g + 3)) C fX0_67 iX0_passIsland_61 hg.1 rfl ?_
      refine g_iload_n C iX0_passIsland_64 rfl ?_
      refine g_iaload C iX0_passIsland_65 hg.2.2.2.1 ?_
      refine g_bipush C 10 iX0_passIsland_66 (by decide) ?_
      refine g_iload_n C iX0_passIsland_68 rfl ?_
      refine g_imul C iX0_passIsland_69 ?_
      refine g_iload_n C iX0_passIsland_70 rfl ?_
      refine g_idiv C iX0_passIsland_71 ?_
      refine g_iadd C iX0_passIsland_72 ?_
      refine g_min C wX0_70 iX0_passIsland_73 (by decide) (Nat.le_of_ble_eq_true rfl) ?_
      refine g_top (fun x4 => ?_)
      refine g_istore (lv' := [some (.ref (ad c)), some (.int x1), some (.int r_1), some (.int x3), some (.int x4), none]) C hnL iX0_passIsland_76 (by decide) rfl ?_
      refine g_iload C iX0_passIsland_78 rfl ?_
      refine g_sipush C 4700 iX0_passIsland_80 (by decide) ?_
      refine g_icmp_ge C 92 iX0_passIsland_83 (by decide) (fun c83 => ?_) (fun c83 => ?_)
      · refine g_aload_n C iX0_passIsland_92 rfl ?_
        refine g_getR (b := g) C fX0_15 iX0_passIsland_93 hc rfl ?_
        refine g_getR (b := (g + 3)) C fX0_67 iX0_passIsland_96 hg.1 rfl ?_
        refine g_iload_n C iX0_passIsland_99 rfl ?_
        refine g_iload C iX0_passIsland_100 rfl ?_
        refine g_iastore C iX0_passIsland_102 hg.2.2.2.1 (fun h_2 => ?_)
        refine g_iconst C 1 iX0_passIsland_103 (by decide) ?_
        refine g_istore (lv' := [some (.ref (ad c)), some (.int x1), some (.int r_1), some (.int x3), some (.int x4), some (.int 1)]) C hnL iX0_passIsland_104 (by decide) rfl ?_
        have L106 : ∀ (k131 : zH → Option (zH)), (∀ (hy : zH), zG X ad shX eV 131 [some (.ref (ad c)), some (.int x1), none, none, none, none] [] hy (k131 hy)) → ∀ (n : Nat) (x5 : Int32) (h_3 : zH), zG X ad shX eV 106 [some (.ref (ad c)), some (.int x1), none, none, none, some (.int x5)] [] h_3 (Co_passIsland_L106 c g x1 k131 n x5 h_3) := by
          intro k131 hk131 n
          induction n with
          | zero =>
            intro x5 h_3
            exact g_none
          | succ n ih106 =>
            intro x5 h_3
            rw [Co_passIsland_L106]
            refine g_iload C iX0_passIsland_106 rfl ?_
            refine g_aload_n C iX0_passIsland_108 rfl ?_
            refine g_getR (b := 17) C fX0_9 iX0_passIsland_109 hc rfl ?_
            refine g_getI C fX0_76 iX0_passIsland_112 isP17.1 rfl ?_
            refine g_icmp_gt C 131 iX0_passIsland_115 (by decide) (fun c115 => ?_) (fun c115 => ?_)
            · refine g_sub (lv' := [some (.ref (ad c)), some (.int x1), none, none, none, none]) ⟨rfl, ⟨rfl, trivial⟩⟩ ?_
              exact hk131 _
            · refine g_aload_n C iX0_passIsland_118 rfl ?_
              refine g_iload_n C iX0_passIsland_119 rfl ?_
              refine g_iload C iX0_passIsland_120 rfl ?_
              refine g_callV C wX0_79 iX0_passIsland_122 (m_Co_passStage c g hc hg x1 x5 h_3) (by decide) hc rfl rfl rfl rfl (Nat.le_of_ble_eq_true rfl) (fun h_4 => ?_)
              show zG X ad shX eV 125 [some (.ref (ad c)), some (.int x1), none, none, none, some (.int x5)] [] h_4 _
              refine g_iinc (v := (x5 + 1)) (lv' := [some (.ref (ad c)), some (.int x1), none, none, none, some (.int (x5 + 1))]) C hnL iX0_passIsland_125 (by decide) rfl rfl rfl ?_
              refine g_goto C 106 iX0_passIsland_128 (by decide) ?_
              exact ih106 _ _
        refine g_sub (lv' := [some (.ref (ad c)), some (.int x1), none, none, none, some (.int 1)]) ⟨rfl, ⟨rfl, ⟨rfl, trivial⟩⟩⟩ ?_
        refine L106 _ (fun h_5 => ?_) 1000 _ _
        show zG X ad shX eV 131 [some (.ref (ad c)), some (.int x1), none, none, none, none] [] h_5 _
        refine g_aload_n C iX0_passIsland_131 rfl ?_
        refine g_iload_n C iX0_passIsland_132 rfl ?_
        refine g_callV C wX0_83 iX0_passIsland_133 (m_Co_passBack c g hc hg x1 h_5) (by decide) hc rfl rfl rfl rfl (Nat.le_of_ble_eq_true rfl) (fun h_6 => ?_)
        show zG X ad shX eV 136 [some (.ref (ad c)), some (.int x1), none, none, none, none] [] h_6 _
        exact g_vret C iX0_passIsland_136 rfl
      · refine g_aload_n C iX0_passIsland_86 rfl ?_
        refine g_iload_n C iX0_passIsland_87 rfl ?_
        refine g_callV C wX0_58 iX0_passIsland_88 (m_Co_darken c g hc hg x1 h_1) (by decide) hc rfl rfl rfl rfl (Nat.le_of_ble_eq_true rfl) (fun h_7 => ?_)
        show zG X ad shX eV 91 [some (.ref (ad c)), some (.int x1), some (.int r_1), some (.int x3), some (.int x4), none] [] h_7 _
        exact g_vret C iX0_passIsland_91 rfl
  · exact g_vret C iX0_passIsland_11 rfl

theorem fX0_29 : zFl RX0 29 1 11 := ⟨RX1, TX1, 12, rfl, by decide, (zmem 231 (by decide +kernel) (by decide +kernel)), u_inX1⟩
theorem pX0_29 : zFp RX0 29 1 11 := ⟨RX1, TX1, 12, rfl, by decide, (zmem 231 (by decide +kernel) (by decide +kernel)), u_inX1, by decide +kernel, by decide +kernel, ⟨tyX1, tyX1_ok⟩, nmX1⟩
theorem fX0_34 : zFl RX0 34 4 0 := ⟨RX4, TX4, 16, rfl, by decide, (zmem 120 (by decide +kernel) (by decide +kernel)), u_inX4⟩
theorem iX0_pass_23 : zI cX0_pass 23 (.if_icmp .ge 27) 3 26 := ⟨by decide +kernel, rfl⟩
theorem iX0_pass_36 : zI cX0_pass 36 (.if_icmp .ne 8) 3 39 := ⟨by decide +kernel, rfl⟩
theorem iX0_pass_47 : zI cX0_pass 47 (.goto (-32)) 3 50 := ⟨by decide +kernel, rfl⟩
theorem iX0_pass_44 : zI cX0_pass 44 (.iinc 1 1) 3 47 := ⟨by decide +kernel, rfl⟩
set_option maxRecDepth 100000 in
theorem wX0_43 : zCv RX0 43 yX0_passIsland cX0_passIsland 6 none 1 := ⟨⟨(zmem 525 (by decide +kernel) (by decide +kernel)), (zmem 68 (by decide +kernel) (by decide +kernel)), (zmem 528 rfl rfl), ⟨by decide, by decide, by decide +kernel⟩, by decide⟩, (zmem 526 (by decide +kernel) (by decide +kernel)), (zmem 527 (by decide +kernel) (by decide +kernel))⟩
theorem iX0_pass_41 : zI cX0_pass 41 (.invokevirtual 43) 3 44 := ⟨by decide +kernel, rfl⟩
theorem iX0_pass_40 : zI cX0_pass 40 (.iload_n 1) 1 41 := ⟨by decide +kernel, rfl⟩
theorem iX0_pass_39 : zI cX0_pass 39 (.aload_n 0) 1 40 := ⟨by decide +kernel, rfl⟩
theorem iX0_pass_35 : zI cX0_pass 35 (.iload_n 1) 1 36 := ⟨by decide +kernel, rfl⟩
theorem iX0_pass_34 : zI cX0_pass 34 (.iaload) 1 35 := ⟨by decide +kernel, rfl⟩
theorem iX0_pass_33 : zI cX0_pass 33 (.iload_n 1) 1 34 := ⟨by decide +kernel, rfl⟩
theorem iX0_pass_30 : zI cX0_pass 30 (.getfield 39) 3 33 := ⟨by decide +kernel, rfl⟩
theorem iX0_pass_27 : zI cX0_pass 27 (.getfield 15) 3 30 := ⟨by decide +kernel, rfl⟩
theorem iX0_pass_26 : zI cX0_pass 26 (.aload_n 0) 1 27 := ⟨by decide +kernel, rfl⟩
theorem iX0_pass_20 : zI cX0_pass 20 (.getfield 34) 3 23 := ⟨by decide +kernel, rfl⟩
theorem iX0_pass_17 : zI cX0_pass 17 (.getfield 9) 3 20 := ⟨by decide +kernel, rfl⟩
theorem iX0_pass_16 : zI cX0_pass 16 (.aload_n 0) 1 17 := ⟨by decide +kernel, rfl⟩
theorem iX0_pass_15 : zI cX0_pass 15 (.iload_n 1) 1 16 := ⟨by decide +kernel, rfl⟩
theorem iX0_pass_50 : zI cX0_pass 50 (.return_) 1 51 := ⟨by decide +kernel, rfl⟩
theorem iX0_pass_14 : zI cX0_pass 14 (.istore_n 1) 1 15 := ⟨by decide +kernel, rfl⟩
theorem iX0_pass_13 : zI cX0_pass 13 (.iconst 0) 1 14 := ⟨by decide +kernel, rfl⟩
theorem iX0_pass_10 : zI cX0_pass 10 (.putfield 29) 3 13 := ⟨by decide +kernel, rfl⟩
theorem iX0_pass_9 : zI cX0_pass 9 (.iadd) 1 10 := ⟨by decide +kernel, rfl⟩
theorem iX0_pass_8 : zI cX0_pass 8 (.iconst 1) 1 9 := ⟨by decide +kernel, rfl⟩
theorem iX0_pass_5 : zI cX0_pass 5 (.getfield 29) 3 8 := ⟨by decide +kernel, rfl⟩
theorem iX0_pass_4 : zI cX0_pass 4 (.dup) 1 5 := ⟨by decide +kernel, rfl⟩
theorem iX0_pass_1 : zI cX0_pass 1 (.getfield 15) 3 4 := ⟨by decide +kernel, rfl⟩
theorem iX0_pass_0 : zI cX0_pass 0 (.aload_n 0) 1 1 := ⟨by decide +kernel, rfl⟩
set_option maxHeartbeats 4000000 in
set_option maxRecDepth 100000 in
theorem m_Co_pass (c g : Nat) (hc : isC c g) (hg : isG g) (h : zH) : zM yX0_pass cX0_pass 2 none 5 shX (fun ad => [.ref (ad c)]) h eV (Co_pass c g h) := by
  refine zM.of (by decide) (fun _ => rfl) (fun _ => Nat.le_of_ble_eq_true rfl) (fun X ad hnL C => ?_)
  show zG X ad shX eV 0 [some (.ref (ad c)), none] [] h _
  unfold Co_pass
  refine g_aload_n C iX0_pass_0 rfl ?_
  refine g_getR (b := g) C fX0_15 iX0_pass_1 hc rfl ?_
  refine g_dup C iX0_pass_4 rfl ?_
  refine g_getI C fX0_29 iX0_pass_5 hg.1 rfl ?_
  refine g_iconst C 1 iX0_pass_8 (by decide) ?_
  refine g_iadd C iX0_pass_9 ?_
  refine g_putI C pX0_29 iX0_pass_10 hg.1 rfl (fun h_1 => ?_)
  refine g_iconst C 0 iX0_pass_13 (by decide) ?_
  refine g_istore_n (lv' := [some (.ref (ad c)), some (.int 0)]) C hnL iX0_pass_14 (by decide) rfl ?_
  have L15 : ∀ (k50 : zH → Option (zH)), (∀ (hy : zH), zG X ad shX eV 50 [none, none] [] hy (k50 hy)) → ∀ (n : Nat) (x1 : Int32) (h_2 : zH), zG X ad shX eV 15 [some (.ref (ad c)), some (.int x1)] [] h_2 (Co_pass_L15 c g k50 n x1 h_2) := by
    intro k50 hk50 n
    induction n with
    | zero =>
      intro x1 h_2
      exact g_none
    | succ n ih15 =>
      intro x1 h_2
      rw [Co_pass_L15]
      refine g_iload_n C iX0_pass_15 rfl ?_
      refine g_aload_n C iX0_pass_16 rfl ?_
      refine g_getR (b := 17) C fX0_9 iX0_pass_17 hc rfl ?_
      refine g_getI C fX0_34 iX0_pass_20 isP17.1 rfl ?_
      refine g_icmp_ge C 50 iX0_pass_23 (by decide) (fun c23 => ?_) (fun c23 => ?_)
      · refine g_sub (lv' := [none, none]) trivial ?_
        exact hk50 _
      · refine g_aload_n C iX0_pass_26 rfl ?_
        refine g_getR (b := g) C fX0_15 iX0_pass_27 hc rfl ?_
        refine g_getR (b := (g + 1)) C fX0_39 iX0_pass_30 hg.1 rfl ?_
        refine g_iload_n C iX0_pass_33 rfl ?_
        refine g_iaload C iX0_pass_34 hg.2.1 ?_
        refine g_iload_n C iX0_pass_35 rfl ?_
        refine g_icmp_ne C 44 iX0_pass_36 (by decide) (fun c36 => ?_) (fun c36 => ?_)
        · refine g_aload_n C iX0_pass_39 rfl ?_
          refine g_iload_n C iX0_pass_40 rfl ?_
          refine g_callV C wX0_43 iX0_pass_41 (m_Co_passIsland c g hc hg x1 h_2) (by decide) hc rfl rfl rfl rfl (Nat.le_of_ble_eq_true rfl) (fun h_3 => ?_)
          show zG X ad shX eV 44 [some (.ref (ad c)), some (.int x1)] [] h_3 _
          refine g_iinc (v := (x1 + 1)) (lv' := [some (.ref (ad c)), some (.int (x1 + 1))]) C hnL iX0_pass_44 (by decide) rfl rfl rfl ?_
          refine g_goto C 15 iX0_pass_47 (by decide) ?_
          exact ih15 _ _
        · refine g_iinc (v := (x1 + 1)) (lv' := [some (.ref (ad c)), some (.int (x1 + 1))]) C hnL iX0_pass_44 (by decide) rfl rfl rfl ?_
          refine g_goto C 15 iX0_pass_47 (by decide) ?_
          exact ih15 _ _
  refine L15 _ (fun h_4 => ?_) 1000 _ _
  show zG X ad shX eV 50 [none, none] [] h_4 _
  exact g_vret C iX0_pass_50 rfl

set_option maxRecDepth 100000 in
theorem wX1_37 : zCp RX1 37 := ⟨(zmem 418 (by decide +kernel) (by decide +kernel)), (zmem 420 (by decide +kernel) (by decide +kernel)), (zmem 419 (by decide +kernel) (by decide +kernel)), (zmem 74 (by decide +kernel) (by decide +kernel))⟩
theorem iX1_copy_12 : zI cX1_copy 12 (.invokestatic 37) 3 15 := ⟨by decide +kernel, rfl⟩
theorem iX1_copy_27 : zI cX1_copy 27 (.invokestatic 37) 3 30 := ⟨by decide +kernel, rfl⟩
theorem fX1_21 : zFl RX1 21 1 5 := ⟨RX1, TX1, 12, rfl, by decide, (zmem 213 (by decide +kernel) (by decide +kernel)), u_inX1⟩
theorem iX1_copy_42 : zI cX1_copy 42 (.invokestatic 37) 3 45 := ⟨by decide +kernel, rfl⟩
theorem iX1_copy_57 : zI cX1_copy 57 (.invokestatic 37) 3 60 := ⟨by decide +kernel, rfl⟩
theorem iX1_copy_72 : zI cX1_copy 72 (.invokestatic 37) 3 75 := ⟨by decide +kernel, rfl⟩
theorem fX1_30 : zFl RX1 30 1 10 := ⟨RX1, TX1, 12, rfl, by decide, (zmem 227 (by decide +kernel) (by decide +kernel)), u_inX1⟩
theorem iX1_copy_87 : zI cX1_copy 87 (.invokestatic 37) 3 90 := ⟨by decide +kernel, rfl⟩
theorem fX1_43 : zFl RX1 43 1 1 := ⟨RX1, TX1, 12, rfl, by decide, (zmem 204 (by decide +kernel) (by decide +kernel)), u_inX1⟩
theorem pX1_43 : zFp RX1 43 1 1 := ⟨RX1, TX1, 12, rfl, by decide, (zmem 204 (by decide +kernel) (by decide +kernel)), u_inX1, by decide +kernel, by decide +kernel, ⟨tyX1, tyX1_ok⟩, nmX1⟩
theorem fX1_53 : zFl RX1 53 1 11 := ⟨RX1, TX1, 12, rfl, by decide, (zmem 230 (by decide +kernel) (by decide +kernel)), u_inX1⟩
theorem pX1_53 : zFp RX1 53 1 11 := ⟨RX1, TX1, 12, rfl, by decide, (zmem 230 (by decide +kernel) (by decide +kernel)), u_inX1, by decide +kernel, by decide +kernel, ⟨tyX1, tyX1_ok⟩, nmX1⟩
theorem iX1_copy_122 : zI cX1_copy 122 (.return_) 1 123 := ⟨by decide +kernel, rfl⟩
theorem iX1_copy_119 : zI cX1_copy 119 (.putfield 53) 3 122 := ⟨by decide +kernel, rfl⟩
theorem iX1_copy_116 : zI cX1_copy 116 (.getfield 53) 3 119 := ⟨by decide +kernel, rfl⟩
theorem iX1_copy_115 : zI cX1_copy 115 (.aload_n 1) 1 116 := ⟨by decide +kernel, rfl⟩
theorem iX1_copy_114 : zI cX1_copy 114 (.aload_n 0) 1 115 := ⟨by decide +kernel, rfl⟩
theorem iX1_copy_111 : zI cX1_copy 111 (.putfield 50) 3 114 := ⟨by decide +kernel, rfl⟩
theorem iX1_copy_108 : zI cX1_copy 108 (.getfield 50) 3 111 := ⟨by decide +kernel, rfl⟩
theorem iX1_copy_107 : zI cX1_copy 107 (.aload_n 1) 1 108 := ⟨by decide +kernel, rfl⟩
theorem iX1_copy_106 : zI cX1_copy 106 (.aload_n 0) 1 107 := ⟨by decide +kernel, rfl⟩
theorem iX1_copy_103 : zI cX1_copy 103 (.putfield 47) 3 106 := ⟨by decide +kernel, rfl⟩
theorem iX1_copy_100 : zI cX1_copy 100 (.getfield 47) 3 103 := ⟨by decide +kernel, rfl⟩
theorem iX1_copy_99 : zI cX1_copy 99 (.aload_n 1) 1 100 := ⟨by decide +kernel, rfl⟩
theorem iX1_copy_98 : zI cX1_copy 98 (.aload_n 0) 1 99 := ⟨by decide +kernel, rfl⟩
theorem iX1_copy_95 : zI cX1_copy 95 (.putfield 43) 3 98 := ⟨by decide +kernel, rfl⟩
theorem iX1_copy_92 : zI cX1_copy 92 (.getfield 43) 3 95 := ⟨by decide +kernel, rfl⟩
theorem iX1_copy_91 : zI cX1_copy 91 (.aload_n 1) 1 92 := ⟨by decide +kernel, rfl⟩
theorem iX1_copy_90 : zI cX1_copy 90 (.aload_n 0) 1 91 := ⟨by decide +kernel, rfl⟩
theorem iX1_copy_85 : zI cX1_copy 85 (.bipush 6) 2 87 := ⟨by decide +kernel, rfl⟩
theorem iX1_copy_84 : zI cX1_copy 84 (.iconst 0) 1 85 := ⟨by decide +kernel, rfl⟩
theorem iX1_copy_81 : zI cX1_copy 81 (.getfield 30) 3 84 := ⟨by decide +kernel, rfl⟩
theorem iX1_copy_80 : zI cX1_copy 80 (.aload_n 0) 1 81 := ⟨by decide +kernel, rfl⟩
theorem iX1_copy_79 : zI cX1_copy 79 (.iconst 0) 1 80 := ⟨by decide +kernel, rfl⟩
theorem iX1_copy_76 : zI cX1_copy 76 (.getfield 30) 3 79 := ⟨by decide +kernel, rfl⟩
theorem iX1_copy_75 : zI cX1_copy 75 (.aload_n 1) 1 76 := ⟨by decide +kernel, rfl⟩
theorem iX1_copy_70 : zI cX1_copy 70 (.bipush 9) 2 72 := ⟨by decide +kernel, rfl⟩
theorem iX1_copy_69 : zI cX1_copy 69 (.iconst 0) 1 70 := ⟨by decide +kernel, rfl⟩
theorem iX1_copy_66 : zI cX1_copy 66 (.getfield 27) 3 69 := ⟨by decide +kernel, rfl⟩
theorem iX1_copy_65 : zI cX1_copy 65 (.aload_n 0) 1 66 := ⟨by decide +kernel, rfl⟩
theorem iX1_copy_64 : zI cX1_copy 64 (.iconst 0) 1 65 := ⟨by decide +kernel, rfl⟩
theorem iX1_copy_61 : zI cX1_copy 61 (.getfield 27) 3 64 := ⟨by decide +kernel, rfl⟩
theorem iX1_copy_60 : zI cX1_copy 60 (.aload_n 1) 1 61 := ⟨by decide +kernel, rfl⟩
theorem iX1_copy_55 : zI cX1_copy 55 (.bipush 6) 2 57 := ⟨by decide +kernel, rfl⟩
theorem iX1_copy_54 : zI cX1_copy 54 (.iconst 0) 1 55 := ⟨by decide +kernel, rfl⟩
theorem iX1_copy_51 : zI cX1_copy 51 (.getfield 24) 3 54 := ⟨by decide +kernel, rfl⟩
theorem iX1_copy_50 : zI cX1_copy 50 (.aload_n 0) 1 51 := ⟨by decide +kernel, rfl⟩
theorem iX1_copy_49 : zI cX1_copy 49 (.iconst 0) 1 50 := ⟨by decide +kernel, rfl⟩
theorem iX1_copy_46 : zI cX1_copy 46 (.getfield 24) 3 49 := ⟨by decide +kernel, rfl⟩
theorem iX1_copy_45 : zI cX1_copy 45 (.aload_n 1) 1 46 := ⟨by decide +kernel, rfl⟩
theorem iX1_copy_40 : zI cX1_copy 40 (.bipush 36) 2 42 := ⟨by decide +kernel, rfl⟩
theorem iX1_copy_39 : zI cX1_copy 39 (.iconst 0) 1 40 := ⟨by decide +kernel, rfl⟩
theorem iX1_copy_36 : zI cX1_copy 36 (.getfield 21) 3 39 := ⟨by decide +kernel, rfl⟩
theorem iX1_copy_35 : zI cX1_copy 35 (.aload_n 0) 1 36 := ⟨by decide +kernel, rfl⟩
theorem iX1_copy_34 : zI cX1_copy 34 (.iconst 0) 1 35 := ⟨by decide +kernel, rfl⟩
theorem iX1_copy_31 : zI cX1_copy 31 (.getfield 21) 3 34 := ⟨by decide +kernel, rfl⟩
theorem iX1_copy_30 : zI cX1_copy 30 (.aload_n 1) 1 31 := ⟨by decide +kernel, rfl⟩
theorem iX1_copy_25 : zI cX1_copy 25 (.bipush 6) 2 27 := ⟨by decide +kernel, rfl⟩
theorem iX1_copy_24 : zI cX1_copy 24 (.iconst 0) 1 25 := ⟨by decide +kernel, rfl⟩
theorem iX1_copy_21 : zI cX1_copy 21 (.getfield 18) 3 24 := ⟨by decide +kernel, rfl⟩
theorem iX1_copy_20 : zI cX1_copy 20 (.aload_n 0) 1 21 := ⟨by decide +kernel, rfl⟩
theorem iX1_copy_19 : zI cX1_copy 19 (.iconst 0) 1 20 := ⟨by decide +kernel, rfl⟩
theorem iX1_copy_16 : zI cX1_copy 16 (.getfield 18) 3 19 := ⟨by decide +kernel, rfl⟩
theorem iX1_copy_15 : zI cX1_copy 15 (.aload_n 1) 1 16 := ⟨by decide +kernel, rfl⟩
theorem iX1_copy_10 : zI cX1_copy 10 (.bipush 6) 2 12 := ⟨by decide +kernel, rfl⟩
theorem iX1_copy_9 : zI cX1_copy 9 (.iconst 0) 1 10 := ⟨by decide +kernel, rfl⟩
theorem iX1_copy_6 : zI cX1_copy 6 (.getfield 9) 3 9 := ⟨by decide +kernel, rfl⟩
theorem iX1_copy_5 : zI cX1_copy 5 (.aload_n 0) 1 6 := ⟨by decide +kernel, rfl⟩
theorem iX1_copy_4 : zI cX1_copy 4 (.iconst 0) 1 5 := ⟨by decide +kernel, rfl⟩
theorem iX1_copy_1 : zI cX1_copy 1 (.getfield 9) 3 4 := ⟨by decide +kernel, rfl⟩
theorem iX1_copy_0 : zI cX1_copy 0 (.aload_n 1) 1 1 := ⟨by decide +kernel, rfl⟩
set_option maxHeartbeats 4000000 in
set_option maxRecDepth 100000 in
theorem m_Gr_copy (g : Nat) (hg : isG g) (o : Nat) (ho : isG o) (h : zH) : zM yX1_copy cX1_copy 2 none 2 shX (fun ad => [.ref (ad g), .ref (ad o)]) h eV (Gr_copy g o h) := by
  refine zM.of (by decide) (fun _ => rfl) (fun _ => Nat.le_of_ble_eq_true rfl) (fun X ad hnL C => ?_)
  show zG X ad shX eV 0 [some (.ref (ad g)), some (.ref (ad o))] [] h _
  unfold Gr_copy
  refine g_aload_n C iX1_copy_0 rfl ?_
  refine g_getR (b := (o + 1)) C fX1_9 iX1_copy_1 ho.1 rfl ?_
  refine g_iconst C 0 iX1_copy_4 (by decide) ?_
  refine g_aload_n C iX1_copy_5 rfl ?_
  refine g_getR (b := (g + 1)) C fX1_9 iX1_copy_6 hg.1 rfl ?_
  refine g_iconst C 0 iX1_copy_9 (by decide) ?_
  refine g_bipush C 6 iX1_copy_10 (by decide) ?_
  refine g_copy C wX1_37 iX1_copy_12 (by decide) (Nat.le_of_ble_eq_true rfl) ho.2.1 hg.2.1 (by decide) (by decide) (by decide) (by decide) (fun h_1 => ?_)
  refine g_aload_n C iX1_copy_15 rfl ?_
  refine g_getR (b := (o + 3)) C fX1_18 iX1_copy_16 ho.1 rfl ?_
  refine g_iconst C 0 iX1_copy_19 (by decide) ?_
  refine g_aload_n C iX1_copy_20 rfl ?_
  refine g_getR (b := (g + 3)) C fX1_18 iX1_copy_21 hg.1 rfl ?_
  refine g_iconst C 0 iX1_copy_24 (by decide) ?_
  refine g_bipush C 6 iX1_copy_25 (by decide) ?_
  refine g_copy C wX1_37 iX1_copy_27 (by decide) (Nat.le_of_ble_eq_true rfl) ho.2.2.2.1 hg.2.2.2.1 (by decide) (by decide) (by decide) (by decide) (fun h_2 => ?_)
  refine g_aload_n C iX1_copy_30 rfl ?_
  refine g_getR (b := (o + 4)) C fX1_21 iX1_copy_31 ho.1 rfl ?_
  refine g_iconst C 0 iX1_copy_34 (by decide) ?_
  refine g_aload_n C iX1_copy_35 rfl ?_
  refine g_getR (b := (g + 4)) C fX1_21 iX1_copy_36 hg.1 rfl ?_
  refine g_iconst C 0 iX1_copy_39 (by decide) ?_
  refine g_bipush C 36 iX1_copy_40 (by decide) ?_
  refine g_copy C wX1_37 iX1_copy_42 (by decide) (Nat.le_of_ble_eq_true rfl) ho.2.2.2.2.1 hg.2.2.2.2.1 (by decide) (by decide) (by decide) (by decide) (fun h_3 => ?_)
  refine g_aload_n C iX1_copy_45 rfl ?_
  refine g_getR (b := (o + 5)) C fX1_24 iX1_copy_46 ho.1 rfl ?_
  refine g_iconst C 0 iX1_copy_49 (by decide) ?_
  refine g_aload_n C iX1_copy_50 rfl ?_
  refine g_getR (b := (g + 5)) C fX1_24 iX1_copy_51 hg.1 rfl ?_
  refine g_iconst C 0 iX1_copy_54 (by decide) ?_
  refine g_bipush C 6 iX1_copy_55 (by decide) ?_
  refine g_copy C wX1_37 iX1_copy_57 (by decide) (Nat.le_of_ble_eq_true rfl) ho.2.2.2.2.2.1 hg.2.2.2.2.2.1 (by decide) (by decide) (by decide) (by decide) (fun h_4 => ?_)
  refine g_aload_n C iX1_copy_60 rfl ?_
  refine g_getR (b := (o + 6)) C fX1_27 iX1_copy_61 ho.1 rfl ?_
  refine g_iconst C 0 iX1_copy_64 (by decide) ?_
  refine g_aload_n C iX1_copy_65 rfl ?_
  refine g_getR (b := (g + 6)) C fX1_27 iX1_copy_66 hg.1 rfl ?_
  refine g_iconst C 0 iX1_copy_69 (by decide) ?_
  refine g_bipush C 9 iX1_copy_70 (by decide) ?_
  refine g_copy C wX1_37 iX1_copy_72 (by decide) (Nat.le_of_ble_eq_true rfl) ho.2.2.2.2.2.2.1 hg.2.2.2.2.2.2.1 (by decide) (by decide) (by decide) (by decide) (fun h_5 => ?_)
  refine g_aload_n C iX1_copy_75 rfl ?_
  refine g_getR (b := (o + 7)) C fX1_30 iX1_copy_76 ho.1 rfl ?_
  refine g_iconst C 0 iX1_copy_79 (by decide) ?_
  refine g_aload_n C iX1_copy_80 rfl ?_
  refine g_getR (b := (g + 7)) C fX1_30 iX1_copy_81 hg.1 rfl ?_
  refine g_iconst C 0 iX1_copy_84 (by decide) ?_
  refine g_bipush C 6 iX1_copy_85 (by decide) ?_
  refine g_copy C wX1_37 iX1_copy_87 (by decide) (Nat.le_of_ble_eq_true rfl) ho.2.2.2.2.2.2.2 hg.2.2.2.2.2.2.2 (by decide) (by decide) (by decide) (by decide) (fun h_6 => ?_)
  refine g_aload_n C iX1_copy_90 rfl ?_
  refine g_aload_n C iX1_copy_91 rfl ?_
  refine g_getI C fX1_43 iX1_copy_92 ho.1 rfl ?_
  refine g_putI C pX1_43 iX1_copy_95 hg.1 rfl (fun h_7 => ?_)
  refine g_aload_n C iX1_copy_98 rfl ?_
  refine g_aload_n C iX1_copy_99 rfl ?_
  refine g_getI C fX1_47 iX1_copy_100 ho.1 rfl ?_
  refine g_putI C pX1_47 iX1_copy_103 hg.1 rfl (fun h_8 => ?_)
  refine g_aload_n C iX1_copy_106 rfl ?_
  refine g_aload_n C iX1_copy_107 rfl ?_
  refine g_getI C fX1_50 iX1_copy_108 ho.1 rfl ?_
  refine g_putI C pX1_50 iX1_copy_111 hg.1 rfl (fun h_9 => ?_)
  refine g_aload_n C iX1_copy_114 rfl ?_
  refine g_aload_n C iX1_copy_115 rfl ?_
  refine g_getI C fX1_53 iX1_copy_116 ho.1 rfl ?_
  refine g_putI C pX1_53 iX1_copy_119 hg.1 rfl (fun h_10 => ?_)
  exact g_vret C iX1_copy_122 rfl

theorem iX1_findRoots_5 : zI cX1_findRoots 5 (.if_icmp .ge 16) 3 8 := ⟨by decide +kernel, rfl⟩
theorem iX1_findRoots_18 : zI cX1_findRoots 18 (.goto (-16)) 3 21 := ⟨by decide +kernel, rfl⟩
theorem iX1_findRoots_15 : zI cX1_findRoots 15 (.iinc 1 1) 3 18 := ⟨by decide +kernel, rfl⟩
theorem iX1_findRoots_14 : zI cX1_findRoots 14 (.iastore) 1 15 := ⟨by decide +kernel, rfl⟩
theorem iX1_findRoots_13 : zI cX1_findRoots 13 (.iload_n 1) 1 14 := ⟨by decide +kernel, rfl⟩
theorem iX1_findRoots_12 : zI cX1_findRoots 12 (.iload_n 1) 1 13 := ⟨by decide +kernel, rfl⟩
theorem iX1_findRoots_9 : zI cX1_findRoots 9 (.getfield 9) 3 12 := ⟨by decide +kernel, rfl⟩
theorem iX1_findRoots_8 : zI cX1_findRoots 8 (.aload_n 0) 1 9 := ⟨by decide +kernel, rfl⟩
theorem iX1_findRoots_3 : zI cX1_findRoots 3 (.bipush 6) 2 5 := ⟨by decide +kernel, rfl⟩
theorem iX1_findRoots_2 : zI cX1_findRoots 2 (.iload_n 1) 1 3 := ⟨by decide +kernel, rfl⟩
theorem fX1_99 : zFl RX1 99 4 0 := ⟨RX4, TX4, 16, rfl, by decide, (zmem 122 (by decide +kernel) (by decide +kernel)), u_inX4⟩
theorem iX1_findRoots_31 : zI cX1_findRoots 31 (.if_icmp .ge 95) 3 34 := ⟨by decide +kernel, rfl⟩
theorem fX1_56 : zFl RX1 56 4 1 := ⟨RX4, TX4, 16, rfl, by decide, (zmem 124 (by decide +kernel) (by decide +kernel)), u_inX4⟩
theorem iX1_findRoots_44 : zI cX1_findRoots 44 (.if_icmp .ge 76) 3 47 := ⟨by decide +kernel, rfl⟩
theorem iX1_findRoots_52 : zI cX1_findRoots 52 (.invokestatic 102) 3 55 := ⟨by decide +kernel, rfl⟩
theorem iX1_findRoots_55 : zI cX1_findRoots 55 (.ifCond .eq 59) 3 58 := ⟨by decide +kernel, rfl⟩
theorem iX1_findRoots_117 : zI cX1_findRoots 117 (.goto (-81)) 3 120 := ⟨by decide +kernel, rfl⟩
theorem iX1_findRoots_114 : zI cX1_findRoots 114 (.iinc 2 1) 3 117 := ⟨by decide +kernel, rfl⟩
theorem fX1_106 : zFl RX1 106 4 5 := ⟨RX4, TX4, 16, rfl, by decide, (zmem 138 (by decide +kernel) (by decide +kernel)), u_inX4⟩
theorem fX1_109 : zFl RX1 109 4 6 := ⟨RX4, TX4, 16, rfl, by decide, (zmem 140 (by decide +kernel) (by decide +kernel)), u_inX4⟩
set_option maxRecDepth 100000 in
theorem wX1_93 : zMw RX1 93 Lib.Math.min.name Lib.Math.min.code 2 := ⟨(zmem 428 (by decide +kernel) (by decide +kernel)), (zmem 429 (by decide +kernel) (by decide +kernel)), (zmem 75 (by decide +kernel) (by decide +kernel)), (zmem 430 rfl rfl)⟩
theorem iX1_findRoots_92 : zI cX1_findRoots 92 (.invokestatic 93) 3 95 := ⟨by decide +kernel, rfl⟩
theorem iX1_findRoots_113 : zI cX1_findRoots 113 (.iastore) 1 114 := ⟨by decide +kernel, rfl⟩
theorem iX1_findRoots_111 : zI cX1_findRoots 111 (.iload 5) 2 113 := ⟨by decide +kernel, rfl⟩
theorem iX1_findRoots_109 : zI cX1_findRoots 109 (.iload 4) 2 111 := ⟨by decide +kernel, rfl⟩
theorem iX1_findRoots_106 : zI cX1_findRoots 106 (.getfield 9) 3 109 := ⟨by decide +kernel, rfl⟩
theorem iX1_findRoots_105 : zI cX1_findRoots 105 (.aload_n 0) 1 106 := ⟨by decide +kernel, rfl⟩
theorem iX1_findRoots_104 : zI cX1_findRoots 104 (.iastore) 1 105 := ⟨by decide +kernel, rfl⟩
theorem iX1_findRoots_102 : zI cX1_findRoots 102 (.iload 5) 2 104 := ⟨by decide +kernel, rfl⟩
theorem iX1_findRoots_101 : zI cX1_findRoots 101 (.iload_n 3) 1 102 := ⟨by decide +kernel, rfl⟩
theorem iX1_findRoots_98 : zI cX1_findRoots 98 (.getfield 9) 3 101 := ⟨by decide +kernel, rfl⟩
theorem iX1_findRoots_97 : zI cX1_findRoots 97 (.aload_n 0) 1 98 := ⟨by decide +kernel, rfl⟩
theorem iX1_findRoots_95 : zI cX1_findRoots 95 (.istore 5) 2 97 := ⟨by decide +kernel, rfl⟩
theorem iX1_findRoots_91 : zI cX1_findRoots 91 (.iaload) 1 92 := ⟨by decide +kernel, rfl⟩
theorem iX1_findRoots_89 : zI cX1_findRoots 89 (.iload 4) 2 91 := ⟨by decide +kernel, rfl⟩
theorem iX1_findRoots_86 : zI cX1_findRoots 86 (.getfield 9) 3 89 := ⟨by decide +kernel, rfl⟩
theorem iX1_findRoots_85 : zI cX1_findRoots 85 (.aload_n 0) 1 86 := ⟨by decide +kernel, rfl⟩
theorem iX1_findRoots_84 : zI cX1_findRoots 84 (.iaload) 1 85 := ⟨by decide +kernel, rfl⟩
theorem iX1_findRoots_83 : zI cX1_findRoots 83 (.iload_n 3) 1 84 := ⟨by decide +kernel, rfl⟩
theorem iX1_findRoots_80 : zI cX1_findRoots 80 (.getfield 9) 3 83 := ⟨by decide +kernel, rfl⟩
theorem iX1_findRoots_79 : zI cX1_findRoots 79 (.aload_n 0) 1 80 := ⟨by decide +kernel, rfl⟩
theorem iX1_findRoots_77 : zI cX1_findRoots 77 (.istore 4) 2 79 := ⟨by decide +kernel, rfl⟩
theorem iX1_findRoots_76 : zI cX1_findRoots 76 (.iaload) 1 77 := ⟨by decide +kernel, rfl⟩
theorem iX1_findRoots_75 : zI cX1_findRoots 75 (.iload_n 2) 1 76 := ⟨by decide +kernel, rfl⟩
theorem iX1_findRoots_72 : zI cX1_findRoots 72 (.getfield 109) 3 75 := ⟨by decide +kernel, rfl⟩
theorem iX1_findRoots_69 : zI cX1_findRoots 69 (.getfield 33) 3 72 := ⟨by decide +kernel, rfl⟩
theorem iX1_findRoots_68 : zI cX1_findRoots 68 (.aload_n 0) 1 69 := ⟨by decide +kernel, rfl⟩
theorem iX1_findRoots_67 : zI cX1_findRoots 67 (.istore_n 3) 1 68 := ⟨by decide +kernel, rfl⟩
theorem iX1_findRoots_66 : zI cX1_findRoots 66 (.iaload) 1 67 := ⟨by decide +kernel, rfl⟩
theorem iX1_findRoots_65 : zI cX1_findRoots 65 (.iload_n 2) 1 66 := ⟨by decide +kernel, rfl⟩
theorem iX1_findRoots_62 : zI cX1_findRoots 62 (.getfield 106) 3 65 := ⟨by decide +kernel, rfl⟩
theorem iX1_findRoots_59 : zI cX1_findRoots 59 (.getfield 33) 3 62 := ⟨by decide +kernel, rfl⟩
theorem iX1_findRoots_58 : zI cX1_findRoots 58 (.aload_n 0) 1 59 := ⟨by decide +kernel, rfl⟩
theorem iX1_findRoots_51 : zI cX1_findRoots 51 (.iload_n 2) 1 52 := ⟨by decide +kernel, rfl⟩
theorem iX1_findRoots_48 : zI cX1_findRoots 48 (.getfield 43) 3 51 := ⟨by decide +kernel, rfl⟩
theorem iX1_findRoots_47 : zI cX1_findRoots 47 (.aload_n 0) 1 48 := ⟨by decide +kernel, rfl⟩
theorem iX1_findRoots_41 : zI cX1_findRoots 41 (.getfield 56) 3 44 := ⟨by decide +kernel, rfl⟩
theorem iX1_findRoots_38 : zI cX1_findRoots 38 (.getfield 33) 3 41 := ⟨by decide +kernel, rfl⟩
theorem iX1_findRoots_37 : zI cX1_findRoots 37 (.aload_n 0) 1 38 := ⟨by decide +kernel, rfl⟩
theorem iX1_findRoots_36 : zI cX1_findRoots 36 (.iload_n 2) 1 37 := ⟨by decide +kernel, rfl⟩
theorem iX1_findRoots_123 : zI cX1_findRoots 123 (.goto (-100)) 3 126 := ⟨by decide +kernel, rfl⟩
theorem iX1_findRoots_120 : zI cX1_findRoots 120 (.iinc 1 1) 3 123 := ⟨by decide +kernel, rfl⟩
theorem iX1_findRoots_35 : zI cX1_findRoots 35 (.istore_n 2) 1 36 := ⟨by decide +kernel, rfl⟩
theorem iX1_findRoots_34 : zI cX1_findRoots 34 (.iconst 0) 1 35 := ⟨by decide +kernel, rfl⟩
theorem iX1_findRoots_28 : zI cX1_findRoots 28 (.getfield 99) 3 31 := ⟨by decide +kernel, rfl⟩
theorem iX1_findRoots_25 : zI cX1_findRoots 25 (.getfield 33) 3 28 := ⟨by decide +kernel, rfl⟩
theorem iX1_findRoots_24 : zI cX1_findRoots 24 (.aload_n 0) 1 25 := ⟨by decide +kernel, rfl⟩
theorem iX1_findRoots_23 : zI cX1_findRoots 23 (.iload_n 1) 1 24 := ⟨by decide +kernel, rfl⟩
theorem iX1_findRoots_126 : zI cX1_findRoots 126 (.return_) 1 127 := ⟨by decide +kernel, rfl⟩
theorem iX1_findRoots_22 : zI cX1_findRoots 22 (.istore_n 1) 1 23 := ⟨by decide +kernel, rfl⟩
theorem iX1_findRoots_21 : zI cX1_findRoots 21 (.iconst 0) 1 22 := ⟨by decide +kernel, rfl⟩
theorem iX1_findRoots_1 : zI cX1_findRoots 1 (.istore_n 1) 1 2 := ⟨by decide +kernel, rfl⟩
theorem iX1_findRoots_0 : zI cX1_findRoots 0 (.iconst 0) 1 1 := ⟨by decide +kernel, rfl⟩
set_option maxHeartbeats 4000000 in
set_option maxRecDepth 100000 in
theorem m_Gr_findRoots (g : Nat) (hg : isG g) (h : zH) : zM yX1_findRoots cX1_findRoots 6 none 1 shX (fun ad => [.ref (ad g)]) h eV (Gr_findRoots g h) := by
  refine zM.of (by decide) (fun _ => rfl) (fun _ => Nat.le_of_ble_eq_true rfl) (fun X ad hnL C => ?_)
  show zG X ad shX eV 0 [some (.ref (ad g)), none, none, none, none, none] [] h _
  unfold Gr_findRoots
  refine g_iconst C 0 iX1_findRoots_0 (by decide) ?_
  refine g_istore_n (lv' := [some (.ref (ad g)), some (.int 0), none, none, none, none]) C hnL iX1_findRoots_1 (by decide) rfl ?_
  have L2 : ∀ (k21 : zH → Option (zH)), (∀ (hy : zH), zG X ad shX eV 21 [some (.ref (ad g)), none, none, none, none, none] [] hy (k21 hy)) → ∀ (n : Nat) (x1 : Int32) (h_1 : zH), zG X ad shX eV 2 [some (.ref (ad g)), some (.int x1), none, none, none, none] [] h_1 (Gr_findRoots_L2 g k21 n x1 h_1) := by
    intro k21 hk21 n
    induction n with
    | zero =>
      intro x1 h_1
      exact g_none
    | succ n ih2 =>
      intro x1 h_1
      rw [Gr_findRoots_L2]
      refine g_iload_n C iX1_findRoots_2 rfl ?_
      refine g_bipush C 6 iX1_findRoots_3 (by decide) ?_
      refine g_icmp_ge C 21 iX1_findRoots_5 (by decide) (fun c5 => ?_) (fun c5 => ?_)
      · refine g_sub (lv' := [some (.ref (ad g)), none, none, none, none, none]) ⟨rfl, trivial⟩ ?_
        exact hk21 _
      · refine g_aload_n C iX1_findRoots_8 rfl ?_
        refine g_getR (b := (g + 1)) C fX1_9 iX1_findRoots_9 hg.1 rfl ?_
        refine g_iload_n C iX1_findRoots_12 rfl ?_
        refine g_iload_n C iX1_findRoots_13 rfl ?_
        refine g_iastore C iX1_findRoots_14 hg.2.1 (fun h_2 => ?_)
        refine g_iinc (v := (x1 + 1)) (lv' := [some (.ref (ad g)), some (.int (x1 + 1)), none, none, none, none]) C hnL iX1_findRoots_15 (by decide) rfl rfl rfl ?_
        refine g_goto C 2 iX1_findRoots_18 (by decide) ?_
        exact ih2 _ _
  refine L2 _ (fun h_3 => ?_) 1000 _ _
  show zG X ad shX eV 21 [some (.ref (ad g)), none, none, none, none, none] [] h_3 _
  refine g_iconst C 0 iX1_findRoots_21 (by decide) ?_
  refine g_istore_n (lv' := [some (.ref (ad g)), some (.int 0), none, none, none, none]) C hnL iX1_findRoots_22 (by decide) rfl ?_
  have L23 : ∀ (k126 : zH → Option (zH)), (∀ (hy : zH), zG X ad shX eV 126 [none, none, none, none, none, none] [] hy (k126 hy)) → ∀ (n_1 : Nat) (x1_1 : Int32) (h_4 : zH), zG X ad shX eV 23 [some (.ref (ad g)), some (.int x1_1), none, none, none, none] [] h_4 (Gr_findRoots_L23 g k126 n_1 x1_1 h_4) := by
    intro k126 hk126 n_1
    induction n_1 with
    | zero =>
      intro x1_1 h_4
      exact g_none
    | succ n_1 ih23 =>
      intro x1_1 h_4
      rw [Gr_findRoots_L23]
      refine g_iload_n C iX1_findRoots_23 rfl ?_
      refine g_aload_n C iX1_findRoots_24 rfl ?_
      refine g_getR (b := 17) C fX1_33 iX1_findRoots_25 hg.1 rfl ?_
      refine g_getI C fX1_99 iX1_findRoots_28 isP17.1 rfl ?_
      refine g_icmp_ge C 126 iX1_findRoots_31 (by decide) (fun c31 => ?_) (fun c31 => ?_)
      · refine g_sub (lv' := [none, none, none, none, none, none]) trivial ?_
        exact hk126 _
      · refine g_iconst C 0 iX1_findRoots_34 (by decide) ?_
        refine g_istore_n (lv' := [some (.ref (ad g)), some (.int x1_1), some (.int 0), none, none, none]) C hnL iX1_findRoots_35 (by decide) rfl ?_
        have L36 : ∀ (k120 : zH → Option (zH)), (∀ (hy : zH), zG X ad shX eV 120 [some (.ref (ad g)), some (.int x1_1), none, none, none, none] [] hy (k120 hy)) → ∀ (n_2 : Nat) (x2 : Int32) (h_5 : zH), zG X ad shX eV 36 [some (.ref (ad g)), some (.int x1_1), some (.int x2), none, none, none] [] h_5 (Gr_findRoots_L36 g k120 n_2 x2 h_5) := by
          intro k120 hk120 n_2
          induction n_2 with
          | zero =>
            intro x2 h_5
            exact g_none
          | succ n_2 ih36 =>
            intro x2 h_5
            rw [Gr_findRoots_L36]
            refine g_iload_n C iX1_findRoots_36 rfl ?_
            refine g_aload_n C iX1_findRoots_37 rfl ?_
            refine g_getR (b := 17) C fX1_33 iX1_findRoots_38 hg.1 rfl ?_
            refine g_getI C fX1_56 iX1_findRoots_41 isP17.1 rfl ?_
            refine g_icmp_ge C 120 iX1_findRoots_44 (by decide) (fun c44 => ?_) (fun c44 => ?_)
            · refine g_sub (lv' := [some (.ref (ad g)), some (.int x1_1), none, none, none, none]) ⟨rfl, ⟨rfl, trivial⟩⟩ ?_
              exact hk120 _
            · refine g_aload_n C iX1_findRoots_47 rfl ?_
              refine g_getI C fX1_43 iX1_findRoots_48 hg.1 rfl ?_
              refine g_iload_n C iX1_findRoots_51 rfl ?_
              refine g_callN C wX1_102 iX1_findRoots_52 (m_SS_has (h_5 g 1) x2 h_5) (by decide) rfl rfl rfl (Nat.le_of_ble_eq_true rfl) (fun r => ?_)
              show zG X ad shX eV 55 [some (.ref (ad g)), some (.int x1_1), some (.int x2), none, none, none] [.int r] h_5 _
              refine g_if_eq C 114 iX1_findRoots_55 (by decide) (fun c55 => ?_) (fun c55 => ?_)
              · refine g_iinc (v := (x2 + 1)) (lv' := [some (.ref (ad g)), some (.int x1_1), some (.int (x2 + 1)), none, none, none]) C hnL iX1_findRoots_114 (by decide) rfl rfl rfl ?_
                refine g_goto C 36 iX1_findRoots_117 (by decide) ?_
                exact ih36 _ _
              · refine g_aload_n C iX1_findRoots_58 rfl ?_
                refine g_getR (b := 17) C fX1_33 iX1_findRoots_59 hg.1 rfl ?_
                refine g_getR (b := 18) C fX1_106 iX1_findRoots_62 isP17.1 rfl ?_
                refine g_iload_n C iX1_findRoots_65 rfl ?_
                refine g_iaload C iX1_findRoots_66 isP17.2.1 ?_
                refine g_top (fun x3 => ?_)
                refine g_istore_n (lv' := [some (.ref (ad g)), some (.int x1_1), some (.int x2), some (.int x3), none, none]) C hnL iX1_findRoots_67 (by decide) rfl ?_
                refine g_aload_n C iX1_findRoots_68 rfl ?_
                refine g_getR (b := 17) C fX1_33 iX1_findRoots_69 hg.1 rfl ?_
                refine g_getR (b := 19) C fX1_109 iX1_findRoots_72 isP17.1 rfl ?_
                refine g_iload_n C iX1_findRoots_75 rfl ?_
                refine g_iaload C iX1_findRoots_76 isP17.2.2.1 ?_
                refine g_top (fun x4 => ?_)
                refine g_istore (lv' := [some (.ref (ad g)), some (.int x1_1), some (.int x2), some (.int x3), some (.int x4), none]) C hnL iX1_findRoots_77 (by decide) rfl ?_
                refine g_aload_n C iX1_findRoots_79 rfl ?_
                refine g_getR (b := (g + 1)) C fX1_9 iX1_findRoots_80 hg.1 rfl ?_
                refine g_iload_n C iX1_findRoots_83 rfl ?_
                refine g_iaload C iX1_findRoots_84 hg.2.1 ?_
                refine g_aload_n C iX1_findRoots_85 rfl ?_
                refine g_getR (b := (g + 1)) C fX1_9 iX1_findRoots_86 hg.1 rfl ?_
                refine g_iload C iX1_findRoots_89 rfl ?_
                refine g_iaload C iX1_findRoots_91 hg.2.1 ?_
                refine g_min C wX1_93 iX1_findRoots_92 (by decide) (Nat.le_of_ble_eq_true rfl) ?_
                refine g_top (fun x5 => ?_)
                refine g_istore (lv' := [some (.ref (ad g)), some (.int x1_1), some (.int x2), some (.int x3), some (.int x4), some (.int x5)]) C hnL iX1_findRoots_95 (by decide) rfl ?_
                refine g_aload_n C iX1_findRoots_97 rfl ?_
                refine g_getR (b := (g + 1)) C fX1_9 iX1_findRoots_98 hg.1 rfl ?_
                refine g_iload_n C iX1_findRoots_101 rfl ?_
                refine g_iload C iX1_findRoots_102 rfl ?_
                refine g_iastore C iX1_findRoots_104 hg.2.1 (fun h_6 => ?_)
                refine g_aload_n C iX1_findRoots_105 rfl ?_
                refine g_getR (b := (g + 1)) C fX1_9 iX1_findRoots_106 hg.1 rfl ?_
                refine g_iload C iX1_findRoots_109 rfl ?_
                refine g_iload C iX1_findRoots_111 rfl ?_
                refine g_iastore C iX1_findRoots_113 hg.2.1 (fun h_7 => ?_)
                refine g_iinc (v := (x2 + 1)) (lv' := [some (.ref (ad g)), some (.int x1_1), some (.int (x2 + 1)), some (.int x3), some (.int x4), some (.int x5)]) C hnL iX1_findRoots_114 (by decide) rfl rfl rfl ?_
                refine g_goto C 36 iX1_findRoots_117 (by decide) ?_
                refine g_sub (lv' := [some (.ref (ad g)), some (.int x1_1), some (.int (x2 + 1)), none, none, none]) ⟨rfl, ⟨rfl, ⟨rfl, trivial⟩⟩⟩ ?_
                exact ih36 _ _
        refine L36 _ (fun h_8 => ?_) 1000 _ _
        show zG X ad shX eV 120 [some (.ref (ad g)), some (.int x1_1), none, none, none, none] [] h_8 _
        refine g_iinc (v := (x1_1 + 1)) (lv' := [some (.ref (ad g)), some (.int (x1_1 + 1)), none, none, none, none]) C hnL iX1_findRoots_120 (by decide) rfl rfl rfl ?_
        refine g_goto C 23 iX1_findRoots_123 (by decide) ?_
        exact ih23 _ _
  refine L23 _ (fun h_9 => ?_) 1000 _ _
  show zG X ad shX eV 126 [none, none, none, none, none, none] [] h_9 _
  exact g_vret C iX1_findRoots_126 rfl

theorem iX1_clearCounts_5 : zI cX1_clearCounts 5 (.if_icmp .ge 21) 3 8 := ⟨by decide +kernel, rfl⟩
theorem iX1_clearCounts_23 : zI cX1_clearCounts 23 (.goto (-21)) 3 26 := ⟨by decide +kernel, rfl⟩
theorem iX1_clearCounts_20 : zI cX1_clearCounts 20 (.iinc 2 1) 3 23 := ⟨by decide +kernel, rfl⟩
theorem iX1_clearCounts_19 : zI cX1_clearCounts 19 (.iastore) 1 20 := ⟨by decide +kernel, rfl⟩
theorem iX1_clearCounts_18 : zI cX1_clearCounts 18 (.iconst 0) 1 19 := ⟨by decide +kernel, rfl⟩
theorem iX1_clearCounts_17 : zI cX1_clearCounts 17 (.iadd) 1 18 := ⟨by decide +kernel, rfl⟩
theorem iX1_clearCounts_16 : zI cX1_clearCounts 16 (.iload_n 2) 1 17 := ⟨by decide +kernel, rfl⟩
theorem iX1_clearCounts_15 : zI cX1_clearCounts 15 (.imul) 1 16 := ⟨by decide +kernel, rfl⟩
theorem iX1_clearCounts_13 : zI cX1_clearCounts 13 (.bipush 6) 2 15 := ⟨by decide +kernel, rfl⟩
theorem iX1_clearCounts_12 : zI cX1_clearCounts 12 (.iload_n 1) 1 13 := ⟨by decide +kernel, rfl⟩
theorem iX1_clearCounts_9 : zI cX1_clearCounts 9 (.getfield 21) 3 12 := ⟨by decide +kernel, rfl⟩
theorem iX1_clearCounts_8 : zI cX1_clearCounts 8 (.aload_n 0) 1 9 := ⟨by decide +kernel, rfl⟩
theorem iX1_clearCounts_3 : zI cX1_clearCounts 3 (.bipush 6) 2 5 := ⟨by decide +kernel, rfl⟩
theorem iX1_clearCounts_2 : zI cX1_clearCounts 2 (.iload_n 2) 1 3 := ⟨by decide +kernel, rfl⟩
theorem iX1_clearCounts_26 : zI cX1_clearCounts 26 (.return_) 1 27 := ⟨by decide +kernel, rfl⟩
theorem iX1_clearCounts_1 : zI cX1_clearCounts 1 (.istore_n 2) 1 2 := ⟨by decide +kernel, rfl⟩
theorem iX1_clearCounts_0 : zI cX1_clearCounts 0 (.iconst 0) 1 1 := ⟨by decide +kernel, rfl⟩
set_option maxHeartbeats 4000000 in
set_option maxRecDepth 100000 in
theorem m_Gr_clearCounts (g : Nat) (hg : isG g) (x1 : Int32) (h : zH) : zM yX1_clearCounts cX1_clearCounts 3 none 0 shX (fun ad => [.ref (ad g), .int x1]) h eV (Gr_clearCounts g x1 h) := by
  refine zM.of (by decide) (fun _ => rfl) (fun _ => Nat.le_of_ble_eq_true rfl) (fun X ad hnL C => ?_)
  show zG X ad shX eV 0 [some (.ref (ad g)), some (.int x1), none] [] h _
  unfold Gr_clearCounts
  refine g_iconst C 0 iX1_clearCounts_0 (by decide) ?_
  refine g_istore_n (lv' := [some (.ref (ad g)), some (.int x1), some (.int 0)]) C hnL iX1_clearCounts_1 (by decide) rfl ?_
  have L2 : ∀ (k26 : zH → Option (zH)), (∀ (hy : zH), zG X ad shX eV 26 [none, none, none] [] hy (k26 hy)) → ∀ (n : Nat) (x2 : Int32) (h_1 : zH), zG X ad shX eV 2 [some (.ref (ad g)), some (.int x1), some (.int x2)] [] h_1 (Gr_clearCounts_L2 g x1 k26 n x2 h_1) := by
    intro k26 hk26 n
    induction n with
    | zero =>
      intro x2 h_1
      exact g_none
    | succ n ih2 =>
      intro x2 h_1
      rw [Gr_clearCounts_L2]
      refine g_iload_n C iX1_clearCounts_2 rfl ?_
      refine g_bipush C 6 iX1_clearCounts_3 (by decide) ?_
      refine g_icmp_ge C 26 iX1_clearCounts_5 (by decide) (fun c5 => ?_) (fun c5 => ?_)
      · refine g_sub (lv' := [none, none, none]) trivial ?_
        exact hk26 _
      · refine g_aload_n C iX1_clearCounts_8 rfl ?_
        refine g_getR (b := (g + 4)) C fX1_21 iX1_clearCounts_9 hg.1 rfl ?_
        refine g_iload_n C iX1_clearCounts_12 rfl ?_
        refine g_bipush C 6 iX1_clearCounts_13 (by decide) ?_
        refine g_imul C iX1_clearCounts_15 ?_
        refine g_iload_n C iX1_clearCounts_16 rfl ?_
        refine g_iadd C iX1_clearCounts_17 ?_
        refine g_iconst C 0 iX1_clearCounts_18 (by decide) ?_
        refine g_iastore C iX1_clearCounts_19 hg.2.2.2.2.1 (fun h_2 => ?_)
        refine g_iinc (v := (x2 + 1)) (lv' := [some (.ref (ad g)), some (.int x1), some (.int (x2 + 1))]) C hnL iX1_clearCounts_20 (by decide) rfl rfl rfl ?_
        refine g_goto C 2 iX1_clearCounts_23 (by decide) ?_
        exact ih2 _ _
  refine L2 _ (fun h_3 => ?_) 1000 _ _
  show zG X ad shX eV 26 [none, none, none] [] h_3 _
  exact g_vret C iX1_clearCounts_26 rfl

theorem iX1_giveLoad_5 : zI cX1_giveLoad 5 (.if_icmp .ge 16) 3 8 := ⟨by decide +kernel, rfl⟩
theorem iX1_giveLoad_18 : zI cX1_giveLoad 18 (.goto (-16)) 3 21 := ⟨by decide +kernel, rfl⟩
theorem iX1_giveLoad_15 : zI cX1_giveLoad 15 (.iinc 1 1) 3 18 := ⟨by decide +kernel, rfl⟩
theorem iX1_giveLoad_14 : zI cX1_giveLoad 14 (.iastore) 1 15 := ⟨by decide +kernel, rfl⟩
theorem iX1_giveLoad_13 : zI cX1_giveLoad 13 (.iconst 0) 1 14 := ⟨by decide +kernel, rfl⟩
theorem iX1_giveLoad_12 : zI cX1_giveLoad 12 (.iload_n 1) 1 13 := ⟨by decide +kernel, rfl⟩
theorem iX1_giveLoad_9 : zI cX1_giveLoad 9 (.getfield 24) 3 12 := ⟨by decide +kernel, rfl⟩
theorem iX1_giveLoad_8 : zI cX1_giveLoad 8 (.aload_n 0) 1 9 := ⟨by decide +kernel, rfl⟩
theorem iX1_giveLoad_3 : zI cX1_giveLoad 3 (.bipush 6) 2 5 := ⟨by decide +kernel, rfl⟩
theorem iX1_giveLoad_2 : zI cX1_giveLoad 2 (.iload_n 1) 1 3 := ⟨by decide +kernel, rfl⟩
theorem iX1_giveLoad_31 : zI cX1_giveLoad 31 (.if_icmp .ge 53) 3 34 := ⟨by decide +kernel, rfl⟩
theorem iX1_giveLoad_65 : zI cX1_giveLoad 65 (.invokevirtual 86) 3 68 := ⟨by decide +kernel, rfl⟩
set_option maxRecDepth 100000 in
theorem wX1_90 : zCv RX1 90 yX1_givenOf cX1_givenOf 2 (some .int) 1 := ⟨⟨(zmem 443 (by decide +kernel) (by decide +kernel)), (zmem 67 (by decide +kernel) (by decide +kernel)), (zmem 446 rfl rfl), ⟨by decide, by decide, by decide +kernel⟩, by decide⟩, (zmem 444 (by decide +kernel) (by decide +kernel)), (zmem 445 (by decide +kernel) (by decide +kernel))⟩
theorem iX1_giveLoad_70 : zI cX1_giveLoad 70 (.invokevirtual 90) 3 73 := ⟨by decide +kernel, rfl⟩
theorem iX1_giveLoad_74 : zI cX1_giveLoad 74 (.invokestatic 93) 3 77 := ⟨by decide +kernel, rfl⟩
theorem iX1_giveLoad_81 : zI cX1_giveLoad 81 (.goto (-58)) 3 84 := ⟨by decide +kernel, rfl⟩
theorem iX1_giveLoad_78 : zI cX1_giveLoad 78 (.iinc 1 1) 3 81 := ⟨by decide +kernel, rfl⟩
theorem iX1_giveLoad_77 : zI cX1_giveLoad 77 (.iastore) 1 78 := ⟨by decide +kernel, rfl⟩
theorem iX1_giveLoad_73 : zI cX1_giveLoad 73 (.isub) 1 74 := ⟨by decide +kernel, rfl⟩
theorem iX1_giveLoad_69 : zI cX1_giveLoad 69 (.iload_n 2) 1 70 := ⟨by decide +kernel, rfl⟩
theorem iX1_giveLoad_68 : zI cX1_giveLoad 68 (.aload_n 0) 1 69 := ⟨by decide +kernel, rfl⟩
theorem iX1_giveLoad_64 : zI cX1_giveLoad 64 (.iload_n 2) 1 65 := ⟨by decide +kernel, rfl⟩
theorem iX1_giveLoad_63 : zI cX1_giveLoad 63 (.aload_n 0) 1 64 := ⟨by decide +kernel, rfl⟩
theorem iX1_giveLoad_62 : zI cX1_giveLoad 62 (.iaload) 1 63 := ⟨by decide +kernel, rfl⟩
theorem iX1_giveLoad_61 : zI cX1_giveLoad 61 (.iload_n 1) 1 62 := ⟨by decide +kernel, rfl⟩
theorem iX1_giveLoad_58 : zI cX1_giveLoad 58 (.getfield 83) 3 61 := ⟨by decide +kernel, rfl⟩
theorem iX1_giveLoad_55 : zI cX1_giveLoad 55 (.getfield 33) 3 58 := ⟨by decide +kernel, rfl⟩
theorem iX1_giveLoad_54 : zI cX1_giveLoad 54 (.aload_n 0) 1 55 := ⟨by decide +kernel, rfl⟩
theorem iX1_giveLoad_53 : zI cX1_giveLoad 53 (.iload_n 1) 1 54 := ⟨by decide +kernel, rfl⟩
theorem iX1_giveLoad_50 : zI cX1_giveLoad 50 (.getfield 24) 3 53 := ⟨by decide +kernel, rfl⟩
theorem iX1_giveLoad_49 : zI cX1_giveLoad 49 (.aload_n 0) 1 50 := ⟨by decide +kernel, rfl⟩
theorem iX1_giveLoad_48 : zI cX1_giveLoad 48 (.istore_n 2) 1 49 := ⟨by decide +kernel, rfl⟩
theorem iX1_giveLoad_47 : zI cX1_giveLoad 47 (.iaload) 1 48 := ⟨by decide +kernel, rfl⟩
theorem iX1_giveLoad_46 : zI cX1_giveLoad 46 (.iaload) 1 47 := ⟨by decide +kernel, rfl⟩
theorem iX1_giveLoad_45 : zI cX1_giveLoad 45 (.iload_n 1) 1 46 := ⟨by decide +kernel, rfl⟩
theorem iX1_giveLoad_42 : zI cX1_giveLoad 42 (.getfield 80) 3 45 := ⟨by decide +kernel, rfl⟩
theorem iX1_giveLoad_39 : zI cX1_giveLoad 39 (.getfield 33) 3 42 := ⟨by decide +kernel, rfl⟩
theorem iX1_giveLoad_38 : zI cX1_giveLoad 38 (.aload_n 0) 1 39 := ⟨by decide +kernel, rfl⟩
theorem iX1_giveLoad_35 : zI cX1_giveLoad 35 (.getfield 9) 3 38 := ⟨by decide +kernel, rfl⟩
theorem iX1_giveLoad_34 : zI cX1_giveLoad 34 (.aload_n 0) 1 35 := ⟨by decide +kernel, rfl⟩
theorem iX1_giveLoad_28 : zI cX1_giveLoad 28 (.getfield 77) 3 31 := ⟨by decide +kernel, rfl⟩
theorem iX1_giveLoad_25 : zI cX1_giveLoad 25 (.getfield 33) 3 28 := ⟨by decide +kernel, rfl⟩
theorem iX1_giveLoad_24 : zI cX1_giveLoad 24 (.aload_n 0) 1 25 := ⟨by decide +kernel, rfl⟩
theorem iX1_giveLoad_23 : zI cX1_giveLoad 23 (.iload_n 1) 1 24 := ⟨by decide +kernel, rfl⟩
theorem iX1_giveLoad_84 : zI cX1_giveLoad 84 (.return_) 1 85 := ⟨by decide +kernel, rfl⟩
theorem iX1_giveLoad_22 : zI cX1_giveLoad 22 (.istore_n 1) 1 23 := ⟨by decide +kernel, rfl⟩
theorem iX1_giveLoad_21 : zI cX1_giveLoad 21 (.iconst 0) 1 22 := ⟨by decide +kernel, rfl⟩
theorem iX1_giveLoad_1 : zI cX1_giveLoad 1 (.istore_n 1) 1 2 := ⟨by decide +kernel, rfl⟩
theorem iX1_giveLoad_0 : zI cX1_giveLoad 0 (.iconst 0) 1 1 := ⟨by decide +kernel, rfl⟩
set_option maxHeartbeats 4000000 in
set_option maxRecDepth 100000 in
theorem m_Gr_giveLoad (g : Nat) (hg : isG g) (h : zH) : zM yX1_giveLoad cX1_giveLoad 3 none 2 shX (fun ad => [.ref (ad g)]) h eV (Gr_giveLoad g h) := by
  refine zM.of (by decide) (fun _ => rfl) (fun _ => Nat.le_of_ble_eq_true rfl) (fun X ad hnL C => ?_)
  show zG X ad shX eV 0 [some (.ref (ad g)), none, none] [] h _
  unfold Gr_giveLoad
  refine g_iconst C 0 iX1_giveLoad_0 (by decide) ?_
  refine g_istore_n (lv' := [some (.ref (ad g)), some (.int 0), none]) C hnL iX1_giveLoad_1 (by decide) rfl ?_
  have L2 : ∀ (k21 : zH → Option (zH)), (∀ (hy : zH), zG X ad shX eV 21 [some (.ref (ad g)), none, none] [] hy (k21 hy)) → ∀ (n : Nat) (x1 : Int32) (h_1 : zH), zG X ad shX eV 2 [some (.ref (ad g)), some (.int x1), none] [] h_1 (Gr_giveLoad_L2 g k21 n x1 h_1) := by
    intro k21 hk21 n
    induction n with
    | zero =>
      intro x1 h_1
      exact g_none
    | succ n ih2 =>
      intro x1 h_1
      rw [Gr_giveLoad_L2]
      refine g_iload_n C iX1_giveLoad_2 rfl ?_
      refine g_bipush C 6 iX1_giveLoad_3 (by decide) ?_
      refine g_icmp_ge C 21 iX1_giveLoad_5 (by decide) (fun c5 => ?_) (fun c5 => ?_)
      · refine g_sub (lv' := [some (.ref (ad g)), none, none]) ⟨rfl, trivial⟩ ?_
        exact hk21 _
      · refine g_aload_n C iX1_giveLoad_8 rfl ?_
        refine g_getR (b := (g + 5)) C fX1_24 iX1_giveLoad_9 hg.1 rfl ?_
        refine g_iload_n C iX1_giveLoad_12 rfl ?_
        refine g_iconst C 0 iX1_giveLoad_13 (by decide) ?_
        refine g_iastore C iX1_giveLoad_14 hg.2.2.2.2.2.1 (fun h_2 => ?_)
        refine g_iinc (v := (x1 + 1)) (lv' := [some (.ref (ad g)), some (.int (x1 + 1)), none]) C hnL iX1_giveLoad_15 (by decide) rfl rfl rfl ?_
        refine g_goto C 2 iX1_giveLoad_18 (by decide) ?_
        exact ih2 _ _
  refine L2 _ (fun h_3 => ?_) 1000 _ _
  show zG X ad shX eV 21 [some (.ref (ad g)), none, none] [] h_3 _
  refine g_iconst C 0 iX1_giveLoad_21 (by decide) ?_
  refine g_istore_n (lv' := [some (.ref (ad g)), some (.int 0), none]) C hnL iX1_giveLoad_22 (by decide) rfl ?_
  have L23 : ∀ (k84 : zH → Option (zH)), (∀ (hy : zH), zG X ad shX eV 84 [none, none, none] [] hy (k84 hy)) → ∀ (n_1 : Nat) (x1_1 : Int32) (h_4 : zH), zG X ad shX eV 23 [some (.ref (ad g)), some (.int x1_1), none] [] h_4 (Gr_giveLoad_L23 g k84 n_1 x1_1 h_4) := by
    intro k84 hk84 n_1
    induction n_1 with
    | zero =>
      intro x1_1 h_4
      exact g_none
    | succ n_1 ih23 =>
      intro x1_1 h_4
      rw [Gr_giveLoad_L23]
      refine g_iload_n C iX1_giveLoad_23 rfl ?_
      refine g_aload_n C iX1_giveLoad_24 rfl ?_
      refine g_getR (b := 17) C fX1_33 iX1_giveLoad_25 hg.1 rfl ?_
      refine g_getI C fX1_77 iX1_giveLoad_28 isP17.1 rfl ?_
      refine g_icmp_ge C 84 iX1_giveLoad_31 (by decide) (fun c31 => ?_) (fun c31 => ?_)
      · refine g_sub (lv' := [none, none, none]) trivial ?_
        exact hk84 _
      · refine g_aload_n C iX1_giveLoad_34 rfl ?_
        refine g_getR (b := (g + 1)) C fX1_9 iX1_giveLoad_35 hg.1 rfl ?_
        refine g_aload_n C iX1_giveLoad_38 rfl ?_
        refine g_getR (b := 17) C fX1_33 iX1_giveLoad_39 hg.1 rfl ?_
        refine g_getR (b := 20) C fX1_80 iX1_giveLoad_42 isP17.1 rfl ?_
        refine g_iload_n C iX1_giveLoad_45 rfl ?_
        refine g_iaload C iX1_giveLoad_46 isP17.2.2.2.1 ?_
        refine g_iaload C iX1_giveLoad_47 hg.2.1 ?_
        refine g_top (fun x2 => ?_)
        refine g_istore_n (lv' := [some (.ref (ad g)), some (.int x1_1), some (.int x2)]) C hnL iX1_giveLoad_48 (by decide) rfl ?_
        refine g_aload_n C iX1_giveLoad_49 rfl ?_
        refine g_getR (b := (g + 5)) C fX1_24 iX1_giveLoad_50 hg.1 rfl ?_
        refine g_iload_n C iX1_giveLoad_53 rfl ?_
        refine g_aload_n C iX1_giveLoad_54 rfl ?_
        refine g_getR (b := 17) C fX1_33 iX1_giveLoad_55 hg.1 rfl ?_
        refine g_getR (b := 21) C fX1_83 iX1_giveLoad_58 isP17.1 rfl ?_
        refine g_iload_n C iX1_giveLoad_61 rfl ?_
        refine g_iaload C iX1_giveLoad_62 isP17.2.2.2.2.1 ?_
        refine g_aload_n C iX1_giveLoad_63 rfl ?_
        refine g_iload_n C iX1_giveLoad_64 rfl ?_
        refine g_callV C wX1_86 iX1_giveLoad_65 (m_Gr_loadOf g hg x2 h_4) (by decide) hg.1 rfl rfl rfl rfl (Nat.le_of_ble_eq_true rfl) (fun r => ?_)
        show zG X ad shX eV 68 [some (.ref (ad g)), some (.int x1_1), some (.int x2)] [.int r, .int (h_4 21 x1_1.toNatClampNeg), .int x1_1, .ref (ad (g + 5))] h_4 _
        refine g_aload_n C iX1_giveLoad_68 rfl ?_
        refine g_iload_n C iX1_giveLoad_69 rfl ?_
        refine g_callV C wX1_90 iX1_giveLoad_70 (m_Gr_givenOf g hg x2 h_4) (by decide) hg.1 rfl rfl rfl rfl (Nat.le_of_ble_eq_true rfl) (fun r_1 => ?_)
        show zG X ad shX eV 73 [some (.ref (ad g)), some (.int x1_1), some (.int x2)] [.int r_1, .int r, .int (h_4 21 x1_1.toNatClampNeg), .int x1_1, .ref (ad (g + 5))] h_4 _
        refine g_isub C iX1_giveLoad_73 ?_
        refine g_min C wX1_93 iX1_giveLoad_74 (by decide) (Nat.le_of_ble_eq_true rfl) ?_
        refine g_iastore C iX1_giveLoad_77 hg.2.2.2.2.2.1 (fun h_5 => ?_)
        refine g_iinc (v := (x1_1 + 1)) (lv' := [some (.ref (ad g)), some (.int (x1_1 + 1)), some (.int x2)]) C hnL iX1_giveLoad_78 (by decide) rfl rfl rfl ?_
        refine g_goto C 23 iX1_giveLoad_81 (by decide) ?_
        refine g_sub (lv' := [some (.ref (ad g)), some (.int (x1_1 + 1)), none]) ⟨rfl, ⟨rfl, trivial⟩⟩ ?_
        exact ih23 _ _
  refine L23 _ (fun h_6 => ?_) 1000 _ _
  show zG X ad shX eV 84 [none, none, none] [] h_6 _
  exact g_vret C iX1_giveLoad_84 rfl

theorem fX1_64 : zFl RX1 64 4 14 := ⟨RX4, TX4, 16, rfl, by decide, (zmem 161 (by decide +kernel) (by decide +kernel)), u_inX4⟩
theorem iX1_layOut_55 : zI cX1_layOut 55 (.invokestatic 37) 3 58 := ⟨by decide +kernel, rfl⟩
set_option maxRecDepth 100000 in
theorem wX1_67 : zCv RX1 67 yX1_findRoots cX1_findRoots 6 none 0 := ⟨⟨(zmem 421 (by decide +kernel) (by decide +kernel)), (zmem 67 (by decide +kernel) (by decide +kernel)), (zmem 424 rfl rfl), ⟨by decide, by decide, by decide +kernel⟩, by decide⟩, (zmem 423 (by decide +kernel) (by decide +kernel)), (zmem 3 (by decide +kernel) (by decide +kernel))⟩
theorem iX1_layOut_59 : zI cX1_layOut 59 (.invokevirtual 67) 3 62 := ⟨by decide +kernel, rfl⟩
theorem iX1_layOut_67 : zI cX1_layOut 67 (.if_icmp .ge 23) 3 70 := ⟨by decide +kernel, rfl⟩
set_option maxRecDepth 100000 in
theorem wX1_70 : zCv RX1 70 yX1_clearCounts cX1_clearCounts 3 none 1 := ⟨⟨(zmem 431 (by decide +kernel) (by decide +kernel)), (zmem 67 (by decide +kernel) (by decide +kernel)), (zmem 434 rfl rfl), ⟨by decide, by decide, by decide +kernel⟩, by decide⟩, (zmem 432 (by decide +kernel) (by decide +kernel)), (zmem 433 (by decide +kernel) (by decide +kernel))⟩
theorem iX1_layOut_81 : zI cX1_layOut 81 (.invokevirtual 70) 3 84 := ⟨by decide +kernel, rfl⟩
theorem iX1_layOut_87 : zI cX1_layOut 87 (.goto (-23)) 3 90 := ⟨by decide +kernel, rfl⟩
theorem iX1_layOut_84 : zI cX1_layOut 84 (.iinc 1 1) 3 87 := ⟨by decide +kernel, rfl⟩
theorem iX1_layOut_80 : zI cX1_layOut 80 (.iload_n 1) 1 81 := ⟨by decide +kernel, rfl⟩
theorem iX1_layOut_79 : zI cX1_layOut 79 (.aload_n 0) 1 80 := ⟨by decide +kernel, rfl⟩
theorem iX1_layOut_78 : zI cX1_layOut 78 (.iastore) 1 79 := ⟨by decide +kernel, rfl⟩
theorem iX1_layOut_75 : zI cX1_layOut 75 (.sipush 5000) 3 78 := ⟨by decide +kernel, rfl⟩
theorem iX1_layOut_74 : zI cX1_layOut 74 (.iload_n 1) 1 75 := ⟨by decide +kernel, rfl⟩
theorem iX1_layOut_71 : zI cX1_layOut 71 (.getfield 18) 3 74 := ⟨by decide +kernel, rfl⟩
theorem iX1_layOut_70 : zI cX1_layOut 70 (.aload_n 0) 1 71 := ⟨by decide +kernel, rfl⟩
theorem iX1_layOut_65 : zI cX1_layOut 65 (.bipush 6) 2 67 := ⟨by decide +kernel, rfl⟩
theorem iX1_layOut_64 : zI cX1_layOut 64 (.iload_n 1) 1 65 := ⟨by decide +kernel, rfl⟩
set_option maxRecDepth 100000 in
theorem wX1_74 : zCv RX1 74 yX1_giveLoad cX1_giveLoad 3 none 0 := ⟨⟨(zmem 435 (by decide +kernel) (by decide +kernel)), (zmem 67 (by decide +kernel) (by decide +kernel)), (zmem 438 rfl rfl), ⟨by decide, by decide, by decide +kernel⟩, by decide⟩, (zmem 437 (by decide +kernel) (by decide +kernel)), (zmem 4 (by decide +kernel) (by decide +kernel))⟩
theorem iX1_layOut_91 : zI cX1_layOut 91 (.invokevirtual 74) 3 94 := ⟨by decide +kernel, rfl⟩
theorem iX1_layOut_94 : zI cX1_layOut 94 (.return_) 1 95 := ⟨by decide +kernel, rfl⟩
theorem iX1_layOut_90 : zI cX1_layOut 90 (.aload_n 0) 1 91 := ⟨by decide +kernel, rfl⟩
theorem iX1_layOut_63 : zI cX1_layOut 63 (.istore_n 1) 1 64 := ⟨by decide +kernel, rfl⟩
theorem iX1_layOut_62 : zI cX1_layOut 62 (.iconst 0) 1 63 := ⟨by decide +kernel, rfl⟩
theorem iX1_layOut_58 : zI cX1_layOut 58 (.aload_n 0) 1 59 := ⟨by decide +kernel, rfl⟩
theorem iX1_layOut_53 : zI cX1_layOut 53 (.bipush 6) 2 55 := ⟨by decide +kernel, rfl⟩
theorem iX1_layOut_52 : zI cX1_layOut 52 (.iconst 0) 1 53 := ⟨by decide +kernel, rfl⟩
theorem iX1_layOut_49 : zI cX1_layOut 49 (.getfield 30) 3 52 := ⟨by decide +kernel, rfl⟩
theorem iX1_layOut_48 : zI cX1_layOut 48 (.aload_n 0) 1 49 := ⟨by decide +kernel, rfl⟩
theorem iX1_layOut_47 : zI cX1_layOut 47 (.iconst 0) 1 48 := ⟨by decide +kernel, rfl⟩
theorem iX1_layOut_44 : zI cX1_layOut 44 (.getfield 64) 3 47 := ⟨by decide +kernel, rfl⟩
theorem iX1_layOut_41 : zI cX1_layOut 41 (.getfield 33) 3 44 := ⟨by decide +kernel, rfl⟩
theorem iX1_layOut_40 : zI cX1_layOut 40 (.aload_n 0) 1 41 := ⟨by decide +kernel, rfl⟩
theorem iX1_layOut_37 : zI cX1_layOut 37 (.putfield 53) 3 40 := ⟨by decide +kernel, rfl⟩
theorem iX1_layOut_36 : zI cX1_layOut 36 (.iconst 0) 1 37 := ⟨by decide +kernel, rfl⟩
theorem iX1_layOut_35 : zI cX1_layOut 35 (.aload_n 0) 1 36 := ⟨by decide +kernel, rfl⟩
theorem iX1_layOut_32 : zI cX1_layOut 32 (.putfield 50) 3 35 := ⟨by decide +kernel, rfl⟩
theorem iX1_layOut_31 : zI cX1_layOut 31 (.iconst 0) 1 32 := ⟨by decide +kernel, rfl⟩
theorem iX1_layOut_30 : zI cX1_layOut 30 (.aload_n 0) 1 31 := ⟨by decide +kernel, rfl⟩
theorem iX1_layOut_27 : zI cX1_layOut 27 (.putfield 47) 3 30 := ⟨by decide +kernel, rfl⟩
theorem iX1_layOut_26 : zI cX1_layOut 26 (.isub) 1 27 := ⟨by decide +kernel, rfl⟩
theorem iX1_layOut_25 : zI cX1_layOut 25 (.iconst 1) 1 26 := ⟨by decide +kernel, rfl⟩
theorem iX1_layOut_24 : zI cX1_layOut 24 (.ishl) 1 25 := ⟨by decide +kernel, rfl⟩
theorem iX1_layOut_21 : zI cX1_layOut 21 (.getfield 61) 3 24 := ⟨by decide +kernel, rfl⟩
theorem iX1_layOut_18 : zI cX1_layOut 18 (.getfield 33) 3 21 := ⟨by decide +kernel, rfl⟩
theorem iX1_layOut_17 : zI cX1_layOut 17 (.aload_n 0) 1 18 := ⟨by decide +kernel, rfl⟩
theorem iX1_layOut_16 : zI cX1_layOut 16 (.iconst 1) 1 17 := ⟨by decide +kernel, rfl⟩
theorem iX1_layOut_15 : zI cX1_layOut 15 (.aload_n 0) 1 16 := ⟨by decide +kernel, rfl⟩
theorem iX1_layOut_12 : zI cX1_layOut 12 (.putfield 43) 3 15 := ⟨by decide +kernel, rfl⟩
theorem iX1_layOut_11 : zI cX1_layOut 11 (.isub) 1 12 := ⟨by decide +kernel, rfl⟩
theorem iX1_layOut_10 : zI cX1_layOut 10 (.iconst 1) 1 11 := ⟨by decide +kernel, rfl⟩
theorem iX1_layOut_9 : zI cX1_layOut 9 (.ishl) 1 10 := ⟨by decide +kernel, rfl⟩
theorem iX1_layOut_6 : zI cX1_layOut 6 (.getfield 56) 3 9 := ⟨by decide +kernel, rfl⟩
theorem iX1_layOut_3 : zI cX1_layOut 3 (.getfield 33) 3 6 := ⟨by decide +kernel, rfl⟩
theorem iX1_layOut_2 : zI cX1_layOut 2 (.aload_n 0) 1 3 := ⟨by decide +kernel, rfl⟩
theorem iX1_layOut_1 : zI cX1_layOut 1 (.iconst 1) 1 2 := ⟨by decide +kernel, rfl⟩
theorem iX1_layOut_0 : zI cX1_layOut 0 (.aload_n 0) 1 1 := ⟨by decide +kernel, rfl⟩
set_option maxHeartbeats 4000000 in
set_option maxRecDepth 100000 in
theorem m_Gr_layOut (g : Nat) (hg : isG g) (h : zH) : zM yX1_layOut cX1_layOut 2 none 3 shX (fun ad => [.ref (ad g)]) h eV (Gr_layOut g h) := by
  refine zM.of (by decide) (fun _ => rfl) (fun _ => Nat.le_of_ble_eq_true rfl) (fun X ad hnL C => ?_)
  show zG X ad shX eV 0 [some (.ref (ad g)), none] [] h _
  unfold Gr_layOut
  refine g_aload_n C iX1_layOut_0 rfl ?_
  refine g_iconst C 1 iX1_layOut_1 (by decide) ?_
  refine g_aload_n C iX1_layOut_2 rfl ?_
  refine g_getR (b := 17) C fX1_33 iX1_layOut_3 hg.1 rfl ?_
  refine g_getI C fX1_56 iX1_layOut_6 isP17.1 rfl ?_
  refine g_ishl C iX1_layOut_9 ?_
  refine g_iconst C 1 iX1_layOut_10 (by decide) ?_
  refine g_isub C iX1_layOut_11 ?_
  refine g_putI C pX1_43 iX1_layOut_12 hg.1 rfl (fun h_1 => ?_)
  refine g_aload_n C iX1_layOut_15 rfl ?_
  refine g_iconst C 1 iX1_layOut_16 (by decide) ?_
  refine g_aload_n C iX1_layOut_17 rfl ?_
  refine g_getR (b := 17) C fX1_33 iX1_layOut_18 hg.1 rfl ?_
  refine g_getI C fX1_61 iX1_layOut_21 isP17.1 rfl ?_
  refine g_ishl C iX1_layOut_24 ?_
  refine g_iconst C 1 iX1_layOut_25 (by decide) ?_
  refine g_isub C iX1_layOut_26 ?_
  refine g_putI C pX1_47 iX1_layOut_27 hg.1 rfl (fun h_2 => ?_)
  refine g_aload_n C iX1_layOut_30 rfl ?_
  refine g_iconst C 0 iX1_layOut_31 (by decide) ?_
  refine g_putI C pX1_50 iX1_layOut_32 hg.1 rfl (fun h_3 => ?_)
  refine g_aload_n C iX1_layOut_35 rfl ?_
  refine g_iconst C 0 iX1_layOut_36 (by decide) ?_
  refine g_putI C pX1_53 iX1_layOut_37 hg.1 rfl (fun h_4 => ?_)
  refine g_aload_n C iX1_layOut_40 rfl ?_
  refine g_getR (b := 17) C fX1_33 iX1_layOut_41 hg.1 rfl ?_
  refine g_getR (b := 27) C fX1_64 iX1_layOut_44 isP17.1 rfl ?_
  refine g_iconst C 0 iX1_layOut_47 (by decide) ?_
  refine g_aload_n C iX1_layOut_48 rfl ?_
  refine g_getR (b := (g + 7)) C fX1_30 iX1_layOut_49 hg.1 rfl ?_
  refine g_iconst C 0 iX1_layOut_52 (by decide) ?_
  refine g_bipush C 6 iX1_layOut_53 (by decide) ?_
  refine g_copy C wX1_37 iX1_layOut_55 (by decide) (Nat.le_of_ble_eq_true rfl) isP17.2.2.2.2.2.2.2.2.2.2.1 hg.2.2.2.2.2.2.2 (by decide) (by decide) (by decide) (by decide) (fun h_5 => ?_)
  refine g_aload_n C iX1_layOut_58 rfl ?_
  refine g_callV C wX1_67 iX1_layOut_59 (m_Gr_findRoots g hg h_5) (by decide) hg.1 rfl rfl rfl rfl (Nat.le_of_ble_eq_true rfl) (fun h_6 => ?_)
  show zG X ad shX eV 62 [some (.ref (ad g)), none] [] h_6 _
  refine g_iconst C 0 iX1_layOut_62 (by decide) ?_
  refine g_istore_n (lv' := [some (.ref (ad g)), some (.int 0)]) C hnL iX1_layOut_63 (by decide) rfl ?_
  have L64 : ∀ (k90 : zH → Option (zH)), (∀ (hy : zH), zG X ad shX eV 90 [some (.ref (ad g)), none] [] hy (k90 hy)) → ∀ (n : Nat) (x1 : Int32) (h_7 : zH), zG X ad shX eV 64 [some (.ref (ad g)), some (.int x1)] [] h_7 (Gr_layOut_L64 g k90 n x1 h_7) := by
    intro k90 hk90 n
    induction n with
    | zero =>
      intro x1 h_7
      exact g_none
    | succ n ih64 =>
      intro x1 h_7
      rw [Gr_layOut_L64]
      refine g_iload_n C iX1_layOut_64 rfl ?_
      refine g_bipush C 6 iX1_layOut_65 (by decide) ?_
      refine g_icmp_ge C 90 iX1_layOut_67 (by decide) (fun c67 => ?_) (fun c67 => ?_)
      · refine g_sub (lv' := [some (.ref (ad g)), none]) ⟨rfl, trivial⟩ ?_
        exact hk90 _
      · refine g_aload_n C iX1_layOut_70 rfl ?_
        refine g_getR (b := (g + 3)) C fX1_18 iX1_layOut_71 hg.1 rfl ?_
        refine g_iload_n C iX1_layOut_74 rfl ?_
        refine g_sipush C 5000 iX1_layOut_75 (by decide) ?_
        refine g_iastore C iX1_layOut_78 hg.2.2.2.1 (fun h_8 => ?_)
        refine g_aload_n C iX1_layOut_79 rfl ?_
        refine g_iload_n C iX1_layOut_80 rfl ?_
        refine g_callV C wX1_70 iX1_layOut_81 (m_Gr_clearCounts g hg x1 h_8) (by decide) hg.1 rfl rfl rfl rfl (Nat.le_of_ble_eq_true rfl) (fun h_9 => ?_)
        show zG X ad shX eV 84 [some (.ref (ad g)), some (.int x1)] [] h_9 _
        refine g_iinc (v := (x1 + 1)) (lv' := [some (.ref (ad g)), some (.int (x1 + 1))]) C hnL iX1_layOut_84 (by decide) rfl rfl rfl ?_
        refine g_goto C 64 iX1_layOut_87 (by decide) ?_
        exact ih64 _ _
  refine L64 _ (fun h_10 => ?_) 1000 _ _
  show zG X ad shX eV 90 [some (.ref (ad g)), none] [] h_10 _
  refine g_aload_n C iX1_layOut_90 rfl ?_
  refine g_callV C wX1_74 iX1_layOut_91 (m_Gr_giveLoad g hg h_10) (by decide) hg.1 rfl rfl rfl rfl (Nat.le_of_ble_eq_true rfl) (fun h_11 => ?_)
  show zG X ad shX eV 94 [some (.ref (ad g)), none] [] h_11 _
  exact g_vret C iX1_layOut_94 rfl

theorem iX1_copyCounts_5 : zI cX1_copyCounts 5 (.if_icmp .ge 31) 3 8 := ⟨by decide +kernel, rfl⟩
theorem iX1_copyCounts_33 : zI cX1_copyCounts 33 (.goto (-31)) 3 36 := ⟨by decide +kernel, rfl⟩
theorem iX1_copyCounts_30 : zI cX1_copyCounts 30 (.iinc 3 1) 3 33 := ⟨by decide +kernel, rfl⟩
theorem iX1_copyCounts_29 : zI cX1_copyCounts 29 (.iastore) 1 30 := ⟨by decide +kernel, rfl⟩
theorem iX1_copyCounts_28 : zI cX1_copyCounts 28 (.iaload) 1 29 := ⟨by decide +kernel, rfl⟩
theorem iX1_copyCounts_27 : zI cX1_copyCounts 27 (.iadd) 1 28 := ⟨by decide +kernel, rfl⟩
theorem iX1_copyCounts_26 : zI cX1_copyCounts 26 (.iload_n 3) 1 27 := ⟨by decide +kernel, rfl⟩
theorem iX1_copyCounts_25 : zI cX1_copyCounts 25 (.imul) 1 26 := ⟨by decide +kernel, rfl⟩
theorem iX1_copyCounts_23 : zI cX1_copyCounts 23 (.bipush 6) 2 25 := ⟨by decide +kernel, rfl⟩
theorem iX1_copyCounts_22 : zI cX1_copyCounts 22 (.iload_n 1) 1 23 := ⟨by decide +kernel, rfl⟩
theorem iX1_copyCounts_19 : zI cX1_copyCounts 19 (.getfield 21) 3 22 := ⟨by decide +kernel, rfl⟩
theorem iX1_copyCounts_18 : zI cX1_copyCounts 18 (.aload_n 0) 1 19 := ⟨by decide +kernel, rfl⟩
theorem iX1_copyCounts_17 : zI cX1_copyCounts 17 (.iadd) 1 18 := ⟨by decide +kernel, rfl⟩
theorem iX1_copyCounts_16 : zI cX1_copyCounts 16 (.iload_n 3) 1 17 := ⟨by decide +kernel, rfl⟩
theorem iX1_copyCounts_15 : zI cX1_copyCounts 15 (.imul) 1 16 := ⟨by decide +kernel, rfl⟩
theorem iX1_copyCounts_13 : zI cX1_copyCounts 13 (.bipush 6) 2 15 := ⟨by decide +kernel, rfl⟩
theorem iX1_copyCounts_12 : zI cX1_copyCounts 12 (.iload_n 2) 1 13 := ⟨by decide +kernel, rfl⟩
theorem iX1_copyCounts_9 : zI cX1_copyCounts 9 (.getfield 21) 3 12 := ⟨by decide +kernel, rfl⟩
theorem iX1_copyCounts_8 : zI cX1_copyCounts 8 (.aload_n 0) 1 9 := ⟨by decide +kernel, rfl⟩
theorem iX1_copyCounts_3 : zI cX1_copyCounts 3 (.bipush 6) 2 5 := ⟨by decide +kernel, rfl⟩
theorem iX1_copyCounts_2 : zI cX1_copyCounts 2 (.iload_n 3) 1 3 := ⟨by decide +kernel, rfl⟩
theorem iX1_copyCounts_36 : zI cX1_copyCounts 36 (.return_) 1 37 := ⟨by decide +kernel, rfl⟩
theorem iX1_copyCounts_1 : zI cX1_copyCounts 1 (.istore_n 3) 1 2 := ⟨by decide +kernel, rfl⟩
theorem iX1_copyCounts_0 : zI cX1_copyCounts 0 (.iconst 0) 1 1 := ⟨by decide +kernel, rfl⟩
set_option maxHeartbeats 4000000 in
set_option maxRecDepth 100000 in
theorem m_Gr_copyCounts (g : Nat) (hg : isG g) (x1 : Int32) (x2 : Int32) (h : zH) : zM yX1_copyCounts cX1_copyCounts 4 none 0 shX (fun ad => [.ref (ad g), .int x1, .int x2]) h eV (Gr_copyCounts g x1 x2 h) := by
  refine zM.of (by decide) (fun _ => rfl) (fun _ => Nat.le_of_ble_eq_true rfl) (fun X ad hnL C => ?_)
  show zG X ad shX eV 0 [some (.ref (ad g)), some (.int x1), some (.int x2), none] [] h _
  unfold Gr_copyCounts
  refine g_iconst C 0 iX1_copyCounts_0 (by decide) ?_
  refine g_istore_n (lv' := [some (.ref (ad g)), some (.int x1), some (.int x2), some (.int 0)]) C hnL iX1_copyCounts_1 (by decide) rfl ?_
  have L2 : ∀ (k36 : zH → Option (zH)), (∀ (hy : zH), zG X ad shX eV 36 [none, none, none, none] [] hy (k36 hy)) → ∀ (n : Nat) (x3 : Int32) (h_1 : zH), zG X ad shX eV 2 [some (.ref (ad g)), some (.int x1), some (.int x2), some (.int x3)] [] h_1 (Gr_copyCounts_L2 g x1 x2 k36 n x3 h_1) := by
    intro k36 hk36 n
    induction n with
    | zero =>
      intro x3 h_1
      exact g_none
    | succ n ih2 =>
      intro x3 h_1
      rw [Gr_copyCounts_L2]
      refine g_iload_n C iX1_copyCounts_2 rfl ?_
      refine g_bipush C 6 iX1_copyCounts_3 (by decide) ?_
      refine g_icmp_ge C 36 iX1_copyCounts_5 (by decide) (fun c5 => ?_) (fun c5 => ?_)
      · refine g_sub (lv' := [none, none, none, none]) trivial ?_
        exact hk36 _
      · refine g_aload_n C iX1_copyCounts_8 rfl ?_
        refine g_getR (b := (g + 4)) C fX1_21 iX1_copyCounts_9 hg.1 rfl ?_
        refine g_iload_n C iX1_copyCounts_12 rfl ?_
        refine g_bipush C 6 iX1_copyCounts_13 (by decide) ?_
        refine g_imul C iX1_copyCounts_15 ?_
        refine g_iload_n C iX1_copyCounts_16 rfl ?_
        refine g_iadd C iX1_copyCounts_17 ?_
        refine g_aload_n C iX1_copyCounts_18 rfl ?_
        refine g_getR (b := (g + 4)) C fX1_21 iX1_copyCounts_19 hg.1 rfl ?_
        refine g_iload_n C iX1_copyCounts_22 rfl ?_
        refine g_bipush C 6 iX1_copyCounts_23 (by decide) ?_
        refine g_imul C iX1_copyCounts_25 ?_
        refine g_iload_n C iX1_copyCounts_26 rfl ?_
        refine g_iadd C iX1_copyCounts_27 ?_
        refine g_iaload C iX1_copyCounts_28 hg.2.2.2.2.1 ?_
        refine g_iastore C iX1_copyCounts_29 hg.2.2.2.2.1 (fun h_2 => ?_)
        refine g_iinc (v := (x3 + 1)) (lv' := [some (.ref (ad g)), some (.int x1), some (.int x2), some (.int (x3 + 1))]) C hnL iX1_copyCounts_30 (by decide) rfl rfl rfl ?_
        refine g_goto C 2 iX1_copyCounts_33 (by decide) ?_
        exact ih2 _ _
  refine L2 _ (fun h_3 => ?_) 1000 _ _
  show zG X ad shX eV 36 [none, none, none, none] [] h_3 _
  exact g_vret C iX1_copyCounts_36 rfl

theorem iX1_islands_12 : zI cX1_islands 12 (.if_icmp .ge 22) 3 15 := ⟨by decide +kernel, rfl⟩
theorem iX1_islands_22 : zI cX1_islands 22 (.if_icmp .ne 6) 3 25 := ⟨by decide +kernel, rfl⟩
theorem iX1_islands_31 : zI cX1_islands 31 (.goto (-27)) 3 34 := ⟨by decide +kernel, rfl⟩
theorem iX1_islands_28 : zI cX1_islands 28 (.iinc 2 1) 3 31 := ⟨by decide +kernel, rfl⟩
theorem iX1_islands_25 : zI cX1_islands 25 (.iinc 1 1) 3 28 := ⟨by decide +kernel, rfl⟩
theorem iX1_islands_21 : zI cX1_islands 21 (.iload_n 2) 1 22 := ⟨by decide +kernel, rfl⟩
theorem iX1_islands_20 : zI cX1_islands 20 (.iaload) 1 21 := ⟨by decide +kernel, rfl⟩
theorem iX1_islands_19 : zI cX1_islands 19 (.iload_n 2) 1 20 := ⟨by decide +kernel, rfl⟩
theorem iX1_islands_16 : zI cX1_islands 16 (.getfield 9) 3 19 := ⟨by decide +kernel, rfl⟩
theorem iX1_islands_15 : zI cX1_islands 15 (.aload_n 0) 1 16 := ⟨by decide +kernel, rfl⟩
theorem iX1_islands_9 : zI cX1_islands 9 (.getfield 99) 3 12 := ⟨by decide +kernel, rfl⟩
theorem iX1_islands_6 : zI cX1_islands 6 (.getfield 33) 3 9 := ⟨by decide +kernel, rfl⟩
theorem iX1_islands_5 : zI cX1_islands 5 (.aload_n 0) 1 6 := ⟨by decide +kernel, rfl⟩
theorem iX1_islands_4 : zI cX1_islands 4 (.iload_n 2) 1 5 := ⟨by decide +kernel, rfl⟩
theorem iX1_islands_35 : zI cX1_islands 35 (.ireturn) 1 36 := ⟨by decide +kernel, rfl⟩
theorem iX1_islands_34 : zI cX1_islands 34 (.iload_n 1) 1 35 := ⟨by decide +kernel, rfl⟩
theorem iX1_islands_3 : zI cX1_islands 3 (.istore_n 2) 1 4 := ⟨by decide +kernel, rfl⟩
theorem iX1_islands_2 : zI cX1_islands 2 (.iconst 0) 1 3 := ⟨by decide +kernel, rfl⟩
theorem iX1_islands_1 : zI cX1_islands 1 (.istore_n 1) 1 2 := ⟨by decide +kernel, rfl⟩
theorem iX1_islands_0 : zI cX1_islands 0 (.iconst 0) 1 1 := ⟨by decide +kernel, rfl⟩
set_option maxHeartbeats 4000000 in
set_option maxRecDepth 100000 in
theorem m_Gr_islands (g : Nat) (hg : isG g) (h : zH) : zM yX1_islands cX1_islands 3 (some .int) 0 shX (fun ad => [.ref (ad g)]) h (eP h) (Gr_islands g h) := by
  refine zM.of (by decide) (fun _ => rfl) (fun _ => Nat.le_of_ble_eq_true rfl) (fun X ad hnL C => ?_)
  show zG X ad shX (eP h) 0 [some (.ref (ad g)), none, none] [] h _
  unfold Gr_islands
  refine g_iconst C 0 iX1_islands_0 (by decide) ?_
  refine g_istore_n (lv' := [some (.ref (ad g)), some (.int 0), none]) C hnL iX1_islands_1 (by decide) rfl ?_
  refine g_iconst C 0 iX1_islands_2 (by decide) ?_
  refine g_istore_n (lv' := [some (.ref (ad g)), some (.int 0), some (.int 0)]) C hnL iX1_islands_3 (by decide) rfl ?_
  have L4 : ∀ (k34 : Int32 → Option (Int32)), (∀ (y1 : Int32), zG X ad shX (eP h) 34 [none, some (.int y1), none] [] h (k34 y1)) → ∀ (n : Nat) (x1 x2 : Int32), zG X ad shX (eP h) 4 [some (.ref (ad g)), some (.int x1), some (.int x2)] [] h (Gr_islands_L4 g h k34 n x1 x2) := by
    intro k34 hk34 n
    induction n with
    | zero =>
      intro x1 x2
      exact g_none
    | succ n ih4 =>
      intro x1 x2
      rw [Gr_islands_L4]
      refine g_iload_n C iX1_islands_4 rfl ?_
      refine g_aload_n C iX1_islands_5 rfl ?_
      refine g_getR (b := 17) C fX1_33 iX1_islands_6 hg.1 rfl ?_
      refine g_getI C fX1_99 iX1_islands_9 isP17.1 rfl ?_
      refine g_icmp_ge C 34 iX1_islands_12 (by decide) (fun c12 => ?_) (fun c12 => ?_)
      · refine g_sub (lv' := [none, some (.int x1), none]) ⟨rfl, trivial⟩ ?_
        exact hk34 _
      · refine g_aload_n C iX1_islands_15 rfl ?_
        refine g_getR (b := (g + 1)) C fX1_9 iX1_islands_16 hg.1 rfl ?_
        refine g_iload_n C iX1_islands_19 rfl ?_
        refine g_iaload C iX1_islands_20 hg.2.1 ?_
        refine g_iload_n C iX1_islands_21 rfl ?_
        refine g_icmp_ne C 28 iX1_islands_22 (by decide) (fun c22 => ?_) (fun c22 => ?_)
        · refine g_iinc (v := (x1 + 1)) (lv' := [some (.ref (ad g)), some (.int (x1 + 1)), some (.int x2)]) C hnL iX1_islands_25 (by decide) rfl rfl rfl ?_
          refine g_iinc (v := (x2 + 1)) (lv' := [some (.ref (ad g)), some (.int (x1 + 1)), some (.int (x2 + 1))]) C hnL iX1_islands_28 (by decide) rfl rfl rfl ?_
          refine g_goto C 4 iX1_islands_31 (by decide) ?_
          exact ih4 _ _
        · refine g_iinc (v := (x2 + 1)) (lv' := [some (.ref (ad g)), some (.int x1), some (.int (x2 + 1))]) C hnL iX1_islands_28 (by decide) rfl rfl rfl ?_
          refine g_goto C 4 iX1_islands_31 (by decide) ?_
          exact ih4 _ _
  refine L4 _ (fun x1_1 => ?_) 1000 _ _
  show zG X ad shX (eP h) 34 [none, some (.int x1_1), none] [] h _
  refine g_iload_n C iX1_islands_34 rfl ?_
  exact g_iret C iX1_islands_35 rfl

