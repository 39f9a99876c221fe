theorem pX0_19 : zFp RX0 19 0 2 := ⟨RX0, TX0, 5, rfl, by decide, (zmem 266 (by decide +kernel) (by decide +kernel)), u_inX0, by decide +kernel, by decide +kernel, ⟨tyX0, tyX0_ok⟩, nmX0⟩
theorem pX0_23 : zFp RX0 23 0 3 := ⟨RX0, TX0, 5, rfl, by decide, (zmem 268 (by decide +kernel) (by decide +kernel)), u_inX0, by decide +kernel, by decide +kernel, ⟨tyX0, tyX0_ok⟩, nmX0⟩
theorem pX0_26 : zFp RX0 26 0 4 := ⟨RX0, TX0, 5, rfl, by decide, (zmem 270 (by decide +kernel) (by decide +kernel)), u_inX0, by decide +kernel, by decide +kernel, ⟨tyX0, tyX0_ok⟩, nmX0⟩
theorem iX0_forget_15 : zI cX0_forget 15 (.return_) 1 16 := ⟨by decide +kernel, rfl⟩
theorem iX0_forget_12 : zI cX0_forget 12 (.putfield 26) 3 15 := ⟨by decide +kernel, rfl⟩
theorem iX0_forget_11 : zI cX0_forget 11 (.iconst 0) 1 12 := ⟨by decide +kernel, rfl⟩
theorem iX0_forget_10 : zI cX0_forget 10 (.aload_n 0) 1 11 := ⟨by decide +kernel, rfl⟩
theorem iX0_forget_7 : zI cX0_forget 7 (.putfield 23) 3 10 := ⟨by decide +kernel, rfl⟩
theorem iX0_forget_6 : zI cX0_forget 6 (.iconst 0) 1 7 := ⟨by decide +kernel, rfl⟩
theorem iX0_forget_5 : zI cX0_forget 5 (.aload_n 0) 1 6 := ⟨by decide +kernel, rfl⟩
theorem iX0_forget_2 : zI cX0_forget 2 (.putfield 19) 3 5 := ⟨by decide +kernel, rfl⟩
theorem iX0_forget_1 : zI cX0_forget 1 (.iconst 0) 1 2 := ⟨by decide +kernel, rfl⟩
theorem iX0_forget_0 : zI cX0_forget 0 (.aload_n 0) 1 1 := ⟨by decide +kernel, rfl⟩
set_option maxHeartbeats 4000000 in
set_option maxRecDepth 100000 in
theorem m_Co_forget (c g : Nat) (hc : isC c g) (hg : isG g) (h : zH) : zM yX0_forget cX0_forget 1 none 0 shX (fun ad => [.ref (ad c)]) h eV (Co_forget c g h) := by
  refine zM.of (by decide) (fun _ => rfl) (fun _ => Nat.le_of_ble_eq_true rfl) (fun X ad hnL C => ?_)
  show zG X ad shX eV 0 [some (.ref (ad c))] [] h _
  unfold Co_forget
  refine g_aload_n C iX0_forget_0 rfl ?_
  refine g_iconst C 0 iX0_forget_1 (by decide) ?_
  refine g_putI C pX0_19 iX0_forget_2 hc rfl (fun h_1 => ?_)
  refine g_aload_n C iX0_forget_5 rfl ?_
  refine g_iconst C 0 iX0_forget_6 (by decide) ?_
  refine g_putI C pX0_23 iX0_forget_7 hc rfl (fun h_2 => ?_)
  refine g_aload_n C iX0_forget_10 rfl ?_
  refine g_iconst C 0 iX0_forget_11 (by decide) ?_
  refine g_putI C pX0_26 iX0_forget_12 hc rfl (fun h_3 => ?_)
  exact g_vret C iX0_forget_15 rfl

theorem fX1_18 : zFl RX1 18 1 4 := ⟨RX1, TX1, 12, rfl, by decide, (zmem 210 (by decide +kernel) (by decide +kernel)), u_inX1⟩
theorem iX1_isDark_6 : zI cX1_isDark 6 (.ifCond .ne 7) 3 9 := ⟨by decide +kernel, rfl⟩
theorem iX1_isDark_14 : zI cX1_isDark 14 (.ireturn) 1 15 := ⟨by decide +kernel, rfl⟩
theorem iX1_isDark_13 : zI cX1_isDark 13 (.iconst 0) 1 14 := ⟨by decide +kernel, rfl⟩
theorem iX1_isDark_10 : zI cX1_isDark 10 (.goto 4) 3 13 := ⟨by decide +kernel, rfl⟩
theorem iX1_isDark_9 : zI cX1_isDark 9 (.iconst 1) 1 10 := ⟨by decide +kernel, rfl⟩
theorem iX1_isDark_5 : zI cX1_isDark 5 (.iaload) 1 6 := ⟨by decide +kernel, rfl⟩
theorem iX1_isDark_4 : zI cX1_isDark 4 (.iload_n 1) 1 5 := ⟨by decide +kernel, rfl⟩
theorem iX1_isDark_1 : zI cX1_isDark 1 (.getfield 18) 3 4 := ⟨by decide +kernel, rfl⟩
theorem iX1_isDark_0 : zI cX1_isDark 0 (.aload_n 0) 1 1 := ⟨by decide +kernel, rfl⟩
set_option maxHeartbeats 4000000 in
set_option maxRecDepth 100000 in
theorem m_Gr_isDark (g : Nat) (hg : isG g) (x1 : Int32) (h : zH) : zM yX1_isDark cX1_isDark 2 (some .boolean) 0 shX (fun ad => [.ref (ad g), .int x1]) h (eP h) (Gr_isDark g x1 h) := by
  refine zM.of (by decide) (fun _ => rfl) (fun _ => Nat.le_of_ble_eq_true rfl) (fun X ad hnL C => ?_)
  show zG X ad shX (eP h) 0 [some (.ref (ad g)), some (.int x1)] [] h _
  unfold Gr_isDark
  refine g_aload_n C iX1_isDark_0 rfl ?_
  refine g_getR (b := (g + 3)) C fX1_18 iX1_isDark_1 hg.1 rfl ?_
  refine g_iload_n C iX1_isDark_4 rfl ?_
  refine g_iaload C iX1_isDark_5 hg.2.2.2.1 ?_
  refine g_if_ne C 13 iX1_isDark_6 (by decide) (fun c6 => ?_) (fun c6 => ?_)
  · refine g_iconst C 1 iX1_isDark_9 (by decide) ?_
    refine g_goto C 14 iX1_isDark_10 (by decide) ?_
    exact g_zret C iX1_isDark_14 rfl rfl
  · refine g_iconst C 0 iX1_isDark_13 (by decide) ?_
    exact g_zret C iX1_isDark_14 rfl rfl

theorem iX6_has_6 : zI cX6_has 6 (.if_icmp .ne 7) 3 9 := ⟨by decide +kernel, rfl⟩
theorem iX6_has_14 : zI cX6_has 14 (.ireturn) 1 15 := ⟨by decide +kernel, rfl⟩
theorem iX6_has_13 : zI cX6_has 13 (.iconst 0) 1 14 := ⟨by decide +kernel, rfl⟩
theorem iX6_has_10 : zI cX6_has 10 (.goto 4) 3 13 := ⟨by decide +kernel, rfl⟩
theorem iX6_has_9 : zI cX6_has 9 (.iconst 1) 1 10 := ⟨by decide +kernel, rfl⟩
theorem iX6_has_5 : zI cX6_has 5 (.iconst 1) 1 6 := ⟨by decide +kernel, rfl⟩
theorem iX6_has_4 : zI cX6_has 4 (.iand) 1 5 := ⟨by decide +kernel, rfl⟩
theorem iX6_has_3 : zI cX6_has 3 (.iconst 1) 1 4 := ⟨by decide +kernel, rfl⟩
theorem iX6_has_2 : zI cX6_has 2 (.ishr) 1 3 := ⟨by decide +kernel, rfl⟩
theorem iX6_has_1 : zI cX6_has 1 (.iload_n 1) 1 2 := ⟨by decide +kernel, rfl⟩
theorem iX6_has_0 : zI cX6_has 0 (.iload_n 0) 1 1 := ⟨by decide +kernel, rfl⟩
set_option maxHeartbeats 4000000 in
set_option maxRecDepth 100000 in
theorem m_SS_has (x0 : Int32) (x1 : Int32) (h : zH) : zM yX6_has cX6_has 2 (some .boolean) 0 shX (fun ad => [.int x0, .int x1]) h (eP h) (SS_has x0 x1) := by
  refine zM.of (by decide) (fun _ => rfl) (fun _ => Nat.le_of_ble_eq_true rfl) (fun X ad hnL C => ?_)
  show zG X ad shX (eP h) 0 [some (.int x0), some (.int x1)] [] h _
  unfold SS_has
  refine g_iload_n C iX6_has_0 rfl ?_
  refine g_iload_n C iX6_has_1 rfl ?_
  refine g_ishr C iX6_has_2 ?_
  refine g_iconst C 1 iX6_has_3 (by decide) ?_
  refine g_iand C iX6_has_4 ?_
  refine g_iconst C 1 iX6_has_5 (by decide) ?_
  refine g_icmp_ne C 13 iX6_has_6 (by decide) (fun c6 => ?_) (fun c6 => ?_)
  · refine g_iconst C 1 iX6_has_9 (by decide) ?_
    refine g_goto C 14 iX6_has_10 (by decide) ?_
    exact g_zret C iX6_has_14 rfl rfl
  · refine g_iconst C 0 iX6_has_13 (by decide) ?_
    exact g_zret C iX6_has_14 rfl rfl

theorem fX1_33 : zFl RX1 33 1 0 := ⟨RX1, TX1, 12, rfl, by decide, (zmem 203 (by decide +kernel) (by decide +kernel)), u_inX1⟩
theorem fX1_61 : zFl RX1 61 4 3 := ⟨RX4, TX4, 16, rfl, by decide, (zmem 131 (by decide +kernel) (by decide +kernel)), u_inX4⟩
theorem iX1_loadOf_12 : zI cX1_loadOf 12 (.if_icmp .ge 50) 3 15 := ⟨by decide +kernel, rfl⟩
theorem fX1_47 : zFl RX1 47 1 7 := ⟨RX1, TX1, 12, rfl, by decide, (zmem 219 (by decide +kernel) (by decide +kernel)), u_inX1⟩
set_option maxRecDepth 100000 in
theorem wX1_102 : zCn RX1 102 yX6_has cX6_has 2 (some .boolean) 2 := ⟨by decide +kernel, (zmem 63 (by decide +kernel) (by decide +kernel)), (zmem 427 rfl rfl), ⟨by decide, by decide, by decide +kernel⟩, by decide, (zmem 426 (by decide +kernel) (by decide +kernel))⟩
theorem iX1_loadOf_20 : zI cX1_loadOf 20 (.invokestatic 102) 3 23 := ⟨by decide +kernel, rfl⟩
theorem iX1_loadOf_23 : zI cX1_loadOf 23 (.ifCond .eq 33) 3 26 := ⟨by decide +kernel, rfl⟩
theorem iX1_loadOf_59 : zI cX1_loadOf 59 (.goto (-55)) 3 62 := ⟨by decide +kernel, rfl⟩
theorem iX1_loadOf_56 : zI cX1_loadOf 56 (.iinc 3 1) 3 59 := ⟨by decide +kernel, rfl⟩
theorem fX1_9 : zFl RX1 9 1 2 := ⟨RX1, TX1, 12, rfl, by decide, (zmem 206 (by decide +kernel) (by decide +kernel)), u_inX1⟩
theorem fX1_116 : zFl RX1 116 4 11 := ⟨RX4, TX4, 16, rfl, by decide, (zmem 154 (by decide +kernel) (by decide +kernel)), u_inX4⟩
theorem iX1_loadOf_41 : zI cX1_loadOf 41 (.if_icmp .ne 15) 3 44 := ⟨by decide +kernel, rfl⟩
theorem fX1_119 : zFl RX1 119 4 12 := ⟨RX4, TX4, 16, rfl, by decide, (zmem 157 (by decide +kernel) (by decide +kernel)), u_inX4⟩
theorem iX1_loadOf_55 : zI cX1_loadOf 55 (.istore_n 2) 1 56 := ⟨by decide +kernel, rfl⟩
theorem iX1_loadOf_54 : zI cX1_loadOf 54 (.iadd) 1 55 := ⟨by decide +kernel, rfl⟩
theorem iX1_loadOf_53 : zI cX1_loadOf 53 (.iaload) 1 54 := ⟨by decide +kernel, rfl⟩
theorem iX1_loadOf_52 : zI cX1_loadOf 52 (.iload_n 3) 1 53 := ⟨by decide +kernel, rfl⟩
theorem iX1_loadOf_49 : zI cX1_loadOf 49 (.getfield 119) 3 52 := ⟨by decide +kernel, rfl⟩
theorem iX1_loadOf_46 : zI cX1_loadOf 46 (.getfield 33) 3 49 := ⟨by decide +kernel, rfl⟩
theorem iX1_loadOf_45 : zI cX1_loadOf 45 (.aload_n 0) 1 46 := ⟨by decide +kernel, rfl⟩
theorem iX1_loadOf_44 : zI cX1_loadOf 44 (.iload_n 2) 1 45 := ⟨by decide +kernel, rfl⟩
theorem iX1_loadOf_40 : zI cX1_loadOf 40 (.iload_n 1) 1 41 := ⟨by decide +kernel, rfl⟩
theorem iX1_loadOf_39 : zI cX1_loadOf 39 (.iaload) 1 40 := ⟨by decide +kernel, rfl⟩
theorem iX1_loadOf_38 : zI cX1_loadOf 38 (.iaload) 1 39 := ⟨by decide +kernel, rfl⟩
theorem iX1_loadOf_37 : zI cX1_loadOf 37 (.iload_n 3) 1 38 := ⟨by decide +kernel, rfl⟩
theorem iX1_loadOf_34 : zI cX1_loadOf 34 (.getfield 116) 3 37 := ⟨by decide +kernel, rfl⟩
theorem iX1_loadOf_31 : zI cX1_loadOf 31 (.getfield 33) 3 34 := ⟨by decide +kernel, rfl⟩
theorem iX1_loadOf_30 : zI cX1_loadOf 30 (.aload_n 0) 1 31 := ⟨by decide +kernel, rfl⟩
theorem iX1_loadOf_27 : zI cX1_loadOf 27 (.getfield 9) 3 30 := ⟨by decide +kernel, rfl⟩
theorem iX1_loadOf_26 : zI cX1_loadOf 26 (.aload_n 0) 1 27 := ⟨by decide +kernel, rfl⟩
theorem iX1_loadOf_19 : zI cX1_loadOf 19 (.iload_n 3) 1 20 := ⟨by decide +kernel, rfl⟩
theorem iX1_loadOf_16 : zI cX1_loadOf 16 (.getfield 47) 3 19 := ⟨by decide +kernel, rfl⟩
theorem iX1_loadOf_15 : zI cX1_loadOf 15 (.aload_n 0) 1 16 := ⟨by decide +kernel, rfl⟩
theorem iX1_loadOf_9 : zI cX1_loadOf 9 (.getfield 61) 3 12 := ⟨by decide +kernel, rfl⟩
theorem iX1_loadOf_6 : zI cX1_loadOf 6 (.getfield 33) 3 9 := ⟨by decide +kernel, rfl⟩
theorem iX1_loadOf_5 : zI cX1_loadOf 5 (.aload_n 0) 1 6 := ⟨by decide +kernel, rfl⟩
theorem iX1_loadOf_4 : zI cX1_loadOf 4 (.iload_n 3) 1 5 := ⟨by decide +kernel, rfl⟩
theorem iX1_loadOf_63 : zI cX1_loadOf 63 (.ireturn) 1 64 := ⟨by decide +kernel, rfl⟩
theorem iX1_loadOf_62 : zI cX1_loadOf 62 (.iload_n 2) 1 63 := ⟨by decide +kernel, rfl⟩
theorem iX1_loadOf_3 : zI cX1_loadOf 3 (.istore_n 3) 1 4 := ⟨by decide +kernel, rfl⟩
theorem iX1_loadOf_2 : zI cX1_loadOf 2 (.iconst 0) 1 3 := ⟨by decide +kernel, rfl⟩
theorem iX1_loadOf_1 : zI cX1_loadOf 1 (.istore_n 2) 1 2 := ⟨by decide +kernel, rfl⟩
theorem iX1_loadOf_0 : zI cX1_loadOf 0 (.iconst 0) 1 1 := ⟨by decide +kernel, rfl⟩
set_option maxHeartbeats 4000000 in
set_option maxRecDepth 100000 in
theorem m_Gr_loadOf (g : Nat) (hg : isG g) (x1 : Int32) (h : zH) : zM yX1_loadOf cX1_loadOf 4 (some .int) 1 shX (fun ad => [.ref (ad g), .int x1]) h (eP h) (Gr_loadOf g x1 h) := by
  refine zM.of (by decide) (fun _ => rfl) (fun _ => Nat.le_of_ble_eq_true rfl) (fun X ad hnL C => ?_)
  show zG X ad shX (eP h) 0 [some (.ref (ad g)), some (.int x1), none, none] [] h _
  unfold Gr_loadOf
  refine g_iconst C 0 iX1_loadOf_0 (by decide) ?_
  refine g_istore_n (lv' := [some (.ref (ad g)), some (.int x1), some (.int 0), none]) C hnL iX1_loadOf_1 (by decide) rfl ?_
  refine g_iconst C 0 iX1_loadOf_2 (by decide) ?_
  refine g_istore_n (lv' := [some (.ref (ad g)), some (.int x1), some (.int 0), some (.int 0)]) C hnL iX1_loadOf_3 (by decide) rfl ?_
  have L4 : ∀ (k62 : Int32 → Option (Int32)), (∀ (y2 : Int32), zG X ad shX (eP h) 62 [none, none, some (.int y2), none] [] h (k62 y2)) → ∀ (n : Nat) (x2 x3 : Int32), zG X ad shX (eP h) 4 [some (.ref (ad g)), some (.int x1), some (.int x2), some (.int x3)] [] h (Gr_loadOf_L4 g x1 h k62 n x2 x3) := by
    intro k62 hk62 n
    induction n with
    | zero =>
      intro x2 x3
      exact g_none
    | succ n ih4 =>
      intro x2 x3
      rw [Gr_loadOf_L4]
      refine g_iload_n C iX1_loadOf_4 rfl ?_
      refine g_aload_n C iX1_loadOf_5 rfl ?_
      refine g_getR (b := 17) C fX1_33 iX1_loadOf_6 hg.1 rfl ?_
      refine g_getI C fX1_61 iX1_loadOf_9 isP17.1 rfl ?_
      refine g_icmp_ge C 62 iX1_loadOf_12 (by decide) (fun c12 => ?_) (fun c12 => ?_)
      · refine g_sub (lv' := [none, none, some (.int x2), none]) ⟨rfl, trivial⟩ ?_
        exact hk62 _
      · refine g_aload_n C iX1_loadOf_15 rfl ?_
        refine g_getI C fX1_47 iX1_loadOf_16 hg.1 rfl ?_
        refine g_iload_n C iX1_loadOf_19 rfl ?_
        refine g_callN C wX1_102 iX1_loadOf_20 (m_SS_has (h g 7) x3 h) (by decide) rfl rfl rfl (Nat.le_of_ble_eq_true rfl) (fun r => ?_)
        show zG X ad shX (eP h) 23 [some (.ref (ad g)), some (.int x1), some (.int x2), some (.int x3)] [.int r] h _
        refine g_if_eq C 56 iX1_loadOf_23 (by decide) (fun c23 => ?_) (fun c23 => ?_)
        · refine g_iinc (v := (x3 + 1)) (lv' := [some (.ref (ad g)), some (.int x1), some (.int x2), some (.int (x3 + 1))]) C hnL iX1_loadOf_56 (by decide) rfl rfl rfl ?_
          refine g_goto C 4 iX1_loadOf_59 (by decide) ?_
          exact ih4 _ _
        · refine g_aload_n C iX1_loadOf_26 rfl ?_
          refine g_getR (b := (g + 1)) C fX1_9 iX1_loadOf_27 hg.1 rfl ?_
          refine g_aload_n C iX1_loadOf_30 rfl ?_
          refine g_getR (b := 17) C fX1_33 iX1_loadOf_31 hg.1 rfl ?_
          refine g_getR (b := 24) C fX1_116 iX1_loadOf_34 isP17.1 rfl ?_
          refine g_iload_n C iX1_loadOf_37 rfl ?_
          refine g_iaload C iX1_loadOf_38 isP17.2.2.2.2.2.2.2.1 ?_
          refine g_iaload C iX1_loadOf_39 hg.2.1 ?_
          refine g_iload_n C iX1_loadOf_40 rfl ?_
          refine g_icmp_ne C 56 iX1_loadOf_41 (by decide) (fun c41 => ?_) (fun c41 => ?_)
          · refine g_iload_n C iX1_loadOf_44 rfl ?_
            refine g_aload_n C iX1_loadOf_45 rfl ?_
            refine g_getR (b := 17) C fX1_33 iX1_loadOf_46 hg.1 rfl ?_
            refine g_getR (b := 25) C fX1_119 iX1_loadOf_49 isP17.1 rfl ?_
            refine g_iload_n C iX1_loadOf_52 rfl ?_
            refine g_iaload C iX1_loadOf_53 isP17.2.2.2.2.2.2.2.2.1 ?_
            refine g_iadd C iX1_loadOf_54 ?_
            refine g_top (fun x2_1 => ?_)
            refine g_istore_n (lv' := [some (.ref (ad g)), some (.int x1), some (.int x2_1), some (.int x3)]) C hnL iX1_loadOf_55 (by decide) rfl ?_
            refine g_iinc (v := (x3 + 1)) (lv' := [some (.ref (ad g)), some (.int x1), some (.int x2_1), some (.int (x3 + 1))]) C hnL iX1_loadOf_56 (by decide) rfl rfl rfl ?_
            refine g_goto C 4 iX1_loadOf_59 (by decide) ?_
            exact ih4 _ _
          · refine g_iinc (v := (x3 + 1)) (lv' := [some (.ref (ad g)), some (.int x1), some (.int x2), some (.int (x3 + 1))]) C hnL iX1_loadOf_56 (by decide) rfl rfl rfl ?_
            refine g_goto C 4 iX1_loadOf_59 (by decide) ?_
            exact ih4 _ _
  refine L4 _ (fun x2_2 => ?_) 1000 _ _
  show zG X ad shX (eP h) 62 [none, none, some (.int x2_2), none] [] h _
  refine g_iload_n C iX1_loadOf_62 rfl ?_
  exact g_iret C iX1_loadOf_63 rfl

set_option maxRecDepth 100000 in
theorem wX1_86 : zCv RX1 86 yX1_loadOf cX1_loadOf 4 (some .int) 1 := ⟨⟨(zmem 439 (by decide +kernel) (by decide +kernel)), (zmem 67 (by decide +kernel) (by decide +kernel)), (zmem 442 rfl rfl), ⟨by decide, by decide, by decide +kernel⟩, by decide⟩, (zmem 440 (by decide +kernel) (by decide +kernel)), (zmem 441 (by decide +kernel) (by decide +kernel))⟩
theorem iX1_aimOf_2 : zI cX1_aimOf 2 (.invokevirtual 86) 3 5 := ⟨by decide +kernel, rfl⟩
theorem iX1_aimOf_19 : zI cX1_aimOf 19 (.ireturn) 1 20 := ⟨by decide +kernel, rfl⟩
theorem iX1_aimOf_18 : zI cX1_aimOf 18 (.iadd) 1 19 := ⟨by decide +kernel, rfl⟩
theorem iX1_aimOf_17 : zI cX1_aimOf 17 (.idiv) 1 18 := ⟨by decide +kernel, rfl⟩
theorem iX1_aimOf_15 : zI cX1_aimOf 15 (.bipush 20) 2 17 := ⟨by decide +kernel, rfl⟩
theorem iX1_aimOf_14 : zI cX1_aimOf 14 (.isub) 1 15 := ⟨by decide +kernel, rfl⟩
theorem iX1_aimOf_13 : zI cX1_aimOf 13 (.iaload) 1 14 := ⟨by decide +kernel, rfl⟩
theorem iX1_aimOf_12 : zI cX1_aimOf 12 (.iload_n 1) 1 13 := ⟨by decide +kernel, rfl⟩
theorem iX1_aimOf_9 : zI cX1_aimOf 9 (.getfield 18) 3 12 := ⟨by decide +kernel, rfl⟩
theorem iX1_aimOf_8 : zI cX1_aimOf 8 (.aload_n 0) 1 9 := ⟨by decide +kernel, rfl⟩
theorem iX1_aimOf_5 : zI cX1_aimOf 5 (.sipush 5000) 3 8 := ⟨by decide +kernel, rfl⟩
theorem iX1_aimOf_1 : zI cX1_aimOf 1 (.iload_n 1) 1 2 := ⟨by decide +kernel, rfl⟩
theorem iX1_aimOf_0 : zI cX1_aimOf 0 (.aload_n 0) 1 1 := ⟨by decide +kernel, rfl⟩
set_option maxHeartbeats 4000000 in
set_option maxRecDepth 100000 in
theorem m_Gr_aimOf (g : Nat) (hg : isG g) (x1 : Int32) (h : zH) : zM yX1_aimOf cX1_aimOf 2 (some .int) 2 shX (fun ad => [.ref (ad g), .int x1]) h (eP h) (Gr_aimOf g x1 h) := by
  refine zM.of (by decide) (fun _ => rfl) (fun _ => Nat.le_of_ble_eq_true rfl) (fun X ad hnL C => ?_)
  show zG X ad shX (eP h) 0 [some (.ref (ad g)), some (.int x1)] [] h _
  unfold Gr_aimOf
  refine g_aload_n C iX1_aimOf_0 rfl ?_
  refine g_iload_n C iX1_aimOf_1 rfl ?_
  refine g_callV C wX1_86 iX1_aimOf_2 (m_Gr_loadOf g hg x1 h) (by decide) hg.1 rfl rfl rfl rfl (Nat.le_of_ble_eq_true rfl) (fun r => ?_)
  show zG X ad shX (eP h) 5 [some (.ref (ad g)), some (.int x1)] [.int r] h _
  refine g_sipush C 5000 iX1_aimOf_5 (by decide) ?_
  refine g_aload_n C iX1_aimOf_8 rfl ?_
  refine g_getR (b := (g + 3)) C fX1_18 iX1_aimOf_9 hg.1 rfl ?_
  refine g_iload_n C iX1_aimOf_12 rfl ?_
  refine g_iaload C iX1_aimOf_13 hg.2.2.2.1 ?_
  refine g_isub C iX1_aimOf_14 ?_
  refine g_bipush C 20 iX1_aimOf_15 (by decide) ?_
  refine g_idivL C iX1_aimOf_17 (by decide) ?_
  refine g_iadd C iX1_aimOf_18 ?_
  exact g_iret C iX1_aimOf_19 rfl

theorem fX1_77 : zFl RX1 77 4 2 := ⟨RX4, TX4, 16, rfl, by decide, (zmem 127 (by decide +kernel) (by decide +kernel)), u_inX4⟩
theorem iX1_sumOfPlants_14 : zI cX1_sumOfPlants 14 (.if_icmp .ge 35) 3 17 := ⟨by decide +kernel, rfl⟩
theorem fX1_80 : zFl RX1 80 4 7 := ⟨RX4, TX4, 16, rfl, by decide, (zmem 142 (by decide +kernel) (by decide +kernel)), u_inX4⟩
theorem iX1_sumOfPlants_33 : zI cX1_sumOfPlants 33 (.if_icmp .ne 10) 3 36 := ⟨by decide +kernel, rfl⟩
theorem iX1_sumOfPlants_46 : zI cX1_sumOfPlants 46 (.goto (-41)) 3 49 := ⟨by decide +kernel, rfl⟩
theorem iX1_sumOfPlants_43 : zI cX1_sumOfPlants 43 (.iinc 4 1) 3 46 := ⟨by decide +kernel, rfl⟩
theorem iX1_sumOfPlants_42 : zI cX1_sumOfPlants 42 (.istore_n 3) 1 43 := ⟨by decide +kernel, rfl⟩
theorem iX1_sumOfPlants_41 : zI cX1_sumOfPlants 41 (.iadd) 1 42 := ⟨by decide +kernel, rfl⟩
theorem iX1_sumOfPlants_40 : zI cX1_sumOfPlants 40 (.iaload) 1 41 := ⟨by decide +kernel, rfl⟩
theorem iX1_sumOfPlants_38 : zI cX1_sumOfPlants 38 (.iload 4) 2 40 := ⟨by decide +kernel, rfl⟩
theorem iX1_sumOfPlants_37 : zI cX1_sumOfPlants 37 (.aload_n 1) 1 38 := ⟨by decide +kernel, rfl⟩
theorem iX1_sumOfPlants_36 : zI cX1_sumOfPlants 36 (.iload_n 3) 1 37 := ⟨by decide +kernel, rfl⟩
theorem iX1_sumOfPlants_32 : zI cX1_sumOfPlants 32 (.iload_n 2) 1 33 := ⟨by decide +kernel, rfl⟩
theorem iX1_sumOfPlants_31 : zI cX1_sumOfPlants 31 (.iaload) 1 32 := ⟨by decide +kernel, rfl⟩
theorem iX1_sumOfPlants_30 : zI cX1_sumOfPlants 30 (.iaload) 1 31 := ⟨by decide +kernel, rfl⟩
theorem iX1_sumOfPlants_28 : zI cX1_sumOfPlants 28 (.iload 4) 2 30 := ⟨by decide +kernel, rfl⟩
theorem iX1_sumOfPlants_25 : zI cX1_sumOfPlants 25 (.getfield 80) 3 28 := ⟨by decide +kernel, rfl⟩
theorem iX1_sumOfPlants_22 : zI cX1_sumOfPlants 22 (.getfield 33) 3 25 := ⟨by decide +kernel, rfl⟩
theorem iX1_sumOfPlants_21 : zI cX1_sumOfPlants 21 (.aload_n 0) 1 22 := ⟨by decide +kernel, rfl⟩
theorem iX1_sumOfPlants_18 : zI cX1_sumOfPlants 18 (.getfield 9) 3 21 := ⟨by decide +kernel, rfl⟩
theorem iX1_sumOfPlants_17 : zI cX1_sumOfPlants 17 (.aload_n 0) 1 18 := ⟨by decide +kernel, rfl⟩
theorem iX1_sumOfPlants_11 : zI cX1_sumOfPlants 11 (.getfield 77) 3 14 := ⟨by decide +kernel, rfl⟩
theorem iX1_sumOfPlants_8 : zI cX1_sumOfPlants 8 (.getfield 33) 3 11 := ⟨by decide +kernel, rfl⟩
theorem iX1_sumOfPlants_7 : zI cX1_sumOfPlants 7 (.aload_n 0) 1 8 := ⟨by decide +kernel, rfl⟩
theorem iX1_sumOfPlants_5 : zI cX1_sumOfPlants 5 (.iload 4) 2 7 := ⟨by decide +kernel, rfl⟩
theorem iX1_sumOfPlants_50 : zI cX1_sumOfPlants 50 (.ireturn) 1 51 := ⟨by decide +kernel, rfl⟩
theorem iX1_sumOfPlants_49 : zI cX1_sumOfPlants 49 (.iload_n 3) 1 50 := ⟨by decide +kernel, rfl⟩
theorem iX1_sumOfPlants_3 : zI cX1_sumOfPlants 3 (.istore 4) 2 5 := ⟨by decide +kernel, rfl⟩
theorem iX1_sumOfPlants_2 : zI cX1_sumOfPlants 2 (.iconst 0) 1 3 := ⟨by decide +kernel, rfl⟩
theorem iX1_sumOfPlants_1 : zI cX1_sumOfPlants 1 (.istore_n 3) 1 2 := ⟨by decide +kernel, rfl⟩
theorem iX1_sumOfPlants_0 : zI cX1_sumOfPlants 0 (.iconst 0) 1 1 := ⟨by decide +kernel, rfl⟩
set_option maxHeartbeats 4000000 in
set_option maxRecDepth 100000 in
theorem m_Gr_sumOfPlants (g : Nat) (hg : isG g) (a : Nat) (ha : shX[a]? = some (.inl 6)) (x2 : Int32) (h : zH) : zM yX1_sumOfPlants cX1_sumOfPlants 5 (some .int) 0 shX (fun ad => [.ref (ad g), .ref (ad a), .int x2]) h (eP h) (Gr_sumOfPlants g a x2 h) := by
  refine zM.of (by decide) (fun _ => rfl) (fun _ => Nat.le_of_ble_eq_true rfl) (fun X ad hnL C => ?_)
  show zG X ad shX (eP h) 0 [some (.ref (ad g)), some (.ref (ad a)), some (.int x2), none, none] [] h _
  unfold Gr_sumOfPlants
  refine g_iconst C 0 iX1_sumOfPlants_0 (by decide) ?_
  refine g_istore_n (lv' := [some (.ref (ad g)), some (.ref (ad a)), some (.int x2), some (.int 0), none]) C hnL iX1_sumOfPlants_1 (by decide) rfl ?_
  refine g_iconst C 0 iX1_sumOfPlants_2 (by decide) ?_
  refine g_istore (lv' := [some (.ref (ad g)), some (.ref (ad a)), some (.int x2), some (.int 0), some (.int 0)]) C hnL iX1_sumOfPlants_3 (by decide) rfl ?_
  have L5 : ∀ (k49 : Int32 → Option (Int32)), (∀ (y3 : Int32), zG X ad shX (eP h) 49 [none, none, none, some (.int y3), none] [] h (k49 y3)) → ∀ (n : Nat) (x3 x4 : Int32), zG X ad shX (eP h) 5 [some (.ref (ad g)), some (.ref (ad a)), some (.int x2), some (.int x3), some (.int x4)] [] h (Gr_sumOfPlants_L5 g a x2 h k49 n x3 x4) := by
    intro k49 hk49 n
    induction n with
    | zero =>
      intro x3 x4
      exact g_none
    | succ n ih5 =>
      intro x3 x4
      rw [Gr_sumOfPlants_L5]
      refine g_iload C iX1_sumOfPlants_5 rfl ?_
      refine g_aload_n C iX1_sumOfPlants_7 rfl ?_
      refine g_getR (b := 17) C fX1_33 iX1_sumOfPlants_8 hg.1 rfl ?_
      refine g_getI C fX1_77 iX1_sumOfPlants_11 isP17.1 rfl ?_
      refine g_icmp_ge C 49 iX1_sumOfPlants_14 (by decide) (fun c14 => ?_) (fun c14 => ?_)
      · refine g_sub (lv' := [none, none, none, some (.int x3), none]) ⟨rfl, trivial⟩ ?_
        exact hk49 _
      · refine g_aload_n C iX1_sumOfPlants_17 rfl ?_
        refine g_getR (b := (g + 1)) C fX1_9 iX1_sumOfPlants_18 hg.1 rfl ?_
        refine g_aload_n C iX1_sumOfPlants_21 rfl ?_
        refine g_getR (b := 17) C fX1_33 iX1_sumOfPlants_22 hg.1 rfl ?_
        refine g_getR (b := 20) C fX1_80 iX1_sumOfPlants_25 isP17.1 rfl ?_
        refine g_iload C iX1_sumOfPlants_28 rfl ?_
        refine g_iaload C iX1_sumOfPlants_30 isP17.2.2.2.1 ?_
        refine g_iaload C iX1_sumOfPlants_31 hg.2.1 ?_
        refine g_iload_n C iX1_sumOfPlants_32 rfl ?_
        refine g_icmp_ne C 43 iX1_sumOfPlants_33 (by decide) (fun c33 => ?_) (fun c33 => ?_)
        · refine g_iload_n C iX1_sumOfPlants_36 rfl ?_
          refine g_aload_n C iX1_sumOfPlants_37 rfl ?_
          refine g_iload C iX1_sumOfPlants_38 rfl ?_
          refine g_iaload C iX1_sumOfPlants_40 ha ?_
          refine g_iadd C iX1_sumOfPlants_41 ?_
          refine g_top (fun x3_1 => ?_)
          refine g_istore_n (lv' := [some (.ref (ad g)), some (.ref (ad a)), some (.int x2), some (.int x3_1), some (.int x4)]) C hnL iX1_sumOfPlants_42 (by decide) rfl ?_
          refine g_iinc (v := (x4 + 1)) (lv' := [some (.ref (ad g)), some (.ref (ad a)), some (.int x2), some (.int x3_1), some (.int (x4 + 1))]) C hnL iX1_sumOfPlants_43 (by decide) rfl rfl rfl ?_
          refine g_goto C 5 iX1_sumOfPlants_46 (by decide) ?_
          exact ih5 _ _
        · refine g_iinc (v := (x4 + 1)) (lv' := [some (.ref (ad g)), some (.ref (ad a)), some (.int x2), some (.int x3), some (.int (x4 + 1))]) C hnL iX1_sumOfPlants_43 (by decide) rfl rfl rfl ?_
          refine g_goto C 5 iX1_sumOfPlants_46 (by decide) ?_
          exact ih5 _ _
  refine L5 _ (fun x3_2 => ?_) 1000 _ _
  show zG X ad shX (eP h) 49 [none, none, none, some (.int x3_2), none] [] h _
  refine g_iload_n C iX1_sumOfPlants_49 rfl ?_
  exact g_iret C iX1_sumOfPlants_50 rfl

theorem fX1_24 : zFl RX1 24 1 6 := ⟨RX1, TX1, 12, rfl, by decide, (zmem 216 (by decide +kernel) (by decide +kernel)), u_inX1⟩
set_option maxRecDepth 100000 in
theorem wX1_125 : zCv RX1 125 yX1_sumOfPlants cX1_sumOfPlants 5 (some .int) 2 := ⟨⟨(zmem 447 (by decide +kernel) (by decide +kernel)), (zmem 67 (by decide +kernel) (by decide +kernel)), (zmem 450 rfl rfl), ⟨by decide, by decide, by decide +kernel⟩, by decide⟩, (zmem 449 (by decide +kernel) (by decide +kernel)), (zmem 5 (by decide +kernel) (by decide +kernel))⟩
theorem iX1_givenOf_6 : zI cX1_givenOf 6 (.invokevirtual 125) 3 9 := ⟨by decide +kernel, rfl⟩
theorem iX1_givenOf_9 : zI cX1_givenOf 9 (.ireturn) 1 10 := ⟨by decide +kernel, rfl⟩
theorem iX1_givenOf_5 : zI cX1_givenOf 5 (.iload_n 1) 1 6 := ⟨by decide +kernel, rfl⟩
theorem iX1_givenOf_2 : zI cX1_givenOf 2 (.getfield 24) 3 5 := ⟨by decide +kernel, rfl⟩
theorem iX1_givenOf_1 : zI cX1_givenOf 1 (.aload_n 0) 1 2 := ⟨by decide +kernel, rfl⟩
theorem iX1_givenOf_0 : zI cX1_givenOf 0 (.aload_n 0) 1 1 := ⟨by decide +kernel, rfl⟩
set_option maxHeartbeats 4000000 in
set_option maxRecDepth 100000 in
theorem m_Gr_givenOf (g : Nat) (hg : isG g) (x1 : Int32) (h : zH) : zM yX1_givenOf cX1_givenOf 2 (some .int) 1 shX (fun ad => [.ref (ad g), .int x1]) h (eP h) (Gr_givenOf g x1 h) := by
  refine zM.of (by decide) (fun _ => rfl) (fun _ => Nat.le_of_ble_eq_true rfl) (fun X ad hnL C => ?_)
  show zG X ad shX (eP h) 0 [some (.ref (ad g)), some (.int x1)] [] h _
  unfold Gr_givenOf
  refine g_aload_n C iX1_givenOf_0 rfl ?_
  refine g_aload_n C iX1_givenOf_1 rfl ?_
  refine g_getR (b := (g + 5)) C fX1_24 iX1_givenOf_2 hg.1 rfl ?_
  refine g_iload_n C iX1_givenOf_5 rfl ?_
  refine g_callV C wX1_125 iX1_givenOf_6 (m_Gr_sumOfPlants g hg (g + 5) hg.2.2.2.2.2.1 x1 h) (by decide) hg.1 rfl rfl rfl rfl (Nat.le_of_ble_eq_true rfl) (fun r => ?_)
  show zG X ad shX (eP h) 9 [some (.ref (ad g)), some (.int x1)] [.int r] h _
  exact g_iret C iX1_givenOf_9 rfl

theorem fX0_15 : zFl RX0 15 0 1 := ⟨RX0, TX0, 5, rfl, by decide, (zmem 265 (by decide +kernel) (by decide +kernel)), u_inX0⟩
set_option maxRecDepth 100000 in
theorem wX0_86 : zCv RX0 86 yX1_aimOf cX1_aimOf 2 (some .int) 1 := ⟨⟨(zmem 537 (by decide +kernel) (by decide +kernel)), (zmem 67 (by decide +kernel) (by decide +kernel)), (zmem 540 rfl rfl), ⟨by decide, by decide, by decide +kernel⟩, by decide⟩, (zmem 538 (by decide +kernel) (by decide +kernel)), (zmem 539 (by decide +kernel) (by decide +kernel))⟩
theorem iX0_follow_5 : zI cX0_follow 5 (.invokevirtual 86) 3 8 := ⟨by decide +kernel, rfl⟩
set_option maxRecDepth 100000 in
theorem wX0_61 : zCv RX0 61 yX1_givenOf cX1_givenOf 2 (some .int) 1 := ⟨⟨(zmem 541 (by decide +kernel) (by decide +kernel)), (zmem 67 (by decide +kernel) (by decide +kernel)), (zmem 446 rfl rfl), ⟨by decide, by decide, by decide +kernel⟩, by decide⟩, (zmem 444 (by decide +kernel) (by decide +kernel)), (zmem 445 (by decide +kernel) (by decide +kernel))⟩
theorem iX0_follow_13 : zI cX0_follow 13 (.invokevirtual 61) 3 16 := ⟨by decide +kernel, rfl⟩
theorem fX0_9 : zFl RX0 9 0 0 := ⟨RX0, TX0, 5, rfl, by decide, (zmem 264 (by decide +kernel) (by decide +kernel)), u_inX0⟩
theorem fX0_89 : zFl RX0 89 4 2 := ⟨RX4, TX4, 16, rfl, by decide, (zmem 128 (by decide +kernel) (by decide +kernel)), u_inX4⟩
theorem iX0_follow_28 : zI cX0_follow 28 (.if_icmp .ge 116) 3 31 := ⟨by decide +kernel, rfl⟩
theorem fX0_39 : zFl RX0 39 1 2 := ⟨RX1, TX1, 12, rfl, by decide, (zmem 207 (by decide +kernel) (by decide +kernel)), u_inX1⟩
theorem fX0_92 : zFl RX0 92 4 7 := ⟨RX4, TX4, 16, rfl, by decide, (zmem 143 (by decide +kernel) (by decide +kernel)), u_inX4⟩
theorem iX0_follow_49 : zI cX0_follow 49 (.if_icmp .ne 89) 3 52 := ⟨by decide +kernel, rfl⟩
theorem iX0_follow_141 : zI cX0_follow 141 (.goto (-121)) 3 144 := ⟨by decide +kernel, rfl⟩
theorem iX0_follow_138 : zI cX0_follow 138 (.iinc 3 1) 3 141 := ⟨by decide +kernel, rfl⟩
theorem fX0_95 : zFl RX0 95 1 6 := ⟨RX1, TX1, 12, rfl, by decide, (zmem 217 (by decide +kernel) (by decide +kernel)), u_inX1⟩
theorem fX0_98 : zFl RX0 98 4 9 := ⟨RX4, TX4, 16, rfl, by decide, (zmem 148 (by decide +kernel) (by decide +kernel)), u_inX4⟩
theorem fX0_101 : zFl RX0 101 4 8 := ⟨RX4, TX4, 16, rfl, by decide, (zmem 146 (by decide +kernel) (by decide +kernel)), u_inX4⟩
set_option maxRecDepth 100000 in
theorem wX0_70 : zMw RX0 70 Lib.Math.min.name Lib.Math.min.code 2 := ⟨(zmem 542 (by decide +kernel) (by decide +kernel)), (zmem 429 (by decide +kernel) (by decide +kernel)), (zmem 75 (by decide +kernel) (by decide +kernel)), (zmem 430 rfl rfl)⟩
theorem iX0_follow_84 : zI cX0_follow 84 (.invokestatic 70) 3 87 := ⟨by decide +kernel, rfl⟩
theorem iX0_follow_100 : zI cX0_follow 100 (.invokestatic 70) 3 103 := ⟨by decide +kernel, rfl⟩
theorem iX0_follow_111 : zI cX0_follow 111 (.invokestatic 70) 3 114 := ⟨by decide +kernel, rfl⟩
set_option maxRecDepth 100000 in
theorem wX0_104 : zMw RX0 104 Lib.Math.max.name Lib.Math.max.code 2 := ⟨(zmem 543 (by decide +kernel) (by decide +kernel)), (zmem 544 (by decide +kernel) (by decide +kernel)), (zmem 75 (by decide +kernel) (by decide +kernel)), (zmem 545 rfl rfl)⟩
theorem iX0_follow_114 : zI cX0_follow 114 (.invokestatic 104) 3 117 := ⟨by decide +kernel, rfl⟩
theorem iX0_follow_137 : zI cX0_follow 137 (.istore_n 2) 1 138 := ⟨by decide +kernel, rfl⟩
theorem iX0_follow_136 : zI cX0_follow 136 (.isub) 1 137 := ⟨by decide +kernel, rfl⟩
theorem iX0_follow_134 : zI cX0_follow 134 (.iload 7) 2 136 := ⟨by decide +kernel, rfl⟩
theorem iX0_follow_133 : zI cX0_follow 133 (.iload_n 2) 1 134 := ⟨by decide +kernel, rfl⟩
theorem iX0_follow_132 : zI cX0_follow 132 (.iastore) 1 133 := ⟨by decide +kernel, rfl⟩
theorem iX0_follow_131 : zI cX0_follow 131 (.iadd) 1 132 := ⟨by decide +kernel, rfl⟩
theorem iX0_follow_129 : zI cX0_follow 129 (.iload 7) 2 131 := ⟨by decide +kernel, rfl⟩
theorem iX0_follow_127 : zI cX0_follow 127 (.iload 4) 2 129 := ⟨by decide +kernel, rfl⟩
theorem iX0_follow_126 : zI cX0_follow 126 (.iload_n 3) 1 127 := ⟨by decide +kernel, rfl⟩
theorem iX0_follow_123 : zI cX0_follow 123 (.getfield 95) 3 126 := ⟨by decide +kernel, rfl⟩
theorem iX0_follow_120 : zI cX0_follow 120 (.getfield 15) 3 123 := ⟨by decide +kernel, rfl⟩
theorem iX0_follow_119 : zI cX0_follow 119 (.aload_n 0) 1 120 := ⟨by decide +kernel, rfl⟩
theorem iX0_follow_117 : zI cX0_follow 117 (.istore 7) 2 119 := ⟨by decide +kernel, rfl⟩
theorem iX0_follow_110 : zI cX0_follow 110 (.iload_n 2) 1 111 := ⟨by decide +kernel, rfl⟩
theorem iX0_follow_108 : zI cX0_follow 108 (.iload 5) 2 110 := ⟨by decide +kernel, rfl⟩
theorem iX0_follow_106 : zI cX0_follow 106 (.iload 6) 2 108 := ⟨by decide +kernel, rfl⟩
theorem iX0_follow_104 : zI cX0_follow 104 (.istore 6) 2 106 := ⟨by decide +kernel, rfl⟩
theorem iX0_follow_103 : zI cX0_follow 103 (.ineg) 1 104 := ⟨by decide +kernel, rfl⟩
theorem iX0_follow_98 : zI cX0_follow 98 (.iload 4) 2 100 := ⟨by decide +kernel, rfl⟩
theorem iX0_follow_97 : zI cX0_follow 97 (.iaload) 1 98 := ⟨by decide +kernel, rfl⟩
theorem iX0_follow_96 : zI cX0_follow 96 (.iload_n 3) 1 97 := ⟨by decide +kernel, rfl⟩
theorem iX0_follow_93 : zI cX0_follow 93 (.getfield 98) 3 96 := ⟨by decide +kernel, rfl⟩
theorem iX0_follow_90 : zI cX0_follow 90 (.getfield 9) 3 93 := ⟨by decide +kernel, rfl⟩
theorem iX0_follow_89 : zI cX0_follow 89 (.aload_n 0) 1 90 := ⟨by decide +kernel, rfl⟩
theorem iX0_follow_87 : zI cX0_follow 87 (.istore 5) 2 89 := ⟨by decide +kernel, rfl⟩
theorem iX0_follow_83 : zI cX0_follow 83 (.isub) 1 84 := ⟨by decide +kernel, rfl⟩
theorem iX0_follow_81 : zI cX0_follow 81 (.iload 4) 2 83 := ⟨by decide +kernel, rfl⟩
theorem iX0_follow_80 : zI cX0_follow 80 (.iaload) 1 81 := ⟨by decide +kernel, rfl⟩
theorem iX0_follow_79 : zI cX0_follow 79 (.iload_n 3) 1 80 := ⟨by decide +kernel, rfl⟩
theorem iX0_follow_76 : zI cX0_follow 76 (.getfield 101) 3 79 := ⟨by decide +kernel, rfl⟩
theorem iX0_follow_73 : zI cX0_follow 73 (.getfield 9) 3 76 := ⟨by decide +kernel, rfl⟩
theorem iX0_follow_72 : zI cX0_follow 72 (.aload_n 0) 1 73 := ⟨by decide +kernel, rfl⟩
theorem iX0_follow_71 : zI cX0_follow 71 (.iaload) 1 72 := ⟨by decide +kernel, rfl⟩
theorem iX0_follow_70 : zI cX0_follow 70 (.iload_n 3) 1 71 := ⟨by decide +kernel, rfl⟩
theorem iX0_follow_67 : zI cX0_follow 67 (.getfield 98) 3 70 := ⟨by decide +kernel, rfl⟩
theorem iX0_follow_64 : zI cX0_follow 64 (.getfield 9) 3 67 := ⟨by decide +kernel, rfl⟩
theorem iX0_follow_63 : zI cX0_follow 63 (.aload_n 0) 1 64 := ⟨by decide +kernel, rfl⟩
theorem iX0_follow_61 : zI cX0_follow 61 (.istore 4) 2 63 := ⟨by decide +kernel, rfl⟩
theorem iX0_follow_60 : zI cX0_follow 60 (.iaload) 1 61 := ⟨by decide +kernel, rfl⟩
theorem iX0_follow_59 : zI cX0_follow 59 (.iload_n 3) 1 60 := ⟨by decide +kernel, rfl⟩
theorem iX0_follow_56 : zI cX0_follow 56 (.getfield 95) 3 59 := ⟨by decide +kernel, rfl⟩
theorem iX0_follow_53 : zI cX0_follow 53 (.getfield 15) 3 56 := ⟨by decide +kernel, rfl⟩
theorem iX0_follow_52 : zI cX0_follow 52 (.aload_n 0) 1 53 := ⟨by decide +kernel, rfl⟩
theorem iX0_follow_48 : zI cX0_follow 48 (.iload_n 1) 1 49 := ⟨by decide +kernel, rfl⟩
theorem iX0_follow_47 : zI cX0_follow 47 (.iaload) 1 48 := ⟨by decide +kernel, rfl⟩
theorem iX0_follow_46 : zI cX0_follow 46 (.iaload) 1 47 := ⟨by decide +kernel, rfl⟩
theorem iX0_follow_45 : zI cX0_follow 45 (.iload_n 3) 1 46 := ⟨by decide +kernel, rfl⟩
theorem iX0_follow_42 : zI cX0_follow 42 (.getfield 92) 3 45 := ⟨by decide +kernel, rfl⟩
theorem iX0_follow_39 : zI cX0_follow 39 (.getfield 9) 3 42 := ⟨by decide +kernel, rfl⟩
theorem iX0_follow_38 : zI cX0_follow 38 (.aload_n 0) 1 39 := ⟨by decide +kernel, rfl⟩
theorem iX0_follow_35 : zI cX0_follow 35 (.getfield 39) 3 38 := ⟨by decide +kernel, rfl⟩
theorem iX0_follow_32 : zI cX0_follow 32 (.getfield 15) 3 35 := ⟨by decide +kernel, rfl⟩
theorem iX0_follow_31 : zI cX0_follow 31 (.aload_n 0) 1 32 := ⟨by decide +kernel, rfl⟩
theorem iX0_follow_25 : zI cX0_follow 25 (.getfield 89) 3 28 := ⟨by decide +kernel, rfl⟩
theorem iX0_follow_22 : zI cX0_follow 22 (.getfield 9) 3 25 := ⟨by decide +kernel, rfl⟩
theorem iX0_follow_21 : zI cX0_follow 21 (.aload_n 0) 1 22 := ⟨by decide +kernel, rfl⟩
theorem iX0_follow_20 : zI cX0_follow 20 (.iload_n 3) 1 21 := ⟨by decide +kernel, rfl⟩
theorem iX0_follow_144 : zI cX0_follow 144 (.return_) 1 145 := ⟨by decide +kernel, rfl⟩
theorem iX0_follow_19 : zI cX0_follow 19 (.istore_n 3) 1 20 := ⟨by decide +kernel, rfl⟩
theorem iX0_follow_18 : zI cX0_follow 18 (.iconst 0) 1 19 := ⟨by decide +kernel, rfl⟩
theorem iX0_follow_17 : zI cX0_follow 17 (.istore_n 2) 1 18 := ⟨by decide +kernel, rfl⟩
theorem iX0_follow_16 : zI cX0_follow 16 (.isub) 1 17 := ⟨by decide +kernel, rfl⟩
theorem iX0_follow_12 : zI cX0_follow 12 (.iload_n 1) 1 13 := ⟨by decide +kernel, rfl⟩
theorem iX0_follow_9 : zI cX0_follow 9 (.getfield 15) 3 12 := ⟨by decide +kernel, rfl⟩
theorem iX0_follow_8 : zI cX0_follow 8 (.aload_n 0) 1 9 := ⟨by decide +kernel, rfl⟩
theorem iX0_follow_4 : zI cX0_follow 4 (.iload_n 1) 1 5 := ⟨by decide +kernel, rfl⟩
theorem iX0_follow_1 : zI cX0_follow 1 (.getfield 15) 3 4 := ⟨by decide +kernel, rfl⟩
theorem iX0_follow_0 : zI cX0_follow 0 (.aload_n 0) 1 1 := ⟨by decide +kernel, rfl⟩
set_option maxHeartbeats 4000000 in
set_option maxRecDepth 100000 in
theorem m_Co_follow (c g : Nat) (hc : isC c g) (hg : isG g) (x1 : Int32) (h : zH) : zM yX0_follow cX0_follow 8 none 3 shX (fun ad => [.ref (ad c), .int x1]) h eV (Co_follow c g x1 h) := by
  refine zM.of (by decide) (fun _ => rfl) (fun _ => Nat.le_of_ble_eq_true rfl) (fun X ad hnL C => ?_)
  show zG X ad shX eV 0 [some (.ref (ad c)), some (.int x1), none, none, none, none, none, none] [] h _
  unfold Co_follow
  refine g_aload_n C iX0_follow_0 rfl ?_
  refine g_getR (b := g) C fX0_15 iX0_follow_1 hc rfl ?_
  refine g_iload_n C iX0_follow_4 rfl ?_
  refine g_callV C wX0_86 iX0_follow_5 (m_Gr_aimOf g hg x1 h) (by decide) hg.1 rfl rfl rfl rfl (Nat.le_of_ble_eq_true rfl) (fun r => ?_)
  show zG X ad shX eV 8 [some (.ref (ad c)), some (.int x1), none, none, none, none, none, none] [.int r] h _
  refine g_aload_n C iX0_follow_8 rfl ?_
  refine g_getR (b := g) C fX0_15 iX0_follow_9 hc rfl ?_
  refine g_iload_n C iX0_follow_12 rfl ?_
  refine g_callV C wX0_61 iX0_follow_13 (m_Gr_givenOf g hg x1 h) (by decide) hg.1 rfl rfl rfl rfl (Nat.le_of_ble_eq_true rfl) (fun r_1 => ?_)
  show zG X ad shX eV 16 [some (.ref (ad c)), some (.int x1), none, none, none, none, none, none] [.int r_1, .int r] h _
  refine g_isub C iX0_follow_16 ?_
  refine g_top (fun x2 => ?_)
  refine g_istore_n (lv' := [some (.ref (ad c)), some (.int x1), some (.int x2), none, none, none, none, none]) C hnL iX0_follow_17 (by decide) rfl ?_
  refine g_iconst C 0 iX0_follow_18 (by decide) ?_
  refine g_istore_n (lv' := [some (.ref (ad c)), some (.int x1), some (.int x2), some (.int 0), none, none, none, none]) C hnL iX0_follow_19 (by decide) rfl ?_
  have L20 : ∀ (k144 : zH → Option (zH)), (∀ (hy : zH), zG X ad shX eV 144 [none, none, none, none, none, none, none, none] [] hy (k144 hy)) → ∀ (n : Nat) (x2_1 x3 : Int32) (h_1 : zH), zG X ad shX eV 20 [some (.ref (ad c)), some (.int x1), some (.int x2_1), some (.int x3), none, none, none, none] [] h_1 (Co_follow_L20 g x1 k144 n x2_1 x3 h_1) := by
    intro k144 hk144 n
    induction n with
    | zero =>
      intro x2_1 x3 h_1
      exact g_none
    | succ n ih20 =>
      intro x2_1 x3 h_1
      rw [Co_follow_L20]
      refine g_iload_n C iX0_follow_20 rfl ?_
      refine g_aload_n C iX0_follow_21 rfl ?_
      refine g_getR (b := 17) C fX0_9 iX0_follow_22 hc rfl ?_
      refine g_getI C fX0_89 iX0_follow_25 isP17.1 rfl ?_
      refine g_icmp_ge C 144 iX0_follow_28 (by decide) (fun c28 => ?_) (fun c28 => ?_)
      · refine g_sub (lv' := [none, none, none, none, none, none, none, none]) trivial ?_
        exact hk144 _
      · refine g_aload_n C iX0_follow_31 rfl ?_
        refine g_getR (b := g) C fX0_15 iX0_follow_32 hc rfl ?_
        refine g_getR (b := (g + 1)) C fX0_39 iX0_follow_35 hg.1 rfl ?_
        refine g_aload_n C iX0_follow_38 rfl ?_
        refine g_getR (b := 17) C fX0_9 iX0_follow_39 hc rfl ?_
        refine g_getR (b := 20) C fX0_92 iX0_follow_42 isP17.1 rfl ?_
        refine g_iload_n C iX0_follow_45 rfl ?_
        refine g_iaload C iX0_follow_46 isP17.2.2.2.1 ?_
        refine g_iaload C iX0_follow_47 hg.2.1 ?_
        refine g_iload_n C iX0_follow_48 rfl ?_
        refine g_icmp_ne C 138 iX0_follow_49 (by decide) (fun c49 => ?_) (fun c49 => ?_)
        · refine g_aload_n C iX0_follow_52 rfl ?_
          refine g_getR (b := g) C fX0_15 iX0_follow_53 hc rfl ?_
          refine g_getR (b := (g + 5)) C fX0_95 iX0_follow_56 hg.1 rfl ?_
          refine g_iload_n C iX0_follow_59 rfl ?_
          refine g_iaload C iX0_follow_60 hg.2.2.2.2.2.1 ?_
          refine g_top (fun x4 => ?_)
          refine g_istore (lv' := [some (.ref (ad c)), some (.int x1), some (.int x2_1), some (.int x3), some (.int x4), none, none, none]) C hnL iX0_follow_61 (by decide) rfl ?_
          refine g_aload_n C iX0_follow_63 rfl ?_
          refine g_getR (b := 17) C fX0_9 iX0_follow_64 hc rfl ?_
          refine g_getR (b := 22) C fX0_98 iX0_follow_67 isP17.1 rfl ?_
          refine g_iload_n C iX0_follow_70 rfl ?_
          refine g_iaload C iX0_follow_71 isP17.2.2.2.2.2.1 ?_
          refine g_aload_n C iX0_follow_72 rfl ?_
          refine g_getR (b := 17) C fX0_9 iX0_follow_73 hc rfl ?_
          refine g_getR (b := 21) C fX0_101 iX0_follow_76 isP17.1 rfl ?_
          refine g_iload_n C iX0_follow_79 rfl ?_
          refine g_iaload C iX0_follow_80 isP17.2.2.2.2.1 ?_
          refine g_iload C iX0_follow_81 rfl ?_
          refine g_isub C iX0_follow_83 ?_
          refine g_min C wX0_70 iX0_follow_84 (by decide) (Nat.le_of_ble_eq_true rfl) ?_
          refine g_top (fun x5 => ?_)
          refine g_istore (lv' := [some (.ref (ad c)), some (.int x1), some (.int x2_1), some (.int x3), some (.int x4), some (.int x5), none, none]) C hnL iX0_follow_87 (by decide) rfl ?_
          refine g_aload_n C iX0_follow_89 rfl ?_
          refine g_getR (b := 17) C fX0_9 iX0_follow_90 hc rfl ?_
          refine g_getR (b := 22) C fX0_98 iX0_follow_93 isP17.1 rfl ?_
          refine g_iload_n C iX0_follow_96 rfl ?_
          refine g_iaload C iX0_follow_97 isP17.2.2.2.2.2.1 ?_
          refine g_iload C iX0_follow_98 rfl ?_
          refine g_min C wX0_70 iX0_follow_100 (by decide) (Nat.le_of_ble_eq_true rfl) ?_
          refine g_ineg C iX0_follow_103 ?_
          refine g_top (fun x6 => ?_)
          refine g_istore (lv' := [some (.ref (ad c)), some (.int x1), some (.int x2_1), some (.int x3), some (.int x4), some (.int x5), some (.int x6), none]) C hnL iX0_follow_104 (by decide) rfl ?_
          refine g_iload C iX0_follow_106 rfl ?_
          refine g_iload C iX0_follow_108 rfl ?_
          refine g_iload_n C iX0_follow_110 rfl ?_
          refine g_min C wX0_70 iX0_follow_111 (by decide) (Nat.le_of_ble_eq_true rfl) ?_
          refine g_max C wX0_104 iX0_follow_114 (by decide) (Nat.le_of_ble_eq_true rfl) ?_
          refine g_top (fun x7 => ?_)
          refine g_istore (lv' := [some (.ref (ad c)), some (.int x1), some (.int x2_1), some (.int x3), some (.int x4), some (.int x5), some (.int x6), some (.int x7)]) C hnL iX0_follow_117 (by decide) rfl ?_
          refine g_aload_n C iX0_follow_119 rfl ?_
          refine g_getR (b := g) C fX0_15 iX0_follow_120 hc rfl ?_
          refine g_getR (b := (g + 5)) C fX0_95 iX0_follow_123 hg.1 rfl ?_
          refine g_iload_n C iX0_follow_126 rfl ?_
          refine g_iload C iX0_follow_127 rfl ?_
          refine g_iload C iX0_follow_129 rfl ?_
          refine g_iadd C iX0_follow_131 ?_
          refine g_iastore C iX0_follow_132 hg.2.2.2.2.2.1 (fun h_2 => ?_)
          refine g_iload_n C iX0_follow_133 rfl ?_
          refine g_iload C iX0_follow_134 rfl ?_
          refine g_isub C iX0_follow_136 ?_
          refine g_top (fun x2_2 => ?_)
          refine g_istore_n (lv' := [some (.ref (ad c)), some (.int x1), some (.int x2_2), some (.int x3), some (.int x4), some (.int x5), some (.int x6), some (.int x7)]) C hnL iX0_follow_137 (by decide) rfl ?_
          refine g_iinc (v := (x3 + 1)) (lv' := [some (.ref (ad c)), some (.int x1), some (.int x2_2), some (.int (x3 + 1)), some (.int x4), some (.int x5), some (.int x6), some (.int x7)]) C hnL iX0_follow_138 (by decide) rfl rfl rfl ?_
          refine g_goto C 20 iX0_follow_141 (by decide) ?_
          refine g_sub (lv' := [some (.ref (ad c)), some (.int x1), some (.int x2_2), some (.int (x3 + 1)), none, none, none, none]) ⟨rfl, ⟨rfl, ⟨rfl, ⟨rfl, trivial⟩⟩⟩⟩ ?_
          exact ih20 _ _ _
        · refine g_iinc (v := (x3 + 1)) (lv' := [some (.ref (ad c)), some (.int x1), some (.int x2_1), some (.int (x3 + 1)), none, none, none, none]) C hnL iX0_follow_138 (by decide) rfl rfl rfl ?_
          refine g_goto C 20 iX0_follow_141 (by decide) ?_
          exact ih20 _ _ _
  refine L20 _ (fun h_3 => ?_) 1000 _ _ _
  show zG X ad shX eV 144 [none, none, none, none, none, none, none, none] [] h_3 _
  exact g_vret C iX0_follow_144 rfl

theorem fX1_129 : zFl RX1 129 4 10 := ⟨RX4, TX4, 16, rfl, by decide, (zmem 150 (by decide +kernel) (by decide +kernel)), u_inX4⟩
theorem iX1_heavyOf_9 : zI cX1_heavyOf 9 (.invokevirtual 125) 3 12 := ⟨by decide +kernel, rfl⟩
theorem iX1_heavyOf_12 : zI cX1_heavyOf 12 (.ireturn) 1 13 := ⟨by decide +kernel, rfl⟩
theorem iX1_heavyOf_8 : zI cX1_heavyOf 8 (.iload_n 1) 1 9 := ⟨by decide +kernel, rfl⟩
theorem iX1_heavyOf_5 : zI cX1_heavyOf 5 (.getfield 129) 3 8 := ⟨by decide +kernel, rfl⟩
theorem iX1_heavyOf_2 : zI cX1_heavyOf 2 (.getfield 33) 3 5 := ⟨by decide +kernel, rfl⟩
theorem iX1_heavyOf_1 : zI cX1_heavyOf 1 (.aload_n 0) 1 2 := ⟨by decide +kernel, rfl⟩
theorem iX1_heavyOf_0 : zI cX1_heavyOf 0 (.aload_n 0) 1 1 := ⟨by decide +kernel, rfl⟩
set_option maxHeartbeats 4000000 in
set_option maxRecDepth 100000 in
theorem m_Gr_heavyOf (g : Nat) (hg : isG g) (x1 : Int32) (h : zH) : zM yX1_heavyOf cX1_heavyOf 2 (some .int) 1 shX (fun ad => [.ref (ad g), .int x1]) h (eP h) (Gr_heavyOf g x1 h) := by
  refine zM.of (by decide) (fun _ => rfl) (fun _ => Nat.le_of_ble_eq_true rfl) (fun X ad hnL C => ?_)
  show zG X ad shX (eP h) 0 [some (.ref (ad g)), some (.int x1)] [] h _
  unfold Gr_heavyOf
  refine g_aload_n C iX1_heavyOf_0 rfl ?_
  refine g_aload_n C iX1_heavyOf_1 rfl ?_
  refine g_getR (b := 17) C fX1_33 iX1_heavyOf_2 hg.1 rfl ?_
  refine g_getR (b := 23) C fX1_129 iX1_heavyOf_5 isP17.1 rfl ?_
  refine g_iload_n C iX1_heavyOf_8 rfl ?_
  refine g_callV C wX1_125 iX1_heavyOf_9 (m_Gr_sumOfPlants g hg 23 isP17.2.2.2.2.2.2.1 x1 h) (by decide) hg.1 rfl rfl rfl rfl (Nat.le_of_ble_eq_true rfl) (fun r => ?_)
  show zG X ad shX (eP h) 12 [some (.ref (ad g)), some (.int x1)] [.int r] h _
  exact g_iret C iX1_heavyOf_12 rfl

theorem iX1_feederBits_14 : zI cX1_feederBits 14 (.if_icmp .ge 48) 3 17 := ⟨by decide +kernel, rfl⟩
theorem iX1_feederBits_23 : zI cX1_feederBits 23 (.invokestatic 102) 3 26 := ⟨by decide +kernel, rfl⟩
theorem iX1_feederBits_27 : zI cX1_feederBits 27 (.if_icmp .ne 29) 3 30 := ⟨by decide +kernel, rfl⟩
theorem iX1_feederBits_59 : zI cX1_feederBits 59 (.goto (-54)) 3 62 := ⟨by decide +kernel, rfl⟩
theorem iX1_feederBits_56 : zI cX1_feederBits 56 (.iinc 4 1) 3 59 := ⟨by decide +kernel, rfl⟩
theorem iX1_feederBits_46 : zI cX1_feederBits 46 (.if_icmp .ne 10) 3 49 := ⟨by decide +kernel, rfl⟩
theorem iX1_feederBits_55 : zI cX1_feederBits 55 (.istore_n 3) 1 56 := ⟨by decide +kernel, rfl⟩
theorem iX1_feederBits_54 : zI cX1_feederBits 54 (.ior) 1 55 := ⟨by decide +kernel, rfl⟩
theorem iX1_feederBits_53 : zI cX1_feederBits 53 (.ishl) 1 54 := ⟨by decide +kernel, rfl⟩
theorem iX1_feederBits_51 : zI cX1_feederBits 51 (.iload 4) 2 53 := ⟨by decide +kernel, rfl⟩
theorem iX1_feederBits_50 : zI cX1_feederBits 50 (.iconst 1) 1 51 := ⟨by decide +kernel, rfl⟩
theorem iX1_feederBits_49 : zI cX1_feederBits 49 (.iload_n 3) 1 50 := ⟨by decide +kernel, rfl⟩
theorem iX1_feederBits_45 : zI cX1_feederBits 45 (.iload_n 1) 1 46 := ⟨by decide +kernel, rfl⟩
theorem iX1_feederBits_44 : zI cX1_feederBits 44 (.iaload) 1 45 := ⟨by decide +kernel, rfl⟩
theorem iX1_feederBits_43 : zI cX1_feederBits 43 (.iaload) 1 44 := ⟨by decide +kernel, rfl⟩
theorem iX1_feederBits_41 : zI cX1_feederBits 41 (.iload 4) 2 43 := ⟨by decide +kernel, rfl⟩
theorem iX1_feederBits_38 : zI cX1_feederBits 38 (.getfield 116) 3 41 := ⟨by decide +kernel, rfl⟩
theorem iX1_feederBits_35 : zI cX1_feederBits 35 (.getfield 33) 3 38 := ⟨by decide +kernel, rfl⟩
theorem iX1_feederBits_34 : zI cX1_feederBits 34 (.aload_n 0) 1 35 := ⟨by decide +kernel, rfl⟩
theorem iX1_feederBits_31 : zI cX1_feederBits 31 (.getfield 9) 3 34 := ⟨by decide +kernel, rfl⟩
theorem iX1_feederBits_30 : zI cX1_feederBits 30 (.aload_n 0) 1 31 := ⟨by decide +kernel, rfl⟩
theorem iX1_feederBits_26 : zI cX1_feederBits 26 (.iload_n 2) 1 27 := ⟨by decide +kernel, rfl⟩
theorem iX1_feederBits_21 : zI cX1_feederBits 21 (.iload 4) 2 23 := ⟨by decide +kernel, rfl⟩
theorem iX1_feederBits_18 : zI cX1_feederBits 18 (.getfield 47) 3 21 := ⟨by decide +kernel, rfl⟩
theorem iX1_feederBits_17 : zI cX1_feederBits 17 (.aload_n 0) 1 18 := ⟨by decide +kernel, rfl⟩
theorem iX1_feederBits_11 : zI cX1_feederBits 11 (.getfield 61) 3 14 := ⟨by decide +kernel, rfl⟩
theorem iX1_feederBits_8 : zI cX1_feederBits 8 (.getfield 33) 3 11 := ⟨by decide +kernel, rfl⟩
theorem iX1_feederBits_7 : zI cX1_feederBits 7 (.aload_n 0) 1 8 := ⟨by decide +kernel, rfl⟩
theorem iX1_feederBits_5 : zI cX1_feederBits 5 (.iload 4) 2 7 := ⟨by decide +kernel, rfl⟩
theorem iX1_feederBits_63 : zI cX1_feederBits 63 (.ireturn) 1 64 := ⟨by decide +kernel, rfl⟩
theorem iX1_feederBits_62 : zI cX1_feederBits 62 (.iload_n 3) 1 63 := ⟨by decide +kernel, rfl⟩
theorem iX1_feederBits_3 : zI cX1_feederBits 3 (.istore 4) 2 5 := ⟨by decide +kernel, rfl⟩
theorem iX1_feederBits_2 : zI cX1_feederBits 2 (.iconst 0) 1 3 := ⟨by decide +kernel, rfl⟩
theorem iX1_feederBits_1 : zI cX1_feederBits 1 (.istore_n 3) 1 2 := ⟨by decide +kernel, rfl⟩
theorem iX1_feederBits_0 : zI cX1_feederBits 0 (.iconst 0) 1 1 := ⟨by decide +kernel, rfl⟩
set_option maxHeartbeats 4000000 in
set_option maxRecDepth 100000 in
theorem m_Gr_feederBits (g : Nat) (hg : isG g) (x1 : Int32) (x2 : Int32) (h : zH) : zM yX1_feederBits cX1_feederBits 5 (some .int) 1 shX (fun ad => [.ref (ad g), .int x1, .int x2]) h (eP h) (Gr_feederBits g x1 x2 h) := by
  refine zM.of (by decide) (fun _ => rfl) (fun _ => Nat.le_of_ble_eq_true rfl) (fun X ad hnL C => ?_)
  show zG X ad shX (eP h) 0 [some (.ref (ad g)), some (.int x1), some (.int x2), none, none] [] h _
  unfold Gr_feederBits
  refine g_iconst C 0 iX1_feederBits_0 (by decide) ?_
  refine g_istore_n (lv' := [some (.ref (ad g)), some (.int x1), some (.int x2), some (.int 0), none]) C hnL iX1_feederBits_1 (by decide) rfl ?_
  refine g_iconst C 0 iX1_feederBits_2 (by decide) ?_
  refine g_istore (lv' := [some (.ref (ad g)), some (.int x1), some (.int x2), some (.int 0), some (.int 0)]) C hnL iX1_feederBits_3 (by decide) rfl ?_
  have L5 : ∀ (k62 : Int32 → Option (Int32)), (∀ (y3 : Int32), zG X ad shX (eP h) 62 [none, none, none, some (.int y3), none] [] h (k62 y3)) → ∀ (n : Nat) (x3 x4 : Int32), zG X ad shX (eP h) 5 [some (.ref (ad g)), some (.int x1), some (.int x2), some (.int x3), some (.int x4)] [] h (Gr_feederBits_L5 g x1 x2 h k62 n x3 x4) := by
    intro k62 hk62 n
    induction n with
    | zero =>
      intro x3 x4
      exact g_none
    | succ n ih5 =>
      intro x3 x4
      rw [Gr_feederBits_L5]
      refine g_iload C iX1_feederBits_5 rfl ?_
      refine g_aload_n C iX1_feederBits_7 rfl ?_
      refine g_getR (b := 17) C fX1_33 iX1_feederBits_8 hg.1 rfl ?_
      refine g_getI C fX1_61 iX1_feederBits_11 isP17.1 rfl ?_
      refine g_icmp_ge C 62 iX1_feederBits_14 (by decide) (fun c14 => ?_) (fun c14 => ?_)
      · refine g_sub (lv' := [none, none, none, some (.int x3), none]) ⟨rfl, trivial⟩ ?_
        exact hk62 _
      · refine g_aload_n C iX1_feederBits_17 rfl ?_
        refine g_getI C fX1_47 iX1_feederBits_18 hg.1 rfl ?_
        refine g_iload C iX1_feederBits_21 rfl ?_
        refine g_callN C wX1_102 iX1_feederBits_23 (m_SS_has (h g 7) x4 h) (by decide) rfl rfl rfl (Nat.le_of_ble_eq_true rfl) (fun r => ?_)
        show zG X ad shX (eP h) 26 [some (.ref (ad g)), some (.int x1), some (.int x2), some (.int x3), some (.int x4)] [.int r] h _
        refine g_iload_n C iX1_feederBits_26 rfl ?_
        refine g_icmp_ne C 56 iX1_feederBits_27 (by decide) (fun c27 => ?_) (fun c27 => ?_)
        · refine g_aload_n C iX1_feederBits_30 rfl ?_
          refine g_getR (b := (g + 1)) C fX1_9 iX1_feederBits_31 hg.1 rfl ?_
          refine g_aload_n C iX1_feederBits_34 rfl ?_
          refine g_getR (b := 17) C fX1_33 iX1_feederBits_35 hg.1 rfl ?_
          refine g_getR (b := 24) C fX1_116 iX1_feederBits_38 isP17.1 rfl ?_
          refine g_iload C iX1_feederBits_41 rfl ?_
          refine g_iaload C iX1_feederBits_43 isP17.2.2.2.2.2.2.2.1 ?_
          refine g_iaload C iX1_feederBits_44 hg.2.1 ?_
          refine g_iload_n C iX1_feederBits_45 rfl ?_
          refine g_icmp_ne C 56 iX1_feederBits_46 (by decide) (fun c46 => ?_) (fun c46 => ?_)
          · refine g_iload_n C iX1_feederBits_49 rfl ?_
            refine g_iconst C 1 iX1_feederBits_50 (by decide) ?_
            refine g_iload C iX1_feederBits_51 rfl ?_
            refine g_ishl C iX1_feederBits_53 ?_
            refine g_ior C iX1_feederBits_54 ?_
            refine g_top (fun x3_1 => ?_)
            refine g_istore_n (lv' := [some (.ref (ad g)), some (.int x1), some (.int x2), some (.int x3_1), some (.int x4)]) C hnL iX1_feederBits_55 (by decide) rfl ?_
            refine g_iinc (v := (x4 + 1)) (lv' := [some (.ref (ad g)), some (.int x1), some (.int x2), some (.int x3_1), some (.int (x4 + 1))]) C hnL iX1_feederBits_56 (by decide) rfl rfl rfl ?_
            refine g_goto C 5 iX1_feederBits_59 (by decide) ?_
            exact ih5 _ _
          · refine g_iinc (v := (x4 + 1)) (lv' := [some (.ref (ad g)), some (.int x1), some (.int x2), some (.int x3), some (.int (x4 + 1))]) C hnL iX1_feederBits_56 (by decide) rfl rfl rfl ?_
            refine g_goto C 5 iX1_feederBits_59 (by decide) ?_
            exact ih5 _ _
        · refine g_iinc (v := (x4 + 1)) (lv' := [some (.ref (ad g)), some (.int x1), some (.int x2), some (.int x3), some (.int (x4 + 1))]) C hnL iX1_feederBits_56 (by decide) rfl rfl rfl ?_
          refine g_goto C 5 iX1_feederBits_59 (by decide) ?_
          exact ih5 _ _
  refine L5 _ (fun x3_2 => ?_) 1000 _ _
  show zG X ad shX (eP h) 62 [none, none, none, some (.int x3_2), none] [] h _
  refine g_iload_n C iX1_feederBits_62 rfl ?_
  exact g_iret C iX1_feederBits_63 rfl

theorem iX1_drop_5 : zI cX1_drop 5 (.invokestatic 102) 3 8 := ⟨by decide +kernel, rfl⟩
theorem iX1_drop_8 : zI cX1_drop 8 (.ifCond .eq 46) 3 11 := ⟨by decide +kernel, rfl⟩
theorem iX1_drop_54 : zI cX1_drop 54 (.return_) 1 55 := ⟨by decide +kernel, rfl⟩
theorem fX1_50 : zFl RX1 50 1 9 := ⟨RX1, TX1, 12, rfl, by decide, (zmem 224 (by decide +kernel) (by decide +kernel)), u_inX1⟩
theorem iX1_drop_17 : zI cX1_drop 17 (.if_icmp .ge 37) 3 20 := ⟨by decide +kernel, rfl⟩
theorem pX1_47 : zFp RX1 47 1 7 := ⟨RX1, TX1, 12, rfl, by decide, (zmem 219 (by decide +kernel) (by decide +kernel)), u_inX1, by decide +kernel, by decide +kernel, ⟨tyX1, tyX1_ok⟩, nmX1⟩
theorem fX1_27 : zFl RX1 27 1 8 := ⟨RX1, TX1, 12, rfl, by decide, (zmem 221 (by decide +kernel) (by decide +kernel)), u_inX1⟩
theorem pX1_50 : zFp RX1 50 1 9 := ⟨RX1, TX1, 12, rfl, by decide, (zmem 224 (by decide +kernel) (by decide +kernel)), u_inX1, by decide +kernel, by decide +kernel, ⟨tyX1, tyX1_ok⟩, nmX1⟩
theorem iX1_drop_51 : zI cX1_drop 51 (.putfield 50) 3 54 := ⟨by decide +kernel, rfl⟩
theorem iX1_drop_50 : zI cX1_drop 50 (.iadd) 1 51 := ⟨by decide +kernel, rfl⟩
theorem iX1_drop_49 : zI cX1_drop 49 (.iconst 1) 1 50 := ⟨by decide +kernel, rfl⟩
theorem iX1_drop_46 : zI cX1_drop 46 (.getfield 50) 3 49 := ⟨by decide +kernel, rfl⟩
theorem iX1_drop_45 : zI cX1_drop 45 (.dup) 1 46 := ⟨by decide +kernel, rfl⟩
theorem iX1_drop_44 : zI cX1_drop 44 (.aload_n 0) 1 45 := ⟨by decide +kernel, rfl⟩
theorem iX1_drop_43 : zI cX1_drop 43 (.iastore) 1 44 := ⟨by decide +kernel, rfl⟩
theorem iX1_drop_42 : zI cX1_drop 42 (.iload_n 1) 1 43 := ⟨by decide +kernel, rfl⟩
theorem iX1_drop_39 : zI cX1_drop 39 (.getfield 50) 3 42 := ⟨by decide +kernel, rfl⟩
theorem iX1_drop_38 : zI cX1_drop 38 (.aload_n 0) 1 39 := ⟨by decide +kernel, rfl⟩
theorem iX1_drop_35 : zI cX1_drop 35 (.getfield 27) 3 38 := ⟨by decide +kernel, rfl⟩
theorem iX1_drop_34 : zI cX1_drop 34 (.aload_n 0) 1 35 := ⟨by decide +kernel, rfl⟩
theorem iX1_drop_31 : zI cX1_drop 31 (.putfield 47) 3 34 := ⟨by decide +kernel, rfl⟩
theorem iX1_drop_30 : zI cX1_drop 30 (.iand) 1 31 := ⟨by decide +kernel, rfl⟩
theorem iX1_drop_29 : zI cX1_drop 29 (.ixor) 1 30 := ⟨by decide +kernel, rfl⟩
theorem iX1_drop_28 : zI cX1_drop 28 (.iconst (-1)) 1 29 := ⟨by decide +kernel, rfl⟩
theorem iX1_drop_27 : zI cX1_drop 27 (.ishl) 1 28 := ⟨by decide +kernel, rfl⟩
theorem iX1_drop_26 : zI cX1_drop 26 (.iload_n 1) 1 27 := ⟨by decide +kernel, rfl⟩
theorem iX1_drop_25 : zI cX1_drop 25 (.iconst 1) 1 26 := ⟨by decide +kernel, rfl⟩
theorem iX1_drop_22 : zI cX1_drop 22 (.getfield 47) 3 25 := ⟨by decide +kernel, rfl⟩
theorem iX1_drop_21 : zI cX1_drop 21 (.dup) 1 22 := ⟨by decide +kernel, rfl⟩
theorem iX1_drop_20 : zI cX1_drop 20 (.aload_n 0) 1 21 := ⟨by decide +kernel, rfl⟩
theorem iX1_drop_15 : zI cX1_drop 15 (.bipush 9) 2 17 := ⟨by decide +kernel, rfl⟩
theorem iX1_drop_12 : zI cX1_drop 12 (.getfield 50) 3 15 := ⟨by decide +kernel, rfl⟩
theorem iX1_drop_11 : zI cX1_drop 11 (.aload_n 0) 1 12 := ⟨by decide +kernel, rfl⟩
theorem iX1_drop_4 : zI cX1_drop 4 (.iload_n 1) 1 5 := ⟨by decide +kernel, rfl⟩
theorem iX1_drop_1 : zI cX1_drop 1 (.getfield 47) 3 4 := ⟨by decide +kernel, rfl⟩
theorem iX1_drop_0 : zI cX1_drop 0 (.aload_n 0) 1 1 := ⟨by decide +kernel, rfl⟩
set_option maxHeartbeats 4000000 in
set_option maxRecDepth 100000 in
theorem m_Gr_drop (g : Nat) (hg : isG g) (x1 : Int32) (h : zH) : zM yX1_drop cX1_drop 2 none 1 shX (fun ad => [.ref (ad g), .int x1]) h eV (Gr_drop g x1 h) := by
  refine zM.of (by decide) (fun _ => rfl) (fun _ => Nat.le_of_ble_eq_true rfl) (fun X ad hnL C => ?_)
  show zG X ad shX eV 0 [some (.ref (ad g)), some (.int x1)] [] h _
  unfold Gr_drop
  refine g_aload_n C iX1_drop_0 rfl ?_
  refine g_getI C fX1_47 iX1_drop_1 hg.1 rfl ?_
  refine g_iload_n C iX1_drop_4 rfl ?_
  refine g_callN C wX1_102 iX1_drop_5 (m_SS_has (h g 7) x1 h) (by decide) rfl rfl rfl (Nat.le_of_ble_eq_true rfl) (fun r => ?_)
  show zG X ad shX eV 8 [some (.ref (ad g)), some (.int x1)] [.int r] h _
  refine g_if_eq C 54 iX1_drop_8 (by decide) (fun c8 => ?_) (fun c8 => ?_)
  · exact g_vret C iX1_drop_54 rfl
  · refine g_aload_n C iX1_drop_11 rfl ?_
    refine g_getI C fX1_50 iX1_drop_12 hg.1 rfl ?_
    refine g_bipush C 9 iX1_drop_15 (by decide) ?_
    refine g_icmp_ge C 54 iX1_drop_17 (by decide) (fun c17 => ?_) (fun c17 => ?_)
    · exact g_vret C iX1_drop_54 rfl
    · refine g_aload_n C iX1_drop_20 rfl ?_
      refine g_dup C iX1_drop_21 rfl ?_
      refine g_getI C fX1_47 iX1_drop_22 hg.1 rfl ?_
      refine g_iconst C 1 iX1_drop_25 (by decide) ?_
      refine g_iload_n C iX1_drop_26 rfl ?_
      refine g_ishl C iX1_drop_27 ?_
      refine g_iconst C (-1) iX1_drop_28 (by decide) ?_
      refine g_ixor C iX1_drop_29 ?_
      refine g_iand C iX1_drop_30 ?_
      refine g_putI C pX1_47 iX1_drop_31 hg.1 rfl (fun h_1 => ?_)
      refine g_aload_n C iX1_drop_34 rfl ?_
      refine g_getR (b := (g + 6)) C fX1_27 iX1_drop_35 hg.1 rfl ?_
      refine g_aload_n C iX1_drop_38 rfl ?_
      refine g_getI C fX1_50 iX1_drop_39 hg.1 rfl ?_
      refine g_iload_n C iX1_drop_42 rfl ?_
      refine g_iastore C iX1_drop_43 hg.2.2.2.2.2.2.1 (fun h_2 => ?_)
      refine g_aload_n C iX1_drop_44 rfl ?_
      refine g_dup C iX1_drop_45 rfl ?_
      refine g_getI C fX1_50 iX1_drop_46 hg.1 rfl ?_
      refine g_iconst C 1 iX1_drop_49 (by decide) ?_
      refine g_iadd C iX1_drop_50 ?_
      refine g_putI C pX1_50 iX1_drop_51 hg.1 rfl (fun h_3 => ?_)
      exact g_vret C iX1_drop_54 rfl

theorem fX0_114 : zFl RX0 114 4 3 := ⟨RX4, TX4, 16, rfl, by decide, (zmem 132 (by decide +kernel) (by decide +kernel)), u_inX4⟩
theorem iX0_dropSet_10 : zI cX0_dropSet 10 (.if_icmp .ge 53) 3 13 := ⟨by decide +kernel, rfl⟩
set_option maxRecDepth 100000 in
theorem wX0_117 : zCn RX0 117 yX6_has cX6_has 2 (some .boolean) 2 := ⟨by decide +kernel, (zmem 63 (by decide +kernel) (by decide +kernel)), (zmem 427 rfl rfl), ⟨by decide, by decide, by decide +kernel⟩, by decide, (zmem 426 (by decide +kernel) (by decide +kernel))⟩
theorem iX0_dropSet_15 : zI cX0_dropSet 15 (.invokestatic 117) 3 18 := ⟨by decide +kernel, rfl⟩
theorem iX0_dropSet_18 : zI cX0_dropSet 18 (.ifCond .eq 39) 3 21 := ⟨by decide +kernel, rfl⟩
theorem iX0_dropSet_60 : zI cX0_dropSet 60 (.goto (-58)) 3 63 := ⟨by decide +kernel, rfl⟩
theorem iX0_dropSet_57 : zI cX0_dropSet 57 (.iinc 2 1) 3 60 := ⟨by decide +kernel, rfl⟩
set_option maxRecDepth 100000 in
theorem wX0_121 : zCv RX0 121 yX1_drop cX1_drop 2 none 1 := ⟨⟨(zmem 563 (by decide +kernel) (by decide +kernel)), (zmem 67 (by decide +kernel) (by decide +kernel)), (zmem 566 rfl rfl), ⟨by decide, by decide, by decide +kernel⟩, by decide⟩, (zmem 564 (by decide +kernel) (by decide +kernel)), (zmem 565 (by decide +kernel) (by decide +kernel))⟩
theorem iX0_dropSet_26 : zI cX0_dropSet 26 (.invokevirtual 121) 3 29 := ⟨by decide +kernel, rfl⟩
theorem fX0_19 : zFl RX0 19 0 2 := ⟨RX0, TX0, 5, rfl, by decide, (zmem 266 (by decide +kernel) (by decide +kernel)), u_inX0⟩
theorem fX0_23 : zFl RX0 23 0 3 := ⟨RX0, TX0, 5, rfl, by decide, (zmem 268 (by decide +kernel) (by decide +kernel)), u_inX0⟩
theorem fX0_124 : zFl RX0 124 4 12 := ⟨RX4, TX4, 16, rfl, by decide, (zmem 156 (by decide +kernel) (by decide +kernel)), u_inX4⟩
theorem iX0_dropSet_54 : zI cX0_dropSet 54 (.putfield 23) 3 57 := ⟨by decide +kernel, rfl⟩
theorem iX0_dropSet_53 : zI cX0_dropSet 53 (.iadd) 1 54 := ⟨by decide +kernel, rfl⟩
theorem iX0_dropSet_52 : zI cX0_dropSet 52 (.iaload) 1 53 := ⟨by decide +kernel, rfl⟩
theorem iX0_dropSet_51 : zI cX0_dropSet 51 (.iload_n 2) 1 52 := ⟨by decide +kernel, rfl⟩
theorem iX0_dropSet_48 : zI cX0_dropSet 48 (.getfield 124) 3 51 := ⟨by decide +kernel, rfl⟩
theorem iX0_dropSet_45 : zI cX0_dropSet 45 (.getfield 9) 3 48 := ⟨by decide +kernel, rfl⟩
theorem iX0_dropSet_44 : zI cX0_dropSet 44 (.aload_n 0) 1 45 := ⟨by decide +kernel, rfl⟩
theorem iX0_dropSet_41 : zI cX0_dropSet 41 (.getfield 23) 3 44 := ⟨by decide +kernel, rfl⟩
theorem iX0_dropSet_40 : zI cX0_dropSet 40 (.dup) 1 41 := ⟨by decide +kernel, rfl⟩
theorem iX0_dropSet_39 : zI cX0_dropSet 39 (.aload_n 0) 1 40 := ⟨by decide +kernel, rfl⟩
theorem iX0_dropSet_36 : zI cX0_dropSet 36 (.putfield 19) 3 39 := ⟨by decide +kernel, rfl⟩
theorem iX0_dropSet_35 : zI cX0_dropSet 35 (.iadd) 1 36 := ⟨by decide +kernel, rfl⟩
theorem iX0_dropSet_34 : zI cX0_dropSet 34 (.iconst 1) 1 35 := ⟨by decide +kernel, rfl⟩
theorem iX0_dropSet_31 : zI cX0_dropSet 31 (.getfield 19) 3 34 := ⟨by decide +kernel, rfl⟩
theorem iX0_dropSet_30 : zI cX0_dropSet 30 (.dup) 1 31 := ⟨by decide +kernel, rfl⟩
theorem iX0_dropSet_29 : zI cX0_dropSet 29 (.aload_n 0) 1 30 := ⟨by decide +kernel, rfl⟩
theorem iX0_dropSet_25 : zI cX0_dropSet 25 (.iload_n 2) 1 26 := ⟨by decide +kernel, rfl⟩
theorem iX0_dropSet_22 : zI cX0_dropSet 22 (.getfield 15) 3 25 := ⟨by decide +kernel, rfl⟩
theorem iX0_dropSet_21 : zI cX0_dropSet 21 (.aload_n 0) 1 22 := ⟨by decide +kernel, rfl⟩
theorem iX0_dropSet_14 : zI cX0_dropSet 14 (.iload_n 2) 1 15 := ⟨by decide +kernel, rfl⟩
theorem iX0_dropSet_13 : zI cX0_dropSet 13 (.iload_n 1) 1 14 := ⟨by decide +kernel, rfl⟩
theorem iX0_dropSet_7 : zI cX0_dropSet 7 (.getfield 114) 3 10 := ⟨by decide +kernel, rfl⟩
theorem iX0_dropSet_4 : zI cX0_dropSet 4 (.getfield 9) 3 7 := ⟨by decide +kernel, rfl⟩
theorem iX0_dropSet_3 : zI cX0_dropSet 3 (.aload_n 0) 1 4 := ⟨by decide +kernel, rfl⟩
theorem iX0_dropSet_2 : zI cX0_dropSet 2 (.iload_n 2) 1 3 := ⟨by decide +kernel, rfl⟩
theorem iX0_dropSet_63 : zI cX0_dropSet 63 (.return_) 1 64 := ⟨by decide +kernel, rfl⟩
theorem iX0_dropSet_1 : zI cX0_dropSet 1 (.istore_n 2) 1 2 := ⟨by decide +kernel, rfl⟩
theorem iX0_dropSet_0 : zI cX0_dropSet 0 (.iconst 0) 1 1 := ⟨by decide +kernel, rfl⟩
set_option maxHeartbeats 4000000 in
set_option maxRecDepth 100000 in
theorem m_Co_dropSet (c g : Nat) (hc : isC c g) (hg : isG g) (x1 : Int32) (h : zH) : zM yX0_dropSet cX0_dropSet 3 none 2 shX (fun ad => [.ref (ad c), .int x1]) h eV (Co_dropSet c g x1 h) := by
  refine zM.of (by decide) (fun _ => rfl) (fun _ => Nat.le_of_ble_eq_true rfl) (fun X ad hnL C => ?_)
  show zG X ad shX eV 0 [some (.ref (ad c)), some (.int x1), none] [] h _
  unfold Co_dropSet
  refine g_iconst C 0 iX0_dropSet_0 (by decide) ?_
  refine g_istore_n (lv' := [some (.ref (ad c)), some (.int x1), some (.int 0)]) C hnL iX0_dropSet_1 (by decide) rfl ?_
  have L2 : ∀ (k63 : zH → Option (zH)), (∀ (hy : zH), zG X ad shX eV 63 [none, none, none] [] hy (k63 hy)) → ∀ (n : Nat) (x2 : Int32) (h_1 : zH), zG X ad shX eV 2 [some (.ref (ad c)), some (.int x1), some (.int x2)] [] h_1 (Co_dropSet_L2 c g x1 k63 n x2 h_1) := by
    intro k63 hk63 n
    induction n with
    | zero =>
      intro x2 h_1
      exact g_none
    | succ n ih2 =>
      intro x2 h_1
      rw [Co_dropSet_L2]
      refine g_iload_n C iX0_dropSet_2 rfl ?_
      refine g_aload_n C iX0_dropSet_3 rfl ?_
      refine g_getR (b := 17) C fX0_9 iX0_dropSet_4 hc rfl ?_
      refine g_getI C fX0_114 iX0_dropSet_7 isP17.1 rfl ?_
      refine g_icmp_ge C 63 iX0_dropSet_10 (by decide) (fun c10 => ?_) (fun c10 => ?_)
      · refine g_sub (lv' := [none, none, none]) trivial ?_
        exact hk63 _
      · refine g_iload_n C iX0_dropSet_13 rfl ?_
        refine g_iload_n C iX0_dropSet_14 rfl ?_
        refine g_callN C wX0_117 iX0_dropSet_15 (m_SS_has x1 x2 h_1) (by decide) rfl rfl rfl (Nat.le_of_ble_eq_true rfl) (fun r => ?_)
        show zG X ad shX eV 18 [some (.ref (ad c)), some (.int x1), some (.int x2)] [.int r] h_1 _
        refine g_if_eq C 57 iX0_dropSet_18 (by decide) (fun c18 => ?_) (fun c18 => ?_)
        · refine g_iinc (v := (x2 + 1)) (lv' := [some (.ref (ad c)), some (.int x1), some (.int (x2 + 1))]) C hnL iX0_dropSet_57 (by decide) rfl rfl rfl ?_
          refine g_goto C 2 iX0_dropSet_60 (by decide) ?_
          exact ih2 _ _
        · refine g_aload_n C iX0_dropSet_21 rfl ?_
          refine g_getR (b := g) C fX0_15 iX0_dropSet_22 hc rfl ?_
          refine g_iload_n C iX0_dropSet_25 rfl ?_
          refine g_callV C wX0_121 iX0_dropSet_26 (m_Gr_drop g hg x2 h_1) (by decide) hg.1 rfl rfl rfl rfl (Nat.le_of_ble_eq_true rfl) (fun h_2 => ?_)
          show zG X ad shX eV 29 [some (.ref (ad c)), some (.int x1), some (.int x2)] [] h_2 _
          refine g_aload_n C iX0_dropSet_29 rfl ?_
          refine g_dup C iX0_dropSet_30 rfl ?_
          refine g_getI C fX0_19 iX0_dropSet_31 hc rfl ?_
          refine g_iconst C 1 iX0_dropSet_34 (by decide) ?_
          refine g_iadd C iX0_dropSet_35 ?_
          refine g_putI C pX0_19 iX0_dropSet_36 hc rfl (fun h_3 => ?_)
          refine g_aload_n C iX0_dropSet_39 rfl ?_
          refine g_dup C iX0_dropSet_40 rfl ?_
          refine g_getI C fX0_23 iX0_dropSet_41 hc rfl ?_
          refine g_aload_n C iX0_dropSet_44 rfl ?_
          refine g_getR (b := 17) C fX0_9 iX0_dropSet_45 hc rfl ?_
          refine g_getR (b := 25) C fX0_124 iX0_dropSet_48 isP17.1 rfl ?_
          refine g_iload_n C iX0_dropSet_51 rfl ?_
          refine g_iaload C iX0_dropSet_52 isP17.2.2.2.2.2.2.2.2.1 ?_
          refine g_iadd C iX0_dropSet_53 ?_
          refine g_putI C pX0_23 iX0_dropSet_54 hc rfl (fun h_4 => ?_)
          refine g_iinc (v := (x2 + 1)) (lv' := [some (.ref (ad c)), some (.int x1), some (.int (x2 + 1))]) C hnL iX0_dropSet_57 (by decide) rfl rfl rfl ?_
          refine g_goto C 2 iX0_dropSet_60 (by decide) ?_
          exact ih2 _ _
  refine L2 _ (fun h_5 => ?_) 1000 _ _
  show zG X ad shX eV 63 [none, none, none] [] h_5 _
  exact g_vret C iX0_dropSet_63 rfl

theorem fX0_67 : zFl RX0 67 1 4 := ⟨RX1, TX1, 12, rfl, by decide, (zmem 211 (by decide +kernel) (by decide +kernel)), u_inX1⟩
set_option maxRecDepth 100000 in
theorem wX0_107 : zCv RX0 107 yX1_feederBits cX1_feederBits 5 (some .int) 2 := ⟨⟨(zmem 554 (by decide +kernel) (by decide +kernel)), (zmem 67 (by decide +kernel) (by decide +kernel)), (zmem 557 rfl rfl), ⟨by decide, by decide, by decide +kernel⟩, by decide⟩, (zmem 555 (by decide +kernel) (by decide +kernel)), (zmem 556 (by decide +kernel) (by decide +kernel))⟩
theorem iX0_darken_17 : zI cX0_darken 17 (.invokevirtual 107) 3 20 := ⟨by decide +kernel, rfl⟩
set_option maxRecDepth 100000 in
theorem wX0_111 : zCv RX0 111 yX0_dropSet cX0_dropSet 3 none 1 := ⟨⟨(zmem 558 (by decide +kernel) (by decide +kernel)), (zmem 68 (by decide +kernel) (by decide +kernel)), (zmem 561 rfl rfl), ⟨by decide, by decide, by decide +kernel⟩, by decide⟩, (zmem 560 (by decide +kernel) (by decide +kernel)), (zmem 8 (by decide +kernel) (by decide +kernel))⟩
theorem iX0_darken_20 : zI cX0_darken 20 (.invokevirtual 111) 3 23 := ⟨by decide +kernel, rfl⟩
theorem iX0_darken_33 : zI cX0_darken 33 (.if_icmp .ge 40) 3 36 := ⟨by decide +kernel, rfl⟩
theorem iX0_darken_54 : zI cX0_darken 54 (.if_icmp .ne 13) 3 57 := ⟨by decide +kernel, rfl⟩
theorem iX0_darken_70 : zI cX0_darken 70 (.goto (-45)) 3 73 := ⟨by decide +kernel, rfl⟩
theorem iX0_darken_67 : zI cX0_darken 67 (.iinc 2 1) 3 70 := ⟨by decide +kernel, rfl⟩
theorem iX0_darken_66 : zI cX0_darken 66 (.iastore) 1 67 := ⟨by decide +kernel, rfl⟩
theorem iX0_darken_65 : zI cX0_darken 65 (.iconst 0) 1 66 := ⟨by decide +kernel, rfl⟩
theorem iX0_darken_64 : zI cX0_darken 64 (.iload_n 2) 1 65 := ⟨by decide +kernel, rfl⟩
theorem iX0_darken_61 : zI cX0_darken 61 (.getfield 95) 3 64 := ⟨by decide +kernel, rfl⟩
theorem iX0_darken_58 : zI cX0_darken 58 (.getfield 15) 3 61 := ⟨by decide +kernel, rfl⟩
theorem iX0_darken_57 : zI cX0_darken 57 (.aload_n 0) 1 58 := ⟨by decide +kernel, rfl⟩
theorem iX0_darken_53 : zI cX0_darken 53 (.iload_n 1) 1 54 := ⟨by decide +kernel, rfl⟩
theorem iX0_darken_52 : zI cX0_darken 52 (.iaload) 1 53 := ⟨by decide +kernel, rfl⟩
theorem iX0_darken_51 : zI cX0_darken 51 (.iaload) 1 52 := ⟨by decide +kernel, rfl⟩
theorem iX0_darken_50 : zI cX0_darken 50 (.iload_n 2) 1 51 := ⟨by decide +kernel, rfl⟩
theorem iX0_darken_47 : zI cX0_darken 47 (.getfield 92) 3 50 := ⟨by decide +kernel, rfl⟩
theorem iX0_darken_44 : zI cX0_darken 44 (.getfield 9) 3 47 := ⟨by decide +kernel, rfl⟩
theorem iX0_darken_43 : zI cX0_darken 43 (.aload_n 0) 1 44 := ⟨by decide +kernel, rfl⟩
theorem iX0_darken_40 : zI cX0_darken 40 (.getfield 39) 3 43 := ⟨by decide +kernel, rfl⟩
theorem iX0_darken_37 : zI cX0_darken 37 (.getfield 15) 3 40 := ⟨by decide +kernel, rfl⟩
theorem iX0_darken_36 : zI cX0_darken 36 (.aload_n 0) 1 37 := ⟨by decide +kernel, rfl⟩
theorem iX0_darken_30 : zI cX0_darken 30 (.getfield 89) 3 33 := ⟨by decide +kernel, rfl⟩
theorem iX0_darken_27 : zI cX0_darken 27 (.getfield 9) 3 30 := ⟨by decide +kernel, rfl⟩
theorem iX0_darken_26 : zI cX0_darken 26 (.aload_n 0) 1 27 := ⟨by decide +kernel, rfl⟩
theorem iX0_darken_25 : zI cX0_darken 25 (.iload_n 2) 1 26 := ⟨by decide +kernel, rfl⟩
theorem iX0_darken_73 : zI cX0_darken 73 (.return_) 1 74 := ⟨by decide +kernel, rfl⟩
theorem iX0_darken_24 : zI cX0_darken 24 (.istore_n 2) 1 25 := ⟨by decide +kernel, rfl⟩
theorem iX0_darken_23 : zI cX0_darken 23 (.iconst 0) 1 24 := ⟨by decide +kernel, rfl⟩
theorem iX0_darken_16 : zI cX0_darken 16 (.iconst 1) 1 17 := ⟨by decide +kernel, rfl⟩
theorem iX0_darken_15 : zI cX0_darken 15 (.iload_n 1) 1 16 := ⟨by decide +kernel, rfl⟩
theorem iX0_darken_12 : zI cX0_darken 12 (.getfield 15) 3 15 := ⟨by decide +kernel, rfl⟩
theorem iX0_darken_11 : zI cX0_darken 11 (.aload_n 0) 1 12 := ⟨by decide +kernel, rfl⟩
theorem iX0_darken_10 : zI cX0_darken 10 (.aload_n 0) 1 11 := ⟨by decide +kernel, rfl⟩
theorem iX0_darken_9 : zI cX0_darken 9 (.iastore) 1 10 := ⟨by decide +kernel, rfl⟩
theorem iX0_darken_8 : zI cX0_darken 8 (.iconst 0) 1 9 := ⟨by decide +kernel, rfl⟩
theorem iX0_darken_7 : zI cX0_darken 7 (.iload_n 1) 1 8 := ⟨by decide +kernel, rfl⟩
theorem iX0_darken_4 : zI cX0_darken 4 (.getfield 67) 3 7 := ⟨by decide +kernel, rfl⟩
theorem iX0_darken_1 : zI cX0_darken 1 (.getfield 15) 3 4 := ⟨by decide +kernel, rfl⟩
theorem iX0_darken_0 : zI cX0_darken 0 (.aload_n 0) 1 1 := ⟨by decide +kernel, rfl⟩
set_option maxHeartbeats 4000000 in
set_option maxRecDepth 100000 in
theorem m_Co_darken (c g : Nat) (hc : isC c g) (hg : isG g) (x1 : Int32) (h : zH) : zM yX0_darken cX0_darken 3 none 3 shX (fun ad => [.ref (ad c), .int x1]) h eV (Co_darken c g x1 h) := by
  refine zM.of (by decide) (fun _ => rfl) (fun _ => Nat.le_of_ble_eq_true rfl) (fun X ad hnL C => ?_)
  show zG X ad shX eV 0 [some (.ref (ad c)), some (.int x1), none] [] h _
  unfold Co_darken
  refine g_aload_n C iX0_darken_0 rfl ?_
  refine g_getR (b := g) C fX0_15 iX0_darken_1 hc rfl ?_
  refine g_getR (b := (g + 3)) C fX0_67 iX0_darken_4 hg.1 rfl ?_
  refine g_iload_n C iX0_darken_7 rfl ?_
  refine g_iconst C 0 iX0_darken_8 (by decide) ?_
  refine g_iastore C iX0_darken_9 hg.2.2.2.1 (fun h_1 => ?_)
  refine g_aload_n C iX0_darken_10 rfl ?_
  refine g_aload_n C iX0_darken_11 rfl ?_
  refine g_getR (b := g) C fX0_15 iX0_darken_12 hc rfl ?_
  refine g_iload_n C iX0_darken_15 rfl ?_
  refine g_iconst C 1 iX0_darken_16 (by decide) ?_
  refine g_callV C wX0_107 iX0_darken_17 (m_Gr_feederBits g hg x1 1 h_1) (by decide) hg.1 rfl rfl rfl rfl (Nat.le_of_ble_eq_true rfl) (fun r => ?_)
  show zG X ad shX eV 20 [some (.ref (ad c)), some (.int x1), none] [.int r, .ref (ad c)] h_1 _
  refine g_callV C wX0_111 iX0_darken_20 (m_Co_dropSet c g hc hg r h_1) (by decide) hc rfl rfl rfl rfl (Nat.le_of_ble_eq_true rfl) (fun h_2 => ?_)
  show zG X ad shX eV 23 [some (.ref (ad c)), some (.int x1), none] [] h_2 _
  refine g_iconst C 0 iX0_darken_23 (by decide) ?_
  refine g_istore_n (lv' := [some (.ref (ad c)), some (.int x1), some (.int 0)]) C hnL iX0_darken_24 (by decide) rfl ?_
  have L25 : ∀ (k73 : zH → Option (zH)), (∀ (hy : zH), zG X ad shX eV 73 [none, none, none] [] hy (k73 hy)) → ∀ (n : Nat) (x2 : Int32) (h_3 : zH), zG X ad shX eV 25 [some (.ref (ad c)), some (.int x1), some (.int x2)] [] h_3 (Co_darken_L25 g x1 k73 n x2 h_3) := by
    intro k73 hk73 n
    induction n with
    | zero =>
      intro x2 h_3
      exact g_none
    | succ n ih25 =>
      intro x2 h_3
      rw [Co_darken_L25]
      refine g_iload_n C iX0_darken_25 rfl ?_
      refine g_aload_n C iX0_darken_26 rfl ?_
      refine g_getR (b := 17) C fX0_9 iX0_darken_27 hc rfl ?_
      refine g_getI C fX0_89 iX0_darken_30 isP17.1 rfl ?_
      refine g_icmp_ge C 73 iX0_darken_33 (by decide) (fun c33 => ?_) (fun c33 => ?_)
      · refine g_sub (lv' := [none, none, none]) trivial ?_
        exact hk73 _
      · refine g_aload_n C iX0_darken_36 rfl ?_
        refine g_getR (b := g) C fX0_15 iX0_darken_37 hc rfl ?_
        refine g_getR (b := (g + 1)) C fX0_39 iX0_darken_40 hg.1 rfl ?_
        refine g_aload_n C iX0_darken_43 rfl ?_
        refine g_getR (b := 17) C fX0_9 iX0_darken_44 hc rfl ?_
        refine g_getR (b := 20) C fX0_92 iX0_darken_47 isP17.1 rfl ?_
        refine g_iload_n C iX0_darken_50 rfl ?_
        refine g_iaload C iX0_darken_51 isP17.2.2.2.1 ?_
        refine g_iaload C iX0_darken_52 hg.2.1 ?_
        refine g_iload_n C iX0_darken_53 rfl ?_
        refine g_icmp_ne C 67 iX0_darken_54 (by decide) (fun c54 => ?_) (fun c54 => ?_)
        · refine g_aload_n C iX0_darken_57 rfl ?_
          refine g_getR (b := g) C fX0_15 iX0_darken_58 hc rfl ?_
          refine g_getR (b := (g + 5)) C fX0_95 iX0_darken_61 hg.1 rfl ?_
          refine g_iload_n C iX0_darken_64 rfl ?_
          refine g_iconst C 0 iX0_darken_65 (by decide) ?_
          refine g_iastore C iX0_darken_66 hg.2.2.2.2.2.1 (fun h_4 => ?_)
          refine g_iinc (v := (x2 + 1)) (lv' := [some (.ref (ad c)), some (.int x1), some (.int (x2 + 1))]) C hnL iX0_darken_67 (by decide) rfl rfl rfl ?_
          refine g_goto C 25 iX0_darken_70 (by decide) ?_
          exact ih25 _ _
        · refine g_iinc (v := (x2 + 1)) (lv' := [some (.ref (ad c)), some (.int x1), some (.int (x2 + 1))]) C hnL iX0_darken_67 (by decide) rfl rfl rfl ?_
          refine g_goto C 25 iX0_darken_70 (by decide) ?_
          exact ih25 _ _
  refine L25 _ (fun h_5 => ?_) 1000 _ _
  show zG X ad shX eV 73 [none, none, none] [] h_5 _
  exact g_vret C iX0_darken_73 rfl

theorem iX0_onOfStage_6 : zI cX0_onOfStage 6 (.invokevirtual 107) 3 9 := ⟨by decide +kernel, rfl⟩
theorem iX0_onOfStage_22 : zI cX0_onOfStage 22 (.if_icmp .ge 32) 3 25 := ⟨by decide +kernel, rfl⟩
theorem fX0_139 : zFl RX0 139 4 13 := ⟨RX4, TX4, 16, rfl, by decide, (zmem 159 (by decide +kernel) (by decide +kernel)), u_inX4⟩
theorem iX0_onOfStage_36 : zI cX0_onOfStage 36 (.if_icmp .eq 12) 3 39 := ⟨by decide +kernel, rfl⟩
theorem iX0_onOfStage_51 : zI cX0_onOfStage 51 (.goto (-38)) 3 54 := ⟨by decide +kernel, rfl⟩
theorem iX0_onOfStage_48 : zI cX0_onOfStage 48 (.iinc 4 1) 3 51 := ⟨by decide +kernel, rfl⟩
theorem iX0_onOfStage_47 : zI cX0_onOfStage 47 (.istore_n 3) 1 48 := ⟨by decide +kernel, rfl⟩
theorem iX0_onOfStage_46 : zI cX0_onOfStage 46 (.iand) 1 47 := ⟨by decide +kernel, rfl⟩
theorem iX0_onOfStage_45 : zI cX0_onOfStage 45 (.ixor) 1 46 := ⟨by decide +kernel, rfl⟩
theorem iX0_onOfStage_44 : zI cX0_onOfStage 44 (.iconst (-1)) 1 45 := ⟨by decide +kernel, rfl⟩
theorem iX0_onOfStage_43 : zI cX0_onOfStage 43 (.ishl) 1 44 := ⟨by decide +kernel, rfl⟩
theorem iX0_onOfStage_41 : zI cX0_onOfStage 41 (.iload 4) 2 43 := ⟨by decide +kernel, rfl⟩
theorem iX0_onOfStage_40 : zI cX0_onOfStage 40 (.iconst 1) 1 41 := ⟨by decide +kernel, rfl⟩
theorem iX0_onOfStage_39 : zI cX0_onOfStage 39 (.iload_n 3) 1 40 := ⟨by decide +kernel, rfl⟩
theorem iX0_onOfStage_35 : zI cX0_onOfStage 35 (.iload_n 2) 1 36 := ⟨by decide +kernel, rfl⟩
theorem iX0_onOfStage_34 : zI cX0_onOfStage 34 (.iaload) 1 35 := ⟨by decide +kernel, rfl⟩
theorem iX0_onOfStage_32 : zI cX0_onOfStage 32 (.iload 4) 2 34 := ⟨by decide +kernel, rfl⟩
theorem iX0_onOfStage_29 : zI cX0_onOfStage 29 (.getfield 139) 3 32 := ⟨by decide +kernel, rfl⟩
theorem iX0_onOfStage_26 : zI cX0_onOfStage 26 (.getfield 9) 3 29 := ⟨by decide +kernel, rfl⟩
theorem iX0_onOfStage_25 : zI cX0_onOfStage 25 (.aload_n 0) 1 26 := ⟨by decide +kernel, rfl⟩
theorem iX0_onOfStage_19 : zI cX0_onOfStage 19 (.getfield 114) 3 22 := ⟨by decide +kernel, rfl⟩
theorem iX0_onOfStage_16 : zI cX0_onOfStage 16 (.getfield 9) 3 19 := ⟨by decide +kernel, rfl⟩
theorem iX0_onOfStage_15 : zI cX0_onOfStage 15 (.aload_n 0) 1 16 := ⟨by decide +kernel, rfl⟩
theorem iX0_onOfStage_13 : zI cX0_onOfStage 13 (.iload 4) 2 15 := ⟨by decide +kernel, rfl⟩
theorem iX0_onOfStage_55 : zI cX0_onOfStage 55 (.ireturn) 1 56 := ⟨by decide +kernel, rfl⟩
theorem iX0_onOfStage_54 : zI cX0_onOfStage 54 (.iload_n 3) 1 55 := ⟨by decide +kernel, rfl⟩
theorem iX0_onOfStage_11 : zI cX0_onOfStage 11 (.istore 4) 2 13 := ⟨by decide +kernel, rfl⟩
theorem iX0_onOfStage_10 : zI cX0_onOfStage 10 (.iconst 0) 1 11 := ⟨by decide +kernel, rfl⟩
theorem iX0_onOfStage_9 : zI cX0_onOfStage 9 (.istore_n 3) 1 10 := ⟨by decide +kernel, rfl⟩
theorem iX0_onOfStage_5 : zI cX0_onOfStage 5 (.iconst 1) 1 6 := ⟨by decide +kernel, rfl⟩
theorem iX0_onOfStage_4 : zI cX0_onOfStage 4 (.iload_n 1) 1 5 := ⟨by decide +kernel, rfl⟩
theorem iX0_onOfStage_1 : zI cX0_onOfStage 1 (.getfield 15) 3 4 := ⟨by decide +kernel, rfl⟩
theorem iX0_onOfStage_0 : zI cX0_onOfStage 0 (.aload_n 0) 1 1 := ⟨by decide +kernel, rfl⟩
set_option maxHeartbeats 4000000 in
set_option maxRecDepth 100000 in
theorem m_Co_onOfStage (c g : Nat) (hc : isC c g) (hg : isG g) (x1 : Int32) (x2 : Int32) (h : zH) : zM yX0_onOfStage cX0_onOfStage 5 (some .int) 2 shX (fun ad => [.ref (ad c), .int x1, .int x2]) h (eP h) (Co_onOfStage c g x1 x2 h) := by
  refine zM.of (by decide) (fun _ => rfl) (fun _ => Nat.le_of_ble_eq_true rfl) (fun X ad hnL C => ?_)
  show zG X ad shX (eP h) 0 [some (.ref (ad c)), some (.int x1), some (.int x2), none, none] [] h _
  unfold Co_onOfStage
  refine g_aload_n C iX0_onOfStage_0 rfl ?_
  refine g_getR (b := g) C fX0_15 iX0_onOfStage_1 hc rfl ?_
  refine g_iload_n C iX0_onOfStage_4 rfl ?_
  refine g_iconst C 1 iX0_onOfStage_5 (by decide) ?_
  refine g_callV C wX0_107 iX0_onOfStage_6 (m_Gr_feederBits g hg x1 1 h) (by decide) hg.1 rfl rfl rfl rfl (Nat.le_of_ble_eq_true rfl) (fun r => ?_)
  show zG X ad shX (eP h) 9 [some (.ref (ad c)), some (.int x1), some (.int x2), none, none] [.int r] h _
  refine g_istore_n (lv' := [some (.ref (ad c)), some (.int x1), some (.int x2), some (.int r), none]) C hnL iX0_onOfStage_9 (by decide) rfl ?_
  refine g_iconst C 0 iX0_onOfStage_10 (by decide) ?_
  refine g_istore (lv' := [some (.ref (ad c)), some (.int x1), some (.int x2), some (.int r), some (.int 0)]) C hnL iX0_onOfStage_11 (by decide) rfl ?_
  have L13 : ∀ (k54 : Int32 → Option (Int32)), (∀ (y3 : Int32), zG X ad shX (eP h) 54 [none, none, none, some (.int y3), none] [] h (k54 y3)) → ∀ (n : Nat) (x3 x4 : Int32), zG X ad shX (eP h) 13 [some (.ref (ad c)), none, some (.int x2), some (.int x3), some (.int x4)] [] h (Co_onOfStage_L13 x2 h k54 n x3 x4) := by
    intro k54 hk54 n
    induction n with
    | zero =>
      intro x3 x4
      exact g_none
    | succ n ih13 =>
      intro x3 x4
      rw [Co_onOfStage_L13]
      refine g_iload C iX0_onOfStage_13 rfl ?_
      refine g_aload_n C iX0_onOfStage_15 rfl ?_
      refine g_getR (b := 17) C fX0_9 iX0_onOfStage_16 hc rfl ?_
      refine g_getI C fX0_114 iX0_onOfStage_19 isP17.1 rfl ?_
      refine g_icmp_ge C 54 iX0_onOfStage_22 (by decide) (fun c22 => ?_) (fun c22 => ?_)
      · refine g_sub (lv' := [none, none, none, some (.int x3), none]) ⟨rfl, trivial⟩ ?_
        exact hk54 _
      · refine g_aload_n C iX0_onOfStage_25 rfl ?_
        refine g_getR (b := 17) C fX0_9 iX0_onOfStage_26 hc rfl ?_
        refine g_getR (b := 26) C fX0_139 iX0_onOfStage_29 isP17.1 rfl ?_
        refine g_iload C iX0_onOfStage_32 rfl ?_
        refine g_iaload C iX0_onOfStage_34 isP17.2.2.2.2.2.2.2.2.2.1 ?_
        refine g_iload_n C iX0_onOfStage_35 rfl ?_
        refine g_icmp_eq C 48 iX0_onOfStage_36 (by decide) (fun c36 => ?_) (fun c36 => ?_)
        · refine g_iinc (v := (x4 + 1)) (lv' := [some (.ref (ad c)), none, some (.int x2), some (.int x3), some (.int (x4 + 1))]) C hnL iX0_onOfStage_48 (by decide) rfl rfl rfl ?_
          refine g_goto C 13 iX0_onOfStage_51 (by decide) ?_
          exact ih13 _ _
        · refine g_iload_n C iX0_onOfStage_39 rfl ?_
          refine g_iconst C 1 iX0_onOfStage_40 (by decide) ?_
          refine g_iload C iX0_onOfStage_41 rfl ?_
          refine g_ishl C iX0_onOfStage_43 ?_
          refine g_iconst C (-1) iX0_onOfStage_44 (by decide) ?_
          refine g_ixor C iX0_onOfStage_45 ?_
          refine g_iand C iX0_onOfStage_46 ?_
          refine g_top (fun x3_1 => ?_)
          refine g_istore_n (lv' := [some (.ref (ad c)), none, some (.int x2), some (.int x3_1), some (.int x4)]) C hnL iX0_onOfStage_47 (by decide) rfl ?_
          refine g_iinc (v := (x4 + 1)) (lv' := [some (.ref (ad c)), none, some (.int x2), some (.int x3_1), some (.int (x4 + 1))]) C hnL iX0_onOfStage_48 (by decide) rfl rfl rfl ?_
          refine g_goto C 13 iX0_onOfStage_51 (by decide) ?_
          exact ih13 _ _
  refine g_sub (lv' := [some (.ref (ad c)), none, some (.int x2), some (.int r), some (.int 0)]) ⟨rfl, ⟨rfl, ⟨rfl, ⟨rfl, trivial⟩⟩⟩⟩ ?_
  refine L13 _ (fun x3_2 => ?_) 1000 _ _
  show zG X ad shX (eP h) 54 [none, none, none, some (.int x3_2), none] [] h _
  refine g_iload_n C iX0_onOfStage_54 rfl ?_
  exact g_iret C iX0_onOfStage_55 rfl

theorem fX0_127 : zFl RX0 127 1 5 := ⟨RX1, TX1, 12, rfl, by decide, (zmem 214 (by decide +kernel) (by decide +kernel)), u_inX1⟩
theorem fX0_130 : zFl RX0 130 1 10 := ⟨RX1, TX1, 12, rfl, by decide, (zmem 228 (by decide +kernel) (by decide +kernel)), u_inX1⟩
theorem fX0_133 : zFl RX0 133 4 15 := ⟨RX4, TX4, 16, rfl, by decide, (zmem 163 (by decide +kernel) (by decide +kernel)), u_inX4⟩
theorem iX0_passStage_70 : zI cX0_passStage 70 (.if_icmp .lt 32) 3 73 := ⟨by decide +kernel, rfl⟩
theorem iX0_passStage_102 : zI cX0_passStage 102 (.return_) 1 103 := ⟨by decide +kernel, rfl⟩
set_option maxRecDepth 100000 in
theorem wX0_136 : zCv RX0 136 yX0_onOfStage cX0_onOfStage 5 (some .int) 2 := ⟨⟨(zmem 572 (by decide +kernel) (by decide +kernel)), (zmem 68 (by decide +kernel) (by decide +kernel)), (zmem 575 rfl rfl), ⟨by decide, by decide, by decide +kernel⟩, by decide⟩, (zmem 574 (by decide +kernel) (by decide +kernel)), (zmem 10 (by decide +kernel) (by decide +kernel))⟩
theorem iX0_passStage_76 : zI cX0_passStage 76 (.invokevirtual 136) 3 79 := ⟨by decide +kernel, rfl⟩
theorem iX0_passStage_83 : zI cX0_passStage 83 (.ifCond .eq 19) 3 86 := ⟨by decide +kernel, rfl⟩
theorem iX0_passStage_89 : zI cX0_passStage 89 (.invokevirtual 111) 3 92 := ⟨by decide +kernel, rfl⟩
theorem iX0_passStage_101 : zI cX0_passStage 101 (.iastore) 1 102 := ⟨by decide +kernel, rfl⟩
theorem iX0_passStage_100 : zI cX0_passStage 100 (.iconst 0) 1 101 := ⟨by decide +kernel, rfl⟩
theorem iX0_passStage_99 : zI cX0_passStage 99 (.iload_n 3) 1 100 := ⟨by decide +kernel, rfl⟩
theorem iX0_passStage_96 : zI cX0_passStage 96 (.getfield 127) 3 99 := ⟨by decide +kernel, rfl⟩
theorem iX0_passStage_93 : zI cX0_passStage 93 (.getfield 15) 3 96 := ⟨by decide +kernel, rfl⟩
theorem iX0_passStage_92 : zI cX0_passStage 92 (.aload_n 0) 1 93 := ⟨by decide +kernel, rfl⟩
theorem iX0_passStage_87 : zI cX0_passStage 87 (.iload 4) 2 89 := ⟨by decide +kernel, rfl⟩
theorem iX0_passStage_86 : zI cX0_passStage 86 (.aload_n 0) 1 87 := ⟨by decide +kernel, rfl⟩
theorem iX0_passStage_81 : zI cX0_passStage 81 (.iload 4) 2 83 := ⟨by decide +kernel, rfl⟩
theorem iX0_passStage_79 : zI cX0_passStage 79 (.istore 4) 2 81 := ⟨by decide +kernel, rfl⟩
theorem iX0_passStage_75 : zI cX0_passStage 75 (.iload_n 2) 1 76 := ⟨by decide +kernel, rfl⟩
theorem iX0_passStage_74 : zI cX0_passStage 74 (.iload_n 1) 1 75 := ⟨by decide +kernel, rfl⟩
theorem iX0_passStage_73 : zI cX0_passStage 73 (.aload_n 0) 1 74 := ⟨by decide +kernel, rfl⟩
theorem iX0_passStage_69 : zI cX0_passStage 69 (.iaload) 1 70 := ⟨by decide +kernel, rfl⟩
theorem iX0_passStage_68 : zI cX0_passStage 68 (.iload_n 2) 1 69 := ⟨by decide +kernel, rfl⟩
theorem iX0_passStage_65 : zI cX0_passStage 65 (.getfield 133) 3 68 := ⟨by decide +kernel, rfl⟩
theorem iX0_passStage_62 : zI cX0_passStage 62 (.getfield 9) 3 65 := ⟨by decide +kernel, rfl⟩
theorem iX0_passStage_61 : zI cX0_passStage 61 (.aload_n 0) 1 62 := ⟨by decide +kernel, rfl⟩
theorem iX0_passStage_60 : zI cX0_passStage 60 (.iaload) 1 61 := ⟨by decide +kernel, rfl⟩
theorem iX0_passStage_59 : zI cX0_passStage 59 (.iload_n 3) 1 60 := ⟨by decide +kernel, rfl⟩
theorem iX0_passStage_56 : zI cX0_passStage 56 (.getfield 127) 3 59 := ⟨by decide +kernel, rfl⟩
theorem iX0_passStage_53 : zI cX0_passStage 53 (.getfield 15) 3 56 := ⟨by decide +kernel, rfl⟩
theorem iX0_passStage_52 : zI cX0_passStage 52 (.aload_n 0) 1 53 := ⟨by decide +kernel, rfl⟩
theorem iX0_passStage_51 : zI cX0_passStage 51 (.iastore) 1 52 := ⟨by decide +kernel, rfl⟩
theorem iX0_passStage_33 : zI cX0_passStage 33 (.if_icmp .ge 17) 3 36 := ⟨by decide +kernel, rfl⟩
theorem iX0_passStage_50 : zI cX0_passStage 50 (.iconst 0) 1 51 := ⟨by decide +kernel, rfl⟩
theorem iX0_passStage_47 : zI cX0_passStage 47 (.goto 4) 3 50 := ⟨by decide +kernel, rfl⟩
theorem iX0_passStage_46 : zI cX0_passStage 46 (.iadd) 1 47 := ⟨by decide +kernel, rfl⟩
theorem iX0_passStage_45 : zI cX0_passStage 45 (.iconst 1) 1 46 := ⟨by decide +kernel, rfl⟩
theorem iX0_passStage_44 : zI cX0_passStage 44 (.iaload) 1 45 := ⟨by decide +kernel, rfl⟩
theorem iX0_passStage_43 : zI cX0_passStage 43 (.iload_n 3) 1 44 := ⟨by decide +kernel, rfl⟩
theorem iX0_passStage_40 : zI cX0_passStage 40 (.getfield 127) 3 43 := ⟨by decide +kernel, rfl⟩
theorem iX0_passStage_37 : zI cX0_passStage 37 (.getfield 15) 3 40 := ⟨by decide +kernel, rfl⟩
theorem iX0_passStage_36 : zI cX0_passStage 36 (.aload_n 0) 1 37 := ⟨by decide +kernel, rfl⟩
theorem iX0_passStage_32 : zI cX0_passStage 32 (.iaload) 1 33 := ⟨by decide +kernel, rfl⟩
theorem iX0_passStage_31 : zI cX0_passStage 31 (.iload_n 2) 1 32 := ⟨by decide +kernel, rfl⟩
theorem iX0_passStage_28 : zI cX0_passStage 28 (.getfield 130) 3 31 := ⟨by decide +kernel, rfl⟩
theorem iX0_passStage_25 : zI cX0_passStage 25 (.getfield 15) 3 28 := ⟨by decide +kernel, rfl⟩
theorem iX0_passStage_24 : zI cX0_passStage 24 (.aload_n 0) 1 25 := ⟨by decide +kernel, rfl⟩
theorem iX0_passStage_23 : zI cX0_passStage 23 (.iaload) 1 24 := ⟨by decide +kernel, rfl⟩
theorem iX0_passStage_22 : zI cX0_passStage 22 (.iload_n 1) 1 23 := ⟨by decide +kernel, rfl⟩
theorem iX0_passStage_19 : zI cX0_passStage 19 (.getfield 67) 3 22 := ⟨by decide +kernel, rfl⟩
theorem iX0_passStage_16 : zI cX0_passStage 16 (.getfield 15) 3 19 := ⟨by decide +kernel, rfl⟩
theorem iX0_passStage_15 : zI cX0_passStage 15 (.aload_n 0) 1 16 := ⟨by decide +kernel, rfl⟩
theorem iX0_passStage_14 : zI cX0_passStage 14 (.iload_n 3) 1 15 := ⟨by decide +kernel, rfl⟩
theorem iX0_passStage_11 : zI cX0_passStage 11 (.getfield 127) 3 14 := ⟨by decide +kernel, rfl⟩
theorem iX0_passStage_8 : zI cX0_passStage 8 (.getfield 15) 3 11 := ⟨by decide +kernel, rfl⟩
theorem iX0_passStage_7 : zI cX0_passStage 7 (.aload_n 0) 1 8 := ⟨by decide +kernel, rfl⟩
theorem iX0_passStage_6 : zI cX0_passStage 6 (.istore_n 3) 1 7 := ⟨by decide +kernel, rfl⟩
theorem iX0_passStage_5 : zI cX0_passStage 5 (.iadd) 1 6 := ⟨by decide +kernel, rfl⟩
theorem iX0_passStage_4 : zI cX0_passStage 4 (.iload_n 2) 1 5 := ⟨by decide +kernel, rfl⟩
theorem iX0_passStage_3 : zI cX0_passStage 3 (.imul) 1 4 := ⟨by decide +kernel, rfl⟩
theorem iX0_passStage_1 : zI cX0_passStage 1 (.bipush 6) 2 3 := ⟨by decide +kernel, rfl⟩
theorem iX0_passStage_0 : zI cX0_passStage 0 (.iload_n 1) 1 1 := ⟨by decide +kernel, rfl⟩
set_option maxHeartbeats 4000000 in
set_option maxRecDepth 100000 in
theorem m_Co_passStage (c g : Nat) (hc : isC c g) (hg : isG g) (x1 : Int32) (x2 : Int32) (h : zH) : zM yX0_passStage cX0_passStage 5 none 3 shX (fun ad => [.ref (ad c), .int x1, .int x2]) h eV (Co_passStage c g x1 x2 h) := by
  refine zM.of (by decide) (fun _ => rfl) (fun _ => Nat.le_of_ble_eq_true rfl) (fun X ad hnL C => ?_)
  show zG X ad shX eV 0 [some (.ref (ad c)), some (.int x1), some (.int x2), none, none] [] h _
  unfold Co_passStage
  refine g_iload_n C iX0_passStage_0 rfl ?_
  refine g_bipush C 6 iX0_passStage_1 (by decide) ?_
  refine g_imul C iX0_passStage_3 ?_
  refine g_iload_n C iX0_passStage_4 rfl ?_
  refine g_iadd C iX0_passStage_5 ?_
  refine g_top (fun x3 => ?_)
  refine g_istore_n (lv' := [some (.ref (ad c)), some (.int x1), some (.int x2), some (.int x3), none]) C hnL iX0_passStage_6 (by decide) rfl ?_
  refine g_aload_n C iX0_passStage_7 rfl ?_
  refine g_getR (b := g) C fX0_15 iX0_passStage_8 hc rfl ?_
  refine g_getR (b := (g + 4)) C fX0_127 iX0_passStage_11 hg.1 rfl ?_
  refine g_iload_n C iX0_passStage_14 rfl ?_
  refine g_aload_n C iX0_passStage_15 rfl ?_
  refine g_getR (b := g) C fX0_15 iX0_passStage_16 hc rfl ?_
  refine g_getR (b := (g + 3)) C fX0_67 iX0_passStage_19 hg.1 rfl ?_
  refine g_iload_n C iX0_passStage_22 rfl ?_
  refine g_iaload C iX0_passStage_23 hg.2.2.2.1 ?_
  refine g_aload_n C iX0_passStage_24 rfl ?_
  refine g_getR (b := g) C fX0_15 iX0_passStage_25 hc rfl ?_
  refine g_getR (b := (g + 7)) C fX0_130 iX0_passStage_28 hg.1 rfl ?_
  refine g_iload_n C iX0_passStage_31 rfl ?_
  refine g_iaload C iX0_passStage_32 hg.2.2.2.2.2.2.2 ?_
  refine g_let (fun j51 ej51 => ?_)
  have hj51 : ∀ (v51 : Int32), zG X ad shX eV 51 [some (.ref (ad c)), some (.int x1), some (.int x2), some (.int x3), none] [.int v51, .int x3, .ref (ad (g + 4))] h (j51 v51) := by
    intro v51
    subst ej51
    refine g_iastore C iX0_passStage_51 hg.2.2.2.2.1 (fun h_1 => ?_)
    refine g_aload_n C iX0_passStage_52 rfl ?_
    refine g_getR (b := g) C fX0_15 iX0_passStage_53 hc rfl ?_
    refine g_getR (b := (g + 4)) C fX0_127 iX0_passStage_56 hg.1 rfl ?_
    refine g_iload_n C iX0_passStage_59 rfl ?_
    refine g_iaload C iX0_passStage_60 hg.2.2.2.2.1 ?_
    refine g_aload_n C iX0_passStage_61 rfl ?_
    refine g_getR (b := 17) C fX0_9 iX0_passStage_62 hc rfl ?_
    refine g_getR (b := 28) C fX0_133 iX0_passStage_65 isP17.1 rfl ?_
    refine g_iload_n C iX0_passStage_68 rfl ?_
    refine g_iaload C iX0_passStage_69 isP17.2.2.2.2.2.2.2.2.2.2.2 ?_
    refine g_icmp_lt C 102 iX0_passStage_70 (by decide) (fun c70 => ?_) (fun c70 => ?_)
    · exact g_vret C iX0_passStage_102 rfl
    · refine g_aload_n C iX0_passStage_73 rfl ?_
      refine g_iload_n C iX0_passStage_74 rfl ?_
      refine g_iload_n C iX0_passStage_75 rfl ?_
      refine g_callV C wX0_136 iX0_passStage_76 (m_Co_onOfStage c g hc hg x1 x2 h_1) (by decide) hc rfl rfl rfl rfl (Nat.le_of_ble_eq_true rfl) (fun r => ?_)
      show zG X ad shX eV 79 [some (.ref (ad c)), some (.int x1), some (.int x2), some (.int x3), none] [.int r] h_1 _
      refine g_istore (lv' := [some (.ref (ad c)), some (.int x1), some (.int x2), some (.int x3), some (.int r)]) C hnL iX0_passStage_79 (by decide) rfl ?_
      refine g_iload C iX0_passStage_81 rfl ?_
      refine g_if_eq C 102 iX0_passStage_83 (by decide) (fun c83 => ?_) (fun c83 => ?_)
      · exact g_vret C iX0_passStage_102 rfl
      · refine g_aload_n C iX0_passStage_86 rfl ?_
        refine g_iload C iX0_passStage_87 rfl ?_
        refine g_callV C wX0_111 iX0_passStage_89 (m_Co_dropSet c g hc hg r h_1) (by decide) hc rfl rfl rfl rfl (Nat.le_of_ble_eq_true rfl) (fun h_2 => ?_)
        show zG X ad shX eV 92 [some (.ref (ad c)), some (.int x1), some (.int x2), some (.int x3), some (.int r)] [] h_2 _
        refine g_aload_n C iX0_passStage_92 rfl ?_
        refine g_getR (b := g) C fX0_15 iX0_passStage_93 hc rfl ?_
        refine g_getR (b := (g + 4)) C fX0_127 iX0_passStage_96 hg.1 rfl ?_
        refine g_iload_n C iX0_passStage_99 rfl ?_
        refine g_iconst C 0 iX0_passStage_100 (by decide) ?_
        refine g_iastore C iX0_passStage_101 hg.2.2.2.2.1 (fun h_3 => ?_)
        exact g_vret C iX0_passStage_102 rfl
  clear ej51
  refine g_icmp_ge C 50 iX0_passStage_33 (by decide) (fun c33 => ?_) (fun c33 => ?_)
  · refine g_iconst C 0 iX0_passStage_50 (by decide) ?_
    exact hj51 _
  · refine g_aload_n C iX0_passStage_36 rfl ?_
    refine g_getR (b := g) C fX0_15 iX0_passStage_37 hc rfl ?_
    refine g_getR (b := (g + 4)) C fX0_127 iX0_passStage_40 hg.1 rfl ?_
    refine g_iload_n C iX0_passStage_43 rfl ?_
    refine g_iaload C iX0_passStage_44 hg.2.2.2.2.1 ?_
    refine g_iconst C 1 iX0_passStage_45 (by decide) ?_
    refine g_iadd C iX0_passStage_46 ?_
    refine g_goto C 51 iX0_passStage_47 (by decide) ?_
    exact hj51 _

theorem fX1_83 : zFl RX1 83 4 8 := ⟨RX4, TX4, 16, rfl, by decide, (zmem 145 (by decide +kernel) (by decide +kernel)), u_inX4⟩
theorem iX1_capOf_9 : zI cX1_capOf 9 (.invokevirtual 125) 3 12 := ⟨by decide +kernel, rfl⟩
theorem iX1_capOf_12 : zI cX1_capOf 12 (.ireturn) 1 13 := ⟨by decide +kernel, rfl⟩
theorem iX1_capOf_8 : zI cX1_capOf 8 (.iload_n 1) 1 9 := ⟨by decide +kernel, rfl⟩
theorem iX1_capOf_5 : zI cX1_capOf 5 (.getfield 83) 3 8 := ⟨by decide +kernel, rfl⟩
theorem iX1_capOf_2 : zI cX1_capOf 2 (.getfield 33) 3 5 := ⟨by decide +kernel, rfl⟩
theorem iX1_capOf_1 : zI cX1_capOf 1 (.aload_n 0) 1 2 := ⟨by decide +kernel, rfl⟩
theorem iX1_capOf_0 : zI cX1_capOf 0 (.aload_n 0) 1 1 := ⟨by decide +kernel, rfl⟩
set_option maxHeartbeats 4000000 in
set_option maxRecDepth 100000 in
theorem m_Gr_capOf (g : Nat) (hg : isG g) (x1 : Int32) (h : zH) : zM yX1_capOf cX1_capOf 2 (some .int) 1 shX (fun ad => [.ref (ad g), .int x1]) h (eP h) (Gr_capOf g x1 h) := by
  refine zM.of (by decide) (fun _ => rfl) (fun _ => Nat.le_of_ble_eq_true rfl) (fun X ad hnL C => ?_)
  show zG X ad shX (eP h) 0 [some (.ref (ad g)), some (.int x1)] [] h _
  unfold Gr_capOf
  refine g_aload_n C iX1_capOf_0 rfl ?_
  refine g_aload_n C iX1_capOf_1 rfl ?_
  refine g_getR (b := 17) C fX1_33 iX1_capOf_2 hg.1 rfl ?_
  refine g_getR (b := 21) C fX1_83 iX1_capOf_5 isP17.1 rfl ?_
  refine g_iload_n C iX1_capOf_8 rfl ?_
  refine g_callV C wX1_125 iX1_capOf_9 (m_Gr_sumOfPlants g hg 21 isP17.2.2.2.2.1 x1 h) (by decide) hg.1 rfl rfl rfl rfl (Nat.le_of_ble_eq_true rfl) (fun r => ?_)
  show zG X ad shX (eP h) 12 [some (.ref (ad g)), some (.int x1)] [.int r] h _
  exact g_iret C iX1_capOf_12 rfl

set_option maxRecDepth 100000 in
theorem wX0_148 : zCv RX0 148 yX1_capOf cX1_capOf 2 (some .int) 1 := ⟨⟨(zmem 584 (by decide +kernel) (by decide +kernel)), (zmem 67 (by decide +kernel) (by decide +kernel)), (zmem 587 rfl rfl), ⟨by decide, by decide, by decide +kernel⟩, by decide⟩, (zmem 585 (by decide +kernel) (by decide +kernel)), (zmem 586 (by decide +kernel) (by decide +kernel))⟩
theorem iX0_nextBack_5 : zI cX0_nextBack 5 (.invokevirtual 148) 3 8 := ⟨by decide +kernel, rfl⟩
set_option maxRecDepth 100000 in
theorem wX0_64 : zCv RX0 64 yX1_loadOf cX1_loadOf 4 (some .int) 1 := ⟨⟨(zmem 567 (by decide +kernel) (by decide +kernel)), (zmem 67 (by decide +kernel) (by decide +kernel)), (zmem 442 rfl rfl), ⟨by decide, by decide, by decide +kernel⟩, by decide⟩, (zmem 440 (by decide +kernel) (by decide +kernel)), (zmem 441 (by decide +kernel) (by decide +kernel))⟩
theorem iX0_nextBack_13 : zI cX0_nextBack 13 (.invokevirtual 64) 3 16 := ⟨by decide +kernel, rfl⟩
theorem fX0_151 : zFl RX0 151 1 9 := ⟨RX1, TX1, 12, rfl, by decide, (zmem 225 (by decide +kernel) (by decide +kernel)), u_inX1⟩
theorem iX0_nextBack_29 : zI cX0_nextBack 29 (.ifCond .lt 59) 3 32 := ⟨by decide +kernel, rfl⟩
theorem fX0_154 : zFl RX0 154 1 8 := ⟨RX1, TX1, 12, rfl, by decide, (zmem 222 (by decide +kernel) (by decide +kernel)), u_inX1⟩
theorem fX0_157 : zFl RX0 157 4 11 := ⟨RX4, TX4, 16, rfl, by decide, (zmem 153 (by decide +kernel) (by decide +kernel)), u_inX4⟩
theorem iX0_nextBack_62 : zI cX0_nextBack 62 (.if_icmp .ne 20) 3 65 := ⟨by decide +kernel, rfl⟩
theorem iX0_nextBack_85 : zI cX0_nextBack 85 (.goto (-57)) 3 88 := ⟨by decide +kernel, rfl⟩
theorem iX0_nextBack_82 : zI cX0_nextBack 82 (.iinc 3 (-1)) 3 85 := ⟨by decide +kernel, rfl⟩
theorem iX0_nextBack_76 : zI cX0_nextBack 76 (.if_icmp .gt 6) 3 79 := ⟨by decide +kernel, rfl⟩
theorem iX0_nextBack_75 : zI cX0_nextBack 75 (.iload_n 2) 1 76 := ⟨by decide +kernel, rfl⟩
theorem iX0_nextBack_74 : zI cX0_nextBack 74 (.iaload) 1 75 := ⟨by decide +kernel, rfl⟩
theorem iX0_nextBack_72 : zI cX0_nextBack 72 (.iload 4) 2 74 := ⟨by decide +kernel, rfl⟩
theorem iX0_nextBack_69 : zI cX0_nextBack 69 (.getfield 124) 3 72 := ⟨by decide +kernel, rfl⟩
theorem iX0_nextBack_66 : zI cX0_nextBack 66 (.getfield 9) 3 69 := ⟨by decide +kernel, rfl⟩
theorem iX0_nextBack_65 : zI cX0_nextBack 65 (.aload_n 0) 1 66 := ⟨by decide +kernel, rfl⟩
theorem iX0_nextBack_61 : zI cX0_nextBack 61 (.iload_n 1) 1 62 := ⟨by decide +kernel, rfl⟩
theorem iX0_nextBack_60 : zI cX0_nextBack 60 (.iaload) 1 61 := ⟨by decide +kernel, rfl⟩
theorem iX0_nextBack_59 : zI cX0_nextBack 59 (.iaload) 1 60 := ⟨by decide +kernel, rfl⟩
theorem iX0_nextBack_57 : zI cX0_nextBack 57 (.iload 4) 2 59 := ⟨by decide +kernel, rfl⟩
theorem iX0_nextBack_54 : zI cX0_nextBack 54 (.getfield 157) 3 57 := ⟨by decide +kernel, rfl⟩
theorem iX0_nextBack_51 : zI cX0_nextBack 51 (.getfield 9) 3 54 := ⟨by decide +kernel, rfl⟩
theorem iX0_nextBack_50 : zI cX0_nextBack 50 (.aload_n 0) 1 51 := ⟨by decide +kernel, rfl⟩
theorem iX0_nextBack_47 : zI cX0_nextBack 47 (.getfield 39) 3 50 := ⟨by decide +kernel, rfl⟩
theorem iX0_nextBack_44 : zI cX0_nextBack 44 (.getfield 15) 3 47 := ⟨by decide +kernel, rfl⟩
theorem iX0_nextBack_43 : zI cX0_nextBack 43 (.aload_n 0) 1 44 := ⟨by decide +kernel, rfl⟩
theorem iX0_nextBack_41 : zI cX0_nextBack 41 (.istore 4) 2 43 := ⟨by decide +kernel, rfl⟩
theorem iX0_nextBack_40 : zI cX0_nextBack 40 (.iaload) 1 41 := ⟨by decide +kernel, rfl⟩
theorem iX0_nextBack_39 : zI cX0_nextBack 39 (.iload_n 3) 1 40 := ⟨by decide +kernel, rfl⟩
theorem iX0_nextBack_36 : zI cX0_nextBack 36 (.getfield 154) 3 39 := ⟨by decide +kernel, rfl⟩
theorem iX0_nextBack_33 : zI cX0_nextBack 33 (.getfield 15) 3 36 := ⟨by decide +kernel, rfl⟩
theorem iX0_nextBack_32 : zI cX0_nextBack 32 (.aload_n 0) 1 33 := ⟨by decide +kernel, rfl⟩
theorem iX0_nextBack_28 : zI cX0_nextBack 28 (.iload_n 3) 1 29 := ⟨by decide +kernel, rfl⟩
theorem iX0_nextBack_81 : zI cX0_nextBack 81 (.ireturn) 1 82 := ⟨by decide +kernel, rfl⟩
theorem iX0_nextBack_79 : zI cX0_nextBack 79 (.iload 4) 2 81 := ⟨by decide +kernel, rfl⟩
theorem iX0_nextBack_89 : zI cX0_nextBack 89 (.ireturn) 1 90 := ⟨by decide +kernel, rfl⟩
theorem iX0_nextBack_88 : zI cX0_nextBack 88 (.iconst (-1)) 1 89 := ⟨by decide +kernel, rfl⟩
theorem iX0_nextBack_27 : zI cX0_nextBack 27 (.istore_n 3) 1 28 := ⟨by decide +kernel, rfl⟩
theorem iX0_nextBack_26 : zI cX0_nextBack 26 (.isub) 1 27 := ⟨by decide +kernel, rfl⟩
theorem iX0_nextBack_25 : zI cX0_nextBack 25 (.iconst 1) 1 26 := ⟨by decide +kernel, rfl⟩
theorem iX0_nextBack_22 : zI cX0_nextBack 22 (.getfield 151) 3 25 := ⟨by decide +kernel, rfl⟩
theorem iX0_nextBack_19 : zI cX0_nextBack 19 (.getfield 15) 3 22 := ⟨by decide +kernel, rfl⟩
theorem iX0_nextBack_18 : zI cX0_nextBack 18 (.aload_n 0) 1 19 := ⟨by decide +kernel, rfl⟩
theorem iX0_nextBack_17 : zI cX0_nextBack 17 (.istore_n 2) 1 18 := ⟨by decide +kernel, rfl⟩
theorem iX0_nextBack_16 : zI cX0_nextBack 16 (.isub) 1 17 := ⟨by decide +kernel, rfl⟩
theorem iX0_nextBack_12 : zI cX0_nextBack 12 (.iload_n 1) 1 13 := ⟨by decide +kernel, rfl⟩
theorem iX0_nextBack_9 : zI cX0_nextBack 9 (.getfield 15) 3 12 := ⟨by decide +kernel, rfl⟩
theorem iX0_nextBack_8 : zI cX0_nextBack 8 (.aload_n 0) 1 9 := ⟨by decide +kernel, rfl⟩
theorem iX0_nextBack_4 : zI cX0_nextBack 4 (.iload_n 1) 1 5 := ⟨by decide +kernel, rfl⟩
theorem iX0_nextBack_1 : zI cX0_nextBack 1 (.getfield 15) 3 4 := ⟨by decide +kernel, rfl⟩
theorem iX0_nextBack_0 : zI cX0_nextBack 0 (.aload_n 0) 1 1 := ⟨by decide +kernel, rfl⟩
set_option maxHeartbeats 4000000 in
set_option maxRecDepth 100000 in
theorem m_Co_nextBack (c g : Nat) (hc : isC c g) (hg : isG g) (x1 : Int32) (h : zH) : zM yX0_nextBack cX0_nextBack 5 (some .int) 2 shX (fun ad => [.ref (ad c), .int x1]) h (eP h) (Co_nextBack c g x1 h) := by
  refine zM.of (by decide) (fun _ => rfl) (fun _ => Nat.le_of_ble_eq_true rfl) (fun X ad hnL C => ?_)
  show zG X ad shX (eP h) 0 [some (.ref (ad c)), some (.int x1), none, none, none] [] h _
  unfold Co_nextBack
  refine g_aload_n C iX0_nextBack_0 rfl ?_
  refine g_getR (b := g) C fX0_15 iX0_nextBack_1 hc rfl ?_
  refine g_iload_n C iX0_nextBack_4 rfl ?_
  refine g_callV C wX0_148 iX0_nextBack_5 (m_Gr_capOf g hg x1 h) (by decide) hg.1 rfl rfl rfl rfl (Nat.le_of_ble_eq_true rfl) (fun r => ?_)
  show zG X ad shX (eP h) 8 [some (.ref (ad c)), some (.int x1), none, none, none] [.int r] h _
  refine g_aload_n C iX0_nextBack_8 rfl ?_
  refine g_getR (b := g) C fX0_15 iX0_nextBack_9 hc rfl ?_
  refine g_iload_n C iX0_nextBack_12 rfl ?_
  refine g_callV C wX0_64 iX0_nextBack_13 (m_Gr_loadOf g hg x1 h) (by decide) hg.1 rfl rfl rfl rfl (Nat.le_of_ble_eq_true rfl) (fun r_1 => ?_)
  show zG X ad shX (eP h) 16 [some (.ref (ad c)), some (.int x1), none, none, none] [.int r_1, .int r] h _
  refine g_isub C iX0_nextBack_16 ?_
  refine g_top (fun x2 => ?_)
  refine g_istore_n (lv' := [some (.ref (ad c)), some (.int x1), some (.int x2), none, none]) C hnL iX0_nextBack_17 (by decide) rfl ?_
  refine g_aload_n C iX0_nextBack_18 rfl ?_
  refine g_getR (b := g) C fX0_15 iX0_nextBack_19 hc rfl ?_
  refine g_getI C fX0_151 iX0_nextBack_22 hg.1 rfl ?_
  refine g_iconst C 1 iX0_nextBack_25 (by decide) ?_
  refine g_isub C iX0_nextBack_26 ?_
  refine g_top (fun x3 => ?_)
  refine g_istore_n (lv' := [some (.ref (ad c)), some (.int x1), some (.int x2), some (.int x3), none]) C hnL iX0_nextBack_27 (by decide) rfl ?_
  have L28 : ∀ (k79 : Int32 → Option (Int32)), (∀ (y4 : Int32), zG X ad shX (eP h) 79 [none, none, none, none, some (.int y4)] [] h (k79 y4)) → ∀ (k88 : Option (Int32)), (zG X ad shX (eP h) 88 [none, none, none, none, none] [] h (k88)) → ∀ (n : Nat) (x3_1 : Int32), zG X ad shX (eP h) 28 [some (.ref (ad c)), some (.int x1), some (.int x2), some (.int x3_1), none] [] h (Co_nextBack_L28 g x1 h x2 k79 k88 n x3_1) := by
    intro k79 hk79 k88 hk88 n
    induction n with
    | zero =>
      intro x3_1
      exact g_none
    | succ n ih28 =>
      intro x3_1
      rw [Co_nextBack_L28]
      refine g_iload_n C iX0_nextBack_28 rfl ?_
      refine g_if_lt C 88 iX0_nextBack_29 (by decide) (fun c29 => ?_) (fun c29 => ?_)
      · refine g_sub (lv' := [none, none, none, none, none]) trivial ?_
        exact hk88
      · refine g_aload_n C iX0_nextBack_32 rfl ?_
        refine g_getR (b := g) C fX0_15 iX0_nextBack_33 hc rfl ?_
        refine g_getR (b := (g + 6)) C fX0_154 iX0_nextBack_36 hg.1 rfl ?_
        refine g_iload_n C iX0_nextBack_39 rfl ?_
        refine g_iaload C iX0_nextBack_40 hg.2.2.2.2.2.2.1 ?_
        refine g_top (fun x4 => ?_)
        refine g_istore (lv' := [some (.ref (ad c)), some (.int x1), some (.int x2), some (.int x3_1), some (.int x4)]) C hnL iX0_nextBack_41 (by decide) rfl ?_
        refine g_aload_n C iX0_nextBack_43 rfl ?_
        refine g_getR (b := g) C fX0_15 iX0_nextBack_44 hc rfl ?_
        refine g_getR (b := (g + 1)) C fX0_39 iX0_nextBack_47 hg.1 rfl ?_
        refine g_aload_n C iX0_nextBack_50 rfl ?_
        refine g_getR (b := 17) C fX0_9 iX0_nextBack_51 hc rfl ?_
        refine g_getR (b := 24) C fX0_157 iX0_nextBack_54 isP17.1 rfl ?_
        refine g_iload C iX0_nextBack_57 rfl ?_
        refine g_iaload C iX0_nextBack_59 isP17.2.2.2.2.2.2.2.1 ?_
        refine g_iaload C iX0_nextBack_60 hg.2.1 ?_
        refine g_iload_n C iX0_nextBack_61 rfl ?_
        refine g_icmp_ne C 82 iX0_nextBack_62 (by decide) (fun c62 => ?_) (fun c62 => ?_)
        · refine g_aload_n C iX0_nextBack_65 rfl ?_
          refine g_getR (b := 17) C fX0_9 iX0_nextBack_66 hc rfl ?_
          refine g_getR (b := 25) C fX0_124 iX0_nextBack_69 isP17.1 rfl ?_
          refine g_iload C iX0_nextBack_72 rfl ?_
          refine g_iaload C iX0_nextBack_74 isP17.2.2.2.2.2.2.2.2.1 ?_
          refine g_iload_n C iX0_nextBack_75 rfl ?_
          refine g_icmp_gt C 82 iX0_nextBack_76 (by decide) (fun c76 => ?_) (fun c76 => ?_)
          · refine g_iinc (v := (x3_1 + (-1))) (lv' := [some (.ref (ad c)), some (.int x1), some (.int x2), some (.int (x3_1 + (-1))), some (.int x4)]) C hnL iX0_nextBack_82 (by decide) rfl rfl rfl ?_
            refine g_goto C 28 iX0_nextBack_85 (by decide) ?_
            refine g_sub (lv' := [some (.ref (ad c)), some (.int x1), some (.int x2), some (.int (x3_1 + (-1))), none]) ⟨rfl, ⟨rfl, ⟨rfl, ⟨rfl, trivial⟩⟩⟩⟩ ?_
            exact ih28 _
          · refine g_sub (lv' := [none, none, none, none, some (.int x4)]) ⟨rfl, trivial⟩ ?_
            exact hk79 _
        · refine g_iinc (v := (x3_1 + (-1))) (lv' := [some (.ref (ad c)), some (.int x1), some (.int x2), some (.int (x3_1 + (-1))), some (.int x4)]) C hnL iX0_nextBack_82 (by decide) rfl rfl rfl ?_
          refine g_goto C 28 iX0_nextBack_85 (by decide) ?_
          refine g_sub (lv' := [some (.ref (ad c)), some (.int x1), some (.int x2), some (.int (x3_1 + (-1))), none]) ⟨rfl, ⟨rfl, ⟨rfl, ⟨rfl, trivial⟩⟩⟩⟩ ?_
          exact ih28 _
  refine L28 _ (fun x4_1 => ?_) _ (?_) 1000 _
  · show zG X ad shX (eP h) 79 [none, none, none, none, some (.int x4_1)] [] h _
    refine g_iload C iX0_nextBack_79 rfl ?_
    exact g_iret C iX0_nextBack_81 rfl
  · show zG X ad shX (eP h) 88 [none, none, none, none, none] [] h _
    refine g_iconst C (-1) iX0_nextBack_88 (by decide) ?_
    exact g_iret C iX0_nextBack_89 rfl

