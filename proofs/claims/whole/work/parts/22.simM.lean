theorem iX7_plants_13 : zI cX7_plants 13 (.if_icmp .ge 65) 3 16 := ⟨by decide +kernel, rfl⟩
theorem iX7_plants_26 : zI cX7_plants 26 (.invokestatic 66) 3 29 := ⟨by decide +kernel, rfl⟩
theorem iX7_plants_29 : zI cX7_plants 29 (.ifCond .eq 43) 3 32 := ⟨by decide +kernel, rfl⟩
theorem iX7_plants_75 : zI cX7_plants 75 (.goto (-70)) 3 78 := ⟨by decide +kernel, rfl⟩
theorem iX7_plants_72 : zI cX7_plants 72 (.iinc 4 1) 3 75 := ⟨by decide +kernel, rfl⟩
theorem iX7_plants_34 : zI cX7_plants 34 (.ifCond .ne 16) 3 37 := ⟨by decide +kernel, rfl⟩
theorem iX7_plants_52 : zI cX7_plants 52 (.if_icmp .ne 7) 3 55 := ⟨by decide +kernel, rfl⟩
theorem iX7_plants_71 : zI cX7_plants 71 (.istore_n 3) 1 72 := ⟨by decide +kernel, rfl⟩
theorem iX7_plants_70 : zI cX7_plants 70 (.iadd) 1 71 := ⟨by decide +kernel, rfl⟩
theorem iX7_plants_69 : zI cX7_plants 69 (.iaload) 1 70 := ⟨by decide +kernel, rfl⟩
theorem iX7_plants_68 : zI cX7_plants 68 (.iadd) 1 69 := ⟨by decide +kernel, rfl⟩
theorem iX7_plants_67 : zI cX7_plants 67 (.iload_n 2) 1 68 := ⟨by decide +kernel, rfl⟩
theorem iX7_plants_66 : zI cX7_plants 66 (.imul) 1 67 := ⟨by decide +kernel, rfl⟩
theorem iX7_plants_64 : zI cX7_plants 64 (.iload 4) 2 66 := ⟨by decide +kernel, rfl⟩
theorem iX7_plants_63 : zI cX7_plants 63 (.iconst 4) 1 64 := ⟨by decide +kernel, rfl⟩
theorem iX7_plants_60 : zI cX7_plants 60 (.getfield 19) 3 63 := ⟨by decide +kernel, rfl⟩
theorem iX7_plants_59 : zI cX7_plants 59 (.aload_n 0) 1 60 := ⟨by decide +kernel, rfl⟩
theorem iX7_plants_56 : zI cX7_plants 56 (.goto 14) 3 59 := ⟨by decide +kernel, rfl⟩
theorem iX7_plants_55 : zI cX7_plants 55 (.iconst 1) 1 56 := ⟨by decide +kernel, rfl⟩
theorem iX7_plants_51 : zI cX7_plants 51 (.iconst 4) 1 52 := ⟨by decide +kernel, rfl⟩
theorem iX7_plants_50 : zI cX7_plants 50 (.iload_n 2) 1 51 := ⟨by decide +kernel, rfl⟩
theorem iX7_plants_47 : zI cX7_plants 47 (.goto 23) 3 50 := ⟨by decide +kernel, rfl⟩
theorem iX7_plants_46 : zI cX7_plants 46 (.iaload) 1 47 := ⟨by decide +kernel, rfl⟩
theorem iX7_plants_45 : zI cX7_plants 45 (.iadd) 1 46 := ⟨by decide +kernel, rfl⟩
theorem iX7_plants_43 : zI cX7_plants 43 (.iload 4) 2 45 := ⟨by decide +kernel, rfl⟩
theorem iX7_plants_41 : zI cX7_plants 41 (.bipush 44) 2 43 := ⟨by decide +kernel, rfl⟩
theorem iX7_plants_38 : zI cX7_plants 38 (.getfield 28) 3 41 := ⟨by decide +kernel, rfl⟩
theorem iX7_plants_37 : zI cX7_plants 37 (.aload_n 0) 1 38 := ⟨by decide +kernel, rfl⟩
theorem iX7_plants_33 : zI cX7_plants 33 (.iload_n 2) 1 34 := ⟨by decide +kernel, rfl⟩
theorem iX7_plants_32 : zI cX7_plants 32 (.iload_n 3) 1 33 := ⟨by decide +kernel, rfl⟩
theorem iX7_plants_25 : zI cX7_plants 25 (.iaload) 1 26 := ⟨by decide +kernel, rfl⟩
theorem iX7_plants_24 : zI cX7_plants 24 (.imul) 1 25 := ⟨by decide +kernel, rfl⟩
theorem iX7_plants_22 : zI cX7_plants 22 (.iload 4) 2 24 := ⟨by decide +kernel, rfl⟩
theorem iX7_plants_21 : zI cX7_plants 21 (.iconst 4) 1 22 := ⟨by decide +kernel, rfl⟩
theorem iX7_plants_18 : zI cX7_plants 18 (.getfield 19) 3 21 := ⟨by decide +kernel, rfl⟩
theorem iX7_plants_17 : zI cX7_plants 17 (.aload_n 0) 1 18 := ⟨by decide +kernel, rfl⟩
theorem iX7_plants_16 : zI cX7_plants 16 (.iload_n 1) 1 17 := ⟨by decide +kernel, rfl⟩
theorem iX7_plants_12 : zI cX7_plants 12 (.iaload) 1 13 := ⟨by decide +kernel, rfl⟩
theorem iX7_plants_11 : zI cX7_plants 11 (.iconst 2) 1 12 := ⟨by decide +kernel, rfl⟩
theorem iX7_plants_8 : zI cX7_plants 8 (.getfield 13) 3 11 := ⟨by decide +kernel, rfl⟩
theorem iX7_plants_7 : zI cX7_plants 7 (.aload_n 0) 1 8 := ⟨by decide +kernel, rfl⟩
theorem iX7_plants_5 : zI cX7_plants 5 (.iload 4) 2 7 := ⟨by decide +kernel, rfl⟩
theorem iX7_plants_79 : zI cX7_plants 79 (.ireturn) 1 80 := ⟨by decide +kernel, rfl⟩
theorem iX7_plants_78 : zI cX7_plants 78 (.iload_n 3) 1 79 := ⟨by decide +kernel, rfl⟩
theorem iX7_plants_3 : zI cX7_plants 3 (.istore 4) 2 5 := ⟨by decide +kernel, rfl⟩
theorem iX7_plants_2 : zI cX7_plants 2 (.iconst 0) 1 3 := ⟨by decide +kernel, rfl⟩
theorem iX7_plants_1 : zI cX7_plants 1 (.istore_n 3) 1 2 := ⟨by decide +kernel, rfl⟩
theorem iX7_plants_0 : zI cX7_plants 0 (.iconst 0) 1 1 := ⟨by decide +kernel, rfl⟩
set_option maxHeartbeats 4000000 in
set_option maxRecDepth 100000 in
theorem m_Mo_plants (x1 : Int32) (x2 : Int32) (h : zH) : zM yX7_plants cX7_plants 5 (some .int) 1 shM (fun ad => [.ref (ad 0), .int x1, .int x2]) h (eP h) (Mo_plants x1 x2 h) := by
  refine zM.of (by decide) (fun _ => rfl) (fun _ => Nat.le_of_ble_eq_true rfl) (fun X ad hnL C => ?_)
  show zG X ad shM (eP h) 0 [some (.ref (ad 0)), some (.int x1), some (.int x2), none, none] [] h _
  unfold Mo_plants
  refine g_iconst C 0 iX7_plants_0 (by decide) ?_
  refine g_istore_n (lv' := [some (.ref (ad 0)), some (.int x1), some (.int x2), some (.int 0), none]) C hnL iX7_plants_1 (by decide) rfl ?_
  refine g_iconst C 0 iX7_plants_2 (by decide) ?_
  refine g_istore (lv' := [some (.ref (ad 0)), some (.int x1), some (.int x2), some (.int 0), some (.int 0)]) C hnL iX7_plants_3 (by decide) rfl ?_
  have L5 : ∀ (k78 : Int32 → Option (Int32)), (∀ (y3 : Int32), zG X ad shM (eP h) 78 [none, none, none, some (.int y3), none] [] h (k78 y3)) → ∀ (n : Nat) (x3 x4 : Int32), zG X ad shM (eP h) 5 [some (.ref (ad 0)), some (.int x1), some (.int x2), some (.int x3), some (.int x4)] [] h (Mo_plants_L5 x1 x2 h k78 n x3 x4) := by
    intro k78 hk78 n
    induction n with
    | zero =>
      intro x3 x4
      exact g_none
    | succ n ih5 =>
      intro x3 x4
      rw [Mo_plants_L5]
      refine g_iload C iX7_plants_5 rfl ?_
      refine g_aload_n C iX7_plants_7 rfl ?_
      refine g_getR (b := 2) C fX7_13 iX7_plants_8 mh0 rfl ?_
      refine g_iconst C 2 iX7_plants_11 (by decide) ?_
      refine g_ialoadL C 2 iX7_plants_12 mh2 (by decide) (by decide) ?_
      refine g_icmp_ge C 78 iX7_plants_13 (by decide) (fun c13 => ?_) (fun c13 => ?_)
      · refine g_sub (lv' := [none, none, none, some (.int x3), none]) ⟨rfl, trivial⟩ ?_
        exact hk78 _
      · refine g_iload_n C iX7_plants_16 rfl ?_
        refine g_aload_n C iX7_plants_17 rfl ?_
        refine g_getR (b := 4) C fX7_19 iX7_plants_18 mh0 rfl ?_
        refine g_iconst C 4 iX7_plants_21 (by decide) ?_
        refine g_iload C iX7_plants_22 rfl ?_
        refine g_imul C iX7_plants_24 ?_
        refine g_iaload C iX7_plants_25 mh4 ?_
        refine g_callS C wX7_66 iX7_plants_26 (m_Mo_has x1 (h 4 (4 * x4).toNatClampNeg) h) (by decide) rfl rfl rfl (Nat.le_of_ble_eq_true rfl) (fun r => ?_)
        show zG X ad shM (eP h) 29 [some (.ref (ad 0)), some (.int x1), some (.int x2), some (.int x3), some (.int x4)] [.int r] h _
        refine g_if_eq C 72 iX7_plants_29 (by decide) (fun c29 => ?_) (fun c29 => ?_)
        · refine g_iinc (v := (x4 + 1)) (lv' := [some (.ref (ad 0)), some (.int x1), some (.int x2), some (.int x3), some (.int (x4 + 1))]) C hnL iX7_plants_72 (by decide) rfl rfl rfl ?_
          refine g_goto C 5 iX7_plants_75 (by decide) ?_
          exact ih5 _ _
        · refine g_iload_n C iX7_plants_32 rfl ?_
          refine g_iload_n C iX7_plants_33 rfl ?_
          refine g_if_ne C 50 iX7_plants_34 (by decide) (fun c34 => ?_) (fun c34 => ?_)
          · refine g_aload_n C iX7_plants_37 rfl ?_
            refine g_getR (b := 7) C fX7_28 iX7_plants_38 mh0 rfl ?_
            refine g_bipush C 44 iX7_plants_41 (by decide) ?_
            refine g_iload C iX7_plants_43 rfl ?_
            refine g_iadd C iX7_plants_45 ?_
            refine g_iaload C iX7_plants_46 mh7 ?_
            refine g_goto C 70 iX7_plants_47 (by decide) ?_
            refine g_iadd C iX7_plants_70 ?_
            refine g_top (fun x3_3 => ?_)
            refine g_istore_n (lv' := [some (.ref (ad 0)), some (.int x1), some (.int x2), some (.int x3_3), some (.int x4)]) C hnL iX7_plants_71 (by decide) rfl ?_
            refine g_iinc (v := (x4 + 1)) (lv' := [some (.ref (ad 0)), some (.int x1), some (.int x2), some (.int x3_3), some (.int (x4 + 1))]) C hnL iX7_plants_72 (by decide) rfl rfl rfl ?_
            refine g_goto C 5 iX7_plants_75 (by decide) ?_
            exact ih5 _ _
          · refine g_iload_n C iX7_plants_50 rfl ?_
            refine g_iconst C 4 iX7_plants_51 (by decide) ?_
            refine g_icmp_ne C 59 iX7_plants_52 (by decide) (fun c52 => ?_) (fun c52 => ?_)
            · refine g_iconst C 1 iX7_plants_55 (by decide) ?_
              refine g_goto C 70 iX7_plants_56 (by decide) ?_
              refine g_iadd C iX7_plants_70 ?_
              refine g_top (fun x3_2 => ?_)
              refine g_istore_n (lv' := [some (.ref (ad 0)), some (.int x1), some (.int x2), some (.int x3_2), some (.int x4)]) C hnL iX7_plants_71 (by decide) rfl ?_
              refine g_iinc (v := (x4 + 1)) (lv' := [some (.ref (ad 0)), some (.int x1), some (.int x2), some (.int x3_2), some (.int (x4 + 1))]) C hnL iX7_plants_72 (by decide) rfl rfl rfl ?_
              refine g_goto C 5 iX7_plants_75 (by decide) ?_
              exact ih5 _ _
            · refine g_aload_n C iX7_plants_59 rfl ?_
              refine g_getR (b := 4) C fX7_19 iX7_plants_60 mh0 rfl ?_
              refine g_iconst C 4 iX7_plants_63 (by decide) ?_
              refine g_iload C iX7_plants_64 rfl ?_
              refine g_imul C iX7_plants_66 ?_
              refine g_iload_n C iX7_plants_67 rfl ?_
              refine g_iadd C iX7_plants_68 ?_
              refine g_iaload C iX7_plants_69 mh4 ?_
              refine g_iadd C iX7_plants_70 ?_
              refine g_top (fun x3_1 => ?_)
              refine g_istore_n (lv' := [some (.ref (ad 0)), some (.int x1), some (.int x2), some (.int x3_1), some (.int x4)]) C hnL iX7_plants_71 (by decide) rfl ?_
              refine g_iinc (v := (x4 + 1)) (lv' := [some (.ref (ad 0)), some (.int x1), some (.int x2), some (.int x3_1), some (.int (x4 + 1))]) C hnL iX7_plants_72 (by decide) rfl rfl rfl ?_
              refine g_goto C 5 iX7_plants_75 (by decide) ?_
              exact ih5 _ _
  refine L5 _ (fun x3_4 => ?_) 1000 _ _
  show zG X ad shM (eP h) 78 [none, none, none, some (.int x3_4), none] [] h _
  refine g_iload_n C iX7_plants_78 rfl ?_
  exact g_iret C iX7_plants_79 rfl

theorem iX7_aim_2 : zI cX7_aim 2 (.invokevirtual 63) 3 5 := ⟨by decide +kernel, rfl⟩
theorem iX7_aim_14 : zI cX7_aim 14 (.ireturn) 1 15 := ⟨by decide +kernel, rfl⟩
theorem iX7_aim_13 : zI cX7_aim 13 (.iadd) 1 14 := ⟨by decide +kernel, rfl⟩
theorem iX7_aim_12 : zI cX7_aim 12 (.idiv) 1 13 := ⟨by decide +kernel, rfl⟩
theorem iX7_aim_10 : zI cX7_aim 10 (.bipush 20) 2 12 := ⟨by decide +kernel, rfl⟩
theorem iX7_aim_9 : zI cX7_aim 9 (.isub) 1 10 := ⟨by decide +kernel, rfl⟩
theorem iX7_aim_8 : zI cX7_aim 8 (.iload_n 2) 1 9 := ⟨by decide +kernel, rfl⟩
theorem iX7_aim_5 : zI cX7_aim 5 (.sipush 5000) 3 8 := ⟨by decide +kernel, rfl⟩
theorem iX7_aim_1 : zI cX7_aim 1 (.iload_n 1) 1 2 := ⟨by decide +kernel, rfl⟩
theorem iX7_aim_0 : zI cX7_aim 0 (.aload_n 0) 1 1 := ⟨by decide +kernel, rfl⟩
set_option maxHeartbeats 4000000 in
set_option maxRecDepth 100000 in
theorem m_Mo_aim (x1 : Int32) (x2 : Int32) (h : zH) : zM yX7_aim cX7_aim 3 (some .int) 2 shM (fun ad => [.ref (ad 0), .int x1, .int x2]) h (eP h) (Mo_aim x1 x2 h) := by
  refine zM.of (by decide) (fun _ => rfl) (fun _ => Nat.le_of_ble_eq_true rfl) (fun X ad hnL C => ?_)
  show zG X ad shM (eP h) 0 [some (.ref (ad 0)), some (.int x1), some (.int x2)] [] h _
  unfold Mo_aim
  refine g_aload_n C iX7_aim_0 rfl ?_
  refine g_iload_n C iX7_aim_1 rfl ?_
  refine g_callV C wX7_63 iX7_aim_2 (m_Mo_load x1 h) (by decide) mh0 rfl rfl rfl rfl (Nat.le_of_ble_eq_true rfl) (fun r => ?_)
  show zG X ad shM (eP h) 5 [some (.ref (ad 0)), some (.int x1), some (.int x2)] [.int r] h _
  refine g_sipush C 5000 iX7_aim_5 (by decide) ?_
  refine g_iload_n C iX7_aim_8 rfl ?_
  refine g_isub C iX7_aim_9 ?_
  refine g_bipush C 20 iX7_aim_10 (by decide) ?_
  refine g_idivL C iX7_aim_12 (by decide) ?_
  refine g_iadd C iX7_aim_13 ?_
  exact g_iret C iX7_aim_14 rfl

theorem iX7_frequency_9 : zI cX7_frequency 9 (.if_icmp .ge 33) 3 12 := ⟨by decide +kernel, rfl⟩
theorem iX7_frequency_19 : zI cX7_frequency 19 (.invokestatic 66) 3 22 := ⟨by decide +kernel, rfl⟩
theorem iX7_frequency_22 : zI cX7_frequency 22 (.ifCond .eq 7) 3 25 := ⟨by decide +kernel, rfl⟩
theorem iX7_frequency_39 : zI cX7_frequency 39 (.goto (-37)) 3 42 := ⟨by decide +kernel, rfl⟩
theorem iX7_frequency_36 : zI cX7_frequency 36 (.iinc 3 1) 3 39 := ⟨by decide +kernel, rfl⟩
theorem iX7_frequency_35 : zI cX7_frequency 35 (.iastore) 1 36 := ⟨by decide +kernel, rfl⟩
theorem iX7_frequency_34 : zI cX7_frequency 34 (.iaload) 1 35 := ⟨by decide +kernel, rfl⟩
theorem iX7_frequency_33 : zI cX7_frequency 33 (.iload_n 3) 1 34 := ⟨by decide +kernel, rfl⟩
theorem iX7_frequency_30 : zI cX7_frequency 30 (.getfield 28) 3 33 := ⟨by decide +kernel, rfl⟩
theorem iX7_frequency_29 : zI cX7_frequency 29 (.aload_n 0) 1 30 := ⟨by decide +kernel, rfl⟩
theorem iX7_frequency_26 : zI cX7_frequency 26 (.goto 9) 3 29 := ⟨by decide +kernel, rfl⟩
theorem iX7_frequency_25 : zI cX7_frequency 25 (.iload_n 2) 1 26 := ⟨by decide +kernel, rfl⟩
theorem iX7_frequency_18 : zI cX7_frequency 18 (.iload_n 3) 1 19 := ⟨by decide +kernel, rfl⟩
theorem iX7_frequency_17 : zI cX7_frequency 17 (.iload_n 1) 1 18 := ⟨by decide +kernel, rfl⟩
theorem iX7_frequency_16 : zI cX7_frequency 16 (.iload_n 3) 1 17 := ⟨by decide +kernel, rfl⟩
theorem iX7_frequency_13 : zI cX7_frequency 13 (.getfield 28) 3 16 := ⟨by decide +kernel, rfl⟩
theorem iX7_frequency_12 : zI cX7_frequency 12 (.aload_n 0) 1 13 := ⟨by decide +kernel, rfl⟩
theorem iX7_frequency_8 : zI cX7_frequency 8 (.iaload) 1 9 := ⟨by decide +kernel, rfl⟩
theorem iX7_frequency_7 : zI cX7_frequency 7 (.iconst 0) 1 8 := ⟨by decide +kernel, rfl⟩
theorem iX7_frequency_4 : zI cX7_frequency 4 (.getfield 13) 3 7 := ⟨by decide +kernel, rfl⟩
theorem iX7_frequency_3 : zI cX7_frequency 3 (.aload_n 0) 1 4 := ⟨by decide +kernel, rfl⟩
theorem iX7_frequency_2 : zI cX7_frequency 2 (.iload_n 3) 1 3 := ⟨by decide +kernel, rfl⟩
theorem iX7_frequency_42 : zI cX7_frequency 42 (.return_) 1 43 := ⟨by decide +kernel, rfl⟩
theorem iX7_frequency_1 : zI cX7_frequency 1 (.istore_n 3) 1 2 := ⟨by decide +kernel, rfl⟩
theorem iX7_frequency_0 : zI cX7_frequency 0 (.iconst 0) 1 1 := ⟨by decide +kernel, rfl⟩
set_option maxHeartbeats 4000000 in
set_option maxRecDepth 100000 in
theorem m_Mo_frequency (x1 : Int32) (x2 : Int32) (h : zH) : zM yX7_frequency cX7_frequency 4 none 1 shM (fun ad => [.ref (ad 0), .int x1, .int x2]) h eV (Mo_frequency x1 x2 h) := by
  refine zM.of (by decide) (fun _ => rfl) (fun _ => Nat.le_of_ble_eq_true rfl) (fun X ad hnL C => ?_)
  show zG X ad shM eV 0 [some (.ref (ad 0)), some (.int x1), some (.int x2), none] [] h _
  unfold Mo_frequency
  refine g_iconst C 0 iX7_frequency_0 (by decide) ?_
  refine g_istore_n (lv' := [some (.ref (ad 0)), some (.int x1), some (.int x2), some (.int 0)]) C hnL iX7_frequency_1 (by decide) rfl ?_
  have L2 : ∀ (k42 : zH → Option (zH)), (∀ (hy : zH), zG X ad shM eV 42 [none, none, none, none] [] hy (k42 hy)) → ∀ (n : Nat) (x3 : Int32) (h_1 : zH), zG X ad shM eV 2 [some (.ref (ad 0)), some (.int x1), some (.int x2), some (.int x3)] [] h_1 (Mo_frequency_L2 x1 x2 k42 n x3 h_1) := by
    intro k42 hk42 n
    induction n with
    | zero =>
      intro x3 h_1
      exact g_none
    | succ n ih2 =>
      intro x3 h_1
      rw [Mo_frequency_L2]
      refine g_iload_n C iX7_frequency_2 rfl ?_
      refine g_aload_n C iX7_frequency_3 rfl ?_
      refine g_getR (b := 2) C fX7_13 iX7_frequency_4 mh0 rfl ?_
      refine g_iconst C 0 iX7_frequency_7 (by decide) ?_
      refine g_ialoadL C 0 iX7_frequency_8 mh2 (by decide) (by decide) ?_
      refine g_icmp_ge C 42 iX7_frequency_9 (by decide) (fun c9 => ?_) (fun c9 => ?_)
      · refine g_sub (lv' := [none, none, none, none]) trivial ?_
        exact hk42 _
      · refine g_aload_n C iX7_frequency_12 rfl ?_
        refine g_getR (b := 7) C fX7_28 iX7_frequency_13 mh0 rfl ?_
        refine g_iload_n C iX7_frequency_16 rfl ?_
        refine g_iload_n C iX7_frequency_17 rfl ?_
        refine g_iload_n C iX7_frequency_18 rfl ?_
        refine g_callS C wX7_66 iX7_frequency_19 (m_Mo_has x1 x3 h_1) (by decide) rfl rfl rfl (Nat.le_of_ble_eq_true rfl) (fun r => ?_)
        show zG X ad shM eV 22 [some (.ref (ad 0)), some (.int x1), some (.int x2), some (.int x3)] [.int r, .int x3, .ref (ad 7)] h_1 _
        refine g_if_eq C 29 iX7_frequency_22 (by decide) (fun c22 => ?_) (fun c22 => ?_)
        · refine g_aload_n C iX7_frequency_29 rfl ?_
          refine g_getR (b := 7) C fX7_28 iX7_frequency_30 mh0 rfl ?_
          refine g_iload_n C iX7_frequency_33 rfl ?_
          refine g_iaload C iX7_frequency_34 mh7 ?_
          refine g_iastore C iX7_frequency_35 mh7 (fun h_2 => ?_)
          refine g_iinc (v := (x3 + 1)) (lv' := [some (.ref (ad 0)), some (.int x1), some (.int x2), some (.int (x3 + 1))]) C hnL iX7_frequency_36 (by decide) rfl rfl rfl ?_
          refine g_goto C 2 iX7_frequency_39 (by decide) ?_
          exact ih2 _ _
        · refine g_iload_n C iX7_frequency_25 rfl ?_
          refine g_goto C 35 iX7_frequency_26 (by decide) ?_
          refine g_iastore C iX7_frequency_35 mh7 (fun h_3 => ?_)
          refine g_iinc (v := (x3 + 1)) (lv' := [some (.ref (ad 0)), some (.int x1), some (.int x2), some (.int (x3 + 1))]) C hnL iX7_frequency_36 (by decide) rfl rfl rfl ?_
          refine g_goto C 2 iX7_frequency_39 (by decide) ?_
          exact ih2 _ _
  refine L2 _ (fun h_4 => ?_) 1000 _ _
  show zG X ad shM eV 42 [none, none, none, none] [] h_4 _
  exact g_vret C iX7_frequency_42 rfl

theorem iX7_counts_11 : zI cX7_counts 11 (.if_icmp .ge 48) 3 14 := ⟨by decide +kernel, rfl⟩
theorem iX7_counts_35 : zI cX7_counts 35 (.invokestatic 66) 3 38 := ⟨by decide +kernel, rfl⟩
theorem iX7_counts_38 : zI cX7_counts 38 (.ifCond .eq 7) 3 41 := ⟨by decide +kernel, rfl⟩
theorem iX7_counts_56 : zI cX7_counts 56 (.goto (-53)) 3 59 := ⟨by decide +kernel, rfl⟩
theorem iX7_counts_53 : zI cX7_counts 53 (.iinc 4 1) 3 56 := ⟨by decide +kernel, rfl⟩
theorem iX7_counts_52 : zI cX7_counts 52 (.iastore) 1 53 := ⟨by decide +kernel, rfl⟩
theorem iX7_counts_51 : zI cX7_counts 51 (.iaload) 1 52 := ⟨by decide +kernel, rfl⟩
theorem iX7_counts_49 : zI cX7_counts 49 (.iload 5) 2 51 := ⟨by decide +kernel, rfl⟩
theorem iX7_counts_46 : zI cX7_counts 46 (.getfield 28) 3 49 := ⟨by decide +kernel, rfl⟩
theorem iX7_counts_45 : zI cX7_counts 45 (.aload_n 0) 1 46 := ⟨by decide +kernel, rfl⟩
theorem iX7_counts_42 : zI cX7_counts 42 (.goto 10) 3 45 := ⟨by decide +kernel, rfl⟩
theorem iX7_counts_41 : zI cX7_counts 41 (.iload_n 3) 1 42 := ⟨by decide +kernel, rfl⟩
theorem iX7_counts_33 : zI cX7_counts 33 (.iload 4) 2 35 := ⟨by decide +kernel, rfl⟩
theorem iX7_counts_32 : zI cX7_counts 32 (.iload_n 1) 1 33 := ⟨by decide +kernel, rfl⟩
theorem iX7_counts_30 : zI cX7_counts 30 (.iload 5) 2 32 := ⟨by decide +kernel, rfl⟩
theorem iX7_counts_27 : zI cX7_counts 27 (.getfield 28) 3 30 := ⟨by decide +kernel, rfl⟩
theorem iX7_counts_26 : zI cX7_counts 26 (.aload_n 0) 1 27 := ⟨by decide +kernel, rfl⟩
theorem iX7_counts_24 : zI cX7_counts 24 (.istore 5) 2 26 := ⟨by decide +kernel, rfl⟩
theorem iX7_counts_23 : zI cX7_counts 23 (.iadd) 1 24 := ⟨by decide +kernel, rfl⟩
theorem iX7_counts_22 : zI cX7_counts 22 (.iload_n 2) 1 23 := ⟨by decide +kernel, rfl⟩
theorem iX7_counts_21 : zI cX7_counts 21 (.iadd) 1 22 := ⟨by decide +kernel, rfl⟩
theorem iX7_counts_20 : zI cX7_counts 20 (.imul) 1 21 := ⟨by decide +kernel, rfl⟩
theorem iX7_counts_18 : zI cX7_counts 18 (.iload 4) 2 20 := ⟨by decide +kernel, rfl⟩
theorem iX7_counts_16 : zI cX7_counts 16 (.bipush 6) 2 18 := ⟨by decide +kernel, rfl⟩
theorem iX7_counts_14 : zI cX7_counts 14 (.bipush 6) 2 16 := ⟨by decide +kernel, rfl⟩
theorem iX7_counts_10 : zI cX7_counts 10 (.iaload) 1 11 := ⟨by decide +kernel, rfl⟩
theorem iX7_counts_9 : zI cX7_counts 9 (.iconst 0) 1 10 := ⟨by decide +kernel, rfl⟩
theorem iX7_counts_6 : zI cX7_counts 6 (.getfield 13) 3 9 := ⟨by decide +kernel, rfl⟩
theorem iX7_counts_5 : zI cX7_counts 5 (.aload_n 0) 1 6 := ⟨by decide +kernel, rfl⟩
theorem iX7_counts_3 : zI cX7_counts 3 (.iload 4) 2 5 := ⟨by decide +kernel, rfl⟩
theorem iX7_counts_59 : zI cX7_counts 59 (.return_) 1 60 := ⟨by decide +kernel, rfl⟩
theorem iX7_counts_1 : zI cX7_counts 1 (.istore 4) 2 3 := ⟨by decide +kernel, rfl⟩
theorem iX7_counts_0 : zI cX7_counts 0 (.iconst 0) 1 1 := ⟨by decide +kernel, rfl⟩
set_option maxHeartbeats 4000000 in
set_option maxRecDepth 100000 in
theorem m_Mo_counts (x1 : Int32) (x2 : Int32) (x3 : Int32) (h : zH) : zM yX7_counts cX7_counts 6 none 1 shM (fun ad => [.ref (ad 0), .int x1, .int x2, .int x3]) h eV (Mo_counts x1 x2 x3 h) := by
  refine zM.of (by decide) (fun _ => rfl) (fun _ => Nat.le_of_ble_eq_true rfl) (fun X ad hnL C => ?_)
  show zG X ad shM eV 0 [some (.ref (ad 0)), some (.int x1), some (.int x2), some (.int x3), none, none] [] h _
  unfold Mo_counts
  refine g_iconst C 0 iX7_counts_0 (by decide) ?_
  refine g_istore (lv' := [some (.ref (ad 0)), some (.int x1), some (.int x2), some (.int x3), some (.int 0), none]) C hnL iX7_counts_1 (by decide) rfl ?_
  have L3 : ∀ (k59 : zH → Option (zH)), (∀ (hy : zH), zG X ad shM eV 59 [none, none, none, none, none, none] [] hy (k59 hy)) → ∀ (n : Nat) (x4 : Int32) (h_1 : zH), zG X ad shM eV 3 [some (.ref (ad 0)), some (.int x1), some (.int x2), some (.int x3), some (.int x4), none] [] h_1 (Mo_counts_L3 x1 x2 x3 k59 n x4 h_1) := by
    intro k59 hk59 n
    induction n with
    | zero =>
      intro x4 h_1
      exact g_none
    | succ n ih3 =>
      intro x4 h_1
      rw [Mo_counts_L3]
      refine g_iload C iX7_counts_3 rfl ?_
      refine g_aload_n C iX7_counts_5 rfl ?_
      refine g_getR (b := 2) C fX7_13 iX7_counts_6 mh0 rfl ?_
      refine g_iconst C 0 iX7_counts_9 (by decide) ?_
      refine g_ialoadL C 0 iX7_counts_10 mh2 (by decide) (by decide) ?_
      refine g_icmp_ge C 59 iX7_counts_11 (by decide) (fun c11 => ?_) (fun c11 => ?_)
      · refine g_sub (lv' := [none, none, none, none, none, none]) trivial ?_
        exact hk59 _
      · refine g_bipush C 6 iX7_counts_14 (by decide) ?_
        refine g_bipush C 6 iX7_counts_16 (by decide) ?_
        refine g_iload C iX7_counts_18 rfl ?_
        refine g_imul C iX7_counts_20 ?_
        refine g_iadd C iX7_counts_21 ?_
        refine g_iload_n C iX7_counts_22 rfl ?_
        refine g_iadd C iX7_counts_23 ?_
        refine g_top (fun x5 => ?_)
        refine g_istore (lv' := [some (.ref (ad 0)), some (.int x1), some (.int x2), some (.int x3), some (.int x4), some (.int x5)]) C hnL iX7_counts_24 (by decide) rfl ?_
        refine g_aload_n C iX7_counts_26 rfl ?_
        refine g_getR (b := 7) C fX7_28 iX7_counts_27 mh0 rfl ?_
        refine g_iload C iX7_counts_30 rfl ?_
        refine g_iload_n C iX7_counts_32 rfl ?_
        refine g_iload C iX7_counts_33 rfl ?_
        refine g_callS C wX7_66 iX7_counts_35 (m_Mo_has x1 x4 h_1) (by decide) rfl rfl rfl (Nat.le_of_ble_eq_true rfl) (fun r => ?_)
        show zG X ad shM eV 38 [some (.ref (ad 0)), some (.int x1), some (.int x2), some (.int x3), some (.int x4), some (.int x5)] [.int r, .int x5, .ref (ad 7)] h_1 _
        refine g_if_eq C 45 iX7_counts_38 (by decide) (fun c38 => ?_) (fun c38 => ?_)
        · refine g_aload_n C iX7_counts_45 rfl ?_
          refine g_getR (b := 7) C fX7_28 iX7_counts_46 mh0 rfl ?_
          refine g_iload C iX7_counts_49 rfl ?_
          refine g_iaload C iX7_counts_51 mh7 ?_
          refine g_iastore C iX7_counts_52 mh7 (fun h_2 => ?_)
          refine g_iinc (v := (x4 + 1)) (lv' := [some (.ref (ad 0)), some (.int x1), some (.int x2), some (.int x3), some (.int (x4 + 1)), some (.int x5)]) C hnL iX7_counts_53 (by decide) rfl rfl rfl ?_
          refine g_goto C 3 iX7_counts_56 (by decide) ?_
          refine g_sub (lv' := [some (.ref (ad 0)), some (.int x1), some (.int x2), some (.int x3), some (.int (x4 + 1)), none]) ⟨rfl, ⟨rfl, ⟨rfl, ⟨rfl, ⟨rfl, trivial⟩⟩⟩⟩⟩ ?_
          exact ih3 _ _
        · refine g_iload_n C iX7_counts_41 rfl ?_
          refine g_goto C 52 iX7_counts_42 (by decide) ?_
          refine g_iastore C iX7_counts_52 mh7 (fun h_3 => ?_)
          refine g_iinc (v := (x4 + 1)) (lv' := [some (.ref (ad 0)), some (.int x1), some (.int x2), some (.int x3), some (.int (x4 + 1)), some (.int x5)]) C hnL iX7_counts_53 (by decide) rfl rfl rfl ?_
          refine g_goto C 3 iX7_counts_56 (by decide) ?_
          refine g_sub (lv' := [some (.ref (ad 0)), some (.int x1), some (.int x2), some (.int x3), some (.int (x4 + 1)), none]) ⟨rfl, ⟨rfl, ⟨rfl, ⟨rfl, ⟨rfl, trivial⟩⟩⟩⟩⟩ ?_
          exact ih3 _ _
  refine L3 _ (fun h_4 => ?_) 1000 _ _
  show zG X ad shM eV 59 [none, none, none, none, none, none] [] h_4 _
  exact g_vret C iX7_counts_59 rfl

theorem fX7_118 : zFl RX7 118 7 13 := ⟨RX7, TX7, 17, rfl, by decide, (zmem 810 (by decide +kernel) (by decide +kernel)), u_inX7⟩
theorem pX7_118 : zFp RX7 118 7 13 := ⟨RX7, TX7, 17, rfl, by decide, (zmem 810 (by decide +kernel) (by decide +kernel)), u_inX7, by decide +kernel, by decide +kernel, ⟨tyX7, tyX7_ok⟩, nmX7⟩
theorem fX7_121 : zFl RX7 121 7 14 := ⟨RX7, TX7, 17, rfl, by decide, (zmem 811 (by decide +kernel) (by decide +kernel)), u_inX7⟩
theorem pX7_121 : zFp RX7 121 7 14 := ⟨RX7, TX7, 17, rfl, by decide, (zmem 811 (by decide +kernel) (by decide +kernel)), u_inX7, by decide +kernel, by decide +kernel, ⟨tyX7, tyX7_ok⟩, nmX7⟩
theorem fX7_124 : zFl RX7 124 7 16 := ⟨RX7, TX7, 17, rfl, by decide, (zmem 813 (by decide +kernel) (by decide +kernel)), u_inX7⟩
theorem pX7_124 : zFp RX7 124 7 16 := ⟨RX7, TX7, 17, rfl, by decide, (zmem 813 (by decide +kernel) (by decide +kernel)), u_inX7, by decide +kernel, by decide +kernel, ⟨tyX7, tyX7_ok⟩, nmX7⟩
theorem iX7_drop_83 : zI cX7_drop 83 (.return_) 1 84 := ⟨by decide +kernel, rfl⟩
theorem iX7_drop_80 : zI cX7_drop 80 (.putfield 124) 3 83 := ⟨by decide +kernel, rfl⟩
theorem iX7_drop_79 : zI cX7_drop 79 (.ior) 1 80 := ⟨by decide +kernel, rfl⟩
theorem iX7_drop_78 : zI cX7_drop 78 (.ishl) 1 79 := ⟨by decide +kernel, rfl⟩
theorem iX7_drop_77 : zI cX7_drop 77 (.iload_n 1) 1 78 := ⟨by decide +kernel, rfl⟩
theorem iX7_drop_76 : zI cX7_drop 76 (.iconst 1) 1 77 := ⟨by decide +kernel, rfl⟩
theorem iX7_drop_73 : zI cX7_drop 73 (.getfield 124) 3 76 := ⟨by decide +kernel, rfl⟩
theorem iX7_drop_72 : zI cX7_drop 72 (.dup) 1 73 := ⟨by decide +kernel, rfl⟩
theorem iX7_drop_71 : zI cX7_drop 71 (.aload_n 0) 1 72 := ⟨by decide +kernel, rfl⟩
theorem iX7_drop_68 : zI cX7_drop 68 (.putfield 121) 3 71 := ⟨by decide +kernel, rfl⟩
theorem iX7_drop_67 : zI cX7_drop 67 (.iadd) 1 68 := ⟨by decide +kernel, rfl⟩
theorem iX7_drop_66 : zI cX7_drop 66 (.iaload) 1 67 := ⟨by decide +kernel, rfl⟩
theorem iX7_drop_65 : zI cX7_drop 65 (.iadd) 1 66 := ⟨by decide +kernel, rfl⟩
theorem iX7_drop_64 : zI cX7_drop 64 (.iconst 1) 1 65 := ⟨by decide +kernel, rfl⟩
theorem iX7_drop_63 : zI cX7_drop 63 (.imul) 1 64 := ⟨by decide +kernel, rfl⟩
theorem iX7_drop_62 : zI cX7_drop 62 (.iload_n 1) 1 63 := ⟨by decide +kernel, rfl⟩
theorem iX7_drop_61 : zI cX7_drop 61 (.iconst 3) 1 62 := ⟨by decide +kernel, rfl⟩
theorem iX7_drop_58 : zI cX7_drop 58 (.getfield 22) 3 61 := ⟨by decide +kernel, rfl⟩
theorem iX7_drop_57 : zI cX7_drop 57 (.aload_n 0) 1 58 := ⟨by decide +kernel, rfl⟩
theorem iX7_drop_54 : zI cX7_drop 54 (.getfield 121) 3 57 := ⟨by decide +kernel, rfl⟩
theorem iX7_drop_53 : zI cX7_drop 53 (.dup) 1 54 := ⟨by decide +kernel, rfl⟩
theorem iX7_drop_52 : zI cX7_drop 52 (.aload_n 0) 1 53 := ⟨by decide +kernel, rfl⟩
theorem iX7_drop_49 : zI cX7_drop 49 (.putfield 118) 3 52 := ⟨by decide +kernel, rfl⟩
theorem iX7_drop_48 : zI cX7_drop 48 (.iadd) 1 49 := ⟨by decide +kernel, rfl⟩
theorem iX7_drop_47 : zI cX7_drop 47 (.iconst 1) 1 48 := ⟨by decide +kernel, rfl⟩
theorem iX7_drop_44 : zI cX7_drop 44 (.getfield 118) 3 47 := ⟨by decide +kernel, rfl⟩
theorem iX7_drop_43 : zI cX7_drop 43 (.dup) 1 44 := ⟨by decide +kernel, rfl⟩
theorem iX7_drop_42 : zI cX7_drop 42 (.aload_n 0) 1 43 := ⟨by decide +kernel, rfl⟩
theorem iX7_drop_41 : zI cX7_drop 41 (.iastore) 1 42 := ⟨by decide +kernel, rfl⟩
theorem iX7_drop_40 : zI cX7_drop 40 (.iadd) 1 41 := ⟨by decide +kernel, rfl⟩
theorem iX7_drop_39 : zI cX7_drop 39 (.iconst 1) 1 40 := ⟨by decide +kernel, rfl⟩
theorem iX7_drop_38 : zI cX7_drop 38 (.iaload) 1 39 := ⟨by decide +kernel, rfl⟩
theorem iX7_drop_37 : zI cX7_drop 37 (.dup2) 1 38 := ⟨by decide +kernel, rfl⟩
theorem iX7_drop_35 : zI cX7_drop 35 (.bipush 50) 2 37 := ⟨by decide +kernel, rfl⟩
theorem iX7_drop_32 : zI cX7_drop 32 (.getfield 28) 3 35 := ⟨by decide +kernel, rfl⟩
theorem iX7_drop_31 : zI cX7_drop 31 (.aload_n 0) 1 32 := ⟨by decide +kernel, rfl⟩
theorem iX7_drop_30 : zI cX7_drop 30 (.iastore) 1 31 := ⟨by decide +kernel, rfl⟩
theorem iX7_drop_29 : zI cX7_drop 29 (.iload_n 1) 1 30 := ⟨by decide +kernel, rfl⟩
theorem iX7_drop_28 : zI cX7_drop 28 (.iadd) 1 29 := ⟨by decide +kernel, rfl⟩
theorem iX7_drop_27 : zI cX7_drop 27 (.iaload) 1 28 := ⟨by decide +kernel, rfl⟩
theorem iX7_drop_25 : zI cX7_drop 25 (.bipush 50) 2 27 := ⟨by decide +kernel, rfl⟩
theorem iX7_drop_22 : zI cX7_drop 22 (.getfield 28) 3 25 := ⟨by decide +kernel, rfl⟩
theorem iX7_drop_21 : zI cX7_drop 21 (.aload_n 0) 1 22 := ⟨by decide +kernel, rfl⟩
theorem iX7_drop_19 : zI cX7_drop 19 (.bipush 51) 2 21 := ⟨by decide +kernel, rfl⟩
theorem iX7_drop_16 : zI cX7_drop 16 (.getfield 28) 3 19 := ⟨by decide +kernel, rfl⟩
theorem iX7_drop_15 : zI cX7_drop 15 (.aload_n 0) 1 16 := ⟨by decide +kernel, rfl⟩
theorem iX7_drop_14 : zI cX7_drop 14 (.iastore) 1 15 := ⟨by decide +kernel, rfl⟩
theorem iX7_drop_13 : zI cX7_drop 13 (.iand) 1 14 := ⟨by decide +kernel, rfl⟩
theorem iX7_drop_12 : zI cX7_drop 12 (.ixor) 1 13 := ⟨by decide +kernel, rfl⟩
theorem iX7_drop_11 : zI cX7_drop 11 (.iconst (-1)) 1 12 := ⟨by decide +kernel, rfl⟩
theorem iX7_drop_10 : zI cX7_drop 10 (.ishl) 1 11 := ⟨by decide +kernel, rfl⟩
theorem iX7_drop_9 : zI cX7_drop 9 (.iload_n 1) 1 10 := ⟨by decide +kernel, rfl⟩
theorem iX7_drop_8 : zI cX7_drop 8 (.iconst 1) 1 9 := ⟨by decide +kernel, rfl⟩
theorem iX7_drop_7 : zI cX7_drop 7 (.iaload) 1 8 := ⟨by decide +kernel, rfl⟩
theorem iX7_drop_6 : zI cX7_drop 6 (.dup2) 1 7 := ⟨by decide +kernel, rfl⟩
theorem iX7_drop_4 : zI cX7_drop 4 (.bipush 42) 2 6 := ⟨by decide +kernel, rfl⟩
theorem iX7_drop_1 : zI cX7_drop 1 (.getfield 28) 3 4 := ⟨by decide +kernel, rfl⟩
theorem iX7_drop_0 : zI cX7_drop 0 (.aload_n 0) 1 1 := ⟨by decide +kernel, rfl⟩
set_option maxHeartbeats 4000000 in
set_option maxRecDepth 100000 in
theorem m_Mo_drop (x1 : Int32) (h : zH) : zM yX7_drop cX7_drop 2 none 0 shM (fun ad => [.ref (ad 0), .int x1]) h eV (Mo_drop x1 h) := by
  refine zM.of (by decide) (fun _ => rfl) (fun _ => Nat.le_of_ble_eq_true rfl) (fun X ad hnL C => ?_)
  show zG X ad shM eV 0 [some (.ref (ad 0)), some (.int x1)] [] h _
  unfold Mo_drop
  refine g_aload_n C iX7_drop_0 rfl ?_
  refine g_getR (b := 7) C fX7_28 iX7_drop_1 mh0 rfl ?_
  refine g_bipush C 42 iX7_drop_4 (by decide) ?_
  refine g_dup2 C iX7_drop_6 rfl rfl ?_
  refine g_ialoadL C 42 iX7_drop_7 mh7 (by decide) (by decide) ?_
  refine g_iconst C 1 iX7_drop_8 (by decide) ?_
  refine g_iload_n C iX7_drop_9 rfl ?_
  refine g_ishl C iX7_drop_10 ?_
  refine g_iconst C (-1) iX7_drop_11 (by decide) ?_
  refine g_ixor C iX7_drop_12 ?_
  refine g_iand C iX7_drop_13 ?_
  refine g_iastoreL C 42 iX7_drop_14 mh7 (by decide) (by decide) (fun h_1 => ?_)
  refine g_aload_n C iX7_drop_15 rfl ?_
  refine g_getR (b := 7) C fX7_28 iX7_drop_16 mh0 rfl ?_
  refine g_bipush C 51 iX7_drop_19 (by decide) ?_
  refine g_aload_n C iX7_drop_21 rfl ?_
  refine g_getR (b := 7) C fX7_28 iX7_drop_22 mh0 rfl ?_
  refine g_bipush C 50 iX7_drop_25 (by decide) ?_
  refine g_ialoadL C 50 iX7_drop_27 mh7 (by decide) (by decide) ?_
  refine g_iadd C iX7_drop_28 ?_
  refine g_iload_n C iX7_drop_29 rfl ?_
  refine g_iastore C iX7_drop_30 mh7 (fun h_2 => ?_)
  refine g_aload_n C iX7_drop_31 rfl ?_
  refine g_getR (b := 7) C fX7_28 iX7_drop_32 mh0 rfl ?_
  refine g_bipush C 50 iX7_drop_35 (by decide) ?_
  refine g_dup2 C iX7_drop_37 rfl rfl ?_
  refine g_ialoadL C 50 iX7_drop_38 mh7 (by decide) (by decide) ?_
  refine g_iconst C 1 iX7_drop_39 (by decide) ?_
  refine g_iadd C iX7_drop_40 ?_
  refine g_iastoreL C 50 iX7_drop_41 mh7 (by decide) (by decide) (fun h_3 => ?_)
  refine g_aload_n C iX7_drop_42 rfl ?_
  refine g_dup C iX7_drop_43 rfl ?_
  refine g_getI C fX7_118 iX7_drop_44 mh0 rfl ?_
  refine g_iconst C 1 iX7_drop_47 (by decide) ?_
  refine g_iadd C iX7_drop_48 ?_
  refine g_putI C pX7_118 iX7_drop_49 mh0 rfl (fun h_4 => ?_)
  refine g_aload_n C iX7_drop_52 rfl ?_
  refine g_dup C iX7_drop_53 rfl ?_
  refine g_getI C fX7_121 iX7_drop_54 mh0 rfl ?_
  refine g_aload_n C iX7_drop_57 rfl ?_
  refine g_getR (b := 5) C fX7_22 iX7_drop_58 mh0 rfl ?_
  refine g_iconst C 3 iX7_drop_61 (by decide) ?_
  refine g_iload_n C iX7_drop_62 rfl ?_
  refine g_imul C iX7_drop_63 ?_
  refine g_iconst C 1 iX7_drop_64 (by decide) ?_
  refine g_iadd C iX7_drop_65 ?_
  refine g_iaload C iX7_drop_66 mh5 ?_
  refine g_iadd C iX7_drop_67 ?_
  refine g_putI C pX7_121 iX7_drop_68 mh0 rfl (fun h_5 => ?_)
  refine g_aload_n C iX7_drop_71 rfl ?_
  refine g_dup C iX7_drop_72 rfl ?_
  refine g_getI C fX7_124 iX7_drop_73 mh0 rfl ?_
  refine g_iconst C 1 iX7_drop_76 (by decide) ?_
  refine g_iload_n C iX7_drop_77 rfl ?_
  refine g_ishl C iX7_drop_78 ?_
  refine g_ior C iX7_drop_79 ?_
  refine g_putI C pX7_124 iX7_drop_80 mh0 rfl (fun h_6 => ?_)
  exact g_vret C iX7_drop_83 rfl

theorem iX7_on_12 : zI cX7_on 12 (.if_icmp .eq 9) 3 15 := ⟨by decide +kernel, rfl⟩
theorem iX7_on_18 : zI cX7_on 18 (.goto (-16)) 3 21 := ⟨by decide +kernel, rfl⟩
theorem iX7_on_15 : zI cX7_on 15 (.iinc 2 1) 3 18 := ⟨by decide +kernel, rfl⟩
theorem iX7_on_11 : zI cX7_on 11 (.iload_n 1) 1 12 := ⟨by decide +kernel, rfl⟩
theorem iX7_on_10 : zI cX7_on 10 (.iaload) 1 11 := ⟨by decide +kernel, rfl⟩
theorem iX7_on_9 : zI cX7_on 9 (.iadd) 1 10 := ⟨by decide +kernel, rfl⟩
theorem iX7_on_8 : zI cX7_on 8 (.iload_n 2) 1 9 := ⟨by decide +kernel, rfl⟩
theorem iX7_on_6 : zI cX7_on 6 (.bipush 51) 2 8 := ⟨by decide +kernel, rfl⟩
theorem iX7_on_3 : zI cX7_on 3 (.getfield 28) 3 6 := ⟨by decide +kernel, rfl⟩
theorem iX7_on_2 : zI cX7_on 2 (.aload_n 0) 1 3 := ⟨by decide +kernel, rfl⟩
theorem iX7_on_42 : zI cX7_on 42 (.if_icmp .ge 29) 3 45 := ⟨by decide +kernel, rfl⟩
theorem iX7_on_68 : zI cX7_on 68 (.goto (-34)) 3 71 := ⟨by decide +kernel, rfl⟩
theorem iX7_on_65 : zI cX7_on 65 (.iinc 3 1) 3 68 := ⟨by decide +kernel, rfl⟩
theorem iX7_on_64 : zI cX7_on 64 (.iastore) 1 65 := ⟨by decide +kernel, rfl⟩
theorem iX7_on_63 : zI cX7_on 63 (.iaload) 1 64 := ⟨by decide +kernel, rfl⟩
theorem iX7_on_62 : zI cX7_on 62 (.iadd) 1 63 := ⟨by decide +kernel, rfl⟩
theorem iX7_on_61 : zI cX7_on 61 (.iconst 1) 1 62 := ⟨by decide +kernel, rfl⟩
theorem iX7_on_60 : zI cX7_on 60 (.iadd) 1 61 := ⟨by decide +kernel, rfl⟩
theorem iX7_on_59 : zI cX7_on 59 (.iload_n 3) 1 60 := ⟨by decide +kernel, rfl⟩
theorem iX7_on_57 : zI cX7_on 57 (.bipush 51) 2 59 := ⟨by decide +kernel, rfl⟩
theorem iX7_on_54 : zI cX7_on 54 (.getfield 28) 3 57 := ⟨by decide +kernel, rfl⟩
theorem iX7_on_53 : zI cX7_on 53 (.aload_n 0) 1 54 := ⟨by decide +kernel, rfl⟩
theorem iX7_on_52 : zI cX7_on 52 (.iadd) 1 53 := ⟨by decide +kernel, rfl⟩
theorem iX7_on_51 : zI cX7_on 51 (.iload_n 3) 1 52 := ⟨by decide +kernel, rfl⟩
theorem iX7_on_49 : zI cX7_on 49 (.bipush 51) 2 51 := ⟨by decide +kernel, rfl⟩
theorem iX7_on_46 : zI cX7_on 46 (.getfield 28) 3 49 := ⟨by decide +kernel, rfl⟩
theorem iX7_on_45 : zI cX7_on 45 (.aload_n 0) 1 46 := ⟨by decide +kernel, rfl⟩
theorem iX7_on_41 : zI cX7_on 41 (.iaload) 1 42 := ⟨by decide +kernel, rfl⟩
theorem iX7_on_39 : zI cX7_on 39 (.bipush 50) 2 41 := ⟨by decide +kernel, rfl⟩
theorem iX7_on_36 : zI cX7_on 36 (.getfield 28) 3 39 := ⟨by decide +kernel, rfl⟩
theorem iX7_on_35 : zI cX7_on 35 (.aload_n 0) 1 36 := ⟨by decide +kernel, rfl⟩
theorem iX7_on_34 : zI cX7_on 34 (.iload_n 3) 1 35 := ⟨by decide +kernel, rfl⟩
theorem iX7_on_84 : zI cX7_on 84 (.return_) 1 85 := ⟨by decide +kernel, rfl⟩
theorem iX7_on_83 : zI cX7_on 83 (.iastore) 1 84 := ⟨by decide +kernel, rfl⟩
theorem iX7_on_82 : zI cX7_on 82 (.ior) 1 83 := ⟨by decide +kernel, rfl⟩
theorem iX7_on_81 : zI cX7_on 81 (.ishl) 1 82 := ⟨by decide +kernel, rfl⟩
theorem iX7_on_80 : zI cX7_on 80 (.iload_n 1) 1 81 := ⟨by decide +kernel, rfl⟩
theorem iX7_on_79 : zI cX7_on 79 (.iconst 1) 1 80 := ⟨by decide +kernel, rfl⟩
theorem iX7_on_78 : zI cX7_on 78 (.iaload) 1 79 := ⟨by decide +kernel, rfl⟩
theorem iX7_on_77 : zI cX7_on 77 (.dup2) 1 78 := ⟨by decide +kernel, rfl⟩
theorem iX7_on_75 : zI cX7_on 75 (.bipush 42) 2 77 := ⟨by decide +kernel, rfl⟩
theorem iX7_on_72 : zI cX7_on 72 (.getfield 28) 3 75 := ⟨by decide +kernel, rfl⟩
theorem iX7_on_71 : zI cX7_on 71 (.aload_n 0) 1 72 := ⟨by decide +kernel, rfl⟩
theorem iX7_on_33 : zI cX7_on 33 (.istore_n 3) 1 34 := ⟨by decide +kernel, rfl⟩
theorem iX7_on_32 : zI cX7_on 32 (.iload_n 2) 1 33 := ⟨by decide +kernel, rfl⟩
theorem iX7_on_31 : zI cX7_on 31 (.iastore) 1 32 := ⟨by decide +kernel, rfl⟩
theorem iX7_on_30 : zI cX7_on 30 (.isub) 1 31 := ⟨by decide +kernel, rfl⟩
theorem iX7_on_29 : zI cX7_on 29 (.iconst 1) 1 30 := ⟨by decide +kernel, rfl⟩
theorem iX7_on_28 : zI cX7_on 28 (.iaload) 1 29 := ⟨by decide +kernel, rfl⟩
theorem iX7_on_27 : zI cX7_on 27 (.dup2) 1 28 := ⟨by decide +kernel, rfl⟩
theorem iX7_on_25 : zI cX7_on 25 (.bipush 50) 2 27 := ⟨by decide +kernel, rfl⟩
theorem iX7_on_22 : zI cX7_on 22 (.getfield 28) 3 25 := ⟨by decide +kernel, rfl⟩
theorem iX7_on_21 : zI cX7_on 21 (.aload_n 0) 1 22 := ⟨by decide +kernel, rfl⟩
theorem iX7_on_1 : zI cX7_on 1 (.istore_n 2) 1 2 := ⟨by decide +kernel, rfl⟩
theorem iX7_on_0 : zI cX7_on 0 (.iconst 0) 1 1 := ⟨by decide +kernel, rfl⟩
set_option maxHeartbeats 4000000 in
set_option maxRecDepth 100000 in
theorem m_Mo_on (x1 : Int32) (h : zH) : zM yX7_on cX7_on 4 none 0 shM (fun ad => [.ref (ad 0), .int x1]) h eV (Mo_on x1 h) := by
  refine zM.of (by decide) (fun _ => rfl) (fun _ => Nat.le_of_ble_eq_true rfl) (fun X ad hnL C => ?_)
  show zG X ad shM eV 0 [some (.ref (ad 0)), some (.int x1), none, none] [] h _
  unfold Mo_on
  refine g_iconst C 0 iX7_on_0 (by decide) ?_
  refine g_istore_n (lv' := [some (.ref (ad 0)), some (.int x1), some (.int 0), none]) C hnL iX7_on_1 (by decide) rfl ?_
  have L2 : ∀ (k21 : Int32 → Option (zH)), (∀ (y2 : Int32), zG X ad shM eV 21 [some (.ref (ad 0)), some (.int x1), some (.int y2), none] [] h (k21 y2)) → ∀ (n : Nat) (x2 : Int32), zG X ad shM eV 2 [some (.ref (ad 0)), some (.int x1), some (.int x2), none] [] h (Mo_on_L2 x1 h k21 n x2) := by
    intro k21 hk21 n
    induction n with
    | zero =>
      intro x2
      exact g_none
    | succ n ih2 =>
      intro x2
      rw [Mo_on_L2]
      refine g_aload_n C iX7_on_2 rfl ?_
      refine g_getR (b := 7) C fX7_28 iX7_on_3 mh0 rfl ?_
      refine g_bipush C 51 iX7_on_6 (by decide) ?_
      refine g_iload_n C iX7_on_8 rfl ?_
      refine g_iadd C iX7_on_9 ?_
      refine g_iaload C iX7_on_10 mh7 ?_
      refine g_iload_n C iX7_on_11 rfl ?_
      refine g_icmp_eq C 21 iX7_on_12 (by decide) (fun c12 => ?_) (fun c12 => ?_)
      · exact hk21 _
      · refine g_iinc (v := (x2 + 1)) (lv' := [some (.ref (ad 0)), some (.int x1), some (.int (x2 + 1)), none]) C hnL iX7_on_15 (by decide) rfl rfl rfl ?_
        refine g_goto C 2 iX7_on_18 (by decide) ?_
        exact ih2 _
  refine L2 _ (fun x2_1 => ?_) 1000 _
  show zG X ad shM eV 21 [some (.ref (ad 0)), some (.int x1), some (.int x2_1), none] [] h _
  refine g_aload_n C iX7_on_21 rfl ?_
  refine g_getR (b := 7) C fX7_28 iX7_on_22 mh0 rfl ?_
  refine g_bipush C 50 iX7_on_25 (by decide) ?_
  refine g_dup2 C iX7_on_27 rfl rfl ?_
  refine g_ialoadL C 50 iX7_on_28 mh7 (by decide) (by decide) ?_
  refine g_iconst C 1 iX7_on_29 (by decide) ?_
  refine g_isub C iX7_on_30 ?_
  refine g_iastoreL C 50 iX7_on_31 mh7 (by decide) (by decide) (fun h_1 => ?_)
  refine g_iload_n C iX7_on_32 rfl ?_
  refine g_istore_n (lv' := [some (.ref (ad 0)), some (.int x1), some (.int x2_1), some (.int x2_1)]) C hnL iX7_on_33 (by decide) rfl ?_
  have L34 : ∀ (k71 : zH → Option (zH)), (∀ (hy : zH), zG X ad shM eV 71 [some (.ref (ad 0)), some (.int x1), none, none] [] hy (k71 hy)) → ∀ (n_1 : Nat) (x3 : Int32) (h_2 : zH), zG X ad shM eV 34 [some (.ref (ad 0)), some (.int x1), none, some (.int x3)] [] h_2 (Mo_on_L34 k71 n_1 x3 h_2) := by
    intro k71 hk71 n_1
    induction n_1 with
    | zero =>
      intro x3 h_2
      exact g_none
    | succ n_1 ih34 =>
      intro x3 h_2
      rw [Mo_on_L34]
      refine g_iload_n C iX7_on_34 rfl ?_
      refine g_aload_n C iX7_on_35 rfl ?_
      refine g_getR (b := 7) C fX7_28 iX7_on_36 mh0 rfl ?_
      refine g_bipush C 50 iX7_on_39 (by decide) ?_
      refine g_ialoadL C 50 iX7_on_41 mh7 (by decide) (by decide) ?_
      refine g_icmp_ge C 71 iX7_on_42 (by decide) (fun c42 => ?_) (fun c42 => ?_)
      · refine g_sub (lv' := [some (.ref (ad 0)), some (.int x1), none, none]) ⟨rfl, ⟨rfl, trivial⟩⟩ ?_
        exact hk71 _
      · refine g_aload_n C iX7_on_45 rfl ?_
        refine g_getR (b := 7) C fX7_28 iX7_on_46 mh0 rfl ?_
        refine g_bipush C 51 iX7_on_49 (by decide) ?_
        refine g_iload_n C iX7_on_51 rfl ?_
        refine g_iadd C iX7_on_52 ?_
        refine g_aload_n C iX7_on_53 rfl ?_
        refine g_getR (b := 7) C fX7_28 iX7_on_54 mh0 rfl ?_
        refine g_bipush C 51 iX7_on_57 (by decide) ?_
        refine g_iload_n C iX7_on_59 rfl ?_
        refine g_iadd C iX7_on_60 ?_
        refine g_iconst C 1 iX7_on_61 (by decide) ?_
        refine g_iadd C iX7_on_62 ?_
        refine g_iaload C iX7_on_63 mh7 ?_
        refine g_iastore C iX7_on_64 mh7 (fun h_3 => ?_)
        refine g_iinc (v := (x3 + 1)) (lv' := [some (.ref (ad 0)), some (.int x1), none, some (.int (x3 + 1))]) C hnL iX7_on_65 (by decide) rfl rfl rfl ?_
        refine g_goto C 34 iX7_on_68 (by decide) ?_
        exact ih34 _ _
  refine g_sub (lv' := [some (.ref (ad 0)), some (.int x1), none, some (.int x2_1)]) ⟨rfl, ⟨rfl, ⟨rfl, trivial⟩⟩⟩ ?_
  refine L34 _ (fun h_4 => ?_) 1000 _ _
  show zG X ad shM eV 71 [some (.ref (ad 0)), some (.int x1), none, none] [] h_4 _
  refine g_aload_n C iX7_on_71 rfl ?_
  refine g_getR (b := 7) C fX7_28 iX7_on_72 mh0 rfl ?_
  refine g_bipush C 42 iX7_on_75 (by decide) ?_
  refine g_dup2 C iX7_on_77 rfl rfl ?_
  refine g_ialoadL C 42 iX7_on_78 mh7 (by decide) (by decide) ?_
  refine g_iconst C 1 iX7_on_79 (by decide) ?_
  refine g_iload_n C iX7_on_80 rfl ?_
  refine g_ishl C iX7_on_81 ?_
  refine g_ior C iX7_on_82 ?_
  refine g_iastoreL C 42 iX7_on_83 mh7 (by decide) (by decide) (fun h_5 => ?_)
  exact g_vret C iX7_on_84 rfl

theorem iX7_dropAll_13 : zI cX7_dropAll 13 (.if_icmp .ge 67) 3 16 := ⟨by decide +kernel, rfl⟩
theorem iX7_dropAll_26 : zI cX7_dropAll 26 (.invokestatic 66) 3 29 := ⟨by decide +kernel, rfl⟩
theorem iX7_dropAll_29 : zI cX7_dropAll 29 (.ifCond .eq 45) 3 32 := ⟨by decide +kernel, rfl⟩
theorem iX7_dropAll_77 : zI cX7_dropAll 77 (.goto (-72)) 3 80 := ⟨by decide +kernel, rfl⟩
theorem iX7_dropAll_74 : zI cX7_dropAll 74 (.iinc 4 1) 3 77 := ⟨by decide +kernel, rfl⟩
theorem iX7_dropAll_41 : zI cX7_dropAll 41 (.invokestatic 66) 3 44 := ⟨by decide +kernel, rfl⟩
theorem iX7_dropAll_44 : zI cX7_dropAll 44 (.ifCond .eq 30) 3 47 := ⟨by decide +kernel, rfl⟩
set_option maxRecDepth 100000 in
theorem wX7_127 : zCv RX7 127 yX7_drop cX7_drop 2 none 1 := ⟨⟨(zmem 960 (by decide +kernel) (by decide +kernel)), (zmem 76 (by decide +kernel) (by decide +kernel)), (zmem 963 rfl rfl), ⟨by decide, by decide, by decide +kernel⟩, by decide⟩, (zmem 962 (by decide +kernel) (by decide +kernel)), (zmem 47 (by decide +kernel) (by decide +kernel))⟩
theorem iX7_dropAll_69 : zI cX7_dropAll 69 (.invokevirtual 127) 3 72 := ⟨by decide +kernel, rfl⟩
theorem iX7_dropAll_73 : zI cX7_dropAll 73 (.istore_n 3) 1 74 := ⟨by decide +kernel, rfl⟩
theorem iX7_dropAll_72 : zI cX7_dropAll 72 (.iconst 1) 1 73 := ⟨by decide +kernel, rfl⟩
theorem iX7_dropAll_67 : zI cX7_dropAll 67 (.iload 4) 2 69 := ⟨by decide +kernel, rfl⟩
theorem iX7_dropAll_66 : zI cX7_dropAll 66 (.aload_n 0) 1 67 := ⟨by decide +kernel, rfl⟩
theorem iX7_dropAll_48 : zI cX7_dropAll 48 (.ifCond .lt 18) 3 51 := ⟨by decide +kernel, rfl⟩
theorem iX7_dropAll_63 : zI cX7_dropAll 63 (.if_icmp .ne 11) 3 66 := ⟨by decide +kernel, rfl⟩
theorem iX7_dropAll_62 : zI cX7_dropAll 62 (.iload_n 2) 1 63 := ⟨by decide +kernel, rfl⟩
theorem iX7_dropAll_61 : zI cX7_dropAll 61 (.iaload) 1 62 := ⟨by decide +kernel, rfl⟩
theorem iX7_dropAll_60 : zI cX7_dropAll 60 (.iadd) 1 61 := ⟨by decide +kernel, rfl⟩
theorem iX7_dropAll_59 : zI cX7_dropAll 59 (.iconst 2) 1 60 := ⟨by decide +kernel, rfl⟩
theorem iX7_dropAll_58 : zI cX7_dropAll 58 (.imul) 1 59 := ⟨by decide +kernel, rfl⟩
theorem iX7_dropAll_56 : zI cX7_dropAll 56 (.iload 4) 2 58 := ⟨by decide +kernel, rfl⟩
theorem iX7_dropAll_55 : zI cX7_dropAll 55 (.iconst 3) 1 56 := ⟨by decide +kernel, rfl⟩
theorem iX7_dropAll_52 : zI cX7_dropAll 52 (.getfield 22) 3 55 := ⟨by decide +kernel, rfl⟩
theorem iX7_dropAll_51 : zI cX7_dropAll 51 (.aload_n 0) 1 52 := ⟨by decide +kernel, rfl⟩
theorem iX7_dropAll_47 : zI cX7_dropAll 47 (.iload_n 2) 1 48 := ⟨by decide +kernel, rfl⟩
theorem iX7_dropAll_39 : zI cX7_dropAll 39 (.iload 4) 2 41 := ⟨by decide +kernel, rfl⟩
theorem iX7_dropAll_38 : zI cX7_dropAll 38 (.iaload) 1 39 := ⟨by decide +kernel, rfl⟩
theorem iX7_dropAll_36 : zI cX7_dropAll 36 (.bipush 42) 2 38 := ⟨by decide +kernel, rfl⟩
theorem iX7_dropAll_33 : zI cX7_dropAll 33 (.getfield 28) 3 36 := ⟨by decide +kernel, rfl⟩
theorem iX7_dropAll_32 : zI cX7_dropAll 32 (.aload_n 0) 1 33 := ⟨by decide +kernel, rfl⟩
theorem iX7_dropAll_25 : zI cX7_dropAll 25 (.iaload) 1 26 := ⟨by decide +kernel, rfl⟩
theorem iX7_dropAll_24 : zI cX7_dropAll 24 (.imul) 1 25 := ⟨by decide +kernel, rfl⟩
theorem iX7_dropAll_22 : zI cX7_dropAll 22 (.iload 4) 2 24 := ⟨by decide +kernel, rfl⟩
theorem iX7_dropAll_21 : zI cX7_dropAll 21 (.iconst 3) 1 22 := ⟨by decide +kernel, rfl⟩
theorem iX7_dropAll_18 : zI cX7_dropAll 18 (.getfield 22) 3 21 := ⟨by decide +kernel, rfl⟩
theorem iX7_dropAll_17 : zI cX7_dropAll 17 (.aload_n 0) 1 18 := ⟨by decide +kernel, rfl⟩
theorem iX7_dropAll_16 : zI cX7_dropAll 16 (.iload_n 1) 1 17 := ⟨by decide +kernel, rfl⟩
theorem iX7_dropAll_12 : zI cX7_dropAll 12 (.iaload) 1 13 := ⟨by decide +kernel, rfl⟩
theorem iX7_dropAll_11 : zI cX7_dropAll 11 (.iconst 3) 1 12 := ⟨by decide +kernel, rfl⟩
theorem iX7_dropAll_8 : zI cX7_dropAll 8 (.getfield 13) 3 11 := ⟨by decide +kernel, rfl⟩
theorem iX7_dropAll_7 : zI cX7_dropAll 7 (.aload_n 0) 1 8 := ⟨by decide +kernel, rfl⟩
theorem iX7_dropAll_5 : zI cX7_dropAll 5 (.iload 4) 2 7 := ⟨by decide +kernel, rfl⟩
theorem iX7_dropAll_81 : zI cX7_dropAll 81 (.ireturn) 1 82 := ⟨by decide +kernel, rfl⟩
theorem iX7_dropAll_80 : zI cX7_dropAll 80 (.iload_n 3) 1 81 := ⟨by decide +kernel, rfl⟩
theorem iX7_dropAll_3 : zI cX7_dropAll 3 (.istore 4) 2 5 := ⟨by decide +kernel, rfl⟩
theorem iX7_dropAll_2 : zI cX7_dropAll 2 (.iconst 0) 1 3 := ⟨by decide +kernel, rfl⟩
theorem iX7_dropAll_1 : zI cX7_dropAll 1 (.istore_n 3) 1 2 := ⟨by decide +kernel, rfl⟩
theorem iX7_dropAll_0 : zI cX7_dropAll 0 (.iconst 0) 1 1 := ⟨by decide +kernel, rfl⟩
set_option maxHeartbeats 4000000 in
set_option maxRecDepth 100000 in
theorem m_Mo_dropAll (x1 : Int32) (x2 : Int32) (h : zH) : zM yX7_dropAll cX7_dropAll 5 (some .boolean) 1 shM (fun ad => [.ref (ad 0), .int x1, .int x2]) h eI (Mo_dropAll x1 x2 h) := by
  refine zM.of (by decide) (fun _ => rfl) (fun _ => Nat.le_of_ble_eq_true rfl) (fun X ad hnL C => ?_)
  show zG X ad shM eI 0 [some (.ref (ad 0)), some (.int x1), some (.int x2), none, none] [] h _
  unfold Mo_dropAll
  refine g_iconst C 0 iX7_dropAll_0 (by decide) ?_
  refine g_istore_n (lv' := [some (.ref (ad 0)), some (.int x1), some (.int x2), some (.int 0), none]) C hnL iX7_dropAll_1 (by decide) rfl ?_
  refine g_iconst C 0 iX7_dropAll_2 (by decide) ?_
  refine g_istore (lv' := [some (.ref (ad 0)), some (.int x1), some (.int x2), some (.int 0), some (.int 0)]) C hnL iX7_dropAll_3 (by decide) rfl ?_
  have L5 : ∀ (k80 : Int32 → zH → Option (Int32 × zH)), (∀ (y3 : Int32) (hy : zH), zG X ad shM eI 80 [none, none, none, some (.int y3), none] [] hy (k80 y3 hy)) → ∀ (n : Nat) (x3 x4 : Int32) (h_1 : zH), zG X ad shM eI 5 [some (.ref (ad 0)), some (.int x1), some (.int x2), some (.int x3), some (.int x4)] [] h_1 (Mo_dropAll_L5 x1 x2 k80 n x3 x4 h_1) := by
    intro k80 hk80 n
    induction n with
    | zero =>
      intro x3 x4 h_1
      exact g_none
    | succ n ih5 =>
      intro x3 x4 h_1
      rw [Mo_dropAll_L5]
      refine g_iload C iX7_dropAll_5 rfl ?_
      refine g_aload_n C iX7_dropAll_7 rfl ?_
      refine g_getR (b := 2) C fX7_13 iX7_dropAll_8 mh0 rfl ?_
      refine g_iconst C 3 iX7_dropAll_11 (by decide) ?_
      refine g_ialoadL C 3 iX7_dropAll_12 mh2 (by decide) (by decide) ?_
      refine g_icmp_ge C 80 iX7_dropAll_13 (by decide) (fun c13 => ?_) (fun c13 => ?_)
      · refine g_sub (lv' := [none, none, none, some (.int x3), none]) ⟨rfl, trivial⟩ ?_
        exact hk80 _ _
      · refine g_iload_n C iX7_dropAll_16 rfl ?_
        refine g_aload_n C iX7_dropAll_17 rfl ?_
        refine g_getR (b := 5) C fX7_22 iX7_dropAll_18 mh0 rfl ?_
        refine g_iconst C 3 iX7_dropAll_21 (by decide) ?_
        refine g_iload C iX7_dropAll_22 rfl ?_
        refine g_imul C iX7_dropAll_24 ?_
        refine g_iaload C iX7_dropAll_25 mh5 ?_
        refine g_callS C wX7_66 iX7_dropAll_26 (m_Mo_has x1 (h_1 5 (3 * x4).toNatClampNeg) h_1) (by decide) rfl rfl rfl (Nat.le_of_ble_eq_true rfl) (fun r => ?_)
        show zG X ad shM eI 29 [some (.ref (ad 0)), some (.int x1), some (.int x2), some (.int x3), some (.int x4)] [.int r] h_1 _
        refine g_if_eq C 74 iX7_dropAll_29 (by decide) (fun c29 => ?_) (fun c29 => ?_)
        · refine g_iinc (v := (x4 + 1)) (lv' := [some (.ref (ad 0)), some (.int x1), some (.int x2), some (.int x3), some (.int (x4 + 1))]) C hnL iX7_dropAll_74 (by decide) rfl rfl rfl ?_
          refine g_goto C 5 iX7_dropAll_77 (by decide) ?_
          exact ih5 _ _ _
        · refine g_aload_n C iX7_dropAll_32 rfl ?_
          refine g_getR (b := 7) C fX7_28 iX7_dropAll_33 mh0 rfl ?_
          refine g_bipush C 42 iX7_dropAll_36 (by decide) ?_
          refine g_ialoadL C 42 iX7_dropAll_38 mh7 (by decide) (by decide) ?_
          refine g_iload C iX7_dropAll_39 rfl ?_
          refine g_callS C wX7_66 iX7_dropAll_41 (m_Mo_has (h_1 7 42) x4 h_1) (by decide) rfl rfl rfl (Nat.le_of_ble_eq_true rfl) (fun r_1 => ?_)
          show zG X ad shM eI 44 [some (.ref (ad 0)), some (.int x1), some (.int x2), some (.int x3), some (.int x4)] [.int r_1] h_1 _
          refine g_if_eq C 74 iX7_dropAll_44 (by decide) (fun c44 => ?_) (fun c44 => ?_)
          · refine g_iinc (v := (x4 + 1)) (lv' := [some (.ref (ad 0)), some (.int x1), some (.int x2), some (.int x3), some (.int (x4 + 1))]) C hnL iX7_dropAll_74 (by decide) rfl rfl rfl ?_
            refine g_goto C 5 iX7_dropAll_77 (by decide) ?_
            exact ih5 _ _ _
          · refine g_iload_n C iX7_dropAll_47 rfl ?_
            refine g_let (fun j66 ej66 => ?_)
            have hj66 : zG X ad shM eI 66 [some (.ref (ad 0)), some (.int x1), some (.int x2), none, some (.int x4)] [] h_1 j66 := by
              subst ej66
              refine g_aload_n C iX7_dropAll_66 rfl ?_
              refine g_iload C iX7_dropAll_67 rfl ?_
              refine g_callV C wX7_127 iX7_dropAll_69 (m_Mo_drop x4 h_1) (by decide) mh0 rfl rfl rfl rfl (Nat.le_of_ble_eq_true rfl) (fun h_2 => ?_)
              show zG X ad shM eI 72 [some (.ref (ad 0)), some (.int x1), some (.int x2), none, some (.int x4)] [] h_2 _
              refine g_iconst C 1 iX7_dropAll_72 (by decide) ?_
              refine g_istore_n (lv' := [some (.ref (ad 0)), some (.int x1), some (.int x2), some (.int 1), some (.int x4)]) C hnL iX7_dropAll_73 (by decide) rfl ?_
              refine g_iinc (v := (x4 + 1)) (lv' := [some (.ref (ad 0)), some (.int x1), some (.int x2), some (.int 1), some (.int (x4 + 1))]) C hnL iX7_dropAll_74 (by decide) rfl rfl rfl ?_
              refine g_goto C 5 iX7_dropAll_77 (by decide) ?_
              exact ih5 _ _ _
            clear ej66
            refine g_if_lt C 66 iX7_dropAll_48 (by decide) (fun c48 => ?_) (fun c48 => ?_)
            · refine g_sub (lv' := [some (.ref (ad 0)), some (.int x1), some (.int x2), none, some (.int x4)]) ⟨rfl, ⟨rfl, ⟨rfl, ⟨rfl, trivial⟩⟩⟩⟩ ?_
              exact hj66
            · refine g_aload_n C iX7_dropAll_51 rfl ?_
              refine g_getR (b := 5) C fX7_22 iX7_dropAll_52 mh0 rfl ?_
              refine g_iconst C 3 iX7_dropAll_55 (by decide) ?_
              refine g_iload C iX7_dropAll_56 rfl ?_
              refine g_imul C iX7_dropAll_58 ?_
              refine g_iconst C 2 iX7_dropAll_59 (by decide) ?_
              refine g_iadd C iX7_dropAll_60 ?_
              refine g_iaload C iX7_dropAll_61 mh5 ?_
              refine g_iload_n C iX7_dropAll_62 rfl ?_
              refine g_icmp_ne C 74 iX7_dropAll_63 (by decide) (fun c63 => ?_) (fun c63 => ?_)
              · refine g_sub (lv' := [some (.ref (ad 0)), some (.int x1), some (.int x2), none, some (.int x4)]) ⟨rfl, ⟨rfl, ⟨rfl, ⟨rfl, trivial⟩⟩⟩⟩ ?_
                exact hj66
              · refine g_iinc (v := (x4 + 1)) (lv' := [some (.ref (ad 0)), some (.int x1), some (.int x2), some (.int x3), some (.int (x4 + 1))]) C hnL iX7_dropAll_74 (by decide) rfl rfl rfl ?_
                refine g_goto C 5 iX7_dropAll_77 (by decide) ?_
                exact ih5 _ _ _
  refine L5 _ (fun x3_1 h_3 => ?_) 1000 _ _ _
  show zG X ad shM eI 80 [none, none, none, some (.int x3_1), none] [] h_3 _
  refine g_iload_n C iX7_dropAll_80 rfl ?_
  exact g_zretG C iX7_dropAll_81 rfl

theorem iX7_follow_9 : zI cX7_follow 9 (.if_icmp .ge 138) 3 12 := ⟨by decide +kernel, rfl⟩
theorem iX7_follow_21 : zI cX7_follow 21 (.invokestatic 66) 3 24 := ⟨by decide +kernel, rfl⟩
theorem iX7_follow_24 : zI cX7_follow 24 (.ifCond .eq 117) 3 27 := ⟨by decide +kernel, rfl⟩
theorem iX7_follow_144 : zI cX7_follow 144 (.goto (-142)) 3 147 := ⟨by decide +kernel, rfl⟩
theorem iX7_follow_141 : zI cX7_follow 141 (.iinc 3 1) 3 144 := ⟨by decide +kernel, rfl⟩
set_option maxRecDepth 100000 in
theorem wX7_130 : zCv RX7 130 yX7_plants cX7_plants 5 (some .int) 2 := ⟨⟨(zmem 944 (by decide +kernel) (by decide +kernel)), (zmem 76 (by decide +kernel) (by decide +kernel)), (zmem 947 rfl rfl), ⟨by decide, by decide, by decide +kernel⟩, by decide⟩, (zmem 946 (by decide +kernel) (by decide +kernel)), (zmem 43 (by decide +kernel) (by decide +kernel))⟩
theorem iX7_follow_31 : zI cX7_follow 31 (.invokevirtual 130) 3 34 := ⟨by decide +kernel, rfl⟩
theorem iX7_follow_103 : zI cX7_follow 103 (.ifCond .ge 7) 3 106 := ⟨by decide +kernel, rfl⟩
theorem iX7_follow_122 : zI cX7_follow 122 (.if_icmp .le 16) 3 125 := ⟨by decide +kernel, rfl⟩
theorem iX7_follow_140 : zI cX7_follow 140 (.iastore) 1 141 := ⟨by decide +kernel, rfl⟩
theorem iX7_follow_138 : zI cX7_follow 138 (.iload 7) 2 140 := ⟨by decide +kernel, rfl⟩
theorem iX7_follow_135 : zI cX7_follow 135 (.goto 5) 3 138 := ⟨by decide +kernel, rfl⟩
theorem iX7_follow_134 : zI cX7_follow 134 (.iaload) 1 135 := ⟨by decide +kernel, rfl⟩
theorem iX7_follow_133 : zI cX7_follow 133 (.iadd) 1 134 := ⟨by decide +kernel, rfl⟩
theorem iX7_follow_132 : zI cX7_follow 132 (.iconst 1) 1 133 := ⟨by decide +kernel, rfl⟩
theorem iX7_follow_131 : zI cX7_follow 131 (.imul) 1 132 := ⟨by decide +kernel, rfl⟩
theorem iX7_follow_130 : zI cX7_follow 130 (.iload_n 3) 1 131 := ⟨by decide +kernel, rfl⟩
theorem iX7_follow_129 : zI cX7_follow 129 (.iconst 4) 1 130 := ⟨by decide +kernel, rfl⟩
theorem iX7_follow_126 : zI cX7_follow 126 (.getfield 19) 3 129 := ⟨by decide +kernel, rfl⟩
theorem iX7_follow_125 : zI cX7_follow 125 (.aload_n 0) 1 126 := ⟨by decide +kernel, rfl⟩
theorem iX7_follow_121 : zI cX7_follow 121 (.iaload) 1 122 := ⟨by decide +kernel, rfl⟩
theorem iX7_follow_120 : zI cX7_follow 120 (.iadd) 1 121 := ⟨by decide +kernel, rfl⟩
theorem iX7_follow_119 : zI cX7_follow 119 (.iconst 1) 1 120 := ⟨by decide +kernel, rfl⟩
theorem iX7_follow_118 : zI cX7_follow 118 (.imul) 1 119 := ⟨by decide +kernel, rfl⟩
theorem iX7_follow_117 : zI cX7_follow 117 (.iload_n 3) 1 118 := ⟨by decide +kernel, rfl⟩
theorem iX7_follow_116 : zI cX7_follow 116 (.iconst 4) 1 117 := ⟨by decide +kernel, rfl⟩
theorem iX7_follow_113 : zI cX7_follow 113 (.getfield 19) 3 116 := ⟨by decide +kernel, rfl⟩
theorem iX7_follow_112 : zI cX7_follow 112 (.aload_n 0) 1 113 := ⟨by decide +kernel, rfl⟩
theorem iX7_follow_110 : zI cX7_follow 110 (.iload 7) 2 112 := ⟨by decide +kernel, rfl⟩
theorem iX7_follow_107 : zI cX7_follow 107 (.goto 33) 3 110 := ⟨by decide +kernel, rfl⟩
theorem iX7_follow_106 : zI cX7_follow 106 (.iconst 0) 1 107 := ⟨by decide +kernel, rfl⟩
theorem iX7_follow_101 : zI cX7_follow 101 (.iload 7) 2 103 := ⟨by decide +kernel, rfl⟩
theorem iX7_follow_100 : zI cX7_follow 100 (.iadd) 1 101 := ⟨by decide +kernel, rfl⟩
theorem iX7_follow_99 : zI cX7_follow 99 (.iload_n 3) 1 100 := ⟨by decide +kernel, rfl⟩
theorem iX7_follow_97 : zI cX7_follow 97 (.bipush 44) 2 99 := ⟨by decide +kernel, rfl⟩
theorem iX7_follow_94 : zI cX7_follow 94 (.getfield 28) 3 97 := ⟨by decide +kernel, rfl⟩
theorem iX7_follow_93 : zI cX7_follow 93 (.aload_n 0) 1 94 := ⟨by decide +kernel, rfl⟩
theorem iX7_follow_91 : zI cX7_follow 91 (.istore 7) 2 93 := ⟨by decide +kernel, rfl⟩
theorem iX7_follow_90 : zI cX7_follow 90 (.iadd) 1 91 := ⟨by decide +kernel, rfl⟩
theorem iX7_follow_88 : zI cX7_follow 88 (.iload 6) 2 90 := ⟨by decide +kernel, rfl⟩
theorem iX7_follow_87 : zI cX7_follow 87 (.iaload) 1 88 := ⟨by decide +kernel, rfl⟩
theorem iX7_follow_86 : zI cX7_follow 86 (.iadd) 1 87 := ⟨by decide +kernel, rfl⟩
theorem iX7_follow_85 : zI cX7_follow 85 (.iload_n 3) 1 86 := ⟨by decide +kernel, rfl⟩
theorem iX7_follow_83 : zI cX7_follow 83 (.bipush 44) 2 85 := ⟨by decide +kernel, rfl⟩
theorem iX7_follow_80 : zI cX7_follow 80 (.getfield 28) 3 83 := ⟨by decide +kernel, rfl⟩
theorem iX7_follow_79 : zI cX7_follow 79 (.aload_n 0) 1 80 := ⟨by decide +kernel, rfl⟩
theorem iX7_follow_77 : zI cX7_follow 77 (.istore 6) 2 79 := ⟨by decide +kernel, rfl⟩
theorem iX7_follow_53 : zI cX7_follow 53 (.if_icmp .le 8) 3 56 := ⟨by decide +kernel, rfl⟩
theorem iX7_follow_66 : zI cX7_follow 66 (.if_icmp .ge 9) 3 69 := ⟨by decide +kernel, rfl⟩
theorem iX7_follow_75 : zI cX7_follow 75 (.iload 4) 2 77 := ⟨by decide +kernel, rfl⟩
theorem iX7_follow_72 : zI cX7_follow 72 (.goto 5) 3 75 := ⟨by decide +kernel, rfl⟩
theorem iX7_follow_71 : zI cX7_follow 71 (.ineg) 1 72 := ⟨by decide +kernel, rfl⟩
theorem iX7_follow_69 : zI cX7_follow 69 (.iload 5) 2 71 := ⟨by decide +kernel, rfl⟩
theorem iX7_follow_65 : zI cX7_follow 65 (.ineg) 1 66 := ⟨by decide +kernel, rfl⟩
theorem iX7_follow_63 : zI cX7_follow 63 (.iload 5) 2 65 := ⟨by decide +kernel, rfl⟩
theorem iX7_follow_61 : zI cX7_follow 61 (.iload 4) 2 63 := ⟨by decide +kernel, rfl⟩
theorem iX7_follow_58 : zI cX7_follow 58 (.goto 19) 3 61 := ⟨by decide +kernel, rfl⟩
theorem iX7_follow_56 : zI cX7_follow 56 (.iload 5) 2 58 := ⟨by decide +kernel, rfl⟩
theorem iX7_follow_51 : zI cX7_follow 51 (.iload 5) 2 53 := ⟨by decide +kernel, rfl⟩
theorem iX7_follow_49 : zI cX7_follow 49 (.iload 4) 2 51 := ⟨by decide +kernel, rfl⟩
theorem iX7_follow_47 : zI cX7_follow 47 (.istore 5) 2 49 := ⟨by decide +kernel, rfl⟩
theorem iX7_follow_46 : zI cX7_follow 46 (.iaload) 1 47 := ⟨by decide +kernel, rfl⟩
theorem iX7_follow_45 : zI cX7_follow 45 (.iadd) 1 46 := ⟨by decide +kernel, rfl⟩
theorem iX7_follow_44 : zI cX7_follow 44 (.iconst 2) 1 45 := ⟨by decide +kernel, rfl⟩
theorem iX7_follow_43 : zI cX7_follow 43 (.imul) 1 44 := ⟨by decide +kernel, rfl⟩
theorem iX7_follow_42 : zI cX7_follow 42 (.iload_n 3) 1 43 := ⟨by decide +kernel, rfl⟩
theorem iX7_follow_41 : zI cX7_follow 41 (.iconst 4) 1 42 := ⟨by decide +kernel, rfl⟩
theorem iX7_follow_38 : zI cX7_follow 38 (.getfield 19) 3 41 := ⟨by decide +kernel, rfl⟩
theorem iX7_follow_37 : zI cX7_follow 37 (.aload_n 0) 1 38 := ⟨by decide +kernel, rfl⟩
theorem iX7_follow_35 : zI cX7_follow 35 (.istore 4) 2 37 := ⟨by decide +kernel, rfl⟩
theorem iX7_follow_34 : zI cX7_follow 34 (.isub) 1 35 := ⟨by decide +kernel, rfl⟩
theorem iX7_follow_30 : zI cX7_follow 30 (.iconst 0) 1 31 := ⟨by decide +kernel, rfl⟩
theorem iX7_follow_29 : zI cX7_follow 29 (.iload_n 1) 1 30 := ⟨by decide +kernel, rfl⟩
theorem iX7_follow_28 : zI cX7_follow 28 (.aload_n 0) 1 29 := ⟨by decide +kernel, rfl⟩
theorem iX7_follow_27 : zI cX7_follow 27 (.iload_n 2) 1 28 := ⟨by decide +kernel, rfl⟩
theorem iX7_follow_20 : zI cX7_follow 20 (.iaload) 1 21 := ⟨by decide +kernel, rfl⟩
theorem iX7_follow_19 : zI cX7_follow 19 (.imul) 1 20 := ⟨by decide +kernel, rfl⟩
theorem iX7_follow_18 : zI cX7_follow 18 (.iload_n 3) 1 19 := ⟨by decide +kernel, rfl⟩
theorem iX7_follow_17 : zI cX7_follow 17 (.iconst 4) 1 18 := ⟨by decide +kernel, rfl⟩
theorem iX7_follow_14 : zI cX7_follow 14 (.getfield 19) 3 17 := ⟨by decide +kernel, rfl⟩
theorem iX7_follow_13 : zI cX7_follow 13 (.aload_n 0) 1 14 := ⟨by decide +kernel, rfl⟩
theorem iX7_follow_12 : zI cX7_follow 12 (.iload_n 1) 1 13 := ⟨by decide +kernel, rfl⟩
theorem iX7_follow_8 : zI cX7_follow 8 (.iaload) 1 9 := ⟨by decide +kernel, rfl⟩
theorem iX7_follow_7 : zI cX7_follow 7 (.iconst 2) 1 8 := ⟨by decide +kernel, rfl⟩
theorem iX7_follow_4 : zI cX7_follow 4 (.getfield 13) 3 7 := ⟨by decide +kernel, rfl⟩
theorem iX7_follow_3 : zI cX7_follow 3 (.aload_n 0) 1 4 := ⟨by decide +kernel, rfl⟩
theorem iX7_follow_2 : zI cX7_follow 2 (.iload_n 3) 1 3 := ⟨by decide +kernel, rfl⟩
theorem iX7_follow_147 : zI cX7_follow 147 (.return_) 1 148 := ⟨by decide +kernel, rfl⟩
theorem iX7_follow_1 : zI cX7_follow 1 (.istore_n 3) 1 2 := ⟨by decide +kernel, rfl⟩
theorem iX7_follow_0 : zI cX7_follow 0 (.iconst 0) 1 1 := ⟨by decide +kernel, rfl⟩
set_option maxHeartbeats 4000000 in
set_option maxRecDepth 100000 in
theorem m_Mo_follow (x1 : Int32) (x2 : Int32) (h : zH) : zM yX7_follow cX7_follow 8 none 2 shM (fun ad => [.ref (ad 0), .int x1, .int x2]) h eV (Mo_follow x1 x2 h) := by
  refine zM.of (by decide) (fun _ => rfl) (fun _ => Nat.le_of_ble_eq_true rfl) (fun X ad hnL C => ?_)
  show zG X ad shM eV 0 [some (.ref (ad 0)), some (.int x1), some (.int x2), none, none, none, none, none] [] h _
  unfold Mo_follow
  refine g_iconst C 0 iX7_follow_0 (by decide) ?_
  refine g_istore_n (lv' := [some (.ref (ad 0)), some (.int x1), some (.int x2), some (.int 0), none, none, none, none]) C hnL iX7_follow_1 (by decide) rfl ?_
  have L2 : ∀ (k147 : zH → Option (zH)), (∀ (hy : zH), zG X ad shM eV 147 [none, none, none, none, none, none, none, none] [] hy (k147 hy)) → ∀ (n : Nat) (x3 : Int32) (h_1 : zH), zG X ad shM eV 2 [some (.ref (ad 0)), some (.int x1), some (.int x2), some (.int x3), none, none, none, none] [] h_1 (Mo_follow_L2 x1 x2 k147 n x3 h_1) := by
    intro k147 hk147 n
    induction n with
    | zero =>
      intro x3 h_1
      exact g_none
    | succ n ih2 =>
      intro x3 h_1
      rw [Mo_follow_L2]
      refine g_iload_n C iX7_follow_2 rfl ?_
      refine g_aload_n C iX7_follow_3 rfl ?_
      refine g_getR (b := 2) C fX7_13 iX7_follow_4 mh0 rfl ?_
      refine g_iconst C 2 iX7_follow_7 (by decide) ?_
      refine g_ialoadL C 2 iX7_follow_8 mh2 (by decide) (by decide) ?_
      refine g_icmp_ge C 147 iX7_follow_9 (by decide) (fun c9 => ?_) (fun c9 => ?_)
      · refine g_sub (lv' := [none, none, none, none, none, none, none, none]) trivial ?_
        exact hk147 _
      · refine g_iload_n C iX7_follow_12 rfl ?_
        refine g_aload_n C iX7_follow_13 rfl ?_
        refine g_getR (b := 4) C fX7_19 iX7_follow_14 mh0 rfl ?_
        refine g_iconst C 4 iX7_follow_17 (by decide) ?_
        refine g_iload_n C iX7_follow_18 rfl ?_
        refine g_imul C iX7_follow_19 ?_
        refine g_iaload C iX7_follow_20 mh4 ?_
        refine g_callS C wX7_66 iX7_follow_21 (m_Mo_has x1 (h_1 4 (4 * x3).toNatClampNeg) h_1) (by decide) rfl rfl rfl (Nat.le_of_ble_eq_true rfl) (fun r => ?_)
        show zG X ad shM eV 24 [some (.ref (ad 0)), some (.int x1), some (.int x2), some (.int x3), none, none, none, none] [.int r] h_1 _
        refine g_if_eq C 141 iX7_follow_24 (by decide) (fun c24 => ?_) (fun c24 => ?_)
        · refine g_iinc (v := (x3 + 1)) (lv' := [some (.ref (ad 0)), some (.int x1), some (.int x2), some (.int (x3 + 1)), none, none, none, none]) C hnL iX7_follow_141 (by decide) rfl rfl rfl ?_
          refine g_goto C 2 iX7_follow_144 (by decide) ?_
          exact ih2 _ _
        · refine g_iload_n C iX7_follow_27 rfl ?_
          refine g_aload_n C iX7_follow_28 rfl ?_
          refine g_iload_n C iX7_follow_29 rfl ?_
          refine g_iconst C 0 iX7_follow_30 (by decide) ?_
          refine g_callV C wX7_130 iX7_follow_31 (m_Mo_plants x1 0 h_1) (by decide) mh0 rfl rfl rfl rfl (Nat.le_of_ble_eq_true rfl) (fun r_1 => ?_)
          show zG X ad shM eV 34 [some (.ref (ad 0)), some (.int x1), some (.int x2), some (.int x3), none, none, none, none] [.int r_1, .int x2] h_1 _
          refine g_isub C iX7_follow_34 ?_
          refine g_top (fun x4 => ?_)
          refine g_istore (lv' := [some (.ref (ad 0)), some (.int x1), some (.int x2), some (.int x3), some (.int x4), none, none, none]) C hnL iX7_follow_35 (by decide) rfl ?_
          refine g_aload_n C iX7_follow_37 rfl ?_
          refine g_getR (b := 4) C fX7_19 iX7_follow_38 mh0 rfl ?_
          refine g_iconst C 4 iX7_follow_41 (by decide) ?_
          refine g_iload_n C iX7_follow_42 rfl ?_
          refine g_imul C iX7_follow_43 ?_
          refine g_iconst C 2 iX7_follow_44 (by decide) ?_
          refine g_iadd C iX7_follow_45 ?_
          refine g_iaload C iX7_follow_46 mh4 ?_
          refine g_top (fun x5 => ?_)
          refine g_istore (lv' := [some (.ref (ad 0)), some (.int x1), some (.int x2), some (.int x3), some (.int x4), some (.int x5), none, none]) C hnL iX7_follow_47 (by decide) rfl ?_
          refine g_iload C iX7_follow_49 rfl ?_
          refine g_iload C iX7_follow_51 rfl ?_
          refine g_let (fun j77 ej77 => ?_)
          have hj77 : ∀ (v77 : Int32), zG X ad shM eV 77 [some (.ref (ad 0)), some (.int x1), some (.int x2), some (.int x3), none, none, none, none] [.int v77] h_1 (j77 v77) := by
            intro v77
            subst ej77
            refine g_istore (lv' := [some (.ref (ad 0)), some (.int x1), some (.int x2), some (.int x3), none, none, some (.int v77), none]) C hnL iX7_follow_77 (by decide) rfl ?_
            refine g_aload_n C iX7_follow_79 rfl ?_
            refine g_getR (b := 7) C fX7_28 iX7_follow_80 mh0 rfl ?_
            refine g_bipush C 44 iX7_follow_83 (by decide) ?_
            refine g_iload_n C iX7_follow_85 rfl ?_
            refine g_iadd C iX7_follow_86 ?_
            refine g_iaload C iX7_follow_87 mh7 ?_
            refine g_iload C iX7_follow_88 rfl ?_
            refine g_iadd C iX7_follow_90 ?_
            refine g_top (fun x7 => ?_)
            refine g_istore (lv' := [some (.ref (ad 0)), some (.int x1), some (.int x2), some (.int x3), none, none, some (.int v77), some (.int x7)]) C hnL iX7_follow_91 (by decide) rfl ?_
            refine g_aload_n C iX7_follow_93 rfl ?_
            refine g_getR (b := 7) C fX7_28 iX7_follow_94 mh0 rfl ?_
            refine g_bipush C 44 iX7_follow_97 (by decide) ?_
            refine g_iload_n C iX7_follow_99 rfl ?_
            refine g_iadd C iX7_follow_100 ?_
            refine g_iload C iX7_follow_101 rfl ?_
            refine g_if_ge C 110 iX7_follow_103 (by decide) (fun c103 => ?_) (fun c103 => ?_)
            · refine g_iload C iX7_follow_110 rfl ?_
              refine g_aload_n C iX7_follow_112 rfl ?_
              refine g_getR (b := 4) C fX7_19 iX7_follow_113 mh0 rfl ?_
              refine g_iconst C 4 iX7_follow_116 (by decide) ?_
              refine g_iload_n C iX7_follow_117 rfl ?_
              refine g_imul C iX7_follow_118 ?_
              refine g_iconst C 1 iX7_follow_119 (by decide) ?_
              refine g_iadd C iX7_follow_120 ?_
              refine g_iaload C iX7_follow_121 mh4 ?_
              refine g_icmp_le C 138 iX7_follow_122 (by decide) (fun c122 => ?_) (fun c122 => ?_)
              · refine g_iload C iX7_follow_138 rfl ?_
                refine g_iastore C iX7_follow_140 mh7 (fun h_2 => ?_)
                refine g_iinc (v := (x3 + 1)) (lv' := [some (.ref (ad 0)), some (.int x1), some (.int x2), some (.int (x3 + 1)), none, none, some (.int v77), some (.int x7)]) C hnL iX7_follow_141 (by decide) rfl rfl rfl ?_
                refine g_goto C 2 iX7_follow_144 (by decide) ?_
                refine g_sub (lv' := [some (.ref (ad 0)), some (.int x1), some (.int x2), some (.int (x3 + 1)), none, none, none, none]) ⟨rfl, ⟨rfl, ⟨rfl, ⟨rfl, trivial⟩⟩⟩⟩ ?_
                exact ih2 _ _
              · refine g_aload_n C iX7_follow_125 rfl ?_
                refine g_getR (b := 4) C fX7_19 iX7_follow_126 mh0 rfl ?_
                refine g_iconst C 4 iX7_follow_129 (by decide) ?_
                refine g_iload_n C iX7_follow_130 rfl ?_
                refine g_imul C iX7_follow_131 ?_
                refine g_iconst C 1 iX7_follow_132 (by decide) ?_
                refine g_iadd C iX7_follow_133 ?_
                refine g_iaload C iX7_follow_134 mh4 ?_
                refine g_goto C 140 iX7_follow_135 (by decide) ?_
                refine g_iastore C iX7_follow_140 mh7 (fun h_3 => ?_)
                refine g_iinc (v := (x3 + 1)) (lv' := [some (.ref (ad 0)), some (.int x1), some (.int x2), some (.int (x3 + 1)), none, none, some (.int v77), some (.int x7)]) C hnL iX7_follow_141 (by decide) rfl rfl rfl ?_
                refine g_goto C 2 iX7_follow_144 (by decide) ?_
                refine g_sub (lv' := [some (.ref (ad 0)), some (.int x1), some (.int x2), some (.int (x3 + 1)), none, none, none, none]) ⟨rfl, ⟨rfl, ⟨rfl, ⟨rfl, trivial⟩⟩⟩⟩ ?_
                exact ih2 _ _
            · refine g_iconst C 0 iX7_follow_106 (by decide) ?_
              refine g_goto C 140 iX7_follow_107 (by decide) ?_
              refine g_iastore C iX7_follow_140 mh7 (fun h_4 => ?_)
              refine g_iinc (v := (x3 + 1)) (lv' := [some (.ref (ad 0)), some (.int x1), some (.int x2), some (.int (x3 + 1)), none, none, some (.int v77), some (.int x7)]) C hnL iX7_follow_141 (by decide) rfl rfl rfl ?_
              refine g_goto C 2 iX7_follow_144 (by decide) ?_
              refine g_sub (lv' := [some (.ref (ad 0)), some (.int x1), some (.int x2), some (.int (x3 + 1)), none, none, none, none]) ⟨rfl, ⟨rfl, ⟨rfl, ⟨rfl, trivial⟩⟩⟩⟩ ?_
              exact ih2 _ _
          clear ej77
          refine g_icmp_le C 61 iX7_follow_53 (by decide) (fun c53 => ?_) (fun c53 => ?_)
          · refine g_iload C iX7_follow_61 rfl ?_
            refine g_iload C iX7_follow_63 rfl ?_
            refine g_ineg C iX7_follow_65 ?_
            refine g_icmp_ge C 75 iX7_follow_66 (by decide) (fun c66 => ?_) (fun c66 => ?_)
            · refine g_iload C iX7_follow_75 rfl ?_
              refine g_sub (lv' := [some (.ref (ad 0)), some (.int x1), some (.int x2), some (.int x3), none, none, none, none]) ⟨rfl, ⟨rfl, ⟨rfl, ⟨rfl, trivial⟩⟩⟩⟩ ?_
              exact hj77 _
            · refine g_iload C iX7_follow_69 rfl ?_
              refine g_ineg C iX7_follow_71 ?_
              refine g_goto C 77 iX7_follow_72 (by decide) ?_
              refine g_sub (lv' := [some (.ref (ad 0)), some (.int x1), some (.int x2), some (.int x3), none, none, none, none]) ⟨rfl, ⟨rfl, ⟨rfl, ⟨rfl, trivial⟩⟩⟩⟩ ?_
              exact hj77 _
          · refine g_iload C iX7_follow_56 rfl ?_
            refine g_goto C 77 iX7_follow_58 (by decide) ?_
            refine g_sub (lv' := [some (.ref (ad 0)), some (.int x1), some (.int x2), some (.int x3), none, none, none, none]) ⟨rfl, ⟨rfl, ⟨rfl, ⟨rfl, trivial⟩⟩⟩⟩ ?_
            exact hj77 _
  refine L2 _ (fun h_5 => ?_) 1000 _ _
  show zG X ad shM eV 147 [none, none, none, none, none, none, none, none] [] h_5 _
  exact g_vret C iX7_follow_147 rfl

set_option maxRecDepth 100000 in
theorem wX7_134 : zCv RX7 134 yX7_frequency cX7_frequency 4 none 2 := ⟨⟨(zmem 952 (by decide +kernel) (by decide +kernel)), (zmem 76 (by decide +kernel) (by decide +kernel)), (zmem 955 rfl rfl), ⟨by decide, by decide, by decide +kernel⟩, by decide⟩, (zmem 954 (by decide +kernel) (by decide +kernel)), (zmem 45 (by decide +kernel) (by decide +kernel))⟩
theorem iX7_goesDark_3 : zI cX7_goesDark 3 (.invokevirtual 134) 3 6 := ⟨by decide +kernel, rfl⟩
set_option maxRecDepth 100000 in
theorem wX7_138 : zCv RX7 138 yX7_dropAll cX7_dropAll 5 (some .boolean) 2 := ⟨⟨(zmem 956 (by decide +kernel) (by decide +kernel)), (zmem 76 (by decide +kernel) (by decide +kernel)), (zmem 959 rfl rfl), ⟨by decide, by decide, by decide +kernel⟩, by decide⟩, (zmem 958 (by decide +kernel) (by decide +kernel)), (zmem 46 (by decide +kernel) (by decide +kernel))⟩
theorem iX7_goesDark_9 : zI cX7_goesDark 9 (.invokevirtual 138) 3 12 := ⟨by decide +kernel, rfl⟩
theorem iX7_goesDark_22 : zI cX7_goesDark 22 (.if_icmp .ge 46) 3 25 := ⟨by decide +kernel, rfl⟩
theorem iX7_goesDark_42 : zI cX7_goesDark 42 (.invokestatic 66) 3 45 := ⟨by decide +kernel, rfl⟩
theorem iX7_goesDark_45 : zI cX7_goesDark 45 (.ifCond .eq 7) 3 48 := ⟨by decide +kernel, rfl⟩
theorem iX7_goesDark_65 : zI cX7_goesDark 65 (.goto (-50)) 3 68 := ⟨by decide +kernel, rfl⟩
theorem iX7_goesDark_62 : zI cX7_goesDark 62 (.iinc 2 1) 3 65 := ⟨by decide +kernel, rfl⟩
theorem iX7_goesDark_61 : zI cX7_goesDark 61 (.iastore) 1 62 := ⟨by decide +kernel, rfl⟩
theorem iX7_goesDark_60 : zI cX7_goesDark 60 (.iaload) 1 61 := ⟨by decide +kernel, rfl⟩
theorem iX7_goesDark_59 : zI cX7_goesDark 59 (.iadd) 1 60 := ⟨by decide +kernel, rfl⟩
theorem iX7_goesDark_58 : zI cX7_goesDark 58 (.iload_n 2) 1 59 := ⟨by decide +kernel, rfl⟩
theorem iX7_goesDark_56 : zI cX7_goesDark 56 (.bipush 44) 2 58 := ⟨by decide +kernel, rfl⟩
theorem iX7_goesDark_53 : zI cX7_goesDark 53 (.getfield 28) 3 56 := ⟨by decide +kernel, rfl⟩
theorem iX7_goesDark_52 : zI cX7_goesDark 52 (.aload_n 0) 1 53 := ⟨by decide +kernel, rfl⟩
theorem iX7_goesDark_49 : zI cX7_goesDark 49 (.goto 12) 3 52 := ⟨by decide +kernel, rfl⟩
theorem iX7_goesDark_48 : zI cX7_goesDark 48 (.iconst 0) 1 49 := ⟨by decide +kernel, rfl⟩
theorem iX7_goesDark_41 : zI cX7_goesDark 41 (.iaload) 1 42 := ⟨by decide +kernel, rfl⟩
theorem iX7_goesDark_40 : zI cX7_goesDark 40 (.imul) 1 41 := ⟨by decide +kernel, rfl⟩
theorem iX7_goesDark_39 : zI cX7_goesDark 39 (.iload_n 2) 1 40 := ⟨by decide +kernel, rfl⟩
theorem iX7_goesDark_38 : zI cX7_goesDark 38 (.iconst 4) 1 39 := ⟨by decide +kernel, rfl⟩
theorem iX7_goesDark_35 : zI cX7_goesDark 35 (.getfield 19) 3 38 := ⟨by decide +kernel, rfl⟩
theorem iX7_goesDark_34 : zI cX7_goesDark 34 (.aload_n 0) 1 35 := ⟨by decide +kernel, rfl⟩
theorem iX7_goesDark_33 : zI cX7_goesDark 33 (.iload_n 1) 1 34 := ⟨by decide +kernel, rfl⟩
theorem iX7_goesDark_32 : zI cX7_goesDark 32 (.iadd) 1 33 := ⟨by decide +kernel, rfl⟩
theorem iX7_goesDark_31 : zI cX7_goesDark 31 (.iload_n 2) 1 32 := ⟨by decide +kernel, rfl⟩
theorem iX7_goesDark_29 : zI cX7_goesDark 29 (.bipush 44) 2 31 := ⟨by decide +kernel, rfl⟩
theorem iX7_goesDark_26 : zI cX7_goesDark 26 (.getfield 28) 3 29 := ⟨by decide +kernel, rfl⟩
theorem iX7_goesDark_25 : zI cX7_goesDark 25 (.aload_n 0) 1 26 := ⟨by decide +kernel, rfl⟩
theorem iX7_goesDark_21 : zI cX7_goesDark 21 (.iaload) 1 22 := ⟨by decide +kernel, rfl⟩
theorem iX7_goesDark_20 : zI cX7_goesDark 20 (.iconst 2) 1 21 := ⟨by decide +kernel, rfl⟩
theorem iX7_goesDark_17 : zI cX7_goesDark 17 (.getfield 13) 3 20 := ⟨by decide +kernel, rfl⟩
theorem iX7_goesDark_16 : zI cX7_goesDark 16 (.aload_n 0) 1 17 := ⟨by decide +kernel, rfl⟩
theorem iX7_goesDark_15 : zI cX7_goesDark 15 (.iload_n 2) 1 16 := ⟨by decide +kernel, rfl⟩
theorem iX7_goesDark_68 : zI cX7_goesDark 68 (.return_) 1 69 := ⟨by decide +kernel, rfl⟩
theorem iX7_goesDark_14 : zI cX7_goesDark 14 (.istore_n 2) 1 15 := ⟨by decide +kernel, rfl⟩
theorem iX7_goesDark_13 : zI cX7_goesDark 13 (.iconst 0) 1 14 := ⟨by decide +kernel, rfl⟩
theorem iX7_goesDark_12 : zI cX7_goesDark 12 (.pop) 1 13 := ⟨by decide +kernel, rfl⟩
theorem iX7_goesDark_8 : zI cX7_goesDark 8 (.iconst (-1)) 1 9 := ⟨by decide +kernel, rfl⟩
theorem iX7_goesDark_7 : zI cX7_goesDark 7 (.iload_n 1) 1 8 := ⟨by decide +kernel, rfl⟩
theorem iX7_goesDark_6 : zI cX7_goesDark 6 (.aload_n 0) 1 7 := ⟨by decide +kernel, rfl⟩
theorem iX7_goesDark_2 : zI cX7_goesDark 2 (.iconst 0) 1 3 := ⟨by decide +kernel, rfl⟩
theorem iX7_goesDark_1 : zI cX7_goesDark 1 (.iload_n 1) 1 2 := ⟨by decide +kernel, rfl⟩
theorem iX7_goesDark_0 : zI cX7_goesDark 0 (.aload_n 0) 1 1 := ⟨by decide +kernel, rfl⟩
set_option maxHeartbeats 4000000 in
set_option maxRecDepth 100000 in
theorem m_Mo_goesDark (x1 : Int32) (h : zH) : zM yX7_goesDark cX7_goesDark 3 none 2 shM (fun ad => [.ref (ad 0), .int x1]) h eV (Mo_goesDark x1 h) := by
  refine zM.of (by decide) (fun _ => rfl) (fun _ => Nat.le_of_ble_eq_true rfl) (fun X ad hnL C => ?_)
  show zG X ad shM eV 0 [some (.ref (ad 0)), some (.int x1), none] [] h _
  unfold Mo_goesDark
  refine g_aload_n C iX7_goesDark_0 rfl ?_
  refine g_iload_n C iX7_goesDark_1 rfl ?_
  refine g_iconst C 0 iX7_goesDark_2 (by decide) ?_
  refine g_callV C wX7_134 iX7_goesDark_3 (m_Mo_frequency x1 0 h) (by decide) mh0 rfl rfl rfl rfl (Nat.le_of_ble_eq_true rfl) (fun h_1 => ?_)
  show zG X ad shM eV 6 [some (.ref (ad 0)), some (.int x1), none] [] h_1 _
  refine g_aload_n C iX7_goesDark_6 rfl ?_
  refine g_iload_n C iX7_goesDark_7 rfl ?_
  refine g_iconst C (-1) iX7_goesDark_8 (by decide) ?_
  refine g_callV C wX7_138 iX7_goesDark_9 (m_Mo_dropAll x1 (-1) h_1) (by decide) mh0 rfl rfl rfl rfl (Nat.le_of_ble_eq_true rfl) (fun r => ?_)
  show zG X ad shM eV 12 [some (.ref (ad 0)), some (.int x1), none] [.int r.1] r.2 _
  refine g_pop C iX7_goesDark_12 rfl ?_
  refine g_iconst C 0 iX7_goesDark_13 (by decide) ?_
  refine g_istore_n (lv' := [some (.ref (ad 0)), some (.int x1), some (.int 0)]) C hnL iX7_goesDark_14 (by decide) rfl ?_
  have L15 : ∀ (k68 : zH → Option (zH)), (∀ (hy : zH), zG X ad shM eV 68 [none, none, none] [] hy (k68 hy)) → ∀ (n : Nat) (x2 : Int32) (h_2 : zH), zG X ad shM eV 15 [some (.ref (ad 0)), some (.int x1), some (.int x2)] [] h_2 (Mo_goesDark_L15 x1 k68 n x2 h_2) := by
    intro k68 hk68 n
    induction n with
    | zero =>
      intro x2 h_2
      exact g_none
    | succ n ih15 =>
      intro x2 h_2
      rw [Mo_goesDark_L15]
      refine g_iload_n C iX7_goesDark_15 rfl ?_
      refine g_aload_n C iX7_goesDark_16 rfl ?_
      refine g_getR (b := 2) C fX7_13 iX7_goesDark_17 mh0 rfl ?_
      refine g_iconst C 2 iX7_goesDark_20 (by decide) ?_
      refine g_ialoadL C 2 iX7_goesDark_21 mh2 (by decide) (by decide) ?_
      refine g_icmp_ge C 68 iX7_goesDark_22 (by decide) (fun c22 => ?_) (fun c22 => ?_)
      · refine g_sub (lv' := [none, none, none]) trivial ?_
        exact hk68 _
      · refine g_aload_n C iX7_goesDark_25 rfl ?_
        refine g_getR (b := 7) C fX7_28 iX7_goesDark_26 mh0 rfl ?_
        refine g_bipush C 44 iX7_goesDark_29 (by decide) ?_
        refine g_iload_n C iX7_goesDark_31 rfl ?_
        refine g_iadd C iX7_goesDark_32 ?_
        refine g_iload_n C iX7_goesDark_33 rfl ?_
        refine g_aload_n C iX7_goesDark_34 rfl ?_
        refine g_getR (b := 4) C fX7_19 iX7_goesDark_35 mh0 rfl ?_
        refine g_iconst C 4 iX7_goesDark_38 (by decide) ?_
        refine g_iload_n C iX7_goesDark_39 rfl ?_
        refine g_imul C iX7_goesDark_40 ?_
        refine g_iaload C iX7_goesDark_41 mh4 ?_
        refine g_callS C wX7_66 iX7_goesDark_42 (m_Mo_has x1 (h_2 4 (4 * x2).toNatClampNeg) h_2) (by decide) rfl rfl rfl (Nat.le_of_ble_eq_true rfl) (fun r_1 => ?_)
        show zG X ad shM eV 45 [some (.ref (ad 0)), some (.int x1), some (.int x2)] [.int r_1, .int (44 + x2), .ref (ad 7)] h_2 _
        refine g_if_eq C 52 iX7_goesDark_45 (by decide) (fun c45 => ?_) (fun c45 => ?_)
        · refine g_aload_n C iX7_goesDark_52 rfl ?_
          refine g_getR (b := 7) C fX7_28 iX7_goesDark_53 mh0 rfl ?_
          refine g_bipush C 44 iX7_goesDark_56 (by decide) ?_
          refine g_iload_n C iX7_goesDark_58 rfl ?_
          refine g_iadd C iX7_goesDark_59 ?_
          refine g_iaload C iX7_goesDark_60 mh7 ?_
          refine g_iastore C iX7_goesDark_61 mh7 (fun h_3 => ?_)
          refine g_iinc (v := (x2 + 1)) (lv' := [some (.ref (ad 0)), some (.int x1), some (.int (x2 + 1))]) C hnL iX7_goesDark_62 (by decide) rfl rfl rfl ?_
          refine g_goto C 15 iX7_goesDark_65 (by decide) ?_
          exact ih15 _ _
        · refine g_iconst C 0 iX7_goesDark_48 (by decide) ?_
          refine g_goto C 61 iX7_goesDark_49 (by decide) ?_
          refine g_iastore C iX7_goesDark_61 mh7 (fun h_4 => ?_)
          refine g_iinc (v := (x2 + 1)) (lv' := [some (.ref (ad 0)), some (.int x1), some (.int (x2 + 1))]) C hnL iX7_goesDark_62 (by decide) rfl rfl rfl ?_
          refine g_goto C 15 iX7_goesDark_65 (by decide) ?_
          exact ih15 _ _
  refine L15 _ (fun h_5 => ?_) 1000 _ _
  show zG X ad shM eV 68 [none, none, none] [] h_5 _
  exact g_vret C iX7_goesDark_68 rfl

theorem iX7_fitting_3 : zI cX7_fitting 3 (.invokevirtual 130) 3 6 := ⟨by decide +kernel, rfl⟩
theorem iX7_fitting_8 : zI cX7_fitting 8 (.invokevirtual 63) 3 11 := ⟨by decide +kernel, rfl⟩
theorem iX7_fitting_24 : zI cX7_fitting 24 (.ifCond .lt 54) 3 27 := ⟨by decide +kernel, rfl⟩
theorem iX7_fitting_48 : zI cX7_fitting 48 (.invokestatic 66) 3 51 := ⟨by decide +kernel, rfl⟩
theorem iX7_fitting_51 : zI cX7_fitting 51 (.ifCond .eq 21) 3 54 := ⟨by decide +kernel, rfl⟩
theorem iX7_fitting_75 : zI cX7_fitting 75 (.goto (-52)) 3 78 := ⟨by decide +kernel, rfl⟩
theorem iX7_fitting_72 : zI cX7_fitting 72 (.iinc 3 (-1)) 3 75 := ⟨by decide +kernel, rfl⟩
theorem iX7_fitting_66 : zI cX7_fitting 66 (.if_icmp .gt 6) 3 69 := ⟨by decide +kernel, rfl⟩
theorem iX7_fitting_65 : zI cX7_fitting 65 (.iload_n 2) 1 66 := ⟨by decide +kernel, rfl⟩
theorem iX7_fitting_64 : zI cX7_fitting 64 (.iaload) 1 65 := ⟨by decide +kernel, rfl⟩
theorem iX7_fitting_63 : zI cX7_fitting 63 (.iadd) 1 64 := ⟨by decide +kernel, rfl⟩
theorem iX7_fitting_62 : zI cX7_fitting 62 (.iconst 1) 1 63 := ⟨by decide +kernel, rfl⟩
theorem iX7_fitting_61 : zI cX7_fitting 61 (.imul) 1 62 := ⟨by decide +kernel, rfl⟩
theorem iX7_fitting_59 : zI cX7_fitting 59 (.iload 4) 2 61 := ⟨by decide +kernel, rfl⟩
theorem iX7_fitting_58 : zI cX7_fitting 58 (.iconst 3) 1 59 := ⟨by decide +kernel, rfl⟩
theorem iX7_fitting_55 : zI cX7_fitting 55 (.getfield 22) 3 58 := ⟨by decide +kernel, rfl⟩
theorem iX7_fitting_54 : zI cX7_fitting 54 (.aload_n 0) 1 55 := ⟨by decide +kernel, rfl⟩
theorem iX7_fitting_47 : zI cX7_fitting 47 (.iaload) 1 48 := ⟨by decide +kernel, rfl⟩
theorem iX7_fitting_46 : zI cX7_fitting 46 (.imul) 1 47 := ⟨by decide +kernel, rfl⟩
theorem iX7_fitting_44 : zI cX7_fitting 44 (.iload 4) 2 46 := ⟨by decide +kernel, rfl⟩
theorem iX7_fitting_43 : zI cX7_fitting 43 (.iconst 3) 1 44 := ⟨by decide +kernel, rfl⟩
theorem iX7_fitting_40 : zI cX7_fitting 40 (.getfield 22) 3 43 := ⟨by decide +kernel, rfl⟩
theorem iX7_fitting_39 : zI cX7_fitting 39 (.aload_n 0) 1 40 := ⟨by decide +kernel, rfl⟩
theorem iX7_fitting_38 : zI cX7_fitting 38 (.iload_n 1) 1 39 := ⟨by decide +kernel, rfl⟩
theorem iX7_fitting_36 : zI cX7_fitting 36 (.istore 4) 2 38 := ⟨by decide +kernel, rfl⟩
theorem iX7_fitting_35 : zI cX7_fitting 35 (.iaload) 1 36 := ⟨by decide +kernel, rfl⟩
theorem iX7_fitting_34 : zI cX7_fitting 34 (.iadd) 1 35 := ⟨by decide +kernel, rfl⟩
theorem iX7_fitting_33 : zI cX7_fitting 33 (.iload_n 3) 1 34 := ⟨by decide +kernel, rfl⟩
theorem iX7_fitting_31 : zI cX7_fitting 31 (.bipush 51) 2 33 := ⟨by decide +kernel, rfl⟩
theorem iX7_fitting_28 : zI cX7_fitting 28 (.getfield 28) 3 31 := ⟨by decide +kernel, rfl⟩
theorem iX7_fitting_27 : zI cX7_fitting 27 (.aload_n 0) 1 28 := ⟨by decide +kernel, rfl⟩
theorem iX7_fitting_23 : zI cX7_fitting 23 (.iload_n 3) 1 24 := ⟨by decide +kernel, rfl⟩
theorem iX7_fitting_71 : zI cX7_fitting 71 (.ireturn) 1 72 := ⟨by decide +kernel, rfl⟩
theorem iX7_fitting_69 : zI cX7_fitting 69 (.iload 4) 2 71 := ⟨by decide +kernel, rfl⟩
theorem iX7_fitting_80 : zI cX7_fitting 80 (.ireturn) 1 81 := ⟨by decide +kernel, rfl⟩
theorem iX7_fitting_78 : zI cX7_fitting 78 (.bipush (-4)) 2 80 := ⟨by decide +kernel, rfl⟩
theorem iX7_fitting_22 : zI cX7_fitting 22 (.istore_n 3) 1 23 := ⟨by decide +kernel, rfl⟩
theorem iX7_fitting_21 : zI cX7_fitting 21 (.isub) 1 22 := ⟨by decide +kernel, rfl⟩
theorem iX7_fitting_20 : zI cX7_fitting 20 (.iconst 1) 1 21 := ⟨by decide +kernel, rfl⟩
theorem iX7_fitting_19 : zI cX7_fitting 19 (.iaload) 1 20 := ⟨by decide +kernel, rfl⟩
theorem iX7_fitting_17 : zI cX7_fitting 17 (.bipush 50) 2 19 := ⟨by decide +kernel, rfl⟩
theorem iX7_fitting_14 : zI cX7_fitting 14 (.getfield 28) 3 17 := ⟨by decide +kernel, rfl⟩
theorem iX7_fitting_13 : zI cX7_fitting 13 (.aload_n 0) 1 14 := ⟨by decide +kernel, rfl⟩
theorem iX7_fitting_12 : zI cX7_fitting 12 (.istore_n 2) 1 13 := ⟨by decide +kernel, rfl⟩
theorem iX7_fitting_11 : zI cX7_fitting 11 (.isub) 1 12 := ⟨by decide +kernel, rfl⟩
theorem iX7_fitting_7 : zI cX7_fitting 7 (.iload_n 1) 1 8 := ⟨by decide +kernel, rfl⟩
theorem iX7_fitting_6 : zI cX7_fitting 6 (.aload_n 0) 1 7 := ⟨by decide +kernel, rfl⟩
theorem iX7_fitting_2 : zI cX7_fitting 2 (.iconst 1) 1 3 := ⟨by decide +kernel, rfl⟩
theorem iX7_fitting_1 : zI cX7_fitting 1 (.iload_n 1) 1 2 := ⟨by decide +kernel, rfl⟩
theorem iX7_fitting_0 : zI cX7_fitting 0 (.aload_n 0) 1 1 := ⟨by decide +kernel, rfl⟩
set_option maxHeartbeats 4000000 in
set_option maxRecDepth 100000 in
theorem m_Mo_fitting (x1 : Int32) (h : zH) : zM yX7_fitting cX7_fitting 5 (some .int) 2 shM (fun ad => [.ref (ad 0), .int x1]) h (eP h) (Mo_fitting x1 h) := by
  refine zM.of (by decide) (fun _ => rfl) (fun _ => Nat.le_of_ble_eq_true rfl) (fun X ad hnL C => ?_)
  show zG X ad shM (eP h) 0 [some (.ref (ad 0)), some (.int x1), none, none, none] [] h _
  unfold Mo_fitting
  refine g_aload_n C iX7_fitting_0 rfl ?_
  refine g_iload_n C iX7_fitting_1 rfl ?_
  refine g_iconst C 1 iX7_fitting_2 (by decide) ?_
  refine g_callV C wX7_130 iX7_fitting_3 (m_Mo_plants x1 1 h) (by decide) mh0 rfl rfl rfl rfl (Nat.le_of_ble_eq_true rfl) (fun r => ?_)
  show zG X ad shM (eP h) 6 [some (.ref (ad 0)), some (.int x1), none, none, none] [.int r] h _
  refine g_aload_n C iX7_fitting_6 rfl ?_
  refine g_iload_n C iX7_fitting_7 rfl ?_
  refine g_callV C wX7_63 iX7_fitting_8 (m_Mo_load x1 h) (by decide) mh0 rfl rfl rfl rfl (Nat.le_of_ble_eq_true rfl) (fun r_1 => ?_)
  show zG X ad shM (eP h) 11 [some (.ref (ad 0)), some (.int x1), none, none, none] [.int r_1, .int r] h _
  refine g_isub C iX7_fitting_11 ?_
  refine g_top (fun x2 => ?_)
  refine g_istore_n (lv' := [some (.ref (ad 0)), some (.int x1), some (.int x2), none, none]) C hnL iX7_fitting_12 (by decide) rfl ?_
  refine g_aload_n C iX7_fitting_13 rfl ?_
  refine g_getR (b := 7) C fX7_28 iX7_fitting_14 mh0 rfl ?_
  refine g_bipush C 50 iX7_fitting_17 (by decide) ?_
  refine g_ialoadL C 50 iX7_fitting_19 mh7 (by decide) (by decide) ?_
  refine g_iconst C 1 iX7_fitting_20 (by decide) ?_
  refine g_isub C iX7_fitting_21 ?_
  refine g_top (fun x3 => ?_)
  refine g_istore_n (lv' := [some (.ref (ad 0)), some (.int x1), some (.int x2), some (.int x3), none]) C hnL iX7_fitting_22 (by decide) rfl ?_
  have L23 : ∀ (k69 : Int32 → Option (Int32)), (∀ (y4 : Int32), zG X ad shM (eP h) 69 [none, none, none, none, some (.int y4)] [] h (k69 y4)) → ∀ (k78 : Option (Int32)), (zG X ad shM (eP h) 78 [none, none, none, none, none] [] h (k78)) → ∀ (n : Nat) (x3_1 : Int32), zG X ad shM (eP h) 23 [some (.ref (ad 0)), some (.int x1), some (.int x2), some (.int x3_1), none] [] h (Mo_fitting_L23 x1 h x2 k69 k78 n x3_1) := by
    intro k69 hk69 k78 hk78 n
    induction n with
    | zero =>
      intro x3_1
      exact g_none
    | succ n ih23 =>
      intro x3_1
      rw [Mo_fitting_L23]
      refine g_iload_n C iX7_fitting_23 rfl ?_
      refine g_if_lt C 78 iX7_fitting_24 (by decide) (fun c24 => ?_) (fun c24 => ?_)
      · refine g_sub (lv' := [none, none, none, none, none]) trivial ?_
        exact hk78
      · refine g_aload_n C iX7_fitting_27 rfl ?_
        refine g_getR (b := 7) C fX7_28 iX7_fitting_28 mh0 rfl ?_
        refine g_bipush C 51 iX7_fitting_31 (by decide) ?_
        refine g_iload_n C iX7_fitting_33 rfl ?_
        refine g_iadd C iX7_fitting_34 ?_
        refine g_iaload C iX7_fitting_35 mh7 ?_
        refine g_top (fun x4 => ?_)
        refine g_istore (lv' := [some (.ref (ad 0)), some (.int x1), some (.int x2), some (.int x3_1), some (.int x4)]) C hnL iX7_fitting_36 (by decide) rfl ?_
        refine g_iload_n C iX7_fitting_38 rfl ?_
        refine g_aload_n C iX7_fitting_39 rfl ?_
        refine g_getR (b := 5) C fX7_22 iX7_fitting_40 mh0 rfl ?_
        refine g_iconst C 3 iX7_fitting_43 (by decide) ?_
        refine g_iload C iX7_fitting_44 rfl ?_
        refine g_imul C iX7_fitting_46 ?_
        refine g_iaload C iX7_fitting_47 mh5 ?_
        refine g_callS C wX7_66 iX7_fitting_48 (m_Mo_has x1 (h 5 (3 * x4).toNatClampNeg) h) (by decide) rfl rfl rfl (Nat.le_of_ble_eq_true rfl) (fun r_2 => ?_)
        show zG X ad shM (eP h) 51 [some (.ref (ad 0)), some (.int x1), some (.int x2), some (.int x3_1), some (.int x4)] [.int r_2] h _
        refine g_if_eq C 72 iX7_fitting_51 (by decide) (fun c51 => ?_) (fun c51 => ?_)
        · refine g_iinc (v := (x3_1 + (-1))) (lv' := [some (.ref (ad 0)), some (.int x1), some (.int x2), some (.int (x3_1 + (-1))), some (.int x4)]) C hnL iX7_fitting_72 (by decide) rfl rfl rfl ?_
          refine g_goto C 23 iX7_fitting_75 (by decide) ?_
          refine g_sub (lv' := [some (.ref (ad 0)), some (.int x1), some (.int x2), some (.int (x3_1 + (-1))), none]) ⟨rfl, ⟨rfl, ⟨rfl, ⟨rfl, trivial⟩⟩⟩⟩ ?_
          exact ih23 _
        · refine g_aload_n C iX7_fitting_54 rfl ?_
          refine g_getR (b := 5) C fX7_22 iX7_fitting_55 mh0 rfl ?_
          refine g_iconst C 3 iX7_fitting_58 (by decide) ?_
          refine g_iload C iX7_fitting_59 rfl ?_
          refine g_imul C iX7_fitting_61 ?_
          refine g_iconst C 1 iX7_fitting_62 (by decide) ?_
          refine g_iadd C iX7_fitting_63 ?_
          refine g_iaload C iX7_fitting_64 mh5 ?_
          refine g_iload_n C iX7_fitting_65 rfl ?_
          refine g_icmp_gt C 72 iX7_fitting_66 (by decide) (fun c66 => ?_) (fun c66 => ?_)
          · refine g_iinc (v := (x3_1 + (-1))) (lv' := [some (.ref (ad 0)), some (.int x1), some (.int x2), some (.int (x3_1 + (-1))), some (.int x4)]) C hnL iX7_fitting_72 (by decide) rfl rfl rfl ?_
            refine g_goto C 23 iX7_fitting_75 (by decide) ?_
            refine g_sub (lv' := [some (.ref (ad 0)), some (.int x1), some (.int x2), some (.int (x3_1 + (-1))), none]) ⟨rfl, ⟨rfl, ⟨rfl, ⟨rfl, trivial⟩⟩⟩⟩ ?_
            exact ih23 _
          · refine g_sub (lv' := [none, none, none, none, some (.int x4)]) ⟨rfl, trivial⟩ ?_
            exact hk69 _
  refine L23 _ (fun x4_1 => ?_) _ (?_) 1000 _
  · show zG X ad shM (eP h) 69 [none, none, none, none, some (.int x4_1)] [] h _
    refine g_iload C iX7_fitting_69 rfl ?_
    exact g_iret C iX7_fitting_71 rfl
  · show zG X ad shM (eP h) 78 [none, none, none, none, none] [] h _
    refine g_bipush C (-4) iX7_fitting_78 (by decide) ?_
    exact g_iret C iX7_fitting_80 rfl

