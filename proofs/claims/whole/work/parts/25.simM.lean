theorem iX7_at_2 : zI cX7_at 2 (.invokevirtual 185) 3 5 := ⟨by decide +kernel, rfl⟩
theorem iX7_at_5 : zI cX7_at 5 (.ifCond .ne 5) 3 8 := ⟨by decide +kernel, rfl⟩
theorem iX7_at_12 : zI cX7_at 12 (.invokevirtual 51) 3 15 := ⟨by decide +kernel, rfl⟩
theorem iX7_at_24 : zI cX7_at 24 (.invokestatic 66) 3 27 := ⟨by decide +kernel, rfl⟩
theorem iX7_at_27 : zI cX7_at 27 (.ifCond .ne 26) 3 30 := ⟨by decide +kernel, rfl⟩
theorem iX7_at_34 : zI cX7_at 34 (.invokevirtual 47) 3 37 := ⟨by decide +kernel, rfl⟩
theorem iX7_at_37 : zI cX7_at 37 (.ifCond .eq 7) 3 40 := ⟨by decide +kernel, rfl⟩
theorem iX7_at_50 : zI cX7_at 50 (.goto (-29)) 3 53 := ⟨by decide +kernel, rfl⟩
theorem iX7_at_47 : zI cX7_at 47 (.iinc 4 1) 3 50 := ⟨by decide +kernel, rfl⟩
theorem iX7_at_46 : zI cX7_at 46 (.istore_n 3) 1 47 := ⟨by decide +kernel, rfl⟩
theorem iX7_at_45 : zI cX7_at 45 (.iadd) 1 46 := ⟨by decide +kernel, rfl⟩
theorem iX7_at_44 : zI cX7_at 44 (.iconst 0) 1 45 := ⟨by decide +kernel, rfl⟩
theorem iX7_at_41 : zI cX7_at 41 (.goto 4) 3 44 := ⟨by decide +kernel, rfl⟩
theorem iX7_at_40 : zI cX7_at 40 (.iconst 1) 1 41 := ⟨by decide +kernel, rfl⟩
theorem iX7_at_32 : zI cX7_at 32 (.iload 4) 2 34 := ⟨by decide +kernel, rfl⟩
theorem iX7_at_31 : zI cX7_at 31 (.aload_n 0) 1 32 := ⟨by decide +kernel, rfl⟩
theorem iX7_at_30 : zI cX7_at 30 (.iload_n 3) 1 31 := ⟨by decide +kernel, rfl⟩
theorem iX7_at_22 : zI cX7_at 22 (.iload 4) 2 24 := ⟨by decide +kernel, rfl⟩
theorem iX7_at_21 : zI cX7_at 21 (.iload_n 2) 1 22 := ⟨by decide +kernel, rfl⟩
theorem iX7_at_54 : zI cX7_at 54 (.ireturn) 1 55 := ⟨by decide +kernel, rfl⟩
theorem iX7_at_53 : zI cX7_at 53 (.iload_n 3) 1 54 := ⟨by decide +kernel, rfl⟩
theorem iX7_at_19 : zI cX7_at 19 (.istore 4) 2 21 := ⟨by decide +kernel, rfl⟩
theorem iX7_at_18 : zI cX7_at 18 (.iconst 0) 1 19 := ⟨by decide +kernel, rfl⟩
theorem iX7_at_17 : zI cX7_at 17 (.istore_n 3) 1 18 := ⟨by decide +kernel, rfl⟩
theorem iX7_at_16 : zI cX7_at 16 (.iconst 0) 1 17 := ⟨by decide +kernel, rfl⟩
theorem iX7_at_15 : zI cX7_at 15 (.istore_n 2) 1 16 := ⟨by decide +kernel, rfl⟩
theorem iX7_at_11 : zI cX7_at 11 (.iload_n 1) 1 12 := ⟨by decide +kernel, rfl⟩
theorem iX7_at_10 : zI cX7_at 10 (.aload_n 0) 1 11 := ⟨by decide +kernel, rfl⟩
theorem iX7_at_9 : zI cX7_at 9 (.ireturn) 1 10 := ⟨by decide +kernel, rfl⟩
theorem iX7_at_8 : zI cX7_at 8 (.iconst (-1)) 1 9 := ⟨by decide +kernel, rfl⟩
theorem iX7_at_1 : zI cX7_at 1 (.iload_n 1) 1 2 := ⟨by decide +kernel, rfl⟩
theorem iX7_at_0 : zI cX7_at 0 (.aload_n 0) 1 1 := ⟨by decide +kernel, rfl⟩
set_option maxHeartbeats 4000000 in
set_option maxRecDepth 100000 in
theorem m_Mo_at (x1 : Int32) (h : zH) : zM yX7_at cX7_at 5 (some .int) 3 shM (fun ad => [.ref (ad 0), .int x1]) h (eP h) (Mo_at x1 h) := by
  refine zM.of (by decide) (fun _ => rfl) (fun _ => Nat.le_of_ble_eq_true rfl) (fun X ad hnL C => ?_)
  show zG X ad shM (eP h) 0 [some (.ref (ad 0)), some (.int x1), none, none, none] [] h _
  unfold Mo_at
  refine g_aload_n C iX7_at_0 rfl ?_
  refine g_iload_n C iX7_at_1 rfl ?_
  refine g_callV C wX7_185 iX7_at_2 (m_Mo_isBus x1 h) (by decide) mh0 rfl rfl rfl rfl (Nat.le_of_ble_eq_true rfl) (fun r => ?_)
  show zG X ad shM (eP h) 5 [some (.ref (ad 0)), some (.int x1), none, none, none] [.int r] h _
  refine g_if_ne C 10 iX7_at_5 (by decide) (fun c5 => ?_) (fun c5 => ?_)
  · refine g_iconst C (-1) iX7_at_8 (by decide) ?_
    exact g_iret C iX7_at_9 rfl
  · refine g_aload_n C iX7_at_10 rfl ?_
    refine g_iload_n C iX7_at_11 rfl ?_
    refine g_callV C wX7_51 iX7_at_12 (m_Mo_busesOf x1 h) (by decide) mh0 rfl rfl rfl rfl (Nat.le_of_ble_eq_true rfl) (fun r_1 => ?_)
    show zG X ad shM (eP h) 15 [some (.ref (ad 0)), some (.int x1), none, none, none] [.int r_1] h _
    refine g_istore_n (lv' := [some (.ref (ad 0)), some (.int x1), some (.int r_1), none, none]) C hnL iX7_at_15 (by decide) rfl ?_
    refine g_iconst C 0 iX7_at_16 (by decide) ?_
    refine g_istore_n (lv' := [some (.ref (ad 0)), some (.int x1), some (.int r_1), some (.int 0), none]) C hnL iX7_at_17 (by decide) rfl ?_
    refine g_iconst C 0 iX7_at_18 (by decide) ?_
    refine g_istore (lv' := [some (.ref (ad 0)), some (.int x1), some (.int r_1), some (.int 0), some (.int 0)]) C hnL iX7_at_19 (by decide) rfl ?_
    have L21 : ∀ (k53 : Int32 → Option (Int32)), (∀ (y3 : Int32), zG X ad shM (eP h) 53 [none, none, none, some (.int y3), none] [] h (k53 y3)) → ∀ (n : Nat) (x3 x4 : Int32), zG X ad shM (eP h) 21 [some (.ref (ad 0)), none, some (.int r_1), some (.int x3), some (.int x4)] [] h (Mo_at_L21 h r_1 k53 n x3 x4) := by
      intro k53 hk53 n
      induction n with
      | zero =>
        intro x3 x4
        exact g_none
      | succ n ih21 =>
        intro x3 x4
        rw [Mo_at_L21]
        refine g_iload_n C iX7_at_21 rfl ?_
        refine g_iload C iX7_at_22 rfl ?_
        refine g_callS C wX7_66 iX7_at_24 (m_Mo_has r_1 x4 h) (by decide) rfl rfl rfl (Nat.le_of_ble_eq_true rfl) (fun r_2 => ?_)
        show zG X ad shM (eP h) 27 [some (.ref (ad 0)), none, some (.int r_1), some (.int x3), some (.int x4)] [.int r_2] h _
        refine g_if_ne C 53 iX7_at_27 (by decide) (fun c27 => ?_) (fun c27 => ?_)
        · refine g_iload_n C iX7_at_30 rfl ?_
          refine g_aload_n C iX7_at_31 rfl ?_
          refine g_iload C iX7_at_32 rfl ?_
          refine g_callV C wX7_47 iX7_at_34 (m_Mo_isLowest x4 h) (by decide) mh0 rfl rfl rfl rfl (Nat.le_of_ble_eq_true rfl) (fun r_3 => ?_)
          show zG X ad shM (eP h) 37 [some (.ref (ad 0)), none, some (.int r_1), some (.int x3), some (.int x4)] [.int r_3, .int x3] h _
          refine g_if_eq C 44 iX7_at_37 (by decide) (fun c37 => ?_) (fun c37 => ?_)
          · refine g_iconst C 0 iX7_at_44 (by decide) ?_
            refine g_iadd C iX7_at_45 ?_
            refine g_top (fun x3_1 => ?_)
            refine g_istore_n (lv' := [some (.ref (ad 0)), none, some (.int r_1), some (.int x3_1), some (.int x4)]) C hnL iX7_at_46 (by decide) rfl ?_
            refine g_iinc (v := (x4 + 1)) (lv' := [some (.ref (ad 0)), none, some (.int r_1), some (.int x3_1), some (.int (x4 + 1))]) C hnL iX7_at_47 (by decide) rfl rfl rfl ?_
            refine g_goto C 21 iX7_at_50 (by decide) ?_
            exact ih21 _ _
          · refine g_iconst C 1 iX7_at_40 (by decide) ?_
            refine g_goto C 45 iX7_at_41 (by decide) ?_
            refine g_iadd C iX7_at_45 ?_
            refine g_top (fun x3_2 => ?_)
            refine g_istore_n (lv' := [some (.ref (ad 0)), none, some (.int r_1), some (.int x3_2), some (.int x4)]) C hnL iX7_at_46 (by decide) rfl ?_
            refine g_iinc (v := (x4 + 1)) (lv' := [some (.ref (ad 0)), none, some (.int r_1), some (.int x3_2), some (.int (x4 + 1))]) C hnL iX7_at_47 (by decide) rfl rfl rfl ?_
            refine g_goto C 21 iX7_at_50 (by decide) ?_
            exact ih21 _ _
        · refine g_sub (lv' := [none, none, none, some (.int x3), none]) ⟨rfl, trivial⟩ ?_
          exact hk53 _
    refine g_sub (lv' := [some (.ref (ad 0)), none, some (.int r_1), some (.int 0), some (.int 0)]) ⟨rfl, ⟨rfl, ⟨rfl, ⟨rfl, trivial⟩⟩⟩⟩ ?_
    refine L21 _ (fun x3_3 => ?_) 1000 _ _
    show zG X ad shM (eP h) 53 [none, none, none, some (.int x3_3), none] [] h _
    refine g_iload_n C iX7_at_53 rfl ?_
    exact g_iret C iX7_at_54 rfl

theorem iX7_plant_10 : zI cX7_plant 10 (.invokestatic 82) 3 13 := ⟨by decide +kernel, rfl⟩
theorem iX7_plant_13 : zI cX7_plant 13 (.ifCond .eq 15) 3 16 := ⟨by decide +kernel, rfl⟩
theorem iX7_plant_29 : zI cX7_plant 29 (.ireturn) 1 30 := ⟨by decide +kernel, rfl⟩
theorem iX7_plant_28 : zI cX7_plant 28 (.iconst (-1)) 1 29 := ⟨by decide +kernel, rfl⟩
theorem iX7_plant_25 : zI cX7_plant 25 (.goto 4) 3 28 := ⟨by decide +kernel, rfl⟩
theorem iX7_plant_24 : zI cX7_plant 24 (.iaload) 1 25 := ⟨by decide +kernel, rfl⟩
theorem iX7_plant_23 : zI cX7_plant 23 (.iadd) 1 24 := ⟨by decide +kernel, rfl⟩
theorem iX7_plant_22 : zI cX7_plant 22 (.iload_n 1) 1 23 := ⟨by decide +kernel, rfl⟩
theorem iX7_plant_20 : zI cX7_plant 20 (.bipush 44) 2 22 := ⟨by decide +kernel, rfl⟩
theorem iX7_plant_17 : zI cX7_plant 17 (.getfield 28) 3 20 := ⟨by decide +kernel, rfl⟩
theorem iX7_plant_16 : zI cX7_plant 16 (.aload_n 0) 1 17 := ⟨by decide +kernel, rfl⟩
theorem iX7_plant_9 : zI cX7_plant 9 (.isub) 1 10 := ⟨by decide +kernel, rfl⟩
theorem iX7_plant_8 : zI cX7_plant 8 (.iconst 1) 1 9 := ⟨by decide +kernel, rfl⟩
theorem iX7_plant_7 : zI cX7_plant 7 (.iaload) 1 8 := ⟨by decide +kernel, rfl⟩
theorem iX7_plant_6 : zI cX7_plant 6 (.iconst 2) 1 7 := ⟨by decide +kernel, rfl⟩
theorem iX7_plant_3 : zI cX7_plant 3 (.getfield 13) 3 6 := ⟨by decide +kernel, rfl⟩
theorem iX7_plant_2 : zI cX7_plant 2 (.aload_n 0) 1 3 := ⟨by decide +kernel, rfl⟩
theorem iX7_plant_1 : zI cX7_plant 1 (.iconst 0) 1 2 := ⟨by decide +kernel, rfl⟩
theorem iX7_plant_0 : zI cX7_plant 0 (.iload_n 1) 1 1 := ⟨by decide +kernel, rfl⟩
set_option maxHeartbeats 4000000 in
set_option maxRecDepth 100000 in
theorem m_Mo_plant (x1 : Int32) (h : zH) : zM yX7_plant cX7_plant 2 (some .int) 1 shM (fun ad => [.ref (ad 0), .int x1]) h (eP h) (Mo_plant x1 h) := by
  refine zM.of (by decide) (fun _ => rfl) (fun _ => Nat.le_of_ble_eq_true rfl) (fun X ad hnL C => ?_)
  show zG X ad shM (eP h) 0 [some (.ref (ad 0)), some (.int x1)] [] h _
  unfold Mo_plant
  refine g_iload_n C iX7_plant_0 rfl ?_
  refine g_iconst C 0 iX7_plant_1 (by decide) ?_
  refine g_aload_n C iX7_plant_2 rfl ?_
  refine g_getR (b := 2) C fX7_13 iX7_plant_3 mh0 rfl ?_
  refine g_iconst C 2 iX7_plant_6 (by decide) ?_
  refine g_ialoadL C 2 iX7_plant_7 mh2 (by decide) (by decide) ?_
  refine g_iconst C 1 iX7_plant_8 (by decide) ?_
  refine g_isub C iX7_plant_9 ?_
  refine g_callS C wX7_82 iX7_plant_10 (m_Mo_isIn x1 0 ((h 2 2) - 1) h) (by decide) rfl rfl rfl (Nat.le_of_ble_eq_true rfl) (fun r => ?_)
  show zG X ad shM (eP h) 13 [some (.ref (ad 0)), some (.int x1)] [.int r] h _
  refine g_if_eq C 28 iX7_plant_13 (by decide) (fun c13 => ?_) (fun c13 => ?_)
  · refine g_iconst C (-1) iX7_plant_28 (by decide) ?_
    exact g_iret C iX7_plant_29 rfl
  · refine g_aload_n C iX7_plant_16 rfl ?_
    refine g_getR (b := 7) C fX7_28 iX7_plant_17 mh0 rfl ?_
    refine g_bipush C 44 iX7_plant_20 (by decide) ?_
    refine g_iload_n C iX7_plant_22 rfl ?_
    refine g_iadd C iX7_plant_23 ?_
    refine g_iaload C iX7_plant_24 mh7 ?_
    refine g_goto C 29 iX7_plant_25 (by decide) ?_
    exact g_iret C iX7_plant_29 rfl

theorem iX7_isOn_10 : zI cX7_isOn 10 (.invokestatic 82) 3 13 := ⟨by decide +kernel, rfl⟩
theorem iX7_isOn_13 : zI cX7_isOn 13 (.ifCond .eq 17) 3 16 := ⟨by decide +kernel, rfl⟩
theorem iX7_isOn_31 : zI cX7_isOn 31 (.ireturn) 1 32 := ⟨by decide +kernel, rfl⟩
theorem iX7_isOn_30 : zI cX7_isOn 30 (.iconst (-1)) 1 31 := ⟨by decide +kernel, rfl⟩
theorem iX7_isOn_27 : zI cX7_isOn 27 (.goto 4) 3 30 := ⟨by decide +kernel, rfl⟩
theorem iX7_isOn_26 : zI cX7_isOn 26 (.iand) 1 27 := ⟨by decide +kernel, rfl⟩
theorem iX7_isOn_25 : zI cX7_isOn 25 (.iconst 1) 1 26 := ⟨by decide +kernel, rfl⟩
theorem iX7_isOn_24 : zI cX7_isOn 24 (.ishr) 1 25 := ⟨by decide +kernel, rfl⟩
theorem iX7_isOn_23 : zI cX7_isOn 23 (.iload_n 1) 1 24 := ⟨by decide +kernel, rfl⟩
theorem iX7_isOn_22 : zI cX7_isOn 22 (.iaload) 1 23 := ⟨by decide +kernel, rfl⟩
theorem iX7_isOn_20 : zI cX7_isOn 20 (.bipush 42) 2 22 := ⟨by decide +kernel, rfl⟩
theorem iX7_isOn_17 : zI cX7_isOn 17 (.getfield 28) 3 20 := ⟨by decide +kernel, rfl⟩
theorem iX7_isOn_16 : zI cX7_isOn 16 (.aload_n 0) 1 17 := ⟨by decide +kernel, rfl⟩
theorem iX7_isOn_9 : zI cX7_isOn 9 (.isub) 1 10 := ⟨by decide +kernel, rfl⟩
theorem iX7_isOn_8 : zI cX7_isOn 8 (.iconst 1) 1 9 := ⟨by decide +kernel, rfl⟩
theorem iX7_isOn_7 : zI cX7_isOn 7 (.iaload) 1 8 := ⟨by decide +kernel, rfl⟩
theorem iX7_isOn_6 : zI cX7_isOn 6 (.iconst 3) 1 7 := ⟨by decide +kernel, rfl⟩
theorem iX7_isOn_3 : zI cX7_isOn 3 (.getfield 13) 3 6 := ⟨by decide +kernel, rfl⟩
theorem iX7_isOn_2 : zI cX7_isOn 2 (.aload_n 0) 1 3 := ⟨by decide +kernel, rfl⟩
theorem iX7_isOn_1 : zI cX7_isOn 1 (.iconst 0) 1 2 := ⟨by decide +kernel, rfl⟩
theorem iX7_isOn_0 : zI cX7_isOn 0 (.iload_n 1) 1 1 := ⟨by decide +kernel, rfl⟩
set_option maxHeartbeats 4000000 in
set_option maxRecDepth 100000 in
theorem m_Mo_isOn (x1 : Int32) (h : zH) : zM yX7_isOn cX7_isOn 2 (some .int) 1 shM (fun ad => [.ref (ad 0), .int x1]) h (eP h) (Mo_isOn x1 h) := by
  refine zM.of (by decide) (fun _ => rfl) (fun _ => Nat.le_of_ble_eq_true rfl) (fun X ad hnL C => ?_)
  show zG X ad shM (eP h) 0 [some (.ref (ad 0)), some (.int x1)] [] h _
  unfold Mo_isOn
  refine g_iload_n C iX7_isOn_0 rfl ?_
  refine g_iconst C 0 iX7_isOn_1 (by decide) ?_
  refine g_aload_n C iX7_isOn_2 rfl ?_
  refine g_getR (b := 2) C fX7_13 iX7_isOn_3 mh0 rfl ?_
  refine g_iconst C 3 iX7_isOn_6 (by decide) ?_
  refine g_ialoadL C 3 iX7_isOn_7 mh2 (by decide) (by decide) ?_
  refine g_iconst C 1 iX7_isOn_8 (by decide) ?_
  refine g_isub C iX7_isOn_9 ?_
  refine g_callS C wX7_82 iX7_isOn_10 (m_Mo_isIn x1 0 ((h 2 3) - 1) h) (by decide) rfl rfl rfl (Nat.le_of_ble_eq_true rfl) (fun r => ?_)
  show zG X ad shM (eP h) 13 [some (.ref (ad 0)), some (.int x1)] [.int r] h _
  refine g_if_eq C 30 iX7_isOn_13 (by decide) (fun c13 => ?_) (fun c13 => ?_)
  · refine g_iconst C (-1) iX7_isOn_30 (by decide) ?_
    exact g_iret C iX7_isOn_31 rfl
  · refine g_aload_n C iX7_isOn_16 rfl ?_
    refine g_getR (b := 7) C fX7_28 iX7_isOn_17 mh0 rfl ?_
    refine g_bipush C 42 iX7_isOn_20 (by decide) ?_
    refine g_ialoadL C 42 iX7_isOn_22 mh7 (by decide) (by decide) ?_
    refine g_iload_n C iX7_isOn_23 rfl ?_
    refine g_ishr C iX7_isOn_24 ?_
    refine g_iconst C 1 iX7_isOn_25 (by decide) ?_
    refine g_iand C iX7_isOn_26 ?_
    refine g_goto C 31 iX7_isOn_27 (by decide) ?_
    exact g_iret C iX7_isOn_31 rfl

theorem iX7_isClosed_10 : zI cX7_isClosed 10 (.invokestatic 82) 3 13 := ⟨by decide +kernel, rfl⟩
theorem iX7_isClosed_13 : zI cX7_isClosed 13 (.ifCond .eq 17) 3 16 := ⟨by decide +kernel, rfl⟩
theorem iX7_isClosed_31 : zI cX7_isClosed 31 (.ireturn) 1 32 := ⟨by decide +kernel, rfl⟩
theorem iX7_isClosed_30 : zI cX7_isClosed 30 (.iconst (-1)) 1 31 := ⟨by decide +kernel, rfl⟩
theorem iX7_isClosed_27 : zI cX7_isClosed 27 (.goto 4) 3 30 := ⟨by decide +kernel, rfl⟩
theorem iX7_isClosed_26 : zI cX7_isClosed 26 (.iand) 1 27 := ⟨by decide +kernel, rfl⟩
theorem iX7_isClosed_25 : zI cX7_isClosed 25 (.iconst 1) 1 26 := ⟨by decide +kernel, rfl⟩
theorem iX7_isClosed_24 : zI cX7_isClosed 24 (.ishr) 1 25 := ⟨by decide +kernel, rfl⟩
theorem iX7_isClosed_23 : zI cX7_isClosed 23 (.iload_n 1) 1 24 := ⟨by decide +kernel, rfl⟩
theorem iX7_isClosed_22 : zI cX7_isClosed 22 (.iaload) 1 23 := ⟨by decide +kernel, rfl⟩
theorem iX7_isClosed_20 : zI cX7_isClosed 20 (.bipush 43) 2 22 := ⟨by decide +kernel, rfl⟩
theorem iX7_isClosed_17 : zI cX7_isClosed 17 (.getfield 28) 3 20 := ⟨by decide +kernel, rfl⟩
theorem iX7_isClosed_16 : zI cX7_isClosed 16 (.aload_n 0) 1 17 := ⟨by decide +kernel, rfl⟩
theorem iX7_isClosed_9 : zI cX7_isClosed 9 (.isub) 1 10 := ⟨by decide +kernel, rfl⟩
theorem iX7_isClosed_8 : zI cX7_isClosed 8 (.iconst 1) 1 9 := ⟨by decide +kernel, rfl⟩
theorem iX7_isClosed_7 : zI cX7_isClosed 7 (.iaload) 1 8 := ⟨by decide +kernel, rfl⟩
theorem iX7_isClosed_6 : zI cX7_isClosed 6 (.iconst 1) 1 7 := ⟨by decide +kernel, rfl⟩
theorem iX7_isClosed_3 : zI cX7_isClosed 3 (.getfield 13) 3 6 := ⟨by decide +kernel, rfl⟩
theorem iX7_isClosed_2 : zI cX7_isClosed 2 (.aload_n 0) 1 3 := ⟨by decide +kernel, rfl⟩
theorem iX7_isClosed_1 : zI cX7_isClosed 1 (.iconst 0) 1 2 := ⟨by decide +kernel, rfl⟩
theorem iX7_isClosed_0 : zI cX7_isClosed 0 (.iload_n 1) 1 1 := ⟨by decide +kernel, rfl⟩
set_option maxHeartbeats 4000000 in
set_option maxRecDepth 100000 in
theorem m_Mo_isClosed (x1 : Int32) (h : zH) : zM yX7_isClosed cX7_isClosed 2 (some .int) 1 shM (fun ad => [.ref (ad 0), .int x1]) h (eP h) (Mo_isClosed x1 h) := by
  refine zM.of (by decide) (fun _ => rfl) (fun _ => Nat.le_of_ble_eq_true rfl) (fun X ad hnL C => ?_)
  show zG X ad shM (eP h) 0 [some (.ref (ad 0)), some (.int x1)] [] h _
  unfold Mo_isClosed
  refine g_iload_n C iX7_isClosed_0 rfl ?_
  refine g_iconst C 0 iX7_isClosed_1 (by decide) ?_
  refine g_aload_n C iX7_isClosed_2 rfl ?_
  refine g_getR (b := 2) C fX7_13 iX7_isClosed_3 mh0 rfl ?_
  refine g_iconst C 1 iX7_isClosed_6 (by decide) ?_
  refine g_ialoadL C 1 iX7_isClosed_7 mh2 (by decide) (by decide) ?_
  refine g_iconst C 1 iX7_isClosed_8 (by decide) ?_
  refine g_isub C iX7_isClosed_9 ?_
  refine g_callS C wX7_82 iX7_isClosed_10 (m_Mo_isIn x1 0 ((h 2 1) - 1) h) (by decide) rfl rfl rfl (Nat.le_of_ble_eq_true rfl) (fun r => ?_)
  show zG X ad shM (eP h) 13 [some (.ref (ad 0)), some (.int x1)] [.int r] h _
  refine g_if_eq C 30 iX7_isClosed_13 (by decide) (fun c13 => ?_) (fun c13 => ?_)
  · refine g_iconst C (-1) iX7_isClosed_30 (by decide) ?_
    exact g_iret C iX7_isClosed_31 rfl
  · refine g_aload_n C iX7_isClosed_16 rfl ?_
    refine g_getR (b := 7) C fX7_28 iX7_isClosed_17 mh0 rfl ?_
    refine g_bipush C 43 iX7_isClosed_20 (by decide) ?_
    refine g_ialoadL C 43 iX7_isClosed_22 mh7 (by decide) (by decide) ?_
    refine g_iload_n C iX7_isClosed_23 rfl ?_
    refine g_ishr C iX7_isClosed_24 ?_
    refine g_iconst C 1 iX7_isClosed_25 (by decide) ?_
    refine g_iand C iX7_isClosed_26 ?_
    refine g_goto C 31 iX7_isClosed_27 (by decide) ?_
    exact g_iret C iX7_isClosed_31 rfl

theorem iX7_dropped_1 : zI cX7_dropped 1 (.ifCond .ge 5) 3 4 := ⟨by decide +kernel, rfl⟩
theorem iX7_dropped_14 : zI cX7_dropped 14 (.if_icmp .ge 25) 3 17 := ⟨by decide +kernel, rfl⟩
theorem iX7_dropped_41 : zI cX7_dropped 41 (.ireturn) 1 42 := ⟨by decide +kernel, rfl⟩
theorem iX7_dropped_39 : zI cX7_dropped 39 (.bipush (-4)) 2 41 := ⟨by decide +kernel, rfl⟩
theorem iX7_dropped_36 : zI cX7_dropped 36 (.goto 5) 3 39 := ⟨by decide +kernel, rfl⟩
theorem iX7_dropped_35 : zI cX7_dropped 35 (.iaload) 1 36 := ⟨by decide +kernel, rfl⟩
theorem iX7_dropped_34 : zI cX7_dropped 34 (.isub) 1 35 := ⟨by decide +kernel, rfl⟩
theorem iX7_dropped_33 : zI cX7_dropped 33 (.iload_n 1) 1 34 := ⟨by decide +kernel, rfl⟩
theorem iX7_dropped_32 : zI cX7_dropped 32 (.isub) 1 33 := ⟨by decide +kernel, rfl⟩
theorem iX7_dropped_31 : zI cX7_dropped 31 (.iconst 1) 1 32 := ⟨by decide +kernel, rfl⟩
theorem iX7_dropped_30 : zI cX7_dropped 30 (.iadd) 1 31 := ⟨by decide +kernel, rfl⟩
theorem iX7_dropped_29 : zI cX7_dropped 29 (.iaload) 1 30 := ⟨by decide +kernel, rfl⟩
theorem iX7_dropped_27 : zI cX7_dropped 27 (.bipush 50) 2 29 := ⟨by decide +kernel, rfl⟩
theorem iX7_dropped_24 : zI cX7_dropped 24 (.getfield 28) 3 27 := ⟨by decide +kernel, rfl⟩
theorem iX7_dropped_23 : zI cX7_dropped 23 (.aload_n 0) 1 24 := ⟨by decide +kernel, rfl⟩
theorem iX7_dropped_21 : zI cX7_dropped 21 (.bipush 51) 2 23 := ⟨by decide +kernel, rfl⟩
theorem iX7_dropped_18 : zI cX7_dropped 18 (.getfield 28) 3 21 := ⟨by decide +kernel, rfl⟩
theorem iX7_dropped_17 : zI cX7_dropped 17 (.aload_n 0) 1 18 := ⟨by decide +kernel, rfl⟩
theorem iX7_dropped_13 : zI cX7_dropped 13 (.iaload) 1 14 := ⟨by decide +kernel, rfl⟩
theorem iX7_dropped_11 : zI cX7_dropped 11 (.bipush 50) 2 13 := ⟨by decide +kernel, rfl⟩
theorem iX7_dropped_8 : zI cX7_dropped 8 (.getfield 28) 3 11 := ⟨by decide +kernel, rfl⟩
theorem iX7_dropped_7 : zI cX7_dropped 7 (.aload_n 0) 1 8 := ⟨by decide +kernel, rfl⟩
theorem iX7_dropped_6 : zI cX7_dropped 6 (.iload_n 1) 1 7 := ⟨by decide +kernel, rfl⟩
theorem iX7_dropped_5 : zI cX7_dropped 5 (.ireturn) 1 6 := ⟨by decide +kernel, rfl⟩
theorem iX7_dropped_4 : zI cX7_dropped 4 (.iconst (-1)) 1 5 := ⟨by decide +kernel, rfl⟩
theorem iX7_dropped_0 : zI cX7_dropped 0 (.iload_n 1) 1 1 := ⟨by decide +kernel, rfl⟩
set_option maxHeartbeats 4000000 in
set_option maxRecDepth 100000 in
theorem m_Mo_dropped (x1 : Int32) (h : zH) : zM yX7_dropped cX7_dropped 2 (some .int) 0 shM (fun ad => [.ref (ad 0), .int x1]) h (eP h) (Mo_dropped x1 h) := by
  refine zM.of (by decide) (fun _ => rfl) (fun _ => Nat.le_of_ble_eq_true rfl) (fun X ad hnL C => ?_)
  show zG X ad shM (eP h) 0 [some (.ref (ad 0)), some (.int x1)] [] h _
  unfold Mo_dropped
  refine g_iload_n C iX7_dropped_0 rfl ?_
  refine g_if_ge C 6 iX7_dropped_1 (by decide) (fun c1 => ?_) (fun c1 => ?_)
  · refine g_iload_n C iX7_dropped_6 rfl ?_
    refine g_aload_n C iX7_dropped_7 rfl ?_
    refine g_getR (b := 7) C fX7_28 iX7_dropped_8 mh0 rfl ?_
    refine g_bipush C 50 iX7_dropped_11 (by decide) ?_
    refine g_ialoadL C 50 iX7_dropped_13 mh7 (by decide) (by decide) ?_
    refine g_icmp_ge C 39 iX7_dropped_14 (by decide) (fun c14 => ?_) (fun c14 => ?_)
    · refine g_bipush C (-4) iX7_dropped_39 (by decide) ?_
      exact g_iret C iX7_dropped_41 rfl
    · refine g_aload_n C iX7_dropped_17 rfl ?_
      refine g_getR (b := 7) C fX7_28 iX7_dropped_18 mh0 rfl ?_
      refine g_bipush C 51 iX7_dropped_21 (by decide) ?_
      refine g_aload_n C iX7_dropped_23 rfl ?_
      refine g_getR (b := 7) C fX7_28 iX7_dropped_24 mh0 rfl ?_
      refine g_bipush C 50 iX7_dropped_27 (by decide) ?_
      refine g_ialoadL C 50 iX7_dropped_29 mh7 (by decide) (by decide) ?_
      refine g_iadd C iX7_dropped_30 ?_
      refine g_iconst C 1 iX7_dropped_31 (by decide) ?_
      refine g_isub C iX7_dropped_32 ?_
      refine g_iload_n C iX7_dropped_33 rfl ?_
      refine g_isub C iX7_dropped_34 ?_
      refine g_iaload C iX7_dropped_35 mh7 ?_
      refine g_goto C 41 iX7_dropped_36 (by decide) ?_
      exact g_iret C iX7_dropped_41 rfl
  · refine g_iconst C (-1) iX7_dropped_4 (by decide) ?_
    exact g_iret C iX7_dropped_5 rfl

theorem iX7_saves_5 : zI cX7_saves 5 (.if_icmp .ge 21) 3 8 := ⟨by decide +kernel, rfl⟩
theorem fX7_34 : zFl RX7 34 7 9 := ⟨RX7, TX7, 17, rfl, by decide, (zmem 806 (by decide +kernel) (by decide +kernel)), u_inX7⟩
theorem iX7_saves_23 : zI cX7_saves 23 (.goto (-21)) 3 26 := ⟨by decide +kernel, rfl⟩
theorem iX7_saves_20 : zI cX7_saves 20 (.iinc 1 1) 3 23 := ⟨by decide +kernel, rfl⟩
theorem iX7_saves_19 : zI cX7_saves 19 (.iastore) 1 20 := ⟨by decide +kernel, rfl⟩
theorem iX7_saves_18 : zI cX7_saves 18 (.iaload) 1 19 := ⟨by decide +kernel, rfl⟩
theorem iX7_saves_17 : zI cX7_saves 17 (.iload_n 1) 1 18 := ⟨by decide +kernel, rfl⟩
theorem iX7_saves_14 : zI cX7_saves 14 (.getfield 28) 3 17 := ⟨by decide +kernel, rfl⟩
theorem iX7_saves_13 : zI cX7_saves 13 (.aload_n 0) 1 14 := ⟨by decide +kernel, rfl⟩
theorem iX7_saves_12 : zI cX7_saves 12 (.iload_n 1) 1 13 := ⟨by decide +kernel, rfl⟩
theorem iX7_saves_9 : zI cX7_saves 9 (.getfield 34) 3 12 := ⟨by decide +kernel, rfl⟩
theorem iX7_saves_8 : zI cX7_saves 8 (.aload_n 0) 1 9 := ⟨by decide +kernel, rfl⟩
theorem iX7_saves_3 : zI cX7_saves 3 (.bipush 67) 2 5 := ⟨by decide +kernel, rfl⟩
theorem iX7_saves_2 : zI cX7_saves 2 (.iload_n 1) 1 3 := ⟨by decide +kernel, rfl⟩
theorem iX7_saves_26 : zI cX7_saves 26 (.return_) 1 27 := ⟨by decide +kernel, rfl⟩
theorem iX7_saves_1 : zI cX7_saves 1 (.istore_n 1) 1 2 := ⟨by decide +kernel, rfl⟩
theorem iX7_saves_0 : zI cX7_saves 0 (.iconst 0) 1 1 := ⟨by decide +kernel, rfl⟩
set_option maxHeartbeats 4000000 in
set_option maxRecDepth 100000 in
theorem m_Mo_saves (h : zH) : zM yX7_saves cX7_saves 2 none 0 shM (fun ad => [.ref (ad 0)]) h eV (Mo_saves h) := by
  refine zM.of (by decide) (fun _ => rfl) (fun _ => Nat.le_of_ble_eq_true rfl) (fun X ad hnL C => ?_)
  show zG X ad shM eV 0 [some (.ref (ad 0)), none] [] h _
  unfold Mo_saves
  refine g_iconst C 0 iX7_saves_0 (by decide) ?_
  refine g_istore_n (lv' := [some (.ref (ad 0)), some (.int 0)]) C hnL iX7_saves_1 (by decide) rfl ?_
  have L2 : ∀ (k26 : zH → Option (zH)), (∀ (hy : zH), zG X ad shM eV 26 [none, none] [] hy (k26 hy)) → ∀ (n : Nat) (x1 : Int32) (h_1 : zH), zG X ad shM eV 2 [some (.ref (ad 0)), some (.int x1)] [] h_1 (Mo_saves_L2 k26 n x1 h_1) := by
    intro k26 hk26 n
    induction n with
    | zero =>
      intro x1 h_1
      exact g_none
    | succ n ih2 =>
      intro x1 h_1
      rw [Mo_saves_L2]
      refine g_iload_n C iX7_saves_2 rfl ?_
      refine g_bipush C 67 iX7_saves_3 (by decide) ?_
      refine g_icmp_ge C 26 iX7_saves_5 (by decide) (fun c5 => ?_) (fun c5 => ?_)
      · refine g_sub (lv' := [none, none]) trivial ?_
        exact hk26 _
      · refine g_aload_n C iX7_saves_8 rfl ?_
        refine g_getR (b := 9) C fX7_34 iX7_saves_9 mh0 rfl ?_
        refine g_iload_n C iX7_saves_12 rfl ?_
        refine g_aload_n C iX7_saves_13 rfl ?_
        refine g_getR (b := 7) C fX7_28 iX7_saves_14 mh0 rfl ?_
        refine g_iload_n C iX7_saves_17 rfl ?_
        refine g_iaload C iX7_saves_18 mh7 ?_
        refine g_iastore C iX7_saves_19 mh9 (fun h_2 => ?_)
        refine g_iinc (v := (x1 + 1)) (lv' := [some (.ref (ad 0)), some (.int (x1 + 1))]) C hnL iX7_saves_20 (by decide) rfl rfl rfl ?_
        refine g_goto C 2 iX7_saves_23 (by decide) ?_
        exact ih2 _ _
  refine L2 _ (fun h_3 => ?_) 1000 _ _
  show zG X ad shM eV 26 [none, none] [] h_3 _
  exact g_vret C iX7_saves_26 rfl

theorem iX7_restores_5 : zI cX7_restores 5 (.if_icmp .ge 21) 3 8 := ⟨by decide +kernel, rfl⟩
theorem iX7_restores_23 : zI cX7_restores 23 (.goto (-21)) 3 26 := ⟨by decide +kernel, rfl⟩
theorem iX7_restores_20 : zI cX7_restores 20 (.iinc 1 1) 3 23 := ⟨by decide +kernel, rfl⟩
theorem iX7_restores_19 : zI cX7_restores 19 (.iastore) 1 20 := ⟨by decide +kernel, rfl⟩
theorem iX7_restores_18 : zI cX7_restores 18 (.iaload) 1 19 := ⟨by decide +kernel, rfl⟩
theorem iX7_restores_17 : zI cX7_restores 17 (.iload_n 1) 1 18 := ⟨by decide +kernel, rfl⟩
theorem iX7_restores_14 : zI cX7_restores 14 (.getfield 34) 3 17 := ⟨by decide +kernel, rfl⟩
theorem iX7_restores_13 : zI cX7_restores 13 (.aload_n 0) 1 14 := ⟨by decide +kernel, rfl⟩
theorem iX7_restores_12 : zI cX7_restores 12 (.iload_n 1) 1 13 := ⟨by decide +kernel, rfl⟩
theorem iX7_restores_9 : zI cX7_restores 9 (.getfield 28) 3 12 := ⟨by decide +kernel, rfl⟩
theorem iX7_restores_8 : zI cX7_restores 8 (.aload_n 0) 1 9 := ⟨by decide +kernel, rfl⟩
theorem iX7_restores_3 : zI cX7_restores 3 (.bipush 67) 2 5 := ⟨by decide +kernel, rfl⟩
theorem iX7_restores_2 : zI cX7_restores 2 (.iload_n 1) 1 3 := ⟨by decide +kernel, rfl⟩
theorem iX7_restores_26 : zI cX7_restores 26 (.return_) 1 27 := ⟨by decide +kernel, rfl⟩
theorem iX7_restores_1 : zI cX7_restores 1 (.istore_n 1) 1 2 := ⟨by decide +kernel, rfl⟩
theorem iX7_restores_0 : zI cX7_restores 0 (.iconst 0) 1 1 := ⟨by decide +kernel, rfl⟩
set_option maxHeartbeats 4000000 in
set_option maxRecDepth 100000 in
theorem m_Mo_restores (h : zH) : zM yX7_restores cX7_restores 2 none 0 shM (fun ad => [.ref (ad 0)]) h eV (Mo_restores h) := by
  refine zM.of (by decide) (fun _ => rfl) (fun _ => Nat.le_of_ble_eq_true rfl) (fun X ad hnL C => ?_)
  show zG X ad shM eV 0 [some (.ref (ad 0)), none] [] h _
  unfold Mo_restores
  refine g_iconst C 0 iX7_restores_0 (by decide) ?_
  refine g_istore_n (lv' := [some (.ref (ad 0)), some (.int 0)]) C hnL iX7_restores_1 (by decide) rfl ?_
  have L2 : ∀ (k26 : zH → Option (zH)), (∀ (hy : zH), zG X ad shM eV 26 [none, none] [] hy (k26 hy)) → ∀ (n : Nat) (x1 : Int32) (h_1 : zH), zG X ad shM eV 2 [some (.ref (ad 0)), some (.int x1)] [] h_1 (Mo_restores_L2 k26 n x1 h_1) := by
    intro k26 hk26 n
    induction n with
    | zero =>
      intro x1 h_1
      exact g_none
    | succ n ih2 =>
      intro x1 h_1
      rw [Mo_restores_L2]
      refine g_iload_n C iX7_restores_2 rfl ?_
      refine g_bipush C 67 iX7_restores_3 (by decide) ?_
      refine g_icmp_ge C 26 iX7_restores_5 (by decide) (fun c5 => ?_) (fun c5 => ?_)
      · refine g_sub (lv' := [none, none]) trivial ?_
        exact hk26 _
      · refine g_aload_n C iX7_restores_8 rfl ?_
        refine g_getR (b := 7) C fX7_28 iX7_restores_9 mh0 rfl ?_
        refine g_iload_n C iX7_restores_12 rfl ?_
        refine g_aload_n C iX7_restores_13 rfl ?_
        refine g_getR (b := 9) C fX7_34 iX7_restores_14 mh0 rfl ?_
        refine g_iload_n C iX7_restores_17 rfl ?_
        refine g_iaload C iX7_restores_18 mh9 ?_
        refine g_iastore C iX7_restores_19 mh7 (fun h_2 => ?_)
        refine g_iinc (v := (x1 + 1)) (lv' := [some (.ref (ad 0)), some (.int (x1 + 1))]) C hnL iX7_restores_20 (by decide) rfl rfl rfl ?_
        refine g_goto C 2 iX7_restores_23 (by decide) ?_
        exact ih2 _ _
  refine L2 _ (fun h_3 => ?_) 1000 _ _
  show zG X ad shM eV 26 [none, none] [] h_3 _
  exact g_vret C iX7_restores_26 rfl

theorem iX7_ahead_4 : zI cX7_ahead 4 (.invokestatic 82) 3 7 := ⟨by decide +kernel, rfl⟩
theorem iX7_ahead_7 : zI cX7_ahead 7 (.ifCond .eq 20) 3 10 := ⟨by decide +kernel, rfl⟩
theorem iX7_ahead_28 : zI cX7_ahead 28 (.ireturn) 1 29 := ⟨by decide +kernel, rfl⟩
theorem iX7_ahead_27 : zI cX7_ahead 27 (.iconst (-1)) 1 28 := ⟨by decide +kernel, rfl⟩
theorem iX7_ahead_12 : zI cX7_ahead 12 (.invokevirtual 185) 3 15 := ⟨by decide +kernel, rfl⟩
theorem iX7_ahead_15 : zI cX7_ahead 15 (.ifCond .eq 12) 3 18 := ⟨by decide +kernel, rfl⟩
theorem iX7_ahead_21 : zI cX7_ahead 21 (.invokestatic 82) 3 24 := ⟨by decide +kernel, rfl⟩
theorem iX7_ahead_24 : zI cX7_ahead 24 (.ifCond .ne 5) 3 27 := ⟨by decide +kernel, rfl⟩
set_option maxRecDepth 100000 in
theorem wX7_197 : zCv RX7 197 yX7_saves cX7_saves 2 none 0 := ⟨⟨(zmem 1052 (by decide +kernel) (by decide +kernel)), (zmem 76 (by decide +kernel) (by decide +kernel)), (zmem 1055 rfl rfl), ⟨by decide, by decide, by decide +kernel⟩, by decide⟩, (zmem 1054 (by decide +kernel) (by decide +kernel)), (zmem 58 (by decide +kernel) (by decide +kernel))⟩
theorem iX7_ahead_30 : zI cX7_ahead 30 (.invokevirtual 197) 3 33 := ⟨by decide +kernel, rfl⟩
theorem iX7_ahead_34 : zI cX7_ahead 34 (.invokevirtual 169) 3 37 := ⟨by decide +kernel, rfl⟩
theorem iX7_ahead_48 : zI cX7_ahead 48 (.if_icmp .ge 37) 3 51 := ⟨by decide +kernel, rfl⟩
theorem iX7_ahead_52 : zI cX7_ahead 52 (.invokevirtual 172) 3 55 := ⟨by decide +kernel, rfl⟩
theorem iX7_ahead_63 : zI cX7_ahead 63 (.if_icmp .ge 12) 3 66 := ⟨by decide +kernel, rfl⟩
theorem iX7_ahead_82 : zI cX7_ahead 82 (.goto (-37)) 3 85 := ⟨by decide +kernel, rfl⟩
theorem iX7_ahead_79 : zI cX7_ahead 79 (.iinc 5 1) 3 82 := ⟨by decide +kernel, rfl⟩
theorem iX7_ahead_77 : zI cX7_ahead 77 (.istore 4) 2 79 := ⟨by decide +kernel, rfl⟩
theorem iX7_ahead_75 : zI cX7_ahead 75 (.iload 4) 2 77 := ⟨by decide +kernel, rfl⟩
theorem iX7_ahead_72 : zI cX7_ahead 72 (.goto 5) 3 75 := ⟨by decide +kernel, rfl⟩
theorem iX7_ahead_71 : zI cX7_ahead 71 (.iaload) 1 72 := ⟨by decide +kernel, rfl⟩
theorem iX7_ahead_70 : zI cX7_ahead 70 (.iload_n 2) 1 71 := ⟨by decide +kernel, rfl⟩
theorem iX7_ahead_67 : zI cX7_ahead 67 (.getfield 28) 3 70 := ⟨by decide +kernel, rfl⟩
theorem iX7_ahead_66 : zI cX7_ahead 66 (.aload_n 0) 1 67 := ⟨by decide +kernel, rfl⟩
theorem iX7_ahead_61 : zI cX7_ahead 61 (.iload 4) 2 63 := ⟨by decide +kernel, rfl⟩
theorem iX7_ahead_60 : zI cX7_ahead 60 (.iaload) 1 61 := ⟨by decide +kernel, rfl⟩
theorem iX7_ahead_59 : zI cX7_ahead 59 (.iload_n 2) 1 60 := ⟨by decide +kernel, rfl⟩
theorem iX7_ahead_56 : zI cX7_ahead 56 (.getfield 28) 3 59 := ⟨by decide +kernel, rfl⟩
theorem iX7_ahead_55 : zI cX7_ahead 55 (.aload_n 0) 1 56 := ⟨by decide +kernel, rfl⟩
theorem iX7_ahead_51 : zI cX7_ahead 51 (.aload_n 0) 1 52 := ⟨by decide +kernel, rfl⟩
theorem iX7_ahead_47 : zI cX7_ahead 47 (.iload_n 1) 1 48 := ⟨by decide +kernel, rfl⟩
theorem iX7_ahead_45 : zI cX7_ahead 45 (.iload 5) 2 47 := ⟨by decide +kernel, rfl⟩
set_option maxRecDepth 100000 in
theorem wX7_200 : zCv RX7 200 yX7_restores cX7_restores 2 none 0 := ⟨⟨(zmem 1056 (by decide +kernel) (by decide +kernel)), (zmem 76 (by decide +kernel) (by decide +kernel)), (zmem 1059 rfl rfl), ⟨by decide, by decide, by decide +kernel⟩, by decide⟩, (zmem 1058 (by decide +kernel) (by decide +kernel)), (zmem 59 (by decide +kernel) (by decide +kernel))⟩
theorem iX7_ahead_94 : zI cX7_ahead 94 (.invokevirtual 200) 3 97 := ⟨by decide +kernel, rfl⟩
theorem iX7_ahead_98 : zI cX7_ahead 98 (.ifCond .ne 8) 3 101 := ⟨by decide +kernel, rfl⟩
theorem iX7_ahead_108 : zI cX7_ahead 108 (.if_icmp .ne 8) 3 111 := ⟨by decide +kernel, rfl⟩
theorem iX7_ahead_118 : zI cX7_ahead 118 (.if_icmp .ne 10) 3 121 := ⟨by decide +kernel, rfl⟩
theorem iX7_ahead_130 : zI cX7_ahead 130 (.if_icmp .ne 10) 3 133 := ⟨by decide +kernel, rfl⟩
theorem iX7_ahead_144 : zI cX7_ahead 144 (.ireturn) 1 145 := ⟨by decide +kernel, rfl⟩
theorem iX7_ahead_141 : zI cX7_ahead 141 (.getfield 160) 3 144 := ⟨by decide +kernel, rfl⟩
theorem iX7_ahead_140 : zI cX7_ahead 140 (.aload_n 0) 1 141 := ⟨by decide +kernel, rfl⟩
theorem iX7_ahead_137 : zI cX7_ahead 137 (.goto 7) 3 140 := ⟨by decide +kernel, rfl⟩
theorem iX7_ahead_134 : zI cX7_ahead 134 (.getfield 121) 3 137 := ⟨by decide +kernel, rfl⟩
theorem iX7_ahead_133 : zI cX7_ahead 133 (.aload_n 0) 1 134 := ⟨by decide +kernel, rfl⟩
theorem iX7_ahead_129 : zI cX7_ahead 129 (.iconst 3) 1 130 := ⟨by decide +kernel, rfl⟩
theorem iX7_ahead_128 : zI cX7_ahead 128 (.iload_n 3) 1 129 := ⟨by decide +kernel, rfl⟩
theorem iX7_ahead_125 : zI cX7_ahead 125 (.goto 19) 3 128 := ⟨by decide +kernel, rfl⟩
theorem iX7_ahead_122 : zI cX7_ahead 122 (.getfield 118) 3 125 := ⟨by decide +kernel, rfl⟩
theorem iX7_ahead_121 : zI cX7_ahead 121 (.aload_n 0) 1 122 := ⟨by decide +kernel, rfl⟩
theorem iX7_ahead_117 : zI cX7_ahead 117 (.iconst 2) 1 118 := ⟨by decide +kernel, rfl⟩
theorem iX7_ahead_116 : zI cX7_ahead 116 (.iload_n 3) 1 117 := ⟨by decide +kernel, rfl⟩
theorem iX7_ahead_113 : zI cX7_ahead 113 (.goto 31) 3 116 := ⟨by decide +kernel, rfl⟩
theorem iX7_ahead_111 : zI cX7_ahead 111 (.iload 4) 2 113 := ⟨by decide +kernel, rfl⟩
theorem iX7_ahead_107 : zI cX7_ahead 107 (.iconst 1) 1 108 := ⟨by decide +kernel, rfl⟩
theorem iX7_ahead_106 : zI cX7_ahead 106 (.iload_n 3) 1 107 := ⟨by decide +kernel, rfl⟩
theorem iX7_ahead_103 : zI cX7_ahead 103 (.goto 41) 3 106 := ⟨by decide +kernel, rfl⟩
theorem iX7_ahead_101 : zI cX7_ahead 101 (.iload 5) 2 103 := ⟨by decide +kernel, rfl⟩
theorem iX7_ahead_97 : zI cX7_ahead 97 (.iload_n 3) 1 98 := ⟨by decide +kernel, rfl⟩
theorem iX7_ahead_93 : zI cX7_ahead 93 (.aload_n 0) 1 94 := ⟨by decide +kernel, rfl⟩
theorem iX7_ahead_91 : zI cX7_ahead 91 (.istore 5) 2 93 := ⟨by decide +kernel, rfl⟩
theorem iX7_ahead_90 : zI cX7_ahead 90 (.iaload) 1 91 := ⟨by decide +kernel, rfl⟩
theorem iX7_ahead_89 : zI cX7_ahead 89 (.iload_n 2) 1 90 := ⟨by decide +kernel, rfl⟩
theorem iX7_ahead_86 : zI cX7_ahead 86 (.getfield 28) 3 89 := ⟨by decide +kernel, rfl⟩
theorem iX7_ahead_85 : zI cX7_ahead 85 (.aload_n 0) 1 86 := ⟨by decide +kernel, rfl⟩
theorem iX7_ahead_43 : zI cX7_ahead 43 (.istore 5) 2 45 := ⟨by decide +kernel, rfl⟩
theorem iX7_ahead_42 : zI cX7_ahead 42 (.iconst 0) 1 43 := ⟨by decide +kernel, rfl⟩
theorem iX7_ahead_40 : zI cX7_ahead 40 (.istore 4) 2 42 := ⟨by decide +kernel, rfl⟩
theorem iX7_ahead_37 : zI cX7_ahead 37 (.sipush 9999) 3 40 := ⟨by decide +kernel, rfl⟩
theorem iX7_ahead_33 : zI cX7_ahead 33 (.aload_n 0) 1 34 := ⟨by decide +kernel, rfl⟩
theorem iX7_ahead_29 : zI cX7_ahead 29 (.aload_n 0) 1 30 := ⟨by decide +kernel, rfl⟩
theorem iX7_ahead_20 : zI cX7_ahead 20 (.iconst 4) 1 21 := ⟨by decide +kernel, rfl⟩
theorem iX7_ahead_19 : zI cX7_ahead 19 (.iconst 0) 1 20 := ⟨by decide +kernel, rfl⟩
theorem iX7_ahead_18 : zI cX7_ahead 18 (.iload_n 3) 1 19 := ⟨by decide +kernel, rfl⟩
theorem iX7_ahead_11 : zI cX7_ahead 11 (.iload_n 2) 1 12 := ⟨by decide +kernel, rfl⟩
theorem iX7_ahead_10 : zI cX7_ahead 10 (.aload_n 0) 1 11 := ⟨by decide +kernel, rfl⟩
theorem iX7_ahead_2 : zI cX7_ahead 2 (.bipush 60) 2 4 := ⟨by decide +kernel, rfl⟩
theorem iX7_ahead_1 : zI cX7_ahead 1 (.iconst 1) 1 2 := ⟨by decide +kernel, rfl⟩
theorem iX7_ahead_0 : zI cX7_ahead 0 (.iload_n 1) 1 1 := ⟨by decide +kernel, rfl⟩
set_option maxHeartbeats 4000000 in
set_option maxRecDepth 100000 in
theorem m_Mo_ahead (x1 : Int32) (x2 : Int32) (x3 : Int32) (h : zH) : zM yX7_ahead cX7_ahead 6 (some .int) 5 shM (fun ad => [.ref (ad 0), .int x1, .int x2, .int x3]) h eI (Mo_ahead x1 x2 x3 h) := by
  refine zM.of (by decide) (fun _ => rfl) (fun _ => Nat.le_of_ble_eq_true rfl) (fun X ad hnL C => ?_)
  show zG X ad shM eI 0 [some (.ref (ad 0)), some (.int x1), some (.int x2), some (.int x3), none, none] [] h _
  unfold Mo_ahead
  refine g_iload_n C iX7_ahead_0 rfl ?_
  refine g_iconst C 1 iX7_ahead_1 (by decide) ?_
  refine g_bipush C 60 iX7_ahead_2 (by decide) ?_
  refine g_callS C wX7_82 iX7_ahead_4 (m_Mo_isIn x1 1 60 h) (by decide) rfl rfl rfl (Nat.le_of_ble_eq_true rfl) (fun r => ?_)
  show zG X ad shM eI 7 [some (.ref (ad 0)), some (.int x1), some (.int x2), some (.int x3), none, none] [.int r] h _
  refine g_if_eq C 27 iX7_ahead_7 (by decide) (fun c7 => ?_) (fun c7 => ?_)
  · refine g_iconst C (-1) iX7_ahead_27 (by decide) ?_
    exact g_iret C iX7_ahead_28 rfl
  · refine g_aload_n C iX7_ahead_10 rfl ?_
    refine g_iload_n C iX7_ahead_11 rfl ?_
    refine g_callV C wX7_185 iX7_ahead_12 (m_Mo_isBus x2 h) (by decide) mh0 rfl rfl rfl rfl (Nat.le_of_ble_eq_true rfl) (fun r_1 => ?_)
    show zG X ad shM eI 15 [some (.ref (ad 0)), some (.int x1), some (.int x2), some (.int x3), none, none] [.int r_1] h _
    refine g_if_eq C 27 iX7_ahead_15 (by decide) (fun c15 => ?_) (fun c15 => ?_)
    · refine g_iconst C (-1) iX7_ahead_27 (by decide) ?_
      exact g_iret C iX7_ahead_28 rfl
    · refine g_iload_n C iX7_ahead_18 rfl ?_
      refine g_iconst C 0 iX7_ahead_19 (by decide) ?_
      refine g_iconst C 4 iX7_ahead_20 (by decide) ?_
      refine g_callS C wX7_82 iX7_ahead_21 (m_Mo_isIn x3 0 4 h) (by decide) rfl rfl rfl (Nat.le_of_ble_eq_true rfl) (fun r_2 => ?_)
      show zG X ad shM eI 24 [some (.ref (ad 0)), some (.int x1), some (.int x2), some (.int x3), none, none] [.int r_2] h _
      refine g_if_ne C 29 iX7_ahead_24 (by decide) (fun c24 => ?_) (fun c24 => ?_)
      · refine g_iconst C (-1) iX7_ahead_27 (by decide) ?_
        exact g_iret C iX7_ahead_28 rfl
      · refine g_aload_n C iX7_ahead_29 rfl ?_
        refine g_callV C wX7_197 iX7_ahead_30 (m_Mo_saves h) (by decide) mh0 rfl rfl rfl rfl (Nat.le_of_ble_eq_true rfl) (fun h_1 => ?_)
        show zG X ad shM eI 33 [some (.ref (ad 0)), some (.int x1), some (.int x2), some (.int x3), none, none] [] h_1 _
        refine g_aload_n C iX7_ahead_33 rfl ?_
        refine g_callV C wX7_169 iX7_ahead_34 (m_Mo_fresh h_1) (by decide) mh0 rfl rfl rfl rfl (Nat.le_of_ble_eq_true rfl) (fun h_2 => ?_)
        show zG X ad shM eI 37 [some (.ref (ad 0)), some (.int x1), some (.int x2), some (.int x3), none, none] [] h_2 _
        refine g_sipush C 9999 iX7_ahead_37 (by decide) ?_
        refine g_istore (lv' := [some (.ref (ad 0)), some (.int x1), some (.int x2), some (.int x3), some (.int 9999), none]) C hnL iX7_ahead_40 (by decide) rfl ?_
        refine g_iconst C 0 iX7_ahead_42 (by decide) ?_
        refine g_istore (lv' := [some (.ref (ad 0)), some (.int x1), some (.int x2), some (.int x3), some (.int 9999), some (.int 0)]) C hnL iX7_ahead_43 (by decide) rfl ?_
        have L45 : ∀ (k85 : Int32 → zH → Option (Int32 × zH)), (∀ (y4 : Int32) (hy : zH), zG X ad shM eI 85 [some (.ref (ad 0)), none, some (.int x2), some (.int x3), some (.int y4), none] [] hy (k85 y4 hy)) → ∀ (n : Nat) (x4 x5 : Int32) (h_3 : zH), zG X ad shM eI 45 [some (.ref (ad 0)), some (.int x1), some (.int x2), some (.int x3), some (.int x4), some (.int x5)] [] h_3 (Mo_ahead_L45 x1 x2 k85 n x4 x5 h_3) := by
          intro k85 hk85 n
          induction n with
          | zero =>
            intro x4 x5 h_3
            exact g_none
          | succ n ih45 =>
            intro x4 x5 h_3
            rw [Mo_ahead_L45]
            refine g_iload C iX7_ahead_45 rfl ?_
            refine g_iload_n C iX7_ahead_47 rfl ?_
            refine g_icmp_ge C 85 iX7_ahead_48 (by decide) (fun c48 => ?_) (fun c48 => ?_)
            · refine g_sub (lv' := [some (.ref (ad 0)), none, some (.int x2), some (.int x3), some (.int x4), none]) ⟨rfl, ⟨rfl, ⟨rfl, ⟨rfl, trivial⟩⟩⟩⟩ ?_
              exact hk85 _ _
            · refine g_aload_n C iX7_ahead_51 rfl ?_
              refine g_callV C wX7_172 iX7_ahead_52 (m_Mo_ticks h_3) (by decide) mh0 rfl rfl rfl rfl (Nat.le_of_ble_eq_true rfl) (fun h_4 => ?_)
              show zG X ad shM eI 55 [some (.ref (ad 0)), some (.int x1), some (.int x2), some (.int x3), some (.int x4), some (.int x5)] [] h_4 _
              refine g_aload_n C iX7_ahead_55 rfl ?_
              refine g_getR (b := 7) C fX7_28 iX7_ahead_56 mh0 rfl ?_
              refine g_iload_n C iX7_ahead_59 rfl ?_
              refine g_iaload C iX7_ahead_60 mh7 ?_
              refine g_iload C iX7_ahead_61 rfl ?_
              refine g_icmp_ge C 75 iX7_ahead_63 (by decide) (fun c63 => ?_) (fun c63 => ?_)
              · refine g_iload C iX7_ahead_75 rfl ?_
                refine g_istore (lv' := [some (.ref (ad 0)), some (.int x1), some (.int x2), some (.int x3), some (.int x4), some (.int x5)]) C hnL iX7_ahead_77 (by decide) rfl ?_
                refine g_iinc (v := (x5 + 1)) (lv' := [some (.ref (ad 0)), some (.int x1), some (.int x2), some (.int x3), some (.int x4), some (.int (x5 + 1))]) C hnL iX7_ahead_79 (by decide) rfl rfl rfl ?_
                refine g_goto C 45 iX7_ahead_82 (by decide) ?_
                exact ih45 _ _ _
              · refine g_aload_n C iX7_ahead_66 rfl ?_
                refine g_getR (b := 7) C fX7_28 iX7_ahead_67 mh0 rfl ?_
                refine g_iload_n C iX7_ahead_70 rfl ?_
                refine g_iaload C iX7_ahead_71 mh7 ?_
                refine g_goto C 77 iX7_ahead_72 (by decide) ?_
                refine g_top (fun x4_1 => ?_)
                refine g_istore (lv' := [some (.ref (ad 0)), some (.int x1), some (.int x2), some (.int x3), some (.int x4_1), some (.int x5)]) C hnL iX7_ahead_77 (by decide) rfl ?_
                refine g_iinc (v := (x5 + 1)) (lv' := [some (.ref (ad 0)), some (.int x1), some (.int x2), some (.int x3), some (.int x4_1), some (.int (x5 + 1))]) C hnL iX7_ahead_79 (by decide) rfl rfl rfl ?_
                refine g_goto C 45 iX7_ahead_82 (by decide) ?_
                exact ih45 _ _ _
        refine L45 _ (fun x4_2 h_5 => ?_) 1000 _ _ _
        show zG X ad shM eI 85 [some (.ref (ad 0)), none, some (.int x2), some (.int x3), some (.int x4_2), none] [] h_5 _
        refine g_aload_n C iX7_ahead_85 rfl ?_
        refine g_getR (b := 7) C fX7_28 iX7_ahead_86 mh0 rfl ?_
        refine g_iload_n C iX7_ahead_89 rfl ?_
        refine g_iaload C iX7_ahead_90 mh7 ?_
        refine g_top (fun x5_1 => ?_)
        refine g_istore (lv' := [some (.ref (ad 0)), none, some (.int x2), some (.int x3), some (.int x4_2), some (.int x5_1)]) C hnL iX7_ahead_91 (by decide) rfl ?_
        refine g_aload_n C iX7_ahead_93 rfl ?_
        refine g_callV C wX7_200 iX7_ahead_94 (m_Mo_restores h_5) (by decide) mh0 rfl rfl rfl rfl (Nat.le_of_ble_eq_true rfl) (fun h_6 => ?_)
        show zG X ad shM eI 97 [some (.ref (ad 0)), none, some (.int x2), some (.int x3), some (.int x4_2), some (.int x5_1)] [] h_6 _
        refine g_iload_n C iX7_ahead_97 rfl ?_
        refine g_if_ne C 106 iX7_ahead_98 (by decide) (fun c98 => ?_) (fun c98 => ?_)
        · refine g_iload C iX7_ahead_101 rfl ?_
          refine g_goto C 144 iX7_ahead_103 (by decide) ?_
          exact g_iret C iX7_ahead_144 rfl
        · refine g_iload_n C iX7_ahead_106 rfl ?_
          refine g_iconst C 1 iX7_ahead_107 (by decide) ?_
          refine g_icmp_ne C 116 iX7_ahead_108 (by decide) (fun c108 => ?_) (fun c108 => ?_)
          · refine g_iload C iX7_ahead_111 rfl ?_
            refine g_goto C 144 iX7_ahead_113 (by decide) ?_
            exact g_iret C iX7_ahead_144 rfl
          · refine g_iload_n C iX7_ahead_116 rfl ?_
            refine g_iconst C 2 iX7_ahead_117 (by decide) ?_
            refine g_icmp_ne C 128 iX7_ahead_118 (by decide) (fun c118 => ?_) (fun c118 => ?_)
            · refine g_aload_n C iX7_ahead_121 rfl ?_
              refine g_getI C fX7_118 iX7_ahead_122 mh0 rfl ?_
              refine g_goto C 144 iX7_ahead_125 (by decide) ?_
              exact g_iret C iX7_ahead_144 rfl
            · refine g_iload_n C iX7_ahead_128 rfl ?_
              refine g_iconst C 3 iX7_ahead_129 (by decide) ?_
              refine g_icmp_ne C 140 iX7_ahead_130 (by decide) (fun c130 => ?_) (fun c130 => ?_)
              · refine g_aload_n C iX7_ahead_133 rfl ?_
                refine g_getI C fX7_121 iX7_ahead_134 mh0 rfl ?_
                refine g_goto C 144 iX7_ahead_137 (by decide) ?_
                exact g_iret C iX7_ahead_144 rfl
              · refine g_aload_n C iX7_ahead_140 rfl ?_
                refine g_getI C fX7_160 iX7_ahead_141 mh0 rfl ?_
                exact g_iret C iX7_ahead_144 rfl

theorem iX7_isBorne_3 : zI cX7_isBorne 3 (.invokevirtual 51) 3 6 := ⟨by decide +kernel, rfl⟩
theorem iX7_isBorne_6 : zI cX7_isBorne 6 (.invokevirtual 191) 3 9 := ⟨by decide +kernel, rfl⟩
theorem iX7_isBorne_22 : zI cX7_isBorne 22 (.if_icmp .ge 24) 3 25 := ⟨by decide +kernel, rfl⟩
theorem iX7_isBorne_28 : zI cX7_isBorne 28 (.invokestatic 66) 3 31 := ⟨by decide +kernel, rfl⟩
theorem iX7_isBorne_31 : zI cX7_isBorne 31 (.ifCond .eq 9) 3 34 := ⟨by decide +kernel, rfl⟩
theorem iX7_isBorne_43 : zI cX7_isBorne 43 (.goto (-29)) 3 46 := ⟨by decide +kernel, rfl⟩
theorem iX7_isBorne_40 : zI cX7_isBorne 40 (.iinc 5 1) 3 43 := ⟨by decide +kernel, rfl⟩
theorem iX7_isBorne_37 : zI cX7_isBorne 37 (.invokevirtual 127) 3 40 := ⟨by decide +kernel, rfl⟩
theorem iX7_isBorne_35 : zI cX7_isBorne 35 (.iload 5) 2 37 := ⟨by decide +kernel, rfl⟩
theorem iX7_isBorne_34 : zI cX7_isBorne 34 (.aload_n 0) 1 35 := ⟨by decide +kernel, rfl⟩
theorem iX7_isBorne_26 : zI cX7_isBorne 26 (.iload 5) 2 28 := ⟨by decide +kernel, rfl⟩
theorem iX7_isBorne_25 : zI cX7_isBorne 25 (.iload_n 2) 1 26 := ⟨by decide +kernel, rfl⟩
theorem iX7_isBorne_21 : zI cX7_isBorne 21 (.iaload) 1 22 := ⟨by decide +kernel, rfl⟩
theorem iX7_isBorne_20 : zI cX7_isBorne 20 (.iconst 3) 1 21 := ⟨by decide +kernel, rfl⟩
theorem iX7_isBorne_17 : zI cX7_isBorne 17 (.getfield 13) 3 20 := ⟨by decide +kernel, rfl⟩
theorem iX7_isBorne_16 : zI cX7_isBorne 16 (.aload_n 0) 1 17 := ⟨by decide +kernel, rfl⟩
theorem iX7_isBorne_14 : zI cX7_isBorne 14 (.iload 5) 2 16 := ⟨by decide +kernel, rfl⟩
theorem iX7_isBorne_47 : zI cX7_isBorne 47 (.invokevirtual 169) 3 50 := ⟨by decide +kernel, rfl⟩
theorem iX7_isBorne_59 : zI cX7_isBorne 59 (.if_icmp .ge 44) 3 62 := ⟨by decide +kernel, rfl⟩
theorem iX7_isBorne_64 : zI cX7_isBorne 64 (.ifCond .eq 39) 3 67 := ⟨by decide +kernel, rfl⟩
theorem iX7_isBorne_68 : zI cX7_isBorne 68 (.invokevirtual 172) 3 71 := ⟨by decide +kernel, rfl⟩
theorem iX7_isBorne_77 : zI cX7_isBorne 77 (.ifCond .le 17) 3 80 := ⟨by decide +kernel, rfl⟩
theorem iX7_isBorne_100 : zI cX7_isBorne 100 (.goto (-44)) 3 103 := ⟨by decide +kernel, rfl⟩
theorem iX7_isBorne_97 : zI cX7_isBorne 97 (.iinc 6 1) 3 100 := ⟨by decide +kernel, rfl⟩
theorem iX7_isBorne_95 : zI cX7_isBorne 95 (.istore 5) 2 97 := ⟨by decide +kernel, rfl⟩
theorem iX7_isBorne_94 : zI cX7_isBorne 94 (.iconst 0) 1 95 := ⟨by decide +kernel, rfl⟩
theorem iX7_isBorne_87 : zI cX7_isBorne 87 (.ifCond .ne 7) 3 90 := ⟨by decide +kernel, rfl⟩
theorem iX7_isBorne_91 : zI cX7_isBorne 91 (.goto 4) 3 94 := ⟨by decide +kernel, rfl⟩
theorem iX7_isBorne_90 : zI cX7_isBorne 90 (.iconst 1) 1 91 := ⟨by decide +kernel, rfl⟩
theorem iX7_isBorne_86 : zI cX7_isBorne 86 (.iand) 1 87 := ⟨by decide +kernel, rfl⟩
theorem iX7_isBorne_84 : zI cX7_isBorne 84 (.iload 4) 2 86 := ⟨by decide +kernel, rfl⟩
theorem iX7_isBorne_81 : zI cX7_isBorne 81 (.getfield 124) 3 84 := ⟨by decide +kernel, rfl⟩
theorem iX7_isBorne_80 : zI cX7_isBorne 80 (.aload_n 0) 1 81 := ⟨by decide +kernel, rfl⟩
theorem iX7_isBorne_76 : zI cX7_isBorne 76 (.iaload) 1 77 := ⟨by decide +kernel, rfl⟩
theorem iX7_isBorne_75 : zI cX7_isBorne 75 (.iload_n 1) 1 76 := ⟨by decide +kernel, rfl⟩
theorem iX7_isBorne_72 : zI cX7_isBorne 72 (.getfield 28) 3 75 := ⟨by decide +kernel, rfl⟩
theorem iX7_isBorne_71 : zI cX7_isBorne 71 (.aload_n 0) 1 72 := ⟨by decide +kernel, rfl⟩
theorem iX7_isBorne_67 : zI cX7_isBorne 67 (.aload_n 0) 1 68 := ⟨by decide +kernel, rfl⟩
theorem iX7_isBorne_62 : zI cX7_isBorne 62 (.iload 5) 2 64 := ⟨by decide +kernel, rfl⟩
theorem iX7_isBorne_58 : zI cX7_isBorne 58 (.iload_n 3) 1 59 := ⟨by decide +kernel, rfl⟩
theorem iX7_isBorne_56 : zI cX7_isBorne 56 (.iload 6) 2 58 := ⟨by decide +kernel, rfl⟩
theorem iX7_isBorne_105 : zI cX7_isBorne 105 (.ireturn) 1 106 := ⟨by decide +kernel, rfl⟩
theorem iX7_isBorne_103 : zI cX7_isBorne 103 (.iload 5) 2 105 := ⟨by decide +kernel, rfl⟩
theorem iX7_isBorne_54 : zI cX7_isBorne 54 (.istore 6) 2 56 := ⟨by decide +kernel, rfl⟩
theorem iX7_isBorne_53 : zI cX7_isBorne 53 (.iconst 0) 1 54 := ⟨by decide +kernel, rfl⟩
theorem iX7_isBorne_51 : zI cX7_isBorne 51 (.istore 5) 2 53 := ⟨by decide +kernel, rfl⟩
theorem iX7_isBorne_50 : zI cX7_isBorne 50 (.iconst 1) 1 51 := ⟨by decide +kernel, rfl⟩
theorem iX7_isBorne_46 : zI cX7_isBorne 46 (.aload_n 0) 1 47 := ⟨by decide +kernel, rfl⟩
theorem iX7_isBorne_12 : zI cX7_isBorne 12 (.istore 5) 2 14 := ⟨by decide +kernel, rfl⟩
theorem iX7_isBorne_11 : zI cX7_isBorne 11 (.iconst 0) 1 12 := ⟨by decide +kernel, rfl⟩
theorem iX7_isBorne_9 : zI cX7_isBorne 9 (.istore 4) 2 11 := ⟨by decide +kernel, rfl⟩
theorem iX7_isBorne_2 : zI cX7_isBorne 2 (.iload_n 1) 1 3 := ⟨by decide +kernel, rfl⟩
theorem iX7_isBorne_1 : zI cX7_isBorne 1 (.aload_n 0) 1 2 := ⟨by decide +kernel, rfl⟩
theorem iX7_isBorne_0 : zI cX7_isBorne 0 (.aload_n 0) 1 1 := ⟨by decide +kernel, rfl⟩
set_option maxHeartbeats 4000000 in
set_option maxRecDepth 100000 in
theorem m_Mo_isBorne (x1 : Int32) (x2 : Int32) (x3 : Int32) (h : zH) : zM yX7_isBorne cX7_isBorne 7 (some .boolean) 5 shM (fun ad => [.ref (ad 0), .int x1, .int x2, .int x3]) h eI (Mo_isBorne x1 x2 x3 h) := by
  refine zM.of (by decide) (fun _ => rfl) (fun _ => Nat.le_of_ble_eq_true rfl) (fun X ad hnL C => ?_)
  show zG X ad shM eI 0 [some (.ref (ad 0)), some (.int x1), some (.int x2), some (.int x3), none, none, none] [] h _
  unfold Mo_isBorne
  refine g_aload_n C iX7_isBorne_0 rfl ?_
  refine g_aload_n C iX7_isBorne_1 rfl ?_
  refine g_iload_n C iX7_isBorne_2 rfl ?_
  refine g_callV C wX7_51 iX7_isBorne_3 (m_Mo_busesOf x1 h) (by decide) mh0 rfl rfl rfl rfl (Nat.le_of_ble_eq_true rfl) (fun r => ?_)
  show zG X ad shM eI 6 [some (.ref (ad 0)), some (.int x1), some (.int x2), some (.int x3), none, none, none] [.int r, .ref (ad 0)] h _
  refine g_callV C wX7_191 iX7_isBorne_6 (m_Mo_feedersOf r h) (by decide) mh0 rfl rfl rfl rfl (Nat.le_of_ble_eq_true rfl) (fun r_1 => ?_)
  show zG X ad shM eI 9 [some (.ref (ad 0)), some (.int x1), some (.int x2), some (.int x3), none, none, none] [.int r_1] h _
  refine g_istore (lv' := [some (.ref (ad 0)), some (.int x1), some (.int x2), some (.int x3), some (.int r_1), none, none]) C hnL iX7_isBorne_9 (by decide) rfl ?_
  refine g_iconst C 0 iX7_isBorne_11 (by decide) ?_
  refine g_istore (lv' := [some (.ref (ad 0)), some (.int x1), some (.int x2), some (.int x3), some (.int r_1), some (.int 0), none]) C hnL iX7_isBorne_12 (by decide) rfl ?_
  have L14 : ∀ (k46 : zH → Option (Int32 × zH)), (∀ (hy : zH), zG X ad shM eI 46 [some (.ref (ad 0)), some (.int x1), none, some (.int x3), some (.int r_1), none, none] [] hy (k46 hy)) → ∀ (n : Nat) (x5 : Int32) (h_1 : zH), zG X ad shM eI 14 [some (.ref (ad 0)), some (.int x1), some (.int x2), some (.int x3), some (.int r_1), some (.int x5), none] [] h_1 (Mo_isBorne_L14 x2 k46 n x5 h_1) := by
    intro k46 hk46 n
    induction n with
    | zero =>
      intro x5 h_1
      exact g_none
    | succ n ih14 =>
      intro x5 h_1
      rw [Mo_isBorne_L14]
      refine g_iload C iX7_isBorne_14 rfl ?_
      refine g_aload_n C iX7_isBorne_16 rfl ?_
      refine g_getR (b := 2) C fX7_13 iX7_isBorne_17 mh0 rfl ?_
      refine g_iconst C 3 iX7_isBorne_20 (by decide) ?_
      refine g_ialoadL C 3 iX7_isBorne_21 mh2 (by decide) (by decide) ?_
      refine g_icmp_ge C 46 iX7_isBorne_22 (by decide) (fun c22 => ?_) (fun c22 => ?_)
      · refine g_sub (lv' := [some (.ref (ad 0)), some (.int x1), none, some (.int x3), some (.int r_1), none, none]) ⟨rfl, ⟨rfl, ⟨rfl, ⟨rfl, trivial⟩⟩⟩⟩ ?_
        exact hk46 _
      · refine g_iload_n C iX7_isBorne_25 rfl ?_
        refine g_iload C iX7_isBorne_26 rfl ?_
        refine g_callS C wX7_66 iX7_isBorne_28 (m_Mo_has x2 x5 h_1) (by decide) rfl rfl rfl (Nat.le_of_ble_eq_true rfl) (fun r_2 => ?_)
        show zG X ad shM eI 31 [some (.ref (ad 0)), some (.int x1), some (.int x2), some (.int x3), some (.int r_1), some (.int x5), none] [.int r_2] h_1 _
        refine g_if_eq C 40 iX7_isBorne_31 (by decide) (fun c31 => ?_) (fun c31 => ?_)
        · refine g_iinc (v := (x5 + 1)) (lv' := [some (.ref (ad 0)), some (.int x1), some (.int x2), some (.int x3), some (.int r_1), some (.int (x5 + 1)), none]) C hnL iX7_isBorne_40 (by decide) rfl rfl rfl ?_
          refine g_goto C 14 iX7_isBorne_43 (by decide) ?_
          exact ih14 _ _
        · refine g_aload_n C iX7_isBorne_34 rfl ?_
          refine g_iload C iX7_isBorne_35 rfl ?_
          refine g_callV C wX7_127 iX7_isBorne_37 (m_Mo_drop x5 h_1) (by decide) mh0 rfl rfl rfl rfl (Nat.le_of_ble_eq_true rfl) (fun h_2 => ?_)
          show zG X ad shM eI 40 [some (.ref (ad 0)), some (.int x1), some (.int x2), some (.int x3), some (.int r_1), some (.int x5), none] [] h_2 _
          refine g_iinc (v := (x5 + 1)) (lv' := [some (.ref (ad 0)), some (.int x1), some (.int x2), some (.int x3), some (.int r_1), some (.int (x5 + 1)), none]) C hnL iX7_isBorne_40 (by decide) rfl rfl rfl ?_
          refine g_goto C 14 iX7_isBorne_43 (by decide) ?_
          exact ih14 _ _
  refine L14 _ (fun h_3 => ?_) 1000 _ _
  show zG X ad shM eI 46 [some (.ref (ad 0)), some (.int x1), none, some (.int x3), some (.int r_1), none, none] [] h_3 _
  refine g_aload_n C iX7_isBorne_46 rfl ?_
  refine g_callV C wX7_169 iX7_isBorne_47 (m_Mo_fresh h_3) (by decide) mh0 rfl rfl rfl rfl (Nat.le_of_ble_eq_true rfl) (fun h_4 => ?_)
  show zG X ad shM eI 50 [some (.ref (ad 0)), some (.int x1), none, some (.int x3), some (.int r_1), none, none] [] h_4 _
  refine g_iconst C 1 iX7_isBorne_50 (by decide) ?_
  refine g_istore (lv' := [some (.ref (ad 0)), some (.int x1), none, some (.int x3), some (.int r_1), some (.int 1), none]) C hnL iX7_isBorne_51 (by decide) rfl ?_
  refine g_iconst C 0 iX7_isBorne_53 (by decide) ?_
  refine g_istore (lv' := [some (.ref (ad 0)), some (.int x1), none, some (.int x3), some (.int r_1), some (.int 1), some (.int 0)]) C hnL iX7_isBorne_54 (by decide) rfl ?_
  have L56 : ∀ (k103 : Int32 → zH → Option (Int32 × zH)), (∀ (y5 : Int32) (hy : zH), zG X ad shM eI 103 [none, none, none, none, none, some (.int y5), none] [] hy (k103 y5 hy)) → ∀ (n_1 : Nat) (x5_1 x6 : Int32) (h_5 : zH), zG X ad shM eI 56 [some (.ref (ad 0)), some (.int x1), none, some (.int x3), some (.int r_1), some (.int x5_1), some (.int x6)] [] h_5 (Mo_isBorne_L56 x1 x3 r_1 k103 n_1 x5_1 x6 h_5) := by
    intro k103 hk103 n_1
    induction n_1 with
    | zero =>
      intro x5_1 x6 h_5
      exact g_none
    | succ n_1 ih56 =>
      intro x5_1 x6 h_5
      rw [Mo_isBorne_L56]
      refine g_iload C iX7_isBorne_56 rfl ?_
      refine g_iload_n C iX7_isBorne_58 rfl ?_
      refine g_icmp_ge C 103 iX7_isBorne_59 (by decide) (fun c59 => ?_) (fun c59 => ?_)
      · refine g_sub (lv' := [none, none, none, none, none, some (.int x5_1), none]) ⟨rfl, trivial⟩ ?_
        exact hk103 _ _
      · refine g_iload C iX7_isBorne_62 rfl ?_
        refine g_if_eq C 103 iX7_isBorne_64 (by decide) (fun c64 => ?_) (fun c64 => ?_)
        · refine g_sub (lv' := [none, none, none, none, none, some (.int x5_1), none]) ⟨rfl, trivial⟩ ?_
          exact hk103 _ _
        · refine g_aload_n C iX7_isBorne_67 rfl ?_
          refine g_callV C wX7_172 iX7_isBorne_68 (m_Mo_ticks h_5) (by decide) mh0 rfl rfl rfl rfl (Nat.le_of_ble_eq_true rfl) (fun h_6 => ?_)
          show zG X ad shM eI 71 [some (.ref (ad 0)), some (.int x1), none, some (.int x3), some (.int r_1), some (.int x5_1), some (.int x6)] [] h_6 _
          refine g_aload_n C iX7_isBorne_71 rfl ?_
          refine g_getR (b := 7) C fX7_28 iX7_isBorne_72 mh0 rfl ?_
          refine g_iload_n C iX7_isBorne_75 rfl ?_
          refine g_iaload C iX7_isBorne_76 mh7 ?_
          refine g_if_le C 94 iX7_isBorne_77 (by decide) (fun c77 => ?_) (fun c77 => ?_)
          · refine g_iconst C 0 iX7_isBorne_94 (by decide) ?_
            refine g_istore (lv' := [some (.ref (ad 0)), some (.int x1), none, some (.int x3), some (.int r_1), some (.int 0), some (.int x6)]) C hnL iX7_isBorne_95 (by decide) rfl ?_
            refine g_iinc (v := (x6 + 1)) (lv' := [some (.ref (ad 0)), some (.int x1), none, some (.int x3), some (.int r_1), some (.int 0), some (.int (x6 + 1))]) C hnL iX7_isBorne_97 (by decide) rfl rfl rfl ?_
            refine g_goto C 56 iX7_isBorne_100 (by decide) ?_
            exact ih56 _ _ _
          · refine g_aload_n C iX7_isBorne_80 rfl ?_
            refine g_getI C fX7_124 iX7_isBorne_81 mh0 rfl ?_
            refine g_iload C iX7_isBorne_84 rfl ?_
            refine g_iand C iX7_isBorne_86 ?_
            refine g_if_ne C 94 iX7_isBorne_87 (by decide) (fun c87 => ?_) (fun c87 => ?_)
            · refine g_iconst C 1 iX7_isBorne_90 (by decide) ?_
              refine g_goto C 95 iX7_isBorne_91 (by decide) ?_
              refine g_istore (lv' := [some (.ref (ad 0)), some (.int x1), none, some (.int x3), some (.int r_1), some (.int 1), some (.int x6)]) C hnL iX7_isBorne_95 (by decide) rfl ?_
              refine g_iinc (v := (x6 + 1)) (lv' := [some (.ref (ad 0)), some (.int x1), none, some (.int x3), some (.int r_1), some (.int 1), some (.int (x6 + 1))]) C hnL iX7_isBorne_97 (by decide) rfl rfl rfl ?_
              refine g_goto C 56 iX7_isBorne_100 (by decide) ?_
              exact ih56 _ _ _
            · refine g_iconst C 0 iX7_isBorne_94 (by decide) ?_
              refine g_istore (lv' := [some (.ref (ad 0)), some (.int x1), none, some (.int x3), some (.int r_1), some (.int 0), some (.int x6)]) C hnL iX7_isBorne_95 (by decide) rfl ?_
              refine g_iinc (v := (x6 + 1)) (lv' := [some (.ref (ad 0)), some (.int x1), none, some (.int x3), some (.int r_1), some (.int 0), some (.int (x6 + 1))]) C hnL iX7_isBorne_97 (by decide) rfl rfl rfl ?_
              refine g_goto C 56 iX7_isBorne_100 (by decide) ?_
              exact ih56 _ _ _
  refine L56 _ (fun x5_2 h_7 => ?_) 1000 _ _ _
  show zG X ad shM eI 103 [none, none, none, none, none, some (.int x5_2), none] [] h_7 _
  refine g_iload C iX7_isBorne_103 rfl ?_
  exact g_zretG C iX7_isBorne_105 rfl

theorem iX7_loadOf_11 : zI cX7_loadOf 11 (.if_icmp .ge 34) 3 14 := ⟨by decide +kernel, rfl⟩
theorem iX7_loadOf_17 : zI cX7_loadOf 17 (.invokestatic 66) 3 20 := ⟨by decide +kernel, rfl⟩
theorem iX7_loadOf_20 : zI cX7_loadOf 20 (.ifCond .eq 16) 3 23 := ⟨by decide +kernel, rfl⟩
theorem iX7_loadOf_42 : zI cX7_loadOf 42 (.goto (-38)) 3 45 := ⟨by decide +kernel, rfl⟩
theorem iX7_loadOf_39 : zI cX7_loadOf 39 (.iinc 3 1) 3 42 := ⟨by decide +kernel, rfl⟩
theorem iX7_loadOf_38 : zI cX7_loadOf 38 (.istore_n 2) 1 39 := ⟨by decide +kernel, rfl⟩
theorem iX7_loadOf_37 : zI cX7_loadOf 37 (.iadd) 1 38 := ⟨by decide +kernel, rfl⟩
theorem iX7_loadOf_36 : zI cX7_loadOf 36 (.iconst 0) 1 37 := ⟨by decide +kernel, rfl⟩
theorem iX7_loadOf_33 : zI cX7_loadOf 33 (.goto 4) 3 36 := ⟨by decide +kernel, rfl⟩
theorem iX7_loadOf_32 : zI cX7_loadOf 32 (.iaload) 1 33 := ⟨by decide +kernel, rfl⟩
theorem iX7_loadOf_31 : zI cX7_loadOf 31 (.iadd) 1 32 := ⟨by decide +kernel, rfl⟩
theorem iX7_loadOf_30 : zI cX7_loadOf 30 (.iconst 1) 1 31 := ⟨by decide +kernel, rfl⟩
theorem iX7_loadOf_29 : zI cX7_loadOf 29 (.imul) 1 30 := ⟨by decide +kernel, rfl⟩
theorem iX7_loadOf_28 : zI cX7_loadOf 28 (.iload_n 3) 1 29 := ⟨by decide +kernel, rfl⟩
theorem iX7_loadOf_27 : zI cX7_loadOf 27 (.iconst 3) 1 28 := ⟨by decide +kernel, rfl⟩
theorem iX7_loadOf_24 : zI cX7_loadOf 24 (.getfield 22) 3 27 := ⟨by decide +kernel, rfl⟩
theorem iX7_loadOf_23 : zI cX7_loadOf 23 (.aload_n 0) 1 24 := ⟨by decide +kernel, rfl⟩
theorem iX7_loadOf_16 : zI cX7_loadOf 16 (.iload_n 3) 1 17 := ⟨by decide +kernel, rfl⟩
theorem iX7_loadOf_15 : zI cX7_loadOf 15 (.iload_n 1) 1 16 := ⟨by decide +kernel, rfl⟩
theorem iX7_loadOf_14 : zI cX7_loadOf 14 (.iload_n 2) 1 15 := ⟨by decide +kernel, rfl⟩
theorem iX7_loadOf_10 : zI cX7_loadOf 10 (.iaload) 1 11 := ⟨by decide +kernel, rfl⟩
theorem iX7_loadOf_9 : zI cX7_loadOf 9 (.iconst 3) 1 10 := ⟨by decide +kernel, rfl⟩
theorem iX7_loadOf_6 : zI cX7_loadOf 6 (.getfield 13) 3 9 := ⟨by decide +kernel, rfl⟩
theorem iX7_loadOf_5 : zI cX7_loadOf 5 (.aload_n 0) 1 6 := ⟨by decide +kernel, rfl⟩
theorem iX7_loadOf_4 : zI cX7_loadOf 4 (.iload_n 3) 1 5 := ⟨by decide +kernel, rfl⟩
theorem iX7_loadOf_46 : zI cX7_loadOf 46 (.ireturn) 1 47 := ⟨by decide +kernel, rfl⟩
theorem iX7_loadOf_45 : zI cX7_loadOf 45 (.iload_n 2) 1 46 := ⟨by decide +kernel, rfl⟩
theorem iX7_loadOf_3 : zI cX7_loadOf 3 (.istore_n 3) 1 4 := ⟨by decide +kernel, rfl⟩
theorem iX7_loadOf_2 : zI cX7_loadOf 2 (.iconst 0) 1 3 := ⟨by decide +kernel, rfl⟩
theorem iX7_loadOf_1 : zI cX7_loadOf 1 (.istore_n 2) 1 2 := ⟨by decide +kernel, rfl⟩
theorem iX7_loadOf_0 : zI cX7_loadOf 0 (.iconst 0) 1 1 := ⟨by decide +kernel, rfl⟩
set_option maxHeartbeats 4000000 in
set_option maxRecDepth 100000 in
theorem m_Mo_loadOf (x1 : Int32) (h : zH) : zM yX7_loadOf cX7_loadOf 4 (some .int) 1 shM (fun ad => [.ref (ad 0), .int x1]) h (eP h) (Mo_loadOf x1 h) := by
  refine zM.of (by decide) (fun _ => rfl) (fun _ => Nat.le_of_ble_eq_true rfl) (fun X ad hnL C => ?_)
  show zG X ad shM (eP h) 0 [some (.ref (ad 0)), some (.int x1), none, none] [] h _
  unfold Mo_loadOf
  refine g_iconst C 0 iX7_loadOf_0 (by decide) ?_
  refine g_istore_n (lv' := [some (.ref (ad 0)), some (.int x1), some (.int 0), none]) C hnL iX7_loadOf_1 (by decide) rfl ?_
  refine g_iconst C 0 iX7_loadOf_2 (by decide) ?_
  refine g_istore_n (lv' := [some (.ref (ad 0)), some (.int x1), some (.int 0), some (.int 0)]) C hnL iX7_loadOf_3 (by decide) rfl ?_
  have L4 : ∀ (k45 : Int32 → Option (Int32)), (∀ (y2 : Int32), zG X ad shM (eP h) 45 [none, none, some (.int y2), none] [] h (k45 y2)) → ∀ (n : Nat) (x2 x3 : Int32), zG X ad shM (eP h) 4 [some (.ref (ad 0)), some (.int x1), some (.int x2), some (.int x3)] [] h (Mo_loadOf_L4 x1 h k45 n x2 x3) := by
    intro k45 hk45 n
    induction n with
    | zero =>
      intro x2 x3
      exact g_none
    | succ n ih4 =>
      intro x2 x3
      rw [Mo_loadOf_L4]
      refine g_iload_n C iX7_loadOf_4 rfl ?_
      refine g_aload_n C iX7_loadOf_5 rfl ?_
      refine g_getR (b := 2) C fX7_13 iX7_loadOf_6 mh0 rfl ?_
      refine g_iconst C 3 iX7_loadOf_9 (by decide) ?_
      refine g_ialoadL C 3 iX7_loadOf_10 mh2 (by decide) (by decide) ?_
      refine g_icmp_ge C 45 iX7_loadOf_11 (by decide) (fun c11 => ?_) (fun c11 => ?_)
      · refine g_sub (lv' := [none, none, some (.int x2), none]) ⟨rfl, trivial⟩ ?_
        exact hk45 _
      · refine g_iload_n C iX7_loadOf_14 rfl ?_
        refine g_iload_n C iX7_loadOf_15 rfl ?_
        refine g_iload_n C iX7_loadOf_16 rfl ?_
        refine g_callS C wX7_66 iX7_loadOf_17 (m_Mo_has x1 x3 h) (by decide) rfl rfl rfl (Nat.le_of_ble_eq_true rfl) (fun r => ?_)
        show zG X ad shM (eP h) 20 [some (.ref (ad 0)), some (.int x1), some (.int x2), some (.int x3)] [.int r, .int x2] h _
        refine g_if_eq C 36 iX7_loadOf_20 (by decide) (fun c20 => ?_) (fun c20 => ?_)
        · refine g_iconst C 0 iX7_loadOf_36 (by decide) ?_
          refine g_iadd C iX7_loadOf_37 ?_
          refine g_top (fun x2_1 => ?_)
          refine g_istore_n (lv' := [some (.ref (ad 0)), some (.int x1), some (.int x2_1), some (.int x3)]) C hnL iX7_loadOf_38 (by decide) rfl ?_
          refine g_iinc (v := (x3 + 1)) (lv' := [some (.ref (ad 0)), some (.int x1), some (.int x2_1), some (.int (x3 + 1))]) C hnL iX7_loadOf_39 (by decide) rfl rfl rfl ?_
          refine g_goto C 4 iX7_loadOf_42 (by decide) ?_
          exact ih4 _ _
        · refine g_aload_n C iX7_loadOf_23 rfl ?_
          refine g_getR (b := 5) C fX7_22 iX7_loadOf_24 mh0 rfl ?_
          refine g_iconst C 3 iX7_loadOf_27 (by decide) ?_
          refine g_iload_n C iX7_loadOf_28 rfl ?_
          refine g_imul C iX7_loadOf_29 ?_
          refine g_iconst C 1 iX7_loadOf_30 (by decide) ?_
          refine g_iadd C iX7_loadOf_31 ?_
          refine g_iaload C iX7_loadOf_32 mh5 ?_
          refine g_goto C 37 iX7_loadOf_33 (by decide) ?_
          refine g_iadd C iX7_loadOf_37 ?_
          refine g_top (fun x2_2 => ?_)
          refine g_istore_n (lv' := [some (.ref (ad 0)), some (.int x1), some (.int x2_2), some (.int x3)]) C hnL iX7_loadOf_38 (by decide) rfl ?_
          refine g_iinc (v := (x3 + 1)) (lv' := [some (.ref (ad 0)), some (.int x1), some (.int x2_2), some (.int (x3 + 1))]) C hnL iX7_loadOf_39 (by decide) rfl rfl rfl ?_
          refine g_goto C 4 iX7_loadOf_42 (by decide) ?_
          exact ih4 _ _
  refine L4 _ (fun x2_3 => ?_) 1000 _ _
  show zG X ad shM (eP h) 45 [none, none, some (.int x2_3), none] [] h _
  refine g_iload_n C iX7_loadOf_45 rfl ?_
  exact g_iret C iX7_loadOf_46 rfl

theorem iX7_least_3 : zI cX7_least 3 (.invokevirtual 115) 3 6 := ⟨by decide +kernel, rfl⟩
theorem iX7_least_8 : zI cX7_least 8 (.invokestatic 82) 3 11 := ⟨by decide +kernel, rfl⟩
theorem iX7_least_11 : zI cX7_least 11 (.ifCond .eq 22) 3 14 := ⟨by decide +kernel, rfl⟩
theorem iX7_least_34 : zI cX7_least 34 (.ireturn) 1 35 := ⟨by decide +kernel, rfl⟩
theorem iX7_least_33 : zI cX7_least 33 (.iconst (-1)) 1 34 := ⟨by decide +kernel, rfl⟩
theorem iX7_least_18 : zI cX7_least 18 (.invokestatic 82) 3 21 := ⟨by decide +kernel, rfl⟩
theorem iX7_least_21 : zI cX7_least 21 (.ifCond .eq 12) 3 24 := ⟨by decide +kernel, rfl⟩
theorem iX7_least_27 : zI cX7_least 27 (.invokestatic 82) 3 30 := ⟨by decide +kernel, rfl⟩
theorem iX7_least_30 : zI cX7_least 30 (.ifCond .ne 5) 3 33 := ⟨by decide +kernel, rfl⟩
theorem iX7_least_37 : zI cX7_least 37 (.invokevirtual 188) 3 40 := ⟨by decide +kernel, rfl⟩
theorem iX7_least_46 : zI cX7_least 46 (.invokevirtual 51) 3 49 := ⟨by decide +kernel, rfl⟩
theorem iX7_least_49 : zI cX7_least 49 (.invokevirtual 191) 3 52 := ⟨by decide +kernel, rfl⟩
theorem iX7_least_67 : zI cX7_least 67 (.invokevirtual 197) 3 70 := ⟨by decide +kernel, rfl⟩
theorem iX7_least_77 : zI cX7_least 77 (.if_icmp .gt 130) 3 80 := ⟨by decide +kernel, rfl⟩
theorem iX7_least_87 : zI cX7_least 87 (.ifCond .le 120) 3 90 := ⟨by decide +kernel, rfl⟩
set_option maxRecDepth 100000 in
theorem wX7_203 : zCv RX7 203 yX7_loadOf cX7_loadOf 4 (some .int) 1 := ⟨⟨(zmem 1064 (by decide +kernel) (by decide +kernel)), (zmem 76 (by decide +kernel) (by decide +kernel)), (zmem 1067 rfl rfl), ⟨by decide, by decide, by decide +kernel⟩, by decide⟩, (zmem 1066 (by decide +kernel) (by decide +kernel)), (zmem 60 (by decide +kernel) (by decide +kernel))⟩
theorem iX7_least_110 : zI cX7_least 110 (.invokevirtual 203) 3 113 := ⟨by decide +kernel, rfl⟩
theorem iX7_least_173 : zI cX7_least 173 (.ifCond .eq 28) 3 176 := ⟨by decide +kernel, rfl⟩
theorem iX7_least_204 : zI cX7_least 204 (.goto (-131)) 3 207 := ⟨by decide +kernel, rfl⟩
theorem iX7_least_201 : zI cX7_least 201 (.iinc 7 1) 3 204 := ⟨by decide +kernel, rfl⟩
set_option maxRecDepth 100000 in
theorem wX7_206 : zCv RX7 206 yX7_isBorne cX7_isBorne 7 (some .boolean) 3 := ⟨⟨(zmem 1068 (by decide +kernel) (by decide +kernel)), (zmem 76 (by decide +kernel) (by decide +kernel)), (zmem 1071 rfl rfl), ⟨by decide, by decide, by decide +kernel⟩, by decide⟩, (zmem 1070 (by decide +kernel) (by decide +kernel)), (zmem 61 (by decide +kernel) (by decide +kernel))⟩
theorem iX7_least_182 : zI cX7_least 182 (.invokevirtual 206) 3 185 := ⟨by decide +kernel, rfl⟩
theorem iX7_least_198 : zI cX7_least 198 (.invokevirtual 200) 3 201 := ⟨by decide +kernel, rfl⟩
theorem iX7_least_197 : zI cX7_least 197 (.aload_n 0) 1 198 := ⟨by decide +kernel, rfl⟩
theorem iX7_least_195 : zI cX7_least 195 (.istore 6) 2 197 := ⟨by decide +kernel, rfl⟩
theorem iX7_least_185 : zI cX7_least 185 (.ifCond .eq 8) 3 188 := ⟨by decide +kernel, rfl⟩
theorem iX7_least_193 : zI cX7_least 193 (.iload 6) 2 195 := ⟨by decide +kernel, rfl⟩
theorem iX7_least_190 : zI cX7_least 190 (.goto 5) 3 193 := ⟨by decide +kernel, rfl⟩
theorem iX7_least_188 : zI cX7_least 188 (.iload 7) 2 190 := ⟨by decide +kernel, rfl⟩
theorem iX7_least_181 : zI cX7_least 181 (.iload_n 2) 1 182 := ⟨by decide +kernel, rfl⟩
theorem iX7_least_179 : zI cX7_least 179 (.iload 7) 2 181 := ⟨by decide +kernel, rfl⟩
theorem iX7_least_177 : zI cX7_least 177 (.iload 4) 2 179 := ⟨by decide +kernel, rfl⟩
theorem iX7_least_176 : zI cX7_least 176 (.aload_n 0) 1 177 := ⟨by decide +kernel, rfl⟩
theorem iX7_least_171 : zI cX7_least 171 (.iload 10) 2 173 := ⟨by decide +kernel, rfl⟩
theorem iX7_least_169 : zI cX7_least 169 (.istore 10) 2 171 := ⟨by decide +kernel, rfl⟩
theorem iX7_least_117 : zI cX7_least 117 (.ifCond .eq 51) 3 120 := ⟨by decide +kernel, rfl⟩
theorem iX7_least_168 : zI cX7_least 168 (.iconst 0) 1 169 := ⟨by decide +kernel, rfl⟩
theorem iX7_least_124 : zI cX7_least 124 (.if_icmp .eq 40) 3 127 := ⟨by decide +kernel, rfl⟩
theorem iX7_least_165 : zI cX7_least 165 (.goto 4) 3 168 := ⟨by decide +kernel, rfl⟩
theorem iX7_least_164 : zI cX7_least 164 (.iconst 1) 1 165 := ⟨by decide +kernel, rfl⟩
theorem iX7_least_132 : zI cX7_least 132 (.invokevirtual 203) 3 135 := ⟨by decide +kernel, rfl⟩
theorem iX7_least_135 : zI cX7_least 135 (.if_icmp .lt 29) 3 138 := ⟨by decide +kernel, rfl⟩
theorem iX7_least_143 : zI cX7_least 143 (.invokevirtual 203) 3 146 := ⟨by decide +kernel, rfl⟩
theorem iX7_least_146 : zI cX7_least 146 (.if_icmp .ne 22) 3 149 := ⟨by decide +kernel, rfl⟩
theorem iX7_least_152 : zI cX7_least 152 (.invokevirtual 194) 3 155 := ⟨by decide +kernel, rfl⟩
theorem iX7_least_158 : zI cX7_least 158 (.invokevirtual 194) 3 161 := ⟨by decide +kernel, rfl⟩
theorem iX7_least_161 : zI cX7_least 161 (.if_icmp .ge 7) 3 164 := ⟨by decide +kernel, rfl⟩
theorem iX7_least_156 : zI cX7_least 156 (.iload 6) 2 158 := ⟨by decide +kernel, rfl⟩
theorem iX7_least_155 : zI cX7_least 155 (.aload_n 0) 1 156 := ⟨by decide +kernel, rfl⟩
theorem iX7_least_150 : zI cX7_least 150 (.iload 7) 2 152 := ⟨by decide +kernel, rfl⟩
theorem iX7_least_149 : zI cX7_least 149 (.aload_n 0) 1 150 := ⟨by decide +kernel, rfl⟩
theorem iX7_least_141 : zI cX7_least 141 (.iload 6) 2 143 := ⟨by decide +kernel, rfl⟩
theorem iX7_least_140 : zI cX7_least 140 (.aload_n 0) 1 141 := ⟨by decide +kernel, rfl⟩
theorem iX7_least_138 : zI cX7_least 138 (.iload 9) 2 140 := ⟨by decide +kernel, rfl⟩
theorem iX7_least_130 : zI cX7_least 130 (.iload 6) 2 132 := ⟨by decide +kernel, rfl⟩
theorem iX7_least_129 : zI cX7_least 129 (.aload_n 0) 1 130 := ⟨by decide +kernel, rfl⟩
theorem iX7_least_127 : zI cX7_least 127 (.iload 9) 2 129 := ⟨by decide +kernel, rfl⟩
theorem iX7_least_122 : zI cX7_least 122 (.bipush (-4)) 2 124 := ⟨by decide +kernel, rfl⟩
theorem iX7_least_120 : zI cX7_least 120 (.iload 6) 2 122 := ⟨by decide +kernel, rfl⟩
theorem iX7_least_115 : zI cX7_least 115 (.iload 8) 2 117 := ⟨by decide +kernel, rfl⟩
theorem iX7_least_113 : zI cX7_least 113 (.istore 9) 2 115 := ⟨by decide +kernel, rfl⟩
theorem iX7_least_108 : zI cX7_least 108 (.iload 7) 2 110 := ⟨by decide +kernel, rfl⟩
theorem iX7_least_107 : zI cX7_least 107 (.aload_n 0) 1 108 := ⟨by decide +kernel, rfl⟩
theorem iX7_least_105 : zI cX7_least 105 (.istore 8) 2 107 := ⟨by decide +kernel, rfl⟩
theorem iX7_least_97 : zI cX7_least 97 (.ifCond .ne 7) 3 100 := ⟨by decide +kernel, rfl⟩
theorem iX7_least_104 : zI cX7_least 104 (.iconst 0) 1 105 := ⟨by decide +kernel, rfl⟩
theorem iX7_least_101 : zI cX7_least 101 (.goto 4) 3 104 := ⟨by decide +kernel, rfl⟩
theorem iX7_least_100 : zI cX7_least 100 (.iconst 1) 1 101 := ⟨by decide +kernel, rfl⟩
theorem iX7_least_96 : zI cX7_least 96 (.iand) 1 97 := ⟨by decide +kernel, rfl⟩
theorem iX7_least_95 : zI cX7_least 95 (.ixor) 1 96 := ⟨by decide +kernel, rfl⟩
theorem iX7_least_94 : zI cX7_least 94 (.iconst (-1)) 1 95 := ⟨by decide +kernel, rfl⟩
theorem iX7_least_92 : zI cX7_least 92 (.iload 5) 2 94 := ⟨by decide +kernel, rfl⟩
theorem iX7_least_90 : zI cX7_least 90 (.iload 7) 2 92 := ⟨by decide +kernel, rfl⟩
theorem iX7_least_86 : zI cX7_least 86 (.iaload) 1 87 := ⟨by decide +kernel, rfl⟩
theorem iX7_least_84 : zI cX7_least 84 (.iload 4) 2 86 := ⟨by decide +kernel, rfl⟩
theorem iX7_least_81 : zI cX7_least 81 (.getfield 34) 3 84 := ⟨by decide +kernel, rfl⟩
theorem iX7_least_80 : zI cX7_least 80 (.aload_n 0) 1 81 := ⟨by decide +kernel, rfl⟩
theorem iX7_least_75 : zI cX7_least 75 (.iload 5) 2 77 := ⟨by decide +kernel, rfl⟩
theorem iX7_least_73 : zI cX7_least 73 (.iload 7) 2 75 := ⟨by decide +kernel, rfl⟩
theorem iX7_least_211 : zI cX7_least 211 (.if_icmp .eq 7) 3 214 := ⟨by decide +kernel, rfl⟩
theorem iX7_least_229 : zI cX7_least 229 (.ireturn) 1 230 := ⟨by decide +kernel, rfl⟩
theorem iX7_least_220 : zI cX7_least 220 (.goto 9) 3 223 := ⟨by decide +kernel, rfl⟩
theorem iX7_least_218 : zI cX7_least 218 (.iload 6) 2 220 := ⟨by decide +kernel, rfl⟩
theorem iX7_least_215 : zI cX7_least 215 (.ifCond .ne 8) 3 218 := ⟨by decide +kernel, rfl⟩
theorem iX7_least_226 : zI cX7_least 226 (.invokevirtual 203) 3 229 := ⟨by decide +kernel, rfl⟩
theorem iX7_least_224 : zI cX7_least 224 (.iload 6) 2 226 := ⟨by decide +kernel, rfl⟩
theorem iX7_least_223 : zI cX7_least 223 (.aload_n 0) 1 224 := ⟨by decide +kernel, rfl⟩
theorem iX7_least_214 : zI cX7_least 214 (.iload_n 3) 1 215 := ⟨by decide +kernel, rfl⟩
theorem iX7_least_209 : zI cX7_least 209 (.bipush (-4)) 2 211 := ⟨by decide +kernel, rfl⟩
theorem iX7_least_207 : zI cX7_least 207 (.iload 6) 2 209 := ⟨by decide +kernel, rfl⟩
theorem iX7_least_71 : zI cX7_least 71 (.istore 7) 2 73 := ⟨by decide +kernel, rfl⟩
theorem iX7_least_70 : zI cX7_least 70 (.iconst 0) 1 71 := ⟨by decide +kernel, rfl⟩
theorem iX7_least_66 : zI cX7_least 66 (.aload_n 0) 1 67 := ⟨by decide +kernel, rfl⟩
theorem iX7_least_64 : zI cX7_least 64 (.istore 6) 2 66 := ⟨by decide +kernel, rfl⟩
theorem iX7_least_62 : zI cX7_least 62 (.bipush (-4)) 2 64 := ⟨by decide +kernel, rfl⟩
theorem iX7_least_60 : zI cX7_least 60 (.istore 5) 2 62 := ⟨by decide +kernel, rfl⟩
theorem iX7_least_59 : zI cX7_least 59 (.iand) 1 60 := ⟨by decide +kernel, rfl⟩
theorem iX7_least_58 : zI cX7_least 58 (.iaload) 1 59 := ⟨by decide +kernel, rfl⟩
theorem iX7_least_56 : zI cX7_least 56 (.bipush 42) 2 58 := ⟨by decide +kernel, rfl⟩
theorem iX7_least_53 : zI cX7_least 53 (.getfield 28) 3 56 := ⟨by decide +kernel, rfl⟩
theorem iX7_least_52 : zI cX7_least 52 (.aload_n 0) 1 53 := ⟨by decide +kernel, rfl⟩
theorem iX7_least_44 : zI cX7_least 44 (.iload 4) 2 46 := ⟨by decide +kernel, rfl⟩
theorem iX7_least_43 : zI cX7_least 43 (.aload_n 0) 1 44 := ⟨by decide +kernel, rfl⟩
theorem iX7_least_42 : zI cX7_least 42 (.aload_n 0) 1 43 := ⟨by decide +kernel, rfl⟩
theorem iX7_least_40 : zI cX7_least 40 (.istore 4) 2 42 := ⟨by decide +kernel, rfl⟩
theorem iX7_least_36 : zI cX7_least 36 (.iload_n 1) 1 37 := ⟨by decide +kernel, rfl⟩
theorem iX7_least_35 : zI cX7_least 35 (.aload_n 0) 1 36 := ⟨by decide +kernel, rfl⟩
theorem iX7_least_26 : zI cX7_least 26 (.iconst 1) 1 27 := ⟨by decide +kernel, rfl⟩
theorem iX7_least_25 : zI cX7_least 25 (.iconst 0) 1 26 := ⟨by decide +kernel, rfl⟩
theorem iX7_least_24 : zI cX7_least 24 (.iload_n 3) 1 25 := ⟨by decide +kernel, rfl⟩
theorem iX7_least_16 : zI cX7_least 16 (.bipush 30) 2 18 := ⟨by decide +kernel, rfl⟩
theorem iX7_least_15 : zI cX7_least 15 (.iconst 1) 1 16 := ⟨by decide +kernel, rfl⟩
theorem iX7_least_14 : zI cX7_least 14 (.iload_n 2) 1 15 := ⟨by decide +kernel, rfl⟩
theorem iX7_least_7 : zI cX7_least 7 (.isub) 1 8 := ⟨by decide +kernel, rfl⟩
theorem iX7_least_6 : zI cX7_least 6 (.iconst 1) 1 7 := ⟨by decide +kernel, rfl⟩
theorem iX7_least_2 : zI cX7_least 2 (.aload_n 0) 1 3 := ⟨by decide +kernel, rfl⟩
theorem iX7_least_1 : zI cX7_least 1 (.iconst 0) 1 2 := ⟨by decide +kernel, rfl⟩
theorem iX7_least_0 : zI cX7_least 0 (.iload_n 1) 1 1 := ⟨by decide +kernel, rfl⟩
set_option maxHeartbeats 4000000 in
set_option maxRecDepth 100000 in
theorem m_Mo_least (x1 : Int32) (x2 : Int32) (x3 : Int32) (h : zH) : zM yX7_least cX7_least 11 (some .int) 6 shM (fun ad => [.ref (ad 0), .int x1, .int x2, .int x3]) h eI (Mo_least x1 x2 x3 h) := by
  refine zM.of (by decide) (fun _ => rfl) (fun _ => Nat.le_of_ble_eq_true rfl) (fun X ad hnL C => ?_)
  show zG X ad shM eI 0 [some (.ref (ad 0)), some (.int x1), some (.int x2), some (.int x3), none, none, none, none, none, none, none] [] h _
  unfold Mo_least
  refine g_iload_n C iX7_least_0 rfl ?_
  refine g_iconst C 0 iX7_least_1 (by decide) ?_
  refine g_aload_n C iX7_least_2 rfl ?_
  refine g_callV C wX7_115 iX7_least_3 (m_Mo_islands h) (by decide) mh0 rfl rfl rfl rfl (Nat.le_of_ble_eq_true rfl) (fun r => ?_)
  show zG X ad shM eI 6 [some (.ref (ad 0)), some (.int x1), some (.int x2), some (.int x3), none, none, none, none, none, none, none] [.int r, .int 0, .int x1] h _
  refine g_iconst C 1 iX7_least_6 (by decide) ?_
  refine g_isub C iX7_least_7 ?_
  refine g_callS C wX7_82 iX7_least_8 (m_Mo_isIn x1 0 (r - 1) h) (by decide) rfl rfl rfl (Nat.le_of_ble_eq_true rfl) (fun r_1 => ?_)
  show zG X ad shM eI 11 [some (.ref (ad 0)), some (.int x1), some (.int x2), some (.int x3), none, none, none, none, none, none, none] [.int r_1] h _
  refine g_if_eq C 33 iX7_least_11 (by decide) (fun c11 => ?_) (fun c11 => ?_)
  · refine g_iconst C (-1) iX7_least_33 (by decide) ?_
    exact g_iret C iX7_least_34 rfl
  · refine g_iload_n C iX7_least_14 rfl ?_
    refine g_iconst C 1 iX7_least_15 (by decide) ?_
    refine g_bipush C 30 iX7_least_16 (by decide) ?_
    refine g_callS C wX7_82 iX7_least_18 (m_Mo_isIn x2 1 30 h) (by decide) rfl rfl rfl (Nat.le_of_ble_eq_true rfl) (fun r_2 => ?_)
    show zG X ad shM eI 21 [some (.ref (ad 0)), some (.int x1), some (.int x2), some (.int x3), none, none, none, none, none, none, none] [.int r_2] h _
    refine g_if_eq C 33 iX7_least_21 (by decide) (fun c21 => ?_) (fun c21 => ?_)
    · refine g_iconst C (-1) iX7_least_33 (by decide) ?_
      exact g_iret C iX7_least_34 rfl
    · refine g_iload_n C iX7_least_24 rfl ?_
      refine g_iconst C 0 iX7_least_25 (by decide) ?_
      refine g_iconst C 1 iX7_least_26 (by decide) ?_
      refine g_callS C wX7_82 iX7_least_27 (m_Mo_isIn x3 0 1 h) (by decide) rfl rfl rfl (Nat.le_of_ble_eq_true rfl) (fun r_3 => ?_)
      show zG X ad shM eI 30 [some (.ref (ad 0)), some (.int x1), some (.int x2), some (.int x3), none, none, none, none, none, none, none] [.int r_3] h _
      refine g_if_ne C 35 iX7_least_30 (by decide) (fun c30 => ?_) (fun c30 => ?_)
      · refine g_iconst C (-1) iX7_least_33 (by decide) ?_
        exact g_iret C iX7_least_34 rfl
      · refine g_aload_n C iX7_least_35 rfl ?_
        refine g_iload_n C iX7_least_36 rfl ?_
        refine g_callV C wX7_188 iX7_least_37 (m_Mo_busOf x1 h) (by decide) mh0 rfl rfl rfl rfl (Nat.le_of_ble_eq_true rfl) (fun r_4 => ?_)
        show zG X ad shM eI 40 [some (.ref (ad 0)), some (.int x1), some (.int x2), some (.int x3), none, none, none, none, none, none, none] [.int r_4] h _
        refine g_istore (lv' := [some (.ref (ad 0)), some (.int x1), some (.int x2), some (.int x3), some (.int r_4), none, none, none, none, none, none]) C hnL iX7_least_40 (by decide) rfl ?_
        refine g_aload_n C iX7_least_42 rfl ?_
        refine g_aload_n C iX7_least_43 rfl ?_
        refine g_iload C iX7_least_44 rfl ?_
        refine g_callV C wX7_51 iX7_least_46 (m_Mo_busesOf r_4 h) (by decide) mh0 rfl rfl rfl rfl (Nat.le_of_ble_eq_true rfl) (fun r_5 => ?_)
        show zG X ad shM eI 49 [some (.ref (ad 0)), some (.int x1), some (.int x2), some (.int x3), some (.int r_4), none, none, none, none, none, none] [.int r_5, .ref (ad 0)] h _
        refine g_callV C wX7_191 iX7_least_49 (m_Mo_feedersOf r_5 h) (by decide) mh0 rfl rfl rfl rfl (Nat.le_of_ble_eq_true rfl) (fun r_6 => ?_)
        show zG X ad shM eI 52 [some (.ref (ad 0)), some (.int x1), some (.int x2), some (.int x3), some (.int r_4), none, none, none, none, none, none] [.int r_6] h _
        refine g_aload_n C iX7_least_52 rfl ?_
        refine g_getR (b := 7) C fX7_28 iX7_least_53 mh0 rfl ?_
        refine g_bipush C 42 iX7_least_56 (by decide) ?_
        refine g_ialoadL C 42 iX7_least_58 mh7 (by decide) (by decide) ?_
        refine g_iand C iX7_least_59 ?_
        refine g_top (fun x5 => ?_)
        refine g_istore (lv' := [some (.ref (ad 0)), some (.int x1), some (.int x2), some (.int x3), some (.int r_4), some (.int x5), none, none, none, none, none]) C hnL iX7_least_60 (by decide) rfl ?_
        refine g_bipush C (-4) iX7_least_62 (by decide) ?_
        refine g_istore (lv' := [some (.ref (ad 0)), some (.int x1), some (.int x2), some (.int x3), some (.int r_4), some (.int x5), some (.int (-4)), none, none, none, none]) C hnL iX7_least_64 (by decide) rfl ?_
        refine g_aload_n C iX7_least_66 rfl ?_
        refine g_callV C wX7_197 iX7_least_67 (m_Mo_saves h) (by decide) mh0 rfl rfl rfl rfl (Nat.le_of_ble_eq_true rfl) (fun h_1 => ?_)
        show zG X ad shM eI 70 [some (.ref (ad 0)), some (.int x1), some (.int x2), some (.int x3), some (.int r_4), some (.int x5), some (.int (-4)), none, none, none, none] [] h_1 _
        refine g_iconst C 0 iX7_least_70 (by decide) ?_
        refine g_istore (lv' := [some (.ref (ad 0)), some (.int x1), some (.int x2), some (.int x3), some (.int r_4), some (.int x5), some (.int (-4)), some (.int 0), none, none, none]) C hnL iX7_least_71 (by decide) rfl ?_
        have L73 : ∀ (k207 : Int32 → zH → Option (Int32 × zH)), (∀ (y6 : Int32) (hy : zH), zG X ad shM eI 207 [some (.ref (ad 0)), none, none, some (.int x3), none, none, some (.int y6), none, none, none, none] [] hy (k207 y6 hy)) → ∀ (n : Nat) (x6 x7 : Int32) (h_2 : zH), zG X ad shM eI 73 [some (.ref (ad 0)), none, some (.int x2), some (.int x3), some (.int r_4), some (.int x5), some (.int x6), some (.int x7), none, none, none] [] h_2 (Mo_least_L73 x2 r_4 x5 k207 n x6 x7 h_2) := by
          intro k207 hk207 n
          induction n with
          | zero =>
            intro x6 x7 h_2
            exact g_none
          | succ n ih73 =>
            intro x6 x7 h_2
            rw [Mo_least_L73]
            refine g_iload C iX7_least_73 rfl ?_
            refine g_iload C iX7_least_75 rfl ?_
            refine g_icmp_gt C 207 iX7_least_77 (by decide) (fun c77 => ?_) (fun c77 => ?_)
            · refine g_sub (lv' := [some (.ref (ad 0)), none, none, some (.int x3), none, none, some (.int x6), none, none, none, none]) ⟨rfl, ⟨rfl, ⟨rfl, trivial⟩⟩⟩ ?_
              exact hk207 _ _
            · refine g_aload_n C iX7_least_80 rfl ?_
              refine g_getR (b := 9) C fX7_34 iX7_least_81 mh0 rfl ?_
              refine g_iload C iX7_least_84 rfl ?_
              refine g_iaload C iX7_least_86 mh9 ?_
              refine g_if_le C 207 iX7_least_87 (by decide) (fun c87 => ?_) (fun c87 => ?_)
              · refine g_sub (lv' := [some (.ref (ad 0)), none, none, some (.int x3), none, none, some (.int x6), none, none, none, none]) ⟨rfl, ⟨rfl, ⟨rfl, trivial⟩⟩⟩ ?_
                exact hk207 _ _
              · refine g_iload C iX7_least_90 rfl ?_
                refine g_iload C iX7_least_92 rfl ?_
                refine g_iconst C (-1) iX7_least_94 (by decide) ?_
                refine g_ixor C iX7_least_95 ?_
                refine g_iand C iX7_least_96 ?_
                refine g_let (fun j105 ej105 => ?_)
                have hj105 : ∀ (v105 : Int32), zG X ad shM eI 105 [some (.ref (ad 0)), none, some (.int x2), some (.int x3), some (.int r_4), some (.int x5), some (.int x6), some (.int x7), none, none, none] [.int v105] h_2 (j105 v105) := by
                  intro v105
                  subst ej105
                  refine g_istore (lv' := [some (.ref (ad 0)), none, some (.int x2), some (.int x3), some (.int r_4), some (.int x5), some (.int x6), some (.int x7), some (.int v105), none, none]) C hnL iX7_least_105 (by decide) rfl ?_
                  refine g_aload_n C iX7_least_107 rfl ?_
                  refine g_iload C iX7_least_108 rfl ?_
                  refine g_callV C wX7_203 iX7_least_110 (m_Mo_loadOf x7 h_2) (by decide) mh0 rfl rfl rfl rfl (Nat.le_of_ble_eq_true rfl) (fun r_7 => ?_)
                  show zG X ad shM eI 113 [some (.ref (ad 0)), none, some (.int x2), some (.int x3), some (.int r_4), some (.int x5), some (.int x6), some (.int x7), some (.int v105), none, none] [.int r_7] h_2 _
                  refine g_istore (lv' := [some (.ref (ad 0)), none, some (.int x2), some (.int x3), some (.int r_4), some (.int x5), some (.int x6), some (.int x7), some (.int v105), some (.int r_7), none]) C hnL iX7_least_113 (by decide) rfl ?_
                  refine g_iload C iX7_least_115 rfl ?_
                  refine g_let (fun j169 ej169 => ?_)
                  have hj169 : ∀ (v169 : Int32), zG X ad shM eI 169 [some (.ref (ad 0)), none, some (.int x2), some (.int x3), some (.int r_4), some (.int x5), some (.int x6), some (.int x7), none, none, none] [.int v169] h_2 (j169 v169) := by
                    intro v169
                    subst ej169
                    refine g_istore (lv' := [some (.ref (ad 0)), none, some (.int x2), some (.int x3), some (.int r_4), some (.int x5), some (.int x6), some (.int x7), none, none, some (.int v169)]) C hnL iX7_least_169 (by decide) rfl ?_
                    refine g_iload C iX7_least_171 rfl ?_
                    refine g_if_eq C 201 iX7_least_173 (by decide) (fun c173 => ?_) (fun c173 => ?_)
                    · refine g_iinc (v := (x7 + 1)) (lv' := [some (.ref (ad 0)), none, some (.int x2), some (.int x3), some (.int r_4), some (.int x5), some (.int x6), some (.int (x7 + 1)), none, none, some (.int v169)]) C hnL iX7_least_201 (by decide) rfl rfl rfl ?_
                      refine g_goto C 73 iX7_least_204 (by decide) ?_
                      refine g_sub (lv' := [some (.ref (ad 0)), none, some (.int x2), some (.int x3), some (.int r_4), some (.int x5), some (.int x6), some (.int (x7 + 1)), none, none, none]) ⟨rfl, ⟨rfl, ⟨rfl, ⟨rfl, ⟨rfl, ⟨rfl, ⟨rfl, trivial⟩⟩⟩⟩⟩⟩⟩ ?_
                      exact ih73 _ _ _
                    · refine g_aload_n C iX7_least_176 rfl ?_
                      refine g_iload C iX7_least_177 rfl ?_
                      refine g_iload C iX7_least_179 rfl ?_
                      refine g_iload_n C iX7_least_181 rfl ?_
                      refine g_callV C wX7_206 iX7_least_182 (m_Mo_isBorne r_4 x7 x2 h_2) (by decide) mh0 rfl rfl rfl rfl (Nat.le_of_ble_eq_true rfl) (fun r_8 => ?_)
                      show zG X ad shM eI 185 [some (.ref (ad 0)), none, some (.int x2), some (.int x3), some (.int r_4), some (.int x5), some (.int x6), some (.int x7), none, none, some (.int v169)] [.int r_8.1] r_8.2 _
                      refine g_let (fun j195 ej195 => ?_)
                      have hj195 : ∀ (v195 : Int32), zG X ad shM eI 195 [some (.ref (ad 0)), none, some (.int x2), some (.int x3), some (.int r_4), some (.int x5), none, some (.int x7), none, none, none] [.int v195] r_8.2 (j195 v195) := by
                        intro v195
                        subst ej195
                        refine g_istore (lv' := [some (.ref (ad 0)), none, some (.int x2), some (.int x3), some (.int r_4), some (.int x5), some (.int v195), some (.int x7), none, none, none]) C hnL iX7_least_195 (by decide) rfl ?_
                        refine g_aload_n C iX7_least_197 rfl ?_
                        refine g_callV C wX7_200 iX7_least_198 (m_Mo_restores r_8.2) (by decide) mh0 rfl rfl rfl rfl (Nat.le_of_ble_eq_true rfl) (fun h_3 => ?_)
                        show zG X ad shM eI 201 [some (.ref (ad 0)), none, some (.int x2), some (.int x3), some (.int r_4), some (.int x5), some (.int v195), some (.int x7), none, none, none] [] h_3 _
                        refine g_iinc (v := (x7 + 1)) (lv' := [some (.ref (ad 0)), none, some (.int x2), some (.int x3), some (.int r_4), some (.int x5), some (.int v195), some (.int (x7 + 1)), none, none, none]) C hnL iX7_least_201 (by decide) rfl rfl rfl ?_
                        refine g_goto C 73 iX7_least_204 (by decide) ?_
                        exact ih73 _ _ _
                      clear ej195
                      refine g_if_eq C 193 iX7_least_185 (by decide) (fun c185 => ?_) (fun c185 => ?_)
                      · refine g_iload C iX7_least_193 rfl ?_
                        refine g_sub (lv' := [some (.ref (ad 0)), none, some (.int x2), some (.int x3), some (.int r_4), some (.int x5), none, some (.int x7), none, none, none]) ⟨rfl, ⟨rfl, ⟨rfl, ⟨rfl, ⟨rfl, ⟨rfl, trivial⟩⟩⟩⟩⟩⟩ ?_
                        exact hj195 _
                      · refine g_iload C iX7_least_188 rfl ?_
                        refine g_goto C 195 iX7_least_190 (by decide) ?_
                        refine g_sub (lv' := [some (.ref (ad 0)), none, some (.int x2), some (.int x3), some (.int r_4), some (.int x5), none, some (.int x7), none, none, none]) ⟨rfl, ⟨rfl, ⟨rfl, ⟨rfl, ⟨rfl, ⟨rfl, trivial⟩⟩⟩⟩⟩⟩ ?_
                        exact hj195 _
                  clear ej169
                  refine g_if_eq C 168 iX7_least_117 (by decide) (fun c117 => ?_) (fun c117 => ?_)
                  · refine g_iconst C 0 iX7_least_168 (by decide) ?_
                    refine g_sub (lv' := [some (.ref (ad 0)), none, some (.int x2), some (.int x3), some (.int r_4), some (.int x5), some (.int x6), some (.int x7), none, none, none]) ⟨rfl, ⟨rfl, ⟨rfl, ⟨rfl, ⟨rfl, ⟨rfl, ⟨rfl, trivial⟩⟩⟩⟩⟩⟩⟩ ?_
                    exact hj169 _
                  · refine g_iload C iX7_least_120 rfl ?_
                    refine g_bipush C (-4) iX7_least_122 (by decide) ?_
                    refine g_icmp_eq C 164 iX7_least_124 (by decide) (fun c124 => ?_) (fun c124 => ?_)
                    · refine g_iconst C 1 iX7_least_164 (by decide) ?_
                      refine g_goto C 169 iX7_least_165 (by decide) ?_
                      refine g_sub (lv' := [some (.ref (ad 0)), none, some (.int x2), some (.int x3), some (.int r_4), some (.int x5), some (.int x6), some (.int x7), none, none, none]) ⟨rfl, ⟨rfl, ⟨rfl, ⟨rfl, ⟨rfl, ⟨rfl, ⟨rfl, trivial⟩⟩⟩⟩⟩⟩⟩ ?_
                      exact hj169 _
                    · refine g_iload C iX7_least_127 rfl ?_
                      refine g_aload_n C iX7_least_129 rfl ?_
                      refine g_iload C iX7_least_130 rfl ?_
                      refine g_callV C wX7_203 iX7_least_132 (m_Mo_loadOf x6 h_2) (by decide) mh0 rfl rfl rfl rfl (Nat.le_of_ble_eq_true rfl) (fun r_9 => ?_)
                      show zG X ad shM eI 135 [some (.ref (ad 0)), none, some (.int x2), some (.int x3), some (.int r_4), some (.int x5), some (.int x6), some (.int x7), some (.int v105), some (.int r_7), none] [.int r_9, .int r_7] h_2 _
                      refine g_icmp_lt C 164 iX7_least_135 (by decide) (fun c135 => ?_) (fun c135 => ?_)
                      · refine g_iconst C 1 iX7_least_164 (by decide) ?_
                        refine g_goto C 169 iX7_least_165 (by decide) ?_
                        refine g_sub (lv' := [some (.ref (ad 0)), none, some (.int x2), some (.int x3), some (.int r_4), some (.int x5), some (.int x6), some (.int x7), none, none, none]) ⟨rfl, ⟨rfl, ⟨rfl, ⟨rfl, ⟨rfl, ⟨rfl, ⟨rfl, trivial⟩⟩⟩⟩⟩⟩⟩ ?_
                        exact hj169 _
                      · refine g_iload C iX7_least_138 rfl ?_
                        refine g_aload_n C iX7_least_140 rfl ?_
                        refine g_iload C iX7_least_141 rfl ?_
                        refine g_callV C wX7_203 iX7_least_143 (m_Mo_loadOf x6 h_2) (by decide) mh0 rfl rfl rfl rfl (Nat.le_of_ble_eq_true rfl) (fun r_10 => ?_)
                        show zG X ad shM eI 146 [some (.ref (ad 0)), none, some (.int x2), some (.int x3), some (.int r_4), some (.int x5), some (.int x6), some (.int x7), some (.int v105), some (.int r_7), none] [.int r_10, .int r_7] h_2 _
                        refine g_icmp_ne C 168 iX7_least_146 (by decide) (fun c146 => ?_) (fun c146 => ?_)
                        · refine g_aload_n C iX7_least_149 rfl ?_
                          refine g_iload C iX7_least_150 rfl ?_
                          refine g_callV C wX7_194 iX7_least_152 (m_Mo_bits x7 h_2) (by decide) mh0 rfl rfl rfl rfl (Nat.le_of_ble_eq_true rfl) (fun r_11 => ?_)
                          show zG X ad shM eI 155 [some (.ref (ad 0)), none, some (.int x2), some (.int x3), some (.int r_4), some (.int x5), some (.int x6), some (.int x7), some (.int v105), some (.int r_7), none] [.int r_11] h_2 _
                          refine g_aload_n C iX7_least_155 rfl ?_
                          refine g_iload C iX7_least_156 rfl ?_
                          refine g_callV C wX7_194 iX7_least_158 (m_Mo_bits x6 h_2) (by decide) mh0 rfl rfl rfl rfl (Nat.le_of_ble_eq_true rfl) (fun r_12 => ?_)
                          show zG X ad shM eI 161 [some (.ref (ad 0)), none, some (.int x2), some (.int x3), some (.int r_4), some (.int x5), some (.int x6), some (.int x7), some (.int v105), some (.int r_7), none] [.int r_12, .int r_11] h_2 _
                          refine g_icmp_ge C 168 iX7_least_161 (by decide) (fun c161 => ?_) (fun c161 => ?_)
                          · refine g_iconst C 0 iX7_least_168 (by decide) ?_
                            refine g_sub (lv' := [some (.ref (ad 0)), none, some (.int x2), some (.int x3), some (.int r_4), some (.int x5), some (.int x6), some (.int x7), none, none, none]) ⟨rfl, ⟨rfl, ⟨rfl, ⟨rfl, ⟨rfl, ⟨rfl, ⟨rfl, trivial⟩⟩⟩⟩⟩⟩⟩ ?_
                            exact hj169 _
                          · refine g_iconst C 1 iX7_least_164 (by decide) ?_
                            refine g_goto C 169 iX7_least_165 (by decide) ?_
                            refine g_sub (lv' := [some (.ref (ad 0)), none, some (.int x2), some (.int x3), some (.int r_4), some (.int x5), some (.int x6), some (.int x7), none, none, none]) ⟨rfl, ⟨rfl, ⟨rfl, ⟨rfl, ⟨rfl, ⟨rfl, ⟨rfl, trivial⟩⟩⟩⟩⟩⟩⟩ ?_
                            exact hj169 _
                        · refine g_iconst C 0 iX7_least_168 (by decide) ?_
                          refine g_sub (lv' := [some (.ref (ad 0)), none, some (.int x2), some (.int x3), some (.int r_4), some (.int x5), some (.int x6), some (.int x7), none, none, none]) ⟨rfl, ⟨rfl, ⟨rfl, ⟨rfl, ⟨rfl, ⟨rfl, ⟨rfl, trivial⟩⟩⟩⟩⟩⟩⟩ ?_
                          exact hj169 _
                clear ej105
                refine g_if_ne C 104 iX7_least_97 (by decide) (fun c97 => ?_) (fun c97 => ?_)
                · refine g_iconst C 1 iX7_least_100 (by decide) ?_
                  refine g_goto C 105 iX7_least_101 (by decide) ?_
                  exact hj105 _
                · refine g_iconst C 0 iX7_least_104 (by decide) ?_
                  exact hj105 _
        refine g_sub (lv' := [some (.ref (ad 0)), none, some (.int x2), some (.int x3), some (.int r_4), some (.int x5), some (.int (-4)), some (.int 0), none, none, none]) ⟨rfl, ⟨rfl, ⟨rfl, ⟨rfl, ⟨rfl, ⟨rfl, ⟨rfl, trivial⟩⟩⟩⟩⟩⟩⟩ ?_
        refine L73 _ (fun x6_1 h_4 => ?_) 1000 _ _ _
        show zG X ad shM eI 207 [some (.ref (ad 0)), none, none, some (.int x3), none, none, some (.int x6_1), none, none, none, none] [] h_4 _
        refine g_iload C iX7_least_207 rfl ?_
        refine g_bipush C (-4) iX7_least_209 (by decide) ?_
        refine g_icmp_eq C 218 iX7_least_211 (by decide) (fun c211 => ?_) (fun c211 => ?_)
        · refine g_iload C iX7_least_218 rfl ?_
          refine g_goto C 229 iX7_least_220 (by decide) ?_
          exact g_iret C iX7_least_229 rfl
        · refine g_iload_n C iX7_least_214 rfl ?_
          refine g_if_ne C 223 iX7_least_215 (by decide) (fun c215 => ?_) (fun c215 => ?_)
          · refine g_iload C iX7_least_218 rfl ?_
            refine g_goto C 229 iX7_least_220 (by decide) ?_
            exact g_iret C iX7_least_229 rfl
          · refine g_aload_n C iX7_least_223 rfl ?_
            refine g_iload C iX7_least_224 rfl ?_
            refine g_callV C wX7_203 iX7_least_226 (m_Mo_loadOf x6_1 h_4) (by decide) mh0 rfl rfl rfl rfl (Nat.le_of_ble_eq_true rfl) (fun r_13 => ?_)
            show zG X ad shM eI 229 [some (.ref (ad 0)), none, none, some (.int x3), none, none, some (.int x6_1), none, none, none, none] [.int r_13] h_4 _
            exact g_iret C iX7_least_229 rfl

theorem iX7_dark_2 : zI cX7_dark 2 (.invokevirtual 185) 3 5 := ⟨by decide +kernel, rfl⟩
theorem iX7_dark_5 : zI cX7_dark 5 (.ifCond .ne 5) 3 8 := ⟨by decide +kernel, rfl⟩
theorem iX7_dark_16 : zI cX7_dark 16 (.ifCond .ne 6) 3 19 := ⟨by decide +kernel, rfl⟩
theorem iX7_dark_23 : zI cX7_dark 23 (.invokevirtual 197) 3 26 := ⟨by decide +kernel, rfl⟩
theorem iX7_dark_34 : zI cX7_dark 34 (.if_icmp .gt 35) 3 37 := ⟨by decide +kernel, rfl⟩
theorem iX7_dark_40 : zI cX7_dark 40 (.if_icmp .ne 29) 3 43 := ⟨by decide +kernel, rfl⟩
theorem iX7_dark_44 : zI cX7_dark 44 (.invokevirtual 172) 3 47 := ⟨by decide +kernel, rfl⟩
theorem iX7_dark_53 : zI cX7_dark 53 (.ifCond .ne 7) 3 56 := ⟨by decide +kernel, rfl⟩
theorem iX7_dark_66 : zI cX7_dark 66 (.goto (-35)) 3 69 := ⟨by decide +kernel, rfl⟩
theorem iX7_dark_63 : zI cX7_dark 63 (.iinc 3 1) 3 66 := ⟨by decide +kernel, rfl⟩
theorem iX7_dark_62 : zI cX7_dark 62 (.istore_n 2) 1 63 := ⟨by decide +kernel, rfl⟩
theorem iX7_dark_60 : zI cX7_dark 60 (.bipush (-4)) 2 62 := ⟨by decide +kernel, rfl⟩
theorem iX7_dark_57 : zI cX7_dark 57 (.goto 5) 3 60 := ⟨by decide +kernel, rfl⟩
theorem iX7_dark_56 : zI cX7_dark 56 (.iload_n 3) 1 57 := ⟨by decide +kernel, rfl⟩
theorem iX7_dark_52 : zI cX7_dark 52 (.iaload) 1 53 := ⟨by decide +kernel, rfl⟩
theorem iX7_dark_51 : zI cX7_dark 51 (.iload_n 1) 1 52 := ⟨by decide +kernel, rfl⟩
theorem iX7_dark_48 : zI cX7_dark 48 (.getfield 28) 3 51 := ⟨by decide +kernel, rfl⟩
theorem iX7_dark_47 : zI cX7_dark 47 (.aload_n 0) 1 48 := ⟨by decide +kernel, rfl⟩
theorem iX7_dark_43 : zI cX7_dark 43 (.aload_n 0) 1 44 := ⟨by decide +kernel, rfl⟩
theorem iX7_dark_38 : zI cX7_dark 38 (.bipush (-4)) 2 40 := ⟨by decide +kernel, rfl⟩
theorem iX7_dark_37 : zI cX7_dark 37 (.iload_n 2) 1 38 := ⟨by decide +kernel, rfl⟩
theorem iX7_dark_32 : zI cX7_dark 32 (.bipush 60) 2 34 := ⟨by decide +kernel, rfl⟩
theorem iX7_dark_31 : zI cX7_dark 31 (.iload_n 3) 1 32 := ⟨by decide +kernel, rfl⟩
theorem iX7_dark_70 : zI cX7_dark 70 (.invokevirtual 200) 3 73 := ⟨by decide +kernel, rfl⟩
theorem iX7_dark_74 : zI cX7_dark 74 (.ireturn) 1 75 := ⟨by decide +kernel, rfl⟩
theorem iX7_dark_73 : zI cX7_dark 73 (.iload_n 2) 1 74 := ⟨by decide +kernel, rfl⟩
theorem iX7_dark_69 : zI cX7_dark 69 (.aload_n 0) 1 70 := ⟨by decide +kernel, rfl⟩
theorem iX7_dark_30 : zI cX7_dark 30 (.istore_n 3) 1 31 := ⟨by decide +kernel, rfl⟩
theorem iX7_dark_29 : zI cX7_dark 29 (.iconst 1) 1 30 := ⟨by decide +kernel, rfl⟩
theorem iX7_dark_28 : zI cX7_dark 28 (.istore_n 2) 1 29 := ⟨by decide +kernel, rfl⟩
theorem iX7_dark_26 : zI cX7_dark 26 (.bipush (-4)) 2 28 := ⟨by decide +kernel, rfl⟩
theorem iX7_dark_22 : zI cX7_dark 22 (.aload_n 0) 1 23 := ⟨by decide +kernel, rfl⟩
theorem iX7_dark_21 : zI cX7_dark 21 (.ireturn) 1 22 := ⟨by decide +kernel, rfl⟩
theorem iX7_dark_19 : zI cX7_dark 19 (.bipush (-2)) 2 21 := ⟨by decide +kernel, rfl⟩
theorem iX7_dark_15 : zI cX7_dark 15 (.iaload) 1 16 := ⟨by decide +kernel, rfl⟩
theorem iX7_dark_14 : zI cX7_dark 14 (.iload_n 1) 1 15 := ⟨by decide +kernel, rfl⟩
theorem iX7_dark_11 : zI cX7_dark 11 (.getfield 28) 3 14 := ⟨by decide +kernel, rfl⟩
theorem iX7_dark_10 : zI cX7_dark 10 (.aload_n 0) 1 11 := ⟨by decide +kernel, rfl⟩
theorem iX7_dark_9 : zI cX7_dark 9 (.ireturn) 1 10 := ⟨by decide +kernel, rfl⟩
theorem iX7_dark_8 : zI cX7_dark 8 (.iconst (-1)) 1 9 := ⟨by decide +kernel, rfl⟩
theorem iX7_dark_1 : zI cX7_dark 1 (.iload_n 1) 1 2 := ⟨by decide +kernel, rfl⟩
theorem iX7_dark_0 : zI cX7_dark 0 (.aload_n 0) 1 1 := ⟨by decide +kernel, rfl⟩
set_option maxHeartbeats 4000000 in
set_option maxRecDepth 100000 in
theorem m_Mo_dark (x1 : Int32) (h : zH) : zM yX7_dark cX7_dark 4 (some .int) 5 shM (fun ad => [.ref (ad 0), .int x1]) h eI (Mo_dark x1 h) := by
  refine zM.of (by decide) (fun _ => rfl) (fun _ => Nat.le_of_ble_eq_true rfl) (fun X ad hnL C => ?_)
  show zG X ad shM eI 0 [some (.ref (ad 0)), some (.int x1), none, none] [] h _
  unfold Mo_dark
  refine g_aload_n C iX7_dark_0 rfl ?_
  refine g_iload_n C iX7_dark_1 rfl ?_
  refine g_callV C wX7_185 iX7_dark_2 (m_Mo_isBus x1 h) (by decide) mh0 rfl rfl rfl rfl (Nat.le_of_ble_eq_true rfl) (fun r => ?_)
  show zG X ad shM eI 5 [some (.ref (ad 0)), some (.int x1), none, none] [.int r] h _
  refine g_if_ne C 10 iX7_dark_5 (by decide) (fun c5 => ?_) (fun c5 => ?_)
  · refine g_iconst C (-1) iX7_dark_8 (by decide) ?_
    exact g_iret C iX7_dark_9 rfl
  · refine g_aload_n C iX7_dark_10 rfl ?_
    refine g_getR (b := 7) C fX7_28 iX7_dark_11 mh0 rfl ?_
    refine g_iload_n C iX7_dark_14 rfl ?_
    refine g_iaload C iX7_dark_15 mh7 ?_
    refine g_if_ne C 22 iX7_dark_16 (by decide) (fun c16 => ?_) (fun c16 => ?_)
    · refine g_bipush C (-2) iX7_dark_19 (by decide) ?_
      exact g_iret C iX7_dark_21 rfl
    · refine g_aload_n C iX7_dark_22 rfl ?_
      refine g_callV C wX7_197 iX7_dark_23 (m_Mo_saves h) (by decide) mh0 rfl rfl rfl rfl (Nat.le_of_ble_eq_true rfl) (fun h_1 => ?_)
      show zG X ad shM eI 26 [some (.ref (ad 0)), some (.int x1), none, none] [] h_1 _
      refine g_bipush C (-4) iX7_dark_26 (by decide) ?_
      refine g_istore_n (lv' := [some (.ref (ad 0)), some (.int x1), some (.int (-4)), none]) C hnL iX7_dark_28 (by decide) rfl ?_
      refine g_iconst C 1 iX7_dark_29 (by decide) ?_
      refine g_istore_n (lv' := [some (.ref (ad 0)), some (.int x1), some (.int (-4)), some (.int 1)]) C hnL iX7_dark_30 (by decide) rfl ?_
      have L31 : ∀ (k69 : Int32 → zH → Option (Int32 × zH)), (∀ (y2 : Int32) (hy : zH), zG X ad shM eI 69 [some (.ref (ad 0)), none, some (.int y2), none] [] hy (k69 y2 hy)) → ∀ (n : Nat) (x2 x3 : Int32) (h_2 : zH), zG X ad shM eI 31 [some (.ref (ad 0)), some (.int x1), some (.int x2), some (.int x3)] [] h_2 (Mo_dark_L31 x1 k69 n x2 x3 h_2) := by
        intro k69 hk69 n
        induction n with
        | zero =>
          intro x2 x3 h_2
          exact g_none
        | succ n ih31 =>
          intro x2 x3 h_2
          rw [Mo_dark_L31]
          refine g_iload_n C iX7_dark_31 rfl ?_
          refine g_bipush C 60 iX7_dark_32 (by decide) ?_
          refine g_icmp_gt C 69 iX7_dark_34 (by decide) (fun c34 => ?_) (fun c34 => ?_)
          · refine g_sub (lv' := [some (.ref (ad 0)), none, some (.int x2), none]) ⟨rfl, ⟨rfl, trivial⟩⟩ ?_
            exact hk69 _ _
          · refine g_iload_n C iX7_dark_37 rfl ?_
            refine g_bipush C (-4) iX7_dark_38 (by decide) ?_
            refine g_icmp_ne C 69 iX7_dark_40 (by decide) (fun c40 => ?_) (fun c40 => ?_)
            · refine g_aload_n C iX7_dark_43 rfl ?_
              refine g_callV C wX7_172 iX7_dark_44 (m_Mo_ticks h_2) (by decide) mh0 rfl rfl rfl rfl (Nat.le_of_ble_eq_true rfl) (fun h_3 => ?_)
              show zG X ad shM eI 47 [some (.ref (ad 0)), some (.int x1), some (.int x2), some (.int x3)] [] h_3 _
              refine g_aload_n C iX7_dark_47 rfl ?_
              refine g_getR (b := 7) C fX7_28 iX7_dark_48 mh0 rfl ?_
              refine g_iload_n C iX7_dark_51 rfl ?_
              refine g_iaload C iX7_dark_52 mh7 ?_
              refine g_if_ne C 60 iX7_dark_53 (by decide) (fun c53 => ?_) (fun c53 => ?_)
              · refine g_iload_n C iX7_dark_56 rfl ?_
                refine g_goto C 62 iX7_dark_57 (by decide) ?_
                refine g_istore_n (lv' := [some (.ref (ad 0)), some (.int x1), some (.int x3), some (.int x3)]) C hnL iX7_dark_62 (by decide) rfl ?_
                refine g_iinc (v := (x3 + 1)) (lv' := [some (.ref (ad 0)), some (.int x1), some (.int x3), some (.int (x3 + 1))]) C hnL iX7_dark_63 (by decide) rfl rfl rfl ?_
                refine g_goto C 31 iX7_dark_66 (by decide) ?_
                exact ih31 _ _ _
              · refine g_bipush C (-4) iX7_dark_60 (by decide) ?_
                refine g_istore_n (lv' := [some (.ref (ad 0)), some (.int x1), some (.int (-4)), some (.int x3)]) C hnL iX7_dark_62 (by decide) rfl ?_
                refine g_iinc (v := (x3 + 1)) (lv' := [some (.ref (ad 0)), some (.int x1), some (.int (-4)), some (.int (x3 + 1))]) C hnL iX7_dark_63 (by decide) rfl rfl rfl ?_
                refine g_goto C 31 iX7_dark_66 (by decide) ?_
                exact ih31 _ _ _
            · refine g_sub (lv' := [some (.ref (ad 0)), none, some (.int x2), none]) ⟨rfl, ⟨rfl, trivial⟩⟩ ?_
              exact hk69 _ _
      refine L31 _ (fun x2_1 h_4 => ?_) 1000 _ _ _
      show zG X ad shM eI 69 [some (.ref (ad 0)), none, some (.int x2_1), none] [] h_4 _
      refine g_aload_n C iX7_dark_69 rfl ?_
      refine g_callV C wX7_200 iX7_dark_70 (m_Mo_restores h_4) (by decide) mh0 rfl rfl rfl rfl (Nat.le_of_ble_eq_true rfl) (fun h_5 => ?_)
      show zG X ad shM eI 73 [some (.ref (ad 0)), none, some (.int x2_1), none] [] h_5 _
      refine g_iload_n C iX7_dark_73 rfl ?_
      exact g_iret C iX7_dark_74 rfl

