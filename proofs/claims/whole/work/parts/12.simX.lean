theorem iX1_darkIslands_12 : zI cX1_darkIslands 12 (.if_icmp .ge 30) 3 15 := ⟨by decide +kernel, rfl⟩
theorem iX1_darkIslands_22 : zI cX1_darkIslands 22 (.if_icmp .ne 14) 3 25 := ⟨by decide +kernel, rfl⟩
theorem iX1_darkIslands_39 : zI cX1_darkIslands 39 (.goto (-35)) 3 42 := ⟨by decide +kernel, rfl⟩
theorem iX1_darkIslands_36 : zI cX1_darkIslands 36 (.iinc 2 1) 3 39 := ⟨by decide +kernel, rfl⟩
set_option maxRecDepth 100000 in
theorem wX1_112 : zCv RX1 112 yX1_isDark cX1_isDark 2 (some .boolean) 1 := ⟨⟨(zmem 604 (by decide +kernel) (by decide +kernel)), (zmem 67 (by decide +kernel) (by decide +kernel)), (zmem 532 rfl rfl), ⟨by decide, by decide, by decide +kernel⟩, by decide⟩, (zmem 530 (by decide +kernel) (by decide +kernel)), (zmem 531 (by decide +kernel) (by decide +kernel))⟩
theorem iX1_darkIslands_27 : zI cX1_darkIslands 27 (.invokevirtual 112) 3 30 := ⟨by decide +kernel, rfl⟩
theorem iX1_darkIslands_30 : zI cX1_darkIslands 30 (.ifCond .eq 6) 3 33 := ⟨by decide +kernel, rfl⟩
theorem iX1_darkIslands_33 : zI cX1_darkIslands 33 (.iinc 1 1) 3 36 := ⟨by decide +kernel, rfl⟩
theorem iX1_darkIslands_26 : zI cX1_darkIslands 26 (.iload_n 2) 1 27 := ⟨by decide +kernel, rfl⟩
theorem iX1_darkIslands_25 : zI cX1_darkIslands 25 (.aload_n 0) 1 26 := ⟨by decide +kernel, rfl⟩
theorem iX1_darkIslands_21 : zI cX1_darkIslands 21 (.iload_n 2) 1 22 := ⟨by decide +kernel, rfl⟩
theorem iX1_darkIslands_20 : zI cX1_darkIslands 20 (.iaload) 1 21 := ⟨by decide +kernel, rfl⟩
theorem iX1_darkIslands_19 : zI cX1_darkIslands 19 (.iload_n 2) 1 20 := ⟨by decide +kernel, rfl⟩
theorem iX1_darkIslands_16 : zI cX1_darkIslands 16 (.getfield 9) 3 19 := ⟨by decide +kernel, rfl⟩
theorem iX1_darkIslands_15 : zI cX1_darkIslands 15 (.aload_n 0) 1 16 := ⟨by decide +kernel, rfl⟩
theorem iX1_darkIslands_9 : zI cX1_darkIslands 9 (.getfield 99) 3 12 := ⟨by decide +kernel, rfl⟩
theorem iX1_darkIslands_6 : zI cX1_darkIslands 6 (.getfield 33) 3 9 := ⟨by decide +kernel, rfl⟩
theorem iX1_darkIslands_5 : zI cX1_darkIslands 5 (.aload_n 0) 1 6 := ⟨by decide +kernel, rfl⟩
theorem iX1_darkIslands_4 : zI cX1_darkIslands 4 (.iload_n 2) 1 5 := ⟨by decide +kernel, rfl⟩
theorem iX1_darkIslands_43 : zI cX1_darkIslands 43 (.ireturn) 1 44 := ⟨by decide +kernel, rfl⟩
theorem iX1_darkIslands_42 : zI cX1_darkIslands 42 (.iload_n 1) 1 43 := ⟨by decide +kernel, rfl⟩
theorem iX1_darkIslands_3 : zI cX1_darkIslands 3 (.istore_n 2) 1 4 := ⟨by decide +kernel, rfl⟩
theorem iX1_darkIslands_2 : zI cX1_darkIslands 2 (.iconst 0) 1 3 := ⟨by decide +kernel, rfl⟩
theorem iX1_darkIslands_1 : zI cX1_darkIslands 1 (.istore_n 1) 1 2 := ⟨by decide +kernel, rfl⟩
theorem iX1_darkIslands_0 : zI cX1_darkIslands 0 (.iconst 0) 1 1 := ⟨by decide +kernel, rfl⟩
set_option maxHeartbeats 4000000 in
set_option maxRecDepth 100000 in
theorem m_Gr_darkIslands (g : Nat) (hg : isG g) (h : zH) : zM yX1_darkIslands cX1_darkIslands 3 (some .int) 1 shX (fun ad => [.ref (ad g)]) h (eP h) (Gr_darkIslands g h) := by
  refine zM.of (by decide) (fun _ => rfl) (fun _ => Nat.le_of_ble_eq_true rfl) (fun X ad hnL C => ?_)
  show zG X ad shX (eP h) 0 [some (.ref (ad g)), none, none] [] h _
  unfold Gr_darkIslands
  refine g_iconst C 0 iX1_darkIslands_0 (by decide) ?_
  refine g_istore_n (lv' := [some (.ref (ad g)), some (.int 0), none]) C hnL iX1_darkIslands_1 (by decide) rfl ?_
  refine g_iconst C 0 iX1_darkIslands_2 (by decide) ?_
  refine g_istore_n (lv' := [some (.ref (ad g)), some (.int 0), some (.int 0)]) C hnL iX1_darkIslands_3 (by decide) rfl ?_
  have L4 : ∀ (k42 : Int32 → Option (Int32)), (∀ (y1 : Int32), zG X ad shX (eP h) 42 [none, some (.int y1), none] [] h (k42 y1)) → ∀ (n : Nat) (x1 x2 : Int32), zG X ad shX (eP h) 4 [some (.ref (ad g)), some (.int x1), some (.int x2)] [] h (Gr_darkIslands_L4 g h k42 n x1 x2) := by
    intro k42 hk42 n
    induction n with
    | zero =>
      intro x1 x2
      exact g_none
    | succ n ih4 =>
      intro x1 x2
      rw [Gr_darkIslands_L4]
      refine g_iload_n C iX1_darkIslands_4 rfl ?_
      refine g_aload_n C iX1_darkIslands_5 rfl ?_
      refine g_getR (b := 17) C fX1_33 iX1_darkIslands_6 hg.1 rfl ?_
      refine g_getI C fX1_99 iX1_darkIslands_9 isP17.1 rfl ?_
      refine g_icmp_ge C 42 iX1_darkIslands_12 (by decide) (fun c12 => ?_) (fun c12 => ?_)
      · refine g_sub (lv' := [none, some (.int x1), none]) ⟨rfl, trivial⟩ ?_
        exact hk42 _
      · refine g_aload_n C iX1_darkIslands_15 rfl ?_
        refine g_getR (b := (g + 1)) C fX1_9 iX1_darkIslands_16 hg.1 rfl ?_
        refine g_iload_n C iX1_darkIslands_19 rfl ?_
        refine g_iaload C iX1_darkIslands_20 hg.2.1 ?_
        refine g_iload_n C iX1_darkIslands_21 rfl ?_
        refine g_icmp_ne C 36 iX1_darkIslands_22 (by decide) (fun c22 => ?_) (fun c22 => ?_)
        · refine g_aload_n C iX1_darkIslands_25 rfl ?_
          refine g_iload_n C iX1_darkIslands_26 rfl ?_
          refine g_callV C wX1_112 iX1_darkIslands_27 (m_Gr_isDark g hg x2 h) (by decide) hg.1 rfl rfl rfl rfl (Nat.le_of_ble_eq_true rfl) (fun r => ?_)
          show zG X ad shX (eP h) 30 [some (.ref (ad g)), some (.int x1), some (.int x2)] [.int r] h _
          refine g_if_eq C 36 iX1_darkIslands_30 (by decide) (fun c30 => ?_) (fun c30 => ?_)
          · refine g_iinc (v := (x2 + 1)) (lv' := [some (.ref (ad g)), some (.int x1), some (.int (x2 + 1))]) C hnL iX1_darkIslands_36 (by decide) rfl rfl rfl ?_
            refine g_goto C 4 iX1_darkIslands_39 (by decide) ?_
            exact ih4 _ _
          · refine g_iinc (v := (x1 + 1)) (lv' := [some (.ref (ad g)), some (.int (x1 + 1)), some (.int x2)]) C hnL iX1_darkIslands_33 (by decide) rfl rfl rfl ?_
            refine g_iinc (v := (x2 + 1)) (lv' := [some (.ref (ad g)), some (.int (x1 + 1)), some (.int (x2 + 1))]) C hnL iX1_darkIslands_36 (by decide) rfl rfl rfl ?_
            refine g_goto C 4 iX1_darkIslands_39 (by decide) ?_
            exact ih4 _ _
        · refine g_iinc (v := (x2 + 1)) (lv' := [some (.ref (ad g)), some (.int x1), some (.int (x2 + 1))]) C hnL iX1_darkIslands_36 (by decide) rfl rfl rfl ?_
          refine g_goto C 4 iX1_darkIslands_39 (by decide) ?_
          exact ih4 _ _
  refine L4 _ (fun x1_1 => ?_) 1000 _ _
  show zG X ad shX (eP h) 42 [none, some (.int x1_1), none] [] h _
  refine g_iload_n C iX1_darkIslands_42 rfl ?_
  exact g_iret C iX1_darkIslands_43 rfl

theorem iX1_rootOf_12 : zI cX1_rootOf 12 (.if_icmp .ge 29) 3 15 := ⟨by decide +kernel, rfl⟩
theorem iX1_rootOf_22 : zI cX1_rootOf 22 (.if_icmp .ne 13) 3 25 := ⟨by decide +kernel, rfl⟩
theorem iX1_rootOf_38 : zI cX1_rootOf 38 (.goto (-34)) 3 41 := ⟨by decide +kernel, rfl⟩
theorem iX1_rootOf_35 : zI cX1_rootOf 35 (.iinc 3 1) 3 38 := ⟨by decide +kernel, rfl⟩
theorem iX1_rootOf_27 : zI cX1_rootOf 27 (.if_icmp .ne 5) 3 30 := ⟨by decide +kernel, rfl⟩
theorem iX1_rootOf_32 : zI cX1_rootOf 32 (.iinc 2 1) 3 35 := ⟨by decide +kernel, rfl⟩
theorem iX1_rootOf_26 : zI cX1_rootOf 26 (.iload_n 1) 1 27 := ⟨by decide +kernel, rfl⟩
theorem iX1_rootOf_25 : zI cX1_rootOf 25 (.iload_n 2) 1 26 := ⟨by decide +kernel, rfl⟩
theorem iX1_rootOf_21 : zI cX1_rootOf 21 (.iload_n 3) 1 22 := ⟨by decide +kernel, rfl⟩
theorem iX1_rootOf_20 : zI cX1_rootOf 20 (.iaload) 1 21 := ⟨by decide +kernel, rfl⟩
theorem iX1_rootOf_19 : zI cX1_rootOf 19 (.iload_n 3) 1 20 := ⟨by decide +kernel, rfl⟩
theorem iX1_rootOf_16 : zI cX1_rootOf 16 (.getfield 9) 3 19 := ⟨by decide +kernel, rfl⟩
theorem iX1_rootOf_15 : zI cX1_rootOf 15 (.aload_n 0) 1 16 := ⟨by decide +kernel, rfl⟩
theorem iX1_rootOf_9 : zI cX1_rootOf 9 (.getfield 99) 3 12 := ⟨by decide +kernel, rfl⟩
theorem iX1_rootOf_6 : zI cX1_rootOf 6 (.getfield 33) 3 9 := ⟨by decide +kernel, rfl⟩
theorem iX1_rootOf_5 : zI cX1_rootOf 5 (.aload_n 0) 1 6 := ⟨by decide +kernel, rfl⟩
theorem iX1_rootOf_4 : zI cX1_rootOf 4 (.iload_n 3) 1 5 := ⟨by decide +kernel, rfl⟩
theorem iX1_rootOf_31 : zI cX1_rootOf 31 (.ireturn) 1 32 := ⟨by decide +kernel, rfl⟩
theorem iX1_rootOf_30 : zI cX1_rootOf 30 (.iload_n 3) 1 31 := ⟨by decide +kernel, rfl⟩
theorem iX1_rootOf_42 : zI cX1_rootOf 42 (.ireturn) 1 43 := ⟨by decide +kernel, rfl⟩
theorem iX1_rootOf_41 : zI cX1_rootOf 41 (.iconst (-1)) 1 42 := ⟨by decide +kernel, rfl⟩
theorem iX1_rootOf_3 : zI cX1_rootOf 3 (.istore_n 3) 1 4 := ⟨by decide +kernel, rfl⟩
theorem iX1_rootOf_2 : zI cX1_rootOf 2 (.iconst 0) 1 3 := ⟨by decide +kernel, rfl⟩
theorem iX1_rootOf_1 : zI cX1_rootOf 1 (.istore_n 2) 1 2 := ⟨by decide +kernel, rfl⟩
theorem iX1_rootOf_0 : zI cX1_rootOf 0 (.iconst 0) 1 1 := ⟨by decide +kernel, rfl⟩
set_option maxHeartbeats 4000000 in
set_option maxRecDepth 100000 in
theorem m_Gr_rootOf (g : Nat) (hg : isG g) (x1 : Int32) (h : zH) : zM yX1_rootOf cX1_rootOf 4 (some .int) 0 shX (fun ad => [.ref (ad g), .int x1]) h (eP h) (Gr_rootOf g x1 h) := by
  refine zM.of (by decide) (fun _ => rfl) (fun _ => Nat.le_of_ble_eq_true rfl) (fun X ad hnL C => ?_)
  show zG X ad shX (eP h) 0 [some (.ref (ad g)), some (.int x1), none, none] [] h _
  unfold Gr_rootOf
  refine g_iconst C 0 iX1_rootOf_0 (by decide) ?_
  refine g_istore_n (lv' := [some (.ref (ad g)), some (.int x1), some (.int 0), none]) C hnL iX1_rootOf_1 (by decide) rfl ?_
  refine g_iconst C 0 iX1_rootOf_2 (by decide) ?_
  refine g_istore_n (lv' := [some (.ref (ad g)), some (.int x1), some (.int 0), some (.int 0)]) C hnL iX1_rootOf_3 (by decide) rfl ?_
  have L4 : ∀ (k30 : Int32 → Option (Int32)), (∀ (y3 : Int32), zG X ad shX (eP h) 30 [none, none, none, some (.int y3)] [] h (k30 y3)) → ∀ (k41 : Option (Int32)), (zG X ad shX (eP h) 41 [none, none, none, none] [] h (k41)) → ∀ (n : Nat) (x2 x3 : Int32), zG X ad shX (eP h) 4 [some (.ref (ad g)), some (.int x1), some (.int x2), some (.int x3)] [] h (Gr_rootOf_L4 g x1 h k30 k41 n x2 x3) := by
    intro k30 hk30 k41 hk41 n
    induction n with
    | zero =>
      intro x2 x3
      exact g_none
    | succ n ih4 =>
      intro x2 x3
      rw [Gr_rootOf_L4]
      refine g_iload_n C iX1_rootOf_4 rfl ?_
      refine g_aload_n C iX1_rootOf_5 rfl ?_
      refine g_getR (b := 17) C fX1_33 iX1_rootOf_6 hg.1 rfl ?_
      refine g_getI C fX1_99 iX1_rootOf_9 isP17.1 rfl ?_
      refine g_icmp_ge C 41 iX1_rootOf_12 (by decide) (fun c12 => ?_) (fun c12 => ?_)
      · refine g_sub (lv' := [none, none, none, none]) trivial ?_
        exact hk41
      · refine g_aload_n C iX1_rootOf_15 rfl ?_
        refine g_getR (b := (g + 1)) C fX1_9 iX1_rootOf_16 hg.1 rfl ?_
        refine g_iload_n C iX1_rootOf_19 rfl ?_
        refine g_iaload C iX1_rootOf_20 hg.2.1 ?_
        refine g_iload_n C iX1_rootOf_21 rfl ?_
        refine g_icmp_ne C 35 iX1_rootOf_22 (by decide) (fun c22 => ?_) (fun c22 => ?_)
        · refine g_iload_n C iX1_rootOf_25 rfl ?_
          refine g_iload_n C iX1_rootOf_26 rfl ?_
          refine g_icmp_ne C 32 iX1_rootOf_27 (by decide) (fun c27 => ?_) (fun c27 => ?_)
          · refine g_sub (lv' := [none, none, none, some (.int x3)]) ⟨rfl, trivial⟩ ?_
            exact hk30 _
          · refine g_iinc (v := (x2 + 1)) (lv' := [some (.ref (ad g)), some (.int x1), some (.int (x2 + 1)), some (.int x3)]) C hnL iX1_rootOf_32 (by decide) rfl rfl rfl ?_
            refine g_iinc (v := (x3 + 1)) (lv' := [some (.ref (ad g)), some (.int x1), some (.int (x2 + 1)), some (.int (x3 + 1))]) C hnL iX1_rootOf_35 (by decide) rfl rfl rfl ?_
            refine g_goto C 4 iX1_rootOf_38 (by decide) ?_
            exact ih4 _ _
        · refine g_iinc (v := (x3 + 1)) (lv' := [some (.ref (ad g)), some (.int x1), some (.int x2), some (.int (x3 + 1))]) C hnL iX1_rootOf_35 (by decide) rfl rfl rfl ?_
          refine g_goto C 4 iX1_rootOf_38 (by decide) ?_
          exact ih4 _ _
  refine L4 _ (fun x3_1 => ?_) _ (?_) 1000 _ _
  · show zG X ad shX (eP h) 30 [none, none, none, some (.int x3_1)] [] h _
    refine g_iload_n C iX1_rootOf_30 rfl ?_
    exact g_iret C iX1_rootOf_31 rfl
  · show zG X ad shX (eP h) 41 [none, none, none, none] [] h _
    refine g_iconst C (-1) iX1_rootOf_41 (by decide) ?_
    exact g_iret C iX1_rootOf_42 rfl

theorem iX1_numberOf_6 : zI cX1_numberOf 6 (.if_icmp .ge 22) 3 9 := ⟨by decide +kernel, rfl⟩
theorem iX1_numberOf_16 : zI cX1_numberOf 16 (.if_icmp .ne 6) 3 19 := ⟨by decide +kernel, rfl⟩
theorem iX1_numberOf_25 : zI cX1_numberOf 25 (.goto (-21)) 3 28 := ⟨by decide +kernel, rfl⟩
theorem iX1_numberOf_22 : zI cX1_numberOf 22 (.iinc 3 1) 3 25 := ⟨by decide +kernel, rfl⟩
theorem iX1_numberOf_19 : zI cX1_numberOf 19 (.iinc 2 1) 3 22 := ⟨by decide +kernel, rfl⟩
theorem iX1_numberOf_15 : zI cX1_numberOf 15 (.iload_n 3) 1 16 := ⟨by decide +kernel, rfl⟩
theorem iX1_numberOf_14 : zI cX1_numberOf 14 (.iaload) 1 15 := ⟨by decide +kernel, rfl⟩
theorem iX1_numberOf_13 : zI cX1_numberOf 13 (.iload_n 3) 1 14 := ⟨by decide +kernel, rfl⟩
theorem iX1_numberOf_10 : zI cX1_numberOf 10 (.getfield 9) 3 13 := ⟨by decide +kernel, rfl⟩
theorem iX1_numberOf_9 : zI cX1_numberOf 9 (.aload_n 0) 1 10 := ⟨by decide +kernel, rfl⟩
theorem iX1_numberOf_5 : zI cX1_numberOf 5 (.iload_n 1) 1 6 := ⟨by decide +kernel, rfl⟩
theorem iX1_numberOf_4 : zI cX1_numberOf 4 (.iload_n 3) 1 5 := ⟨by decide +kernel, rfl⟩
theorem iX1_numberOf_29 : zI cX1_numberOf 29 (.ireturn) 1 30 := ⟨by decide +kernel, rfl⟩
theorem iX1_numberOf_28 : zI cX1_numberOf 28 (.iload_n 2) 1 29 := ⟨by decide +kernel, rfl⟩
theorem iX1_numberOf_3 : zI cX1_numberOf 3 (.istore_n 3) 1 4 := ⟨by decide +kernel, rfl⟩
theorem iX1_numberOf_2 : zI cX1_numberOf 2 (.iconst 0) 1 3 := ⟨by decide +kernel, rfl⟩
theorem iX1_numberOf_1 : zI cX1_numberOf 1 (.istore_n 2) 1 2 := ⟨by decide +kernel, rfl⟩
theorem iX1_numberOf_0 : zI cX1_numberOf 0 (.iconst 0) 1 1 := ⟨by decide +kernel, rfl⟩
set_option maxHeartbeats 4000000 in
set_option maxRecDepth 100000 in
theorem m_Gr_numberOf (g : Nat) (hg : isG g) (x1 : Int32) (h : zH) : zM yX1_numberOf cX1_numberOf 4 (some .int) 0 shX (fun ad => [.ref (ad g), .int x1]) h (eP h) (Gr_numberOf g x1 h) := by
  refine zM.of (by decide) (fun _ => rfl) (fun _ => Nat.le_of_ble_eq_true rfl) (fun X ad hnL C => ?_)
  show zG X ad shX (eP h) 0 [some (.ref (ad g)), some (.int x1), none, none] [] h _
  unfold Gr_numberOf
  refine g_iconst C 0 iX1_numberOf_0 (by decide) ?_
  refine g_istore_n (lv' := [some (.ref (ad g)), some (.int x1), some (.int 0), none]) C hnL iX1_numberOf_1 (by decide) rfl ?_
  refine g_iconst C 0 iX1_numberOf_2 (by decide) ?_
  refine g_istore_n (lv' := [some (.ref (ad g)), some (.int x1), some (.int 0), some (.int 0)]) C hnL iX1_numberOf_3 (by decide) rfl ?_
  have L4 : ∀ (k28 : Int32 → Option (Int32)), (∀ (y2 : Int32), zG X ad shX (eP h) 28 [none, none, some (.int y2), none] [] h (k28 y2)) → ∀ (n : Nat) (x2 x3 : Int32), zG X ad shX (eP h) 4 [some (.ref (ad g)), some (.int x1), some (.int x2), some (.int x3)] [] h (Gr_numberOf_L4 g x1 h k28 n x2 x3) := by
    intro k28 hk28 n
    induction n with
    | zero =>
      intro x2 x3
      exact g_none
    | succ n ih4 =>
      intro x2 x3
      rw [Gr_numberOf_L4]
      refine g_iload_n C iX1_numberOf_4 rfl ?_
      refine g_iload_n C iX1_numberOf_5 rfl ?_
      refine g_icmp_ge C 28 iX1_numberOf_6 (by decide) (fun c6 => ?_) (fun c6 => ?_)
      · refine g_sub (lv' := [none, none, some (.int x2), none]) ⟨rfl, trivial⟩ ?_
        exact hk28 _
      · refine g_aload_n C iX1_numberOf_9 rfl ?_
        refine g_getR (b := (g + 1)) C fX1_9 iX1_numberOf_10 hg.1 rfl ?_
        refine g_iload_n C iX1_numberOf_13 rfl ?_
        refine g_iaload C iX1_numberOf_14 hg.2.1 ?_
        refine g_iload_n C iX1_numberOf_15 rfl ?_
        refine g_icmp_ne C 22 iX1_numberOf_16 (by decide) (fun c16 => ?_) (fun c16 => ?_)
        · refine g_iinc (v := (x2 + 1)) (lv' := [some (.ref (ad g)), some (.int x1), some (.int (x2 + 1)), some (.int x3)]) C hnL iX1_numberOf_19 (by decide) rfl rfl rfl ?_
          refine g_iinc (v := (x3 + 1)) (lv' := [some (.ref (ad g)), some (.int x1), some (.int (x2 + 1)), some (.int (x3 + 1))]) C hnL iX1_numberOf_22 (by decide) rfl rfl rfl ?_
          refine g_goto C 4 iX1_numberOf_25 (by decide) ?_
          exact ih4 _ _
        · refine g_iinc (v := (x3 + 1)) (lv' := [some (.ref (ad g)), some (.int x1), some (.int x2), some (.int (x3 + 1))]) C hnL iX1_numberOf_22 (by decide) rfl rfl rfl ?_
          refine g_goto C 4 iX1_numberOf_25 (by decide) ?_
          exact ih4 _ _
  refine L4 _ (fun x2_1 => ?_) 1000 _ _
  show zG X ad shX (eP h) 28 [none, none, some (.int x2_1), none] [] h _
  refine g_iload_n C iX1_numberOf_28 rfl ?_
  exact g_iret C iX1_numberOf_29 rfl

theorem iX1_busBits_12 : zI cX1_busBits 12 (.if_icmp .ge 25) 3 15 := ⟨by decide +kernel, rfl⟩
theorem iX1_busBits_22 : zI cX1_busBits 22 (.if_icmp .ne 9) 3 25 := ⟨by decide +kernel, rfl⟩
theorem iX1_busBits_34 : zI cX1_busBits 34 (.goto (-30)) 3 37 := ⟨by decide +kernel, rfl⟩
theorem iX1_busBits_31 : zI cX1_busBits 31 (.iinc 3 1) 3 34 := ⟨by decide +kernel, rfl⟩
theorem iX1_busBits_30 : zI cX1_busBits 30 (.istore_n 2) 1 31 := ⟨by decide +kernel, rfl⟩
theorem iX1_busBits_29 : zI cX1_busBits 29 (.ior) 1 30 := ⟨by decide +kernel, rfl⟩
theorem iX1_busBits_28 : zI cX1_busBits 28 (.ishl) 1 29 := ⟨by decide +kernel, rfl⟩
theorem iX1_busBits_27 : zI cX1_busBits 27 (.iload_n 3) 1 28 := ⟨by decide +kernel, rfl⟩
theorem iX1_busBits_26 : zI cX1_busBits 26 (.iconst 1) 1 27 := ⟨by decide +kernel, rfl⟩
theorem iX1_busBits_25 : zI cX1_busBits 25 (.iload_n 2) 1 26 := ⟨by decide +kernel, rfl⟩
theorem iX1_busBits_21 : zI cX1_busBits 21 (.iload_n 1) 1 22 := ⟨by decide +kernel, rfl⟩
theorem iX1_busBits_20 : zI cX1_busBits 20 (.iaload) 1 21 := ⟨by decide +kernel, rfl⟩
theorem iX1_busBits_19 : zI cX1_busBits 19 (.iload_n 3) 1 20 := ⟨by decide +kernel, rfl⟩
theorem iX1_busBits_16 : zI cX1_busBits 16 (.getfield 9) 3 19 := ⟨by decide +kernel, rfl⟩
theorem iX1_busBits_15 : zI cX1_busBits 15 (.aload_n 0) 1 16 := ⟨by decide +kernel, rfl⟩
theorem iX1_busBits_9 : zI cX1_busBits 9 (.getfield 99) 3 12 := ⟨by decide +kernel, rfl⟩
theorem iX1_busBits_6 : zI cX1_busBits 6 (.getfield 33) 3 9 := ⟨by decide +kernel, rfl⟩
theorem iX1_busBits_5 : zI cX1_busBits 5 (.aload_n 0) 1 6 := ⟨by decide +kernel, rfl⟩
theorem iX1_busBits_4 : zI cX1_busBits 4 (.iload_n 3) 1 5 := ⟨by decide +kernel, rfl⟩
theorem iX1_busBits_38 : zI cX1_busBits 38 (.ireturn) 1 39 := ⟨by decide +kernel, rfl⟩
theorem iX1_busBits_37 : zI cX1_busBits 37 (.iload_n 2) 1 38 := ⟨by decide +kernel, rfl⟩
theorem iX1_busBits_3 : zI cX1_busBits 3 (.istore_n 3) 1 4 := ⟨by decide +kernel, rfl⟩
theorem iX1_busBits_2 : zI cX1_busBits 2 (.iconst 0) 1 3 := ⟨by decide +kernel, rfl⟩
theorem iX1_busBits_1 : zI cX1_busBits 1 (.istore_n 2) 1 2 := ⟨by decide +kernel, rfl⟩
theorem iX1_busBits_0 : zI cX1_busBits 0 (.iconst 0) 1 1 := ⟨by decide +kernel, rfl⟩
set_option maxHeartbeats 4000000 in
set_option maxRecDepth 100000 in
theorem m_Gr_busBits (g : Nat) (hg : isG g) (x1 : Int32) (h : zH) : zM yX1_busBits cX1_busBits 4 (some .int) 0 shX (fun ad => [.ref (ad g), .int x1]) h (eP h) (Gr_busBits g x1 h) := by
  refine zM.of (by decide) (fun _ => rfl) (fun _ => Nat.le_of_ble_eq_true rfl) (fun X ad hnL C => ?_)
  show zG X ad shX (eP h) 0 [some (.ref (ad g)), some (.int x1), none, none] [] h _
  unfold Gr_busBits
  refine g_iconst C 0 iX1_busBits_0 (by decide) ?_
  refine g_istore_n (lv' := [some (.ref (ad g)), some (.int x1), some (.int 0), none]) C hnL iX1_busBits_1 (by decide) rfl ?_
  refine g_iconst C 0 iX1_busBits_2 (by decide) ?_
  refine g_istore_n (lv' := [some (.ref (ad g)), some (.int x1), some (.int 0), some (.int 0)]) C hnL iX1_busBits_3 (by decide) rfl ?_
  have L4 : ∀ (k37 : Int32 → Option (Int32)), (∀ (y2 : Int32), zG X ad shX (eP h) 37 [none, none, some (.int y2), none] [] h (k37 y2)) → ∀ (n : Nat) (x2 x3 : Int32), zG X ad shX (eP h) 4 [some (.ref (ad g)), some (.int x1), some (.int x2), some (.int x3)] [] h (Gr_busBits_L4 g x1 h k37 n x2 x3) := by
    intro k37 hk37 n
    induction n with
    | zero =>
      intro x2 x3
      exact g_none
    | succ n ih4 =>
      intro x2 x3
      rw [Gr_busBits_L4]
      refine g_iload_n C iX1_busBits_4 rfl ?_
      refine g_aload_n C iX1_busBits_5 rfl ?_
      refine g_getR (b := 17) C fX1_33 iX1_busBits_6 hg.1 rfl ?_
      refine g_getI C fX1_99 iX1_busBits_9 isP17.1 rfl ?_
      refine g_icmp_ge C 37 iX1_busBits_12 (by decide) (fun c12 => ?_) (fun c12 => ?_)
      · refine g_sub (lv' := [none, none, some (.int x2), none]) ⟨rfl, trivial⟩ ?_
        exact hk37 _
      · refine g_aload_n C iX1_busBits_15 rfl ?_
        refine g_getR (b := (g + 1)) C fX1_9 iX1_busBits_16 hg.1 rfl ?_
        refine g_iload_n C iX1_busBits_19 rfl ?_
        refine g_iaload C iX1_busBits_20 hg.2.1 ?_
        refine g_iload_n C iX1_busBits_21 rfl ?_
        refine g_icmp_ne C 31 iX1_busBits_22 (by decide) (fun c22 => ?_) (fun c22 => ?_)
        · refine g_iload_n C iX1_busBits_25 rfl ?_
          refine g_iconst C 1 iX1_busBits_26 (by decide) ?_
          refine g_iload_n C iX1_busBits_27 rfl ?_
          refine g_ishl C iX1_busBits_28 ?_
          refine g_ior C iX1_busBits_29 ?_
          refine g_top (fun x2_1 => ?_)
          refine g_istore_n (lv' := [some (.ref (ad g)), some (.int x1), some (.int x2_1), some (.int x3)]) C hnL iX1_busBits_30 (by decide) rfl ?_
          refine g_iinc (v := (x3 + 1)) (lv' := [some (.ref (ad g)), some (.int x1), some (.int x2_1), some (.int (x3 + 1))]) C hnL iX1_busBits_31 (by decide) rfl rfl rfl ?_
          refine g_goto C 4 iX1_busBits_34 (by decide) ?_
          exact ih4 _ _
        · refine g_iinc (v := (x3 + 1)) (lv' := [some (.ref (ad g)), some (.int x1), some (.int x2), some (.int (x3 + 1))]) C hnL iX1_busBits_31 (by decide) rfl rfl rfl ?_
          refine g_goto C 4 iX1_busBits_34 (by decide) ?_
          exact ih4 _ _
  refine L4 _ (fun x2_2 => ?_) 1000 _ _
  show zG X ad shX (eP h) 37 [none, none, some (.int x2_2), none] [] h _
  refine g_iload_n C iX1_busBits_37 rfl ?_
  exact g_iret C iX1_busBits_38 rfl

theorem fX4_55 : zFl RX4 55 4 3 := ⟨RX4, TX4, 16, rfl, by decide, (zmem 130 (by decide +kernel) (by decide +kernel)), u_inX4⟩
theorem iX4_loadOfSet_9 : zI cX4_loadOfSet 9 (.if_icmp .ge 26) 3 12 := ⟨by decide +kernel, rfl⟩
set_option maxRecDepth 100000 in
theorem wX4_76 : zCn RX4 76 yX6_has cX6_has 2 (some .boolean) 2 := ⟨by decide +kernel, (zmem 63 (by decide +kernel) (by decide +kernel)), (zmem 427 rfl rfl), ⟨by decide, by decide, by decide +kernel⟩, by decide, (zmem 426 (by decide +kernel) (by decide +kernel))⟩
theorem iX4_loadOfSet_14 : zI cX4_loadOfSet 14 (.invokestatic 76) 3 17 := ⟨by decide +kernel, rfl⟩
theorem iX4_loadOfSet_17 : zI cX4_loadOfSet 17 (.ifCond .eq 12) 3 20 := ⟨by decide +kernel, rfl⟩
theorem iX4_loadOfSet_32 : zI cX4_loadOfSet 32 (.goto (-28)) 3 35 := ⟨by decide +kernel, rfl⟩
theorem iX4_loadOfSet_29 : zI cX4_loadOfSet 29 (.iinc 3 1) 3 32 := ⟨by decide +kernel, rfl⟩
theorem fX4_33 : zFl RX4 33 4 12 := ⟨RX4, TX4, 16, rfl, by decide, (zmem 155 (by decide +kernel) (by decide +kernel)), u_inX4⟩
theorem iX4_loadOfSet_28 : zI cX4_loadOfSet 28 (.istore_n 2) 1 29 := ⟨by decide +kernel, rfl⟩
theorem iX4_loadOfSet_27 : zI cX4_loadOfSet 27 (.iadd) 1 28 := ⟨by decide +kernel, rfl⟩
theorem iX4_loadOfSet_26 : zI cX4_loadOfSet 26 (.iaload) 1 27 := ⟨by decide +kernel, rfl⟩
theorem iX4_loadOfSet_25 : zI cX4_loadOfSet 25 (.iload_n 3) 1 26 := ⟨by decide +kernel, rfl⟩
theorem iX4_loadOfSet_22 : zI cX4_loadOfSet 22 (.getfield 33) 3 25 := ⟨by decide +kernel, rfl⟩
theorem iX4_loadOfSet_21 : zI cX4_loadOfSet 21 (.aload_n 0) 1 22 := ⟨by decide +kernel, rfl⟩
theorem iX4_loadOfSet_20 : zI cX4_loadOfSet 20 (.iload_n 2) 1 21 := ⟨by decide +kernel, rfl⟩
theorem iX4_loadOfSet_13 : zI cX4_loadOfSet 13 (.iload_n 3) 1 14 := ⟨by decide +kernel, rfl⟩
theorem iX4_loadOfSet_12 : zI cX4_loadOfSet 12 (.iload_n 1) 1 13 := ⟨by decide +kernel, rfl⟩
theorem iX4_loadOfSet_6 : zI cX4_loadOfSet 6 (.getfield 55) 3 9 := ⟨by decide +kernel, rfl⟩
theorem iX4_loadOfSet_5 : zI cX4_loadOfSet 5 (.aload_n 0) 1 6 := ⟨by decide +kernel, rfl⟩
theorem iX4_loadOfSet_4 : zI cX4_loadOfSet 4 (.iload_n 3) 1 5 := ⟨by decide +kernel, rfl⟩
theorem iX4_loadOfSet_36 : zI cX4_loadOfSet 36 (.ireturn) 1 37 := ⟨by decide +kernel, rfl⟩
theorem iX4_loadOfSet_35 : zI cX4_loadOfSet 35 (.iload_n 2) 1 36 := ⟨by decide +kernel, rfl⟩
theorem iX4_loadOfSet_3 : zI cX4_loadOfSet 3 (.istore_n 3) 1 4 := ⟨by decide +kernel, rfl⟩
theorem iX4_loadOfSet_2 : zI cX4_loadOfSet 2 (.iconst 0) 1 3 := ⟨by decide +kernel, rfl⟩
theorem iX4_loadOfSet_1 : zI cX4_loadOfSet 1 (.istore_n 2) 1 2 := ⟨by decide +kernel, rfl⟩
theorem iX4_loadOfSet_0 : zI cX4_loadOfSet 0 (.iconst 0) 1 1 := ⟨by decide +kernel, rfl⟩
set_option maxHeartbeats 4000000 in
set_option maxRecDepth 100000 in
theorem m_Pl_loadOfSet (p : Nat) (hp : isP p) (x1 : Int32) (h : zH) : zM yX4_loadOfSet cX4_loadOfSet 4 (some .int) 1 shX (fun ad => [.ref (ad p), .int x1]) h (eP h) (Pl_loadOfSet p x1 h) := by
  refine zM.of (by decide) (fun _ => rfl) (fun _ => Nat.le_of_ble_eq_true rfl) (fun X ad hnL C => ?_)
  show zG X ad shX (eP h) 0 [some (.ref (ad p)), some (.int x1), none, none] [] h _
  unfold Pl_loadOfSet
  refine g_iconst C 0 iX4_loadOfSet_0 (by decide) ?_
  refine g_istore_n (lv' := [some (.ref (ad p)), some (.int x1), some (.int 0), none]) C hnL iX4_loadOfSet_1 (by decide) rfl ?_
  refine g_iconst C 0 iX4_loadOfSet_2 (by decide) ?_
  refine g_istore_n (lv' := [some (.ref (ad p)), some (.int x1), some (.int 0), some (.int 0)]) C hnL iX4_loadOfSet_3 (by decide) rfl ?_
  have L4 : ∀ (k35 : Int32 → Option (Int32)), (∀ (y2 : Int32), zG X ad shX (eP h) 35 [none, none, some (.int y2), none] [] h (k35 y2)) → ∀ (n : Nat) (x2 x3 : Int32), zG X ad shX (eP h) 4 [some (.ref (ad p)), some (.int x1), some (.int x2), some (.int x3)] [] h (Pl_loadOfSet_L4 p x1 h k35 n x2 x3) := by
    intro k35 hk35 n
    induction n with
    | zero =>
      intro x2 x3
      exact g_none
    | succ n ih4 =>
      intro x2 x3
      rw [Pl_loadOfSet_L4]
      refine g_iload_n C iX4_loadOfSet_4 rfl ?_
      refine g_aload_n C iX4_loadOfSet_5 rfl ?_
      refine g_getI C fX4_55 iX4_loadOfSet_6 hp.1 rfl ?_
      refine g_icmp_ge C 35 iX4_loadOfSet_9 (by decide) (fun c9 => ?_) (fun c9 => ?_)
      · refine g_sub (lv' := [none, none, some (.int x2), none]) ⟨rfl, trivial⟩ ?_
        exact hk35 _
      · refine g_iload_n C iX4_loadOfSet_12 rfl ?_
        refine g_iload_n C iX4_loadOfSet_13 rfl ?_
        refine g_callN C wX4_76 iX4_loadOfSet_14 (m_SS_has x1 x3 h) (by decide) rfl rfl rfl (Nat.le_of_ble_eq_true rfl) (fun r => ?_)
        show zG X ad shX (eP h) 17 [some (.ref (ad p)), some (.int x1), some (.int x2), some (.int x3)] [.int r] h _
        refine g_if_eq C 29 iX4_loadOfSet_17 (by decide) (fun c17 => ?_) (fun c17 => ?_)
        · refine g_iinc (v := (x3 + 1)) (lv' := [some (.ref (ad p)), some (.int x1), some (.int x2), some (.int (x3 + 1))]) C hnL iX4_loadOfSet_29 (by decide) rfl rfl rfl ?_
          refine g_goto C 4 iX4_loadOfSet_32 (by decide) ?_
          exact ih4 _ _
        · refine g_iload_n C iX4_loadOfSet_20 rfl ?_
          refine g_aload_n C iX4_loadOfSet_21 rfl ?_
          refine g_getR (b := (p + 8)) C fX4_33 iX4_loadOfSet_22 hp.1 rfl ?_
          refine g_iload_n C iX4_loadOfSet_25 rfl ?_
          refine g_iaload C iX4_loadOfSet_26 hp.2.2.2.2.2.2.2.2.1 ?_
          refine g_iadd C iX4_loadOfSet_27 ?_
          refine g_top (fun x2_1 => ?_)
          refine g_istore_n (lv' := [some (.ref (ad p)), some (.int x1), some (.int x2_1), some (.int x3)]) C hnL iX4_loadOfSet_28 (by decide) rfl ?_
          refine g_iinc (v := (x3 + 1)) (lv' := [some (.ref (ad p)), some (.int x1), some (.int x2_1), some (.int (x3 + 1))]) C hnL iX4_loadOfSet_29 (by decide) rfl rfl rfl ?_
          refine g_goto C 4 iX4_loadOfSet_32 (by decide) ?_
          exact ih4 _ _
  refine L4 _ (fun x2_2 => ?_) 1000 _ _
  show zG X ad shX (eP h) 35 [none, none, some (.int x2_2), none] [] h _
  refine g_iload_n C iX4_loadOfSet_35 rfl ?_
  exact g_iret C iX4_loadOfSet_36 rfl

set_option maxRecDepth 100000 in
theorem wX1_122 : zCv RX1 122 yX4_loadOfSet cX4_loadOfSet 4 (some .int) 1 := ⟨⟨(zmem 759 (by decide +kernel) (by decide +kernel)), (zmem 66 (by decide +kernel) (by decide +kernel)), (zmem 733 rfl rfl), ⟨by decide, by decide, by decide +kernel⟩, by decide⟩, (zmem 731 (by decide +kernel) (by decide +kernel)), (zmem 732 (by decide +kernel) (by decide +kernel))⟩
theorem iX1_loadOfAll_8 : zI cX1_loadOfAll 8 (.invokevirtual 122) 3 11 := ⟨by decide +kernel, rfl⟩
theorem iX1_loadOfAll_11 : zI cX1_loadOfAll 11 (.ireturn) 1 12 := ⟨by decide +kernel, rfl⟩
theorem iX1_loadOfAll_5 : zI cX1_loadOfAll 5 (.getfield 47) 3 8 := ⟨by decide +kernel, rfl⟩
theorem iX1_loadOfAll_4 : zI cX1_loadOfAll 4 (.aload_n 0) 1 5 := ⟨by decide +kernel, rfl⟩
theorem iX1_loadOfAll_1 : zI cX1_loadOfAll 1 (.getfield 33) 3 4 := ⟨by decide +kernel, rfl⟩
theorem iX1_loadOfAll_0 : zI cX1_loadOfAll 0 (.aload_n 0) 1 1 := ⟨by decide +kernel, rfl⟩
set_option maxHeartbeats 4000000 in
set_option maxRecDepth 100000 in
theorem m_Gr_loadOfAll (g : Nat) (hg : isG g) (h : zH) : zM yX1_loadOfAll cX1_loadOfAll 1 (some .int) 2 shX (fun ad => [.ref (ad g)]) h (eP h) (Gr_loadOfAll g h) := by
  refine zM.of (by decide) (fun _ => rfl) (fun _ => Nat.le_of_ble_eq_true rfl) (fun X ad hnL C => ?_)
  show zG X ad shX (eP h) 0 [some (.ref (ad g))] [] h _
  unfold Gr_loadOfAll
  refine g_aload_n C iX1_loadOfAll_0 rfl ?_
  refine g_getR (b := 17) C fX1_33 iX1_loadOfAll_1 hg.1 rfl ?_
  refine g_aload_n C iX1_loadOfAll_4 rfl ?_
  refine g_getI C fX1_47 iX1_loadOfAll_5 hg.1 rfl ?_
  refine g_callV C wX1_122 iX1_loadOfAll_8 (m_Pl_loadOfSet 17 isP17 (h g 7) h) (by decide) isP17.1 rfl rfl rfl rfl (Nat.le_of_ble_eq_true rfl) (fun r => ?_)
  show zG X ad shX (eP h) 11 [some (.ref (ad g))] [.int r] h _
  exact g_iret C iX1_loadOfAll_11 rfl

theorem fX1_15 : zFl RX1 15 1 3 := ⟨RX1, TX1, 12, rfl, by decide, (zmem 209 (by decide +kernel) (by decide +kernel)), u_inX1⟩
theorem iX1_open_26 : zI cX1_open 26 (.invokestatic 37) 3 29 := ⟨by decide +kernel, rfl⟩
theorem iX1_open_30 : zI cX1_open 30 (.invokevirtual 67) 3 33 := ⟨by decide +kernel, rfl⟩
theorem iX1_open_43 : zI cX1_open 43 (.if_icmp .ge 57) 3 46 := ⟨by decide +kernel, rfl⟩
theorem iX1_open_53 : zI cX1_open 53 (.if_icmp .ne 41) 3 56 := ⟨by decide +kernel, rfl⟩
theorem iX1_open_97 : zI cX1_open 97 (.goto (-62)) 3 100 := ⟨by decide +kernel, rfl⟩
theorem iX1_open_94 : zI cX1_open 94 (.iinc 2 1) 3 97 := ⟨by decide +kernel, rfl⟩
theorem iX1_open_63 : zI cX1_open 63 (.if_icmp .eq 31) 3 66 := ⟨by decide +kernel, rfl⟩
set_option maxRecDepth 100000 in
theorem wX1_132 : zCv RX1 132 yX1_copyCounts cX1_copyCounts 4 none 2 := ⟨⟨(zmem 617 (by decide +kernel) (by decide +kernel)), (zmem 67 (by decide +kernel) (by decide +kernel)), (zmem 620 rfl rfl), ⟨by decide, by decide, by decide +kernel⟩, by decide⟩, (zmem 619 (by decide +kernel) (by decide +kernel)), (zmem 14 (by decide +kernel) (by decide +kernel))⟩
theorem iX1_open_91 : zI cX1_open 91 (.invokevirtual 132) 3 94 := ⟨by decide +kernel, rfl⟩
theorem iX1_open_90 : zI cX1_open 90 (.iload_n 2) 1 91 := ⟨by decide +kernel, rfl⟩
theorem iX1_open_89 : zI cX1_open 89 (.iaload) 1 90 := ⟨by decide +kernel, rfl⟩
theorem iX1_open_88 : zI cX1_open 88 (.iload_n 2) 1 89 := ⟨by decide +kernel, rfl⟩
theorem iX1_open_85 : zI cX1_open 85 (.getfield 15) 3 88 := ⟨by decide +kernel, rfl⟩
theorem iX1_open_84 : zI cX1_open 84 (.aload_n 0) 1 85 := ⟨by decide +kernel, rfl⟩
theorem iX1_open_83 : zI cX1_open 83 (.aload_n 0) 1 84 := ⟨by decide +kernel, rfl⟩
theorem iX1_open_82 : zI cX1_open 82 (.iastore) 1 83 := ⟨by decide +kernel, rfl⟩
theorem iX1_open_81 : zI cX1_open 81 (.iaload) 1 82 := ⟨by decide +kernel, rfl⟩
theorem iX1_open_80 : zI cX1_open 80 (.iaload) 1 81 := ⟨by decide +kernel, rfl⟩
theorem iX1_open_79 : zI cX1_open 79 (.iload_n 2) 1 80 := ⟨by decide +kernel, rfl⟩
theorem iX1_open_76 : zI cX1_open 76 (.getfield 15) 3 79 := ⟨by decide +kernel, rfl⟩
theorem iX1_open_75 : zI cX1_open 75 (.aload_n 0) 1 76 := ⟨by decide +kernel, rfl⟩
theorem iX1_open_72 : zI cX1_open 72 (.getfield 18) 3 75 := ⟨by decide +kernel, rfl⟩
theorem iX1_open_71 : zI cX1_open 71 (.aload_n 0) 1 72 := ⟨by decide +kernel, rfl⟩
theorem iX1_open_70 : zI cX1_open 70 (.iload_n 2) 1 71 := ⟨by decide +kernel, rfl⟩
theorem iX1_open_67 : zI cX1_open 67 (.getfield 18) 3 70 := ⟨by decide +kernel, rfl⟩
theorem iX1_open_66 : zI cX1_open 66 (.aload_n 0) 1 67 := ⟨by decide +kernel, rfl⟩
theorem iX1_open_62 : zI cX1_open 62 (.iload_n 2) 1 63 := ⟨by decide +kernel, rfl⟩
theorem iX1_open_61 : zI cX1_open 61 (.iaload) 1 62 := ⟨by decide +kernel, rfl⟩
theorem iX1_open_60 : zI cX1_open 60 (.iload_n 2) 1 61 := ⟨by decide +kernel, rfl⟩
theorem iX1_open_57 : zI cX1_open 57 (.getfield 15) 3 60 := ⟨by decide +kernel, rfl⟩
theorem iX1_open_56 : zI cX1_open 56 (.aload_n 0) 1 57 := ⟨by decide +kernel, rfl⟩
theorem iX1_open_52 : zI cX1_open 52 (.iload_n 2) 1 53 := ⟨by decide +kernel, rfl⟩
theorem iX1_open_51 : zI cX1_open 51 (.iaload) 1 52 := ⟨by decide +kernel, rfl⟩
theorem iX1_open_50 : zI cX1_open 50 (.iload_n 2) 1 51 := ⟨by decide +kernel, rfl⟩
theorem iX1_open_47 : zI cX1_open 47 (.getfield 9) 3 50 := ⟨by decide +kernel, rfl⟩
theorem iX1_open_46 : zI cX1_open 46 (.aload_n 0) 1 47 := ⟨by decide +kernel, rfl⟩
theorem iX1_open_40 : zI cX1_open 40 (.getfield 99) 3 43 := ⟨by decide +kernel, rfl⟩
theorem iX1_open_37 : zI cX1_open 37 (.getfield 33) 3 40 := ⟨by decide +kernel, rfl⟩
theorem iX1_open_36 : zI cX1_open 36 (.aload_n 0) 1 37 := ⟨by decide +kernel, rfl⟩
theorem iX1_open_35 : zI cX1_open 35 (.iload_n 2) 1 36 := ⟨by decide +kernel, rfl⟩
theorem iX1_open_100 : zI cX1_open 100 (.return_) 1 101 := ⟨by decide +kernel, rfl⟩
theorem iX1_open_34 : zI cX1_open 34 (.istore_n 2) 1 35 := ⟨by decide +kernel, rfl⟩
theorem iX1_open_33 : zI cX1_open 33 (.iconst 0) 1 34 := ⟨by decide +kernel, rfl⟩
theorem iX1_open_29 : zI cX1_open 29 (.aload_n 0) 1 30 := ⟨by decide +kernel, rfl⟩
theorem iX1_open_24 : zI cX1_open 24 (.bipush 6) 2 26 := ⟨by decide +kernel, rfl⟩
theorem iX1_open_23 : zI cX1_open 23 (.iconst 0) 1 24 := ⟨by decide +kernel, rfl⟩
theorem iX1_open_20 : zI cX1_open 20 (.getfield 15) 3 23 := ⟨by decide +kernel, rfl⟩
theorem iX1_open_19 : zI cX1_open 19 (.aload_n 0) 1 20 := ⟨by decide +kernel, rfl⟩
theorem iX1_open_18 : zI cX1_open 18 (.iconst 0) 1 19 := ⟨by decide +kernel, rfl⟩
theorem iX1_open_15 : zI cX1_open 15 (.getfield 9) 3 18 := ⟨by decide +kernel, rfl⟩
theorem iX1_open_14 : zI cX1_open 14 (.aload_n 0) 1 15 := ⟨by decide +kernel, rfl⟩
theorem iX1_open_11 : zI cX1_open 11 (.putfield 43) 3 14 := ⟨by decide +kernel, rfl⟩
theorem iX1_open_10 : zI cX1_open 10 (.iand) 1 11 := ⟨by decide +kernel, rfl⟩
theorem iX1_open_9 : zI cX1_open 9 (.ixor) 1 10 := ⟨by decide +kernel, rfl⟩
theorem iX1_open_8 : zI cX1_open 8 (.iconst (-1)) 1 9 := ⟨by decide +kernel, rfl⟩
theorem iX1_open_7 : zI cX1_open 7 (.ishl) 1 8 := ⟨by decide +kernel, rfl⟩
theorem iX1_open_6 : zI cX1_open 6 (.iload_n 1) 1 7 := ⟨by decide +kernel, rfl⟩
theorem iX1_open_5 : zI cX1_open 5 (.iconst 1) 1 6 := ⟨by decide +kernel, rfl⟩
theorem iX1_open_2 : zI cX1_open 2 (.getfield 43) 3 5 := ⟨by decide +kernel, rfl⟩
theorem iX1_open_1 : zI cX1_open 1 (.dup) 1 2 := ⟨by decide +kernel, rfl⟩
theorem iX1_open_0 : zI cX1_open 0 (.aload_n 0) 1 1 := ⟨by decide +kernel, rfl⟩
set_option maxHeartbeats 4000000 in
set_option maxRecDepth 100000 in
theorem m_Gr_open (g : Nat) (hg : isG g) (x1 : Int32) (h : zH) : zM yX1_open cX1_open 3 none 2 shX (fun ad => [.ref (ad g), .int x1]) h eV (Gr_open g x1 h) := by
  refine zM.of (by decide) (fun _ => rfl) (fun _ => Nat.le_of_ble_eq_true rfl) (fun X ad hnL C => ?_)
  show zG X ad shX eV 0 [some (.ref (ad g)), some (.int x1), none] [] h _
  unfold Gr_open
  refine g_aload_n C iX1_open_0 rfl ?_
  refine g_dup C iX1_open_1 rfl ?_
  refine g_getI C fX1_43 iX1_open_2 hg.1 rfl ?_
  refine g_iconst C 1 iX1_open_5 (by decide) ?_
  refine g_iload_n C iX1_open_6 rfl ?_
  refine g_ishl C iX1_open_7 ?_
  refine g_iconst C (-1) iX1_open_8 (by decide) ?_
  refine g_ixor C iX1_open_9 ?_
  refine g_iand C iX1_open_10 ?_
  refine g_putI C pX1_43 iX1_open_11 hg.1 rfl (fun h_1 => ?_)
  refine g_aload_n C iX1_open_14 rfl ?_
  refine g_getR (b := (g + 1)) C fX1_9 iX1_open_15 hg.1 rfl ?_
  refine g_iconst C 0 iX1_open_18 (by decide) ?_
  refine g_aload_n C iX1_open_19 rfl ?_
  refine g_getR (b := (g + 2)) C fX1_15 iX1_open_20 hg.1 rfl ?_
  refine g_iconst C 0 iX1_open_23 (by decide) ?_
  refine g_bipush C 6 iX1_open_24 (by decide) ?_
  refine g_copy C wX1_37 iX1_open_26 (by decide) (Nat.le_of_ble_eq_true rfl) hg.2.1 hg.2.2.1 (by decide) (by decide) (by decide) (by decide) (fun h_2 => ?_)
  refine g_aload_n C iX1_open_29 rfl ?_
  refine g_callV C wX1_67 iX1_open_30 (m_Gr_findRoots g hg h_2) (by decide) hg.1 rfl rfl rfl rfl (Nat.le_of_ble_eq_true rfl) (fun h_3 => ?_)
  show zG X ad shX eV 33 [some (.ref (ad g)), some (.int x1), none] [] h_3 _
  refine g_iconst C 0 iX1_open_33 (by decide) ?_
  refine g_istore_n (lv' := [some (.ref (ad g)), some (.int x1), some (.int 0)]) C hnL iX1_open_34 (by decide) rfl ?_
  have L35 : ∀ (k100 : zH → Option (zH)), (∀ (hy : zH), zG X ad shX eV 100 [none, none, none] [] hy (k100 hy)) → ∀ (n : Nat) (x2 : Int32) (h_4 : zH), zG X ad shX eV 35 [some (.ref (ad g)), none, some (.int x2)] [] h_4 (Gr_open_L35 g k100 n x2 h_4) := by
    intro k100 hk100 n
    induction n with
    | zero =>
      intro x2 h_4
      exact g_none
    | succ n ih35 =>
      intro x2 h_4
      rw [Gr_open_L35]
      refine g_iload_n C iX1_open_35 rfl ?_
      refine g_aload_n C iX1_open_36 rfl ?_
      refine g_getR (b := 17) C fX1_33 iX1_open_37 hg.1 rfl ?_
      refine g_getI C fX1_99 iX1_open_40 isP17.1 rfl ?_
      refine g_icmp_ge C 100 iX1_open_43 (by decide) (fun c43 => ?_) (fun c43 => ?_)
      · refine g_sub (lv' := [none, none, none]) trivial ?_
        exact hk100 _
      · refine g_aload_n C iX1_open_46 rfl ?_
        refine g_getR (b := (g + 1)) C fX1_9 iX1_open_47 hg.1 rfl ?_
        refine g_iload_n C iX1_open_50 rfl ?_
        refine g_iaload C iX1_open_51 hg.2.1 ?_
        refine g_iload_n C iX1_open_52 rfl ?_
        refine g_icmp_ne C 94 iX1_open_53 (by decide) (fun c53 => ?_) (fun c53 => ?_)
        · refine g_aload_n C iX1_open_56 rfl ?_
          refine g_getR (b := (g + 2)) C fX1_15 iX1_open_57 hg.1 rfl ?_
          refine g_iload_n C iX1_open_60 rfl ?_
          refine g_iaload C iX1_open_61 hg.2.2.1 ?_
          refine g_iload_n C iX1_open_62 rfl ?_
          refine g_icmp_eq C 94 iX1_open_63 (by decide) (fun c63 => ?_) (fun c63 => ?_)
          · refine g_iinc (v := (x2 + 1)) (lv' := [some (.ref (ad g)), none, some (.int (x2 + 1))]) C hnL iX1_open_94 (by decide) rfl rfl rfl ?_
            refine g_goto C 35 iX1_open_97 (by decide) ?_
            exact ih35 _ _
          · refine g_aload_n C iX1_open_66 rfl ?_
            refine g_getR (b := (g + 3)) C fX1_18 iX1_open_67 hg.1 rfl ?_
            refine g_iload_n C iX1_open_70 rfl ?_
            refine g_aload_n C iX1_open_71 rfl ?_
            refine g_getR (b := (g + 3)) C fX1_18 iX1_open_72 hg.1 rfl ?_
            refine g_aload_n C iX1_open_75 rfl ?_
            refine g_getR (b := (g + 2)) C fX1_15 iX1_open_76 hg.1 rfl ?_
            refine g_iload_n C iX1_open_79 rfl ?_
            refine g_iaload C iX1_open_80 hg.2.2.1 ?_
            refine g_iaload C iX1_open_81 hg.2.2.2.1 ?_
            refine g_iastore C iX1_open_82 hg.2.2.2.1 (fun h_5 => ?_)
            refine g_aload_n C iX1_open_83 rfl ?_
            refine g_aload_n C iX1_open_84 rfl ?_
            refine g_getR (b := (g + 2)) C fX1_15 iX1_open_85 hg.1 rfl ?_
            refine g_iload_n C iX1_open_88 rfl ?_
            refine g_iaload C iX1_open_89 hg.2.2.1 ?_
            refine g_iload_n C iX1_open_90 rfl ?_
            refine g_callV C wX1_132 iX1_open_91 (m_Gr_copyCounts g hg (h_5 (g + 2) x2.toNatClampNeg) x2 h_5) (by decide) hg.1 rfl rfl rfl rfl (Nat.le_of_ble_eq_true rfl) (fun h_6 => ?_)
            show zG X ad shX eV 94 [some (.ref (ad g)), none, some (.int x2)] [] h_6 _
            refine g_iinc (v := (x2 + 1)) (lv' := [some (.ref (ad g)), none, some (.int (x2 + 1))]) C hnL iX1_open_94 (by decide) rfl rfl rfl ?_
            refine g_goto C 35 iX1_open_97 (by decide) ?_
            exact ih35 _ _
        · refine g_iinc (v := (x2 + 1)) (lv' := [some (.ref (ad g)), none, some (.int (x2 + 1))]) C hnL iX1_open_94 (by decide) rfl rfl rfl ?_
          refine g_goto C 35 iX1_open_97 (by decide) ?_
          exact ih35 _ _
  refine g_sub (lv' := [some (.ref (ad g)), none, some (.int 0)]) ⟨rfl, ⟨rfl, trivial⟩⟩ ?_
  refine L35 _ (fun h_7 => ?_) 1000 _ _
  show zG X ad shX eV 100 [none, none, none] [] h_7 _
  exact g_vret C iX1_open_100 rfl

theorem iX1_canClose_32 : zI cX1_canClose 32 (.if_icmp .eq 40) 3 35 := ⟨by decide +kernel, rfl⟩
theorem iX1_canClose_77 : zI cX1_canClose 77 (.ireturn) 1 78 := ⟨by decide +kernel, rfl⟩
theorem iX1_canClose_73 : zI cX1_canClose 73 (.goto 4) 3 76 := ⟨by decide +kernel, rfl⟩
theorem iX1_canClose_72 : zI cX1_canClose 72 (.iconst 1) 1 73 := ⟨by decide +kernel, rfl⟩
theorem iX1_canClose_37 : zI cX1_canClose 37 (.invokevirtual 112) 3 40 := ⟨by decide +kernel, rfl⟩
theorem iX1_canClose_40 : zI cX1_canClose 40 (.ifCond .ne 32) 3 43 := ⟨by decide +kernel, rfl⟩
theorem iX1_canClose_45 : zI cX1_canClose 45 (.invokevirtual 112) 3 48 := ⟨by decide +kernel, rfl⟩
theorem iX1_canClose_48 : zI cX1_canClose 48 (.ifCond .ne 24) 3 51 := ⟨by decide +kernel, rfl⟩
set_option maxRecDepth 100000 in
theorem wX1_136 : zMw RX1 136 Lib.Math.abs.name Lib.Math.abs.code 1 := ⟨(zmem 605 (by decide +kernel) (by decide +kernel)), (zmem 606 (by decide +kernel) (by decide +kernel)), (zmem 75 (by decide +kernel) (by decide +kernel)), (zmem 607 rfl rfl)⟩
theorem iX1_canClose_64 : zI cX1_canClose 64 (.invokestatic 136) 3 67 := ⟨by decide +kernel, rfl⟩
theorem iX1_canClose_69 : zI cX1_canClose 69 (.if_icmp .gt 7) 3 72 := ⟨by decide +kernel, rfl⟩
theorem iX1_canClose_76 : zI cX1_canClose 76 (.iconst 0) 1 77 := ⟨by decide +kernel, rfl⟩
theorem iX1_canClose_67 : zI cX1_canClose 67 (.bipush 20) 2 69 := ⟨by decide +kernel, rfl⟩
theorem iX1_canClose_63 : zI cX1_canClose 63 (.isub) 1 64 := ⟨by decide +kernel, rfl⟩
theorem iX1_canClose_62 : zI cX1_canClose 62 (.iaload) 1 63 := ⟨by decide +kernel, rfl⟩
theorem iX1_canClose_61 : zI cX1_canClose 61 (.iload_n 3) 1 62 := ⟨by decide +kernel, rfl⟩
theorem iX1_canClose_58 : zI cX1_canClose 58 (.getfield 18) 3 61 := ⟨by decide +kernel, rfl⟩
theorem iX1_canClose_57 : zI cX1_canClose 57 (.aload_n 0) 1 58 := ⟨by decide +kernel, rfl⟩
theorem iX1_canClose_56 : zI cX1_canClose 56 (.iaload) 1 57 := ⟨by decide +kernel, rfl⟩
theorem iX1_canClose_55 : zI cX1_canClose 55 (.iload_n 2) 1 56 := ⟨by decide +kernel, rfl⟩
theorem iX1_canClose_52 : zI cX1_canClose 52 (.getfield 18) 3 55 := ⟨by decide +kernel, rfl⟩
theorem iX1_canClose_51 : zI cX1_canClose 51 (.aload_n 0) 1 52 := ⟨by decide +kernel, rfl⟩
theorem iX1_canClose_44 : zI cX1_canClose 44 (.iload_n 3) 1 45 := ⟨by decide +kernel, rfl⟩
theorem iX1_canClose_43 : zI cX1_canClose 43 (.aload_n 0) 1 44 := ⟨by decide +kernel, rfl⟩
theorem iX1_canClose_36 : zI cX1_canClose 36 (.iload_n 2) 1 37 := ⟨by decide +kernel, rfl⟩
theorem iX1_canClose_35 : zI cX1_canClose 35 (.aload_n 0) 1 36 := ⟨by decide +kernel, rfl⟩
theorem iX1_canClose_31 : zI cX1_canClose 31 (.iload_n 3) 1 32 := ⟨by decide +kernel, rfl⟩
theorem iX1_canClose_30 : zI cX1_canClose 30 (.iload_n 2) 1 31 := ⟨by decide +kernel, rfl⟩
theorem iX1_canClose_29 : zI cX1_canClose 29 (.istore_n 3) 1 30 := ⟨by decide +kernel, rfl⟩
theorem iX1_canClose_28 : zI cX1_canClose 28 (.iaload) 1 29 := ⟨by decide +kernel, rfl⟩
theorem iX1_canClose_27 : zI cX1_canClose 27 (.iaload) 1 28 := ⟨by decide +kernel, rfl⟩
theorem iX1_canClose_26 : zI cX1_canClose 26 (.iload_n 1) 1 27 := ⟨by decide +kernel, rfl⟩
theorem iX1_canClose_23 : zI cX1_canClose 23 (.getfield 109) 3 26 := ⟨by decide +kernel, rfl⟩
theorem iX1_canClose_20 : zI cX1_canClose 20 (.getfield 33) 3 23 := ⟨by decide +kernel, rfl⟩
theorem iX1_canClose_19 : zI cX1_canClose 19 (.aload_n 0) 1 20 := ⟨by decide +kernel, rfl⟩
theorem iX1_canClose_16 : zI cX1_canClose 16 (.getfield 9) 3 19 := ⟨by decide +kernel, rfl⟩
theorem iX1_canClose_15 : zI cX1_canClose 15 (.aload_n 0) 1 16 := ⟨by decide +kernel, rfl⟩
theorem iX1_canClose_14 : zI cX1_canClose 14 (.istore_n 2) 1 15 := ⟨by decide +kernel, rfl⟩
theorem iX1_canClose_13 : zI cX1_canClose 13 (.iaload) 1 14 := ⟨by decide +kernel, rfl⟩
theorem iX1_canClose_12 : zI cX1_canClose 12 (.iaload) 1 13 := ⟨by decide +kernel, rfl⟩
theorem iX1_canClose_11 : zI cX1_canClose 11 (.iload_n 1) 1 12 := ⟨by decide +kernel, rfl⟩
theorem iX1_canClose_8 : zI cX1_canClose 8 (.getfield 106) 3 11 := ⟨by decide +kernel, rfl⟩
theorem iX1_canClose_5 : zI cX1_canClose 5 (.getfield 33) 3 8 := ⟨by decide +kernel, rfl⟩
theorem iX1_canClose_4 : zI cX1_canClose 4 (.aload_n 0) 1 5 := ⟨by decide +kernel, rfl⟩
theorem iX1_canClose_1 : zI cX1_canClose 1 (.getfield 9) 3 4 := ⟨by decide +kernel, rfl⟩
theorem iX1_canClose_0 : zI cX1_canClose 0 (.aload_n 0) 1 1 := ⟨by decide +kernel, rfl⟩
set_option maxHeartbeats 4000000 in
set_option maxRecDepth 100000 in
theorem m_Gr_canClose (g : Nat) (hg : isG g) (x1 : Int32) (h : zH) : zM yX1_canClose cX1_canClose 4 (some .boolean) 1 shX (fun ad => [.ref (ad g), .int x1]) h (eP h) (Gr_canClose g x1 h) := by
  refine zM.of (by decide) (fun _ => rfl) (fun _ => Nat.le_of_ble_eq_true rfl) (fun X ad hnL C => ?_)
  show zG X ad shX (eP h) 0 [some (.ref (ad g)), some (.int x1), none, none] [] h _
  unfold Gr_canClose
  refine g_aload_n C iX1_canClose_0 rfl ?_
  refine g_getR (b := (g + 1)) C fX1_9 iX1_canClose_1 hg.1 rfl ?_
  refine g_aload_n C iX1_canClose_4 rfl ?_
  refine g_getR (b := 17) C fX1_33 iX1_canClose_5 hg.1 rfl ?_
  refine g_getR (b := 18) C fX1_106 iX1_canClose_8 isP17.1 rfl ?_
  refine g_iload_n C iX1_canClose_11 rfl ?_
  refine g_iaload C iX1_canClose_12 isP17.2.1 ?_
  refine g_iaload C iX1_canClose_13 hg.2.1 ?_
  refine g_top (fun x2 => ?_)
  refine g_istore_n (lv' := [some (.ref (ad g)), some (.int x1), some (.int x2), none]) C hnL iX1_canClose_14 (by decide) rfl ?_
  refine g_aload_n C iX1_canClose_15 rfl ?_
  refine g_getR (b := (g + 1)) C fX1_9 iX1_canClose_16 hg.1 rfl ?_
  refine g_aload_n C iX1_canClose_19 rfl ?_
  refine g_getR (b := 17) C fX1_33 iX1_canClose_20 hg.1 rfl ?_
  refine g_getR (b := 19) C fX1_109 iX1_canClose_23 isP17.1 rfl ?_
  refine g_iload_n C iX1_canClose_26 rfl ?_
  refine g_iaload C iX1_canClose_27 isP17.2.2.1 ?_
  refine g_iaload C iX1_canClose_28 hg.2.1 ?_
  refine g_top (fun x3 => ?_)
  refine g_istore_n (lv' := [some (.ref (ad g)), some (.int x1), some (.int x2), some (.int x3)]) C hnL iX1_canClose_29 (by decide) rfl ?_
  refine g_iload_n C iX1_canClose_30 rfl ?_
  refine g_iload_n C iX1_canClose_31 rfl ?_
  refine g_icmp_eq C 72 iX1_canClose_32 (by decide) (fun c32 => ?_) (fun c32 => ?_)
  · refine g_iconst C 1 iX1_canClose_72 (by decide) ?_
    refine g_goto C 77 iX1_canClose_73 (by decide) ?_
    exact g_zret C iX1_canClose_77 rfl rfl
  · refine g_aload_n C iX1_canClose_35 rfl ?_
    refine g_iload_n C iX1_canClose_36 rfl ?_
    refine g_callV C wX1_112 iX1_canClose_37 (m_Gr_isDark g hg x2 h) (by decide) hg.1 rfl rfl rfl rfl (Nat.le_of_ble_eq_true rfl) (fun r => ?_)
    show zG X ad shX (eP h) 40 [some (.ref (ad g)), some (.int x1), some (.int x2), some (.int x3)] [.int r] h _
    refine g_if_ne C 72 iX1_canClose_40 (by decide) (fun c40 => ?_) (fun c40 => ?_)
    · refine g_aload_n C iX1_canClose_43 rfl ?_
      refine g_iload_n C iX1_canClose_44 rfl ?_
      refine g_callV C wX1_112 iX1_canClose_45 (m_Gr_isDark g hg x3 h) (by decide) hg.1 rfl rfl rfl rfl (Nat.le_of_ble_eq_true rfl) (fun r_1 => ?_)
      show zG X ad shX (eP h) 48 [some (.ref (ad g)), some (.int x1), some (.int x2), some (.int x3)] [.int r_1] h _
      refine g_if_ne C 72 iX1_canClose_48 (by decide) (fun c48 => ?_) (fun c48 => ?_)
      · refine g_aload_n C iX1_canClose_51 rfl ?_
        refine g_getR (b := (g + 3)) C fX1_18 iX1_canClose_52 hg.1 rfl ?_
        refine g_iload_n C iX1_canClose_55 rfl ?_
        refine g_iaload C iX1_canClose_56 hg.2.2.2.1 ?_
        refine g_aload_n C iX1_canClose_57 rfl ?_
        refine g_getR (b := (g + 3)) C fX1_18 iX1_canClose_58 hg.1 rfl ?_
        refine g_iload_n C iX1_canClose_61 rfl ?_
        refine g_iaload C iX1_canClose_62 hg.2.2.2.1 ?_
        refine g_isub C iX1_canClose_63 ?_
        refine g_abs C wX1_136 iX1_canClose_64 (by decide) (Nat.le_of_ble_eq_true rfl) ?_
        refine g_bipush C 20 iX1_canClose_67 (by decide) ?_
        refine g_icmp_gt C 76 iX1_canClose_69 (by decide) (fun c69 => ?_) (fun c69 => ?_)
        · refine g_iconst C 0 iX1_canClose_76 (by decide) ?_
          exact g_zret C iX1_canClose_77 rfl rfl
        · refine g_iconst C 1 iX1_canClose_72 (by decide) ?_
          refine g_goto C 77 iX1_canClose_73 (by decide) ?_
          exact g_zret C iX1_canClose_77 rfl rfl
      · refine g_iconst C 1 iX1_canClose_72 (by decide) ?_
        refine g_goto C 77 iX1_canClose_73 (by decide) ?_
        exact g_zret C iX1_canClose_77 rfl rfl
    · refine g_iconst C 1 iX1_canClose_72 (by decide) ?_
      refine g_goto C 77 iX1_canClose_73 (by decide) ?_
      exact g_zret C iX1_canClose_77 rfl rfl

set_option maxRecDepth 100000 in
theorem wX1_148 : zCv RX1 148 yX1_heavyOf cX1_heavyOf 2 (some .int) 1 := ⟨⟨(zmem 625 (by decide +kernel) (by decide +kernel)), (zmem 67 (by decide +kernel) (by decide +kernel)), (zmem 549 rfl rfl), ⟨by decide, by decide, by decide +kernel⟩, by decide⟩, (zmem 547 (by decide +kernel) (by decide +kernel)), (zmem 548 (by decide +kernel) (by decide +kernel))⟩
theorem iX1_joinedFrequency_2 : zI cX1_joinedFrequency 2 (.invokevirtual 148) 3 5 := ⟨by decide +kernel, rfl⟩
theorem iX1_joinedFrequency_8 : zI cX1_joinedFrequency 8 (.invokevirtual 148) 3 11 := ⟨by decide +kernel, rfl⟩
theorem iX1_joinedFrequency_21 : zI cX1_joinedFrequency 21 (.ifCond .ne 19) 3 24 := ⟨by decide +kernel, rfl⟩
theorem iX1_joinedFrequency_61 : zI cX1_joinedFrequency 61 (.ireturn) 1 62 := ⟨by decide +kernel, rfl⟩
theorem iX1_joinedFrequency_60 : zI cX1_joinedFrequency 60 (.idiv) 1 61 := ⟨by decide +kernel, rfl⟩
theorem iX1_joinedFrequency_58 : zI cX1_joinedFrequency 58 (.iload 5) 2 60 := ⟨by decide +kernel, rfl⟩
theorem iX1_joinedFrequency_57 : zI cX1_joinedFrequency 57 (.iadd) 1 58 := ⟨by decide +kernel, rfl⟩
theorem iX1_joinedFrequency_56 : zI cX1_joinedFrequency 56 (.imul) 1 57 := ⟨by decide +kernel, rfl⟩
theorem iX1_joinedFrequency_54 : zI cX1_joinedFrequency 54 (.iload 4) 2 56 := ⟨by decide +kernel, rfl⟩
theorem iX1_joinedFrequency_53 : zI cX1_joinedFrequency 53 (.iaload) 1 54 := ⟨by decide +kernel, rfl⟩
theorem iX1_joinedFrequency_52 : zI cX1_joinedFrequency 52 (.iload_n 2) 1 53 := ⟨by decide +kernel, rfl⟩
theorem iX1_joinedFrequency_49 : zI cX1_joinedFrequency 49 (.getfield 18) 3 52 := ⟨by decide +kernel, rfl⟩
theorem iX1_joinedFrequency_48 : zI cX1_joinedFrequency 48 (.aload_n 0) 1 49 := ⟨by decide +kernel, rfl⟩
theorem iX1_joinedFrequency_47 : zI cX1_joinedFrequency 47 (.imul) 1 48 := ⟨by decide +kernel, rfl⟩
theorem iX1_joinedFrequency_46 : zI cX1_joinedFrequency 46 (.iload_n 3) 1 47 := ⟨by decide +kernel, rfl⟩
theorem iX1_joinedFrequency_45 : zI cX1_joinedFrequency 45 (.iaload) 1 46 := ⟨by decide +kernel, rfl⟩
theorem iX1_joinedFrequency_44 : zI cX1_joinedFrequency 44 (.iload_n 1) 1 45 := ⟨by decide +kernel, rfl⟩
theorem iX1_joinedFrequency_41 : zI cX1_joinedFrequency 41 (.getfield 18) 3 44 := ⟨by decide +kernel, rfl⟩
theorem iX1_joinedFrequency_40 : zI cX1_joinedFrequency 40 (.aload_n 0) 1 41 := ⟨by decide +kernel, rfl⟩
theorem iX1_joinedFrequency_36 : zI cX1_joinedFrequency 36 (.invokestatic 93) 3 39 := ⟨by decide +kernel, rfl⟩
theorem iX1_joinedFrequency_39 : zI cX1_joinedFrequency 39 (.ireturn) 1 40 := ⟨by decide +kernel, rfl⟩
theorem iX1_joinedFrequency_35 : zI cX1_joinedFrequency 35 (.iaload) 1 36 := ⟨by decide +kernel, rfl⟩
theorem iX1_joinedFrequency_34 : zI cX1_joinedFrequency 34 (.iload_n 2) 1 35 := ⟨by decide +kernel, rfl⟩
theorem iX1_joinedFrequency_31 : zI cX1_joinedFrequency 31 (.getfield 18) 3 34 := ⟨by decide +kernel, rfl⟩
theorem iX1_joinedFrequency_30 : zI cX1_joinedFrequency 30 (.aload_n 0) 1 31 := ⟨by decide +kernel, rfl⟩
theorem iX1_joinedFrequency_29 : zI cX1_joinedFrequency 29 (.iaload) 1 30 := ⟨by decide +kernel, rfl⟩
theorem iX1_joinedFrequency_28 : zI cX1_joinedFrequency 28 (.iload_n 1) 1 29 := ⟨by decide +kernel, rfl⟩
theorem iX1_joinedFrequency_25 : zI cX1_joinedFrequency 25 (.getfield 18) 3 28 := ⟨by decide +kernel, rfl⟩
theorem iX1_joinedFrequency_24 : zI cX1_joinedFrequency 24 (.aload_n 0) 1 25 := ⟨by decide +kernel, rfl⟩
theorem iX1_joinedFrequency_19 : zI cX1_joinedFrequency 19 (.iload 5) 2 21 := ⟨by decide +kernel, rfl⟩
theorem iX1_joinedFrequency_17 : zI cX1_joinedFrequency 17 (.istore 5) 2 19 := ⟨by decide +kernel, rfl⟩
theorem iX1_joinedFrequency_16 : zI cX1_joinedFrequency 16 (.iadd) 1 17 := ⟨by decide +kernel, rfl⟩
theorem iX1_joinedFrequency_14 : zI cX1_joinedFrequency 14 (.iload 4) 2 16 := ⟨by decide +kernel, rfl⟩
theorem iX1_joinedFrequency_13 : zI cX1_joinedFrequency 13 (.iload_n 3) 1 14 := ⟨by decide +kernel, rfl⟩
theorem iX1_joinedFrequency_11 : zI cX1_joinedFrequency 11 (.istore 4) 2 13 := ⟨by decide +kernel, rfl⟩
theorem iX1_joinedFrequency_7 : zI cX1_joinedFrequency 7 (.iload_n 2) 1 8 := ⟨by decide +kernel, rfl⟩
theorem iX1_joinedFrequency_6 : zI cX1_joinedFrequency 6 (.aload_n 0) 1 7 := ⟨by decide +kernel, rfl⟩
theorem iX1_joinedFrequency_5 : zI cX1_joinedFrequency 5 (.istore_n 3) 1 6 := ⟨by decide +kernel, rfl⟩
theorem iX1_joinedFrequency_1 : zI cX1_joinedFrequency 1 (.iload_n 1) 1 2 := ⟨by decide +kernel, rfl⟩
theorem iX1_joinedFrequency_0 : zI cX1_joinedFrequency 0 (.aload_n 0) 1 1 := ⟨by decide +kernel, rfl⟩
set_option maxHeartbeats 4000000 in
set_option maxRecDepth 100000 in
theorem m_Gr_joinedFrequency (g : Nat) (hg : isG g) (x1 : Int32) (x2 : Int32) (h : zH) : zM yX1_joinedFrequency cX1_joinedFrequency 6 (some .int) 2 shX (fun ad => [.ref (ad g), .int x1, .int x2]) h (eP h) (Gr_joinedFrequency g x1 x2 h) := by
  refine zM.of (by decide) (fun _ => rfl) (fun _ => Nat.le_of_ble_eq_true rfl) (fun X ad hnL C => ?_)
  show zG X ad shX (eP h) 0 [some (.ref (ad g)), some (.int x1), some (.int x2), none, none, none] [] h _
  unfold Gr_joinedFrequency
  refine g_aload_n C iX1_joinedFrequency_0 rfl ?_
  refine g_iload_n C iX1_joinedFrequency_1 rfl ?_
  refine g_callV C wX1_148 iX1_joinedFrequency_2 (m_Gr_heavyOf g hg x1 h) (by decide) hg.1 rfl rfl rfl rfl (Nat.le_of_ble_eq_true rfl) (fun r => ?_)
  show zG X ad shX (eP h) 5 [some (.ref (ad g)), some (.int x1), some (.int x2), none, none, none] [.int r] h _
  refine g_istore_n (lv' := [some (.ref (ad g)), some (.int x1), some (.int x2), some (.int r), none, none]) C hnL iX1_joinedFrequency_5 (by decide) rfl ?_
  refine g_aload_n C iX1_joinedFrequency_6 rfl ?_
  refine g_iload_n C iX1_joinedFrequency_7 rfl ?_
  refine g_callV C wX1_148 iX1_joinedFrequency_8 (m_Gr_heavyOf g hg x2 h) (by decide) hg.1 rfl rfl rfl rfl (Nat.le_of_ble_eq_true rfl) (fun r_1 => ?_)
  show zG X ad shX (eP h) 11 [some (.ref (ad g)), some (.int x1), some (.int x2), some (.int r), none, none] [.int r_1] h _
  refine g_istore (lv' := [some (.ref (ad g)), some (.int x1), some (.int x2), some (.int r), some (.int r_1), none]) C hnL iX1_joinedFrequency_11 (by decide) rfl ?_
  refine g_iload_n C iX1_joinedFrequency_13 rfl ?_
  refine g_iload C iX1_joinedFrequency_14 rfl ?_
  refine g_iadd C iX1_joinedFrequency_16 ?_
  refine g_top (fun x5 => ?_)
  refine g_istore (lv' := [some (.ref (ad g)), some (.int x1), some (.int x2), some (.int r), some (.int r_1), some (.int x5)]) C hnL iX1_joinedFrequency_17 (by decide) rfl ?_
  refine g_iload C iX1_joinedFrequency_19 rfl ?_
  refine g_if_ne C 40 iX1_joinedFrequency_21 (by decide) (fun c21 => ?_) (fun c21 => ?_)
  · refine g_aload_n C iX1_joinedFrequency_24 rfl ?_
    refine g_getR (b := (g + 3)) C fX1_18 iX1_joinedFrequency_25 hg.1 rfl ?_
    refine g_iload_n C iX1_joinedFrequency_28 rfl ?_
    refine g_iaload C iX1_joinedFrequency_29 hg.2.2.2.1 ?_
    refine g_aload_n C iX1_joinedFrequency_30 rfl ?_
    refine g_getR (b := (g + 3)) C fX1_18 iX1_joinedFrequency_31 hg.1 rfl ?_
    refine g_iload_n C iX1_joinedFrequency_34 rfl ?_
    refine g_iaload C iX1_joinedFrequency_35 hg.2.2.2.1 ?_
    refine g_min C wX1_93 iX1_joinedFrequency_36 (by decide) (Nat.le_of_ble_eq_true rfl) ?_
    exact g_iret C iX1_joinedFrequency_39 rfl
  · refine g_aload_n C iX1_joinedFrequency_40 rfl ?_
    refine g_getR (b := (g + 3)) C fX1_18 iX1_joinedFrequency_41 hg.1 rfl ?_
    refine g_iload_n C iX1_joinedFrequency_44 rfl ?_
    refine g_iaload C iX1_joinedFrequency_45 hg.2.2.2.1 ?_
    refine g_iload_n C iX1_joinedFrequency_46 rfl ?_
    refine g_imul C iX1_joinedFrequency_47 ?_
    refine g_aload_n C iX1_joinedFrequency_48 rfl ?_
    refine g_getR (b := (g + 3)) C fX1_18 iX1_joinedFrequency_49 hg.1 rfl ?_
    refine g_iload_n C iX1_joinedFrequency_52 rfl ?_
    refine g_iaload C iX1_joinedFrequency_53 hg.2.2.2.1 ?_
    refine g_iload C iX1_joinedFrequency_54 rfl ?_
    refine g_imul C iX1_joinedFrequency_56 ?_
    refine g_iadd C iX1_joinedFrequency_57 ?_
    refine g_iload C iX1_joinedFrequency_58 rfl ?_
    refine g_idiv C iX1_joinedFrequency_60 ?_
    exact g_iret C iX1_joinedFrequency_61 rfl

theorem iX1_join_2 : zI cX1_join 2 (.invokevirtual 112) 3 5 := ⟨by decide +kernel, rfl⟩
theorem iX1_join_5 : zI cX1_join 5 (.ifCond .eq 40) 3 8 := ⟨by decide +kernel, rfl⟩
theorem iX1_join_47 : zI cX1_join 47 (.invokevirtual 112) 3 50 := ⟨by decide +kernel, rfl⟩
theorem iX1_join_50 : zI cX1_join 50 (.ifCond .ne 20) 3 53 := ⟨by decide +kernel, rfl⟩
theorem iX1_join_70 : zI cX1_join 70 (.return_) 1 71 := ⟨by decide +kernel, rfl⟩
theorem iX1_join_55 : zI cX1_join 55 (.invokevirtual 70) 3 58 := ⟨by decide +kernel, rfl⟩
set_option maxRecDepth 100000 in
theorem wX1_145 : zCv RX1 145 yX1_joinedFrequency cX1_joinedFrequency 6 (some .int) 2 := ⟨⟨(zmem 621 (by decide +kernel) (by decide +kernel)), (zmem 67 (by decide +kernel) (by decide +kernel)), (zmem 624 rfl rfl), ⟨by decide, by decide, by decide +kernel⟩, by decide⟩, (zmem 623 (by decide +kernel) (by decide +kernel)), (zmem 15 (by decide +kernel) (by decide +kernel))⟩
theorem iX1_join_66 : zI cX1_join 66 (.invokevirtual 145) 3 69 := ⟨by decide +kernel, rfl⟩
theorem iX1_join_69 : zI cX1_join 69 (.iastore) 1 70 := ⟨by decide +kernel, rfl⟩
theorem iX1_join_65 : zI cX1_join 65 (.iload_n 2) 1 66 := ⟨by decide +kernel, rfl⟩
theorem iX1_join_64 : zI cX1_join 64 (.iload_n 1) 1 65 := ⟨by decide +kernel, rfl⟩
theorem iX1_join_63 : zI cX1_join 63 (.aload_n 0) 1 64 := ⟨by decide +kernel, rfl⟩
theorem iX1_join_62 : zI cX1_join 62 (.iload_n 1) 1 63 := ⟨by decide +kernel, rfl⟩
theorem iX1_join_59 : zI cX1_join 59 (.getfield 18) 3 62 := ⟨by decide +kernel, rfl⟩
theorem iX1_join_58 : zI cX1_join 58 (.aload_n 0) 1 59 := ⟨by decide +kernel, rfl⟩
theorem iX1_join_54 : zI cX1_join 54 (.iload_n 1) 1 55 := ⟨by decide +kernel, rfl⟩
theorem iX1_join_53 : zI cX1_join 53 (.aload_n 0) 1 54 := ⟨by decide +kernel, rfl⟩
theorem iX1_join_46 : zI cX1_join 46 (.iload_n 2) 1 47 := ⟨by decide +kernel, rfl⟩
theorem iX1_join_45 : zI cX1_join 45 (.aload_n 0) 1 46 := ⟨by decide +kernel, rfl⟩
theorem iX1_join_10 : zI cX1_join 10 (.invokevirtual 112) 3 13 := ⟨by decide +kernel, rfl⟩
theorem iX1_join_42 : zI cX1_join 42 (.goto 28) 3 45 := ⟨by decide +kernel, rfl⟩
theorem iX1_join_41 : zI cX1_join 41 (.iastore) 1 42 := ⟨by decide +kernel, rfl⟩
theorem iX1_join_40 : zI cX1_join 40 (.iaload) 1 41 := ⟨by decide +kernel, rfl⟩
theorem iX1_join_39 : zI cX1_join 39 (.iload_n 2) 1 40 := ⟨by decide +kernel, rfl⟩
theorem iX1_join_36 : zI cX1_join 36 (.getfield 18) 3 39 := ⟨by decide +kernel, rfl⟩
theorem iX1_join_35 : zI cX1_join 35 (.aload_n 0) 1 36 := ⟨by decide +kernel, rfl⟩
theorem iX1_join_34 : zI cX1_join 34 (.iload_n 1) 1 35 := ⟨by decide +kernel, rfl⟩
theorem iX1_join_31 : zI cX1_join 31 (.getfield 18) 3 34 := ⟨by decide +kernel, rfl⟩
theorem iX1_join_30 : zI cX1_join 30 (.aload_n 0) 1 31 := ⟨by decide +kernel, rfl⟩
theorem iX1_join_13 : zI cX1_join 13 (.ifCond .eq 11) 3 16 := ⟨by decide +kernel, rfl⟩
theorem iX1_join_27 : zI cX1_join 27 (.invokevirtual 132) 3 30 := ⟨by decide +kernel, rfl⟩
theorem iX1_join_26 : zI cX1_join 26 (.iload_n 1) 1 27 := ⟨by decide +kernel, rfl⟩
theorem iX1_join_25 : zI cX1_join 25 (.iload_n 2) 1 26 := ⟨by decide +kernel, rfl⟩
theorem iX1_join_24 : zI cX1_join 24 (.aload_n 0) 1 25 := ⟨by decide +kernel, rfl⟩
theorem iX1_join_18 : zI cX1_join 18 (.invokevirtual 70) 3 21 := ⟨by decide +kernel, rfl⟩
theorem iX1_join_21 : zI cX1_join 21 (.goto 9) 3 24 := ⟨by decide +kernel, rfl⟩
theorem iX1_join_17 : zI cX1_join 17 (.iload_n 1) 1 18 := ⟨by decide +kernel, rfl⟩
theorem iX1_join_16 : zI cX1_join 16 (.aload_n 0) 1 17 := ⟨by decide +kernel, rfl⟩
theorem iX1_join_9 : zI cX1_join 9 (.iload_n 2) 1 10 := ⟨by decide +kernel, rfl⟩
theorem iX1_join_8 : zI cX1_join 8 (.aload_n 0) 1 9 := ⟨by decide +kernel, rfl⟩
theorem iX1_join_1 : zI cX1_join 1 (.iload_n 1) 1 2 := ⟨by decide +kernel, rfl⟩
theorem iX1_join_0 : zI cX1_join 0 (.aload_n 0) 1 1 := ⟨by decide +kernel, rfl⟩
set_option maxHeartbeats 4000000 in
set_option maxRecDepth 100000 in
theorem m_Gr_join (g : Nat) (hg : isG g) (x1 : Int32) (x2 : Int32) (h : zH) : zM yX1_join cX1_join 3 none 3 shX (fun ad => [.ref (ad g), .int x1, .int x2]) h eV (Gr_join g x1 x2 h) := by
  refine zM.of (by decide) (fun _ => rfl) (fun _ => Nat.le_of_ble_eq_true rfl) (fun X ad hnL C => ?_)
  show zG X ad shX eV 0 [some (.ref (ad g)), some (.int x1), some (.int x2)] [] h _
  unfold Gr_join
  refine g_aload_n C iX1_join_0 rfl ?_
  refine g_iload_n C iX1_join_1 rfl ?_
  refine g_callV C wX1_112 iX1_join_2 (m_Gr_isDark g hg x1 h) (by decide) hg.1 rfl rfl rfl rfl (Nat.le_of_ble_eq_true rfl) (fun r => ?_)
  show zG X ad shX eV 5 [some (.ref (ad g)), some (.int x1), some (.int x2)] [.int r] h _
  refine g_if_eq C 45 iX1_join_5 (by decide) (fun c5 => ?_) (fun c5 => ?_)
  · refine g_aload_n C iX1_join_45 rfl ?_
    refine g_iload_n C iX1_join_46 rfl ?_
    refine g_callV C wX1_112 iX1_join_47 (m_Gr_isDark g hg x2 h) (by decide) hg.1 rfl rfl rfl rfl (Nat.le_of_ble_eq_true rfl) (fun r_1 => ?_)
    show zG X ad shX eV 50 [some (.ref (ad g)), some (.int x1), some (.int x2)] [.int r_1] h _
    refine g_if_ne C 70 iX1_join_50 (by decide) (fun c50 => ?_) (fun c50 => ?_)
    · refine g_aload_n C iX1_join_53 rfl ?_
      refine g_iload_n C iX1_join_54 rfl ?_
      refine g_callV C wX1_70 iX1_join_55 (m_Gr_clearCounts g hg x1 h) (by decide) hg.1 rfl rfl rfl rfl (Nat.le_of_ble_eq_true rfl) (fun h_1 => ?_)
      show zG X ad shX eV 58 [some (.ref (ad g)), some (.int x1), some (.int x2)] [] h_1 _
      refine g_aload_n C iX1_join_58 rfl ?_
      refine g_getR (b := (g + 3)) C fX1_18 iX1_join_59 hg.1 rfl ?_
      refine g_iload_n C iX1_join_62 rfl ?_
      refine g_aload_n C iX1_join_63 rfl ?_
      refine g_iload_n C iX1_join_64 rfl ?_
      refine g_iload_n C iX1_join_65 rfl ?_
      refine g_callV C wX1_145 iX1_join_66 (m_Gr_joinedFrequency g hg x1 x2 h_1) (by decide) hg.1 rfl rfl rfl rfl (Nat.le_of_ble_eq_true rfl) (fun r_2 => ?_)
      show zG X ad shX eV 69 [some (.ref (ad g)), some (.int x1), some (.int x2)] [.int r_2, .int x1, .ref (ad (g + 3))] h_1 _
      refine g_iastore C iX1_join_69 hg.2.2.2.1 (fun h_2 => ?_)
      exact g_vret C iX1_join_70 rfl
    · exact g_vret C iX1_join_70 rfl
  · refine g_aload_n C iX1_join_8 rfl ?_
    refine g_iload_n C iX1_join_9 rfl ?_
    refine g_callV C wX1_112 iX1_join_10 (m_Gr_isDark g hg x2 h) (by decide) hg.1 rfl rfl rfl rfl (Nat.le_of_ble_eq_true rfl) (fun r_3 => ?_)
    show zG X ad shX eV 13 [some (.ref (ad g)), some (.int x1), some (.int x2)] [.int r_3] h _
    refine g_let (fun j30 ej30 => ?_)
    have hj30 : ∀ (h_3 : zH), zG X ad shX eV 30 [some (.ref (ad g)), some (.int x1), some (.int x2)] [] h_3 (j30 h_3) := by
      intro h_3
      subst ej30
      refine g_aload_n C iX1_join_30 rfl ?_
      refine g_getR (b := (g + 3)) C fX1_18 iX1_join_31 hg.1 rfl ?_
      refine g_iload_n C iX1_join_34 rfl ?_
      refine g_aload_n C iX1_join_35 rfl ?_
      refine g_getR (b := (g + 3)) C fX1_18 iX1_join_36 hg.1 rfl ?_
      refine g_iload_n C iX1_join_39 rfl ?_
      refine g_iaload C iX1_join_40 hg.2.2.2.1 ?_
      refine g_iastore C iX1_join_41 hg.2.2.2.1 (fun h_4 => ?_)
      refine g_goto C 70 iX1_join_42 (by decide) ?_
      exact g_vret C iX1_join_70 rfl
    clear ej30
    refine g_if_eq C 24 iX1_join_13 (by decide) (fun c13 => ?_) (fun c13 => ?_)
    · refine g_aload_n C iX1_join_24 rfl ?_
      refine g_iload_n C iX1_join_25 rfl ?_
      refine g_iload_n C iX1_join_26 rfl ?_
      refine g_callV C wX1_132 iX1_join_27 (m_Gr_copyCounts g hg x2 x1 h) (by decide) hg.1 rfl rfl rfl rfl (Nat.le_of_ble_eq_true rfl) (fun h_5 => ?_)
      show zG X ad shX eV 30 [some (.ref (ad g)), some (.int x1), some (.int x2)] [] h_5 _
      exact hj30 _
    · refine g_aload_n C iX1_join_16 rfl ?_
      refine g_iload_n C iX1_join_17 rfl ?_
      refine g_callV C wX1_70 iX1_join_18 (m_Gr_clearCounts g hg x1 h) (by decide) hg.1 rfl rfl rfl rfl (Nat.le_of_ble_eq_true rfl) (fun h_6 => ?_)
      show zG X ad shX eV 21 [some (.ref (ad g)), some (.int x1), some (.int x2)] [] h_6 _
      refine g_goto C 30 iX1_join_21 (by decide) ?_
      exact hj30 _

theorem iX1_close_62 : zI cX1_close 62 (.invokevirtual 67) 3 65 := ⟨by decide +kernel, rfl⟩
theorem iX1_close_65 : zI cX1_close 65 (.return_) 1 66 := ⟨by decide +kernel, rfl⟩
theorem iX1_close_61 : zI cX1_close 61 (.aload_n 0) 1 62 := ⟨by decide +kernel, rfl⟩
theorem iX1_close_58 : zI cX1_close 58 (.putfield 43) 3 61 := ⟨by decide +kernel, rfl⟩
theorem iX1_close_57 : zI cX1_close 57 (.ior) 1 58 := ⟨by decide +kernel, rfl⟩
theorem iX1_close_56 : zI cX1_close 56 (.ishl) 1 57 := ⟨by decide +kernel, rfl⟩
theorem iX1_close_55 : zI cX1_close 55 (.iload_n 1) 1 56 := ⟨by decide +kernel, rfl⟩
theorem iX1_close_54 : zI cX1_close 54 (.iconst 1) 1 55 := ⟨by decide +kernel, rfl⟩
theorem iX1_close_51 : zI cX1_close 51 (.getfield 43) 3 54 := ⟨by decide +kernel, rfl⟩
theorem iX1_close_50 : zI cX1_close 50 (.dup) 1 51 := ⟨by decide +kernel, rfl⟩
theorem iX1_close_49 : zI cX1_close 49 (.aload_n 0) 1 50 := ⟨by decide +kernel, rfl⟩
theorem iX1_close_32 : zI cX1_close 32 (.if_icmp .eq 17) 3 35 := ⟨by decide +kernel, rfl⟩
theorem iX1_close_38 : zI cX1_close 38 (.invokestatic 93) 3 41 := ⟨by decide +kernel, rfl⟩
set_option maxRecDepth 100000 in
theorem wX1_139 : zMw RX1 139 Lib.Math.max.name Lib.Math.max.code 2 := ⟨(zmem 612 (by decide +kernel) (by decide +kernel)), (zmem 544 (by decide +kernel) (by decide +kernel)), (zmem 75 (by decide +kernel) (by decide +kernel)), (zmem 545 rfl rfl)⟩
theorem iX1_close_43 : zI cX1_close 43 (.invokestatic 139) 3 46 := ⟨by decide +kernel, rfl⟩
set_option maxRecDepth 100000 in
theorem wX1_142 : zCv RX1 142 yX1_join cX1_join 3 none 2 := ⟨⟨(zmem 613 (by decide +kernel) (by decide +kernel)), (zmem 67 (by decide +kernel) (by decide +kernel)), (zmem 616 rfl rfl), ⟨by decide, by decide, by decide +kernel⟩, by decide⟩, (zmem 615 (by decide +kernel) (by decide +kernel)), (zmem 13 (by decide +kernel) (by decide +kernel))⟩
theorem iX1_close_46 : zI cX1_close 46 (.invokevirtual 142) 3 49 := ⟨by decide +kernel, rfl⟩
theorem iX1_close_42 : zI cX1_close 42 (.iload_n 3) 1 43 := ⟨by decide +kernel, rfl⟩
theorem iX1_close_41 : zI cX1_close 41 (.iload_n 2) 1 42 := ⟨by decide +kernel, rfl⟩
theorem iX1_close_37 : zI cX1_close 37 (.iload_n 3) 1 38 := ⟨by decide +kernel, rfl⟩
theorem iX1_close_36 : zI cX1_close 36 (.iload_n 2) 1 37 := ⟨by decide +kernel, rfl⟩
theorem iX1_close_35 : zI cX1_close 35 (.aload_n 0) 1 36 := ⟨by decide +kernel, rfl⟩
theorem iX1_close_31 : zI cX1_close 31 (.iload_n 3) 1 32 := ⟨by decide +kernel, rfl⟩
theorem iX1_close_30 : zI cX1_close 30 (.iload_n 2) 1 31 := ⟨by decide +kernel, rfl⟩
theorem iX1_close_29 : zI cX1_close 29 (.istore_n 3) 1 30 := ⟨by decide +kernel, rfl⟩
theorem iX1_close_28 : zI cX1_close 28 (.iaload) 1 29 := ⟨by decide +kernel, rfl⟩
theorem iX1_close_27 : zI cX1_close 27 (.iaload) 1 28 := ⟨by decide +kernel, rfl⟩
theorem iX1_close_26 : zI cX1_close 26 (.iload_n 1) 1 27 := ⟨by decide +kernel, rfl⟩
theorem iX1_close_23 : zI cX1_close 23 (.getfield 109) 3 26 := ⟨by decide +kernel, rfl⟩
theorem iX1_close_20 : zI cX1_close 20 (.getfield 33) 3 23 := ⟨by decide +kernel, rfl⟩
theorem iX1_close_19 : zI cX1_close 19 (.aload_n 0) 1 20 := ⟨by decide +kernel, rfl⟩
theorem iX1_close_16 : zI cX1_close 16 (.getfield 9) 3 19 := ⟨by decide +kernel, rfl⟩
theorem iX1_close_15 : zI cX1_close 15 (.aload_n 0) 1 16 := ⟨by decide +kernel, rfl⟩
theorem iX1_close_14 : zI cX1_close 14 (.istore_n 2) 1 15 := ⟨by decide +kernel, rfl⟩
theorem iX1_close_13 : zI cX1_close 13 (.iaload) 1 14 := ⟨by decide +kernel, rfl⟩
theorem iX1_close_12 : zI cX1_close 12 (.iaload) 1 13 := ⟨by decide +kernel, rfl⟩
theorem iX1_close_11 : zI cX1_close 11 (.iload_n 1) 1 12 := ⟨by decide +kernel, rfl⟩
theorem iX1_close_8 : zI cX1_close 8 (.getfield 106) 3 11 := ⟨by decide +kernel, rfl⟩
theorem iX1_close_5 : zI cX1_close 5 (.getfield 33) 3 8 := ⟨by decide +kernel, rfl⟩
theorem iX1_close_4 : zI cX1_close 4 (.aload_n 0) 1 5 := ⟨by decide +kernel, rfl⟩
theorem iX1_close_1 : zI cX1_close 1 (.getfield 9) 3 4 := ⟨by decide +kernel, rfl⟩
theorem iX1_close_0 : zI cX1_close 0 (.aload_n 0) 1 1 := ⟨by decide +kernel, rfl⟩
set_option maxHeartbeats 4000000 in
set_option maxRecDepth 100000 in
theorem m_Gr_close (g : Nat) (hg : isG g) (x1 : Int32) (h : zH) : zM yX1_close cX1_close 4 none 4 shX (fun ad => [.ref (ad g), .int x1]) h eV (Gr_close g x1 h) := by
  refine zM.of (by decide) (fun _ => rfl) (fun _ => Nat.le_of_ble_eq_true rfl) (fun X ad hnL C => ?_)
  show zG X ad shX eV 0 [some (.ref (ad g)), some (.int x1), none, none] [] h _
  unfold Gr_close
  refine g_aload_n C iX1_close_0 rfl ?_
  refine g_getR (b := (g + 1)) C fX1_9 iX1_close_1 hg.1 rfl ?_
  refine g_aload_n C iX1_close_4 rfl ?_
  refine g_getR (b := 17) C fX1_33 iX1_close_5 hg.1 rfl ?_
  refine g_getR (b := 18) C fX1_106 iX1_close_8 isP17.1 rfl ?_
  refine g_iload_n C iX1_close_11 rfl ?_
  refine g_iaload C iX1_close_12 isP17.2.1 ?_
  refine g_iaload C iX1_close_13 hg.2.1 ?_
  refine g_top (fun x2 => ?_)
  refine g_istore_n (lv' := [some (.ref (ad g)), some (.int x1), some (.int x2), none]) C hnL iX1_close_14 (by decide) rfl ?_
  refine g_aload_n C iX1_close_15 rfl ?_
  refine g_getR (b := (g + 1)) C fX1_9 iX1_close_16 hg.1 rfl ?_
  refine g_aload_n C iX1_close_19 rfl ?_
  refine g_getR (b := 17) C fX1_33 iX1_close_20 hg.1 rfl ?_
  refine g_getR (b := 19) C fX1_109 iX1_close_23 isP17.1 rfl ?_
  refine g_iload_n C iX1_close_26 rfl ?_
  refine g_iaload C iX1_close_27 isP17.2.2.1 ?_
  refine g_iaload C iX1_close_28 hg.2.1 ?_
  refine g_top (fun x3 => ?_)
  refine g_istore_n (lv' := [some (.ref (ad g)), some (.int x1), some (.int x2), some (.int x3)]) C hnL iX1_close_29 (by decide) rfl ?_
  refine g_iload_n C iX1_close_30 rfl ?_
  refine g_iload_n C iX1_close_31 rfl ?_
  refine g_let (fun j49 ej49 => ?_)
  have hj49 : ∀ (h_1 : zH), zG X ad shX eV 49 [some (.ref (ad g)), some (.int x1), none, none] [] h_1 (j49 h_1) := by
    intro h_1
    subst ej49
    refine g_aload_n C iX1_close_49 rfl ?_
    refine g_dup C iX1_close_50 rfl ?_
    refine g_getI C fX1_43 iX1_close_51 hg.1 rfl ?_
    refine g_iconst C 1 iX1_close_54 (by decide) ?_
    refine g_iload_n C iX1_close_55 rfl ?_
    refine g_ishl C iX1_close_56 ?_
    refine g_ior C iX1_close_57 ?_
    refine g_putI C pX1_43 iX1_close_58 hg.1 rfl (fun h_2 => ?_)
    refine g_aload_n C iX1_close_61 rfl ?_
    refine g_callV C wX1_67 iX1_close_62 (m_Gr_findRoots g hg h_2) (by decide) hg.1 rfl rfl rfl rfl (Nat.le_of_ble_eq_true rfl) (fun h_3 => ?_)
    show zG X ad shX eV 65 [some (.ref (ad g)), some (.int x1), none, none] [] h_3 _
    exact g_vret C iX1_close_65 rfl
  clear ej49
  refine g_icmp_eq C 49 iX1_close_32 (by decide) (fun c32 => ?_) (fun c32 => ?_)
  · refine g_sub (lv' := [some (.ref (ad g)), some (.int x1), none, none]) ⟨rfl, ⟨rfl, trivial⟩⟩ ?_
    exact hj49 _
  · refine g_aload_n C iX1_close_35 rfl ?_
    refine g_iload_n C iX1_close_36 rfl ?_
    refine g_iload_n C iX1_close_37 rfl ?_
    refine g_min C wX1_93 iX1_close_38 (by decide) (Nat.le_of_ble_eq_true rfl) ?_
    refine g_iload_n C iX1_close_41 rfl ?_
    refine g_iload_n C iX1_close_42 rfl ?_
    refine g_max C wX1_139 iX1_close_43 (by decide) (Nat.le_of_ble_eq_true rfl) ?_
    refine g_callV C wX1_142 iX1_close_46 (m_Gr_join g hg (zmin x2 x3) (zmax x2 x3) h) (by decide) hg.1 rfl rfl rfl rfl (Nat.le_of_ble_eq_true rfl) (fun h_4 => ?_)
    show zG X ad shX eV 49 [some (.ref (ad g)), some (.int x1), some (.int x2), some (.int x3)] [] h_4 _
    refine g_sub (lv' := [some (.ref (ad g)), some (.int x1), none, none]) ⟨rfl, ⟨rfl, trivial⟩⟩ ?_
    exact hj49 _

theorem fX2_15 : zFl RX2 15 2 1 := ⟨RX2, TX2, 2, rfl, by decide, (zmem 94 (by decide +kernel) (by decide +kernel)), u_inX2⟩
theorem iX2_add_7 : zI cX2_add 7 (.if_icmp .lt 5) 3 10 := ⟨by decide +kernel, rfl⟩
theorem fX2_9 : zFl RX2 9 2 0 := ⟨RX2, TX2, 2, rfl, by decide, (zmem 92 (by decide +kernel) (by decide +kernel)), u_inX2⟩
theorem pX2_15 : zFp RX2 15 2 1 := ⟨RX2, TX2, 2, rfl, by decide, (zmem 94 (by decide +kernel) (by decide +kernel)), u_inX2, by decide +kernel, by decide +kernel, ⟨tyX2, tyX2_ok⟩, nmX2⟩
theorem iX2_add_33 : zI cX2_add 33 (.ireturn) 1 34 := ⟨by decide +kernel, rfl⟩
theorem iX2_add_32 : zI cX2_add 32 (.iconst 1) 1 33 := ⟨by decide +kernel, rfl⟩
theorem iX2_add_29 : zI cX2_add 29 (.putfield 15) 3 32 := ⟨by decide +kernel, rfl⟩
theorem iX2_add_28 : zI cX2_add 28 (.iadd) 1 29 := ⟨by decide +kernel, rfl⟩
theorem iX2_add_27 : zI cX2_add 27 (.iconst 1) 1 28 := ⟨by decide +kernel, rfl⟩
theorem iX2_add_24 : zI cX2_add 24 (.getfield 15) 3 27 := ⟨by decide +kernel, rfl⟩
theorem iX2_add_23 : zI cX2_add 23 (.dup) 1 24 := ⟨by decide +kernel, rfl⟩
theorem iX2_add_22 : zI cX2_add 22 (.aload_n 0) 1 23 := ⟨by decide +kernel, rfl⟩
theorem iX2_add_21 : zI cX2_add 21 (.iastore) 1 22 := ⟨by decide +kernel, rfl⟩
theorem iX2_add_20 : zI cX2_add 20 (.iload_n 1) 1 21 := ⟨by decide +kernel, rfl⟩
theorem iX2_add_17 : zI cX2_add 17 (.getfield 15) 3 20 := ⟨by decide +kernel, rfl⟩
theorem iX2_add_16 : zI cX2_add 16 (.aload_n 0) 1 17 := ⟨by decide +kernel, rfl⟩
theorem iX2_add_13 : zI cX2_add 13 (.getfield 9) 3 16 := ⟨by decide +kernel, rfl⟩
theorem iX2_add_12 : zI cX2_add 12 (.aload_n 0) 1 13 := ⟨by decide +kernel, rfl⟩
theorem iX2_add_11 : zI cX2_add 11 (.ireturn) 1 12 := ⟨by decide +kernel, rfl⟩
theorem iX2_add_10 : zI cX2_add 10 (.iconst 0) 1 11 := ⟨by decide +kernel, rfl⟩
theorem iX2_add_4 : zI cX2_add 4 (.sipush 200) 3 7 := ⟨by decide +kernel, rfl⟩
theorem iX2_add_1 : zI cX2_add 1 (.getfield 15) 3 4 := ⟨by decide +kernel, rfl⟩
theorem iX2_add_0 : zI cX2_add 0 (.aload_n 0) 1 1 := ⟨by decide +kernel, rfl⟩
set_option maxHeartbeats 4000000 in
set_option maxRecDepth 100000 in
theorem m_Le_add (x1 : Int32) (h : zH) : zM yX2_add cX2_add 2 (some .boolean) 0 shX (fun ad => [.ref (ad 1), .int x1]) h eI (Le_add x1 h) := by
  refine zM.of (by decide) (fun _ => rfl) (fun _ => Nat.le_of_ble_eq_true rfl) (fun X ad hnL C => ?_)
  show zG X ad shX eI 0 [some (.ref (ad 1)), some (.int x1)] [] h _
  unfold Le_add
  refine g_aload_n C iX2_add_0 rfl ?_
  refine g_getI C fX2_15 iX2_add_1 sh1 rfl ?_
  refine g_sipush C 200 iX2_add_4 (by decide) ?_
  refine g_icmp_lt C 12 iX2_add_7 (by decide) (fun c7 => ?_) (fun c7 => ?_)
  · refine g_aload_n C iX2_add_12 rfl ?_
    refine g_getR (b := 2) C fX2_9 iX2_add_13 sh1 rfl ?_
    refine g_aload_n C iX2_add_16 rfl ?_
    refine g_getI C fX2_15 iX2_add_17 sh1 rfl ?_
    refine g_iload_n C iX2_add_20 rfl ?_
    refine g_iastore C iX2_add_21 sh2 (fun h_1 => ?_)
    refine g_aload_n C iX2_add_22 rfl ?_
    refine g_dup C iX2_add_23 rfl ?_
    refine g_getI C fX2_15 iX2_add_24 sh1 rfl ?_
    refine g_iconst C 1 iX2_add_27 (by decide) ?_
    refine g_iadd C iX2_add_28 ?_
    refine g_putI C pX2_15 iX2_add_29 sh1 rfl (fun h_2 => ?_)
    refine g_iconst C 1 iX2_add_32 (by decide) ?_
    exact g_zret C iX2_add_33 rfl rfl
  · refine g_iconst C 0 iX2_add_10 (by decide) ?_
    exact g_zret C iX2_add_11 rfl rfl

theorem iX2_clear_5 : zI cX2_clear 5 (.return_) 1 6 := ⟨by decide +kernel, rfl⟩
theorem iX2_clear_2 : zI cX2_clear 2 (.putfield 15) 3 5 := ⟨by decide +kernel, rfl⟩
theorem iX2_clear_1 : zI cX2_clear 1 (.iconst 0) 1 2 := ⟨by decide +kernel, rfl⟩
theorem iX2_clear_0 : zI cX2_clear 0 (.aload_n 0) 1 1 := ⟨by decide +kernel, rfl⟩
set_option maxHeartbeats 4000000 in
set_option maxRecDepth 100000 in
theorem m_Le_clear (h : zH) : zM yX2_clear cX2_clear 1 none 0 shX (fun ad => [.ref (ad 1)]) h eV (Le_clear h) := by
  refine zM.of (by decide) (fun _ => rfl) (fun _ => Nat.le_of_ble_eq_true rfl) (fun X ad hnL C => ?_)
  show zG X ad shX eV 0 [some (.ref (ad 1))] [] h _
  unfold Le_clear
  refine g_aload_n C iX2_clear_0 rfl ?_
  refine g_iconst C 0 iX2_clear_1 (by decide) ?_
  refine g_putI C pX2_15 iX2_clear_2 sh1 rfl (fun h_1 => ?_)
  exact g_vret C iX2_clear_5 rfl

theorem pX3_20 : zFp RX3 20 3 2 := ⟨RX3, TX3, 3, rfl, by decide, (zmem 294 (by decide +kernel) (by decide +kernel)), u_inX3, by decide +kernel, by decide +kernel, ⟨tyX3, tyX3_ok⟩, nmX3⟩
theorem iX3_clear_5 : zI cX3_clear 5 (.return_) 1 6 := ⟨by decide +kernel, rfl⟩
theorem iX3_clear_2 : zI cX3_clear 2 (.putfield 20) 3 5 := ⟨by decide +kernel, rfl⟩
theorem iX3_clear_1 : zI cX3_clear 1 (.iconst 0) 1 2 := ⟨by decide +kernel, rfl⟩
theorem iX3_clear_0 : zI cX3_clear 0 (.aload_n 0) 1 1 := ⟨by decide +kernel, rfl⟩
set_option maxHeartbeats 4000000 in
set_option maxRecDepth 100000 in
theorem m_Pa_clear (h : zH) : zM yX3_clear cX3_clear 1 none 0 shX (fun ad => [.ref (ad 47)]) h eV (Pa_clear h) := by
  refine zM.of (by decide) (fun _ => rfl) (fun _ => Nat.le_of_ble_eq_true rfl) (fun X ad hnL C => ?_)
  show zG X ad shX eV 0 [some (.ref (ad 47))] [] h _
  unfold Pa_clear
  refine g_aload_n C iX3_clear_0 rfl ?_
  refine g_iconst C 0 iX3_clear_1 (by decide) ?_
  refine g_putI C pX3_20 iX3_clear_2 sh47 rfl (fun h_1 => ?_)
  exact g_vret C iX3_clear_5 rfl

theorem fX3_11 : zFl RX3 11 3 0 := ⟨RX3, TX3, 3, rfl, by decide, (zmem 292 (by decide +kernel) (by decide +kernel)), u_inX3⟩
theorem fX3_24 : zFl RX3 24 3 1 := ⟨RX3, TX3, 3, rfl, by decide, (zmem 293 (by decide +kernel) (by decide +kernel)), u_inX3⟩
set_option maxRecDepth 100000 in
theorem wX3_27 : zCv RX3 27 yX1_copy cX1_copy 2 none 1 := ⟨⟨(zmem 512 (by decide +kernel) (by decide +kernel)), (zmem 67 (by decide +kernel) (by decide +kernel)), (zmem 515 rfl rfl), ⟨by decide, by decide, by decide +kernel⟩, by decide⟩, (zmem 513 (by decide +kernel) (by decide +kernel)), (zmem 514 (by decide +kernel) (by decide +kernel))⟩
theorem iX3_keep_10 : zI cX3_keep 10 (.invokevirtual 27) 3 13 := ⟨by decide +kernel, rfl⟩
theorem pX3_24 : zFp RX3 24 3 1 := ⟨RX3, TX3, 3, rfl, by decide, (zmem 293 (by decide +kernel) (by decide +kernel)), u_inX3, by decide +kernel, by decide +kernel, ⟨tyX3, tyX3_ok⟩, nmX3⟩
theorem fX3_20 : zFl RX3 20 3 2 := ⟨RX3, TX3, 3, rfl, by decide, (zmem 294 (by decide +kernel) (by decide +kernel)), u_inX3⟩
set_option maxRecDepth 100000 in
theorem wX3_31 : zMw RX3 31 Lib.Math.min.name Lib.Math.min.code 2 := ⟨(zmem 516 (by decide +kernel) (by decide +kernel)), (zmem 429 (by decide +kernel) (by decide +kernel)), (zmem 75 (by decide +kernel) (by decide +kernel)), (zmem 430 rfl rfl)⟩
theorem iX3_keep_33 : zI cX3_keep 33 (.invokestatic 31) 3 36 := ⟨by decide +kernel, rfl⟩
theorem iX3_keep_39 : zI cX3_keep 39 (.return_) 1 40 := ⟨by decide +kernel, rfl⟩
theorem iX3_keep_36 : zI cX3_keep 36 (.putfield 20) 3 39 := ⟨by decide +kernel, rfl⟩
theorem iX3_keep_32 : zI cX3_keep 32 (.iconst 4) 1 33 := ⟨by decide +kernel, rfl⟩
theorem iX3_keep_31 : zI cX3_keep 31 (.iadd) 1 32 := ⟨by decide +kernel, rfl⟩
theorem iX3_keep_30 : zI cX3_keep 30 (.iconst 1) 1 31 := ⟨by decide +kernel, rfl⟩
theorem iX3_keep_27 : zI cX3_keep 27 (.getfield 20) 3 30 := ⟨by decide +kernel, rfl⟩
theorem iX3_keep_26 : zI cX3_keep 26 (.aload_n 0) 1 27 := ⟨by decide +kernel, rfl⟩
theorem iX3_keep_25 : zI cX3_keep 25 (.aload_n 0) 1 26 := ⟨by decide +kernel, rfl⟩
theorem iX3_keep_22 : zI cX3_keep 22 (.putfield 24) 3 25 := ⟨by decide +kernel, rfl⟩
theorem iX3_keep_21 : zI cX3_keep 21 (.irem) 1 22 := ⟨by decide +kernel, rfl⟩
theorem iX3_keep_20 : zI cX3_keep 20 (.iconst 4) 1 21 := ⟨by decide +kernel, rfl⟩
theorem iX3_keep_19 : zI cX3_keep 19 (.iadd) 1 20 := ⟨by decide +kernel, rfl⟩
theorem iX3_keep_18 : zI cX3_keep 18 (.iconst 1) 1 19 := ⟨by decide +kernel, rfl⟩
theorem iX3_keep_15 : zI cX3_keep 15 (.getfield 24) 3 18 := ⟨by decide +kernel, rfl⟩
theorem iX3_keep_14 : zI cX3_keep 14 (.aload_n 0) 1 15 := ⟨by decide +kernel, rfl⟩
theorem iX3_keep_13 : zI cX3_keep 13 (.aload_n 0) 1 14 := ⟨by decide +kernel, rfl⟩
theorem iX3_keep_9 : zI cX3_keep 9 (.aload_n 1) 1 10 := ⟨by decide +kernel, rfl⟩
theorem iX3_keep_8 : zI cX3_keep 8 (.aaload) 1 9 := ⟨by decide +kernel, rfl⟩
theorem iX3_keep_5 : zI cX3_keep 5 (.getfield 24) 3 8 := ⟨by decide +kernel, rfl⟩
theorem iX3_keep_4 : zI cX3_keep 4 (.aload_n 0) 1 5 := ⟨by decide +kernel, rfl⟩
theorem iX3_keep_1 : zI cX3_keep 1 (.getfield 11) 3 4 := ⟨by decide +kernel, rfl⟩
theorem iX3_keep_0 : zI cX3_keep 0 (.aload_n 0) 1 1 := ⟨by decide +kernel, rfl⟩
set_option maxHeartbeats 4000000 in
set_option maxRecDepth 100000 in
theorem m_Pa_keep (o : Nat) (ho : isG o) (h : zH) : zM yX3_keep cX3_keep 2 none 3 shX (fun ad => [.ref (ad 47), .ref (ad o)]) h eV (Pa_keep o h) := by
  refine zM.of (by decide) (fun _ => rfl) (fun _ => Nat.le_of_ble_eq_true rfl) (fun X ad hnL C => ?_)
  show zG X ad shX eV 0 [some (.ref (ad 47)), some (.ref (ad o))] [] h _
  unfold Pa_keep
  refine g_aload_n C iX3_keep_0 rfl ?_
  refine g_getR (b := 48) C fX3_11 iX3_keep_1 sh47 rfl ?_
  refine g_aload_n C iX3_keep_4 rfl ?_
  refine g_getI C fX3_24 iX3_keep_5 sh47 rfl ?_
  refine g_aaload (L := [49, 57, 65, 73]) C iX3_keep_8 sh48 (fun c8 => ?_)
  refine g_aload_n C iX3_keep_9 rfl ?_
  refine g_callV C wX3_27 iX3_keep_10 (m_Gr_copy ([49, 57, 65, 73].getD (h 47 1).toNatClampNeg 0) (isG_kept c8) o ho h) (by decide) (isG_kept c8).1 rfl rfl rfl rfl (Nat.le_of_ble_eq_true rfl) (fun h_1 => ?_)
  show zG X ad shX eV 13 [some (.ref (ad 47)), some (.ref (ad o))] [] h_1 _
  refine g_aload_n C iX3_keep_13 rfl ?_
  refine g_aload_n C iX3_keep_14 rfl ?_
  refine g_getI C fX3_24 iX3_keep_15 sh47 rfl ?_
  refine g_iconst C 1 iX3_keep_18 (by decide) ?_
  refine g_iadd C iX3_keep_19 ?_
  refine g_iconst C 4 iX3_keep_20 (by decide) ?_
  refine g_iremL C iX3_keep_21 (by decide) ?_
  refine g_putI C pX3_24 iX3_keep_22 sh47 rfl (fun h_2 => ?_)
  refine g_aload_n C iX3_keep_25 rfl ?_
  refine g_aload_n C iX3_keep_26 rfl ?_
  refine g_getI C fX3_20 iX3_keep_27 sh47 rfl ?_
  refine g_iconst C 1 iX3_keep_30 (by decide) ?_
  refine g_iadd C iX3_keep_31 ?_
  refine g_iconst C 4 iX3_keep_32 (by decide) ?_
  refine g_min C wX3_31 iX3_keep_33 (by decide) (Nat.le_of_ble_eq_true rfl) ?_
  refine g_putI C pX3_20 iX3_keep_36 sh47 rfl (fun h_3 => ?_)
  exact g_vret C iX3_keep_39 rfl

theorem iX3_giveBack_34 : zI cX3_giveBack 34 (.invokevirtual 27) 3 37 := ⟨by decide +kernel, rfl⟩
theorem iX3_giveBack_37 : zI cX3_giveBack 37 (.return_) 1 38 := ⟨by decide +kernel, rfl⟩
theorem iX3_giveBack_33 : zI cX3_giveBack 33 (.aaload) 1 34 := ⟨by decide +kernel, rfl⟩
theorem iX3_giveBack_30 : zI cX3_giveBack 30 (.getfield 24) 3 33 := ⟨by decide +kernel, rfl⟩
theorem iX3_giveBack_29 : zI cX3_giveBack 29 (.aload_n 0) 1 30 := ⟨by decide +kernel, rfl⟩
theorem iX3_giveBack_26 : zI cX3_giveBack 26 (.getfield 11) 3 29 := ⟨by decide +kernel, rfl⟩
theorem iX3_giveBack_25 : zI cX3_giveBack 25 (.aload_n 0) 1 26 := ⟨by decide +kernel, rfl⟩
theorem iX3_giveBack_24 : zI cX3_giveBack 24 (.aload_n 1) 1 25 := ⟨by decide +kernel, rfl⟩
theorem iX3_giveBack_21 : zI cX3_giveBack 21 (.putfield 20) 3 24 := ⟨by decide +kernel, rfl⟩
theorem iX3_giveBack_20 : zI cX3_giveBack 20 (.isub) 1 21 := ⟨by decide +kernel, rfl⟩
theorem iX3_giveBack_19 : zI cX3_giveBack 19 (.iconst 1) 1 20 := ⟨by decide +kernel, rfl⟩
theorem iX3_giveBack_16 : zI cX3_giveBack 16 (.getfield 20) 3 19 := ⟨by decide +kernel, rfl⟩
theorem iX3_giveBack_15 : zI cX3_giveBack 15 (.dup) 1 16 := ⟨by decide +kernel, rfl⟩
theorem iX3_giveBack_14 : zI cX3_giveBack 14 (.aload_n 0) 1 15 := ⟨by decide +kernel, rfl⟩
theorem iX3_giveBack_11 : zI cX3_giveBack 11 (.putfield 24) 3 14 := ⟨by decide +kernel, rfl⟩
theorem iX3_giveBack_10 : zI cX3_giveBack 10 (.irem) 1 11 := ⟨by decide +kernel, rfl⟩
theorem iX3_giveBack_9 : zI cX3_giveBack 9 (.iconst 4) 1 10 := ⟨by decide +kernel, rfl⟩
theorem iX3_giveBack_8 : zI cX3_giveBack 8 (.isub) 1 9 := ⟨by decide +kernel, rfl⟩
theorem iX3_giveBack_7 : zI cX3_giveBack 7 (.iconst 1) 1 8 := ⟨by decide +kernel, rfl⟩
theorem iX3_giveBack_6 : zI cX3_giveBack 6 (.iadd) 1 7 := ⟨by decide +kernel, rfl⟩
theorem iX3_giveBack_5 : zI cX3_giveBack 5 (.iconst 4) 1 6 := ⟨by decide +kernel, rfl⟩
theorem iX3_giveBack_2 : zI cX3_giveBack 2 (.getfield 24) 3 5 := ⟨by decide +kernel, rfl⟩
theorem iX3_giveBack_1 : zI cX3_giveBack 1 (.aload_n 0) 1 2 := ⟨by decide +kernel, rfl⟩
theorem iX3_giveBack_0 : zI cX3_giveBack 0 (.aload_n 0) 1 1 := ⟨by decide +kernel, rfl⟩
set_option maxHeartbeats 4000000 in
set_option maxRecDepth 100000 in
theorem m_Pa_giveBack (o : Nat) (ho : isG o) (h : zH) : zM yX3_giveBack cX3_giveBack 2 none 3 shX (fun ad => [.ref (ad 47), .ref (ad o)]) h eV (Pa_giveBack o h) := by
  refine zM.of (by decide) (fun _ => rfl) (fun _ => Nat.le_of_ble_eq_true rfl) (fun X ad hnL C => ?_)
  show zG X ad shX eV 0 [some (.ref (ad 47)), some (.ref (ad o))] [] h _
  unfold Pa_giveBack
  refine g_aload_n C iX3_giveBack_0 rfl ?_
  refine g_aload_n C iX3_giveBack_1 rfl ?_
  refine g_getI C fX3_24 iX3_giveBack_2 sh47 rfl ?_
  refine g_iconst C 4 iX3_giveBack_5 (by decide) ?_
  refine g_iadd C iX3_giveBack_6 ?_
  refine g_iconst C 1 iX3_giveBack_7 (by decide) ?_
  refine g_isub C iX3_giveBack_8 ?_
  refine g_iconst C 4 iX3_giveBack_9 (by decide) ?_
  refine g_iremL C iX3_giveBack_10 (by decide) ?_
  refine g_putI C pX3_24 iX3_giveBack_11 sh47 rfl (fun h_1 => ?_)
  refine g_aload_n C iX3_giveBack_14 rfl ?_
  refine g_dup C iX3_giveBack_15 rfl ?_
  refine g_getI C fX3_20 iX3_giveBack_16 sh47 rfl ?_
  refine g_iconst C 1 iX3_giveBack_19 (by decide) ?_
  refine g_isub C iX3_giveBack_20 ?_
  refine g_putI C pX3_20 iX3_giveBack_21 sh47 rfl (fun h_2 => ?_)
  refine g_aload_n C iX3_giveBack_24 rfl ?_
  refine g_aload_n C iX3_giveBack_25 rfl ?_
  refine g_getR (b := 48) C fX3_11 iX3_giveBack_26 sh47 rfl ?_
  refine g_aload_n C iX3_giveBack_29 rfl ?_
  refine g_getI C fX3_24 iX3_giveBack_30 sh47 rfl ?_
  refine g_aaload (L := [49, 57, 65, 73]) C iX3_giveBack_33 sh48 (fun c33 => ?_)
  refine g_callV C wX3_27 iX3_giveBack_34 (m_Gr_copy o ho ([49, 57, 65, 73].getD (h_2 47 1).toNatClampNeg 0) (isG_kept c33) h_2) (by decide) ho.1 rfl rfl rfl rfl (Nat.le_of_ble_eq_true rfl) (fun h_3 => ?_)
  show zG X ad shX eV 37 [some (.ref (ad 47)), some (.ref (ad o))] [] h_3 _
  exact g_vret C iX3_giveBack_37 rfl

theorem pX4_45 : zFp RX4 45 4 0 := ⟨RX4, TX4, 16, rfl, by decide, (zmem 119 (by decide +kernel) (by decide +kernel)), u_inX4, by decide +kernel, by decide +kernel, ⟨tyX4, tyX4_ok⟩, nmX4⟩
theorem pX4_49 : zFp RX4 49 4 1 := ⟨RX4, TX4, 16, rfl, by decide, (zmem 123 (by decide +kernel) (by decide +kernel)), u_inX4, by decide +kernel, by decide +kernel, ⟨tyX4, tyX4_ok⟩, nmX4⟩
theorem pX4_52 : zFp RX4 52 4 2 := ⟨RX4, TX4, 16, rfl, by decide, (zmem 126 (by decide +kernel) (by decide +kernel)), u_inX4, by decide +kernel, by decide +kernel, ⟨tyX4, tyX4_ok⟩, nmX4⟩
theorem pX4_55 : zFp RX4 55 4 3 := ⟨RX4, TX4, 16, rfl, by decide, (zmem 130 (by decide +kernel) (by decide +kernel)), u_inX4, by decide +kernel, by decide +kernel, ⟨tyX4, tyX4_ok⟩, nmX4⟩
theorem pX4_58 : zFp RX4 58 4 4 := ⟨RX4, TX4, 16, rfl, by decide, (zmem 134 (by decide +kernel) (by decide +kernel)), u_inX4, by decide +kernel, by decide +kernel, ⟨tyX4, tyX4_ok⟩, nmX4⟩
theorem fX4_39 : zFl RX4 39 4 14 := ⟨RX4, TX4, 16, rfl, by decide, (zmem 160 (by decide +kernel) (by decide +kernel)), u_inX4⟩
theorem fX4_42 : zFl RX4 42 4 15 := ⟨RX4, TX4, 16, rfl, by decide, (zmem 162 (by decide +kernel) (by decide +kernel)), u_inX4⟩
theorem iX4_clear_41 : zI cX4_clear 41 (.return_) 1 42 := ⟨by decide +kernel, rfl⟩
theorem iX4_clear_40 : zI cX4_clear 40 (.iastore) 1 41 := ⟨by decide +kernel, rfl⟩
theorem iX4_clear_39 : zI cX4_clear 39 (.iconst 4) 1 40 := ⟨by decide +kernel, rfl⟩
theorem iX4_clear_38 : zI cX4_clear 38 (.iconst 0) 1 39 := ⟨by decide +kernel, rfl⟩
theorem iX4_clear_35 : zI cX4_clear 35 (.getfield 42) 3 38 := ⟨by decide +kernel, rfl⟩
theorem iX4_clear_34 : zI cX4_clear 34 (.aload_n 0) 1 35 := ⟨by decide +kernel, rfl⟩
theorem iX4_clear_33 : zI cX4_clear 33 (.iastore) 1 34 := ⟨by decide +kernel, rfl⟩
theorem iX4_clear_30 : zI cX4_clear 30 (.sipush 4980) 3 33 := ⟨by decide +kernel, rfl⟩
theorem iX4_clear_29 : zI cX4_clear 29 (.iconst 0) 1 30 := ⟨by decide +kernel, rfl⟩
theorem iX4_clear_26 : zI cX4_clear 26 (.getfield 39) 3 29 := ⟨by decide +kernel, rfl⟩
theorem iX4_clear_25 : zI cX4_clear 25 (.aload_n 0) 1 26 := ⟨by decide +kernel, rfl⟩
theorem iX4_clear_22 : zI cX4_clear 22 (.putfield 58) 3 25 := ⟨by decide +kernel, rfl⟩
theorem iX4_clear_21 : zI cX4_clear 21 (.iconst 0) 1 22 := ⟨by decide +kernel, rfl⟩
theorem iX4_clear_20 : zI cX4_clear 20 (.aload_n 0) 1 21 := ⟨by decide +kernel, rfl⟩
theorem iX4_clear_17 : zI cX4_clear 17 (.putfield 55) 3 20 := ⟨by decide +kernel, rfl⟩
theorem iX4_clear_16 : zI cX4_clear 16 (.iconst 0) 1 17 := ⟨by decide +kernel, rfl⟩
theorem iX4_clear_15 : zI cX4_clear 15 (.aload_n 0) 1 16 := ⟨by decide +kernel, rfl⟩
theorem iX4_clear_12 : zI cX4_clear 12 (.putfield 52) 3 15 := ⟨by decide +kernel, rfl⟩
theorem iX4_clear_11 : zI cX4_clear 11 (.iconst 0) 1 12 := ⟨by decide +kernel, rfl⟩
theorem iX4_clear_10 : zI cX4_clear 10 (.aload_n 0) 1 11 := ⟨by decide +kernel, rfl⟩
theorem iX4_clear_7 : zI cX4_clear 7 (.putfield 49) 3 10 := ⟨by decide +kernel, rfl⟩
theorem iX4_clear_6 : zI cX4_clear 6 (.iconst 0) 1 7 := ⟨by decide +kernel, rfl⟩
theorem iX4_clear_5 : zI cX4_clear 5 (.aload_n 0) 1 6 := ⟨by decide +kernel, rfl⟩
theorem iX4_clear_2 : zI cX4_clear 2 (.putfield 45) 3 5 := ⟨by decide +kernel, rfl⟩
theorem iX4_clear_1 : zI cX4_clear 1 (.iconst 0) 1 2 := ⟨by decide +kernel, rfl⟩
theorem iX4_clear_0 : zI cX4_clear 0 (.aload_n 0) 1 1 := ⟨by decide +kernel, rfl⟩
set_option maxHeartbeats 4000000 in
set_option maxRecDepth 100000 in
theorem m_Pl_clear (p : Nat) (hp : isP p) (h : zH) : zM yX4_clear cX4_clear 1 none 0 shX (fun ad => [.ref (ad p)]) h eV (Pl_clear p h) := by
  refine zM.of (by decide) (fun _ => rfl) (fun _ => Nat.le_of_ble_eq_true rfl) (fun X ad hnL C => ?_)
  show zG X ad shX eV 0 [some (.ref (ad p))] [] h _
  unfold Pl_clear
  refine g_aload_n C iX4_clear_0 rfl ?_
  refine g_iconst C 0 iX4_clear_1 (by decide) ?_
  refine g_putI C pX4_45 iX4_clear_2 hp.1 rfl (fun h_1 => ?_)
  refine g_aload_n C iX4_clear_5 rfl ?_
  refine g_iconst C 0 iX4_clear_6 (by decide) ?_
  refine g_putI C pX4_49 iX4_clear_7 hp.1 rfl (fun h_2 => ?_)
  refine g_aload_n C iX4_clear_10 rfl ?_
  refine g_iconst C 0 iX4_clear_11 (by decide) ?_
  refine g_putI C pX4_52 iX4_clear_12 hp.1 rfl (fun h_3 => ?_)
  refine g_aload_n C iX4_clear_15 rfl ?_
  refine g_iconst C 0 iX4_clear_16 (by decide) ?_
  refine g_putI C pX4_55 iX4_clear_17 hp.1 rfl (fun h_4 => ?_)
  refine g_aload_n C iX4_clear_20 rfl ?_
  refine g_iconst C 0 iX4_clear_21 (by decide) ?_
  refine g_putI C pX4_58 iX4_clear_22 hp.1 rfl (fun h_5 => ?_)
  refine g_aload_n C iX4_clear_25 rfl ?_
  refine g_getR (b := (p + 10)) C fX4_39 iX4_clear_26 hp.1 rfl ?_
  refine g_iconst C 0 iX4_clear_29 (by decide) ?_
  refine g_sipush C 4980 iX4_clear_30 (by decide) ?_
  refine g_iastoreL C 0 iX4_clear_33 hp.2.2.2.2.2.2.2.2.2.2.1 (by decide) (by decide) (fun h_6 => ?_)
  refine g_aload_n C iX4_clear_34 rfl ?_
  refine g_getR (b := (p + 11)) C fX4_42 iX4_clear_35 hp.1 rfl ?_
  refine g_iconst C 0 iX4_clear_38 (by decide) ?_
  refine g_iconst C 4 iX4_clear_39 (by decide) ?_
  refine g_iastoreL C 0 iX4_clear_40 hp.2.2.2.2.2.2.2.2.2.2.2 (by decide) (by decide) (fun h_7 => ?_)
  exact g_vret C iX4_clear_41 rfl

theorem iX4_isBus_1 : zI cX4_isBus 1 (.ifCond .lt 15) 3 4 := ⟨by decide +kernel, rfl⟩
theorem iX4_isBus_17 : zI cX4_isBus 17 (.ireturn) 1 18 := ⟨by decide +kernel, rfl⟩
theorem iX4_isBus_16 : zI cX4_isBus 16 (.iconst 0) 1 17 := ⟨by decide +kernel, rfl⟩
theorem fX4_45 : zFl RX4 45 4 0 := ⟨RX4, TX4, 16, rfl, by decide, (zmem 119 (by decide +kernel) (by decide +kernel)), u_inX4⟩
theorem iX4_isBus_9 : zI cX4_isBus 9 (.if_icmp .ge 7) 3 12 := ⟨by decide +kernel, rfl⟩
theorem iX4_isBus_13 : zI cX4_isBus 13 (.goto 4) 3 16 := ⟨by decide +kernel, rfl⟩
theorem iX4_isBus_12 : zI cX4_isBus 12 (.iconst 1) 1 13 := ⟨by decide +kernel, rfl⟩
theorem iX4_isBus_6 : zI cX4_isBus 6 (.getfield 45) 3 9 := ⟨by decide +kernel, rfl⟩
theorem iX4_isBus_5 : zI cX4_isBus 5 (.aload_n 0) 1 6 := ⟨by decide +kernel, rfl⟩
theorem iX4_isBus_4 : zI cX4_isBus 4 (.iload_n 1) 1 5 := ⟨by decide +kernel, rfl⟩
theorem iX4_isBus_0 : zI cX4_isBus 0 (.iload_n 1) 1 1 := ⟨by decide +kernel, rfl⟩
set_option maxHeartbeats 4000000 in
set_option maxRecDepth 100000 in
theorem m_Pl_isBus (p : Nat) (hp : isP p) (x1 : Int32) (h : zH) : zM yX4_isBus cX4_isBus 2 (some .boolean) 0 shX (fun ad => [.ref (ad p), .int x1]) h (eP h) (Pl_isBus p x1 h) := by
  refine zM.of (by decide) (fun _ => rfl) (fun _ => Nat.le_of_ble_eq_true rfl) (fun X ad hnL C => ?_)
  show zG X ad shX (eP h) 0 [some (.ref (ad p)), some (.int x1)] [] h _
  unfold Pl_isBus
  refine g_iload_n C iX4_isBus_0 rfl ?_
  refine g_if_lt C 16 iX4_isBus_1 (by decide) (fun c1 => ?_) (fun c1 => ?_)
  · refine g_iconst C 0 iX4_isBus_16 (by decide) ?_
    exact g_zret C iX4_isBus_17 rfl rfl
  · refine g_iload_n C iX4_isBus_4 rfl ?_
    refine g_aload_n C iX4_isBus_5 rfl ?_
    refine g_getI C fX4_45 iX4_isBus_6 hp.1 rfl ?_
    refine g_icmp_ge C 16 iX4_isBus_9 (by decide) (fun c9 => ?_) (fun c9 => ?_)
    · refine g_iconst C 0 iX4_isBus_16 (by decide) ?_
      exact g_zret C iX4_isBus_17 rfl rfl
    · refine g_iconst C 1 iX4_isBus_12 (by decide) ?_
      refine g_goto C 17 iX4_isBus_13 (by decide) ?_
      exact g_zret C iX4_isBus_17 rfl rfl

theorem iX4_isRow_1 : zI cX4_isRow 1 (.ifCond .lt 15) 3 4 := ⟨by decide +kernel, rfl⟩
theorem iX4_isRow_17 : zI cX4_isRow 17 (.ireturn) 1 18 := ⟨by decide +kernel, rfl⟩
theorem iX4_isRow_16 : zI cX4_isRow 16 (.iconst 0) 1 17 := ⟨by decide +kernel, rfl⟩
theorem fX4_58 : zFl RX4 58 4 4 := ⟨RX4, TX4, 16, rfl, by decide, (zmem 134 (by decide +kernel) (by decide +kernel)), u_inX4⟩
theorem iX4_isRow_9 : zI cX4_isRow 9 (.if_icmp .gt 7) 3 12 := ⟨by decide +kernel, rfl⟩
theorem iX4_isRow_13 : zI cX4_isRow 13 (.goto 4) 3 16 := ⟨by decide +kernel, rfl⟩
theorem iX4_isRow_12 : zI cX4_isRow 12 (.iconst 1) 1 13 := ⟨by decide +kernel, rfl⟩
theorem iX4_isRow_6 : zI cX4_isRow 6 (.getfield 58) 3 9 := ⟨by decide +kernel, rfl⟩
theorem iX4_isRow_5 : zI cX4_isRow 5 (.aload_n 0) 1 6 := ⟨by decide +kernel, rfl⟩
theorem iX4_isRow_4 : zI cX4_isRow 4 (.iload_n 1) 1 5 := ⟨by decide +kernel, rfl⟩
theorem iX4_isRow_0 : zI cX4_isRow 0 (.iload_n 1) 1 1 := ⟨by decide +kernel, rfl⟩
set_option maxHeartbeats 4000000 in
set_option maxRecDepth 100000 in
theorem m_Pl_isRow (p : Nat) (hp : isP p) (x1 : Int32) (h : zH) : zM yX4_isRow cX4_isRow 2 (some .boolean) 0 shX (fun ad => [.ref (ad p), .int x1]) h (eP h) (Pl_isRow p x1 h) := by
  refine zM.of (by decide) (fun _ => rfl) (fun _ => Nat.le_of_ble_eq_true rfl) (fun X ad hnL C => ?_)
  show zG X ad shX (eP h) 0 [some (.ref (ad p)), some (.int x1)] [] h _
  unfold Pl_isRow
  refine g_iload_n C iX4_isRow_0 rfl ?_
  refine g_if_lt C 16 iX4_isRow_1 (by decide) (fun c1 => ?_) (fun c1 => ?_)
  · refine g_iconst C 0 iX4_isRow_16 (by decide) ?_
    exact g_zret C iX4_isRow_17 rfl rfl
  · refine g_iload_n C iX4_isRow_4 rfl ?_
    refine g_aload_n C iX4_isRow_5 rfl ?_
    refine g_getI C fX4_58 iX4_isRow_6 hp.1 rfl ?_
    refine g_icmp_gt C 16 iX4_isRow_9 (by decide) (fun c9 => ?_) (fun c9 => ?_)
    · refine g_iconst C 0 iX4_isRow_16 (by decide) ?_
      exact g_zret C iX4_isRow_17 rfl rfl
    · refine g_iconst C 1 iX4_isRow_12 (by decide) ?_
      refine g_goto C 17 iX4_isRow_13 (by decide) ?_
      exact g_zret C iX4_isRow_17 rfl rfl

theorem iX4_isFrom_2 : zI cX4_isFrom 2 (.if_icmp .lt 12) 3 5 := ⟨by decide +kernel, rfl⟩
theorem iX4_isFrom_15 : zI cX4_isFrom 15 (.ireturn) 1 16 := ⟨by decide +kernel, rfl⟩
theorem iX4_isFrom_14 : zI cX4_isFrom 14 (.iconst 0) 1 15 := ⟨by decide +kernel, rfl⟩
theorem iX4_isFrom_7 : zI cX4_isFrom 7 (.if_icmp .gt 7) 3 10 := ⟨by decide +kernel, rfl⟩
theorem iX4_isFrom_11 : zI cX4_isFrom 11 (.goto 4) 3 14 := ⟨by decide +kernel, rfl⟩
theorem iX4_isFrom_10 : zI cX4_isFrom 10 (.iconst 1) 1 11 := ⟨by decide +kernel, rfl⟩
theorem iX4_isFrom_6 : zI cX4_isFrom 6 (.iload_n 2) 1 7 := ⟨by decide +kernel, rfl⟩
theorem iX4_isFrom_5 : zI cX4_isFrom 5 (.iload_n 0) 1 6 := ⟨by decide +kernel, rfl⟩
theorem iX4_isFrom_1 : zI cX4_isFrom 1 (.iload_n 1) 1 2 := ⟨by decide +kernel, rfl⟩
theorem iX4_isFrom_0 : zI cX4_isFrom 0 (.iload_n 0) 1 1 := ⟨by decide +kernel, rfl⟩
set_option maxHeartbeats 4000000 in
set_option maxRecDepth 100000 in
theorem m_Pl_isFrom (x0 : Int32) (x1 : Int32) (x2 : Int32) (h : zH) : zM yX4_isFrom cX4_isFrom 3 (some .boolean) 0 shX (fun ad => [.int x0, .int x1, .int x2]) h (eP h) (Pl_isFrom x0 x1 x2) := by
  refine zM.of (by decide) (fun _ => rfl) (fun _ => Nat.le_of_ble_eq_true rfl) (fun X ad hnL C => ?_)
  show zG X ad shX (eP h) 0 [some (.int x0), some (.int x1), some (.int x2)] [] h _
  unfold Pl_isFrom
  refine g_iload_n C iX4_isFrom_0 rfl ?_
  refine g_iload_n C iX4_isFrom_1 rfl ?_
  refine g_icmp_lt C 14 iX4_isFrom_2 (by decide) (fun c2 => ?_) (fun c2 => ?_)
  · refine g_iconst C 0 iX4_isFrom_14 (by decide) ?_
    exact g_zret C iX4_isFrom_15 rfl rfl
  · refine g_iload_n C iX4_isFrom_5 rfl ?_
    refine g_iload_n C iX4_isFrom_6 rfl ?_
    refine g_icmp_gt C 14 iX4_isFrom_7 (by decide) (fun c7 => ?_) (fun c7 => ?_)
    · refine g_iconst C 0 iX4_isFrom_14 (by decide) ?_
      exact g_zret C iX4_isFrom_15 rfl rfl
    · refine g_iconst C 1 iX4_isFrom_10 (by decide) ?_
      refine g_goto C 15 iX4_isFrom_11 (by decide) ?_
      exact g_zret C iX4_isFrom_15 rfl rfl

theorem iX4_isMark_1 : zI cX4_isMark 1 (.ifCond .ne 16) 3 4 := ⟨by decide +kernel, rfl⟩
set_option maxRecDepth 100000 in
theorem wX4_61 : zCs RX4 61 yX4_isFrom cX4_isFrom 3 (some .boolean) 3 := ⟨⟨(zmem 376 (by decide +kernel) (by decide +kernel)), (zmem 66 (by decide +kernel) (by decide +kernel)), (zmem 378 rfl rfl), ⟨by decide, by decide, by decide +kernel⟩, by decide⟩, (zmem 377 (by decide +kernel) (by decide +kernel))⟩
theorem iX4_isMark_24 : zI cX4_isMark 24 (.invokestatic 61) 3 27 := ⟨by decide +kernel, rfl⟩
theorem iX4_isMark_27 : zI cX4_isMark 27 (.ireturn) 1 28 := ⟨by decide +kernel, rfl⟩
theorem iX4_isMark_21 : zI cX4_isMark 21 (.sipush 4999) 3 24 := ⟨by decide +kernel, rfl⟩
theorem iX4_isMark_18 : zI cX4_isMark 18 (.sipush 4700) 3 21 := ⟨by decide +kernel, rfl⟩
theorem iX4_isMark_17 : zI cX4_isMark 17 (.iload_n 1) 1 18 := ⟨by decide +kernel, rfl⟩
theorem iX4_isMark_11 : zI cX4_isMark 11 (.invokestatic 61) 3 14 := ⟨by decide +kernel, rfl⟩
theorem iX4_isMark_14 : zI cX4_isMark 14 (.goto 13) 3 17 := ⟨by decide +kernel, rfl⟩
theorem iX4_isMark_8 : zI cX4_isMark 8 (.sipush 5000) 3 11 := ⟨by decide +kernel, rfl⟩
theorem iX4_isMark_5 : zI cX4_isMark 5 (.sipush 4900) 3 8 := ⟨by decide +kernel, rfl⟩
theorem iX4_isMark_4 : zI cX4_isMark 4 (.iload_n 1) 1 5 := ⟨by decide +kernel, rfl⟩
theorem iX4_isMark_0 : zI cX4_isMark 0 (.iload_n 0) 1 1 := ⟨by decide +kernel, rfl⟩
set_option maxHeartbeats 4000000 in
set_option maxRecDepth 100000 in
theorem m_Pl_isMark (x0 : Int32) (x1 : Int32) (h : zH) : zM yX4_isMark cX4_isMark 2 (some .boolean) 1 shX (fun ad => [.int x0, .int x1]) h (eP h) (Pl_isMark x0 x1) := by
  refine zM.of (by decide) (fun _ => rfl) (fun _ => Nat.le_of_ble_eq_true rfl) (fun X ad hnL C => ?_)
  show zG X ad shX (eP h) 0 [some (.int x0), some (.int x1)] [] h _
  unfold Pl_isMark
  refine g_iload_n C iX4_isMark_0 rfl ?_
  refine g_if_ne C 17 iX4_isMark_1 (by decide) (fun c1 => ?_) (fun c1 => ?_)
  · refine g_iload_n C iX4_isMark_4 rfl ?_
    refine g_sipush C 4900 iX4_isMark_5 (by decide) ?_
    refine g_sipush C 5000 iX4_isMark_8 (by decide) ?_
    refine g_callS C wX4_61 iX4_isMark_11 (m_Pl_isFrom x1 4900 5000 h) (by decide) rfl rfl rfl (Nat.le_of_ble_eq_true rfl) (fun r_1 => ?_)
    show zG X ad shX (eP h) 14 [some (.int x0), some (.int x1)] [.int r_1] h _
    refine g_goto C 27 iX4_isMark_14 (by decide) ?_
    exact g_zretG C iX4_isMark_27 rfl
  · refine g_iload_n C iX4_isMark_17 rfl ?_
    refine g_sipush C 4700 iX4_isMark_18 (by decide) ?_
    refine g_sipush C 4999 iX4_isMark_21 (by decide) ?_
    refine g_callS C wX4_61 iX4_isMark_24 (m_Pl_isFrom x1 4700 4999 h) (by decide) rfl rfl rfl (Nat.le_of_ble_eq_true rfl) (fun r => ?_)
    show zG X ad shX (eP h) 27 [some (.int x0), some (.int x1)] [.int r] h _
    exact g_zretG C iX4_isMark_27 rfl

theorem iX4_addBuses_4 : zI cX4_addBuses 4 (.ifCond .gt 13) 3 7 := ⟨by decide +kernel, rfl⟩
theorem iX4_addBuses_18 : zI cX4_addBuses 18 (.ireturn) 1 19 := ⟨by decide +kernel, rfl⟩
theorem iX4_addBuses_17 : zI cX4_addBuses 17 (.iconst 0) 1 18 := ⟨by decide +kernel, rfl⟩
theorem iX4_addBuses_11 : zI cX4_addBuses 11 (.invokestatic 61) 3 14 := ⟨by decide +kernel, rfl⟩
theorem iX4_addBuses_14 : zI cX4_addBuses 14 (.ifCond .ne 5) 3 17 := ⟨by decide +kernel, rfl⟩
theorem iX4_addBuses_25 : zI cX4_addBuses 25 (.ireturn) 1 26 := ⟨by decide +kernel, rfl⟩
theorem iX4_addBuses_24 : zI cX4_addBuses 24 (.iconst 1) 1 25 := ⟨by decide +kernel, rfl⟩
theorem iX4_addBuses_21 : zI cX4_addBuses 21 (.putfield 45) 3 24 := ⟨by decide +kernel, rfl⟩
theorem iX4_addBuses_20 : zI cX4_addBuses 20 (.iload_n 1) 1 21 := ⟨by decide +kernel, rfl⟩
theorem iX4_addBuses_19 : zI cX4_addBuses 19 (.aload_n 0) 1 20 := ⟨by decide +kernel, rfl⟩
theorem iX4_addBuses_9 : zI cX4_addBuses 9 (.bipush 6) 2 11 := ⟨by decide +kernel, rfl⟩
theorem iX4_addBuses_8 : zI cX4_addBuses 8 (.iconst 1) 1 9 := ⟨by decide +kernel, rfl⟩
theorem iX4_addBuses_7 : zI cX4_addBuses 7 (.iload_n 1) 1 8 := ⟨by decide +kernel, rfl⟩
theorem iX4_addBuses_1 : zI cX4_addBuses 1 (.getfield 45) 3 4 := ⟨by decide +kernel, rfl⟩
theorem iX4_addBuses_0 : zI cX4_addBuses 0 (.aload_n 0) 1 1 := ⟨by decide +kernel, rfl⟩
set_option maxHeartbeats 4000000 in
set_option maxRecDepth 100000 in
theorem m_Pl_addBuses (p : Nat) (hp : isP p) (x1 : Int32) (h : zH) : zM yX4_addBuses cX4_addBuses 2 (some .boolean) 1 shX (fun ad => [.ref (ad p), .int x1]) h eI (Pl_addBuses p x1 h) := by
  refine zM.of (by decide) (fun _ => rfl) (fun _ => Nat.le_of_ble_eq_true rfl) (fun X ad hnL C => ?_)
  show zG X ad shX eI 0 [some (.ref (ad p)), some (.int x1)] [] h _
  unfold Pl_addBuses
  refine g_aload_n C iX4_addBuses_0 rfl ?_
  refine g_getI C fX4_45 iX4_addBuses_1 hp.1 rfl ?_
  refine g_if_gt C 17 iX4_addBuses_4 (by decide) (fun c4 => ?_) (fun c4 => ?_)
  · refine g_iconst C 0 iX4_addBuses_17 (by decide) ?_
    exact g_zret C iX4_addBuses_18 rfl rfl
  · refine g_iload_n C iX4_addBuses_7 rfl ?_
    refine g_iconst C 1 iX4_addBuses_8 (by decide) ?_
    refine g_bipush C 6 iX4_addBuses_9 (by decide) ?_
    refine g_callS C wX4_61 iX4_addBuses_11 (m_Pl_isFrom x1 1 6 h) (by decide) rfl rfl rfl (Nat.le_of_ble_eq_true rfl) (fun r => ?_)
    show zG X ad shX eI 14 [some (.ref (ad p)), some (.int x1)] [.int r] h _
    refine g_if_ne C 19 iX4_addBuses_14 (by decide) (fun c14 => ?_) (fun c14 => ?_)
    · refine g_iconst C 0 iX4_addBuses_17 (by decide) ?_
      exact g_zret C iX4_addBuses_18 rfl rfl
    · refine g_aload_n C iX4_addBuses_19 rfl ?_
      refine g_iload_n C iX4_addBuses_20 rfl ?_
      refine g_putI C pX4_45 iX4_addBuses_21 hp.1 rfl (fun h_1 => ?_)
      refine g_iconst C 1 iX4_addBuses_24 (by decide) ?_
      exact g_zret C iX4_addBuses_25 rfl rfl

