/-! THE LAW, from its entry -/
theorem insX0 : Cond.instantiable RX0 5 ∈ zWd := (zmem 259 (by decide +kernel) (by decide +kernel))
theorem insX1 : Cond.instantiable RX1 12 ∈ zWd := (zmem 198 (by decide +kernel) (by decide +kernel))
theorem insX2 : Cond.instantiable RX2 2 ∈ zWd := (zmem 87 (by decide +kernel) (by decide +kernel))
theorem insX3 : Cond.instantiable RX3 3 ∈ zWd := (zmem 284 (by decide +kernel) (by decide +kernel))
theorem insX4 : Cond.instantiable RX4 16 ∈ zWd := (zmem 114 (by decide +kernel) (by decide +kernel))
theorem insX5 : Cond.instantiable RX5 1 ∈ zWd := (zmem 104 (by decide +kernel) (by decide +kernel))
theorem insX6 : Cond.instantiable RX6 9 ∈ zWd := (zmem 79 (by decide +kernel) (by decide +kernel))
theorem insX7 : Cond.instantiable RX7 17 ∈ zWd := (zmem 761 (by decide +kernel) (by decide +kernel))
theorem mkL_7 : zMk R_law 7 6 9 [.null, .null, .null, .null, .null, .null, .null, .null, .null] := ⟨RX6, TX6, tyX6, rfl, (zmem 78 (by decide +kernel) (by decide +kernel)), (zmem 79 (by decide +kernel) (by decide +kernel)), (zmem 63 (by decide +kernel) (by decide +kernel)), u_inX6, tyX6_ok, fun j hj => by rcases (show j = 0 ∨ j = 1 ∨ j = 2 ∨ j = 3 ∨ j = 4 ∨ j = 5 ∨ j = 6 ∨ j = 7 ∨ j = 8 by omega) with rfl | rfl | rfl | rfl | rfl | rfl | rfl | rfl | rfl <;> rfl⟩
theorem mkL_10 : zMk R_law 10 7 17 [.int 0, .null, .null, .null, .null, .null, .null, .null, .null, .null, .int 0, .int 0, .int 0, .int 0, .int 0, .int 0, .int 0] := ⟨RX7, TX7, tyX7, rfl, (zmem 760 (by decide +kernel) (by decide +kernel)), (zmem 761 (by decide +kernel) (by decide +kernel)), (zmem 76 (by decide +kernel) (by decide +kernel)), u_inX7, tyX7_ok, fun j hj => by rcases (show j = 0 ∨ j = 1 ∨ j = 2 ∨ j = 3 ∨ j = 4 ∨ j = 5 ∨ j = 6 ∨ j = 7 ∨ j = 8 ∨ j = 9 ∨ j = 10 ∨ j = 11 ∨ j = 12 ∨ j = 13 ∨ j = 14 ∨ j = 15 ∨ j = 16 by omega) with rfl | rfl | rfl | rfl | rfl | rfl | rfl | rfl | rfl | rfl | rfl | rfl | rfl | rfl | rfl | rfl | rfl <;> rfl⟩
set_option maxRecDepth 100000 in
theorem ciX6 : zCi yX6_init cX6_init 2 0 := ⟨(zmem 63 (by decide +kernel) (by decide +kernel)), (zmem 82 rfl rfl), ⟨by decide, by decide, by decide +kernel⟩, by decide, rfl, (zmem 81 (by decide +kernel) (by decide +kernel))⟩
set_option maxRecDepth 100000 in
theorem ciX7 : zCi yX7_init cX7_init 1 0 := ⟨(zmem 76 (by decide +kernel) (by decide +kernel)), (zmem 764 rfl rfl), ⟨by decide, by decide, by decide +kernel⟩, by decide, rfl, (zmem 763 (by decide +kernel) (by decide +kernel))⟩
theorem wiL_9 : Cond.methodLink R_law 9 yX6_init ∈ zWd := (zmem 80 (by decide +kernel) (by decide +kernel))
theorem wiL_12 : Cond.methodLink R_law 12 yX7_init ∈ zWd := (zmem 762 (by decide +kernel) (by decide +kernel))
theorem tb_over : Cond.arrayOver (.object RX1) ∈ lw_tbl := (List.mem_of_getElem? (i := 290) (by decide +kernel))
theorem tb_str : Cond.stringRef RX6 64 txS ∈ lw_tbl := (List.mem_of_getElem? (i := 303) (by decide +kernel))
theorem tb_n0 : Cond.methodLinkNest RX0 117 yX6_has "ShedStages" ∈ lw_tbl := (List.mem_of_getElem? (i := 562) (by decide +kernel))
theorem tb_n1 : Cond.methodLinkNest RX1 102 yX6_has "ShedStages" ∈ lw_tbl := (List.mem_of_getElem? (i := 425) (by decide +kernel))
theorem tb_n2 : Cond.methodLinkNest RX4 76 yX6_has "ShedStages" ∈ lw_tbl := (List.mem_of_getElem? (i := 734) (by decide +kernel))
theorem tb_n3 : Cond.methodLinkNest RX6 11 yX2_init "ShedStages" ∈ lw_tbl := (List.mem_of_getElem? (i := 88) (by decide +kernel))
theorem tb_n4 : Cond.methodLinkNest RX6 18 yX5_init "ShedStages" ∈ lw_tbl := (List.mem_of_getElem? (i := 105) (by decide +kernel))
theorem tb_n5 : Cond.methodLinkNest RX6 25 yX4_init "ShedStages" ∈ lw_tbl := (List.mem_of_getElem? (i := 115) (by decide +kernel))
theorem tb_z1 : Cond.laysStatic "java/lang/String" "COMPACT_STRINGS" "Z" ∈ lw_tbl := (List.mem_of_getElem? (i := 313) (by decide +kernel))
theorem tb_z2 : Cond.laysStatic "jdk/internal/util/Preconditions" "SIOOBE_FORMATTER" "Ljava/util/function/BiFunction;" ∈ lw_tbl := (List.mem_of_getElem? (i := 329) (by decide +kernel))
theorem tb_i1 : Cond.initialized "java/lang/String" ∈ lw_tbl := (List.mem_of_getElem? (i := 70) (by decide +kernel))
theorem tb_i2 : Cond.initialized "jdk/internal/util/Preconditions" ∈ lw_tbl := (List.mem_of_getElem? (i := 72) (by decide +kernel))
set_option maxHeartbeats 4000000 in
set_option maxRecDepth 100000 in
theorem flat_txt : ∀ j : Nat, j < 89 → Cond.eq (.elem (.field (.string "ShedStages" 64) "java/lang/String" "value" "[B") (.int (Int32.ofNat j))) (.int (txt0.getD j 0)) ∈ flatC (Jvm.Cond.and given_1 narrow_1) := by decide +kernel
set_option maxHeartbeats 4000000 in
set_option maxRecDepth 100000 in
theorem start_K {args : Array Value} {s : State} (hts : ∀ w ∈ lw_tbl, w.before args s = true) : ∃ (D : va_G) (cI cG : ClassId), va_K D vwCl (zTy cI cG) s := by
  have htz : ∀ w ∈ zWd, w.before args s = true := fun w hw => hts w (List.mem_filter.mp hw).1
  obtain ⟨c0, i0, n0⟩ := u_known (C := RX0) (T := TX0) (N := 5) (n := 5) htz u_inX0 (htz _ insX0)
  obtain ⟨c1, i1, n1⟩ := u_known (C := RX1) (T := TX1) (N := 12) (n := 12) htz u_inX1 (htz _ insX1)
  obtain ⟨c2, i2, n2⟩ := u_known (C := RX2) (T := TX2) (N := 2) (n := 2) htz u_inX2 (htz _ insX2)
  obtain ⟨c3, i3, n3⟩ := u_known (C := RX3) (T := TX3) (N := 3) (n := 3) htz u_inX3 (htz _ insX3)
  obtain ⟨c4, i4, n4⟩ := u_known (C := RX4) (T := TX4) (N := 16) (n := 16) htz u_inX4 (htz _ insX4)
  obtain ⟨c5, i5, n5⟩ := u_known (C := RX5) (T := TX5) (N := 1) (n := 1) htz u_inX5 (htz _ insX5)
  obtain ⟨c6, i6, n6⟩ := u_known (C := RX6) (T := TX6) (N := 9) (n := 9) htz u_inX6 (htz _ insX6)
  obtain ⟨c7, i7, n7⟩ := u_known (C := RX7) (T := TX7) (N := 17) (n := 17) htz u_inX7 (htz _ insX7)
  obtain ⟨D, hKc⟩ : ∃ D : va_G, ∀ (k : Nat) (q : vw_C), vwCl[k]? = some q → u_Kn s q.1 q.2.1 q.2.2 (D.1 k) (D.2 k) := by
    refine ⟨(fun k => match k with | 0 => c0 | 1 => c1 | 2 => c2 | 3 => c3 | 4 => c4 | 5 => c5 | 6 => c6 | _ => c7, fun k => match k with | 0 => i0 | 1 => i1 | 2 => i2 | 3 => i3 | 4 => i4 | 5 => i5 | 6 => i6 | _ => i7), ?_⟩
    intro k q hq
    match k, hq with
    | 0, hq => cases hq; exact n0
    | 1, hq => cases hq; exact n1
    | 2, hq => cases hq; exact n2
    | 3, hq => cases hq; exact n3
    | 4, hq => cases hq; exact n4
    | 5, hq => cases hq; exact n5
    | 6, hq => cases hq; exact n6
    | 7, hq => cases hq; exact n7
    | k + 8, hq => simp [vwCl] at hq
  obtain ⟨cI, kI, compI, fI, gI, hI⟩ := Cond.arrayClass_spec (htz _ arrI)
  obtain ⟨comp, cG, kA, f1, -, f3, f4, f5⟩ := Cond.arrayOver_spec (hts _ tb_over)
  refine ⟨D, cI, cG, hKc, fun k q hq => ?_⟩
  match k, hq with
  | 0, hq => cases hq; exact ⟨fun n z => ⟨(fun k h => by cases h), kI, gI, compI, hI⟩, fI⟩
  | 1, hq => cases hq; exact ⟨fun n z => ⟨(fun k h => by cases h), kA, f3, comp, f4⟩, kA, comp, f3, f4, f1, f5⟩
  | k + 2, hq => simp at hq
set_option maxHeartbeats 4000000 in
set_option maxRecDepth 100000 in
theorem fx1 : Cond.exactly (.string "ShedStages" 64) "java/lang/String" ∈ flatC (Jvm.Cond.and given_1 narrow_1) := by decide +kernel
set_option maxHeartbeats 4000000 in
set_option maxRecDepth 100000 in
theorem fx2 : Cond.eq (.field (.string "ShedStages" 64) "java/lang/String" "coder" "B") (.int 0) ∈ flatC (Jvm.Cond.and given_1 narrow_1) := by decide +kernel
set_option maxHeartbeats 4000000 in
set_option maxRecDepth 100000 in
theorem fx3 : Cond.arrayOf (.field (.string "ShedStages" 64) "java/lang/String" "value" "[B") .byte ∈ flatC (Jvm.Cond.and given_1 narrow_1) := by decide +kernel
set_option maxHeartbeats 4000000 in
set_option maxRecDepth 100000 in
theorem fx4 : Cond.eq (.length (.field (.string "ShedStages" 64) "java/lang/String" "value" "[B")) (.int (Int32.ofNat 89)) ∈ flatC (Jvm.Cond.and given_1 narrow_1) := by decide +kernel
set_option maxHeartbeats 4000000 in
set_option maxRecDepth 100000 in
theorem fx6 : Cond.eq (.static "java/lang/String" "COMPACT_STRINGS" "Z") (.int 1) ∈ flatC (Jvm.Cond.and given_1 narrow_1) := by decide +kernel
set_option maxHeartbeats 4000000 in
set_option maxRecDepth 100000 in
theorem fx7 : Cond.isRef (.static "jdk/internal/util/Preconditions" "SIOOBE_FORMATTER" "Ljava/util/function/BiFunction;") ∈ flatC (Jvm.Cond.and given_1 narrow_1) := by decide +kernel
set_option maxHeartbeats 4000000 in
set_option maxRecDepth 100000 in
theorem start_S {args : Array Value} {s : State} (hts : ∀ w ∈ lw_tbl, w.before args s = true) (hgv : (Jvm.Cond.and given_1 narrow_1).before args s = true) : ∃ k0 v0, kS1 k0 v0 (fun q : Nat => s.heap.size ≤ q) s := by
  have hA' : ∀ a : Nat, a < s.heap.size → ¬ (fun q : Nat => s.heap.size ≤ q) a := fun a h => Nat.not_le.mpr h
  have hs := flat_of_before _ hgv
  have x1 := hs _ fx1
  have x2 := hs _ fx2
  have x3 := hs _ fx3
  have x4 := hs _ fx4
  have x5 : ∀ j : Nat, j < 89 → (Cond.eq (.elem (.field (.string "ShedStages" 64) "java/lang/String" "value" "[B") (.int (Int32.ofNat j))) (.int (txt0.getD j 0))).before args s = true := fun j hj => hs _ (flat_txt j hj)
  have x6 := hs _ fx6
  have x7 := hs _ fx7
  clear hs hgv
  have z1 : ∀ i : Nat, i < 1 → ([89] : List Nat).getD i 0 < 2 ^ 31 := by
    intro i hi
    obtain rfl : i = 0 := by omega
    decide
  have z2 : ∀ i : Nat, i < 1 → (Cond.eq (.length (.field (.string "ShedStages" 64) "java/lang/String" "value" "[B")) (.int (Int32.ofNat (([89] : List Nat).getD i 0)))).before args s = true := by
    intro i hi
    obtain rfl : i = 0 := by omega
    exact x4
  have z3 : ∀ i : Nat, i < 1 → ∀ j : Nat, j < ([89] : List Nat).getD i 0 → (Cond.eq (.elem (.field (.string "ShedStages" 64) "java/lang/String" "value" "[B") (.int (Int32.ofNat j))) (.int ((([txt0] : List (List Int32)).getD i []).getD j 0))).before args s = true := by
    intro i hi
    obtain rfl : i = 0 := by omega
    exact x5
  obtain ⟨adK, adV, hKS, hev⟩ := vk_Sof (args := args) (s := s) (N := 1) (tm := fun _ => (.string "ShedStages" 64)) (len := [89]) (byt := [txt0]) (A := fun q : Nat => s.heap.size ≤ q) z1 (fun _ _ => x1) (fun _ _ => x2) (fun _ _ => x3) z2 z3 (fun i j hi hj hij => absurd (by omega) hij) hA'
  obtain ⟨y1, y2, y3, y4⟩ := hKS.1 0 (by omega)
  refine ⟨adK 0, adV 0, ?_, va_AO.of (hts _ tb_over), ?_, vk_R.of (hts _ tb_str) (hev 0 (by omega)), y1, y2, y3, y4, va_Zof (hts _ tb_z1) (hts _ tb_i1) (va_eqi x6) hA', va_Zqof (hts _ tb_z2) (hts _ tb_i2) x7 hA'⟩
  · exact List.forall_mem_cons.mpr ⟨va_Nw.of rfl (hts _ tb_n0), List.forall_mem_cons.mpr ⟨va_Nw.of rfl (hts _ tb_n1), List.forall_mem_cons.mpr ⟨va_Nw.of rfl (hts _ tb_n2), fun _ h => absurd h List.not_mem_nil⟩⟩⟩
  · exact List.forall_mem_cons.mpr ⟨va_Nw.of rfl (hts _ tb_n3), List.forall_mem_cons.mpr ⟨va_Nw.of rfl (hts _ tb_n4), List.forall_mem_cons.mpr ⟨va_Nw.of rfl (hts _ tb_n5), fun _ h => absurd h List.not_mem_nil⟩⟩⟩
