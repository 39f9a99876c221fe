/-! THE LAW: its loop -/
set_option maxHeartbeats 4000000 in
set_option maxRecDepth 100000 in
theorem law_loop {X : kX} {D : va_G} {cI cG : ClassId} {A : Nat → Prop} {k0 v0 b L : Nat} {xs : Nat → Int32} {nm : String} {ad adm : Nat → Nat} (hL : L ≤ 2048) (C : kC X D cI cG A (kLw k0 v0 b L xs A) code R_law nm 10 600000 7302250) (hnL : 4 = X.2.2.2.2.2.2.2.2.2.2.1) (hend : ∀ (lv : List (Option Value)) (ws : va_W), kG X D A 91 1740 671 lv [] ws) : ∀ (t i : Nat), i ≤ L → L < i + 4 * t → ∀ (hx hm : zH), Inv hx hm → kG X D A 91 1740 18 [some (.ref b), some (.ref (ad 0)), some (.ref (adm 0)), some (.int (nI i))] [] (zW cI cG ad shX hx ++ zW cI cG adm shM hm) := by
  intro t
  induction t with
  | zero => intro i h1 h2; exact absurd h2 (by omega)
  | succ t ih =>
    intro i hi ht hx hm I
    have eL : (nI L).toInt = (L : Int) := nI_toInt (by omega)
    have ei : (nI i).toInt = (i : Int) := nI_toInt (by omega)
    have e4 : (4 : Int32).toInt = 4 := by decide
    have es : (nI L - 4).toInt = (L : Int) - 4 := by rw [is' (by rw [eL, e4]; omega) (by rw [eL, e4]; omega), eL, e4]
    refine k_iload_n C iL_18 rfl ?_
    refine k_aload_n C iL_19 rfl ?_
    refine k_slen C (fun s h => h.2) iL_20 ?_
    refine k_iconst C 4 iL_21 (by decide) ?_
    refine k_isub C iL_22 ?_
    refine k_icmp_gt C 671 iL_23 (by decide) (fun _ => hend _ _) (fun hc => ?_)
    have hc2 : i + 4 ≤ L := by
      have : ¬ (nI L - 4 < nI i) := hc
      rw [ilt, es, ei] at this
      omega
    refine k_aload_n C iL_26 rfl ?_
    refine k_iload_n C iL_27 rfl ?_
    refine k_sld C (fun s h => h.2) iL_28 (vp_in_nI (show i < L by omega) (by omega)) ?_
    refine k_bipush C 31 iL_29 (by decide) ?_
    refine k_iand C iL_31 ?_
    have v1 : vp_in (nI i + 1) L := by rw [show nI i + 1 = nI (i + 1) from nI_add i 1]; exact vp_in_nI (by omega) (by omega)
    have v2 : vp_in (nI i + 2) L := by rw [show nI i + 2 = nI (i + 2) from nI_add i 2]; exact vp_in_nI (by omega) (by omega)
    have v3 : vp_in (nI i + 3) L := by rw [show nI i + 3 = nI (i + 3) from nI_add i 3]; exact vp_in_nI (by omega) (by omega)
    have nx : ∀ hx hm, Inv hx hm → kG X D A 91 1740 665 [some (.ref b), some (.ref (ad 0)), some (.ref (adm 0)), some (.int (nI i))] [] (zW cI cG ad shX hx ++ zW cI cG adm shM hm) := by
      intro hx hm I
      refine k_iinc (v := nI (i + 4)) (lv' := [some (.ref b), some (.ref (ad 0)), some (.ref (adm 0)), some (.int (nI (i + 4)))]) C hnL iL_665 (by decide) rfl (nI_add i 4) rfl ?_
      refine k_goto C 18 iL_668 (by decide) ?_
      exact ih (i + 4) hc2 (by omega) hx hm I
    show kG X D A 91 1740 32 [some (.ref b), some (.ref (ad 0)), some (.ref (adm 0)), some (.int (nI i))] [.int (xs (nI i).toNatClampNeg &&& 31)] (zW cI cG ad shX hx ++ zW cI cG adm shM hm)
    generalize (xs (nI i).toNatClampNeg &&& 31) = x
    by_cases c0 : x = 0
    · exact k_tab C 132 iL_32 (by rw [c0]; decide +kernel) (law_0 C v1 v2 v3 I nx)
    by_cases c1 : x = 1
    · exact k_tab C 155 iL_32 (by rw [c1]; decide +kernel) (law_1 C v1 v2 v3 I nx)
    by_cases c2 : x = 2
    · exact k_tab C 168 iL_32 (by rw [c2]; decide +kernel) (law_2 C v1 v2 v3 I nx)
    by_cases c3 : x = 3
    · exact k_tab C 181 iL_32 (by rw [c3]; decide +kernel) (law_3 C v1 v2 v3 I nx)
    by_cases c4 : x = 4
    · exact k_tab C 194 iL_32 (by rw [c4]; decide +kernel) (law_4 C v1 v2 v3 I nx)
    by_cases c5 : x = 5
    · exact k_tab C 217 iL_32 (by rw [c5]; decide +kernel) (law_5 C v1 v2 v3 I nx)
    by_cases c6 : x = 6
    · exact k_tab C 250 iL_32 (by rw [c6]; decide +kernel) (law_6 C v1 v2 v3 I nx)
    by_cases c7 : x = 7
    · exact k_tab C 283 iL_32 (by rw [c7]; decide +kernel) (law_7 C v1 v2 v3 I nx)
    by_cases c8 : x = 8
    · exact k_tab C 306 iL_32 (by rw [c8]; decide +kernel) (law_8 C v1 v2 v3 I nx)
    by_cases c9 : x = 9
    · exact k_tab C 339 iL_32 (by rw [c9]; decide +kernel) (law_9 C v1 v2 v3 I nx)
    by_cases c10 : x = 10
    · exact k_tab C 352 iL_32 (by rw [c10]; decide +kernel) (law_10 C v1 v2 v3 I nx)
    by_cases c11 : x = 11
    · exact k_tab C 385 iL_32 (by rw [c11]; decide +kernel) (law_11 C v1 v2 v3 I nx)
    by_cases c12 : x = 12
    · exact k_tab C 418 iL_32 (by rw [c12]; decide +kernel) (law_12 C v1 v2 v3 I nx)
    by_cases c13 : x = 13
    · exact k_tab C 441 iL_32 (by rw [c13]; decide +kernel) (law_13 C v1 v2 v3 I nx)
    by_cases c14 : x = 14
    · exact k_tab C 464 iL_32 (by rw [c14]; decide +kernel) (law_14 C v1 v2 v3 I nx)
    by_cases c15 : x = 15
    · exact k_tab C 487 iL_32 (by rw [c15]; decide +kernel) (law_15 C v1 v2 v3 I nx)
    by_cases c16 : x = 16
    · exact k_tab C 510 iL_32 (by rw [c16]; decide +kernel) (law_16 C v1 v2 v3 I nx)
    by_cases c17 : x = 17
    · exact k_tab C 533 iL_32 (by rw [c17]; decide +kernel) (law_17 C v1 v2 v3 I nx)
    by_cases c18 : x = 18
    · exact k_tab C 576 iL_32 (by rw [c18]; decide +kernel) (law_18 C v1 v2 v3 I nx)
    by_cases c19 : x = 19
    · exact k_tab C 619 iL_32 (by rw [c19]; decide +kernel) (law_19 C v1 v2 v3 I nx)
    by_cases c20 : x = 20
    · exact k_tab C 642 iL_32 (by rw [c20]; decide +kernel) (law_20 C v1 v2 v3 I nx)
    exact k_tab C 665 iL_32 ((zTg_def [0, 1, 2, 3, 4, 5, 6, 7, 8, 9, 10, 11, 12, 13, 14, 15, 16, 17, 18, 19, 20] (List.forall_mem_cons.mpr ⟨fun z9 => c0 (Int32.toInt_inj.mp (z9.trans (by decide))), List.forall_mem_cons.mpr ⟨fun z9 => c1 (Int32.toInt_inj.mp (z9.trans (by decide))), List.forall_mem_cons.mpr ⟨fun z9 => c2 (Int32.toInt_inj.mp (z9.trans (by decide))), List.forall_mem_cons.mpr ⟨fun z9 => c3 (Int32.toInt_inj.mp (z9.trans (by decide))), List.forall_mem_cons.mpr ⟨fun z9 => c4 (Int32.toInt_inj.mp (z9.trans (by decide))), List.forall_mem_cons.mpr ⟨fun z9 => c5 (Int32.toInt_inj.mp (z9.trans (by decide))), List.forall_mem_cons.mpr ⟨fun z9 => c6 (Int32.toInt_inj.mp (z9.trans (by decide))), List.forall_mem_cons.mpr ⟨fun z9 => c7 (Int32.toInt_inj.mp (z9.trans (by decide))), List.forall_mem_cons.mpr ⟨fun z9 => c8 (Int32.toInt_inj.mp (z9.trans (by decide))), List.forall_mem_cons.mpr ⟨fun z9 => c9 (Int32.toInt_inj.mp (z9.trans (by decide))), List.forall_mem_cons.mpr ⟨fun z9 => c10 (Int32.toInt_inj.mp (z9.trans (by decide))), List.forall_mem_cons.mpr ⟨fun z9 => c11 (Int32.toInt_inj.mp (z9.trans (by decide))), List.forall_mem_cons.mpr ⟨fun z9 => c12 (Int32.toInt_inj.mp (z9.trans (by decide))), List.forall_mem_cons.mpr ⟨fun z9 => c13 (Int32.toInt_inj.mp (z9.trans (by decide))), List.forall_mem_cons.mpr ⟨fun z9 => c14 (Int32.toInt_inj.mp (z9.trans (by decide))), List.forall_mem_cons.mpr ⟨fun z9 => c15 (Int32.toInt_inj.mp (z9.trans (by decide))), List.forall_mem_cons.mpr ⟨fun z9 => c16 (Int32.toInt_inj.mp (z9.trans (by decide))), List.forall_mem_cons.mpr ⟨fun z9 => c17 (Int32.toInt_inj.mp (z9.trans (by decide))), List.forall_mem_cons.mpr ⟨fun z9 => c18 (Int32.toInt_inj.mp (z9.trans (by decide))), List.forall_mem_cons.mpr ⟨fun z9 => c19 (Int32.toInt_inj.mp (z9.trans (by decide))), List.forall_mem_cons.mpr ⟨fun z9 => c20 (Int32.toInt_inj.mp (z9.trans (by decide))), fun _ h9 => by cases h9⟩⟩⟩⟩⟩⟩⟩⟩⟩⟩⟩⟩⟩⟩⟩⟩⟩⟩⟩⟩⟩) (by decide +kernel)).trans (by decide)) (nx hx hm I)
