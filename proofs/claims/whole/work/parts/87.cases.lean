/-! THE LAW: its calls, case by case -/
set_option maxRecDepth 100000 in
theorem wL_13 : zCv R_law 13 yX6_write cX6_write 2 (some .int) 1 := ⟨⟨(zmem 480 (by decide +kernel) (by decide +kernel)), (zmem 63 (by decide +kernel) (by decide +kernel)), (zmem 483 rfl rfl), ⟨by decide, by decide, by decide +kernel⟩, by decide⟩, (zmem 481 (by decide +kernel) (by decide +kernel)), (zmem 482 (by decide +kernel) (by decide +kernel))⟩
set_option maxRecDepth 100000 in
theorem wL_17 : zCv R_law 17 yX7_write cX7_write 2 (some .int) 1 := ⟨⟨(zmem 849 (by decide +kernel) (by decide +kernel)), (zmem 76 (by decide +kernel) (by decide +kernel)), (zmem 852 rfl rfl), ⟨by decide, by decide, by decide +kernel⟩, by decide⟩, (zmem 850 (by decide +kernel) (by decide +kernel)), (zmem 851 (by decide +kernel) (by decide +kernel))⟩
set_option maxRecDepth 100000 in
theorem wL_18 : zCv R_law 18 yX6_wipe cX6_wipe 2 (some .int) 0 := ⟨⟨(zmem 484 (by decide +kernel) (by decide +kernel)), (zmem 63 (by decide +kernel) (by decide +kernel)), (zmem 487 rfl rfl), ⟨by decide, by decide, by decide +kernel⟩, by decide⟩, (zmem 485 (by decide +kernel) (by decide +kernel)), (zmem 486 (by decide +kernel) (by decide +kernel))⟩
set_option maxRecDepth 100000 in
theorem wL_22 : zCv R_law 22 yX7_wipe cX7_wipe 2 (some .int) 0 := ⟨⟨(zmem 853 (by decide +kernel) (by decide +kernel)), (zmem 76 (by decide +kernel) (by decide +kernel)), (zmem 856 rfl rfl), ⟨by decide, by decide, by decide +kernel⟩, by decide⟩, (zmem 854 (by decide +kernel) (by decide +kernel)), (zmem 855 (by decide +kernel) (by decide +kernel))⟩
set_option maxRecDepth 100000 in
theorem wL_23 : zCv R_law 23 yX6_fault cX6_fault 1 (some .int) 0 := ⟨⟨(zmem 488 (by decide +kernel) (by decide +kernel)), (zmem 63 (by decide +kernel) (by decide +kernel)), (zmem 491 rfl rfl), ⟨by decide, by decide, by decide +kernel⟩, by decide⟩, (zmem 489 (by decide +kernel) (by decide +kernel)), (zmem 490 (by decide +kernel) (by decide +kernel))⟩
set_option maxRecDepth 100000 in
theorem wL_26 : zCv R_law 26 yX7_fault cX7_fault 1 (some .int) 0 := ⟨⟨(zmem 857 (by decide +kernel) (by decide +kernel)), (zmem 76 (by decide +kernel) (by decide +kernel)), (zmem 860 rfl rfl), ⟨by decide, by decide, by decide +kernel⟩, by decide⟩, (zmem 858 (by decide +kernel) (by decide +kernel)), (zmem 859 (by decide +kernel) (by decide +kernel))⟩
set_option maxRecDepth 100000 in
theorem wL_27 : zCv R_law 27 yX6_lay cX6_lay 1 (some .int) 0 := ⟨⟨(zmem 492 (by decide +kernel) (by decide +kernel)), (zmem 63 (by decide +kernel) (by decide +kernel)), (zmem 495 rfl rfl), ⟨by decide, by decide, by decide +kernel⟩, by decide⟩, (zmem 493 (by decide +kernel) (by decide +kernel)), (zmem 494 (by decide +kernel) (by decide +kernel))⟩
set_option maxRecDepth 100000 in
theorem wL_30 : zCv R_law 30 yX7_lay cX7_lay 1 (some .int) 0 := ⟨⟨(zmem 904 (by decide +kernel) (by decide +kernel)), (zmem 76 (by decide +kernel) (by decide +kernel)), (zmem 907 rfl rfl), ⟨by decide, by decide, by decide +kernel⟩, by decide⟩, (zmem 905 (by decide +kernel) (by decide +kernel)), (zmem 906 (by decide +kernel) (by decide +kernel))⟩
set_option maxRecDepth 100000 in
theorem wL_31 : zCv R_law 31 yX6_tick cX6_tick 3 (some .int) 1 := ⟨⟨(zmem 504 (by decide +kernel) (by decide +kernel)), (zmem 63 (by decide +kernel) (by decide +kernel)), (zmem 507 rfl rfl), ⟨by decide, by decide, by decide +kernel⟩, by decide⟩, (zmem 505 (by decide +kernel) (by decide +kernel)), (zmem 506 (by decide +kernel) (by decide +kernel))⟩
set_option maxRecDepth 100000 in
theorem wL_34 : zCv R_law 34 yX7_tick cX7_tick 3 (some .int) 1 := ⟨⟨(zmem 916 (by decide +kernel) (by decide +kernel)), (zmem 76 (by decide +kernel) (by decide +kernel)), (zmem 919 rfl rfl), ⟨by decide, by decide, by decide +kernel⟩, by decide⟩, (zmem 917 (by decide +kernel) (by decide +kernel)), (zmem 918 (by decide +kernel) (by decide +kernel))⟩
set_option maxRecDepth 100000 in
theorem wL_35 : zCv R_law 35 yX6_link cX6_link 4 (some .int) 2 := ⟨⟨(zmem 592 (by decide +kernel) (by decide +kernel)), (zmem 63 (by decide +kernel) (by decide +kernel)), (zmem 595 rfl rfl), ⟨by decide, by decide, by decide +kernel⟩, by decide⟩, (zmem 593 (by decide +kernel) (by decide +kernel)), (zmem 594 (by decide +kernel) (by decide +kernel))⟩
set_option maxRecDepth 100000 in
theorem wL_39 : zCv R_law 39 yX7_link cX7_link 5 (some .int) 2 := ⟨⟨(zmem 976 (by decide +kernel) (by decide +kernel)), (zmem 76 (by decide +kernel) (by decide +kernel)), (zmem 979 rfl rfl), ⟨by decide, by decide, by decide +kernel⟩, by decide⟩, (zmem 977 (by decide +kernel) (by decide +kernel)), (zmem 978 (by decide +kernel) (by decide +kernel))⟩
set_option maxRecDepth 100000 in
theorem wL_40 : zCv R_law 40 yX6_feeder cX6_feeder 5 (some .int) 2 := ⟨⟨(zmem 630 (by decide +kernel) (by decide +kernel)), (zmem 63 (by decide +kernel) (by decide +kernel)), (zmem 633 rfl rfl), ⟨by decide, by decide, by decide +kernel⟩, by decide⟩, (zmem 631 (by decide +kernel) (by decide +kernel)), (zmem 632 (by decide +kernel) (by decide +kernel))⟩
set_option maxRecDepth 100000 in
theorem wL_43 : zCv R_law 43 yX7_feeder cX7_feeder 4 (some .int) 2 := ⟨⟨(zmem 992 (by decide +kernel) (by decide +kernel)), (zmem 76 (by decide +kernel) (by decide +kernel)), (zmem 995 rfl rfl), ⟨by decide, by decide, by decide +kernel⟩, by decide⟩, (zmem 993 (by decide +kernel) (by decide +kernel)), (zmem 994 (by decide +kernel) (by decide +kernel))⟩
set_option maxRecDepth 100000 in
theorem wL_44 : zCv R_law 44 yX6_begin cX6_begin 3 (some .int) 1 := ⟨⟨(zmem 638 (by decide +kernel) (by decide +kernel)), (zmem 63 (by decide +kernel) (by decide +kernel)), (zmem 641 rfl rfl), ⟨by decide, by decide, by decide +kernel⟩, by decide⟩, (zmem 639 (by decide +kernel) (by decide +kernel)), (zmem 640 (by decide +kernel) (by decide +kernel))⟩
set_option maxRecDepth 100000 in
theorem wL_47 : zCv R_law 47 yX7_begin cX7_begin 4 (some .int) 1 := ⟨⟨(zmem 996 (by decide +kernel) (by decide +kernel)), (zmem 76 (by decide +kernel) (by decide +kernel)), (zmem 999 rfl rfl), ⟨by decide, by decide, by decide +kernel⟩, by decide⟩, (zmem 997 (by decide +kernel) (by decide +kernel)), (zmem 998 (by decide +kernel) (by decide +kernel))⟩
set_option maxRecDepth 100000 in
theorem wL_48 : zCv R_law 48 yX6_mark cX6_mark 4 (some .int) 2 := ⟨⟨(zmem 645 (by decide +kernel) (by decide +kernel)), (zmem 63 (by decide +kernel) (by decide +kernel)), (zmem 648 rfl rfl), ⟨by decide, by decide, by decide +kernel⟩, by decide⟩, (zmem 646 (by decide +kernel) (by decide +kernel)), (zmem 647 (by decide +kernel) (by decide +kernel))⟩
set_option maxRecDepth 100000 in
theorem wL_51 : zCv R_law 51 yX7_mark cX7_mark 4 (some .int) 2 := ⟨⟨(zmem 1004 (by decide +kernel) (by decide +kernel)), (zmem 76 (by decide +kernel) (by decide +kernel)), (zmem 1007 rfl rfl), ⟨by decide, by decide, by decide +kernel⟩, by decide⟩, (zmem 1005 (by decide +kernel) (by decide +kernel)), (zmem 1006 (by decide +kernel) (by decide +kernel))⟩
set_option maxRecDepth 100000 in
theorem wL_52 : zCv R_law 52 yX6_undo cX6_undo 1 (some .int) 0 := ⟨⟨(zmem 654 (by decide +kernel) (by decide +kernel)), (zmem 63 (by decide +kernel) (by decide +kernel)), (zmem 657 rfl rfl), ⟨by decide, by decide, by decide +kernel⟩, by decide⟩, (zmem 655 (by decide +kernel) (by decide +kernel)), (zmem 656 (by decide +kernel) (by decide +kernel))⟩
set_option maxRecDepth 100000 in
theorem wL_55 : zCv R_law 55 yX7_undo cX7_undo 2 (some .int) 0 := ⟨⟨(zmem 912 (by decide +kernel) (by decide +kernel)), (zmem 76 (by decide +kernel) (by decide +kernel)), (zmem 915 rfl rfl), ⟨by decide, by decide, by decide +kernel⟩, by decide⟩, (zmem 913 (by decide +kernel) (by decide +kernel)), (zmem 914 (by decide +kernel) (by decide +kernel))⟩
set_option maxRecDepth 100000 in
theorem wL_56 : zCv R_law 56 yX6_island cX6_island 4 (some .int) 2 := ⟨⟨(zmem 662 (by decide +kernel) (by decide +kernel)), (zmem 63 (by decide +kernel) (by decide +kernel)), (zmem 665 rfl rfl), ⟨by decide, by decide, by decide +kernel⟩, by decide⟩, (zmem 663 (by decide +kernel) (by decide +kernel)), (zmem 664 (by decide +kernel) (by decide +kernel))⟩
set_option maxRecDepth 100000 in
theorem wL_59 : zCv R_law 59 yX7_island cX7_island 6 (some .int) 2 := ⟨⟨(zmem 1008 (by decide +kernel) (by decide +kernel)), (zmem 76 (by decide +kernel) (by decide +kernel)), (zmem 1011 rfl rfl), ⟨by decide, by decide, by decide +kernel⟩, by decide⟩, (zmem 1009 (by decide +kernel) (by decide +kernel)), (zmem 1010 (by decide +kernel) (by decide +kernel))⟩
set_option maxRecDepth 100000 in
theorem wL_60 : zCv R_law 60 yX6_counted cX6_counted 4 (some .int) 2 := ⟨⟨(zmem 684 (by decide +kernel) (by decide +kernel)), (zmem 63 (by decide +kernel) (by decide +kernel)), (zmem 687 rfl rfl), ⟨by decide, by decide, by decide +kernel⟩, by decide⟩, (zmem 685 (by decide +kernel) (by decide +kernel)), (zmem 686 (by decide +kernel) (by decide +kernel))⟩
set_option maxRecDepth 100000 in
theorem wL_63 : zCv R_law 63 yX7_counted cX7_counted 3 (some .int) 2 := ⟨⟨(zmem 1024 (by decide +kernel) (by decide +kernel)), (zmem 76 (by decide +kernel) (by decide +kernel)), (zmem 1027 rfl rfl), ⟨by decide, by decide, by decide +kernel⟩, by decide⟩, (zmem 1025 (by decide +kernel) (by decide +kernel)), (zmem 1026 (by decide +kernel) (by decide +kernel))⟩
set_option maxRecDepth 100000 in
theorem wL_64 : zCv R_law 64 yX6_at cX6_at 2 (some .int) 1 := ⟨⟨(zmem 688 (by decide +kernel) (by decide +kernel)), (zmem 63 (by decide +kernel) (by decide +kernel)), (zmem 691 rfl rfl), ⟨by decide, by decide, by decide +kernel⟩, by decide⟩, (zmem 689 (by decide +kernel) (by decide +kernel)), (zmem 690 (by decide +kernel) (by decide +kernel))⟩
set_option maxRecDepth 100000 in
theorem wL_67 : zCv R_law 67 yX7_at cX7_at 5 (some .int) 1 := ⟨⟨(zmem 1028 (by decide +kernel) (by decide +kernel)), (zmem 76 (by decide +kernel) (by decide +kernel)), (zmem 1031 rfl rfl), ⟨by decide, by decide, by decide +kernel⟩, by decide⟩, (zmem 1029 (by decide +kernel) (by decide +kernel)), (zmem 1030 (by decide +kernel) (by decide +kernel))⟩
set_option maxRecDepth 100000 in
theorem wL_68 : zCv R_law 68 yX6_plant cX6_plant 2 (some .int) 1 := ⟨⟨(zmem 696 (by decide +kernel) (by decide +kernel)), (zmem 63 (by decide +kernel) (by decide +kernel)), (zmem 699 rfl rfl), ⟨by decide, by decide, by decide +kernel⟩, by decide⟩, (zmem 697 (by decide +kernel) (by decide +kernel)), (zmem 698 (by decide +kernel) (by decide +kernel))⟩
set_option maxRecDepth 100000 in
theorem wL_71 : zCv R_law 71 yX7_plant cX7_plant 2 (some .int) 1 := ⟨⟨(zmem 1032 (by decide +kernel) (by decide +kernel)), (zmem 76 (by decide +kernel) (by decide +kernel)), (zmem 1035 rfl rfl), ⟨by decide, by decide, by decide +kernel⟩, by decide⟩, (zmem 1033 (by decide +kernel) (by decide +kernel)), (zmem 1034 (by decide +kernel) (by decide +kernel))⟩
set_option maxRecDepth 100000 in
theorem wL_72 : zCv R_law 72 yX6_isOn cX6_isOn 2 (some .int) 1 := ⟨⟨(zmem 700 (by decide +kernel) (by decide +kernel)), (zmem 63 (by decide +kernel) (by decide +kernel)), (zmem 703 rfl rfl), ⟨by decide, by decide, by decide +kernel⟩, by decide⟩, (zmem 701 (by decide +kernel) (by decide +kernel)), (zmem 702 (by decide +kernel) (by decide +kernel))⟩
set_option maxRecDepth 100000 in
theorem wL_75 : zCv R_law 75 yX7_isOn cX7_isOn 2 (some .int) 1 := ⟨⟨(zmem 1036 (by decide +kernel) (by decide +kernel)), (zmem 76 (by decide +kernel) (by decide +kernel)), (zmem 1039 rfl rfl), ⟨by decide, by decide, by decide +kernel⟩, by decide⟩, (zmem 1037 (by decide +kernel) (by decide +kernel)), (zmem 1038 (by decide +kernel) (by decide +kernel))⟩
set_option maxRecDepth 100000 in
theorem wL_76 : zCv R_law 76 yX6_isClosed cX6_isClosed 2 (some .int) 1 := ⟨⟨(zmem 704 (by decide +kernel) (by decide +kernel)), (zmem 63 (by decide +kernel) (by decide +kernel)), (zmem 707 rfl rfl), ⟨by decide, by decide, by decide +kernel⟩, by decide⟩, (zmem 705 (by decide +kernel) (by decide +kernel)), (zmem 706 (by decide +kernel) (by decide +kernel))⟩
set_option maxRecDepth 100000 in
theorem wL_79 : zCv R_law 79 yX7_isClosed cX7_isClosed 2 (some .int) 1 := ⟨⟨(zmem 1040 (by decide +kernel) (by decide +kernel)), (zmem 76 (by decide +kernel) (by decide +kernel)), (zmem 1043 rfl rfl), ⟨by decide, by decide, by decide +kernel⟩, by decide⟩, (zmem 1041 (by decide +kernel) (by decide +kernel)), (zmem 1042 (by decide +kernel) (by decide +kernel))⟩
set_option maxRecDepth 100000 in
theorem wL_80 : zCv R_law 80 yX6_dropped cX6_dropped 2 (some .int) 1 := ⟨⟨(zmem 708 (by decide +kernel) (by decide +kernel)), (zmem 63 (by decide +kernel) (by decide +kernel)), (zmem 711 rfl rfl), ⟨by decide, by decide, by decide +kernel⟩, by decide⟩, (zmem 709 (by decide +kernel) (by decide +kernel)), (zmem 710 (by decide +kernel) (by decide +kernel))⟩
set_option maxRecDepth 100000 in
theorem wL_83 : zCv R_law 83 yX7_dropped cX7_dropped 2 (some .int) 1 := ⟨⟨(zmem 1044 (by decide +kernel) (by decide +kernel)), (zmem 76 (by decide +kernel) (by decide +kernel)), (zmem 1047 rfl rfl), ⟨by decide, by decide, by decide +kernel⟩, by decide⟩, (zmem 1045 (by decide +kernel) (by decide +kernel)), (zmem 1046 (by decide +kernel) (by decide +kernel))⟩
set_option maxRecDepth 100000 in
theorem wL_84 : zCv R_law 84 yX6_ahead cX6_ahead 7 (some .int) 3 := ⟨⟨(zmem 712 (by decide +kernel) (by decide +kernel)), (zmem 63 (by decide +kernel) (by decide +kernel)), (zmem 715 rfl rfl), ⟨by decide, by decide, by decide +kernel⟩, by decide⟩, (zmem 713 (by decide +kernel) (by decide +kernel)), (zmem 714 (by decide +kernel) (by decide +kernel))⟩
set_option maxRecDepth 100000 in
theorem wL_88 : zCv R_law 88 yX7_ahead cX7_ahead 6 (some .int) 3 := ⟨⟨(zmem 1048 (by decide +kernel) (by decide +kernel)), (zmem 76 (by decide +kernel) (by decide +kernel)), (zmem 1051 rfl rfl), ⟨by decide, by decide, by decide +kernel⟩, by decide⟩, (zmem 1049 (by decide +kernel) (by decide +kernel)), (zmem 1050 (by decide +kernel) (by decide +kernel))⟩
set_option maxRecDepth 100000 in
theorem wL_89 : zCv R_law 89 yX6_least cX6_least 6 (some .int) 3 := ⟨⟨(zmem 718 (by decide +kernel) (by decide +kernel)), (zmem 63 (by decide +kernel) (by decide +kernel)), (zmem 721 rfl rfl), ⟨by decide, by decide, by decide +kernel⟩, by decide⟩, (zmem 719 (by decide +kernel) (by decide +kernel)), (zmem 720 (by decide +kernel) (by decide +kernel))⟩
set_option maxRecDepth 100000 in
theorem wL_92 : zCv R_law 92 yX7_least cX7_least 11 (some .int) 3 := ⟨⟨(zmem 1060 (by decide +kernel) (by decide +kernel)), (zmem 76 (by decide +kernel) (by decide +kernel)), (zmem 1063 rfl rfl), ⟨by decide, by decide, by decide +kernel⟩, by decide⟩, (zmem 1061 (by decide +kernel) (by decide +kernel)), (zmem 1062 (by decide +kernel) (by decide +kernel))⟩
set_option maxRecDepth 100000 in
theorem wL_93 : zCv R_law 93 yX6_dark cX6_dark 4 (some .int) 1 := ⟨⟨(zmem 743 (by decide +kernel) (by decide +kernel)), (zmem 63 (by decide +kernel) (by decide +kernel)), (zmem 746 rfl rfl), ⟨by decide, by decide, by decide +kernel⟩, by decide⟩, (zmem 744 (by decide +kernel) (by decide +kernel)), (zmem 745 (by decide +kernel) (by decide +kernel))⟩
set_option maxRecDepth 100000 in
theorem wL_96 : zCv R_law 96 yX7_dark cX7_dark 4 (some .int) 1 := ⟨⟨(zmem 1072 (by decide +kernel) (by decide +kernel)), (zmem 76 (by decide +kernel) (by decide +kernel)), (zmem 1075 rfl rfl), ⟨by decide, by decide, by decide +kernel⟩, by decide⟩, (zmem 1073 (by decide +kernel) (by decide +kernel)), (zmem 1074 (by decide +kernel) (by decide +kernel))⟩
set_option maxRecDepth 100000 in
theorem wL_97 : zCv R_law 97 yX6_count cX6_count 2 (some .int) 1 := ⟨⟨(zmem 747 (by decide +kernel) (by decide +kernel)), (zmem 63 (by decide +kernel) (by decide +kernel)), (zmem 750 rfl rfl), ⟨by decide, by decide, by decide +kernel⟩, by decide⟩, (zmem 748 (by decide +kernel) (by decide +kernel)), (zmem 749 (by decide +kernel) (by decide +kernel))⟩
set_option maxRecDepth 100000 in
theorem wL_100 : zCv R_law 100 yX7_count cX7_count 4 (some .int) 1 := ⟨⟨(zmem 1076 (by decide +kernel) (by decide +kernel)), (zmem 76 (by decide +kernel) (by decide +kernel)), (zmem 1079 rfl rfl), ⟨by decide, by decide, by decide +kernel⟩, by decide⟩, (zmem 1077 (by decide +kernel) (by decide +kernel)), (zmem 1078 (by decide +kernel) (by decide +kernel))⟩
set_option maxHeartbeats 4000000 in
set_option maxRecDepth 100000 in
theorem law_0 {X : kX} {D : va_G} {cI cG : ClassId} {A : Nat → Prop} {k0 v0 b L : Nat} {xs : Nat → Int32} {nm : String} {ad adm : Nat → Nat} {x3 : Int32} {hx hm : zH} (C : kC X D cI cG A (kLw k0 v0 b L xs A) code R_law nm 10 600000 7302250) (h1 : vp_in (x3 + 1) L) (h2 : vp_in (x3 + 2) L) (h3 : vp_in (x3 + 3) L) (I : Inv hx hm) (nx : ∀ hx hm, Inv hx hm → kG X D A 91 1740 665 [some (.ref b), some (.ref (ad 0)), some (.ref (adm 0)), some (.int x3)] [] (zW cI cG ad shX hx ++ zW cI cG adm shM hm)) : kG X D A 91 1740 132 [some (.ref b), some (.ref (ad 0)), some (.ref (adm 0)), some (.int x3)] [] (zW cI cG ad shX hx ++ zW cI cG adm shM hm) := by
  obtain ⟨r, hx', hm', e1, e2, I'⟩ := do_write I (xs (x3 + 1).toNatClampNeg)
  refine k_aload_n C iL_132 rfl ?_
  refine k_aload_n C iL_133 rfl ?_
  refine k_iload_n C iL_134 rfl ?_
  refine k_iconst C 1 iL_135 (by decide) ?_
  refine k_iadd C iL_136 ?_
  refine k_sld C (fun s h => h.2) iL_137 h1 ?_
  refine k_callZL C wL_13 iL_138 (m_SS_write (xs (x3 + 1).toNatClampNeg) hx) e1 (by decide) (fun s h => h.1.1) sh0 rfl rfl rfl rfl (Nat.le_of_ble_eq_true rfl) (Nat.le_of_ble_eq_true rfl) (Nat.le_of_ble_eq_true rfl) ?_
  show kG X D A 91 1740 141 [some (.ref b), some (.ref (ad 0)), some (.ref (adm 0)), some (.int x3)] [.int r] (zW cI cG ad shX hx' ++ zW cI cG adm shM hm)
  refine k_aload_n C iL_141 rfl ?_
  refine k_aload_n C iL_142 rfl ?_
  refine k_iload_n C iL_143 rfl ?_
  refine k_iconst C 1 iL_144 (by decide) ?_
  refine k_iadd C iL_145 ?_
  refine k_sld C (fun s h => h.2) iL_146 h1 ?_
  refine k_callZR C wL_17 iL_147 (m_Mo_write (xs (x3 + 1).toNatClampNeg) hm) e2 (by decide) (fun s h => h.1.1) mh0 rfl rfl rfl rfl (Nat.le_of_ble_eq_true rfl) (Nat.le_of_ble_eq_true rfl) (Nat.le_of_ble_eq_true rfl) ?_
  show kG X D A 91 1740 150 [some (.ref b), some (.ref (ad 0)), some (.ref (adm 0)), some (.int x3)] [.int r, .int r] (zW cI cG ad shX hx' ++ zW cI cG adm shM hm')
  refine k_icmp_eq C 665 iL_150 (by decide) (fun _ => nx hx' hm' I') (fun h => absurd rfl h)
set_option maxHeartbeats 4000000 in
set_option maxRecDepth 100000 in
theorem law_1 {X : kX} {D : va_G} {cI cG : ClassId} {A : Nat → Prop} {k0 v0 b L : Nat} {xs : Nat → Int32} {nm : String} {ad adm : Nat → Nat} {x3 : Int32} {hx hm : zH} (C : kC X D cI cG A (kLw k0 v0 b L xs A) code R_law nm 10 600000 7302250) (h1 : vp_in (x3 + 1) L) (h2 : vp_in (x3 + 2) L) (h3 : vp_in (x3 + 3) L) (I : Inv hx hm) (nx : ∀ hx hm, Inv hx hm → kG X D A 91 1740 665 [some (.ref b), some (.ref (ad 0)), some (.ref (adm 0)), some (.int x3)] [] (zW cI cG ad shX hx ++ zW cI cG adm shM hm)) : kG X D A 91 1740 155 [some (.ref b), some (.ref (ad 0)), some (.ref (adm 0)), some (.int x3)] [] (zW cI cG ad shX hx ++ zW cI cG adm shM hm) := by
  obtain ⟨r, hx', hm', e1, e2, I'⟩ := do_wipe I
  refine k_aload_n C iL_155 rfl ?_
  refine k_callZL C wL_18 iL_156 (m_SS_wipe hx) e1 (by decide) (fun s h => h.1.1) sh0 rfl rfl rfl rfl (Nat.le_of_ble_eq_true rfl) (Nat.le_of_ble_eq_true rfl) (Nat.le_of_ble_eq_true rfl) ?_
  show kG X D A 91 1740 159 [some (.ref b), some (.ref (ad 0)), some (.ref (adm 0)), some (.int x3)] [.int r] (zW cI cG ad shX hx' ++ zW cI cG adm shM hm)
  refine k_aload_n C iL_159 rfl ?_
  refine k_callZR C wL_22 iL_160 (m_Mo_wipe hm) e2 (by decide) (fun s h => h.1.1) mh0 rfl rfl rfl rfl (Nat.le_of_ble_eq_true rfl) (Nat.le_of_ble_eq_true rfl) (Nat.le_of_ble_eq_true rfl) ?_
  show kG X D A 91 1740 163 [some (.ref b), some (.ref (ad 0)), some (.ref (adm 0)), some (.int x3)] [.int r, .int r] (zW cI cG ad shX hx' ++ zW cI cG adm shM hm')
  refine k_icmp_eq C 665 iL_163 (by decide) (fun _ => nx hx' hm' I') (fun h => absurd rfl h)
set_option maxHeartbeats 4000000 in
set_option maxRecDepth 100000 in
theorem law_2 {X : kX} {D : va_G} {cI cG : ClassId} {A : Nat → Prop} {k0 v0 b L : Nat} {xs : Nat → Int32} {nm : String} {ad adm : Nat → Nat} {x3 : Int32} {hx hm : zH} (C : kC X D cI cG A (kLw k0 v0 b L xs A) code R_law nm 10 600000 7302250) (h1 : vp_in (x3 + 1) L) (h2 : vp_in (x3 + 2) L) (h3 : vp_in (x3 + 3) L) (I : Inv hx hm) (nx : ∀ hx hm, Inv hx hm → kG X D A 91 1740 665 [some (.ref b), some (.ref (ad 0)), some (.ref (adm 0)), some (.int x3)] [] (zW cI cG ad shX hx ++ zW cI cG adm shM hm)) : kG X D A 91 1740 168 [some (.ref b), some (.ref (ad 0)), some (.ref (adm 0)), some (.int x3)] [] (zW cI cG ad shX hx ++ zW cI cG adm shM hm) := by
  obtain ⟨r, hx', hm', e1, e2, I'⟩ := do_fault I
  refine k_aload_n C iL_168 rfl ?_
  refine k_callZL C wL_23 iL_169 (m_SS_fault hx) e1 (by decide) (fun s h => h.1.1) sh0 rfl rfl rfl rfl (Nat.le_of_ble_eq_true rfl) (Nat.le_of_ble_eq_true rfl) (Nat.le_of_ble_eq_true rfl) ?_
  show kG X D A 91 1740 172 [some (.ref b), some (.ref (ad 0)), some (.ref (adm 0)), some (.int x3)] [.int r] (zW cI cG ad shX hx' ++ zW cI cG adm shM hm)
  refine k_aload_n C iL_172 rfl ?_
  refine k_callZR C wL_26 iL_173 (m_Mo_fault hm) e2 (by decide) (fun s h => h.1.1) mh0 rfl rfl rfl rfl (Nat.le_of_ble_eq_true rfl) (Nat.le_of_ble_eq_true rfl) (Nat.le_of_ble_eq_true rfl) ?_
  show kG X D A 91 1740 176 [some (.ref b), some (.ref (ad 0)), some (.ref (adm 0)), some (.int x3)] [.int r, .int r] (zW cI cG ad shX hx' ++ zW cI cG adm shM hm')
  refine k_icmp_eq C 665 iL_176 (by decide) (fun _ => nx hx' hm' I') (fun h => absurd rfl h)
set_option maxHeartbeats 4000000 in
set_option maxRecDepth 100000 in
theorem law_3 {X : kX} {D : va_G} {cI cG : ClassId} {A : Nat → Prop} {k0 v0 b L : Nat} {xs : Nat → Int32} {nm : String} {ad adm : Nat → Nat} {x3 : Int32} {hx hm : zH} (C : kC X D cI cG A (kLw k0 v0 b L xs A) code R_law nm 10 600000 7302250) (h1 : vp_in (x3 + 1) L) (h2 : vp_in (x3 + 2) L) (h3 : vp_in (x3 + 3) L) (I : Inv hx hm) (nx : ∀ hx hm, Inv hx hm → kG X D A 91 1740 665 [some (.ref b), some (.ref (ad 0)), some (.ref (adm 0)), some (.int x3)] [] (zW cI cG ad shX hx ++ zW cI cG adm shM hm)) : kG X D A 91 1740 181 [some (.ref b), some (.ref (ad 0)), some (.ref (adm 0)), some (.int x3)] [] (zW cI cG ad shX hx ++ zW cI cG adm shM hm) := by
  obtain ⟨r, hx', hm', e1, e2, I'⟩ := do_lay I
  refine k_aload_n C iL_181 rfl ?_
  refine k_callZL C wL_27 iL_182 (m_SS_lay hx) e1 (by decide) (fun s h => h.1.1) sh0 rfl rfl rfl rfl (Nat.le_of_ble_eq_true rfl) (Nat.le_of_ble_eq_true rfl) (Nat.le_of_ble_eq_true rfl) ?_
  show kG X D A 91 1740 185 [some (.ref b), some (.ref (ad 0)), some (.ref (adm 0)), some (.int x3)] [.int r] (zW cI cG ad shX hx' ++ zW cI cG adm shM hm)
  refine k_aload_n C iL_185 rfl ?_
  refine k_callZR C wL_30 iL_186 (m_Mo_lay hm) e2 (by decide) (fun s h => h.1.1) mh0 rfl rfl rfl rfl (Nat.le_of_ble_eq_true rfl) (Nat.le_of_ble_eq_true rfl) (Nat.le_of_ble_eq_true rfl) ?_
  show kG X D A 91 1740 189 [some (.ref b), some (.ref (ad 0)), some (.ref (adm 0)), some (.int x3)] [.int r, .int r] (zW cI cG ad shX hx' ++ zW cI cG adm shM hm')
  refine k_icmp_eq C 665 iL_189 (by decide) (fun _ => nx hx' hm' I') (fun h => absurd rfl h)
set_option maxHeartbeats 4000000 in
set_option maxRecDepth 100000 in
theorem law_4 {X : kX} {D : va_G} {cI cG : ClassId} {A : Nat → Prop} {k0 v0 b L : Nat} {xs : Nat → Int32} {nm : String} {ad adm : Nat → Nat} {x3 : Int32} {hx hm : zH} (C : kC X D cI cG A (kLw k0 v0 b L xs A) code R_law nm 10 600000 7302250) (h1 : vp_in (x3 + 1) L) (h2 : vp_in (x3 + 2) L) (h3 : vp_in (x3 + 3) L) (I : Inv hx hm) (nx : ∀ hx hm, Inv hx hm → kG X D A 91 1740 665 [some (.ref b), some (.ref (ad 0)), some (.ref (adm 0)), some (.int x3)] [] (zW cI cG ad shX hx ++ zW cI cG adm shM hm)) : kG X D A 91 1740 194 [some (.ref b), some (.ref (ad 0)), some (.ref (adm 0)), some (.int x3)] [] (zW cI cG ad shX hx ++ zW cI cG adm shM hm) := by
  obtain ⟨r, hx', hm', e1, e2, I'⟩ := do_tick I (xs (x3 + 1).toNatClampNeg)
  refine k_aload_n C iL_194 rfl ?_
  refine k_aload_n C iL_195 rfl ?_
  refine k_iload_n C iL_196 rfl ?_
  refine k_iconst C 1 iL_197 (by decide) ?_
  refine k_iadd C iL_198 ?_
  refine k_sld C (fun s h => h.2) iL_199 h1 ?_
  refine k_callZL C wL_31 iL_200 (m_SS_tick (xs (x3 + 1).toNatClampNeg) hx) e1 (by decide) (fun s h => h.1.1) sh0 rfl rfl rfl rfl (Nat.le_of_ble_eq_true rfl) (Nat.le_of_ble_eq_true rfl) (Nat.le_of_ble_eq_true rfl) ?_
  show kG X D A 91 1740 203 [some (.ref b), some (.ref (ad 0)), some (.ref (adm 0)), some (.int x3)] [.int r] (zW cI cG ad shX hx' ++ zW cI cG adm shM hm)
  refine k_aload_n C iL_203 rfl ?_
  refine k_aload_n C iL_204 rfl ?_
  refine k_iload_n C iL_205 rfl ?_
  refine k_iconst C 1 iL_206 (by decide) ?_
  refine k_iadd C iL_207 ?_
  refine k_sld C (fun s h => h.2) iL_208 h1 ?_
  refine k_callZR C wL_34 iL_209 (m_Mo_tick (xs (x3 + 1).toNatClampNeg) hm) e2 (by decide) (fun s h => h.1.1) mh0 rfl rfl rfl rfl (Nat.le_of_ble_eq_true rfl) (Nat.le_of_ble_eq_true rfl) (Nat.le_of_ble_eq_true rfl) ?_
  show kG X D A 91 1740 212 [some (.ref b), some (.ref (ad 0)), some (.ref (adm 0)), some (.int x3)] [.int r, .int r] (zW cI cG ad shX hx' ++ zW cI cG adm shM hm')
  refine k_icmp_eq C 665 iL_212 (by decide) (fun _ => nx hx' hm' I') (fun h => absurd rfl h)
set_option maxHeartbeats 4000000 in
set_option maxRecDepth 100000 in
theorem law_5 {X : kX} {D : va_G} {cI cG : ClassId} {A : Nat → Prop} {k0 v0 b L : Nat} {xs : Nat → Int32} {nm : String} {ad adm : Nat → Nat} {x3 : Int32} {hx hm : zH} (C : kC X D cI cG A (kLw k0 v0 b L xs A) code R_law nm 10 600000 7302250) (h1 : vp_in (x3 + 1) L) (h2 : vp_in (x3 + 2) L) (h3 : vp_in (x3 + 3) L) (I : Inv hx hm) (nx : ∀ hx hm, Inv hx hm → kG X D A 91 1740 665 [some (.ref b), some (.ref (ad 0)), some (.ref (adm 0)), some (.int x3)] [] (zW cI cG ad shX hx ++ zW cI cG adm shM hm)) : kG X D A 91 1740 217 [some (.ref b), some (.ref (ad 0)), some (.ref (adm 0)), some (.int x3)] [] (zW cI cG ad shX hx ++ zW cI cG adm shM hm) := by
  obtain ⟨r, hx', hm', e1, e2, I'⟩ := do_link I (xs (x3 + 1).toNatClampNeg) (xs (x3 + 2).toNatClampNeg)
  refine k_aload_n C iL_217 rfl ?_
  refine k_aload_n C iL_218 rfl ?_
  refine k_iload_n C iL_219 rfl ?_
  refine k_iconst C 1 iL_220 (by decide) ?_
  refine k_iadd C iL_221 ?_
  refine k_sld C (fun s h => h.2) iL_222 h1 ?_
  refine k_aload_n C iL_223 rfl ?_
  refine k_iload_n C iL_224 rfl ?_
  refine k_iconst C 2 iL_225 (by decide) ?_
  refine k_iadd C iL_226 ?_
  refine k_sld C (fun s h => h.2) iL_227 h2 ?_
  refine k_callZL C wL_35 iL_228 (m_SS_link (xs (x3 + 1).toNatClampNeg) (xs (x3 + 2).toNatClampNeg) hx) e1 (by decide) (fun s h => h.1.1) sh0 rfl rfl rfl rfl (Nat.le_of_ble_eq_true rfl) (Nat.le_of_ble_eq_true rfl) (Nat.le_of_ble_eq_true rfl) ?_
  show kG X D A 91 1740 231 [some (.ref b), some (.ref (ad 0)), some (.ref (adm 0)), some (.int x3)] [.int r] (zW cI cG ad shX hx' ++ zW cI cG adm shM hm)
  refine k_aload_n C iL_231 rfl ?_
  refine k_aload_n C iL_232 rfl ?_
  refine k_iload_n C iL_233 rfl ?_
  refine k_iconst C 1 iL_234 (by decide) ?_
  refine k_iadd C iL_235 ?_
  refine k_sld C (fun s h => h.2) iL_236 h1 ?_
  refine k_aload_n C iL_237 rfl ?_
  refine k_iload_n C iL_238 rfl ?_
  refine k_iconst C 2 iL_239 (by decide) ?_
  refine k_iadd C iL_240 ?_
  refine k_sld C (fun s h => h.2) iL_241 h2 ?_
  refine k_callZR C wL_39 iL_242 (m_Mo_link (xs (x3 + 1).toNatClampNeg) (xs (x3 + 2).toNatClampNeg) hm) e2 (by decide) (fun s h => h.1.1) mh0 rfl rfl rfl rfl (Nat.le_of_ble_eq_true rfl) (Nat.le_of_ble_eq_true rfl) (Nat.le_of_ble_eq_true rfl) ?_
  show kG X D A 91 1740 245 [some (.ref b), some (.ref (ad 0)), some (.ref (adm 0)), some (.int x3)] [.int r, .int r] (zW cI cG ad shX hx' ++ zW cI cG adm shM hm')
  refine k_icmp_eq C 665 iL_245 (by decide) (fun _ => nx hx' hm' I') (fun h => absurd rfl h)
set_option maxHeartbeats 4000000 in
set_option maxRecDepth 100000 in
theorem law_6 {X : kX} {D : va_G} {cI cG : ClassId} {A : Nat → Prop} {k0 v0 b L : Nat} {xs : Nat → Int32} {nm : String} {ad adm : Nat → Nat} {x3 : Int32} {hx hm : zH} (C : kC X D cI cG A (kLw k0 v0 b L xs A) code R_law nm 10 600000 7302250) (h1 : vp_in (x3 + 1) L) (h2 : vp_in (x3 + 2) L) (h3 : vp_in (x3 + 3) L) (I : Inv hx hm) (nx : ∀ hx hm, Inv hx hm → kG X D A 91 1740 665 [some (.ref b), some (.ref (ad 0)), some (.ref (adm 0)), some (.int x3)] [] (zW cI cG ad shX hx ++ zW cI cG adm shM hm)) : kG X D A 91 1740 250 [some (.ref b), some (.ref (ad 0)), some (.ref (adm 0)), some (.int x3)] [] (zW cI cG ad shX hx ++ zW cI cG adm shM hm) := by
  obtain ⟨r, hx', hm', e1, e2, I'⟩ := do_feeder I (xs (x3 + 1).toNatClampNeg) (xs (x3 + 2).toNatClampNeg)
  refine k_aload_n C iL_250 rfl ?_
  refine k_aload_n C iL_251 rfl ?_
  refine k_iload_n C iL_252 rfl ?_
  refine k_iconst C 1 iL_253 (by decide) ?_
  refine k_iadd C iL_254 ?_
  refine k_sld C (fun s h => h.2) iL_255 h1 ?_
  refine k_aload_n C iL_256 rfl ?_
  refine k_iload_n C iL_257 rfl ?_
  refine k_iconst C 2 iL_258 (by decide) ?_
  refine k_iadd C iL_259 ?_
  refine k_sld C (fun s h => h.2) iL_260 h2 ?_
  refine k_callZL C wL_40 iL_261 (m_SS_feeder (xs (x3 + 1).toNatClampNeg) (xs (x3 + 2).toNatClampNeg) hx) e1 (by decide) (fun s h => h.1.1) sh0 rfl rfl rfl rfl (Nat.le_of_ble_eq_true rfl) (Nat.le_of_ble_eq_true rfl) (Nat.le_of_ble_eq_true rfl) ?_
  show kG X D A 91 1740 264 [some (.ref b), some (.ref (ad 0)), some (.ref (adm 0)), some (.int x3)] [.int r] (zW cI cG ad shX hx' ++ zW cI cG adm shM hm)
  refine k_aload_n C iL_264 rfl ?_
  refine k_aload_n C iL_265 rfl ?_
  refine k_iload_n C iL_266 rfl ?_
  refine k_iconst C 1 iL_267 (by decide) ?_
  refine k_iadd C iL_268 ?_
  refine k_sld C (fun s h => h.2) iL_269 h1 ?_
  refine k_aload_n C iL_270 rfl ?_
  refine k_iload_n C iL_271 rfl ?_
  refine k_iconst C 2 iL_272 (by decide) ?_
  refine k_iadd C iL_273 ?_
  refine k_sld C (fun s h => h.2) iL_274 h2 ?_
  refine k_callZR C wL_43 iL_275 (m_Mo_feeder (xs (x3 + 1).toNatClampNeg) (xs (x3 + 2).toNatClampNeg) hm) e2 (by decide) (fun s h => h.1.1) mh0 rfl rfl rfl rfl (Nat.le_of_ble_eq_true rfl) (Nat.le_of_ble_eq_true rfl) (Nat.le_of_ble_eq_true rfl) ?_
  show kG X D A 91 1740 278 [some (.ref b), some (.ref (ad 0)), some (.ref (adm 0)), some (.int x3)] [.int r, .int r] (zW cI cG ad shX hx' ++ zW cI cG adm shM hm')
  refine k_icmp_eq C 665 iL_278 (by decide) (fun _ => nx hx' hm' I') (fun h => absurd rfl h)
set_option maxHeartbeats 4000000 in
set_option maxRecDepth 100000 in
theorem law_7 {X : kX} {D : va_G} {cI cG : ClassId} {A : Nat → Prop} {k0 v0 b L : Nat} {xs : Nat → Int32} {nm : String} {ad adm : Nat → Nat} {x3 : Int32} {hx hm : zH} (C : kC X D cI cG A (kLw k0 v0 b L xs A) code R_law nm 10 600000 7302250) (h1 : vp_in (x3 + 1) L) (h2 : vp_in (x3 + 2) L) (h3 : vp_in (x3 + 3) L) (I : Inv hx hm) (nx : ∀ hx hm, Inv hx hm → kG X D A 91 1740 665 [some (.ref b), some (.ref (ad 0)), some (.ref (adm 0)), some (.int x3)] [] (zW cI cG ad shX hx ++ zW cI cG adm shM hm)) : kG X D A 91 1740 283 [some (.ref b), some (.ref (ad 0)), some (.ref (adm 0)), some (.int x3)] [] (zW cI cG ad shX hx ++ zW cI cG adm shM hm) := by
  obtain ⟨r, hx', hm', e1, e2, I'⟩ := do_begin I (xs (x3 + 1).toNatClampNeg)
  refine k_aload_n C iL_283 rfl ?_
  refine k_aload_n C iL_284 rfl ?_
  refine k_iload_n C iL_285 rfl ?_
  refine k_iconst C 1 iL_286 (by decide) ?_
  refine k_iadd C iL_287 ?_
  refine k_sld C (fun s h => h.2) iL_288 h1 ?_
  refine k_callZL C wL_44 iL_289 (m_SS_begin (xs (x3 + 1).toNatClampNeg) hx) e1 (by decide) (fun s h => h.1.1) sh0 rfl rfl rfl rfl (Nat.le_of_ble_eq_true rfl) (Nat.le_of_ble_eq_true rfl) (Nat.le_of_ble_eq_true rfl) ?_
  show kG X D A 91 1740 292 [some (.ref b), some (.ref (ad 0)), some (.ref (adm 0)), some (.int x3)] [.int r] (zW cI cG ad shX hx' ++ zW cI cG adm shM hm)
  refine k_aload_n C iL_292 rfl ?_
  refine k_aload_n C iL_293 rfl ?_
  refine k_iload_n C iL_294 rfl ?_
  refine k_iconst C 1 iL_295 (by decide) ?_
  refine k_iadd C iL_296 ?_
  refine k_sld C (fun s h => h.2) iL_297 h1 ?_
  refine k_callZR C wL_47 iL_298 (m_Mo_begin (xs (x3 + 1).toNatClampNeg) hm) e2 (by decide) (fun s h => h.1.1) mh0 rfl rfl rfl rfl (Nat.le_of_ble_eq_true rfl) (Nat.le_of_ble_eq_true rfl) (Nat.le_of_ble_eq_true rfl) ?_
  show kG X D A 91 1740 301 [some (.ref b), some (.ref (ad 0)), some (.ref (adm 0)), some (.int x3)] [.int r, .int r] (zW cI cG ad shX hx' ++ zW cI cG adm shM hm')
  refine k_icmp_eq C 665 iL_301 (by decide) (fun _ => nx hx' hm' I') (fun h => absurd rfl h)
set_option maxHeartbeats 4000000 in
set_option maxRecDepth 100000 in
theorem law_8 {X : kX} {D : va_G} {cI cG : ClassId} {A : Nat → Prop} {k0 v0 b L : Nat} {xs : Nat → Int32} {nm : String} {ad adm : Nat → Nat} {x3 : Int32} {hx hm : zH} (C : kC X D cI cG A (kLw k0 v0 b L xs A) code R_law nm 10 600000 7302250) (h1 : vp_in (x3 + 1) L) (h2 : vp_in (x3 + 2) L) (h3 : vp_in (x3 + 3) L) (I : Inv hx hm) (nx : ∀ hx hm, Inv hx hm → kG X D A 91 1740 665 [some (.ref b), some (.ref (ad 0)), some (.ref (adm 0)), some (.int x3)] [] (zW cI cG ad shX hx ++ zW cI cG adm shM hm)) : kG X D A 91 1740 306 [some (.ref b), some (.ref (ad 0)), some (.ref (adm 0)), some (.int x3)] [] (zW cI cG ad shX hx ++ zW cI cG adm shM hm) := by
  obtain ⟨r, hx', hm', e1, e2, I'⟩ := do_mark I (xs (x3 + 1).toNatClampNeg) (xs (x3 + 2).toNatClampNeg)
  refine k_aload_n C iL_306 rfl ?_
  refine k_aload_n C iL_307 rfl ?_
  refine k_iload_n C iL_308 rfl ?_
  refine k_iconst C 1 iL_309 (by decide) ?_
  refine k_iadd C iL_310 ?_
  refine k_sld C (fun s h => h.2) iL_311 h1 ?_
  refine k_aload_n C iL_312 rfl ?_
  refine k_iload_n C iL_313 rfl ?_
  refine k_iconst C 2 iL_314 (by decide) ?_
  refine k_iadd C iL_315 ?_
  refine k_sld C (fun s h => h.2) iL_316 h2 ?_
  refine k_callZL C wL_48 iL_317 (m_SS_mark (xs (x3 + 1).toNatClampNeg) (xs (x3 + 2).toNatClampNeg) hx) e1 (by decide) (fun s h => h.1.1) sh0 rfl rfl rfl rfl (Nat.le_of_ble_eq_true rfl) (Nat.le_of_ble_eq_true rfl) (Nat.le_of_ble_eq_true rfl) ?_
  show kG X D A 91 1740 320 [some (.ref b), some (.ref (ad 0)), some (.ref (adm 0)), some (.int x3)] [.int r] (zW cI cG ad shX hx' ++ zW cI cG adm shM hm)
  refine k_aload_n C iL_320 rfl ?_
  refine k_aload_n C iL_321 rfl ?_
  refine k_iload_n C iL_322 rfl ?_
  refine k_iconst C 1 iL_323 (by decide) ?_
  refine k_iadd C iL_324 ?_
  refine k_sld C (fun s h => h.2) iL_325 h1 ?_
  refine k_aload_n C iL_326 rfl ?_
  refine k_iload_n C iL_327 rfl ?_
  refine k_iconst C 2 iL_328 (by decide) ?_
  refine k_iadd C iL_329 ?_
  refine k_sld C (fun s h => h.2) iL_330 h2 ?_
  refine k_callZR C wL_51 iL_331 (m_Mo_mark (xs (x3 + 1).toNatClampNeg) (xs (x3 + 2).toNatClampNeg) hm) e2 (by decide) (fun s h => h.1.1) mh0 rfl rfl rfl rfl (Nat.le_of_ble_eq_true rfl) (Nat.le_of_ble_eq_true rfl) (Nat.le_of_ble_eq_true rfl) ?_
  show kG X D A 91 1740 334 [some (.ref b), some (.ref (ad 0)), some (.ref (adm 0)), some (.int x3)] [.int r, .int r] (zW cI cG ad shX hx' ++ zW cI cG adm shM hm')
  refine k_icmp_eq C 665 iL_334 (by decide) (fun _ => nx hx' hm' I') (fun h => absurd rfl h)
set_option maxHeartbeats 4000000 in
set_option maxRecDepth 100000 in
theorem law_9 {X : kX} {D : va_G} {cI cG : ClassId} {A : Nat → Prop} {k0 v0 b L : Nat} {xs : Nat → Int32} {nm : String} {ad adm : Nat → Nat} {x3 : Int32} {hx hm : zH} (C : kC X D cI cG A (kLw k0 v0 b L xs A) code R_law nm 10 600000 7302250) (h1 : vp_in (x3 + 1) L) (h2 : vp_in (x3 + 2) L) (h3 : vp_in (x3 + 3) L) (I : Inv hx hm) (nx : ∀ hx hm, Inv hx hm → kG X D A 91 1740 665 [some (.ref b), some (.ref (ad 0)), some (.ref (adm 0)), some (.int x3)] [] (zW cI cG ad shX hx ++ zW cI cG adm shM hm)) : kG X D A 91 1740 339 [some (.ref b), some (.ref (ad 0)), some (.ref (adm 0)), some (.int x3)] [] (zW cI cG ad shX hx ++ zW cI cG adm shM hm) := by
  obtain ⟨r, hx', hm', e1, e2, I'⟩ := do_undo I
  refine k_aload_n C iL_339 rfl ?_
  refine k_callZL C wL_52 iL_340 (m_SS_undo hx) e1 (by decide) (fun s h => h.1.1) sh0 rfl rfl rfl rfl (Nat.le_of_ble_eq_true rfl) (Nat.le_of_ble_eq_true rfl) (Nat.le_of_ble_eq_true rfl) ?_
  show kG X D A 91 1740 343 [some (.ref b), some (.ref (ad 0)), some (.ref (adm 0)), some (.int x3)] [.int r] (zW cI cG ad shX hx' ++ zW cI cG adm shM hm)
  refine k_aload_n C iL_343 rfl ?_
  refine k_callZR C wL_55 iL_344 (m_Mo_undo hm) e2 (by decide) (fun s h => h.1.1) mh0 rfl rfl rfl rfl (Nat.le_of_ble_eq_true rfl) (Nat.le_of_ble_eq_true rfl) (Nat.le_of_ble_eq_true rfl) ?_
  show kG X D A 91 1740 347 [some (.ref b), some (.ref (ad 0)), some (.ref (adm 0)), some (.int x3)] [.int r, .int r] (zW cI cG ad shX hx' ++ zW cI cG adm shM hm')
  refine k_icmp_eq C 665 iL_347 (by decide) (fun _ => nx hx' hm' I') (fun h => absurd rfl h)
set_option maxHeartbeats 4000000 in
set_option maxRecDepth 100000 in
theorem law_10 {X : kX} {D : va_G} {cI cG : ClassId} {A : Nat → Prop} {k0 v0 b L : Nat} {xs : Nat → Int32} {nm : String} {ad adm : Nat → Nat} {x3 : Int32} {hx hm : zH} (C : kC X D cI cG A (kLw k0 v0 b L xs A) code R_law nm 10 600000 7302250) (h1 : vp_in (x3 + 1) L) (h2 : vp_in (x3 + 2) L) (h3 : vp_in (x3 + 3) L) (I : Inv hx hm) (nx : ∀ hx hm, Inv hx hm → kG X D A 91 1740 665 [some (.ref b), some (.ref (ad 0)), some (.ref (adm 0)), some (.int x3)] [] (zW cI cG ad shX hx ++ zW cI cG adm shM hm)) : kG X D A 91 1740 352 [some (.ref b), some (.ref (ad 0)), some (.ref (adm 0)), some (.int x3)] [] (zW cI cG ad shX hx ++ zW cI cG adm shM hm) := by
  obtain ⟨r, e1, e2⟩ : ∃ a, SS_island (xs (x3 + 1).toNatClampNeg) (xs (x3 + 2).toNatClampNeg) hx = some a ∧ Mo_island (xs (x3 + 1).toNatClampNeg) (xs (x3 + 2).toNatClampNeg) hm = some a := by
    obtain ⟨P, S, Ls, Co, -⟩ := id I
    exact ask_island Co (xs (x3 + 1).toNatClampNeg) (xs (x3 + 2).toNatClampNeg)
  refine k_aload_n C iL_352 rfl ?_
  refine k_aload_n C iL_353 rfl ?_
  refine k_iload_n C iL_354 rfl ?_
  refine k_iconst C 1 iL_355 (by decide) ?_
  refine k_iadd C iL_356 ?_
  refine k_sld C (fun s h => h.2) iL_357 h1 ?_
  refine k_aload_n C iL_358 rfl ?_
  refine k_iload_n C iL_359 rfl ?_
  refine k_iconst C 2 iL_360 (by decide) ?_
  refine k_iadd C iL_361 ?_
  refine k_sld C (fun s h => h.2) iL_362 h2 ?_
  refine k_callZL C wL_56 iL_363 (m_SS_island (xs (x3 + 1).toNatClampNeg) (xs (x3 + 2).toNatClampNeg) hx) e1 (by decide) (fun s h => h.1.1) sh0 rfl rfl rfl rfl (Nat.le_of_ble_eq_true rfl) (Nat.le_of_ble_eq_true rfl) (Nat.le_of_ble_eq_true rfl) ?_
  show kG X D A 91 1740 366 [some (.ref b), some (.ref (ad 0)), some (.ref (adm 0)), some (.int x3)] [.int r] (zW cI cG ad shX hx ++ zW cI cG adm shM hm)
  refine k_aload_n C iL_366 rfl ?_
  refine k_aload_n C iL_367 rfl ?_
  refine k_iload_n C iL_368 rfl ?_
  refine k_iconst C 1 iL_369 (by decide) ?_
  refine k_iadd C iL_370 ?_
  refine k_sld C (fun s h => h.2) iL_371 h1 ?_
  refine k_aload_n C iL_372 rfl ?_
  refine k_iload_n C iL_373 rfl ?_
  refine k_iconst C 2 iL_374 (by decide) ?_
  refine k_iadd C iL_375 ?_
  refine k_sld C (fun s h => h.2) iL_376 h2 ?_
  refine k_callZR C wL_59 iL_377 (m_Mo_island (xs (x3 + 1).toNatClampNeg) (xs (x3 + 2).toNatClampNeg) hm) e2 (by decide) (fun s h => h.1.1) mh0 rfl rfl rfl rfl (Nat.le_of_ble_eq_true rfl) (Nat.le_of_ble_eq_true rfl) (Nat.le_of_ble_eq_true rfl) ?_
  show kG X D A 91 1740 380 [some (.ref b), some (.ref (ad 0)), some (.ref (adm 0)), some (.int x3)] [.int r, .int r] (zW cI cG ad shX hx ++ zW cI cG adm shM hm)
  refine k_icmp_eq C 665 iL_380 (by decide) (fun _ => nx hx hm I) (fun h => absurd rfl h)
set_option maxHeartbeats 4000000 in
set_option maxRecDepth 100000 in
theorem law_11 {X : kX} {D : va_G} {cI cG : ClassId} {A : Nat → Prop} {k0 v0 b L : Nat} {xs : Nat → Int32} {nm : String} {ad adm : Nat → Nat} {x3 : Int32} {hx hm : zH} (C : kC X D cI cG A (kLw k0 v0 b L xs A) code R_law nm 10 600000 7302250) (h1 : vp_in (x3 + 1) L) (h2 : vp_in (x3 + 2) L) (h3 : vp_in (x3 + 3) L) (I : Inv hx hm) (nx : ∀ hx hm, Inv hx hm → kG X D A 91 1740 665 [some (.ref b), some (.ref (ad 0)), some (.ref (adm 0)), some (.int x3)] [] (zW cI cG ad shX hx ++ zW cI cG adm shM hm)) : kG X D A 91 1740 385 [some (.ref b), some (.ref (ad 0)), some (.ref (adm 0)), some (.int x3)] [] (zW cI cG ad shX hx ++ zW cI cG adm shM hm) := by
  obtain ⟨r, e1, e2⟩ : ∃ a, SS_counted (xs (x3 + 1).toNatClampNeg) (xs (x3 + 2).toNatClampNeg) hx = some a ∧ Mo_counted (xs (x3 + 1).toNatClampNeg) (xs (x3 + 2).toNatClampNeg) hm = some a := by
    obtain ⟨P, S, Ls, Co, -⟩ := id I
    exact ask_counted Co (xs (x3 + 1).toNatClampNeg) (xs (x3 + 2).toNatClampNeg)
  refine k_aload_n C iL_385 rfl ?_
  refine k_aload_n C iL_386 rfl ?_
  refine k_iload_n C iL_387 rfl ?_
  refine k_iconst C 1 iL_388 (by decide) ?_
  refine k_iadd C iL_389 ?_
  refine k_sld C (fun s h => h.2) iL_390 h1 ?_
  refine k_aload_n C iL_391 rfl ?_
  refine k_iload_n C iL_392 rfl ?_
  refine k_iconst C 2 iL_393 (by decide) ?_
  refine k_iadd C iL_394 ?_
  refine k_sld C (fun s h => h.2) iL_395 h2 ?_
  refine k_callZL C wL_60 iL_396 (m_SS_counted (xs (x3 + 1).toNatClampNeg) (xs (x3 + 2).toNatClampNeg) hx) e1 (by decide) (fun s h => h.1.1) sh0 rfl rfl rfl rfl (Nat.le_of_ble_eq_true rfl) (Nat.le_of_ble_eq_true rfl) (Nat.le_of_ble_eq_true rfl) ?_
  show kG X D A 91 1740 399 [some (.ref b), some (.ref (ad 0)), some (.ref (adm 0)), some (.int x3)] [.int r] (zW cI cG ad shX hx ++ zW cI cG adm shM hm)
  refine k_aload_n C iL_399 rfl ?_
  refine k_aload_n C iL_400 rfl ?_
  refine k_iload_n C iL_401 rfl ?_
  refine k_iconst C 1 iL_402 (by decide) ?_
  refine k_iadd C iL_403 ?_
  refine k_sld C (fun s h => h.2) iL_404 h1 ?_
  refine k_aload_n C iL_405 rfl ?_
  refine k_iload_n C iL_406 rfl ?_
  refine k_iconst C 2 iL_407 (by decide) ?_
  refine k_iadd C iL_408 ?_
  refine k_sld C (fun s h => h.2) iL_409 h2 ?_
  refine k_callZR C wL_63 iL_410 (m_Mo_counted (xs (x3 + 1).toNatClampNeg) (xs (x3 + 2).toNatClampNeg) hm) e2 (by decide) (fun s h => h.1.1) mh0 rfl rfl rfl rfl (Nat.le_of_ble_eq_true rfl) (Nat.le_of_ble_eq_true rfl) (Nat.le_of_ble_eq_true rfl) ?_
  show kG X D A 91 1740 413 [some (.ref b), some (.ref (ad 0)), some (.ref (adm 0)), some (.int x3)] [.int r, .int r] (zW cI cG ad shX hx ++ zW cI cG adm shM hm)
  refine k_icmp_eq C 665 iL_413 (by decide) (fun _ => nx hx hm I) (fun h => absurd rfl h)
set_option maxHeartbeats 4000000 in
set_option maxRecDepth 100000 in
theorem law_12 {X : kX} {D : va_G} {cI cG : ClassId} {A : Nat → Prop} {k0 v0 b L : Nat} {xs : Nat → Int32} {nm : String} {ad adm : Nat → Nat} {x3 : Int32} {hx hm : zH} (C : kC X D cI cG A (kLw k0 v0 b L xs A) code R_law nm 10 600000 7302250) (h1 : vp_in (x3 + 1) L) (h2 : vp_in (x3 + 2) L) (h3 : vp_in (x3 + 3) L) (I : Inv hx hm) (nx : ∀ hx hm, Inv hx hm → kG X D A 91 1740 665 [some (.ref b), some (.ref (ad 0)), some (.ref (adm 0)), some (.int x3)] [] (zW cI cG ad shX hx ++ zW cI cG adm shM hm)) : kG X D A 91 1740 418 [some (.ref b), some (.ref (ad 0)), some (.ref (adm 0)), some (.int x3)] [] (zW cI cG ad shX hx ++ zW cI cG adm shM hm) := by
  obtain ⟨r, e1, e2⟩ : ∃ a, SS_at (xs (x3 + 1).toNatClampNeg) hx = some a ∧ Mo_at (xs (x3 + 1).toNatClampNeg) hm = some a := by
    obtain ⟨P, S, Ls, Co, -⟩ := id I
    exact ask_at Co (xs (x3 + 1).toNatClampNeg)
  refine k_aload_n C iL_418 rfl ?_
  refine k_aload_n C iL_419 rfl ?_
  refine k_iload_n C iL_420 rfl ?_
  refine k_iconst C 1 iL_421 (by decide) ?_
  refine k_iadd C iL_422 ?_
  refine k_sld C (fun s h => h.2) iL_423 h1 ?_
  refine k_callZL C wL_64 iL_424 (m_SS_at (xs (x3 + 1).toNatClampNeg) hx) e1 (by decide) (fun s h => h.1.1) sh0 rfl rfl rfl rfl (Nat.le_of_ble_eq_true rfl) (Nat.le_of_ble_eq_true rfl) (Nat.le_of_ble_eq_true rfl) ?_
  show kG X D A 91 1740 427 [some (.ref b), some (.ref (ad 0)), some (.ref (adm 0)), some (.int x3)] [.int r] (zW cI cG ad shX hx ++ zW cI cG adm shM hm)
  refine k_aload_n C iL_427 rfl ?_
  refine k_aload_n C iL_428 rfl ?_
  refine k_iload_n C iL_429 rfl ?_
  refine k_iconst C 1 iL_430 (by decide) ?_
  refine k_iadd C iL_431 ?_
  refine k_sld C (fun s h => h.2) iL_432 h1 ?_
  refine k_callZR C wL_67 iL_433 (m_Mo_at (xs (x3 + 1).toNatClampNeg) hm) e2 (by decide) (fun s h => h.1.1) mh0 rfl rfl rfl rfl (Nat.le_of_ble_eq_true rfl) (Nat.le_of_ble_eq_true rfl) (Nat.le_of_ble_eq_true rfl) ?_
  show kG X D A 91 1740 436 [some (.ref b), some (.ref (ad 0)), some (.ref (adm 0)), some (.int x3)] [.int r, .int r] (zW cI cG ad shX hx ++ zW cI cG adm shM hm)
  refine k_icmp_eq C 665 iL_436 (by decide) (fun _ => nx hx hm I) (fun h => absurd rfl h)
set_option maxHeartbeats 4000000 in
set_option maxRecDepth 100000 in
theorem law_13 {X : kX} {D : va_G} {cI cG : ClassId} {A : Nat → Prop} {k0 v0 b L : Nat} {xs : Nat → Int32} {nm : String} {ad adm : Nat → Nat} {x3 : Int32} {hx hm : zH} (C : kC X D cI cG A (kLw k0 v0 b L xs A) code R_law nm 10 600000 7302250) (h1 : vp_in (x3 + 1) L) (h2 : vp_in (x3 + 2) L) (h3 : vp_in (x3 + 3) L) (I : Inv hx hm) (nx : ∀ hx hm, Inv hx hm → kG X D A 91 1740 665 [some (.ref b), some (.ref (ad 0)), some (.ref (adm 0)), some (.int x3)] [] (zW cI cG ad shX hx ++ zW cI cG adm shM hm)) : kG X D A 91 1740 441 [some (.ref b), some (.ref (ad 0)), some (.ref (adm 0)), some (.int x3)] [] (zW cI cG ad shX hx ++ zW cI cG adm shM hm) := by
  obtain ⟨r, e1, e2⟩ : ∃ a, SS_plant (xs (x3 + 1).toNatClampNeg) hx = some a ∧ Mo_plant (xs (x3 + 1).toNatClampNeg) hm = some a := by
    obtain ⟨P, S, Ls, Co, -⟩ := id I
    exact ask_plant Co (xs (x3 + 1).toNatClampNeg)
  refine k_aload_n C iL_441 rfl ?_
  refine k_aload_n C iL_442 rfl ?_
  refine k_iload_n C iL_443 rfl ?_
  refine k_iconst C 1 iL_444 (by decide) ?_
  refine k_iadd C iL_445 ?_
  refine k_sld C (fun s h => h.2) iL_446 h1 ?_
  refine k_callZL C wL_68 iL_447 (m_SS_plant (xs (x3 + 1).toNatClampNeg) hx) e1 (by decide) (fun s h => h.1.1) sh0 rfl rfl rfl rfl (Nat.le_of_ble_eq_true rfl) (Nat.le_of_ble_eq_true rfl) (Nat.le_of_ble_eq_true rfl) ?_
  show kG X D A 91 1740 450 [some (.ref b), some (.ref (ad 0)), some (.ref (adm 0)), some (.int x3)] [.int r] (zW cI cG ad shX hx ++ zW cI cG adm shM hm)
  refine k_aload_n C iL_450 rfl ?_
  refine k_aload_n C iL_451 rfl ?_
  refine k_iload_n C iL_452 rfl ?_
  refine k_iconst C 1 iL_453 (by decide) ?_
  refine k_iadd C iL_454 ?_
  refine k_sld C (fun s h => h.2) iL_455 h1 ?_
  refine k_callZR C wL_71 iL_456 (m_Mo_plant (xs (x3 + 1).toNatClampNeg) hm) e2 (by decide) (fun s h => h.1.1) mh0 rfl rfl rfl rfl (Nat.le_of_ble_eq_true rfl) (Nat.le_of_ble_eq_true rfl) (Nat.le_of_ble_eq_true rfl) ?_
  show kG X D A 91 1740 459 [some (.ref b), some (.ref (ad 0)), some (.ref (adm 0)), some (.int x3)] [.int r, .int r] (zW cI cG ad shX hx ++ zW cI cG adm shM hm)
  refine k_icmp_eq C 665 iL_459 (by decide) (fun _ => nx hx hm I) (fun h => absurd rfl h)
set_option maxHeartbeats 4000000 in
set_option maxRecDepth 100000 in
theorem law_14 {X : kX} {D : va_G} {cI cG : ClassId} {A : Nat → Prop} {k0 v0 b L : Nat} {xs : Nat → Int32} {nm : String} {ad adm : Nat → Nat} {x3 : Int32} {hx hm : zH} (C : kC X D cI cG A (kLw k0 v0 b L xs A) code R_law nm 10 600000 7302250) (h1 : vp_in (x3 + 1) L) (h2 : vp_in (x3 + 2) L) (h3 : vp_in (x3 + 3) L) (I : Inv hx hm) (nx : ∀ hx hm, Inv hx hm → kG X D A 91 1740 665 [some (.ref b), some (.ref (ad 0)), some (.ref (adm 0)), some (.int x3)] [] (zW cI cG ad shX hx ++ zW cI cG adm shM hm)) : kG X D A 91 1740 464 [some (.ref b), some (.ref (ad 0)), some (.ref (adm 0)), some (.int x3)] [] (zW cI cG ad shX hx ++ zW cI cG adm shM hm) := by
  obtain ⟨r, e1, e2⟩ : ∃ a, SS_isOn (xs (x3 + 1).toNatClampNeg) hx = some a ∧ Mo_isOn (xs (x3 + 1).toNatClampNeg) hm = some a := by
    obtain ⟨P, S, Ls, Co, -⟩ := id I
    exact ask_isOn Co (xs (x3 + 1).toNatClampNeg)
  refine k_aload_n C iL_464 rfl ?_
  refine k_aload_n C iL_465 rfl ?_
  refine k_iload_n C iL_466 rfl ?_
  refine k_iconst C 1 iL_467 (by decide) ?_
  refine k_iadd C iL_468 ?_
  refine k_sld C (fun s h => h.2) iL_469 h1 ?_
  refine k_callZL C wL_72 iL_470 (m_SS_isOn (xs (x3 + 1).toNatClampNeg) hx) e1 (by decide) (fun s h => h.1.1) sh0 rfl rfl rfl rfl (Nat.le_of_ble_eq_true rfl) (Nat.le_of_ble_eq_true rfl) (Nat.le_of_ble_eq_true rfl) ?_
  show kG X D A 91 1740 473 [some (.ref b), some (.ref (ad 0)), some (.ref (adm 0)), some (.int x3)] [.int r] (zW cI cG ad shX hx ++ zW cI cG adm shM hm)
  refine k_aload_n C iL_473 rfl ?_
  refine k_aload_n C iL_474 rfl ?_
  refine k_iload_n C iL_475 rfl ?_
  refine k_iconst C 1 iL_476 (by decide) ?_
  refine k_iadd C iL_477 ?_
  refine k_sld C (fun s h => h.2) iL_478 h1 ?_
  refine k_callZR C wL_75 iL_479 (m_Mo_isOn (xs (x3 + 1).toNatClampNeg) hm) e2 (by decide) (fun s h => h.1.1) mh0 rfl rfl rfl rfl (Nat.le_of_ble_eq_true rfl) (Nat.le_of_ble_eq_true rfl) (Nat.le_of_ble_eq_true rfl) ?_
  show kG X D A 91 1740 482 [some (.ref b), some (.ref (ad 0)), some (.ref (adm 0)), some (.int x3)] [.int r, .int r] (zW cI cG ad shX hx ++ zW cI cG adm shM hm)
  refine k_icmp_eq C 665 iL_482 (by decide) (fun _ => nx hx hm I) (fun h => absurd rfl h)
set_option maxHeartbeats 4000000 in
set_option maxRecDepth 100000 in
theorem law_15 {X : kX} {D : va_G} {cI cG : ClassId} {A : Nat → Prop} {k0 v0 b L : Nat} {xs : Nat → Int32} {nm : String} {ad adm : Nat → Nat} {x3 : Int32} {hx hm : zH} (C : kC X D cI cG A (kLw k0 v0 b L xs A) code R_law nm 10 600000 7302250) (h1 : vp_in (x3 + 1) L) (h2 : vp_in (x3 + 2) L) (h3 : vp_in (x3 + 3) L) (I : Inv hx hm) (nx : ∀ hx hm, Inv hx hm → kG X D A 91 1740 665 [some (.ref b), some (.ref (ad 0)), some (.ref (adm 0)), some (.int x3)] [] (zW cI cG ad shX hx ++ zW cI cG adm shM hm)) : kG X D A 91 1740 487 [some (.ref b), some (.ref (ad 0)), some (.ref (adm 0)), some (.int x3)] [] (zW cI cG ad shX hx ++ zW cI cG adm shM hm) := by
  obtain ⟨r, e1, e2⟩ : ∃ a, SS_isClosed (xs (x3 + 1).toNatClampNeg) hx = some a ∧ Mo_isClosed (xs (x3 + 1).toNatClampNeg) hm = some a := by
    obtain ⟨P, S, Ls, Co, -⟩ := id I
    exact ask_isClosed Co (xs (x3 + 1).toNatClampNeg)
  refine k_aload_n C iL_487 rfl ?_
  refine k_aload_n C iL_488 rfl ?_
  refine k_iload_n C iL_489 rfl ?_
  refine k_iconst C 1 iL_490 (by decide) ?_
  refine k_iadd C iL_491 ?_
  refine k_sld C (fun s h => h.2) iL_492 h1 ?_
  refine k_callZL C wL_76 iL_493 (m_SS_isClosed (xs (x3 + 1).toNatClampNeg) hx) e1 (by decide) (fun s h => h.1.1) sh0 rfl rfl rfl rfl (Nat.le_of_ble_eq_true rfl) (Nat.le_of_ble_eq_true rfl) (Nat.le_of_ble_eq_true rfl) ?_
  show kG X D A 91 1740 496 [some (.ref b), some (.ref (ad 0)), some (.ref (adm 0)), some (.int x3)] [.int r] (zW cI cG ad shX hx ++ zW cI cG adm shM hm)
  refine k_aload_n C iL_496 rfl ?_
  refine k_aload_n C iL_497 rfl ?_
  refine k_iload_n C iL_498 rfl ?_
  refine k_iconst C 1 iL_499 (by decide) ?_
  refine k_iadd C iL_500 ?_
  refine k_sld C (fun s h => h.2) iL_501 h1 ?_
  refine k_callZR C wL_79 iL_502 (m_Mo_isClosed (xs (x3 + 1).toNatClampNeg) hm) e2 (by decide) (fun s h => h.1.1) mh0 rfl rfl rfl rfl (Nat.le_of_ble_eq_true rfl) (Nat.le_of_ble_eq_true rfl) (Nat.le_of_ble_eq_true rfl) ?_
  show kG X D A 91 1740 505 [some (.ref b), some (.ref (ad 0)), some (.ref (adm 0)), some (.int x3)] [.int r, .int r] (zW cI cG ad shX hx ++ zW cI cG adm shM hm)
  refine k_icmp_eq C 665 iL_505 (by decide) (fun _ => nx hx hm I) (fun h => absurd rfl h)
set_option maxHeartbeats 4000000 in
set_option maxRecDepth 100000 in
theorem law_16 {X : kX} {D : va_G} {cI cG : ClassId} {A : Nat → Prop} {k0 v0 b L : Nat} {xs : Nat → Int32} {nm : String} {ad adm : Nat → Nat} {x3 : Int32} {hx hm : zH} (C : kC X D cI cG A (kLw k0 v0 b L xs A) code R_law nm 10 600000 7302250) (h1 : vp_in (x3 + 1) L) (h2 : vp_in (x3 + 2) L) (h3 : vp_in (x3 + 3) L) (I : Inv hx hm) (nx : ∀ hx hm, Inv hx hm → kG X D A 91 1740 665 [some (.ref b), some (.ref (ad 0)), some (.ref (adm 0)), some (.int x3)] [] (zW cI cG ad shX hx ++ zW cI cG adm shM hm)) : kG X D A 91 1740 510 [some (.ref b), some (.ref (ad 0)), some (.ref (adm 0)), some (.int x3)] [] (zW cI cG ad shX hx ++ zW cI cG adm shM hm) := by
  obtain ⟨r, e1, e2⟩ : ∃ a, SS_dropped (xs (x3 + 1).toNatClampNeg) hx = some a ∧ Mo_dropped (xs (x3 + 1).toNatClampNeg) hm = some a := by
    obtain ⟨P, S, Ls, Co, -⟩ := id I
    exact ask_dropped Co (xs (x3 + 1).toNatClampNeg)
  refine k_aload_n C iL_510 rfl ?_
  refine k_aload_n C iL_511 rfl ?_
  refine k_iload_n C iL_512 rfl ?_
  refine k_iconst C 1 iL_513 (by decide) ?_
  refine k_iadd C iL_514 ?_
  refine k_sld C (fun s h => h.2) iL_515 h1 ?_
  refine k_callZL C wL_80 iL_516 (m_SS_dropped (xs (x3 + 1).toNatClampNeg) hx) e1 (by decide) (fun s h => h.1.1) sh0 rfl rfl rfl rfl (Nat.le_of_ble_eq_true rfl) (Nat.le_of_ble_eq_true rfl) (Nat.le_of_ble_eq_true rfl) ?_
  show kG X D A 91 1740 519 [some (.ref b), some (.ref (ad 0)), some (.ref (adm 0)), some (.int x3)] [.int r] (zW cI cG ad shX hx ++ zW cI cG adm shM hm)
  refine k_aload_n C iL_519 rfl ?_
  refine k_aload_n C iL_520 rfl ?_
  refine k_iload_n C iL_521 rfl ?_
  refine k_iconst C 1 iL_522 (by decide) ?_
  refine k_iadd C iL_523 ?_
  refine k_sld C (fun s h => h.2) iL_524 h1 ?_
  refine k_callZR C wL_83 iL_525 (m_Mo_dropped (xs (x3 + 1).toNatClampNeg) hm) e2 (by decide) (fun s h => h.1.1) mh0 rfl rfl rfl rfl (Nat.le_of_ble_eq_true rfl) (Nat.le_of_ble_eq_true rfl) (Nat.le_of_ble_eq_true rfl) ?_
  show kG X D A 91 1740 528 [some (.ref b), some (.ref (ad 0)), some (.ref (adm 0)), some (.int x3)] [.int r, .int r] (zW cI cG ad shX hx ++ zW cI cG adm shM hm)
  refine k_icmp_eq C 665 iL_528 (by decide) (fun _ => nx hx hm I) (fun h => absurd rfl h)
set_option maxHeartbeats 4000000 in
set_option maxRecDepth 100000 in
theorem law_17 {X : kX} {D : va_G} {cI cG : ClassId} {A : Nat → Prop} {k0 v0 b L : Nat} {xs : Nat → Int32} {nm : String} {ad adm : Nat → Nat} {x3 : Int32} {hx hm : zH} (C : kC X D cI cG A (kLw k0 v0 b L xs A) code R_law nm 10 600000 7302250) (h1 : vp_in (x3 + 1) L) (h2 : vp_in (x3 + 2) L) (h3 : vp_in (x3 + 3) L) (I : Inv hx hm) (nx : ∀ hx hm, Inv hx hm → kG X D A 91 1740 665 [some (.ref b), some (.ref (ad 0)), some (.ref (adm 0)), some (.int x3)] [] (zW cI cG ad shX hx ++ zW cI cG adm shM hm)) : kG X D A 91 1740 533 [some (.ref b), some (.ref (ad 0)), some (.ref (adm 0)), some (.int x3)] [] (zW cI cG ad shX hx ++ zW cI cG adm shM hm) := by
  obtain ⟨r, hx', hm', e1, e2, I'⟩ := do_ahead I (xs (x3 + 1).toNatClampNeg) (xs (x3 + 2).toNatClampNeg) (xs (x3 + 3).toNatClampNeg)
  refine k_aload_n C iL_533 rfl ?_
  refine k_aload_n C iL_534 rfl ?_
  refine k_iload_n C iL_535 rfl ?_
  refine k_iconst C 1 iL_536 (by decide) ?_
  refine k_iadd C iL_537 ?_
  refine k_sld C (fun s h => h.2) iL_538 h1 ?_
  refine k_aload_n C iL_539 rfl ?_
  refine k_iload_n C iL_540 rfl ?_
  refine k_iconst C 2 iL_541 (by decide) ?_
  refine k_iadd C iL_542 ?_
  refine k_sld C (fun s h => h.2) iL_543 h2 ?_
  refine k_aload_n C iL_544 rfl ?_
  refine k_iload_n C iL_545 rfl ?_
  refine k_iconst C 3 iL_546 (by decide) ?_
  refine k_iadd C iL_547 ?_
  refine k_sld C (fun s h => h.2) iL_548 h3 ?_
  refine k_callZL C wL_84 iL_549 (m_SS_ahead (xs (x3 + 1).toNatClampNeg) (xs (x3 + 2).toNatClampNeg) (xs (x3 + 3).toNatClampNeg) hx) e1 (by decide) (fun s h => h.1.1) sh0 rfl rfl rfl rfl (Nat.le_of_ble_eq_true rfl) (Nat.le_of_ble_eq_true rfl) (Nat.le_of_ble_eq_true rfl) ?_
  show kG X D A 91 1740 552 [some (.ref b), some (.ref (ad 0)), some (.ref (adm 0)), some (.int x3)] [.int r] (zW cI cG ad shX hx' ++ zW cI cG adm shM hm)
  refine k_aload_n C iL_552 rfl ?_
  refine k_aload_n C iL_553 rfl ?_
  refine k_iload_n C iL_554 rfl ?_
  refine k_iconst C 1 iL_555 (by decide) ?_
  refine k_iadd C iL_556 ?_
  refine k_sld C (fun s h => h.2) iL_557 h1 ?_
  refine k_aload_n C iL_558 rfl ?_
  refine k_iload_n C iL_559 rfl ?_
  refine k_iconst C 2 iL_560 (by decide) ?_
  refine k_iadd C iL_561 ?_
  refine k_sld C (fun s h => h.2) iL_562 h2 ?_
  refine k_aload_n C iL_563 rfl ?_
  refine k_iload_n C iL_564 rfl ?_
  refine k_iconst C 3 iL_565 (by decide) ?_
  refine k_iadd C iL_566 ?_
  refine k_sld C (fun s h => h.2) iL_567 h3 ?_
  refine k_callZR C wL_88 iL_568 (m_Mo_ahead (xs (x3 + 1).toNatClampNeg) (xs (x3 + 2).toNatClampNeg) (xs (x3 + 3).toNatClampNeg) hm) e2 (by decide) (fun s h => h.1.1) mh0 rfl rfl rfl rfl (Nat.le_of_ble_eq_true rfl) (Nat.le_of_ble_eq_true rfl) (Nat.le_of_ble_eq_true rfl) ?_
  show kG X D A 91 1740 571 [some (.ref b), some (.ref (ad 0)), some (.ref (adm 0)), some (.int x3)] [.int r, .int r] (zW cI cG ad shX hx' ++ zW cI cG adm shM hm')
  refine k_icmp_eq C 665 iL_571 (by decide) (fun _ => nx hx' hm' I') (fun h => absurd rfl h)
set_option maxHeartbeats 4000000 in
set_option maxRecDepth 100000 in
theorem law_18 {X : kX} {D : va_G} {cI cG : ClassId} {A : Nat → Prop} {k0 v0 b L : Nat} {xs : Nat → Int32} {nm : String} {ad adm : Nat → Nat} {x3 : Int32} {hx hm : zH} (C : kC X D cI cG A (kLw k0 v0 b L xs A) code R_law nm 10 600000 7302250) (h1 : vp_in (x3 + 1) L) (h2 : vp_in (x3 + 2) L) (h3 : vp_in (x3 + 3) L) (I : Inv hx hm) (nx : ∀ hx hm, Inv hx hm → kG X D A 91 1740 665 [some (.ref b), some (.ref (ad 0)), some (.ref (adm 0)), some (.int x3)] [] (zW cI cG ad shX hx ++ zW cI cG adm shM hm)) : kG X D A 91 1740 576 [some (.ref b), some (.ref (ad 0)), some (.ref (adm 0)), some (.int x3)] [] (zW cI cG ad shX hx ++ zW cI cG adm shM hm) := by
  obtain ⟨r, hx', hm', e1, e2, I'⟩ := do_least I (xs (x3 + 1).toNatClampNeg) (xs (x3 + 2).toNatClampNeg) (xs (x3 + 3).toNatClampNeg)
  refine k_aload_n C iL_576 rfl ?_
  refine k_aload_n C iL_577 rfl ?_
  refine k_iload_n C iL_578 rfl ?_
  refine k_iconst C 1 iL_579 (by decide) ?_
  refine k_iadd C iL_580 ?_
  refine k_sld C (fun s h => h.2) iL_581 h1 ?_
  refine k_aload_n C iL_582 rfl ?_
  refine k_iload_n C iL_583 rfl ?_
  refine k_iconst C 2 iL_584 (by decide) ?_
  refine k_iadd C iL_585 ?_
  refine k_sld C (fun s h => h.2) iL_586 h2 ?_
  refine k_aload_n C iL_587 rfl ?_
  refine k_iload_n C iL_588 rfl ?_
  refine k_iconst C 3 iL_589 (by decide) ?_
  refine k_iadd C iL_590 ?_
  refine k_sld C (fun s h => h.2) iL_591 h3 ?_
  refine k_callZL C wL_89 iL_592 (m_SS_least (xs (x3 + 1).toNatClampNeg) (xs (x3 + 2).toNatClampNeg) (xs (x3 + 3).toNatClampNeg) hx) e1 (by decide) (fun s h => h.1.1) sh0 rfl rfl rfl rfl (Nat.le_of_ble_eq_true rfl) (Nat.le_of_ble_eq_true rfl) (Nat.le_of_ble_eq_true rfl) ?_
  show kG X D A 91 1740 595 [some (.ref b), some (.ref (ad 0)), some (.ref (adm 0)), some (.int x3)] [.int r] (zW cI cG ad shX hx' ++ zW cI cG adm shM hm)
  refine k_aload_n C iL_595 rfl ?_
  refine k_aload_n C iL_596 rfl ?_
  refine k_iload_n C iL_597 rfl ?_
  refine k_iconst C 1 iL_598 (by decide) ?_
  refine k_iadd C iL_599 ?_
  refine k_sld C (fun s h => h.2) iL_600 h1 ?_
  refine k_aload_n C iL_601 rfl ?_
  refine k_iload_n C iL_602 rfl ?_
  refine k_iconst C 2 iL_603 (by decide) ?_
  refine k_iadd C iL_604 ?_
  refine k_sld C (fun s h => h.2) iL_605 h2 ?_
  refine k_aload_n C iL_606 rfl ?_
  refine k_iload_n C iL_607 rfl ?_
  refine k_iconst C 3 iL_608 (by decide) ?_
  refine k_iadd C iL_609 ?_
  refine k_sld C (fun s h => h.2) iL_610 h3 ?_
  refine k_callZR C wL_92 iL_611 (m_Mo_least (xs (x3 + 1).toNatClampNeg) (xs (x3 + 2).toNatClampNeg) (xs (x3 + 3).toNatClampNeg) hm) e2 (by decide) (fun s h => h.1.1) mh0 rfl rfl rfl rfl (Nat.le_of_ble_eq_true rfl) (Nat.le_of_ble_eq_true rfl) (Nat.le_of_ble_eq_true rfl) ?_
  show kG X D A 91 1740 614 [some (.ref b), some (.ref (ad 0)), some (.ref (adm 0)), some (.int x3)] [.int r, .int r] (zW cI cG ad shX hx' ++ zW cI cG adm shM hm')
  refine k_icmp_eq C 665 iL_614 (by decide) (fun _ => nx hx' hm' I') (fun h => absurd rfl h)
set_option maxHeartbeats 4000000 in
set_option maxRecDepth 100000 in
theorem law_19 {X : kX} {D : va_G} {cI cG : ClassId} {A : Nat → Prop} {k0 v0 b L : Nat} {xs : Nat → Int32} {nm : String} {ad adm : Nat → Nat} {x3 : Int32} {hx hm : zH} (C : kC X D cI cG A (kLw k0 v0 b L xs A) code R_law nm 10 600000 7302250) (h1 : vp_in (x3 + 1) L) (h2 : vp_in (x3 + 2) L) (h3 : vp_in (x3 + 3) L) (I : Inv hx hm) (nx : ∀ hx hm, Inv hx hm → kG X D A 91 1740 665 [some (.ref b), some (.ref (ad 0)), some (.ref (adm 0)), some (.int x3)] [] (zW cI cG ad shX hx ++ zW cI cG adm shM hm)) : kG X D A 91 1740 619 [some (.ref b), some (.ref (ad 0)), some (.ref (adm 0)), some (.int x3)] [] (zW cI cG ad shX hx ++ zW cI cG adm shM hm) := by
  obtain ⟨r, hx', hm', e1, e2, I'⟩ := do_dark I (xs (x3 + 1).toNatClampNeg)
  refine k_aload_n C iL_619 rfl ?_
  refine k_aload_n C iL_620 rfl ?_
  refine k_iload_n C iL_621 rfl ?_
  refine k_iconst C 1 iL_622 (by decide) ?_
  refine k_iadd C iL_623 ?_
  refine k_sld C (fun s h => h.2) iL_624 h1 ?_
  refine k_callZL C wL_93 iL_625 (m_SS_dark (xs (x3 + 1).toNatClampNeg) hx) e1 (by decide) (fun s h => h.1.1) sh0 rfl rfl rfl rfl (Nat.le_of_ble_eq_true rfl) (Nat.le_of_ble_eq_true rfl) (Nat.le_of_ble_eq_true rfl) ?_
  show kG X D A 91 1740 628 [some (.ref b), some (.ref (ad 0)), some (.ref (adm 0)), some (.int x3)] [.int r] (zW cI cG ad shX hx' ++ zW cI cG adm shM hm)
  refine k_aload_n C iL_628 rfl ?_
  refine k_aload_n C iL_629 rfl ?_
  refine k_iload_n C iL_630 rfl ?_
  refine k_iconst C 1 iL_631 (by decide) ?_
  refine k_iadd C iL_632 ?_
  refine k_sld C (fun s h => h.2) iL_633 h1 ?_
  refine k_callZR C wL_96 iL_634 (m_Mo_dark (xs (x3 + 1).toNatClampNeg) hm) e2 (by decide) (fun s h => h.1.1) mh0 rfl rfl rfl rfl (Nat.le_of_ble_eq_true rfl) (Nat.le_of_ble_eq_true rfl) (Nat.le_of_ble_eq_true rfl) ?_
  show kG X D A 91 1740 637 [some (.ref b), some (.ref (ad 0)), some (.ref (adm 0)), some (.int x3)] [.int r, .int r] (zW cI cG ad shX hx' ++ zW cI cG adm shM hm')
  refine k_icmp_eq C 665 iL_637 (by decide) (fun _ => nx hx' hm' I') (fun h => absurd rfl h)
set_option maxHeartbeats 4000000 in
set_option maxRecDepth 100000 in
theorem law_20 {X : kX} {D : va_G} {cI cG : ClassId} {A : Nat → Prop} {k0 v0 b L : Nat} {xs : Nat → Int32} {nm : String} {ad adm : Nat → Nat} {x3 : Int32} {hx hm : zH} (C : kC X D cI cG A (kLw k0 v0 b L xs A) code R_law nm 10 600000 7302250) (h1 : vp_in (x3 + 1) L) (h2 : vp_in (x3 + 2) L) (h3 : vp_in (x3 + 3) L) (I : Inv hx hm) (nx : ∀ hx hm, Inv hx hm → kG X D A 91 1740 665 [some (.ref b), some (.ref (ad 0)), some (.ref (adm 0)), some (.int x3)] [] (zW cI cG ad shX hx ++ zW cI cG adm shM hm)) : kG X D A 91 1740 642 [some (.ref b), some (.ref (ad 0)), some (.ref (adm 0)), some (.int x3)] [] (zW cI cG ad shX hx ++ zW cI cG adm shM hm) := by
  obtain ⟨r, e1, e2⟩ := do_count I (xs (x3 + 1).toNatClampNeg)
  refine k_aload_n C iL_642 rfl ?_
  refine k_aload_n C iL_643 rfl ?_
  refine k_iload_n C iL_644 rfl ?_
  refine k_iconst C 1 iL_645 (by decide) ?_
  refine k_iadd C iL_646 ?_
  refine k_sld C (fun s h => h.2) iL_647 h1 ?_
  refine k_callZL C wL_97 iL_648 (m_SS_count (xs (x3 + 1).toNatClampNeg) hx) e1 (by decide) (fun s h => h.1.1) sh0 rfl rfl rfl rfl (Nat.le_of_ble_eq_true rfl) (Nat.le_of_ble_eq_true rfl) (Nat.le_of_ble_eq_true rfl) ?_
  show kG X D A 91 1740 651 [some (.ref b), some (.ref (ad 0)), some (.ref (adm 0)), some (.int x3)] [.int r] (zW cI cG ad shX hx ++ zW cI cG adm shM hm)
  refine k_aload_n C iL_651 rfl ?_
  refine k_aload_n C iL_652 rfl ?_
  refine k_iload_n C iL_653 rfl ?_
  refine k_iconst C 1 iL_654 (by decide) ?_
  refine k_iadd C iL_655 ?_
  refine k_sld C (fun s h => h.2) iL_656 h1 ?_
  refine k_callZR C wL_100 iL_657 (m_Mo_count (xs (x3 + 1).toNatClampNeg) hm) e2 (by decide) (fun s h => h.1.1) mh0 rfl rfl rfl rfl (Nat.le_of_ble_eq_true rfl) (Nat.le_of_ble_eq_true rfl) (Nat.le_of_ble_eq_true rfl) ?_
  show kG X D A 91 1740 660 [some (.ref b), some (.ref (ad 0)), some (.ref (adm 0)), some (.int x3)] [.int r, .int r] (zW cI cG ad shX hx ++ zW cI cG adm shM hm)
  refine k_icmp_eq C 665 iL_660 (by decide) (fun _ => nx hx hm I) (fun h => absurd rfl h)
