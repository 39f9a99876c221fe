set_option maxHeartbeats 4000000 in
set_option maxRecDepth 100000 in
theorem start_three {X : kX} {D : va_G} {cI cG : ClassId} {A : Nat → Prop} {k0 v0 b L q1 : Nat} {xs : Nat → Int32} {nm : String} {ad adm : Nat → Nat} {h3 hm3 : zH} (hL : L ≤ 2048) (C : kC X D cI cG A (kLw k0 v0 b L xs A) code R_law nm 10 600000 7302250) (hnL : 4 = X.2.2.2.2.2.2.2.2.2.2.1) (hend : ∀ (lv : List (Option Value)) (ws : va_W), kG X D A 91 1740 671 lv [] ws) (hq : adm 0 = q1) (I : Inv h3 hm3) : kG X D A 91 1740 15 [some (.ref b), some (.ref (ad 0)), none, none] [.ref q1] (zW cI cG ad shX h3 ++ zW cI cG adm shM hm3) := by
  rw [← hq]
  refine k_astore_n (lv' := [some (.ref b), some (.ref (ad 0)), some (.ref (adm 0)), none]) C hnL iL_15 (by decide) rfl ?_
  refine k_iconst C 0 iL_16 (by decide) ?_
  refine k_istore_n (lv' := [some (.ref b), some (.ref (ad 0)), some (.ref (adm 0)), some (.int (nI 0))]) C hnL iL_17 (by decide) rfl ?_
  exact law_loop hL C hnL hend (L + 1) 0 (Nat.zero_le _) (by omega) h3 hm3 I
set_option maxHeartbeats 4000000 in
set_option maxRecDepth 100000 in
theorem start_two {X : kX} {D : va_G} {cI cG : ClassId} {A : Nat → Prop} {k0 v0 b L q0 : Nat} {xs : Nat → Int32} {nm : String} {ad : Nat → Nat} {h3 hmR hm3 : zH} (hL : L ≤ 2048) (C : kC X D cI cG A (kLw k0 v0 b L xs A) code R_law nm 10 600000 7302250) (hnL : 4 = X.2.2.2.2.2.2.2.2.2.2.1) (hend : ∀ (lv : List (Option Value)) (ws : va_W), kG X D A 91 1740 671 lv [] ws) (hq : ad 0 = q0) (r3 : mkM h00 = some hmR) (r4 : Mo_takes hmR = some hm3) (I : Inv h3 hm3) : kG X D A 81 949 7 [some (.ref b), none, none, none] [.ref q0] (zW cI cG ad shX h3) := by
  rw [← hq]
  refine k_astore_n (lv' := [some (.ref b), some (.ref (ad 0)), none, none]) C hnL iL_7 (by decide) rfl ?_
  refine k_new C mkL_10 iL_8 (by omega) (by omega) (fun q1 => ?_)
  refine k_dup C iL_11 rfl ?_
  refine k_callI C ciX7 wiL_12 iL_12 (n_Mo q1 r3 r4) (by decide) (kNw_E (fun s h => h.1.1)) rfl rfl (Nat.le_of_ble_eq_true rfl) (by omega) (by omega) (fun w1 hw1 => ?_)
  refine Exists.elim hw1 (fun adm hh => ?_)
  refine k_eq (ws' := (zW cI cG ad shX h3 ++ zW cI cG adm shM hm3)) (by rw [hh.2]) ?_
  exact start_three hL C hnL hend hh.1 I
set_option maxHeartbeats 4000000 in
set_option maxRecDepth 100000 in
theorem start_main {X : kX} {D : va_G} {cI cG : ClassId} {A : Nat → Prop} {k0 v0 b L : Nat} {xs : Nat → Int32} {nm : String} (hL : L ≤ 2048) (C : kC X D cI cG A (kLw k0 v0 b L xs A) code R_law nm 10 600000 7302250) (hnL : 4 = X.2.2.2.2.2.2.2.2.2.2.1) (hend : ∀ (lv : List (Option Value)) (ws : va_W), kG X D A 91 1740 671 lv [] ws) : kG X D A 0 0 0 [some (.ref b), none, none, none] [] [] := by
  obtain ⟨v, h1, h3, hmR, hm3, r1, r2, r3, r4, I⟩ := start_inv
  refine k_new C mkL_7 iL_0 (by omega) (by omega) (fun q0 => ?_)
  refine k_dup C iL_3 rfl ?_
  refine k_callI C ciX6 wiL_9 iL_4 (n_SS q0 r1 r2) (by decide) (kSs_E (fun s h => h.1)) rfl rfl (Nat.le_of_ble_eq_true rfl) (by omega) (by omega) (fun w1 hw1 => ?_)
  refine Exists.elim hw1 (fun ad hh => ?_)
  refine k_eq (ws' := zW cI cG ad shX h3) (by rw [hh.2, List.nil_append]) ?_
  exact start_two hL C hnL hend hh.1 r3 r4 I
