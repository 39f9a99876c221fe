set_option maxHeartbeats 4000000 in
set_option maxRecDepth 100000 in
theorem whole_start {p : Program} {e : Env} {s : State} {m : MethodId} {below : List Frame} {meth : Method} {c : Code} (l : Launch) (hflags : l.flags = flags0) {b L : Nat} {xs : Nat → Int32} (hL : L ≤ 2048) (C0 : lw_At p s m meth c b L xs) : W p l e room_1 s m #[Value.ref b] below meth c s.heap [] 0 0 (lw_Z below #[Value.ref b] s) (entryFrame m ([Value.ref b] : List Value).toArray 4) := by
  obtain ⟨hx, hb, hr, hml, hown, hts, hX, hbl, hlocks, hgv⟩ := id C0
  obtain ⟨D, cI, cG, hK⟩ := start_K hts
  obtain ⟨k0, v0, hS1⟩ := start_S hts hgv
  have htz : ∀ w ∈ zWd, w.before #[Value.ref b] s = true := fun w hw => hts w (List.mem_filter.mp hw).1
  have C : kC (p, l, e, room_1, s, m, #[Value.ref b], below, meth, c, 4, lw_Z below #[Value.ref b] s) D cI cG (fun q : Nat => s.heap.size ≤ q) (kLw k0 v0 b L xs (fun q : Nat => s.heap.size ≤ q)) code R_law meth.name 10 600000 7302250 := ⟨hx, hb, hml, hown, htz, hK, rfl, fun _ h => h, rfl, rfl, rfl, by decide, hS1, hX, hbl, Nat.not_le.mpr hbl⟩
  have main := start_main hL C rfl (fun lv ws H locs ls hP hD hS hL => lv_iconst (v := 1) hx hb iL_671.1 (by decide) (va_forget (fun q hq => hS.2.2 q hq) (W.widen (k := 600000) (n := 7302250) (Nat.le_of_ble_eq_true rfl) (Nat.le_of_ble_eq_true rfl) (lw_ret hx hb hr hlocks iL_672.1))))
  rw [lg_entry_eq]
  exact main s.heap [] _ (fun k q h => by simp at h) ⟨fun i j p q h => by simp at h, fun k q h => by simp at h⟩ va_S.rf (zL_entry (vs := [Value.ref b]) (n := 4) (fun v hv => by rw [List.mem_singleton.mp hv]; rfl) (Nat.le_of_ble_eq_true rfl))
