/-! the law, from its entry -/
set_option maxHeartbeats 4000000 in
set_option maxRecDepth 100000 in
theorem whole_start {p : Program} {e : Env} {s : State} {m : MethodId} {below : List Frame} {meth : Method} {c : Code} (l : Launch) {b L : Nat} {xs : Nat → Int32} (hL : L ≤ 384) (C0 : lw_At p s m meth c b L xs) : W p l e room_1 s m #[Value.ref b] below meth c s.heap [] 0 0 (lw_Z below #[Value.ref b] s) (entryFrame m ([Value.ref b] : List Value).toArray 4) := by
  obtain ⟨hx, hb, hr, hml, hown, hts, hX, hbl, hlocks, hgv⟩ := id C0
  obtain ⟨G, hG, hN0, hN1, hN4, hC, hAO⟩ := start_ctx l hL hts hX hbl hgv
  subst hG
  subst hN1
  have hB : BC G mL_law p s m c := ⟨hx, hb, hml, hown, hC, Nat.le_of_eq hN0, hAO⟩
  have hS : va_S (AA G) s.heap s.heap [] := va_S.rf
  have hl := lv_entry ([.ref (gN G 1)]) (n := 4) (Nat.le_of_ble_eq_true rfl)
  rw [lg_entry_eq]
  generalize (lg_sl ([.ref (gN G 1)]) ++ List.replicate (4 - (lg_sl ([.ref (gN G 1)])).length) Slot.unset).toArray = ls at hl ⊢
  have hl : lv_has ls 4 [(0, .ref (gN G 1))] := hl
  have hR : BRep G 0 (fun _ => .inr (0, [])) s.heap := fun k q h => by rw [bcl_no (Nat.zero_le k)] at h; cases h
  refine b_new (M := mL_law) tyX5 fwX5 tyX5_ok (by decide +kernel) (by decide +kernel) (by decide +kernel) hB hR hS (by omega) [.null, .null, .null, .int 0, .null, .null, .null, .null, .null, .null, .null, .null, .null, .null] (by decide +kernel) (Nat.le_of_ble_eq_true rfl) (Nat.le_of_ble_eq_true rfl) dL_law_0 (fun H hR hS => ?_)
  refine lv_dup hx hb dL_law_3 rfl ?_
  refine b_call (M := mL_law) (N := mX5_init) (K2 := 132) (mc := 131) (ms := 1090) oiX5 (Or.inl (by decide +kernel)) (Nat.le_of_ble_eq_true rfl) (Nat.le_of_ble_eq_true rfl) hB hR hS (by decide) (by omega) hl.1 (Nat.le_of_ble_eq_true rfl) dL_law_4 ⟨Nat.le_of_ble_eq_true rfl, Nat.le_of_ble_eq_true rfl⟩ (bX5 upE_s) (fun E2 H locs hp hR hS => ?_)
  refine lv_astore_n (lv' := [(1, .ref (gN G 0 + 0)), (0, .ref (gN G 1))]) hx hb dL_law_7 rfl hl (by decide) rfl (fun ls hl => ?_)
  refine b_new (M := mL_law) tyX6 fwX6 tyX6_ok (by decide +kernel) (by decide +kernel) (by decide +kernel) hB hR hS (by omega) [.null, .null, .int 0, .int 0, .null, .int 0, .null, .null, .null, .int 0, .int 0, .int 0, .null, .null, .int 0, .int 0, .null, .null, .null, .null] (by decide +kernel) (Nat.le_of_ble_eq_true rfl) (Nat.le_of_ble_eq_true rfl) dL_law_8 (fun H hR hS => ?_)
  refine lv_dup hx hb dL_law_11 rfl ?_
  refine b_call (M := mL_law) (N := mX6_init) (K2 := 145) (mc := 12) (ms := 1420) oiX6 (Or.inl (by decide +kernel)) (Nat.le_of_ble_eq_true rfl) (Nat.le_of_ble_eq_true rfl) hB hR hS (by decide) (by omega) hl.1 (Nat.le_of_ble_eq_true rfl) dL_law_12 ⟨Nat.le_of_ble_eq_true rfl, Nat.le_of_ble_eq_true rfl⟩ (bX6 upE_s) (fun E4 H locs hp4 hR hS => ?_)
  have hRep : Rep G t0 H := rep0 hR (fun k hk => by
    rcases Nat.lt_or_ge k 132 with q | q
    · rw [hp4.1 k q, upE_n (by omega)]; exact hp.2 k (Nat.zero_le k) q
    · exact hp4.2 k q hk)
  refine lv_astore_n (lv' := [(2, .ref (gN G 0 + 132)), (1, .ref (gN G 0 + 0)), (0, .ref (gN G 1))]) hx hb dL_law_15 rfl hl (by decide) rfl (fun ls hl => ?_)
  refine lv_iconst (v := 0) hx hb dL_law_16 (by decide) ?_
  refine lv_istore_n (lv' := [(3, .int 0), (2, .ref (gN G 0 + 132)), (1, .ref (gN G 0 + 0)), (0, .ref (gN G 1))]) hx hb dL_law_17 rfl hl (by decide) rfl (fun ls hl => ?_)
  have hV := law_loop (G := G) hN4 65 0 t0 (by omega) (by omega) (by omega) rel0
  refine hV p e room_1 s m #[Value.ref (gN G 1)] below meth c _ _ (lw_Z below #[Value.ref (gN G 1)] s) ⟨hx, hb, hml, hown, hC, Nat.le_of_ble_eq_true rfl, Nat.le_of_ble_eq_true rfl, Nat.le_of_ble_eq_true rfl, Nat.le_of_ble_eq_true rfl, fun H locs la pc r t _ hS hq => ⟨fun hd _ => ?_, fun _ hk => by cases hk⟩⟩ H locs ls hRep hS (lv_sub hl [3, 2, 1, 0] rfl)
  rw [hq]
  refine va_forget (fun q hq => ?_) (W.widen (k := 600000) (n := 7302250) (Nat.le_of_ble_eq_true rfl) (Nat.le_of_ble_eq_true rfl) (lw_ret hx hb hr hlocks hd))
  have := hS.2.2 q hq
  have h2 : gN G 0 ≤ q.base := this
  omega
