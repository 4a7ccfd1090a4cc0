/-! the constructors without calls -/
set_option maxHeartbeats 4000000 in
set_option maxRecDepth 100000 in
theorem bX0 {G : GG} {a : Nat} (ha : IsCamp a) {E : BE} (hE : E a = .inr (0, [.int 0, .int 0, .int 0, .int 0, .int 0, .int 0, .int 0, .int 0, .null, .null, .null, .null, .null, .int 0])) : BX G mX0_init a (a + 1) (a + 6) 5 35 E (Pst G E a (a + 6)) := by
  refine Met.ofW (cc := cX0_init) (maxL := 1) (ret := none) (by decide) rfl ?_
  intro p e s m args below meth c s₁ B hml hv
  obtain ⟨rfl, hsz, hR, hC, hAO⟩ := hv
  have hB : BC G mX0_init p s m c := ⟨B.exec, B.bytes, hml, findClass_of_methodNamed B.named, hC, by omega, hAO⟩
  have hin : meth.name = "<init>" := (name_of_methodNamed B.named B.method).1
  have hlocks := B.notSynchronized
  have hS : va_S (AA G) s.heap s.heap [] := va_S.rf
  have hl := lv_entry ([.ref (gN G 0 + a)]) (n := 1) (Nat.le_of_ble_eq_true rfl)
  rw [lg_entry_eq]
  generalize (lg_sl ([.ref (gN G 0 + a)]) ++ List.replicate (1 - (lg_sl ([.ref (gN G 0 + a)])).length) Slot.unset).toArray = ls at hl ⊢
  have hl : lv_has ls 1 [(0, .ref (gN G 0 + a))] := hl
  have hx := B.exec
  have hb := B.bytes
  have hr := B.returns
  have hSt : St G 0 E a 0 [.int 0, .int 0, .int 0, .int 0, .int 0, .int 0, .int 0, .int 0, .null, .null, .null, .null, .null, .int 0] nop E := ⟨hE, fun _ _ => rfl, fun k h1 h2 => absurd h2 (by omega), fun k v h1 h2 => absurd h2 (by omega)⟩
  refine lv_aload_n hx hb dX0_init_0 rfl (lv_at hl 0 rfl) ?_
  refine b_obj (M := mX0_init) (by decide +kernel) hB hl.1 (Nat.le_of_ble_eq_true rfl) (Nat.le_of_ble_eq_true rfl) dX0_init_1 ?_
  refine lv_aload_n hx hb dX0_init_4 rfl (lv_at hl 0 rfl) ?_
  refine lv_iconst (v := 4) hx hb dX0_init_5 (by decide) ?_
  refine s_put tyX0 (ty := .int) fwX0 tyX0_ok nmX0 (j := 0) (by decide) rfl (by decide +kernel) (by decide +kernel) hB hSt hR hS rfl rfl (Nat.le_of_ble_eq_true rfl) dX0_init_6 (fun F H locs hSt hR hS => ?_)
  have hSt : St G 0 E a 0 [.int 4, .int 0, .int 0, .int 0, .int 0, .int 0, .int 0, .int 0, .null, .null, .null, .null, .null, .int 0] nop F := hSt
  have hR : BRep G (a + 1 + 0) F H := hR
  refine lv_aload_n hx hb dX0_init_9 rfl (lv_at hl 0 rfl) ?_
  refine lv_bipush (v := 10) hx hb dX0_init_10 (by decide) ?_
  refine s_put tyX0 (ty := .int) fwX0 tyX0_ok nmX0 (j := 1) (by decide) rfl (by decide +kernel) (by decide +kernel) hB hSt hR hS rfl rfl (Nat.le_of_ble_eq_true rfl) dX0_init_12 (fun F H locs hSt hR hS => ?_)
  have hSt : St G 0 E a 0 [.int 4, .int 10, .int 0, .int 0, .int 0, .int 0, .int 0, .int 0, .null, .null, .null, .null, .null, .int 0] nop F := hSt
  have hR : BRep G (a + 1 + 0) F H := hR
  refine lv_aload_n hx hb dX0_init_15 rfl (lv_at hl 0 rfl) ?_
  refine lv_iconst (v := 4) hx hb dX0_init_16 (by decide) ?_
  refine s_put tyX0 (ty := .int) fwX0 tyX0_ok nmX0 (j := 2) (by decide) rfl (by decide +kernel) (by decide +kernel) hB hSt hR hS rfl rfl (Nat.le_of_ble_eq_true rfl) dX0_init_17 (fun F H locs hSt hR hS => ?_)
  have hSt : St G 0 E a 0 [.int 4, .int 10, .int 4, .int 0, .int 0, .int 0, .int 0, .int 0, .null, .null, .null, .null, .null, .int 0] nop F := hSt
  have hR : BRep G (a + 1 + 0) F H := hR
  refine lv_aload_n hx hb dX0_init_20 rfl (lv_at hl 0 rfl) ?_
  refine lv_iconst (v := 3) hx hb dX0_init_21 (by decide) ?_
  refine s_put tyX0 (ty := .int) fwX0 tyX0_ok nmX0 (j := 3) (by decide) rfl (by decide +kernel) (by decide +kernel) hB hSt hR hS rfl rfl (Nat.le_of_ble_eq_true rfl) dX0_init_22 (fun F H locs hSt hR hS => ?_)
  have hSt : St G 0 E a 0 [.int 4, .int 10, .int 4, .int 3, .int 0, .int 0, .int 0, .int 0, .null, .null, .null, .null, .null, .int 0] nop F := hSt
  have hR : BRep G (a + 1 + 0) F H := hR
  refine lv_aload_n hx hb dX0_init_25 rfl (lv_at hl 0 rfl) ?_
  refine lv_bipush (v := (-4)) hx hb dX0_init_26 (by decide) ?_
  refine s_put tyX0 (ty := .int) fwX0 tyX0_ok nmX0 (j := 6) (by decide) rfl (by decide +kernel) (by decide +kernel) hB hSt hR hS rfl rfl (Nat.le_of_ble_eq_true rfl) dX0_init_28 (fun F H locs hSt hR hS => ?_)
  have hSt : St G 0 E a 0 [.int 4, .int 10, .int 4, .int 3, .int 0, .int 0, .int (-4), .int 0, .null, .null, .null, .null, .null, .int 0] nop F := hSt
  have hR : BRep G (a + 1 + 0) F H := hR
  refine lv_aload_n hx hb dX0_init_31 rfl (lv_at hl 0 rfl) ?_
  refine lv_bipush (v := 7) hx hb dX0_init_32 (by decide) ?_
  refine s_newi hB hsz hSt hR hS (v := 7) 7 rfl (camp_arr ha 0 (by decide)) (by decide) (by decide) (by decide) (Nat.le_of_ble_eq_true rfl) (Nat.le_of_ble_eq_true rfl) dX0_init_34 (fun F H hSt hR hS => ?_)
  have hSt : St G 0 E a 1 [.int 4, .int 10, .int 4, .int 3, .int 0, .int 0, .int (-4), .int 0, .null, .null, .null, .null, .null, .int 0] nop F := hSt
  have hR : BRep G (a + 1 + 1) F H := hR
  refine s_putF tyX0 (ty := .array .int) fwX0 tyX0_ok nmX0 (j := 8) (by decide) rfl hin rfl (by decide +kernel) (by decide +kernel) hB hSt hR hS rfl rfl (Nat.le_of_ble_eq_true rfl) dX0_init_36 (fun F H locs hSt hR hS => ?_)
  have hSt : St G 0 E a 1 [.int 4, .int 10, .int 4, .int 3, .int 0, .int 0, .int (-4), .int 0, .ref (gN G 0 + (a + 1 + 0)), .null, .null, .null, .null, .int 0] nop F := hSt
  have hR : BRep G (a + 1 + 1) F H := hR
  refine lv_aload_n hx hb dX0_init_39 rfl (lv_at hl 0 rfl) ?_
  refine lv_bipush (v := 7) hx hb dX0_init_40 (by decide) ?_
  refine s_newi hB hsz hSt hR hS (v := 7) 7 rfl (camp_arr ha 1 (by decide)) (by decide) (by decide) (by decide) (Nat.le_of_ble_eq_true rfl) (Nat.le_of_ble_eq_true rfl) dX0_init_42 (fun F H hSt hR hS => ?_)
  have hSt : St G 0 E a 2 [.int 4, .int 10, .int 4, .int 3, .int 0, .int 0, .int (-4), .int 0, .ref (gN G 0 + (a + 1 + 0)), .null, .null, .null, .null, .int 0] nop F := hSt
  have hR : BRep G (a + 1 + 2) F H := hR
  refine s_putF tyX0 (ty := .array .int) fwX0 tyX0_ok nmX0 (j := 9) (by decide) rfl hin rfl (by decide +kernel) (by decide +kernel) hB hSt hR hS rfl rfl (Nat.le_of_ble_eq_true rfl) dX0_init_44 (fun F H locs hSt hR hS => ?_)
  have hSt : St G 0 E a 2 [.int 4, .int 10, .int 4, .int 3, .int 0, .int 0, .int (-4), .int 0, .ref (gN G 0 + (a + 1 + 0)), .ref (gN G 0 + (a + 1 + 1)), .null, .null, .null, .int 0] nop F := hSt
  have hR : BRep G (a + 1 + 2) F H := hR
  refine lv_aload_n hx hb dX0_init_47 rfl (lv_at hl 0 rfl) ?_
  refine lv_bipush (v := 7) hx hb dX0_init_48 (by decide) ?_
  refine s_newi hB hsz hSt hR hS (v := 7) 7 rfl (camp_arr ha 2 (by decide)) (by decide) (by decide) (by decide) (Nat.le_of_ble_eq_true rfl) (Nat.le_of_ble_eq_true rfl) dX0_init_50 (fun F H hSt hR hS => ?_)
  have hSt : St G 0 E a 3 [.int 4, .int 10, .int 4, .int 3, .int 0, .int 0, .int (-4), .int 0, .ref (gN G 0 + (a + 1 + 0)), .ref (gN G 0 + (a + 1 + 1)), .null, .null, .null, .int 0] nop F := hSt
  have hR : BRep G (a + 1 + 3) F H := hR
  refine s_putF tyX0 (ty := .array .int) fwX0 tyX0_ok nmX0 (j := 10) (by decide) rfl hin rfl (by decide +kernel) (by decide +kernel) hB hSt hR hS rfl rfl (Nat.le_of_ble_eq_true rfl) dX0_init_52 (fun F H locs hSt hR hS => ?_)
  have hSt : St G 0 E a 3 [.int 4, .int 10, .int 4, .int 3, .int 0, .int 0, .int (-4), .int 0, .ref (gN G 0 + (a + 1 + 0)), .ref (gN G 0 + (a + 1 + 1)), .ref (gN G 0 + (a + 1 + 2)), .null, .null, .int 0] nop F := hSt
  have hR : BRep G (a + 1 + 3) F H := hR
  refine lv_aload_n hx hb dX0_init_55 rfl (lv_at hl 0 rfl) ?_
  refine lv_bipush (v := 7) hx hb dX0_init_56 (by decide) ?_
  refine s_newi hB hsz hSt hR hS (v := 7) 7 rfl (camp_arr ha 3 (by decide)) (by decide) (by decide) (by decide) (Nat.le_of_ble_eq_true rfl) (Nat.le_of_ble_eq_true rfl) dX0_init_58 (fun F H hSt hR hS => ?_)
  have hSt : St G 0 E a 4 [.int 4, .int 10, .int 4, .int 3, .int 0, .int 0, .int (-4), .int 0, .ref (gN G 0 + (a + 1 + 0)), .ref (gN G 0 + (a + 1 + 1)), .ref (gN G 0 + (a + 1 + 2)), .null, .null, .int 0] nop F := hSt
  have hR : BRep G (a + 1 + 4) F H := hR
  refine s_putF tyX0 (ty := .array .int) fwX0 tyX0_ok nmX0 (j := 11) (by decide) rfl hin rfl (by decide +kernel) (by decide +kernel) hB hSt hR hS rfl rfl (Nat.le_of_ble_eq_true rfl) dX0_init_60 (fun F H locs hSt hR hS => ?_)
  have hSt : St G 0 E a 4 [.int 4, .int 10, .int 4, .int 3, .int 0, .int 0, .int (-4), .int 0, .ref (gN G 0 + (a + 1 + 0)), .ref (gN G 0 + (a + 1 + 1)), .ref (gN G 0 + (a + 1 + 2)), .ref (gN G 0 + (a + 1 + 3)), .null, .int 0] nop F := hSt
  have hR : BRep G (a + 1 + 4) F H := hR
  refine lv_aload_n hx hb dX0_init_63 rfl (lv_at hl 0 rfl) ?_
  refine lv_bipush (v := 7) hx hb dX0_init_64 (by decide) ?_
  refine s_newi hB hsz hSt hR hS (v := 7) 7 rfl (camp_arr ha 4 (by decide)) (by decide) (by decide) (by decide) (Nat.le_of_ble_eq_true rfl) (Nat.le_of_ble_eq_true rfl) dX0_init_66 (fun F H hSt hR hS => ?_)
  have hSt : St G 0 E a 5 [.int 4, .int 10, .int 4, .int 3, .int 0, .int 0, .int (-4), .int 0, .ref (gN G 0 + (a + 1 + 0)), .ref (gN G 0 + (a + 1 + 1)), .ref (gN G 0 + (a + 1 + 2)), .ref (gN G 0 + (a + 1 + 3)), .null, .int 0] nop F := hSt
  have hR : BRep G (a + 1 + 5) F H := hR
  refine s_putF tyX0 (ty := .array .int) fwX0 tyX0_ok nmX0 (j := 12) (by decide) rfl hin rfl (by decide +kernel) (by decide +kernel) hB hSt hR hS rfl rfl (Nat.le_of_ble_eq_true rfl) dX0_init_68 (fun F H locs hSt hR hS => ?_)
  have hSt : St G 0 E a 5 [.int 4, .int 10, .int 4, .int 3, .int 0, .int 0, .int (-4), .int 0, .ref (gN G 0 + (a + 1 + 0)), .ref (gN G 0 + (a + 1 + 1)), .ref (gN G 0 + (a + 1 + 2)), .ref (gN G 0 + (a + 1 + 3)), .ref (gN G 0 + (a + 1 + 4)), .int 0] nop F := hSt
  have hR : BRep G (a + 1 + 5) F H := hR
  exact W.vret hx hb hr (fun t ht hW => ⟨⟨_, rfl, hSt.done (ent_camp ha).symm, by show BRep G _ _ t.heap; rw [ht]; exact hR⟩, hS.F ht⟩) hS.2.2 dX0_init_71
set_option maxHeartbeats 4000000 in
set_option maxRecDepth 100000 in
theorem bX1 {G : GG} {a : Nat} (ha : IsMom a) {E : BE} (hE : E a = .inr (1, [.int 0, .int 0, .int 0, .int 0, .int 0, .int 0, .null, .null, .null, .null])) : BX G mX1_init a (a + 1) (a + 5) 4 28 E (Pst G E a (a + 5)) := by
  refine Met.ofW (cc := cX1_init) (maxL := 1) (ret := none) (by decide) rfl ?_
  intro p e s m args below meth c s₁ B hml hv
  obtain ⟨rfl, hsz, hR, hC, hAO⟩ := hv
  have hB : BC G mX1_init p s m c := ⟨B.exec, B.bytes, hml, findClass_of_methodNamed B.named, hC, by omega, hAO⟩
  have hin : meth.name = "<init>" := (name_of_methodNamed B.named B.method).1
  have hlocks := B.notSynchronized
  have hS : va_S (AA G) s.heap s.heap [] := va_S.rf
  have hl := lv_entry ([.ref (gN G 0 + a)]) (n := 1) (Nat.le_of_ble_eq_true rfl)
  rw [lg_entry_eq]
  generalize (lg_sl ([.ref (gN G 0 + a)]) ++ List.replicate (1 - (lg_sl ([.ref (gN G 0 + a)])).length) Slot.unset).toArray = ls at hl ⊢
  have hl : lv_has ls 1 [(0, .ref (gN G 0 + a))] := hl
  have hx := B.exec
  have hb := B.bytes
  have hr := B.returns
  have hSt : St G 1 E a 0 [.int 0, .int 0, .int 0, .int 0, .int 0, .int 0, .null, .null, .null, .null] nop E := ⟨hE, fun _ _ => rfl, fun k h1 h2 => absurd h2 (by omega), fun k v h1 h2 => absurd h2 (by omega)⟩
  refine lv_aload_n hx hb dX1_init_0 rfl (lv_at hl 0 rfl) ?_
  refine b_obj (M := mX1_init) (by decide +kernel) hB hl.1 (Nat.le_of_ble_eq_true rfl) (Nat.le_of_ble_eq_true rfl) dX1_init_1 ?_
  refine lv_aload_n hx hb dX1_init_4 rfl (lv_at hl 0 rfl) ?_
  refine lv_bipush (v := 30) hx hb dX1_init_5 (by decide) ?_
  refine s_put tyX1 (ty := .int) fwX1 tyX1_ok nmX1 (j := 0) (by decide) rfl (by decide +kernel) (by decide +kernel) hB hSt hR hS rfl rfl (Nat.le_of_ble_eq_true rfl) dX1_init_7 (fun F H locs hSt hR hS => ?_)
  have hSt : St G 1 E a 0 [.int 30, .int 0, .int 0, .int 0, .int 0, .int 0, .null, .null, .null, .null] nop F := hSt
  have hR : BRep G (a + 1 + 0) F H := hR
  refine lv_aload_n hx hb dX1_init_10 rfl (lv_at hl 0 rfl) ?_
  refine lv_iconst (v := 1) hx hb dX1_init_11 (by decide) ?_
  refine s_put tyX1 (ty := .int) fwX1 tyX1_ok nmX1 (j := 5) (by decide) rfl (by decide +kernel) (by decide +kernel) hB hSt hR hS rfl rfl (Nat.le_of_ble_eq_true rfl) dX1_init_12 (fun F H locs hSt hR hS => ?_)
  have hSt : St G 1 E a 0 [.int 30, .int 0, .int 0, .int 0, .int 0, .int 1, .null, .null, .null, .null] nop F := hSt
  have hR : BRep G (a + 1 + 0) F H := hR
  refine lv_aload_n hx hb dX1_init_15 rfl (lv_at hl 0 rfl) ?_
  refine lv_bipush (v := 7) hx hb dX1_init_16 (by decide) ?_
  refine s_newi hB hsz hSt hR hS (v := 7) 7 rfl (mom_arr ha 0 (by decide)) (by decide) (by decide) (by decide) (Nat.le_of_ble_eq_true rfl) (Nat.le_of_ble_eq_true rfl) dX1_init_18 (fun F H hSt hR hS => ?_)
  have hSt : St G 1 E a 1 [.int 30, .int 0, .int 0, .int 0, .int 0, .int 1, .null, .null, .null, .null] nop F := hSt
  have hR : BRep G (a + 1 + 1) F H := hR
  refine s_putF tyX1 (ty := .array .int) fwX1 tyX1_ok nmX1 (j := 6) (by decide) rfl hin rfl (by decide +kernel) (by decide +kernel) hB hSt hR hS rfl rfl (Nat.le_of_ble_eq_true rfl) dX1_init_20 (fun F H locs hSt hR hS => ?_)
  have hSt : St G 1 E a 1 [.int 30, .int 0, .int 0, .int 0, .int 0, .int 1, .ref (gN G 0 + (a + 1 + 0)), .null, .null, .null] nop F := hSt
  have hR : BRep G (a + 1 + 1) F H := hR
  refine lv_aload_n hx hb dX1_init_23 rfl (lv_at hl 0 rfl) ?_
  refine lv_bipush (v := 7) hx hb dX1_init_24 (by decide) ?_
  refine s_newi hB hsz hSt hR hS (v := 7) 7 rfl (mom_arr ha 1 (by decide)) (by decide) (by decide) (by decide) (Nat.le_of_ble_eq_true rfl) (Nat.le_of_ble_eq_true rfl) dX1_init_26 (fun F H hSt hR hS => ?_)
  have hSt : St G 1 E a 2 [.int 30, .int 0, .int 0, .int 0, .int 0, .int 1, .ref (gN G 0 + (a + 1 + 0)), .null, .null, .null] nop F := hSt
  have hR : BRep G (a + 1 + 2) F H := hR
  refine s_putF tyX1 (ty := .array .int) fwX1 tyX1_ok nmX1 (j := 7) (by decide) rfl hin rfl (by decide +kernel) (by decide +kernel) hB hSt hR hS rfl rfl (Nat.le_of_ble_eq_true rfl) dX1_init_28 (fun F H locs hSt hR hS => ?_)
  have hSt : St G 1 E a 2 [.int 30, .int 0, .int 0, .int 0, .int 0, .int 1, .ref (gN G 0 + (a + 1 + 0)), .ref (gN G 0 + (a + 1 + 1)), .null, .null] nop F := hSt
  have hR : BRep G (a + 1 + 2) F H := hR
  refine lv_aload_n hx hb dX1_init_31 rfl (lv_at hl 0 rfl) ?_
  refine lv_bipush (v := 7) hx hb dX1_init_32 (by decide) ?_
  refine s_newi hB hsz hSt hR hS (v := 7) 7 rfl (mom_arr ha 2 (by decide)) (by decide) (by decide) (by decide) (Nat.le_of_ble_eq_true rfl) (Nat.le_of_ble_eq_true rfl) dX1_init_34 (fun F H hSt hR hS => ?_)
  have hSt : St G 1 E a 3 [.int 30, .int 0, .int 0, .int 0, .int 0, .int 1, .ref (gN G 0 + (a + 1 + 0)), .ref (gN G 0 + (a + 1 + 1)), .null, .null] nop F := hSt
  have hR : BRep G (a + 1 + 3) F H := hR
  refine s_putF tyX1 (ty := .array .int) fwX1 tyX1_ok nmX1 (j := 8) (by decide) rfl hin rfl (by decide +kernel) (by decide +kernel) hB hSt hR hS rfl rfl (Nat.le_of_ble_eq_true rfl) dX1_init_36 (fun F H locs hSt hR hS => ?_)
  have hSt : St G 1 E a 3 [.int 30, .int 0, .int 0, .int 0, .int 0, .int 1, .ref (gN G 0 + (a + 1 + 0)), .ref (gN G 0 + (a + 1 + 1)), .ref (gN G 0 + (a + 1 + 2)), .null] nop F := hSt
  have hR : BRep G (a + 1 + 3) F H := hR
  refine lv_aload_n hx hb dX1_init_39 rfl (lv_at hl 0 rfl) ?_
  refine lv_bipush (v := 7) hx hb dX1_init_40 (by decide) ?_
  refine s_newi hB hsz hSt hR hS (v := 7) 7 rfl (mom_arr ha 3 (by decide)) (by decide) (by decide) (by decide) (Nat.le_of_ble_eq_true rfl) (Nat.le_of_ble_eq_true rfl) dX1_init_42 (fun F H hSt hR hS => ?_)
  have hSt : St G 1 E a 4 [.int 30, .int 0, .int 0, .int 0, .int 0, .int 1, .ref (gN G 0 + (a + 1 + 0)), .ref (gN G 0 + (a + 1 + 1)), .ref (gN G 0 + (a + 1 + 2)), .null] nop F := hSt
  have hR : BRep G (a + 1 + 4) F H := hR
  refine s_putF tyX1 (ty := .array .int) fwX1 tyX1_ok nmX1 (j := 9) (by decide) rfl hin rfl (by decide +kernel) (by decide +kernel) hB hSt hR hS rfl rfl (Nat.le_of_ble_eq_true rfl) dX1_init_44 (fun F H locs hSt hR hS => ?_)
  have hSt : St G 1 E a 4 [.int 30, .int 0, .int 0, .int 0, .int 0, .int 1, .ref (gN G 0 + (a + 1 + 0)), .ref (gN G 0 + (a + 1 + 1)), .ref (gN G 0 + (a + 1 + 2)), .ref (gN G 0 + (a + 1 + 3))] nop F := hSt
  have hR : BRep G (a + 1 + 4) F H := hR
  exact W.vret hx hb hr (fun t ht hW => ⟨⟨_, rfl, hSt.done (ent_mom ha).symm, by show BRep G _ _ t.heap; rw [ht]; exact hR⟩, hS.F ht⟩) hS.2.2 dX1_init_47
set_option maxHeartbeats 4000000 in
set_option maxRecDepth 100000 in
theorem bX3 {G : GG} {a : Nat} (ha : IsSheet a) {E : BE} (hE : E a = .inr (3, [.int 0, .int 0, .null])) : BX G mX3_init a (a + 1) (a + 2) 1 24 E (Pst G E a (a + 2)) := by
  refine Met.ofW (cc := cX3_init) (maxL := 1) (ret := none) (by decide) rfl ?_
  intro p e s m args below meth c s₁ B hml hv
  obtain ⟨rfl, hsz, hR, hC, hAO⟩ := hv
  have hB : BC G mX3_init p s m c := ⟨B.exec, B.bytes, hml, findClass_of_methodNamed B.named, hC, by omega, hAO⟩
  have hin : meth.name = "<init>" := (name_of_methodNamed B.named B.method).1
  have hlocks := B.notSynchronized
  have hS : va_S (AA G) s.heap s.heap [] := va_S.rf
  have hl := lv_entry ([.ref (gN G 0 + a)]) (n := 1) (Nat.le_of_ble_eq_true rfl)
  rw [lg_entry_eq]
  generalize (lg_sl ([.ref (gN G 0 + a)]) ++ List.replicate (1 - (lg_sl ([.ref (gN G 0 + a)])).length) Slot.unset).toArray = ls at hl ⊢
  have hl : lv_has ls 1 [(0, .ref (gN G 0 + a))] := hl
  have hx := B.exec
  have hb := B.bytes
  have hr := B.returns
  have hSt : St G 3 E a 0 [.int 0, .int 0, .null] nop E := ⟨hE, fun _ _ => rfl, fun k h1 h2 => absurd h2 (by omega), fun k v h1 h2 => absurd h2 (by omega)⟩
  refine lv_aload_n hx hb dX3_init_0 rfl (lv_at hl 0 rfl) ?_
  refine b_obj (M := mX3_init) (by decide +kernel) hB hl.1 (Nat.le_of_ble_eq_true rfl) (Nat.le_of_ble_eq_true rfl) dX3_init_1 ?_
  refine lv_aload_n hx hb dX3_init_4 rfl (lv_at hl 0 rfl) ?_
  refine lv_iconst (v := (-1)) hx hb dX3_init_5 (by decide) ?_
  refine s_put tyX3 (ty := .int) fwX3 tyX3_ok nmX3 (j := 0) (by decide) rfl (by decide +kernel) (by decide +kernel) hB hSt hR hS rfl rfl (Nat.le_of_ble_eq_true rfl) dX3_init_6 (fun F H locs hSt hR hS => ?_)
  have hSt : St G 3 E a 0 [.int (-1), .int 0, .null] nop F := hSt
  have hR : BRep G (a + 1 + 0) F H := hR
  refine lv_aload_n hx hb dX3_init_9 rfl (lv_at hl 0 rfl) ?_
  refine lv_bipush (v := 24) hx hb dX3_init_10 (by decide) ?_
  refine s_newl hB hsz hSt hR hS (v := 24) 24 rfl (sheet_arr ha) (by decide) (by decide) (by decide) (Nat.le_of_ble_eq_true rfl) (Nat.le_of_ble_eq_true rfl) dX3_init_12 (fun F H hSt hR hS => ?_)
  have hSt : St G 3 E a 1 [.int (-1), .int 0, .null] nop F := hSt
  have hR : BRep G (a + 1 + 1) F H := hR
  refine s_putF tyX3 (ty := .array .long) fwX3 tyX3_ok nmX3 (j := 2) (by decide) rfl hin rfl (by decide +kernel) (by decide +kernel) hB hSt hR hS rfl rfl (Nat.le_of_ble_eq_true rfl) dX3_init_14 (fun F H locs hSt hR hS => ?_)
  have hSt : St G 3 E a 1 [.int (-1), .int 0, .ref (gN G 0 + (a + 1 + 0))] nop F := hSt
  have hR : BRep G (a + 1 + 1) F H := hR
  exact W.vret hx hb hr (fun t ht hW => ⟨⟨_, rfl, hSt.done (ent_sheet ha).symm, by show BRep G _ _ t.heap; rw [ht]; exact hR⟩, hS.F ht⟩) hS.2.2 dX3_init_17
def IsTp (a : Nat) : Prop := a = 121
theorem tape_arr {a : Nat} (h : IsTp a) : ky (a + 1 + 0) = 7 ∧ ln (a + 1 + 0) = 60 ∧ a + 1 + 0 ≠ 133 ∧ a + 1 + 0 ≠ 141 := by
  unfold IsTp at h; subst h; decide +kernel
set_option maxRecDepth 100000 in
theorem ent_tape {G : GG} {a : Nat} (h : IsTp a) : ent G t0 a = .inr (4, [.ref (gN G 0 + (a + 1)), .int 0, .int 0, .int 0]) := by
  unfold IsTp at h; subst h; rfl
set_option maxHeartbeats 4000000 in
set_option maxRecDepth 100000 in
theorem bX4 {G : GG} {a : Nat} (ha : IsTp a) {E : BE} (hE : E a = .inr (4, [.null, .int 0, .int 0, .int 0])) : BX G mX4_init a (a + 1) (a + 2) 1 60 E (Pst G E a (a + 2)) := by
  refine Met.ofW (cc := cX4_init) (maxL := 1) (ret := none) (by decide) rfl ?_
  intro p e s m args below meth c s₁ B hml hv
  obtain ⟨rfl, hsz, hR, hC, hAO⟩ := hv
  have hB : BC G mX4_init p s m c := ⟨B.exec, B.bytes, hml, findClass_of_methodNamed B.named, hC, by omega, hAO⟩
  have hin : meth.name = "<init>" := (name_of_methodNamed B.named B.method).1
  have hlocks := B.notSynchronized
  have hS : va_S (AA G) s.heap s.heap [] := va_S.rf
  have hl := lv_entry ([.ref (gN G 0 + a)]) (n := 1) (Nat.le_of_ble_eq_true rfl)
  rw [lg_entry_eq]
  generalize (lg_sl ([.ref (gN G 0 + a)]) ++ List.replicate (1 - (lg_sl ([.ref (gN G 0 + a)])).length) Slot.unset).toArray = ls at hl ⊢
  have hl : lv_has ls 1 [(0, .ref (gN G 0 + a))] := hl
  have hx := B.exec
  have hb := B.bytes
  have hr := B.returns
  have hSt : St G 4 E a 0 [.null, .int 0, .int 0, .int 0] nop E := ⟨hE, fun _ _ => rfl, fun k h1 h2 => absurd h2 (by omega), fun k v h1 h2 => absurd h2 (by omega)⟩
  refine lv_aload_n hx hb dX4_init_0 rfl (lv_at hl 0 rfl) ?_
  refine b_obj (M := mX4_init) (by decide +kernel) hB hl.1 (Nat.le_of_ble_eq_true rfl) (Nat.le_of_ble_eq_true rfl) dX4_init_1 ?_
  refine lv_aload_n hx hb dX4_init_4 rfl (lv_at hl 0 rfl) ?_
  refine lv_bipush (v := 60) hx hb dX4_init_5 (by decide) ?_
  refine s_newi hB hsz hSt hR hS (v := 60) 60 rfl (tape_arr ha) (by decide) (by decide) (by decide) (Nat.le_of_ble_eq_true rfl) (Nat.le_of_ble_eq_true rfl) dX4_init_7 (fun F H hSt hR hS => ?_)
  have hSt : St G 4 E a 1 [.null, .int 0, .int 0, .int 0] nop F := hSt
  have hR : BRep G (a + 1 + 1) F H := hR
  refine s_putF tyX4 (ty := .array .int) fwX4 tyX4_ok nmX4 (j := 0) (by decide) rfl hin rfl (by decide +kernel) (by decide +kernel) hB hSt hR hS rfl rfl (Nat.le_of_ble_eq_true rfl) dX4_init_9 (fun F H locs hSt hR hS => ?_)
  have hSt : St G 4 E a 1 [.ref (gN G 0 + (a + 1 + 0)), .int 0, .int 0, .int 0] nop F := hSt
  have hR : BRep G (a + 1 + 1) F H := hR
  exact W.vret hx hb hr (fun t ht hW => ⟨⟨_, rfl, hSt.done (ent_tape ha).symm, by show BRep G _ _ t.heap; rw [ht]; exact hR⟩, hS.F ht⟩) hS.2.2 dX4_init_12
