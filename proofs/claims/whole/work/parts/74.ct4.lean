/-! the reference's constructor -/
theorem now_f : upd (upd (upd (upd (upd (upd (upd (fun _ => 0) 0 30) 1 4) 2 10) 3 4) 4 3) 10 (-4)) 13 1 = fun j => Int32.ofInt (t0 133 j) := by
  funext j
  have z : t0 133 j = (if j = 0 then 30 else if j = 1 then 4 else if j = 2 then 10 else if j = 3 then 4 else if j = 4 then 3 else if j = 10 then -4 else if j = 13 then 1 else 0) := by
    unfold t0
    rw [if_neg (by decide +kernel), if_neg (by decide +kernel), if_neg (by decide +kernel), if_neg (by decide), if_pos rfl]
  rw [z]
  unfold upd
  by_cases j0 : j = 0
  · subst j0; rfl
  by_cases j1 : j = 1
  · subst j1; rfl
  by_cases j2 : j = 2
  · subst j2; rfl
  by_cases j3 : j = 3
  · subst j3; rfl
  by_cases j4 : j = 4
  · subst j4; rfl
  by_cases j5 : j = 10
  · subst j5; rfl
  by_cases j6 : j = 13
  · subst j6; rfl
  simp only [if_neg j0, if_neg j1, if_neg j2, if_neg j3, if_neg j4, if_neg j5, if_neg j6]
  rfl
def laF (i : Nat) : Nat → Int32 := fun j => if j < i then -1 else 0
theorem laF_0 : (fun _ => (0 : Int32)) = laF 0 := by funext j; unfold laF; rw [if_neg (by omega)]
theorem laF_s {i : Nat} : upd (laF i) i (-1) = laF (i + 1) := by
  funext j
  unfold upd laF
  by_cases e : j = i
  · rw [if_pos e, if_pos (by omega)]
  · rw [if_neg e]
    by_cases f : j < i
    · rw [if_pos f, if_pos (by omega)]
    · rw [if_neg f, if_neg (by omega)]
theorem laF_4 : laF 4 = fun j => Int32.ofInt (t0 141 j) := by
  funext j
  have z : t0 141 j = (if j < 4 then -1 else 0) := by
    unfold t0
    rw [if_neg (by decide +kernel), if_neg (by decide +kernel), if_neg (by decide +kernel), if_neg (by decide), if_neg (by decide), if_pos rfl]
  rw [z]
  unfold laF
  by_cases f : j < 4
  · rw [if_pos f, if_pos f]; rfl
  · rw [if_neg f, if_neg f]; rfl
theorem m_k : (ky 133 = 7 ∧ ln 133 = 63) ∧ (ky 141 = 7 ∧ ln 141 = 4) := by decide +kernel
theorem flkX6a : Cond.fieldLink mX6_init.1.cls 7 (TX6 0).1 (TX6 0).2.1 (TX6 0).2.2.1 ∈ lw_tbl := by decide +kernel
theorem flkX6b : Cond.fieldLink mX6_init.1.cls 38 (TX6 16).1 (TX6 16).2.1 (TX6 16).2.2.1 ∈ lw_tbl := by decide +kernel
set_option maxRecDepth 100000 in
theorem ent_m {G : GG} : ent G t0 132 = .inr (6, [.ref (gN G 0 + 133), .ref (gN G 0 + 134), .int (-1), .int 0, .ref (gN G 0 + 135), .int 0, .ref (gN G 0 + 136), .ref (gN G 0 + 137), .ref (gN G 0 + 138), .int 0, .int 0, .int 0, .ref (gN G 0 + 139), .ref (gN G 0 + 140), .int 0, .int 0, .ref (gN G 0 + 141), .ref (gN G 0 + 142), .ref (gN G 0 + 143), .ref (gN G 0 + 144)]) := rfl
set_option maxHeartbeats 4000000 in
set_option maxRecDepth 100000 in
theorem bX6 {G : GG} {E : BE} (hE : E 132 = .inr (6, [.null, .null, .int 0, .int 0, .null, .int 0, .null, .null, .null, .int 0, .int 0, .int 0, .null, .null, .int 0, .int 0, .null, .null, .null, .null])) : BX G mX6_init 132 133 145 12 1420 E (Pst G E 132 145) := by
  refine Met.ofW (cc := cX6_init) (maxL := 2) (ret := none) (by decide) rfl ?_
  intro p e s m args below meth c s₁ B hml hv
  obtain ⟨rfl, hsz, hR, hC, hAO⟩ := hv
  have hB : BC G mX6_init p s m c := ⟨B.exec, B.bytes, hml, findClass_of_methodNamed B.named, hC, by omega, hAO⟩
  have hin : meth.name = "<init>" := (name_of_methodNamed B.named B.method).1
  have hlocks := B.notSynchronized
  have hS : va_S (AA G) s.heap s.heap [] := va_S.rf
  have hl := lv_entry ([.ref (gN G 0 + 132)]) (n := 2) (Nat.le_of_ble_eq_true rfl)
  rw [lg_entry_eq]
  generalize (lg_sl ([.ref (gN G 0 + 132)]) ++ List.replicate (2 - (lg_sl ([.ref (gN G 0 + 132)])).length) Slot.unset).toArray = ls at hl ⊢
  have hl : lv_has ls 2 [(0, .ref (gN G 0 + 132))] := hl
  have hx := B.exec
  have hb := B.bytes
  have hr := B.returns
  have hSt : St G 6 E 132 0 [.null, .null, .int 0, .int 0, .null, .int 0, .null, .null, .null, .int 0, .int 0, .int 0, .null, .null, .int 0, .int 0, .null, .null, .null, .null] nop E := ⟨hE, fun _ _ => rfl, fun k h1 h2 => absurd h2 (by omega), fun k v h1 h2 => absurd h2 (by omega)⟩
  refine lv_aload_n hx hb dX6_init_0 rfl (lv_at hl 0 rfl) ?_
  refine b_obj (M := mX6_init) (by decide +kernel) hB hl.1 (Nat.le_of_ble_eq_true rfl) (Nat.le_of_ble_eq_true rfl) dX6_init_1 ?_
  refine lv_aload_n hx hb dX6_init_4 rfl (lv_at hl 0 rfl) ?_
  refine lv_bipush (v := 63) hx hb dX6_init_5 (by decide) ?_
  refine s_newiO hB hsz hSt hR hS (v := 63) 63 (by decide) (by decide) (by decide) (Nat.le_of_ble_eq_true rfl) (Nat.le_of_ble_eq_true rfl) dX6_init_7 (fun F H hSt hR hS => ?_)
  have hSt : St G 6 E 132 1 [.null, .null, .int 0, .int 0, .null, .int 0, .null, .null, .null, .int 0, .int 0, .int 0, .null, .null, .int 0, .int 0, .null, .null, .null, .null] (opn nop (132 + 1 + 0) (.inl (gT G 0, 63, .inl (fun _ => 0)))) F := hSt
  have hR : BRep G (132 + 1 + 1) F H := hR
  refine s_putF tyX6 (ty := .array .int) fwX6 tyX6_ok nmX6 (j := 0) (by decide) rfl hin rfl (by decide +kernel) (by decide +kernel) hB hSt hR hS rfl rfl (Nat.le_of_ble_eq_true rfl) dX6_init_9 (fun F H locs hSt hR hS => ?_)
  have hSt : St G 6 E 132 1 [.ref (gN G 0 + (132 + 1 + 0)), .null, .int 0, .int 0, .null, .int 0, .null, .null, .null, .int 0, .int 0, .int 0, .null, .null, .int 0, .int 0, .null, .null, .null, .null] (opn nop (132 + 1 + 0) (.inl (gT G 0, 63, .inl (fun _ => 0)))) F := hSt
  have hR : BRep G (132 + 1 + 1) F H := hR
  refine lv_aload_n hx hb dX6_init_12 rfl (lv_at hl 0 rfl) ?_
  refine lv_bipush (v := 7) hx hb dX6_init_13 (by decide) ?_
  refine s_newi hB hsz hSt hR hS (v := 7) 7 rfl (by decide +kernel) (by decide) (by decide) (by decide) (Nat.le_of_ble_eq_true rfl) (Nat.le_of_ble_eq_true rfl) dX6_init_15 (fun F H hSt hR hS => ?_)
  have hSt : St G 6 E 132 2 [.ref (gN G 0 + (132 + 1 + 0)), .null, .int 0, .int 0, .null, .int 0, .null, .null, .null, .int 0, .int 0, .int 0, .null, .null, .int 0, .int 0, .null, .null, .null, .null] (opn nop (132 + 1 + 0) (.inl (gT G 0, 63, .inl (fun _ => 0)))) F := hSt
  have hR : BRep G (132 + 1 + 2) F H := hR
  refine s_putF tyX6 (ty := .array .int) fwX6 tyX6_ok nmX6 (j := 1) (by decide) rfl hin rfl (by decide +kernel) (by decide +kernel) hB hSt hR hS rfl rfl (Nat.le_of_ble_eq_true rfl) dX6_init_17 (fun F H locs hSt hR hS => ?_)
  have hSt : St G 6 E 132 2 [.ref (gN G 0 + (132 + 1 + 0)), .ref (gN G 0 + (132 + 1 + 1)), .int 0, .int 0, .null, .int 0, .null, .null, .null, .int 0, .int 0, .int 0, .null, .null, .int 0, .int 0, .null, .null, .null, .null] (opn nop (132 + 1 + 0) (.inl (gT G 0, 63, .inl (fun _ => 0)))) F := hSt
  have hR : BRep G (132 + 1 + 2) F H := hR
  refine lv_aload_n hx hb dX6_init_20 rfl (lv_at hl 0 rfl) ?_
  refine lv_iconst (v := (-1)) hx hb dX6_init_21 (by decide) ?_
  refine s_put tyX6 (ty := .int) fwX6 tyX6_ok nmX6 (j := 2) (by decide) rfl (by decide +kernel) (by decide +kernel) hB hSt hR hS rfl rfl (Nat.le_of_ble_eq_true rfl) dX6_init_22 (fun F H locs hSt hR hS => ?_)
  have hSt : St G 6 E 132 2 [.ref (gN G 0 + (132 + 1 + 0)), .ref (gN G 0 + (132 + 1 + 1)), .int (-1), .int 0, .null, .int 0, .null, .null, .null, .int 0, .int 0, .int 0, .null, .null, .int 0, .int 0, .null, .null, .null, .null] (opn nop (132 + 1 + 0) (.inl (gT G 0, 63, .inl (fun _ => 0)))) F := hSt
  have hR : BRep G (132 + 1 + 2) F H := hR
  refine lv_aload_n hx hb dX6_init_25 rfl (lv_at hl 0 rfl) ?_
  refine lv_sipush (v := 504) hx hb dX6_init_26 (by decide) ?_
  refine s_newi hB hsz hSt hR hS (v := 504) 504 rfl (by decide +kernel) (by decide) (by decide) (by decide) (Nat.le_of_ble_eq_true rfl) (Nat.le_of_ble_eq_true rfl) dX6_init_29 (fun F H hSt hR hS => ?_)
  have hSt : St G 6 E 132 3 [.ref (gN G 0 + (132 + 1 + 0)), .ref (gN G 0 + (132 + 1 + 1)), .int (-1), .int 0, .null, .int 0, .null, .null, .null, .int 0, .int 0, .int 0, .null, .null, .int 0, .int 0, .null, .null, .null, .null] (opn nop (132 + 1 + 0) (.inl (gT G 0, 63, .inl (fun _ => 0)))) F := hSt
  have hR : BRep G (132 + 1 + 3) F H := hR
  refine s_putF tyX6 (ty := .array .int) fwX6 tyX6_ok nmX6 (j := 4) (by decide) rfl hin rfl (by decide +kernel) (by decide +kernel) hB hSt hR hS rfl rfl (Nat.le_of_ble_eq_true rfl) dX6_init_31 (fun F H locs hSt hR hS => ?_)
  have hSt : St G 6 E 132 3 [.ref (gN G 0 + (132 + 1 + 0)), .ref (gN G 0 + (132 + 1 + 1)), .int (-1), .int 0, .ref (gN G 0 + (132 + 1 + 2)), .int 0, .null, .null, .null, .int 0, .int 0, .int 0, .null, .null, .int 0, .int 0, .null, .null, .null, .null] (opn nop (132 + 1 + 0) (.inl (gT G 0, 63, .inl (fun _ => 0)))) F := hSt
  have hR : BRep G (132 + 1 + 3) F H := hR
  refine lv_aload_n hx hb dX6_init_34 rfl (lv_at hl 0 rfl) ?_
  refine lv_bipush (v := 63) hx hb dX6_init_35 (by decide) ?_
  refine s_newi hB hsz hSt hR hS (v := 63) 63 rfl (by decide +kernel) (by decide) (by decide) (by decide) (Nat.le_of_ble_eq_true rfl) (Nat.le_of_ble_eq_true rfl) dX6_init_37 (fun F H hSt hR hS => ?_)
  have hSt : St G 6 E 132 4 [.ref (gN G 0 + (132 + 1 + 0)), .ref (gN G 0 + (132 + 1 + 1)), .int (-1), .int 0, .ref (gN G 0 + (132 + 1 + 2)), .int 0, .null, .null, .null, .int 0, .int 0, .int 0, .null, .null, .int 0, .int 0, .null, .null, .null, .null] (opn nop (132 + 1 + 0) (.inl (gT G 0, 63, .inl (fun _ => 0)))) F := hSt
  have hR : BRep G (132 + 1 + 4) F H := hR
  refine s_putF tyX6 (ty := .array .int) fwX6 tyX6_ok nmX6 (j := 6) (by decide) rfl hin rfl (by decide +kernel) (by decide +kernel) hB hSt hR hS rfl rfl (Nat.le_of_ble_eq_true rfl) dX6_init_39 (fun F H locs hSt hR hS => ?_)
  have hSt : St G 6 E 132 4 [.ref (gN G 0 + (132 + 1 + 0)), .ref (gN G 0 + (132 + 1 + 1)), .int (-1), .int 0, .ref (gN G 0 + (132 + 1 + 2)), .int 0, .ref (gN G 0 + (132 + 1 + 3)), .null, .null, .int 0, .int 0, .int 0, .null, .null, .int 0, .int 0, .null, .null, .null, .null] (opn nop (132 + 1 + 0) (.inl (gT G 0, 63, .inl (fun _ => 0)))) F := hSt
  have hR : BRep G (132 + 1 + 4) F H := hR
  refine lv_aload_n hx hb dX6_init_42 rfl (lv_at hl 0 rfl) ?_
  refine lv_bipush (v := 7) hx hb dX6_init_43 (by decide) ?_
  refine s_newi hB hsz hSt hR hS (v := 7) 7 rfl (by decide +kernel) (by decide) (by decide) (by decide) (Nat.le_of_ble_eq_true rfl) (Nat.le_of_ble_eq_true rfl) dX6_init_45 (fun F H hSt hR hS => ?_)
  have hSt : St G 6 E 132 5 [.ref (gN G 0 + (132 + 1 + 0)), .ref (gN G 0 + (132 + 1 + 1)), .int (-1), .int 0, .ref (gN G 0 + (132 + 1 + 2)), .int 0, .ref (gN G 0 + (132 + 1 + 3)), .null, .null, .int 0, .int 0, .int 0, .null, .null, .int 0, .int 0, .null, .null, .null, .null] (opn nop (132 + 1 + 0) (.inl (gT G 0, 63, .inl (fun _ => 0)))) F := hSt
  have hR : BRep G (132 + 1 + 5) F H := hR
  refine s_putF tyX6 (ty := .array .int) fwX6 tyX6_ok nmX6 (j := 7) (by decide) rfl hin rfl (by decide +kernel) (by decide +kernel) hB hSt hR hS rfl rfl (Nat.le_of_ble_eq_true rfl) dX6_init_47 (fun F H locs hSt hR hS => ?_)
  have hSt : St G 6 E 132 5 [.ref (gN G 0 + (132 + 1 + 0)), .ref (gN G 0 + (132 + 1 + 1)), .int (-1), .int 0, .ref (gN G 0 + (132 + 1 + 2)), .int 0, .ref (gN G 0 + (132 + 1 + 3)), .ref (gN G 0 + (132 + 1 + 4)), .null, .int 0, .int 0, .int 0, .null, .null, .int 0, .int 0, .null, .null, .null, .null] (opn nop (132 + 1 + 0) (.inl (gT G 0, 63, .inl (fun _ => 0)))) F := hSt
  have hR : BRep G (132 + 1 + 5) F H := hR
  refine lv_aload_n hx hb dX6_init_50 rfl (lv_at hl 0 rfl) ?_
  refine lv_bipush (v := 60) hx hb dX6_init_51 (by decide) ?_
  refine s_newi hB hsz hSt hR hS (v := 60) 60 rfl (by decide +kernel) (by decide) (by decide) (by decide) (Nat.le_of_ble_eq_true rfl) (Nat.le_of_ble_eq_true rfl) dX6_init_53 (fun F H hSt hR hS => ?_)
  have hSt : St G 6 E 132 6 [.ref (gN G 0 + (132 + 1 + 0)), .ref (gN G 0 + (132 + 1 + 1)), .int (-1), .int 0, .ref (gN G 0 + (132 + 1 + 2)), .int 0, .ref (gN G 0 + (132 + 1 + 3)), .ref (gN G 0 + (132 + 1 + 4)), .null, .int 0, .int 0, .int 0, .null, .null, .int 0, .int 0, .null, .null, .null, .null] (opn nop (132 + 1 + 0) (.inl (gT G 0, 63, .inl (fun _ => 0)))) F := hSt
  have hR : BRep G (132 + 1 + 6) F H := hR
  refine s_putF tyX6 (ty := .array .int) fwX6 tyX6_ok nmX6 (j := 8) (by decide) rfl hin rfl (by decide +kernel) (by decide +kernel) hB hSt hR hS rfl rfl (Nat.le_of_ble_eq_true rfl) dX6_init_55 (fun F H locs hSt hR hS => ?_)
  have hSt : St G 6 E 132 6 [.ref (gN G 0 + (132 + 1 + 0)), .ref (gN G 0 + (132 + 1 + 1)), .int (-1), .int 0, .ref (gN G 0 + (132 + 1 + 2)), .int 0, .ref (gN G 0 + (132 + 1 + 3)), .ref (gN G 0 + (132 + 1 + 4)), .ref (gN G 0 + (132 + 1 + 5)), .int 0, .int 0, .int 0, .null, .null, .int 0, .int 0, .null, .null, .null, .null] (opn nop (132 + 1 + 0) (.inl (gT G 0, 63, .inl (fun _ => 0)))) F := hSt
  have hR : BRep G (132 + 1 + 6) F H := hR
  refine lv_aload_n hx hb dX6_init_58 rfl (lv_at hl 0 rfl) ?_
  refine lv_bipush (v := 21) hx hb dX6_init_59 (by decide) ?_
  refine s_newi hB hsz hSt hR hS (v := 21) 21 rfl (by decide +kernel) (by decide) (by decide) (by decide) (Nat.le_of_ble_eq_true rfl) (Nat.le_of_ble_eq_true rfl) dX6_init_61 (fun F H hSt hR hS => ?_)
  have hSt : St G 6 E 132 7 [.ref (gN G 0 + (132 + 1 + 0)), .ref (gN G 0 + (132 + 1 + 1)), .int (-1), .int 0, .ref (gN G 0 + (132 + 1 + 2)), .int 0, .ref (gN G 0 + (132 + 1 + 3)), .ref (gN G 0 + (132 + 1 + 4)), .ref (gN G 0 + (132 + 1 + 5)), .int 0, .int 0, .int 0, .null, .null, .int 0, .int 0, .null, .null, .null, .null] (opn nop (132 + 1 + 0) (.inl (gT G 0, 63, .inl (fun _ => 0)))) F := hSt
  have hR : BRep G (132 + 1 + 7) F H := hR
  refine s_putF tyX6 (ty := .array .int) fwX6 tyX6_ok nmX6 (j := 12) (by decide) rfl hin rfl (by decide +kernel) (by decide +kernel) hB hSt hR hS rfl rfl (Nat.le_of_ble_eq_true rfl) dX6_init_63 (fun F H locs hSt hR hS => ?_)
  have hSt : St G 6 E 132 7 [.ref (gN G 0 + (132 + 1 + 0)), .ref (gN G 0 + (132 + 1 + 1)), .int (-1), .int 0, .ref (gN G 0 + (132 + 1 + 2)), .int 0, .ref (gN G 0 + (132 + 1 + 3)), .ref (gN G 0 + (132 + 1 + 4)), .ref (gN G 0 + (132 + 1 + 5)), .int 0, .int 0, .int 0, .ref (gN G 0 + (132 + 1 + 6)), .null, .int 0, .int 0, .null, .null, .null, .null] (opn nop (132 + 1 + 0) (.inl (gT G 0, 63, .inl (fun _ => 0)))) F := hSt
  have hR : BRep G (132 + 1 + 7) F H := hR
  refine lv_aload_n hx hb dX6_init_66 rfl (lv_at hl 0 rfl) ?_
  refine lv_sipush (v := 567) hx hb dX6_init_67 (by decide) ?_
  refine s_newi hB hsz hSt hR hS (v := 567) 567 rfl (by decide +kernel) (by decide) (by decide) (by decide) (Nat.le_of_ble_eq_true rfl) (Nat.le_of_ble_eq_true rfl) dX6_init_70 (fun F H hSt hR hS => ?_)
  have hSt : St G 6 E 132 8 [.ref (gN G 0 + (132 + 1 + 0)), .ref (gN G 0 + (132 + 1 + 1)), .int (-1), .int 0, .ref (gN G 0 + (132 + 1 + 2)), .int 0, .ref (gN G 0 + (132 + 1 + 3)), .ref (gN G 0 + (132 + 1 + 4)), .ref (gN G 0 + (132 + 1 + 5)), .int 0, .int 0, .int 0, .ref (gN G 0 + (132 + 1 + 6)), .null, .int 0, .int 0, .null, .null, .null, .null] (opn nop (132 + 1 + 0) (.inl (gT G 0, 63, .inl (fun _ => 0)))) F := hSt
  have hR : BRep G (132 + 1 + 8) F H := hR
  refine s_putF tyX6 (ty := .array .int) fwX6 tyX6_ok nmX6 (j := 13) (by decide) rfl hin rfl (by decide +kernel) (by decide +kernel) hB hSt hR hS rfl rfl (Nat.le_of_ble_eq_true rfl) dX6_init_72 (fun F H locs hSt hR hS => ?_)
  have hSt : St G 6 E 132 8 [.ref (gN G 0 + (132 + 1 + 0)), .ref (gN G 0 + (132 + 1 + 1)), .int (-1), .int 0, .ref (gN G 0 + (132 + 1 + 2)), .int 0, .ref (gN G 0 + (132 + 1 + 3)), .ref (gN G 0 + (132 + 1 + 4)), .ref (gN G 0 + (132 + 1 + 5)), .int 0, .int 0, .int 0, .ref (gN G 0 + (132 + 1 + 6)), .ref (gN G 0 + (132 + 1 + 7)), .int 0, .int 0, .null, .null, .null, .null] (opn nop (132 + 1 + 0) (.inl (gT G 0, 63, .inl (fun _ => 0)))) F := hSt
  have hR : BRep G (132 + 1 + 8) F H := hR
  refine lv_aload_n hx hb dX6_init_75 rfl (lv_at hl 0 rfl) ?_
  refine lv_iconst (v := 4) hx hb dX6_init_76 (by decide) ?_
  refine s_newiO hB hsz hSt hR hS (v := 4) 4 (by decide) (by decide) (by decide) (Nat.le_of_ble_eq_true rfl) (Nat.le_of_ble_eq_true rfl) dX6_init_77 (fun F H hSt hR hS => ?_)
  have hSt : St G 6 E 132 9 [.ref (gN G 0 + (132 + 1 + 0)), .ref (gN G 0 + (132 + 1 + 1)), .int (-1), .int 0, .ref (gN G 0 + (132 + 1 + 2)), .int 0, .ref (gN G 0 + (132 + 1 + 3)), .ref (gN G 0 + (132 + 1 + 4)), .ref (gN G 0 + (132 + 1 + 5)), .int 0, .int 0, .int 0, .ref (gN G 0 + (132 + 1 + 6)), .ref (gN G 0 + (132 + 1 + 7)), .int 0, .int 0, .null, .null, .null, .null] (opn (opn nop (132 + 1 + 0) (.inl (gT G 0, 63, .inl (fun _ => 0)))) (132 + 1 + 8) (.inl (gT G 0, 4, .inl (fun _ => 0)))) F := hSt
  have hR : BRep G (132 + 1 + 9) F H := hR
  refine s_putF tyX6 (ty := .array .int) fwX6 tyX6_ok nmX6 (j := 16) (by decide) rfl hin rfl (by decide +kernel) (by decide +kernel) hB hSt hR hS rfl rfl (Nat.le_of_ble_eq_true rfl) dX6_init_79 (fun F H locs hSt hR hS => ?_)
  have hSt : St G 6 E 132 9 [.ref (gN G 0 + (132 + 1 + 0)), .ref (gN G 0 + (132 + 1 + 1)), .int (-1), .int 0, .ref (gN G 0 + (132 + 1 + 2)), .int 0, .ref (gN G 0 + (132 + 1 + 3)), .ref (gN G 0 + (132 + 1 + 4)), .ref (gN G 0 + (132 + 1 + 5)), .int 0, .int 0, .int 0, .ref (gN G 0 + (132 + 1 + 6)), .ref (gN G 0 + (132 + 1 + 7)), .int 0, .int 0, .ref (gN G 0 + (132 + 1 + 8)), .null, .null, .null] (opn (opn nop (132 + 1 + 0) (.inl (gT G 0, 63, .inl (fun _ => 0)))) (132 + 1 + 8) (.inl (gT G 0, 4, .inl (fun _ => 0)))) F := hSt
  have hR : BRep G (132 + 1 + 9) F H := hR
  refine lv_aload_n hx hb dX6_init_82 rfl (lv_at hl 0 rfl) ?_
  refine lv_iconst (v := 4) hx hb dX6_init_83 (by decide) ?_
  refine s_newi hB hsz hSt hR hS (v := 4) 4 rfl (by decide +kernel) (by decide) (by decide) (by decide) (Nat.le_of_ble_eq_true rfl) (Nat.le_of_ble_eq_true rfl) dX6_init_84 (fun F H hSt hR hS => ?_)
  have hSt : St G 6 E 132 10 [.ref (gN G 0 + (132 + 1 + 0)), .ref (gN G 0 + (132 + 1 + 1)), .int (-1), .int 0, .ref (gN G 0 + (132 + 1 + 2)), .int 0, .ref (gN G 0 + (132 + 1 + 3)), .ref (gN G 0 + (132 + 1 + 4)), .ref (gN G 0 + (132 + 1 + 5)), .int 0, .int 0, .int 0, .ref (gN G 0 + (132 + 1 + 6)), .ref (gN G 0 + (132 + 1 + 7)), .int 0, .int 0, .ref (gN G 0 + (132 + 1 + 8)), .null, .null, .null] (opn (opn nop (132 + 1 + 0) (.inl (gT G 0, 63, .inl (fun _ => 0)))) (132 + 1 + 8) (.inl (gT G 0, 4, .inl (fun _ => 0)))) F := hSt
  have hR : BRep G (132 + 1 + 10) F H := hR
  refine s_putF tyX6 (ty := .array .int) fwX6 tyX6_ok nmX6 (j := 17) (by decide) rfl hin rfl (by decide +kernel) (by decide +kernel) hB hSt hR hS rfl rfl (Nat.le_of_ble_eq_true rfl) dX6_init_86 (fun F H locs hSt hR hS => ?_)
  have hSt : St G 6 E 132 10 [.ref (gN G 0 + (132 + 1 + 0)), .ref (gN G 0 + (132 + 1 + 1)), .int (-1), .int 0, .ref (gN G 0 + (132 + 1 + 2)), .int 0, .ref (gN G 0 + (132 + 1 + 3)), .ref (gN G 0 + (132 + 1 + 4)), .ref (gN G 0 + (132 + 1 + 5)), .int 0, .int 0, .int 0, .ref (gN G 0 + (132 + 1 + 6)), .ref (gN G 0 + (132 + 1 + 7)), .int 0, .int 0, .ref (gN G 0 + (132 + 1 + 8)), .ref (gN G 0 + (132 + 1 + 9)), .null, .null] (opn (opn nop (132 + 1 + 0) (.inl (gT G 0, 63, .inl (fun _ => 0)))) (132 + 1 + 8) (.inl (gT G 0, 4, .inl (fun _ => 0)))) F := hSt
  have hR : BRep G (132 + 1 + 10) F H := hR
  refine lv_aload_n hx hb dX6_init_89 rfl (lv_at hl 0 rfl) ?_
  refine lv_bipush (v := 96) hx hb dX6_init_90 (by decide) ?_
  refine s_newl hB hsz hSt hR hS (v := 96) 96 rfl (by decide +kernel) (by decide) (by decide) (by decide) (Nat.le_of_ble_eq_true rfl) (Nat.le_of_ble_eq_true rfl) dX6_init_92 (fun F H hSt hR hS => ?_)
  have hSt : St G 6 E 132 11 [.ref (gN G 0 + (132 + 1 + 0)), .ref (gN G 0 + (132 + 1 + 1)), .int (-1), .int 0, .ref (gN G 0 + (132 + 1 + 2)), .int 0, .ref (gN G 0 + (132 + 1 + 3)), .ref (gN G 0 + (132 + 1 + 4)), .ref (gN G 0 + (132 + 1 + 5)), .int 0, .int 0, .int 0, .ref (gN G 0 + (132 + 1 + 6)), .ref (gN G 0 + (132 + 1 + 7)), .int 0, .int 0, .ref (gN G 0 + (132 + 1 + 8)), .ref (gN G 0 + (132 + 1 + 9)), .null, .null] (opn (opn nop (132 + 1 + 0) (.inl (gT G 0, 63, .inl (fun _ => 0)))) (132 + 1 + 8) (.inl (gT G 0, 4, .inl (fun _ => 0)))) F := hSt
  have hR : BRep G (132 + 1 + 11) F H := hR
  refine s_putF tyX6 (ty := .array .long) fwX6 tyX6_ok nmX6 (j := 18) (by decide) rfl hin rfl (by decide +kernel) (by decide +kernel) hB hSt hR hS rfl rfl (Nat.le_of_ble_eq_true rfl) dX6_init_94 (fun F H locs hSt hR hS => ?_)
  have hSt : St G 6 E 132 11 [.ref (gN G 0 + (132 + 1 + 0)), .ref (gN G 0 + (132 + 1 + 1)), .int (-1), .int 0, .ref (gN G 0 + (132 + 1 + 2)), .int 0, .ref (gN G 0 + (132 + 1 + 3)), .ref (gN G 0 + (132 + 1 + 4)), .ref (gN G 0 + (132 + 1 + 5)), .int 0, .int 0, .int 0, .ref (gN G 0 + (132 + 1 + 6)), .ref (gN G 0 + (132 + 1 + 7)), .int 0, .int 0, .ref (gN G 0 + (132 + 1 + 8)), .ref (gN G 0 + (132 + 1 + 9)), .ref (gN G 0 + (132 + 1 + 10)), .null] (opn (opn nop (132 + 1 + 0) (.inl (gT G 0, 63, .inl (fun _ => 0)))) (132 + 1 + 8) (.inl (gT G 0, 4, .inl (fun _ => 0)))) F := hSt
  have hR : BRep G (132 + 1 + 11) F H := hR
  refine lv_aload_n hx hb dX6_init_97 rfl (lv_at hl 0 rfl) ?_
  refine lv_bipush (v := 24) hx hb dX6_init_98 (by decide) ?_
  refine s_newl hB hsz hSt hR hS (v := 24) 24 rfl (by decide +kernel) (by decide) (by decide) (by decide) (Nat.le_of_ble_eq_true rfl) (Nat.le_of_ble_eq_true rfl) dX6_init_100 (fun F H hSt hR hS => ?_)
  have hSt : St G 6 E 132 12 [.ref (gN G 0 + (132 + 1 + 0)), .ref (gN G 0 + (132 + 1 + 1)), .int (-1), .int 0, .ref (gN G 0 + (132 + 1 + 2)), .int 0, .ref (gN G 0 + (132 + 1 + 3)), .ref (gN G 0 + (132 + 1 + 4)), .ref (gN G 0 + (132 + 1 + 5)), .int 0, .int 0, .int 0, .ref (gN G 0 + (132 + 1 + 6)), .ref (gN G 0 + (132 + 1 + 7)), .int 0, .int 0, .ref (gN G 0 + (132 + 1 + 8)), .ref (gN G 0 + (132 + 1 + 9)), .ref (gN G 0 + (132 + 1 + 10)), .null] (opn (opn nop (132 + 1 + 0) (.inl (gT G 0, 63, .inl (fun _ => 0)))) (132 + 1 + 8) (.inl (gT G 0, 4, .inl (fun _ => 0)))) F := hSt
  have hR : BRep G (132 + 1 + 12) F H := hR
  refine s_putF tyX6 (ty := .array .long) fwX6 tyX6_ok nmX6 (j := 19) (by decide) rfl hin rfl (by decide +kernel) (by decide +kernel) hB hSt hR hS rfl rfl (Nat.le_of_ble_eq_true rfl) dX6_init_102 (fun F H locs hSt hR hS => ?_)
  have hSt : St G 6 E 132 12 [.ref (gN G 0 + (132 + 1 + 0)), .ref (gN G 0 + (132 + 1 + 1)), .int (-1), .int 0, .ref (gN G 0 + (132 + 1 + 2)), .int 0, .ref (gN G 0 + (132 + 1 + 3)), .ref (gN G 0 + (132 + 1 + 4)), .ref (gN G 0 + (132 + 1 + 5)), .int 0, .int 0, .int 0, .ref (gN G 0 + (132 + 1 + 6)), .ref (gN G 0 + (132 + 1 + 7)), .int 0, .int 0, .ref (gN G 0 + (132 + 1 + 8)), .ref (gN G 0 + (132 + 1 + 9)), .ref (gN G 0 + (132 + 1 + 10)), .ref (gN G 0 + (132 + 1 + 11))] (opn (opn nop (132 + 1 + 0) (.inl (gT G 0, 63, .inl (fun _ => 0)))) (132 + 1 + 8) (.inl (gT G 0, 4, .inl (fun _ => 0)))) F := hSt
  have hR : BRep G (132 + 1 + 12) F H := hR
  have hSt : St G 6 E 132 12 [.ref (gN G 0 + (132 + 1 + 0)), .ref (gN G 0 + (132 + 1 + 1)), .int (-1), .int 0, .ref (gN G 0 + (132 + 1 + 2)), .int 0, .ref (gN G 0 + (132 + 1 + 3)), .ref (gN G 0 + (132 + 1 + 4)), .ref (gN G 0 + (132 + 1 + 5)), .int 0, .int 0, .int 0, .ref (gN G 0 + (132 + 1 + 6)), .ref (gN G 0 + (132 + 1 + 7)), .int 0, .int 0, .ref (gN G 0 + (132 + 1 + 8)), .ref (gN G 0 + (132 + 1 + 9)), .ref (gN G 0 + (132 + 1 + 10)), .ref (gN G 0 + (132 + 1 + 11))] (opn (opn nop 141 (.inl (gT G 0, 4, .inl (fun _ => 0)))) 133 (.inl (gT G 0, 63, .inl (fun _ => 0)))) F := by rw [← opn_comm (by decide)]; exact hSt
  have hR : BRep G 145 F H := hR
  refine lv_aload_n hx hb dX6_init_105 rfl (lv_at hl 0 rfl) ?_
  refine b_get (M := mX6_init) (a := 132) fwX6 (j := 0) (by decide) flkX6a hB hR (by decide) hSt.1 rfl dX6_init_106 ?_
  refine lv_iconst (v := nI 0) hx hb dX6_init_109 (by decide) ?_
  refine lv_bipush (v := 30) hx hb dX6_init_110 (by decide) ?_
  refine b_iast (M := mX6_init) (a := 133) (n := 63) hB hR hS (by decide) (hSt.at (by decide) (by decide)) (i := 0) (by decide) (by decide) dX6_init_112 (fun H locs hR hS => ?_)
  have hSt := hSt.wr (w := .inl (gT G 0, 63, .inl (upd (fun _ => 0) 0 30))) (by decide)
  refine lv_aload_n hx hb dX6_init_113 rfl (lv_at hl 0 rfl) ?_
  refine b_get (M := mX6_init) (a := 132) fwX6 (j := 0) (by decide) flkX6a hB hR (by decide) hSt.1 rfl dX6_init_114 ?_
  refine lv_iconst (v := nI 1) hx hb dX6_init_117 (by decide) ?_
  refine lv_iconst (v := 4) hx hb dX6_init_118 (by decide) ?_
  refine b_iast (M := mX6_init) (a := 133) (n := 63) hB hR hS (by decide) (hSt.at (by decide) (by decide)) (i := 1) (by decide) (by decide) dX6_init_119 (fun H locs hR hS => ?_)
  have hSt := hSt.wr (w := .inl (gT G 0, 63, .inl (upd (upd (fun _ => 0) 0 30) 1 4))) (by decide)
  refine lv_aload_n hx hb dX6_init_120 rfl (lv_at hl 0 rfl) ?_
  refine b_get (M := mX6_init) (a := 132) fwX6 (j := 0) (by decide) flkX6a hB hR (by decide) hSt.1 rfl dX6_init_121 ?_
  refine lv_iconst (v := nI 2) hx hb dX6_init_124 (by decide) ?_
  refine lv_bipush (v := 10) hx hb dX6_init_125 (by decide) ?_
  refine b_iast (M := mX6_init) (a := 133) (n := 63) hB hR hS (by decide) (hSt.at (by decide) (by decide)) (i := 2) (by decide) (by decide) dX6_init_127 (fun H locs hR hS => ?_)
  have hSt := hSt.wr (w := .inl (gT G 0, 63, .inl (upd (upd (upd (fun _ => 0) 0 30) 1 4) 2 10))) (by decide)
  refine lv_aload_n hx hb dX6_init_128 rfl (lv_at hl 0 rfl) ?_
  refine b_get (M := mX6_init) (a := 132) fwX6 (j := 0) (by decide) flkX6a hB hR (by decide) hSt.1 rfl dX6_init_129 ?_
  refine lv_iconst (v := nI 3) hx hb dX6_init_132 (by decide) ?_
  refine lv_iconst (v := 4) hx hb dX6_init_133 (by decide) ?_
  refine b_iast (M := mX6_init) (a := 133) (n := 63) hB hR hS (by decide) (hSt.at (by decide) (by decide)) (i := 3) (by decide) (by decide) dX6_init_134 (fun H locs hR hS => ?_)
  have hSt := hSt.wr (w := .inl (gT G 0, 63, .inl (upd (upd (upd (upd (fun _ => 0) 0 30) 1 4) 2 10) 3 4))) (by decide)
  refine lv_aload_n hx hb dX6_init_135 rfl (lv_at hl 0 rfl) ?_
  refine b_get (M := mX6_init) (a := 132) fwX6 (j := 0) (by decide) flkX6a hB hR (by decide) hSt.1 rfl dX6_init_136 ?_
  refine lv_iconst (v := nI 4) hx hb dX6_init_139 (by decide) ?_
  refine lv_iconst (v := 3) hx hb dX6_init_140 (by decide) ?_
  refine b_iast (M := mX6_init) (a := 133) (n := 63) hB hR hS (by decide) (hSt.at (by decide) (by decide)) (i := 4) (by decide) (by decide) dX6_init_141 (fun H locs hR hS => ?_)
  have hSt := hSt.wr (w := .inl (gT G 0, 63, .inl (upd (upd (upd (upd (upd (fun _ => 0) 0 30) 1 4) 2 10) 3 4) 4 3))) (by decide)
  refine lv_aload_n hx hb dX6_init_142 rfl (lv_at hl 0 rfl) ?_
  refine b_get (M := mX6_init) (a := 132) fwX6 (j := 0) (by decide) flkX6a hB hR (by decide) hSt.1 rfl dX6_init_143 ?_
  refine lv_bipush (v := nI 10) hx hb dX6_init_146 (by decide) ?_
  refine lv_bipush (v := (-4)) hx hb dX6_init_148 (by decide) ?_
  refine b_iast (M := mX6_init) (a := 133) (n := 63) hB hR hS (by decide) (hSt.at (by decide) (by decide)) (i := 10) (by decide) (by decide) dX6_init_150 (fun H locs hR hS => ?_)
  have hSt := hSt.wr (w := .inl (gT G 0, 63, .inl (upd (upd (upd (upd (upd (upd (fun _ => 0) 0 30) 1 4) 2 10) 3 4) 4 3) 10 (-4)))) (by decide)
  refine lv_aload_n hx hb dX6_init_151 rfl (lv_at hl 0 rfl) ?_
  refine b_get (M := mX6_init) (a := 132) fwX6 (j := 0) (by decide) flkX6a hB hR (by decide) hSt.1 rfl dX6_init_152 ?_
  refine lv_bipush (v := nI 13) hx hb dX6_init_155 (by decide) ?_
  refine lv_iconst (v := 1) hx hb dX6_init_157 (by decide) ?_
  refine b_iast (M := mX6_init) (a := 133) (n := 63) hB hR hS (by decide) (hSt.at (by decide) (by decide)) (i := 13) (by decide) (by decide) dX6_init_158 (fun H locs hR hS => ?_)
  have hSt := hSt.wr (w := .inl (gT G 0, 63, .inl (upd (upd (upd (upd (upd (upd (upd (fun _ => 0) 0 30) 1 4) 2 10) 3 4) 4 3) 10 (-4)) 13 1))) (by decide)
  have hSt := hSt.close rfl (by decide) (by decide) (by rw [ent_7 m_k.1.1, m_k.1.2, now_f])
  rw [laF_0] at hSt
  refine lv_iconst (v := nI 0) hx hb dX6_init_159 (by decide) ?_
  refine lv_istore_n (lv' := [(1, .int (nI 0)), (0, .ref (gN G 0 + 132))]) hx hb dX6_init_160 rfl hl (by decide) rfl (fun ls hl => ?_)
  have lp : ∀ (d i : Nat) (F : BE) (H : Heap) (locs : List Loc) (ls : Array Slot), i + d = 4 → St G 6 E 132 12 [.ref (gN G 0 + (132 + 1 + 0)), .ref (gN G 0 + (132 + 1 + 1)), .int (-1), .int 0, .ref (gN G 0 + (132 + 1 + 2)), .int 0, .ref (gN G 0 + (132 + 1 + 3)), .ref (gN G 0 + (132 + 1 + 4)), .ref (gN G 0 + (132 + 1 + 5)), .int 0, .int 0, .int 0, .ref (gN G 0 + (132 + 1 + 6)), .ref (gN G 0 + (132 + 1 + 7)), .int 0, .int 0, .ref (gN G 0 + (132 + 1 + 8)), .ref (gN G 0 + (132 + 1 + 9)), .ref (gN G 0 + (132 + 1 + 10)), .ref (gN G 0 + (132 + 1 + 11))] (opn nop 141 (.inl (gT G 0, 4, .inl (laF i)))) F → BRep G 145 F H → va_S (AA G) s.heap H locs → lv_has ls 2 [(1, .int (nI i)), (0, .ref (gN G 0 + 132))] →
      W p (gL G) e { frames := mX6_init.2.2.2.2, cells := 12, slots := 1420, locals := 40 * mX6_init.2.2.2.2 } s m #[.ref (gN G 0 + 132)] below meth c H locs 12 1420 (MQ below (va_Qv (Pst G E 132 145) (fun E2 t => BRep G 145 E2 t.heap) (AA G)) #[.ref (gN G 0 + 132)] s 12 1420 (AA G)) (F0 m 161 ls []) := by
    intro d
    induction d with
    | zero =>
      intro i F H locs ls hi hSt hR hS hl
      have ei : i = 4 := by omega
      subst ei
      refine lv_iload_n hx hb dX6_init_161 rfl (lv_at hl 0 rfl) ?_
      refine lv_iconst (v := nI 4) hx hb dX6_init_162 (by decide) ?_
      refine lv_icmp_ge (tgt := 179) hx hb dX6_init_163 (by decide) (fun _ => ?_) (fun q => absurd (by decide) q)
      have hSt2 := hSt.close rfl (by decide) (by decide) (by rw [ent_7 m_k.2.1, m_k.2.2, laF_4])
      exact W.vret hx hb hr (fun t ht hW => ⟨⟨_, rfl, hSt2.done ent_m.symm, by show BRep G _ _ t.heap; rw [ht]; exact hR⟩, hS.F ht⟩) hS.2.2 dX6_init_179
    | succ d ih =>
      intro i F H locs ls hi hSt hR hS hl
      refine lv_iload_n hx hb dX6_init_161 rfl (lv_at hl 0 rfl) ?_
      refine lv_iconst (v := nI 4) hx hb dX6_init_162 (by decide) ?_
      refine lv_icmp_ge (tgt := 179) hx hb dX6_init_163 (by decide) (fun q => absurd ((nI_leI (by omega) (by omega)).mp q) (by omega)) (fun _ => ?_)
      refine lv_aload_n hx hb dX6_init_166 rfl (lv_at hl 1 rfl) ?_
      refine b_get (M := mX6_init) (a := 132) fwX6 (j := 16) (by decide) flkX6b hB hR (by decide) hSt.1 rfl dX6_init_167 ?_
      refine lv_iload_n hx hb dX6_init_170 rfl (lv_at hl 0 rfl) ?_
      refine lv_iconst (v := -1) hx hb dX6_init_171 (by decide) ?_
      refine b_iast (M := mX6_init) (a := 141) (n := 4) hB hR hS (by decide) (hSt.at (by decide) (by decide)) (i := i) (by omega) (by decide) dX6_init_172 (fun H locs hR hS => ?_)
      rw [laF_s] at hR
      have hSt := hSt.wr (w := .inl (gT G 0, 4, .inl (laF (i + 1)))) (by decide)
      refine lv_iinc (v := nI (i + 1)) (lv' := [(1, .int (nI (i + 1))), (0, .ref (gN G 0 + 132))]) hx hb dX6_init_173 hl (k := 0) rfl (nI_1 i) (by decide) rfl (fun ls hl => ?_)
      refine lv_goto (tgt := 161) hx hb dX6_init_176 (by decide) ?_
      exact ih (i + 1) _ H locs ls (by omega) hSt hR hS hl
  exact lp 4 0 _ H locs ls (by omega) hSt hR hS hl
