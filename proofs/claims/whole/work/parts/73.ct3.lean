/-! WellTurns() -/
def shF (G : GG) (i : Nat) : Nat → Option Nat := fun j => if j < i then some (gN G 0 + (124 + 2 * j)) else none
theorem shF_0 {G : GG} : (fun _ => none) = shF G 0 := by funext j; unfold shF; rw [if_neg (by omega)]
theorem shF_s {G : GG} {i : Nat} : va_up (shF G i) i (some (gN G 0 + (0 + 1 + (123 + 2 * i)))) = shF G (i + 1) := by
  funext j
  unfold va_up shF
  by_cases e : j = i
  · rw [if_pos e, if_pos (by omega), e, show 0 + 1 + (123 + 2 * i) = 124 + 2 * i by omega]
  · rw [if_neg e]
    by_cases f : j < i
    · rw [if_pos f, if_pos (by omega)]
    · rw [if_neg f, if_neg (by omega)]
theorem sh_rf : ∀ j, j < 4 → rf 123 j = 124 + 2 * j := by decide +kernel
theorem sh_k : ky 123 = 10 ∧ ln 123 = 4 := by decide +kernel
theorem flkX5 : Cond.fieldLink mX5_init.1.cls 64 (TX5 13).1 (TX5 13).2.1 (TX5 13).2.2.1 ∈ lw_tbl := by decide +kernel
set_option maxRecDepth 100000 in
theorem ent_x {G : GG} : ent G t0 0 = .inr (5, [.ref (gN G 0 + 1), .ref (gN G 0 + 7), .ref (gN G 0 + 12), .int 0, .ref (gN G 0 + 54), .ref (gN G 0 + 60), .ref (gN G 0 + 65), .ref (gN G 0 + 107), .ref (gN G 0 + 113), .ref (gN G 0 + 118), .ref (gN G 0 + 119), .ref (gN G 0 + 120), .ref (gN G 0 + 121), .ref (gN G 0 + 123)]) := rfl
set_option maxHeartbeats 4000000 in
set_option maxRecDepth 100000 in
theorem bX5 {G : GG} {E : BE} (hE : E 0 = .inr (5, [.null, .null, .null, .int 0, .null, .null, .null, .null, .null, .null, .null, .null, .null, .null])) : BX G mX5_init 0 1 132 131 1090 E (Pst G E 0 132) := by
  refine Met.ofW (cc := cX5_init) (maxL := 2) (ret := none) (by decide) rfl ?_
  intro p e s m args below meth c s₁ B hml hv
  obtain ⟨rfl, hsz, hR, hC, hAO⟩ := hv
  have hB : BC G mX5_init p s m c := ⟨B.exec, B.bytes, hml, findClass_of_methodNamed B.named, hC, by omega, hAO⟩
  have hin : meth.name = "<init>" := (name_of_methodNamed B.named B.method).1
  have hlocks := B.notSynchronized
  have hS : va_S (AA G) s.heap s.heap [] := va_S.rf
  have hl := lv_entry ([.ref (gN G 0 + 0)]) (n := 2) (Nat.le_of_ble_eq_true rfl)
  rw [lg_entry_eq]
  generalize (lg_sl ([.ref (gN G 0 + 0)]) ++ List.replicate (2 - (lg_sl ([.ref (gN G 0 + 0)])).length) Slot.unset).toArray = ls at hl ⊢
  have hl : lv_has ls 2 [(0, .ref (gN G 0 + 0))] := hl
  have hx := B.exec
  have hb := B.bytes
  have hr := B.returns
  have hSt : St G 5 E 0 0 [.null, .null, .null, .int 0, .null, .null, .null, .null, .null, .null, .null, .null, .null, .null] nop E := ⟨hE, fun _ _ => rfl, fun k h1 h2 => absurd h2 (by omega), fun k v h1 h2 => absurd h2 (by omega)⟩
  refine lv_aload_n hx hb dX5_init_0 rfl (lv_at hl 0 rfl) ?_
  refine b_obj (M := mX5_init) (by decide +kernel) hB hl.1 (Nat.le_of_ble_eq_true rfl) (Nat.le_of_ble_eq_true rfl) dX5_init_1 ?_
  refine lv_aload_n hx hb dX5_init_4 rfl (lv_at hl 0 rfl) ?_
  refine s_sub (z := 5) (ms := 35) (N := mX0_init) (d2 := [.int 0, .int 0, .int 0, .int 0, .int 0, .int 0, .int 0, .int 0, .null, .null, .null, .null, .null, .int 0]) tyX0 fwX0 tyX0_ok (by decide +kernel) (by decide +kernel) (by decide +kernel) (by decide +kernel) oiX0 (Or.inr ⟨"WellTurns", by decide +kernel⟩) (Nat.le_of_ble_eq_true rfl) (Nat.le_of_ble_eq_true rfl) hB hsz hSt hR hS (fun k hk => rfl) hl.1 (Nat.le_of_ble_eq_true rfl) dX5_init_5 dX5_init_8 dX5_init_9 (Nat.le_of_ble_eq_true rfl) (Nat.le_of_ble_eq_true rfl) (fun F2 h2 => bX0 (by unfold IsCamp; decide) h2) (fun F H locs hSt hR hS => ?_)
  have hSt : St G 5 E 0 6 [.null, .null, .null, .int 0, .null, .null, .null, .null, .null, .null, .null, .null, .null, .null] nop F := hSt
  have hR : BRep G (0 + 1 + 6) F H := hR
  refine s_putF tyX5 (ty := .object "WellTurns$Camp") fwX5 tyX5_ok nmX5 (j := 0) (by decide) rfl hin rfl (by decide +kernel) (by decide +kernel) hB hSt hR hS rfl rfl (Nat.le_of_ble_eq_true rfl) dX5_init_12 (fun F H locs hSt hR hS => ?_)
  have hSt : St G 5 E 0 6 [.ref (gN G 0 + (0 + 1 + 0)), .null, .null, .int 0, .null, .null, .null, .null, .null, .null, .null, .null, .null, .null] nop F := hSt
  have hR : BRep G (0 + 1 + 6) F H := hR
  refine lv_aload_n hx hb dX5_init_15 rfl (lv_at hl 0 rfl) ?_
  refine s_sub (z := 4) (ms := 28) (N := mX1_init) (d2 := [.int 0, .int 0, .int 0, .int 0, .int 0, .int 0, .null, .null, .null, .null]) tyX1 fwX1 tyX1_ok (by decide +kernel) (by decide +kernel) (by decide +kernel) (by decide +kernel) oiX1 (Or.inr ⟨"WellTurns", by decide +kernel⟩) (Nat.le_of_ble_eq_true rfl) (Nat.le_of_ble_eq_true rfl) hB hsz hSt hR hS (fun k hk => rfl) hl.1 (Nat.le_of_ble_eq_true rfl) dX5_init_16 dX5_init_19 dX5_init_20 (Nat.le_of_ble_eq_true rfl) (Nat.le_of_ble_eq_true rfl) (fun F2 h2 => bX1 (by unfold IsMom; decide) h2) (fun F H locs hSt hR hS => ?_)
  have hSt : St G 5 E 0 11 [.ref (gN G 0 + (0 + 1 + 0)), .null, .null, .int 0, .null, .null, .null, .null, .null, .null, .null, .null, .null, .null] nop F := hSt
  have hR : BRep G (0 + 1 + 11) F H := hR
  refine s_putF tyX5 (ty := .object "WellTurns$Moment") fwX5 tyX5_ok nmX5 (j := 1) (by decide) rfl hin rfl (by decide +kernel) (by decide +kernel) hB hSt hR hS rfl rfl (Nat.le_of_ble_eq_true rfl) dX5_init_23 (fun F H locs hSt hR hS => ?_)
  have hSt : St G 5 E 0 11 [.ref (gN G 0 + (0 + 1 + 0)), .ref (gN G 0 + (0 + 1 + 6)), .null, .int 0, .null, .null, .null, .null, .null, .null, .null, .null, .null, .null] nop F := hSt
  have hR : BRep G (0 + 1 + 11) F H := hR
  refine lv_aload_n hx hb dX5_init_26 rfl (lv_at hl 0 rfl) ?_
  refine s_sub (z := 41) (ms := 312) (N := mX2_init) (d2 := [.null, .int 0, .int 0]) tyX2 fwX2 tyX2_ok (by decide +kernel) (by decide +kernel) (by decide +kernel) (by decide +kernel) oiX2 (Or.inl (by decide +kernel)) (Nat.le_of_ble_eq_true rfl) (Nat.le_of_ble_eq_true rfl) hB hsz hSt hR hS (fun k hk => rfl) hl.1 (Nat.le_of_ble_eq_true rfl) dX5_init_27 dX5_init_30 dX5_init_31 (Nat.le_of_ble_eq_true rfl) (Nat.le_of_ble_eq_true rfl) (fun F2 h2 => bX2 (by unfold IsPast; decide) h2) (fun F H locs hSt hR hS => ?_)
  have hSt : St G 5 E 0 53 [.ref (gN G 0 + (0 + 1 + 0)), .ref (gN G 0 + (0 + 1 + 6)), .null, .int 0, .null, .null, .null, .null, .null, .null, .null, .null, .null, .null] nop F := hSt
  have hR : BRep G (0 + 1 + 53) F H := hR
  refine s_putF tyX5 (ty := .object "WellTurns$Past") fwX5 tyX5_ok nmX5 (j := 2) (by decide) rfl hin rfl (by decide +kernel) (by decide +kernel) hB hSt hR hS rfl rfl (Nat.le_of_ble_eq_true rfl) dX5_init_34 (fun F H locs hSt hR hS => ?_)
  have hSt : St G 5 E 0 53 [.ref (gN G 0 + (0 + 1 + 0)), .ref (gN G 0 + (0 + 1 + 6)), .ref (gN G 0 + (0 + 1 + 11)), .int 0, .null, .null, .null, .null, .null, .null, .null, .null, .null, .null] nop F := hSt
  have hR : BRep G (0 + 1 + 53) F H := hR
  refine lv_aload_n hx hb dX5_init_37 rfl (lv_at hl 0 rfl) ?_
  refine s_sub (z := 5) (ms := 35) (N := mX0_init) (d2 := [.int 0, .int 0, .int 0, .int 0, .int 0, .int 0, .int 0, .int 0, .null, .null, .null, .null, .null, .int 0]) tyX0 fwX0 tyX0_ok (by decide +kernel) (by decide +kernel) (by decide +kernel) (by decide +kernel) oiX0 (Or.inr ⟨"WellTurns", by decide +kernel⟩) (Nat.le_of_ble_eq_true rfl) (Nat.le_of_ble_eq_true rfl) hB hsz hSt hR hS (fun k hk => rfl) hl.1 (Nat.le_of_ble_eq_true rfl) dX5_init_38 dX5_init_41 dX5_init_42 (Nat.le_of_ble_eq_true rfl) (Nat.le_of_ble_eq_true rfl) (fun F2 h2 => bX0 (by unfold IsCamp; decide) h2) (fun F H locs hSt hR hS => ?_)
  have hSt : St G 5 E 0 59 [.ref (gN G 0 + (0 + 1 + 0)), .ref (gN G 0 + (0 + 1 + 6)), .ref (gN G 0 + (0 + 1 + 11)), .int 0, .null, .null, .null, .null, .null, .null, .null, .null, .null, .null] nop F := hSt
  have hR : BRep G (0 + 1 + 59) F H := hR
  refine s_putF tyX5 (ty := .object "WellTurns$Camp") fwX5 tyX5_ok nmX5 (j := 4) (by decide) rfl hin rfl (by decide +kernel) (by decide +kernel) hB hSt hR hS rfl rfl (Nat.le_of_ble_eq_true rfl) dX5_init_45 (fun F H locs hSt hR hS => ?_)
  have hSt : St G 5 E 0 59 [.ref (gN G 0 + (0 + 1 + 0)), .ref (gN G 0 + (0 + 1 + 6)), .ref (gN G 0 + (0 + 1 + 11)), .int 0, .ref (gN G 0 + (0 + 1 + 53)), .null, .null, .null, .null, .null, .null, .null, .null, .null] nop F := hSt
  have hR : BRep G (0 + 1 + 59) F H := hR
  refine lv_aload_n hx hb dX5_init_48 rfl (lv_at hl 0 rfl) ?_
  refine s_sub (z := 4) (ms := 28) (N := mX1_init) (d2 := [.int 0, .int 0, .int 0, .int 0, .int 0, .int 0, .null, .null, .null, .null]) tyX1 fwX1 tyX1_ok (by decide +kernel) (by decide +kernel) (by decide +kernel) (by decide +kernel) oiX1 (Or.inr ⟨"WellTurns", by decide +kernel⟩) (Nat.le_of_ble_eq_true rfl) (Nat.le_of_ble_eq_true rfl) hB hsz hSt hR hS (fun k hk => rfl) hl.1 (Nat.le_of_ble_eq_true rfl) dX5_init_49 dX5_init_52 dX5_init_53 (Nat.le_of_ble_eq_true rfl) (Nat.le_of_ble_eq_true rfl) (fun F2 h2 => bX1 (by unfold IsMom; decide) h2) (fun F H locs hSt hR hS => ?_)
  have hSt : St G 5 E 0 64 [.ref (gN G 0 + (0 + 1 + 0)), .ref (gN G 0 + (0 + 1 + 6)), .ref (gN G 0 + (0 + 1 + 11)), .int 0, .ref (gN G 0 + (0 + 1 + 53)), .null, .null, .null, .null, .null, .null, .null, .null, .null] nop F := hSt
  have hR : BRep G (0 + 1 + 64) F H := hR
  refine s_putF tyX5 (ty := .object "WellTurns$Moment") fwX5 tyX5_ok nmX5 (j := 5) (by decide) rfl hin rfl (by decide +kernel) (by decide +kernel) hB hSt hR hS rfl rfl (Nat.le_of_ble_eq_true rfl) dX5_init_56 (fun F H locs hSt hR hS => ?_)
  have hSt : St G 5 E 0 64 [.ref (gN G 0 + (0 + 1 + 0)), .ref (gN G 0 + (0 + 1 + 6)), .ref (gN G 0 + (0 + 1 + 11)), .int 0, .ref (gN G 0 + (0 + 1 + 53)), .ref (gN G 0 + (0 + 1 + 59)), .null, .null, .null, .null, .null, .null, .null, .null] nop F := hSt
  have hR : BRep G (0 + 1 + 64) F H := hR
  refine lv_aload_n hx hb dX5_init_59 rfl (lv_at hl 0 rfl) ?_
  refine s_sub (z := 41) (ms := 312) (N := mX2_init) (d2 := [.null, .int 0, .int 0]) tyX2 fwX2 tyX2_ok (by decide +kernel) (by decide +kernel) (by decide +kernel) (by decide +kernel) oiX2 (Or.inl (by decide +kernel)) (Nat.le_of_ble_eq_true rfl) (Nat.le_of_ble_eq_true rfl) hB hsz hSt hR hS (fun k hk => rfl) hl.1 (Nat.le_of_ble_eq_true rfl) dX5_init_60 dX5_init_63 dX5_init_64 (Nat.le_of_ble_eq_true rfl) (Nat.le_of_ble_eq_true rfl) (fun F2 h2 => bX2 (by unfold IsPast; decide) h2) (fun F H locs hSt hR hS => ?_)
  have hSt : St G 5 E 0 106 [.ref (gN G 0 + (0 + 1 + 0)), .ref (gN G 0 + (0 + 1 + 6)), .ref (gN G 0 + (0 + 1 + 11)), .int 0, .ref (gN G 0 + (0 + 1 + 53)), .ref (gN G 0 + (0 + 1 + 59)), .null, .null, .null, .null, .null, .null, .null, .null] nop F := hSt
  have hR : BRep G (0 + 1 + 106) F H := hR
  refine s_putF tyX5 (ty := .object "WellTurns$Past") fwX5 tyX5_ok nmX5 (j := 6) (by decide) rfl hin rfl (by decide +kernel) (by decide +kernel) hB hSt hR hS rfl rfl (Nat.le_of_ble_eq_true rfl) dX5_init_67 (fun F H locs hSt hR hS => ?_)
  have hSt : St G 5 E 0 106 [.ref (gN G 0 + (0 + 1 + 0)), .ref (gN G 0 + (0 + 1 + 6)), .ref (gN G 0 + (0 + 1 + 11)), .int 0, .ref (gN G 0 + (0 + 1 + 53)), .ref (gN G 0 + (0 + 1 + 59)), .ref (gN G 0 + (0 + 1 + 64)), .null, .null, .null, .null, .null, .null, .null] nop F := hSt
  have hR : BRep G (0 + 1 + 106) F H := hR
  refine lv_aload_n hx hb dX5_init_70 rfl (lv_at hl 0 rfl) ?_
  refine s_sub (z := 5) (ms := 35) (N := mX0_init) (d2 := [.int 0, .int 0, .int 0, .int 0, .int 0, .int 0, .int 0, .int 0, .null, .null, .null, .null, .null, .int 0]) tyX0 fwX0 tyX0_ok (by decide +kernel) (by decide +kernel) (by decide +kernel) (by decide +kernel) oiX0 (Or.inr ⟨"WellTurns", by decide +kernel⟩) (Nat.le_of_ble_eq_true rfl) (Nat.le_of_ble_eq_true rfl) hB hsz hSt hR hS (fun k hk => rfl) hl.1 (Nat.le_of_ble_eq_true rfl) dX5_init_71 dX5_init_74 dX5_init_75 (Nat.le_of_ble_eq_true rfl) (Nat.le_of_ble_eq_true rfl) (fun F2 h2 => bX0 (by unfold IsCamp; decide) h2) (fun F H locs hSt hR hS => ?_)
  have hSt : St G 5 E 0 112 [.ref (gN G 0 + (0 + 1 + 0)), .ref (gN G 0 + (0 + 1 + 6)), .ref (gN G 0 + (0 + 1 + 11)), .int 0, .ref (gN G 0 + (0 + 1 + 53)), .ref (gN G 0 + (0 + 1 + 59)), .ref (gN G 0 + (0 + 1 + 64)), .null, .null, .null, .null, .null, .null, .null] nop F := hSt
  have hR : BRep G (0 + 1 + 112) F H := hR
  refine s_putF tyX5 (ty := .object "WellTurns$Camp") fwX5 tyX5_ok nmX5 (j := 7) (by decide) rfl hin rfl (by decide +kernel) (by decide +kernel) hB hSt hR hS rfl rfl (Nat.le_of_ble_eq_true rfl) dX5_init_78 (fun F H locs hSt hR hS => ?_)
  have hSt : St G 5 E 0 112 [.ref (gN G 0 + (0 + 1 + 0)), .ref (gN G 0 + (0 + 1 + 6)), .ref (gN G 0 + (0 + 1 + 11)), .int 0, .ref (gN G 0 + (0 + 1 + 53)), .ref (gN G 0 + (0 + 1 + 59)), .ref (gN G 0 + (0 + 1 + 64)), .ref (gN G 0 + (0 + 1 + 106)), .null, .null, .null, .null, .null, .null] nop F := hSt
  have hR : BRep G (0 + 1 + 112) F H := hR
  refine lv_aload_n hx hb dX5_init_81 rfl (lv_at hl 0 rfl) ?_
  refine s_sub (z := 4) (ms := 28) (N := mX1_init) (d2 := [.int 0, .int 0, .int 0, .int 0, .int 0, .int 0, .null, .null, .null, .null]) tyX1 fwX1 tyX1_ok (by decide +kernel) (by decide +kernel) (by decide +kernel) (by decide +kernel) oiX1 (Or.inr ⟨"WellTurns", by decide +kernel⟩) (Nat.le_of_ble_eq_true rfl) (Nat.le_of_ble_eq_true rfl) hB hsz hSt hR hS (fun k hk => rfl) hl.1 (Nat.le_of_ble_eq_true rfl) dX5_init_82 dX5_init_85 dX5_init_86 (Nat.le_of_ble_eq_true rfl) (Nat.le_of_ble_eq_true rfl) (fun F2 h2 => bX1 (by unfold IsMom; decide) h2) (fun F H locs hSt hR hS => ?_)
  have hSt : St G 5 E 0 117 [.ref (gN G 0 + (0 + 1 + 0)), .ref (gN G 0 + (0 + 1 + 6)), .ref (gN G 0 + (0 + 1 + 11)), .int 0, .ref (gN G 0 + (0 + 1 + 53)), .ref (gN G 0 + (0 + 1 + 59)), .ref (gN G 0 + (0 + 1 + 64)), .ref (gN G 0 + (0 + 1 + 106)), .null, .null, .null, .null, .null, .null] nop F := hSt
  have hR : BRep G (0 + 1 + 117) F H := hR
  refine s_putF tyX5 (ty := .object "WellTurns$Moment") fwX5 tyX5_ok nmX5 (j := 8) (by decide) rfl hin rfl (by decide +kernel) (by decide +kernel) hB hSt hR hS rfl rfl (Nat.le_of_ble_eq_true rfl) dX5_init_89 (fun F H locs hSt hR hS => ?_)
  have hSt : St G 5 E 0 117 [.ref (gN G 0 + (0 + 1 + 0)), .ref (gN G 0 + (0 + 1 + 6)), .ref (gN G 0 + (0 + 1 + 11)), .int 0, .ref (gN G 0 + (0 + 1 + 53)), .ref (gN G 0 + (0 + 1 + 59)), .ref (gN G 0 + (0 + 1 + 64)), .ref (gN G 0 + (0 + 1 + 106)), .ref (gN G 0 + (0 + 1 + 112)), .null, .null, .null, .null, .null] nop F := hSt
  have hR : BRep G (0 + 1 + 117) F H := hR
  refine lv_aload_n hx hb dX5_init_92 rfl (lv_at hl 0 rfl) ?_
  refine lv_bipush (v := 7) hx hb dX5_init_93 (by decide) ?_
  refine s_newi hB hsz hSt hR hS (v := 7) 7 rfl (by decide +kernel) (by decide) (by decide) (by decide) (Nat.le_of_ble_eq_true rfl) (Nat.le_of_ble_eq_true rfl) dX5_init_95 (fun F H hSt hR hS => ?_)
  have hSt : St G 5 E 0 118 [.ref (gN G 0 + (0 + 1 + 0)), .ref (gN G 0 + (0 + 1 + 6)), .ref (gN G 0 + (0 + 1 + 11)), .int 0, .ref (gN G 0 + (0 + 1 + 53)), .ref (gN G 0 + (0 + 1 + 59)), .ref (gN G 0 + (0 + 1 + 64)), .ref (gN G 0 + (0 + 1 + 106)), .ref (gN G 0 + (0 + 1 + 112)), .null, .null, .null, .null, .null] nop F := hSt
  have hR : BRep G (0 + 1 + 118) F H := hR
  refine s_putF tyX5 (ty := .array .int) fwX5 tyX5_ok nmX5 (j := 9) (by decide) rfl hin rfl (by decide +kernel) (by decide +kernel) hB hSt hR hS rfl rfl (Nat.le_of_ble_eq_true rfl) dX5_init_97 (fun F H locs hSt hR hS => ?_)
  have hSt : St G 5 E 0 118 [.ref (gN G 0 + (0 + 1 + 0)), .ref (gN G 0 + (0 + 1 + 6)), .ref (gN G 0 + (0 + 1 + 11)), .int 0, .ref (gN G 0 + (0 + 1 + 53)), .ref (gN G 0 + (0 + 1 + 59)), .ref (gN G 0 + (0 + 1 + 64)), .ref (gN G 0 + (0 + 1 + 106)), .ref (gN G 0 + (0 + 1 + 112)), .ref (gN G 0 + (0 + 1 + 117)), .null, .null, .null, .null] nop F := hSt
  have hR : BRep G (0 + 1 + 118) F H := hR
  refine lv_aload_n hx hb dX5_init_100 rfl (lv_at hl 0 rfl) ?_
  refine lv_bipush (v := 8) hx hb dX5_init_101 (by decide) ?_
  refine s_newi hB hsz hSt hR hS (v := 8) 8 rfl (by decide +kernel) (by decide) (by decide) (by decide) (Nat.le_of_ble_eq_true rfl) (Nat.le_of_ble_eq_true rfl) dX5_init_103 (fun F H hSt hR hS => ?_)
  have hSt : St G 5 E 0 119 [.ref (gN G 0 + (0 + 1 + 0)), .ref (gN G 0 + (0 + 1 + 6)), .ref (gN G 0 + (0 + 1 + 11)), .int 0, .ref (gN G 0 + (0 + 1 + 53)), .ref (gN G 0 + (0 + 1 + 59)), .ref (gN G 0 + (0 + 1 + 64)), .ref (gN G 0 + (0 + 1 + 106)), .ref (gN G 0 + (0 + 1 + 112)), .ref (gN G 0 + (0 + 1 + 117)), .null, .null, .null, .null] nop F := hSt
  have hR : BRep G (0 + 1 + 119) F H := hR
  refine s_putF tyX5 (ty := .array .int) fwX5 tyX5_ok nmX5 (j := 10) (by decide) rfl hin rfl (by decide +kernel) (by decide +kernel) hB hSt hR hS rfl rfl (Nat.le_of_ble_eq_true rfl) dX5_init_105 (fun F H locs hSt hR hS => ?_)
  have hSt : St G 5 E 0 119 [.ref (gN G 0 + (0 + 1 + 0)), .ref (gN G 0 + (0 + 1 + 6)), .ref (gN G 0 + (0 + 1 + 11)), .int 0, .ref (gN G 0 + (0 + 1 + 53)), .ref (gN G 0 + (0 + 1 + 59)), .ref (gN G 0 + (0 + 1 + 64)), .ref (gN G 0 + (0 + 1 + 106)), .ref (gN G 0 + (0 + 1 + 112)), .ref (gN G 0 + (0 + 1 + 117)), .ref (gN G 0 + (0 + 1 + 118)), .null, .null, .null] nop F := hSt
  have hR : BRep G (0 + 1 + 119) F H := hR
  refine lv_aload_n hx hb dX5_init_108 rfl (lv_at hl 0 rfl) ?_
  refine lv_bipush (v := 8) hx hb dX5_init_109 (by decide) ?_
  refine s_newi hB hsz hSt hR hS (v := 8) 8 rfl (by decide +kernel) (by decide) (by decide) (by decide) (Nat.le_of_ble_eq_true rfl) (Nat.le_of_ble_eq_true rfl) dX5_init_111 (fun F H hSt hR hS => ?_)
  have hSt : St G 5 E 0 120 [.ref (gN G 0 + (0 + 1 + 0)), .ref (gN G 0 + (0 + 1 + 6)), .ref (gN G 0 + (0 + 1 + 11)), .int 0, .ref (gN G 0 + (0 + 1 + 53)), .ref (gN G 0 + (0 + 1 + 59)), .ref (gN G 0 + (0 + 1 + 64)), .ref (gN G 0 + (0 + 1 + 106)), .ref (gN G 0 + (0 + 1 + 112)), .ref (gN G 0 + (0 + 1 + 117)), .ref (gN G 0 + (0 + 1 + 118)), .null, .null, .null] nop F := hSt
  have hR : BRep G (0 + 1 + 120) F H := hR
  refine s_putF tyX5 (ty := .array .int) fwX5 tyX5_ok nmX5 (j := 11) (by decide) rfl hin rfl (by decide +kernel) (by decide +kernel) hB hSt hR hS rfl rfl (Nat.le_of_ble_eq_true rfl) dX5_init_113 (fun F H locs hSt hR hS => ?_)
  have hSt : St G 5 E 0 120 [.ref (gN G 0 + (0 + 1 + 0)), .ref (gN G 0 + (0 + 1 + 6)), .ref (gN G 0 + (0 + 1 + 11)), .int 0, .ref (gN G 0 + (0 + 1 + 53)), .ref (gN G 0 + (0 + 1 + 59)), .ref (gN G 0 + (0 + 1 + 64)), .ref (gN G 0 + (0 + 1 + 106)), .ref (gN G 0 + (0 + 1 + 112)), .ref (gN G 0 + (0 + 1 + 117)), .ref (gN G 0 + (0 + 1 + 118)), .ref (gN G 0 + (0 + 1 + 119)), .null, .null] nop F := hSt
  have hR : BRep G (0 + 1 + 120) F H := hR
  refine lv_aload_n hx hb dX5_init_116 rfl (lv_at hl 0 rfl) ?_
  refine s_sub (z := 1) (ms := 60) (N := mX4_init) (d2 := [.null, .int 0, .int 0, .int 0]) tyX4 fwX4 tyX4_ok (by decide +kernel) (by decide +kernel) (by decide +kernel) (by decide +kernel) oiX4 (Or.inr ⟨"WellTurns", by decide +kernel⟩) (Nat.le_of_ble_eq_true rfl) (Nat.le_of_ble_eq_true rfl) hB hsz hSt hR hS (fun k hk => rfl) hl.1 (Nat.le_of_ble_eq_true rfl) dX5_init_117 dX5_init_120 dX5_init_121 (Nat.le_of_ble_eq_true rfl) (Nat.le_of_ble_eq_true rfl) (fun F2 h2 => bX4 (by unfold IsTp; decide) h2) (fun F H locs hSt hR hS => ?_)
  have hSt : St G 5 E 0 122 [.ref (gN G 0 + (0 + 1 + 0)), .ref (gN G 0 + (0 + 1 + 6)), .ref (gN G 0 + (0 + 1 + 11)), .int 0, .ref (gN G 0 + (0 + 1 + 53)), .ref (gN G 0 + (0 + 1 + 59)), .ref (gN G 0 + (0 + 1 + 64)), .ref (gN G 0 + (0 + 1 + 106)), .ref (gN G 0 + (0 + 1 + 112)), .ref (gN G 0 + (0 + 1 + 117)), .ref (gN G 0 + (0 + 1 + 118)), .ref (gN G 0 + (0 + 1 + 119)), .null, .null] nop F := hSt
  have hR : BRep G (0 + 1 + 122) F H := hR
  refine s_putF tyX5 (ty := .object "WellTurns$Tape") fwX5 tyX5_ok nmX5 (j := 12) (by decide) rfl hin rfl (by decide +kernel) (by decide +kernel) hB hSt hR hS rfl rfl (Nat.le_of_ble_eq_true rfl) dX5_init_124 (fun F H locs hSt hR hS => ?_)
  have hSt : St G 5 E 0 122 [.ref (gN G 0 + (0 + 1 + 0)), .ref (gN G 0 + (0 + 1 + 6)), .ref (gN G 0 + (0 + 1 + 11)), .int 0, .ref (gN G 0 + (0 + 1 + 53)), .ref (gN G 0 + (0 + 1 + 59)), .ref (gN G 0 + (0 + 1 + 64)), .ref (gN G 0 + (0 + 1 + 106)), .ref (gN G 0 + (0 + 1 + 112)), .ref (gN G 0 + (0 + 1 + 117)), .ref (gN G 0 + (0 + 1 + 118)), .ref (gN G 0 + (0 + 1 + 119)), .ref (gN G 0 + (0 + 1 + 120)), .null] nop F := hSt
  have hR : BRep G (0 + 1 + 122) F H := hR
  refine lv_aload_n hx hb dX5_init_127 rfl (lv_at hl 0 rfl) ?_
  refine lv_iconst (v := 4) hx hb dX5_init_128 (by decide) ?_
  refine s_newr (C := "WellTurns$Sheet") 3 rfl (by decide +kernel) (fun U h => h.1.2) hB hsz hSt hR hS (v := 4) 4 (by decide) (by decide) (by decide) (Nat.le_of_ble_eq_true rfl) (Nat.le_of_ble_eq_true rfl) dX5_init_129 (fun F H hSt hR hS => ?_)
  have hSt : St G 5 E 0 123 [.ref (gN G 0 + (0 + 1 + 0)), .ref (gN G 0 + (0 + 1 + 6)), .ref (gN G 0 + (0 + 1 + 11)), .int 0, .ref (gN G 0 + (0 + 1 + 53)), .ref (gN G 0 + (0 + 1 + 59)), .ref (gN G 0 + (0 + 1 + 64)), .ref (gN G 0 + (0 + 1 + 106)), .ref (gN G 0 + (0 + 1 + 112)), .ref (gN G 0 + (0 + 1 + 117)), .ref (gN G 0 + (0 + 1 + 118)), .ref (gN G 0 + (0 + 1 + 119)), .ref (gN G 0 + (0 + 1 + 120)), .null] (opn nop (0 + 1 + 122) (.inl (gT G 3, 4, .inr (.inr (.inr (.inr (fun _ => none))))))) F := hSt
  have hR : BRep G (0 + 1 + 123) F H := hR
  refine s_putF tyX5 (ty := .array (.object "WellTurns$Sheet")) fwX5 tyX5_ok nmX5 (j := 13) (by decide) rfl hin rfl (by decide +kernel) (by decide +kernel) hB hSt hR hS rfl rfl (Nat.le_of_ble_eq_true rfl) dX5_init_132 (fun F H locs hSt hR hS => ?_)
  have hSt : St G 5 E 0 123 [.ref (gN G 0 + (0 + 1 + 0)), .ref (gN G 0 + (0 + 1 + 6)), .ref (gN G 0 + (0 + 1 + 11)), .int 0, .ref (gN G 0 + (0 + 1 + 53)), .ref (gN G 0 + (0 + 1 + 59)), .ref (gN G 0 + (0 + 1 + 64)), .ref (gN G 0 + (0 + 1 + 106)), .ref (gN G 0 + (0 + 1 + 112)), .ref (gN G 0 + (0 + 1 + 117)), .ref (gN G 0 + (0 + 1 + 118)), .ref (gN G 0 + (0 + 1 + 119)), .ref (gN G 0 + (0 + 1 + 120)), .ref (gN G 0 + (0 + 1 + 122))] (opn nop (0 + 1 + 122) (.inl (gT G 3, 4, .inr (.inr (.inr (.inr (fun _ => none))))))) F := hSt
  have hR : BRep G (0 + 1 + 123) F H := hR
  have hSt : St G 5 E 0 (123 + 2 * 0) [.ref (gN G 0 + (0 + 1 + 0)), .ref (gN G 0 + (0 + 1 + 6)), .ref (gN G 0 + (0 + 1 + 11)), .int 0, .ref (gN G 0 + (0 + 1 + 53)), .ref (gN G 0 + (0 + 1 + 59)), .ref (gN G 0 + (0 + 1 + 64)), .ref (gN G 0 + (0 + 1 + 106)), .ref (gN G 0 + (0 + 1 + 112)), .ref (gN G 0 + (0 + 1 + 117)), .ref (gN G 0 + (0 + 1 + 118)), .ref (gN G 0 + (0 + 1 + 119)), .ref (gN G 0 + (0 + 1 + 120)), .ref (gN G 0 + (0 + 1 + 122))] (opn nop 123 (.inl (gT G 3, 4, .inr (.inr (.inr (.inr (shF G 0))))))) F := by rw [← shF_0]; exact hSt
  have hR : BRep G (0 + 1 + (123 + 2 * 0)) F H := hR
  refine lv_iconst (v := nI 0) hx hb dX5_init_135 (by decide) ?_
  refine lv_istore_n (lv' := [(1, .int (nI 0)), (0, .ref (gN G 0 + 0))]) hx hb dX5_init_136 rfl hl (by decide) rfl (fun ls hl => ?_)
  have lp : ∀ (d i : Nat) (F : BE) (H : Heap) (locs : List Loc) (ls : Array Slot), i + d = 4 → St G 5 E 0 (123 + 2 * i) [.ref (gN G 0 + (0 + 1 + 0)), .ref (gN G 0 + (0 + 1 + 6)), .ref (gN G 0 + (0 + 1 + 11)), .int 0, .ref (gN G 0 + (0 + 1 + 53)), .ref (gN G 0 + (0 + 1 + 59)), .ref (gN G 0 + (0 + 1 + 64)), .ref (gN G 0 + (0 + 1 + 106)), .ref (gN G 0 + (0 + 1 + 112)), .ref (gN G 0 + (0 + 1 + 117)), .ref (gN G 0 + (0 + 1 + 118)), .ref (gN G 0 + (0 + 1 + 119)), .ref (gN G 0 + (0 + 1 + 120)), .ref (gN G 0 + (0 + 1 + 122))] (opn nop 123 (.inl (gT G 3, 4, .inr (.inr (.inr (.inr (shF G i))))))) F → BRep G (0 + 1 + (123 + 2 * i)) F H → va_S (AA G) s.heap H locs → lv_has ls 2 [(1, .int (nI i)), (0, .ref (gN G 0 + 0))] →
      W p (gL G) e { frames := mX5_init.2.2.2.2, cells := 131, slots := 1090, locals := 40 * mX5_init.2.2.2.2 } s m #[.ref (gN G 0 + 0)] below meth c H locs (123 + 2 * i) (982 + 27 * i) (MQ below (va_Qv (Pst G E 0 132) (fun E2 t => BRep G 132 E2 t.heap) (AA G)) #[.ref (gN G 0 + 0)] s 131 1090 (AA G)) (F0 m 137 ls []) := by
    intro d
    induction d with
    | zero =>
      intro i F H locs ls hi hSt hR hS hl
      have ei : i = 4 := by omega
      subst ei
      refine lv_iload_n hx hb dX5_init_137 rfl (lv_at hl 0 rfl) ?_
      refine lv_iconst (v := nI 4) hx hb dX5_init_138 (by decide) ?_
      refine lv_icmp_ge (tgt := 161) hx hb dX5_init_139 (by decide) (fun _ => ?_) (fun q => absurd (by decide) q)
      have hF := hSt.at (r := 123) (by omega) (by omega)
      have hR2 := hR.refs (g := fun j => some (gN G 0 + rf 123 j)) (by omega) hF (fun j hj => by unfold shF; rw [if_pos hj, sh_rf j hj])
      have hSt2 := (hSt.wr (r := 123) (w := .inl (gT G 3, 4, .inr (.inr (.inr (.inr (fun j => some (gN G 0 + rf 123 j))))))) (by omega)).close rfl (by omega) (by omega) (by rw [ent_10 sh_k.1, sh_k.2])
      exact W.vret hx hb hr (fun t ht hW => ⟨⟨_, rfl, hSt2.done ent_x.symm, by show BRep G _ _ t.heap; rw [ht]; exact hR2⟩, hS.F ht⟩) hS.2.2 dX5_init_161
    | succ d ih =>
      intro i F H locs ls hi hSt hR hS hl
      refine lv_iload_n hx hb dX5_init_137 rfl (lv_at hl 0 rfl) ?_
      refine lv_iconst (v := nI 4) hx hb dX5_init_138 (by decide) ?_
      refine lv_icmp_ge (tgt := 161) hx hb dX5_init_139 (by decide) (fun q => absurd ((nI_leI (by omega) (by omega)).mp q) (by omega)) (fun _ => ?_)
      refine lv_aload_n hx hb dX5_init_142 rfl (lv_at hl 1 rfl) ?_
      refine b_get (M := mX5_init) (a := 0) fwX5 (j := 13) (by decide) flkX5 hB hR (by omega) hSt.1 rfl dX5_init_143 ?_
      refine lv_iload_n hx hb dX5_init_146 rfl (lv_at hl 0 rfl) ?_
      have hm : IsSheet (0 + 1 + (123 + 2 * i)) := by rw [show 0 + 1 + (123 + 2 * i) = 124 + 2 * i by omega]; exact isS (by omega)
      refine s_sub (z := 1) (ms := 24) (N := mX3_init) (d2 := [.int 0, .int 0, .null]) tyX3 fwX3 tyX3_ok (by decide +kernel) (by decide +kernel) (by decide +kernel) (by decide +kernel) oiX3 (Or.inr ⟨"WellTurns", by decide +kernel⟩) (Nat.le_of_ble_eq_true rfl) (Nat.le_of_ble_eq_true rfl) hB hsz hSt hR hS (fun k hk => by unfold opn; rw [if_neg (by omega)]; rfl) hl.1 (Nat.le_of_ble_eq_true rfl) dX5_init_147 dX5_init_150 dX5_init_151 (by show 123 + 2 * i + (1 + 1) ≤ 131; omega) (by show 982 + 27 * i + 3 + 24 ≤ 1090; omega) (fun F2 h2 => bX3 hm h2) (fun F H locs hSt hR hS => ?_)
      have en : 123 + 2 * i + (1 + 1) = 123 + 2 * (i + 1) := by omega
      rw [en] at hSt hR
      rw [en, show 982 + 27 * i + 3 + 24 = 982 + 27 * (i + 1) by omega]
      refine b_ast (M := mX5_init) (a := 123) (b := 0 + 1 + (123 + 2 * i)) (t0 := 3) (ci := 3) (n := 4) (r := (RX3, TX3, 3)) rfl rfl hB hR hS (by omega) (hSt.at (by omega) (by omega)) (by omega) (by rw [hSt.2.2.1 (0 + 1 + (123 + 2 * i)) (by omega) (by omega) (by unfold opn; rw [if_neg (by omega)]; rfl)]; exact ent_sheet hm) (i := i) (by omega) (by decide) dX5_init_154 (fun H locs hR hS => ?_)
      rw [shF_s] at hR
      have hSt := hSt.wr (w := .inl (gT G 3, 4, .inr (.inr (.inr (.inr (shF G (i + 1))))))) (by omega)
      refine lv_iinc (v := nI (i + 1)) (lv' := [(1, .int (nI (i + 1))), (0, .ref (gN G 0 + 0))]) hx hb dX5_init_155 hl (k := 0) rfl (nI_1 i) (by decide) rfl (fun ls hl => ?_)
      refine lv_goto (tgt := 137) hx hb dX5_init_158 (by decide) ?_
      exact ih (i + 1) _ H locs ls (by omega) hSt hR hS hl
  exact lp 4 0 F H locs ls (by omega) hSt hR hS hl
