/-! Past(): a ring of eight moments -/
theorem BRep.refs {G : GG} {K r n : Nat} {cA : ClassId} {F : BE} {f g : Nat → Option Nat} {H : Heap} (h : BRep G K F H) (hr : r < K) (he : F r = .inl (cA, n, .inr (.inr (.inr (.inr f))))) (hfg : ∀ j, j < n → f j = g j) : BRep G K (upE F r (.inl (cA, n, .inr (.inr (.inr (.inr g)))))) H := by
  have ec : vp_cell cA (n, .inr (.inr (.inr (.inr f)))) = vp_cell cA (n, .inr (.inr (.inr (.inr g)))) := by
    rw [vp_cell_q, vp_cell_q]
    unfold arrV
    have : (fun j : Fin n => va_rf (f j.val)) = fun j : Fin n => va_rf (g j.val) := funext fun j => by rw [hfg j.val j.isLt]
    rw [this]
  intro k q hq
  rcases Nat.lt_or_ge k K with z | z
  · rw [bcl_at z] at hq
    cases hq
    have hk := h k _ (bcl_at z)
    by_cases e : k = r
    · subst e
      rw [upE_s]
      rw [he] at hk
      show H[_]? = some (vp_cell _ _)
      rw [← ec]
      exact hk
    · rw [upE_n e]; exact hk
  · rw [bcl_no z] at hq; cases hq
def rgF (G : GG) (a i : Nat) : Nat → Option Nat := fun j => if j < i then some (gN G 0 + (a + 2 + 5 * j)) else none
theorem rgF_0 {G : GG} {a : Nat} : (fun _ => none) = rgF G a 0 := by funext j; unfold rgF; rw [if_neg (by omega)]
theorem rgF_s {G : GG} {a i : Nat} : va_up (rgF G a i) i (some (gN G 0 + (a + 1 + (1 + 5 * i)))) = rgF G a (i + 1) := by
  funext j
  unfold va_up rgF
  by_cases e : j = i
  · rw [if_pos e, if_pos (by omega), e, show a + 1 + (1 + 5 * i) = a + 2 + 5 * i by omega]
  · rw [if_neg e]
    by_cases f : j < i
    · rw [if_pos f, if_pos (by omega)]
    · rw [if_neg f, if_neg (by omega)]
theorem past_k {a : Nat} (h : IsPast a) : ky (a + 1) = 9 ∧ ln (a + 1) = 8 := (by decide +kernel : ∀ a ∈ ([12, 65] : List Nat), ky (a + 1) = 9 ∧ ln (a + 1) = 8) a h
theorem flkX2 : Cond.fieldLink mX2_init.1.cls 11 (TX2 0).1 (TX2 0).2.1 (TX2 0).2.2.1 ∈ lw_tbl := by decide +kernel
set_option maxHeartbeats 4000000 in
set_option maxRecDepth 100000 in
theorem bX2 {G : GG} {a : Nat} (ha : IsPast a) {E : BE} (hE : E a = .inr (2, [.null, .int 0, .int 0])) : BX G mX2_init a (a + 1) (a + 42) 41 312 E (Pst G E a (a + 42)) := by
  refine Met.ofW (cc := cX2_init) (maxL := 2) (ret := none) (by decide) rfl ?_
  intro p e s m args below meth c s₁ B hml hv
  obtain ⟨rfl, hsz, hR, hC, hAO⟩ := hv
  have hB : BC G mX2_init p s m c := ⟨B.exec, B.bytes, hml, findClass_of_methodNamed B.named, hC, by omega, hAO⟩
  have hin : meth.name = "<init>" := (name_of_methodNamed B.named B.method).1
  have hlocks := B.notSynchronized
  have hS : va_S (AA G) s.heap s.heap [] := va_S.rf
  have hl := lv_entry ([.ref (gN G 0 + a)]) (n := 2) (Nat.le_of_ble_eq_true rfl)
  rw [lg_entry_eq]
  generalize (lg_sl ([.ref (gN G 0 + a)]) ++ List.replicate (2 - (lg_sl ([.ref (gN G 0 + a)])).length) Slot.unset).toArray = ls at hl ⊢
  have hl : lv_has ls 2 [(0, .ref (gN G 0 + a))] := hl
  have hx := B.exec
  have hb := B.bytes
  have hr := B.returns
  have hSt : St G 2 E a 0 [.null, .int 0, .int 0] nop E := ⟨hE, fun _ _ => rfl, fun k h1 h2 => absurd h2 (by omega), fun k v h1 h2 => absurd h2 (by omega)⟩
  refine lv_aload_n hx hb dX2_init_0 rfl (lv_at hl 0 rfl) ?_
  refine b_obj (M := mX2_init) (by decide +kernel) hB hl.1 (Nat.le_of_ble_eq_true rfl) (Nat.le_of_ble_eq_true rfl) dX2_init_1 ?_
  refine lv_aload_n hx hb dX2_init_4 rfl (lv_at hl 0 rfl) ?_
  refine lv_bipush (v := 8) hx hb dX2_init_5 (by decide) ?_
  refine s_newr (C := "WellTurns$Moment") 2 rfl (by decide +kernel) (fun U h => h.1.1) hB hsz hSt hR hS (v := 8) 8 (by decide) (by decide) (by decide) (Nat.le_of_ble_eq_true rfl) (Nat.le_of_ble_eq_true rfl) dX2_init_7 (fun F H hSt hR hS => ?_)
  refine s_putF tyX2 (ty := .array (.object "WellTurns$Moment")) fwX2 tyX2_ok nmX2 (j := 0) (by decide) rfl hin rfl (by decide +kernel) flkX2 hB hSt hR hS rfl rfl (Nat.le_of_ble_eq_true rfl) dX2_init_10 (fun F H locs hSt hR hS => ?_)
  have hSt : St G 2 E a (1 + 5 * 0) [.ref (gN G 0 + (a + 1)), .int 0, .int 0] (opn nop (a + 1) (.inl (gT G 2, 8, .inr (.inr (.inr (.inr (rgF G a 0))))))) F := by rw [← rgF_0]; exact hSt
  have hR : BRep G (a + 1 + (1 + 5 * 0)) F H := hR
  refine lv_iconst (v := nI 0) hx hb dX2_init_13 (by decide) ?_
  refine lv_istore_n (lv' := [(1, .int (nI 0)), (0, .ref (gN G 0 + a))]) hx hb dX2_init_14 rfl hl (by decide) rfl (fun ls hl => ?_)
  have lp : ∀ (d i : Nat) (F : BE) (H : Heap) (locs : List Loc) (ls : Array Slot), i + d = 8 → St G 2 E a (1 + 5 * i) [.ref (gN G 0 + (a + 1)), .int 0, .int 0] (opn nop (a + 1) (.inl (gT G 2, 8, .inr (.inr (.inr (.inr (rgF G a i))))))) F → BRep G (a + 1 + (1 + 5 * i)) F H → va_S (AA G) s.heap H locs → lv_has ls 2 [(1, .int (nI i)), (0, .ref (gN G 0 + a))] →
      W p (gL G) e { frames := mX2_init.2.2.2.2, cells := 41, slots := 312, locals := 40 * mX2_init.2.2.2.2 } s m #[.ref (gN G 0 + a)] below meth c H locs (1 + 5 * i) (8 + 38 * i) (MQ below (va_Qv (Pst G E a (a + 42)) (fun E2 t => BRep G (a + 42) E2 t.heap) (AA G)) #[.ref (gN G 0 + a)] s 41 312 (AA G)) (F0 m 15 ls []) := by
    intro d
    induction d with
    | zero =>
      intro i F H locs ls hi hSt hR hS hl
      have ei : i = 8 := by omega
      subst ei
      refine lv_iload_n hx hb dX2_init_15 rfl (lv_at hl 0 rfl) ?_
      refine lv_bipush (v := nI 8) hx hb dX2_init_16 (by decide) ?_
      refine lv_icmp_ge (tgt := 40) hx hb dX2_init_18 (by decide) (fun _ => ?_) (fun q => absurd (by decide) q)
      have hF := hSt.at (r := a + 1) (by omega) (by omega)
      have hR2 := hR.refs (g := fun j => some (gN G 0 + rf (a + 1) j)) (by omega) hF (fun j hj => by unfold rgF; rw [if_pos hj, (ha.ring hj).1])
      have hSt2 := (hSt.wr (r := a + 1) (w := .inl (gT G 2, 8, .inr (.inr (.inr (.inr (fun j => some (gN G 0 + rf (a + 1) j))))))) (by omega)).close rfl (by omega) (by omega) (by rw [ent_9 (past_k ha).1, (past_k ha).2])
      exact W.vret hx hb hr (fun t ht hW => ⟨⟨_, rfl, hSt2.done (ent_past ha).symm, by show BRep G _ _ t.heap; rw [ht]; exact hR2⟩, hS.F ht⟩) hS.2.2 dX2_init_40
    | succ d ih =>
      intro i F H locs ls hi hSt hR hS hl
      refine lv_iload_n hx hb dX2_init_15 rfl (lv_at hl 0 rfl) ?_
      refine lv_bipush (v := nI 8) hx hb dX2_init_16 (by decide) ?_
      refine lv_icmp_ge (tgt := 40) hx hb dX2_init_18 (by decide) (fun q => absurd ((nI_leI (by omega) (by omega)).mp q) (by omega)) (fun _ => ?_)
      refine lv_aload_n hx hb dX2_init_21 rfl (lv_at hl 1 rfl) ?_
      refine b_get (M := mX2_init) (a := a) fwX2 (j := 0) (by decide) flkX2 hB hR (by omega) hSt.1 rfl dX2_init_22 ?_
      refine lv_iload_n hx hb dX2_init_25 rfl (lv_at hl 0 rfl) ?_
      have hm : IsMom (a + 1 + (1 + 5 * i)) := by rw [show a + 1 + (1 + 5 * i) = a + 2 + 5 * i by omega]; exact (ha.ring (j := i) (by omega)).2
      refine s_sub (z := 4) (ms := 28) (N := mX1_init) (d2 := [.int 0, .int 0, .int 0, .int 0, .int 0, .int 0, .null, .null, .null, .null]) tyX1 fwX1 tyX1_ok (by decide +kernel) (by decide +kernel) (by decide +kernel) (by decide +kernel) oiX1 (Or.inr ⟨"WellTurns", by decide +kernel⟩) (Nat.le_of_ble_eq_true rfl) (Nat.le_of_ble_eq_true rfl) hB hsz hSt hR hS (fun k hk => by unfold opn; rw [if_neg (by omega)]; rfl) hl.1 (Nat.le_of_ble_eq_true rfl) dX2_init_26 dX2_init_29 dX2_init_30 (by show 1 + 5 * i + (4 + 1) ≤ 41; omega) (by show 8 + 38 * i + 10 + 28 ≤ 312; omega) (fun F2 h2 => bX1 hm h2) (fun F H locs hSt hR hS => ?_)
      have en : 1 + 5 * i + (4 + 1) = 1 + 5 * (i + 1) := by omega
      rw [en] at hSt hR
      rw [en, show 8 + 38 * i + 10 + 28 = 8 + 38 * (i + 1) by omega]
      refine b_ast (M := mX2_init) (a := a + 1) (b := a + 1 + (1 + 5 * i)) (t0 := 2) (ci := 1) (n := 8) (r := (RX1, TX1, 10)) rfl rfl hB hR hS (by omega) (hSt.at (by omega) (by omega)) (by omega) (by rw [hSt.2.2.1 (a + 1 + (1 + 5 * i)) (by omega) (by omega) (by unfold opn; rw [if_neg (by omega)]; rfl)]; exact ent_mom hm) (i := i) (by omega) (by decide) dX2_init_33 (fun H locs hR hS => ?_)
      rw [rgF_s] at hR
      have hSt := hSt.wr (w := .inl (gT G 2, 8, .inr (.inr (.inr (.inr (rgF G a (i + 1))))))) (by omega)
      refine lv_iinc (v := nI (i + 1)) (lv' := [(1, .int (nI (i + 1))), (0, .ref (gN G 0 + a))]) hx hb dX2_init_34 hl (k := 0) rfl (nI_1 i) (by decide) rfl (fun ls hl => ?_)
      refine lv_goto (tgt := 15) hx hb dX2_init_37 (by decide) ?_
      exact ih (i + 1) _ H locs ls (by omega) hSt hR hS hl
  exact lp 8 0 F H locs ls (by omega) hSt hR hS hl
