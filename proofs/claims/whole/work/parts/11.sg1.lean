theorem eX1_takeFrom {G : GG} {Q : Int → Mem → Prop} {t : Mem} {a0 a1 : Nat} (k : V G mX1_takeFrom 0 [(0, RR a0), (1, RR a1)] [] t Q) : Ex G mX1_takeFrom [RR a0, RR a1] t Q := Ex.of plX1 (Or.inl rfl) (Nat.le_of_ble_eq_true rfl) rfl k
set_option maxRecDepth 100000 in
theorem sgX1_takeFrom_0 {G : GG} {Q : Int → Mem → Prop} {t : Mem} {a0 a1 : Nat} (ha0 : IsMom a0) (ha1 : IsMom a1) (h : ∀ u1 : Mem, u1 = wr t a0 0 (t a1 0) → ∀ u3 : Mem, u3 = wr u1 a0 1 (u1 a1 1) → ∀ u5 : Mem, u5 = wr u3 a0 2 (u3 a1 2) → ∀ u7 : Mem, u7 = wr u5 a0 3 (u5 a1 3) → ∀ u9 : Mem, u9 = wr u7 a0 4 (u7 a1 4) → ∀ u11 : Mem, u11 = wr u9 a0 5 (u9 a1 5) → ∀ u13 : Mem, u13 = cpy u11 (a1 + 1) 0 (a0 + 1) 0 7 → ∀ u15 : Mem, u15 = cpy u13 (a1 + 2) 0 (a0 + 2) 0 7 → ∀ u17 : Mem, u17 = cpy u15 (a1 + 3) 0 (a0 + 3) 0 7 → ∀ u19 : Mem, u19 = cpy u17 (a1 + 4) 0 (a0 + 4) 0 7 → Q 0 u19) : V G mX1_takeFrom 0 [(0, RR a0), (1, RR a1)] [] t Q := by
  refine V_aload_n 0 rfl dX1_takeFrom_0 rfl ?_
  refine V_aload_n 1 rfl dX1_takeFrom_1 rfl ?_
  refine gX1_9 rfl ha1.k dX1_takeFrom_2 rfl ?_
  refine pX1_9 rfl ha0.k dX1_takeFrom_5 rfl (fun u1 e2 => ?_)
  have h := h u1 e2
  refine V_aload_n 0 rfl dX1_takeFrom_8 rfl ?_
  refine V_aload_n 1 rfl dX1_takeFrom_9 rfl ?_
  refine gX1_31 rfl ha1.k dX1_takeFrom_10 rfl ?_
  refine pX1_31 rfl ha0.k dX1_takeFrom_13 rfl (fun u3 e4 => ?_)
  have h := h u3 e4
  refine V_aload_n 0 rfl dX1_takeFrom_16 rfl ?_
  refine V_aload_n 1 rfl dX1_takeFrom_17 rfl ?_
  refine gX1_34 rfl ha1.k dX1_takeFrom_18 rfl ?_
  refine pX1_34 rfl ha0.k dX1_takeFrom_21 rfl (fun u5 e6 => ?_)
  have h := h u5 e6
  refine V_aload_n 0 rfl dX1_takeFrom_24 rfl ?_
  refine V_aload_n 1 rfl dX1_takeFrom_25 rfl ?_
  refine gX1_37 rfl ha1.k dX1_takeFrom_26 rfl ?_
  refine pX1_37 rfl ha0.k dX1_takeFrom_29 rfl (fun u7 e8 => ?_)
  have h := h u7 e8
  refine V_aload_n 0 rfl dX1_takeFrom_32 rfl ?_
  refine V_aload_n 1 rfl dX1_takeFrom_33 rfl ?_
  refine gX1_40 rfl ha1.k dX1_takeFrom_34 rfl ?_
  refine pX1_40 rfl ha0.k dX1_takeFrom_37 rfl (fun u9 e10 => ?_)
  have h := h u9 e10
  refine V_aload_n 0 rfl dX1_takeFrom_40 rfl ?_
  refine V_aload_n 1 rfl dX1_takeFrom_41 rfl ?_
  refine gX1_15 rfl ha1.k dX1_takeFrom_42 rfl ?_
  refine pX1_15 rfl ha0.k dX1_takeFrom_45 rfl (fun u11 e12 => ?_)
  have h := h u11 e12
  refine V_aload_n 1 rfl dX1_takeFrom_48 rfl ?_
  refine gX1_18 rfl ha1.k ha1.r6 dX1_takeFrom_49 rfl ?_
  refine V_iconst dX1_takeFrom_52 rfl ?_
  refine V_aload_n 0 rfl dX1_takeFrom_53 rfl ?_
  refine gX1_18 rfl ha0.k ha0.r6 dX1_takeFrom_54 rfl ?_
  refine V_iconst dX1_takeFrom_57 rfl ?_
  refine V_bipush (by decide) dX1_takeFrom_58 rfl ?_
  refine V_copyIn mlX1_43 (by decide) (Nat.le_of_ble_eq_true rfl) ha1.k1 ha0.k1 ha1.i1 ha0.i1 (by decide) dX1_takeFrom_60 rfl (fun u13 e14 => ?_)
  have h := h u13 e14
  refine V_aload_n 1 rfl dX1_takeFrom_63 rfl ?_
  refine gX1_22 rfl ha1.k ha1.r7 dX1_takeFrom_64 rfl ?_
  refine V_iconst dX1_takeFrom_67 rfl ?_
  refine V_aload_n 0 rfl dX1_takeFrom_68 rfl ?_
  refine gX1_22 rfl ha0.k ha0.r7 dX1_takeFrom_69 rfl ?_
  refine V_iconst dX1_takeFrom_72 rfl ?_
  refine V_bipush (by decide) dX1_takeFrom_73 rfl ?_
  refine V_copyIn mlX1_43 (by decide) (Nat.le_of_ble_eq_true rfl) ha1.k2 ha0.k2 ha1.i2 ha0.i2 (by decide) dX1_takeFrom_75 rfl (fun u15 e16 => ?_)
  have h := h u15 e16
  refine V_aload_n 1 rfl dX1_takeFrom_78 rfl ?_
  refine gX1_25 rfl ha1.k ha1.r8 dX1_takeFrom_79 rfl ?_
  refine V_iconst dX1_takeFrom_82 rfl ?_
  refine V_aload_n 0 rfl dX1_takeFrom_83 rfl ?_
  refine gX1_25 rfl ha0.k ha0.r8 dX1_takeFrom_84 rfl ?_
  refine V_iconst dX1_takeFrom_87 rfl ?_
  refine V_bipush (by decide) dX1_takeFrom_88 rfl ?_
  refine V_copyIn mlX1_43 (by decide) (Nat.le_of_ble_eq_true rfl) ha1.k3 ha0.k3 ha1.i3 ha0.i3 (by decide) dX1_takeFrom_90 rfl (fun u17 e18 => ?_)
  have h := h u17 e18
  refine V_aload_n 1 rfl dX1_takeFrom_93 rfl ?_
  refine gX1_28 rfl ha1.k ha1.r9 dX1_takeFrom_94 rfl ?_
  refine V_iconst dX1_takeFrom_97 rfl ?_
  refine V_aload_n 0 rfl dX1_takeFrom_98 rfl ?_
  refine gX1_28 rfl ha0.k ha0.r9 dX1_takeFrom_99 rfl ?_
  refine V_iconst dX1_takeFrom_102 rfl ?_
  refine V_bipush (by decide) dX1_takeFrom_103 rfl ?_
  refine V_copyIn mlX1_43 (by decide) (Nat.le_of_ble_eq_true rfl) ha1.k4 ha0.k4 ha1.i4 ha0.i4 (by decide) dX1_takeFrom_105 rfl (fun u19 e20 => ?_)
  have h := h u19 e20
  exact V_ret dX1_takeFrom_108 rfl h
theorem eX1_begin {G : GG} {Q : Int → Mem → Prop} {t : Mem} {a0 : Nat} {v1 : Int} (k : V G mX1_begin 0 [(0, RR a0), (1, II v1)] [] t Q) : Ex G mX1_begin [RR a0, II v1] t Q := Ex.of plX1 (Or.inl rfl) (Nat.le_of_ble_eq_true rfl) rfl k
set_option maxRecDepth 100000 in
theorem sgX1_begin_0 {G : GG} {Q : Int → Mem → Prop} {t : Mem} {a0 : Nat} {v1 : Int} (ha0 : IsMom a0) (h : ∀ u1 : Mem, u1 = wr t a0 0 v1 → ∀ u3 : Mem, u3 = wr u1 a0 1 0 → ∀ u5 : Mem, u5 = wr u3 a0 2 0 → ∀ u7 : Mem, u7 = wr u5 a0 3 0 → ∀ u9 : Mem, u9 = wr u7 a0 4 0 → V G mX1_begin 27 [(0, RR a0), (1, II v1), (2, II 0)] [] u9 Q) : V G mX1_begin 0 [(0, RR a0), (1, II v1)] [] t Q := by
  refine V_aload_n 0 rfl dX1_begin_0 rfl ?_
  refine V_iload_n 1 rfl dX1_begin_1 rfl ?_
  refine pX1_9 rfl ha0.k dX1_begin_2 rfl (fun u1 e2 => ?_)
  have h := h u1 e2
  refine V_aload_n 0 rfl dX1_begin_5 rfl ?_
  refine V_iconst dX1_begin_6 rfl ?_
  refine pX1_31 rfl ha0.k dX1_begin_7 rfl (fun u3 e4 => ?_)
  have h := h u3 e4
  refine V_aload_n 0 rfl dX1_begin_10 rfl ?_
  refine V_iconst dX1_begin_11 rfl ?_
  refine pX1_34 rfl ha0.k dX1_begin_12 rfl (fun u5 e6 => ?_)
  have h := h u5 e6
  refine V_aload_n 0 rfl dX1_begin_15 rfl ?_
  refine V_iconst dX1_begin_16 rfl ?_
  refine pX1_37 rfl ha0.k dX1_begin_17 rfl (fun u7 e8 => ?_)
  have h := h u7 e8
  refine V_aload_n 0 rfl dX1_begin_20 rfl ?_
  refine V_iconst dX1_begin_21 rfl ?_
  refine pX1_40 rfl ha0.k dX1_begin_22 rfl (fun u9 e10 => ?_)
  have h := h u9 e10
  refine V_iconst dX1_begin_25 rfl ?_
  refine V_istore_n (ls2 := [(0, RR a0), (1, II v1), (2, II 0)]) dX1_begin_26 rfl (by decide) rfl ?_
  exact h
set_option maxRecDepth 100000 in
theorem sgX1_begin_27 {G : GG} {Q : Int → Mem → Prop} {t : Mem} {a0 : Nat} {v1 v2 : Int} (ha0 : IsMom a0) (h : In32 v2 ∧ (7 ≤ v2 → Q 0 t) ∧ (¬ 7 ≤ v2 → (0 ≤ v2 ∧ v2 < 7) ∧ ∀ u2 : Mem, u2 = wr t (a0 + 1) v2.toNat 0 → ∀ u5 : Mem, u5 = wr u2 (a0 + 2) v2.toNat 0 → ∀ u7 : Mem, u7 = wr u5 (a0 + 3) v2.toNat 0 → ∀ u9 : Mem, u9 = wr u7 (a0 + 4) v2.toNat 0 → V G mX1_begin 27 [(0, RR a0), (1, II v1), (2, II (v2 + 1))] [] u9 Q)) : V G mX1_begin 27 [(0, RR a0), (1, II v1), (2, II v2)] [] t Q := by
  refine V_iload_n 2 rfl dX1_begin_27 rfl ?_
  refine V_bipush (by decide) dX1_begin_28 rfl ?_
  obtain ⟨q1, h⟩ := h
  refine V_icmp_ge q1 (iL rfl) dX1_begin_30 (g := 67) rfl rfl ⟨fun hc => ?_, fun hc => ?_⟩
  · have h := h.1 hc
    exact V_ret dX1_begin_67 rfl h
  · have h := h.2 hc
    refine V_aload_n 0 rfl dX1_begin_33 rfl ?_
    refine gX1_18 rfl ha0.k ha0.r6 dX1_begin_34 rfl ?_
    refine V_iload_n 2 rfl dX1_begin_37 rfl ?_
    refine V_iconst dX1_begin_38 rfl ?_
    obtain ⟨q4, h⟩ := h
    refine V_iastn ha0.k1 ha0.i1 q4 dX1_begin_39 rfl (fun u2 e3 => ?_)
    have h := h u2 e3
    refine V_aload_n 0 rfl dX1_begin_40 rfl ?_
    refine gX1_22 rfl ha0.k ha0.r7 dX1_begin_41 rfl ?_
    refine V_iload_n 2 rfl dX1_begin_44 rfl ?_
    refine V_iconst dX1_begin_45 rfl ?_
    refine V_iastn ha0.k2 ha0.i2 q4 dX1_begin_46 rfl (fun u5 e6 => ?_)
    have h := h u5 e6
    refine V_aload_n 0 rfl dX1_begin_47 rfl ?_
    refine gX1_25 rfl ha0.k ha0.r8 dX1_begin_48 rfl ?_
    refine V_iload_n 2 rfl dX1_begin_51 rfl ?_
    refine V_iconst dX1_begin_52 rfl ?_
    refine V_iastn ha0.k3 ha0.i3 q4 dX1_begin_53 rfl (fun u7 e8 => ?_)
    have h := h u7 e8
    refine V_aload_n 0 rfl dX1_begin_54 rfl ?_
    refine gX1_28 rfl ha0.k ha0.r9 dX1_begin_55 rfl ?_
    refine V_iload_n 2 rfl dX1_begin_58 rfl ?_
    refine V_iconst dX1_begin_59 rfl ?_
    refine V_iastn ha0.k4 ha0.i4 q4 dX1_begin_60 rfl (fun u9 e10 => ?_)
    have h := h u9 e10
    refine V_iinc 2 rfl (ls2 := [(0, RR a0), (1, II v1), (2, II (v2 + 1))]) dX1_begin_61 rfl (by decide) rfl ?_
    refine V_goto (g := 27) dX1_begin_64 rfl ?_
    exact h
theorem eX1_needs {G : GG} {Q : Int → Mem → Prop} {t : Mem} {a0 a1 : Nat} {v2 : Int} (k : V G mX1_needs 0 [(0, RR a0), (1, RR a1), (2, II v2)] [] t Q) : Ex G mX1_needs [RR a0, RR a1, II v2] t Q := Ex.of plX1 (Or.inr (Or.inl rfl)) (Nat.le_of_ble_eq_true rfl) rfl k
set_option maxRecDepth 100000 in
theorem sgX1_needs_0 {G : GG} {Q : Int → Mem → Prop} {t : Mem} {a0 a1 : Nat} {v2 : Int} (ha0 : IsMom a0) (ha1 : IsCamp a1) (h : (0 ≤ v2 ∧ v2 < 7) ∧ ((0 : Int) ≤ (t (a0 + 2) v2.toNat) ∧ In32 (t (a0 + 2) v2.toNat)) ∧ Q ((t (a1 + 4) v2.toNat) + ((t (a0 + 2) v2.toNat) / 3)) t) : V G mX1_needs 0 [(0, RR a0), (1, RR a1), (2, II v2)] [] t Q := by
  refine V_aload_n 1 rfl dX1_needs_0 rfl ?_
  refine gX1_49 rfl ha1.k ha1.r11 dX1_needs_1 rfl ?_
  refine V_iload_n 2 rfl dX1_needs_4 rfl ?_
  obtain ⟨q1, h⟩ := h
  refine V_ialdn ha1.k4 ha1.i4 q1 dX1_needs_5 rfl ?_
  refine V_aload_n 0 rfl dX1_needs_6 rfl ?_
  refine gX1_22 rfl ha0.k ha0.r7 dX1_needs_7 rfl ?_
  refine V_iload_n 2 rfl dX1_needs_10 rfl ?_
  refine V_ialdn ha0.k2 ha0.i2 q1 dX1_needs_11 rfl ?_
  refine V_iconst dX1_needs_12 rfl ?_
  obtain ⟨q2, h⟩ := h
  refine V_idiv q2 ⟨by decide, iL rfl⟩ dX1_needs_13 rfl ?_
  refine V_iadd dX1_needs_14 rfl ?_
  exact V_iret dX1_needs_15 (Or.inl rfl) h
theorem eX1_needsYet {G : GG} {Q : Int → Mem → Prop} {t : Mem} {a0 a1 : Nat} {v2 : Int} (k : V G mX1_needsYet 0 [(0, RR a0), (1, RR a1), (2, II v2)] [] t Q) : Ex G mX1_needsYet [RR a0, RR a1, II v2] t Q := Ex.of plX1 (Or.inr (Or.inl rfl)) (Nat.le_of_ble_eq_true rfl) rfl k
set_option maxRecDepth 100000 in
theorem sgX1_needsYet_0 {G : GG} {Q : Int → Mem → Prop} {t : Mem} {a0 a1 : Nat} {v2 : Int} (ha0 : IsMom a0) (ha1 : IsCamp a1) (h : ∃ P1 : Int → Mem → Prop, Ex G mX1_needs [RR a0, RR a1, II v2] t P1 ∧ ∀ (r3 : Int) (u4 : Mem), P1 r3 u4 → (0 ≤ v2 ∧ v2 < 7) ∧ In32 (r3 - (u4 (a0 + 1) v2.toNat)) ∧ Q (max 0 (r3 - (u4 (a0 + 1) v2.toNat))) u4) : V G mX1_needsYet 0 [(0, RR a0), (1, RR a1), (2, II v2)] [] t Q := by
  refine V_iconst dX1_needsYet_0 rfl ?_
  refine V_aload_n 0 rfl dX1_needsYet_1 rfl ?_
  refine V_aload_n 1 rfl dX1_needsYet_2 rfl ?_
  refine V_iload_n 2 rfl dX1_needsYet_3 rfl ?_
  obtain ⟨P1, c2, h⟩ := h
  refine V_callVi (st := [II 0]) (as := [RR a1, II v2]) okX1_needs rfl mlX1_54 (by decide) ha0.k rfl (Nat.le_of_ble_eq_true rfl) rfl dX1_needsYet_4 rfl c2 (fun r3 u4 e5 => ?_)
  have h := h r3 u4 e5
  refine V_aload_n 0 rfl dX1_needsYet_7 rfl ?_
  refine gX1_18 rfl ha0.k ha0.r6 dX1_needsYet_8 rfl ?_
  refine V_iload_n 2 rfl dX1_needsYet_11 rfl ?_
  obtain ⟨q6, h⟩ := h
  refine V_ialdn ha0.k1 ha0.i1 q6 dX1_needsYet_12 rfl ?_
  refine V_isub dX1_needsYet_13 rfl ?_
  obtain ⟨q7, h⟩ := h
  refine V_max mlX1_58 (by decide) (Nat.le_of_ble_eq_true rfl) (iL rfl) q7 dX1_needsYet_14 rfl ?_
  exact V_iret dX1_needsYet_17 (Or.inl rfl) h
theorem eX1_needsYetOf {G : GG} {Q : Int → Mem → Prop} {t : Mem} {a0 a1 : Nat} {v2 : Int} (k : V G mX1_needsYetOf 0 [(0, RR a0), (1, RR a1), (2, II v2)] [] t Q) : Ex G mX1_needsYetOf [RR a0, RR a1, II v2] t Q := Ex.of plX1 (Or.inr (Or.inl rfl)) (Nat.le_of_ble_eq_true rfl) rfl k
set_option maxRecDepth 100000 in
theorem sgX1_needsYetOf_0 {G : GG} {Q : Int → Mem → Prop} {t : Mem} {a0 a1 : Nat} {v2 : Int} (ha0 : IsMom a0) (ha1 : IsCamp a1) (h : V G mX1_needsYetOf 5 [(0, RR a0), (1, RR a1), (2, II v2), (3, II 0), (4, II 0)] [] t Q) : V G mX1_needsYetOf 0 [(0, RR a0), (1, RR a1), (2, II v2)] [] t Q := by
  refine V_iconst dX1_needsYetOf_0 rfl ?_
  refine V_istore_n (ls2 := [(0, RR a0), (1, RR a1), (2, II v2), (3, II 0)]) dX1_needsYetOf_1 rfl (by decide) rfl ?_
  refine V_iconst dX1_needsYetOf_2 rfl ?_
  refine V_istore (ls2 := [(0, RR a0), (1, RR a1), (2, II v2), (3, II 0), (4, II 0)]) dX1_needsYetOf_3 rfl (by decide) rfl ?_
  exact h
set_option maxRecDepth 100000 in
theorem sgX1_needsYetOf_5 {G : GG} {Q : Int → Mem → Prop} {t : Mem} {a0 a1 : Nat} {v2 v3 v4 : Int} (ha0 : IsMom a0) (ha1 : IsCamp a1) (h : In32 v4 ∧ In32 (t a1 7) ∧ ((t a1 7) ≤ v4 → Q v3 t) ∧ (¬ (t a1 7) ≤ v4 → In32 (iAnd (iShr v2 v4) 1) ∧ (¬ (iAnd (iShr v2 v4) 1) = 1 → V G mX1_needsYetOf 5 [(0, RR a0), (1, RR a1), (2, II v2), (3, II v3), (4, II (v4 + 1))] [] t Q) ∧ ((iAnd (iShr v2 v4) 1) = 1 → ∃ P4 : Int → Mem → Prop, Ex G mX1_needsYet [RR a0, RR a1, II v4] t P4 ∧ ∀ (r6 : Int) (u7 : Mem), P4 r6 u7 → V G mX1_needsYetOf 5 [(0, RR a0), (1, RR a1), (2, II v2), (3, II (v3 + r6)), (4, II (v4 + 1))] [] u7 Q))) : V G mX1_needsYetOf 5 [(0, RR a0), (1, RR a1), (2, II v2), (3, II v3), (4, II v4)] [] t Q := by
  refine V_iload 4 rfl dX1_needsYetOf_5 rfl ?_
  refine V_aload_n 1 rfl dX1_needsYetOf_7 rfl ?_
  refine gX1_64 rfl ha1.k dX1_needsYetOf_8 rfl ?_
  obtain ⟨q1, h⟩ := h
  obtain ⟨q2, h⟩ := h
  refine V_icmp_ge q1 q2 dX1_needsYetOf_11 (g := 40) rfl rfl ⟨fun hc => ?_, fun hc => ?_⟩
  · have h := h.1 hc
    refine V_iload_n 3 rfl dX1_needsYetOf_40 rfl ?_
    exact V_iret dX1_needsYetOf_41 (Or.inl rfl) h
  · have h := h.2 hc
    refine V_iload_n 2 rfl dX1_needsYetOf_14 rfl ?_
    refine V_iload 4 rfl dX1_needsYetOf_15 rfl ?_
    refine V_ishr dX1_needsYetOf_17 rfl ?_
    refine V_iconst dX1_needsYetOf_18 rfl ?_
    refine V_iand dX1_needsYetOf_19 rfl ?_
    refine V_iconst dX1_needsYetOf_20 rfl ?_
    obtain ⟨q3, h⟩ := h
    refine V_icmp_ne q3 (iL rfl) dX1_needsYetOf_21 (g := 34) rfl rfl ⟨fun hc => ?_, fun hc => ?_⟩
    · have h := h.1 hc
      refine V_iinc 4 rfl (ls2 := [(0, RR a0), (1, RR a1), (2, II v2), (3, II v3), (4, II (v4 + 1))]) dX1_needsYetOf_34 rfl (by decide) rfl ?_
      refine V_goto (g := 5) dX1_needsYetOf_37 rfl ?_
      exact h
    · have h := h.2 hc
      refine V_iload_n 3 rfl dX1_needsYetOf_24 rfl ?_
      refine V_aload_n 0 rfl dX1_needsYetOf_25 rfl ?_
      refine V_aload_n 1 rfl dX1_needsYetOf_26 rfl ?_
      refine V_iload 4 rfl dX1_needsYetOf_27 rfl ?_
      obtain ⟨P4, c5, h⟩ := h
      refine V_callVi (st := [II v3]) (as := [RR a1, II v4]) okX1_needsYet rfl mlX1_67 (by decide) ha0.k rfl (Nat.le_of_ble_eq_true rfl) rfl dX1_needsYetOf_29 rfl c5 (fun r6 u7 e8 => ?_)
      have h := h r6 u7 e8
      refine V_iadd dX1_needsYetOf_32 rfl ?_
      refine V_istore_n (ls2 := [(0, RR a0), (1, RR a1), (2, II v2), (3, II (v3 + r6)), (4, II v4)]) dX1_needsYetOf_33 rfl (by decide) rfl ?_
      refine V_iinc 4 rfl (ls2 := [(0, RR a0), (1, RR a1), (2, II v2), (3, II (v3 + r6)), (4, II (v4 + 1))]) dX1_needsYetOf_34 rfl (by decide) rfl ?_
      refine V_goto (g := 5) dX1_needsYetOf_37 rfl ?_
      exact h
theorem eX1_sated {G : GG} {Q : Int → Mem → Prop} {t : Mem} {a0 a1 : Nat} {v2 : Int} (k : V G mX1_sated 0 [(0, RR a0), (1, RR a1), (2, II v2)] [] t Q) : Ex G mX1_sated [RR a0, RR a1, II v2] t Q := Ex.of plX1 (Or.inr (Or.inr rfl)) (Nat.le_of_ble_eq_true rfl) rfl k
set_option maxRecDepth 100000 in
theorem sgX1_sated_0 {G : GG} {Q : Int → Mem → Prop} {t : Mem} {a0 a1 : Nat} {v2 : Int} (ha0 : IsMom a0) (ha1 : IsCamp a1) (h : (0 ≤ v2 ∧ v2 < 7) ∧ ∃ P2 : Int → Mem → Prop, Ex G mX1_needs [RR a0, RR a1, II v2] t P2 ∧ ∀ (r4 : Int) (u5 : Mem), P2 r4 u5 → In32 (t (a0 + 1) v2.toNat) ∧ In32 r4 ∧ Q (if (t (a0 + 1) v2.toNat) < r4 then 0 else 1) u5) : V G mX1_sated 0 [(0, RR a0), (1, RR a1), (2, II v2)] [] t Q := by
  refine V_aload_n 0 rfl dX1_sated_0 rfl ?_
  refine gX1_18 rfl ha0.k ha0.r6 dX1_sated_1 rfl ?_
  refine V_iload_n 2 rfl dX1_sated_4 rfl ?_
  obtain ⟨q1, h⟩ := h
  refine V_ialdn ha0.k1 ha0.i1 q1 dX1_sated_5 rfl ?_
  refine V_aload_n 0 rfl dX1_sated_6 rfl ?_
  refine V_aload_n 1 rfl dX1_sated_7 rfl ?_
  refine V_iload_n 2 rfl dX1_sated_8 rfl ?_
  obtain ⟨P2, c3, h⟩ := h
  refine V_callVi (st := [II (t (a0 + 1) v2.toNat)]) (as := [RR a1, II v2]) okX1_needs rfl mlX1_54 (by decide) ha0.k rfl (Nat.le_of_ble_eq_true rfl) rfl dX1_sated_9 rfl c3 (fun r4 u5 e6 => ?_)
  have h := h r4 u5 e6
  obtain ⟨q7, h⟩ := h
  obtain ⟨q8, h⟩ := h
  have hj13 : V G mX1_sated 20 [(0, RR a0), (1, RR a1), (2, II v2)] [II (if (t (a0 + 1) v2.toNat) < r4 then 0 else 1)] u5 Q := by
    exact V_iret dX1_sated_20 (Or.inr ⟨rfl, by split <;> simp⟩) h
  refine V_icmp_lt q7 q8 dX1_sated_12 (g := 19) rfl rfl ⟨fun hc => ?_, fun hc => ?_⟩
  · skip
    refine V_iconst dX1_sated_19 rfl ?_
    rw [if_pos hc] at hj13
    exact hj13
  · skip
    refine V_iconst dX1_sated_15 rfl ?_
    refine V_goto (g := 20) dX1_sated_16 rfl ?_
    rw [if_neg hc] at hj13
    exact hj13
theorem eX1_satedSet {G : GG} {Q : Int → Mem → Prop} {t : Mem} {a0 a1 : Nat} (k : V G mX1_satedSet 0 [(0, RR a0), (1, RR a1)] [] t Q) : Ex G mX1_satedSet [RR a0, RR a1] t Q := Ex.of plX1 (Or.inr (Or.inl rfl)) (Nat.le_of_ble_eq_true rfl) rfl k
set_option maxRecDepth 100000 in
theorem sgX1_satedSet_0 {G : GG} {Q : Int → Mem → Prop} {t : Mem} {a0 a1 : Nat} (ha0 : IsMom a0) (ha1 : IsCamp a1) (h : V G mX1_satedSet 4 [(0, RR a0), (1, RR a1), (2, II 0), (3, II 0)] [] t Q) : V G mX1_satedSet 0 [(0, RR a0), (1, RR a1)] [] t Q := by
  refine V_iconst dX1_satedSet_0 rfl ?_
  refine V_istore_n (ls2 := [(0, RR a0), (1, RR a1), (2, II 0)]) dX1_satedSet_1 rfl (by decide) rfl ?_
  refine V_iconst dX1_satedSet_2 rfl ?_
  refine V_istore_n (ls2 := [(0, RR a0), (1, RR a1), (2, II 0), (3, II 0)]) dX1_satedSet_3 rfl (by decide) rfl ?_
  exact h
set_option maxRecDepth 100000 in
theorem sgX1_satedSet_4 {G : GG} {Q : Int → Mem → Prop} {t : Mem} {a0 a1 : Nat} {v2 v3 : Int} (ha0 : IsMom a0) (ha1 : IsCamp a1) (h : In32 v3 ∧ In32 (t a1 7) ∧ ((t a1 7) ≤ v3 → Q v2 t) ∧ (¬ (t a1 7) ≤ v3 → ∃ P3 : Int → Mem → Prop, Ex G mX1_sated [RR a0, RR a1, II v3] t P3 ∧ ∀ (r5 : Int) (u6 : Mem), P3 r5 u6 → In32 r5 ∧ (r5 = 0 → V G mX1_satedSet 4 [(0, RR a0), (1, RR a1), (2, II v2), (3, II (v3 + 1))] [] u6 Q) ∧ (¬ r5 = 0 → V G mX1_satedSet 4 [(0, RR a0), (1, RR a1), (2, II (iOr v2 (iShl 1 v3))), (3, II (v3 + 1))] [] u6 Q))) : V G mX1_satedSet 4 [(0, RR a0), (1, RR a1), (2, II v2), (3, II v3)] [] t Q := by
  refine V_iload_n 3 rfl dX1_satedSet_4 rfl ?_
  refine V_aload_n 1 rfl dX1_satedSet_5 rfl ?_
  refine gX1_64 rfl ha1.k dX1_satedSet_6 rfl ?_
  obtain ⟨q1, h⟩ := h
  obtain ⟨q2, h⟩ := h
  refine V_icmp_ge q1 q2 dX1_satedSet_9 (g := 33) rfl rfl ⟨fun hc => ?_, fun hc => ?_⟩
  · have h := h.1 hc
    refine V_iload_n 2 rfl dX1_satedSet_33 rfl ?_
    exact V_iret dX1_satedSet_34 (Or.inl rfl) h
  · have h := h.2 hc
    refine V_aload_n 0 rfl dX1_satedSet_12 rfl ?_
    refine V_aload_n 1 rfl dX1_satedSet_13 rfl ?_
    refine V_iload_n 3 rfl dX1_satedSet_14 rfl ?_
    obtain ⟨P3, c4, h⟩ := h
    refine V_callVi (st := []) (as := [RR a1, II v3]) okX1_sated rfl mlX1_70 (by decide) ha0.k rfl (Nat.le_of_ble_eq_true rfl) rfl dX1_satedSet_15 rfl c4 (fun r5 u6 e7 => ?_)
    have h := h r5 u6 e7
    obtain ⟨q8, h⟩ := h
    refine V_if_eq q8 dX1_satedSet_18 (g := 27) rfl rfl ⟨fun hc => ?_, fun hc => ?_⟩
    · have h := h.1 hc
      refine V_iinc 3 rfl (ls2 := [(0, RR a0), (1, RR a1), (2, II v2), (3, II (v3 + 1))]) dX1_satedSet_27 rfl (by decide) rfl ?_
      refine V_goto (g := 4) dX1_satedSet_30 rfl ?_
      exact h
    · have h := h.2 hc
      refine V_iload_n 2 rfl dX1_satedSet_21 rfl ?_
      refine V_iconst dX1_satedSet_22 rfl ?_
      refine V_iload_n 3 rfl dX1_satedSet_23 rfl ?_
      refine V_ishl dX1_satedSet_24 rfl ?_
      refine V_ior dX1_satedSet_25 rfl ?_
      refine V_istore_n (ls2 := [(0, RR a0), (1, RR a1), (2, II (iOr v2 (iShl 1 v3))), (3, II v3)]) dX1_satedSet_26 rfl (by decide) rfl ?_
      refine V_iinc 3 rfl (ls2 := [(0, RR a0), (1, RR a1), (2, II (iOr v2 (iShl 1 v3))), (3, II (v3 + 1))]) dX1_satedSet_27 rfl (by decide) rfl ?_
      refine V_goto (g := 4) dX1_satedSet_30 rfl ?_
      exact h
theorem eX1_allSated {G : GG} {Q : Int → Mem → Prop} {t : Mem} {a0 a1 : Nat} (k : V G mX1_allSated 0 [(0, RR a0), (1, RR a1)] [] t Q) : Ex G mX1_allSated [RR a0, RR a1] t Q := Ex.of plX1 (Or.inr (Or.inr rfl)) (Nat.le_of_ble_eq_true rfl) rfl k
set_option maxRecDepth 100000 in
theorem sgX1_allSated_0 {G : GG} {Q : Int → Mem → Prop} {t : Mem} {a0 a1 : Nat} (ha0 : IsMom a0) (ha1 : IsCamp a1) (h : V G mX1_allSated 2 [(0, RR a0), (1, RR a1), (2, II 0)] [] t Q) : V G mX1_allSated 0 [(0, RR a0), (1, RR a1)] [] t Q := by
  refine V_iconst dX1_allSated_0 rfl ?_
  refine V_istore_n (ls2 := [(0, RR a0), (1, RR a1), (2, II 0)]) dX1_allSated_1 rfl (by decide) rfl ?_
  exact h
set_option maxRecDepth 100000 in
theorem sgX1_allSated_2 {G : GG} {Q : Int → Mem → Prop} {t : Mem} {a0 a1 : Nat} {v2 : Int} (ha0 : IsMom a0) (ha1 : IsCamp a1) (h : In32 v2 ∧ In32 (t a1 7) ∧ ((t a1 7) ≤ v2 → Q 1 t) ∧ (¬ (t a1 7) ≤ v2 → In32 (t a1 6) ∧ (v2 = (t a1 6) → V G mX1_allSated 2 [(0, RR a0), (1, RR a1), (2, II (v2 + 1))] [] t Q) ∧ (¬ v2 = (t a1 6) → ∃ P4 : Int → Mem → Prop, Ex G mX1_sated [RR a0, RR a1, II v2] t P4 ∧ ∀ (r6 : Int) (u7 : Mem), P4 r6 u7 → In32 r6 ∧ (¬ r6 = 0 → V G mX1_allSated 2 [(0, RR a0), (1, RR a1), (2, II (v2 + 1))] [] u7 Q) ∧ (r6 = 0 → Q 0 u7)))) : V G mX1_allSated 2 [(0, RR a0), (1, RR a1), (2, II v2)] [] t Q := by
  refine V_iload_n 2 rfl dX1_allSated_2 rfl ?_
  refine V_aload_n 1 rfl dX1_allSated_3 rfl ?_
  refine gX1_64 rfl ha1.k dX1_allSated_4 rfl ?_
  obtain ⟨q1, h⟩ := h
  obtain ⟨q2, h⟩ := h
  refine V_icmp_ge q1 q2 dX1_allSated_7 (g := 35) rfl rfl ⟨fun hc => ?_, fun hc => ?_⟩
  · have h := h.1 hc
    refine V_iconst dX1_allSated_35 rfl ?_
    exact V_iret dX1_allSated_36 (Or.inr ⟨rfl, by decide⟩) h
  · have h := h.2 hc
    refine V_iload_n 2 rfl dX1_allSated_10 rfl ?_
    refine V_aload_n 1 rfl dX1_allSated_11 rfl ?_
    refine gX1_74 rfl ha1.k dX1_allSated_12 rfl ?_
    obtain ⟨q3, h⟩ := h
    refine V_icmp_eq q1 q3 dX1_allSated_15 (g := 29) rfl rfl ⟨fun hc => ?_, fun hc => ?_⟩
    · have h := h.1 hc
      refine V_iinc 2 rfl (ls2 := [(0, RR a0), (1, RR a1), (2, II (v2 + 1))]) dX1_allSated_29 rfl (by decide) rfl ?_
      refine V_goto (g := 2) dX1_allSated_32 rfl ?_
      exact h
    · have h := h.2 hc
      refine V_aload_n 0 rfl dX1_allSated_18 rfl ?_
      refine V_aload_n 1 rfl dX1_allSated_19 rfl ?_
      refine V_iload_n 2 rfl dX1_allSated_20 rfl ?_
      obtain ⟨P4, c5, h⟩ := h
      refine V_callVi (st := []) (as := [RR a1, II v2]) okX1_sated rfl mlX1_70 (by decide) ha0.k rfl (Nat.le_of_ble_eq_true rfl) rfl dX1_allSated_21 rfl c5 (fun r6 u7 e8 => ?_)
      have h := h r6 u7 e8
      obtain ⟨q9, h⟩ := h
      refine V_if_ne q9 dX1_allSated_24 (g := 29) rfl rfl ⟨fun hc => ?_, fun hc => ?_⟩
      · have h := h.1 hc
        refine V_iinc 2 rfl (ls2 := [(0, RR a0), (1, RR a1), (2, II (v2 + 1))]) dX1_allSated_29 rfl (by decide) rfl ?_
        refine V_goto (g := 2) dX1_allSated_32 rfl ?_
        exact h
      · have h := h.2 hc
        refine V_iconst dX1_allSated_27 rfl ?_
        exact V_iret dX1_allSated_28 (Or.inr ⟨rfl, by decide⟩) h
theorem eX1_drunkTogether {G : GG} {Q : Int → Mem → Prop} {t : Mem} {a0 : Nat} (k : V G mX1_drunkTogether 0 [(0, RR a0)] [] t Q) : Ex G mX1_drunkTogether [RR a0] t Q := Ex.of plX1 (Or.inr (Or.inl rfl)) (Nat.le_of_ble_eq_true rfl) rfl k
set_option maxRecDepth 100000 in
theorem sgX1_drunkTogether_0 {G : GG} {Q : Int → Mem → Prop} {t : Mem} {a0 : Nat} (ha0 : IsMom a0) (h : V G mX1_drunkTogether 4 [(0, RR a0), (1, II 0), (2, II 0)] [] t Q) : V G mX1_drunkTogether 0 [(0, RR a0)] [] t Q := by
  refine V_iconst dX1_drunkTogether_0 rfl ?_
  refine V_istore_n (ls2 := [(0, RR a0), (1, II 0)]) dX1_drunkTogether_1 rfl (by decide) rfl ?_
  refine V_iconst dX1_drunkTogether_2 rfl ?_
  refine V_istore_n (ls2 := [(0, RR a0), (1, II 0), (2, II 0)]) dX1_drunkTogether_3 rfl (by decide) rfl ?_
  exact h
set_option maxRecDepth 100000 in
theorem sgX1_drunkTogether_4 {G : GG} {Q : Int → Mem → Prop} {t : Mem} {a0 : Nat} {v1 v2 : Int} (ha0 : IsMom a0) (h : In32 v2 ∧ (7 ≤ v2 → Q v1 t) ∧ (¬ 7 ≤ v2 → (0 ≤ v2 ∧ v2 < 7) ∧ V G mX1_drunkTogether 4 [(0, RR a0), (1, II (v1 + (t (a0 + 1) v2.toNat))), (2, II (v2 + 1))] [] t Q)) : V G mX1_drunkTogether 4 [(0, RR a0), (1, II v1), (2, II v2)] [] t Q := by
  refine V_iload_n 2 rfl dX1_drunkTogether_4 rfl ?_
  refine V_bipush (by decide) dX1_drunkTogether_5 rfl ?_
  obtain ⟨q1, h⟩ := h
  refine V_icmp_ge q1 (iL rfl) dX1_drunkTogether_7 (g := 25) rfl rfl ⟨fun hc => ?_, fun hc => ?_⟩
  · have h := h.1 hc
    refine V_iload_n 1 rfl dX1_drunkTogether_25 rfl ?_
    exact V_iret dX1_drunkTogether_26 (Or.inl rfl) h
  · have h := h.2 hc
    refine V_iload_n 1 rfl dX1_drunkTogether_10 rfl ?_
    refine V_aload_n 0 rfl dX1_drunkTogether_11 rfl ?_
    refine gX1_18 rfl ha0.k ha0.r6 dX1_drunkTogether_12 rfl ?_
    refine V_iload_n 2 rfl dX1_drunkTogether_15 rfl ?_
    obtain ⟨q2, h⟩ := h
    refine V_ialdn ha0.k1 ha0.i1 q2 dX1_drunkTogether_16 rfl ?_
    refine V_iadd dX1_drunkTogether_17 rfl ?_
    refine V_istore_n (ls2 := [(0, RR a0), (1, II (v1 + (t (a0 + 1) v2.toNat))), (2, II v2)]) dX1_drunkTogether_18 rfl (by decide) rfl ?_
    refine V_iinc 2 rfl (ls2 := [(0, RR a0), (1, II (v1 + (t (a0 + 1) v2.toNat))), (2, II (v2 + 1))]) dX1_drunkTogether_19 rfl (by decide) rfl ?_
    refine V_goto (g := 4) dX1_drunkTogether_22 rfl ?_
    exact h
theorem eX1_step {G : GG} {Q : Int → Mem → Prop} {t : Mem} {a0 a1 : Nat} {v2 : Int} (k : V G mX1_step 0 [(0, RR a0), (1, RR a1), (2, II v2)] [] t Q) : Ex G mX1_step [RR a0, RR a1, II v2] t Q := Ex.of plX1 (Or.inr (Or.inr rfl)) (Nat.le_of_ble_eq_true rfl) rfl k
set_option maxRecDepth 100000 in
theorem sgX1_step_0 {G : GG} {Q : Int → Mem → Prop} {t : Mem} {a0 a1 : Nat} {v2 : Int} (ha0 : IsMom a0) (ha1 : IsCamp a1) (h : In32 (t a0 3) ∧ (0 < (t a0 3) → ((0 : Int) ≤ (60 - (t a0 0)) ∧ In32 (60 - (t a0 0))) ∧ ((0 : Int) < (t a1 1) ∧ In32 (t a1 1)) ∧ ∀ u4 : Mem, u4 = wr t a0 0 ((t a0 0) + ((60 - (t a0 0)) / (t a1 1))) → ∃ P6 : Int → Mem → Prop, Ex G mX1_drawBucket [RR a0, RR a1] u4 P6 ∧ ∀ (r8 : Int) (u9 : Mem), P6 r8 u9 → ∃ P11 : Int → Mem → Prop, Ex G mX1_waterBeasts [RR a0, RR a1, II v2] u9 P11 ∧ ∀ (r13 : Int) (u14 : Mem), P11 r13 u14 → ∀ u16 : Mem, u16 = wr u14 a0 4 ((u14 a0 4) + 1) → (¬ (1 : Int) = 0 → Q 1 u16) ∧ ((1 : Int) = 0 → In32 ((60 - (t a0 0)) / (t a1 1)) ∧ (¬ ((60 - (t a0 0)) / (t a1 1)) = 0 → Q 1 u16) ∧ (((60 - (t a0 0)) / (t a1 1)) = 0 → In32 r8 ∧ (¬ r8 = 0 → Q 1 u16) ∧ (r8 = 0 → In32 r13 ∧ Q (if r13 = 0 then 0 else 1) u16)))) ∧ (¬ 0 < (t a0 3) → ∃ P26 : Int → Mem → Prop, Ex G mX1_anySwollen [RR a0, RR a1] t P26 ∧ ∀ (r28 : Int) (u29 : Mem), P26 r28 u29 → In32 r28 ∧ ((0 : Int) ≤ (60 - (u29 a0 0)) ∧ In32 (60 - (u29 a0 0))) ∧ ((0 : Int) < (u29 a1 1) ∧ In32 (u29 a1 1)) ∧ ∀ u39 : Mem, u39 = wr u29 a0 0 ((u29 a0 0) + ((60 - (u29 a0 0)) / (u29 a1 1))) → ∃ P41 : Int → Mem → Prop, Ex G mX1_drawBucket [RR a0, RR a1] u39 P41 ∧ ∀ (r43 : Int) (u44 : Mem), P41 r43 u44 → ∃ P46 : Int → Mem → Prop, Ex G mX1_waterBeasts [RR a0, RR a1, II v2] u44 P46 ∧ ∀ (r48 : Int) (u49 : Mem), P46 r48 u49 → ∀ u51 : Mem, u51 = wr u49 a0 4 ((u49 a0 4) + 1) → (¬ (if r28 = 0 then 0 else 1 : Int) = 0 → Q 1 u51) ∧ ((if r28 = 0 then 0 else 1 : Int) = 0 → In32 ((60 - (u29 a0 0)) / (u29 a1 1)) ∧ (¬ ((60 - (u29 a0 0)) / (u29 a1 1)) = 0 → Q 1 u51) ∧ (((60 - (u29 a0 0)) / (u29 a1 1)) = 0 → In32 r43 ∧ (¬ r43 = 0 → Q 1 u51) ∧ (r43 = 0 → In32 r48 ∧ Q (if r48 = 0 then 0 else 1) u51))))) : V G mX1_step 0 [(0, RR a0), (1, RR a1), (2, II v2)] [] t Q := by
  refine V_aload_n 0 rfl dX1_step_0 rfl ?_
  refine gX1_37 rfl ha0.k dX1_step_1 rfl ?_
  obtain ⟨q1, h⟩ := h
  refine V_if_gt q1 dX1_step_4 (g := 15) rfl rfl ⟨fun hc => ?_, fun hc => ?_⟩
  · have h := h.1 hc
    refine V_iconst dX1_step_15 rfl ?_
    refine V_goto (g := 20) dX1_step_16 rfl ?_
    refine V_istore_n (ls2 := [(0, RR a0), (1, RR a1), (2, II v2), (3, II 1)]) dX1_step_20 rfl (by decide) rfl ?_
    refine V_bipush (by decide) dX1_step_21 rfl ?_
    refine V_aload_n 0 rfl dX1_step_23 rfl ?_
    refine gX1_9 rfl ha0.k dX1_step_24 rfl ?_
    refine V_isub dX1_step_27 rfl ?_
    refine V_aload_n 1 rfl dX1_step_28 rfl ?_
    refine gX1_81 rfl ha1.k dX1_step_29 rfl ?_
    obtain ⟨q2, h⟩ := h
    obtain ⟨q3, h⟩ := h
    refine V_idiv q2 q3 dX1_step_32 rfl ?_
    refine V_istore (ls2 := [(0, RR a0), (1, RR a1), (2, II v2), (3, II 1), (4, II ((60 - (t a0 0)) / (t a1 1)))]) dX1_step_33 rfl (by decide) rfl ?_
    refine V_aload_n 0 rfl dX1_step_35 rfl ?_
    refine V_dup rfl dX1_step_36 rfl ?_
    refine gX1_9 rfl ha0.k dX1_step_37 rfl ?_
    refine V_iload 4 rfl dX1_step_40 rfl ?_
    refine V_iadd dX1_step_42 rfl ?_
    refine pX1_9 rfl ha0.k dX1_step_43 rfl (fun u4 e5 => ?_)
    have h := h u4 e5
    refine V_aload_n 0 rfl dX1_step_46 rfl ?_
    refine V_aload_n 1 rfl dX1_step_47 rfl ?_
    obtain ⟨P6, c7, h⟩ := h
    refine V_callVi (st := []) (as := [RR a1]) okX1_drawBucket rfl mlX1_84 (by decide) ha0.k rfl (Nat.le_of_ble_eq_true rfl) rfl dX1_step_48 rfl c7 (fun r8 u9 e10 => ?_)
    have h := h r8 u9 e10
    refine V_istore (ls2 := [(0, RR a0), (1, RR a1), (2, II v2), (3, II 1), (4, II ((60 - (t a0 0)) / (t a1 1))), (5, II r8)]) dX1_step_51 rfl (by decide) rfl ?_
    refine V_aload_n 0 rfl dX1_step_53 rfl ?_
    refine V_aload_n 1 rfl dX1_step_54 rfl ?_
    refine V_iload_n 2 rfl dX1_step_55 rfl ?_
    obtain ⟨P11, c12, h⟩ := h
    refine V_callVi (st := []) (as := [RR a1, II v2]) okX1_waterBeasts rfl mlX1_88 (by decide) ha0.k rfl (Nat.le_of_ble_eq_true rfl) rfl dX1_step_56 rfl c12 (fun r13 u14 e15 => ?_)
    have h := h r13 u14 e15
    refine V_istore (ls2 := [(0, RR a0), (1, RR a1), (2, II v2), (3, II 1), (4, II ((60 - (t a0 0)) / (t a1 1))), (5, II r8), (6, II r13)]) dX1_step_59 rfl (by decide) rfl ?_
    refine V_aload_n 0 rfl dX1_step_61 rfl ?_
    refine V_dup rfl dX1_step_62 rfl ?_
    refine gX1_40 rfl ha0.k dX1_step_63 rfl ?_
    refine V_iconst dX1_step_66 rfl ?_
    refine V_iadd dX1_step_67 rfl ?_
    refine pX1_40 rfl ha0.k dX1_step_68 rfl (fun u16 e17 => ?_)
    have h := h u16 e17
    refine V_iload_n 3 rfl dX1_step_71 rfl ?_
    refine V_if_ne (iL rfl) dX1_step_72 (g := 90) rfl rfl ⟨fun hc => ?_, fun hc => ?_⟩
    · have h := h.1 hc
      refine V_iconst dX1_step_90 rfl ?_
      refine V_goto (g := 95) dX1_step_91 rfl ?_
      exact V_iret dX1_step_95 (Or.inr ⟨rfl, by decide⟩) h
    · have h := h.2 hc
      refine V_iload 4 rfl dX1_step_75 rfl ?_
      obtain ⟨q18, h⟩ := h
      refine V_if_ne q18 dX1_step_77 (g := 90) rfl rfl ⟨fun hc => ?_, fun hc => ?_⟩
      · have h := h.1 hc
        refine V_iconst dX1_step_90 rfl ?_
        refine V_goto (g := 95) dX1_step_91 rfl ?_
        exact V_iret dX1_step_95 (Or.inr ⟨rfl, by decide⟩) h
      · have h := h.2 hc
        refine V_iload 5 rfl dX1_step_80 rfl ?_
        obtain ⟨q19, h⟩ := h
        refine V_if_ne q19 dX1_step_82 (g := 90) rfl rfl ⟨fun hc => ?_, fun hc => ?_⟩
        · have h := h.1 hc
          refine V_iconst dX1_step_90 rfl ?_
          refine V_goto (g := 95) dX1_step_91 rfl ?_
          exact V_iret dX1_step_95 (Or.inr ⟨rfl, by decide⟩) h
        · have h := h.2 hc
          refine V_iload 6 rfl dX1_step_85 rfl ?_
          obtain ⟨q20, h⟩ := h
          have hj25 : V G mX1_step 95 [(0, RR a0), (1, RR a1), (2, II v2), (3, II 1), (4, II ((60 - (t a0 0)) / (t a1 1))), (5, II r8), (6, II r13)] [II (if r13 = 0 then 0 else 1)] u16 Q := by
            exact V_iret dX1_step_95 (Or.inr ⟨rfl, by split <;> simp⟩) h
          refine V_if_eq q20 dX1_step_87 (g := 94) rfl rfl ⟨fun hc => ?_, fun hc => ?_⟩
          · skip
            refine V_iconst dX1_step_94 rfl ?_
            rw [if_pos hc] at hj25
            exact hj25
          · skip
            refine V_iconst dX1_step_90 rfl ?_
            refine V_goto (g := 95) dX1_step_91 rfl ?_
            rw [if_neg hc] at hj25
            exact hj25
  · have h := h.2 hc
    refine V_aload_n 0 rfl dX1_step_7 rfl ?_
    refine V_aload_n 1 rfl dX1_step_8 rfl ?_
    obtain ⟨P26, c27, h⟩ := h
    refine V_callVi (st := []) (as := [RR a1]) okX1_anySwollen rfl mlX1_77 (by decide) ha0.k rfl (Nat.le_of_ble_eq_true rfl) rfl dX1_step_9 rfl c27 (fun r28 u29 e30 => ?_)
    have h := h r28 u29 e30
    obtain ⟨q31, h⟩ := h
    have hj36 : V G mX1_step 20 [(0, RR a0), (1, RR a1), (2, II v2)] [II (if r28 = 0 then 0 else 1)] u29 Q := by
      refine V_istore_n (ls2 := [(0, RR a0), (1, RR a1), (2, II v2), (3, II (if r28 = 0 then 0 else 1))]) dX1_step_20 rfl (by decide) rfl ?_
      refine V_bipush (by decide) dX1_step_21 rfl ?_
      refine V_aload_n 0 rfl dX1_step_23 rfl ?_
      refine gX1_9 rfl ha0.k dX1_step_24 rfl ?_
      refine V_isub dX1_step_27 rfl ?_
      refine V_aload_n 1 rfl dX1_step_28 rfl ?_
      refine gX1_81 rfl ha1.k dX1_step_29 rfl ?_
      obtain ⟨q37, h⟩ := h
      obtain ⟨q38, h⟩ := h
      refine V_idiv q37 q38 dX1_step_32 rfl ?_
      refine V_istore (ls2 := [(0, RR a0), (1, RR a1), (2, II v2), (3, II (if r28 = 0 then 0 else 1)), (4, II ((60 - (u29 a0 0)) / (u29 a1 1)))]) dX1_step_33 rfl (by decide) rfl ?_
      refine V_aload_n 0 rfl dX1_step_35 rfl ?_
      refine V_dup rfl dX1_step_36 rfl ?_
      refine gX1_9 rfl ha0.k dX1_step_37 rfl ?_
      refine V_iload 4 rfl dX1_step_40 rfl ?_
      refine V_iadd dX1_step_42 rfl ?_
      refine pX1_9 rfl ha0.k dX1_step_43 rfl (fun u39 e40 => ?_)
      have h := h u39 e40
      refine V_aload_n 0 rfl dX1_step_46 rfl ?_
      refine V_aload_n 1 rfl dX1_step_47 rfl ?_
      obtain ⟨P41, c42, h⟩ := h
      refine V_callVi (st := []) (as := [RR a1]) okX1_drawBucket rfl mlX1_84 (by decide) ha0.k rfl (Nat.le_of_ble_eq_true rfl) rfl dX1_step_48 rfl c42 (fun r43 u44 e45 => ?_)
      have h := h r43 u44 e45
      refine V_istore (ls2 := [(0, RR a0), (1, RR a1), (2, II v2), (3, II (if r28 = 0 then 0 else 1)), (4, II ((60 - (u29 a0 0)) / (u29 a1 1))), (5, II r43)]) dX1_step_51 rfl (by decide) rfl ?_
      refine V_aload_n 0 rfl dX1_step_53 rfl ?_
      refine V_aload_n 1 rfl dX1_step_54 rfl ?_
      refine V_iload_n 2 rfl dX1_step_55 rfl ?_
      obtain ⟨P46, c47, h⟩ := h
      refine V_callVi (st := []) (as := [RR a1, II v2]) okX1_waterBeasts rfl mlX1_88 (by decide) ha0.k rfl (Nat.le_of_ble_eq_true rfl) rfl dX1_step_56 rfl c47 (fun r48 u49 e50 => ?_)
      have h := h r48 u49 e50
      refine V_istore (ls2 := [(0, RR a0), (1, RR a1), (2, II v2), (3, II (if r28 = 0 then 0 else 1)), (4, II ((60 - (u29 a0 0)) / (u29 a1 1))), (5, II r43), (6, II r48)]) dX1_step_59 rfl (by decide) rfl ?_
      refine V_aload_n 0 rfl dX1_step_61 rfl ?_
      refine V_dup rfl dX1_step_62 rfl ?_
      refine gX1_40 rfl ha0.k dX1_step_63 rfl ?_
      refine V_iconst dX1_step_66 rfl ?_
      refine V_iadd dX1_step_67 rfl ?_
      refine pX1_40 rfl ha0.k dX1_step_68 rfl (fun u51 e52 => ?_)
      have h := h u51 e52
      refine V_iload_n 3 rfl dX1_step_71 rfl ?_
      refine V_if_ne (by split <;> exact iL rfl) dX1_step_72 (g := 90) rfl rfl ⟨fun hc => ?_, fun hc => ?_⟩
      · have h := h.1 hc
        refine V_iconst dX1_step_90 rfl ?_
        refine V_goto (g := 95) dX1_step_91 rfl ?_
        exact V_iret dX1_step_95 (Or.inr ⟨rfl, by decide⟩) h
      · have h := h.2 hc
        refine V_iload 4 rfl dX1_step_75 rfl ?_
        obtain ⟨q53, h⟩ := h
        refine V_if_ne q53 dX1_step_77 (g := 90) rfl rfl ⟨fun hc => ?_, fun hc => ?_⟩
        · have h := h.1 hc
          refine V_iconst dX1_step_90 rfl ?_
          refine V_goto (g := 95) dX1_step_91 rfl ?_
          exact V_iret dX1_step_95 (Or.inr ⟨rfl, by decide⟩) h
        · have h := h.2 hc
          refine V_iload 5 rfl dX1_step_80 rfl ?_
          obtain ⟨q54, h⟩ := h
          refine V_if_ne q54 dX1_step_82 (g := 90) rfl rfl ⟨fun hc => ?_, fun hc => ?_⟩
          · have h := h.1 hc
            refine V_iconst dX1_step_90 rfl ?_
            refine V_goto (g := 95) dX1_step_91 rfl ?_
            exact V_iret dX1_step_95 (Or.inr ⟨rfl, by decide⟩) h
          · have h := h.2 hc
            refine V_iload 6 rfl dX1_step_85 rfl ?_
            obtain ⟨q55, h⟩ := h
            have hj60 : V G mX1_step 95 [(0, RR a0), (1, RR a1), (2, II v2), (3, II (if r28 = 0 then 0 else 1)), (4, II ((60 - (u29 a0 0)) / (u29 a1 1))), (5, II r43), (6, II r48)] [II (if r48 = 0 then 0 else 1)] u51 Q := by
              exact V_iret dX1_step_95 (Or.inr ⟨rfl, by split <;> simp⟩) h
            refine V_if_eq q55 dX1_step_87 (g := 94) rfl rfl ⟨fun hc => ?_, fun hc => ?_⟩
            · skip
              refine V_iconst dX1_step_94 rfl ?_
              rw [if_pos hc] at hj60
              exact hj60
            · skip
              refine V_iconst dX1_step_90 rfl ?_
              refine V_goto (g := 95) dX1_step_91 rfl ?_
              rw [if_neg hc] at hj60
              exact hj60
    refine V_if_eq q31 dX1_step_12 (g := 19) rfl rfl ⟨fun hc => ?_, fun hc => ?_⟩
    · skip
      refine V_iconst dX1_step_19 rfl ?_
      rw [if_pos hc] at hj36
      exact hj36
    · skip
      refine V_iconst dX1_step_15 rfl ?_
      refine V_goto (g := 20) dX1_step_16 rfl ?_
      rw [if_neg hc] at hj36
      exact hj36
theorem eX1_anySwollen {G : GG} {Q : Int → Mem → Prop} {t : Mem} {a0 a1 : Nat} (k : V G mX1_anySwollen 0 [(0, RR a0), (1, RR a1)] [] t Q) : Ex G mX1_anySwollen [RR a0, RR a1] t Q := Ex.of plX1 (Or.inr (Or.inr rfl)) (Nat.le_of_ble_eq_true rfl) rfl k
set_option maxRecDepth 100000 in
theorem sgX1_anySwollen_0 {G : GG} {Q : Int → Mem → Prop} {t : Mem} {a0 a1 : Nat} (ha0 : IsMom a0) (ha1 : IsCamp a1) (h : V G mX1_anySwollen 2 [(0, RR a0), (1, RR a1), (2, II 0)] [] t Q) : V G mX1_anySwollen 0 [(0, RR a0), (1, RR a1)] [] t Q := by
  refine V_iconst dX1_anySwollen_0 rfl ?_
  refine V_istore_n (ls2 := [(0, RR a0), (1, RR a1), (2, II 0)]) dX1_anySwollen_1 rfl (by decide) rfl ?_
  exact h
set_option maxRecDepth 100000 in
theorem sgX1_anySwollen_2 {G : GG} {Q : Int → Mem → Prop} {t : Mem} {a0 a1 : Nat} {v2 : Int} (ha0 : IsMom a0) (ha1 : IsCamp a1) (h : In32 v2 ∧ In32 (t a1 7) ∧ ((t a1 7) ≤ v2 → Q 0 t) ∧ (¬ (t a1 7) ≤ v2 → (0 ≤ v2 ∧ v2 < 7) ∧ In32 (t (a0 + 3) v2.toNat) ∧ ((t (a0 + 3) v2.toNat) ≤ 0 → V G mX1_anySwollen 2 [(0, RR a0), (1, RR a1), (2, II (v2 + 1))] [] t Q) ∧ (¬ (t (a0 + 3) v2.toNat) ≤ 0 → Q 1 t))) : V G mX1_anySwollen 2 [(0, RR a0), (1, RR a1), (2, II v2)] [] t Q := by
  refine V_iload_n 2 rfl dX1_anySwollen_2 rfl ?_
  refine V_aload_n 1 rfl dX1_anySwollen_3 rfl ?_
  refine gX1_64 rfl ha1.k dX1_anySwollen_4 rfl ?_
  obtain ⟨q1, h⟩ := h
  obtain ⟨q2, h⟩ := h
  refine V_icmp_ge q1 q2 dX1_anySwollen_7 (g := 27) rfl rfl ⟨fun hc => ?_, fun hc => ?_⟩
  · have h := h.1 hc
    refine V_iconst dX1_anySwollen_27 rfl ?_
    exact V_iret dX1_anySwollen_28 (Or.inr ⟨rfl, by decide⟩) h
  · have h := h.2 hc
    refine V_aload_n 0 rfl dX1_anySwollen_10 rfl ?_
    refine gX1_25 rfl ha0.k ha0.r8 dX1_anySwollen_11 rfl ?_
    refine V_iload_n 2 rfl dX1_anySwollen_14 rfl ?_
    obtain ⟨q3, h⟩ := h
    refine V_ialdn ha0.k3 ha0.i3 q3 dX1_anySwollen_15 rfl ?_
    obtain ⟨q4, h⟩ := h
    refine V_if_le q4 dX1_anySwollen_16 (g := 21) rfl rfl ⟨fun hc => ?_, fun hc => ?_⟩
    · have h := h.1 hc
      refine V_iinc 2 rfl (ls2 := [(0, RR a0), (1, RR a1), (2, II (v2 + 1))]) dX1_anySwollen_21 rfl (by decide) rfl ?_
      refine V_goto (g := 2) dX1_anySwollen_24 rfl ?_
      exact h
    · have h := h.2 hc
      refine V_iconst dX1_anySwollen_19 rfl ?_
      exact V_iret dX1_anySwollen_20 (Or.inr ⟨rfl, by decide⟩) h
theorem eX1_drawBucket {G : GG} {Q : Int → Mem → Prop} {t : Mem} {a0 a1 : Nat} (k : V G mX1_drawBucket 0 [(0, RR a0), (1, RR a1)] [] t Q) : Ex G mX1_drawBucket [RR a0, RR a1] t Q := Ex.of plX1 (Or.inr (Or.inl rfl)) (Nat.le_of_ble_eq_true rfl) rfl k
set_option maxRecDepth 100000 in
theorem sgX1_drawBucket_0 {G : GG} {Q : Int → Mem → Prop} {t : Mem} {a0 a1 : Nat} (ha0 : IsMom a0) (ha1 : IsCamp a1) (h : In32 (t a0 3) ∧ ((t a0 3) ≤ 0 → In32 (t a0 0) ∧ In32 (t a1 4) ∧ ((t a1 4) ≤ (t a0 0) → In32 (t a1 6) ∧ (¬ (t a1 6) = (-4) → In32 ((t a0 0) - (t a1 0)) ∧ In32 (24 - (t a0 1)) ∧ In32 (t a1 2) ∧ ((min (t a1 2) (min (max 0 ((t a0 0) - (t a1 0))) (24 - (t a0 1)))) = 0 → Q (min (t a1 2) (min (max 0 ((t a0 0) - (t a1 0))) (24 - (t a0 1)))) t) ∧ (¬ (min (t a1 2) (min (max 0 ((t a0 0) - (t a1 0))) (24 - (t a0 1)))) = 0 → ∀ u8 : Mem, u8 = wr t a0 0 ((t a0 0) - (min (t a1 2) (min (max 0 ((t a0 0) - (t a1 0))) (24 - (t a0 1))))) → ∀ u10 : Mem, u10 = wr u8 a0 1 ((u8 a0 1) + (min (t a1 2) (min (max 0 ((t a0 0) - (t a1 0))) (24 - (t a0 1))))) → ∀ u12 : Mem, u12 = wr u10 a0 2 ((u10 a0 2) + 1) → ∃ P14 : Int → Mem → Prop, Ex G mX0_lacks [RR a1, II (u12 a1 6)] u12 P14 ∧ ∀ (r16 : Int) (u17 : Mem), P14 r16 u17 → In32 r16 ∧ (¬ r16 = 0 → Q (min (t a1 2) (min (max 0 ((t a0 0) - (t a1 0))) (24 - (t a0 1)))) u17) ∧ (r16 = 0 → (0 ≤ u17 a1 6 ∧ u17 a1 6 < 7) ∧ ∀ u21 : Mem, u21 = wr u17 (a0 + 2) (u17 a1 6).toNat ((u17 (a0 + 2) (u17 a1 6).toNat) + 1) → Q (min (t a1 2) (min (max 0 ((t a0 0) - (t a1 0))) (24 - (t a0 1)))) u21))) ∧ ((t a1 6) = (-4) → ((0 : Int) ≤ (t a1 2) ∧ In32 (t a1 2)) ∧ In32 ((t a0 0) - (t a1 0)) ∧ In32 (24 - (t a0 1)) ∧ In32 ((t a1 2) / 2) ∧ ((min ((t a1 2) / 2) (min (max 0 ((t a0 0) - (t a1 0))) (24 - (t a0 1)))) = 0 → Q (min ((t a1 2) / 2) (min (max 0 ((t a0 0) - (t a1 0))) (24 - (t a0 1)))) t) ∧ (¬ (min ((t a1 2) / 2) (min (max 0 ((t a0 0) - (t a1 0))) (24 - (t a0 1)))) = 0 → ∀ u27 : Mem, u27 = wr t a0 0 ((t a0 0) - (min ((t a1 2) / 2) (min (max 0 ((t a0 0) - (t a1 0))) (24 - (t a0 1))))) → ∀ u29 : Mem, u29 = wr u27 a0 1 ((u27 a0 1) + (min ((t a1 2) / 2) (min (max 0 ((t a0 0) - (t a1 0))) (24 - (t a0 1))))) → ∀ u31 : Mem, u31 = wr u29 a0 2 ((u29 a0 2) + 1) → ∃ P33 : Int → Mem → Prop, Ex G mX0_lacks [RR a1, II (u31 a1 6)] u31 P33 ∧ ∀ (r35 : Int) (u36 : Mem), P33 r35 u36 → In32 r35 ∧ (¬ r35 = 0 → Q (min ((t a1 2) / 2) (min (max 0 ((t a0 0) - (t a1 0))) (24 - (t a0 1)))) u36) ∧ (r35 = 0 → (0 ≤ u36 a1 6 ∧ u36 a1 6 < 7) ∧ ∀ u40 : Mem, u40 = wr u36 (a0 + 2) (u36 a1 6).toNat ((u36 (a0 + 2) (u36 a1 6).toNat) + 1) → Q (min ((t a1 2) / 2) (min (max 0 ((t a0 0) - (t a1 0))) (24 - (t a0 1)))) u40)))) ∧ (¬ (t a1 4) ≤ (t a0 0) → Q 0 t)) ∧ (¬ (t a0 3) ≤ 0 → ∀ u42 : Mem, u42 = wr t a0 3 ((t a0 3) - 1) → Q 0 u42)) : V G mX1_drawBucket 0 [(0, RR a0), (1, RR a1)] [] t Q := by
  refine V_aload_n 0 rfl dX1_drawBucket_0 rfl ?_
  refine gX1_37 rfl ha0.k dX1_drawBucket_1 rfl ?_
  obtain ⟨q1, h⟩ := h
  refine V_if_le q1 dX1_drawBucket_4 (g := 19) rfl rfl ⟨fun hc => ?_, fun hc => ?_⟩
  · have h := h.1 hc
    refine V_aload_n 0 rfl dX1_drawBucket_19 rfl ?_
    refine gX1_9 rfl ha0.k dX1_drawBucket_20 rfl ?_
    refine V_aload_n 1 rfl dX1_drawBucket_23 rfl ?_
    refine gX1_91 rfl ha1.k dX1_drawBucket_24 rfl ?_
    obtain ⟨q2, h⟩ := h
    obtain ⟨q3, h⟩ := h
    refine V_icmp_ge q2 q3 dX1_drawBucket_27 (g := 32) rfl rfl ⟨fun hc => ?_, fun hc => ?_⟩
    · have h := h.1 hc
      refine V_aload_n 1 rfl dX1_drawBucket_32 rfl ?_
      refine gX1_74 rfl ha1.k dX1_drawBucket_33 rfl ?_
      refine V_bipush (by decide) dX1_drawBucket_36 rfl ?_
      obtain ⟨q4, h⟩ := h
      refine V_icmp_ne q4 (iL rfl) dX1_drawBucket_38 (g := 50) rfl rfl ⟨fun hc => ?_, fun hc => ?_⟩
      · have h := h.1 hc
        refine V_aload_n 1 rfl dX1_drawBucket_50 rfl ?_
        refine gX1_94 rfl ha1.k dX1_drawBucket_51 rfl ?_
        refine V_istore_n (ls2 := [(0, RR a0), (1, RR a1), (2, II (t a1 2))]) dX1_drawBucket_54 rfl (by decide) rfl ?_
        refine V_iconst dX1_drawBucket_55 rfl ?_
        refine V_aload_n 0 rfl dX1_drawBucket_56 rfl ?_
        refine gX1_9 rfl ha0.k dX1_drawBucket_57 rfl ?_
        refine V_aload_n 1 rfl dX1_drawBucket_60 rfl ?_
        refine gX1_97 rfl ha1.k dX1_drawBucket_61 rfl ?_
        refine V_isub dX1_drawBucket_64 rfl ?_
        obtain ⟨q5, h⟩ := h
        refine V_max mlX1_58 (by decide) (Nat.le_of_ble_eq_true rfl) (iL rfl) q5 dX1_drawBucket_65 rfl ?_
        refine V_istore_n (ls2 := [(0, RR a0), (1, RR a1), (2, II (t a1 2)), (3, II (max 0 ((t a0 0) - (t a1 0))))]) dX1_drawBucket_68 rfl (by decide) rfl ?_
        refine V_iload_n 2 rfl dX1_drawBucket_69 rfl ?_
        refine V_iload_n 3 rfl dX1_drawBucket_70 rfl ?_
        refine V_bipush (by decide) dX1_drawBucket_71 rfl ?_
        refine V_aload_n 0 rfl dX1_drawBucket_73 rfl ?_
        refine gX1_31 rfl ha0.k dX1_drawBucket_74 rfl ?_
        refine V_isub dX1_drawBucket_77 rfl ?_
        obtain ⟨q6, h⟩ := h
        refine V_min mlX1_100 (by decide) (Nat.le_of_ble_eq_true rfl) (mmax_in (iL rfl) q5) q6 dX1_drawBucket_78 rfl ?_
        obtain ⟨q7, h⟩ := h
        refine V_min mlX1_100 (by decide) (Nat.le_of_ble_eq_true rfl) q7 (mmin_in (mmax_in (iL rfl) q5) q6) dX1_drawBucket_81 rfl ?_
        refine V_istore (ls2 := [(0, RR a0), (1, RR a1), (2, II (t a1 2)), (3, II (max 0 ((t a0 0) - (t a1 0)))), (4, II (min (t a1 2) (min (max 0 ((t a0 0) - (t a1 0))) (24 - (t a0 1)))))]) dX1_drawBucket_84 rfl (by decide) rfl ?_
        refine V_iload 4 rfl dX1_drawBucket_86 rfl ?_
        refine V_if_eq (mmin_in q7 (mmin_in (mmax_in (iL rfl) q5) q6)) dX1_drawBucket_88 (g := 147) rfl rfl ⟨fun hc => ?_, fun hc => ?_⟩
        · have h := h.1 hc
          refine V_iload 4 rfl dX1_drawBucket_147 rfl ?_
          exact V_iret dX1_drawBucket_149 (Or.inl rfl) h
        · have h := h.2 hc
          refine V_aload_n 0 rfl dX1_drawBucket_91 rfl ?_
          refine V_dup rfl dX1_drawBucket_92 rfl ?_
          refine gX1_9 rfl ha0.k dX1_drawBucket_93 rfl ?_
          refine V_iload 4 rfl dX1_drawBucket_96 rfl ?_
          refine V_isub dX1_drawBucket_98 rfl ?_
          refine pX1_9 rfl ha0.k dX1_drawBucket_99 rfl (fun u8 e9 => ?_)
          have h := h u8 e9
          refine V_aload_n 0 rfl dX1_drawBucket_102 rfl ?_
          refine V_dup rfl dX1_drawBucket_103 rfl ?_
          refine gX1_31 rfl ha0.k dX1_drawBucket_104 rfl ?_
          refine V_iload 4 rfl dX1_drawBucket_107 rfl ?_
          refine V_iadd dX1_drawBucket_109 rfl ?_
          refine pX1_31 rfl ha0.k dX1_drawBucket_110 rfl (fun u10 e11 => ?_)
          have h := h u10 e11
          refine V_aload_n 0 rfl dX1_drawBucket_113 rfl ?_
          refine V_dup rfl dX1_drawBucket_114 rfl ?_
          refine gX1_34 rfl ha0.k dX1_drawBucket_115 rfl ?_
          refine V_iconst dX1_drawBucket_118 rfl ?_
          refine V_iadd dX1_drawBucket_119 rfl ?_
          refine pX1_34 rfl ha0.k dX1_drawBucket_120 rfl (fun u12 e13 => ?_)
          have h := h u12 e13
          refine V_aload_n 1 rfl dX1_drawBucket_123 rfl ?_
          refine V_aload_n 1 rfl dX1_drawBucket_124 rfl ?_
          refine gX1_74 rfl ha1.k dX1_drawBucket_125 rfl ?_
          obtain ⟨P14, c15, h⟩ := h
          refine V_callVi (st := []) (as := [II (u12 a1 6)]) okX0_lacks rfl mlX1_103 (by decide) ha1.k rfl (Nat.le_of_ble_eq_true rfl) rfl dX1_drawBucket_128 rfl c15 (fun r16 u17 e18 => ?_)
          have h := h r16 u17 e18
          obtain ⟨q19, h⟩ := h
          refine V_if_ne q19 dX1_drawBucket_131 (g := 147) rfl rfl ⟨fun hc => ?_, fun hc => ?_⟩
          · have h := h.1 hc
            refine V_iload 4 rfl dX1_drawBucket_147 rfl ?_
            exact V_iret dX1_drawBucket_149 (Or.inl rfl) h
          · have h := h.2 hc
            refine V_aload_n 0 rfl dX1_drawBucket_134 rfl ?_
            refine gX1_22 rfl ha0.k ha0.r7 dX1_drawBucket_135 rfl ?_
            refine V_aload_n 1 rfl dX1_drawBucket_138 rfl ?_
            refine gX1_74 rfl ha1.k dX1_drawBucket_139 rfl ?_
            refine V_dup2 rfl rfl dX1_drawBucket_142 rfl ?_
            obtain ⟨q20, h⟩ := h
            refine V_ialdn ha0.k2 ha0.i2 q20 dX1_drawBucket_143 rfl ?_
            refine V_iconst dX1_drawBucket_144 rfl ?_
            refine V_iadd dX1_drawBucket_145 rfl ?_
            refine V_iastn ha0.k2 ha0.i2 q20 dX1_drawBucket_146 rfl (fun u21 e22 => ?_)
            have h := h u21 e22
            refine V_iload 4 rfl dX1_drawBucket_147 rfl ?_
            exact V_iret dX1_drawBucket_149 (Or.inl rfl) h
      · have h := h.2 hc
        refine V_aload_n 1 rfl dX1_drawBucket_41 rfl ?_
        refine gX1_94 rfl ha1.k dX1_drawBucket_42 rfl ?_
        refine V_iconst dX1_drawBucket_45 rfl ?_
        obtain ⟨q23, h⟩ := h
        refine V_idiv q23 ⟨by decide, iL rfl⟩ dX1_drawBucket_46 rfl ?_
        refine V_goto (g := 54) dX1_drawBucket_47 rfl ?_
        refine V_istore_n (ls2 := [(0, RR a0), (1, RR a1), (2, II ((t a1 2) / 2))]) dX1_drawBucket_54 rfl (by decide) rfl ?_
        refine V_iconst dX1_drawBucket_55 rfl ?_
        refine V_aload_n 0 rfl dX1_drawBucket_56 rfl ?_
        refine gX1_9 rfl ha0.k dX1_drawBucket_57 rfl ?_
        refine V_aload_n 1 rfl dX1_drawBucket_60 rfl ?_
        refine gX1_97 rfl ha1.k dX1_drawBucket_61 rfl ?_
        refine V_isub dX1_drawBucket_64 rfl ?_
        obtain ⟨q24, h⟩ := h
        refine V_max mlX1_58 (by decide) (Nat.le_of_ble_eq_true rfl) (iL rfl) q24 dX1_drawBucket_65 rfl ?_
        refine V_istore_n (ls2 := [(0, RR a0), (1, RR a1), (2, II ((t a1 2) / 2)), (3, II (max 0 ((t a0 0) - (t a1 0))))]) dX1_drawBucket_68 rfl (by decide) rfl ?_
        refine V_iload_n 2 rfl dX1_drawBucket_69 rfl ?_
        refine V_iload_n 3 rfl dX1_drawBucket_70 rfl ?_
        refine V_bipush (by decide) dX1_drawBucket_71 rfl ?_
        refine V_aload_n 0 rfl dX1_drawBucket_73 rfl ?_
        refine gX1_31 rfl ha0.k dX1_drawBucket_74 rfl ?_
        refine V_isub dX1_drawBucket_77 rfl ?_
        obtain ⟨q25, h⟩ := h
        refine V_min mlX1_100 (by decide) (Nat.le_of_ble_eq_true rfl) (mmax_in (iL rfl) q24) q25 dX1_drawBucket_78 rfl ?_
        obtain ⟨q26, h⟩ := h
        refine V_min mlX1_100 (by decide) (Nat.le_of_ble_eq_true rfl) q26 (mmin_in (mmax_in (iL rfl) q24) q25) dX1_drawBucket_81 rfl ?_
        refine V_istore (ls2 := [(0, RR a0), (1, RR a1), (2, II ((t a1 2) / 2)), (3, II (max 0 ((t a0 0) - (t a1 0)))), (4, II (min ((t a1 2) / 2) (min (max 0 ((t a0 0) - (t a1 0))) (24 - (t a0 1)))))]) dX1_drawBucket_84 rfl (by decide) rfl ?_
        refine V_iload 4 rfl dX1_drawBucket_86 rfl ?_
        refine V_if_eq (mmin_in q26 (mmin_in (mmax_in (iL rfl) q24) q25)) dX1_drawBucket_88 (g := 147) rfl rfl ⟨fun hc => ?_, fun hc => ?_⟩
        · have h := h.1 hc
          refine V_iload 4 rfl dX1_drawBucket_147 rfl ?_
          exact V_iret dX1_drawBucket_149 (Or.inl rfl) h
        · have h := h.2 hc
          refine V_aload_n 0 rfl dX1_drawBucket_91 rfl ?_
          refine V_dup rfl dX1_drawBucket_92 rfl ?_
          refine gX1_9 rfl ha0.k dX1_drawBucket_93 rfl ?_
          refine V_iload 4 rfl dX1_drawBucket_96 rfl ?_
          refine V_isub dX1_drawBucket_98 rfl ?_
          refine pX1_9 rfl ha0.k dX1_drawBucket_99 rfl (fun u27 e28 => ?_)
          have h := h u27 e28
          refine V_aload_n 0 rfl dX1_drawBucket_102 rfl ?_
          refine V_dup rfl dX1_drawBucket_103 rfl ?_
          refine gX1_31 rfl ha0.k dX1_drawBucket_104 rfl ?_
          refine V_iload 4 rfl dX1_drawBucket_107 rfl ?_
          refine V_iadd dX1_drawBucket_109 rfl ?_
          refine pX1_31 rfl ha0.k dX1_drawBucket_110 rfl (fun u29 e30 => ?_)
          have h := h u29 e30
          refine V_aload_n 0 rfl dX1_drawBucket_113 rfl ?_
          refine V_dup rfl dX1_drawBucket_114 rfl ?_
          refine gX1_34 rfl ha0.k dX1_drawBucket_115 rfl ?_
          refine V_iconst dX1_drawBucket_118 rfl ?_
          refine V_iadd dX1_drawBucket_119 rfl ?_
          refine pX1_34 rfl ha0.k dX1_drawBucket_120 rfl (fun u31 e32 => ?_)
          have h := h u31 e32
          refine V_aload_n 1 rfl dX1_drawBucket_123 rfl ?_
          refine V_aload_n 1 rfl dX1_drawBucket_124 rfl ?_
          refine gX1_74 rfl ha1.k dX1_drawBucket_125 rfl ?_
          obtain ⟨P33, c34, h⟩ := h
          refine V_callVi (st := []) (as := [II (u31 a1 6)]) okX0_lacks rfl mlX1_103 (by decide) ha1.k rfl (Nat.le_of_ble_eq_true rfl) rfl dX1_drawBucket_128 rfl c34 (fun r35 u36 e37 => ?_)
          have h := h r35 u36 e37
          obtain ⟨q38, h⟩ := h
          refine V_if_ne q38 dX1_drawBucket_131 (g := 147) rfl rfl ⟨fun hc => ?_, fun hc => ?_⟩
          · have h := h.1 hc
            refine V_iload 4 rfl dX1_drawBucket_147 rfl ?_
            exact V_iret dX1_drawBucket_149 (Or.inl rfl) h
          · have h := h.2 hc
            refine V_aload_n 0 rfl dX1_drawBucket_134 rfl ?_
            refine gX1_22 rfl ha0.k ha0.r7 dX1_drawBucket_135 rfl ?_
            refine V_aload_n 1 rfl dX1_drawBucket_138 rfl ?_
            refine gX1_74 rfl ha1.k dX1_drawBucket_139 rfl ?_
            refine V_dup2 rfl rfl dX1_drawBucket_142 rfl ?_
            obtain ⟨q39, h⟩ := h
            refine V_ialdn ha0.k2 ha0.i2 q39 dX1_drawBucket_143 rfl ?_
            refine V_iconst dX1_drawBucket_144 rfl ?_
            refine V_iadd dX1_drawBucket_145 rfl ?_
            refine V_iastn ha0.k2 ha0.i2 q39 dX1_drawBucket_146 rfl (fun u40 e41 => ?_)
            have h := h u40 e41
            refine V_iload 4 rfl dX1_drawBucket_147 rfl ?_
            exact V_iret dX1_drawBucket_149 (Or.inl rfl) h
    · have h := h.2 hc
      refine V_iconst dX1_drawBucket_30 rfl ?_
      exact V_iret dX1_drawBucket_31 (Or.inl rfl) h
  · have h := h.2 hc
    refine V_aload_n 0 rfl dX1_drawBucket_7 rfl ?_
    refine V_dup rfl dX1_drawBucket_8 rfl ?_
    refine gX1_37 rfl ha0.k dX1_drawBucket_9 rfl ?_
    refine V_iconst dX1_drawBucket_12 rfl ?_
    refine V_isub dX1_drawBucket_13 rfl ?_
    refine pX1_37 rfl ha0.k dX1_drawBucket_14 rfl (fun u42 e43 => ?_)
    have h := h u42 e43
    refine V_iconst dX1_drawBucket_17 rfl ?_
    exact V_iret dX1_drawBucket_18 (Or.inl rfl) h
theorem eX1_waterBeasts {G : GG} {Q : Int → Mem → Prop} {t : Mem} {a0 a1 : Nat} {v2 : Int} (k : V G mX1_waterBeasts 0 [(0, RR a0), (1, RR a1), (2, II v2)] [] t Q) : Ex G mX1_waterBeasts [RR a0, RR a1, II v2] t Q := Ex.of plX1 (Or.inr (Or.inl rfl)) (Nat.le_of_ble_eq_true rfl) rfl k
set_option maxRecDepth 100000 in
theorem sgX1_waterBeasts_0 {G : GG} {Q : Int → Mem → Prop} {t : Mem} {a0 a1 : Nat} {v2 : Int} (ha0 : IsMom a0) (ha1 : IsCamp a1) (h : V G mX1_waterBeasts 11 [(0, RR a0), (1, RR a1), (2, II v2), (3, II (t a1 3)), (4, II 0), (5, II 0)] [] t Q) : V G mX1_waterBeasts 0 [(0, RR a0), (1, RR a1), (2, II v2)] [] t Q := by
  refine V_aload_n 1 rfl dX1_waterBeasts_0 rfl ?_
  refine gX1_107 rfl ha1.k dX1_waterBeasts_1 rfl ?_
  refine V_istore_n (ls2 := [(0, RR a0), (1, RR a1), (2, II v2), (3, II (t a1 3))]) dX1_waterBeasts_4 rfl (by decide) rfl ?_
  refine V_iconst dX1_waterBeasts_5 rfl ?_
  refine V_istore (ls2 := [(0, RR a0), (1, RR a1), (2, II v2), (3, II (t a1 3)), (4, II 0)]) dX1_waterBeasts_6 rfl (by decide) rfl ?_
  refine V_iconst dX1_waterBeasts_8 rfl ?_
  refine V_istore (ls2 := [(0, RR a0), (1, RR a1), (2, II v2), (3, II (t a1 3)), (4, II 0), (5, II 0)]) dX1_waterBeasts_9 rfl (by decide) rfl ?_
  exact h
set_option maxRecDepth 100000 in
theorem sgX1_waterBeasts_11 {G : GG} {Q : Int → Mem → Prop} {t : Mem} {a0 a1 : Nat} {v2 v3 v4 v5 : Int} (ha0 : IsMom a0) (ha1 : IsCamp a1) (h : In32 v5 ∧ In32 (t a1 7) ∧ ((t a1 7) ≤ v5 → Q v4 t) ∧ (¬ (t a1 7) ≤ v5 → (0 ≤ v5 ∧ v5 < 7) ∧ ∃ P4 : Int → Mem → Prop, Ex G mX1_needsYet [RR a0, RR a1, II (t (a1 + 5) v5.toNat)] t P4 ∧ ∀ (r6 : Int) (u7 : Mem), P4 r6 u7 → In32 v3 ∧ (v3 ≤ 0 → V G mX1_waterBeasts 136 [(0, RR a0), (1, RR a1), (2, II v2), (3, II v3), (4, II v4), (5, II v5), (6, II (t (a1 + 5) v5.toNat)), (7, II r6), (8, II 0)] [] u7 Q) ∧ (¬ v3 ≤ 0 → In32 (iAnd (iShr v2 (t (a1 + 5) v5.toNat)) 1) ∧ (¬ (iAnd (iShr v2 (t (a1 + 5) v5.toNat)) 1) = 1 → V G mX1_waterBeasts 136 [(0, RR a0), (1, RR a1), (2, II v2), (3, II v3), (4, II v4), (5, II v5), (6, II (t (a1 + 5) v5.toNat)), (7, II r6), (8, II 0)] [] u7 Q) ∧ ((iAnd (iShr v2 (t (a1 + 5) v5.toNat)) 1) = 1 → In32 (t (a1 + 5) v5.toNat) ∧ In32 (u7 a1 6) ∧ ((t (a1 + 5) v5.toNat) = (u7 a1 6) → V G mX1_waterBeasts 136 [(0, RR a0), (1, RR a1), (2, II v2), (3, II v3), (4, II v4), (5, II v5), (6, II (t (a1 + 5) v5.toNat)), (7, II r6), (8, II 0)] [] u7 Q) ∧ (¬ (t (a1 + 5) v5.toNat) = (u7 a1 6) → (0 ≤ t (a1 + 5) v5.toNat ∧ t (a1 + 5) v5.toNat < 7) ∧ In32 (u7 (a0 + 3) (t (a1 + 5) v5.toNat).toNat) ∧ (¬ (u7 (a0 + 3) (t (a1 + 5) v5.toNat).toNat) = 0 → V G mX1_waterBeasts 136 [(0, RR a0), (1, RR a1), (2, II v2), (3, II v3), (4, II v4), (5, II v5), (6, II (t (a1 + 5) v5.toNat)), (7, II r6), (8, II 0)] [] u7 Q) ∧ ((u7 (a0 + 3) (t (a1 + 5) v5.toNat).toNat) = 0 → In32 r6 ∧ (r6 ≤ 0 → V G mX1_waterBeasts 136 [(0, RR a0), (1, RR a1), (2, II v2), (3, II v3), (4, II v4), (5, II v5), (6, II (t (a1 + 5) v5.toNat)), (7, II r6), (8, II 0)] [] u7 Q) ∧ (¬ r6 ≤ 0 → ∃ P16 : Int → Mem → Prop, Ex G mX5_gulp [II (u7 (a1 + 1) (t (a1 + 5) v5.toNat).toNat)] u7 P16 ∧ ∀ (r18 : Int) (u19 : Mem), P16 r18 u19 → In32 (u19 a0 1) ∧ In32 r18 ∧ ∀ u23 : Mem, u23 = wr u19 (a0 + 1) (t (a1 + 5) v5.toNat).toNat ((u19 (a0 + 1) (t (a1 + 5) v5.toNat).toNat) + (min r18 (min r6 (u19 a0 1)))) → ∀ u25 : Mem, u25 = wr u23 a0 1 ((u23 a0 1) - (min r18 (min r6 (u19 a0 1)))) → V G mX1_waterBeasts 136 [(0, RR a0), (1, RR a1), (2, II v2), (3, II (v3 + (-1))), (4, II (v4 + (min r18 (min r6 (u19 a0 1))))), (5, II v5), (6, II (t (a1 + 5) v5.toNat)), (7, II r6), (8, II (min r18 (min r6 (u19 a0 1))))] [] u25 Q))))))) : V G mX1_waterBeasts 11 [(0, RR a0), (1, RR a1), (2, II v2), (3, II v3), (4, II v4), (5, II v5)] [] t Q := by
  refine V_iload 5 rfl dX1_waterBeasts_11 rfl ?_
  refine V_aload_n 1 rfl dX1_waterBeasts_13 rfl ?_
  refine gX1_64 rfl ha1.k dX1_waterBeasts_14 rfl ?_
  obtain ⟨q1, h⟩ := h
  obtain ⟨q2, h⟩ := h
  refine V_icmp_ge q1 q2 dX1_waterBeasts_17 (g := 157) rfl rfl ⟨fun hc => ?_, fun hc => ?_⟩
  · have h := h.1 hc
    refine V_iload 4 rfl dX1_waterBeasts_157 rfl ?_
    exact V_iret dX1_waterBeasts_159 (Or.inl rfl) h
  · have h := h.2 hc
    refine V_aload_n 1 rfl dX1_waterBeasts_20 rfl ?_
    refine gX1_110 rfl ha1.k ha1.r12 dX1_waterBeasts_21 rfl ?_
    refine V_iload 5 rfl dX1_waterBeasts_24 rfl ?_
    obtain ⟨q3, h⟩ := h
    refine V_ialdn ha1.k5 ha1.i5 q3 dX1_waterBeasts_26 rfl ?_
    refine V_istore (ls2 := [(0, RR a0), (1, RR a1), (2, II v2), (3, II v3), (4, II v4), (5, II v5), (6, II (t (a1 + 5) v5.toNat))]) dX1_waterBeasts_27 rfl (by decide) rfl ?_
    refine V_aload_n 0 rfl dX1_waterBeasts_29 rfl ?_
    refine V_aload_n 1 rfl dX1_waterBeasts_30 rfl ?_
    refine V_iload 6 rfl dX1_waterBeasts_31 rfl ?_
    obtain ⟨P4, c5, h⟩ := h
    refine V_callVi (st := []) (as := [RR a1, II (t (a1 + 5) v5.toNat)]) okX1_needsYet rfl mlX1_67 (by decide) ha0.k rfl (Nat.le_of_ble_eq_true rfl) rfl dX1_waterBeasts_33 rfl c5 (fun r6 u7 e8 => ?_)
    have h := h r6 u7 e8
    refine V_istore (ls2 := [(0, RR a0), (1, RR a1), (2, II v2), (3, II v3), (4, II v4), (5, II v5), (6, II (t (a1 + 5) v5.toNat)), (7, II r6)]) dX1_waterBeasts_36 rfl (by decide) rfl ?_
    refine V_iconst dX1_waterBeasts_38 rfl ?_
    refine V_istore (ls2 := [(0, RR a0), (1, RR a1), (2, II v2), (3, II v3), (4, II v4), (5, II v5), (6, II (t (a1 + 5) v5.toNat)), (7, II r6), (8, II 0)]) dX1_waterBeasts_39 rfl (by decide) rfl ?_
    refine V_iload_n 3 rfl dX1_waterBeasts_41 rfl ?_
    obtain ⟨q9, h⟩ := h
    refine V_if_le q9 dX1_waterBeasts_42 (g := 136) rfl rfl ⟨fun hc => ?_, fun hc => ?_⟩
    · have h := h.1 hc
      exact h
    · have h := h.2 hc
      refine V_iload_n 2 rfl dX1_waterBeasts_45 rfl ?_
      refine V_iload 6 rfl dX1_waterBeasts_46 rfl ?_
      refine V_ishr dX1_waterBeasts_48 rfl ?_
      refine V_iconst dX1_waterBeasts_49 rfl ?_
      refine V_iand dX1_waterBeasts_50 rfl ?_
      refine V_iconst dX1_waterBeasts_51 rfl ?_
      obtain ⟨q10, h⟩ := h
      refine V_icmp_ne q10 (iL rfl) dX1_waterBeasts_52 (g := 136) rfl rfl ⟨fun hc => ?_, fun hc => ?_⟩
      · have h := h.1 hc
        exact h
      · have h := h.2 hc
        refine V_iload 6 rfl dX1_waterBeasts_55 rfl ?_
        refine V_aload_n 1 rfl dX1_waterBeasts_57 rfl ?_
        refine gX1_74 rfl ha1.k dX1_waterBeasts_58 rfl ?_
        obtain ⟨q11, h⟩ := h
        obtain ⟨q12, h⟩ := h
        refine V_icmp_eq q11 q12 dX1_waterBeasts_61 (g := 136) rfl rfl ⟨fun hc => ?_, fun hc => ?_⟩
        · have h := h.1 hc
          exact h
        · have h := h.2 hc
          refine V_aload_n 0 rfl dX1_waterBeasts_64 rfl ?_
          refine gX1_25 rfl ha0.k ha0.r8 dX1_waterBeasts_65 rfl ?_
          refine V_iload 6 rfl dX1_waterBeasts_68 rfl ?_
          obtain ⟨q13, h⟩ := h
          refine V_ialdn ha0.k3 ha0.i3 q13 dX1_waterBeasts_70 rfl ?_
          obtain ⟨q14, h⟩ := h
          refine V_if_ne q14 dX1_waterBeasts_71 (g := 136) rfl rfl ⟨fun hc => ?_, fun hc => ?_⟩
          · have h := h.1 hc
            exact h
          · have h := h.2 hc
            refine V_iload 7 rfl dX1_waterBeasts_74 rfl ?_
            obtain ⟨q15, h⟩ := h
            refine V_if_le q15 dX1_waterBeasts_76 (g := 136) rfl rfl ⟨fun hc => ?_, fun hc => ?_⟩
            · have h := h.1 hc
              exact h
            · have h := h.2 hc
              refine V_iinc 3 rfl (ls2 := [(0, RR a0), (1, RR a1), (2, II v2), (3, II (v3 + (-1))), (4, II v4), (5, II v5), (6, II (t (a1 + 5) v5.toNat)), (7, II r6), (8, II 0)]) dX1_waterBeasts_79 rfl (by decide) rfl ?_
              refine V_aload_n 1 rfl dX1_waterBeasts_82 rfl ?_
              refine gX1_113 rfl ha1.k ha1.r8 dX1_waterBeasts_83 rfl ?_
              refine V_iload 6 rfl dX1_waterBeasts_86 rfl ?_
              refine V_ialdn ha1.k1 ha1.i1 q13 dX1_waterBeasts_88 rfl ?_
              obtain ⟨P16, c17, h⟩ := h
              refine V_callSi (st := []) (as := [II (u7 (a1 + 1) (t (a1 + 5) v5.toNat).toNat)]) okX5_gulp rfl mlX1_116 (by decide) rfl (Nat.le_of_ble_eq_true rfl) rfl dX1_waterBeasts_89 rfl c17 (fun r18 u19 e20 => ?_)
              have h := h r18 u19 e20
              refine V_iload 7 rfl dX1_waterBeasts_92 rfl ?_
              refine V_aload_n 0 rfl dX1_waterBeasts_94 rfl ?_
              refine gX1_31 rfl ha0.k dX1_waterBeasts_95 rfl ?_
              obtain ⟨q21, h⟩ := h
              refine V_min mlX1_100 (by decide) (Nat.le_of_ble_eq_true rfl) q15 q21 dX1_waterBeasts_98 rfl ?_
              obtain ⟨q22, h⟩ := h
              refine V_min mlX1_100 (by decide) (Nat.le_of_ble_eq_true rfl) q22 (mmin_in q15 q21) dX1_waterBeasts_101 rfl ?_
              refine V_istore (ls2 := [(0, RR a0), (1, RR a1), (2, II v2), (3, II (v3 + (-1))), (4, II v4), (5, II v5), (6, II (t (a1 + 5) v5.toNat)), (7, II r6), (8, II (min r18 (min r6 (u19 a0 1))))]) dX1_waterBeasts_104 rfl (by decide) rfl ?_
              refine V_aload_n 0 rfl dX1_waterBeasts_106 rfl ?_
              refine gX1_18 rfl ha0.k ha0.r6 dX1_waterBeasts_107 rfl ?_
              refine V_iload 6 rfl dX1_waterBeasts_110 rfl ?_
              refine V_dup2 rfl rfl dX1_waterBeasts_112 rfl ?_
              refine V_ialdn ha0.k1 ha0.i1 q13 dX1_waterBeasts_113 rfl ?_
              refine V_iload 8 rfl dX1_waterBeasts_114 rfl ?_
              refine V_iadd dX1_waterBeasts_116 rfl ?_
              refine V_iastn ha0.k1 ha0.i1 q13 dX1_waterBeasts_117 rfl (fun u23 e24 => ?_)
              have h := h u23 e24
              refine V_aload_n 0 rfl dX1_waterBeasts_118 rfl ?_
              refine V_dup rfl dX1_waterBeasts_119 rfl ?_
              refine gX1_31 rfl ha0.k dX1_waterBeasts_120 rfl ?_
              refine V_iload 8 rfl dX1_waterBeasts_123 rfl ?_
              refine V_isub dX1_waterBeasts_125 rfl ?_
              refine pX1_31 rfl ha0.k dX1_waterBeasts_126 rfl (fun u25 e26 => ?_)
              have h := h u25 e26
              refine V_iload 4 rfl dX1_waterBeasts_129 rfl ?_
              refine V_iload 8 rfl dX1_waterBeasts_131 rfl ?_
              refine V_iadd dX1_waterBeasts_133 rfl ?_
              refine V_istore (ls2 := [(0, RR a0), (1, RR a1), (2, II v2), (3, II (v3 + (-1))), (4, II (v4 + (min r18 (min r6 (u19 a0 1))))), (5, II v5), (6, II (t (a1 + 5) v5.toNat)), (7, II r6), (8, II (min r18 (min r6 (u19 a0 1))))]) dX1_waterBeasts_134 rfl (by decide) rfl ?_
              exact h
set_option maxRecDepth 100000 in
theorem sgX1_waterBeasts_136 {G : GG} {Q : Int → Mem → Prop} {t : Mem} {a0 a1 : Nat} {v2 v3 v4 v5 v6 v7 v8 : Int} (ha0 : IsMom a0) (ha1 : IsCamp a1) (h : (0 ≤ v6 ∧ v6 < 7) ∧ ∃ P2 : Int → Mem → Prop, Ex G mX1_swell [RR a0, II (t (a1 + 1) v6.toNat), II v6, II v8] t P2 ∧ ∀ u5 : Mem, P2 0 u5 → V G mX1_waterBeasts 11 [(0, RR a0), (1, RR a1), (2, II v2), (3, II v3), (4, II v4), (5, II (v5 + 1))] [] u5 Q) : V G mX1_waterBeasts 136 [(0, RR a0), (1, RR a1), (2, II v2), (3, II v3), (4, II v4), (5, II v5), (6, II v6), (7, II v7), (8, II v8)] [] t Q := by
  refine V_aload_n 0 rfl dX1_waterBeasts_136 rfl ?_
  refine V_aload_n 1 rfl dX1_waterBeasts_137 rfl ?_
  refine gX1_113 rfl ha1.k ha1.r8 dX1_waterBeasts_138 rfl ?_
  refine V_iload 6 rfl dX1_waterBeasts_141 rfl ?_
  obtain ⟨q1, h⟩ := h
  refine V_ialdn ha1.k1 ha1.i1 q1 dX1_waterBeasts_143 rfl ?_
  refine V_iload 6 rfl dX1_waterBeasts_144 rfl ?_
  refine V_iload 8 rfl dX1_waterBeasts_146 rfl ?_
  obtain ⟨P2, c3, h⟩ := h
  refine V_callVv (st := []) (as := [II (t (a1 + 1) v6.toNat), II v6, II v8]) okX1_swell rfl mlX1_120 (by decide) ha0.k rfl (Nat.le_of_ble_eq_true rfl) rfl dX1_waterBeasts_148 rfl c3 (fun u5 e6 => ?_)
  have h := h u5 e6
  refine V_iinc 5 rfl (ls2 := [(0, RR a0), (1, RR a1), (2, II v2), (3, II v3), (4, II v4), (5, II (v5 + 1)), (6, II v6), (7, II v7), (8, II v8)]) dX1_waterBeasts_151 rfl (by decide) rfl ?_
  refine V_goto (g := 11) dX1_waterBeasts_154 rfl ?_
  exact V_sub (by intro q hq; simp only [List.mem_cons, List.not_mem_nil, or_false] at hq ⊢; first | (rcases hq with rfl | rfl | rfl | rfl | rfl | rfl <;> simp)) h
theorem eX1_swell {G : GG} {Q : Int → Mem → Prop} {t : Mem} {a0 : Nat} {v1 v2 v3 : Int} (k : V G mX1_swell 0 [(0, RR a0), (1, II v1), (2, II v2), (3, II v3)] [] t Q) : Ex G mX1_swell [RR a0, II v1, II v2, II v3] t Q := Ex.of plX1 (Or.inl rfl) (Nat.le_of_ble_eq_true rfl) rfl k
set_option maxRecDepth 100000 in
theorem sgX1_swell_0 {G : GG} {Q : Int → Mem → Prop} {t : Mem} {a0 : Nat} {v1 v2 v3 : Int} (ha0 : IsMom a0) (h : (0 ≤ v2 ∧ v2 < 7) ∧ In32 (t (a0 + 3) v2.toNat) ∧ ((t (a0 + 3) v2.toNat) ≤ 0 → In32 v3 ∧ ∀ w4 : Int, w4 = (if v3 ≤ 0 then 0 else (t (a0 + 4) v2.toNat) + v3) → ∀ u9 : Mem, u9 = wr t (a0 + 4) v2.toNat w4 → In32 v1 ∧ (¬ v1 = 3 → Q 0 u9) ∧ (v1 = 3 → In32 (u9 (a0 + 4) v2.toNat) ∧ ((u9 (a0 + 4) v2.toNat) < 12 → Q 0 u9) ∧ (¬ (u9 (a0 + 4) v2.toNat) < 12 → ∀ u13 : Mem, u13 = wr u9 (a0 + 3) v2.toNat 5 → ∀ u15 : Mem, u15 = wr u13 (a0 + 4) v2.toNat 0 → Q 0 u15))) ∧ (¬ (t (a0 + 3) v2.toNat) ≤ 0 → ∀ u17 : Mem, u17 = wr t (a0 + 3) v2.toNat ((t (a0 + 3) v2.toNat) - 1) → In32 v3 ∧ ∀ w20 : Int, w20 = (if v3 ≤ 0 then 0 else (u17 (a0 + 4) v2.toNat) + v3) → ∀ u25 : Mem, u25 = wr u17 (a0 + 4) v2.toNat w20 → In32 v1 ∧ (¬ v1 = 3 → Q 0 u25) ∧ (v1 = 3 → In32 (u25 (a0 + 4) v2.toNat) ∧ ((u25 (a0 + 4) v2.toNat) < 12 → Q 0 u25) ∧ (¬ (u25 (a0 + 4) v2.toNat) < 12 → ∀ u29 : Mem, u29 = wr u25 (a0 + 3) v2.toNat 5 → ∀ u31 : Mem, u31 = wr u29 (a0 + 4) v2.toNat 0 → Q 0 u31)))) : V G mX1_swell 0 [(0, RR a0), (1, II v1), (2, II v2), (3, II v3)] [] t Q := by
  refine V_aload_n 0 rfl dX1_swell_0 rfl ?_
  refine gX1_25 rfl ha0.k ha0.r8 dX1_swell_1 rfl ?_
  refine V_iload_n 2 rfl dX1_swell_4 rfl ?_
  obtain ⟨q1, h⟩ := h
  refine V_ialdn ha0.k3 ha0.i3 q1 dX1_swell_5 rfl ?_
  obtain ⟨q2, h⟩ := h
  refine V_if_le q2 dX1_swell_6 (g := 19) rfl rfl ⟨fun hc => ?_, fun hc => ?_⟩
  · have h := h.1 hc
    refine V_aload_n 0 rfl dX1_swell_19 rfl ?_
    refine gX1_28 rfl ha0.k ha0.r9 dX1_swell_20 rfl ?_
    refine V_iload_n 2 rfl dX1_swell_23 rfl ?_
    refine V_iload_n 3 rfl dX1_swell_24 rfl ?_
    obtain ⟨q3, h⟩ := h
    have hj8 : ∀ w4 : Int, w4 = (if v3 ≤ 0 then 0 else (t (a0 + 4) v2.toNat) + v3) → V G mX1_swell 40 [(0, RR a0), (1, II v1), (2, II v2), (3, II v3)] [II w4, II v2, RR (a0 + 4)] t Q := by
      intro w4 e5
      have h := h w4 e5
      refine V_iastn ha0.k4 ha0.i4 q1 dX1_swell_40 rfl (fun u9 e10 => ?_)
      have h := h u9 e10
      refine V_iload_n 1 rfl dX1_swell_41 rfl ?_
      refine V_iconst dX1_swell_42 rfl ?_
      obtain ⟨q11, h⟩ := h
      refine V_icmp_ne q11 (iL rfl) dX1_swell_43 (g := 71) rfl rfl ⟨fun hc => ?_, fun hc => ?_⟩
      · have h := h.1 hc
        exact V_ret dX1_swell_71 rfl h
      · have h := h.2 hc
        refine V_aload_n 0 rfl dX1_swell_46 rfl ?_
        refine gX1_28 rfl ha0.k ha0.r9 dX1_swell_47 rfl ?_
        refine V_iload_n 2 rfl dX1_swell_50 rfl ?_
        refine V_ialdn ha0.k4 ha0.i4 q1 dX1_swell_51 rfl ?_
        refine V_bipush (by decide) dX1_swell_52 rfl ?_
        obtain ⟨q12, h⟩ := h
        refine V_icmp_lt q12 (iL rfl) dX1_swell_54 (g := 71) rfl rfl ⟨fun hc => ?_, fun hc => ?_⟩
        · have h := h.1 hc
          exact V_ret dX1_swell_71 rfl h
        · have h := h.2 hc
          refine V_aload_n 0 rfl dX1_swell_57 rfl ?_
          refine gX1_25 rfl ha0.k ha0.r8 dX1_swell_58 rfl ?_
          refine V_iload_n 2 rfl dX1_swell_61 rfl ?_
          refine V_iconst dX1_swell_62 rfl ?_
          refine V_iastn ha0.k3 ha0.i3 q1 dX1_swell_63 rfl (fun u13 e14 => ?_)
          have h := h u13 e14
          refine V_aload_n 0 rfl dX1_swell_64 rfl ?_
          refine gX1_28 rfl ha0.k ha0.r9 dX1_swell_65 rfl ?_
          refine V_iload_n 2 rfl dX1_swell_68 rfl ?_
          refine V_iconst dX1_swell_69 rfl ?_
          refine V_iastn ha0.k4 ha0.i4 q1 dX1_swell_70 rfl (fun u15 e16 => ?_)
          have h := h u15 e16
          exact V_ret dX1_swell_71 rfl h
    have hj8 := hj8 _ rfl
    refine V_if_le q3 dX1_swell_25 (g := 39) rfl rfl ⟨fun hc => ?_, fun hc => ?_⟩
    · skip
      refine V_iconst dX1_swell_39 rfl ?_
      rw [if_pos hc] at hj8
      exact hj8
    · skip
      refine V_aload_n 0 rfl dX1_swell_28 rfl ?_
      refine gX1_28 rfl ha0.k ha0.r9 dX1_swell_29 rfl ?_
      refine V_iload_n 2 rfl dX1_swell_32 rfl ?_
      refine V_ialdn ha0.k4 ha0.i4 q1 dX1_swell_33 rfl ?_
      refine V_iload_n 3 rfl dX1_swell_34 rfl ?_
      refine V_iadd dX1_swell_35 rfl ?_
      refine V_goto (g := 40) dX1_swell_36 rfl ?_
      rw [if_neg hc] at hj8
      exact hj8
  · have h := h.2 hc
    refine V_aload_n 0 rfl dX1_swell_9 rfl ?_
    refine gX1_25 rfl ha0.k ha0.r8 dX1_swell_10 rfl ?_
    refine V_iload_n 2 rfl dX1_swell_13 rfl ?_
    refine V_dup2 rfl rfl dX1_swell_14 rfl ?_
    refine V_ialdn ha0.k3 ha0.i3 q1 dX1_swell_15 rfl ?_
    refine V_iconst dX1_swell_16 rfl ?_
    refine V_isub dX1_swell_17 rfl ?_
    refine V_iastn ha0.k3 ha0.i3 q1 dX1_swell_18 rfl (fun u17 e18 => ?_)
    have h := h u17 e18
    refine V_aload_n 0 rfl dX1_swell_19 rfl ?_
    refine gX1_28 rfl ha0.k ha0.r9 dX1_swell_20 rfl ?_
    refine V_iload_n 2 rfl dX1_swell_23 rfl ?_
    refine V_iload_n 3 rfl dX1_swell_24 rfl ?_
    obtain ⟨q19, h⟩ := h
    have hj24 : ∀ w20 : Int, w20 = (if v3 ≤ 0 then 0 else (u17 (a0 + 4) v2.toNat) + v3) → V G mX1_swell 40 [(0, RR a0), (1, II v1), (2, II v2), (3, II v3)] [II w20, II v2, RR (a0 + 4)] u17 Q := by
      intro w20 e21
      have h := h w20 e21
      refine V_iastn ha0.k4 ha0.i4 q1 dX1_swell_40 rfl (fun u25 e26 => ?_)
      have h := h u25 e26
      refine V_iload_n 1 rfl dX1_swell_41 rfl ?_
      refine V_iconst dX1_swell_42 rfl ?_
      obtain ⟨q27, h⟩ := h
      refine V_icmp_ne q27 (iL rfl) dX1_swell_43 (g := 71) rfl rfl ⟨fun hc => ?_, fun hc => ?_⟩
      · have h := h.1 hc
        exact V_ret dX1_swell_71 rfl h
      · have h := h.2 hc
        refine V_aload_n 0 rfl dX1_swell_46 rfl ?_
        refine gX1_28 rfl ha0.k ha0.r9 dX1_swell_47 rfl ?_
        refine V_iload_n 2 rfl dX1_swell_50 rfl ?_
        refine V_ialdn ha0.k4 ha0.i4 q1 dX1_swell_51 rfl ?_
        refine V_bipush (by decide) dX1_swell_52 rfl ?_
        obtain ⟨q28, h⟩ := h
        refine V_icmp_lt q28 (iL rfl) dX1_swell_54 (g := 71) rfl rfl ⟨fun hc => ?_, fun hc => ?_⟩
        · have h := h.1 hc
          exact V_ret dX1_swell_71 rfl h
        · have h := h.2 hc
          refine V_aload_n 0 rfl dX1_swell_57 rfl ?_
          refine gX1_25 rfl ha0.k ha0.r8 dX1_swell_58 rfl ?_
          refine V_iload_n 2 rfl dX1_swell_61 rfl ?_
          refine V_iconst dX1_swell_62 rfl ?_
          refine V_iastn ha0.k3 ha0.i3 q1 dX1_swell_63 rfl (fun u29 e30 => ?_)
          have h := h u29 e30
          refine V_aload_n 0 rfl dX1_swell_64 rfl ?_
          refine gX1_28 rfl ha0.k ha0.r9 dX1_swell_65 rfl ?_
          refine V_iload_n 2 rfl dX1_swell_68 rfl ?_
          refine V_iconst dX1_swell_69 rfl ?_
          refine V_iastn ha0.k4 ha0.i4 q1 dX1_swell_70 rfl (fun u31 e32 => ?_)
          have h := h u31 e32
          exact V_ret dX1_swell_71 rfl h
    have hj24 := hj24 _ rfl
    refine V_if_le q19 dX1_swell_25 (g := 39) rfl rfl ⟨fun hc => ?_, fun hc => ?_⟩
    · skip
      refine V_iconst dX1_swell_39 rfl ?_
      rw [if_pos hc] at hj24
      exact hj24
    · skip
      refine V_aload_n 0 rfl dX1_swell_28 rfl ?_
      refine gX1_28 rfl ha0.k ha0.r9 dX1_swell_29 rfl ?_
      refine V_iload_n 2 rfl dX1_swell_32 rfl ?_
      refine V_ialdn ha0.k4 ha0.i4 q1 dX1_swell_33 rfl ?_
      refine V_iload_n 3 rfl dX1_swell_34 rfl ?_
      refine V_iadd dX1_swell_35 rfl ?_
      refine V_goto (g := 40) dX1_swell_36 rfl ?_
      rw [if_neg hc] at hj24
      exact hj24
theorem eX1_ropeBreaks {G : GG} {Q : Int → Mem → Prop} {t : Mem} {a0 : Nat} (k : V G mX1_ropeBreaks 0 [(0, RR a0)] [] t Q) : Ex G mX1_ropeBreaks [RR a0] t Q := Ex.of plX1 (Or.inr (Or.inr rfl)) (Nat.le_of_ble_eq_true rfl) rfl k
set_option maxRecDepth 100000 in
theorem sgX1_ropeBreaks_0 {G : GG} {Q : Int → Mem → Prop} {t : Mem} {a0 : Nat} (ha0 : IsMom a0) (h : ∀ u1 : Mem, u1 = wr t a0 5 (iAnd (((t a0 5) * 1103515245) + 12345) 2147483647) → ((0 : Int) ≤ (u1 a0 5) ∧ In32 (u1 a0 5)) ∧ ((0 : Int) ≤ ((u1 a0 5) / 65536) ∧ In32 ((u1 a0 5) / 65536)) ∧ ((0 : Int) ≤ (u1 a0 2) ∧ In32 (u1 a0 2)) ∧ In32 (((u1 a0 5) / 65536) % 100) ∧ In32 ((u1 a0 2) / 10) ∧ ((((u1 a0 5) / 65536) % 100) < ((u1 a0 2) / 10) → ∀ u8 : Mem, u8 = wr u1 a0 3 3 → ∀ u10 : Mem, u10 = wr u8 a0 2 0 → Q 1 u10) ∧ (¬ (((u1 a0 5) / 65536) % 100) < ((u1 a0 2) / 10) → Q 0 u1)) : V G mX1_ropeBreaks 0 [(0, RR a0)] [] t Q := by
  refine V_aload_n 0 rfl dX1_ropeBreaks_0 rfl ?_
  refine V_aload_n 0 rfl dX1_ropeBreaks_1 rfl ?_
  refine gX1_15 rfl ha0.k dX1_ropeBreaks_2 rfl ?_
  refine V_ldc (x := 1103515245) ctX1_124 rfl dX1_ropeBreaks_5 rfl ?_
  refine V_imul dX1_ropeBreaks_7 rfl ?_
  refine V_sipush (by decide) dX1_ropeBreaks_8 rfl ?_
  refine V_iadd dX1_ropeBreaks_11 rfl ?_
  refine V_ldc (x := 2147483647) ctX1_125 rfl dX1_ropeBreaks_12 rfl ?_
  refine V_iand dX1_ropeBreaks_14 rfl ?_
  refine pX1_15 rfl ha0.k dX1_ropeBreaks_15 rfl (fun u1 e2 => ?_)
  have h := h u1 e2
  refine V_aload_n 0 rfl dX1_ropeBreaks_18 rfl ?_
  refine gX1_15 rfl ha0.k dX1_ropeBreaks_19 rfl ?_
  refine V_ldc (x := 65536) ctX1_126 rfl dX1_ropeBreaks_22 rfl ?_
  obtain ⟨q3, h⟩ := h
  refine V_idiv q3 ⟨by decide, iL rfl⟩ dX1_ropeBreaks_24 rfl ?_
  refine V_bipush (by decide) dX1_ropeBreaks_25 rfl ?_
  obtain ⟨q4, h⟩ := h
  refine V_irem q4 ⟨by decide, iL rfl⟩ dX1_ropeBreaks_27 rfl ?_
  refine V_aload_n 0 rfl dX1_ropeBreaks_28 rfl ?_
  refine gX1_34 rfl ha0.k dX1_ropeBreaks_29 rfl ?_
  refine V_bipush (by decide) dX1_ropeBreaks_32 rfl ?_
  obtain ⟨q5, h⟩ := h
  refine V_idiv q5 ⟨by decide, iL rfl⟩ dX1_ropeBreaks_34 rfl ?_
  obtain ⟨q6, h⟩ := h
  obtain ⟨q7, h⟩ := h
  refine V_icmp_lt q6 q7 dX1_ropeBreaks_35 (g := 40) rfl rfl ⟨fun hc => ?_, fun hc => ?_⟩
  · have h := h.1 hc
    refine V_aload_n 0 rfl dX1_ropeBreaks_40 rfl ?_
    refine V_iconst dX1_ropeBreaks_41 rfl ?_
    refine pX1_37 rfl ha0.k dX1_ropeBreaks_42 rfl (fun u8 e9 => ?_)
    have h := h u8 e9
    refine V_aload_n 0 rfl dX1_ropeBreaks_45 rfl ?_
    refine V_iconst dX1_ropeBreaks_46 rfl ?_
    refine pX1_34 rfl ha0.k dX1_ropeBreaks_47 rfl (fun u10 e11 => ?_)
    have h := h u10 e11
    refine V_iconst dX1_ropeBreaks_50 rfl ?_
    exact V_iret dX1_ropeBreaks_51 (Or.inr ⟨rfl, by decide⟩) h
  · have h := h.2 hc
    refine V_iconst dX1_ropeBreaks_38 rfl ?_
    exact V_iret dX1_ropeBreaks_39 (Or.inr ⟨rfl, by decide⟩) h
