theorem mmax_in {x y : Int} (h1 : In32 x) (h2 : In32 y) : In32 (max x y) := by rcases Int.le_total x y with h | h; rw [Int.max_eq_right h]; exact h2; rw [Int.max_eq_left h]; exact h1
theorem mmin_in {x y : Int} (h1 : In32 x) (h2 : In32 y) : In32 (min x y) := by rcases Int.le_total x y with h | h; rw [Int.min_eq_left h]; exact h1; rw [Int.min_eq_right h]; exact h2
theorem lCmp_in (x y : Int) : In32 (lCmp x y) := by unfold lCmp; split; exact iL rfl; split <;> exact iL rfl
theorem x32 (x : Int32) : In32 x.toInt := ⟨by have := Int32.le_toInt x; omega, by have := Int32.toInt_lt x; omega⟩
theorem lk_out2 {x a1 o1 a2 o2 d : Int} (h : x ≠ a1 ∧ x ≠ a2) : Op.lookupswitch.offset #[(a1, o1), (a2, o2)].toList d x = d := by
  rw [show (#[(a1, o1), (a2, o2)] : Array (Int × Int)).toList = [(a1, o1), (a2, o2)] from rfl, Op.lookupswitch.offset_cons, if_neg (fun q => h.1 q.symm), Op.lookupswitch.offset_cons, if_neg (fun q => h.2 q.symm)]; rfl
theorem lk_out4 {x a1 o1 a2 o2 a3 o3 a4 o4 d : Int} (h : x ≠ a1 ∧ x ≠ a2 ∧ x ≠ a3 ∧ x ≠ a4) : Op.lookupswitch.offset #[(a1, o1), (a2, o2), (a3, o3), (a4, o4)].toList d x = d := by
  rw [show (#[(a1, o1), (a2, o2), (a3, o3), (a4, o4)] : Array (Int × Int)).toList = [(a1, o1), (a2, o2), (a3, o3), (a4, o4)] from rfl, Op.lookupswitch.offset_cons, if_neg (fun q => h.1 q.symm), Op.lookupswitch.offset_cons, if_neg (fun q => h.2.1 q.symm), Op.lookupswitch.offset_cons, if_neg (fun q => h.2.2.1 q.symm), Op.lookupswitch.offset_cons, if_neg (fun q => h.2.2.2 q.symm)]; rfl
/-- the plain end of a method: an answer, a memory -/
def Ret (v : Int) (t : Mem) : Int → Mem → Prop := fun r u => r = v ∧ u = t
theorem plX0 : plainName RX0 = true := by decide
theorem plX1 : plainName RX1 = true := by decide
theorem plX2 : plainName RX2 = true := by decide
theorem plX3 : plainName RX3 = true := by decide
theorem plX4 : plainName RX4 = true := by decide
theorem plX5 : plainName RX5 = true := by decide
theorem plX6 : plainName RX6 = true := by decide
theorem plJ6 : plainName RJ6 = true := by decide

theorem eX0_takeFrom {G : GG} {Q : Int → Mem → Prop} {t : Mem} {a0 a1 : Nat} (k : V G mX0_takeFrom 0 [(0, RR a0), (1, RR a1)] [] t Q) : Ex G mX0_takeFrom [RR a0, RR a1] t Q := Ex.of plX0 (Or.inl rfl) (Nat.le_of_ble_eq_true rfl) rfl k
set_option maxRecDepth 100000 in
theorem sgX0_takeFrom_0 {G : GG} {Q : Int → Mem → Prop} {t : Mem} {a0 a1 : Nat} (ha0 : IsCamp a0) (ha1 : IsCamp a1) (h : ∀ u1 : Mem, u1 = wr t a0 0 (t a1 0) → ∀ u3 : Mem, u3 = wr u1 a0 1 (u1 a1 1) → ∀ u5 : Mem, u5 = wr u3 a0 2 (u3 a1 2) → ∀ u7 : Mem, u7 = wr u5 a0 3 (u5 a1 3) → ∀ u9 : Mem, u9 = wr u7 a0 4 (u7 a1 4) → ∀ u11 : Mem, u11 = wr u9 a0 5 (u9 a1 5) → ∀ u13 : Mem, u13 = wr u11 a0 6 (u11 a1 6) → ∀ u15 : Mem, u15 = wr u13 a0 7 (u13 a1 7) → ∀ u17 : Mem, u17 = cpy u15 (a1 + 1) 0 (a0 + 1) 0 7 → ∀ u19 : Mem, u19 = cpy u17 (a1 + 2) 0 (a0 + 2) 0 7 → ∀ u21 : Mem, u21 = cpy u19 (a1 + 3) 0 (a0 + 3) 0 7 → ∀ u23 : Mem, u23 = cpy u21 (a1 + 4) 0 (a0 + 4) 0 7 → Q 0 u23) : V G mX0_takeFrom 0 [(0, RR a0), (1, RR a1)] [] t Q := by
  refine V_aload_n 0 rfl dX0_takeFrom_0 rfl ?_
  refine V_aload_n 1 rfl dX0_takeFrom_1 rfl ?_
  refine gX0_9 rfl ha1.k dX0_takeFrom_2 rfl ?_
  refine pX0_9 rfl ha0.k dX0_takeFrom_5 rfl (fun u1 e2 => ?_)
  have h := h u1 e2
  refine V_aload_n 0 rfl dX0_takeFrom_8 rfl ?_
  refine V_aload_n 1 rfl dX0_takeFrom_9 rfl ?_
  refine gX0_15 rfl ha1.k dX0_takeFrom_10 rfl ?_
  refine pX0_15 rfl ha0.k dX0_takeFrom_13 rfl (fun u3 e4 => ?_)
  have h := h u3 e4
  refine V_aload_n 0 rfl dX0_takeFrom_16 rfl ?_
  refine V_aload_n 1 rfl dX0_takeFrom_17 rfl ?_
  refine gX0_18 rfl ha1.k dX0_takeFrom_18 rfl ?_
  refine pX0_18 rfl ha0.k dX0_takeFrom_21 rfl (fun u5 e6 => ?_)
  have h := h u5 e6
  refine V_aload_n 0 rfl dX0_takeFrom_24 rfl ?_
  refine V_aload_n 1 rfl dX0_takeFrom_25 rfl ?_
  refine gX0_21 rfl ha1.k dX0_takeFrom_26 rfl ?_
  refine pX0_21 rfl ha0.k dX0_takeFrom_29 rfl (fun u7 e8 => ?_)
  have h := h u7 e8
  refine V_aload_n 0 rfl dX0_takeFrom_32 rfl ?_
  refine V_aload_n 1 rfl dX0_takeFrom_33 rfl ?_
  refine gX0_43 rfl ha1.k dX0_takeFrom_34 rfl ?_
  refine pX0_43 rfl ha0.k dX0_takeFrom_37 rfl (fun u9 e10 => ?_)
  have h := h u9 e10
  refine V_aload_n 0 rfl dX0_takeFrom_40 rfl ?_
  refine V_aload_n 1 rfl dX0_takeFrom_41 rfl ?_
  refine gX0_46 rfl ha1.k dX0_takeFrom_42 rfl ?_
  refine pX0_46 rfl ha0.k dX0_takeFrom_45 rfl (fun u11 e12 => ?_)
  have h := h u11 e12
  refine V_aload_n 0 rfl dX0_takeFrom_48 rfl ?_
  refine V_aload_n 1 rfl dX0_takeFrom_49 rfl ?_
  refine gX0_24 rfl ha1.k dX0_takeFrom_50 rfl ?_
  refine pX0_24 rfl ha0.k dX0_takeFrom_53 rfl (fun u13 e14 => ?_)
  have h := h u13 e14
  refine V_aload_n 0 rfl dX0_takeFrom_56 rfl ?_
  refine V_aload_n 1 rfl dX0_takeFrom_57 rfl ?_
  refine gX0_49 rfl ha1.k dX0_takeFrom_58 rfl ?_
  refine pX0_49 rfl ha0.k dX0_takeFrom_61 rfl (fun u15 e16 => ?_)
  have h := h u15 e16
  refine V_aload_n 1 rfl dX0_takeFrom_64 rfl ?_
  refine gX0_27 rfl ha1.k ha1.r8 dX0_takeFrom_65 rfl ?_
  refine V_iconst dX0_takeFrom_68 rfl ?_
  refine V_aload_n 0 rfl dX0_takeFrom_69 rfl ?_
  refine gX0_27 rfl ha0.k ha0.r8 dX0_takeFrom_70 rfl ?_
  refine V_iconst dX0_takeFrom_73 rfl ?_
  refine V_bipush (by decide) dX0_takeFrom_74 rfl ?_
  refine V_copyIn mlX0_52 (by decide) (Nat.le_of_ble_eq_true rfl) ha1.k1 ha0.k1 ha1.i1 ha0.i1 (by decide) dX0_takeFrom_76 rfl (fun u17 e18 => ?_)
  have h := h u17 e18
  refine V_aload_n 1 rfl dX0_takeFrom_79 rfl ?_
  refine gX0_31 rfl ha1.k ha1.r9 dX0_takeFrom_80 rfl ?_
  refine V_iconst dX0_takeFrom_83 rfl ?_
  refine V_aload_n 0 rfl dX0_takeFrom_84 rfl ?_
  refine gX0_31 rfl ha0.k ha0.r9 dX0_takeFrom_85 rfl ?_
  refine V_iconst dX0_takeFrom_88 rfl ?_
  refine V_bipush (by decide) dX0_takeFrom_89 rfl ?_
  refine V_copyIn mlX0_52 (by decide) (Nat.le_of_ble_eq_true rfl) ha1.k2 ha0.k2 ha1.i2 ha0.i2 (by decide) dX0_takeFrom_91 rfl (fun u19 e20 => ?_)
  have h := h u19 e20
  refine V_aload_n 1 rfl dX0_takeFrom_94 rfl ?_
  refine gX0_34 rfl ha1.k ha1.r10 dX0_takeFrom_95 rfl ?_
  refine V_iconst dX0_takeFrom_98 rfl ?_
  refine V_aload_n 0 rfl dX0_takeFrom_99 rfl ?_
  refine gX0_34 rfl ha0.k ha0.r10 dX0_takeFrom_100 rfl ?_
  refine V_iconst dX0_takeFrom_103 rfl ?_
  refine V_bipush (by decide) dX0_takeFrom_104 rfl ?_
  refine V_copyIn mlX0_52 (by decide) (Nat.le_of_ble_eq_true rfl) ha1.k3 ha0.k3 ha1.i3 ha0.i3 (by decide) dX0_takeFrom_106 rfl (fun u21 e22 => ?_)
  have h := h u21 e22
  refine V_aload_n 1 rfl dX0_takeFrom_109 rfl ?_
  refine gX0_37 rfl ha1.k ha1.r11 dX0_takeFrom_110 rfl ?_
  refine V_iconst dX0_takeFrom_113 rfl ?_
  refine V_aload_n 0 rfl dX0_takeFrom_114 rfl ?_
  refine gX0_37 rfl ha0.k ha0.r11 dX0_takeFrom_115 rfl ?_
  refine V_iconst dX0_takeFrom_118 rfl ?_
  refine V_bipush (by decide) dX0_takeFrom_119 rfl ?_
  refine V_copyIn mlX0_52 (by decide) (Nat.le_of_ble_eq_true rfl) ha1.k4 ha0.k4 ha1.i4 ha0.i4 (by decide) dX0_takeFrom_121 rfl (fun u23 e24 => ?_)
  have h := h u23 e24
  exact V_ret dX0_takeFrom_124 rfl h
theorem eX0_lacks {G : GG} {Q : Int → Mem → Prop} {t : Mem} {a0 : Nat} {v1 : Int} (k : V G mX0_lacks 0 [(0, RR a0), (1, II v1)] [] t Q) : Ex G mX0_lacks [RR a0, II v1] t Q := Ex.of plX0 (Or.inr (Or.inr rfl)) (Nat.le_of_ble_eq_true rfl) rfl k
set_option maxRecDepth 100000 in
theorem sgX0_lacks_0 {G : GG} {Q : Int → Mem → Prop} {t : Mem} {a0 : Nat} {v1 : Int} (ha0 : IsCamp a0) (h : In32 v1 ∧ (v1 < 0 → Q 1 t) ∧ (¬ v1 < 0 → In32 (t a0 7) ∧ Q (if v1 < (t a0 7) then 0 else 1) t)) : V G mX0_lacks 0 [(0, RR a0), (1, II v1)] [] t Q := by
  refine V_iload_n 1 rfl dX0_lacks_0 rfl ?_
  obtain ⟨q1, h⟩ := h
  refine V_if_lt q1 dX0_lacks_1 (g := 12) rfl rfl ⟨fun hc => ?_, fun hc => ?_⟩
  · have h := h.1 hc
    refine V_iconst dX0_lacks_12 rfl ?_
    refine V_goto (g := 17) dX0_lacks_13 rfl ?_
    exact V_iret dX0_lacks_17 (Or.inr ⟨rfl, by decide⟩) h
  · have h := h.2 hc
    refine V_iload_n 1 rfl dX0_lacks_4 rfl ?_
    refine V_aload_n 0 rfl dX0_lacks_5 rfl ?_
    refine gX0_49 rfl ha0.k dX0_lacks_6 rfl ?_
    obtain ⟨q2, h⟩ := h
    have hj7 : V G mX0_lacks 17 [(0, RR a0), (1, II v1)] [II (if v1 < (t a0 7) then 0 else 1)] t Q := by
      exact V_iret dX0_lacks_17 (Or.inr ⟨rfl, by split <;> simp⟩) h
    refine V_icmp_lt q1 q2 dX0_lacks_9 (g := 16) rfl rfl ⟨fun hc => ?_, fun hc => ?_⟩
    · skip
      refine V_iconst dX0_lacks_16 rfl ?_
      rw [if_pos hc] at hj7
      exact hj7
    · skip
      refine V_iconst dX0_lacks_12 rfl ?_
      refine V_goto (g := 17) dX0_lacks_13 rfl ?_
      rw [if_neg hc] at hj7
      exact hj7
theorem eX0_add {G : GG} {Q : Int → Mem → Prop} {t : Mem} {a0 : Nat} {v1 v2 v3 : Int} (k : V G mX0_add 0 [(0, RR a0), (1, II v1), (2, II v2), (3, II v3)] [] t Q) : Ex G mX0_add [RR a0, II v1, II v2, II v3] t Q := Ex.of plX0 (Or.inl rfl) (Nat.le_of_ble_eq_true rfl) rfl k
set_option maxRecDepth 100000 in
theorem sgX0_add_0 {G : GG} {Q : Int → Mem → Prop} {t : Mem} {a0 : Nat} {v1 v2 v3 : Int} (ha0 : IsCamp a0) (h : In32 (t a0 7) ∧ (7 ≤ (t a0 7) → Q 0 t) ∧ (¬ 7 ≤ (t a0 7) → (0 ≤ t a0 7 ∧ t a0 7 < 7) ∧ ∀ u2 : Mem, u2 = wr t (a0 + 1) (t a0 7).toNat v1 → (0 ≤ u2 a0 7 ∧ u2 a0 7 < 7) ∧ ∀ u5 : Mem, u5 = wr u2 (a0 + 2) (u2 a0 7).toNat v2 → (0 ≤ u5 a0 7 ∧ u5 a0 7 < 7) ∧ ∀ u8 : Mem, u8 = wr u5 (a0 + 3) (u5 a0 7).toNat v3 → ∃ P11 : Int → Mem → Prop, Ex G mX5_milky [II v1] u8 P11 ∧ ∀ (r13 : Int) (u14 : Mem), P11 r13 u14 → In32 r13 ∧ (0 ≤ u8 a0 7 ∧ u8 a0 7 < 7) ∧ ∀ u22 : Mem, u22 = wr u14 (a0 + 4) (u8 a0 7).toNat ((3 * v2) + (if r13 = 0 then 0 else 5)) → ∀ u25 : Mem, u25 = wr u22 a0 7 ((u22 a0 7) + 1) → Q 0 u25)) : V G mX0_add 0 [(0, RR a0), (1, II v1), (2, II v2), (3, II v3)] [] t Q := by
  refine V_aload_n 0 rfl dX0_add_0 rfl ?_
  refine gX0_49 rfl ha0.k dX0_add_1 rfl ?_
  refine V_bipush (by decide) dX0_add_4 rfl ?_
  obtain ⟨q1, h⟩ := h
  refine V_icmp_ge q1 (iL rfl) dX0_add_6 (g := 74) rfl rfl ⟨fun hc => ?_, fun hc => ?_⟩
  · have h := h.1 hc
    exact V_ret dX0_add_74 rfl h
  · have h := h.2 hc
    refine V_aload_n 0 rfl dX0_add_9 rfl ?_
    refine gX0_27 rfl ha0.k ha0.r8 dX0_add_10 rfl ?_
    refine V_aload_n 0 rfl dX0_add_13 rfl ?_
    refine gX0_49 rfl ha0.k dX0_add_14 rfl ?_
    refine V_iload_n 1 rfl dX0_add_17 rfl ?_
    obtain ⟨q4, h⟩ := h
    refine V_iastn ha0.k1 ha0.i1 q4 dX0_add_18 rfl (fun u2 e3 => ?_)
    have h := h u2 e3
    refine V_aload_n 0 rfl dX0_add_19 rfl ?_
    refine gX0_31 rfl ha0.k ha0.r9 dX0_add_20 rfl ?_
    refine V_aload_n 0 rfl dX0_add_23 rfl ?_
    refine gX0_49 rfl ha0.k dX0_add_24 rfl ?_
    refine V_iload_n 2 rfl dX0_add_27 rfl ?_
    obtain ⟨q7, h⟩ := h
    refine V_iastn ha0.k2 ha0.i2 q7 dX0_add_28 rfl (fun u5 e6 => ?_)
    have h := h u5 e6
    refine V_aload_n 0 rfl dX0_add_29 rfl ?_
    refine gX0_34 rfl ha0.k ha0.r10 dX0_add_30 rfl ?_
    refine V_aload_n 0 rfl dX0_add_33 rfl ?_
    refine gX0_49 rfl ha0.k dX0_add_34 rfl ?_
    refine V_iload_n 3 rfl dX0_add_37 rfl ?_
    obtain ⟨q10, h⟩ := h
    refine V_iastn ha0.k3 ha0.i3 q10 dX0_add_38 rfl (fun u8 e9 => ?_)
    have h := h u8 e9
    refine V_aload_n 0 rfl dX0_add_39 rfl ?_
    refine gX0_37 rfl ha0.k ha0.r11 dX0_add_40 rfl ?_
    refine V_aload_n 0 rfl dX0_add_43 rfl ?_
    refine gX0_49 rfl ha0.k dX0_add_44 rfl ?_
    refine V_iconst dX0_add_47 rfl ?_
    refine V_iload_n 2 rfl dX0_add_48 rfl ?_
    refine V_imul dX0_add_49 rfl ?_
    refine V_iload_n 1 rfl dX0_add_50 rfl ?_
    obtain ⟨P11, c12, h⟩ := h
    refine V_callSi (st := [II (3 * v2), II (u8 a0 7), RR (a0 + 4)]) (as := [II v1]) okX5_milky rfl mlX0_58 (by decide) rfl (Nat.le_of_ble_eq_true rfl) rfl dX0_add_51 rfl c12 (fun r13 u14 e15 => ?_)
    have h := h r13 u14 e15
    obtain ⟨q16, h⟩ := h
    have hj21 : V G mX0_add 62 [(0, RR a0), (1, II v1), (2, II v2), (3, II v3)] [II (if r13 = 0 then 0 else 5), II (3 * v2), II (u8 a0 7), RR (a0 + 4)] u14 Q := by
      refine V_iadd dX0_add_62 rfl ?_
      obtain ⟨q24, h⟩ := h
      refine V_iastn ha0.k4 ha0.i4 q24 dX0_add_63 rfl (fun u22 e23 => ?_)
      have h := h u22 e23
      refine V_aload_n 0 rfl dX0_add_64 rfl ?_
      refine V_dup rfl dX0_add_65 rfl ?_
      refine gX0_49 rfl ha0.k dX0_add_66 rfl ?_
      refine V_iconst dX0_add_69 rfl ?_
      refine V_iadd dX0_add_70 rfl ?_
      refine pX0_49 rfl ha0.k dX0_add_71 rfl (fun u25 e26 => ?_)
      have h := h u25 e26
      exact V_ret dX0_add_74 rfl h
    refine V_if_eq q16 dX0_add_54 (g := 61) rfl rfl ⟨fun hc => ?_, fun hc => ?_⟩
    · skip
      refine V_iconst dX0_add_61 rfl ?_
      rw [if_pos hc] at hj21
      exact hj21
    · skip
      refine V_iconst dX0_add_57 rfl ?_
      refine V_goto (g := 62) dX0_add_58 rfl ?_
      rw [if_neg hc] at hj21
      exact hj21
theorem eX0_arrange {G : GG} {Q : Int → Mem → Prop} {t : Mem} {a0 : Nat} (k : V G mX0_arrange 0 [(0, RR a0)] [] t Q) : Ex G mX0_arrange [RR a0] t Q := Ex.of plX0 (Or.inl rfl) (Nat.le_of_ble_eq_true rfl) rfl k
set_option maxRecDepth 100000 in
theorem sgX0_arrange_0 {G : GG} {Q : Int → Mem → Prop} {t : Mem} {a0 : Nat} (ha0 : IsCamp a0) (h : ∀ u1 : Mem, u1 = wr t a0 13 0 → In32 (u1 a0 5) ∧ (u1 a0 5 = 1 → ∃ P5 : Int → Mem → Prop, Ex G mX0_lineByDays [RR a0] u1 P5 ∧ ∀ u8 : Mem, P5 0 u8 → Q 0 u8) ∧ (u1 a0 5 = 2 → ∃ P10 : Int → Mem → Prop, Ex G mX0_lineMilky [RR a0, II 1] u1 P10 ∧ ∀ u13 : Mem, P10 0 u13 → ∃ P15 : Int → Mem → Prop, Ex G mX0_lineMilky [RR a0, II 0] u13 P15 ∧ ∀ u18 : Mem, P15 0 u18 → Q 0 u18) ∧ (u1 a0 5 = 3 → ∃ P20 : Int → Mem → Prop, Ex G mX0_lineByTurns [RR a0] u1 P20 ∧ ∀ u23 : Mem, P20 0 u23 → Q 0 u23) ∧ (((u1 a0 5) < 1 ∨ 3 < (u1 a0 5)) → ∃ P25 : Int → Mem → Prop, Ex G mX0_lineAsTheyCome [RR a0] u1 P25 ∧ ∀ u28 : Mem, P25 0 u28 → Q 0 u28)) : V G mX0_arrange 0 [(0, RR a0)] [] t Q := by
  refine V_aload_n 0 rfl dX0_arrange_0 rfl ?_
  refine V_iconst dX0_arrange_1 rfl ?_
  refine pX0_62 rfl ha0.k dX0_arrange_2 rfl (fun u1 e2 => ?_)
  have h := h u1 e2
  refine V_aload_n 0 rfl dX0_arrange_5 rfl ?_
  refine gX0_46 rfl ha0.k dX0_arrange_6 rfl ?_
  obtain ⟨q3, h⟩ := h
  have hs4 : u1 a0 5 = 1 ∨ u1 a0 5 = 2 ∨ u1 a0 5 = 3 ∨ ((u1 a0 5) < 1 ∨ 3 < (u1 a0 5)) := by omega
  rcases hs4 with hc | hc | hc | hc
  · have h := h.1 hc
    refine V_tsIn (i := 0) (g := 36) dX0_arrange_9 hc (by decide) (iL rfl) rfl rfl ?_
    refine V_aload_n 0 rfl dX0_arrange_36 rfl ?_
    obtain ⟨P5, c6, h⟩ := h
    refine V_callVv (st := []) (as := []) okX0_lineByDays rfl mlX0_65 (by decide) ha0.k rfl (Nat.le_of_ble_eq_true rfl) rfl dX0_arrange_37 rfl c6 (fun u8 e9 => ?_)
    have h := h u8 e9
    refine V_goto (g := 67) dX0_arrange_40 rfl ?_
    exact V_ret dX0_arrange_67 rfl h
  · have h := h.2.1 hc
    refine V_tsIn (i := 1) (g := 43) dX0_arrange_9 hc (by decide) (iL rfl) rfl rfl ?_
    refine V_aload_n 0 rfl dX0_arrange_43 rfl ?_
    refine V_iconst dX0_arrange_44 rfl ?_
    obtain ⟨P10, c11, h⟩ := h
    refine V_callVv (st := []) (as := [II 1]) okX0_lineMilky rfl mlX0_68 (by decide) ha0.k rfl (Nat.le_of_ble_eq_true rfl) rfl dX0_arrange_45 rfl c11 (fun u13 e14 => ?_)
    have h := h u13 e14
    refine V_aload_n 0 rfl dX0_arrange_48 rfl ?_
    refine V_iconst dX0_arrange_49 rfl ?_
    obtain ⟨P15, c16, h⟩ := h
    refine V_callVv (st := []) (as := [II 0]) okX0_lineMilky rfl mlX0_68 (by decide) ha0.k rfl (Nat.le_of_ble_eq_true rfl) rfl dX0_arrange_50 rfl c16 (fun u18 e19 => ?_)
    have h := h u18 e19
    refine V_goto (g := 67) dX0_arrange_53 rfl ?_
    exact V_ret dX0_arrange_67 rfl h
  · have h := h.2.2.1 hc
    refine V_tsIn (i := 2) (g := 56) dX0_arrange_9 hc (by decide) (iL rfl) rfl rfl ?_
    refine V_aload_n 0 rfl dX0_arrange_56 rfl ?_
    obtain ⟨P20, c21, h⟩ := h
    refine V_callVv (st := []) (as := []) okX0_lineByTurns rfl mlX0_72 (by decide) ha0.k rfl (Nat.le_of_ble_eq_true rfl) rfl dX0_arrange_57 rfl c21 (fun u23 e24 => ?_)
    have h := h u23 e24
    refine V_goto (g := 67) dX0_arrange_60 rfl ?_
    exact V_ret dX0_arrange_67 rfl h
  · have h := h.2.2.2 hc
    refine V_tsOut (g := 63) dX0_arrange_9 q3 hc rfl ?_
    refine V_aload_n 0 rfl dX0_arrange_63 rfl ?_
    obtain ⟨P25, c26, h⟩ := h
    refine V_callVv (st := []) (as := []) okX0_lineAsTheyCome rfl mlX0_75 (by decide) ha0.k rfl (Nat.le_of_ble_eq_true rfl) rfl dX0_arrange_64 rfl c26 (fun u28 e29 => ?_)
    have h := h u28 e29
    exact V_ret dX0_arrange_67 rfl h
theorem eX0_lineAsTheyCome {G : GG} {Q : Int → Mem → Prop} {t : Mem} {a0 : Nat} (k : V G mX0_lineAsTheyCome 0 [(0, RR a0)] [] t Q) : Ex G mX0_lineAsTheyCome [RR a0] t Q := Ex.of plX0 (Or.inl rfl) (Nat.le_of_ble_eq_true rfl) rfl k
set_option maxRecDepth 100000 in
theorem sgX0_lineAsTheyCome_0 {G : GG} {Q : Int → Mem → Prop} {t : Mem} {a0 : Nat} (ha0 : IsCamp a0) (h : V G mX0_lineAsTheyCome 2 [(0, RR a0), (1, II 0)] [] t Q) : V G mX0_lineAsTheyCome 0 [(0, RR a0)] [] t Q := by
  refine V_iconst dX0_lineAsTheyCome_0 rfl ?_
  refine V_istore_n (ls2 := [(0, RR a0), (1, II 0)]) dX0_lineAsTheyCome_1 rfl (by decide) rfl ?_
  exact h
set_option maxRecDepth 100000 in
theorem sgX0_lineAsTheyCome_2 {G : GG} {Q : Int → Mem → Prop} {t : Mem} {a0 : Nat} {v1 : Int} (ha0 : IsCamp a0) (h : In32 v1 ∧ In32 (t a0 7) ∧ ((t a0 7) ≤ v1 → Q 0 t) ∧ (¬ (t a0 7) ≤ v1 → ∃ P3 : Int → Mem → Prop, Ex G mX0_lineUp [RR a0, II v1] t P3 ∧ ∀ u6 : Mem, P3 0 u6 → V G mX0_lineAsTheyCome 2 [(0, RR a0), (1, II (v1 + 1))] [] u6 Q)) : V G mX0_lineAsTheyCome 2 [(0, RR a0), (1, II v1)] [] t Q := by
  refine V_iload_n 1 rfl dX0_lineAsTheyCome_2 rfl ?_
  refine V_aload_n 0 rfl dX0_lineAsTheyCome_3 rfl ?_
  refine gX0_49 rfl ha0.k dX0_lineAsTheyCome_4 rfl ?_
  obtain ⟨q1, h⟩ := h
  obtain ⟨q2, h⟩ := h
  refine V_icmp_ge q1 q2 dX0_lineAsTheyCome_7 (g := 21) rfl rfl ⟨fun hc => ?_, fun hc => ?_⟩
  · have h := h.1 hc
    exact V_ret dX0_lineAsTheyCome_21 rfl h
  · have h := h.2 hc
    refine V_aload_n 0 rfl dX0_lineAsTheyCome_10 rfl ?_
    refine V_iload_n 1 rfl dX0_lineAsTheyCome_11 rfl ?_
    obtain ⟨P3, c4, h⟩ := h
    refine V_callVv (st := []) (as := [II v1]) okX0_lineUp rfl mlX0_78 (by decide) ha0.k rfl (Nat.le_of_ble_eq_true rfl) rfl dX0_lineAsTheyCome_12 rfl c4 (fun u6 e7 => ?_)
    have h := h u6 e7
    refine V_iinc 1 rfl (ls2 := [(0, RR a0), (1, II (v1 + 1))]) dX0_lineAsTheyCome_15 rfl (by decide) rfl ?_
    refine V_goto (g := 2) dX0_lineAsTheyCome_18 rfl ?_
    exact h
theorem eX0_lineByDays {G : GG} {Q : Int → Mem → Prop} {t : Mem} {a0 : Nat} (k : V G mX0_lineByDays 0 [(0, RR a0)] [] t Q) : Ex G mX0_lineByDays [RR a0] t Q := Ex.of plX0 (Or.inl rfl) (Nat.le_of_ble_eq_true rfl) rfl k
set_option maxRecDepth 100000 in
theorem sgX0_lineByDays_0 {G : GG} {Q : Int → Mem → Prop} {t : Mem} {a0 : Nat} (ha0 : IsCamp a0) (h : V G mX0_lineByDays 3 [(0, RR a0), (1, II 9)] [] t Q) : V G mX0_lineByDays 0 [(0, RR a0)] [] t Q := by
  refine V_bipush (by decide) dX0_lineByDays_0 rfl ?_
  refine V_istore_n (ls2 := [(0, RR a0), (1, II 9)]) dX0_lineByDays_2 rfl (by decide) rfl ?_
  exact h
set_option maxRecDepth 100000 in
theorem sgX0_lineByDays_3 {G : GG} {Q : Int → Mem → Prop} {t : Mem} {a0 : Nat} {v1 : Int} (ha0 : IsCamp a0) (h : In32 v1 ∧ (v1 < 1 → Q 0 t) ∧ (¬ v1 < 1 → V G mX0_lineByDays 10 [(0, RR a0), (1, II v1), (2, II 0)] [] t Q)) : V G mX0_lineByDays 3 [(0, RR a0), (1, II v1)] [] t Q := by
  refine V_iload_n 1 rfl dX0_lineByDays_3 rfl ?_
  refine V_iconst dX0_lineByDays_4 rfl ?_
  obtain ⟨q1, h⟩ := h
  refine V_icmp_lt q1 (iL rfl) dX0_lineByDays_5 (g := 45) rfl rfl ⟨fun hc => ?_, fun hc => ?_⟩
  · have h := h.1 hc
    exact V_ret dX0_lineByDays_45 rfl h
  · have h := h.2 hc
    refine V_iconst dX0_lineByDays_8 rfl ?_
    refine V_istore_n (ls2 := [(0, RR a0), (1, II v1), (2, II 0)]) dX0_lineByDays_9 rfl (by decide) rfl ?_
    exact h
set_option maxRecDepth 100000 in
theorem sgX0_lineByDays_10 {G : GG} {Q : Int → Mem → Prop} {t : Mem} {a0 : Nat} {v1 v2 : Int} (ha0 : IsCamp a0) (h : In32 v2 ∧ In32 (t a0 7) ∧ ((t a0 7) ≤ v2 → V G mX0_lineByDays 3 [(0, RR a0), (1, II (v1 + (-1)))] [] t Q) ∧ (¬ (t a0 7) ≤ v2 → (0 ≤ v2 ∧ v2 < 7) ∧ In32 (t (a0 + 2) v2.toNat) ∧ In32 v1 ∧ (¬ (t (a0 + 2) v2.toNat) = v1 → V G mX0_lineByDays 10 [(0, RR a0), (1, II v1), (2, II (v2 + 1))] [] t Q) ∧ ((t (a0 + 2) v2.toNat) = v1 → ∃ P6 : Int → Mem → Prop, Ex G mX0_lineUp [RR a0, II v2] t P6 ∧ ∀ u9 : Mem, P6 0 u9 → V G mX0_lineByDays 10 [(0, RR a0), (1, II v1), (2, II (v2 + 1))] [] u9 Q))) : V G mX0_lineByDays 10 [(0, RR a0), (1, II v1), (2, II v2)] [] t Q := by
  refine V_iload_n 2 rfl dX0_lineByDays_10 rfl ?_
  refine V_aload_n 0 rfl dX0_lineByDays_11 rfl ?_
  refine gX0_49 rfl ha0.k dX0_lineByDays_12 rfl ?_
  obtain ⟨q1, h⟩ := h
  obtain ⟨q2, h⟩ := h
  refine V_icmp_ge q1 q2 dX0_lineByDays_15 (g := 39) rfl rfl ⟨fun hc => ?_, fun hc => ?_⟩
  · have h := h.1 hc
    refine V_iinc 1 rfl (ls2 := [(0, RR a0), (1, II (v1 + (-1))), (2, II v2)]) dX0_lineByDays_39 rfl (by decide) rfl ?_
    refine V_goto (g := 3) dX0_lineByDays_42 rfl ?_
    exact V_sub (by intro q hq; simp only [List.mem_cons, List.not_mem_nil, or_false] at hq ⊢; first | (rcases hq with rfl | rfl <;> simp)) h
  · have h := h.2 hc
    refine V_aload_n 0 rfl dX0_lineByDays_18 rfl ?_
    refine gX0_31 rfl ha0.k ha0.r9 dX0_lineByDays_19 rfl ?_
    refine V_iload_n 2 rfl dX0_lineByDays_22 rfl ?_
    obtain ⟨q3, h⟩ := h
    refine V_ialdn ha0.k2 ha0.i2 q3 dX0_lineByDays_23 rfl ?_
    refine V_iload_n 1 rfl dX0_lineByDays_24 rfl ?_
    obtain ⟨q4, h⟩ := h
    obtain ⟨q5, h⟩ := h
    refine V_icmp_ne q4 q5 dX0_lineByDays_25 (g := 33) rfl rfl ⟨fun hc => ?_, fun hc => ?_⟩
    · have h := h.1 hc
      refine V_iinc 2 rfl (ls2 := [(0, RR a0), (1, II v1), (2, II (v2 + 1))]) dX0_lineByDays_33 rfl (by decide) rfl ?_
      refine V_goto (g := 10) dX0_lineByDays_36 rfl ?_
      exact h
    · have h := h.2 hc
      refine V_aload_n 0 rfl dX0_lineByDays_28 rfl ?_
      refine V_iload_n 2 rfl dX0_lineByDays_29 rfl ?_
      obtain ⟨P6, c7, h⟩ := h
      refine V_callVv (st := []) (as := [II v2]) okX0_lineUp rfl mlX0_78 (by decide) ha0.k rfl (Nat.le_of_ble_eq_true rfl) rfl dX0_lineByDays_30 rfl c7 (fun u9 e10 => ?_)
      have h := h u9 e10
      refine V_iinc 2 rfl (ls2 := [(0, RR a0), (1, II v1), (2, II (v2 + 1))]) dX0_lineByDays_33 rfl (by decide) rfl ?_
      refine V_goto (g := 10) dX0_lineByDays_36 rfl ?_
      exact h
theorem eX0_lineMilky {G : GG} {Q : Int → Mem → Prop} {t : Mem} {a0 : Nat} {v1 : Int} (k : V G mX0_lineMilky 0 [(0, RR a0), (1, II v1)] [] t Q) : Ex G mX0_lineMilky [RR a0, II v1] t Q := Ex.of plX0 (Or.inl rfl) (Nat.le_of_ble_eq_true rfl) rfl k
set_option maxRecDepth 100000 in
theorem sgX0_lineMilky_0 {G : GG} {Q : Int → Mem → Prop} {t : Mem} {a0 : Nat} {v1 : Int} (ha0 : IsCamp a0) (h : V G mX0_lineMilky 2 [(0, RR a0), (1, II v1), (2, II 0)] [] t Q) : V G mX0_lineMilky 0 [(0, RR a0), (1, II v1)] [] t Q := by
  refine V_iconst dX0_lineMilky_0 rfl ?_
  refine V_istore_n (ls2 := [(0, RR a0), (1, II v1), (2, II 0)]) dX0_lineMilky_1 rfl (by decide) rfl ?_
  exact h
set_option maxRecDepth 100000 in
theorem sgX0_lineMilky_2 {G : GG} {Q : Int → Mem → Prop} {t : Mem} {a0 : Nat} {v1 v2 : Int} (ha0 : IsCamp a0) (h : In32 v2 ∧ In32 (t a0 7) ∧ ((t a0 7) ≤ v2 → Q 0 t) ∧ (¬ (t a0 7) ≤ v2 → (0 ≤ v2 ∧ v2 < 7) ∧ ∃ P4 : Int → Mem → Prop, Ex G mX5_milky [II (t (a0 + 1) v2.toNat)] t P4 ∧ ∀ (r6 : Int) (u7 : Mem), P4 r6 u7 → In32 r6 ∧ In32 v1 ∧ (¬ r6 = v1 → V G mX0_lineMilky 2 [(0, RR a0), (1, II v1), (2, II (v2 + 1))] [] u7 Q) ∧ (r6 = v1 → ∃ P11 : Int → Mem → Prop, Ex G mX0_lineUp [RR a0, II v2] u7 P11 ∧ ∀ u14 : Mem, P11 0 u14 → V G mX0_lineMilky 2 [(0, RR a0), (1, II v1), (2, II (v2 + 1))] [] u14 Q))) : V G mX0_lineMilky 2 [(0, RR a0), (1, II v1), (2, II v2)] [] t Q := by
  refine V_iload_n 2 rfl dX0_lineMilky_2 rfl ?_
  refine V_aload_n 0 rfl dX0_lineMilky_3 rfl ?_
  refine gX0_49 rfl ha0.k dX0_lineMilky_4 rfl ?_
  obtain ⟨q1, h⟩ := h
  obtain ⟨q2, h⟩ := h
  refine V_icmp_ge q1 q2 dX0_lineMilky_7 (g := 34) rfl rfl ⟨fun hc => ?_, fun hc => ?_⟩
  · have h := h.1 hc
    exact V_ret dX0_lineMilky_34 rfl h
  · have h := h.2 hc
    refine V_aload_n 0 rfl dX0_lineMilky_10 rfl ?_
    refine gX0_27 rfl ha0.k ha0.r8 dX0_lineMilky_11 rfl ?_
    refine V_iload_n 2 rfl dX0_lineMilky_14 rfl ?_
    obtain ⟨q3, h⟩ := h
    refine V_ialdn ha0.k1 ha0.i1 q3 dX0_lineMilky_15 rfl ?_
    obtain ⟨P4, c5, h⟩ := h
    refine V_callSi (st := []) (as := [II (t (a0 + 1) v2.toNat)]) okX5_milky rfl mlX0_58 (by decide) rfl (Nat.le_of_ble_eq_true rfl) rfl dX0_lineMilky_16 rfl c5 (fun r6 u7 e8 => ?_)
    have h := h r6 u7 e8
    refine V_iload_n 1 rfl dX0_lineMilky_19 rfl ?_
    obtain ⟨q9, h⟩ := h
    obtain ⟨q10, h⟩ := h
    refine V_icmp_ne q9 q10 dX0_lineMilky_20 (g := 28) rfl rfl ⟨fun hc => ?_, fun hc => ?_⟩
    · have h := h.1 hc
      refine V_iinc 2 rfl (ls2 := [(0, RR a0), (1, II v1), (2, II (v2 + 1))]) dX0_lineMilky_28 rfl (by decide) rfl ?_
      refine V_goto (g := 2) dX0_lineMilky_31 rfl ?_
      exact h
    · have h := h.2 hc
      refine V_aload_n 0 rfl dX0_lineMilky_23 rfl ?_
      refine V_iload_n 2 rfl dX0_lineMilky_24 rfl ?_
      obtain ⟨P11, c12, h⟩ := h
      refine V_callVv (st := []) (as := [II v2]) okX0_lineUp rfl mlX0_78 (by decide) ha0.k rfl (Nat.le_of_ble_eq_true rfl) rfl dX0_lineMilky_25 rfl c12 (fun u14 e15 => ?_)
      have h := h u14 e15
      refine V_iinc 2 rfl (ls2 := [(0, RR a0), (1, II v1), (2, II (v2 + 1))]) dX0_lineMilky_28 rfl (by decide) rfl ?_
      refine V_goto (g := 2) dX0_lineMilky_31 rfl ?_
      exact h
theorem eX0_lineByTurns {G : GG} {Q : Int → Mem → Prop} {t : Mem} {a0 : Nat} (k : V G mX0_lineByTurns 0 [(0, RR a0)] [] t Q) : Ex G mX0_lineByTurns [RR a0] t Q := Ex.of plX0 (Or.inl rfl) (Nat.le_of_ble_eq_true rfl) rfl k
set_option maxRecDepth 100000 in
theorem sgX0_lineByTurns_0 {G : GG} {Q : Int → Mem → Prop} {t : Mem} {a0 : Nat} (ha0 : IsCamp a0) (h : ∃ P1 : Int → Mem → Prop, Ex G mX0_nextOf [RR a0, II 0, II 0] t P1 ∧ ∀ (r3 : Int) (u4 : Mem), P1 r3 u4 → ∃ P6 : Int → Mem → Prop, Ex G mX0_nextOf [RR a0, II 1, II 0] u4 P6 ∧ ∀ (r8 : Int) (u9 : Mem), P6 r8 u9 → V G mX0_lineByTurns 16 [(0, RR a0), (1, II r3), (2, II r8), (3, II 0)] [] u9 Q) : V G mX0_lineByTurns 0 [(0, RR a0)] [] t Q := by
  refine V_aload_n 0 rfl dX0_lineByTurns_0 rfl ?_
  refine V_iconst dX0_lineByTurns_1 rfl ?_
  refine V_iconst dX0_lineByTurns_2 rfl ?_
  obtain ⟨P1, c2, h⟩ := h
  refine V_callVi (st := []) (as := [II 0, II 0]) okX0_nextOf rfl mlX0_82 (by decide) ha0.k rfl (Nat.le_of_ble_eq_true rfl) rfl dX0_lineByTurns_3 rfl c2 (fun r3 u4 e5 => ?_)
  have h := h r3 u4 e5
  refine V_istore_n (ls2 := [(0, RR a0), (1, II r3)]) dX0_lineByTurns_6 rfl (by decide) rfl ?_
  refine V_aload_n 0 rfl dX0_lineByTurns_7 rfl ?_
  refine V_iconst dX0_lineByTurns_8 rfl ?_
  refine V_iconst dX0_lineByTurns_9 rfl ?_
  obtain ⟨P6, c7, h⟩ := h
  refine V_callVi (st := []) (as := [II 1, II 0]) okX0_nextOf rfl mlX0_82 (by decide) ha0.k rfl (Nat.le_of_ble_eq_true rfl) rfl dX0_lineByTurns_10 rfl c7 (fun r8 u9 e10 => ?_)
  have h := h r8 u9 e10
  refine V_istore_n (ls2 := [(0, RR a0), (1, II r3), (2, II r8)]) dX0_lineByTurns_13 rfl (by decide) rfl ?_
  refine V_iconst dX0_lineByTurns_14 rfl ?_
  refine V_istore_n (ls2 := [(0, RR a0), (1, II r3), (2, II r8), (3, II 0)]) dX0_lineByTurns_15 rfl (by decide) rfl ?_
  exact h
set_option maxRecDepth 100000 in
theorem sgX0_lineByTurns_16 {G : GG} {Q : Int → Mem → Prop} {t : Mem} {a0 : Nat} {v1 v2 v3 : Int} (ha0 : IsCamp a0) (h : In32 v3 ∧ In32 (t a0 7) ∧ ((t a0 7) ≤ v3 → Q 0 t) ∧ (¬ (t a0 7) ≤ v3 → In32 v1 ∧ ((t a0 7) ≤ v1 → In32 v2 ∧ ((t a0 7) ≤ v2 → V G mX0_lineByTurns 16 [(0, RR a0), (1, II v1), (2, II v2), (3, II (v3 + 1))] [] t Q) ∧ (¬ (t a0 7) ≤ v2 → ∃ P5 : Int → Mem → Prop, Ex G mX0_lineUp [RR a0, II v2] t P5 ∧ ∀ u8 : Mem, P5 0 u8 → ∃ P10 : Int → Mem → Prop, Ex G mX0_nextOf [RR a0, II 1, II (v2 + 1)] u8 P10 ∧ ∀ (r12 : Int) (u13 : Mem), P10 r12 u13 → V G mX0_lineByTurns 16 [(0, RR a0), (1, II v1), (2, II r12), (3, II (v3 + 1))] [] u13 Q)) ∧ (¬ (t a0 7) ≤ v1 → ∃ P15 : Int → Mem → Prop, Ex G mX0_lineUp [RR a0, II v1] t P15 ∧ ∀ u18 : Mem, P15 0 u18 → ∃ P20 : Int → Mem → Prop, Ex G mX0_nextOf [RR a0, II 0, II (v1 + 1)] u18 P20 ∧ ∀ (r22 : Int) (u23 : Mem), P20 r22 u23 → In32 v2 ∧ In32 (u23 a0 7) ∧ ((u23 a0 7) ≤ v2 → V G mX0_lineByTurns 16 [(0, RR a0), (1, II r22), (2, II v2), (3, II (v3 + 1))] [] u23 Q) ∧ (¬ (u23 a0 7) ≤ v2 → ∃ P27 : Int → Mem → Prop, Ex G mX0_lineUp [RR a0, II v2] u23 P27 ∧ ∀ u30 : Mem, P27 0 u30 → ∃ P32 : Int → Mem → Prop, Ex G mX0_nextOf [RR a0, II 1, II (v2 + 1)] u30 P32 ∧ ∀ (r34 : Int) (u35 : Mem), P32 r34 u35 → V G mX0_lineByTurns 16 [(0, RR a0), (1, II r22), (2, II r34), (3, II (v3 + 1))] [] u35 Q)))) : V G mX0_lineByTurns 16 [(0, RR a0), (1, II v1), (2, II v2), (3, II v3)] [] t Q := by
  refine V_iload_n 3 rfl dX0_lineByTurns_16 rfl ?_
  refine V_aload_n 0 rfl dX0_lineByTurns_17 rfl ?_
  refine gX0_49 rfl ha0.k dX0_lineByTurns_18 rfl ?_
  obtain ⟨q1, h⟩ := h
  obtain ⟨q2, h⟩ := h
  refine V_icmp_ge q1 q2 dX0_lineByTurns_21 (g := 74) rfl rfl ⟨fun hc => ?_, fun hc => ?_⟩
  · have h := h.1 hc
    exact V_ret dX0_lineByTurns_74 rfl h
  · have h := h.2 hc
    refine V_iload_n 1 rfl dX0_lineByTurns_24 rfl ?_
    refine V_aload_n 0 rfl dX0_lineByTurns_25 rfl ?_
    refine gX0_49 rfl ha0.k dX0_lineByTurns_26 rfl ?_
    obtain ⟨q3, h⟩ := h
    refine V_icmp_ge q3 q2 dX0_lineByTurns_29 (g := 46) rfl rfl ⟨fun hc => ?_, fun hc => ?_⟩
    · have h := h.1 hc
      refine V_iload_n 2 rfl dX0_lineByTurns_46 rfl ?_
      refine V_aload_n 0 rfl dX0_lineByTurns_47 rfl ?_
      refine gX0_49 rfl ha0.k dX0_lineByTurns_48 rfl ?_
      obtain ⟨q4, h⟩ := h
      refine V_icmp_ge q4 q2 dX0_lineByTurns_51 (g := 68) rfl rfl ⟨fun hc => ?_, fun hc => ?_⟩
      · have h := h.1 hc
        refine V_iinc 3 rfl (ls2 := [(0, RR a0), (1, II v1), (2, II v2), (3, II (v3 + 1))]) dX0_lineByTurns_68 rfl (by decide) rfl ?_
        refine V_goto (g := 16) dX0_lineByTurns_71 rfl ?_
        exact h
      · have h := h.2 hc
        refine V_aload_n 0 rfl dX0_lineByTurns_54 rfl ?_
        refine V_iload_n 2 rfl dX0_lineByTurns_55 rfl ?_
        obtain ⟨P5, c6, h⟩ := h
        refine V_callVv (st := []) (as := [II v2]) okX0_lineUp rfl mlX0_78 (by decide) ha0.k rfl (Nat.le_of_ble_eq_true rfl) rfl dX0_lineByTurns_56 rfl c6 (fun u8 e9 => ?_)
        have h := h u8 e9
        refine V_aload_n 0 rfl dX0_lineByTurns_59 rfl ?_
        refine V_iconst dX0_lineByTurns_60 rfl ?_
        refine V_iload_n 2 rfl dX0_lineByTurns_61 rfl ?_
        refine V_iconst dX0_lineByTurns_62 rfl ?_
        refine V_iadd dX0_lineByTurns_63 rfl ?_
        obtain ⟨P10, c11, h⟩ := h
        refine V_callVi (st := []) (as := [II 1, II (v2 + 1)]) okX0_nextOf rfl mlX0_82 (by decide) ha0.k rfl (Nat.le_of_ble_eq_true rfl) rfl dX0_lineByTurns_64 rfl c11 (fun r12 u13 e14 => ?_)
        have h := h r12 u13 e14
        refine V_istore_n (ls2 := [(0, RR a0), (1, II v1), (2, II r12), (3, II v3)]) dX0_lineByTurns_67 rfl (by decide) rfl ?_
        refine V_iinc 3 rfl (ls2 := [(0, RR a0), (1, II v1), (2, II r12), (3, II (v3 + 1))]) dX0_lineByTurns_68 rfl (by decide) rfl ?_
        refine V_goto (g := 16) dX0_lineByTurns_71 rfl ?_
        exact h
    · have h := h.2 hc
      refine V_aload_n 0 rfl dX0_lineByTurns_32 rfl ?_
      refine V_iload_n 1 rfl dX0_lineByTurns_33 rfl ?_
      obtain ⟨P15, c16, h⟩ := h
      refine V_callVv (st := []) (as := [II v1]) okX0_lineUp rfl mlX0_78 (by decide) ha0.k rfl (Nat.le_of_ble_eq_true rfl) rfl dX0_lineByTurns_34 rfl c16 (fun u18 e19 => ?_)
      have h := h u18 e19
      refine V_aload_n 0 rfl dX0_lineByTurns_37 rfl ?_
      refine V_iconst dX0_lineByTurns_38 rfl ?_
      refine V_iload_n 1 rfl dX0_lineByTurns_39 rfl ?_
      refine V_iconst dX0_lineByTurns_40 rfl ?_
      refine V_iadd dX0_lineByTurns_41 rfl ?_
      obtain ⟨P20, c21, h⟩ := h
      refine V_callVi (st := []) (as := [II 0, II (v1 + 1)]) okX0_nextOf rfl mlX0_82 (by decide) ha0.k rfl (Nat.le_of_ble_eq_true rfl) rfl dX0_lineByTurns_42 rfl c21 (fun r22 u23 e24 => ?_)
      have h := h r22 u23 e24
      refine V_istore_n (ls2 := [(0, RR a0), (1, II r22), (2, II v2), (3, II v3)]) dX0_lineByTurns_45 rfl (by decide) rfl ?_
      refine V_iload_n 2 rfl dX0_lineByTurns_46 rfl ?_
      refine V_aload_n 0 rfl dX0_lineByTurns_47 rfl ?_
      refine gX0_49 rfl ha0.k dX0_lineByTurns_48 rfl ?_
      obtain ⟨q25, h⟩ := h
      obtain ⟨q26, h⟩ := h
      refine V_icmp_ge q25 q26 dX0_lineByTurns_51 (g := 68) rfl rfl ⟨fun hc => ?_, fun hc => ?_⟩
      · have h := h.1 hc
        refine V_iinc 3 rfl (ls2 := [(0, RR a0), (1, II r22), (2, II v2), (3, II (v3 + 1))]) dX0_lineByTurns_68 rfl (by decide) rfl ?_
        refine V_goto (g := 16) dX0_lineByTurns_71 rfl ?_
        exact h
      · have h := h.2 hc
        refine V_aload_n 0 rfl dX0_lineByTurns_54 rfl ?_
        refine V_iload_n 2 rfl dX0_lineByTurns_55 rfl ?_
        obtain ⟨P27, c28, h⟩ := h
        refine V_callVv (st := []) (as := [II v2]) okX0_lineUp rfl mlX0_78 (by decide) ha0.k rfl (Nat.le_of_ble_eq_true rfl) rfl dX0_lineByTurns_56 rfl c28 (fun u30 e31 => ?_)
        have h := h u30 e31
        refine V_aload_n 0 rfl dX0_lineByTurns_59 rfl ?_
        refine V_iconst dX0_lineByTurns_60 rfl ?_
        refine V_iload_n 2 rfl dX0_lineByTurns_61 rfl ?_
        refine V_iconst dX0_lineByTurns_62 rfl ?_
        refine V_iadd dX0_lineByTurns_63 rfl ?_
        obtain ⟨P32, c33, h⟩ := h
        refine V_callVi (st := []) (as := [II 1, II (v2 + 1)]) okX0_nextOf rfl mlX0_82 (by decide) ha0.k rfl (Nat.le_of_ble_eq_true rfl) rfl dX0_lineByTurns_64 rfl c33 (fun r34 u35 e36 => ?_)
        have h := h r34 u35 e36
        refine V_istore_n (ls2 := [(0, RR a0), (1, II r22), (2, II r34), (3, II v3)]) dX0_lineByTurns_67 rfl (by decide) rfl ?_
        refine V_iinc 3 rfl (ls2 := [(0, RR a0), (1, II r22), (2, II r34), (3, II (v3 + 1))]) dX0_lineByTurns_68 rfl (by decide) rfl ?_
        refine V_goto (g := 16) dX0_lineByTurns_71 rfl ?_
        exact h
theorem eX0_nextOf {G : GG} {Q : Int → Mem → Prop} {t : Mem} {a0 : Nat} {v1 v2 : Int} (k : V G mX0_nextOf 0 [(0, RR a0), (1, II v1), (2, II v2)] [] t Q) : Ex G mX0_nextOf [RR a0, II v1, II v2] t Q := Ex.of plX0 (Or.inr (Or.inl rfl)) (Nat.le_of_ble_eq_true rfl) rfl k
set_option maxRecDepth 100000 in
theorem sgX0_nextOf_0 {G : GG} {Q : Int → Mem → Prop} {t : Mem} {a0 : Nat} {v1 v2 : Int} (ha0 : IsCamp a0) (h : V G mX0_nextOf 2 [(0, RR a0), (1, II v1), (2, II v2), (3, II v2)] [] t Q) : V G mX0_nextOf 0 [(0, RR a0), (1, II v1), (2, II v2)] [] t Q := by
  refine V_iload_n 2 rfl dX0_nextOf_0 rfl ?_
  refine V_istore_n (ls2 := [(0, RR a0), (1, II v1), (2, II v2), (3, II v2)]) dX0_nextOf_1 rfl (by decide) rfl ?_
  exact h
set_option maxRecDepth 100000 in
theorem sgX0_nextOf_2 {G : GG} {Q : Int → Mem → Prop} {t : Mem} {a0 : Nat} {v1 v2 v3 : Int} (ha0 : IsCamp a0) (h : In32 v3 ∧ In32 (t a0 7) ∧ ((t a0 7) ≤ v3 → Q (t a0 7) t) ∧ (¬ (t a0 7) ≤ v3 → (0 ≤ v3 ∧ v3 < 7) ∧ In32 (t (a0 + 3) v3.toNat) ∧ In32 v1 ∧ (¬ (t (a0 + 3) v3.toNat) = v1 → V G mX0_nextOf 2 [(0, RR a0), (1, II v1), (2, II v2), (3, II (v3 + 1))] [] t Q) ∧ ((t (a0 + 3) v3.toNat) = v1 → Q v3 t))) : V G mX0_nextOf 2 [(0, RR a0), (1, II v1), (2, II v2), (3, II v3)] [] t Q := by
  refine V_iload_n 3 rfl dX0_nextOf_2 rfl ?_
  refine V_aload_n 0 rfl dX0_nextOf_3 rfl ?_
  refine gX0_49 rfl ha0.k dX0_nextOf_4 rfl ?_
  obtain ⟨q1, h⟩ := h
  obtain ⟨q2, h⟩ := h
  refine V_icmp_ge q1 q2 dX0_nextOf_7 (g := 28) rfl rfl ⟨fun hc => ?_, fun hc => ?_⟩
  · have h := h.1 hc
    refine V_aload_n 0 rfl dX0_nextOf_28 rfl ?_
    refine gX0_49 rfl ha0.k dX0_nextOf_29 rfl ?_
    exact V_iret dX0_nextOf_32 (Or.inl rfl) h
  · have h := h.2 hc
    refine V_aload_n 0 rfl dX0_nextOf_10 rfl ?_
    refine gX0_34 rfl ha0.k ha0.r10 dX0_nextOf_11 rfl ?_
    refine V_iload_n 3 rfl dX0_nextOf_14 rfl ?_
    obtain ⟨q3, h⟩ := h
    refine V_ialdn ha0.k3 ha0.i3 q3 dX0_nextOf_15 rfl ?_
    refine V_iload_n 1 rfl dX0_nextOf_16 rfl ?_
    obtain ⟨q4, h⟩ := h
    obtain ⟨q5, h⟩ := h
    refine V_icmp_ne q4 q5 dX0_nextOf_17 (g := 22) rfl rfl ⟨fun hc => ?_, fun hc => ?_⟩
    · have h := h.1 hc
      refine V_iinc 3 rfl (ls2 := [(0, RR a0), (1, II v1), (2, II v2), (3, II (v3 + 1))]) dX0_nextOf_22 rfl (by decide) rfl ?_
      refine V_goto (g := 2) dX0_nextOf_25 rfl ?_
      exact h
    · have h := h.2 hc
      refine V_iload_n 3 rfl dX0_nextOf_20 rfl ?_
      exact V_iret dX0_nextOf_21 (Or.inl rfl) h
theorem eX0_lineUp {G : GG} {Q : Int → Mem → Prop} {t : Mem} {a0 : Nat} {v1 : Int} (k : V G mX0_lineUp 0 [(0, RR a0), (1, II v1)] [] t Q) : Ex G mX0_lineUp [RR a0, II v1] t Q := Ex.of plX0 (Or.inl rfl) (Nat.le_of_ble_eq_true rfl) rfl k
set_option maxRecDepth 100000 in
theorem sgX0_lineUp_0 {G : GG} {Q : Int → Mem → Prop} {t : Mem} {a0 : Nat} {v1 : Int} (ha0 : IsCamp a0) (h : In32 (t a0 13) ∧ (7 ≤ (t a0 13) → Q 0 t) ∧ (¬ 7 ≤ (t a0 13) → (0 ≤ t a0 13 ∧ t a0 13 < 7) ∧ ∀ u2 : Mem, u2 = wr t (a0 + 5) (t a0 13).toNat v1 → ∀ u5 : Mem, u5 = wr u2 a0 13 ((u2 a0 13) + 1) → Q 0 u5)) : V G mX0_lineUp 0 [(0, RR a0), (1, II v1)] [] t Q := by
  refine V_aload_n 0 rfl dX0_lineUp_0 rfl ?_
  refine gX0_62 rfl ha0.k dX0_lineUp_1 rfl ?_
  refine V_bipush (by decide) dX0_lineUp_4 rfl ?_
  obtain ⟨q1, h⟩ := h
  refine V_icmp_ge q1 (iL rfl) dX0_lineUp_6 (g := 29) rfl rfl ⟨fun hc => ?_, fun hc => ?_⟩
  · have h := h.1 hc
    exact V_ret dX0_lineUp_29 rfl h
  · have h := h.2 hc
    refine V_aload_n 0 rfl dX0_lineUp_9 rfl ?_
    refine gX0_40 rfl ha0.k ha0.r12 dX0_lineUp_10 rfl ?_
    refine V_aload_n 0 rfl dX0_lineUp_13 rfl ?_
    refine gX0_62 rfl ha0.k dX0_lineUp_14 rfl ?_
    refine V_iload_n 1 rfl dX0_lineUp_17 rfl ?_
    obtain ⟨q4, h⟩ := h
    refine V_iastn ha0.k5 ha0.i5 q4 dX0_lineUp_18 rfl (fun u2 e3 => ?_)
    have h := h u2 e3
    refine V_aload_n 0 rfl dX0_lineUp_19 rfl ?_
    refine V_dup rfl dX0_lineUp_20 rfl ?_
    refine gX0_62 rfl ha0.k dX0_lineUp_21 rfl ?_
    refine V_iconst dX0_lineUp_24 rfl ?_
    refine V_iadd dX0_lineUp_25 rfl ?_
    refine pX0_62 rfl ha0.k dX0_lineUp_26 rfl (fun u5 e6 => ?_)
    have h := h u5 e6
    exact V_ret dX0_lineUp_29 rfl h
theorem eX2_takeFrom {G : GG} {Q : Int → Mem → Prop} {t : Mem} {a0 a1 : Nat} (k : V G mX2_takeFrom 0 [(0, RR a0), (1, RR a1)] [] t Q) : Ex G mX2_takeFrom [RR a0, RR a1] t Q := Ex.of plX2 (Or.inl rfl) (Nat.le_of_ble_eq_true rfl) rfl k
set_option maxRecDepth 100000 in
theorem sgX2_takeFrom_0 {G : GG} {Q : Int → Mem → Prop} {t : Mem} {a0 a1 : Nat} (ha0 : IsPast a0) (ha1 : IsPast a1) (h : V G mX2_takeFrom 2 [(0, RR a0), (1, RR a1), (2, II 0)] [] t Q) : V G mX2_takeFrom 0 [(0, RR a0), (1, RR a1)] [] t Q := by
  refine V_iconst dX2_takeFrom_0 rfl ?_
  refine V_istore_n (ls2 := [(0, RR a0), (1, RR a1), (2, II 0)]) dX2_takeFrom_1 rfl (by decide) rfl ?_
  exact h
set_option maxRecDepth 100000 in
theorem sgX2_takeFrom_2 {G : GG} {Q : Int → Mem → Prop} {t : Mem} {a0 a1 : Nat} {v2 : Int} (ha0 : IsPast a0) (ha1 : IsPast a1) (h : In32 v2 ∧ (8 ≤ v2 → ∀ u2 : Mem, u2 = wr t a0 1 (t a1 1) → ∀ u4 : Mem, u4 = wr u2 a0 2 (u2 a1 2) → Q 0 u4) ∧ (¬ 8 ≤ v2 → (0 ≤ v2 ∧ v2 < 8) ∧ ∃ P7 : Int → Mem → Prop, Ex G mX1_takeFrom [RR (a0 + 2 + 5 * v2.toNat), RR (a1 + 2 + 5 * v2.toNat)] t P7 ∧ ∀ u10 : Mem, P7 0 u10 → V G mX2_takeFrom 2 [(0, RR a0), (1, RR a1), (2, II (v2 + 1))] [] u10 Q)) : V G mX2_takeFrom 2 [(0, RR a0), (1, RR a1), (2, II v2)] [] t Q := by
  refine V_iload_n 2 rfl dX2_takeFrom_2 rfl ?_
  refine V_bipush (by decide) dX2_takeFrom_3 rfl ?_
  obtain ⟨q1, h⟩ := h
  refine V_icmp_ge q1 (iL rfl) dX2_takeFrom_5 (g := 29) rfl rfl ⟨fun hc => ?_, fun hc => ?_⟩
  · have h := h.1 hc
    refine V_aload_n 0 rfl dX2_takeFrom_29 rfl ?_
    refine V_aload_n 1 rfl dX2_takeFrom_30 rfl ?_
    refine gX2_22 rfl ha1.k dX2_takeFrom_31 rfl ?_
    refine pX2_22 rfl ha0.k dX2_takeFrom_34 rfl (fun u2 e3 => ?_)
    have h := h u2 e3
    refine V_aload_n 0 rfl dX2_takeFrom_37 rfl ?_
    refine V_aload_n 1 rfl dX2_takeFrom_38 rfl ?_
    refine gX2_26 rfl ha1.k dX2_takeFrom_39 rfl ?_
    refine pX2_26 rfl ha0.k dX2_takeFrom_42 rfl (fun u4 e5 => ?_)
    have h := h u4 e5
    exact V_ret dX2_takeFrom_45 rfl h
  · have h := h.2 hc
    refine V_aload_n 0 rfl dX2_takeFrom_8 rfl ?_
    refine gX2_11 rfl ha0.k ha0.r0 dX2_takeFrom_9 rfl ?_
    refine V_iload_n 2 rfl dX2_takeFrom_12 rfl ?_
    obtain ⟨q6, h⟩ := h
    refine V_aaldn (Or.inl ha0.k1) ha0.i1 q6 (ha0.ring (tn q6)).1 dX2_takeFrom_13 rfl ?_
    refine V_aload_n 1 rfl dX2_takeFrom_14 rfl ?_
    refine gX2_11 rfl ha1.k ha1.r0 dX2_takeFrom_15 rfl ?_
    refine V_iload_n 2 rfl dX2_takeFrom_18 rfl ?_
    refine V_aaldn (Or.inl ha1.k1) ha1.i1 q6 (ha1.ring (tn q6)).1 dX2_takeFrom_19 rfl ?_
    obtain ⟨P7, c8, h⟩ := h
    refine V_callVv (st := []) (as := [RR (a1 + 2 + 5 * v2.toNat)]) okX1_takeFrom rfl mlX2_18 (by decide) ((ha0.ring (tn q6)).2).k rfl (Nat.le_of_ble_eq_true rfl) rfl dX2_takeFrom_20 rfl c8 (fun u10 e11 => ?_)
    have h := h u10 e11
    refine V_iinc 2 rfl (ls2 := [(0, RR a0), (1, RR a1), (2, II (v2 + 1))]) dX2_takeFrom_23 rfl (by decide) rfl ?_
    refine V_goto (g := 2) dX2_takeFrom_26 rfl ?_
    exact h
theorem eX2_forget {G : GG} {Q : Int → Mem → Prop} {t : Mem} {a0 : Nat} (k : V G mX2_forget 0 [(0, RR a0)] [] t Q) : Ex G mX2_forget [RR a0] t Q := Ex.of plX2 (Or.inl rfl) (Nat.le_of_ble_eq_true rfl) rfl k
set_option maxRecDepth 100000 in
theorem sgX2_forget_0 {G : GG} {Q : Int → Mem → Prop} {t : Mem} {a0 : Nat} (ha0 : IsPast a0) (h : ∀ u1 : Mem, u1 = wr t a0 2 0 → Q 0 u1) : V G mX2_forget 0 [(0, RR a0)] [] t Q := by
  refine V_aload_n 0 rfl dX2_forget_0 rfl ?_
  refine V_iconst dX2_forget_1 rfl ?_
  refine pX2_26 rfl ha0.k dX2_forget_2 rfl (fun u1 e2 => ?_)
  have h := h u1 e2
  exact V_ret dX2_forget_5 rfl h
theorem eX2_keep {G : GG} {Q : Int → Mem → Prop} {t : Mem} {a0 a1 : Nat} (k : V G mX2_keep 0 [(0, RR a0), (1, RR a1)] [] t Q) : Ex G mX2_keep [RR a0, RR a1] t Q := Ex.of plX2 (Or.inl rfl) (Nat.le_of_ble_eq_true rfl) rfl k
set_option maxRecDepth 100000 in
theorem sgX2_keep_0 {G : GG} {Q : Int → Mem → Prop} {t : Mem} {a0 a1 : Nat} (ha0 : IsPast a0) (ha1 : IsMom a1) (h : (0 ≤ t a0 1 ∧ t a0 1 < 8) ∧ ∃ P2 : Int → Mem → Prop, Ex G mX1_takeFrom [RR (a0 + 2 + 5 * (t a0 1).toNat), RR a1] t P2 ∧ ∀ u5 : Mem, P2 0 u5 → ((0 : Int) ≤ ((u5 a0 1) + 1) ∧ In32 ((u5 a0 1) + 1)) ∧ ∀ u8 : Mem, u8 = wr u5 a0 1 (((u5 a0 1) + 1) % 8) → In32 ((u8 a0 2) + 1) ∧ ∀ u11 : Mem, u11 = wr u8 a0 2 (min 8 ((u8 a0 2) + 1)) → Q 0 u11) : V G mX2_keep 0 [(0, RR a0), (1, RR a1)] [] t Q := by
  refine V_aload_n 0 rfl dX2_keep_0 rfl ?_
  refine gX2_11 rfl ha0.k ha0.r0 dX2_keep_1 rfl ?_
  refine V_aload_n 0 rfl dX2_keep_4 rfl ?_
  refine gX2_22 rfl ha0.k dX2_keep_5 rfl ?_
  obtain ⟨q1, h⟩ := h
  refine V_aaldn (Or.inl ha0.k1) ha0.i1 q1 (ha0.ring (tn q1)).1 dX2_keep_8 rfl ?_
  refine V_aload_n 1 rfl dX2_keep_9 rfl ?_
  obtain ⟨P2, c3, h⟩ := h
  refine V_callVv (st := []) (as := [RR a1]) okX1_takeFrom rfl mlX2_18 (by decide) ((ha0.ring (tn q1)).2).k rfl (Nat.le_of_ble_eq_true rfl) rfl dX2_keep_10 rfl c3 (fun u5 e6 => ?_)
  have h := h u5 e6
  refine V_aload_n 0 rfl dX2_keep_13 rfl ?_
  refine V_aload_n 0 rfl dX2_keep_14 rfl ?_
  refine gX2_22 rfl ha0.k dX2_keep_15 rfl ?_
  refine V_iconst dX2_keep_18 rfl ?_
  refine V_iadd dX2_keep_19 rfl ?_
  refine V_bipush (by decide) dX2_keep_20 rfl ?_
  obtain ⟨q7, h⟩ := h
  refine V_irem q7 ⟨by decide, iL rfl⟩ dX2_keep_22 rfl ?_
  refine pX2_22 rfl ha0.k dX2_keep_23 rfl (fun u8 e9 => ?_)
  have h := h u8 e9
  refine V_aload_n 0 rfl dX2_keep_26 rfl ?_
  refine V_bipush (by decide) dX2_keep_27 rfl ?_
  refine V_aload_n 0 rfl dX2_keep_29 rfl ?_
  refine gX2_26 rfl ha0.k dX2_keep_30 rfl ?_
  refine V_iconst dX2_keep_33 rfl ?_
  refine V_iadd dX2_keep_34 rfl ?_
  obtain ⟨q10, h⟩ := h
  refine V_min mlX2_29 (by decide) (Nat.le_of_ble_eq_true rfl) (iL rfl) q10 dX2_keep_35 rfl ?_
  refine pX2_26 rfl ha0.k dX2_keep_38 rfl (fun u11 e12 => ?_)
  have h := h u11 e12
  exact V_ret dX2_keep_41 rfl h
theorem eX2_giveBack {G : GG} {Q : Int → Mem → Prop} {t : Mem} {a0 a1 : Nat} (k : V G mX2_giveBack 0 [(0, RR a0), (1, RR a1)] [] t Q) : Ex G mX2_giveBack [RR a0, RR a1] t Q := Ex.of plX2 (Or.inr (Or.inr rfl)) (Nat.le_of_ble_eq_true rfl) rfl k
set_option maxRecDepth 100000 in
theorem sgX2_giveBack_0 {G : GG} {Q : Int → Mem → Prop} {t : Mem} {a0 a1 : Nat} (ha0 : IsPast a0) (ha1 : IsMom a1) (h : In32 (t a0 2) ∧ (¬ (t a0 2) = 0 → ((0 : Int) ≤ (((t a0 1) + 8) - 1) ∧ In32 (((t a0 1) + 8) - 1)) ∧ ∀ u3 : Mem, u3 = wr t a0 1 ((((t a0 1) + 8) - 1) % 8) → ∀ u5 : Mem, u5 = wr u3 a0 2 ((u3 a0 2) - 1) → (0 ≤ u5 a0 1 ∧ u5 a0 1 < 8) ∧ ∃ P8 : Int → Mem → Prop, Ex G mX1_takeFrom [RR a1, RR (a0 + 2 + 5 * (u5 a0 1).toNat)] u5 P8 ∧ ∀ u11 : Mem, P8 0 u11 → Q 1 u11) ∧ ((t a0 2) = 0 → Q 0 t)) : V G mX2_giveBack 0 [(0, RR a0), (1, RR a1)] [] t Q := by
  refine V_aload_n 0 rfl dX2_giveBack_0 rfl ?_
  refine gX2_26 rfl ha0.k dX2_giveBack_1 rfl ?_
  obtain ⟨q1, h⟩ := h
  refine V_if_ne q1 dX2_giveBack_4 (g := 9) rfl rfl ⟨fun hc => ?_, fun hc => ?_⟩
  · have h := h.1 hc
    refine V_aload_n 0 rfl dX2_giveBack_9 rfl ?_
    refine V_aload_n 0 rfl dX2_giveBack_10 rfl ?_
    refine gX2_22 rfl ha0.k dX2_giveBack_11 rfl ?_
    refine V_bipush (by decide) dX2_giveBack_14 rfl ?_
    refine V_iadd dX2_giveBack_16 rfl ?_
    refine V_iconst dX2_giveBack_17 rfl ?_
    refine V_isub dX2_giveBack_18 rfl ?_
    refine V_bipush (by decide) dX2_giveBack_19 rfl ?_
    obtain ⟨q2, h⟩ := h
    refine V_irem q2 ⟨by decide, iL rfl⟩ dX2_giveBack_21 rfl ?_
    refine pX2_22 rfl ha0.k dX2_giveBack_22 rfl (fun u3 e4 => ?_)
    have h := h u3 e4
    refine V_aload_n 0 rfl dX2_giveBack_25 rfl ?_
    refine V_dup rfl dX2_giveBack_26 rfl ?_
    refine gX2_26 rfl ha0.k dX2_giveBack_27 rfl ?_
    refine V_iconst dX2_giveBack_30 rfl ?_
    refine V_isub dX2_giveBack_31 rfl ?_
    refine pX2_26 rfl ha0.k dX2_giveBack_32 rfl (fun u5 e6 => ?_)
    have h := h u5 e6
    refine V_aload_n 1 rfl dX2_giveBack_35 rfl ?_
    refine V_aload_n 0 rfl dX2_giveBack_36 rfl ?_
    refine gX2_11 rfl ha0.k ha0.r0 dX2_giveBack_37 rfl ?_
    refine V_aload_n 0 rfl dX2_giveBack_40 rfl ?_
    refine gX2_22 rfl ha0.k dX2_giveBack_41 rfl ?_
    obtain ⟨q7, h⟩ := h
    refine V_aaldn (Or.inl ha0.k1) ha0.i1 q7 (ha0.ring (tn q7)).1 dX2_giveBack_44 rfl ?_
    obtain ⟨P8, c9, h⟩ := h
    refine V_callVv (st := []) (as := [RR (a0 + 2 + 5 * (u5 a0 1).toNat)]) okX1_takeFrom rfl mlX2_18 (by decide) ha1.k rfl (Nat.le_of_ble_eq_true rfl) rfl dX2_giveBack_45 rfl c9 (fun u11 e12 => ?_)
    have h := h u11 e12
    refine V_iconst dX2_giveBack_48 rfl ?_
    exact V_iret dX2_giveBack_49 (Or.inr ⟨rfl, by decide⟩) h
  · have h := h.2 hc
    refine V_iconst dX2_giveBack_7 rfl ?_
    exact V_iret dX2_giveBack_8 (Or.inr ⟨rfl, by decide⟩) h
theorem eX3_renew {G : GG} {Q : Int → Mem → Prop} {t : Mem} {a0 : Nat} {v1 v2 : Int} (k : V G mX3_renew 0 [(0, RR a0), (1, II v1), (2, II v2)] [] t Q) : Ex G mX3_renew [RR a0, II v1, II v2] t Q := Ex.of plX3 (Or.inl rfl) (Nat.le_of_ble_eq_true rfl) rfl k
set_option maxRecDepth 100000 in
theorem sgX3_renew_0 {G : GG} {Q : Int → Mem → Prop} {t : Mem} {a0 : Nat} {v1 v2 : Int} (ha0 : IsSheet a0) (h : ∀ u1 : Mem, u1 = wr t a0 0 v1 → ∀ u3 : Mem, u3 = wr u1 a0 1 v2 → V G mX3_renew 12 [(0, RR a0), (1, II v1), (2, II v2), (3, II 0)] [] u3 Q) : V G mX3_renew 0 [(0, RR a0), (1, II v1), (2, II v2)] [] t Q := by
  refine V_aload_n 0 rfl dX3_renew_0 rfl ?_
  refine V_iload_n 1 rfl dX3_renew_1 rfl ?_
  refine pX3_9 rfl ha0.k dX3_renew_2 rfl (fun u1 e2 => ?_)
  have h := h u1 e2
  refine V_aload_n 0 rfl dX3_renew_5 rfl ?_
  refine V_iload_n 2 rfl dX3_renew_6 rfl ?_
  refine pX3_19 rfl ha0.k dX3_renew_7 rfl (fun u3 e4 => ?_)
  have h := h u3 e4
  refine V_iconst dX3_renew_10 rfl ?_
  refine V_istore_n (ls2 := [(0, RR a0), (1, II v1), (2, II v2), (3, II 0)]) dX3_renew_11 rfl (by decide) rfl ?_
  exact h
set_option maxRecDepth 100000 in
theorem sgX3_renew_12 {G : GG} {Q : Int → Mem → Prop} {t : Mem} {a0 : Nat} {v1 v2 v3 : Int} (ha0 : IsSheet a0) (h : In32 v3 ∧ (24 ≤ v3 → Q 0 t) ∧ (¬ 24 ≤ v3 → (0 ≤ v3 ∧ v3 < 24) ∧ ∀ u2 : Mem, u2 = wr t (a0 + 1) v3.toNat 0 → V G mX3_renew 12 [(0, RR a0), (1, II v1), (2, II v2), (3, II (v3 + 1))] [] u2 Q)) : V G mX3_renew 12 [(0, RR a0), (1, II v1), (2, II v2), (3, II v3)] [] t Q := by
  refine V_iload_n 3 rfl dX3_renew_12 rfl ?_
  refine V_bipush (by decide) dX3_renew_13 rfl ?_
  obtain ⟨q1, h⟩ := h
  refine V_icmp_ge q1 (iL rfl) dX3_renew_15 (g := 31) rfl rfl ⟨fun hc => ?_, fun hc => ?_⟩
  · have h := h.1 hc
    exact V_ret dX3_renew_31 rfl h
  · have h := h.2 hc
    refine V_aload_n 0 rfl dX3_renew_18 rfl ?_
    refine gX3_15 rfl ha0.k ha0.r2 dX3_renew_19 rfl ?_
    refine V_iload_n 3 rfl dX3_renew_22 rfl ?_
    refine V_lconst (z := 0) rfl dX3_renew_23 rfl ?_
    obtain ⟨q4, h⟩ := h
    refine V_lastn ha0.k1 ha0.i1 q4 dX3_renew_24 rfl (fun u2 e3 => ?_)
    have h := h u2 e3
    refine V_iinc 3 rfl (ls2 := [(0, RR a0), (1, II v1), (2, II v2), (3, II (v3 + 1))]) dX3_renew_25 rfl (by decide) rfl ?_
    refine V_goto (g := 12) dX3_renew_28 rfl ?_
    exact h
theorem eX3_lacks {G : GG} {Q : Int → Mem → Prop} {t : Mem} {a0 : Nat} {v1 v2 : Int} (k : V G mX3_lacks 0 [(0, RR a0), (1, II v1), (2, II v2)] [] t Q) : Ex G mX3_lacks [RR a0, II v1, II v2] t Q := Ex.of plX3 (Or.inr (Or.inr rfl)) (Nat.le_of_ble_eq_true rfl) rfl k
set_option maxRecDepth 100000 in
theorem sgX3_lacks_0 {G : GG} {Q : Int → Mem → Prop} {t : Mem} {a0 : Nat} {v1 v2 : Int} (ha0 : IsSheet a0) (h : In32 v1 ∧ (v1 < 0 → Q 1 t) ∧ (¬ v1 < 0 → In32 v2 ∧ (v2 < 0 → Q 1 t) ∧ (¬ v2 < 0 → In32 ((t a0 1) - v2) ∧ Q (if v1 ≤ ((t a0 1) - v2) then 0 else 1) t))) : V G mX3_lacks 0 [(0, RR a0), (1, II v1), (2, II v2)] [] t Q := by
  refine V_iload_n 1 rfl dX3_lacks_0 rfl ?_
  obtain ⟨q1, h⟩ := h
  refine V_if_lt q1 dX3_lacks_1 (g := 18) rfl rfl ⟨fun hc => ?_, fun hc => ?_⟩
  · have h := h.1 hc
    refine V_iconst dX3_lacks_18 rfl ?_
    refine V_goto (g := 23) dX3_lacks_19 rfl ?_
    exact V_iret dX3_lacks_23 (Or.inr ⟨rfl, by decide⟩) h
  · have h := h.2 hc
    refine V_iload_n 2 rfl dX3_lacks_4 rfl ?_
    obtain ⟨q2, h⟩ := h
    refine V_if_lt q2 dX3_lacks_5 (g := 18) rfl rfl ⟨fun hc => ?_, fun hc => ?_⟩
    · have h := h.1 hc
      refine V_iconst dX3_lacks_18 rfl ?_
      refine V_goto (g := 23) dX3_lacks_19 rfl ?_
      exact V_iret dX3_lacks_23 (Or.inr ⟨rfl, by decide⟩) h
    · have h := h.2 hc
      refine V_iload_n 1 rfl dX3_lacks_8 rfl ?_
      refine V_aload_n 0 rfl dX3_lacks_9 rfl ?_
      refine gX3_19 rfl ha0.k dX3_lacks_10 rfl ?_
      refine V_iload_n 2 rfl dX3_lacks_13 rfl ?_
      refine V_isub dX3_lacks_14 rfl ?_
      obtain ⟨q3, h⟩ := h
      have hj8 : V G mX3_lacks 23 [(0, RR a0), (1, II v1), (2, II v2)] [II (if v1 ≤ ((t a0 1) - v2) then 0 else 1)] t Q := by
        exact V_iret dX3_lacks_23 (Or.inr ⟨rfl, by split <;> simp⟩) h
      refine V_icmp_le q1 q3 dX3_lacks_15 (g := 22) rfl rfl ⟨fun hc => ?_, fun hc => ?_⟩
      · skip
        refine V_iconst dX3_lacks_22 rfl ?_
        rw [if_pos hc] at hj8
        exact hj8
      · skip
        refine V_iconst dX3_lacks_18 rfl ?_
        refine V_goto (g := 23) dX3_lacks_19 rfl ?_
        rw [if_neg hc] at hj8
        exact hj8
theorem eX3_refusal {G : GG} {Q : Int → Mem → Prop} {t : Mem} {a0 : Nat} {v1 v2 v3 : Int} (k : V G mX3_refusal 0 [(0, RR a0), (1, II v1), (2, II v2), (3, II v3)] [] t Q) : Ex G mX3_refusal [RR a0, II v1, II v2, II v3] t Q := Ex.of plX3 (Or.inr (Or.inl rfl)) (Nat.le_of_ble_eq_true rfl) rfl k
set_option maxRecDepth 100000 in
theorem sgX3_refusal_0 {G : GG} {Q : Int → Mem → Prop} {t : Mem} {a0 : Nat} {v1 v2 v3 : Int} (ha0 : IsSheet a0) (h : In32 (t a0 0) ∧ (¬ (t a0 0) = (-1) → In32 v1 ∧ ((t a0 0) = v1 → ∃ P3 : Int → Mem → Prop, Ex G mX3_lacks [RR a0, II v2, II v3] t P3 ∧ ∀ (r5 : Int) (u6 : Mem), P3 r5 u6 → In32 r5 ∧ Q (if r5 = 0 then 0 else (-13)) u6) ∧ (¬ (t a0 0) = v1 → Q (-12) t)) ∧ ((t a0 0) = (-1) → Q (-11) t)) : V G mX3_refusal 0 [(0, RR a0), (1, II v1), (2, II v2), (3, II v3)] [] t Q := by
  refine V_aload_n 0 rfl dX3_refusal_0 rfl ?_
  refine gX3_9 rfl ha0.k dX3_refusal_1 rfl ?_
  refine V_iconst dX3_refusal_4 rfl ?_
  obtain ⟨q1, h⟩ := h
  refine V_icmp_ne q1 (iL rfl) dX3_refusal_5 (g := 11) rfl rfl ⟨fun hc => ?_, fun hc => ?_⟩
  · have h := h.1 hc
    refine V_aload_n 0 rfl dX3_refusal_11 rfl ?_
    refine gX3_9 rfl ha0.k dX3_refusal_12 rfl ?_
    refine V_iload_n 1 rfl dX3_refusal_15 rfl ?_
    obtain ⟨q2, h⟩ := h
    refine V_icmp_eq q1 q2 dX3_refusal_16 (g := 22) rfl rfl ⟨fun hc => ?_, fun hc => ?_⟩
    · have h := h.1 hc
      refine V_aload_n 0 rfl dX3_refusal_22 rfl ?_
      refine V_iload_n 2 rfl dX3_refusal_23 rfl ?_
      refine V_iload_n 3 rfl dX3_refusal_24 rfl ?_
      obtain ⟨P3, c4, h⟩ := h
      refine V_callVi (st := []) (as := [II v2, II v3]) okX3_lacks rfl mlX3_22 (by decide) ha0.k rfl (Nat.le_of_ble_eq_true rfl) rfl dX3_refusal_25 rfl c4 (fun r5 u6 e7 => ?_)
      have h := h r5 u6 e7
      obtain ⟨q8, h⟩ := h
      have hj13 : V G mX3_refusal 37 [(0, RR a0), (1, II v1), (2, II v2), (3, II v3)] [II (if r5 = 0 then 0 else (-13))] u6 Q := by
        exact V_iret dX3_refusal_37 (Or.inl rfl) h
      refine V_if_eq q8 dX3_refusal_28 (g := 36) rfl rfl ⟨fun hc => ?_, fun hc => ?_⟩
      · skip
        refine V_iconst dX3_refusal_36 rfl ?_
        rw [if_pos hc] at hj13
        exact hj13
      · skip
        refine V_bipush (by decide) dX3_refusal_31 rfl ?_
        refine V_goto (g := 37) dX3_refusal_33 rfl ?_
        rw [if_neg hc] at hj13
        exact hj13
    · have h := h.2 hc
      refine V_bipush (by decide) dX3_refusal_19 rfl ?_
      exact V_iret dX3_refusal_21 (Or.inl rfl) h
  · have h := h.2 hc
    refine V_bipush (by decide) dX3_refusal_8 rfl ?_
    exact V_iret dX3_refusal_10 (Or.inl rfl) h
theorem eX3_put {G : GG} {Q : Int → Mem → Prop} {t : Mem} {a0 : Nat} {v1 v2 : Int} (k : V G mX3_put 0 [(0, RR a0), (1, II v1), (2, JJ v2)] [] t Q) : Ex G mX3_put [RR a0, II v1, JJ v2] t Q := Ex.of plX3 (Or.inl rfl) (Nat.le_of_ble_eq_true rfl) rfl k
set_option maxRecDepth 100000 in
theorem sgX3_put_0 {G : GG} {Q : Int → Mem → Prop} {t : Mem} {a0 : Nat} {v1 v2 : Int} (ha0 : IsSheet a0) (h : In32 (t a0 0) ∧ (t a0 0 = 0 → In32 (iB v2) ∧ (0 ≤ v1 ∧ v1 < 24) ∧ ∀ u4 : Mem, u4 = wr t (a0 + 1) v1.toNat (iB v2) → Q 0 u4) ∧ (t a0 0 = 1 → In32 (iS v2) ∧ (0 ≤ v1 ∧ v1 < 24) ∧ ∀ u8 : Mem, u8 = wr t (a0 + 1) v1.toNat (iS v2) → Q 0 u8) ∧ (t a0 0 = 2 → In32 v2 ∧ (0 ≤ v1 ∧ v1 < 24) ∧ ∀ u12 : Mem, u12 = wr t (a0 + 1) v1.toNat v2 → Q 0 u12) ∧ (((t a0 0) < 0 ∨ 2 < (t a0 0)) → (0 ≤ v1 ∧ v1 < 24) ∧ ∀ u15 : Mem, u15 = wr t (a0 + 1) v1.toNat v2 → Q 0 u15)) : V G mX3_put 0 [(0, RR a0), (1, II v1), (2, JJ v2)] [] t Q := by
  refine V_aload_n 0 rfl dX3_put_0 rfl ?_
  refine gX3_9 rfl ha0.k dX3_put_1 rfl ?_
  obtain ⟨q1, h⟩ := h
  have hs2 : t a0 0 = 0 ∨ t a0 0 = 1 ∨ t a0 0 = 2 ∨ ((t a0 0) < 0 ∨ 2 < (t a0 0)) := by omega
  rcases hs2 with hc | hc | hc | hc
  · have h := h.1 hc
    refine V_tsIn (i := 0) (g := 32) dX3_put_4 hc (by decide) (iL rfl) rfl rfl ?_
    refine V_aload_n 0 rfl dX3_put_32 rfl ?_
    refine gX3_15 rfl ha0.k ha0.r2 dX3_put_33 rfl ?_
    refine V_iload_n 1 rfl dX3_put_36 rfl ?_
    refine V_lload_n 2 rfl dX3_put_37 rfl ?_
    refine V_l2i dX3_put_38 rfl ?_
    refine V_i2b dX3_put_39 rfl ?_
    obtain ⟨q3, h⟩ := h
    refine V_i2l q3 dX3_put_40 rfl ?_
    obtain ⟨q6, h⟩ := h
    refine V_lastn ha0.k1 ha0.i1 q6 dX3_put_41 rfl (fun u4 e5 => ?_)
    have h := h u4 e5
    refine V_goto (g := 77) dX3_put_42 rfl ?_
    exact V_ret dX3_put_77 rfl h
  · have h := h.2.1 hc
    refine V_tsIn (i := 1) (g := 45) dX3_put_4 hc (by decide) (iL rfl) rfl rfl ?_
    refine V_aload_n 0 rfl dX3_put_45 rfl ?_
    refine gX3_15 rfl ha0.k ha0.r2 dX3_put_46 rfl ?_
    refine V_iload_n 1 rfl dX3_put_49 rfl ?_
    refine V_lload_n 2 rfl dX3_put_50 rfl ?_
    refine V_l2i dX3_put_51 rfl ?_
    refine V_i2s dX3_put_52 rfl ?_
    obtain ⟨q7, h⟩ := h
    refine V_i2l q7 dX3_put_53 rfl ?_
    obtain ⟨q10, h⟩ := h
    refine V_lastn ha0.k1 ha0.i1 q10 dX3_put_54 rfl (fun u8 e9 => ?_)
    have h := h u8 e9
    refine V_goto (g := 77) dX3_put_55 rfl ?_
    exact V_ret dX3_put_77 rfl h
  · have h := h.2.2.1 hc
    refine V_tsIn (i := 2) (g := 58) dX3_put_4 hc (by decide) (iL rfl) rfl rfl ?_
    refine V_aload_n 0 rfl dX3_put_58 rfl ?_
    refine gX3_15 rfl ha0.k ha0.r2 dX3_put_59 rfl ?_
    refine V_iload_n 1 rfl dX3_put_62 rfl ?_
    refine V_lload_n 2 rfl dX3_put_63 rfl ?_
    refine V_l2i dX3_put_64 rfl ?_
    obtain ⟨q11, h⟩ := h
    refine V_i2l q11 dX3_put_65 rfl ?_
    obtain ⟨q14, h⟩ := h
    refine V_lastn ha0.k1 ha0.i1 q14 dX3_put_66 rfl (fun u12 e13 => ?_)
    have h := h u12 e13
    refine V_goto (g := 77) dX3_put_67 rfl ?_
    exact V_ret dX3_put_77 rfl h
  · have h := h.2.2.2 hc
    refine V_tsOut (g := 70) dX3_put_4 q1 hc rfl ?_
    refine V_aload_n 0 rfl dX3_put_70 rfl ?_
    refine gX3_15 rfl ha0.k ha0.r2 dX3_put_71 rfl ?_
    refine V_iload_n 1 rfl dX3_put_74 rfl ?_
    refine V_lload_n 2 rfl dX3_put_75 rfl ?_
    obtain ⟨q17, h⟩ := h
    refine V_lastn ha0.k1 ha0.i1 q17 dX3_put_76 rfl (fun u15 e16 => ?_)
    have h := h u15 e16
    exact V_ret dX3_put_77 rfl h
theorem eX4_put {G : GG} {Q : Int → Mem → Prop} {t : Mem} {v1 : Int} (k : V G mX4_put 0 [(0, RR 121), (1, II v1)] [] t Q) : Ex G mX4_put [RR 121, II v1] t Q := Ex.of plX4 (Or.inr (Or.inr rfl)) (Nat.le_of_ble_eq_true rfl) rfl k
set_option maxRecDepth 100000 in
theorem sgX4_put_0 {G : GG} {Q : Int → Mem → Prop} {t : Mem} {v1 : Int}  (h : In32 (t 121 1) ∧ ((t 121 1) < 60 → (0 ≤ t 121 1 ∧ t 121 1 < 60) ∧ ∀ u2 : Mem, u2 = wr t 122 (t 121 1).toNat v1 → ∀ u5 : Mem, u5 = wr u2 121 1 ((u2 121 1) + 1) → Q 1 u5) ∧ (¬ (t 121 1) < 60 → Q 0 t)) : V G mX4_put 0 [(0, RR 121), (1, II v1)] [] t Q := by
  refine V_aload_n 0 rfl dX4_put_0 rfl ?_
  refine gX4_15 rfl kY121 dX4_put_1 rfl ?_
  refine V_bipush (by decide) dX4_put_4 rfl ?_
  obtain ⟨q1, h⟩ := h
  refine V_icmp_lt q1 (iL rfl) dX4_put_6 (g := 11) rfl rfl ⟨fun hc => ?_, fun hc => ?_⟩
  · have h := h.1 hc
    refine V_aload_n 0 rfl dX4_put_11 rfl ?_
    refine gX4_9 rfl kY121 rF121_0 dX4_put_12 rfl ?_
    refine V_aload_n 0 rfl dX4_put_15 rfl ?_
    refine gX4_15 rfl kY121 dX4_put_16 rfl ?_
    refine V_iload_n 1 rfl dX4_put_19 rfl ?_
    obtain ⟨q4, h⟩ := h
    refine V_iastn kY122 lI122 q4 dX4_put_20 rfl (fun u2 e3 => ?_)
    have h := h u2 e3
    refine V_aload_n 0 rfl dX4_put_21 rfl ?_
    refine V_dup rfl dX4_put_22 rfl ?_
    refine gX4_15 rfl kY121 dX4_put_23 rfl ?_
    refine V_iconst dX4_put_26 rfl ?_
    refine V_iadd dX4_put_27 rfl ?_
    refine pX4_15 rfl kY121 dX4_put_28 rfl (fun u5 e6 => ?_)
    have h := h u5 e6
    refine V_iconst dX4_put_31 rfl ?_
    exact V_iret dX4_put_32 (Or.inr ⟨rfl, by decide⟩) h
  · have h := h.2 hc
    refine V_iconst dX4_put_9 rfl ?_
    exact V_iret dX4_put_10 (Or.inr ⟨rfl, by decide⟩) h
theorem eX4_readInto {G : GG} {Q : Int → Mem → Prop} {t : Mem} {a1 : Nat} (k : V G mX4_readInto 0 [(0, RR 121), (1, RR a1)] [] t Q) : Ex G mX4_readInto [RR 121, RR a1] t Q := Ex.of plX4 (Or.inr (Or.inl rfl)) (Nat.le_of_ble_eq_true rfl) rfl k
set_option maxRecDepth 100000 in
theorem sgX4_readInto_0 {G : GG} {Q : Int → Mem → Prop} {t : Mem} {a1 : Nat} (ha1 : IsCamp a1) (h : ∀ u1 : Mem, u1 = wr t 121 2 0 → ∀ u3 : Mem, u3 = wr u1 a1 7 0 → ∀ u5 : Mem, u5 = wr u3 a1 6 (-4) → ∃ P7 : Int → Mem → Prop, Ex G mX4_readWell [RR 121, RR a1] u5 P7 ∧ ∀ (r9 : Int) (u10 : Mem), P7 r9 u10 → In32 r9 ∧ (r9 = 0 → Q ((-20) - (u10 121 2)) u10) ∧ (¬ r9 = 0 → ∃ P13 : Int → Mem → Prop, Ex G mX4_readBeasts [RR 121, RR a1] u10 P13 ∧ ∀ (r15 : Int) (u16 : Mem), P13 r15 u16 → In32 r15 ∧ ∀ w19 : Int, w19 = (if r15 = 0 then (-20) - (u16 121 2) else u16 a1 7) → Q w19 u16)) : V G mX4_readInto 0 [(0, RR 121), (1, RR a1)] [] t Q := by
  refine V_aload_n 0 rfl dX4_readInto_0 rfl ?_
  refine V_iconst dX4_readInto_1 rfl ?_
  refine pX4_19 rfl kY121 dX4_readInto_2 rfl (fun u1 e2 => ?_)
  have h := h u1 e2
  refine V_aload_n 1 rfl dX4_readInto_5 rfl ?_
  refine V_iconst dX4_readInto_6 rfl ?_
  refine pX4_22 rfl ha1.k dX4_readInto_7 rfl (fun u3 e4 => ?_)
  have h := h u3 e4
  refine V_aload_n 1 rfl dX4_readInto_10 rfl ?_
  refine V_bipush (by decide) dX4_readInto_11 rfl ?_
  refine pX4_27 rfl ha1.k dX4_readInto_13 rfl (fun u5 e6 => ?_)
  have h := h u5 e6
  refine V_aload_n 0 rfl dX4_readInto_16 rfl ?_
  refine V_aload_n 1 rfl dX4_readInto_17 rfl ?_
  obtain ⟨P7, c8, h⟩ := h
  refine V_callVi (st := []) (as := [RR a1]) okX4_readWell rfl mlX4_30 (by decide) kY121 rfl (Nat.le_of_ble_eq_true rfl) rfl dX4_readInto_18 rfl c8 (fun r9 u10 e11 => ?_)
  have h := h r9 u10 e11
  obtain ⟨q12, h⟩ := h
  refine V_if_eq q12 dX4_readInto_21 (g := 39) rfl rfl ⟨fun hc => ?_, fun hc => ?_⟩
  · have h := h.1 hc
    refine V_bipush (by decide) dX4_readInto_39 rfl ?_
    refine V_aload_n 0 rfl dX4_readInto_41 rfl ?_
    refine gX4_19 rfl kY121 dX4_readInto_42 rfl ?_
    refine V_isub dX4_readInto_45 rfl ?_
    exact V_iret dX4_readInto_46 (Or.inl rfl) h
  · have h := h.2 hc
    refine V_aload_n 0 rfl dX4_readInto_24 rfl ?_
    refine V_aload_n 1 rfl dX4_readInto_25 rfl ?_
    obtain ⟨P13, c14, h⟩ := h
    refine V_callVi (st := []) (as := [RR a1]) okX4_readBeasts rfl mlX4_34 (by decide) kY121 rfl (Nat.le_of_ble_eq_true rfl) rfl dX4_readInto_26 rfl c14 (fun r15 u16 e17 => ?_)
    have h := h r15 u16 e17
    obtain ⟨q18, h⟩ := h
    have hj23 : ∀ w19 : Int, w19 = (if r15 = 0 then (-20) - (u16 121 2) else u16 a1 7) → V G mX4_readInto 46 [(0, RR 121), (1, RR a1)] [II w19] u16 Q := by
      intro w19 e20
      have h := h w19 e20
      exact V_iret dX4_readInto_46 (Or.inl rfl) h
    have hj23 := hj23 _ rfl
    refine V_if_eq q18 dX4_readInto_29 (g := 39) rfl rfl ⟨fun hc => ?_, fun hc => ?_⟩
    · skip
      refine V_bipush (by decide) dX4_readInto_39 rfl ?_
      refine V_aload_n 0 rfl dX4_readInto_41 rfl ?_
      refine gX4_19 rfl kY121 dX4_readInto_42 rfl ?_
      refine V_isub dX4_readInto_45 rfl ?_
      rw [if_pos hc] at hj23
      exact hj23
    · skip
      refine V_aload_n 1 rfl dX4_readInto_32 rfl ?_
      refine gX4_22 rfl ha1.k dX4_readInto_33 rfl ?_
      refine V_goto (g := 46) dX4_readInto_36 rfl ?_
      rw [if_neg hc] at hj23
      exact hj23
theorem eX4_readWell {G : GG} {Q : Int → Mem → Prop} {t : Mem} {a1 : Nat} (k : V G mX4_readWell 0 [(0, RR 121), (1, RR a1)] [] t Q) : Ex G mX4_readWell [RR 121, RR a1] t Q := Ex.of plX4 (Or.inr (Or.inr rfl)) (Nat.le_of_ble_eq_true rfl) rfl k
set_option maxRecDepth 100000 in
theorem sgX4_readWell_0 {G : GG} {Q : Int → Mem → Prop} {t : Mem} {a1 : Nat} (ha1 : IsCamp a1) (h : ∃ P1 : Int → Mem → Prop, Ex G mX4_readNumber [RR 121, II 60] t P1 ∧ ∀ (r3 : Int) (u4 : Mem), P1 r3 u4 → ∀ u6 : Mem, u6 = wr u4 121 3 r3 → In32 (u6 121 3) ∧ ((u6 121 3) < 0 → Q 0 u6) ∧ (¬ (u6 121 3) < 0 → ∃ P9 : Int → Mem → Prop, Ex G mX4_pass [RR 121, II 44] u6 P9 ∧ ∀ (r11 : Int) (u12 : Mem), P9 r11 u12 → In32 r11 ∧ (¬ r11 = 0 → ∃ P15 : Int → Mem → Prop, Ex G mX4_readNumber [RR 121, II 20] u12 P15 ∧ ∀ (r17 : Int) (u18 : Mem), P15 r17 u18 → ∀ u20 : Mem, u20 = wr u18 a1 0 r17 → In32 (u20 a1 0) ∧ ((u20 a1 0) < 0 → Q 0 u20) ∧ (¬ (u20 a1 0) < 0 → ∃ P23 : Int → Mem → Prop, Ex G mX4_pass [RR 121, II 59] u20 P23 ∧ ∀ (r25 : Int) (u26 : Mem), P23 r25 u26 → In32 r25 ∧ Q (if r25 = 0 then 0 else 1) u26)) ∧ (r11 = 0 → Q 0 u12))) : V G mX4_readWell 0 [(0, RR 121), (1, RR a1)] [] t Q := by
  refine V_aload_n 0 rfl dX4_readWell_0 rfl ?_
  refine V_aload_n 0 rfl dX4_readWell_1 rfl ?_
  refine V_bipush (by decide) dX4_readWell_2 rfl ?_
  obtain ⟨P1, c2, h⟩ := h
  refine V_callVi (st := [RR 121]) (as := [II 60]) okX4_readNumber rfl mlX4_37 (by decide) kY121 rfl (Nat.le_of_ble_eq_true rfl) rfl dX4_readWell_4 rfl c2 (fun r3 u4 e5 => ?_)
  have h := h r3 u4 e5
  refine pX4_41 rfl kY121 dX4_readWell_7 rfl (fun u6 e7 => ?_)
  have h := h u6 e7
  refine V_aload_n 0 rfl dX4_readWell_10 rfl ?_
  refine gX4_41 rfl kY121 dX4_readWell_11 rfl ?_
  obtain ⟨q8, h⟩ := h
  refine V_if_lt q8 dX4_readWell_14 (g := 26) rfl rfl ⟨fun hc => ?_, fun hc => ?_⟩
  · have h := h.1 hc
    refine V_iconst dX4_readWell_26 rfl ?_
    exact V_iret dX4_readWell_27 (Or.inr ⟨rfl, by decide⟩) h
  · have h := h.2 hc
    refine V_aload_n 0 rfl dX4_readWell_17 rfl ?_
    refine V_bipush (by decide) dX4_readWell_18 rfl ?_
    obtain ⟨P9, c10, h⟩ := h
    refine V_callVi (st := []) (as := [II 44]) okX4_pass rfl mlX4_44 (by decide) kY121 rfl (Nat.le_of_ble_eq_true rfl) rfl dX4_readWell_20 rfl c10 (fun r11 u12 e13 => ?_)
    have h := h r11 u12 e13
    obtain ⟨q14, h⟩ := h
    refine V_if_ne q14 dX4_readWell_23 (g := 28) rfl rfl ⟨fun hc => ?_, fun hc => ?_⟩
    · have h := h.1 hc
      refine V_aload_n 1 rfl dX4_readWell_28 rfl ?_
      refine V_aload_n 0 rfl dX4_readWell_29 rfl ?_
      refine V_bipush (by decide) dX4_readWell_30 rfl ?_
      obtain ⟨P15, c16, h⟩ := h
      refine V_callVi (st := [RR a1]) (as := [II 20]) okX4_readNumber rfl mlX4_37 (by decide) kY121 rfl (Nat.le_of_ble_eq_true rfl) rfl dX4_readWell_32 rfl c16 (fun r17 u18 e19 => ?_)
      have h := h r17 u18 e19
      refine pX4_48 rfl ha1.k dX4_readWell_35 rfl (fun u20 e21 => ?_)
      have h := h u20 e21
      refine V_aload_n 1 rfl dX4_readWell_38 rfl ?_
      refine gX4_48 rfl ha1.k dX4_readWell_39 rfl ?_
      obtain ⟨q22, h⟩ := h
      refine V_if_lt q22 dX4_readWell_42 (g := 58) rfl rfl ⟨fun hc => ?_, fun hc => ?_⟩
      · have h := h.1 hc
        refine V_iconst dX4_readWell_58 rfl ?_
        exact V_iret dX4_readWell_59 (Or.inr ⟨rfl, by decide⟩) h
      · have h := h.2 hc
        refine V_aload_n 0 rfl dX4_readWell_45 rfl ?_
        refine V_bipush (by decide) dX4_readWell_46 rfl ?_
        obtain ⟨P23, c24, h⟩ := h
        refine V_callVi (st := []) (as := [II 59]) okX4_pass rfl mlX4_44 (by decide) kY121 rfl (Nat.le_of_ble_eq_true rfl) rfl dX4_readWell_48 rfl c24 (fun r25 u26 e27 => ?_)
        have h := h r25 u26 e27
        obtain ⟨q28, h⟩ := h
        have hj33 : V G mX4_readWell 59 [(0, RR 121), (1, RR a1)] [II (if r25 = 0 then 0 else 1)] u26 Q := by
          exact V_iret dX4_readWell_59 (Or.inr ⟨rfl, by split <;> simp⟩) h
        refine V_if_eq q28 dX4_readWell_51 (g := 58) rfl rfl ⟨fun hc => ?_, fun hc => ?_⟩
        · skip
          refine V_iconst dX4_readWell_58 rfl ?_
          rw [if_pos hc] at hj33
          exact hj33
        · skip
          refine V_iconst dX4_readWell_54 rfl ?_
          refine V_goto (g := 59) dX4_readWell_55 rfl ?_
          rw [if_neg hc] at hj33
          exact hj33
    · have h := h.2 hc
      refine V_iconst dX4_readWell_26 rfl ?_
      exact V_iret dX4_readWell_27 (Or.inr ⟨rfl, by decide⟩) h
theorem eX4_readBeasts {G : GG} {Q : Int → Mem → Prop} {t : Mem} {a1 : Nat} (k : V G mX4_readBeasts 0 [(0, RR 121), (1, RR a1)] [] t Q) : Ex G mX4_readBeasts [RR 121, RR a1] t Q := Ex.of plX4 (Or.inr (Or.inr rfl)) (Nat.le_of_ble_eq_true rfl) rfl k
set_option maxRecDepth 100000 in
theorem sgX4_readBeasts_0 {G : GG} {Q : Int → Mem → Prop} {t : Mem} {a1 : Nat} (ha1 : IsCamp a1) (h : V G mX4_readBeasts 4 [(0, RR 121), (1, RR a1), (2, II 1), (3, II 0)] [] t Q) : V G mX4_readBeasts 0 [(0, RR 121), (1, RR a1)] [] t Q := by
  refine V_iconst dX4_readBeasts_0 rfl ?_
  refine V_istore_n (ls2 := [(0, RR 121), (1, RR a1), (2, II 1)]) dX4_readBeasts_1 rfl (by decide) rfl ?_
  refine V_iconst dX4_readBeasts_2 rfl ?_
  refine V_istore_n (ls2 := [(0, RR 121), (1, RR a1), (2, II 1), (3, II 0)]) dX4_readBeasts_3 rfl (by decide) rfl ?_
  exact h
set_option maxRecDepth 100000 in
theorem sgX4_readBeasts_4 {G : GG} {Q : Int → Mem → Prop} {t : Mem} {a1 : Nat} {v2 v3 : Int} (ha1 : IsCamp a1) (h : In32 v3 ∧ (7 ≤ v3 → ∃ P2 : Int → Mem → Prop, Ex G mX4_ahead [RR 121] t P2 ∧ ∀ (r4 : Int) (u5 : Mem), P2 r4 u5 → In32 r4 ∧ Q (if r4 = (-1) then 1 else 0) u5) ∧ (¬ 7 ≤ v3 → In32 v2 ∧ (v2 = 0 → ∃ P14 : Int → Mem → Prop, Ex G mX4_ahead [RR 121] t P14 ∧ ∀ (r16 : Int) (u17 : Mem), P14 r16 u17 → In32 r16 ∧ Q (if r16 = (-1) then 1 else 0) u17) ∧ (¬ v2 = 0 → ∃ P25 : Int → Mem → Prop, Ex G mX4_readBeast [RR 121, RR a1] t P25 ∧ ∀ (r27 : Int) (u28 : Mem), P25 r27 u28 → In32 r27 ∧ (¬ r27 = 0 → (6 ≤ v3 → V G mX4_readBeasts 4 [(0, RR 121), (1, RR a1), (2, II 0), (3, II (v3 + 1))] [] u28 Q) ∧ (¬ 6 ≤ v3 → ∃ P31 : Int → Mem → Prop, Ex G mX4_pass [RR 121, II 44] u28 P31 ∧ ∀ (r33 : Int) (u34 : Mem), P31 r33 u34 → In32 r33 ∧ V G mX4_readBeasts 4 [(0, RR 121), (1, RR a1), (2, II (if r33 = 0 then 0 else 1)), (3, II (v3 + 1))] [] u34 Q)) ∧ (r27 = 0 → Q 0 u28)))) : V G mX4_readBeasts 4 [(0, RR 121), (1, RR a1), (2, II v2), (3, II v3)] [] t Q := by
  refine V_iload_n 3 rfl dX4_readBeasts_4 rfl ?_
  refine V_bipush (by decide) dX4_readBeasts_5 rfl ?_
  obtain ⟨q1, h⟩ := h
  refine V_icmp_ge q1 (iL rfl) dX4_readBeasts_7 (g := 51) rfl rfl ⟨fun hc => ?_, fun hc => ?_⟩
  · have h := h.1 hc
    refine V_aload_n 0 rfl dX4_readBeasts_51 rfl ?_
    obtain ⟨P2, c3, h⟩ := h
    refine V_callVi (st := []) (as := []) okX4_ahead rfl mlX4_54 (by decide) kY121 rfl (Nat.le_of_ble_eq_true rfl) rfl dX4_readBeasts_52 rfl c3 (fun r4 u5 e6 => ?_)
    have h := h r4 u5 e6
    refine V_iconst dX4_readBeasts_55 rfl ?_
    obtain ⟨q7, h⟩ := h
    have hj12 : V G mX4_readBeasts 64 [(0, RR 121), (1, RR a1), (2, II v2), (3, II v3)] [II (if r4 = (-1) then 1 else 0)] u5 Q := by
      exact V_iret dX4_readBeasts_64 (Or.inr ⟨rfl, by split <;> simp⟩) h
    refine V_icmp_ne q7 (iL rfl) dX4_readBeasts_56 (g := 63) rfl rfl ⟨fun hc => ?_, fun hc => ?_⟩
    · skip
      refine V_iconst dX4_readBeasts_63 rfl ?_
      rw [if_neg hc] at hj12
      exact hj12
    · skip
      refine V_iconst dX4_readBeasts_59 rfl ?_
      refine V_goto (g := 64) dX4_readBeasts_60 rfl ?_
      rw [if_pos hc] at hj12
      exact hj12
  · have h := h.2 hc
    refine V_iload_n 2 rfl dX4_readBeasts_10 rfl ?_
    obtain ⟨q13, h⟩ := h
    refine V_if_eq q13 dX4_readBeasts_11 (g := 51) rfl rfl ⟨fun hc => ?_, fun hc => ?_⟩
    · have h := h.1 hc
      refine V_aload_n 0 rfl dX4_readBeasts_51 rfl ?_
      obtain ⟨P14, c15, h⟩ := h
      refine V_callVi (st := []) (as := []) okX4_ahead rfl mlX4_54 (by decide) kY121 rfl (Nat.le_of_ble_eq_true rfl) rfl dX4_readBeasts_52 rfl c15 (fun r16 u17 e18 => ?_)
      have h := h r16 u17 e18
      refine V_iconst dX4_readBeasts_55 rfl ?_
      obtain ⟨q19, h⟩ := h
      have hj24 : V G mX4_readBeasts 64 [(0, RR 121), (1, RR a1), (2, II v2), (3, II v3)] [II (if r16 = (-1) then 1 else 0)] u17 Q := by
        exact V_iret dX4_readBeasts_64 (Or.inr ⟨rfl, by split <;> simp⟩) h
      refine V_icmp_ne q19 (iL rfl) dX4_readBeasts_56 (g := 63) rfl rfl ⟨fun hc => ?_, fun hc => ?_⟩
      · skip
        refine V_iconst dX4_readBeasts_63 rfl ?_
        rw [if_neg hc] at hj24
        exact hj24
      · skip
        refine V_iconst dX4_readBeasts_59 rfl ?_
        refine V_goto (g := 64) dX4_readBeasts_60 rfl ?_
        rw [if_pos hc] at hj24
        exact hj24
    · have h := h.2 hc
      refine V_aload_n 0 rfl dX4_readBeasts_14 rfl ?_
      refine V_aload_n 1 rfl dX4_readBeasts_15 rfl ?_
      obtain ⟨P25, c26, h⟩ := h
      refine V_callVi (st := []) (as := [RR a1]) okX4_readBeast rfl mlX4_51 (by decide) kY121 rfl (Nat.le_of_ble_eq_true rfl) rfl dX4_readBeasts_16 rfl c26 (fun r27 u28 e29 => ?_)
      have h := h r27 u28 e29
      obtain ⟨q30, h⟩ := h
      refine V_if_ne q30 dX4_readBeasts_19 (g := 24) rfl rfl ⟨fun hc => ?_, fun hc => ?_⟩
      · have h := h.1 hc
        refine V_iload_n 3 rfl dX4_readBeasts_24 rfl ?_
        refine V_bipush (by decide) dX4_readBeasts_25 rfl ?_
        refine V_icmp_ge q1 (iL rfl) dX4_readBeasts_27 (g := 43) rfl rfl ⟨fun hc => ?_, fun hc => ?_⟩
        · have h := h.1 hc
          refine V_iconst dX4_readBeasts_43 rfl ?_
          refine V_istore_n (ls2 := [(0, RR 121), (1, RR a1), (2, II 0), (3, II v3)]) dX4_readBeasts_44 rfl (by decide) rfl ?_
          refine V_iinc 3 rfl (ls2 := [(0, RR 121), (1, RR a1), (2, II 0), (3, II (v3 + 1))]) dX4_readBeasts_45 rfl (by decide) rfl ?_
          refine V_goto (g := 4) dX4_readBeasts_48 rfl ?_
          exact h
        · have h := h.2 hc
          refine V_aload_n 0 rfl dX4_readBeasts_30 rfl ?_
          refine V_bipush (by decide) dX4_readBeasts_31 rfl ?_
          obtain ⟨P31, c32, h⟩ := h
          refine V_callVi (st := []) (as := [II 44]) okX4_pass rfl mlX4_44 (by decide) kY121 rfl (Nat.le_of_ble_eq_true rfl) rfl dX4_readBeasts_33 rfl c32 (fun r33 u34 e35 => ?_)
          have h := h r33 u34 e35
          obtain ⟨q36, h⟩ := h
          have hj41 : V G mX4_readBeasts 44 [(0, RR 121), (1, RR a1), (2, II v2), (3, II v3)] [II (if r33 = 0 then 0 else 1)] u34 Q := by
            refine V_istore_n (ls2 := [(0, RR 121), (1, RR a1), (2, II (if r33 = 0 then 0 else 1)), (3, II v3)]) dX4_readBeasts_44 rfl (by decide) rfl ?_
            refine V_iinc 3 rfl (ls2 := [(0, RR 121), (1, RR a1), (2, II (if r33 = 0 then 0 else 1)), (3, II (v3 + 1))]) dX4_readBeasts_45 rfl (by decide) rfl ?_
            refine V_goto (g := 4) dX4_readBeasts_48 rfl ?_
            exact h
          refine V_if_eq q36 dX4_readBeasts_36 (g := 43) rfl rfl ⟨fun hc => ?_, fun hc => ?_⟩
          · skip
            refine V_iconst dX4_readBeasts_43 rfl ?_
            rw [if_pos hc] at hj41
            exact hj41
          · skip
            refine V_iconst dX4_readBeasts_39 rfl ?_
            refine V_goto (g := 44) dX4_readBeasts_40 rfl ?_
            rw [if_neg hc] at hj41
            exact hj41
      · have h := h.2 hc
        refine V_iconst dX4_readBeasts_22 rfl ?_
        exact V_iret dX4_readBeasts_23 (Or.inr ⟨rfl, by decide⟩) h
theorem eX4_readBeast {G : GG} {Q : Int → Mem → Prop} {t : Mem} {a1 : Nat} (k : V G mX4_readBeast 0 [(0, RR 121), (1, RR a1)] [] t Q) : Ex G mX4_readBeast [RR 121, RR a1] t Q := Ex.of plX4 (Or.inr (Or.inr rfl)) (Nat.le_of_ble_eq_true rfl) rfl k
set_option maxRecDepth 100000 in
theorem sgX4_readBeast_0 {G : GG} {Q : Int → Mem → Prop} {t : Mem} {a1 : Nat} (ha1 : IsCamp a1) (h : ∃ P1 : Int → Mem → Prop, Ex G mX4_ahead [RR 121] t P1 ∧ ∀ (r3 : Int) (u4 : Mem), P1 r3 u4 → ∃ P6 : Int → Mem → Prop, Ex G mX4_kindOf [RR 121, II r3] u4 P6 ∧ ∀ (r8 : Int) (u9 : Mem), P6 r8 u9 → In32 r8 ∧ (¬ r8 = (-4) → ∀ u12 : Mem, u12 = wr u9 121 2 ((u9 121 2) + 1) → ∃ P14 : Int → Mem → Prop, Ex G mX4_ahead [RR 121] u12 P14 ∧ ∀ (r16 : Int) (u17 : Mem), P14 r16 u17 → ∃ P19 : Int → Mem → Prop, Ex G mX5_outside [II (r16 - 48), II 1, II 9] u17 P19 ∧ ∀ (r21 : Int) (u22 : Mem), P19 r21 u22 → In32 r21 ∧ (r21 = 0 → ∀ u25 : Mem, u25 = wr u22 121 2 ((u22 121 2) + 1) → ∃ P27 : Int → Mem → Prop, Ex G mX4_pass [RR 121, II 98] u25 P27 ∧ ∀ (r29 : Int) (u30 : Mem), P27 r29 u30 → In32 r29 ∧ ∃ P38 : Int → Mem → Prop, Ex G mX0_add [RR a1, II r8, II (r16 - 48), II (if r29 = 0 then 0 else 1)] u30 P38 ∧ ∀ u41 : Mem, P38 0 u41 → Q 1 u41) ∧ (¬ r21 = 0 → Q 0 u22)) ∧ (r8 = (-4) → Q 0 u9)) : V G mX4_readBeast 0 [(0, RR 121), (1, RR a1)] [] t Q := by
  refine V_aload_n 0 rfl dX4_readBeast_0 rfl ?_
  refine V_aload_n 0 rfl dX4_readBeast_1 rfl ?_
  obtain ⟨P1, c2, h⟩ := h
  refine V_callVi (st := [RR 121]) (as := []) okX4_ahead rfl mlX4_54 (by decide) kY121 rfl (Nat.le_of_ble_eq_true rfl) rfl dX4_readBeast_2 rfl c2 (fun r3 u4 e5 => ?_)
  have h := h r3 u4 e5
  obtain ⟨P6, c7, h⟩ := h
  refine V_callVi (st := []) (as := [II r3]) okX4_kindOf rfl mlX4_58 (by decide) kY121 rfl (Nat.le_of_ble_eq_true rfl) rfl dX4_readBeast_5 rfl c7 (fun r8 u9 e10 => ?_)
  have h := h r8 u9 e10
  refine V_istore_n (ls2 := [(0, RR 121), (1, RR a1), (2, II r8)]) dX4_readBeast_8 rfl (by decide) rfl ?_
  refine V_iload_n 2 rfl dX4_readBeast_9 rfl ?_
  refine V_bipush (by decide) dX4_readBeast_10 rfl ?_
  obtain ⟨q11, h⟩ := h
  refine V_icmp_ne q11 (iL rfl) dX4_readBeast_12 (g := 17) rfl rfl ⟨fun hc => ?_, fun hc => ?_⟩
  · have h := h.1 hc
    refine V_aload_n 0 rfl dX4_readBeast_17 rfl ?_
    refine V_dup rfl dX4_readBeast_18 rfl ?_
    refine gX4_19 rfl kY121 dX4_readBeast_19 rfl ?_
    refine V_iconst dX4_readBeast_22 rfl ?_
    refine V_iadd dX4_readBeast_23 rfl ?_
    refine pX4_19 rfl kY121 dX4_readBeast_24 rfl (fun u12 e13 => ?_)
    have h := h u12 e13
    refine V_aload_n 0 rfl dX4_readBeast_27 rfl ?_
    obtain ⟨P14, c15, h⟩ := h
    refine V_callVi (st := []) (as := []) okX4_ahead rfl mlX4_54 (by decide) kY121 rfl (Nat.le_of_ble_eq_true rfl) rfl dX4_readBeast_28 rfl c15 (fun r16 u17 e18 => ?_)
    have h := h r16 u17 e18
    refine V_bipush (by decide) dX4_readBeast_31 rfl ?_
    refine V_isub dX4_readBeast_33 rfl ?_
    refine V_istore_n (ls2 := [(0, RR 121), (1, RR a1), (2, II r8), (3, II (r16 - 48))]) dX4_readBeast_34 rfl (by decide) rfl ?_
    refine V_iload_n 3 rfl dX4_readBeast_35 rfl ?_
    refine V_iconst dX4_readBeast_36 rfl ?_
    refine V_bipush (by decide) dX4_readBeast_37 rfl ?_
    obtain ⟨P19, c20, h⟩ := h
    refine V_callSi (st := []) (as := [II (r16 - 48), II 1, II 9]) okX5_outside rfl mlX4_61 (by decide) rfl (Nat.le_of_ble_eq_true rfl) rfl dX4_readBeast_39 rfl c20 (fun r21 u22 e23 => ?_)
    have h := h r21 u22 e23
    obtain ⟨q24, h⟩ := h
    refine V_if_eq q24 dX4_readBeast_42 (g := 47) rfl rfl ⟨fun hc => ?_, fun hc => ?_⟩
    · have h := h.1 hc
      refine V_aload_n 0 rfl dX4_readBeast_47 rfl ?_
      refine V_dup rfl dX4_readBeast_48 rfl ?_
      refine gX4_19 rfl kY121 dX4_readBeast_49 rfl ?_
      refine V_iconst dX4_readBeast_52 rfl ?_
      refine V_iadd dX4_readBeast_53 rfl ?_
      refine pX4_19 rfl kY121 dX4_readBeast_54 rfl (fun u25 e26 => ?_)
      have h := h u25 e26
      refine V_aload_n 1 rfl dX4_readBeast_57 rfl ?_
      refine V_iload_n 2 rfl dX4_readBeast_58 rfl ?_
      refine V_iload_n 3 rfl dX4_readBeast_59 rfl ?_
      refine V_aload_n 0 rfl dX4_readBeast_60 rfl ?_
      refine V_bipush (by decide) dX4_readBeast_61 rfl ?_
      obtain ⟨P27, c28, h⟩ := h
      refine V_callVi (st := [II (r16 - 48), II r8, RR a1]) (as := [II 98]) okX4_pass rfl mlX4_44 (by decide) kY121 rfl (Nat.le_of_ble_eq_true rfl) rfl dX4_readBeast_63 rfl c28 (fun r29 u30 e31 => ?_)
      have h := h r29 u30 e31
      obtain ⟨q32, h⟩ := h
      have hj37 : V G mX4_readBeast 74 [(0, RR 121), (1, RR a1), (2, II r8), (3, II (r16 - 48))] [II (if r29 = 0 then 0 else 1), II (r16 - 48), II r8, RR a1] u30 Q := by
        obtain ⟨P38, c39, h⟩ := h
        refine V_callVv (st := []) (as := [II r8, II (r16 - 48), II (if r29 = 0 then 0 else 1)]) okX0_add rfl mlX4_65 (by decide) ha1.k rfl (Nat.le_of_ble_eq_true rfl) rfl dX4_readBeast_74 rfl c39 (fun u41 e42 => ?_)
        have h := h u41 e42
        refine V_iconst dX4_readBeast_77 rfl ?_
        exact V_iret dX4_readBeast_78 (Or.inr ⟨rfl, by decide⟩) h
      refine V_if_eq q32 dX4_readBeast_66 (g := 73) rfl rfl ⟨fun hc => ?_, fun hc => ?_⟩
      · skip
        refine V_iconst dX4_readBeast_73 rfl ?_
        rw [if_pos hc] at hj37
        exact hj37
      · skip
        refine V_iconst dX4_readBeast_69 rfl ?_
        refine V_goto (g := 74) dX4_readBeast_70 rfl ?_
        rw [if_neg hc] at hj37
        exact hj37
    · have h := h.2 hc
      refine V_iconst dX4_readBeast_45 rfl ?_
      exact V_iret dX4_readBeast_46 (Or.inr ⟨rfl, by decide⟩) h
  · have h := h.2 hc
    refine V_iconst dX4_readBeast_15 rfl ?_
    exact V_iret dX4_readBeast_16 (Or.inr ⟨rfl, by decide⟩) h
theorem eX4_kindOf {G : GG} {Q : Int → Mem → Prop} {t : Mem} {v1 : Int} (k : V G mX4_kindOf 0 [(0, RR 121), (1, II v1)] [] t Q) : Ex G mX4_kindOf [RR 121, II v1] t Q := Ex.of plX4 (Or.inr (Or.inl rfl)) (Nat.le_of_ble_eq_true rfl) rfl k
set_option maxRecDepth 100000 in
theorem sgX4_kindOf_0 {G : GG} {Q : Int → Mem → Prop} {t : Mem} {v1 : Int}  (h : In32 v1 ∧ (v1 = 103 → Q 3 t) ∧ (v1 = 109 → Q 1 t) ∧ (v1 = 112 → Q 0 t) ∧ (v1 = 121 → Q 2 t) ∧ ((v1 ≠ 103 ∧ v1 ≠ 109 ∧ v1 ≠ 112 ∧ v1 ≠ 121) → Q (-4) t)) : V G mX4_kindOf 0 [(0, RR 121), (1, II v1)] [] t Q := by
  refine V_iload_n 1 rfl dX4_kindOf_0 rfl ?_
  obtain ⟨q1, h⟩ := h
  have hs2 : v1 = 103 ∨ v1 = 109 ∨ v1 = 112 ∨ v1 = 121 ∨ (v1 ≠ 103 ∧ v1 ≠ 109 ∧ v1 ≠ 112 ∧ v1 ≠ 121) := by omega
  rcases hs2 with hc | hc | hc | hc | hc
  · have h := h.1 hc
    refine V_look (g := 50) (f := 49) dX4_kindOf_1 q1 (by decide) (by rw [hc]; decide) rfl ?_
    refine V_iconst dX4_kindOf_50 rfl ?_
    exact V_iret dX4_kindOf_51 (Or.inl rfl) h
  · have h := h.2.1 hc
    refine V_look (g := 46) (f := 45) dX4_kindOf_1 q1 (by decide) (by rw [hc]; decide) rfl ?_
    refine V_iconst dX4_kindOf_46 rfl ?_
    exact V_iret dX4_kindOf_47 (Or.inl rfl) h
  · have h := h.2.2.1 hc
    refine V_look (g := 44) (f := 43) dX4_kindOf_1 q1 (by decide) (by rw [hc]; decide) rfl ?_
    refine V_iconst dX4_kindOf_44 rfl ?_
    exact V_iret dX4_kindOf_45 (Or.inl rfl) h
  · have h := h.2.2.2.1 hc
    refine V_look (g := 48) (f := 47) dX4_kindOf_1 q1 (by decide) (by rw [hc]; decide) rfl ?_
    refine V_iconst dX4_kindOf_48 rfl ?_
    exact V_iret dX4_kindOf_49 (Or.inl rfl) h
  · have h := h.2.2.2.2 hc
    refine V_look (g := 52) (f := 51) dX4_kindOf_1 q1 (by decide) (lk_out4 hc) rfl ?_
    refine V_bipush (by decide) dX4_kindOf_52 rfl ?_
    exact V_iret dX4_kindOf_54 (Or.inl rfl) h
theorem eX4_readNumber {G : GG} {Q : Int → Mem → Prop} {t : Mem} {v1 : Int} (k : V G mX4_readNumber 0 [(0, RR 121), (1, II v1)] [] t Q) : Ex G mX4_readNumber [RR 121, II v1] t Q := Ex.of plX4 (Or.inr (Or.inl rfl)) (Nat.le_of_ble_eq_true rfl) rfl k
set_option maxRecDepth 100000 in
theorem sgX4_readNumber_0 {G : GG} {Q : Int → Mem → Prop} {t : Mem} {v1 : Int}  (h : ∃ P1 : Int → Mem → Prop, Ex G mX4_ahead [RR 121] t P1 ∧ ∀ (r3 : Int) (u4 : Mem), P1 r3 u4 → ∃ P6 : Int → Mem → Prop, Ex G mX4_digit [RR 121, II r3] u4 P6 ∧ ∀ (r8 : Int) (u9 : Mem), P6 r8 u9 → In32 r8 ∧ (¬ r8 = 0 → (0 ≤ u9 121 2 ∧ u9 121 2 < 60) ∧ ∀ u13 : Mem, u13 = wr u9 121 2 ((u9 121 2) + 1) → In32 (u13 121 2) ∧ In32 (u13 121 1) ∧ ((u13 121 1) ≤ (u13 121 2) → In32 ((u9 122 (u9 121 2).toNat) - 48) ∧ In32 v1 ∧ (((u9 122 (u9 121 2).toNat) - 48) ≤ v1 → Q ((u9 122 (u9 121 2).toNat) - 48) u13) ∧ (¬ ((u9 122 (u9 121 2).toNat) - 48) ≤ v1 → ∀ u19 : Mem, u19 = wr u13 121 2 (u9 121 2) → Q (-4) u19)) ∧ (¬ (u13 121 1) ≤ (u13 121 2) → (0 ≤ u13 121 2 ∧ u13 121 2 < 60) ∧ ∃ P22 : Int → Mem → Prop, Ex G mX4_digit [RR 121, II (u13 122 (u13 121 2).toNat)] u13 P22 ∧ ∀ (r24 : Int) (u25 : Mem), P22 r24 u25 → In32 r24 ∧ (r24 = 0 → In32 ((u9 122 (u9 121 2).toNat) - 48) ∧ In32 v1 ∧ (((u9 122 (u9 121 2).toNat) - 48) ≤ v1 → Q ((u9 122 (u9 121 2).toNat) - 48) u25) ∧ (¬ ((u9 122 (u9 121 2).toNat) - 48) ≤ v1 → ∀ u30 : Mem, u30 = wr u25 121 2 (u9 121 2) → Q (-4) u30)) ∧ (¬ r24 = 0 → (0 ≤ u25 121 2 ∧ u25 121 2 < 60) ∧ ∀ u33 : Mem, u33 = wr u25 121 2 ((u25 121 2) + 1) → In32 (((10 * ((u9 122 (u9 121 2).toNat) - 48)) + (u25 122 (u25 121 2).toNat)) - 48) ∧ In32 v1 ∧ ((((10 * ((u9 122 (u9 121 2).toNat) - 48)) + (u25 122 (u25 121 2).toNat)) - 48) ≤ v1 → Q (((10 * ((u9 122 (u9 121 2).toNat) - 48)) + (u25 122 (u25 121 2).toNat)) - 48) u33) ∧ (¬ (((10 * ((u9 122 (u9 121 2).toNat) - 48)) + (u25 122 (u25 121 2).toNat)) - 48) ≤ v1 → ∀ u37 : Mem, u37 = wr u33 121 2 (u9 121 2) → Q (-4) u37)))) ∧ (r8 = 0 → Q (-4) u9)) : V G mX4_readNumber 0 [(0, RR 121), (1, II v1)] [] t Q := by
  refine V_aload_n 0 rfl dX4_readNumber_0 rfl ?_
  refine V_aload_n 0 rfl dX4_readNumber_1 rfl ?_
  obtain ⟨P1, c2, h⟩ := h
  refine V_callVi (st := [RR 121]) (as := []) okX4_ahead rfl mlX4_54 (by decide) kY121 rfl (Nat.le_of_ble_eq_true rfl) rfl dX4_readNumber_2 rfl c2 (fun r3 u4 e5 => ?_)
  have h := h r3 u4 e5
  obtain ⟨P6, c7, h⟩ := h
  refine V_callVi (st := []) (as := [II r3]) okX4_digit rfl mlX4_69 (by decide) kY121 rfl (Nat.le_of_ble_eq_true rfl) rfl dX4_readNumber_5 rfl c7 (fun r8 u9 e10 => ?_)
  have h := h r8 u9 e10
  obtain ⟨q11, h⟩ := h
  refine V_if_ne q11 dX4_readNumber_8 (g := 14) rfl rfl ⟨fun hc => ?_, fun hc => ?_⟩
  · have h := h.1 hc
    refine V_aload_n 0 rfl dX4_readNumber_14 rfl ?_
    refine gX4_19 rfl kY121 dX4_readNumber_15 rfl ?_
    refine V_istore_n (ls2 := [(0, RR 121), (1, II v1), (2, II (u9 121 2))]) dX4_readNumber_18 rfl (by decide) rfl ?_
    refine V_aload_n 0 rfl dX4_readNumber_19 rfl ?_
    refine gX4_9 rfl kY121 rF121_0 dX4_readNumber_20 rfl ?_
    refine V_aload_n 0 rfl dX4_readNumber_23 rfl ?_
    refine gX4_19 rfl kY121 dX4_readNumber_24 rfl ?_
    obtain ⟨q12, h⟩ := h
    refine V_ialdn kY122 lI122 q12 dX4_readNumber_27 rfl ?_
    refine V_bipush (by decide) dX4_readNumber_28 rfl ?_
    refine V_isub dX4_readNumber_30 rfl ?_
    refine V_istore_n (ls2 := [(0, RR 121), (1, II v1), (2, II (u9 121 2)), (3, II ((u9 122 (u9 121 2).toNat) - 48))]) dX4_readNumber_31 rfl (by decide) rfl ?_
    refine V_aload_n 0 rfl dX4_readNumber_32 rfl ?_
    refine V_dup rfl dX4_readNumber_33 rfl ?_
    refine gX4_19 rfl kY121 dX4_readNumber_34 rfl ?_
    refine V_iconst dX4_readNumber_37 rfl ?_
    refine V_iadd dX4_readNumber_38 rfl ?_
    refine pX4_19 rfl kY121 dX4_readNumber_39 rfl (fun u13 e14 => ?_)
    have h := h u13 e14
    refine V_aload_n 0 rfl dX4_readNumber_42 rfl ?_
    refine gX4_19 rfl kY121 dX4_readNumber_43 rfl ?_
    refine V_aload_n 0 rfl dX4_readNumber_46 rfl ?_
    refine gX4_15 rfl kY121 dX4_readNumber_47 rfl ?_
    obtain ⟨q15, h⟩ := h
    obtain ⟨q16, h⟩ := h
    refine V_icmp_ge q15 q16 dX4_readNumber_50 (g := 97) rfl rfl ⟨fun hc => ?_, fun hc => ?_⟩
    · have h := h.1 hc
      refine V_iload_n 3 rfl dX4_readNumber_97 rfl ?_
      refine V_iload_n 1 rfl dX4_readNumber_98 rfl ?_
      obtain ⟨q17, h⟩ := h
      obtain ⟨q18, h⟩ := h
      refine V_icmp_le q17 q18 dX4_readNumber_99 (g := 110) rfl rfl ⟨fun hc => ?_, fun hc => ?_⟩
      · have h := h.1 hc
        refine V_iload_n 3 rfl dX4_readNumber_110 rfl ?_
        exact V_iret dX4_readNumber_111 (Or.inl rfl) h
      · have h := h.2 hc
        refine V_aload_n 0 rfl dX4_readNumber_102 rfl ?_
        refine V_iload_n 2 rfl dX4_readNumber_103 rfl ?_
        refine pX4_19 rfl kY121 dX4_readNumber_104 rfl (fun u19 e20 => ?_)
        have h := h u19 e20
        refine V_bipush (by decide) dX4_readNumber_107 rfl ?_
        exact V_iret dX4_readNumber_109 (Or.inl rfl) h
    · have h := h.2 hc
      refine V_aload_n 0 rfl dX4_readNumber_53 rfl ?_
      refine V_aload_n 0 rfl dX4_readNumber_54 rfl ?_
      refine gX4_9 rfl kY121 rF121_0 dX4_readNumber_55 rfl ?_
      refine V_aload_n 0 rfl dX4_readNumber_58 rfl ?_
      refine gX4_19 rfl kY121 dX4_readNumber_59 rfl ?_
      obtain ⟨q21, h⟩ := h
      refine V_ialdn kY122 lI122 q21 dX4_readNumber_62 rfl ?_
      obtain ⟨P22, c23, h⟩ := h
      refine V_callVi (st := []) (as := [II (u13 122 (u13 121 2).toNat)]) okX4_digit rfl mlX4_69 (by decide) kY121 rfl (Nat.le_of_ble_eq_true rfl) rfl dX4_readNumber_63 rfl c23 (fun r24 u25 e26 => ?_)
      have h := h r24 u25 e26
      obtain ⟨q27, h⟩ := h
      refine V_if_eq q27 dX4_readNumber_66 (g := 97) rfl rfl ⟨fun hc => ?_, fun hc => ?_⟩
      · have h := h.1 hc
        refine V_iload_n 3 rfl dX4_readNumber_97 rfl ?_
        refine V_iload_n 1 rfl dX4_readNumber_98 rfl ?_
        obtain ⟨q28, h⟩ := h
        obtain ⟨q29, h⟩ := h
        refine V_icmp_le q28 q29 dX4_readNumber_99 (g := 110) rfl rfl ⟨fun hc => ?_, fun hc => ?_⟩
        · have h := h.1 hc
          refine V_iload_n 3 rfl dX4_readNumber_110 rfl ?_
          exact V_iret dX4_readNumber_111 (Or.inl rfl) h
        · have h := h.2 hc
          refine V_aload_n 0 rfl dX4_readNumber_102 rfl ?_
          refine V_iload_n 2 rfl dX4_readNumber_103 rfl ?_
          refine pX4_19 rfl kY121 dX4_readNumber_104 rfl (fun u30 e31 => ?_)
          have h := h u30 e31
          refine V_bipush (by decide) dX4_readNumber_107 rfl ?_
          exact V_iret dX4_readNumber_109 (Or.inl rfl) h
      · have h := h.2 hc
        refine V_bipush (by decide) dX4_readNumber_69 rfl ?_
        refine V_iload_n 3 rfl dX4_readNumber_71 rfl ?_
        refine V_imul dX4_readNumber_72 rfl ?_
        refine V_aload_n 0 rfl dX4_readNumber_73 rfl ?_
        refine gX4_9 rfl kY121 rF121_0 dX4_readNumber_74 rfl ?_
        refine V_aload_n 0 rfl dX4_readNumber_77 rfl ?_
        refine gX4_19 rfl kY121 dX4_readNumber_78 rfl ?_
        obtain ⟨q32, h⟩ := h
        refine V_ialdn kY122 lI122 q32 dX4_readNumber_81 rfl ?_
        refine V_iadd dX4_readNumber_82 rfl ?_
        refine V_bipush (by decide) dX4_readNumber_83 rfl ?_
        refine V_isub dX4_readNumber_85 rfl ?_
        refine V_istore_n (ls2 := [(0, RR 121), (1, II v1), (2, II (u9 121 2)), (3, II (((10 * ((u9 122 (u9 121 2).toNat) - 48)) + (u25 122 (u25 121 2).toNat)) - 48))]) dX4_readNumber_86 rfl (by decide) rfl ?_
        refine V_aload_n 0 rfl dX4_readNumber_87 rfl ?_
        refine V_dup rfl dX4_readNumber_88 rfl ?_
        refine gX4_19 rfl kY121 dX4_readNumber_89 rfl ?_
        refine V_iconst dX4_readNumber_92 rfl ?_
        refine V_iadd dX4_readNumber_93 rfl ?_
        refine pX4_19 rfl kY121 dX4_readNumber_94 rfl (fun u33 e34 => ?_)
        have h := h u33 e34
        refine V_iload_n 3 rfl dX4_readNumber_97 rfl ?_
        refine V_iload_n 1 rfl dX4_readNumber_98 rfl ?_
        obtain ⟨q35, h⟩ := h
        obtain ⟨q36, h⟩ := h
        refine V_icmp_le q35 q36 dX4_readNumber_99 (g := 110) rfl rfl ⟨fun hc => ?_, fun hc => ?_⟩
        · have h := h.1 hc
          refine V_iload_n 3 rfl dX4_readNumber_110 rfl ?_
          exact V_iret dX4_readNumber_111 (Or.inl rfl) h
        · have h := h.2 hc
          refine V_aload_n 0 rfl dX4_readNumber_102 rfl ?_
          refine V_iload_n 2 rfl dX4_readNumber_103 rfl ?_
          refine pX4_19 rfl kY121 dX4_readNumber_104 rfl (fun u37 e38 => ?_)
          have h := h u37 e38
          refine V_bipush (by decide) dX4_readNumber_107 rfl ?_
          exact V_iret dX4_readNumber_109 (Or.inl rfl) h
  · have h := h.2 hc
    refine V_bipush (by decide) dX4_readNumber_11 rfl ?_
    exact V_iret dX4_readNumber_13 (Or.inl rfl) h
theorem eX4_digit {G : GG} {Q : Int → Mem → Prop} {t : Mem} {v1 : Int} (k : V G mX4_digit 0 [(0, RR 121), (1, II v1)] [] t Q) : Ex G mX4_digit [RR 121, II v1] t Q := Ex.of plX4 (Or.inr (Or.inr rfl)) (Nat.le_of_ble_eq_true rfl) rfl k
set_option maxRecDepth 100000 in
theorem sgX4_digit_0 {G : GG} {Q : Int → Mem → Prop} {t : Mem} {v1 : Int}  (h : In32 v1 ∧ (v1 < 48 → Q 0 t) ∧ (¬ v1 < 48 → Q (if 57 < v1 then 0 else 1) t)) : V G mX4_digit 0 [(0, RR 121), (1, II v1)] [] t Q := by
  refine V_iload_n 1 rfl dX4_digit_0 rfl ?_
  refine V_bipush (by decide) dX4_digit_1 rfl ?_
  obtain ⟨q1, h⟩ := h
  refine V_icmp_lt q1 (iL rfl) dX4_digit_3 (g := 16) rfl rfl ⟨fun hc => ?_, fun hc => ?_⟩
  · have h := h.1 hc
    refine V_iconst dX4_digit_16 rfl ?_
    exact V_iret dX4_digit_17 (Or.inr ⟨rfl, by decide⟩) h
  · have h := h.2 hc
    refine V_iload_n 1 rfl dX4_digit_6 rfl ?_
    refine V_bipush (by decide) dX4_digit_7 rfl ?_
    have hj6 : V G mX4_digit 17 [(0, RR 121), (1, II v1)] [II (if 57 < v1 then 0 else 1)] t Q := by
      exact V_iret dX4_digit_17 (Or.inr ⟨rfl, by split <;> simp⟩) h
    refine V_icmp_gt q1 (iL rfl) dX4_digit_9 (g := 16) rfl rfl ⟨fun hc => ?_, fun hc => ?_⟩
    · skip
      refine V_iconst dX4_digit_16 rfl ?_
      rw [if_pos hc] at hj6
      exact hj6
    · skip
      refine V_iconst dX4_digit_12 rfl ?_
      refine V_goto (g := 17) dX4_digit_13 rfl ?_
      rw [if_neg hc] at hj6
      exact hj6
theorem eX4_pass {G : GG} {Q : Int → Mem → Prop} {t : Mem} {v1 : Int} (k : V G mX4_pass 0 [(0, RR 121), (1, II v1)] [] t Q) : Ex G mX4_pass [RR 121, II v1] t Q := Ex.of plX4 (Or.inr (Or.inr rfl)) (Nat.le_of_ble_eq_true rfl) rfl k
set_option maxRecDepth 100000 in
theorem sgX4_pass_0 {G : GG} {Q : Int → Mem → Prop} {t : Mem} {v1 : Int}  (h : ∃ P1 : Int → Mem → Prop, Ex G mX4_ahead [RR 121] t P1 ∧ ∀ (r3 : Int) (u4 : Mem), P1 r3 u4 → In32 r3 ∧ In32 v1 ∧ (r3 = v1 → ∀ u8 : Mem, u8 = wr u4 121 2 ((u4 121 2) + 1) → Q 1 u8) ∧ (¬ r3 = v1 → Q 0 u4)) : V G mX4_pass 0 [(0, RR 121), (1, II v1)] [] t Q := by
  refine V_aload_n 0 rfl dX4_pass_0 rfl ?_
  obtain ⟨P1, c2, h⟩ := h
  refine V_callVi (st := []) (as := []) okX4_ahead rfl mlX4_54 (by decide) kY121 rfl (Nat.le_of_ble_eq_true rfl) rfl dX4_pass_1 rfl c2 (fun r3 u4 e5 => ?_)
  have h := h r3 u4 e5
  refine V_iload_n 1 rfl dX4_pass_4 rfl ?_
  obtain ⟨q6, h⟩ := h
  obtain ⟨q7, h⟩ := h
  refine V_icmp_eq q6 q7 dX4_pass_5 (g := 10) rfl rfl ⟨fun hc => ?_, fun hc => ?_⟩
  · have h := h.1 hc
    refine V_aload_n 0 rfl dX4_pass_10 rfl ?_
    refine V_dup rfl dX4_pass_11 rfl ?_
    refine gX4_19 rfl kY121 dX4_pass_12 rfl ?_
    refine V_iconst dX4_pass_15 rfl ?_
    refine V_iadd dX4_pass_16 rfl ?_
    refine pX4_19 rfl kY121 dX4_pass_17 rfl (fun u8 e9 => ?_)
    have h := h u8 e9
    refine V_iconst dX4_pass_20 rfl ?_
    exact V_iret dX4_pass_21 (Or.inr ⟨rfl, by decide⟩) h
  · have h := h.2 hc
    refine V_iconst dX4_pass_8 rfl ?_
    exact V_iret dX4_pass_9 (Or.inr ⟨rfl, by decide⟩) h
theorem eX4_ahead {G : GG} {Q : Int → Mem → Prop} {t : Mem} (k : V G mX4_ahead 0 [(0, RR 121)] [] t Q) : Ex G mX4_ahead [RR 121] t Q := Ex.of plX4 (Or.inr (Or.inl rfl)) (Nat.le_of_ble_eq_true rfl) rfl k
set_option maxRecDepth 100000 in
theorem sgX4_ahead_0 {G : GG} {Q : Int → Mem → Prop} {t : Mem}  (h : In32 (t 121 2) ∧ In32 (t 121 1) ∧ ((t 121 1) ≤ (t 121 2) → (¬ (t 121 1) ≤ (t 121 2) → (0 ≤ t 121 2 ∧ t 121 2 < 60) ∧ True) ∧ ∀ w4 : Int, w4 = (if (t 121 1) ≤ (t 121 2) then (-1) else t 122 (t 121 2).toNat) → Q w4 t) ∧ (¬ (t 121 1) ≤ (t 121 2) → (0 ≤ t 121 2 ∧ t 121 2 < 60) ∧ In32 (t 122 (t 121 2).toNat) ∧ (¬ (t 122 (t 121 2).toNat) = 32 → ∀ w11 : Int, w11 = (if (t 121 1) ≤ (t 121 2) then (-1) else t 122 (t 121 2).toNat) → Q w11 t) ∧ ((t 122 (t 121 2).toNat) = 32 → ∀ u16 : Mem, u16 = wr t 121 2 ((t 121 2) + 1) → V G mX4_ahead 0 [(0, RR 121)] [] u16 Q))) : V G mX4_ahead 0 [(0, RR 121)] [] t Q := by
  refine V_aload_n 0 rfl dX4_ahead_0 rfl ?_
  refine gX4_19 rfl kY121 dX4_ahead_1 rfl ?_
  refine V_aload_n 0 rfl dX4_ahead_4 rfl ?_
  refine gX4_15 rfl kY121 dX4_ahead_5 rfl ?_
  obtain ⟨q1, h⟩ := h
  obtain ⟨q2, h⟩ := h
  refine V_icmp_ge q1 q2 dX4_ahead_8 (g := 38) rfl rfl ⟨fun hc => ?_, fun hc => ?_⟩
  · have h := h.1 hc
    refine V_aload_n 0 rfl dX4_ahead_38 rfl ?_
    refine gX4_19 rfl kY121 dX4_ahead_39 rfl ?_
    refine V_aload_n 0 rfl dX4_ahead_42 rfl ?_
    refine gX4_15 rfl kY121 dX4_ahead_43 rfl ?_
    obtain ⟨hB7, h⟩ := h
    have hj8 : ∀ w4 : Int, w4 = (if (t 121 1) ≤ (t 121 2) then (-1) else t 122 (t 121 2).toNat) → V G mX4_ahead 62 [(0, RR 121)] [II w4] t Q := by
      intro w4 e5
      have h := h w4 e5
      exact V_iret dX4_ahead_62 (Or.inl rfl) h
    have hj8 := hj8 _ rfl
    refine V_icmp_ge q1 q2 dX4_ahead_46 (g := 61) rfl rfl ⟨fun hc => ?_, fun hc => ?_⟩
    · skip
      refine V_iconst dX4_ahead_61 rfl ?_
      rw [if_pos hc] at hj8
      exact hj8
    · have h := hB7 hc
      refine V_aload_n 0 rfl dX4_ahead_49 rfl ?_
      refine gX4_9 rfl kY121 rF121_0 dX4_ahead_50 rfl ?_
      refine V_aload_n 0 rfl dX4_ahead_53 rfl ?_
      refine gX4_19 rfl kY121 dX4_ahead_54 rfl ?_
      obtain ⟨q3, h⟩ := h
      refine V_ialdn kY122 lI122 q3 dX4_ahead_57 rfl ?_
      refine V_goto (g := 62) dX4_ahead_58 rfl ?_
      rw [if_neg hc] at hj8
      exact hj8
  · have h := h.2 hc
    refine V_aload_n 0 rfl dX4_ahead_11 rfl ?_
    refine gX4_9 rfl kY121 rF121_0 dX4_ahead_12 rfl ?_
    refine V_aload_n 0 rfl dX4_ahead_15 rfl ?_
    refine gX4_19 rfl kY121 dX4_ahead_16 rfl ?_
    obtain ⟨q9, h⟩ := h
    refine V_ialdn kY122 lI122 q9 dX4_ahead_19 rfl ?_
    refine V_bipush (by decide) dX4_ahead_20 rfl ?_
    obtain ⟨q10, h⟩ := h
    refine V_icmp_ne q10 (iL rfl) dX4_ahead_22 (g := 38) rfl rfl ⟨fun hc => ?_, fun hc => ?_⟩
    · have h := h.1 hc
      refine V_aload_n 0 rfl dX4_ahead_38 rfl ?_
      refine gX4_19 rfl kY121 dX4_ahead_39 rfl ?_
      refine V_aload_n 0 rfl dX4_ahead_42 rfl ?_
      refine gX4_15 rfl kY121 dX4_ahead_43 rfl ?_
      have hj15 : ∀ w11 : Int, w11 = (if (t 121 1) ≤ (t 121 2) then (-1) else t 122 (t 121 2).toNat) → V G mX4_ahead 62 [(0, RR 121)] [II w11] t Q := by
        intro w11 e12
        have h := h w11 e12
        exact V_iret dX4_ahead_62 (Or.inl rfl) h
      have hj15 := hj15 _ rfl
      refine V_icmp_ge q1 q2 dX4_ahead_46 (g := 61) rfl rfl ⟨fun hc => ?_, fun hc => ?_⟩
      · skip
        refine V_iconst dX4_ahead_61 rfl ?_
        rw [if_pos hc] at hj15
        exact hj15
      · skip
        refine V_aload_n 0 rfl dX4_ahead_49 rfl ?_
        refine gX4_9 rfl kY121 rF121_0 dX4_ahead_50 rfl ?_
        refine V_aload_n 0 rfl dX4_ahead_53 rfl ?_
        refine gX4_19 rfl kY121 dX4_ahead_54 rfl ?_
        refine V_ialdn kY122 lI122 q9 dX4_ahead_57 rfl ?_
        refine V_goto (g := 62) dX4_ahead_58 rfl ?_
        rw [if_neg hc] at hj15
        exact hj15
    · have h := h.2 hc
      refine V_aload_n 0 rfl dX4_ahead_25 rfl ?_
      refine V_dup rfl dX4_ahead_26 rfl ?_
      refine gX4_19 rfl kY121 dX4_ahead_27 rfl ?_
      refine V_iconst dX4_ahead_30 rfl ?_
      refine V_iadd dX4_ahead_31 rfl ?_
      refine pX4_19 rfl kY121 dX4_ahead_32 rfl (fun u16 e17 => ?_)
      have h := h u16 e17
      refine V_goto (g := 0) dX4_ahead_35 rfl ?_
      exact h
theorem eJ6_bitCount_0f7a4 {G : GG} {Q : Int → Mem → Prop} {t : Mem} {v0 : Int} (k : V G mJ6_bitCount_0f7a4 0 [(0, II v0)] [] t Q) : Ex G mJ6_bitCount_0f7a4 [II v0] t Q := Ex.of plJ6 (Or.inr (Or.inl rfl)) (Nat.le_of_ble_eq_true rfl) rfl k
set_option maxRecDepth 100000 in
theorem sgJ6_bitCount_0f7a4_0 {G : GG} {Q : Int → Mem → Prop} {t : Mem} {v0 : Int}  (h : Q (iAnd (((iAnd (((iAnd (v0 - (iAnd (iUshr v0 1) 1431655765)) 858993459) + (iAnd (iUshr (v0 - (iAnd (iUshr v0 1) 1431655765)) 2) 858993459)) + (iUshr ((iAnd (v0 - (iAnd (iUshr v0 1) 1431655765)) 858993459) + (iAnd (iUshr (v0 - (iAnd (iUshr v0 1) 1431655765)) 2) 858993459)) 4)) 252645135) + (iUshr (iAnd (((iAnd (v0 - (iAnd (iUshr v0 1) 1431655765)) 858993459) + (iAnd (iUshr (v0 - (iAnd (iUshr v0 1) 1431655765)) 2) 858993459)) + (iUshr ((iAnd (v0 - (iAnd (iUshr v0 1) 1431655765)) 858993459) + (iAnd (iUshr (v0 - (iAnd (iUshr v0 1) 1431655765)) 2) 858993459)) 4)) 252645135) 8)) + (iUshr ((iAnd (((iAnd (v0 - (iAnd (iUshr v0 1) 1431655765)) 858993459) + (iAnd (iUshr (v0 - (iAnd (iUshr v0 1) 1431655765)) 2) 858993459)) + (iUshr ((iAnd (v0 - (iAnd (iUshr v0 1) 1431655765)) 858993459) + (iAnd (iUshr (v0 - (iAnd (iUshr v0 1) 1431655765)) 2) 858993459)) 4)) 252645135) + (iUshr (iAnd (((iAnd (v0 - (iAnd (iUshr v0 1) 1431655765)) 858993459) + (iAnd (iUshr (v0 - (iAnd (iUshr v0 1) 1431655765)) 2) 858993459)) + (iUshr ((iAnd (v0 - (iAnd (iUshr v0 1) 1431655765)) 858993459) + (iAnd (iUshr (v0 - (iAnd (iUshr v0 1) 1431655765)) 2) 858993459)) 4)) 252645135) 8)) 16)) 63) t) : V G mJ6_bitCount_0f7a4 0 [(0, II v0)] [] t Q := by
  refine V_iload_n 0 rfl dJ6_bitCount_0f7a4_0 rfl ?_
  refine V_iload_n 0 rfl dJ6_bitCount_0f7a4_1 rfl ?_
  refine V_iconst dJ6_bitCount_0f7a4_2 rfl ?_
  refine V_iushr dJ6_bitCount_0f7a4_3 rfl ?_
  refine V_ldcw (x := 1431655765) ctJ6_265 rfl dJ6_bitCount_0f7a4_4 rfl ?_
  refine V_iand dJ6_bitCount_0f7a4_7 rfl ?_
  refine V_isub dJ6_bitCount_0f7a4_8 rfl ?_
  refine V_istore_n (ls2 := [(0, II (v0 - (iAnd (iUshr v0 1) 1431655765)))]) dJ6_bitCount_0f7a4_9 rfl (by decide) rfl ?_
  refine V_iload_n 0 rfl dJ6_bitCount_0f7a4_10 rfl ?_
  refine V_ldcw (x := 858993459) ctJ6_266 rfl dJ6_bitCount_0f7a4_11 rfl ?_
  refine V_iand dJ6_bitCount_0f7a4_14 rfl ?_
  refine V_iload_n 0 rfl dJ6_bitCount_0f7a4_15 rfl ?_
  refine V_iconst dJ6_bitCount_0f7a4_16 rfl ?_
  refine V_iushr dJ6_bitCount_0f7a4_17 rfl ?_
  refine V_ldcw (x := 858993459) ctJ6_266 rfl dJ6_bitCount_0f7a4_18 rfl ?_
  refine V_iand dJ6_bitCount_0f7a4_21 rfl ?_
  refine V_iadd dJ6_bitCount_0f7a4_22 rfl ?_
  refine V_istore_n (ls2 := [(0, II ((iAnd (v0 - (iAnd (iUshr v0 1) 1431655765)) 858993459) + (iAnd (iUshr (v0 - (iAnd (iUshr v0 1) 1431655765)) 2) 858993459)))]) dJ6_bitCount_0f7a4_23 rfl (by decide) rfl ?_
  refine V_iload_n 0 rfl dJ6_bitCount_0f7a4_24 rfl ?_
  refine V_iload_n 0 rfl dJ6_bitCount_0f7a4_25 rfl ?_
  refine V_iconst dJ6_bitCount_0f7a4_26 rfl ?_
  refine V_iushr dJ6_bitCount_0f7a4_27 rfl ?_
  refine V_iadd dJ6_bitCount_0f7a4_28 rfl ?_
  refine V_ldcw (x := 252645135) ctJ6_267 rfl dJ6_bitCount_0f7a4_29 rfl ?_
  refine V_iand dJ6_bitCount_0f7a4_32 rfl ?_
  refine V_istore_n (ls2 := [(0, II (iAnd (((iAnd (v0 - (iAnd (iUshr v0 1) 1431655765)) 858993459) + (iAnd (iUshr (v0 - (iAnd (iUshr v0 1) 1431655765)) 2) 858993459)) + (iUshr ((iAnd (v0 - (iAnd (iUshr v0 1) 1431655765)) 858993459) + (iAnd (iUshr (v0 - (iAnd (iUshr v0 1) 1431655765)) 2) 858993459)) 4)) 252645135))]) dJ6_bitCount_0f7a4_33 rfl (by decide) rfl ?_
  refine V_iload_n 0 rfl dJ6_bitCount_0f7a4_34 rfl ?_
  refine V_iload_n 0 rfl dJ6_bitCount_0f7a4_35 rfl ?_
  refine V_bipush (by decide) dJ6_bitCount_0f7a4_36 rfl ?_
  refine V_iushr dJ6_bitCount_0f7a4_38 rfl ?_
  refine V_iadd dJ6_bitCount_0f7a4_39 rfl ?_
  refine V_istore_n (ls2 := [(0, II ((iAnd (((iAnd (v0 - (iAnd (iUshr v0 1) 1431655765)) 858993459) + (iAnd (iUshr (v0 - (iAnd (iUshr v0 1) 1431655765)) 2) 858993459)) + (iUshr ((iAnd (v0 - (iAnd (iUshr v0 1) 1431655765)) 858993459) + (iAnd (iUshr (v0 - (iAnd (iUshr v0 1) 1431655765)) 2) 858993459)) 4)) 252645135) + (iUshr (iAnd (((iAnd (v0 - (iAnd (iUshr v0 1) 1431655765)) 858993459) + (iAnd (iUshr (v0 - (iAnd (iUshr v0 1) 1431655765)) 2) 858993459)) + (iUshr ((iAnd (v0 - (iAnd (iUshr v0 1) 1431655765)) 858993459) + (iAnd (iUshr (v0 - (iAnd (iUshr v0 1) 1431655765)) 2) 858993459)) 4)) 252645135) 8)))]) dJ6_bitCount_0f7a4_40 rfl (by decide) rfl ?_
  refine V_iload_n 0 rfl dJ6_bitCount_0f7a4_41 rfl ?_
  refine V_iload_n 0 rfl dJ6_bitCount_0f7a4_42 rfl ?_
  refine V_bipush (by decide) dJ6_bitCount_0f7a4_43 rfl ?_
  refine V_iushr dJ6_bitCount_0f7a4_45 rfl ?_
  refine V_iadd dJ6_bitCount_0f7a4_46 rfl ?_
  refine V_istore_n (ls2 := [(0, II (((iAnd (((iAnd (v0 - (iAnd (iUshr v0 1) 1431655765)) 858993459) + (iAnd (iUshr (v0 - (iAnd (iUshr v0 1) 1431655765)) 2) 858993459)) + (iUshr ((iAnd (v0 - (iAnd (iUshr v0 1) 1431655765)) 858993459) + (iAnd (iUshr (v0 - (iAnd (iUshr v0 1) 1431655765)) 2) 858993459)) 4)) 252645135) + (iUshr (iAnd (((iAnd (v0 - (iAnd (iUshr v0 1) 1431655765)) 858993459) + (iAnd (iUshr (v0 - (iAnd (iUshr v0 1) 1431655765)) 2) 858993459)) + (iUshr ((iAnd (v0 - (iAnd (iUshr v0 1) 1431655765)) 858993459) + (iAnd (iUshr (v0 - (iAnd (iUshr v0 1) 1431655765)) 2) 858993459)) 4)) 252645135) 8)) + (iUshr ((iAnd (((iAnd (v0 - (iAnd (iUshr v0 1) 1431655765)) 858993459) + (iAnd (iUshr (v0 - (iAnd (iUshr v0 1) 1431655765)) 2) 858993459)) + (iUshr ((iAnd (v0 - (iAnd (iUshr v0 1) 1431655765)) 858993459) + (iAnd (iUshr (v0 - (iAnd (iUshr v0 1) 1431655765)) 2) 858993459)) 4)) 252645135) + (iUshr (iAnd (((iAnd (v0 - (iAnd (iUshr v0 1) 1431655765)) 858993459) + (iAnd (iUshr (v0 - (iAnd (iUshr v0 1) 1431655765)) 2) 858993459)) + (iUshr ((iAnd (v0 - (iAnd (iUshr v0 1) 1431655765)) 858993459) + (iAnd (iUshr (v0 - (iAnd (iUshr v0 1) 1431655765)) 2) 858993459)) 4)) 252645135) 8)) 16)))]) dJ6_bitCount_0f7a4_47 rfl (by decide) rfl ?_
  refine V_iload_n 0 rfl dJ6_bitCount_0f7a4_48 rfl ?_
  refine V_bipush (by decide) dJ6_bitCount_0f7a4_49 rfl ?_
  refine V_iand dJ6_bitCount_0f7a4_51 rfl ?_
  exact V_iret dJ6_bitCount_0f7a4_52 (Or.inl rfl) h
