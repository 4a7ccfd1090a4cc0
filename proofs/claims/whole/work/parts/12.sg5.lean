theorem eX5_beast {G : GG} {Q : Int → Mem → Prop} {t : Mem} {v1 v2 v3 : Int} (k : V G mX5_beast 0 [(0, RR 0), (1, II v1), (2, II v2), (3, II v3)] [] t Q) : Ex G mX5_beast [RR 0, II v1, II v2, II v3] t Q := Ex.of plX5 (Or.inr (Or.inl rfl)) (Nat.le_of_ble_eq_true rfl) rfl k
set_option maxRecDepth 100000 in
theorem sgX5_beast_0 {G : GG} {Q : Int → Mem → Prop} {t : Mem} {v1 v2 v3 : Int}  (h : ∃ P1 : Int → Mem → Prop, Ex G mX5_outside [II v1, II 0, II 3] t P1 ∧ ∀ (r3 : Int) (u4 : Mem), P1 r3 u4 → In32 r3 ∧ (¬ r3 = 0 → Q (-1) u4) ∧ (r3 = 0 → ∃ P7 : Int → Mem → Prop, Ex G mX5_outside [II v2, II 1, II 9] u4 P7 ∧ ∀ (r9 : Int) (u10 : Mem), P7 r9 u10 → In32 r9 ∧ (¬ r9 = 0 → Q (-1) u10) ∧ (r9 = 0 → ∃ P13 : Int → Mem → Prop, Ex G mX5_outside [II v3, II 0, II 1] u10 P13 ∧ ∀ (r15 : Int) (u16 : Mem), P13 r15 u16 → In32 r15 ∧ (r15 = 0 → In32 (u16 1 7) ∧ ((u16 1 7) < 7 → ∃ P20 : Int → Mem → Prop, Ex G mX2_forget [RR 12] u16 P20 ∧ ∀ u23 : Mem, P20 0 u23 → ∃ P25 : Int → Mem → Prop, Ex G mX0_add [RR 1, II v1, II v2, II v3] u23 P25 ∧ ∀ u28 : Mem, P25 0 u28 → Q ((u28 1 7) - 1) u28) ∧ (¬ (u16 1 7) < 7 → Q (-3) u16)) ∧ (¬ r15 = 0 → Q (-1) u16)))) : V G mX5_beast 0 [(0, RR 0), (1, II v1), (2, II v2), (3, II v3)] [] t Q := by
  refine V_iload_n 1 rfl dX5_beast_0 rfl ?_
  refine V_iconst dX5_beast_1 rfl ?_
  refine V_iconst dX5_beast_2 rfl ?_
  obtain ⟨P1, c2, h⟩ := h
  refine V_callSi (st := []) (as := [II v1, II 0, II 3]) okX5_outside rfl mlX5_69 (by decide) rfl (Nat.le_of_ble_eq_true rfl) rfl dX5_beast_3 rfl c2 (fun r3 u4 e5 => ?_)
  have h := h r3 u4 e5
  obtain ⟨q6, h⟩ := h
  refine V_if_ne q6 dX5_beast_6 (g := 28) rfl rfl ⟨fun hc => ?_, fun hc => ?_⟩
  · have h := h.1 hc
    refine V_iconst dX5_beast_28 rfl ?_
    exact V_iret dX5_beast_29 (Or.inl rfl) h
  · have h := h.2 hc
    refine V_iload_n 2 rfl dX5_beast_9 rfl ?_
    refine V_iconst dX5_beast_10 rfl ?_
    refine V_bipush (by decide) dX5_beast_11 rfl ?_
    obtain ⟨P7, c8, h⟩ := h
    refine V_callSi (st := []) (as := [II v2, II 1, II 9]) okX5_outside rfl mlX5_69 (by decide) rfl (Nat.le_of_ble_eq_true rfl) rfl dX5_beast_13 rfl c8 (fun r9 u10 e11 => ?_)
    have h := h r9 u10 e11
    obtain ⟨q12, h⟩ := h
    refine V_if_ne q12 dX5_beast_16 (g := 28) rfl rfl ⟨fun hc => ?_, fun hc => ?_⟩
    · have h := h.1 hc
      refine V_iconst dX5_beast_28 rfl ?_
      exact V_iret dX5_beast_29 (Or.inl rfl) h
    · have h := h.2 hc
      refine V_iload_n 3 rfl dX5_beast_19 rfl ?_
      refine V_iconst dX5_beast_20 rfl ?_
      refine V_iconst dX5_beast_21 rfl ?_
      obtain ⟨P13, c14, h⟩ := h
      refine V_callSi (st := []) (as := [II v3, II 0, II 1]) okX5_outside rfl mlX5_69 (by decide) rfl (Nat.le_of_ble_eq_true rfl) rfl dX5_beast_22 rfl c14 (fun r15 u16 e17 => ?_)
      have h := h r15 u16 e17
      obtain ⟨q18, h⟩ := h
      refine V_if_eq q18 dX5_beast_25 (g := 30) rfl rfl ⟨fun hc => ?_, fun hc => ?_⟩
      · have h := h.1 hc
        refine V_aload_n 0 rfl dX5_beast_30 rfl ?_
        refine gX5_10 rfl kY0 rF0_0 dX5_beast_31 rfl ?_
        refine gX5_73 rfl kY1 dX5_beast_34 rfl ?_
        refine V_bipush (by decide) dX5_beast_37 rfl ?_
        obtain ⟨q19, h⟩ := h
        refine V_icmp_lt q19 (iL rfl) dX5_beast_39 (g := 45) rfl rfl ⟨fun hc => ?_, fun hc => ?_⟩
        · have h := h.1 hc
          refine V_aload_n 0 rfl dX5_beast_45 rfl ?_
          refine gX5_26 rfl kY0 rF0_2 dX5_beast_46 rfl ?_
          obtain ⟨P20, c21, h⟩ := h
          refine V_callVv (st := []) (as := []) okX2_forget rfl mlX5_77 (by decide) kY12 rfl (Nat.le_of_ble_eq_true rfl) rfl dX5_beast_49 rfl c21 (fun u23 e24 => ?_)
          have h := h u23 e24
          refine V_aload_n 0 rfl dX5_beast_52 rfl ?_
          refine gX5_10 rfl kY0 rF0_0 dX5_beast_53 rfl ?_
          refine V_iload_n 1 rfl dX5_beast_56 rfl ?_
          refine V_iload_n 2 rfl dX5_beast_57 rfl ?_
          refine V_iload_n 3 rfl dX5_beast_58 rfl ?_
          obtain ⟨P25, c26, h⟩ := h
          refine V_callVv (st := []) (as := [II v1, II v2, II v3]) okX0_add rfl mlX5_80 (by decide) kY1 rfl (Nat.le_of_ble_eq_true rfl) rfl dX5_beast_59 rfl c26 (fun u28 e29 => ?_)
          have h := h u28 e29
          refine V_aload_n 0 rfl dX5_beast_62 rfl ?_
          refine gX5_10 rfl kY0 rF0_0 dX5_beast_63 rfl ?_
          refine gX5_73 rfl kY1 dX5_beast_66 rfl ?_
          refine V_iconst dX5_beast_69 rfl ?_
          refine V_isub dX5_beast_70 rfl ?_
          exact V_iret dX5_beast_71 (Or.inl rfl) h
        · have h := h.2 hc
          refine V_bipush (by decide) dX5_beast_42 rfl ?_
          exact V_iret dX5_beast_44 (Or.inl rfl) h
      · have h := h.2 hc
        refine V_iconst dX5_beast_28 rfl ?_
        exact V_iret dX5_beast_29 (Or.inl rfl) h
theorem eX5_of {G : GG} {Q : Int → Mem → Prop} {t : Mem} {v1 v2 : Int} (k : V G mX5_of 0 [(0, RR 0), (1, II v1), (2, II v2)] [] t Q) : Ex G mX5_of [RR 0, II v1, II v2] t Q := Ex.of plX5 (Or.inr (Or.inl rfl)) (Nat.le_of_ble_eq_true rfl) rfl k
set_option maxRecDepth 100000 in
theorem sgX5_of_0 {G : GG} {Q : Int → Mem → Prop} {t : Mem} {v1 v2 : Int}  (h : ∃ P1 : Int → Mem → Prop, Ex G mX0_lacks [RR 1, II v1] t P1 ∧ ∀ (r3 : Int) (u4 : Mem), P1 r3 u4 → In32 r3 ∧ (r3 = 0 → In32 v2 ∧ (v2 = 0 → (0 ≤ v1 ∧ v1 < 7) ∧ Q (u4 2 v1.toNat) u4) ∧ (v2 = 1 → (0 ≤ v1 ∧ v1 < 7) ∧ Q (u4 3 v1.toNat) u4) ∧ (v2 = 2 → (0 ≤ v1 ∧ v1 < 7) ∧ Q (u4 4 v1.toNat) u4) ∧ (v2 = 3 → ∃ P12 : Int → Mem → Prop, Ex G mX1_needs [RR 7, RR 1, II v1] u4 P12 ∧ ∀ (r14 : Int) (u15 : Mem), P12 r14 u15 → Q r14 u15) ∧ (v2 = 4 → (0 ≤ v1 ∧ v1 < 7) ∧ Q (u4 8 v1.toNat) u4) ∧ (v2 = 5 → (0 ≤ v1 ∧ v1 < 7) ∧ Q (u4 9 v1.toNat) u4) ∧ (v2 = 6 → ∃ P19 : Int → Mem → Prop, Ex G mX1_sated [RR 7, RR 1, II v1] u4 P19 ∧ ∀ (r21 : Int) (u22 : Mem), P19 r21 u22 → In32 r21 ∧ Q (if r21 = 0 then 0 else 1) u22) ∧ (v2 = 7 → (0 ≤ v1 ∧ v1 < 7) ∧ Q (u4 10 v1.toNat) u4) ∧ (v2 = 8 → (0 ≤ v1 ∧ v1 < 7) ∧ ∃ P32 : Int → Mem → Prop, Ex G mX5_gulp [II (u4 2 v1.toNat)] u4 P32 ∧ ∀ (r34 : Int) (u35 : Mem), P32 r34 u35 → Q r34 u35) ∧ ((v2 < 0 ∨ 8 < v2) → Q (-1) u4)) ∧ (¬ r3 = 0 → Q (-1) u4)) : V G mX5_of 0 [(0, RR 0), (1, II v1), (2, II v2)] [] t Q := by
  refine V_aload_n 0 rfl dX5_of_0 rfl ?_
  refine gX5_10 rfl kY0 rF0_0 dX5_of_1 rfl ?_
  refine V_iload_n 1 rfl dX5_of_4 rfl ?_
  obtain ⟨P1, c2, h⟩ := h
  refine V_callVi (st := []) (as := [II v1]) okX0_lacks rfl mlX5_84 (by decide) kY1 rfl (Nat.le_of_ble_eq_true rfl) rfl dX5_of_5 rfl c2 (fun r3 u4 e5 => ?_)
  have h := h r3 u4 e5
  obtain ⟨q6, h⟩ := h
  refine V_if_eq q6 dX5_of_8 (g := 13) rfl rfl ⟨fun hc => ?_, fun hc => ?_⟩
  · have h := h.1 hc
    refine V_iload_n 2 rfl dX5_of_13 rfl ?_
    obtain ⟨q7, h⟩ := h
    have hs8 : v2 = 0 ∨ v2 = 1 ∨ v2 = 2 ∨ v2 = 3 ∨ v2 = 4 ∨ v2 = 5 ∨ v2 = 6 ∨ v2 = 7 ∨ v2 = 8 ∨ (v2 < 0 ∨ 8 < v2) := by omega
    rcases hs8 with hc | hc | hc | hc | hc | hc | hc | hc | hc | hc
    · have h := h.1 hc
      refine V_tsIn (i := 0) (g := 64) dX5_of_14 hc (by decide) (iL rfl) rfl rfl ?_
      refine V_aload_n 0 rfl dX5_of_64 rfl ?_
      refine gX5_10 rfl kY0 rF0_0 dX5_of_65 rfl ?_
      refine gX5_88 rfl kY1 rF1_8 dX5_of_68 rfl ?_
      refine V_iload_n 1 rfl dX5_of_71 rfl ?_
      obtain ⟨q9, h⟩ := h
      refine V_ialdn kY2 lI2 q9 dX5_of_72 rfl ?_
      exact V_iret dX5_of_73 (Or.inl rfl) h
    · have h := h.2.1 hc
      refine V_tsIn (i := 1) (g := 74) dX5_of_14 hc (by decide) (iL rfl) rfl rfl ?_
      refine V_aload_n 0 rfl dX5_of_74 rfl ?_
      refine gX5_10 rfl kY0 rF0_0 dX5_of_75 rfl ?_
      refine gX5_91 rfl kY1 rF1_9 dX5_of_78 rfl ?_
      refine V_iload_n 1 rfl dX5_of_81 rfl ?_
      obtain ⟨q10, h⟩ := h
      refine V_ialdn kY3 lI3 q10 dX5_of_82 rfl ?_
      exact V_iret dX5_of_83 (Or.inl rfl) h
    · have h := h.2.2.1 hc
      refine V_tsIn (i := 2) (g := 84) dX5_of_14 hc (by decide) (iL rfl) rfl rfl ?_
      refine V_aload_n 0 rfl dX5_of_84 rfl ?_
      refine gX5_10 rfl kY0 rF0_0 dX5_of_85 rfl ?_
      refine gX5_94 rfl kY1 rF1_10 dX5_of_88 rfl ?_
      refine V_iload_n 1 rfl dX5_of_91 rfl ?_
      obtain ⟨q11, h⟩ := h
      refine V_ialdn kY4 lI4 q11 dX5_of_92 rfl ?_
      exact V_iret dX5_of_93 (Or.inl rfl) h
    · have h := h.2.2.2.1 hc
      refine V_tsIn (i := 3) (g := 94) dX5_of_14 hc (by decide) (iL rfl) rfl rfl ?_
      refine V_aload_n 0 rfl dX5_of_94 rfl ?_
      refine gX5_19 rfl kY0 rF0_1 dX5_of_95 rfl ?_
      refine V_aload_n 0 rfl dX5_of_98 rfl ?_
      refine gX5_10 rfl kY0 rF0_0 dX5_of_99 rfl ?_
      refine V_iload_n 1 rfl dX5_of_102 rfl ?_
      obtain ⟨P12, c13, h⟩ := h
      refine V_callVi (st := []) (as := [RR 1, II v1]) okX1_needs rfl mlX5_97 (by decide) kY7 rfl (Nat.le_of_ble_eq_true rfl) rfl dX5_of_103 rfl c13 (fun r14 u15 e16 => ?_)
      have h := h r14 u15 e16
      exact V_iret dX5_of_106 (Or.inl rfl) h
    · have h := h.2.2.2.2.1 hc
      refine V_tsIn (i := 4) (g := 107) dX5_of_14 hc (by decide) (iL rfl) rfl rfl ?_
      refine V_aload_n 0 rfl dX5_of_107 rfl ?_
      refine gX5_19 rfl kY0 rF0_1 dX5_of_108 rfl ?_
      refine gX5_101 rfl kY7 rF7_6 dX5_of_111 rfl ?_
      refine V_iload_n 1 rfl dX5_of_114 rfl ?_
      obtain ⟨q17, h⟩ := h
      refine V_ialdn kY8 lI8 q17 dX5_of_115 rfl ?_
      exact V_iret dX5_of_116 (Or.inl rfl) h
    · have h := h.2.2.2.2.2.1 hc
      refine V_tsIn (i := 5) (g := 117) dX5_of_14 hc (by decide) (iL rfl) rfl rfl ?_
      refine V_aload_n 0 rfl dX5_of_117 rfl ?_
      refine gX5_19 rfl kY0 rF0_1 dX5_of_118 rfl ?_
      refine gX5_104 rfl kY7 rF7_7 dX5_of_121 rfl ?_
      refine V_iload_n 1 rfl dX5_of_124 rfl ?_
      obtain ⟨q18, h⟩ := h
      refine V_ialdn kY9 lI9 q18 dX5_of_125 rfl ?_
      exact V_iret dX5_of_126 (Or.inl rfl) h
    · have h := h.2.2.2.2.2.2.1 hc
      refine V_tsIn (i := 6) (g := 127) dX5_of_14 hc (by decide) (iL rfl) rfl rfl ?_
      refine V_aload_n 0 rfl dX5_of_127 rfl ?_
      refine gX5_19 rfl kY0 rF0_1 dX5_of_128 rfl ?_
      refine V_aload_n 0 rfl dX5_of_131 rfl ?_
      refine gX5_10 rfl kY0 rF0_0 dX5_of_132 rfl ?_
      refine V_iload_n 1 rfl dX5_of_135 rfl ?_
      obtain ⟨P19, c20, h⟩ := h
      refine V_callVi (st := []) (as := [RR 1, II v1]) okX1_sated rfl mlX5_107 (by decide) kY7 rfl (Nat.le_of_ble_eq_true rfl) rfl dX5_of_136 rfl c20 (fun r21 u22 e23 => ?_)
      have h := h r21 u22 e23
      obtain ⟨q24, h⟩ := h
      have hj29 : V G mX5_of 147 [(0, RR 0), (1, II v1), (2, II v2)] [II (if r21 = 0 then 0 else 1)] u22 Q := by
        exact V_iret dX5_of_147 (Or.inl rfl) h
      refine V_if_eq q24 dX5_of_139 (g := 146) rfl rfl ⟨fun hc => ?_, fun hc => ?_⟩
      · skip
        refine V_iconst dX5_of_146 rfl ?_
        rw [if_pos hc] at hj29
        exact hj29
      · skip
        refine V_iconst dX5_of_142 rfl ?_
        refine V_goto (g := 147) dX5_of_143 rfl ?_
        rw [if_neg hc] at hj29
        exact hj29
    · have h := h.2.2.2.2.2.2.2.1 hc
      refine V_tsIn (i := 7) (g := 148) dX5_of_14 hc (by decide) (iL rfl) rfl rfl ?_
      refine V_aload_n 0 rfl dX5_of_148 rfl ?_
      refine gX5_19 rfl kY0 rF0_1 dX5_of_149 rfl ?_
      refine gX5_111 rfl kY7 rF7_8 dX5_of_152 rfl ?_
      refine V_iload_n 1 rfl dX5_of_155 rfl ?_
      obtain ⟨q30, h⟩ := h
      refine V_ialdn kY10 lI10 q30 dX5_of_156 rfl ?_
      exact V_iret dX5_of_157 (Or.inl rfl) h
    · have h := h.2.2.2.2.2.2.2.2.1 hc
      refine V_tsIn (i := 8) (g := 158) dX5_of_14 hc (by decide) (iL rfl) rfl rfl ?_
      refine V_aload_n 0 rfl dX5_of_158 rfl ?_
      refine gX5_10 rfl kY0 rF0_0 dX5_of_159 rfl ?_
      refine gX5_88 rfl kY1 rF1_8 dX5_of_162 rfl ?_
      refine V_iload_n 1 rfl dX5_of_165 rfl ?_
      obtain ⟨q31, h⟩ := h
      refine V_ialdn kY2 lI2 q31 dX5_of_166 rfl ?_
      obtain ⟨P32, c33, h⟩ := h
      refine V_callSi (st := []) (as := [II (u4 2 v1.toNat)]) okX5_gulp rfl mlX5_114 (by decide) rfl (Nat.le_of_ble_eq_true rfl) rfl dX5_of_167 rfl c33 (fun r34 u35 e36 => ?_)
      have h := h r34 u35 e36
      exact V_iret dX5_of_170 (Or.inl rfl) h
    · have h := h.2.2.2.2.2.2.2.2.2 hc
      refine V_tsOut (g := 171) dX5_of_14 q7 hc rfl ?_
      refine V_iconst dX5_of_171 rfl ?_
      exact V_iret dX5_of_172 (Or.inl rfl) h
  · have h := h.2 hc
    refine V_iconst dX5_of_11 rfl ?_
    exact V_iret dX5_of_12 (Or.inl rfl) h
theorem eX5_well {G : GG} {Q : Int → Mem → Prop} {t : Mem} {v1 v2 : Int} (k : V G mX5_well 0 [(0, RR 0), (1, II v1), (2, II v2)] [] t Q) : Ex G mX5_well [RR 0, II v1, II v2] t Q := Ex.of plX5 (Or.inr (Or.inl rfl)) (Nat.le_of_ble_eq_true rfl) rfl k
set_option maxRecDepth 100000 in
theorem sgX5_well_0 {G : GG} {Q : Int → Mem → Prop} {t : Mem} {v1 v2 : Int}  (h : ∃ P1 : Int → Mem → Prop, Ex G mX5_outside [II v1, II 0, II (7 - 1)] t P1 ∧ ∀ (r3 : Int) (u4 : Mem), P1 r3 u4 → In32 r3 ∧ (¬ r3 = 0 → Q (-1) u4) ∧ (r3 = 0 → (0 ≤ v1 ∧ v1 < 7) ∧ ∃ P8 : Int → Mem → Prop, Ex G mX5_outside [II v2, II (lowV v1.toNat), II (highV v1.toNat)] u4 P8 ∧ ∀ (r10 : Int) (u11 : Mem), P8 r10 u11 → In32 r10 ∧ (r10 = 0 → ∃ P14 : Int → Mem → Prop, Ex G mX5_measure [RR 0, II v1] u11 P14 ∧ ∀ (r16 : Int) (u17 : Mem), P14 r16 u17 → In32 v1 ∧ (v1 = 0 → ∀ u21 : Mem, u21 = wr u17 7 0 v2 → Q r16 u21) ∧ (v1 = 1 → ∀ u23 : Mem, u23 = wr u17 1 0 v2 → Q r16 u23) ∧ (v1 = 2 → ∀ u25 : Mem, u25 = wr u17 1 1 v2 → Q r16 u25) ∧ (v1 = 3 → ∀ u27 : Mem, u27 = wr u17 1 2 v2 → Q r16 u27) ∧ (v1 = 4 → ∀ u29 : Mem, u29 = wr u17 1 3 v2 → Q r16 u29) ∧ (v1 = 5 → ∀ u31 : Mem, u31 = wr u17 1 4 v2 → Q r16 u31) ∧ ((v1 < 0 ∨ 5 < v1) → ∀ u33 : Mem, u33 = wr u17 1 5 v2 → Q r16 u33)) ∧ (¬ r10 = 0 → Q (-1) u11))) : V G mX5_well 0 [(0, RR 0), (1, II v1), (2, II v2)] [] t Q := by
  refine V_iload_n 1 rfl dX5_well_0 rfl ?_
  refine V_iconst dX5_well_1 rfl ?_
  refine V_getLow (by decide +kernel) dX5_well_2 rfl ?_
  refine V_lowLen dX5_well_5 rfl ?_
  refine V_iconst dX5_well_6 rfl ?_
  refine V_isub dX5_well_7 rfl ?_
  obtain ⟨P1, c2, h⟩ := h
  refine V_callSi (st := []) (as := [II v1, II 0, II (7 - 1)]) okX5_outside rfl mlX5_69 (by decide) rfl (Nat.le_of_ble_eq_true rfl) rfl dX5_well_8 rfl c2 (fun r3 u4 e5 => ?_)
  have h := h r3 u4 e5
  obtain ⟨q6, h⟩ := h
  refine V_if_ne q6 dX5_well_11 (g := 31) rfl rfl ⟨fun hc => ?_, fun hc => ?_⟩
  · have h := h.1 hc
    refine V_iconst dX5_well_31 rfl ?_
    exact V_iret dX5_well_32 (Or.inl rfl) h
  · have h := h.2 hc
    refine V_iload_n 2 rfl dX5_well_14 rfl ?_
    refine V_getLow (by decide +kernel) dX5_well_15 rfl ?_
    refine V_iload_n 1 rfl dX5_well_18 rfl ?_
    obtain ⟨q7, h⟩ := h
    refine V_lowAt q7 dX5_well_19 rfl ?_
    refine V_getHigh (by decide +kernel) dX5_well_20 rfl ?_
    refine V_iload_n 1 rfl dX5_well_23 rfl ?_
    refine V_highAt q7 dX5_well_24 rfl ?_
    obtain ⟨P8, c9, h⟩ := h
    refine V_callSi (st := []) (as := [II v2, II (lowV v1.toNat), II (highV v1.toNat)]) okX5_outside rfl mlX5_69 (by decide) rfl (Nat.le_of_ble_eq_true rfl) rfl dX5_well_25 rfl c9 (fun r10 u11 e12 => ?_)
    have h := h r10 u11 e12
    obtain ⟨q13, h⟩ := h
    refine V_if_eq q13 dX5_well_28 (g := 33) rfl rfl ⟨fun hc => ?_, fun hc => ?_⟩
    · have h := h.1 hc
      refine V_aload_n 0 rfl dX5_well_33 rfl ?_
      refine V_iload_n 1 rfl dX5_well_34 rfl ?_
      obtain ⟨P14, c15, h⟩ := h
      refine V_callVi (st := []) (as := [II v1]) okX5_measure rfl mlX5_124 (by decide) kY0 rfl (Nat.le_of_ble_eq_true rfl) rfl dX5_well_35 rfl c15 (fun r16 u17 e18 => ?_)
      have h := h r16 u17 e18
      refine V_istore_n (ls2 := [(0, RR 0), (1, II v1), (2, II v2), (3, II r16)]) dX5_well_38 rfl (by decide) rfl ?_
      refine V_iload_n 1 rfl dX5_well_39 rfl ?_
      obtain ⟨q19, h⟩ := h
      have hs20 : v1 = 0 ∨ v1 = 1 ∨ v1 = 2 ∨ v1 = 3 ∨ v1 = 4 ∨ v1 = 5 ∨ (v1 < 0 ∨ 5 < v1) := by omega
      rcases hs20 with hc | hc | hc | hc | hc | hc | hc
      · have h := h.1 hc
        refine V_tsIn (i := 0) (g := 80) dX5_well_40 hc (by decide) (iL rfl) rfl rfl ?_
        refine V_aload_n 0 rfl dX5_well_80 rfl ?_
        refine gX5_19 rfl kY0 rF0_1 dX5_well_81 rfl ?_
        refine V_iload_n 2 rfl dX5_well_84 rfl ?_
        refine pX5_127 rfl kY7 dX5_well_85 rfl (fun u21 e22 => ?_)
        have h := h u21 e22
        refine V_goto (g := 154) dX5_well_88 rfl ?_
        refine V_iload_n 3 rfl dX5_well_154 rfl ?_
        exact V_iret dX5_well_155 (Or.inl rfl) h
      · have h := h.2.1 hc
        refine V_tsIn (i := 1) (g := 91) dX5_well_40 hc (by decide) (iL rfl) rfl rfl ?_
        refine V_aload_n 0 rfl dX5_well_91 rfl ?_
        refine gX5_10 rfl kY0 rF0_0 dX5_well_92 rfl ?_
        refine V_iload_n 2 rfl dX5_well_95 rfl ?_
        refine pX5_130 rfl kY1 dX5_well_96 rfl (fun u23 e24 => ?_)
        have h := h u23 e24
        refine V_goto (g := 154) dX5_well_99 rfl ?_
        refine V_iload_n 3 rfl dX5_well_154 rfl ?_
        exact V_iret dX5_well_155 (Or.inl rfl) h
      · have h := h.2.2.1 hc
        refine V_tsIn (i := 2) (g := 102) dX5_well_40 hc (by decide) (iL rfl) rfl rfl ?_
        refine V_aload_n 0 rfl dX5_well_102 rfl ?_
        refine gX5_10 rfl kY0 rF0_0 dX5_well_103 rfl ?_
        refine V_iload_n 2 rfl dX5_well_106 rfl ?_
        refine pX5_133 rfl kY1 dX5_well_107 rfl (fun u25 e26 => ?_)
        have h := h u25 e26
        refine V_goto (g := 154) dX5_well_110 rfl ?_
        refine V_iload_n 3 rfl dX5_well_154 rfl ?_
        exact V_iret dX5_well_155 (Or.inl rfl) h
      · have h := h.2.2.2.1 hc
        refine V_tsIn (i := 3) (g := 113) dX5_well_40 hc (by decide) (iL rfl) rfl rfl ?_
        refine V_aload_n 0 rfl dX5_well_113 rfl ?_
        refine gX5_10 rfl kY0 rF0_0 dX5_well_114 rfl ?_
        refine V_iload_n 2 rfl dX5_well_117 rfl ?_
        refine pX5_136 rfl kY1 dX5_well_118 rfl (fun u27 e28 => ?_)
        have h := h u27 e28
        refine V_goto (g := 154) dX5_well_121 rfl ?_
        refine V_iload_n 3 rfl dX5_well_154 rfl ?_
        exact V_iret dX5_well_155 (Or.inl rfl) h
      · have h := h.2.2.2.2.1 hc
        refine V_tsIn (i := 4) (g := 124) dX5_well_40 hc (by decide) (iL rfl) rfl rfl ?_
        refine V_aload_n 0 rfl dX5_well_124 rfl ?_
        refine gX5_10 rfl kY0 rF0_0 dX5_well_125 rfl ?_
        refine V_iload_n 2 rfl dX5_well_128 rfl ?_
        refine pX5_139 rfl kY1 dX5_well_129 rfl (fun u29 e30 => ?_)
        have h := h u29 e30
        refine V_goto (g := 154) dX5_well_132 rfl ?_
        refine V_iload_n 3 rfl dX5_well_154 rfl ?_
        exact V_iret dX5_well_155 (Or.inl rfl) h
      · have h := h.2.2.2.2.2.1 hc
        refine V_tsIn (i := 5) (g := 135) dX5_well_40 hc (by decide) (iL rfl) rfl rfl ?_
        refine V_aload_n 0 rfl dX5_well_135 rfl ?_
        refine gX5_10 rfl kY0 rF0_0 dX5_well_136 rfl ?_
        refine V_iload_n 2 rfl dX5_well_139 rfl ?_
        refine pX5_142 rfl kY1 dX5_well_140 rfl (fun u31 e32 => ?_)
        have h := h u31 e32
        refine V_goto (g := 154) dX5_well_143 rfl ?_
        refine V_iload_n 3 rfl dX5_well_154 rfl ?_
        exact V_iret dX5_well_155 (Or.inl rfl) h
      · have h := h.2.2.2.2.2.2 hc
        refine V_tsOut (g := 146) dX5_well_40 q19 hc rfl ?_
        refine V_aload_n 0 rfl dX5_well_146 rfl ?_
        refine gX5_10 rfl kY0 rF0_0 dX5_well_147 rfl ?_
        refine V_iload_n 2 rfl dX5_well_150 rfl ?_
        refine pX5_145 rfl kY1 dX5_well_151 rfl (fun u33 e34 => ?_)
        have h := h u33 e34
        refine V_iload_n 3 rfl dX5_well_154 rfl ?_
        exact V_iret dX5_well_155 (Or.inl rfl) h
    · have h := h.2 hc
      refine V_iconst dX5_well_31 rfl ?_
      exact V_iret dX5_well_32 (Or.inl rfl) h
theorem eX5_pull {G : GG} {Q : Int → Mem → Prop} {t : Mem} {v1 : Int} (k : V G mX5_pull 0 [(0, RR 0), (1, II v1)] [] t Q) : Ex G mX5_pull [RR 0, II v1] t Q := Ex.of plX5 (Or.inr (Or.inl rfl)) (Nat.le_of_ble_eq_true rfl) rfl k
set_option maxRecDepth 100000 in
theorem sgX5_pull_0 {G : GG} {Q : Int → Mem → Prop} {t : Mem} {v1 : Int}  (h : In32 v1 ∧ (v1 = (-4) → ∀ u2 : Mem, u2 = wr t 1 6 v1 → Q (t 1 6) u2) ∧ (¬ v1 = (-4) → ∃ P4 : Int → Mem → Prop, Ex G mX0_lacks [RR 1, II v1] t P4 ∧ ∀ (r6 : Int) (u7 : Mem), P4 r6 u7 → In32 r6 ∧ (r6 = 0 → ∀ u10 : Mem, u10 = wr u7 1 6 v1 → Q (u7 1 6) u10) ∧ (¬ r6 = 0 → Q (-1) u7))) : V G mX5_pull 0 [(0, RR 0), (1, II v1)] [] t Q := by
  refine V_iload_n 1 rfl dX5_pull_0 rfl ?_
  refine V_bipush (by decide) dX5_pull_1 rfl ?_
  obtain ⟨q1, h⟩ := h
  refine V_icmp_eq q1 (iL rfl) dX5_pull_3 (g := 19) rfl rfl ⟨fun hc => ?_, fun hc => ?_⟩
  · have h := h.1 hc
    refine V_aload_n 0 rfl dX5_pull_19 rfl ?_
    refine gX5_10 rfl kY0 rF0_0 dX5_pull_20 rfl ?_
    refine gX5_148 rfl kY1 dX5_pull_23 rfl ?_
    refine V_istore_n (ls2 := [(0, RR 0), (1, II v1), (2, II (t 1 6))]) dX5_pull_26 rfl (by decide) rfl ?_
    refine V_aload_n 0 rfl dX5_pull_27 rfl ?_
    refine gX5_10 rfl kY0 rF0_0 dX5_pull_28 rfl ?_
    refine V_iload_n 1 rfl dX5_pull_31 rfl ?_
    refine pX5_148 rfl kY1 dX5_pull_32 rfl (fun u2 e3 => ?_)
    have h := h u2 e3
    refine V_iload_n 2 rfl dX5_pull_35 rfl ?_
    exact V_iret dX5_pull_36 (Or.inl rfl) h
  · have h := h.2 hc
    refine V_aload_n 0 rfl dX5_pull_6 rfl ?_
    refine gX5_10 rfl kY0 rF0_0 dX5_pull_7 rfl ?_
    refine V_iload_n 1 rfl dX5_pull_10 rfl ?_
    obtain ⟨P4, c5, h⟩ := h
    refine V_callVi (st := []) (as := [II v1]) okX0_lacks rfl mlX5_84 (by decide) kY1 rfl (Nat.le_of_ble_eq_true rfl) rfl dX5_pull_11 rfl c5 (fun r6 u7 e8 => ?_)
    have h := h r6 u7 e8
    obtain ⟨q9, h⟩ := h
    refine V_if_eq q9 dX5_pull_14 (g := 19) rfl rfl ⟨fun hc => ?_, fun hc => ?_⟩
    · have h := h.1 hc
      refine V_aload_n 0 rfl dX5_pull_19 rfl ?_
      refine gX5_10 rfl kY0 rF0_0 dX5_pull_20 rfl ?_
      refine gX5_148 rfl kY1 dX5_pull_23 rfl ?_
      refine V_istore_n (ls2 := [(0, RR 0), (1, II v1), (2, II (u7 1 6))]) dX5_pull_26 rfl (by decide) rfl ?_
      refine V_aload_n 0 rfl dX5_pull_27 rfl ?_
      refine gX5_10 rfl kY0 rF0_0 dX5_pull_28 rfl ?_
      refine V_iload_n 1 rfl dX5_pull_31 rfl ?_
      refine pX5_148 rfl kY1 dX5_pull_32 rfl (fun u10 e11 => ?_)
      have h := h u10 e11
      refine V_iload_n 2 rfl dX5_pull_35 rfl ?_
      exact V_iret dX5_pull_36 (Or.inl rfl) h
    · have h := h.2 hc
      refine V_iconst dX5_pull_17 rfl ?_
      exact V_iret dX5_pull_18 (Or.inl rfl) h
theorem eX5_turn {G : GG} {Q : Int → Mem → Prop} {t : Mem} {v1 : Int} (k : V G mX5_turn 0 [(0, RR 0), (1, II v1)] [] t Q) : Ex G mX5_turn [RR 0, II v1] t Q := Ex.of plX5 (Or.inr (Or.inl rfl)) (Nat.le_of_ble_eq_true rfl) rfl k
set_option maxRecDepth 100000 in
theorem sgX5_turn_0 {G : GG} {Q : Int → Mem → Prop} {t : Mem} {v1 : Int}  (h : ∃ P1 : Int → Mem → Prop, Ex G mX0_lacks [RR 1, II v1] t P1 ∧ ∀ (r3 : Int) (u4 : Mem), P1 r3 u4 → In32 r3 ∧ (r3 = 0 → ∃ P7 : Int → Mem → Prop, Ex G mX0_arrange [RR 1] u4 P7 ∧ ∀ u10 : Mem, P7 0 u10 → (0 ≤ v1 ∧ v1 < 7) ∧ Q (u10 6 v1.toNat) u10) ∧ (¬ r3 = 0 → Q (-1) u4)) : V G mX5_turn 0 [(0, RR 0), (1, II v1)] [] t Q := by
  refine V_aload_n 0 rfl dX5_turn_0 rfl ?_
  refine gX5_10 rfl kY0 rF0_0 dX5_turn_1 rfl ?_
  refine V_iload_n 1 rfl dX5_turn_4 rfl ?_
  obtain ⟨P1, c2, h⟩ := h
  refine V_callVi (st := []) (as := [II v1]) okX0_lacks rfl mlX5_84 (by decide) kY1 rfl (Nat.le_of_ble_eq_true rfl) rfl dX5_turn_5 rfl c2 (fun r3 u4 e5 => ?_)
  have h := h r3 u4 e5
  obtain ⟨q6, h⟩ := h
  refine V_if_eq q6 dX5_turn_8 (g := 13) rfl rfl ⟨fun hc => ?_, fun hc => ?_⟩
  · have h := h.1 hc
    refine V_aload_n 0 rfl dX5_turn_13 rfl ?_
    refine gX5_10 rfl kY0 rF0_0 dX5_turn_14 rfl ?_
    obtain ⟨P7, c8, h⟩ := h
    refine V_callVv (st := []) (as := []) okX0_arrange rfl mlX5_151 (by decide) kY1 rfl (Nat.le_of_ble_eq_true rfl) rfl dX5_turn_17 rfl c8 (fun u10 e11 => ?_)
    have h := h u10 e11
    refine V_aload_n 0 rfl dX5_turn_20 rfl ?_
    refine gX5_10 rfl kY0 rF0_0 dX5_turn_21 rfl ?_
    refine gX5_154 rfl kY1 rF1_12 dX5_turn_24 rfl ?_
    refine V_iload_n 1 rfl dX5_turn_27 rfl ?_
    obtain ⟨q12, h⟩ := h
    refine V_ialdn kY6 lI6 q12 dX5_turn_28 rfl ?_
    exact V_iret dX5_turn_29 (Or.inl rfl) h
  · have h := h.2 hc
    refine V_iconst dX5_turn_11 rfl ?_
    exact V_iret dX5_turn_12 (Or.inl rfl) h
theorem eX5_type {G : GG} {Q : Int → Mem → Prop} {t : Mem} {v1 : Int} (k : V G mX5_type 0 [(0, RR 0), (1, II v1)] [] t Q) : Ex G mX5_type [RR 0, II v1] t Q := Ex.of plX5 (Or.inr (Or.inl rfl)) (Nat.le_of_ble_eq_true rfl) rfl k
set_option maxRecDepth 100000 in
theorem sgX5_type_0 {G : GG} {Q : Int → Mem → Prop} {t : Mem} {v1 : Int}  (h : ∃ P1 : Int → Mem → Prop, Ex G mX5_outside [II v1, II 32, II 126] t P1 ∧ ∀ (r3 : Int) (u4 : Mem), P1 r3 u4 → In32 r3 ∧ (r3 = 0 → ∃ P7 : Int → Mem → Prop, Ex G mX4_put [RR 121, II v1] u4 P7 ∧ ∀ (r9 : Int) (u10 : Mem), P7 r9 u10 → In32 r9 ∧ ∀ w13 : Int, w13 = (if r9 = 0 then (-3) else u10 121 1) → Q w13 u10) ∧ (¬ r3 = 0 → Q (-1) u4)) : V G mX5_type 0 [(0, RR 0), (1, II v1)] [] t Q := by
  refine V_iload_n 1 rfl dX5_type_0 rfl ?_
  refine V_bipush (by decide) dX5_type_1 rfl ?_
  refine V_bipush (by decide) dX5_type_3 rfl ?_
  obtain ⟨P1, c2, h⟩ := h
  refine V_callSi (st := []) (as := [II v1, II 32, II 126]) okX5_outside rfl mlX5_69 (by decide) rfl (Nat.le_of_ble_eq_true rfl) rfl dX5_type_5 rfl c2 (fun r3 u4 e5 => ?_)
  have h := h r3 u4 e5
  obtain ⟨q6, h⟩ := h
  refine V_if_eq q6 dX5_type_8 (g := 13) rfl rfl ⟨fun hc => ?_, fun hc => ?_⟩
  · have h := h.1 hc
    refine V_aload_n 0 rfl dX5_type_13 rfl ?_
    refine gX5_58 rfl kY0 rF0_12 dX5_type_14 rfl ?_
    refine V_iload_n 1 rfl dX5_type_17 rfl ?_
    obtain ⟨P7, c8, h⟩ := h
    refine V_callVi (st := []) (as := [II v1]) okX4_put rfl mlX5_157 (by decide) kY121 rfl (Nat.le_of_ble_eq_true rfl) rfl dX5_type_18 rfl c8 (fun r9 u10 e11 => ?_)
    have h := h r9 u10 e11
    obtain ⟨q12, h⟩ := h
    have hj17 : ∀ w13 : Int, w13 = (if r9 = 0 then (-3) else u10 121 1) → V G mX5_type 36 [(0, RR 0), (1, II v1)] [II w13] u10 Q := by
      intro w13 e14
      have h := h w13 e14
      exact V_iret dX5_type_36 (Or.inl rfl) h
    have hj17 := hj17 _ rfl
    refine V_if_eq q12 dX5_type_21 (g := 34) rfl rfl ⟨fun hc => ?_, fun hc => ?_⟩
    · skip
      refine V_bipush (by decide) dX5_type_34 rfl ?_
      rw [if_pos hc] at hj17
      exact hj17
    · skip
      refine V_aload_n 0 rfl dX5_type_24 rfl ?_
      refine gX5_58 rfl kY0 rF0_12 dX5_type_25 rfl ?_
      refine gX5_160 rfl kY121 dX5_type_28 rfl ?_
      refine V_goto (g := 36) dX5_type_31 rfl ?_
      rw [if_neg hc] at hj17
      exact hj17
  · have h := h.2 hc
    refine V_iconst dX5_type_11 rfl ?_
    exact V_iret dX5_type_12 (Or.inl rfl) h
theorem eX5_caravan {G : GG} {Q : Int → Mem → Prop} {t : Mem} (k : V G mX5_caravan 0 [(0, RR 0)] [] t Q) : Ex G mX5_caravan [RR 0] t Q := Ex.of plX5 (Or.inr (Or.inl rfl)) (Nat.le_of_ble_eq_true rfl) rfl k
set_option maxRecDepth 100000 in
theorem sgX5_caravan_0 {G : GG} {Q : Int → Mem → Prop} {t : Mem}  (h : ∃ P1 : Int → Mem → Prop, Ex G mX0_takeFrom [RR 107, RR 1] t P1 ∧ ∀ u4 : Mem, P1 0 u4 → ∃ P6 : Int → Mem → Prop, Ex G mX4_readInto [RR 121, RR 107] u4 P6 ∧ ∀ (r8 : Int) (u9 : Mem), P6 r8 u9 → ∀ u11 : Mem, u11 = wr u9 121 1 0 → In32 r8 ∧ (r8 ≤ 0 → Q r8 u11) ∧ (¬ r8 ≤ 0 → ∃ P14 : Int → Mem → Prop, Ex G mX0_takeFrom [RR 1, RR 107] u11 P14 ∧ ∀ u17 : Mem, P14 0 u17 → ∃ P19 : Int → Mem → Prop, Ex G mX1_begin [RR 7, II (u17 121 3)] u17 P19 ∧ ∀ u22 : Mem, P19 0 u22 → ∃ P24 : Int → Mem → Prop, Ex G mX2_forget [RR 12] u22 P24 ∧ ∀ u27 : Mem, P24 0 u27 → Q r8 u27)) : V G mX5_caravan 0 [(0, RR 0)] [] t Q := by
  refine V_aload_n 0 rfl dX5_caravan_0 rfl ?_
  refine gX5_39 rfl kY0 rF0_7 dX5_caravan_1 rfl ?_
  refine V_aload_n 0 rfl dX5_caravan_4 rfl ?_
  refine gX5_10 rfl kY0 rF0_0 dX5_caravan_5 rfl ?_
  obtain ⟨P1, c2, h⟩ := h
  refine V_callVv (st := []) (as := [RR 1]) okX0_takeFrom rfl mlX5_163 (by decide) kY107 rfl (Nat.le_of_ble_eq_true rfl) rfl dX5_caravan_8 rfl c2 (fun u4 e5 => ?_)
  have h := h u4 e5
  refine V_aload_n 0 rfl dX5_caravan_11 rfl ?_
  refine gX5_58 rfl kY0 rF0_12 dX5_caravan_12 rfl ?_
  refine V_aload_n 0 rfl dX5_caravan_15 rfl ?_
  refine gX5_39 rfl kY0 rF0_7 dX5_caravan_16 rfl ?_
  obtain ⟨P6, c7, h⟩ := h
  refine V_callVi (st := []) (as := [RR 107]) okX4_readInto rfl mlX5_167 (by decide) kY121 rfl (Nat.le_of_ble_eq_true rfl) rfl dX5_caravan_19 rfl c7 (fun r8 u9 e10 => ?_)
  have h := h r8 u9 e10
  refine V_istore_n (ls2 := [(0, RR 0), (1, II r8)]) dX5_caravan_22 rfl (by decide) rfl ?_
  refine V_aload_n 0 rfl dX5_caravan_23 rfl ?_
  refine gX5_58 rfl kY0 rF0_12 dX5_caravan_24 rfl ?_
  refine V_iconst dX5_caravan_27 rfl ?_
  refine pX5_160 rfl kY121 dX5_caravan_28 rfl (fun u11 e12 => ?_)
  have h := h u11 e12
  refine V_iload_n 1 rfl dX5_caravan_31 rfl ?_
  obtain ⟨q13, h⟩ := h
  refine V_if_le q13 dX5_caravan_32 (g := 67) rfl rfl ⟨fun hc => ?_, fun hc => ?_⟩
  · have h := h.1 hc
    refine V_iload_n 1 rfl dX5_caravan_67 rfl ?_
    exact V_iret dX5_caravan_68 (Or.inl rfl) h
  · have h := h.2 hc
    refine V_aload_n 0 rfl dX5_caravan_35 rfl ?_
    refine gX5_10 rfl kY0 rF0_0 dX5_caravan_36 rfl ?_
    refine V_aload_n 0 rfl dX5_caravan_39 rfl ?_
    refine gX5_39 rfl kY0 rF0_7 dX5_caravan_40 rfl ?_
    obtain ⟨P14, c15, h⟩ := h
    refine V_callVv (st := []) (as := [RR 107]) okX0_takeFrom rfl mlX5_163 (by decide) kY1 rfl (Nat.le_of_ble_eq_true rfl) rfl dX5_caravan_43 rfl c15 (fun u17 e18 => ?_)
    have h := h u17 e18
    refine V_aload_n 0 rfl dX5_caravan_46 rfl ?_
    refine gX5_19 rfl kY0 rF0_1 dX5_caravan_47 rfl ?_
    refine V_aload_n 0 rfl dX5_caravan_50 rfl ?_
    refine gX5_58 rfl kY0 rF0_12 dX5_caravan_51 rfl ?_
    refine gX5_171 rfl kY121 dX5_caravan_54 rfl ?_
    obtain ⟨P19, c20, h⟩ := h
    refine V_callVv (st := []) (as := [II (u17 121 3)]) okX1_begin rfl mlX5_172 (by decide) kY7 rfl (Nat.le_of_ble_eq_true rfl) rfl dX5_caravan_57 rfl c20 (fun u22 e23 => ?_)
    have h := h u22 e23
    refine V_aload_n 0 rfl dX5_caravan_60 rfl ?_
    refine gX5_26 rfl kY0 rF0_2 dX5_caravan_61 rfl ?_
    obtain ⟨P24, c25, h⟩ := h
    refine V_callVv (st := []) (as := []) okX2_forget rfl mlX5_77 (by decide) kY12 rfl (Nat.le_of_ble_eq_true rfl) rfl dX5_caravan_64 rfl c25 (fun u27 e28 => ?_)
    have h := h u27 e28
    refine V_iload_n 1 rfl dX5_caravan_67 rfl ?_
    exact V_iret dX5_caravan_68 (Or.inl rfl) h
theorem eX5_count {G : GG} {Q : Int → Mem → Prop} {t : Mem} {v1 : Int} (k : V G mX5_count 0 [(0, RR 0), (1, II v1)] [] t Q) : Ex G mX5_count [RR 0, II v1] t Q := Ex.of plX5 (Or.inr (Or.inl rfl)) (Nat.le_of_ble_eq_true rfl) rfl k
set_option maxRecDepth 100000 in
theorem sgX5_count_0 {G : GG} {Q : Int → Mem → Prop} {t : Mem} {v1 : Int}  (h : In32 v1 ∧ (v1 = 0 → Q (t 1 7) t) ∧ (v1 = 1 → Q (t 7 4) t) ∧ (v1 = 2 → Q (t 7 0) t) ∧ (v1 = 3 → Q (t 7 1) t) ∧ (v1 = 4 → Q (t 7 2) t) ∧ (v1 = 5 → Q (t 7 3) t) ∧ (v1 = 6 → Q (t 12 2) t) ∧ (v1 = 7 → ∃ P3 : Int → Mem → Prop, Ex G mX1_satedSet [RR 7, RR 1] t P3 ∧ ∀ (r5 : Int) (u6 : Mem), P3 r5 u6 → Q r5 u6) ∧ (v1 = 8 → ∃ P8 : Int → Mem → Prop, Ex G mX1_drunkTogether [RR 7] t P8 ∧ ∀ (r10 : Int) (u11 : Mem), P8 r10 u11 → Q r10 u11) ∧ (v1 = 9 → ∃ P13 : Int → Mem → Prop, Ex G mX5_measure [RR 0, II (v1 - 8)] t P13 ∧ ∀ (r15 : Int) (u16 : Mem), P13 r15 u16 → Q r15 u16) ∧ (v1 = 10 → ∃ P18 : Int → Mem → Prop, Ex G mX5_measure [RR 0, II (v1 - 8)] t P18 ∧ ∀ (r20 : Int) (u21 : Mem), P18 r20 u21 → Q r20 u21) ∧ (v1 = 11 → ∃ P23 : Int → Mem → Prop, Ex G mX5_measure [RR 0, II (v1 - 8)] t P23 ∧ ∀ (r25 : Int) (u26 : Mem), P23 r25 u26 → Q r25 u26) ∧ (v1 = 12 → ∃ P28 : Int → Mem → Prop, Ex G mX5_measure [RR 0, II (v1 - 8)] t P28 ∧ ∀ (r30 : Int) (u31 : Mem), P28 r30 u31 → Q r30 u31) ∧ (v1 = 13 → ∃ P33 : Int → Mem → Prop, Ex G mX5_measure [RR 0, II (v1 - 8)] t P33 ∧ ∀ (r35 : Int) (u36 : Mem), P33 r35 u36 → Q r35 u36) ∧ (v1 = 14 → ∃ P38 : Int → Mem → Prop, Ex G mX5_measure [RR 0, II (v1 - 8)] t P38 ∧ ∀ (r40 : Int) (u41 : Mem), P38 r40 u41 → Q r40 u41) ∧ (v1 = 15 → Q (t 1 6) t) ∧ ((v1 < 0 ∨ 15 < v1) → Q (-1) t)) : V G mX5_count 0 [(0, RR 0), (1, II v1)] [] t Q := by
  refine V_iload_n 1 rfl dX5_count_0 rfl ?_
  obtain ⟨q1, h⟩ := h
  have hs2 : v1 = 0 ∨ v1 = 1 ∨ v1 = 2 ∨ v1 = 3 ∨ v1 = 4 ∨ v1 = 5 ∨ v1 = 6 ∨ v1 = 7 ∨ v1 = 8 ∨ v1 = 9 ∨ v1 = 10 ∨ v1 = 11 ∨ v1 = 12 ∨ v1 = 13 ∨ v1 = 14 ∨ v1 = 15 ∨ (v1 < 0 ∨ 15 < v1) := by omega
  rcases hs2 with hc | hc | hc | hc | hc | hc | hc | hc | hc | hc | hc | hc | hc | hc | hc | hc | hc
  · have h := h.1 hc
    refine V_tsIn (i := 0) (g := 80) dX5_count_1 hc (by decide) (iL rfl) rfl rfl ?_
    refine V_aload_n 0 rfl dX5_count_80 rfl ?_
    refine gX5_10 rfl kY0 rF0_0 dX5_count_81 rfl ?_
    refine gX5_73 rfl kY1 dX5_count_84 rfl ?_
    exact V_iret dX5_count_87 (Or.inl rfl) h
  · have h := h.2.1 hc
    refine V_tsIn (i := 1) (g := 88) dX5_count_1 hc (by decide) (iL rfl) rfl rfl ?_
    refine V_aload_n 0 rfl dX5_count_88 rfl ?_
    refine gX5_19 rfl kY0 rF0_1 dX5_count_89 rfl ?_
    refine gX5_176 rfl kY7 dX5_count_92 rfl ?_
    exact V_iret dX5_count_95 (Or.inl rfl) h
  · have h := h.2.2.1 hc
    refine V_tsIn (i := 2) (g := 96) dX5_count_1 hc (by decide) (iL rfl) rfl rfl ?_
    refine V_aload_n 0 rfl dX5_count_96 rfl ?_
    refine gX5_19 rfl kY0 rF0_1 dX5_count_97 rfl ?_
    refine gX5_127 rfl kY7 dX5_count_100 rfl ?_
    exact V_iret dX5_count_103 (Or.inl rfl) h
  · have h := h.2.2.2.1 hc
    refine V_tsIn (i := 3) (g := 104) dX5_count_1 hc (by decide) (iL rfl) rfl rfl ?_
    refine V_aload_n 0 rfl dX5_count_104 rfl ?_
    refine gX5_19 rfl kY0 rF0_1 dX5_count_105 rfl ?_
    refine gX5_179 rfl kY7 dX5_count_108 rfl ?_
    exact V_iret dX5_count_111 (Or.inl rfl) h
  · have h := h.2.2.2.2.1 hc
    refine V_tsIn (i := 4) (g := 112) dX5_count_1 hc (by decide) (iL rfl) rfl rfl ?_
    refine V_aload_n 0 rfl dX5_count_112 rfl ?_
    refine gX5_19 rfl kY0 rF0_1 dX5_count_113 rfl ?_
    refine gX5_182 rfl kY7 dX5_count_116 rfl ?_
    exact V_iret dX5_count_119 (Or.inl rfl) h
  · have h := h.2.2.2.2.2.1 hc
    refine V_tsIn (i := 5) (g := 120) dX5_count_1 hc (by decide) (iL rfl) rfl rfl ?_
    refine V_aload_n 0 rfl dX5_count_120 rfl ?_
    refine gX5_19 rfl kY0 rF0_1 dX5_count_121 rfl ?_
    refine gX5_185 rfl kY7 dX5_count_124 rfl ?_
    exact V_iret dX5_count_127 (Or.inl rfl) h
  · have h := h.2.2.2.2.2.2.1 hc
    refine V_tsIn (i := 6) (g := 128) dX5_count_1 hc (by decide) (iL rfl) rfl rfl ?_
    refine V_aload_n 0 rfl dX5_count_128 rfl ?_
    refine gX5_26 rfl kY0 rF0_2 dX5_count_129 rfl ?_
    refine gX5_188 rfl kY12 dX5_count_132 rfl ?_
    exact V_iret dX5_count_135 (Or.inl rfl) h
  · have h := h.2.2.2.2.2.2.2.1 hc
    refine V_tsIn (i := 7) (g := 136) dX5_count_1 hc (by decide) (iL rfl) rfl rfl ?_
    refine V_aload_n 0 rfl dX5_count_136 rfl ?_
    refine gX5_19 rfl kY0 rF0_1 dX5_count_137 rfl ?_
    refine V_aload_n 0 rfl dX5_count_140 rfl ?_
    refine gX5_10 rfl kY0 rF0_0 dX5_count_141 rfl ?_
    obtain ⟨P3, c4, h⟩ := h
    refine V_callVi (st := []) (as := [RR 1]) okX1_satedSet rfl mlX5_191 (by decide) kY7 rfl (Nat.le_of_ble_eq_true rfl) rfl dX5_count_144 rfl c4 (fun r5 u6 e7 => ?_)
    have h := h r5 u6 e7
    exact V_iret dX5_count_147 (Or.inl rfl) h
  · have h := h.2.2.2.2.2.2.2.2.1 hc
    refine V_tsIn (i := 8) (g := 148) dX5_count_1 hc (by decide) (iL rfl) rfl rfl ?_
    refine V_aload_n 0 rfl dX5_count_148 rfl ?_
    refine gX5_19 rfl kY0 rF0_1 dX5_count_149 rfl ?_
    obtain ⟨P8, c9, h⟩ := h
    refine V_callVi (st := []) (as := []) okX1_drunkTogether rfl mlX5_194 (by decide) kY7 rfl (Nat.le_of_ble_eq_true rfl) rfl dX5_count_152 rfl c9 (fun r10 u11 e12 => ?_)
    have h := h r10 u11 e12
    exact V_iret dX5_count_155 (Or.inl rfl) h
  · have h := h.2.2.2.2.2.2.2.2.2.1 hc
    refine V_tsIn (i := 9) (g := 156) dX5_count_1 hc (by decide) (iL rfl) rfl rfl ?_
    refine V_aload_n 0 rfl dX5_count_156 rfl ?_
    refine V_iload_n 1 rfl dX5_count_157 rfl ?_
    refine V_bipush (by decide) dX5_count_158 rfl ?_
    refine V_isub dX5_count_160 rfl ?_
    obtain ⟨P13, c14, h⟩ := h
    refine V_callVi (st := []) (as := [II (v1 - 8)]) okX5_measure rfl mlX5_124 (by decide) kY0 rfl (Nat.le_of_ble_eq_true rfl) rfl dX5_count_161 rfl c14 (fun r15 u16 e17 => ?_)
    have h := h r15 u16 e17
    exact V_iret dX5_count_164 (Or.inl rfl) h
  · have h := h.2.2.2.2.2.2.2.2.2.2.1 hc
    refine V_tsIn (i := 10) (g := 156) dX5_count_1 hc (by decide) (iL rfl) rfl rfl ?_
    refine V_aload_n 0 rfl dX5_count_156 rfl ?_
    refine V_iload_n 1 rfl dX5_count_157 rfl ?_
    refine V_bipush (by decide) dX5_count_158 rfl ?_
    refine V_isub dX5_count_160 rfl ?_
    obtain ⟨P18, c19, h⟩ := h
    refine V_callVi (st := []) (as := [II (v1 - 8)]) okX5_measure rfl mlX5_124 (by decide) kY0 rfl (Nat.le_of_ble_eq_true rfl) rfl dX5_count_161 rfl c19 (fun r20 u21 e22 => ?_)
    have h := h r20 u21 e22
    exact V_iret dX5_count_164 (Or.inl rfl) h
  · have h := h.2.2.2.2.2.2.2.2.2.2.2.1 hc
    refine V_tsIn (i := 11) (g := 156) dX5_count_1 hc (by decide) (iL rfl) rfl rfl ?_
    refine V_aload_n 0 rfl dX5_count_156 rfl ?_
    refine V_iload_n 1 rfl dX5_count_157 rfl ?_
    refine V_bipush (by decide) dX5_count_158 rfl ?_
    refine V_isub dX5_count_160 rfl ?_
    obtain ⟨P23, c24, h⟩ := h
    refine V_callVi (st := []) (as := [II (v1 - 8)]) okX5_measure rfl mlX5_124 (by decide) kY0 rfl (Nat.le_of_ble_eq_true rfl) rfl dX5_count_161 rfl c24 (fun r25 u26 e27 => ?_)
    have h := h r25 u26 e27
    exact V_iret dX5_count_164 (Or.inl rfl) h
  · have h := h.2.2.2.2.2.2.2.2.2.2.2.2.1 hc
    refine V_tsIn (i := 12) (g := 156) dX5_count_1 hc (by decide) (iL rfl) rfl rfl ?_
    refine V_aload_n 0 rfl dX5_count_156 rfl ?_
    refine V_iload_n 1 rfl dX5_count_157 rfl ?_
    refine V_bipush (by decide) dX5_count_158 rfl ?_
    refine V_isub dX5_count_160 rfl ?_
    obtain ⟨P28, c29, h⟩ := h
    refine V_callVi (st := []) (as := [II (v1 - 8)]) okX5_measure rfl mlX5_124 (by decide) kY0 rfl (Nat.le_of_ble_eq_true rfl) rfl dX5_count_161 rfl c29 (fun r30 u31 e32 => ?_)
    have h := h r30 u31 e32
    exact V_iret dX5_count_164 (Or.inl rfl) h
  · have h := h.2.2.2.2.2.2.2.2.2.2.2.2.2.1 hc
    refine V_tsIn (i := 13) (g := 156) dX5_count_1 hc (by decide) (iL rfl) rfl rfl ?_
    refine V_aload_n 0 rfl dX5_count_156 rfl ?_
    refine V_iload_n 1 rfl dX5_count_157 rfl ?_
    refine V_bipush (by decide) dX5_count_158 rfl ?_
    refine V_isub dX5_count_160 rfl ?_
    obtain ⟨P33, c34, h⟩ := h
    refine V_callVi (st := []) (as := [II (v1 - 8)]) okX5_measure rfl mlX5_124 (by decide) kY0 rfl (Nat.le_of_ble_eq_true rfl) rfl dX5_count_161 rfl c34 (fun r35 u36 e37 => ?_)
    have h := h r35 u36 e37
    exact V_iret dX5_count_164 (Or.inl rfl) h
  · have h := h.2.2.2.2.2.2.2.2.2.2.2.2.2.2.1 hc
    refine V_tsIn (i := 14) (g := 156) dX5_count_1 hc (by decide) (iL rfl) rfl rfl ?_
    refine V_aload_n 0 rfl dX5_count_156 rfl ?_
    refine V_iload_n 1 rfl dX5_count_157 rfl ?_
    refine V_bipush (by decide) dX5_count_158 rfl ?_
    refine V_isub dX5_count_160 rfl ?_
    obtain ⟨P38, c39, h⟩ := h
    refine V_callVi (st := []) (as := [II (v1 - 8)]) okX5_measure rfl mlX5_124 (by decide) kY0 rfl (Nat.le_of_ble_eq_true rfl) rfl dX5_count_161 rfl c39 (fun r40 u41 e42 => ?_)
    have h := h r40 u41 e42
    exact V_iret dX5_count_164 (Or.inl rfl) h
  · have h := h.2.2.2.2.2.2.2.2.2.2.2.2.2.2.2.1 hc
    refine V_tsIn (i := 15) (g := 165) dX5_count_1 hc (by decide) (iL rfl) rfl rfl ?_
    refine V_aload_n 0 rfl dX5_count_165 rfl ?_
    refine gX5_10 rfl kY0 rF0_0 dX5_count_166 rfl ?_
    refine gX5_148 rfl kY1 dX5_count_169 rfl ?_
    exact V_iret dX5_count_172 (Or.inl rfl) h
  · have h := h.2.2.2.2.2.2.2.2.2.2.2.2.2.2.2.2 hc
    refine V_tsOut (g := 173) dX5_count_1 q1 hc rfl ?_
    refine V_iconst dX5_count_173 rfl ?_
    exact V_iret dX5_count_174 (Or.inl rfl) h
theorem eX5_measure {G : GG} {Q : Int → Mem → Prop} {t : Mem} {v1 : Int} (k : V G mX5_measure 0 [(0, RR 0), (1, II v1)] [] t Q) : Ex G mX5_measure [RR 0, II v1] t Q := Ex.of plX5 (Or.inr (Or.inl rfl)) (Nat.le_of_ble_eq_true rfl) rfl k
set_option maxRecDepth 100000 in
theorem sgX5_measure_0 {G : GG} {Q : Int → Mem → Prop} {t : Mem} {v1 : Int}  (h : In32 v1 ∧ (v1 = 0 → Q (t 7 0) t) ∧ (v1 = 1 → Q (t 1 0) t) ∧ (v1 = 2 → Q (t 1 1) t) ∧ (v1 = 3 → Q (t 1 2) t) ∧ (v1 = 4 → Q (t 1 3) t) ∧ (v1 = 5 → Q (t 1 4) t) ∧ ((v1 < 0 ∨ 5 < v1) → Q (t 1 5) t)) : V G mX5_measure 0 [(0, RR 0), (1, II v1)] [] t Q := by
  refine V_iload_n 1 rfl dX5_measure_0 rfl ?_
  obtain ⟨q1, h⟩ := h
  have hs2 : v1 = 0 ∨ v1 = 1 ∨ v1 = 2 ∨ v1 = 3 ∨ v1 = 4 ∨ v1 = 5 ∨ (v1 < 0 ∨ 5 < v1) := by omega
  rcases hs2 with hc | hc | hc | hc | hc | hc | hc
  · have h := h.1 hc
    refine V_tsIn (i := 0) (g := 40) dX5_measure_1 hc (by decide) (iL rfl) rfl rfl ?_
    refine V_aload_n 0 rfl dX5_measure_40 rfl ?_
    refine gX5_19 rfl kY0 rF0_1 dX5_measure_41 rfl ?_
    refine gX5_127 rfl kY7 dX5_measure_44 rfl ?_
    exact V_iret dX5_measure_47 (Or.inl rfl) h
  · have h := h.2.1 hc
    refine V_tsIn (i := 1) (g := 48) dX5_measure_1 hc (by decide) (iL rfl) rfl rfl ?_
    refine V_aload_n 0 rfl dX5_measure_48 rfl ?_
    refine gX5_10 rfl kY0 rF0_0 dX5_measure_49 rfl ?_
    refine gX5_130 rfl kY1 dX5_measure_52 rfl ?_
    exact V_iret dX5_measure_55 (Or.inl rfl) h
  · have h := h.2.2.1 hc
    refine V_tsIn (i := 2) (g := 56) dX5_measure_1 hc (by decide) (iL rfl) rfl rfl ?_
    refine V_aload_n 0 rfl dX5_measure_56 rfl ?_
    refine gX5_10 rfl kY0 rF0_0 dX5_measure_57 rfl ?_
    refine gX5_133 rfl kY1 dX5_measure_60 rfl ?_
    exact V_iret dX5_measure_63 (Or.inl rfl) h
  · have h := h.2.2.2.1 hc
    refine V_tsIn (i := 3) (g := 64) dX5_measure_1 hc (by decide) (iL rfl) rfl rfl ?_
    refine V_aload_n 0 rfl dX5_measure_64 rfl ?_
    refine gX5_10 rfl kY0 rF0_0 dX5_measure_65 rfl ?_
    refine gX5_136 rfl kY1 dX5_measure_68 rfl ?_
    exact V_iret dX5_measure_71 (Or.inl rfl) h
  · have h := h.2.2.2.2.1 hc
    refine V_tsIn (i := 4) (g := 72) dX5_measure_1 hc (by decide) (iL rfl) rfl rfl ?_
    refine V_aload_n 0 rfl dX5_measure_72 rfl ?_
    refine gX5_10 rfl kY0 rF0_0 dX5_measure_73 rfl ?_
    refine gX5_139 rfl kY1 dX5_measure_76 rfl ?_
    exact V_iret dX5_measure_79 (Or.inl rfl) h
  · have h := h.2.2.2.2.2.1 hc
    refine V_tsIn (i := 5) (g := 80) dX5_measure_1 hc (by decide) (iL rfl) rfl rfl ?_
    refine V_aload_n 0 rfl dX5_measure_80 rfl ?_
    refine gX5_10 rfl kY0 rF0_0 dX5_measure_81 rfl ?_
    refine gX5_142 rfl kY1 dX5_measure_84 rfl ?_
    exact V_iret dX5_measure_87 (Or.inl rfl) h
  · have h := h.2.2.2.2.2.2 hc
    refine V_tsOut (g := 88) dX5_measure_1 q1 hc rfl ?_
    refine V_aload_n 0 rfl dX5_measure_88 rfl ?_
    refine gX5_10 rfl kY0 rF0_0 dX5_measure_89 rfl ?_
    refine gX5_145 rfl kY1 dX5_measure_92 rfl ?_
    exact V_iret dX5_measure_95 (Or.inl rfl) h
theorem eX5_minutes {G : GG} {Q : Int → Mem → Prop} {t : Mem} {v1 : Int} (k : V G mX5_minutes 0 [(0, RR 0), (1, II v1)] [] t Q) : Ex G mX5_minutes [RR 0, II v1] t Q := Ex.of plX5 (Or.inr (Or.inl rfl)) (Nat.le_of_ble_eq_true rfl) rfl k
set_option maxRecDepth 100000 in
theorem sgX5_minutes_0 {G : GG} {Q : Int → Mem → Prop} {t : Mem} {v1 : Int}  (h : ∃ P1 : Int → Mem → Prop, Ex G mX5_refusal [RR 0, II v1] t P1 ∧ ∀ (r3 : Int) (u4 : Mem), P1 r3 u4 → In32 r3 ∧ (r3 = 0 → ∃ P7 : Int → Mem → Prop, Ex G mX0_arrange [RR 1] u4 P7 ∧ ∀ u10 : Mem, P7 0 u10 → ∃ P12 : Int → Mem → Prop, Ex G mX1_drunkTogether [RR 7] u10 P12 ∧ ∀ (r14 : Int) (u15 : Mem), P12 r14 u15 → V G mX5_minutes 30 [(0, RR 0), (1, II v1), (2, II r3), (3, II r14), (4, II 0)] [] u15 Q) ∧ (¬ r3 = 0 → Q r3 u4)) : V G mX5_minutes 0 [(0, RR 0), (1, II v1)] [] t Q := by
  refine V_aload_n 0 rfl dX5_minutes_0 rfl ?_
  refine V_iload_n 1 rfl dX5_minutes_1 rfl ?_
  obtain ⟨P1, c2, h⟩ := h
  refine V_callVi (st := []) (as := [II v1]) okX5_refusal rfl mlX5_198 (by decide) kY0 rfl (Nat.le_of_ble_eq_true rfl) rfl dX5_minutes_2 rfl c2 (fun r3 u4 e5 => ?_)
  have h := h r3 u4 e5
  refine V_istore_n (ls2 := [(0, RR 0), (1, II v1), (2, II r3)]) dX5_minutes_5 rfl (by decide) rfl ?_
  refine V_iload_n 2 rfl dX5_minutes_6 rfl ?_
  obtain ⟨q6, h⟩ := h
  refine V_if_eq q6 dX5_minutes_7 (g := 12) rfl rfl ⟨fun hc => ?_, fun hc => ?_⟩
  · have h := h.1 hc
    refine V_aload_n 0 rfl dX5_minutes_12 rfl ?_
    refine gX5_10 rfl kY0 rF0_0 dX5_minutes_13 rfl ?_
    obtain ⟨P7, c8, h⟩ := h
    refine V_callVv (st := []) (as := []) okX0_arrange rfl mlX5_151 (by decide) kY1 rfl (Nat.le_of_ble_eq_true rfl) rfl dX5_minutes_16 rfl c8 (fun u10 e11 => ?_)
    have h := h u10 e11
    refine V_aload_n 0 rfl dX5_minutes_19 rfl ?_
    refine gX5_19 rfl kY0 rF0_1 dX5_minutes_20 rfl ?_
    obtain ⟨P12, c13, h⟩ := h
    refine V_callVi (st := []) (as := []) okX1_drunkTogether rfl mlX5_194 (by decide) kY7 rfl (Nat.le_of_ble_eq_true rfl) rfl dX5_minutes_23 rfl c13 (fun r14 u15 e16 => ?_)
    have h := h r14 u15 e16
    refine V_istore_n (ls2 := [(0, RR 0), (1, II v1), (2, II r3), (3, II r14)]) dX5_minutes_26 rfl (by decide) rfl ?_
    refine V_iconst dX5_minutes_27 rfl ?_
    refine V_istore (ls2 := [(0, RR 0), (1, II v1), (2, II r3), (3, II r14), (4, II 0)]) dX5_minutes_28 rfl (by decide) rfl ?_
    exact h
  · have h := h.2 hc
    refine V_iload_n 2 rfl dX5_minutes_10 rfl ?_
    exact V_iret dX5_minutes_11 (Or.inl rfl) h
set_option maxRecDepth 100000 in
theorem sgX5_minutes_30 {G : GG} {Q : Int → Mem → Prop} {t : Mem} {v1 v2 v3 v4 : Int}  (h : In32 v4 ∧ In32 v1 ∧ (v1 ≤ v4 → ∃ P3 : Int → Mem → Prop, Ex G mX1_drunkTogether [RR 7] t P3 ∧ ∀ (r5 : Int) (u6 : Mem), P3 r5 u6 → Q (r5 - v3) u6) ∧ (¬ v1 ≤ v4 → ∃ P8 : Int → Mem → Prop, Ex G mX2_keep [RR 12, RR 7] t P8 ∧ ∀ u11 : Mem, P8 0 u11 → ∃ P13 : Int → Mem → Prop, Ex G mX1_step [RR 7, RR 1, II 127] u11 P13 ∧ ∀ (r15 : Int) (u16 : Mem), P13 r15 u16 → V G mX5_minutes 30 [(0, RR 0), (1, II v1), (2, II v2), (3, II v3), (4, II (v4 + 1))] [] u16 Q)) : V G mX5_minutes 30 [(0, RR 0), (1, II v1), (2, II v2), (3, II v3), (4, II v4)] [] t Q := by
  refine V_iload 4 rfl dX5_minutes_30 rfl ?_
  refine V_iload_n 1 rfl dX5_minutes_32 rfl ?_
  obtain ⟨q1, h⟩ := h
  obtain ⟨q2, h⟩ := h
  refine V_icmp_ge q1 q2 dX5_minutes_33 (g := 67) rfl rfl ⟨fun hc => ?_, fun hc => ?_⟩
  · have h := h.1 hc
    refine V_aload_n 0 rfl dX5_minutes_67 rfl ?_
    refine gX5_19 rfl kY0 rF0_1 dX5_minutes_68 rfl ?_
    obtain ⟨P3, c4, h⟩ := h
    refine V_callVi (st := []) (as := []) okX1_drunkTogether rfl mlX5_194 (by decide) kY7 rfl (Nat.le_of_ble_eq_true rfl) rfl dX5_minutes_71 rfl c4 (fun r5 u6 e7 => ?_)
    have h := h r5 u6 e7
    refine V_iload_n 3 rfl dX5_minutes_74 rfl ?_
    refine V_isub dX5_minutes_75 rfl ?_
    exact V_iret dX5_minutes_76 (Or.inl rfl) h
  · have h := h.2 hc
    refine V_aload_n 0 rfl dX5_minutes_36 rfl ?_
    refine gX5_26 rfl kY0 rF0_2 dX5_minutes_37 rfl ?_
    refine V_aload_n 0 rfl dX5_minutes_40 rfl ?_
    refine gX5_19 rfl kY0 rF0_1 dX5_minutes_41 rfl ?_
    obtain ⟨P8, c9, h⟩ := h
    refine V_callVv (st := []) (as := [RR 7]) okX2_keep rfl mlX5_201 (by decide) kY12 rfl (Nat.le_of_ble_eq_true rfl) rfl dX5_minutes_44 rfl c9 (fun u11 e12 => ?_)
    have h := h u11 e12
    refine V_aload_n 0 rfl dX5_minutes_47 rfl ?_
    refine gX5_19 rfl kY0 rF0_1 dX5_minutes_48 rfl ?_
    refine V_aload_n 0 rfl dX5_minutes_51 rfl ?_
    refine gX5_10 rfl kY0 rF0_0 dX5_minutes_52 rfl ?_
    refine V_bipush (by decide) dX5_minutes_55 rfl ?_
    obtain ⟨P13, c14, h⟩ := h
    refine V_callVi (st := []) (as := [RR 1, II 127]) okX1_step rfl mlX5_205 (by decide) kY7 rfl (Nat.le_of_ble_eq_true rfl) rfl dX5_minutes_57 rfl c14 (fun r15 u16 e17 => ?_)
    have h := h r15 u16 e17
    refine V_pop rfl dX5_minutes_60 rfl ?_
    refine V_iinc 4 rfl (ls2 := [(0, RR 0), (1, II v1), (2, II v2), (3, II v3), (4, II (v4 + 1))]) dX5_minutes_61 rfl (by decide) rfl ?_
    refine V_goto (g := 30) dX5_minutes_64 rfl ?_
    exact h
theorem eX5_drift {G : GG} {Q : Int → Mem → Prop} {t : Mem} {v1 : Int} (k : V G mX5_drift 0 [(0, RR 0), (1, II v1)] [] t Q) : Ex G mX5_drift [RR 0, II v1] t Q := Ex.of plX5 (Or.inr (Or.inl rfl)) (Nat.le_of_ble_eq_true rfl) rfl k
set_option maxRecDepth 100000 in
theorem sgX5_drift_0 {G : GG} {Q : Int → Mem → Prop} {t : Mem} {v1 : Int}  (h : ∃ P1 : Int → Mem → Prop, Ex G mX5_refusal [RR 0, II v1] t P1 ∧ ∀ (r3 : Int) (u4 : Mem), P1 r3 u4 → In32 r3 ∧ (r3 = 0 → ∃ P7 : Int → Mem → Prop, Ex G mX0_arrange [RR 1] u4 P7 ∧ ∀ u10 : Mem, P7 0 u10 → V G mX5_drift 24 [(0, RR 0), (1, II v1), (2, II r3), (3, II 0), (4, II 0)] [] u10 Q) ∧ (¬ r3 = 0 → Q r3 u4)) : V G mX5_drift 0 [(0, RR 0), (1, II v1)] [] t Q := by
  refine V_aload_n 0 rfl dX5_drift_0 rfl ?_
  refine V_iload_n 1 rfl dX5_drift_1 rfl ?_
  obtain ⟨P1, c2, h⟩ := h
  refine V_callVi (st := []) (as := [II v1]) okX5_refusal rfl mlX5_198 (by decide) kY0 rfl (Nat.le_of_ble_eq_true rfl) rfl dX5_drift_2 rfl c2 (fun r3 u4 e5 => ?_)
  have h := h r3 u4 e5
  refine V_istore_n (ls2 := [(0, RR 0), (1, II v1), (2, II r3)]) dX5_drift_5 rfl (by decide) rfl ?_
  refine V_iload_n 2 rfl dX5_drift_6 rfl ?_
  obtain ⟨q6, h⟩ := h
  refine V_if_eq q6 dX5_drift_7 (g := 12) rfl rfl ⟨fun hc => ?_, fun hc => ?_⟩
  · have h := h.1 hc
    refine V_aload_n 0 rfl dX5_drift_12 rfl ?_
    refine gX5_10 rfl kY0 rF0_0 dX5_drift_13 rfl ?_
    obtain ⟨P7, c8, h⟩ := h
    refine V_callVv (st := []) (as := []) okX0_arrange rfl mlX5_151 (by decide) kY1 rfl (Nat.le_of_ble_eq_true rfl) rfl dX5_drift_16 rfl c8 (fun u10 e11 => ?_)
    have h := h u10 e11
    refine V_iconst dX5_drift_19 rfl ?_
    refine V_istore_n (ls2 := [(0, RR 0), (1, II v1), (2, II r3), (3, II 0)]) dX5_drift_20 rfl (by decide) rfl ?_
    refine V_iconst dX5_drift_21 rfl ?_
    refine V_istore (ls2 := [(0, RR 0), (1, II v1), (2, II r3), (3, II 0), (4, II 0)]) dX5_drift_22 rfl (by decide) rfl ?_
    exact h
  · have h := h.2 hc
    refine V_iload_n 2 rfl dX5_drift_10 rfl ?_
    exact V_iret dX5_drift_11 (Or.inl rfl) h
set_option maxRecDepth 100000 in
theorem sgX5_drift_24 {G : GG} {Q : Int → Mem → Prop} {t : Mem} {v1 v2 v3 v4 : Int}  (h : In32 v4 ∧ In32 v1 ∧ (v1 ≤ v4 → Q v3 t) ∧ (¬ v1 ≤ v4 → ∃ P3 : Int → Mem → Prop, Ex G mX2_keep [RR 12, RR 7] t P3 ∧ ∀ u6 : Mem, P3 0 u6 → ∃ P8 : Int → Mem → Prop, Ex G mX1_step [RR 7, RR 1, II 127] u6 P8 ∧ ∀ (r10 : Int) (u11 : Mem), P8 r10 u11 → In32 (u11 7 2) ∧ In32 (u6 7 2) ∧ ((u11 7 2) ≤ (u6 7 2) → V G mX5_drift 24 [(0, RR 0), (1, II v1), (2, II v2), (3, II v3), (4, II (v4 + 1))] [] u11 Q) ∧ (¬ (u11 7 2) ≤ (u6 7 2) → ∃ P15 : Int → Mem → Prop, Ex G mX1_ropeBreaks [RR 7] u11 P15 ∧ ∀ (r17 : Int) (u18 : Mem), P15 r17 u18 → In32 r17 ∧ (r17 = 0 → V G mX5_drift 24 [(0, RR 0), (1, II v1), (2, II v2), (3, II v3), (4, II (v4 + 1))] [] u18 Q) ∧ (¬ r17 = 0 → V G mX5_drift 24 [(0, RR 0), (1, II v1), (2, II v2), (3, II (v3 + 1)), (4, II (v4 + 1))] [] u18 Q)))) : V G mX5_drift 24 [(0, RR 0), (1, II v1), (2, II v2), (3, II v3), (4, II v4)] [] t Q := by
  refine V_iload 4 rfl dX5_drift_24 rfl ?_
  refine V_iload_n 1 rfl dX5_drift_26 rfl ?_
  obtain ⟨q1, h⟩ := h
  obtain ⟨q2, h⟩ := h
  refine V_icmp_ge q1 q2 dX5_drift_27 (g := 95) rfl rfl ⟨fun hc => ?_, fun hc => ?_⟩
  · have h := h.1 hc
    refine V_iload_n 3 rfl dX5_drift_95 rfl ?_
    exact V_iret dX5_drift_96 (Or.inl rfl) h
  · have h := h.2 hc
    refine V_aload_n 0 rfl dX5_drift_30 rfl ?_
    refine gX5_26 rfl kY0 rF0_2 dX5_drift_31 rfl ?_
    refine V_aload_n 0 rfl dX5_drift_34 rfl ?_
    refine gX5_19 rfl kY0 rF0_1 dX5_drift_35 rfl ?_
    obtain ⟨P3, c4, h⟩ := h
    refine V_callVv (st := []) (as := [RR 7]) okX2_keep rfl mlX5_201 (by decide) kY12 rfl (Nat.le_of_ble_eq_true rfl) rfl dX5_drift_38 rfl c4 (fun u6 e7 => ?_)
    have h := h u6 e7
    refine V_aload_n 0 rfl dX5_drift_41 rfl ?_
    refine gX5_19 rfl kY0 rF0_1 dX5_drift_42 rfl ?_
    refine gX5_182 rfl kY7 dX5_drift_45 rfl ?_
    refine V_istore (ls2 := [(0, RR 0), (1, II v1), (2, II v2), (3, II v3), (4, II v4), (5, II (u6 7 2))]) dX5_drift_48 rfl (by decide) rfl ?_
    refine V_aload_n 0 rfl dX5_drift_50 rfl ?_
    refine gX5_19 rfl kY0 rF0_1 dX5_drift_51 rfl ?_
    refine V_aload_n 0 rfl dX5_drift_54 rfl ?_
    refine gX5_10 rfl kY0 rF0_0 dX5_drift_55 rfl ?_
    refine V_bipush (by decide) dX5_drift_58 rfl ?_
    obtain ⟨P8, c9, h⟩ := h
    refine V_callVi (st := []) (as := [RR 1, II 127]) okX1_step rfl mlX5_205 (by decide) kY7 rfl (Nat.le_of_ble_eq_true rfl) rfl dX5_drift_60 rfl c9 (fun r10 u11 e12 => ?_)
    have h := h r10 u11 e12
    refine V_pop rfl dX5_drift_63 rfl ?_
    refine V_aload_n 0 rfl dX5_drift_64 rfl ?_
    refine gX5_19 rfl kY0 rF0_1 dX5_drift_65 rfl ?_
    refine gX5_182 rfl kY7 dX5_drift_68 rfl ?_
    refine V_iload 5 rfl dX5_drift_71 rfl ?_
    obtain ⟨q13, h⟩ := h
    obtain ⟨q14, h⟩ := h
    refine V_icmp_le q13 q14 dX5_drift_73 (g := 89) rfl rfl ⟨fun hc => ?_, fun hc => ?_⟩
    · have h := h.1 hc
      refine V_iinc 4 rfl (ls2 := [(0, RR 0), (1, II v1), (2, II v2), (3, II v3), (4, II (v4 + 1)), (5, II (u6 7 2))]) dX5_drift_89 rfl (by decide) rfl ?_
      refine V_goto (g := 24) dX5_drift_92 rfl ?_
      exact V_sub (by intro q hq; simp only [List.mem_cons, List.not_mem_nil, or_false] at hq ⊢; first | (rcases hq with rfl | rfl | rfl | rfl | rfl <;> simp)) h
    · have h := h.2 hc
      refine V_aload_n 0 rfl dX5_drift_76 rfl ?_
      refine gX5_19 rfl kY0 rF0_1 dX5_drift_77 rfl ?_
      obtain ⟨P15, c16, h⟩ := h
      refine V_callVi (st := []) (as := []) okX1_ropeBreaks rfl mlX5_208 (by decide) kY7 rfl (Nat.le_of_ble_eq_true rfl) rfl dX5_drift_80 rfl c16 (fun r17 u18 e19 => ?_)
      have h := h r17 u18 e19
      obtain ⟨q20, h⟩ := h
      refine V_if_eq q20 dX5_drift_83 (g := 89) rfl rfl ⟨fun hc => ?_, fun hc => ?_⟩
      · have h := h.1 hc
        refine V_iinc 4 rfl (ls2 := [(0, RR 0), (1, II v1), (2, II v2), (3, II v3), (4, II (v4 + 1)), (5, II (u6 7 2))]) dX5_drift_89 rfl (by decide) rfl ?_
        refine V_goto (g := 24) dX5_drift_92 rfl ?_
        exact V_sub (by intro q hq; simp only [List.mem_cons, List.not_mem_nil, or_false] at hq ⊢; first | (rcases hq with rfl | rfl | rfl | rfl | rfl <;> simp)) h
      · have h := h.2 hc
        refine V_iinc 3 rfl (ls2 := [(0, RR 0), (1, II v1), (2, II v2), (3, II (v3 + 1)), (4, II v4), (5, II (u6 7 2))]) dX5_drift_86 rfl (by decide) rfl ?_
        refine V_iinc 4 rfl (ls2 := [(0, RR 0), (1, II v1), (2, II v2), (3, II (v3 + 1)), (4, II (v4 + 1)), (5, II (u6 7 2))]) dX5_drift_89 rfl (by decide) rfl ?_
        refine V_goto (g := 24) dX5_drift_92 rfl ?_
        exact V_sub (by intro q hq; simp only [List.mem_cons, List.not_mem_nil, or_false] at hq ⊢; first | (rcases hq with rfl | rfl | rfl | rfl | rfl <;> simp)) h
theorem eX5_refusal {G : GG} {Q : Int → Mem → Prop} {t : Mem} {v1 : Int} (k : V G mX5_refusal 0 [(0, RR 0), (1, II v1)] [] t Q) : Ex G mX5_refusal [RR 0, II v1] t Q := Ex.of plX5 (Or.inr (Or.inl rfl)) (Nat.le_of_ble_eq_true rfl) rfl k
set_option maxRecDepth 100000 in
theorem sgX5_refusal_0 {G : GG} {Q : Int → Mem → Prop} {t : Mem} {v1 : Int}  (h : ∃ P1 : Int → Mem → Prop, Ex G mX5_outside [II v1, II 1, II 60] t P1 ∧ ∀ (r3 : Int) (u4 : Mem), P1 r3 u4 → In32 r3 ∧ (r3 = 0 → In32 ((u4 7 4) + v1) ∧ Q (if ((u4 7 4) + v1) ≤ 9999 then 0 else (-3)) u4) ∧ (¬ r3 = 0 → Q (-1) u4)) : V G mX5_refusal 0 [(0, RR 0), (1, II v1)] [] t Q := by
  refine V_iload_n 1 rfl dX5_refusal_0 rfl ?_
  refine V_iconst dX5_refusal_1 rfl ?_
  refine V_bipush (by decide) dX5_refusal_2 rfl ?_
  obtain ⟨P1, c2, h⟩ := h
  refine V_callSi (st := []) (as := [II v1, II 1, II 60]) okX5_outside rfl mlX5_69 (by decide) rfl (Nat.le_of_ble_eq_true rfl) rfl dX5_refusal_4 rfl c2 (fun r3 u4 e5 => ?_)
  have h := h r3 u4 e5
  obtain ⟨q6, h⟩ := h
  refine V_if_eq q6 dX5_refusal_7 (g := 12) rfl rfl ⟨fun hc => ?_, fun hc => ?_⟩
  · have h := h.1 hc
    refine V_aload_n 0 rfl dX5_refusal_12 rfl ?_
    refine gX5_19 rfl kY0 rF0_1 dX5_refusal_13 rfl ?_
    refine gX5_176 rfl kY7 dX5_refusal_16 rfl ?_
    refine V_iload_n 1 rfl dX5_refusal_19 rfl ?_
    refine V_iadd dX5_refusal_20 rfl ?_
    refine V_sipush (by decide) dX5_refusal_21 rfl ?_
    obtain ⟨q7, h⟩ := h
    have hj12 : V G mX5_refusal 33 [(0, RR 0), (1, II v1)] [II (if ((u4 7 4) + v1) ≤ 9999 then 0 else (-3))] u4 Q := by
      exact V_iret dX5_refusal_33 (Or.inl rfl) h
    refine V_icmp_le q7 (iL rfl) dX5_refusal_24 (g := 32) rfl rfl ⟨fun hc => ?_, fun hc => ?_⟩
    · skip
      refine V_iconst dX5_refusal_32 rfl ?_
      rw [if_pos hc] at hj12
      exact hj12
    · skip
      refine V_bipush (by decide) dX5_refusal_27 rfl ?_
      refine V_goto (g := 33) dX5_refusal_29 rfl ?_
      rw [if_neg hc] at hj12
      exact hj12
  · have h := h.2 hc
    refine V_iconst dX5_refusal_10 rfl ?_
    exact V_iret dX5_refusal_11 (Or.inl rfl) h
theorem eX5_undo {G : GG} {Q : Int → Mem → Prop} {t : Mem} (k : V G mX5_undo 0 [(0, RR 0)] [] t Q) : Ex G mX5_undo [RR 0] t Q := Ex.of plX5 (Or.inr (Or.inl rfl)) (Nat.le_of_ble_eq_true rfl) rfl k
set_option maxRecDepth 100000 in
theorem sgX5_undo_0 {G : GG} {Q : Int → Mem → Prop} {t : Mem}  (h : ∃ P1 : Int → Mem → Prop, Ex G mX2_giveBack [RR 12, RR 7] t P1 ∧ ∀ (r3 : Int) (u4 : Mem), P1 r3 u4 → In32 r3 ∧ ∀ w7 : Int, w7 = (if r3 = 0 then (-4) else u4 12 2) → Q w7 u4) : V G mX5_undo 0 [(0, RR 0)] [] t Q := by
  refine V_aload_n 0 rfl dX5_undo_0 rfl ?_
  refine gX5_26 rfl kY0 rF0_2 dX5_undo_1 rfl ?_
  refine V_aload_n 0 rfl dX5_undo_4 rfl ?_
  refine gX5_19 rfl kY0 rF0_1 dX5_undo_5 rfl ?_
  obtain ⟨P1, c2, h⟩ := h
  refine V_callVi (st := []) (as := [RR 7]) okX2_giveBack rfl mlX5_212 (by decide) kY12 rfl (Nat.le_of_ble_eq_true rfl) rfl dX5_undo_8 rfl c2 (fun r3 u4 e5 => ?_)
  have h := h r3 u4 e5
  obtain ⟨q6, h⟩ := h
  have hj11 : ∀ w7 : Int, w7 = (if r3 = 0 then (-4) else u4 12 2) → V G mX5_undo 26 [(0, RR 0)] [II w7] u4 Q := by
    intro w7 e8
    have h := h w7 e8
    exact V_iret dX5_undo_26 (Or.inl rfl) h
  have hj11 := hj11 _ rfl
  refine V_if_eq q6 dX5_undo_11 (g := 24) rfl rfl ⟨fun hc => ?_, fun hc => ?_⟩
  · skip
    refine V_bipush (by decide) dX5_undo_24 rfl ?_
    rw [if_pos hc] at hj11
    exact hj11
  · skip
    refine V_aload_n 0 rfl dX5_undo_14 rfl ?_
    refine gX5_26 rfl kY0 rF0_2 dX5_undo_15 rfl ?_
    refine gX5_188 rfl kY12 dX5_undo_18 rfl ?_
    refine V_goto (g := 26) dX5_undo_21 rfl ?_
    rw [if_neg hc] at hj11
    exact hj11
theorem eX5_seed {G : GG} {Q : Int → Mem → Prop} {t : Mem} {v1 : Int} (k : V G mX5_seed 0 [(0, RR 0), (1, II v1)] [] t Q) : Ex G mX5_seed [RR 0, II v1] t Q := Ex.of plX5 (Or.inr (Or.inl rfl)) (Nat.le_of_ble_eq_true rfl) rfl k
set_option maxRecDepth 100000 in
theorem sgX5_seed_0 {G : GG} {Q : Int → Mem → Prop} {t : Mem} {v1 : Int}  (h : In32 v1 ∧ (0 ≤ v1 → ∀ u2 : Mem, u2 = wr t 7 5 v1 → Q (t 7 5) u2) ∧ (¬ 0 ≤ v1 → Q (-1) t)) : V G mX5_seed 0 [(0, RR 0), (1, II v1)] [] t Q := by
  refine V_iload_n 1 rfl dX5_seed_0 rfl ?_
  obtain ⟨q1, h⟩ := h
  refine V_if_ge q1 dX5_seed_1 (g := 6) rfl rfl ⟨fun hc => ?_, fun hc => ?_⟩
  · have h := h.1 hc
    refine V_aload_n 0 rfl dX5_seed_6 rfl ?_
    refine gX5_19 rfl kY0 rF0_1 dX5_seed_7 rfl ?_
    refine gX5_216 rfl kY7 dX5_seed_10 rfl ?_
    refine V_istore_n (ls2 := [(0, RR 0), (1, II v1), (2, II (t 7 5))]) dX5_seed_13 rfl (by decide) rfl ?_
    refine V_aload_n 0 rfl dX5_seed_14 rfl ?_
    refine gX5_19 rfl kY0 rF0_1 dX5_seed_15 rfl ?_
    refine V_iload_n 1 rfl dX5_seed_18 rfl ?_
    refine pX5_216 rfl kY7 dX5_seed_19 rfl (fun u2 e3 => ?_)
    have h := h u2 e3
    refine V_iload_n 2 rfl dX5_seed_22 rfl ?_
    exact V_iret dX5_seed_23 (Or.inl rfl) h
  · have h := h.2 hc
    refine V_iconst dX5_seed_4 rfl ?_
    exact V_iret dX5_seed_5 (Or.inl rfl) h
theorem eX5_water {G : GG} {Q : Int → Mem → Prop} {t : Mem} {v1 : Int} (k : V G mX5_water 0 [(0, RR 0), (1, II v1)] [] t Q) : Ex G mX5_water [RR 0, II v1] t Q := Ex.of plX5 (Or.inr (Or.inl rfl)) (Nat.le_of_ble_eq_true rfl) rfl k
set_option maxRecDepth 100000 in
theorem sgX5_water_0 {G : GG} {Q : Int → Mem → Prop} {t : Mem} {v1 : Int}  (h : ∃ P1 : Int → Mem → Prop, Ex G mX5_outside [II v1, II 0, II 240] t P1 ∧ ∀ (r3 : Int) (u4 : Mem), P1 r3 u4 → In32 r3 ∧ (r3 = 0 → ∃ P7 : Int → Mem → Prop, Ex G mX5_foretell [RR 0] u4 P7 ∧ ∀ u10 : Mem, P7 0 u10 → ∃ P12 : Int → Mem → Prop, Ex G mX5_play [RR 0, II v1, II 127] u10 P12 ∧ ∀ u15 : Mem, P12 0 u15 → Q (u15 113 0) u15) ∧ (¬ r3 = 0 → Q (-1) u4)) : V G mX5_water 0 [(0, RR 0), (1, II v1)] [] t Q := by
  refine V_iload_n 1 rfl dX5_water_0 rfl ?_
  refine V_iconst dX5_water_1 rfl ?_
  refine V_sipush (by decide) dX5_water_2 rfl ?_
  obtain ⟨P1, c2, h⟩ := h
  refine V_callSi (st := []) (as := [II v1, II 0, II 240]) okX5_outside rfl mlX5_69 (by decide) rfl (Nat.le_of_ble_eq_true rfl) rfl dX5_water_5 rfl c2 (fun r3 u4 e5 => ?_)
  have h := h r3 u4 e5
  obtain ⟨q6, h⟩ := h
  refine V_if_eq q6 dX5_water_8 (g := 13) rfl rfl ⟨fun hc => ?_, fun hc => ?_⟩
  · have h := h.1 hc
    refine V_aload_n 0 rfl dX5_water_13 rfl ?_
    obtain ⟨P7, c8, h⟩ := h
    refine V_callVv (st := []) (as := []) okX5_foretell rfl mlX5_219 (by decide) kY0 rfl (Nat.le_of_ble_eq_true rfl) rfl dX5_water_14 rfl c8 (fun u10 e11 => ?_)
    have h := h u10 e11
    refine V_aload_n 0 rfl dX5_water_17 rfl ?_
    refine V_iload_n 1 rfl dX5_water_18 rfl ?_
    refine V_bipush (by decide) dX5_water_19 rfl ?_
    obtain ⟨P12, c13, h⟩ := h
    refine V_callVv (st := []) (as := [II v1, II 127]) okX5_play rfl mlX5_222 (by decide) kY0 rfl (Nat.le_of_ble_eq_true rfl) rfl dX5_water_21 rfl c13 (fun u15 e16 => ?_)
    have h := h u15 e16
    refine V_aload_n 0 rfl dX5_water_24 rfl ?_
    refine gX5_42 rfl kY0 rF0_8 dX5_water_25 rfl ?_
    refine gX5_127 rfl kY113 dX5_water_28 rfl ?_
    exact V_iret dX5_water_31 (Or.inl rfl) h
  · have h := h.2 hc
    refine V_iconst dX5_water_11 rfl ?_
    exact V_iret dX5_water_12 (Or.inl rfl) h
theorem eX5_done {G : GG} {Q : Int → Mem → Prop} {t : Mem} {v1 : Int} (k : V G mX5_done 0 [(0, RR 0), (1, II v1)] [] t Q) : Ex G mX5_done [RR 0, II v1] t Q := Ex.of plX5 (Or.inr (Or.inl rfl)) (Nat.le_of_ble_eq_true rfl) rfl k
set_option maxRecDepth 100000 in
theorem sgX5_done_0 {G : GG} {Q : Int → Mem → Prop} {t : Mem} {v1 : Int}  (h : ∃ P1 : Int → Mem → Prop, Ex G mX0_lacks [RR 1, II v1] t P1 ∧ ∀ (r3 : Int) (u4 : Mem), P1 r3 u4 → In32 r3 ∧ (r3 = 0 → ∃ P7 : Int → Mem → Prop, Ex G mX5_foretellDone [RR 0, II (u4 1 5)] u4 P7 ∧ ∀ u10 : Mem, P7 0 u10 → (0 ≤ v1 ∧ v1 < 7) ∧ Q (u10 118 v1.toNat) u10) ∧ (¬ r3 = 0 → Q (-1) u4)) : V G mX5_done 0 [(0, RR 0), (1, II v1)] [] t Q := by
  refine V_aload_n 0 rfl dX5_done_0 rfl ?_
  refine gX5_10 rfl kY0 rF0_0 dX5_done_1 rfl ?_
  refine V_iload_n 1 rfl dX5_done_4 rfl ?_
  obtain ⟨P1, c2, h⟩ := h
  refine V_callVi (st := []) (as := [II v1]) okX0_lacks rfl mlX5_84 (by decide) kY1 rfl (Nat.le_of_ble_eq_true rfl) rfl dX5_done_5 rfl c2 (fun r3 u4 e5 => ?_)
  have h := h r3 u4 e5
  obtain ⟨q6, h⟩ := h
  refine V_if_eq q6 dX5_done_8 (g := 13) rfl rfl ⟨fun hc => ?_, fun hc => ?_⟩
  · have h := h.1 hc
    refine V_aload_n 0 rfl dX5_done_13 rfl ?_
    refine V_aload_n 0 rfl dX5_done_14 rfl ?_
    refine gX5_10 rfl kY0 rF0_0 dX5_done_15 rfl ?_
    refine gX5_145 rfl kY1 dX5_done_18 rfl ?_
    obtain ⟨P7, c8, h⟩ := h
    refine V_callVv (st := []) (as := [II (u4 1 5)]) okX5_foretellDone rfl mlX5_226 (by decide) kY0 rfl (Nat.le_of_ble_eq_true rfl) rfl dX5_done_21 rfl c8 (fun u10 e11 => ?_)
    have h := h u10 e11
    refine V_aload_n 0 rfl dX5_done_24 rfl ?_
    refine gX5_45 rfl kY0 rF0_9 dX5_done_25 rfl ?_
    refine V_iload_n 1 rfl dX5_done_28 rfl ?_
    obtain ⟨q12, h⟩ := h
    refine V_ialdn kY118 lI118 q12 dX5_done_29 rfl ?_
    exact V_iret dX5_done_30 (Or.inl rfl) h
  · have h := h.2 hc
    refine V_iconst dX5_done_11 rfl ?_
    exact V_iret dX5_done_12 (Or.inl rfl) h
theorem eX5_all {G : GG} {Q : Int → Mem → Prop} {t : Mem} (k : V G mX5_all 0 [(0, RR 0)] [] t Q) : Ex G mX5_all [RR 0] t Q := Ex.of plX5 (Or.inr (Or.inl rfl)) (Nat.le_of_ble_eq_true rfl) rfl k
set_option maxRecDepth 100000 in
theorem sgX5_all_0 {G : GG} {Q : Int → Mem → Prop} {t : Mem}  (h : ∃ P1 : Int → Mem → Prop, Ex G mX0_takeFrom [RR 107, RR 1] t P1 ∧ ∀ u4 : Mem, P1 0 u4 → ∃ P6 : Int → Mem → Prop, Ex G mX5_soonestAll [RR 0, II 240] u4 P6 ∧ ∀ (r8 : Int) (u9 : Mem), P6 r8 u9 → Q r8 u9) : V G mX5_all 0 [(0, RR 0)] [] t Q := by
  refine V_aload_n 0 rfl dX5_all_0 rfl ?_
  refine gX5_39 rfl kY0 rF0_7 dX5_all_1 rfl ?_
  refine V_aload_n 0 rfl dX5_all_4 rfl ?_
  refine gX5_10 rfl kY0 rF0_0 dX5_all_5 rfl ?_
  obtain ⟨P1, c2, h⟩ := h
  refine V_callVv (st := []) (as := [RR 1]) okX0_takeFrom rfl mlX5_163 (by decide) kY107 rfl (Nat.le_of_ble_eq_true rfl) rfl dX5_all_8 rfl c2 (fun u4 e5 => ?_)
  have h := h u4 e5
  refine V_aload_n 0 rfl dX5_all_11 rfl ?_
  refine V_sipush (by decide) dX5_all_12 rfl ?_
  obtain ⟨P6, c7, h⟩ := h
  refine V_callVi (st := []) (as := [II 240]) okX5_soonestAll rfl mlX5_229 (by decide) kY0 rfl (Nat.le_of_ble_eq_true rfl) rfl dX5_all_15 rfl c7 (fun r8 u9 e10 => ?_)
  have h := h r8 u9 e10
  exact V_iret dX5_all_18 (Or.inl rfl) h
theorem eX5_height {G : GG} {Q : Int → Mem → Prop} {t : Mem} {v1 : Int} (k : V G mX5_height 0 [(0, RR 0), (1, II v1)] [] t Q) : Ex G mX5_height [RR 0, II v1] t Q := Ex.of plX5 (Or.inr (Or.inl rfl)) (Nat.le_of_ble_eq_true rfl) rfl k
set_option maxRecDepth 100000 in
theorem sgX5_height_0 {G : GG} {Q : Int → Mem → Prop} {t : Mem} {v1 : Int}  (h : ∃ P1 : Int → Mem → Prop, Ex G mX5_outside [II v1, II 0, II 1] t P1 ∧ ∀ (r3 : Int) (u4 : Mem), P1 r3 u4 → In32 r3 ∧ (r3 = 0 → ∃ P7 : Int → Mem → Prop, Ex G mX0_takeFrom [RR 107, RR 1] u4 P7 ∧ ∀ u10 : Mem, P7 0 u10 → V G mX5_height 32 [(0, RR 0), (1, II v1), (2, II (-4)), (3, II 241), (4, II 0)] [] u10 Q) ∧ (¬ r3 = 0 → Q (-1) u4)) : V G mX5_height 0 [(0, RR 0), (1, II v1)] [] t Q := by
  refine V_iload_n 1 rfl dX5_height_0 rfl ?_
  refine V_iconst dX5_height_1 rfl ?_
  refine V_iconst dX5_height_2 rfl ?_
  obtain ⟨P1, c2, h⟩ := h
  refine V_callSi (st := []) (as := [II v1, II 0, II 1]) okX5_outside rfl mlX5_69 (by decide) rfl (Nat.le_of_ble_eq_true rfl) rfl dX5_height_3 rfl c2 (fun r3 u4 e5 => ?_)
  have h := h r3 u4 e5
  obtain ⟨q6, h⟩ := h
  refine V_if_eq q6 dX5_height_6 (g := 11) rfl rfl ⟨fun hc => ?_, fun hc => ?_⟩
  · have h := h.1 hc
    refine V_aload_n 0 rfl dX5_height_11 rfl ?_
    refine gX5_39 rfl kY0 rF0_7 dX5_height_12 rfl ?_
    refine V_aload_n 0 rfl dX5_height_15 rfl ?_
    refine gX5_10 rfl kY0 rF0_0 dX5_height_16 rfl ?_
    obtain ⟨P7, c8, h⟩ := h
    refine V_callVv (st := []) (as := [RR 1]) okX0_takeFrom rfl mlX5_163 (by decide) kY107 rfl (Nat.le_of_ble_eq_true rfl) rfl dX5_height_19 rfl c8 (fun u10 e11 => ?_)
    have h := h u10 e11
    refine V_bipush (by decide) dX5_height_22 rfl ?_
    refine V_istore_n (ls2 := [(0, RR 0), (1, II v1), (2, II (-4))]) dX5_height_24 rfl (by decide) rfl ?_
    refine V_sipush (by decide) dX5_height_25 rfl ?_
    refine V_istore_n (ls2 := [(0, RR 0), (1, II v1), (2, II (-4)), (3, II 241)]) dX5_height_28 rfl (by decide) rfl ?_
    refine V_iconst dX5_height_29 rfl ?_
    refine V_istore (ls2 := [(0, RR 0), (1, II v1), (2, II (-4)), (3, II 241), (4, II 0)]) dX5_height_30 rfl (by decide) rfl ?_
    exact h
  · have h := h.2 hc
    refine V_iconst dX5_height_9 rfl ?_
    exact V_iret dX5_height_10 (Or.inl rfl) h
set_option maxRecDepth 100000 in
theorem sgX5_height_32 {G : GG} {Q : Int → Mem → Prop} {t : Mem} {v1 v2 v3 v4 : Int}  (h : In32 v4 ∧ (60 < v4 → In32 v2 ∧ (¬ v2 = (-4) → In32 v1 ∧ ∀ w4 : Int, w4 = (if v1 = 0 then v2 else v3) → Q w4 t) ∧ (v2 = (-4) → Q (-4) t)) ∧ (¬ 60 < v4 → ∀ u9 : Mem, u9 = wr t 107 4 v4 → ∃ P11 : Int → Mem → Prop, Ex G mX5_soonestAll [RR 0, II (v3 - 1)] u9 P11 ∧ ∀ (r13 : Int) (u14 : Mem), P11 r13 u14 → In32 r13 ∧ (r13 = (-4) → V G mX5_height 32 [(0, RR 0), (1, II v1), (2, II v2), (3, II v3), (4, II (v4 + 1))] [] u14 Q) ∧ (¬ r13 = (-4) → V G mX5_height 32 [(0, RR 0), (1, II v1), (2, II v4), (3, II r13), (4, II (v4 + 1))] [] u14 Q))) : V G mX5_height 32 [(0, RR 0), (1, II v1), (2, II v2), (3, II v3), (4, II v4)] [] t Q := by
  refine V_iload 4 rfl dX5_height_32 rfl ?_
  refine V_bipush (by decide) dX5_height_34 rfl ?_
  obtain ⟨q1, h⟩ := h
  refine V_icmp_gt q1 (iL rfl) dX5_height_36 (g := 76) rfl rfl ⟨fun hc => ?_, fun hc => ?_⟩
  · have h := h.1 hc
    refine V_iload_n 2 rfl dX5_height_76 rfl ?_
    refine V_bipush (by decide) dX5_height_77 rfl ?_
    obtain ⟨q2, h⟩ := h
    refine V_icmp_ne q2 (iL rfl) dX5_height_79 (g := 85) rfl rfl ⟨fun hc => ?_, fun hc => ?_⟩
    · have h := h.1 hc
      refine V_iload_n 1 rfl dX5_height_85 rfl ?_
      obtain ⟨q3, h⟩ := h
      have hj8 : ∀ w4 : Int, w4 = (if v1 = 0 then v2 else v3) → V G mX5_height 94 [(0, RR 0), (1, II v1), (2, II v2), (3, II v3), (4, II v4)] [II w4] t Q := by
        intro w4 e5
        have h := h w4 e5
        exact V_iret dX5_height_94 (Or.inl rfl) h
      have hj8 := hj8 _ rfl
      refine V_if_ne q3 dX5_height_86 (g := 93) rfl rfl ⟨fun hc => ?_, fun hc => ?_⟩
      · skip
        refine V_iload_n 3 rfl dX5_height_93 rfl ?_
        rw [if_neg hc] at hj8
        exact hj8
      · skip
        refine V_iload_n 2 rfl dX5_height_89 rfl ?_
        refine V_goto (g := 94) dX5_height_90 rfl ?_
        rw [if_pos hc] at hj8
        exact hj8
    · have h := h.2 hc
      refine V_bipush (by decide) dX5_height_82 rfl ?_
      exact V_iret dX5_height_84 (Or.inl rfl) h
  · have h := h.2 hc
    refine V_aload_n 0 rfl dX5_height_39 rfl ?_
    refine gX5_39 rfl kY0 rF0_7 dX5_height_40 rfl ?_
    refine V_iload 4 rfl dX5_height_43 rfl ?_
    refine pX5_142 rfl kY107 dX5_height_45 rfl (fun u9 e10 => ?_)
    have h := h u9 e10
    refine V_aload_n 0 rfl dX5_height_48 rfl ?_
    refine V_iload_n 3 rfl dX5_height_49 rfl ?_
    refine V_iconst dX5_height_50 rfl ?_
    refine V_isub dX5_height_51 rfl ?_
    obtain ⟨P11, c12, h⟩ := h
    refine V_callVi (st := []) (as := [II (v3 - 1)]) okX5_soonestAll rfl mlX5_229 (by decide) kY0 rfl (Nat.le_of_ble_eq_true rfl) rfl dX5_height_52 rfl c12 (fun r13 u14 e15 => ?_)
    have h := h r13 u14 e15
    refine V_istore (ls2 := [(0, RR 0), (1, II v1), (2, II v2), (3, II v3), (4, II v4), (5, II r13)]) dX5_height_55 rfl (by decide) rfl ?_
    refine V_iload 5 rfl dX5_height_57 rfl ?_
    refine V_bipush (by decide) dX5_height_59 rfl ?_
    obtain ⟨q16, h⟩ := h
    refine V_icmp_eq q16 (iL rfl) dX5_height_61 (g := 70) rfl rfl ⟨fun hc => ?_, fun hc => ?_⟩
    · have h := h.1 hc
      refine V_iinc 4 rfl (ls2 := [(0, RR 0), (1, II v1), (2, II v2), (3, II v3), (4, II (v4 + 1)), (5, II r13)]) dX5_height_70 rfl (by decide) rfl ?_
      refine V_goto (g := 32) dX5_height_73 rfl ?_
      exact V_sub (by intro q hq; simp only [List.mem_cons, List.not_mem_nil, or_false] at hq ⊢; first | (rcases hq with rfl | rfl | rfl | rfl | rfl <;> simp)) h
    · have h := h.2 hc
      refine V_iload 4 rfl dX5_height_64 rfl ?_
      refine V_istore_n (ls2 := [(0, RR 0), (1, II v1), (2, II v4), (3, II v3), (4, II v4), (5, II r13)]) dX5_height_66 rfl (by decide) rfl ?_
      refine V_iload 5 rfl dX5_height_67 rfl ?_
      refine V_istore_n (ls2 := [(0, RR 0), (1, II v1), (2, II v4), (3, II r13), (4, II v4), (5, II r13)]) dX5_height_69 rfl (by decide) rfl ?_
      refine V_iinc 4 rfl (ls2 := [(0, RR 0), (1, II v1), (2, II v4), (3, II r13), (4, II (v4 + 1)), (5, II r13)]) dX5_height_70 rfl (by decide) rfl ?_
      refine V_goto (g := 32) dX5_height_73 rfl ?_
      exact V_sub (by intro q hq; simp only [List.mem_cons, List.not_mem_nil, or_false] at hq ⊢; first | (rcases hq with rfl | rfl | rfl | rfl | rfl <;> simp)) h
theorem eX5_pulls {G : GG} {Q : Int → Mem → Prop} {t : Mem} {v1 : Int} (k : V G mX5_pulls 0 [(0, RR 0), (1, II v1)] [] t Q) : Ex G mX5_pulls [RR 0, II v1] t Q := Ex.of plX5 (Or.inr (Or.inl rfl)) (Nat.le_of_ble_eq_true rfl) rfl k
set_option maxRecDepth 100000 in
theorem sgX5_pulls_0 {G : GG} {Q : Int → Mem → Prop} {t : Mem} {v1 : Int}  (h : ∃ P1 : Int → Mem → Prop, Ex G mX5_outside [II v1, II 0, II 1] t P1 ∧ ∀ (r3 : Int) (u4 : Mem), P1 r3 u4 → In32 r3 ∧ (r3 = 0 → ∃ P7 : Int → Mem → Prop, Ex G mX0_takeFrom [RR 107, RR 1] u4 P7 ∧ ∀ u10 : Mem, P7 0 u10 → V G mX5_pulls 32 [(0, RR 0), (1, II v1), (2, II (-4)), (3, II 241), (4, II (-1))] [] u10 Q) ∧ (¬ r3 = 0 → Q (-1) u4)) : V G mX5_pulls 0 [(0, RR 0), (1, II v1)] [] t Q := by
  refine V_iload_n 1 rfl dX5_pulls_0 rfl ?_
  refine V_iconst dX5_pulls_1 rfl ?_
  refine V_iconst dX5_pulls_2 rfl ?_
  obtain ⟨P1, c2, h⟩ := h
  refine V_callSi (st := []) (as := [II v1, II 0, II 1]) okX5_outside rfl mlX5_69 (by decide) rfl (Nat.le_of_ble_eq_true rfl) rfl dX5_pulls_3 rfl c2 (fun r3 u4 e5 => ?_)
  have h := h r3 u4 e5
  obtain ⟨q6, h⟩ := h
  refine V_if_eq q6 dX5_pulls_6 (g := 11) rfl rfl ⟨fun hc => ?_, fun hc => ?_⟩
  · have h := h.1 hc
    refine V_aload_n 0 rfl dX5_pulls_11 rfl ?_
    refine gX5_39 rfl kY0 rF0_7 dX5_pulls_12 rfl ?_
    refine V_aload_n 0 rfl dX5_pulls_15 rfl ?_
    refine gX5_10 rfl kY0 rF0_0 dX5_pulls_16 rfl ?_
    obtain ⟨P7, c8, h⟩ := h
    refine V_callVv (st := []) (as := [RR 1]) okX0_takeFrom rfl mlX5_163 (by decide) kY107 rfl (Nat.le_of_ble_eq_true rfl) rfl dX5_pulls_19 rfl c8 (fun u10 e11 => ?_)
    have h := h u10 e11
    refine V_bipush (by decide) dX5_pulls_22 rfl ?_
    refine V_istore_n (ls2 := [(0, RR 0), (1, II v1), (2, II (-4))]) dX5_pulls_24 rfl (by decide) rfl ?_
    refine V_sipush (by decide) dX5_pulls_25 rfl ?_
    refine V_istore_n (ls2 := [(0, RR 0), (1, II v1), (2, II (-4)), (3, II 241)]) dX5_pulls_28 rfl (by decide) rfl ?_
    refine V_iconst dX5_pulls_29 rfl ?_
    refine V_istore (ls2 := [(0, RR 0), (1, II v1), (2, II (-4)), (3, II 241), (4, II (-1))]) dX5_pulls_30 rfl (by decide) rfl ?_
    exact h
  · have h := h.2 hc
    refine V_iconst dX5_pulls_9 rfl ?_
    exact V_iret dX5_pulls_10 (Or.inl rfl) h
set_option maxRecDepth 100000 in
theorem sgX5_pulls_32 {G : GG} {Q : Int → Mem → Prop} {t : Mem} {v1 v2 v3 v4 : Int}  (h : In32 v4 ∧ In32 (t 1 7) ∧ ((t 1 7) ≤ v4 → In32 v2 ∧ (¬ v2 = (-4) → In32 v1 ∧ ∀ w5 : Int, w5 = (if v1 = 0 then v2 else v3) → Q w5 t) ∧ (v2 = (-4) → Q (-4) t)) ∧ (¬ (t 1 7) ≤ v4 → ∀ w10 : Int, w10 = (if 0 ≤ v4 then v4 else (-4)) → ∀ u15 : Mem, u15 = wr t 107 6 w10 → ∃ P17 : Int → Mem → Prop, Ex G mX5_soonestAll [RR 0, II (v3 - 1)] u15 P17 ∧ ∀ (r19 : Int) (u20 : Mem), P17 r19 u20 → In32 r19 ∧ (r19 = (-4) → V G mX5_pulls 32 [(0, RR 0), (1, II v1), (2, II v2), (3, II v3), (4, II (v4 + 1))] [] u20 Q) ∧ (¬ r19 = (-4) → ∀ w23 : Int, w23 = (if 0 ≤ v4 then v4 else 7) → V G mX5_pulls 32 [(0, RR 0), (1, II v1), (2, II w23), (3, II r19), (4, II (v4 + 1))] [] u20 Q))) : V G mX5_pulls 32 [(0, RR 0), (1, II v1), (2, II v2), (3, II v3), (4, II v4)] [] t Q := by
  refine V_iload 4 rfl dX5_pulls_32 rfl ?_
  refine V_aload_n 0 rfl dX5_pulls_34 rfl ?_
  refine gX5_10 rfl kY0 rF0_0 dX5_pulls_35 rfl ?_
  refine gX5_73 rfl kY1 dX5_pulls_38 rfl ?_
  obtain ⟨q1, h⟩ := h
  obtain ⟨q2, h⟩ := h
  refine V_icmp_ge q1 q2 dX5_pulls_41 (g := 101) rfl rfl ⟨fun hc => ?_, fun hc => ?_⟩
  · have h := h.1 hc
    refine V_iload_n 2 rfl dX5_pulls_101 rfl ?_
    refine V_bipush (by decide) dX5_pulls_102 rfl ?_
    obtain ⟨q3, h⟩ := h
    refine V_icmp_ne q3 (iL rfl) dX5_pulls_104 (g := 110) rfl rfl ⟨fun hc => ?_, fun hc => ?_⟩
    · have h := h.1 hc
      refine V_iload_n 1 rfl dX5_pulls_110 rfl ?_
      obtain ⟨q4, h⟩ := h
      have hj9 : ∀ w5 : Int, w5 = (if v1 = 0 then v2 else v3) → V G mX5_pulls 119 [(0, RR 0), (1, II v1), (2, II v2), (3, II v3), (4, II v4)] [II w5] t Q := by
        intro w5 e6
        have h := h w5 e6
        exact V_iret dX5_pulls_119 (Or.inl rfl) h
      have hj9 := hj9 _ rfl
      refine V_if_ne q4 dX5_pulls_111 (g := 118) rfl rfl ⟨fun hc => ?_, fun hc => ?_⟩
      · skip
        refine V_iload_n 3 rfl dX5_pulls_118 rfl ?_
        rw [if_neg hc] at hj9
        exact hj9
      · skip
        refine V_iload_n 2 rfl dX5_pulls_114 rfl ?_
        refine V_goto (g := 119) dX5_pulls_115 rfl ?_
        rw [if_pos hc] at hj9
        exact hj9
    · have h := h.2 hc
      refine V_bipush (by decide) dX5_pulls_107 rfl ?_
      exact V_iret dX5_pulls_109 (Or.inl rfl) h
  · have h := h.2 hc
    refine V_aload_n 0 rfl dX5_pulls_44 rfl ?_
    refine gX5_39 rfl kY0 rF0_7 dX5_pulls_45 rfl ?_
    refine V_iload 4 rfl dX5_pulls_48 rfl ?_
    have hj14 : ∀ w10 : Int, w10 = (if 0 ≤ v4 then v4 else (-4)) → V G mX5_pulls 60 [(0, RR 0), (1, II v1), (2, II v2), (3, II v3), (4, II v4)] [II w10, RR 107] t Q := by
      intro w10 e11
      have h := h w10 e11
      refine pX5_148 rfl kY107 dX5_pulls_60 rfl (fun u15 e16 => ?_)
      have h := h u15 e16
      refine V_aload_n 0 rfl dX5_pulls_63 rfl ?_
      refine V_iload_n 3 rfl dX5_pulls_64 rfl ?_
      refine V_iconst dX5_pulls_65 rfl ?_
      refine V_isub dX5_pulls_66 rfl ?_
      obtain ⟨P17, c18, h⟩ := h
      refine V_callVi (st := []) (as := [II (v3 - 1)]) okX5_soonestAll rfl mlX5_229 (by decide) kY0 rfl (Nat.le_of_ble_eq_true rfl) rfl dX5_pulls_67 rfl c18 (fun r19 u20 e21 => ?_)
      have h := h r19 u20 e21
      refine V_istore (ls2 := [(0, RR 0), (1, II v1), (2, II v2), (3, II v3), (4, II v4), (5, II r19)]) dX5_pulls_70 rfl (by decide) rfl ?_
      refine V_iload 5 rfl dX5_pulls_72 rfl ?_
      refine V_bipush (by decide) dX5_pulls_74 rfl ?_
      obtain ⟨q22, h⟩ := h
      refine V_icmp_eq q22 (iL rfl) dX5_pulls_76 (g := 95) rfl rfl ⟨fun hc => ?_, fun hc => ?_⟩
      · have h := h.1 hc
        refine V_iinc 4 rfl (ls2 := [(0, RR 0), (1, II v1), (2, II v2), (3, II v3), (4, II (v4 + 1)), (5, II r19)]) dX5_pulls_95 rfl (by decide) rfl ?_
        refine V_goto (g := 32) dX5_pulls_98 rfl ?_
        exact V_sub (by intro q hq; simp only [List.mem_cons, List.not_mem_nil, or_false] at hq ⊢; first | (rcases hq with rfl | rfl | rfl | rfl | rfl <;> simp)) h
      · have h := h.2 hc
        refine V_iload 4 rfl dX5_pulls_79 rfl ?_
        have hj27 : ∀ w23 : Int, w23 = (if 0 ≤ v4 then v4 else 7) → V G mX5_pulls 91 [(0, RR 0), (1, II v1), (2, II v2), (3, II v3), (4, II v4), (5, II r19)] [II w23] u20 Q := by
          intro w23 e24
          have h := h w23 e24
          refine V_istore_n (ls2 := [(0, RR 0), (1, II v1), (2, II w23), (3, II v3), (4, II v4), (5, II r19)]) dX5_pulls_91 rfl (by decide) rfl ?_
          refine V_iload 5 rfl dX5_pulls_92 rfl ?_
          refine V_istore_n (ls2 := [(0, RR 0), (1, II v1), (2, II w23), (3, II r19), (4, II v4), (5, II r19)]) dX5_pulls_94 rfl (by decide) rfl ?_
          refine V_iinc 4 rfl (ls2 := [(0, RR 0), (1, II v1), (2, II w23), (3, II r19), (4, II (v4 + 1)), (5, II r19)]) dX5_pulls_95 rfl (by decide) rfl ?_
          refine V_goto (g := 32) dX5_pulls_98 rfl ?_
          exact V_sub (by intro q hq; simp only [List.mem_cons, List.not_mem_nil, or_false] at hq ⊢; first | (rcases hq with rfl | rfl | rfl | rfl | rfl <;> simp)) h
        have hj27 := hj27 _ rfl
        refine V_if_ge q1 dX5_pulls_81 (g := 89) rfl rfl ⟨fun hc => ?_, fun hc => ?_⟩
        · skip
          refine V_iload 4 rfl dX5_pulls_89 rfl ?_
          rw [if_pos hc] at hj27
          exact hj27
        · skip
          refine V_bipush (by decide) dX5_pulls_84 rfl ?_
          refine V_goto (g := 91) dX5_pulls_86 rfl ?_
          rw [if_neg hc] at hj27
          exact hj27
    have hj14 := hj14 _ rfl
    refine V_if_ge q1 dX5_pulls_50 (g := 58) rfl rfl ⟨fun hc => ?_, fun hc => ?_⟩
    · skip
      refine V_iload 4 rfl dX5_pulls_58 rfl ?_
      rw [if_pos hc] at hj14
      exact hj14
    · skip
      refine V_bipush (by decide) dX5_pulls_53 rfl ?_
      refine V_goto (g := 60) dX5_pulls_55 rfl ?_
      rw [if_neg hc] at hj14
      exact hj14
theorem eX5_waits {G : GG} {Q : Int → Mem → Prop} {t : Mem} {v1 v2 : Int} (k : V G mX5_waits 0 [(0, RR 0), (1, II v1), (2, II v2)] [] t Q) : Ex G mX5_waits [RR 0, II v1, II v2] t Q := Ex.of plX5 (Or.inr (Or.inl rfl)) (Nat.le_of_ble_eq_true rfl) rfl k
set_option maxRecDepth 100000 in
theorem sgX5_waits_0 {G : GG} {Q : Int → Mem → Prop} {t : Mem} {v1 v2 : Int}  (h : ∃ P1 : Int → Mem → Prop, Ex G mX5_outside [II v1, II 0, II 1] t P1 ∧ ∀ (r3 : Int) (u4 : Mem), P1 r3 u4 → In32 r3 ∧ (¬ r3 = 0 → Q (-1) u4) ∧ (r3 = 0 → ∃ P7 : Int → Mem → Prop, Ex G mX5_outside [II v2, II 0, II 3] u4 P7 ∧ ∀ (r9 : Int) (u10 : Mem), P7 r9 u10 → In32 r9 ∧ (r9 = 0 → ∃ P13 : Int → Mem → Prop, Ex G mX5_foretellDone [RR 0, II v2] u10 P13 ∧ ∀ u16 : Mem, P13 0 u16 → ∃ P18 : Int → Mem → Prop, Ex G mX5_herdWaits [RR 0, II v1] u16 P18 ∧ ∀ (r20 : Int) (u21 : Mem), P18 r20 u21 → Q r20 u21) ∧ (¬ r9 = 0 → Q (-1) u10))) : V G mX5_waits 0 [(0, RR 0), (1, II v1), (2, II v2)] [] t Q := by
  refine V_iload_n 1 rfl dX5_waits_0 rfl ?_
  refine V_iconst dX5_waits_1 rfl ?_
  refine V_iconst dX5_waits_2 rfl ?_
  obtain ⟨P1, c2, h⟩ := h
  refine V_callSi (st := []) (as := [II v1, II 0, II 1]) okX5_outside rfl mlX5_69 (by decide) rfl (Nat.le_of_ble_eq_true rfl) rfl dX5_waits_3 rfl c2 (fun r3 u4 e5 => ?_)
  have h := h r3 u4 e5
  obtain ⟨q6, h⟩ := h
  refine V_if_ne q6 dX5_waits_6 (g := 18) rfl rfl ⟨fun hc => ?_, fun hc => ?_⟩
  · have h := h.1 hc
    refine V_iconst dX5_waits_18 rfl ?_
    exact V_iret dX5_waits_19 (Or.inl rfl) h
  · have h := h.2 hc
    refine V_iload_n 2 rfl dX5_waits_9 rfl ?_
    refine V_iconst dX5_waits_10 rfl ?_
    refine V_iconst dX5_waits_11 rfl ?_
    obtain ⟨P7, c8, h⟩ := h
    refine V_callSi (st := []) (as := [II v2, II 0, II 3]) okX5_outside rfl mlX5_69 (by decide) rfl (Nat.le_of_ble_eq_true rfl) rfl dX5_waits_12 rfl c8 (fun r9 u10 e11 => ?_)
    have h := h r9 u10 e11
    obtain ⟨q12, h⟩ := h
    refine V_if_eq q12 dX5_waits_15 (g := 20) rfl rfl ⟨fun hc => ?_, fun hc => ?_⟩
    · have h := h.1 hc
      refine V_aload_n 0 rfl dX5_waits_20 rfl ?_
      refine V_iload_n 2 rfl dX5_waits_21 rfl ?_
      obtain ⟨P13, c14, h⟩ := h
      refine V_callVv (st := []) (as := [II v2]) okX5_foretellDone rfl mlX5_226 (by decide) kY0 rfl (Nat.le_of_ble_eq_true rfl) rfl dX5_waits_22 rfl c14 (fun u16 e17 => ?_)
      have h := h u16 e17
      refine V_aload_n 0 rfl dX5_waits_25 rfl ?_
      refine V_iload_n 1 rfl dX5_waits_26 rfl ?_
      obtain ⟨P18, c19, h⟩ := h
      refine V_callVi (st := []) (as := [II v1]) okX5_herdWaits rfl mlX5_232 (by decide) kY0 rfl (Nat.le_of_ble_eq_true rfl) rfl dX5_waits_27 rfl c19 (fun r20 u21 e22 => ?_)
      have h := h r20 u21 e22
      exact V_iret dX5_waits_30 (Or.inl rfl) h
    · have h := h.2 hc
      refine V_iconst dX5_waits_18 rfl ?_
      exact V_iret dX5_waits_19 (Or.inl rfl) h
theorem eX5_least {G : GG} {Q : Int → Mem → Prop} {t : Mem} {v1 : Int} (k : V G mX5_least 0 [(0, RR 0), (1, II v1)] [] t Q) : Ex G mX5_least [RR 0, II v1] t Q := Ex.of plX5 (Or.inr (Or.inl rfl)) (Nat.le_of_ble_eq_true rfl) rfl k
set_option maxRecDepth 100000 in
theorem sgX5_least_0 {G : GG} {Q : Int → Mem → Prop} {t : Mem} {v1 : Int}  (h : ∃ P1 : Int → Mem → Prop, Ex G mX5_bestLaw [RR 0, II v1, II 0] t P1 ∧ ∀ (r3 : Int) (u4 : Mem), P1 r3 u4 → Q r3 u4) : V G mX5_least 0 [(0, RR 0), (1, II v1)] [] t Q := by
  refine V_aload_n 0 rfl dX5_least_0 rfl ?_
  refine V_iload_n 1 rfl dX5_least_1 rfl ?_
  refine V_iconst dX5_least_2 rfl ?_
  obtain ⟨P1, c2, h⟩ := h
  refine V_callVi (st := []) (as := [II v1, II 0]) okX5_bestLaw rfl mlX5_235 (by decide) kY0 rfl (Nat.le_of_ble_eq_true rfl) rfl dX5_least_3 rfl c2 (fun r3 u4 e5 => ?_)
  have h := h r3 u4 e5
  exact V_iret dX5_least_6 (Or.inl rfl) h
theorem eX5_both {G : GG} {Q : Int → Mem → Prop} {t : Mem} {v1 : Int} (k : V G mX5_both 0 [(0, RR 0), (1, II v1)] [] t Q) : Ex G mX5_both [RR 0, II v1] t Q := Ex.of plX5 (Or.inr (Or.inl rfl)) (Nat.le_of_ble_eq_true rfl) rfl k
set_option maxRecDepth 100000 in
theorem sgX5_both_0 {G : GG} {Q : Int → Mem → Prop} {t : Mem} {v1 : Int}  (h : ∃ P1 : Int → Mem → Prop, Ex G mX5_bestLaw [RR 0, II v1, II 1] t P1 ∧ ∀ (r3 : Int) (u4 : Mem), P1 r3 u4 → Q r3 u4) : V G mX5_both 0 [(0, RR 0), (1, II v1)] [] t Q := by
  refine V_aload_n 0 rfl dX5_both_0 rfl ?_
  refine V_iload_n 1 rfl dX5_both_1 rfl ?_
  refine V_iconst dX5_both_2 rfl ?_
  obtain ⟨P1, c2, h⟩ := h
  refine V_callVi (st := []) (as := [II v1, II 1]) okX5_bestLaw rfl mlX5_235 (by decide) kY0 rfl (Nat.le_of_ble_eq_true rfl) rfl dX5_both_3 rfl c2 (fun r3 u4 e5 => ?_)
  have h := h r3 u4 e5
  exact V_iret dX5_both_6 (Or.inl rfl) h
theorem eX5_wholly {G : GG} {Q : Int → Mem → Prop} {t : Mem} {v1 v2 : Int} (k : V G mX5_wholly 0 [(0, RR 0), (1, II v1), (2, II v2)] [] t Q) : Ex G mX5_wholly [RR 0, II v1, II v2] t Q := Ex.of plX5 (Or.inr (Or.inl rfl)) (Nat.le_of_ble_eq_true rfl) rfl k
set_option maxRecDepth 100000 in
theorem sgX5_wholly_0 {G : GG} {Q : Int → Mem → Prop} {t : Mem} {v1 v2 : Int}  (h : ∃ P1 : Int → Mem → Prop, Ex G mX5_outside [II v1, II 0, II 240] t P1 ∧ ∀ (r3 : Int) (u4 : Mem), P1 r3 u4 → In32 r3 ∧ (¬ r3 = 0 → Q (-1) u4) ∧ (r3 = 0 → ∃ P7 : Int → Mem → Prop, Ex G mX5_outside [II v2, II 0, II 1] u4 P7 ∧ ∀ (r9 : Int) (u10 : Mem), P7 r9 u10 → In32 r9 ∧ (r9 = 0 → In32 (u10 1 6) ∧ ∀ w14 : Int, w14 = (if (u10 1 6) = (-4) then 0 else iShl 1 (u10 1 6)) → ∃ P19 : Int → Mem → Prop, Ex G mX5_foretell [RR 0] u10 P19 ∧ ∀ u22 : Mem, P19 0 u22 → V G mX5_wholly 61 [(0, RR 0), (1, II v1), (2, II v2), (3, II w14), (4, II 0), (5, II (-1)), (6, II 0)] [] u22 Q) ∧ (¬ r9 = 0 → Q (-1) u10))) : V G mX5_wholly 0 [(0, RR 0), (1, II v1), (2, II v2)] [] t Q := by
  refine V_iload_n 1 rfl dX5_wholly_0 rfl ?_
  refine V_iconst dX5_wholly_1 rfl ?_
  refine V_sipush (by decide) dX5_wholly_2 rfl ?_
  obtain ⟨P1, c2, h⟩ := h
  refine V_callSi (st := []) (as := [II v1, II 0, II 240]) okX5_outside rfl mlX5_69 (by decide) rfl (Nat.le_of_ble_eq_true rfl) rfl dX5_wholly_5 rfl c2 (fun r3 u4 e5 => ?_)
  have h := h r3 u4 e5
  obtain ⟨q6, h⟩ := h
  refine V_if_ne q6 dX5_wholly_8 (g := 20) rfl rfl ⟨fun hc => ?_, fun hc => ?_⟩
  · have h := h.1 hc
    refine V_iconst dX5_wholly_20 rfl ?_
    exact V_iret dX5_wholly_21 (Or.inl rfl) h
  · have h := h.2 hc
    refine V_iload_n 2 rfl dX5_wholly_11 rfl ?_
    refine V_iconst dX5_wholly_12 rfl ?_
    refine V_iconst dX5_wholly_13 rfl ?_
    obtain ⟨P7, c8, h⟩ := h
    refine V_callSi (st := []) (as := [II v2, II 0, II 1]) okX5_outside rfl mlX5_69 (by decide) rfl (Nat.le_of_ble_eq_true rfl) rfl dX5_wholly_14 rfl c8 (fun r9 u10 e11 => ?_)
    have h := h r9 u10 e11
    obtain ⟨q12, h⟩ := h
    refine V_if_eq q12 dX5_wholly_17 (g := 22) rfl rfl ⟨fun hc => ?_, fun hc => ?_⟩
    · have h := h.1 hc
      refine V_aload_n 0 rfl dX5_wholly_22 rfl ?_
      refine gX5_10 rfl kY0 rF0_0 dX5_wholly_23 rfl ?_
      refine gX5_148 rfl kY1 dX5_wholly_26 rfl ?_
      refine V_bipush (by decide) dX5_wholly_29 rfl ?_
      obtain ⟨q13, h⟩ := h
      have hj18 : ∀ w14 : Int, w14 = (if (u10 1 6) = (-4) then 0 else iShl 1 (u10 1 6)) → V G mX5_wholly 47 [(0, RR 0), (1, II v1), (2, II v2)] [II w14] u10 Q := by
        intro w14 e15
        have h := h w14 e15
        refine V_istore_n (ls2 := [(0, RR 0), (1, II v1), (2, II v2), (3, II w14)]) dX5_wholly_47 rfl (by decide) rfl ?_
        refine V_iconst dX5_wholly_48 rfl ?_
        refine V_istore (ls2 := [(0, RR 0), (1, II v1), (2, II v2), (3, II w14), (4, II 0)]) dX5_wholly_49 rfl (by decide) rfl ?_
        refine V_iconst dX5_wholly_51 rfl ?_
        refine V_istore (ls2 := [(0, RR 0), (1, II v1), (2, II v2), (3, II w14), (4, II 0), (5, II (-1))]) dX5_wholly_52 rfl (by decide) rfl ?_
        refine V_aload_n 0 rfl dX5_wholly_54 rfl ?_
        obtain ⟨P19, c20, h⟩ := h
        refine V_callVv (st := []) (as := []) okX5_foretell rfl mlX5_219 (by decide) kY0 rfl (Nat.le_of_ble_eq_true rfl) rfl dX5_wholly_55 rfl c20 (fun u22 e23 => ?_)
        have h := h u22 e23
        refine V_iconst dX5_wholly_58 rfl ?_
        refine V_istore (ls2 := [(0, RR 0), (1, II v1), (2, II v2), (3, II w14), (4, II 0), (5, II (-1)), (6, II 0)]) dX5_wholly_59 rfl (by decide) rfl ?_
        exact h
      have hj18 := hj18 _ rfl
      refine V_icmp_ne q13 (iL rfl) dX5_wholly_31 (g := 38) rfl rfl ⟨fun hc => ?_, fun hc => ?_⟩
      · skip
        refine V_iconst dX5_wholly_38 rfl ?_
        refine V_aload_n 0 rfl dX5_wholly_39 rfl ?_
        refine gX5_10 rfl kY0 rF0_0 dX5_wholly_40 rfl ?_
        refine gX5_148 rfl kY1 dX5_wholly_43 rfl ?_
        refine V_ishl dX5_wholly_46 rfl ?_
        rw [if_neg hc] at hj18
        exact hj18
      · skip
        refine V_iconst dX5_wholly_34 rfl ?_
        refine V_goto (g := 47) dX5_wholly_35 rfl ?_
        rw [if_pos hc] at hj18
        exact hj18
    · have h := h.2 hc
      refine V_iconst dX5_wholly_20 rfl ?_
      exact V_iret dX5_wholly_21 (Or.inl rfl) h
set_option maxRecDepth 100000 in
theorem sgX5_wholly_61 {G : GG} {Q : Int → Mem → Prop} {t : Mem} {v1 v2 v3 v4 v5 v6 : Int}  (h : In32 v6 ∧ In32 (iShl 1 (t 1 7)) ∧ ((iShl 1 (t 1 7)) ≤ v6 → In32 v2 ∧ ∀ w4 : Int, w4 = (if v2 = 0 then v4 else v5) → Q w4 t) ∧ (¬ (iShl 1 (t 1 7)) ≤ v6 → In32 v5 ∧ In32 (t 1 7) ∧ ((t 1 7) ≤ v5 → In32 v2 ∧ ∀ w12 : Int, w12 = (if v2 = 0 then v4 else v5) → Q w12 t) ∧ (¬ (t 1 7) ≤ v5 → In32 (iAnd v6 v3) ∧ (¬ (iAnd v6 v3) = 0 → V G mX5_wholly 61 [(0, RR 0), (1, II v1), (2, II v2), (3, II v3), (4, II v4), (5, II v5), (6, II (v6 + 1))] [] t Q) ∧ ((iAnd v6 v3) = 0 → ∃ P18 : Int → Mem → Prop, Ex G mX1_takeFrom [RR 113, RR 7] t P18 ∧ ∀ u21 : Mem, P18 0 u21 → ∃ P23 : Int → Mem → Prop, Ex G mX5_play [RR 0, II v1, II v6] u21 P23 ∧ ∀ u26 : Mem, P23 0 u26 → ∃ P28 : Int → Mem → Prop, Ex G mX1_satedSet [RR 113, RR 107] u26 P28 ∧ ∀ (r30 : Int) (u31 : Mem), P28 r30 u31 → ∃ P33 : Int → Mem → Prop, Ex G mJ6_bitCount_0f7a4 [II r30] u31 P33 ∧ ∀ (r35 : Int) (u36 : Mem), P33 r35 u36 → In32 r35 ∧ (r35 ≤ v5 → V G mX5_wholly 61 [(0, RR 0), (1, II v1), (2, II v2), (3, II v3), (4, II v4), (5, II v5), (6, II (v6 + 1))] [] u36 Q) ∧ (¬ r35 ≤ v5 → V G mX5_wholly 61 [(0, RR 0), (1, II v1), (2, II v2), (3, II v3), (4, II v6), (5, II r35), (6, II (v6 + 1))] [] u36 Q))))) : V G mX5_wholly 61 [(0, RR 0), (1, II v1), (2, II v2), (3, II v3), (4, II v4), (5, II v5), (6, II v6)] [] t Q := by
  refine V_iload 6 rfl dX5_wholly_61 rfl ?_
  refine V_iconst dX5_wholly_63 rfl ?_
  refine V_aload_n 0 rfl dX5_wholly_64 rfl ?_
  refine gX5_10 rfl kY0 rF0_0 dX5_wholly_65 rfl ?_
  refine gX5_73 rfl kY1 dX5_wholly_68 rfl ?_
  refine V_ishl dX5_wholly_71 rfl ?_
  obtain ⟨q1, h⟩ := h
  obtain ⟨q2, h⟩ := h
  refine V_icmp_ge q1 q2 dX5_wholly_72 (g := 149) rfl rfl ⟨fun hc => ?_, fun hc => ?_⟩
  · have h := h.1 hc
    refine V_iload_n 2 rfl dX5_wholly_149 rfl ?_
    obtain ⟨q3, h⟩ := h
    have hj8 : ∀ w4 : Int, w4 = (if v2 = 0 then v4 else v5) → V G mX5_wholly 160 [(0, RR 0), (1, II v1), (2, II v2), (3, II v3), (4, II v4), (5, II v5), (6, II v6)] [II w4] t Q := by
      intro w4 e5
      have h := h w4 e5
      exact V_iret dX5_wholly_160 (Or.inl rfl) h
    have hj8 := hj8 _ rfl
    refine V_if_ne q3 dX5_wholly_150 (g := 158) rfl rfl ⟨fun hc => ?_, fun hc => ?_⟩
    · skip
      refine V_iload 5 rfl dX5_wholly_158 rfl ?_
      rw [if_neg hc] at hj8
      exact hj8
    · skip
      refine V_iload 4 rfl dX5_wholly_153 rfl ?_
      refine V_goto (g := 160) dX5_wholly_155 rfl ?_
      rw [if_pos hc] at hj8
      exact hj8
  · have h := h.2 hc
    refine V_iload 5 rfl dX5_wholly_75 rfl ?_
    refine V_aload_n 0 rfl dX5_wholly_77 rfl ?_
    refine gX5_10 rfl kY0 rF0_0 dX5_wholly_78 rfl ?_
    refine gX5_73 rfl kY1 dX5_wholly_81 rfl ?_
    obtain ⟨q9, h⟩ := h
    obtain ⟨q10, h⟩ := h
    refine V_icmp_ge q9 q10 dX5_wholly_84 (g := 149) rfl rfl ⟨fun hc => ?_, fun hc => ?_⟩
    · have h := h.1 hc
      refine V_iload_n 2 rfl dX5_wholly_149 rfl ?_
      obtain ⟨q11, h⟩ := h
      have hj16 : ∀ w12 : Int, w12 = (if v2 = 0 then v4 else v5) → V G mX5_wholly 160 [(0, RR 0), (1, II v1), (2, II v2), (3, II v3), (4, II v4), (5, II v5), (6, II v6)] [II w12] t Q := by
        intro w12 e13
        have h := h w12 e13
        exact V_iret dX5_wholly_160 (Or.inl rfl) h
      have hj16 := hj16 _ rfl
      refine V_if_ne q11 dX5_wholly_150 (g := 158) rfl rfl ⟨fun hc => ?_, fun hc => ?_⟩
      · skip
        refine V_iload 5 rfl dX5_wholly_158 rfl ?_
        rw [if_neg hc] at hj16
        exact hj16
      · skip
        refine V_iload 4 rfl dX5_wholly_153 rfl ?_
        refine V_goto (g := 160) dX5_wholly_155 rfl ?_
        rw [if_pos hc] at hj16
        exact hj16
    · have h := h.2 hc
      refine V_iload 6 rfl dX5_wholly_87 rfl ?_
      refine V_iload_n 3 rfl dX5_wholly_89 rfl ?_
      refine V_iand dX5_wholly_90 rfl ?_
      obtain ⟨q17, h⟩ := h
      refine V_if_ne q17 dX5_wholly_91 (g := 143) rfl rfl ⟨fun hc => ?_, fun hc => ?_⟩
      · have h := h.1 hc
        refine V_iinc 6 rfl (ls2 := [(0, RR 0), (1, II v1), (2, II v2), (3, II v3), (4, II v4), (5, II v5), (6, II (v6 + 1))]) dX5_wholly_143 rfl (by decide) rfl ?_
        refine V_goto (g := 61) dX5_wholly_146 rfl ?_
        exact h
      · have h := h.2 hc
        refine V_aload_n 0 rfl dX5_wholly_94 rfl ?_
        refine gX5_42 rfl kY0 rF0_8 dX5_wholly_95 rfl ?_
        refine V_aload_n 0 rfl dX5_wholly_98 rfl ?_
        refine gX5_19 rfl kY0 rF0_1 dX5_wholly_99 rfl ?_
        obtain ⟨P18, c19, h⟩ := h
        refine V_callVv (st := []) (as := [RR 7]) okX1_takeFrom rfl mlX5_239 (by decide) kY113 rfl (Nat.le_of_ble_eq_true rfl) rfl dX5_wholly_102 rfl c19 (fun u21 e22 => ?_)
        have h := h u21 e22
        refine V_aload_n 0 rfl dX5_wholly_105 rfl ?_
        refine V_iload_n 1 rfl dX5_wholly_106 rfl ?_
        refine V_iload 6 rfl dX5_wholly_107 rfl ?_
        obtain ⟨P23, c24, h⟩ := h
        refine V_callVv (st := []) (as := [II v1, II v6]) okX5_play rfl mlX5_222 (by decide) kY0 rfl (Nat.le_of_ble_eq_true rfl) rfl dX5_wholly_109 rfl c24 (fun u26 e27 => ?_)
        have h := h u26 e27
        refine V_aload_n 0 rfl dX5_wholly_112 rfl ?_
        refine gX5_42 rfl kY0 rF0_8 dX5_wholly_113 rfl ?_
        refine V_aload_n 0 rfl dX5_wholly_116 rfl ?_
        refine gX5_39 rfl kY0 rF0_7 dX5_wholly_117 rfl ?_
        obtain ⟨P28, c29, h⟩ := h
        refine V_callVi (st := []) (as := [RR 107]) okX1_satedSet rfl mlX5_191 (by decide) kY113 rfl (Nat.le_of_ble_eq_true rfl) rfl dX5_wholly_120 rfl c29 (fun r30 u31 e32 => ?_)
        have h := h r30 u31 e32
        obtain ⟨P33, c34, h⟩ := h
        refine V_callSi (st := []) (as := [II r30]) okJ6_bitCount_0f7a4 rfl mlX5_241 (by decide) rfl (Nat.le_of_ble_eq_true rfl) rfl dX5_wholly_123 rfl c34 (fun r35 u36 e37 => ?_)
        have h := h r35 u36 e37
        refine V_istore (ls2 := [(0, RR 0), (1, II v1), (2, II v2), (3, II v3), (4, II v4), (5, II v5), (6, II v6), (7, II r35)]) dX5_wholly_126 rfl (by decide) rfl ?_
        refine V_iload 7 rfl dX5_wholly_128 rfl ?_
        refine V_iload 5 rfl dX5_wholly_130 rfl ?_
        obtain ⟨q38, h⟩ := h
        refine V_icmp_le q38 q9 dX5_wholly_132 (g := 143) rfl rfl ⟨fun hc => ?_, fun hc => ?_⟩
        · have h := h.1 hc
          refine V_iinc 6 rfl (ls2 := [(0, RR 0), (1, II v1), (2, II v2), (3, II v3), (4, II v4), (5, II v5), (6, II (v6 + 1)), (7, II r35)]) dX5_wholly_143 rfl (by decide) rfl ?_
          refine V_goto (g := 61) dX5_wholly_146 rfl ?_
          exact V_sub (by intro q hq; simp only [List.mem_cons, List.not_mem_nil, or_false] at hq ⊢; first | (rcases hq with rfl | rfl | rfl | rfl | rfl | rfl | rfl <;> simp)) h
        · have h := h.2 hc
          refine V_iload 7 rfl dX5_wholly_135 rfl ?_
          refine V_istore (ls2 := [(0, RR 0), (1, II v1), (2, II v2), (3, II v3), (4, II v4), (5, II r35), (6, II v6), (7, II r35)]) dX5_wholly_137 rfl (by decide) rfl ?_
          refine V_iload 6 rfl dX5_wholly_139 rfl ?_
          refine V_istore (ls2 := [(0, RR 0), (1, II v1), (2, II v2), (3, II v3), (4, II v6), (5, II r35), (6, II v6), (7, II r35)]) dX5_wholly_141 rfl (by decide) rfl ?_
          refine V_iinc 6 rfl (ls2 := [(0, RR 0), (1, II v1), (2, II v2), (3, II v3), (4, II v6), (5, II r35), (6, II (v6 + 1)), (7, II r35)]) dX5_wholly_143 rfl (by decide) rfl ?_
          refine V_goto (g := 61) dX5_wholly_146 rfl ?_
          exact V_sub (by intro q hq; simp only [List.mem_cons, List.not_mem_nil, or_false] at hq ⊢; first | (rcases hq with rfl | rfl | rfl | rfl | rfl | rfl | rfl <;> simp)) h
theorem eX5_drank {G : GG} {Q : Int → Mem → Prop} {t : Mem} {v1 v2 : Int} (k : V G mX5_drank 0 [(0, RR 0), (1, II v1), (2, II v2)] [] t Q) : Ex G mX5_drank [RR 0, II v1, II v2] t Q := Ex.of plX5 (Or.inr (Or.inl rfl)) (Nat.le_of_ble_eq_true rfl) rfl k
set_option maxRecDepth 100000 in
theorem sgX5_drank_0 {G : GG} {Q : Int → Mem → Prop} {t : Mem} {v1 v2 : Int}  (h : ∃ P1 : Int → Mem → Prop, Ex G mX5_outside [II v1, II 0, II 999] t P1 ∧ ∀ (r3 : Int) (u4 : Mem), P1 r3 u4 → In32 r3 ∧ (¬ r3 = 0 → Q (-1) u4) ∧ (r3 = 0 → ∃ P7 : Int → Mem → Prop, Ex G mX5_outside [II v2, II 0, II 1] u4 P7 ∧ ∀ (r9 : Int) (u10 : Mem), P7 r9 u10 → In32 r9 ∧ (r9 = 0 → V G mX5_drank 31 [(0, RR 0), (1, II v1), (2, II v2), (3, II 0), (4, II (-4)), (5, II 0)] [] u10 Q) ∧ (¬ r9 = 0 → Q (-1) u10))) : V G mX5_drank 0 [(0, RR 0), (1, II v1), (2, II v2)] [] t Q := by
  refine V_iload_n 1 rfl dX5_drank_0 rfl ?_
  refine V_iconst dX5_drank_1 rfl ?_
  refine V_sipush (by decide) dX5_drank_2 rfl ?_
  obtain ⟨P1, c2, h⟩ := h
  refine V_callSi (st := []) (as := [II v1, II 0, II 999]) okX5_outside rfl mlX5_69 (by decide) rfl (Nat.le_of_ble_eq_true rfl) rfl dX5_drank_5 rfl c2 (fun r3 u4 e5 => ?_)
  have h := h r3 u4 e5
  obtain ⟨q6, h⟩ := h
  refine V_if_ne q6 dX5_drank_8 (g := 20) rfl rfl ⟨fun hc => ?_, fun hc => ?_⟩
  · have h := h.1 hc
    refine V_iconst dX5_drank_20 rfl ?_
    exact V_iret dX5_drank_21 (Or.inl rfl) h
  · have h := h.2 hc
    refine V_iload_n 2 rfl dX5_drank_11 rfl ?_
    refine V_iconst dX5_drank_12 rfl ?_
    refine V_iconst dX5_drank_13 rfl ?_
    obtain ⟨P7, c8, h⟩ := h
    refine V_callSi (st := []) (as := [II v2, II 0, II 1]) okX5_outside rfl mlX5_69 (by decide) rfl (Nat.le_of_ble_eq_true rfl) rfl dX5_drank_14 rfl c8 (fun r9 u10 e11 => ?_)
    have h := h r9 u10 e11
    obtain ⟨q12, h⟩ := h
    refine V_if_eq q12 dX5_drank_17 (g := 22) rfl rfl ⟨fun hc => ?_, fun hc => ?_⟩
    · have h := h.1 hc
      refine V_iconst dX5_drank_22 rfl ?_
      refine V_istore_n (ls2 := [(0, RR 0), (1, II v1), (2, II v2), (3, II 0)]) dX5_drank_23 rfl (by decide) rfl ?_
      refine V_bipush (by decide) dX5_drank_24 rfl ?_
      refine V_istore (ls2 := [(0, RR 0), (1, II v1), (2, II v2), (3, II 0), (4, II (-4))]) dX5_drank_26 rfl (by decide) rfl ?_
      refine V_iconst dX5_drank_28 rfl ?_
      refine V_istore (ls2 := [(0, RR 0), (1, II v1), (2, II v2), (3, II 0), (4, II (-4)), (5, II 0)]) dX5_drank_29 rfl (by decide) rfl ?_
      exact h
    · have h := h.2 hc
      refine V_iconst dX5_drank_20 rfl ?_
      exact V_iret dX5_drank_21 (Or.inl rfl) h
set_option maxRecDepth 100000 in
theorem sgX5_drank_31 {G : GG} {Q : Int → Mem → Prop} {t : Mem} {v1 v2 v3 v4 v5 : Int}  (h : In32 v5 ∧ In32 (iShl 1 (t 1 7)) ∧ ((iShl 1 (t 1 7)) ≤ v5 → In32 v2 ∧ ∀ w4 : Int, w4 = (if v2 = 0 then v3 else v4) → Q w4 t) ∧ (¬ (iShl 1 (t 1 7)) ≤ v5 → ∃ P9 : Int → Mem → Prop, Ex G mX1_needsYetOf [RR 7, RR 1, II v5] t P9 ∧ ∀ (r11 : Int) (u12 : Mem), P9 r11 u12 → In32 r11 ∧ In32 v1 ∧ (¬ r11 = v1 → V G mX5_drank 31 [(0, RR 0), (1, II v1), (2, II v2), (3, II v3), (4, II v4), (5, II (v5 + 1))] [] u12 Q) ∧ (r11 = v1 → In32 v3 ∧ ∀ w17 : Int, w17 = (if v3 = 0 then v5 else v4) → V G mX5_drank 31 [(0, RR 0), (1, II v1), (2, II v2), (3, II (v3 + 1)), (4, II w17), (5, II (v5 + 1))] [] u12 Q))) : V G mX5_drank 31 [(0, RR 0), (1, II v1), (2, II v2), (3, II v3), (4, II v4), (5, II v5)] [] t Q := by
  refine V_iload 5 rfl dX5_drank_31 rfl ?_
  refine V_iconst dX5_drank_33 rfl ?_
  refine V_aload_n 0 rfl dX5_drank_34 rfl ?_
  refine gX5_10 rfl kY0 rF0_0 dX5_drank_35 rfl ?_
  refine gX5_73 rfl kY1 dX5_drank_38 rfl ?_
  refine V_ishl dX5_drank_41 rfl ?_
  obtain ⟨q1, h⟩ := h
  obtain ⟨q2, h⟩ := h
  refine V_icmp_ge q1 q2 dX5_drank_42 (g := 84) rfl rfl ⟨fun hc => ?_, fun hc => ?_⟩
  · have h := h.1 hc
    refine V_iload_n 2 rfl dX5_drank_84 rfl ?_
    obtain ⟨q3, h⟩ := h
    have hj8 : ∀ w4 : Int, w4 = (if v2 = 0 then v3 else v4) → V G mX5_drank 94 [(0, RR 0), (1, II v1), (2, II v2), (3, II v3), (4, II v4), (5, II v5)] [II w4] t Q := by
      intro w4 e5
      have h := h w4 e5
      exact V_iret dX5_drank_94 (Or.inl rfl) h
    have hj8 := hj8 _ rfl
    refine V_if_ne q3 dX5_drank_85 (g := 92) rfl rfl ⟨fun hc => ?_, fun hc => ?_⟩
    · skip
      refine V_iload 4 rfl dX5_drank_92 rfl ?_
      rw [if_neg hc] at hj8
      exact hj8
    · skip
      refine V_iload_n 3 rfl dX5_drank_88 rfl ?_
      refine V_goto (g := 94) dX5_drank_89 rfl ?_
      rw [if_pos hc] at hj8
      exact hj8
  · have h := h.2 hc
    refine V_aload_n 0 rfl dX5_drank_45 rfl ?_
    refine gX5_19 rfl kY0 rF0_1 dX5_drank_46 rfl ?_
    refine V_aload_n 0 rfl dX5_drank_49 rfl ?_
    refine gX5_10 rfl kY0 rF0_0 dX5_drank_50 rfl ?_
    refine V_iload 5 rfl dX5_drank_53 rfl ?_
    obtain ⟨P9, c10, h⟩ := h
    refine V_callVi (st := []) (as := [RR 1, II v5]) okX1_needsYetOf rfl mlX5_246 (by decide) kY7 rfl (Nat.le_of_ble_eq_true rfl) rfl dX5_drank_55 rfl c10 (fun r11 u12 e13 => ?_)
    have h := h r11 u12 e13
    refine V_iload_n 1 rfl dX5_drank_58 rfl ?_
    obtain ⟨q14, h⟩ := h
    obtain ⟨q15, h⟩ := h
    refine V_icmp_ne q14 q15 dX5_drank_59 (g := 78) rfl rfl ⟨fun hc => ?_, fun hc => ?_⟩
    · have h := h.1 hc
      refine V_iinc 5 rfl (ls2 := [(0, RR 0), (1, II v1), (2, II v2), (3, II v3), (4, II v4), (5, II (v5 + 1))]) dX5_drank_78 rfl (by decide) rfl ?_
      refine V_goto (g := 31) dX5_drank_81 rfl ?_
      exact h
    · have h := h.2 hc
      refine V_iload_n 3 rfl dX5_drank_62 rfl ?_
      obtain ⟨q16, h⟩ := h
      have hj21 : ∀ w17 : Int, w17 = (if v3 = 0 then v5 else v4) → V G mX5_drank 73 [(0, RR 0), (1, II v1), (2, II v2), (3, II v3), (4, II v4), (5, II v5)] [II w17] u12 Q := by
        intro w17 e18
        have h := h w17 e18
        refine V_istore (ls2 := [(0, RR 0), (1, II v1), (2, II v2), (3, II v3), (4, II w17), (5, II v5)]) dX5_drank_73 rfl (by decide) rfl ?_
        refine V_iinc 3 rfl (ls2 := [(0, RR 0), (1, II v1), (2, II v2), (3, II (v3 + 1)), (4, II w17), (5, II v5)]) dX5_drank_75 rfl (by decide) rfl ?_
        refine V_iinc 5 rfl (ls2 := [(0, RR 0), (1, II v1), (2, II v2), (3, II (v3 + 1)), (4, II w17), (5, II (v5 + 1))]) dX5_drank_78 rfl (by decide) rfl ?_
        refine V_goto (g := 31) dX5_drank_81 rfl ?_
        exact h
      have hj21 := hj21 _ rfl
      refine V_if_ne q16 dX5_drank_63 (g := 71) rfl rfl ⟨fun hc => ?_, fun hc => ?_⟩
      · skip
        refine V_iload 4 rfl dX5_drank_71 rfl ?_
        rw [if_neg hc] at hj21
        exact hj21
      · skip
        refine V_iload 5 rfl dX5_drank_66 rfl ?_
        refine V_goto (g := 73) dX5_drank_68 rfl ?_
        rw [if_pos hc] at hj21
        exact hj21
theorem eX5_holds {G : GG} {Q : Int → Mem → Prop} {t : Mem} {v1 : Int} (k : V G mX5_holds 0 [(0, RR 0), (1, II v1)] [] t Q) : Ex G mX5_holds [RR 0, II v1] t Q := Ex.of plX5 (Or.inr (Or.inl rfl)) (Nat.le_of_ble_eq_true rfl) rfl k
set_option maxRecDepth 100000 in
theorem sgX5_holds_0 {G : GG} {Q : Int → Mem → Prop} {t : Mem} {v1 : Int}  (h : ∃ P1 : Int → Mem → Prop, Ex G mX5_outside [II v1, II 0, II 240] t P1 ∧ ∀ (r3 : Int) (u4 : Mem), P1 r3 u4 → In32 r3 ∧ (r3 = 0 → V G mX5_holds 18 [(0, RR 0), (1, II v1), (2, II 1000000), (3, II 1)] [] u4 Q) ∧ (¬ r3 = 0 → Q (-1) u4)) : V G mX5_holds 0 [(0, RR 0), (1, II v1)] [] t Q := by
  refine V_iload_n 1 rfl dX5_holds_0 rfl ?_
  refine V_iconst dX5_holds_1 rfl ?_
  refine V_sipush (by decide) dX5_holds_2 rfl ?_
  obtain ⟨P1, c2, h⟩ := h
  refine V_callSi (st := []) (as := [II v1, II 0, II 240]) okX5_outside rfl mlX5_69 (by decide) rfl (Nat.le_of_ble_eq_true rfl) rfl dX5_holds_5 rfl c2 (fun r3 u4 e5 => ?_)
  have h := h r3 u4 e5
  obtain ⟨q6, h⟩ := h
  refine V_if_eq q6 dX5_holds_8 (g := 13) rfl rfl ⟨fun hc => ?_, fun hc => ?_⟩
  · have h := h.1 hc
    refine V_ldc (x := 1000000) ctX5_249 rfl dX5_holds_13 rfl ?_
    refine V_istore_n (ls2 := [(0, RR 0), (1, II v1), (2, II 1000000)]) dX5_holds_15 rfl (by decide) rfl ?_
    refine V_iconst dX5_holds_16 rfl ?_
    refine V_istore_n (ls2 := [(0, RR 0), (1, II v1), (2, II 1000000), (3, II 1)]) dX5_holds_17 rfl (by decide) rfl ?_
    exact h
  · have h := h.2 hc
    refine V_iconst dX5_holds_11 rfl ?_
    exact V_iret dX5_holds_12 (Or.inl rfl) h
set_option maxRecDepth 100000 in
theorem sgX5_holds_18 {G : GG} {Q : Int → Mem → Prop} {t : Mem} {v1 v2 v3 : Int}  (h : In32 v3 ∧ In32 v1 ∧ (v1 < v3 → Q v2 t) ∧ (¬ v1 < v3 → ((0 : Int) ≤ ((t 7 2) + v3) ∧ In32 ((t 7 2) + v3)) ∧ In32 (((t 7 2) + v3) / 10) ∧ ((0 : Int) ≤ (v2 * (100 - (min 100 (((t 7 2) + v3) / 10)))) ∧ In32 (v2 * (100 - (min 100 (((t 7 2) + v3) / 10))))) ∧ V G mX5_holds 18 [(0, RR 0), (1, II v1), (2, II ((v2 * (100 - (min 100 (((t 7 2) + v3) / 10)))) / 100)), (3, II (v3 + 1))] [] t Q)) : V G mX5_holds 18 [(0, RR 0), (1, II v1), (2, II v2), (3, II v3)] [] t Q := by
  refine V_iload_n 3 rfl dX5_holds_18 rfl ?_
  refine V_iload_n 1 rfl dX5_holds_19 rfl ?_
  obtain ⟨q1, h⟩ := h
  obtain ⟨q2, h⟩ := h
  refine V_icmp_gt q1 q2 dX5_holds_20 (g := 59) rfl rfl ⟨fun hc => ?_, fun hc => ?_⟩
  · have h := h.1 hc
    refine V_iload_n 2 rfl dX5_holds_59 rfl ?_
    exact V_iret dX5_holds_60 (Or.inl rfl) h
  · have h := h.2 hc
    refine V_bipush (by decide) dX5_holds_23 rfl ?_
    refine V_aload_n 0 rfl dX5_holds_25 rfl ?_
    refine gX5_19 rfl kY0 rF0_1 dX5_holds_26 rfl ?_
    refine gX5_182 rfl kY7 dX5_holds_29 rfl ?_
    refine V_iload_n 3 rfl dX5_holds_32 rfl ?_
    refine V_iadd dX5_holds_33 rfl ?_
    refine V_bipush (by decide) dX5_holds_34 rfl ?_
    obtain ⟨q3, h⟩ := h
    refine V_idiv q3 ⟨by decide, iL rfl⟩ dX5_holds_36 rfl ?_
    obtain ⟨q4, h⟩ := h
    refine V_min mlX5_250 (by decide) (Nat.le_of_ble_eq_true rfl) (iL rfl) q4 dX5_holds_37 rfl ?_
    refine V_istore (ls2 := [(0, RR 0), (1, II v1), (2, II v2), (3, II v3), (4, II (min 100 (((t 7 2) + v3) / 10)))]) dX5_holds_40 rfl (by decide) rfl ?_
    refine V_iload_n 2 rfl dX5_holds_42 rfl ?_
    refine V_bipush (by decide) dX5_holds_43 rfl ?_
    refine V_iload 4 rfl dX5_holds_45 rfl ?_
    refine V_isub dX5_holds_47 rfl ?_
    refine V_imul dX5_holds_48 rfl ?_
    refine V_bipush (by decide) dX5_holds_49 rfl ?_
    obtain ⟨q5, h⟩ := h
    refine V_idiv q5 ⟨by decide, iL rfl⟩ dX5_holds_51 rfl ?_
    refine V_istore_n (ls2 := [(0, RR 0), (1, II v1), (2, II ((v2 * (100 - (min 100 (((t 7 2) + v3) / 10)))) / 100)), (3, II v3), (4, II (min 100 (((t 7 2) + v3) / 10)))]) dX5_holds_52 rfl (by decide) rfl ?_
    refine V_iinc 3 rfl (ls2 := [(0, RR 0), (1, II v1), (2, II ((v2 * (100 - (min 100 (((t 7 2) + v3) / 10)))) / 100)), (3, II (v3 + 1)), (4, II (min 100 (((t 7 2) + v3) / 10)))]) dX5_holds_53 rfl (by decide) rfl ?_
    refine V_goto (g := 18) dX5_holds_56 rfl ?_
    exact V_sub (by intro q hq; simp only [List.mem_cons, List.not_mem_nil, or_false] at hq ⊢; first | (rcases hq with rfl | rfl | rfl | rfl <;> simp)) h
theorem eX5_image {G : GG} {Q : Int → Mem → Prop} {t : Mem} (k : V G mX5_image 0 [(0, RR 0)] [] t Q) : Ex G mX5_image [RR 0] t Q := Ex.of plX5 (Or.inr (Or.inl rfl)) (Nat.le_of_ble_eq_true rfl) rfl k
set_option maxRecDepth 100000 in
theorem sgX5_image_0 {G : GG} {Q : Int → Mem → Prop} {t : Mem}  (h : ∃ P1 : Int → Mem → Prop, Ex G mX0_takeFrom [RR 54, RR 1] t P1 ∧ ∀ u4 : Mem, P1 0 u4 → ∃ P6 : Int → Mem → Prop, Ex G mX1_takeFrom [RR 60, RR 7] u4 P6 ∧ ∀ u9 : Mem, P6 0 u9 → ∃ P11 : Int → Mem → Prop, Ex G mX2_takeFrom [RR 65, RR 12] u9 P11 ∧ ∀ u14 : Mem, P11 0 u14 → ∀ u16 : Mem, u16 = wr u14 0 3 1 → Q 1 u16) : V G mX5_image 0 [(0, RR 0)] [] t Q := by
  refine V_aload_n 0 rfl dX5_image_0 rfl ?_
  refine gX5_30 rfl kY0 rF0_4 dX5_image_1 rfl ?_
  refine V_aload_n 0 rfl dX5_image_4 rfl ?_
  refine gX5_10 rfl kY0 rF0_0 dX5_image_5 rfl ?_
  obtain ⟨P1, c2, h⟩ := h
  refine V_callVv (st := []) (as := [RR 1]) okX0_takeFrom rfl mlX5_163 (by decide) kY54 rfl (Nat.le_of_ble_eq_true rfl) rfl dX5_image_8 rfl c2 (fun u4 e5 => ?_)
  have h := h u4 e5
  refine V_aload_n 0 rfl dX5_image_11 rfl ?_
  refine gX5_33 rfl kY0 rF0_5 dX5_image_12 rfl ?_
  refine V_aload_n 0 rfl dX5_image_15 rfl ?_
  refine gX5_19 rfl kY0 rF0_1 dX5_image_16 rfl ?_
  obtain ⟨P6, c7, h⟩ := h
  refine V_callVv (st := []) (as := [RR 7]) okX1_takeFrom rfl mlX5_239 (by decide) kY60 rfl (Nat.le_of_ble_eq_true rfl) rfl dX5_image_19 rfl c7 (fun u9 e10 => ?_)
  have h := h u9 e10
  refine V_aload_n 0 rfl dX5_image_22 rfl ?_
  refine gX5_36 rfl kY0 rF0_6 dX5_image_23 rfl ?_
  refine V_aload_n 0 rfl dX5_image_26 rfl ?_
  refine gX5_26 rfl kY0 rF0_2 dX5_image_27 rfl ?_
  obtain ⟨P11, c12, h⟩ := h
  refine V_callVv (st := []) (as := [RR 12]) okX2_takeFrom rfl mlX5_256 (by decide) kY65 rfl (Nat.le_of_ble_eq_true rfl) rfl dX5_image_30 rfl c12 (fun u14 e15 => ?_)
  have h := h u14 e15
  refine V_aload_n 0 rfl dX5_image_33 rfl ?_
  refine V_iconst dX5_image_34 rfl ?_
  refine pX5_259 rfl (by decide) kY0 dX5_image_35 rfl (fun u16 e17 => ?_)
  have h := h u16 e17
  refine V_iconst dX5_image_38 rfl ?_
  exact V_iret dX5_image_39 (Or.inl rfl) h
theorem eX5_restore {G : GG} {Q : Int → Mem → Prop} {t : Mem} (k : V G mX5_restore 0 [(0, RR 0)] [] t Q) : Ex G mX5_restore [RR 0] t Q := Ex.of plX5 (Or.inr (Or.inl rfl)) (Nat.le_of_ble_eq_true rfl) rfl k
set_option maxRecDepth 100000 in
theorem sgX5_restore_0 {G : GG} {Q : Int → Mem → Prop} {t : Mem}  (h : In32 (t 0 3) ∧ (¬ (t 0 3) = 0 → ∃ P2 : Int → Mem → Prop, Ex G mX0_takeFrom [RR 1, RR 54] t P2 ∧ ∀ u5 : Mem, P2 0 u5 → ∃ P7 : Int → Mem → Prop, Ex G mX1_takeFrom [RR 7, RR 60] u5 P7 ∧ ∀ u10 : Mem, P7 0 u10 → ∃ P12 : Int → Mem → Prop, Ex G mX2_takeFrom [RR 12, RR 65] u10 P12 ∧ ∀ u15 : Mem, P12 0 u15 → Q 1 u15) ∧ ((t 0 3) = 0 → Q (-4) t)) : V G mX5_restore 0 [(0, RR 0)] [] t Q := by
  refine V_aload_n 0 rfl dX5_restore_0 rfl ?_
  refine gX5_259 rfl kY0 dX5_restore_1 rfl ?_
  obtain ⟨q1, h⟩ := h
  refine V_if_ne q1 dX5_restore_4 (g := 10) rfl rfl ⟨fun hc => ?_, fun hc => ?_⟩
  · have h := h.1 hc
    refine V_aload_n 0 rfl dX5_restore_10 rfl ?_
    refine gX5_10 rfl kY0 rF0_0 dX5_restore_11 rfl ?_
    refine V_aload_n 0 rfl dX5_restore_14 rfl ?_
    refine gX5_30 rfl kY0 rF0_4 dX5_restore_15 rfl ?_
    obtain ⟨P2, c3, h⟩ := h
    refine V_callVv (st := []) (as := [RR 54]) okX0_takeFrom rfl mlX5_163 (by decide) kY1 rfl (Nat.le_of_ble_eq_true rfl) rfl dX5_restore_18 rfl c3 (fun u5 e6 => ?_)
    have h := h u5 e6
    refine V_aload_n 0 rfl dX5_restore_21 rfl ?_
    refine gX5_19 rfl kY0 rF0_1 dX5_restore_22 rfl ?_
    refine V_aload_n 0 rfl dX5_restore_25 rfl ?_
    refine gX5_33 rfl kY0 rF0_5 dX5_restore_26 rfl ?_
    obtain ⟨P7, c8, h⟩ := h
    refine V_callVv (st := []) (as := [RR 60]) okX1_takeFrom rfl mlX5_239 (by decide) kY7 rfl (Nat.le_of_ble_eq_true rfl) rfl dX5_restore_29 rfl c8 (fun u10 e11 => ?_)
    have h := h u10 e11
    refine V_aload_n 0 rfl dX5_restore_32 rfl ?_
    refine gX5_26 rfl kY0 rF0_2 dX5_restore_33 rfl ?_
    refine V_aload_n 0 rfl dX5_restore_36 rfl ?_
    refine gX5_36 rfl kY0 rF0_6 dX5_restore_37 rfl ?_
    obtain ⟨P12, c13, h⟩ := h
    refine V_callVv (st := []) (as := [RR 65]) okX2_takeFrom rfl mlX5_256 (by decide) kY12 rfl (Nat.le_of_ble_eq_true rfl) rfl dX5_restore_40 rfl c13 (fun u15 e16 => ?_)
    have h := h u15 e16
    refine V_iconst dX5_restore_43 rfl ?_
    exact V_iret dX5_restore_44 (Or.inl rfl) h
  · have h := h.2 hc
    refine V_bipush (by decide) dX5_restore_7 rfl ?_
    exact V_iret dX5_restore_9 (Or.inl rfl) h
theorem eX5_foretell {G : GG} {Q : Int → Mem → Prop} {t : Mem} (k : V G mX5_foretell 0 [(0, RR 0)] [] t Q) : Ex G mX5_foretell [RR 0] t Q := Ex.of plX5 (Or.inl rfl) (Nat.le_of_ble_eq_true rfl) rfl k
set_option maxRecDepth 100000 in
theorem sgX5_foretell_0 {G : GG} {Q : Int → Mem → Prop} {t : Mem}  (h : ∃ P1 : Int → Mem → Prop, Ex G mX0_takeFrom [RR 107, RR 1] t P1 ∧ ∀ u4 : Mem, P1 0 u4 → ∃ P6 : Int → Mem → Prop, Ex G mX0_arrange [RR 107] u4 P6 ∧ ∀ u9 : Mem, P6 0 u9 → ∃ P11 : Int → Mem → Prop, Ex G mX1_takeFrom [RR 113, RR 7] u9 P11 ∧ ∀ u14 : Mem, P11 0 u14 → Q 0 u14) : V G mX5_foretell 0 [(0, RR 0)] [] t Q := by
  refine V_aload_n 0 rfl dX5_foretell_0 rfl ?_
  refine gX5_39 rfl kY0 rF0_7 dX5_foretell_1 rfl ?_
  refine V_aload_n 0 rfl dX5_foretell_4 rfl ?_
  refine gX5_10 rfl kY0 rF0_0 dX5_foretell_5 rfl ?_
  obtain ⟨P1, c2, h⟩ := h
  refine V_callVv (st := []) (as := [RR 1]) okX0_takeFrom rfl mlX5_163 (by decide) kY107 rfl (Nat.le_of_ble_eq_true rfl) rfl dX5_foretell_8 rfl c2 (fun u4 e5 => ?_)
  have h := h u4 e5
  refine V_aload_n 0 rfl dX5_foretell_11 rfl ?_
  refine gX5_39 rfl kY0 rF0_7 dX5_foretell_12 rfl ?_
  obtain ⟨P6, c7, h⟩ := h
  refine V_callVv (st := []) (as := []) okX0_arrange rfl mlX5_151 (by decide) kY107 rfl (Nat.le_of_ble_eq_true rfl) rfl dX5_foretell_15 rfl c7 (fun u9 e10 => ?_)
  have h := h u9 e10
  refine V_aload_n 0 rfl dX5_foretell_18 rfl ?_
  refine gX5_42 rfl kY0 rF0_8 dX5_foretell_19 rfl ?_
  refine V_aload_n 0 rfl dX5_foretell_22 rfl ?_
  refine gX5_19 rfl kY0 rF0_1 dX5_foretell_23 rfl ?_
  obtain ⟨P11, c12, h⟩ := h
  refine V_callVv (st := []) (as := [RR 7]) okX1_takeFrom rfl mlX5_239 (by decide) kY113 rfl (Nat.le_of_ble_eq_true rfl) rfl dX5_foretell_26 rfl c12 (fun u14 e15 => ?_)
  have h := h u14 e15
  exact V_ret dX5_foretell_29 rfl h
theorem eX5_play {G : GG} {Q : Int → Mem → Prop} {t : Mem} {v1 v2 : Int} (k : V G mX5_play 0 [(0, RR 0), (1, II v1), (2, II v2)] [] t Q) : Ex G mX5_play [RR 0, II v1, II v2] t Q := Ex.of plX5 (Or.inl rfl) (Nat.le_of_ble_eq_true rfl) rfl k
set_option maxRecDepth 100000 in
theorem sgX5_play_0 {G : GG} {Q : Int → Mem → Prop} {t : Mem} {v1 v2 : Int}  (h : V G mX5_play 5 [(0, RR 0), (1, II v1), (2, II v2), (3, II 1), (4, II 0)] [] t Q) : V G mX5_play 0 [(0, RR 0), (1, II v1), (2, II v2)] [] t Q := by
  refine V_iconst dX5_play_0 rfl ?_
  refine V_istore_n (ls2 := [(0, RR 0), (1, II v1), (2, II v2), (3, II 1)]) dX5_play_1 rfl (by decide) rfl ?_
  refine V_iconst dX5_play_2 rfl ?_
  refine V_istore (ls2 := [(0, RR 0), (1, II v1), (2, II v2), (3, II 1), (4, II 0)]) dX5_play_3 rfl (by decide) rfl ?_
  exact h
set_option maxRecDepth 100000 in
theorem sgX5_play_5 {G : GG} {Q : Int → Mem → Prop} {t : Mem} {v1 v2 v3 v4 : Int}  (h : In32 v4 ∧ In32 v1 ∧ (v1 ≤ v4 → Q 0 t) ∧ (¬ v1 ≤ v4 → In32 v3 ∧ (v3 = 0 → Q 0 t) ∧ (¬ v3 = 0 → ∃ P4 : Int → Mem → Prop, Ex G mX1_step [RR 113, RR 107, II v2] t P4 ∧ ∀ (r6 : Int) (u7 : Mem), P4 r6 u7 → V G mX5_play 5 [(0, RR 0), (1, II v1), (2, II v2), (3, II r6), (4, II (v4 + 1))] [] u7 Q))) : V G mX5_play 5 [(0, RR 0), (1, II v1), (2, II v2), (3, II v3), (4, II v4)] [] t Q := by
  refine V_iload 4 rfl dX5_play_5 rfl ?_
  refine V_iload_n 1 rfl dX5_play_7 rfl ?_
  obtain ⟨q1, h⟩ := h
  obtain ⟨q2, h⟩ := h
  refine V_icmp_ge q1 q2 dX5_play_8 (g := 34) rfl rfl ⟨fun hc => ?_, fun hc => ?_⟩
  · have h := h.1 hc
    exact V_ret dX5_play_34 rfl h
  · have h := h.2 hc
    refine V_iload_n 3 rfl dX5_play_11 rfl ?_
    obtain ⟨q3, h⟩ := h
    refine V_if_eq q3 dX5_play_12 (g := 34) rfl rfl ⟨fun hc => ?_, fun hc => ?_⟩
    · have h := h.1 hc
      exact V_ret dX5_play_34 rfl h
    · have h := h.2 hc
      refine V_aload_n 0 rfl dX5_play_15 rfl ?_
      refine gX5_42 rfl kY0 rF0_8 dX5_play_16 rfl ?_
      refine V_aload_n 0 rfl dX5_play_19 rfl ?_
      refine gX5_39 rfl kY0 rF0_7 dX5_play_20 rfl ?_
      refine V_iload_n 2 rfl dX5_play_23 rfl ?_
      obtain ⟨P4, c5, h⟩ := h
      refine V_callVi (st := []) (as := [RR 107, II v2]) okX1_step rfl mlX5_205 (by decide) kY113 rfl (Nat.le_of_ble_eq_true rfl) rfl dX5_play_24 rfl c5 (fun r6 u7 e8 => ?_)
      have h := h r6 u7 e8
      refine V_istore_n (ls2 := [(0, RR 0), (1, II v1), (2, II v2), (3, II r6), (4, II v4)]) dX5_play_27 rfl (by decide) rfl ?_
      refine V_iinc 4 rfl (ls2 := [(0, RR 0), (1, II v1), (2, II v2), (3, II r6), (4, II (v4 + 1))]) dX5_play_28 rfl (by decide) rfl ?_
      refine V_goto (g := 5) dX5_play_31 rfl ?_
      exact h
theorem eX5_soonestAll {G : GG} {Q : Int → Mem → Prop} {t : Mem} {v1 : Int} (k : V G mX5_soonestAll 0 [(0, RR 0), (1, II v1)] [] t Q) : Ex G mX5_soonestAll [RR 0, II v1] t Q := Ex.of plX5 (Or.inr (Or.inl rfl)) (Nat.le_of_ble_eq_true rfl) rfl k
set_option maxRecDepth 100000 in
theorem sgX5_soonestAll_0 {G : GG} {Q : Int → Mem → Prop} {t : Mem} {v1 : Int}  (h : ∃ P1 : Int → Mem → Prop, Ex G mX0_arrange [RR 107] t P1 ∧ ∀ u4 : Mem, P1 0 u4 → ∃ P6 : Int → Mem → Prop, Ex G mX1_takeFrom [RR 113, RR 7] u4 P6 ∧ ∀ u9 : Mem, P6 0 u9 → V G mX5_soonestAll 22 [(0, RR 0), (1, II v1), (2, II 1), (3, II 0)] [] u9 Q) : V G mX5_soonestAll 0 [(0, RR 0), (1, II v1)] [] t Q := by
  refine V_aload_n 0 rfl dX5_soonestAll_0 rfl ?_
  refine gX5_39 rfl kY0 rF0_7 dX5_soonestAll_1 rfl ?_
  obtain ⟨P1, c2, h⟩ := h
  refine V_callVv (st := []) (as := []) okX0_arrange rfl mlX5_151 (by decide) kY107 rfl (Nat.le_of_ble_eq_true rfl) rfl dX5_soonestAll_4 rfl c2 (fun u4 e5 => ?_)
  have h := h u4 e5
  refine V_aload_n 0 rfl dX5_soonestAll_7 rfl ?_
  refine gX5_42 rfl kY0 rF0_8 dX5_soonestAll_8 rfl ?_
  refine V_aload_n 0 rfl dX5_soonestAll_11 rfl ?_
  refine gX5_19 rfl kY0 rF0_1 dX5_soonestAll_12 rfl ?_
  obtain ⟨P6, c7, h⟩ := h
  refine V_callVv (st := []) (as := [RR 7]) okX1_takeFrom rfl mlX5_239 (by decide) kY113 rfl (Nat.le_of_ble_eq_true rfl) rfl dX5_soonestAll_15 rfl c7 (fun u9 e10 => ?_)
  have h := h u9 e10
  refine V_iconst dX5_soonestAll_18 rfl ?_
  refine V_istore_n (ls2 := [(0, RR 0), (1, II v1), (2, II 1)]) dX5_soonestAll_19 rfl (by decide) rfl ?_
  refine V_iconst dX5_soonestAll_20 rfl ?_
  refine V_istore_n (ls2 := [(0, RR 0), (1, II v1), (2, II 1), (3, II 0)]) dX5_soonestAll_21 rfl (by decide) rfl ?_
  exact h
set_option maxRecDepth 100000 in
theorem sgX5_soonestAll_22 {G : GG} {Q : Int → Mem → Prop} {t : Mem} {v1 v2 v3 : Int}  (h : In32 v3 ∧ In32 v1 ∧ (v1 < v3 → Q (-4) t) ∧ (¬ v1 < v3 → In32 v2 ∧ (v2 = 0 → Q (-4) t) ∧ (¬ v2 = 0 → ∃ P4 : Int → Mem → Prop, Ex G mX1_allSated [RR 113, RR 107] t P4 ∧ ∀ (r6 : Int) (u7 : Mem), P4 r6 u7 → In32 r6 ∧ (r6 = 0 → ∃ P10 : Int → Mem → Prop, Ex G mX1_step [RR 113, RR 107, II 127] u7 P10 ∧ ∀ (r12 : Int) (u13 : Mem), P10 r12 u13 → V G mX5_soonestAll 22 [(0, RR 0), (1, II v1), (2, II r12), (3, II (v3 + 1))] [] u13 Q) ∧ (¬ r6 = 0 → Q v3 u7)))) : V G mX5_soonestAll 22 [(0, RR 0), (1, II v1), (2, II v2), (3, II v3)] [] t Q := by
  refine V_iload_n 3 rfl dX5_soonestAll_22 rfl ?_
  refine V_iload_n 1 rfl dX5_soonestAll_23 rfl ?_
  obtain ⟨q1, h⟩ := h
  obtain ⟨q2, h⟩ := h
  refine V_icmp_gt q1 q2 dX5_soonestAll_24 (g := 67) rfl rfl ⟨fun hc => ?_, fun hc => ?_⟩
  · have h := h.1 hc
    refine V_bipush (by decide) dX5_soonestAll_67 rfl ?_
    exact V_iret dX5_soonestAll_69 (Or.inl rfl) h
  · have h := h.2 hc
    refine V_iload_n 2 rfl dX5_soonestAll_27 rfl ?_
    obtain ⟨q3, h⟩ := h
    refine V_if_eq q3 dX5_soonestAll_28 (g := 67) rfl rfl ⟨fun hc => ?_, fun hc => ?_⟩
    · have h := h.1 hc
      refine V_bipush (by decide) dX5_soonestAll_67 rfl ?_
      exact V_iret dX5_soonestAll_69 (Or.inl rfl) h
    · have h := h.2 hc
      refine V_aload_n 0 rfl dX5_soonestAll_31 rfl ?_
      refine gX5_42 rfl kY0 rF0_8 dX5_soonestAll_32 rfl ?_
      refine V_aload_n 0 rfl dX5_soonestAll_35 rfl ?_
      refine gX5_39 rfl kY0 rF0_7 dX5_soonestAll_36 rfl ?_
      obtain ⟨P4, c5, h⟩ := h
      refine V_callVi (st := []) (as := [RR 107]) okX1_allSated rfl mlX5_263 (by decide) kY113 rfl (Nat.le_of_ble_eq_true rfl) rfl dX5_soonestAll_39 rfl c5 (fun r6 u7 e8 => ?_)
      have h := h r6 u7 e8
      obtain ⟨q9, h⟩ := h
      refine V_if_eq q9 dX5_soonestAll_42 (g := 47) rfl rfl ⟨fun hc => ?_, fun hc => ?_⟩
      · have h := h.1 hc
        refine V_aload_n 0 rfl dX5_soonestAll_47 rfl ?_
        refine gX5_42 rfl kY0 rF0_8 dX5_soonestAll_48 rfl ?_
        refine V_aload_n 0 rfl dX5_soonestAll_51 rfl ?_
        refine gX5_39 rfl kY0 rF0_7 dX5_soonestAll_52 rfl ?_
        refine V_bipush (by decide) dX5_soonestAll_55 rfl ?_
        obtain ⟨P10, c11, h⟩ := h
        refine V_callVi (st := []) (as := [RR 107, II 127]) okX1_step rfl mlX5_205 (by decide) kY113 rfl (Nat.le_of_ble_eq_true rfl) rfl dX5_soonestAll_57 rfl c11 (fun r12 u13 e14 => ?_)
        have h := h r12 u13 e14
        refine V_istore_n (ls2 := [(0, RR 0), (1, II v1), (2, II r12), (3, II v3)]) dX5_soonestAll_60 rfl (by decide) rfl ?_
        refine V_iinc 3 rfl (ls2 := [(0, RR 0), (1, II v1), (2, II r12), (3, II (v3 + 1))]) dX5_soonestAll_61 rfl (by decide) rfl ?_
        refine V_goto (g := 22) dX5_soonestAll_64 rfl ?_
        exact h
      · have h := h.2 hc
        refine V_iload_n 3 rfl dX5_soonestAll_45 rfl ?_
        exact V_iret dX5_soonestAll_46 (Or.inl rfl) h
theorem eX5_foretellDone {G : GG} {Q : Int → Mem → Prop} {t : Mem} {v1 : Int} (k : V G mX5_foretellDone 0 [(0, RR 0), (1, II v1)] [] t Q) : Ex G mX5_foretellDone [RR 0, II v1] t Q := Ex.of plX5 (Or.inl rfl) (Nat.le_of_ble_eq_true rfl) rfl k
set_option maxRecDepth 100000 in
theorem sgX5_foretellDone_0 {G : GG} {Q : Int → Mem → Prop} {t : Mem} {v1 : Int}  (h : ∃ P1 : Int → Mem → Prop, Ex G mX0_takeFrom [RR 107, RR 1] t P1 ∧ ∀ u4 : Mem, P1 0 u4 → ∀ u6 : Mem, u6 = wr u4 107 5 v1 → ∃ P8 : Int → Mem → Prop, Ex G mX0_arrange [RR 107] u6 P8 ∧ ∀ u11 : Mem, P8 0 u11 → ∃ P13 : Int → Mem → Prop, Ex G mX1_takeFrom [RR 113, RR 7] u11 P13 ∧ ∀ u16 : Mem, P13 0 u16 → V G mX5_foretellDone 39 [(0, RR 0), (1, II v1), (2, II 0)] [] u16 Q) : V G mX5_foretellDone 0 [(0, RR 0), (1, II v1)] [] t Q := by
  refine V_aload_n 0 rfl dX5_foretellDone_0 rfl ?_
  refine gX5_39 rfl kY0 rF0_7 dX5_foretellDone_1 rfl ?_
  refine V_aload_n 0 rfl dX5_foretellDone_4 rfl ?_
  refine gX5_10 rfl kY0 rF0_0 dX5_foretellDone_5 rfl ?_
  obtain ⟨P1, c2, h⟩ := h
  refine V_callVv (st := []) (as := [RR 1]) okX0_takeFrom rfl mlX5_163 (by decide) kY107 rfl (Nat.le_of_ble_eq_true rfl) rfl dX5_foretellDone_8 rfl c2 (fun u4 e5 => ?_)
  have h := h u4 e5
  refine V_aload_n 0 rfl dX5_foretellDone_11 rfl ?_
  refine gX5_39 rfl kY0 rF0_7 dX5_foretellDone_12 rfl ?_
  refine V_iload_n 1 rfl dX5_foretellDone_15 rfl ?_
  refine pX5_145 rfl kY107 dX5_foretellDone_16 rfl (fun u6 e7 => ?_)
  have h := h u6 e7
  refine V_aload_n 0 rfl dX5_foretellDone_19 rfl ?_
  refine gX5_39 rfl kY0 rF0_7 dX5_foretellDone_20 rfl ?_
  obtain ⟨P8, c9, h⟩ := h
  refine V_callVv (st := []) (as := []) okX0_arrange rfl mlX5_151 (by decide) kY107 rfl (Nat.le_of_ble_eq_true rfl) rfl dX5_foretellDone_23 rfl c9 (fun u11 e12 => ?_)
  have h := h u11 e12
  refine V_aload_n 0 rfl dX5_foretellDone_26 rfl ?_
  refine gX5_42 rfl kY0 rF0_8 dX5_foretellDone_27 rfl ?_
  refine V_aload_n 0 rfl dX5_foretellDone_30 rfl ?_
  refine gX5_19 rfl kY0 rF0_1 dX5_foretellDone_31 rfl ?_
  obtain ⟨P13, c14, h⟩ := h
  refine V_callVv (st := []) (as := [RR 7]) okX1_takeFrom rfl mlX5_239 (by decide) kY113 rfl (Nat.le_of_ble_eq_true rfl) rfl dX5_foretellDone_34 rfl c14 (fun u16 e17 => ?_)
  have h := h u16 e17
  refine V_iconst dX5_foretellDone_37 rfl ?_
  refine V_istore_n (ls2 := [(0, RR 0), (1, II v1), (2, II 0)]) dX5_foretellDone_38 rfl (by decide) rfl ?_
  exact h
set_option maxRecDepth 100000 in
theorem sgX5_foretellDone_39 {G : GG} {Q : Int → Mem → Prop} {t : Mem} {v1 v2 : Int}  (h : In32 v2 ∧ (7 ≤ v2 → V G mX5_foretellDone 63 [(0, RR 0), (1, II v1), (2, II 1), (3, II 0)] [] t Q) ∧ (¬ 7 ≤ v2 → (0 ≤ v2 ∧ v2 < 7) ∧ ∀ u2 : Mem, u2 = wr t 118 v2.toNat (-4) → V G mX5_foretellDone 39 [(0, RR 0), (1, II v1), (2, II (v2 + 1))] [] u2 Q)) : V G mX5_foretellDone 39 [(0, RR 0), (1, II v1), (2, II v2)] [] t Q := by
  refine V_iload_n 2 rfl dX5_foretellDone_39 rfl ?_
  refine V_bipush (by decide) dX5_foretellDone_40 rfl ?_
  obtain ⟨q1, h⟩ := h
  refine V_icmp_ge q1 (iL rfl) dX5_foretellDone_42 (g := 59) rfl rfl ⟨fun hc => ?_, fun hc => ?_⟩
  · have h := h.1 hc
    refine V_iconst dX5_foretellDone_59 rfl ?_
    refine V_istore_n (ls2 := [(0, RR 0), (1, II v1), (2, II 1)]) dX5_foretellDone_60 rfl (by decide) rfl ?_
    refine V_iconst dX5_foretellDone_61 rfl ?_
    refine V_istore_n (ls2 := [(0, RR 0), (1, II v1), (2, II 1), (3, II 0)]) dX5_foretellDone_62 rfl (by decide) rfl ?_
    exact h
  · have h := h.2 hc
    refine V_aload_n 0 rfl dX5_foretellDone_45 rfl ?_
    refine gX5_45 rfl kY0 rF0_9 dX5_foretellDone_46 rfl ?_
    refine V_iload_n 2 rfl dX5_foretellDone_49 rfl ?_
    refine V_bipush (by decide) dX5_foretellDone_50 rfl ?_
    obtain ⟨q4, h⟩ := h
    refine V_iastn kY118 lI118 q4 dX5_foretellDone_52 rfl (fun u2 e3 => ?_)
    have h := h u2 e3
    refine V_iinc 2 rfl (ls2 := [(0, RR 0), (1, II v1), (2, II (v2 + 1))]) dX5_foretellDone_53 rfl (by decide) rfl ?_
    refine V_goto (g := 39) dX5_foretellDone_56 rfl ?_
    exact h
set_option maxRecDepth 100000 in
theorem sgX5_foretellDone_63 {G : GG} {Q : Int → Mem → Prop} {t : Mem} {v1 v2 v3 : Int}  (h : In32 v3 ∧ (240 < v3 → Q 0 t) ∧ (¬ 240 < v3 → In32 v2 ∧ (v2 = 0 → Q 0 t) ∧ (¬ v2 = 0 → ∃ P3 : Int → Mem → Prop, Ex G mX5_markDone [RR 0, II v3] t P3 ∧ ∀ u6 : Mem, P3 0 u6 → ∃ P8 : Int → Mem → Prop, Ex G mX1_step [RR 113, RR 107, II 127] u6 P8 ∧ ∀ (r10 : Int) (u11 : Mem), P8 r10 u11 → V G mX5_foretellDone 63 [(0, RR 0), (1, II v1), (2, II r10), (3, II (v3 + 1))] [] u11 Q))) : V G mX5_foretellDone 63 [(0, RR 0), (1, II v1), (2, II v2), (3, II v3)] [] t Q := by
  refine V_iload_n 3 rfl dX5_foretellDone_63 rfl ?_
  refine V_sipush (by decide) dX5_foretellDone_64 rfl ?_
  obtain ⟨q1, h⟩ := h
  refine V_icmp_gt q1 (iL rfl) dX5_foretellDone_67 (g := 99) rfl rfl ⟨fun hc => ?_, fun hc => ?_⟩
  · have h := h.1 hc
    exact V_ret dX5_foretellDone_99 rfl h
  · have h := h.2 hc
    refine V_iload_n 2 rfl dX5_foretellDone_70 rfl ?_
    obtain ⟨q2, h⟩ := h
    refine V_if_eq q2 dX5_foretellDone_71 (g := 99) rfl rfl ⟨fun hc => ?_, fun hc => ?_⟩
    · have h := h.1 hc
      exact V_ret dX5_foretellDone_99 rfl h
    · have h := h.2 hc
      refine V_aload_n 0 rfl dX5_foretellDone_74 rfl ?_
      refine V_iload_n 3 rfl dX5_foretellDone_75 rfl ?_
      obtain ⟨P3, c4, h⟩ := h
      refine V_callVv (st := []) (as := [II v3]) okX5_markDone rfl mlX5_267 (by decide) kY0 rfl (Nat.le_of_ble_eq_true rfl) rfl dX5_foretellDone_76 rfl c4 (fun u6 e7 => ?_)
      have h := h u6 e7
      refine V_aload_n 0 rfl dX5_foretellDone_79 rfl ?_
      refine gX5_42 rfl kY0 rF0_8 dX5_foretellDone_80 rfl ?_
      refine V_aload_n 0 rfl dX5_foretellDone_83 rfl ?_
      refine gX5_39 rfl kY0 rF0_7 dX5_foretellDone_84 rfl ?_
      refine V_bipush (by decide) dX5_foretellDone_87 rfl ?_
      obtain ⟨P8, c9, h⟩ := h
      refine V_callVi (st := []) (as := [RR 107, II 127]) okX1_step rfl mlX5_205 (by decide) kY113 rfl (Nat.le_of_ble_eq_true rfl) rfl dX5_foretellDone_89 rfl c9 (fun r10 u11 e12 => ?_)
      have h := h r10 u11 e12
      refine V_istore_n (ls2 := [(0, RR 0), (1, II v1), (2, II r10), (3, II v3)]) dX5_foretellDone_92 rfl (by decide) rfl ?_
      refine V_iinc 3 rfl (ls2 := [(0, RR 0), (1, II v1), (2, II r10), (3, II (v3 + 1))]) dX5_foretellDone_93 rfl (by decide) rfl ?_
      refine V_goto (g := 63) dX5_foretellDone_96 rfl ?_
      exact h
theorem eX5_markDone {G : GG} {Q : Int → Mem → Prop} {t : Mem} {v1 : Int} (k : V G mX5_markDone 0 [(0, RR 0), (1, II v1)] [] t Q) : Ex G mX5_markDone [RR 0, II v1] t Q := Ex.of plX5 (Or.inl rfl) (Nat.le_of_ble_eq_true rfl) rfl k
set_option maxRecDepth 100000 in
theorem sgX5_markDone_0 {G : GG} {Q : Int → Mem → Prop} {t : Mem} {v1 : Int}  (h : V G mX5_markDone 2 [(0, RR 0), (1, II v1), (2, II 0)] [] t Q) : V G mX5_markDone 0 [(0, RR 0), (1, II v1)] [] t Q := by
  refine V_iconst dX5_markDone_0 rfl ?_
  refine V_istore_n (ls2 := [(0, RR 0), (1, II v1), (2, II 0)]) dX5_markDone_1 rfl (by decide) rfl ?_
  exact h
set_option maxRecDepth 100000 in
theorem sgX5_markDone_2 {G : GG} {Q : Int → Mem → Prop} {t : Mem} {v1 v2 : Int}  (h : In32 v2 ∧ In32 (t 107 7) ∧ ((t 107 7) ≤ v2 → Q 0 t) ∧ (¬ (t 107 7) ≤ v2 → (0 ≤ v2 ∧ v2 < 7) ∧ In32 (t 118 v2.toNat) ∧ (¬ (t 118 v2.toNat) = (-4) → V G mX5_markDone 2 [(0, RR 0), (1, II v1), (2, II (v2 + 1))] [] t Q) ∧ ((t 118 v2.toNat) = (-4) → ∃ P5 : Int → Mem → Prop, Ex G mX1_sated [RR 113, RR 107, II v2] t P5 ∧ ∀ (r7 : Int) (u8 : Mem), P5 r7 u8 → In32 r7 ∧ (r7 = 0 → V G mX5_markDone 2 [(0, RR 0), (1, II v1), (2, II (v2 + 1))] [] u8 Q) ∧ (¬ r7 = 0 → ∀ u11 : Mem, u11 = wr u8 118 v2.toNat v1 → V G mX5_markDone 2 [(0, RR 0), (1, II v1), (2, II (v2 + 1))] [] u11 Q)))) : V G mX5_markDone 2 [(0, RR 0), (1, II v1), (2, II v2)] [] t Q := by
  refine V_iload_n 2 rfl dX5_markDone_2 rfl ?_
  refine V_aload_n 0 rfl dX5_markDone_3 rfl ?_
  refine gX5_39 rfl kY0 rF0_7 dX5_markDone_4 rfl ?_
  refine gX5_73 rfl kY107 dX5_markDone_7 rfl ?_
  obtain ⟨q1, h⟩ := h
  obtain ⟨q2, h⟩ := h
  refine V_icmp_ge q1 q2 dX5_markDone_10 (g := 52) rfl rfl ⟨fun hc => ?_, fun hc => ?_⟩
  · have h := h.1 hc
    exact V_ret dX5_markDone_52 rfl h
  · have h := h.2 hc
    refine V_aload_n 0 rfl dX5_markDone_13 rfl ?_
    refine gX5_45 rfl kY0 rF0_9 dX5_markDone_14 rfl ?_
    refine V_iload_n 2 rfl dX5_markDone_17 rfl ?_
    obtain ⟨q3, h⟩ := h
    refine V_ialdn kY118 lI118 q3 dX5_markDone_18 rfl ?_
    refine V_bipush (by decide) dX5_markDone_19 rfl ?_
    obtain ⟨q4, h⟩ := h
    refine V_icmp_ne q4 (iL rfl) dX5_markDone_21 (g := 46) rfl rfl ⟨fun hc => ?_, fun hc => ?_⟩
    · have h := h.1 hc
      refine V_iinc 2 rfl (ls2 := [(0, RR 0), (1, II v1), (2, II (v2 + 1))]) dX5_markDone_46 rfl (by decide) rfl ?_
      refine V_goto (g := 2) dX5_markDone_49 rfl ?_
      exact h
    · have h := h.2 hc
      refine V_aload_n 0 rfl dX5_markDone_24 rfl ?_
      refine gX5_42 rfl kY0 rF0_8 dX5_markDone_25 rfl ?_
      refine V_aload_n 0 rfl dX5_markDone_28 rfl ?_
      refine gX5_39 rfl kY0 rF0_7 dX5_markDone_29 rfl ?_
      refine V_iload_n 2 rfl dX5_markDone_32 rfl ?_
      obtain ⟨P5, c6, h⟩ := h
      refine V_callVi (st := []) (as := [RR 107, II v2]) okX1_sated rfl mlX5_107 (by decide) kY113 rfl (Nat.le_of_ble_eq_true rfl) rfl dX5_markDone_33 rfl c6 (fun r7 u8 e9 => ?_)
      have h := h r7 u8 e9
      obtain ⟨q10, h⟩ := h
      refine V_if_eq q10 dX5_markDone_36 (g := 46) rfl rfl ⟨fun hc => ?_, fun hc => ?_⟩
      · have h := h.1 hc
        refine V_iinc 2 rfl (ls2 := [(0, RR 0), (1, II v1), (2, II (v2 + 1))]) dX5_markDone_46 rfl (by decide) rfl ?_
        refine V_goto (g := 2) dX5_markDone_49 rfl ?_
        exact h
      · have h := h.2 hc
        refine V_aload_n 0 rfl dX5_markDone_39 rfl ?_
        refine gX5_45 rfl kY0 rF0_9 dX5_markDone_40 rfl ?_
        refine V_iload_n 2 rfl dX5_markDone_43 rfl ?_
        refine V_iload_n 1 rfl dX5_markDone_44 rfl ?_
        refine V_iastn kY118 lI118 q3 dX5_markDone_45 rfl (fun u11 e12 => ?_)
        have h := h u11 e12
        refine V_iinc 2 rfl (ls2 := [(0, RR 0), (1, II v1), (2, II (v2 + 1))]) dX5_markDone_46 rfl (by decide) rfl ?_
        refine V_goto (g := 2) dX5_markDone_49 rfl ?_
        exact h
theorem eX5_herdWaits {G : GG} {Q : Int → Mem → Prop} {t : Mem} {v1 : Int} (k : V G mX5_herdWaits 0 [(0, RR 0), (1, II v1)] [] t Q) : Ex G mX5_herdWaits [RR 0, II v1] t Q := Ex.of plX5 (Or.inr (Or.inl rfl)) (Nat.le_of_ble_eq_true rfl) rfl k
set_option maxRecDepth 100000 in
theorem sgX5_herdWaits_0 {G : GG} {Q : Int → Mem → Prop} {t : Mem} {v1 : Int}  (h : V G mX5_herdWaits 4 [(0, RR 0), (1, II v1), (2, II 0), (3, II 0)] [] t Q) : V G mX5_herdWaits 0 [(0, RR 0), (1, II v1)] [] t Q := by
  refine V_iconst dX5_herdWaits_0 rfl ?_
  refine V_istore_n (ls2 := [(0, RR 0), (1, II v1), (2, II 0)]) dX5_herdWaits_1 rfl (by decide) rfl ?_
  refine V_iconst dX5_herdWaits_2 rfl ?_
  refine V_istore_n (ls2 := [(0, RR 0), (1, II v1), (2, II 0), (3, II 0)]) dX5_herdWaits_3 rfl (by decide) rfl ?_
  exact h
set_option maxRecDepth 100000 in
theorem sgX5_herdWaits_4 {G : GG} {Q : Int → Mem → Prop} {t : Mem} {v1 v2 v3 : Int}  (h : In32 v3 ∧ In32 (t 1 7) ∧ ((t 1 7) ≤ v3 → Q v2 t) ∧ (¬ (t 1 7) ≤ v3 → (0 ≤ v3 ∧ v3 < 7) ∧ In32 (t 4 v3.toNat) ∧ In32 v1 ∧ (¬ (t 4 v3.toNat) = v1 → V G mX5_herdWaits 4 [(0, RR 0), (1, II v1), (2, II v2), (3, II (v3 + 1))] [] t Q) ∧ ((t 4 v3.toNat) = v1 → In32 (t 1 6) ∧ (v3 = (t 1 6) → V G mX5_herdWaits 4 [(0, RR 0), (1, II v1), (2, II v2), (3, II (v3 + 1))] [] t Q) ∧ (¬ v3 = (t 1 6) → In32 (t 118 v3.toNat) ∧ ∀ w8 : Int, w8 = (if (t 118 v3.toNat) = (-4) then 240 else t 118 v3.toNat) → V G mX5_herdWaits 4 [(0, RR 0), (1, II v1), (2, II (v2 + w8)), (3, II (v3 + 1))] [] t Q)))) : V G mX5_herdWaits 4 [(0, RR 0), (1, II v1), (2, II v2), (3, II v3)] [] t Q := by
  refine V_iload_n 3 rfl dX5_herdWaits_4 rfl ?_
  refine V_aload_n 0 rfl dX5_herdWaits_5 rfl ?_
  refine gX5_10 rfl kY0 rF0_0 dX5_herdWaits_6 rfl ?_
  refine gX5_73 rfl kY1 dX5_herdWaits_9 rfl ?_
  obtain ⟨q1, h⟩ := h
  obtain ⟨q2, h⟩ := h
  refine V_icmp_ge q1 q2 dX5_herdWaits_12 (g := 71) rfl rfl ⟨fun hc => ?_, fun hc => ?_⟩
  · have h := h.1 hc
    refine V_iload_n 2 rfl dX5_herdWaits_71 rfl ?_
    exact V_iret dX5_herdWaits_72 (Or.inl rfl) h
  · have h := h.2 hc
    refine V_aload_n 0 rfl dX5_herdWaits_15 rfl ?_
    refine gX5_10 rfl kY0 rF0_0 dX5_herdWaits_16 rfl ?_
    refine gX5_94 rfl kY1 rF1_10 dX5_herdWaits_19 rfl ?_
    refine V_iload_n 3 rfl dX5_herdWaits_22 rfl ?_
    obtain ⟨q3, h⟩ := h
    refine V_ialdn kY4 lI4 q3 dX5_herdWaits_23 rfl ?_
    refine V_iload_n 1 rfl dX5_herdWaits_24 rfl ?_
    obtain ⟨q4, h⟩ := h
    obtain ⟨q5, h⟩ := h
    refine V_icmp_ne q4 q5 dX5_herdWaits_25 (g := 65) rfl rfl ⟨fun hc => ?_, fun hc => ?_⟩
    · have h := h.1 hc
      refine V_iinc 3 rfl (ls2 := [(0, RR 0), (1, II v1), (2, II v2), (3, II (v3 + 1))]) dX5_herdWaits_65 rfl (by decide) rfl ?_
      refine V_goto (g := 4) dX5_herdWaits_68 rfl ?_
      exact h
    · have h := h.2 hc
      refine V_iload_n 3 rfl dX5_herdWaits_28 rfl ?_
      refine V_aload_n 0 rfl dX5_herdWaits_29 rfl ?_
      refine gX5_10 rfl kY0 rF0_0 dX5_herdWaits_30 rfl ?_
      refine gX5_148 rfl kY1 dX5_herdWaits_33 rfl ?_
      obtain ⟨q6, h⟩ := h
      refine V_icmp_eq q1 q6 dX5_herdWaits_36 (g := 65) rfl rfl ⟨fun hc => ?_, fun hc => ?_⟩
      · have h := h.1 hc
        refine V_iinc 3 rfl (ls2 := [(0, RR 0), (1, II v1), (2, II v2), (3, II (v3 + 1))]) dX5_herdWaits_65 rfl (by decide) rfl ?_
        refine V_goto (g := 4) dX5_herdWaits_68 rfl ?_
        exact h
      · have h := h.2 hc
        refine V_iload_n 2 rfl dX5_herdWaits_39 rfl ?_
        refine V_aload_n 0 rfl dX5_herdWaits_40 rfl ?_
        refine gX5_45 rfl kY0 rF0_9 dX5_herdWaits_41 rfl ?_
        refine V_iload_n 3 rfl dX5_herdWaits_44 rfl ?_
        refine V_ialdn kY118 lI118 q3 dX5_herdWaits_45 rfl ?_
        refine V_bipush (by decide) dX5_herdWaits_46 rfl ?_
        obtain ⟨q7, h⟩ := h
        have hj12 : ∀ w8 : Int, w8 = (if (t 118 v3.toNat) = (-4) then 240 else t 118 v3.toNat) → V G mX5_herdWaits 63 [(0, RR 0), (1, II v1), (2, II v2), (3, II v3)] [II w8, II v2] t Q := by
          intro w8 e9
          have h := h w8 e9
          refine V_iadd dX5_herdWaits_63 rfl ?_
          refine V_istore_n (ls2 := [(0, RR 0), (1, II v1), (2, II (v2 + w8)), (3, II v3)]) dX5_herdWaits_64 rfl (by decide) rfl ?_
          refine V_iinc 3 rfl (ls2 := [(0, RR 0), (1, II v1), (2, II (v2 + w8)), (3, II (v3 + 1))]) dX5_herdWaits_65 rfl (by decide) rfl ?_
          refine V_goto (g := 4) dX5_herdWaits_68 rfl ?_
          exact h
        have hj12 := hj12 _ rfl
        refine V_icmp_ne q7 (iL rfl) dX5_herdWaits_48 (g := 57) rfl rfl ⟨fun hc => ?_, fun hc => ?_⟩
        · skip
          refine V_aload_n 0 rfl dX5_herdWaits_57 rfl ?_
          refine gX5_45 rfl kY0 rF0_9 dX5_herdWaits_58 rfl ?_
          refine V_iload_n 3 rfl dX5_herdWaits_61 rfl ?_
          refine V_ialdn kY118 lI118 q3 dX5_herdWaits_62 rfl ?_
          rw [if_neg hc] at hj12
          exact hj12
        · skip
          refine V_sipush (by decide) dX5_herdWaits_51 rfl ?_
          refine V_goto (g := 63) dX5_herdWaits_54 rfl ?_
          rw [if_pos hc] at hj12
          exact hj12
theorem eX5_bestLaw {G : GG} {Q : Int → Mem → Prop} {t : Mem} {v1 v2 : Int} (k : V G mX5_bestLaw 0 [(0, RR 0), (1, II v1), (2, II v2)] [] t Q) : Ex G mX5_bestLaw [RR 0, II v1, II v2] t Q := Ex.of plX5 (Or.inr (Or.inl rfl)) (Nat.le_of_ble_eq_true rfl) rfl k
set_option maxRecDepth 100000 in
theorem sgX5_bestLaw_0 {G : GG} {Q : Int → Mem → Prop} {t : Mem} {v1 v2 : Int}  (h : ∃ P1 : Int → Mem → Prop, Ex G mX5_outside [II v1, II 0, II 1] t P1 ∧ ∀ (r3 : Int) (u4 : Mem), P1 r3 u4 → In32 r3 ∧ (r3 = 0 → V G mX5_bestLaw 21 [(0, RR 0), (1, II v1), (2, II v2), (3, II 0), (4, II 1681), (5, II 0)] [] u4 Q) ∧ (¬ r3 = 0 → Q (-1) u4)) : V G mX5_bestLaw 0 [(0, RR 0), (1, II v1), (2, II v2)] [] t Q := by
  refine V_iload_n 1 rfl dX5_bestLaw_0 rfl ?_
  refine V_iconst dX5_bestLaw_1 rfl ?_
  refine V_iconst dX5_bestLaw_2 rfl ?_
  obtain ⟨P1, c2, h⟩ := h
  refine V_callSi (st := []) (as := [II v1, II 0, II 1]) okX5_outside rfl mlX5_69 (by decide) rfl (Nat.le_of_ble_eq_true rfl) rfl dX5_bestLaw_3 rfl c2 (fun r3 u4 e5 => ?_)
  have h := h r3 u4 e5
  obtain ⟨q6, h⟩ := h
  refine V_if_eq q6 dX5_bestLaw_6 (g := 11) rfl rfl ⟨fun hc => ?_, fun hc => ?_⟩
  · have h := h.1 hc
    refine V_iconst dX5_bestLaw_11 rfl ?_
    refine V_istore_n (ls2 := [(0, RR 0), (1, II v1), (2, II v2), (3, II 0)]) dX5_bestLaw_12 rfl (by decide) rfl ?_
    refine V_sipush (by decide) dX5_bestLaw_13 rfl ?_
    refine V_istore (ls2 := [(0, RR 0), (1, II v1), (2, II v2), (3, II 0), (4, II 1681)]) dX5_bestLaw_16 rfl (by decide) rfl ?_
    refine V_iconst dX5_bestLaw_18 rfl ?_
    refine V_istore (ls2 := [(0, RR 0), (1, II v1), (2, II v2), (3, II 0), (4, II 1681), (5, II 0)]) dX5_bestLaw_19 rfl (by decide) rfl ?_
    exact h
  · have h := h.2 hc
    refine V_iconst dX5_bestLaw_9 rfl ?_
    exact V_iret dX5_bestLaw_10 (Or.inl rfl) h
set_option maxRecDepth 100000 in
theorem sgX5_bestLaw_21 {G : GG} {Q : Int → Mem → Prop} {t : Mem} {v1 v2 v3 v4 v5 : Int}  (h : In32 v5 ∧ (3 < v5 → In32 v1 ∧ ∀ w3 : Int, w3 = (if v1 = 0 then v3 else v4) → Q w3 t) ∧ (¬ 3 < v5 → ∃ P8 : Int → Mem → Prop, Ex G mX5_foretellDone [RR 0, II v5] t P8 ∧ ∀ u11 : Mem, P8 0 u11 → ∃ P13 : Int → Mem → Prop, Ex G mX5_herdWaits [RR 0, II 0] u11 P13 ∧ ∀ (r15 : Int) (u16 : Mem), P13 r15 u16 → ∃ P18 : Int → Mem → Prop, Ex G mX5_herdWaits [RR 0, II 1] u16 P18 ∧ ∀ (r20 : Int) (u21 : Mem), P18 r20 u21 → In32 v2 ∧ (v2 = 0 → In32 (r15 + r20) ∧ In32 v4 ∧ (v4 ≤ (r15 + r20) → V G mX5_bestLaw 21 [(0, RR 0), (1, II v1), (2, II v2), (3, II v3), (4, II v4), (5, II (v5 + 1))] [] u21 Q) ∧ (¬ v4 ≤ (r15 + r20) → V G mX5_bestLaw 21 [(0, RR 0), (1, II v1), (2, II v2), (3, II v5), (4, II (r15 + r20)), (5, II (v5 + 1))] [] u21 Q)) ∧ (¬ v2 = 0 → In32 r15 ∧ In32 r20 ∧ In32 v4 ∧ (v4 ≤ (max r15 r20) → V G mX5_bestLaw 21 [(0, RR 0), (1, II v1), (2, II v2), (3, II v3), (4, II v4), (5, II (v5 + 1))] [] u21 Q) ∧ (¬ v4 ≤ (max r15 r20) → V G mX5_bestLaw 21 [(0, RR 0), (1, II v1), (2, II v2), (3, II v5), (4, II (max r15 r20)), (5, II (v5 + 1))] [] u21 Q)))) : V G mX5_bestLaw 21 [(0, RR 0), (1, II v1), (2, II v2), (3, II v3), (4, II v4), (5, II v5)] [] t Q := by
  refine V_iload 5 rfl dX5_bestLaw_21 rfl ?_
  refine V_iconst dX5_bestLaw_23 rfl ?_
  obtain ⟨q1, h⟩ := h
  refine V_icmp_gt q1 (iL rfl) dX5_bestLaw_24 (g := 88) rfl rfl ⟨fun hc => ?_, fun hc => ?_⟩
  · have h := h.1 hc
    refine V_iload_n 1 rfl dX5_bestLaw_88 rfl ?_
    obtain ⟨q2, h⟩ := h
    have hj7 : ∀ w3 : Int, w3 = (if v1 = 0 then v3 else v4) → V G mX5_bestLaw 98 [(0, RR 0), (1, II v1), (2, II v2), (3, II v3), (4, II v4), (5, II v5)] [II w3] t Q := by
      intro w3 e4
      have h := h w3 e4
      exact V_iret dX5_bestLaw_98 (Or.inl rfl) h
    have hj7 := hj7 _ rfl
    refine V_if_ne q2 dX5_bestLaw_89 (g := 96) rfl rfl ⟨fun hc => ?_, fun hc => ?_⟩
    · skip
      refine V_iload 4 rfl dX5_bestLaw_96 rfl ?_
      rw [if_neg hc] at hj7
      exact hj7
    · skip
      refine V_iload_n 3 rfl dX5_bestLaw_92 rfl ?_
      refine V_goto (g := 98) dX5_bestLaw_93 rfl ?_
      rw [if_pos hc] at hj7
      exact hj7
  · have h := h.2 hc
    refine V_aload_n 0 rfl dX5_bestLaw_27 rfl ?_
    refine V_iload 5 rfl dX5_bestLaw_28 rfl ?_
    obtain ⟨P8, c9, h⟩ := h
    refine V_callVv (st := []) (as := [II v5]) okX5_foretellDone rfl mlX5_226 (by decide) kY0 rfl (Nat.le_of_ble_eq_true rfl) rfl dX5_bestLaw_30 rfl c9 (fun u11 e12 => ?_)
    have h := h u11 e12
    refine V_aload_n 0 rfl dX5_bestLaw_33 rfl ?_
    refine V_iconst dX5_bestLaw_34 rfl ?_
    obtain ⟨P13, c14, h⟩ := h
    refine V_callVi (st := []) (as := [II 0]) okX5_herdWaits rfl mlX5_232 (by decide) kY0 rfl (Nat.le_of_ble_eq_true rfl) rfl dX5_bestLaw_35 rfl c14 (fun r15 u16 e17 => ?_)
    have h := h r15 u16 e17
    refine V_istore (ls2 := [(0, RR 0), (1, II v1), (2, II v2), (3, II v3), (4, II v4), (5, II v5), (6, II r15)]) dX5_bestLaw_38 rfl (by decide) rfl ?_
    refine V_aload_n 0 rfl dX5_bestLaw_40 rfl ?_
    refine V_iconst dX5_bestLaw_41 rfl ?_
    obtain ⟨P18, c19, h⟩ := h
    refine V_callVi (st := []) (as := [II 1]) okX5_herdWaits rfl mlX5_232 (by decide) kY0 rfl (Nat.le_of_ble_eq_true rfl) rfl dX5_bestLaw_42 rfl c19 (fun r20 u21 e22 => ?_)
    have h := h r20 u21 e22
    refine V_istore (ls2 := [(0, RR 0), (1, II v1), (2, II v2), (3, II v3), (4, II v4), (5, II v5), (6, II r15), (7, II r20)]) dX5_bestLaw_45 rfl (by decide) rfl ?_
    refine V_iload_n 2 rfl dX5_bestLaw_47 rfl ?_
    obtain ⟨q23, h⟩ := h
    refine V_if_eq q23 dX5_bestLaw_48 (g := 61) rfl rfl ⟨fun hc => ?_, fun hc => ?_⟩
    · have h := h.1 hc
      refine V_iload 6 rfl dX5_bestLaw_61 rfl ?_
      refine V_iload 7 rfl dX5_bestLaw_63 rfl ?_
      refine V_iadd dX5_bestLaw_65 rfl ?_
      refine V_istore (ls2 := [(0, RR 0), (1, II v1), (2, II v2), (3, II v3), (4, II v4), (5, II v5), (6, II r15), (7, II r20), (8, II (r15 + r20))]) dX5_bestLaw_66 rfl (by decide) rfl ?_
      refine V_iload 8 rfl dX5_bestLaw_68 rfl ?_
      refine V_iload 4 rfl dX5_bestLaw_70 rfl ?_
      obtain ⟨q24, h⟩ := h
      obtain ⟨q25, h⟩ := h
      refine V_icmp_ge q24 q25 dX5_bestLaw_72 (g := 82) rfl rfl ⟨fun hc => ?_, fun hc => ?_⟩
      · have h := h.1 hc
        refine V_iinc 5 rfl (ls2 := [(0, RR 0), (1, II v1), (2, II v2), (3, II v3), (4, II v4), (5, II (v5 + 1)), (6, II r15), (7, II r20), (8, II (r15 + r20))]) dX5_bestLaw_82 rfl (by decide) rfl ?_
        refine V_goto (g := 21) dX5_bestLaw_85 rfl ?_
        exact V_sub (by intro q hq; simp only [List.mem_cons, List.not_mem_nil, or_false] at hq ⊢; first | (rcases hq with rfl | rfl | rfl | rfl | rfl | rfl <;> simp)) h
      · have h := h.2 hc
        refine V_iload 5 rfl dX5_bestLaw_75 rfl ?_
        refine V_istore_n (ls2 := [(0, RR 0), (1, II v1), (2, II v2), (3, II v5), (4, II v4), (5, II v5), (6, II r15), (7, II r20), (8, II (r15 + r20))]) dX5_bestLaw_77 rfl (by decide) rfl ?_
        refine V_iload 8 rfl dX5_bestLaw_78 rfl ?_
        refine V_istore (ls2 := [(0, RR 0), (1, II v1), (2, II v2), (3, II v5), (4, II (r15 + r20)), (5, II v5), (6, II r15), (7, II r20), (8, II (r15 + r20))]) dX5_bestLaw_80 rfl (by decide) rfl ?_
        refine V_iinc 5 rfl (ls2 := [(0, RR 0), (1, II v1), (2, II v2), (3, II v5), (4, II (r15 + r20)), (5, II (v5 + 1)), (6, II r15), (7, II r20), (8, II (r15 + r20))]) dX5_bestLaw_82 rfl (by decide) rfl ?_
        refine V_goto (g := 21) dX5_bestLaw_85 rfl ?_
        exact V_sub (by intro q hq; simp only [List.mem_cons, List.not_mem_nil, or_false] at hq ⊢; first | (rcases hq with rfl | rfl | rfl | rfl | rfl | rfl <;> simp)) h
    · have h := h.2 hc
      refine V_iload 6 rfl dX5_bestLaw_51 rfl ?_
      refine V_iload 7 rfl dX5_bestLaw_53 rfl ?_
      obtain ⟨q26, h⟩ := h
      obtain ⟨q27, h⟩ := h
      refine V_max mlX5_270 (by decide) (Nat.le_of_ble_eq_true rfl) q26 q27 dX5_bestLaw_55 rfl ?_
      refine V_goto (g := 66) dX5_bestLaw_58 rfl ?_
      refine V_istore (ls2 := [(0, RR 0), (1, II v1), (2, II v2), (3, II v3), (4, II v4), (5, II v5), (6, II r15), (7, II r20), (8, II (max r15 r20))]) dX5_bestLaw_66 rfl (by decide) rfl ?_
      refine V_iload 8 rfl dX5_bestLaw_68 rfl ?_
      refine V_iload 4 rfl dX5_bestLaw_70 rfl ?_
      obtain ⟨q28, h⟩ := h
      refine V_icmp_ge (mmax_in q26 q27) q28 dX5_bestLaw_72 (g := 82) rfl rfl ⟨fun hc => ?_, fun hc => ?_⟩
      · have h := h.1 hc
        refine V_iinc 5 rfl (ls2 := [(0, RR 0), (1, II v1), (2, II v2), (3, II v3), (4, II v4), (5, II (v5 + 1)), (6, II r15), (7, II r20), (8, II (max r15 r20))]) dX5_bestLaw_82 rfl (by decide) rfl ?_
        refine V_goto (g := 21) dX5_bestLaw_85 rfl ?_
        exact V_sub (by intro q hq; simp only [List.mem_cons, List.not_mem_nil, or_false] at hq ⊢; first | (rcases hq with rfl | rfl | rfl | rfl | rfl | rfl <;> simp)) h
      · have h := h.2 hc
        refine V_iload 5 rfl dX5_bestLaw_75 rfl ?_
        refine V_istore_n (ls2 := [(0, RR 0), (1, II v1), (2, II v2), (3, II v5), (4, II v4), (5, II v5), (6, II r15), (7, II r20), (8, II (max r15 r20))]) dX5_bestLaw_77 rfl (by decide) rfl ?_
        refine V_iload 8 rfl dX5_bestLaw_78 rfl ?_
        refine V_istore (ls2 := [(0, RR 0), (1, II v1), (2, II v2), (3, II v5), (4, II (max r15 r20)), (5, II v5), (6, II r15), (7, II r20), (8, II (max r15 r20))]) dX5_bestLaw_80 rfl (by decide) rfl ?_
        refine V_iinc 5 rfl (ls2 := [(0, RR 0), (1, II v1), (2, II v2), (3, II v5), (4, II (max r15 r20)), (5, II (v5 + 1)), (6, II r15), (7, II r20), (8, II (max r15 r20))]) dX5_bestLaw_82 rfl (by decide) rfl ?_
        refine V_goto (g := 21) dX5_bestLaw_85 rfl ?_
        exact V_sub (by intro q hq; simp only [List.mem_cons, List.not_mem_nil, or_false] at hq ⊢; first | (rcases hq with rfl | rfl | rfl | rfl | rfl | rfl <;> simp)) h
theorem eX5_buckets {G : GG} {Q : Int → Mem → Prop} {t : Mem} {v1 v2 v3 v4 : Int} (k : V G mX5_buckets 0 [(0, RR 0), (1, II v1), (2, II v2), (3, II v3), (4, II v4)] [] t Q) : Ex G mX5_buckets [RR 0, II v1, II v2, II v3, II v4] t Q := Ex.of plX5 (Or.inr (Or.inl rfl)) (Nat.le_of_ble_eq_true rfl) rfl k
set_option maxRecDepth 100000 in
theorem sgX5_buckets_0 {G : GG} {Q : Int → Mem → Prop} {t : Mem} {v1 v2 v3 v4 : Int}  (h : ∃ P1 : Int → Mem → Prop, Ex G mX5_noSheet [II v1] t P1 ∧ ∀ (r3 : Int) (u4 : Mem), P1 r3 u4 → In32 r3 ∧ (¬ r3 = 0 → Q (-1) u4) ∧ (r3 = 0 → ∃ P7 : Int → Mem → Prop, Ex G mX5_outside [II v2, II 0, II 3] u4 P7 ∧ ∀ (r9 : Int) (u10 : Mem), P7 r9 u10 → In32 r9 ∧ (¬ r9 = 0 → Q (-1) u10) ∧ (r9 = 0 → ∃ P13 : Int → Mem → Prop, Ex G mX5_outside [II v4, II 1, II 8] u10 P13 ∧ ∀ (r15 : Int) (u16 : Mem), P13 r15 u16 → In32 r15 ∧ (r15 = 0 → (0 ≤ v1 ∧ v1 < 4) ∧ ∃ P20 : Int → Mem → Prop, Ex G mX3_refusal [RR (124 + 2 * v1.toNat), II v2, II v3, II (2 * v4)] u16 P20 ∧ ∀ (r22 : Int) (u23 : Mem), P20 r22 u23 → In32 r22 ∧ (r22 = 0 → ∃ P26 : Int → Mem → Prop, Ex G mX5_readSeen [RR 0, RR (124 + 2 * v1.toNat), II v3, II v4] u23 P26 ∧ ∀ (r28 : Int) (u29 : Mem), P26 r28 u29 → In32 r28 ∧ (¬ r28 = 0 → V G mX5_buckets 79 [(0, RR 0), (1, II v1), (2, II v2), (3, II v3), (4, II v4), (5, II r22), (6, II 0), (7, II 1)] [] u29 Q) ∧ (r28 = 0 → Q (-2) u29)) ∧ (¬ r22 = 0 → Q r22 u23)) ∧ (¬ r15 = 0 → Q (-1) u16)))) : V G mX5_buckets 0 [(0, RR 0), (1, II v1), (2, II v2), (3, II v3), (4, II v4)] [] t Q := by
  refine V_iload_n 1 rfl dX5_buckets_0 rfl ?_
  obtain ⟨P1, c2, h⟩ := h
  refine V_callSi (st := []) (as := [II v1]) okX5_noSheet rfl mlX5_273 (by decide) rfl (Nat.le_of_ble_eq_true rfl) rfl dX5_buckets_1 rfl c2 (fun r3 u4 e5 => ?_)
  have h := h r3 u4 e5
  obtain ⟨q6, h⟩ := h
  refine V_if_ne q6 dX5_buckets_4 (g := 27) rfl rfl ⟨fun hc => ?_, fun hc => ?_⟩
  · have h := h.1 hc
    refine V_iconst dX5_buckets_27 rfl ?_
    exact V_iret dX5_buckets_28 (Or.inl rfl) h
  · have h := h.2 hc
    refine V_iload_n 2 rfl dX5_buckets_7 rfl ?_
    refine V_iconst dX5_buckets_8 rfl ?_
    refine V_iconst dX5_buckets_9 rfl ?_
    obtain ⟨P7, c8, h⟩ := h
    refine V_callSi (st := []) (as := [II v2, II 0, II 3]) okX5_outside rfl mlX5_69 (by decide) rfl (Nat.le_of_ble_eq_true rfl) rfl dX5_buckets_10 rfl c8 (fun r9 u10 e11 => ?_)
    have h := h r9 u10 e11
    obtain ⟨q12, h⟩ := h
    refine V_if_ne q12 dX5_buckets_13 (g := 27) rfl rfl ⟨fun hc => ?_, fun hc => ?_⟩
    · have h := h.1 hc
      refine V_iconst dX5_buckets_27 rfl ?_
      exact V_iret dX5_buckets_28 (Or.inl rfl) h
    · have h := h.2 hc
      refine V_iload 4 rfl dX5_buckets_16 rfl ?_
      refine V_iconst dX5_buckets_18 rfl ?_
      refine V_bipush (by decide) dX5_buckets_19 rfl ?_
      obtain ⟨P13, c14, h⟩ := h
      refine V_callSi (st := []) (as := [II v4, II 1, II 8]) okX5_outside rfl mlX5_69 (by decide) rfl (Nat.le_of_ble_eq_true rfl) rfl dX5_buckets_21 rfl c14 (fun r15 u16 e17 => ?_)
      have h := h r15 u16 e17
      obtain ⟨q18, h⟩ := h
      refine V_if_eq q18 dX5_buckets_24 (g := 29) rfl rfl ⟨fun hc => ?_, fun hc => ?_⟩
      · have h := h.1 hc
        refine V_aload_n 0 rfl dX5_buckets_29 rfl ?_
        refine gX5_64 rfl kY0 rF0_13 dX5_buckets_30 rfl ?_
        refine V_iload_n 1 rfl dX5_buckets_33 rfl ?_
        obtain ⟨q19, h⟩ := h
        refine V_aaldn (Or.inr kY123) lI123 q19 (sheet_at (tn q19)).1 dX5_buckets_34 rfl ?_
        refine V_iload_n 2 rfl dX5_buckets_35 rfl ?_
        refine V_iload_n 3 rfl dX5_buckets_36 rfl ?_
        refine V_iconst dX5_buckets_37 rfl ?_
        refine V_iload 4 rfl dX5_buckets_38 rfl ?_
        refine V_imul dX5_buckets_40 rfl ?_
        obtain ⟨P20, c21, h⟩ := h
        refine V_callVi (st := []) (as := [II v2, II v3, II (2 * v4)]) okX3_refusal rfl mlX5_276 (by decide) ((sheet_at (tn q19)).2).k rfl (Nat.le_of_ble_eq_true rfl) rfl dX5_buckets_41 rfl c21 (fun r22 u23 e24 => ?_)
        have h := h r22 u23 e24
        refine V_istore (ls2 := [(0, RR 0), (1, II v1), (2, II v2), (3, II v3), (4, II v4), (5, II r22)]) dX5_buckets_44 rfl (by decide) rfl ?_
        refine V_iload 5 rfl dX5_buckets_46 rfl ?_
        obtain ⟨q25, h⟩ := h
        refine V_if_eq q25 dX5_buckets_48 (g := 54) rfl rfl ⟨fun hc => ?_, fun hc => ?_⟩
        · have h := h.1 hc
          refine V_aload_n 0 rfl dX5_buckets_54 rfl ?_
          refine V_aload_n 0 rfl dX5_buckets_55 rfl ?_
          refine gX5_64 rfl kY0 rF0_13 dX5_buckets_56 rfl ?_
          refine V_iload_n 1 rfl dX5_buckets_59 rfl ?_
          refine V_aaldn (Or.inr kY123) lI123 q19 (sheet_at (tn q19)).1 dX5_buckets_60 rfl ?_
          refine V_iload_n 3 rfl dX5_buckets_61 rfl ?_
          refine V_iload 4 rfl dX5_buckets_62 rfl ?_
          obtain ⟨P26, c27, h⟩ := h
          refine V_callVi (st := []) (as := [RR (124 + 2 * v1.toNat), II v3, II v4]) okX5_readSeen rfl mlX5_279 (by decide) kY0 rfl (Nat.le_of_ble_eq_true rfl) rfl dX5_buckets_64 rfl c27 (fun r28 u29 e30 => ?_)
          have h := h r28 u29 e30
          obtain ⟨q31, h⟩ := h
          refine V_if_ne q31 dX5_buckets_67 (g := 73) rfl rfl ⟨fun hc => ?_, fun hc => ?_⟩
          · have h := h.1 hc
            refine V_iconst dX5_buckets_73 rfl ?_
            refine V_istore (ls2 := [(0, RR 0), (1, II v1), (2, II v2), (3, II v3), (4, II v4), (5, II r22), (6, II 0)]) dX5_buckets_74 rfl (by decide) rfl ?_
            refine V_iconst dX5_buckets_76 rfl ?_
            refine V_istore (ls2 := [(0, RR 0), (1, II v1), (2, II v2), (3, II v3), (4, II v4), (5, II r22), (6, II 0), (7, II 1)]) dX5_buckets_77 rfl (by decide) rfl ?_
            exact h
          · have h := h.2 hc
            refine V_bipush (by decide) dX5_buckets_70 rfl ?_
            exact V_iret dX5_buckets_72 (Or.inl rfl) h
        · have h := h.2 hc
          refine V_iload 5 rfl dX5_buckets_51 rfl ?_
          exact V_iret dX5_buckets_53 (Or.inl rfl) h
      · have h := h.2 hc
        refine V_iconst dX5_buckets_27 rfl ?_
        exact V_iret dX5_buckets_28 (Or.inl rfl) h
set_option maxRecDepth 100000 in
theorem sgX5_buckets_79 {G : GG} {Q : Int → Mem → Prop} {t : Mem} {v1 v2 v3 v4 v5 v6 v7 : Int}  (h : In32 v7 ∧ (9 < v7 → Q v6 t) ∧ (¬ 9 < v7 → ∃ P2 : Int → Mem → Prop, Ex G mX5_wouldBeSeen [RR 0, II v7, II v4] t P2 ∧ ∀ (r4 : Int) (u5 : Mem), P2 r4 u5 → In32 r4 ∧ (r4 = 0 → V G mX5_buckets 79 [(0, RR 0), (1, II v1), (2, II v2), (3, II v3), (4, II v4), (5, II v5), (6, II v6), (7, II (v7 + 1))] [] u5 Q) ∧ (¬ r4 = 0 → V G mX5_buckets 79 [(0, RR 0), (1, II v1), (2, II v2), (3, II v3), (4, II v4), (5, II v5), (6, II (iOr v6 (iShl 1 v7))), (7, II (v7 + 1))] [] u5 Q))) : V G mX5_buckets 79 [(0, RR 0), (1, II v1), (2, II v2), (3, II v3), (4, II v4), (5, II v5), (6, II v6), (7, II v7)] [] t Q := by
  refine V_iload 7 rfl dX5_buckets_79 rfl ?_
  refine V_bipush (by decide) dX5_buckets_81 rfl ?_
  obtain ⟨q1, h⟩ := h
  refine V_icmp_gt q1 (iL rfl) dX5_buckets_83 (g := 112) rfl rfl ⟨fun hc => ?_, fun hc => ?_⟩
  · have h := h.1 hc
    refine V_iload 6 rfl dX5_buckets_112 rfl ?_
    exact V_iret dX5_buckets_114 (Or.inl rfl) h
  · have h := h.2 hc
    refine V_aload_n 0 rfl dX5_buckets_86 rfl ?_
    refine V_iload 7 rfl dX5_buckets_87 rfl ?_
    refine V_iload 4 rfl dX5_buckets_89 rfl ?_
    obtain ⟨P2, c3, h⟩ := h
    refine V_callVi (st := []) (as := [II v7, II v4]) okX5_wouldBeSeen rfl mlX5_283 (by decide) kY0 rfl (Nat.le_of_ble_eq_true rfl) rfl dX5_buckets_91 rfl c3 (fun r4 u5 e6 => ?_)
    have h := h r4 u5 e6
    obtain ⟨q7, h⟩ := h
    refine V_if_eq q7 dX5_buckets_94 (g := 106) rfl rfl ⟨fun hc => ?_, fun hc => ?_⟩
    · have h := h.1 hc
      refine V_iinc 7 rfl (ls2 := [(0, RR 0), (1, II v1), (2, II v2), (3, II v3), (4, II v4), (5, II v5), (6, II v6), (7, II (v7 + 1))]) dX5_buckets_106 rfl (by decide) rfl ?_
      refine V_goto (g := 79) dX5_buckets_109 rfl ?_
      exact h
    · have h := h.2 hc
      refine V_iload 6 rfl dX5_buckets_97 rfl ?_
      refine V_iconst dX5_buckets_99 rfl ?_
      refine V_iload 7 rfl dX5_buckets_100 rfl ?_
      refine V_ishl dX5_buckets_102 rfl ?_
      refine V_ior dX5_buckets_103 rfl ?_
      refine V_istore (ls2 := [(0, RR 0), (1, II v1), (2, II v2), (3, II v3), (4, II v4), (5, II v5), (6, II (iOr v6 (iShl 1 v7))), (7, II v7)]) dX5_buckets_104 rfl (by decide) rfl ?_
      refine V_iinc 7 rfl (ls2 := [(0, RR 0), (1, II v1), (2, II v2), (3, II v3), (4, II v4), (5, II v5), (6, II (iOr v6 (iShl 1 v7))), (7, II (v7 + 1))]) dX5_buckets_106 rfl (by decide) rfl ?_
      refine V_goto (g := 79) dX5_buckets_109 rfl ?_
      exact h
theorem eX5_readSeen {G : GG} {Q : Int → Mem → Prop} {t : Mem} {a1 : Nat} {v2 v3 : Int} (k : V G mX5_readSeen 0 [(0, RR 0), (1, RR a1), (2, II v2), (3, II v3)] [] t Q) : Ex G mX5_readSeen [RR 0, RR a1, II v2, II v3] t Q := Ex.of plX5 (Or.inr (Or.inr rfl)) (Nat.le_of_ble_eq_true rfl) rfl k
set_option maxRecDepth 100000 in
theorem sgX5_readSeen_0 {G : GG} {Q : Int → Mem → Prop} {t : Mem} {a1 : Nat} {v2 v3 : Int} (ha1 : IsSheet a1) (h : V G mX5_readSeen 3 [(0, RR 0), (1, RR a1), (2, II v2), (3, II v3), (4, II 0)] [] t Q) : V G mX5_readSeen 0 [(0, RR 0), (1, RR a1), (2, II v2), (3, II v3)] [] t Q := by
  refine V_iconst dX5_readSeen_0 rfl ?_
  refine V_istore (ls2 := [(0, RR 0), (1, RR a1), (2, II v2), (3, II v3), (4, II 0)]) dX5_readSeen_1 rfl (by decide) rfl ?_
  exact h
set_option maxRecDepth 100000 in
theorem sgX5_readSeen_3 {G : GG} {Q : Int → Mem → Prop} {t : Mem} {a1 : Nat} {v2 v3 v4 : Int} (ha1 : IsSheet a1) (h : In32 v4 ∧ In32 v3 ∧ (v3 ≤ v4 → Q 1 t) ∧ (¬ v3 ≤ v4 → (0 ≤ v2 + (2 * v4) ∧ v2 + (2 * v4) < 24) ∧ (0 ≤ (v2 + (2 * v4)) + 1 ∧ (v2 + (2 * v4)) + 1 < 24) ∧ In64 (t (a1 + 1) (v2 + (2 * v4)).toNat) ∧ ((lCmp (t (a1 + 1) (v2 + (2 * v4)).toNat) 0) < 0 → Q 0 t) ∧ (¬ (lCmp (t (a1 + 1) (v2 + (2 * v4)).toNat) 0) < 0 → (0 < (lCmp (t (a1 + 1) (v2 + (2 * v4)).toNat) 240) → Q 0 t) ∧ (¬ 0 < (lCmp (t (a1 + 1) (v2 + (2 * v4)).toNat) 240) → In64 (t (a1 + 1) ((v2 + (2 * v4)) + 1).toNat) ∧ ((lCmp (t (a1 + 1) ((v2 + (2 * v4)) + 1).toNat) 0) < 0 → Q 0 t) ∧ (¬ (lCmp (t (a1 + 1) ((v2 + (2 * v4)) + 1).toNat) 0) < 0 → ((lCmp (t (a1 + 1) ((v2 + (2 * v4)) + 1).toNat) 60) ≤ 0 → (0 ≤ v4 ∧ v4 < 8) ∧ ∀ u7 : Mem, u7 = wr t 119 v4.toNat (t (a1 + 1) (v2 + (2 * v4)).toNat) → ∀ u10 : Mem, u10 = wr u7 120 v4.toNat (t (a1 + 1) ((v2 + (2 * v4)) + 1).toNat) → V G mX5_readSeen 3 [(0, RR 0), (1, RR a1), (2, II v2), (3, II v3), (4, II (v4 + 1))] [] u10 Q) ∧ (¬ (lCmp (t (a1 + 1) ((v2 + (2 * v4)) + 1).toNat) 60) ≤ 0 → Q 0 t)))))) : V G mX5_readSeen 3 [(0, RR 0), (1, RR a1), (2, II v2), (3, II v3), (4, II v4)] [] t Q := by
  refine V_iload 4 rfl dX5_readSeen_3 rfl ?_
  refine V_iload_n 3 rfl dX5_readSeen_5 rfl ?_
  obtain ⟨q1, h⟩ := h
  obtain ⟨q2, h⟩ := h
  refine V_icmp_ge q1 q2 dX5_readSeen_6 (g := 97) rfl rfl ⟨fun hc => ?_, fun hc => ?_⟩
  · have h := h.1 hc
    refine V_iconst dX5_readSeen_97 rfl ?_
    exact V_iret dX5_readSeen_98 (Or.inr ⟨rfl, by decide⟩) h
  · have h := h.2 hc
    refine V_aload_n 1 rfl dX5_readSeen_9 rfl ?_
    refine gX5_287 rfl ha1.k ha1.r2 dX5_readSeen_10 rfl ?_
    refine V_iload_n 2 rfl dX5_readSeen_13 rfl ?_
    refine V_iconst dX5_readSeen_14 rfl ?_
    refine V_iload 4 rfl dX5_readSeen_15 rfl ?_
    refine V_imul dX5_readSeen_17 rfl ?_
    refine V_iadd dX5_readSeen_18 rfl ?_
    obtain ⟨q3, h⟩ := h
    refine V_laldn ha1.k1 ha1.i1 q3 dX5_readSeen_19 rfl ?_
    refine V_lstore (ls2 := [(0, RR 0), (1, RR a1), (2, II v2), (3, II v3), (4, II v4), (5, JJ (t (a1 + 1) (v2 + (2 * v4)).toNat))]) dX5_readSeen_20 rfl (by decide) rfl ?_
    refine V_aload_n 1 rfl dX5_readSeen_22 rfl ?_
    refine gX5_287 rfl ha1.k ha1.r2 dX5_readSeen_23 rfl ?_
    refine V_iload_n 2 rfl dX5_readSeen_26 rfl ?_
    refine V_iconst dX5_readSeen_27 rfl ?_
    refine V_iload 4 rfl dX5_readSeen_28 rfl ?_
    refine V_imul dX5_readSeen_30 rfl ?_
    refine V_iadd dX5_readSeen_31 rfl ?_
    refine V_iconst dX5_readSeen_32 rfl ?_
    refine V_iadd dX5_readSeen_33 rfl ?_
    obtain ⟨q4, h⟩ := h
    refine V_laldn ha1.k1 ha1.i1 q4 dX5_readSeen_34 rfl ?_
    refine V_lstore (ls2 := [(0, RR 0), (1, RR a1), (2, II v2), (3, II v3), (4, II v4), (5, JJ (t (a1 + 1) (v2 + (2 * v4)).toNat)), (7, JJ (t (a1 + 1) ((v2 + (2 * v4)) + 1).toNat))]) dX5_readSeen_35 rfl (by decide) rfl ?_
    refine V_lload 5 rfl dX5_readSeen_37 rfl ?_
    refine V_lconst (z := 0) rfl dX5_readSeen_39 rfl ?_
    obtain ⟨q5, h⟩ := h
    refine V_lcmp q5 (jL rfl) dX5_readSeen_40 rfl ?_
    refine V_if_lt (lCmp_in _ _) dX5_readSeen_41 (g := 69) rfl rfl ⟨fun hc => ?_, fun hc => ?_⟩
    · have h := h.1 hc
      refine V_iconst dX5_readSeen_69 rfl ?_
      exact V_iret dX5_readSeen_70 (Or.inr ⟨rfl, by decide⟩) h
    · have h := h.2 hc
      refine V_lload 5 rfl dX5_readSeen_44 rfl ?_
      refine V_ldc2 (x := 240) ctX5_291 rfl dX5_readSeen_46 rfl ?_
      refine V_lcmp q5 (jL rfl) dX5_readSeen_49 rfl ?_
      refine V_if_gt (lCmp_in _ _) dX5_readSeen_50 (g := 69) rfl rfl ⟨fun hc => ?_, fun hc => ?_⟩
      · have h := h.1 hc
        refine V_iconst dX5_readSeen_69 rfl ?_
        exact V_iret dX5_readSeen_70 (Or.inr ⟨rfl, by decide⟩) h
      · have h := h.2 hc
        refine V_lload 6 rfl dX5_readSeen_53 rfl ?_
        refine V_lconst (z := 0) rfl dX5_readSeen_55 rfl ?_
        obtain ⟨q6, h⟩ := h
        refine V_lcmp q6 (jL rfl) dX5_readSeen_56 rfl ?_
        refine V_if_lt (lCmp_in _ _) dX5_readSeen_57 (g := 69) rfl rfl ⟨fun hc => ?_, fun hc => ?_⟩
        · have h := h.1 hc
          refine V_iconst dX5_readSeen_69 rfl ?_
          exact V_iret dX5_readSeen_70 (Or.inr ⟨rfl, by decide⟩) h
        · have h := h.2 hc
          refine V_lload 6 rfl dX5_readSeen_60 rfl ?_
          refine V_ldc2 (x := 60) ctX5_293 rfl dX5_readSeen_62 rfl ?_
          refine V_lcmp q6 (jL rfl) dX5_readSeen_65 rfl ?_
          refine V_if_le (lCmp_in _ _) dX5_readSeen_66 (g := 71) rfl rfl ⟨fun hc => ?_, fun hc => ?_⟩
          · have h := h.1 hc
            refine V_aload_n 0 rfl dX5_readSeen_71 rfl ?_
            refine gX5_49 rfl kY0 rF0_10 dX5_readSeen_72 rfl ?_
            refine V_iload 4 rfl dX5_readSeen_75 rfl ?_
            refine V_lload 5 rfl dX5_readSeen_77 rfl ?_
            refine V_l2i dX5_readSeen_79 rfl ?_
            obtain ⟨q9, h⟩ := h
            refine V_iastn kY119 lI119 q9 dX5_readSeen_80 rfl (fun u7 e8 => ?_)
            have h := h u7 e8
            refine V_aload_n 0 rfl dX5_readSeen_81 rfl ?_
            refine gX5_52 rfl kY0 rF0_11 dX5_readSeen_82 rfl ?_
            refine V_iload 4 rfl dX5_readSeen_85 rfl ?_
            refine V_lload 6 rfl dX5_readSeen_87 rfl ?_
            refine V_l2i dX5_readSeen_89 rfl ?_
            refine V_iastn kY120 lI120 q9 dX5_readSeen_90 rfl (fun u10 e11 => ?_)
            have h := h u10 e11
            refine V_iinc 4 rfl (ls2 := [(0, RR 0), (1, RR a1), (2, II v2), (3, II v3), (4, II (v4 + 1)), (5, JJ (t (a1 + 1) (v2 + (2 * v4)).toNat)), (7, JJ (t (a1 + 1) ((v2 + (2 * v4)) + 1).toNat))]) dX5_readSeen_91 rfl (by decide) rfl ?_
            refine V_goto (g := 3) dX5_readSeen_94 rfl ?_
            exact V_sub (by intro q hq; simp only [List.mem_cons, List.not_mem_nil, or_false] at hq ⊢; first | (rcases hq with rfl | rfl | rfl | rfl | rfl <;> simp)) h
          · have h := h.2 hc
            refine V_iconst dX5_readSeen_69 rfl ?_
            exact V_iret dX5_readSeen_70 (Or.inr ⟨rfl, by decide⟩) h
theorem eX5_wouldBeSeen {G : GG} {Q : Int → Mem → Prop} {t : Mem} {v1 v2 : Int} (k : V G mX5_wouldBeSeen 0 [(0, RR 0), (1, II v1), (2, II v2)] [] t Q) : Ex G mX5_wouldBeSeen [RR 0, II v1, II v2] t Q := Ex.of plX5 (Or.inr (Or.inr rfl)) (Nat.le_of_ble_eq_true rfl) rfl k
set_option maxRecDepth 100000 in
theorem sgX5_wouldBeSeen_0 {G : GG} {Q : Int → Mem → Prop} {t : Mem} {v1 v2 : Int}  (h : ∃ P1 : Int → Mem → Prop, Ex G mX5_foretell [RR 0] t P1 ∧ ∀ u4 : Mem, P1 0 u4 → ∀ u6 : Mem, u6 = wr u4 107 2 v1 → V G mX5_wouldBeSeen 17 [(0, RR 0), (1, II v1), (2, II v2), (3, II 0), (4, II 0)] [] u6 Q) : V G mX5_wouldBeSeen 0 [(0, RR 0), (1, II v1), (2, II v2)] [] t Q := by
  refine V_aload_n 0 rfl dX5_wouldBeSeen_0 rfl ?_
  obtain ⟨P1, c2, h⟩ := h
  refine V_callVv (st := []) (as := []) okX5_foretell rfl mlX5_219 (by decide) kY0 rfl (Nat.le_of_ble_eq_true rfl) rfl dX5_wouldBeSeen_1 rfl c2 (fun u4 e5 => ?_)
  have h := h u4 e5
  refine V_aload_n 0 rfl dX5_wouldBeSeen_4 rfl ?_
  refine gX5_39 rfl kY0 rF0_7 dX5_wouldBeSeen_5 rfl ?_
  refine V_iload_n 1 rfl dX5_wouldBeSeen_8 rfl ?_
  refine pX5_136 rfl kY107 dX5_wouldBeSeen_9 rfl (fun u6 e7 => ?_)
  have h := h u6 e7
  refine V_iconst dX5_wouldBeSeen_12 rfl ?_
  refine V_istore_n (ls2 := [(0, RR 0), (1, II v1), (2, II v2), (3, II 0)]) dX5_wouldBeSeen_13 rfl (by decide) rfl ?_
  refine V_iconst dX5_wouldBeSeen_14 rfl ?_
  refine V_istore (ls2 := [(0, RR 0), (1, II v1), (2, II v2), (3, II 0), (4, II 0)]) dX5_wouldBeSeen_15 rfl (by decide) rfl ?_
  exact h
set_option maxRecDepth 100000 in
theorem sgX5_wouldBeSeen_17 {G : GG} {Q : Int → Mem → Prop} {t : Mem} {v1 v2 v3 v4 : Int}  (h : In32 v4 ∧ In32 v2 ∧ (v2 ≤ v4 → V G mX5_wouldBeSeen 44 [(0, RR 0), (1, II v1), (2, II v2), (3, II v3), (4, II 0)] [] t Q) ∧ (¬ v2 ≤ v4 → (0 ≤ v4 ∧ v4 < 8) ∧ In32 v3 ∧ In32 (t 119 v4.toNat) ∧ V G mX5_wouldBeSeen 17 [(0, RR 0), (1, II v1), (2, II v2), (3, II (max v3 (t 119 v4.toNat))), (4, II (v4 + 1))] [] t Q)) : V G mX5_wouldBeSeen 17 [(0, RR 0), (1, II v1), (2, II v2), (3, II v3), (4, II v4)] [] t Q := by
  refine V_iload 4 rfl dX5_wouldBeSeen_17 rfl ?_
  refine V_iload_n 2 rfl dX5_wouldBeSeen_19 rfl ?_
  obtain ⟨q1, h⟩ := h
  obtain ⟨q2, h⟩ := h
  refine V_icmp_ge q1 q2 dX5_wouldBeSeen_20 (g := 41) rfl rfl ⟨fun hc => ?_, fun hc => ?_⟩
  · have h := h.1 hc
    refine V_iconst dX5_wouldBeSeen_41 rfl ?_
    refine V_istore (ls2 := [(0, RR 0), (1, II v1), (2, II v2), (3, II v3), (4, II 0)]) dX5_wouldBeSeen_42 rfl (by decide) rfl ?_
    exact h
  · have h := h.2 hc
    refine V_iload_n 3 rfl dX5_wouldBeSeen_23 rfl ?_
    refine V_aload_n 0 rfl dX5_wouldBeSeen_24 rfl ?_
    refine gX5_49 rfl kY0 rF0_10 dX5_wouldBeSeen_25 rfl ?_
    refine V_iload 4 rfl dX5_wouldBeSeen_28 rfl ?_
    obtain ⟨q3, h⟩ := h
    refine V_ialdn kY119 lI119 q3 dX5_wouldBeSeen_30 rfl ?_
    obtain ⟨q4, h⟩ := h
    obtain ⟨q5, h⟩ := h
    refine V_max mlX5_270 (by decide) (Nat.le_of_ble_eq_true rfl) q4 q5 dX5_wouldBeSeen_31 rfl ?_
    refine V_istore_n (ls2 := [(0, RR 0), (1, II v1), (2, II v2), (3, II (max v3 (t 119 v4.toNat))), (4, II v4)]) dX5_wouldBeSeen_34 rfl (by decide) rfl ?_
    refine V_iinc 4 rfl (ls2 := [(0, RR 0), (1, II v1), (2, II v2), (3, II (max v3 (t 119 v4.toNat))), (4, II (v4 + 1))]) dX5_wouldBeSeen_35 rfl (by decide) rfl ?_
    refine V_goto (g := 17) dX5_wouldBeSeen_38 rfl ?_
    exact h
set_option maxRecDepth 100000 in
theorem sgX5_wouldBeSeen_44 {G : GG} {Q : Int → Mem → Prop} {t : Mem} {v1 v2 v3 v4 : Int}  (h : In32 v4 ∧ In32 v3 ∧ (v3 < v4 → Q 1 t) ∧ (¬ v3 < v4 → V G mX5_wouldBeSeen 53 [(0, RR 0), (1, II v1), (2, II v2), (3, II v3), (4, II v4), (5, II 0)] [] t Q)) : V G mX5_wouldBeSeen 44 [(0, RR 0), (1, II v1), (2, II v2), (3, II v3), (4, II v4)] [] t Q := by
  refine V_iload 4 rfl dX5_wouldBeSeen_44 rfl ?_
  refine V_iload_n 3 rfl dX5_wouldBeSeen_46 rfl ?_
  obtain ⟨q1, h⟩ := h
  obtain ⟨q2, h⟩ := h
  refine V_icmp_gt q1 q2 dX5_wouldBeSeen_47 (g := 116) rfl rfl ⟨fun hc => ?_, fun hc => ?_⟩
  · have h := h.1 hc
    refine V_iconst dX5_wouldBeSeen_116 rfl ?_
    exact V_iret dX5_wouldBeSeen_117 (Or.inr ⟨rfl, by decide⟩) h
  · have h := h.2 hc
    refine V_iconst dX5_wouldBeSeen_50 rfl ?_
    refine V_istore (ls2 := [(0, RR 0), (1, II v1), (2, II v2), (3, II v3), (4, II v4), (5, II 0)]) dX5_wouldBeSeen_51 rfl (by decide) rfl ?_
    exact h
set_option maxRecDepth 100000 in
theorem sgX5_wouldBeSeen_53 {G : GG} {Q : Int → Mem → Prop} {t : Mem} {v1 v2 v3 v4 v5 : Int}  (h : In32 v5 ∧ In32 v2 ∧ (v2 ≤ v5 → ∃ P3 : Int → Mem → Prop, Ex G mX1_step [RR 113, RR 107, II 127] t P3 ∧ ∀ (r5 : Int) (u6 : Mem), P3 r5 u6 → V G mX5_wouldBeSeen 44 [(0, RR 0), (1, II v1), (2, II v2), (3, II v3), (4, II (v4 + 1))] [] u6 Q) ∧ (¬ v2 ≤ v5 → (0 ≤ v5 ∧ v5 < 8) ∧ In32 (t 119 v5.toNat) ∧ In32 v4 ∧ (¬ (t 119 v5.toNat) = v4 → V G mX5_wouldBeSeen 53 [(0, RR 0), (1, II v1), (2, II v2), (3, II v3), (4, II v4), (5, II (v5 + 1))] [] t Q) ∧ ((t 119 v5.toNat) = v4 → In32 (t 120 v5.toNat) ∧ In32 (t 113 0) ∧ ((t 120 v5.toNat) = (t 113 0) → V G mX5_wouldBeSeen 53 [(0, RR 0), (1, II v1), (2, II v2), (3, II v3), (4, II v4), (5, II (v5 + 1))] [] t Q) ∧ (¬ (t 120 v5.toNat) = (t 113 0) → Q 0 t)))) : V G mX5_wouldBeSeen 53 [(0, RR 0), (1, II v1), (2, II v2), (3, II v3), (4, II v4), (5, II v5)] [] t Q := by
  refine V_iload 5 rfl dX5_wouldBeSeen_53 rfl ?_
  refine V_iload_n 2 rfl dX5_wouldBeSeen_55 rfl ?_
  obtain ⟨q1, h⟩ := h
  obtain ⟨q2, h⟩ := h
  refine V_icmp_ge q1 q2 dX5_wouldBeSeen_56 (g := 96) rfl rfl ⟨fun hc => ?_, fun hc => ?_⟩
  · have h := h.1 hc
    refine V_aload_n 0 rfl dX5_wouldBeSeen_96 rfl ?_
    refine gX5_42 rfl kY0 rF0_8 dX5_wouldBeSeen_97 rfl ?_
    refine V_aload_n 0 rfl dX5_wouldBeSeen_100 rfl ?_
    refine gX5_39 rfl kY0 rF0_7 dX5_wouldBeSeen_101 rfl ?_
    refine V_bipush (by decide) dX5_wouldBeSeen_104 rfl ?_
    obtain ⟨P3, c4, h⟩ := h
    refine V_callVi (st := []) (as := [RR 107, II 127]) okX1_step rfl mlX5_205 (by decide) kY113 rfl (Nat.le_of_ble_eq_true rfl) rfl dX5_wouldBeSeen_106 rfl c4 (fun r5 u6 e7 => ?_)
    have h := h r5 u6 e7
    refine V_pop rfl dX5_wouldBeSeen_109 rfl ?_
    refine V_iinc 4 rfl (ls2 := [(0, RR 0), (1, II v1), (2, II v2), (3, II v3), (4, II (v4 + 1)), (5, II v5)]) dX5_wouldBeSeen_110 rfl (by decide) rfl ?_
    refine V_goto (g := 44) dX5_wouldBeSeen_113 rfl ?_
    exact V_sub (by intro q hq; simp only [List.mem_cons, List.not_mem_nil, or_false] at hq ⊢; first | (rcases hq with rfl | rfl | rfl | rfl | rfl <;> simp)) h
  · have h := h.2 hc
    refine V_aload_n 0 rfl dX5_wouldBeSeen_59 rfl ?_
    refine gX5_49 rfl kY0 rF0_10 dX5_wouldBeSeen_60 rfl ?_
    refine V_iload 5 rfl dX5_wouldBeSeen_63 rfl ?_
    obtain ⟨q8, h⟩ := h
    refine V_ialdn kY119 lI119 q8 dX5_wouldBeSeen_65 rfl ?_
    refine V_iload 4 rfl dX5_wouldBeSeen_66 rfl ?_
    obtain ⟨q9, h⟩ := h
    obtain ⟨q10, h⟩ := h
    refine V_icmp_ne q9 q10 dX5_wouldBeSeen_68 (g := 90) rfl rfl ⟨fun hc => ?_, fun hc => ?_⟩
    · have h := h.1 hc
      refine V_iinc 5 rfl (ls2 := [(0, RR 0), (1, II v1), (2, II v2), (3, II v3), (4, II v4), (5, II (v5 + 1))]) dX5_wouldBeSeen_90 rfl (by decide) rfl ?_
      refine V_goto (g := 53) dX5_wouldBeSeen_93 rfl ?_
      exact h
    · have h := h.2 hc
      refine V_aload_n 0 rfl dX5_wouldBeSeen_71 rfl ?_
      refine gX5_52 rfl kY0 rF0_11 dX5_wouldBeSeen_72 rfl ?_
      refine V_iload 5 rfl dX5_wouldBeSeen_75 rfl ?_
      refine V_ialdn kY120 lI120 q8 dX5_wouldBeSeen_77 rfl ?_
      refine V_aload_n 0 rfl dX5_wouldBeSeen_78 rfl ?_
      refine gX5_42 rfl kY0 rF0_8 dX5_wouldBeSeen_79 rfl ?_
      refine gX5_127 rfl kY113 dX5_wouldBeSeen_82 rfl ?_
      obtain ⟨q11, h⟩ := h
      obtain ⟨q12, h⟩ := h
      refine V_icmp_eq q11 q12 dX5_wouldBeSeen_85 (g := 90) rfl rfl ⟨fun hc => ?_, fun hc => ?_⟩
      · have h := h.1 hc
        refine V_iinc 5 rfl (ls2 := [(0, RR 0), (1, II v1), (2, II v2), (3, II v3), (4, II v4), (5, II (v5 + 1))]) dX5_wouldBeSeen_90 rfl (by decide) rfl ?_
        refine V_goto (g := 53) dX5_wouldBeSeen_93 rfl ?_
        exact h
      · have h := h.2 hc
        refine V_iconst dX5_wouldBeSeen_88 rfl ?_
        exact V_iret dX5_wouldBeSeen_89 (Or.inr ⟨rfl, by decide⟩) h
theorem eX5_film {G : GG} {Q : Int → Mem → Prop} {t : Mem} {v1 v2 v3 v4 : Int} (k : V G mX5_film 0 [(0, RR 0), (1, II v1), (2, II v2), (3, II v3), (4, II v4)] [] t Q) : Ex G mX5_film [RR 0, II v1, II v2, II v3, II v4] t Q := Ex.of plX5 (Or.inr (Or.inl rfl)) (Nat.le_of_ble_eq_true rfl) rfl k
set_option maxRecDepth 100000 in
theorem sgX5_film_0 {G : GG} {Q : Int → Mem → Prop} {t : Mem} {v1 v2 v3 v4 : Int}  (h : ∃ P1 : Int → Mem → Prop, Ex G mX5_outside [II v1, II 1, II 24] t P1 ∧ ∀ (r3 : Int) (u4 : Mem), P1 r3 u4 → In32 r3 ∧ (¬ r3 = 0 → Q (-1) u4) ∧ (r3 = 0 → ∃ P7 : Int → Mem → Prop, Ex G mX5_noSheet [II v2] u4 P7 ∧ ∀ (r9 : Int) (u10 : Mem), P7 r9 u10 → In32 r9 ∧ (¬ r9 = 0 → Q (-1) u10) ∧ (r9 = 0 → ∃ P13 : Int → Mem → Prop, Ex G mX5_outside [II v3, II 0, II 3] u10 P13 ∧ ∀ (r15 : Int) (u16 : Mem), P13 r15 u16 → In32 r15 ∧ (r15 = 0 → (0 ≤ v2 ∧ v2 < 4) ∧ ∃ P20 : Int → Mem → Prop, Ex G mX3_refusal [RR (124 + 2 * v2.toNat), II v3, II v4, II v1] u16 P20 ∧ ∀ (r22 : Int) (u23 : Mem), P20 r22 u23 → In32 r22 ∧ (r22 = 0 → ∃ P26 : Int → Mem → Prop, Ex G mX5_foretell [RR 0] u23 P26 ∧ ∀ u29 : Mem, P26 0 u29 → V G mX5_film 58 [(0, RR 0), (1, II v1), (2, II v2), (3, II v3), (4, II v4), (5, II r22), (6, II 0)] [] u29 Q) ∧ (¬ r22 = 0 → Q r22 u23)) ∧ (¬ r15 = 0 → Q (-1) u16)))) : V G mX5_film 0 [(0, RR 0), (1, II v1), (2, II v2), (3, II v3), (4, II v4)] [] t Q := by
  refine V_iload_n 1 rfl dX5_film_0 rfl ?_
  refine V_iconst dX5_film_1 rfl ?_
  refine V_bipush (by decide) dX5_film_2 rfl ?_
  obtain ⟨P1, c2, h⟩ := h
  refine V_callSi (st := []) (as := [II v1, II 1, II 24]) okX5_outside rfl mlX5_69 (by decide) rfl (Nat.le_of_ble_eq_true rfl) rfl dX5_film_4 rfl c2 (fun r3 u4 e5 => ?_)
  have h := h r3 u4 e5
  obtain ⟨q6, h⟩ := h
  refine V_if_ne q6 dX5_film_7 (g := 26) rfl rfl ⟨fun hc => ?_, fun hc => ?_⟩
  · have h := h.1 hc
    refine V_iconst dX5_film_26 rfl ?_
    exact V_iret dX5_film_27 (Or.inl rfl) h
  · have h := h.2 hc
    refine V_iload_n 2 rfl dX5_film_10 rfl ?_
    obtain ⟨P7, c8, h⟩ := h
    refine V_callSi (st := []) (as := [II v2]) okX5_noSheet rfl mlX5_273 (by decide) rfl (Nat.le_of_ble_eq_true rfl) rfl dX5_film_11 rfl c8 (fun r9 u10 e11 => ?_)
    have h := h r9 u10 e11
    obtain ⟨q12, h⟩ := h
    refine V_if_ne q12 dX5_film_14 (g := 26) rfl rfl ⟨fun hc => ?_, fun hc => ?_⟩
    · have h := h.1 hc
      refine V_iconst dX5_film_26 rfl ?_
      exact V_iret dX5_film_27 (Or.inl rfl) h
    · have h := h.2 hc
      refine V_iload_n 3 rfl dX5_film_17 rfl ?_
      refine V_iconst dX5_film_18 rfl ?_
      refine V_iconst dX5_film_19 rfl ?_
      obtain ⟨P13, c14, h⟩ := h
      refine V_callSi (st := []) (as := [II v3, II 0, II 3]) okX5_outside rfl mlX5_69 (by decide) rfl (Nat.le_of_ble_eq_true rfl) rfl dX5_film_20 rfl c14 (fun r15 u16 e17 => ?_)
      have h := h r15 u16 e17
      obtain ⟨q18, h⟩ := h
      refine V_if_eq q18 dX5_film_23 (g := 28) rfl rfl ⟨fun hc => ?_, fun hc => ?_⟩
      · have h := h.1 hc
        refine V_aload_n 0 rfl dX5_film_28 rfl ?_
        refine gX5_64 rfl kY0 rF0_13 dX5_film_29 rfl ?_
        refine V_iload_n 2 rfl dX5_film_32 rfl ?_
        obtain ⟨q19, h⟩ := h
        refine V_aaldn (Or.inr kY123) lI123 q19 (sheet_at (tn q19)).1 dX5_film_33 rfl ?_
        refine V_iload_n 3 rfl dX5_film_34 rfl ?_
        refine V_iload 4 rfl dX5_film_35 rfl ?_
        refine V_iload_n 1 rfl dX5_film_37 rfl ?_
        obtain ⟨P20, c21, h⟩ := h
        refine V_callVi (st := []) (as := [II v3, II v4, II v1]) okX3_refusal rfl mlX5_276 (by decide) ((sheet_at (tn q19)).2).k rfl (Nat.le_of_ble_eq_true rfl) rfl dX5_film_38 rfl c21 (fun r22 u23 e24 => ?_)
        have h := h r22 u23 e24
        refine V_istore (ls2 := [(0, RR 0), (1, II v1), (2, II v2), (3, II v3), (4, II v4), (5, II r22)]) dX5_film_41 rfl (by decide) rfl ?_
        refine V_iload 5 rfl dX5_film_43 rfl ?_
        obtain ⟨q25, h⟩ := h
        refine V_if_eq q25 dX5_film_45 (g := 51) rfl rfl ⟨fun hc => ?_, fun hc => ?_⟩
        · have h := h.1 hc
          refine V_aload_n 0 rfl dX5_film_51 rfl ?_
          obtain ⟨P26, c27, h⟩ := h
          refine V_callVv (st := []) (as := []) okX5_foretell rfl mlX5_219 (by decide) kY0 rfl (Nat.le_of_ble_eq_true rfl) rfl dX5_film_52 rfl c27 (fun u29 e30 => ?_)
          have h := h u29 e30
          refine V_iconst dX5_film_55 rfl ?_
          refine V_istore (ls2 := [(0, RR 0), (1, II v1), (2, II v2), (3, II v3), (4, II v4), (5, II r22), (6, II 0)]) dX5_film_56 rfl (by decide) rfl ?_
          exact h
        · have h := h.2 hc
          refine V_iload 5 rfl dX5_film_48 rfl ?_
          exact V_iret dX5_film_50 (Or.inl rfl) h
      · have h := h.2 hc
        refine V_iconst dX5_film_26 rfl ?_
        exact V_iret dX5_film_27 (Or.inl rfl) h
set_option maxRecDepth 100000 in
theorem sgX5_film_58 {G : GG} {Q : Int → Mem → Prop} {t : Mem} {v1 v2 v3 v4 v5 v6 : Int}  (h : In32 v6 ∧ In32 v1 ∧ (v1 ≤ v6 → Q v1 t) ∧ (¬ v1 ≤ v6 → ∃ P3 : Int → Mem → Prop, Ex G mX1_step [RR 113, RR 107, II 127] t P3 ∧ ∀ (r5 : Int) (u6 : Mem), P3 r5 u6 → (0 ≤ v2 ∧ v2 < 4) ∧ In32 (u6 113 0) ∧ ∃ P10 : Int → Mem → Prop, Ex G mX3_put [RR (124 + 2 * v2.toNat), II (v4 + v6), JJ (u6 113 0)] u6 P10 ∧ ∀ u13 : Mem, P10 0 u13 → V G mX5_film 58 [(0, RR 0), (1, II v1), (2, II v2), (3, II v3), (4, II v4), (5, II v5), (6, II (v6 + 1))] [] u13 Q)) : V G mX5_film 58 [(0, RR 0), (1, II v1), (2, II v2), (3, II v3), (4, II v4), (5, II v5), (6, II v6)] [] t Q := by
  refine V_iload 6 rfl dX5_film_58 rfl ?_
  refine V_iload_n 1 rfl dX5_film_60 rfl ?_
  obtain ⟨q1, h⟩ := h
  obtain ⟨q2, h⟩ := h
  refine V_icmp_ge q1 q2 dX5_film_61 (g := 106) rfl rfl ⟨fun hc => ?_, fun hc => ?_⟩
  · have h := h.1 hc
    refine V_iload_n 1 rfl dX5_film_106 rfl ?_
    exact V_iret dX5_film_107 (Or.inl rfl) h
  · have h := h.2 hc
    refine V_aload_n 0 rfl dX5_film_64 rfl ?_
    refine gX5_42 rfl kY0 rF0_8 dX5_film_65 rfl ?_
    refine V_aload_n 0 rfl dX5_film_68 rfl ?_
    refine gX5_39 rfl kY0 rF0_7 dX5_film_69 rfl ?_
    refine V_bipush (by decide) dX5_film_72 rfl ?_
    obtain ⟨P3, c4, h⟩ := h
    refine V_callVi (st := []) (as := [RR 107, II 127]) okX1_step rfl mlX5_205 (by decide) kY113 rfl (Nat.le_of_ble_eq_true rfl) rfl dX5_film_74 rfl c4 (fun r5 u6 e7 => ?_)
    have h := h r5 u6 e7
    refine V_pop rfl dX5_film_77 rfl ?_
    refine V_aload_n 0 rfl dX5_film_78 rfl ?_
    refine gX5_64 rfl kY0 rF0_13 dX5_film_79 rfl ?_
    refine V_iload_n 2 rfl dX5_film_82 rfl ?_
    obtain ⟨q8, h⟩ := h
    refine V_aaldn (Or.inr kY123) lI123 q8 (sheet_at (tn q8)).1 dX5_film_83 rfl ?_
    refine V_iload 4 rfl dX5_film_84 rfl ?_
    refine V_iload 6 rfl dX5_film_86 rfl ?_
    refine V_iadd dX5_film_88 rfl ?_
    refine V_aload_n 0 rfl dX5_film_89 rfl ?_
    refine gX5_42 rfl kY0 rF0_8 dX5_film_90 rfl ?_
    refine gX5_127 rfl kY113 dX5_film_93 rfl ?_
    obtain ⟨q9, h⟩ := h
    refine V_i2l q9 dX5_film_96 rfl ?_
    obtain ⟨P10, c11, h⟩ := h
    refine V_callVv (st := []) (as := [II (v4 + v6), JJ (u6 113 0)]) okX3_put rfl mlX5_295 (by decide) ((sheet_at (tn q8)).2).k rfl (Nat.le_of_ble_eq_true rfl) rfl dX5_film_97 rfl c11 (fun u13 e14 => ?_)
    have h := h u13 e14
    refine V_iinc 6 rfl (ls2 := [(0, RR 0), (1, II v1), (2, II v2), (3, II v3), (4, II v4), (5, II v5), (6, II (v6 + 1))]) dX5_film_100 rfl (by decide) rfl ?_
    refine V_goto (g := 58) dX5_film_103 rfl ?_
    exact h
theorem eX5_sheet {G : GG} {Q : Int → Mem → Prop} {t : Mem} {v1 v2 v3 : Int} (k : V G mX5_sheet 0 [(0, RR 0), (1, II v1), (2, II v2), (3, II v3)] [] t Q) : Ex G mX5_sheet [RR 0, II v1, II v2, II v3] t Q := Ex.of plX5 (Or.inr (Or.inl rfl)) (Nat.le_of_ble_eq_true rfl) rfl k
set_option maxRecDepth 100000 in
theorem sgX5_sheet_0 {G : GG} {Q : Int → Mem → Prop} {t : Mem} {v1 v2 v3 : Int}  (h : ∃ P1 : Int → Mem → Prop, Ex G mX5_noSheet [II v1] t P1 ∧ ∀ (r3 : Int) (u4 : Mem), P1 r3 u4 → In32 r3 ∧ (¬ r3 = 0 → Q (-1) u4) ∧ (r3 = 0 → ∃ P7 : Int → Mem → Prop, Ex G mX5_outside [II v2, II 0, II 3] u4 P7 ∧ ∀ (r9 : Int) (u10 : Mem), P7 r9 u10 → In32 r9 ∧ (¬ r9 = 0 → Q (-1) u10) ∧ (r9 = 0 → In32 v3 ∧ (v3 ≤ 24 → (0 ≤ v3 → (0 ≤ v1 ∧ v1 < 4) ∧ ∃ P15 : Int → Mem → Prop, Ex G mX3_renew [RR (124 + 2 * v1.toNat), II v2, II v3] u10 P15 ∧ ∀ u18 : Mem, P15 0 u18 → Q v3 u18) ∧ (¬ 0 ≤ v3 → Q (-14) u10)) ∧ (¬ v3 ≤ 24 → Q (-1) u10)))) : V G mX5_sheet 0 [(0, RR 0), (1, II v1), (2, II v2), (3, II v3)] [] t Q := by
  refine V_iload_n 1 rfl dX5_sheet_0 rfl ?_
  obtain ⟨P1, c2, h⟩ := h
  refine V_callSi (st := []) (as := [II v1]) okX5_noSheet rfl mlX5_273 (by decide) rfl (Nat.le_of_ble_eq_true rfl) rfl dX5_sheet_1 rfl c2 (fun r3 u4 e5 => ?_)
  have h := h r3 u4 e5
  obtain ⟨q6, h⟩ := h
  refine V_if_ne q6 dX5_sheet_4 (g := 22) rfl rfl ⟨fun hc => ?_, fun hc => ?_⟩
  · have h := h.1 hc
    refine V_iconst dX5_sheet_22 rfl ?_
    exact V_iret dX5_sheet_23 (Or.inl rfl) h
  · have h := h.2 hc
    refine V_iload_n 2 rfl dX5_sheet_7 rfl ?_
    refine V_iconst dX5_sheet_8 rfl ?_
    refine V_iconst dX5_sheet_9 rfl ?_
    obtain ⟨P7, c8, h⟩ := h
    refine V_callSi (st := []) (as := [II v2, II 0, II 3]) okX5_outside rfl mlX5_69 (by decide) rfl (Nat.le_of_ble_eq_true rfl) rfl dX5_sheet_10 rfl c8 (fun r9 u10 e11 => ?_)
    have h := h r9 u10 e11
    obtain ⟨q12, h⟩ := h
    refine V_if_ne q12 dX5_sheet_13 (g := 22) rfl rfl ⟨fun hc => ?_, fun hc => ?_⟩
    · have h := h.1 hc
      refine V_iconst dX5_sheet_22 rfl ?_
      exact V_iret dX5_sheet_23 (Or.inl rfl) h
    · have h := h.2 hc
      refine V_iload_n 3 rfl dX5_sheet_16 rfl ?_
      refine V_bipush (by decide) dX5_sheet_17 rfl ?_
      obtain ⟨q13, h⟩ := h
      refine V_icmp_le q13 (iL rfl) dX5_sheet_19 (g := 24) rfl rfl ⟨fun hc => ?_, fun hc => ?_⟩
      · have h := h.1 hc
        refine V_iload_n 3 rfl dX5_sheet_24 rfl ?_
        refine V_if_ge q13 dX5_sheet_25 (g := 31) rfl rfl ⟨fun hc => ?_, fun hc => ?_⟩
        · have h := h.1 hc
          refine V_aload_n 0 rfl dX5_sheet_31 rfl ?_
          refine gX5_64 rfl kY0 rF0_13 dX5_sheet_32 rfl ?_
          refine V_iload_n 1 rfl dX5_sheet_35 rfl ?_
          obtain ⟨q14, h⟩ := h
          refine V_aaldn (Or.inr kY123) lI123 q14 (sheet_at (tn q14)).1 dX5_sheet_36 rfl ?_
          refine V_iload_n 2 rfl dX5_sheet_37 rfl ?_
          refine V_iload_n 3 rfl dX5_sheet_38 rfl ?_
          obtain ⟨P15, c16, h⟩ := h
          refine V_callVv (st := []) (as := [II v2, II v3]) okX3_renew rfl mlX5_298 (by decide) ((sheet_at (tn q14)).2).k rfl (Nat.le_of_ble_eq_true rfl) rfl dX5_sheet_39 rfl c16 (fun u18 e19 => ?_)
          have h := h u18 e19
          refine V_iload_n 3 rfl dX5_sheet_42 rfl ?_
          exact V_iret dX5_sheet_43 (Or.inl rfl) h
        · have h := h.2 hc
          refine V_bipush (by decide) dX5_sheet_28 rfl ?_
          exact V_iret dX5_sheet_30 (Or.inl rfl) h
      · have h := h.2 hc
        refine V_iconst dX5_sheet_22 rfl ?_
        exact V_iret dX5_sheet_23 (Or.inl rfl) h
theorem eX5_drop {G : GG} {Q : Int → Mem → Prop} {t : Mem} {v1 : Int} (k : V G mX5_drop 0 [(0, RR 0), (1, II v1)] [] t Q) : Ex G mX5_drop [RR 0, II v1] t Q := Ex.of plX5 (Or.inr (Or.inl rfl)) (Nat.le_of_ble_eq_true rfl) rfl k
set_option maxRecDepth 100000 in
theorem sgX5_drop_0 {G : GG} {Q : Int → Mem → Prop} {t : Mem} {v1 : Int}  (h : ∃ P1 : Int → Mem → Prop, Ex G mX5_noSheet [II v1] t P1 ∧ ∀ (r3 : Int) (u4 : Mem), P1 r3 u4 → In32 r3 ∧ (r3 = 0 → (0 ≤ v1 ∧ v1 < 4) ∧ In32 (u4 (124 + 2 * v1.toNat) 0) ∧ (¬ (u4 (124 + 2 * v1.toNat) 0) = (-1) → ∃ P9 : Int → Mem → Prop, Ex G mX3_renew [RR (124 + 2 * v1.toNat), II (-1), II 0] u4 P9 ∧ ∀ u12 : Mem, P9 0 u12 → Q (u4 (124 + 2 * v1.toNat) 1) u12) ∧ ((u4 (124 + 2 * v1.toNat) 0) = (-1) → Q (-11) u4)) ∧ (¬ r3 = 0 → Q (-1) u4)) : V G mX5_drop 0 [(0, RR 0), (1, II v1)] [] t Q := by
  refine V_iload_n 1 rfl dX5_drop_0 rfl ?_
  obtain ⟨P1, c2, h⟩ := h
  refine V_callSi (st := []) (as := [II v1]) okX5_noSheet rfl mlX5_273 (by decide) rfl (Nat.le_of_ble_eq_true rfl) rfl dX5_drop_1 rfl c2 (fun r3 u4 e5 => ?_)
  have h := h r3 u4 e5
  obtain ⟨q6, h⟩ := h
  refine V_if_eq q6 dX5_drop_4 (g := 9) rfl rfl ⟨fun hc => ?_, fun hc => ?_⟩
  · have h := h.1 hc
    refine V_aload_n 0 rfl dX5_drop_9 rfl ?_
    refine gX5_64 rfl kY0 rF0_13 dX5_drop_10 rfl ?_
    refine V_iload_n 1 rfl dX5_drop_13 rfl ?_
    obtain ⟨q7, h⟩ := h
    refine V_aaldn (Or.inr kY123) lI123 q7 (sheet_at (tn q7)).1 dX5_drop_14 rfl ?_
    refine gX5_301 rfl ((sheet_at (tn q7)).2).k dX5_drop_15 rfl ?_
    refine V_iconst dX5_drop_18 rfl ?_
    obtain ⟨q8, h⟩ := h
    refine V_icmp_ne q8 (iL rfl) dX5_drop_19 (g := 25) rfl rfl ⟨fun hc => ?_, fun hc => ?_⟩
    · have h := h.1 hc
      refine V_aload_n 0 rfl dX5_drop_25 rfl ?_
      refine gX5_64 rfl kY0 rF0_13 dX5_drop_26 rfl ?_
      refine V_iload_n 1 rfl dX5_drop_29 rfl ?_
      refine V_aaldn (Or.inr kY123) lI123 q7 (sheet_at (tn q7)).1 dX5_drop_30 rfl ?_
      refine gX5_304 rfl ((sheet_at (tn q7)).2).k dX5_drop_31 rfl ?_
      refine V_istore_n (ls2 := [(0, RR 0), (1, II v1), (2, II (u4 (124 + 2 * v1.toNat) 1))]) dX5_drop_34 rfl (by decide) rfl ?_
      refine V_aload_n 0 rfl dX5_drop_35 rfl ?_
      refine gX5_64 rfl kY0 rF0_13 dX5_drop_36 rfl ?_
      refine V_iload_n 1 rfl dX5_drop_39 rfl ?_
      refine V_aaldn (Or.inr kY123) lI123 q7 (sheet_at (tn q7)).1 dX5_drop_40 rfl ?_
      refine V_iconst dX5_drop_41 rfl ?_
      refine V_iconst dX5_drop_42 rfl ?_
      obtain ⟨P9, c10, h⟩ := h
      refine V_callVv (st := []) (as := [II (-1), II 0]) okX3_renew rfl mlX5_298 (by decide) ((sheet_at (tn q7)).2).k rfl (Nat.le_of_ble_eq_true rfl) rfl dX5_drop_43 rfl c10 (fun u12 e13 => ?_)
      have h := h u12 e13
      refine V_iload_n 2 rfl dX5_drop_46 rfl ?_
      exact V_iret dX5_drop_47 (Or.inl rfl) h
    · have h := h.2 hc
      refine V_bipush (by decide) dX5_drop_22 rfl ?_
      exact V_iret dX5_drop_24 (Or.inl rfl) h
  · have h := h.2 hc
    refine V_iconst dX5_drop_7 rfl ?_
    exact V_iret dX5_drop_8 (Or.inl rfl) h
theorem eX5_item {G : GG} {Q : Int → Mem → Prop} {t : Mem} {v1 v2 v3 v4 : Int} (k : V G mX5_item 0 [(0, RR 0), (1, II v1), (2, II v2), (3, II v3), (4, JJ v4)] [] t Q) : Ex G mX5_item [RR 0, II v1, II v2, II v3, JJ v4] t Q := Ex.of plX5 (Or.inr (Or.inl rfl)) (Nat.le_of_ble_eq_true rfl) rfl k
set_option maxRecDepth 100000 in
theorem sgX5_item_0 {G : GG} {Q : Int → Mem → Prop} {t : Mem} {v1 v2 v3 v4 : Int}  (h : ∃ P1 : Int → Mem → Prop, Ex G mX5_noSheet [II v1] t P1 ∧ ∀ (r3 : Int) (u4 : Mem), P1 r3 u4 → In32 r3 ∧ (¬ r3 = 0 → Q (-1) u4) ∧ (r3 = 0 → ∃ P7 : Int → Mem → Prop, Ex G mX5_outside [II v2, II 0, II 3] u4 P7 ∧ ∀ (r9 : Int) (u10 : Mem), P7 r9 u10 → In32 r9 ∧ (r9 = 0 → (0 ≤ v1 ∧ v1 < 4) ∧ ∃ P14 : Int → Mem → Prop, Ex G mX3_refusal [RR (124 + 2 * v1.toNat), II v2, II v3, II 1] u10 P14 ∧ ∀ (r16 : Int) (u17 : Mem), P14 r16 u17 → In32 r16 ∧ (r16 = 0 → ∃ P20 : Int → Mem → Prop, Ex G mX3_put [RR (124 + 2 * v1.toNat), II v3, JJ v4] u17 P20 ∧ ∀ u23 : Mem, P20 0 u23 → Q 1 u23) ∧ (¬ r16 = 0 → Q r16 u17)) ∧ (¬ r9 = 0 → Q (-1) u10))) : V G mX5_item 0 [(0, RR 0), (1, II v1), (2, II v2), (3, II v3), (4, JJ v4)] [] t Q := by
  refine V_iload_n 1 rfl dX5_item_0 rfl ?_
  obtain ⟨P1, c2, h⟩ := h
  refine V_callSi (st := []) (as := [II v1]) okX5_noSheet rfl mlX5_273 (by decide) rfl (Nat.le_of_ble_eq_true rfl) rfl dX5_item_1 rfl c2 (fun r3 u4 e5 => ?_)
  have h := h r3 u4 e5
  obtain ⟨q6, h⟩ := h
  refine V_if_ne q6 dX5_item_4 (g := 16) rfl rfl ⟨fun hc => ?_, fun hc => ?_⟩
  · have h := h.1 hc
    refine V_iconst dX5_item_16 rfl ?_
    exact V_iret dX5_item_17 (Or.inl rfl) h
  · have h := h.2 hc
    refine V_iload_n 2 rfl dX5_item_7 rfl ?_
    refine V_iconst dX5_item_8 rfl ?_
    refine V_iconst dX5_item_9 rfl ?_
    obtain ⟨P7, c8, h⟩ := h
    refine V_callSi (st := []) (as := [II v2, II 0, II 3]) okX5_outside rfl mlX5_69 (by decide) rfl (Nat.le_of_ble_eq_true rfl) rfl dX5_item_10 rfl c8 (fun r9 u10 e11 => ?_)
    have h := h r9 u10 e11
    obtain ⟨q12, h⟩ := h
    refine V_if_eq q12 dX5_item_13 (g := 18) rfl rfl ⟨fun hc => ?_, fun hc => ?_⟩
    · have h := h.1 hc
      refine V_aload_n 0 rfl dX5_item_18 rfl ?_
      refine gX5_64 rfl kY0 rF0_13 dX5_item_19 rfl ?_
      refine V_iload_n 1 rfl dX5_item_22 rfl ?_
      obtain ⟨q13, h⟩ := h
      refine V_aaldn (Or.inr kY123) lI123 q13 (sheet_at (tn q13)).1 dX5_item_23 rfl ?_
      refine V_iload_n 2 rfl dX5_item_24 rfl ?_
      refine V_iload_n 3 rfl dX5_item_25 rfl ?_
      refine V_iconst dX5_item_26 rfl ?_
      obtain ⟨P14, c15, h⟩ := h
      refine V_callVi (st := []) (as := [II v2, II v3, II 1]) okX3_refusal rfl mlX5_276 (by decide) ((sheet_at (tn q13)).2).k rfl (Nat.le_of_ble_eq_true rfl) rfl dX5_item_27 rfl c15 (fun r16 u17 e18 => ?_)
      have h := h r16 u17 e18
      refine V_istore (ls2 := [(0, RR 0), (1, II v1), (2, II v2), (3, II v3), (4, JJ v4), (6, II r16)]) dX5_item_30 rfl (by decide) rfl ?_
      refine V_iload 5 rfl dX5_item_32 rfl ?_
      obtain ⟨q19, h⟩ := h
      refine V_if_eq q19 dX5_item_34 (g := 40) rfl rfl ⟨fun hc => ?_, fun hc => ?_⟩
      · have h := h.1 hc
        refine V_aload_n 0 rfl dX5_item_40 rfl ?_
        refine gX5_64 rfl kY0 rF0_13 dX5_item_41 rfl ?_
        refine V_iload_n 1 rfl dX5_item_44 rfl ?_
        refine V_aaldn (Or.inr kY123) lI123 q13 (sheet_at (tn q13)).1 dX5_item_45 rfl ?_
        refine V_iload_n 3 rfl dX5_item_46 rfl ?_
        refine V_lload 4 rfl dX5_item_47 rfl ?_
        obtain ⟨P20, c21, h⟩ := h
        refine V_callVv (st := []) (as := [II v3, JJ v4]) okX3_put rfl mlX5_295 (by decide) ((sheet_at (tn q13)).2).k rfl (Nat.le_of_ble_eq_true rfl) rfl dX5_item_49 rfl c21 (fun u23 e24 => ?_)
        have h := h u23 e24
        refine V_iconst dX5_item_52 rfl ?_
        exact V_iret dX5_item_53 (Or.inl rfl) h
      · have h := h.2 hc
        refine V_iload 5 rfl dX5_item_37 rfl ?_
        exact V_iret dX5_item_39 (Or.inl rfl) h
    · have h := h.2 hc
      refine V_iconst dX5_item_16 rfl ?_
      exact V_iret dX5_item_17 (Or.inl rfl) h
theorem eX5_copy {G : GG} {Q : Int → Mem → Prop} {t : Mem} {v1 v2 v3 v4 v5 : Int} (k : V G mX5_copy 0 [(0, RR 0), (1, II v1), (2, II v2), (3, II v3), (4, II v4), (5, II v5)] [] t Q) : Ex G mX5_copy [RR 0, II v1, II v2, II v3, II v4, II v5] t Q := Ex.of plX5 (Or.inr (Or.inl rfl)) (Nat.le_of_ble_eq_true rfl) rfl k
set_option maxRecDepth 100000 in
theorem sgX5_copy_0 {G : GG} {Q : Int → Mem → Prop} {t : Mem} {v1 v2 v3 v4 v5 : Int}  (h : ∃ P1 : Int → Mem → Prop, Ex G mX5_noSheet [II v1] t P1 ∧ ∀ (r3 : Int) (u4 : Mem), P1 r3 u4 → In32 r3 ∧ (¬ r3 = 0 → Q (-1) u4) ∧ (r3 = 0 → ∃ P7 : Int → Mem → Prop, Ex G mX5_noSheet [II v3] u4 P7 ∧ ∀ (r9 : Int) (u10 : Mem), P7 r9 u10 → In32 r9 ∧ (r9 = 0 → (0 ≤ v1 ∧ v1 < 4) ∧ (0 ≤ v3 ∧ v3 < 4) ∧ In32 (u10 (124 + 2 * v1.toNat) 0) ∧ ((u10 (124 + 2 * v1.toNat) 0) = (-1) → Q (-11) u10) ∧ (¬ (u10 (124 + 2 * v1.toNat) 0) = (-1) → In32 (u10 (124 + 2 * v3.toNat) 0) ∧ (¬ (u10 (124 + 2 * v3.toNat) 0) = (-1) → ((u10 (124 + 2 * v1.toNat) 0) = (u10 (124 + 2 * v3.toNat) 0) → ∃ P17 : Int → Mem → Prop, Ex G mX3_lacks [RR (124 + 2 * v1.toNat), II v2, II v5] u10 P17 ∧ ∀ (r19 : Int) (u20 : Mem), P17 r19 u20 → In32 r19 ∧ (¬ r19 = 0 → Q (-13) u20) ∧ (r19 = 0 → ∃ P23 : Int → Mem → Prop, Ex G mX3_lacks [RR (124 + 2 * v3.toNat), II v4, II v5] u20 P23 ∧ ∀ (r25 : Int) (u26 : Mem), P23 r25 u26 → In32 r25 ∧ (r25 = 0 → (0 ≤ v2 ∧ 0 ≤ v4 ∧ 0 ≤ v5 ∧ v2 + v5 ≤ 24 ∧ v4 + v5 ≤ 24) ∧ ∀ u30 : Mem, u30 = cpy u26 ((124 + 2 * v1.toNat) + 1) v2.toNat ((124 + 2 * v3.toNat) + 1) v4.toNat v5.toNat → Q v5 u30) ∧ (¬ r25 = 0 → Q (-13) u26))) ∧ (¬ (u10 (124 + 2 * v1.toNat) 0) = (u10 (124 + 2 * v3.toNat) 0) → Q (-12) u10)) ∧ ((u10 (124 + 2 * v3.toNat) 0) = (-1) → Q (-11) u10))) ∧ (¬ r9 = 0 → Q (-1) u10))) : V G mX5_copy 0 [(0, RR 0), (1, II v1), (2, II v2), (3, II v3), (4, II v4), (5, II v5)] [] t Q := by
  refine V_iload_n 1 rfl dX5_copy_0 rfl ?_
  obtain ⟨P1, c2, h⟩ := h
  refine V_callSi (st := []) (as := [II v1]) okX5_noSheet rfl mlX5_273 (by decide) rfl (Nat.le_of_ble_eq_true rfl) rfl dX5_copy_1 rfl c2 (fun r3 u4 e5 => ?_)
  have h := h r3 u4 e5
  obtain ⟨q6, h⟩ := h
  refine V_if_ne q6 dX5_copy_4 (g := 14) rfl rfl ⟨fun hc => ?_, fun hc => ?_⟩
  · have h := h.1 hc
    refine V_iconst dX5_copy_14 rfl ?_
    exact V_iret dX5_copy_15 (Or.inl rfl) h
  · have h := h.2 hc
    refine V_iload_n 3 rfl dX5_copy_7 rfl ?_
    obtain ⟨P7, c8, h⟩ := h
    refine V_callSi (st := []) (as := [II v3]) okX5_noSheet rfl mlX5_273 (by decide) rfl (Nat.le_of_ble_eq_true rfl) rfl dX5_copy_8 rfl c8 (fun r9 u10 e11 => ?_)
    have h := h r9 u10 e11
    obtain ⟨q12, h⟩ := h
    refine V_if_eq q12 dX5_copy_11 (g := 16) rfl rfl ⟨fun hc => ?_, fun hc => ?_⟩
    · have h := h.1 hc
      refine V_aload_n 0 rfl dX5_copy_16 rfl ?_
      refine gX5_64 rfl kY0 rF0_13 dX5_copy_17 rfl ?_
      refine V_iload_n 1 rfl dX5_copy_20 rfl ?_
      obtain ⟨q13, h⟩ := h
      refine V_aaldn (Or.inr kY123) lI123 q13 (sheet_at (tn q13)).1 dX5_copy_21 rfl ?_
      refine V_astore (ls2 := [(0, RR 0), (1, II v1), (2, II v2), (3, II v3), (4, II v4), (5, II v5), (6, RR (124 + 2 * v1.toNat))]) dX5_copy_22 rfl (by decide) rfl ?_
      refine V_aload_n 0 rfl dX5_copy_24 rfl ?_
      refine gX5_64 rfl kY0 rF0_13 dX5_copy_25 rfl ?_
      refine V_iload_n 3 rfl dX5_copy_28 rfl ?_
      obtain ⟨q14, h⟩ := h
      refine V_aaldn (Or.inr kY123) lI123 q14 (sheet_at (tn q14)).1 dX5_copy_29 rfl ?_
      refine V_astore (ls2 := [(0, RR 0), (1, II v1), (2, II v2), (3, II v3), (4, II v4), (5, II v5), (6, RR (124 + 2 * v1.toNat)), (7, RR (124 + 2 * v3.toNat))]) dX5_copy_30 rfl (by decide) rfl ?_
      refine V_aload 6 rfl dX5_copy_32 rfl ?_
      refine gX5_301 rfl ((sheet_at (tn q13)).2).k dX5_copy_34 rfl ?_
      refine V_iconst dX5_copy_37 rfl ?_
      obtain ⟨q15, h⟩ := h
      refine V_icmp_eq q15 (iL rfl) dX5_copy_38 (g := 50) rfl rfl ⟨fun hc => ?_, fun hc => ?_⟩
      · have h := h.1 hc
        refine V_bipush (by decide) dX5_copy_50 rfl ?_
        exact V_iret dX5_copy_52 (Or.inl rfl) h
      · have h := h.2 hc
        refine V_aload 7 rfl dX5_copy_41 rfl ?_
        refine gX5_301 rfl ((sheet_at (tn q14)).2).k dX5_copy_43 rfl ?_
        refine V_iconst dX5_copy_46 rfl ?_
        obtain ⟨q16, h⟩ := h
        refine V_icmp_ne q16 (iL rfl) dX5_copy_47 (g := 53) rfl rfl ⟨fun hc => ?_, fun hc => ?_⟩
        · have h := h.1 hc
          refine V_aload 6 rfl dX5_copy_53 rfl ?_
          refine gX5_301 rfl ((sheet_at (tn q13)).2).k dX5_copy_55 rfl ?_
          refine V_aload 7 rfl dX5_copy_58 rfl ?_
          refine gX5_301 rfl ((sheet_at (tn q14)).2).k dX5_copy_60 rfl ?_
          refine V_icmp_eq q15 q16 dX5_copy_63 (g := 69) rfl rfl ⟨fun hc => ?_, fun hc => ?_⟩
          · have h := h.1 hc
            refine V_aload 6 rfl dX5_copy_69 rfl ?_
            refine V_iload_n 2 rfl dX5_copy_71 rfl ?_
            refine V_iload 5 rfl dX5_copy_72 rfl ?_
            obtain ⟨P17, c18, h⟩ := h
            refine V_callVi (st := []) (as := [II v2, II v5]) okX3_lacks rfl mlX5_307 (by decide) ((sheet_at (tn q13)).2).k rfl (Nat.le_of_ble_eq_true rfl) rfl dX5_copy_74 rfl c18 (fun r19 u20 e21 => ?_)
            have h := h r19 u20 e21
            obtain ⟨q22, h⟩ := h
            refine V_if_ne q22 dX5_copy_77 (g := 92) rfl rfl ⟨fun hc => ?_, fun hc => ?_⟩
            · have h := h.1 hc
              refine V_bipush (by decide) dX5_copy_92 rfl ?_
              exact V_iret dX5_copy_94 (Or.inl rfl) h
            · have h := h.2 hc
              refine V_aload 7 rfl dX5_copy_80 rfl ?_
              refine V_iload 4 rfl dX5_copy_82 rfl ?_
              refine V_iload 5 rfl dX5_copy_84 rfl ?_
              obtain ⟨P23, c24, h⟩ := h
              refine V_callVi (st := []) (as := [II v4, II v5]) okX3_lacks rfl mlX5_307 (by decide) ((sheet_at (tn q14)).2).k rfl (Nat.le_of_ble_eq_true rfl) rfl dX5_copy_86 rfl c24 (fun r25 u26 e27 => ?_)
              have h := h r25 u26 e27
              obtain ⟨q28, h⟩ := h
              refine V_if_eq q28 dX5_copy_89 (g := 95) rfl rfl ⟨fun hc => ?_, fun hc => ?_⟩
              · have h := h.1 hc
                refine V_aload 6 rfl dX5_copy_95 rfl ?_
                refine gX5_287 rfl ((sheet_at (tn q13)).2).k ((sheet_at (tn q13)).2).r2 dX5_copy_97 rfl ?_
                refine V_iload_n 2 rfl dX5_copy_100 rfl ?_
                refine V_aload 7 rfl dX5_copy_101 rfl ?_
                refine gX5_287 rfl ((sheet_at (tn q14)).2).k ((sheet_at (tn q14)).2).r2 dX5_copy_103 rfl ?_
                refine V_iload 4 rfl dX5_copy_106 rfl ?_
                refine V_iload 5 rfl dX5_copy_108 rfl ?_
                obtain ⟨q29, h⟩ := h
                refine V_copyLn mlX5_309 (by decide) (Nat.le_of_ble_eq_true rfl) ((sheet_at (tn q13)).2).k1 ((sheet_at (tn q14)).2).k1 ((sheet_at (tn q13)).2).i1 ((sheet_at (tn q14)).2).i1 q29 dX5_copy_110 rfl (fun u30 e31 => ?_)
                have h := h u30 e31
                refine V_iload 5 rfl dX5_copy_113 rfl ?_
                exact V_iret dX5_copy_115 (Or.inl rfl) h
              · have h := h.2 hc
                refine V_bipush (by decide) dX5_copy_92 rfl ?_
                exact V_iret dX5_copy_94 (Or.inl rfl) h
          · have h := h.2 hc
            refine V_bipush (by decide) dX5_copy_66 rfl ?_
            exact V_iret dX5_copy_68 (Or.inl rfl) h
        · have h := h.2 hc
          refine V_bipush (by decide) dX5_copy_50 rfl ?_
          exact V_iret dX5_copy_52 (Or.inl rfl) h
    · have h := h.2 hc
      refine V_iconst dX5_copy_14 rfl ?_
      exact V_iret dX5_copy_15 (Or.inl rfl) h
theorem eX5_noSheet {G : GG} {Q : Int → Mem → Prop} {t : Mem} {v0 : Int} (k : V G mX5_noSheet 0 [(0, II v0)] [] t Q) : Ex G mX5_noSheet [II v0] t Q := Ex.of plX5 (Or.inr (Or.inr rfl)) (Nat.le_of_ble_eq_true rfl) rfl k
set_option maxRecDepth 100000 in
theorem sgX5_noSheet_0 {G : GG} {Q : Int → Mem → Prop} {t : Mem} {v0 : Int}  (h : ∃ P1 : Int → Mem → Prop, Ex G mX5_outside [II v0, II 0, II 3] t P1 ∧ ∀ (r3 : Int) (u4 : Mem), P1 r3 u4 → (r3 = 0 ∨ r3 = 1) ∧ Q r3 u4) : V G mX5_noSheet 0 [(0, II v0)] [] t Q := by
  refine V_iload_n 0 rfl dX5_noSheet_0 rfl ?_
  refine V_iconst dX5_noSheet_1 rfl ?_
  refine V_iconst dX5_noSheet_2 rfl ?_
  obtain ⟨P1, c2, h⟩ := h
  refine V_callSi (st := []) (as := [II v0, II 0, II 3]) okX5_outside rfl mlX5_69 (by decide) rfl (Nat.le_of_ble_eq_true rfl) rfl dX5_noSheet_3 rfl c2 (fun r3 u4 e5 => ?_)
  have h := h r3 u4 e5
  exact V_iret dX5_noSheet_6 (Or.inr ⟨rfl, h.1⟩) h.2
theorem eX5_outside {G : GG} {Q : Int → Mem → Prop} {t : Mem} {v0 v1 v2 : Int} (k : V G mX5_outside 0 [(0, II v0), (1, II v1), (2, II v2)] [] t Q) : Ex G mX5_outside [II v0, II v1, II v2] t Q := Ex.of plX5 (Or.inr (Or.inr rfl)) (Nat.le_of_ble_eq_true rfl) rfl k
set_option maxRecDepth 100000 in
theorem sgX5_outside_0 {G : GG} {Q : Int → Mem → Prop} {t : Mem} {v0 v1 v2 : Int}  (h : In32 v0 ∧ In32 v1 ∧ (v0 < v1 → Q 1 t) ∧ (¬ v0 < v1 → In32 v2 ∧ Q (if v0 ≤ v2 then 0 else 1) t)) : V G mX5_outside 0 [(0, II v0), (1, II v1), (2, II v2)] [] t Q := by
  refine V_iload_n 0 rfl dX5_outside_0 rfl ?_
  refine V_iload_n 1 rfl dX5_outside_1 rfl ?_
  obtain ⟨q1, h⟩ := h
  obtain ⟨q2, h⟩ := h
  refine V_icmp_lt q1 q2 dX5_outside_2 (g := 10) rfl rfl ⟨fun hc => ?_, fun hc => ?_⟩
  · have h := h.1 hc
    refine V_iconst dX5_outside_10 rfl ?_
    refine V_goto (g := 15) dX5_outside_11 rfl ?_
    exact V_iret dX5_outside_15 (Or.inr ⟨rfl, by decide⟩) h
  · have h := h.2 hc
    refine V_iload_n 0 rfl dX5_outside_5 rfl ?_
    refine V_iload_n 2 rfl dX5_outside_6 rfl ?_
    obtain ⟨q3, h⟩ := h
    have hj8 : V G mX5_outside 15 [(0, II v0), (1, II v1), (2, II v2)] [II (if v0 ≤ v2 then 0 else 1)] t Q := by
      exact V_iret dX5_outside_15 (Or.inr ⟨rfl, by split <;> simp⟩) h
    refine V_icmp_le q1 q3 dX5_outside_7 (g := 14) rfl rfl ⟨fun hc => ?_, fun hc => ?_⟩
    · skip
      refine V_iconst dX5_outside_14 rfl ?_
      rw [if_pos hc] at hj8
      exact hj8
    · skip
      refine V_iconst dX5_outside_10 rfl ?_
      refine V_goto (g := 15) dX5_outside_11 rfl ?_
      rw [if_neg hc] at hj8
      exact hj8
theorem eX5_milky {G : GG} {Q : Int → Mem → Prop} {t : Mem} {v0 : Int} (k : V G mX5_milky 0 [(0, II v0)] [] t Q) : Ex G mX5_milky [II v0] t Q := Ex.of plX5 (Or.inr (Or.inr rfl)) (Nat.le_of_ble_eq_true rfl) rfl k
set_option maxRecDepth 100000 in
theorem sgX5_milky_0 {G : GG} {Q : Int → Mem → Prop} {t : Mem} {v0 : Int}  (h : In32 v0 ∧ (v0 = 1 → Q 1 t) ∧ (¬ v0 = 1 → Q (if v0 = 3 then 1 else 0) t)) : V G mX5_milky 0 [(0, II v0)] [] t Q := by
  refine V_iload_n 0 rfl dX5_milky_0 rfl ?_
  refine V_iconst dX5_milky_1 rfl ?_
  obtain ⟨q1, h⟩ := h
  refine V_icmp_eq q1 (iL rfl) dX5_milky_2 (g := 10) rfl rfl ⟨fun hc => ?_, fun hc => ?_⟩
  · have h := h.1 hc
    refine V_iconst dX5_milky_10 rfl ?_
    refine V_goto (g := 15) dX5_milky_11 rfl ?_
    exact V_iret dX5_milky_15 (Or.inr ⟨rfl, by decide⟩) h
  · have h := h.2 hc
    refine V_iload_n 0 rfl dX5_milky_5 rfl ?_
    refine V_iconst dX5_milky_6 rfl ?_
    have hj6 : V G mX5_milky 15 [(0, II v0)] [II (if v0 = 3 then 1 else 0)] t Q := by
      exact V_iret dX5_milky_15 (Or.inr ⟨rfl, by split <;> simp⟩) h
    refine V_icmp_ne q1 (iL rfl) dX5_milky_7 (g := 14) rfl rfl ⟨fun hc => ?_, fun hc => ?_⟩
    · skip
      refine V_iconst dX5_milky_14 rfl ?_
      rw [if_neg hc] at hj6
      exact hj6
    · skip
      refine V_iconst dX5_milky_10 rfl ?_
      refine V_goto (g := 15) dX5_milky_11 rfl ?_
      rw [if_pos hc] at hj6
      exact hj6
theorem eX5_gulp {G : GG} {Q : Int → Mem → Prop} {t : Mem} {v0 : Int} (k : V G mX5_gulp 0 [(0, II v0)] [] t Q) : Ex G mX5_gulp [II v0] t Q := Ex.of plX5 (Or.inr (Or.inl rfl)) (Nat.le_of_ble_eq_true rfl) rfl k
set_option maxRecDepth 100000 in
theorem sgX5_gulp_0 {G : GG} {Q : Int → Mem → Prop} {t : Mem} {v0 : Int}  (h : In32 v0 ∧ (v0 = 2 → Q 2 t) ∧ (v0 = 3 → Q 8 t) ∧ ((v0 ≠ 2 ∧ v0 ≠ 3) → Q 4 t)) : V G mX5_gulp 0 [(0, II v0)] [] t Q := by
  refine V_iload_n 0 rfl dX5_gulp_0 rfl ?_
  obtain ⟨q1, h⟩ := h
  have hs2 : v0 = 2 ∨ v0 = 3 ∨ (v0 ≠ 2 ∧ v0 ≠ 3) := by omega
  rcases hs2 with hc | hc | hc
  · have h := h.1 hc
    refine V_look (g := 28) (f := 27) dX5_gulp_1 q1 (by decide) (by rw [hc]; decide) rfl ?_
    refine V_iconst dX5_gulp_28 rfl ?_
    exact V_iret dX5_gulp_29 (Or.inl rfl) h
  · have h := h.2.1 hc
    refine V_look (g := 30) (f := 29) dX5_gulp_1 q1 (by decide) (by rw [hc]; decide) rfl ?_
    refine V_bipush (by decide) dX5_gulp_30 rfl ?_
    exact V_iret dX5_gulp_32 (Or.inl rfl) h
  · have h := h.2.2 hc
    refine V_look (g := 33) (f := 32) dX5_gulp_1 q1 (by decide) (lk_out2 hc) rfl ?_
    refine V_iconst dX5_gulp_33 rfl ?_
    exact V_iret dX5_gulp_34 (Or.inl rfl) h
