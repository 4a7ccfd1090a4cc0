theorem eX6_done {G : GG} {Q : Int → Mem → Prop} {t : Mem} {v1 : Int} (k : V G mX6_done 0 [(0, RR 132), (1, II v1)] [] t Q) : Ex G mX6_done [RR 132, II v1] t Q := Ex.of plX6 (Or.inr (Or.inl rfl)) (Nat.le_of_ble_eq_true rfl) rfl k
set_option maxRecDepth 100000 in
theorem sgX6_done_0 {G : GG} {Q : Int → Mem → Prop} {t : Mem} {v1 : Int}  (h : ∃ P1 : Int → Mem → Prop, Ex G mX6_isBeast [RR 132, II v1] t P1 ∧ ∀ (r3 : Int) (u4 : Mem), P1 r3 u4 → In32 r3 ∧ (¬ r3 = 0 → ∃ P7 : Int → Mem → Prop, Ex G mX6_asides [RR 132] u4 P7 ∧ ∀ u10 : Mem, P7 0 u10 → ∃ P12 : Int → Mem → Prop, Ex G mX6_goesOn [RR 132, II 0] u10 P12 ∧ ∀ (r14 : Int) (u15 : Mem), P12 r14 u15 → (0 ≤ v1 ∧ v1 < 7) ∧ Q (u15 137 v1.toNat) u15) ∧ (r3 = 0 → Q (-1) u4)) : V G mX6_done 0 [(0, RR 132), (1, II v1)] [] t Q := by
  refine V_aload_n 0 rfl dX6_done_0 rfl ?_
  refine V_iload_n 1 rfl dX6_done_1 rfl ?_
  obtain ⟨P1, c2, h⟩ := h
  refine V_callVi (st := []) (as := [II v1]) okX6_isBeast rfl mlX6_77 (by decide) kY132 rfl (Nat.le_of_ble_eq_true rfl) rfl dX6_done_2 rfl c2 (fun r3 u4 e5 => ?_)
  have h := h r3 u4 e5
  obtain ⟨q6, h⟩ := h
  refine V_if_ne q6 dX6_done_5 (g := 10) rfl rfl ⟨fun hc => ?_, fun hc => ?_⟩
  · have h := h.1 hc
    refine V_aload_n 0 rfl dX6_done_10 rfl ?_
    obtain ⟨P7, c8, h⟩ := h
    refine V_callVv (st := []) (as := []) okX6_asides rfl mlX6_142 (by decide) kY132 rfl (Nat.le_of_ble_eq_true rfl) rfl dX6_done_11 rfl c8 (fun u10 e11 => ?_)
    have h := h u10 e11
    refine V_aload_n 0 rfl dX6_done_14 rfl ?_
    refine V_iconst dX6_done_15 rfl ?_
    obtain ⟨P12, c13, h⟩ := h
    refine V_callVi (st := []) (as := [II 0]) okX6_goesOn rfl mlX6_148 (by decide) kY132 rfl (Nat.le_of_ble_eq_true rfl) rfl dX6_done_16 rfl c13 (fun r14 u15 e16 => ?_)
    have h := h r14 u15 e16
    refine V_pop rfl dX6_done_19 rfl ?_
    refine V_aload_n 0 rfl dX6_done_20 rfl ?_
    refine gX6_26 rfl kY132 rF132_7 dX6_done_21 rfl ?_
    refine V_iload_n 1 rfl dX6_done_24 rfl ?_
    obtain ⟨q17, h⟩ := h
    refine V_ialdn kY137 lI137 q17 dX6_done_25 rfl ?_
    exact V_iret dX6_done_26 (Or.inl rfl) h
  · have h := h.2 hc
    refine V_iconst dX6_done_8 rfl ?_
    exact V_iret dX6_done_9 (Or.inl rfl) h
theorem eX6_all {G : GG} {Q : Int → Mem → Prop} {t : Mem} (k : V G mX6_all 0 [(0, RR 132)] [] t Q) : Ex G mX6_all [RR 132] t Q := Ex.of plX6 (Or.inr (Or.inl rfl)) (Nat.le_of_ble_eq_true rfl) rfl k
set_option maxRecDepth 100000 in
theorem sgX6_all_0 {G : GG} {Q : Int → Mem → Prop} {t : Mem}  (h : ∃ P1 : Int → Mem → Prop, Ex G mX6_asides [RR 132] t P1 ∧ ∀ u4 : Mem, P1 0 u4 → ∃ P6 : Int → Mem → Prop, Ex G mX6_others [RR 132] u4 P6 ∧ ∀ (r8 : Int) (u9 : Mem), P6 r8 u9 → ∃ P11 : Int → Mem → Prop, Ex G mX6_goesOn [RR 132, II r8] u9 P11 ∧ ∀ (r13 : Int) (u14 : Mem), P11 r13 u14 → Q r13 u14) : V G mX6_all 0 [(0, RR 132)] [] t Q := by
  refine V_aload_n 0 rfl dX6_all_0 rfl ?_
  obtain ⟨P1, c2, h⟩ := h
  refine V_callVv (st := []) (as := []) okX6_asides rfl mlX6_142 (by decide) kY132 rfl (Nat.le_of_ble_eq_true rfl) rfl dX6_all_1 rfl c2 (fun u4 e5 => ?_)
  have h := h u4 e5
  refine V_aload_n 0 rfl dX6_all_4 rfl ?_
  refine V_aload_n 0 rfl dX6_all_5 rfl ?_
  obtain ⟨P6, c7, h⟩ := h
  refine V_callVi (st := [RR 132]) (as := []) okX6_others rfl mlX6_151 (by decide) kY132 rfl (Nat.le_of_ble_eq_true rfl) rfl dX6_all_6 rfl c7 (fun r8 u9 e10 => ?_)
  have h := h r8 u9 e10
  obtain ⟨P11, c12, h⟩ := h
  refine V_callVi (st := []) (as := [II r8]) okX6_goesOn rfl mlX6_148 (by decide) kY132 rfl (Nat.le_of_ble_eq_true rfl) rfl dX6_all_9 rfl c12 (fun r13 u14 e15 => ?_)
  have h := h r13 u14 e15
  exact V_iret dX6_all_12 (Or.inl rfl) h
theorem eX6_height {G : GG} {Q : Int → Mem → Prop} {t : Mem} {v1 : Int} (k : V G mX6_height 0 [(0, RR 132), (1, II v1)] [] t Q) : Ex G mX6_height [RR 132, II v1] t Q := Ex.of plX6 (Or.inr (Or.inl rfl)) (Nat.le_of_ble_eq_true rfl) rfl k
set_option maxRecDepth 100000 in
theorem sgX6_height_0 {G : GG} {Q : Int → Mem → Prop} {t : Mem} {v1 : Int}  (h : In32 v1 ∧ ∃ P2 : Int → Mem → Prop, Ex G mX6_in [JJ v1, JJ 0, JJ 1] t P2 ∧ ∀ (r4 : Int) (u5 : Mem), P2 r4 u5 → In32 r4 ∧ (¬ r4 = 0 → ∃ P8 : Int → Mem → Prop, Ex G mX6_asides [RR 132] u5 P8 ∧ ∀ u11 : Mem, P8 0 u11 → V G mX6_height 25 [(0, RR 132), (1, II v1), (2, II (-4)), (3, II (-4)), (4, II 0)] [] u11 Q) ∧ (r4 = 0 → Q (-1) u5)) : V G mX6_height 0 [(0, RR 132), (1, II v1)] [] t Q := by
  refine V_iload_n 1 rfl dX6_height_0 rfl ?_
  obtain ⟨q1, h⟩ := h
  refine V_i2l q1 dX6_height_1 rfl ?_
  refine V_lconst (z := 0) rfl dX6_height_2 rfl ?_
  refine V_lconst (z := 1) rfl dX6_height_3 rfl ?_
  obtain ⟨P2, c3, h⟩ := h
  refine V_callSi (st := []) (as := [JJ v1, JJ 0, JJ 1]) okX6_in rfl mlX6_51 (by decide) rfl (Nat.le_of_ble_eq_true rfl) rfl dX6_height_4 rfl c3 (fun r4 u5 e6 => ?_)
  have h := h r4 u5 e6
  obtain ⟨q7, h⟩ := h
  refine V_if_ne q7 dX6_height_7 (g := 12) rfl rfl ⟨fun hc => ?_, fun hc => ?_⟩
  · have h := h.1 hc
    refine V_aload_n 0 rfl dX6_height_12 rfl ?_
    obtain ⟨P8, c9, h⟩ := h
    refine V_callVv (st := []) (as := []) okX6_asides rfl mlX6_142 (by decide) kY132 rfl (Nat.le_of_ble_eq_true rfl) rfl dX6_height_13 rfl c9 (fun u11 e12 => ?_)
    have h := h u11 e12
    refine V_bipush (by decide) dX6_height_16 rfl ?_
    refine V_istore_n (ls2 := [(0, RR 132), (1, II v1), (2, II (-4))]) dX6_height_18 rfl (by decide) rfl ?_
    refine V_bipush (by decide) dX6_height_19 rfl ?_
    refine V_istore_n (ls2 := [(0, RR 132), (1, II v1), (2, II (-4)), (3, II (-4))]) dX6_height_21 rfl (by decide) rfl ?_
    refine V_iconst dX6_height_22 rfl ?_
    refine V_istore (ls2 := [(0, RR 132), (1, II v1), (2, II (-4)), (3, II (-4)), (4, II 0)]) dX6_height_23 rfl (by decide) rfl ?_
    exact h
  · have h := h.2 hc
    refine V_iconst dX6_height_10 rfl ?_
    exact V_iret dX6_height_11 (Or.inl rfl) h
set_option maxRecDepth 100000 in
theorem sgX6_height_25 {G : GG} {Q : Int → Mem → Prop} {t : Mem} {v1 v2 v3 v4 : Int}  (h : In32 v4 ∧ (61 ≤ v4 → In32 v1 ∧ ∀ w3 : Int, w3 = (if v1 = 0 then v2 else v3) → Q w3 t) ∧ (¬ 61 ≤ v4 → ∀ u8 : Mem, u8 = wr t 133 5 v4 → ∃ P10 : Int → Mem → Prop, Ex G mX6_others [RR 132] u8 P10 ∧ ∀ (r12 : Int) (u13 : Mem), P10 r12 u13 → ∃ P15 : Int → Mem → Prop, Ex G mX6_goesOn [RR 132, II r12] u13 P15 ∧ ∀ (r17 : Int) (u18 : Mem), P15 r17 u18 → In32 r17 ∧ (r17 = (-4) → ∀ w21 : Int, w21 = (if (0 : Int) = 0 then v2 else v4) → ∀ w26 : Int, w26 = (if (0 : Int) = 0 then v3 else r17) → V G mX6_height 25 [(0, RR 132), (1, II v1), (2, II w21), (3, II w26), (4, II (v4 + 1))] [] u18 Q) ∧ (¬ r17 = (-4) → In32 v3 ∧ (v3 = (-4) → ∀ w32 : Int, w32 = (if (1 : Int) = 0 then v2 else v4) → ∀ w37 : Int, w37 = (if (1 : Int) = 0 then v3 else r17) → V G mX6_height 25 [(0, RR 132), (1, II v1), (2, II w32), (3, II w37), (4, II (v4 + 1))] [] u18 Q) ∧ (¬ v3 = (-4) → ∀ w47 : Int, w47 = (if (if v3 ≤ r17 then 0 else 1 : Int) = 0 then v2 else v4) → ∀ w52 : Int, w52 = (if (if v3 ≤ r17 then 0 else 1 : Int) = 0 then v3 else r17) → V G mX6_height 25 [(0, RR 132), (1, II v1), (2, II w47), (3, II w52), (4, II (v4 + 1))] [] u18 Q)))) : V G mX6_height 25 [(0, RR 132), (1, II v1), (2, II v2), (3, II v3), (4, II v4)] [] t Q := by
  refine V_iload 4 rfl dX6_height_25 rfl ?_
  refine V_bipush (by decide) dX6_height_27 rfl ?_
  obtain ⟨q1, h⟩ := h
  refine V_icmp_ge q1 (iL rfl) dX6_height_29 (g := 106) rfl rfl ⟨fun hc => ?_, fun hc => ?_⟩
  · have h := h.1 hc
    refine V_iload_n 1 rfl dX6_height_106 rfl ?_
    obtain ⟨q2, h⟩ := h
    have hj7 : ∀ w3 : Int, w3 = (if v1 = 0 then v2 else v3) → V G mX6_height 115 [(0, RR 132), (1, II v1), (2, II v2), (3, II v3), (4, II v4)] [II w3] t Q := by
      intro w3 e4
      have h := h w3 e4
      exact V_iret dX6_height_115 (Or.inl rfl) h
    have hj7 := hj7 _ rfl
    refine V_if_ne q2 dX6_height_107 (g := 114) rfl rfl ⟨fun hc => ?_, fun hc => ?_⟩
    · skip
      refine V_iload_n 3 rfl dX6_height_114 rfl ?_
      rw [if_neg hc] at hj7
      exact hj7
    · skip
      refine V_iload_n 2 rfl dX6_height_110 rfl ?_
      refine V_goto (g := 115) dX6_height_111 rfl ?_
      rw [if_pos hc] at hj7
      exact hj7
  · have h := h.2 hc
    refine V_aload_n 0 rfl dX6_height_32 rfl ?_
    refine gX6_7 rfl kY132 rF132_0 dX6_height_33 rfl ?_
    refine V_iconst dX6_height_36 rfl ?_
    refine V_iload 4 rfl dX6_height_37 rfl ?_
    refine V_iastL 5 rfl kY133 lI133 rfl dX6_height_39 rfl (fun u8 e9 => ?_)
    have h := h u8 e9
    refine V_aload_n 0 rfl dX6_height_40 rfl ?_
    refine V_aload_n 0 rfl dX6_height_41 rfl ?_
    obtain ⟨P10, c11, h⟩ := h
    refine V_callVi (st := [RR 132]) (as := []) okX6_others rfl mlX6_151 (by decide) kY132 rfl (Nat.le_of_ble_eq_true rfl) rfl dX6_height_42 rfl c11 (fun r12 u13 e14 => ?_)
    have h := h r12 u13 e14
    obtain ⟨P15, c16, h⟩ := h
    refine V_callVi (st := []) (as := [II r12]) okX6_goesOn rfl mlX6_148 (by decide) kY132 rfl (Nat.le_of_ble_eq_true rfl) rfl dX6_height_45 rfl c16 (fun r17 u18 e19 => ?_)
    have h := h r17 u18 e19
    refine V_istore (ls2 := [(0, RR 132), (1, II v1), (2, II v2), (3, II v3), (4, II v4), (5, II r17)]) dX6_height_48 rfl (by decide) rfl ?_
    refine V_iload 5 rfl dX6_height_50 rfl ?_
    refine V_bipush (by decide) dX6_height_52 rfl ?_
    obtain ⟨q20, h⟩ := h
    refine V_icmp_eq q20 (iL rfl) dX6_height_54 (g := 73) rfl rfl ⟨fun hc => ?_, fun hc => ?_⟩
    · have h := h.1 hc
      refine V_iconst dX6_height_73 rfl ?_
      refine V_istore (ls2 := [(0, RR 132), (1, II v1), (2, II v2), (3, II v3), (4, II v4), (5, II r17), (6, II 0)]) dX6_height_74 rfl (by decide) rfl ?_
      refine V_iload 6 rfl dX6_height_76 rfl ?_
      have hj25 : ∀ w21 : Int, w21 = (if (0 : Int) = 0 then v2 else v4) → V G mX6_height 87 [(0, RR 132), (1, II v1), (2, II v2), (3, II v3), (4, II v4), (5, II r17), (6, II 0)] [II w21] u18 Q := by
        intro w21 e22
        have h := h w21 e22
        refine V_istore_n (ls2 := [(0, RR 132), (1, II v1), (2, II w21), (3, II v3), (4, II v4), (5, II r17), (6, II 0)]) dX6_height_87 rfl (by decide) rfl ?_
        refine V_iload 6 rfl dX6_height_88 rfl ?_
        have hj30 : ∀ w26 : Int, w26 = (if (0 : Int) = 0 then v3 else r17) → V G mX6_height 99 [(0, RR 132), (1, II v1), (2, II w21), (3, II v3), (4, II v4), (5, II r17), (6, II 0)] [II w26] u18 Q := by
          intro w26 e27
          have h := h w26 e27
          refine V_istore_n (ls2 := [(0, RR 132), (1, II v1), (2, II w21), (3, II w26), (4, II v4), (5, II r17), (6, II 0)]) dX6_height_99 rfl (by decide) rfl ?_
          refine V_iinc 4 rfl (ls2 := [(0, RR 132), (1, II v1), (2, II w21), (3, II w26), (4, II (v4 + 1)), (5, II r17), (6, II 0)]) dX6_height_100 rfl (by decide) rfl ?_
          refine V_goto (g := 25) dX6_height_103 rfl ?_
          exact V_sub (by intro q hq; simp only [List.mem_cons, List.not_mem_nil, or_false] at hq ⊢; first | (rcases hq with rfl | rfl | rfl | rfl | rfl <;> simp)) h
        have hj30 := hj30 _ rfl
        refine V_if_eq (iL rfl) dX6_height_90 (g := 98) rfl rfl ⟨fun hc => ?_, fun hc => ?_⟩
        · skip
          refine V_iload_n 3 rfl dX6_height_98 rfl ?_
          rw [if_pos hc] at hj30
          exact hj30
        · skip
          refine V_iload 5 rfl dX6_height_93 rfl ?_
          refine V_goto (g := 99) dX6_height_95 rfl ?_
          rw [if_neg hc] at hj30
          exact hj30
      have hj25 := hj25 _ rfl
      refine V_if_eq (iL rfl) dX6_height_78 (g := 86) rfl rfl ⟨fun hc => ?_, fun hc => ?_⟩
      · skip
        refine V_iload_n 2 rfl dX6_height_86 rfl ?_
        rw [if_pos hc] at hj25
        exact hj25
      · skip
        refine V_iload 4 rfl dX6_height_81 rfl ?_
        refine V_goto (g := 87) dX6_height_83 rfl ?_
        rw [if_neg hc] at hj25
        exact hj25
    · have h := h.2 hc
      refine V_iload_n 3 rfl dX6_height_57 rfl ?_
      refine V_bipush (by decide) dX6_height_58 rfl ?_
      obtain ⟨q31, h⟩ := h
      refine V_icmp_eq q31 (iL rfl) dX6_height_60 (g := 69) rfl rfl ⟨fun hc => ?_, fun hc => ?_⟩
      · have h := h.1 hc
        refine V_iconst dX6_height_69 rfl ?_
        refine V_goto (g := 74) dX6_height_70 rfl ?_
        refine V_istore (ls2 := [(0, RR 132), (1, II v1), (2, II v2), (3, II v3), (4, II v4), (5, II r17), (6, II 1)]) dX6_height_74 rfl (by decide) rfl ?_
        refine V_iload 6 rfl dX6_height_76 rfl ?_
        have hj36 : ∀ w32 : Int, w32 = (if (1 : Int) = 0 then v2 else v4) → V G mX6_height 87 [(0, RR 132), (1, II v1), (2, II v2), (3, II v3), (4, II v4), (5, II r17), (6, II 1)] [II w32] u18 Q := by
          intro w32 e33
          have h := h w32 e33
          refine V_istore_n (ls2 := [(0, RR 132), (1, II v1), (2, II w32), (3, II v3), (4, II v4), (5, II r17), (6, II 1)]) dX6_height_87 rfl (by decide) rfl ?_
          refine V_iload 6 rfl dX6_height_88 rfl ?_
          have hj41 : ∀ w37 : Int, w37 = (if (1 : Int) = 0 then v3 else r17) → V G mX6_height 99 [(0, RR 132), (1, II v1), (2, II w32), (3, II v3), (4, II v4), (5, II r17), (6, II 1)] [II w37] u18 Q := by
            intro w37 e38
            have h := h w37 e38
            refine V_istore_n (ls2 := [(0, RR 132), (1, II v1), (2, II w32), (3, II w37), (4, II v4), (5, II r17), (6, II 1)]) dX6_height_99 rfl (by decide) rfl ?_
            refine V_iinc 4 rfl (ls2 := [(0, RR 132), (1, II v1), (2, II w32), (3, II w37), (4, II (v4 + 1)), (5, II r17), (6, II 1)]) dX6_height_100 rfl (by decide) rfl ?_
            refine V_goto (g := 25) dX6_height_103 rfl ?_
            exact V_sub (by intro q hq; simp only [List.mem_cons, List.not_mem_nil, or_false] at hq ⊢; first | (rcases hq with rfl | rfl | rfl | rfl | rfl <;> simp)) h
          have hj41 := hj41 _ rfl
          refine V_if_eq (iL rfl) dX6_height_90 (g := 98) rfl rfl ⟨fun hc => ?_, fun hc => ?_⟩
          · skip
            refine V_iload_n 3 rfl dX6_height_98 rfl ?_
            rw [if_pos hc] at hj41
            exact hj41
          · skip
            refine V_iload 5 rfl dX6_height_93 rfl ?_
            refine V_goto (g := 99) dX6_height_95 rfl ?_
            rw [if_neg hc] at hj41
            exact hj41
        have hj36 := hj36 _ rfl
        refine V_if_eq (iL rfl) dX6_height_78 (g := 86) rfl rfl ⟨fun hc => ?_, fun hc => ?_⟩
        · skip
          refine V_iload_n 2 rfl dX6_height_86 rfl ?_
          rw [if_pos hc] at hj36
          exact hj36
        · skip
          refine V_iload 4 rfl dX6_height_81 rfl ?_
          refine V_goto (g := 87) dX6_height_83 rfl ?_
          rw [if_neg hc] at hj36
          exact hj36
      · have h := h.2 hc
        refine V_iload 5 rfl dX6_height_63 rfl ?_
        refine V_iload_n 3 rfl dX6_height_65 rfl ?_
        have hj46 : V G mX6_height 74 [(0, RR 132), (1, II v1), (2, II v2), (3, II v3), (4, II v4), (5, II r17)] [II (if v3 ≤ r17 then 0 else 1)] u18 Q := by
          refine V_istore (ls2 := [(0, RR 132), (1, II v1), (2, II v2), (3, II v3), (4, II v4), (5, II r17), (6, II (if v3 ≤ r17 then 0 else 1))]) dX6_height_74 rfl (by decide) rfl ?_
          refine V_iload 6 rfl dX6_height_76 rfl ?_
          have hj51 : ∀ w47 : Int, w47 = (if (if v3 ≤ r17 then 0 else 1 : Int) = 0 then v2 else v4) → V G mX6_height 87 [(0, RR 132), (1, II v1), (2, II v2), (3, II v3), (4, II v4), (5, II r17), (6, II (if v3 ≤ r17 then 0 else 1))] [II w47] u18 Q := by
            intro w47 e48
            have h := h w47 e48
            refine V_istore_n (ls2 := [(0, RR 132), (1, II v1), (2, II w47), (3, II v3), (4, II v4), (5, II r17), (6, II (if v3 ≤ r17 then 0 else 1))]) dX6_height_87 rfl (by decide) rfl ?_
            refine V_iload 6 rfl dX6_height_88 rfl ?_
            have hj56 : ∀ w52 : Int, w52 = (if (if v3 ≤ r17 then 0 else 1 : Int) = 0 then v3 else r17) → V G mX6_height 99 [(0, RR 132), (1, II v1), (2, II w47), (3, II v3), (4, II v4), (5, II r17), (6, II (if v3 ≤ r17 then 0 else 1))] [II w52] u18 Q := by
              intro w52 e53
              have h := h w52 e53
              refine V_istore_n (ls2 := [(0, RR 132), (1, II v1), (2, II w47), (3, II w52), (4, II v4), (5, II r17), (6, II (if v3 ≤ r17 then 0 else 1))]) dX6_height_99 rfl (by decide) rfl ?_
              refine V_iinc 4 rfl (ls2 := [(0, RR 132), (1, II v1), (2, II w47), (3, II w52), (4, II (v4 + 1)), (5, II r17), (6, II (if v3 ≤ r17 then 0 else 1))]) dX6_height_100 rfl (by decide) rfl ?_
              refine V_goto (g := 25) dX6_height_103 rfl ?_
              exact V_sub (by intro q hq; simp only [List.mem_cons, List.not_mem_nil, or_false] at hq ⊢; first | (rcases hq with rfl | rfl | rfl | rfl | rfl <;> simp)) h
            have hj56 := hj56 _ rfl
            refine V_if_eq (by split <;> exact iL rfl) dX6_height_90 (g := 98) rfl rfl ⟨fun hc => ?_, fun hc => ?_⟩
            · skip
              refine V_iload_n 3 rfl dX6_height_98 rfl ?_
              rw [if_pos hc] at hj56
              exact hj56
            · skip
              refine V_iload 5 rfl dX6_height_93 rfl ?_
              refine V_goto (g := 99) dX6_height_95 rfl ?_
              rw [if_neg hc] at hj56
              exact hj56
          have hj51 := hj51 _ rfl
          refine V_if_eq (by split <;> exact iL rfl) dX6_height_78 (g := 86) rfl rfl ⟨fun hc => ?_, fun hc => ?_⟩
          · skip
            refine V_iload_n 2 rfl dX6_height_86 rfl ?_
            rw [if_pos hc] at hj51
            exact hj51
          · skip
            refine V_iload 4 rfl dX6_height_81 rfl ?_
            refine V_goto (g := 87) dX6_height_83 rfl ?_
            rw [if_neg hc] at hj51
            exact hj51
        refine V_icmp_ge q20 q31 dX6_height_66 (g := 73) rfl rfl ⟨fun hc => ?_, fun hc => ?_⟩
        · skip
          refine V_iconst dX6_height_73 rfl ?_
          rw [if_pos hc] at hj46
          exact hj46
        · skip
          refine V_iconst dX6_height_69 rfl ?_
          refine V_goto (g := 74) dX6_height_70 rfl ?_
          rw [if_neg hc] at hj46
          exact hj46
theorem eX6_pulls {G : GG} {Q : Int → Mem → Prop} {t : Mem} {v1 : Int} (k : V G mX6_pulls 0 [(0, RR 132), (1, II v1)] [] t Q) : Ex G mX6_pulls [RR 132, II v1] t Q := Ex.of plX6 (Or.inr (Or.inl rfl)) (Nat.le_of_ble_eq_true rfl) rfl k
set_option maxRecDepth 100000 in
theorem sgX6_pulls_0 {G : GG} {Q : Int → Mem → Prop} {t : Mem} {v1 : Int}  (h : In32 v1 ∧ ∃ P2 : Int → Mem → Prop, Ex G mX6_in [JJ v1, JJ 0, JJ 1] t P2 ∧ ∀ (r4 : Int) (u5 : Mem), P2 r4 u5 → In32 r4 ∧ (¬ r4 = 0 → ∃ P8 : Int → Mem → Prop, Ex G mX6_asides [RR 132] u5 P8 ∧ ∀ u11 : Mem, P8 0 u11 → V G mX6_pulls 25 [(0, RR 132), (1, II v1), (2, II (-4)), (3, II (-4)), (4, II (-1))] [] u11 Q) ∧ (r4 = 0 → Q (-1) u5)) : V G mX6_pulls 0 [(0, RR 132), (1, II v1)] [] t Q := by
  refine V_iload_n 1 rfl dX6_pulls_0 rfl ?_
  obtain ⟨q1, h⟩ := h
  refine V_i2l q1 dX6_pulls_1 rfl ?_
  refine V_lconst (z := 0) rfl dX6_pulls_2 rfl ?_
  refine V_lconst (z := 1) rfl dX6_pulls_3 rfl ?_
  obtain ⟨P2, c3, h⟩ := h
  refine V_callSi (st := []) (as := [JJ v1, JJ 0, JJ 1]) okX6_in rfl mlX6_51 (by decide) rfl (Nat.le_of_ble_eq_true rfl) rfl dX6_pulls_4 rfl c3 (fun r4 u5 e6 => ?_)
  have h := h r4 u5 e6
  obtain ⟨q7, h⟩ := h
  refine V_if_ne q7 dX6_pulls_7 (g := 12) rfl rfl ⟨fun hc => ?_, fun hc => ?_⟩
  · have h := h.1 hc
    refine V_aload_n 0 rfl dX6_pulls_12 rfl ?_
    obtain ⟨P8, c9, h⟩ := h
    refine V_callVv (st := []) (as := []) okX6_asides rfl mlX6_142 (by decide) kY132 rfl (Nat.le_of_ble_eq_true rfl) rfl dX6_pulls_13 rfl c9 (fun u11 e12 => ?_)
    have h := h u11 e12
    refine V_bipush (by decide) dX6_pulls_16 rfl ?_
    refine V_istore_n (ls2 := [(0, RR 132), (1, II v1), (2, II (-4))]) dX6_pulls_18 rfl (by decide) rfl ?_
    refine V_bipush (by decide) dX6_pulls_19 rfl ?_
    refine V_istore_n (ls2 := [(0, RR 132), (1, II v1), (2, II (-4)), (3, II (-4))]) dX6_pulls_21 rfl (by decide) rfl ?_
    refine V_iconst dX6_pulls_22 rfl ?_
    refine V_istore (ls2 := [(0, RR 132), (1, II v1), (2, II (-4)), (3, II (-4)), (4, II (-1))]) dX6_pulls_23 rfl (by decide) rfl ?_
    exact h
  · have h := h.2 hc
    refine V_iconst dX6_pulls_10 rfl ?_
    exact V_iret dX6_pulls_11 (Or.inl rfl) h
set_option maxRecDepth 100000 in
theorem sgX6_pulls_25 {G : GG} {Q : Int → Mem → Prop} {t : Mem} {v1 v2 v3 v4 : Int}  (h : In32 v4 ∧ In32 (t 136 12) ∧ ((t 136 12) ≤ v4 → In32 v1 ∧ ∀ w4 : Int, w4 = (if v1 = 0 then v2 else v3) → Q w4 t) ∧ (¬ (t 136 12) ≤ v4 → ∀ w9 : Int, w9 = (if 0 ≤ v4 then v4 else (-4)) → ∀ u14 : Mem, u14 = wr t 133 10 w9 → ∃ P16 : Int → Mem → Prop, Ex G mX6_others [RR 132] u14 P16 ∧ ∀ (r18 : Int) (u19 : Mem), P16 r18 u19 → ∃ P21 : Int → Mem → Prop, Ex G mX6_goesOn [RR 132, II r18] u19 P21 ∧ ∀ (r23 : Int) (u24 : Mem), P21 r23 u24 → In32 r23 ∧ (r23 = (-4) → ((0 : Int) = 0 → ∀ w27 : Int, w27 = (if (0 : Int) = 0 then v3 else r23) → V G mX6_pulls 25 [(0, RR 132), (1, II v1), (2, II v2), (3, II w27), (4, II (v4 + 1))] [] u24 Q) ∧ (¬ (0 : Int) = 0 → ∀ w32 : Int, w32 = (if 0 ≤ v4 then v4 else 7) → ∀ w37 : Int, w37 = (if (0 : Int) = 0 then v3 else r23) → V G mX6_pulls 25 [(0, RR 132), (1, II v1), (2, II w32), (3, II w37), (4, II (v4 + 1))] [] u24 Q)) ∧ (¬ r23 = (-4) → In32 v3 ∧ (v3 = (-4) → ((1 : Int) = 0 → ∀ w43 : Int, w43 = (if (1 : Int) = 0 then v3 else r23) → V G mX6_pulls 25 [(0, RR 132), (1, II v1), (2, II v2), (3, II w43), (4, II (v4 + 1))] [] u24 Q) ∧ (¬ (1 : Int) = 0 → ∀ w48 : Int, w48 = (if 0 ≤ v4 then v4 else 7) → ∀ w53 : Int, w53 = (if (1 : Int) = 0 then v3 else r23) → V G mX6_pulls 25 [(0, RR 132), (1, II v1), (2, II w48), (3, II w53), (4, II (v4 + 1))] [] u24 Q)) ∧ (¬ v3 = (-4) → ((if v3 ≤ r23 then 0 else 1 : Int) = 0 → ∀ w63 : Int, w63 = (if (if v3 ≤ r23 then 0 else 1 : Int) = 0 then v3 else r23) → V G mX6_pulls 25 [(0, RR 132), (1, II v1), (2, II v2), (3, II w63), (4, II (v4 + 1))] [] u24 Q) ∧ (¬ (if v3 ≤ r23 then 0 else 1 : Int) = 0 → ∀ w68 : Int, w68 = (if 0 ≤ v4 then v4 else 7) → ∀ w73 : Int, w73 = (if (if v3 ≤ r23 then 0 else 1 : Int) = 0 then v3 else r23) → V G mX6_pulls 25 [(0, RR 132), (1, II v1), (2, II w68), (3, II w73), (4, II (v4 + 1))] [] u24 Q))))) : V G mX6_pulls 25 [(0, RR 132), (1, II v1), (2, II v2), (3, II v3), (4, II v4)] [] t Q := by
  refine V_iload 4 rfl dX6_pulls_25 rfl ?_
  refine V_aload_n 0 rfl dX6_pulls_27 rfl ?_
  refine gX6_23 rfl kY132 rF132_6 dX6_pulls_28 rfl ?_
  refine V_bipush (by decide) dX6_pulls_31 rfl ?_
  refine V_ialdL 12 rfl kY136 lI136 rfl dX6_pulls_33 rfl ?_
  obtain ⟨q1, h⟩ := h
  obtain ⟨q2, h⟩ := h
  refine V_icmp_ge q1 q2 dX6_pulls_34 (g := 132) rfl rfl ⟨fun hc => ?_, fun hc => ?_⟩
  · have h := h.1 hc
    refine V_iload_n 1 rfl dX6_pulls_132 rfl ?_
    obtain ⟨q3, h⟩ := h
    have hj8 : ∀ w4 : Int, w4 = (if v1 = 0 then v2 else v3) → V G mX6_pulls 141 [(0, RR 132), (1, II v1), (2, II v2), (3, II v3), (4, II v4)] [II w4] t Q := by
      intro w4 e5
      have h := h w4 e5
      exact V_iret dX6_pulls_141 (Or.inl rfl) h
    have hj8 := hj8 _ rfl
    refine V_if_ne q3 dX6_pulls_133 (g := 140) rfl rfl ⟨fun hc => ?_, fun hc => ?_⟩
    · skip
      refine V_iload_n 3 rfl dX6_pulls_140 rfl ?_
      rw [if_neg hc] at hj8
      exact hj8
    · skip
      refine V_iload_n 2 rfl dX6_pulls_136 rfl ?_
      refine V_goto (g := 141) dX6_pulls_137 rfl ?_
      rw [if_pos hc] at hj8
      exact hj8
  · have h := h.2 hc
    refine V_aload_n 0 rfl dX6_pulls_37 rfl ?_
    refine gX6_7 rfl kY132 rF132_0 dX6_pulls_38 rfl ?_
    refine V_bipush (by decide) dX6_pulls_41 rfl ?_
    refine V_iload 4 rfl dX6_pulls_43 rfl ?_
    have hj13 : ∀ w9 : Int, w9 = (if 0 ≤ v4 then v4 else (-4)) → V G mX6_pulls 55 [(0, RR 132), (1, II v1), (2, II v2), (3, II v3), (4, II v4)] [II w9, II 10, RR 133] t Q := by
      intro w9 e10
      have h := h w9 e10
      refine V_iastL 10 rfl kY133 lI133 rfl dX6_pulls_55 rfl (fun u14 e15 => ?_)
      have h := h u14 e15
      refine V_aload_n 0 rfl dX6_pulls_56 rfl ?_
      refine V_aload_n 0 rfl dX6_pulls_57 rfl ?_
      obtain ⟨P16, c17, h⟩ := h
      refine V_callVi (st := [RR 132]) (as := []) okX6_others rfl mlX6_151 (by decide) kY132 rfl (Nat.le_of_ble_eq_true rfl) rfl dX6_pulls_58 rfl c17 (fun r18 u19 e20 => ?_)
      have h := h r18 u19 e20
      obtain ⟨P21, c22, h⟩ := h
      refine V_callVi (st := []) (as := [II r18]) okX6_goesOn rfl mlX6_148 (by decide) kY132 rfl (Nat.le_of_ble_eq_true rfl) rfl dX6_pulls_61 rfl c22 (fun r23 u24 e25 => ?_)
      have h := h r23 u24 e25
      refine V_istore (ls2 := [(0, RR 132), (1, II v1), (2, II v2), (3, II v3), (4, II v4), (5, II r23)]) dX6_pulls_64 rfl (by decide) rfl ?_
      refine V_iload 5 rfl dX6_pulls_66 rfl ?_
      refine V_bipush (by decide) dX6_pulls_68 rfl ?_
      obtain ⟨q26, h⟩ := h
      refine V_icmp_eq q26 (iL rfl) dX6_pulls_70 (g := 89) rfl rfl ⟨fun hc => ?_, fun hc => ?_⟩
      · have h := h.1 hc
        refine V_iconst dX6_pulls_89 rfl ?_
        refine V_istore (ls2 := [(0, RR 132), (1, II v1), (2, II v2), (3, II v3), (4, II v4), (5, II r23), (6, II 0)]) dX6_pulls_90 rfl (by decide) rfl ?_
        refine V_iload 6 rfl dX6_pulls_92 rfl ?_
        refine V_if_eq (iL rfl) dX6_pulls_94 (g := 112) rfl rfl ⟨fun hc => ?_, fun hc => ?_⟩
        · have h := h.1 hc
          refine V_iload_n 2 rfl dX6_pulls_112 rfl ?_
          refine V_istore_n (ls2 := [(0, RR 132), (1, II v1), (2, II v2), (3, II v3), (4, II v4), (5, II r23), (6, II 0)]) dX6_pulls_113 rfl (by decide) rfl ?_
          refine V_iload 6 rfl dX6_pulls_114 rfl ?_
          have hj31 : ∀ w27 : Int, w27 = (if (0 : Int) = 0 then v3 else r23) → V G mX6_pulls 125 [(0, RR 132), (1, II v1), (2, II v2), (3, II v3), (4, II v4), (5, II r23), (6, II 0)] [II w27] u24 Q := by
            intro w27 e28
            have h := h w27 e28
            refine V_istore_n (ls2 := [(0, RR 132), (1, II v1), (2, II v2), (3, II w27), (4, II v4), (5, II r23), (6, II 0)]) dX6_pulls_125 rfl (by decide) rfl ?_
            refine V_iinc 4 rfl (ls2 := [(0, RR 132), (1, II v1), (2, II v2), (3, II w27), (4, II (v4 + 1)), (5, II r23), (6, II 0)]) dX6_pulls_126 rfl (by decide) rfl ?_
            refine V_goto (g := 25) dX6_pulls_129 rfl ?_
            exact V_sub (by intro q hq; simp only [List.mem_cons, List.not_mem_nil, or_false] at hq ⊢; first | (rcases hq with rfl | rfl | rfl | rfl | rfl <;> simp)) h
          have hj31 := hj31 _ rfl
          refine V_if_eq (iL rfl) dX6_pulls_116 (g := 124) rfl rfl ⟨fun hc => ?_, fun hc => ?_⟩
          · skip
            refine V_iload_n 3 rfl dX6_pulls_124 rfl ?_
            rw [if_pos hc] at hj31
            exact hj31
          · skip
            refine V_iload 5 rfl dX6_pulls_119 rfl ?_
            refine V_goto (g := 125) dX6_pulls_121 rfl ?_
            rw [if_neg hc] at hj31
            exact hj31
        · have h := h.2 hc
          refine V_iload 4 rfl dX6_pulls_97 rfl ?_
          have hj36 : ∀ w32 : Int, w32 = (if 0 ≤ v4 then v4 else 7) → V G mX6_pulls 113 [(0, RR 132), (1, II v1), (2, II v2), (3, II v3), (4, II v4), (5, II r23), (6, II 0)] [II w32] u24 Q := by
            intro w32 e33
            have h := h w32 e33
            refine V_istore_n (ls2 := [(0, RR 132), (1, II v1), (2, II w32), (3, II v3), (4, II v4), (5, II r23), (6, II 0)]) dX6_pulls_113 rfl (by decide) rfl ?_
            refine V_iload 6 rfl dX6_pulls_114 rfl ?_
            have hj41 : ∀ w37 : Int, w37 = (if (0 : Int) = 0 then v3 else r23) → V G mX6_pulls 125 [(0, RR 132), (1, II v1), (2, II w32), (3, II v3), (4, II v4), (5, II r23), (6, II 0)] [II w37] u24 Q := by
              intro w37 e38
              have h := h w37 e38
              refine V_istore_n (ls2 := [(0, RR 132), (1, II v1), (2, II w32), (3, II w37), (4, II v4), (5, II r23), (6, II 0)]) dX6_pulls_125 rfl (by decide) rfl ?_
              refine V_iinc 4 rfl (ls2 := [(0, RR 132), (1, II v1), (2, II w32), (3, II w37), (4, II (v4 + 1)), (5, II r23), (6, II 0)]) dX6_pulls_126 rfl (by decide) rfl ?_
              refine V_goto (g := 25) dX6_pulls_129 rfl ?_
              exact V_sub (by intro q hq; simp only [List.mem_cons, List.not_mem_nil, or_false] at hq ⊢; first | (rcases hq with rfl | rfl | rfl | rfl | rfl <;> simp)) h
            have hj41 := hj41 _ rfl
            refine V_if_eq (iL rfl) dX6_pulls_116 (g := 124) rfl rfl ⟨fun hc => ?_, fun hc => ?_⟩
            · skip
              refine V_iload_n 3 rfl dX6_pulls_124 rfl ?_
              rw [if_pos hc] at hj41
              exact hj41
            · skip
              refine V_iload 5 rfl dX6_pulls_119 rfl ?_
              refine V_goto (g := 125) dX6_pulls_121 rfl ?_
              rw [if_neg hc] at hj41
              exact hj41
          have hj36 := hj36 _ rfl
          refine V_if_ge q1 dX6_pulls_99 (g := 107) rfl rfl ⟨fun hc => ?_, fun hc => ?_⟩
          · skip
            refine V_iload 4 rfl dX6_pulls_107 rfl ?_
            refine V_goto (g := 113) dX6_pulls_109 rfl ?_
            rw [if_pos hc] at hj36
            exact hj36
          · skip
            refine V_bipush (by decide) dX6_pulls_102 rfl ?_
            refine V_goto (g := 113) dX6_pulls_104 rfl ?_
            rw [if_neg hc] at hj36
            exact hj36
      · have h := h.2 hc
        refine V_iload_n 3 rfl dX6_pulls_73 rfl ?_
        refine V_bipush (by decide) dX6_pulls_74 rfl ?_
        obtain ⟨q42, h⟩ := h
        refine V_icmp_eq q42 (iL rfl) dX6_pulls_76 (g := 85) rfl rfl ⟨fun hc => ?_, fun hc => ?_⟩
        · have h := h.1 hc
          refine V_iconst dX6_pulls_85 rfl ?_
          refine V_goto (g := 90) dX6_pulls_86 rfl ?_
          refine V_istore (ls2 := [(0, RR 132), (1, II v1), (2, II v2), (3, II v3), (4, II v4), (5, II r23), (6, II 1)]) dX6_pulls_90 rfl (by decide) rfl ?_
          refine V_iload 6 rfl dX6_pulls_92 rfl ?_
          refine V_if_eq (iL rfl) dX6_pulls_94 (g := 112) rfl rfl ⟨fun hc => ?_, fun hc => ?_⟩
          · have h := h.1 hc
            refine V_iload_n 2 rfl dX6_pulls_112 rfl ?_
            refine V_istore_n (ls2 := [(0, RR 132), (1, II v1), (2, II v2), (3, II v3), (4, II v4), (5, II r23), (6, II 1)]) dX6_pulls_113 rfl (by decide) rfl ?_
            refine V_iload 6 rfl dX6_pulls_114 rfl ?_
            have hj47 : ∀ w43 : Int, w43 = (if (1 : Int) = 0 then v3 else r23) → V G mX6_pulls 125 [(0, RR 132), (1, II v1), (2, II v2), (3, II v3), (4, II v4), (5, II r23), (6, II 1)] [II w43] u24 Q := by
              intro w43 e44
              have h := h w43 e44
              refine V_istore_n (ls2 := [(0, RR 132), (1, II v1), (2, II v2), (3, II w43), (4, II v4), (5, II r23), (6, II 1)]) dX6_pulls_125 rfl (by decide) rfl ?_
              refine V_iinc 4 rfl (ls2 := [(0, RR 132), (1, II v1), (2, II v2), (3, II w43), (4, II (v4 + 1)), (5, II r23), (6, II 1)]) dX6_pulls_126 rfl (by decide) rfl ?_
              refine V_goto (g := 25) dX6_pulls_129 rfl ?_
              exact V_sub (by intro q hq; simp only [List.mem_cons, List.not_mem_nil, or_false] at hq ⊢; first | (rcases hq with rfl | rfl | rfl | rfl | rfl <;> simp)) h
            have hj47 := hj47 _ rfl
            refine V_if_eq (iL rfl) dX6_pulls_116 (g := 124) rfl rfl ⟨fun hc => ?_, fun hc => ?_⟩
            · skip
              refine V_iload_n 3 rfl dX6_pulls_124 rfl ?_
              rw [if_pos hc] at hj47
              exact hj47
            · skip
              refine V_iload 5 rfl dX6_pulls_119 rfl ?_
              refine V_goto (g := 125) dX6_pulls_121 rfl ?_
              rw [if_neg hc] at hj47
              exact hj47
          · have h := h.2 hc
            refine V_iload 4 rfl dX6_pulls_97 rfl ?_
            have hj52 : ∀ w48 : Int, w48 = (if 0 ≤ v4 then v4 else 7) → V G mX6_pulls 113 [(0, RR 132), (1, II v1), (2, II v2), (3, II v3), (4, II v4), (5, II r23), (6, II 1)] [II w48] u24 Q := by
              intro w48 e49
              have h := h w48 e49
              refine V_istore_n (ls2 := [(0, RR 132), (1, II v1), (2, II w48), (3, II v3), (4, II v4), (5, II r23), (6, II 1)]) dX6_pulls_113 rfl (by decide) rfl ?_
              refine V_iload 6 rfl dX6_pulls_114 rfl ?_
              have hj57 : ∀ w53 : Int, w53 = (if (1 : Int) = 0 then v3 else r23) → V G mX6_pulls 125 [(0, RR 132), (1, II v1), (2, II w48), (3, II v3), (4, II v4), (5, II r23), (6, II 1)] [II w53] u24 Q := by
                intro w53 e54
                have h := h w53 e54
                refine V_istore_n (ls2 := [(0, RR 132), (1, II v1), (2, II w48), (3, II w53), (4, II v4), (5, II r23), (6, II 1)]) dX6_pulls_125 rfl (by decide) rfl ?_
                refine V_iinc 4 rfl (ls2 := [(0, RR 132), (1, II v1), (2, II w48), (3, II w53), (4, II (v4 + 1)), (5, II r23), (6, II 1)]) dX6_pulls_126 rfl (by decide) rfl ?_
                refine V_goto (g := 25) dX6_pulls_129 rfl ?_
                exact V_sub (by intro q hq; simp only [List.mem_cons, List.not_mem_nil, or_false] at hq ⊢; first | (rcases hq with rfl | rfl | rfl | rfl | rfl <;> simp)) h
              have hj57 := hj57 _ rfl
              refine V_if_eq (iL rfl) dX6_pulls_116 (g := 124) rfl rfl ⟨fun hc => ?_, fun hc => ?_⟩
              · skip
                refine V_iload_n 3 rfl dX6_pulls_124 rfl ?_
                rw [if_pos hc] at hj57
                exact hj57
              · skip
                refine V_iload 5 rfl dX6_pulls_119 rfl ?_
                refine V_goto (g := 125) dX6_pulls_121 rfl ?_
                rw [if_neg hc] at hj57
                exact hj57
            have hj52 := hj52 _ rfl
            refine V_if_ge q1 dX6_pulls_99 (g := 107) rfl rfl ⟨fun hc => ?_, fun hc => ?_⟩
            · skip
              refine V_iload 4 rfl dX6_pulls_107 rfl ?_
              refine V_goto (g := 113) dX6_pulls_109 rfl ?_
              rw [if_pos hc] at hj52
              exact hj52
            · skip
              refine V_bipush (by decide) dX6_pulls_102 rfl ?_
              refine V_goto (g := 113) dX6_pulls_104 rfl ?_
              rw [if_neg hc] at hj52
              exact hj52
        · have h := h.2 hc
          refine V_iload 5 rfl dX6_pulls_79 rfl ?_
          refine V_iload_n 3 rfl dX6_pulls_81 rfl ?_
          have hj62 : V G mX6_pulls 90 [(0, RR 132), (1, II v1), (2, II v2), (3, II v3), (4, II v4), (5, II r23)] [II (if v3 ≤ r23 then 0 else 1)] u24 Q := by
            refine V_istore (ls2 := [(0, RR 132), (1, II v1), (2, II v2), (3, II v3), (4, II v4), (5, II r23), (6, II (if v3 ≤ r23 then 0 else 1))]) dX6_pulls_90 rfl (by decide) rfl ?_
            refine V_iload 6 rfl dX6_pulls_92 rfl ?_
            refine V_if_eq (by split <;> exact iL rfl) dX6_pulls_94 (g := 112) rfl rfl ⟨fun hc => ?_, fun hc => ?_⟩
            · have h := h.1 hc
              refine V_iload_n 2 rfl dX6_pulls_112 rfl ?_
              refine V_istore_n (ls2 := [(0, RR 132), (1, II v1), (2, II v2), (3, II v3), (4, II v4), (5, II r23), (6, II (if v3 ≤ r23 then 0 else 1))]) dX6_pulls_113 rfl (by decide) rfl ?_
              refine V_iload 6 rfl dX6_pulls_114 rfl ?_
              have hj67 : ∀ w63 : Int, w63 = (if (if v3 ≤ r23 then 0 else 1 : Int) = 0 then v3 else r23) → V G mX6_pulls 125 [(0, RR 132), (1, II v1), (2, II v2), (3, II v3), (4, II v4), (5, II r23), (6, II (if v3 ≤ r23 then 0 else 1))] [II w63] u24 Q := by
                intro w63 e64
                have h := h w63 e64
                refine V_istore_n (ls2 := [(0, RR 132), (1, II v1), (2, II v2), (3, II w63), (4, II v4), (5, II r23), (6, II (if v3 ≤ r23 then 0 else 1))]) dX6_pulls_125 rfl (by decide) rfl ?_
                refine V_iinc 4 rfl (ls2 := [(0, RR 132), (1, II v1), (2, II v2), (3, II w63), (4, II (v4 + 1)), (5, II r23), (6, II (if v3 ≤ r23 then 0 else 1))]) dX6_pulls_126 rfl (by decide) rfl ?_
                refine V_goto (g := 25) dX6_pulls_129 rfl ?_
                exact V_sub (by intro q hq; simp only [List.mem_cons, List.not_mem_nil, or_false] at hq ⊢; first | (rcases hq with rfl | rfl | rfl | rfl | rfl <;> simp)) h
              have hj67 := hj67 _ rfl
              refine V_if_eq (by split <;> exact iL rfl) dX6_pulls_116 (g := 124) rfl rfl ⟨fun hc => ?_, fun hc => ?_⟩
              · skip
                refine V_iload_n 3 rfl dX6_pulls_124 rfl ?_
                rw [if_pos hc] at hj67
                exact hj67
              · skip
                refine V_iload 5 rfl dX6_pulls_119 rfl ?_
                refine V_goto (g := 125) dX6_pulls_121 rfl ?_
                rw [if_neg hc] at hj67
                exact hj67
            · have h := h.2 hc
              refine V_iload 4 rfl dX6_pulls_97 rfl ?_
              have hj72 : ∀ w68 : Int, w68 = (if 0 ≤ v4 then v4 else 7) → V G mX6_pulls 113 [(0, RR 132), (1, II v1), (2, II v2), (3, II v3), (4, II v4), (5, II r23), (6, II (if v3 ≤ r23 then 0 else 1))] [II w68] u24 Q := by
                intro w68 e69
                have h := h w68 e69
                refine V_istore_n (ls2 := [(0, RR 132), (1, II v1), (2, II w68), (3, II v3), (4, II v4), (5, II r23), (6, II (if v3 ≤ r23 then 0 else 1))]) dX6_pulls_113 rfl (by decide) rfl ?_
                refine V_iload 6 rfl dX6_pulls_114 rfl ?_
                have hj77 : ∀ w73 : Int, w73 = (if (if v3 ≤ r23 then 0 else 1 : Int) = 0 then v3 else r23) → V G mX6_pulls 125 [(0, RR 132), (1, II v1), (2, II w68), (3, II v3), (4, II v4), (5, II r23), (6, II (if v3 ≤ r23 then 0 else 1))] [II w73] u24 Q := by
                  intro w73 e74
                  have h := h w73 e74
                  refine V_istore_n (ls2 := [(0, RR 132), (1, II v1), (2, II w68), (3, II w73), (4, II v4), (5, II r23), (6, II (if v3 ≤ r23 then 0 else 1))]) dX6_pulls_125 rfl (by decide) rfl ?_
                  refine V_iinc 4 rfl (ls2 := [(0, RR 132), (1, II v1), (2, II w68), (3, II w73), (4, II (v4 + 1)), (5, II r23), (6, II (if v3 ≤ r23 then 0 else 1))]) dX6_pulls_126 rfl (by decide) rfl ?_
                  refine V_goto (g := 25) dX6_pulls_129 rfl ?_
                  exact V_sub (by intro q hq; simp only [List.mem_cons, List.not_mem_nil, or_false] at hq ⊢; first | (rcases hq with rfl | rfl | rfl | rfl | rfl <;> simp)) h
                have hj77 := hj77 _ rfl
                refine V_if_eq (by split <;> exact iL rfl) dX6_pulls_116 (g := 124) rfl rfl ⟨fun hc => ?_, fun hc => ?_⟩
                · skip
                  refine V_iload_n 3 rfl dX6_pulls_124 rfl ?_
                  rw [if_pos hc] at hj77
                  exact hj77
                · skip
                  refine V_iload 5 rfl dX6_pulls_119 rfl ?_
                  refine V_goto (g := 125) dX6_pulls_121 rfl ?_
                  rw [if_neg hc] at hj77
                  exact hj77
              have hj72 := hj72 _ rfl
              refine V_if_ge q1 dX6_pulls_99 (g := 107) rfl rfl ⟨fun hc => ?_, fun hc => ?_⟩
              · skip
                refine V_iload 4 rfl dX6_pulls_107 rfl ?_
                refine V_goto (g := 113) dX6_pulls_109 rfl ?_
                rw [if_pos hc] at hj72
                exact hj72
              · skip
                refine V_bipush (by decide) dX6_pulls_102 rfl ?_
                refine V_goto (g := 113) dX6_pulls_104 rfl ?_
                rw [if_neg hc] at hj72
                exact hj72
          refine V_icmp_ge q26 q42 dX6_pulls_82 (g := 89) rfl rfl ⟨fun hc => ?_, fun hc => ?_⟩
          · skip
            refine V_iconst dX6_pulls_89 rfl ?_
            rw [if_pos hc] at hj62
            exact hj62
          · skip
            refine V_iconst dX6_pulls_85 rfl ?_
            refine V_goto (g := 90) dX6_pulls_86 rfl ?_
            rw [if_neg hc] at hj62
            exact hj62
    have hj13 := hj13 _ rfl
    refine V_if_ge q1 dX6_pulls_45 (g := 53) rfl rfl ⟨fun hc => ?_, fun hc => ?_⟩
    · skip
      refine V_iload 4 rfl dX6_pulls_53 rfl ?_
      rw [if_pos hc] at hj13
      exact hj13
    · skip
      refine V_bipush (by decide) dX6_pulls_48 rfl ?_
      refine V_goto (g := 55) dX6_pulls_50 rfl ?_
      rw [if_neg hc] at hj13
      exact hj13
theorem eX6_waitsOf {G : GG} {Q : Int → Mem → Prop} {t : Mem} {v1 v2 : Int} (k : V G mX6_waitsOf 0 [(0, RR 132), (1, II v1), (2, II v2)] [] t Q) : Ex G mX6_waitsOf [RR 132, II v1, II v2] t Q := Ex.of plX6 (Or.inr (Or.inl rfl)) (Nat.le_of_ble_eq_true rfl) rfl k
set_option maxRecDepth 100000 in
theorem sgX6_waitsOf_0 {G : GG} {Q : Int → Mem → Prop} {t : Mem} {v1 v2 : Int}  (h : ∃ P1 : Int → Mem → Prop, Ex G mX6_asides [RR 132] t P1 ∧ ∀ u4 : Mem, P1 0 u4 → ∀ u6 : Mem, u6 = wr u4 133 6 v2 → ∃ P8 : Int → Mem → Prop, Ex G mX6_goesOn [RR 132, II 0] u6 P8 ∧ ∀ (r10 : Int) (u11 : Mem), P8 r10 u11 → V G mX6_waitsOf 23 [(0, RR 132), (1, II v1), (2, II v2), (3, II 0), (4, II 0)] [] u11 Q) : V G mX6_waitsOf 0 [(0, RR 132), (1, II v1), (2, II v2)] [] t Q := by
  refine V_aload_n 0 rfl dX6_waitsOf_0 rfl ?_
  obtain ⟨P1, c2, h⟩ := h
  refine V_callVv (st := []) (as := []) okX6_asides rfl mlX6_142 (by decide) kY132 rfl (Nat.le_of_ble_eq_true rfl) rfl dX6_waitsOf_1 rfl c2 (fun u4 e5 => ?_)
  have h := h u4 e5
  refine V_aload_n 0 rfl dX6_waitsOf_4 rfl ?_
  refine gX6_7 rfl kY132 rF132_0 dX6_waitsOf_5 rfl ?_
  refine V_bipush (by decide) dX6_waitsOf_8 rfl ?_
  refine V_iload_n 2 rfl dX6_waitsOf_10 rfl ?_
  refine V_iastL 6 rfl kY133 lI133 rfl dX6_waitsOf_11 rfl (fun u6 e7 => ?_)
  have h := h u6 e7
  refine V_aload_n 0 rfl dX6_waitsOf_12 rfl ?_
  refine V_iconst dX6_waitsOf_13 rfl ?_
  obtain ⟨P8, c9, h⟩ := h
  refine V_callVi (st := []) (as := [II 0]) okX6_goesOn rfl mlX6_148 (by decide) kY132 rfl (Nat.le_of_ble_eq_true rfl) rfl dX6_waitsOf_14 rfl c9 (fun r10 u11 e12 => ?_)
  have h := h r10 u11 e12
  refine V_pop rfl dX6_waitsOf_17 rfl ?_
  refine V_iconst dX6_waitsOf_18 rfl ?_
  refine V_istore_n (ls2 := [(0, RR 132), (1, II v1), (2, II v2), (3, II 0)]) dX6_waitsOf_19 rfl (by decide) rfl ?_
  refine V_iconst dX6_waitsOf_20 rfl ?_
  refine V_istore (ls2 := [(0, RR 132), (1, II v1), (2, II v2), (3, II 0), (4, II 0)]) dX6_waitsOf_21 rfl (by decide) rfl ?_
  exact h
set_option maxRecDepth 100000 in
theorem sgX6_waitsOf_23 {G : GG} {Q : Int → Mem → Prop} {t : Mem} {v1 v2 v3 v4 : Int}  (h : In32 v4 ∧ In32 (t 133 12) ∧ ((t 133 12) ≤ v4 → Q v3 t) ∧ (¬ (t 133 12) ≤ v4 → ∃ P3 : Int → Mem → Prop, Ex G mX6_at [RR 132, II v4, II 2] t P3 ∧ ∀ (r5 : Int) (u6 : Mem), P3 r5 u6 → In32 r5 ∧ In32 v1 ∧ (¬ r5 = v1 → (¬ (0 : Int) = 0 → (0 ≤ v4 ∧ v4 < 7) ∧ In32 (u6 137 v4.toNat) ∧ ∀ w12 : Int, w12 = (if (u6 137 v4.toNat) = (-4) then 240 else u6 137 v4.toNat) → V G mX6_waitsOf 23 [(0, RR 132), (1, II v1), (2, II v2), (3, II (v3 + w12)), (4, II (v4 + 1))] [] u6 Q) ∧ ((0 : Int) = 0 → V G mX6_waitsOf 23 [(0, RR 132), (1, II v1), (2, II v2), (3, II (v3 + 0)), (4, II (v4 + 1))] [] u6 Q)) ∧ (r5 = v1 → In32 (u6 133 10) ∧ (¬ (if v4 = (u6 133 10) then 0 else 1 : Int) = 0 → (0 ≤ v4 ∧ v4 < 7) ∧ In32 (u6 137 v4.toNat) ∧ ∀ w25 : Int, w25 = (if (u6 137 v4.toNat) = (-4) then 240 else u6 137 v4.toNat) → V G mX6_waitsOf 23 [(0, RR 132), (1, II v1), (2, II v2), (3, II (v3 + w25)), (4, II (v4 + 1))] [] u6 Q) ∧ ((if v4 = (u6 133 10) then 0 else 1 : Int) = 0 → V G mX6_waitsOf 23 [(0, RR 132), (1, II v1), (2, II v2), (3, II (v3 + 0)), (4, II (v4 + 1))] [] u6 Q)))) : V G mX6_waitsOf 23 [(0, RR 132), (1, II v1), (2, II v2), (3, II v3), (4, II v4)] [] t Q := by
  refine V_iload 4 rfl dX6_waitsOf_23 rfl ?_
  refine V_aload_n 0 rfl dX6_waitsOf_25 rfl ?_
  refine gX6_7 rfl kY132 rF132_0 dX6_waitsOf_26 rfl ?_
  refine V_bipush (by decide) dX6_waitsOf_29 rfl ?_
  refine V_ialdL 12 rfl kY133 lI133 rfl dX6_waitsOf_31 rfl ?_
  obtain ⟨q1, h⟩ := h
  obtain ⟨q2, h⟩ := h
  refine V_icmp_ge q1 q2 dX6_waitsOf_32 (g := 108) rfl rfl ⟨fun hc => ?_, fun hc => ?_⟩
  · have h := h.1 hc
    refine V_iload_n 3 rfl dX6_waitsOf_108 rfl ?_
    exact V_iret dX6_waitsOf_109 (Or.inl rfl) h
  · have h := h.2 hc
    refine V_aload_n 0 rfl dX6_waitsOf_35 rfl ?_
    refine V_iload 4 rfl dX6_waitsOf_36 rfl ?_
    refine V_iconst dX6_waitsOf_38 rfl ?_
    obtain ⟨P3, c4, h⟩ := h
    refine V_callVi (st := []) (as := [II v4, II 2]) okX6_at rfl mlX6_55 (by decide) kY132 rfl (Nat.le_of_ble_eq_true rfl) rfl dX6_waitsOf_39 rfl c4 (fun r5 u6 e7 => ?_)
    have h := h r5 u6 e7
    refine V_iload_n 1 rfl dX6_waitsOf_42 rfl ?_
    obtain ⟨q8, h⟩ := h
    obtain ⟨q9, h⟩ := h
    refine V_icmp_ne q8 q9 dX6_waitsOf_43 (g := 62) rfl rfl ⟨fun hc => ?_, fun hc => ?_⟩
    · have h := h.1 hc
      refine V_iconst dX6_waitsOf_62 rfl ?_
      refine V_istore (ls2 := [(0, RR 132), (1, II v1), (2, II v2), (3, II v3), (4, II v4), (5, II 0)]) dX6_waitsOf_63 rfl (by decide) rfl ?_
      refine V_iload_n 3 rfl dX6_waitsOf_65 rfl ?_
      refine V_iload 5 rfl dX6_waitsOf_66 rfl ?_
      refine V_if_ne (iL rfl) dX6_waitsOf_68 (g := 75) rfl rfl ⟨fun hc => ?_, fun hc => ?_⟩
      · have h := h.1 hc
        refine V_aload_n 0 rfl dX6_waitsOf_75 rfl ?_
        refine gX6_26 rfl kY132 rF132_7 dX6_waitsOf_76 rfl ?_
        refine V_iload 4 rfl dX6_waitsOf_79 rfl ?_
        obtain ⟨q10, h⟩ := h
        refine V_ialdn kY137 lI137 q10 dX6_waitsOf_81 rfl ?_
        refine V_bipush (by decide) dX6_waitsOf_82 rfl ?_
        obtain ⟨q11, h⟩ := h
        have hj16 : ∀ w12 : Int, w12 = (if (u6 137 v4.toNat) = (-4) then 240 else u6 137 v4.toNat) → V G mX6_waitsOf 100 [(0, RR 132), (1, II v1), (2, II v2), (3, II v3), (4, II v4), (5, II 0)] [II w12, II v3] u6 Q := by
          intro w12 e13
          have h := h w12 e13
          refine V_iadd dX6_waitsOf_100 rfl ?_
          refine V_istore_n (ls2 := [(0, RR 132), (1, II v1), (2, II v2), (3, II (v3 + w12)), (4, II v4), (5, II 0)]) dX6_waitsOf_101 rfl (by decide) rfl ?_
          refine V_iinc 4 rfl (ls2 := [(0, RR 132), (1, II v1), (2, II v2), (3, II (v3 + w12)), (4, II (v4 + 1)), (5, II 0)]) dX6_waitsOf_102 rfl (by decide) rfl ?_
          refine V_goto (g := 23) dX6_waitsOf_105 rfl ?_
          exact V_sub (by intro q hq; simp only [List.mem_cons, List.not_mem_nil, or_false] at hq ⊢; first | (rcases hq with rfl | rfl | rfl | rfl | rfl <;> simp)) h
        have hj16 := hj16 _ rfl
        refine V_icmp_ne q11 (iL rfl) dX6_waitsOf_84 (g := 93) rfl rfl ⟨fun hc => ?_, fun hc => ?_⟩
        · skip
          refine V_aload_n 0 rfl dX6_waitsOf_93 rfl ?_
          refine gX6_26 rfl kY132 rF132_7 dX6_waitsOf_94 rfl ?_
          refine V_iload 4 rfl dX6_waitsOf_97 rfl ?_
          refine V_ialdn kY137 lI137 q10 dX6_waitsOf_99 rfl ?_
          rw [if_neg hc] at hj16
          exact hj16
        · skip
          refine V_sipush (by decide) dX6_waitsOf_87 rfl ?_
          refine V_goto (g := 100) dX6_waitsOf_90 rfl ?_
          rw [if_pos hc] at hj16
          exact hj16
      · have h := h.2 hc
        refine V_iconst dX6_waitsOf_71 rfl ?_
        refine V_goto (g := 100) dX6_waitsOf_72 rfl ?_
        refine V_iadd dX6_waitsOf_100 rfl ?_
        refine V_istore_n (ls2 := [(0, RR 132), (1, II v1), (2, II v2), (3, II (v3 + 0)), (4, II v4), (5, II 0)]) dX6_waitsOf_101 rfl (by decide) rfl ?_
        refine V_iinc 4 rfl (ls2 := [(0, RR 132), (1, II v1), (2, II v2), (3, II (v3 + 0)), (4, II (v4 + 1)), (5, II 0)]) dX6_waitsOf_102 rfl (by decide) rfl ?_
        refine V_goto (g := 23) dX6_waitsOf_105 rfl ?_
        exact V_sub (by intro q hq; simp only [List.mem_cons, List.not_mem_nil, or_false] at hq ⊢; first | (rcases hq with rfl | rfl | rfl | rfl | rfl <;> simp)) h
    · have h := h.2 hc
      refine V_iload 4 rfl dX6_waitsOf_46 rfl ?_
      refine V_aload_n 0 rfl dX6_waitsOf_48 rfl ?_
      refine gX6_7 rfl kY132 rF132_0 dX6_waitsOf_49 rfl ?_
      refine V_bipush (by decide) dX6_waitsOf_52 rfl ?_
      refine V_ialdL 10 rfl kY133 lI133 rfl dX6_waitsOf_54 rfl ?_
      obtain ⟨q17, h⟩ := h
      have hj22 : V G mX6_waitsOf 63 [(0, RR 132), (1, II v1), (2, II v2), (3, II v3), (4, II v4)] [II (if v4 = (u6 133 10) then 0 else 1)] u6 Q := by
        refine V_istore (ls2 := [(0, RR 132), (1, II v1), (2, II v2), (3, II v3), (4, II v4), (5, II (if v4 = (u6 133 10) then 0 else 1))]) dX6_waitsOf_63 rfl (by decide) rfl ?_
        refine V_iload_n 3 rfl dX6_waitsOf_65 rfl ?_
        refine V_iload 5 rfl dX6_waitsOf_66 rfl ?_
        refine V_if_ne (by split <;> exact iL rfl) dX6_waitsOf_68 (g := 75) rfl rfl ⟨fun hc => ?_, fun hc => ?_⟩
        · have h := h.1 hc
          refine V_aload_n 0 rfl dX6_waitsOf_75 rfl ?_
          refine gX6_26 rfl kY132 rF132_7 dX6_waitsOf_76 rfl ?_
          refine V_iload 4 rfl dX6_waitsOf_79 rfl ?_
          obtain ⟨q23, h⟩ := h
          refine V_ialdn kY137 lI137 q23 dX6_waitsOf_81 rfl ?_
          refine V_bipush (by decide) dX6_waitsOf_82 rfl ?_
          obtain ⟨q24, h⟩ := h
          have hj29 : ∀ w25 : Int, w25 = (if (u6 137 v4.toNat) = (-4) then 240 else u6 137 v4.toNat) → V G mX6_waitsOf 100 [(0, RR 132), (1, II v1), (2, II v2), (3, II v3), (4, II v4), (5, II (if v4 = (u6 133 10) then 0 else 1))] [II w25, II v3] u6 Q := by
            intro w25 e26
            have h := h w25 e26
            refine V_iadd dX6_waitsOf_100 rfl ?_
            refine V_istore_n (ls2 := [(0, RR 132), (1, II v1), (2, II v2), (3, II (v3 + w25)), (4, II v4), (5, II (if v4 = (u6 133 10) then 0 else 1))]) dX6_waitsOf_101 rfl (by decide) rfl ?_
            refine V_iinc 4 rfl (ls2 := [(0, RR 132), (1, II v1), (2, II v2), (3, II (v3 + w25)), (4, II (v4 + 1)), (5, II (if v4 = (u6 133 10) then 0 else 1))]) dX6_waitsOf_102 rfl (by decide) rfl ?_
            refine V_goto (g := 23) dX6_waitsOf_105 rfl ?_
            exact V_sub (by intro q hq; simp only [List.mem_cons, List.not_mem_nil, or_false] at hq ⊢; first | (rcases hq with rfl | rfl | rfl | rfl | rfl <;> simp)) h
          have hj29 := hj29 _ rfl
          refine V_icmp_ne q24 (iL rfl) dX6_waitsOf_84 (g := 93) rfl rfl ⟨fun hc => ?_, fun hc => ?_⟩
          · skip
            refine V_aload_n 0 rfl dX6_waitsOf_93 rfl ?_
            refine gX6_26 rfl kY132 rF132_7 dX6_waitsOf_94 rfl ?_
            refine V_iload 4 rfl dX6_waitsOf_97 rfl ?_
            refine V_ialdn kY137 lI137 q23 dX6_waitsOf_99 rfl ?_
            rw [if_neg hc] at hj29
            exact hj29
          · skip
            refine V_sipush (by decide) dX6_waitsOf_87 rfl ?_
            refine V_goto (g := 100) dX6_waitsOf_90 rfl ?_
            rw [if_pos hc] at hj29
            exact hj29
        · have h := h.2 hc
          refine V_iconst dX6_waitsOf_71 rfl ?_
          refine V_goto (g := 100) dX6_waitsOf_72 rfl ?_
          refine V_iadd dX6_waitsOf_100 rfl ?_
          refine V_istore_n (ls2 := [(0, RR 132), (1, II v1), (2, II v2), (3, II (v3 + 0)), (4, II v4), (5, II (if v4 = (u6 133 10) then 0 else 1))]) dX6_waitsOf_101 rfl (by decide) rfl ?_
          refine V_iinc 4 rfl (ls2 := [(0, RR 132), (1, II v1), (2, II v2), (3, II (v3 + 0)), (4, II (v4 + 1)), (5, II (if v4 = (u6 133 10) then 0 else 1))]) dX6_waitsOf_102 rfl (by decide) rfl ?_
          refine V_goto (g := 23) dX6_waitsOf_105 rfl ?_
          exact V_sub (by intro q hq; simp only [List.mem_cons, List.not_mem_nil, or_false] at hq ⊢; first | (rcases hq with rfl | rfl | rfl | rfl | rfl <;> simp)) h
      refine V_icmp_eq q1 q17 dX6_waitsOf_55 (g := 62) rfl rfl ⟨fun hc => ?_, fun hc => ?_⟩
      · skip
        refine V_iconst dX6_waitsOf_62 rfl ?_
        rw [if_pos hc] at hj22
        exact hj22
      · skip
        refine V_iconst dX6_waitsOf_58 rfl ?_
        refine V_goto (g := 63) dX6_waitsOf_59 rfl ?_
        rw [if_neg hc] at hj22
        exact hj22
theorem eX6_waits {G : GG} {Q : Int → Mem → Prop} {t : Mem} {v1 v2 : Int} (k : V G mX6_waits 0 [(0, RR 132), (1, II v1), (2, II v2)] [] t Q) : Ex G mX6_waits [RR 132, II v1, II v2] t Q := Ex.of plX6 (Or.inr (Or.inl rfl)) (Nat.le_of_ble_eq_true rfl) rfl k
set_option maxRecDepth 100000 in
theorem sgX6_waits_0 {G : GG} {Q : Int → Mem → Prop} {t : Mem} {v1 v2 : Int}  (h : In32 v1 ∧ ∃ P2 : Int → Mem → Prop, Ex G mX6_in [JJ v1, JJ 0, JJ 1] t P2 ∧ ∀ (r4 : Int) (u5 : Mem), P2 r4 u5 → In32 r4 ∧ (r4 = 0 → Q (-1) u5) ∧ (¬ r4 = 0 → In32 v2 ∧ ∃ P9 : Int → Mem → Prop, Ex G mX6_in [JJ v2, JJ 0, JJ 3] u5 P9 ∧ ∀ (r11 : Int) (u12 : Mem), P9 r11 u12 → In32 r11 ∧ (r11 = 0 → Q (-1) u12) ∧ (¬ r11 = 0 → ∃ P15 : Int → Mem → Prop, Ex G mX6_waitsOf [RR 132, II v1, II v2] u12 P15 ∧ ∀ (r17 : Int) (u18 : Mem), P15 r17 u18 → Q r17 u18))) : V G mX6_waits 0 [(0, RR 132), (1, II v1), (2, II v2)] [] t Q := by
  refine V_iload_n 1 rfl dX6_waits_0 rfl ?_
  obtain ⟨q1, h⟩ := h
  refine V_i2l q1 dX6_waits_1 rfl ?_
  refine V_lconst (z := 0) rfl dX6_waits_2 rfl ?_
  refine V_lconst (z := 1) rfl dX6_waits_3 rfl ?_
  obtain ⟨P2, c3, h⟩ := h
  refine V_callSi (st := []) (as := [JJ v1, JJ 0, JJ 1]) okX6_in rfl mlX6_51 (by decide) rfl (Nat.le_of_ble_eq_true rfl) rfl dX6_waits_4 rfl c3 (fun r4 u5 e6 => ?_)
  have h := h r4 u5 e6
  obtain ⟨q7, h⟩ := h
  refine V_if_eq q7 dX6_waits_7 (g := 31) rfl rfl ⟨fun hc => ?_, fun hc => ?_⟩
  · have h := h.1 hc
    refine V_iconst dX6_waits_31 rfl ?_
    exact V_iret dX6_waits_32 (Or.inl rfl) h
  · have h := h.2 hc
    refine V_iload_n 2 rfl dX6_waits_10 rfl ?_
    obtain ⟨q8, h⟩ := h
    refine V_i2l q8 dX6_waits_11 rfl ?_
    refine V_lconst (z := 0) rfl dX6_waits_12 rfl ?_
    refine V_ldc2 (x := 3) ctX6_70 rfl dX6_waits_13 rfl ?_
    obtain ⟨P9, c10, h⟩ := h
    refine V_callSi (st := []) (as := [JJ v2, JJ 0, JJ 3]) okX6_in rfl mlX6_51 (by decide) rfl (Nat.le_of_ble_eq_true rfl) rfl dX6_waits_16 rfl c10 (fun r11 u12 e13 => ?_)
    have h := h r11 u12 e13
    obtain ⟨q14, h⟩ := h
    refine V_if_eq q14 dX6_waits_19 (g := 31) rfl rfl ⟨fun hc => ?_, fun hc => ?_⟩
    · have h := h.1 hc
      refine V_iconst dX6_waits_31 rfl ?_
      exact V_iret dX6_waits_32 (Or.inl rfl) h
    · have h := h.2 hc
      refine V_aload_n 0 rfl dX6_waits_22 rfl ?_
      refine V_iload_n 1 rfl dX6_waits_23 rfl ?_
      refine V_iload_n 2 rfl dX6_waits_24 rfl ?_
      obtain ⟨P15, c16, h⟩ := h
      refine V_callVi (st := []) (as := [II v1, II v2]) okX6_waitsOf rfl mlX6_154 (by decide) kY132 rfl (Nat.le_of_ble_eq_true rfl) rfl dX6_waits_25 rfl c16 (fun r17 u18 e19 => ?_)
      have h := h r17 u18 e19
      refine V_goto (g := 32) dX6_waits_28 rfl ?_
      exact V_iret dX6_waits_32 (Or.inl rfl) h
theorem eX6_lawBy {G : GG} {Q : Int → Mem → Prop} {t : Mem} {v1 v2 : Int} (k : V G mX6_lawBy 0 [(0, RR 132), (1, II v1), (2, II v2)] [] t Q) : Ex G mX6_lawBy [RR 132, II v1, II v2] t Q := Ex.of plX6 (Or.inr (Or.inl rfl)) (Nat.le_of_ble_eq_true rfl) rfl k
set_option maxRecDepth 100000 in
theorem sgX6_lawBy_0 {G : GG} {Q : Int → Mem → Prop} {t : Mem} {v1 v2 : Int}  (h : V G mX6_lawBy 8 [(0, RR 132), (1, II v1), (2, II v2), (3, II 0), (4, II (-1)), (5, II 0)] [] t Q) : V G mX6_lawBy 0 [(0, RR 132), (1, II v1), (2, II v2)] [] t Q := by
  refine V_iconst dX6_lawBy_0 rfl ?_
  refine V_istore_n (ls2 := [(0, RR 132), (1, II v1), (2, II v2), (3, II 0)]) dX6_lawBy_1 rfl (by decide) rfl ?_
  refine V_iconst dX6_lawBy_2 rfl ?_
  refine V_istore (ls2 := [(0, RR 132), (1, II v1), (2, II v2), (3, II 0), (4, II (-1))]) dX6_lawBy_3 rfl (by decide) rfl ?_
  refine V_iconst dX6_lawBy_5 rfl ?_
  refine V_istore (ls2 := [(0, RR 132), (1, II v1), (2, II v2), (3, II 0), (4, II (-1)), (5, II 0)]) dX6_lawBy_6 rfl (by decide) rfl ?_
  exact h
set_option maxRecDepth 100000 in
theorem sgX6_lawBy_8 {G : GG} {Q : Int → Mem → Prop} {t : Mem} {v1 v2 v3 v4 v5 : Int}  (h : In32 v5 ∧ (4 ≤ v5 → In32 v1 ∧ ∀ w3 : Int, w3 = (if v1 = 0 then v3 else v4) → Q w3 t) ∧ (¬ 4 ≤ v5 → ∃ P8 : Int → Mem → Prop, Ex G mX6_waitsOf [RR 132, II 0, II v5] t P8 ∧ ∀ (r10 : Int) (u11 : Mem), P8 r10 u11 → ∃ P13 : Int → Mem → Prop, Ex G mX6_waitsOf [RR 132, II 1, II v5] u11 P13 ∧ ∀ (r15 : Int) (u16 : Mem), P13 r15 u16 → In32 v2 ∧ (v2 = 0 → In32 v4 ∧ (v4 < 0 → ∀ w20 : Int, w20 = (if (1 : Int) = 0 then v3 else v5) → ∀ w25 : Int, w25 = (if (1 : Int) = 0 then v4 else r10 + r15) → V G mX6_lawBy 8 [(0, RR 132), (1, II v1), (2, II v2), (3, II w20), (4, II w25), (5, II (v5 + 1))] [] u16 Q) ∧ (¬ v4 < 0 → In32 (r10 + r15) ∧ ∀ w36 : Int, w36 = (if (if v4 ≤ (r10 + r15) then 0 else 1 : Int) = 0 then v3 else v5) → ∀ w41 : Int, w41 = (if (if v4 ≤ (r10 + r15) then 0 else 1 : Int) = 0 then v4 else r10 + r15) → V G mX6_lawBy 8 [(0, RR 132), (1, II v1), (2, II v2), (3, II w36), (4, II w41), (5, II (v5 + 1))] [] u16 Q)) ∧ (¬ v2 = 0 → In32 r10 ∧ In32 r15 ∧ ∀ w48 : Int, w48 = (if r10 ≤ r15 then r15 else r10) → In32 v4 ∧ (v4 < 0 → ∀ w54 : Int, w54 = (if (1 : Int) = 0 then v3 else v5) → ∀ w59 : Int, w59 = (if (1 : Int) = 0 then v4 else w48) → V G mX6_lawBy 8 [(0, RR 132), (1, II v1), (2, II v2), (3, II w54), (4, II w59), (5, II (v5 + 1))] [] u16 Q) ∧ (¬ v4 < 0 → In32 w48 ∧ ∀ w70 : Int, w70 = (if (if v4 ≤ w48 then 0 else 1 : Int) = 0 then v3 else v5) → ∀ w75 : Int, w75 = (if (if v4 ≤ w48 then 0 else 1 : Int) = 0 then v4 else w48) → V G mX6_lawBy 8 [(0, RR 132), (1, II v1), (2, II v2), (3, II w70), (4, II w75), (5, II (v5 + 1))] [] u16 Q)))) : V G mX6_lawBy 8 [(0, RR 132), (1, II v1), (2, II v2), (3, II v3), (4, II v4), (5, II v5)] [] t Q := by
  refine V_iload 5 rfl dX6_lawBy_8 rfl ?_
  refine V_iconst dX6_lawBy_10 rfl ?_
  obtain ⟨q1, h⟩ := h
  refine V_icmp_ge q1 (iL rfl) dX6_lawBy_11 (g := 111) rfl rfl ⟨fun hc => ?_, fun hc => ?_⟩
  · have h := h.1 hc
    refine V_iload_n 1 rfl dX6_lawBy_111 rfl ?_
    obtain ⟨q2, h⟩ := h
    have hj7 : ∀ w3 : Int, w3 = (if v1 = 0 then v3 else v4) → V G mX6_lawBy 121 [(0, RR 132), (1, II v1), (2, II v2), (3, II v3), (4, II v4), (5, II v5)] [II w3] t Q := by
      intro w3 e4
      have h := h w3 e4
      exact V_iret dX6_lawBy_121 (Or.inl rfl) h
    have hj7 := hj7 _ rfl
    refine V_if_ne q2 dX6_lawBy_112 (g := 119) rfl rfl ⟨fun hc => ?_, fun hc => ?_⟩
    · skip
      refine V_iload 4 rfl dX6_lawBy_119 rfl ?_
      rw [if_neg hc] at hj7
      exact hj7
    · skip
      refine V_iload_n 3 rfl dX6_lawBy_115 rfl ?_
      refine V_goto (g := 121) dX6_lawBy_116 rfl ?_
      rw [if_pos hc] at hj7
      exact hj7
  · have h := h.2 hc
    refine V_aload_n 0 rfl dX6_lawBy_14 rfl ?_
    refine V_iconst dX6_lawBy_15 rfl ?_
    refine V_iload 5 rfl dX6_lawBy_16 rfl ?_
    obtain ⟨P8, c9, h⟩ := h
    refine V_callVi (st := []) (as := [II 0, II v5]) okX6_waitsOf rfl mlX6_154 (by decide) kY132 rfl (Nat.le_of_ble_eq_true rfl) rfl dX6_lawBy_18 rfl c9 (fun r10 u11 e12 => ?_)
    have h := h r10 u11 e12
    refine V_istore (ls2 := [(0, RR 132), (1, II v1), (2, II v2), (3, II v3), (4, II v4), (5, II v5), (6, II r10)]) dX6_lawBy_21 rfl (by decide) rfl ?_
    refine V_aload_n 0 rfl dX6_lawBy_23 rfl ?_
    refine V_iconst dX6_lawBy_24 rfl ?_
    refine V_iload 5 rfl dX6_lawBy_25 rfl ?_
    obtain ⟨P13, c14, h⟩ := h
    refine V_callVi (st := []) (as := [II 1, II v5]) okX6_waitsOf rfl mlX6_154 (by decide) kY132 rfl (Nat.le_of_ble_eq_true rfl) rfl dX6_lawBy_27 rfl c14 (fun r15 u16 e17 => ?_)
    have h := h r15 u16 e17
    refine V_istore (ls2 := [(0, RR 132), (1, II v1), (2, II v2), (3, II v3), (4, II v4), (5, II v5), (6, II r10), (7, II r15)]) dX6_lawBy_30 rfl (by decide) rfl ?_
    refine V_iload_n 2 rfl dX6_lawBy_32 rfl ?_
    obtain ⟨q18, h⟩ := h
    refine V_if_eq q18 dX6_lawBy_33 (g := 53) rfl rfl ⟨fun hc => ?_, fun hc => ?_⟩
    · have h := h.1 hc
      refine V_iload 6 rfl dX6_lawBy_53 rfl ?_
      refine V_iload 7 rfl dX6_lawBy_55 rfl ?_
      refine V_iadd dX6_lawBy_57 rfl ?_
      refine V_istore (ls2 := [(0, RR 132), (1, II v1), (2, II v2), (3, II v3), (4, II v4), (5, II v5), (6, II r10), (7, II r15), (8, II (r10 + r15))]) dX6_lawBy_58 rfl (by decide) rfl ?_
      refine V_iload 4 rfl dX6_lawBy_60 rfl ?_
      obtain ⟨q19, h⟩ := h
      refine V_if_lt q19 dX6_lawBy_62 (g := 72) rfl rfl ⟨fun hc => ?_, fun hc => ?_⟩
      · have h := h.1 hc
        refine V_iconst dX6_lawBy_72 rfl ?_
        refine V_goto (g := 77) dX6_lawBy_73 rfl ?_
        refine V_istore (ls2 := [(0, RR 132), (1, II v1), (2, II v2), (3, II v3), (4, II v4), (5, II v5), (6, II r10), (7, II r15), (8, II (r10 + r15)), (9, II 1)]) dX6_lawBy_77 rfl (by decide) rfl ?_
        refine V_iload 9 rfl dX6_lawBy_79 rfl ?_
        have hj24 : ∀ w20 : Int, w20 = (if (1 : Int) = 0 then v3 else v5) → V G mX6_lawBy 90 [(0, RR 132), (1, II v1), (2, II v2), (3, II v3), (4, II v4), (5, II v5), (6, II r10), (7, II r15), (8, II (r10 + r15)), (9, II 1)] [II w20] u16 Q := by
          intro w20 e21
          have h := h w20 e21
          refine V_istore_n (ls2 := [(0, RR 132), (1, II v1), (2, II v2), (3, II w20), (4, II v4), (5, II v5), (6, II r10), (7, II r15), (8, II (r10 + r15)), (9, II 1)]) dX6_lawBy_90 rfl (by decide) rfl ?_
          refine V_iload 9 rfl dX6_lawBy_91 rfl ?_
          have hj29 : ∀ w25 : Int, w25 = (if (1 : Int) = 0 then v4 else r10 + r15) → V G mX6_lawBy 103 [(0, RR 132), (1, II v1), (2, II v2), (3, II w20), (4, II v4), (5, II v5), (6, II r10), (7, II r15), (8, II (r10 + r15)), (9, II 1)] [II w25] u16 Q := by
            intro w25 e26
            have h := h w25 e26
            refine V_istore (ls2 := [(0, RR 132), (1, II v1), (2, II v2), (3, II w20), (4, II w25), (5, II v5), (6, II r10), (7, II r15), (8, II (r10 + r15)), (9, II 1)]) dX6_lawBy_103 rfl (by decide) rfl ?_
            refine V_iinc 5 rfl (ls2 := [(0, RR 132), (1, II v1), (2, II v2), (3, II w20), (4, II w25), (5, II (v5 + 1)), (6, II r10), (7, II r15), (8, II (r10 + r15)), (9, II 1)]) dX6_lawBy_105 rfl (by decide) rfl ?_
            refine V_goto (g := 8) dX6_lawBy_108 rfl ?_
            exact V_sub (by intro q hq; simp only [List.mem_cons, List.not_mem_nil, or_false] at hq ⊢; first | (rcases hq with rfl | rfl | rfl | rfl | rfl | rfl <;> simp)) h
          have hj29 := hj29 _ rfl
          refine V_if_eq (iL rfl) dX6_lawBy_93 (g := 101) rfl rfl ⟨fun hc => ?_, fun hc => ?_⟩
          · skip
            refine V_iload 4 rfl dX6_lawBy_101 rfl ?_
            rw [if_pos hc] at hj29
            exact hj29
          · skip
            refine V_iload 8 rfl dX6_lawBy_96 rfl ?_
            refine V_goto (g := 103) dX6_lawBy_98 rfl ?_
            rw [if_neg hc] at hj29
            exact hj29
        have hj24 := hj24 _ rfl
        refine V_if_eq (iL rfl) dX6_lawBy_81 (g := 89) rfl rfl ⟨fun hc => ?_, fun hc => ?_⟩
        · skip
          refine V_iload_n 3 rfl dX6_lawBy_89 rfl ?_
          rw [if_pos hc] at hj24
          exact hj24
        · skip
          refine V_iload 5 rfl dX6_lawBy_84 rfl ?_
          refine V_goto (g := 90) dX6_lawBy_86 rfl ?_
          rw [if_neg hc] at hj24
          exact hj24
      · have h := h.2 hc
        refine V_iload 8 rfl dX6_lawBy_65 rfl ?_
        refine V_iload 4 rfl dX6_lawBy_67 rfl ?_
        obtain ⟨q30, h⟩ := h
        have hj35 : V G mX6_lawBy 77 [(0, RR 132), (1, II v1), (2, II v2), (3, II v3), (4, II v4), (5, II v5), (6, II r10), (7, II r15), (8, II (r10 + r15))] [II (if v4 ≤ (r10 + r15) then 0 else 1)] u16 Q := by
          refine V_istore (ls2 := [(0, RR 132), (1, II v1), (2, II v2), (3, II v3), (4, II v4), (5, II v5), (6, II r10), (7, II r15), (8, II (r10 + r15)), (9, II (if v4 ≤ (r10 + r15) then 0 else 1))]) dX6_lawBy_77 rfl (by decide) rfl ?_
          refine V_iload 9 rfl dX6_lawBy_79 rfl ?_
          have hj40 : ∀ w36 : Int, w36 = (if (if v4 ≤ (r10 + r15) then 0 else 1 : Int) = 0 then v3 else v5) → V G mX6_lawBy 90 [(0, RR 132), (1, II v1), (2, II v2), (3, II v3), (4, II v4), (5, II v5), (6, II r10), (7, II r15), (8, II (r10 + r15)), (9, II (if v4 ≤ (r10 + r15) then 0 else 1))] [II w36] u16 Q := by
            intro w36 e37
            have h := h w36 e37
            refine V_istore_n (ls2 := [(0, RR 132), (1, II v1), (2, II v2), (3, II w36), (4, II v4), (5, II v5), (6, II r10), (7, II r15), (8, II (r10 + r15)), (9, II (if v4 ≤ (r10 + r15) then 0 else 1))]) dX6_lawBy_90 rfl (by decide) rfl ?_
            refine V_iload 9 rfl dX6_lawBy_91 rfl ?_
            have hj45 : ∀ w41 : Int, w41 = (if (if v4 ≤ (r10 + r15) then 0 else 1 : Int) = 0 then v4 else r10 + r15) → V G mX6_lawBy 103 [(0, RR 132), (1, II v1), (2, II v2), (3, II w36), (4, II v4), (5, II v5), (6, II r10), (7, II r15), (8, II (r10 + r15)), (9, II (if v4 ≤ (r10 + r15) then 0 else 1))] [II w41] u16 Q := by
              intro w41 e42
              have h := h w41 e42
              refine V_istore (ls2 := [(0, RR 132), (1, II v1), (2, II v2), (3, II w36), (4, II w41), (5, II v5), (6, II r10), (7, II r15), (8, II (r10 + r15)), (9, II (if v4 ≤ (r10 + r15) then 0 else 1))]) dX6_lawBy_103 rfl (by decide) rfl ?_
              refine V_iinc 5 rfl (ls2 := [(0, RR 132), (1, II v1), (2, II v2), (3, II w36), (4, II w41), (5, II (v5 + 1)), (6, II r10), (7, II r15), (8, II (r10 + r15)), (9, II (if v4 ≤ (r10 + r15) then 0 else 1))]) dX6_lawBy_105 rfl (by decide) rfl ?_
              refine V_goto (g := 8) dX6_lawBy_108 rfl ?_
              exact V_sub (by intro q hq; simp only [List.mem_cons, List.not_mem_nil, or_false] at hq ⊢; first | (rcases hq with rfl | rfl | rfl | rfl | rfl | rfl <;> simp)) h
            have hj45 := hj45 _ rfl
            refine V_if_eq (by split <;> exact iL rfl) dX6_lawBy_93 (g := 101) rfl rfl ⟨fun hc => ?_, fun hc => ?_⟩
            · skip
              refine V_iload 4 rfl dX6_lawBy_101 rfl ?_
              rw [if_pos hc] at hj45
              exact hj45
            · skip
              refine V_iload 8 rfl dX6_lawBy_96 rfl ?_
              refine V_goto (g := 103) dX6_lawBy_98 rfl ?_
              rw [if_neg hc] at hj45
              exact hj45
          have hj40 := hj40 _ rfl
          refine V_if_eq (by split <;> exact iL rfl) dX6_lawBy_81 (g := 89) rfl rfl ⟨fun hc => ?_, fun hc => ?_⟩
          · skip
            refine V_iload_n 3 rfl dX6_lawBy_89 rfl ?_
            rw [if_pos hc] at hj40
            exact hj40
          · skip
            refine V_iload 5 rfl dX6_lawBy_84 rfl ?_
            refine V_goto (g := 90) dX6_lawBy_86 rfl ?_
            rw [if_neg hc] at hj40
            exact hj40
        refine V_icmp_ge q30 q19 dX6_lawBy_69 (g := 76) rfl rfl ⟨fun hc => ?_, fun hc => ?_⟩
        · skip
          refine V_iconst dX6_lawBy_76 rfl ?_
          rw [if_pos hc] at hj35
          exact hj35
        · skip
          refine V_iconst dX6_lawBy_72 rfl ?_
          refine V_goto (g := 77) dX6_lawBy_73 rfl ?_
          rw [if_neg hc] at hj35
          exact hj35
    · have h := h.2 hc
      refine V_iload 6 rfl dX6_lawBy_36 rfl ?_
      refine V_iload 7 rfl dX6_lawBy_38 rfl ?_
      obtain ⟨q46, h⟩ := h
      obtain ⟨q47, h⟩ := h
      have hj52 : ∀ w48 : Int, w48 = (if r10 ≤ r15 then r15 else r10) → V G mX6_lawBy 58 [(0, RR 132), (1, II v1), (2, II v2), (3, II v3), (4, II v4), (5, II v5), (6, II r10), (7, II r15)] [II w48] u16 Q := by
        intro w48 e49
        have h := h w48 e49
        refine V_istore (ls2 := [(0, RR 132), (1, II v1), (2, II v2), (3, II v3), (4, II v4), (5, II v5), (6, II r10), (7, II r15), (8, II w48)]) dX6_lawBy_58 rfl (by decide) rfl ?_
        refine V_iload 4 rfl dX6_lawBy_60 rfl ?_
        obtain ⟨q53, h⟩ := h
        refine V_if_lt q53 dX6_lawBy_62 (g := 72) rfl rfl ⟨fun hc => ?_, fun hc => ?_⟩
        · have h := h.1 hc
          refine V_iconst dX6_lawBy_72 rfl ?_
          refine V_goto (g := 77) dX6_lawBy_73 rfl ?_
          refine V_istore (ls2 := [(0, RR 132), (1, II v1), (2, II v2), (3, II v3), (4, II v4), (5, II v5), (6, II r10), (7, II r15), (8, II w48), (9, II 1)]) dX6_lawBy_77 rfl (by decide) rfl ?_
          refine V_iload 9 rfl dX6_lawBy_79 rfl ?_
          have hj58 : ∀ w54 : Int, w54 = (if (1 : Int) = 0 then v3 else v5) → V G mX6_lawBy 90 [(0, RR 132), (1, II v1), (2, II v2), (3, II v3), (4, II v4), (5, II v5), (6, II r10), (7, II r15), (8, II w48), (9, II 1)] [II w54] u16 Q := by
            intro w54 e55
            have h := h w54 e55
            refine V_istore_n (ls2 := [(0, RR 132), (1, II v1), (2, II v2), (3, II w54), (4, II v4), (5, II v5), (6, II r10), (7, II r15), (8, II w48), (9, II 1)]) dX6_lawBy_90 rfl (by decide) rfl ?_
            refine V_iload 9 rfl dX6_lawBy_91 rfl ?_
            have hj63 : ∀ w59 : Int, w59 = (if (1 : Int) = 0 then v4 else w48) → V G mX6_lawBy 103 [(0, RR 132), (1, II v1), (2, II v2), (3, II w54), (4, II v4), (5, II v5), (6, II r10), (7, II r15), (8, II w48), (9, II 1)] [II w59] u16 Q := by
              intro w59 e60
              have h := h w59 e60
              refine V_istore (ls2 := [(0, RR 132), (1, II v1), (2, II v2), (3, II w54), (4, II w59), (5, II v5), (6, II r10), (7, II r15), (8, II w48), (9, II 1)]) dX6_lawBy_103 rfl (by decide) rfl ?_
              refine V_iinc 5 rfl (ls2 := [(0, RR 132), (1, II v1), (2, II v2), (3, II w54), (4, II w59), (5, II (v5 + 1)), (6, II r10), (7, II r15), (8, II w48), (9, II 1)]) dX6_lawBy_105 rfl (by decide) rfl ?_
              refine V_goto (g := 8) dX6_lawBy_108 rfl ?_
              exact V_sub (by intro q hq; simp only [List.mem_cons, List.not_mem_nil, or_false] at hq ⊢; first | (rcases hq with rfl | rfl | rfl | rfl | rfl | rfl <;> simp)) h
            have hj63 := hj63 _ rfl
            refine V_if_eq (iL rfl) dX6_lawBy_93 (g := 101) rfl rfl ⟨fun hc => ?_, fun hc => ?_⟩
            · skip
              refine V_iload 4 rfl dX6_lawBy_101 rfl ?_
              rw [if_pos hc] at hj63
              exact hj63
            · skip
              refine V_iload 8 rfl dX6_lawBy_96 rfl ?_
              refine V_goto (g := 103) dX6_lawBy_98 rfl ?_
              rw [if_neg hc] at hj63
              exact hj63
          have hj58 := hj58 _ rfl
          refine V_if_eq (iL rfl) dX6_lawBy_81 (g := 89) rfl rfl ⟨fun hc => ?_, fun hc => ?_⟩
          · skip
            refine V_iload_n 3 rfl dX6_lawBy_89 rfl ?_
            rw [if_pos hc] at hj58
            exact hj58
          · skip
            refine V_iload 5 rfl dX6_lawBy_84 rfl ?_
            refine V_goto (g := 90) dX6_lawBy_86 rfl ?_
            rw [if_neg hc] at hj58
            exact hj58
        · have h := h.2 hc
          refine V_iload 8 rfl dX6_lawBy_65 rfl ?_
          refine V_iload 4 rfl dX6_lawBy_67 rfl ?_
          obtain ⟨q64, h⟩ := h
          have hj69 : V G mX6_lawBy 77 [(0, RR 132), (1, II v1), (2, II v2), (3, II v3), (4, II v4), (5, II v5), (6, II r10), (7, II r15), (8, II w48)] [II (if v4 ≤ w48 then 0 else 1)] u16 Q := by
            refine V_istore (ls2 := [(0, RR 132), (1, II v1), (2, II v2), (3, II v3), (4, II v4), (5, II v5), (6, II r10), (7, II r15), (8, II w48), (9, II (if v4 ≤ w48 then 0 else 1))]) dX6_lawBy_77 rfl (by decide) rfl ?_
            refine V_iload 9 rfl dX6_lawBy_79 rfl ?_
            have hj74 : ∀ w70 : Int, w70 = (if (if v4 ≤ w48 then 0 else 1 : Int) = 0 then v3 else v5) → V G mX6_lawBy 90 [(0, RR 132), (1, II v1), (2, II v2), (3, II v3), (4, II v4), (5, II v5), (6, II r10), (7, II r15), (8, II w48), (9, II (if v4 ≤ w48 then 0 else 1))] [II w70] u16 Q := by
              intro w70 e71
              have h := h w70 e71
              refine V_istore_n (ls2 := [(0, RR 132), (1, II v1), (2, II v2), (3, II w70), (4, II v4), (5, II v5), (6, II r10), (7, II r15), (8, II w48), (9, II (if v4 ≤ w48 then 0 else 1))]) dX6_lawBy_90 rfl (by decide) rfl ?_
              refine V_iload 9 rfl dX6_lawBy_91 rfl ?_
              have hj79 : ∀ w75 : Int, w75 = (if (if v4 ≤ w48 then 0 else 1 : Int) = 0 then v4 else w48) → V G mX6_lawBy 103 [(0, RR 132), (1, II v1), (2, II v2), (3, II w70), (4, II v4), (5, II v5), (6, II r10), (7, II r15), (8, II w48), (9, II (if v4 ≤ w48 then 0 else 1))] [II w75] u16 Q := by
                intro w75 e76
                have h := h w75 e76
                refine V_istore (ls2 := [(0, RR 132), (1, II v1), (2, II v2), (3, II w70), (4, II w75), (5, II v5), (6, II r10), (7, II r15), (8, II w48), (9, II (if v4 ≤ w48 then 0 else 1))]) dX6_lawBy_103 rfl (by decide) rfl ?_
                refine V_iinc 5 rfl (ls2 := [(0, RR 132), (1, II v1), (2, II v2), (3, II w70), (4, II w75), (5, II (v5 + 1)), (6, II r10), (7, II r15), (8, II w48), (9, II (if v4 ≤ w48 then 0 else 1))]) dX6_lawBy_105 rfl (by decide) rfl ?_
                refine V_goto (g := 8) dX6_lawBy_108 rfl ?_
                exact V_sub (by intro q hq; simp only [List.mem_cons, List.not_mem_nil, or_false] at hq ⊢; first | (rcases hq with rfl | rfl | rfl | rfl | rfl | rfl <;> simp)) h
              have hj79 := hj79 _ rfl
              refine V_if_eq (by split <;> exact iL rfl) dX6_lawBy_93 (g := 101) rfl rfl ⟨fun hc => ?_, fun hc => ?_⟩
              · skip
                refine V_iload 4 rfl dX6_lawBy_101 rfl ?_
                rw [if_pos hc] at hj79
                exact hj79
              · skip
                refine V_iload 8 rfl dX6_lawBy_96 rfl ?_
                refine V_goto (g := 103) dX6_lawBy_98 rfl ?_
                rw [if_neg hc] at hj79
                exact hj79
            have hj74 := hj74 _ rfl
            refine V_if_eq (by split <;> exact iL rfl) dX6_lawBy_81 (g := 89) rfl rfl ⟨fun hc => ?_, fun hc => ?_⟩
            · skip
              refine V_iload_n 3 rfl dX6_lawBy_89 rfl ?_
              rw [if_pos hc] at hj74
              exact hj74
            · skip
              refine V_iload 5 rfl dX6_lawBy_84 rfl ?_
              refine V_goto (g := 90) dX6_lawBy_86 rfl ?_
              rw [if_neg hc] at hj74
              exact hj74
          refine V_icmp_ge q64 q53 dX6_lawBy_69 (g := 76) rfl rfl ⟨fun hc => ?_, fun hc => ?_⟩
          · skip
            refine V_iconst dX6_lawBy_76 rfl ?_
            rw [if_pos hc] at hj69
            exact hj69
          · skip
            refine V_iconst dX6_lawBy_72 rfl ?_
            refine V_goto (g := 77) dX6_lawBy_73 rfl ?_
            rw [if_neg hc] at hj69
            exact hj69
      have hj52 := hj52 _ rfl
      refine V_icmp_le q46 q47 dX6_lawBy_40 (g := 48) rfl rfl ⟨fun hc => ?_, fun hc => ?_⟩
      · skip
        refine V_iload 7 rfl dX6_lawBy_48 rfl ?_
        refine V_goto (g := 58) dX6_lawBy_50 rfl ?_
        rw [if_pos hc] at hj52
        exact hj52
      · skip
        refine V_iload 6 rfl dX6_lawBy_43 rfl ?_
        refine V_goto (g := 58) dX6_lawBy_45 rfl ?_
        rw [if_neg hc] at hj52
        exact hj52
theorem eX6_least {G : GG} {Q : Int → Mem → Prop} {t : Mem} {v1 : Int} (k : V G mX6_least 0 [(0, RR 132), (1, II v1)] [] t Q) : Ex G mX6_least [RR 132, II v1] t Q := Ex.of plX6 (Or.inr (Or.inl rfl)) (Nat.le_of_ble_eq_true rfl) rfl k
set_option maxRecDepth 100000 in
theorem sgX6_least_0 {G : GG} {Q : Int → Mem → Prop} {t : Mem} {v1 : Int}  (h : In32 v1 ∧ ∃ P2 : Int → Mem → Prop, Ex G mX6_in [JJ v1, JJ 0, JJ 1] t P2 ∧ ∀ (r4 : Int) (u5 : Mem), P2 r4 u5 → In32 r4 ∧ (r4 = 0 → Q (-1) u5) ∧ (¬ r4 = 0 → ∃ P8 : Int → Mem → Prop, Ex G mX6_lawBy [RR 132, II v1, II 0] u5 P8 ∧ ∀ (r10 : Int) (u11 : Mem), P8 r10 u11 → Q r10 u11)) : V G mX6_least 0 [(0, RR 132), (1, II v1)] [] t Q := by
  refine V_iload_n 1 rfl dX6_least_0 rfl ?_
  obtain ⟨q1, h⟩ := h
  refine V_i2l q1 dX6_least_1 rfl ?_
  refine V_lconst (z := 0) rfl dX6_least_2 rfl ?_
  refine V_lconst (z := 1) rfl dX6_least_3 rfl ?_
  obtain ⟨P2, c3, h⟩ := h
  refine V_callSi (st := []) (as := [JJ v1, JJ 0, JJ 1]) okX6_in rfl mlX6_51 (by decide) rfl (Nat.le_of_ble_eq_true rfl) rfl dX6_least_4 rfl c3 (fun r4 u5 e6 => ?_)
  have h := h r4 u5 e6
  obtain ⟨q7, h⟩ := h
  refine V_if_eq q7 dX6_least_7 (g := 19) rfl rfl ⟨fun hc => ?_, fun hc => ?_⟩
  · have h := h.1 hc
    refine V_iconst dX6_least_19 rfl ?_
    exact V_iret dX6_least_20 (Or.inl rfl) h
  · have h := h.2 hc
    refine V_aload_n 0 rfl dX6_least_10 rfl ?_
    refine V_iload_n 1 rfl dX6_least_11 rfl ?_
    refine V_iconst dX6_least_12 rfl ?_
    obtain ⟨P8, c9, h⟩ := h
    refine V_callVi (st := []) (as := [II v1, II 0]) okX6_lawBy rfl mlX6_157 (by decide) kY132 rfl (Nat.le_of_ble_eq_true rfl) rfl dX6_least_13 rfl c9 (fun r10 u11 e12 => ?_)
    have h := h r10 u11 e12
    refine V_goto (g := 20) dX6_least_16 rfl ?_
    exact V_iret dX6_least_20 (Or.inl rfl) h
theorem eX6_both {G : GG} {Q : Int → Mem → Prop} {t : Mem} {v1 : Int} (k : V G mX6_both 0 [(0, RR 132), (1, II v1)] [] t Q) : Ex G mX6_both [RR 132, II v1] t Q := Ex.of plX6 (Or.inr (Or.inl rfl)) (Nat.le_of_ble_eq_true rfl) rfl k
set_option maxRecDepth 100000 in
theorem sgX6_both_0 {G : GG} {Q : Int → Mem → Prop} {t : Mem} {v1 : Int}  (h : In32 v1 ∧ ∃ P2 : Int → Mem → Prop, Ex G mX6_in [JJ v1, JJ 0, JJ 1] t P2 ∧ ∀ (r4 : Int) (u5 : Mem), P2 r4 u5 → In32 r4 ∧ (r4 = 0 → Q (-1) u5) ∧ (¬ r4 = 0 → ∃ P8 : Int → Mem → Prop, Ex G mX6_lawBy [RR 132, II v1, II 1] u5 P8 ∧ ∀ (r10 : Int) (u11 : Mem), P8 r10 u11 → Q r10 u11)) : V G mX6_both 0 [(0, RR 132), (1, II v1)] [] t Q := by
  refine V_iload_n 1 rfl dX6_both_0 rfl ?_
  obtain ⟨q1, h⟩ := h
  refine V_i2l q1 dX6_both_1 rfl ?_
  refine V_lconst (z := 0) rfl dX6_both_2 rfl ?_
  refine V_lconst (z := 1) rfl dX6_both_3 rfl ?_
  obtain ⟨P2, c3, h⟩ := h
  refine V_callSi (st := []) (as := [JJ v1, JJ 0, JJ 1]) okX6_in rfl mlX6_51 (by decide) rfl (Nat.le_of_ble_eq_true rfl) rfl dX6_both_4 rfl c3 (fun r4 u5 e6 => ?_)
  have h := h r4 u5 e6
  obtain ⟨q7, h⟩ := h
  refine V_if_eq q7 dX6_both_7 (g := 19) rfl rfl ⟨fun hc => ?_, fun hc => ?_⟩
  · have h := h.1 hc
    refine V_iconst dX6_both_19 rfl ?_
    exact V_iret dX6_both_20 (Or.inl rfl) h
  · have h := h.2 hc
    refine V_aload_n 0 rfl dX6_both_10 rfl ?_
    refine V_iload_n 1 rfl dX6_both_11 rfl ?_
    refine V_iconst dX6_both_12 rfl ?_
    obtain ⟨P8, c9, h⟩ := h
    refine V_callVi (st := []) (as := [II v1, II 1]) okX6_lawBy rfl mlX6_157 (by decide) kY132 rfl (Nat.le_of_ble_eq_true rfl) rfl dX6_both_13 rfl c9 (fun r10 u11 e12 => ?_)
    have h := h r10 u11 e12
    refine V_goto (g := 20) dX6_both_16 rfl ?_
    exact V_iret dX6_both_20 (Or.inl rfl) h
theorem eX6_many {G : GG} {Q : Int → Mem → Prop} {t : Mem} {v0 : Int} (k : V G mX6_many 0 [(0, II v0)] [] t Q) : Ex G mX6_many [II v0] t Q := Ex.of plX6 (Or.inr (Or.inl rfl)) (Nat.le_of_ble_eq_true rfl) rfl k
set_option maxRecDepth 100000 in
theorem sgX6_many_0 {G : GG} {Q : Int → Mem → Prop} {t : Mem} {v0 : Int}  (h : V G mX6_many 4 [(0, II v0), (1, II 0), (2, II v0)] [] t Q) : V G mX6_many 0 [(0, II v0)] [] t Q := by
  refine V_iconst dX6_many_0 rfl ?_
  refine V_istore_n (ls2 := [(0, II v0), (1, II 0)]) dX6_many_1 rfl (by decide) rfl ?_
  refine V_iload_n 0 rfl dX6_many_2 rfl ?_
  refine V_istore_n (ls2 := [(0, II v0), (1, II 0), (2, II v0)]) dX6_many_3 rfl (by decide) rfl ?_
  exact h
set_option maxRecDepth 100000 in
theorem sgX6_many_4 {G : GG} {Q : Int → Mem → Prop} {t : Mem} {v0 v1 v2 : Int}  (h : In32 v2 ∧ (v2 = 0 → Q v1 t) ∧ (¬ v2 = 0 → V G mX6_many 4 [(0, II v0), (1, II (v1 + 1)), (2, II (iAnd v2 (v2 - 1)))] [] t Q)) : V G mX6_many 4 [(0, II v0), (1, II v1), (2, II v2)] [] t Q := by
  refine V_iload_n 2 rfl dX6_many_4 rfl ?_
  obtain ⟨q1, h⟩ := h
  refine V_if_eq q1 dX6_many_5 (g := 20) rfl rfl ⟨fun hc => ?_, fun hc => ?_⟩
  · have h := h.1 hc
    refine V_iload_n 1 rfl dX6_many_20 rfl ?_
    exact V_iret dX6_many_21 (Or.inl rfl) h
  · have h := h.2 hc
    refine V_iinc 1 rfl (ls2 := [(0, II v0), (1, II (v1 + 1)), (2, II v2)]) dX6_many_8 rfl (by decide) rfl ?_
    refine V_iload_n 2 rfl dX6_many_11 rfl ?_
    refine V_iload_n 2 rfl dX6_many_12 rfl ?_
    refine V_iconst dX6_many_13 rfl ?_
    refine V_isub dX6_many_14 rfl ?_
    refine V_iand dX6_many_15 rfl ?_
    refine V_istore_n (ls2 := [(0, II v0), (1, II (v1 + 1)), (2, II (iAnd v2 (v2 - 1)))]) dX6_many_16 rfl (by decide) rfl ?_
    refine V_goto (g := 4) dX6_many_17 rfl ?_
    exact h
theorem eX6_wholly {G : GG} {Q : Int → Mem → Prop} {t : Mem} {v1 v2 : Int} (k : V G mX6_wholly 0 [(0, RR 132), (1, II v1), (2, II v2)] [] t Q) : Ex G mX6_wholly [RR 132, II v1, II v2] t Q := Ex.of plX6 (Or.inr (Or.inl rfl)) (Nat.le_of_ble_eq_true rfl) rfl k
set_option maxRecDepth 100000 in
theorem sgX6_wholly_0 {G : GG} {Q : Int → Mem → Prop} {t : Mem} {v1 v2 : Int}  (h : In32 v1 ∧ ∃ P2 : Int → Mem → Prop, Ex G mX6_in [JJ v1, JJ 0, JJ 240] t P2 ∧ ∀ (r4 : Int) (u5 : Mem), P2 r4 u5 → In32 r4 ∧ (r4 = 0 → Q (-1) u5) ∧ (¬ r4 = 0 → In32 v2 ∧ ∃ P9 : Int → Mem → Prop, Ex G mX6_in [JJ v2, JJ 0, JJ 1] u5 P9 ∧ ∀ (r11 : Int) (u12 : Mem), P9 r11 u12 → In32 r11 ∧ (¬ r11 = 0 → ∃ P15 : Int → Mem → Prop, Ex G mX6_asides [RR 132] u12 P15 ∧ ∀ u18 : Mem, P15 0 u18 → ∃ P20 : Int → Mem → Prop, Ex G mX6_others [RR 132] u18 P20 ∧ ∀ (r22 : Int) (u23 : Mem), P20 r22 u23 → V G mX6_wholly 42 [(0, RR 132), (1, II v1), (2, II v2), (3, II r22), (4, II 0), (5, II (-1)), (6, II 0)] [] u23 Q) ∧ (r11 = 0 → Q (-1) u12))) : V G mX6_wholly 0 [(0, RR 132), (1, II v1), (2, II v2)] [] t Q := by
  refine V_iload_n 1 rfl dX6_wholly_0 rfl ?_
  obtain ⟨q1, h⟩ := h
  refine V_i2l q1 dX6_wholly_1 rfl ?_
  refine V_lconst (z := 0) rfl dX6_wholly_2 rfl ?_
  refine V_ldc2 (x := 240) ctX6_140 rfl dX6_wholly_3 rfl ?_
  obtain ⟨P2, c3, h⟩ := h
  refine V_callSi (st := []) (as := [JJ v1, JJ 0, JJ 240]) okX6_in rfl mlX6_51 (by decide) rfl (Nat.le_of_ble_eq_true rfl) rfl dX6_wholly_6 rfl c3 (fun r4 u5 e6 => ?_)
  have h := h r4 u5 e6
  obtain ⟨q7, h⟩ := h
  refine V_if_eq q7 dX6_wholly_9 (g := 22) rfl rfl ⟨fun hc => ?_, fun hc => ?_⟩
  · have h := h.1 hc
    refine V_iconst dX6_wholly_22 rfl ?_
    exact V_iret dX6_wholly_23 (Or.inl rfl) h
  · have h := h.2 hc
    refine V_iload_n 2 rfl dX6_wholly_12 rfl ?_
    obtain ⟨q8, h⟩ := h
    refine V_i2l q8 dX6_wholly_13 rfl ?_
    refine V_lconst (z := 0) rfl dX6_wholly_14 rfl ?_
    refine V_lconst (z := 1) rfl dX6_wholly_15 rfl ?_
    obtain ⟨P9, c10, h⟩ := h
    refine V_callSi (st := []) (as := [JJ v2, JJ 0, JJ 1]) okX6_in rfl mlX6_51 (by decide) rfl (Nat.le_of_ble_eq_true rfl) rfl dX6_wholly_16 rfl c10 (fun r11 u12 e13 => ?_)
    have h := h r11 u12 e13
    obtain ⟨q14, h⟩ := h
    refine V_if_ne q14 dX6_wholly_19 (g := 24) rfl rfl ⟨fun hc => ?_, fun hc => ?_⟩
    · have h := h.1 hc
      refine V_aload_n 0 rfl dX6_wholly_24 rfl ?_
      obtain ⟨P15, c16, h⟩ := h
      refine V_callVv (st := []) (as := []) okX6_asides rfl mlX6_142 (by decide) kY132 rfl (Nat.le_of_ble_eq_true rfl) rfl dX6_wholly_25 rfl c16 (fun u18 e19 => ?_)
      have h := h u18 e19
      refine V_aload_n 0 rfl dX6_wholly_28 rfl ?_
      obtain ⟨P20, c21, h⟩ := h
      refine V_callVi (st := []) (as := []) okX6_others rfl mlX6_151 (by decide) kY132 rfl (Nat.le_of_ble_eq_true rfl) rfl dX6_wholly_29 rfl c21 (fun r22 u23 e24 => ?_)
      have h := h r22 u23 e24
      refine V_istore_n (ls2 := [(0, RR 132), (1, II v1), (2, II v2), (3, II r22)]) dX6_wholly_32 rfl (by decide) rfl ?_
      refine V_iconst dX6_wholly_33 rfl ?_
      refine V_istore (ls2 := [(0, RR 132), (1, II v1), (2, II v2), (3, II r22), (4, II 0)]) dX6_wholly_34 rfl (by decide) rfl ?_
      refine V_iconst dX6_wholly_36 rfl ?_
      refine V_istore (ls2 := [(0, RR 132), (1, II v1), (2, II v2), (3, II r22), (4, II 0), (5, II (-1))]) dX6_wholly_37 rfl (by decide) rfl ?_
      refine V_iconst dX6_wholly_39 rfl ?_
      refine V_istore (ls2 := [(0, RR 132), (1, II v1), (2, II v2), (3, II r22), (4, II 0), (5, II (-1)), (6, II 0)]) dX6_wholly_40 rfl (by decide) rfl ?_
      exact h
    · have h := h.2 hc
      refine V_iconst dX6_wholly_22 rfl ?_
      exact V_iret dX6_wholly_23 (Or.inl rfl) h
set_option maxRecDepth 100000 in
theorem sgX6_wholly_42 {G : GG} {Q : Int → Mem → Prop} {t : Mem} {v1 v2 v3 v4 v5 v6 : Int}  (h : In32 v6 ∧ In32 v3 ∧ (v3 < v6 → In32 v2 ∧ ∀ w4 : Int, w4 = (if v2 = 0 then v4 else v5) → Q w4 t) ∧ (¬ v3 < v6 → In32 (iAnd v6 (iXor v3 (-1))) ∧ (¬ (iAnd v6 (iXor v3 (-1))) = 0 → V G mX6_wholly 42 [(0, RR 132), (1, II v1), (2, II v2), (3, II v3), (4, II v4), (5, II v5), (6, II (v6 + 1))] [] t Q) ∧ ((iAnd v6 (iXor v3 (-1))) = 0 → V G mX6_wholly 60 [(0, RR 132), (1, II v1), (2, II v2), (3, II v3), (4, II v4), (5, II v5), (6, II v6), (7, II 0)] [] t Q))) : V G mX6_wholly 42 [(0, RR 132), (1, II v1), (2, II v2), (3, II v3), (4, II v4), (5, II v5), (6, II v6)] [] t Q := by
  refine V_iload 6 rfl dX6_wholly_42 rfl ?_
  refine V_iload_n 3 rfl dX6_wholly_44 rfl ?_
  obtain ⟨q1, h⟩ := h
  obtain ⟨q2, h⟩ := h
  refine V_icmp_gt q1 q2 dX6_wholly_45 (g := 131) rfl rfl ⟨fun hc => ?_, fun hc => ?_⟩
  · have h := h.1 hc
    refine V_iload_n 2 rfl dX6_wholly_131 rfl ?_
    obtain ⟨q3, h⟩ := h
    have hj8 : ∀ w4 : Int, w4 = (if v2 = 0 then v4 else v5) → V G mX6_wholly 142 [(0, RR 132), (1, II v1), (2, II v2), (3, II v3), (4, II v4), (5, II v5), (6, II v6)] [II w4] t Q := by
      intro w4 e5
      have h := h w4 e5
      exact V_iret dX6_wholly_142 (Or.inl rfl) h
    have hj8 := hj8 _ rfl
    refine V_if_ne q3 dX6_wholly_132 (g := 140) rfl rfl ⟨fun hc => ?_, fun hc => ?_⟩
    · skip
      refine V_iload 5 rfl dX6_wholly_140 rfl ?_
      rw [if_neg hc] at hj8
      exact hj8
    · skip
      refine V_iload 4 rfl dX6_wholly_135 rfl ?_
      refine V_goto (g := 142) dX6_wholly_137 rfl ?_
      rw [if_pos hc] at hj8
      exact hj8
  · have h := h.2 hc
    refine V_iload 6 rfl dX6_wholly_48 rfl ?_
    refine V_iload_n 3 rfl dX6_wholly_50 rfl ?_
    refine V_iconst dX6_wholly_51 rfl ?_
    refine V_ixor dX6_wholly_52 rfl ?_
    refine V_iand dX6_wholly_53 rfl ?_
    obtain ⟨q9, h⟩ := h
    refine V_if_ne q9 dX6_wholly_54 (g := 125) rfl rfl ⟨fun hc => ?_, fun hc => ?_⟩
    · have h := h.1 hc
      refine V_iinc 6 rfl (ls2 := [(0, RR 132), (1, II v1), (2, II v2), (3, II v3), (4, II v4), (5, II v5), (6, II (v6 + 1))]) dX6_wholly_125 rfl (by decide) rfl ?_
      refine V_goto (g := 42) dX6_wholly_128 rfl ?_
      exact h
    · have h := h.2 hc
      refine V_iconst dX6_wholly_57 rfl ?_
      refine V_istore (ls2 := [(0, RR 132), (1, II v1), (2, II v2), (3, II v3), (4, II v4), (5, II v5), (6, II v6), (7, II 0)]) dX6_wholly_58 rfl (by decide) rfl ?_
      exact h
set_option maxRecDepth 100000 in
theorem sgX6_wholly_60 {G : GG} {Q : Int → Mem → Prop} {t : Mem} {v1 v2 v3 v4 v5 v6 v7 : Int}  (h : In32 v7 ∧ In32 v1 ∧ (v1 ≤ v7 → ∃ P3 : Int → Mem → Prop, Ex G mX6_sated [RR 132] t P3 ∧ ∀ (r5 : Int) (u6 : Mem), P3 r5 u6 → ∃ P8 : Int → Mem → Prop, Ex G mX6_many [II r5] u6 P8 ∧ ∀ (r10 : Int) (u11 : Mem), P8 r10 u11 → In32 r10 ∧ In32 v5 ∧ ∀ w15 : Int, w15 = (if r10 ≤ v5 then v4 else v6) → ∀ w20 : Int, w20 = (if r10 ≤ v5 then v5 else r10) → ∃ P25 : Int → Mem → Prop, Ex G mX6_backs [RR 132] u11 P25 ∧ ∀ u28 : Mem, P25 0 u28 → V G mX6_wholly 42 [(0, RR 132), (1, II v1), (2, II v2), (3, II v3), (4, II w15), (5, II w20), (6, II (v6 + 1))] [] u28 Q) ∧ (¬ v1 ≤ v7 → ∃ P30 : Int → Mem → Prop, Ex G mX6_goes [RR 132, II 0, II v6] t P30 ∧ ∀ (r32 : Int) (u33 : Mem), P30 r32 u33 → V G mX6_wholly 60 [(0, RR 132), (1, II v1), (2, II v2), (3, II v3), (4, II v4), (5, II v5), (6, II v6), (7, II (v7 + 1))] [] u33 Q)) : V G mX6_wholly 60 [(0, RR 132), (1, II v1), (2, II v2), (3, II v3), (4, II v4), (5, II v5), (6, II v6), (7, II v7)] [] t Q := by
  refine V_iload 7 rfl dX6_wholly_60 rfl ?_
  refine V_iload_n 1 rfl dX6_wholly_62 rfl ?_
  obtain ⟨q1, h⟩ := h
  obtain ⟨q2, h⟩ := h
  refine V_icmp_ge q1 q2 dX6_wholly_63 (g := 80) rfl rfl ⟨fun hc => ?_, fun hc => ?_⟩
  · have h := h.1 hc
    refine V_aload_n 0 rfl dX6_wholly_80 rfl ?_
    obtain ⟨P3, c4, h⟩ := h
    refine V_callVi (st := []) (as := []) okX6_sated rfl mlX6_134 (by decide) kY132 rfl (Nat.le_of_ble_eq_true rfl) rfl dX6_wholly_81 rfl c4 (fun r5 u6 e7 => ?_)
    have h := h r5 u6 e7
    obtain ⟨P8, c9, h⟩ := h
    refine V_callSi (st := []) (as := [II r5]) okX6_many rfl mlX6_160 (by decide) rfl (Nat.le_of_ble_eq_true rfl) rfl dX6_wholly_84 rfl c9 (fun r10 u11 e12 => ?_)
    have h := h r10 u11 e12
    refine V_istore (ls2 := [(0, RR 132), (1, II v1), (2, II v2), (3, II v3), (4, II v4), (5, II v5), (6, II v6), (7, II r10)]) dX6_wholly_87 rfl (by decide) rfl ?_
    refine V_iload 7 rfl dX6_wholly_89 rfl ?_
    refine V_iload 5 rfl dX6_wholly_91 rfl ?_
    obtain ⟨q13, h⟩ := h
    obtain ⟨q14, h⟩ := h
    have hj19 : ∀ w15 : Int, w15 = (if r10 ≤ v5 then v4 else v6) → V G mX6_wholly 103 [(0, RR 132), (1, II v1), (2, II v2), (3, II v3), (4, II v4), (5, II v5), (6, II v6), (7, II r10)] [II w15] u11 Q := by
      intro w15 e16
      have h := h w15 e16
      refine V_istore (ls2 := [(0, RR 132), (1, II v1), (2, II v2), (3, II v3), (4, II w15), (5, II v5), (6, II v6), (7, II r10)]) dX6_wholly_103 rfl (by decide) rfl ?_
      refine V_iload 7 rfl dX6_wholly_105 rfl ?_
      refine V_iload 5 rfl dX6_wholly_107 rfl ?_
      have hj24 : ∀ w20 : Int, w20 = (if r10 ≤ v5 then v5 else r10) → V G mX6_wholly 119 [(0, RR 132), (1, II v1), (2, II v2), (3, II v3), (4, II w15), (5, II v5), (6, II v6), (7, II r10)] [II w20] u11 Q := by
        intro w20 e21
        have h := h w20 e21
        refine V_istore (ls2 := [(0, RR 132), (1, II v1), (2, II v2), (3, II v3), (4, II w15), (5, II w20), (6, II v6), (7, II r10)]) dX6_wholly_119 rfl (by decide) rfl ?_
        refine V_aload_n 0 rfl dX6_wholly_121 rfl ?_
        obtain ⟨P25, c26, h⟩ := h
        refine V_callVv (st := []) (as := []) okX6_backs rfl mlX6_145 (by decide) kY132 rfl (Nat.le_of_ble_eq_true rfl) rfl dX6_wholly_122 rfl c26 (fun u28 e29 => ?_)
        have h := h u28 e29
        refine V_iinc 6 rfl (ls2 := [(0, RR 132), (1, II v1), (2, II v2), (3, II v3), (4, II w15), (5, II w20), (6, II (v6 + 1)), (7, II r10)]) dX6_wholly_125 rfl (by decide) rfl ?_
        refine V_goto (g := 42) dX6_wholly_128 rfl ?_
        exact V_sub (by intro q hq; simp only [List.mem_cons, List.not_mem_nil, or_false] at hq ⊢; first | (rcases hq with rfl | rfl | rfl | rfl | rfl | rfl | rfl <;> simp)) h
      have hj24 := hj24 _ rfl
      refine V_icmp_le q13 q14 dX6_wholly_109 (g := 117) rfl rfl ⟨fun hc => ?_, fun hc => ?_⟩
      · skip
        refine V_iload 5 rfl dX6_wholly_117 rfl ?_
        rw [if_pos hc] at hj24
        exact hj24
      · skip
        refine V_iload 7 rfl dX6_wholly_112 rfl ?_
        refine V_goto (g := 119) dX6_wholly_114 rfl ?_
        rw [if_neg hc] at hj24
        exact hj24
    have hj19 := hj19 _ rfl
    refine V_icmp_le q13 q14 dX6_wholly_93 (g := 101) rfl rfl ⟨fun hc => ?_, fun hc => ?_⟩
    · skip
      refine V_iload 4 rfl dX6_wholly_101 rfl ?_
      rw [if_pos hc] at hj19
      exact hj19
    · skip
      refine V_iload 6 rfl dX6_wholly_96 rfl ?_
      refine V_goto (g := 103) dX6_wholly_98 rfl ?_
      rw [if_neg hc] at hj19
      exact hj19
  · have h := h.2 hc
    refine V_aload_n 0 rfl dX6_wholly_66 rfl ?_
    refine V_iconst dX6_wholly_67 rfl ?_
    refine V_iload 6 rfl dX6_wholly_68 rfl ?_
    obtain ⟨P30, c31, h⟩ := h
    refine V_callVi (st := []) (as := [II 0, II v6]) okX6_goes rfl mlX6_124 (by decide) kY132 rfl (Nat.le_of_ble_eq_true rfl) rfl dX6_wholly_70 rfl c31 (fun r32 u33 e34 => ?_)
    have h := h r32 u33 e34
    refine V_pop rfl dX6_wholly_73 rfl ?_
    refine V_iinc 7 rfl (ls2 := [(0, RR 132), (1, II v1), (2, II v2), (3, II v3), (4, II v4), (5, II v5), (6, II v6), (7, II (v7 + 1))]) dX6_wholly_74 rfl (by decide) rfl ?_
    refine V_goto (g := 60) dX6_wholly_77 rfl ?_
    exact h
theorem eX6_drank {G : GG} {Q : Int → Mem → Prop} {t : Mem} {v1 v2 : Int} (k : V G mX6_drank 0 [(0, RR 132), (1, II v1), (2, II v2)] [] t Q) : Ex G mX6_drank [RR 132, II v1, II v2] t Q := Ex.of plX6 (Or.inr (Or.inl rfl)) (Nat.le_of_ble_eq_true rfl) rfl k
set_option maxRecDepth 100000 in
theorem sgX6_drank_0 {G : GG} {Q : Int → Mem → Prop} {t : Mem} {v1 v2 : Int}  (h : In32 v1 ∧ ∃ P2 : Int → Mem → Prop, Ex G mX6_in [JJ v1, JJ 0, JJ 999] t P2 ∧ ∀ (r4 : Int) (u5 : Mem), P2 r4 u5 → In32 r4 ∧ (r4 = 0 → Q (-1) u5) ∧ (¬ r4 = 0 → In32 v2 ∧ ∃ P9 : Int → Mem → Prop, Ex G mX6_in [JJ v2, JJ 0, JJ 1] u5 P9 ∧ ∀ (r11 : Int) (u12 : Mem), P9 r11 u12 → In32 r11 ∧ (¬ r11 = 0 → V G mX6_drank 33 [(0, RR 132), (1, II v1), (2, II v2), (3, II 0), (4, II (-4)), (5, II 0)] [] u12 Q) ∧ (r11 = 0 → Q (-1) u12))) : V G mX6_drank 0 [(0, RR 132), (1, II v1), (2, II v2)] [] t Q := by
  refine V_iload_n 1 rfl dX6_drank_0 rfl ?_
  obtain ⟨q1, h⟩ := h
  refine V_i2l q1 dX6_drank_1 rfl ?_
  refine V_lconst (z := 0) rfl dX6_drank_2 rfl ?_
  refine V_ldc2 (x := 999) ctX6_163 rfl dX6_drank_3 rfl ?_
  obtain ⟨P2, c3, h⟩ := h
  refine V_callSi (st := []) (as := [JJ v1, JJ 0, JJ 999]) okX6_in rfl mlX6_51 (by decide) rfl (Nat.le_of_ble_eq_true rfl) rfl dX6_drank_6 rfl c3 (fun r4 u5 e6 => ?_)
  have h := h r4 u5 e6
  obtain ⟨q7, h⟩ := h
  refine V_if_eq q7 dX6_drank_9 (g := 22) rfl rfl ⟨fun hc => ?_, fun hc => ?_⟩
  · have h := h.1 hc
    refine V_iconst dX6_drank_22 rfl ?_
    exact V_iret dX6_drank_23 (Or.inl rfl) h
  · have h := h.2 hc
    refine V_iload_n 2 rfl dX6_drank_12 rfl ?_
    obtain ⟨q8, h⟩ := h
    refine V_i2l q8 dX6_drank_13 rfl ?_
    refine V_lconst (z := 0) rfl dX6_drank_14 rfl ?_
    refine V_lconst (z := 1) rfl dX6_drank_15 rfl ?_
    obtain ⟨P9, c10, h⟩ := h
    refine V_callSi (st := []) (as := [JJ v2, JJ 0, JJ 1]) okX6_in rfl mlX6_51 (by decide) rfl (Nat.le_of_ble_eq_true rfl) rfl dX6_drank_16 rfl c10 (fun r11 u12 e13 => ?_)
    have h := h r11 u12 e13
    obtain ⟨q14, h⟩ := h
    refine V_if_ne q14 dX6_drank_19 (g := 24) rfl rfl ⟨fun hc => ?_, fun hc => ?_⟩
    · have h := h.1 hc
      refine V_iconst dX6_drank_24 rfl ?_
      refine V_istore_n (ls2 := [(0, RR 132), (1, II v1), (2, II v2), (3, II 0)]) dX6_drank_25 rfl (by decide) rfl ?_
      refine V_bipush (by decide) dX6_drank_26 rfl ?_
      refine V_istore (ls2 := [(0, RR 132), (1, II v1), (2, II v2), (3, II 0), (4, II (-4))]) dX6_drank_28 rfl (by decide) rfl ?_
      refine V_iconst dX6_drank_30 rfl ?_
      refine V_istore (ls2 := [(0, RR 132), (1, II v1), (2, II v2), (3, II 0), (4, II (-4)), (5, II 0)]) dX6_drank_31 rfl (by decide) rfl ?_
      exact h
    · have h := h.2 hc
      refine V_iconst dX6_drank_22 rfl ?_
      exact V_iret dX6_drank_23 (Or.inl rfl) h
set_option maxRecDepth 100000 in
theorem sgX6_drank_33 {G : GG} {Q : Int → Mem → Prop} {t : Mem} {v1 v2 v3 v4 v5 : Int}  (h : In32 v5 ∧ In32 (iShl 1 (t 133 12)) ∧ ((iShl 1 (t 133 12)) ≤ v5 → In32 v2 ∧ ∀ w4 : Int, w4 = (if v2 = 0 then v3 else v4) → Q w4 t) ∧ (¬ (iShl 1 (t 133 12)) ≤ v5 → V G mX6_drank 53 [(0, RR 132), (1, II v1), (2, II v2), (3, II v3), (4, II v4), (5, II v5), (6, II 0), (7, II 0)] [] t Q)) : V G mX6_drank 33 [(0, RR 132), (1, II v1), (2, II v2), (3, II v3), (4, II v4), (5, II v5)] [] t Q := by
  refine V_iload 5 rfl dX6_drank_33 rfl ?_
  refine V_iconst dX6_drank_35 rfl ?_
  refine V_aload_n 0 rfl dX6_drank_36 rfl ?_
  refine gX6_7 rfl kY132 rF132_0 dX6_drank_37 rfl ?_
  refine V_bipush (by decide) dX6_drank_40 rfl ?_
  refine V_ialdL 12 rfl kY133 lI133 rfl dX6_drank_42 rfl ?_
  refine V_ishl dX6_drank_43 rfl ?_
  obtain ⟨q1, h⟩ := h
  obtain ⟨q2, h⟩ := h
  refine V_icmp_ge q1 q2 dX6_drank_44 (g := 152) rfl rfl ⟨fun hc => ?_, fun hc => ?_⟩
  · have h := h.1 hc
    refine V_iload_n 2 rfl dX6_drank_152 rfl ?_
    obtain ⟨q3, h⟩ := h
    have hj8 : ∀ w4 : Int, w4 = (if v2 = 0 then v3 else v4) → V G mX6_drank 162 [(0, RR 132), (1, II v1), (2, II v2), (3, II v3), (4, II v4), (5, II v5)] [II w4] t Q := by
      intro w4 e5
      have h := h w4 e5
      exact V_iret dX6_drank_162 (Or.inl rfl) h
    have hj8 := hj8 _ rfl
    refine V_if_ne q3 dX6_drank_153 (g := 160) rfl rfl ⟨fun hc => ?_, fun hc => ?_⟩
    · skip
      refine V_iload 4 rfl dX6_drank_160 rfl ?_
      rw [if_neg hc] at hj8
      exact hj8
    · skip
      refine V_iload_n 3 rfl dX6_drank_156 rfl ?_
      refine V_goto (g := 162) dX6_drank_157 rfl ?_
      rw [if_pos hc] at hj8
      exact hj8
  · have h := h.2 hc
    refine V_iconst dX6_drank_47 rfl ?_
    refine V_istore (ls2 := [(0, RR 132), (1, II v1), (2, II v2), (3, II v3), (4, II v4), (5, II v5), (6, II 0)]) dX6_drank_48 rfl (by decide) rfl ?_
    refine V_iconst dX6_drank_50 rfl ?_
    refine V_istore (ls2 := [(0, RR 132), (1, II v1), (2, II v2), (3, II v3), (4, II v4), (5, II v5), (6, II 0), (7, II 0)]) dX6_drank_51 rfl (by decide) rfl ?_
    exact h
set_option maxRecDepth 100000 in
theorem sgX6_drank_53 {G : GG} {Q : Int → Mem → Prop} {t : Mem} {v1 v2 v3 v4 v5 v6 v7 : Int}  (h : In32 v7 ∧ In32 (t 133 12) ∧ ((t 133 12) ≤ v7 → In32 v6 ∧ In32 v1 ∧ (¬ v6 = v1 → V G mX6_drank 33 [(0, RR 132), (1, II v1), (2, II v2), (3, II (v3 + (if v6 = v1 then 1 else 0))), (4, II v4), (5, II (v5 + 1))] [] t Q) ∧ (v6 = v1 → In32 v3 ∧ ∀ w11 : Int, w11 = (if v3 = 0 then v5 else v4) → V G mX6_drank 33 [(0, RR 132), (1, II v1), (2, II v2), (3, II (v3 + (if v6 = v1 then 1 else 0))), (4, II w11), (5, II (v5 + 1))] [] t Q)) ∧ (¬ (t 133 12) ≤ v7 → In32 (iAnd (iShr v5 v7) 1) ∧ ((iAnd (iShr v5 v7) 1) = 0 → V G mX6_drank 53 [(0, RR 132), (1, II v1), (2, II v2), (3, II v3), (4, II v4), (5, II v5), (6, II (v6 + 0)), (7, II (v7 + 1))] [] t Q) ∧ (¬ (iAnd (iShr v5 v7) 1) = 0 → ∃ P22 : Int → Mem → Prop, Ex G mX6_isSated [RR 132, II v7] t P22 ∧ ∀ (r24 : Int) (u25 : Mem), P22 r24 u25 → In32 r24 ∧ (r24 = 0 → ∃ P28 : Int → Mem → Prop, Ex G mX6_needs [RR 132, II v7] u25 P28 ∧ ∀ (r30 : Int) (u31 : Mem), P28 r30 u31 → ∃ P33 : Int → Mem → Prop, Ex G mX6_at [RR 132, II v7, II 3] u31 P33 ∧ ∀ (r35 : Int) (u36 : Mem), P33 r35 u36 → V G mX6_drank 53 [(0, RR 132), (1, II v1), (2, II v2), (3, II v3), (4, II v4), (5, II v5), (6, II (v6 + (r30 - r35))), (7, II (v7 + 1))] [] u36 Q) ∧ (¬ r24 = 0 → V G mX6_drank 53 [(0, RR 132), (1, II v1), (2, II v2), (3, II v3), (4, II v4), (5, II v5), (6, II (v6 + 0)), (7, II (v7 + 1))] [] u25 Q)))) : V G mX6_drank 53 [(0, RR 132), (1, II v1), (2, II v2), (3, II v3), (4, II v4), (5, II v5), (6, II v6), (7, II v7)] [] t Q := by
  refine V_iload 7 rfl dX6_drank_53 rfl ?_
  refine V_aload_n 0 rfl dX6_drank_55 rfl ?_
  refine gX6_7 rfl kY132 rF132_0 dX6_drank_56 rfl ?_
  refine V_bipush (by decide) dX6_drank_59 rfl ?_
  refine V_ialdL 12 rfl kY133 lI133 rfl dX6_drank_61 rfl ?_
  obtain ⟨q1, h⟩ := h
  obtain ⟨q2, h⟩ := h
  refine V_icmp_ge q1 q2 dX6_drank_62 (g := 113) rfl rfl ⟨fun hc => ?_, fun hc => ?_⟩
  · have h := h.1 hc
    refine V_iload 6 rfl dX6_drank_113 rfl ?_
    refine V_iload_n 1 rfl dX6_drank_115 rfl ?_
    obtain ⟨q3, h⟩ := h
    obtain ⟨q4, h⟩ := h
    refine V_icmp_ne q3 q4 dX6_drank_116 (g := 128) rfl rfl ⟨fun hc => ?_, fun hc => ?_⟩
    · have h := h.1 hc
      refine V_iload 4 rfl dX6_drank_128 rfl ?_
      refine V_istore (ls2 := [(0, RR 132), (1, II v1), (2, II v2), (3, II v3), (4, II v4), (5, II v5), (6, II v6), (7, II v7)]) dX6_drank_130 rfl (by decide) rfl ?_
      refine V_iload_n 3 rfl dX6_drank_132 rfl ?_
      refine V_iload 6 rfl dX6_drank_133 rfl ?_
      refine V_iload_n 1 rfl dX6_drank_135 rfl ?_
      have hj9 : V G mX6_drank 144 [(0, RR 132), (1, II v1), (2, II v2), (3, II v3), (4, II v4), (5, II v5), (6, II v6), (7, II v7)] [II (if v6 = v1 then 1 else 0), II v3] t Q := by
        refine V_iadd dX6_drank_144 rfl ?_
        refine V_istore_n (ls2 := [(0, RR 132), (1, II v1), (2, II v2), (3, II (v3 + (if v6 = v1 then 1 else 0))), (4, II v4), (5, II v5), (6, II v6), (7, II v7)]) dX6_drank_145 rfl (by decide) rfl ?_
        refine V_iinc 5 rfl (ls2 := [(0, RR 132), (1, II v1), (2, II v2), (3, II (v3 + (if v6 = v1 then 1 else 0))), (4, II v4), (5, II (v5 + 1)), (6, II v6), (7, II v7)]) dX6_drank_146 rfl (by decide) rfl ?_
        refine V_goto (g := 33) dX6_drank_149 rfl ?_
        exact V_sub (by intro q hq; simp only [List.mem_cons, List.not_mem_nil, or_false] at hq ⊢; first | (rcases hq with rfl | rfl | rfl | rfl | rfl | rfl <;> simp)) h
      refine V_icmp_ne q3 q4 dX6_drank_136 (g := 143) rfl rfl ⟨fun hc => ?_, fun hc => ?_⟩
      · skip
        refine V_iconst dX6_drank_143 rfl ?_
        rw [if_neg hc] at hj9
        exact hj9
      · skip
        refine V_iconst dX6_drank_139 rfl ?_
        refine V_goto (g := 144) dX6_drank_140 rfl ?_
        rw [if_pos hc] at hj9
        exact hj9
    · have h := h.2 hc
      refine V_iload_n 3 rfl dX6_drank_119 rfl ?_
      obtain ⟨q10, h⟩ := h
      have hj15 : ∀ w11 : Int, w11 = (if v3 = 0 then v5 else v4) → V G mX6_drank 130 [(0, RR 132), (1, II v1), (2, II v2), (3, II v3), (4, II v4), (5, II v5), (6, II v6), (7, II v7)] [II w11] t Q := by
        intro w11 e12
        have h := h w11 e12
        refine V_istore (ls2 := [(0, RR 132), (1, II v1), (2, II v2), (3, II v3), (4, II w11), (5, II v5), (6, II v6), (7, II v7)]) dX6_drank_130 rfl (by decide) rfl ?_
        refine V_iload_n 3 rfl dX6_drank_132 rfl ?_
        refine V_iload 6 rfl dX6_drank_133 rfl ?_
        refine V_iload_n 1 rfl dX6_drank_135 rfl ?_
        have hj20 : V G mX6_drank 144 [(0, RR 132), (1, II v1), (2, II v2), (3, II v3), (4, II w11), (5, II v5), (6, II v6), (7, II v7)] [II (if v6 = v1 then 1 else 0), II v3] t Q := by
          refine V_iadd dX6_drank_144 rfl ?_
          refine V_istore_n (ls2 := [(0, RR 132), (1, II v1), (2, II v2), (3, II (v3 + (if v6 = v1 then 1 else 0))), (4, II w11), (5, II v5), (6, II v6), (7, II v7)]) dX6_drank_145 rfl (by decide) rfl ?_
          refine V_iinc 5 rfl (ls2 := [(0, RR 132), (1, II v1), (2, II v2), (3, II (v3 + (if v6 = v1 then 1 else 0))), (4, II w11), (5, II (v5 + 1)), (6, II v6), (7, II v7)]) dX6_drank_146 rfl (by decide) rfl ?_
          refine V_goto (g := 33) dX6_drank_149 rfl ?_
          exact V_sub (by intro q hq; simp only [List.mem_cons, List.not_mem_nil, or_false] at hq ⊢; first | (rcases hq with rfl | rfl | rfl | rfl | rfl | rfl <;> simp)) h
        refine V_icmp_ne q3 q4 dX6_drank_136 (g := 143) rfl rfl ⟨fun hc => ?_, fun hc => ?_⟩
        · skip
          refine V_iconst dX6_drank_143 rfl ?_
          rw [if_neg hc] at hj20
          exact hj20
        · skip
          refine V_iconst dX6_drank_139 rfl ?_
          refine V_goto (g := 144) dX6_drank_140 rfl ?_
          rw [if_pos hc] at hj20
          exact hj20
      have hj15 := hj15 _ rfl
      refine V_if_ne q10 dX6_drank_120 (g := 128) rfl rfl ⟨fun hc => ?_, fun hc => ?_⟩
      · skip
        refine V_iload 4 rfl dX6_drank_128 rfl ?_
        rw [if_neg hc] at hj15
        exact hj15
      · skip
        refine V_iload 5 rfl dX6_drank_123 rfl ?_
        refine V_goto (g := 130) dX6_drank_125 rfl ?_
        rw [if_pos hc] at hj15
        exact hj15
  · have h := h.2 hc
    refine V_iload 6 rfl dX6_drank_65 rfl ?_
    refine V_iload 5 rfl dX6_drank_67 rfl ?_
    refine V_iload 7 rfl dX6_drank_69 rfl ?_
    refine V_ishr dX6_drank_71 rfl ?_
    refine V_iconst dX6_drank_72 rfl ?_
    refine V_iand dX6_drank_73 rfl ?_
    obtain ⟨q21, h⟩ := h
    refine V_if_eq q21 dX6_drank_74 (g := 86) rfl rfl ⟨fun hc => ?_, fun hc => ?_⟩
    · have h := h.1 hc
      refine V_iconst dX6_drank_86 rfl ?_
      refine V_goto (g := 104) dX6_drank_87 rfl ?_
      refine V_iadd dX6_drank_104 rfl ?_
      refine V_istore (ls2 := [(0, RR 132), (1, II v1), (2, II v2), (3, II v3), (4, II v4), (5, II v5), (6, II (v6 + 0)), (7, II v7)]) dX6_drank_105 rfl (by decide) rfl ?_
      refine V_iinc 7 rfl (ls2 := [(0, RR 132), (1, II v1), (2, II v2), (3, II v3), (4, II v4), (5, II v5), (6, II (v6 + 0)), (7, II (v7 + 1))]) dX6_drank_107 rfl (by decide) rfl ?_
      refine V_goto (g := 53) dX6_drank_110 rfl ?_
      exact h
    · have h := h.2 hc
      refine V_aload_n 0 rfl dX6_drank_77 rfl ?_
      refine V_iload 7 rfl dX6_drank_78 rfl ?_
      obtain ⟨P22, c23, h⟩ := h
      refine V_callVi (st := [II v6]) (as := [II v7]) okX6_isSated rfl mlX6_67 (by decide) kY132 rfl (Nat.le_of_ble_eq_true rfl) rfl dX6_drank_80 rfl c23 (fun r24 u25 e26 => ?_)
      have h := h r24 u25 e26
      obtain ⟨q27, h⟩ := h
      refine V_if_eq q27 dX6_drank_83 (g := 90) rfl rfl ⟨fun hc => ?_, fun hc => ?_⟩
      · have h := h.1 hc
        refine V_aload_n 0 rfl dX6_drank_90 rfl ?_
        refine V_iload 7 rfl dX6_drank_91 rfl ?_
        obtain ⟨P28, c29, h⟩ := h
        refine V_callVi (st := [II v6]) (as := [II v7]) okX6_needs rfl mlX6_63 (by decide) kY132 rfl (Nat.le_of_ble_eq_true rfl) rfl dX6_drank_93 rfl c29 (fun r30 u31 e32 => ?_)
        have h := h r30 u31 e32
        refine V_aload_n 0 rfl dX6_drank_96 rfl ?_
        refine V_iload 7 rfl dX6_drank_97 rfl ?_
        refine V_iconst dX6_drank_99 rfl ?_
        obtain ⟨P33, c34, h⟩ := h
        refine V_callVi (st := [II r30, II v6]) (as := [II v7, II 3]) okX6_at rfl mlX6_55 (by decide) kY132 rfl (Nat.le_of_ble_eq_true rfl) rfl dX6_drank_100 rfl c34 (fun r35 u36 e37 => ?_)
        have h := h r35 u36 e37
        refine V_isub dX6_drank_103 rfl ?_
        refine V_iadd dX6_drank_104 rfl ?_
        refine V_istore (ls2 := [(0, RR 132), (1, II v1), (2, II v2), (3, II v3), (4, II v4), (5, II v5), (6, II (v6 + (r30 - r35))), (7, II v7)]) dX6_drank_105 rfl (by decide) rfl ?_
        refine V_iinc 7 rfl (ls2 := [(0, RR 132), (1, II v1), (2, II v2), (3, II v3), (4, II v4), (5, II v5), (6, II (v6 + (r30 - r35))), (7, II (v7 + 1))]) dX6_drank_107 rfl (by decide) rfl ?_
        refine V_goto (g := 53) dX6_drank_110 rfl ?_
        exact h
      · have h := h.2 hc
        refine V_iconst dX6_drank_86 rfl ?_
        refine V_goto (g := 104) dX6_drank_87 rfl ?_
        refine V_iadd dX6_drank_104 rfl ?_
        refine V_istore (ls2 := [(0, RR 132), (1, II v1), (2, II v2), (3, II v3), (4, II v4), (5, II v5), (6, II (v6 + 0)), (7, II v7)]) dX6_drank_105 rfl (by decide) rfl ?_
        refine V_iinc 7 rfl (ls2 := [(0, RR 132), (1, II v1), (2, II v2), (3, II v3), (4, II v4), (5, II v5), (6, II (v6 + 0)), (7, II (v7 + 1))]) dX6_drank_107 rfl (by decide) rfl ?_
        refine V_goto (g := 53) dX6_drank_110 rfl ?_
        exact h
theorem eX6_holds {G : GG} {Q : Int → Mem → Prop} {t : Mem} {v1 : Int} (k : V G mX6_holds 0 [(0, RR 132), (1, II v1)] [] t Q) : Ex G mX6_holds [RR 132, II v1] t Q := Ex.of plX6 (Or.inr (Or.inl rfl)) (Nat.le_of_ble_eq_true rfl) rfl k
set_option maxRecDepth 100000 in
theorem sgX6_holds_0 {G : GG} {Q : Int → Mem → Prop} {t : Mem} {v1 : Int}  (h : In32 v1 ∧ ∃ P2 : Int → Mem → Prop, Ex G mX6_in [JJ v1, JJ 0, JJ 240] t P2 ∧ ∀ (r4 : Int) (u5 : Mem), P2 r4 u5 → In32 r4 ∧ (¬ r4 = 0 → V G mX6_holds 19 [(0, RR 132), (1, II v1), (2, II 1000000), (3, II 1)] [] u5 Q) ∧ (r4 = 0 → Q (-1) u5)) : V G mX6_holds 0 [(0, RR 132), (1, II v1)] [] t Q := by
  refine V_iload_n 1 rfl dX6_holds_0 rfl ?_
  obtain ⟨q1, h⟩ := h
  refine V_i2l q1 dX6_holds_1 rfl ?_
  refine V_lconst (z := 0) rfl dX6_holds_2 rfl ?_
  refine V_ldc2 (x := 240) ctX6_140 rfl dX6_holds_3 rfl ?_
  obtain ⟨P2, c3, h⟩ := h
  refine V_callSi (st := []) (as := [JJ v1, JJ 0, JJ 240]) okX6_in rfl mlX6_51 (by decide) rfl (Nat.le_of_ble_eq_true rfl) rfl dX6_holds_6 rfl c3 (fun r4 u5 e6 => ?_)
  have h := h r4 u5 e6
  obtain ⟨q7, h⟩ := h
  refine V_if_ne q7 dX6_holds_9 (g := 14) rfl rfl ⟨fun hc => ?_, fun hc => ?_⟩
  · have h := h.1 hc
    refine V_ldc (x := 1000000) ctX6_165 rfl dX6_holds_14 rfl ?_
    refine V_istore_n (ls2 := [(0, RR 132), (1, II v1), (2, II 1000000)]) dX6_holds_16 rfl (by decide) rfl ?_
    refine V_iconst dX6_holds_17 rfl ?_
    refine V_istore_n (ls2 := [(0, RR 132), (1, II v1), (2, II 1000000), (3, II 1)]) dX6_holds_18 rfl (by decide) rfl ?_
    exact h
  · have h := h.2 hc
    refine V_iconst dX6_holds_12 rfl ?_
    exact V_iret dX6_holds_13 (Or.inl rfl) h
set_option maxRecDepth 100000 in
theorem sgX6_holds_19 {G : GG} {Q : Int → Mem → Prop} {t : Mem} {v1 v2 v3 : Int}  (h : In32 v3 ∧ In32 v1 ∧ (v1 < v3 → Q v2 t) ∧ (¬ v1 < v3 → ((0 : Int) ≤ ((t 133 8) + v3) ∧ In32 ((t 133 8) + v3)) ∧ In32 (((t 133 8) + v3) / 10) ∧ ∀ w5 : Int, w5 = (if (((t 133 8) + v3) / 10) ≤ 100 then 100 - (((t 133 8) + v3) / 10) else 0) → ((0 : Int) ≤ (v2 * w5) ∧ In32 (v2 * w5)) ∧ V G mX6_holds 19 [(0, RR 132), (1, II v1), (2, II ((v2 * w5) / 100)), (3, II (v3 + 1))] [] t Q)) : V G mX6_holds 19 [(0, RR 132), (1, II v1), (2, II v2), (3, II v3)] [] t Q := by
  refine V_iload_n 3 rfl dX6_holds_19 rfl ?_
  refine V_iload_n 1 rfl dX6_holds_20 rfl ?_
  obtain ⟨q1, h⟩ := h
  obtain ⟨q2, h⟩ := h
  refine V_icmp_gt q1 q2 dX6_holds_21 (g := 66) rfl rfl ⟨fun hc => ?_, fun hc => ?_⟩
  · have h := h.1 hc
    refine V_iload_n 2 rfl dX6_holds_66 rfl ?_
    exact V_iret dX6_holds_67 (Or.inl rfl) h
  · have h := h.2 hc
    refine V_aload_n 0 rfl dX6_holds_24 rfl ?_
    refine gX6_7 rfl kY132 rF132_0 dX6_holds_25 rfl ?_
    refine V_bipush (by decide) dX6_holds_28 rfl ?_
    refine V_ialdL 8 rfl kY133 lI133 rfl dX6_holds_30 rfl ?_
    refine V_iload_n 3 rfl dX6_holds_31 rfl ?_
    refine V_iadd dX6_holds_32 rfl ?_
    refine V_bipush (by decide) dX6_holds_33 rfl ?_
    obtain ⟨q3, h⟩ := h
    refine V_idiv q3 ⟨by decide, iL rfl⟩ dX6_holds_35 rfl ?_
    refine V_istore (ls2 := [(0, RR 132), (1, II v1), (2, II v2), (3, II v3), (4, II (((t 133 8) + v3) / 10))]) dX6_holds_36 rfl (by decide) rfl ?_
    refine V_iload_n 2 rfl dX6_holds_38 rfl ?_
    refine V_iload 4 rfl dX6_holds_39 rfl ?_
    refine V_bipush (by decide) dX6_holds_41 rfl ?_
    obtain ⟨q4, h⟩ := h
    have hj9 : ∀ w5 : Int, w5 = (if (((t 133 8) + v3) / 10) ≤ 100 then 100 - (((t 133 8) + v3) / 10) else 0) → V G mX6_holds 55 [(0, RR 132), (1, II v1), (2, II v2), (3, II v3), (4, II (((t 133 8) + v3) / 10))] [II w5, II v2] t Q := by
      intro w5 e6
      have h := h w5 e6
      refine V_imul dX6_holds_55 rfl ?_
      refine V_bipush (by decide) dX6_holds_56 rfl ?_
      obtain ⟨q10, h⟩ := h
      refine V_idiv q10 ⟨by decide, iL rfl⟩ dX6_holds_58 rfl ?_
      refine V_istore_n (ls2 := [(0, RR 132), (1, II v1), (2, II ((v2 * w5) / 100)), (3, II v3), (4, II (((t 133 8) + v3) / 10))]) dX6_holds_59 rfl (by decide) rfl ?_
      refine V_iinc 3 rfl (ls2 := [(0, RR 132), (1, II v1), (2, II ((v2 * w5) / 100)), (3, II (v3 + 1)), (4, II (((t 133 8) + v3) / 10))]) dX6_holds_60 rfl (by decide) rfl ?_
      refine V_goto (g := 19) dX6_holds_63 rfl ?_
      exact V_sub (by intro q hq; simp only [List.mem_cons, List.not_mem_nil, or_false] at hq ⊢; first | (rcases hq with rfl | rfl | rfl | rfl <;> simp)) h
    have hj9 := hj9 _ rfl
    refine V_icmp_le q4 (iL rfl) dX6_holds_43 (g := 50) rfl rfl ⟨fun hc => ?_, fun hc => ?_⟩
    · skip
      refine V_bipush (by decide) dX6_holds_50 rfl ?_
      refine V_iload 4 rfl dX6_holds_52 rfl ?_
      refine V_isub dX6_holds_54 rfl ?_
      rw [if_pos hc] at hj9
      exact hj9
    · skip
      refine V_iconst dX6_holds_46 rfl ?_
      refine V_goto (g := 55) dX6_holds_47 rfl ?_
      rw [if_neg hc] at hj9
      exact hj9
theorem eX6_type {G : GG} {Q : Int → Mem → Prop} {t : Mem} {v1 : Int} (k : V G mX6_type 0 [(0, RR 132), (1, II v1)] [] t Q) : Ex G mX6_type [RR 132, II v1] t Q := Ex.of plX6 (Or.inr (Or.inl rfl)) (Nat.le_of_ble_eq_true rfl) rfl k
set_option maxRecDepth 100000 in
theorem sgX6_type_0 {G : GG} {Q : Int → Mem → Prop} {t : Mem} {v1 : Int}  (h : In32 v1 ∧ ∃ P2 : Int → Mem → Prop, Ex G mX6_in [JJ v1, JJ 32, JJ 126] t P2 ∧ ∀ (r4 : Int) (u5 : Mem), P2 r4 u5 → In32 r4 ∧ (¬ r4 = 0 → In32 (u5 132 9) ∧ (¬ (u5 132 9) = 60 → (0 ≤ u5 132 9 ∧ u5 132 9 < 60) ∧ ∀ u9 : Mem, u9 = wr u5 138 (u5 132 9).toNat v1 → ∀ u12 : Mem, u12 = wr u9 132 9 ((u9 132 9) + 1) → Q (u12 132 9) u12) ∧ ((u5 132 9) = 60 → Q (-3) u5)) ∧ (r4 = 0 → Q (-1) u5)) : V G mX6_type 0 [(0, RR 132), (1, II v1)] [] t Q := by
  refine V_iload_n 1 rfl dX6_type_0 rfl ?_
  obtain ⟨q1, h⟩ := h
  refine V_i2l q1 dX6_type_1 rfl ?_
  refine V_ldc2 (x := 32) ctX6_166 rfl dX6_type_2 rfl ?_
  refine V_ldc2 (x := 126) ctX6_168 rfl dX6_type_5 rfl ?_
  obtain ⟨P2, c3, h⟩ := h
  refine V_callSi (st := []) (as := [JJ v1, JJ 32, JJ 126]) okX6_in rfl mlX6_51 (by decide) rfl (Nat.le_of_ble_eq_true rfl) rfl dX6_type_8 rfl c3 (fun r4 u5 e6 => ?_)
  have h := h r4 u5 e6
  obtain ⟨q7, h⟩ := h
  refine V_if_ne q7 dX6_type_11 (g := 16) rfl rfl ⟨fun hc => ?_, fun hc => ?_⟩
  · have h := h.1 hc
    refine V_aload_n 0 rfl dX6_type_16 rfl ?_
    refine gX6_170 rfl kY132 dX6_type_17 rfl ?_
    refine V_bipush (by decide) dX6_type_20 rfl ?_
    obtain ⟨q8, h⟩ := h
    refine V_icmp_ne q8 (iL rfl) dX6_type_22 (g := 28) rfl rfl ⟨fun hc => ?_, fun hc => ?_⟩
    · have h := h.1 hc
      refine V_aload_n 0 rfl dX6_type_28 rfl ?_
      refine gX6_29 rfl kY132 rF132_8 dX6_type_29 rfl ?_
      refine V_aload_n 0 rfl dX6_type_32 rfl ?_
      refine gX6_170 rfl kY132 dX6_type_33 rfl ?_
      refine V_iload_n 1 rfl dX6_type_36 rfl ?_
      obtain ⟨q11, h⟩ := h
      refine V_iastn kY138 lI138 q11 dX6_type_37 rfl (fun u9 e10 => ?_)
      have h := h u9 e10
      refine V_aload_n 0 rfl dX6_type_38 rfl ?_
      refine V_dup rfl dX6_type_39 rfl ?_
      refine gX6_170 rfl kY132 dX6_type_40 rfl ?_
      refine V_iconst dX6_type_43 rfl ?_
      refine V_iadd dX6_type_44 rfl ?_
      refine pX6_170 rfl kY132 dX6_type_45 rfl (fun u12 e13 => ?_)
      have h := h u12 e13
      refine V_aload_n 0 rfl dX6_type_48 rfl ?_
      refine gX6_170 rfl kY132 dX6_type_49 rfl ?_
      exact V_iret dX6_type_52 (Or.inl rfl) h
    · have h := h.2 hc
      refine V_bipush (by decide) dX6_type_25 rfl ?_
      exact V_iret dX6_type_27 (Or.inl rfl) h
  · have h := h.2 hc
    refine V_iconst dX6_type_14 rfl ?_
    exact V_iret dX6_type_15 (Or.inl rfl) h
theorem eX6_here {G : GG} {Q : Int → Mem → Prop} {t : Mem} (k : V G mX6_here 0 [(0, RR 132)] [] t Q) : Ex G mX6_here [RR 132] t Q := Ex.of plX6 (Or.inr (Or.inl rfl)) (Nat.le_of_ble_eq_true rfl) rfl k
set_option maxRecDepth 100000 in
theorem sgX6_here_0 {G : GG} {Q : Int → Mem → Prop} {t : Mem}  (h : In32 (t 132 10) ∧ In32 (t 132 9) ∧ ((t 132 9) ≤ (t 132 10) → (¬ (t 132 9) ≤ (t 132 10) → (0 ≤ t 132 10 ∧ t 132 10 < 60) ∧ True) ∧ ∀ w4 : Int, w4 = (if (t 132 9) ≤ (t 132 10) then 0 else t 138 (t 132 10).toNat) → Q w4 t) ∧ (¬ (t 132 9) ≤ (t 132 10) → (0 ≤ t 132 10 ∧ t 132 10 < 60) ∧ In32 (t 138 (t 132 10).toNat) ∧ (¬ (t 138 (t 132 10).toNat) = 32 → ∀ w11 : Int, w11 = (if (t 132 9) ≤ (t 132 10) then 0 else t 138 (t 132 10).toNat) → Q w11 t) ∧ ((t 138 (t 132 10).toNat) = 32 → ∀ u16 : Mem, u16 = wr t 132 10 ((t 132 10) + 1) → V G mX6_here 0 [(0, RR 132)] [] u16 Q))) : V G mX6_here 0 [(0, RR 132)] [] t Q := by
  refine V_aload_n 0 rfl dX6_here_0 rfl ?_
  refine gX6_173 rfl kY132 dX6_here_1 rfl ?_
  refine V_aload_n 0 rfl dX6_here_4 rfl ?_
  refine gX6_170 rfl kY132 dX6_here_5 rfl ?_
  obtain ⟨q1, h⟩ := h
  obtain ⟨q2, h⟩ := h
  refine V_icmp_ge q1 q2 dX6_here_8 (g := 38) rfl rfl ⟨fun hc => ?_, fun hc => ?_⟩
  · have h := h.1 hc
    refine V_aload_n 0 rfl dX6_here_38 rfl ?_
    refine gX6_173 rfl kY132 dX6_here_39 rfl ?_
    refine V_aload_n 0 rfl dX6_here_42 rfl ?_
    refine gX6_170 rfl kY132 dX6_here_43 rfl ?_
    obtain ⟨hB7, h⟩ := h
    have hj8 : ∀ w4 : Int, w4 = (if (t 132 9) ≤ (t 132 10) then 0 else t 138 (t 132 10).toNat) → V G mX6_here 62 [(0, RR 132)] [II w4] t Q := by
      intro w4 e5
      have h := h w4 e5
      exact V_iret dX6_here_62 (Or.inl rfl) h
    have hj8 := hj8 _ rfl
    refine V_icmp_ge q1 q2 dX6_here_46 (g := 61) rfl rfl ⟨fun hc => ?_, fun hc => ?_⟩
    · skip
      refine V_iconst dX6_here_61 rfl ?_
      rw [if_pos hc] at hj8
      exact hj8
    · have h := hB7 hc
      refine V_aload_n 0 rfl dX6_here_49 rfl ?_
      refine gX6_29 rfl kY132 rF132_8 dX6_here_50 rfl ?_
      refine V_aload_n 0 rfl dX6_here_53 rfl ?_
      refine gX6_173 rfl kY132 dX6_here_54 rfl ?_
      obtain ⟨q3, h⟩ := h
      refine V_ialdn kY138 lI138 q3 dX6_here_57 rfl ?_
      refine V_goto (g := 62) dX6_here_58 rfl ?_
      rw [if_neg hc] at hj8
      exact hj8
  · have h := h.2 hc
    refine V_aload_n 0 rfl dX6_here_11 rfl ?_
    refine gX6_29 rfl kY132 rF132_8 dX6_here_12 rfl ?_
    refine V_aload_n 0 rfl dX6_here_15 rfl ?_
    refine gX6_173 rfl kY132 dX6_here_16 rfl ?_
    obtain ⟨q9, h⟩ := h
    refine V_ialdn kY138 lI138 q9 dX6_here_19 rfl ?_
    refine V_bipush (by decide) dX6_here_20 rfl ?_
    obtain ⟨q10, h⟩ := h
    refine V_icmp_ne q10 (iL rfl) dX6_here_22 (g := 38) rfl rfl ⟨fun hc => ?_, fun hc => ?_⟩
    · have h := h.1 hc
      refine V_aload_n 0 rfl dX6_here_38 rfl ?_
      refine gX6_173 rfl kY132 dX6_here_39 rfl ?_
      refine V_aload_n 0 rfl dX6_here_42 rfl ?_
      refine gX6_170 rfl kY132 dX6_here_43 rfl ?_
      have hj15 : ∀ w11 : Int, w11 = (if (t 132 9) ≤ (t 132 10) then 0 else t 138 (t 132 10).toNat) → V G mX6_here 62 [(0, RR 132)] [II w11] t Q := by
        intro w11 e12
        have h := h w11 e12
        exact V_iret dX6_here_62 (Or.inl rfl) h
      have hj15 := hj15 _ rfl
      refine V_icmp_ge q1 q2 dX6_here_46 (g := 61) rfl rfl ⟨fun hc => ?_, fun hc => ?_⟩
      · skip
        refine V_iconst dX6_here_61 rfl ?_
        rw [if_pos hc] at hj15
        exact hj15
      · skip
        refine V_aload_n 0 rfl dX6_here_49 rfl ?_
        refine gX6_29 rfl kY132 rF132_8 dX6_here_50 rfl ?_
        refine V_aload_n 0 rfl dX6_here_53 rfl ?_
        refine gX6_173 rfl kY132 dX6_here_54 rfl ?_
        refine V_ialdn kY138 lI138 q9 dX6_here_57 rfl ?_
        refine V_goto (g := 62) dX6_here_58 rfl ?_
        rw [if_neg hc] at hj15
        exact hj15
    · have h := h.2 hc
      refine V_aload_n 0 rfl dX6_here_25 rfl ?_
      refine V_dup rfl dX6_here_26 rfl ?_
      refine gX6_173 rfl kY132 dX6_here_27 rfl ?_
      refine V_iconst dX6_here_30 rfl ?_
      refine V_iadd dX6_here_31 rfl ?_
      refine pX6_173 rfl kY132 dX6_here_32 rfl (fun u16 e17 => ?_)
      have h := h u16 e17
      refine V_goto (g := 0) dX6_here_35 rfl ?_
      exact h
theorem eX6_must {G : GG} {Q : Int → Mem → Prop} {t : Mem} {v1 : Int} (k : V G mX6_must 0 [(0, RR 132), (1, II v1)] [] t Q) : Ex G mX6_must [RR 132, II v1] t Q := Ex.of plX6 (Or.inl rfl) (Nat.le_of_ble_eq_true rfl) rfl k
set_option maxRecDepth 100000 in
theorem sgX6_must_0 {G : GG} {Q : Int → Mem → Prop} {t : Mem} {v1 : Int}  (h : In32 (t 132 11) ∧ (¬ (t 132 11) = 0 → ∀ u2 : Mem, u2 = wr t 132 11 1 → Q 0 u2) ∧ ((t 132 11) = 0 → In32 v1 ∧ ∀ u10 : Mem, u10 = wr t 132 11 (if v1 = 0 then 1 else 0) → Q 0 u10)) : V G mX6_must 0 [(0, RR 132), (1, II v1)] [] t Q := by
  refine V_aload_n 0 rfl dX6_must_0 rfl ?_
  refine V_aload_n 0 rfl dX6_must_1 rfl ?_
  refine gX6_176 rfl kY132 dX6_must_2 rfl ?_
  obtain ⟨q1, h⟩ := h
  refine V_if_ne q1 dX6_must_5 (g := 12) rfl rfl ⟨fun hc => ?_, fun hc => ?_⟩
  · have h := h.1 hc
    refine V_iconst dX6_must_12 rfl ?_
    refine V_goto (g := 17) dX6_must_13 rfl ?_
    refine pX6_176 rfl (by decide) kY132 dX6_must_17 rfl (fun u2 e3 => ?_)
    have h := h u2 e3
    exact V_ret dX6_must_20 rfl h
  · have h := h.2 hc
    refine V_iload_n 1 rfl dX6_must_8 rfl ?_
    obtain ⟨q4, h⟩ := h
    have hj9 : V G mX6_must 17 [(0, RR 132), (1, II v1)] [II (if v1 = 0 then 1 else 0), RR 132] t Q := by
      refine pX6_176 rfl (by split <;> simp) kY132 dX6_must_17 rfl (fun u10 e11 => ?_)
      have h := h u10 e11
      exact V_ret dX6_must_20 rfl h
    refine V_if_ne q4 dX6_must_9 (g := 16) rfl rfl ⟨fun hc => ?_, fun hc => ?_⟩
    · skip
      refine V_iconst dX6_must_16 rfl ?_
      rw [if_neg hc] at hj9
      exact hj9
    · skip
      refine V_iconst dX6_must_12 rfl ?_
      refine V_goto (g := 17) dX6_must_13 rfl ?_
      rw [if_pos hc] at hj9
      exact hj9
theorem eX6_isDigit {G : GG} {Q : Int → Mem → Prop} {t : Mem} {v0 : Int} (k : V G mX6_isDigit 0 [(0, II v0)] [] t Q) : Ex G mX6_isDigit [II v0] t Q := Ex.of plX6 (Or.inr (Or.inr rfl)) (Nat.le_of_ble_eq_true rfl) rfl k
set_option maxRecDepth 100000 in
theorem sgX6_isDigit_0 {G : GG} {Q : Int → Mem → Prop} {t : Mem} {v0 : Int}  (h : In32 v0 ∧ ∃ P2 : Int → Mem → Prop, Ex G mX6_in [JJ v0, JJ 48, JJ 57] t P2 ∧ ∀ (r4 : Int) (u5 : Mem), P2 r4 u5 → (r4 = 0 ∨ r4 = 1) ∧ Q r4 u5) : V G mX6_isDigit 0 [(0, II v0)] [] t Q := by
  refine V_iload_n 0 rfl dX6_isDigit_0 rfl ?_
  obtain ⟨q1, h⟩ := h
  refine V_i2l q1 dX6_isDigit_1 rfl ?_
  refine V_ldc2 (x := 48) ctX6_180 rfl dX6_isDigit_2 rfl ?_
  refine V_ldc2 (x := 57) ctX6_182 rfl dX6_isDigit_5 rfl ?_
  obtain ⟨P2, c3, h⟩ := h
  refine V_callSi (st := []) (as := [JJ v0, JJ 48, JJ 57]) okX6_in rfl mlX6_51 (by decide) rfl (Nat.le_of_ble_eq_true rfl) rfl dX6_isDigit_8 rfl c3 (fun r4 u5 e6 => ?_)
  have h := h r4 u5 e6
  exact V_iret dX6_isDigit_11 (Or.inr ⟨rfl, h.1⟩) h.2
theorem eX6_takes {G : GG} {Q : Int → Mem → Prop} {t : Mem} {v1 : Int} (k : V G mX6_takes 0 [(0, RR 132), (1, II v1)] [] t Q) : Ex G mX6_takes [RR 132, II v1] t Q := Ex.of plX6 (Or.inl rfl) (Nat.le_of_ble_eq_true rfl) rfl k
set_option maxRecDepth 100000 in
theorem sgX6_takes_0 {G : GG} {Q : Int → Mem → Prop} {t : Mem} {v1 : Int}  (h : ∃ P1 : Int → Mem → Prop, Ex G mX6_here [RR 132] t P1 ∧ ∀ (r3 : Int) (u4 : Mem), P1 r3 u4 → In32 r3 ∧ In32 v1 ∧ ∃ P13 : Int → Mem → Prop, Ex G mX6_must [RR 132, II (if r3 = v1 then 1 else 0)] u4 P13 ∧ ∀ u16 : Mem, P13 0 u16 → In32 (u16 132 11) ∧ ∀ u24 : Mem, u24 = wr u16 132 10 ((u16 132 10) + (if (u16 132 11) = 0 then 1 else 0)) → Q 0 u24) : V G mX6_takes 0 [(0, RR 132), (1, II v1)] [] t Q := by
  refine V_aload_n 0 rfl dX6_takes_0 rfl ?_
  refine V_aload_n 0 rfl dX6_takes_1 rfl ?_
  obtain ⟨P1, c2, h⟩ := h
  refine V_callVi (st := [RR 132]) (as := []) okX6_here rfl mlX6_184 (by decide) kY132 rfl (Nat.le_of_ble_eq_true rfl) rfl dX6_takes_2 rfl c2 (fun r3 u4 e5 => ?_)
  have h := h r3 u4 e5
  refine V_iload_n 1 rfl dX6_takes_5 rfl ?_
  obtain ⟨q6, h⟩ := h
  obtain ⟨q7, h⟩ := h
  have hj12 : V G mX6_takes 14 [(0, RR 132), (1, II v1)] [II (if r3 = v1 then 1 else 0), RR 132] u4 Q := by
    obtain ⟨P13, c14, h⟩ := h
    refine V_callVv (st := []) (as := [II (if r3 = v1 then 1 else 0)]) okX6_must rfl mlX6_187 (by decide) kY132 rfl (Nat.le_of_ble_eq_true rfl) rfl dX6_takes_14 rfl c14 (fun u16 e17 => ?_)
    have h := h u16 e17
    refine V_aload_n 0 rfl dX6_takes_17 rfl ?_
    refine V_dup rfl dX6_takes_18 rfl ?_
    refine gX6_173 rfl kY132 dX6_takes_19 rfl ?_
    refine V_aload_n 0 rfl dX6_takes_22 rfl ?_
    refine gX6_176 rfl kY132 dX6_takes_23 rfl ?_
    obtain ⟨q18, h⟩ := h
    have hj23 : V G mX6_takes 34 [(0, RR 132), (1, II v1)] [II (if (u16 132 11) = 0 then 1 else 0), II (u16 132 10), RR 132] u16 Q := by
      refine V_iadd dX6_takes_34 rfl ?_
      refine pX6_173 rfl kY132 dX6_takes_35 rfl (fun u24 e25 => ?_)
      have h := h u24 e25
      exact V_ret dX6_takes_38 rfl h
    refine V_if_eq q18 dX6_takes_26 (g := 33) rfl rfl ⟨fun hc => ?_, fun hc => ?_⟩
    · skip
      refine V_iconst dX6_takes_33 rfl ?_
      rw [if_pos hc] at hj23
      exact hj23
    · skip
      refine V_iconst dX6_takes_29 rfl ?_
      refine V_goto (g := 34) dX6_takes_30 rfl ?_
      rw [if_neg hc] at hj23
      exact hj23
  refine V_icmp_ne q6 q7 dX6_takes_6 (g := 13) rfl rfl ⟨fun hc => ?_, fun hc => ?_⟩
  · skip
    refine V_iconst dX6_takes_13 rfl ?_
    rw [if_neg hc] at hj12
    exact hj12
  · skip
    refine V_iconst dX6_takes_9 rfl ?_
    refine V_goto (g := 14) dX6_takes_10 rfl ?_
    rw [if_pos hc] at hj12
    exact hj12
theorem eX6_number {G : GG} {Q : Int → Mem → Prop} {t : Mem} {v1 : Int} (k : V G mX6_number 0 [(0, RR 132), (1, II v1)] [] t Q) : Ex G mX6_number [RR 132, II v1] t Q := Ex.of plX6 (Or.inr (Or.inl rfl)) (Nat.le_of_ble_eq_true rfl) rfl k
set_option maxRecDepth 100000 in
theorem sgX6_number_0 {G : GG} {Q : Int → Mem → Prop} {t : Mem} {v1 : Int}  (h : ∃ P1 : Int → Mem → Prop, Ex G mX6_here [RR 132] t P1 ∧ ∀ (r3 : Int) (u4 : Mem), P1 r3 u4 → ∃ P6 : Int → Mem → Prop, Ex G mX6_isDigit [II r3] u4 P6 ∧ ∀ (r8 : Int) (u9 : Mem), P6 r8 u9 → ∃ P11 : Int → Mem → Prop, Ex G mX6_must [RR 132, II r8] u9 P11 ∧ ∀ u14 : Mem, P11 0 u14 → In32 (u14 132 11) ∧ ((u14 132 11) = 0 → (0 ≤ u14 132 10 ∧ u14 132 10 < 60) ∧ ∀ u18 : Mem, u18 = wr u14 132 10 ((u14 132 10) + 1) → In32 (u18 132 10) ∧ In32 (u18 132 9) ∧ ((u18 132 9) ≤ (u18 132 10) → In32 ((u14 138 (u14 132 10).toNat) - 48) ∧ In32 v1 ∧ (((u14 138 (u14 132 10).toNat) - 48) ≤ v1 → Q ((u14 138 (u14 132 10).toNat) - 48) u18) ∧ (¬ ((u14 138 (u14 132 10).toNat) - 48) ≤ v1 → ∀ u24 : Mem, u24 = wr u18 132 10 (u14 132 10) → ∀ u26 : Mem, u26 = wr u24 132 11 1 → Q ((u14 138 (u14 132 10).toNat) - 48) u26)) ∧ (¬ (u18 132 9) ≤ (u18 132 10) → (0 ≤ u18 132 10 ∧ u18 132 10 < 60) ∧ ∃ P29 : Int → Mem → Prop, Ex G mX6_isDigit [II (u18 138 (u18 132 10).toNat)] u18 P29 ∧ ∀ (r31 : Int) (u32 : Mem), P29 r31 u32 → In32 r31 ∧ (r31 = 0 → In32 ((u14 138 (u14 132 10).toNat) - 48) ∧ In32 v1 ∧ (((u14 138 (u14 132 10).toNat) - 48) ≤ v1 → Q ((u14 138 (u14 132 10).toNat) - 48) u32) ∧ (¬ ((u14 138 (u14 132 10).toNat) - 48) ≤ v1 → ∀ u37 : Mem, u37 = wr u32 132 10 (u14 132 10) → ∀ u39 : Mem, u39 = wr u37 132 11 1 → Q ((u14 138 (u14 132 10).toNat) - 48) u39)) ∧ (¬ r31 = 0 → (0 ≤ u32 132 10 ∧ u32 132 10 < 60) ∧ ∀ u42 : Mem, u42 = wr u32 132 10 ((u32 132 10) + 1) → In32 (((10 * ((u14 138 (u14 132 10).toNat) - 48)) + (u32 138 (u32 132 10).toNat)) - 48) ∧ In32 v1 ∧ ((((10 * ((u14 138 (u14 132 10).toNat) - 48)) + (u32 138 (u32 132 10).toNat)) - 48) ≤ v1 → Q (((10 * ((u14 138 (u14 132 10).toNat) - 48)) + (u32 138 (u32 132 10).toNat)) - 48) u42) ∧ (¬ (((10 * ((u14 138 (u14 132 10).toNat) - 48)) + (u32 138 (u32 132 10).toNat)) - 48) ≤ v1 → ∀ u46 : Mem, u46 = wr u42 132 10 (u14 132 10) → ∀ u48 : Mem, u48 = wr u46 132 11 1 → Q (((10 * ((u14 138 (u14 132 10).toNat) - 48)) + (u32 138 (u32 132 10).toNat)) - 48) u48)))) ∧ (¬ (u14 132 11) = 0 → Q 0 u14)) : V G mX6_number 0 [(0, RR 132), (1, II v1)] [] t Q := by
  refine V_aload_n 0 rfl dX6_number_0 rfl ?_
  refine V_aload_n 0 rfl dX6_number_1 rfl ?_
  obtain ⟨P1, c2, h⟩ := h
  refine V_callVi (st := [RR 132]) (as := []) okX6_here rfl mlX6_184 (by decide) kY132 rfl (Nat.le_of_ble_eq_true rfl) rfl dX6_number_2 rfl c2 (fun r3 u4 e5 => ?_)
  have h := h r3 u4 e5
  obtain ⟨P6, c7, h⟩ := h
  refine V_callSi (st := [RR 132]) (as := [II r3]) okX6_isDigit rfl mlX6_190 (by decide) rfl (Nat.le_of_ble_eq_true rfl) rfl dX6_number_5 rfl c7 (fun r8 u9 e10 => ?_)
  have h := h r8 u9 e10
  obtain ⟨P11, c12, h⟩ := h
  refine V_callVv (st := []) (as := [II r8]) okX6_must rfl mlX6_187 (by decide) kY132 rfl (Nat.le_of_ble_eq_true rfl) rfl dX6_number_8 rfl c12 (fun u14 e15 => ?_)
  have h := h u14 e15
  refine V_aload_n 0 rfl dX6_number_11 rfl ?_
  refine gX6_176 rfl kY132 dX6_number_12 rfl ?_
  obtain ⟨q16, h⟩ := h
  refine V_if_eq q16 dX6_number_15 (g := 20) rfl rfl ⟨fun hc => ?_, fun hc => ?_⟩
  · have h := h.1 hc
    refine V_aload_n 0 rfl dX6_number_20 rfl ?_
    refine gX6_173 rfl kY132 dX6_number_21 rfl ?_
    refine V_istore_n (ls2 := [(0, RR 132), (1, II v1), (2, II (u14 132 10))]) dX6_number_24 rfl (by decide) rfl ?_
    refine V_aload_n 0 rfl dX6_number_25 rfl ?_
    refine gX6_29 rfl kY132 rF132_8 dX6_number_26 rfl ?_
    refine V_aload_n 0 rfl dX6_number_29 rfl ?_
    refine gX6_173 rfl kY132 dX6_number_30 rfl ?_
    obtain ⟨q17, h⟩ := h
    refine V_ialdn kY138 lI138 q17 dX6_number_33 rfl ?_
    refine V_bipush (by decide) dX6_number_34 rfl ?_
    refine V_isub dX6_number_36 rfl ?_
    refine V_istore_n (ls2 := [(0, RR 132), (1, II v1), (2, II (u14 132 10)), (3, II ((u14 138 (u14 132 10).toNat) - 48))]) dX6_number_37 rfl (by decide) rfl ?_
    refine V_aload_n 0 rfl dX6_number_38 rfl ?_
    refine V_dup rfl dX6_number_39 rfl ?_
    refine gX6_173 rfl kY132 dX6_number_40 rfl ?_
    refine V_iconst dX6_number_43 rfl ?_
    refine V_iadd dX6_number_44 rfl ?_
    refine pX6_173 rfl kY132 dX6_number_45 rfl (fun u18 e19 => ?_)
    have h := h u18 e19
    refine V_aload_n 0 rfl dX6_number_48 rfl ?_
    refine gX6_173 rfl kY132 dX6_number_49 rfl ?_
    refine V_aload_n 0 rfl dX6_number_52 rfl ?_
    refine gX6_170 rfl kY132 dX6_number_53 rfl ?_
    obtain ⟨q20, h⟩ := h
    obtain ⟨q21, h⟩ := h
    refine V_icmp_ge q20 q21 dX6_number_56 (g := 102) rfl rfl ⟨fun hc => ?_, fun hc => ?_⟩
    · have h := h.1 hc
      refine V_iload_n 3 rfl dX6_number_102 rfl ?_
      refine V_iload_n 1 rfl dX6_number_103 rfl ?_
      obtain ⟨q22, h⟩ := h
      obtain ⟨q23, h⟩ := h
      refine V_icmp_le q22 q23 dX6_number_104 (g := 117) rfl rfl ⟨fun hc => ?_, fun hc => ?_⟩
      · have h := h.1 hc
        refine V_iload_n 3 rfl dX6_number_117 rfl ?_
        exact V_iret dX6_number_118 (Or.inl rfl) h
      · have h := h.2 hc
        refine V_aload_n 0 rfl dX6_number_107 rfl ?_
        refine V_iload_n 2 rfl dX6_number_108 rfl ?_
        refine pX6_173 rfl kY132 dX6_number_109 rfl (fun u24 e25 => ?_)
        have h := h u24 e25
        refine V_aload_n 0 rfl dX6_number_112 rfl ?_
        refine V_iconst dX6_number_113 rfl ?_
        refine pX6_176 rfl (by decide) kY132 dX6_number_114 rfl (fun u26 e27 => ?_)
        have h := h u26 e27
        refine V_iload_n 3 rfl dX6_number_117 rfl ?_
        exact V_iret dX6_number_118 (Or.inl rfl) h
    · have h := h.2 hc
      refine V_aload_n 0 rfl dX6_number_59 rfl ?_
      refine gX6_29 rfl kY132 rF132_8 dX6_number_60 rfl ?_
      refine V_aload_n 0 rfl dX6_number_63 rfl ?_
      refine gX6_173 rfl kY132 dX6_number_64 rfl ?_
      obtain ⟨q28, h⟩ := h
      refine V_ialdn kY138 lI138 q28 dX6_number_67 rfl ?_
      obtain ⟨P29, c30, h⟩ := h
      refine V_callSi (st := []) (as := [II (u18 138 (u18 132 10).toNat)]) okX6_isDigit rfl mlX6_190 (by decide) rfl (Nat.le_of_ble_eq_true rfl) rfl dX6_number_68 rfl c30 (fun r31 u32 e33 => ?_)
      have h := h r31 u32 e33
      obtain ⟨q34, h⟩ := h
      refine V_if_eq q34 dX6_number_71 (g := 102) rfl rfl ⟨fun hc => ?_, fun hc => ?_⟩
      · have h := h.1 hc
        refine V_iload_n 3 rfl dX6_number_102 rfl ?_
        refine V_iload_n 1 rfl dX6_number_103 rfl ?_
        obtain ⟨q35, h⟩ := h
        obtain ⟨q36, h⟩ := h
        refine V_icmp_le q35 q36 dX6_number_104 (g := 117) rfl rfl ⟨fun hc => ?_, fun hc => ?_⟩
        · have h := h.1 hc
          refine V_iload_n 3 rfl dX6_number_117 rfl ?_
          exact V_iret dX6_number_118 (Or.inl rfl) h
        · have h := h.2 hc
          refine V_aload_n 0 rfl dX6_number_107 rfl ?_
          refine V_iload_n 2 rfl dX6_number_108 rfl ?_
          refine pX6_173 rfl kY132 dX6_number_109 rfl (fun u37 e38 => ?_)
          have h := h u37 e38
          refine V_aload_n 0 rfl dX6_number_112 rfl ?_
          refine V_iconst dX6_number_113 rfl ?_
          refine pX6_176 rfl (by decide) kY132 dX6_number_114 rfl (fun u39 e40 => ?_)
          have h := h u39 e40
          refine V_iload_n 3 rfl dX6_number_117 rfl ?_
          exact V_iret dX6_number_118 (Or.inl rfl) h
      · have h := h.2 hc
        refine V_bipush (by decide) dX6_number_74 rfl ?_
        refine V_iload_n 3 rfl dX6_number_76 rfl ?_
        refine V_imul dX6_number_77 rfl ?_
        refine V_aload_n 0 rfl dX6_number_78 rfl ?_
        refine gX6_29 rfl kY132 rF132_8 dX6_number_79 rfl ?_
        refine V_aload_n 0 rfl dX6_number_82 rfl ?_
        refine gX6_173 rfl kY132 dX6_number_83 rfl ?_
        obtain ⟨q41, h⟩ := h
        refine V_ialdn kY138 lI138 q41 dX6_number_86 rfl ?_
        refine V_iadd dX6_number_87 rfl ?_
        refine V_bipush (by decide) dX6_number_88 rfl ?_
        refine V_isub dX6_number_90 rfl ?_
        refine V_istore_n (ls2 := [(0, RR 132), (1, II v1), (2, II (u14 132 10)), (3, II (((10 * ((u14 138 (u14 132 10).toNat) - 48)) + (u32 138 (u32 132 10).toNat)) - 48))]) dX6_number_91 rfl (by decide) rfl ?_
        refine V_aload_n 0 rfl dX6_number_92 rfl ?_
        refine V_dup rfl dX6_number_93 rfl ?_
        refine gX6_173 rfl kY132 dX6_number_94 rfl ?_
        refine V_iconst dX6_number_97 rfl ?_
        refine V_iadd dX6_number_98 rfl ?_
        refine pX6_173 rfl kY132 dX6_number_99 rfl (fun u42 e43 => ?_)
        have h := h u42 e43
        refine V_iload_n 3 rfl dX6_number_102 rfl ?_
        refine V_iload_n 1 rfl dX6_number_103 rfl ?_
        obtain ⟨q44, h⟩ := h
        obtain ⟨q45, h⟩ := h
        refine V_icmp_le q44 q45 dX6_number_104 (g := 117) rfl rfl ⟨fun hc => ?_, fun hc => ?_⟩
        · have h := h.1 hc
          refine V_iload_n 3 rfl dX6_number_117 rfl ?_
          exact V_iret dX6_number_118 (Or.inl rfl) h
        · have h := h.2 hc
          refine V_aload_n 0 rfl dX6_number_107 rfl ?_
          refine V_iload_n 2 rfl dX6_number_108 rfl ?_
          refine pX6_173 rfl kY132 dX6_number_109 rfl (fun u46 e47 => ?_)
          have h := h u46 e47
          refine V_aload_n 0 rfl dX6_number_112 rfl ?_
          refine V_iconst dX6_number_113 rfl ?_
          refine pX6_176 rfl (by decide) kY132 dX6_number_114 rfl (fun u48 e49 => ?_)
          have h := h u48 e49
          refine V_iload_n 3 rfl dX6_number_117 rfl ?_
          exact V_iret dX6_number_118 (Or.inl rfl) h
  · have h := h.2 hc
    refine V_iconst dX6_number_18 rfl ?_
    exact V_iret dX6_number_19 (Or.inl rfl) h
theorem eX6_readBeast {G : GG} {Q : Int → Mem → Prop} {t : Mem} {v1 : Int} (k : V G mX6_readBeast 0 [(0, RR 132), (1, II v1)] [] t Q) : Ex G mX6_readBeast [RR 132, II v1] t Q := Ex.of plX6 (Or.inl rfl) (Nat.le_of_ble_eq_true rfl) rfl k
set_option maxRecDepth 100000 in
theorem sgX6_readBeast_0 {G : GG} {Q : Int → Mem → Prop} {t : Mem} {v1 : Int}  (h : ∃ P1 : Int → Mem → Prop, Ex G mX6_here [RR 132] t P1 ∧ ∀ (r3 : Int) (u4 : Mem), P1 r3 u4 → In32 r3 ∧ (¬ r3 = 112 → (¬ r3 = 109 → (¬ r3 = 121 → (¬ r3 = 103 → V G mX6_readBeast 46 [(0, RR 132), (1, II v1), (2, II r3)] [II (-1)] u4 Q) ∧ (r3 = 103 → V G mX6_readBeast 46 [(0, RR 132), (1, II v1), (2, II r3)] [II 3] u4 Q)) ∧ (r3 = 121 → V G mX6_readBeast 46 [(0, RR 132), (1, II v1), (2, II r3)] [II 2] u4 Q)) ∧ (r3 = 109 → V G mX6_readBeast 46 [(0, RR 132), (1, II v1), (2, II r3)] [II 1] u4 Q)) ∧ (r3 = 112 → V G mX6_readBeast 46 [(0, RR 132), (1, II v1), (2, II r3)] [II 0] u4 Q)) : V G mX6_readBeast 0 [(0, RR 132), (1, II v1)] [] t Q := by
  refine V_aload_n 0 rfl dX6_readBeast_0 rfl ?_
  obtain ⟨P1, c2, h⟩ := h
  refine V_callVi (st := []) (as := []) okX6_here rfl mlX6_184 (by decide) kY132 rfl (Nat.le_of_ble_eq_true rfl) rfl dX6_readBeast_1 rfl c2 (fun r3 u4 e5 => ?_)
  have h := h r3 u4 e5
  refine V_istore_n (ls2 := [(0, RR 132), (1, II v1), (2, II r3)]) dX6_readBeast_4 rfl (by decide) rfl ?_
  refine V_iload_n 2 rfl dX6_readBeast_5 rfl ?_
  refine V_bipush (by decide) dX6_readBeast_6 rfl ?_
  obtain ⟨q6, h⟩ := h
  refine V_icmp_ne q6 (iL rfl) dX6_readBeast_8 (g := 15) rfl rfl ⟨fun hc => ?_, fun hc => ?_⟩
  · have h := h.1 hc
    refine V_iload_n 2 rfl dX6_readBeast_15 rfl ?_
    refine V_bipush (by decide) dX6_readBeast_16 rfl ?_
    refine V_icmp_ne q6 (iL rfl) dX6_readBeast_18 (g := 25) rfl rfl ⟨fun hc => ?_, fun hc => ?_⟩
    · have h := h.1 hc
      refine V_iload_n 2 rfl dX6_readBeast_25 rfl ?_
      refine V_bipush (by decide) dX6_readBeast_26 rfl ?_
      refine V_icmp_ne q6 (iL rfl) dX6_readBeast_28 (g := 35) rfl rfl ⟨fun hc => ?_, fun hc => ?_⟩
      · have h := h.1 hc
        refine V_iload_n 2 rfl dX6_readBeast_35 rfl ?_
        refine V_bipush (by decide) dX6_readBeast_36 rfl ?_
        refine V_icmp_ne q6 (iL rfl) dX6_readBeast_38 (g := 45) rfl rfl ⟨fun hc => ?_, fun hc => ?_⟩
        · have h := h.1 hc
          refine V_iconst dX6_readBeast_45 rfl ?_
          exact h
        · have h := h.2 hc
          refine V_iconst dX6_readBeast_41 rfl ?_
          refine V_goto (g := 46) dX6_readBeast_42 rfl ?_
          exact h
      · have h := h.2 hc
        refine V_iconst dX6_readBeast_31 rfl ?_
        refine V_goto (g := 46) dX6_readBeast_32 rfl ?_
        exact h
    · have h := h.2 hc
      refine V_iconst dX6_readBeast_21 rfl ?_
      refine V_goto (g := 46) dX6_readBeast_22 rfl ?_
      exact h
  · have h := h.2 hc
    refine V_iconst dX6_readBeast_11 rfl ?_
    refine V_goto (g := 46) dX6_readBeast_12 rfl ?_
    exact h
set_option maxRecDepth 100000 in
theorem sgX6_readBeast_46 {G : GG} {Q : Int → Mem → Prop} {t : Mem} {v1 v2 w0 : Int}  (h : In32 w0 ∧ ∃ P7 : Int → Mem → Prop, Ex G mX6_must [RR 132, II (if w0 < 0 then 0 else 1)] t P7 ∧ ∀ u10 : Mem, P7 0 u10 → In32 (u10 132 11) ∧ (¬ (u10 132 11) = 0 → V G mX6_readBeast 95 [(0, RR 132), (1, II v1), (2, II v2), (3, II w0)] [] u10 Q) ∧ ((u10 132 11) = 0 → ∀ u13 : Mem, u13 = wr u10 132 10 ((u10 132 10) + 1) → ∃ P15 : Int → Mem → Prop, Ex G mX6_here [RR 132] u13 P15 ∧ ∀ (r17 : Int) (u18 : Mem), P15 r17 u18 → In32 r17 ∧ ∃ P21 : Int → Mem → Prop, Ex G mX6_in [JJ r17, JJ 49, JJ 57] u18 P21 ∧ ∀ (r23 : Int) (u24 : Mem), P21 r23 u24 → ∃ P26 : Int → Mem → Prop, Ex G mX6_must [RR 132, II r23] u24 P26 ∧ ∀ u29 : Mem, P26 0 u29 → V G mX6_readBeast 95 [(0, RR 132), (1, II v1), (2, II v2), (3, II w0)] [] u29 Q)) : V G mX6_readBeast 46 [(0, RR 132), (1, II v1), (2, II v2)] [II w0] t Q := by
  refine V_istore_n (ls2 := [(0, RR 132), (1, II v1), (2, II v2), (3, II w0)]) dX6_readBeast_46 rfl (by decide) rfl ?_
  refine V_aload_n 0 rfl dX6_readBeast_47 rfl ?_
  refine V_iload_n 3 rfl dX6_readBeast_48 rfl ?_
  obtain ⟨q1, h⟩ := h
  have hj6 : V G mX6_readBeast 57 [(0, RR 132), (1, II v1), (2, II v2), (3, II w0)] [II (if w0 < 0 then 0 else 1), RR 132] t Q := by
    obtain ⟨P7, c8, h⟩ := h
    refine V_callVv (st := []) (as := [II (if w0 < 0 then 0 else 1)]) okX6_must rfl mlX6_187 (by decide) kY132 rfl (Nat.le_of_ble_eq_true rfl) rfl dX6_readBeast_57 rfl c8 (fun u10 e11 => ?_)
    have h := h u10 e11
    refine V_aload_n 0 rfl dX6_readBeast_60 rfl ?_
    refine gX6_176 rfl kY132 dX6_readBeast_61 rfl ?_
    obtain ⟨q12, h⟩ := h
    refine V_if_ne q12 dX6_readBeast_64 (g := 95) rfl rfl ⟨fun hc => ?_, fun hc => ?_⟩
    · have h := h.1 hc
      exact h
    · have h := h.2 hc
      refine V_aload_n 0 rfl dX6_readBeast_67 rfl ?_
      refine V_dup rfl dX6_readBeast_68 rfl ?_
      refine gX6_173 rfl kY132 dX6_readBeast_69 rfl ?_
      refine V_iconst dX6_readBeast_72 rfl ?_
      refine V_iadd dX6_readBeast_73 rfl ?_
      refine pX6_173 rfl kY132 dX6_readBeast_74 rfl (fun u13 e14 => ?_)
      have h := h u13 e14
      refine V_aload_n 0 rfl dX6_readBeast_77 rfl ?_
      refine V_aload_n 0 rfl dX6_readBeast_78 rfl ?_
      obtain ⟨P15, c16, h⟩ := h
      refine V_callVi (st := [RR 132]) (as := []) okX6_here rfl mlX6_184 (by decide) kY132 rfl (Nat.le_of_ble_eq_true rfl) rfl dX6_readBeast_79 rfl c16 (fun r17 u18 e19 => ?_)
      have h := h r17 u18 e19
      obtain ⟨q20, h⟩ := h
      refine V_i2l q20 dX6_readBeast_82 rfl ?_
      refine V_ldc2 (x := 49) ctX6_193 rfl dX6_readBeast_83 rfl ?_
      refine V_ldc2 (x := 57) ctX6_182 rfl dX6_readBeast_86 rfl ?_
      obtain ⟨P21, c22, h⟩ := h
      refine V_callSi (st := [RR 132]) (as := [JJ r17, JJ 49, JJ 57]) okX6_in rfl mlX6_51 (by decide) rfl (Nat.le_of_ble_eq_true rfl) rfl dX6_readBeast_89 rfl c22 (fun r23 u24 e25 => ?_)
      have h := h r23 u24 e25
      obtain ⟨P26, c27, h⟩ := h
      refine V_callVv (st := []) (as := [II r23]) okX6_must rfl mlX6_187 (by decide) kY132 rfl (Nat.le_of_ble_eq_true rfl) rfl dX6_readBeast_92 rfl c27 (fun u29 e30 => ?_)
      have h := h u29 e30
      exact h
  refine V_if_lt q1 dX6_readBeast_49 (g := 56) rfl rfl ⟨fun hc => ?_, fun hc => ?_⟩
  · skip
    refine V_iconst dX6_readBeast_56 rfl ?_
    rw [if_pos hc] at hj6
    exact hj6
  · skip
    refine V_iconst dX6_readBeast_52 rfl ?_
    refine V_goto (g := 57) dX6_readBeast_53 rfl ?_
    rw [if_neg hc] at hj6
    exact hj6
set_option maxRecDepth 100000 in
theorem sgX6_readBeast_95 {G : GG} {Q : Int → Mem → Prop} {t : Mem} {v1 v2 v3 : Int}  (h : In32 (t 132 11) ∧ (¬ (t 132 11) = 0 → Q 0 t) ∧ ((t 132 11) = 0 → (0 ≤ 3 * v1 ∧ 3 * v1 < 21) ∧ ∀ u2 : Mem, u2 = wr t 139 (3 * v1).toNat v3 → (0 ≤ u2 132 10 ∧ u2 132 10 < 60) ∧ (0 ≤ (3 * v1) + 1 ∧ (3 * v1) + 1 < 21) ∧ ∀ u6 : Mem, u6 = wr u2 139 ((3 * v1) + 1).toNat ((u2 138 (u2 132 10).toNat) - 48) → ∀ u9 : Mem, u9 = wr u6 132 10 ((u6 132 10) + 1) → ∃ P11 : Int → Mem → Prop, Ex G mX6_here [RR 132] u9 P11 ∧ ∀ (r13 : Int) (u14 : Mem), P11 r13 u14 → In32 r13 ∧ (0 ≤ (3 * v1) + 2 ∧ (3 * v1) + 2 < 21) ∧ ∀ u22 : Mem, u22 = wr u14 139 ((3 * v1) + 2).toNat (if r13 = 98 then 1 else 0) → ∀ u25 : Mem, u25 = wr u22 132 10 ((u22 132 10) + (u22 139 ((3 * v1) + 2).toNat)) → Q 0 u25)) : V G mX6_readBeast 95 [(0, RR 132), (1, II v1), (2, II v2), (3, II v3)] [] t Q := by
  refine V_aload_n 0 rfl dX6_readBeast_95 rfl ?_
  refine gX6_176 rfl kY132 dX6_readBeast_96 rfl ?_
  obtain ⟨q1, h⟩ := h
  refine V_if_ne q1 dX6_readBeast_99 (g := 186) rfl rfl ⟨fun hc => ?_, fun hc => ?_⟩
  · have h := h.1 hc
    exact V_ret dX6_readBeast_186 rfl h
  · have h := h.2 hc
    refine V_aload_n 0 rfl dX6_readBeast_102 rfl ?_
    refine gX6_32 rfl kY132 rF132_12 dX6_readBeast_103 rfl ?_
    refine V_iconst dX6_readBeast_106 rfl ?_
    refine V_iload_n 1 rfl dX6_readBeast_107 rfl ?_
    refine V_imul dX6_readBeast_108 rfl ?_
    refine V_iload_n 3 rfl dX6_readBeast_109 rfl ?_
    obtain ⟨q4, h⟩ := h
    refine V_iastn kY139 lI139 q4 dX6_readBeast_110 rfl (fun u2 e3 => ?_)
    have h := h u2 e3
    refine V_aload_n 0 rfl dX6_readBeast_111 rfl ?_
    refine gX6_32 rfl kY132 rF132_12 dX6_readBeast_112 rfl ?_
    refine V_iconst dX6_readBeast_115 rfl ?_
    refine V_iload_n 1 rfl dX6_readBeast_116 rfl ?_
    refine V_imul dX6_readBeast_117 rfl ?_
    refine V_iconst dX6_readBeast_118 rfl ?_
    refine V_iadd dX6_readBeast_119 rfl ?_
    refine V_aload_n 0 rfl dX6_readBeast_120 rfl ?_
    refine gX6_29 rfl kY132 rF132_8 dX6_readBeast_121 rfl ?_
    refine V_aload_n 0 rfl dX6_readBeast_124 rfl ?_
    refine gX6_173 rfl kY132 dX6_readBeast_125 rfl ?_
    obtain ⟨q5, h⟩ := h
    refine V_ialdn kY138 lI138 q5 dX6_readBeast_128 rfl ?_
    refine V_bipush (by decide) dX6_readBeast_129 rfl ?_
    refine V_isub dX6_readBeast_131 rfl ?_
    obtain ⟨q8, h⟩ := h
    refine V_iastn kY139 lI139 q8 dX6_readBeast_132 rfl (fun u6 e7 => ?_)
    have h := h u6 e7
    refine V_aload_n 0 rfl dX6_readBeast_133 rfl ?_
    refine V_dup rfl dX6_readBeast_134 rfl ?_
    refine gX6_173 rfl kY132 dX6_readBeast_135 rfl ?_
    refine V_iconst dX6_readBeast_138 rfl ?_
    refine V_iadd dX6_readBeast_139 rfl ?_
    refine pX6_173 rfl kY132 dX6_readBeast_140 rfl (fun u9 e10 => ?_)
    have h := h u9 e10
    refine V_aload_n 0 rfl dX6_readBeast_143 rfl ?_
    refine gX6_32 rfl kY132 rF132_12 dX6_readBeast_144 rfl ?_
    refine V_iconst dX6_readBeast_147 rfl ?_
    refine V_iload_n 1 rfl dX6_readBeast_148 rfl ?_
    refine V_imul dX6_readBeast_149 rfl ?_
    refine V_iconst dX6_readBeast_150 rfl ?_
    refine V_iadd dX6_readBeast_151 rfl ?_
    refine V_aload_n 0 rfl dX6_readBeast_152 rfl ?_
    obtain ⟨P11, c12, h⟩ := h
    refine V_callVi (st := [II ((3 * v1) + 2), RR 139]) (as := []) okX6_here rfl mlX6_184 (by decide) kY132 rfl (Nat.le_of_ble_eq_true rfl) rfl dX6_readBeast_153 rfl c12 (fun r13 u14 e15 => ?_)
    have h := h r13 u14 e15
    refine V_bipush (by decide) dX6_readBeast_156 rfl ?_
    obtain ⟨q16, h⟩ := h
    have hj21 : V G mX6_readBeast 166 [(0, RR 132), (1, II v1), (2, II v2), (3, II v3)] [II (if r13 = 98 then 1 else 0), II ((3 * v1) + 2), RR 139] u14 Q := by
      obtain ⟨q24, h⟩ := h
      refine V_iastn kY139 lI139 q24 dX6_readBeast_166 rfl (fun u22 e23 => ?_)
      have h := h u22 e23
      refine V_aload_n 0 rfl dX6_readBeast_167 rfl ?_
      refine V_dup rfl dX6_readBeast_168 rfl ?_
      refine gX6_173 rfl kY132 dX6_readBeast_169 rfl ?_
      refine V_aload_n 0 rfl dX6_readBeast_172 rfl ?_
      refine gX6_32 rfl kY132 rF132_12 dX6_readBeast_173 rfl ?_
      refine V_iconst dX6_readBeast_176 rfl ?_
      refine V_iload_n 1 rfl dX6_readBeast_177 rfl ?_
      refine V_imul dX6_readBeast_178 rfl ?_
      refine V_iconst dX6_readBeast_179 rfl ?_
      refine V_iadd dX6_readBeast_180 rfl ?_
      refine V_ialdn kY139 lI139 q24 dX6_readBeast_181 rfl ?_
      refine V_iadd dX6_readBeast_182 rfl ?_
      refine pX6_173 rfl kY132 dX6_readBeast_183 rfl (fun u25 e26 => ?_)
      have h := h u25 e26
      exact V_ret dX6_readBeast_186 rfl h
    refine V_icmp_ne q16 (iL rfl) dX6_readBeast_158 (g := 165) rfl rfl ⟨fun hc => ?_, fun hc => ?_⟩
    · skip
      refine V_iconst dX6_readBeast_165 rfl ?_
      rw [if_neg hc] at hj21
      exact hj21
    · skip
      refine V_iconst dX6_readBeast_161 rfl ?_
      refine V_goto (g := 166) dX6_readBeast_162 rfl ?_
      rw [if_pos hc] at hj21
      exact hj21
theorem eX6_caravan {G : GG} {Q : Int → Mem → Prop} {t : Mem} (k : V G mX6_caravan 0 [(0, RR 132)] [] t Q) : Ex G mX6_caravan [RR 132] t Q := Ex.of plX6 (Or.inr (Or.inl rfl)) (Nat.le_of_ble_eq_true rfl) rfl k
set_option maxRecDepth 100000 in
theorem sgX6_caravan_0 {G : GG} {Q : Int → Mem → Prop} {t : Mem}  (h : ∀ u1 : Mem, u1 = wr t 132 10 0 → ∀ u3 : Mem, u3 = wr u1 132 11 0 → ∃ P5 : Int → Mem → Prop, Ex G mX6_number [RR 132, II 60] u3 P5 ∧ ∀ (r7 : Int) (u8 : Mem), P5 r7 u8 → ∃ P10 : Int → Mem → Prop, Ex G mX6_takes [RR 132, II 44] u8 P10 ∧ ∀ u13 : Mem, P10 0 u13 → ∃ P15 : Int → Mem → Prop, Ex G mX6_number [RR 132, II 20] u13 P15 ∧ ∀ (r17 : Int) (u18 : Mem), P15 r17 u18 → ∃ P20 : Int → Mem → Prop, Ex G mX6_takes [RR 132, II 59] u18 P20 ∧ ∀ u23 : Mem, P20 0 u23 → V G mX6_caravan 38 [(0, RR 132), (1, II r7), (2, II r17), (3, II 0)] [] u23 Q) : V G mX6_caravan 0 [(0, RR 132)] [] t Q := by
  refine V_aload_n 0 rfl dX6_caravan_0 rfl ?_
  refine V_iconst dX6_caravan_1 rfl ?_
  refine pX6_173 rfl kY132 dX6_caravan_2 rfl (fun u1 e2 => ?_)
  have h := h u1 e2
  refine V_aload_n 0 rfl dX6_caravan_5 rfl ?_
  refine V_iconst dX6_caravan_6 rfl ?_
  refine pX6_176 rfl (by decide) kY132 dX6_caravan_7 rfl (fun u3 e4 => ?_)
  have h := h u3 e4
  refine V_aload_n 0 rfl dX6_caravan_10 rfl ?_
  refine V_bipush (by decide) dX6_caravan_11 rfl ?_
  obtain ⟨P5, c6, h⟩ := h
  refine V_callVi (st := []) (as := [II 60]) okX6_number rfl mlX6_195 (by decide) kY132 rfl (Nat.le_of_ble_eq_true rfl) rfl dX6_caravan_13 rfl c6 (fun r7 u8 e9 => ?_)
  have h := h r7 u8 e9
  refine V_istore_n (ls2 := [(0, RR 132), (1, II r7)]) dX6_caravan_16 rfl (by decide) rfl ?_
  refine V_aload_n 0 rfl dX6_caravan_17 rfl ?_
  refine V_bipush (by decide) dX6_caravan_18 rfl ?_
  obtain ⟨P10, c11, h⟩ := h
  refine V_callVv (st := []) (as := [II 44]) okX6_takes rfl mlX6_198 (by decide) kY132 rfl (Nat.le_of_ble_eq_true rfl) rfl dX6_caravan_20 rfl c11 (fun u13 e14 => ?_)
  have h := h u13 e14
  refine V_aload_n 0 rfl dX6_caravan_23 rfl ?_
  refine V_bipush (by decide) dX6_caravan_24 rfl ?_
  obtain ⟨P15, c16, h⟩ := h
  refine V_callVi (st := []) (as := [II 20]) okX6_number rfl mlX6_195 (by decide) kY132 rfl (Nat.le_of_ble_eq_true rfl) rfl dX6_caravan_26 rfl c16 (fun r17 u18 e19 => ?_)
  have h := h r17 u18 e19
  refine V_istore_n (ls2 := [(0, RR 132), (1, II r7), (2, II r17)]) dX6_caravan_29 rfl (by decide) rfl ?_
  refine V_aload_n 0 rfl dX6_caravan_30 rfl ?_
  refine V_bipush (by decide) dX6_caravan_31 rfl ?_
  obtain ⟨P20, c21, h⟩ := h
  refine V_callVv (st := []) (as := [II 59]) okX6_takes rfl mlX6_198 (by decide) kY132 rfl (Nat.le_of_ble_eq_true rfl) rfl dX6_caravan_33 rfl c21 (fun u23 e24 => ?_)
  have h := h u23 e24
  refine V_iconst dX6_caravan_36 rfl ?_
  refine V_istore_n (ls2 := [(0, RR 132), (1, II r7), (2, II r17), (3, II 0)]) dX6_caravan_37 rfl (by decide) rfl ?_
  exact h
set_option maxRecDepth 100000 in
theorem sgX6_caravan_38 {G : GG} {Q : Int → Mem → Prop} {t : Mem} {v1 v2 v3 : Int}  (h : In32 (t 132 11) ∧ (¬ (t 132 11) = 0 → ∀ u2 : Mem, u2 = wr t 132 9 0 → In32 (u2 132 11) ∧ ((u2 132 11) = 0 → V G mX6_caravan 115 [(0, RR 132), (1, II v1), (2, II v2), (3, II v3), (4, II 0)] [] u2 Q) ∧ (¬ (u2 132 11) = 0 → Q ((-20) - (u2 132 10)) u2)) ∧ ((t 132 11) = 0 → In32 v3 ∧ (v3 = 0 → (v3 ≤ 0 → ∃ P6 : Int → Mem → Prop, Ex G mX6_readBeast [RR 132, II v3] t P6 ∧ ∀ u9 : Mem, P6 0 u9 → V G mX6_caravan 38 [(0, RR 132), (1, II v1), (2, II v2), (3, II (v3 + 1))] [] u9 Q) ∧ (¬ v3 ≤ 0 → ∃ P16 : Int → Mem → Prop, Ex G mX6_must [RR 132, II (if 7 ≤ v3 then 0 else 1)] t P16 ∧ ∀ u19 : Mem, P16 0 u19 → ∃ P21 : Int → Mem → Prop, Ex G mX6_takes [RR 132, II 44] u19 P21 ∧ ∀ u24 : Mem, P21 0 u24 → ∃ P26 : Int → Mem → Prop, Ex G mX6_readBeast [RR 132, II v3] u24 P26 ∧ ∀ u29 : Mem, P26 0 u29 → V G mX6_caravan 38 [(0, RR 132), (1, II v1), (2, II v2), (3, II (v3 + 1))] [] u29 Q)) ∧ (¬ v3 = 0 → ∃ P31 : Int → Mem → Prop, Ex G mX6_here [RR 132] t P31 ∧ ∀ (r33 : Int) (u34 : Mem), P31 r33 u34 → In32 r33 ∧ (r33 = 0 → ∀ u37 : Mem, u37 = wr u34 132 9 0 → In32 (u37 132 11) ∧ ((u37 132 11) = 0 → V G mX6_caravan 115 [(0, RR 132), (1, II v1), (2, II v2), (3, II v3), (4, II 0)] [] u37 Q) ∧ (¬ (u37 132 11) = 0 → Q ((-20) - (u37 132 10)) u37)) ∧ (¬ r33 = 0 → (v3 ≤ 0 → ∃ P40 : Int → Mem → Prop, Ex G mX6_readBeast [RR 132, II v3] u34 P40 ∧ ∀ u43 : Mem, P40 0 u43 → V G mX6_caravan 38 [(0, RR 132), (1, II v1), (2, II v2), (3, II (v3 + 1))] [] u43 Q) ∧ (¬ v3 ≤ 0 → ∃ P50 : Int → Mem → Prop, Ex G mX6_must [RR 132, II (if 7 ≤ v3 then 0 else 1)] u34 P50 ∧ ∀ u53 : Mem, P50 0 u53 → ∃ P55 : Int → Mem → Prop, Ex G mX6_takes [RR 132, II 44] u53 P55 ∧ ∀ u58 : Mem, P55 0 u58 → ∃ P60 : Int → Mem → Prop, Ex G mX6_readBeast [RR 132, II v3] u58 P60 ∧ ∀ u63 : Mem, P60 0 u63 → V G mX6_caravan 38 [(0, RR 132), (1, II v1), (2, II v2), (3, II (v3 + 1))] [] u63 Q))))) : V G mX6_caravan 38 [(0, RR 132), (1, II v1), (2, II v2), (3, II v3)] [] t Q := by
  refine V_aload_n 0 rfl dX6_caravan_38 rfl ?_
  refine gX6_176 rfl kY132 dX6_caravan_39 rfl ?_
  obtain ⟨q1, h⟩ := h
  refine V_if_ne q1 dX6_caravan_42 (g := 92) rfl rfl ⟨fun hc => ?_, fun hc => ?_⟩
  · have h := h.1 hc
    refine V_aload_n 0 rfl dX6_caravan_92 rfl ?_
    refine V_iconst dX6_caravan_93 rfl ?_
    refine pX6_170 rfl kY132 dX6_caravan_94 rfl (fun u2 e3 => ?_)
    have h := h u2 e3
    refine V_aload_n 0 rfl dX6_caravan_97 rfl ?_
    refine gX6_176 rfl kY132 dX6_caravan_98 rfl ?_
    obtain ⟨q4, h⟩ := h
    refine V_if_eq q4 dX6_caravan_101 (g := 112) rfl rfl ⟨fun hc => ?_, fun hc => ?_⟩
    · have h := h.1 hc
      refine V_iconst dX6_caravan_112 rfl ?_
      refine V_istore (ls2 := [(0, RR 132), (1, II v1), (2, II v2), (3, II v3), (4, II 0)]) dX6_caravan_113 rfl (by decide) rfl ?_
      exact h
    · have h := h.2 hc
      refine V_bipush (by decide) dX6_caravan_104 rfl ?_
      refine V_aload_n 0 rfl dX6_caravan_106 rfl ?_
      refine gX6_173 rfl kY132 dX6_caravan_107 rfl ?_
      refine V_isub dX6_caravan_110 rfl ?_
      exact V_iret dX6_caravan_111 (Or.inl rfl) h
  · have h := h.2 hc
    refine V_iload_n 3 rfl dX6_caravan_45 rfl ?_
    obtain ⟨q5, h⟩ := h
    refine V_if_eq q5 dX6_caravan_46 (g := 56) rfl rfl ⟨fun hc => ?_, fun hc => ?_⟩
    · have h := h.1 hc
      refine V_iload_n 3 rfl dX6_caravan_56 rfl ?_
      refine V_if_le q5 dX6_caravan_57 (g := 81) rfl rfl ⟨fun hc => ?_, fun hc => ?_⟩
      · have h := h.1 hc
        refine V_aload_n 0 rfl dX6_caravan_81 rfl ?_
        refine V_iload_n 3 rfl dX6_caravan_82 rfl ?_
        obtain ⟨P6, c7, h⟩ := h
        refine V_callVv (st := []) (as := [II v3]) okX6_readBeast rfl mlX6_201 (by decide) kY132 rfl (Nat.le_of_ble_eq_true rfl) rfl dX6_caravan_83 rfl c7 (fun u9 e10 => ?_)
        have h := h u9 e10
        refine V_iinc 3 rfl (ls2 := [(0, RR 132), (1, II v1), (2, II v2), (3, II (v3 + 1))]) dX6_caravan_86 rfl (by decide) rfl ?_
        refine V_goto (g := 38) dX6_caravan_89 rfl ?_
        exact h
      · have h := h.2 hc
        refine V_aload_n 0 rfl dX6_caravan_60 rfl ?_
        refine V_iload_n 3 rfl dX6_caravan_61 rfl ?_
        refine V_bipush (by decide) dX6_caravan_62 rfl ?_
        have hj15 : V G mX6_caravan 72 [(0, RR 132), (1, II v1), (2, II v2), (3, II v3)] [II (if 7 ≤ v3 then 0 else 1), RR 132] t Q := by
          obtain ⟨P16, c17, h⟩ := h
          refine V_callVv (st := []) (as := [II (if 7 ≤ v3 then 0 else 1)]) okX6_must rfl mlX6_187 (by decide) kY132 rfl (Nat.le_of_ble_eq_true rfl) rfl dX6_caravan_72 rfl c17 (fun u19 e20 => ?_)
          have h := h u19 e20
          refine V_aload_n 0 rfl dX6_caravan_75 rfl ?_
          refine V_bipush (by decide) dX6_caravan_76 rfl ?_
          obtain ⟨P21, c22, h⟩ := h
          refine V_callVv (st := []) (as := [II 44]) okX6_takes rfl mlX6_198 (by decide) kY132 rfl (Nat.le_of_ble_eq_true rfl) rfl dX6_caravan_78 rfl c22 (fun u24 e25 => ?_)
          have h := h u24 e25
          refine V_aload_n 0 rfl dX6_caravan_81 rfl ?_
          refine V_iload_n 3 rfl dX6_caravan_82 rfl ?_
          obtain ⟨P26, c27, h⟩ := h
          refine V_callVv (st := []) (as := [II v3]) okX6_readBeast rfl mlX6_201 (by decide) kY132 rfl (Nat.le_of_ble_eq_true rfl) rfl dX6_caravan_83 rfl c27 (fun u29 e30 => ?_)
          have h := h u29 e30
          refine V_iinc 3 rfl (ls2 := [(0, RR 132), (1, II v1), (2, II v2), (3, II (v3 + 1))]) dX6_caravan_86 rfl (by decide) rfl ?_
          refine V_goto (g := 38) dX6_caravan_89 rfl ?_
          exact h
        refine V_icmp_ge q5 (iL rfl) dX6_caravan_64 (g := 71) rfl rfl ⟨fun hc => ?_, fun hc => ?_⟩
        · skip
          refine V_iconst dX6_caravan_71 rfl ?_
          rw [if_pos hc] at hj15
          exact hj15
        · skip
          refine V_iconst dX6_caravan_67 rfl ?_
          refine V_goto (g := 72) dX6_caravan_68 rfl ?_
          rw [if_neg hc] at hj15
          exact hj15
    · have h := h.2 hc
      refine V_aload_n 0 rfl dX6_caravan_49 rfl ?_
      obtain ⟨P31, c32, h⟩ := h
      refine V_callVi (st := []) (as := []) okX6_here rfl mlX6_184 (by decide) kY132 rfl (Nat.le_of_ble_eq_true rfl) rfl dX6_caravan_50 rfl c32 (fun r33 u34 e35 => ?_)
      have h := h r33 u34 e35
      obtain ⟨q36, h⟩ := h
      refine V_if_eq q36 dX6_caravan_53 (g := 92) rfl rfl ⟨fun hc => ?_, fun hc => ?_⟩
      · have h := h.1 hc
        refine V_aload_n 0 rfl dX6_caravan_92 rfl ?_
        refine V_iconst dX6_caravan_93 rfl ?_
        refine pX6_170 rfl kY132 dX6_caravan_94 rfl (fun u37 e38 => ?_)
        have h := h u37 e38
        refine V_aload_n 0 rfl dX6_caravan_97 rfl ?_
        refine gX6_176 rfl kY132 dX6_caravan_98 rfl ?_
        obtain ⟨q39, h⟩ := h
        refine V_if_eq q39 dX6_caravan_101 (g := 112) rfl rfl ⟨fun hc => ?_, fun hc => ?_⟩
        · have h := h.1 hc
          refine V_iconst dX6_caravan_112 rfl ?_
          refine V_istore (ls2 := [(0, RR 132), (1, II v1), (2, II v2), (3, II v3), (4, II 0)]) dX6_caravan_113 rfl (by decide) rfl ?_
          exact h
        · have h := h.2 hc
          refine V_bipush (by decide) dX6_caravan_104 rfl ?_
          refine V_aload_n 0 rfl dX6_caravan_106 rfl ?_
          refine gX6_173 rfl kY132 dX6_caravan_107 rfl ?_
          refine V_isub dX6_caravan_110 rfl ?_
          exact V_iret dX6_caravan_111 (Or.inl rfl) h
      · have h := h.2 hc
        refine V_iload_n 3 rfl dX6_caravan_56 rfl ?_
        refine V_if_le q5 dX6_caravan_57 (g := 81) rfl rfl ⟨fun hc => ?_, fun hc => ?_⟩
        · have h := h.1 hc
          refine V_aload_n 0 rfl dX6_caravan_81 rfl ?_
          refine V_iload_n 3 rfl dX6_caravan_82 rfl ?_
          obtain ⟨P40, c41, h⟩ := h
          refine V_callVv (st := []) (as := [II v3]) okX6_readBeast rfl mlX6_201 (by decide) kY132 rfl (Nat.le_of_ble_eq_true rfl) rfl dX6_caravan_83 rfl c41 (fun u43 e44 => ?_)
          have h := h u43 e44
          refine V_iinc 3 rfl (ls2 := [(0, RR 132), (1, II v1), (2, II v2), (3, II (v3 + 1))]) dX6_caravan_86 rfl (by decide) rfl ?_
          refine V_goto (g := 38) dX6_caravan_89 rfl ?_
          exact h
        · have h := h.2 hc
          refine V_aload_n 0 rfl dX6_caravan_60 rfl ?_
          refine V_iload_n 3 rfl dX6_caravan_61 rfl ?_
          refine V_bipush (by decide) dX6_caravan_62 rfl ?_
          have hj49 : V G mX6_caravan 72 [(0, RR 132), (1, II v1), (2, II v2), (3, II v3)] [II (if 7 ≤ v3 then 0 else 1), RR 132] u34 Q := by
            obtain ⟨P50, c51, h⟩ := h
            refine V_callVv (st := []) (as := [II (if 7 ≤ v3 then 0 else 1)]) okX6_must rfl mlX6_187 (by decide) kY132 rfl (Nat.le_of_ble_eq_true rfl) rfl dX6_caravan_72 rfl c51 (fun u53 e54 => ?_)
            have h := h u53 e54
            refine V_aload_n 0 rfl dX6_caravan_75 rfl ?_
            refine V_bipush (by decide) dX6_caravan_76 rfl ?_
            obtain ⟨P55, c56, h⟩ := h
            refine V_callVv (st := []) (as := [II 44]) okX6_takes rfl mlX6_198 (by decide) kY132 rfl (Nat.le_of_ble_eq_true rfl) rfl dX6_caravan_78 rfl c56 (fun u58 e59 => ?_)
            have h := h u58 e59
            refine V_aload_n 0 rfl dX6_caravan_81 rfl ?_
            refine V_iload_n 3 rfl dX6_caravan_82 rfl ?_
            obtain ⟨P60, c61, h⟩ := h
            refine V_callVv (st := []) (as := [II v3]) okX6_readBeast rfl mlX6_201 (by decide) kY132 rfl (Nat.le_of_ble_eq_true rfl) rfl dX6_caravan_83 rfl c61 (fun u63 e64 => ?_)
            have h := h u63 e64
            refine V_iinc 3 rfl (ls2 := [(0, RR 132), (1, II v1), (2, II v2), (3, II (v3 + 1))]) dX6_caravan_86 rfl (by decide) rfl ?_
            refine V_goto (g := 38) dX6_caravan_89 rfl ?_
            exact h
          refine V_icmp_ge q5 (iL rfl) dX6_caravan_64 (g := 71) rfl rfl ⟨fun hc => ?_, fun hc => ?_⟩
          · skip
            refine V_iconst dX6_caravan_71 rfl ?_
            rw [if_pos hc] at hj49
            exact hj49
          · skip
            refine V_iconst dX6_caravan_67 rfl ?_
            refine V_goto (g := 72) dX6_caravan_68 rfl ?_
            rw [if_neg hc] at hj49
            exact hj49
set_option maxRecDepth 100000 in
theorem sgX6_caravan_115 {G : GG} {Q : Int → Mem → Prop} {t : Mem} {v1 v2 v3 v4 : Int}  (h : In32 v4 ∧ (7 ≤ v4 → ∀ u2 : Mem, u2 = wr t 133 12 v3 → ∀ u4 : Mem, u4 = wr u2 132 2 (-1) → ∀ u6 : Mem, u6 = wr u4 133 0 v1 → ∀ u8 : Mem, u8 = wr u6 133 1 v2 → ∀ u10 : Mem, u10 = wr u8 133 7 0 → ∀ u12 : Mem, u12 = wr u10 133 8 0 → ∀ u14 : Mem, u14 = wr u12 133 9 0 → ∀ u16 : Mem, u16 = wr u14 133 10 (-4) → ∀ u18 : Mem, u18 = wr u16 133 11 0 → ∀ u20 : Mem, u20 = wr u18 132 5 0 → Q v3 u20) ∧ (¬ 7 ≤ v4 → V G mX6_caravan 125 [(0, RR 132), (1, II v1), (2, II v2), (3, II v3), (4, II v4), (5, II 0)] [] t Q)) : V G mX6_caravan 115 [(0, RR 132), (1, II v1), (2, II v2), (3, II v3), (4, II v4)] [] t Q := by
  refine V_iload 4 rfl dX6_caravan_115 rfl ?_
  refine V_bipush (by decide) dX6_caravan_117 rfl ?_
  obtain ⟨q1, h⟩ := h
  refine V_icmp_ge q1 (iL rfl) dX6_caravan_119 (g := 188) rfl rfl ⟨fun hc => ?_, fun hc => ?_⟩
  · have h := h.1 hc
    refine V_aload_n 0 rfl dX6_caravan_188 rfl ?_
    refine gX6_7 rfl kY132 rF132_0 dX6_caravan_189 rfl ?_
    refine V_bipush (by decide) dX6_caravan_192 rfl ?_
    refine V_iload_n 3 rfl dX6_caravan_194 rfl ?_
    refine V_iastL 12 rfl kY133 lI133 rfl dX6_caravan_195 rfl (fun u2 e3 => ?_)
    have h := h u2 e3
    refine V_aload_n 0 rfl dX6_caravan_196 rfl ?_
    refine V_iconst dX6_caravan_197 rfl ?_
    refine pX6_16 rfl kY132 dX6_caravan_198 rfl (fun u4 e5 => ?_)
    have h := h u4 e5
    refine V_aload_n 0 rfl dX6_caravan_201 rfl ?_
    refine gX6_7 rfl kY132 rF132_0 dX6_caravan_202 rfl ?_
    refine V_iconst dX6_caravan_205 rfl ?_
    refine V_iload_n 1 rfl dX6_caravan_206 rfl ?_
    refine V_iastL 0 rfl kY133 lI133 rfl dX6_caravan_207 rfl (fun u6 e7 => ?_)
    have h := h u6 e7
    refine V_aload_n 0 rfl dX6_caravan_208 rfl ?_
    refine gX6_7 rfl kY132 rF132_0 dX6_caravan_209 rfl ?_
    refine V_iconst dX6_caravan_212 rfl ?_
    refine V_iload_n 2 rfl dX6_caravan_213 rfl ?_
    refine V_iastL 1 rfl kY133 lI133 rfl dX6_caravan_214 rfl (fun u8 e9 => ?_)
    have h := h u8 e9
    refine V_aload_n 0 rfl dX6_caravan_215 rfl ?_
    refine gX6_7 rfl kY132 rF132_0 dX6_caravan_216 rfl ?_
    refine V_bipush (by decide) dX6_caravan_219 rfl ?_
    refine V_iconst dX6_caravan_221 rfl ?_
    refine V_iastL 7 rfl kY133 lI133 rfl dX6_caravan_222 rfl (fun u10 e11 => ?_)
    have h := h u10 e11
    refine V_aload_n 0 rfl dX6_caravan_223 rfl ?_
    refine gX6_7 rfl kY132 rF132_0 dX6_caravan_224 rfl ?_
    refine V_bipush (by decide) dX6_caravan_227 rfl ?_
    refine V_iconst dX6_caravan_229 rfl ?_
    refine V_iastL 8 rfl kY133 lI133 rfl dX6_caravan_230 rfl (fun u12 e13 => ?_)
    have h := h u12 e13
    refine V_aload_n 0 rfl dX6_caravan_231 rfl ?_
    refine gX6_7 rfl kY132 rF132_0 dX6_caravan_232 rfl ?_
    refine V_bipush (by decide) dX6_caravan_235 rfl ?_
    refine V_iconst dX6_caravan_237 rfl ?_
    refine V_iastL 9 rfl kY133 lI133 rfl dX6_caravan_238 rfl (fun u14 e15 => ?_)
    have h := h u14 e15
    refine V_aload_n 0 rfl dX6_caravan_239 rfl ?_
    refine gX6_7 rfl kY132 rF132_0 dX6_caravan_240 rfl ?_
    refine V_bipush (by decide) dX6_caravan_243 rfl ?_
    refine V_bipush (by decide) dX6_caravan_245 rfl ?_
    refine V_iastL 10 rfl kY133 lI133 rfl dX6_caravan_247 rfl (fun u16 e17 => ?_)
    have h := h u16 e17
    refine V_aload_n 0 rfl dX6_caravan_248 rfl ?_
    refine gX6_7 rfl kY132 rF132_0 dX6_caravan_249 rfl ?_
    refine V_bipush (by decide) dX6_caravan_252 rfl ?_
    refine V_iconst dX6_caravan_254 rfl ?_
    refine V_iastL 11 rfl kY133 lI133 rfl dX6_caravan_255 rfl (fun u18 e19 => ?_)
    have h := h u18 e19
    refine V_aload_n 0 rfl dX6_caravan_256 rfl ?_
    refine V_iconst dX6_caravan_257 rfl ?_
    refine pX6_74 rfl kY132 dX6_caravan_258 rfl (fun u20 e21 => ?_)
    have h := h u20 e21
    refine V_iload_n 3 rfl dX6_caravan_261 rfl ?_
    exact V_iret dX6_caravan_262 (Or.inl rfl) h
  · have h := h.2 hc
    refine V_iconst dX6_caravan_122 rfl ?_
    refine V_istore (ls2 := [(0, RR 132), (1, II v1), (2, II v2), (3, II v3), (4, II v4), (5, II 0)]) dX6_caravan_123 rfl (by decide) rfl ?_
    exact h
set_option maxRecDepth 100000 in
theorem sgX6_caravan_125 {G : GG} {Q : Int → Mem → Prop} {t : Mem} {v1 v2 v3 v4 v5 : Int}  (h : In32 v5 ∧ (7 ≤ v5 → V G mX6_caravan 115 [(0, RR 132), (1, II v1), (2, II v2), (3, II v3), (4, II (v4 + 1))] [] t Q) ∧ (¬ 7 ≤ v5 → In32 v4 ∧ In32 v3 ∧ (v3 ≤ v4 → (0 ≤ (14 + (7 * v4)) + v5 ∧ (14 + (7 * v4)) + v5 < 63) ∧ ∀ u4 : Mem, u4 = wr t 133 ((14 + (7 * v4)) + v5).toNat 0 → V G mX6_caravan 125 [(0, RR 132), (1, II v1), (2, II v2), (3, II v3), (4, II v4), (5, II (v5 + 1))] [] u4 Q) ∧ (¬ v3 ≤ v4 → (¬ 3 ≤ v5 → (0 ≤ (3 * v4) + v5 ∧ (3 * v4) + v5 < 21) ∧ True) ∧ ∀ w8 : Int, w8 = (if 3 ≤ v5 then 0 else t 139 ((3 * v4) + v5).toNat) → (0 ≤ (14 + (7 * v4)) + v5 ∧ (14 + (7 * v4)) + v5 < 63) ∧ ∀ u13 : Mem, u13 = wr t 133 ((14 + (7 * v4)) + v5).toNat w8 → V G mX6_caravan 125 [(0, RR 132), (1, II v1), (2, II v2), (3, II v3), (4, II v4), (5, II (v5 + 1))] [] u13 Q))) : V G mX6_caravan 125 [(0, RR 132), (1, II v1), (2, II v2), (3, II v3), (4, II v4), (5, II v5)] [] t Q := by
  refine V_iload 5 rfl dX6_caravan_125 rfl ?_
  refine V_bipush (by decide) dX6_caravan_127 rfl ?_
  obtain ⟨q1, h⟩ := h
  refine V_icmp_ge q1 (iL rfl) dX6_caravan_129 (g := 182) rfl rfl ⟨fun hc => ?_, fun hc => ?_⟩
  · have h := h.1 hc
    refine V_iinc 4 rfl (ls2 := [(0, RR 132), (1, II v1), (2, II v2), (3, II v3), (4, II (v4 + 1)), (5, II v5)]) dX6_caravan_182 rfl (by decide) rfl ?_
    refine V_goto (g := 115) dX6_caravan_185 rfl ?_
    exact V_sub (by intro q hq; simp only [List.mem_cons, List.not_mem_nil, or_false] at hq ⊢; first | (rcases hq with rfl | rfl | rfl | rfl | rfl <;> simp)) h
  · have h := h.2 hc
    refine V_aload_n 0 rfl dX6_caravan_132 rfl ?_
    refine gX6_7 rfl kY132 rF132_0 dX6_caravan_133 rfl ?_
    refine V_bipush (by decide) dX6_caravan_136 rfl ?_
    refine V_bipush (by decide) dX6_caravan_138 rfl ?_
    refine V_iload 4 rfl dX6_caravan_140 rfl ?_
    refine V_imul dX6_caravan_142 rfl ?_
    refine V_iadd dX6_caravan_143 rfl ?_
    refine V_iload 5 rfl dX6_caravan_144 rfl ?_
    refine V_iadd dX6_caravan_146 rfl ?_
    refine V_iload 4 rfl dX6_caravan_147 rfl ?_
    refine V_iload_n 3 rfl dX6_caravan_149 rfl ?_
    obtain ⟨q2, h⟩ := h
    obtain ⟨q3, h⟩ := h
    refine V_icmp_ge q2 q3 dX6_caravan_150 (g := 174) rfl rfl ⟨fun hc => ?_, fun hc => ?_⟩
    · have h := h.1 hc
      refine V_iconst dX6_caravan_174 rfl ?_
      obtain ⟨q6, h⟩ := h
      refine V_iastn kY133 lI133 q6 dX6_caravan_175 rfl (fun u4 e5 => ?_)
      have h := h u4 e5
      refine V_iinc 5 rfl (ls2 := [(0, RR 132), (1, II v1), (2, II v2), (3, II v3), (4, II v4), (5, II (v5 + 1))]) dX6_caravan_176 rfl (by decide) rfl ?_
      refine V_goto (g := 125) dX6_caravan_179 rfl ?_
      exact h
    · have h := h.2 hc
      refine V_iload 5 rfl dX6_caravan_153 rfl ?_
      refine V_iconst dX6_caravan_155 rfl ?_
      obtain ⟨hB11, h⟩ := h
      have hj12 : ∀ w8 : Int, w8 = (if 3 ≤ v5 then 0 else t 139 ((3 * v4) + v5).toNat) → V G mX6_caravan 175 [(0, RR 132), (1, II v1), (2, II v2), (3, II v3), (4, II v4), (5, II v5)] [II w8, II ((14 + (7 * v4)) + v5), RR 133] t Q := by
        intro w8 e9
        have h := h w8 e9
        obtain ⟨q15, h⟩ := h
        refine V_iastn kY133 lI133 q15 dX6_caravan_175 rfl (fun u13 e14 => ?_)
        have h := h u13 e14
        refine V_iinc 5 rfl (ls2 := [(0, RR 132), (1, II v1), (2, II v2), (3, II v3), (4, II v4), (5, II (v5 + 1))]) dX6_caravan_176 rfl (by decide) rfl ?_
        refine V_goto (g := 125) dX6_caravan_179 rfl ?_
        exact h
      have hj12 := hj12 _ rfl
      refine V_icmp_ge q1 (iL rfl) dX6_caravan_156 (g := 174) rfl rfl ⟨fun hc => ?_, fun hc => ?_⟩
      · skip
        refine V_iconst dX6_caravan_174 rfl ?_
        rw [if_pos hc] at hj12
        exact hj12
      · have h := hB11 hc
        refine V_aload_n 0 rfl dX6_caravan_159 rfl ?_
        refine gX6_32 rfl kY132 rF132_12 dX6_caravan_160 rfl ?_
        refine V_iconst dX6_caravan_163 rfl ?_
        refine V_iload 4 rfl dX6_caravan_164 rfl ?_
        refine V_imul dX6_caravan_166 rfl ?_
        refine V_iload 5 rfl dX6_caravan_167 rfl ?_
        refine V_iadd dX6_caravan_169 rfl ?_
        obtain ⟨q7, h⟩ := h
        refine V_ialdn kY139 lI139 q7 dX6_caravan_170 rfl ?_
        refine V_goto (g := 175) dX6_caravan_171 rfl ?_
        rw [if_neg hc] at hj12
        exact hj12
theorem eX6_image {G : GG} {Q : Int → Mem → Prop} {t : Mem} (k : V G mX6_image 0 [(0, RR 132)] [] t Q) : Ex G mX6_image [RR 132] t Q := Ex.of plX6 (Or.inr (Or.inl rfl)) (Nat.le_of_ble_eq_true rfl) rfl k
set_option maxRecDepth 100000 in
theorem sgX6_image_0 {G : GG} {Q : Int → Mem → Prop} {t : Mem}  (h : V G mX6_image 2 [(0, RR 132), (1, II 0)] [] t Q) : V G mX6_image 0 [(0, RR 132)] [] t Q := by
  refine V_iconst dX6_image_0 rfl ?_
  refine V_istore_n (ls2 := [(0, RR 132), (1, II 0)]) dX6_image_1 rfl (by decide) rfl ?_
  exact h
set_option maxRecDepth 100000 in
theorem sgX6_image_2 {G : GG} {Q : Int → Mem → Prop} {t : Mem} {v1 : Int}  (h : In32 v1 ∧ (63 ≤ v1 → V G mX6_image 28 [(0, RR 132), (1, II 0)] [] t Q) ∧ (¬ 63 ≤ v1 → (0 ≤ v1 ∧ v1 < 63) ∧ (0 ≤ v1 ∧ v1 < 567) ∧ ∀ u3 : Mem, u3 = wr t 140 v1.toNat (t 133 v1.toNat) → V G mX6_image 2 [(0, RR 132), (1, II (v1 + 1))] [] u3 Q)) : V G mX6_image 2 [(0, RR 132), (1, II v1)] [] t Q := by
  refine V_iload_n 1 rfl dX6_image_2 rfl ?_
  refine V_bipush (by decide) dX6_image_3 rfl ?_
  obtain ⟨q1, h⟩ := h
  refine V_icmp_ge q1 (iL rfl) dX6_image_5 (g := 26) rfl rfl ⟨fun hc => ?_, fun hc => ?_⟩
  · have h := h.1 hc
    refine V_iconst dX6_image_26 rfl ?_
    refine V_istore_n (ls2 := [(0, RR 132), (1, II 0)]) dX6_image_27 rfl (by decide) rfl ?_
    exact h
  · have h := h.2 hc
    refine V_aload_n 0 rfl dX6_image_8 rfl ?_
    refine gX6_35 rfl kY132 rF132_13 dX6_image_9 rfl ?_
    refine V_iload_n 1 rfl dX6_image_12 rfl ?_
    refine V_aload_n 0 rfl dX6_image_13 rfl ?_
    refine gX6_7 rfl kY132 rF132_0 dX6_image_14 rfl ?_
    refine V_iload_n 1 rfl dX6_image_17 rfl ?_
    obtain ⟨q2, h⟩ := h
    refine V_ialdn kY133 lI133 q2 dX6_image_18 rfl ?_
    obtain ⟨q5, h⟩ := h
    refine V_iastn kY140 lI140 q5 dX6_image_19 rfl (fun u3 e4 => ?_)
    have h := h u3 e4
    refine V_iinc 1 rfl (ls2 := [(0, RR 132), (1, II (v1 + 1))]) dX6_image_20 rfl (by decide) rfl ?_
    refine V_goto (g := 2) dX6_image_23 rfl ?_
    exact h
set_option maxRecDepth 100000 in
theorem sgX6_image_28 {G : GG} {Q : Int → Mem → Prop} {t : Mem} {v1 : Int}  (h : In32 v1 ∧ (504 ≤ v1 → ∀ u2 : Mem, u2 = wr t 132 14 (t 132 5) → ∀ u4 : Mem, u4 = wr u2 132 15 1 → Q 1 u4) ∧ (¬ 504 ≤ v1 → (0 ≤ v1 ∧ v1 < 504) ∧ (0 ≤ 63 + v1 ∧ 63 + v1 < 567) ∧ ∀ u7 : Mem, u7 = wr t 140 (63 + v1).toNat (t 135 v1.toNat) → V G mX6_image 28 [(0, RR 132), (1, II (v1 + 1))] [] u7 Q)) : V G mX6_image 28 [(0, RR 132), (1, II v1)] [] t Q := by
  refine V_iload_n 1 rfl dX6_image_28 rfl ?_
  refine V_sipush (by decide) dX6_image_29 rfl ?_
  obtain ⟨q1, h⟩ := h
  refine V_icmp_ge q1 (iL rfl) dX6_image_32 (g := 56) rfl rfl ⟨fun hc => ?_, fun hc => ?_⟩
  · have h := h.1 hc
    refine V_aload_n 0 rfl dX6_image_56 rfl ?_
    refine V_aload_n 0 rfl dX6_image_57 rfl ?_
    refine gX6_74 rfl kY132 dX6_image_58 rfl ?_
    refine pX6_204 rfl kY132 dX6_image_61 rfl (fun u2 e3 => ?_)
    have h := h u2 e3
    refine V_aload_n 0 rfl dX6_image_64 rfl ?_
    refine V_iconst dX6_image_65 rfl ?_
    refine pX6_207 rfl (by decide) kY132 dX6_image_66 rfl (fun u4 e5 => ?_)
    have h := h u4 e5
    refine V_iconst dX6_image_69 rfl ?_
    exact V_iret dX6_image_70 (Or.inl rfl) h
  · have h := h.2 hc
    refine V_aload_n 0 rfl dX6_image_35 rfl ?_
    refine gX6_35 rfl kY132 rF132_13 dX6_image_36 rfl ?_
    refine V_bipush (by decide) dX6_image_39 rfl ?_
    refine V_iload_n 1 rfl dX6_image_41 rfl ?_
    refine V_iadd dX6_image_42 rfl ?_
    refine V_aload_n 0 rfl dX6_image_43 rfl ?_
    refine gX6_20 rfl kY132 rF132_4 dX6_image_44 rfl ?_
    refine V_iload_n 1 rfl dX6_image_47 rfl ?_
    obtain ⟨q6, h⟩ := h
    refine V_ialdn kY135 lI135 q6 dX6_image_48 rfl ?_
    obtain ⟨q9, h⟩ := h
    refine V_iastn kY140 lI140 q9 dX6_image_49 rfl (fun u7 e8 => ?_)
    have h := h u7 e8
    refine V_iinc 1 rfl (ls2 := [(0, RR 132), (1, II (v1 + 1))]) dX6_image_50 rfl (by decide) rfl ?_
    refine V_goto (g := 28) dX6_image_53 rfl ?_
    exact h
theorem eX6_restore {G : GG} {Q : Int → Mem → Prop} {t : Mem} (k : V G mX6_restore 0 [(0, RR 132)] [] t Q) : Ex G mX6_restore [RR 132] t Q := Ex.of plX6 (Or.inr (Or.inl rfl)) (Nat.le_of_ble_eq_true rfl) rfl k
set_option maxRecDepth 100000 in
theorem sgX6_restore_0 {G : GG} {Q : Int → Mem → Prop} {t : Mem}  (h : In32 (t 132 15) ∧ (¬ (t 132 15) = 0 → V G mX6_restore 12 [(0, RR 132), (1, II 0)] [] t Q) ∧ ((t 132 15) = 0 → Q (-4) t)) : V G mX6_restore 0 [(0, RR 132)] [] t Q := by
  refine V_aload_n 0 rfl dX6_restore_0 rfl ?_
  refine gX6_207 rfl kY132 dX6_restore_1 rfl ?_
  obtain ⟨q1, h⟩ := h
  refine V_if_ne q1 dX6_restore_4 (g := 10) rfl rfl ⟨fun hc => ?_, fun hc => ?_⟩
  · have h := h.1 hc
    refine V_iconst dX6_restore_10 rfl ?_
    refine V_istore_n (ls2 := [(0, RR 132), (1, II 0)]) dX6_restore_11 rfl (by decide) rfl ?_
    exact h
  · have h := h.2 hc
    refine V_bipush (by decide) dX6_restore_7 rfl ?_
    exact V_iret dX6_restore_9 (Or.inl rfl) h
set_option maxRecDepth 100000 in
theorem sgX6_restore_12 {G : GG} {Q : Int → Mem → Prop} {t : Mem} {v1 : Int}  (h : In32 v1 ∧ (63 ≤ v1 → V G mX6_restore 38 [(0, RR 132), (1, II 0)] [] t Q) ∧ (¬ 63 ≤ v1 → (0 ≤ v1 ∧ v1 < 567) ∧ (0 ≤ v1 ∧ v1 < 63) ∧ ∀ u3 : Mem, u3 = wr t 133 v1.toNat (t 140 v1.toNat) → V G mX6_restore 12 [(0, RR 132), (1, II (v1 + 1))] [] u3 Q)) : V G mX6_restore 12 [(0, RR 132), (1, II v1)] [] t Q := by
  refine V_iload_n 1 rfl dX6_restore_12 rfl ?_
  refine V_bipush (by decide) dX6_restore_13 rfl ?_
  obtain ⟨q1, h⟩ := h
  refine V_icmp_ge q1 (iL rfl) dX6_restore_15 (g := 36) rfl rfl ⟨fun hc => ?_, fun hc => ?_⟩
  · have h := h.1 hc
    refine V_iconst dX6_restore_36 rfl ?_
    refine V_istore_n (ls2 := [(0, RR 132), (1, II 0)]) dX6_restore_37 rfl (by decide) rfl ?_
    exact h
  · have h := h.2 hc
    refine V_aload_n 0 rfl dX6_restore_18 rfl ?_
    refine gX6_7 rfl kY132 rF132_0 dX6_restore_19 rfl ?_
    refine V_iload_n 1 rfl dX6_restore_22 rfl ?_
    refine V_aload_n 0 rfl dX6_restore_23 rfl ?_
    refine gX6_35 rfl kY132 rF132_13 dX6_restore_24 rfl ?_
    refine V_iload_n 1 rfl dX6_restore_27 rfl ?_
    obtain ⟨q2, h⟩ := h
    refine V_ialdn kY140 lI140 q2 dX6_restore_28 rfl ?_
    obtain ⟨q5, h⟩ := h
    refine V_iastn kY133 lI133 q5 dX6_restore_29 rfl (fun u3 e4 => ?_)
    have h := h u3 e4
    refine V_iinc 1 rfl (ls2 := [(0, RR 132), (1, II (v1 + 1))]) dX6_restore_30 rfl (by decide) rfl ?_
    refine V_goto (g := 12) dX6_restore_33 rfl ?_
    exact h
set_option maxRecDepth 100000 in
theorem sgX6_restore_38 {G : GG} {Q : Int → Mem → Prop} {t : Mem} {v1 : Int}  (h : In32 v1 ∧ (504 ≤ v1 → ∀ u2 : Mem, u2 = wr t 132 5 (t 132 14) → ∀ u4 : Mem, u4 = wr u2 132 2 (-1) → Q 1 u4) ∧ (¬ 504 ≤ v1 → (0 ≤ 63 + v1 ∧ 63 + v1 < 567) ∧ (0 ≤ v1 ∧ v1 < 504) ∧ ∀ u7 : Mem, u7 = wr t 135 v1.toNat (t 140 (63 + v1).toNat) → V G mX6_restore 38 [(0, RR 132), (1, II (v1 + 1))] [] u7 Q)) : V G mX6_restore 38 [(0, RR 132), (1, II v1)] [] t Q := by
  refine V_iload_n 1 rfl dX6_restore_38 rfl ?_
  refine V_sipush (by decide) dX6_restore_39 rfl ?_
  obtain ⟨q1, h⟩ := h
  refine V_icmp_ge q1 (iL rfl) dX6_restore_42 (g := 66) rfl rfl ⟨fun hc => ?_, fun hc => ?_⟩
  · have h := h.1 hc
    refine V_aload_n 0 rfl dX6_restore_66 rfl ?_
    refine V_aload_n 0 rfl dX6_restore_67 rfl ?_
    refine gX6_204 rfl kY132 dX6_restore_68 rfl ?_
    refine pX6_74 rfl kY132 dX6_restore_71 rfl (fun u2 e3 => ?_)
    have h := h u2 e3
    refine V_aload_n 0 rfl dX6_restore_74 rfl ?_
    refine V_iconst dX6_restore_75 rfl ?_
    refine pX6_16 rfl kY132 dX6_restore_76 rfl (fun u4 e5 => ?_)
    have h := h u4 e5
    refine V_iconst dX6_restore_79 rfl ?_
    exact V_iret dX6_restore_80 (Or.inl rfl) h
  · have h := h.2 hc
    refine V_aload_n 0 rfl dX6_restore_45 rfl ?_
    refine gX6_20 rfl kY132 rF132_4 dX6_restore_46 rfl ?_
    refine V_iload_n 1 rfl dX6_restore_49 rfl ?_
    refine V_aload_n 0 rfl dX6_restore_50 rfl ?_
    refine gX6_35 rfl kY132 rF132_13 dX6_restore_51 rfl ?_
    refine V_bipush (by decide) dX6_restore_54 rfl ?_
    refine V_iload_n 1 rfl dX6_restore_56 rfl ?_
    refine V_iadd dX6_restore_57 rfl ?_
    obtain ⟨q6, h⟩ := h
    refine V_ialdn kY140 lI140 q6 dX6_restore_58 rfl ?_
    obtain ⟨q9, h⟩ := h
    refine V_iastn kY135 lI135 q9 dX6_restore_59 rfl (fun u7 e8 => ?_)
    have h := h u7 e8
    refine V_iinc 1 rfl (ls2 := [(0, RR 132), (1, II (v1 + 1))]) dX6_restore_60 rfl (by decide) rfl ?_
    refine V_goto (g := 38) dX6_restore_63 rfl ?_
    exact h
theorem eX6_isSheet {G : GG} {Q : Int → Mem → Prop} {t : Mem} {v0 : Int} (k : V G mX6_isSheet 0 [(0, II v0)] [] t Q) : Ex G mX6_isSheet [II v0] t Q := Ex.of plX6 (Or.inr (Or.inr rfl)) (Nat.le_of_ble_eq_true rfl) rfl k
set_option maxRecDepth 100000 in
theorem sgX6_isSheet_0 {G : GG} {Q : Int → Mem → Prop} {t : Mem} {v0 : Int}  (h : In32 v0 ∧ ∃ P2 : Int → Mem → Prop, Ex G mX6_in [JJ v0, JJ 0, JJ 3] t P2 ∧ ∀ (r4 : Int) (u5 : Mem), P2 r4 u5 → (r4 = 0 ∨ r4 = 1) ∧ Q r4 u5) : V G mX6_isSheet 0 [(0, II v0)] [] t Q := by
  refine V_iload_n 0 rfl dX6_isSheet_0 rfl ?_
  obtain ⟨q1, h⟩ := h
  refine V_i2l q1 dX6_isSheet_1 rfl ?_
  refine V_lconst (z := 0) rfl dX6_isSheet_2 rfl ?_
  refine V_ldc2 (x := 3) ctX6_70 rfl dX6_isSheet_3 rfl ?_
  obtain ⟨P2, c3, h⟩ := h
  refine V_callSi (st := []) (as := [JJ v0, JJ 0, JJ 3]) okX6_in rfl mlX6_51 (by decide) rfl (Nat.le_of_ble_eq_true rfl) rfl dX6_isSheet_6 rfl c3 (fun r4 u5 e6 => ?_)
  have h := h r4 u5 e6
  exact V_iret dX6_isSheet_9 (Or.inr ⟨rfl, h.1⟩) h.2
theorem eX6_isLane {G : GG} {Q : Int → Mem → Prop} {t : Mem} {v0 : Int} (k : V G mX6_isLane 0 [(0, II v0)] [] t Q) : Ex G mX6_isLane [II v0] t Q := Ex.of plX6 (Or.inr (Or.inr rfl)) (Nat.le_of_ble_eq_true rfl) rfl k
set_option maxRecDepth 100000 in
theorem sgX6_isLane_0 {G : GG} {Q : Int → Mem → Prop} {t : Mem} {v0 : Int}  (h : In32 v0 ∧ ∃ P2 : Int → Mem → Prop, Ex G mX6_in [JJ v0, JJ 0, JJ 3] t P2 ∧ ∀ (r4 : Int) (u5 : Mem), P2 r4 u5 → (r4 = 0 ∨ r4 = 1) ∧ Q r4 u5) : V G mX6_isLane 0 [(0, II v0)] [] t Q := by
  refine V_iload_n 0 rfl dX6_isLane_0 rfl ?_
  obtain ⟨q1, h⟩ := h
  refine V_i2l q1 dX6_isLane_1 rfl ?_
  refine V_lconst (z := 0) rfl dX6_isLane_2 rfl ?_
  refine V_ldc2 (x := 3) ctX6_70 rfl dX6_isLane_3 rfl ?_
  obtain ⟨P2, c3, h⟩ := h
  refine V_callSi (st := []) (as := [JJ v0, JJ 0, JJ 3]) okX6_in rfl mlX6_51 (by decide) rfl (Nat.le_of_ble_eq_true rfl) rfl dX6_isLane_6 rfl c3 (fun r4 u5 e6 => ?_)
  have h := h r4 u5 e6
  exact V_iret dX6_isLane_9 (Or.inr ⟨rfl, h.1⟩) h.2
theorem eX6_why {G : GG} {Q : Int → Mem → Prop} {t : Mem} {v1 v2 v3 v4 : Int} (k : V G mX6_why 0 [(0, RR 132), (1, II v1), (2, II v2), (3, II v3), (4, II v4)] [] t Q) : Ex G mX6_why [RR 132, II v1, II v2, II v3, II v4] t Q := Ex.of plX6 (Or.inr (Or.inl rfl)) (Nat.le_of_ble_eq_true rfl) rfl k
set_option maxRecDepth 100000 in
theorem sgX6_why_0 {G : GG} {Q : Int → Mem → Prop} {t : Mem} {v1 v2 v3 v4 : Int}  (h : (0 ≤ v1 ∧ v1 < 4) ∧ In32 (t 141 v1.toNat) ∧ (0 ≤ (t 141 v1.toNat) → In32 v2 ∧ ((t 141 v1.toNat) = v2 → In32 v3 ∧ (v3 < 0 → Q (-13) t) ∧ (¬ v3 < 0 → In32 v4 ∧ (v4 < 0 → Q (-13) t) ∧ (¬ v4 < 0 → In32 (t 142 v1.toNat) ∧ In64 (v3 + v4) ∧ Q (if (lCmp (v3 + v4) (t 142 v1.toNat)) ≤ 0 then 0 else (-13)) t))) ∧ (¬ (t 141 v1.toNat) = v2 → Q (-12) t)) ∧ (¬ 0 ≤ (t 141 v1.toNat) → Q (-11) t)) : V G mX6_why 0 [(0, RR 132), (1, II v1), (2, II v2), (3, II v3), (4, II v4)] [] t Q := by
  refine V_aload_n 0 rfl dX6_why_0 rfl ?_
  refine gX6_38 rfl kY132 rF132_16 dX6_why_1 rfl ?_
  refine V_iload_n 1 rfl dX6_why_4 rfl ?_
  obtain ⟨q1, h⟩ := h
  refine V_ialdn kY141 lI141 q1 dX6_why_5 rfl ?_
  obtain ⟨q2, h⟩ := h
  refine V_if_ge q2 dX6_why_6 (g := 12) rfl rfl ⟨fun hc => ?_, fun hc => ?_⟩
  · have h := h.1 hc
    refine V_aload_n 0 rfl dX6_why_12 rfl ?_
    refine gX6_38 rfl kY132 rF132_16 dX6_why_13 rfl ?_
    refine V_iload_n 1 rfl dX6_why_16 rfl ?_
    refine V_ialdn kY141 lI141 q1 dX6_why_17 rfl ?_
    refine V_iload_n 2 rfl dX6_why_18 rfl ?_
    obtain ⟨q3, h⟩ := h
    refine V_icmp_eq q2 q3 dX6_why_19 (g := 25) rfl rfl ⟨fun hc => ?_, fun hc => ?_⟩
    · have h := h.1 hc
      refine V_iload_n 3 rfl dX6_why_25 rfl ?_
      obtain ⟨q4, h⟩ := h
      refine V_if_lt q4 dX6_why_26 (g := 51) rfl rfl ⟨fun hc => ?_, fun hc => ?_⟩
      · have h := h.1 hc
        refine V_bipush (by decide) dX6_why_51 rfl ?_
        refine V_goto (g := 57) dX6_why_53 rfl ?_
        exact V_iret dX6_why_57 (Or.inl rfl) h
      · have h := h.2 hc
        refine V_iload 4 rfl dX6_why_29 rfl ?_
        obtain ⟨q5, h⟩ := h
        refine V_if_lt q5 dX6_why_31 (g := 51) rfl rfl ⟨fun hc => ?_, fun hc => ?_⟩
        · have h := h.1 hc
          refine V_bipush (by decide) dX6_why_51 rfl ?_
          refine V_goto (g := 57) dX6_why_53 rfl ?_
          exact V_iret dX6_why_57 (Or.inl rfl) h
        · have h := h.2 hc
          refine V_iload_n 3 rfl dX6_why_34 rfl ?_
          refine V_i2l q4 dX6_why_35 rfl ?_
          refine V_iload 4 rfl dX6_why_36 rfl ?_
          refine V_i2l q5 dX6_why_38 rfl ?_
          refine V_ladd dX6_why_39 rfl ?_
          refine V_aload_n 0 rfl dX6_why_40 rfl ?_
          refine gX6_41 rfl kY132 rF132_17 dX6_why_41 rfl ?_
          refine V_iload_n 1 rfl dX6_why_44 rfl ?_
          refine V_ialdn kY142 lI142 q1 dX6_why_45 rfl ?_
          obtain ⟨q6, h⟩ := h
          refine V_i2l q6 dX6_why_46 rfl ?_
          obtain ⟨q7, h⟩ := h
          refine V_lcmp q7 (j32 q6) dX6_why_47 rfl ?_
          have hj12 : V G mX6_why 57 [(0, RR 132), (1, II v1), (2, II v2), (3, II v3), (4, II v4)] [II (if (lCmp (v3 + v4) (t 142 v1.toNat)) ≤ 0 then 0 else (-13))] t Q := by
            exact V_iret dX6_why_57 (Or.inl rfl) h
          refine V_if_le (lCmp_in _ _) dX6_why_48 (g := 56) rfl rfl ⟨fun hc => ?_, fun hc => ?_⟩
          · skip
            refine V_iconst dX6_why_56 rfl ?_
            rw [if_pos hc] at hj12
            exact hj12
          · skip
            refine V_bipush (by decide) dX6_why_51 rfl ?_
            refine V_goto (g := 57) dX6_why_53 rfl ?_
            rw [if_neg hc] at hj12
            exact hj12
    · have h := h.2 hc
      refine V_bipush (by decide) dX6_why_22 rfl ?_
      exact V_iret dX6_why_24 (Or.inl rfl) h
  · have h := h.2 hc
    refine V_bipush (by decide) dX6_why_9 rfl ?_
    exact V_iret dX6_why_11 (Or.inl rfl) h
theorem eX6_buckets {G : GG} {Q : Int → Mem → Prop} {t : Mem} {v1 v2 v3 v4 : Int} (k : V G mX6_buckets 0 [(0, RR 132), (1, II v1), (2, II v2), (3, II v3), (4, II v4)] [] t Q) : Ex G mX6_buckets [RR 132, II v1, II v2, II v3, II v4] t Q := Ex.of plX6 (Or.inr (Or.inl rfl)) (Nat.le_of_ble_eq_true rfl) rfl k
set_option maxRecDepth 100000 in
theorem sgX6_buckets_0 {G : GG} {Q : Int → Mem → Prop} {t : Mem} {v1 v2 v3 v4 : Int}  (h : ∃ P1 : Int → Mem → Prop, Ex G mX6_isSheet [II v1] t P1 ∧ ∀ (r3 : Int) (u4 : Mem), P1 r3 u4 → In32 r3 ∧ (r3 = 0 → Q (-1) u4) ∧ (¬ r3 = 0 → ∃ P7 : Int → Mem → Prop, Ex G mX6_isLane [II v2] u4 P7 ∧ ∀ (r9 : Int) (u10 : Mem), P7 r9 u10 → In32 r9 ∧ (r9 = 0 → Q (-1) u10) ∧ (¬ r9 = 0 → In32 v4 ∧ ∃ P14 : Int → Mem → Prop, Ex G mX6_in [JJ v4, JJ 1, JJ 8] u10 P14 ∧ ∀ (r16 : Int) (u17 : Mem), P14 r16 u17 → In32 r16 ∧ (¬ r16 = 0 → ∃ P20 : Int → Mem → Prop, Ex G mX6_why [RR 132, II v1, II v2, II v3, II (2 * v4)] u17 P20 ∧ ∀ (r22 : Int) (u23 : Mem), P20 r22 u23 → In32 r22 ∧ (0 ≤ r22 → V G mX6_buckets 61 [(0, RR 132), (1, II v1), (2, II v2), (3, II v3), (4, II v4), (5, II r22), (6, II ((24 * v1) + v3)), (7, II 0)] [] u23 Q) ∧ (¬ 0 ≤ r22 → Q r22 u23)) ∧ (r16 = 0 → Q (-1) u17)))) : V G mX6_buckets 0 [(0, RR 132), (1, II v1), (2, II v2), (3, II v3), (4, II v4)] [] t Q := by
  refine V_iload_n 1 rfl dX6_buckets_0 rfl ?_
  obtain ⟨P1, c2, h⟩ := h
  refine V_callSi (st := []) (as := [II v1]) okX6_isSheet rfl mlX6_210 (by decide) rfl (Nat.le_of_ble_eq_true rfl) rfl dX6_buckets_1 rfl c2 (fun r3 u4 e5 => ?_)
  have h := h r3 u4 e5
  obtain ⟨q6, h⟩ := h
  refine V_if_eq q6 dX6_buckets_4 (g := 27) rfl rfl ⟨fun hc => ?_, fun hc => ?_⟩
  · have h := h.1 hc
    refine V_iconst dX6_buckets_27 rfl ?_
    exact V_iret dX6_buckets_28 (Or.inl rfl) h
  · have h := h.2 hc
    refine V_iload_n 2 rfl dX6_buckets_7 rfl ?_
    obtain ⟨P7, c8, h⟩ := h
    refine V_callSi (st := []) (as := [II v2]) okX6_isLane rfl mlX6_213 (by decide) rfl (Nat.le_of_ble_eq_true rfl) rfl dX6_buckets_8 rfl c8 (fun r9 u10 e11 => ?_)
    have h := h r9 u10 e11
    obtain ⟨q12, h⟩ := h
    refine V_if_eq q12 dX6_buckets_11 (g := 27) rfl rfl ⟨fun hc => ?_, fun hc => ?_⟩
    · have h := h.1 hc
      refine V_iconst dX6_buckets_27 rfl ?_
      exact V_iret dX6_buckets_28 (Or.inl rfl) h
    · have h := h.2 hc
      refine V_iload 4 rfl dX6_buckets_14 rfl ?_
      obtain ⟨q13, h⟩ := h
      refine V_i2l q13 dX6_buckets_16 rfl ?_
      refine V_lconst (z := 1) rfl dX6_buckets_17 rfl ?_
      refine V_ldc2 (x := 8) ctX6_80 rfl dX6_buckets_18 rfl ?_
      obtain ⟨P14, c15, h⟩ := h
      refine V_callSi (st := []) (as := [JJ v4, JJ 1, JJ 8]) okX6_in rfl mlX6_51 (by decide) rfl (Nat.le_of_ble_eq_true rfl) rfl dX6_buckets_21 rfl c15 (fun r16 u17 e18 => ?_)
      have h := h r16 u17 e18
      obtain ⟨q19, h⟩ := h
      refine V_if_ne q19 dX6_buckets_24 (g := 29) rfl rfl ⟨fun hc => ?_, fun hc => ?_⟩
      · have h := h.1 hc
        refine V_aload_n 0 rfl dX6_buckets_29 rfl ?_
        refine V_iload_n 1 rfl dX6_buckets_30 rfl ?_
        refine V_iload_n 2 rfl dX6_buckets_31 rfl ?_
        refine V_iload_n 3 rfl dX6_buckets_32 rfl ?_
        refine V_iconst dX6_buckets_33 rfl ?_
        refine V_iload 4 rfl dX6_buckets_34 rfl ?_
        refine V_imul dX6_buckets_36 rfl ?_
        obtain ⟨P20, c21, h⟩ := h
        refine V_callVi (st := []) (as := [II v1, II v2, II v3, II (2 * v4)]) okX6_why rfl mlX6_216 (by decide) kY132 rfl (Nat.le_of_ble_eq_true rfl) rfl dX6_buckets_37 rfl c21 (fun r22 u23 e24 => ?_)
        have h := h r22 u23 e24
        refine V_istore (ls2 := [(0, RR 132), (1, II v1), (2, II v2), (3, II v3), (4, II v4), (5, II r22)]) dX6_buckets_40 rfl (by decide) rfl ?_
        refine V_iload 5 rfl dX6_buckets_42 rfl ?_
        obtain ⟨q25, h⟩ := h
        refine V_if_ge q25 dX6_buckets_44 (g := 50) rfl rfl ⟨fun hc => ?_, fun hc => ?_⟩
        · have h := h.1 hc
          refine V_bipush (by decide) dX6_buckets_50 rfl ?_
          refine V_iload_n 1 rfl dX6_buckets_52 rfl ?_
          refine V_imul dX6_buckets_53 rfl ?_
          refine V_iload_n 3 rfl dX6_buckets_54 rfl ?_
          refine V_iadd dX6_buckets_55 rfl ?_
          refine V_istore (ls2 := [(0, RR 132), (1, II v1), (2, II v2), (3, II v3), (4, II v4), (5, II r22), (6, II ((24 * v1) + v3))]) dX6_buckets_56 rfl (by decide) rfl ?_
          refine V_iconst dX6_buckets_58 rfl ?_
          refine V_istore (ls2 := [(0, RR 132), (1, II v1), (2, II v2), (3, II v3), (4, II v4), (5, II r22), (6, II ((24 * v1) + v3)), (7, II 0)]) dX6_buckets_59 rfl (by decide) rfl ?_
          exact h
        · have h := h.2 hc
          refine V_iload 5 rfl dX6_buckets_47 rfl ?_
          exact V_iret dX6_buckets_49 (Or.inl rfl) h
      · have h := h.2 hc
        refine V_iconst dX6_buckets_27 rfl ?_
        exact V_iret dX6_buckets_28 (Or.inl rfl) h
set_option maxRecDepth 100000 in
theorem sgX6_buckets_61 {G : GG} {Q : Int → Mem → Prop} {t : Mem} {v1 v2 v3 v4 v5 v6 v7 : Int}  (h : In32 v7 ∧ In32 v4 ∧ (v4 ≤ v7 → ∃ P3 : Int → Mem → Prop, Ex G mX6_asides [RR 132] t P3 ∧ ∀ u6 : Mem, P3 0 u6 → V G mX6_buckets 133 [(0, RR 132), (1, II v1), (2, II v2), (3, II v3), (4, II v4), (5, II v5), (6, II v6), (7, II 0), (8, II 1)] [] u6 Q) ∧ (¬ v4 ≤ v7 → (0 ≤ v6 + (2 * v7) ∧ v6 + (2 * v7) < 96) ∧ ∃ P9 : Int → Mem → Prop, Ex G mX6_in [JJ (t 143 (v6 + (2 * v7)).toNat), JJ 0, JJ 240] t P9 ∧ ∀ (r11 : Int) (u12 : Mem), P9 r11 u12 → In32 r11 ∧ (r11 = 0 → Q (-2) u12) ∧ (¬ r11 = 0 → (0 ≤ (v6 + (2 * v7)) + 1 ∧ (v6 + (2 * v7)) + 1 < 96) ∧ ∃ P16 : Int → Mem → Prop, Ex G mX6_in [JJ (u12 143 ((v6 + (2 * v7)) + 1).toNat), JJ 0, JJ 60] u12 P16 ∧ ∀ (r18 : Int) (u19 : Mem), P16 r18 u19 → In32 r18 ∧ (¬ r18 = 0 → V G mX6_buckets 61 [(0, RR 132), (1, II v1), (2, II v2), (3, II v3), (4, II v4), (5, II v5), (6, II v6), (7, II (v7 + 1))] [] u19 Q) ∧ (r18 = 0 → Q (-2) u19)))) : V G mX6_buckets 61 [(0, RR 132), (1, II v1), (2, II v2), (3, II v3), (4, II v4), (5, II v5), (6, II v6), (7, II v7)] [] t Q := by
  refine V_iload 7 rfl dX6_buckets_61 rfl ?_
  refine V_iload 4 rfl dX6_buckets_63 rfl ?_
  obtain ⟨q1, h⟩ := h
  obtain ⟨q2, h⟩ := h
  refine V_icmp_ge q1 q2 dX6_buckets_65 (g := 123) rfl rfl ⟨fun hc => ?_, fun hc => ?_⟩
  · have h := h.1 hc
    refine V_aload_n 0 rfl dX6_buckets_123 rfl ?_
    obtain ⟨P3, c4, h⟩ := h
    refine V_callVv (st := []) (as := []) okX6_asides rfl mlX6_142 (by decide) kY132 rfl (Nat.le_of_ble_eq_true rfl) rfl dX6_buckets_124 rfl c4 (fun u6 e7 => ?_)
    have h := h u6 e7
    refine V_iconst dX6_buckets_127 rfl ?_
    refine V_istore (ls2 := [(0, RR 132), (1, II v1), (2, II v2), (3, II v3), (4, II v4), (5, II v5), (6, II v6), (7, II 0)]) dX6_buckets_128 rfl (by decide) rfl ?_
    refine V_iconst dX6_buckets_130 rfl ?_
    refine V_istore (ls2 := [(0, RR 132), (1, II v1), (2, II v2), (3, II v3), (4, II v4), (5, II v5), (6, II v6), (7, II 0), (8, II 1)]) dX6_buckets_131 rfl (by decide) rfl ?_
    exact h
  · have h := h.2 hc
    refine V_aload_n 0 rfl dX6_buckets_68 rfl ?_
    refine gX6_44 rfl kY132 rF132_18 dX6_buckets_69 rfl ?_
    refine V_iload 6 rfl dX6_buckets_72 rfl ?_
    refine V_iconst dX6_buckets_74 rfl ?_
    refine V_iload 7 rfl dX6_buckets_75 rfl ?_
    refine V_imul dX6_buckets_77 rfl ?_
    refine V_iadd dX6_buckets_78 rfl ?_
    obtain ⟨q8, h⟩ := h
    refine V_laldn kY143 lI143 q8 dX6_buckets_79 rfl ?_
    refine V_lconst (z := 0) rfl dX6_buckets_80 rfl ?_
    refine V_ldc2 (x := 240) ctX6_140 rfl dX6_buckets_81 rfl ?_
    obtain ⟨P9, c10, h⟩ := h
    refine V_callSi (st := []) (as := [JJ (t 143 (v6 + (2 * v7)).toNat), JJ 0, JJ 240]) okX6_in rfl mlX6_51 (by decide) rfl (Nat.le_of_ble_eq_true rfl) rfl dX6_buckets_84 rfl c10 (fun r11 u12 e13 => ?_)
    have h := h r11 u12 e13
    obtain ⟨q14, h⟩ := h
    refine V_if_eq q14 dX6_buckets_87 (g := 114) rfl rfl ⟨fun hc => ?_, fun hc => ?_⟩
    · have h := h.1 hc
      refine V_bipush (by decide) dX6_buckets_114 rfl ?_
      exact V_iret dX6_buckets_116 (Or.inl rfl) h
    · have h := h.2 hc
      refine V_aload_n 0 rfl dX6_buckets_90 rfl ?_
      refine gX6_44 rfl kY132 rF132_18 dX6_buckets_91 rfl ?_
      refine V_iload 6 rfl dX6_buckets_94 rfl ?_
      refine V_iconst dX6_buckets_96 rfl ?_
      refine V_iload 7 rfl dX6_buckets_97 rfl ?_
      refine V_imul dX6_buckets_99 rfl ?_
      refine V_iadd dX6_buckets_100 rfl ?_
      refine V_iconst dX6_buckets_101 rfl ?_
      refine V_iadd dX6_buckets_102 rfl ?_
      obtain ⟨q15, h⟩ := h
      refine V_laldn kY143 lI143 q15 dX6_buckets_103 rfl ?_
      refine V_lconst (z := 0) rfl dX6_buckets_104 rfl ?_
      refine V_ldc2 (x := 60) ctX6_128 rfl dX6_buckets_105 rfl ?_
      obtain ⟨P16, c17, h⟩ := h
      refine V_callSi (st := []) (as := [JJ (u12 143 ((v6 + (2 * v7)) + 1).toNat), JJ 0, JJ 60]) okX6_in rfl mlX6_51 (by decide) rfl (Nat.le_of_ble_eq_true rfl) rfl dX6_buckets_108 rfl c17 (fun r18 u19 e20 => ?_)
      have h := h r18 u19 e20
      obtain ⟨q21, h⟩ := h
      refine V_if_ne q21 dX6_buckets_111 (g := 117) rfl rfl ⟨fun hc => ?_, fun hc => ?_⟩
      · have h := h.1 hc
        refine V_iinc 7 rfl (ls2 := [(0, RR 132), (1, II v1), (2, II v2), (3, II v3), (4, II v4), (5, II v5), (6, II v6), (7, II (v7 + 1))]) dX6_buckets_117 rfl (by decide) rfl ?_
        refine V_goto (g := 61) dX6_buckets_120 rfl ?_
        exact h
      · have h := h.2 hc
        refine V_bipush (by decide) dX6_buckets_114 rfl ?_
        exact V_iret dX6_buckets_116 (Or.inl rfl) h
set_option maxRecDepth 100000 in
theorem sgX6_buckets_133 {G : GG} {Q : Int → Mem → Prop} {t : Mem} {v1 v2 v3 v4 v5 v6 v7 v8 : Int}  (h : In32 v8 ∧ (10 ≤ v8 → Q v7 t) ∧ (¬ 10 ≤ v8 → ∀ u2 : Mem, u2 = wr t 133 3 v8 → V G mX6_buckets 154 [(0, RR 132), (1, II v1), (2, II v2), (3, II v3), (4, II v4), (5, II v5), (6, II v6), (7, II v7), (8, II v8), (9, II 1), (10, II 0)] [] u2 Q)) : V G mX6_buckets 133 [(0, RR 132), (1, II v1), (2, II v2), (3, II v3), (4, II v4), (5, II v5), (6, II v6), (7, II v7), (8, II v8)] [] t Q := by
  refine V_iload 8 rfl dX6_buckets_133 rfl ?_
  refine V_bipush (by decide) dX6_buckets_135 rfl ?_
  obtain ⟨q1, h⟩ := h
  refine V_icmp_ge q1 (iL rfl) dX6_buckets_137 (g := 276) rfl rfl ⟨fun hc => ?_, fun hc => ?_⟩
  · have h := h.1 hc
    refine V_iload 7 rfl dX6_buckets_276 rfl ?_
    exact V_iret dX6_buckets_278 (Or.inl rfl) h
  · have h := h.2 hc
    refine V_aload_n 0 rfl dX6_buckets_140 rfl ?_
    refine gX6_7 rfl kY132 rF132_0 dX6_buckets_141 rfl ?_
    refine V_iconst dX6_buckets_144 rfl ?_
    refine V_iload 8 rfl dX6_buckets_145 rfl ?_
    refine V_iastL 3 rfl kY133 lI133 rfl dX6_buckets_147 rfl (fun u2 e3 => ?_)
    have h := h u2 e3
    refine V_iconst dX6_buckets_148 rfl ?_
    refine V_istore (ls2 := [(0, RR 132), (1, II v1), (2, II v2), (3, II v3), (4, II v4), (5, II v5), (6, II v6), (7, II v7), (8, II v8), (9, II 1)]) dX6_buckets_149 rfl (by decide) rfl ?_
    refine V_iconst dX6_buckets_151 rfl ?_
    refine V_istore (ls2 := [(0, RR 132), (1, II v1), (2, II v2), (3, II v3), (4, II v4), (5, II v5), (6, II v6), (7, II v7), (8, II v8), (9, II 1), (10, II 0)]) dX6_buckets_152 rfl (by decide) rfl ?_
    exact h
set_option maxRecDepth 100000 in
theorem sgX6_buckets_154 {G : GG} {Q : Int → Mem → Prop} {t : Mem} {v1 v2 v3 v4 v5 v6 v7 v8 v9 v10 : Int}  (h : In32 v10 ∧ (241 ≤ v10 → In32 v9 ∧ ∀ w3 : Int, w3 = (if v9 = 0 then 0 else iShl 1 v8) → ∃ P8 : Int → Mem → Prop, Ex G mX6_backs [RR 132] t P8 ∧ ∀ u11 : Mem, P8 0 u11 → V G mX6_buckets 133 [(0, RR 132), (1, II v1), (2, II v2), (3, II v3), (4, II v4), (5, II v5), (6, II v6), (7, II (iOr v7 w3)), (8, II (v8 + 1))] [] u11 Q) ∧ (¬ 241 ≤ v10 → V G mX6_buckets 165 [(0, RR 132), (1, II v1), (2, II v2), (3, II v3), (4, II v4), (5, II v5), (6, II v6), (7, II v7), (8, II v8), (9, II v9), (10, II v10), (11, II 0)] [] t Q)) : V G mX6_buckets 154 [(0, RR 132), (1, II v1), (2, II v2), (3, II v3), (4, II v4), (5, II v5), (6, II v6), (7, II v7), (8, II v8), (9, II v9), (10, II v10)] [] t Q := by
  refine V_iload 10 rfl dX6_buckets_154 rfl ?_
  refine V_sipush (by decide) dX6_buckets_156 rfl ?_
  obtain ⟨q1, h⟩ := h
  refine V_icmp_ge q1 (iL rfl) dX6_buckets_159 (g := 248) rfl rfl ⟨fun hc => ?_, fun hc => ?_⟩
  · have h := h.1 hc
    refine V_iload 7 rfl dX6_buckets_248 rfl ?_
    refine V_iload 9 rfl dX6_buckets_250 rfl ?_
    obtain ⟨q2, h⟩ := h
    have hj7 : ∀ w3 : Int, w3 = (if v9 = 0 then 0 else iShl 1 v8) → V G mX6_buckets 263 [(0, RR 132), (1, II v1), (2, II v2), (3, II v3), (4, II v4), (5, II v5), (6, II v6), (7, II v7), (8, II v8), (9, II v9), (10, II v10)] [II w3, II v7] t Q := by
      intro w3 e4
      have h := h w3 e4
      refine V_ior dX6_buckets_263 rfl ?_
      refine V_istore (ls2 := [(0, RR 132), (1, II v1), (2, II v2), (3, II v3), (4, II v4), (5, II v5), (6, II v6), (7, II (iOr v7 w3)), (8, II v8), (9, II v9), (10, II v10)]) dX6_buckets_264 rfl (by decide) rfl ?_
      refine V_aload_n 0 rfl dX6_buckets_266 rfl ?_
      obtain ⟨P8, c9, h⟩ := h
      refine V_callVv (st := []) (as := []) okX6_backs rfl mlX6_145 (by decide) kY132 rfl (Nat.le_of_ble_eq_true rfl) rfl dX6_buckets_267 rfl c9 (fun u11 e12 => ?_)
      have h := h u11 e12
      refine V_iinc 8 rfl (ls2 := [(0, RR 132), (1, II v1), (2, II v2), (3, II v3), (4, II v4), (5, II v5), (6, II v6), (7, II (iOr v7 w3)), (8, II (v8 + 1)), (9, II v9), (10, II v10)]) dX6_buckets_270 rfl (by decide) rfl ?_
      refine V_goto (g := 133) dX6_buckets_273 rfl ?_
      exact V_sub (by intro q hq; simp only [List.mem_cons, List.not_mem_nil, or_false] at hq ⊢; first | (rcases hq with rfl | rfl | rfl | rfl | rfl | rfl | rfl | rfl | rfl <;> simp)) h
    have hj7 := hj7 _ rfl
    refine V_if_eq q2 dX6_buckets_252 (g := 262) rfl rfl ⟨fun hc => ?_, fun hc => ?_⟩
    · skip
      refine V_iconst dX6_buckets_262 rfl ?_
      rw [if_pos hc] at hj7
      exact hj7
    · skip
      refine V_iconst dX6_buckets_255 rfl ?_
      refine V_iload 8 rfl dX6_buckets_256 rfl ?_
      refine V_ishl dX6_buckets_258 rfl ?_
      refine V_goto (g := 263) dX6_buckets_259 rfl ?_
      rw [if_neg hc] at hj7
      exact hj7
  · have h := h.2 hc
    refine V_iconst dX6_buckets_162 rfl ?_
    refine V_istore (ls2 := [(0, RR 132), (1, II v1), (2, II v2), (3, II v3), (4, II v4), (5, II v5), (6, II v6), (7, II v7), (8, II v8), (9, II v9), (10, II v10), (11, II 0)]) dX6_buckets_163 rfl (by decide) rfl ?_
    exact h
set_option maxRecDepth 100000 in
theorem sgX6_buckets_165 {G : GG} {Q : Int → Mem → Prop} {t : Mem} {v1 v2 v3 v4 v5 v6 v7 v8 v9 v10 v11 : Int}  (h : In32 v11 ∧ In32 v4 ∧ (v4 ≤ v11 → ∃ P3 : Int → Mem → Prop, Ex G mX6_goes [RR 132, II 0, II 127] t P3 ∧ ∀ (r5 : Int) (u6 : Mem), P3 r5 u6 → V G mX6_buckets 154 [(0, RR 132), (1, II v1), (2, II v2), (3, II v3), (4, II v4), (5, II v5), (6, II v6), (7, II v7), (8, II v8), (9, II v9), (10, II (v10 + 1))] [] u6 Q) ∧ (¬ v4 ≤ v11 → In32 v9 ∧ (v9 = 0 → V G mX6_buckets 165 [(0, RR 132), (1, II v1), (2, II v2), (3, II v3), (4, II v4), (5, II v5), (6, II v6), (7, II v7), (8, II v8), (9, II 0), (10, II v10), (11, II (v11 + 1))] [] t Q) ∧ (¬ v9 = 0 → (0 ≤ v6 + (2 * v11) ∧ v6 + (2 * v11) < 96) ∧ In32 v10 ∧ In64 (t 143 (v6 + (2 * v11)).toNat) ∧ (¬ (lCmp (t 143 (v6 + (2 * v11)).toNat) v10) = 0 → V G mX6_buckets 165 [(0, RR 132), (1, II v1), (2, II v2), (3, II v3), (4, II v4), (5, II v5), (6, II v6), (7, II v7), (8, II v8), (9, II 1), (10, II v10), (11, II (v11 + 1))] [] t Q) ∧ ((lCmp (t 143 (v6 + (2 * v11)).toNat) v10) = 0 → (0 ≤ (v6 + (2 * v11)) + 1 ∧ (v6 + (2 * v11)) + 1 < 96) ∧ In32 (t 133 0) ∧ In64 (t 143 ((v6 + (2 * v11)) + 1).toNat) ∧ V G mX6_buckets 165 [(0, RR 132), (1, II v1), (2, II v2), (3, II v3), (4, II v4), (5, II v5), (6, II v6), (7, II v7), (8, II v8), (9, II (if (lCmp (t 143 ((v6 + (2 * v11)) + 1).toNat) (t 133 0)) = 0 then 1 else 0)), (10, II v10), (11, II (v11 + 1))] [] t Q)))) : V G mX6_buckets 165 [(0, RR 132), (1, II v1), (2, II v2), (3, II v3), (4, II v4), (5, II v5), (6, II v6), (7, II v7), (8, II v8), (9, II v9), (10, II v10), (11, II v11)] [] t Q := by
  refine V_iload 11 rfl dX6_buckets_165 rfl ?_
  refine V_iload 4 rfl dX6_buckets_167 rfl ?_
  obtain ⟨q1, h⟩ := h
  obtain ⟨q2, h⟩ := h
  refine V_icmp_ge q1 q2 dX6_buckets_169 (g := 234) rfl rfl ⟨fun hc => ?_, fun hc => ?_⟩
  · have h := h.1 hc
    refine V_aload_n 0 rfl dX6_buckets_234 rfl ?_
    refine V_iconst dX6_buckets_235 rfl ?_
    refine V_bipush (by decide) dX6_buckets_236 rfl ?_
    obtain ⟨P3, c4, h⟩ := h
    refine V_callVi (st := []) (as := [II 0, II 127]) okX6_goes rfl mlX6_124 (by decide) kY132 rfl (Nat.le_of_ble_eq_true rfl) rfl dX6_buckets_238 rfl c4 (fun r5 u6 e7 => ?_)
    have h := h r5 u6 e7
    refine V_pop rfl dX6_buckets_241 rfl ?_
    refine V_iinc 10 rfl (ls2 := [(0, RR 132), (1, II v1), (2, II v2), (3, II v3), (4, II v4), (5, II v5), (6, II v6), (7, II v7), (8, II v8), (9, II v9), (10, II (v10 + 1)), (11, II v11)]) dX6_buckets_242 rfl (by decide) rfl ?_
    refine V_goto (g := 154) dX6_buckets_245 rfl ?_
    exact V_sub (by intro q hq; simp only [List.mem_cons, List.not_mem_nil, or_false] at hq ⊢; first | (rcases hq with rfl | rfl | rfl | rfl | rfl | rfl | rfl | rfl | rfl | rfl | rfl <;> simp)) h
  · have h := h.2 hc
    refine V_iload 9 rfl dX6_buckets_172 rfl ?_
    obtain ⟨q8, h⟩ := h
    refine V_if_eq q8 dX6_buckets_174 (g := 225) rfl rfl ⟨fun hc => ?_, fun hc => ?_⟩
    · have h := h.1 hc
      refine V_iconst dX6_buckets_225 rfl ?_
      refine V_istore (ls2 := [(0, RR 132), (1, II v1), (2, II v2), (3, II v3), (4, II v4), (5, II v5), (6, II v6), (7, II v7), (8, II v8), (9, II 0), (10, II v10), (11, II v11)]) dX6_buckets_226 rfl (by decide) rfl ?_
      refine V_iinc 11 rfl (ls2 := [(0, RR 132), (1, II v1), (2, II v2), (3, II v3), (4, II v4), (5, II v5), (6, II v6), (7, II v7), (8, II v8), (9, II 0), (10, II v10), (11, II (v11 + 1))]) dX6_buckets_228 rfl (by decide) rfl ?_
      refine V_goto (g := 165) dX6_buckets_231 rfl ?_
      exact h
    · have h := h.2 hc
      refine V_aload_n 0 rfl dX6_buckets_177 rfl ?_
      refine gX6_44 rfl kY132 rF132_18 dX6_buckets_178 rfl ?_
      refine V_iload 6 rfl dX6_buckets_181 rfl ?_
      refine V_iconst dX6_buckets_183 rfl ?_
      refine V_iload 11 rfl dX6_buckets_184 rfl ?_
      refine V_imul dX6_buckets_186 rfl ?_
      refine V_iadd dX6_buckets_187 rfl ?_
      obtain ⟨q9, h⟩ := h
      refine V_laldn kY143 lI143 q9 dX6_buckets_188 rfl ?_
      refine V_iload 10 rfl dX6_buckets_189 rfl ?_
      obtain ⟨q10, h⟩ := h
      refine V_i2l q10 dX6_buckets_191 rfl ?_
      obtain ⟨q11, h⟩ := h
      refine V_lcmp q11 (j32 q10) dX6_buckets_192 rfl ?_
      refine V_if_ne (lCmp_in _ _) dX6_buckets_193 (g := 221) rfl rfl ⟨fun hc => ?_, fun hc => ?_⟩
      · have h := h.1 hc
        refine V_iconst dX6_buckets_221 rfl ?_
        refine V_goto (g := 226) dX6_buckets_222 rfl ?_
        refine V_istore (ls2 := [(0, RR 132), (1, II v1), (2, II v2), (3, II v3), (4, II v4), (5, II v5), (6, II v6), (7, II v7), (8, II v8), (9, II 1), (10, II v10), (11, II v11)]) dX6_buckets_226 rfl (by decide) rfl ?_
        refine V_iinc 11 rfl (ls2 := [(0, RR 132), (1, II v1), (2, II v2), (3, II v3), (4, II v4), (5, II v5), (6, II v6), (7, II v7), (8, II v8), (9, II 1), (10, II v10), (11, II (v11 + 1))]) dX6_buckets_228 rfl (by decide) rfl ?_
        refine V_goto (g := 165) dX6_buckets_231 rfl ?_
        exact h
      · have h := h.2 hc
        refine V_aload_n 0 rfl dX6_buckets_196 rfl ?_
        refine gX6_44 rfl kY132 rF132_18 dX6_buckets_197 rfl ?_
        refine V_iload 6 rfl dX6_buckets_200 rfl ?_
        refine V_iconst dX6_buckets_202 rfl ?_
        refine V_iload 11 rfl dX6_buckets_203 rfl ?_
        refine V_imul dX6_buckets_205 rfl ?_
        refine V_iadd dX6_buckets_206 rfl ?_
        refine V_iconst dX6_buckets_207 rfl ?_
        refine V_iadd dX6_buckets_208 rfl ?_
        obtain ⟨q12, h⟩ := h
        refine V_laldn kY143 lI143 q12 dX6_buckets_209 rfl ?_
        refine V_aload_n 0 rfl dX6_buckets_210 rfl ?_
        refine gX6_7 rfl kY132 rF132_0 dX6_buckets_211 rfl ?_
        refine V_iconst dX6_buckets_214 rfl ?_
        refine V_ialdL 0 rfl kY133 lI133 rfl dX6_buckets_215 rfl ?_
        obtain ⟨q13, h⟩ := h
        refine V_i2l q13 dX6_buckets_216 rfl ?_
        obtain ⟨q14, h⟩ := h
        refine V_lcmp q14 (j32 q13) dX6_buckets_217 rfl ?_
        have hj19 : V G mX6_buckets 226 [(0, RR 132), (1, II v1), (2, II v2), (3, II v3), (4, II v4), (5, II v5), (6, II v6), (7, II v7), (8, II v8), (9, II v9), (10, II v10), (11, II v11)] [II (if (lCmp (t 143 ((v6 + (2 * v11)) + 1).toNat) (t 133 0)) = 0 then 1 else 0)] t Q := by
          refine V_istore (ls2 := [(0, RR 132), (1, II v1), (2, II v2), (3, II v3), (4, II v4), (5, II v5), (6, II v6), (7, II v7), (8, II v8), (9, II (if (lCmp (t 143 ((v6 + (2 * v11)) + 1).toNat) (t 133 0)) = 0 then 1 else 0)), (10, II v10), (11, II v11)]) dX6_buckets_226 rfl (by decide) rfl ?_
          refine V_iinc 11 rfl (ls2 := [(0, RR 132), (1, II v1), (2, II v2), (3, II v3), (4, II v4), (5, II v5), (6, II v6), (7, II v7), (8, II v8), (9, II (if (lCmp (t 143 ((v6 + (2 * v11)) + 1).toNat) (t 133 0)) = 0 then 1 else 0)), (10, II v10), (11, II (v11 + 1))]) dX6_buckets_228 rfl (by decide) rfl ?_
          refine V_goto (g := 165) dX6_buckets_231 rfl ?_
          exact h
        refine V_if_ne (lCmp_in _ _) dX6_buckets_218 (g := 225) rfl rfl ⟨fun hc => ?_, fun hc => ?_⟩
        · skip
          refine V_iconst dX6_buckets_225 rfl ?_
          rw [if_neg hc] at hj19
          exact hj19
        · skip
          refine V_iconst dX6_buckets_221 rfl ?_
          refine V_goto (g := 226) dX6_buckets_222 rfl ?_
          rw [if_pos hc] at hj19
          exact hj19
theorem eX6_film {G : GG} {Q : Int → Mem → Prop} {t : Mem} {v1 v2 v3 v4 : Int} (k : V G mX6_film 0 [(0, RR 132), (1, II v1), (2, II v2), (3, II v3), (4, II v4)] [] t Q) : Ex G mX6_film [RR 132, II v1, II v2, II v3, II v4] t Q := Ex.of plX6 (Or.inr (Or.inl rfl)) (Nat.le_of_ble_eq_true rfl) rfl k
set_option maxRecDepth 100000 in
theorem sgX6_film_0 {G : GG} {Q : Int → Mem → Prop} {t : Mem} {v1 v2 v3 v4 : Int}  (h : In32 v1 ∧ ∃ P2 : Int → Mem → Prop, Ex G mX6_in [JJ v1, JJ 1, JJ 24] t P2 ∧ ∀ (r4 : Int) (u5 : Mem), P2 r4 u5 → In32 r4 ∧ (r4 = 0 → Q (-1) u5) ∧ (¬ r4 = 0 → ∃ P8 : Int → Mem → Prop, Ex G mX6_isSheet [II v2] u5 P8 ∧ ∀ (r10 : Int) (u11 : Mem), P8 r10 u11 → In32 r10 ∧ (r10 = 0 → Q (-1) u11) ∧ (¬ r10 = 0 → ∃ P14 : Int → Mem → Prop, Ex G mX6_isLane [II v3] u11 P14 ∧ ∀ (r16 : Int) (u17 : Mem), P14 r16 u17 → In32 r16 ∧ (¬ r16 = 0 → ∃ P20 : Int → Mem → Prop, Ex G mX6_why [RR 132, II v2, II v3, II v4, II v1] u17 P20 ∧ ∀ (r22 : Int) (u23 : Mem), P20 r22 u23 → In32 r22 ∧ (0 ≤ r22 → ∃ P26 : Int → Mem → Prop, Ex G mX6_asides [RR 132] u23 P26 ∧ ∀ u29 : Mem, P26 0 u29 → V G mX6_film 54 [(0, RR 132), (1, II v1), (2, II v2), (3, II v3), (4, II v4), (5, II r22), (6, II 0)] [] u29 Q) ∧ (¬ 0 ≤ r22 → Q r22 u23)) ∧ (r16 = 0 → Q (-1) u17)))) : V G mX6_film 0 [(0, RR 132), (1, II v1), (2, II v2), (3, II v3), (4, II v4)] [] t Q := by
  refine V_iload_n 1 rfl dX6_film_0 rfl ?_
  obtain ⟨q1, h⟩ := h
  refine V_i2l q1 dX6_film_1 rfl ?_
  refine V_lconst (z := 1) rfl dX6_film_2 rfl ?_
  refine V_ldc2 (x := 24) ctX6_220 rfl dX6_film_3 rfl ?_
  obtain ⟨P2, c3, h⟩ := h
  refine V_callSi (st := []) (as := [JJ v1, JJ 1, JJ 24]) okX6_in rfl mlX6_51 (by decide) rfl (Nat.le_of_ble_eq_true rfl) rfl dX6_film_6 rfl c3 (fun r4 u5 e6 => ?_)
  have h := h r4 u5 e6
  obtain ⟨q7, h⟩ := h
  refine V_if_eq q7 dX6_film_9 (g := 26) rfl rfl ⟨fun hc => ?_, fun hc => ?_⟩
  · have h := h.1 hc
    refine V_iconst dX6_film_26 rfl ?_
    exact V_iret dX6_film_27 (Or.inl rfl) h
  · have h := h.2 hc
    refine V_iload_n 2 rfl dX6_film_12 rfl ?_
    obtain ⟨P8, c9, h⟩ := h
    refine V_callSi (st := []) (as := [II v2]) okX6_isSheet rfl mlX6_210 (by decide) rfl (Nat.le_of_ble_eq_true rfl) rfl dX6_film_13 rfl c9 (fun r10 u11 e12 => ?_)
    have h := h r10 u11 e12
    obtain ⟨q13, h⟩ := h
    refine V_if_eq q13 dX6_film_16 (g := 26) rfl rfl ⟨fun hc => ?_, fun hc => ?_⟩
    · have h := h.1 hc
      refine V_iconst dX6_film_26 rfl ?_
      exact V_iret dX6_film_27 (Or.inl rfl) h
    · have h := h.2 hc
      refine V_iload_n 3 rfl dX6_film_19 rfl ?_
      obtain ⟨P14, c15, h⟩ := h
      refine V_callSi (st := []) (as := [II v3]) okX6_isLane rfl mlX6_213 (by decide) rfl (Nat.le_of_ble_eq_true rfl) rfl dX6_film_20 rfl c15 (fun r16 u17 e18 => ?_)
      have h := h r16 u17 e18
      obtain ⟨q19, h⟩ := h
      refine V_if_ne q19 dX6_film_23 (g := 28) rfl rfl ⟨fun hc => ?_, fun hc => ?_⟩
      · have h := h.1 hc
        refine V_aload_n 0 rfl dX6_film_28 rfl ?_
        refine V_iload_n 2 rfl dX6_film_29 rfl ?_
        refine V_iload_n 3 rfl dX6_film_30 rfl ?_
        refine V_iload 4 rfl dX6_film_31 rfl ?_
        refine V_iload_n 1 rfl dX6_film_33 rfl ?_
        obtain ⟨P20, c21, h⟩ := h
        refine V_callVi (st := []) (as := [II v2, II v3, II v4, II v1]) okX6_why rfl mlX6_216 (by decide) kY132 rfl (Nat.le_of_ble_eq_true rfl) rfl dX6_film_34 rfl c21 (fun r22 u23 e24 => ?_)
        have h := h r22 u23 e24
        refine V_istore (ls2 := [(0, RR 132), (1, II v1), (2, II v2), (3, II v3), (4, II v4), (5, II r22)]) dX6_film_37 rfl (by decide) rfl ?_
        refine V_iload 5 rfl dX6_film_39 rfl ?_
        obtain ⟨q25, h⟩ := h
        refine V_if_ge q25 dX6_film_41 (g := 47) rfl rfl ⟨fun hc => ?_, fun hc => ?_⟩
        · have h := h.1 hc
          refine V_aload_n 0 rfl dX6_film_47 rfl ?_
          obtain ⟨P26, c27, h⟩ := h
          refine V_callVv (st := []) (as := []) okX6_asides rfl mlX6_142 (by decide) kY132 rfl (Nat.le_of_ble_eq_true rfl) rfl dX6_film_48 rfl c27 (fun u29 e30 => ?_)
          have h := h u29 e30
          refine V_iconst dX6_film_51 rfl ?_
          refine V_istore (ls2 := [(0, RR 132), (1, II v1), (2, II v2), (3, II v3), (4, II v4), (5, II r22), (6, II 0)]) dX6_film_52 rfl (by decide) rfl ?_
          exact h
        · have h := h.2 hc
          refine V_iload 5 rfl dX6_film_44 rfl ?_
          exact V_iret dX6_film_46 (Or.inl rfl) h
      · have h := h.2 hc
        refine V_iconst dX6_film_26 rfl ?_
        exact V_iret dX6_film_27 (Or.inl rfl) h
set_option maxRecDepth 100000 in
theorem sgX6_film_54 {G : GG} {Q : Int → Mem → Prop} {t : Mem} {v1 v2 v3 v4 v5 v6 : Int}  (h : In32 v6 ∧ In32 v1 ∧ (v1 ≤ v6 → ∃ P3 : Int → Mem → Prop, Ex G mX6_backs [RR 132] t P3 ∧ ∀ u6 : Mem, P3 0 u6 → Q v1 u6) ∧ (¬ v1 ≤ v6 → ∃ P8 : Int → Mem → Prop, Ex G mX6_goes [RR 132, II 0, II 127] t P8 ∧ ∀ (r10 : Int) (u11 : Mem), P8 r10 u11 → In32 (u11 133 0) ∧ (0 ≤ ((24 * v2) + v4) + v6 ∧ ((24 * v2) + v4) + v6 < 96) ∧ ∀ u14 : Mem, u14 = wr u11 143 (((24 * v2) + v4) + v6).toNat (u11 133 0) → V G mX6_film 54 [(0, RR 132), (1, II v1), (2, II v2), (3, II v3), (4, II v4), (5, II v5), (6, II (v6 + 1))] [] u14 Q)) : V G mX6_film 54 [(0, RR 132), (1, II v1), (2, II v2), (3, II v3), (4, II v4), (5, II v5), (6, II v6)] [] t Q := by
  refine V_iload 6 rfl dX6_film_54 rfl ?_
  refine V_iload_n 1 rfl dX6_film_56 rfl ?_
  obtain ⟨q1, h⟩ := h
  obtain ⟨q2, h⟩ := h
  refine V_icmp_ge q1 q2 dX6_film_57 (g := 96) rfl rfl ⟨fun hc => ?_, fun hc => ?_⟩
  · have h := h.1 hc
    refine V_aload_n 0 rfl dX6_film_96 rfl ?_
    obtain ⟨P3, c4, h⟩ := h
    refine V_callVv (st := []) (as := []) okX6_backs rfl mlX6_145 (by decide) kY132 rfl (Nat.le_of_ble_eq_true rfl) rfl dX6_film_97 rfl c4 (fun u6 e7 => ?_)
    have h := h u6 e7
    refine V_iload_n 1 rfl dX6_film_100 rfl ?_
    exact V_iret dX6_film_101 (Or.inl rfl) h
  · have h := h.2 hc
    refine V_aload_n 0 rfl dX6_film_60 rfl ?_
    refine V_iconst dX6_film_61 rfl ?_
    refine V_bipush (by decide) dX6_film_62 rfl ?_
    obtain ⟨P8, c9, h⟩ := h
    refine V_callVi (st := []) (as := [II 0, II 127]) okX6_goes rfl mlX6_124 (by decide) kY132 rfl (Nat.le_of_ble_eq_true rfl) rfl dX6_film_64 rfl c9 (fun r10 u11 e12 => ?_)
    have h := h r10 u11 e12
    refine V_pop rfl dX6_film_67 rfl ?_
    refine V_aload_n 0 rfl dX6_film_68 rfl ?_
    refine gX6_44 rfl kY132 rF132_18 dX6_film_69 rfl ?_
    refine V_bipush (by decide) dX6_film_72 rfl ?_
    refine V_iload_n 2 rfl dX6_film_74 rfl ?_
    refine V_imul dX6_film_75 rfl ?_
    refine V_iload 4 rfl dX6_film_76 rfl ?_
    refine V_iadd dX6_film_78 rfl ?_
    refine V_iload 6 rfl dX6_film_79 rfl ?_
    refine V_iadd dX6_film_81 rfl ?_
    refine V_aload_n 0 rfl dX6_film_82 rfl ?_
    refine gX6_7 rfl kY132 rF132_0 dX6_film_83 rfl ?_
    refine V_iconst dX6_film_86 rfl ?_
    refine V_ialdL 0 rfl kY133 lI133 rfl dX6_film_87 rfl ?_
    obtain ⟨q13, h⟩ := h
    refine V_i2l q13 dX6_film_88 rfl ?_
    obtain ⟨q16, h⟩ := h
    refine V_lastn kY143 lI143 q16 dX6_film_89 rfl (fun u14 e15 => ?_)
    have h := h u14 e15
    refine V_iinc 6 rfl (ls2 := [(0, RR 132), (1, II v1), (2, II v2), (3, II v3), (4, II v4), (5, II v5), (6, II (v6 + 1))]) dX6_film_90 rfl (by decide) rfl ?_
    refine V_goto (g := 54) dX6_film_93 rfl ?_
    exact h
theorem eX6_sheet {G : GG} {Q : Int → Mem → Prop} {t : Mem} {v1 v2 v3 : Int} (k : V G mX6_sheet 0 [(0, RR 132), (1, II v1), (2, II v2), (3, II v3)] [] t Q) : Ex G mX6_sheet [RR 132, II v1, II v2, II v3] t Q := Ex.of plX6 (Or.inr (Or.inl rfl)) (Nat.le_of_ble_eq_true rfl) rfl k
set_option maxRecDepth 100000 in
theorem sgX6_sheet_0 {G : GG} {Q : Int → Mem → Prop} {t : Mem} {v1 v2 v3 : Int}  (h : ∃ P1 : Int → Mem → Prop, Ex G mX6_isSheet [II v1] t P1 ∧ ∀ (r3 : Int) (u4 : Mem), P1 r3 u4 → In32 r3 ∧ (r3 = 0 → Q (-1) u4) ∧ (¬ r3 = 0 → ∃ P7 : Int → Mem → Prop, Ex G mX6_isLane [II v2] u4 P7 ∧ ∀ (r9 : Int) (u10 : Mem), P7 r9 u10 → In32 r9 ∧ (r9 = 0 → Q (-1) u10) ∧ (¬ r9 = 0 → In32 v3 ∧ (v3 ≤ 24 → (0 ≤ v3 → (0 ≤ v1 ∧ v1 < 4) ∧ ∀ u14 : Mem, u14 = wr u10 141 v1.toNat v2 → ∀ u17 : Mem, u17 = wr u14 142 v1.toNat v3 → V G mX6_sheet 46 [(0, RR 132), (1, II v1), (2, II v2), (3, II v3), (4, II 0)] [] u17 Q) ∧ (¬ 0 ≤ v3 → Q (-14) u10)) ∧ (¬ v3 ≤ 24 → Q (-1) u10)))) : V G mX6_sheet 0 [(0, RR 132), (1, II v1), (2, II v2), (3, II v3)] [] t Q := by
  refine V_iload_n 1 rfl dX6_sheet_0 rfl ?_
  obtain ⟨P1, c2, h⟩ := h
  refine V_callSi (st := []) (as := [II v1]) okX6_isSheet rfl mlX6_210 (by decide) rfl (Nat.le_of_ble_eq_true rfl) rfl dX6_sheet_1 rfl c2 (fun r3 u4 e5 => ?_)
  have h := h r3 u4 e5
  obtain ⟨q6, h⟩ := h
  refine V_if_eq q6 dX6_sheet_4 (g := 20) rfl rfl ⟨fun hc => ?_, fun hc => ?_⟩
  · have h := h.1 hc
    refine V_iconst dX6_sheet_20 rfl ?_
    exact V_iret dX6_sheet_21 (Or.inl rfl) h
  · have h := h.2 hc
    refine V_iload_n 2 rfl dX6_sheet_7 rfl ?_
    obtain ⟨P7, c8, h⟩ := h
    refine V_callSi (st := []) (as := [II v2]) okX6_isLane rfl mlX6_213 (by decide) rfl (Nat.le_of_ble_eq_true rfl) rfl dX6_sheet_8 rfl c8 (fun r9 u10 e11 => ?_)
    have h := h r9 u10 e11
    obtain ⟨q12, h⟩ := h
    refine V_if_eq q12 dX6_sheet_11 (g := 20) rfl rfl ⟨fun hc => ?_, fun hc => ?_⟩
    · have h := h.1 hc
      refine V_iconst dX6_sheet_20 rfl ?_
      exact V_iret dX6_sheet_21 (Or.inl rfl) h
    · have h := h.2 hc
      refine V_iload_n 3 rfl dX6_sheet_14 rfl ?_
      refine V_bipush (by decide) dX6_sheet_15 rfl ?_
      obtain ⟨q13, h⟩ := h
      refine V_icmp_le q13 (iL rfl) dX6_sheet_17 (g := 22) rfl rfl ⟨fun hc => ?_, fun hc => ?_⟩
      · have h := h.1 hc
        refine V_iload_n 3 rfl dX6_sheet_22 rfl ?_
        refine V_if_ge q13 dX6_sheet_23 (g := 29) rfl rfl ⟨fun hc => ?_, fun hc => ?_⟩
        · have h := h.1 hc
          refine V_aload_n 0 rfl dX6_sheet_29 rfl ?_
          refine gX6_38 rfl kY132 rF132_16 dX6_sheet_30 rfl ?_
          refine V_iload_n 1 rfl dX6_sheet_33 rfl ?_
          refine V_iload_n 2 rfl dX6_sheet_34 rfl ?_
          obtain ⟨q16, h⟩ := h
          refine V_iastn kY141 lI141 q16 dX6_sheet_35 rfl (fun u14 e15 => ?_)
          have h := h u14 e15
          refine V_aload_n 0 rfl dX6_sheet_36 rfl ?_
          refine gX6_41 rfl kY132 rF132_17 dX6_sheet_37 rfl ?_
          refine V_iload_n 1 rfl dX6_sheet_40 rfl ?_
          refine V_iload_n 3 rfl dX6_sheet_41 rfl ?_
          refine V_iastn kY142 lI142 q16 dX6_sheet_42 rfl (fun u17 e18 => ?_)
          have h := h u17 e18
          refine V_iconst dX6_sheet_43 rfl ?_
          refine V_istore (ls2 := [(0, RR 132), (1, II v1), (2, II v2), (3, II v3), (4, II 0)]) dX6_sheet_44 rfl (by decide) rfl ?_
          exact h
        · have h := h.2 hc
          refine V_bipush (by decide) dX6_sheet_26 rfl ?_
          exact V_iret dX6_sheet_28 (Or.inl rfl) h
      · have h := h.2 hc
        refine V_iconst dX6_sheet_20 rfl ?_
        exact V_iret dX6_sheet_21 (Or.inl rfl) h
set_option maxRecDepth 100000 in
theorem sgX6_sheet_46 {G : GG} {Q : Int → Mem → Prop} {t : Mem} {v1 v2 v3 v4 : Int}  (h : In32 v4 ∧ (24 ≤ v4 → Q v3 t) ∧ (¬ 24 ≤ v4 → (0 ≤ (24 * v1) + v4 ∧ (24 * v1) + v4 < 96) ∧ ∀ u2 : Mem, u2 = wr t 143 ((24 * v1) + v4).toNat 0 → V G mX6_sheet 46 [(0, RR 132), (1, II v1), (2, II v2), (3, II v3), (4, II (v4 + 1))] [] u2 Q)) : V G mX6_sheet 46 [(0, RR 132), (1, II v1), (2, II v2), (3, II v3), (4, II v4)] [] t Q := by
  refine V_iload 4 rfl dX6_sheet_46 rfl ?_
  refine V_bipush (by decide) dX6_sheet_48 rfl ?_
  obtain ⟨q1, h⟩ := h
  refine V_icmp_ge q1 (iL rfl) dX6_sheet_50 (g := 72) rfl rfl ⟨fun hc => ?_, fun hc => ?_⟩
  · have h := h.1 hc
    refine V_iload_n 3 rfl dX6_sheet_72 rfl ?_
    exact V_iret dX6_sheet_73 (Or.inl rfl) h
  · have h := h.2 hc
    refine V_aload_n 0 rfl dX6_sheet_53 rfl ?_
    refine gX6_44 rfl kY132 rF132_18 dX6_sheet_54 rfl ?_
    refine V_bipush (by decide) dX6_sheet_57 rfl ?_
    refine V_iload_n 1 rfl dX6_sheet_59 rfl ?_
    refine V_imul dX6_sheet_60 rfl ?_
    refine V_iload 4 rfl dX6_sheet_61 rfl ?_
    refine V_iadd dX6_sheet_63 rfl ?_
    refine V_lconst (z := 0) rfl dX6_sheet_64 rfl ?_
    obtain ⟨q4, h⟩ := h
    refine V_lastn kY143 lI143 q4 dX6_sheet_65 rfl (fun u2 e3 => ?_)
    have h := h u2 e3
    refine V_iinc 4 rfl (ls2 := [(0, RR 132), (1, II v1), (2, II v2), (3, II v3), (4, II (v4 + 1))]) dX6_sheet_66 rfl (by decide) rfl ?_
    refine V_goto (g := 46) dX6_sheet_69 rfl ?_
    exact h
theorem eX6_drop {G : GG} {Q : Int → Mem → Prop} {t : Mem} {v1 : Int} (k : V G mX6_drop 0 [(0, RR 132), (1, II v1)] [] t Q) : Ex G mX6_drop [RR 132, II v1] t Q := Ex.of plX6 (Or.inr (Or.inl rfl)) (Nat.le_of_ble_eq_true rfl) rfl k
set_option maxRecDepth 100000 in
theorem sgX6_drop_0 {G : GG} {Q : Int → Mem → Prop} {t : Mem} {v1 : Int}  (h : ∃ P1 : Int → Mem → Prop, Ex G mX6_isSheet [II v1] t P1 ∧ ∀ (r3 : Int) (u4 : Mem), P1 r3 u4 → In32 r3 ∧ (¬ r3 = 0 → (0 ≤ v1 ∧ v1 < 4) ∧ In32 (u4 141 v1.toNat) ∧ (0 ≤ (u4 141 v1.toNat) → ∀ u9 : Mem, u9 = wr u4 141 v1.toNat (-1) → Q (u9 142 v1.toNat) u9) ∧ (¬ 0 ≤ (u4 141 v1.toNat) → Q (-11) u4)) ∧ (r3 = 0 → Q (-1) u4)) : V G mX6_drop 0 [(0, RR 132), (1, II v1)] [] t Q := by
  refine V_iload_n 1 rfl dX6_drop_0 rfl ?_
  obtain ⟨P1, c2, h⟩ := h
  refine V_callSi (st := []) (as := [II v1]) okX6_isSheet rfl mlX6_210 (by decide) rfl (Nat.le_of_ble_eq_true rfl) rfl dX6_drop_1 rfl c2 (fun r3 u4 e5 => ?_)
  have h := h r3 u4 e5
  obtain ⟨q6, h⟩ := h
  refine V_if_ne q6 dX6_drop_4 (g := 9) rfl rfl ⟨fun hc => ?_, fun hc => ?_⟩
  · have h := h.1 hc
    refine V_aload_n 0 rfl dX6_drop_9 rfl ?_
    refine gX6_38 rfl kY132 rF132_16 dX6_drop_10 rfl ?_
    refine V_iload_n 1 rfl dX6_drop_13 rfl ?_
    obtain ⟨q7, h⟩ := h
    refine V_ialdn kY141 lI141 q7 dX6_drop_14 rfl ?_
    obtain ⟨q8, h⟩ := h
    refine V_if_ge q8 dX6_drop_15 (g := 21) rfl rfl ⟨fun hc => ?_, fun hc => ?_⟩
    · have h := h.1 hc
      refine V_aload_n 0 rfl dX6_drop_21 rfl ?_
      refine gX6_38 rfl kY132 rF132_16 dX6_drop_22 rfl ?_
      refine V_iload_n 1 rfl dX6_drop_25 rfl ?_
      refine V_iconst dX6_drop_26 rfl ?_
      refine V_iastn kY141 lI141 q7 dX6_drop_27 rfl (fun u9 e10 => ?_)
      have h := h u9 e10
      refine V_aload_n 0 rfl dX6_drop_28 rfl ?_
      refine gX6_41 rfl kY132 rF132_17 dX6_drop_29 rfl ?_
      refine V_iload_n 1 rfl dX6_drop_32 rfl ?_
      refine V_ialdn kY142 lI142 q7 dX6_drop_33 rfl ?_
      exact V_iret dX6_drop_34 (Or.inl rfl) h
    · have h := h.2 hc
      refine V_bipush (by decide) dX6_drop_18 rfl ?_
      exact V_iret dX6_drop_20 (Or.inl rfl) h
  · have h := h.2 hc
    refine V_iconst dX6_drop_7 rfl ?_
    exact V_iret dX6_drop_8 (Or.inl rfl) h
theorem eX6_item {G : GG} {Q : Int → Mem → Prop} {t : Mem} {v1 v2 v3 v4 : Int} (k : V G mX6_item 0 [(0, RR 132), (1, II v1), (2, II v2), (3, II v3), (4, JJ v4)] [] t Q) : Ex G mX6_item [RR 132, II v1, II v2, II v3, JJ v4] t Q := Ex.of plX6 (Or.inr (Or.inl rfl)) (Nat.le_of_ble_eq_true rfl) rfl k
set_option maxRecDepth 100000 in
theorem sgX6_item_0 {G : GG} {Q : Int → Mem → Prop} {t : Mem} {v1 v2 v3 v4 : Int}  (h : ∃ P1 : Int → Mem → Prop, Ex G mX6_isSheet [II v1] t P1 ∧ ∀ (r3 : Int) (u4 : Mem), P1 r3 u4 → In32 r3 ∧ (r3 = 0 → Q (-1) u4) ∧ (¬ r3 = 0 → ∃ P7 : Int → Mem → Prop, Ex G mX6_isLane [II v2] u4 P7 ∧ ∀ (r9 : Int) (u10 : Mem), P7 r9 u10 → In32 r9 ∧ (¬ r9 = 0 → ∃ P13 : Int → Mem → Prop, Ex G mX6_why [RR 132, II v1, II v2, II v3, II 1] u10 P13 ∧ ∀ (r15 : Int) (u16 : Mem), P13 r15 u16 → In32 r15 ∧ (0 ≤ r15 → In32 v2 ∧ (¬ v2 = 0 → (¬ v2 = 1 → (v2 = 2 → In32 v4 ∧ True) ∧ ∀ w21 : Int, w21 = (if v2 = 2 then v4 else v4) → (0 ≤ (24 * v1) + v3 ∧ (24 * v1) + v3 < 96) ∧ ∀ u26 : Mem, u26 = wr u16 143 ((24 * v1) + v3).toNat w21 → Q 1 u26) ∧ (v2 = 1 → In32 (iS v4) ∧ (0 ≤ (24 * v1) + v3 ∧ (24 * v1) + v3 < 96) ∧ ∀ u30 : Mem, u30 = wr u16 143 ((24 * v1) + v3).toNat (iS v4) → Q 1 u30)) ∧ (v2 = 0 → In32 (iB v4) ∧ (0 ≤ (24 * v1) + v3 ∧ (24 * v1) + v3 < 96) ∧ ∀ u34 : Mem, u34 = wr u16 143 ((24 * v1) + v3).toNat (iB v4) → Q 1 u34)) ∧ (¬ 0 ≤ r15 → Q r15 u16)) ∧ (r9 = 0 → Q (-1) u10))) : V G mX6_item 0 [(0, RR 132), (1, II v1), (2, II v2), (3, II v3), (4, JJ v4)] [] t Q := by
  refine V_iload_n 1 rfl dX6_item_0 rfl ?_
  obtain ⟨P1, c2, h⟩ := h
  refine V_callSi (st := []) (as := [II v1]) okX6_isSheet rfl mlX6_210 (by decide) rfl (Nat.le_of_ble_eq_true rfl) rfl dX6_item_1 rfl c2 (fun r3 u4 e5 => ?_)
  have h := h r3 u4 e5
  obtain ⟨q6, h⟩ := h
  refine V_if_eq q6 dX6_item_4 (g := 14) rfl rfl ⟨fun hc => ?_, fun hc => ?_⟩
  · have h := h.1 hc
    refine V_iconst dX6_item_14 rfl ?_
    exact V_iret dX6_item_15 (Or.inl rfl) h
  · have h := h.2 hc
    refine V_iload_n 2 rfl dX6_item_7 rfl ?_
    obtain ⟨P7, c8, h⟩ := h
    refine V_callSi (st := []) (as := [II v2]) okX6_isLane rfl mlX6_213 (by decide) rfl (Nat.le_of_ble_eq_true rfl) rfl dX6_item_8 rfl c8 (fun r9 u10 e11 => ?_)
    have h := h r9 u10 e11
    obtain ⟨q12, h⟩ := h
    refine V_if_ne q12 dX6_item_11 (g := 16) rfl rfl ⟨fun hc => ?_, fun hc => ?_⟩
    · have h := h.1 hc
      refine V_aload_n 0 rfl dX6_item_16 rfl ?_
      refine V_iload_n 1 rfl dX6_item_17 rfl ?_
      refine V_iload_n 2 rfl dX6_item_18 rfl ?_
      refine V_iload_n 3 rfl dX6_item_19 rfl ?_
      refine V_iconst dX6_item_20 rfl ?_
      obtain ⟨P13, c14, h⟩ := h
      refine V_callVi (st := []) (as := [II v1, II v2, II v3, II 1]) okX6_why rfl mlX6_216 (by decide) kY132 rfl (Nat.le_of_ble_eq_true rfl) rfl dX6_item_21 rfl c14 (fun r15 u16 e17 => ?_)
      have h := h r15 u16 e17
      refine V_istore (ls2 := [(0, RR 132), (1, II v1), (2, II v2), (3, II v3), (4, JJ v4), (6, II r15)]) dX6_item_24 rfl (by decide) rfl ?_
      refine V_iload 5 rfl dX6_item_26 rfl ?_
      obtain ⟨q18, h⟩ := h
      refine V_if_ge q18 dX6_item_28 (g := 34) rfl rfl ⟨fun hc => ?_, fun hc => ?_⟩
      · have h := h.1 hc
        refine V_aload_n 0 rfl dX6_item_34 rfl ?_
        refine gX6_44 rfl kY132 rF132_18 dX6_item_35 rfl ?_
        refine V_bipush (by decide) dX6_item_38 rfl ?_
        refine V_iload_n 1 rfl dX6_item_40 rfl ?_
        refine V_imul dX6_item_41 rfl ?_
        refine V_iload_n 3 rfl dX6_item_42 rfl ?_
        refine V_iadd dX6_item_43 rfl ?_
        refine V_iload_n 2 rfl dX6_item_44 rfl ?_
        obtain ⟨q19, h⟩ := h
        refine V_if_ne q19 dX6_item_45 (g := 56) rfl rfl ⟨fun hc => ?_, fun hc => ?_⟩
        · have h := h.1 hc
          refine V_iload_n 2 rfl dX6_item_56 rfl ?_
          refine V_iconst dX6_item_57 rfl ?_
          refine V_icmp_ne q19 (iL rfl) dX6_item_58 (g := 69) rfl rfl ⟨fun hc => ?_, fun hc => ?_⟩
          · have h := h.1 hc
            refine V_iload_n 2 rfl dX6_item_69 rfl ?_
            refine V_iconst dX6_item_70 rfl ?_
            obtain ⟨hB24, h⟩ := h
            have hj25 : ∀ w21 : Int, w21 = (if v2 = 2 then v4 else v4) → V G mX6_item 83 [(0, RR 132), (1, II v1), (2, II v2), (3, II v3), (4, JJ v4), (6, II r15)] [JJ w21, II ((24 * v1) + v3), RR 143] u16 Q := by
              intro w21 e22
              have h := h w21 e22
              obtain ⟨q28, h⟩ := h
              refine V_lastn kY143 lI143 q28 dX6_item_83 rfl (fun u26 e27 => ?_)
              have h := h u26 e27
              refine V_iconst dX6_item_84 rfl ?_
              exact V_iret dX6_item_85 (Or.inl rfl) h
            have hj25 := hj25 _ rfl
            refine V_icmp_ne q19 (iL rfl) dX6_item_71 (g := 81) rfl rfl ⟨fun hc => ?_, fun hc => ?_⟩
            · skip
              refine V_lload 4 rfl dX6_item_81 rfl ?_
              rw [if_neg hc] at hj25
              exact hj25
            · have h := hB24 hc
              refine V_lload 4 rfl dX6_item_74 rfl ?_
              refine V_l2i dX6_item_76 rfl ?_
              obtain ⟨q20, h⟩ := h
              refine V_i2l q20 dX6_item_77 rfl ?_
              refine V_goto (g := 83) dX6_item_78 rfl ?_
              rw [if_pos hc] at hj25
              exact hj25
          · have h := h.2 hc
            refine V_lload 4 rfl dX6_item_61 rfl ?_
            refine V_l2i dX6_item_63 rfl ?_
            refine V_i2s dX6_item_64 rfl ?_
            obtain ⟨q29, h⟩ := h
            refine V_i2l q29 dX6_item_65 rfl ?_
            refine V_goto (g := 83) dX6_item_66 rfl ?_
            obtain ⟨q32, h⟩ := h
            refine V_lastn kY143 lI143 q32 dX6_item_83 rfl (fun u30 e31 => ?_)
            have h := h u30 e31
            refine V_iconst dX6_item_84 rfl ?_
            exact V_iret dX6_item_85 (Or.inl rfl) h
        · have h := h.2 hc
          refine V_lload 4 rfl dX6_item_48 rfl ?_
          refine V_l2i dX6_item_50 rfl ?_
          refine V_i2b dX6_item_51 rfl ?_
          obtain ⟨q33, h⟩ := h
          refine V_i2l q33 dX6_item_52 rfl ?_
          refine V_goto (g := 83) dX6_item_53 rfl ?_
          obtain ⟨q36, h⟩ := h
          refine V_lastn kY143 lI143 q36 dX6_item_83 rfl (fun u34 e35 => ?_)
          have h := h u34 e35
          refine V_iconst dX6_item_84 rfl ?_
          exact V_iret dX6_item_85 (Or.inl rfl) h
      · have h := h.2 hc
        refine V_iload 5 rfl dX6_item_31 rfl ?_
        exact V_iret dX6_item_33 (Or.inl rfl) h
    · have h := h.2 hc
      refine V_iconst dX6_item_14 rfl ?_
      exact V_iret dX6_item_15 (Or.inl rfl) h
theorem eX6_copy {G : GG} {Q : Int → Mem → Prop} {t : Mem} {v1 v2 v3 v4 v5 : Int} (k : V G mX6_copy 0 [(0, RR 132), (1, II v1), (2, II v2), (3, II v3), (4, II v4), (5, II v5)] [] t Q) : Ex G mX6_copy [RR 132, II v1, II v2, II v3, II v4, II v5] t Q := Ex.of plX6 (Or.inr (Or.inl rfl)) (Nat.le_of_ble_eq_true rfl) rfl k
set_option maxRecDepth 100000 in
theorem sgX6_copy_0 {G : GG} {Q : Int → Mem → Prop} {t : Mem} {v1 v2 v3 v4 v5 : Int}  (h : ∃ P1 : Int → Mem → Prop, Ex G mX6_isSheet [II v1] t P1 ∧ ∀ (r3 : Int) (u4 : Mem), P1 r3 u4 → In32 r3 ∧ (r3 = 0 → Q (-1) u4) ∧ (¬ r3 = 0 → ∃ P7 : Int → Mem → Prop, Ex G mX6_isSheet [II v3] u4 P7 ∧ ∀ (r9 : Int) (u10 : Mem), P7 r9 u10 → In32 r9 ∧ (¬ r9 = 0 → (0 ≤ v1 ∧ v1 < 4) ∧ In32 (u10 141 v1.toNat) ∧ ((u10 141 v1.toNat) < 0 → Q (-11) u10) ∧ (¬ (u10 141 v1.toNat) < 0 → (0 ≤ v3 ∧ v3 < 4) ∧ In32 (u10 141 v3.toNat) ∧ (0 ≤ (u10 141 v3.toNat) → ∃ P17 : Int → Mem → Prop, Ex G mX6_why [RR 132, II v3, II (u10 141 v1.toNat), II v4, II v5] u10 P17 ∧ ∀ (r19 : Int) (u20 : Mem), P17 r19 u20 → In32 r19 ∧ (¬ r19 = 0 → (0 ≤ r19 → V G mX6_copy 91 [(0, RR 132), (1, II v1), (2, II v2), (3, II v3), (4, II v4), (5, II v5), (6, II r19), (7, II 0)] [] u20 Q) ∧ (¬ 0 ≤ r19 → Q r19 u20)) ∧ (r19 = 0 → ∃ P23 : Int → Mem → Prop, Ex G mX6_why [RR 132, II v1, II (u20 141 v1.toNat), II v2, II v5] u20 P23 ∧ ∀ (r25 : Int) (u26 : Mem), P23 r25 u26 → In32 r25 ∧ (0 ≤ r25 → V G mX6_copy 91 [(0, RR 132), (1, II v1), (2, II v2), (3, II v3), (4, II v4), (5, II v5), (6, II r25), (7, II 0)] [] u26 Q) ∧ (¬ 0 ≤ r25 → Q r25 u26))) ∧ (¬ 0 ≤ (u10 141 v3.toNat) → Q (-11) u10))) ∧ (r9 = 0 → Q (-1) u10))) : V G mX6_copy 0 [(0, RR 132), (1, II v1), (2, II v2), (3, II v3), (4, II v4), (5, II v5)] [] t Q := by
  refine V_iload_n 1 rfl dX6_copy_0 rfl ?_
  obtain ⟨P1, c2, h⟩ := h
  refine V_callSi (st := []) (as := [II v1]) okX6_isSheet rfl mlX6_210 (by decide) rfl (Nat.le_of_ble_eq_true rfl) rfl dX6_copy_1 rfl c2 (fun r3 u4 e5 => ?_)
  have h := h r3 u4 e5
  obtain ⟨q6, h⟩ := h
  refine V_if_eq q6 dX6_copy_4 (g := 14) rfl rfl ⟨fun hc => ?_, fun hc => ?_⟩
  · have h := h.1 hc
    refine V_iconst dX6_copy_14 rfl ?_
    exact V_iret dX6_copy_15 (Or.inl rfl) h
  · have h := h.2 hc
    refine V_iload_n 3 rfl dX6_copy_7 rfl ?_
    obtain ⟨P7, c8, h⟩ := h
    refine V_callSi (st := []) (as := [II v3]) okX6_isSheet rfl mlX6_210 (by decide) rfl (Nat.le_of_ble_eq_true rfl) rfl dX6_copy_8 rfl c8 (fun r9 u10 e11 => ?_)
    have h := h r9 u10 e11
    obtain ⟨q12, h⟩ := h
    refine V_if_ne q12 dX6_copy_11 (g := 16) rfl rfl ⟨fun hc => ?_, fun hc => ?_⟩
    · have h := h.1 hc
      refine V_aload_n 0 rfl dX6_copy_16 rfl ?_
      refine gX6_38 rfl kY132 rF132_16 dX6_copy_17 rfl ?_
      refine V_iload_n 1 rfl dX6_copy_20 rfl ?_
      obtain ⟨q13, h⟩ := h
      refine V_ialdn kY141 lI141 q13 dX6_copy_21 rfl ?_
      obtain ⟨q14, h⟩ := h
      refine V_if_lt q14 dX6_copy_22 (g := 34) rfl rfl ⟨fun hc => ?_, fun hc => ?_⟩
      · have h := h.1 hc
        refine V_bipush (by decide) dX6_copy_34 rfl ?_
        exact V_iret dX6_copy_36 (Or.inl rfl) h
      · have h := h.2 hc
        refine V_aload_n 0 rfl dX6_copy_25 rfl ?_
        refine gX6_38 rfl kY132 rF132_16 dX6_copy_26 rfl ?_
        refine V_iload_n 3 rfl dX6_copy_29 rfl ?_
        obtain ⟨q15, h⟩ := h
        refine V_ialdn kY141 lI141 q15 dX6_copy_30 rfl ?_
        obtain ⟨q16, h⟩ := h
        refine V_if_ge q16 dX6_copy_31 (g := 37) rfl rfl ⟨fun hc => ?_, fun hc => ?_⟩
        · have h := h.1 hc
          refine V_aload_n 0 rfl dX6_copy_37 rfl ?_
          refine V_iload_n 3 rfl dX6_copy_38 rfl ?_
          refine V_aload_n 0 rfl dX6_copy_39 rfl ?_
          refine gX6_38 rfl kY132 rF132_16 dX6_copy_40 rfl ?_
          refine V_iload_n 1 rfl dX6_copy_43 rfl ?_
          refine V_ialdn kY141 lI141 q13 dX6_copy_44 rfl ?_
          refine V_iload 4 rfl dX6_copy_45 rfl ?_
          refine V_iload 5 rfl dX6_copy_47 rfl ?_
          obtain ⟨P17, c18, h⟩ := h
          refine V_callVi (st := []) (as := [II v3, II (u10 141 v1.toNat), II v4, II v5]) okX6_why rfl mlX6_216 (by decide) kY132 rfl (Nat.le_of_ble_eq_true rfl) rfl dX6_copy_49 rfl c18 (fun r19 u20 e21 => ?_)
          have h := h r19 u20 e21
          refine V_istore (ls2 := [(0, RR 132), (1, II v1), (2, II v2), (3, II v3), (4, II v4), (5, II v5), (6, II r19)]) dX6_copy_52 rfl (by decide) rfl ?_
          refine V_iload 6 rfl dX6_copy_54 rfl ?_
          obtain ⟨q22, h⟩ := h
          refine V_if_ne q22 dX6_copy_56 (g := 76) rfl rfl ⟨fun hc => ?_, fun hc => ?_⟩
          · have h := h.1 hc
            refine V_iload 6 rfl dX6_copy_76 rfl ?_
            refine V_istore (ls2 := [(0, RR 132), (1, II v1), (2, II v2), (3, II v3), (4, II v4), (5, II v5), (6, II r19)]) dX6_copy_78 rfl (by decide) rfl ?_
            refine V_iload 6 rfl dX6_copy_80 rfl ?_
            refine V_if_ge q22 dX6_copy_82 (g := 88) rfl rfl ⟨fun hc => ?_, fun hc => ?_⟩
            · have h := h.1 hc
              refine V_iconst dX6_copy_88 rfl ?_
              refine V_istore (ls2 := [(0, RR 132), (1, II v1), (2, II v2), (3, II v3), (4, II v4), (5, II v5), (6, II r19), (7, II 0)]) dX6_copy_89 rfl (by decide) rfl ?_
              exact h
            · have h := h.2 hc
              refine V_iload 6 rfl dX6_copy_85 rfl ?_
              exact V_iret dX6_copy_87 (Or.inl rfl) h
          · have h := h.2 hc
            refine V_aload_n 0 rfl dX6_copy_59 rfl ?_
            refine V_iload_n 1 rfl dX6_copy_60 rfl ?_
            refine V_aload_n 0 rfl dX6_copy_61 rfl ?_
            refine gX6_38 rfl kY132 rF132_16 dX6_copy_62 rfl ?_
            refine V_iload_n 1 rfl dX6_copy_65 rfl ?_
            refine V_ialdn kY141 lI141 q13 dX6_copy_66 rfl ?_
            refine V_iload_n 2 rfl dX6_copy_67 rfl ?_
            refine V_iload 5 rfl dX6_copy_68 rfl ?_
            obtain ⟨P23, c24, h⟩ := h
            refine V_callVi (st := []) (as := [II v1, II (u20 141 v1.toNat), II v2, II v5]) okX6_why rfl mlX6_216 (by decide) kY132 rfl (Nat.le_of_ble_eq_true rfl) rfl dX6_copy_70 rfl c24 (fun r25 u26 e27 => ?_)
            have h := h r25 u26 e27
            refine V_goto (g := 78) dX6_copy_73 rfl ?_
            refine V_istore (ls2 := [(0, RR 132), (1, II v1), (2, II v2), (3, II v3), (4, II v4), (5, II v5), (6, II r25)]) dX6_copy_78 rfl (by decide) rfl ?_
            refine V_iload 6 rfl dX6_copy_80 rfl ?_
            obtain ⟨q28, h⟩ := h
            refine V_if_ge q28 dX6_copy_82 (g := 88) rfl rfl ⟨fun hc => ?_, fun hc => ?_⟩
            · have h := h.1 hc
              refine V_iconst dX6_copy_88 rfl ?_
              refine V_istore (ls2 := [(0, RR 132), (1, II v1), (2, II v2), (3, II v3), (4, II v4), (5, II v5), (6, II r25), (7, II 0)]) dX6_copy_89 rfl (by decide) rfl ?_
              exact h
            · have h := h.2 hc
              refine V_iload 6 rfl dX6_copy_85 rfl ?_
              exact V_iret dX6_copy_87 (Or.inl rfl) h
        · have h := h.2 hc
          refine V_bipush (by decide) dX6_copy_34 rfl ?_
          exact V_iret dX6_copy_36 (Or.inl rfl) h
    · have h := h.2 hc
      refine V_iconst dX6_copy_14 rfl ?_
      exact V_iret dX6_copy_15 (Or.inl rfl) h
set_option maxRecDepth 100000 in
theorem sgX6_copy_91 {G : GG} {Q : Int → Mem → Prop} {t : Mem} {v1 v2 v3 v4 v5 v6 v7 : Int}  (h : In32 v7 ∧ In32 v5 ∧ (v5 ≤ v7 → V G mX6_copy 128 [(0, RR 132), (1, II v1), (2, II v2), (3, II v3), (4, II v4), (5, II v5), (6, II v6), (7, II 0)] [] t Q) ∧ (¬ v5 ≤ v7 → (0 ≤ ((24 * v1) + v2) + v7 ∧ ((24 * v1) + v2) + v7 < 96) ∧ (0 ≤ v7 ∧ v7 < 24) ∧ ∀ u4 : Mem, u4 = wr t 144 v7.toNat (t 143 (((24 * v1) + v2) + v7).toNat) → V G mX6_copy 91 [(0, RR 132), (1, II v1), (2, II v2), (3, II v3), (4, II v4), (5, II v5), (6, II v6), (7, II (v7 + 1))] [] u4 Q)) : V G mX6_copy 91 [(0, RR 132), (1, II v1), (2, II v2), (3, II v3), (4, II v4), (5, II v5), (6, II v6), (7, II v7)] [] t Q := by
  refine V_iload 7 rfl dX6_copy_91 rfl ?_
  refine V_iload 5 rfl dX6_copy_93 rfl ?_
  obtain ⟨q1, h⟩ := h
  obtain ⟨q2, h⟩ := h
  refine V_icmp_ge q1 q2 dX6_copy_95 (g := 125) rfl rfl ⟨fun hc => ?_, fun hc => ?_⟩
  · have h := h.1 hc
    refine V_iconst dX6_copy_125 rfl ?_
    refine V_istore (ls2 := [(0, RR 132), (1, II v1), (2, II v2), (3, II v3), (4, II v4), (5, II v5), (6, II v6), (7, II 0)]) dX6_copy_126 rfl (by decide) rfl ?_
    exact h
  · have h := h.2 hc
    refine V_aload_n 0 rfl dX6_copy_98 rfl ?_
    refine gX6_48 rfl kY132 rF132_19 dX6_copy_99 rfl ?_
    refine V_iload 7 rfl dX6_copy_102 rfl ?_
    refine V_aload_n 0 rfl dX6_copy_104 rfl ?_
    refine gX6_44 rfl kY132 rF132_18 dX6_copy_105 rfl ?_
    refine V_bipush (by decide) dX6_copy_108 rfl ?_
    refine V_iload_n 1 rfl dX6_copy_110 rfl ?_
    refine V_imul dX6_copy_111 rfl ?_
    refine V_iload_n 2 rfl dX6_copy_112 rfl ?_
    refine V_iadd dX6_copy_113 rfl ?_
    refine V_iload 7 rfl dX6_copy_114 rfl ?_
    refine V_iadd dX6_copy_116 rfl ?_
    obtain ⟨q3, h⟩ := h
    refine V_laldn kY143 lI143 q3 dX6_copy_117 rfl ?_
    obtain ⟨q6, h⟩ := h
    refine V_lastn kY144 lI144 q6 dX6_copy_118 rfl (fun u4 e5 => ?_)
    have h := h u4 e5
    refine V_iinc 7 rfl (ls2 := [(0, RR 132), (1, II v1), (2, II v2), (3, II v3), (4, II v4), (5, II v5), (6, II v6), (7, II (v7 + 1))]) dX6_copy_119 rfl (by decide) rfl ?_
    refine V_goto (g := 91) dX6_copy_122 rfl ?_
    exact h
set_option maxRecDepth 100000 in
theorem sgX6_copy_128 {G : GG} {Q : Int → Mem → Prop} {t : Mem} {v1 v2 v3 v4 v5 v6 v7 : Int}  (h : In32 v7 ∧ In32 v5 ∧ (v5 ≤ v7 → Q v5 t) ∧ (¬ v5 ≤ v7 → (0 ≤ v7 ∧ v7 < 24) ∧ (0 ≤ ((24 * v3) + v4) + v7 ∧ ((24 * v3) + v4) + v7 < 96) ∧ ∀ u4 : Mem, u4 = wr t 143 (((24 * v3) + v4) + v7).toNat (t 144 v7.toNat) → V G mX6_copy 128 [(0, RR 132), (1, II v1), (2, II v2), (3, II v3), (4, II v4), (5, II v5), (6, II v6), (7, II (v7 + 1))] [] u4 Q)) : V G mX6_copy 128 [(0, RR 132), (1, II v1), (2, II v2), (3, II v3), (4, II v4), (5, II v5), (6, II v6), (7, II v7)] [] t Q := by
  refine V_iload 7 rfl dX6_copy_128 rfl ?_
  refine V_iload 5 rfl dX6_copy_130 rfl ?_
  obtain ⟨q1, h⟩ := h
  obtain ⟨q2, h⟩ := h
  refine V_icmp_ge q1 q2 dX6_copy_132 (g := 163) rfl rfl ⟨fun hc => ?_, fun hc => ?_⟩
  · have h := h.1 hc
    refine V_iload 5 rfl dX6_copy_163 rfl ?_
    exact V_iret dX6_copy_165 (Or.inl rfl) h
  · have h := h.2 hc
    refine V_aload_n 0 rfl dX6_copy_135 rfl ?_
    refine gX6_44 rfl kY132 rF132_18 dX6_copy_136 rfl ?_
    refine V_bipush (by decide) dX6_copy_139 rfl ?_
    refine V_iload_n 3 rfl dX6_copy_141 rfl ?_
    refine V_imul dX6_copy_142 rfl ?_
    refine V_iload 4 rfl dX6_copy_143 rfl ?_
    refine V_iadd dX6_copy_145 rfl ?_
    refine V_iload 7 rfl dX6_copy_146 rfl ?_
    refine V_iadd dX6_copy_148 rfl ?_
    refine V_aload_n 0 rfl dX6_copy_149 rfl ?_
    refine gX6_48 rfl kY132 rF132_19 dX6_copy_150 rfl ?_
    refine V_iload 7 rfl dX6_copy_153 rfl ?_
    obtain ⟨q3, h⟩ := h
    refine V_laldn kY144 lI144 q3 dX6_copy_155 rfl ?_
    obtain ⟨q6, h⟩ := h
    refine V_lastn kY143 lI143 q6 dX6_copy_156 rfl (fun u4 e5 => ?_)
    have h := h u4 e5
    refine V_iinc 7 rfl (ls2 := [(0, RR 132), (1, II v1), (2, II v2), (3, II v3), (4, II v4), (5, II v5), (6, II v6), (7, II (v7 + 1))]) dX6_copy_157 rfl (by decide) rfl ?_
    refine V_goto (g := 128) dX6_copy_160 rfl ?_
    exact h
