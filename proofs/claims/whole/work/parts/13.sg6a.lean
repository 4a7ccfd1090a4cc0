theorem eX6_in {G : GG} {Q : Int → Mem → Prop} {t : Mem} {v0 v2 v4 : Int} (k : V G mX6_in 0 [(0, JJ v0), (2, JJ v2), (4, JJ v4)] [] t Q) : Ex G mX6_in [JJ v0, JJ v2, JJ v4] t Q := Ex.of plX6 (Or.inr (Or.inr rfl)) (Nat.le_of_ble_eq_true rfl) rfl k
set_option maxRecDepth 100000 in
theorem sgX6_in_0 {G : GG} {Q : Int → Mem → Prop} {t : Mem} {v0 v2 v4 : Int}  (h : In64 v0 ∧ In64 v2 ∧ ((lCmp v0 v2) < 0 → Q 0 t) ∧ (¬ (lCmp v0 v2) < 0 → In64 v4 ∧ Q (if 0 < (lCmp v0 v4) then 0 else 1) t)) : V G mX6_in 0 [(0, JJ v0), (2, JJ v2), (4, JJ v4)] [] t Q := by
  refine V_lload_n 0 rfl dX6_in_0 rfl ?_
  refine V_lload_n 1 rfl dX6_in_1 rfl ?_
  obtain ⟨q1, h⟩ := h
  obtain ⟨q2, h⟩ := h
  refine V_lcmp q1 q2 dX6_in_2 rfl ?_
  refine V_if_lt (lCmp_in _ _) dX6_in_3 (g := 17) rfl rfl ⟨fun hc => ?_, fun hc => ?_⟩
  · have h := h.1 hc
    refine V_iconst dX6_in_17 rfl ?_
    exact V_iret dX6_in_18 (Or.inr ⟨rfl, by decide⟩) h
  · have h := h.2 hc
    refine V_lload_n 0 rfl dX6_in_6 rfl ?_
    refine V_lload 2 rfl dX6_in_7 rfl ?_
    obtain ⟨q3, h⟩ := h
    refine V_lcmp q1 q3 dX6_in_9 rfl ?_
    have hj8 : V G mX6_in 18 [(0, JJ v0), (2, JJ v2), (4, JJ v4)] [II (if 0 < (lCmp v0 v4) then 0 else 1)] t Q := by
      exact V_iret dX6_in_18 (Or.inr ⟨rfl, by split <;> simp⟩) h
    refine V_if_gt (lCmp_in _ _) dX6_in_10 (g := 17) rfl rfl ⟨fun hc => ?_, fun hc => ?_⟩
    · skip
      refine V_iconst dX6_in_17 rfl ?_
      rw [if_pos hc] at hj8
      exact hj8
    · skip
      refine V_iconst dX6_in_13 rfl ?_
      refine V_goto (g := 18) dX6_in_14 rfl ?_
      rw [if_neg hc] at hj8
      exact hj8
theorem eX6_isBeast {G : GG} {Q : Int → Mem → Prop} {t : Mem} {v1 : Int} (k : V G mX6_isBeast 0 [(0, RR 132), (1, II v1)] [] t Q) : Ex G mX6_isBeast [RR 132, II v1] t Q := Ex.of plX6 (Or.inr (Or.inr rfl)) (Nat.le_of_ble_eq_true rfl) rfl k
set_option maxRecDepth 100000 in
theorem sgX6_isBeast_0 {G : GG} {Q : Int → Mem → Prop} {t : Mem} {v1 : Int}  (h : In32 v1 ∧ In32 ((t 133 12) - 1) ∧ ∃ P3 : Int → Mem → Prop, Ex G mX6_in [JJ v1, JJ 0, JJ ((t 133 12) - 1)] t P3 ∧ ∀ (r5 : Int) (u6 : Mem), P3 r5 u6 → (r5 = 0 ∨ r5 = 1) ∧ Q r5 u6) : V G mX6_isBeast 0 [(0, RR 132), (1, II v1)] [] t Q := by
  refine V_iload_n 1 rfl dX6_isBeast_0 rfl ?_
  obtain ⟨q1, h⟩ := h
  refine V_i2l q1 dX6_isBeast_1 rfl ?_
  refine V_lconst (z := 0) rfl dX6_isBeast_2 rfl ?_
  refine V_aload_n 0 rfl dX6_isBeast_3 rfl ?_
  refine gX6_7 rfl kY132 rF132_0 dX6_isBeast_4 rfl ?_
  refine V_bipush (by decide) dX6_isBeast_7 rfl ?_
  refine V_ialdL 12 rfl kY133 lI133 rfl dX6_isBeast_9 rfl ?_
  refine V_iconst dX6_isBeast_10 rfl ?_
  refine V_isub dX6_isBeast_11 rfl ?_
  obtain ⟨q2, h⟩ := h
  refine V_i2l q2 dX6_isBeast_12 rfl ?_
  obtain ⟨P3, c4, h⟩ := h
  refine V_callSi (st := []) (as := [JJ v1, JJ 0, JJ ((t 133 12) - 1)]) okX6_in rfl mlX6_51 (by decide) rfl (Nat.le_of_ble_eq_true rfl) rfl dX6_isBeast_13 rfl c4 (fun r5 u6 e7 => ?_)
  have h := h r5 u6 e7
  exact V_iret dX6_isBeast_16 (Or.inr ⟨rfl, h.1⟩) h.2
theorem eX6_at {G : GG} {Q : Int → Mem → Prop} {t : Mem} {v1 v2 : Int} (k : V G mX6_at 0 [(0, RR 132), (1, II v1), (2, II v2)] [] t Q) : Ex G mX6_at [RR 132, II v1, II v2] t Q := Ex.of plX6 (Or.inr (Or.inl rfl)) (Nat.le_of_ble_eq_true rfl) rfl k
set_option maxRecDepth 100000 in
theorem sgX6_at_0 {G : GG} {Q : Int → Mem → Prop} {t : Mem} {v1 v2 : Int}  (h : (0 ≤ (14 + (7 * v1)) + v2 ∧ (14 + (7 * v1)) + v2 < 63) ∧ Q (t 133 ((14 + (7 * v1)) + v2).toNat) t) : V G mX6_at 0 [(0, RR 132), (1, II v1), (2, II v2)] [] t Q := by
  refine V_aload_n 0 rfl dX6_at_0 rfl ?_
  refine gX6_7 rfl kY132 rF132_0 dX6_at_1 rfl ?_
  refine V_bipush (by decide) dX6_at_4 rfl ?_
  refine V_bipush (by decide) dX6_at_6 rfl ?_
  refine V_iload_n 1 rfl dX6_at_8 rfl ?_
  refine V_imul dX6_at_9 rfl ?_
  refine V_iadd dX6_at_10 rfl ?_
  refine V_iload_n 2 rfl dX6_at_11 rfl ?_
  refine V_iadd dX6_at_12 rfl ?_
  obtain ⟨q1, h⟩ := h
  refine V_ialdn kY133 lI133 q1 dX6_at_13 rfl ?_
  exact V_iret dX6_at_14 (Or.inl rfl) h
theorem eX6_isMilk {G : GG} {Q : Int → Mem → Prop} {t : Mem} {v1 : Int} (k : V G mX6_isMilk 0 [(0, RR 132), (1, II v1)] [] t Q) : Ex G mX6_isMilk [RR 132, II v1] t Q := Ex.of plX6 (Or.inr (Or.inr rfl)) (Nat.le_of_ble_eq_true rfl) rfl k
set_option maxRecDepth 100000 in
theorem sgX6_isMilk_0 {G : GG} {Q : Int → Mem → Prop} {t : Mem} {v1 : Int}  (h : ∃ P1 : Int → Mem → Prop, Ex G mX6_at [RR 132, II v1, II 0] t P1 ∧ ∀ (r3 : Int) (u4 : Mem), P1 r3 u4 → In32 r3 ∧ (r3 = 1 → Q 1 u4) ∧ (¬ r3 = 1 → ∃ P7 : Int → Mem → Prop, Ex G mX6_at [RR 132, II v1, II 0] u4 P7 ∧ ∀ (r9 : Int) (u10 : Mem), P7 r9 u10 → In32 r9 ∧ Q (if r9 = 3 then 1 else 0) u10)) : V G mX6_isMilk 0 [(0, RR 132), (1, II v1)] [] t Q := by
  refine V_aload_n 0 rfl dX6_isMilk_0 rfl ?_
  refine V_iload_n 1 rfl dX6_isMilk_1 rfl ?_
  refine V_iconst dX6_isMilk_2 rfl ?_
  obtain ⟨P1, c2, h⟩ := h
  refine V_callVi (st := []) (as := [II v1, II 0]) okX6_at rfl mlX6_55 (by decide) kY132 rfl (Nat.le_of_ble_eq_true rfl) rfl dX6_isMilk_3 rfl c2 (fun r3 u4 e5 => ?_)
  have h := h r3 u4 e5
  refine V_iconst dX6_isMilk_6 rfl ?_
  obtain ⟨q6, h⟩ := h
  refine V_icmp_eq q6 (iL rfl) dX6_isMilk_7 (g := 20) rfl rfl ⟨fun hc => ?_, fun hc => ?_⟩
  · have h := h.1 hc
    refine V_iconst dX6_isMilk_20 rfl ?_
    refine V_goto (g := 25) dX6_isMilk_21 rfl ?_
    exact V_iret dX6_isMilk_25 (Or.inr ⟨rfl, by decide⟩) h
  · have h := h.2 hc
    refine V_aload_n 0 rfl dX6_isMilk_10 rfl ?_
    refine V_iload_n 1 rfl dX6_isMilk_11 rfl ?_
    refine V_iconst dX6_isMilk_12 rfl ?_
    obtain ⟨P7, c8, h⟩ := h
    refine V_callVi (st := []) (as := [II v1, II 0]) okX6_at rfl mlX6_55 (by decide) kY132 rfl (Nat.le_of_ble_eq_true rfl) rfl dX6_isMilk_13 rfl c8 (fun r9 u10 e11 => ?_)
    have h := h r9 u10 e11
    refine V_iconst dX6_isMilk_16 rfl ?_
    obtain ⟨q12, h⟩ := h
    have hj17 : V G mX6_isMilk 25 [(0, RR 132), (1, II v1)] [II (if r9 = 3 then 1 else 0)] u10 Q := by
      exact V_iret dX6_isMilk_25 (Or.inr ⟨rfl, by split <;> simp⟩) h
    refine V_icmp_ne q12 (iL rfl) dX6_isMilk_17 (g := 24) rfl rfl ⟨fun hc => ?_, fun hc => ?_⟩
    · skip
      refine V_iconst dX6_isMilk_24 rfl ?_
      rw [if_neg hc] at hj17
      exact hj17
    · skip
      refine V_iconst dX6_isMilk_20 rfl ?_
      refine V_goto (g := 25) dX6_isMilk_21 rfl ?_
      rw [if_pos hc] at hj17
      exact hj17
theorem eX6_needs {G : GG} {Q : Int → Mem → Prop} {t : Mem} {v1 : Int} (k : V G mX6_needs 0 [(0, RR 132), (1, II v1)] [] t Q) : Ex G mX6_needs [RR 132, II v1] t Q := Ex.of plX6 (Or.inr (Or.inl rfl)) (Nat.le_of_ble_eq_true rfl) rfl k
set_option maxRecDepth 100000 in
theorem sgX6_needs_0 {G : GG} {Q : Int → Mem → Prop} {t : Mem} {v1 : Int}  (h : ∃ P1 : Int → Mem → Prop, Ex G mX6_at [RR 132, II v1, II 1] t P1 ∧ ∀ (r3 : Int) (u4 : Mem), P1 r3 u4 → ∃ P6 : Int → Mem → Prop, Ex G mX6_at [RR 132, II v1, II 4] u4 P6 ∧ ∀ (r8 : Int) (u9 : Mem), P6 r8 u9 → ((0 : Int) ≤ r8 ∧ In32 r8) ∧ ∃ P12 : Int → Mem → Prop, Ex G mX6_isMilk [RR 132, II v1] u9 P12 ∧ ∀ (r14 : Int) (u15 : Mem), P12 r14 u15 → In32 r14 ∧ Q (((3 * r3) + (r8 / 3)) + (if r14 = 0 then 0 else 5)) u15) : V G mX6_needs 0 [(0, RR 132), (1, II v1)] [] t Q := by
  refine V_iconst dX6_needs_0 rfl ?_
  refine V_aload_n 0 rfl dX6_needs_1 rfl ?_
  refine V_iload_n 1 rfl dX6_needs_2 rfl ?_
  refine V_iconst dX6_needs_3 rfl ?_
  obtain ⟨P1, c2, h⟩ := h
  refine V_callVi (st := [II 3]) (as := [II v1, II 1]) okX6_at rfl mlX6_55 (by decide) kY132 rfl (Nat.le_of_ble_eq_true rfl) rfl dX6_needs_4 rfl c2 (fun r3 u4 e5 => ?_)
  have h := h r3 u4 e5
  refine V_imul dX6_needs_7 rfl ?_
  refine V_aload_n 0 rfl dX6_needs_8 rfl ?_
  refine V_iload_n 1 rfl dX6_needs_9 rfl ?_
  refine V_iconst dX6_needs_10 rfl ?_
  obtain ⟨P6, c7, h⟩ := h
  refine V_callVi (st := [II (3 * r3)]) (as := [II v1, II 4]) okX6_at rfl mlX6_55 (by decide) kY132 rfl (Nat.le_of_ble_eq_true rfl) rfl dX6_needs_11 rfl c7 (fun r8 u9 e10 => ?_)
  have h := h r8 u9 e10
  refine V_iconst dX6_needs_14 rfl ?_
  obtain ⟨q11, h⟩ := h
  refine V_idiv q11 ⟨by decide, iL rfl⟩ dX6_needs_15 rfl ?_
  refine V_iadd dX6_needs_16 rfl ?_
  refine V_aload_n 0 rfl dX6_needs_17 rfl ?_
  refine V_iload_n 1 rfl dX6_needs_18 rfl ?_
  obtain ⟨P12, c13, h⟩ := h
  refine V_callVi (st := [II ((3 * r3) + (r8 / 3))]) (as := [II v1]) okX6_isMilk rfl mlX6_59 (by decide) kY132 rfl (Nat.le_of_ble_eq_true rfl) rfl dX6_needs_19 rfl c13 (fun r14 u15 e16 => ?_)
  have h := h r14 u15 e16
  obtain ⟨q17, h⟩ := h
  have hj22 : V G mX6_needs 30 [(0, RR 132), (1, II v1)] [II (if r14 = 0 then 0 else 5), II ((3 * r3) + (r8 / 3))] u15 Q := by
    refine V_iadd dX6_needs_30 rfl ?_
    exact V_iret dX6_needs_31 (Or.inl rfl) h
  refine V_if_eq q17 dX6_needs_22 (g := 29) rfl rfl ⟨fun hc => ?_, fun hc => ?_⟩
  · skip
    refine V_iconst dX6_needs_29 rfl ?_
    rw [if_pos hc] at hj22
    exact hj22
  · skip
    refine V_iconst dX6_needs_25 rfl ?_
    refine V_goto (g := 30) dX6_needs_26 rfl ?_
    rw [if_neg hc] at hj22
    exact hj22
theorem eX6_drinks {G : GG} {Q : Int → Mem → Prop} {t : Mem} {v1 : Int} (k : V G mX6_drinks 0 [(0, RR 132), (1, II v1)] [] t Q) : Ex G mX6_drinks [RR 132, II v1] t Q := Ex.of plX6 (Or.inr (Or.inl rfl)) (Nat.le_of_ble_eq_true rfl) rfl k
set_option maxRecDepth 100000 in
theorem sgX6_drinks_0 {G : GG} {Q : Int → Mem → Prop} {t : Mem} {v1 : Int}  (h : ∃ P1 : Int → Mem → Prop, Ex G mX6_at [RR 132, II v1, II 0] t P1 ∧ ∀ (r3 : Int) (u4 : Mem), P1 r3 u4 → In32 r3 ∧ (¬ r3 = 2 → ∃ P7 : Int → Mem → Prop, Ex G mX6_at [RR 132, II v1, II 0] u4 P7 ∧ ∀ (r9 : Int) (u10 : Mem), P7 r9 u10 → In32 r9 ∧ Q (if r9 = 3 then 8 else 4) u10) ∧ (r3 = 2 → Q 2 u4)) : V G mX6_drinks 0 [(0, RR 132), (1, II v1)] [] t Q := by
  refine V_aload_n 0 rfl dX6_drinks_0 rfl ?_
  refine V_iload_n 1 rfl dX6_drinks_1 rfl ?_
  refine V_iconst dX6_drinks_2 rfl ?_
  obtain ⟨P1, c2, h⟩ := h
  refine V_callVi (st := []) (as := [II v1, II 0]) okX6_at rfl mlX6_55 (by decide) kY132 rfl (Nat.le_of_ble_eq_true rfl) rfl dX6_drinks_3 rfl c2 (fun r3 u4 e5 => ?_)
  have h := h r3 u4 e5
  refine V_iconst dX6_drinks_6 rfl ?_
  obtain ⟨q6, h⟩ := h
  refine V_icmp_ne q6 (iL rfl) dX6_drinks_7 (g := 14) rfl rfl ⟨fun hc => ?_, fun hc => ?_⟩
  · have h := h.1 hc
    refine V_aload_n 0 rfl dX6_drinks_14 rfl ?_
    refine V_iload_n 1 rfl dX6_drinks_15 rfl ?_
    refine V_iconst dX6_drinks_16 rfl ?_
    obtain ⟨P7, c8, h⟩ := h
    refine V_callVi (st := []) (as := [II v1, II 0]) okX6_at rfl mlX6_55 (by decide) kY132 rfl (Nat.le_of_ble_eq_true rfl) rfl dX6_drinks_17 rfl c8 (fun r9 u10 e11 => ?_)
    have h := h r9 u10 e11
    refine V_iconst dX6_drinks_20 rfl ?_
    obtain ⟨q12, h⟩ := h
    have hj17 : V G mX6_drinks 30 [(0, RR 132), (1, II v1)] [II (if r9 = 3 then 8 else 4)] u10 Q := by
      exact V_iret dX6_drinks_30 (Or.inl rfl) h
    refine V_icmp_ne q12 (iL rfl) dX6_drinks_21 (g := 29) rfl rfl ⟨fun hc => ?_, fun hc => ?_⟩
    · skip
      refine V_iconst dX6_drinks_29 rfl ?_
      rw [if_neg hc] at hj17
      exact hj17
    · skip
      refine V_bipush (by decide) dX6_drinks_24 rfl ?_
      refine V_goto (g := 30) dX6_drinks_26 rfl ?_
      rw [if_pos hc] at hj17
      exact hj17
  · have h := h.2 hc
    refine V_iconst dX6_drinks_10 rfl ?_
    refine V_goto (g := 30) dX6_drinks_11 rfl ?_
    exact V_iret dX6_drinks_30 (Or.inl rfl) h
theorem eX6_isSated {G : GG} {Q : Int → Mem → Prop} {t : Mem} {v1 : Int} (k : V G mX6_isSated 0 [(0, RR 132), (1, II v1)] [] t Q) : Ex G mX6_isSated [RR 132, II v1] t Q := Ex.of plX6 (Or.inr (Or.inr rfl)) (Nat.le_of_ble_eq_true rfl) rfl k
set_option maxRecDepth 100000 in
theorem sgX6_isSated_0 {G : GG} {Q : Int → Mem → Prop} {t : Mem} {v1 : Int}  (h : ∃ P1 : Int → Mem → Prop, Ex G mX6_at [RR 132, II v1, II 3] t P1 ∧ ∀ (r3 : Int) (u4 : Mem), P1 r3 u4 → ∃ P6 : Int → Mem → Prop, Ex G mX6_needs [RR 132, II v1] u4 P6 ∧ ∀ (r8 : Int) (u9 : Mem), P6 r8 u9 → In32 r3 ∧ In32 r8 ∧ Q (if r3 < r8 then 0 else 1) u9) : V G mX6_isSated 0 [(0, RR 132), (1, II v1)] [] t Q := by
  refine V_aload_n 0 rfl dX6_isSated_0 rfl ?_
  refine V_iload_n 1 rfl dX6_isSated_1 rfl ?_
  refine V_iconst dX6_isSated_2 rfl ?_
  obtain ⟨P1, c2, h⟩ := h
  refine V_callVi (st := []) (as := [II v1, II 3]) okX6_at rfl mlX6_55 (by decide) kY132 rfl (Nat.le_of_ble_eq_true rfl) rfl dX6_isSated_3 rfl c2 (fun r3 u4 e5 => ?_)
  have h := h r3 u4 e5
  refine V_aload_n 0 rfl dX6_isSated_6 rfl ?_
  refine V_iload_n 1 rfl dX6_isSated_7 rfl ?_
  obtain ⟨P6, c7, h⟩ := h
  refine V_callVi (st := [II r3]) (as := [II v1]) okX6_needs rfl mlX6_63 (by decide) kY132 rfl (Nat.le_of_ble_eq_true rfl) rfl dX6_isSated_8 rfl c7 (fun r8 u9 e10 => ?_)
  have h := h r8 u9 e10
  obtain ⟨q11, h⟩ := h
  obtain ⟨q12, h⟩ := h
  have hj17 : V G mX6_isSated 19 [(0, RR 132), (1, II v1)] [II (if r3 < r8 then 0 else 1)] u9 Q := by
    exact V_iret dX6_isSated_19 (Or.inr ⟨rfl, by split <;> simp⟩) h
  refine V_icmp_lt q11 q12 dX6_isSated_11 (g := 18) rfl rfl ⟨fun hc => ?_, fun hc => ?_⟩
  · skip
    refine V_iconst dX6_isSated_18 rfl ?_
    rw [if_pos hc] at hj17
    exact hj17
  · skip
    refine V_iconst dX6_isSated_14 rfl ?_
    refine V_goto (g := 19) dX6_isSated_15 rfl ?_
    rw [if_neg hc] at hj17
    exact hj17
theorem eX6_sated {G : GG} {Q : Int → Mem → Prop} {t : Mem} (k : V G mX6_sated 0 [(0, RR 132)] [] t Q) : Ex G mX6_sated [RR 132] t Q := Ex.of plX6 (Or.inr (Or.inl rfl)) (Nat.le_of_ble_eq_true rfl) rfl k
set_option maxRecDepth 100000 in
theorem sgX6_sated_0 {G : GG} {Q : Int → Mem → Prop} {t : Mem}  (h : V G mX6_sated 4 [(0, RR 132), (1, II 0), (2, II 0)] [] t Q) : V G mX6_sated 0 [(0, RR 132)] [] t Q := by
  refine V_iconst dX6_sated_0 rfl ?_
  refine V_istore_n (ls2 := [(0, RR 132), (1, II 0)]) dX6_sated_1 rfl (by decide) rfl ?_
  refine V_iconst dX6_sated_2 rfl ?_
  refine V_istore_n (ls2 := [(0, RR 132), (1, II 0), (2, II 0)]) dX6_sated_3 rfl (by decide) rfl ?_
  exact h
set_option maxRecDepth 100000 in
theorem sgX6_sated_4 {G : GG} {Q : Int → Mem → Prop} {t : Mem} {v1 v2 : Int}  (h : In32 v2 ∧ In32 (t 133 12) ∧ ((t 133 12) ≤ v2 → Q v1 t) ∧ (¬ (t 133 12) ≤ v2 → ∃ P3 : Int → Mem → Prop, Ex G mX6_isSated [RR 132, II v2] t P3 ∧ ∀ (r5 : Int) (u6 : Mem), P3 r5 u6 → In32 r5 ∧ ∀ w9 : Int, w9 = (if r5 = 0 then 0 else iShl 1 v2) → V G mX6_sated 4 [(0, RR 132), (1, II (iOr v1 w9)), (2, II (v2 + 1))] [] u6 Q)) : V G mX6_sated 4 [(0, RR 132), (1, II v1), (2, II v2)] [] t Q := by
  refine V_iload_n 2 rfl dX6_sated_4 rfl ?_
  refine V_aload_n 0 rfl dX6_sated_5 rfl ?_
  refine gX6_7 rfl kY132 rF132_0 dX6_sated_6 rfl ?_
  refine V_bipush (by decide) dX6_sated_9 rfl ?_
  refine V_ialdL 12 rfl kY133 lI133 rfl dX6_sated_11 rfl ?_
  obtain ⟨q1, h⟩ := h
  obtain ⟨q2, h⟩ := h
  refine V_icmp_ge q1 q2 dX6_sated_12 (g := 39) rfl rfl ⟨fun hc => ?_, fun hc => ?_⟩
  · have h := h.1 hc
    refine V_iload_n 1 rfl dX6_sated_39 rfl ?_
    exact V_iret dX6_sated_40 (Or.inl rfl) h
  · have h := h.2 hc
    refine V_iload_n 1 rfl dX6_sated_15 rfl ?_
    refine V_aload_n 0 rfl dX6_sated_16 rfl ?_
    refine V_iload_n 2 rfl dX6_sated_17 rfl ?_
    obtain ⟨P3, c4, h⟩ := h
    refine V_callVi (st := [II v1]) (as := [II v2]) okX6_isSated rfl mlX6_67 (by decide) kY132 rfl (Nat.le_of_ble_eq_true rfl) rfl dX6_sated_18 rfl c4 (fun r5 u6 e7 => ?_)
    have h := h r5 u6 e7
    obtain ⟨q8, h⟩ := h
    have hj13 : ∀ w9 : Int, w9 = (if r5 = 0 then 0 else iShl 1 v2) → V G mX6_sated 31 [(0, RR 132), (1, II v1), (2, II v2)] [II w9, II v1] u6 Q := by
      intro w9 e10
      have h := h w9 e10
      refine V_ior dX6_sated_31 rfl ?_
      refine V_istore_n (ls2 := [(0, RR 132), (1, II (iOr v1 w9)), (2, II v2)]) dX6_sated_32 rfl (by decide) rfl ?_
      refine V_iinc 2 rfl (ls2 := [(0, RR 132), (1, II (iOr v1 w9)), (2, II (v2 + 1))]) dX6_sated_33 rfl (by decide) rfl ?_
      refine V_goto (g := 4) dX6_sated_36 rfl ?_
      exact h
    have hj13 := hj13 _ rfl
    refine V_if_eq q8 dX6_sated_21 (g := 30) rfl rfl ⟨fun hc => ?_, fun hc => ?_⟩
    · skip
      refine V_iconst dX6_sated_30 rfl ?_
      rw [if_pos hc] at hj13
      exact hj13
    · skip
      refine V_iconst dX6_sated_24 rfl ?_
      refine V_iload_n 2 rfl dX6_sated_25 rfl ?_
      refine V_ishl dX6_sated_26 rfl ?_
      refine V_goto (g := 31) dX6_sated_27 rfl ?_
      rw [if_neg hc] at hj13
      exact hj13
theorem eX6_beast {G : GG} {Q : Int → Mem → Prop} {t : Mem} {v1 v2 v3 : Int} (k : V G mX6_beast 0 [(0, RR 132), (1, II v1), (2, II v2), (3, II v3)] [] t Q) : Ex G mX6_beast [RR 132, II v1, II v2, II v3] t Q := Ex.of plX6 (Or.inr (Or.inl rfl)) (Nat.le_of_ble_eq_true rfl) rfl k
set_option maxRecDepth 100000 in
theorem sgX6_beast_0 {G : GG} {Q : Int → Mem → Prop} {t : Mem} {v1 v2 v3 : Int}  (h : In32 v1 ∧ ∃ P2 : Int → Mem → Prop, Ex G mX6_in [JJ v1, JJ 0, JJ 3] t P2 ∧ ∀ (r4 : Int) (u5 : Mem), P2 r4 u5 → In32 r4 ∧ (r4 = 0 → Q (-1) u5) ∧ (¬ r4 = 0 → In32 v2 ∧ ∃ P9 : Int → Mem → Prop, Ex G mX6_in [JJ v2, JJ 1, JJ 9] u5 P9 ∧ ∀ (r11 : Int) (u12 : Mem), P9 r11 u12 → In32 r11 ∧ (r11 = 0 → Q (-1) u12) ∧ (¬ r11 = 0 → In32 v3 ∧ ∃ P16 : Int → Mem → Prop, Ex G mX6_in [JJ v3, JJ 0, JJ 1] u12 P16 ∧ ∀ (r18 : Int) (u19 : Mem), P16 r18 u19 → In32 r18 ∧ (¬ r18 = 0 → In32 (u19 133 12) ∧ (¬ (u19 133 12) = 7 → (0 ≤ 14 + (7 * (u19 133 12)) ∧ 14 + (7 * (u19 133 12)) < 63) ∧ ∀ u23 : Mem, u23 = wr u19 133 (14 + (7 * (u19 133 12))).toNat v1 → (0 ≤ (14 + (7 * (u19 133 12))) + 1 ∧ (14 + (7 * (u19 133 12))) + 1 < 63) ∧ ∀ u26 : Mem, u26 = wr u23 133 ((14 + (7 * (u19 133 12))) + 1).toNat v2 → (0 ≤ (14 + (7 * (u19 133 12))) + 2 ∧ (14 + (7 * (u19 133 12))) + 2 < 63) ∧ ∀ u29 : Mem, u29 = wr u26 133 ((14 + (7 * (u19 133 12))) + 2).toNat v3 → V G mX6_beast 97 [(0, RR 132), (1, II v1), (2, II v2), (3, II v3), (4, II (14 + (7 * (u19 133 12)))), (5, II 3)] [] u29 Q) ∧ ((u19 133 12) = 7 → Q (-3) u19)) ∧ (r18 = 0 → Q (-1) u19)))) : V G mX6_beast 0 [(0, RR 132), (1, II v1), (2, II v2), (3, II v3)] [] t Q := by
  refine V_iload_n 1 rfl dX6_beast_0 rfl ?_
  obtain ⟨q1, h⟩ := h
  refine V_i2l q1 dX6_beast_1 rfl ?_
  refine V_lconst (z := 0) rfl dX6_beast_2 rfl ?_
  refine V_ldc2 (x := 3) ctX6_70 rfl dX6_beast_3 rfl ?_
  obtain ⟨P2, c3, h⟩ := h
  refine V_callSi (st := []) (as := [JJ v1, JJ 0, JJ 3]) okX6_in rfl mlX6_51 (by decide) rfl (Nat.le_of_ble_eq_true rfl) rfl dX6_beast_6 rfl c3 (fun r4 u5 e6 => ?_)
  have h := h r4 u5 e6
  obtain ⟨q7, h⟩ := h
  refine V_if_eq q7 dX6_beast_9 (g := 34) rfl rfl ⟨fun hc => ?_, fun hc => ?_⟩
  · have h := h.1 hc
    refine V_iconst dX6_beast_34 rfl ?_
    exact V_iret dX6_beast_35 (Or.inl rfl) h
  · have h := h.2 hc
    refine V_iload_n 2 rfl dX6_beast_12 rfl ?_
    obtain ⟨q8, h⟩ := h
    refine V_i2l q8 dX6_beast_13 rfl ?_
    refine V_lconst (z := 1) rfl dX6_beast_14 rfl ?_
    refine V_ldc2 (x := 9) ctX6_72 rfl dX6_beast_15 rfl ?_
    obtain ⟨P9, c10, h⟩ := h
    refine V_callSi (st := []) (as := [JJ v2, JJ 1, JJ 9]) okX6_in rfl mlX6_51 (by decide) rfl (Nat.le_of_ble_eq_true rfl) rfl dX6_beast_18 rfl c10 (fun r11 u12 e13 => ?_)
    have h := h r11 u12 e13
    obtain ⟨q14, h⟩ := h
    refine V_if_eq q14 dX6_beast_21 (g := 34) rfl rfl ⟨fun hc => ?_, fun hc => ?_⟩
    · have h := h.1 hc
      refine V_iconst dX6_beast_34 rfl ?_
      exact V_iret dX6_beast_35 (Or.inl rfl) h
    · have h := h.2 hc
      refine V_iload_n 3 rfl dX6_beast_24 rfl ?_
      obtain ⟨q15, h⟩ := h
      refine V_i2l q15 dX6_beast_25 rfl ?_
      refine V_lconst (z := 0) rfl dX6_beast_26 rfl ?_
      refine V_lconst (z := 1) rfl dX6_beast_27 rfl ?_
      obtain ⟨P16, c17, h⟩ := h
      refine V_callSi (st := []) (as := [JJ v3, JJ 0, JJ 1]) okX6_in rfl mlX6_51 (by decide) rfl (Nat.le_of_ble_eq_true rfl) rfl dX6_beast_28 rfl c17 (fun r18 u19 e20 => ?_)
      have h := h r18 u19 e20
      obtain ⟨q21, h⟩ := h
      refine V_if_ne q21 dX6_beast_31 (g := 36) rfl rfl ⟨fun hc => ?_, fun hc => ?_⟩
      · have h := h.1 hc
        refine V_aload_n 0 rfl dX6_beast_36 rfl ?_
        refine gX6_7 rfl kY132 rF132_0 dX6_beast_37 rfl ?_
        refine V_bipush (by decide) dX6_beast_40 rfl ?_
        refine V_ialdL 12 rfl kY133 lI133 rfl dX6_beast_42 rfl ?_
        refine V_bipush (by decide) dX6_beast_43 rfl ?_
        obtain ⟨q22, h⟩ := h
        refine V_icmp_ne q22 (iL rfl) dX6_beast_45 (g := 51) rfl rfl ⟨fun hc => ?_, fun hc => ?_⟩
        · have h := h.1 hc
          refine V_bipush (by decide) dX6_beast_51 rfl ?_
          refine V_bipush (by decide) dX6_beast_53 rfl ?_
          refine V_aload_n 0 rfl dX6_beast_55 rfl ?_
          refine gX6_7 rfl kY132 rF132_0 dX6_beast_56 rfl ?_
          refine V_bipush (by decide) dX6_beast_59 rfl ?_
          refine V_ialdL 12 rfl kY133 lI133 rfl dX6_beast_61 rfl ?_
          refine V_imul dX6_beast_62 rfl ?_
          refine V_iadd dX6_beast_63 rfl ?_
          refine V_istore (ls2 := [(0, RR 132), (1, II v1), (2, II v2), (3, II v3), (4, II (14 + (7 * (u19 133 12))))]) dX6_beast_64 rfl (by decide) rfl ?_
          refine V_aload_n 0 rfl dX6_beast_66 rfl ?_
          refine gX6_7 rfl kY132 rF132_0 dX6_beast_67 rfl ?_
          refine V_iload 4 rfl dX6_beast_70 rfl ?_
          refine V_iload_n 1 rfl dX6_beast_72 rfl ?_
          obtain ⟨q25, h⟩ := h
          refine V_iastn kY133 lI133 q25 dX6_beast_73 rfl (fun u23 e24 => ?_)
          have h := h u23 e24
          refine V_aload_n 0 rfl dX6_beast_74 rfl ?_
          refine gX6_7 rfl kY132 rF132_0 dX6_beast_75 rfl ?_
          refine V_iload 4 rfl dX6_beast_78 rfl ?_
          refine V_iconst dX6_beast_80 rfl ?_
          refine V_iadd dX6_beast_81 rfl ?_
          refine V_iload_n 2 rfl dX6_beast_82 rfl ?_
          obtain ⟨q28, h⟩ := h
          refine V_iastn kY133 lI133 q28 dX6_beast_83 rfl (fun u26 e27 => ?_)
          have h := h u26 e27
          refine V_aload_n 0 rfl dX6_beast_84 rfl ?_
          refine gX6_7 rfl kY132 rF132_0 dX6_beast_85 rfl ?_
          refine V_iload 4 rfl dX6_beast_88 rfl ?_
          refine V_iconst dX6_beast_90 rfl ?_
          refine V_iadd dX6_beast_91 rfl ?_
          refine V_iload_n 3 rfl dX6_beast_92 rfl ?_
          obtain ⟨q31, h⟩ := h
          refine V_iastn kY133 lI133 q31 dX6_beast_93 rfl (fun u29 e30 => ?_)
          have h := h u29 e30
          refine V_iconst dX6_beast_94 rfl ?_
          refine V_istore (ls2 := [(0, RR 132), (1, II v1), (2, II v2), (3, II v3), (4, II (14 + (7 * (u19 133 12)))), (5, II 3)]) dX6_beast_95 rfl (by decide) rfl ?_
          exact h
        · have h := h.2 hc
          refine V_bipush (by decide) dX6_beast_48 rfl ?_
          exact V_iret dX6_beast_50 (Or.inl rfl) h
      · have h := h.2 hc
        refine V_iconst dX6_beast_34 rfl ?_
        exact V_iret dX6_beast_35 (Or.inl rfl) h
set_option maxRecDepth 100000 in
theorem sgX6_beast_97 {G : GG} {Q : Int → Mem → Prop} {t : Mem} {v1 v2 v3 v4 v5 : Int}  (h : In32 v5 ∧ (7 ≤ v5 → ∀ u2 : Mem, u2 = wr t 132 5 0 → ∀ u4 : Mem, u4 = wr u2 132 2 (-1) → ∀ u6 : Mem, u6 = wr u4 133 12 ((u4 133 12) + 1) → Q ((u6 133 12) - 1) u6) ∧ (¬ 7 ≤ v5 → (0 ≤ v4 + v5 ∧ v4 + v5 < 63) ∧ ∀ u8 : Mem, u8 = wr t 133 (v4 + v5).toNat 0 → V G mX6_beast 97 [(0, RR 132), (1, II v1), (2, II v2), (3, II v3), (4, II v4), (5, II (v5 + 1))] [] u8 Q)) : V G mX6_beast 97 [(0, RR 132), (1, II v1), (2, II v2), (3, II v3), (4, II v4), (5, II v5)] [] t Q := by
  refine V_iload 5 rfl dX6_beast_97 rfl ?_
  refine V_bipush (by decide) dX6_beast_99 rfl ?_
  obtain ⟨q1, h⟩ := h
  refine V_icmp_ge q1 (iL rfl) dX6_beast_101 (g := 121) rfl rfl ⟨fun hc => ?_, fun hc => ?_⟩
  · have h := h.1 hc
    refine V_aload_n 0 rfl dX6_beast_121 rfl ?_
    refine V_iconst dX6_beast_122 rfl ?_
    refine pX6_74 rfl kY132 dX6_beast_123 rfl (fun u2 e3 => ?_)
    have h := h u2 e3
    refine V_aload_n 0 rfl dX6_beast_126 rfl ?_
    refine V_iconst dX6_beast_127 rfl ?_
    refine pX6_16 rfl kY132 dX6_beast_128 rfl (fun u4 e5 => ?_)
    have h := h u4 e5
    refine V_aload_n 0 rfl dX6_beast_131 rfl ?_
    refine gX6_7 rfl kY132 rF132_0 dX6_beast_132 rfl ?_
    refine V_bipush (by decide) dX6_beast_135 rfl ?_
    refine V_dup2 rfl rfl dX6_beast_137 rfl ?_
    refine V_ialdL 12 rfl kY133 lI133 rfl dX6_beast_138 rfl ?_
    refine V_iconst dX6_beast_139 rfl ?_
    refine V_iadd dX6_beast_140 rfl ?_
    refine V_iastL 12 rfl kY133 lI133 rfl dX6_beast_141 rfl (fun u6 e7 => ?_)
    have h := h u6 e7
    refine V_aload_n 0 rfl dX6_beast_142 rfl ?_
    refine gX6_7 rfl kY132 rF132_0 dX6_beast_143 rfl ?_
    refine V_bipush (by decide) dX6_beast_146 rfl ?_
    refine V_ialdL 12 rfl kY133 lI133 rfl dX6_beast_148 rfl ?_
    refine V_iconst dX6_beast_149 rfl ?_
    refine V_isub dX6_beast_150 rfl ?_
    exact V_iret dX6_beast_151 (Or.inl rfl) h
  · have h := h.2 hc
    refine V_aload_n 0 rfl dX6_beast_104 rfl ?_
    refine gX6_7 rfl kY132 rF132_0 dX6_beast_105 rfl ?_
    refine V_iload 4 rfl dX6_beast_108 rfl ?_
    refine V_iload 5 rfl dX6_beast_110 rfl ?_
    refine V_iadd dX6_beast_112 rfl ?_
    refine V_iconst dX6_beast_113 rfl ?_
    obtain ⟨q10, h⟩ := h
    refine V_iastn kY133 lI133 q10 dX6_beast_114 rfl (fun u8 e9 => ?_)
    have h := h u8 e9
    refine V_iinc 5 rfl (ls2 := [(0, RR 132), (1, II v1), (2, II v2), (3, II v3), (4, II v4), (5, II (v5 + 1))]) dX6_beast_115 rfl (by decide) rfl ?_
    refine V_goto (g := 97) dX6_beast_118 rfl ?_
    exact h
theorem eX6_of {G : GG} {Q : Int → Mem → Prop} {t : Mem} {v1 v2 : Int} (k : V G mX6_of 0 [(0, RR 132), (1, II v1), (2, II v2)] [] t Q) : Ex G mX6_of [RR 132, II v1, II v2] t Q := Ex.of plX6 (Or.inr (Or.inl rfl)) (Nat.le_of_ble_eq_true rfl) rfl k
set_option maxRecDepth 100000 in
theorem sgX6_of_0 {G : GG} {Q : Int → Mem → Prop} {t : Mem} {v1 v2 : Int}  (h : ∃ P1 : Int → Mem → Prop, Ex G mX6_isBeast [RR 132, II v1] t P1 ∧ ∀ (r3 : Int) (u4 : Mem), P1 r3 u4 → In32 r3 ∧ (r3 = 0 → Q (-1) u4) ∧ (¬ r3 = 0 → In32 v2 ∧ ∃ P8 : Int → Mem → Prop, Ex G mX6_in [JJ v2, JJ 0, JJ 8] u4 P8 ∧ ∀ (r10 : Int) (u11 : Mem), P8 r10 u11 → In32 r10 ∧ (¬ r10 = 0 → (v2 = 0 → ∃ P15 : Int → Mem → Prop, Ex G mX6_at [RR 132, II v1, II v2] u11 P15 ∧ ∀ (r17 : Int) (u18 : Mem), P15 r17 u18 → Q r17 u18) ∧ (v2 = 1 → ∃ P20 : Int → Mem → Prop, Ex G mX6_at [RR 132, II v1, II v2] u11 P20 ∧ ∀ (r22 : Int) (u23 : Mem), P20 r22 u23 → Q r22 u23) ∧ (v2 = 2 → ∃ P25 : Int → Mem → Prop, Ex G mX6_at [RR 132, II v1, II v2] u11 P25 ∧ ∀ (r27 : Int) (u28 : Mem), P25 r27 u28 → Q r27 u28) ∧ (v2 = 3 → ∃ P30 : Int → Mem → Prop, Ex G mX6_needs [RR 132, II v1] u11 P30 ∧ ∀ (r32 : Int) (u33 : Mem), P30 r32 u33 → Q r32 u33) ∧ (v2 = 4 → ∃ P35 : Int → Mem → Prop, Ex G mX6_at [RR 132, II v1, II (v2 - 1)] u11 P35 ∧ ∀ (r37 : Int) (u38 : Mem), P35 r37 u38 → Q r37 u38) ∧ (v2 = 5 → ∃ P40 : Int → Mem → Prop, Ex G mX6_at [RR 132, II v1, II (v2 - 1)] u11 P40 ∧ ∀ (r42 : Int) (u43 : Mem), P40 r42 u43 → Q r42 u43) ∧ (v2 = 6 → ∃ P45 : Int → Mem → Prop, Ex G mX6_isSated [RR 132, II v1] u11 P45 ∧ ∀ (r47 : Int) (u48 : Mem), P45 r47 u48 → In32 r47 ∧ Q (if r47 = 0 then 0 else 1) u48) ∧ (v2 = 7 → ∃ P56 : Int → Mem → Prop, Ex G mX6_at [RR 132, II v1, II 6] u11 P56 ∧ ∀ (r58 : Int) (u59 : Mem), P56 r58 u59 → Q r58 u59) ∧ ((v2 < 0 ∨ 7 < v2) → ∃ P61 : Int → Mem → Prop, Ex G mX6_drinks [RR 132, II v1] u11 P61 ∧ ∀ (r63 : Int) (u64 : Mem), P61 r63 u64 → Q r63 u64)) ∧ (r10 = 0 → Q (-1) u11))) : V G mX6_of 0 [(0, RR 132), (1, II v1), (2, II v2)] [] t Q := by
  refine V_aload_n 0 rfl dX6_of_0 rfl ?_
  refine V_iload_n 1 rfl dX6_of_1 rfl ?_
  obtain ⟨P1, c2, h⟩ := h
  refine V_callVi (st := []) (as := [II v1]) okX6_isBeast rfl mlX6_77 (by decide) kY132 rfl (Nat.le_of_ble_eq_true rfl) rfl dX6_of_2 rfl c2 (fun r3 u4 e5 => ?_)
  have h := h r3 u4 e5
  obtain ⟨q6, h⟩ := h
  refine V_if_eq q6 dX6_of_5 (g := 20) rfl rfl ⟨fun hc => ?_, fun hc => ?_⟩
  · have h := h.1 hc
    refine V_iconst dX6_of_20 rfl ?_
    exact V_iret dX6_of_21 (Or.inl rfl) h
  · have h := h.2 hc
    refine V_iload_n 2 rfl dX6_of_8 rfl ?_
    obtain ⟨q7, h⟩ := h
    refine V_i2l q7 dX6_of_9 rfl ?_
    refine V_lconst (z := 0) rfl dX6_of_10 rfl ?_
    refine V_ldc2 (x := 8) ctX6_80 rfl dX6_of_11 rfl ?_
    obtain ⟨P8, c9, h⟩ := h
    refine V_callSi (st := []) (as := [JJ v2, JJ 0, JJ 8]) okX6_in rfl mlX6_51 (by decide) rfl (Nat.le_of_ble_eq_true rfl) rfl dX6_of_14 rfl c9 (fun r10 u11 e12 => ?_)
    have h := h r10 u11 e12
    obtain ⟨q13, h⟩ := h
    refine V_if_ne q13 dX6_of_17 (g := 22) rfl rfl ⟨fun hc => ?_, fun hc => ?_⟩
    · have h := h.1 hc
      refine V_iload_n 2 rfl dX6_of_22 rfl ?_
      have hs14 : v2 = 0 ∨ v2 = 1 ∨ v2 = 2 ∨ v2 = 3 ∨ v2 = 4 ∨ v2 = 5 ∨ v2 = 6 ∨ v2 = 7 ∨ (v2 < 0 ∨ 7 < v2) := by omega
      rcases hs14 with hc | hc | hc | hc | hc | hc | hc | hc | hc
      · have h := h.1 hc
        refine V_tsIn (i := 0) (g := 68) dX6_of_23 hc (by decide) (iL rfl) rfl rfl ?_
        refine V_aload_n 0 rfl dX6_of_68 rfl ?_
        refine V_iload_n 1 rfl dX6_of_69 rfl ?_
        refine V_iload_n 2 rfl dX6_of_70 rfl ?_
        obtain ⟨P15, c16, h⟩ := h
        refine V_callVi (st := []) (as := [II v1, II v2]) okX6_at rfl mlX6_55 (by decide) kY132 rfl (Nat.le_of_ble_eq_true rfl) rfl dX6_of_71 rfl c16 (fun r17 u18 e19 => ?_)
        have h := h r17 u18 e19
        exact V_iret dX6_of_74 (Or.inl rfl) h
      · have h := h.2.1 hc
        refine V_tsIn (i := 1) (g := 68) dX6_of_23 hc (by decide) (iL rfl) rfl rfl ?_
        refine V_aload_n 0 rfl dX6_of_68 rfl ?_
        refine V_iload_n 1 rfl dX6_of_69 rfl ?_
        refine V_iload_n 2 rfl dX6_of_70 rfl ?_
        obtain ⟨P20, c21, h⟩ := h
        refine V_callVi (st := []) (as := [II v1, II v2]) okX6_at rfl mlX6_55 (by decide) kY132 rfl (Nat.le_of_ble_eq_true rfl) rfl dX6_of_71 rfl c21 (fun r22 u23 e24 => ?_)
        have h := h r22 u23 e24
        exact V_iret dX6_of_74 (Or.inl rfl) h
      · have h := h.2.2.1 hc
        refine V_tsIn (i := 2) (g := 68) dX6_of_23 hc (by decide) (iL rfl) rfl rfl ?_
        refine V_aload_n 0 rfl dX6_of_68 rfl ?_
        refine V_iload_n 1 rfl dX6_of_69 rfl ?_
        refine V_iload_n 2 rfl dX6_of_70 rfl ?_
        obtain ⟨P25, c26, h⟩ := h
        refine V_callVi (st := []) (as := [II v1, II v2]) okX6_at rfl mlX6_55 (by decide) kY132 rfl (Nat.le_of_ble_eq_true rfl) rfl dX6_of_71 rfl c26 (fun r27 u28 e29 => ?_)
        have h := h r27 u28 e29
        exact V_iret dX6_of_74 (Or.inl rfl) h
      · have h := h.2.2.2.1 hc
        refine V_tsIn (i := 3) (g := 75) dX6_of_23 hc (by decide) (iL rfl) rfl rfl ?_
        refine V_aload_n 0 rfl dX6_of_75 rfl ?_
        refine V_iload_n 1 rfl dX6_of_76 rfl ?_
        obtain ⟨P30, c31, h⟩ := h
        refine V_callVi (st := []) (as := [II v1]) okX6_needs rfl mlX6_63 (by decide) kY132 rfl (Nat.le_of_ble_eq_true rfl) rfl dX6_of_77 rfl c31 (fun r32 u33 e34 => ?_)
        have h := h r32 u33 e34
        exact V_iret dX6_of_80 (Or.inl rfl) h
      · have h := h.2.2.2.2.1 hc
        refine V_tsIn (i := 4) (g := 81) dX6_of_23 hc (by decide) (iL rfl) rfl rfl ?_
        refine V_aload_n 0 rfl dX6_of_81 rfl ?_
        refine V_iload_n 1 rfl dX6_of_82 rfl ?_
        refine V_iload_n 2 rfl dX6_of_83 rfl ?_
        refine V_iconst dX6_of_84 rfl ?_
        refine V_isub dX6_of_85 rfl ?_
        obtain ⟨P35, c36, h⟩ := h
        refine V_callVi (st := []) (as := [II v1, II (v2 - 1)]) okX6_at rfl mlX6_55 (by decide) kY132 rfl (Nat.le_of_ble_eq_true rfl) rfl dX6_of_86 rfl c36 (fun r37 u38 e39 => ?_)
        have h := h r37 u38 e39
        exact V_iret dX6_of_89 (Or.inl rfl) h
      · have h := h.2.2.2.2.2.1 hc
        refine V_tsIn (i := 5) (g := 81) dX6_of_23 hc (by decide) (iL rfl) rfl rfl ?_
        refine V_aload_n 0 rfl dX6_of_81 rfl ?_
        refine V_iload_n 1 rfl dX6_of_82 rfl ?_
        refine V_iload_n 2 rfl dX6_of_83 rfl ?_
        refine V_iconst dX6_of_84 rfl ?_
        refine V_isub dX6_of_85 rfl ?_
        obtain ⟨P40, c41, h⟩ := h
        refine V_callVi (st := []) (as := [II v1, II (v2 - 1)]) okX6_at rfl mlX6_55 (by decide) kY132 rfl (Nat.le_of_ble_eq_true rfl) rfl dX6_of_86 rfl c41 (fun r42 u43 e44 => ?_)
        have h := h r42 u43 e44
        exact V_iret dX6_of_89 (Or.inl rfl) h
      · have h := h.2.2.2.2.2.2.1 hc
        refine V_tsIn (i := 6) (g := 90) dX6_of_23 hc (by decide) (iL rfl) rfl rfl ?_
        refine V_aload_n 0 rfl dX6_of_90 rfl ?_
        refine V_iload_n 1 rfl dX6_of_91 rfl ?_
        obtain ⟨P45, c46, h⟩ := h
        refine V_callVi (st := []) (as := [II v1]) okX6_isSated rfl mlX6_67 (by decide) kY132 rfl (Nat.le_of_ble_eq_true rfl) rfl dX6_of_92 rfl c46 (fun r47 u48 e49 => ?_)
        have h := h r47 u48 e49
        obtain ⟨q50, h⟩ := h
        have hj55 : V G mX6_of 103 [(0, RR 132), (1, II v1), (2, II v2)] [II (if r47 = 0 then 0 else 1)] u48 Q := by
          exact V_iret dX6_of_103 (Or.inl rfl) h
        refine V_if_eq q50 dX6_of_95 (g := 102) rfl rfl ⟨fun hc => ?_, fun hc => ?_⟩
        · skip
          refine V_iconst dX6_of_102 rfl ?_
          rw [if_pos hc] at hj55
          exact hj55
        · skip
          refine V_iconst dX6_of_98 rfl ?_
          refine V_goto (g := 103) dX6_of_99 rfl ?_
          rw [if_neg hc] at hj55
          exact hj55
      · have h := h.2.2.2.2.2.2.2.1 hc
        refine V_tsIn (i := 7) (g := 104) dX6_of_23 hc (by decide) (iL rfl) rfl rfl ?_
        refine V_aload_n 0 rfl dX6_of_104 rfl ?_
        refine V_iload_n 1 rfl dX6_of_105 rfl ?_
        refine V_bipush (by decide) dX6_of_106 rfl ?_
        obtain ⟨P56, c57, h⟩ := h
        refine V_callVi (st := []) (as := [II v1, II 6]) okX6_at rfl mlX6_55 (by decide) kY132 rfl (Nat.le_of_ble_eq_true rfl) rfl dX6_of_108 rfl c57 (fun r58 u59 e60 => ?_)
        have h := h r58 u59 e60
        exact V_iret dX6_of_111 (Or.inl rfl) h
      · have h := h.2.2.2.2.2.2.2.2 hc
        refine V_tsOut (g := 112) dX6_of_23 q7 hc rfl ?_
        refine V_aload_n 0 rfl dX6_of_112 rfl ?_
        refine V_iload_n 1 rfl dX6_of_113 rfl ?_
        obtain ⟨P61, c62, h⟩ := h
        refine V_callVi (st := []) (as := [II v1]) okX6_drinks rfl mlX6_82 (by decide) kY132 rfl (Nat.le_of_ble_eq_true rfl) rfl dX6_of_114 rfl c62 (fun r63 u64 e65 => ?_)
        have h := h r63 u64 e65
        exact V_iret dX6_of_117 (Or.inl rfl) h
    · have h := h.2 hc
      refine V_iconst dX6_of_20 rfl ?_
      exact V_iret dX6_of_21 (Or.inl rfl) h
theorem eX6_low {G : GG} {Q : Int → Mem → Prop} {t : Mem} {v0 : Int} (k : V G mX6_low 0 [(0, II v0)] [] t Q) : Ex G mX6_low [II v0] t Q := Ex.of plX6 (Or.inr (Or.inl rfl)) (Nat.le_of_ble_eq_true rfl) rfl k
set_option maxRecDepth 100000 in
theorem sgX6_low_0 {G : GG} {Q : Int → Mem → Prop} {t : Mem} {v0 : Int}  (h : In32 v0 ∧ (v0 = 2 → Q 1 t) ∧ (¬ v0 = 2 → (v0 = 3 → Q 1 t) ∧ (¬ v0 = 3 → Q (if v0 = 4 then 1 else 0) t))) : V G mX6_low 0 [(0, II v0)] [] t Q := by
  refine V_iload_n 0 rfl dX6_low_0 rfl ?_
  refine V_iconst dX6_low_1 rfl ?_
  obtain ⟨q1, h⟩ := h
  refine V_icmp_eq q1 (iL rfl) dX6_low_2 (g := 15) rfl rfl ⟨fun hc => ?_, fun hc => ?_⟩
  · have h := h.1 hc
    refine V_iconst dX6_low_15 rfl ?_
    refine V_goto (g := 20) dX6_low_16 rfl ?_
    exact V_iret dX6_low_20 (Or.inl rfl) h
  · have h := h.2 hc
    refine V_iload_n 0 rfl dX6_low_5 rfl ?_
    refine V_iconst dX6_low_6 rfl ?_
    refine V_icmp_eq q1 (iL rfl) dX6_low_7 (g := 15) rfl rfl ⟨fun hc => ?_, fun hc => ?_⟩
    · have h := h.1 hc
      refine V_iconst dX6_low_15 rfl ?_
      refine V_goto (g := 20) dX6_low_16 rfl ?_
      exact V_iret dX6_low_20 (Or.inl rfl) h
    · have h := h.2 hc
      refine V_iload_n 0 rfl dX6_low_10 rfl ?_
      refine V_iconst dX6_low_11 rfl ?_
      have hj6 : V G mX6_low 20 [(0, II v0)] [II (if v0 = 4 then 1 else 0)] t Q := by
        exact V_iret dX6_low_20 (Or.inl rfl) h
      refine V_icmp_ne q1 (iL rfl) dX6_low_12 (g := 19) rfl rfl ⟨fun hc => ?_, fun hc => ?_⟩
      · skip
        refine V_iconst dX6_low_19 rfl ?_
        rw [if_neg hc] at hj6
        exact hj6
      · skip
        refine V_iconst dX6_low_15 rfl ?_
        refine V_goto (g := 20) dX6_low_16 rfl ?_
        rw [if_pos hc] at hj6
        exact hj6
theorem eX6_high {G : GG} {Q : Int → Mem → Prop} {t : Mem} {v0 : Int} (k : V G mX6_high 0 [(0, II v0)] [] t Q) : Ex G mX6_high [II v0] t Q := Ex.of plX6 (Or.inr (Or.inl rfl)) (Nat.le_of_ble_eq_true rfl) rfl k
set_option maxRecDepth 100000 in
theorem sgX6_high_0 {G : GG} {Q : Int → Mem → Prop} {t : Mem} {v0 : Int}  (h : In32 v0 ∧ (v0 = 1 → Q 20 t) ∧ (v0 = 2 → Q 40 t) ∧ (v0 = 3 → Q 9 t) ∧ (v0 = 4 → Q 7 t) ∧ (v0 = 5 → Q 60 t) ∧ (v0 = 6 → Q 3 t) ∧ ((v0 < 1 ∨ 6 < v0) → Q 60 t)) : V G mX6_high 0 [(0, II v0)] [] t Q := by
  refine V_iload_n 0 rfl dX6_high_0 rfl ?_
  obtain ⟨q1, h⟩ := h
  have hs2 : v0 = 1 ∨ v0 = 2 ∨ v0 = 3 ∨ v0 = 4 ∨ v0 = 5 ∨ v0 = 6 ∨ (v0 < 1 ∨ 6 < v0) := by omega
  rcases hs2 with hc | hc | hc | hc | hc | hc | hc
  · have h := h.1 hc
    refine V_tsIn (i := 0) (g := 40) dX6_high_1 hc (by decide) (iL rfl) rfl rfl ?_
    refine V_bipush (by decide) dX6_high_40 rfl ?_
    exact V_iret dX6_high_42 (Or.inl rfl) h
  · have h := h.2.1 hc
    refine V_tsIn (i := 1) (g := 43) dX6_high_1 hc (by decide) (iL rfl) rfl rfl ?_
    refine V_bipush (by decide) dX6_high_43 rfl ?_
    exact V_iret dX6_high_45 (Or.inl rfl) h
  · have h := h.2.2.1 hc
    refine V_tsIn (i := 2) (g := 46) dX6_high_1 hc (by decide) (iL rfl) rfl rfl ?_
    refine V_bipush (by decide) dX6_high_46 rfl ?_
    exact V_iret dX6_high_48 (Or.inl rfl) h
  · have h := h.2.2.2.1 hc
    refine V_tsIn (i := 3) (g := 49) dX6_high_1 hc (by decide) (iL rfl) rfl rfl ?_
    refine V_bipush (by decide) dX6_high_49 rfl ?_
    exact V_iret dX6_high_51 (Or.inl rfl) h
  · have h := h.2.2.2.2.1 hc
    refine V_tsIn (i := 4) (g := 54) dX6_high_1 hc (by decide) (iL rfl) rfl rfl ?_
    refine V_bipush (by decide) dX6_high_54 rfl ?_
    exact V_iret dX6_high_56 (Or.inl rfl) h
  · have h := h.2.2.2.2.2.1 hc
    refine V_tsIn (i := 5) (g := 52) dX6_high_1 hc (by decide) (iL rfl) rfl rfl ?_
    refine V_iconst dX6_high_52 rfl ?_
    exact V_iret dX6_high_53 (Or.inl rfl) h
  · have h := h.2.2.2.2.2.2 hc
    refine V_tsOut (g := 54) dX6_high_1 q1 hc rfl ?_
    refine V_bipush (by decide) dX6_high_54 rfl ?_
    exact V_iret dX6_high_56 (Or.inl rfl) h
theorem eX6_well {G : GG} {Q : Int → Mem → Prop} {t : Mem} {v1 v2 : Int} (k : V G mX6_well 0 [(0, RR 132), (1, II v1), (2, II v2)] [] t Q) : Ex G mX6_well [RR 132, II v1, II v2] t Q := Ex.of plX6 (Or.inr (Or.inl rfl)) (Nat.le_of_ble_eq_true rfl) rfl k
set_option maxRecDepth 100000 in
theorem sgX6_well_0 {G : GG} {Q : Int → Mem → Prop} {t : Mem} {v1 v2 : Int}  (h : In32 v1 ∧ ∃ P2 : Int → Mem → Prop, Ex G mX6_in [JJ v1, JJ 0, JJ 6] t P2 ∧ ∀ (r4 : Int) (u5 : Mem), P2 r4 u5 → In32 r4 ∧ (r4 = 0 → Q (-1) u5) ∧ (¬ r4 = 0 → In32 v2 ∧ ∃ P9 : Int → Mem → Prop, Ex G mX6_low [II v1] u5 P9 ∧ ∀ (r11 : Int) (u12 : Mem), P9 r11 u12 → In32 r11 ∧ ∃ P15 : Int → Mem → Prop, Ex G mX6_high [II v1] u12 P15 ∧ ∀ (r17 : Int) (u18 : Mem), P15 r17 u18 → In32 r17 ∧ ∃ P21 : Int → Mem → Prop, Ex G mX6_in [JJ v2, JJ r11, JJ r17] u18 P21 ∧ ∀ (r23 : Int) (u24 : Mem), P21 r23 u24 → In32 r23 ∧ (¬ r23 = 0 → (0 ≤ v1 ∧ v1 < 63) ∧ ∀ u28 : Mem, u28 = wr u24 133 v1.toNat v2 → Q (u24 133 v1.toNat) u28) ∧ (r23 = 0 → Q (-1) u24))) : V G mX6_well 0 [(0, RR 132), (1, II v1), (2, II v2)] [] t Q := by
  refine V_iload_n 1 rfl dX6_well_0 rfl ?_
  obtain ⟨q1, h⟩ := h
  refine V_i2l q1 dX6_well_1 rfl ?_
  refine V_lconst (z := 0) rfl dX6_well_2 rfl ?_
  refine V_ldc2 (x := 6) ctX6_85 rfl dX6_well_3 rfl ?_
  obtain ⟨P2, c3, h⟩ := h
  refine V_callSi (st := []) (as := [JJ v1, JJ 0, JJ 6]) okX6_in rfl mlX6_51 (by decide) rfl (Nat.le_of_ble_eq_true rfl) rfl dX6_well_6 rfl c3 (fun r4 u5 e6 => ?_)
  have h := h r4 u5 e6
  obtain ⟨q7, h⟩ := h
  refine V_if_eq q7 dX6_well_9 (g := 30) rfl rfl ⟨fun hc => ?_, fun hc => ?_⟩
  · have h := h.1 hc
    refine V_iconst dX6_well_30 rfl ?_
    exact V_iret dX6_well_31 (Or.inl rfl) h
  · have h := h.2 hc
    refine V_iload_n 2 rfl dX6_well_12 rfl ?_
    obtain ⟨q8, h⟩ := h
    refine V_i2l q8 dX6_well_13 rfl ?_
    refine V_iload_n 1 rfl dX6_well_14 rfl ?_
    obtain ⟨P9, c10, h⟩ := h
    refine V_callSi (st := [JJ v2]) (as := [II v1]) okX6_low rfl mlX6_87 (by decide) rfl (Nat.le_of_ble_eq_true rfl) rfl dX6_well_15 rfl c10 (fun r11 u12 e13 => ?_)
    have h := h r11 u12 e13
    obtain ⟨q14, h⟩ := h
    refine V_i2l q14 dX6_well_18 rfl ?_
    refine V_iload_n 1 rfl dX6_well_19 rfl ?_
    obtain ⟨P15, c16, h⟩ := h
    refine V_callSi (st := [JJ r11, JJ v2]) (as := [II v1]) okX6_high rfl mlX6_90 (by decide) rfl (Nat.le_of_ble_eq_true rfl) rfl dX6_well_20 rfl c16 (fun r17 u18 e19 => ?_)
    have h := h r17 u18 e19
    obtain ⟨q20, h⟩ := h
    refine V_i2l q20 dX6_well_23 rfl ?_
    obtain ⟨P21, c22, h⟩ := h
    refine V_callSi (st := []) (as := [JJ v2, JJ r11, JJ r17]) okX6_in rfl mlX6_51 (by decide) rfl (Nat.le_of_ble_eq_true rfl) rfl dX6_well_24 rfl c22 (fun r23 u24 e25 => ?_)
    have h := h r23 u24 e25
    obtain ⟨q26, h⟩ := h
    refine V_if_ne q26 dX6_well_27 (g := 32) rfl rfl ⟨fun hc => ?_, fun hc => ?_⟩
    · have h := h.1 hc
      refine V_aload_n 0 rfl dX6_well_32 rfl ?_
      refine gX6_7 rfl kY132 rF132_0 dX6_well_33 rfl ?_
      refine V_iload_n 1 rfl dX6_well_36 rfl ?_
      obtain ⟨q27, h⟩ := h
      refine V_ialdn kY133 lI133 q27 dX6_well_37 rfl ?_
      refine V_istore_n (ls2 := [(0, RR 132), (1, II v1), (2, II v2), (3, II (u24 133 v1.toNat))]) dX6_well_38 rfl (by decide) rfl ?_
      refine V_aload_n 0 rfl dX6_well_39 rfl ?_
      refine gX6_7 rfl kY132 rF132_0 dX6_well_40 rfl ?_
      refine V_iload_n 1 rfl dX6_well_43 rfl ?_
      refine V_iload_n 2 rfl dX6_well_44 rfl ?_
      refine V_iastn kY133 lI133 q27 dX6_well_45 rfl (fun u28 e29 => ?_)
      have h := h u28 e29
      refine V_iload_n 3 rfl dX6_well_46 rfl ?_
      exact V_iret dX6_well_47 (Or.inl rfl) h
    · have h := h.2 hc
      refine V_iconst dX6_well_30 rfl ?_
      exact V_iret dX6_well_31 (Or.inl rfl) h
theorem eX6_pull {G : GG} {Q : Int → Mem → Prop} {t : Mem} {v1 : Int} (k : V G mX6_pull 0 [(0, RR 132), (1, II v1)] [] t Q) : Ex G mX6_pull [RR 132, II v1] t Q := Ex.of plX6 (Or.inr (Or.inl rfl)) (Nat.le_of_ble_eq_true rfl) rfl k
set_option maxRecDepth 100000 in
theorem sgX6_pull_0 {G : GG} {Q : Int → Mem → Prop} {t : Mem} {v1 : Int}  (h : In32 v1 ∧ (v1 = (-4) → ∀ u2 : Mem, u2 = wr t 133 10 v1 → Q (t 133 10) u2) ∧ (¬ v1 = (-4) → ∃ P4 : Int → Mem → Prop, Ex G mX6_isBeast [RR 132, II v1] t P4 ∧ ∀ (r6 : Int) (u7 : Mem), P4 r6 u7 → In32 r6 ∧ (¬ r6 = 0 → ∀ u10 : Mem, u10 = wr u7 133 10 v1 → Q (u7 133 10) u10) ∧ (r6 = 0 → Q (-1) u7))) : V G mX6_pull 0 [(0, RR 132), (1, II v1)] [] t Q := by
  refine V_iload_n 1 rfl dX6_pull_0 rfl ?_
  refine V_bipush (by decide) dX6_pull_1 rfl ?_
  obtain ⟨q1, h⟩ := h
  refine V_icmp_eq q1 (iL rfl) dX6_pull_3 (g := 16) rfl rfl ⟨fun hc => ?_, fun hc => ?_⟩
  · have h := h.1 hc
    refine V_aload_n 0 rfl dX6_pull_16 rfl ?_
    refine gX6_7 rfl kY132 rF132_0 dX6_pull_17 rfl ?_
    refine V_bipush (by decide) dX6_pull_20 rfl ?_
    refine V_ialdL 10 rfl kY133 lI133 rfl dX6_pull_22 rfl ?_
    refine V_istore_n (ls2 := [(0, RR 132), (1, II v1), (2, II (t 133 10))]) dX6_pull_23 rfl (by decide) rfl ?_
    refine V_aload_n 0 rfl dX6_pull_24 rfl ?_
    refine gX6_7 rfl kY132 rF132_0 dX6_pull_25 rfl ?_
    refine V_bipush (by decide) dX6_pull_28 rfl ?_
    refine V_iload_n 1 rfl dX6_pull_30 rfl ?_
    refine V_iastL 10 rfl kY133 lI133 rfl dX6_pull_31 rfl (fun u2 e3 => ?_)
    have h := h u2 e3
    refine V_iload_n 2 rfl dX6_pull_32 rfl ?_
    exact V_iret dX6_pull_33 (Or.inl rfl) h
  · have h := h.2 hc
    refine V_aload_n 0 rfl dX6_pull_6 rfl ?_
    refine V_iload_n 1 rfl dX6_pull_7 rfl ?_
    obtain ⟨P4, c5, h⟩ := h
    refine V_callVi (st := []) (as := [II v1]) okX6_isBeast rfl mlX6_77 (by decide) kY132 rfl (Nat.le_of_ble_eq_true rfl) rfl dX6_pull_8 rfl c5 (fun r6 u7 e8 => ?_)
    have h := h r6 u7 e8
    obtain ⟨q9, h⟩ := h
    refine V_if_ne q9 dX6_pull_11 (g := 16) rfl rfl ⟨fun hc => ?_, fun hc => ?_⟩
    · have h := h.1 hc
      refine V_aload_n 0 rfl dX6_pull_16 rfl ?_
      refine gX6_7 rfl kY132 rF132_0 dX6_pull_17 rfl ?_
      refine V_bipush (by decide) dX6_pull_20 rfl ?_
      refine V_ialdL 10 rfl kY133 lI133 rfl dX6_pull_22 rfl ?_
      refine V_istore_n (ls2 := [(0, RR 132), (1, II v1), (2, II (u7 133 10))]) dX6_pull_23 rfl (by decide) rfl ?_
      refine V_aload_n 0 rfl dX6_pull_24 rfl ?_
      refine gX6_7 rfl kY132 rF132_0 dX6_pull_25 rfl ?_
      refine V_bipush (by decide) dX6_pull_28 rfl ?_
      refine V_iload_n 1 rfl dX6_pull_30 rfl ?_
      refine V_iastL 10 rfl kY133 lI133 rfl dX6_pull_31 rfl (fun u10 e11 => ?_)
      have h := h u10 e11
      refine V_iload_n 2 rfl dX6_pull_32 rfl ?_
      exact V_iret dX6_pull_33 (Or.inl rfl) h
    · have h := h.2 hc
      refine V_iconst dX6_pull_14 rfl ?_
      exact V_iret dX6_pull_15 (Or.inl rfl) h
theorem eX6_isAhead {G : GG} {Q : Int → Mem → Prop} {t : Mem} {v1 v2 v3 : Int} (k : V G mX6_isAhead 0 [(0, RR 132), (1, II v1), (2, II v2), (3, II v3)] [] t Q) : Ex G mX6_isAhead [RR 132, II v1, II v2, II v3] t Q := Ex.of plX6 (Or.inr (Or.inr rfl)) (Nat.le_of_ble_eq_true rfl) rfl k
set_option maxRecDepth 100000 in
theorem sgX6_isAhead_0 {G : GG} {Q : Int → Mem → Prop} {t : Mem} {v1 v2 v3 : Int}  (h : In32 v3 ∧ (¬ v3 = 1 → V G mX6_isAhead 41 [(0, RR 132), (1, II v1), (2, II v2), (3, II v3)] [] t Q) ∧ (v3 = 1 → ∃ P2 : Int → Mem → Prop, Ex G mX6_at [RR 132, II v1, II 1] t P2 ∧ ∀ (r4 : Int) (u5 : Mem), P2 r4 u5 → ∃ P7 : Int → Mem → Prop, Ex G mX6_at [RR 132, II v2, II 1] u5 P7 ∧ ∀ (r9 : Int) (u10 : Mem), P7 r9 u10 → In32 r4 ∧ In32 r9 ∧ (r4 = r9 → V G mX6_isAhead 41 [(0, RR 132), (1, II v1), (2, II v2), (3, II v3)] [] u10 Q) ∧ (¬ r4 = r9 → ∃ P14 : Int → Mem → Prop, Ex G mX6_at [RR 132, II v1, II 1] u10 P14 ∧ ∀ (r16 : Int) (u17 : Mem), P14 r16 u17 → ∃ P19 : Int → Mem → Prop, Ex G mX6_at [RR 132, II v2, II 1] u17 P19 ∧ ∀ (r21 : Int) (u22 : Mem), P19 r21 u22 → In32 r16 ∧ In32 r21 ∧ Q (if r16 ≤ r21 then 0 else 1) u22))) : V G mX6_isAhead 0 [(0, RR 132), (1, II v1), (2, II v2), (3, II v3)] [] t Q := by
  refine V_iload_n 3 rfl dX6_isAhead_0 rfl ?_
  refine V_iconst dX6_isAhead_1 rfl ?_
  obtain ⟨q1, h⟩ := h
  refine V_icmp_ne q1 (iL rfl) dX6_isAhead_2 (g := 41) rfl rfl ⟨fun hc => ?_, fun hc => ?_⟩
  · have h := h.1 hc
    exact h
  · have h := h.2 hc
    refine V_aload_n 0 rfl dX6_isAhead_5 rfl ?_
    refine V_iload_n 1 rfl dX6_isAhead_6 rfl ?_
    refine V_iconst dX6_isAhead_7 rfl ?_
    obtain ⟨P2, c3, h⟩ := h
    refine V_callVi (st := []) (as := [II v1, II 1]) okX6_at rfl mlX6_55 (by decide) kY132 rfl (Nat.le_of_ble_eq_true rfl) rfl dX6_isAhead_8 rfl c3 (fun r4 u5 e6 => ?_)
    have h := h r4 u5 e6
    refine V_aload_n 0 rfl dX6_isAhead_11 rfl ?_
    refine V_iload_n 2 rfl dX6_isAhead_12 rfl ?_
    refine V_iconst dX6_isAhead_13 rfl ?_
    obtain ⟨P7, c8, h⟩ := h
    refine V_callVi (st := [II r4]) (as := [II v2, II 1]) okX6_at rfl mlX6_55 (by decide) kY132 rfl (Nat.le_of_ble_eq_true rfl) rfl dX6_isAhead_14 rfl c8 (fun r9 u10 e11 => ?_)
    have h := h r9 u10 e11
    obtain ⟨q12, h⟩ := h
    obtain ⟨q13, h⟩ := h
    refine V_icmp_eq q12 q13 dX6_isAhead_17 (g := 41) rfl rfl ⟨fun hc => ?_, fun hc => ?_⟩
    · have h := h.1 hc
      exact h
    · have h := h.2 hc
      refine V_aload_n 0 rfl dX6_isAhead_20 rfl ?_
      refine V_iload_n 1 rfl dX6_isAhead_21 rfl ?_
      refine V_iconst dX6_isAhead_22 rfl ?_
      obtain ⟨P14, c15, h⟩ := h
      refine V_callVi (st := []) (as := [II v1, II 1]) okX6_at rfl mlX6_55 (by decide) kY132 rfl (Nat.le_of_ble_eq_true rfl) rfl dX6_isAhead_23 rfl c15 (fun r16 u17 e18 => ?_)
      have h := h r16 u17 e18
      refine V_aload_n 0 rfl dX6_isAhead_26 rfl ?_
      refine V_iload_n 2 rfl dX6_isAhead_27 rfl ?_
      refine V_iconst dX6_isAhead_28 rfl ?_
      obtain ⟨P19, c20, h⟩ := h
      refine V_callVi (st := [II r16]) (as := [II v2, II 1]) okX6_at rfl mlX6_55 (by decide) kY132 rfl (Nat.le_of_ble_eq_true rfl) rfl dX6_isAhead_29 rfl c20 (fun r21 u22 e23 => ?_)
      have h := h r21 u22 e23
      obtain ⟨q24, h⟩ := h
      obtain ⟨q25, h⟩ := h
      have hj30 : V G mX6_isAhead 40 [(0, RR 132), (1, II v1), (2, II v2), (3, II v3)] [II (if r16 ≤ r21 then 0 else 1)] u22 Q := by
        exact V_iret dX6_isAhead_40 (Or.inr ⟨rfl, by split <;> simp⟩) h
      refine V_icmp_le q24 q25 dX6_isAhead_32 (g := 39) rfl rfl ⟨fun hc => ?_, fun hc => ?_⟩
      · skip
        refine V_iconst dX6_isAhead_39 rfl ?_
        rw [if_pos hc] at hj30
        exact hj30
      · skip
        refine V_iconst dX6_isAhead_35 rfl ?_
        refine V_goto (g := 40) dX6_isAhead_36 rfl ?_
        rw [if_neg hc] at hj30
        exact hj30
set_option maxRecDepth 100000 in
theorem sgX6_isAhead_41 {G : GG} {Q : Int → Mem → Prop} {t : Mem} {v1 v2 v3 : Int}  (h : In32 v3 ∧ (¬ v3 = 2 → V G mX6_isAhead 65 [(0, RR 132), (1, II v1), (2, II v2), (3, II v3)] [] t Q) ∧ (v3 = 2 → ∃ P2 : Int → Mem → Prop, Ex G mX6_isMilk [RR 132, II v1] t P2 ∧ ∀ (r4 : Int) (u5 : Mem), P2 r4 u5 → ∃ P7 : Int → Mem → Prop, Ex G mX6_isMilk [RR 132, II v2] u5 P7 ∧ ∀ (r9 : Int) (u10 : Mem), P7 r9 u10 → In32 r4 ∧ In32 r9 ∧ (r4 = r9 → V G mX6_isAhead 65 [(0, RR 132), (1, II v1), (2, II v2), (3, II v3)] [] u10 Q) ∧ (¬ r4 = r9 → ∃ P14 : Int → Mem → Prop, Ex G mX6_isMilk [RR 132, II v1] u10 P14 ∧ ∀ (r16 : Int) (u17 : Mem), P14 r16 u17 → (r16 = 0 ∨ r16 = 1) ∧ Q r16 u17))) : V G mX6_isAhead 41 [(0, RR 132), (1, II v1), (2, II v2), (3, II v3)] [] t Q := by
  refine V_iload_n 3 rfl dX6_isAhead_41 rfl ?_
  refine V_iconst dX6_isAhead_42 rfl ?_
  obtain ⟨q1, h⟩ := h
  refine V_icmp_ne q1 (iL rfl) dX6_isAhead_43 (g := 65) rfl rfl ⟨fun hc => ?_, fun hc => ?_⟩
  · have h := h.1 hc
    exact h
  · have h := h.2 hc
    refine V_aload_n 0 rfl dX6_isAhead_46 rfl ?_
    refine V_iload_n 1 rfl dX6_isAhead_47 rfl ?_
    obtain ⟨P2, c3, h⟩ := h
    refine V_callVi (st := []) (as := [II v1]) okX6_isMilk rfl mlX6_59 (by decide) kY132 rfl (Nat.le_of_ble_eq_true rfl) rfl dX6_isAhead_48 rfl c3 (fun r4 u5 e6 => ?_)
    have h := h r4 u5 e6
    refine V_aload_n 0 rfl dX6_isAhead_51 rfl ?_
    refine V_iload_n 2 rfl dX6_isAhead_52 rfl ?_
    obtain ⟨P7, c8, h⟩ := h
    refine V_callVi (st := [II r4]) (as := [II v2]) okX6_isMilk rfl mlX6_59 (by decide) kY132 rfl (Nat.le_of_ble_eq_true rfl) rfl dX6_isAhead_53 rfl c8 (fun r9 u10 e11 => ?_)
    have h := h r9 u10 e11
    obtain ⟨q12, h⟩ := h
    obtain ⟨q13, h⟩ := h
    refine V_icmp_eq q12 q13 dX6_isAhead_56 (g := 65) rfl rfl ⟨fun hc => ?_, fun hc => ?_⟩
    · have h := h.1 hc
      exact h
    · have h := h.2 hc
      refine V_aload_n 0 rfl dX6_isAhead_59 rfl ?_
      refine V_iload_n 1 rfl dX6_isAhead_60 rfl ?_
      obtain ⟨P14, c15, h⟩ := h
      refine V_callVi (st := []) (as := [II v1]) okX6_isMilk rfl mlX6_59 (by decide) kY132 rfl (Nat.le_of_ble_eq_true rfl) rfl dX6_isAhead_61 rfl c15 (fun r16 u17 e18 => ?_)
      have h := h r16 u17 e18
      exact V_iret dX6_isAhead_64 (Or.inr ⟨rfl, h.1⟩) h.2
set_option maxRecDepth 100000 in
theorem sgX6_isAhead_65 {G : GG} {Q : Int → Mem → Prop} {t : Mem} {v1 v2 v3 : Int}  (h : In32 v3 ∧ (¬ v3 = 3 → In32 v1 ∧ In32 v2 ∧ Q (if v2 ≤ v1 then 0 else 1) t) ∧ (v3 = 3 → ∃ P9 : Int → Mem → Prop, Ex G mX6_among [RR 132, II v1] t P9 ∧ ∀ (r11 : Int) (u12 : Mem), P9 r11 u12 → ∃ P14 : Int → Mem → Prop, Ex G mX6_among [RR 132, II v2] u12 P14 ∧ ∀ (r16 : Int) (u17 : Mem), P14 r16 u17 → In32 r11 ∧ In32 r16 ∧ (r11 < r16 → Q 1 u17) ∧ (¬ r11 < r16 → (¬ r11 = r16 → Q 0 u17) ∧ (r11 = r16 → ∃ P21 : Int → Mem → Prop, Ex G mX6_at [RR 132, II v1, II 2] u17 P21 ∧ ∀ (r23 : Int) (u24 : Mem), P21 r23 u24 → ∃ P26 : Int → Mem → Prop, Ex G mX6_at [RR 132, II v2, II 2] u24 P26 ∧ ∀ (r28 : Int) (u29 : Mem), P26 r28 u29 → In32 r23 ∧ In32 r28 ∧ Q (if r28 ≤ r23 then 0 else 1) u29)))) : V G mX6_isAhead 65 [(0, RR 132), (1, II v1), (2, II v2), (3, II v3)] [] t Q := by
  refine V_iload_n 3 rfl dX6_isAhead_65 rfl ?_
  refine V_iconst dX6_isAhead_66 rfl ?_
  obtain ⟨q1, h⟩ := h
  refine V_icmp_ne q1 (iL rfl) dX6_isAhead_67 (g := 119) rfl rfl ⟨fun hc => ?_, fun hc => ?_⟩
  · have h := h.1 hc
    refine V_iload_n 1 rfl dX6_isAhead_119 rfl ?_
    refine V_iload_n 2 rfl dX6_isAhead_120 rfl ?_
    obtain ⟨q2, h⟩ := h
    obtain ⟨q3, h⟩ := h
    have hj8 : V G mX6_isAhead 129 [(0, RR 132), (1, II v1), (2, II v2), (3, II v3)] [II (if v2 ≤ v1 then 0 else 1)] t Q := by
      exact V_iret dX6_isAhead_129 (Or.inr ⟨rfl, by split <;> simp⟩) h
    refine V_icmp_ge q2 q3 dX6_isAhead_121 (g := 128) rfl rfl ⟨fun hc => ?_, fun hc => ?_⟩
    · skip
      refine V_iconst dX6_isAhead_128 rfl ?_
      rw [if_pos hc] at hj8
      exact hj8
    · skip
      refine V_iconst dX6_isAhead_124 rfl ?_
      refine V_goto (g := 129) dX6_isAhead_125 rfl ?_
      rw [if_neg hc] at hj8
      exact hj8
  · have h := h.2 hc
    refine V_aload_n 0 rfl dX6_isAhead_70 rfl ?_
    refine V_iload_n 1 rfl dX6_isAhead_71 rfl ?_
    obtain ⟨P9, c10, h⟩ := h
    refine V_callVi (st := []) (as := [II v1]) okX6_among rfl mlX6_93 (by decide) kY132 rfl (Nat.le_of_ble_eq_true rfl) rfl dX6_isAhead_72 rfl c10 (fun r11 u12 e13 => ?_)
    have h := h r11 u12 e13
    refine V_istore (ls2 := [(0, RR 132), (1, II v1), (2, II v2), (3, II v3), (4, II r11)]) dX6_isAhead_75 rfl (by decide) rfl ?_
    refine V_aload_n 0 rfl dX6_isAhead_77 rfl ?_
    refine V_iload_n 2 rfl dX6_isAhead_78 rfl ?_
    obtain ⟨P14, c15, h⟩ := h
    refine V_callVi (st := []) (as := [II v2]) okX6_among rfl mlX6_93 (by decide) kY132 rfl (Nat.le_of_ble_eq_true rfl) rfl dX6_isAhead_79 rfl c15 (fun r16 u17 e18 => ?_)
    have h := h r16 u17 e18
    refine V_istore (ls2 := [(0, RR 132), (1, II v1), (2, II v2), (3, II v3), (4, II r11), (5, II r16)]) dX6_isAhead_82 rfl (by decide) rfl ?_
    refine V_iload 4 rfl dX6_isAhead_84 rfl ?_
    refine V_iload 5 rfl dX6_isAhead_86 rfl ?_
    obtain ⟨q19, h⟩ := h
    obtain ⟨q20, h⟩ := h
    refine V_icmp_lt q19 q20 dX6_isAhead_88 (g := 113) rfl rfl ⟨fun hc => ?_, fun hc => ?_⟩
    · have h := h.1 hc
      refine V_iconst dX6_isAhead_113 rfl ?_
      refine V_goto (g := 118) dX6_isAhead_114 rfl ?_
      exact V_iret dX6_isAhead_118 (Or.inr ⟨rfl, by decide⟩) h
    · have h := h.2 hc
      refine V_iload 4 rfl dX6_isAhead_91 rfl ?_
      refine V_iload 5 rfl dX6_isAhead_93 rfl ?_
      refine V_icmp_ne q19 q20 dX6_isAhead_95 (g := 117) rfl rfl ⟨fun hc => ?_, fun hc => ?_⟩
      · have h := h.1 hc
        refine V_iconst dX6_isAhead_117 rfl ?_
        exact V_iret dX6_isAhead_118 (Or.inr ⟨rfl, by decide⟩) h
      · have h := h.2 hc
        refine V_aload_n 0 rfl dX6_isAhead_98 rfl ?_
        refine V_iload_n 1 rfl dX6_isAhead_99 rfl ?_
        refine V_iconst dX6_isAhead_100 rfl ?_
        obtain ⟨P21, c22, h⟩ := h
        refine V_callVi (st := []) (as := [II v1, II 2]) okX6_at rfl mlX6_55 (by decide) kY132 rfl (Nat.le_of_ble_eq_true rfl) rfl dX6_isAhead_101 rfl c22 (fun r23 u24 e25 => ?_)
        have h := h r23 u24 e25
        refine V_aload_n 0 rfl dX6_isAhead_104 rfl ?_
        refine V_iload_n 2 rfl dX6_isAhead_105 rfl ?_
        refine V_iconst dX6_isAhead_106 rfl ?_
        obtain ⟨P26, c27, h⟩ := h
        refine V_callVi (st := [II r23]) (as := [II v2, II 2]) okX6_at rfl mlX6_55 (by decide) kY132 rfl (Nat.le_of_ble_eq_true rfl) rfl dX6_isAhead_107 rfl c27 (fun r28 u29 e30 => ?_)
        have h := h r28 u29 e30
        obtain ⟨q31, h⟩ := h
        obtain ⟨q32, h⟩ := h
        have hj37 : V G mX6_isAhead 118 [(0, RR 132), (1, II v1), (2, II v2), (3, II v3), (4, II r11), (5, II r16)] [II (if r28 ≤ r23 then 0 else 1)] u29 Q := by
          exact V_iret dX6_isAhead_118 (Or.inr ⟨rfl, by split <;> simp⟩) h
        refine V_icmp_ge q31 q32 dX6_isAhead_110 (g := 117) rfl rfl ⟨fun hc => ?_, fun hc => ?_⟩
        · skip
          refine V_iconst dX6_isAhead_117 rfl ?_
          rw [if_pos hc] at hj37
          exact hj37
        · skip
          refine V_iconst dX6_isAhead_113 rfl ?_
          refine V_goto (g := 118) dX6_isAhead_114 rfl ?_
          rw [if_neg hc] at hj37
          exact hj37
theorem eX6_among {G : GG} {Q : Int → Mem → Prop} {t : Mem} {v1 : Int} (k : V G mX6_among 0 [(0, RR 132), (1, II v1)] [] t Q) : Ex G mX6_among [RR 132, II v1] t Q := Ex.of plX6 (Or.inr (Or.inl rfl)) (Nat.le_of_ble_eq_true rfl) rfl k
set_option maxRecDepth 100000 in
theorem sgX6_among_0 {G : GG} {Q : Int → Mem → Prop} {t : Mem} {v1 : Int}  (h : V G mX6_among 4 [(0, RR 132), (1, II v1), (2, II 0), (3, II 0)] [] t Q) : V G mX6_among 0 [(0, RR 132), (1, II v1)] [] t Q := by
  refine V_iconst dX6_among_0 rfl ?_
  refine V_istore_n (ls2 := [(0, RR 132), (1, II v1), (2, II 0)]) dX6_among_1 rfl (by decide) rfl ?_
  refine V_iconst dX6_among_2 rfl ?_
  refine V_istore_n (ls2 := [(0, RR 132), (1, II v1), (2, II 0), (3, II 0)]) dX6_among_3 rfl (by decide) rfl ?_
  exact h
set_option maxRecDepth 100000 in
theorem sgX6_among_4 {G : GG} {Q : Int → Mem → Prop} {t : Mem} {v1 v2 v3 : Int}  (h : In32 v3 ∧ In32 v1 ∧ (v1 ≤ v3 → Q v2 t) ∧ (¬ v1 ≤ v3 → ∃ P3 : Int → Mem → Prop, Ex G mX6_at [RR 132, II v3, II 2] t P3 ∧ ∀ (r5 : Int) (u6 : Mem), P3 r5 u6 → ∃ P8 : Int → Mem → Prop, Ex G mX6_at [RR 132, II v1, II 2] u6 P8 ∧ ∀ (r10 : Int) (u11 : Mem), P8 r10 u11 → In32 r5 ∧ In32 r10 ∧ V G mX6_among 4 [(0, RR 132), (1, II v1), (2, II (v2 + (if r5 = r10 then 1 else 0))), (3, II (v3 + 1))] [] u11 Q)) : V G mX6_among 4 [(0, RR 132), (1, II v1), (2, II v2), (3, II v3)] [] t Q := by
  refine V_iload_n 3 rfl dX6_among_4 rfl ?_
  refine V_iload_n 1 rfl dX6_among_5 rfl ?_
  obtain ⟨q1, h⟩ := h
  obtain ⟨q2, h⟩ := h
  refine V_icmp_ge q1 q2 dX6_among_6 (g := 38) rfl rfl ⟨fun hc => ?_, fun hc => ?_⟩
  · have h := h.1 hc
    refine V_iload_n 2 rfl dX6_among_38 rfl ?_
    exact V_iret dX6_among_39 (Or.inl rfl) h
  · have h := h.2 hc
    refine V_iload_n 2 rfl dX6_among_9 rfl ?_
    refine V_aload_n 0 rfl dX6_among_10 rfl ?_
    refine V_iload_n 3 rfl dX6_among_11 rfl ?_
    refine V_iconst dX6_among_12 rfl ?_
    obtain ⟨P3, c4, h⟩ := h
    refine V_callVi (st := [II v2]) (as := [II v3, II 2]) okX6_at rfl mlX6_55 (by decide) kY132 rfl (Nat.le_of_ble_eq_true rfl) rfl dX6_among_13 rfl c4 (fun r5 u6 e7 => ?_)
    have h := h r5 u6 e7
    refine V_aload_n 0 rfl dX6_among_16 rfl ?_
    refine V_iload_n 1 rfl dX6_among_17 rfl ?_
    refine V_iconst dX6_among_18 rfl ?_
    obtain ⟨P8, c9, h⟩ := h
    refine V_callVi (st := [II r5, II v2]) (as := [II v1, II 2]) okX6_at rfl mlX6_55 (by decide) kY132 rfl (Nat.le_of_ble_eq_true rfl) rfl dX6_among_19 rfl c9 (fun r10 u11 e12 => ?_)
    have h := h r10 u11 e12
    obtain ⟨q13, h⟩ := h
    obtain ⟨q14, h⟩ := h
    have hj19 : V G mX6_among 30 [(0, RR 132), (1, II v1), (2, II v2), (3, II v3)] [II (if r5 = r10 then 1 else 0), II v2] u11 Q := by
      refine V_iadd dX6_among_30 rfl ?_
      refine V_istore_n (ls2 := [(0, RR 132), (1, II v1), (2, II (v2 + (if r5 = r10 then 1 else 0))), (3, II v3)]) dX6_among_31 rfl (by decide) rfl ?_
      refine V_iinc 3 rfl (ls2 := [(0, RR 132), (1, II v1), (2, II (v2 + (if r5 = r10 then 1 else 0))), (3, II (v3 + 1))]) dX6_among_32 rfl (by decide) rfl ?_
      refine V_goto (g := 4) dX6_among_35 rfl ?_
      exact h
    refine V_icmp_ne q13 q14 dX6_among_22 (g := 29) rfl rfl ⟨fun hc => ?_, fun hc => ?_⟩
    · skip
      refine V_iconst dX6_among_29 rfl ?_
      rw [if_neg hc] at hj19
      exact hj19
    · skip
      refine V_iconst dX6_among_25 rfl ?_
      refine V_goto (g := 30) dX6_among_26 rfl ?_
      rw [if_pos hc] at hj19
      exact hj19
theorem eX6_orders {G : GG} {Q : Int → Mem → Prop} {t : Mem} {v1 : Int} (k : V G mX6_orders 0 [(0, RR 132), (1, II v1)] [] t Q) : Ex G mX6_orders [RR 132, II v1] t Q := Ex.of plX6 (Or.inl rfl) (Nat.le_of_ble_eq_true rfl) rfl k
set_option maxRecDepth 100000 in
theorem sgX6_orders_0 {G : GG} {Q : Int → Mem → Prop} {t : Mem} {v1 : Int}  (h : ∀ u1 : Mem, u1 = wr t 132 2 v1 → V G mX6_orders 7 [(0, RR 132), (1, II v1), (2, II 0)] [] u1 Q) : V G mX6_orders 0 [(0, RR 132), (1, II v1)] [] t Q := by
  refine V_aload_n 0 rfl dX6_orders_0 rfl ?_
  refine V_iload_n 1 rfl dX6_orders_1 rfl ?_
  refine pX6_16 rfl kY132 dX6_orders_2 rfl (fun u1 e2 => ?_)
  have h := h u1 e2
  refine V_iconst dX6_orders_5 rfl ?_
  refine V_istore_n (ls2 := [(0, RR 132), (1, II v1), (2, II 0)]) dX6_orders_6 rfl (by decide) rfl ?_
  exact h
set_option maxRecDepth 100000 in
theorem sgX6_orders_7 {G : GG} {Q : Int → Mem → Prop} {t : Mem} {v1 v2 : Int}  (h : In32 v2 ∧ In32 (t 133 12) ∧ ((t 133 12) ≤ v2 → Q 0 t) ∧ (¬ (t 133 12) ≤ v2 → V G mX6_orders 23 [(0, RR 132), (1, II v1), (2, II v2), (3, II 0), (4, II 0)] [] t Q)) : V G mX6_orders 7 [(0, RR 132), (1, II v1), (2, II v2)] [] t Q := by
  refine V_iload_n 2 rfl dX6_orders_7 rfl ?_
  refine V_aload_n 0 rfl dX6_orders_8 rfl ?_
  refine gX6_7 rfl kY132 rF132_0 dX6_orders_9 rfl ?_
  refine V_bipush (by decide) dX6_orders_12 rfl ?_
  refine V_ialdL 12 rfl kY133 lI133 rfl dX6_orders_14 rfl ?_
  obtain ⟨q1, h⟩ := h
  obtain ⟨q2, h⟩ := h
  refine V_icmp_ge q1 q2 dX6_orders_15 (g := 79) rfl rfl ⟨fun hc => ?_, fun hc => ?_⟩
  · have h := h.1 hc
    exact V_ret dX6_orders_79 rfl h
  · have h := h.2 hc
    refine V_iconst dX6_orders_18 rfl ?_
    refine V_istore_n (ls2 := [(0, RR 132), (1, II v1), (2, II v2), (3, II 0)]) dX6_orders_19 rfl (by decide) rfl ?_
    refine V_iconst dX6_orders_20 rfl ?_
    refine V_istore (ls2 := [(0, RR 132), (1, II v1), (2, II v2), (3, II 0), (4, II 0)]) dX6_orders_21 rfl (by decide) rfl ?_
    exact h
set_option maxRecDepth 100000 in
theorem sgX6_orders_23 {G : GG} {Q : Int → Mem → Prop} {t : Mem} {v1 v2 v3 v4 : Int}  (h : In32 v4 ∧ In32 (t 133 12) ∧ ((t 133 12) ≤ v4 → (0 ≤ v3 ∧ v3 < 7) ∧ ∀ u3 : Mem, u3 = wr t 134 v3.toNat v2 → V G mX6_orders 7 [(0, RR 132), (1, II v1), (2, II (v2 + 1))] [] u3 Q) ∧ (¬ (t 133 12) ≤ v4 → In32 v2 ∧ (v4 = v2 → V G mX6_orders 23 [(0, RR 132), (1, II v1), (2, II v2), (3, II (v3 + 0)), (4, II (v4 + 1))] [] t Q) ∧ (¬ v4 = v2 → ∃ P7 : Int → Mem → Prop, Ex G mX6_isAhead [RR 132, II v4, II v2, II v1] t P7 ∧ ∀ (r9 : Int) (u10 : Mem), P7 r9 u10 → In32 r9 ∧ V G mX6_orders 23 [(0, RR 132), (1, II v1), (2, II v2), (3, II (v3 + (if r9 = 0 then 0 else 1))), (4, II (v4 + 1))] [] u10 Q))) : V G mX6_orders 23 [(0, RR 132), (1, II v1), (2, II v2), (3, II v3), (4, II v4)] [] t Q := by
  refine V_iload 4 rfl dX6_orders_23 rfl ?_
  refine V_aload_n 0 rfl dX6_orders_25 rfl ?_
  refine gX6_7 rfl kY132 rF132_0 dX6_orders_26 rfl ?_
  refine V_bipush (by decide) dX6_orders_29 rfl ?_
  refine V_ialdL 12 rfl kY133 lI133 rfl dX6_orders_31 rfl ?_
  obtain ⟨q1, h⟩ := h
  obtain ⟨q2, h⟩ := h
  refine V_icmp_ge q1 q2 dX6_orders_32 (g := 66) rfl rfl ⟨fun hc => ?_, fun hc => ?_⟩
  · have h := h.1 hc
    refine V_aload_n 0 rfl dX6_orders_66 rfl ?_
    refine gX6_13 rfl kY132 rF132_1 dX6_orders_67 rfl ?_
    refine V_iload_n 3 rfl dX6_orders_70 rfl ?_
    refine V_iload_n 2 rfl dX6_orders_71 rfl ?_
    obtain ⟨q5, h⟩ := h
    refine V_iastn kY134 lI134 q5 dX6_orders_72 rfl (fun u3 e4 => ?_)
    have h := h u3 e4
    refine V_iinc 2 rfl (ls2 := [(0, RR 132), (1, II v1), (2, II (v2 + 1)), (3, II v3), (4, II v4)]) dX6_orders_73 rfl (by decide) rfl ?_
    refine V_goto (g := 7) dX6_orders_76 rfl ?_
    exact V_sub (by intro q hq; simp only [List.mem_cons, List.not_mem_nil, or_false] at hq ⊢; first | (rcases hq with rfl | rfl | rfl <;> simp)) h
  · have h := h.2 hc
    refine V_iload_n 3 rfl dX6_orders_35 rfl ?_
    refine V_iload 4 rfl dX6_orders_36 rfl ?_
    refine V_iload_n 2 rfl dX6_orders_38 rfl ?_
    obtain ⟨q6, h⟩ := h
    refine V_icmp_eq q1 q6 dX6_orders_39 (g := 57) rfl rfl ⟨fun hc => ?_, fun hc => ?_⟩
    · have h := h.1 hc
      refine V_iconst dX6_orders_57 rfl ?_
      refine V_iadd dX6_orders_58 rfl ?_
      refine V_istore_n (ls2 := [(0, RR 132), (1, II v1), (2, II v2), (3, II (v3 + 0)), (4, II v4)]) dX6_orders_59 rfl (by decide) rfl ?_
      refine V_iinc 4 rfl (ls2 := [(0, RR 132), (1, II v1), (2, II v2), (3, II (v3 + 0)), (4, II (v4 + 1))]) dX6_orders_60 rfl (by decide) rfl ?_
      refine V_goto (g := 23) dX6_orders_63 rfl ?_
      exact h
    · have h := h.2 hc
      refine V_aload_n 0 rfl dX6_orders_42 rfl ?_
      refine V_iload 4 rfl dX6_orders_43 rfl ?_
      refine V_iload_n 2 rfl dX6_orders_45 rfl ?_
      refine V_iload_n 1 rfl dX6_orders_46 rfl ?_
      obtain ⟨P7, c8, h⟩ := h
      refine V_callVi (st := [II v3]) (as := [II v4, II v2, II v1]) okX6_isAhead rfl mlX6_96 (by decide) kY132 rfl (Nat.le_of_ble_eq_true rfl) rfl dX6_orders_47 rfl c8 (fun r9 u10 e11 => ?_)
      have h := h r9 u10 e11
      obtain ⟨q12, h⟩ := h
      have hj17 : V G mX6_orders 58 [(0, RR 132), (1, II v1), (2, II v2), (3, II v3), (4, II v4)] [II (if r9 = 0 then 0 else 1), II v3] u10 Q := by
        refine V_iadd dX6_orders_58 rfl ?_
        refine V_istore_n (ls2 := [(0, RR 132), (1, II v1), (2, II v2), (3, II (v3 + (if r9 = 0 then 0 else 1))), (4, II v4)]) dX6_orders_59 rfl (by decide) rfl ?_
        refine V_iinc 4 rfl (ls2 := [(0, RR 132), (1, II v1), (2, II v2), (3, II (v3 + (if r9 = 0 then 0 else 1))), (4, II (v4 + 1))]) dX6_orders_60 rfl (by decide) rfl ?_
        refine V_goto (g := 23) dX6_orders_63 rfl ?_
        exact h
      refine V_if_eq q12 dX6_orders_50 (g := 57) rfl rfl ⟨fun hc => ?_, fun hc => ?_⟩
      · skip
        refine V_iconst dX6_orders_57 rfl ?_
        rw [if_pos hc] at hj17
        exact hj17
      · skip
        refine V_iconst dX6_orders_53 rfl ?_
        refine V_goto (g := 58) dX6_orders_54 rfl ?_
        rw [if_neg hc] at hj17
        exact hj17
theorem eX6_turn {G : GG} {Q : Int → Mem → Prop} {t : Mem} {v1 : Int} (k : V G mX6_turn 0 [(0, RR 132), (1, II v1)] [] t Q) : Ex G mX6_turn [RR 132, II v1] t Q := Ex.of plX6 (Or.inr (Or.inl rfl)) (Nat.le_of_ble_eq_true rfl) rfl k
set_option maxRecDepth 100000 in
theorem sgX6_turn_0 {G : GG} {Q : Int → Mem → Prop} {t : Mem} {v1 : Int}  (h : ∃ P1 : Int → Mem → Prop, Ex G mX6_isBeast [RR 132, II v1] t P1 ∧ ∀ (r3 : Int) (u4 : Mem), P1 r3 u4 → In32 r3 ∧ (¬ r3 = 0 → ∃ P7 : Int → Mem → Prop, Ex G mX6_orders [RR 132, II (u4 133 6)] u4 P7 ∧ ∀ u10 : Mem, P7 0 u10 → (0 ≤ v1 ∧ v1 < 7) ∧ Q (u10 134 v1.toNat) u10) ∧ (r3 = 0 → Q (-1) u4)) : V G mX6_turn 0 [(0, RR 132), (1, II v1)] [] t Q := by
  refine V_aload_n 0 rfl dX6_turn_0 rfl ?_
  refine V_iload_n 1 rfl dX6_turn_1 rfl ?_
  obtain ⟨P1, c2, h⟩ := h
  refine V_callVi (st := []) (as := [II v1]) okX6_isBeast rfl mlX6_77 (by decide) kY132 rfl (Nat.le_of_ble_eq_true rfl) rfl dX6_turn_2 rfl c2 (fun r3 u4 e5 => ?_)
  have h := h r3 u4 e5
  obtain ⟨q6, h⟩ := h
  refine V_if_ne q6 dX6_turn_5 (g := 10) rfl rfl ⟨fun hc => ?_, fun hc => ?_⟩
  · have h := h.1 hc
    refine V_aload_n 0 rfl dX6_turn_10 rfl ?_
    refine V_aload_n 0 rfl dX6_turn_11 rfl ?_
    refine gX6_7 rfl kY132 rF132_0 dX6_turn_12 rfl ?_
    refine V_bipush (by decide) dX6_turn_15 rfl ?_
    refine V_ialdL 6 rfl kY133 lI133 rfl dX6_turn_17 rfl ?_
    obtain ⟨P7, c8, h⟩ := h
    refine V_callVv (st := []) (as := [II (u4 133 6)]) okX6_orders rfl mlX6_100 (by decide) kY132 rfl (Nat.le_of_ble_eq_true rfl) rfl dX6_turn_18 rfl c8 (fun u10 e11 => ?_)
    have h := h u10 e11
    refine V_aload_n 0 rfl dX6_turn_21 rfl ?_
    refine gX6_13 rfl kY132 rF132_1 dX6_turn_22 rfl ?_
    refine V_iload_n 1 rfl dX6_turn_25 rfl ?_
    obtain ⟨q12, h⟩ := h
    refine V_ialdn kY134 lI134 q12 dX6_turn_26 rfl ?_
    exact V_iret dX6_turn_27 (Or.inl rfl) h
  · have h := h.2 hc
    refine V_iconst dX6_turn_8 rfl ?_
    exact V_iret dX6_turn_9 (Or.inl rfl) h
theorem eX6_draws {G : GG} {Q : Int → Mem → Prop} {t : Mem} {v1 : Int} (k : V G mX6_draws 0 [(0, RR 132), (1, II v1)] [] t Q) : Ex G mX6_draws [RR 132, II v1] t Q := Ex.of plX6 (Or.inl rfl) (Nat.le_of_ble_eq_true rfl) rfl k
set_option maxRecDepth 100000 in
theorem sgX6_draws_0 {G : GG} {Q : Int → Mem → Prop} {t : Mem} {v1 : Int}  (h : In32 (t 133 10) ∧ ((0 : Int) ≤ (t 133 3) ∧ In32 (t 133 3)) ∧ ((0 : Int) < (if (t 133 10) = (-4) then 2 else 1) ∧ In32 (if (t 133 10) = (-4) then 2 else 1)) ∧ In32 ((t 133 3) / (if (t 133 10) = (-4) then 2 else 1)) ∧ In32 ((t 133 0) - (t 133 1)) ∧ ∀ w11 : Int, w11 = (if ((t 133 0) - (t 133 1)) ≤ ((t 133 3) / (if (t 133 10) = (-4) then 2 else 1)) then (t 133 0) - (t 133 1) else (t 133 3) / (if (t 133 10) = (-4) then 2 else 1)) → In32 w11 ∧ In32 (24 - (t 133 7)) ∧ ∀ w18 : Int, w18 = (if (24 - (t 133 7)) ≤ w11 then 24 - (t 133 7) else w11) → In32 w18 ∧ (0 < w18 → ∀ u24 : Mem, u24 = wr t 133 0 ((t 133 0) - w18) → ∀ u26 : Mem, u26 = wr u24 133 7 ((u24 133 7) + w18) → ∀ u28 : Mem, u28 = wr u26 133 8 ((u26 133 8) + 1) → In32 (u28 133 10) ∧ ((u28 133 10) = (-4) → In32 v1 ∧ (v1 = 0 → Q 0 u28) ∧ (¬ v1 = 0 → In32 (u28 133 13) ∧ ∀ u33 : Mem, u33 = wr u28 133 13 (lAnd (((u28 133 13) * 1103515245) + 12345) 2147483647) → ((0 : Int) ≤ (u33 133 13) ∧ In32 (u33 133 13)) ∧ ((0 : Int) ≤ ((u33 133 13) / 65536) ∧ In32 ((u33 133 13) / 65536)) ∧ ((0 : Int) ≤ (u33 133 8) ∧ In32 (u33 133 8)) ∧ In32 (((u33 133 13) / 65536) % 100) ∧ In32 ((u33 133 8) / 10) ∧ (((u33 133 8) / 10) ≤ (((u33 133 13) / 65536) % 100) → Q 0 u33) ∧ (¬ ((u33 133 8) / 10) ≤ (((u33 133 13) / 65536) % 100) → ∀ u40 : Mem, u40 = wr u33 133 8 0 → ∀ u42 : Mem, u42 = wr u40 133 9 4 → ∀ u44 : Mem, u44 = wr u42 132 3 ((u42 132 3) + 1) → Q 0 u44))) ∧ (¬ (u28 133 10) = (-4) → (0 ≤ (14 + (7 * (u28 133 10))) + 4 ∧ (14 + (7 * (u28 133 10))) + 4 < 63) ∧ ∀ u47 : Mem, u47 = wr u28 133 ((14 + (7 * (u28 133 10))) + 4).toNat ((u28 133 ((14 + (7 * (u28 133 10))) + 4).toNat) + 1) → In32 v1 ∧ (v1 = 0 → Q 0 u47) ∧ (¬ v1 = 0 → In32 (u47 133 13) ∧ ∀ u51 : Mem, u51 = wr u47 133 13 (lAnd (((u47 133 13) * 1103515245) + 12345) 2147483647) → ((0 : Int) ≤ (u51 133 13) ∧ In32 (u51 133 13)) ∧ ((0 : Int) ≤ ((u51 133 13) / 65536) ∧ In32 ((u51 133 13) / 65536)) ∧ ((0 : Int) ≤ (u51 133 8) ∧ In32 (u51 133 8)) ∧ In32 (((u51 133 13) / 65536) % 100) ∧ In32 ((u51 133 8) / 10) ∧ (((u51 133 8) / 10) ≤ (((u51 133 13) / 65536) % 100) → Q 0 u51) ∧ (¬ ((u51 133 8) / 10) ≤ (((u51 133 13) / 65536) % 100) → ∀ u58 : Mem, u58 = wr u51 133 8 0 → ∀ u60 : Mem, u60 = wr u58 133 9 4 → ∀ u62 : Mem, u62 = wr u60 132 3 ((u60 132 3) + 1) → Q 0 u62)))) ∧ (¬ 0 < w18 → Q 0 t)) : V G mX6_draws 0 [(0, RR 132), (1, II v1)] [] t Q := by
  refine V_aload_n 0 rfl dX6_draws_0 rfl ?_
  refine gX6_7 rfl kY132 rF132_0 dX6_draws_1 rfl ?_
  refine V_iconst dX6_draws_4 rfl ?_
  refine V_ialdL 3 rfl kY133 lI133 rfl dX6_draws_5 rfl ?_
  refine V_aload_n 0 rfl dX6_draws_6 rfl ?_
  refine gX6_7 rfl kY132 rF132_0 dX6_draws_7 rfl ?_
  refine V_bipush (by decide) dX6_draws_10 rfl ?_
  refine V_ialdL 10 rfl kY133 lI133 rfl dX6_draws_12 rfl ?_
  refine V_bipush (by decide) dX6_draws_13 rfl ?_
  obtain ⟨q1, h⟩ := h
  have hj6 : V G mX6_draws 23 [(0, RR 132), (1, II v1)] [II (if (t 133 10) = (-4) then 2 else 1), II (t 133 3)] t Q := by
    obtain ⟨q7, h⟩ := h
    obtain ⟨q8, h⟩ := h
    refine V_idiv q7 q8 dX6_draws_23 rfl ?_
    refine V_istore_n (ls2 := [(0, RR 132), (1, II v1), (2, II ((t 133 3) / (if (t 133 10) = (-4) then 2 else 1)))]) dX6_draws_24 rfl (by decide) rfl ?_
    refine V_aload_n 0 rfl dX6_draws_25 rfl ?_
    refine gX6_7 rfl kY132 rF132_0 dX6_draws_26 rfl ?_
    refine V_iconst dX6_draws_29 rfl ?_
    refine V_ialdL 0 rfl kY133 lI133 rfl dX6_draws_30 rfl ?_
    refine V_aload_n 0 rfl dX6_draws_31 rfl ?_
    refine gX6_7 rfl kY132 rF132_0 dX6_draws_32 rfl ?_
    refine V_iconst dX6_draws_35 rfl ?_
    refine V_ialdL 1 rfl kY133 lI133 rfl dX6_draws_36 rfl ?_
    refine V_isub dX6_draws_37 rfl ?_
    refine V_istore_n (ls2 := [(0, RR 132), (1, II v1), (2, II ((t 133 3) / (if (t 133 10) = (-4) then 2 else 1))), (3, II ((t 133 0) - (t 133 1)))]) dX6_draws_38 rfl (by decide) rfl ?_
    refine V_bipush (by decide) dX6_draws_39 rfl ?_
    refine V_aload_n 0 rfl dX6_draws_41 rfl ?_
    refine gX6_7 rfl kY132 rF132_0 dX6_draws_42 rfl ?_
    refine V_bipush (by decide) dX6_draws_45 rfl ?_
    refine V_ialdL 7 rfl kY133 lI133 rfl dX6_draws_47 rfl ?_
    refine V_isub dX6_draws_48 rfl ?_
    refine V_istore (ls2 := [(0, RR 132), (1, II v1), (2, II ((t 133 3) / (if (t 133 10) = (-4) then 2 else 1))), (3, II ((t 133 0) - (t 133 1))), (4, II (24 - (t 133 7)))]) dX6_draws_49 rfl (by decide) rfl ?_
    refine V_iload_n 2 rfl dX6_draws_51 rfl ?_
    refine V_iload_n 3 rfl dX6_draws_52 rfl ?_
    obtain ⟨q9, h⟩ := h
    obtain ⟨q10, h⟩ := h
    have hj15 : ∀ w11 : Int, w11 = (if ((t 133 0) - (t 133 1)) ≤ ((t 133 3) / (if (t 133 10) = (-4) then 2 else 1)) then (t 133 0) - (t 133 1) else (t 133 3) / (if (t 133 10) = (-4) then 2 else 1)) → V G mX6_draws 61 [(0, RR 132), (1, II v1), (2, II ((t 133 3) / (if (t 133 10) = (-4) then 2 else 1))), (3, II ((t 133 0) - (t 133 1))), (4, II (24 - (t 133 7)))] [II w11] t Q := by
      intro w11 e12
      have h := h w11 e12
      refine V_istore (ls2 := [(0, RR 132), (1, II v1), (2, II ((t 133 3) / (if (t 133 10) = (-4) then 2 else 1))), (3, II ((t 133 0) - (t 133 1))), (4, II (24 - (t 133 7))), (5, II w11)]) dX6_draws_61 rfl (by decide) rfl ?_
      refine V_iload 5 rfl dX6_draws_63 rfl ?_
      refine V_iload 4 rfl dX6_draws_65 rfl ?_
      obtain ⟨q16, h⟩ := h
      obtain ⟨q17, h⟩ := h
      have hj22 : ∀ w18 : Int, w18 = (if (24 - (t 133 7)) ≤ w11 then 24 - (t 133 7) else w11) → V G mX6_draws 77 [(0, RR 132), (1, II v1), (2, II ((t 133 3) / (if (t 133 10) = (-4) then 2 else 1))), (3, II ((t 133 0) - (t 133 1))), (4, II (24 - (t 133 7))), (5, II w11)] [II w18] t Q := by
        intro w18 e19
        have h := h w18 e19
        refine V_istore (ls2 := [(0, RR 132), (1, II v1), (2, II ((t 133 3) / (if (t 133 10) = (-4) then 2 else 1))), (3, II ((t 133 0) - (t 133 1))), (4, II (24 - (t 133 7))), (5, II w18)]) dX6_draws_77 rfl (by decide) rfl ?_
        refine V_iload 5 rfl dX6_draws_79 rfl ?_
        obtain ⟨q23, h⟩ := h
        refine V_if_gt q23 dX6_draws_81 (g := 85) rfl rfl ⟨fun hc => ?_, fun hc => ?_⟩
        · have h := h.1 hc
          refine V_aload_n 0 rfl dX6_draws_85 rfl ?_
          refine gX6_7 rfl kY132 rF132_0 dX6_draws_86 rfl ?_
          refine V_iconst dX6_draws_89 rfl ?_
          refine V_dup2 rfl rfl dX6_draws_90 rfl ?_
          refine V_ialdL 0 rfl kY133 lI133 rfl dX6_draws_91 rfl ?_
          refine V_iload 5 rfl dX6_draws_92 rfl ?_
          refine V_isub dX6_draws_94 rfl ?_
          refine V_iastL 0 rfl kY133 lI133 rfl dX6_draws_95 rfl (fun u24 e25 => ?_)
          have h := h u24 e25
          refine V_aload_n 0 rfl dX6_draws_96 rfl ?_
          refine gX6_7 rfl kY132 rF132_0 dX6_draws_97 rfl ?_
          refine V_bipush (by decide) dX6_draws_100 rfl ?_
          refine V_dup2 rfl rfl dX6_draws_102 rfl ?_
          refine V_ialdL 7 rfl kY133 lI133 rfl dX6_draws_103 rfl ?_
          refine V_iload 5 rfl dX6_draws_104 rfl ?_
          refine V_iadd dX6_draws_106 rfl ?_
          refine V_iastL 7 rfl kY133 lI133 rfl dX6_draws_107 rfl (fun u26 e27 => ?_)
          have h := h u26 e27
          refine V_aload_n 0 rfl dX6_draws_108 rfl ?_
          refine gX6_7 rfl kY132 rF132_0 dX6_draws_109 rfl ?_
          refine V_bipush (by decide) dX6_draws_112 rfl ?_
          refine V_dup2 rfl rfl dX6_draws_114 rfl ?_
          refine V_ialdL 8 rfl kY133 lI133 rfl dX6_draws_115 rfl ?_
          refine V_iconst dX6_draws_116 rfl ?_
          refine V_iadd dX6_draws_117 rfl ?_
          refine V_iastL 8 rfl kY133 lI133 rfl dX6_draws_118 rfl (fun u28 e29 => ?_)
          have h := h u28 e29
          refine V_aload_n 0 rfl dX6_draws_119 rfl ?_
          refine gX6_7 rfl kY132 rF132_0 dX6_draws_120 rfl ?_
          refine V_bipush (by decide) dX6_draws_123 rfl ?_
          refine V_ialdL 10 rfl kY133 lI133 rfl dX6_draws_125 rfl ?_
          refine V_bipush (by decide) dX6_draws_126 rfl ?_
          obtain ⟨q30, h⟩ := h
          refine V_icmp_eq q30 (iL rfl) dX6_draws_128 (g := 155) rfl rfl ⟨fun hc => ?_, fun hc => ?_⟩
          · have h := h.1 hc
            refine V_iload_n 1 rfl dX6_draws_155 rfl ?_
            obtain ⟨q31, h⟩ := h
            refine V_if_eq q31 dX6_draws_156 (g := 239) rfl rfl ⟨fun hc => ?_, fun hc => ?_⟩
            · have h := h.1 hc
              exact V_ret dX6_draws_239 rfl h
            · have h := h.2 hc
              refine V_aload_n 0 rfl dX6_draws_159 rfl ?_
              refine gX6_7 rfl kY132 rF132_0 dX6_draws_160 rfl ?_
              refine V_bipush (by decide) dX6_draws_163 rfl ?_
              refine V_aload_n 0 rfl dX6_draws_165 rfl ?_
              refine gX6_7 rfl kY132 rF132_0 dX6_draws_166 rfl ?_
              refine V_bipush (by decide) dX6_draws_169 rfl ?_
              refine V_ialdL 13 rfl kY133 lI133 rfl dX6_draws_171 rfl ?_
              obtain ⟨q32, h⟩ := h
              refine V_i2l q32 dX6_draws_172 rfl ?_
              refine V_ldc2 (x := 1103515245) ctX6_104 rfl dX6_draws_173 rfl ?_
              refine V_lmul dX6_draws_176 rfl ?_
              refine V_ldc2 (x := 12345) ctX6_106 rfl dX6_draws_177 rfl ?_
              refine V_ladd dX6_draws_180 rfl ?_
              refine V_ldc2 (x := 2147483647) ctX6_108 rfl dX6_draws_181 rfl ?_
              refine V_land dX6_draws_184 rfl ?_
              refine V_l2i dX6_draws_185 rfl ?_
              refine V_iastL 13 rfl kY133 lI133 rfl dX6_draws_186 rfl (fun u33 e34 => ?_)
              have h := h u33 e34
              refine V_aload_n 0 rfl dX6_draws_187 rfl ?_
              refine gX6_7 rfl kY132 rF132_0 dX6_draws_188 rfl ?_
              refine V_bipush (by decide) dX6_draws_191 rfl ?_
              refine V_ialdL 13 rfl kY133 lI133 rfl dX6_draws_193 rfl ?_
              refine V_ldc (x := 65536) ctX6_110 rfl dX6_draws_194 rfl ?_
              obtain ⟨q35, h⟩ := h
              refine V_idiv q35 ⟨by decide, iL rfl⟩ dX6_draws_196 rfl ?_
              refine V_bipush (by decide) dX6_draws_197 rfl ?_
              obtain ⟨q36, h⟩ := h
              refine V_irem q36 ⟨by decide, iL rfl⟩ dX6_draws_199 rfl ?_
              refine V_aload_n 0 rfl dX6_draws_200 rfl ?_
              refine gX6_7 rfl kY132 rF132_0 dX6_draws_201 rfl ?_
              refine V_bipush (by decide) dX6_draws_204 rfl ?_
              refine V_ialdL 8 rfl kY133 lI133 rfl dX6_draws_206 rfl ?_
              refine V_bipush (by decide) dX6_draws_207 rfl ?_
              obtain ⟨q37, h⟩ := h
              refine V_idiv q37 ⟨by decide, iL rfl⟩ dX6_draws_209 rfl ?_
              obtain ⟨q38, h⟩ := h
              obtain ⟨q39, h⟩ := h
              refine V_icmp_ge q38 q39 dX6_draws_210 (g := 239) rfl rfl ⟨fun hc => ?_, fun hc => ?_⟩
              · have h := h.1 hc
                exact V_ret dX6_draws_239 rfl h
              · have h := h.2 hc
                refine V_aload_n 0 rfl dX6_draws_213 rfl ?_
                refine gX6_7 rfl kY132 rF132_0 dX6_draws_214 rfl ?_
                refine V_bipush (by decide) dX6_draws_217 rfl ?_
                refine V_iconst dX6_draws_219 rfl ?_
                refine V_iastL 8 rfl kY133 lI133 rfl dX6_draws_220 rfl (fun u40 e41 => ?_)
                have h := h u40 e41
                refine V_aload_n 0 rfl dX6_draws_221 rfl ?_
                refine gX6_7 rfl kY132 rF132_0 dX6_draws_222 rfl ?_
                refine V_bipush (by decide) dX6_draws_225 rfl ?_
                refine V_iconst dX6_draws_227 rfl ?_
                refine V_iastL 9 rfl kY133 lI133 rfl dX6_draws_228 rfl (fun u42 e43 => ?_)
                have h := h u42 e43
                refine V_aload_n 0 rfl dX6_draws_229 rfl ?_
                refine V_dup rfl dX6_draws_230 rfl ?_
                refine gX6_111 rfl kY132 dX6_draws_231 rfl ?_
                refine V_iconst dX6_draws_234 rfl ?_
                refine V_iadd dX6_draws_235 rfl ?_
                refine pX6_111 rfl kY132 dX6_draws_236 rfl (fun u44 e45 => ?_)
                have h := h u44 e45
                exact V_ret dX6_draws_239 rfl h
          · have h := h.2 hc
            refine V_aload_n 0 rfl dX6_draws_131 rfl ?_
            refine gX6_7 rfl kY132 rF132_0 dX6_draws_132 rfl ?_
            refine V_bipush (by decide) dX6_draws_135 rfl ?_
            refine V_bipush (by decide) dX6_draws_137 rfl ?_
            refine V_aload_n 0 rfl dX6_draws_139 rfl ?_
            refine gX6_7 rfl kY132 rF132_0 dX6_draws_140 rfl ?_
            refine V_bipush (by decide) dX6_draws_143 rfl ?_
            refine V_ialdL 10 rfl kY133 lI133 rfl dX6_draws_145 rfl ?_
            refine V_imul dX6_draws_146 rfl ?_
            refine V_iadd dX6_draws_147 rfl ?_
            refine V_iconst dX6_draws_148 rfl ?_
            refine V_iadd dX6_draws_149 rfl ?_
            refine V_dup2 rfl rfl dX6_draws_150 rfl ?_
            obtain ⟨q46, h⟩ := h
            refine V_ialdn kY133 lI133 q46 dX6_draws_151 rfl ?_
            refine V_iconst dX6_draws_152 rfl ?_
            refine V_iadd dX6_draws_153 rfl ?_
            refine V_iastn kY133 lI133 q46 dX6_draws_154 rfl (fun u47 e48 => ?_)
            have h := h u47 e48
            refine V_iload_n 1 rfl dX6_draws_155 rfl ?_
            obtain ⟨q49, h⟩ := h
            refine V_if_eq q49 dX6_draws_156 (g := 239) rfl rfl ⟨fun hc => ?_, fun hc => ?_⟩
            · have h := h.1 hc
              exact V_ret dX6_draws_239 rfl h
            · have h := h.2 hc
              refine V_aload_n 0 rfl dX6_draws_159 rfl ?_
              refine gX6_7 rfl kY132 rF132_0 dX6_draws_160 rfl ?_
              refine V_bipush (by decide) dX6_draws_163 rfl ?_
              refine V_aload_n 0 rfl dX6_draws_165 rfl ?_
              refine gX6_7 rfl kY132 rF132_0 dX6_draws_166 rfl ?_
              refine V_bipush (by decide) dX6_draws_169 rfl ?_
              refine V_ialdL 13 rfl kY133 lI133 rfl dX6_draws_171 rfl ?_
              obtain ⟨q50, h⟩ := h
              refine V_i2l q50 dX6_draws_172 rfl ?_
              refine V_ldc2 (x := 1103515245) ctX6_104 rfl dX6_draws_173 rfl ?_
              refine V_lmul dX6_draws_176 rfl ?_
              refine V_ldc2 (x := 12345) ctX6_106 rfl dX6_draws_177 rfl ?_
              refine V_ladd dX6_draws_180 rfl ?_
              refine V_ldc2 (x := 2147483647) ctX6_108 rfl dX6_draws_181 rfl ?_
              refine V_land dX6_draws_184 rfl ?_
              refine V_l2i dX6_draws_185 rfl ?_
              refine V_iastL 13 rfl kY133 lI133 rfl dX6_draws_186 rfl (fun u51 e52 => ?_)
              have h := h u51 e52
              refine V_aload_n 0 rfl dX6_draws_187 rfl ?_
              refine gX6_7 rfl kY132 rF132_0 dX6_draws_188 rfl ?_
              refine V_bipush (by decide) dX6_draws_191 rfl ?_
              refine V_ialdL 13 rfl kY133 lI133 rfl dX6_draws_193 rfl ?_
              refine V_ldc (x := 65536) ctX6_110 rfl dX6_draws_194 rfl ?_
              obtain ⟨q53, h⟩ := h
              refine V_idiv q53 ⟨by decide, iL rfl⟩ dX6_draws_196 rfl ?_
              refine V_bipush (by decide) dX6_draws_197 rfl ?_
              obtain ⟨q54, h⟩ := h
              refine V_irem q54 ⟨by decide, iL rfl⟩ dX6_draws_199 rfl ?_
              refine V_aload_n 0 rfl dX6_draws_200 rfl ?_
              refine gX6_7 rfl kY132 rF132_0 dX6_draws_201 rfl ?_
              refine V_bipush (by decide) dX6_draws_204 rfl ?_
              refine V_ialdL 8 rfl kY133 lI133 rfl dX6_draws_206 rfl ?_
              refine V_bipush (by decide) dX6_draws_207 rfl ?_
              obtain ⟨q55, h⟩ := h
              refine V_idiv q55 ⟨by decide, iL rfl⟩ dX6_draws_209 rfl ?_
              obtain ⟨q56, h⟩ := h
              obtain ⟨q57, h⟩ := h
              refine V_icmp_ge q56 q57 dX6_draws_210 (g := 239) rfl rfl ⟨fun hc => ?_, fun hc => ?_⟩
              · have h := h.1 hc
                exact V_ret dX6_draws_239 rfl h
              · have h := h.2 hc
                refine V_aload_n 0 rfl dX6_draws_213 rfl ?_
                refine gX6_7 rfl kY132 rF132_0 dX6_draws_214 rfl ?_
                refine V_bipush (by decide) dX6_draws_217 rfl ?_
                refine V_iconst dX6_draws_219 rfl ?_
                refine V_iastL 8 rfl kY133 lI133 rfl dX6_draws_220 rfl (fun u58 e59 => ?_)
                have h := h u58 e59
                refine V_aload_n 0 rfl dX6_draws_221 rfl ?_
                refine gX6_7 rfl kY132 rF132_0 dX6_draws_222 rfl ?_
                refine V_bipush (by decide) dX6_draws_225 rfl ?_
                refine V_iconst dX6_draws_227 rfl ?_
                refine V_iastL 9 rfl kY133 lI133 rfl dX6_draws_228 rfl (fun u60 e61 => ?_)
                have h := h u60 e61
                refine V_aload_n 0 rfl dX6_draws_229 rfl ?_
                refine V_dup rfl dX6_draws_230 rfl ?_
                refine gX6_111 rfl kY132 dX6_draws_231 rfl ?_
                refine V_iconst dX6_draws_234 rfl ?_
                refine V_iadd dX6_draws_235 rfl ?_
                refine pX6_111 rfl kY132 dX6_draws_236 rfl (fun u62 e63 => ?_)
                have h := h u62 e63
                exact V_ret dX6_draws_239 rfl h
        · have h := h.2 hc
          exact V_ret dX6_draws_84 rfl h
      have hj22 := hj22 _ rfl
      refine V_icmp_ge q16 q17 dX6_draws_67 (g := 75) rfl rfl ⟨fun hc => ?_, fun hc => ?_⟩
      · skip
        refine V_iload 4 rfl dX6_draws_75 rfl ?_
        rw [if_pos hc] at hj22
        exact hj22
      · skip
        refine V_iload 5 rfl dX6_draws_70 rfl ?_
        refine V_goto (g := 77) dX6_draws_72 rfl ?_
        rw [if_neg hc] at hj22
        exact hj22
    have hj15 := hj15 _ rfl
    refine V_icmp_ge q9 q10 dX6_draws_53 (g := 60) rfl rfl ⟨fun hc => ?_, fun hc => ?_⟩
    · skip
      refine V_iload_n 3 rfl dX6_draws_60 rfl ?_
      rw [if_pos hc] at hj15
      exact hj15
    · skip
      refine V_iload_n 2 rfl dX6_draws_56 rfl ?_
      refine V_goto (g := 61) dX6_draws_57 rfl ?_
      rw [if_neg hc] at hj15
      exact hj15
  refine V_icmp_ne q1 (iL rfl) dX6_draws_15 (g := 22) rfl rfl ⟨fun hc => ?_, fun hc => ?_⟩
  · skip
    refine V_iconst dX6_draws_22 rfl ?_
    rw [if_neg hc] at hj6
    exact hj6
  · skip
    refine V_iconst dX6_draws_18 rfl ?_
    refine V_goto (g := 23) dX6_draws_19 rfl ?_
    rw [if_pos hc] at hj6
    exact hj6
theorem eX6_drinksOf {G : GG} {Q : Int → Mem → Prop} {t : Mem} {v1 : Int} (k : V G mX6_drinksOf 0 [(0, RR 132), (1, II v1)] [] t Q) : Ex G mX6_drinksOf [RR 132, II v1] t Q := Ex.of plX6 (Or.inr (Or.inl rfl)) (Nat.le_of_ble_eq_true rfl) rfl k
set_option maxRecDepth 100000 in
theorem sgX6_drinksOf_0 {G : GG} {Q : Int → Mem → Prop} {t : Mem} {v1 : Int}  (h : ∃ P1 : Int → Mem → Prop, Ex G mX6_drinks [RR 132, II v1] t P1 ∧ ∀ (r3 : Int) (u4 : Mem), P1 r3 u4 → ∃ P6 : Int → Mem → Prop, Ex G mX6_needs [RR 132, II v1] u4 P6 ∧ ∀ (r8 : Int) (u9 : Mem), P6 r8 u9 → ∃ P11 : Int → Mem → Prop, Ex G mX6_at [RR 132, II v1, II 3] u9 P11 ∧ ∀ (r13 : Int) (u14 : Mem), P11 r13 u14 → In32 r3 ∧ In32 (r8 - r13) ∧ ∀ w18 : Int, w18 = (if (r8 - r13) ≤ r3 then r8 - r13 else r3) → In32 w18 ∧ In32 (u14 133 7) ∧ ∀ w25 : Int, w25 = (if (u14 133 7) ≤ w18 then u14 133 7 else w18) → Q w25 u14) : V G mX6_drinksOf 0 [(0, RR 132), (1, II v1)] [] t Q := by
  refine V_aload_n 0 rfl dX6_drinksOf_0 rfl ?_
  refine V_iload_n 1 rfl dX6_drinksOf_1 rfl ?_
  obtain ⟨P1, c2, h⟩ := h
  refine V_callVi (st := []) (as := [II v1]) okX6_drinks rfl mlX6_82 (by decide) kY132 rfl (Nat.le_of_ble_eq_true rfl) rfl dX6_drinksOf_2 rfl c2 (fun r3 u4 e5 => ?_)
  have h := h r3 u4 e5
  refine V_istore_n (ls2 := [(0, RR 132), (1, II v1), (2, II r3)]) dX6_drinksOf_5 rfl (by decide) rfl ?_
  refine V_aload_n 0 rfl dX6_drinksOf_6 rfl ?_
  refine V_iload_n 1 rfl dX6_drinksOf_7 rfl ?_
  obtain ⟨P6, c7, h⟩ := h
  refine V_callVi (st := []) (as := [II v1]) okX6_needs rfl mlX6_63 (by decide) kY132 rfl (Nat.le_of_ble_eq_true rfl) rfl dX6_drinksOf_8 rfl c7 (fun r8 u9 e10 => ?_)
  have h := h r8 u9 e10
  refine V_aload_n 0 rfl dX6_drinksOf_11 rfl ?_
  refine V_iload_n 1 rfl dX6_drinksOf_12 rfl ?_
  refine V_iconst dX6_drinksOf_13 rfl ?_
  obtain ⟨P11, c12, h⟩ := h
  refine V_callVi (st := [II r8]) (as := [II v1, II 3]) okX6_at rfl mlX6_55 (by decide) kY132 rfl (Nat.le_of_ble_eq_true rfl) rfl dX6_drinksOf_14 rfl c12 (fun r13 u14 e15 => ?_)
  have h := h r13 u14 e15
  refine V_isub dX6_drinksOf_17 rfl ?_
  refine V_istore_n (ls2 := [(0, RR 132), (1, II v1), (2, II r3), (3, II (r8 - r13))]) dX6_drinksOf_18 rfl (by decide) rfl ?_
  refine V_iload_n 2 rfl dX6_drinksOf_19 rfl ?_
  refine V_iload_n 3 rfl dX6_drinksOf_20 rfl ?_
  obtain ⟨q16, h⟩ := h
  obtain ⟨q17, h⟩ := h
  have hj22 : ∀ w18 : Int, w18 = (if (r8 - r13) ≤ r3 then r8 - r13 else r3) → V G mX6_drinksOf 29 [(0, RR 132), (1, II v1), (2, II r3), (3, II (r8 - r13))] [II w18] u14 Q := by
    intro w18 e19
    have h := h w18 e19
    refine V_istore_n (ls2 := [(0, RR 132), (1, II v1), (2, II w18), (3, II (r8 - r13))]) dX6_drinksOf_29 rfl (by decide) rfl ?_
    refine V_iload_n 2 rfl dX6_drinksOf_30 rfl ?_
    refine V_aload_n 0 rfl dX6_drinksOf_31 rfl ?_
    refine gX6_7 rfl kY132 rF132_0 dX6_drinksOf_32 rfl ?_
    refine V_bipush (by decide) dX6_drinksOf_35 rfl ?_
    refine V_ialdL 7 rfl kY133 lI133 rfl dX6_drinksOf_37 rfl ?_
    obtain ⟨q23, h⟩ := h
    obtain ⟨q24, h⟩ := h
    have hj29 : ∀ w25 : Int, w25 = (if (u14 133 7) ≤ w18 then u14 133 7 else w18) → V G mX6_drinksOf 52 [(0, RR 132), (1, II v1), (2, II w18), (3, II (r8 - r13))] [II w25] u14 Q := by
      intro w25 e26
      have h := h w25 e26
      exact V_iret dX6_drinksOf_52 (Or.inl rfl) h
    have hj29 := hj29 _ rfl
    refine V_icmp_ge q23 q24 dX6_drinksOf_38 (g := 45) rfl rfl ⟨fun hc => ?_, fun hc => ?_⟩
    · skip
      refine V_aload_n 0 rfl dX6_drinksOf_45 rfl ?_
      refine gX6_7 rfl kY132 rF132_0 dX6_drinksOf_46 rfl ?_
      refine V_bipush (by decide) dX6_drinksOf_49 rfl ?_
      refine V_ialdL 7 rfl kY133 lI133 rfl dX6_drinksOf_51 rfl ?_
      rw [if_pos hc] at hj29
      exact hj29
    · skip
      refine V_iload_n 2 rfl dX6_drinksOf_41 rfl ?_
      refine V_goto (g := 52) dX6_drinksOf_42 rfl ?_
      rw [if_neg hc] at hj29
      exact hj29
  have hj22 := hj22 _ rfl
  refine V_icmp_ge q16 q17 dX6_drinksOf_21 (g := 28) rfl rfl ⟨fun hc => ?_, fun hc => ?_⟩
  · skip
    refine V_iload_n 3 rfl dX6_drinksOf_28 rfl ?_
    rw [if_pos hc] at hj22
    exact hj22
  · skip
    refine V_iload_n 2 rfl dX6_drinksOf_24 rfl ?_
    refine V_goto (g := 29) dX6_drinksOf_25 rfl ?_
    rw [if_neg hc] at hj22
    exact hj22
theorem eX6_goes {G : GG} {Q : Int → Mem → Prop} {t : Mem} {v1 v2 : Int} (k : V G mX6_goes 0 [(0, RR 132), (1, II v1), (2, II v2)] [] t Q) : Ex G mX6_goes [RR 132, II v1, II v2] t Q := Ex.of plX6 (Or.inr (Or.inl rfl)) (Nat.le_of_ble_eq_true rfl) rfl k
set_option maxRecDepth 100000 in
theorem sgX6_goes_0 {G : GG} {Q : Int → Mem → Prop} {t : Mem} {v1 v2 : Int}  (h : ((0 : Int) ≤ (60 - (t 133 0)) ∧ In32 (60 - (t 133 0))) ∧ ((0 : Int) < (t 133 2) ∧ In32 (t 133 2)) ∧ ∀ u3 : Mem, u3 = wr t 133 0 ((t 133 0) + ((60 - (t 133 0)) / (t 133 2))) → In32 (u3 133 9) ∧ (¬ (u3 133 9) = 0 → V G mX6_goes 55 [(0, RR 132), (1, II v1), (2, II v2)] [] u3 Q) ∧ ((u3 133 9) = 0 → In32 (u3 133 0) ∧ In32 (u3 133 5) ∧ ((u3 133 0) < (u3 133 5) → V G mX6_goes 55 [(0, RR 132), (1, II v1), (2, II v2)] [] u3 Q) ∧ (¬ (u3 133 0) < (u3 133 5) → ∃ P8 : Int → Mem → Prop, Ex G mX6_draws [RR 132, II v1] u3 P8 ∧ ∀ u11 : Mem, P8 0 u11 → V G mX6_goes 55 [(0, RR 132), (1, II v1), (2, II v2)] [] u11 Q))) : V G mX6_goes 0 [(0, RR 132), (1, II v1), (2, II v2)] [] t Q := by
  refine V_aload_n 0 rfl dX6_goes_0 rfl ?_
  refine gX6_7 rfl kY132 rF132_0 dX6_goes_1 rfl ?_
  refine V_iconst dX6_goes_4 rfl ?_
  refine V_dup2 rfl rfl dX6_goes_5 rfl ?_
  refine V_ialdL 0 rfl kY133 lI133 rfl dX6_goes_6 rfl ?_
  refine V_bipush (by decide) dX6_goes_7 rfl ?_
  refine V_aload_n 0 rfl dX6_goes_9 rfl ?_
  refine gX6_7 rfl kY132 rF132_0 dX6_goes_10 rfl ?_
  refine V_iconst dX6_goes_13 rfl ?_
  refine V_ialdL 0 rfl kY133 lI133 rfl dX6_goes_14 rfl ?_
  refine V_isub dX6_goes_15 rfl ?_
  refine V_aload_n 0 rfl dX6_goes_16 rfl ?_
  refine gX6_7 rfl kY132 rF132_0 dX6_goes_17 rfl ?_
  refine V_iconst dX6_goes_20 rfl ?_
  refine V_ialdL 2 rfl kY133 lI133 rfl dX6_goes_21 rfl ?_
  obtain ⟨q1, h⟩ := h
  obtain ⟨q2, h⟩ := h
  refine V_idiv q1 q2 dX6_goes_22 rfl ?_
  refine V_iadd dX6_goes_23 rfl ?_
  refine V_iastL 0 rfl kY133 lI133 rfl dX6_goes_24 rfl (fun u3 e4 => ?_)
  have h := h u3 e4
  refine V_aload_n 0 rfl dX6_goes_25 rfl ?_
  refine gX6_7 rfl kY132 rF132_0 dX6_goes_26 rfl ?_
  refine V_bipush (by decide) dX6_goes_29 rfl ?_
  refine V_ialdL 9 rfl kY133 lI133 rfl dX6_goes_31 rfl ?_
  obtain ⟨q5, h⟩ := h
  refine V_if_ne q5 dX6_goes_32 (g := 55) rfl rfl ⟨fun hc => ?_, fun hc => ?_⟩
  · have h := h.1 hc
    exact h
  · have h := h.2 hc
    refine V_aload_n 0 rfl dX6_goes_35 rfl ?_
    refine gX6_7 rfl kY132 rF132_0 dX6_goes_36 rfl ?_
    refine V_iconst dX6_goes_39 rfl ?_
    refine V_ialdL 0 rfl kY133 lI133 rfl dX6_goes_40 rfl ?_
    refine V_aload_n 0 rfl dX6_goes_41 rfl ?_
    refine gX6_7 rfl kY132 rF132_0 dX6_goes_42 rfl ?_
    refine V_iconst dX6_goes_45 rfl ?_
    refine V_ialdL 5 rfl kY133 lI133 rfl dX6_goes_46 rfl ?_
    obtain ⟨q6, h⟩ := h
    obtain ⟨q7, h⟩ := h
    refine V_icmp_lt q6 q7 dX6_goes_47 (g := 55) rfl rfl ⟨fun hc => ?_, fun hc => ?_⟩
    · have h := h.1 hc
      exact h
    · have h := h.2 hc
      refine V_aload_n 0 rfl dX6_goes_50 rfl ?_
      refine V_iload_n 1 rfl dX6_goes_51 rfl ?_
      obtain ⟨P8, c9, h⟩ := h
      refine V_callVv (st := []) (as := [II v1]) okX6_draws rfl mlX6_114 (by decide) kY132 rfl (Nat.le_of_ble_eq_true rfl) rfl dX6_goes_52 rfl c9 (fun u11 e12 => ?_)
      have h := h u11 e12
      exact h
set_option maxRecDepth 100000 in
theorem sgX6_goes_55 {G : GG} {Q : Int → Mem → Prop} {t : Mem} {v1 v2 : Int}  (h : In32 (t 132 2) ∧ In32 (t 133 6) ∧ ((t 132 2) = (t 133 6) → V G mX6_goes 80 [(0, RR 132), (1, II v1), (2, II v2)] [] t Q) ∧ (¬ (t 132 2) = (t 133 6) → ∃ P3 : Int → Mem → Prop, Ex G mX6_orders [RR 132, II (t 133 6)] t P3 ∧ ∀ u6 : Mem, P3 0 u6 → V G mX6_goes 80 [(0, RR 132), (1, II v1), (2, II v2)] [] u6 Q)) : V G mX6_goes 55 [(0, RR 132), (1, II v1), (2, II v2)] [] t Q := by
  refine V_aload_n 0 rfl dX6_goes_55 rfl ?_
  refine gX6_16 rfl kY132 dX6_goes_56 rfl ?_
  refine V_aload_n 0 rfl dX6_goes_59 rfl ?_
  refine gX6_7 rfl kY132 rF132_0 dX6_goes_60 rfl ?_
  refine V_bipush (by decide) dX6_goes_63 rfl ?_
  refine V_ialdL 6 rfl kY133 lI133 rfl dX6_goes_65 rfl ?_
  obtain ⟨q1, h⟩ := h
  obtain ⟨q2, h⟩ := h
  refine V_icmp_eq q1 q2 dX6_goes_66 (g := 80) rfl rfl ⟨fun hc => ?_, fun hc => ?_⟩
  · have h := h.1 hc
    exact h
  · have h := h.2 hc
    refine V_aload_n 0 rfl dX6_goes_69 rfl ?_
    refine V_aload_n 0 rfl dX6_goes_70 rfl ?_
    refine gX6_7 rfl kY132 rF132_0 dX6_goes_71 rfl ?_
    refine V_bipush (by decide) dX6_goes_74 rfl ?_
    refine V_ialdL 6 rfl kY133 lI133 rfl dX6_goes_76 rfl ?_
    obtain ⟨P3, c4, h⟩ := h
    refine V_callVv (st := []) (as := [II (t 133 6)]) okX6_orders rfl mlX6_100 (by decide) kY132 rfl (Nat.le_of_ble_eq_true rfl) rfl dX6_goes_77 rfl c4 (fun u6 e7 => ?_)
    have h := h u6 e7
    exact h
set_option maxRecDepth 100000 in
theorem sgX6_goes_80 {G : GG} {Q : Int → Mem → Prop} {t : Mem} {v1 v2 : Int}  (h : V G mX6_goes 96 [(0, RR 132), (1, II v1), (2, II v2), (3, II (t 133 4)), (4, II 0), (5, II 0), (6, II 0)] [] t Q) : V G mX6_goes 80 [(0, RR 132), (1, II v1), (2, II v2)] [] t Q := by
  refine V_aload_n 0 rfl dX6_goes_80 rfl ?_
  refine gX6_7 rfl kY132 rF132_0 dX6_goes_81 rfl ?_
  refine V_iconst dX6_goes_84 rfl ?_
  refine V_ialdL 4 rfl kY133 lI133 rfl dX6_goes_85 rfl ?_
  refine V_istore_n (ls2 := [(0, RR 132), (1, II v1), (2, II v2), (3, II (t 133 4))]) dX6_goes_86 rfl (by decide) rfl ?_
  refine V_iconst dX6_goes_87 rfl ?_
  refine V_istore (ls2 := [(0, RR 132), (1, II v1), (2, II v2), (3, II (t 133 4)), (4, II 0)]) dX6_goes_88 rfl (by decide) rfl ?_
  refine V_iconst dX6_goes_90 rfl ?_
  refine V_istore (ls2 := [(0, RR 132), (1, II v1), (2, II v2), (3, II (t 133 4)), (4, II 0), (5, II 0)]) dX6_goes_91 rfl (by decide) rfl ?_
  refine V_iconst dX6_goes_93 rfl ?_
  refine V_istore (ls2 := [(0, RR 132), (1, II v1), (2, II v2), (3, II (t 133 4)), (4, II 0), (5, II 0), (6, II 0)]) dX6_goes_94 rfl (by decide) rfl ?_
  exact h
set_option maxRecDepth 100000 in
theorem sgX6_goes_96 {G : GG} {Q : Int → Mem → Prop} {t : Mem} {v1 v2 v3 v4 v5 v6 : Int}  (h : In32 v6 ∧ In32 (t 133 12) ∧ ((t 133 12) ≤ v6 → V G mX6_goes 277 [(0, RR 132), (1, II v1), (2, II v2), (3, II v3), (4, II v4), (5, II v5), (6, II 0)] [] t Q) ∧ (¬ (t 133 12) ≤ v6 → (0 ≤ v6 ∧ v6 < 7) ∧ In32 v3 ∧ (v3 ≤ 0 → V G mX6_goes 216 [(0, RR 132), (1, II v1), (2, II v2), (3, II v3), (4, II v4), (5, II v5), (6, II v6), (7, II (t 134 v6.toNat)), (8, II 0)] [] t Q) ∧ (¬ v3 ≤ 0 → ∃ P5 : Int → Mem → Prop, Ex G mX6_isSated [RR 132, II (t 134 v6.toNat)] t P5 ∧ ∀ (r7 : Int) (u8 : Mem), P5 r7 u8 → In32 r7 ∧ (¬ r7 = 0 → V G mX6_goes 216 [(0, RR 132), (1, II v1), (2, II v2), (3, II v3), (4, II v4), (5, II v5), (6, II v6), (7, II (t 134 v6.toNat)), (8, II 0)] [] u8 Q) ∧ (r7 = 0 → ∃ P11 : Int → Mem → Prop, Ex G mX6_at [RR 132, II (t 134 v6.toNat), II 6] u8 P11 ∧ ∀ (r13 : Int) (u14 : Mem), P11 r13 u14 → In32 r13 ∧ (¬ r13 = 0 → V G mX6_goes 216 [(0, RR 132), (1, II v1), (2, II v2), (3, II v3), (4, II v4), (5, II v5), (6, II v6), (7, II (t 134 v6.toNat)), (8, II 0)] [] u14 Q) ∧ (r13 = 0 → In32 (t 134 v6.toNat) ∧ In32 (u14 133 10) ∧ ((t 134 v6.toNat) = (u14 133 10) → V G mX6_goes 216 [(0, RR 132), (1, II v1), (2, II v2), (3, II v3), (4, II v4), (5, II v5), (6, II v6), (7, II (t 134 v6.toNat)), (8, II 0)] [] u14 Q) ∧ (¬ (t 134 v6.toNat) = (u14 133 10) → In32 (iAnd (iShr v2 (t 134 v6.toNat)) 1) ∧ (¬ (iAnd (iShr v2 (t 134 v6.toNat)) 1) = 1 → V G mX6_goes 216 [(0, RR 132), (1, II v1), (2, II v2), (3, II v3), (4, II v4), (5, II v5), (6, II v6), (7, II (t 134 v6.toNat)), (8, II 0)] [] u14 Q) ∧ ((iAnd (iShr v2 (t 134 v6.toNat)) 1) = 1 → ∃ P20 : Int → Mem → Prop, Ex G mX6_drinksOf [RR 132, II (t 134 v6.toNat)] u14 P20 ∧ ∀ (r22 : Int) (u23 : Mem), P20 r22 u23 → ∀ u25 : Mem, u25 = wr u23 133 7 ((u23 133 7) - r22) → (0 ≤ (14 + (7 * (t 134 v6.toNat))) + 3 ∧ (14 + (7 * (t 134 v6.toNat))) + 3 < 63) ∧ ∀ u28 : Mem, u28 = wr u25 133 ((14 + (7 * (t 134 v6.toNat))) + 3).toNat ((u25 133 ((14 + (7 * (t 134 v6.toNat))) + 3).toNat) + r22) → V G mX6_goes 216 [(0, RR 132), (1, II v1), (2, II v2), (3, II (v3 + (-1))), (4, II (v4 + r22)), (5, II v5), (6, II v6), (7, II (t 134 v6.toNat)), (8, II r22)] [] u28 Q))))))) : V G mX6_goes 96 [(0, RR 132), (1, II v1), (2, II v2), (3, II v3), (4, II v4), (5, II v5), (6, II v6)] [] t Q := by
  refine V_iload 6 rfl dX6_goes_96 rfl ?_
  refine V_aload_n 0 rfl dX6_goes_98 rfl ?_
  refine gX6_7 rfl kY132 rF132_0 dX6_goes_99 rfl ?_
  refine V_bipush (by decide) dX6_goes_102 rfl ?_
  refine V_ialdL 12 rfl kY133 lI133 rfl dX6_goes_104 rfl ?_
  obtain ⟨q1, h⟩ := h
  obtain ⟨q2, h⟩ := h
  refine V_icmp_ge q1 q2 dX6_goes_105 (g := 274) rfl rfl ⟨fun hc => ?_, fun hc => ?_⟩
  · have h := h.1 hc
    refine V_iconst dX6_goes_274 rfl ?_
    refine V_istore (ls2 := [(0, RR 132), (1, II v1), (2, II v2), (3, II v3), (4, II v4), (5, II v5), (6, II 0)]) dX6_goes_275 rfl (by decide) rfl ?_
    exact h
  · have h := h.2 hc
    refine V_aload_n 0 rfl dX6_goes_108 rfl ?_
    refine gX6_13 rfl kY132 rF132_1 dX6_goes_109 rfl ?_
    refine V_iload 6 rfl dX6_goes_112 rfl ?_
    obtain ⟨q3, h⟩ := h
    refine V_ialdn kY134 lI134 q3 dX6_goes_114 rfl ?_
    refine V_istore (ls2 := [(0, RR 132), (1, II v1), (2, II v2), (3, II v3), (4, II v4), (5, II v5), (6, II v6), (7, II (t 134 v6.toNat))]) dX6_goes_115 rfl (by decide) rfl ?_
    refine V_iconst dX6_goes_117 rfl ?_
    refine V_istore (ls2 := [(0, RR 132), (1, II v1), (2, II v2), (3, II v3), (4, II v4), (5, II v5), (6, II v6), (7, II (t 134 v6.toNat)), (8, II 0)]) dX6_goes_118 rfl (by decide) rfl ?_
    refine V_iload_n 3 rfl dX6_goes_120 rfl ?_
    obtain ⟨q4, h⟩ := h
    refine V_if_le q4 dX6_goes_121 (g := 216) rfl rfl ⟨fun hc => ?_, fun hc => ?_⟩
    · have h := h.1 hc
      exact h
    · have h := h.2 hc
      refine V_aload_n 0 rfl dX6_goes_124 rfl ?_
      refine V_iload 7 rfl dX6_goes_125 rfl ?_
      obtain ⟨P5, c6, h⟩ := h
      refine V_callVi (st := []) (as := [II (t 134 v6.toNat)]) okX6_isSated rfl mlX6_67 (by decide) kY132 rfl (Nat.le_of_ble_eq_true rfl) rfl dX6_goes_127 rfl c6 (fun r7 u8 e9 => ?_)
      have h := h r7 u8 e9
      obtain ⟨q10, h⟩ := h
      refine V_if_ne q10 dX6_goes_130 (g := 216) rfl rfl ⟨fun hc => ?_, fun hc => ?_⟩
      · have h := h.1 hc
        exact h
      · have h := h.2 hc
        refine V_aload_n 0 rfl dX6_goes_133 rfl ?_
        refine V_iload 7 rfl dX6_goes_134 rfl ?_
        refine V_bipush (by decide) dX6_goes_136 rfl ?_
        obtain ⟨P11, c12, h⟩ := h
        refine V_callVi (st := []) (as := [II (t 134 v6.toNat), II 6]) okX6_at rfl mlX6_55 (by decide) kY132 rfl (Nat.le_of_ble_eq_true rfl) rfl dX6_goes_138 rfl c12 (fun r13 u14 e15 => ?_)
        have h := h r13 u14 e15
        obtain ⟨q16, h⟩ := h
        refine V_if_ne q16 dX6_goes_141 (g := 216) rfl rfl ⟨fun hc => ?_, fun hc => ?_⟩
        · have h := h.1 hc
          exact h
        · have h := h.2 hc
          refine V_iload 7 rfl dX6_goes_144 rfl ?_
          refine V_aload_n 0 rfl dX6_goes_146 rfl ?_
          refine gX6_7 rfl kY132 rF132_0 dX6_goes_147 rfl ?_
          refine V_bipush (by decide) dX6_goes_150 rfl ?_
          refine V_ialdL 10 rfl kY133 lI133 rfl dX6_goes_152 rfl ?_
          obtain ⟨q17, h⟩ := h
          obtain ⟨q18, h⟩ := h
          refine V_icmp_eq q17 q18 dX6_goes_153 (g := 216) rfl rfl ⟨fun hc => ?_, fun hc => ?_⟩
          · have h := h.1 hc
            exact h
          · have h := h.2 hc
            refine V_iload_n 2 rfl dX6_goes_156 rfl ?_
            refine V_iload 7 rfl dX6_goes_157 rfl ?_
            refine V_ishr dX6_goes_159 rfl ?_
            refine V_iconst dX6_goes_160 rfl ?_
            refine V_iand dX6_goes_161 rfl ?_
            refine V_iconst dX6_goes_162 rfl ?_
            obtain ⟨q19, h⟩ := h
            refine V_icmp_ne q19 (iL rfl) dX6_goes_163 (g := 216) rfl rfl ⟨fun hc => ?_, fun hc => ?_⟩
            · have h := h.1 hc
              exact h
            · have h := h.2 hc
              refine V_iinc 3 rfl (ls2 := [(0, RR 132), (1, II v1), (2, II v2), (3, II (v3 + (-1))), (4, II v4), (5, II v5), (6, II v6), (7, II (t 134 v6.toNat)), (8, II 0)]) dX6_goes_166 rfl (by decide) rfl ?_
              refine V_aload_n 0 rfl dX6_goes_169 rfl ?_
              refine V_iload 7 rfl dX6_goes_170 rfl ?_
              obtain ⟨P20, c21, h⟩ := h
              refine V_callVi (st := []) (as := [II (t 134 v6.toNat)]) okX6_drinksOf rfl mlX6_118 (by decide) kY132 rfl (Nat.le_of_ble_eq_true rfl) rfl dX6_goes_172 rfl c21 (fun r22 u23 e24 => ?_)
              have h := h r22 u23 e24
              refine V_istore (ls2 := [(0, RR 132), (1, II v1), (2, II v2), (3, II (v3 + (-1))), (4, II v4), (5, II v5), (6, II v6), (7, II (t 134 v6.toNat)), (8, II r22)]) dX6_goes_175 rfl (by decide) rfl ?_
              refine V_aload_n 0 rfl dX6_goes_177 rfl ?_
              refine gX6_7 rfl kY132 rF132_0 dX6_goes_178 rfl ?_
              refine V_bipush (by decide) dX6_goes_181 rfl ?_
              refine V_dup2 rfl rfl dX6_goes_183 rfl ?_
              refine V_ialdL 7 rfl kY133 lI133 rfl dX6_goes_184 rfl ?_
              refine V_iload 8 rfl dX6_goes_185 rfl ?_
              refine V_isub dX6_goes_187 rfl ?_
              refine V_iastL 7 rfl kY133 lI133 rfl dX6_goes_188 rfl (fun u25 e26 => ?_)
              have h := h u25 e26
              refine V_aload_n 0 rfl dX6_goes_189 rfl ?_
              refine gX6_7 rfl kY132 rF132_0 dX6_goes_190 rfl ?_
              refine V_bipush (by decide) dX6_goes_193 rfl ?_
              refine V_bipush (by decide) dX6_goes_195 rfl ?_
              refine V_iload 7 rfl dX6_goes_197 rfl ?_
              refine V_imul dX6_goes_199 rfl ?_
              refine V_iadd dX6_goes_200 rfl ?_
              refine V_iconst dX6_goes_201 rfl ?_
              refine V_iadd dX6_goes_202 rfl ?_
              refine V_dup2 rfl rfl dX6_goes_203 rfl ?_
              obtain ⟨q27, h⟩ := h
              refine V_ialdn kY133 lI133 q27 dX6_goes_204 rfl ?_
              refine V_iload 8 rfl dX6_goes_205 rfl ?_
              refine V_iadd dX6_goes_207 rfl ?_
              refine V_iastn kY133 lI133 q27 dX6_goes_208 rfl (fun u28 e29 => ?_)
              have h := h u28 e29
              refine V_iload 4 rfl dX6_goes_209 rfl ?_
              refine V_iload 8 rfl dX6_goes_211 rfl ?_
              refine V_iadd dX6_goes_213 rfl ?_
              refine V_istore (ls2 := [(0, RR 132), (1, II v1), (2, II v2), (3, II (v3 + (-1))), (4, II (v4 + r22)), (5, II v5), (6, II v6), (7, II (t 134 v6.toNat)), (8, II r22)]) dX6_goes_214 rfl (by decide) rfl ?_
              exact h
set_option maxRecDepth 100000 in
theorem sgX6_goes_216 {G : GG} {Q : Int → Mem → Prop} {t : Mem} {v1 v2 v3 v4 v5 v6 v7 v8 : Int}  (h : In32 v8 ∧ ∀ w2 : Int, w2 = (if v8 ≤ 0 then 0 else iShl 1 v7) → (v8 ≤ 0 → (0 ≤ (14 + (7 * v7)) + 5 ∧ (14 + (7 * v7)) + 5 < 63) ∧ ∀ u7 : Mem, u7 = wr t 133 ((14 + (7 * v7)) + 5).toNat 0 → V G mX6_goes 96 [(0, RR 132), (1, II v1), (2, II v2), (3, II v3), (4, II v4), (5, II (iOr v5 w2)), (6, II (v6 + 1))] [] u7 Q) ∧ (¬ v8 ≤ 0 → ∃ P10 : Int → Mem → Prop, Ex G mX6_at [RR 132, II v7, II 5] t P10 ∧ ∀ (r12 : Int) (u13 : Mem), P10 r12 u13 → (0 ≤ (14 + (7 * v7)) + 5 ∧ (14 + (7 * v7)) + 5 < 63) ∧ ∀ u15 : Mem, u15 = wr u13 133 ((14 + (7 * v7)) + 5).toNat (r12 + v8) → V G mX6_goes 96 [(0, RR 132), (1, II v1), (2, II v2), (3, II v3), (4, II v4), (5, II (iOr v5 w2)), (6, II (v6 + 1))] [] u15 Q)) : V G mX6_goes 216 [(0, RR 132), (1, II v1), (2, II v2), (3, II v3), (4, II v4), (5, II v5), (6, II v6), (7, II v7), (8, II v8)] [] t Q := by
  refine V_iload 5 rfl dX6_goes_216 rfl ?_
  refine V_iload 8 rfl dX6_goes_218 rfl ?_
  obtain ⟨q1, h⟩ := h
  have hj6 : ∀ w2 : Int, w2 = (if v8 ≤ 0 then 0 else iShl 1 v7) → V G mX6_goes 231 [(0, RR 132), (1, II v1), (2, II v2), (3, II v3), (4, II v4), (5, II v5), (6, II v6), (7, II v7), (8, II v8)] [II w2, II v5] t Q := by
    intro w2 e3
    have h := h w2 e3
    refine V_ior dX6_goes_231 rfl ?_
    refine V_istore (ls2 := [(0, RR 132), (1, II v1), (2, II v2), (3, II v3), (4, II v4), (5, II (iOr v5 w2)), (6, II v6), (7, II v7), (8, II v8)]) dX6_goes_232 rfl (by decide) rfl ?_
    refine V_aload_n 0 rfl dX6_goes_234 rfl ?_
    refine gX6_7 rfl kY132 rF132_0 dX6_goes_235 rfl ?_
    refine V_bipush (by decide) dX6_goes_238 rfl ?_
    refine V_bipush (by decide) dX6_goes_240 rfl ?_
    refine V_iload 7 rfl dX6_goes_242 rfl ?_
    refine V_imul dX6_goes_244 rfl ?_
    refine V_iadd dX6_goes_245 rfl ?_
    refine V_iconst dX6_goes_246 rfl ?_
    refine V_iadd dX6_goes_247 rfl ?_
    refine V_iload 8 rfl dX6_goes_248 rfl ?_
    refine V_if_le q1 dX6_goes_250 (g := 266) rfl rfl ⟨fun hc => ?_, fun hc => ?_⟩
    · have h := h.1 hc
      refine V_iconst dX6_goes_266 rfl ?_
      obtain ⟨q9, h⟩ := h
      refine V_iastn kY133 lI133 q9 dX6_goes_267 rfl (fun u7 e8 => ?_)
      have h := h u7 e8
      refine V_iinc 6 rfl (ls2 := [(0, RR 132), (1, II v1), (2, II v2), (3, II v3), (4, II v4), (5, II (iOr v5 w2)), (6, II (v6 + 1)), (7, II v7), (8, II v8)]) dX6_goes_268 rfl (by decide) rfl ?_
      refine V_goto (g := 96) dX6_goes_271 rfl ?_
      exact V_sub (by intro q hq; simp only [List.mem_cons, List.not_mem_nil, or_false] at hq ⊢; first | (rcases hq with rfl | rfl | rfl | rfl | rfl | rfl | rfl <;> simp)) h
    · have h := h.2 hc
      refine V_aload_n 0 rfl dX6_goes_253 rfl ?_
      refine V_iload 7 rfl dX6_goes_254 rfl ?_
      refine V_iconst dX6_goes_256 rfl ?_
      obtain ⟨P10, c11, h⟩ := h
      refine V_callVi (st := [II ((14 + (7 * v7)) + 5), RR 133]) (as := [II v7, II 5]) okX6_at rfl mlX6_55 (by decide) kY132 rfl (Nat.le_of_ble_eq_true rfl) rfl dX6_goes_257 rfl c11 (fun r12 u13 e14 => ?_)
      have h := h r12 u13 e14
      refine V_iload 8 rfl dX6_goes_260 rfl ?_
      refine V_iadd dX6_goes_262 rfl ?_
      refine V_goto (g := 267) dX6_goes_263 rfl ?_
      obtain ⟨q17, h⟩ := h
      refine V_iastn kY133 lI133 q17 dX6_goes_267 rfl (fun u15 e16 => ?_)
      have h := h u15 e16
      refine V_iinc 6 rfl (ls2 := [(0, RR 132), (1, II v1), (2, II v2), (3, II v3), (4, II v4), (5, II (iOr v5 w2)), (6, II (v6 + 1)), (7, II v7), (8, II v8)]) dX6_goes_268 rfl (by decide) rfl ?_
      refine V_goto (g := 96) dX6_goes_271 rfl ?_
      exact V_sub (by intro q hq; simp only [List.mem_cons, List.not_mem_nil, or_false] at hq ⊢; first | (rcases hq with rfl | rfl | rfl | rfl | rfl | rfl | rfl <;> simp)) h
  have hj6 := hj6 _ rfl
  refine V_if_le q1 dX6_goes_220 (g := 230) rfl rfl ⟨fun hc => ?_, fun hc => ?_⟩
  · skip
    refine V_iconst dX6_goes_230 rfl ?_
    rw [if_pos hc] at hj6
    exact hj6
  · skip
    refine V_iconst dX6_goes_223 rfl ?_
    refine V_iload 7 rfl dX6_goes_224 rfl ?_
    refine V_ishl dX6_goes_226 rfl ?_
    refine V_goto (g := 231) dX6_goes_227 rfl ?_
    rw [if_neg hc] at hj6
    exact hj6
set_option maxRecDepth 100000 in
theorem sgX6_goes_277 {G : GG} {Q : Int → Mem → Prop} {t : Mem} {v1 v2 v3 v4 v5 v6 : Int}  (h : In32 v6 ∧ In32 (t 133 12) ∧ ((t 133 12) ≤ v6 → In32 (t 133 9) ∧ ∀ u9 : Mem, u9 = wr t 133 9 ((t 133 9) - (if (t 133 9) ≤ 0 then 0 else 1)) → ∀ u11 : Mem, u11 = wr u9 133 11 ((u9 133 11) + 1) → Q v4 u11) ∧ (¬ (t 133 12) ≤ v6 → (0 ≤ (14 + (7 * v6)) + 6 ∧ (14 + (7 * v6)) + 6 < 63) ∧ In32 (t 133 ((14 + (7 * v6)) + 6).toNat) ∧ ∀ u20 : Mem, u20 = wr t 133 ((14 + (7 * v6)) + 6).toNat ((t 133 ((14 + (7 * v6)) + 6).toNat) - (if (t 133 ((14 + (7 * v6)) + 6).toNat) ≤ 0 then 0 else 1)) → (0 ≤ 14 + (7 * v6) ∧ 14 + (7 * v6) < 63) ∧ In32 (u20 133 (14 + (7 * v6)).toNat) ∧ (¬ (u20 133 (14 + (7 * v6)).toNat) = 3 → V G mX6_goes 277 [(0, RR 132), (1, II v1), (2, II v2), (3, II v3), (4, II v4), (5, II v5), (6, II (v6 + 1))] [] u20 Q) ∧ ((u20 133 (14 + (7 * v6)).toNat) = 3 → (0 ≤ (14 + (7 * v6)) + 5 ∧ (14 + (7 * v6)) + 5 < 63) ∧ In32 (u20 133 ((14 + (7 * v6)) + 5).toNat) ∧ ((u20 133 ((14 + (7 * v6)) + 5).toNat) < 12 → V G mX6_goes 277 [(0, RR 132), (1, II v1), (2, II v2), (3, II v3), (4, II v4), (5, II v5), (6, II (v6 + 1))] [] u20 Q) ∧ (¬ (u20 133 ((14 + (7 * v6)) + 5).toNat) < 12 → ∀ u26 : Mem, u26 = wr u20 133 ((14 + (7 * v6)) + 5).toNat 0 → ∀ u28 : Mem, u28 = wr u26 133 ((14 + (7 * v6)) + 6).toNat 5 → V G mX6_goes 277 [(0, RR 132), (1, II v1), (2, II v2), (3, II v3), (4, II v4), (5, II v5), (6, II (v6 + 1))] [] u28 Q)))) : V G mX6_goes 277 [(0, RR 132), (1, II v1), (2, II v2), (3, II v3), (4, II v4), (5, II v5), (6, II v6)] [] t Q := by
  refine V_iload 6 rfl dX6_goes_277 rfl ?_
  refine V_aload_n 0 rfl dX6_goes_279 rfl ?_
  refine gX6_7 rfl kY132 rF132_0 dX6_goes_280 rfl ?_
  refine V_bipush (by decide) dX6_goes_283 rfl ?_
  refine V_ialdL 12 rfl kY133 lI133 rfl dX6_goes_285 rfl ?_
  obtain ⟨q1, h⟩ := h
  obtain ⟨q2, h⟩ := h
  refine V_icmp_ge q1 q2 dX6_goes_286 (g := 382) rfl rfl ⟨fun hc => ?_, fun hc => ?_⟩
  · have h := h.1 hc
    refine V_aload_n 0 rfl dX6_goes_382 rfl ?_
    refine gX6_7 rfl kY132 rF132_0 dX6_goes_383 rfl ?_
    refine V_bipush (by decide) dX6_goes_386 rfl ?_
    refine V_dup2 rfl rfl dX6_goes_388 rfl ?_
    refine V_ialdL 9 rfl kY133 lI133 rfl dX6_goes_389 rfl ?_
    refine V_aload_n 0 rfl dX6_goes_390 rfl ?_
    refine gX6_7 rfl kY132 rF132_0 dX6_goes_391 rfl ?_
    refine V_bipush (by decide) dX6_goes_394 rfl ?_
    refine V_ialdL 9 rfl kY133 lI133 rfl dX6_goes_396 rfl ?_
    obtain ⟨q3, h⟩ := h
    have hj8 : V G mX6_goes 405 [(0, RR 132), (1, II v1), (2, II v2), (3, II v3), (4, II v4), (5, II v5), (6, II v6)] [II (if (t 133 9) ≤ 0 then 0 else 1), II (t 133 9), II 9, RR 133] t Q := by
      refine V_isub dX6_goes_405 rfl ?_
      refine V_iastL 9 rfl kY133 lI133 rfl dX6_goes_406 rfl (fun u9 e10 => ?_)
      have h := h u9 e10
      refine V_aload_n 0 rfl dX6_goes_407 rfl ?_
      refine gX6_7 rfl kY132 rF132_0 dX6_goes_408 rfl ?_
      refine V_bipush (by decide) dX6_goes_411 rfl ?_
      refine V_dup2 rfl rfl dX6_goes_413 rfl ?_
      refine V_ialdL 11 rfl kY133 lI133 rfl dX6_goes_414 rfl ?_
      refine V_iconst dX6_goes_415 rfl ?_
      refine V_iadd dX6_goes_416 rfl ?_
      refine V_iastL 11 rfl kY133 lI133 rfl dX6_goes_417 rfl (fun u11 e12 => ?_)
      have h := h u11 e12
      refine V_iload 4 rfl dX6_goes_418 rfl ?_
      exact V_iret dX6_goes_420 (Or.inl rfl) h
    refine V_if_le q3 dX6_goes_397 (g := 404) rfl rfl ⟨fun hc => ?_, fun hc => ?_⟩
    · skip
      refine V_iconst dX6_goes_404 rfl ?_
      rw [if_pos hc] at hj8
      exact hj8
    · skip
      refine V_iconst dX6_goes_400 rfl ?_
      refine V_goto (g := 405) dX6_goes_401 rfl ?_
      rw [if_neg hc] at hj8
      exact hj8
  · have h := h.2 hc
    refine V_bipush (by decide) dX6_goes_289 rfl ?_
    refine V_bipush (by decide) dX6_goes_291 rfl ?_
    refine V_iload 6 rfl dX6_goes_293 rfl ?_
    refine V_imul dX6_goes_295 rfl ?_
    refine V_iadd dX6_goes_296 rfl ?_
    refine V_istore (ls2 := [(0, RR 132), (1, II v1), (2, II v2), (3, II v3), (4, II v4), (5, II v5), (6, II v6), (7, II (14 + (7 * v6)))]) dX6_goes_297 rfl (by decide) rfl ?_
    refine V_aload_n 0 rfl dX6_goes_299 rfl ?_
    refine gX6_7 rfl kY132 rF132_0 dX6_goes_300 rfl ?_
    refine V_iload 7 rfl dX6_goes_303 rfl ?_
    refine V_bipush (by decide) dX6_goes_305 rfl ?_
    refine V_iadd dX6_goes_307 rfl ?_
    refine V_dup2 rfl rfl dX6_goes_308 rfl ?_
    obtain ⟨q13, h⟩ := h
    refine V_ialdn kY133 lI133 q13 dX6_goes_309 rfl ?_
    refine V_aload_n 0 rfl dX6_goes_310 rfl ?_
    refine gX6_7 rfl kY132 rF132_0 dX6_goes_311 rfl ?_
    refine V_iload 7 rfl dX6_goes_314 rfl ?_
    refine V_bipush (by decide) dX6_goes_316 rfl ?_
    refine V_iadd dX6_goes_318 rfl ?_
    refine V_ialdn kY133 lI133 q13 dX6_goes_319 rfl ?_
    obtain ⟨q14, h⟩ := h
    have hj19 : V G mX6_goes 328 [(0, RR 132), (1, II v1), (2, II v2), (3, II v3), (4, II v4), (5, II v5), (6, II v6), (7, II (14 + (7 * v6)))] [II (if (t 133 ((14 + (7 * v6)) + 6).toNat) ≤ 0 then 0 else 1), II (t 133 ((14 + (7 * v6)) + 6).toNat), II ((14 + (7 * v6)) + 6), RR 133] t Q := by
      refine V_isub dX6_goes_328 rfl ?_
      refine V_iastn kY133 lI133 q13 dX6_goes_329 rfl (fun u20 e21 => ?_)
      have h := h u20 e21
      refine V_aload_n 0 rfl dX6_goes_330 rfl ?_
      refine gX6_7 rfl kY132 rF132_0 dX6_goes_331 rfl ?_
      refine V_iload 7 rfl dX6_goes_334 rfl ?_
      obtain ⟨q22, h⟩ := h
      refine V_ialdn kY133 lI133 q22 dX6_goes_336 rfl ?_
      refine V_iconst dX6_goes_337 rfl ?_
      obtain ⟨q23, h⟩ := h
      refine V_icmp_ne q23 (iL rfl) dX6_goes_338 (g := 376) rfl rfl ⟨fun hc => ?_, fun hc => ?_⟩
      · have h := h.1 hc
        refine V_iinc 6 rfl (ls2 := [(0, RR 132), (1, II v1), (2, II v2), (3, II v3), (4, II v4), (5, II v5), (6, II (v6 + 1)), (7, II (14 + (7 * v6)))]) dX6_goes_376 rfl (by decide) rfl ?_
        refine V_goto (g := 277) dX6_goes_379 rfl ?_
        exact V_sub (by intro q hq; simp only [List.mem_cons, List.not_mem_nil, or_false] at hq ⊢; first | (rcases hq with rfl | rfl | rfl | rfl | rfl | rfl | rfl <;> simp)) h
      · have h := h.2 hc
        refine V_aload_n 0 rfl dX6_goes_341 rfl ?_
        refine gX6_7 rfl kY132 rF132_0 dX6_goes_342 rfl ?_
        refine V_iload 7 rfl dX6_goes_345 rfl ?_
        refine V_iconst dX6_goes_347 rfl ?_
        refine V_iadd dX6_goes_348 rfl ?_
        obtain ⟨q24, h⟩ := h
        refine V_ialdn kY133 lI133 q24 dX6_goes_349 rfl ?_
        refine V_bipush (by decide) dX6_goes_350 rfl ?_
        obtain ⟨q25, h⟩ := h
        refine V_icmp_lt q25 (iL rfl) dX6_goes_352 (g := 376) rfl rfl ⟨fun hc => ?_, fun hc => ?_⟩
        · have h := h.1 hc
          refine V_iinc 6 rfl (ls2 := [(0, RR 132), (1, II v1), (2, II v2), (3, II v3), (4, II v4), (5, II v5), (6, II (v6 + 1)), (7, II (14 + (7 * v6)))]) dX6_goes_376 rfl (by decide) rfl ?_
          refine V_goto (g := 277) dX6_goes_379 rfl ?_
          exact V_sub (by intro q hq; simp only [List.mem_cons, List.not_mem_nil, or_false] at hq ⊢; first | (rcases hq with rfl | rfl | rfl | rfl | rfl | rfl | rfl <;> simp)) h
        · have h := h.2 hc
          refine V_aload_n 0 rfl dX6_goes_355 rfl ?_
          refine gX6_7 rfl kY132 rF132_0 dX6_goes_356 rfl ?_
          refine V_iload 7 rfl dX6_goes_359 rfl ?_
          refine V_iconst dX6_goes_361 rfl ?_
          refine V_iadd dX6_goes_362 rfl ?_
          refine V_iconst dX6_goes_363 rfl ?_
          refine V_iastn kY133 lI133 q24 dX6_goes_364 rfl (fun u26 e27 => ?_)
          have h := h u26 e27
          refine V_aload_n 0 rfl dX6_goes_365 rfl ?_
          refine gX6_7 rfl kY132 rF132_0 dX6_goes_366 rfl ?_
          refine V_iload 7 rfl dX6_goes_369 rfl ?_
          refine V_bipush (by decide) dX6_goes_371 rfl ?_
          refine V_iadd dX6_goes_373 rfl ?_
          refine V_iconst dX6_goes_374 rfl ?_
          refine V_iastn kY133 lI133 q13 dX6_goes_375 rfl (fun u28 e29 => ?_)
          have h := h u28 e29
          refine V_iinc 6 rfl (ls2 := [(0, RR 132), (1, II v1), (2, II v2), (3, II v3), (4, II v4), (5, II v5), (6, II (v6 + 1)), (7, II (14 + (7 * v6)))]) dX6_goes_376 rfl (by decide) rfl ?_
          refine V_goto (g := 277) dX6_goes_379 rfl ?_
          exact V_sub (by intro q hq; simp only [List.mem_cons, List.not_mem_nil, or_false] at hq ⊢; first | (rcases hq with rfl | rfl | rfl | rfl | rfl | rfl | rfl <;> simp)) h
    refine V_if_le q14 dX6_goes_320 (g := 327) rfl rfl ⟨fun hc => ?_, fun hc => ?_⟩
    · skip
      refine V_iconst dX6_goes_327 rfl ?_
      rw [if_pos hc] at hj19
      exact hj19
    · skip
      refine V_iconst dX6_goes_323 rfl ?_
      refine V_goto (g := 328) dX6_goes_324 rfl ?_
      rw [if_neg hc] at hj19
      exact hj19
theorem eX6_notes {G : GG} {Q : Int → Mem → Prop} {t : Mem} (k : V G mX6_notes 0 [(0, RR 132)] [] t Q) : Ex G mX6_notes [RR 132] t Q := Ex.of plX6 (Or.inl rfl) (Nat.le_of_ble_eq_true rfl) rfl k
set_option maxRecDepth 100000 in
theorem sgX6_notes_0 {G : GG} {Q : Int → Mem → Prop} {t : Mem}  (h : In32 (t 132 5) ∧ (¬ (t 132 5) = 8 → V G mX6_notes 48 [(0, RR 132), (1, II 0)] [] t Q) ∧ ((t 132 5) = 8 → V G mX6_notes 12 [(0, RR 132), (1, II 63)] [] t Q)) : V G mX6_notes 0 [(0, RR 132)] [] t Q := by
  refine V_aload_n 0 rfl dX6_notes_0 rfl ?_
  refine gX6_74 rfl kY132 dX6_notes_1 rfl ?_
  refine V_bipush (by decide) dX6_notes_4 rfl ?_
  obtain ⟨q1, h⟩ := h
  refine V_icmp_ne q1 (iL rfl) dX6_notes_6 (g := 46) rfl rfl ⟨fun hc => ?_, fun hc => ?_⟩
  · have h := h.1 hc
    refine V_iconst dX6_notes_46 rfl ?_
    refine V_istore_n (ls2 := [(0, RR 132), (1, II 0)]) dX6_notes_47 rfl (by decide) rfl ?_
    exact h
  · have h := h.2 hc
    refine V_bipush (by decide) dX6_notes_9 rfl ?_
    refine V_istore_n (ls2 := [(0, RR 132), (1, II 63)]) dX6_notes_11 rfl (by decide) rfl ?_
    exact h
set_option maxRecDepth 100000 in
theorem sgX6_notes_12 {G : GG} {Q : Int → Mem → Prop} {t : Mem} {v1 : Int}  (h : In32 v1 ∧ (504 ≤ v1 → ∀ u2 : Mem, u2 = wr t 132 5 7 → V G mX6_notes 48 [(0, RR 132), (1, II 0)] [] u2 Q) ∧ (¬ 504 ≤ v1 → (0 ≤ v1 ∧ v1 < 504) ∧ (0 ≤ v1 - 63 ∧ v1 - 63 < 504) ∧ ∀ u5 : Mem, u5 = wr t 135 (v1 - 63).toNat (t 135 v1.toNat) → V G mX6_notes 12 [(0, RR 132), (1, II (v1 + 1))] [] u5 Q)) : V G mX6_notes 12 [(0, RR 132), (1, II v1)] [] t Q := by
  refine V_iload_n 1 rfl dX6_notes_12 rfl ?_
  refine V_sipush (by decide) dX6_notes_13 rfl ?_
  obtain ⟨q1, h⟩ := h
  refine V_icmp_ge q1 (iL rfl) dX6_notes_16 (g := 40) rfl rfl ⟨fun hc => ?_, fun hc => ?_⟩
  · have h := h.1 hc
    refine V_aload_n 0 rfl dX6_notes_40 rfl ?_
    refine V_bipush (by decide) dX6_notes_41 rfl ?_
    refine pX6_74 rfl kY132 dX6_notes_43 rfl (fun u2 e3 => ?_)
    have h := h u2 e3
    refine V_iconst dX6_notes_46 rfl ?_
    refine V_istore_n (ls2 := [(0, RR 132), (1, II 0)]) dX6_notes_47 rfl (by decide) rfl ?_
    exact h
  · have h := h.2 hc
    refine V_aload_n 0 rfl dX6_notes_19 rfl ?_
    refine gX6_20 rfl kY132 rF132_4 dX6_notes_20 rfl ?_
    refine V_iload_n 1 rfl dX6_notes_23 rfl ?_
    refine V_bipush (by decide) dX6_notes_24 rfl ?_
    refine V_isub dX6_notes_26 rfl ?_
    refine V_aload_n 0 rfl dX6_notes_27 rfl ?_
    refine gX6_20 rfl kY132 rF132_4 dX6_notes_28 rfl ?_
    refine V_iload_n 1 rfl dX6_notes_31 rfl ?_
    obtain ⟨q4, h⟩ := h
    refine V_ialdn kY135 lI135 q4 dX6_notes_32 rfl ?_
    obtain ⟨q7, h⟩ := h
    refine V_iastn kY135 lI135 q7 dX6_notes_33 rfl (fun u5 e6 => ?_)
    have h := h u5 e6
    refine V_iinc 1 rfl (ls2 := [(0, RR 132), (1, II (v1 + 1))]) dX6_notes_34 rfl (by decide) rfl ?_
    refine V_goto (g := 12) dX6_notes_37 rfl ?_
    exact h
set_option maxRecDepth 100000 in
theorem sgX6_notes_48 {G : GG} {Q : Int → Mem → Prop} {t : Mem} {v1 : Int}  (h : In32 v1 ∧ (63 ≤ v1 → ∀ u2 : Mem, u2 = wr t 132 5 ((t 132 5) + 1) → Q 0 u2) ∧ (¬ 63 ≤ v1 → (0 ≤ v1 ∧ v1 < 63) ∧ (0 ≤ (63 * (t 132 5)) + v1 ∧ (63 * (t 132 5)) + v1 < 504) ∧ ∀ u5 : Mem, u5 = wr t 135 ((63 * (t 132 5)) + v1).toNat (t 133 v1.toNat) → V G mX6_notes 48 [(0, RR 132), (1, II (v1 + 1))] [] u5 Q)) : V G mX6_notes 48 [(0, RR 132), (1, II v1)] [] t Q := by
  refine V_iload_n 1 rfl dX6_notes_48 rfl ?_
  refine V_bipush (by decide) dX6_notes_49 rfl ?_
  obtain ⟨q1, h⟩ := h
  refine V_icmp_ge q1 (iL rfl) dX6_notes_51 (g := 80) rfl rfl ⟨fun hc => ?_, fun hc => ?_⟩
  · have h := h.1 hc
    refine V_aload_n 0 rfl dX6_notes_80 rfl ?_
    refine V_dup rfl dX6_notes_81 rfl ?_
    refine gX6_74 rfl kY132 dX6_notes_82 rfl ?_
    refine V_iconst dX6_notes_85 rfl ?_
    refine V_iadd dX6_notes_86 rfl ?_
    refine pX6_74 rfl kY132 dX6_notes_87 rfl (fun u2 e3 => ?_)
    have h := h u2 e3
    exact V_ret dX6_notes_90 rfl h
  · have h := h.2 hc
    refine V_aload_n 0 rfl dX6_notes_54 rfl ?_
    refine gX6_20 rfl kY132 rF132_4 dX6_notes_55 rfl ?_
    refine V_bipush (by decide) dX6_notes_58 rfl ?_
    refine V_aload_n 0 rfl dX6_notes_60 rfl ?_
    refine gX6_74 rfl kY132 dX6_notes_61 rfl ?_
    refine V_imul dX6_notes_64 rfl ?_
    refine V_iload_n 1 rfl dX6_notes_65 rfl ?_
    refine V_iadd dX6_notes_66 rfl ?_
    refine V_aload_n 0 rfl dX6_notes_67 rfl ?_
    refine gX6_7 rfl kY132 rF132_0 dX6_notes_68 rfl ?_
    refine V_iload_n 1 rfl dX6_notes_71 rfl ?_
    obtain ⟨q4, h⟩ := h
    refine V_ialdn kY133 lI133 q4 dX6_notes_72 rfl ?_
    obtain ⟨q7, h⟩ := h
    refine V_iastn kY135 lI135 q7 dX6_notes_73 rfl (fun u5 e6 => ?_)
    have h := h u5 e6
    refine V_iinc 1 rfl (ls2 := [(0, RR 132), (1, II (v1 + 1))]) dX6_notes_74 rfl (by decide) rfl ?_
    refine V_goto (g := 48) dX6_notes_77 rfl ?_
    exact h
theorem eX6_gone {G : GG} {Q : Int → Mem → Prop} {t : Mem} {v1 v2 : Int} (k : V G mX6_gone 0 [(0, RR 132), (1, II v1), (2, II v2)] [] t Q) : Ex G mX6_gone [RR 132, II v1, II v2] t Q := Ex.of plX6 (Or.inr (Or.inl rfl)) (Nat.le_of_ble_eq_true rfl) rfl k
set_option maxRecDepth 100000 in
theorem sgX6_gone_0 {G : GG} {Q : Int → Mem → Prop} {t : Mem} {v1 v2 : Int}  (h : V G mX6_gone 5 [(0, RR 132), (1, II v1), (2, II v2), (3, II 0), (4, II 0)] [] t Q) : V G mX6_gone 0 [(0, RR 132), (1, II v1), (2, II v2)] [] t Q := by
  refine V_iconst dX6_gone_0 rfl ?_
  refine V_istore_n (ls2 := [(0, RR 132), (1, II v1), (2, II v2), (3, II 0)]) dX6_gone_1 rfl (by decide) rfl ?_
  refine V_iconst dX6_gone_2 rfl ?_
  refine V_istore (ls2 := [(0, RR 132), (1, II v1), (2, II v2), (3, II 0), (4, II 0)]) dX6_gone_3 rfl (by decide) rfl ?_
  exact h
set_option maxRecDepth 100000 in
theorem sgX6_gone_5 {G : GG} {Q : Int → Mem → Prop} {t : Mem} {v1 v2 v3 v4 : Int}  (h : In32 v4 ∧ In32 v1 ∧ (v1 ≤ v4 → Q v3 t) ∧ (¬ v1 ≤ v4 → ∃ P3 : Int → Mem → Prop, Ex G mX6_notes [RR 132] t P3 ∧ ∀ u6 : Mem, P3 0 u6 → ∃ P8 : Int → Mem → Prop, Ex G mX6_goes [RR 132, II v2, II 127] u6 P8 ∧ ∀ (r10 : Int) (u11 : Mem), P8 r10 u11 → V G mX6_gone 5 [(0, RR 132), (1, II v1), (2, II v2), (3, II (v3 + r10)), (4, II (v4 + 1))] [] u11 Q)) : V G mX6_gone 5 [(0, RR 132), (1, II v1), (2, II v2), (3, II v3), (4, II v4)] [] t Q := by
  refine V_iload 4 rfl dX6_gone_5 rfl ?_
  refine V_iload_n 1 rfl dX6_gone_7 rfl ?_
  obtain ⟨q1, h⟩ := h
  obtain ⟨q2, h⟩ := h
  refine V_icmp_ge q1 q2 dX6_gone_8 (g := 31) rfl rfl ⟨fun hc => ?_, fun hc => ?_⟩
  · have h := h.1 hc
    refine V_iload_n 3 rfl dX6_gone_31 rfl ?_
    exact V_iret dX6_gone_32 (Or.inl rfl) h
  · have h := h.2 hc
    refine V_aload_n 0 rfl dX6_gone_11 rfl ?_
    obtain ⟨P3, c4, h⟩ := h
    refine V_callVv (st := []) (as := []) okX6_notes rfl mlX6_121 (by decide) kY132 rfl (Nat.le_of_ble_eq_true rfl) rfl dX6_gone_12 rfl c4 (fun u6 e7 => ?_)
    have h := h u6 e7
    refine V_iload_n 3 rfl dX6_gone_15 rfl ?_
    refine V_aload_n 0 rfl dX6_gone_16 rfl ?_
    refine V_iload_n 2 rfl dX6_gone_17 rfl ?_
    refine V_bipush (by decide) dX6_gone_18 rfl ?_
    obtain ⟨P8, c9, h⟩ := h
    refine V_callVi (st := [II v3]) (as := [II v2, II 127]) okX6_goes rfl mlX6_124 (by decide) kY132 rfl (Nat.le_of_ble_eq_true rfl) rfl dX6_gone_20 rfl c9 (fun r10 u11 e12 => ?_)
    have h := h r10 u11 e12
    refine V_iadd dX6_gone_23 rfl ?_
    refine V_istore_n (ls2 := [(0, RR 132), (1, II v1), (2, II v2), (3, II (v3 + r10)), (4, II v4)]) dX6_gone_24 rfl (by decide) rfl ?_
    refine V_iinc 4 rfl (ls2 := [(0, RR 132), (1, II v1), (2, II v2), (3, II (v3 + r10)), (4, II (v4 + 1))]) dX6_gone_25 rfl (by decide) rfl ?_
    refine V_goto (g := 5) dX6_gone_28 rfl ?_
    exact h
theorem eX6_minutes {G : GG} {Q : Int → Mem → Prop} {t : Mem} {v1 : Int} (k : V G mX6_minutes 0 [(0, RR 132), (1, II v1)] [] t Q) : Ex G mX6_minutes [RR 132, II v1] t Q := Ex.of plX6 (Or.inr (Or.inl rfl)) (Nat.le_of_ble_eq_true rfl) rfl k
set_option maxRecDepth 100000 in
theorem sgX6_minutes_0 {G : GG} {Q : Int → Mem → Prop} {t : Mem} {v1 : Int}  (h : In32 v1 ∧ ∃ P2 : Int → Mem → Prop, Ex G mX6_in [JJ v1, JJ 1, JJ 60] t P2 ∧ ∀ (r4 : Int) (u5 : Mem), P2 r4 u5 → In32 r4 ∧ (¬ r4 = 0 → In32 ((u5 133 11) + v1) ∧ (((u5 133 11) + v1) ≤ 9999 → ∃ P9 : Int → Mem → Prop, Ex G mX6_gone [RR 132, II v1, II 0] u5 P9 ∧ ∀ (r11 : Int) (u12 : Mem), P9 r11 u12 → Q r11 u12) ∧ (¬ ((u5 133 11) + v1) ≤ 9999 → Q (-3) u5)) ∧ (r4 = 0 → Q (-1) u5)) : V G mX6_minutes 0 [(0, RR 132), (1, II v1)] [] t Q := by
  refine V_iload_n 1 rfl dX6_minutes_0 rfl ?_
  obtain ⟨q1, h⟩ := h
  refine V_i2l q1 dX6_minutes_1 rfl ?_
  refine V_lconst (z := 1) rfl dX6_minutes_2 rfl ?_
  refine V_ldc2 (x := 60) ctX6_128 rfl dX6_minutes_3 rfl ?_
  obtain ⟨P2, c3, h⟩ := h
  refine V_callSi (st := []) (as := [JJ v1, JJ 1, JJ 60]) okX6_in rfl mlX6_51 (by decide) rfl (Nat.le_of_ble_eq_true rfl) rfl dX6_minutes_6 rfl c3 (fun r4 u5 e6 => ?_)
  have h := h r4 u5 e6
  obtain ⟨q7, h⟩ := h
  refine V_if_ne q7 dX6_minutes_9 (g := 14) rfl rfl ⟨fun hc => ?_, fun hc => ?_⟩
  · have h := h.1 hc
    refine V_aload_n 0 rfl dX6_minutes_14 rfl ?_
    refine gX6_7 rfl kY132 rF132_0 dX6_minutes_15 rfl ?_
    refine V_bipush (by decide) dX6_minutes_18 rfl ?_
    refine V_ialdL 11 rfl kY133 lI133 rfl dX6_minutes_20 rfl ?_
    refine V_iload_n 1 rfl dX6_minutes_21 rfl ?_
    refine V_iadd dX6_minutes_22 rfl ?_
    refine V_sipush (by decide) dX6_minutes_23 rfl ?_
    obtain ⟨q8, h⟩ := h
    refine V_icmp_le q8 (iL rfl) dX6_minutes_26 (g := 34) rfl rfl ⟨fun hc => ?_, fun hc => ?_⟩
    · have h := h.1 hc
      refine V_aload_n 0 rfl dX6_minutes_34 rfl ?_
      refine V_iload_n 1 rfl dX6_minutes_35 rfl ?_
      refine V_iconst dX6_minutes_36 rfl ?_
      obtain ⟨P9, c10, h⟩ := h
      refine V_callVi (st := []) (as := [II v1, II 0]) okX6_gone rfl mlX6_130 (by decide) kY132 rfl (Nat.le_of_ble_eq_true rfl) rfl dX6_minutes_37 rfl c10 (fun r11 u12 e13 => ?_)
      have h := h r11 u12 e13
      exact V_iret dX6_minutes_40 (Or.inl rfl) h
    · have h := h.2 hc
      refine V_bipush (by decide) dX6_minutes_29 rfl ?_
      refine V_goto (g := 40) dX6_minutes_31 rfl ?_
      exact V_iret dX6_minutes_40 (Or.inl rfl) h
  · have h := h.2 hc
    refine V_iconst dX6_minutes_12 rfl ?_
    exact V_iret dX6_minutes_13 (Or.inl rfl) h
theorem eX6_drift {G : GG} {Q : Int → Mem → Prop} {t : Mem} {v1 : Int} (k : V G mX6_drift 0 [(0, RR 132), (1, II v1)] [] t Q) : Ex G mX6_drift [RR 132, II v1] t Q := Ex.of plX6 (Or.inr (Or.inl rfl)) (Nat.le_of_ble_eq_true rfl) rfl k
set_option maxRecDepth 100000 in
theorem sgX6_drift_0 {G : GG} {Q : Int → Mem → Prop} {t : Mem} {v1 : Int}  (h : In32 v1 ∧ ∃ P2 : Int → Mem → Prop, Ex G mX6_in [JJ v1, JJ 1, JJ 60] t P2 ∧ ∀ (r4 : Int) (u5 : Mem), P2 r4 u5 → In32 r4 ∧ (¬ r4 = 0 → In32 ((u5 133 11) + v1) ∧ (((u5 133 11) + v1) ≤ 9999 → ∀ u9 : Mem, u9 = wr u5 132 3 0 → ∃ P11 : Int → Mem → Prop, Ex G mX6_gone [RR 132, II v1, II 1] u9 P11 ∧ ∀ (r13 : Int) (u14 : Mem), P11 r13 u14 → Q (u14 132 3) u14) ∧ (¬ ((u5 133 11) + v1) ≤ 9999 → Q (-3) u5)) ∧ (r4 = 0 → Q (-1) u5)) : V G mX6_drift 0 [(0, RR 132), (1, II v1)] [] t Q := by
  refine V_iload_n 1 rfl dX6_drift_0 rfl ?_
  obtain ⟨q1, h⟩ := h
  refine V_i2l q1 dX6_drift_1 rfl ?_
  refine V_lconst (z := 1) rfl dX6_drift_2 rfl ?_
  refine V_ldc2 (x := 60) ctX6_128 rfl dX6_drift_3 rfl ?_
  obtain ⟨P2, c3, h⟩ := h
  refine V_callSi (st := []) (as := [JJ v1, JJ 1, JJ 60]) okX6_in rfl mlX6_51 (by decide) rfl (Nat.le_of_ble_eq_true rfl) rfl dX6_drift_6 rfl c3 (fun r4 u5 e6 => ?_)
  have h := h r4 u5 e6
  obtain ⟨q7, h⟩ := h
  refine V_if_ne q7 dX6_drift_9 (g := 14) rfl rfl ⟨fun hc => ?_, fun hc => ?_⟩
  · have h := h.1 hc
    refine V_aload_n 0 rfl dX6_drift_14 rfl ?_
    refine gX6_7 rfl kY132 rF132_0 dX6_drift_15 rfl ?_
    refine V_bipush (by decide) dX6_drift_18 rfl ?_
    refine V_ialdL 11 rfl kY133 lI133 rfl dX6_drift_20 rfl ?_
    refine V_iload_n 1 rfl dX6_drift_21 rfl ?_
    refine V_iadd dX6_drift_22 rfl ?_
    refine V_sipush (by decide) dX6_drift_23 rfl ?_
    obtain ⟨q8, h⟩ := h
    refine V_icmp_le q8 (iL rfl) dX6_drift_26 (g := 32) rfl rfl ⟨fun hc => ?_, fun hc => ?_⟩
    · have h := h.1 hc
      refine V_aload_n 0 rfl dX6_drift_32 rfl ?_
      refine V_iconst dX6_drift_33 rfl ?_
      refine pX6_111 rfl kY132 dX6_drift_34 rfl (fun u9 e10 => ?_)
      have h := h u9 e10
      refine V_aload_n 0 rfl dX6_drift_37 rfl ?_
      refine V_iload_n 1 rfl dX6_drift_38 rfl ?_
      refine V_iconst dX6_drift_39 rfl ?_
      obtain ⟨P11, c12, h⟩ := h
      refine V_callVi (st := []) (as := [II v1, II 1]) okX6_gone rfl mlX6_130 (by decide) kY132 rfl (Nat.le_of_ble_eq_true rfl) rfl dX6_drift_40 rfl c12 (fun r13 u14 e15 => ?_)
      have h := h r13 u14 e15
      refine V_pop rfl dX6_drift_43 rfl ?_
      refine V_aload_n 0 rfl dX6_drift_44 rfl ?_
      refine gX6_111 rfl kY132 dX6_drift_45 rfl ?_
      exact V_iret dX6_drift_48 (Or.inl rfl) h
    · have h := h.2 hc
      refine V_bipush (by decide) dX6_drift_29 rfl ?_
      exact V_iret dX6_drift_31 (Or.inl rfl) h
  · have h := h.2 hc
    refine V_iconst dX6_drift_12 rfl ?_
    exact V_iret dX6_drift_13 (Or.inl rfl) h
theorem eX6_undo {G : GG} {Q : Int → Mem → Prop} {t : Mem} (k : V G mX6_undo 0 [(0, RR 132)] [] t Q) : Ex G mX6_undo [RR 132] t Q := Ex.of plX6 (Or.inr (Or.inl rfl)) (Nat.le_of_ble_eq_true rfl) rfl k
set_option maxRecDepth 100000 in
theorem sgX6_undo_0 {G : GG} {Q : Int → Mem → Prop} {t : Mem}  (h : In32 (t 132 5) ∧ (¬ (t 132 5) = 0 → ∀ u2 : Mem, u2 = wr t 132 5 ((t 132 5) - 1) → (0 ≤ (63 * (u2 132 5)) + 0 ∧ (63 * (u2 132 5)) + 0 < 504) ∧ ∀ u5 : Mem, u5 = wr u2 133 0 (u2 135 ((63 * (u2 132 5)) + 0).toNat) → (0 ≤ (63 * (u2 132 5)) + 7 ∧ (63 * (u2 132 5)) + 7 < 504) ∧ ∀ u8 : Mem, u8 = wr u5 133 7 (u5 135 ((63 * (u2 132 5)) + 7).toNat) → (0 ≤ (63 * (u2 132 5)) + 8 ∧ (63 * (u2 132 5)) + 8 < 504) ∧ ∀ u11 : Mem, u11 = wr u8 133 8 (u8 135 ((63 * (u2 132 5)) + 8).toNat) → (0 ≤ (63 * (u2 132 5)) + 9 ∧ (63 * (u2 132 5)) + 9 < 504) ∧ ∀ u14 : Mem, u14 = wr u11 133 9 (u11 135 ((63 * (u2 132 5)) + 9).toNat) → (0 ≤ (63 * (u2 132 5)) + 11 ∧ (63 * (u2 132 5)) + 11 < 504) ∧ ∀ u17 : Mem, u17 = wr u14 133 11 (u14 135 ((63 * (u2 132 5)) + 11).toNat) → (0 ≤ (63 * (u2 132 5)) + 13 ∧ (63 * (u2 132 5)) + 13 < 504) ∧ ∀ u20 : Mem, u20 = wr u17 133 13 (u17 135 ((63 * (u2 132 5)) + 13).toNat) → V G mX6_undo 124 [(0, RR 132), (1, II (63 * (u2 132 5))), (2, II 0)] [] u20 Q) ∧ ((t 132 5) = 0 → Q (-4) t)) : V G mX6_undo 0 [(0, RR 132)] [] t Q := by
  refine V_aload_n 0 rfl dX6_undo_0 rfl ?_
  refine gX6_74 rfl kY132 dX6_undo_1 rfl ?_
  obtain ⟨q1, h⟩ := h
  refine V_if_ne q1 dX6_undo_4 (g := 10) rfl rfl ⟨fun hc => ?_, fun hc => ?_⟩
  · have h := h.1 hc
    refine V_aload_n 0 rfl dX6_undo_10 rfl ?_
    refine V_dup rfl dX6_undo_11 rfl ?_
    refine gX6_74 rfl kY132 dX6_undo_12 rfl ?_
    refine V_iconst dX6_undo_15 rfl ?_
    refine V_isub dX6_undo_16 rfl ?_
    refine pX6_74 rfl kY132 dX6_undo_17 rfl (fun u2 e3 => ?_)
    have h := h u2 e3
    refine V_bipush (by decide) dX6_undo_20 rfl ?_
    refine V_aload_n 0 rfl dX6_undo_22 rfl ?_
    refine gX6_74 rfl kY132 dX6_undo_23 rfl ?_
    refine V_imul dX6_undo_26 rfl ?_
    refine V_istore_n (ls2 := [(0, RR 132), (1, II (63 * (u2 132 5)))]) dX6_undo_27 rfl (by decide) rfl ?_
    refine V_aload_n 0 rfl dX6_undo_28 rfl ?_
    refine gX6_7 rfl kY132 rF132_0 dX6_undo_29 rfl ?_
    refine V_iconst dX6_undo_32 rfl ?_
    refine V_aload_n 0 rfl dX6_undo_33 rfl ?_
    refine gX6_20 rfl kY132 rF132_4 dX6_undo_34 rfl ?_
    refine V_iload_n 1 rfl dX6_undo_37 rfl ?_
    refine V_iconst dX6_undo_38 rfl ?_
    refine V_iadd dX6_undo_39 rfl ?_
    obtain ⟨q4, h⟩ := h
    refine V_ialdn kY135 lI135 q4 dX6_undo_40 rfl ?_
    refine V_iastL 0 rfl kY133 lI133 rfl dX6_undo_41 rfl (fun u5 e6 => ?_)
    have h := h u5 e6
    refine V_aload_n 0 rfl dX6_undo_42 rfl ?_
    refine gX6_7 rfl kY132 rF132_0 dX6_undo_43 rfl ?_
    refine V_bipush (by decide) dX6_undo_46 rfl ?_
    refine V_aload_n 0 rfl dX6_undo_48 rfl ?_
    refine gX6_20 rfl kY132 rF132_4 dX6_undo_49 rfl ?_
    refine V_iload_n 1 rfl dX6_undo_52 rfl ?_
    refine V_bipush (by decide) dX6_undo_53 rfl ?_
    refine V_iadd dX6_undo_55 rfl ?_
    obtain ⟨q7, h⟩ := h
    refine V_ialdn kY135 lI135 q7 dX6_undo_56 rfl ?_
    refine V_iastL 7 rfl kY133 lI133 rfl dX6_undo_57 rfl (fun u8 e9 => ?_)
    have h := h u8 e9
    refine V_aload_n 0 rfl dX6_undo_58 rfl ?_
    refine gX6_7 rfl kY132 rF132_0 dX6_undo_59 rfl ?_
    refine V_bipush (by decide) dX6_undo_62 rfl ?_
    refine V_aload_n 0 rfl dX6_undo_64 rfl ?_
    refine gX6_20 rfl kY132 rF132_4 dX6_undo_65 rfl ?_
    refine V_iload_n 1 rfl dX6_undo_68 rfl ?_
    refine V_bipush (by decide) dX6_undo_69 rfl ?_
    refine V_iadd dX6_undo_71 rfl ?_
    obtain ⟨q10, h⟩ := h
    refine V_ialdn kY135 lI135 q10 dX6_undo_72 rfl ?_
    refine V_iastL 8 rfl kY133 lI133 rfl dX6_undo_73 rfl (fun u11 e12 => ?_)
    have h := h u11 e12
    refine V_aload_n 0 rfl dX6_undo_74 rfl ?_
    refine gX6_7 rfl kY132 rF132_0 dX6_undo_75 rfl ?_
    refine V_bipush (by decide) dX6_undo_78 rfl ?_
    refine V_aload_n 0 rfl dX6_undo_80 rfl ?_
    refine gX6_20 rfl kY132 rF132_4 dX6_undo_81 rfl ?_
    refine V_iload_n 1 rfl dX6_undo_84 rfl ?_
    refine V_bipush (by decide) dX6_undo_85 rfl ?_
    refine V_iadd dX6_undo_87 rfl ?_
    obtain ⟨q13, h⟩ := h
    refine V_ialdn kY135 lI135 q13 dX6_undo_88 rfl ?_
    refine V_iastL 9 rfl kY133 lI133 rfl dX6_undo_89 rfl (fun u14 e15 => ?_)
    have h := h u14 e15
    refine V_aload_n 0 rfl dX6_undo_90 rfl ?_
    refine gX6_7 rfl kY132 rF132_0 dX6_undo_91 rfl ?_
    refine V_bipush (by decide) dX6_undo_94 rfl ?_
    refine V_aload_n 0 rfl dX6_undo_96 rfl ?_
    refine gX6_20 rfl kY132 rF132_4 dX6_undo_97 rfl ?_
    refine V_iload_n 1 rfl dX6_undo_100 rfl ?_
    refine V_bipush (by decide) dX6_undo_101 rfl ?_
    refine V_iadd dX6_undo_103 rfl ?_
    obtain ⟨q16, h⟩ := h
    refine V_ialdn kY135 lI135 q16 dX6_undo_104 rfl ?_
    refine V_iastL 11 rfl kY133 lI133 rfl dX6_undo_105 rfl (fun u17 e18 => ?_)
    have h := h u17 e18
    refine V_aload_n 0 rfl dX6_undo_106 rfl ?_
    refine gX6_7 rfl kY132 rF132_0 dX6_undo_107 rfl ?_
    refine V_bipush (by decide) dX6_undo_110 rfl ?_
    refine V_aload_n 0 rfl dX6_undo_112 rfl ?_
    refine gX6_20 rfl kY132 rF132_4 dX6_undo_113 rfl ?_
    refine V_iload_n 1 rfl dX6_undo_116 rfl ?_
    refine V_bipush (by decide) dX6_undo_117 rfl ?_
    refine V_iadd dX6_undo_119 rfl ?_
    obtain ⟨q19, h⟩ := h
    refine V_ialdn kY135 lI135 q19 dX6_undo_120 rfl ?_
    refine V_iastL 13 rfl kY133 lI133 rfl dX6_undo_121 rfl (fun u20 e21 => ?_)
    have h := h u20 e21
    refine V_iconst dX6_undo_122 rfl ?_
    refine V_istore_n (ls2 := [(0, RR 132), (1, II (63 * (u2 132 5))), (2, II 0)]) dX6_undo_123 rfl (by decide) rfl ?_
    exact h
  · have h := h.2 hc
    refine V_bipush (by decide) dX6_undo_7 rfl ?_
    exact V_iret dX6_undo_9 (Or.inl rfl) h
set_option maxRecDepth 100000 in
theorem sgX6_undo_124 {G : GG} {Q : Int → Mem → Prop} {t : Mem} {v1 v2 : Int}  (h : In32 v2 ∧ In32 (t 133 12) ∧ ((t 133 12) ≤ v2 → Q (t 132 5) t) ∧ (¬ (t 133 12) ≤ v2 → V G mX6_undo 137 [(0, RR 132), (1, II v1), (2, II v2), (3, II 3)] [] t Q)) : V G mX6_undo 124 [(0, RR 132), (1, II v1), (2, II v2)] [] t Q := by
  refine V_iload_n 2 rfl dX6_undo_124 rfl ?_
  refine V_aload_n 0 rfl dX6_undo_125 rfl ?_
  refine gX6_7 rfl kY132 rF132_0 dX6_undo_126 rfl ?_
  refine V_bipush (by decide) dX6_undo_129 rfl ?_
  refine V_ialdL 12 rfl kY133 lI133 rfl dX6_undo_131 rfl ?_
  obtain ⟨q1, h⟩ := h
  obtain ⟨q2, h⟩ := h
  refine V_icmp_ge q1 q2 dX6_undo_132 (g := 185) rfl rfl ⟨fun hc => ?_, fun hc => ?_⟩
  · have h := h.1 hc
    refine V_aload_n 0 rfl dX6_undo_185 rfl ?_
    refine gX6_74 rfl kY132 dX6_undo_186 rfl ?_
    exact V_iret dX6_undo_189 (Or.inl rfl) h
  · have h := h.2 hc
    refine V_iconst dX6_undo_135 rfl ?_
    refine V_istore_n (ls2 := [(0, RR 132), (1, II v1), (2, II v2), (3, II 3)]) dX6_undo_136 rfl (by decide) rfl ?_
    exact h
set_option maxRecDepth 100000 in
theorem sgX6_undo_137 {G : GG} {Q : Int → Mem → Prop} {t : Mem} {v1 v2 v3 : Int}  (h : In32 v3 ∧ (7 ≤ v3 → V G mX6_undo 124 [(0, RR 132), (1, II v1), (2, II (v2 + 1))] [] t Q) ∧ (¬ 7 ≤ v3 → (0 ≤ ((v1 + 14) + (7 * v2)) + v3 ∧ ((v1 + 14) + (7 * v2)) + v3 < 504) ∧ (0 ≤ (14 + (7 * v2)) + v3 ∧ (14 + (7 * v2)) + v3 < 63) ∧ ∀ u3 : Mem, u3 = wr t 133 ((14 + (7 * v2)) + v3).toNat (t 135 (((v1 + 14) + (7 * v2)) + v3).toNat) → V G mX6_undo 137 [(0, RR 132), (1, II v1), (2, II v2), (3, II (v3 + 1))] [] u3 Q)) : V G mX6_undo 137 [(0, RR 132), (1, II v1), (2, II v2), (3, II v3)] [] t Q := by
  refine V_iload_n 3 rfl dX6_undo_137 rfl ?_
  refine V_bipush (by decide) dX6_undo_138 rfl ?_
  obtain ⟨q1, h⟩ := h
  refine V_icmp_ge q1 (iL rfl) dX6_undo_140 (g := 179) rfl rfl ⟨fun hc => ?_, fun hc => ?_⟩
  · have h := h.1 hc
    refine V_iinc 2 rfl (ls2 := [(0, RR 132), (1, II v1), (2, II (v2 + 1)), (3, II v3)]) dX6_undo_179 rfl (by decide) rfl ?_
    refine V_goto (g := 124) dX6_undo_182 rfl ?_
    exact V_sub (by intro q hq; simp only [List.mem_cons, List.not_mem_nil, or_false] at hq ⊢; first | (rcases hq with rfl | rfl | rfl <;> simp)) h
  · have h := h.2 hc
    refine V_aload_n 0 rfl dX6_undo_143 rfl ?_
    refine gX6_7 rfl kY132 rF132_0 dX6_undo_144 rfl ?_
    refine V_bipush (by decide) dX6_undo_147 rfl ?_
    refine V_bipush (by decide) dX6_undo_149 rfl ?_
    refine V_iload_n 2 rfl dX6_undo_151 rfl ?_
    refine V_imul dX6_undo_152 rfl ?_
    refine V_iadd dX6_undo_153 rfl ?_
    refine V_iload_n 3 rfl dX6_undo_154 rfl ?_
    refine V_iadd dX6_undo_155 rfl ?_
    refine V_aload_n 0 rfl dX6_undo_156 rfl ?_
    refine gX6_20 rfl kY132 rF132_4 dX6_undo_157 rfl ?_
    refine V_iload_n 1 rfl dX6_undo_160 rfl ?_
    refine V_bipush (by decide) dX6_undo_161 rfl ?_
    refine V_iadd dX6_undo_163 rfl ?_
    refine V_bipush (by decide) dX6_undo_164 rfl ?_
    refine V_iload_n 2 rfl dX6_undo_166 rfl ?_
    refine V_imul dX6_undo_167 rfl ?_
    refine V_iadd dX6_undo_168 rfl ?_
    refine V_iload_n 3 rfl dX6_undo_169 rfl ?_
    refine V_iadd dX6_undo_170 rfl ?_
    obtain ⟨q2, h⟩ := h
    refine V_ialdn kY135 lI135 q2 dX6_undo_171 rfl ?_
    obtain ⟨q5, h⟩ := h
    refine V_iastn kY133 lI133 q5 dX6_undo_172 rfl (fun u3 e4 => ?_)
    have h := h u3 e4
    refine V_iinc 3 rfl (ls2 := [(0, RR 132), (1, II v1), (2, II v2), (3, II (v3 + 1))]) dX6_undo_173 rfl (by decide) rfl ?_
    refine V_goto (g := 137) dX6_undo_176 rfl ?_
    exact h
theorem eX6_seed {G : GG} {Q : Int → Mem → Prop} {t : Mem} {v1 : Int} (k : V G mX6_seed 0 [(0, RR 132), (1, II v1)] [] t Q) : Ex G mX6_seed [RR 132, II v1] t Q := Ex.of plX6 (Or.inr (Or.inl rfl)) (Nat.le_of_ble_eq_true rfl) rfl k
set_option maxRecDepth 100000 in
theorem sgX6_seed_0 {G : GG} {Q : Int → Mem → Prop} {t : Mem} {v1 : Int}  (h : In32 v1 ∧ (0 ≤ v1 → ∀ u2 : Mem, u2 = wr t 133 13 v1 → Q (t 133 13) u2) ∧ (¬ 0 ≤ v1 → Q (-1) t)) : V G mX6_seed 0 [(0, RR 132), (1, II v1)] [] t Q := by
  refine V_iload_n 1 rfl dX6_seed_0 rfl ?_
  obtain ⟨q1, h⟩ := h
  refine V_if_ge q1 dX6_seed_1 (g := 6) rfl rfl ⟨fun hc => ?_, fun hc => ?_⟩
  · have h := h.1 hc
    refine V_aload_n 0 rfl dX6_seed_6 rfl ?_
    refine gX6_7 rfl kY132 rF132_0 dX6_seed_7 rfl ?_
    refine V_bipush (by decide) dX6_seed_10 rfl ?_
    refine V_ialdL 13 rfl kY133 lI133 rfl dX6_seed_12 rfl ?_
    refine V_istore_n (ls2 := [(0, RR 132), (1, II v1), (2, II (t 133 13))]) dX6_seed_13 rfl (by decide) rfl ?_
    refine V_aload_n 0 rfl dX6_seed_14 rfl ?_
    refine gX6_7 rfl kY132 rF132_0 dX6_seed_15 rfl ?_
    refine V_bipush (by decide) dX6_seed_18 rfl ?_
    refine V_iload_n 1 rfl dX6_seed_20 rfl ?_
    refine V_iastL 13 rfl kY133 lI133 rfl dX6_seed_21 rfl (fun u2 e3 => ?_)
    have h := h u2 e3
    refine V_iload_n 2 rfl dX6_seed_22 rfl ?_
    exact V_iret dX6_seed_23 (Or.inl rfl) h
  · have h := h.2 hc
    refine V_iconst dX6_seed_4 rfl ?_
    exact V_iret dX6_seed_5 (Or.inl rfl) h
theorem eX6_count {G : GG} {Q : Int → Mem → Prop} {t : Mem} {v1 : Int} (k : V G mX6_count 0 [(0, RR 132), (1, II v1)] [] t Q) : Ex G mX6_count [RR 132, II v1] t Q := Ex.of plX6 (Or.inr (Or.inl rfl)) (Nat.le_of_ble_eq_true rfl) rfl k
set_option maxRecDepth 100000 in
theorem sgX6_count_0 {G : GG} {Q : Int → Mem → Prop} {t : Mem} {v1 : Int}  (h : V G mX6_count 4 [(0, RR 132), (1, II v1), (2, II 0), (3, II 0)] [] t Q) : V G mX6_count 0 [(0, RR 132), (1, II v1)] [] t Q := by
  refine V_iconst dX6_count_0 rfl ?_
  refine V_istore_n (ls2 := [(0, RR 132), (1, II v1), (2, II 0)]) dX6_count_1 rfl (by decide) rfl ?_
  refine V_iconst dX6_count_2 rfl ?_
  refine V_istore_n (ls2 := [(0, RR 132), (1, II v1), (2, II 0), (3, II 0)]) dX6_count_3 rfl (by decide) rfl ?_
  exact h
set_option maxRecDepth 100000 in
theorem sgX6_count_4 {G : GG} {Q : Int → Mem → Prop} {t : Mem} {v1 v2 v3 : Int}  (h : In32 v3 ∧ In32 (t 133 12) ∧ ((t 133 12) ≤ v3 → In32 v1 ∧ (v1 = 0 → Q (t 133 12) t) ∧ (v1 = 1 → Q (t 133 11) t) ∧ (v1 = 2 → Q (t 133 0) t) ∧ (v1 = 3 → Q (t 133 7) t) ∧ (v1 = 4 → Q (t 133 8) t) ∧ (v1 = 5 → Q (t 133 9) t) ∧ (v1 = 6 → Q (t 132 5) t) ∧ (v1 = 7 → ∃ P5 : Int → Mem → Prop, Ex G mX6_sated [RR 132] t P5 ∧ ∀ (r7 : Int) (u8 : Mem), P5 r7 u8 → Q r7 u8) ∧ (v1 = 8 → Q v2 t) ∧ (v1 = 9 → ∃ P10 : Int → Mem → Prop, Ex G mX6_in [JJ v1, JJ 9, JJ 14] t P10 ∧ ∀ (r12 : Int) (u13 : Mem), P10 r12 u13 → In32 r12 ∧ (¬ r12 = 0 → (0 ≤ v1 - 8 ∧ v1 - 8 < 63) ∧ True) ∧ ∀ w17 : Int, w17 = (if r12 = 0 then (-1) else u13 133 (v1 - 8).toNat) → Q w17 u13) ∧ (v1 = 10 → ∃ P22 : Int → Mem → Prop, Ex G mX6_in [JJ v1, JJ 9, JJ 14] t P22 ∧ ∀ (r24 : Int) (u25 : Mem), P22 r24 u25 → In32 r24 ∧ (¬ r24 = 0 → (0 ≤ v1 - 8 ∧ v1 - 8 < 63) ∧ True) ∧ ∀ w29 : Int, w29 = (if r24 = 0 then (-1) else u25 133 (v1 - 8).toNat) → Q w29 u25) ∧ (v1 = 11 → ∃ P34 : Int → Mem → Prop, Ex G mX6_in [JJ v1, JJ 9, JJ 14] t P34 ∧ ∀ (r36 : Int) (u37 : Mem), P34 r36 u37 → In32 r36 ∧ (¬ r36 = 0 → (0 ≤ v1 - 8 ∧ v1 - 8 < 63) ∧ True) ∧ ∀ w41 : Int, w41 = (if r36 = 0 then (-1) else u37 133 (v1 - 8).toNat) → Q w41 u37) ∧ (v1 = 12 → ∃ P46 : Int → Mem → Prop, Ex G mX6_in [JJ v1, JJ 9, JJ 14] t P46 ∧ ∀ (r48 : Int) (u49 : Mem), P46 r48 u49 → In32 r48 ∧ (¬ r48 = 0 → (0 ≤ v1 - 8 ∧ v1 - 8 < 63) ∧ True) ∧ ∀ w53 : Int, w53 = (if r48 = 0 then (-1) else u49 133 (v1 - 8).toNat) → Q w53 u49) ∧ (v1 = 13 → ∃ P58 : Int → Mem → Prop, Ex G mX6_in [JJ v1, JJ 9, JJ 14] t P58 ∧ ∀ (r60 : Int) (u61 : Mem), P58 r60 u61 → In32 r60 ∧ (¬ r60 = 0 → (0 ≤ v1 - 8 ∧ v1 - 8 < 63) ∧ True) ∧ ∀ w65 : Int, w65 = (if r60 = 0 then (-1) else u61 133 (v1 - 8).toNat) → Q w65 u61) ∧ (v1 = 14 → ∃ P70 : Int → Mem → Prop, Ex G mX6_in [JJ v1, JJ 9, JJ 14] t P70 ∧ ∀ (r72 : Int) (u73 : Mem), P70 r72 u73 → In32 r72 ∧ (¬ r72 = 0 → (0 ≤ v1 - 8 ∧ v1 - 8 < 63) ∧ True) ∧ ∀ w77 : Int, w77 = (if r72 = 0 then (-1) else u73 133 (v1 - 8).toNat) → Q w77 u73) ∧ (v1 = 15 → Q (t 133 10) t) ∧ ((v1 < 0 ∨ 15 < v1) → ∃ P82 : Int → Mem → Prop, Ex G mX6_in [JJ v1, JJ 9, JJ 14] t P82 ∧ ∀ (r84 : Int) (u85 : Mem), P82 r84 u85 → In32 r84 ∧ (¬ r84 = 0 → (0 ≤ v1 - 8 ∧ v1 - 8 < 63) ∧ True) ∧ ∀ w89 : Int, w89 = (if r84 = 0 then (-1) else u85 133 (v1 - 8).toNat) → Q w89 u85)) ∧ (¬ (t 133 12) ≤ v3 → ∃ P94 : Int → Mem → Prop, Ex G mX6_at [RR 132, II v3, II 3] t P94 ∧ ∀ (r96 : Int) (u97 : Mem), P94 r96 u97 → V G mX6_count 4 [(0, RR 132), (1, II v1), (2, II (v2 + r96)), (3, II (v3 + 1))] [] u97 Q)) : V G mX6_count 4 [(0, RR 132), (1, II v1), (2, II v2), (3, II v3)] [] t Q := by
  refine V_iload_n 3 rfl dX6_count_4 rfl ?_
  refine V_aload_n 0 rfl dX6_count_5 rfl ?_
  refine gX6_7 rfl kY132 rF132_0 dX6_count_6 rfl ?_
  refine V_bipush (by decide) dX6_count_9 rfl ?_
  refine V_ialdL 12 rfl kY133 lI133 rfl dX6_count_11 rfl ?_
  obtain ⟨q1, h⟩ := h
  obtain ⟨q2, h⟩ := h
  refine V_icmp_ge q1 q2 dX6_count_12 (g := 30) rfl rfl ⟨fun hc => ?_, fun hc => ?_⟩
  · have h := h.1 hc
    refine V_iload_n 1 rfl dX6_count_30 rfl ?_
    obtain ⟨q3, h⟩ := h
    have hs4 : v1 = 0 ∨ v1 = 1 ∨ v1 = 2 ∨ v1 = 3 ∨ v1 = 4 ∨ v1 = 5 ∨ v1 = 6 ∨ v1 = 7 ∨ v1 = 8 ∨ v1 = 9 ∨ v1 = 10 ∨ v1 = 11 ∨ v1 = 12 ∨ v1 = 13 ∨ v1 = 14 ∨ v1 = 15 ∨ (v1 < 0 ∨ 15 < v1) := by omega
    rcases hs4 with hc | hc | hc | hc | hc | hc | hc | hc | hc | hc | hc | hc | hc | hc | hc | hc | hc
    · have h := h.1 hc
      refine V_tsIn (i := 0) (g := 108) dX6_count_31 hc (by decide) (iL rfl) rfl rfl ?_
      refine V_aload_n 0 rfl dX6_count_108 rfl ?_
      refine gX6_7 rfl kY132 rF132_0 dX6_count_109 rfl ?_
      refine V_bipush (by decide) dX6_count_112 rfl ?_
      refine V_ialdL 12 rfl kY133 lI133 rfl dX6_count_114 rfl ?_
      exact V_iret dX6_count_115 (Or.inl rfl) h
    · have h := h.2.1 hc
      refine V_tsIn (i := 1) (g := 116) dX6_count_31 hc (by decide) (iL rfl) rfl rfl ?_
      refine V_aload_n 0 rfl dX6_count_116 rfl ?_
      refine gX6_7 rfl kY132 rF132_0 dX6_count_117 rfl ?_
      refine V_bipush (by decide) dX6_count_120 rfl ?_
      refine V_ialdL 11 rfl kY133 lI133 rfl dX6_count_122 rfl ?_
      exact V_iret dX6_count_123 (Or.inl rfl) h
    · have h := h.2.2.1 hc
      refine V_tsIn (i := 2) (g := 124) dX6_count_31 hc (by decide) (iL rfl) rfl rfl ?_
      refine V_aload_n 0 rfl dX6_count_124 rfl ?_
      refine gX6_7 rfl kY132 rF132_0 dX6_count_125 rfl ?_
      refine V_iconst dX6_count_128 rfl ?_
      refine V_ialdL 0 rfl kY133 lI133 rfl dX6_count_129 rfl ?_
      exact V_iret dX6_count_130 (Or.inl rfl) h
    · have h := h.2.2.2.1 hc
      refine V_tsIn (i := 3) (g := 131) dX6_count_31 hc (by decide) (iL rfl) rfl rfl ?_
      refine V_aload_n 0 rfl dX6_count_131 rfl ?_
      refine gX6_7 rfl kY132 rF132_0 dX6_count_132 rfl ?_
      refine V_bipush (by decide) dX6_count_135 rfl ?_
      refine V_ialdL 7 rfl kY133 lI133 rfl dX6_count_137 rfl ?_
      exact V_iret dX6_count_138 (Or.inl rfl) h
    · have h := h.2.2.2.2.1 hc
      refine V_tsIn (i := 4) (g := 139) dX6_count_31 hc (by decide) (iL rfl) rfl rfl ?_
      refine V_aload_n 0 rfl dX6_count_139 rfl ?_
      refine gX6_7 rfl kY132 rF132_0 dX6_count_140 rfl ?_
      refine V_bipush (by decide) dX6_count_143 rfl ?_
      refine V_ialdL 8 rfl kY133 lI133 rfl dX6_count_145 rfl ?_
      exact V_iret dX6_count_146 (Or.inl rfl) h
    · have h := h.2.2.2.2.2.1 hc
      refine V_tsIn (i := 5) (g := 147) dX6_count_31 hc (by decide) (iL rfl) rfl rfl ?_
      refine V_aload_n 0 rfl dX6_count_147 rfl ?_
      refine gX6_7 rfl kY132 rF132_0 dX6_count_148 rfl ?_
      refine V_bipush (by decide) dX6_count_151 rfl ?_
      refine V_ialdL 9 rfl kY133 lI133 rfl dX6_count_153 rfl ?_
      exact V_iret dX6_count_154 (Or.inl rfl) h
    · have h := h.2.2.2.2.2.2.1 hc
      refine V_tsIn (i := 6) (g := 155) dX6_count_31 hc (by decide) (iL rfl) rfl rfl ?_
      refine V_aload_n 0 rfl dX6_count_155 rfl ?_
      refine gX6_74 rfl kY132 dX6_count_156 rfl ?_
      exact V_iret dX6_count_159 (Or.inl rfl) h
    · have h := h.2.2.2.2.2.2.2.1 hc
      refine V_tsIn (i := 7) (g := 160) dX6_count_31 hc (by decide) (iL rfl) rfl rfl ?_
      refine V_aload_n 0 rfl dX6_count_160 rfl ?_
      obtain ⟨P5, c6, h⟩ := h
      refine V_callVi (st := []) (as := []) okX6_sated rfl mlX6_134 (by decide) kY132 rfl (Nat.le_of_ble_eq_true rfl) rfl dX6_count_161 rfl c6 (fun r7 u8 e9 => ?_)
      have h := h r7 u8 e9
      exact V_iret dX6_count_164 (Or.inl rfl) h
    · have h := h.2.2.2.2.2.2.2.2.1 hc
      refine V_tsIn (i := 8) (g := 165) dX6_count_31 hc (by decide) (iL rfl) rfl rfl ?_
      refine V_iload_n 2 rfl dX6_count_165 rfl ?_
      exact V_iret dX6_count_166 (Or.inl rfl) h
    · have h := h.2.2.2.2.2.2.2.2.2.1 hc
      refine V_tsIn (i := 9) (g := 175) dX6_count_31 hc (by decide) (iL rfl) rfl rfl ?_
      refine V_iload_n 1 rfl dX6_count_175 rfl ?_
      refine V_i2l q3 dX6_count_176 rfl ?_
      refine V_ldc2 (x := 9) ctX6_72 rfl dX6_count_177 rfl ?_
      refine V_ldc2 (x := 14) ctX6_138 rfl dX6_count_180 rfl ?_
      obtain ⟨P10, c11, h⟩ := h
      refine V_callSi (st := []) (as := [JJ v1, JJ 9, JJ 14]) okX6_in rfl mlX6_51 (by decide) rfl (Nat.le_of_ble_eq_true rfl) rfl dX6_count_183 rfl c11 (fun r12 u13 e14 => ?_)
      have h := h r12 u13 e14
      obtain ⟨q15, h⟩ := h
      obtain ⟨hB20, h⟩ := h
      have hj21 : ∀ w17 : Int, w17 = (if r12 = 0 then (-1) else u13 133 (v1 - 8).toNat) → V G mX6_count 202 [(0, RR 132), (1, II v1), (2, II v2), (3, II v3)] [II w17] u13 Q := by
        intro w17 e18
        have h := h w17 e18
        exact V_iret dX6_count_202 (Or.inl rfl) h
      have hj21 := hj21 _ rfl
      refine V_if_eq q15 dX6_count_186 (g := 201) rfl rfl ⟨fun hc => ?_, fun hc => ?_⟩
      · skip
        refine V_iconst dX6_count_201 rfl ?_
        rw [if_pos hc] at hj21
        exact hj21
      · have h := hB20 hc
        refine V_aload_n 0 rfl dX6_count_189 rfl ?_
        refine gX6_7 rfl kY132 rF132_0 dX6_count_190 rfl ?_
        refine V_iload_n 1 rfl dX6_count_193 rfl ?_
        refine V_bipush (by decide) dX6_count_194 rfl ?_
        refine V_isub dX6_count_196 rfl ?_
        obtain ⟨q16, h⟩ := h
        refine V_ialdn kY133 lI133 q16 dX6_count_197 rfl ?_
        refine V_goto (g := 202) dX6_count_198 rfl ?_
        rw [if_neg hc] at hj21
        exact hj21
    · have h := h.2.2.2.2.2.2.2.2.2.2.1 hc
      refine V_tsIn (i := 10) (g := 175) dX6_count_31 hc (by decide) (iL rfl) rfl rfl ?_
      refine V_iload_n 1 rfl dX6_count_175 rfl ?_
      refine V_i2l q3 dX6_count_176 rfl ?_
      refine V_ldc2 (x := 9) ctX6_72 rfl dX6_count_177 rfl ?_
      refine V_ldc2 (x := 14) ctX6_138 rfl dX6_count_180 rfl ?_
      obtain ⟨P22, c23, h⟩ := h
      refine V_callSi (st := []) (as := [JJ v1, JJ 9, JJ 14]) okX6_in rfl mlX6_51 (by decide) rfl (Nat.le_of_ble_eq_true rfl) rfl dX6_count_183 rfl c23 (fun r24 u25 e26 => ?_)
      have h := h r24 u25 e26
      obtain ⟨q27, h⟩ := h
      obtain ⟨hB32, h⟩ := h
      have hj33 : ∀ w29 : Int, w29 = (if r24 = 0 then (-1) else u25 133 (v1 - 8).toNat) → V G mX6_count 202 [(0, RR 132), (1, II v1), (2, II v2), (3, II v3)] [II w29] u25 Q := by
        intro w29 e30
        have h := h w29 e30
        exact V_iret dX6_count_202 (Or.inl rfl) h
      have hj33 := hj33 _ rfl
      refine V_if_eq q27 dX6_count_186 (g := 201) rfl rfl ⟨fun hc => ?_, fun hc => ?_⟩
      · skip
        refine V_iconst dX6_count_201 rfl ?_
        rw [if_pos hc] at hj33
        exact hj33
      · have h := hB32 hc
        refine V_aload_n 0 rfl dX6_count_189 rfl ?_
        refine gX6_7 rfl kY132 rF132_0 dX6_count_190 rfl ?_
        refine V_iload_n 1 rfl dX6_count_193 rfl ?_
        refine V_bipush (by decide) dX6_count_194 rfl ?_
        refine V_isub dX6_count_196 rfl ?_
        obtain ⟨q28, h⟩ := h
        refine V_ialdn kY133 lI133 q28 dX6_count_197 rfl ?_
        refine V_goto (g := 202) dX6_count_198 rfl ?_
        rw [if_neg hc] at hj33
        exact hj33
    · have h := h.2.2.2.2.2.2.2.2.2.2.2.1 hc
      refine V_tsIn (i := 11) (g := 175) dX6_count_31 hc (by decide) (iL rfl) rfl rfl ?_
      refine V_iload_n 1 rfl dX6_count_175 rfl ?_
      refine V_i2l q3 dX6_count_176 rfl ?_
      refine V_ldc2 (x := 9) ctX6_72 rfl dX6_count_177 rfl ?_
      refine V_ldc2 (x := 14) ctX6_138 rfl dX6_count_180 rfl ?_
      obtain ⟨P34, c35, h⟩ := h
      refine V_callSi (st := []) (as := [JJ v1, JJ 9, JJ 14]) okX6_in rfl mlX6_51 (by decide) rfl (Nat.le_of_ble_eq_true rfl) rfl dX6_count_183 rfl c35 (fun r36 u37 e38 => ?_)
      have h := h r36 u37 e38
      obtain ⟨q39, h⟩ := h
      obtain ⟨hB44, h⟩ := h
      have hj45 : ∀ w41 : Int, w41 = (if r36 = 0 then (-1) else u37 133 (v1 - 8).toNat) → V G mX6_count 202 [(0, RR 132), (1, II v1), (2, II v2), (3, II v3)] [II w41] u37 Q := by
        intro w41 e42
        have h := h w41 e42
        exact V_iret dX6_count_202 (Or.inl rfl) h
      have hj45 := hj45 _ rfl
      refine V_if_eq q39 dX6_count_186 (g := 201) rfl rfl ⟨fun hc => ?_, fun hc => ?_⟩
      · skip
        refine V_iconst dX6_count_201 rfl ?_
        rw [if_pos hc] at hj45
        exact hj45
      · have h := hB44 hc
        refine V_aload_n 0 rfl dX6_count_189 rfl ?_
        refine gX6_7 rfl kY132 rF132_0 dX6_count_190 rfl ?_
        refine V_iload_n 1 rfl dX6_count_193 rfl ?_
        refine V_bipush (by decide) dX6_count_194 rfl ?_
        refine V_isub dX6_count_196 rfl ?_
        obtain ⟨q40, h⟩ := h
        refine V_ialdn kY133 lI133 q40 dX6_count_197 rfl ?_
        refine V_goto (g := 202) dX6_count_198 rfl ?_
        rw [if_neg hc] at hj45
        exact hj45
    · have h := h.2.2.2.2.2.2.2.2.2.2.2.2.1 hc
      refine V_tsIn (i := 12) (g := 175) dX6_count_31 hc (by decide) (iL rfl) rfl rfl ?_
      refine V_iload_n 1 rfl dX6_count_175 rfl ?_
      refine V_i2l q3 dX6_count_176 rfl ?_
      refine V_ldc2 (x := 9) ctX6_72 rfl dX6_count_177 rfl ?_
      refine V_ldc2 (x := 14) ctX6_138 rfl dX6_count_180 rfl ?_
      obtain ⟨P46, c47, h⟩ := h
      refine V_callSi (st := []) (as := [JJ v1, JJ 9, JJ 14]) okX6_in rfl mlX6_51 (by decide) rfl (Nat.le_of_ble_eq_true rfl) rfl dX6_count_183 rfl c47 (fun r48 u49 e50 => ?_)
      have h := h r48 u49 e50
      obtain ⟨q51, h⟩ := h
      obtain ⟨hB56, h⟩ := h
      have hj57 : ∀ w53 : Int, w53 = (if r48 = 0 then (-1) else u49 133 (v1 - 8).toNat) → V G mX6_count 202 [(0, RR 132), (1, II v1), (2, II v2), (3, II v3)] [II w53] u49 Q := by
        intro w53 e54
        have h := h w53 e54
        exact V_iret dX6_count_202 (Or.inl rfl) h
      have hj57 := hj57 _ rfl
      refine V_if_eq q51 dX6_count_186 (g := 201) rfl rfl ⟨fun hc => ?_, fun hc => ?_⟩
      · skip
        refine V_iconst dX6_count_201 rfl ?_
        rw [if_pos hc] at hj57
        exact hj57
      · have h := hB56 hc
        refine V_aload_n 0 rfl dX6_count_189 rfl ?_
        refine gX6_7 rfl kY132 rF132_0 dX6_count_190 rfl ?_
        refine V_iload_n 1 rfl dX6_count_193 rfl ?_
        refine V_bipush (by decide) dX6_count_194 rfl ?_
        refine V_isub dX6_count_196 rfl ?_
        obtain ⟨q52, h⟩ := h
        refine V_ialdn kY133 lI133 q52 dX6_count_197 rfl ?_
        refine V_goto (g := 202) dX6_count_198 rfl ?_
        rw [if_neg hc] at hj57
        exact hj57
    · have h := h.2.2.2.2.2.2.2.2.2.2.2.2.2.1 hc
      refine V_tsIn (i := 13) (g := 175) dX6_count_31 hc (by decide) (iL rfl) rfl rfl ?_
      refine V_iload_n 1 rfl dX6_count_175 rfl ?_
      refine V_i2l q3 dX6_count_176 rfl ?_
      refine V_ldc2 (x := 9) ctX6_72 rfl dX6_count_177 rfl ?_
      refine V_ldc2 (x := 14) ctX6_138 rfl dX6_count_180 rfl ?_
      obtain ⟨P58, c59, h⟩ := h
      refine V_callSi (st := []) (as := [JJ v1, JJ 9, JJ 14]) okX6_in rfl mlX6_51 (by decide) rfl (Nat.le_of_ble_eq_true rfl) rfl dX6_count_183 rfl c59 (fun r60 u61 e62 => ?_)
      have h := h r60 u61 e62
      obtain ⟨q63, h⟩ := h
      obtain ⟨hB68, h⟩ := h
      have hj69 : ∀ w65 : Int, w65 = (if r60 = 0 then (-1) else u61 133 (v1 - 8).toNat) → V G mX6_count 202 [(0, RR 132), (1, II v1), (2, II v2), (3, II v3)] [II w65] u61 Q := by
        intro w65 e66
        have h := h w65 e66
        exact V_iret dX6_count_202 (Or.inl rfl) h
      have hj69 := hj69 _ rfl
      refine V_if_eq q63 dX6_count_186 (g := 201) rfl rfl ⟨fun hc => ?_, fun hc => ?_⟩
      · skip
        refine V_iconst dX6_count_201 rfl ?_
        rw [if_pos hc] at hj69
        exact hj69
      · have h := hB68 hc
        refine V_aload_n 0 rfl dX6_count_189 rfl ?_
        refine gX6_7 rfl kY132 rF132_0 dX6_count_190 rfl ?_
        refine V_iload_n 1 rfl dX6_count_193 rfl ?_
        refine V_bipush (by decide) dX6_count_194 rfl ?_
        refine V_isub dX6_count_196 rfl ?_
        obtain ⟨q64, h⟩ := h
        refine V_ialdn kY133 lI133 q64 dX6_count_197 rfl ?_
        refine V_goto (g := 202) dX6_count_198 rfl ?_
        rw [if_neg hc] at hj69
        exact hj69
    · have h := h.2.2.2.2.2.2.2.2.2.2.2.2.2.2.1 hc
      refine V_tsIn (i := 14) (g := 175) dX6_count_31 hc (by decide) (iL rfl) rfl rfl ?_
      refine V_iload_n 1 rfl dX6_count_175 rfl ?_
      refine V_i2l q3 dX6_count_176 rfl ?_
      refine V_ldc2 (x := 9) ctX6_72 rfl dX6_count_177 rfl ?_
      refine V_ldc2 (x := 14) ctX6_138 rfl dX6_count_180 rfl ?_
      obtain ⟨P70, c71, h⟩ := h
      refine V_callSi (st := []) (as := [JJ v1, JJ 9, JJ 14]) okX6_in rfl mlX6_51 (by decide) rfl (Nat.le_of_ble_eq_true rfl) rfl dX6_count_183 rfl c71 (fun r72 u73 e74 => ?_)
      have h := h r72 u73 e74
      obtain ⟨q75, h⟩ := h
      obtain ⟨hB80, h⟩ := h
      have hj81 : ∀ w77 : Int, w77 = (if r72 = 0 then (-1) else u73 133 (v1 - 8).toNat) → V G mX6_count 202 [(0, RR 132), (1, II v1), (2, II v2), (3, II v3)] [II w77] u73 Q := by
        intro w77 e78
        have h := h w77 e78
        exact V_iret dX6_count_202 (Or.inl rfl) h
      have hj81 := hj81 _ rfl
      refine V_if_eq q75 dX6_count_186 (g := 201) rfl rfl ⟨fun hc => ?_, fun hc => ?_⟩
      · skip
        refine V_iconst dX6_count_201 rfl ?_
        rw [if_pos hc] at hj81
        exact hj81
      · have h := hB80 hc
        refine V_aload_n 0 rfl dX6_count_189 rfl ?_
        refine gX6_7 rfl kY132 rF132_0 dX6_count_190 rfl ?_
        refine V_iload_n 1 rfl dX6_count_193 rfl ?_
        refine V_bipush (by decide) dX6_count_194 rfl ?_
        refine V_isub dX6_count_196 rfl ?_
        obtain ⟨q76, h⟩ := h
        refine V_ialdn kY133 lI133 q76 dX6_count_197 rfl ?_
        refine V_goto (g := 202) dX6_count_198 rfl ?_
        rw [if_neg hc] at hj81
        exact hj81
    · have h := h.2.2.2.2.2.2.2.2.2.2.2.2.2.2.2.1 hc
      refine V_tsIn (i := 15) (g := 167) dX6_count_31 hc (by decide) (iL rfl) rfl rfl ?_
      refine V_aload_n 0 rfl dX6_count_167 rfl ?_
      refine gX6_7 rfl kY132 rF132_0 dX6_count_168 rfl ?_
      refine V_bipush (by decide) dX6_count_171 rfl ?_
      refine V_ialdL 10 rfl kY133 lI133 rfl dX6_count_173 rfl ?_
      exact V_iret dX6_count_174 (Or.inl rfl) h
    · have h := h.2.2.2.2.2.2.2.2.2.2.2.2.2.2.2.2 hc
      refine V_tsOut (g := 175) dX6_count_31 q3 hc rfl ?_
      refine V_iload_n 1 rfl dX6_count_175 rfl ?_
      refine V_i2l q3 dX6_count_176 rfl ?_
      refine V_ldc2 (x := 9) ctX6_72 rfl dX6_count_177 rfl ?_
      refine V_ldc2 (x := 14) ctX6_138 rfl dX6_count_180 rfl ?_
      obtain ⟨P82, c83, h⟩ := h
      refine V_callSi (st := []) (as := [JJ v1, JJ 9, JJ 14]) okX6_in rfl mlX6_51 (by decide) rfl (Nat.le_of_ble_eq_true rfl) rfl dX6_count_183 rfl c83 (fun r84 u85 e86 => ?_)
      have h := h r84 u85 e86
      obtain ⟨q87, h⟩ := h
      obtain ⟨hB92, h⟩ := h
      have hj93 : ∀ w89 : Int, w89 = (if r84 = 0 then (-1) else u85 133 (v1 - 8).toNat) → V G mX6_count 202 [(0, RR 132), (1, II v1), (2, II v2), (3, II v3)] [II w89] u85 Q := by
        intro w89 e90
        have h := h w89 e90
        exact V_iret dX6_count_202 (Or.inl rfl) h
      have hj93 := hj93 _ rfl
      refine V_if_eq q87 dX6_count_186 (g := 201) rfl rfl ⟨fun hc => ?_, fun hc => ?_⟩
      · skip
        refine V_iconst dX6_count_201 rfl ?_
        rw [if_pos hc] at hj93
        exact hj93
      · have h := hB92 hc
        refine V_aload_n 0 rfl dX6_count_189 rfl ?_
        refine gX6_7 rfl kY132 rF132_0 dX6_count_190 rfl ?_
        refine V_iload_n 1 rfl dX6_count_193 rfl ?_
        refine V_bipush (by decide) dX6_count_194 rfl ?_
        refine V_isub dX6_count_196 rfl ?_
        obtain ⟨q88, h⟩ := h
        refine V_ialdn kY133 lI133 q88 dX6_count_197 rfl ?_
        refine V_goto (g := 202) dX6_count_198 rfl ?_
        rw [if_neg hc] at hj93
        exact hj93
  · have h := h.2 hc
    refine V_iload_n 2 rfl dX6_count_15 rfl ?_
    refine V_aload_n 0 rfl dX6_count_16 rfl ?_
    refine V_iload_n 3 rfl dX6_count_17 rfl ?_
    refine V_iconst dX6_count_18 rfl ?_
    obtain ⟨P94, c95, h⟩ := h
    refine V_callVi (st := [II v2]) (as := [II v3, II 3]) okX6_at rfl mlX6_55 (by decide) kY132 rfl (Nat.le_of_ble_eq_true rfl) rfl dX6_count_19 rfl c95 (fun r96 u97 e98 => ?_)
    have h := h r96 u97 e98
    refine V_iadd dX6_count_22 rfl ?_
    refine V_istore_n (ls2 := [(0, RR 132), (1, II v1), (2, II (v2 + r96)), (3, II v3)]) dX6_count_23 rfl (by decide) rfl ?_
    refine V_iinc 3 rfl (ls2 := [(0, RR 132), (1, II v1), (2, II (v2 + r96)), (3, II (v3 + 1))]) dX6_count_24 rfl (by decide) rfl ?_
    refine V_goto (g := 4) dX6_count_27 rfl ?_
    exact h
theorem eX6_asides {G : GG} {Q : Int → Mem → Prop} {t : Mem} (k : V G mX6_asides 0 [(0, RR 132)] [] t Q) : Ex G mX6_asides [RR 132] t Q := Ex.of plX6 (Or.inl rfl) (Nat.le_of_ble_eq_true rfl) rfl k
set_option maxRecDepth 100000 in
theorem sgX6_asides_0 {G : GG} {Q : Int → Mem → Prop} {t : Mem}  (h : V G mX6_asides 2 [(0, RR 132), (1, II 0)] [] t Q) : V G mX6_asides 0 [(0, RR 132)] [] t Q := by
  refine V_iconst dX6_asides_0 rfl ?_
  refine V_istore_n (ls2 := [(0, RR 132), (1, II 0)]) dX6_asides_1 rfl (by decide) rfl ?_
  exact h
set_option maxRecDepth 100000 in
theorem sgX6_asides_2 {G : GG} {Q : Int → Mem → Prop} {t : Mem} {v1 : Int}  (h : In32 v1 ∧ (63 ≤ v1 → Q 0 t) ∧ (¬ 63 ≤ v1 → (0 ≤ v1 ∧ v1 < 63) ∧ ∀ u3 : Mem, u3 = wr t 136 v1.toNat (t 133 v1.toNat) → V G mX6_asides 2 [(0, RR 132), (1, II (v1 + 1))] [] u3 Q)) : V G mX6_asides 2 [(0, RR 132), (1, II v1)] [] t Q := by
  refine V_iload_n 1 rfl dX6_asides_2 rfl ?_
  refine V_bipush (by decide) dX6_asides_3 rfl ?_
  obtain ⟨q1, h⟩ := h
  refine V_icmp_ge q1 (iL rfl) dX6_asides_5 (g := 26) rfl rfl ⟨fun hc => ?_, fun hc => ?_⟩
  · have h := h.1 hc
    exact V_ret dX6_asides_26 rfl h
  · have h := h.2 hc
    refine V_aload_n 0 rfl dX6_asides_8 rfl ?_
    refine gX6_23 rfl kY132 rF132_6 dX6_asides_9 rfl ?_
    refine V_iload_n 1 rfl dX6_asides_12 rfl ?_
    refine V_aload_n 0 rfl dX6_asides_13 rfl ?_
    refine gX6_7 rfl kY132 rF132_0 dX6_asides_14 rfl ?_
    refine V_iload_n 1 rfl dX6_asides_17 rfl ?_
    obtain ⟨q2, h⟩ := h
    refine V_ialdn kY133 lI133 q2 dX6_asides_18 rfl ?_
    refine V_iastn kY136 lI136 q2 dX6_asides_19 rfl (fun u3 e4 => ?_)
    have h := h u3 e4
    refine V_iinc 1 rfl (ls2 := [(0, RR 132), (1, II (v1 + 1))]) dX6_asides_20 rfl (by decide) rfl ?_
    refine V_goto (g := 2) dX6_asides_23 rfl ?_
    exact h
theorem eX6_backs {G : GG} {Q : Int → Mem → Prop} {t : Mem} (k : V G mX6_backs 0 [(0, RR 132)] [] t Q) : Ex G mX6_backs [RR 132] t Q := Ex.of plX6 (Or.inl rfl) (Nat.le_of_ble_eq_true rfl) rfl k
set_option maxRecDepth 100000 in
theorem sgX6_backs_0 {G : GG} {Q : Int → Mem → Prop} {t : Mem}  (h : V G mX6_backs 2 [(0, RR 132), (1, II 0)] [] t Q) : V G mX6_backs 0 [(0, RR 132)] [] t Q := by
  refine V_iconst dX6_backs_0 rfl ?_
  refine V_istore_n (ls2 := [(0, RR 132), (1, II 0)]) dX6_backs_1 rfl (by decide) rfl ?_
  exact h
set_option maxRecDepth 100000 in
theorem sgX6_backs_2 {G : GG} {Q : Int → Mem → Prop} {t : Mem} {v1 : Int}  (h : In32 v1 ∧ (63 ≤ v1 → Q 0 t) ∧ (¬ 63 ≤ v1 → (0 ≤ v1 ∧ v1 < 63) ∧ ∀ u3 : Mem, u3 = wr t 133 v1.toNat (t 136 v1.toNat) → V G mX6_backs 2 [(0, RR 132), (1, II (v1 + 1))] [] u3 Q)) : V G mX6_backs 2 [(0, RR 132), (1, II v1)] [] t Q := by
  refine V_iload_n 1 rfl dX6_backs_2 rfl ?_
  refine V_bipush (by decide) dX6_backs_3 rfl ?_
  obtain ⟨q1, h⟩ := h
  refine V_icmp_ge q1 (iL rfl) dX6_backs_5 (g := 26) rfl rfl ⟨fun hc => ?_, fun hc => ?_⟩
  · have h := h.1 hc
    exact V_ret dX6_backs_26 rfl h
  · have h := h.2 hc
    refine V_aload_n 0 rfl dX6_backs_8 rfl ?_
    refine gX6_7 rfl kY132 rF132_0 dX6_backs_9 rfl ?_
    refine V_iload_n 1 rfl dX6_backs_12 rfl ?_
    refine V_aload_n 0 rfl dX6_backs_13 rfl ?_
    refine gX6_23 rfl kY132 rF132_6 dX6_backs_14 rfl ?_
    refine V_iload_n 1 rfl dX6_backs_17 rfl ?_
    obtain ⟨q2, h⟩ := h
    refine V_ialdn kY136 lI136 q2 dX6_backs_18 rfl ?_
    refine V_iastn kY133 lI133 q2 dX6_backs_19 rfl (fun u3 e4 => ?_)
    have h := h u3 e4
    refine V_iinc 1 rfl (ls2 := [(0, RR 132), (1, II (v1 + 1))]) dX6_backs_20 rfl (by decide) rfl ?_
    refine V_goto (g := 2) dX6_backs_23 rfl ?_
    exact h
theorem eX6_water {G : GG} {Q : Int → Mem → Prop} {t : Mem} {v1 : Int} (k : V G mX6_water 0 [(0, RR 132), (1, II v1)] [] t Q) : Ex G mX6_water [RR 132, II v1] t Q := Ex.of plX6 (Or.inr (Or.inl rfl)) (Nat.le_of_ble_eq_true rfl) rfl k
set_option maxRecDepth 100000 in
theorem sgX6_water_0 {G : GG} {Q : Int → Mem → Prop} {t : Mem} {v1 : Int}  (h : In32 v1 ∧ ∃ P2 : Int → Mem → Prop, Ex G mX6_in [JJ v1, JJ 0, JJ 240] t P2 ∧ ∀ (r4 : Int) (u5 : Mem), P2 r4 u5 → In32 r4 ∧ (¬ r4 = 0 → ∃ P8 : Int → Mem → Prop, Ex G mX6_asides [RR 132] u5 P8 ∧ ∀ u11 : Mem, P8 0 u11 → V G mX6_water 20 [(0, RR 132), (1, II v1), (2, II 0)] [] u11 Q) ∧ (r4 = 0 → Q (-1) u5)) : V G mX6_water 0 [(0, RR 132), (1, II v1)] [] t Q := by
  refine V_iload_n 1 rfl dX6_water_0 rfl ?_
  obtain ⟨q1, h⟩ := h
  refine V_i2l q1 dX6_water_1 rfl ?_
  refine V_lconst (z := 0) rfl dX6_water_2 rfl ?_
  refine V_ldc2 (x := 240) ctX6_140 rfl dX6_water_3 rfl ?_
  obtain ⟨P2, c3, h⟩ := h
  refine V_callSi (st := []) (as := [JJ v1, JJ 0, JJ 240]) okX6_in rfl mlX6_51 (by decide) rfl (Nat.le_of_ble_eq_true rfl) rfl dX6_water_6 rfl c3 (fun r4 u5 e6 => ?_)
  have h := h r4 u5 e6
  obtain ⟨q7, h⟩ := h
  refine V_if_ne q7 dX6_water_9 (g := 14) rfl rfl ⟨fun hc => ?_, fun hc => ?_⟩
  · have h := h.1 hc
    refine V_aload_n 0 rfl dX6_water_14 rfl ?_
    obtain ⟨P8, c9, h⟩ := h
    refine V_callVv (st := []) (as := []) okX6_asides rfl mlX6_142 (by decide) kY132 rfl (Nat.le_of_ble_eq_true rfl) rfl dX6_water_15 rfl c9 (fun u11 e12 => ?_)
    have h := h u11 e12
    refine V_iconst dX6_water_18 rfl ?_
    refine V_istore_n (ls2 := [(0, RR 132), (1, II v1), (2, II 0)]) dX6_water_19 rfl (by decide) rfl ?_
    exact h
  · have h := h.2 hc
    refine V_iconst dX6_water_12 rfl ?_
    exact V_iret dX6_water_13 (Or.inl rfl) h
set_option maxRecDepth 100000 in
theorem sgX6_water_20 {G : GG} {Q : Int → Mem → Prop} {t : Mem} {v1 v2 : Int}  (h : In32 v2 ∧ In32 v1 ∧ (v1 ≤ v2 → ∃ P3 : Int → Mem → Prop, Ex G mX6_backs [RR 132] t P3 ∧ ∀ u6 : Mem, P3 0 u6 → Q (t 133 0) u6) ∧ (¬ v1 ≤ v2 → ∃ P8 : Int → Mem → Prop, Ex G mX6_goes [RR 132, II 0, II 127] t P8 ∧ ∀ (r10 : Int) (u11 : Mem), P8 r10 u11 → V G mX6_water 20 [(0, RR 132), (1, II v1), (2, II (v2 + 1))] [] u11 Q)) : V G mX6_water 20 [(0, RR 132), (1, II v1), (2, II v2)] [] t Q := by
  refine V_iload_n 2 rfl dX6_water_20 rfl ?_
  refine V_iload_n 1 rfl dX6_water_21 rfl ?_
  obtain ⟨q1, h⟩ := h
  obtain ⟨q2, h⟩ := h
  refine V_icmp_ge q1 q2 dX6_water_22 (g := 39) rfl rfl ⟨fun hc => ?_, fun hc => ?_⟩
  · have h := h.1 hc
    refine V_aload_n 0 rfl dX6_water_39 rfl ?_
    refine gX6_7 rfl kY132 rF132_0 dX6_water_40 rfl ?_
    refine V_iconst dX6_water_43 rfl ?_
    refine V_ialdL 0 rfl kY133 lI133 rfl dX6_water_44 rfl ?_
    refine V_istore_n (ls2 := [(0, RR 132), (1, II v1), (2, II (t 133 0))]) dX6_water_45 rfl (by decide) rfl ?_
    refine V_aload_n 0 rfl dX6_water_46 rfl ?_
    obtain ⟨P3, c4, h⟩ := h
    refine V_callVv (st := []) (as := []) okX6_backs rfl mlX6_145 (by decide) kY132 rfl (Nat.le_of_ble_eq_true rfl) rfl dX6_water_47 rfl c4 (fun u6 e7 => ?_)
    have h := h u6 e7
    refine V_iload_n 2 rfl dX6_water_50 rfl ?_
    exact V_iret dX6_water_51 (Or.inl rfl) h
  · have h := h.2 hc
    refine V_aload_n 0 rfl dX6_water_25 rfl ?_
    refine V_iconst dX6_water_26 rfl ?_
    refine V_bipush (by decide) dX6_water_27 rfl ?_
    obtain ⟨P8, c9, h⟩ := h
    refine V_callVi (st := []) (as := [II 0, II 127]) okX6_goes rfl mlX6_124 (by decide) kY132 rfl (Nat.le_of_ble_eq_true rfl) rfl dX6_water_29 rfl c9 (fun r10 u11 e12 => ?_)
    have h := h r10 u11 e12
    refine V_pop rfl dX6_water_32 rfl ?_
    refine V_iinc 2 rfl (ls2 := [(0, RR 132), (1, II v1), (2, II (v2 + 1))]) dX6_water_33 rfl (by decide) rfl ?_
    refine V_goto (g := 20) dX6_water_36 rfl ?_
    exact h
theorem eX6_goesOn {G : GG} {Q : Int → Mem → Prop} {t : Mem} {v1 : Int} (k : V G mX6_goesOn 0 [(0, RR 132), (1, II v1)] [] t Q) : Ex G mX6_goesOn [RR 132, II v1] t Q := Ex.of plX6 (Or.inr (Or.inl rfl)) (Nat.le_of_ble_eq_true rfl) rfl k
set_option maxRecDepth 100000 in
theorem sgX6_goesOn_0 {G : GG} {Q : Int → Mem → Prop} {t : Mem} {v1 : Int}  (h : V G mX6_goesOn 5 [(0, RR 132), (1, II v1), (2, II (-4)), (3, II 0)] [] t Q) : V G mX6_goesOn 0 [(0, RR 132), (1, II v1)] [] t Q := by
  refine V_bipush (by decide) dX6_goesOn_0 rfl ?_
  refine V_istore_n (ls2 := [(0, RR 132), (1, II v1), (2, II (-4))]) dX6_goesOn_2 rfl (by decide) rfl ?_
  refine V_iconst dX6_goesOn_3 rfl ?_
  refine V_istore_n (ls2 := [(0, RR 132), (1, II v1), (2, II (-4)), (3, II 0)]) dX6_goesOn_4 rfl (by decide) rfl ?_
  exact h
set_option maxRecDepth 100000 in
theorem sgX6_goesOn_5 {G : GG} {Q : Int → Mem → Prop} {t : Mem} {v1 v2 v3 : Int}  (h : In32 v3 ∧ (7 ≤ v3 → V G mX6_goesOn 27 [(0, RR 132), (1, II v1), (2, II v2), (3, II 0)] [] t Q) ∧ (¬ 7 ≤ v3 → (0 ≤ v3 ∧ v3 < 7) ∧ ∀ u2 : Mem, u2 = wr t 137 v3.toNat (-4) → V G mX6_goesOn 5 [(0, RR 132), (1, II v1), (2, II v2), (3, II (v3 + 1))] [] u2 Q)) : V G mX6_goesOn 5 [(0, RR 132), (1, II v1), (2, II v2), (3, II v3)] [] t Q := by
  refine V_iload_n 3 rfl dX6_goesOn_5 rfl ?_
  refine V_bipush (by decide) dX6_goesOn_6 rfl ?_
  obtain ⟨q1, h⟩ := h
  refine V_icmp_ge q1 (iL rfl) dX6_goesOn_8 (g := 25) rfl rfl ⟨fun hc => ?_, fun hc => ?_⟩
  · have h := h.1 hc
    refine V_iconst dX6_goesOn_25 rfl ?_
    refine V_istore_n (ls2 := [(0, RR 132), (1, II v1), (2, II v2), (3, II 0)]) dX6_goesOn_26 rfl (by decide) rfl ?_
    exact h
  · have h := h.2 hc
    refine V_aload_n 0 rfl dX6_goesOn_11 rfl ?_
    refine gX6_26 rfl kY132 rF132_7 dX6_goesOn_12 rfl ?_
    refine V_iload_n 3 rfl dX6_goesOn_15 rfl ?_
    refine V_bipush (by decide) dX6_goesOn_16 rfl ?_
    obtain ⟨q4, h⟩ := h
    refine V_iastn kY137 lI137 q4 dX6_goesOn_18 rfl (fun u2 e3 => ?_)
    have h := h u2 e3
    refine V_iinc 3 rfl (ls2 := [(0, RR 132), (1, II v1), (2, II v2), (3, II (v3 + 1))]) dX6_goesOn_19 rfl (by decide) rfl ?_
    refine V_goto (g := 5) dX6_goesOn_22 rfl ?_
    exact h
set_option maxRecDepth 100000 in
theorem sgX6_goesOn_27 {G : GG} {Q : Int → Mem → Prop} {t : Mem} {v1 v2 v3 : Int}  (h : In32 v3 ∧ (241 ≤ v3 → ∃ P2 : Int → Mem → Prop, Ex G mX6_backs [RR 132] t P2 ∧ ∀ u5 : Mem, P2 0 u5 → Q v2 u5) ∧ (¬ 241 ≤ v3 → V G mX6_goesOn 37 [(0, RR 132), (1, II v1), (2, II v2), (3, II v3), (4, II 0)] [] t Q)) : V G mX6_goesOn 27 [(0, RR 132), (1, II v1), (2, II v2), (3, II v3)] [] t Q := by
  refine V_iload_n 3 rfl dX6_goesOn_27 rfl ?_
  refine V_sipush (by decide) dX6_goesOn_28 rfl ?_
  obtain ⟨q1, h⟩ := h
  refine V_icmp_ge q1 (iL rfl) dX6_goesOn_31 (g := 131) rfl rfl ⟨fun hc => ?_, fun hc => ?_⟩
  · have h := h.1 hc
    refine V_aload_n 0 rfl dX6_goesOn_131 rfl ?_
    obtain ⟨P2, c3, h⟩ := h
    refine V_callVv (st := []) (as := []) okX6_backs rfl mlX6_145 (by decide) kY132 rfl (Nat.le_of_ble_eq_true rfl) rfl dX6_goesOn_132 rfl c3 (fun u5 e6 => ?_)
    have h := h u5 e6
    refine V_iload_n 2 rfl dX6_goesOn_135 rfl ?_
    exact V_iret dX6_goesOn_136 (Or.inl rfl) h
  · have h := h.2 hc
    refine V_iconst dX6_goesOn_34 rfl ?_
    refine V_istore (ls2 := [(0, RR 132), (1, II v1), (2, II v2), (3, II v3), (4, II 0)]) dX6_goesOn_35 rfl (by decide) rfl ?_
    exact h
set_option maxRecDepth 100000 in
theorem sgX6_goesOn_37 {G : GG} {Q : Int → Mem → Prop} {t : Mem} {v1 v2 v3 v4 : Int}  (h : In32 v4 ∧ In32 (t 133 12) ∧ ((t 133 12) ≤ v4 → In32 v2 ∧ (¬ v2 = (-4) → ∃ P4 : Int → Mem → Prop, Ex G mX6_goes [RR 132, II 0, II 127] t P4 ∧ ∀ (r6 : Int) (u7 : Mem), P4 r6 u7 → V G mX6_goesOn 27 [(0, RR 132), (1, II v1), (2, II v2), (3, II (v3 + 1))] [] u7 Q) ∧ (v2 = (-4) → ∃ P9 : Int → Mem → Prop, Ex G mX6_sated [RR 132] t P9 ∧ ∀ (r11 : Int) (u12 : Mem), P9 r11 u12 → In32 (iAnd v1 (iXor r11 (-1))) ∧ ∀ w15 : Int, w15 = (if (iAnd v1 (iXor r11 (-1))) = 0 then v3 else v2) → ∃ P20 : Int → Mem → Prop, Ex G mX6_goes [RR 132, II 0, II 127] u12 P20 ∧ ∀ (r22 : Int) (u23 : Mem), P20 r22 u23 → V G mX6_goesOn 27 [(0, RR 132), (1, II v1), (2, II w15), (3, II (v3 + 1))] [] u23 Q)) ∧ (¬ (t 133 12) ≤ v4 → (0 ≤ v4 ∧ v4 < 7) ∧ In32 (t 137 v4.toNat) ∧ (¬ (t 137 v4.toNat) = (-4) → ∀ u27 : Mem, u27 = wr t 137 v4.toNat (t 137 v4.toNat) → V G mX6_goesOn 37 [(0, RR 132), (1, II v1), (2, II v2), (3, II v3), (4, II (v4 + 1))] [] u27 Q) ∧ ((t 137 v4.toNat) = (-4) → ∃ P29 : Int → Mem → Prop, Ex G mX6_isSated [RR 132, II v4] t P29 ∧ ∀ (r31 : Int) (u32 : Mem), P29 r31 u32 → In32 r31 ∧ ∀ w35 : Int, w35 = (if r31 = 0 then u32 137 v4.toNat else v3) → ∀ u40 : Mem, u40 = wr u32 137 v4.toNat w35 → V G mX6_goesOn 37 [(0, RR 132), (1, II v1), (2, II v2), (3, II v3), (4, II (v4 + 1))] [] u40 Q))) : V G mX6_goesOn 37 [(0, RR 132), (1, II v1), (2, II v2), (3, II v3), (4, II v4)] [] t Q := by
  refine V_iload 4 rfl dX6_goesOn_37 rfl ?_
  refine V_aload_n 0 rfl dX6_goesOn_39 rfl ?_
  refine gX6_7 rfl kY132 rF132_0 dX6_goesOn_40 rfl ?_
  refine V_bipush (by decide) dX6_goesOn_43 rfl ?_
  refine V_ialdL 12 rfl kY133 lI133 rfl dX6_goesOn_45 rfl ?_
  obtain ⟨q1, h⟩ := h
  obtain ⟨q2, h⟩ := h
  refine V_icmp_ge q1 q2 dX6_goesOn_46 (g := 94) rfl rfl ⟨fun hc => ?_, fun hc => ?_⟩
  · have h := h.1 hc
    refine V_iload_n 2 rfl dX6_goesOn_94 rfl ?_
    refine V_bipush (by decide) dX6_goesOn_95 rfl ?_
    obtain ⟨q3, h⟩ := h
    refine V_icmp_ne q3 (iL rfl) dX6_goesOn_97 (g := 115) rfl rfl ⟨fun hc => ?_, fun hc => ?_⟩
    · have h := h.1 hc
      refine V_iload_n 2 rfl dX6_goesOn_115 rfl ?_
      refine V_istore_n (ls2 := [(0, RR 132), (1, II v1), (2, II v2), (3, II v3), (4, II v4)]) dX6_goesOn_116 rfl (by decide) rfl ?_
      refine V_aload_n 0 rfl dX6_goesOn_117 rfl ?_
      refine V_iconst dX6_goesOn_118 rfl ?_
      refine V_bipush (by decide) dX6_goesOn_119 rfl ?_
      obtain ⟨P4, c5, h⟩ := h
      refine V_callVi (st := []) (as := [II 0, II 127]) okX6_goes rfl mlX6_124 (by decide) kY132 rfl (Nat.le_of_ble_eq_true rfl) rfl dX6_goesOn_121 rfl c5 (fun r6 u7 e8 => ?_)
      have h := h r6 u7 e8
      refine V_pop rfl dX6_goesOn_124 rfl ?_
      refine V_iinc 3 rfl (ls2 := [(0, RR 132), (1, II v1), (2, II v2), (3, II (v3 + 1)), (4, II v4)]) dX6_goesOn_125 rfl (by decide) rfl ?_
      refine V_goto (g := 27) dX6_goesOn_128 rfl ?_
      exact V_sub (by intro q hq; simp only [List.mem_cons, List.not_mem_nil, or_false] at hq ⊢; first | (rcases hq with rfl | rfl | rfl | rfl <;> simp)) h
    · have h := h.2 hc
      refine V_iload_n 1 rfl dX6_goesOn_100 rfl ?_
      refine V_aload_n 0 rfl dX6_goesOn_101 rfl ?_
      obtain ⟨P9, c10, h⟩ := h
      refine V_callVi (st := [II v1]) (as := []) okX6_sated rfl mlX6_134 (by decide) kY132 rfl (Nat.le_of_ble_eq_true rfl) rfl dX6_goesOn_102 rfl c10 (fun r11 u12 e13 => ?_)
      have h := h r11 u12 e13
      refine V_iconst dX6_goesOn_105 rfl ?_
      refine V_ixor dX6_goesOn_106 rfl ?_
      refine V_iand dX6_goesOn_107 rfl ?_
      obtain ⟨q14, h⟩ := h
      have hj19 : ∀ w15 : Int, w15 = (if (iAnd v1 (iXor r11 (-1))) = 0 then v3 else v2) → V G mX6_goesOn 116 [(0, RR 132), (1, II v1), (2, II v2), (3, II v3), (4, II v4)] [II w15] u12 Q := by
        intro w15 e16
        have h := h w15 e16
        refine V_istore_n (ls2 := [(0, RR 132), (1, II v1), (2, II w15), (3, II v3), (4, II v4)]) dX6_goesOn_116 rfl (by decide) rfl ?_
        refine V_aload_n 0 rfl dX6_goesOn_117 rfl ?_
        refine V_iconst dX6_goesOn_118 rfl ?_
        refine V_bipush (by decide) dX6_goesOn_119 rfl ?_
        obtain ⟨P20, c21, h⟩ := h
        refine V_callVi (st := []) (as := [II 0, II 127]) okX6_goes rfl mlX6_124 (by decide) kY132 rfl (Nat.le_of_ble_eq_true rfl) rfl dX6_goesOn_121 rfl c21 (fun r22 u23 e24 => ?_)
        have h := h r22 u23 e24
        refine V_pop rfl dX6_goesOn_124 rfl ?_
        refine V_iinc 3 rfl (ls2 := [(0, RR 132), (1, II v1), (2, II w15), (3, II (v3 + 1)), (4, II v4)]) dX6_goesOn_125 rfl (by decide) rfl ?_
        refine V_goto (g := 27) dX6_goesOn_128 rfl ?_
        exact V_sub (by intro q hq; simp only [List.mem_cons, List.not_mem_nil, or_false] at hq ⊢; first | (rcases hq with rfl | rfl | rfl | rfl <;> simp)) h
      have hj19 := hj19 _ rfl
      refine V_if_ne q14 dX6_goesOn_108 (g := 115) rfl rfl ⟨fun hc => ?_, fun hc => ?_⟩
      · skip
        refine V_iload_n 2 rfl dX6_goesOn_115 rfl ?_
        rw [if_neg hc] at hj19
        exact hj19
      · skip
        refine V_iload_n 3 rfl dX6_goesOn_111 rfl ?_
        refine V_goto (g := 116) dX6_goesOn_112 rfl ?_
        rw [if_pos hc] at hj19
        exact hj19
  · have h := h.2 hc
    refine V_aload_n 0 rfl dX6_goesOn_49 rfl ?_
    refine gX6_26 rfl kY132 rF132_7 dX6_goesOn_50 rfl ?_
    refine V_iload 4 rfl dX6_goesOn_53 rfl ?_
    refine V_aload_n 0 rfl dX6_goesOn_55 rfl ?_
    refine gX6_26 rfl kY132 rF132_7 dX6_goesOn_56 rfl ?_
    refine V_iload 4 rfl dX6_goesOn_59 rfl ?_
    obtain ⟨q25, h⟩ := h
    refine V_ialdn kY137 lI137 q25 dX6_goesOn_61 rfl ?_
    refine V_bipush (by decide) dX6_goesOn_62 rfl ?_
    obtain ⟨q26, h⟩ := h
    refine V_icmp_ne q26 (iL rfl) dX6_goesOn_64 (g := 80) rfl rfl ⟨fun hc => ?_, fun hc => ?_⟩
    · have h := h.1 hc
      refine V_aload_n 0 rfl dX6_goesOn_80 rfl ?_
      refine gX6_26 rfl kY132 rF132_7 dX6_goesOn_81 rfl ?_
      refine V_iload 4 rfl dX6_goesOn_84 rfl ?_
      refine V_ialdn kY137 lI137 q25 dX6_goesOn_86 rfl ?_
      refine V_iastn kY137 lI137 q25 dX6_goesOn_87 rfl (fun u27 e28 => ?_)
      have h := h u27 e28
      refine V_iinc 4 rfl (ls2 := [(0, RR 132), (1, II v1), (2, II v2), (3, II v3), (4, II (v4 + 1))]) dX6_goesOn_88 rfl (by decide) rfl ?_
      refine V_goto (g := 37) dX6_goesOn_91 rfl ?_
      exact h
    · have h := h.2 hc
      refine V_aload_n 0 rfl dX6_goesOn_67 rfl ?_
      refine V_iload 4 rfl dX6_goesOn_68 rfl ?_
      obtain ⟨P29, c30, h⟩ := h
      refine V_callVi (st := [II v4, RR 137]) (as := [II v4]) okX6_isSated rfl mlX6_67 (by decide) kY132 rfl (Nat.le_of_ble_eq_true rfl) rfl dX6_goesOn_70 rfl c30 (fun r31 u32 e33 => ?_)
      have h := h r31 u32 e33
      obtain ⟨q34, h⟩ := h
      have hj39 : ∀ w35 : Int, w35 = (if r31 = 0 then u32 137 v4.toNat else v3) → V G mX6_goesOn 87 [(0, RR 132), (1, II v1), (2, II v2), (3, II v3), (4, II v4)] [II w35, II v4, RR 137] u32 Q := by
        intro w35 e36
        have h := h w35 e36
        refine V_iastn kY137 lI137 q25 dX6_goesOn_87 rfl (fun u40 e41 => ?_)
        have h := h u40 e41
        refine V_iinc 4 rfl (ls2 := [(0, RR 132), (1, II v1), (2, II v2), (3, II v3), (4, II (v4 + 1))]) dX6_goesOn_88 rfl (by decide) rfl ?_
        refine V_goto (g := 37) dX6_goesOn_91 rfl ?_
        exact h
      have hj39 := hj39 _ rfl
      refine V_if_eq q34 dX6_goesOn_73 (g := 80) rfl rfl ⟨fun hc => ?_, fun hc => ?_⟩
      · skip
        refine V_aload_n 0 rfl dX6_goesOn_80 rfl ?_
        refine gX6_26 rfl kY132 rF132_7 dX6_goesOn_81 rfl ?_
        refine V_iload 4 rfl dX6_goesOn_84 rfl ?_
        refine V_ialdn kY137 lI137 q25 dX6_goesOn_86 rfl ?_
        rw [if_pos hc] at hj39
        exact hj39
      · skip
        refine V_iload_n 3 rfl dX6_goesOn_76 rfl ?_
        refine V_goto (g := 87) dX6_goesOn_77 rfl ?_
        rw [if_neg hc] at hj39
        exact hj39
theorem eX6_others {G : GG} {Q : Int → Mem → Prop} {t : Mem} (k : V G mX6_others 0 [(0, RR 132)] [] t Q) : Ex G mX6_others [RR 132] t Q := Ex.of plX6 (Or.inr (Or.inl rfl)) (Nat.le_of_ble_eq_true rfl) rfl k
set_option maxRecDepth 100000 in
theorem sgX6_others_0 {G : GG} {Q : Int → Mem → Prop} {t : Mem}  (h : In32 (t 133 10) ∧ (¬ (t 133 10) = (-4) → Q (iAnd ((iShl 1 (t 133 12)) - 1) (iXor (iShl 1 (t 133 10)) (-1))) t) ∧ ((t 133 10) = (-4) → Q ((iShl 1 (t 133 12)) - 1) t)) : V G mX6_others 0 [(0, RR 132)] [] t Q := by
  refine V_iconst dX6_others_0 rfl ?_
  refine V_aload_n 0 rfl dX6_others_1 rfl ?_
  refine gX6_7 rfl kY132 rF132_0 dX6_others_2 rfl ?_
  refine V_bipush (by decide) dX6_others_5 rfl ?_
  refine V_ialdL 12 rfl kY133 lI133 rfl dX6_others_7 rfl ?_
  refine V_ishl dX6_others_8 rfl ?_
  refine V_iconst dX6_others_9 rfl ?_
  refine V_isub dX6_others_10 rfl ?_
  refine V_istore_n (ls2 := [(0, RR 132), (1, II ((iShl 1 (t 133 12)) - 1))]) dX6_others_11 rfl (by decide) rfl ?_
  refine V_aload_n 0 rfl dX6_others_12 rfl ?_
  refine gX6_7 rfl kY132 rF132_0 dX6_others_13 rfl ?_
  refine V_bipush (by decide) dX6_others_16 rfl ?_
  refine V_ialdL 10 rfl kY133 lI133 rfl dX6_others_18 rfl ?_
  refine V_bipush (by decide) dX6_others_19 rfl ?_
  obtain ⟨q1, h⟩ := h
  refine V_icmp_ne q1 (iL rfl) dX6_others_21 (g := 28) rfl rfl ⟨fun hc => ?_, fun hc => ?_⟩
  · have h := h.1 hc
    refine V_iload_n 1 rfl dX6_others_28 rfl ?_
    refine V_iconst dX6_others_29 rfl ?_
    refine V_aload_n 0 rfl dX6_others_30 rfl ?_
    refine gX6_7 rfl kY132 rF132_0 dX6_others_31 rfl ?_
    refine V_bipush (by decide) dX6_others_34 rfl ?_
    refine V_ialdL 10 rfl kY133 lI133 rfl dX6_others_36 rfl ?_
    refine V_ishl dX6_others_37 rfl ?_
    refine V_iconst dX6_others_38 rfl ?_
    refine V_ixor dX6_others_39 rfl ?_
    refine V_iand dX6_others_40 rfl ?_
    exact V_iret dX6_others_41 (Or.inl rfl) h
  · have h := h.2 hc
    refine V_iload_n 1 rfl dX6_others_24 rfl ?_
    refine V_goto (g := 41) dX6_others_25 rfl ?_
    exact V_iret dX6_others_41 (Or.inl rfl) h
