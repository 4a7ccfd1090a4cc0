/-! a long made an int wraps around -/
def iI (x : Int) : Int := (Int32.ofInt x).toInt
theorem iI_in (x : Int) : In32 (iI x) := x32 _
theorem iI_id {x : Int} (h : In32 x) : iI x = x := oI h
theorem V_l2w {G : GG} {M : MI} {pc pc2 : Nat} {ls : List (Nat × VV)} {st : List VV} {t : Mem} {Q : Int → Mem → Prop} {x : Int} (hd : decode M.2.1 pc = .ok (.l2i, 1)) (hp : pc + 1 = pc2) (k : V G M pc2 ls (II (iI x) :: st) t Q) : V G M pc ls (JJ x :: st) t Q := by
  subst hp
  intro p e R s m args below meth c cl sl Z hc H locs la hR hS hl
  exact lv_l2i hc.1 hc.2.1 hd ((oL2I x).trans (Int32.ofInt_toInt _).symm) (k p e R s m args below meth c cl sl Z hc H locs la hR hS hl)
set_option maxRecDepth 100000 in
theorem sgX3_putW_0 {G : GG} {Q : Int → Mem → Prop} {t : Mem} {a0 : Nat} {v1 v2 : Int} (ha0 : IsSheet a0) (h : In32 (t a0 0) ∧ (t a0 0 = 0 → In32 (iB (iI v2)) ∧ (0 ≤ v1 ∧ v1 < 24) ∧ ∀ u4 : Mem, u4 = wr t (a0 + 1) v1.toNat (iB (iI v2)) → Q 0 u4) ∧ (t a0 0 = 1 → In32 (iS (iI v2)) ∧ (0 ≤ v1 ∧ v1 < 24) ∧ ∀ u8 : Mem, u8 = wr t (a0 + 1) v1.toNat (iS (iI v2)) → Q 0 u8) ∧ (t a0 0 = 2 → (0 ≤ v1 ∧ v1 < 24) ∧ ∀ u11 : Mem, u11 = wr t (a0 + 1) v1.toNat (iI v2) → Q 0 u11) ∧ (((t a0 0) < 0 ∨ 2 < (t a0 0)) → (0 ≤ v1 ∧ v1 < 24) ∧ ∀ u14 : Mem, u14 = wr t (a0 + 1) v1.toNat v2 → Q 0 u14)) : V G mX3_put 0 [(0, RR a0), (1, II v1), (2, JJ v2)] [] t Q := by
  refine V_aload_n 0 rfl dX3_put_0 rfl ?_
  refine gX3_9 rfl ha0.k dX3_put_1 rfl ?_
  obtain ⟨q1, h⟩ := h
  have hs2 : t a0 0 = 0 ∨ t a0 0 = 1 ∨ t a0 0 = 2 ∨ ((t a0 0) < 0 ∨ 2 < (t a0 0)) := by omega
  rcases hs2 with hc | hc | hc | hc
  · have h := h.1 hc
    refine V_tsIn (i := 0) (g := 32) dX3_put_4 hc (by decide) (iL rfl) rfl rfl ?_
    refine V_aload_n 0 rfl dX3_put_32 rfl ?_
    refine gX3_15 rfl ha0.k ha0.r2 dX3_put_33 rfl ?_
    refine V_iload_n 1 rfl dX3_put_36 rfl ?_
    refine V_lload_n 2 rfl dX3_put_37 rfl ?_
    refine V_l2w dX3_put_38 rfl ?_
    refine V_i2b dX3_put_39 rfl ?_
    obtain ⟨q3, h⟩ := h
    refine V_i2l q3 dX3_put_40 rfl ?_
    obtain ⟨q6, h⟩ := h
    refine V_lastn ha0.k1 ha0.i1 q6 dX3_put_41 rfl (fun u4 e5 => ?_)
    have h := h u4 e5
    refine V_goto (g := 77) dX3_put_42 rfl ?_
    exact V_ret dX3_put_77 rfl h
  · have h := h.2.1 hc
    refine V_tsIn (i := 1) (g := 45) dX3_put_4 hc (by decide) (iL rfl) rfl rfl ?_
    refine V_aload_n 0 rfl dX3_put_45 rfl ?_
    refine gX3_15 rfl ha0.k ha0.r2 dX3_put_46 rfl ?_
    refine V_iload_n 1 rfl dX3_put_49 rfl ?_
    refine V_lload_n 2 rfl dX3_put_50 rfl ?_
    refine V_l2w dX3_put_51 rfl ?_
    refine V_i2s dX3_put_52 rfl ?_
    obtain ⟨q7, h⟩ := h
    refine V_i2l q7 dX3_put_53 rfl ?_
    obtain ⟨q10, h⟩ := h
    refine V_lastn ha0.k1 ha0.i1 q10 dX3_put_54 rfl (fun u8 e9 => ?_)
    have h := h u8 e9
    refine V_goto (g := 77) dX3_put_55 rfl ?_
    exact V_ret dX3_put_77 rfl h
  · have h := h.2.2.1 hc
    refine V_tsIn (i := 2) (g := 58) dX3_put_4 hc (by decide) (iL rfl) rfl rfl ?_
    refine V_aload_n 0 rfl dX3_put_58 rfl ?_
    refine gX3_15 rfl ha0.k ha0.r2 dX3_put_59 rfl ?_
    refine V_iload_n 1 rfl dX3_put_62 rfl ?_
    refine V_lload_n 2 rfl dX3_put_63 rfl ?_
    refine V_l2w dX3_put_64 rfl ?_
    refine V_i2l (iI_in _) dX3_put_65 rfl ?_
    obtain ⟨q13, h⟩ := h
    refine V_lastn ha0.k1 ha0.i1 q13 dX3_put_66 rfl (fun u11 e12 => ?_)
    have h := h u11 e12
    refine V_goto (g := 77) dX3_put_67 rfl ?_
    exact V_ret dX3_put_77 rfl h
  · have h := h.2.2.2 hc
    refine V_tsOut (g := 70) dX3_put_4 q1 hc rfl ?_
    refine V_aload_n 0 rfl dX3_put_70 rfl ?_
    refine gX3_15 rfl ha0.k ha0.r2 dX3_put_71 rfl ?_
    refine V_iload_n 1 rfl dX3_put_74 rfl ?_
    refine V_lload_n 2 rfl dX3_put_75 rfl ?_
    obtain ⟨q16, h⟩ := h
    refine V_lastn ha0.k1 ha0.i1 q16 dX3_put_76 rfl (fun u14 e15 => ?_)
    have h := h u14 e15
    exact V_ret dX3_put_77 rfl h
set_option maxRecDepth 100000 in
theorem sgX6_itemW_0 {G : GG} {Q : Int → Mem → Prop} {t : Mem} {v1 v2 v3 v4 : Int}  (h : ∃ P1 : Int → Mem → Prop, Ex G mX6_isSheet [II v1] t P1 ∧ ∀ (r3 : Int) (u4 : Mem), P1 r3 u4 → In32 r3 ∧ (r3 = 0 → Q (-1) u4) ∧ (¬ r3 = 0 → ∃ P7 : Int → Mem → Prop, Ex G mX6_isLane [II v2] u4 P7 ∧ ∀ (r9 : Int) (u10 : Mem), P7 r9 u10 → In32 r9 ∧ (¬ r9 = 0 → ∃ P13 : Int → Mem → Prop, Ex G mX6_why [RR 132, II v1, II v2, II v3, II 1] u10 P13 ∧ ∀ (r15 : Int) (u16 : Mem), P13 r15 u16 → In32 r15 ∧ (0 ≤ r15 → In32 v2 ∧ (¬ v2 = 0 → (¬ v2 = 1 → ∀ w20 : Int, w20 = (if v2 = 2 then iI v4 else v4) → (0 ≤ (24 * v1) + v3 ∧ (24 * v1) + v3 < 96) ∧ ∀ u25 : Mem, u25 = wr u16 143 ((24 * v1) + v3).toNat w20 → Q 1 u25) ∧ (v2 = 1 → In32 (iS (iI v4)) ∧ (0 ≤ (24 * v1) + v3 ∧ (24 * v1) + v3 < 96) ∧ ∀ u29 : Mem, u29 = wr u16 143 ((24 * v1) + v3).toNat (iS (iI v4)) → Q 1 u29)) ∧ (v2 = 0 → In32 (iB (iI v4)) ∧ (0 ≤ (24 * v1) + v3 ∧ (24 * v1) + v3 < 96) ∧ ∀ u33 : Mem, u33 = wr u16 143 ((24 * v1) + v3).toNat (iB (iI v4)) → Q 1 u33)) ∧ (¬ 0 ≤ r15 → Q r15 u16)) ∧ (r9 = 0 → Q (-1) u10))) : V G mX6_item 0 [(0, RR 132), (1, II v1), (2, II v2), (3, II v3), (4, JJ v4)] [] t Q := by
  refine V_iload_n 1 rfl dX6_item_0 rfl ?_
  obtain ⟨P1, c2, h⟩ := h
  refine V_callSi (st := []) (as := [II v1]) okX6_isSheet rfl mlX6_210 (by decide) rfl (Nat.le_of_ble_eq_true rfl) rfl dX6_item_1 rfl c2 (fun r3 u4 e5 => ?_)
  have h := h r3 u4 e5
  obtain ⟨q6, h⟩ := h
  refine V_if_eq q6 dX6_item_4 (g := 14) rfl rfl ⟨fun hc => ?_, fun hc => ?_⟩
  · have h := h.1 hc
    refine V_iconst dX6_item_14 rfl ?_
    exact V_iret dX6_item_15 (Or.inl rfl) h
  · have h := h.2 hc
    refine V_iload_n 2 rfl dX6_item_7 rfl ?_
    obtain ⟨P7, c8, h⟩ := h
    refine V_callSi (st := []) (as := [II v2]) okX6_isLane rfl mlX6_213 (by decide) rfl (Nat.le_of_ble_eq_true rfl) rfl dX6_item_8 rfl c8 (fun r9 u10 e11 => ?_)
    have h := h r9 u10 e11
    obtain ⟨q12, h⟩ := h
    refine V_if_ne q12 dX6_item_11 (g := 16) rfl rfl ⟨fun hc => ?_, fun hc => ?_⟩
    · have h := h.1 hc
      refine V_aload_n 0 rfl dX6_item_16 rfl ?_
      refine V_iload_n 1 rfl dX6_item_17 rfl ?_
      refine V_iload_n 2 rfl dX6_item_18 rfl ?_
      refine V_iload_n 3 rfl dX6_item_19 rfl ?_
      refine V_iconst dX6_item_20 rfl ?_
      obtain ⟨P13, c14, h⟩ := h
      refine V_callVi (st := []) (as := [II v1, II v2, II v3, II 1]) okX6_why rfl mlX6_216 (by decide) kY132 rfl (Nat.le_of_ble_eq_true rfl) rfl dX6_item_21 rfl c14 (fun r15 u16 e17 => ?_)
      have h := h r15 u16 e17
      refine V_istore (ls2 := [(0, RR 132), (1, II v1), (2, II v2), (3, II v3), (4, JJ v4), (6, II r15)]) dX6_item_24 rfl (by decide) rfl ?_
      refine V_iload 5 rfl dX6_item_26 rfl ?_
      obtain ⟨q18, h⟩ := h
      refine V_if_ge q18 dX6_item_28 (g := 34) rfl rfl ⟨fun hc => ?_, fun hc => ?_⟩
      · have h := h.1 hc
        refine V_aload_n 0 rfl dX6_item_34 rfl ?_
        refine gX6_44 rfl kY132 rF132_18 dX6_item_35 rfl ?_
        refine V_bipush (by decide) dX6_item_38 rfl ?_
        refine V_iload_n 1 rfl dX6_item_40 rfl ?_
        refine V_imul dX6_item_41 rfl ?_
        refine V_iload_n 3 rfl dX6_item_42 rfl ?_
        refine V_iadd dX6_item_43 rfl ?_
        refine V_iload_n 2 rfl dX6_item_44 rfl ?_
        obtain ⟨q19, h⟩ := h
        refine V_if_ne q19 dX6_item_45 (g := 56) rfl rfl ⟨fun hc => ?_, fun hc => ?_⟩
        · have h := h.1 hc
          refine V_iload_n 2 rfl dX6_item_56 rfl ?_
          refine V_iconst dX6_item_57 rfl ?_
          refine V_icmp_ne q19 (iL rfl) dX6_item_58 (g := 69) rfl rfl ⟨fun hc => ?_, fun hc => ?_⟩
          · have h := h.1 hc
            refine V_iload_n 2 rfl dX6_item_69 rfl ?_
            refine V_iconst dX6_item_70 rfl ?_
            have hj24 : ∀ w20 : Int, w20 = (if v2 = 2 then iI v4 else v4) → V G mX6_item 83 [(0, RR 132), (1, II v1), (2, II v2), (3, II v3), (4, JJ v4), (6, II r15)] [JJ w20, II ((24 * v1) + v3), RR 143] u16 Q := by
              intro w20 e21
              have h := h w20 e21
              obtain ⟨q27, h⟩ := h
              refine V_lastn kY143 lI143 q27 dX6_item_83 rfl (fun u25 e26 => ?_)
              have h := h u25 e26
              refine V_iconst dX6_item_84 rfl ?_
              exact V_iret dX6_item_85 (Or.inl rfl) h
            have hj24 := hj24 _ rfl
            refine V_icmp_ne q19 (iL rfl) dX6_item_71 (g := 81) rfl rfl ⟨fun hc => ?_, fun hc => ?_⟩
            · skip
              refine V_lload 4 rfl dX6_item_81 rfl ?_
              rw [if_neg hc] at hj24
              exact hj24
            · skip
              refine V_lload 4 rfl dX6_item_74 rfl ?_
              refine V_l2w dX6_item_76 rfl ?_
              refine V_i2l (iI_in _) dX6_item_77 rfl ?_
              refine V_goto (g := 83) dX6_item_78 rfl ?_
              rw [if_pos hc] at hj24
              exact hj24
          · have h := h.2 hc
            refine V_lload 4 rfl dX6_item_61 rfl ?_
            refine V_l2w dX6_item_63 rfl ?_
            refine V_i2s dX6_item_64 rfl ?_
            obtain ⟨q28, h⟩ := h
            refine V_i2l q28 dX6_item_65 rfl ?_
            refine V_goto (g := 83) dX6_item_66 rfl ?_
            obtain ⟨q31, h⟩ := h
            refine V_lastn kY143 lI143 q31 dX6_item_83 rfl (fun u29 e30 => ?_)
            have h := h u29 e30
            refine V_iconst dX6_item_84 rfl ?_
            exact V_iret dX6_item_85 (Or.inl rfl) h
        · have h := h.2 hc
          refine V_lload 4 rfl dX6_item_48 rfl ?_
          refine V_l2w dX6_item_50 rfl ?_
          refine V_i2b dX6_item_51 rfl ?_
          obtain ⟨q32, h⟩ := h
          refine V_i2l q32 dX6_item_52 rfl ?_
          refine V_goto (g := 83) dX6_item_53 rfl ?_
          obtain ⟨q35, h⟩ := h
          refine V_lastn kY143 lI143 q35 dX6_item_83 rfl (fun u33 e34 => ?_)
          have h := h u33 e34
          refine V_iconst dX6_item_84 rfl ?_
          exact V_iret dX6_item_85 (Or.inl rfl) h
      · have h := h.2 hc
        refine V_iload 5 rfl dX6_item_31 rfl ?_
        exact V_iret dX6_item_33 (Or.inl rfl) h
    · have h := h.2 hc
      refine V_iconst dX6_item_14 rfl ?_
      exact V_iret dX6_item_15 (Or.inl rfl) h
