set_option maxRecDepth 100000 in
theorem sgL_law_18 {G : GG} {Q : Int → Mem → Prop} {t : Mem} {v3 : Int}  (h : In32 v3 ∧ In32 ((gN G 4 : Int) - 6) ∧ (((gN G 4 : Int) - 6) < v3 → Q 1 t) ∧ (¬ ((gN G 4 : Int) - 6) < v3 → (0 ≤ v3 ∧ v3 < (gN G 4 : Int)) ∧ In32 (iAnd ((gX G v3.toNat).toInt) 31) ∧ (iAnd ((gX G v3.toNat).toInt) 31 = 0 → V G mL_law 172 [(0, RR 900), (1, RR 0), (2, RR 132), (3, II v3)] [] t Q) ∧ (iAnd ((gX G v3.toNat).toInt) 31 = 1 → V G mL_law 215 [(0, RR 900), (1, RR 0), (2, RR 132), (3, II v3)] [] t Q) ∧ (iAnd ((gX G v3.toNat).toInt) 31 = 2 → V G mL_law 248 [(0, RR 900), (1, RR 0), (2, RR 132), (3, II v3)] [] t Q) ∧ (iAnd ((gX G v3.toNat).toInt) 31 = 3 → V G mL_law 281 [(0, RR 900), (1, RR 0), (2, RR 132), (3, II v3)] [] t Q) ∧ (iAnd ((gX G v3.toNat).toInt) 31 = 4 → V G mL_law 304 [(0, RR 900), (1, RR 0), (2, RR 132), (3, II v3)] [] t Q) ∧ (iAnd ((gX G v3.toNat).toInt) 31 = 5 → V G mL_law 327 [(0, RR 900), (1, RR 0), (2, RR 132), (3, II v3)] [] t Q) ∧ (iAnd ((gX G v3.toNat).toInt) 31 = 6 → V G mL_law 350 [(0, RR 900), (1, RR 0), (2, RR 132), (3, II v3)] [] t Q) ∧ (iAnd ((gX G v3.toNat).toInt) 31 = 7 → V G mL_law 363 [(0, RR 900), (1, RR 0), (2, RR 132), (3, II v3)] [] t Q) ∧ (iAnd ((gX G v3.toNat).toInt) 31 = 8 → V G mL_law 386 [(0, RR 900), (1, RR 0), (2, RR 132), (3, II v3)] [] t Q) ∧ (iAnd ((gX G v3.toNat).toInt) 31 = 9 → V G mL_law 409 [(0, RR 900), (1, RR 0), (2, RR 132), (3, II v3)] [] t Q) ∧ (iAnd ((gX G v3.toNat).toInt) 31 = 10 → V G mL_law 432 [(0, RR 900), (1, RR 0), (2, RR 132), (3, II v3)] [] t Q) ∧ (iAnd ((gX G v3.toNat).toInt) 31 = 11 → V G mL_law 445 [(0, RR 900), (1, RR 0), (2, RR 132), (3, II v3)] [] t Q) ∧ (iAnd ((gX G v3.toNat).toInt) 31 = 12 → V G mL_law 468 [(0, RR 900), (1, RR 0), (2, RR 132), (3, II v3)] [] t Q) ∧ (iAnd ((gX G v3.toNat).toInt) 31 = 13 → V G mL_law 491 [(0, RR 900), (1, RR 0), (2, RR 132), (3, II v3)] [] t Q) ∧ (iAnd ((gX G v3.toNat).toInt) 31 = 14 → V G mL_law 514 [(0, RR 900), (1, RR 0), (2, RR 132), (3, II v3)] [] t Q) ∧ (iAnd ((gX G v3.toNat).toInt) 31 = 15 → V G mL_law 527 [(0, RR 900), (1, RR 0), (2, RR 132), (3, II v3)] [] t Q) ∧ (iAnd ((gX G v3.toNat).toInt) 31 = 16 → V G mL_law 550 [(0, RR 900), (1, RR 0), (2, RR 132), (3, II v3)] [] t Q) ∧ (iAnd ((gX G v3.toNat).toInt) 31 = 17 → V G mL_law 573 [(0, RR 900), (1, RR 0), (2, RR 132), (3, II v3)] [] t Q) ∧ (iAnd ((gX G v3.toNat).toInt) 31 = 18 → V G mL_law 606 [(0, RR 900), (1, RR 0), (2, RR 132), (3, II v3)] [] t Q) ∧ (iAnd ((gX G v3.toNat).toInt) 31 = 19 → V G mL_law 629 [(0, RR 900), (1, RR 0), (2, RR 132), (3, II v3)] [] t Q) ∧ (iAnd ((gX G v3.toNat).toInt) 31 = 20 → V G mL_law 652 [(0, RR 900), (1, RR 0), (2, RR 132), (3, II v3)] [] t Q) ∧ (iAnd ((gX G v3.toNat).toInt) 31 = 21 → V G mL_law 685 [(0, RR 900), (1, RR 0), (2, RR 132), (3, II v3)] [] t Q) ∧ (iAnd ((gX G v3.toNat).toInt) 31 = 22 → V G mL_law 718 [(0, RR 900), (1, RR 0), (2, RR 132), (3, II v3)] [] t Q) ∧ (iAnd ((gX G v3.toNat).toInt) 31 = 23 → V G mL_law 741 [(0, RR 900), (1, RR 0), (2, RR 132), (3, II v3)] [] t Q) ∧ (iAnd ((gX G v3.toNat).toInt) 31 = 24 → V G mL_law 754 [(0, RR 900), (1, RR 0), (2, RR 132), (3, II v3)] [] t Q) ∧ (iAnd ((gX G v3.toNat).toInt) 31 = 25 → V G mL_law 767 [(0, RR 900), (1, RR 0), (2, RR 132), (3, II v3)] [] t Q) ∧ (iAnd ((gX G v3.toNat).toInt) 31 = 26 → V G mL_law 820 [(0, RR 900), (1, RR 0), (2, RR 132), (3, II v3)] [] t Q) ∧ (iAnd ((gX G v3.toNat).toInt) 31 = 27 → V G mL_law 873 [(0, RR 900), (1, RR 0), (2, RR 132), (3, II v3)] [] t Q) ∧ (iAnd ((gX G v3.toNat).toInt) 31 = 28 → V G mL_law 916 [(0, RR 900), (1, RR 0), (2, RR 132), (3, II v3)] [] t Q) ∧ (iAnd ((gX G v3.toNat).toInt) 31 = 29 → V G mL_law 939 [(0, RR 900), (1, RR 0), (2, RR 132), (3, II v3)] [] t Q) ∧ (iAnd ((gX G v3.toNat).toInt) 31 = 30 → V G mL_law 1022 [(0, RR 900), (1, RR 0), (2, RR 132), (3, II v3)] [] t Q) ∧ (((iAnd ((gX G v3.toNat).toInt) 31) < 0 ∨ 30 < (iAnd ((gX G v3.toNat).toInt) 31)) → V G mL_law 18 [(0, RR 900), (1, RR 0), (2, RR 132), (3, II (v3 + 6))] [] t Q))) : V G mL_law 18 [(0, RR 900), (1, RR 0), (2, RR 132), (3, II v3)] [] t Q := by
  refine V_iload_n 3 rfl dL_law_18 rfl ?_
  refine V_aload_n 0 rfl dL_law_19 rfl ?_
  refine V_slen dL_law_20 rfl ?_
  refine V_bipush (by decide) dL_law_21 rfl ?_
  refine V_isub dL_law_23 rfl ?_
  obtain ⟨q1, h⟩ := h
  obtain ⟨q2, h⟩ := h
  refine V_icmp_gt q1 q2 dL_law_24 (g := 1091) rfl rfl ⟨fun hc => ?_, fun hc => ?_⟩
  · have h := h.1 hc
    refine V_iconst dL_law_1091 rfl ?_
    exact V_iret dL_law_1092 (Or.inr ⟨rfl, by decide⟩) h
  · have h := h.2 hc
    refine V_aload_n 0 rfl dL_law_27 rfl ?_
    refine V_iload_n 3 rfl dL_law_28 rfl ?_
    obtain ⟨q3, h⟩ := h
    refine V_sld q3 dL_law_29 rfl ?_
    refine V_bipush (by decide) dL_law_30 rfl ?_
    refine V_iand dL_law_32 rfl ?_
    obtain ⟨q4, h⟩ := h
    have hs5 : iAnd ((gX G v3.toNat).toInt) 31 = 0 ∨ iAnd ((gX G v3.toNat).toInt) 31 = 1 ∨ iAnd ((gX G v3.toNat).toInt) 31 = 2 ∨ iAnd ((gX G v3.toNat).toInt) 31 = 3 ∨ iAnd ((gX G v3.toNat).toInt) 31 = 4 ∨ iAnd ((gX G v3.toNat).toInt) 31 = 5 ∨ iAnd ((gX G v3.toNat).toInt) 31 = 6 ∨ iAnd ((gX G v3.toNat).toInt) 31 = 7 ∨ iAnd ((gX G v3.toNat).toInt) 31 = 8 ∨ iAnd ((gX G v3.toNat).toInt) 31 = 9 ∨ iAnd ((gX G v3.toNat).toInt) 31 = 10 ∨ iAnd ((gX G v3.toNat).toInt) 31 = 11 ∨ iAnd ((gX G v3.toNat).toInt) 31 = 12 ∨ iAnd ((gX G v3.toNat).toInt) 31 = 13 ∨ iAnd ((gX G v3.toNat).toInt) 31 = 14 ∨ iAnd ((gX G v3.toNat).toInt) 31 = 15 ∨ iAnd ((gX G v3.toNat).toInt) 31 = 16 ∨ iAnd ((gX G v3.toNat).toInt) 31 = 17 ∨ iAnd ((gX G v3.toNat).toInt) 31 = 18 ∨ iAnd ((gX G v3.toNat).toInt) 31 = 19 ∨ iAnd ((gX G v3.toNat).toInt) 31 = 20 ∨ iAnd ((gX G v3.toNat).toInt) 31 = 21 ∨ iAnd ((gX G v3.toNat).toInt) 31 = 22 ∨ iAnd ((gX G v3.toNat).toInt) 31 = 23 ∨ iAnd ((gX G v3.toNat).toInt) 31 = 24 ∨ iAnd ((gX G v3.toNat).toInt) 31 = 25 ∨ iAnd ((gX G v3.toNat).toInt) 31 = 26 ∨ iAnd ((gX G v3.toNat).toInt) 31 = 27 ∨ iAnd ((gX G v3.toNat).toInt) 31 = 28 ∨ iAnd ((gX G v3.toNat).toInt) 31 = 29 ∨ iAnd ((gX G v3.toNat).toInt) 31 = 30 ∨ ((iAnd ((gX G v3.toNat).toInt) 31) < 0 ∨ 30 < (iAnd ((gX G v3.toNat).toInt) 31)) := by omega
    rcases hs5 with hc | hc | hc | hc | hc | hc | hc | hc | hc | hc | hc | hc | hc | hc | hc | hc | hc | hc | hc | hc | hc | hc | hc | hc | hc | hc | hc | hc | hc | hc | hc | hc
    · have h := h.1 hc
      refine V_tsIn (i := 0) (g := 172) dL_law_33 hc (by decide) (iL rfl) rfl rfl ?_
      exact h
    · have h := h.2.1 hc
      refine V_tsIn (i := 1) (g := 215) dL_law_33 hc (by decide) (iL rfl) rfl rfl ?_
      exact h
    · have h := h.2.2.1 hc
      refine V_tsIn (i := 2) (g := 248) dL_law_33 hc (by decide) (iL rfl) rfl rfl ?_
      exact h
    · have h := h.2.2.2.1 hc
      refine V_tsIn (i := 3) (g := 281) dL_law_33 hc (by decide) (iL rfl) rfl rfl ?_
      exact h
    · have h := h.2.2.2.2.1 hc
      refine V_tsIn (i := 4) (g := 304) dL_law_33 hc (by decide) (iL rfl) rfl rfl ?_
      exact h
    · have h := h.2.2.2.2.2.1 hc
      refine V_tsIn (i := 5) (g := 327) dL_law_33 hc (by decide) (iL rfl) rfl rfl ?_
      exact h
    · have h := h.2.2.2.2.2.2.1 hc
      refine V_tsIn (i := 6) (g := 350) dL_law_33 hc (by decide) (iL rfl) rfl rfl ?_
      exact h
    · have h := h.2.2.2.2.2.2.2.1 hc
      refine V_tsIn (i := 7) (g := 363) dL_law_33 hc (by decide) (iL rfl) rfl rfl ?_
      exact h
    · have h := h.2.2.2.2.2.2.2.2.1 hc
      refine V_tsIn (i := 8) (g := 386) dL_law_33 hc (by decide) (iL rfl) rfl rfl ?_
      exact h
    · have h := h.2.2.2.2.2.2.2.2.2.1 hc
      refine V_tsIn (i := 9) (g := 409) dL_law_33 hc (by decide) (iL rfl) rfl rfl ?_
      exact h
    · have h := h.2.2.2.2.2.2.2.2.2.2.1 hc
      refine V_tsIn (i := 10) (g := 432) dL_law_33 hc (by decide) (iL rfl) rfl rfl ?_
      exact h
    · have h := h.2.2.2.2.2.2.2.2.2.2.2.1 hc
      refine V_tsIn (i := 11) (g := 445) dL_law_33 hc (by decide) (iL rfl) rfl rfl ?_
      exact h
    · have h := h.2.2.2.2.2.2.2.2.2.2.2.2.1 hc
      refine V_tsIn (i := 12) (g := 468) dL_law_33 hc (by decide) (iL rfl) rfl rfl ?_
      exact h
    · have h := h.2.2.2.2.2.2.2.2.2.2.2.2.2.1 hc
      refine V_tsIn (i := 13) (g := 491) dL_law_33 hc (by decide) (iL rfl) rfl rfl ?_
      exact h
    · have h := h.2.2.2.2.2.2.2.2.2.2.2.2.2.2.1 hc
      refine V_tsIn (i := 14) (g := 514) dL_law_33 hc (by decide) (iL rfl) rfl rfl ?_
      exact h
    · have h := h.2.2.2.2.2.2.2.2.2.2.2.2.2.2.2.1 hc
      refine V_tsIn (i := 15) (g := 527) dL_law_33 hc (by decide) (iL rfl) rfl rfl ?_
      exact h
    · have h := h.2.2.2.2.2.2.2.2.2.2.2.2.2.2.2.2.1 hc
      refine V_tsIn (i := 16) (g := 550) dL_law_33 hc (by decide) (iL rfl) rfl rfl ?_
      exact h
    · have h := h.2.2.2.2.2.2.2.2.2.2.2.2.2.2.2.2.2.1 hc
      refine V_tsIn (i := 17) (g := 573) dL_law_33 hc (by decide) (iL rfl) rfl rfl ?_
      exact h
    · have h := h.2.2.2.2.2.2.2.2.2.2.2.2.2.2.2.2.2.2.1 hc
      refine V_tsIn (i := 18) (g := 606) dL_law_33 hc (by decide) (iL rfl) rfl rfl ?_
      exact h
    · have h := h.2.2.2.2.2.2.2.2.2.2.2.2.2.2.2.2.2.2.2.1 hc
      refine V_tsIn (i := 19) (g := 629) dL_law_33 hc (by decide) (iL rfl) rfl rfl ?_
      exact h
    · have h := h.2.2.2.2.2.2.2.2.2.2.2.2.2.2.2.2.2.2.2.2.1 hc
      refine V_tsIn (i := 20) (g := 652) dL_law_33 hc (by decide) (iL rfl) rfl rfl ?_
      exact h
    · have h := h.2.2.2.2.2.2.2.2.2.2.2.2.2.2.2.2.2.2.2.2.2.1 hc
      refine V_tsIn (i := 21) (g := 685) dL_law_33 hc (by decide) (iL rfl) rfl rfl ?_
      exact h
    · have h := h.2.2.2.2.2.2.2.2.2.2.2.2.2.2.2.2.2.2.2.2.2.2.1 hc
      refine V_tsIn (i := 22) (g := 718) dL_law_33 hc (by decide) (iL rfl) rfl rfl ?_
      exact h
    · have h := h.2.2.2.2.2.2.2.2.2.2.2.2.2.2.2.2.2.2.2.2.2.2.2.1 hc
      refine V_tsIn (i := 23) (g := 741) dL_law_33 hc (by decide) (iL rfl) rfl rfl ?_
      exact h
    · have h := h.2.2.2.2.2.2.2.2.2.2.2.2.2.2.2.2.2.2.2.2.2.2.2.2.1 hc
      refine V_tsIn (i := 24) (g := 754) dL_law_33 hc (by decide) (iL rfl) rfl rfl ?_
      exact h
    · have h := h.2.2.2.2.2.2.2.2.2.2.2.2.2.2.2.2.2.2.2.2.2.2.2.2.2.1 hc
      refine V_tsIn (i := 25) (g := 767) dL_law_33 hc (by decide) (iL rfl) rfl rfl ?_
      exact h
    · have h := h.2.2.2.2.2.2.2.2.2.2.2.2.2.2.2.2.2.2.2.2.2.2.2.2.2.2.1 hc
      refine V_tsIn (i := 26) (g := 820) dL_law_33 hc (by decide) (iL rfl) rfl rfl ?_
      exact h
    · have h := h.2.2.2.2.2.2.2.2.2.2.2.2.2.2.2.2.2.2.2.2.2.2.2.2.2.2.2.1 hc
      refine V_tsIn (i := 27) (g := 873) dL_law_33 hc (by decide) (iL rfl) rfl rfl ?_
      exact h
    · have h := h.2.2.2.2.2.2.2.2.2.2.2.2.2.2.2.2.2.2.2.2.2.2.2.2.2.2.2.2.1 hc
      refine V_tsIn (i := 28) (g := 916) dL_law_33 hc (by decide) (iL rfl) rfl rfl ?_
      exact h
    · have h := h.2.2.2.2.2.2.2.2.2.2.2.2.2.2.2.2.2.2.2.2.2.2.2.2.2.2.2.2.2.1 hc
      refine V_tsIn (i := 29) (g := 939) dL_law_33 hc (by decide) (iL rfl) rfl rfl ?_
      exact h
    · have h := h.2.2.2.2.2.2.2.2.2.2.2.2.2.2.2.2.2.2.2.2.2.2.2.2.2.2.2.2.2.2.1 hc
      refine V_tsIn (i := 30) (g := 1022) dL_law_33 hc (by decide) (iL rfl) rfl rfl ?_
      exact h
    · have h := h.2.2.2.2.2.2.2.2.2.2.2.2.2.2.2.2.2.2.2.2.2.2.2.2.2.2.2.2.2.2.2 hc
      refine V_tsOut (g := 1085) dL_law_33 q4 hc rfl ?_
      refine V_iinc 3 rfl (ls2 := [(0, RR 900), (1, RR 0), (2, RR 132), (3, II (v3 + 6))]) dL_law_1085 rfl (by decide) rfl ?_
      refine V_goto (g := 18) dL_law_1088 rfl ?_
      exact h
set_option maxRecDepth 100000 in
theorem sgL_law_172 {G : GG} {Q : Int → Mem → Prop} {t : Mem} {v3 : Int}  (h : (0 ≤ v3 + 1 ∧ v3 + 1 < (gN G 4 : Int)) ∧ (0 ≤ v3 + 2 ∧ v3 + 2 < (gN G 4 : Int)) ∧ (0 ≤ v3 + 3 ∧ v3 + 3 < (gN G 4 : Int)) ∧ ∃ P4 : Int → Mem → Prop, Ex G mX5_beast [RR 0, II ((gX G (v3 + 1).toNat).toInt), II ((gX G (v3 + 2).toNat).toInt), II ((gX G (v3 + 3).toNat).toInt)] t P4 ∧ ∀ (r6 : Int) (u7 : Mem), P4 r6 u7 → ∃ P9 : Int → Mem → Prop, Ex G mX6_beast [RR 132, II ((gX G (v3 + 1).toNat).toInt), II ((gX G (v3 + 2).toNat).toInt), II ((gX G (v3 + 3).toNat).toInt)] u7 P9 ∧ ∀ (r11 : Int) (u12 : Mem), P9 r11 u12 → In32 r6 ∧ In32 r11 ∧ (r6 = r11 → V G mL_law 18 [(0, RR 900), (1, RR 0), (2, RR 132), (3, II (v3 + 6))] [] u12 Q) ∧ (¬ r6 = r11 → Q 0 u12)) : V G mL_law 172 [(0, RR 900), (1, RR 0), (2, RR 132), (3, II v3)] [] t Q := by
  refine V_aload_n 1 rfl dL_law_172 rfl ?_
  refine V_aload_n 0 rfl dL_law_173 rfl ?_
  refine V_iload_n 3 rfl dL_law_174 rfl ?_
  refine V_iconst dL_law_175 rfl ?_
  refine V_iadd dL_law_176 rfl ?_
  obtain ⟨q1, h⟩ := h
  refine V_sld q1 dL_law_177 rfl ?_
  refine V_aload_n 0 rfl dL_law_178 rfl ?_
  refine V_iload_n 3 rfl dL_law_179 rfl ?_
  refine V_iconst dL_law_180 rfl ?_
  refine V_iadd dL_law_181 rfl ?_
  obtain ⟨q2, h⟩ := h
  refine V_sld q2 dL_law_182 rfl ?_
  refine V_aload_n 0 rfl dL_law_183 rfl ?_
  refine V_iload_n 3 rfl dL_law_184 rfl ?_
  refine V_iconst dL_law_185 rfl ?_
  refine V_iadd dL_law_186 rfl ?_
  obtain ⟨q3, h⟩ := h
  refine V_sld q3 dL_law_187 rfl ?_
  obtain ⟨P4, c5, h⟩ := h
  refine V_callVi (st := []) (as := [II ((gX G (v3 + 1).toNat).toInt), II ((gX G (v3 + 2).toNat).toInt), II ((gX G (v3 + 3).toNat).toInt)]) okX5_beast rfl mlL_13 (by decide) kY0 rfl (Nat.le_of_ble_eq_true rfl) rfl dL_law_188 rfl c5 (fun r6 u7 e8 => ?_)
  have h := h r6 u7 e8
  refine V_aload_n 2 rfl dL_law_191 rfl ?_
  refine V_aload_n 0 rfl dL_law_192 rfl ?_
  refine V_iload_n 3 rfl dL_law_193 rfl ?_
  refine V_iconst dL_law_194 rfl ?_
  refine V_iadd dL_law_195 rfl ?_
  refine V_sld q1 dL_law_196 rfl ?_
  refine V_aload_n 0 rfl dL_law_197 rfl ?_
  refine V_iload_n 3 rfl dL_law_198 rfl ?_
  refine V_iconst dL_law_199 rfl ?_
  refine V_iadd dL_law_200 rfl ?_
  refine V_sld q2 dL_law_201 rfl ?_
  refine V_aload_n 0 rfl dL_law_202 rfl ?_
  refine V_iload_n 3 rfl dL_law_203 rfl ?_
  refine V_iconst dL_law_204 rfl ?_
  refine V_iadd dL_law_205 rfl ?_
  refine V_sld q3 dL_law_206 rfl ?_
  obtain ⟨P9, c10, h⟩ := h
  refine V_callVi (st := [II r6]) (as := [II ((gX G (v3 + 1).toNat).toInt), II ((gX G (v3 + 2).toNat).toInt), II ((gX G (v3 + 3).toNat).toInt)]) okX6_beast rfl mlL_17 (by decide) kY132 rfl (Nat.le_of_ble_eq_true rfl) rfl dL_law_207 rfl c10 (fun r11 u12 e13 => ?_)
  have h := h r11 u12 e13
  obtain ⟨q14, h⟩ := h
  obtain ⟨q15, h⟩ := h
  refine V_icmp_eq q14 q15 dL_law_210 (g := 1085) rfl rfl ⟨fun hc => ?_, fun hc => ?_⟩
  · have h := h.1 hc
    refine V_iinc 3 rfl (ls2 := [(0, RR 900), (1, RR 0), (2, RR 132), (3, II (v3 + 6))]) dL_law_1085 rfl (by decide) rfl ?_
    refine V_goto (g := 18) dL_law_1088 rfl ?_
    exact h
  · have h := h.2 hc
    refine V_iconst dL_law_213 rfl ?_
    exact V_iret dL_law_214 (Or.inr ⟨rfl, by decide⟩) h
set_option maxRecDepth 100000 in
theorem sgL_law_215 {G : GG} {Q : Int → Mem → Prop} {t : Mem} {v3 : Int}  (h : (0 ≤ v3 + 1 ∧ v3 + 1 < (gN G 4 : Int)) ∧ (0 ≤ v3 + 2 ∧ v3 + 2 < (gN G 4 : Int)) ∧ ∃ P3 : Int → Mem → Prop, Ex G mX5_of [RR 0, II ((gX G (v3 + 1).toNat).toInt), II ((gX G (v3 + 2).toNat).toInt)] t P3 ∧ ∀ (r5 : Int) (u6 : Mem), P3 r5 u6 → ∃ P8 : Int → Mem → Prop, Ex G mX6_of [RR 132, II ((gX G (v3 + 1).toNat).toInt), II ((gX G (v3 + 2).toNat).toInt)] u6 P8 ∧ ∀ (r10 : Int) (u11 : Mem), P8 r10 u11 → In32 r5 ∧ In32 r10 ∧ (r5 = r10 → V G mL_law 18 [(0, RR 900), (1, RR 0), (2, RR 132), (3, II (v3 + 6))] [] u11 Q) ∧ (¬ r5 = r10 → Q 0 u11)) : V G mL_law 215 [(0, RR 900), (1, RR 0), (2, RR 132), (3, II v3)] [] t Q := by
  refine V_aload_n 1 rfl dL_law_215 rfl ?_
  refine V_aload_n 0 rfl dL_law_216 rfl ?_
  refine V_iload_n 3 rfl dL_law_217 rfl ?_
  refine V_iconst dL_law_218 rfl ?_
  refine V_iadd dL_law_219 rfl ?_
  obtain ⟨q1, h⟩ := h
  refine V_sld q1 dL_law_220 rfl ?_
  refine V_aload_n 0 rfl dL_law_221 rfl ?_
  refine V_iload_n 3 rfl dL_law_222 rfl ?_
  refine V_iconst dL_law_223 rfl ?_
  refine V_iadd dL_law_224 rfl ?_
  obtain ⟨q2, h⟩ := h
  refine V_sld q2 dL_law_225 rfl ?_
  obtain ⟨P3, c4, h⟩ := h
  refine V_callVi (st := []) (as := [II ((gX G (v3 + 1).toNat).toInt), II ((gX G (v3 + 2).toNat).toInt)]) okX5_of rfl mlL_18 (by decide) kY0 rfl (Nat.le_of_ble_eq_true rfl) rfl dL_law_226 rfl c4 (fun r5 u6 e7 => ?_)
  have h := h r5 u6 e7
  refine V_aload_n 2 rfl dL_law_229 rfl ?_
  refine V_aload_n 0 rfl dL_law_230 rfl ?_
  refine V_iload_n 3 rfl dL_law_231 rfl ?_
  refine V_iconst dL_law_232 rfl ?_
  refine V_iadd dL_law_233 rfl ?_
  refine V_sld q1 dL_law_234 rfl ?_
  refine V_aload_n 0 rfl dL_law_235 rfl ?_
  refine V_iload_n 3 rfl dL_law_236 rfl ?_
  refine V_iconst dL_law_237 rfl ?_
  refine V_iadd dL_law_238 rfl ?_
  refine V_sld q2 dL_law_239 rfl ?_
  obtain ⟨P8, c9, h⟩ := h
  refine V_callVi (st := [II r5]) (as := [II ((gX G (v3 + 1).toNat).toInt), II ((gX G (v3 + 2).toNat).toInt)]) okX6_of rfl mlL_22 (by decide) kY132 rfl (Nat.le_of_ble_eq_true rfl) rfl dL_law_240 rfl c9 (fun r10 u11 e12 => ?_)
  have h := h r10 u11 e12
  obtain ⟨q13, h⟩ := h
  obtain ⟨q14, h⟩ := h
  refine V_icmp_eq q13 q14 dL_law_243 (g := 1085) rfl rfl ⟨fun hc => ?_, fun hc => ?_⟩
  · have h := h.1 hc
    refine V_iinc 3 rfl (ls2 := [(0, RR 900), (1, RR 0), (2, RR 132), (3, II (v3 + 6))]) dL_law_1085 rfl (by decide) rfl ?_
    refine V_goto (g := 18) dL_law_1088 rfl ?_
    exact h
  · have h := h.2 hc
    refine V_iconst dL_law_246 rfl ?_
    exact V_iret dL_law_247 (Or.inr ⟨rfl, by decide⟩) h
set_option maxRecDepth 100000 in
theorem sgL_law_248 {G : GG} {Q : Int → Mem → Prop} {t : Mem} {v3 : Int}  (h : (0 ≤ v3 + 1 ∧ v3 + 1 < (gN G 4 : Int)) ∧ (0 ≤ v3 + 2 ∧ v3 + 2 < (gN G 4 : Int)) ∧ ∃ P3 : Int → Mem → Prop, Ex G mX5_well [RR 0, II ((gX G (v3 + 1).toNat).toInt), II ((gX G (v3 + 2).toNat).toInt)] t P3 ∧ ∀ (r5 : Int) (u6 : Mem), P3 r5 u6 → ∃ P8 : Int → Mem → Prop, Ex G mX6_well [RR 132, II ((gX G (v3 + 1).toNat).toInt), II ((gX G (v3 + 2).toNat).toInt)] u6 P8 ∧ ∀ (r10 : Int) (u11 : Mem), P8 r10 u11 → In32 r5 ∧ In32 r10 ∧ (r5 = r10 → V G mL_law 18 [(0, RR 900), (1, RR 0), (2, RR 132), (3, II (v3 + 6))] [] u11 Q) ∧ (¬ r5 = r10 → Q 0 u11)) : V G mL_law 248 [(0, RR 900), (1, RR 0), (2, RR 132), (3, II v3)] [] t Q := by
  refine V_aload_n 1 rfl dL_law_248 rfl ?_
  refine V_aload_n 0 rfl dL_law_249 rfl ?_
  refine V_iload_n 3 rfl dL_law_250 rfl ?_
  refine V_iconst dL_law_251 rfl ?_
  refine V_iadd dL_law_252 rfl ?_
  obtain ⟨q1, h⟩ := h
  refine V_sld q1 dL_law_253 rfl ?_
  refine V_aload_n 0 rfl dL_law_254 rfl ?_
  refine V_iload_n 3 rfl dL_law_255 rfl ?_
  refine V_iconst dL_law_256 rfl ?_
  refine V_iadd dL_law_257 rfl ?_
  obtain ⟨q2, h⟩ := h
  refine V_sld q2 dL_law_258 rfl ?_
  obtain ⟨P3, c4, h⟩ := h
  refine V_callVi (st := []) (as := [II ((gX G (v3 + 1).toNat).toInt), II ((gX G (v3 + 2).toNat).toInt)]) okX5_well rfl mlL_23 (by decide) kY0 rfl (Nat.le_of_ble_eq_true rfl) rfl dL_law_259 rfl c4 (fun r5 u6 e7 => ?_)
  have h := h r5 u6 e7
  refine V_aload_n 2 rfl dL_law_262 rfl ?_
  refine V_aload_n 0 rfl dL_law_263 rfl ?_
  refine V_iload_n 3 rfl dL_law_264 rfl ?_
  refine V_iconst dL_law_265 rfl ?_
  refine V_iadd dL_law_266 rfl ?_
  refine V_sld q1 dL_law_267 rfl ?_
  refine V_aload_n 0 rfl dL_law_268 rfl ?_
  refine V_iload_n 3 rfl dL_law_269 rfl ?_
  refine V_iconst dL_law_270 rfl ?_
  refine V_iadd dL_law_271 rfl ?_
  refine V_sld q2 dL_law_272 rfl ?_
  obtain ⟨P8, c9, h⟩ := h
  refine V_callVi (st := [II r5]) (as := [II ((gX G (v3 + 1).toNat).toInt), II ((gX G (v3 + 2).toNat).toInt)]) okX6_well rfl mlL_26 (by decide) kY132 rfl (Nat.le_of_ble_eq_true rfl) rfl dL_law_273 rfl c9 (fun r10 u11 e12 => ?_)
  have h := h r10 u11 e12
  obtain ⟨q13, h⟩ := h
  obtain ⟨q14, h⟩ := h
  refine V_icmp_eq q13 q14 dL_law_276 (g := 1085) rfl rfl ⟨fun hc => ?_, fun hc => ?_⟩
  · have h := h.1 hc
    refine V_iinc 3 rfl (ls2 := [(0, RR 900), (1, RR 0), (2, RR 132), (3, II (v3 + 6))]) dL_law_1085 rfl (by decide) rfl ?_
    refine V_goto (g := 18) dL_law_1088 rfl ?_
    exact h
  · have h := h.2 hc
    refine V_iconst dL_law_279 rfl ?_
    exact V_iret dL_law_280 (Or.inr ⟨rfl, by decide⟩) h
set_option maxRecDepth 100000 in
theorem sgL_law_281 {G : GG} {Q : Int → Mem → Prop} {t : Mem} {v3 : Int}  (h : (0 ≤ v3 + 1 ∧ v3 + 1 < (gN G 4 : Int)) ∧ ∃ P2 : Int → Mem → Prop, Ex G mX5_pull [RR 0, II ((gX G (v3 + 1).toNat).toInt)] t P2 ∧ ∀ (r4 : Int) (u5 : Mem), P2 r4 u5 → ∃ P7 : Int → Mem → Prop, Ex G mX6_pull [RR 132, II ((gX G (v3 + 1).toNat).toInt)] u5 P7 ∧ ∀ (r9 : Int) (u10 : Mem), P7 r9 u10 → In32 r4 ∧ In32 r9 ∧ (r4 = r9 → V G mL_law 18 [(0, RR 900), (1, RR 0), (2, RR 132), (3, II (v3 + 6))] [] u10 Q) ∧ (¬ r4 = r9 → Q 0 u10)) : V G mL_law 281 [(0, RR 900), (1, RR 0), (2, RR 132), (3, II v3)] [] t Q := by
  refine V_aload_n 1 rfl dL_law_281 rfl ?_
  refine V_aload_n 0 rfl dL_law_282 rfl ?_
  refine V_iload_n 3 rfl dL_law_283 rfl ?_
  refine V_iconst dL_law_284 rfl ?_
  refine V_iadd dL_law_285 rfl ?_
  obtain ⟨q1, h⟩ := h
  refine V_sld q1 dL_law_286 rfl ?_
  obtain ⟨P2, c3, h⟩ := h
  refine V_callVi (st := []) (as := [II ((gX G (v3 + 1).toNat).toInt)]) okX5_pull rfl mlL_27 (by decide) kY0 rfl (Nat.le_of_ble_eq_true rfl) rfl dL_law_287 rfl c3 (fun r4 u5 e6 => ?_)
  have h := h r4 u5 e6
  refine V_aload_n 2 rfl dL_law_290 rfl ?_
  refine V_aload_n 0 rfl dL_law_291 rfl ?_
  refine V_iload_n 3 rfl dL_law_292 rfl ?_
  refine V_iconst dL_law_293 rfl ?_
  refine V_iadd dL_law_294 rfl ?_
  refine V_sld q1 dL_law_295 rfl ?_
  obtain ⟨P7, c8, h⟩ := h
  refine V_callVi (st := [II r4]) (as := [II ((gX G (v3 + 1).toNat).toInt)]) okX6_pull rfl mlL_31 (by decide) kY132 rfl (Nat.le_of_ble_eq_true rfl) rfl dL_law_296 rfl c8 (fun r9 u10 e11 => ?_)
  have h := h r9 u10 e11
  obtain ⟨q12, h⟩ := h
  obtain ⟨q13, h⟩ := h
  refine V_icmp_eq q12 q13 dL_law_299 (g := 1085) rfl rfl ⟨fun hc => ?_, fun hc => ?_⟩
  · have h := h.1 hc
    refine V_iinc 3 rfl (ls2 := [(0, RR 900), (1, RR 0), (2, RR 132), (3, II (v3 + 6))]) dL_law_1085 rfl (by decide) rfl ?_
    refine V_goto (g := 18) dL_law_1088 rfl ?_
    exact h
  · have h := h.2 hc
    refine V_iconst dL_law_302 rfl ?_
    exact V_iret dL_law_303 (Or.inr ⟨rfl, by decide⟩) h
set_option maxRecDepth 100000 in
theorem sgL_law_304 {G : GG} {Q : Int → Mem → Prop} {t : Mem} {v3 : Int}  (h : (0 ≤ v3 + 1 ∧ v3 + 1 < (gN G 4 : Int)) ∧ ∃ P2 : Int → Mem → Prop, Ex G mX5_turn [RR 0, II ((gX G (v3 + 1).toNat).toInt)] t P2 ∧ ∀ (r4 : Int) (u5 : Mem), P2 r4 u5 → ∃ P7 : Int → Mem → Prop, Ex G mX6_turn [RR 132, II ((gX G (v3 + 1).toNat).toInt)] u5 P7 ∧ ∀ (r9 : Int) (u10 : Mem), P7 r9 u10 → In32 r4 ∧ In32 r9 ∧ (r4 = r9 → V G mL_law 18 [(0, RR 900), (1, RR 0), (2, RR 132), (3, II (v3 + 6))] [] u10 Q) ∧ (¬ r4 = r9 → Q 0 u10)) : V G mL_law 304 [(0, RR 900), (1, RR 0), (2, RR 132), (3, II v3)] [] t Q := by
  refine V_aload_n 1 rfl dL_law_304 rfl ?_
  refine V_aload_n 0 rfl dL_law_305 rfl ?_
  refine V_iload_n 3 rfl dL_law_306 rfl ?_
  refine V_iconst dL_law_307 rfl ?_
  refine V_iadd dL_law_308 rfl ?_
  obtain ⟨q1, h⟩ := h
  refine V_sld q1 dL_law_309 rfl ?_
  obtain ⟨P2, c3, h⟩ := h
  refine V_callVi (st := []) (as := [II ((gX G (v3 + 1).toNat).toInt)]) okX5_turn rfl mlL_32 (by decide) kY0 rfl (Nat.le_of_ble_eq_true rfl) rfl dL_law_310 rfl c3 (fun r4 u5 e6 => ?_)
  have h := h r4 u5 e6
  refine V_aload_n 2 rfl dL_law_313 rfl ?_
  refine V_aload_n 0 rfl dL_law_314 rfl ?_
  refine V_iload_n 3 rfl dL_law_315 rfl ?_
  refine V_iconst dL_law_316 rfl ?_
  refine V_iadd dL_law_317 rfl ?_
  refine V_sld q1 dL_law_318 rfl ?_
  obtain ⟨P7, c8, h⟩ := h
  refine V_callVi (st := [II r4]) (as := [II ((gX G (v3 + 1).toNat).toInt)]) okX6_turn rfl mlL_35 (by decide) kY132 rfl (Nat.le_of_ble_eq_true rfl) rfl dL_law_319 rfl c8 (fun r9 u10 e11 => ?_)
  have h := h r9 u10 e11
  obtain ⟨q12, h⟩ := h
  obtain ⟨q13, h⟩ := h
  refine V_icmp_eq q12 q13 dL_law_322 (g := 1085) rfl rfl ⟨fun hc => ?_, fun hc => ?_⟩
  · have h := h.1 hc
    refine V_iinc 3 rfl (ls2 := [(0, RR 900), (1, RR 0), (2, RR 132), (3, II (v3 + 6))]) dL_law_1085 rfl (by decide) rfl ?_
    refine V_goto (g := 18) dL_law_1088 rfl ?_
    exact h
  · have h := h.2 hc
    refine V_iconst dL_law_325 rfl ?_
    exact V_iret dL_law_326 (Or.inr ⟨rfl, by decide⟩) h
set_option maxRecDepth 100000 in
theorem sgL_law_327 {G : GG} {Q : Int → Mem → Prop} {t : Mem} {v3 : Int}  (h : (0 ≤ v3 + 1 ∧ v3 + 1 < (gN G 4 : Int)) ∧ ∃ P2 : Int → Mem → Prop, Ex G mX5_type [RR 0, II ((gX G (v3 + 1).toNat).toInt)] t P2 ∧ ∀ (r4 : Int) (u5 : Mem), P2 r4 u5 → ∃ P7 : Int → Mem → Prop, Ex G mX6_type [RR 132, II ((gX G (v3 + 1).toNat).toInt)] u5 P7 ∧ ∀ (r9 : Int) (u10 : Mem), P7 r9 u10 → In32 r4 ∧ In32 r9 ∧ (r4 = r9 → V G mL_law 18 [(0, RR 900), (1, RR 0), (2, RR 132), (3, II (v3 + 6))] [] u10 Q) ∧ (¬ r4 = r9 → Q 0 u10)) : V G mL_law 327 [(0, RR 900), (1, RR 0), (2, RR 132), (3, II v3)] [] t Q := by
  refine V_aload_n 1 rfl dL_law_327 rfl ?_
  refine V_aload_n 0 rfl dL_law_328 rfl ?_
  refine V_iload_n 3 rfl dL_law_329 rfl ?_
  refine V_iconst dL_law_330 rfl ?_
  refine V_iadd dL_law_331 rfl ?_
  obtain ⟨q1, h⟩ := h
  refine V_sld q1 dL_law_332 rfl ?_
  obtain ⟨P2, c3, h⟩ := h
  refine V_callVi (st := []) (as := [II ((gX G (v3 + 1).toNat).toInt)]) okX5_type rfl mlL_36 (by decide) kY0 rfl (Nat.le_of_ble_eq_true rfl) rfl dL_law_333 rfl c3 (fun r4 u5 e6 => ?_)
  have h := h r4 u5 e6
  refine V_aload_n 2 rfl dL_law_336 rfl ?_
  refine V_aload_n 0 rfl dL_law_337 rfl ?_
  refine V_iload_n 3 rfl dL_law_338 rfl ?_
  refine V_iconst dL_law_339 rfl ?_
  refine V_iadd dL_law_340 rfl ?_
  refine V_sld q1 dL_law_341 rfl ?_
  obtain ⟨P7, c8, h⟩ := h
  refine V_callVi (st := [II r4]) (as := [II ((gX G (v3 + 1).toNat).toInt)]) okX6_type rfl mlL_39 (by decide) kY132 rfl (Nat.le_of_ble_eq_true rfl) rfl dL_law_342 rfl c8 (fun r9 u10 e11 => ?_)
  have h := h r9 u10 e11
  obtain ⟨q12, h⟩ := h
  obtain ⟨q13, h⟩ := h
  refine V_icmp_eq q12 q13 dL_law_345 (g := 1085) rfl rfl ⟨fun hc => ?_, fun hc => ?_⟩
  · have h := h.1 hc
    refine V_iinc 3 rfl (ls2 := [(0, RR 900), (1, RR 0), (2, RR 132), (3, II (v3 + 6))]) dL_law_1085 rfl (by decide) rfl ?_
    refine V_goto (g := 18) dL_law_1088 rfl ?_
    exact h
  · have h := h.2 hc
    refine V_iconst dL_law_348 rfl ?_
    exact V_iret dL_law_349 (Or.inr ⟨rfl, by decide⟩) h
set_option maxRecDepth 100000 in
theorem sgL_law_350 {G : GG} {Q : Int → Mem → Prop} {t : Mem} {v3 : Int}  (h : ∃ P1 : Int → Mem → Prop, Ex G mX5_caravan [RR 0] t P1 ∧ ∀ (r3 : Int) (u4 : Mem), P1 r3 u4 → ∃ P6 : Int → Mem → Prop, Ex G mX6_caravan [RR 132] u4 P6 ∧ ∀ (r8 : Int) (u9 : Mem), P6 r8 u9 → In32 r3 ∧ In32 r8 ∧ (r3 = r8 → V G mL_law 18 [(0, RR 900), (1, RR 0), (2, RR 132), (3, II (v3 + 6))] [] u9 Q) ∧ (¬ r3 = r8 → Q 0 u9)) : V G mL_law 350 [(0, RR 900), (1, RR 0), (2, RR 132), (3, II v3)] [] t Q := by
  refine V_aload_n 1 rfl dL_law_350 rfl ?_
  obtain ⟨P1, c2, h⟩ := h
  refine V_callVi (st := []) (as := []) okX5_caravan rfl mlL_40 (by decide) kY0 rfl (Nat.le_of_ble_eq_true rfl) rfl dL_law_351 rfl c2 (fun r3 u4 e5 => ?_)
  have h := h r3 u4 e5
  refine V_aload_n 2 rfl dL_law_354 rfl ?_
  obtain ⟨P6, c7, h⟩ := h
  refine V_callVi (st := [II r3]) (as := []) okX6_caravan rfl mlL_44 (by decide) kY132 rfl (Nat.le_of_ble_eq_true rfl) rfl dL_law_355 rfl c7 (fun r8 u9 e10 => ?_)
  have h := h r8 u9 e10
  obtain ⟨q11, h⟩ := h
  obtain ⟨q12, h⟩ := h
  refine V_icmp_eq q11 q12 dL_law_358 (g := 1085) rfl rfl ⟨fun hc => ?_, fun hc => ?_⟩
  · have h := h.1 hc
    refine V_iinc 3 rfl (ls2 := [(0, RR 900), (1, RR 0), (2, RR 132), (3, II (v3 + 6))]) dL_law_1085 rfl (by decide) rfl ?_
    refine V_goto (g := 18) dL_law_1088 rfl ?_
    exact h
  · have h := h.2 hc
    refine V_iconst dL_law_361 rfl ?_
    exact V_iret dL_law_362 (Or.inr ⟨rfl, by decide⟩) h
set_option maxRecDepth 100000 in
theorem sgL_law_363 {G : GG} {Q : Int → Mem → Prop} {t : Mem} {v3 : Int}  (h : (0 ≤ v3 + 1 ∧ v3 + 1 < (gN G 4 : Int)) ∧ ∃ P2 : Int → Mem → Prop, Ex G mX5_count [RR 0, II ((gX G (v3 + 1).toNat).toInt)] t P2 ∧ ∀ (r4 : Int) (u5 : Mem), P2 r4 u5 → ∃ P7 : Int → Mem → Prop, Ex G mX6_count [RR 132, II ((gX G (v3 + 1).toNat).toInt)] u5 P7 ∧ ∀ (r9 : Int) (u10 : Mem), P7 r9 u10 → In32 r4 ∧ In32 r9 ∧ (r4 = r9 → V G mL_law 18 [(0, RR 900), (1, RR 0), (2, RR 132), (3, II (v3 + 6))] [] u10 Q) ∧ (¬ r4 = r9 → Q 0 u10)) : V G mL_law 363 [(0, RR 900), (1, RR 0), (2, RR 132), (3, II v3)] [] t Q := by
  refine V_aload_n 1 rfl dL_law_363 rfl ?_
  refine V_aload_n 0 rfl dL_law_364 rfl ?_
  refine V_iload_n 3 rfl dL_law_365 rfl ?_
  refine V_iconst dL_law_366 rfl ?_
  refine V_iadd dL_law_367 rfl ?_
  obtain ⟨q1, h⟩ := h
  refine V_sld q1 dL_law_368 rfl ?_
  obtain ⟨P2, c3, h⟩ := h
  refine V_callVi (st := []) (as := [II ((gX G (v3 + 1).toNat).toInt)]) okX5_count rfl mlL_45 (by decide) kY0 rfl (Nat.le_of_ble_eq_true rfl) rfl dL_law_369 rfl c3 (fun r4 u5 e6 => ?_)
  have h := h r4 u5 e6
  refine V_aload_n 2 rfl dL_law_372 rfl ?_
  refine V_aload_n 0 rfl dL_law_373 rfl ?_
  refine V_iload_n 3 rfl dL_law_374 rfl ?_
  refine V_iconst dL_law_375 rfl ?_
  refine V_iadd dL_law_376 rfl ?_
  refine V_sld q1 dL_law_377 rfl ?_
  obtain ⟨P7, c8, h⟩ := h
  refine V_callVi (st := [II r4]) (as := [II ((gX G (v3 + 1).toNat).toInt)]) okX6_count rfl mlL_48 (by decide) kY132 rfl (Nat.le_of_ble_eq_true rfl) rfl dL_law_378 rfl c8 (fun r9 u10 e11 => ?_)
  have h := h r9 u10 e11
  obtain ⟨q12, h⟩ := h
  obtain ⟨q13, h⟩ := h
  refine V_icmp_eq q12 q13 dL_law_381 (g := 1085) rfl rfl ⟨fun hc => ?_, fun hc => ?_⟩
  · have h := h.1 hc
    refine V_iinc 3 rfl (ls2 := [(0, RR 900), (1, RR 0), (2, RR 132), (3, II (v3 + 6))]) dL_law_1085 rfl (by decide) rfl ?_
    refine V_goto (g := 18) dL_law_1088 rfl ?_
    exact h
  · have h := h.2 hc
    refine V_iconst dL_law_384 rfl ?_
    exact V_iret dL_law_385 (Or.inr ⟨rfl, by decide⟩) h
set_option maxRecDepth 100000 in
theorem sgL_law_386 {G : GG} {Q : Int → Mem → Prop} {t : Mem} {v3 : Int}  (h : (0 ≤ v3 + 1 ∧ v3 + 1 < (gN G 4 : Int)) ∧ ∃ P2 : Int → Mem → Prop, Ex G mX5_minutes [RR 0, II ((gX G (v3 + 1).toNat).toInt)] t P2 ∧ ∀ (r4 : Int) (u5 : Mem), P2 r4 u5 → ∃ P7 : Int → Mem → Prop, Ex G mX6_minutes [RR 132, II ((gX G (v3 + 1).toNat).toInt)] u5 P7 ∧ ∀ (r9 : Int) (u10 : Mem), P7 r9 u10 → In32 r4 ∧ In32 r9 ∧ (r4 = r9 → V G mL_law 18 [(0, RR 900), (1, RR 0), (2, RR 132), (3, II (v3 + 6))] [] u10 Q) ∧ (¬ r4 = r9 → Q 0 u10)) : V G mL_law 386 [(0, RR 900), (1, RR 0), (2, RR 132), (3, II v3)] [] t Q := by
  refine V_aload_n 1 rfl dL_law_386 rfl ?_
  refine V_aload_n 0 rfl dL_law_387 rfl ?_
  refine V_iload_n 3 rfl dL_law_388 rfl ?_
  refine V_iconst dL_law_389 rfl ?_
  refine V_iadd dL_law_390 rfl ?_
  obtain ⟨q1, h⟩ := h
  refine V_sld q1 dL_law_391 rfl ?_
  obtain ⟨P2, c3, h⟩ := h
  refine V_callVi (st := []) (as := [II ((gX G (v3 + 1).toNat).toInt)]) okX5_minutes rfl mlL_49 (by decide) kY0 rfl (Nat.le_of_ble_eq_true rfl) rfl dL_law_392 rfl c3 (fun r4 u5 e6 => ?_)
  have h := h r4 u5 e6
  refine V_aload_n 2 rfl dL_law_395 rfl ?_
  refine V_aload_n 0 rfl dL_law_396 rfl ?_
  refine V_iload_n 3 rfl dL_law_397 rfl ?_
  refine V_iconst dL_law_398 rfl ?_
  refine V_iadd dL_law_399 rfl ?_
  refine V_sld q1 dL_law_400 rfl ?_
  obtain ⟨P7, c8, h⟩ := h
  refine V_callVi (st := [II r4]) (as := [II ((gX G (v3 + 1).toNat).toInt)]) okX6_minutes rfl mlL_52 (by decide) kY132 rfl (Nat.le_of_ble_eq_true rfl) rfl dL_law_401 rfl c8 (fun r9 u10 e11 => ?_)
  have h := h r9 u10 e11
  obtain ⟨q12, h⟩ := h
  obtain ⟨q13, h⟩ := h
  refine V_icmp_eq q12 q13 dL_law_404 (g := 1085) rfl rfl ⟨fun hc => ?_, fun hc => ?_⟩
  · have h := h.1 hc
    refine V_iinc 3 rfl (ls2 := [(0, RR 900), (1, RR 0), (2, RR 132), (3, II (v3 + 6))]) dL_law_1085 rfl (by decide) rfl ?_
    refine V_goto (g := 18) dL_law_1088 rfl ?_
    exact h
  · have h := h.2 hc
    refine V_iconst dL_law_407 rfl ?_
    exact V_iret dL_law_408 (Or.inr ⟨rfl, by decide⟩) h
set_option maxRecDepth 100000 in
theorem sgL_law_409 {G : GG} {Q : Int → Mem → Prop} {t : Mem} {v3 : Int}  (h : (0 ≤ v3 + 1 ∧ v3 + 1 < (gN G 4 : Int)) ∧ ∃ P2 : Int → Mem → Prop, Ex G mX5_drift [RR 0, II ((gX G (v3 + 1).toNat).toInt)] t P2 ∧ ∀ (r4 : Int) (u5 : Mem), P2 r4 u5 → ∃ P7 : Int → Mem → Prop, Ex G mX6_drift [RR 132, II ((gX G (v3 + 1).toNat).toInt)] u5 P7 ∧ ∀ (r9 : Int) (u10 : Mem), P7 r9 u10 → In32 r4 ∧ In32 r9 ∧ (r4 = r9 → V G mL_law 18 [(0, RR 900), (1, RR 0), (2, RR 132), (3, II (v3 + 6))] [] u10 Q) ∧ (¬ r4 = r9 → Q 0 u10)) : V G mL_law 409 [(0, RR 900), (1, RR 0), (2, RR 132), (3, II v3)] [] t Q := by
  refine V_aload_n 1 rfl dL_law_409 rfl ?_
  refine V_aload_n 0 rfl dL_law_410 rfl ?_
  refine V_iload_n 3 rfl dL_law_411 rfl ?_
  refine V_iconst dL_law_412 rfl ?_
  refine V_iadd dL_law_413 rfl ?_
  obtain ⟨q1, h⟩ := h
  refine V_sld q1 dL_law_414 rfl ?_
  obtain ⟨P2, c3, h⟩ := h
  refine V_callVi (st := []) (as := [II ((gX G (v3 + 1).toNat).toInt)]) okX5_drift rfl mlL_53 (by decide) kY0 rfl (Nat.le_of_ble_eq_true rfl) rfl dL_law_415 rfl c3 (fun r4 u5 e6 => ?_)
  have h := h r4 u5 e6
  refine V_aload_n 2 rfl dL_law_418 rfl ?_
  refine V_aload_n 0 rfl dL_law_419 rfl ?_
  refine V_iload_n 3 rfl dL_law_420 rfl ?_
  refine V_iconst dL_law_421 rfl ?_
  refine V_iadd dL_law_422 rfl ?_
  refine V_sld q1 dL_law_423 rfl ?_
  obtain ⟨P7, c8, h⟩ := h
  refine V_callVi (st := [II r4]) (as := [II ((gX G (v3 + 1).toNat).toInt)]) okX6_drift rfl mlL_56 (by decide) kY132 rfl (Nat.le_of_ble_eq_true rfl) rfl dL_law_424 rfl c8 (fun r9 u10 e11 => ?_)
  have h := h r9 u10 e11
  obtain ⟨q12, h⟩ := h
  obtain ⟨q13, h⟩ := h
  refine V_icmp_eq q12 q13 dL_law_427 (g := 1085) rfl rfl ⟨fun hc => ?_, fun hc => ?_⟩
  · have h := h.1 hc
    refine V_iinc 3 rfl (ls2 := [(0, RR 900), (1, RR 0), (2, RR 132), (3, II (v3 + 6))]) dL_law_1085 rfl (by decide) rfl ?_
    refine V_goto (g := 18) dL_law_1088 rfl ?_
    exact h
  · have h := h.2 hc
    refine V_iconst dL_law_430 rfl ?_
    exact V_iret dL_law_431 (Or.inr ⟨rfl, by decide⟩) h
set_option maxRecDepth 100000 in
theorem sgL_law_432 {G : GG} {Q : Int → Mem → Prop} {t : Mem} {v3 : Int}  (h : ∃ P1 : Int → Mem → Prop, Ex G mX5_undo [RR 0] t P1 ∧ ∀ (r3 : Int) (u4 : Mem), P1 r3 u4 → ∃ P6 : Int → Mem → Prop, Ex G mX6_undo [RR 132] u4 P6 ∧ ∀ (r8 : Int) (u9 : Mem), P6 r8 u9 → In32 r3 ∧ In32 r8 ∧ (r3 = r8 → V G mL_law 18 [(0, RR 900), (1, RR 0), (2, RR 132), (3, II (v3 + 6))] [] u9 Q) ∧ (¬ r3 = r8 → Q 0 u9)) : V G mL_law 432 [(0, RR 900), (1, RR 0), (2, RR 132), (3, II v3)] [] t Q := by
  refine V_aload_n 1 rfl dL_law_432 rfl ?_
  obtain ⟨P1, c2, h⟩ := h
  refine V_callVi (st := []) (as := []) okX5_undo rfl mlL_57 (by decide) kY0 rfl (Nat.le_of_ble_eq_true rfl) rfl dL_law_433 rfl c2 (fun r3 u4 e5 => ?_)
  have h := h r3 u4 e5
  refine V_aload_n 2 rfl dL_law_436 rfl ?_
  obtain ⟨P6, c7, h⟩ := h
  refine V_callVi (st := [II r3]) (as := []) okX6_undo rfl mlL_60 (by decide) kY132 rfl (Nat.le_of_ble_eq_true rfl) rfl dL_law_437 rfl c7 (fun r8 u9 e10 => ?_)
  have h := h r8 u9 e10
  obtain ⟨q11, h⟩ := h
  obtain ⟨q12, h⟩ := h
  refine V_icmp_eq q11 q12 dL_law_440 (g := 1085) rfl rfl ⟨fun hc => ?_, fun hc => ?_⟩
  · have h := h.1 hc
    refine V_iinc 3 rfl (ls2 := [(0, RR 900), (1, RR 0), (2, RR 132), (3, II (v3 + 6))]) dL_law_1085 rfl (by decide) rfl ?_
    refine V_goto (g := 18) dL_law_1088 rfl ?_
    exact h
  · have h := h.2 hc
    refine V_iconst dL_law_443 rfl ?_
    exact V_iret dL_law_444 (Or.inr ⟨rfl, by decide⟩) h
set_option maxRecDepth 100000 in
theorem sgL_law_445 {G : GG} {Q : Int → Mem → Prop} {t : Mem} {v3 : Int}  (h : (0 ≤ v3 + 1 ∧ v3 + 1 < (gN G 4 : Int)) ∧ ∃ P2 : Int → Mem → Prop, Ex G mX5_seed [RR 0, II ((gX G (v3 + 1).toNat).toInt)] t P2 ∧ ∀ (r4 : Int) (u5 : Mem), P2 r4 u5 → ∃ P7 : Int → Mem → Prop, Ex G mX6_seed [RR 132, II ((gX G (v3 + 1).toNat).toInt)] u5 P7 ∧ ∀ (r9 : Int) (u10 : Mem), P7 r9 u10 → In32 r4 ∧ In32 r9 ∧ (r4 = r9 → V G mL_law 18 [(0, RR 900), (1, RR 0), (2, RR 132), (3, II (v3 + 6))] [] u10 Q) ∧ (¬ r4 = r9 → Q 0 u10)) : V G mL_law 445 [(0, RR 900), (1, RR 0), (2, RR 132), (3, II v3)] [] t Q := by
  refine V_aload_n 1 rfl dL_law_445 rfl ?_
  refine V_aload_n 0 rfl dL_law_446 rfl ?_
  refine V_iload_n 3 rfl dL_law_447 rfl ?_
  refine V_iconst dL_law_448 rfl ?_
  refine V_iadd dL_law_449 rfl ?_
  obtain ⟨q1, h⟩ := h
  refine V_sld q1 dL_law_450 rfl ?_
  obtain ⟨P2, c3, h⟩ := h
  refine V_callVi (st := []) (as := [II ((gX G (v3 + 1).toNat).toInt)]) okX5_seed rfl mlL_61 (by decide) kY0 rfl (Nat.le_of_ble_eq_true rfl) rfl dL_law_451 rfl c3 (fun r4 u5 e6 => ?_)
  have h := h r4 u5 e6
  refine V_aload_n 2 rfl dL_law_454 rfl ?_
  refine V_aload_n 0 rfl dL_law_455 rfl ?_
  refine V_iload_n 3 rfl dL_law_456 rfl ?_
  refine V_iconst dL_law_457 rfl ?_
  refine V_iadd dL_law_458 rfl ?_
  refine V_sld q1 dL_law_459 rfl ?_
  obtain ⟨P7, c8, h⟩ := h
  refine V_callVi (st := [II r4]) (as := [II ((gX G (v3 + 1).toNat).toInt)]) okX6_seed rfl mlL_64 (by decide) kY132 rfl (Nat.le_of_ble_eq_true rfl) rfl dL_law_460 rfl c8 (fun r9 u10 e11 => ?_)
  have h := h r9 u10 e11
  obtain ⟨q12, h⟩ := h
  obtain ⟨q13, h⟩ := h
  refine V_icmp_eq q12 q13 dL_law_463 (g := 1085) rfl rfl ⟨fun hc => ?_, fun hc => ?_⟩
  · have h := h.1 hc
    refine V_iinc 3 rfl (ls2 := [(0, RR 900), (1, RR 0), (2, RR 132), (3, II (v3 + 6))]) dL_law_1085 rfl (by decide) rfl ?_
    refine V_goto (g := 18) dL_law_1088 rfl ?_
    exact h
  · have h := h.2 hc
    refine V_iconst dL_law_466 rfl ?_
    exact V_iret dL_law_467 (Or.inr ⟨rfl, by decide⟩) h
set_option maxRecDepth 100000 in
theorem sgL_law_468 {G : GG} {Q : Int → Mem → Prop} {t : Mem} {v3 : Int}  (h : (0 ≤ v3 + 1 ∧ v3 + 1 < (gN G 4 : Int)) ∧ ∃ P2 : Int → Mem → Prop, Ex G mX5_water [RR 0, II ((gX G (v3 + 1).toNat).toInt)] t P2 ∧ ∀ (r4 : Int) (u5 : Mem), P2 r4 u5 → ∃ P7 : Int → Mem → Prop, Ex G mX6_water [RR 132, II ((gX G (v3 + 1).toNat).toInt)] u5 P7 ∧ ∀ (r9 : Int) (u10 : Mem), P7 r9 u10 → In32 r4 ∧ In32 r9 ∧ (r4 = r9 → V G mL_law 18 [(0, RR 900), (1, RR 0), (2, RR 132), (3, II (v3 + 6))] [] u10 Q) ∧ (¬ r4 = r9 → Q 0 u10)) : V G mL_law 468 [(0, RR 900), (1, RR 0), (2, RR 132), (3, II v3)] [] t Q := by
  refine V_aload_n 1 rfl dL_law_468 rfl ?_
  refine V_aload_n 0 rfl dL_law_469 rfl ?_
  refine V_iload_n 3 rfl dL_law_470 rfl ?_
  refine V_iconst dL_law_471 rfl ?_
  refine V_iadd dL_law_472 rfl ?_
  obtain ⟨q1, h⟩ := h
  refine V_sld q1 dL_law_473 rfl ?_
  obtain ⟨P2, c3, h⟩ := h
  refine V_callVi (st := []) (as := [II ((gX G (v3 + 1).toNat).toInt)]) okX5_water rfl mlL_65 (by decide) kY0 rfl (Nat.le_of_ble_eq_true rfl) rfl dL_law_474 rfl c3 (fun r4 u5 e6 => ?_)
  have h := h r4 u5 e6
  refine V_aload_n 2 rfl dL_law_477 rfl ?_
  refine V_aload_n 0 rfl dL_law_478 rfl ?_
  refine V_iload_n 3 rfl dL_law_479 rfl ?_
  refine V_iconst dL_law_480 rfl ?_
  refine V_iadd dL_law_481 rfl ?_
  refine V_sld q1 dL_law_482 rfl ?_
  obtain ⟨P7, c8, h⟩ := h
  refine V_callVi (st := [II r4]) (as := [II ((gX G (v3 + 1).toNat).toInt)]) okX6_water rfl mlL_68 (by decide) kY132 rfl (Nat.le_of_ble_eq_true rfl) rfl dL_law_483 rfl c8 (fun r9 u10 e11 => ?_)
  have h := h r9 u10 e11
  obtain ⟨q12, h⟩ := h
  obtain ⟨q13, h⟩ := h
  refine V_icmp_eq q12 q13 dL_law_486 (g := 1085) rfl rfl ⟨fun hc => ?_, fun hc => ?_⟩
  · have h := h.1 hc
    refine V_iinc 3 rfl (ls2 := [(0, RR 900), (1, RR 0), (2, RR 132), (3, II (v3 + 6))]) dL_law_1085 rfl (by decide) rfl ?_
    refine V_goto (g := 18) dL_law_1088 rfl ?_
    exact h
  · have h := h.2 hc
    refine V_iconst dL_law_489 rfl ?_
    exact V_iret dL_law_490 (Or.inr ⟨rfl, by decide⟩) h
set_option maxRecDepth 100000 in
theorem sgL_law_491 {G : GG} {Q : Int → Mem → Prop} {t : Mem} {v3 : Int}  (h : (0 ≤ v3 + 1 ∧ v3 + 1 < (gN G 4 : Int)) ∧ ∃ P2 : Int → Mem → Prop, Ex G mX5_done [RR 0, II ((gX G (v3 + 1).toNat).toInt)] t P2 ∧ ∀ (r4 : Int) (u5 : Mem), P2 r4 u5 → ∃ P7 : Int → Mem → Prop, Ex G mX6_done [RR 132, II ((gX G (v3 + 1).toNat).toInt)] u5 P7 ∧ ∀ (r9 : Int) (u10 : Mem), P7 r9 u10 → In32 r4 ∧ In32 r9 ∧ (r4 = r9 → V G mL_law 18 [(0, RR 900), (1, RR 0), (2, RR 132), (3, II (v3 + 6))] [] u10 Q) ∧ (¬ r4 = r9 → Q 0 u10)) : V G mL_law 491 [(0, RR 900), (1, RR 0), (2, RR 132), (3, II v3)] [] t Q := by
  refine V_aload_n 1 rfl dL_law_491 rfl ?_
  refine V_aload_n 0 rfl dL_law_492 rfl ?_
  refine V_iload_n 3 rfl dL_law_493 rfl ?_
  refine V_iconst dL_law_494 rfl ?_
  refine V_iadd dL_law_495 rfl ?_
  obtain ⟨q1, h⟩ := h
  refine V_sld q1 dL_law_496 rfl ?_
  obtain ⟨P2, c3, h⟩ := h
  refine V_callVi (st := []) (as := [II ((gX G (v3 + 1).toNat).toInt)]) okX5_done rfl mlL_69 (by decide) kY0 rfl (Nat.le_of_ble_eq_true rfl) rfl dL_law_497 rfl c3 (fun r4 u5 e6 => ?_)
  have h := h r4 u5 e6
  refine V_aload_n 2 rfl dL_law_500 rfl ?_
  refine V_aload_n 0 rfl dL_law_501 rfl ?_
  refine V_iload_n 3 rfl dL_law_502 rfl ?_
  refine V_iconst dL_law_503 rfl ?_
  refine V_iadd dL_law_504 rfl ?_
  refine V_sld q1 dL_law_505 rfl ?_
  obtain ⟨P7, c8, h⟩ := h
  refine V_callVi (st := [II r4]) (as := [II ((gX G (v3 + 1).toNat).toInt)]) okX6_done rfl mlL_72 (by decide) kY132 rfl (Nat.le_of_ble_eq_true rfl) rfl dL_law_506 rfl c8 (fun r9 u10 e11 => ?_)
  have h := h r9 u10 e11
  obtain ⟨q12, h⟩ := h
  obtain ⟨q13, h⟩ := h
  refine V_icmp_eq q12 q13 dL_law_509 (g := 1085) rfl rfl ⟨fun hc => ?_, fun hc => ?_⟩
  · have h := h.1 hc
    refine V_iinc 3 rfl (ls2 := [(0, RR 900), (1, RR 0), (2, RR 132), (3, II (v3 + 6))]) dL_law_1085 rfl (by decide) rfl ?_
    refine V_goto (g := 18) dL_law_1088 rfl ?_
    exact h
  · have h := h.2 hc
    refine V_iconst dL_law_512 rfl ?_
    exact V_iret dL_law_513 (Or.inr ⟨rfl, by decide⟩) h
set_option maxRecDepth 100000 in
theorem sgL_law_514 {G : GG} {Q : Int → Mem → Prop} {t : Mem} {v3 : Int}  (h : ∃ P1 : Int → Mem → Prop, Ex G mX5_all [RR 0] t P1 ∧ ∀ (r3 : Int) (u4 : Mem), P1 r3 u4 → ∃ P6 : Int → Mem → Prop, Ex G mX6_all [RR 132] u4 P6 ∧ ∀ (r8 : Int) (u9 : Mem), P6 r8 u9 → In32 r3 ∧ In32 r8 ∧ (r3 = r8 → V G mL_law 18 [(0, RR 900), (1, RR 0), (2, RR 132), (3, II (v3 + 6))] [] u9 Q) ∧ (¬ r3 = r8 → Q 0 u9)) : V G mL_law 514 [(0, RR 900), (1, RR 0), (2, RR 132), (3, II v3)] [] t Q := by
  refine V_aload_n 1 rfl dL_law_514 rfl ?_
  obtain ⟨P1, c2, h⟩ := h
  refine V_callVi (st := []) (as := []) okX5_all rfl mlL_73 (by decide) kY0 rfl (Nat.le_of_ble_eq_true rfl) rfl dL_law_515 rfl c2 (fun r3 u4 e5 => ?_)
  have h := h r3 u4 e5
  refine V_aload_n 2 rfl dL_law_518 rfl ?_
  obtain ⟨P6, c7, h⟩ := h
  refine V_callVi (st := [II r3]) (as := []) okX6_all rfl mlL_76 (by decide) kY132 rfl (Nat.le_of_ble_eq_true rfl) rfl dL_law_519 rfl c7 (fun r8 u9 e10 => ?_)
  have h := h r8 u9 e10
  obtain ⟨q11, h⟩ := h
  obtain ⟨q12, h⟩ := h
  refine V_icmp_eq q11 q12 dL_law_522 (g := 1085) rfl rfl ⟨fun hc => ?_, fun hc => ?_⟩
  · have h := h.1 hc
    refine V_iinc 3 rfl (ls2 := [(0, RR 900), (1, RR 0), (2, RR 132), (3, II (v3 + 6))]) dL_law_1085 rfl (by decide) rfl ?_
    refine V_goto (g := 18) dL_law_1088 rfl ?_
    exact h
  · have h := h.2 hc
    refine V_iconst dL_law_525 rfl ?_
    exact V_iret dL_law_526 (Or.inr ⟨rfl, by decide⟩) h
set_option maxRecDepth 100000 in
theorem sgL_law_527 {G : GG} {Q : Int → Mem → Prop} {t : Mem} {v3 : Int}  (h : (0 ≤ v3 + 1 ∧ v3 + 1 < (gN G 4 : Int)) ∧ ∃ P2 : Int → Mem → Prop, Ex G mX5_height [RR 0, II ((gX G (v3 + 1).toNat).toInt)] t P2 ∧ ∀ (r4 : Int) (u5 : Mem), P2 r4 u5 → ∃ P7 : Int → Mem → Prop, Ex G mX6_height [RR 132, II ((gX G (v3 + 1).toNat).toInt)] u5 P7 ∧ ∀ (r9 : Int) (u10 : Mem), P7 r9 u10 → In32 r4 ∧ In32 r9 ∧ (r4 = r9 → V G mL_law 18 [(0, RR 900), (1, RR 0), (2, RR 132), (3, II (v3 + 6))] [] u10 Q) ∧ (¬ r4 = r9 → Q 0 u10)) : V G mL_law 527 [(0, RR 900), (1, RR 0), (2, RR 132), (3, II v3)] [] t Q := by
  refine V_aload_n 1 rfl dL_law_527 rfl ?_
  refine V_aload_n 0 rfl dL_law_528 rfl ?_
  refine V_iload_n 3 rfl dL_law_529 rfl ?_
  refine V_iconst dL_law_530 rfl ?_
  refine V_iadd dL_law_531 rfl ?_
  obtain ⟨q1, h⟩ := h
  refine V_sld q1 dL_law_532 rfl ?_
  obtain ⟨P2, c3, h⟩ := h
  refine V_callVi (st := []) (as := [II ((gX G (v3 + 1).toNat).toInt)]) okX5_height rfl mlL_77 (by decide) kY0 rfl (Nat.le_of_ble_eq_true rfl) rfl dL_law_533 rfl c3 (fun r4 u5 e6 => ?_)
  have h := h r4 u5 e6
  refine V_aload_n 2 rfl dL_law_536 rfl ?_
  refine V_aload_n 0 rfl dL_law_537 rfl ?_
  refine V_iload_n 3 rfl dL_law_538 rfl ?_
  refine V_iconst dL_law_539 rfl ?_
  refine V_iadd dL_law_540 rfl ?_
  refine V_sld q1 dL_law_541 rfl ?_
  obtain ⟨P7, c8, h⟩ := h
  refine V_callVi (st := [II r4]) (as := [II ((gX G (v3 + 1).toNat).toInt)]) okX6_height rfl mlL_80 (by decide) kY132 rfl (Nat.le_of_ble_eq_true rfl) rfl dL_law_542 rfl c8 (fun r9 u10 e11 => ?_)
  have h := h r9 u10 e11
  obtain ⟨q12, h⟩ := h
  obtain ⟨q13, h⟩ := h
  refine V_icmp_eq q12 q13 dL_law_545 (g := 1085) rfl rfl ⟨fun hc => ?_, fun hc => ?_⟩
  · have h := h.1 hc
    refine V_iinc 3 rfl (ls2 := [(0, RR 900), (1, RR 0), (2, RR 132), (3, II (v3 + 6))]) dL_law_1085 rfl (by decide) rfl ?_
    refine V_goto (g := 18) dL_law_1088 rfl ?_
    exact h
  · have h := h.2 hc
    refine V_iconst dL_law_548 rfl ?_
    exact V_iret dL_law_549 (Or.inr ⟨rfl, by decide⟩) h
set_option maxRecDepth 100000 in
theorem sgL_law_550 {G : GG} {Q : Int → Mem → Prop} {t : Mem} {v3 : Int}  (h : (0 ≤ v3 + 1 ∧ v3 + 1 < (gN G 4 : Int)) ∧ ∃ P2 : Int → Mem → Prop, Ex G mX5_pulls [RR 0, II ((gX G (v3 + 1).toNat).toInt)] t P2 ∧ ∀ (r4 : Int) (u5 : Mem), P2 r4 u5 → ∃ P7 : Int → Mem → Prop, Ex G mX6_pulls [RR 132, II ((gX G (v3 + 1).toNat).toInt)] u5 P7 ∧ ∀ (r9 : Int) (u10 : Mem), P7 r9 u10 → In32 r4 ∧ In32 r9 ∧ (r4 = r9 → V G mL_law 18 [(0, RR 900), (1, RR 0), (2, RR 132), (3, II (v3 + 6))] [] u10 Q) ∧ (¬ r4 = r9 → Q 0 u10)) : V G mL_law 550 [(0, RR 900), (1, RR 0), (2, RR 132), (3, II v3)] [] t Q := by
  refine V_aload_n 1 rfl dL_law_550 rfl ?_
  refine V_aload_n 0 rfl dL_law_551 rfl ?_
  refine V_iload_n 3 rfl dL_law_552 rfl ?_
  refine V_iconst dL_law_553 rfl ?_
  refine V_iadd dL_law_554 rfl ?_
  obtain ⟨q1, h⟩ := h
  refine V_sld q1 dL_law_555 rfl ?_
  obtain ⟨P2, c3, h⟩ := h
  refine V_callVi (st := []) (as := [II ((gX G (v3 + 1).toNat).toInt)]) okX5_pulls rfl mlL_81 (by decide) kY0 rfl (Nat.le_of_ble_eq_true rfl) rfl dL_law_556 rfl c3 (fun r4 u5 e6 => ?_)
  have h := h r4 u5 e6
  refine V_aload_n 2 rfl dL_law_559 rfl ?_
  refine V_aload_n 0 rfl dL_law_560 rfl ?_
  refine V_iload_n 3 rfl dL_law_561 rfl ?_
  refine V_iconst dL_law_562 rfl ?_
  refine V_iadd dL_law_563 rfl ?_
  refine V_sld q1 dL_law_564 rfl ?_
  obtain ⟨P7, c8, h⟩ := h
  refine V_callVi (st := [II r4]) (as := [II ((gX G (v3 + 1).toNat).toInt)]) okX6_pulls rfl mlL_84 (by decide) kY132 rfl (Nat.le_of_ble_eq_true rfl) rfl dL_law_565 rfl c8 (fun r9 u10 e11 => ?_)
  have h := h r9 u10 e11
  obtain ⟨q12, h⟩ := h
  obtain ⟨q13, h⟩ := h
  refine V_icmp_eq q12 q13 dL_law_568 (g := 1085) rfl rfl ⟨fun hc => ?_, fun hc => ?_⟩
  · have h := h.1 hc
    refine V_iinc 3 rfl (ls2 := [(0, RR 900), (1, RR 0), (2, RR 132), (3, II (v3 + 6))]) dL_law_1085 rfl (by decide) rfl ?_
    refine V_goto (g := 18) dL_law_1088 rfl ?_
    exact h
  · have h := h.2 hc
    refine V_iconst dL_law_571 rfl ?_
    exact V_iret dL_law_572 (Or.inr ⟨rfl, by decide⟩) h
set_option maxRecDepth 100000 in
theorem sgL_law_573 {G : GG} {Q : Int → Mem → Prop} {t : Mem} {v3 : Int}  (h : (0 ≤ v3 + 1 ∧ v3 + 1 < (gN G 4 : Int)) ∧ (0 ≤ v3 + 2 ∧ v3 + 2 < (gN G 4 : Int)) ∧ ∃ P3 : Int → Mem → Prop, Ex G mX5_waits [RR 0, II ((gX G (v3 + 1).toNat).toInt), II ((gX G (v3 + 2).toNat).toInt)] t P3 ∧ ∀ (r5 : Int) (u6 : Mem), P3 r5 u6 → ∃ P8 : Int → Mem → Prop, Ex G mX6_waits [RR 132, II ((gX G (v3 + 1).toNat).toInt), II ((gX G (v3 + 2).toNat).toInt)] u6 P8 ∧ ∀ (r10 : Int) (u11 : Mem), P8 r10 u11 → In32 r5 ∧ In32 r10 ∧ (r5 = r10 → V G mL_law 18 [(0, RR 900), (1, RR 0), (2, RR 132), (3, II (v3 + 6))] [] u11 Q) ∧ (¬ r5 = r10 → Q 0 u11)) : V G mL_law 573 [(0, RR 900), (1, RR 0), (2, RR 132), (3, II v3)] [] t Q := by
  refine V_aload_n 1 rfl dL_law_573 rfl ?_
  refine V_aload_n 0 rfl dL_law_574 rfl ?_
  refine V_iload_n 3 rfl dL_law_575 rfl ?_
  refine V_iconst dL_law_576 rfl ?_
  refine V_iadd dL_law_577 rfl ?_
  obtain ⟨q1, h⟩ := h
  refine V_sld q1 dL_law_578 rfl ?_
  refine V_aload_n 0 rfl dL_law_579 rfl ?_
  refine V_iload_n 3 rfl dL_law_580 rfl ?_
  refine V_iconst dL_law_581 rfl ?_
  refine V_iadd dL_law_582 rfl ?_
  obtain ⟨q2, h⟩ := h
  refine V_sld q2 dL_law_583 rfl ?_
  obtain ⟨P3, c4, h⟩ := h
  refine V_callVi (st := []) (as := [II ((gX G (v3 + 1).toNat).toInt), II ((gX G (v3 + 2).toNat).toInt)]) okX5_waits rfl mlL_85 (by decide) kY0 rfl (Nat.le_of_ble_eq_true rfl) rfl dL_law_584 rfl c4 (fun r5 u6 e7 => ?_)
  have h := h r5 u6 e7
  refine V_aload_n 2 rfl dL_law_587 rfl ?_
  refine V_aload_n 0 rfl dL_law_588 rfl ?_
  refine V_iload_n 3 rfl dL_law_589 rfl ?_
  refine V_iconst dL_law_590 rfl ?_
  refine V_iadd dL_law_591 rfl ?_
  refine V_sld q1 dL_law_592 rfl ?_
  refine V_aload_n 0 rfl dL_law_593 rfl ?_
  refine V_iload_n 3 rfl dL_law_594 rfl ?_
  refine V_iconst dL_law_595 rfl ?_
  refine V_iadd dL_law_596 rfl ?_
  refine V_sld q2 dL_law_597 rfl ?_
  obtain ⟨P8, c9, h⟩ := h
  refine V_callVi (st := [II r5]) (as := [II ((gX G (v3 + 1).toNat).toInt), II ((gX G (v3 + 2).toNat).toInt)]) okX6_waits rfl mlL_88 (by decide) kY132 rfl (Nat.le_of_ble_eq_true rfl) rfl dL_law_598 rfl c9 (fun r10 u11 e12 => ?_)
  have h := h r10 u11 e12
  obtain ⟨q13, h⟩ := h
  obtain ⟨q14, h⟩ := h
  refine V_icmp_eq q13 q14 dL_law_601 (g := 1085) rfl rfl ⟨fun hc => ?_, fun hc => ?_⟩
  · have h := h.1 hc
    refine V_iinc 3 rfl (ls2 := [(0, RR 900), (1, RR 0), (2, RR 132), (3, II (v3 + 6))]) dL_law_1085 rfl (by decide) rfl ?_
    refine V_goto (g := 18) dL_law_1088 rfl ?_
    exact h
  · have h := h.2 hc
    refine V_iconst dL_law_604 rfl ?_
    exact V_iret dL_law_605 (Or.inr ⟨rfl, by decide⟩) h
set_option maxRecDepth 100000 in
theorem sgL_law_606 {G : GG} {Q : Int → Mem → Prop} {t : Mem} {v3 : Int}  (h : (0 ≤ v3 + 1 ∧ v3 + 1 < (gN G 4 : Int)) ∧ ∃ P2 : Int → Mem → Prop, Ex G mX5_least [RR 0, II ((gX G (v3 + 1).toNat).toInt)] t P2 ∧ ∀ (r4 : Int) (u5 : Mem), P2 r4 u5 → ∃ P7 : Int → Mem → Prop, Ex G mX6_least [RR 132, II ((gX G (v3 + 1).toNat).toInt)] u5 P7 ∧ ∀ (r9 : Int) (u10 : Mem), P7 r9 u10 → In32 r4 ∧ In32 r9 ∧ (r4 = r9 → V G mL_law 18 [(0, RR 900), (1, RR 0), (2, RR 132), (3, II (v3 + 6))] [] u10 Q) ∧ (¬ r4 = r9 → Q 0 u10)) : V G mL_law 606 [(0, RR 900), (1, RR 0), (2, RR 132), (3, II v3)] [] t Q := by
  refine V_aload_n 1 rfl dL_law_606 rfl ?_
  refine V_aload_n 0 rfl dL_law_607 rfl ?_
  refine V_iload_n 3 rfl dL_law_608 rfl ?_
  refine V_iconst dL_law_609 rfl ?_
  refine V_iadd dL_law_610 rfl ?_
  obtain ⟨q1, h⟩ := h
  refine V_sld q1 dL_law_611 rfl ?_
  obtain ⟨P2, c3, h⟩ := h
  refine V_callVi (st := []) (as := [II ((gX G (v3 + 1).toNat).toInt)]) okX5_least rfl mlL_89 (by decide) kY0 rfl (Nat.le_of_ble_eq_true rfl) rfl dL_law_612 rfl c3 (fun r4 u5 e6 => ?_)
  have h := h r4 u5 e6
  refine V_aload_n 2 rfl dL_law_615 rfl ?_
  refine V_aload_n 0 rfl dL_law_616 rfl ?_
  refine V_iload_n 3 rfl dL_law_617 rfl ?_
  refine V_iconst dL_law_618 rfl ?_
  refine V_iadd dL_law_619 rfl ?_
  refine V_sld q1 dL_law_620 rfl ?_
  obtain ⟨P7, c8, h⟩ := h
  refine V_callVi (st := [II r4]) (as := [II ((gX G (v3 + 1).toNat).toInt)]) okX6_least rfl mlL_92 (by decide) kY132 rfl (Nat.le_of_ble_eq_true rfl) rfl dL_law_621 rfl c8 (fun r9 u10 e11 => ?_)
  have h := h r9 u10 e11
  obtain ⟨q12, h⟩ := h
  obtain ⟨q13, h⟩ := h
  refine V_icmp_eq q12 q13 dL_law_624 (g := 1085) rfl rfl ⟨fun hc => ?_, fun hc => ?_⟩
  · have h := h.1 hc
    refine V_iinc 3 rfl (ls2 := [(0, RR 900), (1, RR 0), (2, RR 132), (3, II (v3 + 6))]) dL_law_1085 rfl (by decide) rfl ?_
    refine V_goto (g := 18) dL_law_1088 rfl ?_
    exact h
  · have h := h.2 hc
    refine V_iconst dL_law_627 rfl ?_
    exact V_iret dL_law_628 (Or.inr ⟨rfl, by decide⟩) h
set_option maxRecDepth 100000 in
theorem sgL_law_629 {G : GG} {Q : Int → Mem → Prop} {t : Mem} {v3 : Int}  (h : (0 ≤ v3 + 1 ∧ v3 + 1 < (gN G 4 : Int)) ∧ ∃ P2 : Int → Mem → Prop, Ex G mX5_both [RR 0, II ((gX G (v3 + 1).toNat).toInt)] t P2 ∧ ∀ (r4 : Int) (u5 : Mem), P2 r4 u5 → ∃ P7 : Int → Mem → Prop, Ex G mX6_both [RR 132, II ((gX G (v3 + 1).toNat).toInt)] u5 P7 ∧ ∀ (r9 : Int) (u10 : Mem), P7 r9 u10 → In32 r4 ∧ In32 r9 ∧ (r4 = r9 → V G mL_law 18 [(0, RR 900), (1, RR 0), (2, RR 132), (3, II (v3 + 6))] [] u10 Q) ∧ (¬ r4 = r9 → Q 0 u10)) : V G mL_law 629 [(0, RR 900), (1, RR 0), (2, RR 132), (3, II v3)] [] t Q := by
  refine V_aload_n 1 rfl dL_law_629 rfl ?_
  refine V_aload_n 0 rfl dL_law_630 rfl ?_
  refine V_iload_n 3 rfl dL_law_631 rfl ?_
  refine V_iconst dL_law_632 rfl ?_
  refine V_iadd dL_law_633 rfl ?_
  obtain ⟨q1, h⟩ := h
  refine V_sld q1 dL_law_634 rfl ?_
  obtain ⟨P2, c3, h⟩ := h
  refine V_callVi (st := []) (as := [II ((gX G (v3 + 1).toNat).toInt)]) okX5_both rfl mlL_93 (by decide) kY0 rfl (Nat.le_of_ble_eq_true rfl) rfl dL_law_635 rfl c3 (fun r4 u5 e6 => ?_)
  have h := h r4 u5 e6
  refine V_aload_n 2 rfl dL_law_638 rfl ?_
  refine V_aload_n 0 rfl dL_law_639 rfl ?_
  refine V_iload_n 3 rfl dL_law_640 rfl ?_
  refine V_iconst dL_law_641 rfl ?_
  refine V_iadd dL_law_642 rfl ?_
  refine V_sld q1 dL_law_643 rfl ?_
  obtain ⟨P7, c8, h⟩ := h
  refine V_callVi (st := [II r4]) (as := [II ((gX G (v3 + 1).toNat).toInt)]) okX6_both rfl mlL_96 (by decide) kY132 rfl (Nat.le_of_ble_eq_true rfl) rfl dL_law_644 rfl c8 (fun r9 u10 e11 => ?_)
  have h := h r9 u10 e11
  obtain ⟨q12, h⟩ := h
  obtain ⟨q13, h⟩ := h
  refine V_icmp_eq q12 q13 dL_law_647 (g := 1085) rfl rfl ⟨fun hc => ?_, fun hc => ?_⟩
  · have h := h.1 hc
    refine V_iinc 3 rfl (ls2 := [(0, RR 900), (1, RR 0), (2, RR 132), (3, II (v3 + 6))]) dL_law_1085 rfl (by decide) rfl ?_
    refine V_goto (g := 18) dL_law_1088 rfl ?_
    exact h
  · have h := h.2 hc
    refine V_iconst dL_law_650 rfl ?_
    exact V_iret dL_law_651 (Or.inr ⟨rfl, by decide⟩) h
set_option maxRecDepth 100000 in
theorem sgL_law_652 {G : GG} {Q : Int → Mem → Prop} {t : Mem} {v3 : Int}  (h : (0 ≤ v3 + 1 ∧ v3 + 1 < (gN G 4 : Int)) ∧ (0 ≤ v3 + 2 ∧ v3 + 2 < (gN G 4 : Int)) ∧ ∃ P3 : Int → Mem → Prop, Ex G mX5_wholly [RR 0, II ((gX G (v3 + 1).toNat).toInt), II ((gX G (v3 + 2).toNat).toInt)] t P3 ∧ ∀ (r5 : Int) (u6 : Mem), P3 r5 u6 → ∃ P8 : Int → Mem → Prop, Ex G mX6_wholly [RR 132, II ((gX G (v3 + 1).toNat).toInt), II ((gX G (v3 + 2).toNat).toInt)] u6 P8 ∧ ∀ (r10 : Int) (u11 : Mem), P8 r10 u11 → In32 r5 ∧ In32 r10 ∧ (r5 = r10 → V G mL_law 18 [(0, RR 900), (1, RR 0), (2, RR 132), (3, II (v3 + 6))] [] u11 Q) ∧ (¬ r5 = r10 → Q 0 u11)) : V G mL_law 652 [(0, RR 900), (1, RR 0), (2, RR 132), (3, II v3)] [] t Q := by
  refine V_aload_n 1 rfl dL_law_652 rfl ?_
  refine V_aload_n 0 rfl dL_law_653 rfl ?_
  refine V_iload_n 3 rfl dL_law_654 rfl ?_
  refine V_iconst dL_law_655 rfl ?_
  refine V_iadd dL_law_656 rfl ?_
  obtain ⟨q1, h⟩ := h
  refine V_sld q1 dL_law_657 rfl ?_
  refine V_aload_n 0 rfl dL_law_658 rfl ?_
  refine V_iload_n 3 rfl dL_law_659 rfl ?_
  refine V_iconst dL_law_660 rfl ?_
  refine V_iadd dL_law_661 rfl ?_
  obtain ⟨q2, h⟩ := h
  refine V_sld q2 dL_law_662 rfl ?_
  obtain ⟨P3, c4, h⟩ := h
  refine V_callVi (st := []) (as := [II ((gX G (v3 + 1).toNat).toInt), II ((gX G (v3 + 2).toNat).toInt)]) okX5_wholly rfl mlL_97 (by decide) kY0 rfl (Nat.le_of_ble_eq_true rfl) rfl dL_law_663 rfl c4 (fun r5 u6 e7 => ?_)
  have h := h r5 u6 e7
  refine V_aload_n 2 rfl dL_law_666 rfl ?_
  refine V_aload_n 0 rfl dL_law_667 rfl ?_
  refine V_iload_n 3 rfl dL_law_668 rfl ?_
  refine V_iconst dL_law_669 rfl ?_
  refine V_iadd dL_law_670 rfl ?_
  refine V_sld q1 dL_law_671 rfl ?_
  refine V_aload_n 0 rfl dL_law_672 rfl ?_
  refine V_iload_n 3 rfl dL_law_673 rfl ?_
  refine V_iconst dL_law_674 rfl ?_
  refine V_iadd dL_law_675 rfl ?_
  refine V_sld q2 dL_law_676 rfl ?_
  obtain ⟨P8, c9, h⟩ := h
  refine V_callVi (st := [II r5]) (as := [II ((gX G (v3 + 1).toNat).toInt), II ((gX G (v3 + 2).toNat).toInt)]) okX6_wholly rfl mlL_100 (by decide) kY132 rfl (Nat.le_of_ble_eq_true rfl) rfl dL_law_677 rfl c9 (fun r10 u11 e12 => ?_)
  have h := h r10 u11 e12
  obtain ⟨q13, h⟩ := h
  obtain ⟨q14, h⟩ := h
  refine V_icmp_eq q13 q14 dL_law_680 (g := 1085) rfl rfl ⟨fun hc => ?_, fun hc => ?_⟩
  · have h := h.1 hc
    refine V_iinc 3 rfl (ls2 := [(0, RR 900), (1, RR 0), (2, RR 132), (3, II (v3 + 6))]) dL_law_1085 rfl (by decide) rfl ?_
    refine V_goto (g := 18) dL_law_1088 rfl ?_
    exact h
  · have h := h.2 hc
    refine V_iconst dL_law_683 rfl ?_
    exact V_iret dL_law_684 (Or.inr ⟨rfl, by decide⟩) h
set_option maxRecDepth 100000 in
theorem sgL_law_685 {G : GG} {Q : Int → Mem → Prop} {t : Mem} {v3 : Int}  (h : (0 ≤ v3 + 1 ∧ v3 + 1 < (gN G 4 : Int)) ∧ (0 ≤ v3 + 2 ∧ v3 + 2 < (gN G 4 : Int)) ∧ ∃ P3 : Int → Mem → Prop, Ex G mX5_drank [RR 0, II ((gX G (v3 + 1).toNat).toInt), II ((gX G (v3 + 2).toNat).toInt)] t P3 ∧ ∀ (r5 : Int) (u6 : Mem), P3 r5 u6 → ∃ P8 : Int → Mem → Prop, Ex G mX6_drank [RR 132, II ((gX G (v3 + 1).toNat).toInt), II ((gX G (v3 + 2).toNat).toInt)] u6 P8 ∧ ∀ (r10 : Int) (u11 : Mem), P8 r10 u11 → In32 r5 ∧ In32 r10 ∧ (r5 = r10 → V G mL_law 18 [(0, RR 900), (1, RR 0), (2, RR 132), (3, II (v3 + 6))] [] u11 Q) ∧ (¬ r5 = r10 → Q 0 u11)) : V G mL_law 685 [(0, RR 900), (1, RR 0), (2, RR 132), (3, II v3)] [] t Q := by
  refine V_aload_n 1 rfl dL_law_685 rfl ?_
  refine V_aload_n 0 rfl dL_law_686 rfl ?_
  refine V_iload_n 3 rfl dL_law_687 rfl ?_
  refine V_iconst dL_law_688 rfl ?_
  refine V_iadd dL_law_689 rfl ?_
  obtain ⟨q1, h⟩ := h
  refine V_sld q1 dL_law_690 rfl ?_
  refine V_aload_n 0 rfl dL_law_691 rfl ?_
  refine V_iload_n 3 rfl dL_law_692 rfl ?_
  refine V_iconst dL_law_693 rfl ?_
  refine V_iadd dL_law_694 rfl ?_
  obtain ⟨q2, h⟩ := h
  refine V_sld q2 dL_law_695 rfl ?_
  obtain ⟨P3, c4, h⟩ := h
  refine V_callVi (st := []) (as := [II ((gX G (v3 + 1).toNat).toInt), II ((gX G (v3 + 2).toNat).toInt)]) okX5_drank rfl mlL_101 (by decide) kY0 rfl (Nat.le_of_ble_eq_true rfl) rfl dL_law_696 rfl c4 (fun r5 u6 e7 => ?_)
  have h := h r5 u6 e7
  refine V_aload_n 2 rfl dL_law_699 rfl ?_
  refine V_aload_n 0 rfl dL_law_700 rfl ?_
  refine V_iload_n 3 rfl dL_law_701 rfl ?_
  refine V_iconst dL_law_702 rfl ?_
  refine V_iadd dL_law_703 rfl ?_
  refine V_sld q1 dL_law_704 rfl ?_
  refine V_aload_n 0 rfl dL_law_705 rfl ?_
  refine V_iload_n 3 rfl dL_law_706 rfl ?_
  refine V_iconst dL_law_707 rfl ?_
  refine V_iadd dL_law_708 rfl ?_
  refine V_sld q2 dL_law_709 rfl ?_
  obtain ⟨P8, c9, h⟩ := h
  refine V_callVi (st := [II r5]) (as := [II ((gX G (v3 + 1).toNat).toInt), II ((gX G (v3 + 2).toNat).toInt)]) okX6_drank rfl mlL_104 (by decide) kY132 rfl (Nat.le_of_ble_eq_true rfl) rfl dL_law_710 rfl c9 (fun r10 u11 e12 => ?_)
  have h := h r10 u11 e12
  obtain ⟨q13, h⟩ := h
  obtain ⟨q14, h⟩ := h
  refine V_icmp_eq q13 q14 dL_law_713 (g := 1085) rfl rfl ⟨fun hc => ?_, fun hc => ?_⟩
  · have h := h.1 hc
    refine V_iinc 3 rfl (ls2 := [(0, RR 900), (1, RR 0), (2, RR 132), (3, II (v3 + 6))]) dL_law_1085 rfl (by decide) rfl ?_
    refine V_goto (g := 18) dL_law_1088 rfl ?_
    exact h
  · have h := h.2 hc
    refine V_iconst dL_law_716 rfl ?_
    exact V_iret dL_law_717 (Or.inr ⟨rfl, by decide⟩) h
set_option maxRecDepth 100000 in
theorem sgL_law_718 {G : GG} {Q : Int → Mem → Prop} {t : Mem} {v3 : Int}  (h : (0 ≤ v3 + 1 ∧ v3 + 1 < (gN G 4 : Int)) ∧ ∃ P2 : Int → Mem → Prop, Ex G mX5_holds [RR 0, II ((gX G (v3 + 1).toNat).toInt)] t P2 ∧ ∀ (r4 : Int) (u5 : Mem), P2 r4 u5 → ∃ P7 : Int → Mem → Prop, Ex G mX6_holds [RR 132, II ((gX G (v3 + 1).toNat).toInt)] u5 P7 ∧ ∀ (r9 : Int) (u10 : Mem), P7 r9 u10 → In32 r4 ∧ In32 r9 ∧ (r4 = r9 → V G mL_law 18 [(0, RR 900), (1, RR 0), (2, RR 132), (3, II (v3 + 6))] [] u10 Q) ∧ (¬ r4 = r9 → Q 0 u10)) : V G mL_law 718 [(0, RR 900), (1, RR 0), (2, RR 132), (3, II v3)] [] t Q := by
  refine V_aload_n 1 rfl dL_law_718 rfl ?_
  refine V_aload_n 0 rfl dL_law_719 rfl ?_
  refine V_iload_n 3 rfl dL_law_720 rfl ?_
  refine V_iconst dL_law_721 rfl ?_
  refine V_iadd dL_law_722 rfl ?_
  obtain ⟨q1, h⟩ := h
  refine V_sld q1 dL_law_723 rfl ?_
  obtain ⟨P2, c3, h⟩ := h
  refine V_callVi (st := []) (as := [II ((gX G (v3 + 1).toNat).toInt)]) okX5_holds rfl mlL_105 (by decide) kY0 rfl (Nat.le_of_ble_eq_true rfl) rfl dL_law_724 rfl c3 (fun r4 u5 e6 => ?_)
  have h := h r4 u5 e6
  refine V_aload_n 2 rfl dL_law_727 rfl ?_
  refine V_aload_n 0 rfl dL_law_728 rfl ?_
  refine V_iload_n 3 rfl dL_law_729 rfl ?_
  refine V_iconst dL_law_730 rfl ?_
  refine V_iadd dL_law_731 rfl ?_
  refine V_sld q1 dL_law_732 rfl ?_
  obtain ⟨P7, c8, h⟩ := h
  refine V_callVi (st := [II r4]) (as := [II ((gX G (v3 + 1).toNat).toInt)]) okX6_holds rfl mlL_108 (by decide) kY132 rfl (Nat.le_of_ble_eq_true rfl) rfl dL_law_733 rfl c8 (fun r9 u10 e11 => ?_)
  have h := h r9 u10 e11
  obtain ⟨q12, h⟩ := h
  obtain ⟨q13, h⟩ := h
  refine V_icmp_eq q12 q13 dL_law_736 (g := 1085) rfl rfl ⟨fun hc => ?_, fun hc => ?_⟩
  · have h := h.1 hc
    refine V_iinc 3 rfl (ls2 := [(0, RR 900), (1, RR 0), (2, RR 132), (3, II (v3 + 6))]) dL_law_1085 rfl (by decide) rfl ?_
    refine V_goto (g := 18) dL_law_1088 rfl ?_
    exact h
  · have h := h.2 hc
    refine V_iconst dL_law_739 rfl ?_
    exact V_iret dL_law_740 (Or.inr ⟨rfl, by decide⟩) h
set_option maxRecDepth 100000 in
theorem sgL_law_741 {G : GG} {Q : Int → Mem → Prop} {t : Mem} {v3 : Int}  (h : ∃ P1 : Int → Mem → Prop, Ex G mX5_image [RR 0] t P1 ∧ ∀ (r3 : Int) (u4 : Mem), P1 r3 u4 → ∃ P6 : Int → Mem → Prop, Ex G mX6_image [RR 132] u4 P6 ∧ ∀ (r8 : Int) (u9 : Mem), P6 r8 u9 → In32 r3 ∧ In32 r8 ∧ (r3 = r8 → V G mL_law 18 [(0, RR 900), (1, RR 0), (2, RR 132), (3, II (v3 + 6))] [] u9 Q) ∧ (¬ r3 = r8 → Q 0 u9)) : V G mL_law 741 [(0, RR 900), (1, RR 0), (2, RR 132), (3, II v3)] [] t Q := by
  refine V_aload_n 1 rfl dL_law_741 rfl ?_
  obtain ⟨P1, c2, h⟩ := h
  refine V_callVi (st := []) (as := []) okX5_image rfl mlL_109 (by decide) kY0 rfl (Nat.le_of_ble_eq_true rfl) rfl dL_law_742 rfl c2 (fun r3 u4 e5 => ?_)
  have h := h r3 u4 e5
  refine V_aload_n 2 rfl dL_law_745 rfl ?_
  obtain ⟨P6, c7, h⟩ := h
  refine V_callVi (st := [II r3]) (as := []) okX6_image rfl mlL_112 (by decide) kY132 rfl (Nat.le_of_ble_eq_true rfl) rfl dL_law_746 rfl c7 (fun r8 u9 e10 => ?_)
  have h := h r8 u9 e10
  obtain ⟨q11, h⟩ := h
  obtain ⟨q12, h⟩ := h
  refine V_icmp_eq q11 q12 dL_law_749 (g := 1085) rfl rfl ⟨fun hc => ?_, fun hc => ?_⟩
  · have h := h.1 hc
    refine V_iinc 3 rfl (ls2 := [(0, RR 900), (1, RR 0), (2, RR 132), (3, II (v3 + 6))]) dL_law_1085 rfl (by decide) rfl ?_
    refine V_goto (g := 18) dL_law_1088 rfl ?_
    exact h
  · have h := h.2 hc
    refine V_iconst dL_law_752 rfl ?_
    exact V_iret dL_law_753 (Or.inr ⟨rfl, by decide⟩) h
set_option maxRecDepth 100000 in
theorem sgL_law_754 {G : GG} {Q : Int → Mem → Prop} {t : Mem} {v3 : Int}  (h : ∃ P1 : Int → Mem → Prop, Ex G mX5_restore [RR 0] t P1 ∧ ∀ (r3 : Int) (u4 : Mem), P1 r3 u4 → ∃ P6 : Int → Mem → Prop, Ex G mX6_restore [RR 132] u4 P6 ∧ ∀ (r8 : Int) (u9 : Mem), P6 r8 u9 → In32 r3 ∧ In32 r8 ∧ (r3 = r8 → V G mL_law 18 [(0, RR 900), (1, RR 0), (2, RR 132), (3, II (v3 + 6))] [] u9 Q) ∧ (¬ r3 = r8 → Q 0 u9)) : V G mL_law 754 [(0, RR 900), (1, RR 0), (2, RR 132), (3, II v3)] [] t Q := by
  refine V_aload_n 1 rfl dL_law_754 rfl ?_
  obtain ⟨P1, c2, h⟩ := h
  refine V_callVi (st := []) (as := []) okX5_restore rfl mlL_113 (by decide) kY0 rfl (Nat.le_of_ble_eq_true rfl) rfl dL_law_755 rfl c2 (fun r3 u4 e5 => ?_)
  have h := h r3 u4 e5
  refine V_aload_n 2 rfl dL_law_758 rfl ?_
  obtain ⟨P6, c7, h⟩ := h
  refine V_callVi (st := [II r3]) (as := []) okX6_restore rfl mlL_116 (by decide) kY132 rfl (Nat.le_of_ble_eq_true rfl) rfl dL_law_759 rfl c7 (fun r8 u9 e10 => ?_)
  have h := h r8 u9 e10
  obtain ⟨q11, h⟩ := h
  obtain ⟨q12, h⟩ := h
  refine V_icmp_eq q11 q12 dL_law_762 (g := 1085) rfl rfl ⟨fun hc => ?_, fun hc => ?_⟩
  · have h := h.1 hc
    refine V_iinc 3 rfl (ls2 := [(0, RR 900), (1, RR 0), (2, RR 132), (3, II (v3 + 6))]) dL_law_1085 rfl (by decide) rfl ?_
    refine V_goto (g := 18) dL_law_1088 rfl ?_
    exact h
  · have h := h.2 hc
    refine V_iconst dL_law_765 rfl ?_
    exact V_iret dL_law_766 (Or.inr ⟨rfl, by decide⟩) h
set_option maxRecDepth 100000 in
theorem sgL_law_767 {G : GG} {Q : Int → Mem → Prop} {t : Mem} {v3 : Int}  (h : (0 ≤ v3 + 1 ∧ v3 + 1 < (gN G 4 : Int)) ∧ (0 ≤ v3 + 2 ∧ v3 + 2 < (gN G 4 : Int)) ∧ (0 ≤ v3 + 3 ∧ v3 + 3 < (gN G 4 : Int)) ∧ (0 ≤ v3 + 4 ∧ v3 + 4 < (gN G 4 : Int)) ∧ ∃ P5 : Int → Mem → Prop, Ex G mX5_buckets [RR 0, II ((gX G (v3 + 1).toNat).toInt), II ((gX G (v3 + 2).toNat).toInt), II ((gX G (v3 + 3).toNat).toInt), II ((gX G (v3 + 4).toNat).toInt)] t P5 ∧ ∀ (r7 : Int) (u8 : Mem), P5 r7 u8 → ∃ P10 : Int → Mem → Prop, Ex G mX6_buckets [RR 132, II ((gX G (v3 + 1).toNat).toInt), II ((gX G (v3 + 2).toNat).toInt), II ((gX G (v3 + 3).toNat).toInt), II ((gX G (v3 + 4).toNat).toInt)] u8 P10 ∧ ∀ (r12 : Int) (u13 : Mem), P10 r12 u13 → In32 r7 ∧ In32 r12 ∧ (r7 = r12 → V G mL_law 18 [(0, RR 900), (1, RR 0), (2, RR 132), (3, II (v3 + 6))] [] u13 Q) ∧ (¬ r7 = r12 → Q 0 u13)) : V G mL_law 767 [(0, RR 900), (1, RR 0), (2, RR 132), (3, II v3)] [] t Q := by
  refine V_aload_n 1 rfl dL_law_767 rfl ?_
  refine V_aload_n 0 rfl dL_law_768 rfl ?_
  refine V_iload_n 3 rfl dL_law_769 rfl ?_
  refine V_iconst dL_law_770 rfl ?_
  refine V_iadd dL_law_771 rfl ?_
  obtain ⟨q1, h⟩ := h
  refine V_sld q1 dL_law_772 rfl ?_
  refine V_aload_n 0 rfl dL_law_773 rfl ?_
  refine V_iload_n 3 rfl dL_law_774 rfl ?_
  refine V_iconst dL_law_775 rfl ?_
  refine V_iadd dL_law_776 rfl ?_
  obtain ⟨q2, h⟩ := h
  refine V_sld q2 dL_law_777 rfl ?_
  refine V_aload_n 0 rfl dL_law_778 rfl ?_
  refine V_iload_n 3 rfl dL_law_779 rfl ?_
  refine V_iconst dL_law_780 rfl ?_
  refine V_iadd dL_law_781 rfl ?_
  obtain ⟨q3, h⟩ := h
  refine V_sld q3 dL_law_782 rfl ?_
  refine V_aload_n 0 rfl dL_law_783 rfl ?_
  refine V_iload_n 3 rfl dL_law_784 rfl ?_
  refine V_iconst dL_law_785 rfl ?_
  refine V_iadd dL_law_786 rfl ?_
  obtain ⟨q4, h⟩ := h
  refine V_sld q4 dL_law_787 rfl ?_
  obtain ⟨P5, c6, h⟩ := h
  refine V_callVi (st := []) (as := [II ((gX G (v3 + 1).toNat).toInt), II ((gX G (v3 + 2).toNat).toInt), II ((gX G (v3 + 3).toNat).toInt), II ((gX G (v3 + 4).toNat).toInt)]) okX5_buckets rfl mlL_117 (by decide) kY0 rfl (Nat.le_of_ble_eq_true rfl) rfl dL_law_788 rfl c6 (fun r7 u8 e9 => ?_)
  have h := h r7 u8 e9
  refine V_aload_n 2 rfl dL_law_791 rfl ?_
  refine V_aload_n 0 rfl dL_law_792 rfl ?_
  refine V_iload_n 3 rfl dL_law_793 rfl ?_
  refine V_iconst dL_law_794 rfl ?_
  refine V_iadd dL_law_795 rfl ?_
  refine V_sld q1 dL_law_796 rfl ?_
  refine V_aload_n 0 rfl dL_law_797 rfl ?_
  refine V_iload_n 3 rfl dL_law_798 rfl ?_
  refine V_iconst dL_law_799 rfl ?_
  refine V_iadd dL_law_800 rfl ?_
  refine V_sld q2 dL_law_801 rfl ?_
  refine V_aload_n 0 rfl dL_law_802 rfl ?_
  refine V_iload_n 3 rfl dL_law_803 rfl ?_
  refine V_iconst dL_law_804 rfl ?_
  refine V_iadd dL_law_805 rfl ?_
  refine V_sld q3 dL_law_806 rfl ?_
  refine V_aload_n 0 rfl dL_law_807 rfl ?_
  refine V_iload_n 3 rfl dL_law_808 rfl ?_
  refine V_iconst dL_law_809 rfl ?_
  refine V_iadd dL_law_810 rfl ?_
  refine V_sld q4 dL_law_811 rfl ?_
  obtain ⟨P10, c11, h⟩ := h
  refine V_callVi (st := [II r7]) (as := [II ((gX G (v3 + 1).toNat).toInt), II ((gX G (v3 + 2).toNat).toInt), II ((gX G (v3 + 3).toNat).toInt), II ((gX G (v3 + 4).toNat).toInt)]) okX6_buckets rfl mlL_121 (by decide) kY132 rfl (Nat.le_of_ble_eq_true rfl) rfl dL_law_812 rfl c11 (fun r12 u13 e14 => ?_)
  have h := h r12 u13 e14
  obtain ⟨q15, h⟩ := h
  obtain ⟨q16, h⟩ := h
  refine V_icmp_eq q15 q16 dL_law_815 (g := 1085) rfl rfl ⟨fun hc => ?_, fun hc => ?_⟩
  · have h := h.1 hc
    refine V_iinc 3 rfl (ls2 := [(0, RR 900), (1, RR 0), (2, RR 132), (3, II (v3 + 6))]) dL_law_1085 rfl (by decide) rfl ?_
    refine V_goto (g := 18) dL_law_1088 rfl ?_
    exact h
  · have h := h.2 hc
    refine V_iconst dL_law_818 rfl ?_
    exact V_iret dL_law_819 (Or.inr ⟨rfl, by decide⟩) h
set_option maxRecDepth 100000 in
theorem sgL_law_820 {G : GG} {Q : Int → Mem → Prop} {t : Mem} {v3 : Int}  (h : (0 ≤ v3 + 1 ∧ v3 + 1 < (gN G 4 : Int)) ∧ (0 ≤ v3 + 2 ∧ v3 + 2 < (gN G 4 : Int)) ∧ (0 ≤ v3 + 3 ∧ v3 + 3 < (gN G 4 : Int)) ∧ (0 ≤ v3 + 4 ∧ v3 + 4 < (gN G 4 : Int)) ∧ ∃ P5 : Int → Mem → Prop, Ex G mX5_film [RR 0, II ((gX G (v3 + 1).toNat).toInt), II ((gX G (v3 + 2).toNat).toInt), II ((gX G (v3 + 3).toNat).toInt), II ((gX G (v3 + 4).toNat).toInt)] t P5 ∧ ∀ (r7 : Int) (u8 : Mem), P5 r7 u8 → ∃ P10 : Int → Mem → Prop, Ex G mX6_film [RR 132, II ((gX G (v3 + 1).toNat).toInt), II ((gX G (v3 + 2).toNat).toInt), II ((gX G (v3 + 3).toNat).toInt), II ((gX G (v3 + 4).toNat).toInt)] u8 P10 ∧ ∀ (r12 : Int) (u13 : Mem), P10 r12 u13 → In32 r7 ∧ In32 r12 ∧ (r7 = r12 → V G mL_law 18 [(0, RR 900), (1, RR 0), (2, RR 132), (3, II (v3 + 6))] [] u13 Q) ∧ (¬ r7 = r12 → Q 0 u13)) : V G mL_law 820 [(0, RR 900), (1, RR 0), (2, RR 132), (3, II v3)] [] t Q := by
  refine V_aload_n 1 rfl dL_law_820 rfl ?_
  refine V_aload_n 0 rfl dL_law_821 rfl ?_
  refine V_iload_n 3 rfl dL_law_822 rfl ?_
  refine V_iconst dL_law_823 rfl ?_
  refine V_iadd dL_law_824 rfl ?_
  obtain ⟨q1, h⟩ := h
  refine V_sld q1 dL_law_825 rfl ?_
  refine V_aload_n 0 rfl dL_law_826 rfl ?_
  refine V_iload_n 3 rfl dL_law_827 rfl ?_
  refine V_iconst dL_law_828 rfl ?_
  refine V_iadd dL_law_829 rfl ?_
  obtain ⟨q2, h⟩ := h
  refine V_sld q2 dL_law_830 rfl ?_
  refine V_aload_n 0 rfl dL_law_831 rfl ?_
  refine V_iload_n 3 rfl dL_law_832 rfl ?_
  refine V_iconst dL_law_833 rfl ?_
  refine V_iadd dL_law_834 rfl ?_
  obtain ⟨q3, h⟩ := h
  refine V_sld q3 dL_law_835 rfl ?_
  refine V_aload_n 0 rfl dL_law_836 rfl ?_
  refine V_iload_n 3 rfl dL_law_837 rfl ?_
  refine V_iconst dL_law_838 rfl ?_
  refine V_iadd dL_law_839 rfl ?_
  obtain ⟨q4, h⟩ := h
  refine V_sld q4 dL_law_840 rfl ?_
  obtain ⟨P5, c6, h⟩ := h
  refine V_callVi (st := []) (as := [II ((gX G (v3 + 1).toNat).toInt), II ((gX G (v3 + 2).toNat).toInt), II ((gX G (v3 + 3).toNat).toInt), II ((gX G (v3 + 4).toNat).toInt)]) okX5_film rfl mlL_122 (by decide) kY0 rfl (Nat.le_of_ble_eq_true rfl) rfl dL_law_841 rfl c6 (fun r7 u8 e9 => ?_)
  have h := h r7 u8 e9
  refine V_aload_n 2 rfl dL_law_844 rfl ?_
  refine V_aload_n 0 rfl dL_law_845 rfl ?_
  refine V_iload_n 3 rfl dL_law_846 rfl ?_
  refine V_iconst dL_law_847 rfl ?_
  refine V_iadd dL_law_848 rfl ?_
  refine V_sld q1 dL_law_849 rfl ?_
  refine V_aload_n 0 rfl dL_law_850 rfl ?_
  refine V_iload_n 3 rfl dL_law_851 rfl ?_
  refine V_iconst dL_law_852 rfl ?_
  refine V_iadd dL_law_853 rfl ?_
  refine V_sld q2 dL_law_854 rfl ?_
  refine V_aload_n 0 rfl dL_law_855 rfl ?_
  refine V_iload_n 3 rfl dL_law_856 rfl ?_
  refine V_iconst dL_law_857 rfl ?_
  refine V_iadd dL_law_858 rfl ?_
  refine V_sld q3 dL_law_859 rfl ?_
  refine V_aload_n 0 rfl dL_law_860 rfl ?_
  refine V_iload_n 3 rfl dL_law_861 rfl ?_
  refine V_iconst dL_law_862 rfl ?_
  refine V_iadd dL_law_863 rfl ?_
  refine V_sld q4 dL_law_864 rfl ?_
  obtain ⟨P10, c11, h⟩ := h
  refine V_callVi (st := [II r7]) (as := [II ((gX G (v3 + 1).toNat).toInt), II ((gX G (v3 + 2).toNat).toInt), II ((gX G (v3 + 3).toNat).toInt), II ((gX G (v3 + 4).toNat).toInt)]) okX6_film rfl mlL_125 (by decide) kY132 rfl (Nat.le_of_ble_eq_true rfl) rfl dL_law_865 rfl c11 (fun r12 u13 e14 => ?_)
  have h := h r12 u13 e14
  obtain ⟨q15, h⟩ := h
  obtain ⟨q16, h⟩ := h
  refine V_icmp_eq q15 q16 dL_law_868 (g := 1085) rfl rfl ⟨fun hc => ?_, fun hc => ?_⟩
  · have h := h.1 hc
    refine V_iinc 3 rfl (ls2 := [(0, RR 900), (1, RR 0), (2, RR 132), (3, II (v3 + 6))]) dL_law_1085 rfl (by decide) rfl ?_
    refine V_goto (g := 18) dL_law_1088 rfl ?_
    exact h
  · have h := h.2 hc
    refine V_iconst dL_law_871 rfl ?_
    exact V_iret dL_law_872 (Or.inr ⟨rfl, by decide⟩) h
set_option maxRecDepth 100000 in
theorem sgL_law_873 {G : GG} {Q : Int → Mem → Prop} {t : Mem} {v3 : Int}  (h : (0 ≤ v3 + 1 ∧ v3 + 1 < (gN G 4 : Int)) ∧ (0 ≤ v3 + 2 ∧ v3 + 2 < (gN G 4 : Int)) ∧ (0 ≤ v3 + 3 ∧ v3 + 3 < (gN G 4 : Int)) ∧ ∃ P4 : Int → Mem → Prop, Ex G mX5_sheet [RR 0, II ((gX G (v3 + 1).toNat).toInt), II ((gX G (v3 + 2).toNat).toInt), II ((gX G (v3 + 3).toNat).toInt)] t P4 ∧ ∀ (r6 : Int) (u7 : Mem), P4 r6 u7 → ∃ P9 : Int → Mem → Prop, Ex G mX6_sheet [RR 132, II ((gX G (v3 + 1).toNat).toInt), II ((gX G (v3 + 2).toNat).toInt), II ((gX G (v3 + 3).toNat).toInt)] u7 P9 ∧ ∀ (r11 : Int) (u12 : Mem), P9 r11 u12 → In32 r6 ∧ In32 r11 ∧ (r6 = r11 → V G mL_law 18 [(0, RR 900), (1, RR 0), (2, RR 132), (3, II (v3 + 6))] [] u12 Q) ∧ (¬ r6 = r11 → Q 0 u12)) : V G mL_law 873 [(0, RR 900), (1, RR 0), (2, RR 132), (3, II v3)] [] t Q := by
  refine V_aload_n 1 rfl dL_law_873 rfl ?_
  refine V_aload_n 0 rfl dL_law_874 rfl ?_
  refine V_iload_n 3 rfl dL_law_875 rfl ?_
  refine V_iconst dL_law_876 rfl ?_
  refine V_iadd dL_law_877 rfl ?_
  obtain ⟨q1, h⟩ := h
  refine V_sld q1 dL_law_878 rfl ?_
  refine V_aload_n 0 rfl dL_law_879 rfl ?_
  refine V_iload_n 3 rfl dL_law_880 rfl ?_
  refine V_iconst dL_law_881 rfl ?_
  refine V_iadd dL_law_882 rfl ?_
  obtain ⟨q2, h⟩ := h
  refine V_sld q2 dL_law_883 rfl ?_
  refine V_aload_n 0 rfl dL_law_884 rfl ?_
  refine V_iload_n 3 rfl dL_law_885 rfl ?_
  refine V_iconst dL_law_886 rfl ?_
  refine V_iadd dL_law_887 rfl ?_
  obtain ⟨q3, h⟩ := h
  refine V_sld q3 dL_law_888 rfl ?_
  obtain ⟨P4, c5, h⟩ := h
  refine V_callVi (st := []) (as := [II ((gX G (v3 + 1).toNat).toInt), II ((gX G (v3 + 2).toNat).toInt), II ((gX G (v3 + 3).toNat).toInt)]) okX5_sheet rfl mlL_126 (by decide) kY0 rfl (Nat.le_of_ble_eq_true rfl) rfl dL_law_889 rfl c5 (fun r6 u7 e8 => ?_)
  have h := h r6 u7 e8
  refine V_aload_n 2 rfl dL_law_892 rfl ?_
  refine V_aload_n 0 rfl dL_law_893 rfl ?_
  refine V_iload_n 3 rfl dL_law_894 rfl ?_
  refine V_iconst dL_law_895 rfl ?_
  refine V_iadd dL_law_896 rfl ?_
  refine V_sld q1 dL_law_897 rfl ?_
  refine V_aload_n 0 rfl dL_law_898 rfl ?_
  refine V_iload_n 3 rfl dL_law_899 rfl ?_
  refine V_iconst dL_law_900 rfl ?_
  refine V_iadd dL_law_901 rfl ?_
  refine V_sld q2 dL_law_902 rfl ?_
  refine V_aload_n 0 rfl dL_law_903 rfl ?_
  refine V_iload_n 3 rfl dL_law_904 rfl ?_
  refine V_iconst dL_law_905 rfl ?_
  refine V_iadd dL_law_906 rfl ?_
  refine V_sld q3 dL_law_907 rfl ?_
  obtain ⟨P9, c10, h⟩ := h
  refine V_callVi (st := [II r6]) (as := [II ((gX G (v3 + 1).toNat).toInt), II ((gX G (v3 + 2).toNat).toInt), II ((gX G (v3 + 3).toNat).toInt)]) okX6_sheet rfl mlL_129 (by decide) kY132 rfl (Nat.le_of_ble_eq_true rfl) rfl dL_law_908 rfl c10 (fun r11 u12 e13 => ?_)
  have h := h r11 u12 e13
  obtain ⟨q14, h⟩ := h
  obtain ⟨q15, h⟩ := h
  refine V_icmp_eq q14 q15 dL_law_911 (g := 1085) rfl rfl ⟨fun hc => ?_, fun hc => ?_⟩
  · have h := h.1 hc
    refine V_iinc 3 rfl (ls2 := [(0, RR 900), (1, RR 0), (2, RR 132), (3, II (v3 + 6))]) dL_law_1085 rfl (by decide) rfl ?_
    refine V_goto (g := 18) dL_law_1088 rfl ?_
    exact h
  · have h := h.2 hc
    refine V_iconst dL_law_914 rfl ?_
    exact V_iret dL_law_915 (Or.inr ⟨rfl, by decide⟩) h
set_option maxRecDepth 100000 in
theorem sgL_law_916 {G : GG} {Q : Int → Mem → Prop} {t : Mem} {v3 : Int}  (h : (0 ≤ v3 + 1 ∧ v3 + 1 < (gN G 4 : Int)) ∧ ∃ P2 : Int → Mem → Prop, Ex G mX5_drop [RR 0, II ((gX G (v3 + 1).toNat).toInt)] t P2 ∧ ∀ (r4 : Int) (u5 : Mem), P2 r4 u5 → ∃ P7 : Int → Mem → Prop, Ex G mX6_drop [RR 132, II ((gX G (v3 + 1).toNat).toInt)] u5 P7 ∧ ∀ (r9 : Int) (u10 : Mem), P7 r9 u10 → In32 r4 ∧ In32 r9 ∧ (r4 = r9 → V G mL_law 18 [(0, RR 900), (1, RR 0), (2, RR 132), (3, II (v3 + 6))] [] u10 Q) ∧ (¬ r4 = r9 → Q 0 u10)) : V G mL_law 916 [(0, RR 900), (1, RR 0), (2, RR 132), (3, II v3)] [] t Q := by
  refine V_aload_n 1 rfl dL_law_916 rfl ?_
  refine V_aload_n 0 rfl dL_law_917 rfl ?_
  refine V_iload_n 3 rfl dL_law_918 rfl ?_
  refine V_iconst dL_law_919 rfl ?_
  refine V_iadd dL_law_920 rfl ?_
  obtain ⟨q1, h⟩ := h
  refine V_sld q1 dL_law_921 rfl ?_
  obtain ⟨P2, c3, h⟩ := h
  refine V_callVi (st := []) (as := [II ((gX G (v3 + 1).toNat).toInt)]) okX5_drop rfl mlL_130 (by decide) kY0 rfl (Nat.le_of_ble_eq_true rfl) rfl dL_law_922 rfl c3 (fun r4 u5 e6 => ?_)
  have h := h r4 u5 e6
  refine V_aload_n 2 rfl dL_law_925 rfl ?_
  refine V_aload_n 0 rfl dL_law_926 rfl ?_
  refine V_iload_n 3 rfl dL_law_927 rfl ?_
  refine V_iconst dL_law_928 rfl ?_
  refine V_iadd dL_law_929 rfl ?_
  refine V_sld q1 dL_law_930 rfl ?_
  obtain ⟨P7, c8, h⟩ := h
  refine V_callVi (st := [II r4]) (as := [II ((gX G (v3 + 1).toNat).toInt)]) okX6_drop rfl mlL_133 (by decide) kY132 rfl (Nat.le_of_ble_eq_true rfl) rfl dL_law_931 rfl c8 (fun r9 u10 e11 => ?_)
  have h := h r9 u10 e11
  obtain ⟨q12, h⟩ := h
  obtain ⟨q13, h⟩ := h
  refine V_icmp_eq q12 q13 dL_law_934 (g := 1085) rfl rfl ⟨fun hc => ?_, fun hc => ?_⟩
  · have h := h.1 hc
    refine V_iinc 3 rfl (ls2 := [(0, RR 900), (1, RR 0), (2, RR 132), (3, II (v3 + 6))]) dL_law_1085 rfl (by decide) rfl ?_
    refine V_goto (g := 18) dL_law_1088 rfl ?_
    exact h
  · have h := h.2 hc
    refine V_iconst dL_law_937 rfl ?_
    exact V_iret dL_law_938 (Or.inr ⟨rfl, by decide⟩) h
set_option maxRecDepth 100000 in
theorem sgL_law_939 {G : GG} {Q : Int → Mem → Prop} {t : Mem} {v3 : Int}  (h : (0 ≤ v3 + 1 ∧ v3 + 1 < (gN G 4 : Int)) ∧ (0 ≤ v3 + 2 ∧ v3 + 2 < (gN G 4 : Int)) ∧ (0 ≤ v3 + 3 ∧ v3 + 3 < (gN G 4 : Int)) ∧ (0 ≤ v3 + 4 ∧ v3 + 4 < (gN G 4 : Int)) ∧ (0 ≤ v3 + 5 ∧ v3 + 5 < (gN G 4 : Int)) ∧ ∃ P6 : Int → Mem → Prop, Ex G mX5_item [RR 0, II ((gX G (v3 + 1).toNat).toInt), II ((gX G (v3 + 2).toNat).toInt), II ((gX G (v3 + 3).toNat).toInt), JJ (lOr (lShl ((gX G (v3 + 4).toNat).toInt) 32) (lAnd ((gX G (v3 + 5).toNat).toInt) 4294967295))] t P6 ∧ ∀ (r8 : Int) (u9 : Mem), P6 r8 u9 → ∃ P11 : Int → Mem → Prop, Ex G mX6_item [RR 132, II ((gX G (v3 + 1).toNat).toInt), II ((gX G (v3 + 2).toNat).toInt), II ((gX G (v3 + 3).toNat).toInt), JJ (lOr (lShl ((gX G (v3 + 4).toNat).toInt) 32) (lAnd ((gX G (v3 + 5).toNat).toInt) 4294967295))] u9 P11 ∧ ∀ (r13 : Int) (u14 : Mem), P11 r13 u14 → In32 r8 ∧ In32 r13 ∧ (r8 = r13 → V G mL_law 18 [(0, RR 900), (1, RR 0), (2, RR 132), (3, II (v3 + 6))] [] u14 Q) ∧ (¬ r8 = r13 → Q 0 u14)) : V G mL_law 939 [(0, RR 900), (1, RR 0), (2, RR 132), (3, II v3)] [] t Q := by
  refine V_aload_n 1 rfl dL_law_939 rfl ?_
  refine V_aload_n 0 rfl dL_law_940 rfl ?_
  refine V_iload_n 3 rfl dL_law_941 rfl ?_
  refine V_iconst dL_law_942 rfl ?_
  refine V_iadd dL_law_943 rfl ?_
  obtain ⟨q1, h⟩ := h
  refine V_sld q1 dL_law_944 rfl ?_
  refine V_aload_n 0 rfl dL_law_945 rfl ?_
  refine V_iload_n 3 rfl dL_law_946 rfl ?_
  refine V_iconst dL_law_947 rfl ?_
  refine V_iadd dL_law_948 rfl ?_
  obtain ⟨q2, h⟩ := h
  refine V_sld q2 dL_law_949 rfl ?_
  refine V_aload_n 0 rfl dL_law_950 rfl ?_
  refine V_iload_n 3 rfl dL_law_951 rfl ?_
  refine V_iconst dL_law_952 rfl ?_
  refine V_iadd dL_law_953 rfl ?_
  obtain ⟨q3, h⟩ := h
  refine V_sld q3 dL_law_954 rfl ?_
  refine V_aload_n 0 rfl dL_law_955 rfl ?_
  refine V_iload_n 3 rfl dL_law_956 rfl ?_
  refine V_iconst dL_law_957 rfl ?_
  refine V_iadd dL_law_958 rfl ?_
  obtain ⟨q4, h⟩ := h
  refine V_sld q4 dL_law_959 rfl ?_
  refine V_i2l (x32 _) dL_law_960 rfl ?_
  refine V_bipush (by decide) dL_law_961 rfl ?_
  refine V_lshl dL_law_963 rfl ?_
  refine V_aload_n 0 rfl dL_law_964 rfl ?_
  refine V_iload_n 3 rfl dL_law_965 rfl ?_
  refine V_iconst dL_law_966 rfl ?_
  refine V_iadd dL_law_967 rfl ?_
  obtain ⟨q5, h⟩ := h
  refine V_sld q5 dL_law_968 rfl ?_
  refine V_i2l (x32 _) dL_law_969 rfl ?_
  refine V_ldc2 (x := 4294967295) ctL_134 rfl dL_law_970 rfl ?_
  refine V_land dL_law_973 rfl ?_
  refine V_lor dL_law_974 rfl ?_
  obtain ⟨P6, c7, h⟩ := h
  refine V_callVi (st := []) (as := [II ((gX G (v3 + 1).toNat).toInt), II ((gX G (v3 + 2).toNat).toInt), II ((gX G (v3 + 3).toNat).toInt), JJ (lOr (lShl ((gX G (v3 + 4).toNat).toInt) 32) (lAnd ((gX G (v3 + 5).toNat).toInt) 4294967295))]) okX5_item rfl mlL_136 (by decide) kY0 rfl (Nat.le_of_ble_eq_true rfl) rfl dL_law_975 rfl c7 (fun r8 u9 e10 => ?_)
  have h := h r8 u9 e10
  refine V_aload_n 2 rfl dL_law_978 rfl ?_
  refine V_aload_n 0 rfl dL_law_979 rfl ?_
  refine V_iload_n 3 rfl dL_law_980 rfl ?_
  refine V_iconst dL_law_981 rfl ?_
  refine V_iadd dL_law_982 rfl ?_
  refine V_sld q1 dL_law_983 rfl ?_
  refine V_aload_n 0 rfl dL_law_984 rfl ?_
  refine V_iload_n 3 rfl dL_law_985 rfl ?_
  refine V_iconst dL_law_986 rfl ?_
  refine V_iadd dL_law_987 rfl ?_
  refine V_sld q2 dL_law_988 rfl ?_
  refine V_aload_n 0 rfl dL_law_989 rfl ?_
  refine V_iload_n 3 rfl dL_law_990 rfl ?_
  refine V_iconst dL_law_991 rfl ?_
  refine V_iadd dL_law_992 rfl ?_
  refine V_sld q3 dL_law_993 rfl ?_
  refine V_aload_n 0 rfl dL_law_994 rfl ?_
  refine V_iload_n 3 rfl dL_law_995 rfl ?_
  refine V_iconst dL_law_996 rfl ?_
  refine V_iadd dL_law_997 rfl ?_
  refine V_sld q4 dL_law_998 rfl ?_
  refine V_i2l (x32 _) dL_law_999 rfl ?_
  refine V_bipush (by decide) dL_law_1000 rfl ?_
  refine V_lshl dL_law_1002 rfl ?_
  refine V_aload_n 0 rfl dL_law_1003 rfl ?_
  refine V_iload_n 3 rfl dL_law_1004 rfl ?_
  refine V_iconst dL_law_1005 rfl ?_
  refine V_iadd dL_law_1006 rfl ?_
  refine V_sld q5 dL_law_1007 rfl ?_
  refine V_i2l (x32 _) dL_law_1008 rfl ?_
  refine V_ldc2 (x := 4294967295) ctL_134 rfl dL_law_1009 rfl ?_
  refine V_land dL_law_1012 rfl ?_
  refine V_lor dL_law_1013 rfl ?_
  obtain ⟨P11, c12, h⟩ := h
  refine V_callVi (st := [II r8]) (as := [II ((gX G (v3 + 1).toNat).toInt), II ((gX G (v3 + 2).toNat).toInt), II ((gX G (v3 + 3).toNat).toInt), JJ (lOr (lShl ((gX G (v3 + 4).toNat).toInt) 32) (lAnd ((gX G (v3 + 5).toNat).toInt) 4294967295))]) okX6_item rfl mlL_140 (by decide) kY132 rfl (Nat.le_of_ble_eq_true rfl) rfl dL_law_1014 rfl c12 (fun r13 u14 e15 => ?_)
  have h := h r13 u14 e15
  obtain ⟨q16, h⟩ := h
  obtain ⟨q17, h⟩ := h
  refine V_icmp_eq q16 q17 dL_law_1017 (g := 1085) rfl rfl ⟨fun hc => ?_, fun hc => ?_⟩
  · have h := h.1 hc
    refine V_iinc 3 rfl (ls2 := [(0, RR 900), (1, RR 0), (2, RR 132), (3, II (v3 + 6))]) dL_law_1085 rfl (by decide) rfl ?_
    refine V_goto (g := 18) dL_law_1088 rfl ?_
    exact h
  · have h := h.2 hc
    refine V_iconst dL_law_1020 rfl ?_
    exact V_iret dL_law_1021 (Or.inr ⟨rfl, by decide⟩) h
set_option maxRecDepth 100000 in
theorem sgL_law_1022 {G : GG} {Q : Int → Mem → Prop} {t : Mem} {v3 : Int}  (h : (0 ≤ v3 + 1 ∧ v3 + 1 < (gN G 4 : Int)) ∧ (0 ≤ v3 + 2 ∧ v3 + 2 < (gN G 4 : Int)) ∧ (0 ≤ v3 + 3 ∧ v3 + 3 < (gN G 4 : Int)) ∧ (0 ≤ v3 + 4 ∧ v3 + 4 < (gN G 4 : Int)) ∧ (0 ≤ v3 + 5 ∧ v3 + 5 < (gN G 4 : Int)) ∧ ∃ P6 : Int → Mem → Prop, Ex G mX5_copy [RR 0, II ((gX G (v3 + 1).toNat).toInt), II ((gX G (v3 + 2).toNat).toInt), II ((gX G (v3 + 3).toNat).toInt), II ((gX G (v3 + 4).toNat).toInt), II ((gX G (v3 + 5).toNat).toInt)] t P6 ∧ ∀ (r8 : Int) (u9 : Mem), P6 r8 u9 → ∃ P11 : Int → Mem → Prop, Ex G mX6_copy [RR 132, II ((gX G (v3 + 1).toNat).toInt), II ((gX G (v3 + 2).toNat).toInt), II ((gX G (v3 + 3).toNat).toInt), II ((gX G (v3 + 4).toNat).toInt), II ((gX G (v3 + 5).toNat).toInt)] u9 P11 ∧ ∀ (r13 : Int) (u14 : Mem), P11 r13 u14 → In32 r8 ∧ In32 r13 ∧ (r8 = r13 → V G mL_law 18 [(0, RR 900), (1, RR 0), (2, RR 132), (3, II (v3 + 6))] [] u14 Q) ∧ (¬ r8 = r13 → Q 0 u14)) : V G mL_law 1022 [(0, RR 900), (1, RR 0), (2, RR 132), (3, II v3)] [] t Q := by
  refine V_aload_n 1 rfl dL_law_1022 rfl ?_
  refine V_aload_n 0 rfl dL_law_1023 rfl ?_
  refine V_iload_n 3 rfl dL_law_1024 rfl ?_
  refine V_iconst dL_law_1025 rfl ?_
  refine V_iadd dL_law_1026 rfl ?_
  obtain ⟨q1, h⟩ := h
  refine V_sld q1 dL_law_1027 rfl ?_
  refine V_aload_n 0 rfl dL_law_1028 rfl ?_
  refine V_iload_n 3 rfl dL_law_1029 rfl ?_
  refine V_iconst dL_law_1030 rfl ?_
  refine V_iadd dL_law_1031 rfl ?_
  obtain ⟨q2, h⟩ := h
  refine V_sld q2 dL_law_1032 rfl ?_
  refine V_aload_n 0 rfl dL_law_1033 rfl ?_
  refine V_iload_n 3 rfl dL_law_1034 rfl ?_
  refine V_iconst dL_law_1035 rfl ?_
  refine V_iadd dL_law_1036 rfl ?_
  obtain ⟨q3, h⟩ := h
  refine V_sld q3 dL_law_1037 rfl ?_
  refine V_aload_n 0 rfl dL_law_1038 rfl ?_
  refine V_iload_n 3 rfl dL_law_1039 rfl ?_
  refine V_iconst dL_law_1040 rfl ?_
  refine V_iadd dL_law_1041 rfl ?_
  obtain ⟨q4, h⟩ := h
  refine V_sld q4 dL_law_1042 rfl ?_
  refine V_aload_n 0 rfl dL_law_1043 rfl ?_
  refine V_iload_n 3 rfl dL_law_1044 rfl ?_
  refine V_iconst dL_law_1045 rfl ?_
  refine V_iadd dL_law_1046 rfl ?_
  obtain ⟨q5, h⟩ := h
  refine V_sld q5 dL_law_1047 rfl ?_
  obtain ⟨P6, c7, h⟩ := h
  refine V_callVi (st := []) (as := [II ((gX G (v3 + 1).toNat).toInt), II ((gX G (v3 + 2).toNat).toInt), II ((gX G (v3 + 3).toNat).toInt), II ((gX G (v3 + 4).toNat).toInt), II ((gX G (v3 + 5).toNat).toInt)]) okX5_copy rfl mlL_141 (by decide) kY0 rfl (Nat.le_of_ble_eq_true rfl) rfl dL_law_1048 rfl c7 (fun r8 u9 e10 => ?_)
  have h := h r8 u9 e10
  refine V_aload_n 2 rfl dL_law_1051 rfl ?_
  refine V_aload_n 0 rfl dL_law_1052 rfl ?_
  refine V_iload_n 3 rfl dL_law_1053 rfl ?_
  refine V_iconst dL_law_1054 rfl ?_
  refine V_iadd dL_law_1055 rfl ?_
  refine V_sld q1 dL_law_1056 rfl ?_
  refine V_aload_n 0 rfl dL_law_1057 rfl ?_
  refine V_iload_n 3 rfl dL_law_1058 rfl ?_
  refine V_iconst dL_law_1059 rfl ?_
  refine V_iadd dL_law_1060 rfl ?_
  refine V_sld q2 dL_law_1061 rfl ?_
  refine V_aload_n 0 rfl dL_law_1062 rfl ?_
  refine V_iload_n 3 rfl dL_law_1063 rfl ?_
  refine V_iconst dL_law_1064 rfl ?_
  refine V_iadd dL_law_1065 rfl ?_
  refine V_sld q3 dL_law_1066 rfl ?_
  refine V_aload_n 0 rfl dL_law_1067 rfl ?_
  refine V_iload_n 3 rfl dL_law_1068 rfl ?_
  refine V_iconst dL_law_1069 rfl ?_
  refine V_iadd dL_law_1070 rfl ?_
  refine V_sld q4 dL_law_1071 rfl ?_
  refine V_aload_n 0 rfl dL_law_1072 rfl ?_
  refine V_iload_n 3 rfl dL_law_1073 rfl ?_
  refine V_iconst dL_law_1074 rfl ?_
  refine V_iadd dL_law_1075 rfl ?_
  refine V_sld q5 dL_law_1076 rfl ?_
  obtain ⟨P11, c12, h⟩ := h
  refine V_callVi (st := [II r8]) (as := [II ((gX G (v3 + 1).toNat).toInt), II ((gX G (v3 + 2).toNat).toInt), II ((gX G (v3 + 3).toNat).toInt), II ((gX G (v3 + 4).toNat).toInt), II ((gX G (v3 + 5).toNat).toInt)]) okX6_copy rfl mlL_145 (by decide) kY132 rfl (Nat.le_of_ble_eq_true rfl) rfl dL_law_1077 rfl c12 (fun r13 u14 e15 => ?_)
  have h := h r13 u14 e15
  obtain ⟨q16, h⟩ := h
  obtain ⟨q17, h⟩ := h
  refine V_icmp_eq q16 q17 dL_law_1080 (g := 1085) rfl rfl ⟨fun hc => ?_, fun hc => ?_⟩
  · have h := h.1 hc
    refine V_iinc 3 rfl (ls2 := [(0, RR 900), (1, RR 0), (2, RR 132), (3, II (v3 + 6))]) dL_law_1085 rfl (by decide) rfl ?_
    refine V_goto (g := 18) dL_law_1088 rfl ?_
    exact h
  · have h := h.2 hc
    refine V_iconst dL_law_1083 rfl ?_
    exact V_iret dL_law_1084 (Or.inr ⟨rfl, by decide⟩) h
