/-! the row behind a good caravan; the class -/
def rdV (L : Nat → Int) (n a b i : Nat) : Int := if i = 0 then bKd L n (bAt L n a b) else if i = 1 then bDy L n (bAt L n a b) else bHd L n (bAt L n a b)
def cvN (L : Nat → Int) (n c : Nat) (N : Nat → Int) : Nat → Int := fun j => if j = 0 then (nmR L n (wq1 L n)).1 else if j = 1 then (nmR L n (wq3 L n)).1 else if j = 7 ∨ j = 8 ∨ j = 9 ∨ j = 11 then 0 else if j = 10 then -4 else if j = 12 then (c : Int) else if 14 ≤ j ∧ j < 63 then (if (j - 14) / 7 < c ∧ (j - 14) % 7 < 3 then rdV L n (rdW L n).2 ((j - 14) / 7) ((j - 14) % 7) else 0) else N j
theorem cvN_bt {L : Nat → Int} {n c b i : Nat} {N : Nat → Int} (hb : b < 7) (hi : i < 7) : bt (cvN L n c N) b i = if b < c ∧ i < 3 then rdV L n (rdW L n).2 b i else 0 := by
  unfold bt cvN
  rw [if_neg (by omega), if_neg (by omega), if_neg (by omega), if_neg (by omega), if_neg (by omega), if_pos (by omega), show (14 + 7 * b + i - 14) / 7 = b by omega, show (14 + 7 * b + i - 14) % 7 = i by omega]
theorem cvN_k {L : Nat → Int} {n c j : Nat} {N : Nat → Int} (h : (2 ≤ j ∧ j ≤ 6) ∨ j = 13 ∨ 63 ≤ j) : cvN L n c N j = N j := by
  unfold cvN
  rw [if_neg (by omega), if_neg (by omega), if_neg (by omega), if_neg (by omega), if_neg (by omega), if_neg (by omega)]
theorem cvN_0 {L : Nat → Int} {n c j : Nat} {N : Nat → Int} (h : j = 7 ∨ j = 8 ∨ j = 9 ∨ j = 11) : cvN L n c N j = 0 := by
  unfold cvN
  rw [if_neg (by omega), if_neg (by omega), if_pos h]
theorem cvN_12 {L : Nat → Int} {n c : Nat} {N : Nat → Int} : cvN L n c N 12 = c := by
  unfold cvN
  rw [if_neg (by omega), if_neg (by omega), if_neg (by omega), if_neg (by omega), if_pos rfl]
theorem cvN_10 {L : Nat → Int} {n c : Nat} {N : Nat → Int} : cvN L n c N 10 = -4 := by
  unfold cvN
  rw [if_neg (by omega), if_neg (by omega), if_neg (by omega), if_pos rfl]
theorem rd_in {L : Nat → Int} {n a b : Nat} (o : bOk L n (bAt L n a b)) : (0 ≤ bKd L n (bAt L n a b) ∧ bKd L n (bAt L n a b) ≤ 3) ∧ (1 ≤ bDy L n (bAt L n a b) ∧ bDy L n (bAt L n a b) ≤ 9) ∧ (0 ≤ bHd L n (bAt L n a b) ∧ bHd L n (bAt L n a b) ≤ 1) := by
  refine ⟨⟨(kdL_ge o.1).1, (kdL_in _).2⟩, ?_, ?_⟩
  · unfold bDy; have := o.2; omega
  · unfold bHd; split <;> omega
theorem cvN_inv {L : Nat → Int} {n c : Nat} {m : Int} {N : Nat → Int} (hI : Inv m N) (hc : 1 ≤ c ∧ c ≤ 7) (ho : ∀ i, i < c → bOk L n (bAt L n (rdW L n).2 i)) (hw : 0 ≤ (nmR L n (wq1 L n)).1 ∧ (nmR L n (wq1 L n)).1 ≤ 60) (hd : 0 ≤ (nmR L n (wq3 L n)).1 ∧ (nmR L n (wq3 L n)).1 ≤ 20) : Inv 0 (cvN L n c N) := by
  have hh := hI.h
  unfold InH at hh
  refine ⟨by omega, ?_, fun b hb => ?_, fun b hb hn => ?_, fun b hb hn => ?_⟩
  · unfold InH
    rw [cvN_k (j := 2) (by omega), cvN_k (j := 3) (by omega), cvN_k (j := 4) (by omega), cvN_k (j := 5) (by omega), cvN_k (j := 6) (by omega), cvN_k (j := 13) (by omega), cvN_0 (j := 7) (by omega), cvN_0 (j := 8) (by omega), cvN_0 (j := 9) (by omega), cvN_0 (j := 11) (by omega), cvN_10, cvN_12, show cvN L n c N 0 = (nmR L n (wq1 L n)).1 from rfl, show cvN L n c N 1 = (nmR L n (wq3 L n)).1 from rfl]
    omega
  · unfold InB
    have hm := mk5_in (cvN L n c N) b
    have hn : need (cvN L n c N) b = 3 * bt (cvN L n c N) b 1 + bt (cvN L n c N) b 4 / 3 + mk5 (cvN L n c N) b := rfl
    rw [hn, cvN_bt hb (i := 3) (by omega), cvN_bt hb (i := 4) (by omega), cvN_bt hb (i := 5) (by omega), cvN_bt hb (i := 6) (by omega), cvN_bt hb (i := 0) (by omega), cvN_bt hb (i := 1) (by omega), cvN_bt hb (i := 2) (by omega)]
    rw [if_neg (show ¬ (b < c ∧ 3 < 3) by omega), if_neg (show ¬ (b < c ∧ 4 < 3) by omega), if_neg (show ¬ (b < c ∧ 5 < 3) by omega), if_neg (show ¬ (b < c ∧ 6 < 3) by omega)]
    by_cases q : b < c
    · have r := rd_in (ho b q)
      rw [if_pos (show b < c ∧ 0 < 3 by omega), if_pos (show b < c ∧ 1 < 3 by omega), if_pos (show b < c ∧ 2 < 3 by omega), show rdV L n (rdW L n).2 b 0 = bKd L n (bAt L n (rdW L n).2 b) from rfl, show rdV L n (rdW L n).2 b 1 = bDy L n (bAt L n (rdW L n).2 b) from rfl, show rdV L n (rdW L n).2 b 2 = bHd L n (bAt L n (rdW L n).2 b) from rfl]
      omega
    · rw [if_neg (show ¬ (b < c ∧ 0 < 3) by omega), if_neg (show ¬ (b < c ∧ 1 < 3) by omega), if_neg (show ¬ (b < c ∧ 2 < 3) by omega)]
      omega
  · rw [cvN_bt hb (by omega), cvN_bt hb (by omega), cvN_bt hb (by omega), cvN_bt hb (by omega), if_neg (by omega), if_neg (by omega), if_neg (by omega), if_neg (by omega)]
    exact ⟨rfl, rfl, rfl, rfl⟩
  · rw [cvN_12] at hn
    rw [cvN_bt hb (by omega), if_pos (by omega)]
    exact (rd_in (ho b (by omega))).2.1.1
theorem wr_sif {t : Mem} {a j y : Nat} {v : Int} : wr t a j v a y = if y = j then v else t a y := by
  by_cases h : y = j
  · rw [if_pos h, h, wr_ss]
  · rw [if_neg h, wr_sn h]
theorem crA_pos {L : Nat → Int} {n : Nat} (h : ¬ (crv L n).1 = -1) : ¬ crA L n ≤ 0 := by
  have := crv_in (L := L) (n := n)
  unfold crA; rw [if_neg h]; omega
theorem crA_neg {L : Nat → Int} {n : Nat} (h : (crv L n).1 = -1) : crA L n ≤ 0 := by
  unfold crA; rw [if_pos h]; omega
theorem crv_c {L : Nat → Int} {n c : Nat} (h : (crv L n).1 = (c : Int)) : 1 ≤ c ∧ c ≤ 7 := by
  have := crv_in (L := L) (n := n)
  omega
section CB
variable {G : GG} {L : Nat → Int} {n : Nat} {t : Mem}
theorem x_begin {a : Nat} (ha : IsMom a) {v : Int} : Ex G mX1_begin [RR a, II v] t (fun _ u => (u a 0 = v ∧ u a 1 = 0 ∧ u a 2 = 0 ∧ u a 3 = 0 ∧ u a 4 = 0 ∧ u a 5 = t a 5) ∧ (∀ b, b < 7 → u (a + 1) b = 0 ∧ u (a + 2) b = 0 ∧ u (a + 3) b = 0 ∧ u (a + 4) b = 0) ∧ ∀ x, x < a ∨ a + 4 < x → u x = t x) := by
  have lp : ∀ (dd k : Nat) (u : Mem), k + dd = 7 → (u a 0 = v ∧ u a 1 = 0 ∧ u a 2 = 0 ∧ u a 3 = 0 ∧ u a 4 = 0 ∧ u a 5 = t a 5) → (∀ b, b < k → u (a + 1) b = 0 ∧ u (a + 2) b = 0 ∧ u (a + 3) b = 0 ∧ u (a + 4) b = 0) → (∀ x, x < a ∨ a + 4 < x → u x = t x) → V G mX1_begin 27 [(0, RR a), (1, II v), (2, II (k : Int))] [] u (fun _ u => (u a 0 = v ∧ u a 1 = 0 ∧ u a 2 = 0 ∧ u a 3 = 0 ∧ u a 4 = 0 ∧ u a 5 = t a 5) ∧ (∀ b, b < 7 → u (a + 1) b = 0 ∧ u (a + 2) b = 0 ∧ u (a + 3) b = 0 ∧ u (a + 4) b = 0) ∧ ∀ x, x < a ∨ a + 4 < x → u x = t x) := by
    intro dd
    induction dd with
    | zero =>
      intro k u hk h1 h2 h3
      exact sgX1_begin_27 ha ⟨i32 (by omega) (by omega), br_t (by omega) ⟨h1, fun b hb => h2 b (by omega), h3⟩⟩
    | succ dd ih =>
      intro k u hk h1 h2 h3
      refine sgX1_begin_27 ha ⟨i32 (by omega) (by omega), br_f (by omega) ⟨by omega, ?_⟩⟩
      rw [Int.toNat_natCast]
      intro u2 e2 u5 e5 u7 e7 u9 e9
      refine ih (k + 1) u9 (by omega) ?_ (fun b hb => ?_) (fun x hx => by rw [e9, wr_n (by omega), e7, wr_n (by omega), e5, wr_n (by omega), e2, wr_n (by omega)]; exact h3 x hx)
      · rw [e9, wr_n (by omega), e7, wr_n (by omega), e5, wr_n (by omega), e2, wr_n (by omega)]; exact h1
      · have z : ∀ i, 1 ≤ i → i ≤ 4 → u9 (a + i) b = if b = k then 0 else u (a + i) b := fun i i1 i4 => by
          rcases (by omega : i = 1 ∨ i = 2 ∨ i = 3 ∨ i = 4) with rfl | rfl | rfl | rfl
          · rw [e9, wr_n (by omega), e7, wr_n (by omega), e5, wr_n (by omega), e2, wr_sif]
          · rw [e9, wr_n (by omega), e7, wr_n (by omega), e5, wr_sif, e2, wr_n (by omega)]
          · rw [e9, wr_n (by omega), e7, wr_sif, e5, wr_n (by omega), e2, wr_n (by omega)]
          · rw [e9, wr_sif, e7, wr_n (by omega), e5, wr_n (by omega), e2, wr_n (by omega)]
        rw [z 1 (by omega) (by omega), z 2 (by omega) (by omega), z 3 (by omega) (by omega), z 4 (by omega) (by omega)]
        by_cases e : b = k
        · rw [if_pos e, if_pos e, if_pos e, if_pos e]; exact ⟨rfl, rfl, rfl, rfl⟩
        · rw [if_neg e, if_neg e, if_neg e, if_neg e]; exact h2 b (by omega)
  refine eX1_begin (sgX1_begin_0 ha (fun u1 e1 u3 e3 u5 e5 u7 e7 u9 e9 => ?_))
  refine lp 7 0 u9 (by omega) ?_ (fun b hb => absurd hb (Nat.not_lt_zero b)) (fun x hx => by rw [e9, wr_n (by omega), e7, wr_n (by omega), e5, wr_n (by omega), e3, wr_n (by omega), e1, wr_n (by omega)])
  rw [e9, e7, e5, e3, e1]
  simp only [wr_at]
  simp
theorem x_caravan {m : Int} {N : Nat → Int} (hT : TT t L n) (hC : CampR t 1 N) (hM : MomR t 7 N) (hI : Inv m N) : Ex G mX5_caravan [RR 0] t (fun r u => r = crA L n ∧ u 121 1 = 0 ∧ (∀ x, x = 0 ∨ (54 ≤ x ∧ x < 107) ∨ 121 < x → u x = t x) ∧ ((crv L n).1 = -1 → ∀ x, x < 107 → u x = t x) ∧ (¬ (crv L n).1 = -1 → ∃ c : Nat, (crv L n).1 = c ∧ (1 ≤ c ∧ c ≤ 7) ∧ CampR u 1 (cvN L n c N) ∧ MomR u 7 (cvN L n c N) ∧ Inv 0 (cvN L n c N) ∧ (∀ i, i < c → bOk L n (bAt L n (rdW L n).2 i)) ∧ u 12 1 = t 12 1 ∧ u 12 2 = 0)) := by
  have h60 := hT.2.1
  have ci := crv_in (L := L) (n := n)
  refine eX5_caravan (sgX5_caravan_0 (cqv (x_ctake is107 is1 (by decide)) (fun u4 h4 => ?_)))
  refine cq (x_readInto (hT.kept (by rw [h4.2.2 121 (by omega)]) (h4.2.2 122 (by omega)))) (fun r u9 h9 u11 e11 => ?_)
  obtain ⟨rfl, k1, k2, k3, k4⟩ := h9
  refine ⟨crA_in h60, ?_⟩
  have o11 : ∀ x, x < 107 ∨ 112 < x → x ≠ 121 → u11 x = t x := fun x a b => by rw [e11, wr_n b, k3 x (by omega) b, h4.2.2 x (by omega)]
  have z11 : u11 121 1 = 0 := by rw [e11, wr_ss]
  by_cases q : (crv L n).1 = -1
  · have ea : crA L n = -20 - ((crv L n).2 : Int) := by unfold crA; rw [if_pos q]
    exact br_t (crA_neg q) ⟨rfl, z11, fun x hx => o11 x (by omega) (by omega), fun _ x hx => o11 x (by omega) (by omega), fun z => absurd q z⟩
  · have ea : crA L n = (crv L n).1 := by unfold crA; rw [if_neg q]
    refine br_f (crA_pos q) (cqv (x_ctake is1 is107 (by decide)) (fun u17 h17 => cqv (x_begin is7) (fun u22 h22 => ckv (x_forget is12) ⟨rfl, ?_, fun x hx => ?_, fun z => absurd z q, fun _ => ?_⟩)))
    · rw [wr_n (by decide), h22.2.2 121 (by omega), h17.2.2 121 (by omega)]; exact z11
    · rw [wr_n (by omega), h22.2.2 x (by omega), h17.2.2 x (by omega), o11 x (by omega) (by omega)]
    · obtain ⟨c, c1, c2, c3, c4, c5, c6, c7, c8⟩ := k4 q
      have hc : 1 ≤ c ∧ c ≤ 7 := crv_c c1
      clear k4
      have ho : ∀ i, i < c → bOk L n (bAt L n (rdW L n).2 i) := fun i hi => (c4 i hi).1
      have w3 : u17 121 3 = (nmR L n (wq1 L n)).1 := by rw [h17.2.2 121 (by omega), e11, wr_sn (by decide)]; exact c5
      rw [w3] at h22
      have e107 : ∀ x, x ≠ 121 → u11 x = u9 x := fun x hx => by rw [e11, wr_n hx]
      have i1 : ∀ x, x < 7 → u22 x = u17 x := fun x hx => h22.2.2 x (by omega)
      refine ⟨c, c1, hc, ?_, ?_, cvN_inv hI hc ho c7 c8, ho, ?_, wr_ss⟩
      · unfold CampR
        rw [cvN_k (j := 2) (by omega), cvN_k (j := 3) (by omega), cvN_k (j := 4) (by omega), cvN_k (j := 5) (by omega), cvN_k (j := 6) (by omega), cvN_10, cvN_12, show cvN L n c N 1 = (nmR L n (wq3 L n)).1 from rfl]
        rw [wr_n (by decide), wr_n (by decide), wr_n (by decide), wr_n (by decide), wr_n (by decide), i1 1 (by omega), i1 (1 + 1) (by omega), i1 (1 + 2) (by omega), i1 (1 + 3) (by omega), i1 (1 + 4) (by omega)]
        have g : ∀ j, j < 8 → u17 1 j = u9 107 j := fun j hj => by rw [h17.1 j hj, e107 107 (by decide)]
        have g2 : ∀ j, 1 ≤ j → j ≤ 5 → u9 107 j = t 1 j := fun j a b => by rw [k2 j (by omega) (by omega) (by omega), h4.1 j (by omega)]
        refine ⟨?_, fun b hb hn => ?_⟩
        · rw [g 0 (by omega), g 1 (by omega), g 2 (by omega), g 3 (by omega), g 4 (by omega), g 5 (by omega), g 6 (by omega), g 7 (by omega), g2 1 (by omega) (by omega), g2 2 (by omega) (by omega), g2 3 (by omega) (by omega), g2 4 (by omega) (by omega), g2 5 (by omega) (by omega), c6, c3, c2]
          exact ⟨rfl, hC.1.2.1, hC.1.2.2.1, hC.1.2.2.2.1, hC.1.2.2.2.2.1, hC.1.2.2.2.2.2.1, rfl, rfl⟩
        · have hbc : b < c := by omega
          have cb := c4 b hbc
          rw [h17.2.1 1 b (by omega) (by omega) hb, h17.2.1 2 b (by omega) (by omega) hb, h17.2.1 3 b (by omega) (by omega) hb, h17.2.1 4 b (by omega) (by omega) hb, e107 (107 + 1) (by decide), e107 (107 + 2) (by decide), e107 (107 + 3) (by decide), e107 (107 + 4) (by decide)]
          have m5 : mk5 (cvN L n c N) b = if bKd L n (bAt L n (rdW L n).2 b) = 1 ∨ bKd L n (bAt L n (rdW L n).2 b) = 3 then 5 else 0 := by
            unfold mk5
            rw [cvN_bt hb (by omega), if_pos (show b < c ∧ 0 < 3 by omega)]; rfl
          rw [m5, cvN_bt hb (by omega), cvN_bt hb (by omega), cvN_bt hb (by omega), if_pos (show b < c ∧ 0 < 3 by omega), if_pos (show b < c ∧ 1 < 3 by omega), if_pos (show b < c ∧ 2 < 3 by omega)]
          exact cb.2
      · unfold MomR MomG
        rw [cvN_k (j := 13) (by omega), cvN_0 (j := 7) (by omega), cvN_0 (j := 8) (by omega), cvN_0 (j := 9) (by omega), cvN_0 (j := 11) (by omega), show cvN L n c N 0 = (nmR L n (wq1 L n)).1 from rfl]
        rw [wr_n (by decide), wr_n (by decide), wr_n (by decide), wr_n (by decide), wr_n (by decide)]
        refine ⟨?_, fun b hb => ?_⟩
        · have e5 : u17 7 5 = N 13 := by rw [h17.2.2 7 (by omega), o11 7 (by omega) (by decide)]; exact hM.1.2.2.2.2.2
          rw [e5] at h22; exact h22.1
        · rw [cvN_bt hb (by omega), cvN_bt hb (by omega), cvN_bt hb (by omega), cvN_bt hb (by omega), if_neg (by omega), if_neg (by omega), if_neg (by omega), if_neg (by omega)]
          exact h22.2.1 b hb
      · rw [wr_sn (by decide), h22.2.2 12 (by omega), h17.2.2 12 (by omega), o11 12 (by omega) (by decide)]
end CB
