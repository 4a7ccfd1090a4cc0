/-! sheet, drop, copy -/
/-- what the class has done to sheet k when the reference has not yet -/
def XSh (t u : Mem) (k : Nat) : Prop := ∀ x, x ≠ 124 + 2 * k → x ≠ 125 + 2 * k → u x = t x
theorem Rel.sh {t u w : Mem} {k : Nat} (h : Rel t) (hk : k < 4) (hu : XSh t u k) (hw : ∀ x, x ≠ 141 → x ≠ 142 → x ≠ 143 → x ≠ 144 → w x = u x) (h1 : ∀ q, q < 4 → q ≠ k → w 141 q = u 141 q ∧ w 142 q = u 142 q) (h3 : ∀ y, y < 24 * k ∨ 24 * k + 24 ≤ y → w 143 y = u 143 y) (hS : SheetR w k) : Rel w := by
  have ne : ∀ x, x < 124 ∨ (131 < x ∧ x < 141) → w x = t x := fun x hx => by rw [hw x (by omega) (by omega) (by omega) (by omega), hu x (by omega) (by omega)]
  refine h.io (fun x hx => ne x (by omega)) (fun j _ _ _ => by rw [ne 132 (by omega)]) (h.tape.kept (by rw [ne 121 (by omega)]) (ne 122 (by omega)) (by rw [ne 132 (by omega)]) (ne 138 (by omega))) (fun q hq => ?_)
  by_cases e : q = k
  · rw [e]; exact hS
  · obtain ⟨a1, a2, a3⟩ := h.sheets q hq
    obtain ⟨b1, b2⟩ := h1 q hq e
    have c1 : w (124 + 2 * q) = t (124 + 2 * q) := by rw [hw _ (by omega) (by omega) (by omega) (by omega), hu _ (by omega) (by omega)]
    have c2 : w (125 + 2 * q) = t (125 + 2 * q) := by rw [hw _ (by omega) (by omega) (by omega) (by omega), hu _ (by omega) (by omega)]
    have d1 : w 141 q = t 141 q := by rw [b1, hu 141 (by omega) (by omega)]
    have d2 : w 142 q = t 142 q := by rw [b2, hu 142 (by omega) (by omega)]
    unfold SheetR
    rw [c1, c2, d1, d2]
    refine ⟨a1, a2, fun h0 => ⟨(a3 h0).1, (a3 h0).2.1, fun i hi => ?_⟩⟩
    rw [h3 (24 * q + i) (by omega), hu 143 (by omega) (by omega)]
    exact (a3 h0).2.2 i hi
section SI
variable {G : GG} {t : Mem}
theorem s_sheet {k l n : Int} (hk : In32 k) (hl : In32 l) (hn : In32 n) (hR : Rel t) : Step G mX5_sheet [RR 0, II k, II l, II n] mX6_sheet [RR 132, II k, II l, II n] t := by
  have ns := x_noSheet (G := G) (t := t) hk
  have is := c_isSheet (G := G) (t := t) hk
  by_cases c : 0 ≤ k ∧ k ≤ 3
  · rw [if_pos c] at ns is
    have il := c_isLane (G := G) (t := t) hl
    by_cases d : 0 ≤ l ∧ l ≤ 3
    · rw [if_pos d] at il
      by_cases e : n ≤ 24
      · by_cases f : 0 ≤ n
        · obtain ⟨q, rfl⟩ : ∃ q : Nat, k = q := ⟨k.toNat, by omega⟩
          have hq : q < 4 := by omega
          refine ⟨n, fun u => (u (124 + 2 * q) 0 = l ∧ u (124 + 2 * q) 1 = n ∧ (∀ i, i < 24 → u (125 + 2 * q) i = 0)) ∧ XSh t u q, hn, eX5_sheet (sgX5_sheet_0 (ck ns ⟨iL rfl, nb_f rfl (ck (x_out0 (iL rfl) (iL rfl) d) ⟨iL rfl, nb_f rfl ⟨hn, br_t e (br_t f ⟨by omega, ?_⟩)⟩⟩)⟩)), fun u hu => ?_⟩
          · rw [Int.toNat_natCast]
            exact cqv (x_renew hq) (fun u h => ⟨rfl, ⟨h.1, h.2.1, h.2.2.1⟩, h.2.2.2⟩)
          · obtain ⟨⟨u1, u2, u3⟩, u4⟩ := hu
            have is2 := c_isSheet (G := G) (t := u) hk
            rw [if_pos c] at is2
            have il2 := c_isLane (G := G) (t := u) hl
            rw [if_pos d] at il2
            have lp : ∀ (dd i : Nat) (w : Mem), i + dd = 24 → w 141 q = l → w 142 q = n → (∀ y, y < i → w 143 (24 * q + y) = 0) → (∀ y, y < 24 * q ∨ 24 * q + 24 ≤ y → w 143 y = u 143 y) → (∀ p, p ≠ q → w 141 p = u 141 p ∧ w 142 p = u 142 p) → (∀ x, x ≠ 141 → x ≠ 142 → x ≠ 143 → w x = u x) → V G mX6_sheet 46 [(0, RR 132), (1, II (q : Int)), (2, II l), (3, II n), (4, II (i : Int))] [] w (fun r w => r = n ∧ Rel w) := by
              intro dd
              induction dd with
              | zero =>
                intro i w hi w1 w2 w3 w4 w5 w6
                refine sgX6_sheet_46 ⟨i32 (by omega) (by omega), br_t (by omega) ⟨rfl, hR.sh hq u4 (fun x a b c _ => w6 x a b c) (fun p _ hp => w5 p hp) w4 ?_⟩⟩
                unfold SheetR
                rw [w1, w2, w6 _ (by omega) (by omega) (by omega), w6 _ (by omega) (by omega) (by omega), u1, u2]
                exact ⟨rfl, by omega, fun _ => ⟨rfl, ⟨f, e⟩, fun y hy => by rw [u3 y hy, w3 y (by omega)]; exact ⟨rfl, jL rfl⟩⟩⟩
              | succ dd ih =>
                intro i w hi w1 w2 w3 w4 w5 w6
                refine sgX6_sheet_46 ⟨i32 (by omega) (by omega), br_f (by omega) ⟨by omega, fun w9 e9 => ?_⟩⟩
                rw [show ((24 * (q : Int)) + (i : Int)).toNat = 24 * q + i by omega] at e9
                rw [e9]
                refine ih (i + 1) _ (by omega) (by rw [wr_n (by decide)]; exact w1) (by rw [wr_n (by decide)]; exact w2) (fun y hy => ?_) (fun y hy => by rw [wr_sn (by omega)]; exact w4 y hy) (fun p hp => by rw [wr_n (by decide), wr_n (by decide)]; exact w5 p hp) (fun x a b c => by rw [wr_n c, w6 x a b c])
                by_cases z : y = i
                · rw [z, wr_ss]
                · rw [wr_sn (by omega)]; exact w3 y (by omega)
            refine eX6_sheet (sgX6_sheet_0 (ck is2 ⟨iL rfl, br_f (by decide) (ck il2 ⟨iL rfl, br_f (by decide) ⟨hn, br_t e (br_t f ⟨by omega, fun u14 e14 u17 e17 => ?_⟩)⟩⟩)⟩))
            rw [Int.toNat_natCast] at e14 e17
            refine lp 24 0 u17 (by omega) (by rw [e17, wr_n (by decide), e14, wr_ss]) (by rw [e17, wr_ss]) (fun y hy => absurd hy (Nat.not_lt_zero y)) (fun y _ => by rw [e17, wr_n (by decide), e14, wr_n (by decide)]) (fun p hp => ⟨by rw [e17, wr_n (by decide), e14, wr_sn hp], by rw [e17, wr_sn hp, e14, wr_n (by decide)]⟩) (fun x a b c => by rw [e17, wr_n b, e14, wr_n a])
        · exact Step.pure (v := -14) hR (iL rfl) (eX5_sheet (sgX5_sheet_0 (ck ns ⟨iL rfl, nb_f rfl (ck (x_out0 (iL rfl) (iL rfl) d) ⟨iL rfl, nb_f rfl ⟨hn, br_t e (br_f f ⟨rfl, rfl⟩)⟩⟩)⟩))) (eX6_sheet (sgX6_sheet_0 (ck is ⟨iL rfl, br_f (by decide) (ck il ⟨iL rfl, br_f (by decide) ⟨hn, br_t e (br_f f ⟨rfl, rfl⟩)⟩⟩)⟩)))
      · exact Step.pure (v := -1) hR (iL rfl) (eX5_sheet (sgX5_sheet_0 (ck ns ⟨iL rfl, nb_f rfl (ck (x_out0 (iL rfl) (iL rfl) d) ⟨iL rfl, nb_f rfl ⟨hn, br_f e ⟨rfl, rfl⟩⟩⟩)⟩))) (eX6_sheet (sgX6_sheet_0 (ck is ⟨iL rfl, br_f (by decide) (ck il ⟨iL rfl, br_f (by decide) ⟨hn, br_f e ⟨rfl, rfl⟩⟩⟩)⟩)))
    · rw [if_neg d] at il
      exact Step.pure (v := -1) hR (iL rfl) (eX5_sheet (sgX5_sheet_0 (ck ns ⟨iL rfl, nb_f rfl (ck (x_out1 hl (iL rfl) (iL rfl) d) ⟨iL rfl, nb_t (by decide) ⟨rfl, rfl⟩⟩)⟩))) (eX6_sheet (sgX6_sheet_0 (ck is ⟨iL rfl, br_f (by decide) (ck il ⟨iL rfl, br_t rfl ⟨rfl, rfl⟩⟩)⟩)))
  · rw [if_neg c] at ns is
    exact Step.pure (v := -1) hR (iL rfl) (eX5_sheet (sgX5_sheet_0 (ck ns ⟨iL rfl, nb_t (by decide) ⟨rfl, rfl⟩⟩))) (eX6_sheet (sgX6_sheet_0 (ck is ⟨iL rfl, br_t rfl ⟨rfl, rfl⟩⟩)))
theorem s_drop {k : Int} (hk : In32 k) (hR : Rel t) : Step G mX5_drop [RR 0, II k] mX6_drop [RR 132, II k] t := by
  have ns := x_noSheet (G := G) (t := t) hk
  have is := c_isSheet (G := G) (t := t) hk
  by_cases c : 0 ≤ k ∧ k ≤ 3
  · rw [if_pos c] at ns is
    obtain ⟨q, rfl⟩ : ∃ q : Nat, k = q := ⟨k.toNat, by omega⟩
    have hq : q < 4 := by omega
    obtain ⟨s1, s2, s3⟩ := hR.sheets q hq
    by_cases e : t 141 q = -1
    · refine Step.pure (v := -11) hR (iL rfl) (eX5_drop (sgX5_drop_0 (ck ns ⟨iL rfl, br_t rfl ⟨by omega, ?_⟩⟩))) (eX6_drop (sgX6_drop_0 (ck is ⟨iL rfl, nb_t (by decide) ⟨by omega, ?_⟩⟩)))
      · rw [Int.toNat_natCast, s1]; exact ⟨i32 (by omega) (by omega), nb_f e ⟨rfl, rfl⟩⟩
      · rw [Int.toNat_natCast]; exact ⟨i32 (by omega) (by omega), br_f (by omega) ⟨rfl, rfl⟩⟩
    · obtain ⟨s4, s5, s6⟩ := s3 (by omega)
      refine ⟨t 142 q, fun u => (u (124 + 2 * q) 0 = -1) ∧ XSh t u q, i32 (by omega) (by omega), eX5_drop (sgX5_drop_0 (ck ns ⟨iL rfl, br_t rfl ⟨by omega, ?_⟩⟩)), fun u hu => ?_⟩
      · rw [Int.toNat_natCast, s1]
        exact ⟨i32 (by omega) (by omega), nb_t e (cqv (x_renew hq) (fun u h => ⟨s4, h.1, h.2.2.2⟩))⟩
      · have is2 := c_isSheet (G := G) (t := u) hk
        rw [if_pos c] at is2
        have u141 : u 141 = t 141 := hu.2 141 (by omega) (by omega)
        have u142 : u 142 = t 142 := hu.2 142 (by omega) (by omega)
        refine eX6_drop (sgX6_drop_0 (ck is2 ⟨iL rfl, nb_t (by decide) ⟨by omega, ?_⟩⟩))
        rw [Int.toNat_natCast, u141]
        refine ⟨i32 (by omega) (by omega), br_t (by omega) (fun u9 e9 => ⟨by rw [e9, wr_n (by decide), u142], ?_⟩)⟩
        rw [e9]
        refine hR.sh hq hu.2 (fun x a _ _ _ => wr_n a) (fun p _ hp => ⟨wr_sn hp, by rw [wr_n (by decide)]⟩) (fun y _ => by rw [wr_n (by decide)]) ?_
        unfold SheetR
        rw [wr_ss, wr_n (by omega)]
        exact ⟨hu.1, by omega, fun z => absurd z (by decide)⟩
  · rw [if_neg c] at ns is
    exact Step.pure (v := -1) hR (iL rfl) (eX5_drop (sgX5_drop_0 (ck ns ⟨iL rfl, br_f (by decide) ⟨rfl, rfl⟩⟩))) (eX6_drop (sgX6_drop_0 (ck is ⟨iL rfl, nb_f rfl ⟨rfl, rfl⟩⟩)))
end SI
