/-! copy -/
theorem rfN_in (t : Mem) (k : Nat) (l i n : Int) : In32 (rfN t k l i n) := by
  unfold rfN
  repeat' split
  all_goals exact iL rfl
section SC
variable {G : GG} {t : Mem}
theorem c_copy {p q i j n : Nat} {v6 : Int} {Q : Int → Mem → Prop} (hp : p < 4) (hq : q < 4) (hi : i + n ≤ 24) (hj : j + n ≤ 24) (hQ : ∀ w : Mem, (∀ y, y < n → w 143 (24 * q + j + y) = t 143 (24 * p + i + y)) → (∀ y, y < 24 * q + j ∨ 24 * q + j + n ≤ y → w 143 y = t 143 y) → (∀ x, x ≠ 143 → x ≠ 144 → w x = t x) → Q (n : Int) w) : V G mX6_copy 91 [(0, RR 132), (1, II (p : Int)), (2, II (i : Int)), (3, II (q : Int)), (4, II (j : Int)), (5, II (n : Int)), (6, II v6), (7, II 0)] [] t Q := by
  have l2 : ∀ (dd k : Nat) (w : Mem), k + dd = n → (∀ y, y < n → w 144 y = t 143 (24 * p + i + y)) → (∀ y, y < k → w 143 (24 * q + j + y) = t 143 (24 * p + i + y)) → (∀ y, y < 24 * q + j ∨ 24 * q + j + n ≤ y → w 143 y = t 143 y) → (∀ x, x ≠ 143 → x ≠ 144 → w x = t x) → V G mX6_copy 128 [(0, RR 132), (1, II (p : Int)), (2, II (i : Int)), (3, II (q : Int)), (4, II (j : Int)), (5, II (n : Int)), (6, II v6), (7, II (k : Int))] [] w Q := by
    intro dd
    induction dd with
    | zero =>
      intro k w hk h1 h2 h3 h4
      exact sgX6_copy_128 ⟨i32 (by omega) (by omega), i32 (by omega) (by omega), br_t (by omega) (hQ w (fun y hy => h2 y (by omega)) h3 h4)⟩
    | succ dd ih =>
      intro k w hk h1 h2 h3 h4
      refine sgX6_copy_128 ⟨i32 (by omega) (by omega), i32 (by omega) (by omega), br_f (by omega) ⟨by omega, by omega, fun u4 e4 => ?_⟩⟩
      rw [Int.toNat_natCast, show (((24 * (q : Int)) + (j : Int)) + (k : Int)).toNat = 24 * q + j + k by omega] at e4
      rw [e4]
      refine ih (k + 1) _ (by omega) (fun y hy => by rw [wr_n (by decide)]; exact h1 y hy) (fun y hy => ?_) (fun y hy => by rw [wr_sn (by omega)]; exact h3 y hy) (fun x a b => by rw [wr_n a, h4 x a b])
      by_cases z : y = k
      · rw [z, wr_ss, h1 k (by omega)]
      · rw [wr_sn (by omega)]; exact h2 y (by omega)
  have l1 : ∀ (dd k : Nat) (w : Mem), k + dd = n → (∀ y, y < k → w 144 y = t 143 (24 * p + i + y)) → (∀ x, x ≠ 144 → w x = t x) → V G mX6_copy 91 [(0, RR 132), (1, II (p : Int)), (2, II (i : Int)), (3, II (q : Int)), (4, II (j : Int)), (5, II (n : Int)), (6, II v6), (7, II (k : Int))] [] w Q := by
    intro dd
    induction dd with
    | zero =>
      intro k w hk h1 h2
      refine sgX6_copy_91 ⟨i32 (by omega) (by omega), i32 (by omega) (by omega), br_t (by omega) ?_⟩
      exact l2 n 0 w (by omega) (fun y hy => h1 y (by omega)) (fun y hy => absurd hy (Nat.not_lt_zero y)) (fun y _ => by rw [h2 143 (by decide)]) (fun x _ b => h2 x b)
    | succ dd ih =>
      intro k w hk h1 h2
      refine sgX6_copy_91 ⟨i32 (by omega) (by omega), i32 (by omega) (by omega), br_f (by omega) ⟨by omega, by omega, fun u4 e4 => ?_⟩⟩
      rw [Int.toNat_natCast, show (((24 * (p : Int)) + (i : Int)) + (k : Int)).toNat = 24 * p + i + k by omega] at e4
      rw [e4]
      refine ih (k + 1) _ (by omega) (fun y hy => ?_) (fun x b => by rw [wr_n b, h2 x b])
      by_cases z : y = k
      · rw [z, wr_ss, h2 143 (by decide)]
      · rw [wr_sn z]; exact h1 y (by omega)
  exact l1 n 0 t (by omega) (fun y hy => absurd hy (Nat.not_lt_zero y)) (fun _ _ => rfl)
theorem s_copy {a i b j n : Int} (ha : In32 a) (hi : In32 i) (hb : In32 b) (hj : In32 j) (hn : In32 n) (hR : Rel t) : Step G mX5_copy [RR 0, II a, II i, II b, II j, II n] mX6_copy [RR 132, II a, II i, II b, II j, II n] t := by
  have na := x_noSheet (G := G) (t := t) ha
  have ia := c_isSheet (G := G) (t := t) ha
  have nb := x_noSheet (G := G) (t := t) hb
  have ib := c_isSheet (G := G) (t := t) hb
  by_cases c : 0 ≤ a ∧ a ≤ 3
  · rw [if_pos c] at na ia
    by_cases d : 0 ≤ b ∧ b ≤ 3
    · rw [if_pos d] at nb ib
      obtain ⟨p, rfl⟩ : ∃ p : Nat, a = p := ⟨a.toNat, by omega⟩
      obtain ⟨q, rfl⟩ : ∃ q : Nat, b = q := ⟨b.toNat, by omega⟩
      have hp : p < 4 := by omega
      have hq : q < 4 := by omega
      have hSp := hR.sheets p hp
      have hSq := hR.sheets q hq
      obtain ⟨p1, p2, p3⟩ := hSp
      obtain ⟨q1, q2, q3⟩ := hSq
      by_cases e : t 141 p = -1
      · refine Step.pure (v := -11) hR (iL rfl) (eX5_copy (sgX5_copy_0 (ck na ⟨iL rfl, nb_f rfl (ck nb ⟨iL rfl, br_t rfl ⟨by omega, by omega, ?_⟩⟩)⟩))) (eX6_copy (sgX6_copy_0 (ck ia ⟨iL rfl, br_f (by decide) (ck ib ⟨iL rfl, nb_t (by decide) ⟨by omega, ?_⟩⟩)⟩)))
        · rw [Int.toNat_natCast, p1]; exact ⟨i32 (by omega) (by omega), br_t e ⟨rfl, rfl⟩⟩
        · rw [Int.toNat_natCast]; exact ⟨i32 (by omega) (by omega), br_t (by omega) ⟨rfl, rfl⟩⟩
      · obtain ⟨p4, p5, p6⟩ := p3 (by omega)
        by_cases f : t 141 q = -1
        · refine Step.pure (v := -11) hR (iL rfl) (eX5_copy (sgX5_copy_0 (ck na ⟨iL rfl, nb_f rfl (ck nb ⟨iL rfl, br_t rfl ⟨by omega, by omega, ?_⟩⟩)⟩))) (eX6_copy (sgX6_copy_0 (ck ia ⟨iL rfl, br_f (by decide) (ck ib ⟨iL rfl, nb_t (by decide) ⟨by omega, ?_⟩⟩)⟩)))
          · rw [Int.toNat_natCast, Int.toNat_natCast, p1, q1]; exact ⟨i32 (by omega) (by omega), br_f e ⟨i32 (by omega) (by omega), nb_f f ⟨rfl, rfl⟩⟩⟩
          · rw [Int.toNat_natCast, Int.toNat_natCast]; exact ⟨i32 (by omega) (by omega), br_f (by omega) ⟨by omega, i32 (by omega) (by omega), br_f (by omega) ⟨rfl, rfl⟩⟩⟩
        · obtain ⟨q4, q5, q6⟩ := q3 (by omega)
          by_cases g : t 141 p = t 141 q
          · have lp := x_slacks (G := G) (t := t) hp hi hn (by rw [p4]; exact p5)
            have lq := x_slacks (G := G) (t := t) hq hj hn (by rw [q4]; exact q5)
            rw [p4] at lp
            rw [q4] at lq
            have wq := c_why (G := G) hq (hR.sheets q hq) (l := t 141 p) (i32 (by omega) (by omega)) hj hn
            have wp := c_why (G := G) hp (hR.sheets p hp) (l := t 141 p) (i32 (by omega) (by omega)) hi hn
            have eq : rfN t q (t 141 p) j n = if 0 ≤ j ∧ 0 ≤ n ∧ j + n ≤ t 142 q then 0 else -13 := by unfold rfN; rw [if_neg f, if_pos g.symm]
            have ep : rfN t p (t 141 p) i n = if 0 ≤ i ∧ 0 ≤ n ∧ i + n ≤ t 142 p then 0 else -13 := by unfold rfN; rw [if_neg e, if_pos rfl]
            rw [eq] at wq
            rw [ep] at wp
            by_cases z1 : 0 ≤ i ∧ 0 ≤ n ∧ i + n ≤ t 142 p
            · rw [if_pos z1] at lp wp
              by_cases z2 : 0 ≤ j ∧ 0 ≤ n ∧ j + n ≤ t 142 q
              · rw [if_pos z2] at lq wq
                obtain ⟨x, rfl⟩ : ∃ x : Nat, i = x := ⟨i.toNat, by omega⟩
                obtain ⟨y, rfl⟩ : ∃ y : Nat, j = y := ⟨j.toNat, by omega⟩
                obtain ⟨s, rfl⟩ : ∃ s : Nat, n = s := ⟨n.toNat, by omega⟩
                refine ⟨(s : Int), fun u => u = cpy t (125 + 2 * p) x (125 + 2 * q) y s, hn, eX5_copy (sgX5_copy_0 (ck na ⟨iL rfl, nb_f rfl (ck nb ⟨iL rfl, br_t rfl ⟨by omega, by omega, ?_⟩⟩)⟩)), fun u hu => ?_⟩
                · rw [Int.toNat_natCast, Int.toNat_natCast, p1, q1]
                  refine ⟨i32 (by omega) (by omega), br_f e ⟨i32 (by omega) (by omega), nb_t f (br_t g (ck lp ⟨iL rfl, nb_f rfl (ck lq ⟨iL rfl, br_t rfl ⟨by omega, fun u30 e30 => ⟨rfl, ?_⟩⟩⟩)⟩))⟩⟩
                  rw [Int.toNat_natCast, Int.toNat_natCast, Int.toNat_natCast, show 124 + 2 * p + 1 = 125 + 2 * p by omega, show 124 + 2 * q + 1 = 125 + 2 * q by omega] at e30
                  exact e30
                · have ne : ∀ r, r ≠ 125 + 2 * q → u r = t r := fun r hr => by rw [hu]; exact cpy_n hr
                  have hX : XSh t u q := fun r _ b => ne r b
                  have u141 := ne 141 (by omega)
                  have u142 := ne 142 (by omega)
                  have u143 := ne 143 (by omega)
                  have ia2 := c_isSheet (G := G) (t := u) ha
                  have ib2 := c_isSheet (G := G) (t := u) hb
                  rw [if_pos c] at ia2
                  rw [if_pos d] at ib2
                  have why : ∀ (k : Nat) (o : Nat), k < 4 → t 141 k = t 141 p → (o : Int) + (s : Int) ≤ t 142 k → t 142 k ≤ 24 → Ex G mX6_why [RR 132, II (k : Int), II (t 141 p), II (o : Int), II (s : Int)] u (Ret 0 u) := by
                    intro k o hk h1 h2 h24
                    refine eX6_why (sgX6_why_0 ⟨by omega, ?_⟩)
                    rw [Int.toNat_natCast, u141, u142]
                    refine ⟨i32 (by omega) (by omega), br_t (by omega) ⟨i32 (by omega) (by omega), br_t h1 ⟨i32 (by omega) (by omega), br_f (by omega) ⟨hn, br_f (by omega) ⟨i32 (by omega) (by omega), ⟨by omega, by omega⟩, ?_, rfl⟩⟩⟩⟩⟩
                    rw [if_pos (lCmp_le.mpr h2)]
                  refine eX6_copy (sgX6_copy_0 (ck ia2 ⟨iL rfl, br_f (by decide) (ck ib2 ⟨iL rfl, nb_t (by decide) ⟨by omega, ?_⟩⟩)⟩))
                  rw [Int.toNat_natCast, Int.toNat_natCast, u141]
                  refine ⟨i32 (by omega) (by omega), br_f (by omega) ⟨by omega, i32 (by omega) (by omega), br_t (by omega) (ck (why q y hq g.symm z2.2.2 q5.2) ⟨iL rfl, nb_f rfl ?_⟩)⟩⟩
                  rw [u141]
                  refine ck (why p x hp rfl z1.2.2 p5.2) ⟨iL rfl, br_t (by decide) ?_⟩
                  refine c_copy hp hq (by omega) (by omega) (fun w w1 w2 w3 => ⟨rfl, hR.sh hq hX (fun r _ _ c d => w3 r c d) (fun r _ _ => ⟨by rw [w3 141 (by decide) (by decide)], by rw [w3 142 (by decide) (by decide)]⟩) (fun r hr => w2 r (by omega)) ?_⟩)
                  unfold SheetR
                  rw [w3 141 (by decide) (by decide), w3 142 (by decide) (by decide), w3 (124 + 2 * q) (by omega) (by omega), w3 (125 + 2 * q) (by omega) (by omega), ne (124 + 2 * q) (by omega), u141, u142]
                  refine ⟨q1, q2, fun _ => ⟨q4, q5, fun r hr => ?_⟩⟩
                  rw [hu]
                  unfold cpy
                  by_cases k : y ≤ r ∧ r < y + s
                  · rw [if_pos ⟨rfl, k⟩]
                    have hw := w1 (r - y) (by omega)
                    rw [show 24 * q + y + (r - y) = 24 * q + r by omega, u143, show 24 * p + x + (r - y) = 24 * p + (x + (r - y)) by omega] at hw
                    rw [hw]
                    exact p6 _ (by omega)
                  · rw [if_neg (fun z => k z.2), w2 (24 * q + r) (by omega), u143]
                    exact q6 r hr
              · rw [if_neg z2] at lq wq
                refine Step.pure (v := -13) hR (iL rfl) (eX5_copy (sgX5_copy_0 (ck na ⟨iL rfl, nb_f rfl (ck nb ⟨iL rfl, br_t rfl ⟨by omega, by omega, ?_⟩⟩)⟩))) (eX6_copy (sgX6_copy_0 (ck ia ⟨iL rfl, br_f (by decide) (ck ib ⟨iL rfl, nb_t (by decide) ⟨by omega, ?_⟩⟩)⟩)))
                · rw [Int.toNat_natCast, Int.toNat_natCast, p1, q1]; exact ⟨i32 (by omega) (by omega), br_f e ⟨i32 (by omega) (by omega), nb_t f (br_t g (ck lp ⟨iL rfl, nb_f rfl (ck lq ⟨iL rfl, br_f (by decide) ⟨rfl, rfl⟩⟩)⟩))⟩⟩
                · rw [Int.toNat_natCast, Int.toNat_natCast]; exact ⟨i32 (by omega) (by omega), br_f (by omega) ⟨by omega, i32 (by omega) (by omega), br_t (by omega) (ck wq ⟨iL rfl, nb_t (by decide) (br_f (by decide) ⟨rfl, rfl⟩)⟩)⟩⟩
            · rw [if_neg z1] at lp wp
              refine Step.pure (v := -13) hR (iL rfl) (eX5_copy (sgX5_copy_0 (ck na ⟨iL rfl, nb_f rfl (ck nb ⟨iL rfl, br_t rfl ⟨by omega, by omega, ?_⟩⟩)⟩))) (eX6_copy (sgX6_copy_0 (ck ia ⟨iL rfl, br_f (by decide) (ck ib ⟨iL rfl, nb_t (by decide) ⟨by omega, ?_⟩⟩)⟩)))
              · rw [Int.toNat_natCast, Int.toNat_natCast, p1, q1]; exact ⟨i32 (by omega) (by omega), br_f e ⟨i32 (by omega) (by omega), nb_t f (br_t g (ck lp ⟨iL rfl, nb_t (by decide) ⟨rfl, rfl⟩⟩))⟩⟩
              · rw [Int.toNat_natCast, Int.toNat_natCast]
                refine ⟨i32 (by omega) (by omega), br_f (by omega) ⟨by omega, i32 (by omega) (by omega), br_t (by omega) (ck wq ?_)⟩⟩
                by_cases z2 : 0 ≤ j ∧ 0 ≤ n ∧ j + n ≤ t 142 q
                · rw [if_pos z2]; exact ⟨iL rfl, nb_f rfl (ck wp ⟨iL rfl, br_f (by decide) ⟨rfl, rfl⟩⟩)⟩
                · rw [if_neg z2]; exact ⟨iL rfl, nb_t (by decide) (br_f (by decide) ⟨rfl, rfl⟩)⟩
          · have wq := c_why (G := G) hq (hR.sheets q hq) (l := t 141 p) (i32 (by omega) (by omega)) hj hn
            have eq : rfN t q (t 141 p) j n = -12 := by unfold rfN; rw [if_neg f, if_neg (fun z => g z.symm)]
            rw [eq] at wq
            refine Step.pure (v := -12) hR (iL rfl) (eX5_copy (sgX5_copy_0 (ck na ⟨iL rfl, nb_f rfl (ck nb ⟨iL rfl, br_t rfl ⟨by omega, by omega, ?_⟩⟩)⟩))) (eX6_copy (sgX6_copy_0 (ck ia ⟨iL rfl, br_f (by decide) (ck ib ⟨iL rfl, nb_t (by decide) ⟨by omega, ?_⟩⟩)⟩)))
            · rw [Int.toNat_natCast, Int.toNat_natCast, p1, q1]; exact ⟨i32 (by omega) (by omega), br_f e ⟨i32 (by omega) (by omega), nb_t f (br_f g ⟨rfl, rfl⟩)⟩⟩
            · rw [Int.toNat_natCast, Int.toNat_natCast]; exact ⟨i32 (by omega) (by omega), br_f (by omega) ⟨by omega, i32 (by omega) (by omega), br_t (by omega) (ck wq ⟨iL rfl, nb_t (by decide) (br_f (by decide) ⟨rfl, rfl⟩)⟩)⟩⟩
    · rw [if_neg d] at nb ib
      exact Step.pure (v := -1) hR (iL rfl) (eX5_copy (sgX5_copy_0 (ck na ⟨iL rfl, nb_f rfl (ck nb ⟨iL rfl, br_f (by decide) ⟨rfl, rfl⟩⟩)⟩))) (eX6_copy (sgX6_copy_0 (ck ia ⟨iL rfl, br_f (by decide) (ck ib ⟨iL rfl, nb_f rfl ⟨rfl, rfl⟩⟩)⟩)))
  · rw [if_neg c] at na ia
    exact Step.pure (v := -1) hR (iL rfl) (eX5_copy (sgX5_copy_0 (ck na ⟨iL rfl, nb_t (by decide) ⟨rfl, rfl⟩⟩))) (eX6_copy (sgX6_copy_0 (ck ia ⟨iL rfl, br_t rfl ⟨rfl, rfl⟩⟩)))
end SC
