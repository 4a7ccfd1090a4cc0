/-! film -/
theorem lnV_n : ∀ n : Nat, n ≤ 60 → iB (iI (n : Int)) = (n : Int) ∧ iS (iI (n : Int)) = (n : Int) ∧ iI (n : Int) = (n : Int) := by decide +kernel
theorem lnV_id {l v : Int} (h : 0 ≤ v ∧ v ≤ 60) : lnV l v = v := by
  obtain ⟨n, rfl⟩ : ∃ n : Nat, v = n := ⟨v.toNat, by omega⟩
  have := lnV_n n (by omega)
  unfold lnV
  rw [this.1, this.2.1, this.2.2]
  split
  · rfl
  · split
    · rfl
    · split <;> rfl
theorem FtM.wr143 {t0 u : Mem} {N M : Nat → Int} {j : Nat} {v : Int} (h : FtM t0 u N M) : FtM (wr t0 143 j v) (wr u 143 j v) N M := by
  obtain ⟨h1, h2, h3, h4, h6, h7⟩ := h
  refine ⟨by rw [wr_n (by decide)]; exact h1, fun i hi => by rw [wr_n (by decide)]; exact h2 i hi, h3, h4, ?_, fun i hi => by rw [wr_n (by decide), wr_n (by decide)]; exact h7.1 i hi, fun x a b c d e => ?_⟩
  · unfold OrdI OrdR at h6 ⊢
    rw [wr_n (by decide), wr_n (by decide), wr_n (by decide)]; exact h6
  · by_cases z : x = 143
    · rw [z, wr_s, wr_s, h7.2 143 (by decide) (by decide) (by decide) (by decide) (by decide)]
    · rw [wr_n z, wr_n z]; exact h7.2 x a b c d e
section FL
variable {G : GG} {t : Mem}
theorem s_film {n k l o : Int} (hn : In32 n) (hk : In32 k) (hl : In32 l) (ho : In32 o) (hR : Rel t) : Step G mX5_film [RR 0, II n, II k, II l, II o] mX6_film [RR 132, II n, II k, II l, II o] t := by
  have hmn := hR.mn
  have ns := x_noSheet (G := G) (t := t) hk
  have is := c_isSheet (G := G) (t := t) hk
  have il := c_isLane (G := G) (t := t) hl
  by_cases a : 1 ≤ n ∧ n ≤ 24
  · by_cases c : 0 ≤ k ∧ k ≤ 3
    · rw [if_pos c] at ns is
      by_cases d : 0 ≤ l ∧ l ≤ 3
      · rw [if_pos d] at il
        obtain ⟨q, rfl⟩ : ∃ q : Nat, k = q := ⟨k.toNat, by omega⟩
        have hq : q < 4 := by omega
        have hS := hR.sheets q hq
        by_cases e : rfN t q l o n = 0
        · have e2 := e
          unfold rfN at e2
          have qq : t 141 q = l ∧ 0 ≤ o ∧ o + n ≤ t 142 q := by
            by_cases a : t 141 q = -1
            · rw [if_pos a] at e2; exact absurd e2 (by decide)
            · rw [if_neg a] at e2
              by_cases b : t 141 q = l
              · rw [if_pos b] at e2
                by_cases f : 0 ≤ o ∧ 0 ≤ n ∧ o + n ≤ t 142 q
                · exact ⟨b, f.1, f.2.2⟩
                · rw [if_neg f] at e2; exact absurd e2 (by decide)
              · rw [if_neg b] at e2; exact absurd e2 (by decide)
          have hS2 := hS
          obtain ⟨s1, s2, s3⟩ := hS2
          obtain ⟨s4, s5, s6⟩ := s3 (by omega)
          obtain ⟨p, rfl⟩ : ∃ p : Nat, o = p := ⟨o.toNat, by omega⟩
          obtain ⟨r, rfl⟩ : ∃ r : Nat, n = r := ⟨n.toNat, by omega⟩
          have wat : ∀ i : Nat, i ≤ 241 → 0 ≤ itN 127 (t 133) i 0 ∧ itN 127 (t 133) i 0 ≤ 60 := fun i hi => by
            have := (itN_inv (l := 127) hR.inv i (by omega)).h
            unfold InH at this
            exact this.1
          refine ⟨(r : Int), fun u => (∀ y, u (125 + 2 * q) y = if p ≤ y ∧ y < p + r then itN 127 (t 133) (y - p + 1) 0 else t (125 + 2 * q) y) ∧ ∀ x, x ≠ 125 + 2 * q → (x < 107 ∨ 120 < x) → u x = t x, hn, eX5_film (sgX5_film_0 (ck (x_out0 (iL rfl) (iL rfl) a) ⟨iL rfl, nb_f rfl (ck ns ⟨iL rfl, nb_f rfl (ck (x_out0 (iL rfl) (iL rfl) d) ⟨iL rfl, br_t rfl ⟨by omega, ?_⟩⟩)⟩)⟩)), fun u hu => ?_⟩
          · rw [Int.toNat_natCast]
            refine ck (x_refusal hq hS hl ho hn) ?_
            rw [e]
            refine ⟨iL rfl, br_t rfl (cqv (x_foretell hR.camp hR.mom hR.inv) (fun u h => ?_))⟩
            have lp : ∀ (dd i : Nat) (u : Mem), i + dd = r → CampR u 107 (itN 127 (t 133) i) → OrdC u 107 (itN 127 (t 133) i) → MomR u 113 (itN 127 (t 133) i) → (∀ y, u (125 + 2 * q) y = if p ≤ y ∧ y < p + i then itN 127 (t 133) (y - p + 1) 0 else t (125 + 2 * q) y) → (∀ x, x ≠ 125 + 2 * q → (x < 107 ∨ 120 < x) → u x = t x) → V G mX5_film 58 [(0, RR 0), (1, II (r : Int)), (2, II (q : Int)), (3, II l), (4, II (p : Int)), (5, II 0), (6, II (i : Int))] [] u (fun z u => z = (r : Int) ∧ (∀ y, u (125 + 2 * q) y = if p ≤ y ∧ y < p + r then itN 127 (t 133) (y - p + 1) 0 else t (125 + 2 * q) y) ∧ ∀ x, x ≠ 125 + 2 * q → (x < 107 ∨ 120 < x) → u x = t x) := by
              intro dd
              induction dd with
              | zero =>
                intro i u hi _ _ _ h4 h5
                have ei : i = r := by omega
                subst ei
                exact sgX5_film_58 ⟨i32 (by omega) (by omega), i32 (by omega) (by omega), br_t (by omega) ⟨rfl, h4, h5⟩⟩
              | succ dd ih =>
                intro i u hi h1 h2 h3 h4 h5
                have hIi := itN_inv (l := 127) hR.inv i (by omega)
                have w1 := wat (i + 1) (by omega)
                refine sgX5_film_58 ⟨i32 (by omega) (by omega), i32 (by omega) (by omega), br_f (by omega) (cq (x_tstep h1 h2 h3 hIi (by omega)) (fun z u6 h6 => ?_))⟩
                obtain ⟨-, -, ⟨g3, g4, g5⟩, g6⟩ := h6
                have e0 : u6 113 0 = itN 127 (t 133) (i + 1) 0 := g5.1.1
                rw [e0, Int.toNat_natCast, show (p : Int) + (i : Int) = ((p + i : Nat) : Int) by omega]
                refine ⟨by omega, i32 (by omega) (by omega), ckv (x_put hq (i := p + i) (by omega) (l := l) (by rw [g6 _ (by omega), h5 _ (by omega) (by omega), s1]; exact qq.1) d) ?_⟩
                rw [lnV_id w1]
                refine ih (i + 1) _ (by omega) (g3.kept (fun x _ _ => wr_n (by omega))) (fun y hy => by rw [wr_n (by omega)]; exact g4 y hy) (MomG.kept g5 (fun x _ _ => wr_n (by omega))) (fun y => ?_) (fun x hx h0 => by rw [wr_n hx, g6 x (by omega), h5 x hx h0])
                by_cases z : y = p + i
                · rw [z, wr_ss, if_pos (by omega), show p + i - p + 1 = i + 1 by omega]
                · rw [wr_sn z, g6 _ (by omega), h4 y]
                  by_cases f : p ≤ y ∧ y < p + i
                  · rw [if_pos f, if_pos (by omega)]
                  · rw [if_neg f, if_neg (by omega)]
            exact lp r 0 u (by omega) h.1 h.2.1 h.2.2.1 (fun y => by rw [if_neg (by omega), h.2.2.2 _ (by omega)]) (fun x _ hx => h.2.2.2 x hx)
          · obtain ⟨u1, u2⟩ := hu
            have u133 : u 133 = t 133 := u2 133 (by omega) (by omega)
            have u141 : u 141 = t 141 := u2 141 (by omega) (by omega)
            have u142 : u 142 = t 142 := u2 142 (by omega) (by omega)
            have u143 : u 143 = t 143 := u2 143 (by omega) (by omega)
            -- the sheet's row put back: only looked
            have hRt : Rel (row u (125 + 2 * q) (t (125 + 2 * q))) := hR.lookX (fun x hx => by
              by_cases z : x = 125 + 2 * q
              · rw [z, row_s]
              · rw [row_n z, u2 x z hx])
            have hX : XSh (row u (125 + 2 * q) (t (125 + 2 * q))) u q := fun x _ b => (row_n b).symm
            have hOu : OrdI u := by
              have := hRt.ord
              unfold OrdI OrdR at this ⊢
              rw [row_n (by omega), row_n (by omega), row_n (by omega)] at this
              exact this
            have hIu : Inv (t 133 11) (u 133) := by rw [u133]; exact hR.inv
            have ns2 := c_isSheet (G := G) (t := u) hk
            rw [if_pos c] at ns2
            have il2 := c_isLane (G := G) (t := u) hl
            rw [if_pos d] at il2
            have wy : Ex G mX6_why [RR 132, II (q : Int), II l, II (p : Int), II (r : Int)] u (Ret 0 u) := by
              refine eX6_why (sgX6_why_0 ⟨by omega, ?_⟩)
              rw [Int.toNat_natCast, u141, u142]
              refine ⟨i32 (by omega) (by omega), br_t (by omega) ⟨hl, br_t qq.1 ⟨ho, br_f (by omega) ⟨hn, br_f (by omega) ⟨i32 (by omega) (by omega), ⟨by omega, by omega⟩, ?_, rfl⟩⟩⟩⟩⟩
              rw [if_pos (lCmp_le.mpr qq.2.2)]
            have lm : ∀ (dd i : Nat) (w t0 : Mem), i + dd = r → FtM t0 w (t 133) (itN 127 (t 133) i) → (∀ x, x ≠ 143 → t0 x = u x) → (∀ y, t0 143 y = if 24 * q + p ≤ y ∧ y < 24 * q + p + i then itN 127 (t 133) (y - (24 * q + p) + 1) 0 else t 143 y) → V G mX6_film 54 [(0, RR 132), (1, II (r : Int)), (2, II (q : Int)), (3, II l), (4, II (p : Int)), (5, II 0), (6, II (i : Int))] [] w (fun z w => z = (r : Int) ∧ Rel w) := by
              intro dd
              induction dd with
              | zero =>
                intro i w t0 hi h1 h2 h3
                have ei : i = r := by omega
                subst ei
                have hR0 : Rel t0 := by
                  refine hRt.sh hq hX (fun x _ _ c _ => h2 x c) (fun y _ _ => ⟨by rw [h2 141 (by decide)], by rw [h2 142 (by decide)]⟩) (fun y hy => by rw [h3 y, if_neg (by omega), u143]) ?_
                  unfold SheetR
                  rw [h2 141 (by decide), h2 142 (by decide), h2 (124 + 2 * q) (by omega), h2 (125 + 2 * q) (by omega), u141, u142, u2 (124 + 2 * q) (by omega) (by omega)]
                  refine ⟨s1, s2, fun _ => ⟨s4, s5, fun y hy => ?_⟩⟩
                  rw [u1 y, h3 (24 * q + y)]
                  by_cases f : p ≤ y ∧ y < p + i
                  · have w1 := wat (y - p + 1) (by omega)
                    rw [if_pos f, if_pos (by omega), show 24 * q + y - (24 * q + p) + 1 = y - p + 1 by omega]
                    exact ⟨rfl, ⟨by omega, by omega⟩⟩
                  · rw [if_neg f, if_neg (by omega)]; exact s6 y hy
                refine sgX6_film_54 ⟨i32 (by omega) (by omega), i32 (by omega) (by omega), br_t (by omega) (ckv c_backs ⟨rfl, hR0.lookM ?_⟩)⟩
                have h0 : t0 133 = t 133 := by rw [h2 133 (by decide), u133]
                have := ft_end h1
                rw [← h0] at this
                exact this.bk
              | succ dd ih =>
                intro i w t0 hi h1 h2 h3
                have w1 := wat (i + 1) (by omega)
                refine sgX6_film_54 ⟨i32 (by omega) (by omega), i32 (by omega) (by omega), br_f (by omega) (cq (ft_goes h1 (itN_inv hR.inv i (by omega)) (by omega)) (fun z y hy => ?_))⟩
                have y133 : y 133 0 = itN 127 (t 133) (i + 1) 0 := by rw [hy.1.1]; rfl
                rw [y133]
                refine ⟨i32 (by omega) (by omega), by omega, fun u14 e14 => ?_⟩
                rw [show (24 * (q : Int) + (p : Int) + (i : Int)).toNat = 24 * q + p + i by omega] at e14
                rw [e14]
                refine ih (i + 1) _ (wr t0 143 (24 * q + p + i) (itN 127 (t 133) (i + 1) 0)) (by omega) hy.1.wr143 (fun x hx => by rw [wr_n hx, h2 x hx]) (fun y => ?_)
                by_cases z : y = 24 * q + p + i
                · rw [z, wr_ss, if_pos (by omega), show 24 * q + p + i - (24 * q + p) + 1 = i + 1 by omega]
                · rw [wr_sn z, h3 y]
                  by_cases f : 24 * q + p ≤ y ∧ y < 24 * q + p + i
                  · rw [if_pos f, if_pos (by omega)]
                  · rw [if_neg f, if_neg (by omega)]
            refine eX6_film (sgX6_film_0 ⟨hn, ck (c_in1 (j32 hn) (jL rfl) (jL rfl) a) ⟨iL rfl, br_f (by decide) (ck ns2 ⟨iL rfl, br_f (by decide) (ck il2 ⟨iL rfl, nb_t (by decide) (ck wy ⟨iL rfl, br_t (by decide) (ckv c_asides ?_)⟩)⟩)⟩)⟩⟩)
            have fb := ft_begin hIu hOu
            rw [u133] at fb
            rw [u133]
            exact lm r 0 _ u (by omega) fb (fun _ _ => rfl) (fun y => by rw [if_neg (by omega), u143])
        · have hin := rfN_in t q l o n
          have hneg : ¬ 0 ≤ rfN t q l o n := by
            unfold rfN at e ⊢
            repeat' split
            all_goals first | omega | (exfalso; revert e; simp_all)
          refine Step.pure (v := rfN t q l o n) hR hin (eX5_film (sgX5_film_0 (ck (x_out0 (iL rfl) (iL rfl) a) ⟨iL rfl, nb_f rfl (ck ns ⟨iL rfl, nb_f rfl (ck (x_out0 (iL rfl) (iL rfl) d) ⟨iL rfl, br_t rfl ⟨by omega, ?_⟩⟩)⟩)⟩))) (eX6_film (sgX6_film_0 ⟨hn, ck (c_in1 (j32 hn) (jL rfl) (jL rfl) a) ⟨iL rfl, br_f (by decide) (ck is ⟨iL rfl, br_f (by decide) (ck il ⟨iL rfl, nb_t (by decide) (ck (c_why hq hS hl ho hn) ⟨hin, br_f hneg ⟨rfl, rfl⟩⟩)⟩)⟩)⟩⟩))
          rw [Int.toNat_natCast]
          exact ck (x_refusal hq hS hl ho hn) ⟨hin, br_f e ⟨rfl, rfl⟩⟩
      · rw [if_neg d] at il
        exact Step.pure (v := -1) hR (iL rfl) (eX5_film (sgX5_film_0 (ck (x_out0 (iL rfl) (iL rfl) a) ⟨iL rfl, nb_f rfl (ck ns ⟨iL rfl, nb_f rfl (ck (x_out1 hl (iL rfl) (iL rfl) d) ⟨iL rfl, br_f (by decide) ⟨rfl, rfl⟩⟩)⟩)⟩))) (eX6_film (sgX6_film_0 ⟨hn, ck (c_in1 (j32 hn) (jL rfl) (jL rfl) a) ⟨iL rfl, br_f (by decide) (ck is ⟨iL rfl, br_f (by decide) (ck il ⟨iL rfl, nb_f rfl ⟨rfl, rfl⟩⟩)⟩)⟩⟩))
    · rw [if_neg c] at ns is
      exact Step.pure (v := -1) hR (iL rfl) (eX5_film (sgX5_film_0 (ck (x_out0 (iL rfl) (iL rfl) a) ⟨iL rfl, nb_f rfl (ck ns ⟨iL rfl, nb_t (by decide) ⟨rfl, rfl⟩⟩)⟩))) (eX6_film (sgX6_film_0 ⟨hn, ck (c_in1 (j32 hn) (jL rfl) (jL rfl) a) ⟨iL rfl, br_f (by decide) (ck is ⟨iL rfl, br_t rfl ⟨rfl, rfl⟩⟩)⟩⟩))
  · exact Step.pure (v := -1) hR (iL rfl) (eX5_film (sgX5_film_0 (ck (x_out1 hn (iL rfl) (iL rfl) a) ⟨iL rfl, nb_t (by decide) ⟨rfl, rfl⟩⟩))) (eX6_film (sgX6_film_0 ⟨hn, ck (c_in0 (j32 hn) (jL rfl) (jL rfl) a) ⟨iL rfl, br_t rfl ⟨rfl, rfl⟩⟩⟩))
end FL
