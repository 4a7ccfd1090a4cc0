/-! beast, image, restore -/
theorem wr_id {t : Mem} {a j : Nat} {v : Int} (h : t a j = v) : wr t a j v = t := by
  funext x y
  rw [wr_at]
  by_cases c : x = a ∧ y = j
  · rw [if_pos c, c.1, c.2, h]
  · rw [if_neg c]
section S6
variable {G : GG} {t : Mem}
theorem s_beast {a b d : Int} (ha : In32 a) (hb : In32 b) (hd : In32 d) (hR : Rel t) : Step G mX5_beast [RR 0, II a, II b, II d] mX6_beast [RR 132, II a, II b, II d] t := by
  have h12 := hR.h12
  have c7 : t 1 7 = t 133 12 := hR.camp.1.2.2.2.2.2.2.2
  by_cases ca : 0 ≤ a ∧ a ≤ 3
  · by_cases cb : 1 ≤ b ∧ b ≤ 9
    · by_cases cd : 0 ≤ d ∧ d ≤ 1
      · by_cases e : t 133 12 = 7
        · refine Step.pure (v := -3) hR (iL rfl) (eX5_beast (sgX5_beast_0 (ck (x_out0 (iL rfl) (iL rfl) ca) ⟨iL rfl, nb_f rfl (ck (x_out0 (iL rfl) (iL rfl) cb) ⟨iL rfl, nb_f rfl (ck (x_out0 (iL rfl) (iL rfl) cd) ⟨iL rfl, br_t rfl ?_⟩)⟩)⟩))) (eX6_beast (sgX6_beast_0 ⟨ha, ck (c_in1 (j32 ha) (jL rfl) (jL rfl) ca) ⟨iL rfl, br_f (by decide) ⟨hb, ck (c_in1 (j32 hb) (jL rfl) (jL rfl) cb) ⟨iL rfl, br_f (by decide) ⟨hd, ck (c_in1 (j32 hd) (jL rfl) (jL rfl) cd) ⟨iL rfl, nb_t (by decide) ⟨i32 (by omega) (by omega), nb_f e ⟨rfl, rfl⟩⟩⟩⟩⟩⟩⟩⟩))
          rw [c7]; exact ⟨i32 (by omega) (by omega), br_f (by omega) ⟨rfl, rfl⟩⟩
        · obtain ⟨c, hc⟩ : ∃ c : Nat, t 133 12 = c := ⟨(t 133 12).toNat, by omega⟩
          have hc7 : c < 7 := by omega
          refine ⟨(c : Int), fun u => u 12 = up (t 12) 2 0 ∧ (∀ j, u 1 j = up (t 1) 7 ((c : Int) + 1) j) ∧ u 2 = up (t 2) c a ∧ u 3 = up (t 3) c b ∧ u 4 = up (t 4) c d ∧ u 5 = up (t 5) c (3 * b + (if a = 1 ∨ a = 3 then 5 else 0)) ∧ ∀ x, x ≠ 12 → (x < 1 ∨ 5 < x) → u x = t x, i32 (by omega) (by omega), eX5_beast (sgX5_beast_0 (ck (x_out0 (iL rfl) (iL rfl) ca) ⟨iL rfl, nb_f rfl (ck (x_out0 (iL rfl) (iL rfl) cb) ⟨iL rfl, nb_f rfl (ck (x_out0 (iL rfl) (iL rfl) cd) ⟨iL rfl, br_t rfl ?_⟩)⟩)⟩)), fun u hu => ?_⟩
          · rw [c7]
            refine ⟨i32 (by omega) (by omega), br_t (by omega) (ckv (x_forget is12) (cqv (x_add (k := c) is1 (by rw [wr_n (by decide), c7, hc]) hc7 ha) (fun u h => ?_)))⟩
            obtain ⟨g1, g2, g3, g4, g5, g6⟩ := h
            refine ⟨by rw [g1 7, up_s]; omega, by rw [g6 12 (by omega), wr_s], fun j => by rw [g1 j, wr_n (by decide)], by rw [g2, wr_n (by decide)], by rw [g3, wr_n (by decide)], by rw [g4, wr_n (by decide)], by rw [g5, wr_n (by decide)], fun x h1 h2 => by rw [g6 x (by omega), wr_n h1]⟩
          · obtain ⟨u12, u1, u2, u3, u4, u5, un⟩ := hu
            have u133 : u 133 = t 133 := un 133 (by omega) (by omega)
            have z := hR.inv.2.2.2.1 c hc7 (by omega)
            refine eX6_beast (sgX6_beast_0 ⟨ha, ck (c_in1 (j32 ha) (jL rfl) (jL rfl) ca) ⟨iL rfl, br_f (by decide) ⟨hb, ck (c_in1 (j32 hb) (jL rfl) (jL rfl) cb) ⟨iL rfl, br_f (by decide) ⟨hd, ck (c_in1 (j32 hd) (jL rfl) (jL rfl) cd) ⟨iL rfl, nb_t (by decide) ?_⟩⟩⟩⟩⟩⟩)
            rw [u133, hc]
            refine ⟨i32 (by omega) (by omega), nb_t (by omega) ⟨by omega, fun w1 e1 => ⟨by omega, fun w2 e2 => ⟨by omega, fun w3 e3 => ?_⟩⟩⟩⟩
            rw [show (14 + 7 * (c : Int)).toNat = 14 + 7 * c by omega] at e1
            rw [show (14 + 7 * (c : Int) + 1).toNat = 14 + 7 * c + 1 by omega] at e2
            rw [show (14 + 7 * (c : Int) + 2).toNat = 14 + 7 * c + 2 by omega] at e3
            have w133 : w3 133 = up (up (up (t 133) (14 + 7 * c) a) (14 + 7 * c + 1) b) (14 + 7 * c + 2) d := by rw [e3, wr_s, e2, wr_s, e1, wr_s, u133]
            have wn : ∀ x, x ≠ 133 → w3 x = u x := fun x hx => by rw [e3, wr_n hx, e2, wr_n hx, e1, wr_n hx]
            have lp : ∀ (dd i : Nat), i + dd = 4 → V G mX6_beast 97 [(0, RR 132), (1, II a), (2, II b), (3, II d), (4, II (14 + 7 * (c : Int))), (5, II (3 + (i : Int)))] [] w3 (fun r w => r = (c : Int) ∧ Rel w) := by
              intro dd
              induction dd with
              | zero =>
                intro i hi
                refine sgX6_beast_97 ⟨i32 (by omega) (by omega), br_t (by omega) (fun x2 f2 x4 f4 x6 f6 => ?_)⟩
                have x12 : x4 133 12 = c := by rw [f4, wr_n (by decide), f2, wr_n (by decide), w133, up_n (by omega), up_n (by omega), up_n (by omega), hc]
                rw [x12] at f6
                have x133 : x6 133 = bN (t 133) c a b d := by rw [f6, wr_s, f4, wr_n (by decide), f2, wr_n (by decide), w133]; rfl
                have x132 : ∀ j, x6 132 j = if j = 2 then -1 else if j = 5 then 0 else t 132 j := by
                  intro j
                  rw [f6, wr_n (by decide), f4]
                  by_cases y : j = 2
                  · rw [if_pos y, y, wr_ss]
                  · rw [if_neg y, wr_sn y, f2]
                    by_cases y5 : j = 5
                    · rw [if_pos y5, y5, wr_ss]
                    · rw [if_neg y5, wr_sn y5, wn 132 (by decide), un 132 (by omega) (by omega)]
                have xn : ∀ x, x ≠ 132 → x ≠ 133 → x6 x = u x := fun x h1 h2 => by rw [f6, wr_n h2, f4, wr_n h1, f2, wr_n h1, wn x h2]
                have xt : ∀ x, x ≠ 132 → x ≠ 133 → x ≠ 12 → (x < 1 ∨ 5 < x) → x6 x = t x := fun x h1 h2 h3 h4 => by rw [xn x h1 h2, un x h3 h4]
                refine ⟨by rw [f6, wr_ss]; omega, ?_⟩
                have r := hR.rest (u := x6) ⟨fun x hx => xt x (by omega) (by omega) (by omega) (by omega), fun k hk => by rw [x132, if_neg (by omega), if_neg (by omega)]⟩
                have cc := hR.camp
                refine ⟨?_, ?_, ?_, ?_, ?_, ?_, r.1, r.2.1, r.2.2⟩
                · rw [x133, bN_lo (by omega) (by omega)]; exact bN_inv hR.inv hc.symm hc7 ca cb cd
                · rw [x133, bN_lo (by omega) (by omega)]; exact hR.mn
                · unfold OrdI; rw [x132, if_pos rfl]; exact ⟨by omega, by omega, fun q => absurd q (by decide)⟩
                · rw [x133]
                  unfold CampR at cc ⊢
                  obtain ⟨⟨d0, d1, d2, d3, d4, d5, d6, d7⟩, db⟩ := cc
                  refine ⟨?_, fun q hq hn => ?_⟩
                  · rw [xn 1 (by decide) (by decide), bN_12, bN_lo (by omega) (by omega), bN_lo (by omega) (by omega), bN_lo (by omega) (by omega), bN_lo (by omega) (by omega), bN_lo (by omega) (by omega), bN_lo (by omega) (by omega), bN_lo (by omega) (by omega), u1, u1, u1, u1, u1, u1, u1, u1, up_n (by omega), up_n (by omega), up_n (by omega), up_n (by omega), up_n (by omega), up_n (by omega), up_n (by omega), up_s]
                    exact ⟨d0, d1, d2, d3, d4, d5, d6, rfl⟩
                  · rw [bN_12] at hn
                    rw [xn (1 + 1) (by omega) (by omega), xn (1 + 2) (by omega) (by omega), xn (1 + 3) (by omega) (by omega), xn (1 + 4) (by omega) (by omega), u2, u3, u4, u5]
                    by_cases y : q = c
                    · subst y
                      obtain ⟨z1, z2, z3⟩ := bN_c (N := t 133) (c := q) (a := a) (b := b) (d := d)
                      unfold mk5
                      rw [z1, z2, z3, up_s, up_s, up_s, up_s]; exact ⟨rfl, rfl, rfl, rfl⟩
                    · rw [up_n y, up_n y, up_n y, up_n y]
                      unfold mk5
                      rw [bN_n (by omega) (by omega), bN_n (by omega) (by omega), bN_n (by omega) (by omega)]
                      exact db q hq (by omega)
                · rw [x133]
                  have hm := hR.mom
                  unfold MomR MomG at hm ⊢
                  rw [bN_lo (by omega) (by omega), bN_lo (by omega) (by omega), bN_lo (by omega) (by omega), bN_lo (by omega) (by omega), bN_lo (by omega) (by omega), bN_lo (by omega) (by omega), xt 7 (by omega) (by omega) (by omega) (by omega)]
                  refine ⟨hm.1, fun q hq => ?_⟩
                  rw [xt (7 + 1) (by omega) (by omega) (by omega) (by omega), xt (7 + 2) (by omega) (by omega) (by omega) (by omega), xt (7 + 3) (by omega) (by omega) (by omega) (by omega), xt (7 + 4) (by omega) (by omega) (by omega) (by omega), bN_n (by omega) (by omega), bN_n (by omega) (by omega), bN_n (by omega) (by omega), bN_n (by omega) (by omega)]
                  exact hm.2 q hq
                · obtain ⟨nx, k, ⟨h1, h2, h3, h4, h5⟩, -⟩ := hR.past
                  refine ⟨nx, 0, ⟨h1, by omega, ?_, ?_, ?_⟩, fun i hi => absurd hi (Nat.not_lt_zero i)⟩
                  · rw [xn 12 (by omega) (by omega), u12, up_n (by omega)]; exact h3
                  · rw [xn 12 (by omega) (by omega), u12, up_s]; rfl
                  · rw [x132]; rfl
              | succ dd ih =>
                intro i hi
                refine sgX6_beast_97 ⟨i32 (by omega) (by omega), br_f (by omega) ⟨by omega, fun x8 f8 => ?_⟩⟩
                rw [show (14 + 7 * (c : Int) + (3 + (i : Int))).toNat = 14 + 7 * c + (3 + i) by omega, wr_id] at f8
                · rw [f8, show (3 + (i : Int) + 1) = 3 + ((i + 1 : Nat) : Int) by omega]; exact ih (i + 1) (by omega)
                · rw [w133, up_n (by omega), up_n (by omega), up_n (by omega)]
                  have : i = 0 ∨ i = 1 ∨ i = 2 ∨ i = 3 := by omega
                  rcases this with rfl | rfl | rfl | rfl
                  · exact z.1
                  · exact z.2.1
                  · exact z.2.2.1
                  · exact z.2.2.2
            exact lp 4 0 (by omega)
      · exact Step.pure (v := -1) hR (iL rfl) (eX5_beast (sgX5_beast_0 (ck (x_out0 (iL rfl) (iL rfl) ca) ⟨iL rfl, nb_f rfl (ck (x_out0 (iL rfl) (iL rfl) cb) ⟨iL rfl, nb_f rfl (ck (x_out1 hd (iL rfl) (iL rfl) cd) ⟨iL rfl, br_f (by decide) ⟨rfl, rfl⟩⟩)⟩)⟩))) (eX6_beast (sgX6_beast_0 ⟨ha, ck (c_in1 (j32 ha) (jL rfl) (jL rfl) ca) ⟨iL rfl, br_f (by decide) ⟨hb, ck (c_in1 (j32 hb) (jL rfl) (jL rfl) cb) ⟨iL rfl, br_f (by decide) ⟨hd, ck (c_in0 (j32 hd) (jL rfl) (jL rfl) cd) ⟨iL rfl, nb_f rfl ⟨rfl, rfl⟩⟩⟩⟩⟩⟩⟩))
    · exact Step.pure (v := -1) hR (iL rfl) (eX5_beast (sgX5_beast_0 (ck (x_out0 (iL rfl) (iL rfl) ca) ⟨iL rfl, nb_f rfl (ck (x_out1 hb (iL rfl) (iL rfl) cb) ⟨iL rfl, nb_t (by decide) ⟨rfl, rfl⟩⟩)⟩))) (eX6_beast (sgX6_beast_0 ⟨ha, ck (c_in1 (j32 ha) (jL rfl) (jL rfl) ca) ⟨iL rfl, br_f (by decide) ⟨hb, ck (c_in0 (j32 hb) (jL rfl) (jL rfl) cb) ⟨iL rfl, br_t rfl ⟨rfl, rfl⟩⟩⟩⟩⟩))
  · exact Step.pure (v := -1) hR (iL rfl) (eX5_beast (sgX5_beast_0 (ck (x_out1 ha (iL rfl) (iL rfl) ca) ⟨iL rfl, nb_t (by decide) ⟨rfl, rfl⟩⟩))) (eX6_beast (sgX6_beast_0 ⟨ha, ck (c_in0 (j32 ha) (jL rfl) (jL rfl) ca) ⟨iL rfl, br_t rfl ⟨rfl, rfl⟩⟩⟩))
end S6
