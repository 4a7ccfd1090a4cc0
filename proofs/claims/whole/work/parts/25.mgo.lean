/-! the reference's minute -/
section M3
variable {G : GG} {t : Mem}
/-- the row now is N, the field broke has k more, all else is as it was -/
def At3 (t u : Mem) (N : Nat → Int) (k : Int) : Prop := u 133 = N ∧ u 132 = up (t 132) 3 (t 132 3 + k) ∧ ∀ x, x ≠ 132 → x ≠ 133 → u x = t x
theorem up_0 {f : Nat → Int} {j : Nat} : up f j (f j + 0) = f := by funext x; unfold up; split; subst_vars; omega; rfl
theorem up_id {f : Nat → Int} {j : Nat} {v : Int} (h : v = f j) : up f j v = f := by funext x; unfold up; split; subst_vars; rfl; rfl
theorem nD_13 {N : Nat → Int} : nD N 13 = N 13 := by unfold nD; split; simp [nD0, up]; rw [up_n (by unfold pN; omega)]; simp [nD0, up]
theorem nD_8 {N : Nat → Int} : nD N 8 = N 8 + 1 := by unfold nD; split; simp [nD0, up]; rw [up_n (by unfold pN; omega)]; simp [nD0, up]
theorem c_draws_end {m d : Int} (hI : Inv m (t 133)) (hm : m + 1 ≤ 20000) (h0 : 0 < dA (t 133)) {u : Mem} (hu : At3 t u (nD (t 133)) 0) (hd : d = 0 ∨ d = 1) : In32 d ∧ (d = 0 → At3 t u (nW d (t 133)) (wK d (t 133))) ∧ (¬ d = 0 → In32 (u 133 13) ∧ ∀ u33 : Mem, u33 = wr u 133 13 (lAnd ((u 133 13 * 1103515245) + 12345) 2147483647) → ((0 : Int) ≤ (u33 133 13) ∧ In32 (u33 133 13)) ∧ ((0 : Int) ≤ ((u33 133 13) / 65536) ∧ In32 ((u33 133 13) / 65536)) ∧ ((0 : Int) ≤ (u33 133 8) ∧ In32 (u33 133 8)) ∧ In32 (((u33 133 13) / 65536) % 100) ∧ In32 ((u33 133 8) / 10) ∧ (((u33 133 8) / 10) ≤ (((u33 133 13) / 65536) % 100) → At3 t u33 (nW d (t 133)) (wK d (t 133))) ∧ (¬ ((u33 133 8) / 10) ≤ (((u33 133 13) / 65536) % 100) → ∀ u40 : Mem, u40 = wr u33 133 8 0 → ∀ u42 : Mem, u42 = wr u40 133 9 4 → ∀ u44 : Mem, u44 = wr u42 132 3 ((u42 132 3) + 1) → At3 t u44 (nW d (t 133)) (wK d (t 133)))) := by
  obtain ⟨h1, h2, h3⟩ := hu
  have hh := (nD_inv hI hm h0).h
  unfold InH at hh
  refine ⟨i32 (by omega) (by omega), fun q => ?_, fun q => ⟨by rw [h1]; exact i32 (by omega) (by omega), fun u33 e33 => ?_⟩⟩
  · unfold nW wK; rw [if_pos h0, if_pos h0, if_pos q, if_pos q]; exact ⟨h1, h2, h3⟩
  · have hz := lAnd31 (nD (t 133) 13 * 1103515245 + 12345)
    have r : u33 133 = up (nD (t 133)) 13 (zN (nD (t 133))) := by rw [e33, wr_s, h1]; rfl
    have r13 : u33 133 13 = zN (nD (t 133)) := by rw [r, up_s]
    have r8 : u33 133 8 = nD (t 133) 8 := by rw [r, up_n (by omega)]
    have hzz : 0 ≤ zN (nD (t 133)) ∧ zN (nD (t 133)) ≤ 2147483647 := hz
    have r132 : u33 132 = t 132 := by rw [e33, wr_n (by decide), h2, up_0]
    rw [r13, r8]
    refine ⟨⟨by omega, i32 (by omega) (by omega)⟩, ⟨by omega, i32 (by omega) (by omega)⟩, ⟨by omega, i32 (by omega) (by omega)⟩, i32 (by omega) (by omega), i32 (by omega) (by omega), fun c => ?_, fun c u40 e40 u42 e42 u44 e44 => ?_⟩
    · unfold nW wK bkN
      rw [if_pos h0, if_pos h0, if_neg q, if_neg q, if_pos c]
      refine ⟨by unfold nB; rw [if_pos c]; exact r, by rw [up_0]; exact r132, fun x a b => by rw [e33, wr_n b, h3 x a b]⟩
    · unfold nW wK bkN
      rw [if_pos h0, if_pos h0, if_neg q, if_neg q, if_neg c]
      have s42 : u42 132 = t 132 := by rw [e42, wr_n (by decide), e40, wr_n (by decide), r132]
      refine ⟨?_, ?_, fun x a b => by rw [e44, wr_n a, e42, wr_n b, e40, wr_n b, e33, wr_n b, h3 x a b]⟩
      · rw [e44, wr_n (by decide), e42, wr_s, e40, wr_s, r]
        unfold nB; rw [if_neg c]
      · rw [e44, wr_s, s42]
theorem c_draws {m d : Int} (hI : Inv m (t 133)) (hm : m + 1 ≤ 20000) (hd : d = 0 ∨ d = 1) : Ex G mX6_draws [RR 132, II d] t (fun r u => At3 t u (nW d (t 133)) (wK d (t 133))) := by
  have hh := hI.h
  unfold InH at hh
  refine eX6_draws (sgX6_draws_0 ⟨i32 (by omega) (by omega), ⟨by omega, i32 (by omega) (by omega)⟩, ⟨by split <;> decide, by split <;> exact iL rfl⟩, ?_, i32 (by omega) (by omega), fun w1 e1 => ?_⟩)
  · by_cases c : t 133 10 = -4
    · rw [if_pos c]; exact i32 (by omega) (by omega)
    · rw [if_neg c]; exact i32 (by omega) (by omega)
  have b1 : -100 ≤ w1 ∧ w1 ≤ 100 := by
    rw [e1]
    by_cases c : t 133 10 = -4
    · rw [if_pos c]; split <;> omega
    · rw [if_neg c]; split <;> omega
  refine ⟨i32 (by omega) (by omega), i32 (by omega) (by omega), fun w2 e2 => ?_⟩
  have hw : w2 = dA (t 133) := by rw [e2, e1]; unfold dA; simp only [Int.min_def]
  have b2 : -100 ≤ w2 ∧ w2 ≤ 100 := by rw [e2]; split <;> omega
  refine ⟨i32 (by omega) (by omega), ?_⟩
  rw [hw]
  by_cases h0 : 0 < dA (t 133)
  · refine br_t h0 (fun u24 e24 u26 e26 u28 e28 => ?_)
    have s24 : u24 133 = up (t 133) 0 (t 133 0 - dA (t 133)) := by rw [e24, wr_s]
    have s26 : u26 133 = up (up (t 133) 0 (t 133 0 - dA (t 133))) 7 (t 133 7 + dA (t 133)) := by rw [e26, wr_s, s24, up_n (by omega)]
    have s28 : u28 133 = nD0 (t 133) := by rw [e28, wr_s, s26, up_n (by omega), up_n (by omega)]; rfl
    have o28 : ∀ x, x ≠ 133 → u28 x = t x := fun x hx => by rw [e28, wr_n hx, e26, wr_n hx, e24, wr_n hx]
    have p10 : u28 133 10 = t 133 10 := by rw [s28]; simp [nD0, up]
    rw [p10]
    refine ⟨i32 (by omega) (by omega), ?_⟩
    by_cases c : t 133 10 = -4
    · refine br_t c ?_
      exact c_draws_end hI hm h0 ⟨by rw [s28]; unfold nD; rw [if_pos c], by rw [o28 132 (by decide), up_0], fun x _ b => o28 x b⟩ hd
    · refine br_f c ⟨by omega, fun u47 e47 => ?_⟩
      have ep : ((14 + (7 * t 133 10)) + 4).toNat = pN (t 133) := by unfold pN; omega
      rw [ep] at e47
      refine c_draws_end hI hm h0 ⟨?_, by rw [e47, wr_n (by decide), o28 132 (by decide), up_0], fun x _ b => by rw [e47, wr_n b, o28 x b]⟩ hd
      rw [e47, wr_s, s28]
      unfold nD; rw [if_neg c]
      rw [show nD0 (t 133) (pN (t 133)) = t 133 (pN (t 133)) from by unfold nD0 pN; rw [up_n (by omega), up_n (by omega), up_n (by omega)]]
  · refine br_f h0 ⟨?_, ?_, fun _ _ _ => rfl⟩
    · unfold nW; rw [if_neg h0]
    · unfold wK; rw [if_neg h0, up_0]
theorem c_drinksOf {m : Int} (hI : Inv m (t 133)) {b : Nat} (hb : b < 7) : Ex G mX6_drinksOf [RR 132, II (b : Int)] t (Ret (ownN (t 133) b) t) := by
  have hh := hI.h
  unfold InH at hh
  have hB := hI.b hb
  unfold InB at hB
  have hn := need_in hI hb
  have hk := drk_in (t 133) b
  refine eX6_drinksOf (sgX6_drinksOf_0 ?_)
  refine ck (c_drinks hI hb) ?_
  refine ck (c_needs hI hb) ?_
  refine ck (c_at (w := 3) hb (by omega)) ⟨i32 (by omega) (by omega), i32 (by omega) (by omega), fun w1 e1 => ?_⟩
  have b1 : -10000 ≤ w1 ∧ w1 ≤ 10000 := by rw [e1]; split <;> omega
  refine ⟨i32 (by omega) (by omega), i32 (by omega) (by omega), fun w2 e2 => ⟨?_, rfl⟩⟩
  rw [e2, e1]; unfold ownN; simp only [Int.min_def]
/-- one beast of the drinking -/
theorem c_goes_216 {m l d f a x5 own : Int} {b k : Nat} {Q : Int → Mem → Prop} (hI : Inv m (t 133)) (hb : b < 7) (h0 : 0 ≤ own) (h1 : own ≤ 8)
    (kk : ∀ (y5 : Int) (u : Mem), u = wr t 133 (14 + 7 * b + 5) (if 0 < own then bt (t 133) b 5 + own else 0) → V G mX6_goes 96 [(0, RR 132), (1, II d), (2, II l), (3, II f), (4, II a), (5, II y5), (6, II ((k : Int) + 1))] [] u Q) :
    V G mX6_goes 216 [(0, RR 132), (1, II d), (2, II l), (3, II f), (4, II a), (5, II x5), (6, II (k : Int)), (7, II (b : Int)), (8, II own)] [] t Q := by
  refine sgX6_goes_216 ⟨i32 (by omega) (by omega), fun w2 _ => ?_⟩
  have ei : ((14 + (7 * (b : Int))) + 5).toNat = 14 + 7 * b + 5 := by omega
  rw [ei]
  by_cases c : own ≤ 0
  · refine br_t c ⟨by omega, fun u hu => kk _ u ?_⟩
    rw [hu, if_neg (by omega)]
  · refine br_f c ?_
    refine ck (c_at (w := 5) hb (by omega)) ⟨by omega, fun u hu => kk _ u ?_⟩
    rw [hu, if_pos (by omega)]
theorem drS_f {l : Int} {N : Nat → Int} (h4 : N 4 ≤ 7) : ∀ k : Nat, (drS l N k).2.1 ≤ 7 ∧ N 4 - k ≤ (drS l N k).2.1
  | 0 => ⟨h4, by show N 4 - (0 : Nat) ≤ N 4; omega⟩
  | k + 1 => by
    have := drS_f (l := l) h4 k
    show (dr1 l (drS l N k) (ordF N k)).2.1 ≤ 7 ∧ _ ≤ (dr1 l (drS l N k) (ordF N k)).2.1
    unfold dr1; split
    · show (drS l N k).2.1 - 1 ≤ 7 ∧ N 4 - ((k + 1 : Nat) : Int) ≤ (drS l N k).2.1 - 1; omega
    · show (drS l N k).2.1 ≤ 7 ∧ N 4 - ((k + 1 : Nat) : Int) ≤ (drS l N k).2.1; omega
theorem c_goes_96 {m l d : Int} {N : Nat → Int} {Q : Int → Mem → Prop} (hN : Inv m N) : ∀ (dd k : Nat) (u : Mem) (x5 : Int), k + dd = nb N → u 133 = (drS l N k).1 → OrdR u N →
    (∀ (y3 y5 : Int) (w : Mem), w 133 = (drS l N (nb N)).1 → (∀ x, x ≠ 133 → w x = u x) → V G mX6_goes 277 [(0, RR 132), (1, II d), (2, II l), (3, II y3), (4, II (drS l N (nb N)).2.2), (5, II y5), (6, II 0)] [] w Q) →
    V G mX6_goes 96 [(0, RR 132), (1, II d), (2, II l), (3, II (drS l N k).2.1), (4, II (drS l N k).2.2), (5, II x5), (6, II (k : Int))] [] u Q := by
  intro dd
  have hh := hN.h
  unfold InH at hh
  induction dd with
  | zero =>
    intro k u x5 hk hu hO kk
    have e12 : u 133 12 = N 12 := by rw [hu, drS_hd l N (by omega) (by omega)]
    have hk2 : k = nb N := by omega
    refine sgX6_goes_96 ⟨i32 (by omega) (by unfold nb at hk; omega), by rw [e12]; exact i32 (by omega) (by omega), br_t (by rw [e12]; unfold nb at hk; omega) ?_⟩
    rw [hk2]
    exact kk _ _ u (by rw [hu, hk2]) (fun _ _ => rfl)
  | succ dd ih =>
    intro k u x5 hk hu hO kk
    have e12 : u 133 12 = N 12 := by rw [hu, drS_hd l N (by omega) (by omega)]
    have hkn : k < nb N := by omega
    have hk7 : k < 7 := by unfold nb at hkn; omega
    have ho := ord_lt (N := N) (by omega) hkn
    have hI : Inv m (u 133) := by rw [hu]; exact drS_inv hN k (by omega)
    have hf := drS_f (l := l) (N := N) (by omega) k
    have eb : u 134 ((k : Int).toNat) = (ordF N k : Int) := by rw [Int.toNat_natCast]; exact hO k hkn
    have nx : ∀ (y5 : Int) (w : Mem), w 133 = (drS l N (k + 1)).1 → (∀ x, x ≠ 133 → w x = u x) → V G mX6_goes 96 [(0, RR 132), (1, II d), (2, II l), (3, II (drS l N (k + 1)).2.1), (4, II (drS l N (k + 1)).2.2), (5, II y5), (6, II ((k : Int) + 1))] [] w Q := by
      intro y5 w h1 h2
      refine ih (k + 1) w y5 (by omega) h1 (fun j hj => by rw [h2 134 (by decide)]; exact hO j hj) (fun y3 y6 w2 g1 g2 => kk y3 y6 w2 g1 (fun x hx => by rw [g2 x hx, h2 x hx]))
    have es : drS l N (k + 1) = dr1 l (drS l N k) (ordF N k) := rfl
    have no : ¬ gets (drS l N k).1 (drS l N k).2.1 l (ordF N k) = true → V G mX6_goes 216 [(0, RR 132), (1, II d), (2, II l), (3, II (drS l N k).2.1), (4, II (drS l N k).2.2), (5, II x5), (6, II (k : Int)), (7, II (ordF N k : Int)), (8, II 0)] [] u Q := by
      intro g
      refine c_goes_216 hI ho.1 (by omega) (by omega) (fun y5 w hw => ?_)
      have := nx y5 w (by rw [hw, wr_s, hu, es, dr1_f g]; rfl) (fun x hx => by rw [hw, wr_n hx])
      rw [es, dr1_f g] at this
      exact this
    refine sgX6_goes_96 ⟨i32 (by omega) (by omega), by rw [e12]; exact i32 (by omega) (by omega), br_f (by rw [e12]; unfold nb at hkn; omega) ⟨by omega, i32 (by omega) (by omega), ?_⟩⟩
    rw [eb]
    have e10 : u 133 10 = (drS l N k).1 10 := by rw [hu]
    by_cases c1 : (drS l N k).2.1 ≤ 0
    · exact br_t c1 (no (fun g => by have := (gets_iff.mp g).1; omega))
    · refine br_f c1 ?_
      refine ck (c_isSated hI ho.1) ⟨by split <;> exact iL rfl, ?_⟩
      rw [hu]
      by_cases c2 : need (drS l N k).1 (ordF N k) ≤ bt (drS l N k).1 (ordF N k) 3
      · rw [if_pos c2]
        exact nb_t (by decide) (no (fun g => (gets_iff.mp g).2.1 c2))
      · rw [if_neg c2]
        refine nb_f rfl ?_
        refine ck (c_at (w := 6) ho.1 (by omega)) ?_
        have hB := hI.b ho.1
        unfold InB at hB
        refine ⟨i32 (by omega) (by omega), ?_⟩
        rw [hu]
        by_cases c3 : bt (drS l N k).1 (ordF N k) 6 = 0
        · refine nb_f c3 ⟨i32 (by omega) (by omega), ?_⟩
          have h10 : (drS l N k).1 10 = N 10 := by rw [drS_hd l N (by omega) (by omega)]
          refine ⟨by rw [h10]; exact i32 (by omega) (by omega), ?_⟩
          by_cases c4 : ((ordF N k : Nat) : Int) = (drS l N k).1 10
          · exact br_t c4 (no (fun g => (gets_iff.mp g).2.2.2.1 c4))
          · refine br_f c4 ⟨x32 _, ?_⟩
            by_cases c5 : iAnd (iShr l (ordF N k)) 1 = 1
            · refine nb_f c5 ?_
              have g : gets (drS l N k).1 (drS l N k).2.1 l (ordF N k) = true := gets_iff.mpr ⟨by omega, c2, c3, c4, c5⟩
              have hw := own_in (N := u 133) hI ho.1 (by rw [hu]; exact c2)
              refine ck (c_drinksOf hI ho.1) (fun u25 e25 => ⟨by omega, fun u28 e28 => ?_⟩)
              have ei : ((14 + (7 * ((ordF N k : Nat) : Int))) + 3).toNat = 14 + 7 * ordF N k + 3 := by omega
              rw [ei] at e28
              have s25 : u25 133 = up (drS l N k).1 7 ((drS l N k).1 7 - ownN (drS l N k).1 (ordF N k)) := by rw [e25, wr_s, hu]
              have s28 : u28 133 = up (up (drS l N k).1 7 ((drS l N k).1 7 - ownN (drS l N k).1 (ordF N k))) (14 + 7 * ordF N k + 3) (bt (drS l N k).1 (ordF N k) 3 + ownN (drS l N k).1 (ordF N k)) := by
                rw [e28, wr_s, s25, up_n (j := 14 + 7 * ordF N k + 3) (by omega), hu]; rfl
              have i28 : Inv m (u28 133) := by
                rw [s28]
                have hI2 : Inv m (drS l N k).1 := by rw [← hu]; exact hI
                have hh2 := hI2.h
                unfold InH at hh2
                rw [hu] at hw
                exact dk_inv (hI2.lo (by omega) (by omega) (by unfold InH; simp only [up]; simp; omega)) ho.1 (by rw [up_n (by omega), drS_hd l N (by omega) (by omega)]; exact ho.2) (by rw [bt_up_lo (by omega)]; omega) (by rw [need_lo (by omega)]; omega)
              refine c_goes_216 i28 ho.1 hw.1 hw.2.2.2 (fun y5 w hw2 => ?_)
              have b5 : bt (u28 133) (ordF N k) 5 = bt (drS l N k).1 (ordF N k) 5 := by rw [s28, bt_up_n (by omega) (by omega) (by omega), bt_up_lo (by omega)]
              have := nx y5 w (by rw [hw2, wr_s, s28, es, dr1_t g, ← s28, b5, hu]) (fun x hx => by rw [hw2, wr_n hx, e28, wr_n hx, e25, wr_n hx])
              rw [es, dr1_t g] at this
              rw [hu]
              exact this
            · exact nb_t c5 (no (fun g => c5 (gets_iff.mp g).2.2.2.2))
        · exact nb_t c3 (no (fun g => c3 (gets_iff.mp g).2.2.1))
theorem sw1_t {N : Nat → Int} {b : Nat} (h : bt N b 0 = 3 ∧ 12 ≤ bt N b 5) : sw1 N b = up (up (up N (14 + 7 * b + 6) (bt N b 6 - (if bt N b 6 ≤ 0 then 0 else 1))) (14 + 7 * b + 5) 0) (14 + 7 * b + 6) 5 := if_pos h
theorem sw1_f {N : Nat → Int} {b : Nat} (h : ¬ (bt N b 0 = 3 ∧ 12 ≤ bt N b 5)) : sw1 N b = up N (14 + 7 * b + 6) (bt N b 6 - (if bt N b 6 ≤ 0 then 0 else 1)) := if_neg h
theorem c_goes_277 {m d l x3 x4 x5 : Int} {N : Nat → Int} {Q : Int → Mem → Prop} (hN : Inv m N) : ∀ (dd k : Nat) (u : Mem), k + dd = nb N → u 133 = swS N k →
    (∀ w : Mem, w 133 = finN (swS N (nb N)) → (∀ x, x ≠ 133 → w x = u x) → Q x4 w) →
    V G mX6_goes 277 [(0, RR 132), (1, II d), (2, II l), (3, II x3), (4, II x4), (5, II x5), (6, II (k : Int))] [] u Q := by
  intro dd
  have hh := hN.h
  unfold InH at hh
  induction dd with
  | zero =>
    intro k u hk hu kk
    have e12 : u 133 12 = N 12 := by rw [hu, swS_hd N (by omega)]
    have e9 : u 133 9 = N 9 := by rw [hu, swS_hd N (by omega)]
    refine sgX6_goes_277 ⟨i32 (by omega) (by unfold nb at hk; omega), by rw [e12]; exact i32 (by omega) (by omega), br_t (by rw [e12]; unfold nb at hk; omega) ⟨by rw [e9]; exact i32 (by omega) (by omega), fun u9 h9 u11 h11 => kk u11 ?_ ?_⟩⟩
    · rw [h11, wr_s, h9, wr_s, up_n (by omega), hu, show k = nb N by omega]; rfl
    · intro x hx; rw [h11, wr_n hx, h9, wr_n hx]
  | succ dd ih =>
    intro k u hk hu kk
    have e12 : u 133 12 = N 12 := by rw [hu, swS_hd N (by omega)]
    have hk7 : k < 7 := by unfold nb at hk; omega
    have hkc : (k : Int) < N 12 := by unfold nb at hk; omega
    have hI : Inv m (swS N k) := swS_inv hN k (by omega)
    have hB := hI.b hk7
    have hn := need_in hI hk7
    unfold InB at hB
    have i6 : ((14 + (7 * (k : Int))) + 6).toNat = 14 + 7 * k + 6 := by omega
    have i5 : ((14 + (7 * (k : Int))) + 5).toNat = 14 + 7 * k + 5 := by omega
    have i0 : (14 + (7 * (k : Int))).toNat = 14 + 7 * k + 0 := by omega
    have nx : ∀ w : Mem, w 133 = sw1 (swS N k) k → (∀ x, x ≠ 133 → w x = u x) → V G mX6_goes 277 [(0, RR 132), (1, II d), (2, II l), (3, II x3), (4, II x4), (5, II x5), (6, II ((k : Int) + 1))] [] w Q := by
      intro w h1 h2
      exact ih (k + 1) w (by omega) h1 (fun w2 g1 g2 => kk w2 g1 (fun x hx => by rw [g2 x hx, h2 x hx]))
    have b6 : u 133 (14 + 7 * k + 6) = bt (swS N k) k 6 := by rw [hu]; rfl
    refine sgX6_goes_277 ⟨i32 (by omega) (by omega), by rw [e12]; exact i32 (by omega) (by omega), br_f (by rw [e12]; omega) ⟨by omega, ?_⟩⟩
    rw [i6, i5, i0, b6]
    refine ⟨i32 (by omega) (by omega), fun u20 e20 => ⟨by omega, ?_⟩⟩
    have s20 : u20 133 = up (swS N k) (14 + 7 * k + 6) (bt (swS N k) k 6 - (if bt (swS N k) k 6 ≤ 0 then 0 else 1)) := by rw [e20, wr_s, hu]
    have o20 : ∀ x, x ≠ 133 → u20 x = u x := fun x hx => by rw [e20, wr_n hx]
    have k0 : u20 133 (14 + 7 * k + 0) = bt (swS N k) k 0 := by rw [s20]; exact bt_up_n (N := swS N k) (b := k) (w := 0) (c := k) (x := 6) (by omega) (by omega) (by omega)
    have k5 : u20 133 (14 + 7 * k + 5) = bt (swS N k) k 5 := by rw [s20]; exact bt_up_n (N := swS N k) (b := k) (w := 5) (c := k) (x := 6) (by omega) (by omega) (by omega)
    rw [k0, k5]
    refine ⟨i32 (by omega) (by omega), ?_⟩
    by_cases c1 : bt (swS N k) k 0 = 3
    · refine nb_f c1 ⟨by omega, i32 (by omega) (by omega), ?_⟩
      by_cases c2 : bt (swS N k) k 5 < 12
      · refine br_t c2 (nx u20 (by rw [s20, sw1_f (fun q => by have := q.2; omega)]) o20)
      · refine br_f c2 (fun u26 e26 u28 e28 => nx u28 ?_ (fun x hx => by rw [e28, wr_n hx, e26, wr_n hx, o20 x hx]))
        rw [e28, wr_s, e26, wr_s, s20, sw1_t ⟨c1, by omega⟩]
    · exact nb_t c1 (nx u20 (by rw [s20, sw1_f (fun q => c1 q.1)]) o20)
/-- a whole minute of the reference: the order may be worked out anew -/
def OrdI (t : Mem) : Prop := -1 ≤ t 132 2 ∧ t 132 2 ≤ 3 ∧ (0 ≤ t 132 2 → OrdR t (up (t 133) 6 (t 132 2)))
/-- what goes leaves: the row, how often the rope broke, the order, all else -/
def AtG (t u : Mem) (N : Nat → Int) (k : Int) : Prop := u 133 = N ∧ (∀ j, j ≠ 2 → u 132 j = up (t 132) 3 (t 132 3 + k) j) ∧ (u 132 2 = N 6 ∧ OrdR u N) ∧ ∀ x, x ≠ 132 → x ≠ 133 → x ≠ 134 → u x = t x
theorem OrdR.same {t : Mem} {N M : Nat → Int} (h : OrdR t N) (hs : Same N M) (h7 : N 12 ≤ 7) : OrdR t M := fun k hk => by
  have hk2 : k < nb N := by rw [hs.nbE]; exact hk
  rw [h k hk2, hs.ordE h7 hk2]
theorem c_goes {m d l : Int} (hI : Inv m (t 133)) (hm : m + 1 ≤ 20000) (hd : d = 0 ∨ d = 1) (hO : OrdI t) : Ex G mX6_goes [RR 132, II d, II l] t (fun r u => r = goA d l (t 133) ∧ AtG t u (goN d l (t 133)) (eK d (t 133))) := by
  have hh := hI.h
  unfold InH at hh
  have iE := nE_inv d hI hm
  have hE := iE.h
  unfold InH at hE
  have kE := nE_kp d (t 133)
  have iR := (nR_inv hI).h
  unfold InH at iR
  -- behind the order
  have r80 : ∀ u : Mem, u 133 = nE d (t 133) → (∀ j, j ≠ 2 → u 132 j = up (t 132) 3 (t 132 3 + eK d (t 133)) j) → u 132 2 = t 133 6 → OrdR u (nE d (t 133)) → (∀ x, x ≠ 132 → x ≠ 133 → x ≠ 134 → u x = t x) → V G mX6_goes 80 [(0, RR 132), (1, II d), (2, II l)] [] u (fun r u => r = goA d l (t 133) ∧ AtG t u (goN d l (t 133)) (eK d (t 133))) := by
    intro u h1 h2 h3 h4 h5
    refine sgX6_goes_80 ?_
    have e4 : u 133 4 = (drS l (nE d (t 133)) 0).2.1 := by rw [h1]; rfl
    rw [e4]
    refine c_goes_96 (l := l) (N := nE d (t 133)) iE (nb (nE d (t 133))) 0 u 0 (by omega) h1 h4 (fun y3 y5 w g1 g2 => ?_)
    have e12 : (drS l (nE d (t 133)) (nb (nE d (t 133)))).1 12 = t 133 12 := by rw [drS_hd l _ (by omega) (by omega), kE.1.2.2.2.2.2.2.2]
    have en : nb (drS l (nE d (t 133)) (nb (nE d (t 133)))).1 = nb (t 133) := by
      show ((drS l (nE d (t 133)) (nb (nE d (t 133)))).1 12).toNat = _
      rw [e12]; rfl
    refine c_goes_277 (N := (drS l (nE d (t 133)) (nb (nE d (t 133)))).1) (drS_inv iE _ (Nat.le_refl _)) (nb (t 133)) 0 w (by rw [en]; omega) (by rw [g1]; rfl) (fun w2 f1 f2 => ?_)
    rw [en] at f1
    have eN : w2 133 = goN d l (t 133) := by rw [f1]; unfold goN; rw [nE_nb]
    refine ⟨by unfold goA; rw [nE_nb], eN, fun j hj => ?_, ⟨?_, ?_⟩, fun x a b c => ?_⟩
    · rw [f2 132 (by decide), g2 132 (by decide), h2 j hj]
    · rw [f2 132 (by decide), g2 132 (by decide), h3, (goN_kp d l (t 133)).1.2.2.2.2.2.1]
    · have : OrdR w2 (nE d (t 133)) := fun k hk => by rw [f2 134 (by decide), g2 134 (by decide)]; exact h4 k hk
      exact this.same (kE.same.sy.tr (goN_kp d l (t 133)).same) (by omega)
    · rw [f2 x b, g2 x b, h5 x a b c]
  have r55 : ∀ u : Mem, u 133 = nE d (t 133) → u 132 = up (t 132) 3 (t 132 3 + eK d (t 133)) → (∀ x, x ≠ 132 → x ≠ 133 → u x = t x) → V G mX6_goes 55 [(0, RR 132), (1, II d), (2, II l)] [] u (fun r u => r = goA d l (t 133) ∧ AtG t u (goN d l (t 133)) (eK d (t 133))) := by
    intro u h1 h2 h3
    have e2 : u 132 2 = t 132 2 := by rw [h2, up_n (by omega)]
    have e6 : u 133 6 = t 133 6 := by rw [h1, kE.1.2.2.2.2.2.1]
    refine sgX6_goes_55 ⟨by rw [e2]; exact i32 (by have := hO.1; omega) (by have := hO.2.1; omega), by rw [e6]; exact i32 (by omega) (by omega), ?_⟩
    by_cases c : u 132 2 = u 133 6
    · refine br_t c (r80 u h1 (fun j _ => by rw [h2]) (by rw [c, e6]) ?_ (fun x a b _ => h3 x a b))
      have ho : OrdR t (t 133) := by
        have h := hO.2.2 (by rw [← e2, c, e6]; omega)
        rw [up_id (by rw [← e2, c, e6])] at h
        exact h
      have : OrdR u (t 133) := fun k hk => by rw [h3 134 (by decide) (by decide)]; exact ho k hk
      exact this.same kE.same (by omega)
    · refine br_f c ?_
      refine cqv (c_orders (m := m + 1) (by rw [h1]; exact iE)) (fun w hw => ?_)
      refine r80 w (by rw [hw.1 133 (by decide), wr_n (by decide), h1]) (fun j hj => ?_) ?_ (by rw [← h1]; exact hw.2) (fun x a b c => by rw [hw.1 x c, wr_n a, h3 x a b])
      · rw [hw.1 132 (by decide), wr_sn hj, h2]
      · rw [hw.1 132 (by decide), wr_ss, e6]
  refine eX6_goes (sgX6_goes_0 ⟨⟨by omega, i32 (by omega) (by omega)⟩, ⟨by omega, i32 (by omega) (by omega)⟩, fun u3 e3 => ?_⟩)
  have s3 : u3 133 = nR (t 133) := by rw [e3, wr_s]; rfl
  have o3 : ∀ x, x ≠ 133 → u3 x = t x := fun x hx => by rw [e3, wr_n hx]
  rw [s3]
  refine ⟨i32 (by omega) (by omega), ?_⟩
  by_cases c1 : nR (t 133) 9 = 0
  · refine nb_f c1 ⟨i32 (by omega) (by omega), i32 (by omega) (by omega), ?_⟩
    by_cases c2 : nR (t 133) 0 < nR (t 133) 5
    · refine br_t c2 (r55 u3 (by rw [s3]; unfold nE; rw [if_neg (by omega)]) (by rw [o3 132 (by decide)]; unfold eK; rw [if_neg (by omega), up_0]) (fun x _ b => o3 x b))
    · refine br_f c2 ?_
      refine cqv (c_draws (m := m) (by rw [s3]; exact nR_inv hI) hm hd) (fun w hw => ?_)
      rw [s3] at hw
      refine r55 w (by rw [hw.1]; unfold nE; rw [if_pos (by omega)]) ?_ (fun x a b => by rw [hw.2.2 x a b, o3 x b])
      rw [hw.2.1, o3 132 (by decide)]; unfold eK; rw [if_pos (by omega)]
  · exact nb_t c1 (r55 u3 (by rw [s3]; unfold nE; rw [if_neg (fun q => c1 q.1)]) (by rw [o3 132 (by decide)]; unfold eK; rw [if_neg (fun q => c1 q.1), up_0]) (fun x _ b => o3 x b))
theorem AtG.ordI {t u : Mem} {N : Nat → Int} {k : Int} (h : AtG t u N k) (h6 : 0 ≤ N 6 ∧ N 6 ≤ 3) : OrdI u := by
  refine ⟨by rw [h.2.2.1.1]; omega, by rw [h.2.2.1.1]; omega, fun _ => ?_⟩
  rw [h.2.2.1.1, h.1, up_id rfl]
  exact h.2.2.1.2
end M3
