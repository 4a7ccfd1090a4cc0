/-! undo -/
def mixL (N E : Nat → Int) (L : Nat) : Nat → Int := fun j => if isM j = true ∧ j < L then E j else N j
theorem mixL_up {N E : Nat → Int} {L : Nat} (h : isM L = true) : up (mixL N E L) L (E L) = mixL N E (L + 1) := by
  funext j
  by_cases c : j = L
  · subst c; rw [up_s]; unfold mixL; rw [if_pos ⟨h, by omega⟩]
  · rw [up_n c]; unfold mixL
    by_cases d : isM j = true ∧ j < L
    · rw [if_pos d, if_pos ⟨d.1, by omega⟩]
    · rw [if_neg d, if_neg (fun q => d ⟨q.1, by omega⟩)]
theorem mixL_sk {N E : Nat → Int} {k : Nat} (hk : k < 7) : mixL N E (14 + 7 * k + 3) = mixL N E (14 + 7 * k) := by
  funext j
  unfold mixL
  by_cases d : isM j = true ∧ j < 14 + 7 * k
  · rw [if_pos d, if_pos ⟨d.1, by omega⟩]
  · rw [if_neg d, if_neg]
    intro q
    by_cases e : j < 14 + 7 * k
    · exact d ⟨q.1, e⟩
    · have := isM_bt (b := k) (w := j - (14 + 7 * k)) hk (by omega)
      rw [show 14 + 7 * k + (j - (14 + 7 * k)) = j by omega, q.1] at this
      have := of_decide_eq_true this.symm
      omega
theorem mixL_0 {N E : Nat → Int} : up (up (up (up (up (up N 0 (E 0)) 7 (E 7)) 8 (E 8)) 9 (E 9)) 11 (E 11)) 13 (E 13) = mixL N E 14 := by
  funext j
  by_cases c : j < 14
  · have : j = 0 ∨ j = 1 ∨ j = 2 ∨ j = 3 ∨ j = 4 ∨ j = 5 ∨ j = 6 ∨ j = 7 ∨ j = 8 ∨ j = 9 ∨ j = 10 ∨ j = 11 ∨ j = 12 ∨ j = 13 := by omega
    rcases this with rfl | rfl | rfl | rfl | rfl | rfl | rfl | rfl | rfl | rfl | rfl | rfl | rfl | rfl <;> simp [up, mixL, isM]
  · unfold mixL
    rw [up_n (by omega), up_n (by omega), up_n (by omega), up_n (by omega), up_n (by omega), up_n (by omega), if_neg (fun q => c q.2)]
theorem mixL_end {m m2 : Int} {N E : Nat → Int} (hN : Inv m N) (hM : Inv m2 (mix N E)) : mixL N E (14 + 7 * nb N) = mix N E := by
  have hh := hN.h
  unfold InH at hh
  funext j
  by_cases c : isM j = true ∧ j < 14 + 7 * nb N
  · unfold mixL; rw [if_pos c, mix_y c.1]
  · unfold mixL; rw [if_neg c]
    cases e : isM j
    · rw [mix_f e]
    · have hj := isM_lt e
      have hn : ¬ j < 14 + 7 * nb N := fun q => c ⟨e, q⟩
      have ej : 14 + 7 * ((j - 14) / 7) + (j - 14) % 7 = j := by omega
      have hb : (j - 14) / 7 < 7 := by omega
      have h3 : 3 ≤ (j - 14) % 7 := by
        have := isM_bt (b := (j - 14) / 7) (w := (j - 14) % 7) hb (by omega)
        rw [ej, e] at this
        exact of_decide_eq_true this.symm
      have a := hN.2.2.2.1 ((j - 14) / 7) hb (by unfold nb at hn; omega)
      have b := hM.2.2.2.1 ((j - 14) / 7) hb (by rw [mix_f (by decide)]; unfold nb at hn; omega)
      have w4 : (j - 14) % 7 = 3 ∨ (j - 14) % 7 = 4 ∨ (j - 14) % 7 = 5 ∨ (j - 14) % 7 = 6 := by omega
      unfold bt at a b
      rcases w4 with w | w | w | w <;> rw [w] at ej <;> rw [ej] at a b
      · rw [a.1, b.1]
      · rw [a.2.1, b.2.1]
      · rw [a.2.2.1, b.2.2.1]
      · rw [a.2.2.2, b.2.2.2]
section S8
variable {G : GG} {t : Mem}
theorem s_undo (hR : Rel t) : Step G mX5_undo [RR 0] mX6_undo [RR 132] t := by
  have hh := hR.inv.h
  unfold InH at hh
  obtain ⟨nx, kn, ⟨h1, h2, h3, h4, h5⟩, hE⟩ := hR.past
  by_cases c : kn = 0
  · subst c
    refine Step.pure (v := -4) hR (iL rfl) (eX5_undo (sgX5_undo_0 (ck (x_giveBack0 is12 is7 h4) ⟨iL rfl, fun w ew => ⟨by rw [ew]; rfl, rfl⟩⟩))) (eX6_undo (sgX6_undo_0 ?_))
    rw [h5]; exact ⟨iL rfl, nb_f rfl ⟨rfl, rfl⟩⟩
  · have hs : slot nx kn (kn - 1) = (nx + 7) % 8 := by unfold slot; congr 1; omega
    obtain ⟨E1, E2, E3⟩ := hE (kn - 1) (by omega)
    rw [hs] at E1
    refine ⟨((kn - 1 : Nat) : Int), fun u => MomR u 7 (mix (t 133) (enU (t 135) (kn - 1))) ∧ u 12 1 = ((nx + 7) % 8 : Nat) ∧ u 12 2 = (kn - 1 : Nat) ∧ ∀ x, x ≠ 12 → (x < 7 ∨ 11 < x) → u x = t x, i32 (by omega) (by omega), eX5_undo (sgX5_undo_0 (cq (x_giveBack is12 is7 (by omega) h3 h4 h1 h2 (by omega)) (fun r u h => ?_))), fun u hu => ?_⟩
    · obtain ⟨rfl, g1, g2, g3, g4, g5⟩ := h
      exact ⟨iL rfl, fun w ew => ⟨by rw [ew, if_neg (by decide), g2], MomG.cp E1 g3 g4, g1, g2, fun x a b => g5 x a (by omega)⟩⟩
    · obtain ⟨um, u1, u2, un⟩ := hu
      have u132 : u 132 = t 132 := un 132 (by omega) (by omega)
      have u133 : u 133 = t 133 := un 133 (by omega) (by omega)
      have u135 : u 135 = t 135 := un 135 (by omega) (by omega)
      have kE : (kn : Int) - 1 = ((kn - 1 : Nat) : Int) := by omega
      -- the rows under way
      have row : ∀ w : Mem, w 133 = mix (t 133) (enU (t 135) (kn - 1)) → (∀ j, w 132 j = if j = 5 then ((kn - 1 : Nat) : Int) else t 132 j) → (∀ x, x ≠ 132 → x ≠ 133 → w x = u x) → Rel w := by
        intro w w133 w132 wn
        have wt : ∀ x, x ≠ 132 → x ≠ 133 → x ≠ 12 → (x < 7 ∨ 11 < x) → w x = t x := fun x a b c d => by rw [wn x a b, un x c d]
        have r := hR.rest (u := w) ⟨fun x hx => wt x (by omega) (by omega) (by omega) (by omega), fun k hk => by rw [w132, if_neg (by omega)]⟩
        have sm : SmB (t 133) (mix (t 133) (enU (t 135) (kn - 1))) := ⟨(mix_f (by decide)).symm, fun b hb => ⟨(mix_lo hb (by omega)).symm, (mix_lo hb (by omega)).symm, (mix_lo hb (by omega)).symm⟩⟩
        refine ⟨?_, ?_, hR.ord.of hR.h12.2 (by rw [w133]; exact sm) (by rw [w132, if_neg (by omega)]) (wt 134 (by omega) (by omega) (by omega) (by omega)), ?_, ?_, ?_, r.1, r.2.1, r.2.2⟩
        · rw [w133, mix_y (by decide)]; exact E2
        · rw [w133, mix_y (by decide)]; exact E3
        · rw [w133]
          have cc := hR.camp
          unfold CampR at cc ⊢
          rw [mix_f (by decide), mix_f (by decide), mix_f (by decide), mix_f (by decide), mix_f (by decide), mix_f (by decide), mix_f (by decide), mix_f (by decide), wt 1 (by omega) (by omega) (by omega) (by omega)]
          refine ⟨cc.1, fun b hb hn => ?_⟩
          rw [wt (1 + 1) (by omega) (by omega) (by omega) (by omega), wt (1 + 2) (by omega) (by omega) (by omega) (by omega), wt (1 + 3) (by omega) (by omega) (by omega) (by omega), wt (1 + 4) (by omega) (by omega) (by omega) (by omega)]
          unfold mk5
          rw [mix_lo hb (by omega), mix_lo hb (by omega), mix_lo hb (by omega)]
          exact cc.2 b hb hn
        · rw [w133]
          exact MomG.kept um (fun x _ _ => wn x (by omega) (by omega))
        · rw [w133, w132, if_pos rfl, wt 135 (by omega) (by omega) (by omega) (by omega)]
          refine ⟨(nx + 7) % 8, kn - 1, ⟨Nat.mod_lt _ (by decide), by omega, by rw [wn 12 (by omega) (by omega)]; exact u1, by rw [wn 12 (by omega) (by omega)]; exact u2, rfl⟩, fun i hi => ?_⟩
          have es : slot ((nx + 7) % 8) (kn - 1) i = slot nx kn i := by unfold slot; omega
          have em : mix (mix (t 133) (enU (t 135) (kn - 1))) (enU (t 135) i) = mix (t 133) (enU (t 135) i) := mix_ext (fun j hj => mix_f hj) (fun _ _ => rfl)
          have hs8 : slot nx kn i < 8 := Nat.mod_lt _ (by decide)
          rw [es, em]
          exact ⟨MomG.kept (hE i (by omega)).1 (fun x _ _ => wt x (by omega) (by omega) (by omega) (by omega)), (hE i (by omega)).2⟩
      have lo : ∀ (dd k : Nat) (w : Mem), k + dd = nb (t 133) → w 133 = mixL (t 133) (enU (t 135) (kn - 1)) (14 + 7 * k) → (∀ j, w 132 j = if j = 5 then ((kn - 1 : Nat) : Int) else t 132 j) → (∀ x, x ≠ 132 → x ≠ 133 → w x = u x) → V G mX6_undo 124 [(0, RR 132), (1, II (63 * ((kn - 1 : Nat) : Int))), (2, II (k : Int))] [] w (fun r w => r = ((kn - 1 : Nat) : Int) ∧ Rel w) := by
        intro dd
        induction dd with
        | zero =>
          intro k w hk w133 w132 wn
          have e : k = nb (t 133) := by omega
          rw [e, mixL_end hR.inv E2] at w133
          have e12 : w 133 12 = t 133 12 := by rw [w133, mix_f (by decide)]
          refine sgX6_undo_124 ⟨i32 (by omega) (by unfold nb at hk; omega), by rw [e12]; exact i32 (by omega) (by omega), br_t (by rw [e12]; unfold nb at hk; omega) ⟨by rw [w132, if_pos rfl], row w w133 w132 wn⟩⟩
        | succ dd ih =>
          intro k w hk w133 w132 wn
          have hk7 : k < 7 ∧ (k : Int) < t 133 12 := by unfold nb at hk; omega
          have e12 : w 133 12 = t 133 12 := by rw [w133]; unfold mixL; rw [if_neg (fun q => absurd q.1 (by decide))]
          refine sgX6_undo_124 ⟨i32 (by omega) (by omega), by rw [e12]; exact i32 (by omega) (by omega), br_f (by rw [e12]; omega) ?_⟩
          have li : ∀ (d2 i : Nat) (x : Mem), i + d2 = 7 → 3 ≤ i → x 133 = mixL (t 133) (enU (t 135) (kn - 1)) (14 + 7 * k + i) → (∀ j, x 132 j = if j = 5 then ((kn - 1 : Nat) : Int) else t 132 j) → (∀ y, y ≠ 132 → y ≠ 133 → x y = u y) → V G mX6_undo 137 [(0, RR 132), (1, II (63 * ((kn - 1 : Nat) : Int))), (2, II (k : Int)), (3, II (i : Int))] [] x (fun r w => r = ((kn - 1 : Nat) : Int) ∧ Rel w) := by
            intro d2
            induction d2 with
            | zero =>
              intro i x hi h3 x133 x132 xn
              refine sgX6_undo_137 ⟨i32 (by omega) (by omega), br_t (by omega) (ih (k + 1) x (by omega) (by rw [x133]; congr 1; omega) x132 xn)⟩
            | succ d2 ih2 =>
              intro i x hi h3 x133 x132 xn
              refine sgX6_undo_137 ⟨i32 (by omega) (by omega), br_f (by omega) ⟨by omega, by omega, fun x3 f3 => ?_⟩⟩
              rw [show (14 + 7 * (k : Int) + (i : Int)).toNat = 14 + 7 * k + i by omega, show (63 * ((kn - 1 : Nat) : Int) + 14 + 7 * (k : Int) + (i : Int)).toNat = 63 * (kn - 1) + (14 + 7 * k + i) by omega, xn 135 (by decide) (by decide), u135] at f3
              rw [f3]
              refine ih2 (i + 1) _ (by omega) (by omega) ?_ (fun j => by rw [wr_n (by decide)]; exact x132 j) (fun y a b => by rw [wr_n b]; exact xn y a b)
              rw [wr_s, x133, show 14 + 7 * k + (i + 1) = 14 + 7 * k + i + 1 by omega]
              exact mixL_up (by rw [isM_bt hk7.1 (by omega)]; exact decide_eq_true h3)
          exact li 4 3 w (by omega) (by omega) (by rw [w133, mixL_sk hk7.1]) w132 wn
      refine eX6_undo (sgX6_undo_0 ?_)
      rw [u132, h5]
      refine ⟨i32 (by omega) (by omega), nb_t (by omega) (fun y2 f2 => ?_)⟩
      have y25 : y2 132 5 = ((kn - 1 : Nat) : Int) := by rw [f2, wr_ss]; omega
      rw [y25]
      have ei : ∀ j : Nat, (63 * ((kn - 1 : Nat) : Int) + (j : Int)).toNat = 63 * (kn - 1) + j := fun j => by omega
      refine ⟨by omega, fun y5 f5 => ⟨by omega, fun y8 f8 => ⟨by omega, fun y11 f11 => ⟨by omega, fun y14 f14 => ⟨by omega, fun y17 f17 => ⟨by omega, fun y20 f20 => ?_⟩⟩⟩⟩⟩⟩
      have e2 : y2 135 = t 135 := by rw [f2, wr_n (by decide), u135]
      have e5 : y5 135 = t 135 := by rw [f5, wr_n (by decide), e2]
      have e8 : y8 135 = t 135 := by rw [f8, wr_n (by decide), e5]
      have e11 : y11 135 = t 135 := by rw [f11, wr_n (by decide), e8]
      have e14 : y14 135 = t 135 := by rw [f14, wr_n (by decide), e11]
      have e17 : y17 135 = t 135 := by rw [f17, wr_n (by decide), e14]
      rw [e2] at f5
      rw [e5] at f8
      rw [e8] at f11
      rw [e11] at f14
      rw [e14] at f17
      rw [e17] at f20
      have yn : ∀ x, x ≠ 133 → y20 x = y2 x := fun x hx => by rw [f20, wr_n hx, f17, wr_n hx, f14, wr_n hx, f11, wr_n hx, f8, wr_n hx, f5, wr_n hx]
      refine lo (nb (t 133)) 0 y20 (by omega) ?_ (fun j => ?_) (fun x a b => by rw [yn x b, f2, wr_n a])
      · rw [f20, wr_s, f17, wr_s, f14, wr_s, f11, wr_s, f8, wr_s, f5, wr_s, f2, wr_n (by decide), u133]
        have e0 := ei 0
        have e7 := ei 7
        have e8 := ei 8
        have e9 := ei 9
        have e11 := ei 11
        have e13 := ei 13
        rw [show (63 * ((kn - 1 : Nat) : Int) + 0).toNat = 63 * (kn - 1) + 0 from e0, show (63 * ((kn - 1 : Nat) : Int) + 7).toNat = 63 * (kn - 1) + 7 from e7, show (63 * ((kn - 1 : Nat) : Int) + 8).toNat = 63 * (kn - 1) + 8 from e8, show (63 * ((kn - 1 : Nat) : Int) + 9).toNat = 63 * (kn - 1) + 9 from e9, show (63 * ((kn - 1 : Nat) : Int) + 11).toNat = 63 * (kn - 1) + 11 from e11, show (63 * ((kn - 1 : Nat) : Int) + 13).toNat = 63 * (kn - 1) + 13 from e13]
        exact mixL_0 (N := t 133) (E := enU (t 135) (kn - 1))
      · rw [yn 132 (by decide), f2]
        by_cases z : j = 5
        · rw [if_pos z, z, wr_ss]; omega
        · rw [if_neg z, wr_sn z, u132]
end S8
