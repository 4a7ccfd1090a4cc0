/-! drift -/
theorem iand31 (x : Int) : iAnd x 2147483647 = lAnd x 2147483647 := by
  have a : (Int32.ofInt x &&& Int32.ofInt 2147483647).toBitVec.toNat = (x % 4294967296).toNat % 2147483648 := by
    rw [Int32.toBitVec_and, BitVec.toNat_and]
    show (BitVec.ofInt 32 x).toNat &&& 2147483647 = _
    rw [BitVec.toNat_ofInt, show (2147483647 : Nat) = 2 ^ 31 - 1 from rfl, Nat.and_two_pow_sub_one_eq_mod]; rfl
  have b : (Int64.ofInt x &&& Int64.ofInt 2147483647).toBitVec.toNat = (x % 18446744073709551616).toNat % 2147483648 := by
    rw [Int64.toBitVec_and, BitVec.toNat_and]
    show (BitVec.ofInt 64 x).toNat &&& 2147483647 = _
    rw [BitVec.toNat_ofInt, show (2147483647 : Nat) = 2 ^ 31 - 1 from rfl, Nat.and_two_pow_sub_one_eq_mod]; rfl
  have e : (Int32.ofInt x &&& Int32.ofInt 2147483647).toInt = ((Int32.ofInt x &&& Int32.ofInt 2147483647).toBitVec.toNat : Int) := by
    show (Int32.ofInt x &&& Int32.ofInt 2147483647).toBitVec.toInt = _
    rw [BitVec.toInt_eq_toNat_of_lt (by omega)]
  have f : (Int64.ofInt x &&& Int64.ofInt 2147483647).toInt = ((Int64.ofInt x &&& Int64.ofInt 2147483647).toBitVec.toNat : Int) := by
    show (Int64.ofInt x &&& Int64.ofInt 2147483647).toBitVec.toInt = _
    rw [BitVec.toInt_eq_toNat_of_lt (by omega)]
  unfold iAnd lAnd
  rw [e, f, a, b]
  omega
theorem go0_8 {N : Nat → Int} (h : ¬ drew N) : goN 0 127 N 8 = N 8 := by
  unfold drew at h
  have e : nE 0 N = nR N := by
    unfold nE nW
    split
    · rw [if_neg (fun q => h ⟨by assumption, q⟩)]
    · rfl
  unfold goN finN
  rw [up_n (by omega), up_n (by omega), swS_hd _ (by omega), drS_hd 127 _ (by omega) (by omega), e]
  unfold nR; rw [up_n (by omega)]
theorem PastR.nm {t : Mem} {p : Nat} {N N2 U : Nat → Int} {kn : Int} (h : PastR t p N U kn) (h2 : ∀ j, isM j = false → N2 j = N j) : PastR t p N2 U kn := by
  obtain ⟨nx, k, h1, hE⟩ := h
  refine ⟨nx, k, h1, fun i hi => ?_⟩
  rw [mix_ext (N := N) (E := enU U i) h2 (fun _ _ => rfl)]
  exact hE i hi
section DR
variable {G : GG} {t : Mem}
theorem x_rope {m : Int} {M : Nat → Int} (hM : MomR t 7 M) (hI : Inv m M) : Ex G mX1_ropeBreaks [RR 7] t (fun r u => (if M 8 / 10 ≤ lAnd (M 13 * 1103515245 + 12345) 2147483647 / 65536 % 100 then r = 0 ∧ MomR u 7 (up M 13 (lAnd (M 13 * 1103515245 + 12345) 2147483647)) else r = 1 ∧ MomR u 7 (up (up (up M 13 (lAnd (M 13 * 1103515245 + 12345) 2147483647)) 9 3) 8 0)) ∧ ∀ x, x ≠ 7 → u x = t x) := by
  have hh := hI.h
  unfold InH at hh
  have hm0 := hI.1
  have hz := lAnd31 (M 13 * 1103515245 + 12345)
  obtain ⟨⟨m0, m1, m2, m3, m4, m5⟩, mb⟩ := hM
  refine eX1_ropeBreaks (sgX1_ropeBreaks_0 is7 (fun u1 e1 => ?_))
  rw [m5, iand31] at e1
  have f5 : u1 7 5 = lAnd (M 13 * 1103515245 + 12345) 2147483647 := by rw [e1, wr_ss]
  have f2 : u1 7 2 = M 8 := by rw [e1, wr_sn (by decide), m2]
  rw [f5, f2]
  refine ⟨⟨hz.1, i32 (by omega) (by omega)⟩, ⟨by omega, i32 (by omega) (by omega)⟩, ⟨by omega, i32 (by omega) (by omega)⟩, i32 (by omega) (by omega), i32 (by omega) (by omega), ?_⟩
  by_cases c : M 8 / 10 ≤ lAnd (M 13 * 1103515245 + 12345) 2147483647 / 65536 % 100
  · refine br_f (by omega) ⟨?_, fun x hx => by rw [e1, wr_n hx]⟩
    rw [if_pos c]
    refine ⟨rfl, ?_, fun b hb => ?_⟩
    · rw [e1, wr_s]
      simp only [up, m0, m1, m2, m3, m4]
      simp
    · rw [e1, wr_n (by omega), wr_n (by omega), wr_n (by omega), wr_n (by omega), bt_up_lo (by omega), bt_up_lo (by omega), bt_up_lo (by omega), bt_up_lo (by omega)]
      exact mb b hb
  · refine br_t (by omega) (fun u8 e8 u10 e10 => ⟨?_, fun x hx => by rw [e10, wr_n hx, e8, wr_n hx, e1, wr_n hx]⟩)
    rw [if_neg c]
    refine ⟨rfl, ?_, fun b hb => ?_⟩
    · rw [e10, wr_s, e8, wr_s, e1, wr_s]
      simp only [up, m0, m1, m2, m3, m4]
      simp
    · rw [e10, wr_n (by omega), wr_n (by omega), wr_n (by omega), wr_n (by omega), e8, wr_n (by omega), wr_n (by omega), wr_n (by omega), wr_n (by omega), e1, wr_n (by omega), wr_n (by omega), wr_n (by omega), wr_n (by omega)]
      rw [bt_up_lo (by omega), bt_up_lo (by omega), bt_up_lo (by omega), bt_up_lo (by omega), bt_up_lo (by omega), bt_up_lo (by omega), bt_up_lo (by omega), bt_up_lo (by omega), bt_up_lo (by omega), bt_up_lo (by omega), bt_up_lo (by omega), bt_up_lo (by omega)]
      exact mb b hb
theorem jtK_in {N : Nat → Int} (h : Inv (N 11) N) : ∀ i : Nat, N 11 + i ≤ 9999 → 0 ≤ jtK 1 N i ∧ jtK 1 N i ≤ i
  | 0, _ => by unfold jtK; omega
  | i + 1, hi => by
    have ih := jtK_in h i (by omega)
    have hI := jtN_inv (d := 1) h i (by omega)
    show 0 ≤ jtK 1 N i + eK 1 (jtN 1 N i) ∧ jtK 1 N i + eK 1 (jtN 1 N i) ≤ _
    by_cases c : drew (jtN 1 N i)
    · have := (go1_yes hI c).2
      split at this <;> rw [this.2] <;> omega
    · rw [(go1_no c).2]; omega
theorem s_drift {v : Int} (hv : In32 v) (hR : Rel t) : Step G mX5_drift [RR 0, II v] mX6_drift [RR 132, II v] t := by
  have hh := hR.inv.h
  unfold InH at hh
  have hmn := hR.mn
  have rx := x_refuse (G := G) hv hR
  by_cases c : 1 ≤ v ∧ v ≤ 60
  · rw [if_pos c] at rx
    by_cases d : t 133 11 + v ≤ 9999
    · rw [if_pos d] at rx
      obtain ⟨n, rfl⟩ : ∃ n : Nat, v = n := ⟨v.toNat, by omega⟩
      obtain ⟨-, k, ⟨-, k8, -, -, k5⟩, -⟩ := hR.past
      have jk := jtK_in hR.inv n d
      refine ⟨jtK 1 (t 133) n, fun u => LvX t u (jtN 1 (t 133) n) (ntI 1 (t 133) (t 135) k n).1 (ntI 1 (t 133) (t 135) k n).2, i32 (by omega) (by omega), eX5_drift (sgX5_drift_0 (ck rx ⟨iL rfl, br_t rfl (cqv (x_arrange is1 hR.inv hR.camp) (fun u10 h10 => ?_))⟩)), fun u hu => ?_⟩
      · have lv := LvX.begin hR h10.1 h10.2 k5
        have lp : ∀ (dd i : Nat) (u : Mem), i + dd = n → LvX t u (jtN 1 (t 133) i) (ntI 1 (t 133) (t 135) k i).1 (ntI 1 (t 133) (t 135) k i).2 → V G mX5_drift 24 [(0, RR 0), (1, II (n : Int)), (2, II 0), (3, II (jtK 1 (t 133) i)), (4, II (i : Int))] [] u (fun r u => r = jtK 1 (t 133) n ∧ LvX t u (jtN 1 (t 133) n) (ntI 1 (t 133) (t 135) k n).1 (ntI 1 (t 133) (t 135) k n).2) := by
          intro dd
          induction dd with
          | zero =>
            intro i u hi h
            have e : i = n := by omega
            subst e
            exact sgX5_drift_24 ⟨i32 (by omega) (by omega), i32 (by omega) (by omega), br_t (by omega) ⟨rfl, h⟩⟩
          | succ dd ih =>
            intro i u hi h
            have hIi := jtN_inv (d := 1) hR.inv i (by omega)
            have e11 := jtN_11 1 (t 133) i
            have hhi := hIi.h
            unfold InH at hhi
            have kp := goN_kp 1 127 (jtN 1 (t 133) i)
            have h12 : jtN 1 (t 133) i 12 ≤ 7 := by omega
            refine sgX5_drift_24 ⟨i32 (by omega) (by omega), i32 (by omega) (by omega), br_f (by omega) (x_live h hIi (by omega) (fun w w1 w2 w3 w4 w5 => ?_))⟩
            refine cq (x_step is7 is1 w2 w3 w4 hIi (by omega)) (fun r y hy => ?_)
            obtain ⟨-, -, y3, y4⟩ := hy
            have mk : ∀ z : Mem, MomR z 7 (goN 1 127 (jtN 1 (t 133) i)) → (∀ x, x < 7 ∨ 11 < x → z x = w x) → LvX t z (jtN 1 (t 133) (i + 1)) (ntI 1 (t 133) (t 135) k (i + 1)).1 (ntI 1 (t 133) (t 135) k (i + 1)).2 := by
              intro z z1 z2
              refine ⟨z1, (w3.kept (fun x _ _ => z2 x (by omega))).kp kp, OrdC.kp (fun q hq => by rw [z2 (1 + 5) (by omega)]; exact w4 q hq) kp h12, ?_, fun x hx => by rw [z2 x (by omega), w5 x hx]⟩
              exact (w1.nm (N2 := jtN 1 (t 133) (i + 1)) (fun j hj => by show goN 1 127 (jtN 1 (t 133) i) j = _; rw [goN_nm hIi (by omega) hj, goN_nm hIi (by omega) hj])).kept (z2 12 (by omega)) (fun x _ _ => z2 x (by omega))
            have y2 : y 7 2 = goN 0 127 (jtN 1 (t 133) i) 8 := y3.1.2.2.1
            have ww : w 7 2 = jtN 1 (t 133) i 8 := w2.1.2.2.1
            rw [y2, ww]
            by_cases q : drew (jtN 1 (t 133) i)
            · obtain ⟨⟨g8, g13⟩, gy⟩ := go1_yes hIi q
              have hI0 := goN_inv (d := 0) (l := 127) hIi (by omega)
              rw [g8]
              refine ⟨i32 (by omega) (by omega), i32 (by omega) (by omega), br_f (by omega) (cq (x_rope y3 hI0) (fun r2 z hz => ?_))⟩
              obtain ⟨z1, z2⟩ := hz
              rw [g8, g13] at z1
              by_cases p : (jtN 1 (t 133) i 8 + 1) / 10 ≤ lAnd (jtN 1 (t 133) i 13 * 1103515245 + 12345) 2147483647 / 65536 % 100
              · rw [if_pos p] at z1 gy
                refine ⟨by rw [z1.1]; exact iL rfl, br_t z1.1 ?_⟩
                have := ih (i + 1) z (by omega) (mk z (by rw [gy.1]; exact z1.2) (fun x hx => by rw [z2 x (by omega), y4 x (by omega)]))
                rw [show jtK 1 (t 133) (i + 1) = jtK 1 (t 133) i + eK 1 (jtN 1 (t 133) i) from rfl, gy.2, Int.add_zero] at this
                exact this
              · rw [if_neg p] at z1 gy
                refine ⟨by rw [z1.1]; exact iL rfl, br_f (by rw [z1.1]; decide) ?_⟩
                have := ih (i + 1) z (by omega) (mk z (by rw [gy.1]; exact z1.2) (fun x hx => by rw [z2 x (by omega), y4 x (by omega)]))
                rw [show jtK 1 (t 133) (i + 1) = jtK 1 (t 133) i + eK 1 (jtN 1 (t 133) i) from rfl, gy.2] at this
                exact this
            · obtain ⟨gn, ge⟩ := go1_no q
              rw [go0_8 q]
              refine ⟨i32 (by omega) (by omega), i32 (by omega) (by omega), br_t (by omega) ?_⟩
              have := ih (i + 1) y (by omega) (mk y (by rw [gn]; exact y3) (fun x hx => y4 x (by omega)))
              rw [show jtK 1 (t 133) (i + 1) = jtK 1 (t 133) i + eK 1 (jtN 1 (t 133) i) from rfl, ge, Int.add_zero] at this
              exact this
        exact lp n 0 u10 (by omega) lv
      · have u132 : u 132 = t 132 := hu.2.2.2.2 132 (by omega)
        have u133 : u 133 = t 133 := hu.2.2.2.2 133 (by omega)
        have u134 : u 134 = t 134 := hu.2.2.2.2 134 (by omega)
        have u135 : u 135 = t 135 := hu.2.2.2.2 135 (by omega)
        refine eX6_drift (sgX6_drift_0 ⟨hv, ck (c_in1 (j32 hv) (jL rfl) (jL rfl) c) ⟨iL rfl, nb_t (by decide) ?_⟩⟩)
        rw [u133]
        refine ⟨i32 (by omega) (by omega), br_t d (fun u9 e9 => ?_)⟩
        have n132 : ∀ x, x ≠ 132 → u9 x = u x := fun x hx => by rw [e9, wr_n hx]
        have n3 : u9 132 3 = 0 := by rw [e9, wr_ss]
        have nj : ∀ j, j ≠ 3 → u9 132 j = u 132 j := fun j hj => by rw [e9, wr_sn hj]
        have hl : LvM u9 u9 (t 133) (t 135) k (u9 132 3) := by
          refine ⟨by rw [n132 133 (by decide), u133], by rw [n132 135 (by decide), u135], fun j hj => ?_, hR.ord.of hR.h12.2 (by rw [n132 133 (by decide), u133]; exact SmB.rf _) (by rw [nj 2 (by decide), u132]) (by rw [n132 134 (by decide), u134]), fun _ _ _ _ _ => rfl⟩
          by_cases z5 : j = 5
          · rw [if_pos z5, z5, nj 5 (by decide), u132]; exact k5
          · rw [if_neg z5]
            by_cases z3 : j = 3
            · rw [if_pos z3, z3]
            · rw [if_neg z3]
        refine cq (c_gone (Or.inr rfl) (by omega) k8 hl hR.inv d) (fun r w hw => ?_)
        obtain ⟨-, b1, b2, b3, b4, b5⟩ := hw
        refine ⟨by rw [b3 3 (by decide), if_neg (by decide), if_pos rfl, n3]; omega, hR.lived (b := u9 132 3 + jtK 1 (t 133) n) hu ⟨b1, b2, fun j hj => ?_, b4, fun x p q r s => by rw [b5 x p q r s, n132 x p]⟩ (jtN_inv hR.inv n d) (by rw [jtN_11]; exact d)⟩
        rw [b3 j hj]
        by_cases z3 : j = 3
        · rw [if_pos z3, if_pos z3]
        · rw [nj j z3]
    · rw [if_neg d] at rx
      exact Step.pure (v := -3) hR (iL rfl) (eX5_drift (sgX5_drift_0 (ck rx ⟨iL rfl, br_f (by decide) ⟨rfl, rfl⟩⟩))) (eX6_drift (sgX6_drift_0 ⟨hv, ck (c_in1 (j32 hv) (jL rfl) (jL rfl) c) ⟨iL rfl, nb_t (by decide) ⟨i32 (by omega) (by omega), br_f d ⟨rfl, rfl⟩⟩⟩⟩))
  · rw [if_neg c] at rx
    exact Step.pure (v := -1) hR (iL rfl) (eX5_drift (sgX5_drift_0 (ck rx ⟨iL rfl, br_f (by decide) ⟨rfl, rfl⟩⟩))) (eX6_drift (sgX6_drift_0 ⟨hv, ck (c_in0 (j32 hv) (jL rfl) (jL rfl) c) ⟨iL rfl, nb_f rfl ⟨rfl, rfl⟩⟩⟩))
end DR
