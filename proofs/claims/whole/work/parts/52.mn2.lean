/-! minutes -/
/-- the reference when i minutes have been lived -/
def LvM (u w : Mem) (N U : Nat → Int) (k : Nat) (b : Int) : Prop := w 133 = N ∧ w 135 = U ∧ (∀ j, j ≠ 2 → w 132 j = if j = 5 then (k : Int) else if j = 3 then b else u 132 j) ∧ OrdI w ∧ ∀ x, x ≠ 132 → x ≠ 133 → x ≠ 134 → x ≠ 135 → w x = u x
section M2
variable {G : GG} {t : Mem}
theorem c_gone {d : Int} {n k : Nat} {u : Mem} {N U : Nat → Int} (hd : d = 0 ∨ d = 1) (hn : n ≤ 60) (hk : k ≤ 8) (h : LvM u u N U k (u 132 3)) (hI : Inv (N 11) N) (hm : N 11 + n ≤ 9999) : Ex G mX6_gone [RR 132, II (n : Int), II d] u (fun r w => r = jtA d N n ∧ LvM u w (jtN d N n) (ntI d N U k n).1 (ntI d N U k n).2 (u 132 3 + jtK d N n)) := by
  have lp : ∀ (dd i : Nat) (w : Mem), i + dd = n → LvM u w (jtN d N i) (ntI d N U k i).1 (ntI d N U k i).2 (u 132 3 + jtK d N i) → V G mX6_gone 5 [(0, RR 132), (1, II (n : Int)), (2, II d), (3, II (jtA d N i)), (4, II (i : Int))] [] w (fun r w => r = jtA d N n ∧ LvM u w (jtN d N n) (ntI d N U k n).1 (ntI d N U k n).2 (u 132 3 + jtK d N n)) := by
    intro dd
    induction dd with
    | zero =>
      intro i w hi hw
      have e : i = n := by omega
      subst e
      exact sgX6_gone_5 ⟨i32 (by omega) (by omega), i32 (by omega) (by omega), br_t (by omega) ⟨rfl, hw⟩⟩
    | succ dd ih =>
      intro i w hi hw
      obtain ⟨w1, w2, w3, w4, w5⟩ := hw
      have hIi := jtN_inv (d := d) hI i (by omega)
      have e11 := jtN_11 d N i
      have hh := hIi.h
      unfold InH at hh
      have k8 := ntI_8 (d := d) (N := N) (U := U) hk i
      have w5k : w 132 5 = ((ntI d N U k i).2 : Int) := by rw [w3 5 (by decide), if_pos rfl]
      refine sgX6_gone_5 ⟨i32 (by omega) (by omega), i32 (by omega) (by omega), br_f (by omega) (ckv (c_notes k8 w5k) ?_)⟩
      rw [w1, w2]
      have x133 : wr (row w 135 (ntU (ntI d N U k i).1 (jtN d N i) (ntI d N U k i).2)) 132 5 (min 8 ((ntI d N U k i).2 + 1) : Nat) 133 = jtN d N i := by rw [wr_n (by decide), row_n (by decide), w1]
      have x134 : wr (row w 135 (ntU (ntI d N U k i).1 (jtN d N i) (ntI d N U k i).2)) 132 5 (min 8 ((ntI d N U k i).2 + 1) : Nat) 134 = w 134 := by rw [wr_n (by decide), row_n (by decide)]
      have x2 : wr (row w 135 (ntU (ntI d N U k i).1 (jtN d N i) (ntI d N U k i).2)) 132 5 (min 8 ((ntI d N U k i).2 + 1) : Nat) 132 2 = w 132 2 := by rw [wr_sn (by decide), row_n (by decide)]
      have xO : OrdI (wr (row w 135 (ntU (ntI d N U k i).1 (jtN d N i) (ntI d N U k i).2)) 132 5 (min 8 ((ntI d N U k i).2 + 1) : Nat)) := w4.of (by rw [w1]; omega) (by rw [x133, w1]; exact SmB.rf _) x2 x134
      refine cq (c_goes (l := 127) (by rw [x133]; exact hIi) (by omega) hd xO) (fun r y hy => ?_)
      rw [x133] at hy
      obtain ⟨rfl, hy⟩ := hy
      have yO := hy.ordI (by have := (goN_kp d 127 (jtN d N i)).1.2.2.2.2.2.1; rw [this]; omega)
      obtain ⟨y1, y2, -, y4⟩ := hy
      refine ih (i + 1) y (by omega) ⟨y1, ?_, fun j hj => ?_, yO, fun x a b c e => ?_⟩
      · rw [y4 135 (by decide) (by decide) (by decide), wr_n (by decide), row_s]; rfl
      · rw [y2 j hj]
        by_cases z5 : j = 5
        · subst z5; rw [up_n (by decide), wr_ss, if_pos rfl]; rfl
        · rw [if_neg z5]
          by_cases z3 : j = 3
          · subst z3
            rw [up_s, if_pos rfl, wr_sn (by decide), row_n (by decide), w3 3 (by decide), if_neg (by decide), if_pos rfl]
            show u 132 3 + jtK d N i + eK d (jtN d N i) = u 132 3 + (jtK d N i + eK d (jtN d N i)); omega
          · rw [up_n z3, if_neg z3, wr_sn z5, row_n (by decide), w3 j hj, if_neg z5, if_neg z3]
      · rw [y4 x a b c, wr_n a, row_n e, w5 x a b c e]
  refine eX6_gone (sgX6_gone_0 (lp n 0 u (by omega) ?_))
  obtain ⟨h1, h2, h3, h4, h5⟩ := h
  refine ⟨h1, h2, fun j hj => ?_, h4, h5⟩
  rw [h3 j hj]
  by_cases z5 : j = 5
  · rw [if_pos z5, if_pos z5]; rfl
  · rw [if_neg z5, if_neg z5]
    by_cases z3 : j = 3
    · rw [if_pos z3, if_pos z3]; show u 132 3 = u 132 3 + 0; omega
    · rw [if_neg z3, if_neg z3]
/-- class and reference have both lived -/
theorem Rel.lived {u w : Mem} {M U : Nat → Int} {k : Nat} {b : Int} (hR : Rel t) (hx : LvX t u M U k) (hm : LvM u w M U k b) (hI : Inv (M 11) M) (h9 : M 11 ≤ 9999) : Rel w := by
  obtain ⟨a1, a2, a3, a4, a5⟩ := hx
  obtain ⟨b1, b2, b3, b4, b5⟩ := hm
  have wt : ∀ x, (x = 0 ∨ 53 < x) → x ≠ 132 → x ≠ 133 → x ≠ 134 → x ≠ 135 → w x = t x := fun x hx p q r s => by rw [b5 x p q r s, a5 x hx]
  have r := hR.rest (u := w) ⟨fun x hx => wt x (by omega) (by omega) (by omega) (by omega) (by omega), fun j hj => by rw [b3 j (by omega), if_neg (by omega), if_neg (by omega), a5 132 (by omega)]⟩
  refine ⟨by rw [b1]; exact hI, by rw [b1]; exact h9, b4, by rw [b1]; exact a2.kept (fun x _ _ => b5 x (by omega) (by omega) (by omega) (by omega)), by rw [b1]; exact MomG.kept a1 (fun x _ _ => b5 x (by omega) (by omega) (by omega) (by omega)), ?_, r.1, r.2.1, r.2.2⟩
  rw [b1, b2, b3 5 (by decide), if_pos rfl]
  exact a4.kept (b5 12 (by omega) (by omega) (by omega) (by omega)) (fun x _ _ => b5 x (by omega) (by omega) (by omega) (by omega))
theorem x_refuse {v : Int} (hv : In32 v) (hR : Rel t) : Ex G mX5_refusal [RR 0, II v] t (Ret (if 1 ≤ v ∧ v ≤ 60 then (if t 133 11 + v ≤ 9999 then 0 else -3) else -1) t) := by
  have hh := hR.inv.h
  unfold InH at hh
  have hmn := hR.mn
  have m4 : t 7 4 = t 133 11 := hR.mom.1.2.2.2.2.1
  refine eX5_refusal (sgX5_refusal_0 ?_)
  by_cases c : 1 ≤ v ∧ v ≤ 60
  · rw [if_pos c]
    refine ck (x_out0 (iL rfl) (iL rfl) c) ⟨iL rfl, br_t rfl ?_⟩
    rw [m4]
    exact ⟨i32 (by omega) (by omega), rfl, rfl⟩
  · rw [if_neg c]
    exact ck (x_out1 hv (iL rfl) (iL rfl) c) ⟨iL rfl, br_f (by decide) ⟨rfl, rfl⟩⟩
theorem LvX.begin {u : Mem} (hR : Rel t) (hO : OrdC u 1 (t 133)) (hf : Fl t u 1) {k : Nat} (hk : t 132 5 = k) : LvX t u (t 133) (t 135) k := by
  refine ⟨MomG.kept hR.mom (fun x _ _ => hf.1 x (by omega) (by omega)), hR.camp.fl hf, hO, ?_, fun x hx => hf.1 x (by omega) (by omega)⟩
  rw [← hk]
  exact hR.past.kept (hf.1 12 (by omega) (by omega)) (fun x _ _ => hf.1 x (by omega) (by omega))
theorem s_minutes {v : Int} (hv : In32 v) (hR : Rel t) : Step G mX5_minutes [RR 0, II v] mX6_minutes [RR 132, II v] t := by
  have hh := hR.inv.h
  unfold InH at hh
  have hmn := hR.mn
  have rx := x_refuse (G := G) hv hR
  by_cases c : 1 ≤ v ∧ v ≤ 60
  · rw [if_pos c] at rx
    by_cases d : t 133 11 + v ≤ 9999
    · rw [if_pos d] at rx
      obtain ⟨n, rfl⟩ : ∃ n : Nat, v = n := ⟨v.toNat, by omega⟩
      obtain ⟨-, k, ⟨-, k8, -, -, k5⟩, -⟩ := hR.past
      have s0 := sumD_in hR.inv 7 (by omega)
      have sn := sumD_in (jtN_inv (d := 0) hR.inv n d) 7 (by omega)
      have sj := jtN_sum (d := 0) hR.inv n d
      refine ⟨jtA 0 (t 133) n, fun u => LvX t u (jtN 0 (t 133) n) (ntI 0 (t 133) (t 135) k n).1 (ntI 0 (t 133) (t 135) k n).2, i32 (by omega) (by omega), eX5_minutes (sgX5_minutes_0 (ck rx ⟨iL rfl, br_t rfl (cqv (x_arrange is1 hR.inv hR.camp) (fun u10 h10 => ?_))⟩)), fun u hu => ?_⟩
      · have lv := LvX.begin hR h10.1 h10.2 k5
        refine ck (x_drunk is7 lv.1) ?_
        have lp : ∀ (dd i : Nat) (u : Mem), i + dd = n → LvX t u (jtN 0 (t 133) i) (ntI 0 (t 133) (t 135) k i).1 (ntI 0 (t 133) (t 135) k i).2 → V G mX5_minutes 30 [(0, RR 0), (1, II (n : Int)), (2, II 0), (3, II (sumD (t 133) 7)), (4, II (i : Int))] [] u (fun r u => r = jtA 0 (t 133) n ∧ LvX t u (jtN 0 (t 133) n) (ntI 0 (t 133) (t 135) k n).1 (ntI 0 (t 133) (t 135) k n).2) := by
          intro dd
          induction dd with
          | zero =>
            intro i u hi h
            have e : i = n := by omega
            subst e
            refine sgX5_minutes_30 ⟨i32 (by omega) (by omega), i32 (by omega) (by omega), br_t (by omega) (ck (x_drunk is7 h.1) ⟨?_, h⟩)⟩
            rw [sj]; omega
          | succ dd ih =>
            intro i u hi h
            have hIi := jtN_inv (d := 0) hR.inv i (by omega)
            have e11 := jtN_11 0 (t 133) i
            have kp := goN_kp 0 127 (jtN 0 (t 133) i)
            have h12 : jtN 0 (t 133) i 12 ≤ 7 := by rw [(jtN_kp 0 (t 133) i).1.2.2.2.2.2.2.2]; omega
            refine sgX5_minutes_30 ⟨i32 (by omega) (by omega), i32 (by omega) (by omega), br_f (by omega) (x_live h hIi (by omega) (fun w w1 w2 w3 w4 w5 => ?_))⟩
            refine cq (x_step is7 is1 w2 w3 w4 hIi (by omega)) (fun r y hy => ih (i + 1) y (by omega) ?_)
            obtain ⟨-, -, y3, y4⟩ := hy
            exact ⟨y3, (w3.kept (fun x _ _ => y4 x (by omega))).kp kp, OrdC.kp (fun q hq => by rw [y4 (1 + 5) (by omega)]; exact w4 q hq) kp h12, w1.kept (y4 12 (by omega)) (fun x _ _ => y4 x (by omega)), fun x hx => by rw [y4 x (by omega), w5 x hx]⟩
        exact lp n 0 u10 (by omega) lv
      · have u132 : u 132 = t 132 := hu.2.2.2.2 132 (by omega)
        have u133 : u 133 = t 133 := hu.2.2.2.2 133 (by omega)
        have u134 : u 134 = t 134 := hu.2.2.2.2 134 (by omega)
        have u135 : u 135 = t 135 := hu.2.2.2.2 135 (by omega)
        have hl : LvM u u (t 133) (t 135) k (u 132 3) := by
          refine ⟨u133, u135, fun j hj => ?_, hR.ord.of hR.h12.2 (by rw [u133]; exact SmB.rf _) (by rw [u132]) u134, fun _ _ _ _ _ => rfl⟩
          by_cases z5 : j = 5
          · rw [if_pos z5, z5, u132]; exact k5
          · rw [if_neg z5]
            by_cases z3 : j = 3
            · rw [if_pos z3, z3]
            · rw [if_neg z3]
        refine eX6_minutes (sgX6_minutes_0 ⟨hv, ck (c_in1 (j32 hv) (jL rfl) (jL rfl) c) ⟨iL rfl, nb_t (by decide) ?_⟩⟩)
        rw [u133]
        refine ⟨i32 (by omega) (by omega), br_t d (cq (c_gone (Or.inl rfl) (by omega) k8 hl hR.inv d) (fun r w hw => ⟨hw.1, hR.lived hu hw.2 (jtN_inv hR.inv n d) (by rw [jtN_11]; exact d)⟩))⟩
    · rw [if_neg d] at rx
      exact Step.pure (v := -3) hR (iL rfl) (eX5_minutes (sgX5_minutes_0 (ck rx ⟨iL rfl, br_f (by decide) ⟨rfl, rfl⟩⟩))) (eX6_minutes (sgX6_minutes_0 ⟨hv, ck (c_in1 (j32 hv) (jL rfl) (jL rfl) c) ⟨iL rfl, nb_t (by decide) ⟨i32 (by omega) (by omega), br_f d ⟨rfl, rfl⟩⟩⟩⟩))
  · rw [if_neg c] at rx
    exact Step.pure (v := -1) hR (iL rfl) (eX5_minutes (sgX5_minutes_0 (ck rx ⟨iL rfl, br_f (by decide) ⟨rfl, rfl⟩⟩))) (eX6_minutes (sgX6_minutes_0 ⟨hv, ck (c_in0 (j32 hv) (jL rfl) (jL rfl) c) ⟨iL rfl, nb_f rfl ⟨rfl, rfl⟩⟩⟩))
end M2
