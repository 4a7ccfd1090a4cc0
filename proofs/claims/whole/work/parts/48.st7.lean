/-! image, restore, undo -/
theorem isPm {p s : Nat} (hp : IsPast p) (hs : s < 8) : IsMom (p + 2 + 5 * s) := by
  have : ∀ p ∈ ([12, 65] : List Nat), ∀ s, s < 8 → p + 2 + 5 * s ∈ ([7, 14, 19, 24, 29, 34, 39, 44, 49, 60, 67, 72, 77, 82, 87, 92, 97, 102, 113] : List Nat) := by decide +kernel
  exact this p hp s hs
def PCp (t u : Mem) (a b : Nat) : Prop := u a 1 = t b 1 ∧ u a 2 = t b 2 ∧ (∀ s, s < 8 → (∀ j, j < 6 → u (a + 2 + 5 * s) j = t (b + 2 + 5 * s) j) ∧ ∀ i y, 1 ≤ i → i ≤ 4 → y < 7 → u (a + 2 + 5 * s + i) y = t (b + 2 + 5 * s + i) y) ∧ ∀ x, x < a ∨ a + 41 < x → u x = t x
theorem MomG.cp {t u : Mem} {a b : Nat} {N : Nat → Int} {s : Int} (h : MomG t b N s) (h1 : ∀ j, j < 6 → u a j = t b j) (h2 : ∀ i y, 1 ≤ i → i ≤ 4 → y < 7 → u (a + i) y = t (b + i) y) : MomG u a N s := by
  unfold MomG at h ⊢
  rw [h1 0 (by omega), h1 1 (by omega), h1 2 (by omega), h1 3 (by omega), h1 4 (by omega), h1 5 (by omega)]
  refine ⟨h.1, fun b hb => ?_⟩
  rw [h2 1 b (by omega) (by omega) hb, h2 2 b (by omega) (by omega) hb, h2 3 b (by omega) (by omega) hb, h2 4 b (by omega) (by omega) hb]
  exact h.2 b hb
theorem PCp.past {t u : Mem} {a b : Nat} {N U : Nat → Int} {kn : Int} (h : PCp t u a b) (hP : PastR t b N U kn) : PastR u a N U kn := by
  obtain ⟨nx, k, ⟨h1, h2, h3, h4, h5⟩, hE⟩ := hP
  refine ⟨nx, k, ⟨h1, h2, by rw [h.1, h3], by rw [h.2.1, h4], h5⟩, fun i hi => ?_⟩
  have hs : slot nx k i < 8 := Nat.mod_lt _ (by decide)
  exact ⟨MomG.cp (hE i hi).1 (h.2.2.1 _ hs).1 (h.2.2.1 _ hs).2, (hE i hi).2⟩
theorem PastR.cg {t : Mem} {p : Nat} {N M U W : Nat → Int} {kn : Int} (h : PastR t p N U kn) (e : Eq63 N M) (f : ∀ j, j < 504 → W j = U j) : PastR t p M W kn := by
  obtain ⟨nx, k, h1, hE⟩ := h
  refine ⟨nx, k, h1, fun i hi => ?_⟩
  have hf : Eq63 (enU U i) (enU W i) := fun j hj => f _ (by omega)
  have hm := e.mix hf
  rw [hf 11 (by omega)]
  exact ⟨hm.mom (hE i hi).1, hm.inv (hE i hi).2.1, (hE i hi).2.2⟩
section S7
variable {G : GG} {t : Mem}
theorem x_ptake {a b : Nat} (ha : IsPast a) (hb : IsPast b) (hab : a + 41 < b ∨ b + 41 < a) : Ex G mX2_takeFrom [RR a, RR b] t (fun _ u => PCp t u a b) := by
  have lp : ∀ (dd k : Nat) (u : Mem), k + dd = 8 → (∀ s, s < k → (∀ j, j < 6 → u (a + 2 + 5 * s) j = t (b + 2 + 5 * s) j) ∧ ∀ i y, 1 ≤ i → i ≤ 4 → y < 7 → u (a + 2 + 5 * s + i) y = t (b + 2 + 5 * s + i) y) → (∀ x, x < a + 2 ∨ a + 41 < x → u x = t x) → V G mX2_takeFrom 2 [(0, RR a), (1, RR b), (2, II (k : Int))] [] u (fun _ u => PCp t u a b) := by
    intro dd
    induction dd with
    | zero =>
      intro k u hk h1 h2
      refine sgX2_takeFrom_2 ha hb ⟨i32 (by omega) (by omega), br_t (by omega) (fun u2 e2 u4 e4 => ?_)⟩
      have n2 : u2 b = t b := by rw [e2, wr_n (by omega), h2 b (by omega)]
      have ne : ∀ x, x ≠ a → u4 x = u x := fun x hx => by rw [e4, wr_n hx, e2, wr_n hx]
      refine ⟨?_, ?_, fun s hs => ?_, fun x hx => ?_⟩
      · rw [e4, wr_sn (by decide), e2, wr_ss, h2 b (by omega)]
      · rw [e4, wr_ss, n2]
      · refine ⟨fun j hj => ?_, fun i y h3 h4 hy => ?_⟩
        · rw [ne _ (by omega)]; exact (h1 s (by omega)).1 j hj
        · rw [ne _ (by omega)]; exact (h1 s (by omega)).2 i y h3 h4 hy
      · rw [ne x (by omega), h2 x (by omega)]
    | succ dd ih =>
      intro k u hk h1 h2
      refine sgX2_takeFrom_2 ha hb ⟨i32 (by omega) (by omega), br_f (by omega) ⟨by omega, ?_⟩⟩
      rw [Int.toNat_natCast]
      refine cqv (x_mtake (isPm ha (by omega)) (isPm hb (by omega)) (by omega)) (fun u2 h => ?_)
      refine ih (k + 1) u2 (by omega) (fun s hs => ?_) (fun x hx => by rw [h.2.2 x (by omega), h2 x hx])
      by_cases z : s = k
      · subst z
        exact ⟨fun j hj => by rw [h.1 j hj, h2 _ (by omega)], fun i y h3 h4 hy => by rw [h.2.1 i y h3 h4 hy, h2 _ (by omega)]⟩
      · refine ⟨fun j hj => ?_, fun i y h3 h4 hy => ?_⟩
        · rw [h.2.2 _ (by omega)]; exact (h1 s (by omega)).1 j hj
        · rw [h.2.2 _ (by omega)]; exact (h1 s (by omega)).2 i y h3 h4 hy
  exact eX2_takeFrom (sgX2_takeFrom_0 ha hb (lp 8 0 t (by omega) (fun s hs => absurd hs (Nat.not_lt_zero s)) (fun _ _ => rfl)))
theorem s_image (hR : Rel t) : Step G mX5_image [RR 0] mX6_image [RR 132] t := by
  refine ⟨1, fun u => u 0 3 = 1 ∧ CampR u 54 (t 133) ∧ MomR u 60 (t 133) ∧ PastR u 65 (t 133) (t 135) (t 132 5) ∧ ∀ x, x ≠ 0 → (x < 54 ∨ 106 < x) → u x = t x, iL rfl, eX5_image (sgX5_image_0 (cqv (x_ctake is54 is1 (by decide)) (fun u4 h4 => cqv (x_mtake is60 is7 (by decide)) (fun u9 h9 => cqv (x_ptake is65 is12 (by omega)) (fun u14 h14 u16 e16 => ?_))))), fun u hu => ?_⟩
  · refine ⟨rfl, by rw [e16, wr_ss], ?_, ?_, ?_, fun x h0 hx => by rw [e16, wr_n h0, h14.2.2.2 x (by omega), h9.2.2 x (by omega), h4.2.2 x (by omega)]⟩
    · exact (h4.camp hR.camp).kept (fun x _ _ => by rw [e16, wr_n (by omega), h14.2.2.2 x (by omega), h9.2.2 x (by omega)])
    · have m4 : MomR u4 7 (t 133) := MomG.kept hR.mom (fun x _ _ => h4.2.2 x (by omega))
      exact MomG.kept (h9.mom m4) (fun x _ _ => by rw [e16, wr_n (by omega), h14.2.2.2 x (by omega)])
    · have p9 : PastR u9 12 (t 133) (t 135) (t 132 5) := hR.past.kept (by rw [h9.2.2 12 (by omega), h4.2.2 12 (by omega)]) (fun x _ _ => by rw [h9.2.2 x (by omega), h4.2.2 x (by omega)])
      exact (h14.past p9).kept (by rw [e16, wr_n (by decide)]) (fun x _ _ => by rw [e16, wr_n (by omega)])
  · obtain ⟨u0, uc, um, up', un⟩ := hu
    have u133 : u 133 = t 133 := un 133 (by omega) (by omega)
    have l2 : ∀ (dd k : Nat) (w : Mem), k + dd = 504 → (∀ j, j < 63 → w 140 j = u 133 j) → (∀ j, j < k → w 140 (63 + j) = u 135 j) → (∀ x, x ≠ 140 → w x = u x) → V G mX6_image 28 [(0, RR 132), (1, II (k : Int))] [] w (fun r w => r = 1 ∧ Rel w) := by
      intro dd
      induction dd with
      | zero =>
        intro k w hk h1 h2 h3
        refine sgX6_image_28 ⟨i32 (by omega) (by omega), br_t (by omega) (fun x2 f2 x4 f4 => ⟨rfl, ?_⟩)⟩
        have xn : ∀ x, x ≠ 132 → x4 x = w x := fun x hx => by rw [f4, wr_n hx, f2, wr_n hx]
        have xt : ∀ x, x ≠ 132 → x ≠ 140 → x ≠ 0 → (x < 54 ∨ 106 < x) → x4 x = t x := fun x a b c d => by rw [xn x a, h3 x b, un x c d]
        have x132 : ∀ j, j ≠ 14 → j ≠ 15 → x4 132 j = t 132 j := fun j a b => by rw [f4, wr_sn b, f2, wr_sn a, h3 132 (by decide), un 132 (by omega) (by omega)]
        have x133 := xt 133 (by omega) (by omega) (by omega) (by omega)
        have e63 : Eq63 (t 133) (x4 140) := fun j hj => by rw [xn 140 (by decide), h1 j hj, u133]
        refine ⟨by rw [x133]; exact hR.inv, by rw [x133]; exact hR.mn, hR.ord.of hR.h12.2 (by rw [x133]; exact SmB.rf _) (x132 2 (by omega) (by omega)) (xt 134 (by omega) (by omega) (by omega) (by omega)), by rw [x133]; exact hR.camp.kept (fun x _ _ => xt x (by omega) (by omega) (by omega) (by omega)), by rw [x133]; exact MomG.kept hR.mom (fun x _ _ => xt x (by omega) (by omega) (by omega) (by omega)), ?_, Or.inr ⟨?_, ?_, ⟨?_, ?_⟩, ?_, ?_, ?_⟩, hR.tape.kept (by rw [xt 121 (by omega) (by omega) (by omega) (by omega)]) (xt 122 (by omega) (by omega) (by omega) (by omega)) (x132 9 (by omega) (by omega)) (xt 138 (by omega) (by omega) (by omega) (by omega)), fun k hk => (hR.sheets k hk).kept (xt _ (by omega) (by omega) (by omega) (by omega)) (xt _ (by omega) (by omega) (by omega) (by omega)) (xt 141 (by omega) (by omega) (by omega) (by omega)) (xt 142 (by omega) (by omega) (by omega) (by omega)) (xt 143 (by omega) (by omega) (by omega) (by omega))⟩
        · rw [x133, xt 135 (by omega) (by omega) (by omega) (by omega), x132 5 (by omega) (by omega)]
          exact hR.past.kept (xt 12 (by omega) (by omega) (by omega) (by omega)) (fun x _ _ => xt x (by omega) (by omega) (by omega) (by omega))
        · rw [xn 0 (by decide), h3 0 (by decide), u0]
        · rw [f4, wr_ss]
        · rw [e63 11 (by omega)]; exact e63.inv hR.inv
        · rw [e63 11 (by omega)]; exact hR.mn
        · exact (e63.camp uc).kept (fun x _ _ => by rw [xn x (by omega), h3 x (by omega)])
        · exact MomG.kept (e63.mom um) (fun x _ _ => by rw [xn x (by omega), h3 x (by omega)])
        · have e14 : x4 132 14 = t 132 5 := by rw [f4, wr_sn (by decide), f2, wr_ss, h3 132 (by decide), un 132 (by omega) (by omega)]
          rw [e14]
          refine (up'.cg e63 (fun j hj => ?_)).kept (by rw [xn 65 (by omega), h3 65 (by omega)]) (fun x _ _ => by rw [xn x (by omega), h3 x (by omega)])
          rw [xn 140 (by decide), h2 j (by omega), un 135 (by omega) (by omega)]
      | succ dd ih =>
        intro k w hk h1 h2 h3
        refine sgX6_image_28 ⟨i32 (by omega) (by omega), br_f (by omega) ⟨by omega, by omega, fun x7 f7 => ?_⟩⟩
        rw [Int.toNat_natCast, show (63 + (k : Int)).toNat = 63 + k by omega] at f7
        rw [f7]
        refine ih (k + 1) _ (by omega) (fun j hj => by rw [wr_sn (by omega)]; exact h1 j hj) (fun j hj => ?_) (fun x hx => by rw [wr_n hx, h3 x hx])
        by_cases z : j = k
        · rw [z, wr_ss, h3 135 (by decide)]
        · rw [wr_sn (by omega)]; exact h2 j (by omega)
    have l1 : ∀ (dd k : Nat) (w : Mem), k + dd = 63 → (∀ j, j < k → w 140 j = u 133 j) → (∀ x, x ≠ 140 → w x = u x) → V G mX6_image 2 [(0, RR 132), (1, II (k : Int))] [] w (fun r w => r = 1 ∧ Rel w) := by
      intro dd
      induction dd with
      | zero =>
        intro k w hk h1 h3
        exact sgX6_image_2 ⟨i32 (by omega) (by omega), br_t (by omega) (l2 504 0 w (by omega) (fun j hj => h1 j (by omega)) (fun j hj => absurd hj (Nat.not_lt_zero j)) h3)⟩
      | succ dd ih =>
        intro k w hk h1 h3
        refine sgX6_image_2 ⟨i32 (by omega) (by omega), br_f (by omega) ⟨by omega, by omega, fun x7 f7 => ?_⟩⟩
        rw [Int.toNat_natCast] at f7
        rw [f7]
        refine ih (k + 1) _ (by omega) (fun j hj => ?_) (fun x hx => by rw [wr_n hx, h3 x hx])
        by_cases z : j = k
        · rw [z, wr_ss, h3 133 (by decide)]
        · rw [wr_sn z]; exact h1 j (by omega)
    exact eX6_image (sgX6_image_0 (l1 63 0 u (by omega) (fun j hj => absurd hj (Nat.not_lt_zero j)) (fun _ _ => rfl)))
theorem s_restore (hR : Rel t) : Step G mX5_restore [RR 0] mX6_restore [RR 132] t := by
  rcases hR.img with ⟨i0, i15⟩ | ⟨i0, i15, ⟨iI1, iI2⟩, iC, iM, iP⟩
  · exact Step.pure (v := -4) hR (iL rfl) (eX5_restore (sgX5_restore_0 (by rw [i0]; exact ⟨iL rfl, nb_f rfl ⟨rfl, rfl⟩⟩))) (eX6_restore (sgX6_restore_0 (by rw [i15]; exact ⟨iL rfl, nb_f rfl ⟨rfl, rfl⟩⟩)))
  · refine ⟨1, fun u => CampR u 1 (t 140) ∧ MomR u 7 (t 140) ∧ PastR u 12 (t 140) (fun j => t 140 (63 + j)) (t 132 14) ∧ ∀ x, x < 1 ∨ 53 < x → u x = t x, iL rfl, eX5_restore (sgX5_restore_0 ?_), fun u hu => ?_⟩
    · rw [i0]
      refine ⟨iL rfl, nb_t (by decide) (cqv (x_ctake is1 is54 (by decide)) (fun u4 h4 => cqv (x_mtake is7 is60 (by decide)) (fun u9 h9 => cqv (x_ptake is12 is65 (by omega)) (fun u14 h14 => ⟨rfl, ?_, ?_, ?_, fun x hx => by rw [h14.2.2.2 x (by omega), h9.2.2 x (by omega), h4.2.2 x (by omega)]⟩))))⟩
      · exact (h4.camp iC).kept (fun x _ _ => by rw [h14.2.2.2 x (by omega), h9.2.2 x (by omega)])
      · have m4 : MomR u4 60 (t 140) := MomG.kept iM (fun x _ _ => h4.2.2 x (by omega))
        exact MomG.kept (h9.mom m4) (fun x _ _ => by rw [h14.2.2.2 x (by omega)])
      · exact h14.past (iP.kept (by rw [h9.2.2 65 (by omega), h4.2.2 65 (by omega)]) (fun x _ _ => by rw [h9.2.2 x (by omega), h4.2.2 x (by omega)]))
    · obtain ⟨uc, um, up', un⟩ := hu
      have u140 : u 140 = t 140 := un 140 (by omega)
      have l2 : ∀ (dd k : Nat) (w : Mem), k + dd = 504 → (∀ j, j < 63 → w 133 j = t 140 j) → (∀ j, j < k → w 135 j = t 140 (63 + j)) → (∀ x, x ≠ 133 → x ≠ 135 → w x = u x) → V G mX6_restore 38 [(0, RR 132), (1, II (k : Int))] [] w (fun r w => r = 1 ∧ Rel w) := by
        intro dd
        induction dd with
        | zero =>
          intro k w hk h1 h2 h3
          refine sgX6_restore_38 ⟨i32 (by omega) (by omega), br_t (by omega) (fun x2 f2 x4 f4 => ⟨rfl, ?_⟩)⟩
          have xn : ∀ x, x ≠ 132 → x4 x = w x := fun x hx => by rw [f4, wr_n hx, f2, wr_n hx]
          have xt : ∀ x, x ≠ 132 → x ≠ 133 → x ≠ 135 → (x < 1 ∨ 53 < x) → x4 x = t x := fun x a b c d => by rw [xn x a, h3 x b c, un x d]
          have xu : ∀ x, x ≠ 132 → x ≠ 133 → x ≠ 135 → x4 x = u x := fun x a b c => by rw [xn x a, h3 x b c]
          have x132 : ∀ j, j ≠ 2 → j ≠ 5 → x4 132 j = t 132 j := fun j a b => by rw [f4, wr_sn a, f2, wr_sn b, h3 132 (by decide) (by decide), un 132 (by omega)]
          have e63 : Eq63 (t 140) (x4 133) := fun j hj => by rw [xn 133 (by decide), h1 j hj]
          have r := hR.rest (u := x4) ⟨fun x hx => xt x (by omega) (by omega) (by omega) (by omega), fun k hk => x132 k (by omega) (by omega)⟩
          refine ⟨by rw [e63 11 (by omega)]; exact e63.inv iI1, by rw [e63 11 (by omega)]; exact iI2, ?_, (e63.camp uc).kept (fun x _ _ => xu x (by omega) (by omega) (by omega)), MomG.kept (e63.mom um) (fun x _ _ => xu x (by omega) (by omega) (by omega)), ?_, r.1, r.2.1, r.2.2⟩
          · unfold OrdI; rw [f4, wr_ss]; exact ⟨by omega, by omega, fun q => absurd q (by decide)⟩
          · have e5 : x4 132 5 = t 132 14 := by rw [f4, wr_sn (by decide), f2, wr_ss, h3 132 (by decide) (by decide), un 132 (by omega)]
            rw [e5]
            refine (up'.cg e63 (fun j hj => ?_)).kept (xu 12 (by omega) (by omega) (by omega)) (fun x _ _ => xu x (by omega) (by omega) (by omega))
            rw [xn 135 (by decide), h2 j (by omega)]
        | succ dd ih =>
          intro k w hk h1 h2 h3
          refine sgX6_restore_38 ⟨i32 (by omega) (by omega), br_f (by omega) ⟨by omega, by omega, fun x7 f7 => ?_⟩⟩
          rw [Int.toNat_natCast, show (63 + (k : Int)).toNat = 63 + k by omega] at f7
          rw [f7]
          refine ih (k + 1) _ (by omega) (fun j hj => by rw [wr_n (by decide)]; exact h1 j hj) (fun j hj => ?_) (fun x a b => by rw [wr_n b, h3 x a b])
          by_cases z : j = k
          · rw [z, wr_ss, h3 140 (by decide) (by decide), u140]
          · rw [wr_sn z]; exact h2 j (by omega)
      have l1 : ∀ (dd k : Nat) (w : Mem), k + dd = 63 → (∀ j, j < k → w 133 j = t 140 j) → (∀ x, x ≠ 133 → w x = u x) → V G mX6_restore 12 [(0, RR 132), (1, II (k : Int))] [] w (fun r w => r = 1 ∧ Rel w) := by
        intro dd
        induction dd with
        | zero =>
          intro k w hk h1 h3
          exact sgX6_restore_12 ⟨i32 (by omega) (by omega), br_t (by omega) (l2 504 0 w (by omega) (fun j hj => h1 j (by omega)) (fun j hj => absurd hj (Nat.not_lt_zero j)) (fun x a _ => h3 x a))⟩
        | succ dd ih =>
          intro k w hk h1 h3
          refine sgX6_restore_12 ⟨i32 (by omega) (by omega), br_f (by omega) ⟨by omega, by omega, fun x7 f7 => ?_⟩⟩
          rw [Int.toNat_natCast] at f7
          rw [f7]
          refine ih (k + 1) _ (by omega) (fun j hj => ?_) (fun x hx => by rw [wr_n hx, h3 x hx])
          by_cases z : j = k
          · rw [z, wr_ss, h3 140 (by decide), u140]
          · rw [wr_sn z]; exact h1 j (by omega)
      refine eX6_restore (sgX6_restore_0 ?_)
      rw [un 132 (by omega), i15]
      exact ⟨iL rfl, nb_t (by decide) (l1 63 0 u (by omega) (fun j hj => absurd hj (Nat.not_lt_zero j)) (fun _ _ => rfl))⟩
end S7
