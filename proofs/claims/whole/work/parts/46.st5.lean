/-! count, beast -/
theorem sumD_nb {m : Int} {N : Nat → Int} (hI : Inv m N) : sumD N 7 = sumD N (nb N) := by
  have hh := hI.h
  unfold InH at hh
  have n7 : nb N ≤ 7 := by unfold nb; omega
  have : ∀ d, nb N + d ≤ 7 → sumD N (nb N + d) = sumD N (nb N) := by
    intro d
    induction d with
    | zero => intro _; rfl
    | succ d ih =>
      intro hd
      show sumD N (nb N + d) + bt N (nb N + d) 3 = _
      rw [ih (by omega), (hI.2.2.2.1 (nb N + d) (by omega) (by unfold nb; omega)).1]; omega
  have := this (7 - nb N) (by omega)
  rw [show nb N + (7 - nb N) = 7 by omega] at this
  exact this
theorem sumD_in {m : Int} {N : Nat → Int} (hI : Inv m N) : ∀ k : Nat, k ≤ 7 → 0 ≤ sumD N k ∧ sumD N k ≤ 7000 * k
  | 0, _ => by unfold sumD; omega
  | k + 1, h => by
    have ih := sumD_in hI k (by omega)
    have a := need_in hI (b := k) (by omega)
    have b := (hI.b (b := k) (by omega)).2.2.2.1
    show 0 ≤ sumD N k + bt N k 3 ∧ sumD N k + bt N k 3 ≤ _
    omega
def cntN (t : Mem) (v : Int) : Int := if v = 0 then t 133 12 else if v = 1 then t 133 11 else if v = 2 then t 133 0 else if v = 3 then t 133 7 else if v = 4 then t 133 8 else if v = 5 then t 133 9 else if v = 6 then t 132 5 else if v = 7 then stS (t 133) (nb (t 133)) else if v = 8 then sumD (t 133) 7 else if v = 9 then t 133 1 else if v = 10 then t 133 2 else if v = 11 then t 133 3 else if v = 12 then t 133 4 else if v = 13 then t 133 5 else if v = 14 then t 133 6 else if v = 15 then t 133 10 else -1
theorem cntN_o {t : Mem} {v : Int} (h : v < 0 ∨ 15 < v) : cntN t v = -1 := by
  unfold cntN
  rw [if_neg (by omega), if_neg (by omega), if_neg (by omega), if_neg (by omega), if_neg (by omega), if_neg (by omega), if_neg (by omega), if_neg (by omega), if_neg (by omega), if_neg (by omega), if_neg (by omega), if_neg (by omega), if_neg (by omega), if_neg (by omega), if_neg (by omega), if_neg (by omega)]
theorem ite32 {c : Prop} [Decidable c] {a b : Int} (h1 : In32 a) (h2 : In32 b) : In32 (if c then a else b) := by split <;> assumption
section S5
variable {G : GG} {t : Mem}
theorem s_count {v : Int} (hv : In32 v) (hR : Rel t) : Step G mX5_count [RR 0, II v] mX6_count [RR 132, II v] t := by
  have hh := hR.inv.h
  unfold InH at hh
  have hmn := hR.mn
  obtain ⟨nx, kn, ⟨k1, k2, k3, k4, k5⟩, -⟩ := hR.past
  obtain ⟨c0, c1, c2, c3, c4, c5, c6, c7⟩ := hR.camp.1
  obtain ⟨m0, m1, m2, m3, m4, m5⟩ := hR.mom.1
  have sd := sumD_in hR.inv 7 (by omega)
  have i1 : In32 (cntN t v) := by
    unfold cntN
    refine ite32 ?_ (ite32 ?_ (ite32 ?_ (ite32 ?_ (ite32 ?_ (ite32 ?_ (ite32 ?_ (ite32 ?_ (ite32 ?_ (ite32 ?_ (ite32 ?_ (ite32 ?_ (ite32 ?_ (ite32 ?_ (ite32 ?_ (ite32 ?_ ?_)))))))))))))))
    all_goals first | exact i32 (by omega) (by omega) | exact stS_in _ _ | exact iL rfl
  have hx : Ex G mX5_count [RR 0, II v] t (Ret (cntN t v) t) := by
    refine eX5_count (sgX5_count_0 ⟨hv, ?_⟩)
    refine ⟨?_, ?_, ?_, ?_, ?_, ?_, ?_, ?_, ?_, ?_, ?_, ?_, ?_, ?_, ?_, ?_, ?_⟩ <;> intro e
    · subst e; exact ⟨c7, rfl⟩
    · subst e; exact ⟨m4, rfl⟩
    · subst e; exact ⟨m0, rfl⟩
    · subst e; exact ⟨m1, rfl⟩
    · subst e; exact ⟨m2, rfl⟩
    · subst e; exact ⟨m3, rfl⟩
    · subst e; exact ⟨by rw [k4, ← k5]; rfl, rfl⟩
    · subst e; exact ck (x_satedSet is7 is1 hR.mom hR.camp hR.inv) ⟨rfl, rfl⟩
    · subst e; exact ck (x_drunk is7 hR.mom) ⟨rfl, rfl⟩
    · subst e; exact ck (x_measure (n := 1) (by omega) hR) ⟨rfl, rfl⟩
    · subst e; exact ck (x_measure (n := 2) (by omega) hR) ⟨rfl, rfl⟩
    · subst e; exact ck (x_measure (n := 3) (by omega) hR) ⟨rfl, rfl⟩
    · subst e; exact ck (x_measure (n := 4) (by omega) hR) ⟨rfl, rfl⟩
    · subst e; exact ck (x_measure (n := 5) (by omega) hR) ⟨rfl, rfl⟩
    · subst e; exact ck (x_measure (n := 6) (by omega) hR) ⟨rfl, rfl⟩
    · subst e; exact ⟨c6, rfl⟩
    · exact ⟨(cntN_o e).symm, rfl⟩
  have hm : Ex G mX6_count [RR 132, II v] t (Ret (cntN t v) t) := by
    have lp : ∀ (dd k : Nat), k + dd = nb (t 133) → V G mX6_count 4 [(0, RR 132), (1, II v), (2, II (sumD (t 133) k)), (3, II (k : Int))] [] t (Ret (cntN t v) t) := by
      intro dd
      induction dd with
      | zero =>
        intro k hk
        have ek : sumD (t 133) k = sumD (t 133) 7 := by rw [sumD_nb hR.inv, show k = nb (t 133) by omega]
        refine sgX6_count_4 ⟨i32 (by omega) (by unfold nb at hk; omega), i32 (by omega) (by omega), br_t (by unfold nb at hk; omega) ⟨hv, ?_⟩⟩
        refine ⟨?_, ?_, ?_, ?_, ?_, ?_, ?_, ?_, ?_, ?_, ?_, ?_, ?_, ?_, ?_, ?_, ?_⟩ <;> intro e
        · subst e; exact ⟨rfl, rfl⟩
        · subst e; exact ⟨rfl, rfl⟩
        · subst e; exact ⟨rfl, rfl⟩
        · subst e; exact ⟨rfl, rfl⟩
        · subst e; exact ⟨rfl, rfl⟩
        · subst e; exact ⟨rfl, rfl⟩
        · subst e; exact ⟨rfl, rfl⟩
        · subst e; exact ck (c_sated hR.inv) ⟨rfl, rfl⟩
        · subst e; exact ⟨ek, rfl⟩
        · subst e; exact ck (c_in1 (jL rfl) (jL rfl) (jL rfl) (by omega)) ⟨iL rfl, fun _ => ⟨by omega, trivial⟩, fun w ew => ⟨ew, rfl⟩⟩
        · subst e; exact ck (c_in1 (jL rfl) (jL rfl) (jL rfl) (by omega)) ⟨iL rfl, fun _ => ⟨by omega, trivial⟩, fun w ew => ⟨ew, rfl⟩⟩
        · subst e; exact ck (c_in1 (jL rfl) (jL rfl) (jL rfl) (by omega)) ⟨iL rfl, fun _ => ⟨by omega, trivial⟩, fun w ew => ⟨ew, rfl⟩⟩
        · subst e; exact ck (c_in1 (jL rfl) (jL rfl) (jL rfl) (by omega)) ⟨iL rfl, fun _ => ⟨by omega, trivial⟩, fun w ew => ⟨ew, rfl⟩⟩
        · subst e; exact ck (c_in1 (jL rfl) (jL rfl) (jL rfl) (by omega)) ⟨iL rfl, fun _ => ⟨by omega, trivial⟩, fun w ew => ⟨ew, rfl⟩⟩
        · subst e; exact ck (c_in1 (jL rfl) (jL rfl) (jL rfl) (by omega)) ⟨iL rfl, fun _ => ⟨by omega, trivial⟩, fun w ew => ⟨ew, rfl⟩⟩
        · subst e; exact ⟨rfl, rfl⟩
        · exact ck (c_in0 (j32 hv) (jL rfl) (jL rfl) (by omega)) ⟨iL rfl, fun z => absurd rfl z, fun w ew => ⟨by rw [ew, cntN_o e]; rfl, rfl⟩⟩
      | succ dd ih =>
        intro k hk
        have hk7 : k < 7 ∧ (k : Int) < t 133 12 := by unfold nb at hk; omega
        exact sgX6_count_4 ⟨i32 (by omega) (by omega), i32 (by omega) (by omega), br_f (by omega) (ck (c_at (w := 3) hk7.1 (by omega)) (ih (k + 1) (by omega)))⟩
    exact eX6_count (sgX6_count_0 (lp (nb (t 133)) 0 (by omega)))
  exact Step.pure hR i1 hx hm
/-- one beast more -/
def bN (N : Nat → Int) (c : Nat) (a b d : Int) : Nat → Int := up (up (up (up N (14 + 7 * c) a) (14 + 7 * c + 1) b) (14 + 7 * c + 2) d) 12 ((c : Int) + 1)
theorem bN_lo {N : Nat → Int} {c j : Nat} {a b d : Int} (h : j < 14) (h12 : j ≠ 12) : bN N c a b d j = N j := by unfold bN; rw [up_n h12, up_n (by omega), up_n (by omega), up_n (by omega)]
theorem bN_12 {N : Nat → Int} {c : Nat} {a b d : Int} : bN N c a b d 12 = (c : Int) + 1 := by unfold bN; rw [up_s]
theorem bN_n {N : Nat → Int} {c q w : Nat} {a b d : Int} (hw : w < 7) (h : q ≠ c ∨ 3 ≤ w) : bt (bN N c a b d) q w = bt N q w := by
  unfold bt bN; rw [up_n (by omega), up_n (by omega), up_n (by omega), up_n (by omega)]
theorem bN_c {N : Nat → Int} {c : Nat} {a b d : Int} : bt (bN N c a b d) c 0 = a ∧ bt (bN N c a b d) c 1 = b ∧ bt (bN N c a b d) c 2 = d := by
  unfold bt bN
  refine ⟨?_, ?_, ?_⟩
  · rw [up_n (by omega), up_n (by omega), up_n (by omega)]; exact up_s
  · rw [up_n (by omega), up_n (by omega), up_s]
  · rw [up_n (by omega), up_s]
theorem bN_inv {m : Int} {N : Nat → Int} {c : Nat} {a b d : Int} (hI : Inv m N) (hc : (c : Int) = N 12) (h7 : c < 7) (ha : 0 ≤ a ∧ a ≤ 3) (hb : 1 ≤ b ∧ b ≤ 9) (hd : 0 ≤ d ∧ d ≤ 1) : Inv m (bN N c a b d) := by
  obtain ⟨h0, h1, h2, h3, h4⟩ := hI
  obtain ⟨ca, cb, cd⟩ := bN_c (N := N) (c := c) (a := a) (b := b) (d := d)
  have z := h3 c h7 (by omega)
  unfold InH at h1
  refine ⟨h0, ?_, fun q hq => ?_, fun q hq hn => ?_, fun q hq hn => ?_⟩
  · unfold InH
    rw [bN_12, bN_lo (by omega) (by omega), bN_lo (by omega) (by omega), bN_lo (by omega) (by omega), bN_lo (by omega) (by omega), bN_lo (by omega) (by omega), bN_lo (by omega) (by omega), bN_lo (by omega) (by omega), bN_lo (by omega) (by omega), bN_lo (by omega) (by omega), bN_lo (by omega) (by omega), bN_lo (by omega) (by omega), bN_lo (by omega) (by omega), bN_lo (by omega) (by omega)]
    omega
  · by_cases e : q = c
    · subst e
      unfold InB need
      have := mk5_in (bN N q a b d) q
      rw [ca, cb, cd, bN_n (by omega) (by omega), bN_n (by omega) (by omega), bN_n (by omega) (by omega), bN_n (by omega) (by omega), z.1, z.2.1, z.2.2.1, z.2.2.2]
      omega
    · have := h2 q hq
      unfold InB need mk5 at this ⊢
      rw [bN_n (by omega) (by omega), bN_n (by omega) (by omega), bN_n (by omega) (by omega), bN_n (by omega) (by omega), bN_n (by omega) (by omega), bN_n (by omega) (by omega), bN_n (by omega) (by omega)]
      exact this
  · rw [bN_12] at hn
    rw [bN_n (by omega) (by omega), bN_n (by omega) (by omega), bN_n (by omega) (by omega), bN_n (by omega) (by omega)]
    exact h3 q hq (by omega)
  · rw [bN_12] at hn
    by_cases e : q = c
    · subst e; rw [cb]; omega
    · rw [bN_n (by omega) (by omega)]; exact h4 q hq (by omega)
theorem x_add {c k : Nat} {a b d : Int} (hc : IsCamp c) (hk : t c 7 = k) (h7 : k < 7) (ha : In32 a) : Ex G mX0_add [RR c, II a, II b, II d] t (fun _ u => (∀ j, u c j = up (t c) 7 ((k : Int) + 1) j) ∧ u (c + 1) = up (t (c + 1)) k a ∧ u (c + 2) = up (t (c + 2)) k b ∧ u (c + 3) = up (t (c + 3)) k d ∧ u (c + 4) = up (t (c + 4)) k (3 * b + (if a = 1 ∨ a = 3 then 5 else 0)) ∧ ∀ x, x < c ∨ c + 4 < x → u x = t x) := by
  refine eX0_add (sgX0_add_0 hc ?_)
  rw [hk]
  refine ⟨i32 (by omega) (by omega), br_f (by omega) ⟨by omega, fun u2 e2 => ?_⟩⟩
  rw [Int.toNat_natCast] at e2
  have k2 : u2 c 7 = k := by rw [e2, wr_n (by omega), hk]
  rw [k2]
  refine ⟨by omega, fun u5 e5 => ?_⟩
  rw [Int.toNat_natCast] at e5
  have k5 : u5 c 7 = k := by rw [e5, wr_n (by omega), k2]
  rw [k5]
  refine ⟨by omega, fun u8 e8 => ?_⟩
  rw [Int.toNat_natCast] at e8
  have k8 : u8 c 7 = k := by rw [e8, wr_n (by omega), k5]
  rw [k8]
  refine ck (x_milky ha) ⟨by split <;> exact iL rfl, by omega, fun u22 e22 u25 e25 => ?_⟩
  rw [Int.toNat_natCast] at e22
  have k22 : u22 c 7 = k := by rw [e22, wr_n (by omega), k8]
  rw [k22] at e25
  have ev : (3 * b + (if (if a = 1 ∨ a = 3 then (1 : Int) else 0) = 0 then 0 else 5)) = 3 * b + (if a = 1 ∨ a = 3 then 5 else 0) := by split <;> simp_all
  rw [ev] at e22
  refine ⟨fun j => ?_, ?_, ?_, ?_, ?_, fun x hx => ?_⟩
  · rw [e25, wr_s, e22, wr_n (by omega), e8, wr_n (by omega), e5, wr_n (by omega), e2, wr_n (by omega)]
  · rw [e25, wr_n (by omega), e22, wr_n (by omega), e8, wr_n (by omega), e5, wr_n (by omega), e2, wr_s]
  · rw [e25, wr_n (by omega), e22, wr_n (by omega), e8, wr_n (by omega), e5, wr_s, e2, wr_n (by omega)]
  · rw [e25, wr_n (by omega), e22, wr_n (by omega), e8, wr_s, e5, wr_n (by omega), e2, wr_n (by omega)]
  · rw [e25, wr_n (by omega), e22, wr_s, e8, wr_n (by omega), e5, wr_n (by omega), e2, wr_n (by omega)]
  · rw [e25, wr_n (by omega), e22, wr_n (by omega), e8, wr_n (by omega), e5, wr_n (by omega), e2, wr_n (by omega)]
end S5
