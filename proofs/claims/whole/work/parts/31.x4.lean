/-! the class: copies, the past, a new beast, sets of the sated, sums -/
theorem mom_mom {a b : Nat} (ha : IsMom a) (hb : IsMom b) (h : a ≠ b) : a + 4 < b ∨ b + 4 < a := (by decide +kernel : ∀ a ∈ ([7, 14, 19, 24, 29, 34, 39, 44, 49, 60, 67, 72, 77, 82, 87, 92, 97, 102, 113] : List Nat), ∀ b ∈ ([7, 14, 19, 24, 29, 34, 39, 44, 49, 60, 67, 72, 77, 82, 87, 92, 97, 102, 113] : List Nat), a ≠ b → a + 4 < b ∨ b + 4 < a) a ha b hb h
theorem camp_camp {a b : Nat} (ha : IsCamp a) (hb : IsCamp b) (h : a ≠ b) : a + 5 < b ∨ b + 5 < a := (by decide +kernel : ∀ a ∈ ([1, 54, 107] : List Nat), ∀ b ∈ ([1, 54, 107] : List Nat), a ≠ b → a + 5 < b ∨ b + 5 < a) a ha b hb h
theorem cpy_s {t : Mem} {a b : Nat} {y : Nat} (hy : y < 7) : cpy t a 0 b 0 7 b y = t a y := by unfold cpy; rw [if_pos ⟨rfl, by omega, by omega⟩]; congr 1; omega
theorem cpy_n {t : Mem} {a b x i j n : Nat} (h : x ≠ b) : cpy t a i b j n x = t x := (cpy_ne h).symm
/-- the moment a is as b was -/
def MCp (t u : Mem) (a b : Nat) : Prop := (∀ j, j < 6 → u a j = t b j) ∧ (∀ i y, 1 ≤ i → i ≤ 4 → y < 7 → u (a + i) y = t (b + i) y) ∧ ∀ x, x < a ∨ a + 4 < x → u x = t x
theorem MCp.mom {t u : Mem} {a b : Nat} {N : Nat → Int} {s : Int} (h : MCp t u a b) (hM : MomG t b N s) : MomG u a N s := by
  refine ⟨?_, fun y hy => ?_⟩
  · rw [h.1 0 (by omega), h.1 1 (by omega), h.1 2 (by omega), h.1 3 (by omega), h.1 4 (by omega), h.1 5 (by omega)]; exact hM.1
  · rw [h.2.1 1 y (by omega) (by omega) hy, h.2.1 2 y (by omega) (by omega) hy, h.2.1 3 y (by omega) (by omega) hy, h.2.1 4 y (by omega) (by omega) hy]; exact hM.2 y hy
def CCp (t u : Mem) (a b : Nat) : Prop := (∀ j, j < 8 → u a j = t b j) ∧ (∀ i y, 1 ≤ i → i ≤ 4 → y < 7 → u (a + i) y = t (b + i) y) ∧ ∀ x, x < a ∨ a + 4 < x → u x = t x
theorem CCp.camp {t u : Mem} {a b : Nat} {N : Nat → Int} (h : CCp t u a b) (hM : CampR t b N) : CampR u a N := by
  refine ⟨?_, fun y hy hn => ?_⟩
  · rw [h.1 0 (by omega), h.1 1 (by omega), h.1 2 (by omega), h.1 3 (by omega), h.1 4 (by omega), h.1 5 (by omega), h.1 6 (by omega), h.1 7 (by omega)]; exact hM.1
  · rw [h.2.1 1 y (by omega) (by omega) hy, h.2.1 2 y (by omega) (by omega) hy, h.2.1 3 y (by omega) (by omega) hy, h.2.1 4 y (by omega) (by omega) hy]; exact hM.2 y hy hn
section X4
variable {G : GG} {t : Mem} {a b c : Nat} {N : Nat → Int} {m s : Int}
theorem x_mtake (ha : IsMom a) (hb : IsMom b) (hab : a ≠ b) : Ex G mX1_takeFrom [RR a, RR b] t (fun _ u => MCp t u a b) := by
  have hd := mom_mom ha hb hab
  refine eX1_takeFrom (sgX1_takeFrom_0 ha hb ?_)
  intro u1 e1 u3 e3 u5 e5 u7 e7 u9 e9 u11 e11 u13 e13 u15 e15 u17 e17 u19 e19
  have o11 : ∀ x, x ≠ a → u11 x = t x := fun x hx => by rw [e11, wr_n hx, e9, wr_n hx, e7, wr_n hx, e5, wr_n hx, e3, wr_n hx, e1, wr_n hx]
  have r1 : u1 b = t b := by rw [e1, wr_n (by omega)]
  have r3 : u3 b = t b := by rw [e3, wr_n (by omega), r1]
  have r5 : u5 b = t b := by rw [e5, wr_n (by omega), r3]
  have r7 : u7 b = t b := by rw [e7, wr_n (by omega), r5]
  have r9 : u9 b = t b := by rw [e9, wr_n (by omega), r7]
  have a19 : u19 a = u11 a := by rw [e19, cpy_n (by omega), e17, cpy_n (by omega), e15, cpy_n (by omega), e13, cpy_n (by omega)]
  refine ⟨fun j hj => ?_, fun i y h1 h4 hy => ?_, fun x hx => ?_⟩
  · rw [a19, e11, r9, wr_at, e9, r7, wr_at, e7, r5, wr_at, e5, r3, wr_at, e3, r1, wr_at, e1, wr_at]
    rcases (by omega : j = 0 ∨ j = 1 ∨ j = 2 ∨ j = 3 ∨ j = 4 ∨ j = 5) with rfl | rfl | rfl | rfl | rfl | rfl <;> simp
  · rcases (by omega : i = 1 ∨ i = 2 ∨ i = 3 ∨ i = 4) with rfl | rfl | rfl | rfl
    · rw [e19, cpy_n (by omega), e17, cpy_n (by omega), e15, cpy_n (by omega), e13, cpy_s hy, o11 (b + 1) (by omega)]
    · rw [e19, cpy_n (by omega), e17, cpy_n (by omega), e15, cpy_s hy, e13, cpy_n (by omega), o11 (b + 2) (by omega)]
    · rw [e19, cpy_n (by omega), e17, cpy_s hy, e15, cpy_n (by omega), e13, cpy_n (by omega), o11 (b + 3) (by omega)]
    · rw [e19, cpy_s hy, e17, cpy_n (by omega), e15, cpy_n (by omega), e13, cpy_n (by omega), o11 (b + 4) (by omega)]
  · rw [e19, cpy_n (by omega), e17, cpy_n (by omega), e15, cpy_n (by omega), e13, cpy_n (by omega), o11 x (by omega)]
theorem x_ctake (ha : IsCamp a) (hb : IsCamp b) (hab : a ≠ b) : Ex G mX0_takeFrom [RR a, RR b] t (fun _ u => CCp t u a b) := by
  have hd := camp_camp ha hb hab
  refine eX0_takeFrom (sgX0_takeFrom_0 ha hb ?_)
  intro u1 e1 u3 e3 u5 e5 u7 e7 u9 e9 u11 e11 u13 e13 u15 e15 u17 e17 u19 e19 u21 e21 u23 e23
  have o15 : ∀ x, x ≠ a → u15 x = t x := fun x hx => by rw [e15, wr_n hx, e13, wr_n hx, e11, wr_n hx, e9, wr_n hx, e7, wr_n hx, e5, wr_n hx, e3, wr_n hx, e1, wr_n hx]
  have r1 : u1 b = t b := by rw [e1, wr_n (by omega)]
  have r3 : u3 b = t b := by rw [e3, wr_n (by omega), r1]
  have r5 : u5 b = t b := by rw [e5, wr_n (by omega), r3]
  have r7 : u7 b = t b := by rw [e7, wr_n (by omega), r5]
  have r9 : u9 b = t b := by rw [e9, wr_n (by omega), r7]
  have r11 : u11 b = t b := by rw [e11, wr_n (by omega), r9]
  have r13 : u13 b = t b := by rw [e13, wr_n (by omega), r11]
  have a23 : u23 a = u15 a := by rw [e23, cpy_n (by omega), e21, cpy_n (by omega), e19, cpy_n (by omega), e17, cpy_n (by omega)]
  refine ⟨fun j hj => ?_, fun i y h1 h4 hy => ?_, fun x hx => ?_⟩
  · rw [a23, e15, r13, wr_at, e13, r11, wr_at, e11, r9, wr_at, e9, r7, wr_at, e7, r5, wr_at, e5, r3, wr_at, e3, r1, wr_at, e1, wr_at]
    rcases (by omega : j = 0 ∨ j = 1 ∨ j = 2 ∨ j = 3 ∨ j = 4 ∨ j = 5 ∨ j = 6 ∨ j = 7) with rfl | rfl | rfl | rfl | rfl | rfl | rfl | rfl <;> simp
  · rcases (by omega : i = 1 ∨ i = 2 ∨ i = 3 ∨ i = 4) with rfl | rfl | rfl | rfl
    · rw [e23, cpy_n (by omega), e21, cpy_n (by omega), e19, cpy_n (by omega), e17, cpy_s hy, o15 (b + 1) (by omega)]
    · rw [e23, cpy_n (by omega), e21, cpy_n (by omega), e19, cpy_s hy, e17, cpy_n (by omega), o15 (b + 2) (by omega)]
    · rw [e23, cpy_n (by omega), e21, cpy_s hy, e19, cpy_n (by omega), e17, cpy_n (by omega), o15 (b + 3) (by omega)]
    · rw [e23, cpy_s hy, e21, cpy_n (by omega), e19, cpy_n (by omega), e17, cpy_n (by omega), o15 (b + 4) (by omega)]
  · rw [e23, cpy_n (by omega), e21, cpy_n (by omega), e19, cpy_n (by omega), e17, cpy_n (by omega), o15 x (by omega)]
theorem x_forget {p : Nat} (hp : IsPast p) : Ex G mX2_forget [RR p] t (Ret 0 (wr t p 2 0)) := eX2_forget (sgX2_forget_0 hp (fun u hu => ⟨rfl, hu⟩))
theorem past_mom {p a : Nat} (hp : IsPast p) (ha : IsMom a) : (p + 1 < a ∨ a + 4 < p) ∧ ((a < p ∨ p + 41 < a) ∨ ∃ k, k < 8 ∧ a = p + 2 + 5 * k) := (by decide +kernel : ∀ p ∈ ([12, 65] : List Nat), ∀ a ∈ ([7, 14, 19, 24, 29, 34, 39, 44, 49, 60, 67, 72, 77, 82, 87, 92, 97, 102, 113] : List Nat), (p + 1 < a ∨ a + 4 < p) ∧ ((a < p ∨ p + 41 < a) ∨ ∃ k, k < 8 ∧ a = p + 2 + 5 * k)) p hp a ha
/-- the past keeps the moment a: into the ring at next -/
theorem x_keep {p : Nat} (hp : IsPast p) (ha : IsMom a) (hout : a < p ∨ p + 41 < a) {nx kn : Nat} (h1 : t p 1 = nx) (h2 : t p 2 = kn) (hx : nx < 8) (hk : kn ≤ 8) : Ex G mX2_keep [RR p, RR a] t (fun _ u => u p 1 = ((nx + 1) % 8 : Nat) ∧ u p 2 = (min 8 (kn + 1) : Nat) ∧ (∀ j, j < 6 → u (p + 2 + 5 * nx) j = t a j) ∧ (∀ i y, 1 ≤ i → i ≤ 4 → y < 7 → u (p + 2 + 5 * nx + i) y = t (a + i) y) ∧ ∀ x, x ≠ p → (x < p + 2 + 5 * nx ∨ p + 2 + 5 * nx + 4 < x) → u x = t x) := by
  refine eX2_keep (sgX2_keep_0 hp ha ?_)
  rw [h1]
  have hr := hp.ring hx
  refine ⟨by omega, ?_⟩
  rw [Int.toNat_natCast]
  refine cqv (x_mtake hr.2 ha (by omega)) (fun u5 h5 => ?_)
  have p5 : u5 p = t p := h5.2.2 p (by omega)
  rw [p5, h1]
  refine ⟨⟨by omega, i32 (by omega) (by omega)⟩, fun u8 e8 => ?_⟩
  have p8 : u8 p 2 = kn := by rw [e8, wr_sn (by omega), p5, h2]
  rw [p8]
  refine ⟨i32 (by omega) (by omega), fun u11 e11 => ⟨?_, ?_, fun j hj => ?_, fun i y q1 q2 q3 => ?_, fun x q1 q2 => ?_⟩⟩
  · rw [e11, wr_sn (by omega), e8, wr_ss]; omega
  · rw [e11, wr_ss]; omega
  · rw [e11, wr_n (by omega), e8, wr_n (by omega)]; exact h5.1 j hj
  · rw [e11, wr_n (by omega), e8, wr_n (by omega)]; exact h5.2.1 i y q1 q2 q3
  · rw [e11, wr_n q1, e8, wr_n q1]; exact h5.2.2 x q2
theorem x_giveBack0 {p : Nat} (hp : IsPast p) (ha : IsMom a) (h2 : t p 2 = 0) : Ex G mX2_giveBack [RR p, RR a] t (Ret 0 t) := by
  refine eX2_giveBack (sgX2_giveBack_0 hp ha ?_)
  rw [h2]
  exact ⟨iL rfl, nb_f rfl ⟨rfl, rfl⟩⟩
theorem x_giveBack {p : Nat} (hp : IsPast p) (ha : IsMom a) (hout : a < p ∨ p + 41 < a) {nx kn : Nat} (h1 : t p 1 = nx) (h2 : t p 2 = kn) (hx : nx < 8) (hk : kn ≤ 8) (h0 : 0 < kn) : Ex G mX2_giveBack [RR p, RR a] t (fun r u => r = 1 ∧ u p 1 = ((nx + 7) % 8 : Nat) ∧ u p 2 = (kn - 1 : Nat) ∧ (∀ j, j < 6 → u a j = t (p + 2 + 5 * ((nx + 7) % 8)) j) ∧ (∀ i y, 1 ≤ i → i ≤ 4 → y < 7 → u (a + i) y = t (p + 2 + 5 * ((nx + 7) % 8) + i) y) ∧ ∀ x, x ≠ p → (x < a ∨ a + 4 < x) → u x = t x) := by
  refine eX2_giveBack (sgX2_giveBack_0 hp ha ?_)
  rw [h2, h1]
  refine ⟨i32 (by omega) (by omega), nb_t (by omega) ⟨⟨by omega, i32 (by omega) (by omega)⟩, fun u3 e3 u5 e5 => ?_⟩⟩
  have s5 : u5 p 1 = (((nx + 7) % 8 : Nat) : Int) := by rw [e5, wr_sn (by omega), e3, wr_ss]; omega
  have s52 : u5 p 2 = ((kn - 1 : Nat) : Int) := by rw [e5, wr_ss, e3, wr_sn (by omega), h2]; omega
  have o5 : ∀ x, x ≠ p → u5 x = t x := fun x hx => by rw [e5, wr_n hx, e3, wr_n hx]
  have hr := hp.ring (j := (nx + 7) % 8) (by omega)
  have hpm := (past_mom hp ha).1
  rw [s5]
  refine ⟨by omega, ?_⟩
  rw [Int.toNat_natCast]
  refine cqv (x_mtake ha hr.2 (by omega)) (fun u11 h11 => ⟨rfl, ?_, ?_, fun j hj => ?_, fun i y q1 q2 q3 => ?_, fun x q1 q2 => ?_⟩)
  · rw [h11.2.2 p (by omega), s5]
  · rw [h11.2.2 p (by omega), s52]
  · rw [h11.1 j hj, o5 _ (by omega)]
  · rw [h11.2.1 i y q1 q2 q3, o5 _ (by omega)]
  · rw [h11.2.2 x q2, o5 x q1]
/-- the sets of the sated -/
def stS (N : Nat → Int) : Nat → Int
  | 0 => 0
  | k + 1 => if need N k ≤ bt N k 3 then iOr (stS N k) (iShl 1 k) else stS N k
theorem iOr_in (x y : Int) : In32 (iOr x y) := x32 _
theorem iOr_0 {x : Int} (h : In32 x) : iOr x 0 = x := by unfold iOr; rw [show Int32.ofInt 0 = 0 from rfl, Int32.or_zero, oI h]
theorem stS_in (N : Nat → Int) : ∀ k, In32 (stS N k)
  | 0 => iL rfl
  | k + 1 => by unfold stS; split; exact iOr_in _ _; exact stS_in N k
theorem x_satedSet (ha : IsMom a) (hc : IsCamp c) (hM : MomG t a N s) (hC : CampR t c N) (hI : Inv m N) : Ex G mX1_satedSet [RR a, RR c] t (Ret (stS N (nb N)) t) := by
  have hh := hI.h
  unfold InH at hh
  have lp : ∀ (dd k : Nat), k + dd = nb N → V G mX1_satedSet 4 [(0, RR a), (1, RR c), (2, II (stS N k)), (3, II (k : Int))] [] t (Ret (stS N (nb N)) t) := by
    intro dd
    induction dd with
    | zero =>
      intro k hk
      refine sgX1_satedSet_4 ha hc ⟨i32 (by omega) (by unfold nb at hk; omega), by rw [hC.1.2.2.2.2.2.2.2]; exact i32 (by omega) (by omega), br_t (by rw [hC.1.2.2.2.2.2.2.2]; unfold nb at hk; omega) ⟨by rw [show k = nb N by omega], rfl⟩⟩
    | succ dd ih =>
      intro k hk
      have hk7 : k < 7 := by unfold nb at hk; omega
      have hkn : (k : Int) < N 12 := by unfold nb at hk; omega
      refine sgX1_satedSet_4 ha hc ⟨i32 (by omega) (by omega), by rw [hC.1.2.2.2.2.2.2.2]; exact i32 (by omega) (by omega), br_f (by rw [hC.1.2.2.2.2.2.2.2]; omega) ?_⟩
      refine ck (x_sated ha hc hM hC hI hk7 hkn) ⟨by split <;> exact iL rfl, ?_⟩
      have nx := ih (k + 1) (by omega)
      have es : stS N (k + 1) = if need N k ≤ bt N k 3 then iOr (stS N k) (iShl 1 k) else stS N k := rfl
      by_cases q : need N k ≤ bt N k 3
      · rw [if_pos q]; rw [es, if_pos q] at nx; exact br_f (by decide) nx
      · rw [if_neg q]; rw [es, if_neg q] at nx; exact br_t rfl nx
  exact eX1_satedSet (sgX1_satedSet_0 ha hc (lp (nb N) 0 (by omega)))
theorem c_sated (hI : Inv m (t 133)) : Ex G mX6_sated [RR 132] t (Ret (stS (t 133) (nb (t 133))) t) := by
  have hh := hI.h
  unfold InH at hh
  have lp : ∀ (dd k : Nat), k + dd = nb (t 133) → V G mX6_sated 4 [(0, RR 132), (1, II (stS (t 133) k)), (2, II (k : Int))] [] t (Ret (stS (t 133) (nb (t 133))) t) := by
    intro dd
    induction dd with
    | zero =>
      intro k hk
      refine sgX6_sated_4 ⟨i32 (by omega) (by unfold nb at hk; omega), i32 (by omega) (by omega), br_t (by unfold nb at hk; omega) ⟨by rw [show k = nb (t 133) by omega], rfl⟩⟩
    | succ dd ih =>
      intro k hk
      have hk7 : k < 7 := by unfold nb at hk; omega
      refine sgX6_sated_4 ⟨i32 (by omega) (by omega), i32 (by omega) (by omega), br_f (by unfold nb at hk; omega) ?_⟩
      refine ck (c_isSated hI hk7) ⟨by split <;> exact iL rfl, ?_⟩
      have nx := ih (k + 1) (by omega)
      have es : stS (t 133) (k + 1) = if need (t 133) k ≤ bt (t 133) k 3 then iOr (stS (t 133) k) (iShl 1 k) else stS (t 133) k := rfl
      by_cases q : need (t 133) k ≤ bt (t 133) k 3
      · rw [if_pos q]; rw [es, if_pos q] at nx; rw [if_neg (by decide)]; intro w hw; rw [hw]; exact nx
      · rw [if_neg q]; rw [es, if_neg q] at nx; rw [if_pos rfl]; intro w hw; rw [hw, iOr_0 (stS_in _ _)]; exact nx
  exact eX6_sated (sgX6_sated_0 (lp (nb (t 133)) 0 (by omega)))
/-- all but the puller -/
def allN (N : Nat → Int) : Prop := ∀ b : Nat, b < nb N → ¬ (b : Int) = N 10 → need N b ≤ bt N b 3
theorem x_allSated (ha : IsMom a) (hc : IsCamp c) (hM : MomG t a N s) (hC : CampR t c N) (hI : Inv m N) : Ex G mX1_allSated [RR a, RR c] t (fun r u => u = t ∧ ((r = 1 ∧ allN N) ∨ (r = 0 ∧ ¬ allN N))) := by
  have hh := hI.h
  unfold InH at hh
  have lp : ∀ (dd k : Nat), k + dd = nb N → (∀ b : Nat, b < k → ¬ (b : Int) = N 10 → need N b ≤ bt N b 3) → V G mX1_allSated 2 [(0, RR a), (1, RR c), (2, II (k : Int))] [] t (fun r u => u = t ∧ ((r = 1 ∧ allN N) ∨ (r = 0 ∧ ¬ allN N))) := by
    intro dd
    induction dd with
    | zero =>
      intro k hk hb
      refine sgX1_allSated_2 ha hc ⟨i32 (by omega) (by unfold nb at hk; omega), by rw [hC.1.2.2.2.2.2.2.2]; exact i32 (by omega) (by omega), br_t (by rw [hC.1.2.2.2.2.2.2.2]; unfold nb at hk; omega) ⟨rfl, Or.inl ⟨rfl, fun b hb2 => hb b (by omega)⟩⟩⟩
    | succ dd ih =>
      intro k hk hb
      have hk7 : k < 7 := by unfold nb at hk; omega
      have hkn : (k : Int) < N 12 := by unfold nb at hk; omega
      refine sgX1_allSated_2 ha hc ⟨i32 (by omega) (by omega), by rw [hC.1.2.2.2.2.2.2.2]; exact i32 (by omega) (by omega), br_f (by rw [hC.1.2.2.2.2.2.2.2]; omega) ?_⟩
      rw [hC.1.2.2.2.2.2.2.1]
      refine ⟨i32 (by omega) (by omega), ?_⟩
      have nx : (¬ (k : Int) = N 10 → need N k ≤ bt N k 3) → V G mX1_allSated 2 [(0, RR a), (1, RR c), (2, II ((k : Int) + 1))] [] t (fun r u => u = t ∧ ((r = 1 ∧ allN N) ∨ (r = 0 ∧ ¬ allN N))) := fun q => ih (k + 1) (by omega) (fun b h => by
        rcases Nat.lt_or_eq_of_le (Nat.le_of_lt_succ h) with z | z
        · exact hb b z
        · rw [z]; exact q)
      by_cases e : (k : Int) = N 10
      · exact br_t e (nx (fun q => absurd e q))
      · refine br_f e ?_
        refine ck (x_sated ha hc hM hC hI hk7 hkn) ⟨by split <;> exact iL rfl, ?_⟩
        by_cases q : need N k ≤ bt N k 3
        · rw [if_pos q]; exact nb_t (by decide) (nx (fun _ => q))
        · rw [if_neg q]; exact nb_f rfl ⟨rfl, Or.inr ⟨rfl, fun z => q (z k (by omega) e)⟩⟩
  exact eX1_allSated (sgX1_allSated_0 ha hc (lp (nb N) 0 (by omega) (fun b hb => absurd hb (Nat.not_lt_zero b))))
def sumD (N : Nat → Int) : Nat → Int
  | 0 => 0
  | k + 1 => sumD N k + bt N k 3
theorem x_drunk (ha : IsMom a) (hM : MomG t a N s) : Ex G mX1_drunkTogether [RR a] t (Ret (sumD N 7) t) := by
  have lp : ∀ (dd k : Nat), k + dd = 7 → V G mX1_drunkTogether 4 [(0, RR a), (1, II (sumD N k)), (2, II (k : Int))] [] t (Ret (sumD N 7) t) := by
    intro dd
    induction dd with
    | zero =>
      intro k hk
      exact sgX1_drunkTogether_4 ha ⟨i32 (by omega) (by omega), br_t (by omega) ⟨by rw [show k = 7 by omega], rfl⟩⟩
    | succ dd ih =>
      intro k hk
      refine sgX1_drunkTogether_4 ha ⟨i32 (by omega) (by omega), br_f (by omega) ⟨by omega, ?_⟩⟩
      rw [Int.toNat_natCast, (hM.2 k (by omega)).1]
      exact ih (k + 1) (by omega)
  exact eX1_drunkTogether (sgX1_drunkTogether_0 ha (lp 7 0 (by omega)))
end X4
