/-! what is told, as numbers: N is the row that the reference calls now -/
def up (f : Nat → Int) (k : Nat) (v : Int) : Nat → Int := fun j => if j = k then v else f j
theorem up_s {f : Nat → Int} {k : Nat} {v : Int} : up f k v k = v := by simp [up]
theorem up_n {f : Nat → Int} {k j : Nat} {v : Int} (h : j ≠ k) : up f k v j = f j := by simp [up, h]
/-- the memory with another row -/
def row (t : Mem) (a : Nat) (f : Nat → Int) : Mem := fun x => if x = a then f else t x
theorem row_s {t : Mem} {a : Nat} {f : Nat → Int} : row t a f a = f := by simp [row]
theorem row_n {t : Mem} {a x : Nat} {f : Nat → Int} (h : x ≠ a) : row t a f x = t x := by simp [row, h]
theorem wr_row (t : Mem) (a j : Nat) (v : Int) : wr t a j v = row t a (up (t a) j v) := by
  funext x y; unfold wr row up
  by_cases h : x = a
  · subst h; by_cases g : y = j <;> simp [g]
  · simp [h]
theorem wr_s {t : Mem} {a j : Nat} {v : Int} : wr t a j v a = up (t a) j v := by rw [wr_row, row_s]
theorem wr_n {t : Mem} {a j x : Nat} {v : Int} (h : x ≠ a) : wr t a j v x = t x := (wr_ne h).symm
theorem row_row {t : Mem} {a : Nat} {f g : Nat → Int} : row (row t a f) a g = row t a g := by
  funext x; unfold row; by_cases h : x = a <;> simp [h]
theorem row_same (t : Mem) (a : Nat) : row t a (t a) = t := by
  funext x; unfold row; by_cases h : x = a <;> simp [h]
theorem wr_at {t : Mem} {a j x y : Nat} {v : Int} : wr t a j v x y = if x = a ∧ y = j then v else t x y := rfl
theorem wr_ss {t : Mem} {a j : Nat} {v : Int} : wr t a j v a j = v := by simp [wr]
theorem wr_sn {t : Mem} {a j y : Nat} {v : Int} (h : y ≠ j) : wr t a j v a y = t a y := by simp [wr, h]
theorem wr_nx {t : Mem} {a j x y : Nat} {v : Int} (h : x ≠ a) : wr t a j v x y = t x y := by simp [wr, h]
def bt (N : Nat → Int) (b w : Nat) : Int := N (14 + 7 * b + w)
def mk5 (N : Nat → Int) (b : Nat) : Int := if bt N b 0 = 1 ∨ bt N b 0 = 3 then 5 else 0
def need (N : Nat → Int) (b : Nat) : Int := 3 * bt N b 1 + bt N b 4 / 3 + mk5 N b
def drk (N : Nat → Int) (b : Nat) : Int := if bt N b 0 = 2 then 2 else if bt N b 0 = 3 then 8 else 4
theorem mk5_in (N : Nat → Int) (b : Nat) : 0 ≤ mk5 N b ∧ mk5 N b ≤ 5 := by unfold mk5; split <;> omega
theorem drk_in (N : Nat → Int) (b : Nat) : 2 ≤ drk N b ∧ drk N b ≤ 8 := by unfold drk; split; omega; split <;> omega
def InB (m : Int) (N : Nat → Int) (b : Nat) : Prop := (0 ≤ bt N b 0 ∧ bt N b 0 ≤ 3) ∧ (0 ≤ bt N b 1 ∧ bt N b 1 ≤ 9) ∧ (0 ≤ bt N b 2 ∧ bt N b 2 ≤ 1) ∧ (0 ≤ bt N b 3 ∧ bt N b 3 ≤ need N b) ∧ (0 ≤ bt N b 4 ∧ bt N b 4 ≤ m) ∧ (0 ≤ bt N b 5 ∧ bt N b 5 ≤ bt N b 3) ∧ (0 ≤ bt N b 6 ∧ bt N b 6 ≤ 5)
def InH (m : Int) (N : Nat → Int) : Prop := (0 ≤ N 0 ∧ N 0 ≤ 60) ∧ (0 ≤ N 1 ∧ N 1 ≤ 20) ∧ (1 ≤ N 2 ∧ N 2 ≤ 40) ∧ (1 ≤ N 3 ∧ N 3 ≤ 9) ∧ (1 ≤ N 4 ∧ N 4 ≤ 7) ∧ (0 ≤ N 5 ∧ N 5 ≤ 60) ∧ (0 ≤ N 6 ∧ N 6 ≤ 3) ∧ (0 ≤ N 7 ∧ N 7 ≤ 24) ∧ (0 ≤ N 8 ∧ N 8 ≤ m) ∧ (0 ≤ N 9 ∧ N 9 ≤ 4) ∧ (N 10 = -4 ∨ (0 ≤ N 10 ∧ N 10 < N 12)) ∧ (0 ≤ N 11 ∧ N 11 ≤ m) ∧ (0 ≤ N 12 ∧ N 12 ≤ 7) ∧ (0 ≤ N 13 ∧ N 13 ≤ 2147483647)
/-- what always holds of the row; m: how late it may be -/
def Inv (m : Int) (N : Nat → Int) : Prop := m ≤ 20000 ∧ InH m N ∧ (∀ b, b < 7 → InB m N b) ∧ ((∀ b : Nat, b < 7 → N 12 ≤ b → bt N b 3 = 0 ∧ bt N b 4 = 0 ∧ bt N b 5 = 0 ∧ bt N b 6 = 0) ∧ ∀ b : Nat, b < 7 → (b : Int) < N 12 → 1 ≤ bt N b 1)
theorem Inv.b {m : Int} {N : Nat → Int} (h : Inv m N) {b : Nat} (hb : b < 7) : InB m N b := h.2.2.1 b hb
theorem need_in {m : Int} {N : Nat → Int} (h : Inv m N) {b : Nat} (hb : b < 7) : 0 ≤ need N b ∧ need N b ≤ 7000 := by
  obtain ⟨h1, h2, h3, h4, h5, h6, h7⟩ := h.b hb
  have := mk5_in N b
  have h9 := h.1
  have h10 := h.2.1.2.2.2.2.2.2.2.2.2.2.2.1
  unfold need
  omega
theorem Ex.mono {G : GG} {M : MI} {as : List VV} {t : Mem} {P R : Int → Mem → Prop} (h : Ex G M as t P) (k : ∀ r u, P r u → R r u) : Ex G M as t R := by
  unfold Ex at h ⊢
  intro p e ha hc hk s m args below hf happ hpre hq
  obtain ⟨kk, o, h1, h2, h3, h4, h5⟩ := h p e ha hc hk s m args below hf happ hpre hq
  refine ⟨kk, o, h1, h2, h3, ?_, h5⟩
  unfold QE at h4 ⊢
  cases hr : M.2.2.2.1 with
  | none =>
    rw [hr] at h4
    obtain ⟨⟨u, a, b, c⟩, d⟩ := h4
    exact ⟨⟨u, a, k 0 u b, c⟩, d⟩
  | some ty =>
    rw [hr] at h4
    obtain ⟨⟨r, u, a, ⟨z, b1, b2⟩, c⟩, d⟩ := h4
    exact ⟨⟨r, u, a, ⟨z, b1, k z u b2⟩, c⟩, d⟩
/-- one answer, one memory -/
theorem ck {G : GG} {N : MI} {as : List VV} {t u : Mem} {v : Int} {R : Int → Mem → Prop} (c : Ex G N as t (Ret v u)) (h : R v u) : ∃ P : Int → Mem → Prop, Ex G N as t P ∧ ∀ r w, P r w → R r w := ⟨_, c, fun r w hp => by rw [hp.1, hp.2]; exact h⟩
theorem ckv {G : GG} {N : MI} {as : List VV} {t u : Mem} {v : Int} {R : Mem → Prop} (c : Ex G N as t (Ret v u)) (h : R u) : ∃ P : Int → Mem → Prop, Ex G N as t P ∧ ∀ w, P 0 w → R w := ⟨_, c, fun w hp => by rw [hp.2]; exact h⟩
theorem cq {G : GG} {N : MI} {as : List VV} {t : Mem} {P R : Int → Mem → Prop} (c : Ex G N as t P) (h : ∀ r w, P r w → R r w) : ∃ P : Int → Mem → Prop, Ex G N as t P ∧ ∀ r w, P r w → R r w := ⟨_, c, h⟩
theorem cqv {G : GG} {N : MI} {as : List VV} {t : Mem} {P : Int → Mem → Prop} {R : Mem → Prop} (c : Ex G N as t P) (h : ∀ w, P 0 w → R w) : ∃ P : Int → Mem → Prop, Ex G N as t P ∧ ∀ w, P 0 w → R w := ⟨_, c, h⟩
theorem nb_t {c A B : Prop} (h : ¬ c) (a : A) : (¬ c → A) ∧ (c → B) := ⟨fun _ => a, fun q => absurd q h⟩
theorem nb_f {c A B : Prop} (h : c) (b : B) : (¬ c → A) ∧ (c → B) := ⟨fun q => absurd h q, fun _ => b⟩
theorem i32 {z : Int} (h : -2147483648 ≤ z) (h2 : z < 2147483648) : In32 z := ⟨h, h2⟩
theorem lCmp_lt {x y : Int} : lCmp x y < 0 ↔ x < y := by unfold lCmp; split; omega; split <;> omega
theorem lCmp_gt {x y : Int} : 0 < lCmp x y ↔ y < x := by unfold lCmp; split; omega; split <;> omega
theorem lCmp_eq {x y : Int} : lCmp x y = 0 ↔ x = y := by unfold lCmp; split; omega; split <;> omega
theorem lCmp_ge {x y : Int} : 0 ≤ lCmp x y ↔ y ≤ x := by unfold lCmp; split; omega; split <;> omega
theorem lCmp_le {x y : Int} : lCmp x y ≤ 0 ↔ x ≤ y := by unfold lCmp; split; omega; split <;> omega
section M1
variable {G : GG} {t : Mem}
/-- the reference's small readers -/
theorem c_in1 {v a b : Int} (hv : In64 v) (ha : In64 a) (hb : In64 b) (h : a ≤ v ∧ v ≤ b) : Ex G mX6_in [JJ v, JJ a, JJ b] t (Ret 1 t) := by
  refine eX6_in (sgX6_in_0 ⟨hv, ha, br_f (by rw [lCmp_lt]; omega) ⟨hb, ?_⟩⟩)
  rw [if_neg (by rw [lCmp_gt]; omega)]; exact ⟨rfl, rfl⟩
theorem c_in0 {v a b : Int} (hv : In64 v) (ha : In64 a) (hb : In64 b) (h : ¬ (a ≤ v ∧ v ≤ b)) : Ex G mX6_in [JJ v, JJ a, JJ b] t (Ret 0 t) := by
  refine eX6_in (sgX6_in_0 ⟨hv, ha, ?_⟩)
  by_cases g : v < a
  · exact br_t (by rw [lCmp_lt]; exact g) ⟨rfl, rfl⟩
  · refine br_f (by rw [lCmp_lt]; exact g) ⟨hb, ?_⟩
    rw [if_pos (by rw [lCmp_gt]; omega)]; exact ⟨rfl, rfl⟩
theorem c_in {v a b : Int} (hv : In64 v) (ha : In64 a) (hb : In64 b) : Ex G mX6_in [JJ v, JJ a, JJ b] t (Ret (if a ≤ v ∧ v ≤ b then 1 else 0) t) := by
  by_cases h : a ≤ v ∧ v ≤ b
  · rw [if_pos h]; exact c_in1 hv ha hb h
  · rw [if_neg h]; exact c_in0 hv ha hb h
theorem c_at {b w : Nat} (hb : b < 7) (hw : w < 7) : Ex G mX6_at [RR 132, II (b : Int), II (w : Int)] t (Ret (bt (t 133) b w) t) := by
  refine eX6_at (sgX6_at_0 ⟨by omega, ?_, rfl⟩)
  show t 133 _ = t 133 _
  congr 1 <;> omega
theorem c_isBeast1 {v : Int} (hc : 0 ≤ t 133 12 ∧ t 133 12 ≤ 7) (h : 0 ≤ v ∧ v < t 133 12) : Ex G mX6_isBeast [RR 132, II v] t (Ret 1 t) := by
  refine eX6_isBeast (sgX6_isBeast_0 ⟨i32 (by omega) (by omega), i32 (by omega) (by omega), ?_⟩)
  exact ck (c_in1 (j32 (i32 (by omega) (by omega))) (jL rfl) (j32 (i32 (by omega) (by omega))) (by omega)) ⟨Or.inr rfl, rfl, rfl⟩
theorem c_isBeast0 {v : Int} (hv : In32 v) (hc : 0 ≤ t 133 12 ∧ t 133 12 ≤ 7) (h : ¬ (0 ≤ v ∧ v < t 133 12)) : Ex G mX6_isBeast [RR 132, II v] t (Ret 0 t) := by
  refine eX6_isBeast (sgX6_isBeast_0 ⟨hv, i32 (by omega) (by omega), ?_⟩)
  exact ck (c_in0 (j32 hv) (jL rfl) (j32 (i32 (by omega) (by omega))) (by omega)) ⟨Or.inl rfl, rfl, rfl⟩
theorem c_isMilk {m : Int} (hI : Inv m (t 133)) {b : Nat} (hb : b < 7) : Ex G mX6_isMilk [RR 132, II (b : Int)] t (Ret (if bt (t 133) b 0 = 1 ∨ bt (t 133) b 0 = 3 then 1 else 0) t) := by
  have h := (hI.b hb).1
  refine eX6_isMilk (sgX6_isMilk_0 ?_)
  refine ck (c_at (w := 0) hb (by omega)) ⟨i32 (by omega) (by omega), ?_⟩
  by_cases g : bt (t 133) b 0 = 1
  · exact br_t g ⟨by rw [if_pos (Or.inl g)], rfl⟩
  · refine br_f g ?_
    refine ck (c_at (w := 0) hb (by omega)) ⟨i32 (by omega) (by omega), ?_⟩
    by_cases g2 : bt (t 133) b 0 = 3
    · rw [if_pos g2]; exact ⟨by rw [if_pos (Or.inr g2)], rfl⟩
    · rw [if_neg g2]; exact ⟨by rw [if_neg (by omega)], rfl⟩
theorem c_needs {m : Int} (hI : Inv m (t 133)) {b : Nat} (hb : b < 7) : Ex G mX6_needs [RR 132, II (b : Int)] t (Ret (need (t 133) b) t) := by
  have h := hI.b hb
  have h4 := h.2.2.2.2.1
  have h11 := hI.1
  have h12 := hI.2.1.2.2.2.2.2.2.2.2.2.2.2.1
  refine eX6_needs (sgX6_needs_0 ?_)
  refine ck (c_at (w := 1) hb (by omega)) ?_
  refine ck (c_at (w := 4) hb (by omega)) ⟨⟨by omega, i32 (by omega) (by omega)⟩, ?_⟩
  refine ck (c_isMilk hI hb) ⟨by split <;> exact iL rfl, ?_⟩
  refine ⟨?_, rfl⟩
  unfold need mk5
  by_cases g : bt (t 133) b 0 = 1 ∨ bt (t 133) b 0 = 3
  · simp [g]
  · simp [g]
theorem c_drinks {m : Int} (hI : Inv m (t 133)) {b : Nat} (hb : b < 7) : Ex G mX6_drinks [RR 132, II (b : Int)] t (Ret (drk (t 133) b) t) := by
  have h := (hI.b hb).1
  refine eX6_drinks (sgX6_drinks_0 ?_)
  refine ck (c_at (w := 0) hb (by omega)) ⟨i32 (by omega) (by omega), ?_⟩
  unfold drk
  by_cases g : bt (t 133) b 0 = 2
  · exact nb_f g ⟨by rw [if_pos g], rfl⟩
  · refine nb_t g ?_
    refine ck (c_at (w := 0) hb (by omega)) ⟨i32 (by omega) (by omega), ?_⟩
    exact ⟨by rw [if_neg g], rfl⟩
theorem c_isSated {m : Int} (hI : Inv m (t 133)) {b : Nat} (hb : b < 7) : Ex G mX6_isSated [RR 132, II (b : Int)] t (Ret (if need (t 133) b ≤ bt (t 133) b 3 then 1 else 0) t) := by
  have h := (hI.b hb).2.2.2.1
  have hn := need_in hI hb
  refine eX6_isSated (sgX6_isSated_0 ?_)
  refine ck (c_at (w := 3) hb (by omega)) ?_
  refine ck (c_needs hI hb) ⟨i32 (by omega) (by omega), i32 (by omega) (by omega), ?_⟩
  refine ⟨?_, rfl⟩
  by_cases g : need (t 133) b ≤ bt (t 133) b 3
  · rw [if_pos g, if_neg (by omega)]
  · rw [if_neg g, if_pos (by omega)]
end M1
