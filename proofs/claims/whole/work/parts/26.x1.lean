/-! the class: moments and camps that stand for a row N; what reads them -/
def MomG (t : Mem) (a : Nat) (N : Nat → Int) (s : Int) : Prop := (t a 0 = N 0 ∧ t a 1 = N 7 ∧ t a 2 = N 8 ∧ t a 3 = s ∧ t a 4 = N 11 ∧ t a 5 = N 13) ∧ ∀ b, b < 7 → t (a + 1) b = bt N b 3 ∧ t (a + 2) b = bt N b 4 ∧ t (a + 3) b = bt N b 6 ∧ t (a + 4) b = bt N b 5
def MomR (t : Mem) (a : Nat) (N : Nat → Int) : Prop := MomG t a N (N 9)
def CampR (t : Mem) (c : Nat) (N : Nat → Int) : Prop := (t c 0 = N 1 ∧ t c 1 = N 2 ∧ t c 2 = N 3 ∧ t c 3 = N 4 ∧ t c 4 = N 5 ∧ t c 5 = N 6 ∧ t c 6 = N 10 ∧ t c 7 = N 12) ∧ ∀ b : Nat, b < 7 → (b : Int) < N 12 → t (c + 1) b = bt N b 0 ∧ t (c + 2) b = bt N b 1 ∧ t (c + 3) b = bt N b 2 ∧ t (c + 4) b = 3 * bt N b 1 + mk5 N b
def OrdC (t : Mem) (c : Nat) (N : Nat → Int) : Prop := ∀ k, k < nb N → t (c + 5) k = (ordF N k : Int)
theorem mom_camp {a c : Nat} (ha : IsMom a) (hc : IsCamp c) : c + 5 < a ∨ a + 4 < c := (by decide +kernel : ∀ a ∈ ([7, 14, 19, 24, 29, 34, 39, 44, 49, 60, 67, 72, 77, 82, 87, 92, 97, 102, 113] : List Nat), ∀ c ∈ ([1, 54, 107] : List Nat), c + 5 < a ∨ a + 4 < c) a ha c hc
theorem MomG.kept {t u : Mem} {a : Nat} {N : Nat → Int} {s : Int} (h : MomG t a N s) (hq : ∀ x, a ≤ x → x ≤ a + 4 → u x = t x) : MomG u a N s := by
  unfold MomG at h ⊢
  rw [hq a (by omega) (by omega), hq (a + 1) (by omega) (by omega), hq (a + 2) (by omega) (by omega), hq (a + 3) (by omega) (by omega), hq (a + 4) (by omega) (by omega)]
  exact h
theorem CampR.kept {t u : Mem} {c : Nat} {N : Nat → Int} (h : CampR t c N) (hq : ∀ x, c ≤ x → x ≤ c + 4 → u x = t x) : CampR u c N := by
  unfold CampR at h ⊢
  rw [hq c (by omega) (by omega), hq (c + 1) (by omega) (by omega), hq (c + 2) (by omega) (by omega), hq (c + 3) (by omega) (by omega), hq (c + 4) (by omega) (by omega)]
  exact h
theorem CampR.kp {t : Mem} {c : Nat} {N M : Nat → Int} (h : CampR t c N) (k : Kp N M) : CampR t c M := by
  obtain ⟨⟨k1, k2, k3, k4, k5, k6, k7, k8⟩, kb⟩ := k
  refine ⟨by rw [k1, k2, k3, k4, k5, k6, k7, k8]; exact h.1, fun b hb hn => ?_⟩
  have := h.2 b hb (by rw [← k8]; exact hn)
  have e : mk5 M b = mk5 N b := by unfold mk5; rw [(kb b hb).1]
  rw [(kb b hb).1, (kb b hb).2.1, (kb b hb).2.2, e]
  exact this
section X1
variable {G : GG} {t : Mem} {a c : Nat} {N : Nat → Int} {m s : Int}
theorem x_milky {v : Int} (hv : In32 v) : Ex G mX5_milky [II v] t (Ret (if v = 1 ∨ v = 3 then 1 else 0) t) := by
  refine eX5_milky (sgX5_milky_0 ⟨hv, ?_⟩)
  by_cases h : v = 1
  · exact br_t h ⟨by rw [if_pos (Or.inl h)], rfl⟩
  · refine br_f h ⟨?_, rfl⟩
    by_cases g : v = 3
    · rw [if_pos g, if_pos (Or.inr g)]
    · rw [if_neg g, if_neg (by omega)]
theorem x_gulp {v : Int} (hv : In32 v) : Ex G mX5_gulp [II v] t (Ret (if v = 2 then 2 else if v = 3 then 8 else 4) t) := by
  refine eX5_gulp (sgX5_gulp_0 ⟨hv, fun h => ⟨by rw [if_pos h], rfl⟩, fun h => ⟨by rw [if_neg (by omega), if_pos h], rfl⟩, fun h => ⟨by rw [if_neg h.1, if_neg h.2], rfl⟩⟩)
theorem x_outside {v x y : Int} (hv : In32 v) (hx : In32 x) (hy : In32 y) : Ex G mX5_outside [II v, II x, II y] t (Ret (if x ≤ v ∧ v ≤ y then 0 else 1) t) := by
  refine eX5_outside (sgX5_outside_0 ⟨hv, hx, ?_⟩)
  by_cases h : v < x
  · exact br_t h ⟨by rw [if_neg (by omega)], rfl⟩
  · refine br_f h ⟨hy, ?_, rfl⟩
    by_cases g : v ≤ y
    · rw [if_pos g, if_pos (by omega)]
    · rw [if_neg g, if_neg (by omega)]
theorem x_out0 {v x y : Int} (hx : In32 x) (hy : In32 y) (h : x ≤ v ∧ v ≤ y) : Ex G mX5_outside [II v, II x, II y] t (Ret 0 t) := by
  have := x_outside (G := G) (t := t) (v := v) (i32 (by have := hx.1; omega) (by have := hy.2; omega)) hx hy
  rw [if_pos h] at this; exact this
theorem x_out1 {v x y : Int} (hv : In32 v) (hx : In32 x) (hy : In32 y) (h : ¬ (x ≤ v ∧ v ≤ y)) : Ex G mX5_outside [II v, II x, II y] t (Ret 1 t) := by
  have := x_outside (G := G) (t := t) hv hx hy
  rw [if_neg h] at this; exact this
theorem x_noSheet {v : Int} (hv : In32 v) : Ex G mX5_noSheet [II v] t (Ret (if 0 ≤ v ∧ v ≤ 3 then 0 else 1) t) := by
  refine eX5_noSheet (sgX5_noSheet_0 ?_)
  refine ck (x_outside hv (iL rfl) (iL rfl)) ⟨by split <;> simp, rfl, rfl⟩
theorem x_lacks (hc : IsCamp c) {v : Int} (hv : In32 v) (h7 : 0 ≤ t c 7 ∧ t c 7 ≤ 7) : Ex G mX0_lacks [RR c, II v] t (Ret (if 0 ≤ v ∧ v < t c 7 then 0 else 1) t) := by
  refine eX0_lacks (sgX0_lacks_0 hc ⟨hv, ?_⟩)
  by_cases h : v < 0
  · exact br_t h ⟨by rw [if_neg (by omega)], rfl⟩
  · refine br_f h ⟨i32 (by omega) (by omega), ?_, rfl⟩
    by_cases g : v < t c 7
    · rw [if_pos g, if_pos (by omega)]
    · rw [if_neg g, if_neg (by omega)]
theorem x_needs (ha : IsMom a) (hc : IsCamp c) (hM : MomG t a N s) (hC : CampR t c N) (hI : Inv m N) {b : Nat} (hb : b < 7) (hn : (b : Int) < N 12) : Ex G mX1_needs [RR a, RR c, II (b : Int)] t (Ret (need N b) t) := by
  have hB := hI.b hb
  unfold InB at hB
  have h1 := (hM.2 b hb).2.1
  have h2 := (hC.2 b hb hn).2.2.2
  have h9 := hI.1
  refine eX1_needs (sgX1_needs_0 ha hc ⟨by omega, ?_⟩)
  rw [Int.toNat_natCast, h1, h2]
  exact ⟨⟨by omega, i32 (by omega) (by omega)⟩, by unfold need; omega, rfl⟩
theorem x_needsYet (ha : IsMom a) (hc : IsCamp c) (hM : MomG t a N s) (hC : CampR t c N) (hI : Inv m N) {b : Nat} (hb : b < 7) (hn : (b : Int) < N 12) : Ex G mX1_needsYet [RR a, RR c, II (b : Int)] t (Ret (max 0 (need N b - bt N b 3)) t) := by
  have hB := hI.b hb
  unfold InB at hB
  have hq := need_in hI hb
  refine eX1_needsYet (sgX1_needsYet_0 ha hc ?_)
  refine ck (x_needs ha hc hM hC hI hb hn) ⟨by omega, ?_⟩
  rw [Int.toNat_natCast, (hM.2 b hb).1]
  exact ⟨i32 (by omega) (by omega), rfl, rfl⟩
theorem x_sated (ha : IsMom a) (hc : IsCamp c) (hM : MomG t a N s) (hC : CampR t c N) (hI : Inv m N) {b : Nat} (hb : b < 7) (hn : (b : Int) < N 12) : Ex G mX1_sated [RR a, RR c, II (b : Int)] t (Ret (if need N b ≤ bt N b 3 then 1 else 0) t) := by
  have hB := hI.b hb
  unfold InB at hB
  have hq := need_in hI hb
  refine eX1_sated (sgX1_sated_0 ha hc ⟨by omega, ?_⟩)
  refine ck (x_needs ha hc hM hC hI hb hn) ?_
  rw [Int.toNat_natCast, (hM.2 b hb).1]
  refine ⟨i32 (by omega) (by omega), i32 (by omega) (by omega), ?_, rfl⟩
  by_cases g : need N b ≤ bt N b 3
  · rw [if_pos g, if_neg (by omega)]
  · rw [if_neg g, if_pos (by omega)]
/-- what a minute leaves of being swollen -/
def sw5 (N : Nat → Int) (b : Nat) : Int := if bt N b 0 = 3 ∧ 12 ≤ bt N b 5 then 0 else bt N b 5
def sw6 (N : Nat → Int) (b : Nat) : Int := if bt N b 0 = 3 ∧ 12 ≤ bt N b 5 then 5 else bt N b 6 - (if bt N b 6 ≤ 0 then 0 else 1)
theorem sw1_5 : bt (sw1 N c) c 5 = sw5 N c := by
  unfold sw1 sw5; split
  · rw [bt_up_n (by omega) (by omega) (by omega), bt_up_s]
  · rw [bt_up_n (by omega) (by omega) (by omega)]
theorem sw1_6 : bt (sw1 N c) c 6 = sw6 N c := by
  unfold sw1 sw6; split
  · rw [bt_up_s]
  · rw [bt_up_s]
theorem sw1_n {b w : Nat} (hw : w < 7) (h : b ≠ c ∨ (w ≠ 5 ∧ w ≠ 6)) : bt (sw1 N c) b w = bt N b w := by
  unfold sw1; split
  · rw [bt_up_n hw (by omega) (by omega), bt_up_n hw (by omega) (by omega), bt_up_n hw (by omega) (by omega)]
  · rw [bt_up_n hw (by omega) (by omega)]
theorem swS_n {b w : Nat} (hw : w < 7) : ∀ k : Nat, (k ≤ b ∨ (w ≠ 5 ∧ w ≠ 6)) → bt (swS N k) b w = bt N b w
  | 0, _ => rfl
  | k + 1, h => by
    show bt (sw1 (swS N k) k) b w = _
    rw [sw1_n hw (by omega), swS_n hw k (by omega)]
theorem swS_d {b : Nat} : ∀ k : Nat, b < k → bt (swS N k) b 5 = sw5 N b ∧ bt (swS N k) b 6 = sw6 N b
  | 0, h => absurd h (Nat.not_lt_zero b)
  | k + 1, h => by
    show bt (sw1 (swS N k) k) b 5 = _ ∧ bt (sw1 (swS N k) k) b 6 = _
    by_cases e : b = k
    · subst e
      rw [sw1_5, sw1_6]
      unfold sw5 sw6
      rw [swS_n (by omega) b (by omega), swS_n (by omega) b (by omega), swS_n (by omega) b (by omega)]
      exact ⟨rfl, rfl⟩
    · rw [sw1_n (by omega) (by omega), sw1_n (by omega) (by omega)]
      exact swS_d k (by omega)
/-- the end of swell: st is what is drunk one behind another, sl what was left of being swollen -/
def SwE (t u : Mem) (a b : Nat) (kd st sl : Int) : Prop := u (a + 3) = up (t (a + 3)) b (if kd = 3 ∧ 12 ≤ st then 5 else sl - (if sl ≤ 0 then 0 else 1)) ∧ u (a + 4) = up (t (a + 4)) b (if kd = 3 ∧ 12 ≤ st then 0 else st) ∧ ∀ x, x ≠ a + 3 → x ≠ a + 4 → u x = t x
theorem x_swell_end (ha : IsMom a) {kd o st : Int} {b : Nat} {u : Mem} {sl : Int} (hb : b < 7) (hk : In32 kd) (ho : In32 o) (hst : st = if o ≤ 0 then 0 else t (a + 4) b + o) (hs : In32 st) (h3 : u (a + 3) = up (t (a + 3)) b (sl - (if sl ≤ 0 then 0 else 1))) (h4 : ∀ x, x ≠ a + 3 → u x = t x) :
    In32 o ∧ ∀ w4 : Int, w4 = (if o ≤ 0 then 0 else u (a + 4) b + o) → ∀ u9 : Mem, u9 = wr u (a + 4) b w4 → In32 kd ∧ (¬ kd = 3 → SwE t u9 a b kd st sl) ∧ (kd = 3 → In32 (u9 (a + 4) b) ∧ (u9 (a + 4) b < 12 → SwE t u9 a b kd st sl) ∧ (¬ u9 (a + 4) b < 12 → ∀ u13 : Mem, u13 = wr u9 (a + 3) b 5 → ∀ u15 : Mem, u15 = wr u13 (a + 4) b 0 → SwE t u15 a b kd st sl)) := by
  refine ⟨ho, fun w4 e4 u9 e9 => ?_⟩
  have ew : w4 = st := by rw [e4, hst, h4 (a + 4) (by omega)]
  subst ew
  have s9 : u9 (a + 4) = up (t (a + 4)) b w4 := by rw [e9, wr_s, h4 (a + 4) (by omega)]
  have s93 : u9 (a + 3) = up (t (a + 3)) b (sl - (if sl ≤ 0 then 0 else 1)) := by rw [e9, wr_n (by omega), h3]
  have o9 : ∀ x, x ≠ a + 3 → x ≠ a + 4 → u9 x = t x := fun x h1 h2 => by rw [e9, wr_n h2, h4 x h1]
  have r9 : u9 (a + 4) b = w4 := by rw [s9, up_s]
  rw [r9]
  have ends : ¬ (kd = 3 ∧ 12 ≤ w4) → SwE t u9 a b kd w4 sl := by
    intro q
    unfold SwE
    rw [if_neg q, if_neg q]
    exact ⟨s93, s9, o9⟩
  refine ⟨hk, fun q => ends (fun z => q z.1), fun q => ⟨hs, fun z => ends (fun z2 => by have := z2.2; omega), fun z u13 e13 u15 e15 => ?_⟩⟩
  unfold SwE
  rw [if_pos ⟨q, by omega⟩, if_pos ⟨q, by omega⟩]
  refine ⟨?_, ?_, fun x h1 h2 => by rw [e15, wr_n h2, e13, wr_n h1, o9 x h1 h2]⟩
  · rw [e15, wr_n (by omega), e13, wr_s, s93]; funext j; unfold up; split <;> rfl
  · rw [e15, wr_s, e13, wr_n (by omega), s9]; funext j; unfold up; split <;> rfl
theorem x_swell (ha : IsMom a) {kd o : Int} {b : Nat} (hb : b < 7) (hk : In32 kd) (ho : In32 o) (h5 : 0 ≤ t (a + 4) b ∧ t (a + 4) b ≤ 8000) (h8 : 0 ≤ o ∧ o ≤ 8) (h6 : 0 ≤ t (a + 3) b ∧ t (a + 3) b ≤ 5) : Ex G mX1_swell [RR a, II kd, II (b : Int), II o] t (fun _ u => SwE t u a b kd (if o ≤ 0 then 0 else t (a + 4) b + o) (t (a + 3) b)) := by
  refine eX1_swell (sgX1_swell_0 ha ⟨by omega, ?_⟩)
  rw [Int.toNat_natCast]
  have hs : In32 (if o ≤ 0 then 0 else t (a + 4) b + o) := by split; exact iL rfl; exact i32 (by omega) (by omega)
  refine ⟨i32 (by omega) (by omega), ?_⟩
  by_cases g : t (a + 3) b ≤ 0
  · refine br_t g ?_
    exact x_swell_end ha hb hk ho rfl hs (by rw [if_pos g]; exact (up_id (by omega)).symm) (fun _ _ => rfl)
  · refine br_f g (fun u17 e17 => ?_)
    exact x_swell_end ha hb hk ho rfl hs (by rw [e17, wr_s, if_neg g]) (fun x hx => by rw [e17, wr_n hx])
end X1
