/-! the class: the order (arrange), by ranks -/
theorem cnt_one {p q : Nat → Bool} : ∀ {n c : Nat}, c < n → p c = false → q c = true → (∀ k, k < n → k ≠ c → q k = p k) → cnt q n = cnt p n + 1
  | 0, c, hc, _, _, _ => absurd hc (Nat.not_lt_zero c)
  | n + 1, c, hc, h1, h2, h => by
    unfold cnt
    by_cases e : c = n
    · subst e
      rw [h1, h2, cnt_cong (p := q) (q := p) (n := c) (fun k hk => h k (by omega) (by omega))]
      simp
    · rw [cnt_one (n := n) (c := c) (by omega) h1 h2 (fun k hk => h k (by omega)), h n (by omega) (fun z => e z.symm)]
      omega
theorem cnt_all {p : Nat → Bool} : ∀ {n : Nat}, (∀ k, k < n → p k = true) → cnt p n = n
  | 0, _ => rfl
  | n + 1, h => by unfold cnt; rw [cnt_all (fun k hk => h k (by omega)), h n (by omega)]; simp
theorem cnt_none {p : Nat → Bool} : ∀ {n : Nat}, (∀ k, k < n → p k = false) → cnt p n = 0
  | 0, _ => rfl
  | n + 1, h => by unfold cnt; rw [cnt_none (fun k hk => h k (by omega)), h n (by omega)]; simp
/-- what the order's making may change: the row of the order, how many stand in it -/
def Fl (t u : Mem) (c : Nat) : Prop := (∀ x, x ≠ c → x ≠ c + 5 → u x = t x) ∧ ∀ j, j ≠ 13 → u c j = t c j
theorem Fl.rf (t : Mem) (c : Nat) : Fl t t c := ⟨fun _ _ _ => rfl, fun _ _ => rfl⟩
theorem Fl.tr {t u w : Mem} {c : Nat} (h : Fl t u c) (g : Fl u w c) : Fl t w c := ⟨fun x h1 h2 => by rw [g.1 x h1 h2, h.1 x h1 h2], fun j hj => by rw [g.2 j hj, h.2 j hj]⟩
theorem CampR.fl {t u : Mem} {c : Nat} {N : Nat → Int} (h : CampR t c N) (g : Fl t u c) : CampR u c N := by
  unfold CampR at h ⊢
  rw [g.2 0 (by omega), g.2 1 (by omega), g.2 2 (by omega), g.2 3 (by omega), g.2 4 (by omega), g.2 5 (by omega), g.2 6 (by omega), g.2 7 (by omega), g.1 (c + 1) (by omega) (by omega), g.1 (c + 2) (by omega) (by omega), g.1 (c + 3) (by omega) (by omega), g.1 (c + 4) (by omega) (by omega)]
  exact h
/-- those of P stand in the row, each by its rank -/
def Lnd (t : Mem) (c : Nat) (N : Nat → Int) (P : Nat → Bool) : Prop := t c 13 = (cnt P (nb N) : Int) ∧ ∀ a, a < nb N → P a = true → t (c + 5) (rankN N a) = (a : Int)
section AR
variable {G : GG} {c : Nat} {N : Nat → Int} {m : Int}
theorem Lnd.cong {t : Mem} {P P2 : Nat → Bool} (h : Lnd t c N P) (e : ∀ a, a < nb N → P2 a = P a) : Lnd t c N P2 := ⟨by rw [h.1, cnt_cong e], fun a ha hp => h.2 a ha (by rw [← e a ha]; exact hp)⟩
theorem x_lineUp (hc : IsCamp c) (hI : Inv m N) {t : Mem} {P P2 : Nat → Bool} {b : Nat} (hL : Lnd t c N P) (hb : b < nb N) (hP : ∀ a, a < nb N → P a = ahd N a b) (h1 : P2 b = true) (h2 : ∀ a, a < nb N → a ≠ b → P2 a = P a) : Ex G mX0_lineUp [RR c, II (b : Int)] t (fun _ u => Lnd u c N P2 ∧ Fl t u c) := by
  have hh := hI.h
  unfold InH at hh
  have er : cnt P (nb N) = rankN N b := by unfold rankN; exact cnt_cong hP
  have hr := rank_lt hb
  have e13 : t c 13 = (rankN N b : Int) := by rw [hL.1, er]
  have hn : (nb N : Int) = N 12 := by unfold nb; omega
  have hPb : P b = false := by rw [hP b hb]; exact ahd_rf
  refine eX0_lineUp (sgX0_lineUp_0 hc ?_)
  rw [e13]
  refine ⟨i32 (by omega) (by omega), br_f (by omega) ⟨by omega, fun u2 e2 u5 e5 => ?_⟩⟩
  rw [Int.toNat_natCast] at e2
  have s2 : u2 c 13 = (rankN N b : Int) := by rw [e2, wr_n (by omega), e13]
  have s5 : u5 (c + 5) = up (t (c + 5)) (rankN N b) b := by rw [e5, wr_n (by omega), e2, wr_s]
  refine ⟨⟨?_, fun a ha hp => ?_⟩, fun x h3 h4 => by rw [e5, wr_n h3, e2, wr_n h4], fun j hj => by rw [e5, wr_sn hj, e2, wr_n (by omega)]⟩
  · rw [e5, wr_ss, s2, cnt_one hb hPb h1 h2, er]; omega
  · rw [s5]
    by_cases e : a = b
    · rw [e, up_s]
    · rw [up_n (fun q => e (rank_inj ha hb q))]
      exact hL.2 a ha (by rw [← h2 a ha e]; exact hp)
theorem key0 (h : ¬ N 6 = 1 ∧ ¬ N 6 = 2 ∧ ¬ N 6 = 3) (b : Nat) : keyN N b = 0 := by unfold keyN; rw [if_neg h.1, if_neg h.2.1, if_neg h.2.2]
theorem x_lineAs (hc : IsCamp c) (hI : Inv m N) (hl : ¬ N 6 = 1 ∧ ¬ N 6 = 2 ∧ ¬ N 6 = 3) {t : Mem} (hC : CampR t c N) (hL : Lnd t c N (fun _ => false)) : Ex G mX0_lineAsTheyCome [RR c] t (fun _ u => Lnd u c N (fun _ => true) ∧ Fl t u c) := by
  have hh := hI.h
  unfold InH at hh
  have lp : ∀ (dd k : Nat) (u : Mem), k + dd = nb N → Lnd u c N (fun a => decide (a < k)) → Fl t u c → V G mX0_lineAsTheyCome 2 [(0, RR c), (1, II (k : Int))] [] u (fun _ u => Lnd u c N (fun _ => true) ∧ Fl t u c) := by
    intro dd
    induction dd with
    | zero =>
      intro k u hk hL hF
      have hCu := hC.fl hF
      refine sgX0_lineAsTheyCome_2 hc ⟨i32 (by omega) (by unfold nb at hk; omega), by rw [hCu.1.2.2.2.2.2.2.2]; exact i32 (by omega) (by omega), br_t (by rw [hCu.1.2.2.2.2.2.2.2]; unfold nb at hk; omega) ⟨hL.cong (fun a ha => by simp; omega), hF⟩⟩
    | succ dd ih =>
      intro k u hk hL hF
      have hCu := hC.fl hF
      refine sgX0_lineAsTheyCome_2 hc ⟨i32 (by omega) (by unfold nb at hk; omega), by rw [hCu.1.2.2.2.2.2.2.2]; exact i32 (by omega) (by omega), br_f (by rw [hCu.1.2.2.2.2.2.2.2]; unfold nb at hk; omega) ?_⟩
      refine cqv (x_lineUp (P2 := fun a => decide (a < k + 1)) hc hI hL (by omega) (fun a ha => ?_) (by simp) (fun a ha e => ?_)) (fun w hw => ih (k + 1) w (by omega) hw.1 (hF.tr hw.2))
      · unfold ahd; rw [key0 hl, key0 hl]; simp
      · by_cases q : a < k
        · simp [q]; omega
        · simp [q]; omega
  exact eX0_lineAsTheyCome (sgX0_lineAsTheyCome_0 hc (lp (nb N) 0 t (by omega) (hL.cong (fun a _ => by simp)) (Fl.rf t c)))
theorem x_lineByDays (hc : IsCamp c) (hI : Inv m N) (hl : N 6 = 1) {t : Mem} (hC : CampR t c N) (hL : Lnd t c N (fun _ => false)) : Ex G mX0_lineByDays [RR c] t (fun _ u => Lnd u c N (fun _ => true) ∧ Fl t u c) := by
  have hh := hI.h
  unfold InH at hh
  have hk1 : ∀ b, keyN N b = 9 - bt N b 1 := fun b => by unfold keyN; rw [if_pos hl]
  have inn : ∀ (d : Nat), 1 ≤ d → d ≤ 9 → (∀ u : Mem, Lnd u c N (fun a => decide ((d : Int) ≤ bt N a 1)) → Fl t u c → V G mX0_lineByDays 3 [(0, RR c), (1, II ((d : Int) + (-1)))] [] u (fun _ u => Lnd u c N (fun _ => true) ∧ Fl t u c)) → ∀ (dd k : Nat) (u : Mem), k + dd = nb N → Lnd u c N (fun a => decide ((d : Int) < bt N a 1) || (decide (bt N a 1 = d) && decide (a < k))) → Fl t u c → V G mX0_lineByDays 10 [(0, RR c), (1, II (d : Int)), (2, II (k : Int))] [] u (fun _ u => Lnd u c N (fun _ => true) ∧ Fl t u c) := by
    intro d hd1 hd9 nxt dd
    induction dd with
    | zero =>
      intro k u hk hL hF
      have hCu := hC.fl hF
      refine sgX0_lineByDays_10 hc ⟨i32 (by omega) (by unfold nb at hk; omega), by rw [hCu.1.2.2.2.2.2.2.2]; exact i32 (by omega) (by omega), br_t (by rw [hCu.1.2.2.2.2.2.2.2]; unfold nb at hk; omega) (nxt u (hL.cong (fun a ha => ?_)) hF)⟩
      have : a < k := by omega
      simp only [this, decide_true, Bool.and_true]
      rw [Bool.eq_iff_iff]; simp; omega
    | succ dd ih =>
      intro k u hk hL hF
      have hCu := hC.fl hF
      have hk7 : k < 7 := by unfold nb at hk; omega
      have hkn : (k : Int) < N 12 := by unfold nb at hk; omega
      have hB := hI.b hk7
      unfold InB at hB
      refine sgX0_lineByDays_10 hc ⟨i32 (by omega) (by omega), by rw [hCu.1.2.2.2.2.2.2.2]; exact i32 (by omega) (by omega), br_f (by rw [hCu.1.2.2.2.2.2.2.2]; omega) ⟨by omega, ?_⟩⟩
      rw [Int.toNat_natCast, (hCu.2 k hk7 hkn).2.1]
      refine ⟨i32 (by omega) (by omega), i32 (by omega) (by omega), ?_⟩
      by_cases q : bt N k 1 = d
      · refine nb_f q ?_
        refine cqv (x_lineUp (P2 := fun a => decide ((d : Int) < bt N a 1) || (decide (bt N a 1 = d) && decide (a < k + 1))) hc hI hL (by omega) (fun a ha => ?_) (by simp [q]) (fun a ha e => ?_)) (fun w hw => ih (k + 1) w (by omega) hw.1 (hF.tr hw.2))
        · rw [Bool.eq_iff_iff, ahd_iff, hk1, hk1, q]; simp <;> omega
        · rw [Bool.eq_iff_iff]; simp; omega
      · refine nb_t q (ih (k + 1) u (by omega) (hL.cong (fun a ha => ?_)) hF)
        rw [Bool.eq_iff_iff]; simp
        by_cases e : a = k
        · subst e; omega
        · omega
  have out : ∀ (d : Nat) (u : Mem), d ≤ 9 → Lnd u c N (fun a => decide ((d : Int) < bt N a 1)) → Fl t u c → V G mX0_lineByDays 3 [(0, RR c), (1, II (d : Int))] [] u (fun _ u => Lnd u c N (fun _ => true) ∧ Fl t u c) := by
    intro d
    induction d with
    | zero =>
      intro u _ hL hF
      refine sgX0_lineByDays_3 hc ⟨iL rfl, br_t (by decide) ⟨hL.cong (fun a ha => ?_), hF⟩⟩
      have := nb_lt (by omega) ha
      have := hI.2.2.2.2 a this.1 this.2
      rw [Bool.eq_iff_iff]; simp; omega
    | succ d ih =>
      intro u hd hL hF
      refine sgX0_lineByDays_3 hc ⟨i32 (by omega) (by omega), br_f (by omega) ?_⟩
      refine inn (d + 1) (by omega) hd (fun w hw hFw => ?_) (nb N) 0 u (by omega) (hL.cong (fun a ha => by simp)) hF
      have := ih w (by omega) (hw.cong (fun a ha => by rw [Bool.eq_iff_iff]; simp; omega)) hFw
      rw [show (((d + 1 : Nat) : Int) + (-1)) = (d : Int) by omega]
      exact this
  refine eX0_lineByDays (sgX0_lineByDays_0 hc ?_)
  refine out 9 t (by omega) (hL.cong (fun a ha => ?_)) (Fl.rf t c)
  have := nb_lt (by omega) ha
  have hB := hI.b this.1
  unfold InB at hB
  rw [Bool.eq_iff_iff]; simp; omega
theorem x_lineMilky (hc : IsCamp c) (hI : Inv m N) (hl : N 6 = 2) {t : Mem} (hC : CampR t c N) {w : Int} (hw : w = 0 ∨ w = 1) {P0 : Nat → Bool} (h0 : ∀ a, a < nb N → P0 a = decide (w = 0 ∧ (bt N a 0 = 1 ∨ bt N a 0 = 3))) (hL : Lnd t c N P0) : Ex G mX0_lineMilky [RR c, II w] t (fun _ u => Lnd u c N (fun a => decide (w = 0 ∨ (bt N a 0 = 1 ∨ bt N a 0 = 3))) ∧ Fl t u c) := by
  have hh := hI.h
  unfold InH at hh
  have hk2 : ∀ b, keyN N b = (if bt N b 0 = 1 ∨ bt N b 0 = 3 then 0 else 1) := fun b => by unfold keyN; rw [if_neg (by omega), if_pos hl]
  have lp : ∀ (dd k : Nat) (u : Mem), k + dd = nb N → Lnd u c N (fun a => decide (w = 0 ∧ (bt N a 0 = 1 ∨ bt N a 0 = 3)) || (decide (a < k) && decide ((w = 1 ∧ (bt N a 0 = 1 ∨ bt N a 0 = 3)) ∨ (w = 0 ∧ ¬ (bt N a 0 = 1 ∨ bt N a 0 = 3))))) → Fl t u c → V G mX0_lineMilky 2 [(0, RR c), (1, II w), (2, II (k : Int))] [] u (fun _ u => Lnd u c N (fun a => decide (w = 0 ∨ (bt N a 0 = 1 ∨ bt N a 0 = 3))) ∧ Fl t u c) := by
    intro dd
    induction dd with
    | zero =>
      intro k u hk hL hF
      have hCu := hC.fl hF
      refine sgX0_lineMilky_2 hc ⟨i32 (by omega) (by unfold nb at hk; omega), by rw [hCu.1.2.2.2.2.2.2.2]; exact i32 (by omega) (by omega), br_t (by rw [hCu.1.2.2.2.2.2.2.2]; unfold nb at hk; omega) ⟨hL.cong (fun a ha => ?_), hF⟩⟩
      have : a < k := by omega
      rw [Bool.eq_iff_iff]; simp [this]; omega
    | succ dd ih =>
      intro k u hk hL hF
      have hCu := hC.fl hF
      have hk7 : k < 7 := by unfold nb at hk; omega
      have hkn : (k : Int) < N 12 := by unfold nb at hk; omega
      have hB := hI.b hk7
      unfold InB at hB
      refine sgX0_lineMilky_2 hc ⟨i32 (by omega) (by omega), by rw [hCu.1.2.2.2.2.2.2.2]; exact i32 (by omega) (by omega), br_f (by rw [hCu.1.2.2.2.2.2.2.2]; omega) ⟨by omega, ?_⟩⟩
      rw [Int.toNat_natCast, (hCu.2 k hk7 hkn).1]
      refine ck (x_milky (i32 (by omega) (by omega))) ⟨by split <;> exact iL rfl, i32 (by omega) (by omega), ?_⟩
      by_cases q : (if bt N k 0 = 1 ∨ bt N k 0 = 3 then (1 : Int) else 0) = w
      · refine nb_f q ?_
        have qq : (w = 1 ∧ (bt N k 0 = 1 ∨ bt N k 0 = 3)) ∨ (w = 0 ∧ ¬ (bt N k 0 = 1 ∨ bt N k 0 = 3)) := by
          by_cases z : bt N k 0 = 1 ∨ bt N k 0 = 3
          · rw [if_pos z] at q; exact Or.inl ⟨q.symm, z⟩
          · rw [if_neg z] at q; exact Or.inr ⟨q.symm, z⟩
        refine cqv (x_lineUp (P2 := fun a => decide (w = 0 ∧ (bt N a 0 = 1 ∨ bt N a 0 = 3)) || (decide (a < k + 1) && decide ((w = 1 ∧ (bt N a 0 = 1 ∨ bt N a 0 = 3)) ∨ (w = 0 ∧ ¬ (bt N a 0 = 1 ∨ bt N a 0 = 3))))) hc hI hL (by omega) (fun a ha => ?_) (by rw [decide_eq_true qq]; simp) (fun a ha e => ?_)) (fun w2 hw2 => ih (k + 1) w2 (by omega) hw2.1 (hF.tr hw2.2))
        · rw [Bool.eq_iff_iff, ahd_iff, hk2, hk2]; simp
          by_cases z : bt N a 0 = 1 ∨ bt N a 0 = 3 <;> by_cases z2 : bt N k 0 = 1 ∨ bt N k 0 = 3 <;> simp [z, z2] at qq ⊢ <;> omega
        · rw [Bool.eq_iff_iff]; simp; omega
      · refine nb_t q (ih (k + 1) u (by omega) (hL.cong (fun a ha => ?_)) hF)
        have qq : ¬ ((w = 1 ∧ (bt N k 0 = 1 ∨ bt N k 0 = 3)) ∨ (w = 0 ∧ ¬ (bt N k 0 = 1 ∨ bt N k 0 = 3))) := by
          by_cases z : bt N k 0 = 1 ∨ bt N k 0 = 3
          · rw [if_pos z] at q; omega
          · rw [if_neg z] at q; omega
        rw [Bool.eq_iff_iff]; simp
        by_cases e : a = k
        · subst e; omega
        · omega
  exact eX0_lineMilky (sgX0_lineMilky_0 hc (lp (nb N) 0 t (by omega) (hL.cong (fun a ha => by rw [h0 a ha]; simp)) (Fl.rf t c)))
/-- the k-th of a herd, or none any more -/
def Kth (N : Nat → Int) (h k : Int) (b : Nat) : Prop := (b < nb N ∧ bt N b 2 = h ∧ amg N b b = k) ∨ (b = nb N ∧ ∀ a, a < nb N → bt N a 2 = h → amg N a a < k)
theorem amg_none {h : Int} {b x : Nat} (hx : bt N x 2 = h) : ∀ d : Nat, (∀ a, b ≤ a → a < b + d → ¬ bt N a 2 = h) → amg N x (b + d) = amg N x b
  | 0, _ => rfl
  | d + 1, hn => by
    show amg N x (b + d) + _ = _
    rw [if_neg (by rw [hx]; exact hn (b + d) (by omega) (by omega)), amg_none hx d (fun a h1 h2 => hn a h1 (by omega))]; omega
theorem x_nextOf (hc : IsCamp c) (hI : Inv m N) {t : Mem} (hC : CampR t c N) {h : Int} (hh2 : h = 0 ∨ h = 1) {b0 : Nat} (hb0 : b0 ≤ nb N) : Ex G mX0_nextOf [RR c, II h, II (b0 : Int)] t (fun r u => u = t ∧ ∃ b : Nat, r = (b : Int) ∧ b0 ≤ b ∧ (∀ a, b0 ≤ a → a < b → ¬ bt N a 2 = h) ∧ (b = nb N ∨ (b < nb N ∧ bt N b 2 = h))) := by
  have hh := hI.h
  unfold InH at hh
  have lp : ∀ (dd k : Nat), k + dd = nb N → b0 ≤ k → (∀ a, b0 ≤ a → a < k → ¬ bt N a 2 = h) → V G mX0_nextOf 2 [(0, RR c), (1, II h), (2, II (b0 : Int)), (3, II (k : Int))] [] t (fun r u => u = t ∧ ∃ b : Nat, r = (b : Int) ∧ b0 ≤ b ∧ (∀ a, b0 ≤ a → a < b → ¬ bt N a 2 = h) ∧ (b = nb N ∨ (b < nb N ∧ bt N b 2 = h))) := by
    intro dd
    induction dd with
    | zero =>
      intro k hk hbk hn
      refine sgX0_nextOf_2 hc ⟨i32 (by omega) (by unfold nb at hk; omega), by rw [hC.1.2.2.2.2.2.2.2]; exact i32 (by omega) (by omega), br_t (by rw [hC.1.2.2.2.2.2.2.2]; unfold nb at hk; omega) ⟨rfl, k, ?_, hbk, hn, Or.inl (by omega)⟩⟩
      rw [hC.1.2.2.2.2.2.2.2]; unfold nb at hk; omega
    | succ dd ih =>
      intro k hk hbk hn
      have hk7 : k < 7 := by unfold nb at hk; omega
      have hkn : (k : Int) < N 12 := by unfold nb at hk; omega
      have hB := hI.b hk7
      unfold InB at hB
      refine sgX0_nextOf_2 hc ⟨i32 (by omega) (by omega), by rw [hC.1.2.2.2.2.2.2.2]; exact i32 (by omega) (by omega), br_f (by rw [hC.1.2.2.2.2.2.2.2]; omega) ⟨by omega, ?_⟩⟩
      rw [Int.toNat_natCast, (hC.2 k hk7 hkn).2.2.1]
      refine ⟨i32 (by omega) (by omega), i32 (by omega) (by omega), ?_⟩
      by_cases q : bt N k 2 = h
      · exact nb_f q ⟨rfl, k, rfl, hbk, hn, Or.inr ⟨by omega, q⟩⟩
      · exact nb_t q (ih (k + 1) (by omega) (by omega) (fun a h1 h2 => by rcases Nat.lt_or_eq_of_le (Nat.le_of_lt_succ h2) with z | z; exact hn a h1 z; rw [z]; exact q))
  exact eX0_nextOf (sgX0_nextOf_0 hc (lp (nb N - b0) b0 (by omega) (by omega) (fun a h1 h2 => by omega)))
theorem kth_0 {h : Int} {b : Nat} (hn : ∀ a, 0 ≤ a → a < b → ¬ bt N a 2 = h) (hb : b = nb N ∨ (b < nb N ∧ bt N b 2 = h)) : Kth N h 0 b := by
  rcases hb with e | ⟨e, q⟩
  · exact Or.inr ⟨e, fun a ha hq => absurd hq (hn a (Nat.zero_le a) (by omega))⟩
  · refine Or.inl ⟨e, q, ?_⟩
    have := amg_none (N := N) (b := 0) q b (fun a h1 h2 => hn a h1 (by omega))
    rw [Nat.zero_add] at this
    rw [this]; rfl
theorem kth_s {h k : Int} {b b2 : Nat} (hk : b < nb N ∧ bt N b 2 = h ∧ amg N b b = k) (hbb : b + 1 ≤ b2) (hn : ∀ a, b + 1 ≤ a → a < b2 → ¬ bt N a 2 = h) (hb : b2 = nb N ∨ (b2 < nb N ∧ bt N b2 2 = h)) : Kth N h (k + 1) b2 := by
  rcases hb with e | ⟨e, q⟩
  · refine Or.inr ⟨e, fun a ha hq => ?_⟩
    have ab : a ≤ b := by
      rcases Nat.lt_or_ge b a with z | z
      · exact absurd hq (hn a z (by omega))
      · exact z
    rcases Nat.lt_or_eq_of_le ab with z | z
    · have := amg_lt (N := N) (a := a) (b := b) (by rw [hq, hk.2.1]) z; omega
    · rw [z]; omega
  · refine Or.inl ⟨e, q, ?_⟩
    have h1 := amg_none (N := N) (b := b + 1) q (b2 - (b + 1)) (fun a h1 h2 => hn a h1 (by omega))
    rw [show b + 1 + (b2 - (b + 1)) = b2 by omega] at h1
    rw [h1]
    show amg N b2 b + _ = _
    rw [if_pos (by rw [hk.2.1, q]), amg_same (a := b2) (b := b) (by rw [q, hk.2.1]) b, hk.2.2]
theorem kth_none {h k : Int} {b : Nat} (hk : b = nb N ∧ ∀ a, a < nb N → bt N a 2 = h → amg N a a < k) : Kth N h (k + 1) b := Or.inr ⟨hk.1, fun a ha hq => by have := hk.2 a ha hq; omega⟩
end AR
