/-! whose turn it is: keys, ranks, the order; the reference works it out by ranks. fb_holes, fb_onto: from kit/laws/COUNTS.to-paste -/
theorem fb_holes : ∀ (m n : Nat) (f : Nat → Nat), (∀ i, i < n → f i < m) → (∀ i j, i < j → j < n → f i ≠ f j) → n ≤ m := by
  intro m
  induction m with
  | zero =>
    intro n f h1 _
    rcases Nat.eq_zero_or_pos n with h | h
    · omega
    · exact absurd (h1 0 h) (Nat.not_lt_zero _)
  | succ m ih =>
    intro n f h1 h2
    by_cases hx : ∃ i, i < n ∧ f i = m
    · obtain ⟨a, ha, hfa⟩ := hx
      have hg := ih (n - 1) (fun i => if i < a then f i else f (i + 1)) (by
        intro i hi
        by_cases q : i < a
        · simp only [if_pos q]
          have b1 := h1 i (by omega)
          have b2 := h2 i a q ha
          omega
        · simp only [if_neg q]
          have b1 := h1 (i + 1) (by omega)
          have b2 := h2 a (i + 1) (by omega) (by omega)
          omega) (by
        intro i j hij hj
        by_cases q : i < a
        · by_cases r : j < a
          · simp only [if_pos q, if_pos r]
            exact h2 i j hij (by omega)
          · simp only [if_pos q, if_neg r]
            exact h2 i (j + 1) (by omega) (by omega)
        · have r : ¬ j < a := by omega
          simp only [if_neg q, if_neg r]
          exact h2 (i + 1) (j + 1) (by omega) (by omega))
      omega
    · have hg := ih n f (fun i hi => by
        have b1 := h1 i hi
        have b2 : f i ≠ m := fun e => hx ⟨i, hi, e⟩
        omega) h2
      omega
/-- as many as places, none twice: each place is taken -/
theorem fb_onto {n : Nat} {f : Nat → Nat} (h : ∀ i, i < n → f i < n) (h2 : ∀ i j, i < j → j < n → f i ≠ f j) {y : Nat} (hy : y < n) : ∃ i, i < n ∧ f i = y := by
  refine Classical.byContradiction fun hx => ?_
  have hne : ∀ i, i < n → f i ≠ y := fun i hi e => hx ⟨i, hi, e⟩
  have := fb_holes (n - 1) n (fun i => if f i < y then f i else f i - 1) (by
    intro i hi
    have b1 := h i hi
    have b2 := hne i hi
    by_cases q : f i < y
    · simp only [if_pos q]; omega
    · simp only [if_neg q]; omega) (by
    intro i j hij hj
    have b1 := hne i (by omega)
    have b2 := hne j hj
    have b3 := h2 i j hij hj
    by_cases q : f i < y
    · by_cases r : f j < y
      · simp only [if_pos q, if_pos r]; exact b3
      · simp only [if_pos q, if_neg r]; omega
    · by_cases r : f j < y
      · simp only [if_neg q, if_pos r]; omega
      · simp only [if_neg q, if_neg r]; omega)
  omega
def cnt (p : Nat → Bool) : Nat → Nat
  | 0 => 0
  | n + 1 => cnt p n + (if p n then 1 else 0)
theorem cnt_le {p q : Nat → Bool} : ∀ {n : Nat}, (∀ k, k < n → p k = true → q k = true) → cnt p n ≤ cnt q n
  | 0, _ => Nat.le_refl _
  | n + 1, h => by
    have h1 := cnt_le (p := p) (q := q) (n := n) (fun k hk => h k (by omega))
    have h2 := h n (by omega)
    unfold cnt
    cases hp : p n <;> cases hq : q n <;> simp_all <;> omega
theorem cnt_lt {p q : Nat → Bool} : ∀ {n c : Nat}, (∀ k, k < n → p k = true → q k = true) → c < n → q c = true → p c = false → cnt p n < cnt q n
  | 0, c, _, hc, _, _ => absurd hc (Nat.not_lt_zero c)
  | n + 1, c, h, hc, h1, h2 => by
    unfold cnt
    by_cases e : c = n
    · subst e
      have h3 := cnt_le (p := p) (q := q) (n := c) (fun k hk => h k (by omega))
      rw [h1, h2]; simp; omega
    · have h3 := cnt_lt (p := p) (q := q) (n := n) (c := c) (fun k hk => h k (by omega)) (by omega) h1 h2
      have h4 := h n (by omega)
      cases hp : p n <;> cases hq : q n <;> simp_all <;> omega
theorem cnt_n {p : Nat → Bool} : ∀ {n : Nat}, cnt p n ≤ n
  | 0 => Nat.le_refl _
  | n + 1 => by have := cnt_n (p := p) (n := n); unfold cnt; split <;> omega
theorem cnt_ltn {p : Nat → Bool} {n c : Nat} (hc : c < n) (h : p c = false) : cnt p n < n := by
  have h1 := cnt_lt (p := p) (q := fun _ => true) (n := n) (c := c) (fun _ _ _ => rfl) hc rfl h
  have h2 := cnt_n (p := fun _ => true) (n := n)
  omega
theorem cnt_cong {p q : Nat → Bool} : ∀ {n : Nat}, (∀ k, k < n → p k = q k) → cnt p n = cnt q n
  | 0, _ => rfl
  | n + 1, h => by unfold cnt; rw [cnt_cong (fun k hk => h k (by omega)), h n (by omega)]
def amg (N : Nat → Int) (b : Nat) : Nat → Int
  | 0 => 0
  | k + 1 => amg N b k + (if bt N k 2 = bt N b 2 then 1 else 0)
theorem amg_in (N : Nat → Int) (b : Nat) : ∀ k : Nat, 0 ≤ amg N b k ∧ amg N b k ≤ k
  | 0 => by simp [amg]
  | k + 1 => by have := amg_in N b k; unfold amg; split <;> omega
theorem amg_mono (N : Nat → Int) (b k : Nat) : ∀ j : Nat, amg N b k ≤ amg N b (k + j)
  | 0 => by simp
  | j + 1 => by have := amg_mono N b k j; show _ ≤ amg N b (k + j) + _; split <;> omega
theorem amg_same {N : Nat → Int} {a b : Nat} (h : bt N a 2 = bt N b 2) : ∀ k : Nat, amg N a k = amg N b k
  | 0 => rfl
  | k + 1 => by unfold amg; rw [amg_same h k, h]
theorem amg_lt {N : Nat → Int} {a b : Nat} (h : bt N a 2 = bt N b 2) (hab : a < b) : amg N a a < amg N b b := by
  rw [amg_same h a]
  have h1 := amg_mono N b (a + 1) (b - (a + 1))
  rw [show a + 1 + (b - (a + 1)) = b by omega] at h1
  have h2 : amg N b (a + 1) = amg N b a + (if bt N a 2 = bt N b 2 then 1 else 0) := rfl
  rw [if_pos h] at h2
  omega
def keyN (N : Nat → Int) (b : Nat) : Int := if N 6 = 1 then 9 - bt N b 1 else if N 6 = 2 then (if bt N b 0 = 1 ∨ bt N b 0 = 3 then 0 else 1) else if N 6 = 3 then 2 * amg N b b + bt N b 2 else 0
def ahd (N : Nat → Int) (a b : Nat) : Bool := decide (keyN N a < keyN N b) || (decide (keyN N a = keyN N b) && decide (a < b))
theorem ahd_iff {N : Nat → Int} {a b : Nat} : ahd N a b = true ↔ keyN N a < keyN N b ∨ (keyN N a = keyN N b ∧ a < b) := by
  unfold ahd; simp
theorem ahd_f {N : Nat → Int} {a b : Nat} : ahd N a b = false ↔ ¬ (keyN N a < keyN N b ∨ (keyN N a = keyN N b ∧ a < b)) := by
  rw [← ahd_iff]; simp
theorem ahd_rf {N : Nat → Int} {a : Nat} : ahd N a a = false := by rw [ahd_f]; omega
def nb (N : Nat → Int) : Nat := (N 12).toNat
def rankN (N : Nat → Int) (b : Nat) : Nat := cnt (fun a => ahd N a b) (nb N)
theorem rank_lt {N : Nat → Int} {b : Nat} (h : b < nb N) : rankN N b < nb N := cnt_ltn h ahd_rf
theorem rank_mono {N : Nat → Int} {a b : Nat} (ha : a < nb N) (h : ahd N a b = true) : rankN N a < rankN N b := by
  refine cnt_lt (c := a) (fun k _ hk => ?_) ha h ahd_rf
  rw [ahd_iff] at *
  omega
theorem ahd_or {N : Nat → Int} {a b : Nat} (h : a ≠ b) : ahd N a b = true ∨ ahd N b a = true := by
  rw [ahd_iff, ahd_iff]; omega
theorem rank_inj {N : Nat → Int} {a b : Nat} (ha : a < nb N) (hb : b < nb N) (h : rankN N a = rankN N b) : a = b := by
  refine Classical.byContradiction fun hn => ?_
  rcases ahd_or (N := N) hn with q | q
  · have := rank_mono ha q; omega
  · have := rank_mono hb q; omega
theorem rank_onto {N : Nat → Int} {k : Nat} (hk : k < nb N) : ∃ b, b < nb N ∧ rankN N b = k :=
  fb_onto (fun i hi => rank_lt hi) (fun i j hij hj e => by have := rank_inj (N := N) (by omega) hj e; omega) hk
/-- who is the k-th -/
def ordF (N : Nat → Int) (k : Nat) : Nat := ((List.range (nb N)).find? (fun b => rankN N b == k)).getD 0
theorem ordF_ok {N : Nat → Int} {k : Nat} (hk : k < nb N) : ordF N k < nb N ∧ rankN N (ordF N k) = k := by
  obtain ⟨b, hb, hr⟩ := rank_onto hk
  unfold ordF
  cases h : (List.range (nb N)).find? (fun b => rankN N b == k) with
  | none =>
    have := List.find?_eq_none.mp h b (List.mem_range.mpr hb)
    simp [hr] at this
  | some c =>
    have h1 := List.find?_some h
    have h2 := List.mem_of_find?_eq_some h
    exact ⟨List.mem_range.mp h2, by simpa using h1⟩
theorem ordF_rank {N : Nat → Int} {b : Nat} (hb : b < nb N) : ordF N (rankN N b) = b :=
  rank_inj (ordF_ok (rank_lt hb)).1 hb (ordF_ok (rank_lt hb)).2
/-- a row that goes up by turns is the order -/
theorem sorted_ordF {N : Nat → Int} {T : Nat → Nat} (h1 : ∀ k, k < nb N → T k < nb N) (h2 : ∀ i j, i < j → j < nb N → ahd N (T i) (T j) = true) {k : Nat} (hk : k < nb N) : T k = ordF N k := by
  have up1 : ∀ k, k < nb N → k ≤ rankN N (T k) := by
    intro k
    induction k with
    | zero => intro _; exact Nat.zero_le _
    | succ k ih =>
      intro hk
      have := ih (by omega)
      have := rank_mono (h1 k (by omega)) (h2 k (k + 1) (by omega) hk)
      omega
  have dn : ∀ d k, k + d + 1 = nb N → rankN N (T k) ≤ k := by
    intro d
    induction d with
    | zero => intro k hk; have := rank_lt (h1 k (by omega)); omega
    | succ d ih =>
      intro k hk
      have := ih (k + 1) (by omega)
      have := rank_mono (h1 k (by omega)) (h2 k (k + 1) (by omega) (by omega))
      omega
  have h3 := up1 k hk
  have h4 := dn (nb N - k - 1) k (by omega)
  have h5 := ordF_ok hk
  exact rank_inj (h1 k hk) h5.1 (by omega)
theorem ordF_inj {N : Nat → Int} {i j : Nat} (hi : i < nb N) (hj : j < nb N) (h : ordF N i = ordF N j) : i = j := by
  have h1 := (ordF_ok hi).2
  have h2 := (ordF_ok hj).2
  rw [h] at h1; omega
/-- the order hangs on the kinds, days, herds, the law, how many there are -/
def Same (N N2 : Nat → Int) : Prop := N 6 = N2 6 ∧ N 12 = N2 12 ∧ ∀ b, b < 7 → bt N b 0 = bt N2 b 0 ∧ bt N b 1 = bt N2 b 1 ∧ bt N b 2 = bt N2 b 2
theorem Same.rf (N : Nat → Int) : Same N N := ⟨rfl, rfl, fun _ _ => ⟨rfl, rfl, rfl⟩⟩
theorem Same.tr {A B C : Nat → Int} (h : Same A B) (g : Same B C) : Same A C := ⟨h.1.trans g.1, h.2.1.trans g.2.1, fun b hb => ⟨(h.2.2 b hb).1.trans (g.2.2 b hb).1, (h.2.2 b hb).2.1.trans (g.2.2 b hb).2.1, (h.2.2 b hb).2.2.trans (g.2.2 b hb).2.2⟩⟩
theorem Same.sy {A B : Nat → Int} (h : Same A B) : Same B A := ⟨h.1.symm, h.2.1.symm, fun b hb => ⟨(h.2.2 b hb).1.symm, (h.2.2 b hb).2.1.symm, (h.2.2 b hb).2.2.symm⟩⟩
theorem Same.nbE {N N2 : Nat → Int} (h : Same N N2) : nb N = nb N2 := by unfold nb; rw [h.2.1]
theorem Same.amgE {N N2 : Nat → Int} (h : Same N N2) {b : Nat} (hb : b < 7) : ∀ k : Nat, k ≤ 7 → amg N b k = amg N2 b k := by
  intro k
  induction k with
  | zero => intro _; rfl
  | succ k ih => intro hk; show amg N b k + _ = amg N2 b k + _; rw [ih (by omega), (h.2.2 k (by omega)).2.2, (h.2.2 b hb).2.2]
theorem Same.keyE {N N2 : Nat → Int} (h : Same N N2) {b : Nat} (hb : b < 7) : keyN N b = keyN N2 b := by
  unfold keyN; rw [h.1, (h.2.2 b hb).1, (h.2.2 b hb).2.1, (h.2.2 b hb).2.2, h.amgE hb b (by omega)]
theorem Same.rankE {N N2 : Nat → Int} (h : Same N N2) (h7 : N 12 ≤ 7) {b : Nat} (hb : b < 7) : rankN N b = rankN N2 b := by
  unfold rankN
  rw [h.nbE]
  refine cnt_cong (fun k hk => ?_)
  have : k < 7 := by rw [← h.nbE] at hk; unfold nb at hk; omega
  unfold ahd; rw [h.keyE hb, h.keyE this]
theorem nb_lt {N : Nat → Int} (h7 : N 12 ≤ 7) {b : Nat} (hb : b < nb N) : b < 7 ∧ (b : Int) < N 12 := by unfold nb at hb; omega
theorem Same.ordE {N N2 : Nat → Int} (h : Same N N2) (h7 : N 12 ≤ 7) {k : Nat} (hk : k < nb N) : ordF N k = ordF N2 k := by
  have h1 := ordF_ok hk
  have h2 := ordF_ok (N := N2) (k := k) (by rw [← h.nbE]; exact hk)
  refine rank_inj h1.1 (by rw [h.nbE]; exact h2.1) ?_
  rw [h1.2, h.rankE h7 (nb_lt h7 (by rw [h.nbE]; exact h2.1)).1, h2.2]
