/-! the reference: goesOn, water, done, all -/
def setB (S : Int) (N : Nat → Int) : Bool := decide (iAnd S (iXor (stS N (nb N)) (-1)) = 0)
section MF2
variable {G : GG} {t : Mem} {m : Int}
def Dn (t : Mem) (M : Nat → Int) (n k : Nat) : Prop := ∀ b, b < 7 → (b < k → t 137 b = fst4 (fun i => satB (itN 127 M i) b) (n + 1)) ∧ (k ≤ b → b < nb M → t 137 b = fst4 (fun i => satB (itN 127 M i) b) n)
theorem FtM.wr137 {t0 u : Mem} {N M : Nat → Int} {j : Nat} {v : Int} (h : FtM t0 u N M) : FtM t0 (wr u 137 j v) N M := by
  obtain ⟨h1, h2, h3, h4, h6, h7⟩ := h
  refine ⟨by rw [wr_n (by decide)]; exact h1, fun j hj => by rw [wr_n (by decide)]; exact h2 j hj, h3, h4, ?_, fun j hj => by rw [wr_n (by decide)]; exact h7.1 j hj, fun x a b c d e => by rw [wr_n e]; exact h7.2 x a b c d e⟩
  unfold OrdI OrdR at h6 ⊢
  rw [wr_n (by decide), wr_n (by decide), wr_n (by decide)]; exact h6
theorem c_goesOn {t0 : Mem} {N M : Nat → Int} {S : Int} (h : FtM t0 t N M) (hI : Inv m M) (hm : m + 241 ≤ 20000) : Ex G mX6_goesOn [RR 132, II S] t (fun r u => r = fst4 (fun n => setB S (itN 127 M n)) 241 ∧ (∀ b, b < nb M → u 137 b = fst4 (fun n => satB (itN 127 M n) b) 241) ∧ FtM t0 u N N) := by
  have hh := hI.h
  unfold InH at hh
  have hnb : nb M ≤ 7 := by unfold nb; omega
  have inn : ∀ (n : Nat), n < 241 → (∀ w : Mem, FtM t0 w N (itN 127 M (n + 1)) → Dn w M (n + 1) 0 → V G mX6_goesOn 27 [(0, RR 132), (1, II S), (2, II (fst4 (fun n => setB S (itN 127 M n)) (n + 1))), (3, II ((n : Int) + 1))] [] w (fun r u => r = fst4 (fun n => setB S (itN 127 M n)) 241 ∧ (∀ b, b < nb M → u 137 b = fst4 (fun n => satB (itN 127 M n) b) 241) ∧ FtM t0 u N N)) →
      ∀ (dd k : Nat) (u : Mem), k + dd = nb M → FtM t0 u N (itN 127 M n) → Dn u M n k → V G mX6_goesOn 37 [(0, RR 132), (1, II S), (2, II (fst4 (fun n => setB S (itN 127 M n)) n)), (3, II (n : Int)), (4, II (k : Int))] [] u (fun r u => r = fst4 (fun n => setB S (itN 127 M n)) 241 ∧ (∀ b, b < nb M → u 137 b = fst4 (fun n => satB (itN 127 M n) b) 241) ∧ FtM t0 u N N) := by
    intro n hn nx dd
    have hIn := itN_inv (l := 127) hI n (by omega)
    have e12 : itN 127 M n 12 = M 12 := (itN_kp 127 M n).1.2.2.2.2.2.2.2
    induction dd with
    | zero =>
      intro k u hk hF hD
      have hu := hF.1
      have hfi := fst4_in (fun n => setB S (itN 127 M n)) n
      refine sgX6_goesOn_37 ⟨i32 (by omega) (by unfold nb at hk; omega), by rw [hu, e12]; exact i32 (by omega) (by omega), br_t (by rw [hu, e12]; unfold nb at hk; omega) ⟨i32 (by omega) (by omega), ?_⟩⟩
      have hD2 : ∀ w : Mem, w 137 = u 137 → Dn w M (n + 1) 0 := fun w hw b hb => ⟨fun z => absurd z (Nat.not_lt_zero b), fun _ hbn => by rw [hw]; exact (hD b hb).1 (by omega)⟩
      have es : fst4 (fun n => setB S (itN 127 M n)) (n + 1) = if fst4 (fun n => setB S (itN 127 M n)) n = -4 then (if setB S (itN 127 M n) then (n : Int) else -4) else fst4 (fun n => setB S (itN 127 M n)) n := rfl
      by_cases c : fst4 (fun n => setB S (itN 127 M n)) n = -4
      · refine nb_f c ?_
        refine ck (c_sated (m := m + n) (by rw [hu]; exact hIn)) ⟨x32 _, fun w15 e15 => ?_⟩
        refine cq (ft_goes (m := m + n) (l := 127) hF hIn (by omega)) (fun r w hw => ?_)
        have := nx w hw.1 (hD2 w hw.2)
        rw [es, if_pos c] at this
        rw [hu] at e15
        have e16 : w15 = (if setB S (itN 127 M n) then (n : Int) else -4) := by
          rw [e15, c]; unfold setB
          by_cases z : iAnd S (iXor (stS (itN 127 M n) (nb (itN 127 M n))) (-1)) = 0
          · rw [if_pos z, decide_eq_true z]; rfl
          · rw [if_neg z, decide_eq_false z]; rfl
        rw [e16]; exact this
      · refine nb_t c ?_
        refine cq (ft_goes (m := m + n) (l := 127) hF hIn (by omega)) (fun r w hw => ?_)
        have := nx w hw.1 (hD2 w hw.2)
        rw [es, if_neg c] at this
        exact this
    | succ dd ih =>
      intro k u hk hF hD
      have hu := hF.1
      have hk7 : k < 7 := by omega
      have hkb := (hD k hk7).2 (Nat.le_refl k) (by omega)
      have hfi := fst4_in (fun i => satB (itN 127 M i) k) n
      have es : fst4 (fun i => satB (itN 127 M i) k) (n + 1) = if fst4 (fun i => satB (itN 127 M i) k) n = -4 then (if satB (itN 127 M n) k then (n : Int) else -4) else fst4 (fun i => satB (itN 127 M i) k) n := rfl
      refine sgX6_goesOn_37 ⟨i32 (by omega) (by omega), by rw [hu, e12]; exact i32 (by omega) (by omega), br_f (by rw [hu, e12]; unfold nb at hk; omega) ⟨by omega, ?_⟩⟩
      rw [Int.toNat_natCast, hkb]
      refine ⟨i32 (by omega) (by omega), ?_⟩
      have nxt : ∀ v : Int, v = fst4 (fun i => satB (itN 127 M i) k) (n + 1) → V G mX6_goesOn 37 [(0, RR 132), (1, II S), (2, II (fst4 (fun n => setB S (itN 127 M n)) n)), (3, II (n : Int)), (4, II ((k : Int) + 1))] [] (wr u 137 k v) (fun r u => r = fst4 (fun n => setB S (itN 127 M n)) 241 ∧ (∀ b, b < nb M → u 137 b = fst4 (fun n => satB (itN 127 M n) b) 241) ∧ FtM t0 u N N) := by
        intro v hv
        refine ih (k + 1) (wr u 137 k v) (by omega) hF.wr137 (fun b hb => ⟨fun z => ?_, fun z hbn => ?_⟩)
        · by_cases e : b = k
          · rw [e, wr_ss, hv]
          · rw [wr_sn e]; exact (hD b hb).1 (by omega)
        · rw [wr_sn (by omega)]; exact (hD b hb).2 (by omega) hbn
      by_cases c : fst4 (fun i => satB (itN 127 M i) k) n = -4
      · refine nb_f c ?_
        refine ck (c_isSated (m := m + n) (by rw [hu]; exact hIn) hk7) ⟨by split <;> exact iL rfl, fun w35 e35 u40 e40 => ?_⟩
        rw [e40]
        refine nxt w35 ?_
        rw [e35, es, if_pos c, hu, hkb, c]
        unfold satB
        by_cases z : need (itN 127 M n) k ≤ bt (itN 127 M n) k 3
        · rw [if_pos z, if_neg (by decide), decide_eq_true z]; rfl
        · rw [if_neg z, if_pos rfl, decide_eq_false z]; rfl
      · refine nb_t c (fun u27 e27 => ?_)
        rw [e27]
        exact nxt _ (by rw [es, if_neg c])
  have out : ∀ (dd n : Nat) (u : Mem), n + dd = 241 → FtM t0 u N (itN 127 M n) → Dn u M n 0 → V G mX6_goesOn 27 [(0, RR 132), (1, II S), (2, II (fst4 (fun n => setB S (itN 127 M n)) n)), (3, II (n : Int))] [] u (fun r u => r = fst4 (fun n => setB S (itN 127 M n)) 241 ∧ (∀ b, b < nb M → u 137 b = fst4 (fun n => satB (itN 127 M n) b) 241) ∧ FtM t0 u N N) := by
    intro dd
    induction dd with
    | zero =>
      intro n u hn hF hD
      refine sgX6_goesOn_27 ⟨i32 (by omega) (by omega), br_t (by omega) ?_⟩
      have e : n = 241 := by omega
      subst e
      refine ckv c_backs ⟨rfl, fun b hb => ?_, ft_end hF⟩
      rw [row_n (by decide)]
      exact (hD b (by omega)).2 (Nat.zero_le b) hb
    | succ dd ih =>
      intro n u hn hF hD
      refine sgX6_goesOn_27 ⟨i32 (by omega) (by omega), br_f (by omega) ?_⟩
      exact inn n (by omega) (fun w h1 h2 => ih (n + 1) w (by omega) h1 h2) (nb M) 0 u (by omega) hF hD
  have ini : ∀ (dd k : Nat) (u : Mem), k + dd = 7 → FtM t0 u N M → (∀ b, b < k → u 137 b = -4) → V G mX6_goesOn 5 [(0, RR 132), (1, II S), (2, II (-4)), (3, II (k : Int))] [] u (fun r u => r = fst4 (fun n => setB S (itN 127 M n)) 241 ∧ (∀ b, b < nb M → u 137 b = fst4 (fun n => satB (itN 127 M n) b) 241) ∧ FtM t0 u N N) := by
    intro dd
    induction dd with
    | zero =>
      intro k u hk hF hD
      refine sgX6_goesOn_5 ⟨i32 (by omega) (by omega), br_t (by omega) ?_⟩
      exact out 241 0 u (by omega) hF (fun b hb => ⟨fun z => absurd z (Nat.not_lt_zero b), fun _ _ => hD b (by omega)⟩)
    | succ dd ih =>
      intro k u hk hF hD
      refine sgX6_goesOn_5 ⟨i32 (by omega) (by omega), br_f (by omega) ⟨by omega, fun u2 e2 => ?_⟩⟩
      rw [Int.toNat_natCast] at e2
      rw [e2]
      refine ih (k + 1) _ (by omega) hF.wr137 (fun b hb => ?_)
      by_cases e : b = k
      · rw [e, wr_ss]
      · rw [wr_sn e]; exact hD b (by omega)
  exact eX6_goesOn (sgX6_goesOn_0 (ini 7 0 t (by omega) h (fun b hb => absurd hb (Nat.not_lt_zero b))))
/-- who but the puller, as a set -/
def othN (N : Nat → Int) : Int := if N 10 = -4 then iShl 1 (N 12) - 1 else iAnd (iShl 1 (N 12) - 1) (iXor (iShl 1 (N 10)) (-1))
theorem c_others (hI : Inv m (t 133)) : Ex G mX6_others [RR 132] t (Ret (othN (t 133)) t) := by
  have hh := hI.h
  unfold InH at hh
  refine eX6_others (sgX6_others_0 ⟨i32 (by omega) (by omega), ?_⟩)
  by_cases c : t 133 10 = -4
  · exact nb_f c ⟨by unfold othN; rw [if_pos c], rfl⟩
  · exact nb_t c ⟨by unfold othN; rw [if_neg c], rfl⟩
/-- sets as masks: bits of the sated -/
def msk (p : Nat → Bool) : Nat → Nat
  | 0 => 0
  | k + 1 => msk p k + (if p k then 2 ^ k else 0)
theorem msk_lt (p : Nat → Bool) : ∀ k, msk p k < 2 ^ k
  | 0 => by simp [msk]
  | k + 1 => by have := msk_lt p k; unfold msk; rw [Nat.pow_succ]; split <;> omega
theorem msk_bit (p : Nat → Bool) : ∀ k i, (msk p k).testBit i = (decide (i < k) && p i)
  | 0, i => by simp [msk]
  | k + 1, i => by
    have hlt := msk_lt p k
    have ih := msk_bit p k i
    unfold msk
    by_cases hp : p k = true
    · rw [if_pos hp, Nat.add_comm]
      by_cases e : i = k
      · subst e; rw [Nat.testBit_two_pow_add_eq, ih]; simp [hp]
      · rcases Nat.lt_or_ge i k with z | z
        · rw [Nat.testBit_two_pow_add_gt z, ih]; simp [z]; intro _; omega
        · have : (2 ^ k + msk p k) < 2 ^ i := by
            have h1 : 2 ^ (k + 1) ≤ 2 ^ i := Nat.pow_le_pow_right (by decide) (by omega)
            rw [Nat.pow_succ] at h1; omega
          rw [Nat.testBit_lt_two_pow this]; simp; omega
    · rw [if_neg hp, Nat.add_zero, ih]
      by_cases e : i = k
      · subst e; simp [hp]
      · rw [Bool.eq_iff_iff]; simp; intro _; omega
theorem or_pow : ∀ k : Nat, k < 7 → ∀ x : Nat, x < 2 ^ k → iOr (x : Int) (iShl 1 (k : Int)) = ((x + 2 ^ k : Nat) : Int) := by decide +kernel
theorem stS_msk {N : Nat → Int} : ∀ k, k ≤ 7 → stS N k = (msk (satB N) k : Int)
  | 0, _ => rfl
  | k + 1, hk => by
    unfold stS msk satB
    have ih := stS_msk (N := N) k (by omega)
    by_cases q : need N k ≤ bt N k 3
    · rw [if_pos q, decide_eq_true q, if_pos rfl, ih, or_pow k (by omega) _ (msk_lt _ k)]; rfl
    · rw [if_neg q, decide_eq_false q, ih]; simp; rfl
theorem oth_msk : ∀ n : Nat, n ≤ 7 → ∀ p : Nat, p < n → iAnd (iShl 1 (n : Int) - 1) (iXor (iShl 1 (p : Int)) (-1)) = ((2 ^ n - 1 - 2 ^ p : Nat) : Int) := by decide +kernel
theorem oth_all : ∀ n : Nat, n ≤ 7 → iShl 1 (n : Int) - 1 = ((2 ^ n - 1 : Nat) : Int) := by decide +kernel
theorem sub_msk : ∀ x : Nat, x < 128 → ∀ y : Nat, y < 128 → (iAnd (x : Int) (iXor (y : Int) (-1)) = 0 ↔ ∀ i : Nat, i < 7 → x.testBit i = true → y.testBit i = true) := by decide +kernel
theorem bit_all : ∀ n : Nat, n ≤ 7 → ∀ i : Nat, i < 7 → (2 ^ n - 1 : Nat).testBit i = decide (i < n) := by decide +kernel
theorem bit_oth : ∀ n : Nat, n ≤ 7 → ∀ p : Nat, p < n → ∀ i : Nat, i < 7 → (2 ^ n - 1 - 2 ^ p : Nat).testBit i = (decide (i < n) && decide (i ≠ p)) := by decide +kernel
theorem set_all {N : Nat → Int} (hI : Inv m N) : setB (othN N) N = allB N := by
  have hh := hI.h
  unfold InH at hh
  have hnb : nb N ≤ 7 := by unfold nb; omega
  have e12 : N 12 = ((nb N : Nat) : Int) := by unfold nb; omega
  rw [Bool.eq_iff_iff, allB_iff]
  unfold setB allN othN
  rw [stS_msk _ hnb]
  have hy : msk (satB N) (nb N) < 128 := Nat.lt_of_lt_of_le (msk_lt _ _) (Nat.pow_le_pow_right (n := 2) (by decide) hnb)
  by_cases c : N 10 = -4
  · rw [if_pos c, e12, oth_all _ hnb]
    have hx : 2 ^ nb N - 1 < 128 := by have := Nat.pow_le_pow_right (n := 2) (by decide) hnb; omega
    rw [decide_eq_true_eq, sub_msk _ hx _ hy]
    constructor
    · intro h b hb _
      have := h b (by omega) (by rw [bit_all _ hnb b (by omega)]; exact decide_eq_true hb)
      rw [msk_bit] at this
      unfold satB at this
      simp at this
      exact this.2
    · intro h i hi hb
      rw [bit_all _ hnb i hi] at hb
      have hb := of_decide_eq_true hb
      rw [msk_bit]; unfold satB; simp
      exact ⟨hb, h i hb (by omega)⟩
  · rw [if_neg c]
    have hp : (N 10).toNat < nb N := by unfold nb; omega
    have e10 : N 10 = (((N 10).toNat : Nat) : Int) := by omega
    rw [e12, e10, oth_msk _ hnb _ hp]
    have hx : 2 ^ nb N - 1 - 2 ^ (N 10).toNat < 128 := Nat.lt_of_le_of_lt (Nat.sub_le _ _) (by have := Nat.pow_le_pow_right (n := 2) (by decide) hnb; omega)
    rw [decide_eq_true_eq, sub_msk _ hx _ hy]
    constructor
    · intro h b hb hne
      have := h b (by omega) (by rw [bit_oth _ hnb _ hp b (by omega)]; simp [hb]; omega)
      rw [msk_bit] at this
      unfold satB at this
      simp at this
      exact this.2
    · intro h i hi hb
      rw [bit_oth _ hnb _ hp i hi] at hb
      simp at hb
      rw [msk_bit]; unfold satB; simp
      exact ⟨hb.1, h i hb.1 (by omega)⟩
end MF2
