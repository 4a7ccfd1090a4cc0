/-! a minute, as numbers, stage by stage as the reference goes; each stage keeps what always holds -/
def nR (N : Nat → Int) : Nat → Int := up N 0 (N 0 + (60 - N 0) / N 2)
def dA (N : Nat → Int) : Int := min (24 - N 7) (min (N 0 - N 1) (N 3 / (if N 10 = -4 then 2 else 1)))
def pN (N : Nat → Int) : Nat := 14 + 7 * (N 10).toNat + 4
def nD0 (N : Nat → Int) : Nat → Int := up (up (up N 0 (N 0 - dA N)) 7 (N 7 + dA N)) 8 (N 8 + 1)
def nD (N : Nat → Int) : Nat → Int := if N 10 = -4 then nD0 N else up (nD0 N) (pN N) (N (pN N) + 1)
def zN (N : Nat → Int) : Int := lAnd (N 13 * 1103515245 + 12345) 2147483647
def nB (N : Nat → Int) : Nat → Int := if N 8 / 10 ≤ zN N / 65536 % 100 then up N 13 (zN N) else up (up (up N 13 (zN N)) 8 0) 9 4
def bkN (N : Nat → Int) : Int := if N 8 / 10 ≤ zN N / 65536 % 100 then 0 else 1
def nW (d : Int) (N : Nat → Int) : Nat → Int := if 0 < dA N then (if d = 0 then nD N else nB (nD N)) else N
def wK (d : Int) (N : Nat → Int) : Int := if 0 < dA N then (if d = 0 then 0 else bkN (nD N)) else 0
def nE (d : Int) (N : Nat → Int) : Nat → Int := if nR N 9 = 0 ∧ nR N 5 ≤ nR N 0 then nW d (nR N) else nR N
def eK (d : Int) (N : Nat → Int) : Int := if nR N 9 = 0 ∧ nR N 5 ≤ nR N 0 then wK d (nR N) else 0
def gets (N : Nat → Int) (f l : Int) (b : Nat) : Bool := decide (0 < f) && (decide (¬ need N b ≤ bt N b 3) && (decide (bt N b 6 = 0) && (decide (¬ (b : Int) = N 10) && decide (iAnd (iShr l b) 1 = 1))))
theorem gets_iff {N : Nat → Int} {f l : Int} {b : Nat} : gets N f l b = true ↔ 0 < f ∧ ¬ need N b ≤ bt N b 3 ∧ bt N b 6 = 0 ∧ ¬ (b : Int) = N 10 ∧ iAnd (iShr l b) 1 = 1 := by unfold gets; simp only [Bool.and_eq_true, decide_eq_true_eq]
theorem gets_f {N : Nat → Int} {f l : Int} {b : Nat} : gets N f l b = false ↔ ¬ (0 < f ∧ ¬ need N b ≤ bt N b 3 ∧ bt N b 6 = 0 ∧ ¬ (b : Int) = N 10 ∧ iAnd (iShr l b) 1 = 1) := by rw [← gets_iff]; simp
def ownN (N : Nat → Int) (b : Nat) : Int := min (N 7) (min (need N b - bt N b 3) (drk N b))
/-- the row, the free places, what was drunk -/
abbrev DS : Type := (Nat → Int) × Int × Int
def dr1 (l : Int) (s : DS) (b : Nat) : DS :=
  if gets s.1 s.2.1 l b = true then
    (up (up (up s.1 7 (s.1 7 - ownN s.1 b)) (14 + 7 * b + 3) (bt s.1 b 3 + ownN s.1 b)) (14 + 7 * b + 5) (if 0 < ownN s.1 b then bt s.1 b 5 + ownN s.1 b else 0), s.2.1 - 1, s.2.2 + ownN s.1 b)
  else (up s.1 (14 + 7 * b + 5) 0, s.2.1, s.2.2)
def drS (l : Int) (N : Nat → Int) : Nat → DS
  | 0 => (N, N 4, 0)
  | k + 1 => dr1 l (drS l N k) (ordF N k)
def sw1 (N : Nat → Int) (b : Nat) : Nat → Int :=
  if bt N b 0 = 3 ∧ 12 ≤ bt N b 5 then up (up (up N (14 + 7 * b + 6) (bt N b 6 - (if bt N b 6 ≤ 0 then 0 else 1))) (14 + 7 * b + 5) 0) (14 + 7 * b + 6) 5
  else up N (14 + 7 * b + 6) (bt N b 6 - (if bt N b 6 ≤ 0 then 0 else 1))
def swS (N : Nat → Int) : Nat → (Nat → Int)
  | 0 => N
  | k + 1 => sw1 (swS N k) k
def finN (N : Nat → Int) : Nat → Int := up (up N 9 (N 9 - (if N 9 ≤ 0 then 0 else 1))) 11 (N 11 + 1)
/-- a minute: the row behind it, what was drunk in it -/
def goN (d l : Int) (N : Nat → Int) : Nat → Int := finN (swS (drS l (nE d N) (nb N)).1 (nb N))
def goA (d l : Int) (N : Nat → Int) : Int := (drS l (nE d N) (nb N)).2.2
theorem dr1_t {l : Int} {s : DS} {b : Nat} (h : gets s.1 s.2.1 l b = true) : dr1 l s b = (up (up (up s.1 7 (s.1 7 - ownN s.1 b)) (14 + 7 * b + 3) (bt s.1 b 3 + ownN s.1 b)) (14 + 7 * b + 5) (if 0 < ownN s.1 b then bt s.1 b 5 + ownN s.1 b else 0), s.2.1 - 1, s.2.2 + ownN s.1 b) := by unfold dr1; exact if_pos h
theorem dr1_f {l : Int} {s : DS} {b : Nat} (h : ¬ gets s.1 s.2.1 l b = true) : dr1 l s b = (up s.1 (14 + 7 * b + 5) 0, s.2.1, s.2.2) := by unfold dr1; exact if_neg h
theorem bt_up_lo {N : Nat → Int} {j b w : Nat} {v : Int} (h : j < 14) : bt (up N j v) b w = bt N b w := by unfold bt; rw [up_n (by omega)]
theorem bt_up_s {N : Nat → Int} {b w : Nat} {v : Int} : bt (up N (14 + 7 * b + w) v) b w = v := by unfold bt; rw [up_s]
theorem bt_up_n {N : Nat → Int} {b w c x : Nat} {v : Int} (hw : w < 7) (hx : x < 7) (h : b ≠ c ∨ w ≠ x) : bt (up N (14 + 7 * c + x) v) b w = bt N b w := by unfold bt; rw [up_n (by omega)]
theorem hd_up {N : Nat → Int} {j k : Nat} {v : Int} (hj : j < 14) (hk : 14 ≤ k) : up N k v j = N j := up_n (by omega)
theorem Inv.h {m : Int} {N : Nat → Int} (h : Inv m N) : InH m N := h.2.1
/-- what a change of one beast's field, or of a number of the well, leaves -/
theorem need_lo {N : Nat → Int} {j b : Nat} {v : Int} (h : j < 14) : need (up N j v) b = need N b := by unfold need mk5; rw [bt_up_lo h, bt_up_lo h, bt_up_lo h]
theorem need_w {N : Nat → Int} {b c x : Nat} {v : Int} (hx : x < 7) (h : b ≠ c ∨ (x ≠ 0 ∧ x ≠ 1 ∧ x ≠ 4)) : need (up N (14 + 7 * c + x) v) b = need N b := by
  unfold need mk5; rw [bt_up_n (by omega) hx (by omega), bt_up_n (by omega) hx (by omega), bt_up_n (by omega) hx (by omega)]
theorem drk_lo {N : Nat → Int} {j b : Nat} {v : Int} (h : j < 14) : drk (up N j v) b = drk N b := by unfold drk; rw [bt_up_lo h]
theorem drk_w {N : Nat → Int} {b c x : Nat} {v : Int} (hx : x < 7) (h : b ≠ c ∨ x ≠ 0) : drk (up N (14 + 7 * c + x) v) b = drk N b := by
  unfold drk; rw [bt_up_n (by omega) hx (by omega)]
/-- a number of the well changes -/
theorem Inv.lo {m : Int} {N : Nat → Int} {j : Nat} {v : Int} (h : Inv m N) (hj : j < 14) (h12 : j ≠ 12) (hv : InH m (up N j v)) : Inv m (up N j v) := by
  refine ⟨h.1, hv, fun b hb => ?_, fun b hb h1 => ?_, fun b hb h1 => by rw [up_n (fun q => h12 q.symm)] at h1; rw [bt_up_lo hj]; exact h.2.2.2.2 b hb h1⟩
  · have := h.b hb
    unfold InB at this ⊢
    rw [need_lo hj, bt_up_lo hj, bt_up_lo hj, bt_up_lo hj, bt_up_lo hj, bt_up_lo hj, bt_up_lo hj, bt_up_lo hj]
    exact this
  · rw [up_n (fun q => h12 q.symm)] at h1
    rw [bt_up_lo hj, bt_up_lo hj, bt_up_lo hj, bt_up_lo hj]
    exact h.2.2.2.1 b hb h1
theorem nR_inv {m : Int} {N : Nat → Int} (h : Inv m N) : Inv m (nR N) := by
  have hh := h.h
  unfold InH at hh
  refine h.lo (by omega) (by omega) ?_
  have h1 : 0 ≤ (60 - N 0) / N 2 := Int.ediv_nonneg (by omega) (by omega)
  have h2 : (60 - N 0) / N 2 ≤ 60 - N 0 := Int.ediv_le_self _ (by omega)
  unfold InH
  simp only [up]
  simp
  omega
theorem InH.w {m : Int} {N : Nat → Int} {c x : Nat} {v : Int} (h : InH m N) : InH m (up N (14 + 7 * c + x) v) := by
  unfold InH at h ⊢
  simp only [up]
  simp only [show ∀ q : Nat, q < 14 → (q = 14 + 7 * c + x) = False from fun q hq => by simp; omega, Nat.reduceLT, if_false]
  exact h
/-- one field of one beast (drunk, pulled, streak, swollen) changes -/
theorem Inv.w {m : Int} {N : Nat → Int} {c x : Nat} {v : Int} (h : Inv m N) (hx : x < 7) (hc7 : c < 7) (hc : (c : Int) < N 12) (hx3 : 3 ≤ x) (hv : InB m (up N (14 + 7 * c + x) v) c) : Inv m (up N (14 + 7 * c + x) v) := by
  refine ⟨h.1, h.h.w, fun b hb => ?_, fun b hb h1 => ?_, fun b hb h1 => by rw [hd_up (by omega) (by omega)] at h1; rw [bt_up_n (by omega) hx (by omega)]; exact h.2.2.2.2 b hb h1⟩
  · by_cases e : b = c
    · rw [e]; exact hv
    · have := h.b hb
      unfold InB at this ⊢
      rw [need_w hx (Or.inl e), bt_up_n (by omega) hx (Or.inl e), bt_up_n (by omega) hx (Or.inl e), bt_up_n (by omega) hx (Or.inl e), bt_up_n (by omega) hx (Or.inl e), bt_up_n (by omega) hx (Or.inl e), bt_up_n (by omega) hx (Or.inl e), bt_up_n (by omega) hx (Or.inl e)]
      exact this
  · rw [hd_up (by omega) (by omega)] at h1
    have e : b ≠ c := by omega
    rw [bt_up_n (by omega) hx (Or.inl e), bt_up_n (by omega) hx (Or.inl e), bt_up_n (by omega) hx (Or.inl e), bt_up_n (by omega) hx (Or.inl e)]
    exact h.2.2.2.1 b hb h1
