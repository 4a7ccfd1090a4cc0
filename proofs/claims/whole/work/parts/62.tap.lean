/-! the tape: how it is read, as functions of the letters L, the length n and a place -/
def skF (L : Nat → Int) (n : Nat) : Nat → Nat → Nat
  | 0, a => a
  | d + 1, a => if a < n ∧ L a = 32 then skF L n d (a + 1) else a
def sk (L : Nat → Int) (n a : Nat) : Nat := skF L n (n - a) a
def hdL (L : Nat → Int) (n b : Nat) : Int := if b < n then L b else -1
section SK
variable {L : Nat → Int} {n : Nat}
theorem sk_step {a : Nat} (h : a < n) (h2 : L a = 32) : sk L n a = sk L n (a + 1) := by
  unfold sk
  rw [show n - a = (n - (a + 1)) + 1 by omega]
  show (if a < n ∧ L a = 32 then skF L n (n - (a + 1)) (a + 1) else a) = _
  rw [if_pos ⟨h, h2⟩]
theorem sk_stop {a : Nat} (h : n ≤ a ∨ ¬ L a = 32) : sk L n a = a := by
  unfold sk
  cases e : n - a with
  | zero => rfl
  | succ d =>
    show (if a < n ∧ L a = 32 then skF L n d (a + 1) else a) = _
    rw [if_neg (fun q => by rcases h with h | h; omega; exact h q.2)]
theorem sk_all : ∀ (d a : Nat), a + d = n → a ≤ sk L n a ∧ sk L n a ≤ n ∧ (n ≤ sk L n a ∨ ¬ L (sk L n a) = 32)
  | 0, a, h => by rw [sk_stop (Or.inl (by omega))]; exact ⟨Nat.le_refl _, by omega, Or.inl (by omega)⟩
  | d + 1, a, h => by
    by_cases c : L a = 32
    · rw [sk_step (by omega) c]
      have := sk_all d (a + 1) (by omega)
      exact ⟨by omega, this.2⟩
    · rw [sk_stop (Or.inr c)]; exact ⟨Nat.le_refl _, by omega, Or.inr c⟩
theorem sk_le {a : Nat} (h : a ≤ n) : a ≤ sk L n a ∧ sk L n a ≤ n := by
  have := sk_all (L := L) (n := n) (n - a) a (by omega)
  exact ⟨this.1, this.2.1⟩
theorem sk_sk {a : Nat} (h : a ≤ n) : sk L n (sk L n a) = sk L n a := sk_stop (sk_all (n - a) a (by omega)).2.2
theorem hd_lt {b : Nat} (h : 0 ≤ hdL L n b) : b < n := by
  unfold hdL at h
  split at h
  · assumption
  · omega
theorem hd_e {b : Nat} (h : b < n) : hdL L n b = L b := if_pos h
theorem hd_o {b : Nat} (h : n ≤ b) : hdL L n b = -1 := if_neg (by omega)
end SK
/-- a number: as read, and the place behind it -/
def nmR (L : Nat → Int) (n b : Nat) : Int × Nat := if b + 1 < n ∧ 48 ≤ L (b + 1) ∧ L (b + 1) ≤ 57 then (10 * (L b - 48) + L (b + 1) - 48, b + 2) else (L b - 48, b + 1)
abbrev nmO (L : Nat → Int) (n : Nat) (k : Int) (b : Nat) : Prop := (48 ≤ hdL L n b ∧ hdL L n b ≤ 57) ∧ (nmR L n b).1 ≤ k
def kdL (c : Int) : Int := if c = 112 then 0 else if c = 109 then 1 else if c = 121 then 2 else if c = 103 then 3 else -4
theorem kdL_in (c : Int) : -4 ≤ kdL c ∧ kdL c ≤ 3 := by unfold kdL; split; omega; split; omega; split; omega; split <;> omega
theorem kdL_ge {c : Int} (h : ¬ kdL c = -4) : 0 ≤ kdL c ∧ 0 ≤ c := by
  unfold kdL at h ⊢
  by_cases a : c = 112
  · rw [if_pos a]; omega
  rw [if_neg a] at h ⊢
  by_cases b : c = 109
  · rw [if_pos b]; omega
  rw [if_neg b] at h ⊢
  by_cases d : c = 121
  · rw [if_pos d]; omega
  rw [if_neg d] at h ⊢
  by_cases e : c = 103
  · rw [if_pos e]; omega
  rw [if_neg e] at h; exact absurd rfl h
/-- a beast, read from a on -/
def b2L (L : Nat → Int) (n a : Nat) : Nat := sk L n (sk L n a + 1)
def b3L (L : Nat → Int) (n a : Nat) : Nat := sk L n (b2L L n a + 1)
abbrev bOk (L : Nat → Int) (n a : Nat) : Prop := ¬ kdL (hdL L n (sk L n a)) = -4 ∧ (49 ≤ hdL L n (b2L L n a) ∧ hdL L n (b2L L n a) ≤ 57)
def bKd (L : Nat → Int) (n a : Nat) : Int := kdL (hdL L n (sk L n a))
def bDy (L : Nat → Int) (n a : Nat) : Int := hdL L n (b2L L n a) - 48
def bHd (L : Nat → Int) (n a : Nat) : Int := if hdL L n (b3L L n a) = 98 then 1 else 0
/-- behind a beast -/
def bEn (L : Nat → Int) (n a : Nat) : Nat := if hdL L n (b3L L n a) = 98 then b3L L n a + 1 else b3L L n a
/-- where reading a bad beast stops -/
def bNo (L : Nat → Int) (n a : Nat) : Nat := if kdL (hdL L n (sk L n a)) = -4 then sk L n a else b2L L n a
/-- the k-th beast begins here -/
def bAt (L : Nat → Int) (n a : Nat) : Nat → Nat
  | 0 => a
  | k + 1 => sk L n (bEn L n (bAt L n a k)) + 1
section BS
variable {L : Nat → Int} {n : Nat}
theorem bOk_le {a : Nat} (h : a ≤ n) (o : bOk L n a) : sk L n a < n ∧ b2L L n a < n ∧ sk L n a + 1 ≤ b2L L n a ∧ b3L L n a ≤ n ∧ bEn L n a ≤ n := by
  have h1 := hd_lt (kdL_ge o.1).2
  have h2 : b2L L n a < n := hd_lt (L := L) (by have := o.2.1; omega)
  have h3 : b3L L n a ≤ n := (sk_le (by omega)).2
  refine ⟨h1, h2, (sk_le (by omega)).1, h3, ?_⟩
  unfold bEn
  split
  · rename_i q
    have := hd_lt (L := L) (n := n) (b := b3L L n a) (by omega)
    omega
  · exact h3
end BS
/-! the class's tape -/
def TT (t : Mem) (L : Nat → Int) (n : Nat) : Prop := t 121 1 = n ∧ n ≤ 60 ∧ ∀ i, i < n → t 122 i = L i ∧ 32 ≤ L i ∧ L i ≤ 126
theorem TT.kept {t u : Mem} {L : Nat → Int} {n : Nat} (h : TT t L n) (h1 : u 121 1 = t 121 1) (h2 : u 122 = t 122) : TT u L n := by
  unfold TT at h ⊢; rw [h1, h2]; exact h
theorem wr_wr {t : Mem} {a j : Nat} {v w : Int} : wr (wr t a j v) a j w = wr t a j w := by
  funext x y; unfold wr; by_cases h : x = a ∧ y = j <;> simp [h]
theorem wr_same {t : Mem} {a j : Nat} {v : Int} (h : t a j = v) : wr t a j v = t := by
  funext x y; unfold wr; by_cases q : x = a ∧ y = j
  · rw [if_pos q, q.1, q.2, h]
  · rw [if_neg q]
theorem TT.pos {t : Mem} {L : Nat → Int} {n : Nat} {v : Int} (h : TT t L n) : TT (wr t 121 2 v) L n := h.kept (wr_sn (by decide)) (wr_n (by decide))
theorem hd_in {t : Mem} {L : Nat → Int} {n b : Nat} (h : TT t L n) : -1 ≤ hdL L n b ∧ hdL L n b ≤ 126 := by
  unfold hdL
  split
  · rename_i q; have := (h.2.2 b q).2; omega
  · omega
section TP
variable {G : GG} {L : Nat → Int} {n : Nat}
theorem x_ahead : ∀ (d a : Nat) (t : Mem), a + d = n → TT t L n → t 121 2 = a → Ex G mX4_ahead [RR 121] t (Ret (hdL L n (sk L n a)) (wr t 121 2 (sk L n a : Int))) := by
  have lp : ∀ (d a : Nat) (t : Mem), a + d = n → TT t L n → t 121 2 = a → V G mX4_ahead 0 [(0, RR 121)] [] t (Ret (hdL L n (sk L n a)) (wr t 121 2 (sk L n a : Int))) := by
    intro d
    induction d with
    | zero =>
      intro a t hd hT ha
      have e := sk_stop (L := L) (n := n) (a := a) (Or.inl (by omega))
      have h60 := hT.2.1
      refine sgX4_ahead_0 ?_
      rw [ha, hT.1, e]
      refine ⟨i32 (by omega) (by omega), i32 (by omega) (by omega), br_t (by omega) ⟨fun q => absurd (show (n : Int) ≤ (a : Int) by omega) q, fun w hw => ⟨?_, (wr_same ha).symm⟩⟩⟩
      rw [hw, if_pos (by omega), hd_o (by omega)]
    | succ d ih =>
      intro a t hd hT ha
      have h60 := hT.2.1
      have ha2 := hT.2.2 a (by omega)
      refine sgX4_ahead_0 ?_
      rw [ha, hT.1, Int.toNat_natCast, ha2.1]
      refine ⟨i32 (by omega) (by omega), i32 (by omega) (by omega), br_f (by omega) ⟨by omega, i32 (by omega) (by omega), ?_⟩⟩
      by_cases c : L a = 32
      · refine nb_f c (fun u hu => ?_)
        have := ih (a + 1) u (by omega) (by rw [hu]; exact hT.pos) (by rw [hu, wr_ss]; omega)
        rw [hu, wr_wr, ← sk_step (by omega) c] at this
        rw [hu]; exact this
      · refine nb_t c (fun w hw => ⟨?_, ?_⟩)
        · rw [hw, if_neg (by omega), sk_stop (Or.inr c), hd_e (by omega)]
        · rw [sk_stop (Or.inr c), wr_same ha]
  exact fun d a t h1 h2 h3 => eX4_ahead (lp d a t h1 h2 h3)
variable {t : Mem}
theorem x_ahead1 {a : Nat} (ha : a ≤ n) (hT : TT t L n) (h2 : t 121 2 = a) : Ex G mX4_ahead [RR 121] t (Ret (hdL L n (sk L n a)) (wr t 121 2 (sk L n a : Int))) := x_ahead (n - a) a t (by omega) hT h2
theorem x_pass {a : Nat} {c : Int} (hc : In32 c) (ha : a ≤ n) (hT : TT t L n) (h2 : t 121 2 = a) : Ex G mX4_pass [RR 121, II c] t (Ret (if hdL L n (sk L n a) = c then 1 else 0) (wr t 121 2 (if hdL L n (sk L n a) = c then (sk L n a : Int) + 1 else (sk L n a : Int)))) := by
  have hi := hd_in (b := sk L n a) hT
  refine eX4_pass (sgX4_pass_0 (ck (x_ahead1 ha hT h2) ⟨i32 (by omega) (by omega), hc, ?_⟩))
  by_cases q : hdL L n (sk L n a) = c
  · refine br_t q (fun u hu => ⟨by rw [if_pos q], ?_⟩)
    rw [hu, wr_ss, wr_wr, if_pos q]
  · exact br_f q ⟨by rw [if_neg q], by rw [if_neg q]⟩
theorem x_digit {v : Int} (hv : In32 v) : Ex G mX4_digit [RR 121, II v] t (Ret (if 48 ≤ v ∧ v ≤ 57 then 1 else 0) t) := by
  refine eX4_digit (sgX4_digit_0 ⟨hv, ?_⟩)
  by_cases a : v < 48
  · exact br_t a ⟨by rw [if_neg (by omega)], rfl⟩
  · refine br_f a ⟨?_, rfl⟩
    by_cases b : 57 < v
    · rw [if_pos b, if_neg (by omega)]
    · rw [if_neg b, if_pos (by omega)]
theorem x_kindOf {v : Int} (hv : In32 v) : Ex G mX4_kindOf [RR 121, II v] t (Ret (kdL v) t) := by
  refine eX4_kindOf (sgX4_kindOf_0 ⟨hv, fun h => ⟨?_, rfl⟩, fun h => ⟨?_, rfl⟩, fun h => ⟨?_, rfl⟩, fun h => ⟨?_, rfl⟩, fun h => ⟨?_, rfl⟩⟩)
  · rw [h]; rfl
  · rw [h]; rfl
  · rw [h]; rfl
  · rw [h]; rfl
  · unfold kdL; rw [if_neg h.2.2.1, if_neg h.2.1, if_neg h.2.2.2, if_neg h.1]
theorem x_number {a : Nat} {k : Int} (hk : In32 k) (ha : a ≤ n) (hT : TT t L n) (h2 : t 121 2 = a) : Ex G mX4_readNumber [RR 121, II k] t (fun r u => (nmO L n k (sk L n a) ∧ r = (nmR L n (sk L n a)).1 ∧ u = wr t 121 2 ((nmR L n (sk L n a)).2 : Int)) ∨ (¬ nmO L n k (sk L n a) ∧ r = -4 ∧ u = wr t 121 2 (sk L n a : Int))) := by
  have hi := hd_in (b := sk L n a) hT
  have h60 := hT.2.1
  refine eX4_readNumber (sgX4_readNumber_0 (ck (x_ahead1 ha hT h2) (ck (x_digit (i32 (by omega) (by omega))) ?_)))
  by_cases c : 48 ≤ hdL L n (sk L n a) ∧ hdL L n (sk L n a) ≤ 57
  · rw [if_pos c]
    have hb : sk L n a < n := hd_lt (L := L) (by omega)
    have eb := hd_e (L := L) hb
    rw [eb] at c
    have lb := hT.2.2 _ hb
    rw [wr_ss]
    refine ⟨iL rfl, nb_t (by decide) ⟨by omega, fun u13 e13 => ?_⟩⟩
    rw [wr_wr] at e13
    have p13 : u13 121 2 = ((sk L n a + 1 : Nat) : Int) := by rw [e13, wr_ss]; omega
    have l13 : u13 121 1 = n := by rw [e13, wr_sn (by decide)]; exact hT.1
    rw [p13, l13, Int.toNat_natCast, Int.toNat_natCast, wr_n (by decide : (122 : Nat) ≠ 121), lb.1]
    refine ⟨i32 (by omega) (by omega), i32 (by omega) (by omega), ?_⟩
    have one : ∀ u, u = u13 → ¬ (sk L n a + 1 < n ∧ 48 ≤ L (sk L n a + 1) ∧ L (sk L n a + 1) ≤ 57) → In32 (L (sk L n a) - 48) ∧ In32 k ∧ (L (sk L n a) - 48 ≤ k → (nmO L n k (sk L n a) ∧ L (sk L n a) - 48 = (nmR L n (sk L n a)).1 ∧ u = wr t 121 2 ((nmR L n (sk L n a)).2 : Int)) ∨ (¬ nmO L n k (sk L n a) ∧ L (sk L n a) - 48 = -4 ∧ u = wr t 121 2 (sk L n a : Int))) ∧ (¬ L (sk L n a) - 48 ≤ k → ∀ w : Mem, w = wr u 121 2 (sk L n a : Int) → (nmO L n k (sk L n a) ∧ (-4 : Int) = (nmR L n (sk L n a)).1 ∧ w = wr t 121 2 ((nmR L n (sk L n a)).2 : Int)) ∨ (¬ nmO L n k (sk L n a) ∧ (-4 : Int) = -4 ∧ w = wr t 121 2 (sk L n a : Int))) := by
      intro u eu hno
      have er : nmR L n (sk L n a) = (L (sk L n a) - 48, sk L n a + 1) := if_neg hno
      refine ⟨i32 (by omega) (by omega), hk, fun q => Or.inl ⟨⟨by rw [eb]; exact c, by rw [er]; exact q⟩, by rw [er], by rw [er, eu, e13]; congr 1⟩, fun q w hw => Or.inr ⟨fun z => q (by have := z.2; rw [er] at this; exact this), rfl, by rw [hw, eu, e13, wr_wr]⟩⟩
    by_cases d : (n : Int) ≤ ((sk L n a + 1 : Nat) : Int)
    · exact br_t d (one u13 rfl (by omega))
    · have lc := hT.2.2 (sk L n a + 1) (by omega)
      have m13 : u13 122 (sk L n a + 1) = L (sk L n a + 1) := by rw [e13, wr_n (by decide : (122 : Nat) ≠ 121)]; exact lc.1
      refine br_f d ⟨by omega, ?_⟩
      rw [m13]
      refine ck (x_digit (i32 (by omega) (by omega))) ?_
      by_cases e : 48 ≤ L (sk L n a + 1) ∧ L (sk L n a + 1) ≤ 57
      · rw [if_pos e]
        have er : nmR L n (sk L n a) = (10 * (L (sk L n a) - 48) + L (sk L n a + 1) - 48, sk L n a + 2) := if_pos ⟨by omega, e⟩
        refine ⟨iL rfl, br_f (by decide) ?_⟩
        rw [p13, Int.toNat_natCast, m13]
        refine ⟨by omega, fun u33 e33 => ⟨i32 (by omega) (by omega), hk, fun q => Or.inl ⟨⟨by rw [eb]; exact c, by rw [er]; exact q⟩, by rw [er], ?_⟩, fun q w hw => Or.inr ⟨fun z => q (by have := z.2; rw [er] at this; exact this), rfl, by rw [hw, e33, wr_wr, e13, wr_wr]⟩⟩⟩
        rw [e33, er, e13, wr_wr]; congr 1
      · rw [if_neg e]
        exact ⟨iL rfl, br_t rfl (one u13 rfl (fun q => e q.2))⟩
  · rw [if_neg c]
    exact ⟨iL rfl, nb_f rfl (Or.inr ⟨fun q => c q.1, rfl, rfl⟩)⟩
/-- one beast, the class -/
theorem x_readBeast {a c k : Nat} (hc : c = 107) (ha : a ≤ n) (hT : TT t L n) (h2 : t 121 2 = a) (hk : t c 7 = k) (h7 : k < 7) : Ex G mX4_readBeast [RR 121, RR c] t (fun r u => (¬ bOk L n a ∧ r = 0 ∧ u = wr t 121 2 (bNo L n a : Int)) ∨ (bOk L n a ∧ r = 1 ∧ u 121 = up (t 121) 2 (bEn L n a : Int) ∧ u c = up (t c) 7 ((k : Int) + 1) ∧ (u (c + 1) = up (t (c + 1)) k (bKd L n a) ∧ u (c + 2) = up (t (c + 2)) k (bDy L n a) ∧ u (c + 3) = up (t (c + 3)) k (bHd L n a) ∧ u (c + 4) = up (t (c + 4)) k (3 * bDy L n a + (if bKd L n a = 1 ∨ bKd L n a = 3 then 5 else 0))) ∧ ∀ x, x < c ∨ c + 4 < x → x ≠ 121 → u x = t x)) := by
  subst hc
  have hi := hd_in (b := sk L n a) hT
  have h60 := hT.2.1
  have kin := kdL_in (hdL L n (sk L n a))
  refine eX4_readBeast (sgX4_readBeast_0 is107 (ck (x_ahead1 ha hT h2) (ck (x_kindOf (i32 (by omega) (by omega))) ⟨i32 (by omega) (by omega), ?_⟩)))
  by_cases q : kdL (hdL L n (sk L n a)) = -4
  · refine nb_f q (Or.inl ⟨fun z => z.1 q, rfl, ?_⟩)
    unfold bNo; rw [if_pos q]
  · have hb := hd_lt (kdL_ge q).2
    refine nb_t q (fun u12 e12 => ?_)
    rw [wr_ss, wr_wr] at e12
    have T12 : TT u12 L n := by rw [e12]; exact hT.pos
    have hj := hd_in (b := b2L L n a) hT
    refine ck (x_ahead1 (a := sk L n a + 1) (by omega) T12 (by rw [e12, wr_ss]; omega)) ?_
    rw [e12, wr_wr]
    change ∃ P19 : Int → Mem → Prop, Ex G mX5_outside [II (hdL L n (b2L L n a) - 48), II 1, II 9] (wr t 121 2 (b2L L n a : Int)) P19 ∧ _
    by_cases d : 49 ≤ hdL L n (b2L L n a) ∧ hdL L n (b2L L n a) ≤ 57
    · refine ck (x_out0 (iL rfl) (iL rfl) (by omega)) ⟨iL rfl, br_t rfl (fun u25 e25 => ?_)⟩
      have ok : bOk L n a := ⟨q, d⟩
      have le := bOk_le ha ok
      rw [wr_ss, wr_wr] at e25
      have T25 : TT u25 L n := by rw [e25]; exact hT.pos
      refine ck (x_pass (a := b2L L n a + 1) (c := 98) (iL rfl) (by omega) T25 (by rw [e25, wr_ss]; omega)) ⟨by split <;> exact iL rfl, ?_⟩
      rw [e25, wr_wr]
      have eh : (if (if hdL L n (sk L n (b2L L n a + 1)) = 98 then (1 : Int) else 0) = 0 then (0 : Int) else 1) = bHd L n a := by
        show _ = (if hdL L n (sk L n (b2L L n a + 1)) = 98 then (1 : Int) else 0)
        split <;> simp_all
      have ep : (if hdL L n (sk L n (b2L L n a + 1)) = 98 then (sk L n (b2L L n a + 1) : Int) + 1 else (sk L n (b2L L n a + 1) : Int)) = (bEn L n a : Int) := by
        unfold bEn b3L; split <;> simp
      rw [eh, ep]
      refine cqv (x_add (k := k) is107 (by rw [wr_n (by decide)]; exact hk) h7 (i32 (by omega) (by omega))) (fun u hu => Or.inr ⟨ok, rfl, ?_, ?_, ⟨?_, ?_, ?_, ?_⟩, fun x hx h1 => ?_⟩)
      · rw [hu.2.2.2.2.2 121 (by omega), wr_s]
      · funext j; rw [hu.1 j, wr_n (by decide)]
      · rw [hu.2.1, wr_n (by decide)]; rfl
      · rw [hu.2.2.1, wr_n (by decide)]; rfl
      · rw [hu.2.2.2.1, wr_n (by decide)]
      · rw [hu.2.2.2.2.1, wr_n (by decide)]; rfl
      · rw [hu.2.2.2.2.2 x hx, wr_n h1]
    · refine ck (x_out1 (i32 (by omega) (by omega)) (iL rfl) (iL rfl) (by omega)) ⟨iL rfl, br_f (by decide) (Or.inl ⟨fun z => d z.2, rfl, ?_⟩)⟩
      unfold bNo; rw [if_neg q]
end TP
