/-! the reference reads the tape -/
def MT (t : Mem) (L : Nat → Int) (n : Nat) : Prop := t 132 9 = n ∧ n ≤ 60 ∧ ∀ i, i < n → t 138 i = L i ∧ 32 ≤ L i ∧ L i ≤ 126
theorem MT.kept {t u : Mem} {L : Nat → Int} {n : Nat} (h : MT t L n) (h1 : u 132 9 = t 132 9) (h2 : u 138 = t 138) : MT u L n := by
  unfold MT at h ⊢; rw [h1, h2]; exact h
def PF (t : Mem) (p : Nat) (f : Int) : Mem := wr (wr t 132 10 (p : Int)) 132 11 f
theorem PF_10 {t : Mem} {p : Nat} {f : Int} : PF t p f 132 10 = p := by unfold PF; rw [wr_sn (by decide), wr_ss]
theorem PF_11 {t : Mem} {p : Nat} {f : Int} : PF t p f 132 11 = f := by unfold PF; rw [wr_ss]
theorem PF_n {t : Mem} {p x : Nat} {f : Int} (h : x ≠ 132) : PF t p f x = t x := by unfold PF; rw [wr_n h, wr_n h]
theorem PF_j {t : Mem} {p j : Nat} {f : Int} (h : j ≠ 10) (h2 : j ≠ 11) : PF t p f 132 j = t 132 j := by unfold PF; rw [wr_sn h2, wr_sn h]
theorem PF_eq {t u : Mem} {p : Nat} {f : Int} (h1 : ∀ x, x ≠ 132 → u x = t x) (h2 : ∀ j, j ≠ 10 → j ≠ 11 → u 132 j = t 132 j) (h3 : u 132 10 = p) (h4 : u 132 11 = f) : u = PF t p f := by
  funext x j
  by_cases hx : x = 132
  · subst hx
    by_cases a : j = 11
    · rw [a, PF_11, h4]
    · by_cases b : j = 10
      · rw [b, PF_10, h3]
      · rw [PF_j b a, h2 j b a]
  · rw [PF_n hx, h1 x hx]
theorem MT.pf {t : Mem} {L : Nat → Int} {n p : Nat} {f : Int} (h : MT t L n) : MT (PF t p f) L n := h.kept (PF_j (by decide) (by decide)) (PF_n (by decide))
theorem MT.p10 {t : Mem} {L : Nat → Int} {n : Nat} {v : Int} (h : MT t L n) : MT (wr t 132 10 v) L n := h.kept (wr_sn (by decide)) (wr_n (by decide))
def hzL (L : Nat → Int) (n b : Nat) : Int := if b < n then L b else 0
theorem hz_in {t : Mem} {L : Nat → Int} {n b : Nat} (h : MT t L n) : (hzL L n b = 0 ↔ n ≤ b) ∧ (0 ≤ hzL L n b ∧ hzL L n b ≤ 126) := by
  unfold hzL
  split
  · rename_i q; have := (h.2.2 b q).2; omega
  · omega
theorem hz_eq {L : Nat → Int} {n b : Nat} {c : Int} (h : 1 ≤ c) : hzL L n b = c ↔ hdL L n b = c := by
  unfold hzL hdL
  split
  · exact Iff.rfl
  · omega
theorem hz_rg {L : Nat → Int} {n b : Nat} {c d : Int} (h : 1 ≤ c) : (c ≤ hzL L n b ∧ hzL L n b ≤ d) ↔ (c ≤ hdL L n b ∧ hdL L n b ≤ d) := by
  unfold hzL hdL
  split
  · exact Iff.rfl
  · omega
section MR
variable {G : GG} {L : Nat → Int} {n : Nat}
theorem c_here : ∀ (d a : Nat) (t : Mem), a + d = n → MT t L n → t 132 10 = a → Ex G mX6_here [RR 132] t (Ret (hzL L n (sk L n a)) (wr t 132 10 (sk L n a : Int))) := by
  have lp : ∀ (d a : Nat) (t : Mem), a + d = n → MT t L n → t 132 10 = a → V G mX6_here 0 [(0, RR 132)] [] t (Ret (hzL L n (sk L n a)) (wr t 132 10 (sk L n a : Int))) := by
    intro d
    induction d with
    | zero =>
      intro a t hd hT ha
      have e := sk_stop (L := L) (n := n) (a := a) (Or.inl (by omega))
      have h60 := hT.2.1
      refine sgX6_here_0 ?_
      rw [ha, hT.1, e]
      refine ⟨i32 (by omega) (by omega), i32 (by omega) (by omega), br_t (by omega) ⟨fun q => absurd (show (n : Int) ≤ (a : Int) by omega) q, fun w hw => ⟨?_, (wr_same ha).symm⟩⟩⟩
      rw [hw, if_pos (by omega)]
      unfold hzL
      rw [if_neg (by omega)]
    | succ d ih =>
      intro a t hd hT ha
      have h60 := hT.2.1
      have ha2 := hT.2.2 a (by omega)
      refine sgX6_here_0 ?_
      rw [ha, hT.1, Int.toNat_natCast, ha2.1]
      refine ⟨i32 (by omega) (by omega), i32 (by omega) (by omega), br_f (by omega) ⟨by omega, i32 (by omega) (by omega), ?_⟩⟩
      by_cases c : L a = 32
      · refine nb_f c (fun u hu => ?_)
        have := ih (a + 1) u (by omega) (by rw [hu]; exact hT.p10) (by rw [hu, wr_ss]; omega)
        rw [hu, wr_wr, ← sk_step (by omega) c] at this
        rw [hu]; exact this
      · refine nb_t c (fun w hw => ⟨?_, ?_⟩)
        · rw [hw, if_neg (by omega), sk_stop (Or.inr c)]; unfold hzL; rw [if_pos (by omega)]
        · rw [sk_stop (Or.inr c), wr_same ha]
  exact fun d a t h1 h2 h3 => eX6_here (lp d a t h1 h2 h3)
variable {t : Mem}
theorem c_here1 {a : Nat} (ha : a ≤ n) (hT : MT t L n) (h2 : t 132 10 = a) : Ex G mX6_here [RR 132] t (Ret (hzL L n (sk L n a)) (wr t 132 10 (sk L n a : Int))) := c_here (n - a) a t (by omega) hT h2
theorem c_must0 {v : Int} (hv : In32 v) (h : t 132 11 = 0) : Ex G mX6_must [RR 132, II v] t (Ret 0 (wr t 132 11 (if v = 0 then 1 else 0))) := by
  refine eX6_must (sgX6_must_0 ?_)
  rw [h]
  exact ⟨iL rfl, nb_f rfl ⟨hv, fun u hu => ⟨rfl, hu⟩⟩⟩
theorem c_must1 {v : Int} (h : t 132 11 = 1) : Ex G mX6_must [RR 132, II v] t (Ret 0 (wr t 132 11 1)) := by
  refine eX6_must (sgX6_must_0 ?_)
  rw [h]
  exact ⟨iL rfl, nb_t (by decide) (fun u hu => ⟨rfl, hu⟩)⟩
theorem c_takes0 {a : Nat} {c : Int} (hc : 1 ≤ c ∧ c ≤ 126) (ha : a ≤ n) (hT : MT t L n) (h2 : t 132 10 = a) (h : t 132 11 = 0) : Ex G mX6_takes [RR 132, II c] t (Ret 0 (PF t (if hdL L n (sk L n a) = c then sk L n a + 1 else sk L n a) (if hdL L n (sk L n a) = c then 0 else 1))) := by
  have hz := (hz_in (b := sk L n a) hT).2
  refine eX6_takes (sgX6_takes_0 (ck (c_here1 ha hT h2) ⟨i32 (by omega) (by omega), i32 (by omega) (by omega), ckv (c_must0 (by split <;> exact iL rfl) (by rw [wr_sn (by decide)]; exact h)) ?_⟩))
  by_cases q : hdL L n (sk L n a) = c
  · rw [if_pos q, if_pos q, if_pos ((hz_eq hc.1).mpr q), if_neg (by decide), wr_ss]
    refine ⟨iL rfl, fun u hu => ⟨rfl, PF_eq (fun x hx => ?_) (fun j a b => ?_) ?_ ?_⟩⟩
    · rw [hu, wr_n hx, wr_n hx, wr_n hx]
    · rw [hu, wr_sn a, wr_sn b, wr_sn a]
    · rw [hu, wr_ss, wr_sn (by decide), wr_ss]; simp
    · rw [hu, wr_sn (by decide), wr_ss]
  · rw [if_neg q, if_neg q, if_neg (fun z => q ((hz_eq hc.1).mp z)), if_pos rfl, wr_ss]
    refine ⟨iL rfl, fun u hu => ⟨rfl, PF_eq (fun x hx => ?_) (fun j a b => ?_) ?_ ?_⟩⟩
    · rw [hu, wr_n hx, wr_n hx, wr_n hx]
    · rw [hu, wr_sn a, wr_sn b, wr_sn a]
    · rw [hu, wr_ss, wr_sn (by decide), wr_ss]; simp
    · rw [hu, wr_sn (by decide), wr_ss]
theorem c_takes1 {a : Nat} {c : Int} (hc : 1 ≤ c ∧ c ≤ 126) (ha : a ≤ n) (hT : MT t L n) (h2 : t 132 10 = a) (h : t 132 11 = 1) : Ex G mX6_takes [RR 132, II c] t (Ret 0 (PF t (sk L n a) 1)) := by
  have hz := (hz_in (b := sk L n a) hT).2
  refine eX6_takes (sgX6_takes_0 (ck (c_here1 ha hT h2) ⟨i32 (by omega) (by omega), i32 (by omega) (by omega), ckv (c_must1 (by rw [wr_sn (by decide)]; exact h)) ?_⟩))
  rw [wr_ss]
  refine ⟨iL rfl, fun u hu => ⟨rfl, PF_eq (fun x hx => ?_) (fun j a b => ?_) ?_ ?_⟩⟩
  · rw [hu, wr_n hx, wr_n hx, wr_n hx]
  · rw [hu, wr_sn a, wr_sn b, wr_sn a]
  · rw [hu, wr_ss, wr_sn (by decide), wr_ss]; simp
  · rw [hu, wr_sn (by decide), wr_ss]
theorem c_isDigit {v : Int} (hv : In32 v) : Ex G mX6_isDigit [II v] t (Ret (if 48 ≤ v ∧ v ≤ 57 then 1 else 0) t) := by
  refine eX6_isDigit (sgX6_isDigit_0 ⟨hv, ck (c_in (j32 hv) (jL rfl) (jL rfl)) ⟨?_, rfl, rfl⟩⟩)
  split
  · exact Or.inr rfl
  · exact Or.inl rfl
theorem c_number1 {a : Nat} {k : Int} (ha : a ≤ n) (hT : MT t L n) (h2 : t 132 10 = a) (h : t 132 11 = 1) : Ex G mX6_number [RR 132, II k] t (fun _ u => u = PF t (sk L n a) 1) := by
  have hz := (hz_in (b := sk L n a) hT).2
  refine eX6_number (sgX6_number_0 (ck (c_here1 ha hT h2) (ck (c_isDigit (i32 (by omega) (by omega))) (ckv (c_must1 (by rw [wr_sn (by decide)]; exact h)) ?_))))
  rw [wr_ss]
  exact ⟨iL rfl, br_f (by decide) rfl⟩
theorem c_number0 {a : Nat} {k : Int} (hk : In32 k) (ha : a ≤ n) (hT : MT t L n) (h2 : t 132 10 = a) (h : t 132 11 = 0) : Ex G mX6_number [RR 132, II k] t (fun r u => (nmO L n k (sk L n a) ∧ r = (nmR L n (sk L n a)).1 ∧ u = PF t (nmR L n (sk L n a)).2 0) ∨ (¬ nmO L n k (sk L n a) ∧ u = PF t (sk L n a) 1)) := by
  have hz := (hz_in (b := sk L n a) hT).2
  have h60 := hT.2.1
  refine eX6_number (sgX6_number_0 (ck (c_here1 ha hT h2) (ck (c_isDigit (i32 (by omega) (by omega))) (ckv (c_must0 (by split <;> exact iL rfl) (by rw [wr_sn (by decide)]; exact h)) ?_))))
  rw [wr_ss]
  by_cases c : 48 ≤ hdL L n (sk L n a) ∧ hdL L n (sk L n a) ≤ 57
  · rw [if_pos ((hz_rg (by decide)).mpr c), if_neg (by decide)]
    have hb : sk L n a < n := hd_lt (L := L) (by omega)
    have eb := hd_e (L := L) hb
    rw [eb] at c
    have lb := hT.2.2 _ hb
    rw [wr_sn (j := 11) (y := 10) (by decide), wr_ss]
    refine ⟨iL rfl, br_t rfl ⟨by omega, fun u18 e18 => ?_⟩⟩
    have p18 : u18 132 10 = ((sk L n a + 1 : Nat) : Int) := by rw [e18, wr_ss]; omega
    have l18 : u18 132 9 = n := by rw [e18, wr_sn (by decide), wr_sn (by decide), wr_sn (by decide)]; exact hT.1
    have f18 : u18 132 11 = 0 := by rw [e18, wr_sn (by decide), wr_ss]
    have o18 : (∀ x, x ≠ 132 → u18 x = t x) ∧ ∀ j, j ≠ 10 → j ≠ 11 → u18 132 j = t 132 j := ⟨fun x hx => by rw [e18, wr_n hx, wr_n hx, wr_n hx], fun j a b => by rw [e18, wr_sn a, wr_sn b, wr_sn a]⟩
    rw [p18, l18, Int.toNat_natCast, Int.toNat_natCast, wr_n (by decide : (138 : Nat) ≠ 132), wr_n (by decide : (138 : Nat) ≠ 132), lb.1]
    refine ⟨i32 (by omega) (by omega), i32 (by omega) (by omega), ?_⟩
    have bad : ∀ (u w : Mem), (∀ x, x ≠ 132 → u x = t x) → (∀ j, j ≠ 10 → j ≠ 11 → u 132 j = t 132 j) → ∀ w24 : Mem, w24 = wr u 132 10 (sk L n a : Int) → w = wr w24 132 11 1 → w = PF t (sk L n a) 1 := fun u w h1 h2 w24 e24 ew => PF_eq (fun x hx => by rw [ew, wr_n hx, e24, wr_n hx, h1 x hx]) (fun j a b => by rw [ew, wr_sn b, e24, wr_sn a, h2 j a b]) (by rw [ew, wr_sn (by decide), e24, wr_ss]) (by rw [ew, wr_ss])
    have one : ¬ (sk L n a + 1 < n ∧ 48 ≤ L (sk L n a + 1) ∧ L (sk L n a + 1) ≤ 57) → In32 (L (sk L n a) - 48) ∧ In32 k ∧ (L (sk L n a) - 48 ≤ k → (nmO L n k (sk L n a) ∧ L (sk L n a) - 48 = (nmR L n (sk L n a)).1 ∧ u18 = PF t (nmR L n (sk L n a)).2 0) ∨ (¬ nmO L n k (sk L n a) ∧ u18 = PF t (sk L n a) 1)) ∧ (¬ L (sk L n a) - 48 ≤ k → ∀ w24 : Mem, w24 = wr u18 132 10 (sk L n a : Int) → ∀ w : Mem, w = wr w24 132 11 1 → (nmO L n k (sk L n a) ∧ L (sk L n a) - 48 = (nmR L n (sk L n a)).1 ∧ w = PF t (nmR L n (sk L n a)).2 0) ∨ (¬ nmO L n k (sk L n a) ∧ w = PF t (sk L n a) 1)) := by
      intro hno
      have er : nmR L n (sk L n a) = (L (sk L n a) - 48, sk L n a + 1) := if_neg hno
      exact ⟨i32 (by omega) (by omega), hk, fun q => Or.inl ⟨⟨by rw [eb]; exact c, by rw [er]; exact q⟩, by rw [er], by rw [er]; exact PF_eq o18.1 o18.2 p18 f18⟩, fun q w24 e24 w ew => Or.inr ⟨fun z => q (by have := z.2; rw [er] at this; exact this), bad u18 w o18.1 o18.2 w24 e24 ew⟩⟩
    by_cases d : (n : Int) ≤ ((sk L n a + 1 : Nat) : Int)
    · exact br_t d (one (by omega))
    · have lc := hT.2.2 (sk L n a + 1) (by omega)
      have m18 : u18 138 (sk L n a + 1) = L (sk L n a + 1) := by rw [o18.1 138 (by decide)]; exact lc.1
      refine br_f d ⟨by omega, ?_⟩
      rw [m18]
      refine ck (c_isDigit (i32 (by omega) (by omega))) ?_
      by_cases e : 48 ≤ L (sk L n a + 1) ∧ L (sk L n a + 1) ≤ 57
      · rw [if_pos e]
        have er : nmR L n (sk L n a) = (10 * (L (sk L n a) - 48) + L (sk L n a + 1) - 48, sk L n a + 2) := if_pos ⟨by omega, e⟩
        refine ⟨iL rfl, br_f (by decide) ?_⟩
        rw [p18, Int.toNat_natCast, m18]
        refine ⟨by omega, fun u42 e42 => ?_⟩
        have o42 : (∀ x, x ≠ 132 → u42 x = t x) ∧ ∀ j, j ≠ 10 → j ≠ 11 → u42 132 j = t 132 j := ⟨fun x hx => by rw [e42, wr_n hx, o18.1 x hx], fun j a b => by rw [e42, wr_sn a, o18.2 j a b]⟩
        refine ⟨i32 (by omega) (by omega), hk, fun q => Or.inl ⟨⟨by rw [eb]; exact c, by rw [er]; exact q⟩, by rw [er], ?_⟩, fun q w24 e24 w ew => Or.inr ⟨fun z => q (by have := z.2; rw [er] at this; exact this), bad u42 w o42.1 o42.2 w24 e24 ew⟩⟩
        rw [er]
        exact PF_eq o42.1 o42.2 (by rw [e42, wr_ss]; show ((sk L n a + 1 : Nat) : Int) + 1 = ((sk L n a + 2 : Nat) : Int); omega) (by rw [e42, wr_sn (by decide)]; exact f18)
      · rw [if_neg e]
        exact ⟨iL rfl, br_t rfl (one (fun q => e q.2))⟩
  · rw [if_neg (fun q => c ((hz_rg (by decide)).mp q)), if_pos rfl]
    refine ⟨iL rfl, br_f (by decide) (Or.inr ⟨fun q => c q.1, rfl⟩)⟩
/-- a beast, when all was well so far -/
theorem c_readBeast1 {a : Nat} {v : Int} (ha : a ≤ n) (hT : MT t L n) (h2 : t 132 10 = a) (h : t 132 11 = 1) : Ex G mX6_readBeast [RR 132, II v] t (fun _ u => u = PF t (sk L n a) 1) := by
  have hz := (hz_in (b := sk L n a) hT).2
  refine eX6_readBeast (sgX6_readBeast_0 (ck (c_here1 ha hT h2) ⟨i32 (by omega) (by omega), ?_⟩))
  have go : ∀ w0 : Int, In32 w0 → V G mX6_readBeast 46 [(0, RR 132), (1, II v), (2, II (hzL L n (sk L n a)))] [II w0] (wr t 132 10 (sk L n a : Int)) (fun _ u => u = PF t (sk L n a) 1) := by
    intro w0 hw
    refine sgX6_readBeast_46 ⟨hw, ckv (c_must1 (by rw [wr_sn (by decide)]; exact h)) ?_⟩
    rw [wr_ss]
    refine ⟨iL rfl, nb_t (by decide) (sgX6_readBeast_95 ?_)⟩
    rw [wr_ss]
    exact ⟨iL rfl, nb_t (by decide) rfl⟩
  exact ⟨fun _ => ⟨fun _ => ⟨fun _ => ⟨fun _ => go _ (iL rfl), fun _ => go _ (iL rfl)⟩, fun _ => go _ (iL rfl)⟩, fun _ => go _ (iL rfl)⟩, fun _ => go _ (iL rfl)⟩
theorem c_readBeast0 {a k : Nat} (hk7 : k < 7) (ha : a ≤ n) (hT : MT t L n) (h2 : t 132 10 = a) (h : t 132 11 = 0) : Ex G mX6_readBeast [RR 132, II (k : Int)] t (fun _ u => (¬ bOk L n a ∧ u = PF t (bNo L n a) 1) ∨ (bOk L n a ∧ u = PF (row t 139 (up (up (up (t 139) (3 * k) (bKd L n a)) (3 * k + 1) (bDy L n a)) (3 * k + 2) (bHd L n a))) (bEn L n a) 0)) := by
  have hz := (hz_in (b := sk L n a) hT).2
  have h60 := hT.2.1
  refine eX6_readBeast (sgX6_readBeast_0 (ck (c_here1 ha hT h2) ⟨i32 (by omega) (by omega), ?_⟩))
  have no : kdL (hdL L n (sk L n a)) = -4 → V G mX6_readBeast 46 [(0, RR 132), (1, II (k : Int)), (2, II (hzL L n (sk L n a)))] [II (-1)] (wr t 132 10 (sk L n a : Int)) (fun _ u => (¬ bOk L n a ∧ u = PF t (bNo L n a) 1) ∨ (bOk L n a ∧ u = PF (row t 139 (up (up (up (t 139) (3 * k) (bKd L n a)) (3 * k + 1) (bDy L n a)) (3 * k + 2) (bHd L n a))) (bEn L n a) 0)) := by
    intro q
    refine sgX6_readBeast_46 ⟨iL rfl, ckv (c_must0 (by split <;> exact iL rfl) (by rw [wr_sn (by decide)]; exact h)) ?_⟩
    rw [if_pos (by decide), wr_ss]
    refine ⟨iL rfl, nb_t (by decide) (sgX6_readBeast_95 ?_)⟩
    rw [wr_ss]
    refine ⟨iL rfl, nb_t (by decide) (Or.inl ⟨fun z => z.1 q, ?_⟩)⟩
    unfold bNo; rw [if_pos q]; rfl
  have yes : ¬ kdL (hdL L n (sk L n a)) = -4 → V G mX6_readBeast 46 [(0, RR 132), (1, II (k : Int)), (2, II (hzL L n (sk L n a)))] [II (kdL (hdL L n (sk L n a)))] (wr t 132 10 (sk L n a : Int)) (fun _ u => (¬ bOk L n a ∧ u = PF t (bNo L n a) 1) ∨ (bOk L n a ∧ u = PF (row t 139 (up (up (up (t 139) (3 * k) (bKd L n a)) (3 * k + 1) (bDy L n a)) (3 * k + 2) (bHd L n a))) (bEn L n a) 0)) := by
    intro q
    have kg := kdL_ge q
    have ki := kdL_in (hdL L n (sk L n a))
    have hb := hd_lt kg.2
    refine sgX6_readBeast_46 ⟨i32 (by omega) (by omega), ckv (c_must0 (by split <;> exact iL rfl) (by rw [wr_sn (by decide)]; exact h)) ?_⟩
    rw [if_neg (show ¬ kdL (hdL L n (sk L n a)) < 0 by omega), if_neg (by decide), wr_ss]
    refine ⟨iL rfl, nb_f rfl (fun u13 e13 => ?_)⟩
    rw [wr_sn (j := 11) (y := 10) (by decide), wr_ss] at e13
    have M13 : MT u13 L n := hT.kept (by rw [e13, wr_sn (by decide), wr_sn (by decide), wr_sn (by decide)]) (by rw [e13, wr_n (by decide), wr_n (by decide), wr_n (by decide)])
    have o13 : (∀ x, x ≠ 132 → u13 x = t x) ∧ (∀ j, j ≠ 10 → j ≠ 11 → u13 132 j = t 132 j) ∧ u13 132 11 = 0 := ⟨fun x hx => by rw [e13, wr_n hx, wr_n hx, wr_n hx], fun j a b => by rw [e13, wr_sn a, wr_sn b, wr_sn a], by rw [e13, wr_sn (by decide), wr_ss]⟩
    refine ck (c_here1 (a := sk L n a + 1) (by omega) M13 (by rw [e13, wr_ss]; omega)) ?_
    change In32 (hzL L n (b2L L n a)) ∧ ∃ P21 : Int → Mem → Prop, Ex G mX6_in [JJ (hzL L n (b2L L n a)), JJ 49, JJ 57] (wr u13 132 10 (b2L L n a : Int)) P21 ∧ _
    have hz2 := (hz_in (b := b2L L n a) hT).2
    refine ⟨i32 (by omega) (by omega), ck (c_in (j32 (i32 (by omega) (by omega))) (jL rfl) (jL rfl)) (ckv (c_must0 (by split <;> exact iL rfl) (by rw [wr_sn (by decide)]; exact o13.2.2)) (sgX6_readBeast_95 ?_))⟩
    by_cases d : 49 ≤ hdL L n (b2L L n a) ∧ hdL L n (b2L L n a) ≤ 57
    · have ok : bOk L n a := ⟨q, d⟩
      have le := bOk_le ha ok
      have l2 := hT.2.2 _ le.2.1
      have eD : L (b2L L n a) - 48 = bDy L n a := by unfold bDy; rw [hd_e le.2.1]
      rw [if_pos ((hz_rg (by decide)).mpr d), if_neg (by decide), wr_ss]
      refine ⟨iL rfl, nb_f rfl ⟨by omega, fun u2 e2 => ?_⟩⟩
      rw [show (3 * (k : Int)).toNat = 3 * k by omega] at e2
      have p2 : u2 132 10 = (b2L L n a : Int) := by rw [e2, wr_n (by decide), wr_sn (by decide), wr_ss]
      have o2 : (∀ x, x ≠ 132 → x ≠ 139 → u2 x = t x) ∧ (∀ j, j ≠ 10 → j ≠ 11 → u2 132 j = t 132 j) ∧ u2 132 11 = 0 ∧ u2 139 = up (t 139) (3 * k) (bKd L n a) := ⟨fun x a b => by rw [e2, wr_n b, wr_n a, wr_n a, o13.1 x a], fun j a b => by rw [e2, wr_n (by decide), wr_sn b, wr_sn a, o13.2.1 j a b], by rw [e2, wr_n (by decide), wr_ss], by rw [e2, wr_s, wr_n (by decide), wr_n (by decide), o13.1 139 (by decide)]; rfl⟩
      have m2 : u2 138 (b2L L n a) = L (b2L L n a) := by rw [o2.1 138 (by decide) (by decide)]; exact l2.1
      rw [p2, Int.toNat_natCast, m2]
      refine ⟨by omega, by omega, fun u6 e6 u9 e9 => ?_⟩
      rw [show (3 * (k : Int) + 1).toNat = 3 * k + 1 by omega, eD] at e6
      have p6 : u6 132 10 = (b2L L n a : Int) := by rw [e6, wr_n (by decide)]; exact p2
      rw [p6] at e9
      have M9 : MT u9 L n := hT.kept (by rw [e9, wr_sn (by decide), e6, wr_n (by decide), o2.2.1 9 (by decide) (by decide)]) (by rw [e9, wr_n (by decide), e6, wr_n (by decide), o2.1 138 (by decide) (by decide)])
      refine ck (c_here1 (a := b2L L n a + 1) (by omega) M9 (by rw [e9, wr_ss]; omega)) ?_
      change In32 (hzL L n (b3L L n a)) ∧ _ ∧ ∀ u22 : Mem, u22 = wr (wr u9 132 10 (b3L L n a : Int)) 139 _ (if hzL L n (b3L L n a) = 98 then 1 else 0) → _
      have hz3 := (hz_in (b := b3L L n a) hT).2
      have eh : (if hzL L n (b3L L n a) = 98 then (1 : Int) else 0) = bHd L n a := by
        unfold bHd
        by_cases z : hdL L n (b3L L n a) = 98
        · rw [if_pos z, if_pos ((hz_eq (by decide)).mpr z)]
        · rw [if_neg z, if_neg (fun y => z ((hz_eq (by decide)).mp y))]
      rw [eh]
      refine ⟨i32 (by omega) (by omega), by omega, fun u22 e22 u25 e25 => ?_⟩
      rw [show (3 * (k : Int) + 2).toNat = 3 * k + 2 by omega] at e22
      rw [show (3 * (k : Int) + 2).toNat = 3 * k + 2 by omega] at e25
      have v22 : u22 139 (3 * k + 2) = bHd L n a := by rw [e22, wr_ss]
      have w22 : u22 132 10 = (b3L L n a : Int) := by rw [e22, wr_n (by decide), wr_ss]
      rw [v22, w22] at e25
      refine Or.inr ⟨ok, PF_eq (fun x hx => ?_) (fun j a b => ?_) ?_ ?_⟩
      · rw [e25, wr_n hx]
        by_cases z : x = 139
        · rw [z, row_s, e22, wr_s, wr_n (by decide), e9, wr_n (by decide), e6, wr_s, o2.2.2.2]
        · rw [row_n z, e22, wr_n z, wr_n hx, e9, wr_n hx, e6, wr_n z, o2.1 x hx z]
      · rw [e25, wr_sn a, e22, wr_n (by decide), wr_sn a, e9, wr_sn a, e6, wr_n (by decide), o2.2.1 j a b, row_n (by decide)]
      · rw [e25, wr_ss]
        unfold bEn bHd
        split
        · simp
        · simp
      · rw [e25, wr_sn (by decide), e22, wr_n (by decide), wr_sn (by decide), e9, wr_sn (by decide), e6, wr_n (by decide)]; exact o2.2.2.1
    · rw [if_neg (fun z => d ((hz_rg (by decide)).mp z)), if_pos rfl, wr_ss]
      refine ⟨iL rfl, nb_t (by decide) (Or.inl ⟨fun z => d z.2, ?_⟩)⟩
      have en : bNo L n a = b2L L n a := by unfold bNo; rw [if_neg q]
      rw [en]
      exact PF_eq (fun x hx => by rw [wr_n hx, wr_n hx, o13.1 x hx]) (fun j a b => by rw [wr_sn b, wr_sn a, o13.2.1 j a b]) (by rw [wr_sn (by decide), wr_ss]) (by rw [wr_ss])
  have hx : ∀ c : Int, 1 ≤ c → (hzL L n (sk L n a) = c ↔ hdL L n (sk L n a) = c) := fun c h => hz_eq h
  refine ⟨fun a1 => ⟨fun a2 => ⟨fun a3 => ⟨fun a4 => ?_, fun a4 => ?_⟩, fun a3 => ?_⟩, fun a2 => ?_⟩, fun a1 => ?_⟩
  · refine no ?_
    unfold kdL
    rw [if_neg (fun z => a1 ((hx _ (by decide)).mpr z)), if_neg (fun z => a2 ((hx _ (by decide)).mpr z)), if_neg (fun z => a3 ((hx _ (by decide)).mpr z)), if_neg (fun z => a4 ((hx _ (by decide)).mpr z))]
  · have e := (hx _ (by decide)).mp a4
    have := yes (by rw [e]; decide)
    rw [show kdL (hdL L n (sk L n a)) = 3 by rw [e]; rfl] at this; exact this
  · have e := (hx _ (by decide)).mp a3
    have := yes (by rw [e]; decide)
    rw [show kdL (hdL L n (sk L n a)) = 2 by rw [e]; rfl] at this; exact this
  · have e := (hx _ (by decide)).mp a2
    have := yes (by rw [e]; decide)
    rw [show kdL (hdL L n (sk L n a)) = 1 by rw [e]; rfl] at this; exact this
  · have e := (hx _ (by decide)).mp a1
    have := yes (by rw [e]; decide)
    rw [show kdL (hdL L n (sk L n a)) = 0 by rw [e]; rfl] at this; exact this
end MR
