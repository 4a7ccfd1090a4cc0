/-! class and reference, side by side -/
def isM (j : Nat) : Bool := j == 0 || j == 7 || j == 8 || j == 9 || j == 11 || j == 13 || (decide (14 ≤ j) && decide (j < 63) && decide (3 ≤ (j - 14) % 7))
/-- the row now with what a moment keeps taken from another row -/
def mix (N E : Nat → Int) : Nat → Int := fun j => if isM j then E j else N j
def Eq63 (N M : Nat → Int) : Prop := ∀ j, j < 63 → M j = N j
theorem isM_bt {b w : Nat} (hb : b < 7) (hw : w < 7) : isM (14 + 7 * b + w) = decide (3 ≤ w) := by
  have : ∀ b, b < 7 → ∀ w, w < 7 → isM (14 + 7 * b + w) = decide (3 ≤ w) := by decide +kernel
  exact this b hb w hw
theorem mix_y {N E : Nat → Int} {j : Nat} (h : isM j = true) : mix N E j = E j := by unfold mix; rw [if_pos h]
theorem mix_f {N E : Nat → Int} {j : Nat} (h : isM j = false) : mix N E j = N j := by unfold mix; rw [h]; rfl
theorem mix_hi {b w : Nat} {N E : Nat → Int} (hb : b < 7) (hw : w < 7) (h : 3 ≤ w) : bt (mix N E) b w = bt E b w := mix_y (by rw [isM_bt hb hw]; exact decide_eq_true h)
theorem mix_lo {b w : Nat} {N E : Nat → Int} (hb : b < 7) (h : w < 3) : bt (mix N E) b w = bt N b w := mix_f (by rw [isM_bt hb (by omega)]; exact decide_eq_false (by omega))
theorem mix_ext {N N2 E E2 : Nat → Int} (h1 : ∀ j, isM j = false → N2 j = N j) (h2 : ∀ j, isM j = true → E2 j = E j) : mix N2 E2 = mix N E := by
  funext j
  cases e : isM j
  · rw [mix_f e, mix_f e, h1 j e]
  · rw [mix_y e, mix_y e, h2 j e]
theorem isM_lt {j : Nat} (h : isM j = true) : j < 63 := by
  unfold isM at h
  simp at h
  omega
theorem mix_id {N E : Nat → Int} (h : ∀ j, isM j = true → E j = N j) : mix N E = N := by
  funext j
  cases e : isM j
  · rw [mix_f e]
  · rw [mix_y e, h j e]
theorem mix_up {N E : Nat → Int} {j : Nat} {v : Int} (h : isM j = false) : mix (up N j v) E = up (mix N E) j v := by
  funext i
  by_cases c : i = j
  · subst c; rw [mix_f h, up_s, up_s]
  · rw [up_n c]
    cases e : isM i
    · rw [mix_f e, mix_f e, up_n c]
    · rw [mix_y e, mix_y e]
theorem mix_upM {N E : Nat → Int} {j : Nat} {v : Int} (h : isM j = true) : mix (up N j v) E = mix N E := mix_ext (fun i hi => up_n (fun c => by rw [c, h] at hi; cases hi)) (fun _ _ => rfl)
/-- congruence: only the 63 places count -/
theorem Eq63.bt {N M : Nat → Int} (e : Eq63 N M) {b w : Nat} (hb : b < 7) (hw : w < 7) : bt M b w = bt N b w := e _ (by omega)
theorem Eq63.mk {N M : Nat → Int} (e : Eq63 N M) {b : Nat} (hb : b < 7) : mk5 M b = mk5 N b := by unfold mk5; rw [e.bt hb (by omega)]
theorem Eq63.nd {N M : Nat → Int} (e : Eq63 N M) {b : Nat} (hb : b < 7) : need M b = need N b := by unfold need; rw [e.bt hb (by omega), e.bt hb (by omega), e.mk hb]
theorem Eq63.inv {m : Int} {N M : Nat → Int} (e : Eq63 N M) (h : Inv m N) : Inv m M := by
  obtain ⟨h0, h1, h2, h3, h4⟩ := h
  refine ⟨h0, ?_, fun b hb => ?_, fun b hb hn => ?_, fun b hb hn => ?_⟩
  · unfold InH at h1 ⊢
    rw [e 0 (by omega), e 1 (by omega), e 2 (by omega), e 3 (by omega), e 4 (by omega), e 5 (by omega), e 6 (by omega), e 7 (by omega), e 8 (by omega), e 9 (by omega), e 10 (by omega), e 11 (by omega), e 12 (by omega), e 13 (by omega)]
    exact h1
  · have := h2 b hb
    unfold InB at this ⊢
    rw [e.nd hb, e.bt hb (by omega), e.bt hb (by omega), e.bt hb (by omega), e.bt hb (by omega), e.bt hb (by omega), e.bt hb (by omega), e.bt hb (by omega)]
    exact this
  · rw [e 12 (by omega)] at hn
    rw [e.bt hb (by omega), e.bt hb (by omega), e.bt hb (by omega), e.bt hb (by omega)]
    exact h3 b hb hn
  · rw [e 12 (by omega)] at hn
    rw [e.bt hb (by omega)]; exact h4 b hb hn
theorem Eq63.camp {t : Mem} {c : Nat} {N M : Nat → Int} (e : Eq63 N M) (h : CampR t c N) : CampR t c M := by
  unfold CampR at h ⊢
  rw [e 1 (by omega), e 2 (by omega), e 3 (by omega), e 4 (by omega), e 5 (by omega), e 6 (by omega), e 10 (by omega), e 12 (by omega)]
  refine ⟨h.1, fun b hb hn => ?_⟩
  rw [e.bt hb (by omega), e.bt hb (by omega), e.bt hb (by omega), e.mk hb]
  exact h.2 b hb hn
theorem Eq63.mom {t : Mem} {a : Nat} {N M : Nat → Int} (e : Eq63 N M) (h : MomR t a N) : MomR t a M := by
  unfold MomR MomG at h ⊢
  rw [e 0 (by omega), e 7 (by omega), e 8 (by omega), e 9 (by omega), e 11 (by omega), e 13 (by omega)]
  refine ⟨h.1, fun b hb => ?_⟩
  rw [e.bt hb (by omega), e.bt hb (by omega), e.bt hb (by omega), e.bt hb (by omega)]
  exact h.2 b hb
theorem Eq63.mix {N M E F : Nat → Int} (e : Eq63 N M) (f : Eq63 E F) : Eq63 (mix N E) (mix M F) := fun j hj => by
  cases h : isM j
  · rw [mix_f h, mix_f h, e j hj]
  · rw [mix_y h, mix_y h, f j hj]
theorem Eq63.same {N M : Nat → Int} (e : Eq63 N M) : Same N M := ⟨(e 6 (by omega)).symm, (e 12 (by omega)).symm, fun b hb => ⟨(e.bt hb (by omega)).symm, (e.bt hb (by omega)).symm, (e.bt hb (by omega)).symm⟩⟩
/-- entry i of the reference's undone rows -/
def enU (U : Nat → Int) (i : Nat) : Nat → Int := fun j => U (63 * i + j)
def slot (nx k i : Nat) : Nat := (nx + 8 - k + i) % 8
def PastR (t : Mem) (p : Nat) (N U : Nat → Int) (kn : Int) : Prop := ∃ nx k : Nat, (nx < 8 ∧ k ≤ 8 ∧ t p 1 = nx ∧ t p 2 = k ∧ kn = k) ∧ ∀ i, i < k → MomR t (p + 2 + 5 * slot nx k i) (mix N (enU U i)) ∧ Inv (enU U i 11) (mix N (enU U i)) ∧ enU U i 11 ≤ 9999
def ImgR (t : Mem) : Prop := (t 0 3 = 0 ∧ t 132 15 = 0) ∨ (t 0 3 = 1 ∧ t 132 15 = 1 ∧ (Inv (t 140 11) (t 140) ∧ t 140 11 ≤ 9999) ∧ CampR t 54 (t 140) ∧ MomR t 60 (t 140) ∧ PastR t 65 (t 140) (fun j => t 140 (63 + j)) (t 132 14))
def TapeR (t : Mem) : Prop := ∃ n : Nat, n ≤ 60 ∧ t 121 1 = n ∧ t 132 9 = n ∧ ∀ i, i < n → t 122 i = t 138 i ∧ 32 ≤ t 138 i ∧ t 138 i ≤ 126
def SheetR (t : Mem) (k : Nat) : Prop := t (124 + 2 * k) 0 = t 141 k ∧ (-1 ≤ t 141 k ∧ t 141 k ≤ 3) ∧ (0 ≤ t 141 k → t (124 + 2 * k) 1 = t 142 k ∧ (0 ≤ t 142 k ∧ t 142 k ≤ 24) ∧ ∀ i, i < 24 → t (125 + 2 * k) i = t 143 (24 * k + i) ∧ In64 (t 143 (24 * k + i)))
def Rel (t : Mem) : Prop := Inv (t 133 11) (t 133) ∧ t 133 11 ≤ 9999 ∧ OrdI t ∧ CampR t 1 (t 133) ∧ MomR t 7 (t 133) ∧ PastR t 12 (t 133) (t 135) (t 132 5) ∧ ImgR t ∧ TapeR t ∧ ∀ k, k < 4 → SheetR t k
theorem Rel.inv {t : Mem} (h : Rel t) : Inv (t 133 11) (t 133) := h.1
theorem Rel.mn {t : Mem} (h : Rel t) : t 133 11 ≤ 9999 := h.2.1
theorem Rel.ord {t : Mem} (h : Rel t) : OrdI t := h.2.2.1
theorem Rel.camp {t : Mem} (h : Rel t) : CampR t 1 (t 133) := h.2.2.2.1
theorem Rel.mom {t : Mem} (h : Rel t) : MomR t 7 (t 133) := h.2.2.2.2.1
theorem Rel.past {t : Mem} (h : Rel t) : PastR t 12 (t 133) (t 135) (t 132 5) := h.2.2.2.2.2.1
theorem Rel.img {t : Mem} (h : Rel t) : ImgR t := h.2.2.2.2.2.2.1
theorem Rel.tape {t : Mem} (h : Rel t) : TapeR t := h.2.2.2.2.2.2.2.1
theorem Rel.sheets {t : Mem} (h : Rel t) : ∀ k, k < 4 → SheetR t k := h.2.2.2.2.2.2.2.2
theorem PastR.kept {t u : Mem} {p : Nat} {N U : Nat → Int} {kn : Int} (h : PastR t p N U kn) (hp : u p = t p) (hq : ∀ x, p + 2 ≤ x → x ≤ p + 41 → u x = t x) : PastR u p N U kn := by
  obtain ⟨nx, k, h1, h2⟩ := h
  refine ⟨nx, k, by rw [hp]; exact h1, fun i hi => ⟨?_, (h2 i hi).2⟩⟩
  have := (h2 i hi).1
  have hs : slot nx k i < 8 := Nat.mod_lt _ (by decide)
  exact MomG.kept this (fun x a b => hq x (by omega) (by omega))
theorem ImgR.kept {t u : Mem} (h : ImgR t) (h0 : u 0 3 = t 0 3) (h15 : u 132 15 = t 132 15) (h14 : u 132 14 = t 132 14) (h140 : u 140 = t 140) (hq : ∀ x, 54 ≤ x → x ≤ 106 → u x = t x) : ImgR u := by
  unfold ImgR at h ⊢
  rw [h0, h15, h14, h140]
  rcases h with h | ⟨a, b, c, d, e, f⟩
  · exact Or.inl h
  · exact Or.inr ⟨a, b, c, d.kept (fun x _ _ => hq x (by omega) (by omega)), MomG.kept e (fun x _ _ => hq x (by omega) (by omega)), f.kept (hq 65 (by omega) (by omega)) (fun x _ _ => hq x (by omega) (by omega))⟩
theorem TapeR.kept {t u : Mem} (h : TapeR t) (h1 : u 121 1 = t 121 1) (h2 : u 122 = t 122) (h3 : u 132 9 = t 132 9) (h4 : u 138 = t 138) : TapeR u := by
  unfold TapeR at h ⊢
  rw [h1, h2, h3, h4]; exact h
theorem SheetR.kept {t u : Mem} {k : Nat} (h : SheetR t k) (h1 : u (124 + 2 * k) = t (124 + 2 * k)) (h2 : u (125 + 2 * k) = t (125 + 2 * k)) (h3 : u 141 = t 141) (h4 : u 142 = t 142) (h5 : u 143 = t 143) : SheetR u k := by
  unfold SheetR at h ⊢
  rw [h1, h2, h3, h4, h5]; exact h
/-- what the class looks up, then the reference -/
theorem Rel.lookX {t u : Mem} (h : Rel t) (f : FrX t u) : Rel u := by
  obtain ⟨h1, h2, h3, h4, h5, h6, h7, h8, h9⟩ := h
  have e133 : u 133 = t 133 := f 133 (by omega)
  have e132 : u 132 = t 132 := f 132 (by omega)
  have e134 : u 134 = t 134 := f 134 (by omega)
  have e135 : u 135 = t 135 := f 135 (by omega)
  refine ⟨by rw [e133]; exact h1, by rw [e133]; exact h2, ?_, by rw [e133]; exact h4.kept (fun x _ _ => f x (by omega)), by rw [e133]; exact MomG.kept h5 (fun x _ _ => f x (by omega)), by rw [e133, e135, e132]; exact h6.kept (f 12 (by omega)) (fun x _ _ => f x (by omega)), h7.kept (by rw [f 0 (by omega)]) (by rw [e132]) (by rw [e132]) (f 140 (by omega)) (fun x _ _ => f x (by omega)), h8.kept (by rw [f 121 (by omega)]) (f 122 (by omega)) (by rw [e132]) (f 138 (by omega)), fun k hk => (h9 k hk).kept (f _ (by omega)) (f _ (by omega)) (f 141 (by omega)) (f 142 (by omega)) (f 143 (by omega))⟩
  unfold OrdI OrdR at h3 ⊢
  rw [e132, e133, e134]; exact h3
theorem Rel.lookM {t u : Mem} (h : Rel t) (f : Bk t u) : Rel u := by
  obtain ⟨h1, h2, h3, h4, h5, h6, h7, h8, h9⟩ := h
  obtain ⟨e133, o, f1, f2⟩ := f
  have g : ∀ x, x < 132 ∨ x = 135 ∨ 137 < x → u x = t x := fun x hx => f2 x (by omega) (by omega) (by omega) (by omega) (by omega)
  exact ⟨by rw [e133]; exact h1, by rw [e133]; exact h2, o, by rw [e133]; exact h4.kept (fun x _ _ => g x (by omega)), by rw [e133]; exact MomG.kept h5 (fun x _ _ => g x (by omega)), by rw [e133, g 135 (by omega), f1 5 (by omega)]; exact h6.kept (g 12 (by omega)) (fun x _ _ => g x (by omega)), h7.kept (by rw [g 0 (by omega)]) (f1 15 (by omega)) (f1 14 (by omega)) (g 140 (by omega)) (fun x _ _ => g x (by omega)), h8.kept (by rw [g 121 (by omega)]) (g 122 (by omega)) (f1 9 (by omega)) (g 138 (by omega)), fun k hk => (h9 k hk).kept (g _ (by omega)) (g _ (by omega)) (g 141 (by omega)) (g 142 (by omega)) (g 143 (by omega))⟩
/-- a step of the law: the class answers, then the reference answers the same -/
def Step (G : GG) (mx : MI) (ax : List VV) (mr : MI) (ar : List VV) (t : Mem) : Prop := ∃ (v : Int) (P : Mem → Prop), In32 v ∧ Ex G mx ax t (fun r u => r = v ∧ P u) ∧ ∀ u, P u → Ex G mr ar u (fun r w => r = v ∧ Rel w)
