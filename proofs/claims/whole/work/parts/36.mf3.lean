/-! the reference: answers of what is foretold -/
def Bk (t u : Mem) : Prop := u 133 = t 133 ∧ OrdI u ∧ FrM t u
theorem FtM.bk {t u : Mem} (h : FtM t u (t 133) (t 133)) : Bk t u := ⟨h.1, h.2.2.2.2.1, h.2.2.2.2.2⟩
theorem Bk.rf {t : Mem} (h : OrdI t) : Bk t t := ⟨rfl, h, FrM.rf t⟩
theorem Bk.tr {t u w : Mem} (h : Bk t u) (g : Bk u w) : Bk t w := ⟨by rw [g.1, h.1], g.2.1, h.2.2.tr g.2.2⟩
theorem FtM.lo {t0 u : Mem} {N M : Nat → Int} {j : Nat} {v : Int} (h : FtM t0 u N M) (hj : j = 5 ∨ j = 6 ∨ j = 10) : FtM t0 (wr u 133 j v) N (up M j v) := by
  obtain ⟨h1, h2, h3, ⟨h4, h5⟩, h6, h7⟩ := h
  have sm : SmB M (up M j v) := ⟨by rw [up_n (by omega)], fun b _ => by rw [bt_up_lo (by omega), bt_up_lo (by omega), bt_up_lo (by omega)]; exact ⟨rfl, rfl, rfl⟩⟩
  refine ⟨by rw [wr_s, h1], fun i hi => by rw [wr_n (by decide)]; exact h2 i hi, fun i hi => by rw [up_n (by omega)]; exact h3 i hi, ⟨⟨by rw [up_n (by omega)]; exact h4.1, fun b hb => by rw [bt_up_lo (by omega), bt_up_lo (by omega), bt_up_lo (by omega)]; exact h4.2 b hb⟩, h5⟩, ?_, fun i hi => by rw [wr_n (by decide)]; exact h7.1 i hi, fun x a b c d f => by rw [wr_n b]; exact h7.2 x a b c d f⟩
  unfold OrdI at h6 ⊢
  rw [wr_n (by decide), wr_s, h1]
  rw [h1] at h6
  refine ⟨h6.1, h6.2.1, fun q => ?_⟩
  have hs := (h6.2.2 q).same (sm.same (u 132 2)) (by rw [up_n (by omega), h4.1]; exact h5)
  intro k hk
  rw [wr_n (by decide)]; exact hs k hk
def watN (N : Nat → Int) (v : Int) : Int := if 0 ≤ v ∧ v ≤ 240 then itN 127 N v.toNat 0 else -1
def donN (N : Nat → Int) (b : Nat) : Int := fst4 (fun n => satB (itN 127 N n) b) 241
def allF (N : Nat → Int) : Int := fst4 (fun n => allB (itN 127 N n)) 241
def dneN (N : Nat → Int) (v : Int) : Int := if 0 ≤ v ∧ v < N 12 then donN N v.toNat else -1
/-- the best of those tried: what it is, and when -/
def bst (f g : Nat → Int) : Nat → Int × Int
  | 0 => (-4, -4)
  | k + 1 => if f k = -4 then bst f g k else if (bst f g k).2 = -4 ∨ f k < (bst f g k).2 then (g k, f k) else bst f g k
def hgF (N : Nat → Int) (h : Nat) : Int := allF (up N 5 (h : Int))
def plP (i : Nat) : Int := if i = 0 then -4 else (i : Int) - 1
def plF (N : Nat → Int) (i : Nat) : Int := allF (up N 10 (plP i))
def plG (i : Nat) : Int := if i = 0 then 7 else (i : Int) - 1
def pck (v : Int) (p : Int × Int) : Int := if v = 0 then p.1 else p.2
def hgtN (N : Nat → Int) (v : Int) : Int := if 0 ≤ v ∧ v ≤ 1 then pck v (bst (hgF N) (fun h => (h : Int)) 61) else -1
def pulN (N : Nat → Int) (v : Int) : Int := if 0 ≤ v ∧ v ≤ 1 then pck v (bst (plF N) plG (nb N + 1)) else -1
/-- what a herd waits, summed over its first k beasts -/
def wtS (N : Nat → Int) (D : Nat → Int) (h : Int) : Nat → Int
  | 0 => 0
  | k + 1 => wtS N D h k + (if bt N k 2 = h ∧ ¬ (k : Int) = N 10 then (if D k = -4 then 240 else D k) else 0)
def wtN (N : Nat → Int) (h l : Int) : Int := wtS N (donN (up N 6 l)) h (nb N)
def waiN (N : Nat → Int) (h l : Int) : Int := if (0 ≤ h ∧ h ≤ 1) ∧ (0 ≤ l ∧ l ≤ 3) then wtN N h l else -1
def scN (N : Nat → Int) (b : Int) (l : Nat) : Int := if b = 0 then wtN N 0 l + wtN N 1 l else max (wtN N 0 l) (wtN N 1 l)
def lbS (s : Nat → Int) : Nat → Int × Int
  | 0 => (0, -1)
  | k + 1 => if (lbS s k).2 < 0 ∨ s k < (lbS s k).2 then ((k : Int), s k) else lbS s k
def bstN (N : Nat → Int) (b v : Int) : Int := if 0 ≤ v ∧ v ≤ 1 then pck v (lbS (scN N b) 4) else -1
theorem fst4_bd (p : Nat → Bool) (k : Nat) (h : k ≤ 241) : fst4 p k = -4 ∨ (0 ≤ fst4 p k ∧ fst4 p k ≤ 240) := by
  rcases fst4_in p k with z | z
  · exact Or.inl z
  · exact Or.inr (by omega)
theorem wtS_in {N D : Nat → Int} {h : Int} (hD : ∀ b, D b = -4 ∨ (0 ≤ D b ∧ D b ≤ 240)) : ∀ k : Nat, 0 ≤ wtS N D h k ∧ wtS N D h k ≤ 240 * k
  | 0 => by unfold wtS; omega
  | k + 1 => by
    have ih := wtS_in (N := N) (h := h) hD k
    have := hD k
    unfold wtS
    split
    · split <;> omega
    · omega
theorem donN_in (N : Nat → Int) (b : Nat) : donN N b = -4 ∨ (0 ≤ donN N b ∧ donN N b ≤ 240) := fst4_bd _ _ (Nat.le_refl _)
theorem allF_in (N : Nat → Int) : allF N = -4 ∨ (0 ≤ allF N ∧ allF N ≤ 240) := fst4_bd _ _ (Nat.le_refl _)
theorem wtN_in {m : Int} {N : Nat → Int} (hI : Inv m N) (h l : Int) : 0 ≤ wtN N h l ∧ wtN N h l ≤ 1680 := by
  have hh := hI.h
  unfold InH at hh
  have := wtS_in (N := N) (h := h) (donN_in (up N 6 l)) (nb N)
  unfold wtN
  unfold nb at this ⊢
  omega
theorem scN_in {m : Int} {N : Nat → Int} (hI : Inv m N) (b : Int) (l : Nat) : 0 ≤ scN N b l ∧ scN N b l ≤ 3360 := by
  have h0 := wtN_in hI 0 l
  have h1 := wtN_in hI 1 l
  unfold scN
  split <;> omega
theorem oth_it {m : Int} {N : Nat → Int} (hI : Inv m N) (hm : m + 241 ≤ 20000) : fst4 (fun n => setB (othN N) (itN 127 N n)) 241 = allF N := by
  refine fst4_cong (fun i hi => ?_)
  have h10 : itN 127 N i 10 = N 10 := (itN_kp 127 N i).1.2.2.2.2.2.2.1
  have h12 : itN 127 N i 12 = N 12 := (itN_kp 127 N i).1.2.2.2.2.2.2.2
  have e : othN N = othN (itN 127 N i) := by unfold othN; rw [h10, h12]
  rw [e]; exact set_all (itN_inv hI i (by omega))
theorem inv5 {m v : Int} {N : Nat → Int} (hI : Inv m N) (h : 0 ≤ v ∧ v ≤ 60) : Inv m (up N 5 v) := by
  have hh := hI.h
  unfold InH at hh
  exact hI.lo (by omega) (by omega) (by unfold InH; simp only [up]; simp; omega)
theorem inv6 {m v : Int} {N : Nat → Int} (hI : Inv m N) (h : 0 ≤ v ∧ v ≤ 3) : Inv m (up N 6 v) := by
  have hh := hI.h
  unfold InH at hh
  exact hI.lo (by omega) (by omega) (by unfold InH; simp only [up]; simp; omega)
theorem inv10 {m v : Int} {N : Nat → Int} (hI : Inv m N) (h : v = -4 ∨ (0 ≤ v ∧ v < N 12)) : Inv m (up N 10 v) := by
  have hh := hI.h
  unfold InH at hh
  exact hI.lo (by omega) (by omega) (by unfold InH; simp only [up]; simp; omega)
theorem plP_e {k : Nat} {q : Int} (hq : q = (k : Int) - 1) : (if 0 ≤ q then q else -4 : Int) = plP k := by
  unfold plP
  by_cases z : k = 0
  · rw [if_pos z, if_neg (by omega)]
  · rw [if_neg z, if_pos (by omega), hq]
theorem plG_e {k : Nat} {q : Int} (hq : q = (k : Int) - 1) : (if 0 ≤ q then q else 7 : Int) = plG k := by
  unfold plG
  by_cases z : k = 0
  · rw [if_pos z, if_neg (by omega)]
  · rw [if_neg z, if_pos (by omega), hq]
section MG
variable {G : GG} {t : Mem} {m : Int}
theorem c_water {v : Int} (hv : In32 v) (hI : Inv m (t 133)) (hO : OrdI t) (hm : m + 241 ≤ 20000) : Ex G mX6_water [RR 132, II v] t (fun r u => r = watN (t 133) v ∧ Bk t u) := by
  refine eX6_water (sgX6_water_0 ⟨hv, ?_⟩)
  by_cases c : 0 ≤ v ∧ v ≤ 240
  · refine ck (c_in1 (j32 hv) (jL rfl) (jL rfl) c) ⟨iL rfl, nb_t (by decide) (ckv c_asides ?_)⟩
    have lp : ∀ (dd k : Nat) (u : Mem), k + dd = v.toNat → FtM t u (t 133) (itN 127 (t 133) k) → V G mX6_water 20 [(0, RR 132), (1, II v), (2, II (k : Int))] [] u (fun r u => r = watN (t 133) v ∧ Bk t u) := by
      intro dd
      induction dd with
      | zero =>
        intro k u hk h
        refine sgX6_water_20 ⟨i32 (by omega) (by omega), hv, br_t (by omega) (ckv c_backs ⟨?_, (ft_end h).bk⟩)⟩
        unfold watN
        rw [if_pos c, h.1, ← hk]; rfl
      | succ dd ih =>
        intro k u hk h
        exact sgX6_water_20 ⟨i32 (by omega) (by omega), hv, br_f (by omega) (cq (ft_goes h (itN_inv hI k (by omega)) (by omega)) (fun r u2 h2 => ih (k + 1) u2 (by omega) h2.1))⟩
    exact lp v.toNat 0 _ (by omega) (ft_begin hI hO)
  · exact ck (c_in0 (j32 hv) (jL rfl) (jL rfl) c) ⟨iL rfl, nb_f rfl ⟨by unfold watN; rw [if_neg c], Bk.rf hO⟩⟩
theorem c_done {v : Int} (hv : In32 v) (hI : Inv m (t 133)) (hO : OrdI t) (hm : m + 241 ≤ 20000) : Ex G mX6_done [RR 132, II v] t (fun r u => r = dneN (t 133) v ∧ Bk t u) := by
  have hh := hI.h
  unfold InH at hh
  refine eX6_done (sgX6_done_0 ?_)
  by_cases c : 0 ≤ v ∧ v < t 133 12
  · refine ck (c_isBeast1 (by omega) c) ⟨iL rfl, nb_t (by decide) (ckv c_asides (cq (c_goesOn (ft_begin hI hO) hI hm) (fun r u h => ⟨by omega, ?_, h.2.2.bk⟩)))⟩
    rw [h.2.1 v.toNat (by unfold nb; omega)]; unfold dneN; rw [if_pos c]; rfl
  · exact ck (c_isBeast0 hv (by omega) c) ⟨iL rfl, nb_f rfl ⟨by unfold dneN; rw [if_neg c], Bk.rf hO⟩⟩
theorem c_all (hI : Inv m (t 133)) (hO : OrdI t) (hm : m + 241 ≤ 20000) : Ex G mX6_all [RR 132] t (fun r u => r = allF (t 133) ∧ Bk t u) := by
  refine eX6_all (sgX6_all_0 (ckv c_asides ?_))
  have e : row t 136 (fun j => if j < 63 then t 133 j else t 136 j) 133 = t 133 := row_n (by decide)
  refine ck (c_others (m := m) (by rw [e]; exact hI)) ?_
  rw [e]
  exact cq (c_goesOn (ft_begin hI hO) hI hm) (fun r u h => ⟨by rw [h.1, oth_it hI hm], h.2.2.bk⟩)
theorem bst_in {f g : Nat → Int} (hf : ∀ i, f i = -4 ∨ (0 ≤ f i ∧ f i ≤ 240)) : ∀ k, (bst f g k).2 = -4 ∨ (0 ≤ (bst f g k).2 ∧ (bst f g k).2 ≤ 240)
  | 0 => Or.inl rfl
  | k + 1 => by
    unfold bst
    split
    · exact bst_in hf k
    · split
      · exact hf k
      · exact bst_in hf k
theorem c_height {v : Int} (hv : In32 v) (hI : Inv m (t 133)) (hO : OrdI t) (hm : m + 241 ≤ 20000) : Ex G mX6_height [RR 132, II v] t (fun r u => r = hgtN (t 133) v ∧ Bk t u) := by
  refine eX6_height (sgX6_height_0 ⟨hv, ?_⟩)
  by_cases c : 0 ≤ v ∧ v ≤ 1
  · refine ck (c_in1 (j32 hv) (jL rfl) (jL rfl) c) ⟨iL rfl, nb_t (by decide) (ckv c_asides ?_)⟩
    have lp : ∀ (dd k : Nat) (u : Mem) (a b : Int), k + dd = 61 → (a, b) = bst (hgF (t 133)) (fun h => (h : Int)) k → FtM t u (t 133) (t 133) → V G mX6_height 25 [(0, RR 132), (1, II v), (2, II a), (3, II b), (4, II (k : Int))] [] u (fun r u => r = hgtN (t 133) v ∧ Bk t u) := by
      intro dd
      induction dd with
      | zero =>
        intro k u a b hk hab h
        have e : k = 61 := by omega
        subst e
        refine sgX6_height_25 ⟨i32 (by omega) (by omega), br_t (by omega) ⟨hv, fun w hw => ⟨?_, h.bk⟩⟩⟩
        rw [hw]; unfold hgtN pck; rw [if_pos c, ← hab]
      | succ dd ih =>
        intro k u a b hk hab h
        have hIk : Inv m (up (t 133) 5 (k : Int)) := inv5 hI (by omega)
        have hb : (bst (hgF (t 133)) (fun h => (h : Int)) k).2 = -4 ∨ (0 ≤ (bst (hgF (t 133)) (fun h => (h : Int)) k).2 ∧ (bst (hgF (t 133)) (fun h => (h : Int)) k).2 ≤ 240) := bst_in (fun i => allF_in (up (t 133) 5 (i : Int))) k
        rw [← hab] at hb
        have hf := allF_in (up (t 133) 5 (k : Int))
        have nx : ∀ a2 b2 : Int, (a2, b2) = bst (hgF (t 133)) (fun h => (h : Int)) (k + 1) → ∀ u2, FtM t u2 (t 133) (t 133) → V G mX6_height 25 [(0, RR 132), (1, II v), (2, II a2), (3, II b2), (4, II ((k : Int) + 1))] [] u2 (fun r u => r = hgtN (t 133) v ∧ Bk t u) := fun a2 b2 q u2 h2 => ih (k + 1) u2 a2 b2 (by omega) q h2
        have eb : bst (hgF (t 133)) (fun h => (h : Int)) (k + 1) = if hgF (t 133) k = -4 then (a, b) else if b = -4 ∨ hgF (t 133) k < b then ((k : Int), hgF (t 133) k) else (a, b) := by rw [hab]; rw [show b = (a, b).2 from rfl, hab]; rfl
        refine sgX6_height_25 ⟨i32 (by omega) (by omega), br_f (by omega) (fun u8 e8 => ?_)⟩
        have h8 : FtM t u8 (t 133) (up (t 133) 5 (k : Int)) := by rw [e8]; exact h.lo (by omega)
        have e133 : u8 133 = up (t 133) 5 (k : Int) := h8.1
        refine ck (c_others (m := m) (by rw [e133]; exact hIk)) ?_
        rw [e133]
        refine cq (c_goesOn h8 hIk hm) (fun r u2 h2 => ?_)
        obtain ⟨h21, -, h23⟩ := h2
        rw [oth_it hIk hm] at h21
        change r = hgF (t 133) k at h21
        change hgF (t 133) k = -4 ∨ (0 ≤ hgF (t 133) k ∧ hgF (t 133) k ≤ 240) at hf
        rw [← h21] at hf eb
        refine ⟨i32 (by omega) (by omega), ?_⟩
        by_cases z : r = -4
        · refine br_t z (fun w1 e1 w2 e2 => nx w1 w2 ?_ u2 h23)
          rw [e1, e2, eb, if_pos z]; rfl
        · refine br_f z ⟨i32 (by omega) (by omega), ?_⟩
          by_cases y : b = -4
          · refine br_t y (fun w1 e1 w2 e2 => nx w1 w2 ?_ u2 h23)
            rw [e1, e2, eb, if_neg z, if_pos (Or.inl y)]; rfl
          · refine br_f y (fun w1 e1 w2 e2 => nx w1 w2 ?_ u2 h23)
            by_cases x : b ≤ r
            · rw [if_pos x] at e1 e2
              rw [e1, e2, eb, if_neg z, if_neg (show ¬ (b = -4 ∨ r < b) by omega)]; rfl
            · rw [if_neg x] at e1 e2
              rw [e1, e2, eb, if_neg z, if_pos (show b = -4 ∨ r < b by omega)]; rfl
    exact lp 61 0 _ (-4) (-4) (by omega) rfl (ft_begin hI hO)
  · exact ck (c_in0 (j32 hv) (jL rfl) (jL rfl) c) ⟨iL rfl, nb_f rfl ⟨by unfold hgtN; rw [if_neg c], Bk.rf hO⟩⟩
theorem c_pulls {v : Int} (hv : In32 v) (hI : Inv m (t 133)) (hO : OrdI t) (hm : m + 241 ≤ 20000) : Ex G mX6_pulls [RR 132, II v] t (fun r u => r = pulN (t 133) v ∧ Bk t u) := by
  have hh := hI.h
  unfold InH at hh
  refine eX6_pulls (sgX6_pulls_0 ⟨hv, ?_⟩)
  by_cases c : 0 ≤ v ∧ v ≤ 1
  · refine ck (c_in1 (j32 hv) (jL rfl) (jL rfl) c) ⟨iL rfl, nb_t (by decide) (ckv c_asides ?_)⟩
    have lp : ∀ (dd k : Nat) (u : Mem) (a b q : Int), k + dd = nb (t 133) + 1 → q = (k : Int) - 1 → (a, b) = bst (plF (t 133)) plG k → FtM t u (t 133) (t 133) → V G mX6_pulls 25 [(0, RR 132), (1, II v), (2, II a), (3, II b), (4, II q)] [] u (fun r u => r = pulN (t 133) v ∧ Bk t u) := by
      intro dd
      induction dd with
      | zero =>
        intro k u a b q hk hq hab h
        have e : k = nb (t 133) + 1 := by omega
        have e12 : u 136 12 = t 133 12 := h.2.1 12 (by omega)
        subst e
        refine sgX6_pulls_25 ⟨i32 (by omega) (by unfold nb at hq; omega), by rw [e12]; exact i32 (by omega) (by omega), br_t (by rw [e12]; unfold nb at hq; omega) ⟨hv, fun w hw => ⟨?_, h.bk⟩⟩⟩
        rw [hw]; unfold pulN pck; rw [if_pos c, ← hab]
      | succ dd ih =>
        intro k u a b q hk hq hab h
        have e12 : u 136 12 = t 133 12 := h.2.1 12 (by omega)
        have hk8 : (k : Int) - 1 < t 133 12 := by unfold nb at hk; omega
        have hIk : Inv m (up (t 133) 10 (plP k)) := inv10 hI (by unfold plP; split <;> omega)
        have hb : (bst (plF (t 133)) plG k).2 = -4 ∨ (0 ≤ (bst (plF (t 133)) plG k).2 ∧ (bst (plF (t 133)) plG k).2 ≤ 240) := bst_in (fun i => allF_in (up (t 133) 10 (plP i))) k
        rw [← hab] at hb
        have hf := allF_in (up (t 133) 10 (plP k))
        have nx : ∀ a2 b2 : Int, (a2, b2) = bst (plF (t 133)) plG (k + 1) → ∀ u2, FtM t u2 (t 133) (t 133) → V G mX6_pulls 25 [(0, RR 132), (1, II v), (2, II a2), (3, II b2), (4, II (q + 1))] [] u2 (fun r u => r = pulN (t 133) v ∧ Bk t u) := fun a2 b2 q2 u2 h2 => ih (k + 1) u2 a2 b2 (q + 1) (by omega) (by omega) q2 h2
        have eb : bst (plF (t 133)) plG (k + 1) = if plF (t 133) k = -4 then (a, b) else if b = -4 ∨ plF (t 133) k < b then (plG k, plF (t 133) k) else (a, b) := by rw [hab]; rw [show b = (a, b).2 from rfl, hab]; rfl
        refine sgX6_pulls_25 ⟨i32 (by omega) (by omega), by rw [e12]; exact i32 (by omega) (by omega), br_f (by rw [e12]; omega) (fun w9 e9 u8 e8 => ?_)⟩
        have w9e : w9 = plP k := by rw [e9]; exact plP_e hq
        have gE : (if 0 ≤ q then q else 7 : Int) = plG k := plG_e hq
        have h8 : FtM t u8 (t 133) (up (t 133) 10 (plP k)) := by rw [e8, w9e]; exact h.lo (by omega)
        have e133 : u8 133 = up (t 133) 10 (plP k) := h8.1
        refine ck (c_others (m := m) (by rw [e133]; exact hIk)) ?_
        rw [e133]
        refine cq (c_goesOn h8 hIk hm) (fun r u2 h2 => ?_)
        obtain ⟨h21, -, h23⟩ := h2
        rw [oth_it hIk hm] at h21
        change r = plF (t 133) k at h21
        change plF (t 133) k = -4 ∨ (0 ≤ plF (t 133) k ∧ plF (t 133) k ≤ 240) at hf
        rw [← h21] at hf eb
        refine ⟨i32 (by omega) (by omega), ?_⟩
        by_cases z : r = -4
        · refine br_t z (br_t rfl (fun w2 e2 => nx a w2 ?_ u2 h23))
          rw [e2, eb, if_pos z]; rfl
        · refine br_f z ⟨i32 (by omega) (by omega), ?_⟩
          by_cases y : b = -4
          · refine br_t y (br_f (by decide) (fun w1 e1 w2 e2 => nx w1 w2 ?_ u2 h23))
            rw [e1, gE, e2, eb, if_neg z, if_pos (Or.inl y)]; rfl
          · refine br_f y ?_
            by_cases x : b ≤ r
            · rw [if_pos x]
              refine br_t rfl (fun w2 e2 => nx a w2 ?_ u2 h23)
              rw [e2, eb, if_neg z, if_neg (show ¬ (b = -4 ∨ r < b) by omega)]; rfl
            · rw [if_neg x]
              refine br_f (by decide) (fun w1 e1 w2 e2 => nx w1 w2 ?_ u2 h23)
              rw [e1, gE, e2, eb, if_neg z, if_pos (show b = -4 ∨ r < b by omega)]; rfl
    exact lp (nb (t 133) + 1) 0 _ (-4) (-4) (-1) (by omega) (by omega) rfl (ft_begin hI hO)
  · exact ck (c_in0 (j32 hv) (jL rfl) (jL rfl) c) ⟨iL rfl, nb_f rfl ⟨by unfold pulN; rw [if_neg c], Bk.rf hO⟩⟩
theorem c_waitsOf {h l : Int} (hh1 : In32 h) (hl : 0 ≤ l ∧ l ≤ 3) (hI : Inv m (t 133)) (hO : OrdI t) (hm : m + 241 ≤ 20000) : Ex G mX6_waitsOf [RR 132, II h, II l] t (fun r u => r = wtN (t 133) h l ∧ Bk t u) := by
  have hh := hI.h
  unfold InH at hh
  refine eX6_waitsOf (sgX6_waitsOf_0 (ckv c_asides (fun u6 e6 => ?_)))
  have h6 : FtM t u6 (t 133) (up (t 133) 6 l) := by rw [e6]; exact (ft_begin hI hO).lo (by omega)
  have hIl : Inv m (up (t 133) 6 l) := inv6 hI hl
  refine cq (c_goesOn h6 hIl hm) (fun r u hu => ?_)
  obtain ⟨-, hd, hf⟩ := hu
  have nbl : nb (up (t 133) 6 l) = nb (t 133) := by unfold nb; rw [up_n (by omega)]
  rw [nbl] at hd
  have e133 : u 133 = t 133 := hf.1
  have lp : ∀ (dd k : Nat) (s : Int), k + dd = nb (t 133) → s = wtS (t 133) (donN (up (t 133) 6 l)) h k → V G mX6_waitsOf 23 [(0, RR 132), (1, II h), (2, II l), (3, II s), (4, II (k : Int))] [] u (fun r u => r = wtN (t 133) h l ∧ Bk t u) := by
    intro dd
    induction dd with
    | zero =>
      intro k s hk hs
      refine sgX6_waitsOf_23 ⟨i32 (by omega) (by unfold nb at hk; omega), by rw [e133]; exact i32 (by omega) (by omega), br_t (by rw [e133]; unfold nb at hk; omega) ⟨?_, hf.bk⟩⟩
      rw [hs, show k = nb (t 133) by omega]; rfl
    | succ dd ih =>
      intro k s hk hs
      have hk7 : k < 7 ∧ (k : Int) < t 133 12 := by unfold nb at hk; omega
      have b2 := (hI.b hk7.1).2.2.1
      have dk : u 137 k = donN (up (t 133) 6 l) k := hd k (by omega)
      have din := donN_in (up (t 133) 6 l) k
      have nx : ∀ s2 : Int, s2 = wtS (t 133) (donN (up (t 133) 6 l)) h (k + 1) → V G mX6_waitsOf 23 [(0, RR 132), (1, II h), (2, II l), (3, II s2), (4, II ((k : Int) + 1))] [] u (fun r u => r = wtN (t 133) h l ∧ Bk t u) := fun s2 q => ih (k + 1) s2 (by omega) q
      refine sgX6_waitsOf_23 ⟨i32 (by omega) (by omega), by rw [e133]; exact i32 (by omega) (by omega), br_f (by rw [e133]; omega) ?_⟩
      refine ck (c_at (w := 2) hk7.1 (by omega)) ?_
      rw [e133]
      refine ⟨i32 (by omega) (by omega), hh1, ?_⟩
      by_cases z : bt (t 133) k 2 = h
      · refine nb_f z ⟨i32 (by omega) (by omega), ?_⟩
        by_cases y : (k : Int) = t 133 10
        · rw [if_pos y]
          refine nb_f rfl (nx _ ?_)
          unfold wtS; rw [if_neg (fun q => q.2 y), hs]
        · rw [if_neg y]
          refine nb_t (by decide) ⟨by omega, ?_⟩
          rw [Int.toNat_natCast, dk]
          refine ⟨i32 (by omega) (by omega), fun w ew => nx _ ?_⟩
          unfold wtS; rw [if_pos ⟨z, y⟩, hs, ew]
      · refine nb_t z (nb_f rfl (nx _ ?_))
        unfold wtS; rw [if_neg (fun q => z q.1), hs]
  exact lp (nb (t 133)) 0 0 (by omega) rfl
theorem c_waits {h l : Int} (hh : In32 h) (hl : In32 l) (hI : Inv m (t 133)) (hO : OrdI t) (hm : m + 241 ≤ 20000) : Ex G mX6_waits [RR 132, II h, II l] t (fun r u => r = waiN (t 133) h l ∧ Bk t u) := by
  refine eX6_waits (sgX6_waits_0 ⟨hh, ?_⟩)
  by_cases c : 0 ≤ h ∧ h ≤ 1
  · refine ck (c_in1 (j32 hh) (jL rfl) (jL rfl) c) ⟨iL rfl, br_f (by decide) ⟨hl, ?_⟩⟩
    by_cases d : 0 ≤ l ∧ l ≤ 3
    · refine ck (c_in1 (j32 hl) (jL rfl) (jL rfl) d) ⟨iL rfl, br_f (by decide) (cq (c_waitsOf hh d hI hO hm) (fun r u hu => ⟨by rw [hu.1]; unfold waiN; rw [if_pos ⟨c, d⟩], hu.2⟩))⟩
    · exact ck (c_in0 (j32 hl) (jL rfl) (jL rfl) d) ⟨iL rfl, br_t rfl ⟨by unfold waiN; rw [if_neg (fun q => d q.2)], Bk.rf hO⟩⟩
  · exact ck (c_in0 (j32 hh) (jL rfl) (jL rfl) c) ⟨iL rfl, br_t rfl ⟨by unfold waiN; rw [if_neg (fun q => c q.1)], Bk.rf hO⟩⟩
theorem lbS_in {s : Nat → Int} {K : Int} (hs : ∀ i, 0 ≤ s i ∧ s i ≤ K) (hK : 0 ≤ K) : ∀ k, -1 ≤ (lbS s k).2 ∧ (lbS s k).2 ≤ K
  | 0 => by unfold lbS; omega
  | k + 1 => by
    unfold lbS
    split
    · have := hs k; omega
    · exact lbS_in hs hK k
theorem c_lawBy {v b : Int} (hv : In32 v) (hb : b = 0 ∨ b = 1) (hI : Inv m (t 133)) (hO : OrdI t) (hm : m + 241 ≤ 20000) : Ex G mX6_lawBy [RR 132, II v, II b] t (fun r u => r = pck v (lbS (scN (t 133) b) 4) ∧ Bk t u) := by
  have lp : ∀ (dd k : Nat) (u : Mem) (x y : Int), k + dd = 4 → (x, y) = lbS (scN (t 133) b) k → Bk t u → V G mX6_lawBy 8 [(0, RR 132), (1, II v), (2, II b), (3, II x), (4, II y), (5, II (k : Int))] [] u (fun r u => r = pck v (lbS (scN (t 133) b) 4) ∧ Bk t u) := by
    intro dd
    induction dd with
    | zero =>
      intro k u x y hk hxy h
      refine sgX6_lawBy_8 ⟨i32 (by omega) (by omega), br_t (by omega) ⟨hv, fun w hw => ⟨?_, h⟩⟩⟩
      rw [hw, show (4 : Nat) = k by omega, ← hxy]; rfl
    | succ dd ih =>
      intro k u x y hk hxy h
      have hIu : Inv m (u 133) := by rw [h.1]; exact hI
      have w0 := wtN_in hI 0 (k : Int)
      have w1 := wtN_in hI 1 (k : Int)
      have hy := lbS_in (K := 3360) (fun i => scN_in hI b i) (by omega) k
      rw [← hxy] at hy
      have eb : lbS (scN (t 133) b) (k + 1) = if y < 0 ∨ scN (t 133) b k < y then ((k : Int), scN (t 133) b k) else (x, y) := by rw [show y = (x, y).2 from rfl, hxy]; rfl
      have nx : ∀ x2 y2 : Int, (x2, y2) = lbS (scN (t 133) b) (k + 1) → ∀ u2, Bk t u2 → V G mX6_lawBy 8 [(0, RR 132), (1, II v), (2, II b), (3, II x2), (4, II y2), (5, II ((k : Int) + 1))] [] u2 (fun r u => r = pck v (lbS (scN (t 133) b) 4) ∧ Bk t u) := fun x2 y2 q u2 h2 => ih (k + 1) u2 x2 y2 (by omega) q h2
      refine sgX6_lawBy_8 ⟨i32 (by omega) (by omega), br_f (by omega) ?_⟩
      refine cq (c_waitsOf (iL rfl) (by omega) hIu h.2.1 hm) (fun r u1 h1 => ?_)
      have hb1 := h.tr h1.2
      refine cq (c_waitsOf (m := m) (iL rfl) (by omega) (by rw [hb1.1]; exact hI) hb1.2.1 hm) (fun r2 u2 h2 => ?_)
      have hb2 := hb1.tr h2.2
      have er : r = wtN (t 133) 0 (k : Int) := by rw [h1.1, h.1]
      have er2 : r2 = wtN (t 133) 1 (k : Int) := by rw [h2.1, hb1.1]
      refine ⟨by rcases hb with rfl | rfl <;> exact iL rfl, ?_⟩
      by_cases z : b = 0
      · have es : scN (t 133) b k = r + r2 := by unfold scN; rw [if_pos z, er, er2]
        rw [es] at eb
        refine br_t z ⟨i32 (by omega) (by omega), ?_⟩
        by_cases q : y < 0
        · refine br_t q (fun w1 e1 w2 e2 => nx w1 w2 ?_ u2 hb2)
          rw [e1, e2, eb, if_pos (Or.inl q)]; rfl
        · refine br_f q ⟨i32 (by omega) (by omega), fun w1 e1 w2 e2 => nx w1 w2 ?_ u2 hb2⟩
          by_cases p : y ≤ r + r2
          · rw [if_pos p] at e1 e2
            rw [e1, e2, eb, if_neg (show ¬ (y < 0 ∨ r + r2 < y) by omega)]; rfl
          · rw [if_neg p] at e1 e2
            rw [e1, e2, eb, if_pos (show y < 0 ∨ r + r2 < y by omega)]; rfl
      · refine br_f z ⟨i32 (by omega) (by omega), i32 (by omega) (by omega), fun w ew => ⟨i32 (by omega) (by omega), ?_⟩⟩
        have es : scN (t 133) b k = w := by
          unfold scN; rw [if_neg z, ew, er, er2]
          split <;> omega
        have hw := scN_in hI b k
        rw [es] at eb hw
        by_cases q : y < 0
        · refine br_t q (fun w1 e1 w2 e2 => nx w1 w2 ?_ u2 hb2)
          rw [e1, e2, eb, if_pos (Or.inl q)]; rfl
        · refine br_f q ⟨i32 (by omega) (by omega), fun w1 e1 w2 e2 => nx w1 w2 ?_ u2 hb2⟩
          by_cases p : y ≤ w
          · rw [if_pos p] at e1 e2
            rw [e1, e2, eb, if_neg (show ¬ (y < 0 ∨ w < y) by omega)]; rfl
          · rw [if_neg p] at e1 e2
            rw [e1, e2, eb, if_pos (show y < 0 ∨ w < y by omega)]; rfl
  exact eX6_lawBy (sgX6_lawBy_0 (lp 4 0 t 0 (-1) (by omega) rfl (Bk.rf hO)))
theorem c_least {v : Int} (hv : In32 v) (hI : Inv m (t 133)) (hO : OrdI t) (hm : m + 241 ≤ 20000) : Ex G mX6_least [RR 132, II v] t (fun r u => r = bstN (t 133) 0 v ∧ Bk t u) := by
  refine eX6_least (sgX6_least_0 ⟨hv, ?_⟩)
  by_cases c : 0 ≤ v ∧ v ≤ 1
  · exact ck (c_in1 (j32 hv) (jL rfl) (jL rfl) c) ⟨iL rfl, br_f (by decide) (cq (c_lawBy hv (Or.inl rfl) hI hO hm) (fun r u hu => ⟨by rw [hu.1]; unfold bstN; rw [if_pos c], hu.2⟩))⟩
  · exact ck (c_in0 (j32 hv) (jL rfl) (jL rfl) c) ⟨iL rfl, br_t rfl ⟨by unfold bstN; rw [if_neg c], Bk.rf hO⟩⟩
theorem c_both {v : Int} (hv : In32 v) (hI : Inv m (t 133)) (hO : OrdI t) (hm : m + 241 ≤ 20000) : Ex G mX6_both [RR 132, II v] t (fun r u => r = bstN (t 133) 1 v ∧ Bk t u) := by
  refine eX6_both (sgX6_both_0 ⟨hv, ?_⟩)
  by_cases c : 0 ≤ v ∧ v ≤ 1
  · exact ck (c_in1 (j32 hv) (jL rfl) (jL rfl) c) ⟨iL rfl, br_f (by decide) (cq (c_lawBy hv (Or.inr rfl) hI hO hm) (fun r u hu => ⟨by rw [hu.1]; unfold bstN; rw [if_pos c], hu.2⟩))⟩
  · exact ck (c_in0 (j32 hv) (jL rfl) (jL rfl) c) ⟨iL rfl, br_t rfl ⟨by unfold bstN; rw [if_neg c], Bk.rf hO⟩⟩
end MG
