/-! the stages keep what always holds -/
/-- what a minute never changes -/
def Kp (N M : Nat → Int) : Prop := (M 1 = N 1 ∧ M 2 = N 2 ∧ M 3 = N 3 ∧ M 4 = N 4 ∧ M 5 = N 5 ∧ M 6 = N 6 ∧ M 10 = N 10 ∧ M 12 = N 12) ∧ ∀ b, b < 7 → bt M b 0 = bt N b 0 ∧ bt M b 1 = bt N b 1 ∧ bt M b 2 = bt N b 2
theorem Kp.rf (N : Nat → Int) : Kp N N := ⟨⟨rfl, rfl, rfl, rfl, rfl, rfl, rfl, rfl⟩, fun _ _ => ⟨rfl, rfl, rfl⟩⟩
theorem Kp.tr {A B C : Nat → Int} (h : Kp A B) (g : Kp B C) : Kp A C := by
  refine ⟨⟨?_, ?_, ?_, ?_, ?_, ?_, ?_, ?_⟩, fun b hb => ⟨?_, ?_, ?_⟩⟩
  · rw [g.1.1, h.1.1]
  · rw [g.1.2.1, h.1.2.1]
  · rw [g.1.2.2.1, h.1.2.2.1]
  · rw [g.1.2.2.2.1, h.1.2.2.2.1]
  · rw [g.1.2.2.2.2.1, h.1.2.2.2.2.1]
  · rw [g.1.2.2.2.2.2.1, h.1.2.2.2.2.2.1]
  · rw [g.1.2.2.2.2.2.2.1, h.1.2.2.2.2.2.2.1]
  · rw [g.1.2.2.2.2.2.2.2, h.1.2.2.2.2.2.2.2]
  · rw [(g.2 b hb).1, (h.2 b hb).1]
  · rw [(g.2 b hb).2.1, (h.2 b hb).2.1]
  · rw [(g.2 b hb).2.2, (h.2 b hb).2.2]
theorem Kp.same {N M : Nat → Int} (h : Kp N M) : Same N M := ⟨h.1.2.2.2.2.2.1.symm, h.1.2.2.2.2.2.2.2.symm, fun b hb => ⟨(h.2 b hb).1.symm, (h.2 b hb).2.1.symm, (h.2 b hb).2.2.symm⟩⟩
theorem Kp.lo {N : Nat → Int} {j : Nat} {v : Int} (hj : j = 0 ∨ j = 7 ∨ j = 8 ∨ j = 9 ∨ j = 11 ∨ j = 13) : Kp N (up N j v) := by
  refine ⟨?_, fun b hb => ⟨bt_up_lo (by omega), bt_up_lo (by omega), bt_up_lo (by omega)⟩⟩
  refine ⟨up_n (by omega), up_n (by omega), up_n (by omega), up_n (by omega), up_n (by omega), up_n (by omega), up_n (by omega), up_n (by omega)⟩
theorem Kp.w {N : Nat → Int} {c x : Nat} {v : Int} (hx : x < 7) (h3 : 3 ≤ x) : Kp N (up N (14 + 7 * c + x) v) := by
  refine ⟨?_, fun b hb => ⟨bt_up_n (by omega) hx (by omega), bt_up_n (by omega) hx (by omega), bt_up_n (by omega) hx (by omega)⟩⟩
  refine ⟨up_n (by omega), up_n (by omega), up_n (by omega), up_n (by omega), up_n (by omega), up_n (by omega), up_n (by omega), up_n (by omega)⟩
theorem nR_kp (N : Nat → Int) : Kp N (nR N) := Kp.lo (by omega)
theorem nD0_kp (N : Nat → Int) : Kp N (nD0 N) := ((Kp.lo (by omega)).tr (Kp.lo (by omega))).tr (Kp.lo (by omega))
theorem nD_kp (N : Nat → Int) : Kp N (nD N) := by
  unfold nD; split
  · exact nD0_kp N
  · exact (nD0_kp N).tr (Kp.w (by omega) (by omega))
theorem nB_kp (N : Nat → Int) : Kp N (nB N) := by
  unfold nB; split
  · exact Kp.lo (by omega)
  · exact ((Kp.lo (by omega)).tr (Kp.lo (by omega))).tr (Kp.lo (by omega))
theorem nW_kp (d : Int) (N : Nat → Int) : Kp N (nW d N) := by
  unfold nW; split
  · split
    · exact nD_kp N
    · exact (nD_kp N).tr (nB_kp _)
  · exact Kp.rf N
theorem nE_kp (d : Int) (N : Nat → Int) : Kp N (nE d N) := by
  unfold nE; split
  · exact (nR_kp N).tr (nW_kp d _)
  · exact nR_kp N
theorem dr1_kp (l : Int) (s : DS) (b : Nat) : Kp s.1 (dr1 l s b).1 := by
  unfold dr1; split
  · exact ((Kp.lo (by omega)).tr (Kp.w (by omega) (by omega))).tr (Kp.w (by omega) (by omega))
  · exact Kp.w (by omega) (by omega)
theorem drS_kp (l : Int) (N : Nat → Int) : ∀ k : Nat, Kp N (drS l N k).1
  | 0 => Kp.rf N
  | k + 1 => (drS_kp l N k).tr (dr1_kp l _ _)
theorem sw1_kp (N : Nat → Int) (b : Nat) : Kp N (sw1 N b) := by
  unfold sw1; split
  · exact ((Kp.w (by omega) (by omega)).tr (Kp.w (by omega) (by omega))).tr (Kp.w (by omega) (by omega))
  · exact Kp.w (by omega) (by omega)
theorem swS_kp (N : Nat → Int) : ∀ k : Nat, Kp N (swS N k)
  | 0 => Kp.rf N
  | k + 1 => (swS_kp N k).tr (sw1_kp _ _)
theorem finN_kp (N : Nat → Int) : Kp N (finN N) := (Kp.lo (by omega)).tr (Kp.lo (by omega))
theorem goN_kp (d l : Int) (N : Nat → Int) : Kp N (goN d l N) := ((nE_kp d N).tr (drS_kp l _ _)).tr ((swS_kp _ _).tr (finN_kp _))
theorem Inv.more {m m2 : Int} {N : Nat → Int} (h : Inv m N) (h1 : m ≤ m2) (h2 : m2 ≤ 20000) : Inv m2 N := by
  refine ⟨h2, ?_, fun b hb => ?_, h.2.2.2⟩
  · have := h.h; unfold InH at this ⊢; omega
  · have := h.b hb; unfold InB at this ⊢; omega
theorem dA_in {m : Int} {N : Nat → Int} (h : Inv m N) : dA N ≤ 9 ∧ dA N ≤ N 0 ∧ dA N ≤ 24 - N 7 := by
  have hh := h.h
  unfold InH at hh
  unfold dA
  by_cases c : N 10 = -4
  · rw [if_pos c]; omega
  · rw [if_neg c]; omega
theorem nD_inv {m : Int} {N : Nat → Int} (h : Inv m N) (hm : m + 1 ≤ 20000) (h0 : 0 < dA N) : Inv (m + 1) (nD N) := by
  have hd := dA_in h
  have h := h.more (m2 := m + 1) (by omega) hm
  have h8 : N 8 ≤ m := by have := ‹Inv m N›.h; unfold InH at this; omega
  have hb4 : ∀ b, b < 7 → bt N b 4 ≤ m := fun b hb => by have := ‹Inv m N›.b hb; unfold InB at this; omega
  have hh := h.h
  unfold InH at hh
  have i1 : Inv (m + 1) (up N 0 (N 0 - dA N)) := h.lo (by omega) (by omega) (by unfold InH; simp only [up]; simp; omega)
  have i2 : Inv (m + 1) (up (up N 0 (N 0 - dA N)) 7 (N 7 + dA N)) := i1.lo (by omega) (by omega) (by unfold InH; simp only [up]; simp; omega)
  have i3 : Inv (m + 1) (nD0 N) := i2.lo (by omega) (by omega) (by unfold InH; simp only [up]; simp; omega)
  unfold nD
  by_cases c : N 10 = -4
  · rw [if_pos c]; exact i3
  · rw [if_neg c]
    have hp : (N 10).toNat < 7 := by omega
    have e0 : bt (nD0 N) (N 10).toNat 4 = bt N (N 10).toNat 4 := by unfold nD0; rw [bt_up_lo (by omega), bt_up_lo (by omega), bt_up_lo (by omega)]
    refine i3.w (by omega) hp ?_ (by omega) ?_
    · show _ < nD0 N 12
      rw [show nD0 N 12 = N 12 from by simp [nD0, up]]; omega
    · have hB := i3.b hp
      have hq := hb4 _ hp
      have hN : N (pN N) = bt N (N 10).toNat 4 := rfl
      show InB (m + 1) (up (nD0 N) (14 + 7 * (N 10).toNat + 4) (N (pN N) + 1)) (N 10).toNat
      rw [hN]
      unfold InB at hB ⊢
      rw [bt_up_s, bt_up_n (by omega) (by omega) (by omega), bt_up_n (by omega) (by omega) (by omega), bt_up_n (by omega) (by omega) (by omega), bt_up_n (by omega) (by omega) (by omega), bt_up_n (by omega) (by omega) (by omega), bt_up_n (by omega) (by omega) (by omega)]
      have e1 : need (up (nD0 N) (14 + 7 * (N 10).toNat + 4) (bt N (N 10).toNat 4 + 1)) (N 10).toNat = 3 * bt (nD0 N) (N 10).toNat 1 + (bt N (N 10).toNat 4 + 1) / 3 + mk5 (nD0 N) (N 10).toNat := by
        unfold need mk5; rw [bt_up_s, bt_up_n (by omega) (by omega) (by omega), bt_up_n (by omega) (by omega) (by omega)]
      rw [e1]
      have e2 : need (nD0 N) (N 10).toNat = 3 * bt (nD0 N) (N 10).toNat 1 + bt (nD0 N) (N 10).toNat 4 / 3 + mk5 (nD0 N) (N 10).toNat := rfl
      rw [e2] at hB
      omega
theorem lAnd31 (x : Int) : 0 ≤ lAnd x 2147483647 ∧ lAnd x 2147483647 ≤ 2147483647 := by
  unfold lAnd
  have h : (Int64.ofInt x &&& Int64.ofInt 2147483647).toBitVec.toNat ≤ 2147483647 := by
    rw [Int64.toBitVec_and, BitVec.toNat_and]
    exact Nat.le_trans Nat.and_le_right (by decide)
  have e : (Int64.ofInt x &&& Int64.ofInt 2147483647).toInt = ((Int64.ofInt x &&& Int64.ofInt 2147483647).toBitVec.toNat : Int) := by
    show (Int64.ofInt x &&& Int64.ofInt 2147483647).toBitVec.toInt = _
    rw [BitVec.toInt_eq_toNat_of_lt (by omega)]
  omega
theorem nB_inv {m : Int} {N : Nat → Int} (h : Inv m N) : Inv m (nB N) := by
  have hz := lAnd31 (N 13 * 1103515245 + 12345)
  have hh := h.h
  unfold InH at hh
  have i1 : Inv m (up N 13 (zN N)) := h.lo (by omega) (by omega) (by unfold InH; simp only [up]; simp; unfold zN; omega)
  unfold nB; split
  · exact i1
  · have i2 : Inv m (up (up N 13 (zN N)) 8 0) := i1.lo (by omega) (by omega) (by have q := i1.h; unfold InH at q ⊢; simp only [up] at q ⊢; simp at q ⊢; omega)
    exact i2.lo (by omega) (by omega) (by have q := i2.h; unfold InH at q ⊢; simp only [up] at q ⊢; simp at q ⊢; omega)
theorem nW_inv {m : Int} {N : Nat → Int} (d : Int) (h : Inv m N) (hm : m + 1 ≤ 20000) : Inv (m + 1) (nW d N) := by
  unfold nW; split
  · rename_i h0
    split
    · exact nD_inv h hm h0
    · exact nB_inv (nD_inv h hm h0)
  · exact h.more (by omega) hm
theorem nE_inv {m : Int} {N : Nat → Int} (d : Int) (h : Inv m N) (hm : m + 1 ≤ 20000) : Inv (m + 1) (nE d N) := by
  unfold nE; split
  · exact nW_inv d (nR_inv h) hm
  · exact (nR_inv h).more (by omega) hm
theorem own_in {m : Int} {N : Nat → Int} (h : Inv m N) {b : Nat} (hb : b < 7) (hg : ¬ need N b ≤ bt N b 3) : 0 ≤ ownN N b ∧ ownN N b ≤ N 7 ∧ ownN N b ≤ need N b - bt N b 3 ∧ ownN N b ≤ 8 := by
  have hh := h.h
  unfold InH at hh
  have h1 := drk_in N b
  unfold ownN
  omega
theorem st_inv {m : Int} {N : Nat → Int} {b : Nat} {v : Int} (h : Inv m N) (hb : b < 7) (hc : (b : Int) < N 12) (h0 : 0 ≤ v) (h1 : v ≤ bt N b 3) : Inv m (up N (14 + 7 * b + 5) v) := by
  refine h.w (by omega) hb hc (by omega) ?_
  have hB := h.b hb
  unfold InB at hB ⊢
  rw [need_w (by omega) (by omega), bt_up_s, bt_up_n (by omega) (by omega) (by omega), bt_up_n (by omega) (by omega) (by omega), bt_up_n (by omega) (by omega) (by omega), bt_up_n (by omega) (by omega) (by omega), bt_up_n (by omega) (by omega) (by omega), bt_up_n (by omega) (by omega) (by omega)]
  omega
theorem sl_inv {m : Int} {N : Nat → Int} {b : Nat} {v : Int} (h : Inv m N) (hb : b < 7) (hc : (b : Int) < N 12) (h0 : 0 ≤ v) (h1 : v ≤ 5) : Inv m (up N (14 + 7 * b + 6) v) := by
  refine h.w (by omega) hb hc (by omega) ?_
  have hB := h.b hb
  unfold InB at hB ⊢
  rw [need_w (by omega) (by omega), bt_up_s, bt_up_n (by omega) (by omega) (by omega), bt_up_n (by omega) (by omega) (by omega), bt_up_n (by omega) (by omega) (by omega), bt_up_n (by omega) (by omega) (by omega), bt_up_n (by omega) (by omega) (by omega), bt_up_n (by omega) (by omega) (by omega)]
  omega
theorem dk_inv {m : Int} {N : Nat → Int} {b : Nat} {v : Int} (h : Inv m N) (hb : b < 7) (hc : (b : Int) < N 12) (h0 : bt N b 3 ≤ v) (h1 : v ≤ need N b) : Inv m (up N (14 + 7 * b + 3) v) := by
  refine h.w (by omega) hb hc (by omega) ?_
  have hB := h.b hb
  unfold InB at hB ⊢
  rw [need_w (by omega) (by omega), bt_up_s, bt_up_n (by omega) (by omega) (by omega), bt_up_n (by omega) (by omega) (by omega), bt_up_n (by omega) (by omega) (by omega), bt_up_n (by omega) (by omega) (by omega), bt_up_n (by omega) (by omega) (by omega), bt_up_n (by omega) (by omega) (by omega)]
  omega
theorem dr1_inv {m l : Int} {s : DS} {b : Nat} (h : Inv m s.1) (hb : b < 7) (hc : (b : Int) < s.1 12) : Inv m (dr1 l s b).1 := by
  have hB := h.b hb
  unfold InB at hB
  by_cases g : gets s.1 s.2.1 l b = true
  · rw [dr1_t g]
    obtain ⟨-, g2, -, -, -⟩ := gets_iff.mp g
    have ho := own_in h hb g2
    have hh := h.h
    unfold InH at hh
    have i1 : Inv m (up s.1 7 (s.1 7 - ownN s.1 b)) := h.lo (by omega) (by omega) (by unfold InH; simp only [up]; simp; omega)
    have i2 : Inv m (up (up s.1 7 (s.1 7 - ownN s.1 b)) (14 + 7 * b + 3) (bt s.1 b 3 + ownN s.1 b)) := dk_inv i1 hb (by rw [up_n (by omega)]; exact hc) (by rw [bt_up_lo (by omega)]; omega) (by rw [need_lo (by omega)]; omega)
    refine st_inv i2 hb (by rw [up_n (by omega), up_n (by omega)]; exact hc) (by split <;> omega) ?_
    rw [bt_up_s]; split <;> omega
  · rw [dr1_f g]
    exact st_inv h hb hc (by omega) (by omega)
theorem ord_lt {N : Nat → Int} (h7 : N 12 ≤ 7) {k : Nat} (hk : k < nb N) : ordF N k < 7 ∧ ((ordF N k : Nat) : Int) < N 12 := nb_lt h7 (ordF_ok hk).1
theorem drS_inv {m l : Int} {N : Nat → Int} (h : Inv m N) : ∀ k : Nat, k ≤ nb N → Inv m (drS l N k).1
  | 0, _ => h
  | k + 1, hk => by
    have hh := h.h
    unfold InH at hh
    have ho := ord_lt (N := N) (by omega) (k := k) (by omega)
    exact dr1_inv (drS_inv h k (by omega)) ho.1 (by rw [(drS_kp l N k).1.2.2.2.2.2.2.2]; exact ho.2)
theorem sw1_inv {m : Int} {N : Nat → Int} {b : Nat} (h : Inv m N) (hb : b < 7) (hc : (b : Int) < N 12) : Inv m (sw1 N b) := by
  have hB := h.b hb
  unfold InB at hB
  have i1 : Inv m (up N (14 + 7 * b + 6) (bt N b 6 - (if bt N b 6 ≤ 0 then 0 else 1))) := sl_inv h hb hc (by split <;> omega) (by split <;> omega)
  unfold sw1; split
  · have i2 := st_inv (v := 0) i1 hb (by rw [up_n (by omega)]; exact hc) (by omega) (by rw [bt_up_n (by omega) (by omega) (by omega)]; omega)
    exact sl_inv i2 hb (by rw [up_n (by omega), up_n (by omega)]; exact hc) (by omega) (by omega)
  · exact i1
theorem swS_inv {m : Int} {N : Nat → Int} (h : Inv m N) : ∀ k : Nat, k ≤ nb N → Inv m (swS N k)
  | 0, _ => h
  | k + 1, hk => by
    have hh := h.h
    unfold InH at hh
    unfold nb at hk
    exact sw1_inv (swS_inv h k (by unfold nb; omega)) (by omega) (by rw [(swS_kp N k).1.2.2.2.2.2.2.2]; omega)
theorem finN_inv {m : Int} {N : Nat → Int} (h : Inv m N) (h11 : N 11 + 1 ≤ m) : Inv m (finN N) := by
  have hh := h.h
  unfold InH at hh
  have i1 : Inv m (up N 9 (N 9 - (if N 9 ≤ 0 then 0 else 1))) := h.lo (by omega) (by omega) (by unfold InH; simp only [up]; simp; split <;> omega)
  exact i1.lo (by omega) (by omega) (by have q := i1.h; unfold InH at q ⊢; simp only [up] at q ⊢; simp at q ⊢; omega)
/-- a number of the well that none of these stages touches -/
theorem dr1_hd (l : Int) (s : DS) (b : Nat) {j : Nat} (hj : j < 14) (h7 : j ≠ 7) : (dr1 l s b).1 j = s.1 j := by
  unfold dr1; split
  · show up _ _ _ j = _
    rw [up_n (by omega), up_n (by omega), up_n (by omega)]
  · show up _ _ _ j = _
    rw [up_n (by omega)]
theorem drS_hd (l : Int) (N : Nat → Int) {j : Nat} (hj : j < 14) (h7 : j ≠ 7) : ∀ k : Nat, (drS l N k).1 j = N j
  | 0 => rfl
  | k + 1 => (dr1_hd l _ _ hj h7).trans (drS_hd l N hj h7 k)
theorem sw1_hd (N : Nat → Int) (b : Nat) {j : Nat} (hj : j < 14) : sw1 N b j = N j := by
  unfold sw1; split
  · rw [up_n (by omega), up_n (by omega), up_n (by omega)]
  · rw [up_n (by omega)]
theorem swS_hd (N : Nat → Int) {j : Nat} (hj : j < 14) : ∀ k : Nat, swS N k j = N j
  | 0 => rfl
  | k + 1 => (sw1_hd _ _ hj).trans (swS_hd N hj k)
theorem nE_11 (d : Int) (N : Nat → Int) : nE d N 11 = N 11 := by
  have e1 : nR N 11 = N 11 := by simp [nR, up]
  have e2 : ∀ M : Nat → Int, nD0 M 11 = M 11 := fun M => by simp [nD0, up]
  have e3 : ∀ M : Nat → Int, nD M 11 = M 11 := fun M => by
    unfold nD; split
    · exact e2 M
    · rw [up_n (by unfold pN; omega), e2]
  have e4 : ∀ M : Nat → Int, nB M 11 = M 11 := fun M => by unfold nB; split <;> simp [up]
  unfold nE; split
  · unfold nW; split
    · split
      · rw [e3, e1]
      · rw [e4, e3, e1]
    · exact e1
  · exact e1
theorem nE_nb (d : Int) (N : Nat → Int) : nb (nE d N) = nb N := by unfold nb; rw [(nE_kp d N).1.2.2.2.2.2.2.2]
theorem goN_inv {m d l : Int} {N : Nat → Int} (h : Inv m N) (hm : m + 1 ≤ 20000) : Inv (m + 1) (goN d l N) := by
  have i1 := nE_inv d h hm
  have i2 := drS_inv (l := l) i1 (nb N) (by rw [nE_nb]; exact Nat.le_refl _)
  have e12 : (drS l (nE d N) (nb N)).1 12 = N 12 := by rw [drS_hd l _ (by omega) (by omega), (nE_kp d N).1.2.2.2.2.2.2.2]
  have i3 := swS_inv i2 (nb N) (by show nb N ≤ ((drS l (nE d N) (nb N)).1 12).toNat; rw [e12]; exact Nat.le_refl _)
  refine finN_inv i3 ?_
  rw [swS_hd _ (by omega), drS_hd l _ (by omega) (by omega), nE_11]
  have hh := h.h
  unfold InH at hh
  omega
