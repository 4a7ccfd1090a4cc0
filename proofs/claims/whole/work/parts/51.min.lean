/-! minutes that are lived: sums, rows, what is kept -/
theorem sumD_ext {N M : Nat → Int} : ∀ k : Nat, (∀ b, b < k → bt M b 3 = bt N b 3) → sumD M k = sumD N k
  | 0, _ => rfl
  | k + 1, h => by
    show sumD M k + bt M k 3 = sumD N k + bt N k 3
    rw [sumD_ext k (fun b hb => h b (by omega)), h k (by omega)]
theorem sumD_up {N : Nat → Int} {b : Nat} {v : Int} : ∀ k : Nat, sumD (up N (14 + 7 * b + 3) (bt N b 3 + v)) k = sumD N k + (if b < k then v else 0)
  | 0 => by show (0 : Int) = 0 + _; rw [if_neg (by omega)]; rfl
  | k + 1 => by
    show sumD _ k + bt _ k 3 = sumD N k + bt N k 3 + _
    rw [sumD_up k]
    by_cases c : b = k
    · subst c; rw [bt_up_s, if_neg (by omega), if_pos (by omega)]; omega
    · rw [bt_up_n (by omega) (by omega) (Or.inl (fun z => c z.symm))]
      by_cases d : b < k
      · rw [if_pos d, if_pos (by omega)]; omega
      · rw [if_neg d, if_neg (by omega)]; omega
theorem sumD_dr1 {l : Int} {s : DS} {b : Nat} (hb : b < 7) : sumD (dr1 l s b).1 7 - (dr1 l s b).2.2 = sumD s.1 7 - s.2.2 := by
  by_cases h : gets s.1 s.2.1 l b = true
  · rw [dr1_t h]
    have e1 : sumD (up (up (up s.1 7 (s.1 7 - ownN s.1 b)) (14 + 7 * b + 3) (bt s.1 b 3 + ownN s.1 b)) (14 + 7 * b + 5) (if 0 < ownN s.1 b then bt s.1 b 5 + ownN s.1 b else 0)) 7 = sumD (up (up s.1 7 (s.1 7 - ownN s.1 b)) (14 + 7 * b + 3) (bt s.1 b 3 + ownN s.1 b)) 7 := sumD_ext 7 (fun q _ => bt_up_n (by omega) (by omega) (by omega))
    have e2 := sumD_up (N := up s.1 7 (s.1 7 - ownN s.1 b)) (b := b) (v := ownN s.1 b) 7
    rw [bt_up_lo (by omega), if_pos hb] at e2
    have e3 : sumD (up s.1 7 (s.1 7 - ownN s.1 b)) 7 = sumD s.1 7 := sumD_ext 7 (fun q _ => bt_up_lo (by omega))
    show sumD _ 7 - (s.2.2 + ownN s.1 b) = _
    rw [e1, e2, e3]; omega
  · rw [dr1_f h]
    show sumD (up s.1 (14 + 7 * b + 5) 0) 7 - s.2.2 = _
    rw [sumD_ext (N := s.1) 7 (fun q _ => bt_up_n (by omega) (by omega) (by omega))]
theorem sumD_drS {l : Int} {N : Nat → Int} (h7 : N 12 ≤ 7) : ∀ k : Nat, k ≤ nb N → sumD (drS l N k).1 7 = sumD N 7 + (drS l N k).2.2
  | 0, _ => by show sumD N 7 = sumD N 7 + 0; omega
  | k + 1, hk => by
    have ih := sumD_drS (l := l) h7 k (by omega)
    have ho := (ordF_ok (N := N) (k := k) (by omega)).1
    have := sumD_dr1 (l := l) (s := drS l N k) (b := ordF N k) (by unfold nb at ho; omega)
    show sumD (dr1 l (drS l N k) (ordF N k)).1 7 = sumD N 7 + (dr1 l (drS l N k) (ordF N k)).2.2
    omega
theorem nD_3 (N : Nat → Int) (b : Nat) : bt (nD N) b 3 = bt N b 3 := by
  unfold nD
  split
  · unfold nD0; rw [bt_up_lo (by omega), bt_up_lo (by omega), bt_up_lo (by omega)]
  · unfold pN; rw [bt_up_n (by omega) (by omega) (by omega)]; unfold nD0; rw [bt_up_lo (by omega), bt_up_lo (by omega), bt_up_lo (by omega)]
theorem nB_3 (N : Nat → Int) (b : Nat) : bt (nB N) b 3 = bt N b 3 := by
  unfold nB
  split
  · rw [bt_up_lo (by omega)]
  · rw [bt_up_lo (by omega), bt_up_lo (by omega), bt_up_lo (by omega)]
theorem nE_3 (d : Int) (N : Nat → Int) (b : Nat) : bt (nE d N) b 3 = bt N b 3 := by
  have r : bt (nR N) b 3 = bt N b 3 := by unfold nR; rw [bt_up_lo (by omega)]
  unfold nE
  split
  · unfold nW
    split
    · split
      · rw [nD_3, r]
      · rw [nB_3, nD_3, r]
    · exact r
  · exact r
theorem sumD_go {m d l : Int} {N : Nat → Int} (h : Inv m N) : sumD (goN d l N) 7 = sumD N 7 + goA d l N := by
  have hh := h.h
  unfold InH at hh
  unfold goN goA
  have e1 : sumD (finN (swS (drS l (nE d N) (nb N)).1 (nb N))) 7 = sumD (drS l (nE d N) (nb N)).1 7 := sumD_ext 7 (fun b hb => by unfold finN; rw [bt_up_lo (by omega), bt_up_lo (by omega), swS_n (by omega) _ (Or.inr (by omega))])
  have e2 := sumD_drS (l := l) (N := nE d N) (by rw [(nE_kp d N).1.2.2.2.2.2.2.2]; omega) (nb N) (by rw [nE_nb]; exact Nat.le_refl _)
  have e3 : sumD (nE d N) 7 = sumD N 7 := sumD_ext 7 (fun b _ => nE_3 d N b)
  rw [e1, e2, e3]
theorem goN_11 (d l : Int) (N : Nat → Int) : goN d l N 11 = N 11 + 1 := by
  unfold goN finN
  rw [up_s, swS_hd _ (by omega), drS_hd l _ (by omega) (by omega), nE_11]
/-- minutes one after another, and what is kept of them -/
def jtN (d : Int) (N : Nat → Int) : Nat → (Nat → Int)
  | 0 => N
  | i + 1 => goN d 127 (jtN d N i)
def ntI (d : Int) (N U : Nat → Int) (k : Nat) : Nat → (Nat → Int) × Nat
  | 0 => (U, k)
  | i + 1 => (ntU (ntI d N U k i).1 (jtN d N i) (ntI d N U k i).2, min 8 ((ntI d N U k i).2 + 1))
def jtA (d : Int) (N : Nat → Int) : Nat → Int
  | 0 => 0
  | i + 1 => jtA d N i + goA d 127 (jtN d N i)
def jtK (d : Int) (N : Nat → Int) : Nat → Int
  | 0 => 0
  | i + 1 => jtK d N i + eK d (jtN d N i)
theorem jtN_kp (d : Int) (N : Nat → Int) : ∀ i, Kp N (jtN d N i)
  | 0 => ⟨⟨rfl, rfl, rfl, rfl, rfl, rfl, rfl, rfl⟩, fun _ _ => ⟨rfl, rfl, rfl⟩⟩
  | i + 1 => (jtN_kp d N i).tr (goN_kp d 127 _)
theorem jtN_11 (d : Int) (N : Nat → Int) : ∀ i : Nat, jtN d N i 11 = N 11 + i
  | 0 => by show N 11 = N 11 + 0; omega
  | i + 1 => by show goN d 127 _ 11 = _; rw [goN_11, jtN_11 d N i]; omega
theorem jtN_inv {d : Int} {N : Nat → Int} (h : Inv (N 11) N) : ∀ i : Nat, N 11 + i ≤ 9999 → Inv (jtN d N i 11) (jtN d N i)
  | 0, _ => h
  | i + 1, hi => by
    have ih := jtN_inv (d := d) h i (by omega)
    have e := jtN_11 d N i
    rw [jtN_11]
    have := goN_inv (d := d) (l := 127) ih (by omega)
    rw [e] at this
    rw [show N 11 + ((i + 1 : Nat) : Int) = N 11 + (i : Int) + 1 by omega]
    exact this
theorem jtN_sum {N : Nat → Int} {d : Int} (h : Inv (N 11) N) : ∀ i : Nat, N 11 + i ≤ 9999 → sumD (jtN d N i) 7 = sumD N 7 + jtA d N i
  | 0, _ => by show sumD N 7 = sumD N 7 + 0; omega
  | i + 1, hi => by
    show sumD (goN d 127 (jtN d N i)) 7 = sumD N 7 + (jtA d N i + goA d 127 (jtN d N i))
    rw [sumD_go (jtN_inv h i (by omega)), jtN_sum h i (by omega)]; omega
theorem ntI_8 {d : Int} {N U : Nat → Int} {k : Nat} (hk : k ≤ 8) : ∀ i, (ntI d N U k i).2 ≤ 8
  | 0 => hk
  | i + 1 => by show min 8 _ ≤ 8; omega
section MN
variable {G : GG} {t : Mem}
/-- the class when i minutes have been lived -/
def LvX (t u : Mem) (M U : Nat → Int) (k : Nat) : Prop := MomR u 7 M ∧ CampR u 1 M ∧ OrdC u 1 M ∧ PastR u 12 M U (k : Int) ∧ ∀ x, (x = 0 ∨ 53 < x) → u x = t x
theorem x_live {u : Mem} {M U : Nat → Int} {k : Nat} {R : Mem → Prop} (h : LvX t u M U k) (hI : Inv (M 11) M) (hm : M 11 ≤ 9999) (kk : ∀ w, PastR w 12 (goN 0 127 M) (ntU U M k) (min 8 (k + 1) : Nat) → MomR w 7 M → CampR w 1 M → OrdC w 1 M → (∀ x, (x = 0 ∨ 53 < x) → w x = t x) → R w) : ∃ P : Int → Mem → Prop, Ex G mX2_keep [RR 12, RR 7] u P ∧ ∀ w, P 0 w → R w := by
  obtain ⟨h1, h2, h3, ⟨nx, kn, ⟨p1, p2, p3, p4, p5⟩, pE⟩, h5⟩ := h
  have ek : kn = k := by omega
  subst ek
  refine cqv (x_keep is12 is7 (by omega) p3 p4 p1 p2) (fun w hw => ?_)
  obtain ⟨g1, g2, g3, g4, g5⟩ := hw
  have uM : MomR w (12 + 2 + 5 * nx) M := MomG.cp h1 g3 g4
  refine kk w (PastR.keep p1 p2 pE hI hm (fun j hj => goN_nm hI (by omega) hj) g1 g2 uM (fun x _ _ hx => g5 x (by omega) hx)) (MomG.kept h1 (fun x _ _ => g5 x (by omega) (by omega))) (h2.kept (fun x _ _ => g5 x (by omega) (by omega))) (fun q hq => by rw [g5 (1 + 5) (by omega) (by omega)]; exact h3 q hq) (fun x hx => by rw [g5 x (by omega) (by omega), h5 x hx])
end MN
