/-! well, of, turn, count, holds -/
def wN (t : Mem) (n : Nat) (v : Int) : Mem := if n = 0 then wr t 7 0 v else wr t 1 (n - 1) v
theorem lowhigh : ∀ n : Nat, n < 7 → (0 ≤ lowV n ∧ lowV n ≤ 1) ∧ (0 ≤ highV n ∧ highV n ≤ 60) := by decide
section S3
variable {G : GG} {t : Mem}
theorem c_low {n : Nat} (hn : n < 7) : Ex G mX6_low [II (n : Int)] t (Ret (lowV n) t) := by
  refine eX6_low (sgX6_low_0 ⟨i32 (by omega) (by omega), ?_⟩)
  have : n = 0 ∨ n = 1 ∨ n = 2 ∨ n = 3 ∨ n = 4 ∨ n = 5 ∨ n = 6 := by omega
  rcases this with rfl | rfl | rfl | rfl | rfl | rfl | rfl
  · exact br_f (by decide) (br_f (by decide) ⟨rfl, rfl⟩)
  · exact br_f (by decide) (br_f (by decide) ⟨rfl, rfl⟩)
  · exact br_t (by decide) ⟨rfl, rfl⟩
  · exact br_f (by decide) (br_t (by decide) ⟨rfl, rfl⟩)
  · exact br_f (by decide) (br_f (by decide) ⟨rfl, rfl⟩)
  · exact br_f (by decide) (br_f (by decide) ⟨rfl, rfl⟩)
  · exact br_f (by decide) (br_f (by decide) ⟨rfl, rfl⟩)
theorem c_high {n : Nat} (hn : n < 7) : Ex G mX6_high [II (n : Int)] t (Ret (highV n) t) := by
  refine eX6_high (sgX6_high_0 ⟨i32 (by omega) (by omega), ?_⟩)
  have : n = 0 ∨ n = 1 ∨ n = 2 ∨ n = 3 ∨ n = 4 ∨ n = 5 ∨ n = 6 := by omega
  refine ⟨?_, ?_, ?_, ?_, ?_, ?_, ?_⟩ <;> intro e <;> rcases this with rfl | rfl | rfl | rfl | rfl | rfl | rfl <;> first | exact absurd e (by decide) | exact ⟨rfl, rfl⟩
theorem x_measure {n : Nat} (hn : n < 7) (hR : Rel t) : Ex G mX5_measure [RR 0, II (n : Int)] t (Ret (t 133 n) t) := by
  obtain ⟨c0, c1, c2, c3, c4, c5, c6, c7⟩ := hR.camp.1
  have m0 : t 7 0 = t 133 0 := hR.mom.1.1
  refine eX5_measure (sgX5_measure_0 ⟨i32 (by omega) (by omega), ?_⟩)
  have : n = 0 ∨ n = 1 ∨ n = 2 ∨ n = 3 ∨ n = 4 ∨ n = 5 ∨ n = 6 := by omega
  refine ⟨?_, ?_, ?_, ?_, ?_, ?_, ?_⟩ <;> intro e <;> rcases this with rfl | rfl | rfl | rfl | rfl | rfl | rfl <;> first | exact absurd e (by decide) | exact ⟨m0, rfl⟩ | exact ⟨c0, rfl⟩ | exact ⟨c1, rfl⟩ | exact ⟨c2, rfl⟩ | exact ⟨c3, rfl⟩ | exact ⟨c4, rfl⟩ | exact ⟨c5, rfl⟩
theorem s_well {a v : Int} (ha : In32 a) (hv : In32 v) (hR : Rel t) : Step G mX5_well [RR 0, II a, II v] mX6_well [RR 132, II a, II v] t := by
  have hh := hR.inv.h
  unfold InH at hh
  by_cases c : 0 ≤ a ∧ a ≤ 6
  · obtain ⟨n, rfl⟩ : ∃ n : Nat, a = n := ⟨a.toNat, by omega⟩
    have hn : n < 7 := by omega
    have lh := lowhigh n hn
    have cs : n = 0 ∨ n = 1 ∨ n = 2 ∨ n = 3 ∨ n = 4 ∨ n = 5 ∨ n = 6 := by omega
    by_cases d : lowV n ≤ v ∧ v ≤ highV n
    · have hRw : Rel (wr (wN t n v) 133 n v) := by
        have d2 := d
        rcases cs with rfl | rfl | rfl | rfl | rfl | rfl | rfl <;> simp only [lowV, highV, List.getD_cons_zero, List.getD_cons_succ] at d2
        · exact hR.setM (Or.inl ⟨rfl, rfl⟩) (fun m h => by unfold InH at h ⊢; simp only [up]; simp; omega)
        · exact hR.set (by omega) (fun m M e h => by unfold InH at h ⊢; simp only [up]; simp; omega)
        · exact hR.set (by omega) (fun m M e h => by unfold InH at h ⊢; simp only [up]; simp; omega)
        · exact hR.set (by omega) (fun m M e h => by unfold InH at h ⊢; simp only [up]; simp; omega)
        · exact hR.set (by omega) (fun m M e h => by unfold InH at h ⊢; simp only [up]; simp; omega)
        · exact hR.set (by omega) (fun m M e h => by unfold InH at h ⊢; simp only [up]; simp; omega)
        · exact hR.set (by omega) (fun m M e h => by unfold InH at h ⊢; simp only [up]; simp; omega)
      have e133 : wN t n v 133 = t 133 := by unfold wN; split <;> exact wr_n (by decide)
      refine Step.one (u := wN t n v) (v := t 133 n) hRw (by rcases cs with rfl | rfl | rfl | rfl | rfl | rfl | rfl <;> exact i32 (by omega) (by omega)) (eX5_well (sgX5_well_0 (ck (x_out0 (iL rfl) (iL rfl) (by omega)) ⟨iL rfl, nb_f rfl ⟨by omega, ?_⟩⟩))) (eX6_well (sgX6_well_0 ⟨ha, ck (c_in1 (j32 ha) (jL rfl) (jL rfl) c) ⟨iL rfl, br_f (by decide) ⟨hv, ck (c_low hn) ⟨i32 (by omega) (by omega), ck (c_high hn) ⟨i32 (by omega) (by omega), ck (c_in1 (j32 hv) (j32 (i32 (by omega) (by omega))) (j32 (i32 (by omega) (by omega))) d) ⟨iL rfl, nb_t (by decide) ⟨by omega, fun u e => ⟨?_, ?_⟩⟩⟩⟩⟩⟩⟩⟩))
      · rw [Int.toNat_natCast]
        refine ck (x_out0 (i32 (by omega) (by omega)) (i32 (by omega) (by omega)) d) ⟨iL rfl, br_t rfl (ck (x_measure hn hR) ⟨ha, ?_⟩)⟩
        refine ⟨?_, ?_, ?_, ?_, ?_, ?_, ?_⟩ <;> intro e u eu <;> rcases cs with rfl | rfl | rfl | rfl | rfl | rfl | rfl <;> first | exact absurd e (by decide) | exact ⟨rfl, eu⟩
      · rw [e133, Int.toNat_natCast]
      · rw [Int.toNat_natCast] at e; exact e
    · refine Step.pure (v := -1) hR (iL rfl) (eX5_well (sgX5_well_0 (ck (x_out0 (iL rfl) (iL rfl) (by omega)) ⟨iL rfl, nb_f rfl ⟨by omega, ?_⟩⟩))) (eX6_well (sgX6_well_0 ⟨ha, ck (c_in1 (j32 ha) (jL rfl) (jL rfl) c) ⟨iL rfl, br_f (by decide) ⟨hv, ck (c_low hn) ⟨i32 (by omega) (by omega), ck (c_high hn) ⟨i32 (by omega) (by omega), ck (c_in0 (j32 hv) (j32 (i32 (by omega) (by omega))) (j32 (i32 (by omega) (by omega))) d) ⟨iL rfl, nb_f rfl ⟨rfl, rfl⟩⟩⟩⟩⟩⟩⟩))
      rw [Int.toNat_natCast]
      exact ck (x_out1 hv (i32 (by omega) (by omega)) (i32 (by omega) (by omega)) d) ⟨iL rfl, br_f (by decide) ⟨rfl, rfl⟩⟩
  · exact Step.pure (v := -1) hR (iL rfl) (eX5_well (sgX5_well_0 (ck (x_out1 ha (iL rfl) (iL rfl) (by omega)) ⟨iL rfl, nb_t (by decide) ⟨rfl, rfl⟩⟩))) (eX6_well (sgX6_well_0 ⟨ha, ck (c_in0 (j32 ha) (jL rfl) (jL rfl) c) ⟨iL rfl, br_t rfl ⟨rfl, rfl⟩⟩⟩))
theorem drk_g (N : Nat → Int) (b : Nat) : drk N b = if bt N b 0 = 2 then 2 else if bt N b 0 = 3 then 8 else 4 := rfl
def ofN (N : Nat → Int) (b : Nat) (w : Int) : Int := if w = 0 then bt N b 0 else if w = 1 then bt N b 1 else if w = 2 then bt N b 2 else if w = 3 then need N b else if w = 4 then bt N b 3 else if w = 5 then bt N b 4 else if w = 6 then (if need N b ≤ bt N b 3 then 1 else 0) else if w = 7 then bt N b 6 else drk N b
theorem s_of {a w : Int} (ha : In32 a) (hw : In32 w) (hR : Rel t) : Step G mX5_of [RR 0, II a, II w] mX6_of [RR 132, II a, II w] t := by
  have h12 := hR.h12
  have c7 : t 1 7 = t 133 12 := hR.camp.1.2.2.2.2.2.2.2
  by_cases c : 0 ≤ a ∧ a < t 133 12
  · obtain ⟨n, rfl⟩ : ∃ n : Nat, a = n := ⟨a.toNat, by omega⟩
    have hn : n < 7 := by omega
    have cb := hR.camp.2 n hn c.2
    have mb := hR.mom.2 n hn
    have ib := hR.inv.b hn
    unfold InB at ib
    have hnd := need_in hR.inv hn
    have hdk := drk_in (t 133) n
    have m4 := hR.mn
    by_cases d : 0 ≤ w ∧ w ≤ 8
    · have i1 : In32 (ofN (t 133) n w) := by
        unfold ofN
        have c1 : In32 (1 : Int) := iL rfl
        repeat' split
        all_goals first | exact i32 (by omega) (by omega) | exact iL rfl
      refine Step.pure (v := ofN (t 133) n w) hR i1 (eX5_of (sgX5_of_0 (ck (x_lacks is1 ha (by rw [c7]; omega)) ?_))) (eX6_of (sgX6_of_0 (ck (c_isBeast1 (by omega) c) ⟨iL rfl, br_f (by decide) ⟨hw, ck (c_in1 (j32 hw) (jL rfl) (jL rfl) d) ⟨iL rfl, nb_t (by decide) ?_⟩⟩⟩)))
      · rw [c7, if_pos c]
        refine ⟨iL rfl, br_t rfl ⟨hw, ?_⟩⟩
        rw [Int.toNat_natCast]
        refine ⟨?_, ?_, ?_, ?_, ?_, ?_, ?_, ?_, ?_, ?_⟩ <;> intro e
        · subst e; exact ⟨by omega, cb.1, rfl⟩
        · subst e; exact ⟨by omega, cb.2.1, rfl⟩
        · subst e; exact ⟨by omega, cb.2.2.1, rfl⟩
        · subst e; exact ck (x_needs is7 is1 hR.mom hR.camp hR.inv hn c.2) ⟨rfl, rfl⟩
        · subst e; exact ⟨by omega, mb.1, rfl⟩
        · subst e; exact ⟨by omega, mb.2.1, rfl⟩
        · subst e; refine ck (x_sated is7 is1 hR.mom hR.camp hR.inv hn c.2) ⟨by split <;> exact iL rfl, ?_, rfl⟩
          show _ = if need (t 133) n ≤ bt (t 133) n 3 then (1 : Int) else 0
          split <;> rfl
        · subst e; exact ⟨by omega, mb.2.2.1, rfl⟩
        · subst e; refine ⟨by omega, ?_⟩
          rw [show t 2 n = bt (t 133) n 0 from cb.1]
          exact ck (x_gulp (i32 (by omega) (by omega))) ⟨rfl, rfl⟩
        · omega
      · refine ⟨?_, ?_, ?_, ?_, ?_, ?_, ?_, ?_, ?_⟩ <;> intro e
        · subst e; exact ck (c_at (w := 0) hn (by omega)) ⟨rfl, rfl⟩
        · subst e; exact ck (c_at (w := 1) hn (by omega)) ⟨rfl, rfl⟩
        · subst e; exact ck (c_at (w := 2) hn (by omega)) ⟨rfl, rfl⟩
        · subst e; exact ck (c_needs hR.inv hn) ⟨rfl, rfl⟩
        · subst e; exact ck (c_at (w := 3) hn (by omega)) ⟨rfl, rfl⟩
        · subst e; exact ck (c_at (w := 4) hn (by omega)) ⟨rfl, rfl⟩
        · subst e; refine ck (c_isSated hR.inv hn) ⟨by split <;> exact iL rfl, ?_, rfl⟩
          show _ = if need (t 133) n ≤ bt (t 133) n 3 then (1 : Int) else 0
          split <;> rfl
        · subst e; exact ck (c_at (w := 6) hn (by omega)) ⟨rfl, rfl⟩
        · have : w = 8 := by omega
          subst this; exact ck (c_drinks hR.inv hn) ⟨rfl, rfl⟩
    · refine Step.pure (v := -1) hR (iL rfl) (eX5_of (sgX5_of_0 (ck (x_lacks is1 ha (by rw [c7]; omega)) ?_))) (eX6_of (sgX6_of_0 (ck (c_isBeast1 (by omega) c) ⟨iL rfl, br_f (by decide) ⟨hw, ck (c_in0 (j32 hw) (jL rfl) (jL rfl) d) ⟨iL rfl, nb_f rfl ⟨rfl, rfl⟩⟩⟩⟩)))
      rw [c7, if_pos c]
      refine ⟨iL rfl, br_t rfl ⟨hw, ?_⟩⟩
      refine ⟨?_, ?_, ?_, ?_, ?_, ?_, ?_, ?_, ?_, ?_⟩ <;> intro e <;> first | exact ⟨rfl, rfl⟩ | (exfalso; omega)
  · refine Step.pure (v := -1) hR (iL rfl) (eX5_of (sgX5_of_0 (ck (x_lacks is1 ha (by rw [c7]; omega)) ?_))) (eX6_of (sgX6_of_0 (ck (c_isBeast0 ha (by omega) c) ⟨iL rfl, br_t rfl ⟨rfl, rfl⟩⟩)))
    rw [c7, if_neg c]
    exact ⟨iL rfl, br_f (by decide) ⟨rfl, rfl⟩⟩
theorem Rel.fl {u : Mem} (h : Rel t) (f : Fl t u 1) : Rel u := by
  have ne : ∀ x, x ≠ 1 → x ≠ 6 → u x = t x := fun x a b => f.1 x a b
  have r := h.rest (u := u) ⟨fun x hx => ne x (by omega) (by omega), fun k hk => by rw [ne 132 (by omega) (by omega)]⟩
  have e133 := ne 133 (by omega) (by omega)
  refine ⟨by rw [e133]; exact h.inv, by rw [e133]; exact h.mn, h.ord.of h.h12.2 (by rw [e133]; exact SmB.rf _) (by rw [ne 132 (by omega) (by omega)]) (ne 134 (by omega) (by omega)), by rw [e133]; exact h.camp.fl f, by rw [e133]; exact MomG.kept h.mom (fun x _ _ => ne x (by omega) (by omega)), ?_, r.1, r.2.1, r.2.2⟩
  rw [e133, ne 135 (by omega) (by omega), ne 132 (by omega) (by omega)]
  exact h.past.kept (ne 12 (by omega) (by omega)) (fun x _ _ => ne x (by omega) (by omega))
theorem s_turn {a : Int} (ha : In32 a) (hR : Rel t) : Step G mX5_turn [RR 0, II a] mX6_turn [RR 132, II a] t := by
  have h12 := hR.h12
  have hh := hR.inv.h
  unfold InH at hh
  have c7 : t 1 7 = t 133 12 := hR.camp.1.2.2.2.2.2.2.2
  by_cases c : 0 ≤ a ∧ a < t 133 12
  · have hk : a.toNat < nb (t 133) := by unfold nb; omega
    have o7 : ordF (t 133) a.toNat < nb (t 133) := (ordF_ok hk).1
    refine ⟨(ordF (t 133) a.toNat : Int), fun u => Fl t u 1, i32 (by omega) (by unfold nb at o7; omega), eX5_turn (sgX5_turn_0 (ck (x_lacks is1 ha (by rw [c7]; omega)) ?_)), fun u hu => ?_⟩
    · rw [c7, if_pos c]
      exact ⟨iL rfl, br_t rfl (cqv (x_arrange is1 hR.inv hR.camp) (fun u h => ⟨by omega, h.1 _ hk, h.2⟩))⟩
    · have hRu := hR.fl hu
      have e133 : u 133 = t 133 := hu.1 133 (by omega) (by omega)
      refine eX6_turn (sgX6_turn_0 (ck (c_isBeast1 (by rw [e133]; omega) (by rw [e133]; exact c)) ⟨iL rfl, nb_t (by decide) (cqv (c_orders hRu.inv) (fun w h => ⟨by omega, ?_, ?_⟩))⟩))
      · rw [h.2 a.toNat (by rw [e133]; exact hk), e133]
      · have ne : ∀ x, x ≠ 132 → x ≠ 134 → w x = u x := fun x a b => by rw [h.1 x b, wr_n a]
        have w132 : ∀ j, j ≠ 2 → w 132 j = u 132 j := fun j hj => by rw [h.1 132 (by omega), wr_sn hj]
        have w2 : w 132 2 = u 133 6 := by rw [h.1 132 (by omega), wr_ss]
        have w133 := ne 133 (by omega) (by omega)
        have r := hRu.rest (u := w) ⟨fun x hx => ne x (by omega) (by omega), fun k hk => w132 k (by omega)⟩
        refine ⟨by rw [w133]; exact hRu.inv, by rw [w133]; exact hRu.mn, ?_, by rw [w133]; exact hRu.camp.kept (fun x _ _ => ne x (by omega) (by omega)), by rw [w133]; exact MomG.kept hRu.mom (fun x _ _ => ne x (by omega) (by omega)), ?_, r.1, r.2.1, r.2.2⟩
        · unfold OrdI
          rw [w2, w133, up_same]
          exact ⟨by rw [e133]; omega, by rw [e133]; omega, fun _ => h.2⟩
        · rw [w133, ne 135 (by omega) (by omega), w132 5 (by omega)]
          exact hRu.past.kept (ne 12 (by omega) (by omega)) (fun x _ _ => ne x (by omega) (by omega))
  · refine Step.pure (v := -1) hR (iL rfl) (eX5_turn (sgX5_turn_0 (ck (x_lacks is1 ha (by rw [c7]; omega)) ?_))) (eX6_turn (sgX6_turn_0 (ck (c_isBeast0 ha (by omega) c) ⟨iL rfl, nb_f rfl ⟨rfl, rfl⟩⟩)))
    rw [c7, if_neg c]
    exact ⟨iL rfl, br_f (by decide) ⟨rfl, rfl⟩⟩
/-- the chance that the rope holds -/
def hdN (W : Int) : Nat → Int
  | 0 => 1000000
  | k + 1 => hdN W k * (100 - min 100 ((W + ((k : Int) + 1)) / 10)) / 100
theorem hdN_in {W : Int} (hW : 0 ≤ W) : ∀ k, (0 ≤ hdN W k ∧ hdN W k ≤ 1000000) ∧ 0 ≤ hdN W k * (100 - min 100 ((W + ((k : Int) + 1)) / 10)) ∧ hdN W k * (100 - min 100 ((W + ((k : Int) + 1)) / 10)) ≤ 100000000 := by
  have st : ∀ (a : Int) (k : Nat), 0 ≤ a → a ≤ 1000000 → 0 ≤ a * (100 - min 100 ((W + ((k : Int) + 1)) / 10)) ∧ a * (100 - min 100 ((W + ((k : Int) + 1)) / 10)) ≤ 100000000 := by
    intro a k h0 h1
    have c0 : 0 ≤ 100 - min 100 ((W + ((k : Int) + 1)) / 10) := by omega
    have c1 : 100 - min 100 ((W + ((k : Int) + 1)) / 10) ≤ 100 := by omega
    exact ⟨Int.mul_nonneg h0 c0, Int.le_trans (Int.mul_le_mul h1 c1 c0 (by omega)) (by decide)⟩
  intro k
  induction k with
  | zero => exact ⟨⟨by unfold hdN; omega, by unfold hdN; omega⟩, st _ 0 (by unfold hdN; omega) (by unfold hdN; omega)⟩
  | succ k ih =>
    have e : hdN W (k + 1) = hdN W k * (100 - min 100 ((W + ((k : Int) + 1)) / 10)) / 100 := rfl
    have i : 0 ≤ hdN W (k + 1) ∧ hdN W (k + 1) ≤ 1000000 := by rw [e]; omega
    exact ⟨i, st _ (k + 1) i.1 i.2⟩
theorem s_holds {v : Int} (hv : In32 v) (hR : Rel t) : Step G mX5_holds [RR 0, II v] mX6_holds [RR 132, II v] t := by
  have hh := hR.inv.h
  unfold InH at hh
  have hmn := hR.mn
  have m2 : t 7 2 = t 133 8 := hR.mom.1.2.2.1
  by_cases c : 0 ≤ v ∧ v ≤ 240
  · have hd := hdN_in (W := t 133 8) (by omega)
    have lx : ∀ (dd k : Nat), k + dd = v.toNat → V G mX5_holds 18 [(0, RR 0), (1, II v), (2, II (hdN (t 133 8) k)), (3, II ((k : Int) + 1))] [] t (Ret (hdN (t 133 8) v.toNat) t) := by
      intro dd
      induction dd with
      | zero =>
        intro k hk
        exact sgX5_holds_18 ⟨i32 (by omega) (by omega), hv, br_t (by omega) ⟨by rw [show k = v.toNat by omega], rfl⟩⟩
      | succ dd ih =>
        intro k hk
        have h := hd k
        refine sgX5_holds_18 ⟨i32 (by omega) (by omega), hv, br_f (by omega) ?_⟩
        rw [m2]
        exact ⟨⟨by omega, i32 (by omega) (by omega)⟩, i32 (by omega) (by omega), ⟨h.2.1, i32 (by omega) (by omega)⟩, ih (k + 1) (by omega)⟩
    have lm : ∀ (dd k : Nat), k + dd = v.toNat → V G mX6_holds 19 [(0, RR 132), (1, II v), (2, II (hdN (t 133 8) k)), (3, II ((k : Int) + 1))] [] t (Ret (hdN (t 133 8) v.toNat) t) := by
      intro dd
      induction dd with
      | zero =>
        intro k hk
        exact sgX6_holds_19 ⟨i32 (by omega) (by omega), hv, br_t (by omega) ⟨by rw [show k = v.toNat by omega], rfl⟩⟩
      | succ dd ih =>
        intro k hk
        have h := hd k
        refine sgX6_holds_19 ⟨i32 (by omega) (by omega), hv, br_f (by omega) ⟨⟨by omega, i32 (by omega) (by omega)⟩, i32 (by omega) (by omega), fun w ew => ?_⟩⟩
        have e : w = 100 - min 100 ((t 133 8 + ((k : Int) + 1)) / 10) := by rw [ew]; split <;> omega
        rw [e]
        exact ⟨⟨h.2.1, i32 (by omega) (by omega)⟩, ih (k + 1) (by omega)⟩
    have := (hd v.toNat).1
    exact Step.pure (v := hdN (t 133 8) v.toNat) hR (i32 (by omega) (by omega)) (eX5_holds (sgX5_holds_0 (ck (x_out0 (iL rfl) (iL rfl) c) ⟨iL rfl, br_t rfl (lx v.toNat 0 (by omega))⟩))) (eX6_holds (sgX6_holds_0 ⟨hv, ck (c_in1 (j32 hv) (jL rfl) (jL rfl) c) ⟨iL rfl, nb_t (by decide) (lm v.toNat 0 (by omega))⟩⟩))
  · exact Step.pure (v := -1) hR (iL rfl) (eX5_holds (sgX5_holds_0 (ck (x_out1 hv (iL rfl) (iL rfl) c) ⟨iL rfl, br_f (by decide) ⟨rfl, rfl⟩⟩))) (eX6_holds (sgX6_holds_0 ⟨hv, ck (c_in0 (j32 hv) (jL rfl) (jL rfl) c) ⟨iL rfl, nb_f rfl ⟨rfl, rfl⟩⟩⟩))
end S3
