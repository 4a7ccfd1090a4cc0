/-! buckets: which sizes show what was seen -/
def bkB (M : Nat → Int) (f : Nat → Nat) (g : Nat → Int) (n : Nat) : Bool := (List.range n).all (fun a => decide (itN 127 M (f a) 0 = g a))
theorem bkB_iff {M : Nat → Int} {f : Nat → Nat} {g : Nat → Int} {n : Nat} : bkB M f g n = true ↔ ∀ a, a < n → itN 127 M (f a) 0 = g a := by
  unfold bkB
  rw [List.all_eq_true]
  exact ⟨fun h a ha => of_decide_eq_true (h a (List.mem_range.mpr ha)), fun h a ha => decide_eq_true (h a (List.mem_range.mp ha))⟩
def bkV (p : Nat → Bool) : Nat → Int
  | 0 => 0
  | k + 1 => if p (k + 1) = true then iOr (bkV p k) (iShl 1 ((k + 1 : Nat) : Int)) else bkV p k
theorem bkV_in (p : Nat → Bool) : ∀ k, In32 (bkV p k)
  | 0 => iL rfl
  | k + 1 => by unfold bkV; split; exact iOr_in _ _; exact bkV_in p k
theorem inv3 {m v : Int} {N : Nat → Int} (hI : Inv m N) (h : 1 ≤ v ∧ v ≤ 9) : Inv m (up N 3 v) := by
  have hh := hI.h
  unfold InH at hh
  exact hI.lo (by omega) (by omega) (by unfold InH; simp only [up]; simp; omega)
theorem FtM.lo3 {t0 u : Mem} {N M : Nat → Int} {v : Int} (h : FtM t0 u N M) : FtM t0 (wr u 133 3 v) N (up M 3 v) := by
  obtain ⟨h1, h2, h3, ⟨h4, h5⟩, h6, h7⟩ := h
  have sm : SmB M (up M 3 v) := ⟨by rw [up_n (by omega)], fun b _ => by rw [bt_up_lo (by omega), bt_up_lo (by omega), bt_up_lo (by omega)]; exact ⟨rfl, rfl, rfl⟩⟩
  refine ⟨by rw [wr_s, h1], fun i hi => by rw [wr_n (by decide)]; exact h2 i hi, fun i hi => by rw [up_n (by omega)]; exact h3 i hi, ⟨⟨by rw [up_n (by omega)]; exact h4.1, fun b hb => by rw [bt_up_lo (by omega), bt_up_lo (by omega), bt_up_lo (by omega)]; exact h4.2 b hb⟩, h5⟩, ?_, fun i hi => by rw [wr_n (by decide)]; exact h7.1 i hi, fun x a b c d f => by rw [wr_n b]; exact h7.2 x a b c d f⟩
  unfold OrdI at h6 ⊢
  rw [wr_n (by decide), wr_s, h1]
  rw [h1] at h6
  refine ⟨h6.1, h6.2.1, fun q => ?_⟩
  have hs := (h6.2.2 q).same (sm.same (u 132 2)) (by rw [up_n (by omega), h4.1]; exact h5)
  intro k hk
  rw [wr_n (by decide)]; exact hs k hk
section BK
variable {G : GG} {t : Mem} {m : Int} {N : Nat → Int}
theorem x_foretell2 (hC : CampR t 1 N) (hM : MomR t 7 N) (hI : Inv m N) : Ex G mX5_foretell [RR 0] t (fun _ u => CampR u 107 N ∧ OrdC u 107 N ∧ MomR u 113 N ∧ ∀ x, x < 107 ∨ 117 < x → u x = t x) := by
  refine eX5_foretell (sgX5_foretell_0 ?_)
  refine cqv (x_ctake is107 is1 (by decide)) (fun u4 h4 => ?_)
  refine cqv (x_arrange is107 hI (h4.camp hC)) (fun u9 h9 => ?_)
  have M9 : MomR u9 7 N := hM.kept (fun x h1 h2 => by rw [h9.2.1 x (by omega) (by omega), h4.2.2 x (by omega)])
  refine cqv (x_mtake is113 is7 (by decide)) (fun u14 h14 => ⟨?_, ?_, h14.mom M9, fun x hx => ?_⟩)
  · exact ((h4.camp hC).fl h9.2).kept (fun x h1 h2 => h14.2.2 x (by omega))
  · intro k hk; rw [h14.2.2 (107 + 5) (by omega)]; exact h9.1 k hk
  · rw [h14.2.2 x (by omega), h9.2.1 x (by omega) (by omega), h4.2.2 x (by omega)]
/-- one size, the class -/
theorem x_wouldBe {f : Nat → Nat} {g : Nat → Int} {n : Nat} {v : Int} (hn : n ≤ 8) (hv : 1 ≤ v ∧ v ≤ 9) (hf : ∀ a, a < n → t 119 a = (f a : Int) ∧ t 120 a = g a ∧ f a ≤ 240 ∧ In32 (g a)) (hC : CampR t 1 N) (hM : MomR t 7 N) (hI : Inv m N) (hm : m + 241 ≤ 20000) : Ex G mX5_wouldBeSeen [RR 0, II v, II (n : Int)] t (fun r u => r = (if bkB (up N 3 v) f g n = true then 1 else 0) ∧ ∀ x, x < 107 ∨ 117 < x → u x = t x) := by
  have hh := hI.h
  unfold InH at hh
  have hI3 := inv3 hI hv
  have run : ∀ (z : Nat), z ≤ 240 → (∀ a, a < n → f a ≤ z) → ∀ (dd k : Nat) (u : Mem), k + dd = z + 1 → (∀ a, a < n → f a < k → itN 127 (up N 3 v) (f a) 0 = g a) → CampR u 107 (itN 127 (up N 3 v) k) → OrdC u 107 (itN 127 (up N 3 v) k) → MomR u 113 (itN 127 (up N 3 v) k) → (∀ x, x < 107 ∨ 117 < x → u x = t x) → V G mX5_wouldBeSeen 44 [(0, RR 0), (1, II v), (2, II (n : Int)), (3, II (z : Int)), (4, II (k : Int))] [] u (fun r u => r = (if bkB (up N 3 v) f g n = true then 1 else 0) ∧ ∀ x, x < 107 ∨ 117 < x → u x = t x) := by
    intro z hz hall dd
    induction dd with
    | zero =>
      intro k u hk h1 _ _ _ h5
      refine sgX5_wouldBeSeen_44 ⟨i32 (by omega) (by omega), i32 (by omega) (by omega), br_t (by omega) ⟨?_, h5⟩⟩
      rw [if_pos (bkB_iff.mpr (fun a ha => h1 a ha (by have := hall a ha; omega)))]
    | succ dd ih =>
      intro k u hk h1 h2 h3 h4 h5
      have hIk := itN_inv (l := 127) hI3 k (by omega)
      have hw := hIk.h
      unfold InH at hw
      have e0 : u 113 0 = itN 127 (up N 3 v) k 0 := h4.1.1
      refine sgX5_wouldBeSeen_44 ⟨i32 (by omega) (by omega), i32 (by omega) (by omega), br_f (by omega) ?_⟩
      have inn : ∀ (d2 j : Nat), j + d2 = n → (∀ a, a < j → f a = k → itN 127 (up N 3 v) (f a) 0 = g a) → V G mX5_wouldBeSeen 53 [(0, RR 0), (1, II v), (2, II (n : Int)), (3, II (z : Int)), (4, II (k : Int)), (5, II (j : Int))] [] u (fun r u => r = (if bkB (up N 3 v) f g n = true then 1 else 0) ∧ ∀ x, x < 107 ∨ 117 < x → u x = t x) := by
        intro d2
        induction d2 with
        | zero =>
          intro j hj hb
          refine sgX5_wouldBeSeen_53 ⟨i32 (by omega) (by omega), i32 (by omega) (by omega), br_t (by omega) (cq (x_tstep h2 h3 h4 hIk (by omega)) (fun r u6 h6 => ?_))⟩
          obtain ⟨-, -, ⟨g3, g4, g5⟩, g6⟩ := h6
          refine ih (k + 1) u6 (by omega) (fun a ha hak => ?_) g3 g4 g5 (fun x hx => by rw [g6 x (by omega), h5 x hx])
          rcases Nat.lt_or_eq_of_le (Nat.le_of_lt_succ hak) with q | q
          · exact h1 a ha q
          · exact hb a (by omega) q
        | succ d2 ih2 =>
          intro j hj hb
          have fj := hf j (by omega)
          have e1 : u 119 j = (f j : Int) := by rw [h5 119 (by omega)]; exact fj.1
          have e2 : u 120 j = g j := by rw [h5 120 (by omega)]; exact fj.2.1
          refine sgX5_wouldBeSeen_53 ⟨i32 (by omega) (by omega), i32 (by omega) (by omega), br_f (by omega) ⟨by omega, ?_⟩⟩
          rw [Int.toNat_natCast, e1, e2, e0]
          refine ⟨i32 (by omega) (by omega), i32 (by omega) (by omega), ?_⟩
          have nx : (f j = k → itN 127 (up N 3 v) (f j) 0 = g j) → V G mX5_wouldBeSeen 53 [(0, RR 0), (1, II v), (2, II (n : Int)), (3, II (z : Int)), (4, II (k : Int)), (5, II ((j : Int) + 1))] [] u (fun r u => r = (if bkB (up N 3 v) f g n = true then 1 else 0) ∧ ∀ x, x < 107 ∨ 117 < x → u x = t x) := fun q => ih2 (j + 1) (by omega) (fun a ha hak => by
            rcases Nat.lt_or_eq_of_le (Nat.le_of_lt_succ ha) with w | w
            · exact hb a w hak
            · rw [w] at hak ⊢; exact q hak)
          by_cases c : f j = k
          · refine nb_f (by omega) ⟨fj.2.2.2, i32 (by omega) (by omega), ?_⟩
            by_cases d : g j = itN 127 (up N 3 v) k 0
            · exact br_t d (nx (fun q => by rw [q]; exact d.symm))
            · refine br_f d ⟨?_, h5⟩
              rw [if_neg (fun q => d (by have := bkB_iff.mp q j (by omega); rw [c] at this; exact this.symm))]
          · exact nb_t (by omega) (nx (fun q => absurd q c))
      exact inn n 0 (by omega) (fun a ha => absurd ha (Nat.not_lt_zero a))
  refine eX5_wouldBeSeen (sgX5_wouldBeSeen_0 (cqv (x_foretell2 hC hM hI) (fun u4 h4 u6 e6 => ?_)))
  obtain ⟨c1, c2, c3, c4⟩ := h4
  have sm : Same N (up N 3 v) := ⟨(up_n (by omega)).symm, (up_n (by omega)).symm, fun b hb => by rw [bt_up_lo (by omega), bt_up_lo (by omega), bt_up_lo (by omega)]; exact ⟨rfl, rfl, rfl⟩⟩
  have C6 : CampR u6 107 (up N 3 v) := by
    rw [e6]
    refine CampR.wr107 c1 (by omega) (fun _ _ _ => trivial) ?_ (by omega) (fun b hb => by rw [bt_up_lo (by omega), bt_up_lo (by omega), bt_up_lo (by omega)]; exact ⟨rfl, rfl, rfl⟩)
    simp [up]
  have O6 : OrdC u6 107 (up N 3 v) := fun k hk => by
    have hk2 : k < nb N := by unfold nb at hk ⊢; rw [up_n (by omega)] at hk; exact hk
    rw [e6, wr_n (by omega), c2 k hk2, sm.ordE (by omega) hk2]
  have M6 : MomR u6 113 (up N 3 v) := MomR.lo (show MomR u6 113 N from MomG.kept c3 (fun x _ _ => by rw [e6, wr_n (by omega)])) (by omega)
  have F6 : ∀ x, x < 107 ∨ 117 < x → u6 x = t x := fun x hx => by rw [e6, wr_n (by omega), c4 x hx]
  have mx : ∀ (dd k z : Nat), k + dd = n → z ≤ 240 → (∀ a, a < k → f a ≤ z) → V G mX5_wouldBeSeen 17 [(0, RR 0), (1, II v), (2, II (n : Int)), (3, II (z : Int)), (4, II (k : Int))] [] u6 (fun r u => r = (if bkB (up N 3 v) f g n = true then 1 else 0) ∧ ∀ x, x < 107 ∨ 117 < x → u x = t x) := by
    intro dd
    induction dd with
    | zero =>
      intro k z hk hz hb
      refine sgX5_wouldBeSeen_17 ⟨i32 (by omega) (by omega), i32 (by omega) (by omega), br_t (by omega) ?_⟩
      exact run z hz (fun a ha => hb a (by omega)) (z + 1) 0 u6 (by omega) (fun a _ h => absurd h (Nat.not_lt_zero _)) C6 O6 M6 F6
    | succ dd ih =>
      intro k z hk hz hb
      have fk := hf k (by omega)
      have e1 : u6 119 k = (f k : Int) := by rw [F6 119 (by omega)]; exact fk.1
      refine sgX5_wouldBeSeen_17 ⟨i32 (by omega) (by omega), i32 (by omega) (by omega), br_f (by omega) ⟨by omega, i32 (by omega) (by omega), ?_⟩⟩
      rw [Int.toNat_natCast, e1]
      refine ⟨i32 (by omega) (by omega), ?_⟩
      rw [show max (z : Int) (f k : Int) = ((max z (f k) : Nat) : Int) by omega]
      refine ih (k + 1) (max z (f k)) (by omega) (by omega) (fun a ha => ?_)
      rcases Nat.lt_or_eq_of_le (Nat.le_of_lt_succ ha) with q | q
      · have := hb a q; omega
      · rw [q]; omega
  exact mx n 0 0 (by omega) (by omega) (fun a ha => absurd ha (Nat.not_lt_zero a))
end BK
theorem V.mono {G : GG} {M : MI} {pc : Nat} {ls : List (Nat × VV)} {st : List VV} {t : Mem} {P R : Int → Mem → Prop} (h : V G M pc ls st t P) (k : ∀ r u, P r u → R r u) : V G M pc ls st t R := by
  intro p e Rm s m args below meth c cl sl Z hc H locs la hR hS hl
  obtain ⟨a1, a2, a3, a4, a5, a6, a7, a8, a9, a10⟩ := hc
  exact h p e Rm s m args below meth c cl sl Z ⟨a1, a2, a3, a4, a5, a6, a7, a8, a9, fun H locs la pc r t x y z => a10 H locs la pc r t x y (k r t z)⟩ H locs la hR hS hl
