/-! the class: by turns; arrange -/
section AR2
variable {G : GG} {c : Nat} {N : Nat → Int} {m : Int}
theorem x_lineByTurns (hc : IsCamp c) (hI : Inv m N) (hl : N 6 = 3) {t : Mem} (hC : CampR t c N) (hL : Lnd t c N (fun _ => false)) : Ex G mX0_lineByTurns [RR c] t (fun _ u => Lnd u c N (fun _ => true) ∧ Fl t u c) := by
  have hh := hI.h
  unfold InH at hh
  have hn : (nb N : Int) = N 12 := by unfold nb; omega
  have hk3 : ∀ b, keyN N b = 2 * amg N b b + bt N b 2 := fun b => by unfold keyN; rw [if_neg (by omega), if_neg (by omega), if_pos hl]
  have hhd : ∀ a, a < nb N → 0 ≤ bt N a 2 ∧ bt N a 2 ≤ 1 := fun a ha => by
    have h7 := nb_lt (by omega) ha
    have hB := hI.b h7.1
    unfold InB at hB
    exact hB.2.2.1
  have uniq : ∀ a b, bt N a 2 = bt N b 2 → amg N a a = amg N b b → a = b := fun a b h1 h2 => by
    rcases Nat.lt_trichotomy a b with z | z | z
    · have := amg_lt h1 z; omega
    · exact z
    · have := amg_lt h1.symm z; omega
  -- the one of herd 1, and the next round
  have oth : ∀ (k : Nat) (o1 b2 : Nat) (u : Mem), Kth N 0 ((k : Int) + 1) o1 → Kth N 1 k b2 → Lnd u c N (fun a => decide (amg N a a < k ∨ (amg N a a = k ∧ bt N a 2 = 0))) → Fl t u c →
      (∀ (p1 p2 : Nat) (w : Mem), Kth N 0 ((k : Int) + 1) p1 → Kth N 1 ((k : Int) + 1) p2 → Lnd w c N (fun a => decide (amg N a a < (k : Int) + 1)) → Fl t w c → V G mX0_lineByTurns 16 [(0, RR c), (1, II (p1 : Int)), (2, II (p2 : Int)), (3, II ((k : Int) + 1))] [] w (fun _ u => Lnd u c N (fun _ => true) ∧ Fl t u c)) →
      (N 12 ≤ (b2 : Int) → V G mX0_lineByTurns 16 [(0, RR c), (1, II (o1 : Int)), (2, II (b2 : Int)), (3, II ((k : Int) + 1))] [] u (fun _ u => Lnd u c N (fun _ => true) ∧ Fl t u c)) ∧ (¬ N 12 ≤ (b2 : Int) → ∃ P5 : Int → Mem → Prop, Ex G mX0_lineUp [RR c, II (b2 : Int)] u P5 ∧ ∀ u8 : Mem, P5 0 u8 → ∃ P10 : Int → Mem → Prop, Ex G mX0_nextOf [RR c, II 1, II ((b2 : Int) + 1)] u8 P10 ∧ ∀ (r12 : Int) (u13 : Mem), P10 r12 u13 → V G mX0_lineByTurns 16 [(0, RR c), (1, II (o1 : Int)), (2, II r12), (3, II ((k : Int) + 1))] [] u13 (fun _ u => Lnd u c N (fun _ => true) ∧ Fl t u c)) := by
    intro k o1 b2 u h1 h2 hL hF nx
    refine ⟨fun q => ?_, fun q => ?_⟩
    · have h2n : b2 = nb N ∧ ∀ a, a < nb N → bt N a 2 = 1 → amg N a a < k := by
        rcases h2 with z | z
        · exfalso; omega
        · exact z
      refine nx o1 b2 u h1 (kth_none h2n) (hL.cong (fun a ha => ?_)) hF
      have e1 := hhd a ha
      have e2 := h2n.2 a ha
      rw [Bool.eq_iff_iff]; simp
      by_cases z : bt N a 2 = 1
      · have := e2 z; omega
      · have : bt N a 2 = 0 := by omega
        omega
    · have h2s : b2 < nb N ∧ bt N b2 2 = 1 ∧ amg N b2 b2 = k := by
        rcases h2 with z | z
        · exact z
        · exfalso; omega
      refine cqv (x_lineUp (P2 := fun a => decide (amg N a a < (k : Int) + 1)) hc hI hL h2s.1 (fun a ha => ?_) (by simp; omega) (fun a ha e => ?_)) (fun w hw => ?_)
      · have e1 := hhd a ha
        rw [Bool.eq_iff_iff, ahd_iff, hk3, hk3, h2s.2.1, h2s.2.2]; simp
        have u1 : amg N a a = k → bt N a 2 = 1 → a = b2 := fun z1 z2 => uniq a b2 (by rw [z2, h2s.2.1]) (by rw [z1, h2s.2.2])
        constructor
        · intro z; omega
        · intro z
          rcases z with z | ⟨z1, z2⟩
          · omega
          · have : amg N a a = k := by omega
            have := u1 this (by omega)
            omega
      · have e1 := hhd a ha
        rw [Bool.eq_iff_iff]; simp
        have u1 : amg N a a = k → bt N a 2 = 1 → a = b2 := fun z1 z2 => uniq a b2 (by rw [z2, h2s.2.1]) (by rw [z1, h2s.2.2])
        constructor
        · intro z
          by_cases z2 : bt N a 2 = 1
          · by_cases z3 : amg N a a = k
            · exact absurd (u1 z3 z2) e
            · omega
          · omega
        · intro z; omega
      · refine cq (x_nextOf hc hI (hC.fl (hF.tr hw.2)) (b0 := b2 + 1) (Or.inr rfl) (by omega)) (fun r w2 h3 => ?_)
        obtain ⟨rfl, b3, rfl, q1, q2, q3⟩ := h3
        exact nx o1 b3 w2 h1 (kth_s h2s q1 q2 q3) hw.1 (hF.tr hw.2)
  have lp : ∀ (dd k : Nat) (b1 b2 : Nat) (u : Mem), k + dd = nb N → Kth N 0 k b1 → Kth N 1 k b2 → Lnd u c N (fun a => decide (amg N a a < (k : Int))) → Fl t u c → V G mX0_lineByTurns 16 [(0, RR c), (1, II (b1 : Int)), (2, II (b2 : Int)), (3, II (k : Int))] [] u (fun _ u => Lnd u c N (fun _ => true) ∧ Fl t u c) := by
    intro dd
    induction dd with
    | zero =>
      intro k b1 b2 u hk h1 h2 hL hF
      have hCu := hC.fl hF
      refine sgX0_lineByTurns_16 hc ⟨i32 (by omega) (by omega), by rw [hCu.1.2.2.2.2.2.2.2]; exact i32 (by omega) (by omega), br_t (by rw [hCu.1.2.2.2.2.2.2.2]; omega) ⟨hL.cong (fun a ha => ?_), hF⟩⟩
      have := amg_in N a a
      rw [Bool.eq_iff_iff]; simp; omega
    | succ dd ih =>
      intro k b1 b2 u hk h1 h2 hL hF
      have hCu := hC.fl hF
      have hb1 : b1 ≤ nb N := by rcases h1 with z | z <;> omega
      have hb2 : b2 ≤ nb N := by rcases h2 with z | z <;> omega
      have nx : ∀ (p1 p2 : Nat) (w : Mem), Kth N 0 ((k : Int) + 1) p1 → Kth N 1 ((k : Int) + 1) p2 → Lnd w c N (fun a => decide (amg N a a < (k : Int) + 1)) → Fl t w c → V G mX0_lineByTurns 16 [(0, RR c), (1, II (p1 : Int)), (2, II (p2 : Int)), (3, II ((k : Int) + 1))] [] w (fun _ u => Lnd u c N (fun _ => true) ∧ Fl t u c) :=
        fun p1 p2 w g1 g2 g3 g4 => ih (k + 1) p1 p2 w (by omega) g1 g2 g3 g4
      refine sgX0_lineByTurns_16 hc ⟨i32 (by omega) (by omega), by rw [hCu.1.2.2.2.2.2.2.2]; exact i32 (by omega) (by omega), br_f (by rw [hCu.1.2.2.2.2.2.2.2]; omega) ⟨i32 (by omega) (by omega), ?_⟩⟩
      rw [hCu.1.2.2.2.2.2.2.2]
      by_cases q : N 12 ≤ (b1 : Int)
      · refine br_t q ⟨i32 (by omega) (by omega), ?_⟩
        have h1n : b1 = nb N ∧ ∀ a, a < nb N → bt N a 2 = 0 → amg N a a < k := by
          rcases h1 with z | z
          · exfalso; omega
          · exact z
        refine oth k b1 b2 u (kth_none h1n) h2 (hL.cong (fun a ha => ?_)) hF nx
        have e1 := hhd a ha
        have e2 := h1n.2 a ha
        rw [Bool.eq_iff_iff]; simp
        by_cases z : bt N a 2 = 0
        · have := e2 z; omega
        · omega
      · refine br_f q ?_
        have h1s : b1 < nb N ∧ bt N b1 2 = 0 ∧ amg N b1 b1 = k := by
          rcases h1 with z | z
          · exact z
          · exfalso; omega
        refine cqv (x_lineUp (P2 := fun a => decide (amg N a a < (k : Int) ∨ (amg N a a = k ∧ bt N a 2 = 0))) hc hI hL h1s.1 (fun a ha => ?_) (by simp; omega) (fun a ha e => ?_)) (fun w hw => ?_)
        · have e1 := hhd a ha
          rw [Bool.eq_iff_iff, ahd_iff, hk3, hk3, h1s.2.1, h1s.2.2]; simp
          have u1 : amg N a a = k → bt N a 2 = 0 → a = b1 := fun z1 z2 => uniq a b1 (by rw [z2, h1s.2.1]) (by rw [z1, h1s.2.2])
          constructor
          · intro z; omega
          · intro z
            rcases z with z | ⟨z1, z2⟩
            · omega
            · have : amg N a a = k := by omega
              have := u1 this (by omega)
              omega
        · have u1 : amg N a a = k → bt N a 2 = 0 → a = b1 := fun z1 z2 => uniq a b1 (by rw [z2, h1s.2.1]) (by rw [z1, h1s.2.2])
          rw [Bool.eq_iff_iff]; simp
          intro z1 z2
          exact absurd (u1 z1 z2) e
        · refine cq (x_nextOf hc hI (hC.fl (hF.tr hw.2)) (b0 := b1 + 1) (Or.inl rfl) (by omega)) (fun r w2 h3 => ?_)
          obtain ⟨rfl, b3, rfl, q1, q2, q3⟩ := h3
          have hCw := hC.fl (hF.tr hw.2)
          rw [hCw.1.2.2.2.2.2.2.2]
          exact ⟨i32 (by omega) (by omega), i32 (by omega) (by omega), oth k b3 b2 w2 (kth_s h1s q1 q2 q3) h2 hw.1 (hF.tr hw.2) nx⟩
  refine eX0_lineByTurns (sgX0_lineByTurns_0 hc ?_)
  refine cq (x_nextOf hc hI hC (b0 := 0) (Or.inl rfl) (by omega)) (fun r w h3 => ?_)
  obtain ⟨rfl, b1, rfl, _, q2, q3⟩ := h3
  refine cq (x_nextOf hc hI hC (b0 := 0) (Or.inr rfl) (by omega)) (fun r w2 h4 => ?_)
  obtain ⟨rfl, b2, rfl, _, p2, p3⟩ := h4
  refine lp (nb N) 0 b1 b2 w2 (by omega) (kth_0 q2 q3) (kth_0 p2 p3) (hL.cong (fun a ha => ?_)) (Fl.rf w2 c)
  have := amg_in N a a
  rw [Bool.eq_iff_iff]; simp; omega
theorem x_arrange (hc : IsCamp c) (hI : Inv m N) {t : Mem} (hC : CampR t c N) : Ex G mX0_arrange [RR c] t (fun _ u => OrdC u c N ∧ Fl t u c) := by
  have hh := hI.h
  unfold InH at hh
  have fin : ∀ u w : Mem, Fl t u c → Lnd w c N (fun _ => true) → Fl u w c → OrdC w c N ∧ Fl t w c := by
    intro u w h1 h2 h3
    refine ⟨fun k hk => ?_, h1.tr h3⟩
    have h5 := ordF_ok hk
    have h4 := h2.2 _ h5.1 rfl
    rw [h5.2] at h4
    exact h4
  refine eX0_arrange (sgX0_arrange_0 hc (fun u1 e1 => ?_))
  have F1 : Fl t u1 c := ⟨fun x h1 _ => by rw [e1, wr_n h1], fun j hj => by rw [e1, wr_sn hj]⟩
  have C1 := hC.fl F1
  have L1 : Lnd u1 c N (fun _ => false) := ⟨by rw [e1, wr_ss, cnt_none (fun _ _ => rfl)]; rfl, fun a _ h => by cases h⟩
  rw [C1.1.2.2.2.2.2.1]
  refine ⟨i32 (by omega) (by omega), fun h => ?_, fun h => ?_, fun h => ?_, fun h => ?_⟩
  · exact cqv (x_lineByDays hc hI h C1 L1) (fun w hw => fin u1 w F1 hw.1 hw.2)
  · refine cqv (x_lineMilky hc hI h C1 (w := 1) (Or.inr rfl) (P0 := fun _ => false) (fun a _ => by simp) L1) (fun w hw => ?_)
    refine cqv (x_lineMilky hc hI h (C1.fl hw.2) (w := 0) (Or.inl rfl) (P0 := fun a => decide ((1 : Int) = 0 ∨ (bt N a 0 = 1 ∨ bt N a 0 = 3))) (fun a _ => by rw [Bool.eq_iff_iff]; simp) hw.1) (fun w2 hw2 => ?_)
    exact fin u1 w2 F1 (hw2.1.cong (fun a _ => by simp)) (hw.2.tr hw2.2)
  · exact cqv (x_lineByTurns hc hI h C1 L1) (fun w hw => fin u1 w F1 hw.1 hw.2)
  · exact cqv (x_lineAs hc hI (by omega) C1 L1) (fun w hw => fin u1 w F1 hw.1 hw.2)
end AR2
