/-! the class: what is foretold -/
/-- rows that foretelling leaves alone -/
def FrX (t u : Mem) : Prop := ∀ x, x < 107 ∨ 120 < x → u x = t x
theorem FrX.rf (t : Mem) : FrX t t := fun _ _ => rfl
theorem FrX.tr {t u w : Mem} (h : FrX t u) (g : FrX u w) : FrX t w := fun x hx => by rw [g x hx, h x hx]
theorem is1 : IsCamp 1 := by unfold IsCamp; decide
theorem is107 : IsCamp 107 := by unfold IsCamp; decide
theorem is54 : IsCamp 54 := by unfold IsCamp; decide
theorem is7 : IsMom 7 := by unfold IsMom; decide
theorem is113 : IsMom 113 := by unfold IsMom; decide
theorem is60 : IsMom 60 := by unfold IsMom; decide
theorem is12 : IsPast 12 := by unfold IsPast; decide
theorem is65 : IsPast 65 := by unfold IsPast; decide
theorem OrdC.kp {t : Mem} {c : Nat} {N M : Nat → Int} (h : OrdC t c N) (k : Kp N M) (h7 : N 12 ≤ 7) : OrdC t c M := fun j hj => by
  have hj2 : j < nb N := by rw [k.same.nbE]; exact hj
  rw [h j hj2, k.same.ordE h7 hj2]
section XF
variable {G : GG} {t : Mem} {m : Int} {N M : Nat → Int}
theorem x_foretell (hC : CampR t 1 N) (hM : MomR t 7 N) (hI : Inv m N) : Ex G mX5_foretell [RR 0] t (fun _ u => CampR u 107 N ∧ OrdC u 107 N ∧ MomR u 113 N ∧ FrX t u) := by
  refine eX5_foretell (sgX5_foretell_0 ?_)
  refine cqv (x_ctake is107 is1 (by decide)) (fun u4 h4 => ?_)
  refine cqv (x_arrange is107 hI (h4.camp hC)) (fun u9 h9 => ?_)
  have M9 : MomR u9 7 N := hM.kept (fun x h1 h2 => by rw [h9.2.1 x (by omega) (by omega), h4.2.2 x (by omega)])
  refine cqv (x_mtake is113 is7 (by decide)) (fun u14 h14 => ⟨?_, ?_, h14.mom M9, fun x hx => ?_⟩)
  · exact ((h4.camp hC).fl h9.2).kept (fun x h1 h2 => h14.2.2 x (by omega))
  · intro k hk; rw [h14.2.2 (107 + 5) (by omega)]; exact h9.1 k hk
  · rw [h14.2.2 x (by omega), h9.2.1 x (by omega) (by omega), h4.2.2 x (by omega)]
/-- a minute of the trial -/
theorem x_tstep {l : Int} (hC : CampR t 107 N) (hO : OrdC t 107 N) (hM : MomR t 113 N) (hI : Inv m N) (hm : m + 1 ≤ 20000) : Ex G mX1_step [RR 113, RR 107, II l] t (fun r u => (r = 0 ∨ r = 1) ∧ (r = 0 → qtN l N) ∧ (CampR u 107 (goN 0 l N) ∧ OrdC u 107 (goN 0 l N) ∧ MomR u 113 (goN 0 l N)) ∧ ∀ x, x < 113 ∨ 117 < x → u x = t x) := by
  have hh := hI.h
  unfold InH at hh
  refine Ex.mono (x_step is113 is107 hM hC hO hI hm) (fun r u h => ?_)
  obtain ⟨h1, h2, h3, h4⟩ := h
  refine ⟨h1, h2, ⟨(hC.kept (fun x _ _ => h4 x (by omega))).kp (goN_kp 0 l N), ?_, h3⟩, fun x hx => h4 x (by omega)⟩
  have : OrdC u 107 N := fun k hk => by rw [h4 (107 + 5) (by omega)]; exact hO k hk
  exact this.kp (goN_kp 0 l N) (by omega)
theorem x_play {l : Int} {n : Nat} (hn : n ≤ 240) (hC : CampR t 107 N) (hO : OrdC t 107 N) (hM : MomR t 113 N) (hI : Inv m N) (hm : m + 240 ≤ 20000) : Ex G mX5_play [RR 0, II (n : Int), II l] t (fun _ u => (∃ M, MomR u 113 M ∧ Ag (itN l N n) M ∧ Inv (m + 240) M ∧ SmB M N) ∧ ∀ x, x < 113 ∨ 117 < x → u x = t x) := by
  have lp : ∀ (dd k : Nat) (u : Mem) (r : Int), k + dd = n → (r = 0 ∨ r = 1) → (r = 0 → 0 < k ∧ qtN l (itN l N (k - 1))) → CampR u 107 (itN l N k) → OrdC u 107 (itN l N k) → MomR u 113 (itN l N k) → (∀ x, x < 113 ∨ 117 < x → u x = t x) → V G mX5_play 5 [(0, RR 0), (1, II (n : Int)), (2, II l), (3, II r), (4, II (k : Int))] [] u (fun _ u => (∃ M, MomR u 113 M ∧ Ag (itN l N n) M ∧ Inv (m + 240) M ∧ SmB M N) ∧ ∀ x, x < 113 ∨ 117 < x → u x = t x) := by
    intro dd
    have fin : ∀ (k : Nat) (u : Mem), k ≤ n → Ag (itN l N n) (itN l N k) → MomR u 113 (itN l N k) → (∀ x, x < 113 ∨ 117 < x → u x = t x) → (∃ M, MomR u 113 M ∧ Ag (itN l N n) M ∧ Inv (m + 240) M ∧ SmB M N) ∧ ∀ x, x < 113 ∨ 117 < x → u x = t x := fun k u hk ha hM hF => ⟨⟨itN l N k, hM, ha, (itN_inv hI k (by omega)).more (by omega) (by omega), (itN_kp l N k).smB (SmB.rf N)⟩, hF⟩
    induction dd with
    | zero =>
      intro k u r hk _ _ _ _ hM hF
      have e : k = n := by omega
      subst e
      refine sgX5_play_5 ⟨i32 (by omega) (by omega), i32 (by omega) (by omega), br_t (by omega) (fin k u (Nat.le_refl _) (Ag.rf _) hM hF)⟩
    | succ dd ih =>
      intro k u r hk hr hq hC hO hM hF
      refine sgX5_play_5 ⟨i32 (by omega) (by omega), i32 (by omega) (by omega), br_f (by omega) ⟨i32 (by omega) (by omega), ?_⟩⟩
      by_cases c : r = 0
      · obtain ⟨h0, hq⟩ := hq c
        refine br_t c (fin k u (by omega) ?_ hM hF)
        have a1 := qt_all hI (k := k - 1) (n := n) (by omega) hq (by omega) (by omega)
        have a2 := qt_all hI (k := k - 1) (n := k) (by omega) hq (by omega) (by omega)
        exact a1.sy.tr a2
      · refine br_f c ?_
        refine cq (x_tstep hC hO hM (itN_inv hI k (by omega)) (by omega)) (fun r2 u2 h2 => ?_)
        obtain ⟨g1, g2, ⟨g3, g4, g5⟩, g6⟩ := h2
        exact ih (k + 1) u2 r2 (by omega) g1 (fun z => ⟨by omega, g2 z⟩) g3 g4 g5 (fun x hx => by rw [g6 x hx, hF x hx])
  exact eX5_play (sgX5_play_0 (lp n 0 t 1 (by omega) (Or.inr rfl) (fun z => absurd z (by decide)) hC hO hM (fun _ _ => rfl)))
/-- what a search with the trial may change: the trial, the order in its camp -/
def FrT (t u : Mem) : Prop := (∀ x, x ≠ 107 → x ≠ 112 → (x < 113 ∨ 117 < x) → u x = t x) ∧ ∀ j, j ≠ 13 → u 107 j = t 107 j
theorem FrT.camp {t u : Mem} {N : Nat → Int} (h : FrT t u) (hC : CampR t 107 N) : CampR u 107 N := by
  unfold CampR at hC ⊢
  rw [h.2 0 (by omega), h.2 1 (by omega), h.2 2 (by omega), h.2 3 (by omega), h.2 4 (by omega), h.2 5 (by omega), h.2 6 (by omega), h.2 7 (by omega), h.1 (107 + 1) (by omega) (by omega) (by omega), h.1 (107 + 2) (by omega) (by omega) (by omega), h.1 (107 + 3) (by omega) (by omega) (by omega), h.1 (107 + 4) (by omega) (by omega) (by omega)]
  exact hC
theorem FrT.x {t u : Mem} (h : FrT t u) : FrX t u := fun x hx => h.1 x (by omega) (by omega) (by omega)
theorem x_soonestAll {z : Nat} (hz : z ≤ 241) (hC : CampR t 107 M) (hM : MomR t 7 M) (hI : Inv m M) (hm : m + 241 ≤ 20000) : Ex G mX5_soonestAll [RR 0, II ((z : Int) - 1)] t (fun r u => r = fst4 (fun n => allB (itN 127 M n)) z ∧ FrT t u) := by
  have hh := hI.h
  unfold InH at hh
  have lp : ∀ (dd k : Nat) (u : Mem) (r : Int), k + dd = z → (r = 0 ∨ r = 1) → (r = 0 → 0 < k ∧ qtN 127 (itN 127 M (k - 1))) → (∀ i, i < k → allB (itN 127 M i) = false) → CampR u 107 (itN 127 M k) → OrdC u 107 (itN 127 M k) → MomR u 113 (itN 127 M k) → FrT t u → V G mX5_soonestAll 22 [(0, RR 0), (1, II ((z : Int) - 1)), (2, II r), (3, II (k : Int))] [] u (fun r u => r = fst4 (fun n => allB (itN 127 M n)) z ∧ FrT t u) := by
    intro dd
    induction dd with
    | zero =>
      intro k u r hk _ _ hn _ _ _ hF
      refine sgX5_soonestAll_22 ⟨i32 (by omega) (by omega), i32 (by omega) (by omega), br_t (by omega) ⟨?_, hF⟩⟩
      rw [fst4_none (fun i hi => hn i (by omega))]
    | succ dd ih =>
      intro k u r hk hr hq hn hC hO hM hF
      refine sgX5_soonestAll_22 ⟨i32 (by omega) (by omega), i32 (by omega) (by omega), br_f (by omega) ⟨i32 (by omega) (by omega), ?_⟩⟩
      have hIk := itN_inv (l := 127) hI k (by omega)
      by_cases c : r = 0
      · obtain ⟨h0, hq⟩ := hq c
        refine br_t c ⟨?_, hF⟩
        rw [fst4_none]
        intro i hi
        rcases Nat.lt_or_ge i k with z1 | z1
        · exact hn i z1
        · have a1 := qt_all hI (k := k - 1) (n := i) (by omega) hq (by omega) (by omega)
          have e12 : itN 127 M (k - 1) 12 ≤ 7 := by rw [(itN_kp 127 M (k - 1)).1.2.2.2.2.2.2.2]; omega
          rw [a1.all e12]; exact hn (k - 1) (by omega)
      · refine br_f c ?_
        refine cq (x_allSated is113 is107 hM hC hIk) (fun r6 u7 h7 => ?_)
        obtain ⟨rfl, h7⟩ := h7
        rcases h7 with ⟨rfl, ha⟩ | ⟨rfl, ha⟩
        · refine ⟨iL rfl, br_f (by decide) ⟨?_, hF⟩⟩
          rw [fst4_at (j := k) hn (allB_iff.mpr ha) (by omega)]
        · refine ⟨iL rfl, br_t rfl ?_⟩
          refine cq (x_tstep hC hO hM hIk (by omega)) (fun r2 u2 h2 => ?_)
          obtain ⟨g1, g2, ⟨g3, g4, g5⟩, g6⟩ := h2
          refine ih (k + 1) u2 r2 (by omega) g1 (fun z => ⟨by omega, g2 z⟩) (fun i hi => ?_) g3 g4 g5 ⟨fun x a b c => by rw [g6 x c, hF.1 x a b c], fun j hj => by rw [g6 107 (by omega), hF.2 j hj]⟩
          rcases Nat.lt_or_eq_of_le (Nat.le_of_lt_succ hi) with z1 | z1
          · exact hn i z1
          · rw [z1, Bool.eq_false_iff]; exact fun z => ha (allB_iff.mp z)
  refine eX5_soonestAll (sgX5_soonestAll_0 ?_)
  refine cqv (x_arrange is107 hI hC) (fun u4 h4 => ?_)
  have M4 : MomR u4 7 M := hM.kept (fun x h1 h2 => h4.2.1 x (by omega) (by omega))
  refine cqv (x_mtake is113 is7 (by decide)) (fun u9 h9 => ?_)
  refine lp z 0 u9 1 (by omega) (Or.inr rfl) (fun q => absurd q (by decide)) (fun i hi => absurd hi (Nat.not_lt_zero i)) ((hC.fl h4.2).kept (fun x _ _ => h9.2.2 x (by omega))) (fun k hk => by rw [h9.2.2 (107 + 5) (by omega)]; exact h4.1 k hk) (h9.mom M4) ⟨fun x a b c => by rw [h9.2.2 x (by omega), h4.2.1 x a (by omega)], fun j hj => by rw [h9.2.2 107 (by omega), h4.2.2 j hj]⟩
theorem x_markDone {n : Nat} (hn : n < 241) (hC : CampR t 107 (itN 127 M n)) (hM : MomR t 113 (itN 127 M n)) (hI : Inv m M) (hm : m + 241 ≤ 20000) (hD : ∀ b, b < 7 → b < nb M → t 118 b = fst4 (fun i => satB (itN 127 M i) b) n) : Ex G mX5_markDone [RR 0, II (n : Int)] t (fun _ u => (∀ b, b < 7 → b < nb M → u 118 b = fst4 (fun i => satB (itN 127 M i) b) (n + 1)) ∧ ∀ x, x ≠ 118 → u x = t x) := by
  have hh := hI.h
  unfold InH at hh
  have hIn := itN_inv (l := 127) hI n (by omega)
  have e12 : itN 127 M n 12 = M 12 := (itN_kp 127 M n).1.2.2.2.2.2.2.2
  have lp : ∀ (dd k : Nat) (u : Mem), k + dd = nb M → (∀ b, b < 7 → b < nb M → (b < k → u 118 b = fst4 (fun i => satB (itN 127 M i) b) (n + 1)) ∧ (k ≤ b → u 118 b = fst4 (fun i => satB (itN 127 M i) b) n)) → (∀ x, x ≠ 118 → u x = t x) → V G mX5_markDone 2 [(0, RR 0), (1, II (n : Int)), (2, II (k : Int))] [] u (fun _ u => (∀ b, b < 7 → b < nb M → u 118 b = fst4 (fun i => satB (itN 127 M i) b) (n + 1)) ∧ ∀ x, x ≠ 118 → u x = t x) := by
    intro dd
    induction dd with
    | zero =>
      intro k u hk hD hF
      have c7 : u 107 7 = M 12 := by rw [hF 107 (by omega), hC.1.2.2.2.2.2.2.2, e12]
      exact sgX5_markDone_2 ⟨i32 (by omega) (by unfold nb at hk; omega), by rw [c7]; exact i32 (by omega) (by omega), br_t (by rw [c7]; unfold nb at hk; omega) ⟨fun b h1 h2 => (hD b h1 h2).1 (by omega), hF⟩⟩
    | succ dd ih =>
      intro k u hk hD hF
      have c7 : u 107 7 = M 12 := by rw [hF 107 (by omega), hC.1.2.2.2.2.2.2.2, e12]
      have hk7 : k < 7 := by unfold nb at hk; omega
      have hkb := (hD k hk7 (by omega)).2 (Nat.le_refl k)
      have hfi := fst4_in (fun i => satB (itN 127 M i) k) n
      have es : fst4 (fun i => satB (itN 127 M i) k) (n + 1) = if fst4 (fun i => satB (itN 127 M i) k) n = -4 then (if satB (itN 127 M n) k then (n : Int) else -4) else fst4 (fun i => satB (itN 127 M i) k) n := rfl
      refine sgX5_markDone_2 ⟨i32 (by omega) (by omega), by rw [c7]; exact i32 (by omega) (by omega), br_f (by rw [c7]; unfold nb at hk; omega) ⟨by omega, ?_⟩⟩
      rw [Int.toNat_natCast, hkb]
      refine ⟨i32 (by omega) (by omega), ?_⟩
      have keep : u 118 k = fst4 (fun i => satB (itN 127 M i) k) (n + 1) → V G mX5_markDone 2 [(0, RR 0), (1, II (n : Int)), (2, II ((k : Int) + 1))] [] u (fun _ u => (∀ b, b < 7 → b < nb M → u 118 b = fst4 (fun i => satB (itN 127 M i) b) (n + 1)) ∧ ∀ x, x ≠ 118 → u x = t x) := by
        intro hv
        refine ih (k + 1) u (by omega) (fun b h1 h2 => ⟨fun z => ?_, fun z => (hD b h1 h2).2 (by omega)⟩) hF
        rcases Nat.lt_or_eq_of_le (Nat.le_of_lt_succ z) with q | q
        · exact (hD b h1 h2).1 q
        · rw [q]; exact hv
      by_cases c : fst4 (fun i => satB (itN 127 M i) k) n = -4
      · refine nb_f c ?_
        have Cu : CampR u 107 (itN 127 M n) := hC.kept (fun x h1 h2 => hF x (by omega))
        have Mu : MomR u 113 (itN 127 M n) := hM.kept (fun x h1 h2 => hF x (by omega))
        refine ck (x_sated is113 is107 Mu Cu hIn hk7 (by rw [e12]; unfold nb at hk; omega)) ⟨by split <;> exact iL rfl, ?_⟩
        by_cases z : need (itN 127 M n) k ≤ bt (itN 127 M n) k 3
        · rw [if_pos z]
          refine br_f (by decide) (fun u11 e11 => ?_)
          rw [e11]
          refine ih (k + 1) _ (by omega) (fun b h1 h2 => ⟨fun q => ?_, fun q => ?_⟩) (fun x hx => by rw [wr_n hx, hF x hx])
          · by_cases e : b = k
            · rw [e, wr_ss, es, if_pos c]; unfold satB; rw [decide_eq_true z]; rfl
            · rw [wr_sn e]; exact (hD b h1 h2).1 (by omega)
          · rw [wr_sn (by omega)]; exact (hD b h1 h2).2 (by omega)
        · rw [if_neg z]
          refine br_t rfl (keep ?_)
          rw [hkb, es, if_pos c, c, show satB (itN 127 M n) k = false from decide_eq_false z]; rfl
      · exact nb_t c (keep (by rw [hkb, es, if_neg c]))
  exact eX5_markDone (sgX5_markDone_0 (lp (nb M) 0 t (by omega) (fun b h1 h2 => ⟨fun z => absurd z (Nat.not_lt_zero b), fun _ => hD b h1 h2⟩) (fun _ _ => rfl)))
theorem CampR.wr107 {u : Mem} {j : Nat} {v : Int} {N M : Nat → Int} (hC : CampR u 107 N) (hj : j < 8) (h : ∀ i, i < 8 → i ≠ j → True) (hk : (if j = 0 then v else N 1) = M 1 ∧ (if j = 1 then v else N 2) = M 2 ∧ (if j = 2 then v else N 3) = M 3 ∧ (if j = 3 then v else N 4) = M 4 ∧ (if j = 4 then v else N 5) = M 5 ∧ (if j = 5 then v else N 6) = M 6 ∧ (if j = 6 then v else N 10) = M 10 ∧ (if j = 7 then v else N 12) = M 12) (h7 : j ≠ 7) (hb : ∀ b, b < 7 → bt M b 0 = bt N b 0 ∧ bt M b 1 = bt N b 1 ∧ bt M b 2 = bt N b 2) : CampR (wr u 107 j v) 107 M := by
  have e12 : M 12 = N 12 := by rw [← hk.2.2.2.2.2.2.2, if_neg h7]
  refine ⟨?_, fun b hb7 hn => ?_⟩
  · rw [← hk.1, ← hk.2.1, ← hk.2.2.1, ← hk.2.2.2.1, ← hk.2.2.2.2.1, ← hk.2.2.2.2.2.1, ← hk.2.2.2.2.2.2.1, ← hk.2.2.2.2.2.2.2, ← hC.1.1, ← hC.1.2.1, ← hC.1.2.2.1, ← hC.1.2.2.2.1, ← hC.1.2.2.2.2.1, ← hC.1.2.2.2.2.2.1, ← hC.1.2.2.2.2.2.2.1, ← hC.1.2.2.2.2.2.2.2]
    simp only [wr_at, true_and, eq_comm]
    try simp
  · rw [wr_n (by decide), wr_n (by decide), wr_n (by decide), wr_n (by decide)]
    have e5 : mk5 M b = mk5 N b := by unfold mk5; rw [(hb b hb7).1]
    rw [(hb b hb7).1, (hb b hb7).2.1, (hb b hb7).2.2, e5]
    exact hC.2 b hb7 (by rw [← e12]; exact hn)
theorem MomR.lo {u : Mem} {a j : Nat} {v : Int} {N : Nat → Int} (h : MomR u a N) (hj : j = 1 ∨ j = 2 ∨ j = 3 ∨ j = 4 ∨ j = 5 ∨ j = 6 ∨ j = 10) : MomR u a (up N j v) := by
  unfold MomR MomG at h ⊢
  rw [up_n (by omega), up_n (by omega), up_n (by omega), up_n (by omega), up_n (by omega), up_n (by omega)]
  refine ⟨h.1, fun b hb => ?_⟩
  rw [bt_up_lo (by omega), bt_up_lo (by omega), bt_up_lo (by omega), bt_up_lo (by omega)]
  exact h.2 b hb
theorem x_foretellDone {l : Int} (hl : 0 ≤ l ∧ l ≤ 3) (hC : CampR t 1 N) (hM : MomR t 7 N) (hI : Inv m N) (hm : m + 241 ≤ 20000) : Ex G mX5_foretellDone [RR 0, II l] t (fun _ u => (∀ b, b < 7 → b < nb N → u 118 b = fst4 (fun i => satB (itN 127 (up N 6 l) i) b) 241) ∧ FrX t u) := by
  have hh := hI.h
  unfold InH at hh
  have hIl : Inv m (up N 6 l) := hI.lo (by omega) (by omega) (by unfold InH; simp only [up]; simp; omega)
  have nbl : nb (up N 6 l) = nb N := by unfold nb; rw [up_n (by omega)]
  have lp : ∀ (dd k : Nat) (u : Mem) (r : Int), k + dd = 241 → (r = 0 ∨ r = 1) → (r = 0 → 0 < k ∧ qtN 127 (itN 127 (up N 6 l) (k - 1))) → (∀ b, b < 7 → b < nb N → u 118 b = fst4 (fun i => satB (itN 127 (up N 6 l) i) b) k) → CampR u 107 (itN 127 (up N 6 l) k) → OrdC u 107 (itN 127 (up N 6 l) k) → MomR u 113 (itN 127 (up N 6 l) k) → FrX t u → V G mX5_foretellDone 63 [(0, RR 0), (1, II l), (2, II r), (3, II (k : Int))] [] u (fun _ u => (∀ b, b < 7 → b < nb N → u 118 b = fst4 (fun i => satB (itN 127 (up N 6 l) i) b) 241) ∧ FrX t u) := by
    intro dd
    induction dd with
    | zero =>
      intro k u r hk _ _ hD _ _ _ hF
      have e : k = 241 := by omega
      subst e
      exact sgX5_foretellDone_63 ⟨i32 (by omega) (by omega), br_t (by omega) ⟨hD, hF⟩⟩
    | succ dd ih =>
      intro k u r hk hr hq hD hC hO hM hF
      refine sgX5_foretellDone_63 ⟨i32 (by omega) (by omega), br_f (by omega) ⟨i32 (by omega) (by omega), ?_⟩⟩
      have hIk := itN_inv (l := 127) hIl k (by omega)
      by_cases c : r = 0
      · obtain ⟨h0, hq⟩ := hq c
        refine br_t c ⟨fun b h1 h2 => ?_, hF⟩
        rw [hD b h1 h2]
        -- nothing new behind a quiet minute
        have ext : ∀ d, k + d ≤ 241 → fst4 (fun i => satB (itN 127 (up N 6 l) i) b) (k + d) = fst4 (fun i => satB (itN 127 (up N 6 l) i) b) k := by
          intro d
          induction d with
          | zero => intro _; rfl
          | succ d ihd =>
            intro hd
            show (if fst4 (fun i => satB (itN 127 (up N 6 l) i) b) (k + d) = -4 then (if satB (itN 127 (up N 6 l) (k + d)) b then ((k + d : Nat) : Int) else -4) else fst4 (fun i => satB (itN 127 (up N 6 l) i) b) (k + d)) = _
            rw [ihd (by omega)]
            by_cases z : fst4 (fun i => satB (itN 127 (up N 6 l) i) b) k = -4
            · rw [if_pos z]
              have a1 := qt_all hIl (k := k - 1) (n := k + d) (by omega) hq (by omega) (by omega)
              have nosat : satB (itN 127 (up N 6 l) (k - 1)) b = false := by
                rw [Bool.eq_false_iff]
                intro hs
                -- else it would have been found
                have : fst4 (fun i => satB (itN 127 (up N 6 l) i) b) k ≠ -4 := by
                  have ek : k = (k - 1) + 1 := by omega
                  rw [ek]
                  show (if fst4 (fun i => satB (itN 127 (up N 6 l) i) b) (k - 1) = -4 then (if satB (itN 127 (up N 6 l) (k - 1)) b then ((k - 1 : Nat) : Int) else -4) else fst4 (fun i => satB (itN 127 (up N 6 l) i) b) (k - 1)) ≠ -4
                  split
                  · first | omega | (rw [hs]; simp; omega)
                  · assumption
                exact this z
              rw [a1.sat h1, nosat, z]; rfl
            · rw [if_neg z]
        have := ext (241 - k) (by omega)
        rw [show k + (241 - k) = 241 by omega] at this
        exact this.symm
      · refine br_f c ?_
        refine cqv (x_markDone (M := up N 6 l) (by omega) hC hM hIl hm (fun b h1 h2 => hD b h1 (by rw [← nbl]; exact h2))) (fun u6 h6 => ?_)
        have C6 := hC.kept (u := u6) (fun x h1 h2 => h6.2 x (by omega))
        have M6 : MomR u6 113 (itN 127 (up N 6 l) k) := hM.kept (fun x h1 h2 => h6.2 x (by omega))
        have O6 : OrdC u6 107 (itN 127 (up N 6 l) k) := fun j hj => by rw [h6.2 (107 + 5) (by omega)]; exact hO j hj
        refine cq (x_tstep C6 O6 M6 hIk (by omega)) (fun r2 u2 h2 => ?_)
        obtain ⟨g1, g2, ⟨g3, g4, g5⟩, g6⟩ := h2
        exact ih (k + 1) u2 r2 (by omega) g1 (fun z => ⟨by omega, g2 z⟩) (fun b h1 h2 => by rw [g6 118 (by omega)]; exact h6.1 b h1 (by rw [nbl]; exact h2)) g3 g4 g5 (fun x hx => by rw [g6 x (by omega), h6.2 x (by omega), hF x hx])
  have ini : ∀ (dd k : Nat) (u : Mem), k + dd = 7 → (∀ b, b < k → u 118 b = -4) → CampR u 107 (up N 6 l) → OrdC u 107 (up N 6 l) → MomR u 113 (up N 6 l) → FrX t u → V G mX5_foretellDone 39 [(0, RR 0), (1, II l), (2, II (k : Int))] [] u (fun _ u => (∀ b, b < 7 → b < nb N → u 118 b = fst4 (fun i => satB (itN 127 (up N 6 l) i) b) 241) ∧ FrX t u) := by
    intro dd
    induction dd with
    | zero =>
      intro k u hk hD hC hO hM hF
      refine sgX5_foretellDone_39 ⟨i32 (by omega) (by omega), br_t (by omega) ?_⟩
      exact lp 241 0 u 1 (by omega) (Or.inr rfl) (fun z => absurd z (by decide)) (fun b h1 _ => hD b (by omega)) hC hO hM hF
    | succ dd ih =>
      intro k u hk hD hC hO hM hF
      refine sgX5_foretellDone_39 ⟨i32 (by omega) (by omega), br_f (by omega) ⟨by omega, fun u2 e2 => ?_⟩⟩
      rw [Int.toNat_natCast] at e2
      rw [e2]
      refine ih (k + 1) _ (by omega) (fun b hb => ?_) (hC.kept (fun x h1 h2 => wr_n (by omega))) (fun j hj => by rw [wr_n (by omega)]; exact hO j hj) (hM.kept (fun x h1 h2 => wr_n (by omega))) (fun x hx => by rw [wr_n (by omega), hF x hx])
      by_cases e : b = k
      · rw [e, wr_ss]
      · rw [wr_sn e]; exact hD b (by omega)
  refine eX5_foretellDone (sgX5_foretellDone_0 ?_)
  refine cqv (x_ctake is107 is1 (by decide)) (fun u4 h4 u6 e6 => ?_)
  have C6 : CampR u6 107 (up N 6 l) := by
    rw [e6]
    refine CampR.wr107 (h4.camp hC) (by omega) (fun _ _ _ => trivial) ?_ (by omega) (fun b hb => by rw [bt_up_lo (by omega), bt_up_lo (by omega), bt_up_lo (by omega)]; exact ⟨rfl, rfl, rfl⟩)
    simp [up]
  refine cqv (x_arrange is107 hIl C6) (fun u11 h11 => ?_)
  have M11 : MomR u11 7 (up N 6 l) := MomR.lo (show MomR u11 7 N from hM.kept (fun x h1 h2 => by rw [h11.2.1 x (by omega) (by omega), e6, wr_n (by omega), h4.2.2 x (by omega)])) (by omega)
  refine cqv (x_mtake is113 is7 (by decide)) (fun u16 h16 => ?_)
  exact ini 7 0 u16 (by omega) (fun b hb => absurd hb (Nat.not_lt_zero b)) ((C6.fl h11.2).kept (fun x _ _ => h16.2.2 x (by omega))) (fun k hk => by rw [h16.2.2 (107 + 5) (by omega)]; exact h11.1 k hk) (h16.mom M11) (fun x hx => by rw [h16.2.2 x (by omega), h11.2.1 x (by omega) (by omega), e6, wr_n (by omega), h4.2.2 x (by omega)])
end XF
