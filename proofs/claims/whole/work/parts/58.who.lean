/-! wholly -/
theorem wh_ok : ∀ n : Nat, n ≤ 7 → ∀ p : Nat, p < n → ∀ s : Nat, s < 2 ^ n → ((iAnd (s : Int) (iShl 1 (p : Int)) = 0 ↔ iAnd (s : Int) (iXor ((2 ^ n - 1 - 2 ^ p : Nat) : Int) (-1)) = 0) ∧ (2 ^ n - 1 - 2 ^ p < s → ¬ iAnd (s : Int) (iShl 1 (p : Int)) = 0)) := by decide +kernel
theorem wh_no : ∀ n : Nat, n ≤ 7 → ∀ s : Nat, s < 2 ^ n → (iAnd (s : Int) 0 = 0 ∧ iAnd (s : Int) (iXor ((2 ^ n - 1 : Nat) : Int) (-1)) = 0) := by decide +kernel
theorem pc_le : ∀ k : Nat, k ≤ 7 → ∀ x : Nat, x < 2 ^ k → pcN x ≤ k := by decide +kernel
def puM (N : Nat → Int) : Int := if N 10 = -4 then 0 else iShl 1 (N 10)
def whF (N : Nat → Int) (n s : Nat) : Int := (pcN (msk (satB (itN (s : Int) N n)) (nb N)) : Int)
def wbS (N : Nat → Int) (n : Nat) : Nat → Int × Int
  | 0 => (0, -1)
  | s + 1 => if iAnd (s : Int) (puM N) = 0 ∧ (wbS N n s).2 < whF N n s then ((s : Int), whF N n s) else wbS N n s
theorem whF_in {m : Int} {N : Nat → Int} (hI : Inv m N) (n s : Nat) : 0 ≤ whF N n s ∧ whF N n s ≤ nb N := by
  have hh := hI.h
  unfold InH at hh
  have := pc_le (nb N) (by unfold nb; omega) _ (msk_lt (satB (itN (s : Int) N n)) (nb N))
  unfold whF
  omega
theorem wbS_in {m : Int} {N : Nat → Int} (hI : Inv m N) (n : Nat) : ∀ s : Nat, (0 ≤ (wbS N n s).1 ∧ (wbS N n s).1 ≤ s) ∧ -1 ≤ (wbS N n s).2 ∧ (wbS N n s).2 ≤ nb N
  | 0 => by unfold wbS; omega
  | s + 1 => by
    have ih := wbS_in hI n s
    have := whF_in hI n s
    unfold wbS
    split
    · refine ⟨⟨by show (0 : Int) ≤ s; omega, by show (s : Int) ≤ _; omega⟩, by show -1 ≤ whF N n s; omega, this.2⟩
    · omega
theorem wbS_full {m : Int} {N : Nat → Int} (hI : Inv m N) {n s : Nat} (h : (nb N : Int) ≤ (wbS N n s).2) : ∀ d, wbS N n (s + d) = wbS N n s
  | 0 => rfl
  | d + 1 => by
    have ih := wbS_full hI h d
    have := whF_in hI n (s + d)
    show (if iAnd ((s + d : Nat) : Int) (puM N) = 0 ∧ (wbS N n (s + d)).2 < whF N n (s + d) then (((s + d : Nat) : Int), whF N n (s + d)) else wbS N n (s + d)) = _
    rw [ih, if_neg (by omega)]
theorem wbS_skip {N : Nat → Int} {n s : Nat} : ∀ d, (∀ i, i < d → ¬ iAnd ((s + i : Nat) : Int) (puM N) = 0) → wbS N n (s + d) = wbS N n s
  | 0, _ => rfl
  | d + 1, h => by
    show (if iAnd ((s + d : Nat) : Int) (puM N) = 0 ∧ (wbS N n (s + d)).2 < whF N n (s + d) then (((s + d : Nat) : Int), whF N n (s + d)) else wbS N n (s + d)) = _
    rw [if_neg (fun q => h d (by omega) q.1), wbS_skip d (fun i hi => h i (by omega))]
def whoN (N : Nat → Int) (n v : Int) : Int := if (0 ≤ n ∧ n ≤ 240) ∧ (0 ≤ v ∧ v ≤ 1) then pck v (wbS N n.toNat (2 ^ nb N)) else -1
section WH
variable {G : GG} {t : Mem} {m : Int} {N : Nat → Int}
theorem x_wholly {n v : Int} (hn : In32 n) (hv : In32 v) (hC : CampR t 1 N) (hM : MomR t 7 N) (hI : Inv m N) (hm : m + 241 ≤ 20000) : Ex G mX5_wholly [RR 0, II n, II v] t (fun r u => r = whoN N n v ∧ FrX t u) := by
  have hh := hI.h
  unfold InH at hh
  have n7 : nb N ≤ 7 := by unfold nb; omega
  have en : N 12 = (nb N : Int) := by unfold nb; omega
  have ep := pow2 (nb N) n7
  have hp := pow_le (nb N) n7
  have c7 : t 1 7 = N 12 := hC.1.2.2.2.2.2.2.2
  have c6 : t 1 6 = N 10 := hC.1.2.2.2.2.2.2.1
  refine eX5_wholly (sgX5_wholly_0 ?_)
  by_cases a : 0 ≤ n ∧ n ≤ 240
  · refine ck (x_out0 (iL rfl) (iL rfl) a) ⟨iL rfl, nb_f rfl ?_⟩
    by_cases b : 0 ≤ v ∧ v ≤ 1
    · refine ck (x_out0 (iL rfl) (iL rfl) b) ⟨iL rfl, br_t rfl ?_⟩
      rw [c6]
      refine ⟨i32 (by omega) (by omega), fun w14 e14 => ?_⟩
      have e14 : w14 = puM N := e14
      rw [e14]
      obtain ⟨k, rfl⟩ : ∃ k : Nat, n = k := ⟨n.toNat, by omega⟩
      refine cqv (x_foretell hC hM hI) (fun u22 h22 => ?_)
      have lp : ∀ (dd s : Nat) (u : Mem) (x y : Int), s + dd = 2 ^ nb N → (x, y) = wbS N k s → CampR u 107 N → OrdC u 107 N → FrX t u → V G mX5_wholly 61 [(0, RR 0), (1, II (k : Int)), (2, II v), (3, II (puM N)), (4, II x), (5, II y), (6, II (s : Int))] [] u (fun r u => r = whoN N (k : Int) v ∧ FrX t u) := by
        intro dd
        induction dd with
        | zero =>
          intro s u x y hs hxy h1 h2 h3
          refine sgX5_wholly_61 ?_
          rw [h3 1 (by omega), c7, en, ep]
          refine ⟨i32 (by omega) (by omega), i32 (by omega) (by omega), br_t (by omega) ⟨hv, fun w ew => ⟨?_, h3⟩⟩⟩
          rw [ew]; unfold whoN pck; rw [if_pos (show (0 ≤ (k : Int) ∧ (k : Int) ≤ 240) ∧ (0 ≤ v ∧ v ≤ 1) from ⟨a, b⟩), Int.toNat_natCast, ← show s = 2 ^ nb N by omega, ← hxy]
        | succ dd ih =>
          intro s u x y hs hxy h1 h2 h3
          have wi := wbS_in hI k s
          have fi := whF_in hI k s
          rw [← hxy] at wi
          have es : wbS N k (s + 1) = if iAnd (s : Int) (puM N) = 0 ∧ y < whF N k s then ((s : Int), whF N k s) else (x, y) := by
            rw [show y = (x, y).2 from rfl, hxy]; rfl
          refine sgX5_wholly_61 ?_
          rw [h3 1 (by omega), c7, en, ep]
          refine ⟨i32 (by omega) (by omega), i32 (by omega) (by omega), br_f (by omega) ⟨i32 (by omega) (by omega), i32 (by omega) (by omega), ?_⟩⟩
          by_cases q : (nb N : Int) ≤ y
          · refine br_t q ⟨hv, fun w ew => ⟨?_, h3⟩⟩
            have := wbS_full hI (n := k) (s := s) (by rw [← hxy]; exact q) (2 ^ nb N - s)
            rw [show s + (2 ^ nb N - s) = 2 ^ nb N by omega] at this
            rw [ew]; unfold whoN pck; rw [if_pos (show (0 ≤ (k : Int) ∧ (k : Int) ≤ 240) ∧ (0 ≤ v ∧ v ≤ 1) from ⟨a, b⟩), Int.toNat_natCast, this, ← hxy]
          · refine br_f q ⟨x32 _, ?_⟩
            by_cases z : iAnd (s : Int) (puM N) = 0
            · refine nb_f z (cqv (x_mtake is113 is7 (by decide)) (fun u21 g21 => ?_))
              have M7 : MomR u 7 N := MomG.kept hM (fun x _ _ => h3 x (by omega))
              have C21 : CampR u21 107 N := h1.kept (fun x _ _ => g21.2.2 x (by omega))
              have O21 : OrdC u21 107 N := fun j hj => by rw [g21.2.2 (107 + 5) (by omega)]; exact h2 j hj
              refine cqv (x_play (l := (s : Int)) (n := k) (by omega) C21 O21 (g21.mom M7) hI (by omega)) (fun u26 g26 => ?_)
              obtain ⟨⟨M, m1, m2, m3, m4⟩, g26⟩ := g26
              have C26 : CampR u26 107 N := C21.kept (fun x _ _ => g26 x (by omega))
              have cM : CampR u26 107 M := by
                have kp : Kp N M := by
                  have k1 := itN_kp (s : Int) N k
                  refine ⟨?_, fun b hb => ?_⟩
                  · rw [m2.1 1 (by omega) (by omega), m2.1 2 (by omega) (by omega), m2.1 3 (by omega) (by omega), m2.1 4 (by omega) (by omega), m2.1 5 (by omega) (by omega), m2.1 6 (by omega) (by omega), m2.1 10 (by omega) (by omega), m2.1 12 (by omega) (by omega)]; exact k1.1
                  · rw [m2.2 b 0 hb (by omega) (by omega), m2.2 b 1 hb (by omega) (by omega), m2.2 b 2 hb (by omega) (by omega)]; exact k1.2 b hb
                exact C26.kp kp
              have nM : nb M = nb N := by unfold nb; rw [m4.1]
              have eS : stS M (nb M) = (msk (satB (itN (s : Int) N k)) (nb N) : Int) := by
                rw [nM, stS_msk (nb N) n7]
                have : ∀ q, q ≤ 7 → msk (satB M) q = msk (satB (itN (s : Int) N k)) q := by
                  intro q
                  induction q with
                  | zero => intro _; rfl
                  | succ q ihq => intro hq; unfold msk; rw [ihq (by omega), m2.sat (by omega)]
                rw [this (nb N) n7]
              refine ck (x_satedSet is113 is107 m1 cM m3) ?_
              rw [eS]
              have ml := msk_lt (satB (itN (s : Int) N k)) (nb N)
              refine ck (x_bitCount (by omega)) ?_
              change In32 (whF N k s) ∧ (whF N k s ≤ y → _) ∧ (¬ whF N k s ≤ y → _)
              have fr : FrX t u26 := fun x hx => by rw [g26 x (by omega), g21.2.2 x (by omega), h3 x hx]
              have o26 : OrdC u26 107 N := fun j hj => by rw [g26 (107 + 5) (by omega)]; exact O21 j hj
              refine ⟨i32 (by omega) (by omega), ?_⟩
              by_cases w : whF N k s ≤ y
              · rw [if_neg (by omega)] at es
                exact br_t w (ih (s + 1) u26 x y (by omega) es.symm C26 o26 fr)
              · rw [if_pos ⟨z, by omega⟩] at es
                exact br_f w (ih (s + 1) u26 _ _ (by omega) es.symm C26 o26 fr)
            · rw [if_neg (fun q => z q.1)] at es
              exact nb_t z (ih (s + 1) u x y (by omega) es.symm h1 h2 h3)
      exact lp (2 ^ nb N) 0 u22 0 (-1) (by omega) rfl h22.1 h22.2.1 h22.2.2.2
    · exact ck (x_out1 hv (iL rfl) (iL rfl) b) ⟨iL rfl, br_f (by decide) ⟨by unfold whoN; rw [if_neg (fun q => b q.2)], FrX.rf t⟩⟩
  · exact ck (x_out1 hn (iL rfl) (iL rfl) a) ⟨iL rfl, nb_t (by decide) ⟨by unfold whoN; rw [if_neg (fun q => a q.1)], FrX.rf t⟩⟩
end WH
