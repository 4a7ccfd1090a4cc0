/-! drank -/
theorem pow2 : ∀ n : Nat, n ≤ 7 → iShl 1 (n : Int) = ((2 ^ n : Nat) : Int) := by decide +kernel
theorem bit01 : ∀ s : Nat, s < 128 → ∀ b : Nat, b < 7 → (iAnd (iShr (s : Int) (b : Int)) 1 = 0 ∨ iAnd (iShr (s : Int) (b : Int)) 1 = 1) := by decide +kernel
theorem pow_le : ∀ n : Nat, n ≤ 7 → 2 ^ n ≤ 128 := by decide
def nyS (N : Nat → Int) (s : Nat) : Nat → Int
  | 0 => 0
  | k + 1 => nyS N s k + (if iAnd (iShr (s : Int) (k : Int)) 1 = 0 then 0 else max 0 (need N k - bt N k 3))
theorem nyS_s (N : Nat → Int) (s k : Nat) : nyS N s (k + 1) = nyS N s k + (if iAnd (iShr (s : Int) (k : Int)) 1 = 0 then 0 else max 0 (need N k - bt N k 3)) := rfl
def dkS (N : Nat → Int) (a : Int) : Nat → Int × Int
  | 0 => (0, -4)
  | s + 1 => if nyS N s (nb N) = a then ((dkS N a s).1 + 1, if (dkS N a s).1 = 0 then (s : Int) else (dkS N a s).2) else dkS N a s
theorem nyS_in {m : Int} {N : Nat → Int} (hI : Inv m N) (s : Nat) : ∀ k : Nat, k ≤ 7 → 0 ≤ nyS N s k ∧ nyS N s k ≤ 7000 * k
  | 0, _ => by unfold nyS; omega
  | k + 1, h => by
    have ih := nyS_in hI s k (by omega)
    have a := need_in hI (b := k) (by omega)
    have b := (hI.b (b := k) (by omega)).2.2.2.1
    unfold nyS
    split <;> omega
theorem dkS_in (N : Nat → Int) (a : Int) : ∀ s : Nat, (0 ≤ (dkS N a s).1 ∧ (dkS N a s).1 ≤ s) ∧ -4 ≤ (dkS N a s).2 ∧ (dkS N a s).2 ≤ s
  | 0 => by unfold dkS; omega
  | s + 1 => by
    have ih := dkS_in N a s
    unfold dkS
    split
    · refine ⟨by show 0 ≤ (dkS N a s).1 + 1 ∧ (dkS N a s).1 + 1 ≤ _; omega, ?_⟩
      show -4 ≤ (if (dkS N a s).1 = 0 then (s : Int) else (dkS N a s).2) ∧ (if (dkS N a s).1 = 0 then (s : Int) else (dkS N a s).2) ≤ _
      split <;> omega
    · omega
section DK
variable {G : GG} {t : Mem}
theorem x_needsYetOf {m : Int} {N : Nat → Int} (hM : MomR t 7 N) (hC : CampR t 1 N) (hI : Inv m N) {s : Nat} (hs : s < 128) : Ex G mX1_needsYetOf [RR 7, RR 1, II (s : Int)] t (Ret (nyS N s (nb N)) t) := by
  have hh := hI.h
  unfold InH at hh
  have c7 : t 1 7 = N 12 := hC.1.2.2.2.2.2.2.2
  have lp : ∀ (dd k : Nat), k + dd = nb N → V G mX1_needsYetOf 5 [(0, RR 7), (1, RR 1), (2, II (s : Int)), (3, II (nyS N s k)), (4, II (k : Int))] [] t (Ret (nyS N s (nb N)) t) := by
    intro dd
    induction dd with
    | zero =>
      intro k hk
      exact sgX1_needsYetOf_5 is7 is1 ⟨i32 (by omega) (by unfold nb at hk; omega), by rw [c7]; exact i32 (by omega) (by omega), br_t (by rw [c7]; unfold nb at hk; omega) ⟨by rw [show k = nb N by omega], rfl⟩⟩
    | succ dd ih =>
      intro k hk
      have hk7 : k < 7 ∧ (k : Int) < N 12 := by unfold nb at hk; omega
      have b := bit01 s hs k hk7.1
      refine sgX1_needsYetOf_5 is7 is1 ⟨i32 (by omega) (by omega), by rw [c7]; exact i32 (by omega) (by omega), br_f (by rw [c7]; omega) ⟨i32 (by omega) (by omega), ?_⟩⟩
      have nx := ih (k + 1) (by omega)
      rw [nyS_s] at nx
      rcases b with z | z
      · rw [if_pos z, Int.add_zero] at nx
        exact nb_t (by omega) nx
      · rw [if_neg (by omega)] at nx
        exact nb_f z (ck (x_needsYet is7 is1 hM hC hI hk7.1 hk7.2) nx)
  exact eX1_needsYetOf (sgX1_needsYetOf_0 is7 is1 (lp (nb N) 0 (by omega)))
theorem s_drank {a v : Int} (ha : In32 a) (hv : In32 v) (hR : Rel t) : Step G mX5_drank [RR 0, II a, II v] mX6_drank [RR 132, II a, II v] t := by
  have hh := hR.inv.h
  unfold InH at hh
  have c7 : t 1 7 = t 133 12 := hR.camp.1.2.2.2.2.2.2.2
  have n7 : nb (t 133) ≤ 7 := by unfold nb; omega
  have en : t 133 12 = (nb (t 133) : Int) := by unfold nb; omega
  have ep := pow2 (nb (t 133)) n7
  have hp := pow_le (nb (t 133)) n7
  by_cases c : 0 ≤ a ∧ a ≤ 999
  · by_cases d : 0 ≤ v ∧ v ≤ 1
    · have fin := dkS_in (t 133) a (2 ^ nb (t 133))
      have lx : ∀ (dd s : Nat) (x y : Int), s + dd = 2 ^ nb (t 133) → (x, y) = dkS (t 133) a s → V G mX5_drank 31 [(0, RR 0), (1, II a), (2, II v), (3, II x), (4, II y), (5, II (s : Int))] [] t (Ret (pck v (dkS (t 133) a (2 ^ nb (t 133)))) t) := by
        intro dd
        induction dd with
        | zero =>
          intro s x y hs hxy
          refine sgX5_drank_31 ?_
          rw [c7, en, ep]
          refine ⟨i32 (by omega) (by omega), i32 (by omega) (by omega), br_t (by omega) ⟨hv, fun w ew => ⟨?_, rfl⟩⟩⟩
          rw [ew, ← show s = 2 ^ nb (t 133) by omega, ← hxy]; rfl
        | succ dd ih =>
          intro s x y hs hxy
          have ny := nyS_in hR.inv s (nb (t 133)) n7
          have di := dkS_in (t 133) a s
          rw [← hxy] at di
          have es : dkS (t 133) a (s + 1) = if nyS (t 133) s (nb (t 133)) = a then (x + 1, if x = 0 then (s : Int) else y) else (x, y) := by
            rw [show x = (x, y).1 from rfl, show y = (x, y).2 from rfl, hxy]; rfl
          refine sgX5_drank_31 ?_
          rw [c7, en, ep]
          refine ⟨i32 (by omega) (by omega), i32 (by omega) (by omega), br_f (by omega) (ck (x_needsYetOf hR.mom hR.camp hR.inv (by omega)) ⟨i32 (by omega) (by omega), ha, ?_⟩)⟩
          by_cases z : nyS (t 133) s (nb (t 133)) = a
          · rw [if_pos z] at es
            exact nb_f z ⟨i32 (by omega) (by omega), fun w ew => ih (s + 1) _ _ (by omega) (by rw [es, ew])⟩
          · rw [if_neg z] at es
            exact nb_t z (ih (s + 1) _ _ (by omega) es.symm)
      have lm : ∀ (dd s : Nat) (x y : Int), s + dd = 2 ^ nb (t 133) → (x, y) = dkS (t 133) a s → V G mX6_drank 33 [(0, RR 132), (1, II a), (2, II v), (3, II x), (4, II y), (5, II (s : Int))] [] t (Ret (pck v (dkS (t 133) a (2 ^ nb (t 133)))) t) := by
        intro dd
        induction dd with
        | zero =>
          intro s x y hs hxy
          refine sgX6_drank_33 ?_
          rw [en, ep]
          refine ⟨i32 (by omega) (by omega), i32 (by omega) (by omega), br_t (by omega) ⟨hv, fun w ew => ⟨?_, rfl⟩⟩⟩
          rw [ew, ← show s = 2 ^ nb (t 133) by omega, ← hxy]; rfl
        | succ dd ih =>
          intro s x y hs hxy
          have ny := nyS_in hR.inv s (nb (t 133)) n7
          have di := dkS_in (t 133) a s
          rw [← hxy] at di
          have es : dkS (t 133) a (s + 1) = if nyS (t 133) s (nb (t 133)) = a then (x + 1, if x = 0 then (s : Int) else y) else (x, y) := by
            rw [show x = (x, y).1 from rfl, show y = (x, y).2 from rfl, hxy]; rfl
          have li : ∀ (d2 k : Nat), k + d2 = nb (t 133) → V G mX6_drank 53 [(0, RR 132), (1, II a), (2, II v), (3, II x), (4, II y), (5, II (s : Int)), (6, II (nyS (t 133) s k)), (7, II (k : Int))] [] t (Ret (pck v (dkS (t 133) a (2 ^ nb (t 133)))) t) := by
            intro d2
            induction d2 with
            | zero =>
              intro k hk
              have e : k = nb (t 133) := by omega
              subst e
              refine sgX6_drank_53 ⟨i32 (by omega) (by omega), i32 (by omega) (by omega), br_t (by omega) ⟨i32 (by omega) (by omega), ha, ?_⟩⟩
              by_cases z : nyS (t 133) s (nb (t 133)) = a
              · rw [if_pos z] at es
                rw [if_pos z]
                exact nb_f z ⟨i32 (by omega) (by omega), fun w ew => ih (s + 1) _ _ (by omega) (by rw [es, ew])⟩
              · rw [if_neg z] at es
                rw [if_neg z, Int.add_zero]
                exact nb_t z (ih (s + 1) _ _ (by omega) es.symm)
            | succ d2 ih2 =>
              intro k hk
              have hk7 : k < 7 ∧ (k : Int) < t 133 12 := by omega
              have b := bit01 s (by omega) k hk7.1
              have nx := ih2 (k + 1) (by omega)
              rw [nyS_s] at nx
              have nd := need_in hR.inv hk7.1
              have bb := (hR.inv.b hk7.1).2.2.2.1
              refine sgX6_drank_53 ⟨i32 (by omega) (by omega), i32 (by omega) (by omega), br_f (by omega) ⟨i32 (by omega) (by omega), ?_⟩⟩
              rcases b with z | z
              · rw [if_pos z] at nx
                exact br_t z nx
              · rw [if_neg (by omega)] at nx
                refine br_f (by omega) (ck (c_isSated hR.inv hk7.1) ?_)
                by_cases q : need (t 133) k ≤ bt (t 133) k 3
                · rw [if_pos q]
                  rw [show max 0 (need (t 133) k - bt (t 133) k 3) = 0 by omega] at nx
                  exact ⟨iL rfl, br_f (by decide) nx⟩
                · rw [if_neg q]
                  rw [show max 0 (need (t 133) k - bt (t 133) k 3) = need (t 133) k - bt (t 133) k 3 by omega] at nx
                  exact ⟨iL rfl, br_t rfl (ck (c_needs hR.inv hk7.1) (ck (c_at (w := 3) hk7.1 (by omega)) nx))⟩
          refine sgX6_drank_33 ?_
          rw [en, ep]
          exact ⟨i32 (by omega) (by omega), i32 (by omega) (by omega), br_f (by omega) (li (nb (t 133)) 0 (by omega))⟩
      refine Step.pure (v := pck v (dkS (t 133) a (2 ^ nb (t 133)))) hR ?_ (eX5_drank (sgX5_drank_0 (ck (x_out0 (iL rfl) (iL rfl) c) ⟨iL rfl, nb_f rfl (ck (x_out0 (iL rfl) (iL rfl) d) ⟨iL rfl, br_t rfl (lx (2 ^ nb (t 133)) 0 0 (-4) (by omega) rfl)⟩)⟩))) (eX6_drank (sgX6_drank_0 ⟨ha, ck (c_in1 (j32 ha) (jL rfl) (jL rfl) c) ⟨iL rfl, br_f (by decide) ⟨hv, ck (c_in1 (j32 hv) (jL rfl) (jL rfl) d) ⟨iL rfl, nb_t (by decide) (lm (2 ^ nb (t 133)) 0 0 (-4) (by omega) rfl)⟩⟩⟩⟩))
      unfold pck
      split <;> exact i32 (by omega) (by omega)
    · exact Step.pure (v := -1) hR (iL rfl) (eX5_drank (sgX5_drank_0 (ck (x_out0 (iL rfl) (iL rfl) c) ⟨iL rfl, nb_f rfl (ck (x_out1 hv (iL rfl) (iL rfl) d) ⟨iL rfl, br_f (by decide) ⟨rfl, rfl⟩⟩)⟩))) (eX6_drank (sgX6_drank_0 ⟨ha, ck (c_in1 (j32 ha) (jL rfl) (jL rfl) c) ⟨iL rfl, br_f (by decide) ⟨hv, ck (c_in0 (j32 hv) (jL rfl) (jL rfl) d) ⟨iL rfl, nb_f rfl ⟨rfl, rfl⟩⟩⟩⟩⟩))
  · exact Step.pure (v := -1) hR (iL rfl) (eX5_drank (sgX5_drank_0 (ck (x_out1 ha (iL rfl) (iL rfl) c) ⟨iL rfl, nb_t (by decide) ⟨rfl, rfl⟩⟩))) (eX6_drank (sgX6_drank_0 ⟨ha, ck (c_in0 (j32 ha) (jL rfl) (jL rfl) c) ⟨iL rfl, br_t rfl ⟨rfl, rfl⟩⟩⟩))
end DK
