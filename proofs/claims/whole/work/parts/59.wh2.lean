/-! wholly, the reference -/
theorem oth_nat {m : Int} {N : Nat → Int} (hI : Inv m N) : ∃ O : Nat, othN N = (O : Int) ∧ O < 2 ^ nb N ∧ (∀ s : Nat, s < 2 ^ nb N → (iAnd (s : Int) (puM N) = 0 ↔ iAnd (s : Int) (iXor (O : Int) (-1)) = 0)) ∧ ∀ s : Nat, s < 2 ^ nb N → O < s → ¬ iAnd (s : Int) (puM N) = 0 := by
  have hh := hI.h
  unfold InH at hh
  have n7 : nb N ≤ 7 := by unfold nb; omega
  have en : N 12 = (nb N : Int) := by unfold nb; omega
  have pp : 0 < 2 ^ nb N := Nat.pow_pos (by decide)
  by_cases c : N 10 = -4
  · refine ⟨2 ^ nb N - 1, ?_, by omega, fun s hs => ?_, fun s hs h => by omega⟩
    · unfold othN; rw [if_pos c, en]; exact oth_all (nb N) n7
    · have := wh_no (nb N) n7 s hs
      unfold puM; rw [if_pos c]
      exact ⟨fun _ => this.2, fun _ => this.1⟩
  · obtain ⟨p, hp⟩ : ∃ p : Nat, N 10 = p := ⟨(N 10).toNat, by omega⟩
    have hpn : p < nb N := by unfold nb; omega
    refine ⟨2 ^ nb N - 1 - 2 ^ p, ?_, Nat.lt_of_le_of_lt (Nat.sub_le _ _) (Nat.sub_lt pp (by decide)), fun s hs => ?_, fun s hs h => ?_⟩
    · unfold othN; rw [if_neg c, en, hp]; exact oth_msk (nb N) n7 p hpn
    · unfold puM; rw [if_neg c, hp]; exact (wh_ok (nb N) n7 p hpn s hs).1
    · unfold puM; rw [if_neg c, hp]; exact (wh_ok (nb N) n7 p hpn s hs).2 h
section WM
variable {G : GG} {t : Mem} {m : Int}
theorem c_wholly {n v : Int} (hn : In32 n) (hv : In32 v) (hI : Inv m (t 133)) (hO : OrdI t) (hm : m + 241 ≤ 20000) : Ex G mX6_wholly [RR 132, II n, II v] t (fun r u => r = whoN (t 133) n v ∧ Bk t u) := by
  have hh := hI.h
  unfold InH at hh
  have n7 : nb (t 133) ≤ 7 := by unfold nb; omega
  have hp := pow_le (nb (t 133)) n7
  obtain ⟨O, o1, o2, o3, o4⟩ := oth_nat hI
  refine eX6_wholly (sgX6_wholly_0 ⟨hn, ?_⟩)
  by_cases a : 0 ≤ n ∧ n ≤ 240
  · refine ck (c_in1 (j32 hn) (jL rfl) (jL rfl) a) ⟨iL rfl, br_f (by decide) ⟨hv, ?_⟩⟩
    by_cases b : 0 ≤ v ∧ v ≤ 1
    · refine ck (c_in1 (j32 hv) (jL rfl) (jL rfl) b) ⟨iL rfl, nb_t (by decide) (ckv c_asides ?_)⟩
      have e : row t 136 (fun j => if j < 63 then t 133 j else t 136 j) 133 = t 133 := row_n (by decide)
      refine ck (c_others (m := m) (by rw [e]; exact hI)) ?_
      rw [e, o1]
      obtain ⟨k, rfl⟩ : ∃ k : Nat, n = k := ⟨n.toNat, by omega⟩
      have lp : ∀ (dd s : Nat) (u : Mem) (x y : Int), s + dd = O + 1 → (x, y) = wbS (t 133) k s → FtM t u (t 133) (t 133) → V G mX6_wholly 42 [(0, RR 132), (1, II (k : Int)), (2, II v), (3, II (O : Int)), (4, II x), (5, II y), (6, II (s : Int))] [] u (fun r u => r = whoN (t 133) (k : Int) v ∧ Bk t u) := by
        intro dd
        induction dd with
        | zero =>
          intro s u x y hs hxy h
          refine sgX6_wholly_42 ⟨i32 (by omega) (by omega), i32 (by omega) (by omega), br_t (by omega) ⟨hv, fun w ew => ⟨?_, h.bk⟩⟩⟩
          have := wbS_skip (N := t 133) (n := k) (s := s) (2 ^ nb (t 133) - s) (fun i hi => o4 _ (by omega) (by omega))
          rw [show s + (2 ^ nb (t 133) - s) = 2 ^ nb (t 133) by omega] at this
          rw [ew]; unfold whoN pck; rw [if_pos (show (0 ≤ (k : Int) ∧ (k : Int) ≤ 240) ∧ (0 ≤ v ∧ v ≤ 1) from ⟨a, b⟩), Int.toNat_natCast, this, ← hxy]
        | succ dd ih =>
          intro s u x y hs hxy h
          have wi := wbS_in hI k s
          have fi := whF_in hI k s
          rw [← hxy] at wi
          have es : wbS (t 133) k (s + 1) = if iAnd (s : Int) (puM (t 133)) = 0 ∧ y < whF (t 133) k s then ((s : Int), whF (t 133) k s) else (x, y) := by
            rw [show y = (x, y).2 from rfl, hxy]; rfl
          refine sgX6_wholly_42 ⟨i32 (by omega) (by omega), i32 (by omega) (by omega), br_f (by omega) ⟨x32 _, ?_⟩⟩
          by_cases z : iAnd (s : Int) (puM (t 133)) = 0
          · refine nb_f ((o3 s (by omega)).mp z) ?_
            have li : ∀ (d2 i : Nat) (w : Mem), i + d2 = k → FtM t w (t 133) (itN (s : Int) (t 133) i) → V G mX6_wholly 60 [(0, RR 132), (1, II (k : Int)), (2, II v), (3, II (O : Int)), (4, II x), (5, II y), (6, II (s : Int)), (7, II (i : Int))] [] w (fun r u => r = whoN (t 133) (k : Int) v ∧ Bk t u) := by
              intro d2
              induction d2 with
              | zero =>
                intro i w hi hw
                have ei : i = k := by omega
                subst ei
                have nI := itN_nb (s : Int) (t 133) i
                refine sgX6_wholly_60 ⟨i32 (by omega) (by omega), i32 (by omega) (by omega), br_t (by omega) ?_⟩
                refine ck (c_sated (m := m + i) (by rw [hw.1]; exact itN_inv hI i (by omega))) ?_
                rw [hw.1, nI, stS_msk (nb (t 133)) n7]
                have ml := msk_lt (satB (itN (s : Int) (t 133) i)) (nb (t 133))
                refine ck (c_many (by omega)) ?_
                change In32 (whF (t 133) i s) ∧ In32 y ∧ ∀ w15 : Int, w15 = (if whF (t 133) i s ≤ y then x else (s : Int)) → ∀ w20 : Int, w20 = (if whF (t 133) i s ≤ y then y else whF (t 133) i s) → _
                refine ⟨i32 (by omega) (by omega), i32 (by omega) (by omega), fun w15 e15 w20 e20 => ckv c_backs (ih (s + 1) _ w15 w20 (by omega) ?_ (ft_end hw))⟩
                by_cases q : whF (t 133) i s ≤ y
                · rw [e15, e20, if_pos q, if_pos q, es, if_neg (by omega)]
                · rw [e15, e20, if_neg q, if_neg q, es, if_pos ⟨z, by omega⟩]
              | succ d2 ih2 =>
                intro i w hi hw
                exact sgX6_wholly_60 ⟨i32 (by omega) (by omega), i32 (by omega) (by omega), br_f (by omega) (cq (ft_goes hw (itN_inv hI i (by omega)) (by omega)) (fun r u2 h2 => ih2 (i + 1) u2 (by omega) h2.1))⟩
            exact li k 0 u (by omega) h
          · rw [if_neg (fun q => z q.1)] at es
            exact nb_t (fun q => z ((o3 s (by omega)).mpr q)) (ih (s + 1) u x y (by omega) es.symm h)
      exact lp (O + 1) 0 _ 0 (-1) (by omega) rfl (ft_begin hI hO)
    · exact ck (c_in0 (j32 hv) (jL rfl) (jL rfl) b) ⟨iL rfl, nb_f rfl ⟨by unfold whoN; rw [if_neg (fun q => b q.2)], Bk.rf hO⟩⟩
  · exact ck (c_in0 (j32 hn) (jL rfl) (jL rfl) a) ⟨iL rfl, br_t rfl ⟨by unfold whoN; rw [if_neg (fun q => a q.1)], Bk.rf hO⟩⟩
theorem s_wholly {n v : Int} (hn : In32 n) (hv : In32 v) (hR : Rel t) : Step G mX5_wholly [RR 0, II n, II v] mX6_wholly [RR 132, II n, II v] t := by
  have := hR.mn
  refine Step.look hR ?_ (x_wholly hn hv hR.camp hR.mom hR.inv (by omega)) (fun u e hu => by rw [← e]; exact c_wholly hn hv hu.inv hu.ord (by have := hu.mn; omega))
  have hh := hR.inv.h
  unfold InH at hh
  have n7 : nb (t 133) ≤ 7 := by unfold nb; omega
  have hp := pow_le (nb (t 133)) n7
  have wi := wbS_in hR.inv n.toNat (2 ^ nb (t 133))
  unfold whoN pck
  split
  · split <;> exact i32 (by omega) (by omega)
  · exact iL rfl
end WM
