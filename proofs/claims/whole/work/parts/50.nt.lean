/-! what is kept to be undone -/
def ntU (U N : Nat → Int) (k : Nat) : Nat → Int := fun j => if k = 8 then (if j < 441 then U (j + 63) else if j < 504 then N (j - 441) else U j) else (if 63 * k ≤ j ∧ j < 63 * k + 63 then N (j - 63 * k) else U j)
theorem goN_nm {m d l : Int} {N : Nat → Int} (h : Inv m N) (hm : m + 1 ≤ 20000) {j : Nat} (hj : isM j = false) : goN d l N j = N j := by
  have kp := goN_kp d l N
  by_cases c : j < 63
  · by_cases e : j < 14
    · have : j = 0 ∨ j = 1 ∨ j = 2 ∨ j = 3 ∨ j = 4 ∨ j = 5 ∨ j = 6 ∨ j = 7 ∨ j = 8 ∨ j = 9 ∨ j = 10 ∨ j = 11 ∨ j = 12 ∨ j = 13 := by omega
      obtain ⟨⟨k1, k2, k3, k4, k5, k6, k10, k12⟩, -⟩ := kp
      rcases this with rfl | rfl | rfl | rfl | rfl | rfl | rfl | rfl | rfl | rfl | rfl | rfl | rfl | rfl <;> first | assumption | exact absurd hj (by decide)
    · have hb : (j - 14) / 7 < 7 := by omega
      have ej : 14 + 7 * ((j - 14) / 7) + (j - 14) % 7 = j := by omega
      have h3 : ¬ 3 ≤ (j - 14) % 7 := by
        have := isM_bt (b := (j - 14) / 7) (w := (j - 14) % 7) hb (by omega)
        rw [ej, hj] at this
        exact of_decide_eq_false this.symm
      have kb := kp.2 _ hb
      have w3 : (j - 14) % 7 = 0 ∨ (j - 14) % 7 = 1 ∨ (j - 14) % 7 = 2 := by omega
      unfold bt at kb
      rcases w3 with w | w | w <;> rw [w] at ej <;> rw [ej] at kb
      · exact kb.1
      · exact kb.2.1
      · exact kb.2.2
  · exact goN_hi h hm (by omega)
/-- after a keep, and any change of what a moment keeps -/
theorem PastR.keep {t u : Mem} {N N2 U : Nat → Int} {nx k : Nat} (hn : nx < 8) (hk : k ≤ 8) (hE : ∀ i, i < k → MomR t (12 + 2 + 5 * slot nx k i) (mix N (enU U i)) ∧ Inv (enU U i 11) (mix N (enU U i)) ∧ enU U i 11 ≤ 9999) (hI : Inv (N 11) N) (hm : N 11 ≤ 9999) (h2 : ∀ j, isM j = false → N2 j = N j) (u1 : u 12 1 = ((nx + 1) % 8 : Nat)) (u2 : u 12 2 = (min 8 (k + 1) : Nat)) (uM : MomR u (12 + 2 + 5 * nx) N) (un : ∀ x, 14 ≤ x → x ≤ 53 → (x < 12 + 2 + 5 * nx ∨ 12 + 2 + 5 * nx + 4 < x) → u x = t x) : PastR u 12 N2 (ntU U N k) (min 8 (k + 1) : Nat) := by
  refine ⟨(nx + 1) % 8, min 8 (k + 1), ⟨Nat.mod_lt _ (by decide), by omega, u1, u2, rfl⟩, fun i hi => ?_⟩
  by_cases c : k = 8
  · subst c
    by_cases d : i = 7
    · subst d
      have es : slot ((nx + 1) % 8) (min 8 (8 + 1)) 7 = nx := by unfold slot; omega
      have em : mix N2 (enU (ntU U N 8) 7) = N := by
        rw [mix_ext (N := N) (E := N) h2 (fun j hj => ?_), mix_id (fun _ _ => rfl)]
        have := isM_lt hj
        unfold enU ntU
        rw [if_pos rfl, if_neg (by omega), if_pos (by omega)]; exact congrArg N (by omega)
      have e11 : enU (ntU U N 8) 7 11 = N 11 := by
        unfold enU ntU
        rw [if_pos rfl, if_neg (by omega), if_pos (by omega)]
      rw [es, em, e11]
      exact ⟨uM, hI, hm⟩
    · have es : slot ((nx + 1) % 8) (min 8 (8 + 1)) i = slot nx 8 (i + 1) := by unfold slot; omega
      have en : ∀ j, j < 63 → enU (ntU U N 8) i j = enU U (i + 1) j := fun j hj => by
        unfold enU ntU
        rw [if_pos rfl, if_pos (by omega)]; congr 1; omega
      have em : mix N2 (enU (ntU U N 8) i) = mix N (enU U (i + 1)) := mix_ext h2 (fun j hj => en j (isM_lt hj))
      have hs : slot nx 8 (i + 1) < 8 := Nat.mod_lt _ (by decide)
      have hd : slot nx 8 (i + 1) ≠ nx := by unfold slot; omega
      rw [es, em, en 11 (by omega)]
      exact ⟨MomG.kept (hE (i + 1) (by omega)).1 (fun x _ _ => un x (by omega) (by omega) (by omega)), (hE (i + 1) (by omega)).2⟩
  · by_cases d : i = k
    · subst d
      have es : slot ((nx + 1) % 8) (min 8 (i + 1)) i = nx := by unfold slot; omega
      have en : ∀ j, j < 63 → enU (ntU U N i) i j = N j := fun j hj => by
        unfold enU ntU
        rw [if_neg c, if_pos (by omega)]; congr 1; omega
      have em : mix N2 (enU (ntU U N i) i) = N := by rw [mix_ext (N := N) (E := N) h2 (fun j hj => en j (isM_lt hj)), mix_id (fun _ _ => rfl)]
      rw [es, em, en 11 (by omega)]
      exact ⟨uM, hI, hm⟩
    · have es : slot ((nx + 1) % 8) (min 8 (k + 1)) i = slot nx k i := by unfold slot; omega
      have en : ∀ j, j < 63 → enU (ntU U N k) i j = enU U i j := fun j hj => by
        unfold enU ntU
        rw [if_neg c, if_neg (by omega)]
      have em : mix N2 (enU (ntU U N k) i) = mix N (enU U i) := mix_ext h2 (fun j hj => en j (isM_lt hj))
      have hs : slot nx k i < 8 := Nat.mod_lt _ (by decide)
      have hd : slot nx k i ≠ nx := by unfold slot; omega
      rw [es, em, en 11 (by omega)]
      exact ⟨MomG.kept (hE i (by omega)).1 (fun x _ _ => un x (by omega) (by omega) (by omega)), (hE i (by omega)).2⟩
section NT
variable {G : GG} {t : Mem}
theorem c_notes {k : Nat} (hk : k ≤ 8) (h5 : t 132 5 = k) : Ex G mX6_notes [RR 132] t (Ret 0 (wr (row t 135 (ntU (t 135) (t 133) k)) 132 5 (min 8 (k + 1) : Nat))) := by
  -- the store at entry q
  have ls : ∀ (q : Nat), q < 8 → ∀ (dd i : Nat) (w : Mem), i + dd = 63 → w 132 5 = q → V G mX6_notes 48 [(0, RR 132), (1, II (i : Int))] [] (row w 135 (fun j => if 63 * q ≤ j ∧ j < 63 * q + i then w 133 (j - 63 * q) else w 135 j)) (Ret 0 (wr (row w 135 (fun j => if 63 * q ≤ j ∧ j < 63 * q + 63 then w 133 (j - 63 * q) else w 135 j)) 132 5 ((q : Int) + 1))) := by
    intro q hq dd
    induction dd with
    | zero =>
      intro i w hi hw
      have e : i = 63 := by omega
      subst e
      refine sgX6_notes_48 ⟨i32 (by omega) (by omega), br_t (by omega) (fun u2 e2 => ⟨rfl, ?_⟩)⟩
      rw [e2, row_n (show (132 : Nat) ≠ 135 by decide), hw]
    | succ dd ih =>
      intro i w hi hw
      refine sgX6_notes_48 ⟨i32 (by omega) (by omega), br_f (by omega) ?_⟩
      rw [row_n (show (132 : Nat) ≠ 135 by decide), row_n (show (133 : Nat) ≠ 135 by decide), hw]
      refine ⟨by omega, by omega, fun u5 e5 => ?_⟩
      rw [Int.toNat_natCast, show (63 * (q : Int) + (i : Int)).toNat = 63 * q + i by omega, wr_row, row_s, row_row] at e5
      have ef : up (fun j => if 63 * q ≤ j ∧ j < 63 * q + i then w 133 (j - 63 * q) else w 135 j) (63 * q + i) (w 133 i) = fun j => if 63 * q ≤ j ∧ j < 63 * q + (i + 1) then w 133 (j - 63 * q) else w 135 j := by
        funext j
        by_cases z : j = 63 * q + i
        · rw [z, up_s, if_pos (by omega)]; congr 1; omega
        · rw [up_n z]
          by_cases y : 63 * q ≤ j ∧ j < 63 * q + i
          · rw [if_pos y, if_pos (by omega)]
          · rw [if_neg y, if_neg (by omega)]
      rw [e5, ef]
      exact ih (i + 1) w (by omega) hw
  refine eX6_notes (sgX6_notes_0 ?_)
  rw [h5]
  refine ⟨i32 (by omega) (by omega), ?_⟩
  by_cases c : k = 8
  · subst c
    refine nb_f rfl ?_
    have lm : ∀ (dd i : Nat), i + dd = 441 → V G mX6_notes 12 [(0, RR 132), (1, II (63 + (i : Int)))] [] (row t 135 (fun j => if j < i then t 135 (j + 63) else t 135 j)) (Ret 0 (wr (row t 135 (ntU (t 135) (t 133) 8)) 132 5 (min 8 (8 + 1) : Nat))) := by
      intro dd
      induction dd with
      | zero =>
        intro i hi
        have e : i = 441 := by omega
        subst e
        refine sgX6_notes_12 ⟨i32 (by omega) (by omega), br_t (by omega) (fun u2 e2 => ?_)⟩
        have hs := ls 7 (by omega) 63 0 u2 (by omega) (by rw [e2, wr_ss]; rfl)
        rw [show (fun j => if 63 * 7 ≤ j ∧ j < 63 * 7 + 0 then u2 133 (j - 63 * 7) else u2 135 j) = u2 135 from by funext j; rw [if_neg (by omega)], row_same] at hs
        have ef : wr (row u2 135 (fun j => if 63 * 7 ≤ j ∧ j < 63 * 7 + 63 then u2 133 (j - 63 * 7) else u2 135 j)) 132 5 (((7 : Nat) : Int) + 1) = wr (row t 135 (ntU (t 135) (t 133) 8)) 132 5 (min 8 (8 + 1) : Nat) := by
          have u133 : u2 133 = t 133 := by rw [e2, wr_n (by decide), row_n (by decide)]
          have u135 : u2 135 = fun j => if j < 441 then t 135 (j + 63) else t 135 j := by rw [e2, wr_n (by decide), row_s]
          have er : (fun j => if 63 * 7 ≤ j ∧ j < 63 * 7 + 63 then u2 133 (j - 63 * 7) else u2 135 j) = ntU (t 135) (t 133) 8 := by
            funext j
            rw [u133, u135]
            unfold ntU
            rw [if_pos rfl]
            by_cases y : j < 441
            · rw [if_neg (by omega), if_pos y]
              show (if j < 441 then t 135 (j + 63) else t 135 j) = _
              rw [if_pos y]
            · by_cases x : j < 504
              · rw [if_pos (by omega), if_neg y, if_pos x]
              · rw [if_neg (by omega), if_neg y, if_neg x]
                show (if j < 441 then t 135 (j + 63) else t 135 j) = _
                rw [if_neg y]
          rw [er]
          funext x y
          rw [wr_at, wr_at]
          by_cases z : x = 132 ∧ y = 5
          · rw [if_pos z, if_pos z]; rfl
          · rw [if_neg z, if_neg z]
            by_cases p : x = 135
            · rw [p, row_s, row_s]
            · rw [row_n p, row_n p, e2, wr_at, if_neg z, row_n p]
        rw [ef] at hs
        exact hs
      | succ dd ih =>
        intro i hi
        refine sgX6_notes_12 ⟨i32 (by omega) (by omega), br_f (by omega) ⟨by omega, by omega, fun u5 e5 => ?_⟩⟩
        rw [show (63 + (i : Int) - 63).toNat = i by omega, show (63 + (i : Int)).toNat = 63 + i by omega, wr_row, row_s, row_row, if_neg (by omega)] at e5
        have ef : up (fun j => if j < i then t 135 (j + 63) else t 135 j) i (t 135 (63 + i)) = fun j => if j < i + 1 then t 135 (j + 63) else t 135 j := by
          funext j
          by_cases z : j = i
          · rw [z, up_s, if_pos (by omega)]; congr 1; omega
          · rw [up_n z]
            by_cases y : j < i
            · rw [if_pos y, if_pos (by omega)]
            · rw [if_neg y, if_neg (by omega)]
        rw [e5, ef, show (63 + (i : Int) + 1) = 63 + ((i + 1 : Nat) : Int) by omega]
        exact ih (i + 1) (by omega)
    have := lm 441 0 (by omega)
    rw [show (fun j => if j < 0 then t 135 (j + 63) else t 135 j) = t 135 from by funext j; rw [if_neg (by omega)], row_same] at this
    exact this
  · refine nb_t (by omega) ?_
    have hs := ls k (by omega) 63 0 t (by omega) h5
    rw [show (fun j => if 63 * k ≤ j ∧ j < 63 * k + 0 then t 133 (j - 63 * k) else t 135 j) = t 135 from by funext j; rw [if_neg (by omega)], row_same] at hs
    rw [show ntU (t 135) (t 133) k = (fun j => if 63 * k ≤ j ∧ j < 63 * k + 63 then t 133 (j - 63 * k) else t 135 j) from by unfold ntU; funext j; rw [if_neg c], show ((min 8 (k + 1) : Nat) : Int) = (k : Int) + 1 by omega]
    exact hs
end NT
