/-! drift: the rope breaks -/
theorem up_comm {N : Nat → Int} {i j : Nat} {a b : Int} (h : i ≠ j) : up (up N i a) j b = up (up N j b) i a := by
  funext q
  by_cases c : q = j
  · subst c; rw [up_s, up_n (fun z => h z.symm), up_s]
  · rw [up_n c]
    by_cases d : q = i
    · subst d; rw [up_s, up_s]
    · rw [up_n d, up_n d, up_n c]
def Jn (j : Nat) : Prop := j = 8 ∨ j = 9 ∨ j = 13
theorem jn_need {N : Nat → Int} {j b : Nat} {v : Int} (h : Jn j) : need (up N j v) b = need N b := by
  unfold Jn at h
  unfold need mk5; rw [bt_up_lo (by omega), bt_up_lo (by omega), bt_up_lo (by omega)]
theorem jn_gets {N : Nat → Int} {j b : Nat} {v f l : Int} (h : Jn j) : gets (up N j v) f l b = gets N f l b := by
  have h2 := h
  unfold Jn at h2
  unfold gets; rw [jn_need h, bt_up_lo (by omega), bt_up_lo (by omega), up_n (by omega)]
theorem jn_own {N : Nat → Int} {j b : Nat} {v : Int} (h : Jn j) : ownN (up N j v) b = ownN N b := by
  have h2 := h
  unfold Jn at h2
  unfold ownN drk; rw [jn_need h, bt_up_lo (by omega), bt_up_lo (by omega), up_n (by omega)]
theorem jn_dr1 {l : Int} {E : Nat → Int} {p : Int × Int} {j b : Nat} {v : Int} (h : Jn j) : dr1 l (up E j v, p) b = (up (dr1 l (E, p) b).1 j v, (dr1 l (E, p) b).2) := by
  have h2 := h
  unfold Jn at h2
  by_cases c : gets E p.1 l b = true
  · rw [dr1_t (s := (E, p)) c, dr1_t (s := (up E j v, p)) (by rw [jn_gets h]; exact c)]
    show (up (up (up (up E j v) 7 (up E j v 7 - ownN (up E j v) b)) (14 + 7 * b + 3) (bt (up E j v) b 3 + ownN (up E j v) b)) (14 + 7 * b + 5) (if 0 < ownN (up E j v) b then bt (up E j v) b 5 + ownN (up E j v) b else 0), p.1 - 1, p.2 + ownN (up E j v) b) = (up (up (up (up E 7 (E 7 - ownN E b)) (14 + 7 * b + 3) (bt E b 3 + ownN E b)) (14 + 7 * b + 5) (if 0 < ownN E b then bt E b 5 + ownN E b else 0)) j v, p.1 - 1, p.2 + ownN E b)
    rw [jn_own h, bt_up_lo (by omega), bt_up_lo (by omega), up_n (show 7 ≠ j by omega), up_comm (show 14 + 7 * b + 5 ≠ j by omega), up_comm (show 14 + 7 * b + 3 ≠ j by omega), up_comm (show 7 ≠ j by omega)]
  · rw [dr1_f (s := (E, p)) c, dr1_f (s := (up E j v, p)) (by rw [jn_gets h]; exact c)]
    show (up (up E j v) (14 + 7 * b + 5) 0, p) = (up (up E (14 + 7 * b + 5) 0) j v, p)
    rw [up_comm (show 14 + 7 * b + 5 ≠ j by omega)]
theorem jn_same {E : Nat → Int} {j : Nat} {v : Int} (h : Jn j) : Same E (up E j v) := by
  unfold Jn at h
  exact ⟨(up_n (by omega)).symm, (up_n (by omega)).symm, fun b _ => ⟨(bt_up_lo (by omega)).symm, (bt_up_lo (by omega)).symm, (bt_up_lo (by omega)).symm⟩⟩
theorem jn_drS {l : Int} {E : Nat → Int} {j : Nat} {v : Int} (h : Jn j) (h7 : E 12 ≤ 7) : ∀ k : Nat, k ≤ nb E → drS l (up E j v) k = (up (drS l E k).1 j v, (drS l E k).2)
  | 0, _ => by
    have h2 := h
    unfold Jn at h2
    show (up E j v, up E j v 4, (0 : Int)) = _
    rw [up_n (show 4 ≠ j by omega)]; rfl
  | k + 1, hk => by
    show dr1 l (drS l (up E j v) k) (ordF (up E j v) k) = (up (dr1 l (drS l E k) (ordF E k)).1 j v, (dr1 l (drS l E k) (ordF E k)).2)
    rw [jn_drS h h7 k (by omega), ← (jn_same h).ordE h7 (show k < nb E by omega), jn_dr1 h]
theorem jn_sw1 {E : Nat → Int} {j b : Nat} {v : Int} (h : Jn j) : sw1 (up E j v) b = up (sw1 E b) j v := by
  unfold Jn at h
  unfold sw1
  rw [bt_up_lo (by omega), bt_up_lo (by omega), bt_up_lo (by omega)]
  split
  · rw [up_comm (show 14 + 7 * b + 6 ≠ j by omega), up_comm (show 14 + 7 * b + 5 ≠ j by omega), up_comm (show 14 + 7 * b + 6 ≠ j by omega)]
  · rw [up_comm (show 14 + 7 * b + 6 ≠ j by omega)]
theorem jn_swS {E : Nat → Int} {j : Nat} {v : Int} (h : Jn j) : ∀ k : Nat, swS (up E j v) k = up (swS E k) j v
  | 0 => rfl
  | k + 1 => by show sw1 (swS (up E j v) k) k = up (sw1 (swS E k) k) j v; rw [jn_swS h k, jn_sw1 h]
/-- the rest of a minute behind the drawing -/
def rstN (E : Nat → Int) (n : Nat) : Nat → Int := swS (drS 127 E n).1 n
theorem jn_rst {E : Nat → Int} {j n : Nat} {v : Int} (h : Jn j) (h7 : E 12 ≤ 7) (hn : n ≤ nb E) : rstN (up E j v) n = up (rstN E n) j v := by
  unfold rstN
  rw [jn_drS h h7 n hn]
  exact jn_swS h n
def drew (N : Nat → Int) : Prop := (nR N 9 = 0 ∧ nR N 5 ≤ nR N 0) ∧ 0 < dA (nR N)
theorem go1_no {N : Nat → Int} (h : ¬ drew N) : goN 1 127 N = goN 0 127 N ∧ eK 1 N = 0 := by
  unfold drew at h
  have : nE 1 N = nE 0 N := by
    unfold nE nW
    split
    · rw [if_neg (fun q => h ⟨by assumption, q⟩), if_neg (fun q => h ⟨by assumption, q⟩)]
    · rfl
  refine ⟨by unfold goN; rw [this], ?_⟩
  unfold eK wK
  split
  · rw [if_neg (fun q => h ⟨by assumption, q⟩)]
  · rfl
theorem go1_yes {m : Int} {N : Nat → Int} (hI : Inv m N) (h : drew N) : (goN 0 127 N 8 = N 8 + 1 ∧ goN 0 127 N 13 = N 13) ∧ (if (N 8 + 1) / 10 ≤ lAnd (N 13 * 1103515245 + 12345) 2147483647 / 65536 % 100 then goN 1 127 N = up (goN 0 127 N) 13 (lAnd (N 13 * 1103515245 + 12345) 2147483647) ∧ eK 1 N = 0 else goN 1 127 N = up (up (up (goN 0 127 N) 13 (lAnd (N 13 * 1103515245 + 12345) 2147483647)) 9 3) 8 0 ∧ eK 1 N = 1) := by
  have hh := hI.h
  unfold InH at hh
  obtain ⟨h1, h2⟩ := h
  have e0 : nE 0 N = nD (nR N) := by unfold nE nW; rw [if_pos h1, if_pos h2, if_pos rfl]
  have e1 : nE 1 N = nB (nD (nR N)) := by unfold nE nW; rw [if_pos h1, if_pos h2, if_neg (by decide)]
  have d8 : nD (nR N) 8 = N 8 + 1 := by
    unfold nD nD0 pN nR
    split
    · rw [up_s, up_n (by omega)]
    · rw [up_n (by omega), up_s, up_n (by omega)]
  have d13 : nD (nR N) 13 = N 13 := by
    unfold nD nD0 pN nR
    split
    · rw [up_n (by omega), up_n (by omega), up_n (by omega), up_n (by omega)]
    · rw [up_n (by omega), up_n (by omega), up_n (by omega), up_n (by omega), up_n (by omega)]
  have d12 : nD (nR N) 12 = N 12 := by rw [← e0]; exact (nE_kp 0 N).1.2.2.2.2.2.2.2
  have dn : nb (nD (nR N)) = nb N := by unfold nb; rw [d12]
  have hz : zN (nD (nR N)) = lAnd (N 13 * 1103515245 + 12345) 2147483647 := by unfold zN; rw [d13]
  have g0 : goN 0 127 N = finN (rstN (nD (nR N)) (nb N)) := by unfold goN rstN; rw [e0]
  have g1 : goN 1 127 N = finN (rstN (nB (nD (nR N))) (nb N)) := by unfold goN rstN; rw [e1]
  have r8 : ∀ j, j < 14 → j ≠ 7 → rstN (nD (nR N)) (nb N) j = nD (nR N) j := fun j hj h7 => by unfold rstN; rw [swS_hd _ hj, drS_hd 127 _ hj h7]
  refine ⟨⟨?_, ?_⟩, ?_⟩
  · rw [g0]; unfold finN; rw [up_n (by omega), up_n (by omega), r8 8 (by omega) (by omega), d8]
  · rw [g0]; unfold finN; rw [up_n (by omega), up_n (by omega), r8 13 (by omega) (by omega), d13]
  · have ek : eK 1 N = bkN (nD (nR N)) := by unfold eK wK; rw [if_pos h1, if_pos h2, if_neg (by decide)]
    have bk : bkN (nD (nR N)) = if (N 8 + 1) / 10 ≤ lAnd (N 13 * 1103515245 + 12345) 2147483647 / 65536 % 100 then 0 else 1 := by unfold bkN; rw [d8, hz]
    have nb' : nB (nD (nR N)) = if (N 8 + 1) / 10 ≤ lAnd (N 13 * 1103515245 + 12345) 2147483647 / 65536 % 100 then up (nD (nR N)) 13 (lAnd (N 13 * 1103515245 + 12345) 2147483647) else up (up (up (nD (nR N)) 13 (lAnd (N 13 * 1103515245 + 12345) 2147483647)) 8 0) 9 4 := by unfold nB; rw [d8, hz]
    by_cases c : (N 8 + 1) / 10 ≤ lAnd (N 13 * 1103515245 + 12345) 2147483647 / 65536 % 100
    · rw [if_pos c]
      rw [if_pos c] at bk nb'
      refine ⟨?_, by rw [ek, bk]⟩
      rw [g1, nb', jn_rst (by unfold Jn; omega) (by rw [d12]; omega) (by rw [dn]; exact Nat.le_refl _), g0]
      funext q
      unfold finN up
      by_cases q11 : q = 11
      · subst q11; rfl
      · by_cases q9 : q = 9
        · subst q9; rfl
        · simp only [if_neg q11, if_neg q9]
    · rw [if_neg c]
      rw [if_neg c] at bk nb'
      refine ⟨?_, by rw [ek, bk]⟩
      have j13 : Jn 13 := by unfold Jn; omega
      have j8 : Jn 8 := by unfold Jn; omega
      have j9 : Jn 9 := by unfold Jn; omega
      have n1 : nb (up (nD (nR N)) 13 (lAnd (N 13 * 1103515245 + 12345) 2147483647)) = nb N := by unfold nb; rw [up_n (by omega), d12]
      have n2 : nb (up (up (nD (nR N)) 13 (lAnd (N 13 * 1103515245 + 12345) 2147483647)) 8 0) = nb N := by unfold nb; rw [up_n (by omega), up_n (by omega), d12]
      rw [g1, nb', jn_rst j9 (by rw [up_n (by omega), up_n (by omega), d12]; omega) (by rw [n2]; exact Nat.le_refl _), jn_rst j8 (by rw [up_n (by omega), d12]; omega) (by rw [n1]; exact Nat.le_refl _), jn_rst j13 (by rw [d12]; omega) (by rw [dn]; exact Nat.le_refl _), g0]
      funext q
      by_cases q11 : q = 11
      · subst q11; rfl
      · by_cases q9 : q = 9
        · subst q9; rfl
        · by_cases q8 : q = 8
          · subst q8; rfl
          · unfold finN
            rw [up_n q11, up_n q9, up_n q9, up_n q8, up_n q8, up_n q9]
            by_cases q13 : q = 13
            · rw [q13, up_s, up_s]
            · rw [up_n q13, up_n q13, up_n q11, up_n q9]
