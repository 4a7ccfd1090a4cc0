/-! a caravan, the reference; the step -/
def CvP (L : Nat → Int) (n : Nat) (t : Mem) : Int → Mem → Prop := fun r u => r = crA L n ∧ u 132 9 = 0 ∧ (∀ j, j ≠ 2 → j ≠ 5 → j ≠ 9 → j ≠ 10 → j ≠ 11 → u 132 j = t 132 j) ∧ (∀ x, x ≠ 132 → x ≠ 133 → x ≠ 139 → u x = t x) ∧ ((crv L n).1 = -1 → u 133 = t 133 ∧ u 132 2 = t 132 2 ∧ u 132 5 = t 132 5) ∧ ∀ c : Nat, (crv L n).1 = c → u 133 = cvN L n c (t 133) ∧ u 132 2 = -1 ∧ u 132 5 = 0
def FrR (t w : Mem) : Prop := (∀ j, j ≠ 10 → j ≠ 11 → w 132 j = t 132 j) ∧ ∀ x, x ≠ 132 → x ≠ 139 → w x = t x
def BtM (w : Mem) (L : Nat → Int) (n a k : Nat) : Prop := ∀ i, i < k → w 139 (3 * i) = bKd L n (bAt L n a i) ∧ w 139 (3 * i + 1) = bDy L n (bAt L n a i) ∧ w 139 (3 * i + 2) = bHd L n (bAt L n a i)
theorem PF_PF {t : Mem} {p q : Nat} {f g : Int} : PF (PF t p f) q g = PF t q g := PF_eq (fun x hx => by rw [PF_n hx, PF_n hx]) (fun j a b => by rw [PF_j a b, PF_j a b]) PF_10 PF_11
theorem FrR.pf {t w : Mem} {p : Nat} {f : Int} (h : FrR t w) : FrR t (PF w p f) := ⟨fun j a b => by rw [PF_j a b]; exact h.1 j a b, fun x a b => by rw [PF_n a]; exact h.2 x a b⟩
theorem MT.fr {t w : Mem} {L : Nat → Int} {n : Nat} (h : MT t L n) (f : FrR t w) : MT w L n := h.kept (f.1 9 (by decide) (by decide)) (f.2 138 (by decide) (by decide))
section CM
variable {G : GG} {L : Nat → Int} {n : Nat} {t : Mem}
theorem c_bad {w : Mem} {p : Nat} {v1 v2 v3 : Int} (hF : FrR t w) (h10 : w 132 10 = p) (h11 : w 132 11 = 1) (hc : crv L n = (-1, p)) : V G mX6_caravan 38 [(0, RR 132), (1, II v1), (2, II v2), (3, II v3)] [] w (CvP L n t) := by
  refine sgX6_caravan_38 ?_
  rw [h11]
  refine ⟨iL rfl, nb_t (by decide) (fun u2 e2 => ?_)⟩
  have f11 : u2 132 11 = 1 := by rw [e2, wr_sn (by decide)]; exact h11
  have f10 : u2 132 10 = p := by rw [e2, wr_sn (by decide)]; exact h10
  rw [f11, f10]
  refine ⟨iL rfl, br_f (by decide) ⟨?_, by rw [e2, wr_ss], fun j a b c d e => by rw [e2, wr_sn c]; exact hF.1 j d e, fun x a b c => by rw [e2, wr_n a]; exact hF.2 x a c, fun _ => ⟨by rw [e2, wr_n (by decide)]; exact hF.2 133 (by decide) (by decide), by rw [e2, wr_sn (by decide)]; exact hF.1 2 (by decide) (by decide), by rw [e2, wr_sn (by decide)]; exact hF.1 5 (by decide) (by decide)⟩, fun c q => ?_⟩⟩
  · unfold crA; rw [hc, if_pos rfl]
  · rw [hc] at q; exact absurd q (by show ¬ (-1 : Int) = (c : Int); omega)
theorem c_good {w : Mem} {c : Nat} (hF : FrR t w) (hB : BtM w L n (rdW L n).2 c) (hc : (crv L n).1 = c) : V G mX6_caravan 115 [(0, RR 132), (1, II (nmR L n (wq1 L n)).1), (2, II (nmR L n (wq3 L n)).1), (3, II (c : Int)), (4, II 0)] [] (wr w 132 9 0) (CvP L n t) := by
  have hc7 := crv_c hc
  -- cells of the beasts
  have w133 : w 133 = t 133 := hF.2 133 (by decide) (by decide)
  have inn : ∀ (b : Nat), b < 7 → (V G mX6_caravan 115 [(0, RR 132), (1, II (nmR L n (wq1 L n)).1), (2, II (nmR L n (wq3 L n)).1), (3, II (c : Int)), (4, II ((b : Int) + 1))] [] (row (wr w 132 9 0) 133 (fun j => if 14 ≤ j ∧ j < 14 + 7 * (b + 1) then (if (j - 14) / 7 < c ∧ (j - 14) % 7 < 3 then rdV L n (rdW L n).2 ((j - 14) / 7) ((j - 14) % 7) else 0) else t 133 j)) (CvP L n t)) → ∀ (dd i : Nat), i + dd = 7 → V G mX6_caravan 125 [(0, RR 132), (1, II (nmR L n (wq1 L n)).1), (2, II (nmR L n (wq3 L n)).1), (3, II (c : Int)), (4, II (b : Int)), (5, II (i : Int))] [] (row (wr w 132 9 0) 133 (fun j => if 14 ≤ j ∧ j < 14 + 7 * b + i then (if (j - 14) / 7 < c ∧ (j - 14) % 7 < 3 then rdV L n (rdW L n).2 ((j - 14) / 7) ((j - 14) % 7) else 0) else t 133 j)) (CvP L n t) := by
    intro b hb nx dd
    induction dd with
    | zero =>
      intro i hi
      have ei : i = 7 := by omega
      subst ei
      exact sgX6_caravan_125 ⟨i32 (by omega) (by omega), br_t (by omega) (by rw [show 14 + 7 * b + 7 = 14 + 7 * (b + 1) by omega]; exact nx)⟩
    | succ dd ih =>
      intro i hi
      have step : ∀ (v : Int) (u : Mem), v = (if b < c ∧ i < 3 then rdV L n (rdW L n).2 b i else 0) → u = wr (row (wr w 132 9 0) 133 (fun j => if 14 ≤ j ∧ j < 14 + 7 * b + i then (if (j - 14) / 7 < c ∧ (j - 14) % 7 < 3 then rdV L n (rdW L n).2 ((j - 14) / 7) ((j - 14) % 7) else 0) else t 133 j)) 133 (14 + 7 * (b : Int) + (i : Int)).toNat v → V G mX6_caravan 125 [(0, RR 132), (1, II (nmR L n (wq1 L n)).1), (2, II (nmR L n (wq3 L n)).1), (3, II (c : Int)), (4, II (b : Int)), (5, II ((i : Int) + 1))] [] u (CvP L n t) := by
        intro v u hv hu
        have := ih (i + 1) (by omega)
        rw [show (14 + 7 * (b : Int) + (i : Int)).toNat = 14 + 7 * b + i by omega, wr_row, row_s, row_row] at hu
        rw [hu]
        have e : up (fun j => if 14 ≤ j ∧ j < 14 + 7 * b + i then (if (j - 14) / 7 < c ∧ (j - 14) % 7 < 3 then rdV L n (rdW L n).2 ((j - 14) / 7) ((j - 14) % 7) else 0) else t 133 j) (14 + 7 * b + i) v = fun j => if 14 ≤ j ∧ j < 14 + 7 * b + (i + 1) then (if (j - 14) / 7 < c ∧ (j - 14) % 7 < 3 then rdV L n (rdW L n).2 ((j - 14) / 7) ((j - 14) % 7) else 0) else t 133 j := by
          funext j; unfold up
          by_cases q : j = 14 + 7 * b + i
          · rw [if_pos q, if_pos (by omega), q, show (14 + 7 * b + i - 14) / 7 = b by omega, show (14 + 7 * b + i - 14) % 7 = i by omega]; exact hv
          · rw [if_neg q]; dsimp only
            by_cases z : 14 ≤ j ∧ j < 14 + 7 * b + i
            · rw [if_pos z, if_pos (show 14 ≤ j ∧ j < 14 + 7 * b + (i + 1) by omega)]
            · rw [if_neg z, if_neg (show ¬ (14 ≤ j ∧ j < 14 + 7 * b + (i + 1)) by omega)]
        rw [e]; exact this
      refine sgX6_caravan_125 ⟨i32 (by omega) (by omega), br_f (by omega) ⟨i32 (by omega) (by omega), i32 (by omega) (by omega), ?_⟩⟩
      by_cases q : c ≤ b
      · exact br_t (by omega) ⟨by omega, fun u4 e4 => step 0 u4 (by rw [if_neg (by omega)]) e4⟩
      · refine br_f (by omega) ⟨fun _ => ⟨by omega, trivial⟩, fun w8 e8 => ⟨by omega, fun u13 e13 => step w8 u13 ?_ e13⟩⟩
        rw [e8]
        have cb := hB b (by omega)
        by_cases z : (3 : Int) ≤ (i : Int)
        · rw [if_pos z, if_neg (by omega)]
        · rw [if_neg z, if_pos (by omega), row_n (by decide), wr_n (by decide), show (3 * (b : Int) + (i : Int)).toNat = 3 * b + i by omega]
          rcases (by omega : i = 0 ∨ i = 1 ∨ i = 2) with rfl | rfl | rfl
          · exact cb.1
          · exact cb.2.1
          · exact cb.2.2
  have out : ∀ (dd b : Nat), b + dd = 7 → V G mX6_caravan 115 [(0, RR 132), (1, II (nmR L n (wq1 L n)).1), (2, II (nmR L n (wq3 L n)).1), (3, II (c : Int)), (4, II (b : Int))] [] (row (wr w 132 9 0) 133 (fun j => if 14 ≤ j ∧ j < 14 + 7 * b then (if (j - 14) / 7 < c ∧ (j - 14) % 7 < 3 then rdV L n (rdW L n).2 ((j - 14) / 7) ((j - 14) % 7) else 0) else t 133 j)) (CvP L n t) := by
    intro dd
    induction dd with
    | zero =>
      intro b hb
      have eb : b = 7 := by omega
      subst eb
      refine sgX6_caravan_115 ⟨i32 (by omega) (by omega), br_t (by omega) ?_⟩
      intro u2 e2 u4 e4 u6 e6 u8 e8 u10 e10 u12 e12 u14 e14 u16 e16 u18 e18 u20 e20
      have o : ∀ x, x ≠ 132 → x ≠ 133 → u20 x = w x := fun x a b => by rw [e20, wr_n a, e18, wr_n b, e16, wr_n b, e14, wr_n b, e12, wr_n b, e10, wr_n b, e8, wr_n b, e6, wr_n b, e4, wr_n a, e2, wr_n b, row_n b, wr_n a]
      have o132 : u20 132 = up (up (up (w 132) 9 0) 2 (-1)) 5 0 := by rw [e20, wr_s, e18, wr_n (by decide), e16, wr_n (by decide), e14, wr_n (by decide), e12, wr_n (by decide), e10, wr_n (by decide), e8, wr_n (by decide), e6, wr_n (by decide), e4, wr_s, e2, wr_n (by decide), row_n (by decide), wr_s]
      have ea : crA L n = (c : Int) := by
        unfold crA; rw [hc, if_neg (by omega)]
      refine ⟨ea.symm, ?_, fun j a b c d e => ?_, fun x a b c => by rw [o x a b]; exact hF.2 x a c, fun q => absurd q (by omega), fun c2 q => ?_⟩
      · rw [o132, up_n (by decide), up_n (by decide), up_s]
      · rw [o132, up_n b, up_n a, up_n c]; exact hF.1 j d e
      · have ec : c2 = c := by omega
        subst ec
        refine ⟨?_, ?_, ?_⟩
        · funext j
          rw [e20, wr_n (by decide), e18, wr_sif, e16, wr_sif, e14, wr_sif, e12, wr_sif, e10, wr_sif, e8, wr_sif, e6, wr_sif, e4, wr_n (by decide), e2, wr_sif, row_s]
          unfold cvN
          by_cases j0 : j = 0
          · subst j0; simp
          by_cases j1 : j = 1
          · subst j1; simp
          by_cases j7 : j = 7
          · subst j7; simp
          by_cases j8 : j = 8
          · subst j8; simp
          by_cases j9 : j = 9
          · subst j9; simp
          by_cases j10 : j = 10
          · subst j10; simp
          by_cases j11 : j = 11
          · subst j11; simp
          by_cases j12 : j = 12
          · subst j12; simp
          rw [if_neg j11, if_neg j10, if_neg j9, if_neg j8, if_neg j7, if_neg j1, if_neg j0, if_neg j12]
          rw [if_neg j0, if_neg j1, if_neg (show ¬ (j = 7 ∨ j = 8 ∨ j = 9 ∨ j = 11) by omega), if_neg j10]
        · rw [o132, up_n (by decide), up_s]
        · rw [o132, up_s]
    | succ dd ih =>
      intro b hb
      refine sgX6_caravan_115 ⟨i32 (by omega) (by omega), br_f (by omega) ?_⟩
      exact inn b (by omega) (ih (b + 1) (by omega)) 7 0 (by omega)
  have := out 7 0 (by omega)
  rw [show (fun j => if 14 ≤ j ∧ j < 14 + 7 * 0 then (if (j - 14) / 7 < c ∧ (j - 14) % 7 < 3 then rdV L n (rdW L n).2 ((j - 14) / 7) ((j - 14) % 7) else 0) else t 133 j) = wr w 132 9 0 133 from by funext j; rw [if_neg (by omega), wr_n (by decide), w133], row_same] at this
  exact this
theorem c_lp (hT : MT t L n) (hr : (rdW L n).1 = 1) : ∀ (d k : Nat) (w : Mem), k + d = 6 → FrR t w → w 132 10 = (bEn L n (bAt L n (rdW L n).2 k) : Int) → w 132 11 = 0 → bEn L n (bAt L n (rdW L n).2 k) ≤ n → BtM w L n (rdW L n).2 (k + 1) → crv L n = (if n ≤ sk L n (bEn L n (bAt L n (rdW L n).2 k)) then (((k + 1 : Nat) : Int), sk L n (bEn L n (bAt L n (rdW L n).2 k))) else if 0 < d ∧ L (sk L n (bEn L n (bAt L n (rdW L n).2 k))) = 44 then runB L n (rdW L n).2 d (k + 1) else (-1, sk L n (bEn L n (bAt L n (rdW L n).2 k)))) → V G mX6_caravan 38 [(0, RR 132), (1, II (nmR L n (wq1 L n)).1), (2, II (nmR L n (wq3 L n)).1), (3, II ((k : Int) + 1))] [] w (CvP L n t) := by
  intro d
  induction d with
  | zero =>
    intro k w hk hF h10 h11 hle hB hc
    have hw := hT.fr hF
    have h60 := hT.2.1
    have ls := sk_le (L := L) hle
    have hz := hz_in (b := sk L n (bEn L n (bAt L n (rdW L n).2 k))) hT
    refine sgX6_caravan_38 ?_
    rw [h11]
    refine ⟨iL rfl, nb_f rfl ⟨i32 (by omega) (by omega), br_f (by omega) (ck (c_here1 hle hw h10) ⟨i32 (by omega) (by omega), ?_⟩)⟩⟩
    by_cases e : n ≤ sk L n (bEn L n (bAt L n (rdW L n).2 k))
    · rw [if_pos e] at hc
      refine br_t (hz.1.mpr e) (fun u37 e37 => ?_)
      have f11 : u37 132 11 = 0 := by rw [e37, wr_sn (by decide), wr_sn (by decide)]; exact h11
      rw [f11]
      refine ⟨iL rfl, br_t rfl ?_⟩
      rw [e37]
      exact c_good (c := k + 1) ⟨fun j a b => by rw [wr_sn a]; exact hF.1 j a b, fun x a b => by rw [wr_n a]; exact hF.2 x a b⟩ (fun i hi => by rw [wr_n (by decide)]; exact hB i hi) (by rw [hc])
    · rw [if_neg e, if_neg (by omega)] at hc
      refine br_f (fun q => e (hz.1.mp q)) (br_f (by omega) ?_)
      rw [if_pos (by omega)]
      refine ckv (c_must0 (iL rfl) (by rw [wr_sn (by decide)]; exact h11)) ?_
      rw [if_pos rfl]
      have hF5 : FrR t (wr (wr w 132 10 (sk L n (bEn L n (bAt L n (rdW L n).2 k)) : Int)) 132 11 1) := hF.pf
      refine ckv (c_takes1 (a := sk L n (bEn L n (bAt L n (rdW L n).2 k))) (by omega) ls.2 (hT.fr hF5) (by rw [wr_sn (by decide), wr_ss]) (by rw [wr_ss])) ?_
      rw [sk_sk hle]
      refine cqv (c_readBeast1 (a := sk L n (bEn L n (bAt L n (rdW L n).2 k))) ls.2 (hT.fr hF5.pf) PF_10 PF_11) (fun u hu => ?_)
      rw [hu, sk_sk hle]
      exact c_bad hF5.pf.pf PF_10 PF_11 hc
  | succ d ih =>
    intro k w hk hF h10 h11 hle hB hc
    have hw := hT.fr hF
    have h60 := hT.2.1
    have ls := sk_le (L := L) hle
    have hz := hz_in (b := sk L n (bEn L n (bAt L n (rdW L n).2 k))) hT
    refine sgX6_caravan_38 ?_
    rw [h11]
    refine ⟨iL rfl, nb_f rfl ⟨i32 (by omega) (by omega), br_f (by omega) (ck (c_here1 hle hw h10) ⟨i32 (by omega) (by omega), ?_⟩)⟩⟩
    by_cases e : n ≤ sk L n (bEn L n (bAt L n (rdW L n).2 k))
    · rw [if_pos e] at hc
      refine br_t (hz.1.mpr e) (fun u37 e37 => ?_)
      have f11 : u37 132 11 = 0 := by rw [e37, wr_sn (by decide), wr_sn (by decide)]; exact h11
      rw [f11]
      refine ⟨iL rfl, br_t rfl ?_⟩
      rw [e37]
      exact c_good (c := k + 1) ⟨fun j a b => by rw [wr_sn a]; exact hF.1 j a b, fun x a b => by rw [wr_n a]; exact hF.2 x a b⟩ (fun i hi => by rw [wr_n (by decide)]; exact hB i hi) (by rw [hc])
    · rw [if_neg e] at hc
      refine br_f (fun q => e (hz.1.mp q)) (br_f (by omega) ?_)
      rw [if_neg (show ¬ (7 : Int) ≤ (k : Int) + 1 by omega)]
      refine ckv (c_must0 (iL rfl) (by rw [wr_sn (by decide)]; exact h11)) ?_
      rw [if_neg (by decide)]
      have hF5 : FrR t (wr (wr w 132 10 (sk L n (bEn L n (bAt L n (rdW L n).2 k)) : Int)) 132 11 0) := hF.pf
      have hB5 : BtM (wr (wr w 132 10 (sk L n (bEn L n (bAt L n (rdW L n).2 k)) : Int)) 132 11 0) L n (rdW L n).2 (k + 1) := fun i hi => by rw [wr_n (by decide), wr_n (by decide)]; exact hB i hi
      refine ckv (c_takes0 (a := sk L n (bEn L n (bAt L n (rdW L n).2 k))) (c := 44) (by omega) ls.2 (hT.fr hF5) (by rw [wr_sn (by decide), wr_ss]) (by rw [wr_ss])) ?_
      rw [sk_sk hle]
      by_cases g : L (sk L n (bEn L n (bAt L n (rdW L n).2 k))) = 44
      · rw [if_pos ⟨by omega, g⟩] at hc
        have hg : hdL L n (sk L n (bEn L n (bAt L n (rdW L n).2 k))) = 44 := by rw [hd_e (by omega)]; exact g
        rw [if_pos hg, if_pos hg]
        have hla : bAt L n (rdW L n).2 (k + 1) ≤ n := by show sk L n (bEn L n (bAt L n (rdW L n).2 k)) + 1 ≤ n; omega
        refine cqv (c_readBeast0 (a := bAt L n (rdW L n).2 (k + 1)) (k := k + 1) (by omega) hla (hT.fr hF5.pf) PF_10 PF_11) (fun u hu => ?_)
        rw [PF_n (by decide : (139 : Nat) ≠ 132)] at hu
        rcases hu with ⟨o, hu⟩ | ⟨o, hu⟩
        · rw [show runB L n (rdW L n).2 (d + 1) (k + 1) = (-1, bNo L n (bAt L n (rdW L n).2 (k + 1))) from by unfold runB; rw [if_neg o]] at hc
          rw [hu]
          exact c_bad hF5.pf.pf PF_10 PF_11 hc
        · have le := bOk_le hla o
          refine ih (k + 1) u (by omega) ?_ (by rw [hu, PF_10]) (by rw [hu, PF_11]) le.2.2.2.2 (fun i hi => ?_) (by rw [hc]; show (if bOk L n (bAt L n (rdW L n).2 (k + 1)) then _ else _) = _; rw [if_pos o])
          · rw [hu]
            refine FrR.pf ⟨fun j a b => ?_, fun x a b => ?_⟩
            · rw [row_n (by decide), PF_j a b]; exact hF5.1 j a b
            · rw [row_n b, PF_n a]; exact hF5.2 x a b
          · rw [hu, PF_n (by decide), row_s]
            by_cases z : i = k + 1
            · subst z
              rw [up_n (by omega), up_n (by omega), up_s, up_n (by omega), up_s, up_s]
              exact ⟨rfl, rfl, rfl⟩
            · rw [up_n (by omega), up_n (by omega), up_n (by omega), up_n (by omega), up_n (by omega), up_n (by omega), up_n (by omega), up_n (by omega), up_n (by omega)]
              exact hB5 i (by omega)
      · rw [if_neg (fun q => g q.2)] at hc
        have hg : ¬ hdL L n (sk L n (bEn L n (bAt L n (rdW L n).2 k))) = 44 := by rw [hd_e (by omega)]; exact g
        rw [if_neg hg, if_neg hg]
        refine cqv (c_readBeast1 (a := sk L n (bEn L n (bAt L n (rdW L n).2 k))) ls.2 (hT.fr hF5.pf) PF_10 PF_11) (fun u hu => ?_)
        rw [hu, sk_sk hle]
        exact c_bad hF5.pf.pf PF_10 PF_11 hc
theorem c_caravan (hT : MT t L n) : Ex G mX6_caravan [RR 132] t (CvP L n t) := by
  have h60 := hT.2.1
  refine eX6_caravan (sgX6_caravan_0 (fun u1 e1 u3 e3 => ?_))
  have F3 : FrR t u3 := ⟨fun j a b => by rw [e3, wr_sn b, e1, wr_sn a], fun x a b => by rw [e3, wr_n a, e1, wr_n a]⟩
  have p3 : u3 132 10 = ((0 : Nat) : Int) := by rw [e3, wr_sn (by decide), e1, wr_ss]; rfl
  have f3 : u3 132 11 = 0 := by rw [e3, wr_ss]
  have l1 := sk_le (L := L) (n := n) (a := 0) (by omega)
  refine cq (c_number0 (k := 60) (iL rfl) (Nat.zero_le n) (hT.fr F3) p3 f3) (fun r7 u8 h8 => ?_)
  change (nmO L n 60 (wq1 L n) ∧ r7 = (nmR L n (wq1 L n)).1 ∧ u8 = PF u3 (nmR L n (wq1 L n)).2 0) ∨ (¬ nmO L n 60 (wq1 L n) ∧ u8 = PF u3 (wq1 L n) 1) at h8
  rcases h8 with ⟨o1, rfl, rfl⟩ | ⟨o1, rfl⟩
  · have k1 := nm_le o1
    have k2 : wq2 L n ≤ n := (sk_le k1.2.2.2).2
    refine ckv (c_takes0 (c := 44) (by omega) k1.2.2.2 (hT.fr F3.pf) PF_10 PF_11) ?_
    rw [PF_PF]
    by_cases b : hdL L n (wq2 L n) = 44
    · rw [if_pos (show hdL L n (sk L n (nmR L n (wq1 L n)).2) = 44 from b), if_pos (show hdL L n (sk L n (nmR L n (wq1 L n)).2) = 44 from b)]
      have b1 := hd_lt (L := L) (n := n) (b := wq2 L n) (by omega)
      have k3 : wq3 L n ≤ n := (sk_le (by omega)).2
      refine cq (c_number0 (k := 20) (a := wq2 L n + 1) (iL rfl) (by omega) (hT.fr F3.pf) PF_10 PF_11) (fun r17 u18 h18 => ?_)
      change (nmO L n 20 (wq3 L n) ∧ r17 = (nmR L n (wq3 L n)).1 ∧ u18 = PF (PF u3 (wq2 L n + 1) 0) (nmR L n (wq3 L n)).2 0) ∨ (¬ nmO L n 20 (wq3 L n) ∧ u18 = PF (PF u3 (wq2 L n + 1) 0) (wq3 L n) 1) at h18
      rw [PF_PF, PF_PF] at h18
      rcases h18 with ⟨o2, rfl, rfl⟩ | ⟨o2, rfl⟩
      · have k4 := nm_le o2
        refine ckv (c_takes0 (c := 59) (by omega) k4.2.2.2 (hT.fr F3.pf) PF_10 PF_11) ?_
        rw [PF_PF]
        by_cases d : hdL L n (wq4 L n) = 59
        · have ew : rdW L n = (1, wq4 L n + 1) := by unfold rdW; rw [if_pos o1, if_pos b, if_pos o2, if_pos d]
          have ew1 : (rdW L n).1 = 1 := by rw [ew]
          have ew2 : (rdW L n).2 = wq4 L n + 1 := by rw [ew]
          have hin := rdW_in (L := L) (n := n)
          have hcv : crv L n = runB L n (rdW L n).2 7 0 := by unfold crv; rw [if_pos ew1]
          rw [if_pos (show hdL L n (sk L n (nmR L n (wq3 L n)).2) = 59 from d), if_pos (show hdL L n (sk L n (nmR L n (wq3 L n)).2) = 59 from d)]
          refine sgX6_caravan_38 ?_
          rw [PF_11]
          refine ⟨iL rfl, nb_f rfl ⟨iL rfl, br_t rfl (br_t (by decide) (cqv (c_readBeast0 (a := (rdW L n).2) (k := 0) (by omega) hin.2 (hT.fr F3.pf) (by rw [PF_10, ew2]; rfl) PF_11) (fun u hu => ?_)))⟩⟩
          rw [PF_n (by decide : (139 : Nat) ≠ 132)] at hu
          rcases hu with ⟨o, hu⟩ | ⟨o, hu⟩
          · rw [show runB L n (rdW L n).2 7 0 = (-1, bNo L n (rdW L n).2) from by unfold runB; exact if_neg o] at hcv
            rw [hu]
            exact c_bad F3.pf.pf PF_10 PF_11 hcv
          · have le := bOk_le hin.2 o
            refine c_lp hT ew1 6 0 u (by omega) ?_ (by rw [hu, PF_10]; rfl) (by rw [hu, PF_11]) le.2.2.2.2 (fun i hi => ?_) (by rw [hcv]; exact if_pos o)
            · rw [hu]
              refine FrR.pf ⟨fun j a b => ?_, fun x a b => ?_⟩
              · rw [row_n (by decide), PF_j a b]; exact F3.1 j a b
              · rw [row_n b, PF_n a]; exact F3.2 x a b
            · have z : i = 0 := by omega
              subst z
              rw [hu, PF_n (by decide), row_s]
              rw [up_n (by omega), up_n (by omega), up_s, up_n (by omega), up_s, up_s]
              exact ⟨rfl, rfl, rfl⟩
        · have ew : rdW L n = (-1, wq4 L n) := by unfold rdW; rw [if_pos o1, if_pos b, if_pos o2, if_neg d]
          have hcv : crv L n = (-1, wq4 L n) := by unfold crv; rw [ew]; exact if_neg (show ¬ (-1 : Int) = 1 by decide)
          rw [if_neg (show ¬ hdL L n (sk L n (nmR L n (wq3 L n)).2) = 59 from d), if_neg (show ¬ hdL L n (sk L n (nmR L n (wq3 L n)).2) = 59 from d)]
          exact c_bad F3.pf PF_10 PF_11 hcv
      · have ew : rdW L n = (-1, wq3 L n) := by unfold rdW; rw [if_pos o1, if_pos b, if_neg o2]
        have hcv : crv L n = (-1, wq3 L n) := by unfold crv; rw [ew]; exact if_neg (show ¬ (-1 : Int) = 1 by decide)
        have es : sk L n (wq3 L n) = wq3 L n := sk_sk (by omega)
        refine ckv (c_takes1 (a := wq3 L n) (c := 59) (by omega) k3 (hT.fr F3.pf) PF_10 PF_11) ?_
        rw [PF_PF, es]
        exact c_bad F3.pf PF_10 PF_11 hcv
    · rw [if_neg (show ¬ hdL L n (sk L n (nmR L n (wq1 L n)).2) = 44 from b), if_neg (show ¬ hdL L n (sk L n (nmR L n (wq1 L n)).2) = 44 from b)]
      have ew : rdW L n = (-1, wq2 L n) := by unfold rdW; rw [if_pos o1, if_neg b]
      have hcv : crv L n = (-1, wq2 L n) := by unfold crv; rw [ew]; exact if_neg (show ¬ (-1 : Int) = 1 by decide)
      have es : sk L n (wq2 L n) = wq2 L n := sk_sk k1.2.2.2
      refine cq (c_number1 (a := wq2 L n) k2 (hT.fr F3.pf) PF_10 PF_11) (fun r u hu => ?_)
      rw [es, PF_PF] at hu
      rw [hu]
      refine ckv (c_takes1 (a := wq2 L n) (c := 59) (by omega) k2 (hT.fr F3.pf) PF_10 PF_11) ?_
      rw [PF_PF, es]
      exact c_bad F3.pf PF_10 PF_11 hcv
  · have ew : rdW L n = (-1, wq1 L n) := by unfold rdW; rw [if_neg o1]
    have hcv : crv L n = (-1, wq1 L n) := by unfold crv; rw [ew]; exact if_neg (show ¬ (-1 : Int) = 1 by decide)
    have es : sk L n (wq1 L n) = wq1 L n := sk_sk (Nat.zero_le n)
    have k1 : wq1 L n ≤ n := l1.2
    refine ckv (c_takes1 (a := wq1 L n) (c := 44) (by omega) k1 (hT.fr F3.pf) PF_10 PF_11) ?_
    rw [PF_PF, es]
    refine cq (c_number1 (a := wq1 L n) k1 (hT.fr F3.pf) PF_10 PF_11) (fun r u hu => ?_)
    rw [es, PF_PF] at hu
    rw [hu]
    refine ckv (c_takes1 (a := wq1 L n) (c := 59) (by omega) k1 (hT.fr F3.pf) PF_10 PF_11) ?_
    rw [PF_PF, es]
    exact c_bad F3.pf PF_10 PF_11 hcv
theorem s_caravan (hR : Rel t) : Step G mX5_caravan [RR 0] mX6_caravan [RR 132] t := by
  obtain ⟨n, h60, t1, t2, t3⟩ := hR.tape
  have hT : TT t (t 138) n := ⟨t1, h60, t3⟩
  refine ⟨crA (t 138) n, fun u => u 121 1 = 0 ∧ (∀ x, x = 0 ∨ (54 ≤ x ∧ x < 107) ∨ 121 < x → u x = t x) ∧ ((crv (t 138) n).1 = -1 → ∀ x, x < 107 → u x = t x) ∧ (¬ (crv (t 138) n).1 = -1 → ∃ c : Nat, (crv (t 138) n).1 = c ∧ (1 ≤ c ∧ c ≤ 7) ∧ CampR u 1 (cvN (t 138) n c (t 133)) ∧ MomR u 7 (cvN (t 138) n c (t 133)) ∧ Inv 0 (cvN (t 138) n c (t 133)) ∧ (∀ i, i < c → bOk (t 138) n (bAt (t 138) n (rdW (t 138) n).2 i)) ∧ u 12 1 = t 12 1 ∧ u 12 2 = 0), crA_in h60, x_caravan hT hR.camp hR.mom hR.inv, fun u hu => ?_⟩
  obtain ⟨u1, u2, u3, u4⟩ := hu
  have u138 : u 138 = t 138 := u2 138 (by omega)
  have u132 : u 132 = t 132 := u2 132 (by omega)
  have hM : MT u (t 138) n := ⟨by rw [u132]; exact t2, h60, fun i hi => by rw [u138]; exact ⟨rfl, (t3 i hi).2⟩⟩
  refine Ex.mono (c_caravan hM) (fun r w hw => ?_)
  obtain ⟨w1, w2, w3, w4, w5, w6⟩ := hw
  refine ⟨w1, ?_⟩
  have wt : ∀ x, x = 0 ∨ (54 ≤ x ∧ x < 107) ∨ (121 < x ∧ x ≠ 132 ∧ x ≠ 133 ∧ x ≠ 139) → w x = t x := fun x hx => by rw [w4 x (by omega) (by omega) (by omega), u2 x (by omega)]
  have tape : TapeR w := ⟨0, by omega, by rw [w4 121 (by decide) (by decide) (by decide)]; exact u1, w2, fun i hi => absurd hi (Nat.not_lt_zero i)⟩
  have sheets : ∀ k, k < 4 → SheetR w k := fun k hk => (hR.sheets k hk).kept (wt _ (by omega)) (wt _ (by omega)) (wt 141 (by omega)) (wt 142 (by omega)) (wt 143 (by omega))
  have img : ImgR w := hR.img.kept (by rw [wt 0 (by omega)]) (by rw [w3 15 (by decide) (by decide) (by decide) (by decide) (by decide), u132]) (by rw [w3 14 (by decide) (by decide) (by decide) (by decide) (by decide), u132]) (wt 140 (by omega)) (fun x _ _ => wt x (by omega))
  by_cases q : (crv (t 138) n).1 = -1
  · obtain ⟨g1, g2, g3⟩ := w5 q
    have lo : ∀ x, x < 107 → w x = t x := fun x hx => by rw [w4 x (by omega) (by omega) (by omega), u3 q x hx]
    have e133 : w 133 = t 133 := by rw [g1, u2 133 (by omega)]
    refine ⟨by rw [e133]; exact hR.inv, by rw [e133]; exact hR.mn, hR.ord.of hR.h12.2 (by rw [e133]; exact SmB.rf _) (by rw [g2, u132]) (wt 134 (by omega)), by rw [e133]; exact hR.camp.kept (fun x _ _ => lo x (by omega)), by rw [e133]; exact MomG.kept hR.mom (fun x _ _ => lo x (by omega)), ?_, img, tape, sheets⟩
    rw [e133, wt 135 (by omega), g3, u132]
    exact hR.past.kept (lo 12 (by omega)) (fun x _ _ => lo x (by omega))
  · obtain ⟨c, c1, c2, c3, c4, c5, c6, c7, c8⟩ := u4 q
    obtain ⟨g1, g2, g3⟩ := w6 c c1
    rw [u2 133 (by omega)] at g1
    have lo : ∀ x, x < 121 → w x = u x := fun x hx => w4 x (by omega) (by omega) (by omega)
    have e11 : cvN (t 138) n c (t 133) 11 = 0 := cvN_0 (by omega)
    refine ⟨by rw [g1, e11]; exact c5, by rw [g1, e11]; omega, ?_, by rw [g1]; exact c3.kept (fun x _ _ => lo x (by omega)), by rw [g1]; exact MomG.kept c4 (fun x _ _ => lo x (by omega)), ?_, img, tape, sheets⟩
    · unfold OrdI
      rw [g2]
      exact ⟨by omega, by omega, fun z => absurd z (by decide)⟩
    · obtain ⟨nx, k, ⟨p1, p2, p3, p4, p5⟩, -⟩ := hR.past
      rw [g3]
      exact ⟨nx, 0, ⟨p1, by omega, by rw [lo 12 (by omega), c7]; exact p3, by rw [lo 12 (by omega), c8]; rfl, rfl⟩, fun i hi => absurd hi (Nat.not_lt_zero i)⟩
end CM
