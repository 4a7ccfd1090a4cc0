/-! a caravan: what it says -/
def runB (L : Nat → Int) (n a : Nat) : Nat → Nat → Int × Nat
  | 0, _ => (-1, 0)
  | d + 1, k => if bOk L n (bAt L n a k) then (if n ≤ sk L n (bEn L n (bAt L n a k)) then (((k + 1 : Nat) : Int), sk L n (bEn L n (bAt L n a k))) else if 0 < d ∧ L (sk L n (bEn L n (bAt L n a k))) = 44 then runB L n a d (k + 1) else (-1, sk L n (bEn L n (bAt L n a k)))) else (-1, bNo L n (bAt L n a k))
def wq1 (L : Nat → Int) (n : Nat) : Nat := sk L n 0
def wq2 (L : Nat → Int) (n : Nat) : Nat := sk L n (nmR L n (wq1 L n)).2
def wq3 (L : Nat → Int) (n : Nat) : Nat := sk L n (wq2 L n + 1)
def wq4 (L : Nat → Int) (n : Nat) : Nat := sk L n (nmR L n (wq3 L n)).2
def rdW (L : Nat → Int) (n : Nat) : Int × Nat := if nmO L n 60 (wq1 L n) then (if hdL L n (wq2 L n) = 44 then (if nmO L n 20 (wq3 L n) then (if hdL L n (wq4 L n) = 59 then (1, wq4 L n + 1) else (-1, wq4 L n)) else (-1, wq3 L n)) else (-1, wq2 L n)) else (-1, wq1 L n)
def crv (L : Nat → Int) (n : Nat) : Int × Nat := if (rdW L n).1 = 1 then runB L n (rdW L n).2 7 0 else (-1, (rdW L n).2)
def crA (L : Nat → Int) (n : Nat) : Int := if (crv L n).1 = -1 then -20 - ((crv L n).2 : Int) else (crv L n).1
section CR
variable {L : Nat → Int} {n : Nat}
theorem nm_le {k : Int} {b : Nat} (h : nmO L n k b) : b < n ∧ 0 ≤ (nmR L n b).1 ∧ (nmR L n b).1 ≤ k ∧ (nmR L n b).2 ≤ n := by
  have hb : b < n := hd_lt (L := L) (by have := h.1.1; omega)
  have e := hd_e (L := L) hb
  have h1 := h.1
  rw [e] at h1
  refine ⟨hb, ?_, h.2, ?_⟩
  · unfold nmR
    split
    · show 0 ≤ 10 * (L b - 48) + L (b + 1) - 48; omega
    · show 0 ≤ L b - 48; omega
  · unfold nmR
    split
    · show b + 2 ≤ n; omega
    · show b + 1 ≤ n; omega
theorem bNo_le {a : Nat} (h : a ≤ n) : bNo L n a ≤ n := by
  unfold bNo
  split
  · exact (sk_le h).2
  · rename_i q
    have := hd_lt (kdL_ge q).2
    exact (sk_le (by omega)).2
theorem run_in {a : Nat} : ∀ (d k : Nat), 0 < d → bAt L n a k ≤ n → ((runB L n a d k).1 = -1 ∨ (((k + 1 : Nat) : Int) ≤ (runB L n a d k).1 ∧ (runB L n a d k).1 ≤ ((k + d : Nat) : Int))) ∧ (runB L n a d k).2 ≤ n
  | 0, k, h, _ => absurd h (Nat.lt_irrefl 0)
  | d + 1, k, _, hk => by
    unfold runB
    by_cases o : bOk L n (bAt L n a k)
    · rw [if_pos o]
      have le := bOk_le hk o
      have ls := sk_le (L := L) le.2.2.2.2
      by_cases c : n ≤ sk L n (bEn L n (bAt L n a k))
      · rw [if_pos c]; exact ⟨Or.inr ⟨Int.le_refl _, by show ((k + 1 : Nat) : Int) ≤ _; omega⟩, ls.2⟩
      · rw [if_neg c]
        by_cases e : 0 < d ∧ L (sk L n (bEn L n (bAt L n a k))) = 44
        · rw [if_pos e]
          have := run_in (a := a) d (k + 1) e.1 (by show sk L n (bEn L n (bAt L n a k)) + 1 ≤ n; omega)
          refine ⟨?_, this.2⟩
          rcases this.1 with z | z
          · exact Or.inl z
          · exact Or.inr (by omega)
        · rw [if_neg e]; exact ⟨Or.inl rfl, ls.2⟩
    · rw [if_neg o]; exact ⟨Or.inl rfl, bNo_le hk⟩
theorem rdW_in : ((rdW L n).1 = -1 ∨ (rdW L n).1 = 1) ∧ (rdW L n).2 ≤ n := by
  have h1 := sk_le (L := L) (n := n) (a := 0) (by omega)
  unfold rdW
  by_cases a : nmO L n 60 (wq1 L n)
  · rw [if_pos a]
    have a1 := nm_le a
    have h2 : wq2 L n ≤ n := (sk_le a1.2.2.2).2
    by_cases b : hdL L n (wq2 L n) = 44
    · rw [if_pos b]
      have b1 := hd_lt (L := L) (n := n) (b := wq2 L n) (by omega)
      have h3 : wq3 L n ≤ n := (sk_le (by omega)).2
      by_cases c : nmO L n 20 (wq3 L n)
      · rw [if_pos c]
        have c1 := nm_le c
        have h4 : wq4 L n ≤ n := (sk_le c1.2.2.2).2
        by_cases d : hdL L n (wq4 L n) = 59
        · rw [if_pos d]
          have d1 := hd_lt (L := L) (n := n) (b := wq4 L n) (by omega)
          exact ⟨Or.inr rfl, d1⟩
        · rw [if_neg d]; exact ⟨Or.inl rfl, h4⟩
      · rw [if_neg c]; exact ⟨Or.inl rfl, h3⟩
    · rw [if_neg b]; exact ⟨Or.inl rfl, h2⟩
  · rw [if_neg a]; exact ⟨Or.inl rfl, h1.2⟩
theorem crv_in : ((crv L n).1 = -1 ∨ (1 ≤ (crv L n).1 ∧ (crv L n).1 ≤ 7)) ∧ (crv L n).2 ≤ n := by
  have hw := rdW_in (L := L) (n := n)
  unfold crv
  by_cases c : (rdW L n).1 = 1
  · rw [if_pos c]
    have := run_in (L := L) (n := n) (a := (rdW L n).2) 7 0 (by omega) hw.2
    refine ⟨?_, this.2⟩
    rcases this.1 with z | z
    · exact Or.inl z
    · exact Or.inr (by omega)
  · rw [if_neg c]; exact ⟨Or.inl rfl, hw.2⟩
theorem crA_in (h : n ≤ 60) : In32 (crA L n) := by
  have := crv_in (L := L) (n := n)
  unfold crA
  split <;> exact i32 (by omega) (by omega)
end CR
/-! the class reads a caravan -/
def BtC (u : Mem) (L : Nat → Int) (n a k : Nat) : Prop := ∀ i, i < k → bOk L n (bAt L n a i) ∧ u 108 i = bKd L n (bAt L n a i) ∧ u 109 i = bDy L n (bAt L n a i) ∧ u 110 i = bHd L n (bAt L n a i) ∧ u 111 i = 3 * bDy L n (bAt L n a i) + (if bKd L n (bAt L n a i) = 1 ∨ bKd L n (bAt L n a i) = 3 then 5 else 0)
theorem BtC.kept {u w : Mem} {L : Nat → Int} {n a k : Nat} (h : BtC u L n a k) (hq : ∀ x, 108 ≤ x → x ≤ 111 → w x = u x) : BtC w L n a k := fun i hi => by
  rw [hq 108 (by omega) (by omega), hq 109 (by omega) (by omega), hq 110 (by omega) (by omega), hq 111 (by omega) (by omega)]; exact h i hi
def FrB (t u : Mem) : Prop := (∀ j, j ≠ 2 → u 121 j = t 121 j) ∧ (∀ j, j ≠ 7 → u 107 j = t 107 j) ∧ ∀ x, x < 107 ∨ 111 < x → x ≠ 121 → u x = t x
theorem FrB.pos {t u : Mem} {v : Int} (h : FrB t u) : FrB t (wr u 121 2 v) := ⟨fun j hj => by rw [wr_sn hj]; exact h.1 j hj, fun j hj => by rw [wr_n (by decide)]; exact h.2.1 j hj, fun x hx h1 => by rw [wr_n h1]; exact h.2.2 x hx h1⟩
section CX
variable {G : GG} {L : Nat → Int} {n : Nat} {t : Mem}
theorem x_readBeasts {a : Nat} (ha : a ≤ n) (hT : TT t L n) (h2 : t 121 2 = a) (h0 : t 107 7 = 0) : Ex G mX4_readBeasts [RR 121, RR 107] t (fun r u => r = (if (runB L n a 7 0).1 = -1 then 0 else 1) ∧ u 121 2 = ((runB L n a 7 0).2 : Int) ∧ FrB t u ∧ (¬ (runB L n a 7 0).1 = -1 → ∃ c : Nat, (runB L n a 7 0).1 = c ∧ u 107 7 = c ∧ BtC u L n a c)) := by
  have h60 := hT.2.1
  have fin : ∀ (k p : Nat) (u : Mem), k < 7 → p ≤ n → TT u L n → u 121 2 = p → u 107 7 = ((k + 1 : Nat) : Int) → BtC u L n a (k + 1) → FrB t u → runB L n a 7 0 = (if n ≤ sk L n p then (((k + 1 : Nat) : Int), sk L n p) else (-1, sk L n p)) → V G mX4_readBeasts 4 [(0, RR 121), (1, RR 107), (2, II 0), (3, II ((k : Int) + 1))] [] u (fun r u => r = (if (runB L n a 7 0).1 = -1 then 0 else 1) ∧ u 121 2 = ((runB L n a 7 0).2 : Int) ∧ FrB t u ∧ (¬ (runB L n a 7 0).1 = -1 → ∃ c : Nat, (runB L n a 7 0).1 = c ∧ u 107 7 = c ∧ BtC u L n a c)) := by
    intro k p u hk hp hTu hu h7 hB hF hr
    have hi := hd_in (b := sk L n p) hTu
    have post : (if hdL L n (sk L n p) = -1 then (1 : Int) else 0) = (if (runB L n a 7 0).1 = -1 then 0 else 1) ∧ wr u 121 2 (sk L n p : Int) 121 2 = ((runB L n a 7 0).2 : Int) ∧ FrB t (wr u 121 2 (sk L n p : Int)) ∧ (¬ (runB L n a 7 0).1 = -1 → ∃ c : Nat, (runB L n a 7 0).1 = c ∧ wr u 121 2 (sk L n p : Int) 107 7 = c ∧ BtC (wr u 121 2 (sk L n p : Int)) L n a c) := by
      by_cases c : n ≤ sk L n p
      · rw [hr, if_pos c, hd_o c, if_pos rfl, if_neg (by omega)]
        exact ⟨rfl, wr_ss, hF.pos, fun _ => ⟨k + 1, rfl, by rw [wr_n (by decide)]; exact h7, hB.kept (fun x _ _ => wr_n (by omega))⟩⟩
      · have := hTu.2.2 (sk L n p) (by omega)
        rw [hr, if_neg c, hd_e (by omega), if_neg (by omega), if_pos rfl]
        exact ⟨rfl, wr_ss, hF.pos, fun q => absurd rfl q⟩
    refine sgX4_readBeasts_4 is107 ⟨i32 (by omega) (by omega), fun q => ?_, fun q => ⟨iL rfl, br_t rfl ?_⟩⟩
    · exact ck (x_ahead1 hp hTu hu) ⟨i32 (by omega) (by omega), post⟩
    · exact ck (x_ahead1 hp hTu hu) ⟨i32 (by omega) (by omega), post⟩
  have lp : ∀ (d k : Nat) (u : Mem), k + d = 7 → 0 < d → bAt L n a k ≤ n → TT u L n → u 121 2 = (bAt L n a k : Int) → u 107 7 = (k : Int) → BtC u L n a k → FrB t u → runB L n a 7 0 = runB L n a d k → V G mX4_readBeasts 4 [(0, RR 121), (1, RR 107), (2, II 1), (3, II (k : Int))] [] u (fun r u => r = (if (runB L n a 7 0).1 = -1 then 0 else 1) ∧ u 121 2 = ((runB L n a 7 0).2 : Int) ∧ FrB t u ∧ (¬ (runB L n a 7 0).1 = -1 → ∃ c : Nat, (runB L n a 7 0).1 = c ∧ u 107 7 = c ∧ BtC u L n a c)) := by
    intro d
    induction d with
    | zero => intro k u _ h; exact absurd h (Nat.lt_irrefl 0)
    | succ d ih =>
      intro k u hkd _ hp hTu hu h7 hB hF hr
      have er : runB L n a (d + 1) k = if bOk L n (bAt L n a k) then (if n ≤ sk L n (bEn L n (bAt L n a k)) then (((k + 1 : Nat) : Int), sk L n (bEn L n (bAt L n a k))) else if 0 < d ∧ L (sk L n (bEn L n (bAt L n a k))) = 44 then runB L n a d (k + 1) else (-1, sk L n (bEn L n (bAt L n a k)))) else (-1, bNo L n (bAt L n a k)) := rfl
      rw [er] at hr
      refine sgX4_readBeasts_4 is107 ⟨i32 (by omega) (by omega), br_f (by omega) ⟨iL rfl, br_f (by decide) (cq (x_readBeast (k := k) rfl hp hTu hu h7 (by omega)) (fun r w hw => ?_))⟩⟩
      rcases hw with ⟨o, rfl, rfl⟩ | ⟨o, rfl, w1, w2, ⟨w3, w4, w5, w6⟩, w7⟩
      · rw [if_neg o] at hr
        refine ⟨iL rfl, nb_f rfl ⟨?_, ?_, hF.pos, fun q => absurd (by rw [hr]) q⟩⟩
        · rw [hr, if_pos rfl]
        · rw [hr, wr_ss]
      · rw [if_pos o] at hr
        have le := bOk_le hp o
        have ls := sk_le (L := L) le.2.2.2.2
        have Tw : TT w L n := hTu.kept (by rw [w1, up_n (by decide)]) (w7 122 (by omega) (by decide))
        have pw : w 121 2 = (bEn L n (bAt L n a k) : Int) := by rw [w1, up_s]
        have cw : w 107 7 = ((k + 1 : Nat) : Int) := by rw [w2, up_s]; omega
        have Bw : BtC w L n a (k + 1) := fun i hi => by
          change _ ∧ w (107 + 1) i = _ ∧ w (107 + 2) i = _ ∧ w (107 + 3) i = _ ∧ w (107 + 4) i = _
          rw [w3, w4, w5, w6]
          by_cases e : i = k
          · rw [e, up_s, up_s, up_s, up_s]; exact ⟨o, rfl, rfl, rfl, rfl⟩
          · rw [up_n e, up_n e, up_n e, up_n e]; exact hB i (by omega)
        have Fw : FrB t w := ⟨fun j hj => by rw [w1, up_n hj]; exact hF.1 j hj, fun j hj => by rw [w2, up_n hj]; exact hF.2.1 j hj, fun x hx h1 => by rw [w7 x (by omega) h1]; exact hF.2.2 x hx h1⟩
        refine ⟨iL rfl, nb_t (by decide) ⟨fun q => ?_, fun q => ?_⟩⟩
        · have d0 : d = 0 := by omega
          refine fin k (bEn L n (bAt L n a k)) w (by omega) le.2.2.2.2 Tw pw cw Bw Fw ?_
          rw [hr]
          split
          · rfl
          · rw [if_neg (by omega)]
        · refine ck (x_pass (c := 44) (iL rfl) le.2.2.2.2 Tw pw) ⟨by split <;> exact iL rfl, ?_⟩
          by_cases e : hdL L n (sk L n (bEn L n (bAt L n a k))) = 44
          · have hlt := hd_lt (L := L) (n := n) (b := sk L n (bEn L n (bAt L n a k))) (by omega)
            rw [hd_e hlt] at e
            rw [hd_e hlt, if_pos e, if_pos e, if_neg (by decide)]
            rw [if_neg (by omega), if_pos ⟨by omega, e⟩] at hr
            refine ih (k + 1) _ (by omega) (by omega) (show sk L n (bEn L n (bAt L n a k)) + 1 ≤ n by omega) Tw.pos ?_ (by rw [wr_n (by decide)]; exact cw) (Bw.kept (fun x _ _ => wr_n (by omega))) Fw.pos hr
            rw [wr_ss]
            show (sk L n (bEn L n (bAt L n a k)) : Int) + 1 = ((sk L n (bEn L n (bAt L n a k)) + 1 : Nat) : Int)
            omega
          · rw [if_neg e, if_neg e, if_pos rfl]
            refine fin k (sk L n (bEn L n (bAt L n a k))) _ (by omega) ls.2 Tw.pos wr_ss (by rw [wr_n (by decide)]; exact cw) (Bw.kept (fun x _ _ => wr_n (by omega))) Fw.pos ?_
            rw [sk_sk le.2.2.2.2, hr]
            split
            · rfl
            · rename_i z
              rw [if_neg (fun y => e (by rw [hd_e (by omega)]; exact y.2))]
  exact eX4_readBeasts (sgX4_readBeasts_0 is107 (lp 7 0 t (by omega) (by omega) ha hT h2 h0 (fun i hi => absurd hi (Nat.not_lt_zero i)) ⟨fun _ _ => rfl, fun _ _ => rfl, fun _ _ _ => rfl⟩ rfl))
theorem x_readWell (hT : TT t L n) (h2 : t 121 2 = 0) : Ex G mX4_readWell [RR 121, RR 107] t (fun r u => (((rdW L n).1 = 1 ∧ r = 1 ∧ u 121 3 = (nmR L n (wq1 L n)).1 ∧ u 107 0 = (nmR L n (wq3 L n)).1 ∧ (0 ≤ (nmR L n (wq1 L n)).1 ∧ (nmR L n (wq1 L n)).1 ≤ 60) ∧ (0 ≤ (nmR L n (wq3 L n)).1 ∧ (nmR L n (wq3 L n)).1 ≤ 20)) ∨ ((rdW L n).1 = -1 ∧ r = 0)) ∧ u 121 2 = ((rdW L n).2 : Int) ∧ (∀ j, j ≠ 2 → j ≠ 3 → u 121 j = t 121 j) ∧ (∀ j, j ≠ 0 → u 107 j = t 107 j) ∧ ∀ x, x ≠ 107 → x ≠ 121 → u x = t x) := by
  have h60 := hT.2.1
  have hi2 := hd_in (b := wq2 L n) hT
  have hi4 := hd_in (b := wq4 L n) hT
  refine eX4_readWell (sgX4_readWell_0 is107 (cq (x_number (k := 60) (iL rfl) (Nat.zero_le n) hT h2) (fun r u hu u6 e6 => ?_)))
  change (nmO L n 60 (wq1 L n) ∧ r = (nmR L n (wq1 L n)).1 ∧ u = wr t 121 2 ((nmR L n (wq1 L n)).2 : Int)) ∨ (¬ nmO L n 60 (wq1 L n) ∧ r = -4 ∧ u = wr t 121 2 (wq1 L n : Int)) at hu
  have e63 : u6 121 3 = r := by rw [e6, wr_ss]
  rw [e63]
  rcases hu with ⟨o1, rfl, rfl⟩ | ⟨o1, rfl, rfl⟩
  · have l1 := nm_le o1
    have T6 : TT u6 L n := by rw [e6]; exact hT.pos.kept (wr_sn (by decide)) (wr_n (by decide))
    have p6 : u6 121 2 = ((nmR L n (wq1 L n)).2 : Int) := by rw [e6, wr_sn (by decide), wr_ss]
    have f6 : (∀ j, j ≠ 2 → j ≠ 3 → u6 121 j = t 121 j) ∧ ∀ x, x ≠ 121 → u6 x = t x := ⟨fun j a b => by rw [e6, wr_sn b, wr_sn a], fun x a => by rw [e6, wr_n a, wr_n a]⟩
    refine ⟨i32 (by omega) (by omega), br_f (by omega) (ck (x_pass (c := 44) (iL rfl) l1.2.2.2 T6 p6) ?_)⟩
    change In32 (if hdL L n (wq2 L n) = 44 then 1 else 0) ∧ _
    refine ⟨by split <;> exact iL rfl, ?_⟩
    by_cases b : hdL L n (wq2 L n) = 44
    · have hlt := hd_lt (L := L) (n := n) (b := wq2 L n) (by omega)
      rw [if_pos (show hdL L n (sk L n (nmR L n (wq1 L n)).2) = 44 from b), if_pos (show hdL L n (sk L n (nmR L n (wq1 L n)).2) = 44 from b)]
      refine nb_t (by decide) (cq (x_number (k := 20) (a := wq2 L n + 1) (iL rfl) (by omega) T6.pos (by rw [wr_ss]; show (wq2 L n : Int) + 1 = _; omega)) (fun r2 u18 h18 u20 e20 => ?_))
      change (nmO L n 20 (wq3 L n) ∧ r2 = (nmR L n (wq3 L n)).1 ∧ u18 = wr (wr u6 121 2 ((wq2 L n : Int) + 1)) 121 2 ((nmR L n (wq3 L n)).2 : Int)) ∨ (¬ nmO L n 20 (wq3 L n) ∧ r2 = -4 ∧ u18 = wr (wr u6 121 2 ((wq2 L n : Int) + 1)) 121 2 (wq3 L n : Int)) at h18
      rw [wr_wr, wr_wr] at h18
      have e200 : u20 107 0 = r2 := by rw [e20, wr_ss]
      rw [e200]
      rcases h18 with ⟨o2, rfl, rfl⟩ | ⟨o2, rfl, rfl⟩
      · have l2 := nm_le o2
        have T20 : TT u20 L n := by rw [e20]; exact T6.pos.kept (by rw [wr_n (by decide)]) (wr_n (by decide))
        have p20 : u20 121 2 = ((nmR L n (wq3 L n)).2 : Int) := by rw [e20, wr_n (by decide), wr_ss]
        have g3 : u20 121 3 = (nmR L n (wq1 L n)).1 := by rw [e20, wr_n (by decide), wr_sn (by decide)]; exact e63
        have f20 : (∀ j, j ≠ 2 → j ≠ 3 → u20 121 j = t 121 j) ∧ (∀ j, j ≠ 0 → u20 107 j = t 107 j) ∧ ∀ x, x ≠ 107 → x ≠ 121 → u20 x = t x := ⟨fun j a b => by rw [e20, wr_n (by decide), wr_sn a]; exact f6.1 j a b, fun j a => by rw [e20, wr_sn a, wr_n (by decide)]; rw [f6.2 107 (by decide)], fun x a b => by rw [e20, wr_n a, wr_n b]; exact f6.2 x b⟩
        refine ⟨i32 (by omega) (by omega), br_f (by omega) (ck (x_pass (c := 59) (iL rfl) l2.2.2.2 T20 p20) ?_)⟩
        change In32 (if hdL L n (wq4 L n) = 59 then 1 else 0) ∧ _
        refine ⟨by split <;> exact iL rfl, ?_⟩
        by_cases d : hdL L n (wq4 L n) = 59
        · have ew : rdW L n = (1, wq4 L n + 1) := by unfold rdW; rw [if_pos o1, if_pos b, if_pos o2, if_pos d]
          rw [if_pos (show hdL L n (sk L n (nmR L n (wq3 L n)).2) = 59 from d), if_pos (show hdL L n (sk L n (nmR L n (wq3 L n)).2) = 59 from d), if_neg (by decide), ew]
          refine ⟨Or.inl ⟨rfl, rfl, by rw [wr_sn (by decide)]; exact g3, by rw [wr_n (by decide)]; exact e200, l1.2.1 |> fun z => ⟨z, l1.2.2.1⟩, ⟨l2.2.1, l2.2.2.1⟩⟩, ?_, fun j a b => by rw [wr_sn a]; exact f20.1 j a b, fun j a => by rw [wr_n (by decide)]; exact f20.2.1 j a, fun x a b => by rw [wr_n b]; exact f20.2.2 x a b⟩
          rw [wr_ss]; show (wq4 L n : Int) + 1 = ((wq4 L n + 1 : Nat) : Int); omega
        · have ew : rdW L n = (-1, wq4 L n) := by unfold rdW; rw [if_pos o1, if_pos b, if_pos o2, if_neg d]
          rw [if_neg (show ¬ hdL L n (sk L n (nmR L n (wq3 L n)).2) = 59 from d), if_neg (show ¬ hdL L n (sk L n (nmR L n (wq3 L n)).2) = 59 from d), if_pos rfl, ew]
          exact ⟨Or.inr ⟨rfl, rfl⟩, wr_ss, fun j a b => by rw [wr_sn a]; exact f20.1 j a b, fun j a => by rw [wr_n (by decide)]; exact f20.2.1 j a, fun x a b => by rw [wr_n b]; exact f20.2.2 x a b⟩
      · have ew : rdW L n = (-1, wq3 L n) := by unfold rdW; rw [if_pos o1, if_pos b, if_neg o2]
        rw [ew]
        exact ⟨iL rfl, br_t (by decide) ⟨Or.inr ⟨rfl, rfl⟩, by rw [e20, wr_n (by decide), wr_ss], fun j a b => by rw [e20, wr_n (by decide), wr_sn a]; exact f6.1 j a b, fun j a => by rw [e20, wr_sn a, wr_n (by decide), f6.2 107 (by decide)], fun x a b => by rw [e20, wr_n a, wr_n b]; exact f6.2 x b⟩⟩
    · have ew : rdW L n = (-1, wq2 L n) := by unfold rdW; rw [if_pos o1, if_neg b]
      rw [if_neg (show ¬ hdL L n (sk L n (nmR L n (wq1 L n)).2) = 44 from b), if_neg (show ¬ hdL L n (sk L n (nmR L n (wq1 L n)).2) = 44 from b), ew]
      exact nb_f rfl ⟨Or.inr ⟨rfl, rfl⟩, wr_ss, fun j a b => by rw [wr_sn a]; exact f6.1 j a b, fun j a => by rw [wr_n (by decide), f6.2 107 (by decide)], fun x a b => by rw [wr_n b]; exact f6.2 x b⟩
  · have ew : rdW L n = (-1, wq1 L n) := by unfold rdW; rw [if_neg o1]
    rw [ew]
    exact ⟨iL rfl, br_t (by decide) ⟨Or.inr ⟨rfl, rfl⟩, by rw [e6, wr_sn (by decide), wr_ss], fun j a b => by rw [e6, wr_sn b, wr_sn a], fun j a => by rw [e6, wr_n (by decide), wr_n (by decide)], fun x a b => by rw [e6, wr_n b, wr_n b]⟩⟩
/-- what a good caravan says -/
theorem x_readInto (hT : TT t L n) : Ex G mX4_readInto [RR 121, RR 107] t (fun r u => r = crA L n ∧ (∀ j, j ≠ 2 → j ≠ 3 → u 121 j = t 121 j) ∧ (∀ j, j ≠ 0 → j ≠ 6 → j ≠ 7 → u 107 j = t 107 j) ∧ (∀ x, x < 107 ∨ 111 < x → x ≠ 121 → u x = t x) ∧ (¬ (crv L n).1 = -1 → ∃ c : Nat, (crv L n).1 = c ∧ u 107 7 = c ∧ u 107 6 = -4 ∧ BtC u L n (rdW L n).2 c ∧ u 121 3 = (nmR L n (wq1 L n)).1 ∧ u 107 0 = (nmR L n (wq3 L n)).1 ∧ (0 ≤ (nmR L n (wq1 L n)).1 ∧ (nmR L n (wq1 L n)).1 ≤ 60) ∧ (0 ≤ (nmR L n (wq3 L n)).1 ∧ (nmR L n (wq3 L n)).1 ≤ 20))) := by
  have h60 := hT.2.1
  have hw := rdW_in (L := L) (n := n)
  refine eX4_readInto (sgX4_readInto_0 is107 (fun u1 e1 u3 e3 u5 e5 => ?_))
  have T5 : TT u5 L n := by rw [e5, e3, e1]; exact hT.pos.kept (by rw [wr_n (by decide), wr_n (by decide)]) (by rw [wr_n (by decide), wr_n (by decide)])
  have p5 : u5 121 2 = 0 := by rw [e5, wr_n (by decide), e3, wr_n (by decide), e1, wr_ss]
  have f5 : (∀ j, j ≠ 2 → u5 121 j = t 121 j) ∧ (∀ j, j ≠ 6 → j ≠ 7 → u5 107 j = t 107 j) ∧ (∀ x, x ≠ 107 → x ≠ 121 → u5 x = t x) ∧ u5 107 7 = 0 ∧ u5 107 6 = -4 := ⟨fun j a => by rw [e5, wr_n (by decide), e3, wr_n (by decide), e1, wr_sn a], fun j a b => by rw [e5, wr_sn a, e3, wr_sn b, e1, wr_n (by decide)], fun x a b => by rw [e5, wr_n a, e3, wr_n a, e1, wr_n b], by rw [e5, wr_sn (by decide), e3, wr_ss], by rw [e5, wr_ss]⟩
  refine cq (x_readWell T5 p5) (fun r w h => ?_)
  obtain ⟨h1, h2, h3, h4, h5⟩ := h
  rcases h1 with ⟨g1, rfl, g3, g4, g5, g6⟩ | ⟨g1, rfl⟩
  · refine ⟨iL rfl, br_f (by decide) ?_⟩
    have ec : crv L n = runB L n (rdW L n).2 7 0 := by unfold crv; rw [if_pos g1]
    refine cq (x_readBeasts (a := (rdW L n).2) hw.2 (T5.kept (h3 1 (by decide) (by decide)) (h5 122 (by decide) (by decide))) h2 (by rw [h4 7 (by decide)]; exact f5.2.2.2.1)) (fun r2 u hu => ?_)
    rw [← ec] at hu
    obtain ⟨k1, k2, ⟨k3, k4, k5⟩, k6⟩ := hu
    refine ⟨by rw [k1]; split <;> exact iL rfl, fun w19 e19 => ⟨?_, fun j a b => by rw [k3 j a, h3 j a b, f5.1 j a], fun j a b d => by rw [k4 j d, h4 j a, f5.2.1 j b d], fun x a b => by rw [k5 x a b, h5 x (by omega) b, f5.2.2.1 x (by omega) b], fun q => ?_⟩⟩
    · rw [e19, k1]
      unfold crA
      by_cases q : (crv L n).1 = -1
      · rw [if_pos q, if_pos rfl, if_pos q, k2]
      · obtain ⟨c, c1, c2, -⟩ := k6 q
        rw [if_neg q, if_neg (by decide), if_neg q, c2, c1]
    · obtain ⟨c, c1, c2, c3⟩ := k6 q
      exact ⟨c, c1, c2, by rw [k4 6 (by decide), h4 6 (by decide)]; exact f5.2.2.2.2, c3, by rw [k3 3 (by decide)]; exact g3, by rw [k4 0 (by decide)]; exact g4, g5, g6⟩
  · have ec : crv L n = (-1, (rdW L n).2) := by unfold crv; rw [if_neg (by omega)]
    refine ⟨iL rfl, br_t rfl ⟨?_, fun j a b => by rw [h3 j a b, f5.1 j a], fun j a b d => by rw [h4 j a, f5.2.1 j b d], fun x a b => by rw [h5 x (by omega) b, f5.2.2.1 x (by omega) b], fun q => absurd (by rw [ec]) q⟩⟩
    unfold crA
    rw [ec, if_pos rfl, h2]
end CX
