/-! type, sheet, drop, item -/
theorem Rel.io {t u : Mem} (h : Rel t) (f : ∀ x, x < 121 ∨ x = 133 ∨ x = 134 ∨ x = 135 ∨ x = 140 → u x = t x) (g : ∀ j, j ≠ 9 → j ≠ 10 → j ≠ 11 → u 132 j = t 132 j) (hT : TapeR u) (hS : ∀ k, k < 4 → SheetR u k) : Rel u := by
  have e133 := f 133 (by omega)
  refine ⟨by rw [e133]; exact h.inv, by rw [e133]; exact h.mn, h.ord.of h.h12.2 (by rw [e133]; exact SmB.rf _) (g 2 (by omega) (by omega) (by omega)) (f 134 (by omega)), by rw [e133]; exact h.camp.kept (fun x _ _ => f x (by omega)), by rw [e133]; exact MomG.kept h.mom (fun x _ _ => f x (by omega)), ?_, h.img.kept (by rw [f 0 (by omega)]) (g 15 (by omega) (by omega) (by omega)) (g 14 (by omega) (by omega) (by omega)) (f 140 (by omega)) (fun x _ _ => f x (by omega)), hT, hS⟩
  rw [e133, f 135 (by omega), g 5 (by omega) (by omega) (by omega)]
  exact h.past.kept (f 12 (by omega)) (fun x _ _ => f x (by omega))
theorem isS {k : Nat} (h : k < 4) : IsSheet (124 + 2 * k) := by
  have : ∀ k, k < 4 → IsSheet (124 + 2 * k) := by unfold IsSheet; decide
  exact this k h
def lnV (l v : Int) : Int := if l = 0 then iB (iI v) else if l = 1 then iS (iI v) else if l = 2 then iI v else v
theorem lnV_in {l v : Int} (hv : In64 v) : In64 (lnV l v) := by
  unfold lnV
  split
  · exact j32 (x32 _)
  · split
    · exact j32 (x32 _)
    · split
      · exact j32 (iI_in _)
      · exact hv
/-- why a sheet is refused -/
def rfN (t : Mem) (k : Nat) (l i n : Int) : Int := if t 141 k = -1 then -11 else if t 141 k = l then (if 0 ≤ i ∧ 0 ≤ n ∧ i + n ≤ t 142 k then 0 else -13) else -12
section SH
variable {G : GG} {t : Mem}
theorem x_slacks {k : Nat} (hk : k < 4) {i n : Int} (hi : In32 i) (hn : In32 n) (hs : 0 ≤ t (124 + 2 * k) 1 ∧ t (124 + 2 * k) 1 ≤ 24) : Ex G mX3_lacks [RR (124 + 2 * k), II i, II n] t (Ret (if 0 ≤ i ∧ 0 ≤ n ∧ i + n ≤ t (124 + 2 * k) 1 then 0 else 1) t) := by
  have h1 := hn.2
  refine eX3_lacks (sgX3_lacks_0 (isS hk) ⟨hi, ?_⟩)
  by_cases c : i < 0
  · exact br_t c ⟨by rw [if_neg (by omega)], rfl⟩
  · refine br_f c ⟨hn, ?_⟩
    by_cases d : n < 0
    · exact br_t d ⟨by rw [if_neg (by omega)], rfl⟩
    · refine br_f d ⟨i32 (by omega) (by omega), ?_, rfl⟩
      by_cases e : i ≤ t (124 + 2 * k) 1 - n
      · rw [if_pos e, if_pos (by omega)]
      · rw [if_neg e, if_neg (by omega)]
theorem x_refusal {k : Nat} (hk : k < 4) (hS : SheetR t k) {l i n : Int} (hl : In32 l) (hi : In32 i) (hn : In32 n) : Ex G mX3_refusal [RR (124 + 2 * k), II l, II i, II n] t (Ret (rfN t k l i n) t) := by
  obtain ⟨s1, s2, s3⟩ := hS
  refine eX3_refusal (sgX3_refusal_0 (isS hk) ?_)
  rw [s1]
  refine ⟨i32 (by omega) (by omega), ?_⟩
  unfold rfN
  by_cases c : t 141 k = -1
  · exact nb_f c ⟨by rw [if_pos c], rfl⟩
  · rw [if_neg c]
    refine nb_t c ⟨hl, ?_⟩
    obtain ⟨s4, s5, -⟩ := s3 (by omega)
    by_cases d : t 141 k = l
    · rw [if_pos d]
      refine br_t d (ck (x_slacks hk hi hn (by rw [s4]; exact s5)) ?_)
      rw [s4]
      by_cases e : 0 ≤ i ∧ 0 ≤ n ∧ i + n ≤ t 142 k
      · rw [if_pos e, if_pos e]; exact ⟨iL rfl, rfl, rfl⟩
      · rw [if_neg e, if_neg e]; exact ⟨iL rfl, rfl, rfl⟩
    · exact br_f d ⟨by rw [if_neg d], rfl⟩
theorem c_why {k : Nat} (hk : k < 4) (hS : SheetR t k) {l i n : Int} (hl : In32 l) (hi : In32 i) (hn : In32 n) : Ex G mX6_why [RR 132, II (k : Int), II l, II i, II n] t (Ret (rfN t k l i n) t) := by
  obtain ⟨s1, s2, s3⟩ := hS
  have i2 := hi.2
  have n2 := hn.2
  refine eX6_why (sgX6_why_0 ⟨by omega, ?_⟩)
  rw [Int.toNat_natCast]
  refine ⟨i32 (by omega) (by omega), ?_⟩
  unfold rfN
  by_cases c : t 141 k = -1
  · exact br_f (by omega) ⟨by rw [if_pos c], rfl⟩
  · rw [if_neg c]
    refine br_t (by omega) ⟨hl, ?_⟩
    obtain ⟨s4, s5, -⟩ := s3 (by omega)
    by_cases d : t 141 k = l
    · rw [if_pos d]
      refine br_t d ⟨hi, ?_⟩
      by_cases e : i < 0
      · exact br_t e ⟨by rw [if_neg (by omega)], rfl⟩
      · refine br_f e ⟨hn, ?_⟩
        by_cases f : n < 0
        · exact br_t f ⟨by rw [if_neg (by omega)], rfl⟩
        · refine br_f f ⟨i32 (by omega) (by omega), ⟨by omega, by omega⟩, ?_, rfl⟩
          rw [ite_congr (propext lCmp_le) (fun _ => rfl) (fun _ => rfl)]
          by_cases g : i + n ≤ t 142 k
          · rw [if_pos g, if_pos ⟨by omega, by omega, g⟩]
          · rw [if_neg g, if_neg (fun q => g q.2.2)]
    · exact br_f d ⟨by rw [if_neg d], rfl⟩
theorem c_isSheet {v : Int} (hv : In32 v) : Ex G mX6_isSheet [II v] t (Ret (if 0 ≤ v ∧ v ≤ 3 then 1 else 0) t) := by
  refine eX6_isSheet (sgX6_isSheet_0 ⟨hv, ck (c_in (j32 hv) (jL rfl) (jL rfl)) ⟨by split <;> simp, rfl, rfl⟩⟩)
theorem c_isLane {v : Int} (hv : In32 v) : Ex G mX6_isLane [II v] t (Ret (if 0 ≤ v ∧ v ≤ 3 then 1 else 0) t) := by
  refine eX6_isLane (sgX6_isLane_0 ⟨hv, ck (c_in (j32 hv) (jL rfl) (jL rfl)) ⟨by split <;> simp, rfl, rfl⟩⟩)
theorem x_renew {k : Nat} (hk : k < 4) {l s : Int} : Ex G mX3_renew [RR (124 + 2 * k), II l, II s] t (fun _ u => u (124 + 2 * k) 0 = l ∧ u (124 + 2 * k) 1 = s ∧ (∀ i, i < 24 → u (125 + 2 * k) i = 0) ∧ ∀ x, x ≠ 124 + 2 * k → x ≠ 125 + 2 * k → u x = t x) := by
  have lp : ∀ (dd i : Nat) (u : Mem), i + dd = 24 → u (124 + 2 * k) 0 = l → u (124 + 2 * k) 1 = s → (∀ q, q < i → u (125 + 2 * k) q = 0) → (∀ x, x ≠ 124 + 2 * k → x ≠ 125 + 2 * k → u x = t x) → V G mX3_renew 12 [(0, RR (124 + 2 * k)), (1, II l), (2, II s), (3, II (i : Int))] [] u (fun _ u => u (124 + 2 * k) 0 = l ∧ u (124 + 2 * k) 1 = s ∧ (∀ i, i < 24 → u (125 + 2 * k) i = 0) ∧ ∀ x, x ≠ 124 + 2 * k → x ≠ 125 + 2 * k → u x = t x) := by
    intro dd
    induction dd with
    | zero =>
      intro i u hi h1 h2 h3 h4
      exact sgX3_renew_12 (isS hk) ⟨i32 (by omega) (by omega), br_t (by omega) ⟨h1, h2, fun q hq => h3 q (by omega), h4⟩⟩
    | succ dd ih =>
      intro i u hi h1 h2 h3 h4
      refine sgX3_renew_12 (isS hk) ⟨i32 (by omega) (by omega), br_f (by omega) ⟨by omega, fun u2 e2 => ?_⟩⟩
      rw [Int.toNat_natCast, show 124 + 2 * k + 1 = 125 + 2 * k by omega] at e2
      rw [e2]
      refine ih (i + 1) _ (by omega) (by rw [wr_n (by omega)]; exact h1) (by rw [wr_n (by omega)]; exact h2) (fun q hq => ?_) (fun x a b => by rw [wr_n b, h4 x a b])
      by_cases e : q = i
      · rw [e, wr_ss]
      · rw [wr_sn e]; exact h3 q (by omega)
  refine eX3_renew (sgX3_renew_0 (isS hk) (fun u1 e1 u3 e3 => ?_))
  refine lp 24 0 u3 (by omega) (by rw [e3, wr_sn (by decide), e1, wr_ss]) (by rw [e3, wr_ss]) (fun q hq => absurd hq (Nat.not_lt_zero q)) (fun x a b => by rw [e3, wr_n a, e1, wr_n a])
theorem s_type {v : Int} (hv : In32 v) (hR : Rel t) : Step G mX5_type [RR 0, II v] mX6_type [RR 132, II v] t := by
  obtain ⟨n, hn, n1, n2, n3⟩ := hR.tape
  by_cases c : 32 ≤ v ∧ v ≤ 126
  · by_cases d : n = 60
    · refine Step.pure (v := -3) hR (iL rfl) (eX5_type (sgX5_type_0 (ck (x_out0 (iL rfl) (iL rfl) c) ⟨iL rfl, br_t rfl ?_⟩))) (eX6_type (sgX6_type_0 ⟨hv, ck (c_in1 (j32 hv) (jL rfl) (jL rfl) c) ⟨iL rfl, nb_t (by decide) ?_⟩⟩))
      · have hp : Ex G mX4_put [RR 121, II v] t (Ret 0 t) := eX4_put (sgX4_put_0 (by rw [n1]; exact ⟨i32 (by omega) (by omega), br_f (by omega) ⟨rfl, rfl⟩⟩))
        exact ck hp ⟨iL rfl, fun w ew => ⟨by rw [ew]; rfl, rfl⟩⟩
      · rw [n2]
        exact ⟨i32 (by omega) (by omega), nb_f (by omega) ⟨rfl, rfl⟩⟩
    · have hp : Ex G mX4_put [RR 121, II v] t (Ret 1 (wr (wr t 122 n v) 121 1 ((n : Int) + 1))) := by
        refine eX4_put (sgX4_put_0 ?_)
        rw [n1]
        refine ⟨i32 (by omega) (by omega), br_t (by omega) ⟨by omega, fun u2 e2 u5 e5 => ⟨rfl, ?_⟩⟩⟩
        rw [Int.toNat_natCast] at e2
        rw [e5, e2, wr_n (by decide), n1]
      refine Step.one (u := wr (wr t 122 n v) 121 1 ((n : Int) + 1)) (w := wr (wr (wr (wr t 122 n v) 121 1 ((n : Int) + 1)) 138 n v) 132 9 ((n : Int) + 1)) (v := (n : Int) + 1) ?_ (i32 (by omega) (by omega)) (eX5_type (sgX5_type_0 (ck (x_out0 (iL rfl) (iL rfl) c) ⟨iL rfl, br_t rfl (ck hp ⟨iL rfl, fun w ew => ⟨by rw [ew, if_neg (by decide), wr_ss], rfl⟩⟩)⟩))) (eX6_type (sgX6_type_0 ⟨hv, ck (c_in1 (j32 hv) (jL rfl) (jL rfl) c) ⟨iL rfl, nb_t (by decide) ?_⟩⟩))
      · have ne : ∀ x, x ≠ 121 → x ≠ 122 → x ≠ 132 → x ≠ 138 → wr (wr (wr (wr t 122 n v) 121 1 ((n : Int) + 1)) 138 n v) 132 9 ((n : Int) + 1) x = t x := fun x a b c d => by rw [wr_n c, wr_n d, wr_n a, wr_n b]
        refine hR.io (fun x hx => ne x (by omega) (by omega) (by omega) (by omega)) (fun j a _ _ => by rw [wr_sn a, wr_n (by decide), wr_n (by decide), wr_n (by decide)]) ⟨n + 1, by omega, ?_, ?_, fun i hi => ?_⟩ (fun k hk => (hR.sheets k hk).kept (ne _ (by omega) (by omega) (by omega) (by omega)) (ne _ (by omega) (by omega) (by omega) (by omega)) (ne 141 (by omega) (by omega) (by omega) (by omega)) (ne 142 (by omega) (by omega) (by omega) (by omega)) (ne 143 (by omega) (by omega) (by omega) (by omega)))
        · rw [wr_n (by decide), wr_n (by decide), wr_ss]; omega
        · rw [wr_ss]; omega
        · rw [wr_n (show (122 : Nat) ≠ 132 by decide), wr_n (show (122 : Nat) ≠ 138 by decide), wr_n (show (122 : Nat) ≠ 121 by decide), wr_n (show (138 : Nat) ≠ 132 by decide)]
          by_cases e : i = n
          · rw [e, wr_ss, wr_ss]; exact ⟨rfl, c.1, c.2⟩
          · rw [wr_sn e, wr_sn e, wr_n (by decide), wr_n (by decide)]; exact n3 i (by omega)
      · have e9 : wr (wr t 122 n v) 121 1 ((n : Int) + 1) 132 9 = n := by rw [wr_n (by decide), wr_n (by decide)]; exact n2
        rw [e9]
        refine ⟨i32 (by omega) (by omega), nb_t (by omega) ⟨by omega, fun u9 e9 u12 e12 => ?_⟩⟩
        rw [Int.toNat_natCast] at e9
        have e3 : u9 132 9 = n := by rw [e9, wr_n (by decide), wr_n (by decide), wr_n (by decide)]; exact n2
        rw [e3, e9] at e12
        exact ⟨by rw [e12, wr_ss], e12⟩
  · exact Step.pure (v := -1) hR (iL rfl) (eX5_type (sgX5_type_0 (ck (x_out1 hv (iL rfl) (iL rfl) c) ⟨iL rfl, br_f (by decide) ⟨rfl, rfl⟩⟩))) (eX6_type (sgX6_type_0 ⟨hv, ck (c_in0 (j32 hv) (jL rfl) (jL rfl) c) ⟨iL rfl, nb_f rfl ⟨rfl, rfl⟩⟩⟩))
theorem x_put {k i : Nat} (hk : k < 4) (hi : i < 24) {l v : Int} (hl : t (124 + 2 * k) 0 = l) (hl2 : 0 ≤ l ∧ l ≤ 3) : Ex G mX3_put [RR (124 + 2 * k), II (i : Int), JJ v] t (Ret 0 (wr t (125 + 2 * k) i (lnV l v))) := by
  refine eX3_put (sgX3_putW_0 (isS hk) ?_)
  rw [hl, Int.toNat_natCast, show 124 + 2 * k + 1 = 125 + 2 * k by omega]
  refine ⟨i32 (by omega) (by omega), ?_, ?_, ?_, ?_⟩ <;> intro e
  · subst e; exact ⟨x32 _, by omega, fun u eu => ⟨rfl, eu⟩⟩
  · subst e; exact ⟨x32 _, by omega, fun u eu => ⟨rfl, eu⟩⟩
  · subst e; exact ⟨by omega, fun u eu => ⟨rfl, eu⟩⟩
  · have : l = 3 := by omega
    subst this; exact ⟨by omega, fun u eu => ⟨rfl, eu⟩⟩
theorem s_item {k l i v : Int} (hk : In32 k) (hl : In32 l) (hi : In32 i) (hv : In64 v) (hR : Rel t) : Step G mX5_item [RR 0, II k, II l, II i, JJ v] mX6_item [RR 132, II k, II l, II i, JJ v] t := by
  by_cases c : 0 ≤ k ∧ k ≤ 3
  · obtain ⟨n, rfl⟩ : ∃ n : Nat, k = n := ⟨k.toNat, by omega⟩
    have hn : n < 4 := by omega
    have hS := hR.sheets n hn
    have ns := x_noSheet (G := G) (t := t) hk
    rw [if_pos c] at ns
    have is := c_isSheet (G := G) (t := t) hk
    rw [if_pos c] at is
    by_cases d : 0 ≤ l ∧ l ≤ 3
    · have il := c_isLane (G := G) (t := t) hl
      rw [if_pos d] at il
      by_cases e : rfN t n l i 1 = 0
      · have hS2 := hS
        obtain ⟨s1, s2, s3⟩ := hS
        have e2 := e
        unfold rfN at e2
        have q : t 141 n = l ∧ 0 ≤ i ∧ i + 1 ≤ t 142 n := by
          by_cases a : t 141 n = -1
          · rw [if_pos a] at e2; exact absurd e2 (by decide)
          · rw [if_neg a] at e2
            by_cases b : t 141 n = l
            · rw [if_pos b] at e2
              by_cases f : 0 ≤ i ∧ (0 : Int) ≤ 1 ∧ i + 1 ≤ t 142 n
              · exact ⟨b, f.1, f.2.2⟩
              · rw [if_neg f] at e2; exact absurd e2 (by decide)
            · rw [if_neg b] at e2; exact absurd e2 (by decide)
        obtain ⟨s4, s5, s6⟩ := s3 (by omega)
        obtain ⟨m, rfl⟩ : ∃ m : Nat, i = m := ⟨i.toNat, by omega⟩
        have hm : m < 24 := by omega
        have e124 : wr t (125 + 2 * n) m (lnV l v) 141 = t 141 := wr_n (by omega)
        refine Step.one (u := wr t (125 + 2 * n) m (lnV l v)) (w := wr (wr t (125 + 2 * n) m (lnV l v)) 143 (24 * n + m) (lnV l v)) (v := 1) ?_ (iL rfl) (eX5_item (sgX5_item_0 (ck ns ⟨iL rfl, nb_f rfl (ck (x_out0 (iL rfl) (iL rfl) d) ⟨iL rfl, br_t rfl ⟨by omega, ?_⟩⟩)⟩))) (eX6_item (sgX6_itemW_0 (ck (c_isSheet hk) ?_)))
        · refine hR.io (fun x hx => by rw [wr_n (by omega), wr_n (by omega)]) (fun j _ _ _ => by rw [wr_n (by omega), wr_n (by omega)]) (hR.tape.kept (by rw [wr_n (by omega), wr_n (by omega)]) (by rw [wr_n (by omega), wr_n (by omega)]) (by rw [wr_n (by omega), wr_n (by omega)]) (by rw [wr_n (by omega), wr_n (by omega)])) (fun q hq => ?_)
          obtain ⟨a1, a2, a3⟩ := hR.sheets q hq
          refine ⟨by rw [wr_n (by omega), wr_n (by omega), wr_n (by omega), wr_n (by omega)]; exact a1, by rw [wr_n (by omega), wr_n (by omega)]; exact a2, fun h0 => ?_⟩
          rw [wr_n (by omega), wr_n (by omega)] at h0
          obtain ⟨b1, b2, b3⟩ := a3 h0
          refine ⟨by rw [wr_n (by omega), wr_n (by omega), wr_n (by omega), wr_n (by omega)]; exact b1, by rw [wr_n (by omega), wr_n (by omega)]; exact b2, fun y hy => ?_⟩
          rw [wr_n (show 125 + 2 * q ≠ 143 by omega)]
          by_cases f : q = n ∧ y = m
          · obtain ⟨rfl, rfl⟩ := f
            rw [wr_ss, wr_ss]; exact ⟨rfl, lnV_in hv⟩
          · rw [wr_sn (show 24 * q + y ≠ 24 * n + m by omega), wr_n (show (143 : Nat) ≠ 125 + 2 * n by omega)]
            by_cases g : q = n
            · subst g
              rw [wr_sn (fun z => f ⟨rfl, z⟩)]; exact b3 y hy
            · rw [wr_n (by omega)]; exact b3 y hy
        · rw [Int.toNat_natCast]
          refine ck (x_refusal hn hS2 hl hi (iL rfl)) ?_
          rw [e]
          exact ⟨iL rfl, br_t rfl (ckv (x_put hn hm (by rw [s1]; exact q.1) d) ⟨rfl, rfl⟩)⟩
        · rw [if_pos c]
          refine ⟨iL rfl, br_f (by decide) (ck (c_isLane hl) ?_)⟩
          rw [if_pos d]
          have hSu : SheetR (wr t (125 + 2 * n) m (lnV l v)) n → True := fun _ => trivial
          have wy : Ex G mX6_why [RR 132, II (n : Int), II l, II (m : Int), II 1] (wr t (125 + 2 * n) m (lnV l v)) (Ret 0 (wr t (125 + 2 * n) m (lnV l v))) := by
            refine eX6_why (sgX6_why_0 ⟨by omega, ?_⟩)
            rw [Int.toNat_natCast, e124, show wr t (125 + 2 * n) m (lnV l v) 142 = t 142 from wr_n (by omega)]
            refine ⟨i32 (by omega) (by omega), br_t (by omega) ⟨hl, br_t q.1 ⟨hi, br_f (by omega) ⟨iL rfl, br_f (by decide) ⟨i32 (by omega) (by omega), ⟨by omega, by omega⟩, ?_, rfl⟩⟩⟩⟩⟩
            rw [if_pos (lCmp_le.mpr q.2.2)]
          refine ⟨iL rfl, nb_t (by decide) (ck wy ⟨iL rfl, br_t (by decide) ⟨hl, ?_⟩⟩)⟩
          have ei : ((24 * (n : Int)) + (m : Int)).toNat = 24 * n + m := by omega
          rw [ei]
          by_cases z0 : l = 0
          · subst z0; exact nb_f rfl ⟨x32 _, by omega, fun u eu => ⟨rfl, eu⟩⟩
          · refine nb_t z0 ?_
            by_cases z1 : l = 1
            · subst z1; exact nb_f rfl ⟨x32 _, by omega, fun u eu => ⟨rfl, eu⟩⟩
            · refine nb_t z1 (fun w ew => ⟨by omega, fun u eu => ⟨rfl, ?_⟩⟩)
              rw [eu, ew]; unfold lnV; rw [if_neg z0, if_neg z1]
      · have hin : In32 (rfN t n l i 1) := by unfold rfN; repeat' split
                                              all_goals exact iL rfl
        have hneg : ¬ 0 ≤ rfN t n l i 1 := by
          unfold rfN at e ⊢
          repeat' split
          all_goals first | omega | (exfalso; revert e; simp_all)
        refine Step.pure (v := rfN t n l i 1) hR hin (eX5_item (sgX5_item_0 (ck ns ⟨iL rfl, nb_f rfl (ck (x_out0 (iL rfl) (iL rfl) d) ⟨iL rfl, br_t rfl ⟨by omega, ?_⟩⟩)⟩))) (eX6_item (sgX6_itemW_0 (ck is ⟨iL rfl, br_f (by decide) (ck il ⟨iL rfl, nb_t (by decide) (ck (c_why hn hS hl hi (iL rfl)) ⟨hin, br_f hneg ⟨rfl, rfl⟩⟩)⟩)⟩)))
        rw [Int.toNat_natCast]
        exact ck (x_refusal hn hS hl hi (iL rfl)) ⟨hin, br_f e ⟨rfl, rfl⟩⟩
    · have il := c_isLane (G := G) (t := t) hl
      rw [if_neg d] at il
      exact Step.pure (v := -1) hR (iL rfl) (eX5_item (sgX5_item_0 (ck ns ⟨iL rfl, nb_f rfl (ck (x_out1 hl (iL rfl) (iL rfl) d) ⟨iL rfl, br_f (by decide) ⟨rfl, rfl⟩⟩)⟩))) (eX6_item (sgX6_itemW_0 (ck is ⟨iL rfl, br_f (by decide) (ck il ⟨iL rfl, nb_f rfl ⟨rfl, rfl⟩⟩)⟩)))
  · have ns := x_noSheet (G := G) (t := t) hk
    rw [if_neg c] at ns
    have is := c_isSheet (G := G) (t := t) hk
    rw [if_neg c] at is
    exact Step.pure (v := -1) hR (iL rfl) (eX5_item (sgX5_item_0 (ck ns ⟨iL rfl, nb_t (by decide) ⟨rfl, rfl⟩⟩))) (eX6_item (sgX6_itemW_0 (ck is ⟨iL rfl, br_t rfl ⟨rfl, rfl⟩⟩)))
end SH
