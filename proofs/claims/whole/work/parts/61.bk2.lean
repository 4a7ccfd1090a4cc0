/-! buckets: both sides -/
section BK2
variable {G : GG} {t : Mem} {m : Int} {N : Nat → Int}
def okS (f g : Nat → Int) (n : Nat) : Prop := ∀ a, a < n → (0 ≤ f a ∧ f a ≤ 240) ∧ (0 ≤ g a ∧ g a ≤ 60)
theorem x_readSeen {s p c : Nat} {f g : Nat → Int} (hs : IsSheet s) (h119 : s + 1 ≠ 119 ∧ s + 1 ≠ 120) (hc : c ≤ 8) (hp : p + 2 * c ≤ 24) (hf : ∀ a, a < c → (t (s + 1) (p + 2 * a) = f a ∧ In64 (f a)) ∧ (t (s + 1) (p + 2 * a + 1) = g a ∧ In64 (g a))) : Ex G mX5_readSeen [RR 0, RR s, II (p : Int), II (c : Int)] t (fun r u => ((r = 1 ∧ okS f g c ∧ ∀ a, a < c → u 119 a = f a ∧ u 120 a = g a) ∨ (r = 0 ∧ ¬ okS f g c)) ∧ ∀ x, x ≠ 119 → x ≠ 120 → u x = t x) := by
  have lp : ∀ (dd j : Nat) (u : Mem), j + dd = c → okS f g j → (∀ a, a < j → u 119 a = f a ∧ u 120 a = g a) → (∀ x, x ≠ 119 → x ≠ 120 → u x = t x) → V G mX5_readSeen 3 [(0, RR 0), (1, RR s), (2, II (p : Int)), (3, II (c : Int)), (4, II (j : Int))] [] u (fun r u => ((r = 1 ∧ okS f g c ∧ ∀ a, a < c → u 119 a = f a ∧ u 120 a = g a) ∨ (r = 0 ∧ ¬ okS f g c)) ∧ ∀ x, x ≠ 119 → x ≠ 120 → u x = t x) := by
    intro dd
    induction dd with
    | zero =>
      intro j u hj h1 h2 h3
      have ej : j = c := by omega
      subst ej
      exact sgX5_readSeen_3 hs ⟨i32 (by omega) (by omega), i32 (by omega) (by omega), br_t (by omega) ⟨Or.inl ⟨rfl, h1, h2⟩, h3⟩⟩
    | succ dd ih =>
      intro j u hj h1 h2 h3
      have fj := hf j (by omega)
      have e1 : u (s + 1) (p + 2 * j) = f j := by rw [h3 _ h119.1 h119.2]; exact fj.1.1
      have e2 : u (s + 1) (p + 2 * j + 1) = g j := by rw [h3 _ h119.1 h119.2]; exact fj.2.1
      refine sgX5_readSeen_3 hs ⟨i32 (by omega) (by omega), i32 (by omega) (by omega), br_f (by omega) ⟨by omega, by omega, ?_⟩⟩
      rw [show ((p : Int) + 2 * (j : Int) + 1).toNat = p + 2 * j + 1 by omega, show ((p : Int) + 2 * (j : Int)).toNat = p + 2 * j by omega, e1, e2, Int.toNat_natCast]
      refine ⟨fj.1.2, ?_⟩
      by_cases a : f j < 0
      · exact br_t (lCmp_lt.mpr a) ⟨Or.inr ⟨rfl, fun q => by have := q j (by omega); omega⟩, h3⟩
      refine br_f (fun q => a (lCmp_lt.mp q)) ?_
      by_cases b : 240 < f j
      · exact br_t (lCmp_gt.mpr b) ⟨Or.inr ⟨rfl, fun q => by have := q j (by omega); omega⟩, h3⟩
      refine br_f (fun q => b (lCmp_gt.mp q)) ⟨fj.2.2, ?_⟩
      by_cases d : g j < 0
      · exact br_t (lCmp_lt.mpr d) ⟨Or.inr ⟨rfl, fun q => by have := q j (by omega); omega⟩, h3⟩
      refine br_f (fun q => d (lCmp_lt.mp q)) ?_
      by_cases e : g j ≤ 60
      · refine br_t (lCmp_le.mpr e) ⟨by omega, fun u7 e7 u10 e10 => ?_⟩
        refine ih (j + 1) u10 (by omega) (fun a ha => ?_) (fun a ha => ?_) (fun x x1 x2 => by rw [e10, wr_n x2, e7, wr_n x1, h3 x x1 x2])
        · rcases Nat.lt_or_eq_of_le (Nat.le_of_lt_succ ha) with q | q
          · exact h1 a q
          · rw [q]; omega
        · rw [e10, wr_n (by decide : (119 : Nat) ≠ 120), e7]
          by_cases q : a = j
          · rw [q, wr_ss, wr_ss]; exact ⟨rfl, rfl⟩
          · rw [wr_sn q, wr_sn q, wr_n (by decide : (120 : Nat) ≠ 119)]; exact h2 a (by omega)
      · exact br_f (fun q => e (lCmp_le.mp q)) ⟨Or.inr ⟨rfl, fun q => by have := q j (by omega); omega⟩, h3⟩
  exact eX5_readSeen (sgX5_readSeen_0 hs (lp c 0 t (by omega) (fun a ha => absurd ha (Nat.not_lt_zero a)) (fun a ha => absurd ha (Nat.not_lt_zero a)) (fun _ _ _ => rfl)))
def bkP (N : Nat → Int) (f : Nat → Nat) (g : Nat → Int) (n : Nat) : Nat → Bool := fun s => bkB (up N 3 (s : Int)) f g n
theorem x_bkLoop {k l o r : Int} {c : Nat} {f : Nat → Nat} {g : Nat → Int} (hc : c ≤ 8) (hf : ∀ a, a < c → f a ≤ 240 ∧ In32 (g a)) (hm : m + 241 ≤ 20000) : ∀ (dd j : Nat) (u : Mem), j + dd = 9 → (∀ a, a < c → u 119 a = (f a : Int) ∧ u 120 a = g a) → CampR u 1 N → MomR u 7 N → Inv m N → FrX t u → V G mX5_buckets 79 [(0, RR 0), (1, II k), (2, II l), (3, II o), (4, II (c : Int)), (5, II r), (6, II (bkV (bkP N f g c) j)), (7, II ((j : Int) + 1))] [] u (fun z w => z = bkV (bkP N f g c) 9 ∧ FrX t w) := by
  intro dd
  induction dd with
  | zero =>
    intro j u hj _ _ _ _ h5
    have ej : j = 9 := by omega
    subst ej
    exact sgX5_buckets_79 ⟨i32 (by omega) (by omega), br_t (by omega) ⟨rfl, h5⟩⟩
  | succ dd ih =>
    intro j u hj h1 h2 h3 h4 h5
    refine sgX5_buckets_79 ⟨i32 (by omega) (by omega), br_f (by omega) (cq (x_wouldBe (f := f) (g := g) hc (by omega) (fun a ha => ⟨(h1 a ha).1, (h1 a ha).2, (hf a ha).1, (hf a ha).2⟩) h2 h3 h4 hm) (fun z w hw => ?_))⟩
    obtain ⟨hz, hw⟩ := hw
    have nx := ih (j + 1) w (by omega) (fun a ha => by rw [hw 119 (by omega), hw 120 (by omega)]; exact h1 a ha) (h2.kept (fun x _ _ => hw x (by omega))) (MomG.kept h3 (fun x _ _ => hw x (by omega))) h4 (fun x hx => by rw [hw x (by omega), h5 x hx])
    have es : bkV (bkP N f g c) (j + 1) = if bkP N f g c (j + 1) = true then iOr (bkV (bkP N f g c) j) (iShl 1 ((j + 1 : Nat) : Int)) else bkV (bkP N f g c) j := rfl
    by_cases q : bkP N f g c (j + 1) = true
    · rw [if_pos q] at es
      rw [hz, if_pos (show bkB (up N 3 ((j : Int) + 1)) f g c = true from q)]
      rw [es] at nx
      exact ⟨iL rfl, br_f (by decide) nx⟩
    · rw [if_neg q] at es
      rw [hz, if_neg (show ¬ bkB (up N 3 ((j : Int) + 1)) f g c = true from q)]
      rw [es] at nx
      exact ⟨iL rfl, br_t rfl nx⟩
/-- the sizes, the reference -/
theorem c_bkLoop {k l o r : Int} {b c : Nat} {f : Nat → Nat} {g : Nat → Int} (hc : c ≤ 8) (hb : b + 2 * c ≤ 96) (hf : ∀ a, a < c → t 143 (b + 2 * a) = (f a : Int) ∧ t 143 (b + 2 * a + 1) = g a ∧ f a ≤ 240 ∧ In32 (g a)) (hI : Inv m N) (hm : m + 241 ≤ 20000) : ∀ (dd j : Nat) (u : Mem), j + dd = 9 → FtM t u N N → V G mX6_buckets 133 [(0, RR 132), (1, II k), (2, II l), (3, II o), (4, II (c : Int)), (5, II r), (6, II (b : Int)), (7, II (bkV (bkP N f g c) j)), (8, II ((j : Int) + 1))] [] u (fun z w => z = bkV (bkP N f g c) 9 ∧ FtM t w N N) := by
  intro dd
  induction dd with
  | zero =>
    intro j u hj h
    have ej : j = 9 := by omega
    subst ej
    exact sgX6_buckets_133 ⟨i32 (by omega) (by omega), br_t (by omega) ⟨rfl, h⟩⟩
  | succ dd ih =>
    intro j u hj h
    refine sgX6_buckets_133 ⟨i32 (by omega) (by omega), br_f (by omega) (fun u2 e2 => ?_)⟩
    have h2 : FtM t u2 N (up N 3 ((j : Int) + 1)) := by rw [e2]; exact h.lo3
    have hI3 := inv3 (v := (j : Int) + 1) hI (by omega)
    have bd := bkV_in (bkP N f g c) j
    have es : bkV (bkP N f g c) (j + 1) = if bkP N f g c (j + 1) = true then iOr (bkV (bkP N f g c) j) (iShl 1 ((j + 1 : Nat) : Int)) else bkV (bkP N f g c) j := rfl
    have mn : ∀ (d2 i : Nat) (w : Mem) (z : Int), i + d2 = 241 → FtM t w N (itN 127 (up N 3 ((j : Int) + 1)) i) → ((z = 1 ∧ ∀ a, a < c → f a < i → itN 127 (up N 3 ((j : Int) + 1)) (f a) 0 = g a) ∨ (z = 0 ∧ ¬ ∀ a, a < c → f a < i → itN 127 (up N 3 ((j : Int) + 1)) (f a) 0 = g a)) → V G mX6_buckets 154 [(0, RR 132), (1, II k), (2, II l), (3, II o), (4, II (c : Int)), (5, II r), (6, II (b : Int)), (7, II (bkV (bkP N f g c) j)), (8, II ((j : Int) + 1)), (9, II z), (10, II (i : Int))] [] w (fun z w => z = bkV (bkP N f g c) 9 ∧ FtM t w N N) := by
      intro d2
      induction d2 with
      | zero =>
        intro i w z hi hw hz
        refine sgX6_buckets_154 ⟨i32 (by omega) (by omega), br_t (by omega) ⟨i32 (by omega) (by omega), fun w3 e3 => ckv c_backs ?_⟩⟩
        have nx := ih (j + 1) _ (by omega) (ft_end hw)
        rcases hz with ⟨hz, hp⟩ | ⟨hz, hp⟩
        · have q : bkP N f g c (j + 1) = true := bkB_iff.mpr (fun a ha => hp a ha (by have := (hf a ha).2.2.1; omega))
          rw [if_neg (by omega)] at e3
          rw [es, if_pos q] at nx
          rw [e3]; exact nx
        · have q : ¬ bkP N f g c (j + 1) = true := fun q => hp (fun a ha _ => bkB_iff.mp q a ha)
          rw [if_pos hz] at e3
          rw [es, if_neg q] at nx
          rw [e3, iOr_0 bd]; exact nx
      | succ d2 ih2 =>
        intro i w z hi hw hz
        have hIi := itN_inv (l := 127) hI3 i (by omega)
        have hwa := hIi.h
        unfold InH at hwa
        have w133 : w 133 0 = itN 127 (up N 3 ((j : Int) + 1)) i 0 := by rw [hw.1]
        have w143 : w 143 = t 143 := hw.2.2.2.2.2.2 143 (by decide) (by decide) (by decide) (by decide) (by decide)
        refine sgX6_buckets_154 ⟨i32 (by omega) (by omega), br_f (by omega) ?_⟩
        have inn : ∀ (d3 a : Nat) (z : Int), a + d3 = c → ((z = 1 ∧ (∀ a, a < c → f a < i → itN 127 (up N 3 ((j : Int) + 1)) (f a) 0 = g a) ∧ ∀ x, x < a → f x = i → itN 127 (up N 3 ((j : Int) + 1)) (f x) 0 = g x) ∨ (z = 0 ∧ ¬ ((∀ a, a < c → f a < i → itN 127 (up N 3 ((j : Int) + 1)) (f a) 0 = g a) ∧ ∀ x, x < a → f x = i → itN 127 (up N 3 ((j : Int) + 1)) (f x) 0 = g x))) → V G mX6_buckets 165 [(0, RR 132), (1, II k), (2, II l), (3, II o), (4, II (c : Int)), (5, II r), (6, II (b : Int)), (7, II (bkV (bkP N f g c) j)), (8, II ((j : Int) + 1)), (9, II z), (10, II (i : Int)), (11, II (a : Int))] [] w (fun z w => z = bkV (bkP N f g c) 9 ∧ FtM t w N N) := by
          intro d3
          induction d3 with
          | zero =>
            intro a z ha hz
            refine sgX6_buckets_165 ⟨i32 (by omega) (by omega), i32 (by omega) (by omega), br_t (by omega) (cq (ft_goes hw hIi (by omega)) (fun r2 u6 h6 => ih2 (i + 1) u6 z (by omega) h6.1 ?_))⟩
            rcases hz with ⟨hz, p1, p2⟩ | ⟨hz, hp⟩
            · refine Or.inl ⟨hz, fun x hx hl => ?_⟩
              rcases Nat.lt_or_eq_of_le (Nat.le_of_lt_succ hl) with q | q
              · exact p1 x hx q
              · exact p2 x (by omega) q
            · exact Or.inr ⟨hz, fun q => hp ⟨fun x hx hl => q x hx (by omega), fun x hx hl => q x (by omega) (by omega)⟩⟩
          | succ d3 ih3 =>
            intro a z ha hz
            have fa := hf a (by omega)
            refine sgX6_buckets_165 ⟨i32 (by omega) (by omega), i32 (by omega) (by omega), br_f (by omega) ⟨i32 (by omega) (by omega), ?_⟩⟩
            rcases hz with ⟨hz, p1, p2⟩ | ⟨hz, hp⟩
            · refine br_f (by omega) ⟨by omega, i32 (by omega) (by omega), ?_⟩
              rw [w143, w133, show ((b : Int) + 2 * (a : Int) + 1).toNat = b + 2 * a + 1 by omega, show ((b : Int) + 2 * (a : Int)).toNat = b + 2 * a by omega, fa.1, fa.2.1]
              refine ⟨j32 (i32 (by omega) (by omega)), ?_⟩
              by_cases e : f a = i
              · refine nb_f (lCmp_eq.mpr (by omega)) ⟨by omega, i32 (by omega) (by omega), j32 fa.2.2.2, ?_⟩
                by_cases d : itN 127 (up N 3 ((j : Int) + 1)) i 0 = g a
                · rw [if_pos (lCmp_eq.mpr d.symm)]
                  refine ih3 (a + 1) 1 (by omega) (Or.inl ⟨rfl, p1, fun x hx hl => ?_⟩)
                  rcases Nat.lt_or_eq_of_le (Nat.le_of_lt_succ hx) with q | q
                  · exact p2 x q hl
                  · rw [q, e]; exact d
                · rw [if_neg (fun q => d (lCmp_eq.mp q).symm)]
                  exact ih3 (a + 1) 0 (by omega) (Or.inr ⟨rfl, fun q => d (by have := q.2 a (by omega) e; rw [e] at this; exact this)⟩)
              · refine nb_t (fun q => e (by have := lCmp_eq.mp q; omega)) (ih3 (a + 1) 1 (by omega) (Or.inl ⟨rfl, p1, fun x hx hl => ?_⟩))
                rcases Nat.lt_or_eq_of_le (Nat.le_of_lt_succ hx) with q | q
                · exact p2 x q hl
                · rw [q] at hl; exact absurd hl e
            · exact br_t hz (ih3 (a + 1) 0 (by omega) (Or.inr ⟨rfl, fun q => hp ⟨q.1, fun x hx hl => q.2 x (by omega) hl⟩⟩))
        refine inn c 0 z (by omega) ?_
        rcases hz with ⟨hz, hp⟩ | ⟨hz, hp⟩
        · exact Or.inl ⟨hz, hp, fun x hx => absurd hx (Nat.not_lt_zero x)⟩
        · exact Or.inr ⟨hz, fun q => hp q.1⟩
    exact mn 241 0 u2 1 (by omega) h2 (Or.inl ⟨rfl, fun a _ h => absurd h (Nat.not_lt_zero _)⟩)
/-- the reference looks at the pairs -/
theorem c_bkSeen {k l o r : Int} {b c : Nat} {f g : Nat → Int} {Q : Int → Mem → Prop} (hc : c ≤ 8) (hb : b + 2 * c ≤ 96) (hf : ∀ a, a < c → t 143 (b + 2 * a) = f a ∧ In64 (f a) ∧ t 143 (b + 2 * a + 1) = g a ∧ In64 (g a)) (h0 : ¬ okS f g c → Q (-2) t) (h1 : okS f g c → ∃ P3 : Int → Mem → Prop, Ex G mX6_asides [RR 132] t P3 ∧ ∀ u6 : Mem, P3 0 u6 → V G mX6_buckets 133 [(0, RR 132), (1, II k), (2, II l), (3, II o), (4, II (c : Int)), (5, II r), (6, II (b : Int)), (7, II 0), (8, II 1)] [] u6 Q) : ∀ (dd j : Nat), j + dd = c → okS f g j → V G mX6_buckets 61 [(0, RR 132), (1, II k), (2, II l), (3, II o), (4, II (c : Int)), (5, II r), (6, II (b : Int)), (7, II (j : Int))] [] t Q := by
  intro dd
  induction dd with
  | zero =>
    intro j hj ho
    have ej : j = c := by omega
    subst ej
    exact sgX6_buckets_61 ⟨i32 (by omega) (by omega), i32 (by omega) (by omega), br_t (by omega) (h1 ho)⟩
  | succ dd ih =>
    intro j hj ho
    have fj := hf j (by omega)
    refine sgX6_buckets_61 ⟨i32 (by omega) (by omega), i32 (by omega) (by omega), br_f (by omega) ⟨by omega, ?_⟩⟩
    rw [show ((b : Int) + 2 * (j : Int) + 1).toNat = b + 2 * j + 1 by omega, show ((b : Int) + 2 * (j : Int)).toNat = b + 2 * j by omega, fj.1]
    by_cases x : 0 ≤ f j ∧ f j ≤ 240
    · refine ck (c_in1 fj.2.1 (jL rfl) (jL rfl) x) ⟨iL rfl, br_f (by decide) ⟨by omega, ?_⟩⟩
      rw [fj.2.2.1]
      by_cases y : 0 ≤ g j ∧ g j ≤ 60
      · refine ck (c_in1 fj.2.2.2 (jL rfl) (jL rfl) y) ⟨iL rfl, nb_t (by decide) (ih (j + 1) (by omega) (fun a ha => ?_))⟩
        rcases Nat.lt_or_eq_of_le (Nat.le_of_lt_succ ha) with q | q
        · exact ho a q
        · rw [q]; exact ⟨x, y⟩
      · exact ck (c_in0 fj.2.2.2 (jL rfl) (jL rfl) y) ⟨iL rfl, nb_f rfl (h0 (fun q => y (q j (by omega)).2))⟩
    · exact ck (c_in0 fj.2.1 (jL rfl) (jL rfl) x) ⟨iL rfl, br_t rfl (h0 (fun q => x (q j (by omega)).1))⟩
theorem s_buckets {k l o n : Int} (hk : In32 k) (hl : In32 l) (ho : In32 o) (hn : In32 n) (hR : Rel t) : Step G mX5_buckets [RR 0, II k, II l, II o, II n] mX6_buckets [RR 132, II k, II l, II o, II n] t := by
  have hmn := hR.mn
  have ns := x_noSheet (G := G) (t := t) hk
  have is := c_isSheet (G := G) (t := t) hk
  have il := c_isLane (G := G) (t := t) hl
  by_cases c : 0 ≤ k ∧ k ≤ 3
  · rw [if_pos c] at ns is
    by_cases d : 0 ≤ l ∧ l ≤ 3
    · rw [if_pos d] at il
      by_cases a : 1 ≤ n ∧ n ≤ 8
      · have h2n : In32 (2 * n) := i32 (by omega) (by omega)
        obtain ⟨q, rfl⟩ : ∃ q : Nat, k = q := ⟨k.toNat, by omega⟩
        have hq : q < 4 := by omega
        have hS := hR.sheets q hq
        by_cases e : rfN t q l o (2 * n) = 0
        · have e2 := e
          unfold rfN at e2
          have qq : t 141 q = l ∧ 0 ≤ o ∧ o + 2 * n ≤ t 142 q := by
            by_cases a : t 141 q = -1
            · rw [if_pos a] at e2; exact absurd e2 (by decide)
            · rw [if_neg a] at e2
              by_cases b : t 141 q = l
              · rw [if_pos b] at e2
                by_cases f : 0 ≤ o ∧ 0 ≤ 2 * n ∧ o + 2 * n ≤ t 142 q
                · exact ⟨b, f.1, f.2.2⟩
                · rw [if_neg f] at e2; exact absurd e2 (by decide)
              · rw [if_neg b] at e2; exact absurd e2 (by decide)
          have hS2 := hS
          obtain ⟨s1, s2, s3⟩ := hS2
          obtain ⟨s4, s5, s6⟩ := s3 (by omega)
          obtain ⟨p, rfl⟩ : ∃ p : Nat, o = p := ⟨o.toNat, by omega⟩
          obtain ⟨z, rfl⟩ : ∃ r : Nat, n = r := ⟨n.toNat, by omega⟩
          have hF : ∀ a, a < z → (t (124 + 2 * q + 1) (p + 2 * a) = t 143 (24 * q + p + 2 * a) ∧ In64 (t 143 (24 * q + p + 2 * a))) ∧ (t (124 + 2 * q + 1) (p + 2 * a + 1) = t 143 (24 * q + p + 2 * a + 1) ∧ In64 (t 143 (24 * q + p + 2 * a + 1))) := fun a ha => by
            have h1 := s6 (p + 2 * a) (by omega)
            have h2 := s6 (p + 2 * a + 1) (by omega)
            rw [show 24 * q + (p + 2 * a) = 24 * q + p + 2 * a by omega] at h1
            rw [show 24 * q + (p + 2 * a + 1) = 24 * q + p + 2 * a + 1 by omega] at h2
            rw [show 124 + 2 * q + 1 = 125 + 2 * q by omega]
            exact ⟨h1, h2⟩
          have rs := x_readSeen (G := G) (t := t) (s := 124 + 2 * q) (p := p) (c := z) (f := fun a => t 143 (24 * q + p + 2 * a)) (g := fun a => t 143 (24 * q + p + 2 * a + 1)) (isS hq) (by omega) (by omega) (by omega) hF
          have hvv := bkV_in (bkP (t 133) (fun a => (t 143 (24 * q + p + 2 * a)).toNat) (fun a => t 143 (24 * q + p + 2 * a + 1)) z) 9
          -- the reference's part, from any memory that the class leaves
          have ref : ∀ u : Mem, FrX t u → ∀ Q : Int → Mem → Prop, (¬ okS (fun a => t 143 (24 * q + p + 2 * a)) (fun a => t 143 (24 * q + p + 2 * a + 1)) z → Q (-2) u) → (okS (fun a => t 143 (24 * q + p + 2 * a)) (fun a => t 143 (24 * q + p + 2 * a + 1)) z → ∃ P3 : Int → Mem → Prop, Ex G mX6_asides [RR 132] u P3 ∧ ∀ u6 : Mem, P3 0 u6 → V G mX6_buckets 133 [(0, RR 132), (1, II (q : Int)), (2, II l), (3, II (p : Int)), (4, II (z : Int)), (5, II 0), (6, II ((24 * q + p : Nat) : Int)), (7, II 0), (8, II 1)] [] u6 Q) → Ex G mX6_buckets [RR 132, II (q : Int), II l, II (p : Int), II (z : Int)] u Q := by
            intro u hu Q h0 h1
            have u143 : u 143 = t 143 := hu 143 (by omega)
            have is2 := c_isSheet (G := G) (t := u) hk
            rw [if_pos c] at is2
            have il2 := c_isLane (G := G) (t := u) hl
            rw [if_pos d] at il2
            have hSu := (hR.lookX hu).sheets q hq
            have wy := c_why (G := G) hq hSu hl ho h2n
            have er : rfN u q l (p : Int) (2 * (z : Int)) = 0 := by unfold rfN at e ⊢; rw [hu 141 (by omega), hu 142 (by omega)]; exact e
            rw [er] at wy
            refine eX6_buckets (sgX6_buckets_0 (ck is2 ⟨iL rfl, br_f (by decide) (ck il2 ⟨iL rfl, br_f (by decide) ⟨hn, ck (c_in1 (j32 hn) (jL rfl) (jL rfl) a) ⟨iL rfl, nb_t (by decide) (ck wy ⟨iL rfl, br_t (by decide) ?_⟩)⟩⟩⟩)⟩))
            rw [show 24 * (q : Int) + (p : Int) = ((24 * q + p : Nat) : Int) by omega]
            exact c_bkSeen (b := 24 * q + p) (f := fun a => t 143 (24 * q + p + 2 * a)) (g := fun a => t 143 (24 * q + p + 2 * a + 1)) (by omega) (by omega) (fun a ha => by rw [u143]; exact ⟨rfl, (hF a ha).1.2, rfl, (hF a ha).2.2⟩) h0 h1 z 0 (by omega) (fun a ha => absurd ha (Nat.not_lt_zero a))
          by_cases ok : okS (fun a => t 143 (24 * q + p + 2 * a)) (fun a => t 143 (24 * q + p + 2 * a + 1)) z
          · refine ⟨bkV (bkP (t 133) (fun a => (t 143 (24 * q + p + 2 * a)).toNat) (fun a => t 143 (24 * q + p + 2 * a + 1)) z) 9, fun u => FrX t u, hvv, eX5_buckets (sgX5_buckets_0 (ck ns ⟨iL rfl, nb_f rfl (ck (x_out0 (iL rfl) (iL rfl) d) ⟨iL rfl, nb_f rfl (ck (x_out0 (iL rfl) (iL rfl) a) ⟨iL rfl, br_t rfl ⟨by omega, ?_⟩⟩)⟩)⟩)), fun u hu => ?_⟩
            · rw [Int.toNat_natCast]
              refine ck (x_refusal hq hS hl ho h2n) ?_
              rw [e]
              refine ⟨iL rfl, br_t rfl (cq rs (fun r w hw => ?_))⟩
              obtain ⟨hw, hfr⟩ := hw
              rcases hw with ⟨rfl, -, hw⟩ | ⟨-, hw⟩
              · refine ⟨iL rfl, nb_t (by decide) ?_⟩
                have := x_bkLoop (G := G) (t := t) (m := t 133 11) (N := t 133) (k := (q : Int)) (l := l) (o := (p : Int)) (r := 0) (c := z) (f := fun a => (t 143 (24 * q + p + 2 * a)).toNat) (g := fun a => t 143 (24 * q + p + 2 * a + 1)) (by omega) (fun a ha => by have h1 := (ok a ha).1; have h2 := (ok a ha).2; dsimp only at h1 h2 ⊢; exact ⟨by omega, i32 (by omega) (by omega)⟩) (by omega) 9 0 w (by omega) (fun a ha => by have h1 := (ok a ha).1; have h2 := hw a ha; dsimp only at h1 h2 ⊢; exact ⟨by omega, h2.2⟩) (hR.camp.kept (fun x _ _ => hfr x (by omega) (by omega))) (MomG.kept hR.mom (fun x _ _ => hfr x (by omega) (by omega))) hR.inv (fun x hx => hfr x (by omega) (by omega))
                exact this
              · exact absurd ok hw
            · refine ref u hu _ (fun q => absurd ok q) (fun _ => ckv c_asides ?_)
              have hRu := hR.lookX hu
              have u143 : u 143 = t 143 := hu 143 (by omega)
              have u133 : u 133 = t 133 := hu 133 (by omega)
              have fb := ft_begin hRu.inv hRu.ord
              have hIu := hRu.inv
              rw [u133] at fb hIu
              have := c_bkLoop (G := G) (t := u) (m := t 133 11) (N := t 133) (k := (q : Int)) (l := l) (o := (p : Int)) (r := 0) (b := 24 * q + p) (c := z) (f := fun a => (t 143 (24 * q + p + 2 * a)).toNat) (g := fun a => t 143 (24 * q + p + 2 * a + 1)) (by omega) (by omega) (fun a ha => by rw [u143]; have h1 := (ok a ha).1; have h2 := (ok a ha).2; dsimp only at h1 h2 ⊢; exact ⟨by omega, rfl, by omega, i32 (by omega) (by omega)⟩) hIu (by omega) 9 0 _ (by omega) fb
              rw [u133]
              exact V.mono this (fun z w hw => ⟨hw.1, hRu.lookM (by have := hw.2; rw [← u133] at this; exact this.bk)⟩)
          · refine ⟨-2, fun u => FrX t u, iL rfl, eX5_buckets (sgX5_buckets_0 (ck ns ⟨iL rfl, nb_f rfl (ck (x_out0 (iL rfl) (iL rfl) d) ⟨iL rfl, nb_f rfl (ck (x_out0 (iL rfl) (iL rfl) a) ⟨iL rfl, br_t rfl ⟨by omega, ?_⟩⟩)⟩)⟩)), fun u hu => ?_⟩
            · rw [Int.toNat_natCast]
              refine ck (x_refusal hq hS hl ho h2n) ?_
              rw [e]
              refine ⟨iL rfl, br_t rfl (cq rs (fun r w hw => ?_))⟩
              obtain ⟨hw, hfr⟩ := hw
              rcases hw with ⟨-, hw, -⟩ | ⟨rfl, -⟩
              · exact absurd hw ok
              · exact ⟨iL rfl, nb_f rfl ⟨rfl, fun x hx => hfr x (by omega) (by omega)⟩⟩
            · exact ref u hu _ (fun _ => ⟨rfl, hR.lookX hu⟩) (fun q => absurd q ok)
        · have hin := rfN_in t q l o (2 * n)
          have hneg : ¬ 0 ≤ rfN t q l o (2 * n) := by
            unfold rfN at e ⊢
            repeat' split
            all_goals first | omega | (exfalso; revert e; simp_all)
          refine Step.pure (v := rfN t q l o (2 * n)) hR hin (eX5_buckets (sgX5_buckets_0 (ck ns ⟨iL rfl, nb_f rfl (ck (x_out0 (iL rfl) (iL rfl) d) ⟨iL rfl, nb_f rfl (ck (x_out0 (iL rfl) (iL rfl) a) ⟨iL rfl, br_t rfl ⟨by omega, ?_⟩⟩)⟩)⟩))) (eX6_buckets (sgX6_buckets_0 (ck is ⟨iL rfl, br_f (by decide) (ck il ⟨iL rfl, br_f (by decide) ⟨hn, ck (c_in1 (j32 hn) (jL rfl) (jL rfl) a) ⟨iL rfl, nb_t (by decide) (ck (c_why hq hS hl ho h2n) ⟨hin, br_f hneg ⟨rfl, rfl⟩⟩)⟩⟩⟩)⟩)))
          rw [Int.toNat_natCast]
          exact ck (x_refusal hq hS hl ho h2n) ⟨hin, br_f e ⟨rfl, rfl⟩⟩
      · exact Step.pure (v := -1) hR (iL rfl) (eX5_buckets (sgX5_buckets_0 (ck ns ⟨iL rfl, nb_f rfl (ck (x_out0 (iL rfl) (iL rfl) d) ⟨iL rfl, nb_f rfl (ck (x_out1 hn (iL rfl) (iL rfl) a) ⟨iL rfl, br_f (by decide) ⟨rfl, rfl⟩⟩)⟩)⟩))) (eX6_buckets (sgX6_buckets_0 (ck is ⟨iL rfl, br_f (by decide) (ck il ⟨iL rfl, br_f (by decide) ⟨hn, ck (c_in0 (j32 hn) (jL rfl) (jL rfl) a) ⟨iL rfl, nb_f rfl ⟨rfl, rfl⟩⟩⟩⟩)⟩)))
    · rw [if_neg d] at il
      exact Step.pure (v := -1) hR (iL rfl) (eX5_buckets (sgX5_buckets_0 (ck ns ⟨iL rfl, nb_f rfl (ck (x_out1 hl (iL rfl) (iL rfl) d) ⟨iL rfl, nb_t (by decide) ⟨rfl, rfl⟩⟩)⟩))) (eX6_buckets (sgX6_buckets_0 (ck is ⟨iL rfl, br_f (by decide) (ck il ⟨iL rfl, br_t rfl ⟨rfl, rfl⟩⟩)⟩)))
  · rw [if_neg c] at ns is
    exact Step.pure (v := -1) hR (iL rfl) (eX5_buckets (sgX5_buckets_0 (ck ns ⟨iL rfl, nb_t (by decide) ⟨rfl, rfl⟩⟩))) (eX6_buckets (sgX6_buckets_0 (ck is ⟨iL rfl, br_t rfl ⟨rfl, rfl⟩⟩)))
end BK2
