/-! the reference's order: among, isAhead, orders, turn -/
section M2
variable {G : GG} {t : Mem}
theorem nat_s (k : Nat) : ((k : Int) + 1) = ((k + 1 : Nat) : Int) := rfl
theorem c_among_loop {m : Int} (hI : Inv m (t 133)) {b : Nat} (hb : b < 7) {Q : Int → Mem → Prop} (hq : Q (amg (t 133) b b) t) : ∀ (d k : Nat), k + d = b → V G mX6_among 4 [(0, RR 132), (1, II (b : Int)), (2, II (amg (t 133) b k)), (3, II (k : Int))] [] t Q := by
  intro d
  induction d with
  | zero =>
    intro k hk
    refine sgX6_among_4 ⟨i32 (by omega) (by omega), i32 (by omega) (by omega), br_t (by omega) ?_⟩
    rw [show k = b by omega]; exact hq
  | succ d ih =>
    intro k hk
    have hk7 : k < 7 := by omega
    refine sgX6_among_4 ⟨i32 (by omega) (by omega), i32 (by omega) (by omega), br_f (by omega) ?_⟩
    refine ck (c_at (w := 2) hk7 (by omega)) ?_
    refine ck (c_at (w := 2) hb (by omega)) ?_
    have h1 := (hI.b hk7).2.2.1
    have h2 := (hI.b hb).2.2.1
    exact ⟨i32 (by omega) (by omega), i32 (by omega) (by omega), ih (k + 1) (by omega)⟩
theorem c_among {m : Int} (hI : Inv m (t 133)) {b : Nat} (hb : b < 7) : Ex G mX6_among [RR 132, II (b : Int)] t (Ret (amg (t 133) b b) t) :=
  eX6_among (sgX6_among_0 (c_among_loop hI hb ⟨rfl, rfl⟩ b 0 (by omega)))
theorem c_isAhead {m : Int} (hI : Inv m (t 133)) {a b : Nat} (ha : a < 7) (hb : b < 7) (hab : a ≠ b) : Ex G mX6_isAhead [RR 132, II (a : Int), II (b : Int), II (t 133 6)] t (Ret (if ahd (t 133) a b then 1 else 0) t) := by
  have hl := hI.2.1.2.2.2.2.2.2.1
  have fin : ∀ {x : Int} {c : Prop} [Decidable c], (c ↔ ahd (t 133) a b = true) → x = (if c then 1 else 0) → Ret (if ahd (t 133) a b then 1 else 0) t x t := by
    intro x c _ h e
    refine ⟨?_, rfl⟩
    rw [e]
    by_cases q : c
    · rw [if_pos q, if_pos (h.mp q)]
    · rw [if_neg q, if_neg (fun z => q (h.mpr z))]
  have ka := (hI.b ha); have kb := (hI.b hb)
  refine eX6_isAhead (sgX6_isAhead_0 ⟨i32 (by omega) (by omega), ?_⟩)
  have r65 : (t 133 6 = 1 → bt (t 133) a 1 = bt (t 133) b 1) → (t 133 6 = 2 → mk5 (t 133) a = mk5 (t 133) b) → V G mX6_isAhead 65 [(0, RR 132), (1, II (a : Int)), (2, II (b : Int)), (3, II (t 133 6))] [] t (Ret (if ahd (t 133) a b then 1 else 0) t) := by
    intro e1 e2
    refine sgX6_isAhead_65 ⟨i32 (by omega) (by omega), ?_⟩
    by_cases g : t 133 6 = 3
    · refine nb_f g ?_
      refine ck (c_among hI ha) ?_
      refine ck (c_among hI hb) ?_
      have m1 := amg_in (t 133) a a
      have m2 := amg_in (t 133) b b
      have q1 : a < b → bt (t 133) a 2 = bt (t 133) b 2 → amg (t 133) a a < amg (t 133) b b := fun h e => amg_lt e h
      have q2 : b < a → bt (t 133) b 2 = bt (t 133) a 2 → amg (t 133) b b < amg (t 133) a a := fun h e => amg_lt e h
      have hk : ∀ c : Nat, keyN (t 133) c = 2 * amg (t 133) c c + bt (t 133) c 2 := fun c => by unfold keyN; rw [if_neg (by omega), if_neg (by omega), if_pos g]
      have h1 := ka.2.2.1; have h2 := kb.2.2.1
      refine ⟨i32 (by omega) (by omega), i32 (by omega) (by omega), ?_⟩
      have hA : ahd (t 133) a b = true ↔ (amg (t 133) a a < amg (t 133) b b ∨ (amg (t 133) a a = amg (t 133) b b ∧ bt (t 133) a 2 < bt (t 133) b 2)) := by
        rw [ahd_iff, hk, hk]
        rcases Nat.lt_or_gt_of_ne hab with q | q
        · have := q1 q; omega
        · have := q2 q; omega
      by_cases c1 : amg (t 133) a a < amg (t 133) b b
      · exact br_t c1 (fin (c := True) ⟨fun _ => hA.mpr (Or.inl c1), fun _ => trivial⟩ (by simp))
      · refine br_f c1 ?_
        by_cases c2 : amg (t 133) a a = amg (t 133) b b
        · refine nb_f c2 ?_
          refine ck (c_at (w := 2) ha (by omega)) ?_
          refine ck (c_at (w := 2) hb (by omega)) ?_
          refine ⟨i32 (by omega) (by omega), i32 (by omega) (by omega), ?_⟩
          refine fin (c := ¬ bt (t 133) b 2 ≤ bt (t 133) a 2) ?_ (by by_cases q : bt (t 133) b 2 ≤ bt (t 133) a 2 <;> simp [q])
          rw [hA]; omega
        · exact nb_t c2 (fin (c := False) ⟨fun q => q.elim, fun q => by have := hA.mp q; omega⟩ (by simp))
    · refine nb_t g ⟨i32 (by omega) (by omega), i32 (by omega) (by omega), ?_⟩
      have hk : keyN (t 133) a = keyN (t 133) b := by
        unfold keyN
        by_cases g1 : t 133 6 = 1
        · rw [if_pos g1, if_pos g1, e1 g1]
        · rw [if_neg g1, if_neg g1]
          by_cases g2 : t 133 6 = 2
          · rw [if_pos g2, if_pos g2]
            have := e2 g2
            unfold mk5 at this
            by_cases z1 : bt (t 133) a 0 = 1 ∨ bt (t 133) a 0 = 3 <;> by_cases z2 : bt (t 133) b 0 = 1 ∨ bt (t 133) b 0 = 3 <;> simp [z1, z2] at this ⊢
          · rw [if_neg g2, if_neg g2, if_neg g, if_neg g]
      refine fin (c := ¬ (b : Int) ≤ (a : Int)) ?_ (by by_cases q : (b : Int) ≤ (a : Int) <;> simp [q])
      rw [ahd_iff, hk]; omega
  have r41 : (t 133 6 = 1 → bt (t 133) a 1 = bt (t 133) b 1) → V G mX6_isAhead 41 [(0, RR 132), (1, II (a : Int)), (2, II (b : Int)), (3, II (t 133 6))] [] t (Ret (if ahd (t 133) a b then 1 else 0) t) := by
    intro e1
    refine sgX6_isAhead_41 ⟨i32 (by omega) (by omega), ?_⟩
    by_cases g : t 133 6 = 2
    · refine nb_f g ?_
      refine ck (c_isMilk hI ha) ?_
      refine ck (c_isMilk hI hb) ⟨by split <;> exact iL rfl, by split <;> exact iL rfl, ?_⟩
      have hk : ∀ c : Nat, keyN (t 133) c = (if bt (t 133) c 0 = 1 ∨ bt (t 133) c 0 = 3 then 0 else 1) := fun c => by unfold keyN; rw [if_neg (by omega), if_pos g]
      by_cases z1 : bt (t 133) a 0 = 1 ∨ bt (t 133) a 0 = 3
      · by_cases z2 : bt (t 133) b 0 = 1 ∨ bt (t 133) b 0 = 3
        · rw [if_pos z1, if_pos z2]
          refine br_t rfl (r65 e1 (fun _ => by unfold mk5; rw [if_pos z1, if_pos z2]))
        · rw [if_pos z1, if_neg z2]
          refine br_f (by decide) ?_
          refine ck (c_isMilk hI ha) ?_
          rw [if_pos z1]
          exact ⟨Or.inr rfl, fin (c := True) ⟨fun _ => ahd_iff.mpr (Or.inl (by rw [hk, hk, if_pos z1, if_neg z2]; decide)), fun _ => trivial⟩ (by simp)⟩
      · by_cases z2 : bt (t 133) b 0 = 1 ∨ bt (t 133) b 0 = 3
        · rw [if_neg z1, if_pos z2]
          refine br_f (by decide) ?_
          refine ck (c_isMilk hI ha) ?_
          rw [if_neg z1]
          exact ⟨Or.inl rfl, fin (c := False) ⟨fun q => q.elim, fun q => by have := ahd_iff.mp q; rw [hk, hk, if_neg z1, if_pos z2] at this; omega⟩ (by simp)⟩
        · rw [if_neg z1, if_neg z2]
          refine br_t rfl (r65 e1 (fun _ => by unfold mk5; rw [if_neg z1, if_neg z2]))
    · exact nb_t g (r65 e1 (fun h => absurd h g))
  by_cases g : t 133 6 = 1
  · refine nb_f g ?_
    refine ck (c_at (w := 1) ha (by omega)) ?_
    refine ck (c_at (w := 1) hb (by omega)) ?_
    have h1 := ka.2.1; have h2 := kb.2.1
    refine ⟨i32 (by omega) (by omega), i32 (by omega) (by omega), ?_⟩
    have hk : ∀ c : Nat, keyN (t 133) c = 9 - bt (t 133) c 1 := fun c => by unfold keyN; rw [if_pos g]
    by_cases e : bt (t 133) a 1 = bt (t 133) b 1
    · exact br_t e (r41 (fun _ => e))
    · refine br_f e ?_
      refine ck (c_at (w := 1) ha (by omega)) ?_
      refine ck (c_at (w := 1) hb (by omega)) ⟨i32 (by omega) (by omega), i32 (by omega) (by omega), ?_⟩
      refine fin (c := ¬ bt (t 133) a 1 ≤ bt (t 133) b 1) ?_ (by by_cases q : bt (t 133) a 1 ≤ bt (t 133) b 1 <;> simp [q])
      rw [ahd_iff, hk, hk]; omega
  · exact nb_t g (r41 (fun h => absurd h g))
/-- the turns are worked out for the row N -/
def OrdR (t : Mem) (N : Nat → Int) : Prop := ∀ k, k < nb N → t 134 k = (ordF N k : Int)
theorem c_orders_in {m : Int} {b : Nat} (hb : b < 7) {Q : Int → Mem → Prop} : ∀ (d : Nat) (u : Mem) (k : Nat), Inv m (u 133) → k + d = nb (u 133) → V G mX6_orders 7 [(0, RR 132), (1, II (u 133 6)), (2, II ((b : Int) + 1))] [] (wr u 134 (rankN (u 133) b) b) Q → b < nb (u 133) → V G mX6_orders 23 [(0, RR 132), (1, II (u 133 6)), (2, II (b : Int)), (3, II (cnt (fun a => ahd (u 133) a b) k : Int)), (4, II (k : Int))] [] u Q := by
  intro d
  induction d with
  | zero =>
    intro u k hI hk hq hbn
    have h12 := hI.2.1.2.2.2.2.2.2.2.2.2.2.2.2.1
    have hn : u 133 12 ≤ (k : Int) := by unfold nb at hk; omega
    have hr := rank_lt hbn
    have e : cnt (fun a => ahd (u 133) a b) k = rankN (u 133) b := by unfold rankN; rw [show k = nb (u 133) by omega]
    rw [e]
    refine sgX6_orders_23 ⟨i32 (by omega) (by unfold nb at hk; omega), i32 (by omega) (by omega), br_t hn ⟨by unfold nb at hr; omega, fun v hv => ?_⟩⟩
    rw [hv, Int.toNat_natCast]; exact hq
  | succ d ih =>
    intro u k hI hk hq hbn
    have h12 := hI.2.1.2.2.2.2.2.2.2.2.2.2.2.2.1
    have hn : ¬ u 133 12 ≤ (k : Int) := by unfold nb at hk; omega
    have hk7 : k < 7 := by unfold nb at hk; omega
    refine sgX6_orders_23 ⟨i32 (by omega) (by omega), i32 (by omega) (by omega), br_f hn ⟨i32 (by omega) (by omega), ?_⟩⟩
    have nx := ih u (k + 1) hI (by omega) hq hbn
    have es : (cnt (fun a => ahd (u 133) a b) (k + 1) : Nat) = cnt (fun a => ahd (u 133) a b) k + (if ahd (u 133) k b then 1 else 0) := rfl
    rw [es] at nx
    by_cases e : (k : Int) = (b : Int)
    · refine br_t e ?_
      have ek : k = b := by omega
      rw [ek, ahd_rf] at nx
      rw [ek]; simpa using nx
    · refine br_f e ?_
      refine ck (c_isAhead hI hk7 hb (by omega)) ⟨by split <;> exact iL rfl, ?_⟩
      by_cases q : ahd (u 133) k b
      · rw [q] at nx ⊢; simpa using nx
      · rw [Bool.not_eq_true] at q; rw [q] at nx ⊢; simpa using nx
theorem c_orders_out {m : Int} {Q : Int → Mem → Prop} : ∀ (d : Nat) (u : Mem) (b : Nat), Inv m (u 133) → b + d = nb (u 133) → (∀ a, a < b → u 134 (rankN (u 133) a) = (a : Int)) → (∀ w : Mem, (∀ x, x ≠ 134 → w x = u x) → (∀ a, a < nb (u 133) → w 134 (rankN (u 133) a) = (a : Int)) → Q 0 w) → V G mX6_orders 7 [(0, RR 132), (1, II (u 133 6)), (2, II (b : Int))] [] u Q := by
  intro d
  induction d with
  | zero =>
    intro u b hI hb hu hq
    have h12 := hI.2.1.2.2.2.2.2.2.2.2.2.2.2.2.1
    refine sgX6_orders_7 ⟨i32 (by omega) (by unfold nb at hb; omega), i32 (by omega) (by omega), br_t (by unfold nb at hb; omega) (hq u (fun _ _ => rfl) (fun a ha => hu a (by omega)))⟩
  | succ d ih =>
    intro u b hI hb hu hq
    have h12 := hI.2.1.2.2.2.2.2.2.2.2.2.2.2.2.1
    have hb7 : b < 7 := by unfold nb at hb; omega
    refine sgX6_orders_7 ⟨i32 (by omega) (by omega), i32 (by omega) (by omega), br_f (by unfold nb at hb; omega) ?_⟩
    refine c_orders_in hb7 (nb (u 133)) u 0 hI (by omega) ?_ (by omega)
    have e3 : wr u 134 (rankN (u 133) b) b 133 = u 133 := wr_n (by decide)
    have := ih (wr u 134 (rankN (u 133) b) b) (b + 1) (by rw [e3]; exact hI) (by rw [e3]; omega) (by
      intro a ha
      rw [e3]
      by_cases e : a = b
      · subst e; exact wr_ss
      · rw [wr_sn (fun q => e (rank_inj (by omega) (by omega) q))]; exact hu a (by omega)) (by
      intro w h1 h2
      rw [e3] at h2
      exact hq w (fun x hx => by rw [h1 x hx, wr_n hx]) h2)
    rw [e3] at this
    exact this
theorem c_orders {m : Int} (hI : Inv m (t 133)) : Ex G mX6_orders [RR 132, II (t 133 6)] t (fun r u => (∀ x, x ≠ 134 → u x = wr t 132 2 (t 133 6) x) ∧ OrdR u (t 133)) := by
  refine eX6_orders (sgX6_orders_0 (fun u hu => ?_))
  have e3 : u 133 = t 133 := by rw [hu]; exact wr_n (by decide)
  have h := c_orders_out (G := G) (m := m) (Q := fun r u => (∀ x, x ≠ 134 → u x = wr t 132 2 (t 133 6) x) ∧ OrdR u (t 133)) (nb (u 133)) u 0 (by rw [e3]; exact hI) (by omega) (fun a ha => absurd ha (Nat.not_lt_zero a)) (by
    intro w h1 h2
    refine ⟨fun x hx => by rw [h1 x hx, hu], fun k hk => ?_⟩
    rw [e3] at h2
    have h3 := ordF_ok hk
    have h4 := h2 _ h3.1
    rw [h3.2] at h4
    exact h4)
  rw [e3] at h
  exact h
end M2
