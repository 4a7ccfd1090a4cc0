/-! many minutes; minutes in which nothing changes; the first of them; sets as masks -/
def itN (l : Int) (N : Nat → Int) : Nat → (Nat → Int)
  | 0 => N
  | n + 1 => goN 0 l (itN l N n)
theorem itN_kp (l : Int) (N : Nat → Int) : ∀ n, Kp N (itN l N n)
  | 0 => Kp.rf N
  | n + 1 => (itN_kp l N n).tr (goN_kp 0 l _)
theorem itN_inv {m l : Int} {N : Nat → Int} (h : Inv m N) : ∀ n : Nat, m + n ≤ 20000 → Inv (m + n) (itN l N n)
  | 0, _ => by rw [show m + ((0 : Nat) : Int) = m by omega]; exact h
  | n + 1, hm => by
    have := goN_inv (d := 0) (l := l) (itN_inv (l := l) h n (by omega)) (by omega)
    rw [show m + ((n + 1 : Nat) : Int) = m + n + 1 by omega]; exact this
theorem itN_nb (l : Int) (N : Nat → Int) (n : Nat) : nb (itN l N n) = nb N := by unfold nb; rw [(itN_kp l N n).1.2.2.2.2.2.2.2]
/-- the row's places from 63 on are nobody's -/
theorem up_hi {N : Nat → Int} {k j : Nat} {v : Int} (hk : k < 63) (hj : 63 ≤ j) : up N k v j = N j := up_n (by omega)
theorem goN_hi {m d l : Int} {N : Nat → Int} (h : Inv m N) (hm : m + 1 ≤ 20000) {j : Nat} (hj : 63 ≤ j) : goN d l N j = N j := by
  have hh := h.h
  unfold InH at hh
  have e1 : nR N j = N j := up_hi (by omega) hj
  have e2 : ∀ M : Nat → Int, (M 10 = -4 ∨ (0 ≤ M 10 ∧ M 10 < 7)) → nD M j = M j := fun M hM => by
    have e0 : nD0 M j = M j := by unfold nD0; rw [up_hi (by omega) hj, up_hi (by omega) hj, up_hi (by omega) hj]
    unfold nD; split
    · exact e0
    · rw [up_hi (by unfold pN; omega) hj, e0]
  have e3 : ∀ M : Nat → Int, nB M j = M j := fun M => by
    unfold nB; split
    · rw [up_hi (by omega) hj]
    · rw [up_hi (by omega) hj, up_hi (by omega) hj, up_hi (by omega) hj]
  have e4 : nE d N j = N j := by
    have k10 : nR N 10 = N 10 := (nR_kp N).1.2.2.2.2.2.2.1
    unfold nE; split
    · unfold nW; split
      · split
        · rw [e2 _ (by rw [k10]; omega), e1]
        · rw [e3, e2 _ (by rw [k10]; omega), e1]
      · exact e1
    · exact e1
  have e5 : ∀ k : Nat, k ≤ nb N → (drS l (nE d N) k).1 j = N j := by
    intro k
    induction k with
    | zero => intro _; exact e4
    | succ k ih =>
      intro hk
      have ho := ord_lt (N := nE d N) (by rw [(nE_kp d N).1.2.2.2.2.2.2.2]; omega) (k := k) (by rw [nE_nb]; omega)
      show (dr1 l (drS l (nE d N) k) (ordF (nE d N) k)).1 j = _
      unfold dr1; split
      · show up _ _ _ j = _
        rw [up_hi (by omega) hj, up_hi (by omega) hj, up_hi (by omega) hj, ih (by omega)]
      · show up _ _ _ j = _
        rw [up_hi (by omega) hj, ih (by omega)]
  have e6 : ∀ k : Nat, k ≤ nb N → swS (drS l (nE d N) (nb N)).1 k j = N j := by
    intro k
    induction k with
    | zero => intro _; exact e5 _ (Nat.le_refl _)
    | succ k ih =>
      intro hk
      have hk7 : k < 7 := by unfold nb at hk; omega
      show sw1 _ k j = _
      unfold sw1; split
      · rw [up_hi (by omega) hj, up_hi (by omega) hj, up_hi (by omega) hj, ih (by omega)]
      · rw [up_hi (by omega) hj, ih (by omega)]
  unfold goN finN
  rw [up_hi (by omega) hj, up_hi (by omega) hj, e6 _ (Nat.le_refl _)]
theorem itN_hi {m l : Int} {N : Nat → Int} (h : Inv m N) {j : Nat} (hj : 63 ≤ j) : ∀ n : Nat, m + n ≤ 20000 → itN l N n j = N j
  | 0, _ => rfl
  | n + 1, hm => by
    show goN 0 l (itN l N n) j = _
    rw [goN_hi (itN_inv h n (by omega)) (by omega) hj, itN_hi h hj n (by omega)]
/-- alike but for the time and what was drunk one behind another -/
def Ag (N M : Nat → Int) : Prop := (∀ j, j < 14 → j ≠ 11 → M j = N j) ∧ ∀ b w, b < 7 → w < 7 → w ≠ 5 → bt M b w = bt N b w
theorem Ag.rf (N : Nat → Int) : Ag N N := ⟨fun _ _ _ => rfl, fun _ _ _ _ _ => rfl⟩
theorem Ag.tr {A B C : Nat → Int} (h : Ag A B) (g : Ag B C) : Ag A C := ⟨fun j h1 h2 => by rw [g.1 j h1 h2, h.1 j h1 h2], fun b w h1 h2 h3 => by rw [g.2 b w h1 h2 h3, h.2 b w h1 h2 h3]⟩
theorem Ag.sy {A B : Nat → Int} (h : Ag A B) : Ag B A := ⟨fun j h1 h2 => (h.1 j h1 h2).symm, fun b w h1 h2 h3 => (h.2 b w h1 h2 h3).symm⟩
theorem Ag.needE {N M : Nat → Int} (h : Ag N M) {b : Nat} (hb : b < 7) : need M b = need N b := by
  show 3 * bt M b 1 + bt M b 4 / 3 + mk5 M b = 3 * bt N b 1 + bt N b 4 / 3 + mk5 N b; unfold mk5; rw [h.2 b 0 hb (by omega) (by omega), h.2 b 1 hb (by omega) (by omega), h.2 b 4 hb (by omega) (by omega)]
theorem Ag.same {N M : Nat → Int} (h : Ag N M) : Same N M := ⟨(h.1 6 (by omega) (by omega)).symm, (h.1 12 (by omega) (by omega)).symm, fun b hb => ⟨(h.2 b 0 hb (by omega) (by omega)).symm, (h.2 b 1 hb (by omega) (by omega)).symm, (h.2 b 2 hb (by omega) (by omega)).symm⟩⟩
theorem ag_st {N : Nat → Int} {c : Nat} {v : Int} : Ag N (up N (14 + 7 * c + 5) v) := ⟨fun j h1 _ => up_n (by omega), fun b w _ h2 h3 => bt_up_n h2 (by omega) (by omega)⟩
/-- quiet: nothing drunk means nothing changes -/
theorem drS_q {m l : Int} {E : Nat → Int} (hE : Inv m E) (h0 : (drS l E (nb E)).2.2 = 0) : ∀ k : Nat, k ≤ nb E → (drS l E k).2.2 = 0 ∧ Ag E (drS l E k).1 ∧ (∀ i, i < k → bt (drS l E k).1 (ordF E i) 5 = 0) := by
  have hh := hE.h
  unfold InH at hh
  have mono : ∀ (d k : Nat), k + d = nb E → (drS l E k).2.2 ≤ (drS l E (nb E)).2.2 := by
    intro d
    induction d with
    | zero => intro k hk; rw [show k = nb E by omega]; omega
    | succ d ih =>
      intro k hk
      have h1 := ih (k + 1) (by omega)
      have ho := ord_lt (N := E) (by omega) (k := k) (by omega)
      have h2 : (drS l E k).2.2 ≤ (drS l E (k + 1)).2.2 := by
        show _ ≤ (dr1 l (drS l E k) (ordF E k)).2.2
        by_cases g : gets (drS l E k).1 (drS l E k).2.1 l (ordF E k) = true
        · rw [dr1_t g]
          have := own_in (drS_inv (l := l) hE k (by omega)) ho.1 (gets_iff.mp g).2.1
          show _ ≤ (drS l E k).2.2 + ownN (drS l E k).1 (ordF E k)
          omega
        · rw [dr1_f g]; exact Int.le_refl _
      omega
  intro k
  induction k with
  | zero => intro _; exact ⟨rfl, Ag.rf E, fun i hi => absurd hi (Nat.not_lt_zero i)⟩
  | succ k ih =>
    intro hk
    obtain ⟨i1, i2, i3⟩ := ih (by omega)
    have ho := ord_lt (N := E) (by omega) (k := k) (by omega)
    have hz : (drS l E (k + 1)).2.2 = 0 := by
      have h1 := mono (nb E - (k + 1)) (k + 1) (by omega)
      have h2 := drS_a (l := l) hE (k + 1) hk
      omega
    have es : drS l E (k + 1) = dr1 l (drS l E k) (ordF E k) := rfl
    refine ⟨hz, ?_⟩
    rw [es] at hz ⊢
    have st : ∀ i, i < k + 1 → ∀ S : Nat → Int, bt S (ordF E k) 5 = 0 → (∀ b, b ≠ ordF E k → bt S b 5 = bt (drS l E k).1 b 5) → bt S (ordF E i) 5 = 0 := by
      intro i hi S h1 h2
      by_cases e : ordF E i = ordF E k
      · rw [e]; exact h1
      · rw [h2 _ e]
        refine i3 i ?_
        rcases Nat.lt_or_eq_of_le (Nat.le_of_lt_succ hi) with z | z
        · exact z
        · rw [z] at e; exact absurd rfl e
    by_cases g : gets (drS l E k).1 (drS l E k).2.1 l (ordF E k) = true
    · rw [dr1_t g] at hz ⊢
      have o0 : ownN (drS l E k).1 (ordF E k) = 0 := by
        have : (drS l E k).2.2 + ownN (drS l E k).1 (ordF E k) = 0 := hz
        omega
      rw [o0]
      have a1 : Ag (drS l E k).1 (up (drS l E k).1 7 ((drS l E k).1 7 - 0)) := by rw [up_id (by omega)]; exact Ag.rf _
      have a2 : Ag (up (drS l E k).1 7 ((drS l E k).1 7 - 0)) (up (up (drS l E k).1 7 ((drS l E k).1 7 - 0)) (14 + 7 * ordF E k + 3) (bt (drS l E k).1 (ordF E k) 3 + 0)) := by
        rw [up_id (f := up (drS l E k).1 7 ((drS l E k).1 7 - 0)) (j := 14 + 7 * ordF E k + 3) (by rw [up_n (by omega)]; unfold bt; omega)]; exact Ag.rf _
      refine ⟨((i2.tr a1).tr a2).tr ag_st, fun i hi => st i hi _ (by rw [bt_up_s, if_neg (by omega)]) (fun b hb => by rw [bt_up_n (by omega) (by omega) (Or.inl hb), bt_up_n (by omega) (by omega) (Or.inl hb), bt_up_lo (by omega)])⟩
    · rw [dr1_f g]
      exact ⟨i2.tr ag_st, fun i hi => st i hi _ (by rw [bt_up_s]) (fun b hb => by rw [bt_up_n (by omega) (by omega) (Or.inl hb)])⟩
theorem qt_nE {m l : Int} {N : Nat → Int} (h : Inv m N) (q : qtN l N) : nR N = N ∧ nE 0 N = N := by
  have e1 : nR N = N := by unfold nR; exact up_id (by rw [q.2.2.1]; omega)
  refine ⟨e1, ?_⟩
  have h4 := q.2.2.2.1
  rw [e1] at h4
  unfold nE
  rw [e1]
  unfold drwN at h4
  split
  · rename_i c
    rw [if_pos c] at h4
    unfold nW
    split
    · rename_i c2; rw [if_pos c2] at h4; omega
    · rfl
  · rfl
theorem qt_go {m l : Int} {N : Nat → Int} (h : Inv m N) (q : qtN l N) : Ag N (goN 0 l N) := by
  obtain ⟨e1, e2⟩ := qt_nE h q
  have h5 := q.2.2.2.2
  unfold goA at h5
  rw [e2] at h5
  have hq := drS_q h h5 (nb N) (Nat.le_refl _)
  unfold goN
  rw [e2]
  have hh := h.h
  unfold InH at hh
  -- the swelling changes nothing but nought
  have a3 : Ag (drS l N (nb N)).1 (swS (drS l N (nb N)).1 (nb N)) := by
    refine ⟨fun j h1 _ => swS_hd _ h1 _, fun b w hb hw h5 => ?_⟩
    by_cases c : b < nb N
    · by_cases cw : w = 6
      · subst cw
        rw [(swS_d _ c).2]
        have z5 : bt (drS l N (nb N)).1 b 5 = 0 := by
          have := hq.2.2 (rankN N b) (rank_lt c)
          rw [ordF_rank c] at this; exact this
        have z6 : bt (drS l N (nb N)).1 b 6 ≤ 0 := by rw [hq.2.1.2 b 6 hb (by omega) (by omega)]; exact q.2.1 b c
        unfold sw6
        rw [if_neg (by rw [z5]; omega), if_pos z6]; omega
      · exact swS_n hw _ (Or.inr ⟨h5, cw⟩)
    · exact swS_n hw _ (Or.inl (by omega))
  have z9 : swS (drS l N (nb N)).1 (nb N) 9 = N 9 := by rw [swS_hd _ (by omega), drS_hd l _ (by omega) (by omega)]
  have a4 : Ag (swS (drS l N (nb N)).1 (nb N)) (finN (swS (drS l N (nb N)).1 (nb N))) := by
    unfold finN
    rw [z9, if_pos q.1]
    rw [up_id (f := swS (drS l N (nb N)).1 (nb N)) (j := 9) (by rw [z9]; omega)]
    exact ⟨fun j h1 h2 => up_n h2, fun b w _ _ _ => bt_up_lo (by omega)⟩
  exact (hq.2.1.tr a3).tr a4
theorem ag_dr {l : Int} {A B : DS} {b : Nat} (hb : b < 7) (h : Ag A.1 B.1) (h1 : B.2.1 = A.2.1) (h2 : B.2.2 = A.2.2) : Ag (dr1 l A b).1 (dr1 l B b).1 ∧ (dr1 l B b).2.1 = (dr1 l A b).2.1 ∧ (dr1 l B b).2.2 = (dr1 l A b).2.2 := by
  have hn := h.needE hb
  have h3 := h.2 b 3 hb (by omega) (by omega)
  have h6 := h.2 b 6 hb (by omega) (by omega)
  have h0 := h.2 b 0 hb (by omega) (by omega)
  have h10 := h.1 10 (by omega) (by omega)
  have h7 := h.1 7 (by omega) (by omega)
  have hg : gets B.1 B.2.1 l b = gets A.1 A.2.1 l b := by unfold gets; rw [hn, h3, h6, h10, h1]
  have ho : ownN B.1 b = ownN A.1 b := by unfold ownN drk; rw [hn, h3, h7, h0]
  by_cases g : gets A.1 A.2.1 l b = true
  · rw [dr1_t g, dr1_t (by rw [hg]; exact g), ho, h1, h2, h7, h3]
    refine ⟨⟨fun j q1 q2 => ?_, fun c w q1 q2 q3 => ?_⟩, rfl, rfl⟩
    · show up _ _ _ j = up _ _ _ j
      have e : ∀ (F : Nat → Int) (x y z : Int), up (up (up F 7 x) (14 + 7 * b + 3) y) (14 + 7 * b + 5) z j = up F 7 x j := fun F x y z => by rw [up_n (by omega), up_n (by omega)]
      rw [e, e]
      by_cases z : j = 7
      · rw [z, up_s, up_s]
      · rw [up_n z, up_n z]; exact h.1 j q1 q2
    · show bt (up _ _ _) c w = bt (up _ _ _) c w
      rw [bt_up_n q2 (by omega) (Or.inr q3), bt_up_n q2 (by omega) (Or.inr q3)]
      by_cases z : c = b ∧ w = 3
      · rw [z.1, z.2, bt_up_s, bt_up_s]
      · rw [bt_up_n q2 (by omega) (by omega), bt_up_n q2 (by omega) (by omega), bt_up_lo (by omega), bt_up_lo (by omega)]; exact h.2 c w q1 q2 q3
  · rw [dr1_f g, dr1_f (by rw [hg]; exact g)]
    exact ⟨(ag_st.sy.tr h).tr ag_st, h1, h2⟩
theorem qt_next {m l : Int} {N : Nat → Int} (h : Inv m N) (hm : m + 1 ≤ 20000) (q : qtN l N) : qtN l (goN 0 l N) := by
  have a := qt_go h q
  obtain ⟨e1, e2⟩ := qt_nE h q
  have hh := h.h
  unfold InH at hh
  have n12 : nb (goN 0 l N) = nb N := by unfold nb; rw [a.1 12 (by omega) (by omega)]
  have r0 : (60 - goN 0 l N 0) / goN 0 l N 2 = 0 := by rw [a.1 0 (by omega) (by omega), a.1 2 (by omega) (by omega)]; exact q.2.2.1
  have eR : nR (goN 0 l N) = goN 0 l N := by unfold nR; exact up_id (by rw [r0]; omega)
  have dEq : dA (goN 0 l N) = dA N := by unfold dA; rw [a.1 7 (by omega) (by omega), a.1 0 (by omega) (by omega), a.1 1 (by omega) (by omega), a.1 3 (by omega) (by omega), a.1 10 (by omega) (by omega)]
  have dr0 : drwN (nR (goN 0 l N)) = 0 := by
    rw [eR]
    have := q.2.2.2.1
    rw [e1] at this
    unfold drwN at this ⊢
    rw [dEq, a.1 9 (by omega) (by omega), a.1 5 (by omega) (by omega), a.1 0 (by omega) (by omega)]
    exact this
  refine ⟨by rw [a.1 9 (by omega) (by omega)]; exact q.1, fun b hb => ?_, r0, dr0, ?_⟩
  · rw [n12] at hb
    have hb7 : b < 7 := by unfold nb at hb; omega
    rw [a.2 b 6 hb7 (by omega) (by omega)]; exact q.2.1 b hb
  · have eE : nE 0 (goN 0 l N) = goN 0 l N := by
      rw [eR] at dr0
      unfold nE
      rw [eR]
      unfold drwN at dr0
      split
      · rename_i c
        rw [if_pos c] at dr0
        unfold nW
        split
        · rename_i c2; rw [if_pos c2] at dr0; omega
        · rfl
      · rfl
    unfold goA
    rw [eE, n12]
    have key : ∀ k : Nat, k ≤ nb N → Ag (drS l N k).1 (drS l (goN 0 l N) k).1 ∧ (drS l (goN 0 l N) k).2.1 = (drS l N k).2.1 ∧ (drS l (goN 0 l N) k).2.2 = (drS l N k).2.2 := by
      intro k
      induction k with
      | zero => intro _; exact ⟨a, a.1 4 (by omega) (by omega), rfl⟩
      | succ k ih =>
        intro hk
        obtain ⟨k1, k2, k3⟩ := ih (by omega)
        have ho := ord_lt (N := N) (by omega) (k := k) (by omega)
        have eo : ordF (goN 0 l N) k = ordF N k := (a.same.ordE (by omega) (by omega)).symm
        show Ag (dr1 l (drS l N k) (ordF N k)).1 (dr1 l (drS l (goN 0 l N) k) (ordF (goN 0 l N) k)).1 ∧ _
        show Ag (dr1 l (drS l N k) (ordF N k)).1 (dr1 l (drS l (goN 0 l N) k) (ordF (goN 0 l N) k)).1 ∧ (dr1 l (drS l (goN 0 l N) k) (ordF (goN 0 l N) k)).2.1 = (dr1 l (drS l N k) (ordF N k)).2.1 ∧ (dr1 l (drS l (goN 0 l N) k) (ordF (goN 0 l N) k)).2.2 = (dr1 l (drS l N k) (ordF N k)).2.2
        rw [eo]
        exact ag_dr ho.1 k1 k2 k3
    rw [(key (nb N) (Nat.le_refl _)).2.2]
    have := q.2.2.2.2
    unfold goA at this
    rw [e2] at this
    exact this
theorem qt_it {m l : Int} {N : Nat → Int} (h : Inv m N) (q : qtN l N) : ∀ n : Nat, m + n ≤ 20000 → Ag N (itN l N n) ∧ qtN l (itN l N n)
  | 0, _ => ⟨Ag.rf N, q⟩
  | n + 1, hm => by
    have ih := qt_it h q n (by omega)
    have hi := itN_inv (l := l) h n (by omega)
    exact ⟨ih.1.tr (qt_go hi ih.2), qt_next hi (by omega) ih.2⟩
theorem itN_add (l : Int) (N : Nat → Int) (k : Nat) : ∀ n : Nat, itN l N (k + n) = itN l (itN l N k) n
  | 0 => rfl
  | n + 1 => by show goN 0 l (itN l N (k + n)) = goN 0 l (itN l (itN l N k) n); rw [itN_add l N k n]
/-- once quiet, always alike -/
theorem qt_all {m l : Int} {N : Nat → Int} (h : Inv m N) {k : Nat} (hk : m + k ≤ 20000) (q : qtN l (itN l N k)) {n : Nat} (hn : k ≤ n) (hm : m + n ≤ 20000) : Ag (itN l N k) (itN l N n) := by
  have := (qt_it (itN_inv (l := l) h k hk) q (n - k) (by omega)).1
  rw [← itN_add, show k + (n - k) = n by omega] at this
  exact this
/-- the first place at which p holds, or -4 -/
def fst4 (p : Nat → Bool) : Nat → Int
  | 0 => -4
  | k + 1 => if fst4 p k = -4 then (if p k then (k : Int) else -4) else fst4 p k
theorem fst4_in (p : Nat → Bool) : ∀ k : Nat, fst4 p k = -4 ∨ (0 ≤ fst4 p k ∧ fst4 p k < k)
  | 0 => Or.inl rfl
  | k + 1 => by
    have := fst4_in p k
    unfold fst4
    split
    · split
      · exact Or.inr ⟨by omega, by omega⟩
      · exact Or.inl rfl
    · rcases this with z | z
      · contradiction
      · exact Or.inr ⟨z.1, by omega⟩
theorem fst4_none {p : Nat → Bool} : ∀ {k : Nat}, (∀ i, i < k → p i = false) → fst4 p k = -4
  | 0, _ => rfl
  | k + 1, h => by unfold fst4; rw [fst4_none (fun i hi => h i (by omega)), h k (by omega)]; rfl
theorem fst4_at {p : Nat → Bool} {j : Nat} (h1 : ∀ i, i < j → p i = false) (h2 : p j = true) : ∀ {k : Nat}, j < k → fst4 p k = j
  | 0, h => absurd h (Nat.not_lt_zero j)
  | k + 1, h => by
    unfold fst4
    rcases Nat.lt_or_eq_of_le (Nat.le_of_lt_succ h) with z | z
    · rw [fst4_at h1 h2 z, if_neg (by omega)]
    · subst z
      rw [fst4_none h1, if_pos rfl, h2]; rfl
theorem fst4_cong {p q : Nat → Bool} : ∀ {k : Nat}, (∀ i, i < k → p i = q i) → fst4 p k = fst4 q k
  | 0, _ => rfl
  | k + 1, h => by unfold fst4; rw [fst4_cong (fun i hi => h i (by omega)), h k (by omega)]
def satB (N : Nat → Int) (b : Nat) : Bool := decide (need N b ≤ bt N b 3)
def allB (N : Nat → Int) : Bool := (List.range (nb N)).all (fun b => decide ((b : Int) = N 10) || satB N b)
theorem allB_iff {N : Nat → Int} : allB N = true ↔ allN N := by
  unfold allB allN satB
  rw [List.all_eq_true]
  constructor
  · intro h b hb hn
    have := h b (List.mem_range.mpr hb)
    simp at this
    rcases this with z | z
    · exact absurd z hn
    · exact z
  · intro h b hb
    have hb := List.mem_range.mp hb
    by_cases z : (b : Int) = N 10
    · simp [z]
    · simp [h b hb z]
theorem Ag.sat {N M : Nat → Int} (h : Ag N M) {b : Nat} (hb : b < 7) : satB M b = satB N b := by unfold satB; rw [h.needE hb, h.2 b 3 hb (by omega) (by omega)]
theorem Ag.all {N M : Nat → Int} (h : Ag N M) (h7 : N 12 ≤ 7) : allB M = allB N := by
  rw [Bool.eq_iff_iff, allB_iff, allB_iff]
  unfold allN
  have n12 : nb M = nb N := by unfold nb; rw [h.1 12 (by omega) (by omega)]
  rw [n12, h.1 10 (by omega) (by omega)]
  constructor
  · intro g b hb hn
    have hb7 := (nb_lt h7 hb).1
    have := g b hb hn
    rw [h.needE hb7, h.2 b 3 hb7 (by omega) (by omega)] at this; exact this
  · intro g b hb hn
    have hb7 := (nb_lt h7 hb).1
    rw [h.needE hb7, h.2 b 3 hb7 (by omega) (by omega)]; exact g b hb hn
