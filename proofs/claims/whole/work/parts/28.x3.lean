/-! the class: a minute (step), who is sated, what was drunk, the rope, copies -/
/-- a minute in which nothing changes but the time -/
def qtN (l : Int) (N : Nat → Int) : Prop := N 9 ≤ 0 ∧ (∀ b, b < nb N → bt N b 6 ≤ 0) ∧ (60 - N 0) / N 2 = 0 ∧ drwN (nR N) = 0 ∧ goA 0 l N = 0
section X3
variable {G : GG} {t : Mem} {a c : Nat} {N : Nat → Int} {m s : Int}
theorem x_anySwollen (ha : IsMom a) (hc : IsCamp c) (hM : MomG t a N s) (hC : CampR t c N) (hI : Inv m N) : Ex G mX1_anySwollen [RR a, RR c] t (fun r u => (r = 0 ∨ r = 1) ∧ (r = 0 → ∀ b, b < nb N → bt N b 6 ≤ 0) ∧ u = t) := by
  have hh := hI.h
  unfold InH at hh
  have lp : ∀ (dd k : Nat), k + dd = nb N → (∀ b, b < k → bt N b 6 ≤ 0) → V G mX1_anySwollen 2 [(0, RR a), (1, RR c), (2, II (k : Int))] [] t (fun r u => (r = 0 ∨ r = 1) ∧ (r = 0 → ∀ b, b < nb N → bt N b 6 ≤ 0) ∧ u = t) := by
    intro dd
    induction dd with
    | zero =>
      intro k hk hb
      refine sgX1_anySwollen_2 ha hc ⟨i32 (by omega) (by unfold nb at hk; omega), by rw [hC.1.2.2.2.2.2.2.2]; exact i32 (by omega) (by omega), br_t (by rw [hC.1.2.2.2.2.2.2.2]; unfold nb at hk; omega) ⟨Or.inl rfl, fun _ b hb2 => hb b (by omega), rfl⟩⟩
    | succ dd ih =>
      intro k hk hb
      have hk7 : k < 7 := by unfold nb at hk; omega
      have hB := hI.b hk7
      unfold InB at hB
      refine sgX1_anySwollen_2 ha hc ⟨i32 (by omega) (by omega), by rw [hC.1.2.2.2.2.2.2.2]; exact i32 (by omega) (by omega), br_f (by rw [hC.1.2.2.2.2.2.2.2]; unfold nb at hk; omega) ⟨by omega, ?_⟩⟩
      rw [Int.toNat_natCast, (hM.2 k hk7).2.2.1]
      refine ⟨i32 (by omega) (by omega), ?_⟩
      by_cases q : bt N k 6 ≤ 0
      · exact br_t q (ih (k + 1) (by omega) (fun b h => by rcases Nat.lt_or_eq_of_le (Nat.le_of_lt_succ h) with z | z; exact hb b z; rw [z]; exact q))
      · exact br_f q ⟨Or.inr rfl, fun z => absurd z (by decide), rfl⟩
  exact eX1_anySwollen (sgX1_anySwollen_0 ha hc (lp (nb N) 0 (by omega) (fun b hb => absurd hb (Nat.not_lt_zero b))))
theorem nE_9 (N : Nat → Int) : nE 0 N 9 = N 9 := by
  have e1 : nR N 9 = N 9 := by simp [nR, up]
  have e2 : nD (nR N) 9 = nR N 9 := by unfold nD; split; simp [nD0, up]; rw [up_n (by unfold pN; omega)]; simp [nD0, up]
  unfold nE; split
  · unfold nW; split
    · rw [if_pos rfl, e2, e1]
    · exact e1
  · exact e1
theorem x_step_core (ha : IsMom a) (hc : IsCamp c) (hM : MomR t a N) (hC : CampR t c N) (hO : OrdC t c N) (hI : Inv m N) (hm : m + 1 ≤ 20000) {l : Int} {K : Int → Int → Mem → Prop} (kk : ∀ u : Mem, MomR u a (goN 0 l N) → (∀ x, x < a ∨ a + 4 < x → u x = t x) → K (drwN (nR N)) (goA 0 l N) u) :
    ∀ u4 : Mem, u4 = wr t a 0 (N 0 + (60 - N 0) / N 2) → ∃ P6 : Int → Mem → Prop, Ex G mX1_drawBucket [RR a, RR c] u4 P6 ∧ ∀ (r8 : Int) (u9 : Mem), P6 r8 u9 → ∃ P11 : Int → Mem → Prop, Ex G mX1_waterBeasts [RR a, RR c, II l] u9 P11 ∧ ∀ (r13 : Int) (u14 : Mem), P11 r13 u14 → ∀ u16 : Mem, u16 = wr u14 a 4 (u14 a 4 + 1) → K r8 r13 u16 := by
  intro u4 e4
  have hh := hI.h
  unfold InH at hh
  have hac := mom_camp ha hc
  have iR := nR_inv hI
  have iE := nE_inv 0 hI hm
  have o4 : ∀ x, x ≠ a → u4 x = t x := fun x hx => by rw [e4, wr_n hx]
  have r9 : nR N 9 = N 9 := by simp [nR, up]
  have M4 : MomG u4 a (nR N) (nR N 9) := by
    have h := hM.1
    refine ⟨?_, fun b hb => ?_⟩
    · rw [e4, wr_s]
      unfold nR
      refine ⟨by rw [up_s, up_s], by rw [up_n (by omega), up_n (by omega)]; exact h.2.1, by rw [up_n (by omega), up_n (by omega)]; exact h.2.2.1, by rw [up_n (by omega), up_n (by omega)]; exact h.2.2.2.1, by rw [up_n (by omega), up_n (by omega)]; exact h.2.2.2.2.1, by rw [up_n (by omega), up_n (by omega)]; exact h.2.2.2.2.2⟩
    · rw [o4 (a + 1) (by omega), o4 (a + 2) (by omega), o4 (a + 3) (by omega), o4 (a + 4) (by omega)]
      unfold nR
      rw [bt_up_lo (by omega), bt_up_lo (by omega), bt_up_lo (by omega), bt_up_lo (by omega)]
      exact hM.2 b hb
  have C4 : CampR u4 c (nR N) := (hC.kept (fun x _ _ => o4 x (by omega))).kp (nR_kp N)
  refine cq (x_drawBucket ha hc M4 C4 iR) (fun r8 u9 h9 => ?_)
  obtain ⟨rfl, M9, F9⟩ := h9
  rw [← nE_dw] at M9
  have C9 : CampR u9 c (nE 0 N) := (hC.kept (fun x _ _ => by rw [F9 x (by omega), o4 x (by omega)])).kp (nE_kp 0 N)
  have O9 : OrdC u9 c (nE 0 N) := fun k hk => by
    rw [F9 (c + 5) (by omega), o4 (c + 5) (by omega)]
    rw [nE_nb] at hk
    rw [hO k hk, (nE_kp 0 N).same.ordE (by omega) hk]
  refine cq (x_waterBeasts ha hc iE M9 C9 O9) (fun r13 u14 h14 u16 e16 => ?_)
  obtain ⟨rfl, M14, F14⟩ := h14
  have eN : nb (nE 0 N) = nb N := nE_nb 0 N
  rw [eN] at M14 ⊢
  refine kk u16 ?_ (fun x hx => by rw [e16, wr_n (by omega), F14 x hx, F9 x hx, o4 x (by omega)])
  have z9 : (swS (drS l (nE 0 N) (nb N)).1 (nb N)) 9 = N 9 := by rw [swS_hd _ (by omega), drS_hd l _ (by omega) (by omega), nE_9]
  have h := M14.1
  unfold MomR MomG goN finN
  refine ⟨?_, fun b hb => ?_⟩
  · rw [e16, wr_s]
    refine ⟨?_, ?_, ?_, ?_, ?_, ?_⟩
    · rw [up_n (by omega), up_n (by omega), up_n (by omega)]; exact h.1
    · rw [up_n (by omega), up_n (by omega), up_n (by omega)]; exact h.2.1
    · rw [up_n (by omega), up_n (by omega), up_n (by omega)]; exact h.2.2.1
    · rw [up_n (by omega), up_n (by omega), up_s, z9, h.2.2.2.1, r9]; rfl
    · rw [up_s, up_s, h.2.2.2.2.1]
    · rw [up_n (by omega), up_n (by omega), up_n (by omega)]; exact h.2.2.2.2.2
  · rw [e16, wr_n (by omega), wr_n (by omega), wr_n (by omega), wr_n (by omega)]
    rw [bt_up_lo (by omega), bt_up_lo (by omega), bt_up_lo (by omega), bt_up_lo (by omega), bt_up_lo (by omega), bt_up_lo (by omega), bt_up_lo (by omega), bt_up_lo (by omega)]
    exact M14.2 b hb
theorem drw_in (hI : Inv m N) : 0 ≤ drwN N ∧ drwN N ≤ 9 := by
  have := dA_in hI
  unfold drwN; split
  · split <;> omega
  · omega
theorem drS_a {l : Int} {E : Nat → Int} (hE : Inv m E) : ∀ k : Nat, k ≤ nb E → 0 ≤ (drS l E k).2.2 ∧ (drS l E k).2.2 ≤ 8 * k
  | 0, _ => by show 0 ≤ (0 : Int) ∧ (0 : Int) ≤ 8 * (0 : Nat); omega
  | k + 1, hk => by
    have hh := hE.h
    unfold InH at hh
    have h := drS_a (l := l) hE k (by omega)
    have ho := ord_lt (N := E) (by omega) (k := k) (by omega)
    show 0 ≤ (dr1 l (drS l E k) (ordF E k)).2.2 ∧ (dr1 l (drS l E k) (ordF E k)).2.2 ≤ 8 * ((k + 1 : Nat) : Int)
    by_cases g : gets (drS l E k).1 (drS l E k).2.1 l (ordF E k) = true
    · rw [dr1_t g]
      have := own_in (drS_inv (l := l) hE k (by omega)) ho.1 (gets_iff.mp g).2.1
      show 0 ≤ (drS l E k).2.2 + ownN (drS l E k).1 (ordF E k) ∧ (drS l E k).2.2 + ownN (drS l E k).1 (ordF E k) ≤ 8 * ((k + 1 : Nat) : Int)
      omega
    · rw [dr1_f g]
      show 0 ≤ (drS l E k).2.2 ∧ (drS l E k).2.2 ≤ 8 * ((k + 1 : Nat) : Int)
      omega
theorem goA_in {d l : Int} (hI : Inv m N) (hm : m + 1 ≤ 20000) : 0 ≤ goA d l N ∧ goA d l N ≤ 56 := by
  have hh := hI.h
  unfold InH at hh
  have := drS_a (l := l) (nE_inv d hI hm) (nb N) (by rw [nE_nb]; exact Nat.le_refl _)
  unfold goA nb at *
  omega
theorem x_step (ha : IsMom a) (hc : IsCamp c) (hM : MomR t a N) (hC : CampR t c N) (hO : OrdC t c N) (hI : Inv m N) (hm : m + 1 ≤ 20000) {l : Int} : Ex G mX1_step [RR a, RR c, II l] t (fun r u => (r = 0 ∨ r = 1) ∧ (r = 0 → qtN l N) ∧ MomR u a (goN 0 l N) ∧ ∀ x, x < a ∨ a + 4 < x → u x = t x) := by
  have hh := hI.h
  unfold InH at hh
  have hq : 0 ≤ (60 - N 0) / N 2 ∧ (60 - N 0) / N 2 ≤ 60 - N 0 := ⟨Int.ediv_nonneg (by omega) (by omega), Int.ediv_le_self _ (by omega)⟩
  have hd := drw_in (nR_inv hI)
  have hg := goA_in (d := 0) (l := l) hI hm
  refine eX1_step (sgX1_step_0 ha hc ?_)
  rw [hM.1.2.2.2.1, hM.1.1, hC.1.2.1]
  refine ⟨i32 (by omega) (by omega), ?_⟩
  by_cases c9 : 0 < N 9
  · refine br_t c9 ⟨⟨by omega, i32 (by omega) (by omega)⟩, ⟨by omega, i32 (by omega) (by omega)⟩, ?_⟩
    refine x_step_core (K := fun r8 r13 u16 => (¬ (1 : Int) = 0 → _) ∧ ((1 : Int) = 0 → _)) ha hc hM hC hO hI hm (fun u h1 h2 => ?_)
    exact nb_t (by decide) ⟨Or.inr rfl, fun z => absurd z (by decide), h1, h2⟩
  · refine br_f c9 ?_
    refine cq (x_anySwollen ha hc hM hC hI) (fun r28 u29 h29 => ?_)
    obtain ⟨h01, hz, rfl⟩ := h29
    rw [hM.1.1, hC.1.2.1]
    refine ⟨i32 (by omega) (by omega), ⟨by omega, i32 (by omega) (by omega)⟩, ⟨by omega, i32 (by omega) (by omega)⟩, ?_⟩
    refine x_step_core (K := fun r43 r48 u51 => (¬ (if r28 = 0 then 0 else 1 : Int) = 0 → _) ∧ ((if r28 = 0 then 0 else 1 : Int) = 0 → In32 ((60 - N 0) / N 2) ∧ (¬ (60 - N 0) / N 2 = 0 → _) ∧ ((60 - N 0) / N 2 = 0 → In32 r43 ∧ (¬ r43 = 0 → _) ∧ (r43 = 0 → In32 r48 ∧ _)))) ha hc hM hC hO hI hm (fun u h1 h2 => ?_)
    have yes : ∀ r : Int, r = 1 → (r = 0 ∨ r = 1) ∧ (r = 0 → qtN l N) ∧ MomR u a (goN 0 l N) ∧ ∀ x, x < a ∨ a + 4 < x → u x = u29 x := fun r e => ⟨Or.inr e, fun z => absurd z (by omega), h1, h2⟩
    rcases h01 with z0 | z1
    · rw [if_pos z0]
      refine nb_f rfl ⟨i32 (by omega) (by omega), ?_⟩
      by_cases q1 : (60 - N 0) / N 2 = 0
      · refine nb_f q1 ⟨i32 (by omega) (by omega), ?_⟩
        by_cases q2 : drwN (nR N) = 0
        · refine nb_f q2 ⟨i32 (by omega) (by omega), ?_⟩
          by_cases q3 : goA 0 l N = 0
          · rw [if_pos q3]; exact ⟨Or.inl rfl, fun _ => ⟨by omega, hz z0, q1, q2, q3⟩, h1, h2⟩
          · rw [if_neg q3]; exact yes 1 rfl
        · exact nb_t q2 (yes 1 rfl)
      · exact nb_t q1 (yes 1 rfl)
    · rw [if_neg (by omega)]
      exact nb_t (by decide) (yes 1 rfl)
end X3
