/-! the class: a bucket drawn, who drinks, a minute -/
def drwN (R : Nat → Int) : Int := if R 9 = 0 ∧ R 5 ≤ R 0 then (if 0 < dA R then dA R else 0) else 0
def dwN (R : Nat → Int) : Nat → Int := if R 9 = 0 ∧ R 5 ≤ R 0 then nW 0 R else R
theorem nE_dw (N : Nat → Int) : nE 0 N = dwN (nR N) := rfl
def dec1 (s : Int) : Int := s - (if s ≤ 0 then 0 else 1)
theorem nD0_bt {N : Nat → Int} {b w : Nat} : bt (nD0 N) b w = bt N b w := by unfold nD0; rw [bt_up_lo (by omega), bt_up_lo (by omega), bt_up_lo (by omega)]
section X2
variable {G : GG} {t : Mem} {a c : Nat} {R : Nat → Int} {m : Int}
theorem x_draw_end (ha : IsMom a) (hc : IsCamp c) (hM : MomG t a R (R 9)) (hC : CampR t c R) (hI : Inv m R) (hg : R 9 = 0 ∧ R 5 ≤ R 0) {T D : Int} (hT : T = R 3 / (if R 10 = -4 then 2 else 1)) (hD : D = min T (min (max 0 (R 0 - R 1)) (24 - R 7))) :
    (D = 0 → (D = drwN R ∧ MomG t a (dwN R) (dec1 (R 9)) ∧ ∀ x, x < a ∨ a + 4 < x → t x = t x)) ∧ (¬ D = 0 → ∀ u8 : Mem, u8 = wr t a 0 (R 0 - D) → ∀ u10 : Mem, u10 = wr u8 a 1 (u8 a 1 + D) → ∀ u12 : Mem, u12 = wr u10 a 2 (u10 a 2 + 1) → ∃ P14 : Int → Mem → Prop, Ex G mX0_lacks [RR c, II (u12 c 6)] u12 P14 ∧ ∀ (r16 : Int) (u17 : Mem), P14 r16 u17 → In32 r16 ∧ (¬ r16 = 0 → (D = drwN R ∧ MomG u17 a (dwN R) (dec1 (R 9)) ∧ ∀ x, x < a ∨ a + 4 < x → u17 x = t x)) ∧ (r16 = 0 → (0 ≤ u17 c 6 ∧ u17 c 6 < 7) ∧ ∀ u21 : Mem, u21 = wr u17 (a + 2) (u17 c 6).toNat (u17 (a + 2) (u17 c 6).toNat + 1) → (D = drwN R ∧ MomG u21 a (dwN R) (dec1 (R 9)) ∧ ∀ x, x < a ∨ a + 4 < x → u21 x = t x))) := by
  have hh := hI.h
  unfold InH at hh
  have hac := mom_camp ha hc
  have hTT : 0 ≤ T := by
    rw [hT]; by_cases q : R 10 = -4
    · rw [if_pos q]; omega
    · rw [if_neg q]; omega
  have hdA : dA R = min (24 - R 7) (min (R 0 - R 1) T) := by rw [hT]; rfl
  have e9 : dec1 (R 9) = R 9 := by unfold dec1; rw [hg.1]; decide
  by_cases h0 : 0 < dA R
  · have eD : D = dA R := by rw [hD, hdA]; rw [hdA] at h0; omega
    have edr : drwN R = dA R := by unfold drwN; rw [if_pos hg, if_pos h0]
    have edw : dwN R = nD R := by unfold dwN nW; rw [if_pos hg, if_pos h0, if_pos rfl]
    refine br_f (by omega) (fun u8 e8 u10 e10 u12 e12 => ?_)
    have s8 : u8 a = up (t a) 0 (R 0 - D) := by rw [e8, wr_s]
    have s10 : u10 a = up (up (t a) 0 (R 0 - D)) 1 (t a 1 + D) := by rw [e10, wr_s, s8, up_n (by omega)]
    have s12 : u12 a = up (up (up (t a) 0 (R 0 - D)) 1 (t a 1 + D)) 2 (t a 2 + 1) := by rw [e12, wr_s, s10, up_n (by omega), up_n (by omega)]
    have o12 : ∀ x, x ≠ a → u12 x = t x := fun x hx => by rw [e12, wr_n hx, e10, wr_n hx, e8, wr_n hx]
    have c12 : u12 c = t c := o12 c (by omega)
    have p6 : u12 c 6 = R 10 := by rw [c12, hC.1.2.2.2.2.2.2.1]
    have c7 : u12 c 7 = R 12 := by rw [c12, hC.1.2.2.2.2.2.2.2]
    have m12 : MomG u12 a (nD0 R) (R 9) := by
      refine ⟨?_, fun b hb => ?_⟩
      · rw [s12]
        have := hM.1
        unfold nD0
        simp only [up]
        simp
        rw [eD]
        omega
      · rw [o12 (a + 1) (by omega), o12 (a + 2) (by omega), o12 (a + 3) (by omega), o12 (a + 4) (by omega), nD0_bt, nD0_bt, nD0_bt, nD0_bt]
        exact hM.2 b hb
    rw [p6]
    refine ck (x_lacks hc (i32 (by omega) (by omega)) (by rw [c7]; omega)) ⟨by split <;> exact iL rfl, ?_⟩
    rw [c7, p6]
    by_cases q : R 10 = -4
    · rw [if_neg (by omega)]
      refine nb_t (by decide) ⟨by rw [edr]; exact eD, ?_, fun x hx => o12 x (by omega)⟩
      rw [edw, e9]; unfold nD; rw [if_pos q]; exact m12
    · rw [if_pos (by omega)]
      refine nb_f rfl ⟨by omega, fun u21 e21 => ⟨by rw [edr]; exact eD, ?_, fun x hx => by rw [e21, wr_n (by omega), o12 x (by omega)]⟩⟩
      rw [edw, e9]; unfold nD; rw [if_neg q]
      have hp : (R 10).toNat < 7 := by omega
      have e2 : u12 (a + 2) (R 10).toNat = bt R (R 10).toNat 4 := by rw [o12 (a + 2) (by omega)]; exact (hM.2 _ hp).2.1
      rw [e2] at e21
      have e4 : R (pN R) = bt R (R 10).toNat 4 := rfl
      rw [e4]
      refine ⟨?_, fun b hb => ?_⟩
      · rw [e21, wr_n (by omega)]
        have := m12.1
        rw [hd_up (by omega) (by unfold pN; omega), hd_up (by omega) (by unfold pN; omega), hd_up (by omega) (by unfold pN; omega), hd_up (by omega) (by unfold pN; omega), hd_up (by omega) (by unfold pN; omega)]
        exact this
      · have := m12.2 b hb
        show _ = bt (up (nD0 R) (14 + 7 * (R 10).toNat + 4) _) b 3 ∧ _ = bt (up (nD0 R) (14 + 7 * (R 10).toNat + 4) _) b 4 ∧ _ = bt (up (nD0 R) (14 + 7 * (R 10).toNat + 4) _) b 6 ∧ _ = bt (up (nD0 R) (14 + 7 * (R 10).toNat + 4) _) b 5
        rw [show u21 (a + 1) = u12 (a + 1) from by rw [e21, wr_n (by omega)], show u21 (a + 3) = u12 (a + 3) from by rw [e21, wr_n (by omega)], show u21 (a + 4) = u12 (a + 4) from by rw [e21, wr_n (by omega)], show u21 (a + 2) = up (u12 (a + 2)) (R 10).toNat (bt R (R 10).toNat 4 + 1) from by rw [e21, wr_s], bt_up_n (w := 3) (by omega) (by omega) (by omega), bt_up_n (w := 6) (by omega) (by omega) (by omega), bt_up_n (w := 5) (by omega) (by omega) (by omega)]
        refine ⟨this.1, ?_, this.2.2.1, this.2.2.2⟩
        by_cases e : b = (R 10).toNat
        · rw [e, up_s, bt_up_s]
        · rw [up_n e, bt_up_n (by omega) (by omega) (Or.inl e)]; exact this.2.1
  · have eD : D = 0 := by rw [hD]; rw [hdA] at h0; omega
    refine br_t eD ⟨?_, ?_, fun _ _ => rfl⟩
    · unfold drwN; rw [if_pos hg, if_neg h0]; exact eD
    · rw [e9]; unfold dwN nW; rw [if_pos hg, if_neg h0]; exact hM
theorem x_drawBucket (ha : IsMom a) (hc : IsCamp c) (hM : MomG t a R (R 9)) (hC : CampR t c R) (hI : Inv m R) : Ex G mX1_drawBucket [RR a, RR c] t (fun r u => r = drwN R ∧ MomG u a (dwN R) (dec1 (R 9)) ∧ ∀ x, x < a ∨ a + 4 < x → u x = t x) := by
  have hh := hI.h
  unfold InH at hh
  refine eX1_drawBucket (sgX1_drawBucket_0 ha hc ?_)
  rw [hM.1.1, hM.1.2.1, hM.1.2.2.2.1, hC.1.1, hC.1.2.2.1, hC.1.2.2.2.2.1, hC.1.2.2.2.2.2.2.1]
  refine ⟨i32 (by omega) (by omega), ?_⟩
  by_cases c9 : R 9 ≤ 0
  · refine br_t c9 ⟨i32 (by omega) (by omega), i32 (by omega) (by omega), ?_⟩
    by_cases c5 : R 5 ≤ R 0
    · have hg : R 9 = 0 ∧ R 5 ≤ R 0 := ⟨by omega, c5⟩
      refine br_t c5 ⟨i32 (by omega) (by omega), ?_⟩
      by_cases q : R 10 = -4
      · refine nb_f q ⟨⟨by omega, i32 (by omega) (by omega)⟩, i32 (by omega) (by omega), i32 (by omega) (by omega), i32 (by omega) (by omega), ?_⟩
        exact x_draw_end ha hc hM hC hI hg (by rw [if_pos q]) rfl
      · refine nb_t q ⟨i32 (by omega) (by omega), i32 (by omega) (by omega), i32 (by omega) (by omega), ?_⟩
        exact x_draw_end ha hc hM hC hI hg (by rw [if_neg q, Int.ediv_one]) rfl
    · refine br_f c5 ⟨?_, ?_, fun _ _ => rfl⟩
      · unfold drwN; rw [if_neg (fun q => c5 q.2)]
      · unfold dwN; rw [if_neg (fun q => c5 q.2)]
        rw [show dec1 (R 9) = R 9 from by unfold dec1; rw [if_pos c9]; omega]; exact hM
  · refine br_f c9 (fun u42 e42 => ⟨?_, ?_, fun x hx => by rw [e42, wr_n (by omega)]⟩)
    · unfold drwN; rw [if_neg (by omega)]
    · unfold dwN; rw [if_neg (by omega)]
      refine ⟨?_, fun b hb => ?_⟩
      · rw [e42, wr_s]
        have := hM.1
        unfold dec1; rw [if_neg c9]
        simp only [up]
        simp
        omega
      · rw [e42, wr_n (by omega), wr_n (by omega), wr_n (by omega), wr_n (by omega)]; exact hM.2 b hb
/-- those that have had their turn -/
def Pd (N : Nat → Int) (k b : Nat) : Prop := ∃ i, i < k ∧ ordF N i = b
/-- in the midst of the drinking: those that had their turn are swollen or not already -/
def MomK (t : Mem) (a : Nat) (S : Nat → Int) (s : Int) (P : Nat → Prop) : Prop := (t a 0 = S 0 ∧ t a 1 = S 7 ∧ t a 2 = S 8 ∧ t a 3 = s ∧ t a 4 = S 11 ∧ t a 5 = S 13) ∧ ∀ b, b < 7 → t (a + 1) b = bt S b 3 ∧ t (a + 2) b = bt S b 4 ∧ (P b → t (a + 3) b = sw6 S b ∧ t (a + 4) b = sw5 S b) ∧ (¬ P b → t (a + 3) b = bt S b 6 ∧ t (a + 4) b = bt S b 5)
theorem dr1_bt {l : Int} {S : DS} {b b2 w : Nat} (hw : w < 7) (h : b2 ≠ b ∨ (w ≠ 3 ∧ w ≠ 5)) : bt (dr1 l S b).1 b2 w = bt S.1 b2 w := by
  unfold dr1; split
  · show bt (up _ _ _) b2 w = _
    rw [bt_up_n hw (by omega) (by omega), bt_up_n hw (by omega) (by omega), bt_up_lo (by omega)]
  · show bt (up _ _ _) b2 w = _
    rw [bt_up_n hw (by omega) (by omega)]
theorem x_needsYetK (ha : IsMom a) (hc : IsCamp c) {S : Nat → Int} {s : Int} {P : Nat → Prop} (hM : MomK t a S s P) (hC : CampR t c S) (hI : Inv m S) {b : Nat} (hb : b < 7) (hn : (b : Int) < S 12) : Ex G mX1_needsYet [RR a, RR c, II (b : Int)] t (Ret (max 0 (need S b - bt S b 3)) t) := by
  have hB := hI.b hb
  unfold InB at hB
  have hq := need_in hI hb
  have h1 := (hM.2 b hb).2.1
  have h2 := (hC.2 b hb hn).2.2.2
  have h9 := hI.1
  refine eX1_needsYet (sgX1_needsYet_0 ha hc ?_)
  have cn : Ex G mX1_needs [RR a, RR c, II (b : Int)] t (Ret (need S b) t) := by
    refine eX1_needs (sgX1_needs_0 ha hc ⟨by omega, ?_⟩)
    rw [Int.toNat_natCast, h1, h2]
    exact ⟨⟨by omega, i32 (by omega) (by omega)⟩, by unfold need; omega, rfl⟩
  refine ck cn ⟨by omega, ?_⟩
  rw [Int.toNat_natCast, (hM.2 b hb).1]
  exact ⟨i32 (by omega) (by omega), rfl, rfl⟩
/-- the turn of one, behind what it drank -/
theorem x_wb_136 (ha : IsMom a) (hc : IsCamp c) {E : Nat → Int} {l s f g x7 o : Int} {k : Nat} {Q : Int → Mem → Prop} (hE : Inv m E) (hk : k < nb E) {S2 : Nat → Int}
    (hI2 : Inv m (up S2 (14 + 7 * ordF E k + 5) (if 0 < o then bt S2 (ordF E k) 5 + o else 0))) (h0 : 0 ≤ o ∧ o ≤ 8) (hI : Inv m S2)
    (hM : MomK t a S2 s (Pd E k)) (hC : CampR t c S2) (h12 : S2 12 = E 12)
    (kk : ∀ u : Mem, MomK u a (up S2 (14 + 7 * ordF E k + 5) (if 0 < o then bt S2 (ordF E k) 5 + o else 0)) s (Pd E (k + 1)) → (∀ x, x < a ∨ a + 4 < x → u x = t x) → V G mX1_waterBeasts 11 [(0, RR a), (1, RR c), (2, II l), (3, II f), (4, II g), (5, II ((k : Int) + 1))] [] u Q) :
    V G mX1_waterBeasts 136 [(0, RR a), (1, RR c), (2, II l), (3, II f), (4, II g), (5, II (k : Int)), (6, II (ordF E k : Int)), (7, II x7), (8, II o)] [] t Q := by
  have hh := hE.h
  unfold InH at hh
  have ho := ord_lt (N := E) (by omega) hk
  have hB := hI.b ho.1
  unfold InB at hB
  have hq := need_in hI ho.1
  have hnP : ¬ Pd E k (ordF E k) := fun ⟨i, hi, e⟩ => by have := ordF_inj (N := E) (by omega) hk e; omega
  have hb := hM.2 _ ho.1
  have hb2 := hb.2.2.2 hnP
  have hkd := (hC.2 _ ho.1 (by rw [h12]; exact ho.2)).1
  refine sgX1_waterBeasts_136 ha hc ⟨by omega, ?_⟩
  rw [Int.toNat_natCast, hkd]
  refine cqv (x_swell ha ho.1 (i32 (by omega) (by omega)) (i32 (by omega) (by omega)) (by rw [hb2.2]; omega) h0 (by rw [hb2.1]; omega)) (fun u hu => ?_)
  obtain ⟨u3, u4, uo⟩ := hu
  refine kk u ⟨?_, fun b hb7 => ?_⟩ (fun x hx => uo x (by omega) (by omega))
  · rw [uo a (by omega) (by omega)]
    have := hM.1
    rw [hd_up (by omega) (by omega), hd_up (by omega) (by omega), hd_up (by omega) (by omega), hd_up (by omega) (by omega), hd_up (by omega) (by omega)]
    exact this
  · have hM2 := hM.2 b hb7
    rw [uo (a + 1) (by omega) (by omega), uo (a + 2) (by omega) (by omega), bt_up_n (by omega) (by omega) (by omega), bt_up_n (by omega) (by omega) (by omega), u3, u4]
    refine ⟨hM2.1, hM2.2.1, fun hP => ?_, fun hP => ?_⟩
    · by_cases e : b = ordF E k
      · subst e
        rw [up_s, up_s]
        unfold sw6 sw5
        rw [bt_up_s, bt_up_n (by omega) (by omega) (by omega), bt_up_n (by omega) (by omega) (by omega), hb2.1, hb2.2]
        have e5 : (if o ≤ 0 then 0 else bt S2 (ordF E k) 5 + o) = (if 0 < o then bt S2 (ordF E k) 5 + o else 0) := by
          by_cases q : 0 < o
          · rw [if_pos q, if_neg (by omega)]
          · rw [if_neg q, if_pos (by omega)]
        rw [e5]
        exact ⟨rfl, rfl⟩
      · obtain ⟨i, hi, ei⟩ := hP
        have hPk : Pd E k b := ⟨i, by rcases Nat.lt_or_eq_of_le (Nat.le_of_lt_succ hi) with q | q; exact q; exfalso; rw [q] at ei; exact e ei.symm, ei⟩
        have := hM2.2.2.1 hPk
        rw [up_n e, up_n e]
        unfold sw6 sw5 at this ⊢
        rw [bt_up_n (by omega) (by omega) (Or.inl e), bt_up_n (by omega) (by omega) (Or.inl e), bt_up_n (by omega) (by omega) (Or.inl e)]
        exact this
    · have e : b ≠ ordF E k := fun q => hP ⟨k, by omega, q.symm⟩
      have hPk : ¬ Pd E k b := fun ⟨i, hi, ei⟩ => hP ⟨i, by omega, ei⟩
      have := hM2.2.2.2 hPk
      rw [up_n e, up_n e, bt_up_n (by omega) (by omega) (Or.inl e), bt_up_n (by omega) (by omega) (Or.inl e)]
      exact this
theorem x_wb_11 (ha : IsMom a) (hc : IsCamp c) {E : Nat → Int} {l s : Int} {Q : Int → Mem → Prop} (hE : Inv m E) : ∀ (dd k : Nat) (t : Mem), k + dd = nb E → MomK t a (drS l E k).1 s (Pd E k) → CampR t c E → OrdC t c E →
    (∀ w : Mem, MomK w a (drS l E (nb E)).1 s (Pd E (nb E)) → (∀ x, x < a ∨ a + 4 < x → w x = t x) → Q (drS l E (nb E)).2.2 w) →
    V G mX1_waterBeasts 11 [(0, RR a), (1, RR c), (2, II l), (3, II (drS l E k).2.1), (4, II (drS l E k).2.2), (5, II (k : Int))] [] t Q := by
  intro dd
  have hh := hE.h
  unfold InH at hh
  have hac := mom_camp ha hc
  induction dd with
  | zero =>
    intro k t hk hM hC hO kk
    refine sgX1_waterBeasts_11 ha hc ⟨i32 (by omega) (by unfold nb at hk; omega), by rw [hC.1.2.2.2.2.2.2.2]; exact i32 (by omega) (by omega), br_t (by rw [hC.1.2.2.2.2.2.2.2]; unfold nb at hk; omega) ?_⟩
    have e : k = nb E := by omega
    subst e
    exact kk t hM (fun _ _ => rfl)
  | succ dd ih =>
    intro k t hk hM hC hO kk
    have hkn : k < nb E := by omega
    have hk7 : k < 7 := by unfold nb at hkn; omega
    have ho := ord_lt (N := E) (by omega) hkn
    have hI : Inv m (drS l E k).1 := drS_inv hE k (by omega)
    have hf := drS_f (l := l) (N := E) (by omega) k
    have kS := drS_kp l E k
    have e12 : (drS l E k).1 12 = E 12 := kS.1.2.2.2.2.2.2.2
    have e10 : (drS l E k).1 10 = E 10 := kS.1.2.2.2.2.2.2.1
    have hCS := hC.kp kS
    have eb : t (c + 5) ((k : Int).toNat) = (ordF E k : Int) := by rw [Int.toNat_natCast]; exact hO k hkn
    have hnP : ¬ Pd E k (ordF E k) := fun ⟨i, hi, e⟩ => by have := ordF_inj (N := E) (by omega) hkn e; omega
    have es : drS l E (k + 1) = dr1 l (drS l E k) (ordF E k) := rfl
    have nx : ∀ w : Mem, MomK w a (drS l E (k + 1)).1 s (Pd E (k + 1)) → (∀ x, x < a ∨ a + 4 < x → w x = t x) → V G mX1_waterBeasts 11 [(0, RR a), (1, RR c), (2, II l), (3, II (drS l E (k + 1)).2.1), (4, II (drS l E (k + 1)).2.2), (5, II ((k : Int) + 1))] [] w Q := by
      intro w h1 h2
      exact ih (k + 1) w (by omega) h1 (hC.kept (fun x _ _ => h2 x (by omega))) (fun j hj => by rw [h2 (c + 5) (by omega)]; exact hO j hj) (fun w2 g1 g2 => kk w2 g1 (fun x hx => by rw [g2 x hx, h2 x hx]))
    have hB := hI.b ho.1
    have hq := need_in hI ho.1
    unfold InB at hB
    have no : ∀ r6 : Int, ¬ gets (drS l E k).1 (drS l E k).2.1 l (ordF E k) = true → V G mX1_waterBeasts 136 [(0, RR a), (1, RR c), (2, II l), (3, II (drS l E k).2.1), (4, II (drS l E k).2.2), (5, II (k : Int)), (6, II (ordF E k : Int)), (7, II r6), (8, II 0)] [] t Q := by
      intro r6 g
      refine x_wb_136 ha hc hE hkn (S2 := (drS l E k).1) ?_ (by omega) hI hM hCS e12 (fun u h1 h2 => ?_)
      · rw [if_neg (by omega)]; exact st_inv hI ho.1 (by rw [e12]; exact ho.2) (by omega) (by omega)
      · have := nx u (by rw [es, dr1_f g]; rw [if_neg (by omega)] at h1; exact h1) h2
        rw [es, dr1_f g] at this
        exact this
    refine sgX1_waterBeasts_11 ha hc ⟨i32 (by omega) (by omega), by rw [hC.1.2.2.2.2.2.2.2]; exact i32 (by omega) (by omega), br_f (by rw [hC.1.2.2.2.2.2.2.2]; unfold nb at hkn; omega) ⟨by omega, ?_⟩⟩
    rw [eb]
    refine ck (x_needsYetK ha hc hM hCS hI ho.1 (by rw [e12]; exact ho.2)) ⟨i32 (by omega) (by omega), ?_⟩
    have p6 : t c 6 = (drS l E k).1 10 := by rw [hCS.1.2.2.2.2.2.2.1]
    have sw : t (a + 3) (((ordF E k : Nat) : Int).toNat) = bt (drS l E k).1 (ordF E k) 6 := by rw [Int.toNat_natCast]; exact ((hM.2 _ ho.1).2.2.2 hnP).1
    rw [p6, sw, Int.toNat_natCast]
    by_cases c1 : (drS l E k).2.1 ≤ 0
    · exact br_t c1 (no _ (fun g => by have := (gets_iff.mp g).1; omega))
    · refine br_f c1 ⟨x32 _, ?_⟩
      by_cases c5 : iAnd (iShr l (ordF E k)) 1 = 1
      · refine nb_f c5 ⟨i32 (by omega) (by omega), by rw [e10]; exact i32 (by omega) (by omega), ?_⟩
        by_cases c4 : ((ordF E k : Nat) : Int) = (drS l E k).1 10
        · exact br_t c4 (no _ (fun g => (gets_iff.mp g).2.2.2.1 c4))
        · refine br_f c4 ⟨by omega, i32 (by omega) (by omega), ?_⟩
          by_cases c3 : bt (drS l E k).1 (ordF E k) 6 = 0
          · refine nb_f c3 ⟨i32 (by omega) (by omega), ?_⟩
            by_cases c2 : need (drS l E k).1 (ordF E k) ≤ bt (drS l E k).1 (ordF E k) 3
            · exact br_t (by omega) (no _ (fun g => (gets_iff.mp g).2.1 c2))
            · refine br_f (by omega) ?_
              have g : gets (drS l E k).1 (drS l E k).2.1 l (ordF E k) = true := gets_iff.mpr ⟨by omega, c2, c3, c4, c5⟩
              have hw := own_in hI ho.1 c2
              have hkd := (hCS.2 _ ho.1 (by rw [e12]; exact ho.2)).1
              rw [hkd]
              refine ck (x_gulp (i32 (by omega) (by omega))) ?_
              have hi0 := hI.h
              unfold InH at hi0
              have eg : (if bt (drS l E k).1 (ordF E k) 0 = 2 then (2 : Int) else if bt (drS l E k).1 (ordF E k) 0 = 3 then 8 else 4) = drk (drS l E k).1 (ordF E k) := rfl
              have hdk := drk_in (drS l E k).1 (ordF E k)
              have t1 : t a 1 = (drS l E k).1 7 := hM.1.2.1
              have d1 : t (a + 1) (ordF E k) = bt (drS l E k).1 (ordF E k) 3 := (hM.2 _ ho.1).1
              rw [eg, t1, d1]
              have eo : min (drk (drS l E k).1 (ordF E k)) (min (max 0 (need (drS l E k).1 (ordF E k) - bt (drS l E k).1 (ordF E k) 3)) ((drS l E k).1 7)) = ownN (drS l E k).1 (ordF E k) := by unfold ownN; omega
              rw [eo]
              refine ⟨i32 (by omega) (by omega), i32 (by omega) (by omega), fun u23 e23 u25 e25 => ?_⟩
              have hI1 : Inv m (up (drS l E k).1 7 ((drS l E k).1 7 - ownN (drS l E k).1 (ordF E k))) := hI.lo (by omega) (by omega) (by unfold InH; simp only [up]; simp; omega)
              have hI2 : Inv m (up (up (drS l E k).1 7 ((drS l E k).1 7 - ownN (drS l E k).1 (ordF E k))) (14 + 7 * ordF E k + 3) (bt (drS l E k).1 (ordF E k) 3 + ownN (drS l E k).1 (ordF E k))) := dk_inv hI1 ho.1 (by rw [up_n (by omega), e12]; exact ho.2) (by rw [bt_up_lo (by omega)]; omega) (by rw [need_lo (by omega)]; omega)
              have b5 : bt (up (up (drS l E k).1 7 ((drS l E k).1 7 - ownN (drS l E k).1 (ordF E k))) (14 + 7 * ordF E k + 3) (bt (drS l E k).1 (ordF E k) 3 + ownN (drS l E k).1 (ordF E k))) (ordF E k) 5 = bt (drS l E k).1 (ordF E k) 5 := by rw [bt_up_n (by omega) (by omega) (by omega), bt_up_lo (by omega)]
              have a23 : u23 a = t a := by rw [e23, wr_n (by omega)]
              have o25 : ∀ x, x ≠ a → x ≠ a + 1 → u25 x = t x := fun x h1 h2 => by rw [e25, wr_n h1, e23, wr_n h2]
              refine x_wb_136 (s := s) ha hc hE hkn (S2 := up (up (drS l E k).1 7 ((drS l E k).1 7 - ownN (drS l E k).1 (ordF E k))) (14 + 7 * ordF E k + 3) (bt (drS l E k).1 (ordF E k) 3 + ownN (drS l E k).1 (ordF E k))) ?_ (by omega) hI2 ⟨?_, fun b hb => ?_⟩ ?_ (by rw [up_n (by omega), up_n (by omega)]; exact e12) (fun u h1 h2 => ?_)
              · rw [b5]
                refine st_inv hI2 ho.1 (by rw [up_n (by omega), up_n (by omega), e12]; exact ho.2) (by split <;> omega) ?_
                rw [bt_up_s]; split <;> omega
              · have hz : ∀ (x y : Int) (j : Nat), j < 14 → j ≠ 7 → (up (up (drS l E k).1 7 x) (14 + 7 * ordF E k + 3) y) j = (drS l E k).1 j := fun x y j h1 h2 => by rw [up_n (by omega), up_n h2]
                have hz7 : ∀ (x y : Int), (up (up (drS l E k).1 7 x) (14 + 7 * ordF E k + 3) y) 7 = x := fun x y => by rw [up_n (by omega), up_s]
                have e25a : u25 a = up (t a) 1 (t a 1 - ownN (drS l E k).1 (ordF E k)) := by rw [e25, wr_s, a23]
                have h := hM.1
                rw [hz _ _ 0 (by omega) (by omega), hz _ _ 8 (by omega) (by omega), hz _ _ 11 (by omega) (by omega), hz _ _ 13 (by omega) (by omega), hz7, e25a]
                exact ⟨by rw [up_n (by omega)]; exact h.1, by rw [up_s, h.2.1], by rw [up_n (by omega)]; exact h.2.2.1, by rw [up_n (by omega)]; exact h.2.2.2.1, by rw [up_n (by omega)]; exact h.2.2.2.2.1, by rw [up_n (by omega)]; exact h.2.2.2.2.2⟩
              · have hM2 := hM.2 b hb
                have e1 : u25 (a + 1) = up (t (a + 1)) (ordF E k) (bt (drS l E k).1 (ordF E k) 3 + ownN (drS l E k).1 (ordF E k)) := by rw [e25, wr_n (by omega), e23, wr_s]
                rw [e1, o25 (a + 2) (by omega) (by omega), o25 (a + 3) (by omega) (by omega), o25 (a + 4) (by omega) (by omega)]
                have q4 : bt (up (up (drS l E k).1 7 ((drS l E k).1 7 - ownN (drS l E k).1 (ordF E k))) (14 + 7 * ordF E k + 3) (bt (drS l E k).1 (ordF E k) 3 + ownN (drS l E k).1 (ordF E k))) b 4 = bt (drS l E k).1 b 4 := by rw [bt_up_n (by omega) (by omega) (by omega), bt_up_lo (by omega)]
                have q5 : bt (up (up (drS l E k).1 7 ((drS l E k).1 7 - ownN (drS l E k).1 (ordF E k))) (14 + 7 * ordF E k + 3) (bt (drS l E k).1 (ordF E k) 3 + ownN (drS l E k).1 (ordF E k))) b 5 = bt (drS l E k).1 b 5 := by rw [bt_up_n (by omega) (by omega) (by omega), bt_up_lo (by omega)]
                have q6 : bt (up (up (drS l E k).1 7 ((drS l E k).1 7 - ownN (drS l E k).1 (ordF E k))) (14 + 7 * ordF E k + 3) (bt (drS l E k).1 (ordF E k) 3 + ownN (drS l E k).1 (ordF E k))) b 6 = bt (drS l E k).1 b 6 := by rw [bt_up_n (by omega) (by omega) (by omega), bt_up_lo (by omega)]
                have q0 : bt (up (up (drS l E k).1 7 ((drS l E k).1 7 - ownN (drS l E k).1 (ordF E k))) (14 + 7 * ordF E k + 3) (bt (drS l E k).1 (ordF E k) 3 + ownN (drS l E k).1 (ordF E k))) b 0 = bt (drS l E k).1 b 0 := by rw [bt_up_n (by omega) (by omega) (by omega), bt_up_lo (by omega)]
                unfold sw6 sw5
                rw [q4, q5, q6, q0]
                refine ⟨?_, hM2.2.1, hM2.2.2.1, hM2.2.2.2⟩
                by_cases e : b = ordF E k
                · rw [e, up_s, bt_up_s]
                · rw [up_n e, bt_up_n (by omega) (by omega) (Or.inl e), bt_up_lo (by omega)]; exact hM2.1
              · exact (hCS.kept (fun x _ _ => o25 x (by omega) (by omega))).kp ((Kp.lo (by omega)).tr (Kp.w (by omega) (by omega)))
              · rw [b5] at h1
                have := nx u (by rw [es, dr1_t g]; exact h1) (fun x hx => by rw [h2 x hx, o25 x (by omega) (by omega)])
                rw [es, dr1_t g] at this
                exact this
          · exact nb_t c3 (no _ (fun g => c3 (gets_iff.mp g).2.2.1))
      · exact nb_t c5 (no _ (fun g => c5 (gets_iff.mp g).2.2.2.2))
theorem x_waterBeasts (ha : IsMom a) (hc : IsCamp c) {E : Nat → Int} {l s : Int} (hE : Inv m E) (hM : MomG t a E s) (hC : CampR t c E) (hO : OrdC t c E) : Ex G mX1_waterBeasts [RR a, RR c, II l] t (fun r u => r = (drS l E (nb E)).2.2 ∧ MomG u a (swS (drS l E (nb E)).1 (nb E)) s ∧ ∀ x, x < a ∨ a + 4 < x → u x = t x) := by
  refine eX1_waterBeasts (sgX1_waterBeasts_0 ha hc ?_)
  rw [hC.1.2.2.2.1]
  refine x_wb_11 ha hc (l := l) (s := s) hE (nb E) 0 t (by omega) ⟨hM.1, fun b hb => ⟨(hM.2 b hb).1, (hM.2 b hb).2.1, fun ⟨i, hi, _⟩ => absurd hi (Nat.not_lt_zero i), fun _ => ⟨(hM.2 b hb).2.2.1, (hM.2 b hb).2.2.2⟩⟩⟩ hC hO (fun w h1 h2 => ⟨rfl, ⟨?_, fun b hb => ?_⟩, h2⟩)
  · rw [swS_hd _ (by omega), swS_hd _ (by omega), swS_hd _ (by omega), swS_hd _ (by omega), swS_hd _ (by omega)]; exact h1.1
  · have := h1.2 b hb
    rw [swS_n (by omega) _ (by omega), swS_n (by omega) _ (by omega)]
    by_cases q : b < nb E
    · have hP : Pd E (nb E) b := ⟨rankN E b, rank_lt q, ordF_rank q⟩
      rw [(swS_d _ q).1, (swS_d _ q).2]
      exact ⟨this.1, this.2.1, (this.2.2.1 hP).1, (this.2.2.1 hP).2⟩
    · have hP : ¬ Pd E (nb E) b := fun ⟨i, hi, e⟩ => by have := (ordF_ok hi).1; omega
      rw [swS_n (by omega) _ (by omega), swS_n (by omega) _ (by omega)]
      exact ⟨this.1, this.2.1, (this.2.2.2 hP).1, (this.2.2.2 hP).2⟩
end X2
