/-! steps on the well, the puller, the seed; readers -/
def Fix (t u : Mem) : Prop := (∀ x, (x = 0 ∨ (54 ≤ x ∧ x ≤ 106) ∨ (121 ≤ x ∧ x ≤ 131) ∨ x = 138 ∨ (140 ≤ x ∧ x ≤ 143)) → u x = t x) ∧ ∀ j, (j = 9 ∨ j = 14 ∨ j = 15) → u 132 j = t 132 j
theorem Rel.rest {t u : Mem} (h : Rel t) (f : Fix t u) : ImgR u ∧ TapeR u ∧ ∀ k, k < 4 → SheetR u k :=
  ⟨h.img.kept (by rw [f.1 0 (by omega)]) (f.2 15 (by omega)) (f.2 14 (by omega)) (f.1 140 (by omega)) (fun x _ _ => f.1 x (by omega)), h.tape.kept (by rw [f.1 121 (by omega)]) (f.1 122 (by omega)) (f.2 9 (by omega)) (f.1 138 (by omega)), fun k hk => (h.sheets k hk).kept (f.1 _ (by omega)) (f.1 _ (by omega)) (f.1 141 (by omega)) (f.1 142 (by omega)) (f.1 143 (by omega))⟩
theorem OrdI.of {t u : Mem} (h : OrdI t) (h7 : t 133 12 ≤ 7) (s : SmB (t 133) (u 133)) (e2 : u 132 2 = t 132 2) (e134 : u 134 = t 134) : OrdI u := by
  unfold OrdI at h ⊢
  rw [e2]
  refine ⟨h.1, h.2.1, fun q => ?_⟩
  have hs := (h.2.2 q).same (s.same (t 132 2)) (by rw [up_n (by omega)]; exact h7)
  intro k hk
  rw [e134]; exact hs k hk
theorem Rel.h12 {t : Mem} (h : Rel t) : 0 ≤ t 133 12 ∧ t 133 12 ≤ 7 := by
  have := h.inv.h
  unfold InH at this
  omega
theorem Rel.set {t : Mem} {i j : Nat} {v : Int} (h : Rel t) (hij : (i = 0 ∧ j = 1) ∨ (i = 1 ∧ j = 2) ∨ (i = 2 ∧ j = 3) ∨ (i = 3 ∧ j = 4) ∨ (i = 4 ∧ j = 5) ∨ (i = 5 ∧ j = 6) ∨ (i = 6 ∧ j = 10)) (hv : ∀ (m : Int) (M : Nat → Int), M 12 = t 133 12 → InH m M → InH m (up M j v)) : Rel (wr (wr t 1 i v) 133 j v) := by
  have e133 : wr (wr t 1 i v) 133 j v 133 = up (t 133) j v := by rw [wr_s, wr_n (by decide)]
  have ne : ∀ x, x ≠ 1 → x ≠ 133 → wr (wr t 1 i v) 133 j v x = t x := fun x a b => by rw [wr_n b, wr_n a]
  have e1 : wr (wr t 1 i v) 133 j v 1 = up (t 1) i v := by rw [wr_n (by decide), wr_s]
  have hj : j = 1 ∨ j = 2 ∨ j = 3 ∨ j = 4 ∨ j = 5 ∨ j = 6 ∨ j = 10 := by omega
  have hM : isM j = false := by rcases hj with rfl | rfl | rfl | rfl | rfl | rfl | rfl <;> rfl
  have sm : SmB (t 133) (up (t 133) j v) := ⟨by rw [up_n (by omega)], fun b _ => by rw [bt_up_lo (by omega), bt_up_lo (by omega), bt_up_lo (by omega)]; exact ⟨rfl, rfl, rfl⟩⟩
  have r := h.rest (u := wr (wr t 1 i v) 133 j v) ⟨fun x hx => ne x (by omega) (by omega), fun k hk => by rw [ne 132 (by omega) (by omega)]⟩
  refine ⟨?_, ?_, ?_, ?_, ?_, ?_, r.1, r.2.1, r.2.2⟩
  · rw [e133, up_n (by omega)]; exact h.inv.lo (by omega) (by omega) (hv _ _ rfl h.inv.2.1)
  · rw [e133, up_n (by omega)]; exact h.mn
  · exact h.ord.of h.h12.2 (by rw [e133]; exact sm) (by rw [ne 132 (by omega) (by omega)]) (ne 134 (by omega) (by omega))
  · have hC := h.camp
    rw [e133]
    unfold CampR at hC ⊢
    obtain ⟨⟨c0, c1, c2, c3, c4, c5, c6, c7⟩, cb⟩ := hC
    constructor
    · rw [e1]
      rcases hij with ⟨rfl, rfl⟩ | ⟨rfl, rfl⟩ | ⟨rfl, rfl⟩ | ⟨rfl, rfl⟩ | ⟨rfl, rfl⟩ | ⟨rfl, rfl⟩ | ⟨rfl, rfl⟩ <;> simp [up, c0, c1, c2, c3, c4, c5, c6, c7]
    · intro b hb hn
      rw [up_n (by omega)] at hn
      rw [ne (1 + 1) (by omega) (by omega), ne (1 + 2) (by omega) (by omega), ne (1 + 3) (by omega) (by omega), ne (1 + 4) (by omega) (by omega)]
      unfold mk5
      rw [bt_up_lo (by omega), bt_up_lo (by omega), bt_up_lo (by omega)]
      exact cb b hb hn
  · rw [e133]
    exact MomR.lo (show MomR _ 7 (t 133) from MomG.kept h.mom (fun x _ _ => ne x (by omega) (by omega))) hj
  · obtain ⟨nx, k, h1, h2⟩ := h.past
    rw [e133, ne 135 (by omega) (by omega), ne 132 (by omega) (by omega)]
    refine ⟨nx, k, by rw [ne 12 (by omega) (by omega)]; exact h1, fun q hq => ?_⟩
    obtain ⟨a, b, c⟩ := h2 q hq
    have hs : slot nx k q < 8 := Nat.mod_lt _ (by decide)
    rw [mix_up hM]
    exact ⟨MomR.lo (show MomR _ _ _ from MomG.kept a (fun x _ _ => ne x (by omega) (by omega))) hj, b.lo (by omega) (by omega) (hv _ _ (mix_f (by decide)) b.2.1), c⟩
theorem Rel.setM {t : Mem} {i j : Nat} {v : Int} (h : Rel t) (hij : (i = 0 ∧ j = 0) ∨ (i = 5 ∧ j = 13)) (hv : ∀ m : Int, InH m (t 133) → InH m (up (t 133) j v)) : Rel (wr (wr t 7 i v) 133 j v) := by
  have e133 : wr (wr t 7 i v) 133 j v 133 = up (t 133) j v := by rw [wr_s, wr_n (by decide)]
  have ne : ∀ x, x ≠ 7 → x ≠ 133 → wr (wr t 7 i v) 133 j v x = t x := fun x a b => by rw [wr_n b, wr_n a]
  have e1 : wr (wr t 7 i v) 133 j v 7 = up (t 7) i v := by rw [wr_n (by decide), wr_s]
  have hj : j = 0 ∨ j = 13 := by omega
  have hM : isM j = true := by rcases hj with rfl | rfl <;> rfl
  have sm : SmB (t 133) (up (t 133) j v) := ⟨by rw [up_n (by omega)], fun b _ => by rw [bt_up_lo (by omega), bt_up_lo (by omega), bt_up_lo (by omega)]; exact ⟨rfl, rfl, rfl⟩⟩
  have r := h.rest (u := wr (wr t 7 i v) 133 j v) ⟨fun x hx => ne x (by omega) (by omega), fun k hk => by rw [ne 132 (by omega) (by omega)]⟩
  refine ⟨?_, ?_, ?_, ?_, ?_, ?_, r.1, r.2.1, r.2.2⟩
  · rw [e133, up_n (by omega)]; exact h.inv.lo (by omega) (by omega) (hv _ h.inv.2.1)
  · rw [e133, up_n (by omega)]; exact h.mn
  · exact h.ord.of h.h12.2 (by rw [e133]; exact sm) (by rw [ne 132 (by omega) (by omega)]) (ne 134 (by omega) (by omega))
  · have hC := h.camp
    rw [e133]
    unfold CampR at hC ⊢
    rw [up_n (by omega), up_n (by omega), up_n (by omega), up_n (by omega), up_n (by omega), up_n (by omega), up_n (by omega), up_n (by omega), ne 1 (by omega) (by omega)]
    refine ⟨hC.1, fun b hb hn => ?_⟩
    rw [ne (1 + 1) (by omega) (by omega), ne (1 + 2) (by omega) (by omega), ne (1 + 3) (by omega) (by omega), ne (1 + 4) (by omega) (by omega)]
    unfold mk5
    rw [bt_up_lo (by omega), bt_up_lo (by omega), bt_up_lo (by omega)]
    exact hC.2 b hb hn
  · have hm := h.mom
    rw [e133]
    unfold MomR MomG at hm ⊢
    obtain ⟨⟨c0, c1, c2, c3, c4, c5⟩, cb⟩ := hm
    constructor
    · rw [e1]
      rcases hij with ⟨rfl, rfl⟩ | ⟨rfl, rfl⟩ <;> simp [up, c0, c1, c2, c3, c4, c5]
    · intro b hb
      rw [ne (7 + 1) (by omega) (by omega), ne (7 + 2) (by omega) (by omega), ne (7 + 3) (by omega) (by omega), ne (7 + 4) (by omega) (by omega), bt_up_lo (by omega), bt_up_lo (by omega), bt_up_lo (by omega), bt_up_lo (by omega)]
      exact cb b hb
  · obtain ⟨nx, k, h1, h2⟩ := h.past
    rw [e133, ne 135 (by omega) (by omega), ne 132 (by omega) (by omega)]
    refine ⟨nx, k, by rw [ne 12 (by omega) (by omega)]; exact h1, fun q hq => ?_⟩
    obtain ⟨a, b, c⟩ := h2 q hq
    have hs : slot nx k q < 8 := Nat.mod_lt _ (by decide)
    rw [mix_upM hM]
    exact ⟨MomG.kept a (fun x _ _ => ne x (by omega) (by omega)), b, c⟩
section S2
variable {G : GG} {t : Mem}
theorem Step.pure {mx mr : MI} {ax ar : List VV} {v : Int} (hR : Rel t) (hv : In32 v) (hx : Ex G mx ax t (Ret v t)) (hm : Ex G mr ar t (Ret v t)) : Step G mx ax mr ar t :=
  ⟨v, fun u => u = t, hv, Ex.mono hx (fun r u h => ⟨h.1, h.2⟩), fun u hu => by subst hu; exact Ex.mono hm (fun r w h => ⟨h.1, by rw [h.2]; exact hR⟩)⟩
theorem Step.one {mx mr : MI} {ax ar : List VV} {v : Int} {u w : Mem} (hR : Rel w) (hv : In32 v) (hx : Ex G mx ax t (Ret v u)) (hm : Ex G mr ar u (Ret v w)) : Step G mx ax mr ar t :=
  ⟨v, fun q => q = u, hv, Ex.mono hx (fun r u h => ⟨h.1, h.2⟩), fun q hq => by subst hq; exact Ex.mono hm (fun r w h => ⟨h.1, by rw [h.2]; exact hR⟩)⟩
theorem s_pull {v : Int} (hv : In32 v) (hR : Rel t) : Step G mX5_pull [RR 0, II v] mX6_pull [RR 132, II v] t := by
  have hh := hR.inv.h
  unfold InH at hh
  have c7 : t 1 7 = t 133 12 := hR.camp.1.2.2.2.2.2.2.2
  have c6 : t 1 6 = t 133 10 := hR.camp.1.2.2.2.2.2.2.1
  have hw : (v = -4 ∨ (0 ≤ v ∧ v < t 133 12)) → Rel (wr (wr t 1 6 v) 133 10 v) := fun q => hR.set (by omega) (fun m M e h => by unfold InH at h ⊢; simp only [up]; simp; omega)
  by_cases c : v = -4
  · refine Step.one (v := t 133 10) (hw (Or.inl c)) (i32 (by omega) (by omega)) (eX5_pull (sgX5_pull_0 ⟨hv, br_t c (fun u e => ⟨c6, e⟩)⟩)) (eX6_pull (sgX6_pull_0 ⟨hv, br_t c (fun u e => ⟨by rw [wr_n (by decide)], e⟩)⟩))
  · by_cases d : 0 ≤ v ∧ v < t 133 12
    · refine Step.one (v := t 133 10) (hw (Or.inr d)) (i32 (by omega) (by omega)) (eX5_pull (sgX5_pull_0 ⟨hv, br_f c (ck (x_lacks is1 hv (by rw [c7]; omega)) ?_)⟩)) (eX6_pull (sgX6_pull_0 ⟨hv, br_f c (ck (c_isBeast1 (by rw [wr_n (by decide)]; omega) (by rw [wr_n (by decide)]; exact d)) ⟨iL rfl, nb_t (by decide) (fun u e => ⟨by rw [wr_n (by decide)], e⟩)⟩)⟩))
      rw [c7, if_pos d]
      exact ⟨iL rfl, br_t rfl (fun u e => ⟨c6, e⟩)⟩
    · refine Step.pure (v := -1) hR (iL rfl) (eX5_pull (sgX5_pull_0 ⟨hv, br_f c (ck (x_lacks is1 hv (by rw [c7]; omega)) ?_)⟩)) (eX6_pull (sgX6_pull_0 ⟨hv, br_f c (ck (c_isBeast0 hv (by omega) d) ⟨iL rfl, nb_f rfl ⟨rfl, rfl⟩⟩)⟩))
      rw [c7, if_neg d]
      exact ⟨iL rfl, br_f (by decide) ⟨rfl, rfl⟩⟩
theorem s_seed {v : Int} (hv : In32 v) (hR : Rel t) : Step G mX5_seed [RR 0, II v] mX6_seed [RR 132, II v] t := by
  have hh := hR.inv.h
  unfold InH at hh
  have hv2 := hv.2
  by_cases c : 0 ≤ v
  · exact Step.one (v := t 133 13) (hR.setM (i := 5) (j := 13) (v := v) (by omega) (fun m h => by unfold InH at h ⊢; simp only [up]; simp; omega)) (i32 (by omega) (by omega)) (eX5_seed (sgX5_seed_0 ⟨hv, br_t c (fun u e => ⟨hR.mom.1.2.2.2.2.2, e⟩)⟩)) (eX6_seed (sgX6_seed_0 ⟨hv, br_t c (fun u e => ⟨by rw [wr_n (by decide)], e⟩)⟩))
  · exact Step.pure (v := -1) hR (iL rfl) (eX5_seed (sgX5_seed_0 ⟨hv, br_f c ⟨rfl, rfl⟩⟩)) (eX6_seed (sgX6_seed_0 ⟨hv, br_f c ⟨rfl, rfl⟩⟩))
end S2
