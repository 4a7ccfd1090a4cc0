/-! the class: answers of what is foretold -/
theorem fst4_cut (p : Nat → Bool) {k : Nat} : ∀ K : Nat, k ≤ K → fst4 p k = if fst4 p K ≠ -4 ∧ fst4 p K < k then fst4 p K else -4
  | 0, h => by have e : k = 0 := by omega
               subst e; rw [if_neg (fun q => q.1 rfl)]; rfl
  | K + 1, h => by
    rcases Nat.lt_or_eq_of_le h with z | z
    · have ih := fst4_cut p (k := k) K (by omega)
      have e : fst4 p (K + 1) = if fst4 p K = -4 then (if p K then (K : Int) else -4) else fst4 p K := rfl
      by_cases c : fst4 p K = -4
      · rw [ih, if_neg (fun q => q.1 c), e, if_pos c]
        split
        · rw [if_neg (by omega)]
        · rw [if_neg (fun q => q.1 rfl)]
      · rw [ih, e, if_neg c]
    · subst z
      have := fst4_in p (K + 1)
      by_cases c : fst4 p (K + 1) = -4
      · rw [if_neg (fun q => q.1 c)]; exact c
      · rw [if_pos ⟨c, by omega⟩]
theorem CampR.of107 {u : Mem} {j i : Nat} {v : Int} {N : Nat → Int} (hC : CampR u 107 N) (h : (i = 4 ∧ j = 5) ∨ (i = 6 ∧ j = 10)) : CampR (wr u 107 i v) 107 (up N j v) := by
  refine CampR.wr107 hC (by omega) (fun _ _ _ => trivial) ?_ (by omega) (fun b hb => by rw [bt_up_lo (by omega), bt_up_lo (by omega), bt_up_lo (by omega)]; exact ⟨rfl, rfl, rfl⟩)
  rcases h with ⟨rfl, rfl⟩ | ⟨rfl, rfl⟩ <;> simp [up]
theorem CampR.up2 {u : Mem} {j i : Nat} {v w : Int} {N : Nat → Int} (hC : CampR u 107 (up N j w)) (h : (i = 4 ∧ j = 5) ∨ (i = 6 ∧ j = 10)) : CampR (wr u 107 i v) 107 (up N j v) := by
  have := CampR.of107 (v := v) hC h
  rw [show up (up N j w) j v = up N j v from by funext q; unfold up; by_cases e : q = j <;> simp [e]] at this
  exact this
theorem up_same (N : Nat → Int) (j : Nat) : up N j (N j) = N := by funext q; unfold up; by_cases e : q = j <;> simp [e]
theorem bst_1 {f g : Nat → Int} (hf : ∀ i, f i = -4 ∨ 0 ≤ f i) (hg : ∀ i, 0 ≤ g i) : ∀ k, ((bst f g k).1 = -4 ∧ (bst f g k).2 = -4) ∨ (0 ≤ (bst f g k).1 ∧ 0 ≤ (bst f g k).2)
  | 0 => Or.inl ⟨rfl, rfl⟩
  | k + 1 => by
    have := hf k
    have := hg k
    unfold bst
    split
    · exact bst_1 hf hg k
    · split
      · exact Or.inr ⟨by omega, by omega⟩
      · exact bst_1 hf hg k
section XG
variable {G : GG} {t : Mem} {m : Int} {N : Nat → Int}
theorem x_water {v : Int} (hv : In32 v) (hC : CampR t 1 N) (hM : MomR t 7 N) (hI : Inv m N) (hm : m + 241 ≤ 20000) : Ex G mX5_water [RR 0, II v] t (fun r u => r = watN N v ∧ FrX t u) := by
  refine eX5_water (sgX5_water_0 ?_)
  by_cases c : 0 ≤ v ∧ v ≤ 240
  · refine ck (x_out0 (iL rfl) (iL rfl) c) ⟨iL rfl, br_t rfl ?_⟩
    refine cqv (x_foretell hC hM hI) (fun u h => ?_)
    have e : v = (v.toNat : Int) := by omega
    have hp := x_play (G := G) (l := 127) (n := v.toNat) (by omega) h.1 h.2.1 h.2.2.1 hI (by omega)
    rw [← e] at hp
    refine cqv hp (fun u2 h2 => ?_)
    obtain ⟨⟨M, g1, g2, -⟩, g3⟩ := h2
    refine ⟨?_, fun x hx => by rw [g3 x (by omega), h.2.2.2 x hx]⟩
    unfold watN; rw [if_pos c, ← g2.1 0 (by omega) (by omega)]; exact g1.1.1
  · exact ck (x_out1 hv (iL rfl) (iL rfl) c) ⟨iL rfl, br_f (by decide) ⟨by unfold watN; rw [if_neg c], FrX.rf t⟩⟩
theorem x_done {v : Int} (hv : In32 v) (hC : CampR t 1 N) (hM : MomR t 7 N) (hI : Inv m N) (hm : m + 241 ≤ 20000) : Ex G mX5_done [RR 0, II v] t (fun r u => r = dneN N v ∧ FrX t u) := by
  have hh := hI.h
  unfold InH at hh
  have c7 : t 1 7 = N 12 := hC.1.2.2.2.2.2.2.2
  have c5 : t 1 5 = N 6 := hC.1.2.2.2.2.2.1
  refine eX5_done (sgX5_done_0 ?_)
  refine ck (x_lacks is1 hv (by rw [c7]; omega)) ?_
  rw [c7]
  by_cases c : 0 ≤ v ∧ v < N 12
  · rw [if_pos c]
    refine ⟨iL rfl, br_t rfl ?_⟩
    have := x_foretellDone (G := G) (l := t 1 5) (by rw [c5]; omega) hC hM hI hm
    refine cqv this (fun u h => ⟨by omega, ?_, h.2⟩)
    rw [h.1 v.toNat (by omega) (by unfold nb; omega), c5, up_same]
    unfold dneN; rw [if_pos c]; rfl
  · rw [if_neg c]
    exact ⟨iL rfl, br_f (by decide) ⟨by unfold dneN; rw [if_neg c], FrX.rf t⟩⟩
theorem x_all (hC : CampR t 1 N) (hM : MomR t 7 N) (hI : Inv m N) (hm : m + 241 ≤ 20000) : Ex G mX5_all [RR 0] t (fun r u => r = allF N ∧ FrX t u) := by
  refine eX5_all (sgX5_all_0 (cqv (x_ctake is107 is1 (by decide)) (fun u4 h4 => ?_)))
  have M4 : MomR u4 7 N := hM.kept (fun x h1 h2 => h4.2.2 x (by omega))
  refine cq (x_soonestAll (z := 241) (by omega) (h4.camp hC) M4 hI hm) (fun r u h => ⟨h.1, fun x hx => by rw [h.2.x x hx, h4.2.2 x (by omega)]⟩)
theorem x_height {v : Int} (hv : In32 v) (hC : CampR t 1 N) (hM : MomR t 7 N) (hI : Inv m N) (hm : m + 241 ≤ 20000) : Ex G mX5_height [RR 0, II v] t (fun r u => r = hgtN N v ∧ FrX t u) := by
  refine eX5_height (sgX5_height_0 ?_)
  by_cases c : 0 ≤ v ∧ v ≤ 1
  · refine ck (x_out0 (iL rfl) (iL rfl) c) ⟨iL rfl, br_t rfl (cqv (x_ctake is107 is1 (by decide)) (fun u4 h4 => ?_))⟩
    have lp : ∀ (dd k : Nat) (u : Mem) (a b w : Int), k + dd = 61 → a = (bst (hgF N) (fun h => (h : Int)) k).1 → b = (if (bst (hgF N) (fun h => (h : Int)) k).2 = -4 then 241 else (bst (hgF N) (fun h => (h : Int)) k).2) → CampR u 107 (up N 5 w) → FrX t u → V G mX5_height 32 [(0, RR 0), (1, II v), (2, II a), (3, II b), (4, II (k : Int))] [] u (fun r u => r = hgtN N v ∧ FrX t u) := by
      intro dd
      induction dd with
      | zero =>
        intro k u a b w hk ha hb hC hF
        have e : k = 61 := by omega
        subst e
        have b1 := bst_1 (g := fun h => (h : Int)) (fun i => show hgF N i = -4 ∨ 0 ≤ hgF N i by have := allF_in (up N 5 (i : Int)); unfold hgF; omega) (fun i => by simp) 61
        have bi := bst_in (g := fun h => (h : Int)) (fun i => show hgF N i = -4 ∨ (0 ≤ hgF N i ∧ hgF N i ≤ 240) from allF_in (up N 5 (i : Int))) 61
        have b2 : ∀ k, (bst (hgF N) (fun h => (h : Int)) k).1 ≤ k := by
          intro k
          induction k with
          | zero => show (-4 : Int) ≤ ((0 : Nat) : Int); decide
          | succ k ih => unfold bst; split; omega; split; simp; omega; omega
        have b2 := b2 61
        refine sgX5_height_32 ⟨i32 (by omega) (by omega), br_t (by omega) ⟨i32 (by omega) (by omega), ?_⟩⟩
        by_cases z : a = -4
        · refine nb_f z ⟨?_, hF⟩
          unfold hgtN pck; rw [if_pos c]; split <;> omega
        · refine nb_t z ⟨hv, fun w hw => ⟨?_, hF⟩⟩
          rw [hw]; unfold hgtN pck; rw [if_pos c, ← ha]
          rw [if_neg (by omega)] at hb
          rw [← hb]
      | succ dd ih =>
        intro k u a b w hk ha hb hC hF
        have hIk : Inv m (up N 5 (k : Int)) := inv5 hI (by omega)
        have bi := bst_in (g := fun h => (h : Int)) (fun i => show hgF N i = -4 ∨ (0 ≤ hgF N i ∧ hgF N i ≤ 240) from allF_in (up N 5 (i : Int))) k
        have hf : hgF N k = -4 ∨ (0 ≤ hgF N k ∧ hgF N k ≤ 240) := allF_in (up N 5 (k : Int))
        have hbi : 0 ≤ b ∧ b ≤ 241 := by rw [hb]; split <;> omega
        have eb : bst (hgF N) (fun h => (h : Int)) (k + 1) = if hgF N k = -4 then bst (hgF N) (fun h => (h : Int)) k else if (bst (hgF N) (fun h => (h : Int)) k).2 = -4 ∨ hgF N k < (bst (hgF N) (fun h => (h : Int)) k).2 then ((k : Int), hgF N k) else bst (hgF N) (fun h => (h : Int)) k := rfl
        refine sgX5_height_32 ⟨i32 (by omega) (by omega), br_f (by omega) (fun u9 e9 => ?_)⟩
        have C9 : CampR u9 107 (up N 5 (k : Int)) := by rw [e9]; exact hC.up2 (Or.inl ⟨rfl, rfl⟩)
        have F9 : FrX t u9 := fun x hx => by rw [e9, wr_n (by omega), hF x hx]
        have M9 : MomR u9 7 (up N 5 (k : Int)) := MomR.lo (show MomR u9 7 N from hM.kept (fun x h1 h2 => F9 x (by omega))) (by omega)
        have hs := x_soonestAll (G := G) (z := b.toNat) (by omega) C9 M9 hIk hm
        rw [show ((b.toNat : Nat) : Int) = b by omega, fst4_cut _ 241 (by omega), show ((b.toNat : Nat) : Int) = b by omega] at hs
        refine cq hs (fun r u2 h2 => ?_)
        obtain ⟨h21, h22⟩ := h2
        change r = if hgF N k ≠ -4 ∧ hgF N k < b then hgF N k else -4 at h21
        have F2 : FrX t u2 := F9.tr h22.x
        have C2 := h22.camp C9
        refine ⟨by rw [h21]; split <;> exact i32 (by omega) (by omega), ?_⟩
        by_cases z : hgF N k ≠ -4 ∧ hgF N k < b
        · rw [if_pos z] at h21
          have e1 : bst (hgF N) (fun h => (h : Int)) (k + 1) = ((k : Int), hgF N k) := by
            rw [eb, if_neg z.1, if_pos]
            by_cases y : (bst (hgF N) (fun h => (h : Int)) k).2 = -4
            · exact Or.inl y
            · rw [if_neg y] at hb; exact Or.inr (by omega)
          refine br_f (by omega) (ih (k + 1) u2 k r k (by omega) (by rw [e1]) (by rw [e1, h21, if_neg z.1]) C2 F2)
        · rw [if_neg z] at h21
          have e1 : bst (hgF N) (fun h => (h : Int)) (k + 1) = bst (hgF N) (fun h => (h : Int)) k := by
            rw [eb]
            by_cases y : hgF N k = -4
            · rw [if_pos y]
            · rw [if_neg y, if_neg]
              intro q
              split at hb <;> omega
          refine br_t h21 (ih (k + 1) u2 a b k (by omega) (by rw [e1]; exact ha) (by rw [e1]; exact hb) C2 F2)
    exact lp 61 0 u4 (-4) 241 (N 5) (by omega) rfl rfl (by rw [up_same]; exact h4.camp hC) (fun x hx => h4.2.2 x (by omega))
  · exact ck (x_out1 hv (iL rfl) (iL rfl) c) ⟨iL rfl, br_f (by decide) ⟨by unfold hgtN; rw [if_neg c], FrX.rf t⟩⟩
theorem x_pulls {v : Int} (hv : In32 v) (hC : CampR t 1 N) (hM : MomR t 7 N) (hI : Inv m N) (hm : m + 241 ≤ 20000) : Ex G mX5_pulls [RR 0, II v] t (fun r u => r = pulN N v ∧ FrX t u) := by
  have hh := hI.h
  unfold InH at hh
  have hn7 : nb N ≤ 7 := by unfold nb; omega
  have hnn : (nb N : Int) = N 12 := by unfold nb; omega
  have c7 : t 1 7 = N 12 := hC.1.2.2.2.2.2.2.2
  refine eX5_pulls (sgX5_pulls_0 ?_)
  by_cases c : 0 ≤ v ∧ v ≤ 1
  · refine ck (x_out0 (iL rfl) (iL rfl) c) ⟨iL rfl, br_t rfl (cqv (x_ctake is107 is1 (by decide)) (fun u4 h4 => ?_))⟩
    have gN : ∀ i, 0 ≤ plG i := fun i => by unfold plG; split <;> omega
    have lp : ∀ (dd k : Nat) (u : Mem) (a b q w : Int), k + dd = nb N + 1 → q = (k : Int) - 1 → a = (bst (plF N) plG k).1 → b = (if (bst (plF N) plG k).2 = -4 then 241 else (bst (plF N) plG k).2) → CampR u 107 (up N 10 w) → FrX t u → V G mX5_pulls 32 [(0, RR 0), (1, II v), (2, II a), (3, II b), (4, II q)] [] u (fun r u => r = pulN N v ∧ FrX t u) := by
      intro dd
      induction dd with
      | zero =>
        intro k u a b q w hk hq ha hb hC hF
        have e : k = nb N + 1 := by omega
        have u7 : u 1 7 = N 12 := by rw [hF 1 (by omega), c7]
        have b1 := bst_1 (fun i => show plF N i = -4 ∨ 0 ≤ plF N i by have := allF_in (up N 10 (plP i)); unfold plF; omega) gN k
        have bi := bst_in (g := plG) (fun i => show plF N i = -4 ∨ (0 ≤ plF N i ∧ plF N i ≤ 240) from allF_in (up N 10 (plP i))) k
        have b2 : ∀ k, (bst (plF N) plG k).1 ≤ k + 7 := by
          intro k
          induction k with
          | zero => show (-4 : Int) ≤ ((0 : Nat) : Int) + 7; decide
          | succ k ih => unfold bst; split; omega; split; (unfold plG; simp; split <;> omega); omega
        have b2 := b2 k
        refine sgX5_pulls_32 ⟨i32 (by omega) (by omega), by rw [u7]; exact i32 (by omega) (by omega), br_t (by rw [u7]; omega) ⟨i32 (by omega) (by omega), ?_⟩⟩
        subst e
        by_cases z : a = -4
        · refine nb_f z ⟨?_, hF⟩
          unfold pulN pck; rw [if_pos c]; split <;> omega
        · refine nb_t z ⟨hv, fun w hw => ⟨?_, hF⟩⟩
          rw [hw]; unfold pulN pck; rw [if_pos c, ← ha]
          rw [if_neg (by omega)] at hb
          rw [← hb]
      | succ dd ih =>
        intro k u a b q w hk hq ha hb hC hF
        have u7 : u 1 7 = N 12 := by rw [hF 1 (by omega), c7]
        have hIk : Inv m (up N 10 (plP k)) := inv10 hI (by unfold plP; split <;> omega)
        have bi := bst_in (g := plG) (fun i => show plF N i = -4 ∨ (0 ≤ plF N i ∧ plF N i ≤ 240) from allF_in (up N 10 (plP i))) k
        have hf : plF N k = -4 ∨ (0 ≤ plF N k ∧ plF N k ≤ 240) := allF_in (up N 10 (plP k))
        have hbi : 0 ≤ b ∧ b ≤ 241 := by rw [hb]; split <;> omega
        have eb : bst (plF N) plG (k + 1) = if plF N k = -4 then bst (plF N) plG k else if (bst (plF N) plG k).2 = -4 ∨ plF N k < (bst (plF N) plG k).2 then (plG k, plF N k) else bst (plF N) plG k := rfl
        refine sgX5_pulls_32 ⟨i32 (by omega) (by omega), by rw [u7]; exact i32 (by omega) (by omega), br_f (by rw [u7]; omega) (fun w9 e9w u9 e9 => ?_)⟩
        have w9e : w9 = plP k := by rw [e9w]; exact plP_e hq
        have gE : (if 0 ≤ q then q else 7 : Int) = plG k := plG_e hq
        have C9 : CampR u9 107 (up N 10 (plP k)) := by rw [e9, w9e]; exact hC.up2 (Or.inr ⟨rfl, rfl⟩)
        have F9 : FrX t u9 := fun x hx => by rw [e9, wr_n (by omega), hF x hx]
        have M9 : MomR u9 7 (up N 10 (plP k)) := MomR.lo (show MomR u9 7 N from hM.kept (fun x h1 h2 => F9 x (by omega))) (by omega)
        have hs := x_soonestAll (G := G) (z := b.toNat) (by omega) C9 M9 hIk hm
        rw [show ((b.toNat : Nat) : Int) = b by omega, fst4_cut _ 241 (by omega), show ((b.toNat : Nat) : Int) = b by omega] at hs
        refine cq hs (fun r u2 h2 => ?_)
        obtain ⟨h21, h22⟩ := h2
        change r = if plF N k ≠ -4 ∧ plF N k < b then plF N k else -4 at h21
        have F2 : FrX t u2 := F9.tr h22.x
        have C2 := h22.camp C9
        refine ⟨by rw [h21]; split <;> exact i32 (by omega) (by omega), ?_⟩
        by_cases z : plF N k ≠ -4 ∧ plF N k < b
        · rw [if_pos z] at h21
          have e1 : bst (plF N) plG (k + 1) = (plG k, plF N k) := by
            rw [eb, if_neg z.1, if_pos]
            by_cases y : (bst (plF N) plG k).2 = -4
            · exact Or.inl y
            · rw [if_neg y] at hb; exact Or.inr (by omega)
          refine br_f (by omega) (fun w2 e2 => ih (k + 1) u2 w2 r (q + 1) (plP k) (by omega) (by omega) (by rw [e1, e2, gE]) (by rw [e1, h21, if_neg z.1]) C2 F2)
        · rw [if_neg z] at h21
          have e1 : bst (plF N) plG (k + 1) = bst (plF N) plG k := by
            rw [eb]
            by_cases y : plF N k = -4
            · rw [if_pos y]
            · rw [if_neg y, if_neg]
              intro q
              split at hb <;> omega
          refine br_t h21 (ih (k + 1) u2 a b (q + 1) (plP k) (by omega) (by omega) (by rw [e1]; exact ha) (by rw [e1]; exact hb) C2 F2)
    exact lp (nb N + 1) 0 u4 (-4) 241 (-1) (N 10) (by omega) (by omega) rfl rfl (by rw [up_same]; exact h4.camp hC) (fun x hx => h4.2.2 x (by omega))
  · exact ck (x_out1 hv (iL rfl) (iL rfl) c) ⟨iL rfl, br_f (by decide) ⟨by unfold pulN; rw [if_neg c], FrX.rf t⟩⟩
theorem x_herdWaits {h l : Int} (hh1 : In32 h) (hC : CampR t 1 N) (hI : Inv m N) (hD : ∀ b, b < 7 → b < nb N → t 118 b = donN (up N 6 l) b) : Ex G mX5_herdWaits [RR 0, II h] t (Ret (wtN N h l) t) := by
  have hh := hI.h
  unfold InH at hh
  have c7 : t 1 7 = N 12 := hC.1.2.2.2.2.2.2.2
  have c6 : t 1 6 = N 10 := hC.1.2.2.2.2.2.2.1
  have lp : ∀ (dd k : Nat) (s : Int), k + dd = nb N → s = wtS N (donN (up N 6 l)) h k → V G mX5_herdWaits 4 [(0, RR 0), (1, II h), (2, II s), (3, II (k : Int))] [] t (Ret (wtN N h l) t) := by
    intro dd
    induction dd with
    | zero =>
      intro k s hk hs
      refine sgX5_herdWaits_4 ⟨i32 (by omega) (by unfold nb at hk; omega), by rw [c7]; exact i32 (by omega) (by omega), br_t (by rw [c7]; unfold nb at hk; omega) ⟨?_, rfl⟩⟩
      rw [hs, show k = nb N by omega]; rfl
    | succ dd ih =>
      intro k s hk hs
      have hk7 : k < 7 ∧ (k : Int) < N 12 := by unfold nb at hk; omega
      have b2 := (hI.b hk7.1).2.2.1
      have c2 : t 4 k = bt N k 2 := (hC.2 k hk7.1 hk7.2).2.2.1
      have din := donN_in (up N 6 l) k
      have nx : ∀ s2 : Int, s2 = wtS N (donN (up N 6 l)) h (k + 1) → V G mX5_herdWaits 4 [(0, RR 0), (1, II h), (2, II s2), (3, II ((k : Int) + 1))] [] t (Ret (wtN N h l) t) := fun s2 q => ih (k + 1) s2 (by omega) q
      refine sgX5_herdWaits_4 ⟨i32 (by omega) (by omega), by rw [c7]; exact i32 (by omega) (by omega), br_f (by rw [c7]; omega) ⟨by omega, ?_⟩⟩
      rw [Int.toNat_natCast, c2, c6, hD k hk7.1 (by omega)]
      refine ⟨i32 (by omega) (by omega), hh1, ?_⟩
      by_cases z : bt N k 2 = h
      · refine nb_f z ⟨i32 (by omega) (by omega), ?_⟩
        by_cases y : (k : Int) = N 10
        · refine br_t y (nx _ ?_)
          unfold wtS; rw [if_neg (fun q => q.2 y), hs, Int.add_zero]
        · refine br_f y ⟨i32 (by omega) (by omega), fun w ew => nx _ ?_⟩
          unfold wtS; rw [if_pos ⟨z, y⟩, hs, ew]
      · refine nb_t z (nx _ ?_)
        unfold wtS; rw [if_neg (fun q => z q.1), hs, Int.add_zero]
  exact eX5_herdWaits (sgX5_herdWaits_0 (lp (nb N) 0 0 (by omega) rfl))
theorem x_waits {h l : Int} (hh : In32 h) (hl : In32 l) (hC : CampR t 1 N) (hM : MomR t 7 N) (hI : Inv m N) (hm : m + 241 ≤ 20000) : Ex G mX5_waits [RR 0, II h, II l] t (fun r u => r = waiN N h l ∧ FrX t u) := by
  refine eX5_waits (sgX5_waits_0 ?_)
  by_cases c : 0 ≤ h ∧ h ≤ 1
  · refine ck (x_out0 (iL rfl) (iL rfl) c) ⟨iL rfl, nb_f rfl ?_⟩
    by_cases d : 0 ≤ l ∧ l ≤ 3
    · refine ck (x_out0 (iL rfl) (iL rfl) d) ⟨iL rfl, br_t rfl (cqv (x_foretellDone d hC hM hI hm) (fun u hu => ?_))⟩
      exact ck (x_herdWaits hh (hC.kept (fun x _ _ => hu.2 x (by omega))) hI hu.1) ⟨by unfold waiN; rw [if_pos ⟨c, d⟩], hu.2⟩
    · exact ck (x_out1 hl (iL rfl) (iL rfl) d) ⟨iL rfl, br_f (by decide) ⟨by unfold waiN; rw [if_neg (fun q => d q.2)], FrX.rf t⟩⟩
  · exact ck (x_out1 hh (iL rfl) (iL rfl) c) ⟨iL rfl, nb_t (by decide) ⟨by unfold waiN; rw [if_neg (fun q => c q.1)], FrX.rf t⟩⟩
theorem wtS_two {N D : Nat → Int} (hD : ∀ b, D b = -4 ∨ (0 ≤ D b ∧ D b ≤ 240)) : ∀ k : Nat, wtS N D 0 k + wtS N D 1 k ≤ 240 * k
  | 0 => by unfold wtS; omega
  | k + 1 => by
    have ih := wtS_two (N := N) hD k
    have := hD k
    unfold wtS
    split <;> split <;> (try split) <;> omega
theorem scN_bd (hI : Inv m N) (b : Int) (l : Nat) : scN N b l ≤ 1680 := by
  have hh := hI.h
  unfold InH at hh
  have h0 := wtN_in hI 0 l
  have h1 := wtN_in hI 1 l
  have := wtS_two (N := N) (donN_in (up N 6 (l : Int))) (nb N)
  change wtN N 0 l + wtN N 1 l ≤ _ at this
  unfold nb at this
  unfold scN
  split <;> omega
theorem x_bestLaw {v b : Int} (hv : In32 v) (hb : b = 0 ∨ b = 1) (hC : CampR t 1 N) (hM : MomR t 7 N) (hI : Inv m N) (hm : m + 241 ≤ 20000) : Ex G mX5_bestLaw [RR 0, II v, II b] t (fun r u => r = bstN N b v ∧ FrX t u) := by
  refine eX5_bestLaw (sgX5_bestLaw_0 ?_)
  by_cases c : 0 ≤ v ∧ v ≤ 1
  · refine ck (x_out0 (iL rfl) (iL rfl) c) ⟨iL rfl, br_t rfl ?_⟩
    have lp : ∀ (dd k : Nat) (u : Mem) (x y : Int), k + dd = 4 → ((k = 0 ∧ x = 0 ∧ y = 1681) ∨ (0 < k ∧ (x, y) = lbS (scN N b) k ∧ 0 ≤ y ∧ y ≤ 1680)) → FrX t u → V G mX5_bestLaw 21 [(0, RR 0), (1, II v), (2, II b), (3, II x), (4, II y), (5, II (k : Int))] [] u (fun r u => r = bstN N b v ∧ FrX t u) := by
      intro dd
      induction dd with
      | zero =>
        intro k u x y hk hxy hF
        have e : k = 4 := by omega
        subst e
        rcases hxy with ⟨q, -⟩ | ⟨-, hxy, -⟩
        · exact absurd q (by decide)
        · refine sgX5_bestLaw_21 ⟨i32 (by omega) (by omega), br_t (by omega) ⟨hv, fun w hw => ⟨?_, hF⟩⟩⟩
          rw [hw]; unfold bstN pck; rw [if_pos c, ← hxy]
      | succ dd ih =>
        intro k u x y hk hxy hF
        have hy : 0 ≤ y ∧ y ≤ 1681 := by omega
        have Cu : CampR u 1 N := hC.kept (fun x _ _ => hF x (by omega))
        have Mu : MomR u 7 N := hM.kept (fun x _ _ => hF x (by omega))
        have w0 := wtN_in hI 0 (k : Int)
        have w1 := wtN_in hI 1 (k : Int)
        have s1 := scN_in hI b k
        have s2 := scN_bd hI b k
        have yes : scN N b k < y → (((k : Int), scN N b k) = lbS (scN N b) (k + 1)) := by
          intro q
          show _ = if (lbS (scN N b) k).2 < 0 ∨ scN N b k < (lbS (scN N b) k).2 then ((k : Int), scN N b k) else lbS (scN N b) k
          rcases hxy with ⟨k0, -⟩ | ⟨-, hxy, -⟩
          · subst k0; rfl
          · rw [← hxy, if_pos (Or.inr q)]
        have no : y ≤ scN N b k → 0 < k ∧ (x, y) = lbS (scN N b) (k + 1) ∧ y ≤ 1680 := by
          intro q
          show _ ∧ _ = (if (lbS (scN N b) k).2 < 0 ∨ scN N b k < (lbS (scN N b) k).2 then ((k : Int), scN N b k) else lbS (scN N b) k) ∧ _
          rcases hxy with ⟨k0, -, z⟩ | ⟨k0, hxy, z⟩
          · omega
          · refine ⟨k0, ?_, z.2⟩
            rw [← hxy, if_neg (by simp; omega)]
        refine sgX5_bestLaw_21 ⟨i32 (by omega) (by omega), br_f (by omega) (cqv (x_foretellDone (by omega) Cu Mu hI hm) (fun u11 h11 => ?_))⟩
        have C11 : CampR u11 1 N := Cu.kept (fun x _ _ => h11.2 x (by omega))
        have F11 := hF.tr h11.2
        refine ck (x_herdWaits (iL rfl) C11 hI h11.1) (ck (x_herdWaits (iL rfl) C11 hI h11.1) ⟨by rcases hb with rfl | rfl <;> exact iL rfl, ?_⟩)
        by_cases z : b = 0
        · have es : wtN N 0 (k : Int) + wtN N 1 (k : Int) = scN N b k := by unfold scN; rw [if_pos z]
          refine br_t z ?_
          rw [es]
          refine ⟨i32 (by omega) (by omega), i32 (by omega) (by omega), ?_⟩
          by_cases q : y ≤ scN N b k
          · exact br_t q (ih (k + 1) u11 x y (by omega) (Or.inr ⟨by omega, (no q).2.1, hy.1, (no q).2.2⟩) F11)
          · exact br_f q (ih (k + 1) u11 k _ (by omega) (Or.inr ⟨by omega, yes (by omega), s1.1, s2⟩) F11)
        · have es : max (wtN N 0 (k : Int)) (wtN N 1 (k : Int)) = scN N b k := by unfold scN; rw [if_neg z]
          refine br_f z ?_
          rw [es]
          refine ⟨i32 (by omega) (by omega), i32 (by omega) (by omega), i32 (by omega) (by omega), ?_⟩
          by_cases q : y ≤ scN N b k
          · exact br_t q (ih (k + 1) u11 x y (by omega) (Or.inr ⟨by omega, (no q).2.1, hy.1, (no q).2.2⟩) F11)
          · exact br_f q (ih (k + 1) u11 k _ (by omega) (Or.inr ⟨by omega, yes (by omega), s1.1, s2⟩) F11)
    exact lp 4 0 t 0 1681 (by omega) (Or.inl ⟨rfl, rfl, rfl⟩) (FrX.rf t)
  · exact ck (x_out1 hv (iL rfl) (iL rfl) c) ⟨iL rfl, br_f (by decide) ⟨by unfold bstN; rw [if_neg c], FrX.rf t⟩⟩
theorem x_least {v : Int} (hv : In32 v) (hC : CampR t 1 N) (hM : MomR t 7 N) (hI : Inv m N) (hm : m + 241 ≤ 20000) : Ex G mX5_least [RR 0, II v] t (fun r u => r = bstN N 0 v ∧ FrX t u) := eX5_least (sgX5_least_0 (cq (x_bestLaw hv (Or.inl rfl) hC hM hI hm) (fun _ _ h => h)))
theorem x_both {v : Int} (hv : In32 v) (hC : CampR t 1 N) (hM : MomR t 7 N) (hI : Inv m N) (hm : m + 241 ≤ 20000) : Ex G mX5_both [RR 0, II v] t (fun r u => r = bstN N 1 v ∧ FrX t u) := eX5_both (sgX5_both_0 (cq (x_bestLaw hv (Or.inr rfl) hC hM hI hm) (fun _ _ h => h)))
end XG
