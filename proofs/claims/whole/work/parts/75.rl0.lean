/-! the memory behind both constructors ties class and reference -/
theorem t0_7 {k j : Nat} (h : ky k = 7) (h2 : k ≠ 133) (h3 : k ≠ 141) : t0 k j = 0 := by
  unfold t0
  rw [if_neg (by rw [h]; decide), if_neg (by rw [h]; decide), if_neg (by rw [h]; decide)]
  by_cases e : k = 132
  · exfalso; rw [e] at h; revert h; decide +kernel
  · rw [if_neg e, if_neg h2, if_neg h3]
theorem t0_now (j : Nat) : t0 133 j = (if j = 0 then 30 else if j = 1 then 4 else if j = 2 then 10 else if j = 3 then 4 else if j = 4 then 3 else if j = 10 then -4 else if j = 13 then 1 else 0) := by
  unfold t0
  rw [if_neg (by decide +kernel), if_neg (by decide +kernel), if_neg (by decide +kernel), if_neg (by decide), if_pos rfl]
theorem t0_bt (b w : Nat) : bt (t0 133) b w = 0 := by
  unfold bt
  rw [t0_now, if_neg (by omega), if_neg (by omega), if_neg (by omega), if_neg (by omega), if_neg (by omega), if_neg (by omega), if_neg (by omega)]
theorem t0_inv : Inv 0 (t0 133) := by
  refine ⟨by decide, ?_, fun b hb => ?_, fun b hb hn => ?_, fun b hb hn => ?_⟩
  · unfold InH
    rw [t0_now 0, t0_now 1, t0_now 2, t0_now 3, t0_now 4, t0_now 5, t0_now 6, t0_now 7, t0_now 8, t0_now 9, t0_now 10, t0_now 11, t0_now 12, t0_now 13]
    simp
  · unfold InB need mk5
    rw [t0_bt, t0_bt, t0_bt, t0_bt, t0_bt, t0_bt, t0_bt]
    simp
  · rw [t0_bt, t0_bt, t0_bt, t0_bt]; exact ⟨rfl, rfl, rfl, rfl⟩
  · rw [t0_now 12] at hn
    simp at hn
    omega
theorem rel0 : Rel t0 := by
  have e11 : t0 133 11 = 0 := by rw [t0_now]; rfl
  have e12 : t0 133 12 = 0 := by rw [t0_now]; rfl
  have m1 : t0 132 2 = -1 := by decide +kernel
  refine ⟨by rw [e11]; exact t0_inv, by rw [e11]; decide, ?_, ?_, ?_, ?_, ?_, ?_, fun k hk => ?_⟩
  · unfold OrdI
    rw [m1]
    exact ⟨by decide, by decide, fun q => absurd q (by decide)⟩
  · refine ⟨by decide +kernel, fun b hb hn => ?_⟩
    rw [e12] at hn; omega
  · refine ⟨by decide +kernel, fun b hb => ?_⟩
    rw [t0_bt, t0_bt, t0_bt, t0_bt, t0_7 (by decide +kernel) (by decide) (by decide), t0_7 (by decide +kernel) (by decide) (by decide), t0_7 (by decide +kernel) (by decide) (by decide), t0_7 (by decide +kernel) (by decide) (by decide)]
    exact ⟨rfl, rfl, rfl, rfl⟩
  · exact ⟨0, 0, ⟨by decide, by decide, by decide +kernel, by decide +kernel, by decide +kernel⟩, fun i hi => absurd hi (Nat.not_lt_zero i)⟩
  · exact Or.inl ⟨by decide +kernel, by decide +kernel⟩
  · exact ⟨0, by decide, by decide +kernel, by decide +kernel, fun i hi => absurd hi (Nat.not_lt_zero i)⟩
  · have h := (by decide +kernel : ∀ k, k < 4 → t0 (124 + 2 * k) 0 = t0 141 k ∧ t0 141 k = -1) k hk
    refine ⟨h.1, ?_, fun q => ?_⟩
    · rw [h.2]; decide
    · rw [h.2] at q; exact absurd q (by decide)
theorem rep0 {G : GG} {E : BE} {H : Heap} (h : BRep G 145 E H) (he : ∀ k, k < 145 → E k = ent G t0 k) : Rep G t0 H := h.ext (F := ent G t0) (fun k hk => (he k hk).symm)
