/-! the law's loop -/
theorem x64 (x : Int64) : In64 x.toInt := ⟨by have := Int64.le_toInt x; omega, by have := Int64.toInt_lt x; omega⟩
section LAW
variable {G : GG}
theorem law_case {mx mr : MI} {ax ar : List VV} {t : Mem} {v3 : Int} {Q : Int → Mem → Prop} (s : Step G mx ax mr ar t) (k : ∀ w, Rel w → V G mL_law 18 [(0, RR 900), (1, RR 0), (2, RR 132), (3, II (v3 + 6))] [] w Q) : ∃ P : Int → Mem → Prop, Ex G mx ax t P ∧ ∀ (r : Int) (u : Mem), P r u → ∃ P9 : Int → Mem → Prop, Ex G mr ar u P9 ∧ ∀ (r2 : Int) (w : Mem), P9 r2 w → In32 r ∧ In32 r2 ∧ (r = r2 → V G mL_law 18 [(0, RR 900), (1, RR 0), (2, RR 132), (3, II (v3 + 6))] [] w Q) ∧ (¬ r = r2 → Q 0 w) := by
  obtain ⟨v, P, hv, hx, hm⟩ := s
  exact ⟨_, hx, fun r u h => ⟨_, hm u h.2, fun r2 w h2 => ⟨by rw [h.1]; exact hv, by rw [h2.1]; exact hv, fun _ => k w h2.2, fun q => absurd (h.1.trans h2.1.symm) q⟩⟩⟩
theorem law_loop (h4 : gN G 4 ≤ 384) : ∀ (d : Nat) (v3 : Int) (t : Mem), 0 ≤ v3 → v3 ≤ gN G 4 → (gN G 4 : Int) ≤ v3 + 6 * d → Rel t → V G mL_law 18 [(0, RR 900), (1, RR 0), (2, RR 132), (3, II v3)] [] t (fun r _ => r = 1) := by
  intro d
  induction d with
  | zero =>
    intro v3 t h0 h1 h2 hR
    exact sgL_law_18 ⟨i32 (by omega) (by omega), i32 (by omega) (by omega), br_t (by omega) rfl⟩
  | succ d ih =>
    intro v3 t h0 h1 h2 hR
    refine sgL_law_18 ⟨i32 (by omega) (by omega), i32 (by omega) (by omega), ?_⟩
    by_cases c : (gN G 4 : Int) - 6 < v3
    · exact br_t c rfl
    have nx : ∀ w, Rel w → V G mL_law 18 [(0, RR 900), (1, RR 0), (2, RR 132), (3, II (v3 + 6))] [] w (fun r _ => r = 1) := fun w hw => ih (v3 + 6) w (by omega) (by omega) (by omega) hw
    refine br_f c ⟨by omega, x32 _, ?_⟩
    exact ⟨fun _ => sgL_law_172 ⟨by omega, by omega, by omega, law_case (s_beast (x32 _) (x32 _) (x32 _) hR) nx⟩,
      fun _ => sgL_law_215 ⟨by omega, by omega, law_case (s_of (x32 _) (x32 _) hR) nx⟩,
      fun _ => sgL_law_248 ⟨by omega, by omega, law_case (s_well (x32 _) (x32 _) hR) nx⟩,
      fun _ => sgL_law_281 ⟨by omega, law_case (s_pull (x32 _) hR) nx⟩,
      fun _ => sgL_law_304 ⟨by omega, law_case (s_turn (x32 _) hR) nx⟩,
      fun _ => sgL_law_327 ⟨by omega, law_case (s_type (x32 _) hR) nx⟩,
      fun _ => sgL_law_350 (law_case (s_caravan hR) nx),
      fun _ => sgL_law_363 ⟨by omega, law_case (s_count (x32 _) hR) nx⟩,
      fun _ => sgL_law_386 ⟨by omega, law_case (s_minutes (x32 _) hR) nx⟩,
      fun _ => sgL_law_409 ⟨by omega, law_case (s_drift (x32 _) hR) nx⟩,
      fun _ => sgL_law_432 (law_case (s_undo hR) nx),
      fun _ => sgL_law_445 ⟨by omega, law_case (s_seed (x32 _) hR) nx⟩,
      fun _ => sgL_law_468 ⟨by omega, law_case (s_water (x32 _) hR) nx⟩,
      fun _ => sgL_law_491 ⟨by omega, law_case (s_done (x32 _) hR) nx⟩,
      fun _ => sgL_law_514 (law_case (s_all hR) nx),
      fun _ => sgL_law_527 ⟨by omega, law_case (s_height (x32 _) hR) nx⟩,
      fun _ => sgL_law_550 ⟨by omega, law_case (s_pulls (x32 _) hR) nx⟩,
      fun _ => sgL_law_573 ⟨by omega, by omega, law_case (s_waits (x32 _) (x32 _) hR) nx⟩,
      fun _ => sgL_law_606 ⟨by omega, law_case (s_least (x32 _) hR) nx⟩,
      fun _ => sgL_law_629 ⟨by omega, law_case (s_both (x32 _) hR) nx⟩,
      fun _ => sgL_law_652 ⟨by omega, by omega, law_case (s_wholly (x32 _) (x32 _) hR) nx⟩,
      fun _ => sgL_law_685 ⟨by omega, by omega, law_case (s_drank (x32 _) (x32 _) hR) nx⟩,
      fun _ => sgL_law_718 ⟨by omega, law_case (s_holds (x32 _) hR) nx⟩,
      fun _ => sgL_law_741 (law_case (s_image hR) nx),
      fun _ => sgL_law_754 (law_case (s_restore hR) nx),
      fun _ => sgL_law_767 ⟨by omega, by omega, by omega, by omega, law_case (s_buckets (x32 _) (x32 _) (x32 _) (x32 _) hR) nx⟩,
      fun _ => sgL_law_820 ⟨by omega, by omega, by omega, by omega, law_case (s_film (x32 _) (x32 _) (x32 _) (x32 _) hR) nx⟩,
      fun _ => sgL_law_873 ⟨by omega, by omega, by omega, law_case (s_sheet (x32 _) (x32 _) (x32 _) hR) nx⟩,
      fun _ => sgL_law_916 ⟨by omega, law_case (s_drop (x32 _) hR) nx⟩,
      fun _ => sgL_law_939 ⟨by omega, by omega, by omega, by omega, by omega, law_case (s_item (x32 _) (x32 _) (x32 _) (x64 _) hR) nx⟩,
      fun _ => sgL_law_1022 ⟨by omega, by omega, by omega, by omega, by omega, law_case (s_copy (x32 _) (x32 _) (x32 _) (x32 _) (x32 _) hR) nx⟩,
      fun _ => nx t hR⟩
end LAW
