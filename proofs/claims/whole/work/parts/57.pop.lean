/-! how many are in a set -/
def pcN (x : Nat) : Nat := ((List.range 7).filter (fun i => x.testBit i)).length
theorem pc_strip : ∀ x : Nat, x < 128 → 0 < x → (iAnd (x : Int) ((x : Int) - 1) = ((x &&& (x - 1) : Nat) : Int) ∧ (x &&& (x - 1)) < x ∧ pcN (x &&& (x - 1)) + 1 = pcN x) := by decide +kernel
theorem pc_7 : ∀ x : Nat, x < 128 → pcN x ≤ 7 := by decide +kernel
section PC
variable {G : GG} {t : Mem}
theorem x_bitCount {x : Nat} (hx : x < 128) : Ex G mJ6_bitCount_0f7a4 [II (x : Int)] t (Ret ((pcN x : Nat) : Int) t) := by
  refine eJ6_bitCount_0f7a4 (sgJ6_bitCount_0f7a4_0 ⟨?_, rfl⟩)
  revert hx
  revert x
  decide +kernel
theorem c_many {x : Nat} (hx : x < 128) : Ex G mX6_many [II (x : Int)] t (Ret ((pcN x : Nat) : Int) t) := by
  have lp : ∀ (y : Nat) (c : Nat), y < 128 → c + pcN y = pcN x → V G mX6_many 4 [(0, II (x : Int)), (1, II (c : Int)), (2, II (y : Int))] [] t (Ret ((pcN x : Nat) : Int) t) := by
    intro y
    induction y using Nat.strongRecOn with
    | _ y ih =>
      intro c hy hc
      refine sgX6_many_4 ⟨i32 (by omega) (by omega), ?_⟩
      by_cases z : y = 0
      · subst z
        refine br_t rfl ⟨?_, rfl⟩
        rw [show pcN 0 = 0 from rfl] at hc
        omega
      · obtain ⟨a, b, d⟩ := pc_strip y hy (by omega)
        refine br_f (by omega) ?_
        rw [a]
        exact ih (y &&& (y - 1)) b (c + 1) (by omega) (by omega)
  exact eX6_many (sgX6_many_0 (lp x 0 hx (by omega)))
end PC
