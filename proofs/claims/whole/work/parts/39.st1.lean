/-! steps that only look -/
section ST
variable {G : GG} {t : Mem}
theorem Step.look {mx mr : MI} {ax ar : List VV} {v : Int} (hR : Rel t) (hv : In32 v) (hx : Ex G mx ax t (fun r u => r = v ∧ FrX t u)) (hm : ∀ u, u 133 = t 133 → Rel u → Ex G mr ar u (fun r w => r = v ∧ Bk u w)) : Step G mx ax mr ar t := by
  refine ⟨v, FrX t, hv, hx, fun u hu => ?_⟩
  have hRu := hR.lookX hu
  exact Ex.mono (hm u (hu 133 (by omega)) hRu) (fun r w hw => ⟨hw.1, hRu.lookM hw.2⟩)
theorem s_water {v : Int} (hv : In32 v) (hR : Rel t) : Step G mX5_water [RR 0, II v] mX6_water [RR 132, II v] t := by
  have := hR.mn
  refine Step.look hR ?_ (x_water hv hR.camp hR.mom hR.inv (by omega)) (fun u e hu => by rw [← e]; exact c_water hv hu.inv hu.ord (by have := hu.mn; omega))
  unfold watN
  split
  · rename_i c
    have := (itN_inv (l := 127) hR.inv v.toNat (by omega)).h
    unfold InH at this
    exact i32 (by omega) (by omega)
  · exact iL rfl
theorem s_done {v : Int} (hv : In32 v) (hR : Rel t) : Step G mX5_done [RR 0, II v] mX6_done [RR 132, II v] t := by
  have := hR.mn
  refine Step.look hR ?_ (x_done hv hR.camp hR.mom hR.inv (by omega)) (fun u e hu => by rw [← e]; exact c_done hv hu.inv hu.ord (by have := hu.mn; omega))
  unfold dneN
  have := donN_in (t 133) v.toNat
  split
  · exact i32 (by omega) (by omega)
  · exact iL rfl
theorem s_all (hR : Rel t) : Step G mX5_all [RR 0] mX6_all [RR 132] t := by
  have := hR.mn
  have := allF_in (t 133)
  exact Step.look hR (i32 (by omega) (by omega)) (x_all hR.camp hR.mom hR.inv (by omega)) (fun u e hu => by rw [← e]; exact c_all hu.inv hu.ord (by have := hu.mn; omega))
theorem bst_i32 {f g : Nat → Int} (hf : ∀ i, f i = -4 ∨ (0 ≤ f i ∧ f i ≤ 240)) (hg : ∀ i : Nat, -4 ≤ g i ∧ g i ≤ i + 7) : ∀ k : Nat, -4 ≤ (bst f g k).1 ∧ (bst f g k).1 ≤ k + 7
  | 0 => by unfold bst; omega
  | k + 1 => by
    have := bst_i32 hf hg k
    have := hg k
    unfold bst
    split
    · omega
    · split <;> omega
theorem s_height {v : Int} (hv : In32 v) (hR : Rel t) : Step G mX5_height [RR 0, II v] mX6_height [RR 132, II v] t := by
  have := hR.mn
  refine Step.look hR ?_ (x_height hv hR.camp hR.mom hR.inv (by omega)) (fun u e hu => by rw [← e]; exact c_height hv hu.inv hu.ord (by have := hu.mn; omega))
  have hf : ∀ i, hgF (t 133) i = -4 ∨ (0 ≤ hgF (t 133) i ∧ hgF (t 133) i ≤ 240) := fun i => allF_in (up (t 133) 5 (i : Int))
  have a := bst_in (g := fun h => (h : Int)) hf 61
  have b := bst_i32 (g := fun h => (h : Int)) hf (fun i => by omega) 61
  unfold hgtN pck
  split
  · split <;> exact i32 (by omega) (by omega)
  · exact iL rfl
theorem s_pulls {v : Int} (hv : In32 v) (hR : Rel t) : Step G mX5_pulls [RR 0, II v] mX6_pulls [RR 132, II v] t := by
  have := hR.mn
  refine Step.look hR ?_ (x_pulls hv hR.camp hR.mom hR.inv (by omega)) (fun u e hu => by rw [← e]; exact c_pulls hv hu.inv hu.ord (by have := hu.mn; omega))
  have hh := hR.inv.h
  unfold InH at hh
  have hf : ∀ i, plF (t 133) i = -4 ∨ (0 ≤ plF (t 133) i ∧ plF (t 133) i ≤ 240) := fun i => allF_in (up (t 133) 10 (plP i))
  have a := bst_in (g := plG) hf (nb (t 133) + 1)
  have b := bst_i32 (g := plG) hf (fun i => by unfold plG; split <;> omega) (nb (t 133) + 1)
  have n7 : nb (t 133) ≤ 7 := by unfold nb; omega
  unfold pulN pck
  split
  · split <;> exact i32 (by omega) (by omega)
  · exact iL rfl
theorem s_waits {h l : Int} (hh : In32 h) (hl : In32 l) (hR : Rel t) : Step G mX5_waits [RR 0, II h, II l] mX6_waits [RR 132, II h, II l] t := by
  have := hR.mn
  refine Step.look hR ?_ (x_waits hh hl hR.camp hR.mom hR.inv (by omega)) (fun u e hu => by rw [← e]; exact c_waits hh hl hu.inv hu.ord (by have := hu.mn; omega))
  have := wtN_in hR.inv h l
  unfold waiN
  split
  · exact i32 (by omega) (by omega)
  · exact iL rfl
theorem lbS_1 {s : Nat → Int} : ∀ k : Nat, 0 ≤ (lbS s k).1 ∧ (lbS s k).1 ≤ k
  | 0 => by unfold lbS; omega
  | k + 1 => by
    have := lbS_1 (s := s) k
    unfold lbS
    split
    · simp; omega
    · omega
theorem bstN_in {N : Nat → Int} {m : Int} (hI : Inv m N) (b v : Int) : In32 (bstN N b v) := by
  have a := lbS_in (K := 3360) (fun i => scN_in hI b i) (by omega) 4
  have c := lbS_1 (s := scN N b) 4
  unfold bstN pck
  split
  · split <;> exact i32 (by omega) (by omega)
  · exact iL rfl
theorem s_least {v : Int} (hv : In32 v) (hR : Rel t) : Step G mX5_least [RR 0, II v] mX6_least [RR 132, II v] t := by
  have := hR.mn
  exact Step.look hR (bstN_in hR.inv 0 v) (x_least hv hR.camp hR.mom hR.inv (by omega)) (fun u e hu => by rw [← e]; exact c_least hv hu.inv hu.ord (by have := hu.mn; omega))
theorem s_both {v : Int} (hv : In32 v) (hR : Rel t) : Step G mX5_both [RR 0, II v] mX6_both [RR 132, II v] t := by
  have := hR.mn
  exact Step.look hR (bstN_in hR.inv 1 v) (x_both hv hR.camp hR.mom hR.inv (by omega)) (fun u e hu => by rw [← e]; exact c_both hv hu.inv hu.ord (by have := hu.mn; omega))
end ST
