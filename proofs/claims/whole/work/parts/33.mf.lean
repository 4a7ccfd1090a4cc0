/-! the reference: what is foretold -/
def SmB (M N : Nat → Int) : Prop := M 12 = N 12 ∧ ∀ b, b < 7 → bt M b 0 = bt N b 0 ∧ bt M b 1 = bt N b 1 ∧ bt M b 2 = bt N b 2
theorem SmB.same {M N : Nat → Int} (h : SmB M N) (o : Int) : Same (up M 6 o) (up N 6 o) := ⟨by rw [up_s, up_s], by rw [up_n (by omega), up_n (by omega)]; exact h.1, fun b hb => by rw [bt_up_lo (by omega), bt_up_lo (by omega), bt_up_lo (by omega), bt_up_lo (by omega), bt_up_lo (by omega), bt_up_lo (by omega)]; exact h.2 b hb⟩
theorem Kp.smB {A B N : Nat → Int} (h : Kp A B) (g : SmB A N) : SmB B N := ⟨by rw [h.1.2.2.2.2.2.2.2, g.1], fun b hb => by rw [(h.2 b hb).1, (h.2 b hb).2.1, (h.2 b hb).2.2]; exact g.2 b hb⟩
theorem SmB.rf (N : Nat → Int) : SmB N N := ⟨rfl, fun _ _ => ⟨rfl, rfl, rfl⟩⟩
/-- while it is foretold: now is M, N lies aside -/
def FrM (t u : Mem) : Prop := (∀ j, j ≠ 2 → u 132 j = t 132 j) ∧ ∀ x, x ≠ 132 → x ≠ 133 → x ≠ 134 → x ≠ 136 → x ≠ 137 → u x = t x
theorem FrM.rf (t : Mem) : FrM t t := ⟨fun _ _ => rfl, fun _ _ _ _ _ _ => rfl⟩
theorem FrM.tr {t u w : Mem} (h : FrM t u) (g : FrM u w) : FrM t w := ⟨fun j hj => by rw [g.1 j hj, h.1 j hj], fun x a b c d e => by rw [g.2 x a b c d e, h.2 x a b c d e]⟩
def FtM (t u : Mem) (N M : Nat → Int) : Prop := u 133 = M ∧ (∀ j, j < 63 → u 136 j = N j) ∧ (∀ j, 63 ≤ j → M j = N j) ∧ (SmB M N ∧ N 12 ≤ 7) ∧ OrdI u ∧ FrM t u
section MF
variable {G : GG} {t : Mem} {m : Int}
theorem c_asides : Ex G mX6_asides [RR 132] t (Ret 0 (row t 136 (fun j => if j < 63 then t 133 j else t 136 j))) := by
  have lp : ∀ (dd k : Nat), k + dd = 63 → V G mX6_asides 2 [(0, RR 132), (1, II (k : Int))] [] (row t 136 (fun j => if j < k then t 133 j else t 136 j)) (Ret 0 (row t 136 (fun j => if j < 63 then t 133 j else t 136 j))) := by
    intro dd
    induction dd with
    | zero =>
      intro k hk
      refine sgX6_asides_2 ⟨i32 (by omega) (by omega), br_t (by omega) ⟨rfl, ?_⟩⟩
      rw [show k = 63 by omega]
    | succ dd ih =>
      intro k hk
      refine sgX6_asides_2 ⟨i32 (by omega) (by omega), br_f (by omega) ⟨by omega, fun u3 e3 => ?_⟩⟩
      have := ih (k + 1) (by omega)
      rw [Int.toNat_natCast, row_n (by decide), wr_row, row_s, row_row] at e3
      rw [e3]
      have e : up (fun j => if j < k then t 133 j else t 136 j) k (t 133 k) = fun j => if j < k + 1 then t 133 j else t 136 j := by
        funext j; unfold up
        by_cases c : j = k
        · rw [if_pos c, if_pos (by omega), c]
        · rw [if_neg c]; dsimp only; by_cases d : j < k
          · rw [if_pos d, if_pos (by omega)]
          · rw [if_neg d, if_neg (by omega)]
      rw [e]; exact this
  have := lp 63 0 (by omega)
  rw [show (fun j => if j < 0 then t 133 j else t 136 j) = t 136 from by funext j; simp, row_same] at this
  exact eX6_asides (sgX6_asides_0 this)
theorem c_backs : Ex G mX6_backs [RR 132] t (Ret 0 (row t 133 (fun j => if j < 63 then t 136 j else t 133 j))) := by
  have lp : ∀ (dd k : Nat), k + dd = 63 → V G mX6_backs 2 [(0, RR 132), (1, II (k : Int))] [] (row t 133 (fun j => if j < k then t 136 j else t 133 j)) (Ret 0 (row t 133 (fun j => if j < 63 then t 136 j else t 133 j))) := by
    intro dd
    induction dd with
    | zero =>
      intro k hk
      refine sgX6_backs_2 ⟨i32 (by omega) (by omega), br_t (by omega) ⟨rfl, ?_⟩⟩
      rw [show k = 63 by omega]
    | succ dd ih =>
      intro k hk
      refine sgX6_backs_2 ⟨i32 (by omega) (by omega), br_f (by omega) ⟨by omega, fun u3 e3 => ?_⟩⟩
      have := ih (k + 1) (by omega)
      rw [Int.toNat_natCast, row_n (by decide), wr_row, row_s, row_row] at e3
      rw [e3]
      have e : up (fun j => if j < k then t 136 j else t 133 j) k (t 136 k) = fun j => if j < k + 1 then t 136 j else t 133 j := by
        funext j; unfold up
        by_cases c : j = k
        · rw [if_pos c, if_pos (by omega), c]
        · rw [if_neg c]; dsimp only; by_cases d : j < k
          · rw [if_pos d, if_pos (by omega)]
          · rw [if_neg d, if_neg (by omega)]
      rw [e]; exact this
  have := lp 63 0 (by omega)
  rw [show (fun j => if j < 0 then t 136 j else t 133 j) = t 133 from by funext j; simp, row_same] at this
  exact eX6_backs (sgX6_backs_0 this)
theorem ft_begin (hI : Inv m (t 133)) (hO : OrdI t) : FtM t (row t 136 (fun j => if j < 63 then t 133 j else t 136 j)) (t 133) (t 133) := by
  have hh := hI.h
  unfold InH at hh
  refine ⟨row_n (by decide), fun j hj => by rw [row_s, if_pos hj], fun _ _ => rfl, ⟨SmB.rf _, by omega⟩, ?_, fun j _ => by rw [row_n (by decide)], fun x _ _ _ d _ => row_n d⟩
  unfold OrdI OrdR at hO ⊢
  rw [row_n (by decide), row_n (by decide), row_n (by decide)]; exact hO
theorem ft_end {t0 : Mem} {N M : Nat → Int} (h : FtM t0 t N M) : FtM t0 (row t 133 (fun j => if j < 63 then t 136 j else t 133 j)) N N := by
  obtain ⟨h1, h2, h3, ⟨h4, h5⟩, h6, h7⟩ := h
  have e : (fun j => if j < 63 then t 136 j else t 133 j) = N := by
    funext j
    by_cases c : j < 63
    · rw [if_pos c, h2 j c]
    · rw [if_neg c, h1, h3 j (by omega)]
  rw [e]
  refine ⟨row_s, fun j hj => by rw [row_n (by decide)]; exact h2 j hj, fun _ _ => rfl, ⟨SmB.rf _, h5⟩, ?_, fun j hj => by rw [row_n (by decide)]; exact h7.1 j hj, fun x a b c d f => by rw [row_n b]; exact h7.2 x a b c d f⟩
  unfold OrdI at h6 ⊢
  rw [row_n (by decide), row_s]
  refine ⟨h6.1, h6.2.1, fun q => ?_⟩
  have := h6.2.2 q
  rw [h1] at this
  have hs := this.same (h4.same (t 132 2)) (by rw [up_n (by omega)]; rw [h4.1]; exact h5)
  intro k hk
  rw [row_n (by decide)]; exact hs k hk
theorem ft_goes {t0 : Mem} {N M : Nat → Int} {l : Int} (h : FtM t0 t N M) (hI : Inv m M) (hm : m + 1 ≤ 20000) : Ex G mX6_goes [RR 132, II 0, II l] t (fun _ u => FtM t0 u N (goN 0 l M) ∧ u 137 = t 137) := by
  obtain ⟨h1, h2, h3, ⟨h4, h5⟩, h6, h7⟩ := h
  have c := c_goes (G := G) (t := t) (m := m) (d := 0) (l := l) (by rw [h1]; exact hI) hm (Or.inl rfl) h6
  obtain ⟨P, hP, hk⟩ := cq (R := fun _ u => FtM t0 u N (goN 0 l M) ∧ u 137 = t 137) c (fun r u hu => by
    obtain ⟨-, hu⟩ := hu
    rw [h1] at hu
    have kp := goN_kp 0 l M
    have hh := hI.h
    unfold InH at hh
    have e0 : eK 0 M = 0 := by unfold eK wK; split; split; rw [if_pos rfl]; rfl; rfl
    have ho := hu.ordI (by rw [kp.1.2.2.2.2.2.1]; omega)
    obtain ⟨g1, g2, -, g4⟩ := hu
    rw [e0] at g2
    refine ⟨⟨g1, fun j hj => by rw [g4 136 (by decide) (by decide) (by decide)]; exact h2 j hj, fun j hj => by rw [goN_hi hI hm hj, h3 j hj], ⟨kp.smB h4, h5⟩, ho, fun j hj => ?_, fun x a b c d f => by rw [g4 x a b c]; exact h7.2 x a b c d f⟩, g4 137 (by decide) (by decide) (by decide)⟩
    rw [g2 j hj, up_0]; exact h7.1 j hj)
  exact Ex.mono hP hk
end MF
