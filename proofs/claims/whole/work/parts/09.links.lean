theorem fwX0 : FW 0 RX0 TX0 14 := ⟨rfl, rfl, by decide, by decide +kernel⟩
theorem fwX1 : FW 1 RX1 TX1 10 := ⟨rfl, rfl, by decide, by decide +kernel⟩
theorem fwX2 : FW 2 RX2 TX2 3 := ⟨rfl, rfl, by decide, by decide +kernel⟩
theorem fwX3 : FW 3 RX3 TX3 3 := ⟨rfl, rfl, by decide, by decide +kernel⟩
theorem fwX4 : FW 4 RX4 TX4 4 := ⟨rfl, rfl, by decide, by decide +kernel⟩
theorem fwX5 : FW 5 RX5 TX5 14 := ⟨rfl, rfl, by decide, by decide +kernel⟩
theorem fwX6 : FW 6 RX6 TX6 20 := ⟨rfl, rfl, by decide, by decide +kernel⟩
theorem mxS : Cond.static Lib.Math.max.name ∈ lw_tbl := (List.mem_of_getElem? (i := 495) (by decide +kernel))
theorem mnS : Cond.static Lib.Math.min.name ∈ lw_tbl := (List.mem_of_getElem? (i := 480) (by decide +kernel))
theorem mxI : Cond.initialized "java/lang/Math" ∈ lw_tbl := (List.mem_of_getElem? (i := 66) (by decide +kernel))
theorem mxC : Cond.code Lib.Math.max.name Lib.Math.max.code 2 (some .int) ∈ lw_tbl := (List.mem_of_getElem? (i := 496) (by decide +kernel))
theorem mnC : Cond.code Lib.Math.min.name Lib.Math.min.code 2 (some .int) ∈ lw_tbl := (List.mem_of_getElem? (i := 481) (by decide +kernel))
theorem iL {z : Int} (h : decide (-2147483648 ≤ z ∧ z < 2147483648) = true) : In32 z := show -2147483648 ≤ z ∧ z < 2147483648 from of_decide_eq_true h
theorem jL {z : Int} (h : decide (-9223372036854775808 ≤ z ∧ z < 9223372036854775808) = true) : In64 z := show -9223372036854775808 ≤ z ∧ z < 9223372036854775808 from of_decide_eq_true h
theorem j32 {z : Int} (h : In32 z) : In64 z := ⟨by have := h.1; omega, by have := h.2; omega⟩
section LK
variable {G : GG} {M : MI} {pc pc2 : Nat} {ls : List (Nat × VV)} {st : List VV} {t : Mem} {Q : Int → Mem → Prop} {x v N : Int} {a b : Nat}
theorem V_ialdn (hk : ky a = 7) (hl : (ln a : Int) = N) (hx : 0 ≤ x ∧ x < N) (hd : decode M.2.1 pc = .ok (.iaload, 1)) (hp : pc + 1 = pc2) (k : V G M pc2 ls (II (t a x.toNat) :: st) t Q) : V G M pc ls (II x :: RR a :: st) t Q := V_iald hk (by rw [hl]; exact hx) hd hp k
theorem V_ialdL (j : Nat) (hj : x.toNat = j) (hk : ky a = 7) (hl : (ln a : Int) = N) (hx : decide (0 ≤ x ∧ x < N) = true) (hd : decode M.2.1 pc = .ok (.iaload, 1)) (hp : pc + 1 = pc2) (k : V G M pc2 ls (II (t a j) :: st) t Q) : V G M pc ls (II x :: RR a :: st) t Q := V_iald hk (by rw [hl]; exact of_decide_eq_true hx) hd hp (by rw [hj]; exact k)
theorem V_laldn (hk : ky a = 8) (hl : (ln a : Int) = N) (hx : 0 ≤ x ∧ x < N) (hd : decode M.2.1 pc = .ok (.laload, 1)) (hp : pc + 1 = pc2) (k : V G M pc2 ls (JJ (t a x.toNat) :: st) t Q) : V G M pc ls (II x :: RR a :: st) t Q := V_lald hk (by rw [hl]; exact hx) hd hp k
theorem V_iastn (hk : ky a = 7) (hl : (ln a : Int) = N) (hx : 0 ≤ x ∧ x < N) (hd : decode M.2.1 pc = .ok (.iastore, 1)) (hp : pc + 1 = pc2) (k : ∀ u, u = wr t a x.toNat v → V G M pc2 ls st u Q) : V G M pc ls (II v :: II x :: RR a :: st) t Q := V_iast hk (by rw [hl]; exact hx) hd hp k
theorem V_iastL (j : Nat) (hj : x.toNat = j) (hk : ky a = 7) (hl : (ln a : Int) = N) (hx : decide (0 ≤ x ∧ x < N) = true) (hd : decode M.2.1 pc = .ok (.iastore, 1)) (hp : pc + 1 = pc2) (k : ∀ u, u = wr t a j v → V G M pc2 ls st u Q) : V G M pc ls (II v :: II x :: RR a :: st) t Q := V_iast hk (by rw [hl]; exact of_decide_eq_true hx) hd hp (by rw [hj]; exact k)
theorem V_lastn (hk : ky a = 8) (hl : (ln a : Int) = N) (hx : 0 ≤ x ∧ x < N) (hd : decode M.2.1 pc = .ok (.lastore, 1)) (hp : pc + 1 = pc2) (k : ∀ u, u = wr t a x.toNat v → V G M pc2 ls st u Q) : V G M pc ls (JJ v :: II x :: RR a :: st) t Q := V_last hk (by rw [hl]; exact hx) hd hp k
theorem V_aaldn (hk : ky a = 9 ∨ ky a = 10) (hl : (ln a : Int) = N) (hx : 0 ≤ x ∧ x < N) (hb : rf a x.toNat = b) (hd : decode M.2.1 pc = .ok (.aaload, 1)) (hp : pc + 1 = pc2) (k : V G M pc2 ls (RR b :: st) t Q) : V G M pc ls (II x :: RR a :: st) t Q := V_aald hk (by rw [hl]; exact hx) hd hp (by rw [hb]; exact k)
theorem V_copyIn {N2 i j n : Int} {ix : Nat} (hL : Cond.methodLink M.1.cls ix arraycopyName ∈ lw_tbl) (hlev : 0 < M.2.2.2.2) (hw : vsz st ≤ 8) (hk : ky a = 7) (hk2 : ky b = 7) (hl : (ln a : Int) = N) (hl2 : (ln b : Int) = N2) (h : 0 ≤ i ∧ 0 ≤ j ∧ 0 ≤ n ∧ i + n ≤ N ∧ j + n ≤ N2) (hd : decode M.2.1 pc = .ok (.invokestatic ix, 3)) (hp : pc + 3 = pc2) (k : ∀ u, u = cpy t a i.toNat b j.toNat n.toNat → V G M pc2 ls st u Q) : V G M pc ls (II n :: II j :: RR b :: II i :: RR a :: st) t Q :=
  V_copyI hL hlev hw hk hk2 h.1 h.2.1 h.2.2.1 (by rw [hl]; exact h.2.2.2.1) (by rw [hl2]; exact h.2.2.2.2) hd hp k
theorem V_copyLn {N2 i j n : Int} {ix : Nat} (hL : Cond.methodLink M.1.cls ix arraycopyName ∈ lw_tbl) (hlev : 0 < M.2.2.2.2) (hw : vsz st ≤ 8) (hk : ky a = 8) (hk2 : ky b = 8) (hl : (ln a : Int) = N) (hl2 : (ln b : Int) = N2) (h : 0 ≤ i ∧ 0 ≤ j ∧ 0 ≤ n ∧ i + n ≤ N ∧ j + n ≤ N2) (hd : decode M.2.1 pc = .ok (.invokestatic ix, 3)) (hp : pc + 3 = pc2) (k : ∀ u, u = cpy t a i.toNat b j.toNat n.toNat → V G M pc2 ls st u Q) : V G M pc ls (II n :: II j :: RR b :: II i :: RR a :: st) t Q :=
  V_copyL hL hlev hw hk hk2 h.1 h.2.1 h.2.2.1 (by rw [hl]; exact h.2.2.2.1) (by rw [hl2]; exact h.2.2.2.2) hd hp k
theorem V_max {ix : Nat} {y : Int} (hL : Cond.methodLink M.1.cls ix Lib.Math.max.name ∈ lw_tbl) (hlev : 0 < M.2.2.2.2) (hw : vsz st ≤ 8) (hx : In32 x) (hy : In32 y) (hd : decode M.2.1 pc = .ok (.invokestatic ix, 3)) (hp : pc + 3 = pc2) (k : V G M pc2 ls (II (max x y) :: st) t Q) : V G M pc ls (II y :: II x :: st) t Q := by
  subst hp
  intro p e R s m args below meth c cl sl Z hc H locs la hR hS hl
  have hts := hc.2.2.2.2.1.1
  have hfr := hc.2.2.2.2.2.1
  have hlo := hc.2.2.2.2.2.2.1
  have k2 := k p e R s m args below meth c cl sl Z hc H locs la hR hS hl
  rw [List.map_cons, show rl G (II (max x y)) = .int (if Int32.ofInt x < Int32.ofInt y then Int32.ofInt y else Int32.ofInt x) from congrArg Value.int (by by_cases h : x < y; rw [if_pos ((oLt hx hy).mpr h), Int.max_eq_right (by omega)]; rw [if_neg (fun q => h ((oLt hx hy).mp q)), Int.max_eq_left (by omega)])] at k2
  exact va_mmax (rest := st.map (rl G)) hc.1 hc.2.1 (hc.2.2.1.trans hl.1.symm) hc.2.2.2.1 (hts _ hL rfl args) (hts (.static Lib.Math.max.name) mxS rfl args) (hts (.initialized "java/lang/Math") mxI rfl args) (hts _ mxC rfl args) (by omega) (by rw [vcs_rl]; omega) hc.2.2.2.2.2.2.2.1 hc.2.2.2.2.2.2.2.2.1 hd k2
theorem V_min {ix : Nat} {y : Int} (hL : Cond.methodLink M.1.cls ix Lib.Math.min.name ∈ lw_tbl) (hlev : 0 < M.2.2.2.2) (hw : vsz st ≤ 8) (hx : In32 x) (hy : In32 y) (hd : decode M.2.1 pc = .ok (.invokestatic ix, 3)) (hp : pc + 3 = pc2) (k : V G M pc2 ls (II (min x y) :: st) t Q) : V G M pc ls (II y :: II x :: st) t Q := by
  subst hp
  intro p e R s m args below meth c cl sl Z hc H locs la hR hS hl
  have hts := hc.2.2.2.2.1.1
  have hfr := hc.2.2.2.2.2.1
  have hlo := hc.2.2.2.2.2.2.1
  have k2 := k p e R s m args below meth c cl sl Z hc H locs la hR hS hl
  rw [List.map_cons, show rl G (II (min x y)) = .int (if Int32.ofInt y < Int32.ofInt x then Int32.ofInt y else Int32.ofInt x) from congrArg Value.int (by by_cases h : y < x; rw [if_pos ((oLt hy hx).mpr h), Int.min_eq_right (by omega)]; rw [if_neg (fun q => h ((oLt hy hx).mp q)), Int.min_eq_left (by omega)])] at k2
  exact va_mmin (rest := st.map (rl G)) hc.1 hc.2.1 (hc.2.2.1.trans hl.1.symm) hc.2.2.2.1 (hts _ hL rfl args) (hts (.static Lib.Math.min.name) mnS rfl args) (hts (.initialized "java/lang/Math") mxI rfl args) (hts _ mnC rfl args) (by omega) (by rw [vcs_rl]; omega) hc.2.2.2.2.2.2.2.1 hc.2.2.2.2.2.2.2.2.1 hd k2
theorem tn {x : Int} {n : Nat} (h : 0 ≤ x ∧ x < (n : Int)) : x.toNat < n := by omega
theorem flX0_9 : FL RX0 9 (TX0 0).1 (TX0 0).2.1 (TX0 0).2.2.1 := Or.inl (List.mem_of_getElem? (i := 82) (by decide +kernel))
theorem gX0_9 (hM : M.1.cls = RX0) (hk : ky a = 0) (hd : decode M.2.1 pc = .ok (.getfield 9, 3)) (hp : pc + 3 = pc2) (k : V G M pc2 ls (II (t a 0) :: st) t Q) : V G M pc ls (RR a :: st) t Q := V_get fwX0 (j := 0) (by decide) (flds_rl (by decide)) (hM ▸ flX0_9) hk hd hp k
theorem pX0_9 (hM : M.1.cls = RX0) (hk : ky a = 0) (hd : decode M.2.1 pc = .ok (.putfield 9, 3)) (hp : pc + 3 = pc2) (k : ∀ u, u = wr t a 0 v → V G M pc2 ls st u Q) : V G M pc ls (II v :: RR a :: st) t Q := V_putX fwX0 tyX0_ok nmX0 (j := 0) (ty := .int) (by decide) rfl rfl (by decide +kernel) (hM ▸ flX0_9) rfl rfl hk hd hp k
theorem flX0_15 : FL RX0 15 (TX0 1).1 (TX0 1).2.1 (TX0 1).2.2.1 := Or.inl (List.mem_of_getElem? (i := 86) (by decide +kernel))
theorem gX0_15 (hM : M.1.cls = RX0) (hk : ky a = 0) (hd : decode M.2.1 pc = .ok (.getfield 15, 3)) (hp : pc + 3 = pc2) (k : V G M pc2 ls (II (t a 1) :: st) t Q) : V G M pc ls (RR a :: st) t Q := V_get fwX0 (j := 1) (by decide) (flds_rl (by decide)) (hM ▸ flX0_15) hk hd hp k
theorem pX0_15 (hM : M.1.cls = RX0) (hk : ky a = 0) (hd : decode M.2.1 pc = .ok (.putfield 15, 3)) (hp : pc + 3 = pc2) (k : ∀ u, u = wr t a 1 v → V G M pc2 ls st u Q) : V G M pc ls (II v :: RR a :: st) t Q := V_putX fwX0 tyX0_ok nmX0 (j := 1) (ty := .int) (by decide) rfl rfl (by decide +kernel) (hM ▸ flX0_15) rfl rfl hk hd hp k
theorem flX0_18 : FL RX0 18 (TX0 2).1 (TX0 2).2.1 (TX0 2).2.2.1 := Or.inl (List.mem_of_getElem? (i := 89) (by decide +kernel))
theorem gX0_18 (hM : M.1.cls = RX0) (hk : ky a = 0) (hd : decode M.2.1 pc = .ok (.getfield 18, 3)) (hp : pc + 3 = pc2) (k : V G M pc2 ls (II (t a 2) :: st) t Q) : V G M pc ls (RR a :: st) t Q := V_get fwX0 (j := 2) (by decide) (flds_rl (by decide)) (hM ▸ flX0_18) hk hd hp k
theorem pX0_18 (hM : M.1.cls = RX0) (hk : ky a = 0) (hd : decode M.2.1 pc = .ok (.putfield 18, 3)) (hp : pc + 3 = pc2) (k : ∀ u, u = wr t a 2 v → V G M pc2 ls st u Q) : V G M pc ls (II v :: RR a :: st) t Q := V_putX fwX0 tyX0_ok nmX0 (j := 2) (ty := .int) (by decide) rfl rfl (by decide +kernel) (hM ▸ flX0_18) rfl rfl hk hd hp k
theorem flX0_21 : FL RX0 21 (TX0 3).1 (TX0 3).2.1 (TX0 3).2.2.1 := Or.inl (List.mem_of_getElem? (i := 92) (by decide +kernel))
theorem gX0_21 (hM : M.1.cls = RX0) (hk : ky a = 0) (hd : decode M.2.1 pc = .ok (.getfield 21, 3)) (hp : pc + 3 = pc2) (k : V G M pc2 ls (II (t a 3) :: st) t Q) : V G M pc ls (RR a :: st) t Q := V_get fwX0 (j := 3) (by decide) (flds_rl (by decide)) (hM ▸ flX0_21) hk hd hp k
theorem pX0_21 (hM : M.1.cls = RX0) (hk : ky a = 0) (hd : decode M.2.1 pc = .ok (.putfield 21, 3)) (hp : pc + 3 = pc2) (k : ∀ u, u = wr t a 3 v → V G M pc2 ls st u Q) : V G M pc ls (II v :: RR a :: st) t Q := V_putX fwX0 tyX0_ok nmX0 (j := 3) (ty := .int) (by decide) rfl rfl (by decide +kernel) (hM ▸ flX0_21) rfl rfl hk hd hp k
theorem flX0_24 : FL RX0 24 (TX0 6).1 (TX0 6).2.1 (TX0 6).2.2.1 := Or.inl (List.mem_of_getElem? (i := 100) (by decide +kernel))
theorem gX0_24 (hM : M.1.cls = RX0) (hk : ky a = 0) (hd : decode M.2.1 pc = .ok (.getfield 24, 3)) (hp : pc + 3 = pc2) (k : V G M pc2 ls (II (t a 6) :: st) t Q) : V G M pc ls (RR a :: st) t Q := V_get fwX0 (j := 6) (by decide) (flds_rl (by decide)) (hM ▸ flX0_24) hk hd hp k
theorem pX0_24 (hM : M.1.cls = RX0) (hk : ky a = 0) (hd : decode M.2.1 pc = .ok (.putfield 24, 3)) (hp : pc + 3 = pc2) (k : ∀ u, u = wr t a 6 v → V G M pc2 ls st u Q) : V G M pc ls (II v :: RR a :: st) t Q := V_putX fwX0 tyX0_ok nmX0 (j := 6) (ty := .int) (by decide) rfl rfl (by decide +kernel) (hM ▸ flX0_24) rfl rfl hk hd hp k
theorem flX0_27 : FL RX0 27 (TX0 8).1 (TX0 8).2.1 (TX0 8).2.2.1 := Or.inl (List.mem_of_getElem? (i := 108) (by decide +kernel))
theorem gX0_27 (hM : M.1.cls = RX0) (hk : ky a = 0) (hr : rf a 8 = b) (hd : decode M.2.1 pc = .ok (.getfield 27, 3)) (hp : pc + 3 = pc2) (k : V G M pc2 ls (RR b :: st) t Q) : V G M pc ls (RR a :: st) t Q := V_get fwX0 (j := 8) (by decide) (flds_rl (by decide)) (hM ▸ flX0_27) hk hd hp (by rw [show fr 0 8 = true from rfl, hr]; exact k)
theorem flX0_31 : FL RX0 31 (TX0 9).1 (TX0 9).2.1 (TX0 9).2.2.1 := Or.inl (List.mem_of_getElem? (i := 111) (by decide +kernel))
theorem gX0_31 (hM : M.1.cls = RX0) (hk : ky a = 0) (hr : rf a 9 = b) (hd : decode M.2.1 pc = .ok (.getfield 31, 3)) (hp : pc + 3 = pc2) (k : V G M pc2 ls (RR b :: st) t Q) : V G M pc ls (RR a :: st) t Q := V_get fwX0 (j := 9) (by decide) (flds_rl (by decide)) (hM ▸ flX0_31) hk hd hp (by rw [show fr 0 9 = true from rfl, hr]; exact k)
theorem flX0_34 : FL RX0 34 (TX0 10).1 (TX0 10).2.1 (TX0 10).2.2.1 := Or.inl (List.mem_of_getElem? (i := 113) (by decide +kernel))
theorem gX0_34 (hM : M.1.cls = RX0) (hk : ky a = 0) (hr : rf a 10 = b) (hd : decode M.2.1 pc = .ok (.getfield 34, 3)) (hp : pc + 3 = pc2) (k : V G M pc2 ls (RR b :: st) t Q) : V G M pc ls (RR a :: st) t Q := V_get fwX0 (j := 10) (by decide) (flds_rl (by decide)) (hM ▸ flX0_34) hk hd hp (by rw [show fr 0 10 = true from rfl, hr]; exact k)
theorem flX0_37 : FL RX0 37 (TX0 11).1 (TX0 11).2.1 (TX0 11).2.2.1 := Or.inl (List.mem_of_getElem? (i := 115) (by decide +kernel))
theorem gX0_37 (hM : M.1.cls = RX0) (hk : ky a = 0) (hr : rf a 11 = b) (hd : decode M.2.1 pc = .ok (.getfield 37, 3)) (hp : pc + 3 = pc2) (k : V G M pc2 ls (RR b :: st) t Q) : V G M pc ls (RR a :: st) t Q := V_get fwX0 (j := 11) (by decide) (flds_rl (by decide)) (hM ▸ flX0_37) hk hd hp (by rw [show fr 0 11 = true from rfl, hr]; exact k)
theorem flX0_40 : FL RX0 40 (TX0 12).1 (TX0 12).2.1 (TX0 12).2.2.1 := Or.inl (List.mem_of_getElem? (i := 117) (by decide +kernel))
theorem gX0_40 (hM : M.1.cls = RX0) (hk : ky a = 0) (hr : rf a 12 = b) (hd : decode M.2.1 pc = .ok (.getfield 40, 3)) (hp : pc + 3 = pc2) (k : V G M pc2 ls (RR b :: st) t Q) : V G M pc ls (RR a :: st) t Q := V_get fwX0 (j := 12) (by decide) (flds_rl (by decide)) (hM ▸ flX0_40) hk hd hp (by rw [show fr 0 12 = true from rfl, hr]; exact k)
theorem flX0_43 : FL RX0 43 (TX0 4).1 (TX0 4).2.1 (TX0 4).2.2.1 := Or.inl (List.mem_of_getElem? (i := 95) (by decide +kernel))
theorem gX0_43 (hM : M.1.cls = RX0) (hk : ky a = 0) (hd : decode M.2.1 pc = .ok (.getfield 43, 3)) (hp : pc + 3 = pc2) (k : V G M pc2 ls (II (t a 4) :: st) t Q) : V G M pc ls (RR a :: st) t Q := V_get fwX0 (j := 4) (by decide) (flds_rl (by decide)) (hM ▸ flX0_43) hk hd hp k
theorem pX0_43 (hM : M.1.cls = RX0) (hk : ky a = 0) (hd : decode M.2.1 pc = .ok (.putfield 43, 3)) (hp : pc + 3 = pc2) (k : ∀ u, u = wr t a 4 v → V G M pc2 ls st u Q) : V G M pc ls (II v :: RR a :: st) t Q := V_putX fwX0 tyX0_ok nmX0 (j := 4) (ty := .int) (by decide) rfl rfl (by decide +kernel) (hM ▸ flX0_43) rfl rfl hk hd hp k
theorem flX0_46 : FL RX0 46 (TX0 5).1 (TX0 5).2.1 (TX0 5).2.2.1 := Or.inl (List.mem_of_getElem? (i := 98) (by decide +kernel))
theorem gX0_46 (hM : M.1.cls = RX0) (hk : ky a = 0) (hd : decode M.2.1 pc = .ok (.getfield 46, 3)) (hp : pc + 3 = pc2) (k : V G M pc2 ls (II (t a 5) :: st) t Q) : V G M pc ls (RR a :: st) t Q := V_get fwX0 (j := 5) (by decide) (flds_rl (by decide)) (hM ▸ flX0_46) hk hd hp k
theorem pX0_46 (hM : M.1.cls = RX0) (hk : ky a = 0) (hd : decode M.2.1 pc = .ok (.putfield 46, 3)) (hp : pc + 3 = pc2) (k : ∀ u, u = wr t a 5 v → V G M pc2 ls st u Q) : V G M pc ls (II v :: RR a :: st) t Q := V_putX fwX0 tyX0_ok nmX0 (j := 5) (ty := .int) (by decide) rfl rfl (by decide +kernel) (hM ▸ flX0_46) rfl rfl hk hd hp k
theorem flX0_49 : FL RX0 49 (TX0 7).1 (TX0 7).2.1 (TX0 7).2.2.1 := Or.inl (List.mem_of_getElem? (i := 105) (by decide +kernel))
theorem gX0_49 (hM : M.1.cls = RX0) (hk : ky a = 0) (hd : decode M.2.1 pc = .ok (.getfield 49, 3)) (hp : pc + 3 = pc2) (k : V G M pc2 ls (II (t a 7) :: st) t Q) : V G M pc ls (RR a :: st) t Q := V_get fwX0 (j := 7) (by decide) (flds_rl (by decide)) (hM ▸ flX0_49) hk hd hp k
theorem pX0_49 (hM : M.1.cls = RX0) (hk : ky a = 0) (hd : decode M.2.1 pc = .ok (.putfield 49, 3)) (hp : pc + 3 = pc2) (k : ∀ u, u = wr t a 7 v → V G M pc2 ls st u Q) : V G M pc ls (II v :: RR a :: st) t Q := V_putX fwX0 tyX0_ok nmX0 (j := 7) (ty := .int) (by decide) rfl rfl (by decide +kernel) (hM ▸ flX0_49) rfl rfl hk hd hp k
theorem flX0_62 : FL RX0 62 (TX0 13).1 (TX0 13).2.1 (TX0 13).2.2.1 := Or.inl (List.mem_of_getElem? (i := 120) (by decide +kernel))
theorem gX0_62 (hM : M.1.cls = RX0) (hk : ky a = 0) (hd : decode M.2.1 pc = .ok (.getfield 62, 3)) (hp : pc + 3 = pc2) (k : V G M pc2 ls (II (t a 13) :: st) t Q) : V G M pc ls (RR a :: st) t Q := V_get fwX0 (j := 13) (by decide) (flds_rl (by decide)) (hM ▸ flX0_62) hk hd hp k
theorem pX0_62 (hM : M.1.cls = RX0) (hk : ky a = 0) (hd : decode M.2.1 pc = .ok (.putfield 62, 3)) (hp : pc + 3 = pc2) (k : ∀ u, u = wr t a 13 v → V G M pc2 ls st u Q) : V G M pc ls (II v :: RR a :: st) t Q := V_putX fwX0 tyX0_ok nmX0 (j := 13) (ty := .int) (by decide) rfl rfl (by decide +kernel) (hM ▸ flX0_62) rfl rfl hk hd hp k
theorem flX1_9 : FL RX1 9 (TX1 0).1 (TX1 0).2.1 (TX1 0).2.2.1 := Or.inl (List.mem_of_getElem? (i := 157) (by decide +kernel))
theorem gX1_9 (hM : M.1.cls = RX1) (hk : ky a = 1) (hd : decode M.2.1 pc = .ok (.getfield 9, 3)) (hp : pc + 3 = pc2) (k : V G M pc2 ls (II (t a 0) :: st) t Q) : V G M pc ls (RR a :: st) t Q := V_get fwX1 (j := 0) (by decide) (flds_rl (by decide)) (hM ▸ flX1_9) hk hd hp k
theorem pX1_9 (hM : M.1.cls = RX1) (hk : ky a = 1) (hd : decode M.2.1 pc = .ok (.putfield 9, 3)) (hp : pc + 3 = pc2) (k : ∀ u, u = wr t a 0 v → V G M pc2 ls st u Q) : V G M pc ls (II v :: RR a :: st) t Q := V_putX fwX1 tyX1_ok nmX1 (j := 0) (ty := .int) (by decide) rfl rfl (by decide +kernel) (hM ▸ flX1_9) rfl rfl hk hd hp k
theorem flX1_15 : FL RX1 15 (TX1 5).1 (TX1 5).2.1 (TX1 5).2.2.1 := Or.inl (List.mem_of_getElem? (i := 167) (by decide +kernel))
theorem gX1_15 (hM : M.1.cls = RX1) (hk : ky a = 1) (hd : decode M.2.1 pc = .ok (.getfield 15, 3)) (hp : pc + 3 = pc2) (k : V G M pc2 ls (II (t a 5) :: st) t Q) : V G M pc ls (RR a :: st) t Q := V_get fwX1 (j := 5) (by decide) (flds_rl (by decide)) (hM ▸ flX1_15) hk hd hp k
theorem pX1_15 (hM : M.1.cls = RX1) (hk : ky a = 1) (hd : decode M.2.1 pc = .ok (.putfield 15, 3)) (hp : pc + 3 = pc2) (k : ∀ u, u = wr t a 5 v → V G M pc2 ls st u Q) : V G M pc ls (II v :: RR a :: st) t Q := V_putX fwX1 tyX1_ok nmX1 (j := 5) (ty := .int) (by decide) rfl rfl (by decide +kernel) (hM ▸ flX1_15) rfl rfl hk hd hp k
theorem flX1_18 : FL RX1 18 (TX1 6).1 (TX1 6).2.1 (TX1 6).2.2.1 := Or.inl (List.mem_of_getElem? (i := 169) (by decide +kernel))
theorem gX1_18 (hM : M.1.cls = RX1) (hk : ky a = 1) (hr : rf a 6 = b) (hd : decode M.2.1 pc = .ok (.getfield 18, 3)) (hp : pc + 3 = pc2) (k : V G M pc2 ls (RR b :: st) t Q) : V G M pc ls (RR a :: st) t Q := V_get fwX1 (j := 6) (by decide) (flds_rl (by decide)) (hM ▸ flX1_18) hk hd hp (by rw [show fr 1 6 = true from rfl, hr]; exact k)
theorem flX1_22 : FL RX1 22 (TX1 7).1 (TX1 7).2.1 (TX1 7).2.2.1 := Or.inl (List.mem_of_getElem? (i := 171) (by decide +kernel))
theorem gX1_22 (hM : M.1.cls = RX1) (hk : ky a = 1) (hr : rf a 7 = b) (hd : decode M.2.1 pc = .ok (.getfield 22, 3)) (hp : pc + 3 = pc2) (k : V G M pc2 ls (RR b :: st) t Q) : V G M pc ls (RR a :: st) t Q := V_get fwX1 (j := 7) (by decide) (flds_rl (by decide)) (hM ▸ flX1_22) hk hd hp (by rw [show fr 1 7 = true from rfl, hr]; exact k)
theorem flX1_25 : FL RX1 25 (TX1 8).1 (TX1 8).2.1 (TX1 8).2.2.1 := Or.inl (List.mem_of_getElem? (i := 173) (by decide +kernel))
theorem gX1_25 (hM : M.1.cls = RX1) (hk : ky a = 1) (hr : rf a 8 = b) (hd : decode M.2.1 pc = .ok (.getfield 25, 3)) (hp : pc + 3 = pc2) (k : V G M pc2 ls (RR b :: st) t Q) : V G M pc ls (RR a :: st) t Q := V_get fwX1 (j := 8) (by decide) (flds_rl (by decide)) (hM ▸ flX1_25) hk hd hp (by rw [show fr 1 8 = true from rfl, hr]; exact k)
theorem flX1_28 : FL RX1 28 (TX1 9).1 (TX1 9).2.1 (TX1 9).2.2.1 := Or.inl (List.mem_of_getElem? (i := 175) (by decide +kernel))
theorem gX1_28 (hM : M.1.cls = RX1) (hk : ky a = 1) (hr : rf a 9 = b) (hd : decode M.2.1 pc = .ok (.getfield 28, 3)) (hp : pc + 3 = pc2) (k : V G M pc2 ls (RR b :: st) t Q) : V G M pc ls (RR a :: st) t Q := V_get fwX1 (j := 9) (by decide) (flds_rl (by decide)) (hM ▸ flX1_28) hk hd hp (by rw [show fr 1 9 = true from rfl, hr]; exact k)
theorem flX1_31 : FL RX1 31 (TX1 1).1 (TX1 1).2.1 (TX1 1).2.2.1 := Or.inl (List.mem_of_getElem? (i := 159) (by decide +kernel))
theorem gX1_31 (hM : M.1.cls = RX1) (hk : ky a = 1) (hd : decode M.2.1 pc = .ok (.getfield 31, 3)) (hp : pc + 3 = pc2) (k : V G M pc2 ls (II (t a 1) :: st) t Q) : V G M pc ls (RR a :: st) t Q := V_get fwX1 (j := 1) (by decide) (flds_rl (by decide)) (hM ▸ flX1_31) hk hd hp k
theorem pX1_31 (hM : M.1.cls = RX1) (hk : ky a = 1) (hd : decode M.2.1 pc = .ok (.putfield 31, 3)) (hp : pc + 3 = pc2) (k : ∀ u, u = wr t a 1 v → V G M pc2 ls st u Q) : V G M pc ls (II v :: RR a :: st) t Q := V_putX fwX1 tyX1_ok nmX1 (j := 1) (ty := .int) (by decide) rfl rfl (by decide +kernel) (hM ▸ flX1_31) rfl rfl hk hd hp k
theorem flX1_34 : FL RX1 34 (TX1 2).1 (TX1 2).2.1 (TX1 2).2.2.1 := Or.inl (List.mem_of_getElem? (i := 161) (by decide +kernel))
theorem gX1_34 (hM : M.1.cls = RX1) (hk : ky a = 1) (hd : decode M.2.1 pc = .ok (.getfield 34, 3)) (hp : pc + 3 = pc2) (k : V G M pc2 ls (II (t a 2) :: st) t Q) : V G M pc ls (RR a :: st) t Q := V_get fwX1 (j := 2) (by decide) (flds_rl (by decide)) (hM ▸ flX1_34) hk hd hp k
theorem pX1_34 (hM : M.1.cls = RX1) (hk : ky a = 1) (hd : decode M.2.1 pc = .ok (.putfield 34, 3)) (hp : pc + 3 = pc2) (k : ∀ u, u = wr t a 2 v → V G M pc2 ls st u Q) : V G M pc ls (II v :: RR a :: st) t Q := V_putX fwX1 tyX1_ok nmX1 (j := 2) (ty := .int) (by decide) rfl rfl (by decide +kernel) (hM ▸ flX1_34) rfl rfl hk hd hp k
theorem flX1_37 : FL RX1 37 (TX1 3).1 (TX1 3).2.1 (TX1 3).2.2.1 := Or.inl (List.mem_of_getElem? (i := 163) (by decide +kernel))
theorem gX1_37 (hM : M.1.cls = RX1) (hk : ky a = 1) (hd : decode M.2.1 pc = .ok (.getfield 37, 3)) (hp : pc + 3 = pc2) (k : V G M pc2 ls (II (t a 3) :: st) t Q) : V G M pc ls (RR a :: st) t Q := V_get fwX1 (j := 3) (by decide) (flds_rl (by decide)) (hM ▸ flX1_37) hk hd hp k
theorem pX1_37 (hM : M.1.cls = RX1) (hk : ky a = 1) (hd : decode M.2.1 pc = .ok (.putfield 37, 3)) (hp : pc + 3 = pc2) (k : ∀ u, u = wr t a 3 v → V G M pc2 ls st u Q) : V G M pc ls (II v :: RR a :: st) t Q := V_putX fwX1 tyX1_ok nmX1 (j := 3) (ty := .int) (by decide) rfl rfl (by decide +kernel) (hM ▸ flX1_37) rfl rfl hk hd hp k
theorem flX1_40 : FL RX1 40 (TX1 4).1 (TX1 4).2.1 (TX1 4).2.2.1 := Or.inl (List.mem_of_getElem? (i := 165) (by decide +kernel))
theorem gX1_40 (hM : M.1.cls = RX1) (hk : ky a = 1) (hd : decode M.2.1 pc = .ok (.getfield 40, 3)) (hp : pc + 3 = pc2) (k : V G M pc2 ls (II (t a 4) :: st) t Q) : V G M pc ls (RR a :: st) t Q := V_get fwX1 (j := 4) (by decide) (flds_rl (by decide)) (hM ▸ flX1_40) hk hd hp k
theorem pX1_40 (hM : M.1.cls = RX1) (hk : ky a = 1) (hd : decode M.2.1 pc = .ok (.putfield 40, 3)) (hp : pc + 3 = pc2) (k : ∀ u, u = wr t a 4 v → V G M pc2 ls st u Q) : V G M pc ls (II v :: RR a :: st) t Q := V_putX fwX1 tyX1_ok nmX1 (j := 4) (ty := .int) (by decide) rfl rfl (by decide +kernel) (hM ▸ flX1_40) rfl rfl hk hd hp k
theorem flX1_49 : FL RX1 49 (TX0 11).1 (TX0 11).2.1 (TX0 11).2.2.1 := Or.inr ⟨"WellTurns", (List.mem_of_getElem? (i := 116) (by decide +kernel))⟩
theorem gX1_49 (hM : M.1.cls = RX1) (hk : ky a = 0) (hr : rf a 11 = b) (hd : decode M.2.1 pc = .ok (.getfield 49, 3)) (hp : pc + 3 = pc2) (k : V G M pc2 ls (RR b :: st) t Q) : V G M pc ls (RR a :: st) t Q := V_get fwX0 (j := 11) (by decide) (flds_rl (by decide)) (hM ▸ flX1_49) hk hd hp (by rw [show fr 0 11 = true from rfl, hr]; exact k)
theorem flX1_64 : FL RX1 64 (TX0 7).1 (TX0 7).2.1 (TX0 7).2.2.1 := Or.inr ⟨"WellTurns", (List.mem_of_getElem? (i := 107) (by decide +kernel))⟩
theorem gX1_64 (hM : M.1.cls = RX1) (hk : ky a = 0) (hd : decode M.2.1 pc = .ok (.getfield 64, 3)) (hp : pc + 3 = pc2) (k : V G M pc2 ls (II (t a 7) :: st) t Q) : V G M pc ls (RR a :: st) t Q := V_get fwX0 (j := 7) (by decide) (flds_rl (by decide)) (hM ▸ flX1_64) hk hd hp k
theorem flX1_74 : FL RX1 74 (TX0 6).1 (TX0 6).2.1 (TX0 6).2.2.1 := Or.inr ⟨"WellTurns", (List.mem_of_getElem? (i := 103) (by decide +kernel))⟩
theorem gX1_74 (hM : M.1.cls = RX1) (hk : ky a = 0) (hd : decode M.2.1 pc = .ok (.getfield 74, 3)) (hp : pc + 3 = pc2) (k : V G M pc2 ls (II (t a 6) :: st) t Q) : V G M pc ls (RR a :: st) t Q := V_get fwX0 (j := 6) (by decide) (flds_rl (by decide)) (hM ▸ flX1_74) hk hd hp k
theorem flX1_81 : FL RX1 81 (TX0 1).1 (TX0 1).2.1 (TX0 1).2.2.1 := Or.inr ⟨"WellTurns", (List.mem_of_getElem? (i := 88) (by decide +kernel))⟩
theorem gX1_81 (hM : M.1.cls = RX1) (hk : ky a = 0) (hd : decode M.2.1 pc = .ok (.getfield 81, 3)) (hp : pc + 3 = pc2) (k : V G M pc2 ls (II (t a 1) :: st) t Q) : V G M pc ls (RR a :: st) t Q := V_get fwX0 (j := 1) (by decide) (flds_rl (by decide)) (hM ▸ flX1_81) hk hd hp k
theorem flX1_91 : FL RX1 91 (TX0 4).1 (TX0 4).2.1 (TX0 4).2.2.1 := Or.inr ⟨"WellTurns", (List.mem_of_getElem? (i := 97) (by decide +kernel))⟩
theorem gX1_91 (hM : M.1.cls = RX1) (hk : ky a = 0) (hd : decode M.2.1 pc = .ok (.getfield 91, 3)) (hp : pc + 3 = pc2) (k : V G M pc2 ls (II (t a 4) :: st) t Q) : V G M pc ls (RR a :: st) t Q := V_get fwX0 (j := 4) (by decide) (flds_rl (by decide)) (hM ▸ flX1_91) hk hd hp k
theorem flX1_94 : FL RX1 94 (TX0 2).1 (TX0 2).2.1 (TX0 2).2.2.1 := Or.inr ⟨"WellTurns", (List.mem_of_getElem? (i := 91) (by decide +kernel))⟩
theorem gX1_94 (hM : M.1.cls = RX1) (hk : ky a = 0) (hd : decode M.2.1 pc = .ok (.getfield 94, 3)) (hp : pc + 3 = pc2) (k : V G M pc2 ls (II (t a 2) :: st) t Q) : V G M pc ls (RR a :: st) t Q := V_get fwX0 (j := 2) (by decide) (flds_rl (by decide)) (hM ▸ flX1_94) hk hd hp k
theorem flX1_97 : FL RX1 97 (TX0 0).1 (TX0 0).2.1 (TX0 0).2.2.1 := Or.inr ⟨"WellTurns", (List.mem_of_getElem? (i := 85) (by decide +kernel))⟩
theorem gX1_97 (hM : M.1.cls = RX1) (hk : ky a = 0) (hd : decode M.2.1 pc = .ok (.getfield 97, 3)) (hp : pc + 3 = pc2) (k : V G M pc2 ls (II (t a 0) :: st) t Q) : V G M pc ls (RR a :: st) t Q := V_get fwX0 (j := 0) (by decide) (flds_rl (by decide)) (hM ▸ flX1_97) hk hd hp k
theorem flX1_107 : FL RX1 107 (TX0 3).1 (TX0 3).2.1 (TX0 3).2.2.1 := Or.inr ⟨"WellTurns", (List.mem_of_getElem? (i := 94) (by decide +kernel))⟩
theorem gX1_107 (hM : M.1.cls = RX1) (hk : ky a = 0) (hd : decode M.2.1 pc = .ok (.getfield 107, 3)) (hp : pc + 3 = pc2) (k : V G M pc2 ls (II (t a 3) :: st) t Q) : V G M pc ls (RR a :: st) t Q := V_get fwX0 (j := 3) (by decide) (flds_rl (by decide)) (hM ▸ flX1_107) hk hd hp k
theorem flX1_110 : FL RX1 110 (TX0 12).1 (TX0 12).2.1 (TX0 12).2.2.1 := Or.inr ⟨"WellTurns", (List.mem_of_getElem? (i := 119) (by decide +kernel))⟩
theorem gX1_110 (hM : M.1.cls = RX1) (hk : ky a = 0) (hr : rf a 12 = b) (hd : decode M.2.1 pc = .ok (.getfield 110, 3)) (hp : pc + 3 = pc2) (k : V G M pc2 ls (RR b :: st) t Q) : V G M pc ls (RR a :: st) t Q := V_get fwX0 (j := 12) (by decide) (flds_rl (by decide)) (hM ▸ flX1_110) hk hd hp (by rw [show fr 0 12 = true from rfl, hr]; exact k)
theorem flX1_113 : FL RX1 113 (TX0 8).1 (TX0 8).2.1 (TX0 8).2.2.1 := Or.inr ⟨"WellTurns", (List.mem_of_getElem? (i := 110) (by decide +kernel))⟩
theorem gX1_113 (hM : M.1.cls = RX1) (hk : ky a = 0) (hr : rf a 8 = b) (hd : decode M.2.1 pc = .ok (.getfield 113, 3)) (hp : pc + 3 = pc2) (k : V G M pc2 ls (RR b :: st) t Q) : V G M pc ls (RR a :: st) t Q := V_get fwX0 (j := 8) (by decide) (flds_rl (by decide)) (hM ▸ flX1_113) hk hd hp (by rw [show fr 0 8 = true from rfl, hr]; exact k)
theorem flX2_11 : FL RX2 11 (TX2 0).1 (TX2 0).2.1 (TX2 0).2.2.1 := Or.inl (List.mem_of_getElem? (i := 206) (by decide +kernel))
theorem gX2_11 (hM : M.1.cls = RX2) (hk : ky a = 2) (hr : rf a 0 = b) (hd : decode M.2.1 pc = .ok (.getfield 11, 3)) (hp : pc + 3 = pc2) (k : V G M pc2 ls (RR b :: st) t Q) : V G M pc ls (RR a :: st) t Q := V_get fwX2 (j := 0) (by decide) (flds_rl (by decide)) (hM ▸ flX2_11) hk hd hp (by rw [show fr 2 0 = true from rfl, hr]; exact k)
theorem flX2_22 : FL RX2 22 (TX2 1).1 (TX2 1).2.1 (TX2 1).2.2.1 := Or.inl (List.mem_of_getElem? (i := 207) (by decide +kernel))
theorem gX2_22 (hM : M.1.cls = RX2) (hk : ky a = 2) (hd : decode M.2.1 pc = .ok (.getfield 22, 3)) (hp : pc + 3 = pc2) (k : V G M pc2 ls (II (t a 1) :: st) t Q) : V G M pc ls (RR a :: st) t Q := V_get fwX2 (j := 1) (by decide) (flds_rl (by decide)) (hM ▸ flX2_22) hk hd hp k
theorem pX2_22 (hM : M.1.cls = RX2) (hk : ky a = 2) (hd : decode M.2.1 pc = .ok (.putfield 22, 3)) (hp : pc + 3 = pc2) (k : ∀ u, u = wr t a 1 v → V G M pc2 ls st u Q) : V G M pc ls (II v :: RR a :: st) t Q := V_putX fwX2 tyX2_ok nmX2 (j := 1) (ty := .int) (by decide) rfl rfl (by decide +kernel) (hM ▸ flX2_22) rfl rfl hk hd hp k
theorem flX2_26 : FL RX2 26 (TX2 2).1 (TX2 2).2.1 (TX2 2).2.2.1 := Or.inl (List.mem_of_getElem? (i := 208) (by decide +kernel))
theorem gX2_26 (hM : M.1.cls = RX2) (hk : ky a = 2) (hd : decode M.2.1 pc = .ok (.getfield 26, 3)) (hp : pc + 3 = pc2) (k : V G M pc2 ls (II (t a 2) :: st) t Q) : V G M pc ls (RR a :: st) t Q := V_get fwX2 (j := 2) (by decide) (flds_rl (by decide)) (hM ▸ flX2_26) hk hd hp k
theorem pX2_26 (hM : M.1.cls = RX2) (hk : ky a = 2) (hd : decode M.2.1 pc = .ok (.putfield 26, 3)) (hp : pc + 3 = pc2) (k : ∀ u, u = wr t a 2 v → V G M pc2 ls st u Q) : V G M pc ls (II v :: RR a :: st) t Q := V_putX fwX2 tyX2_ok nmX2 (j := 2) (ty := .int) (by decide) rfl rfl (by decide +kernel) (hM ▸ flX2_26) rfl rfl hk hd hp k
theorem flX3_9 : FL RX3 9 (TX3 0).1 (TX3 0).2.1 (TX3 0).2.2.1 := Or.inl (List.mem_of_getElem? (i := 245) (by decide +kernel))
theorem gX3_9 (hM : M.1.cls = RX3) (hk : ky a = 3) (hd : decode M.2.1 pc = .ok (.getfield 9, 3)) (hp : pc + 3 = pc2) (k : V G M pc2 ls (II (t a 0) :: st) t Q) : V G M pc ls (RR a :: st) t Q := V_get fwX3 (j := 0) (by decide) (flds_rl (by decide)) (hM ▸ flX3_9) hk hd hp k
theorem pX3_9 (hM : M.1.cls = RX3) (hk : ky a = 3) (hd : decode M.2.1 pc = .ok (.putfield 9, 3)) (hp : pc + 3 = pc2) (k : ∀ u, u = wr t a 0 v → V G M pc2 ls st u Q) : V G M pc ls (II v :: RR a :: st) t Q := V_putX fwX3 tyX3_ok nmX3 (j := 0) (ty := .int) (by decide) rfl rfl (by decide +kernel) (hM ▸ flX3_9) rfl rfl hk hd hp k
theorem flX3_15 : FL RX3 15 (TX3 2).1 (TX3 2).2.1 (TX3 2).2.2.1 := Or.inl (List.mem_of_getElem? (i := 249) (by decide +kernel))
theorem gX3_15 (hM : M.1.cls = RX3) (hk : ky a = 3) (hr : rf a 2 = b) (hd : decode M.2.1 pc = .ok (.getfield 15, 3)) (hp : pc + 3 = pc2) (k : V G M pc2 ls (RR b :: st) t Q) : V G M pc ls (RR a :: st) t Q := V_get fwX3 (j := 2) (by decide) (flds_rl (by decide)) (hM ▸ flX3_15) hk hd hp (by rw [show fr 3 2 = true from rfl, hr]; exact k)
theorem flX3_19 : FL RX3 19 (TX3 1).1 (TX3 1).2.1 (TX3 1).2.2.1 := Or.inl (List.mem_of_getElem? (i := 247) (by decide +kernel))
theorem gX3_19 (hM : M.1.cls = RX3) (hk : ky a = 3) (hd : decode M.2.1 pc = .ok (.getfield 19, 3)) (hp : pc + 3 = pc2) (k : V G M pc2 ls (II (t a 1) :: st) t Q) : V G M pc ls (RR a :: st) t Q := V_get fwX3 (j := 1) (by decide) (flds_rl (by decide)) (hM ▸ flX3_19) hk hd hp k
theorem pX3_19 (hM : M.1.cls = RX3) (hk : ky a = 3) (hd : decode M.2.1 pc = .ok (.putfield 19, 3)) (hp : pc + 3 = pc2) (k : ∀ u, u = wr t a 1 v → V G M pc2 ls st u Q) : V G M pc ls (II v :: RR a :: st) t Q := V_putX fwX3 tyX3_ok nmX3 (j := 1) (ty := .int) (by decide) rfl rfl (by decide +kernel) (hM ▸ flX3_19) rfl rfl hk hd hp k
theorem flX4_9 : FL RX4 9 (TX4 0).1 (TX4 0).2.1 (TX4 0).2.2.1 := Or.inl (List.mem_of_getElem? (i := 223) (by decide +kernel))
theorem gX4_9 (hM : M.1.cls = RX4) (hk : ky a = 4) (hr : rf a 0 = b) (hd : decode M.2.1 pc = .ok (.getfield 9, 3)) (hp : pc + 3 = pc2) (k : V G M pc2 ls (RR b :: st) t Q) : V G M pc ls (RR a :: st) t Q := V_get fwX4 (j := 0) (by decide) (flds_rl (by decide)) (hM ▸ flX4_9) hk hd hp (by rw [show fr 4 0 = true from rfl, hr]; exact k)
theorem flX4_15 : FL RX4 15 (TX4 1).1 (TX4 1).2.1 (TX4 1).2.2.1 := Or.inl (List.mem_of_getElem? (i := 224) (by decide +kernel))
theorem gX4_15 (hM : M.1.cls = RX4) (hk : ky a = 4) (hd : decode M.2.1 pc = .ok (.getfield 15, 3)) (hp : pc + 3 = pc2) (k : V G M pc2 ls (II (t a 1) :: st) t Q) : V G M pc ls (RR a :: st) t Q := V_get fwX4 (j := 1) (by decide) (flds_rl (by decide)) (hM ▸ flX4_15) hk hd hp k
theorem pX4_15 (hM : M.1.cls = RX4) (hk : ky a = 4) (hd : decode M.2.1 pc = .ok (.putfield 15, 3)) (hp : pc + 3 = pc2) (k : ∀ u, u = wr t a 1 v → V G M pc2 ls st u Q) : V G M pc ls (II v :: RR a :: st) t Q := V_putX fwX4 tyX4_ok nmX4 (j := 1) (ty := .int) (by decide) rfl rfl (by decide +kernel) (hM ▸ flX4_15) rfl rfl hk hd hp k
theorem flX4_19 : FL RX4 19 (TX4 2).1 (TX4 2).2.1 (TX4 2).2.2.1 := Or.inl (List.mem_of_getElem? (i := 226) (by decide +kernel))
theorem gX4_19 (hM : M.1.cls = RX4) (hk : ky a = 4) (hd : decode M.2.1 pc = .ok (.getfield 19, 3)) (hp : pc + 3 = pc2) (k : V G M pc2 ls (II (t a 2) :: st) t Q) : V G M pc ls (RR a :: st) t Q := V_get fwX4 (j := 2) (by decide) (flds_rl (by decide)) (hM ▸ flX4_19) hk hd hp k
theorem pX4_19 (hM : M.1.cls = RX4) (hk : ky a = 4) (hd : decode M.2.1 pc = .ok (.putfield 19, 3)) (hp : pc + 3 = pc2) (k : ∀ u, u = wr t a 2 v → V G M pc2 ls st u Q) : V G M pc ls (II v :: RR a :: st) t Q := V_putX fwX4 tyX4_ok nmX4 (j := 2) (ty := .int) (by decide) rfl rfl (by decide +kernel) (hM ▸ flX4_19) rfl rfl hk hd hp k
theorem flX4_22 : FL RX4 22 (TX0 7).1 (TX0 7).2.1 (TX0 7).2.2.1 := Or.inr ⟨"WellTurns", (List.mem_of_getElem? (i := 106) (by decide +kernel))⟩
theorem gX4_22 (hM : M.1.cls = RX4) (hk : ky a = 0) (hd : decode M.2.1 pc = .ok (.getfield 22, 3)) (hp : pc + 3 = pc2) (k : V G M pc2 ls (II (t a 7) :: st) t Q) : V G M pc ls (RR a :: st) t Q := V_get fwX0 (j := 7) (by decide) (flds_rl (by decide)) (hM ▸ flX4_22) hk hd hp k
theorem pX4_22 (hM : M.1.cls = RX4) (hk : ky a = 0) (hd : decode M.2.1 pc = .ok (.putfield 22, 3)) (hp : pc + 3 = pc2) (k : ∀ u, u = wr t a 7 v → V G M pc2 ls st u Q) : V G M pc ls (II v :: RR a :: st) t Q := V_putX fwX0 tyX0_ok nmX0 (j := 7) (ty := .int) (by decide) rfl rfl (by decide +kernel) (hM ▸ flX4_22) rfl rfl hk hd hp k
theorem flX4_27 : FL RX4 27 (TX0 6).1 (TX0 6).2.1 (TX0 6).2.2.1 := Or.inr ⟨"WellTurns", (List.mem_of_getElem? (i := 101) (by decide +kernel))⟩
theorem pX4_27 (hM : M.1.cls = RX4) (hk : ky a = 0) (hd : decode M.2.1 pc = .ok (.putfield 27, 3)) (hp : pc + 3 = pc2) (k : ∀ u, u = wr t a 6 v → V G M pc2 ls st u Q) : V G M pc ls (II v :: RR a :: st) t Q := V_putX fwX0 tyX0_ok nmX0 (j := 6) (ty := .int) (by decide) rfl rfl (by decide +kernel) (hM ▸ flX4_27) rfl rfl hk hd hp k
theorem flX4_41 : FL RX4 41 (TX4 3).1 (TX4 3).2.1 (TX4 3).2.2.1 := Or.inl (List.mem_of_getElem? (i := 227) (by decide +kernel))
theorem gX4_41 (hM : M.1.cls = RX4) (hk : ky a = 4) (hd : decode M.2.1 pc = .ok (.getfield 41, 3)) (hp : pc + 3 = pc2) (k : V G M pc2 ls (II (t a 3) :: st) t Q) : V G M pc ls (RR a :: st) t Q := V_get fwX4 (j := 3) (by decide) (flds_rl (by decide)) (hM ▸ flX4_41) hk hd hp k
theorem pX4_41 (hM : M.1.cls = RX4) (hk : ky a = 4) (hd : decode M.2.1 pc = .ok (.putfield 41, 3)) (hp : pc + 3 = pc2) (k : ∀ u, u = wr t a 3 v → V G M pc2 ls st u Q) : V G M pc ls (II v :: RR a :: st) t Q := V_putX fwX4 tyX4_ok nmX4 (j := 3) (ty := .int) (by decide) rfl rfl (by decide +kernel) (hM ▸ flX4_41) rfl rfl hk hd hp k
theorem flX4_48 : FL RX4 48 (TX0 0).1 (TX0 0).2.1 (TX0 0).2.2.1 := Or.inr ⟨"WellTurns", (List.mem_of_getElem? (i := 83) (by decide +kernel))⟩
theorem gX4_48 (hM : M.1.cls = RX4) (hk : ky a = 0) (hd : decode M.2.1 pc = .ok (.getfield 48, 3)) (hp : pc + 3 = pc2) (k : V G M pc2 ls (II (t a 0) :: st) t Q) : V G M pc ls (RR a :: st) t Q := V_get fwX0 (j := 0) (by decide) (flds_rl (by decide)) (hM ▸ flX4_48) hk hd hp k
theorem pX4_48 (hM : M.1.cls = RX4) (hk : ky a = 0) (hd : decode M.2.1 pc = .ok (.putfield 48, 3)) (hp : pc + 3 = pc2) (k : ∀ u, u = wr t a 0 v → V G M pc2 ls st u Q) : V G M pc ls (II v :: RR a :: st) t Q := V_putX fwX0 tyX0_ok nmX0 (j := 0) (ty := .int) (by decide) rfl rfl (by decide +kernel) (hM ▸ flX4_48) rfl rfl hk hd hp k
theorem flX5_10 : FL RX5 10 (TX5 0).1 (TX5 0).2.1 (TX5 0).2.2.1 := Or.inl (List.mem_of_getElem? (i := 259) (by decide +kernel))
theorem gX5_10 (hM : M.1.cls = RX5) (hk : ky a = 5) (hr : rf a 0 = b) (hd : decode M.2.1 pc = .ok (.getfield 10, 3)) (hp : pc + 3 = pc2) (k : V G M pc2 ls (RR b :: st) t Q) : V G M pc ls (RR a :: st) t Q := V_get fwX5 (j := 0) (by decide) (flds_rl (by decide)) (hM ▸ flX5_10) hk hd hp (by rw [show fr 5 0 = true from rfl, hr]; exact k)
theorem flX5_19 : FL RX5 19 (TX5 1).1 (TX5 1).2.1 (TX5 1).2.2.1 := Or.inl (List.mem_of_getElem? (i := 260) (by decide +kernel))
theorem gX5_19 (hM : M.1.cls = RX5) (hk : ky a = 5) (hr : rf a 1 = b) (hd : decode M.2.1 pc = .ok (.getfield 19, 3)) (hp : pc + 3 = pc2) (k : V G M pc2 ls (RR b :: st) t Q) : V G M pc ls (RR a :: st) t Q := V_get fwX5 (j := 1) (by decide) (flds_rl (by decide)) (hM ▸ flX5_19) hk hd hp (by rw [show fr 5 1 = true from rfl, hr]; exact k)
theorem flX5_26 : FL RX5 26 (TX5 2).1 (TX5 2).2.1 (TX5 2).2.2.1 := Or.inl (List.mem_of_getElem? (i := 261) (by decide +kernel))
theorem gX5_26 (hM : M.1.cls = RX5) (hk : ky a = 5) (hr : rf a 2 = b) (hd : decode M.2.1 pc = .ok (.getfield 26, 3)) (hp : pc + 3 = pc2) (k : V G M pc2 ls (RR b :: st) t Q) : V G M pc ls (RR a :: st) t Q := V_get fwX5 (j := 2) (by decide) (flds_rl (by decide)) (hM ▸ flX5_26) hk hd hp (by rw [show fr 5 2 = true from rfl, hr]; exact k)
theorem flX5_30 : FL RX5 30 (TX5 4).1 (TX5 4).2.1 (TX5 4).2.2.1 := Or.inl (List.mem_of_getElem? (i := 263) (by decide +kernel))
theorem gX5_30 (hM : M.1.cls = RX5) (hk : ky a = 5) (hr : rf a 4 = b) (hd : decode M.2.1 pc = .ok (.getfield 30, 3)) (hp : pc + 3 = pc2) (k : V G M pc2 ls (RR b :: st) t Q) : V G M pc ls (RR a :: st) t Q := V_get fwX5 (j := 4) (by decide) (flds_rl (by decide)) (hM ▸ flX5_30) hk hd hp (by rw [show fr 5 4 = true from rfl, hr]; exact k)
theorem flX5_33 : FL RX5 33 (TX5 5).1 (TX5 5).2.1 (TX5 5).2.2.1 := Or.inl (List.mem_of_getElem? (i := 264) (by decide +kernel))
theorem gX5_33 (hM : M.1.cls = RX5) (hk : ky a = 5) (hr : rf a 5 = b) (hd : decode M.2.1 pc = .ok (.getfield 33, 3)) (hp : pc + 3 = pc2) (k : V G M pc2 ls (RR b :: st) t Q) : V G M pc ls (RR a :: st) t Q := V_get fwX5 (j := 5) (by decide) (flds_rl (by decide)) (hM ▸ flX5_33) hk hd hp (by rw [show fr 5 5 = true from rfl, hr]; exact k)
theorem flX5_36 : FL RX5 36 (TX5 6).1 (TX5 6).2.1 (TX5 6).2.2.1 := Or.inl (List.mem_of_getElem? (i := 265) (by decide +kernel))
theorem gX5_36 (hM : M.1.cls = RX5) (hk : ky a = 5) (hr : rf a 6 = b) (hd : decode M.2.1 pc = .ok (.getfield 36, 3)) (hp : pc + 3 = pc2) (k : V G M pc2 ls (RR b :: st) t Q) : V G M pc ls (RR a :: st) t Q := V_get fwX5 (j := 6) (by decide) (flds_rl (by decide)) (hM ▸ flX5_36) hk hd hp (by rw [show fr 5 6 = true from rfl, hr]; exact k)
theorem flX5_39 : FL RX5 39 (TX5 7).1 (TX5 7).2.1 (TX5 7).2.2.1 := Or.inl (List.mem_of_getElem? (i := 266) (by decide +kernel))
theorem gX5_39 (hM : M.1.cls = RX5) (hk : ky a = 5) (hr : rf a 7 = b) (hd : decode M.2.1 pc = .ok (.getfield 39, 3)) (hp : pc + 3 = pc2) (k : V G M pc2 ls (RR b :: st) t Q) : V G M pc ls (RR a :: st) t Q := V_get fwX5 (j := 7) (by decide) (flds_rl (by decide)) (hM ▸ flX5_39) hk hd hp (by rw [show fr 5 7 = true from rfl, hr]; exact k)
theorem flX5_42 : FL RX5 42 (TX5 8).1 (TX5 8).2.1 (TX5 8).2.2.1 := Or.inl (List.mem_of_getElem? (i := 267) (by decide +kernel))
theorem gX5_42 (hM : M.1.cls = RX5) (hk : ky a = 5) (hr : rf a 8 = b) (hd : decode M.2.1 pc = .ok (.getfield 42, 3)) (hp : pc + 3 = pc2) (k : V G M pc2 ls (RR b :: st) t Q) : V G M pc ls (RR a :: st) t Q := V_get fwX5 (j := 8) (by decide) (flds_rl (by decide)) (hM ▸ flX5_42) hk hd hp (by rw [show fr 5 8 = true from rfl, hr]; exact k)
theorem flX5_45 : FL RX5 45 (TX5 9).1 (TX5 9).2.1 (TX5 9).2.2.1 := Or.inl (List.mem_of_getElem? (i := 268) (by decide +kernel))
theorem gX5_45 (hM : M.1.cls = RX5) (hk : ky a = 5) (hr : rf a 9 = b) (hd : decode M.2.1 pc = .ok (.getfield 45, 3)) (hp : pc + 3 = pc2) (k : V G M pc2 ls (RR b :: st) t Q) : V G M pc ls (RR a :: st) t Q := V_get fwX5 (j := 9) (by decide) (flds_rl (by decide)) (hM ▸ flX5_45) hk hd hp (by rw [show fr 5 9 = true from rfl, hr]; exact k)
theorem flX5_49 : FL RX5 49 (TX5 10).1 (TX5 10).2.1 (TX5 10).2.2.1 := Or.inl (List.mem_of_getElem? (i := 269) (by decide +kernel))
theorem gX5_49 (hM : M.1.cls = RX5) (hk : ky a = 5) (hr : rf a 10 = b) (hd : decode M.2.1 pc = .ok (.getfield 49, 3)) (hp : pc + 3 = pc2) (k : V G M pc2 ls (RR b :: st) t Q) : V G M pc ls (RR a :: st) t Q := V_get fwX5 (j := 10) (by decide) (flds_rl (by decide)) (hM ▸ flX5_49) hk hd hp (by rw [show fr 5 10 = true from rfl, hr]; exact k)
theorem flX5_52 : FL RX5 52 (TX5 11).1 (TX5 11).2.1 (TX5 11).2.2.1 := Or.inl (List.mem_of_getElem? (i := 270) (by decide +kernel))
theorem gX5_52 (hM : M.1.cls = RX5) (hk : ky a = 5) (hr : rf a 11 = b) (hd : decode M.2.1 pc = .ok (.getfield 52, 3)) (hp : pc + 3 = pc2) (k : V G M pc2 ls (RR b :: st) t Q) : V G M pc ls (RR a :: st) t Q := V_get fwX5 (j := 11) (by decide) (flds_rl (by decide)) (hM ▸ flX5_52) hk hd hp (by rw [show fr 5 11 = true from rfl, hr]; exact k)
theorem flX5_58 : FL RX5 58 (TX5 12).1 (TX5 12).2.1 (TX5 12).2.2.1 := Or.inl (List.mem_of_getElem? (i := 271) (by decide +kernel))
theorem gX5_58 (hM : M.1.cls = RX5) (hk : ky a = 5) (hr : rf a 12 = b) (hd : decode M.2.1 pc = .ok (.getfield 58, 3)) (hp : pc + 3 = pc2) (k : V G M pc2 ls (RR b :: st) t Q) : V G M pc ls (RR a :: st) t Q := V_get fwX5 (j := 12) (by decide) (flds_rl (by decide)) (hM ▸ flX5_58) hk hd hp (by rw [show fr 5 12 = true from rfl, hr]; exact k)
theorem flX5_64 : FL RX5 64 (TX5 13).1 (TX5 13).2.1 (TX5 13).2.2.1 := Or.inl (List.mem_of_getElem? (i := 272) (by decide +kernel))
theorem gX5_64 (hM : M.1.cls = RX5) (hk : ky a = 5) (hr : rf a 13 = b) (hd : decode M.2.1 pc = .ok (.getfield 64, 3)) (hp : pc + 3 = pc2) (k : V G M pc2 ls (RR b :: st) t Q) : V G M pc ls (RR a :: st) t Q := V_get fwX5 (j := 13) (by decide) (flds_rl (by decide)) (hM ▸ flX5_64) hk hd hp (by rw [show fr 5 13 = true from rfl, hr]; exact k)
theorem flX5_73 : FL RX5 73 (TX0 7).1 (TX0 7).2.1 (TX0 7).2.2.1 := Or.inr ⟨"WellTurns", (List.mem_of_getElem? (i := 104) (by decide +kernel))⟩
theorem gX5_73 (hM : M.1.cls = RX5) (hk : ky a = 0) (hd : decode M.2.1 pc = .ok (.getfield 73, 3)) (hp : pc + 3 = pc2) (k : V G M pc2 ls (II (t a 7) :: st) t Q) : V G M pc ls (RR a :: st) t Q := V_get fwX0 (j := 7) (by decide) (flds_rl (by decide)) (hM ▸ flX5_73) hk hd hp k
theorem flX5_88 : FL RX5 88 (TX0 8).1 (TX0 8).2.1 (TX0 8).2.2.1 := Or.inr ⟨"WellTurns", (List.mem_of_getElem? (i := 109) (by decide +kernel))⟩
theorem gX5_88 (hM : M.1.cls = RX5) (hk : ky a = 0) (hr : rf a 8 = b) (hd : decode M.2.1 pc = .ok (.getfield 88, 3)) (hp : pc + 3 = pc2) (k : V G M pc2 ls (RR b :: st) t Q) : V G M pc ls (RR a :: st) t Q := V_get fwX0 (j := 8) (by decide) (flds_rl (by decide)) (hM ▸ flX5_88) hk hd hp (by rw [show fr 0 8 = true from rfl, hr]; exact k)
theorem flX5_91 : FL RX5 91 (TX0 9).1 (TX0 9).2.1 (TX0 9).2.2.1 := Or.inr ⟨"WellTurns", (List.mem_of_getElem? (i := 112) (by decide +kernel))⟩
theorem gX5_91 (hM : M.1.cls = RX5) (hk : ky a = 0) (hr : rf a 9 = b) (hd : decode M.2.1 pc = .ok (.getfield 91, 3)) (hp : pc + 3 = pc2) (k : V G M pc2 ls (RR b :: st) t Q) : V G M pc ls (RR a :: st) t Q := V_get fwX0 (j := 9) (by decide) (flds_rl (by decide)) (hM ▸ flX5_91) hk hd hp (by rw [show fr 0 9 = true from rfl, hr]; exact k)
theorem flX5_94 : FL RX5 94 (TX0 10).1 (TX0 10).2.1 (TX0 10).2.2.1 := Or.inr ⟨"WellTurns", (List.mem_of_getElem? (i := 114) (by decide +kernel))⟩
theorem gX5_94 (hM : M.1.cls = RX5) (hk : ky a = 0) (hr : rf a 10 = b) (hd : decode M.2.1 pc = .ok (.getfield 94, 3)) (hp : pc + 3 = pc2) (k : V G M pc2 ls (RR b :: st) t Q) : V G M pc ls (RR a :: st) t Q := V_get fwX0 (j := 10) (by decide) (flds_rl (by decide)) (hM ▸ flX5_94) hk hd hp (by rw [show fr 0 10 = true from rfl, hr]; exact k)
theorem flX5_101 : FL RX5 101 (TX1 6).1 (TX1 6).2.1 (TX1 6).2.2.1 := Or.inr ⟨"WellTurns", (List.mem_of_getElem? (i := 170) (by decide +kernel))⟩
theorem gX5_101 (hM : M.1.cls = RX5) (hk : ky a = 1) (hr : rf a 6 = b) (hd : decode M.2.1 pc = .ok (.getfield 101, 3)) (hp : pc + 3 = pc2) (k : V G M pc2 ls (RR b :: st) t Q) : V G M pc ls (RR a :: st) t Q := V_get fwX1 (j := 6) (by decide) (flds_rl (by decide)) (hM ▸ flX5_101) hk hd hp (by rw [show fr 1 6 = true from rfl, hr]; exact k)
theorem flX5_104 : FL RX5 104 (TX1 7).1 (TX1 7).2.1 (TX1 7).2.2.1 := Or.inr ⟨"WellTurns", (List.mem_of_getElem? (i := 172) (by decide +kernel))⟩
theorem gX5_104 (hM : M.1.cls = RX5) (hk : ky a = 1) (hr : rf a 7 = b) (hd : decode M.2.1 pc = .ok (.getfield 104, 3)) (hp : pc + 3 = pc2) (k : V G M pc2 ls (RR b :: st) t Q) : V G M pc ls (RR a :: st) t Q := V_get fwX1 (j := 7) (by decide) (flds_rl (by decide)) (hM ▸ flX5_104) hk hd hp (by rw [show fr 1 7 = true from rfl, hr]; exact k)
theorem flX5_111 : FL RX5 111 (TX1 8).1 (TX1 8).2.1 (TX1 8).2.2.1 := Or.inr ⟨"WellTurns", (List.mem_of_getElem? (i := 174) (by decide +kernel))⟩
theorem gX5_111 (hM : M.1.cls = RX5) (hk : ky a = 1) (hr : rf a 8 = b) (hd : decode M.2.1 pc = .ok (.getfield 111, 3)) (hp : pc + 3 = pc2) (k : V G M pc2 ls (RR b :: st) t Q) : V G M pc ls (RR a :: st) t Q := V_get fwX1 (j := 8) (by decide) (flds_rl (by decide)) (hM ▸ flX5_111) hk hd hp (by rw [show fr 1 8 = true from rfl, hr]; exact k)
theorem flX5_127 : FL RX5 127 (TX1 0).1 (TX1 0).2.1 (TX1 0).2.2.1 := Or.inr ⟨"WellTurns", (List.mem_of_getElem? (i := 158) (by decide +kernel))⟩
theorem gX5_127 (hM : M.1.cls = RX5) (hk : ky a = 1) (hd : decode M.2.1 pc = .ok (.getfield 127, 3)) (hp : pc + 3 = pc2) (k : V G M pc2 ls (II (t a 0) :: st) t Q) : V G M pc ls (RR a :: st) t Q := V_get fwX1 (j := 0) (by decide) (flds_rl (by decide)) (hM ▸ flX5_127) hk hd hp k
theorem pX5_127 (hM : M.1.cls = RX5) (hk : ky a = 1) (hd : decode M.2.1 pc = .ok (.putfield 127, 3)) (hp : pc + 3 = pc2) (k : ∀ u, u = wr t a 0 v → V G M pc2 ls st u Q) : V G M pc ls (II v :: RR a :: st) t Q := V_putX fwX1 tyX1_ok nmX1 (j := 0) (ty := .int) (by decide) rfl rfl (by decide +kernel) (hM ▸ flX5_127) rfl rfl hk hd hp k
theorem flX5_130 : FL RX5 130 (TX0 0).1 (TX0 0).2.1 (TX0 0).2.2.1 := Or.inr ⟨"WellTurns", (List.mem_of_getElem? (i := 84) (by decide +kernel))⟩
theorem gX5_130 (hM : M.1.cls = RX5) (hk : ky a = 0) (hd : decode M.2.1 pc = .ok (.getfield 130, 3)) (hp : pc + 3 = pc2) (k : V G M pc2 ls (II (t a 0) :: st) t Q) : V G M pc ls (RR a :: st) t Q := V_get fwX0 (j := 0) (by decide) (flds_rl (by decide)) (hM ▸ flX5_130) hk hd hp k
theorem pX5_130 (hM : M.1.cls = RX5) (hk : ky a = 0) (hd : decode M.2.1 pc = .ok (.putfield 130, 3)) (hp : pc + 3 = pc2) (k : ∀ u, u = wr t a 0 v → V G M pc2 ls st u Q) : V G M pc ls (II v :: RR a :: st) t Q := V_putX fwX0 tyX0_ok nmX0 (j := 0) (ty := .int) (by decide) rfl rfl (by decide +kernel) (hM ▸ flX5_130) rfl rfl hk hd hp k
theorem flX5_133 : FL RX5 133 (TX0 1).1 (TX0 1).2.1 (TX0 1).2.2.1 := Or.inr ⟨"WellTurns", (List.mem_of_getElem? (i := 87) (by decide +kernel))⟩
theorem gX5_133 (hM : M.1.cls = RX5) (hk : ky a = 0) (hd : decode M.2.1 pc = .ok (.getfield 133, 3)) (hp : pc + 3 = pc2) (k : V G M pc2 ls (II (t a 1) :: st) t Q) : V G M pc ls (RR a :: st) t Q := V_get fwX0 (j := 1) (by decide) (flds_rl (by decide)) (hM ▸ flX5_133) hk hd hp k
theorem pX5_133 (hM : M.1.cls = RX5) (hk : ky a = 0) (hd : decode M.2.1 pc = .ok (.putfield 133, 3)) (hp : pc + 3 = pc2) (k : ∀ u, u = wr t a 1 v → V G M pc2 ls st u Q) : V G M pc ls (II v :: RR a :: st) t Q := V_putX fwX0 tyX0_ok nmX0 (j := 1) (ty := .int) (by decide) rfl rfl (by decide +kernel) (hM ▸ flX5_133) rfl rfl hk hd hp k
theorem flX5_136 : FL RX5 136 (TX0 2).1 (TX0 2).2.1 (TX0 2).2.2.1 := Or.inr ⟨"WellTurns", (List.mem_of_getElem? (i := 90) (by decide +kernel))⟩
theorem gX5_136 (hM : M.1.cls = RX5) (hk : ky a = 0) (hd : decode M.2.1 pc = .ok (.getfield 136, 3)) (hp : pc + 3 = pc2) (k : V G M pc2 ls (II (t a 2) :: st) t Q) : V G M pc ls (RR a :: st) t Q := V_get fwX0 (j := 2) (by decide) (flds_rl (by decide)) (hM ▸ flX5_136) hk hd hp k
theorem pX5_136 (hM : M.1.cls = RX5) (hk : ky a = 0) (hd : decode M.2.1 pc = .ok (.putfield 136, 3)) (hp : pc + 3 = pc2) (k : ∀ u, u = wr t a 2 v → V G M pc2 ls st u Q) : V G M pc ls (II v :: RR a :: st) t Q := V_putX fwX0 tyX0_ok nmX0 (j := 2) (ty := .int) (by decide) rfl rfl (by decide +kernel) (hM ▸ flX5_136) rfl rfl hk hd hp k
theorem flX5_139 : FL RX5 139 (TX0 3).1 (TX0 3).2.1 (TX0 3).2.2.1 := Or.inr ⟨"WellTurns", (List.mem_of_getElem? (i := 93) (by decide +kernel))⟩
theorem gX5_139 (hM : M.1.cls = RX5) (hk : ky a = 0) (hd : decode M.2.1 pc = .ok (.getfield 139, 3)) (hp : pc + 3 = pc2) (k : V G M pc2 ls (II (t a 3) :: st) t Q) : V G M pc ls (RR a :: st) t Q := V_get fwX0 (j := 3) (by decide) (flds_rl (by decide)) (hM ▸ flX5_139) hk hd hp k
theorem pX5_139 (hM : M.1.cls = RX5) (hk : ky a = 0) (hd : decode M.2.1 pc = .ok (.putfield 139, 3)) (hp : pc + 3 = pc2) (k : ∀ u, u = wr t a 3 v → V G M pc2 ls st u Q) : V G M pc ls (II v :: RR a :: st) t Q := V_putX fwX0 tyX0_ok nmX0 (j := 3) (ty := .int) (by decide) rfl rfl (by decide +kernel) (hM ▸ flX5_139) rfl rfl hk hd hp k
theorem flX5_142 : FL RX5 142 (TX0 4).1 (TX0 4).2.1 (TX0 4).2.2.1 := Or.inr ⟨"WellTurns", (List.mem_of_getElem? (i := 96) (by decide +kernel))⟩
theorem gX5_142 (hM : M.1.cls = RX5) (hk : ky a = 0) (hd : decode M.2.1 pc = .ok (.getfield 142, 3)) (hp : pc + 3 = pc2) (k : V G M pc2 ls (II (t a 4) :: st) t Q) : V G M pc ls (RR a :: st) t Q := V_get fwX0 (j := 4) (by decide) (flds_rl (by decide)) (hM ▸ flX5_142) hk hd hp k
theorem pX5_142 (hM : M.1.cls = RX5) (hk : ky a = 0) (hd : decode M.2.1 pc = .ok (.putfield 142, 3)) (hp : pc + 3 = pc2) (k : ∀ u, u = wr t a 4 v → V G M pc2 ls st u Q) : V G M pc ls (II v :: RR a :: st) t Q := V_putX fwX0 tyX0_ok nmX0 (j := 4) (ty := .int) (by decide) rfl rfl (by decide +kernel) (hM ▸ flX5_142) rfl rfl hk hd hp k
theorem flX5_145 : FL RX5 145 (TX0 5).1 (TX0 5).2.1 (TX0 5).2.2.1 := Or.inr ⟨"WellTurns", (List.mem_of_getElem? (i := 99) (by decide +kernel))⟩
theorem gX5_145 (hM : M.1.cls = RX5) (hk : ky a = 0) (hd : decode M.2.1 pc = .ok (.getfield 145, 3)) (hp : pc + 3 = pc2) (k : V G M pc2 ls (II (t a 5) :: st) t Q) : V G M pc ls (RR a :: st) t Q := V_get fwX0 (j := 5) (by decide) (flds_rl (by decide)) (hM ▸ flX5_145) hk hd hp k
theorem pX5_145 (hM : M.1.cls = RX5) (hk : ky a = 0) (hd : decode M.2.1 pc = .ok (.putfield 145, 3)) (hp : pc + 3 = pc2) (k : ∀ u, u = wr t a 5 v → V G M pc2 ls st u Q) : V G M pc ls (II v :: RR a :: st) t Q := V_putX fwX0 tyX0_ok nmX0 (j := 5) (ty := .int) (by decide) rfl rfl (by decide +kernel) (hM ▸ flX5_145) rfl rfl hk hd hp k
theorem flX5_148 : FL RX5 148 (TX0 6).1 (TX0 6).2.1 (TX0 6).2.2.1 := Or.inr ⟨"WellTurns", (List.mem_of_getElem? (i := 102) (by decide +kernel))⟩
theorem gX5_148 (hM : M.1.cls = RX5) (hk : ky a = 0) (hd : decode M.2.1 pc = .ok (.getfield 148, 3)) (hp : pc + 3 = pc2) (k : V G M pc2 ls (II (t a 6) :: st) t Q) : V G M pc ls (RR a :: st) t Q := V_get fwX0 (j := 6) (by decide) (flds_rl (by decide)) (hM ▸ flX5_148) hk hd hp k
theorem pX5_148 (hM : M.1.cls = RX5) (hk : ky a = 0) (hd : decode M.2.1 pc = .ok (.putfield 148, 3)) (hp : pc + 3 = pc2) (k : ∀ u, u = wr t a 6 v → V G M pc2 ls st u Q) : V G M pc ls (II v :: RR a :: st) t Q := V_putX fwX0 tyX0_ok nmX0 (j := 6) (ty := .int) (by decide) rfl rfl (by decide +kernel) (hM ▸ flX5_148) rfl rfl hk hd hp k
theorem flX5_154 : FL RX5 154 (TX0 12).1 (TX0 12).2.1 (TX0 12).2.2.1 := Or.inr ⟨"WellTurns", (List.mem_of_getElem? (i := 118) (by decide +kernel))⟩
theorem gX5_154 (hM : M.1.cls = RX5) (hk : ky a = 0) (hr : rf a 12 = b) (hd : decode M.2.1 pc = .ok (.getfield 154, 3)) (hp : pc + 3 = pc2) (k : V G M pc2 ls (RR b :: st) t Q) : V G M pc ls (RR a :: st) t Q := V_get fwX0 (j := 12) (by decide) (flds_rl (by decide)) (hM ▸ flX5_154) hk hd hp (by rw [show fr 0 12 = true from rfl, hr]; exact k)
theorem flX5_160 : FL RX5 160 (TX4 1).1 (TX4 1).2.1 (TX4 1).2.2.1 := Or.inr ⟨"WellTurns", (List.mem_of_getElem? (i := 225) (by decide +kernel))⟩
theorem gX5_160 (hM : M.1.cls = RX5) (hk : ky a = 4) (hd : decode M.2.1 pc = .ok (.getfield 160, 3)) (hp : pc + 3 = pc2) (k : V G M pc2 ls (II (t a 1) :: st) t Q) : V G M pc ls (RR a :: st) t Q := V_get fwX4 (j := 1) (by decide) (flds_rl (by decide)) (hM ▸ flX5_160) hk hd hp k
theorem pX5_160 (hM : M.1.cls = RX5) (hk : ky a = 4) (hd : decode M.2.1 pc = .ok (.putfield 160, 3)) (hp : pc + 3 = pc2) (k : ∀ u, u = wr t a 1 v → V G M pc2 ls st u Q) : V G M pc ls (II v :: RR a :: st) t Q := V_putX fwX4 tyX4_ok nmX4 (j := 1) (ty := .int) (by decide) rfl rfl (by decide +kernel) (hM ▸ flX5_160) rfl rfl hk hd hp k
theorem flX5_171 : FL RX5 171 (TX4 3).1 (TX4 3).2.1 (TX4 3).2.2.1 := Or.inr ⟨"WellTurns", (List.mem_of_getElem? (i := 228) (by decide +kernel))⟩
theorem gX5_171 (hM : M.1.cls = RX5) (hk : ky a = 4) (hd : decode M.2.1 pc = .ok (.getfield 171, 3)) (hp : pc + 3 = pc2) (k : V G M pc2 ls (II (t a 3) :: st) t Q) : V G M pc ls (RR a :: st) t Q := V_get fwX4 (j := 3) (by decide) (flds_rl (by decide)) (hM ▸ flX5_171) hk hd hp k
theorem flX5_176 : FL RX5 176 (TX1 4).1 (TX1 4).2.1 (TX1 4).2.2.1 := Or.inr ⟨"WellTurns", (List.mem_of_getElem? (i := 166) (by decide +kernel))⟩
theorem gX5_176 (hM : M.1.cls = RX5) (hk : ky a = 1) (hd : decode M.2.1 pc = .ok (.getfield 176, 3)) (hp : pc + 3 = pc2) (k : V G M pc2 ls (II (t a 4) :: st) t Q) : V G M pc ls (RR a :: st) t Q := V_get fwX1 (j := 4) (by decide) (flds_rl (by decide)) (hM ▸ flX5_176) hk hd hp k
theorem flX5_179 : FL RX5 179 (TX1 1).1 (TX1 1).2.1 (TX1 1).2.2.1 := Or.inr ⟨"WellTurns", (List.mem_of_getElem? (i := 160) (by decide +kernel))⟩
theorem gX5_179 (hM : M.1.cls = RX5) (hk : ky a = 1) (hd : decode M.2.1 pc = .ok (.getfield 179, 3)) (hp : pc + 3 = pc2) (k : V G M pc2 ls (II (t a 1) :: st) t Q) : V G M pc ls (RR a :: st) t Q := V_get fwX1 (j := 1) (by decide) (flds_rl (by decide)) (hM ▸ flX5_179) hk hd hp k
theorem flX5_182 : FL RX5 182 (TX1 2).1 (TX1 2).2.1 (TX1 2).2.2.1 := Or.inr ⟨"WellTurns", (List.mem_of_getElem? (i := 162) (by decide +kernel))⟩
theorem gX5_182 (hM : M.1.cls = RX5) (hk : ky a = 1) (hd : decode M.2.1 pc = .ok (.getfield 182, 3)) (hp : pc + 3 = pc2) (k : V G M pc2 ls (II (t a 2) :: st) t Q) : V G M pc ls (RR a :: st) t Q := V_get fwX1 (j := 2) (by decide) (flds_rl (by decide)) (hM ▸ flX5_182) hk hd hp k
theorem flX5_185 : FL RX5 185 (TX1 3).1 (TX1 3).2.1 (TX1 3).2.2.1 := Or.inr ⟨"WellTurns", (List.mem_of_getElem? (i := 164) (by decide +kernel))⟩
theorem gX5_185 (hM : M.1.cls = RX5) (hk : ky a = 1) (hd : decode M.2.1 pc = .ok (.getfield 185, 3)) (hp : pc + 3 = pc2) (k : V G M pc2 ls (II (t a 3) :: st) t Q) : V G M pc ls (RR a :: st) t Q := V_get fwX1 (j := 3) (by decide) (flds_rl (by decide)) (hM ▸ flX5_185) hk hd hp k
theorem flX5_188 : FL RX5 188 (TX2 2).1 (TX2 2).2.1 (TX2 2).2.2.1 := Or.inr ⟨"WellTurns", (List.mem_of_getElem? (i := 209) (by decide +kernel))⟩
theorem gX5_188 (hM : M.1.cls = RX5) (hk : ky a = 2) (hd : decode M.2.1 pc = .ok (.getfield 188, 3)) (hp : pc + 3 = pc2) (k : V G M pc2 ls (II (t a 2) :: st) t Q) : V G M pc ls (RR a :: st) t Q := V_get fwX2 (j := 2) (by decide) (flds_rl (by decide)) (hM ▸ flX5_188) hk hd hp k
theorem flX5_216 : FL RX5 216 (TX1 5).1 (TX1 5).2.1 (TX1 5).2.2.1 := Or.inr ⟨"WellTurns", (List.mem_of_getElem? (i := 168) (by decide +kernel))⟩
theorem gX5_216 (hM : M.1.cls = RX5) (hk : ky a = 1) (hd : decode M.2.1 pc = .ok (.getfield 216, 3)) (hp : pc + 3 = pc2) (k : V G M pc2 ls (II (t a 5) :: st) t Q) : V G M pc ls (RR a :: st) t Q := V_get fwX1 (j := 5) (by decide) (flds_rl (by decide)) (hM ▸ flX5_216) hk hd hp k
theorem pX5_216 (hM : M.1.cls = RX5) (hk : ky a = 1) (hd : decode M.2.1 pc = .ok (.putfield 216, 3)) (hp : pc + 3 = pc2) (k : ∀ u, u = wr t a 5 v → V G M pc2 ls st u Q) : V G M pc ls (II v :: RR a :: st) t Q := V_putX fwX1 tyX1_ok nmX1 (j := 5) (ty := .int) (by decide) rfl rfl (by decide +kernel) (hM ▸ flX5_216) rfl rfl hk hd hp k
theorem flX5_259 : FL RX5 259 (TX5 3).1 (TX5 3).2.1 (TX5 3).2.2.1 := Or.inl (List.mem_of_getElem? (i := 262) (by decide +kernel))
theorem gX5_259 (hM : M.1.cls = RX5) (hk : ky a = 5) (hd : decode M.2.1 pc = .ok (.getfield 259, 3)) (hp : pc + 3 = pc2) (k : V G M pc2 ls (II (t a 3) :: st) t Q) : V G M pc ls (RR a :: st) t Q := V_get fwX5 (j := 3) (by decide) (flds_rl (by decide)) (hM ▸ flX5_259) hk hd hp k
theorem pX5_259 (hM : M.1.cls = RX5) (hv : v = 0 ∨ v = 1) (hk : ky a = 5) (hd : decode M.2.1 pc = .ok (.putfield 259, 3)) (hp : pc + 3 = pc2) (k : ∀ u, u = wr t a 3 v → V G M pc2 ls st u Q) : V G M pc ls (II v :: RR a :: st) t Q := V_putX fwX5 tyX5_ok nmX5 (j := 3) (ty := .boolean) (by decide) rfl rfl (by decide +kernel) (hM ▸ flX5_259) (by rcases hv with rfl | rfl <;> rfl) (by rcases hv with rfl | rfl <;> rfl) hk hd hp k
theorem flX5_287 : FL RX5 287 (TX3 2).1 (TX3 2).2.1 (TX3 2).2.2.1 := Or.inr ⟨"WellTurns", (List.mem_of_getElem? (i := 250) (by decide +kernel))⟩
theorem gX5_287 (hM : M.1.cls = RX5) (hk : ky a = 3) (hr : rf a 2 = b) (hd : decode M.2.1 pc = .ok (.getfield 287, 3)) (hp : pc + 3 = pc2) (k : V G M pc2 ls (RR b :: st) t Q) : V G M pc ls (RR a :: st) t Q := V_get fwX3 (j := 2) (by decide) (flds_rl (by decide)) (hM ▸ flX5_287) hk hd hp (by rw [show fr 3 2 = true from rfl, hr]; exact k)
theorem flX5_301 : FL RX5 301 (TX3 0).1 (TX3 0).2.1 (TX3 0).2.2.1 := Or.inr ⟨"WellTurns", (List.mem_of_getElem? (i := 246) (by decide +kernel))⟩
theorem gX5_301 (hM : M.1.cls = RX5) (hk : ky a = 3) (hd : decode M.2.1 pc = .ok (.getfield 301, 3)) (hp : pc + 3 = pc2) (k : V G M pc2 ls (II (t a 0) :: st) t Q) : V G M pc ls (RR a :: st) t Q := V_get fwX3 (j := 0) (by decide) (flds_rl (by decide)) (hM ▸ flX5_301) hk hd hp k
theorem flX5_304 : FL RX5 304 (TX3 1).1 (TX3 1).2.1 (TX3 1).2.2.1 := Or.inr ⟨"WellTurns", (List.mem_of_getElem? (i := 248) (by decide +kernel))⟩
theorem gX5_304 (hM : M.1.cls = RX5) (hk : ky a = 3) (hd : decode M.2.1 pc = .ok (.getfield 304, 3)) (hp : pc + 3 = pc2) (k : V G M pc2 ls (II (t a 1) :: st) t Q) : V G M pc ls (RR a :: st) t Q := V_get fwX3 (j := 1) (by decide) (flds_rl (by decide)) (hM ▸ flX5_304) hk hd hp k
theorem flX6_7 : FL RX6 7 (TX6 0).1 (TX6 0).2.1 (TX6 0).2.2.1 := Or.inl (List.mem_of_getElem? (i := 698) (by decide +kernel))
theorem gX6_7 (hM : M.1.cls = RX6) (hk : ky a = 6) (hr : rf a 0 = b) (hd : decode M.2.1 pc = .ok (.getfield 7, 3)) (hp : pc + 3 = pc2) (k : V G M pc2 ls (RR b :: st) t Q) : V G M pc ls (RR a :: st) t Q := V_get fwX6 (j := 0) (by decide) (flds_rl (by decide)) (hM ▸ flX6_7) hk hd hp (by rw [show fr 6 0 = true from rfl, hr]; exact k)
theorem flX6_13 : FL RX6 13 (TX6 1).1 (TX6 1).2.1 (TX6 1).2.2.1 := Or.inl (List.mem_of_getElem? (i := 699) (by decide +kernel))
theorem gX6_13 (hM : M.1.cls = RX6) (hk : ky a = 6) (hr : rf a 1 = b) (hd : decode M.2.1 pc = .ok (.getfield 13, 3)) (hp : pc + 3 = pc2) (k : V G M pc2 ls (RR b :: st) t Q) : V G M pc ls (RR a :: st) t Q := V_get fwX6 (j := 1) (by decide) (flds_rl (by decide)) (hM ▸ flX6_13) hk hd hp (by rw [show fr 6 1 = true from rfl, hr]; exact k)
theorem flX6_16 : FL RX6 16 (TX6 2).1 (TX6 2).2.1 (TX6 2).2.2.1 := Or.inl (List.mem_of_getElem? (i := 700) (by decide +kernel))
theorem gX6_16 (hM : M.1.cls = RX6) (hk : ky a = 6) (hd : decode M.2.1 pc = .ok (.getfield 16, 3)) (hp : pc + 3 = pc2) (k : V G M pc2 ls (II (t a 2) :: st) t Q) : V G M pc ls (RR a :: st) t Q := V_get fwX6 (j := 2) (by decide) (flds_rl (by decide)) (hM ▸ flX6_16) hk hd hp k
theorem pX6_16 (hM : M.1.cls = RX6) (hk : ky a = 6) (hd : decode M.2.1 pc = .ok (.putfield 16, 3)) (hp : pc + 3 = pc2) (k : ∀ u, u = wr t a 2 v → V G M pc2 ls st u Q) : V G M pc ls (II v :: RR a :: st) t Q := V_putX fwX6 tyX6_ok nmX6 (j := 2) (ty := .int) (by decide) rfl rfl (by decide +kernel) (hM ▸ flX6_16) rfl rfl hk hd hp k
theorem flX6_20 : FL RX6 20 (TX6 4).1 (TX6 4).2.1 (TX6 4).2.2.1 := Or.inl (List.mem_of_getElem? (i := 702) (by decide +kernel))
theorem gX6_20 (hM : M.1.cls = RX6) (hk : ky a = 6) (hr : rf a 4 = b) (hd : decode M.2.1 pc = .ok (.getfield 20, 3)) (hp : pc + 3 = pc2) (k : V G M pc2 ls (RR b :: st) t Q) : V G M pc ls (RR a :: st) t Q := V_get fwX6 (j := 4) (by decide) (flds_rl (by decide)) (hM ▸ flX6_20) hk hd hp (by rw [show fr 6 4 = true from rfl, hr]; exact k)
theorem flX6_23 : FL RX6 23 (TX6 6).1 (TX6 6).2.1 (TX6 6).2.2.1 := Or.inl (List.mem_of_getElem? (i := 704) (by decide +kernel))
theorem gX6_23 (hM : M.1.cls = RX6) (hk : ky a = 6) (hr : rf a 6 = b) (hd : decode M.2.1 pc = .ok (.getfield 23, 3)) (hp : pc + 3 = pc2) (k : V G M pc2 ls (RR b :: st) t Q) : V G M pc ls (RR a :: st) t Q := V_get fwX6 (j := 6) (by decide) (flds_rl (by decide)) (hM ▸ flX6_23) hk hd hp (by rw [show fr 6 6 = true from rfl, hr]; exact k)
theorem flX6_26 : FL RX6 26 (TX6 7).1 (TX6 7).2.1 (TX6 7).2.2.1 := Or.inl (List.mem_of_getElem? (i := 705) (by decide +kernel))
theorem gX6_26 (hM : M.1.cls = RX6) (hk : ky a = 6) (hr : rf a 7 = b) (hd : decode M.2.1 pc = .ok (.getfield 26, 3)) (hp : pc + 3 = pc2) (k : V G M pc2 ls (RR b :: st) t Q) : V G M pc ls (RR a :: st) t Q := V_get fwX6 (j := 7) (by decide) (flds_rl (by decide)) (hM ▸ flX6_26) hk hd hp (by rw [show fr 6 7 = true from rfl, hr]; exact k)
theorem flX6_29 : FL RX6 29 (TX6 8).1 (TX6 8).2.1 (TX6 8).2.2.1 := Or.inl (List.mem_of_getElem? (i := 706) (by decide +kernel))
theorem gX6_29 (hM : M.1.cls = RX6) (hk : ky a = 6) (hr : rf a 8 = b) (hd : decode M.2.1 pc = .ok (.getfield 29, 3)) (hp : pc + 3 = pc2) (k : V G M pc2 ls (RR b :: st) t Q) : V G M pc ls (RR a :: st) t Q := V_get fwX6 (j := 8) (by decide) (flds_rl (by decide)) (hM ▸ flX6_29) hk hd hp (by rw [show fr 6 8 = true from rfl, hr]; exact k)
theorem flX6_32 : FL RX6 32 (TX6 12).1 (TX6 12).2.1 (TX6 12).2.2.1 := Or.inl (List.mem_of_getElem? (i := 710) (by decide +kernel))
theorem gX6_32 (hM : M.1.cls = RX6) (hk : ky a = 6) (hr : rf a 12 = b) (hd : decode M.2.1 pc = .ok (.getfield 32, 3)) (hp : pc + 3 = pc2) (k : V G M pc2 ls (RR b :: st) t Q) : V G M pc ls (RR a :: st) t Q := V_get fwX6 (j := 12) (by decide) (flds_rl (by decide)) (hM ▸ flX6_32) hk hd hp (by rw [show fr 6 12 = true from rfl, hr]; exact k)
theorem flX6_35 : FL RX6 35 (TX6 13).1 (TX6 13).2.1 (TX6 13).2.2.1 := Or.inl (List.mem_of_getElem? (i := 711) (by decide +kernel))
theorem gX6_35 (hM : M.1.cls = RX6) (hk : ky a = 6) (hr : rf a 13 = b) (hd : decode M.2.1 pc = .ok (.getfield 35, 3)) (hp : pc + 3 = pc2) (k : V G M pc2 ls (RR b :: st) t Q) : V G M pc ls (RR a :: st) t Q := V_get fwX6 (j := 13) (by decide) (flds_rl (by decide)) (hM ▸ flX6_35) hk hd hp (by rw [show fr 6 13 = true from rfl, hr]; exact k)
theorem flX6_38 : FL RX6 38 (TX6 16).1 (TX6 16).2.1 (TX6 16).2.2.1 := Or.inl (List.mem_of_getElem? (i := 714) (by decide +kernel))
theorem gX6_38 (hM : M.1.cls = RX6) (hk : ky a = 6) (hr : rf a 16 = b) (hd : decode M.2.1 pc = .ok (.getfield 38, 3)) (hp : pc + 3 = pc2) (k : V G M pc2 ls (RR b :: st) t Q) : V G M pc ls (RR a :: st) t Q := V_get fwX6 (j := 16) (by decide) (flds_rl (by decide)) (hM ▸ flX6_38) hk hd hp (by rw [show fr 6 16 = true from rfl, hr]; exact k)
theorem flX6_41 : FL RX6 41 (TX6 17).1 (TX6 17).2.1 (TX6 17).2.2.1 := Or.inl (List.mem_of_getElem? (i := 715) (by decide +kernel))
theorem gX6_41 (hM : M.1.cls = RX6) (hk : ky a = 6) (hr : rf a 17 = b) (hd : decode M.2.1 pc = .ok (.getfield 41, 3)) (hp : pc + 3 = pc2) (k : V G M pc2 ls (RR b :: st) t Q) : V G M pc ls (RR a :: st) t Q := V_get fwX6 (j := 17) (by decide) (flds_rl (by decide)) (hM ▸ flX6_41) hk hd hp (by rw [show fr 6 17 = true from rfl, hr]; exact k)
theorem flX6_44 : FL RX6 44 (TX6 18).1 (TX6 18).2.1 (TX6 18).2.2.1 := Or.inl (List.mem_of_getElem? (i := 716) (by decide +kernel))
theorem gX6_44 (hM : M.1.cls = RX6) (hk : ky a = 6) (hr : rf a 18 = b) (hd : decode M.2.1 pc = .ok (.getfield 44, 3)) (hp : pc + 3 = pc2) (k : V G M pc2 ls (RR b :: st) t Q) : V G M pc ls (RR a :: st) t Q := V_get fwX6 (j := 18) (by decide) (flds_rl (by decide)) (hM ▸ flX6_44) hk hd hp (by rw [show fr 6 18 = true from rfl, hr]; exact k)
theorem flX6_48 : FL RX6 48 (TX6 19).1 (TX6 19).2.1 (TX6 19).2.2.1 := Or.inl (List.mem_of_getElem? (i := 717) (by decide +kernel))
theorem gX6_48 (hM : M.1.cls = RX6) (hk : ky a = 6) (hr : rf a 19 = b) (hd : decode M.2.1 pc = .ok (.getfield 48, 3)) (hp : pc + 3 = pc2) (k : V G M pc2 ls (RR b :: st) t Q) : V G M pc ls (RR a :: st) t Q := V_get fwX6 (j := 19) (by decide) (flds_rl (by decide)) (hM ▸ flX6_48) hk hd hp (by rw [show fr 6 19 = true from rfl, hr]; exact k)
theorem flX6_74 : FL RX6 74 (TX6 5).1 (TX6 5).2.1 (TX6 5).2.2.1 := Or.inl (List.mem_of_getElem? (i := 703) (by decide +kernel))
theorem gX6_74 (hM : M.1.cls = RX6) (hk : ky a = 6) (hd : decode M.2.1 pc = .ok (.getfield 74, 3)) (hp : pc + 3 = pc2) (k : V G M pc2 ls (II (t a 5) :: st) t Q) : V G M pc ls (RR a :: st) t Q := V_get fwX6 (j := 5) (by decide) (flds_rl (by decide)) (hM ▸ flX6_74) hk hd hp k
theorem pX6_74 (hM : M.1.cls = RX6) (hk : ky a = 6) (hd : decode M.2.1 pc = .ok (.putfield 74, 3)) (hp : pc + 3 = pc2) (k : ∀ u, u = wr t a 5 v → V G M pc2 ls st u Q) : V G M pc ls (II v :: RR a :: st) t Q := V_putX fwX6 tyX6_ok nmX6 (j := 5) (ty := .int) (by decide) rfl rfl (by decide +kernel) (hM ▸ flX6_74) rfl rfl hk hd hp k
theorem flX6_111 : FL RX6 111 (TX6 3).1 (TX6 3).2.1 (TX6 3).2.2.1 := Or.inl (List.mem_of_getElem? (i := 701) (by decide +kernel))
theorem gX6_111 (hM : M.1.cls = RX6) (hk : ky a = 6) (hd : decode M.2.1 pc = .ok (.getfield 111, 3)) (hp : pc + 3 = pc2) (k : V G M pc2 ls (II (t a 3) :: st) t Q) : V G M pc ls (RR a :: st) t Q := V_get fwX6 (j := 3) (by decide) (flds_rl (by decide)) (hM ▸ flX6_111) hk hd hp k
theorem pX6_111 (hM : M.1.cls = RX6) (hk : ky a = 6) (hd : decode M.2.1 pc = .ok (.putfield 111, 3)) (hp : pc + 3 = pc2) (k : ∀ u, u = wr t a 3 v → V G M pc2 ls st u Q) : V G M pc ls (II v :: RR a :: st) t Q := V_putX fwX6 tyX6_ok nmX6 (j := 3) (ty := .int) (by decide) rfl rfl (by decide +kernel) (hM ▸ flX6_111) rfl rfl hk hd hp k
theorem flX6_170 : FL RX6 170 (TX6 9).1 (TX6 9).2.1 (TX6 9).2.2.1 := Or.inl (List.mem_of_getElem? (i := 707) (by decide +kernel))
theorem gX6_170 (hM : M.1.cls = RX6) (hk : ky a = 6) (hd : decode M.2.1 pc = .ok (.getfield 170, 3)) (hp : pc + 3 = pc2) (k : V G M pc2 ls (II (t a 9) :: st) t Q) : V G M pc ls (RR a :: st) t Q := V_get fwX6 (j := 9) (by decide) (flds_rl (by decide)) (hM ▸ flX6_170) hk hd hp k
theorem pX6_170 (hM : M.1.cls = RX6) (hk : ky a = 6) (hd : decode M.2.1 pc = .ok (.putfield 170, 3)) (hp : pc + 3 = pc2) (k : ∀ u, u = wr t a 9 v → V G M pc2 ls st u Q) : V G M pc ls (II v :: RR a :: st) t Q := V_putX fwX6 tyX6_ok nmX6 (j := 9) (ty := .int) (by decide) rfl rfl (by decide +kernel) (hM ▸ flX6_170) rfl rfl hk hd hp k
theorem flX6_173 : FL RX6 173 (TX6 10).1 (TX6 10).2.1 (TX6 10).2.2.1 := Or.inl (List.mem_of_getElem? (i := 708) (by decide +kernel))
theorem gX6_173 (hM : M.1.cls = RX6) (hk : ky a = 6) (hd : decode M.2.1 pc = .ok (.getfield 173, 3)) (hp : pc + 3 = pc2) (k : V G M pc2 ls (II (t a 10) :: st) t Q) : V G M pc ls (RR a :: st) t Q := V_get fwX6 (j := 10) (by decide) (flds_rl (by decide)) (hM ▸ flX6_173) hk hd hp k
theorem pX6_173 (hM : M.1.cls = RX6) (hk : ky a = 6) (hd : decode M.2.1 pc = .ok (.putfield 173, 3)) (hp : pc + 3 = pc2) (k : ∀ u, u = wr t a 10 v → V G M pc2 ls st u Q) : V G M pc ls (II v :: RR a :: st) t Q := V_putX fwX6 tyX6_ok nmX6 (j := 10) (ty := .int) (by decide) rfl rfl (by decide +kernel) (hM ▸ flX6_173) rfl rfl hk hd hp k
theorem flX6_176 : FL RX6 176 (TX6 11).1 (TX6 11).2.1 (TX6 11).2.2.1 := Or.inl (List.mem_of_getElem? (i := 709) (by decide +kernel))
theorem gX6_176 (hM : M.1.cls = RX6) (hk : ky a = 6) (hd : decode M.2.1 pc = .ok (.getfield 176, 3)) (hp : pc + 3 = pc2) (k : V G M pc2 ls (II (t a 11) :: st) t Q) : V G M pc ls (RR a :: st) t Q := V_get fwX6 (j := 11) (by decide) (flds_rl (by decide)) (hM ▸ flX6_176) hk hd hp k
theorem pX6_176 (hM : M.1.cls = RX6) (hv : v = 0 ∨ v = 1) (hk : ky a = 6) (hd : decode M.2.1 pc = .ok (.putfield 176, 3)) (hp : pc + 3 = pc2) (k : ∀ u, u = wr t a 11 v → V G M pc2 ls st u Q) : V G M pc ls (II v :: RR a :: st) t Q := V_putX fwX6 tyX6_ok nmX6 (j := 11) (ty := .boolean) (by decide) rfl rfl (by decide +kernel) (hM ▸ flX6_176) (by rcases hv with rfl | rfl <;> rfl) (by rcases hv with rfl | rfl <;> rfl) hk hd hp k
theorem flX6_204 : FL RX6 204 (TX6 14).1 (TX6 14).2.1 (TX6 14).2.2.1 := Or.inl (List.mem_of_getElem? (i := 712) (by decide +kernel))
theorem gX6_204 (hM : M.1.cls = RX6) (hk : ky a = 6) (hd : decode M.2.1 pc = .ok (.getfield 204, 3)) (hp : pc + 3 = pc2) (k : V G M pc2 ls (II (t a 14) :: st) t Q) : V G M pc ls (RR a :: st) t Q := V_get fwX6 (j := 14) (by decide) (flds_rl (by decide)) (hM ▸ flX6_204) hk hd hp k
theorem pX6_204 (hM : M.1.cls = RX6) (hk : ky a = 6) (hd : decode M.2.1 pc = .ok (.putfield 204, 3)) (hp : pc + 3 = pc2) (k : ∀ u, u = wr t a 14 v → V G M pc2 ls st u Q) : V G M pc ls (II v :: RR a :: st) t Q := V_putX fwX6 tyX6_ok nmX6 (j := 14) (ty := .int) (by decide) rfl rfl (by decide +kernel) (hM ▸ flX6_204) rfl rfl hk hd hp k
theorem flX6_207 : FL RX6 207 (TX6 15).1 (TX6 15).2.1 (TX6 15).2.2.1 := Or.inl (List.mem_of_getElem? (i := 713) (by decide +kernel))
theorem gX6_207 (hM : M.1.cls = RX6) (hk : ky a = 6) (hd : decode M.2.1 pc = .ok (.getfield 207, 3)) (hp : pc + 3 = pc2) (k : V G M pc2 ls (II (t a 15) :: st) t Q) : V G M pc ls (RR a :: st) t Q := V_get fwX6 (j := 15) (by decide) (flds_rl (by decide)) (hM ▸ flX6_207) hk hd hp k
theorem pX6_207 (hM : M.1.cls = RX6) (hv : v = 0 ∨ v = 1) (hk : ky a = 6) (hd : decode M.2.1 pc = .ok (.putfield 207, 3)) (hp : pc + 3 = pc2) (k : ∀ u, u = wr t a 15 v → V G M pc2 ls st u Q) : V G M pc ls (II v :: RR a :: st) t Q := V_putX fwX6 tyX6_ok nmX6 (j := 15) (ty := .boolean) (by decide) rfl rfl (by decide +kernel) (hM ▸ flX6_207) (by rcases hv with rfl | rfl <;> rfl) (by rcases hv with rfl | rfl <;> rfl) hk hd hp k
end LK
def mX0_takeFrom : MI := (yX0_takeFrom, cX0_takeFrom, 2, none, 1)
theorem okX0_takeFrom : OkV mX0_takeFrom 1 0 := ⟨⟨(List.mem_of_getElem? (i := 403) (by decide +kernel)), (List.mem_of_getElem? (i := 59) (by decide +kernel)), by decide +kernel, by decide +kernel, by decide⟩, (List.mem_of_getElem? (i := 401) (by decide +kernel)), (List.mem_of_getElem? (i := 402) (by decide +kernel)), by decide, by decide +kernel⟩
def mX0_lacks : MI := (yX0_lacks, cX0_lacks, 2, some .boolean, 0)
theorem okX0_lacks : OkV mX0_lacks 1 0 := ⟨⟨(List.mem_of_getElem? (i := 327) (by decide +kernel)), (List.mem_of_getElem? (i := 59) (by decide +kernel)), by decide +kernel, by decide +kernel, by decide⟩, (List.mem_of_getElem? (i := 325) (by decide +kernel)), (List.mem_of_getElem? (i := 326) (by decide +kernel)), by decide, by decide +kernel⟩
def mX0_add : MI := (yX0_add, cX0_add, 4, none, 1)
theorem okX0_add : OkV mX0_add 3 0 := ⟨⟨(List.mem_of_getElem? (i := 316) (by decide +kernel)), (List.mem_of_getElem? (i := 59) (by decide +kernel)), by decide +kernel, by decide +kernel, by decide⟩, (List.mem_of_getElem? (i := 314) (by decide +kernel)), (List.mem_of_getElem? (i := 315) (by decide +kernel)), by decide, by decide +kernel⟩
def mX0_arrange : MI := (yX0_arrange, cX0_arrange, 1, none, 2)
theorem okX0_arrange : OkV mX0_arrange 0 0 := ⟨⟨(List.mem_of_getElem? (i := 363) (by decide +kernel)), (List.mem_of_getElem? (i := 59) (by decide +kernel)), by decide +kernel, by decide +kernel, by decide⟩, (List.mem_of_getElem? (i := 361) (by decide +kernel)), (List.mem_of_getElem? (i := 362) (by decide +kernel)), by decide, by decide +kernel⟩
def mX0_lineAsTheyCome : MI := (yX0_lineAsTheyCome, cX0_lineAsTheyCome, 2, none, 1)
theorem okX0_lineAsTheyCome : OkV mX0_lineAsTheyCome 0 0 := ⟨⟨(List.mem_of_getElem? (i := 387) (by decide +kernel)), (List.mem_of_getElem? (i := 59) (by decide +kernel)), by decide +kernel, by decide +kernel, by decide⟩, (List.mem_of_getElem? (i := 386) (by decide +kernel)), (List.mem_of_getElem? (i := 6) (by decide +kernel)), by decide, by decide +kernel⟩
def mX0_lineByDays : MI := (yX0_lineByDays, cX0_lineByDays, 3, none, 1)
theorem okX0_lineByDays : OkV mX0_lineByDays 0 0 := ⟨⟨(List.mem_of_getElem? (i := 367) (by decide +kernel)), (List.mem_of_getElem? (i := 59) (by decide +kernel)), by decide +kernel, by decide +kernel, by decide⟩, (List.mem_of_getElem? (i := 366) (by decide +kernel)), (List.mem_of_getElem? (i := 1) (by decide +kernel)), by decide, by decide +kernel⟩
def mX0_lineMilky : MI := (yX0_lineMilky, cX0_lineMilky, 3, none, 1)
theorem okX0_lineMilky : OkV mX0_lineMilky 1 0 := ⟨⟨(List.mem_of_getElem? (i := 375) (by decide +kernel)), (List.mem_of_getElem? (i := 59) (by decide +kernel)), by decide +kernel, by decide +kernel, by decide⟩, (List.mem_of_getElem? (i := 374) (by decide +kernel)), (List.mem_of_getElem? (i := 3) (by decide +kernel)), by decide, by decide +kernel⟩
def mX0_lineByTurns : MI := (yX0_lineByTurns, cX0_lineByTurns, 4, none, 1)
theorem okX0_lineByTurns : OkV mX0_lineByTurns 0 0 := ⟨⟨(List.mem_of_getElem? (i := 379) (by decide +kernel)), (List.mem_of_getElem? (i := 59) (by decide +kernel)), by decide +kernel, by decide +kernel, by decide⟩, (List.mem_of_getElem? (i := 378) (by decide +kernel)), (List.mem_of_getElem? (i := 4) (by decide +kernel)), by decide, by decide +kernel⟩
def mX0_nextOf : MI := (yX0_nextOf, cX0_nextOf, 4, some .int, 0)
theorem okX0_nextOf : OkV mX0_nextOf 2 0 := ⟨⟨(List.mem_of_getElem? (i := 383) (by decide +kernel)), (List.mem_of_getElem? (i := 59) (by decide +kernel)), by decide +kernel, by decide +kernel, by decide⟩, (List.mem_of_getElem? (i := 382) (by decide +kernel)), (List.mem_of_getElem? (i := 5) (by decide +kernel)), by decide, by decide +kernel⟩
def mX0_lineUp : MI := (yX0_lineUp, cX0_lineUp, 2, none, 0)
theorem okX0_lineUp : OkV mX0_lineUp 1 0 := ⟨⟨(List.mem_of_getElem? (i := 371) (by decide +kernel)), (List.mem_of_getElem? (i := 59) (by decide +kernel)), by decide +kernel, by decide +kernel, by decide⟩, (List.mem_of_getElem? (i := 370) (by decide +kernel)), (List.mem_of_getElem? (i := 2) (by decide +kernel)), by decide, by decide +kernel⟩
def mX1_takeFrom : MI := (yX1_takeFrom, cX1_takeFrom, 2, none, 1)
theorem okX1_takeFrom : OkV mX1_takeFrom 1 1 := ⟨⟨(List.mem_of_getElem? (i := 477) (by decide +kernel)), (List.mem_of_getElem? (i := 60) (by decide +kernel)), by decide +kernel, by decide +kernel, by decide⟩, (List.mem_of_getElem? (i := 475) (by decide +kernel)), (List.mem_of_getElem? (i := 476) (by decide +kernel)), by decide, by decide +kernel⟩
def mX1_begin : MI := (yX1_begin, cX1_begin, 3, none, 0)
theorem okX1_begin : OkV mX1_begin 1 1 := ⟨⟨(List.mem_of_getElem? (i := 448) (by decide +kernel)), (List.mem_of_getElem? (i := 60) (by decide +kernel)), by decide +kernel, by decide +kernel, by decide⟩, (List.mem_of_getElem? (i := 446) (by decide +kernel)), (List.mem_of_getElem? (i := 447) (by decide +kernel)), by decide, by decide +kernel⟩
def mX1_needs : MI := (yX1_needs, cX1_needs, 3, some .int, 0)
theorem okX1_needs : OkV mX1_needs 2 1 := ⟨⟨(List.mem_of_getElem? (i := 331) (by decide +kernel)), (List.mem_of_getElem? (i := 60) (by decide +kernel)), by decide +kernel, by decide +kernel, by decide⟩, (List.mem_of_getElem? (i := 329) (by decide +kernel)), (List.mem_of_getElem? (i := 330) (by decide +kernel)), by decide, by decide +kernel⟩
def mX1_needsYet : MI := (yX1_needsYet, cX1_needsYet, 3, some .int, 1)
theorem okX1_needsYet : OkV mX1_needsYet 2 1 := ⟨⟨(List.mem_of_getElem? (i := 506) (by decide +kernel)), (List.mem_of_getElem? (i := 60) (by decide +kernel)), by decide +kernel, by decide +kernel, by decide⟩, (List.mem_of_getElem? (i := 505) (by decide +kernel)), (List.mem_of_getElem? (i := 19) (by decide +kernel)), by decide, by decide +kernel⟩
def mX1_needsYetOf : MI := (yX1_needsYetOf, cX1_needsYetOf, 5, some .int, 2)
theorem okX1_needsYetOf : OkV mX1_needsYetOf 2 1 := ⟨⟨(List.mem_of_getElem? (i := 618) (by decide +kernel)), (List.mem_of_getElem? (i := 60) (by decide +kernel)), by decide +kernel, by decide +kernel, by decide⟩, (List.mem_of_getElem? (i := 616) (by decide +kernel)), (List.mem_of_getElem? (i := 617) (by decide +kernel)), by decide, by decide +kernel⟩
def mX1_sated : MI := (yX1_sated, cX1_sated, 3, some .boolean, 1)
theorem okX1_sated : OkV mX1_sated 2 1 := ⟨⟨(List.mem_of_getElem? (i := 335) (by decide +kernel)), (List.mem_of_getElem? (i := 60) (by decide +kernel)), by decide +kernel, by decide +kernel, by decide⟩, (List.mem_of_getElem? (i := 333) (by decide +kernel)), (List.mem_of_getElem? (i := 334) (by decide +kernel)), by decide, by decide +kernel⟩
def mX1_satedSet : MI := (yX1_satedSet, cX1_satedSet, 4, some .int, 2)
theorem okX1_satedSet : OkV mX1_satedSet 1 1 := ⟨⟨(List.mem_of_getElem? (i := 456) (by decide +kernel)), (List.mem_of_getElem? (i := 60) (by decide +kernel)), by decide +kernel, by decide +kernel, by decide⟩, (List.mem_of_getElem? (i := 454) (by decide +kernel)), (List.mem_of_getElem? (i := 455) (by decide +kernel)), by decide, by decide +kernel⟩
def mX1_allSated : MI := (yX1_allSated, cX1_allSated, 3, some .boolean, 2)
theorem okX1_allSated : OkV mX1_allSated 1 1 := ⟨⟨(List.mem_of_getElem? (i := 571) (by decide +kernel)), (List.mem_of_getElem? (i := 60) (by decide +kernel)), by decide +kernel, by decide +kernel, by decide⟩, (List.mem_of_getElem? (i := 569) (by decide +kernel)), (List.mem_of_getElem? (i := 570) (by decide +kernel)), by decide, by decide +kernel⟩
def mX1_drunkTogether : MI := (yX1_drunkTogether, cX1_drunkTogether, 3, some .int, 0)
theorem okX1_drunkTogether : OkV mX1_drunkTogether 0 1 := ⟨⟨(List.mem_of_getElem? (i := 461) (by decide +kernel)), (List.mem_of_getElem? (i := 60) (by decide +kernel)), by decide +kernel, by decide +kernel, by decide⟩, (List.mem_of_getElem? (i := 459) (by decide +kernel)), (List.mem_of_getElem? (i := 460) (by decide +kernel)), by decide, by decide +kernel⟩
def mX1_step : MI := (yX1_step, cX1_step, 7, some .boolean, 3)
theorem okX1_step : OkV mX1_step 2 1 := ⟨⟨(List.mem_of_getElem? (i := 485) (by decide +kernel)), (List.mem_of_getElem? (i := 60) (by decide +kernel)), by decide +kernel, by decide +kernel, by decide⟩, (List.mem_of_getElem? (i := 483) (by decide +kernel)), (List.mem_of_getElem? (i := 484) (by decide +kernel)), by decide, by decide +kernel⟩
def mX1_anySwollen : MI := (yX1_anySwollen, cX1_anySwollen, 3, some .boolean, 0)
theorem okX1_anySwollen : OkV mX1_anySwollen 1 1 := ⟨⟨(List.mem_of_getElem? (i := 489) (by decide +kernel)), (List.mem_of_getElem? (i := 60) (by decide +kernel)), by decide +kernel, by decide +kernel, by decide⟩, (List.mem_of_getElem? (i := 488) (by decide +kernel)), (List.mem_of_getElem? (i := 16) (by decide +kernel)), by decide, by decide +kernel⟩
def mX1_drawBucket : MI := (yX1_drawBucket, cX1_drawBucket, 5, some .int, 1)
theorem okX1_drawBucket : OkV mX1_drawBucket 1 1 := ⟨⟨(List.mem_of_getElem? (i := 493) (by decide +kernel)), (List.mem_of_getElem? (i := 60) (by decide +kernel)), by decide +kernel, by decide +kernel, by decide⟩, (List.mem_of_getElem? (i := 492) (by decide +kernel)), (List.mem_of_getElem? (i := 17) (by decide +kernel)), by decide, by decide +kernel⟩
def mX1_waterBeasts : MI := (yX1_waterBeasts, cX1_waterBeasts, 9, some .int, 2)
theorem okX1_waterBeasts : OkV mX1_waterBeasts 2 1 := ⟨⟨(List.mem_of_getElem? (i := 502) (by decide +kernel)), (List.mem_of_getElem? (i := 60) (by decide +kernel)), by decide +kernel, by decide +kernel, by decide⟩, (List.mem_of_getElem? (i := 501) (by decide +kernel)), (List.mem_of_getElem? (i := 18) (by decide +kernel)), by decide, by decide +kernel⟩
def mX1_swell : MI := (yX1_swell, cX1_swell, 4, none, 0)
theorem okX1_swell : OkV mX1_swell 3 1 := ⟨⟨(List.mem_of_getElem? (i := 511) (by decide +kernel)), (List.mem_of_getElem? (i := 60) (by decide +kernel)), by decide +kernel, by decide +kernel, by decide⟩, (List.mem_of_getElem? (i := 510) (by decide +kernel)), (List.mem_of_getElem? (i := 20) (by decide +kernel)), by decide, by decide +kernel⟩
def mX1_ropeBreaks : MI := (yX1_ropeBreaks, cX1_ropeBreaks, 1, some .boolean, 0)
theorem okX1_ropeBreaks : OkV mX1_ropeBreaks 0 1 := ⟨⟨(List.mem_of_getElem? (i := 519) (by decide +kernel)), (List.mem_of_getElem? (i := 60) (by decide +kernel)), by decide +kernel, by decide +kernel, by decide⟩, (List.mem_of_getElem? (i := 517) (by decide +kernel)), (List.mem_of_getElem? (i := 518) (by decide +kernel)), by decide, by decide +kernel⟩
def mX2_takeFrom : MI := (yX2_takeFrom, cX2_takeFrom, 3, none, 2)
theorem okX2_takeFrom : OkV mX2_takeFrom 1 2 := ⟨⟨(List.mem_of_getElem? (i := 632) (by decide +kernel)), (List.mem_of_getElem? (i := 61) (by decide +kernel)), by decide +kernel, by decide +kernel, by decide⟩, (List.mem_of_getElem? (i := 630) (by decide +kernel)), (List.mem_of_getElem? (i := 631) (by decide +kernel)), by decide, by decide +kernel⟩
def mX2_forget : MI := (yX2_forget, cX2_forget, 1, none, 0)
theorem okX2_forget : OkV mX2_forget 0 2 := ⟨⟨(List.mem_of_getElem? (i := 312) (by decide +kernel)), (List.mem_of_getElem? (i := 61) (by decide +kernel)), by decide +kernel, by decide +kernel, by decide⟩, (List.mem_of_getElem? (i := 310) (by decide +kernel)), (List.mem_of_getElem? (i := 311) (by decide +kernel)), by decide, by decide +kernel⟩
def mX2_keep : MI := (yX2_keep, cX2_keep, 2, none, 2)
theorem okX2_keep : OkV mX2_keep 1 2 := ⟨⟨(List.mem_of_getElem? (i := 473) (by decide +kernel)), (List.mem_of_getElem? (i := 61) (by decide +kernel)), by decide +kernel, by decide +kernel, by decide⟩, (List.mem_of_getElem? (i := 471) (by decide +kernel)), (List.mem_of_getElem? (i := 472) (by decide +kernel)), by decide, by decide +kernel⟩
def mX2_giveBack : MI := (yX2_giveBack, cX2_giveBack, 2, some .boolean, 2)
theorem okX2_giveBack : OkV mX2_giveBack 1 2 := ⟨⟨(List.mem_of_getElem? (i := 530) (by decide +kernel)), (List.mem_of_getElem? (i := 61) (by decide +kernel)), by decide +kernel, by decide +kernel, by decide⟩, (List.mem_of_getElem? (i := 528) (by decide +kernel)), (List.mem_of_getElem? (i := 529) (by decide +kernel)), by decide, by decide +kernel⟩
def mX3_renew : MI := (yX3_renew, cX3_renew, 4, none, 0)
theorem okX3_renew : OkV mX3_renew 2 3 := ⟨⟨(List.mem_of_getElem? (i := 677) (by decide +kernel)), (List.mem_of_getElem? (i := 63) (by decide +kernel)), by decide +kernel, by decide +kernel, by decide⟩, (List.mem_of_getElem? (i := 675) (by decide +kernel)), (List.mem_of_getElem? (i := 676) (by decide +kernel)), by decide, by decide +kernel⟩
def mX3_lacks : MI := (yX3_lacks, cX3_lacks, 3, some .boolean, 0)
theorem okX3_lacks : OkV mX3_lacks 2 3 := ⟨⟨(List.mem_of_getElem? (i := 651) (by decide +kernel)), (List.mem_of_getElem? (i := 63) (by decide +kernel)), by decide +kernel, by decide +kernel, by decide⟩, (List.mem_of_getElem? (i := 649) (by decide +kernel)), (List.mem_of_getElem? (i := 650) (by decide +kernel)), by decide, by decide +kernel⟩
def mX3_refusal : MI := (yX3_refusal, cX3_refusal, 4, some .int, 1)
theorem okX3_refusal : OkV mX3_refusal 3 3 := ⟨⟨(List.mem_of_getElem? (i := 647) (by decide +kernel)), (List.mem_of_getElem? (i := 63) (by decide +kernel)), by decide +kernel, by decide +kernel, by decide⟩, (List.mem_of_getElem? (i := 645) (by decide +kernel)), (List.mem_of_getElem? (i := 646) (by decide +kernel)), by decide, by decide +kernel⟩
def mX3_put : MI := (yX3_put, cX3_put, 4, none, 0)
theorem okX3_put : OkV mX3_put 2 3 := ⟨⟨(List.mem_of_getElem? (i := 669) (by decide +kernel)), (List.mem_of_getElem? (i := 63) (by decide +kernel)), by decide +kernel, by decide +kernel, by decide⟩, (List.mem_of_getElem? (i := 667) (by decide +kernel)), (List.mem_of_getElem? (i := 668) (by decide +kernel)), by decide, by decide +kernel⟩
def mX4_put : MI := (yX4_put, cX4_put, 2, some .boolean, 0)
theorem okX4_put : OkV mX4_put 1 4 := ⟨⟨(List.mem_of_getElem? (i := 395) (by decide +kernel)), (List.mem_of_getElem? (i := 62) (by decide +kernel)), by decide +kernel, by decide +kernel, by decide⟩, (List.mem_of_getElem? (i := 393) (by decide +kernel)), (List.mem_of_getElem? (i := 394) (by decide +kernel)), by decide, by decide +kernel⟩
def mX4_readInto : MI := (yX4_readInto, cX4_readInto, 2, some .int, 4)
theorem okX4_readInto : OkV mX4_readInto 1 4 := ⟨⟨(List.mem_of_getElem? (i := 410) (by decide +kernel)), (List.mem_of_getElem? (i := 62) (by decide +kernel)), by decide +kernel, by decide +kernel, by decide⟩, (List.mem_of_getElem? (i := 408) (by decide +kernel)), (List.mem_of_getElem? (i := 409) (by decide +kernel)), by decide, by decide +kernel⟩
def mX4_readWell : MI := (yX4_readWell, cX4_readWell, 2, some .boolean, 2)
theorem okX4_readWell : OkV mX4_readWell 1 4 := ⟨⟨(List.mem_of_getElem? (i := 414) (by decide +kernel)), (List.mem_of_getElem? (i := 62) (by decide +kernel)), by decide +kernel, by decide +kernel, by decide⟩, (List.mem_of_getElem? (i := 413) (by decide +kernel)), (List.mem_of_getElem? (i := 7) (by decide +kernel)), by decide, by decide +kernel⟩
def mX4_readBeasts : MI := (yX4_readBeasts, cX4_readBeasts, 4, some .boolean, 3)
theorem okX4_readBeasts : OkV mX4_readBeasts 1 4 := ⟨⟨(List.mem_of_getElem? (i := 434) (by decide +kernel)), (List.mem_of_getElem? (i := 62) (by decide +kernel)), by decide +kernel, by decide +kernel, by decide⟩, (List.mem_of_getElem? (i := 433) (by decide +kernel)), (List.mem_of_getElem? (i := 12) (by decide +kernel)), by decide, by decide +kernel⟩
def mX4_readBeast : MI := (yX4_readBeast, cX4_readBeast, 4, some .boolean, 2)
theorem okX4_readBeast : OkV mX4_readBeast 1 4 := ⟨⟨(List.mem_of_getElem? (i := 438) (by decide +kernel)), (List.mem_of_getElem? (i := 62) (by decide +kernel)), by decide +kernel, by decide +kernel, by decide⟩, (List.mem_of_getElem? (i := 437) (by decide +kernel)), (List.mem_of_getElem? (i := 13) (by decide +kernel)), by decide, by decide +kernel⟩
def mX4_kindOf : MI := (yX4_kindOf, cX4_kindOf, 2, some .int, 0)
theorem okX4_kindOf : OkV mX4_kindOf 1 4 := ⟨⟨(List.mem_of_getElem? (i := 442) (by decide +kernel)), (List.mem_of_getElem? (i := 62) (by decide +kernel)), by decide +kernel, by decide +kernel, by decide⟩, (List.mem_of_getElem? (i := 441) (by decide +kernel)), (List.mem_of_getElem? (i := 14) (by decide +kernel)), by decide, by decide +kernel⟩
def mX4_readNumber : MI := (yX4_readNumber, cX4_readNumber, 4, some .int, 1)
theorem okX4_readNumber : OkV mX4_readNumber 1 4 := ⟨⟨(List.mem_of_getElem? (i := 418) (by decide +kernel)), (List.mem_of_getElem? (i := 62) (by decide +kernel)), by decide +kernel, by decide +kernel, by decide⟩, (List.mem_of_getElem? (i := 417) (by decide +kernel)), (List.mem_of_getElem? (i := 8) (by decide +kernel)), by decide, by decide +kernel⟩
def mX4_digit : MI := (yX4_digit, cX4_digit, 2, some .boolean, 0)
theorem okX4_digit : OkV mX4_digit 1 4 := ⟨⟨(List.mem_of_getElem? (i := 426) (by decide +kernel)), (List.mem_of_getElem? (i := 62) (by decide +kernel)), by decide +kernel, by decide +kernel, by decide⟩, (List.mem_of_getElem? (i := 425) (by decide +kernel)), (List.mem_of_getElem? (i := 10) (by decide +kernel)), by decide, by decide +kernel⟩
def mX4_pass : MI := (yX4_pass, cX4_pass, 2, some .boolean, 1)
theorem okX4_pass : OkV mX4_pass 1 4 := ⟨⟨(List.mem_of_getElem? (i := 430) (by decide +kernel)), (List.mem_of_getElem? (i := 62) (by decide +kernel)), by decide +kernel, by decide +kernel, by decide⟩, (List.mem_of_getElem? (i := 429) (by decide +kernel)), (List.mem_of_getElem? (i := 11) (by decide +kernel)), by decide, by decide +kernel⟩
def mX4_ahead : MI := (yX4_ahead, cX4_ahead, 1, some .int, 0)
theorem okX4_ahead : OkV mX4_ahead 0 4 := ⟨⟨(List.mem_of_getElem? (i := 422) (by decide +kernel)), (List.mem_of_getElem? (i := 62) (by decide +kernel)), by decide +kernel, by decide +kernel, by decide⟩, (List.mem_of_getElem? (i := 421) (by decide +kernel)), (List.mem_of_getElem? (i := 9) (by decide +kernel)), by decide, by decide +kernel⟩
def mX5_beast : MI := (yX5_beast, cX5_beast, 4, some .int, 2)
theorem okX5_beast : OkV mX5_beast 3 5 := ⟨⟨(List.mem_of_getElem? (i := 305) (by decide +kernel)), (List.mem_of_getElem? (i := 58) (by decide +kernel)), by decide +kernel, by decide +kernel, by decide⟩, (List.mem_of_getElem? (i := 303) (by decide +kernel)), (List.mem_of_getElem? (i := 304) (by decide +kernel)), by decide, by decide +kernel⟩
def mX5_of : MI := (yX5_of, cX5_of, 3, some .int, 2)
theorem okX5_of : OkV mX5_of 2 5 := ⟨⟨(List.mem_of_getElem? (i := 323) (by decide +kernel)), (List.mem_of_getElem? (i := 58) (by decide +kernel)), by decide +kernel, by decide +kernel, by decide⟩, (List.mem_of_getElem? (i := 321) (by decide +kernel)), (List.mem_of_getElem? (i := 322) (by decide +kernel)), by decide, by decide +kernel⟩
def mX5_well : MI := (yX5_well, cX5_well, 4, some .int, 1)
theorem okX5_well : OkV mX5_well 2 5 := ⟨⟨(List.mem_of_getElem? (i := 343) (by decide +kernel)), (List.mem_of_getElem? (i := 58) (by decide +kernel)), by decide +kernel, by decide +kernel, by decide⟩, (List.mem_of_getElem? (i := 341) (by decide +kernel)), (List.mem_of_getElem? (i := 342) (by decide +kernel)), by decide, by decide +kernel⟩
def mX5_pull : MI := (yX5_pull, cX5_pull, 3, some .int, 1)
theorem okX5_pull : OkV mX5_pull 1 5 := ⟨⟨(List.mem_of_getElem? (i := 355) (by decide +kernel)), (List.mem_of_getElem? (i := 58) (by decide +kernel)), by decide +kernel, by decide +kernel, by decide⟩, (List.mem_of_getElem? (i := 353) (by decide +kernel)), (List.mem_of_getElem? (i := 354) (by decide +kernel)), by decide, by decide +kernel⟩
def mX5_turn : MI := (yX5_turn, cX5_turn, 2, some .int, 3)
theorem okX5_turn : OkV mX5_turn 1 5 := ⟨⟨(List.mem_of_getElem? (i := 359) (by decide +kernel)), (List.mem_of_getElem? (i := 58) (by decide +kernel)), by decide +kernel, by decide +kernel, by decide⟩, (List.mem_of_getElem? (i := 357) (by decide +kernel)), (List.mem_of_getElem? (i := 358) (by decide +kernel)), by decide, by decide +kernel⟩
def mX5_type : MI := (yX5_type, cX5_type, 2, some .int, 1)
theorem okX5_type : OkV mX5_type 1 5 := ⟨⟨(List.mem_of_getElem? (i := 391) (by decide +kernel)), (List.mem_of_getElem? (i := 58) (by decide +kernel)), by decide +kernel, by decide +kernel, by decide⟩, (List.mem_of_getElem? (i := 389) (by decide +kernel)), (List.mem_of_getElem? (i := 390) (by decide +kernel)), by decide, by decide +kernel⟩
def mX5_caravan : MI := (yX5_caravan, cX5_caravan, 2, some .int, 5)
theorem okX5_caravan : OkV mX5_caravan 0 5 := ⟨⟨(List.mem_of_getElem? (i := 399) (by decide +kernel)), (List.mem_of_getElem? (i := 58) (by decide +kernel)), by decide +kernel, by decide +kernel, by decide⟩, (List.mem_of_getElem? (i := 397) (by decide +kernel)), (List.mem_of_getElem? (i := 398) (by decide +kernel)), by decide, by decide +kernel⟩
def mX5_count : MI := (yX5_count, cX5_count, 2, some .int, 3)
theorem okX5_count : OkV mX5_count 1 5 := ⟨⟨(List.mem_of_getElem? (i := 452) (by decide +kernel)), (List.mem_of_getElem? (i := 58) (by decide +kernel)), by decide +kernel, by decide +kernel, by decide⟩, (List.mem_of_getElem? (i := 450) (by decide +kernel)), (List.mem_of_getElem? (i := 451) (by decide +kernel)), by decide, by decide +kernel⟩
def mX5_measure : MI := (yX5_measure, cX5_measure, 2, some .int, 0)
theorem okX5_measure : OkV mX5_measure 1 5 := ⟨⟨(List.mem_of_getElem? (i := 351) (by decide +kernel)), (List.mem_of_getElem? (i := 58) (by decide +kernel)), by decide +kernel, by decide +kernel, by decide⟩, (List.mem_of_getElem? (i := 350) (by decide +kernel)), (List.mem_of_getElem? (i := 0) (by decide +kernel)), by decide, by decide +kernel⟩
def mX5_minutes : MI := (yX5_minutes, cX5_minutes, 5, some .int, 4)
theorem okX5_minutes : OkV mX5_minutes 1 5 := ⟨⟨(List.mem_of_getElem? (i := 465) (by decide +kernel)), (List.mem_of_getElem? (i := 58) (by decide +kernel)), by decide +kernel, by decide +kernel, by decide⟩, (List.mem_of_getElem? (i := 463) (by decide +kernel)), (List.mem_of_getElem? (i := 464) (by decide +kernel)), by decide, by decide +kernel⟩
def mX5_drift : MI := (yX5_drift, cX5_drift, 6, some .int, 4)
theorem okX5_drift : OkV mX5_drift 1 5 := ⟨⟨(List.mem_of_getElem? (i := 515) (by decide +kernel)), (List.mem_of_getElem? (i := 58) (by decide +kernel)), by decide +kernel, by decide +kernel, by decide⟩, (List.mem_of_getElem? (i := 513) (by decide +kernel)), (List.mem_of_getElem? (i := 514) (by decide +kernel)), by decide, by decide +kernel⟩
def mX5_refusal : MI := (yX5_refusal, cX5_refusal, 2, some .int, 1)
theorem okX5_refusal : OkV mX5_refusal 1 5 := ⟨⟨(List.mem_of_getElem? (i := 469) (by decide +kernel)), (List.mem_of_getElem? (i := 58) (by decide +kernel)), by decide +kernel, by decide +kernel, by decide⟩, (List.mem_of_getElem? (i := 468) (by decide +kernel)), (List.mem_of_getElem? (i := 15) (by decide +kernel)), by decide, by decide +kernel⟩
def mX5_undo : MI := (yX5_undo, cX5_undo, 1, some .int, 3)
theorem okX5_undo : OkV mX5_undo 0 5 := ⟨⟨(List.mem_of_getElem? (i := 526) (by decide +kernel)), (List.mem_of_getElem? (i := 58) (by decide +kernel)), by decide +kernel, by decide +kernel, by decide⟩, (List.mem_of_getElem? (i := 524) (by decide +kernel)), (List.mem_of_getElem? (i := 525) (by decide +kernel)), by decide, by decide +kernel⟩
def mX5_seed : MI := (yX5_seed, cX5_seed, 3, some .int, 0)
theorem okX5_seed : OkV mX5_seed 1 5 := ⟨⟨(List.mem_of_getElem? (i := 534) (by decide +kernel)), (List.mem_of_getElem? (i := 58) (by decide +kernel)), by decide +kernel, by decide +kernel, by decide⟩, (List.mem_of_getElem? (i := 532) (by decide +kernel)), (List.mem_of_getElem? (i := 533) (by decide +kernel)), by decide, by decide +kernel⟩
def mX5_water : MI := (yX5_water, cX5_water, 2, some .int, 5)
theorem okX5_water : OkV mX5_water 1 5 := ⟨⟨(List.mem_of_getElem? (i := 538) (by decide +kernel)), (List.mem_of_getElem? (i := 58) (by decide +kernel)), by decide +kernel, by decide +kernel, by decide⟩, (List.mem_of_getElem? (i := 536) (by decide +kernel)), (List.mem_of_getElem? (i := 537) (by decide +kernel)), by decide, by decide +kernel⟩
def mX5_done : MI := (yX5_done, cX5_done, 2, some .int, 5)
theorem okX5_done : OkV mX5_done 1 5 := ⟨⟨(List.mem_of_getElem? (i := 551) (by decide +kernel)), (List.mem_of_getElem? (i := 58) (by decide +kernel)), by decide +kernel, by decide +kernel, by decide⟩, (List.mem_of_getElem? (i := 549) (by decide +kernel)), (List.mem_of_getElem? (i := 550) (by decide +kernel)), by decide, by decide +kernel⟩
def mX5_all : MI := (yX5_all, cX5_all, 1, some .int, 5)
theorem okX5_all : OkV mX5_all 0 5 := ⟨⟨(List.mem_of_getElem? (i := 563) (by decide +kernel)), (List.mem_of_getElem? (i := 58) (by decide +kernel)), by decide +kernel, by decide +kernel, by decide⟩, (List.mem_of_getElem? (i := 561) (by decide +kernel)), (List.mem_of_getElem? (i := 562) (by decide +kernel)), by decide, by decide +kernel⟩
def mX5_height : MI := (yX5_height, cX5_height, 6, some .int, 5)
theorem okX5_height : OkV mX5_height 1 5 := ⟨⟨(List.mem_of_getElem? (i := 575) (by decide +kernel)), (List.mem_of_getElem? (i := 58) (by decide +kernel)), by decide +kernel, by decide +kernel, by decide⟩, (List.mem_of_getElem? (i := 573) (by decide +kernel)), (List.mem_of_getElem? (i := 574) (by decide +kernel)), by decide, by decide +kernel⟩
def mX5_pulls : MI := (yX5_pulls, cX5_pulls, 6, some .int, 5)
theorem okX5_pulls : OkV mX5_pulls 1 5 := ⟨⟨(List.mem_of_getElem? (i := 579) (by decide +kernel)), (List.mem_of_getElem? (i := 58) (by decide +kernel)), by decide +kernel, by decide +kernel, by decide⟩, (List.mem_of_getElem? (i := 577) (by decide +kernel)), (List.mem_of_getElem? (i := 578) (by decide +kernel)), by decide, by decide +kernel⟩
def mX5_waits : MI := (yX5_waits, cX5_waits, 3, some .int, 5)
theorem okX5_waits : OkV mX5_waits 2 5 := ⟨⟨(List.mem_of_getElem? (i := 583) (by decide +kernel)), (List.mem_of_getElem? (i := 58) (by decide +kernel)), by decide +kernel, by decide +kernel, by decide⟩, (List.mem_of_getElem? (i := 581) (by decide +kernel)), (List.mem_of_getElem? (i := 582) (by decide +kernel)), by decide, by decide +kernel⟩
def mX5_least : MI := (yX5_least, cX5_least, 2, some .int, 6)
theorem okX5_least : OkV mX5_least 1 5 := ⟨⟨(List.mem_of_getElem? (i := 591) (by decide +kernel)), (List.mem_of_getElem? (i := 58) (by decide +kernel)), by decide +kernel, by decide +kernel, by decide⟩, (List.mem_of_getElem? (i := 589) (by decide +kernel)), (List.mem_of_getElem? (i := 590) (by decide +kernel)), by decide, by decide +kernel⟩
def mX5_both : MI := (yX5_both, cX5_both, 2, some .int, 6)
theorem okX5_both : OkV mX5_both 1 5 := ⟨⟨(List.mem_of_getElem? (i := 600) (by decide +kernel)), (List.mem_of_getElem? (i := 58) (by decide +kernel)), by decide +kernel, by decide +kernel, by decide⟩, (List.mem_of_getElem? (i := 598) (by decide +kernel)), (List.mem_of_getElem? (i := 599) (by decide +kernel)), by decide, by decide +kernel⟩
def mX5_wholly : MI := (yX5_wholly, cX5_wholly, 8, some .int, 5)
theorem okX5_wholly : OkV mX5_wholly 2 5 := ⟨⟨(List.mem_of_getElem? (i := 604) (by decide +kernel)), (List.mem_of_getElem? (i := 58) (by decide +kernel)), by decide +kernel, by decide +kernel, by decide⟩, (List.mem_of_getElem? (i := 602) (by decide +kernel)), (List.mem_of_getElem? (i := 603) (by decide +kernel)), by decide, by decide +kernel⟩
def mX5_drank : MI := (yX5_drank, cX5_drank, 6, some .int, 3)
theorem okX5_drank : OkV mX5_drank 2 5 := ⟨⟨(List.mem_of_getElem? (i := 614) (by decide +kernel)), (List.mem_of_getElem? (i := 58) (by decide +kernel)), by decide +kernel, by decide +kernel, by decide⟩, (List.mem_of_getElem? (i := 612) (by decide +kernel)), (List.mem_of_getElem? (i := 613) (by decide +kernel)), by decide, by decide +kernel⟩
def mX5_holds : MI := (yX5_holds, cX5_holds, 5, some .int, 1)
theorem okX5_holds : OkV mX5_holds 1 5 := ⟨⟨(List.mem_of_getElem? (i := 622) (by decide +kernel)), (List.mem_of_getElem? (i := 58) (by decide +kernel)), by decide +kernel, by decide +kernel, by decide⟩, (List.mem_of_getElem? (i := 620) (by decide +kernel)), (List.mem_of_getElem? (i := 621) (by decide +kernel)), by decide, by decide +kernel⟩
def mX5_image : MI := (yX5_image, cX5_image, 1, some .int, 3)
theorem okX5_image : OkV mX5_image 0 5 := ⟨⟨(List.mem_of_getElem? (i := 628) (by decide +kernel)), (List.mem_of_getElem? (i := 58) (by decide +kernel)), by decide +kernel, by decide +kernel, by decide⟩, (List.mem_of_getElem? (i := 626) (by decide +kernel)), (List.mem_of_getElem? (i := 627) (by decide +kernel)), by decide, by decide +kernel⟩
def mX5_restore : MI := (yX5_restore, cX5_restore, 1, some .int, 3)
theorem okX5_restore : OkV mX5_restore 0 5 := ⟨⟨(List.mem_of_getElem? (i := 636) (by decide +kernel)), (List.mem_of_getElem? (i := 58) (by decide +kernel)), by decide +kernel, by decide +kernel, by decide⟩, (List.mem_of_getElem? (i := 634) (by decide +kernel)), (List.mem_of_getElem? (i := 635) (by decide +kernel)), by decide, by decide +kernel⟩
def mX5_foretell : MI := (yX5_foretell, cX5_foretell, 1, none, 3)
theorem okX5_foretell : OkV mX5_foretell 0 5 := ⟨⟨(List.mem_of_getElem? (i := 542) (by decide +kernel)), (List.mem_of_getElem? (i := 58) (by decide +kernel)), by decide +kernel, by decide +kernel, by decide⟩, (List.mem_of_getElem? (i := 541) (by decide +kernel)), (List.mem_of_getElem? (i := 21) (by decide +kernel)), by decide, by decide +kernel⟩
def mX5_play : MI := (yX5_play, cX5_play, 5, none, 4)
theorem okX5_play : OkV mX5_play 2 5 := ⟨⟨(List.mem_of_getElem? (i := 547) (by decide +kernel)), (List.mem_of_getElem? (i := 58) (by decide +kernel)), by decide +kernel, by decide +kernel, by decide⟩, (List.mem_of_getElem? (i := 546) (by decide +kernel)), (List.mem_of_getElem? (i := 22) (by decide +kernel)), by decide, by decide +kernel⟩
def mX5_soonestAll : MI := (yX5_soonestAll, cX5_soonestAll, 4, some .int, 4)
theorem okX5_soonestAll : OkV mX5_soonestAll 1 5 := ⟨⟨(List.mem_of_getElem? (i := 567) (by decide +kernel)), (List.mem_of_getElem? (i := 58) (by decide +kernel)), by decide +kernel, by decide +kernel, by decide⟩, (List.mem_of_getElem? (i := 566) (by decide +kernel)), (List.mem_of_getElem? (i := 25) (by decide +kernel)), by decide, by decide +kernel⟩
def mX5_foretellDone : MI := (yX5_foretellDone, cX5_foretellDone, 4, none, 4)
theorem okX5_foretellDone : OkV mX5_foretellDone 1 5 := ⟨⟨(List.mem_of_getElem? (i := 555) (by decide +kernel)), (List.mem_of_getElem? (i := 58) (by decide +kernel)), by decide +kernel, by decide +kernel, by decide⟩, (List.mem_of_getElem? (i := 554) (by decide +kernel)), (List.mem_of_getElem? (i := 23) (by decide +kernel)), by decide, by decide +kernel⟩
def mX5_markDone : MI := (yX5_markDone, cX5_markDone, 3, none, 2)
theorem okX5_markDone : OkV mX5_markDone 1 5 := ⟨⟨(List.mem_of_getElem? (i := 559) (by decide +kernel)), (List.mem_of_getElem? (i := 58) (by decide +kernel)), by decide +kernel, by decide +kernel, by decide⟩, (List.mem_of_getElem? (i := 558) (by decide +kernel)), (List.mem_of_getElem? (i := 24) (by decide +kernel)), by decide, by decide +kernel⟩
def mX5_herdWaits : MI := (yX5_herdWaits, cX5_herdWaits, 4, some .int, 0)
theorem okX5_herdWaits : OkV mX5_herdWaits 1 5 := ⟨⟨(List.mem_of_getElem? (i := 587) (by decide +kernel)), (List.mem_of_getElem? (i := 58) (by decide +kernel)), by decide +kernel, by decide +kernel, by decide⟩, (List.mem_of_getElem? (i := 586) (by decide +kernel)), (List.mem_of_getElem? (i := 26) (by decide +kernel)), by decide, by decide +kernel⟩
def mX5_bestLaw : MI := (yX5_bestLaw, cX5_bestLaw, 9, some .int, 5)
theorem okX5_bestLaw : OkV mX5_bestLaw 2 5 := ⟨⟨(List.mem_of_getElem? (i := 595) (by decide +kernel)), (List.mem_of_getElem? (i := 58) (by decide +kernel)), by decide +kernel, by decide +kernel, by decide⟩, (List.mem_of_getElem? (i := 594) (by decide +kernel)), (List.mem_of_getElem? (i := 27) (by decide +kernel)), by decide, by decide +kernel⟩
def mX5_buckets : MI := (yX5_buckets, cX5_buckets, 8, some .int, 5)
theorem okX5_buckets : OkV mX5_buckets 4 5 := ⟨⟨(List.mem_of_getElem? (i := 640) (by decide +kernel)), (List.mem_of_getElem? (i := 58) (by decide +kernel)), by decide +kernel, by decide +kernel, by decide⟩, (List.mem_of_getElem? (i := 638) (by decide +kernel)), (List.mem_of_getElem? (i := 639) (by decide +kernel)), by decide, by decide +kernel⟩
def mX5_readSeen : MI := (yX5_readSeen, cX5_readSeen, 9, some .boolean, 0)
theorem okX5_readSeen : OkV mX5_readSeen 3 5 := ⟨⟨(List.mem_of_getElem? (i := 655) (by decide +kernel)), (List.mem_of_getElem? (i := 58) (by decide +kernel)), by decide +kernel, by decide +kernel, by decide⟩, (List.mem_of_getElem? (i := 654) (by decide +kernel)), (List.mem_of_getElem? (i := 28) (by decide +kernel)), by decide, by decide +kernel⟩
def mX5_wouldBeSeen : MI := (yX5_wouldBeSeen, cX5_wouldBeSeen, 6, some .boolean, 4)
theorem okX5_wouldBeSeen : OkV mX5_wouldBeSeen 2 5 := ⟨⟨(List.mem_of_getElem? (i := 661) (by decide +kernel)), (List.mem_of_getElem? (i := 58) (by decide +kernel)), by decide +kernel, by decide +kernel, by decide⟩, (List.mem_of_getElem? (i := 660) (by decide +kernel)), (List.mem_of_getElem? (i := 29) (by decide +kernel)), by decide, by decide +kernel⟩
def mX5_film : MI := (yX5_film, cX5_film, 7, some .int, 4)
theorem okX5_film : OkV mX5_film 4 5 := ⟨⟨(List.mem_of_getElem? (i := 665) (by decide +kernel)), (List.mem_of_getElem? (i := 58) (by decide +kernel)), by decide +kernel, by decide +kernel, by decide⟩, (List.mem_of_getElem? (i := 663) (by decide +kernel)), (List.mem_of_getElem? (i := 664) (by decide +kernel)), by decide, by decide +kernel⟩
def mX5_sheet : MI := (yX5_sheet, cX5_sheet, 4, some .int, 2)
theorem okX5_sheet : OkV mX5_sheet 3 5 := ⟨⟨(List.mem_of_getElem? (i := 673) (by decide +kernel)), (List.mem_of_getElem? (i := 58) (by decide +kernel)), by decide +kernel, by decide +kernel, by decide⟩, (List.mem_of_getElem? (i := 671) (by decide +kernel)), (List.mem_of_getElem? (i := 672) (by decide +kernel)), by decide, by decide +kernel⟩
def mX5_drop : MI := (yX5_drop, cX5_drop, 3, some .int, 2)
theorem okX5_drop : OkV mX5_drop 1 5 := ⟨⟨(List.mem_of_getElem? (i := 681) (by decide +kernel)), (List.mem_of_getElem? (i := 58) (by decide +kernel)), by decide +kernel, by decide +kernel, by decide⟩, (List.mem_of_getElem? (i := 679) (by decide +kernel)), (List.mem_of_getElem? (i := 680) (by decide +kernel)), by decide, by decide +kernel⟩
def mX5_item : MI := (yX5_item, cX5_item, 7, some .int, 2)
theorem okX5_item : OkV mX5_item 4 5 := ⟨⟨(List.mem_of_getElem? (i := 685) (by decide +kernel)), (List.mem_of_getElem? (i := 58) (by decide +kernel)), by decide +kernel, by decide +kernel, by decide⟩, (List.mem_of_getElem? (i := 683) (by decide +kernel)), (List.mem_of_getElem? (i := 684) (by decide +kernel)), by decide, by decide +kernel⟩
def mX5_copy : MI := (yX5_copy, cX5_copy, 8, some .int, 2)
theorem okX5_copy : OkV mX5_copy 5 5 := ⟨⟨(List.mem_of_getElem? (i := 689) (by decide +kernel)), (List.mem_of_getElem? (i := 58) (by decide +kernel)), by decide +kernel, by decide +kernel, by decide⟩, (List.mem_of_getElem? (i := 687) (by decide +kernel)), (List.mem_of_getElem? (i := 688) (by decide +kernel)), by decide, by decide +kernel⟩
def mX5_noSheet : MI := (yX5_noSheet, cX5_noSheet, 1, some .boolean, 1)
theorem okX5_noSheet : OkS mX5_noSheet 1 := ⟨⟨(List.mem_of_getElem? (i := 643) (by decide +kernel)), (List.mem_of_getElem? (i := 58) (by decide +kernel)), by decide +kernel, by decide +kernel, by decide⟩, (List.mem_of_getElem? (i := 642) (by decide +kernel))⟩
def mX5_outside : MI := (yX5_outside, cX5_outside, 3, some .boolean, 0)
theorem okX5_outside : OkS mX5_outside 3 := ⟨⟨(List.mem_of_getElem? (i := 308) (by decide +kernel)), (List.mem_of_getElem? (i := 58) (by decide +kernel)), by decide +kernel, by decide +kernel, by decide⟩, (List.mem_of_getElem? (i := 307) (by decide +kernel))⟩
def mX5_milky : MI := (yX5_milky, cX5_milky, 1, some .boolean, 0)
theorem okX5_milky : OkS mX5_milky 1 := ⟨⟨(List.mem_of_getElem? (i := 319) (by decide +kernel)), (List.mem_of_getElem? (i := 58) (by decide +kernel)), by decide +kernel, by decide +kernel, by decide⟩, (List.mem_of_getElem? (i := 318) (by decide +kernel))⟩
def mX5_gulp : MI := (yX5_gulp, cX5_gulp, 1, some .int, 0)
theorem okX5_gulp : OkS mX5_gulp 1 := ⟨⟨(List.mem_of_getElem? (i := 339) (by decide +kernel)), (List.mem_of_getElem? (i := 58) (by decide +kernel)), by decide +kernel, by decide +kernel, by decide⟩, (List.mem_of_getElem? (i := 338) (by decide +kernel))⟩
def mX6_in : MI := (yX6_in, cX6_in, 6, some .boolean, 0)
theorem okX6_in : OkS mX6_in 3 := ⟨⟨(List.mem_of_getElem? (i := 766) (by decide +kernel)), (List.mem_of_getElem? (i := 64) (by decide +kernel)), by decide +kernel, by decide +kernel, by decide⟩, (List.mem_of_getElem? (i := 765) (by decide +kernel))⟩
def mX6_isBeast : MI := (yX6_isBeast, cX6_isBeast, 2, some .boolean, 1)
theorem okX6_isBeast : OkV mX6_isBeast 1 6 := ⟨⟨(List.mem_of_getElem? (i := 775) (by decide +kernel)), (List.mem_of_getElem? (i := 64) (by decide +kernel)), by decide +kernel, by decide +kernel, by decide⟩, (List.mem_of_getElem? (i := 774) (by decide +kernel)), (List.mem_of_getElem? (i := 30) (by decide +kernel)), by decide, by decide +kernel⟩
def mX6_at : MI := (yX6_at, cX6_at, 3, some .int, 0)
theorem okX6_at : OkV mX6_at 2 6 := ⟨⟨(List.mem_of_getElem? (i := 780) (by decide +kernel)), (List.mem_of_getElem? (i := 64) (by decide +kernel)), by decide +kernel, by decide +kernel, by decide⟩, (List.mem_of_getElem? (i := 779) (by decide +kernel)), (List.mem_of_getElem? (i := 31) (by decide +kernel)), by decide, by decide +kernel⟩
def mX6_isMilk : MI := (yX6_isMilk, cX6_isMilk, 2, some .boolean, 1)
theorem okX6_isMilk : OkV mX6_isMilk 1 6 := ⟨⟨(List.mem_of_getElem? (i := 788) (by decide +kernel)), (List.mem_of_getElem? (i := 64) (by decide +kernel)), by decide +kernel, by decide +kernel, by decide⟩, (List.mem_of_getElem? (i := 787) (by decide +kernel)), (List.mem_of_getElem? (i := 33) (by decide +kernel)), by decide, by decide +kernel⟩
def mX6_needs : MI := (yX6_needs, cX6_needs, 2, some .int, 2)
theorem okX6_needs : OkV mX6_needs 1 6 := ⟨⟨(List.mem_of_getElem? (i := 784) (by decide +kernel)), (List.mem_of_getElem? (i := 64) (by decide +kernel)), by decide +kernel, by decide +kernel, by decide⟩, (List.mem_of_getElem? (i := 783) (by decide +kernel)), (List.mem_of_getElem? (i := 32) (by decide +kernel)), by decide, by decide +kernel⟩
def mX6_drinks : MI := (yX6_drinks, cX6_drinks, 2, some .int, 1)
theorem okX6_drinks : OkV mX6_drinks 1 6 := ⟨⟨(List.mem_of_getElem? (i := 796) (by decide +kernel)), (List.mem_of_getElem? (i := 64) (by decide +kernel)), by decide +kernel, by decide +kernel, by decide⟩, (List.mem_of_getElem? (i := 795) (by decide +kernel)), (List.mem_of_getElem? (i := 35) (by decide +kernel)), by decide, by decide +kernel⟩
def mX6_isSated : MI := (yX6_isSated, cX6_isSated, 2, some .boolean, 3)
theorem okX6_isSated : OkV mX6_isSated 1 6 := ⟨⟨(List.mem_of_getElem? (i := 792) (by decide +kernel)), (List.mem_of_getElem? (i := 64) (by decide +kernel)), by decide +kernel, by decide +kernel, by decide⟩, (List.mem_of_getElem? (i := 791) (by decide +kernel)), (List.mem_of_getElem? (i := 34) (by decide +kernel)), by decide, by decide +kernel⟩
def mX6_sated : MI := (yX6_sated, cX6_sated, 3, some .int, 4)
theorem okX6_sated : OkV mX6_sated 0 6 := ⟨⟨(List.mem_of_getElem? (i := 876) (by decide +kernel)), (List.mem_of_getElem? (i := 64) (by decide +kernel)), by decide +kernel, by decide +kernel, by decide⟩, (List.mem_of_getElem? (i := 875) (by decide +kernel)), (List.mem_of_getElem? (i := 44) (by decide +kernel)), by decide, by decide +kernel⟩
def mX6_beast : MI := (yX6_beast, cX6_beast, 6, some .int, 1)
theorem okX6_beast : OkV mX6_beast 3 6 := ⟨⟨(List.mem_of_getElem? (i := 762) (by decide +kernel)), (List.mem_of_getElem? (i := 64) (by decide +kernel)), by decide +kernel, by decide +kernel, by decide⟩, (List.mem_of_getElem? (i := 760) (by decide +kernel)), (List.mem_of_getElem? (i := 761) (by decide +kernel)), by decide, by decide +kernel⟩
def mX6_of : MI := (yX6_of, cX6_of, 3, some .int, 4)
theorem okX6_of : OkV mX6_of 2 6 := ⟨⟨(List.mem_of_getElem? (i := 771) (by decide +kernel)), (List.mem_of_getElem? (i := 64) (by decide +kernel)), by decide +kernel, by decide +kernel, by decide⟩, (List.mem_of_getElem? (i := 769) (by decide +kernel)), (List.mem_of_getElem? (i := 770) (by decide +kernel)), by decide, by decide +kernel⟩
def mX6_low : MI := (yX6_low, cX6_low, 1, some .int, 0)
theorem okX6_low : OkS mX6_low 1 := ⟨⟨(List.mem_of_getElem? (i := 804) (by decide +kernel)), (List.mem_of_getElem? (i := 64) (by decide +kernel)), by decide +kernel, by decide +kernel, by decide⟩, (List.mem_of_getElem? (i := 803) (by decide +kernel))⟩
def mX6_high : MI := (yX6_high, cX6_high, 1, some .int, 0)
theorem okX6_high : OkS mX6_high 1 := ⟨⟨(List.mem_of_getElem? (i := 807) (by decide +kernel)), (List.mem_of_getElem? (i := 64) (by decide +kernel)), by decide +kernel, by decide +kernel, by decide⟩, (List.mem_of_getElem? (i := 806) (by decide +kernel))⟩
def mX6_well : MI := (yX6_well, cX6_well, 4, some .int, 1)
theorem okX6_well : OkV mX6_well 2 6 := ⟨⟨(List.mem_of_getElem? (i := 800) (by decide +kernel)), (List.mem_of_getElem? (i := 64) (by decide +kernel)), by decide +kernel, by decide +kernel, by decide⟩, (List.mem_of_getElem? (i := 798) (by decide +kernel)), (List.mem_of_getElem? (i := 799) (by decide +kernel)), by decide, by decide +kernel⟩
def mX6_pull : MI := (yX6_pull, cX6_pull, 3, some .int, 2)
theorem okX6_pull : OkV mX6_pull 1 6 := ⟨⟨(List.mem_of_getElem? (i := 811) (by decide +kernel)), (List.mem_of_getElem? (i := 64) (by decide +kernel)), by decide +kernel, by decide +kernel, by decide⟩, (List.mem_of_getElem? (i := 809) (by decide +kernel)), (List.mem_of_getElem? (i := 810) (by decide +kernel)), by decide, by decide +kernel⟩
def mX6_isAhead : MI := (yX6_isAhead, cX6_isAhead, 6, some .boolean, 2)
theorem okX6_isAhead : OkV mX6_isAhead 3 6 := ⟨⟨(List.mem_of_getElem? (i := 823) (by decide +kernel)), (List.mem_of_getElem? (i := 64) (by decide +kernel)), by decide +kernel, by decide +kernel, by decide⟩, (List.mem_of_getElem? (i := 822) (by decide +kernel)), (List.mem_of_getElem? (i := 37) (by decide +kernel)), by decide, by decide +kernel⟩
def mX6_among : MI := (yX6_among, cX6_among, 4, some .int, 1)
theorem okX6_among : OkV mX6_among 1 6 := ⟨⟨(List.mem_of_getElem? (i := 827) (by decide +kernel)), (List.mem_of_getElem? (i := 64) (by decide +kernel)), by decide +kernel, by decide +kernel, by decide⟩, (List.mem_of_getElem? (i := 826) (by decide +kernel)), (List.mem_of_getElem? (i := 38) (by decide +kernel)), by decide, by decide +kernel⟩
def mX6_orders : MI := (yX6_orders, cX6_orders, 5, none, 3)
theorem okX6_orders : OkV mX6_orders 1 6 := ⟨⟨(List.mem_of_getElem? (i := 819) (by decide +kernel)), (List.mem_of_getElem? (i := 64) (by decide +kernel)), by decide +kernel, by decide +kernel, by decide⟩, (List.mem_of_getElem? (i := 818) (by decide +kernel)), (List.mem_of_getElem? (i := 36) (by decide +kernel)), by decide, by decide +kernel⟩
def mX6_turn : MI := (yX6_turn, cX6_turn, 2, some .int, 4)
theorem okX6_turn : OkV mX6_turn 1 6 := ⟨⟨(List.mem_of_getElem? (i := 815) (by decide +kernel)), (List.mem_of_getElem? (i := 64) (by decide +kernel)), by decide +kernel, by decide +kernel, by decide⟩, (List.mem_of_getElem? (i := 813) (by decide +kernel)), (List.mem_of_getElem? (i := 814) (by decide +kernel)), by decide, by decide +kernel⟩
def mX6_draws : MI := (yX6_draws, cX6_draws, 6, none, 0)
theorem okX6_draws : OkV mX6_draws 1 6 := ⟨⟨(List.mem_of_getElem? (i := 848) (by decide +kernel)), (List.mem_of_getElem? (i := 64) (by decide +kernel)), by decide +kernel, by decide +kernel, by decide⟩, (List.mem_of_getElem? (i := 847) (by decide +kernel)), (List.mem_of_getElem? (i := 42) (by decide +kernel)), by decide, by decide +kernel⟩
def mX6_drinksOf : MI := (yX6_drinksOf, cX6_drinksOf, 4, some .int, 3)
theorem okX6_drinksOf : OkV mX6_drinksOf 1 6 := ⟨⟨(List.mem_of_getElem? (i := 856) (by decide +kernel)), (List.mem_of_getElem? (i := 64) (by decide +kernel)), by decide +kernel, by decide +kernel, by decide⟩, (List.mem_of_getElem? (i := 855) (by decide +kernel)), (List.mem_of_getElem? (i := 43) (by decide +kernel)), by decide, by decide +kernel⟩
def mX6_goes : MI := (yX6_goes, cX6_goes, 9, some .int, 4)
theorem okX6_goes : OkV mX6_goes 2 6 := ⟨⟨(List.mem_of_getElem? (i := 844) (by decide +kernel)), (List.mem_of_getElem? (i := 64) (by decide +kernel)), by decide +kernel, by decide +kernel, by decide⟩, (List.mem_of_getElem? (i := 843) (by decide +kernel)), (List.mem_of_getElem? (i := 41) (by decide +kernel)), by decide, by decide +kernel⟩
def mX6_notes : MI := (yX6_notes, cX6_notes, 2, none, 0)
theorem okX6_notes : OkV mX6_notes 0 6 := ⟨⟨(List.mem_of_getElem? (i := 840) (by decide +kernel)), (List.mem_of_getElem? (i := 64) (by decide +kernel)), by decide +kernel, by decide +kernel, by decide⟩, (List.mem_of_getElem? (i := 839) (by decide +kernel)), (List.mem_of_getElem? (i := 40) (by decide +kernel)), by decide, by decide +kernel⟩
def mX6_gone : MI := (yX6_gone, cX6_gone, 5, some .int, 5)
theorem okX6_gone : OkV mX6_gone 2 6 := ⟨⟨(List.mem_of_getElem? (i := 836) (by decide +kernel)), (List.mem_of_getElem? (i := 64) (by decide +kernel)), by decide +kernel, by decide +kernel, by decide⟩, (List.mem_of_getElem? (i := 835) (by decide +kernel)), (List.mem_of_getElem? (i := 39) (by decide +kernel)), by decide, by decide +kernel⟩
def mX6_minutes : MI := (yX6_minutes, cX6_minutes, 2, some .int, 6)
theorem okX6_minutes : OkV mX6_minutes 1 6 := ⟨⟨(List.mem_of_getElem? (i := 831) (by decide +kernel)), (List.mem_of_getElem? (i := 64) (by decide +kernel)), by decide +kernel, by decide +kernel, by decide⟩, (List.mem_of_getElem? (i := 829) (by decide +kernel)), (List.mem_of_getElem? (i := 830) (by decide +kernel)), by decide, by decide +kernel⟩
def mX6_drift : MI := (yX6_drift, cX6_drift, 2, some .int, 6)
theorem okX6_drift : OkV mX6_drift 1 6 := ⟨⟨(List.mem_of_getElem? (i := 860) (by decide +kernel)), (List.mem_of_getElem? (i := 64) (by decide +kernel)), by decide +kernel, by decide +kernel, by decide⟩, (List.mem_of_getElem? (i := 858) (by decide +kernel)), (List.mem_of_getElem? (i := 859) (by decide +kernel)), by decide, by decide +kernel⟩
def mX6_undo : MI := (yX6_undo, cX6_undo, 4, some .int, 0)
theorem okX6_undo : OkV mX6_undo 0 6 := ⟨⟨(List.mem_of_getElem? (i := 864) (by decide +kernel)), (List.mem_of_getElem? (i := 64) (by decide +kernel)), by decide +kernel, by decide +kernel, by decide⟩, (List.mem_of_getElem? (i := 862) (by decide +kernel)), (List.mem_of_getElem? (i := 863) (by decide +kernel)), by decide, by decide +kernel⟩
def mX6_seed : MI := (yX6_seed, cX6_seed, 3, some .int, 0)
theorem okX6_seed : OkV mX6_seed 1 6 := ⟨⟨(List.mem_of_getElem? (i := 868) (by decide +kernel)), (List.mem_of_getElem? (i := 64) (by decide +kernel)), by decide +kernel, by decide +kernel, by decide⟩, (List.mem_of_getElem? (i := 866) (by decide +kernel)), (List.mem_of_getElem? (i := 867) (by decide +kernel)), by decide, by decide +kernel⟩
def mX6_count : MI := (yX6_count, cX6_count, 4, some .int, 5)
theorem okX6_count : OkV mX6_count 1 6 := ⟨⟨(List.mem_of_getElem? (i := 872) (by decide +kernel)), (List.mem_of_getElem? (i := 64) (by decide +kernel)), by decide +kernel, by decide +kernel, by decide⟩, (List.mem_of_getElem? (i := 870) (by decide +kernel)), (List.mem_of_getElem? (i := 871) (by decide +kernel)), by decide, by decide +kernel⟩
def mX6_asides : MI := (yX6_asides, cX6_asides, 2, none, 0)
theorem okX6_asides : OkV mX6_asides 0 6 := ⟨⟨(List.mem_of_getElem? (i := 886) (by decide +kernel)), (List.mem_of_getElem? (i := 64) (by decide +kernel)), by decide +kernel, by decide +kernel, by decide⟩, (List.mem_of_getElem? (i := 885) (by decide +kernel)), (List.mem_of_getElem? (i := 45) (by decide +kernel)), by decide, by decide +kernel⟩
def mX6_backs : MI := (yX6_backs, cX6_backs, 2, none, 0)
theorem okX6_backs : OkV mX6_backs 0 6 := ⟨⟨(List.mem_of_getElem? (i := 890) (by decide +kernel)), (List.mem_of_getElem? (i := 64) (by decide +kernel)), by decide +kernel, by decide +kernel, by decide⟩, (List.mem_of_getElem? (i := 889) (by decide +kernel)), (List.mem_of_getElem? (i := 46) (by decide +kernel)), by decide, by decide +kernel⟩
def mX6_water : MI := (yX6_water, cX6_water, 3, some .int, 5)
theorem okX6_water : OkV mX6_water 1 6 := ⟨⟨(List.mem_of_getElem? (i := 881) (by decide +kernel)), (List.mem_of_getElem? (i := 64) (by decide +kernel)), by decide +kernel, by decide +kernel, by decide⟩, (List.mem_of_getElem? (i := 879) (by decide +kernel)), (List.mem_of_getElem? (i := 880) (by decide +kernel)), by decide, by decide +kernel⟩
def mX6_goesOn : MI := (yX6_goesOn, cX6_goesOn, 5, some .int, 5)
theorem okX6_goesOn : OkV mX6_goesOn 1 6 := ⟨⟨(List.mem_of_getElem? (i := 898) (by decide +kernel)), (List.mem_of_getElem? (i := 64) (by decide +kernel)), by decide +kernel, by decide +kernel, by decide⟩, (List.mem_of_getElem? (i := 897) (by decide +kernel)), (List.mem_of_getElem? (i := 47) (by decide +kernel)), by decide, by decide +kernel⟩
def mX6_others : MI := (yX6_others, cX6_others, 2, some .int, 0)
theorem okX6_others : OkV mX6_others 0 6 := ⟨⟨(List.mem_of_getElem? (i := 906) (by decide +kernel)), (List.mem_of_getElem? (i := 64) (by decide +kernel)), by decide +kernel, by decide +kernel, by decide⟩, (List.mem_of_getElem? (i := 905) (by decide +kernel)), (List.mem_of_getElem? (i := 48) (by decide +kernel)), by decide, by decide +kernel⟩
def mX6_done : MI := (yX6_done, cX6_done, 2, some .int, 6)
theorem okX6_done : OkV mX6_done 1 6 := ⟨⟨(List.mem_of_getElem? (i := 894) (by decide +kernel)), (List.mem_of_getElem? (i := 64) (by decide +kernel)), by decide +kernel, by decide +kernel, by decide⟩, (List.mem_of_getElem? (i := 892) (by decide +kernel)), (List.mem_of_getElem? (i := 893) (by decide +kernel)), by decide, by decide +kernel⟩
def mX6_all : MI := (yX6_all, cX6_all, 1, some .int, 6)
theorem okX6_all : OkV mX6_all 0 6 := ⟨⟨(List.mem_of_getElem? (i := 902) (by decide +kernel)), (List.mem_of_getElem? (i := 64) (by decide +kernel)), by decide +kernel, by decide +kernel, by decide⟩, (List.mem_of_getElem? (i := 900) (by decide +kernel)), (List.mem_of_getElem? (i := 901) (by decide +kernel)), by decide, by decide +kernel⟩
def mX6_height : MI := (yX6_height, cX6_height, 7, some .int, 6)
theorem okX6_height : OkV mX6_height 1 6 := ⟨⟨(List.mem_of_getElem? (i := 910) (by decide +kernel)), (List.mem_of_getElem? (i := 64) (by decide +kernel)), by decide +kernel, by decide +kernel, by decide⟩, (List.mem_of_getElem? (i := 908) (by decide +kernel)), (List.mem_of_getElem? (i := 909) (by decide +kernel)), by decide, by decide +kernel⟩
def mX6_pulls : MI := (yX6_pulls, cX6_pulls, 7, some .int, 6)
theorem okX6_pulls : OkV mX6_pulls 1 6 := ⟨⟨(List.mem_of_getElem? (i := 914) (by decide +kernel)), (List.mem_of_getElem? (i := 64) (by decide +kernel)), by decide +kernel, by decide +kernel, by decide⟩, (List.mem_of_getElem? (i := 912) (by decide +kernel)), (List.mem_of_getElem? (i := 913) (by decide +kernel)), by decide, by decide +kernel⟩
def mX6_waitsOf : MI := (yX6_waitsOf, cX6_waitsOf, 6, some .int, 6)
theorem okX6_waitsOf : OkV mX6_waitsOf 2 6 := ⟨⟨(List.mem_of_getElem? (i := 922) (by decide +kernel)), (List.mem_of_getElem? (i := 64) (by decide +kernel)), by decide +kernel, by decide +kernel, by decide⟩, (List.mem_of_getElem? (i := 921) (by decide +kernel)), (List.mem_of_getElem? (i := 49) (by decide +kernel)), by decide, by decide +kernel⟩
def mX6_waits : MI := (yX6_waits, cX6_waits, 3, some .int, 7)
theorem okX6_waits : OkV mX6_waits 2 6 := ⟨⟨(List.mem_of_getElem? (i := 918) (by decide +kernel)), (List.mem_of_getElem? (i := 64) (by decide +kernel)), by decide +kernel, by decide +kernel, by decide⟩, (List.mem_of_getElem? (i := 916) (by decide +kernel)), (List.mem_of_getElem? (i := 917) (by decide +kernel)), by decide, by decide +kernel⟩
def mX6_lawBy : MI := (yX6_lawBy, cX6_lawBy, 10, some .int, 7)
theorem okX6_lawBy : OkV mX6_lawBy 2 6 := ⟨⟨(List.mem_of_getElem? (i := 930) (by decide +kernel)), (List.mem_of_getElem? (i := 64) (by decide +kernel)), by decide +kernel, by decide +kernel, by decide⟩, (List.mem_of_getElem? (i := 929) (by decide +kernel)), (List.mem_of_getElem? (i := 50) (by decide +kernel)), by decide, by decide +kernel⟩
def mX6_least : MI := (yX6_least, cX6_least, 2, some .int, 8)
theorem okX6_least : OkV mX6_least 1 6 := ⟨⟨(List.mem_of_getElem? (i := 926) (by decide +kernel)), (List.mem_of_getElem? (i := 64) (by decide +kernel)), by decide +kernel, by decide +kernel, by decide⟩, (List.mem_of_getElem? (i := 924) (by decide +kernel)), (List.mem_of_getElem? (i := 925) (by decide +kernel)), by decide, by decide +kernel⟩
def mX6_both : MI := (yX6_both, cX6_both, 2, some .int, 8)
theorem okX6_both : OkV mX6_both 1 6 := ⟨⟨(List.mem_of_getElem? (i := 934) (by decide +kernel)), (List.mem_of_getElem? (i := 64) (by decide +kernel)), by decide +kernel, by decide +kernel, by decide⟩, (List.mem_of_getElem? (i := 932) (by decide +kernel)), (List.mem_of_getElem? (i := 933) (by decide +kernel)), by decide, by decide +kernel⟩
def mX6_many : MI := (yX6_many, cX6_many, 3, some .int, 0)
theorem okX6_many : OkS mX6_many 1 := ⟨⟨(List.mem_of_getElem? (i := 941) (by decide +kernel)), (List.mem_of_getElem? (i := 64) (by decide +kernel)), by decide +kernel, by decide +kernel, by decide⟩, (List.mem_of_getElem? (i := 940) (by decide +kernel))⟩
def mX6_wholly : MI := (yX6_wholly, cX6_wholly, 8, some .int, 5)
theorem okX6_wholly : OkV mX6_wholly 2 6 := ⟨⟨(List.mem_of_getElem? (i := 938) (by decide +kernel)), (List.mem_of_getElem? (i := 64) (by decide +kernel)), by decide +kernel, by decide +kernel, by decide⟩, (List.mem_of_getElem? (i := 936) (by decide +kernel)), (List.mem_of_getElem? (i := 937) (by decide +kernel)), by decide, by decide +kernel⟩
def mX6_drank : MI := (yX6_drank, cX6_drank, 8, some .int, 4)
theorem okX6_drank : OkV mX6_drank 2 6 := ⟨⟨(List.mem_of_getElem? (i := 945) (by decide +kernel)), (List.mem_of_getElem? (i := 64) (by decide +kernel)), by decide +kernel, by decide +kernel, by decide⟩, (List.mem_of_getElem? (i := 943) (by decide +kernel)), (List.mem_of_getElem? (i := 944) (by decide +kernel)), by decide, by decide +kernel⟩
def mX6_holds : MI := (yX6_holds, cX6_holds, 5, some .int, 1)
theorem okX6_holds : OkV mX6_holds 1 6 := ⟨⟨(List.mem_of_getElem? (i := 950) (by decide +kernel)), (List.mem_of_getElem? (i := 64) (by decide +kernel)), by decide +kernel, by decide +kernel, by decide⟩, (List.mem_of_getElem? (i := 948) (by decide +kernel)), (List.mem_of_getElem? (i := 949) (by decide +kernel)), by decide, by decide +kernel⟩
def mX6_type : MI := (yX6_type, cX6_type, 2, some .int, 1)
theorem okX6_type : OkV mX6_type 1 6 := ⟨⟨(List.mem_of_getElem? (i := 955) (by decide +kernel)), (List.mem_of_getElem? (i := 64) (by decide +kernel)), by decide +kernel, by decide +kernel, by decide⟩, (List.mem_of_getElem? (i := 953) (by decide +kernel)), (List.mem_of_getElem? (i := 954) (by decide +kernel)), by decide, by decide +kernel⟩
def mX6_here : MI := (yX6_here, cX6_here, 1, some .int, 0)
theorem okX6_here : OkV mX6_here 0 6 := ⟨⟨(List.mem_of_getElem? (i := 969) (by decide +kernel)), (List.mem_of_getElem? (i := 64) (by decide +kernel)), by decide +kernel, by decide +kernel, by decide⟩, (List.mem_of_getElem? (i := 968) (by decide +kernel)), (List.mem_of_getElem? (i := 52) (by decide +kernel)), by decide, by decide +kernel⟩
def mX6_must : MI := (yX6_must, cX6_must, 2, none, 0)
theorem okX6_must : OkV mX6_must 1 6 := ⟨⟨(List.mem_of_getElem? (i := 978) (by decide +kernel)), (List.mem_of_getElem? (i := 64) (by decide +kernel)), by decide +kernel, by decide +kernel, by decide⟩, (List.mem_of_getElem? (i := 977) (by decide +kernel)), (List.mem_of_getElem? (i := 53) (by decide +kernel)), by decide, by decide +kernel⟩
def mX6_isDigit : MI := (yX6_isDigit, cX6_isDigit, 1, some .boolean, 1)
theorem okX6_isDigit : OkS mX6_isDigit 1 := ⟨⟨(List.mem_of_getElem? (i := 972) (by decide +kernel)), (List.mem_of_getElem? (i := 64) (by decide +kernel)), by decide +kernel, by decide +kernel, by decide⟩, (List.mem_of_getElem? (i := 971) (by decide +kernel))⟩
def mX6_takes : MI := (yX6_takes, cX6_takes, 2, none, 1)
theorem okX6_takes : OkV mX6_takes 1 6 := ⟨⟨(List.mem_of_getElem? (i := 982) (by decide +kernel)), (List.mem_of_getElem? (i := 64) (by decide +kernel)), by decide +kernel, by decide +kernel, by decide⟩, (List.mem_of_getElem? (i := 981) (by decide +kernel)), (List.mem_of_getElem? (i := 54) (by decide +kernel)), by decide, by decide +kernel⟩
def mX6_number : MI := (yX6_number, cX6_number, 4, some .int, 2)
theorem okX6_number : OkV mX6_number 1 6 := ⟨⟨(List.mem_of_getElem? (i := 965) (by decide +kernel)), (List.mem_of_getElem? (i := 64) (by decide +kernel)), by decide +kernel, by decide +kernel, by decide⟩, (List.mem_of_getElem? (i := 964) (by decide +kernel)), (List.mem_of_getElem? (i := 51) (by decide +kernel)), by decide, by decide +kernel⟩
def mX6_readBeast : MI := (yX6_readBeast, cX6_readBeast, 4, none, 1)
theorem okX6_readBeast : OkV mX6_readBeast 1 6 := ⟨⟨(List.mem_of_getElem? (i := 986) (by decide +kernel)), (List.mem_of_getElem? (i := 64) (by decide +kernel)), by decide +kernel, by decide +kernel, by decide⟩, (List.mem_of_getElem? (i := 985) (by decide +kernel)), (List.mem_of_getElem? (i := 55) (by decide +kernel)), by decide, by decide +kernel⟩
def mX6_caravan : MI := (yX6_caravan, cX6_caravan, 6, some .int, 3)
theorem okX6_caravan : OkV mX6_caravan 0 6 := ⟨⟨(List.mem_of_getElem? (i := 961) (by decide +kernel)), (List.mem_of_getElem? (i := 64) (by decide +kernel)), by decide +kernel, by decide +kernel, by decide⟩, (List.mem_of_getElem? (i := 959) (by decide +kernel)), (List.mem_of_getElem? (i := 960) (by decide +kernel)), by decide, by decide +kernel⟩
def mX6_image : MI := (yX6_image, cX6_image, 2, some .int, 0)
theorem okX6_image : OkV mX6_image 0 6 := ⟨⟨(List.mem_of_getElem? (i := 991) (by decide +kernel)), (List.mem_of_getElem? (i := 64) (by decide +kernel)), by decide +kernel, by decide +kernel, by decide⟩, (List.mem_of_getElem? (i := 989) (by decide +kernel)), (List.mem_of_getElem? (i := 990) (by decide +kernel)), by decide, by decide +kernel⟩
def mX6_restore : MI := (yX6_restore, cX6_restore, 2, some .int, 0)
theorem okX6_restore : OkV mX6_restore 0 6 := ⟨⟨(List.mem_of_getElem? (i := 995) (by decide +kernel)), (List.mem_of_getElem? (i := 64) (by decide +kernel)), by decide +kernel, by decide +kernel, by decide⟩, (List.mem_of_getElem? (i := 993) (by decide +kernel)), (List.mem_of_getElem? (i := 994) (by decide +kernel)), by decide, by decide +kernel⟩
def mX6_isSheet : MI := (yX6_isSheet, cX6_isSheet, 1, some .boolean, 1)
theorem okX6_isSheet : OkS mX6_isSheet 1 := ⟨⟨(List.mem_of_getElem? (i := 1002) (by decide +kernel)), (List.mem_of_getElem? (i := 64) (by decide +kernel)), by decide +kernel, by decide +kernel, by decide⟩, (List.mem_of_getElem? (i := 1001) (by decide +kernel))⟩
def mX6_isLane : MI := (yX6_isLane, cX6_isLane, 1, some .boolean, 1)
theorem okX6_isLane : OkS mX6_isLane 1 := ⟨⟨(List.mem_of_getElem? (i := 1005) (by decide +kernel)), (List.mem_of_getElem? (i := 64) (by decide +kernel)), by decide +kernel, by decide +kernel, by decide⟩, (List.mem_of_getElem? (i := 1004) (by decide +kernel))⟩
def mX6_why : MI := (yX6_why, cX6_why, 5, some .int, 0)
theorem okX6_why : OkV mX6_why 4 6 := ⟨⟨(List.mem_of_getElem? (i := 1009) (by decide +kernel)), (List.mem_of_getElem? (i := 64) (by decide +kernel)), by decide +kernel, by decide +kernel, by decide⟩, (List.mem_of_getElem? (i := 1008) (by decide +kernel)), (List.mem_of_getElem? (i := 56) (by decide +kernel)), by decide, by decide +kernel⟩
def mX6_buckets : MI := (yX6_buckets, cX6_buckets, 12, some .int, 5)
theorem okX6_buckets : OkV mX6_buckets 4 6 := ⟨⟨(List.mem_of_getElem? (i := 999) (by decide +kernel)), (List.mem_of_getElem? (i := 64) (by decide +kernel)), by decide +kernel, by decide +kernel, by decide⟩, (List.mem_of_getElem? (i := 997) (by decide +kernel)), (List.mem_of_getElem? (i := 998) (by decide +kernel)), by decide, by decide +kernel⟩
def mX6_film : MI := (yX6_film, cX6_film, 7, some .int, 5)
theorem okX6_film : OkV mX6_film 4 6 := ⟨⟨(List.mem_of_getElem? (i := 1013) (by decide +kernel)), (List.mem_of_getElem? (i := 64) (by decide +kernel)), by decide +kernel, by decide +kernel, by decide⟩, (List.mem_of_getElem? (i := 1011) (by decide +kernel)), (List.mem_of_getElem? (i := 1012) (by decide +kernel)), by decide, by decide +kernel⟩
def mX6_sheet : MI := (yX6_sheet, cX6_sheet, 5, some .int, 2)
theorem okX6_sheet : OkV mX6_sheet 3 6 := ⟨⟨(List.mem_of_getElem? (i := 1018) (by decide +kernel)), (List.mem_of_getElem? (i := 64) (by decide +kernel)), by decide +kernel, by decide +kernel, by decide⟩, (List.mem_of_getElem? (i := 1016) (by decide +kernel)), (List.mem_of_getElem? (i := 1017) (by decide +kernel)), by decide, by decide +kernel⟩
def mX6_drop : MI := (yX6_drop, cX6_drop, 2, some .int, 2)
theorem okX6_drop : OkV mX6_drop 1 6 := ⟨⟨(List.mem_of_getElem? (i := 1022) (by decide +kernel)), (List.mem_of_getElem? (i := 64) (by decide +kernel)), by decide +kernel, by decide +kernel, by decide⟩, (List.mem_of_getElem? (i := 1020) (by decide +kernel)), (List.mem_of_getElem? (i := 1021) (by decide +kernel)), by decide, by decide +kernel⟩
def mX6_item : MI := (yX6_item, cX6_item, 7, some .int, 2)
theorem okX6_item : OkV mX6_item 4 6 := ⟨⟨(List.mem_of_getElem? (i := 1026) (by decide +kernel)), (List.mem_of_getElem? (i := 64) (by decide +kernel)), by decide +kernel, by decide +kernel, by decide⟩, (List.mem_of_getElem? (i := 1024) (by decide +kernel)), (List.mem_of_getElem? (i := 1025) (by decide +kernel)), by decide, by decide +kernel⟩
def mX6_copy : MI := (yX6_copy, cX6_copy, 8, some .int, 2)
theorem okX6_copy : OkV mX6_copy 5 6 := ⟨⟨(List.mem_of_getElem? (i := 1030) (by decide +kernel)), (List.mem_of_getElem? (i := 64) (by decide +kernel)), by decide +kernel, by decide +kernel, by decide⟩, (List.mem_of_getElem? (i := 1028) (by decide +kernel)), (List.mem_of_getElem? (i := 1029) (by decide +kernel)), by decide, by decide +kernel⟩
def mJ6_bitCount_0f7a4 : MI := (yJ6_bitCount_0f7a4, cJ6_bitCount_0f7a4, 1, some .int, 0)
theorem okJ6_bitCount_0f7a4 : OkS mJ6_bitCount_0f7a4 1 := ⟨⟨(List.mem_of_getElem? (i := 607) (by decide +kernel)), (List.mem_of_getElem? (i := 67) (by decide +kernel)), by decide +kernel, by decide +kernel, by decide⟩, (List.mem_of_getElem? (i := 606) (by decide +kernel))⟩
def mL_law : MI := (yL_law, cL_law, 4, some .boolean, 11)
theorem mlL_13 : ML RL 13 yX5_beast := Or.inl (List.mem_of_getElem? (i := 302) (by decide +kernel))
theorem mlL_17 : ML RL 17 yX6_beast := Or.inl (List.mem_of_getElem? (i := 759) (by decide +kernel))
theorem mlL_18 : ML RL 18 yX5_of := Or.inl (List.mem_of_getElem? (i := 320) (by decide +kernel))
theorem mlL_22 : ML RL 22 yX6_of := Or.inl (List.mem_of_getElem? (i := 768) (by decide +kernel))
theorem mlL_23 : ML RL 23 yX5_well := Or.inl (List.mem_of_getElem? (i := 340) (by decide +kernel))
theorem mlL_26 : ML RL 26 yX6_well := Or.inl (List.mem_of_getElem? (i := 797) (by decide +kernel))
theorem mlL_27 : ML RL 27 yX5_pull := Or.inl (List.mem_of_getElem? (i := 352) (by decide +kernel))
theorem mlL_31 : ML RL 31 yX6_pull := Or.inl (List.mem_of_getElem? (i := 808) (by decide +kernel))
theorem mlL_32 : ML RL 32 yX5_turn := Or.inl (List.mem_of_getElem? (i := 356) (by decide +kernel))
theorem mlL_35 : ML RL 35 yX6_turn := Or.inl (List.mem_of_getElem? (i := 812) (by decide +kernel))
theorem mlL_36 : ML RL 36 yX5_type := Or.inl (List.mem_of_getElem? (i := 388) (by decide +kernel))
theorem mlL_39 : ML RL 39 yX6_type := Or.inl (List.mem_of_getElem? (i := 952) (by decide +kernel))
theorem mlL_40 : ML RL 40 yX5_caravan := Or.inl (List.mem_of_getElem? (i := 396) (by decide +kernel))
theorem mlL_44 : ML RL 44 yX6_caravan := Or.inl (List.mem_of_getElem? (i := 958) (by decide +kernel))
theorem mlL_45 : ML RL 45 yX5_count := Or.inl (List.mem_of_getElem? (i := 449) (by decide +kernel))
theorem mlL_48 : ML RL 48 yX6_count := Or.inl (List.mem_of_getElem? (i := 869) (by decide +kernel))
theorem mlL_49 : ML RL 49 yX5_minutes := Or.inl (List.mem_of_getElem? (i := 462) (by decide +kernel))
theorem mlL_52 : ML RL 52 yX6_minutes := Or.inl (List.mem_of_getElem? (i := 828) (by decide +kernel))
theorem mlL_53 : ML RL 53 yX5_drift := Or.inl (List.mem_of_getElem? (i := 512) (by decide +kernel))
theorem mlL_56 : ML RL 56 yX6_drift := Or.inl (List.mem_of_getElem? (i := 857) (by decide +kernel))
theorem mlL_57 : ML RL 57 yX5_undo := Or.inl (List.mem_of_getElem? (i := 523) (by decide +kernel))
theorem mlL_60 : ML RL 60 yX6_undo := Or.inl (List.mem_of_getElem? (i := 861) (by decide +kernel))
theorem mlL_61 : ML RL 61 yX5_seed := Or.inl (List.mem_of_getElem? (i := 531) (by decide +kernel))
theorem mlL_64 : ML RL 64 yX6_seed := Or.inl (List.mem_of_getElem? (i := 865) (by decide +kernel))
theorem mlL_65 : ML RL 65 yX5_water := Or.inl (List.mem_of_getElem? (i := 535) (by decide +kernel))
theorem mlL_68 : ML RL 68 yX6_water := Or.inl (List.mem_of_getElem? (i := 878) (by decide +kernel))
theorem mlL_69 : ML RL 69 yX5_done := Or.inl (List.mem_of_getElem? (i := 548) (by decide +kernel))
theorem mlL_72 : ML RL 72 yX6_done := Or.inl (List.mem_of_getElem? (i := 891) (by decide +kernel))
theorem mlL_73 : ML RL 73 yX5_all := Or.inl (List.mem_of_getElem? (i := 560) (by decide +kernel))
theorem mlL_76 : ML RL 76 yX6_all := Or.inl (List.mem_of_getElem? (i := 899) (by decide +kernel))
theorem mlL_77 : ML RL 77 yX5_height := Or.inl (List.mem_of_getElem? (i := 572) (by decide +kernel))
theorem mlL_80 : ML RL 80 yX6_height := Or.inl (List.mem_of_getElem? (i := 907) (by decide +kernel))
theorem mlL_81 : ML RL 81 yX5_pulls := Or.inl (List.mem_of_getElem? (i := 576) (by decide +kernel))
theorem mlL_84 : ML RL 84 yX6_pulls := Or.inl (List.mem_of_getElem? (i := 911) (by decide +kernel))
theorem mlL_85 : ML RL 85 yX5_waits := Or.inl (List.mem_of_getElem? (i := 580) (by decide +kernel))
theorem mlL_88 : ML RL 88 yX6_waits := Or.inl (List.mem_of_getElem? (i := 915) (by decide +kernel))
theorem mlL_89 : ML RL 89 yX5_least := Or.inl (List.mem_of_getElem? (i := 588) (by decide +kernel))
theorem mlL_92 : ML RL 92 yX6_least := Or.inl (List.mem_of_getElem? (i := 923) (by decide +kernel))
theorem mlL_93 : ML RL 93 yX5_both := Or.inl (List.mem_of_getElem? (i := 597) (by decide +kernel))
theorem mlL_96 : ML RL 96 yX6_both := Or.inl (List.mem_of_getElem? (i := 931) (by decide +kernel))
theorem mlL_97 : ML RL 97 yX5_wholly := Or.inl (List.mem_of_getElem? (i := 601) (by decide +kernel))
theorem mlL_100 : ML RL 100 yX6_wholly := Or.inl (List.mem_of_getElem? (i := 935) (by decide +kernel))
theorem mlL_101 : ML RL 101 yX5_drank := Or.inl (List.mem_of_getElem? (i := 611) (by decide +kernel))
theorem mlL_104 : ML RL 104 yX6_drank := Or.inl (List.mem_of_getElem? (i := 942) (by decide +kernel))
theorem mlL_105 : ML RL 105 yX5_holds := Or.inl (List.mem_of_getElem? (i := 619) (by decide +kernel))
theorem mlL_108 : ML RL 108 yX6_holds := Or.inl (List.mem_of_getElem? (i := 947) (by decide +kernel))
theorem mlL_109 : ML RL 109 yX5_image := Or.inl (List.mem_of_getElem? (i := 625) (by decide +kernel))
theorem mlL_112 : ML RL 112 yX6_image := Or.inl (List.mem_of_getElem? (i := 988) (by decide +kernel))
theorem mlL_113 : ML RL 113 yX5_restore := Or.inl (List.mem_of_getElem? (i := 633) (by decide +kernel))
theorem mlL_116 : ML RL 116 yX6_restore := Or.inl (List.mem_of_getElem? (i := 992) (by decide +kernel))
theorem mlL_117 : ML RL 117 yX5_buckets := Or.inl (List.mem_of_getElem? (i := 637) (by decide +kernel))
theorem mlL_121 : ML RL 121 yX6_buckets := Or.inl (List.mem_of_getElem? (i := 996) (by decide +kernel))
theorem mlL_122 : ML RL 122 yX5_film := Or.inl (List.mem_of_getElem? (i := 662) (by decide +kernel))
theorem mlL_125 : ML RL 125 yX6_film := Or.inl (List.mem_of_getElem? (i := 1010) (by decide +kernel))
theorem mlL_126 : ML RL 126 yX5_sheet := Or.inl (List.mem_of_getElem? (i := 670) (by decide +kernel))
theorem mlL_129 : ML RL 129 yX6_sheet := Or.inl (List.mem_of_getElem? (i := 1015) (by decide +kernel))
theorem mlL_130 : ML RL 130 yX5_drop := Or.inl (List.mem_of_getElem? (i := 678) (by decide +kernel))
theorem mlL_133 : ML RL 133 yX6_drop := Or.inl (List.mem_of_getElem? (i := 1019) (by decide +kernel))
theorem mlL_136 : ML RL 136 yX5_item := Or.inl (List.mem_of_getElem? (i := 682) (by decide +kernel))
theorem mlL_140 : ML RL 140 yX6_item := Or.inl (List.mem_of_getElem? (i := 1023) (by decide +kernel))
theorem mlL_141 : ML RL 141 yX5_copy := Or.inl (List.mem_of_getElem? (i := 686) (by decide +kernel))
theorem mlL_145 : ML RL 145 yX6_copy := Or.inl (List.mem_of_getElem? (i := 1027) (by decide +kernel))
theorem mlX0_52 : Cond.methodLink RX0 52 arraycopyName ∈ lw_tbl := (List.mem_of_getElem? (i := 404) (by decide +kernel))
theorem mlX0_58 : ML RX0 58 yX5_milky := Or.inr ⟨"WellTurns", (List.mem_of_getElem? (i := 317) (by decide +kernel))⟩
theorem mlX0_65 : ML RX0 65 yX0_lineByDays := Or.inl (List.mem_of_getElem? (i := 364) (by decide +kernel))
theorem mlX0_68 : ML RX0 68 yX0_lineMilky := Or.inl (List.mem_of_getElem? (i := 372) (by decide +kernel))
theorem mlX0_72 : ML RX0 72 yX0_lineByTurns := Or.inl (List.mem_of_getElem? (i := 376) (by decide +kernel))
theorem mlX0_75 : ML RX0 75 yX0_lineAsTheyCome := Or.inl (List.mem_of_getElem? (i := 384) (by decide +kernel))
theorem mlX0_78 : ML RX0 78 yX0_lineUp := Or.inl (List.mem_of_getElem? (i := 368) (by decide +kernel))
theorem mlX0_82 : ML RX0 82 yX0_nextOf := Or.inl (List.mem_of_getElem? (i := 380) (by decide +kernel))
theorem mlX1_43 : Cond.methodLink RX1 43 arraycopyName ∈ lw_tbl := (List.mem_of_getElem? (i := 478) (by decide +kernel))
theorem mlX1_54 : ML RX1 54 yX1_needs := Or.inl (List.mem_of_getElem? (i := 336) (by decide +kernel))
theorem mlX1_58 : Cond.methodLink RX1 58 Lib.Math.max.name ∈ lw_tbl := (List.mem_of_getElem? (i := 494) (by decide +kernel))
theorem mlX1_67 : ML RX1 67 yX1_needsYet := Or.inl (List.mem_of_getElem? (i := 503) (by decide +kernel))
theorem mlX1_70 : ML RX1 70 yX1_sated := Or.inl (List.mem_of_getElem? (i := 457) (by decide +kernel))
theorem mlX1_77 : ML RX1 77 yX1_anySwollen := Or.inl (List.mem_of_getElem? (i := 486) (by decide +kernel))
theorem mlX1_84 : ML RX1 84 yX1_drawBucket := Or.inl (List.mem_of_getElem? (i := 490) (by decide +kernel))
theorem mlX1_88 : ML RX1 88 yX1_waterBeasts := Or.inl (List.mem_of_getElem? (i := 499) (by decide +kernel))
theorem mlX1_100 : Cond.methodLink RX1 100 Lib.Math.min.name ∈ lw_tbl := (List.mem_of_getElem? (i := 497) (by decide +kernel))
theorem mlX1_103 : ML RX1 103 yX0_lacks := Or.inl (List.mem_of_getElem? (i := 498) (by decide +kernel))
theorem mlX1_116 : ML RX1 116 yX5_gulp := Or.inr ⟨"WellTurns", (List.mem_of_getElem? (i := 507) (by decide +kernel))⟩
theorem mlX1_120 : ML RX1 120 yX1_swell := Or.inl (List.mem_of_getElem? (i := 508) (by decide +kernel))
theorem mlX2_18 : ML RX2 18 yX1_takeFrom := Or.inl (List.mem_of_getElem? (i := 474) (by decide +kernel))
theorem mlX2_29 : Cond.methodLink RX2 29 Lib.Math.min.name ∈ lw_tbl := (List.mem_of_getElem? (i := 479) (by decide +kernel))
theorem mlX3_22 : ML RX3 22 yX3_lacks := Or.inl (List.mem_of_getElem? (i := 648) (by decide +kernel))
theorem mlX4_30 : ML RX4 30 yX4_readWell := Or.inl (List.mem_of_getElem? (i := 411) (by decide +kernel))
theorem mlX4_34 : ML RX4 34 yX4_readBeasts := Or.inl (List.mem_of_getElem? (i := 431) (by decide +kernel))
theorem mlX4_37 : ML RX4 37 yX4_readNumber := Or.inl (List.mem_of_getElem? (i := 415) (by decide +kernel))
theorem mlX4_44 : ML RX4 44 yX4_pass := Or.inl (List.mem_of_getElem? (i := 427) (by decide +kernel))
theorem mlX4_51 : ML RX4 51 yX4_readBeast := Or.inl (List.mem_of_getElem? (i := 435) (by decide +kernel))
theorem mlX4_54 : ML RX4 54 yX4_ahead := Or.inl (List.mem_of_getElem? (i := 419) (by decide +kernel))
theorem mlX4_58 : ML RX4 58 yX4_kindOf := Or.inl (List.mem_of_getElem? (i := 439) (by decide +kernel))
theorem mlX4_61 : ML RX4 61 yX5_outside := Or.inr ⟨"WellTurns", (List.mem_of_getElem? (i := 443) (by decide +kernel))⟩
theorem mlX4_65 : ML RX4 65 yX0_add := Or.inl (List.mem_of_getElem? (i := 444) (by decide +kernel))
theorem mlX4_69 : ML RX4 69 yX4_digit := Or.inl (List.mem_of_getElem? (i := 423) (by decide +kernel))
theorem mlX5_69 : ML RX5 69 yX5_outside := Or.inl (List.mem_of_getElem? (i := 306) (by decide +kernel))
theorem mlX5_77 : ML RX5 77 yX2_forget := Or.inl (List.mem_of_getElem? (i := 309) (by decide +kernel))
theorem mlX5_80 : ML RX5 80 yX0_add := Or.inl (List.mem_of_getElem? (i := 313) (by decide +kernel))
theorem mlX5_84 : ML RX5 84 yX0_lacks := Or.inl (List.mem_of_getElem? (i := 324) (by decide +kernel))
theorem mlX5_97 : ML RX5 97 yX1_needs := Or.inl (List.mem_of_getElem? (i := 328) (by decide +kernel))
theorem mlX5_107 : ML RX5 107 yX1_sated := Or.inl (List.mem_of_getElem? (i := 332) (by decide +kernel))
theorem mlX5_114 : ML RX5 114 yX5_gulp := Or.inl (List.mem_of_getElem? (i := 337) (by decide +kernel))
theorem mlX5_124 : ML RX5 124 yX5_measure := Or.inl (List.mem_of_getElem? (i := 348) (by decide +kernel))
theorem mlX5_151 : ML RX5 151 yX0_arrange := Or.inl (List.mem_of_getElem? (i := 360) (by decide +kernel))
theorem mlX5_157 : ML RX5 157 yX4_put := Or.inl (List.mem_of_getElem? (i := 392) (by decide +kernel))
theorem mlX5_163 : ML RX5 163 yX0_takeFrom := Or.inl (List.mem_of_getElem? (i := 400) (by decide +kernel))
theorem mlX5_167 : ML RX5 167 yX4_readInto := Or.inl (List.mem_of_getElem? (i := 407) (by decide +kernel))
theorem mlX5_172 : ML RX5 172 yX1_begin := Or.inl (List.mem_of_getElem? (i := 445) (by decide +kernel))
theorem mlX5_191 : ML RX5 191 yX1_satedSet := Or.inl (List.mem_of_getElem? (i := 453) (by decide +kernel))
theorem mlX5_194 : ML RX5 194 yX1_drunkTogether := Or.inl (List.mem_of_getElem? (i := 458) (by decide +kernel))
theorem mlX5_198 : ML RX5 198 yX5_refusal := Or.inl (List.mem_of_getElem? (i := 466) (by decide +kernel))
theorem mlX5_201 : ML RX5 201 yX2_keep := Or.inl (List.mem_of_getElem? (i := 470) (by decide +kernel))
theorem mlX5_205 : ML RX5 205 yX1_step := Or.inl (List.mem_of_getElem? (i := 482) (by decide +kernel))
theorem mlX5_208 : ML RX5 208 yX1_ropeBreaks := Or.inl (List.mem_of_getElem? (i := 516) (by decide +kernel))
theorem mlX5_212 : ML RX5 212 yX2_giveBack := Or.inl (List.mem_of_getElem? (i := 527) (by decide +kernel))
theorem mlX5_219 : ML RX5 219 yX5_foretell := Or.inl (List.mem_of_getElem? (i := 539) (by decide +kernel))
theorem mlX5_222 : ML RX5 222 yX5_play := Or.inl (List.mem_of_getElem? (i := 544) (by decide +kernel))
theorem mlX5_226 : ML RX5 226 yX5_foretellDone := Or.inl (List.mem_of_getElem? (i := 552) (by decide +kernel))
theorem mlX5_229 : ML RX5 229 yX5_soonestAll := Or.inl (List.mem_of_getElem? (i := 564) (by decide +kernel))
theorem mlX5_232 : ML RX5 232 yX5_herdWaits := Or.inl (List.mem_of_getElem? (i := 584) (by decide +kernel))
theorem mlX5_235 : ML RX5 235 yX5_bestLaw := Or.inl (List.mem_of_getElem? (i := 592) (by decide +kernel))
theorem mlX5_239 : ML RX5 239 yX1_takeFrom := Or.inl (List.mem_of_getElem? (i := 543) (by decide +kernel))
theorem mlX5_241 : ML RX5 241 yJ6_bitCount_0f7a4 := Or.inl (List.mem_of_getElem? (i := 605) (by decide +kernel))
theorem mlX5_246 : ML RX5 246 yX1_needsYetOf := Or.inl (List.mem_of_getElem? (i := 615) (by decide +kernel))
theorem mlX5_250 : Cond.methodLink RX5 250 Lib.Math.min.name ∈ lw_tbl := (List.mem_of_getElem? (i := 624) (by decide +kernel))
theorem mlX5_256 : ML RX5 256 yX2_takeFrom := Or.inl (List.mem_of_getElem? (i := 629) (by decide +kernel))
theorem mlX5_263 : ML RX5 263 yX1_allSated := Or.inl (List.mem_of_getElem? (i := 568) (by decide +kernel))
theorem mlX5_267 : ML RX5 267 yX5_markDone := Or.inl (List.mem_of_getElem? (i := 556) (by decide +kernel))
theorem mlX5_270 : Cond.methodLink RX5 270 Lib.Math.max.name ∈ lw_tbl := (List.mem_of_getElem? (i := 596) (by decide +kernel))
theorem mlX5_273 : ML RX5 273 yX5_noSheet := Or.inl (List.mem_of_getElem? (i := 641) (by decide +kernel))
theorem mlX5_276 : ML RX5 276 yX3_refusal := Or.inl (List.mem_of_getElem? (i := 644) (by decide +kernel))
theorem mlX5_279 : ML RX5 279 yX5_readSeen := Or.inl (List.mem_of_getElem? (i := 652) (by decide +kernel))
theorem mlX5_283 : ML RX5 283 yX5_wouldBeSeen := Or.inl (List.mem_of_getElem? (i := 658) (by decide +kernel))
theorem mlX5_295 : ML RX5 295 yX3_put := Or.inl (List.mem_of_getElem? (i := 666) (by decide +kernel))
theorem mlX5_298 : ML RX5 298 yX3_renew := Or.inl (List.mem_of_getElem? (i := 674) (by decide +kernel))
theorem mlX5_307 : ML RX5 307 yX3_lacks := Or.inl (List.mem_of_getElem? (i := 690) (by decide +kernel))
theorem mlX5_309 : Cond.methodLink RX5 309 arraycopyName ∈ lw_tbl := (List.mem_of_getElem? (i := 691) (by decide +kernel))
theorem mlX6_51 : ML RX6 51 yX6_in := Or.inl (List.mem_of_getElem? (i := 764) (by decide +kernel))
theorem mlX6_55 : ML RX6 55 yX6_at := Or.inl (List.mem_of_getElem? (i := 777) (by decide +kernel))
theorem mlX6_59 : ML RX6 59 yX6_isMilk := Or.inl (List.mem_of_getElem? (i := 785) (by decide +kernel))
theorem mlX6_63 : ML RX6 63 yX6_needs := Or.inl (List.mem_of_getElem? (i := 781) (by decide +kernel))
theorem mlX6_67 : ML RX6 67 yX6_isSated := Or.inl (List.mem_of_getElem? (i := 789) (by decide +kernel))
theorem mlX6_77 : ML RX6 77 yX6_isBeast := Or.inl (List.mem_of_getElem? (i := 772) (by decide +kernel))
theorem mlX6_82 : ML RX6 82 yX6_drinks := Or.inl (List.mem_of_getElem? (i := 793) (by decide +kernel))
theorem mlX6_87 : ML RX6 87 yX6_low := Or.inl (List.mem_of_getElem? (i := 802) (by decide +kernel))
theorem mlX6_90 : ML RX6 90 yX6_high := Or.inl (List.mem_of_getElem? (i := 805) (by decide +kernel))
theorem mlX6_93 : ML RX6 93 yX6_among := Or.inl (List.mem_of_getElem? (i := 824) (by decide +kernel))
theorem mlX6_96 : ML RX6 96 yX6_isAhead := Or.inl (List.mem_of_getElem? (i := 820) (by decide +kernel))
theorem mlX6_100 : ML RX6 100 yX6_orders := Or.inl (List.mem_of_getElem? (i := 816) (by decide +kernel))
theorem mlX6_114 : ML RX6 114 yX6_draws := Or.inl (List.mem_of_getElem? (i := 845) (by decide +kernel))
theorem mlX6_118 : ML RX6 118 yX6_drinksOf := Or.inl (List.mem_of_getElem? (i := 853) (by decide +kernel))
theorem mlX6_121 : ML RX6 121 yX6_notes := Or.inl (List.mem_of_getElem? (i := 837) (by decide +kernel))
theorem mlX6_124 : ML RX6 124 yX6_goes := Or.inl (List.mem_of_getElem? (i := 841) (by decide +kernel))
theorem mlX6_130 : ML RX6 130 yX6_gone := Or.inl (List.mem_of_getElem? (i := 833) (by decide +kernel))
theorem mlX6_134 : ML RX6 134 yX6_sated := Or.inl (List.mem_of_getElem? (i := 873) (by decide +kernel))
theorem mlX6_142 : ML RX6 142 yX6_asides := Or.inl (List.mem_of_getElem? (i := 883) (by decide +kernel))
theorem mlX6_145 : ML RX6 145 yX6_backs := Or.inl (List.mem_of_getElem? (i := 887) (by decide +kernel))
theorem mlX6_148 : ML RX6 148 yX6_goesOn := Or.inl (List.mem_of_getElem? (i := 895) (by decide +kernel))
theorem mlX6_151 : ML RX6 151 yX6_others := Or.inl (List.mem_of_getElem? (i := 903) (by decide +kernel))
theorem mlX6_154 : ML RX6 154 yX6_waitsOf := Or.inl (List.mem_of_getElem? (i := 919) (by decide +kernel))
theorem mlX6_157 : ML RX6 157 yX6_lawBy := Or.inl (List.mem_of_getElem? (i := 927) (by decide +kernel))
theorem mlX6_160 : ML RX6 160 yX6_many := Or.inl (List.mem_of_getElem? (i := 939) (by decide +kernel))
theorem mlX6_184 : ML RX6 184 yX6_here := Or.inl (List.mem_of_getElem? (i := 966) (by decide +kernel))
theorem mlX6_187 : ML RX6 187 yX6_must := Or.inl (List.mem_of_getElem? (i := 975) (by decide +kernel))
theorem mlX6_190 : ML RX6 190 yX6_isDigit := Or.inl (List.mem_of_getElem? (i := 970) (by decide +kernel))
theorem mlX6_195 : ML RX6 195 yX6_number := Or.inl (List.mem_of_getElem? (i := 962) (by decide +kernel))
theorem mlX6_198 : ML RX6 198 yX6_takes := Or.inl (List.mem_of_getElem? (i := 979) (by decide +kernel))
theorem mlX6_201 : ML RX6 201 yX6_readBeast := Or.inl (List.mem_of_getElem? (i := 983) (by decide +kernel))
theorem mlX6_210 : ML RX6 210 yX6_isSheet := Or.inl (List.mem_of_getElem? (i := 1000) (by decide +kernel))
theorem mlX6_213 : ML RX6 213 yX6_isLane := Or.inl (List.mem_of_getElem? (i := 1003) (by decide +kernel))
theorem mlX6_216 : ML RX6 216 yX6_why := Or.inl (List.mem_of_getElem? (i := 1006) (by decide +kernel))
theorem ctJ6_265 : Cond.constant RJ6 265 1431655765 ∈ lw_tbl := (List.mem_of_getElem? (i := 608) (by decide +kernel))
theorem ctJ6_266 : Cond.constant RJ6 266 858993459 ∈ lw_tbl := (List.mem_of_getElem? (i := 609) (by decide +kernel))
theorem ctJ6_267 : Cond.constant RJ6 267 252645135 ∈ lw_tbl := (List.mem_of_getElem? (i := 610) (by decide +kernel))
theorem ctL_134 : Cond.constantLong RL 134 4294967295 ∈ lw_tbl := (List.mem_of_getElem? (i := 1031) (by decide +kernel))
theorem ctX1_124 : Cond.constant RX1 124 1103515245 ∈ lw_tbl := (List.mem_of_getElem? (i := 520) (by decide +kernel))
theorem ctX1_125 : Cond.constant RX1 125 2147483647 ∈ lw_tbl := (List.mem_of_getElem? (i := 521) (by decide +kernel))
theorem ctX1_126 : Cond.constant RX1 126 65536 ∈ lw_tbl := (List.mem_of_getElem? (i := 522) (by decide +kernel))
theorem ctX5_249 : Cond.constant RX5 249 1000000 ∈ lw_tbl := (List.mem_of_getElem? (i := 623) (by decide +kernel))
theorem ctX5_291 : Cond.constantLong RX5 291 240 ∈ lw_tbl := (List.mem_of_getElem? (i := 656) (by decide +kernel))
theorem ctX5_293 : Cond.constantLong RX5 293 60 ∈ lw_tbl := (List.mem_of_getElem? (i := 657) (by decide +kernel))
theorem ctX6_70 : Cond.constantLong RX6 70 3 ∈ lw_tbl := (List.mem_of_getElem? (i := 763) (by decide +kernel))
theorem ctX6_72 : Cond.constantLong RX6 72 9 ∈ lw_tbl := (List.mem_of_getElem? (i := 767) (by decide +kernel))
theorem ctX6_80 : Cond.constantLong RX6 80 8 ∈ lw_tbl := (List.mem_of_getElem? (i := 776) (by decide +kernel))
theorem ctX6_85 : Cond.constantLong RX6 85 6 ∈ lw_tbl := (List.mem_of_getElem? (i := 801) (by decide +kernel))
theorem ctX6_104 : Cond.constantLong RX6 104 1103515245 ∈ lw_tbl := (List.mem_of_getElem? (i := 849) (by decide +kernel))
theorem ctX6_106 : Cond.constantLong RX6 106 12345 ∈ lw_tbl := (List.mem_of_getElem? (i := 850) (by decide +kernel))
theorem ctX6_108 : Cond.constantLong RX6 108 2147483647 ∈ lw_tbl := (List.mem_of_getElem? (i := 851) (by decide +kernel))
theorem ctX6_110 : Cond.constant RX6 110 65536 ∈ lw_tbl := (List.mem_of_getElem? (i := 852) (by decide +kernel))
theorem ctX6_128 : Cond.constantLong RX6 128 60 ∈ lw_tbl := (List.mem_of_getElem? (i := 832) (by decide +kernel))
theorem ctX6_138 : Cond.constantLong RX6 138 14 ∈ lw_tbl := (List.mem_of_getElem? (i := 877) (by decide +kernel))
theorem ctX6_140 : Cond.constantLong RX6 140 240 ∈ lw_tbl := (List.mem_of_getElem? (i := 882) (by decide +kernel))
theorem ctX6_163 : Cond.constantLong RX6 163 999 ∈ lw_tbl := (List.mem_of_getElem? (i := 946) (by decide +kernel))
theorem ctX6_165 : Cond.constant RX6 165 1000000 ∈ lw_tbl := (List.mem_of_getElem? (i := 951) (by decide +kernel))
theorem ctX6_166 : Cond.constantLong RX6 166 32 ∈ lw_tbl := (List.mem_of_getElem? (i := 956) (by decide +kernel))
theorem ctX6_168 : Cond.constantLong RX6 168 126 ∈ lw_tbl := (List.mem_of_getElem? (i := 957) (by decide +kernel))
theorem ctX6_180 : Cond.constantLong RX6 180 48 ∈ lw_tbl := (List.mem_of_getElem? (i := 973) (by decide +kernel))
theorem ctX6_182 : Cond.constantLong RX6 182 57 ∈ lw_tbl := (List.mem_of_getElem? (i := 974) (by decide +kernel))
theorem ctX6_193 : Cond.constantLong RX6 193 49 ∈ lw_tbl := (List.mem_of_getElem? (i := 987) (by decide +kernel))
theorem ctX6_220 : Cond.constantLong RX6 220 24 ∈ lw_tbl := (List.mem_of_getElem? (i := 1014) (by decide +kernel))
theorem lI2 : (ln 2 : Int) = 7 := by rw [lN2]; rfl
theorem lI3 : (ln 3 : Int) = 7 := by rw [lN3]; rfl
theorem lI4 : (ln 4 : Int) = 7 := by rw [lN4]; rfl
theorem lI5 : (ln 5 : Int) = 7 := by rw [lN5]; rfl
theorem lI6 : (ln 6 : Int) = 7 := by rw [lN6]; rfl
theorem lI8 : (ln 8 : Int) = 7 := by rw [lN8]; rfl
theorem lI9 : (ln 9 : Int) = 7 := by rw [lN9]; rfl
theorem lI10 : (ln 10 : Int) = 7 := by rw [lN10]; rfl
theorem lI11 : (ln 11 : Int) = 7 := by rw [lN11]; rfl
theorem lI13 : (ln 13 : Int) = 8 := by rw [lN13]; rfl
theorem lI15 : (ln 15 : Int) = 7 := by rw [lN15]; rfl
theorem lI16 : (ln 16 : Int) = 7 := by rw [lN16]; rfl
theorem lI17 : (ln 17 : Int) = 7 := by rw [lN17]; rfl
theorem lI18 : (ln 18 : Int) = 7 := by rw [lN18]; rfl
theorem lI20 : (ln 20 : Int) = 7 := by rw [lN20]; rfl
theorem lI21 : (ln 21 : Int) = 7 := by rw [lN21]; rfl
theorem lI22 : (ln 22 : Int) = 7 := by rw [lN22]; rfl
theorem lI23 : (ln 23 : Int) = 7 := by rw [lN23]; rfl
theorem lI25 : (ln 25 : Int) = 7 := by rw [lN25]; rfl
theorem lI26 : (ln 26 : Int) = 7 := by rw [lN26]; rfl
theorem lI27 : (ln 27 : Int) = 7 := by rw [lN27]; rfl
theorem lI28 : (ln 28 : Int) = 7 := by rw [lN28]; rfl
theorem lI30 : (ln 30 : Int) = 7 := by rw [lN30]; rfl
theorem lI31 : (ln 31 : Int) = 7 := by rw [lN31]; rfl
theorem lI32 : (ln 32 : Int) = 7 := by rw [lN32]; rfl
theorem lI33 : (ln 33 : Int) = 7 := by rw [lN33]; rfl
theorem lI35 : (ln 35 : Int) = 7 := by rw [lN35]; rfl
theorem lI36 : (ln 36 : Int) = 7 := by rw [lN36]; rfl
theorem lI37 : (ln 37 : Int) = 7 := by rw [lN37]; rfl
theorem lI38 : (ln 38 : Int) = 7 := by rw [lN38]; rfl
theorem lI40 : (ln 40 : Int) = 7 := by rw [lN40]; rfl
theorem lI41 : (ln 41 : Int) = 7 := by rw [lN41]; rfl
theorem lI42 : (ln 42 : Int) = 7 := by rw [lN42]; rfl
theorem lI43 : (ln 43 : Int) = 7 := by rw [lN43]; rfl
theorem lI45 : (ln 45 : Int) = 7 := by rw [lN45]; rfl
theorem lI46 : (ln 46 : Int) = 7 := by rw [lN46]; rfl
theorem lI47 : (ln 47 : Int) = 7 := by rw [lN47]; rfl
theorem lI48 : (ln 48 : Int) = 7 := by rw [lN48]; rfl
theorem lI50 : (ln 50 : Int) = 7 := by rw [lN50]; rfl
theorem lI51 : (ln 51 : Int) = 7 := by rw [lN51]; rfl
theorem lI52 : (ln 52 : Int) = 7 := by rw [lN52]; rfl
theorem lI53 : (ln 53 : Int) = 7 := by rw [lN53]; rfl
theorem lI55 : (ln 55 : Int) = 7 := by rw [lN55]; rfl
theorem lI56 : (ln 56 : Int) = 7 := by rw [lN56]; rfl
theorem lI57 : (ln 57 : Int) = 7 := by rw [lN57]; rfl
theorem lI58 : (ln 58 : Int) = 7 := by rw [lN58]; rfl
theorem lI59 : (ln 59 : Int) = 7 := by rw [lN59]; rfl
theorem lI61 : (ln 61 : Int) = 7 := by rw [lN61]; rfl
theorem lI62 : (ln 62 : Int) = 7 := by rw [lN62]; rfl
theorem lI63 : (ln 63 : Int) = 7 := by rw [lN63]; rfl
theorem lI64 : (ln 64 : Int) = 7 := by rw [lN64]; rfl
theorem lI66 : (ln 66 : Int) = 8 := by rw [lN66]; rfl
theorem lI68 : (ln 68 : Int) = 7 := by rw [lN68]; rfl
theorem lI69 : (ln 69 : Int) = 7 := by rw [lN69]; rfl
theorem lI70 : (ln 70 : Int) = 7 := by rw [lN70]; rfl
theorem lI71 : (ln 71 : Int) = 7 := by rw [lN71]; rfl
theorem lI73 : (ln 73 : Int) = 7 := by rw [lN73]; rfl
theorem lI74 : (ln 74 : Int) = 7 := by rw [lN74]; rfl
theorem lI75 : (ln 75 : Int) = 7 := by rw [lN75]; rfl
theorem lI76 : (ln 76 : Int) = 7 := by rw [lN76]; rfl
theorem lI78 : (ln 78 : Int) = 7 := by rw [lN78]; rfl
theorem lI79 : (ln 79 : Int) = 7 := by rw [lN79]; rfl
theorem lI80 : (ln 80 : Int) = 7 := by rw [lN80]; rfl
theorem lI81 : (ln 81 : Int) = 7 := by rw [lN81]; rfl
theorem lI83 : (ln 83 : Int) = 7 := by rw [lN83]; rfl
theorem lI84 : (ln 84 : Int) = 7 := by rw [lN84]; rfl
theorem lI85 : (ln 85 : Int) = 7 := by rw [lN85]; rfl
theorem lI86 : (ln 86 : Int) = 7 := by rw [lN86]; rfl
theorem lI88 : (ln 88 : Int) = 7 := by rw [lN88]; rfl
theorem lI89 : (ln 89 : Int) = 7 := by rw [lN89]; rfl
theorem lI90 : (ln 90 : Int) = 7 := by rw [lN90]; rfl
theorem lI91 : (ln 91 : Int) = 7 := by rw [lN91]; rfl
theorem lI93 : (ln 93 : Int) = 7 := by rw [lN93]; rfl
theorem lI94 : (ln 94 : Int) = 7 := by rw [lN94]; rfl
theorem lI95 : (ln 95 : Int) = 7 := by rw [lN95]; rfl
theorem lI96 : (ln 96 : Int) = 7 := by rw [lN96]; rfl
theorem lI98 : (ln 98 : Int) = 7 := by rw [lN98]; rfl
theorem lI99 : (ln 99 : Int) = 7 := by rw [lN99]; rfl
theorem lI100 : (ln 100 : Int) = 7 := by rw [lN100]; rfl
theorem lI101 : (ln 101 : Int) = 7 := by rw [lN101]; rfl
theorem lI103 : (ln 103 : Int) = 7 := by rw [lN103]; rfl
theorem lI104 : (ln 104 : Int) = 7 := by rw [lN104]; rfl
theorem lI105 : (ln 105 : Int) = 7 := by rw [lN105]; rfl
theorem lI106 : (ln 106 : Int) = 7 := by rw [lN106]; rfl
theorem lI108 : (ln 108 : Int) = 7 := by rw [lN108]; rfl
theorem lI109 : (ln 109 : Int) = 7 := by rw [lN109]; rfl
theorem lI110 : (ln 110 : Int) = 7 := by rw [lN110]; rfl
theorem lI111 : (ln 111 : Int) = 7 := by rw [lN111]; rfl
theorem lI112 : (ln 112 : Int) = 7 := by rw [lN112]; rfl
theorem lI114 : (ln 114 : Int) = 7 := by rw [lN114]; rfl
theorem lI115 : (ln 115 : Int) = 7 := by rw [lN115]; rfl
theorem lI116 : (ln 116 : Int) = 7 := by rw [lN116]; rfl
theorem lI117 : (ln 117 : Int) = 7 := by rw [lN117]; rfl
theorem lI118 : (ln 118 : Int) = 7 := by rw [lN118]; rfl
theorem lI119 : (ln 119 : Int) = 8 := by rw [lN119]; rfl
theorem lI120 : (ln 120 : Int) = 8 := by rw [lN120]; rfl
theorem lI122 : (ln 122 : Int) = 60 := by rw [lN122]; rfl
theorem lI123 : (ln 123 : Int) = 4 := by rw [lN123]; rfl
theorem lI125 : (ln 125 : Int) = 24 := by rw [lN125]; rfl
theorem lI127 : (ln 127 : Int) = 24 := by rw [lN127]; rfl
theorem lI129 : (ln 129 : Int) = 24 := by rw [lN129]; rfl
theorem lI131 : (ln 131 : Int) = 24 := by rw [lN131]; rfl
theorem lI133 : (ln 133 : Int) = 63 := by rw [lN133]; rfl
theorem lI134 : (ln 134 : Int) = 7 := by rw [lN134]; rfl
theorem lI135 : (ln 135 : Int) = 504 := by rw [lN135]; rfl
theorem lI136 : (ln 136 : Int) = 63 := by rw [lN136]; rfl
theorem lI137 : (ln 137 : Int) = 7 := by rw [lN137]; rfl
theorem lI138 : (ln 138 : Int) = 60 := by rw [lN138]; rfl
theorem lI139 : (ln 139 : Int) = 21 := by rw [lN139]; rfl
theorem lI140 : (ln 140 : Int) = 567 := by rw [lN140]; rfl
theorem lI141 : (ln 141 : Int) = 4 := by rw [lN141]; rfl
theorem lI142 : (ln 142 : Int) = 4 := by rw [lN142]; rfl
theorem lI143 : (ln 143 : Int) = 96 := by rw [lN143]; rfl
theorem lI144 : (ln 144 : Int) = 24 := by rw [lN144]; rfl
theorem IsCamp.i1 {a : Nat} (h : IsCamp a) : (ln (a + 1) : Int) = 7 := by rw [h.l1]; rfl
theorem IsCamp.i2 {a : Nat} (h : IsCamp a) : (ln (a + 2) : Int) = 7 := by rw [h.l2]; rfl
theorem IsCamp.i3 {a : Nat} (h : IsCamp a) : (ln (a + 3) : Int) = 7 := by rw [h.l3]; rfl
theorem IsCamp.i4 {a : Nat} (h : IsCamp a) : (ln (a + 4) : Int) = 7 := by rw [h.l4]; rfl
theorem IsCamp.i5 {a : Nat} (h : IsCamp a) : (ln (a + 5) : Int) = 7 := by rw [h.l5]; rfl
theorem IsMom.i1 {a : Nat} (h : IsMom a) : (ln (a + 1) : Int) = 7 := by rw [h.l1]; rfl
theorem IsMom.i2 {a : Nat} (h : IsMom a) : (ln (a + 2) : Int) = 7 := by rw [h.l2]; rfl
theorem IsMom.i3 {a : Nat} (h : IsMom a) : (ln (a + 3) : Int) = 7 := by rw [h.l3]; rfl
theorem IsMom.i4 {a : Nat} (h : IsMom a) : (ln (a + 4) : Int) = 7 := by rw [h.l4]; rfl
theorem IsPast.i1 {a : Nat} (h : IsPast a) : (ln (a + 1) : Int) = 8 := by rw [h.l1]; rfl
theorem IsSheet.i1 {a : Nat} (h : IsSheet a) : (ln (a + 1) : Int) = 24 := by rw [h.l1]; rfl
