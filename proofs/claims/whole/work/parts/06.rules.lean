def In32 (z : Int) : Prop := -2147483648 ≤ z ∧ z < 2147483648
def In64 (z : Int) : Prop := -9223372036854775808 ≤ z ∧ z < 9223372036854775808
theorem bm32 {z : Int} (h1 : -2147483648 ≤ z) (h2 : z < 2147483648) : z.bmod Int32.size = z := by
  show z.bmod (2 ^ 32) = z; rw [Int.bmod_eq_of_le (by omega) (by omega)]
theorem bm64 {z : Int} (h1 : -9223372036854775808 ≤ z) (h2 : z < 9223372036854775808) : z.bmod Int64.size = z := by
  show z.bmod (2 ^ 64) = z; rw [Int.bmod_eq_of_le (by omega) (by omega)]
theorem bm8 {z : Int} (h1 : -128 ≤ z) (h2 : z < 128) : z.bmod Int8.size = z := by
  show z.bmod (2 ^ 8) = z; rw [Int.bmod_eq_of_le (by omega) (by omega)]
theorem bm16 {z : Int} (h1 : -32768 ≤ z) (h2 : z < 32768) : z.bmod Int16.size = z := by
  show z.bmod (2 ^ 16) = z; rw [Int.bmod_eq_of_le (by omega) (by omega)]
theorem oI {z : Int} (h : In32 z) : (Int32.ofInt z).toInt = z := by
  rw [Int32.toInt_ofInt, bm32 h.1 h.2]
theorem oJ {z : Int} (h : In64 z) : (Int64.ofInt z).toInt = z := by
  rw [Int64.toInt_ofInt, bm64 h.1 h.2]
theorem oI0 : Int32.ofInt 0 = 0 := rfl
theorem z0 : (0 : Int32).toInt = 0 := rfl
theorem oClamp {z : Int} (h : In32 z) (h0 : 0 ≤ z) : (Int32.ofInt z).toNatClampNeg = z.toNat := by
  show (Int32.ofInt z).toInt.toNat = z.toNat
  rw [oI h]
theorem oIn {z : Int} {n : Nat} (h : In32 z) (h0 : 0 ≤ z) (h1 : z < n) : vp_in (Int32.ofInt z) n := by
  intro q
  rcases q with q | q
  · rw [Int32.lt_iff_toInt_lt, oI h, z0] at q; omega
  · rw [oClamp h h0] at q; omega
def iOr (x y : Int) : Int := (Int32.ofInt x ||| Int32.ofInt y).toInt
def iAnd (x y : Int) : Int := (Int32.ofInt x &&& Int32.ofInt y).toInt
def iXor (x y : Int) : Int := (Int32.ofInt x ^^^ Int32.ofInt y).toInt
def iShl (x y : Int) : Int := (Int32.ofInt x <<< (Int32.ofInt y &&& 31)).toInt
def iShr (x y : Int) : Int := (Int32.ofInt x >>> (Int32.ofInt y &&& 31)).toInt
def iUshr (x y : Int) : Int := (((Int32.ofInt x).toUInt32 >>> ((Int32.ofInt y).toUInt32 &&& Int32.toUInt32 31)).toInt32).toInt
def lOr (x y : Int) : Int := (Int64.ofInt x ||| Int64.ofInt y).toInt
def lAnd (x y : Int) : Int := (Int64.ofInt x &&& Int64.ofInt y).toInt
def lShl (x y : Int) : Int := (Int64.ofInt x <<< ((Int32.ofInt y).toInt64 &&& 63)).toInt
def lCmp (x y : Int) : Int := if y < x then 1 else if x = y then 0 else -1
def iB (x : Int) : Int := ((Int32.ofInt x).toInt8.toInt32).toInt
def iS (x : Int) : Int := ((Int32.ofInt x).toInt16.toInt32).toInt
theorem oEq {x y : Int} (hx : In32 x) (hy : In32 y) : Int32.ofInt x = Int32.ofInt y ↔ x = y := by rw [← Int32.toInt_inj, oI hx, oI hy]
theorem oLt {x y : Int} (hx : In32 x) (hy : In32 y) : Int32.ofInt x < Int32.ofInt y ↔ x < y := by rw [Int32.lt_iff_toInt_lt, oI hx, oI hy]
theorem oLe {x y : Int} (hx : In32 x) (hy : In32 y) : Int32.ofInt x ≤ Int32.ofInt y ↔ x ≤ y := by rw [Int32.le_iff_toInt_le, oI hx, oI hy]
theorem i0 : In32 0 := ⟨by decide, by decide⟩
theorem oDiv {x y : Int} (h0 : 0 ≤ x) (hx : In32 x) (h1 : 0 < y) (hy : In32 y) : Int32.ofInt x / Int32.ofInt y = Int32.ofInt (x / y) := by
  apply Int32.toInt_inj.mp
  have h2 : x / y ≤ x := Int.ediv_le_self y h0
  have h3 : 0 ≤ x / y := Int.ediv_nonneg h0 (by omega)
  rw [lg_idiv_nonneg (by rw [oI hx]; exact h0) (by rw [oI hy]; exact h1), oI hx, oI hy, oI ⟨by omega, by have := hx.2; omega⟩]
theorem oRem {x y : Int} (h0 : 0 ≤ x) (hx : In32 x) (h1 : 0 < y) (hy : In32 y) : Int32.ofInt x - Int32.ofInt x / Int32.ofInt y * Int32.ofInt y = Int32.ofInt (x % y) := by
  rw [oDiv h0 hx h1 hy, ← Int32.ofInt_mul, ← Int32.ofInt_sub, Int.emod_def, Int.mul_comm]
theorem oByte {z : Int} (h : -128 ≤ z) (h2 : z < 128) : (Int8.ofInt z).toInt32 = Int32.ofInt z := by
  apply Int32.toInt_inj.mp
  rw [Int8.toInt_toInt32, Int8.toInt_ofInt, oI ⟨by omega, by omega⟩, bm8 h h2]
theorem oShort {z : Int} (h : -32768 ≤ z) (h2 : z < 32768) : (Int16.ofInt z).toInt32 = Int32.ofInt z := by
  apply Int32.toInt_inj.mp
  rw [Int16.toInt_toInt32, Int16.toInt_ofInt, oI ⟨by omega, by omega⟩, bm16 h h2]
theorem oL2I (x : Int) : (Int64.ofInt x).toInt32 = Int32.ofInt x := by
  apply Int32.toInt_inj.mp
  rw [Int64.toInt_toInt32, Int64.toInt_ofInt, Int32.toInt_ofInt]
  exact Int.bmod_bmod_of_dvd (by decide)
section VR
variable {G : GG} {M : MI} {pc pc2 : Nat} {ls ls2 : List (Nat × VV)} {st : List VV} {t : Mem} {Q : Int → Mem → Prop} {x y : Int}
theorem V_iconst {z : Int} (hd : decode M.2.1 pc = .ok (.iconst z, 1)) (hp : pc + 1 = pc2) (k : V G M pc2 ls (II z :: st) t Q) : V G M pc ls (st) t Q := by
  subst hp
  intro p e R s m args below meth c cl sl Z hc H locs la hR hS hl
  exact lv_iconst hc.1 hc.2.1 hd rfl (k p e R s m args below meth c cl sl Z hc H locs la hR hS hl)
theorem V_bipush {z : Int} (hz : -128 ≤ z ∧ z < 128) (hd : decode M.2.1 pc = .ok (.bipush z, 2)) (hp : pc + 2 = pc2) (k : V G M pc2 ls (II z :: st) t Q) : V G M pc ls (st) t Q := by
  subst hp
  intro p e R s m args below meth c cl sl Z hc H locs la hR hS hl
  exact lv_bipush hc.1 hc.2.1 hd (oByte hz.1 hz.2) (k p e R s m args below meth c cl sl Z hc H locs la hR hS hl)
theorem V_sipush {z : Int} (hz : -32768 ≤ z ∧ z < 32768) (hd : decode M.2.1 pc = .ok (.sipush z, 3)) (hp : pc + 3 = pc2) (k : V G M pc2 ls (II z :: st) t Q) : V G M pc ls (st) t Q := by
  subst hp
  intro p e R s m args below meth c cl sl Z hc H locs la hR hS hl
  exact lv_sipush hc.1 hc.2.1 hd (oShort hz.1 hz.2) (k p e R s m args below meth c cl sl Z hc H locs la hR hS hl)
theorem V_lconst {n : Fin 2} {z : Int} (hz : Int64.ofNat (n : Nat) = Int64.ofInt z) (hd : decode M.2.1 pc = .ok (.lconst n, 1)) (hp : pc + 1 = pc2) (k : V G M pc2 ls (JJ z :: st) t Q) : V G M pc ls (st) t Q := by
  subst hp
  intro p e R s m args below meth c cl sl Z hc H locs la hR hS hl
  exact lv_lconst hc.1 hc.2.1 hd hz (k p e R s m args below meth c cl sl Z hc H locs la hR hS hl)
theorem vls_at {i j : Nat} {v : VV} (h : ls[j]? = some (i, v)) : (vls G ls)[j]? = some (i, rl G v) := by
  unfold vls; rw [List.getElem?_map, h]; rfl
theorem V_iload_n {q : Fin 4} (j : Nat) (hj : ls[j]? = some ((q : Nat), II x)) (hd : decode M.2.1 pc = .ok (.iload_n q, 1)) (hp : pc + 1 = pc2) (k : V G M pc2 ls (II x :: st) t Q) : V G M pc ls (st) t Q := by
  subst hp
  intro p e R s m args below meth c cl sl Z hc H locs la hR hS hl
  exact lv_iload_n hc.1 hc.2.1 hd rfl (lv_at hl j (vls_at hj)) (k p e R s m args below meth c cl sl Z hc H locs la hR hS hl)
theorem V_iload {i : Nat} (j : Nat) (hj : ls[j]? = some (i, II x)) (hd : decode M.2.1 pc = .ok (.iload i, 2)) (hp : pc + 2 = pc2) (k : V G M pc2 ls (II x :: st) t Q) : V G M pc ls (st) t Q := by
  subst hp
  intro p e R s m args below meth c cl sl Z hc H locs la hR hS hl
  exact lv_iload hc.1 hc.2.1 hd (lv_at hl j (vls_at hj)) (k p e R s m args below meth c cl sl Z hc H locs la hR hS hl)
theorem V_lload_n {q : Fin 4} (j : Nat) (hj : ls[j]? = some ((q : Nat), JJ x)) (hd : decode M.2.1 pc = .ok (.lload_n q, 1)) (hp : pc + 1 = pc2) (k : V G M pc2 ls (JJ x :: st) t Q) : V G M pc ls (st) t Q := by
  subst hp
  intro p e R s m args below meth c cl sl Z hc H locs la hR hS hl
  exact lv_lload_n hc.1 hc.2.1 hd rfl (lv_at hl j (vls_at hj)) (k p e R s m args below meth c cl sl Z hc H locs la hR hS hl)
theorem V_lload {i : Nat} (j : Nat) (hj : ls[j]? = some (i, JJ x)) (hd : decode M.2.1 pc = .ok (.lload i, 2)) (hp : pc + 2 = pc2) (k : V G M pc2 ls (JJ x :: st) t Q) : V G M pc ls (st) t Q := by
  subst hp
  intro p e R s m args below meth c cl sl Z hc H locs la hR hS hl
  exact lv_lload hc.1 hc.2.1 hd (lv_at hl j (vls_at hj)) (k p e R s m args below meth c cl sl Z hc H locs la hR hS hl)
theorem V_aload_n {q : Fin 4} {a : Nat} (j : Nat) (hj : ls[j]? = some ((q : Nat), RR a)) (hd : decode M.2.1 pc = .ok (.aload_n q, 1)) (hp : pc + 1 = pc2) (k : V G M pc2 ls (RR a :: st) t Q) : V G M pc ls (st) t Q := by
  subst hp
  intro p e R s m args below meth c cl sl Z hc H locs la hR hS hl
  exact lv_aload_n hc.1 hc.2.1 hd rfl (lv_at hl j (vls_at hj)) (k p e R s m args below meth c cl sl Z hc H locs la hR hS hl)
theorem V_aload {i : Nat} {a : Nat} (j : Nat) (hj : ls[j]? = some (i, RR a)) (hd : decode M.2.1 pc = .ok (.aload i, 2)) (hp : pc + 2 = pc2) (k : V G M pc2 ls (RR a :: st) t Q) : V G M pc ls (st) t Q := by
  subst hp
  intro p e R s m args below meth c cl sl Z hc H locs la hR hS hl
  exact lv_aload hc.1 hc.2.1 hd (lv_at hl j (vls_at hj)) (k p e R s m args below meth c cl sl Z hc H locs la hR hS hl)
def vins (q : Nat × VV) : List (Nat × VV) → List (Nat × VV)
  | [] => [q]
  | r :: l => if q.1 < r.1 then q :: r :: l else r :: vins q l
theorem vins_mem {q z : Nat × VV} : ∀ {l : List (Nat × VV)}, z ∈ vins q l → z = q ∨ z ∈ l
  | [], h => Or.inl (by simpa [vins] using h)
  | r :: l, h => by
    unfold vins at h
    split at h
    · exact List.mem_cons.mp h
    · rcases List.mem_cons.mp h with h | h
      · exact Or.inr (by rw [h]; exact List.mem_cons_self)
      · rcases vins_mem h with h | h
        · exact Or.inl h
        · exact Or.inr (List.mem_cons_of_mem _ h)
def vset (ls : List (Nat × VV)) (i : Nat) (v : VV) : List (Nat × VV) := vins (i, v) (ls.filter (fun q => !(q.1 == i) && !(q.1 + 1 == i && vc q.2 == 2)))
def vset2 (ls : List (Nat × VV)) (i : Nat) (v : VV) : List (Nat × VV) := vins (i, v) (ls.filter (fun q => !(q.1 == i) && (!(q.1 == i + 1) && !(q.1 + 1 == i && vc q.2 == 2))))
theorem lvh_sub {a : Array Slot} {n : Nat} {l l2 : List (Nat × Value)} (h : lv_has a n l) (hs : ∀ q ∈ l2, q ∈ l) : lv_has a n l2 := ⟨h.1, h.2.1, fun q hq => h.2.2 q (hs q hq)⟩
theorem vset_sub {i : Nat} {v : VV} : ∀ q ∈ vls G (vset ls i v), q ∈ (i, rl G v) :: (vls G ls).filter (fun q => !(q.1 == i) && !(q.1 + 1 == i && q.2.category == 2)) := by
  intro q hq
  obtain ⟨z, hz, rfl⟩ := List.mem_map.mp hq
  rcases vins_mem hz with rfl | hz
  · exact List.mem_cons_self
  · obtain ⟨h1, h2⟩ := List.mem_filter.mp hz
    refine List.mem_cons_of_mem _ (List.mem_filter.mpr ⟨List.mem_map.mpr ⟨z, h1, rfl⟩, ?_⟩)
    rw [rl_cat]; exact h2
theorem vset2_sub {i : Nat} {v : VV} : ∀ q ∈ vls G (vset2 ls i v), q ∈ (i, rl G v) :: (vls G ls).filter (fun q => !(q.1 == i) && (!(q.1 == i + 1) && !(q.1 + 1 == i && q.2.category == 2))) := by
  intro q hq
  obtain ⟨z, hz, rfl⟩ := List.mem_map.mp hq
  rcases vins_mem hz with rfl | hz
  · exact List.mem_cons_self
  · obtain ⟨h1, h2⟩ := List.mem_filter.mp hz
    refine List.mem_cons_of_mem _ (List.mem_filter.mpr ⟨List.mem_map.mpr ⟨z, h1, rfl⟩, ?_⟩)
    rw [rl_cat]; exact h2
/-- fewer locals, or in another order -/
theorem V_sub (hs : ∀ q ∈ ls2, q ∈ ls) (k : V G M pc ls2 st t Q) : V G M pc ls st t Q := by
  intro p e R s m args below meth c cl sl Z hc H locs la hR hS hl
  exact k p e R s m args below meth c cl sl Z hc H locs la hR hS (lvh_sub hl (fun q hq => by
    obtain ⟨z, hz, rfl⟩ := List.mem_map.mp hq
    exact List.mem_map.mpr ⟨z, hs z hz, rfl⟩))
theorem V_istore_n {q : Fin 4} (hd : decode M.2.1 pc = .ok (.istore_n q, 1)) (hp : pc + 1 = pc2) (hn : (q : Nat) < M.2.2.1) (hls : vset ls q (II x) = ls2) (k : V G M pc2 ls2 st t Q) : V G M pc ls (II x :: st) t Q := by
  subst hp
  intro p e R s m args below meth c cl sl Z hc H locs la hR hS hl
  exact lv_istore_n hc.1 hc.2.1 hd rfl hl hn rfl (fun la2 h2 => k p e R s m args below meth c cl sl Z hc H locs la2 hR hS (hls ▸ lvh_sub h2 vset_sub))
theorem V_istore {i : Nat} (hd : decode M.2.1 pc = .ok (.istore i, 2)) (hp : pc + 2 = pc2) (hn : i < M.2.2.1) (hls : vset ls i (II x) = ls2) (k : V G M pc2 ls2 st t Q) : V G M pc ls (II x :: st) t Q := by
  subst hp
  intro p e R s m args below meth c cl sl Z hc H locs la hR hS hl
  exact lv_istore hc.1 hc.2.1 hd hl hn rfl (fun la2 h2 => k p e R s m args below meth c cl sl Z hc H locs la2 hR hS (hls ▸ lvh_sub h2 vset_sub))
theorem V_astore_n {q : Fin 4} {a : Nat} (hd : decode M.2.1 pc = .ok (.astore_n q, 1)) (hp : pc + 1 = pc2) (hn : (q : Nat) < M.2.2.1) (hls : vset ls q (RR a) = ls2) (k : V G M pc2 ls2 st t Q) : V G M pc ls (RR a :: st) t Q := by
  subst hp
  intro p e R s m args below meth c cl sl Z hc H locs la hR hS hl
  exact lv_astore_n hc.1 hc.2.1 hd rfl hl hn rfl (fun la2 h2 => k p e R s m args below meth c cl sl Z hc H locs la2 hR hS (hls ▸ lvh_sub h2 vset_sub))
theorem V_astore {i : Nat} {a : Nat} (hd : decode M.2.1 pc = .ok (.astore i, 2)) (hp : pc + 2 = pc2) (hn : i < M.2.2.1) (hls : vset ls i (RR a) = ls2) (k : V G M pc2 ls2 st t Q) : V G M pc ls (RR a :: st) t Q := by
  subst hp
  intro p e R s m args below meth c cl sl Z hc H locs la hR hS hl
  exact lv_astore hc.1 hc.2.1 hd hl hn rfl (fun la2 h2 => k p e R s m args below meth c cl sl Z hc H locs la2 hR hS (hls ▸ lvh_sub h2 vset_sub))
theorem V_lstore {i : Nat} (hd : decode M.2.1 pc = .ok (.lstore i, 2)) (hp : pc + 2 = pc2) (hn : i + 1 < M.2.2.1) (hls : vset2 ls i (JJ x) = ls2) (k : V G M pc2 ls2 st t Q) : V G M pc ls (JJ x :: st) t Q := by
  subst hp
  intro p e R s m args below meth c cl sl Z hc H locs la hR hS hl
  exact lv_lstore hc.1 hc.2.1 hd hl hn rfl (fun la2 h2 => k p e R s m args below meth c cl sl Z hc H locs la2 hR hS (hls ▸ lvh_sub h2 vset2_sub))
theorem V_iinc {i : Nat} {n : Int} (j : Nat) (hj : ls[j]? = some (i, II x)) (hd : decode M.2.1 pc = .ok (.iinc i n, 3)) (hp : pc + 3 = pc2) (hn : i < M.2.2.1) (hls : vset ls i (II (x + n)) = ls2) (k : V G M pc2 ls2 st t Q) : V G M pc ls st t Q := by
  subst hp
  intro p e R s m args below meth c cl sl Z hc H locs la hR hS hl
  exact lv_iinc hc.1 hc.2.1 hd hl (vls_at hj) (Int32.ofInt_add x n).symm hn rfl (fun la2 h2 => k p e R s m args below meth c cl sl Z hc H locs la2 hR hS (hls ▸ lvh_sub h2 vset_sub))
theorem V_iadd (hd : decode M.2.1 pc = .ok (.iadd, 1)) (hp : pc + 1 = pc2) (k : V G M pc2 ls (II (x + y) :: st) t Q) : V G M pc ls (II y :: II x :: st) t Q := by
  subst hp
  intro p e R s m args below meth c cl sl Z hc H locs la hR hS hl
  have k2 := k p e R s m args below meth c cl sl Z hc H locs la hR hS hl
  rw [List.map_cons, show rl G (II (x + y)) = .int (Int32.ofInt x + Int32.ofInt y) from congrArg _ (Int32.ofInt_add x y)] at k2
  exact lv_iadd hc.1 hc.2.1 hd k2
theorem V_isub (hd : decode M.2.1 pc = .ok (.isub, 1)) (hp : pc + 1 = pc2) (k : V G M pc2 ls (II (x - y) :: st) t Q) : V G M pc ls (II y :: II x :: st) t Q := by
  subst hp
  intro p e R s m args below meth c cl sl Z hc H locs la hR hS hl
  have k2 := k p e R s m args below meth c cl sl Z hc H locs la hR hS hl
  rw [List.map_cons, show rl G (II (x - y)) = .int (Int32.ofInt x - Int32.ofInt y) from congrArg _ (Int32.ofInt_sub x y)] at k2
  exact lv_isub hc.1 hc.2.1 hd k2
theorem V_imul (hd : decode M.2.1 pc = .ok (.imul, 1)) (hp : pc + 1 = pc2) (k : V G M pc2 ls (II (x * y) :: st) t Q) : V G M pc ls (II y :: II x :: st) t Q := by
  subst hp
  intro p e R s m args below meth c cl sl Z hc H locs la hR hS hl
  have k2 := k p e R s m args below meth c cl sl Z hc H locs la hR hS hl
  rw [List.map_cons, show rl G (II (x * y)) = .int (Int32.ofInt x * Int32.ofInt y) from congrArg _ (Int32.ofInt_mul x y)] at k2
  exact lv_imul hc.1 hc.2.1 hd k2
theorem V_iand (hd : decode M.2.1 pc = .ok (.iand, 1)) (hp : pc + 1 = pc2) (k : V G M pc2 ls (II (iAnd x y) :: st) t Q) : V G M pc ls (II y :: II x :: st) t Q := by
  subst hp
  intro p e R s m args below meth c cl sl Z hc H locs la hR hS hl
  have k2 := k p e R s m args below meth c cl sl Z hc H locs la hR hS hl
  rw [List.map_cons, show rl G (II (iAnd x y)) = .int (Int32.ofInt x &&& Int32.ofInt y) from congrArg _ (Int32.ofInt_toInt _)] at k2
  exact lv_iand hc.1 hc.2.1 hd k2
theorem V_ior (hd : decode M.2.1 pc = .ok (.ior, 1)) (hp : pc + 1 = pc2) (k : V G M pc2 ls (II (iOr x y) :: st) t Q) : V G M pc ls (II y :: II x :: st) t Q := by
  subst hp
  intro p e R s m args below meth c cl sl Z hc H locs la hR hS hl
  have k2 := k p e R s m args below meth c cl sl Z hc H locs la hR hS hl
  rw [List.map_cons, show rl G (II (iOr x y)) = .int (Int32.ofInt x ||| Int32.ofInt y) from congrArg _ (Int32.ofInt_toInt _)] at k2
  exact lv_ior hc.1 hc.2.1 hd k2
theorem V_ixor (hd : decode M.2.1 pc = .ok (.ixor, 1)) (hp : pc + 1 = pc2) (k : V G M pc2 ls (II (iXor x y) :: st) t Q) : V G M pc ls (II y :: II x :: st) t Q := by
  subst hp
  intro p e R s m args below meth c cl sl Z hc H locs la hR hS hl
  have k2 := k p e R s m args below meth c cl sl Z hc H locs la hR hS hl
  rw [List.map_cons, show rl G (II (iXor x y)) = .int (Int32.ofInt x ^^^ Int32.ofInt y) from congrArg _ (Int32.ofInt_toInt _)] at k2
  exact lv_ixor hc.1 hc.2.1 hd k2
theorem V_ishl (hd : decode M.2.1 pc = .ok (.ishl, 1)) (hp : pc + 1 = pc2) (k : V G M pc2 ls (II (iShl x y) :: st) t Q) : V G M pc ls (II y :: II x :: st) t Q := by
  subst hp
  intro p e R s m args below meth c cl sl Z hc H locs la hR hS hl
  have k2 := k p e R s m args below meth c cl sl Z hc H locs la hR hS hl
  rw [List.map_cons, show rl G (II (iShl x y)) = .int (Int32.ofInt x <<< (Int32.ofInt y &&& 31)) from congrArg _ (Int32.ofInt_toInt _)] at k2
  exact lv_ishl hc.1 hc.2.1 hd k2
theorem V_ishr (hd : decode M.2.1 pc = .ok (.ishr, 1)) (hp : pc + 1 = pc2) (k : V G M pc2 ls (II (iShr x y) :: st) t Q) : V G M pc ls (II y :: II x :: st) t Q := by
  subst hp
  intro p e R s m args below meth c cl sl Z hc H locs la hR hS hl
  have k2 := k p e R s m args below meth c cl sl Z hc H locs la hR hS hl
  rw [List.map_cons, show rl G (II (iShr x y)) = .int (Int32.ofInt x >>> (Int32.ofInt y &&& 31)) from congrArg _ (Int32.ofInt_toInt _)] at k2
  exact lv_ishr hc.1 hc.2.1 hd k2
theorem V_ladd (hd : decode M.2.1 pc = .ok (.ladd, 1)) (hp : pc + 1 = pc2) (k : V G M pc2 ls (JJ (x + y) :: st) t Q) : V G M pc ls (JJ y :: JJ x :: st) t Q := by
  subst hp
  intro p e R s m args below meth c cl sl Z hc H locs la hR hS hl
  have k2 := k p e R s m args below meth c cl sl Z hc H locs la hR hS hl
  rw [List.map_cons, show rl G (JJ (x + y)) = .long (Int64.ofInt x + Int64.ofInt y) from congrArg _ (Int64.ofInt_add x y)] at k2
  exact lv_ladd hc.1 hc.2.1 hd k2
theorem V_lmul (hd : decode M.2.1 pc = .ok (.lmul, 1)) (hp : pc + 1 = pc2) (k : V G M pc2 ls (JJ (x * y) :: st) t Q) : V G M pc ls (JJ y :: JJ x :: st) t Q := by
  subst hp
  intro p e R s m args below meth c cl sl Z hc H locs la hR hS hl
  have k2 := k p e R s m args below meth c cl sl Z hc H locs la hR hS hl
  rw [List.map_cons, show rl G (JJ (x * y)) = .long (Int64.ofInt x * Int64.ofInt y) from congrArg _ (Int64.ofInt_mul x y)] at k2
  exact lv_lmul hc.1 hc.2.1 hd k2
theorem V_land (hd : decode M.2.1 pc = .ok (.land, 1)) (hp : pc + 1 = pc2) (k : V G M pc2 ls (JJ (lAnd x y) :: st) t Q) : V G M pc ls (JJ y :: JJ x :: st) t Q := by
  subst hp
  intro p e R s m args below meth c cl sl Z hc H locs la hR hS hl
  have k2 := k p e R s m args below meth c cl sl Z hc H locs la hR hS hl
  rw [List.map_cons, show rl G (JJ (lAnd x y)) = .long (Int64.ofInt x &&& Int64.ofInt y) from congrArg _ (Int64.ofInt_toInt _)] at k2
  exact lv_land hc.1 hc.2.1 hd k2
theorem V_lor (hd : decode M.2.1 pc = .ok (.lor, 1)) (hp : pc + 1 = pc2) (k : V G M pc2 ls (JJ (lOr x y) :: st) t Q) : V G M pc ls (JJ y :: JJ x :: st) t Q := by
  subst hp
  intro p e R s m args below meth c cl sl Z hc H locs la hR hS hl
  have k2 := k p e R s m args below meth c cl sl Z hc H locs la hR hS hl
  rw [List.map_cons, show rl G (JJ (lOr x y)) = .long (Int64.ofInt x ||| Int64.ofInt y) from congrArg _ (Int64.ofInt_toInt _)] at k2
  exact lv_lor hc.1 hc.2.1 hd k2
theorem V_iushr (hd : decode M.2.1 pc = .ok (.iushr, 1)) (hp : pc + 1 = pc2) (k : V G M pc2 ls (II (iUshr x y) :: st) t Q) : V G M pc ls (II y :: II x :: st) t Q := by
  subst hp
  intro p e R s m args below meth c cl sl Z hc H locs la hR hS hl
  exact lv_iushr hc.1 hc.2.1 hd (Int32.ofInt_toInt _).symm (k p e R s m args below meth c cl sl Z hc H locs la hR hS hl)
theorem V_lshl (hd : decode M.2.1 pc = .ok (.lshl, 1)) (hp : pc + 1 = pc2) (k : V G M pc2 ls (JJ (lShl x y) :: st) t Q) : V G M pc ls (II y :: JJ x :: st) t Q := by
  subst hp
  intro p e R s m args below meth c cl sl Z hc H locs la hR hS hl
  exact lv_lshl hc.1 hc.2.1 hd (Int64.ofInt_toInt _).symm (k p e R s m args below meth c cl sl Z hc H locs la hR hS hl)
theorem V_idiv (h0 : 0 ≤ x ∧ In32 x) (h1 : 0 < y ∧ In32 y) (hd : decode M.2.1 pc = .ok (.idiv, 1)) (hp : pc + 1 = pc2) (k : V G M pc2 ls (II (x / y) :: st) t Q) : V G M pc ls (II y :: II x :: st) t Q := by
  subst hp
  intro p e R s m args below meth c cl sl Z hc H locs la hR hS hl
  have k2 := k p e R s m args below meth c cl sl Z hc H locs la hR hS hl
  rw [List.map_cons, show rl G (II (x / y)) = .int (Int32.ofInt x / Int32.ofInt y) from congrArg _ (oDiv h0.1 h0.2 h1.1 h1.2).symm] at k2
  exact lv_idiv hc.1 hc.2.1 hd (fun h => by rw [show (0 : Int32) = Int32.ofInt 0 from rfl, oEq h1.2 i0] at h; have := h1.1; omega) k2
theorem V_irem (h0 : 0 ≤ x ∧ In32 x) (h1 : 0 < y ∧ In32 y) (hd : decode M.2.1 pc = .ok (.irem, 1)) (hp : pc + 1 = pc2) (k : V G M pc2 ls (II (x % y) :: st) t Q) : V G M pc ls (II y :: II x :: st) t Q := by
  subst hp
  intro p e R s m args below meth c cl sl Z hc H locs la hR hS hl
  have k2 := k p e R s m args below meth c cl sl Z hc H locs la hR hS hl
  rw [List.map_cons, show rl G (II (x % y)) = .int (Int32.ofInt x - Int32.ofInt x / Int32.ofInt y * Int32.ofInt y) from congrArg _ (oRem h0.1 h0.2 h1.1 h1.2).symm] at k2
  exact lv_irem hc.1 hc.2.1 hd (fun h => by rw [show (0 : Int32) = Int32.ofInt 0 from rfl, oEq h1.2 i0] at h; have := h1.1; omega) k2
theorem V_i2l (hx : In32 x) (hd : decode M.2.1 pc = .ok (.i2l, 1)) (hp : pc + 1 = pc2) (k : V G M pc2 ls (JJ (x) :: st) t Q) : V G M pc ls (II x :: st) t Q := by
  subst hp
  intro p e R s m args below meth c cl sl Z hc H locs la hR hS hl
  exact lv_i2l hc.1 hc.2.1 hd (Int64.toInt_inj.mp (by rw [Int32.toInt_toInt64, oI hx, oJ ⟨by have := hx.1; omega, by have := hx.2; omega⟩])) (k p e R s m args below meth c cl sl Z hc H locs la hR hS hl)
theorem V_l2i (hd : decode M.2.1 pc = .ok (.l2i, 1)) (hp : pc + 1 = pc2) (k : V G M pc2 ls (II (x) :: st) t Q) : V G M pc ls (JJ x :: st) t Q := by
  subst hp
  intro p e R s m args below meth c cl sl Z hc H locs la hR hS hl
  exact lv_l2i hc.1 hc.2.1 hd (oL2I x) (k p e R s m args below meth c cl sl Z hc H locs la hR hS hl)
theorem V_i2b (hd : decode M.2.1 pc = .ok (.i2b, 1)) (hp : pc + 1 = pc2) (k : V G M pc2 ls (II (iB x) :: st) t Q) : V G M pc ls (II x :: st) t Q := by
  subst hp
  intro p e R s m args below meth c cl sl Z hc H locs la hR hS hl
  exact lv_i2b hc.1 hc.2.1 hd ((Int32.ofInt_toInt _).symm) (k p e R s m args below meth c cl sl Z hc H locs la hR hS hl)
theorem V_i2s (hd : decode M.2.1 pc = .ok (.i2s, 1)) (hp : pc + 1 = pc2) (k : V G M pc2 ls (II (iS x) :: st) t Q) : V G M pc ls (II x :: st) t Q := by
  subst hp
  intro p e R s m args below meth c cl sl Z hc H locs la hR hS hl
  exact lv_i2s hc.1 hc.2.1 hd ((Int32.ofInt_toInt _).symm) (k p e R s m args below meth c cl sl Z hc H locs la hR hS hl)
theorem V_lcmp (hx : In64 x) (hy : In64 y) (hd : decode M.2.1 pc = .ok (.lcmp, 1)) (hp : pc + 1 = pc2) (k : V G M pc2 ls (II (lCmp x y) :: st) t Q) : V G M pc ls (JJ y :: JJ x :: st) t Q := by
  subst hp
  intro p e R s m args below meth c cl sl Z hc H locs la hR hS hl
  have k2 := k p e R s m args below meth c cl sl Z hc H locs la hR hS hl
  rw [List.map_cons, show rl G (II (lCmp x y)) = .int (lg_cmp (Int64.ofInt x) (Int64.ofInt y)) from congrArg Value.int (show Int32.ofInt (lCmp x y) = lg_cmp (Int64.ofInt x) (Int64.ofInt y) from by unfold lCmp lg_cmp; simp only [GT.gt, Int64.lt_iff_toInt_lt, ← Int64.toInt_inj, oJ hx, oJ hy]; split; rfl; split <;> rfl)] at k2
  exact W.lcmp hc.1 hc.2.1 hd k2
theorem V_dup {v : VV} (hv : vc v = 1) (hd : decode M.2.1 pc = .ok (.dup, 1)) (hp : pc + 1 = pc2) (k : V G M pc2 ls (v :: v :: st) t Q) : V G M pc ls (v :: st) t Q := by
  subst hp
  intro p e R s m args below meth c cl sl Z hc H locs la hR hS hl
  exact lv_dup hc.1 hc.2.1 hd (by rw [rl_cat]; exact hv) (k p e R s m args below meth c cl sl Z hc H locs la hR hS hl)
theorem V_pop {v : VV} (hv : vc v = 1) (hd : decode M.2.1 pc = .ok (.pop, 1)) (hp : pc + 1 = pc2) (k : V G M pc2 ls st t Q) : V G M pc ls (v :: st) t Q := by
  subst hp
  intro p e R s m args below meth c cl sl Z hc H locs la hR hS hl
  exact lv_pop hc.1 hc.2.1 hd (by rw [rl_cat]; exact hv) (k p e R s m args below meth c cl sl Z hc H locs la hR hS hl)
theorem V_dup2 {v w : VV} (hv : vc v = 1) (hw : vc w = 1) (hd : decode M.2.1 pc = .ok (.dup2, 1)) (hp : pc + 1 = pc2) (k : V G M pc2 ls (v :: w :: v :: w :: st) t Q) : V G M pc ls (v :: w :: st) t Q := by
  subst hp
  intro p e R s m args below meth c cl sl Z hc H locs la hR hS hl
  exact lv_dup2_11 hc.1 hc.2.1 hd (by rw [rl_cat]; exact hv) (by rw [rl_cat]; exact hw) (k p e R s m args below meth c cl sl Z hc H locs la hR hS hl)
theorem V_goto {f : Int} {g : Nat} (hd : decode M.2.1 pc = .ok (.goto f, 3)) (ht : (pc : Int) + f = (g : Int)) (k : V G M g ls st t Q) : V G M pc ls st t Q := by
  intro p e R s m args below meth c cl sl Z hc H locs la hR hS hl
  exact lv_goto hc.1 hc.2.1 hd ht (k p e R s m args below meth c cl sl Z hc H locs la hR hS hl)
theorem V_icmp_eq {f : Int} {g : Nat} (hx : In32 x) (hy : In32 y) (hd : decode M.2.1 pc = .ok (.if_icmp .eq f, 3)) (ht : (pc : Int) + f = (g : Int)) (hp : pc + 3 = pc2) (k : (x = y → V G M g ls st t Q) ∧ (¬ x = y → V G M pc2 ls st t Q)) : V G M pc ls (II y :: II x :: st) t Q := by
  subst hp
  intro p e R s m args below meth c cl sl Z hc H locs la hR hS hl
  exact lv_icmp_eq hc.1 hc.2.1 hd ht (fun h => (k.1 ((oEq hx hy).mp h)) p e R s m args below meth c cl sl Z hc H locs la hR hS hl) (fun h => (k.2 ((fun q => h ((oEq hx hy).mpr q)))) p e R s m args below meth c cl sl Z hc H locs la hR hS hl)
theorem V_if_eq {f : Int} {g : Nat} (hx : In32 x) (hd : decode M.2.1 pc = .ok (.ifCond .eq f, 3)) (ht : (pc : Int) + f = (g : Int)) (hp : pc + 3 = pc2) (k : (x = 0 → V G M g ls st t Q) ∧ (¬ x = 0 → V G M pc2 ls st t Q)) : V G M pc ls (II x :: st) t Q := by
  subst hp
  intro p e R s m args below meth c cl sl Z hc H locs la hR hS hl
  exact lv_if_eq hc.1 hc.2.1 hd ht (fun h => (k.1 ((oEq hx i0).mp h)) p e R s m args below meth c cl sl Z hc H locs la hR hS hl) (fun h => (k.2 ((fun q => h ((oEq hx i0).mpr q)))) p e R s m args below meth c cl sl Z hc H locs la hR hS hl)
theorem V_icmp_ne {f : Int} {g : Nat} (hx : In32 x) (hy : In32 y) (hd : decode M.2.1 pc = .ok (.if_icmp .ne f, 3)) (ht : (pc : Int) + f = (g : Int)) (hp : pc + 3 = pc2) (k : (¬ x = y → V G M g ls st t Q) ∧ (x = y → V G M pc2 ls st t Q)) : V G M pc ls (II y :: II x :: st) t Q := by
  subst hp
  intro p e R s m args below meth c cl sl Z hc H locs la hR hS hl
  exact lv_icmp_ne hc.1 hc.2.1 hd ht (fun h => (k.1 ((fun q => h ((oEq hx hy).mpr q)))) p e R s m args below meth c cl sl Z hc H locs la hR hS hl) (fun h => (k.2 ((oEq hx hy).mp h)) p e R s m args below meth c cl sl Z hc H locs la hR hS hl)
theorem V_if_ne {f : Int} {g : Nat} (hx : In32 x) (hd : decode M.2.1 pc = .ok (.ifCond .ne f, 3)) (ht : (pc : Int) + f = (g : Int)) (hp : pc + 3 = pc2) (k : (¬ x = 0 → V G M g ls st t Q) ∧ (x = 0 → V G M pc2 ls st t Q)) : V G M pc ls (II x :: st) t Q := by
  subst hp
  intro p e R s m args below meth c cl sl Z hc H locs la hR hS hl
  exact lv_if_ne hc.1 hc.2.1 hd ht (fun h => (k.1 ((fun q => h ((oEq hx i0).mpr q)))) p e R s m args below meth c cl sl Z hc H locs la hR hS hl) (fun h => (k.2 ((oEq hx i0).mp h)) p e R s m args below meth c cl sl Z hc H locs la hR hS hl)
theorem V_icmp_lt {f : Int} {g : Nat} (hx : In32 x) (hy : In32 y) (hd : decode M.2.1 pc = .ok (.if_icmp .lt f, 3)) (ht : (pc : Int) + f = (g : Int)) (hp : pc + 3 = pc2) (k : (x < y → V G M g ls st t Q) ∧ (¬ x < y → V G M pc2 ls st t Q)) : V G M pc ls (II y :: II x :: st) t Q := by
  subst hp
  intro p e R s m args below meth c cl sl Z hc H locs la hR hS hl
  exact lv_icmp_lt hc.1 hc.2.1 hd ht (fun h => (k.1 ((oLt hx hy).mp h)) p e R s m args below meth c cl sl Z hc H locs la hR hS hl) (fun h => (k.2 ((fun q => h ((oLt hx hy).mpr q)))) p e R s m args below meth c cl sl Z hc H locs la hR hS hl)
theorem V_if_lt {f : Int} {g : Nat} (hx : In32 x) (hd : decode M.2.1 pc = .ok (.ifCond .lt f, 3)) (ht : (pc : Int) + f = (g : Int)) (hp : pc + 3 = pc2) (k : (x < 0 → V G M g ls st t Q) ∧ (¬ x < 0 → V G M pc2 ls st t Q)) : V G M pc ls (II x :: st) t Q := by
  subst hp
  intro p e R s m args below meth c cl sl Z hc H locs la hR hS hl
  exact lv_if_lt hc.1 hc.2.1 hd ht (fun h => (k.1 ((oLt hx i0).mp h)) p e R s m args below meth c cl sl Z hc H locs la hR hS hl) (fun h => (k.2 ((fun q => h ((oLt hx i0).mpr q)))) p e R s m args below meth c cl sl Z hc H locs la hR hS hl)
theorem V_icmp_ge {f : Int} {g : Nat} (hx : In32 x) (hy : In32 y) (hd : decode M.2.1 pc = .ok (.if_icmp .ge f, 3)) (ht : (pc : Int) + f = (g : Int)) (hp : pc + 3 = pc2) (k : (y ≤ x → V G M g ls st t Q) ∧ (¬ y ≤ x → V G M pc2 ls st t Q)) : V G M pc ls (II y :: II x :: st) t Q := by
  subst hp
  intro p e R s m args below meth c cl sl Z hc H locs la hR hS hl
  exact lv_icmp_ge hc.1 hc.2.1 hd ht (fun h => (k.1 ((oLe hy hx).mp h)) p e R s m args below meth c cl sl Z hc H locs la hR hS hl) (fun h => (k.2 ((fun q => h ((oLe hy hx).mpr q)))) p e R s m args below meth c cl sl Z hc H locs la hR hS hl)
theorem V_if_ge {f : Int} {g : Nat} (hx : In32 x) (hd : decode M.2.1 pc = .ok (.ifCond .ge f, 3)) (ht : (pc : Int) + f = (g : Int)) (hp : pc + 3 = pc2) (k : (0 ≤ x → V G M g ls st t Q) ∧ (¬ 0 ≤ x → V G M pc2 ls st t Q)) : V G M pc ls (II x :: st) t Q := by
  subst hp
  intro p e R s m args below meth c cl sl Z hc H locs la hR hS hl
  exact lv_if_ge hc.1 hc.2.1 hd ht (fun h => (k.1 ((oLe i0 hx).mp h)) p e R s m args below meth c cl sl Z hc H locs la hR hS hl) (fun h => (k.2 ((fun q => h ((oLe i0 hx).mpr q)))) p e R s m args below meth c cl sl Z hc H locs la hR hS hl)
theorem V_icmp_gt {f : Int} {g : Nat} (hx : In32 x) (hy : In32 y) (hd : decode M.2.1 pc = .ok (.if_icmp .gt f, 3)) (ht : (pc : Int) + f = (g : Int)) (hp : pc + 3 = pc2) (k : (y < x → V G M g ls st t Q) ∧ (¬ y < x → V G M pc2 ls st t Q)) : V G M pc ls (II y :: II x :: st) t Q := by
  subst hp
  intro p e R s m args below meth c cl sl Z hc H locs la hR hS hl
  exact lv_icmp_gt hc.1 hc.2.1 hd ht (fun h => (k.1 ((oLt hy hx).mp h)) p e R s m args below meth c cl sl Z hc H locs la hR hS hl) (fun h => (k.2 ((fun q => h ((oLt hy hx).mpr q)))) p e R s m args below meth c cl sl Z hc H locs la hR hS hl)
theorem V_if_gt {f : Int} {g : Nat} (hx : In32 x) (hd : decode M.2.1 pc = .ok (.ifCond .gt f, 3)) (ht : (pc : Int) + f = (g : Int)) (hp : pc + 3 = pc2) (k : (0 < x → V G M g ls st t Q) ∧ (¬ 0 < x → V G M pc2 ls st t Q)) : V G M pc ls (II x :: st) t Q := by
  subst hp
  intro p e R s m args below meth c cl sl Z hc H locs la hR hS hl
  exact lv_if_gt hc.1 hc.2.1 hd ht (fun h => (k.1 ((oLt i0 hx).mp h)) p e R s m args below meth c cl sl Z hc H locs la hR hS hl) (fun h => (k.2 ((fun q => h ((oLt i0 hx).mpr q)))) p e R s m args below meth c cl sl Z hc H locs la hR hS hl)
theorem V_icmp_le {f : Int} {g : Nat} (hx : In32 x) (hy : In32 y) (hd : decode M.2.1 pc = .ok (.if_icmp .le f, 3)) (ht : (pc : Int) + f = (g : Int)) (hp : pc + 3 = pc2) (k : (x ≤ y → V G M g ls st t Q) ∧ (¬ x ≤ y → V G M pc2 ls st t Q)) : V G M pc ls (II y :: II x :: st) t Q := by
  subst hp
  intro p e R s m args below meth c cl sl Z hc H locs la hR hS hl
  exact lv_icmp_le hc.1 hc.2.1 hd ht (fun h => (k.1 ((oLe hx hy).mp h)) p e R s m args below meth c cl sl Z hc H locs la hR hS hl) (fun h => (k.2 ((fun q => h ((oLe hx hy).mpr q)))) p e R s m args below meth c cl sl Z hc H locs la hR hS hl)
theorem V_if_le {f : Int} {g : Nat} (hx : In32 x) (hd : decode M.2.1 pc = .ok (.ifCond .le f, 3)) (ht : (pc : Int) + f = (g : Int)) (hp : pc + 3 = pc2) (k : (x ≤ 0 → V G M g ls st t Q) ∧ (¬ x ≤ 0 → V G M pc2 ls st t Q)) : V G M pc ls (II x :: st) t Q := by
  subst hp
  intro p e R s m args below meth c cl sl Z hc H locs la hR hS hl
  exact lv_if_le hc.1 hc.2.1 hd ht (fun h => (k.1 ((oLe hx i0).mp h)) p e R s m args below meth c cl sl Z hc H locs la hR hS hl) (fun h => (k.2 ((fun q => h ((oLe hx i0).mpr q)))) p e R s m args below meth c cl sl Z hc H locs la hR hS hl)
theorem V_iret (hd : decode M.2.1 pc = .ok (.ireturn, 1)) (hr : rok M.2.2.2.1 x) (k : Q x t) : V G M pc ls [II x] t Q := by
  intro p e R s m args below meth c cl sl Z hc H locs la hR hS hl
  exact (hc.2.2.2.2.2.2.2.2.2 H locs la pc x t hR hS k).1 hd hr
theorem V_ret (hd : decode M.2.1 pc = .ok (.return_, 1)) (hr : M.2.2.2.1 = none) (k : Q 0 t) : V G M pc ls [] t Q := by
  intro p e R s m args below meth c cl sl Z hc H locs la hR hS hl
  exact (hc.2.2.2.2.2.2.2.2.2 H locs la pc 0 t hR hS k).2 hd hr rfl
end VR
