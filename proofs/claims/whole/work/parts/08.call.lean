/-! rules: copies of rows, constants, the script, the two static rows, switches, calls -/
section VA
variable {G : GG} {M : MI} {pc pc2 : Nat} {ls ls2 : List (Nat × VV)} {st : List VV} {t : Mem} {Q : Int → Mem → Prop} {x y : Int} {a : Nat}
theorem cpy_row {b i j n : Nat} : va_cpy (fun k => Int32.ofInt (t a k)) (fun k => Int32.ofInt (t b k)) i j n = fun k => Int32.ofInt (cpy t a i b j n b k) := by
  funext k; unfold va_cpy cpy
  by_cases h : j ≤ k ∧ k < j + n
  · rw [if_pos h, if_pos ⟨rfl, h⟩]
  · rw [if_neg h, if_neg (fun q => h q.2)]
theorem cpy_rowL {b i j n : Nat} : va_cpy (fun k => Int64.ofInt (t a k)) (fun k => Int64.ofInt (t b k)) i j n = fun k => Int64.ofInt (cpy t a i b j n b k) := by
  funext k; unfold va_cpy cpy
  by_cases h : j ≤ k ∧ k < j + n
  · rw [if_pos h, if_pos ⟨rfl, h⟩]
  · rw [if_neg h, if_neg (fun q => h q.2)]
theorem onn {z : Int} (h : In32 z) (h0 : 0 ≤ z) : ¬ Int32.ofInt z < 0 := by
  rw [Int32.lt_iff_toInt_lt, oI h, z0]; omega
theorem cpw : nativeFrameWords "java/lang/System" "arraycopy" 5 + 11 ≤ 32 := by decide
def ACN : MethodName := arraycopyName
theorem V_copyI {b ix : Nat} {i j n : Int} (hL : Cond.methodLink M.1.cls ix arraycopyName ∈ lw_tbl) (hlev : 0 < M.2.2.2.2) (hw : vsz st ≤ 8) (hk : ky a = 7) (hk2 : ky b = 7) (hi : 0 ≤ i) (hj : 0 ≤ j) (hn : 0 ≤ n) (h1 : i + n ≤ (ln a : Int)) (h2 : j + n ≤ (ln b : Int)) (hd : decode M.2.1 pc = .ok (.invokestatic ix, 3)) (hp : pc + 3 = pc2) (k : ∀ u, u = cpy t a i.toNat b j.toNat n.toNat → V G M pc2 ls st u Q) : V G M pc ls (II n :: II j :: RR b :: II i :: RR a :: st) t Q := by
  subst hp
  intro p e R s m args below meth c cl sl Z hc H locs la hR hS hl
  have hts := hc.2.2.2.2.1.1
  have ha : a < 145 := ky_lt (by omega)
  have hb : b < 145 := ky_lt (by omega)
  have la1 := ln_le a
  have lb1 := ln_le b
  have ii : In32 i := ⟨by omega, by omega⟩
  have ij : In32 j := ⟨by omega, by omega⟩
  have inn : In32 n := ⟨by omega, by omega⟩
  have he : (cells G t)[a]? = some (rlA G a, .inl (gT G 0, ln a, .inl (fun j => Int32.ofInt (t a j)))) := by rw [cells_at ha, ent_7 hk, rlA_lt ha]
  have he2 : (cells G t)[b]? = some (rlA G b, .inl (gT G 0, ln b, .inl (fun j => Int32.ofInt (t b j)))) := by rw [cells_at hb, ent_7 hk2, rlA_lt hb]
  have hfr := hc.2.2.2.2.2.1
  have hlo := hc.2.2.2.2.2.2.1
  refine va_copyi (ty := .int) (rest := st.map (rl G)) hc.1 hc.2.1 (hc.2.2.1.trans hl.1.symm) hc.2.2.2.1 (hts _ hL rfl args) (hts (.native arraycopyName) (by decide +kernel) rfl args) (hts (.static arraycopyName) (by decide +kernel) rfl args) (hts (.initialized "java/lang/System") (by decide +kernel) rfl args) hc.2.2.2.2.1.2.1 hR (cells_D G t) hS a b 0 0 he he2 rfl rfl rfl (onn ii hi) (onn ij hj) (onn inn hn) (by rw [oClamp ii hi, oClamp inn hn]; omega) (by rw [oClamp ij hj, oClamp inn hn]; omega) (fun _ _ => rfl) (by omega) (by rw [vcs_rl]; have := cpw; omega) hd (fun H1 locs1 hP _ hS1 => ?_)
  rw [oClamp ii hi, oClamp ij hj, oClamp inn hn, cpy_row, rlA_lt hb, cells_set hb (u := cpy t a i.toNat b j.toNat n.toNat) (by rw [ent_7 hk2]) (fun z hz => cpy_ne hz)] at hP
  exact k _ rfl p e R s m args below meth c cl sl Z hc H1 locs1 la hP hS1 hl
theorem V_copyL {b ix : Nat} {i j n : Int} (hL : Cond.methodLink M.1.cls ix arraycopyName ∈ lw_tbl) (hlev : 0 < M.2.2.2.2) (hw : vsz st ≤ 8) (hk : ky a = 8) (hk2 : ky b = 8) (hi : 0 ≤ i) (hj : 0 ≤ j) (hn : 0 ≤ n) (h1 : i + n ≤ (ln a : Int)) (h2 : j + n ≤ (ln b : Int)) (hd : decode M.2.1 pc = .ok (.invokestatic ix, 3)) (hp : pc + 3 = pc2) (k : ∀ u, u = cpy t a i.toNat b j.toNat n.toNat → V G M pc2 ls st u Q) : V G M pc ls (II n :: II j :: RR b :: II i :: RR a :: st) t Q := by
  subst hp
  intro p e R s m args below meth c cl sl Z hc H locs la hR hS hl
  have hts := hc.2.2.2.2.1.1
  have ha : a < 145 := ky_lt (by omega)
  have hb : b < 145 := ky_lt (by omega)
  have la1 := ln_le a
  have lb1 := ln_le b
  have ii : In32 i := ⟨by omega, by omega⟩
  have ij : In32 j := ⟨by omega, by omega⟩
  have inn : In32 n := ⟨by omega, by omega⟩
  have he : (cells G t)[a]? = some (rlA G a, .inl (gT G 1, ln a, .inr (.inl (fun j => Int64.ofInt (t a j))))) := by rw [cells_at ha, ent_8 hk, rlA_lt ha]
  have he2 : (cells G t)[b]? = some (rlA G b, .inl (gT G 1, ln b, .inr (.inl (fun j => Int64.ofInt (t b j))))) := by rw [cells_at hb, ent_8 hk2, rlA_lt hb]
  have hfr := hc.2.2.2.2.2.1
  have hlo := hc.2.2.2.2.2.2.1
  refine va_copyl (ty := .long) (rest := st.map (rl G)) hc.1 hc.2.1 (hc.2.2.1.trans hl.1.symm) hc.2.2.2.1 (hts _ hL rfl args) (hts (.native arraycopyName) (by decide +kernel) rfl args) (hts (.static arraycopyName) (by decide +kernel) rfl args) (hts (.initialized "java/lang/System") (by decide +kernel) rfl args) hc.2.2.2.2.1.2.1 hR (cells_D G t) hS a b 1 1 he he2 rfl rfl rfl (onn ii hi) (onn ij hj) (onn inn hn) (by rw [oClamp ii hi, oClamp inn hn]; omega) (by rw [oClamp ij hj, oClamp inn hn]; omega) (fun _ _ => rfl) (by omega) (by rw [vcs_rl]; have := cpw; omega) hd (fun H1 locs1 hP _ hS1 => ?_)
  rw [oClamp ii hi, oClamp ij hj, oClamp inn hn, cpy_rowL, rlA_lt hb, cells_set hb (u := cpy t a i.toNat b j.toNat n.toNat) (by rw [ent_8 hk2]) (fun z hz => cpy_ne hz)] at hP
  exact k _ rfl p e R s m args below meth c cl sl Z hc H1 locs1 la hP hS1 hl
theorem V_ldc {ix : Nat} {v : Int32} (hL : Cond.constant M.1.cls ix v ∈ lw_tbl) (hv : Int32.ofInt x = v) (hd : decode M.2.1 pc = .ok (.ldc ix, 2)) (hp : pc + 2 = pc2) (k : V G M pc2 ls (II x :: st) t Q) : V G M pc ls st t Q := by
  subst hp; subst hv
  intro p e R s m args below meth c cl sl Z hc H locs la hR hS hl
  exact lv_ldc hc.1 hc.2.1 hc.2.2.2.1 (hc.2.2.2.2.1.1 _ hL rfl args) hd (k p e R s m args below meth c cl sl Z hc H locs la hR hS hl)
theorem V_ldcw {ix : Nat} {v : Int32} (hL : Cond.constant M.1.cls ix v ∈ lw_tbl) (hv : Int32.ofInt x = v) (hd : decode M.2.1 pc = .ok (.ldc_w ix, 3)) (hp : pc + 3 = pc2) (k : V G M pc2 ls (II x :: st) t Q) : V G M pc ls st t Q := by
  subst hp; subst hv
  intro p e R s m args below meth c cl sl Z hc H locs la hR hS hl
  exact lv_ldcw hc.1 hc.2.1 hc.2.2.2.1 (hc.2.2.2.2.1.1 _ hL rfl args) hd (k p e R s m args below meth c cl sl Z hc H locs la hR hS hl)
theorem V_ldc2 {ix : Nat} {v : Int64} (hL : Cond.constantLong M.1.cls ix v ∈ lw_tbl) (hv : Int64.ofInt x = v) (hd : decode M.2.1 pc = .ok (.ldc2_w ix, 3)) (hp : pc + 3 = pc2) (k : V G M pc2 ls (JJ x :: st) t Q) : V G M pc ls st t Q := by
  subst hp; subst hv
  intro p e R s m args below meth c cl sl Z hc H locs la hR hS hl
  exact lv_ldc2 hc.1 hc.2.1 hc.2.2.2.1 (hc.2.2.2.2.1.1 _ hL rfl args) hd (k p e R s m args below meth c cl sl Z hc H locs la hR hS hl)
/-- the script -/
theorem V_sld (hx : 0 ≤ x ∧ x < (gN G 4 : Int)) (hd : decode M.2.1 pc = .ok (.iaload, 1)) (hp : pc + 1 = pc2) (k : V G M pc2 ls (II (gX G x.toNat).toInt :: st) t Q) : V G M pc ls (II x :: RR 900 :: st) t Q := by
  subst hp
  intro p e R s m args below meth c cl sl Z hc H locs la hR hS hl
  obtain ⟨x1, x2, x3, x4⟩ := hc.2.2.2.2.1.2.2.1
  have hi : In32 x := ⟨by omega, by omega⟩
  have k2 := k p e R s m args below meth c cl sl Z hc H locs la hR hS hl
  rw [List.map_cons, show rl G (II (gX G x.toNat).toInt) = .int (gX G x.toNat) from congrArg Value.int (Int32.ofInt_toInt _)] at k2
  refine va_sld (A := AA G) hc.1 hc.2.1 x1 x2 (fun q => Nat.lt_irrefl _ (Nat.lt_of_lt_of_le x3 q)) hS (i := Int32.ofInt x) (oIn hi hx.1 hx.2) hd ?_
  rw [oClamp hi hx.1]; exact k2
theorem V_slen (hd : decode M.2.1 pc = .ok (.arraylength, 1)) (hp : pc + 1 = pc2) (k : V G M pc2 ls (II (gN G 4 : Int) :: st) t Q) : V G M pc ls (RR 900 :: st) t Q := by
  subst hp
  intro p e R s m args below meth c cl sl Z hc H locs la hR hS hl
  obtain ⟨x1, x2, x3, x4⟩ := hc.2.2.2.2.1.2.2.1
  have k2 := k p e R s m args below meth c cl sl Z hc H locs la hR hS hl
  rw [List.map_cons, show rl G (II (gN G 4 : Int)) = .int (Int32.ofNat (gN G 4)) from congrArg Value.int (Int32.ofInt_eq_ofNat)] at k2
  exact va_slen (A := AA G) hc.1 hc.2.1 x1 x2 (fun q => Nat.lt_irrefl _ (Nat.lt_of_lt_of_le x3 q)) hS hd k2
theorem V_getLow {ix : Nat} (hL : Cond.fieldLink M.1.cls ix "WellTurns" "LOWEST" "[I" ∈ lw_tbl) (hd : decode M.2.1 pc = .ok (.getstatic ix, 3)) (hp : pc + 3 = pc2) (k : V G M pc2 ls (RR 901 :: st) t Q) : V G M pc ls st t Q := by
  subst hp
  intro p e R s m args below meth c cl sl Z hc H locs la hR hS hl
  exact va_gets hc.1 hc.2.1 hc.2.2.2.2.1.2.2.2.1.1 hS hc.2.2.2.1 (hc.2.2.2.2.1.1 _ hL rfl args) (fun _ h => h) hd (k p e R s m args below meth c cl sl Z hc H locs la hR hS hl)
theorem V_getHigh {ix : Nat} (hL : Cond.fieldLink M.1.cls ix "WellTurns" "HIGHEST" "[I" ∈ lw_tbl) (hd : decode M.2.1 pc = .ok (.getstatic ix, 3)) (hp : pc + 3 = pc2) (k : V G M pc2 ls (RR 902 :: st) t Q) : V G M pc ls st t Q := by
  subst hp
  intro p e R s m args below meth c cl sl Z hc H locs la hR hS hl
  exact va_gets hc.1 hc.2.1 hc.2.2.2.2.1.2.2.2.2.1 hS hc.2.2.2.1 (hc.2.2.2.2.1.1 _ hL rfl args) (fun _ h => h) hd (k p e R s m args below meth c cl sl Z hc H locs la hR hS hl)
theorem V_lowLen (hd : decode M.2.1 pc = .ok (.arraylength, 1)) (hp : pc + 1 = pc2) (k : V G M pc2 ls (II 7 :: st) t Q) : V G M pc ls (RR 901 :: st) t Q := by
  subst hp
  intro p e R s m args below meth c cl sl Z hc H locs la hR hS hl
  exact va_tlen hc.1 hc.2.1 hc.2.2.2.2.1.2.2.2.1.2 hS rfl hd (k p e R s m args below meth c cl sl Z hc H locs la hR hS hl)
theorem V_lowAt (hx : 0 ≤ x ∧ x < 7) (hd : decode M.2.1 pc = .ok (.iaload, 1)) (hp : pc + 1 = pc2) (k : V G M pc2 ls (II (lowV x.toNat) :: st) t Q) : V G M pc ls (II x :: RR 901 :: st) t Q := by
  subst hp
  intro p e R s m args below meth c cl sl Z hc H locs la hR hS hl
  have hi : In32 x := ⟨by omega, by omega⟩
  exact va_ti hc.1 hc.2.1 hc.2.2.2.2.1.2.2.2.1.2 hS (oIn hi hx.1 hx.2) (by rw [oClamp hi hx.1]; rfl) hd (k p e R s m args below meth c cl sl Z hc H locs la hR hS hl)
theorem V_highAt (hx : 0 ≤ x ∧ x < 7) (hd : decode M.2.1 pc = .ok (.iaload, 1)) (hp : pc + 1 = pc2) (k : V G M pc2 ls (II (highV x.toNat) :: st) t Q) : V G M pc ls (II x :: RR 902 :: st) t Q := by
  subst hp
  intro p e R s m args below meth c cl sl Z hc H locs la hR hS hl
  have hi : In32 x := ⟨by omega, by omega⟩
  exact va_ti hc.1 hc.2.1 hc.2.2.2.2.1.2.2.2.2.2 hS (oIn hi hx.1 hx.2) (by rw [oClamp hi hx.1]; rfl) hd (k p e R s m args below meth c cl sl Z hc H locs la hR hS hl)
/-- a switch by a table: the place i of it -/
theorem V_tsIn {dflt lo hi : Int} {offs : Array Int} {len i g : Nat} {f : Int} (hd : decode M.2.1 pc = .ok (.tableswitch dflt lo hi offs, len)) (hx : x = lo + i) (h2 : lo + i ≤ hi) (hin : In32 (lo + i)) (ho : offs[i]? = some f) (ht : (pc : Int) + f = (g : Int)) (k : V G M g ls st t Q) : V G M pc ls (II x :: st) t Q := by
  intro p e R s m args below meth c cl sl Z hc H locs la hR hS hl
  have e1 : (Int32.ofInt x).toInt = x := oI (hx ▸ hin)
  refine lv_tableIn hc.1 hc.2.1 hd (x := Int32.ofInt x) (by rw [e1]; omega) (by rw [e1]; omega) (off := f) ?_ ht (k p e R s m args below meth c cl sl Z hc H locs la hR hS hl)
  rw [e1, show (x - lo).toNat = i by omega]; exact ho
theorem V_tsOut {dflt lo hi : Int} {offs : Array Int} {len g : Nat} (hd : decode M.2.1 pc = .ok (.tableswitch dflt lo hi offs, len)) (hi2 : In32 x) (hx : x < lo ∨ hi < x) (ht : (pc : Int) + dflt = (g : Int)) (k : V G M g ls st t Q) : V G M pc ls (II x :: st) t Q := by
  intro p e R s m args below meth c cl sl Z hc H locs la hR hS hl
  exact lv_tableOut hc.1 hc.2.1 hd (x := Int32.ofInt x) (by rw [oI hi2]; exact hx) ht (k p e R s m args below meth c cl sl Z hc H locs la hR hS hl)
theorem V_look {dflt f : Int} {ps : Array (Int × Int)} {len g : Nat} (hd : decode M.2.1 pc = .ok (.lookupswitch dflt ps, len)) (hi : In32 x) (hs : (ps.toList.zip (ps.toList.drop 1)).all (fun (a, next) => a.1 < next.1) = true) (ho : Op.lookupswitch.offset ps.toList dflt x = f) (ht : (pc : Int) + f = (g : Int)) (k : V G M g ls st t Q) : V G M pc ls (II x :: st) t Q := by
  intro p e R s m args below meth c cl sl Z hc H locs la hR hS hl
  exact lv_lookup hc.1 hc.2.1 hd (x := Int32.ofInt x) hs (by rw [oI hi]; exact ho) ht (k p e R s m args below meth c cl sl Z hc H locs la hR hS hl)
end VA
def OkM (N : MI) (n : Nat) : Prop := Cond.code N.1 N.2.1 N.2.2.1 N.2.2.2.1 ∈ lw_tbl ∧ Cond.initialized N.1.cls ∈ lw_tbl ∧ (N.1.cls ≠ "java/lang/invoke/MethodHandle" ∧ N.1.cls ≠ "java/lang/invoke/VarHandle") ∧ (parseMethodDescriptor N.1.desc).map (fun d => d.parameters.length) = some n ∧ N.2.2.1 ≤ 21
def OkV (N : MI) (n ci : Nat) : Prop := OkM N n ∧ Cond.instanceMethod N.1 ∈ lw_tbl ∧ Cond.selects N.1.cls N.1 N.1 ∈ lw_tbl ∧ ci < 7 ∧ (vcl[ci]?).map (fun q => q.1) = some N.1.cls
def OkS (N : MI) (n : Nat) : Prop := OkM N n ∧ Cond.static N.1 ∈ lw_tbl
section VCL
variable {G : GG} {M N : MI} {pc pc2 n ci ix a : Nat} {ls : List (Nat × VV)} {st st0 as : List VV} {t : Mem} {Q Pq : Int → Mem → Prop} {ty : FieldType}
theorem ex_paid {s : State} (h : TB s) (hO : OkM N n) : ∀ w ∈ [Cond.code N.1 N.2.1 N.2.2.1 N.2.2.2.1], ∀ (a' : Array Value) (U : State), s.WarmedH U.vm → w.before a' U = true := by
  intro w hw a' U hW
  rw [List.mem_singleton.mp hw]
  exact h.warm hW _ hO.1 rfl a'
theorem rev_rl : (as.reverse ++ RR a :: st).map (rl G) = (as.map (rl G)).reverse ++ .ref (rlA G a) :: st.map (rl G) := by
  rw [List.map_append, List.map_reverse, List.map_cons]; rfl
theorem rev_rlS : (as.reverse ++ st).map (rl G) = (as.map (rl G)).reverse ++ st.map (rl G) := by
  rw [List.map_append, List.map_reverse]
theorem pre_ok {s : State} {H : Heap} {locs : List Loc} (hC : Ctx G s) (hR : Rep G t H) (hS : va_S (AA G) s.heap H locs) : ∀ U : State, U.heap = H → s.WarmedH U.vm → PE G as t ((as.map (rl G)).toArray) U := by
  intro U e hW
  exact ⟨rfl, by rw [e]; exact hR, hC.move hW (by rw [e]; exact hS)⟩
theorem V_runV (hO : OkV N n ci) (hL : ML M.1.cls ix N.1) (hlev : N.2.2.2.2 < M.2.2.2.2) (hk : ky a = ci) (hn : as.length = n) (hw : vsz st ≤ 8) (hd : decode M.2.1 pc = .ok (.invokevirtual ix, 3)) (hE : Ex G N (RR a :: as) t Pq) {p : Program} {e : Env} {R : Room} {s : State} {m : MethodId} {args : Array Value} {below : List Frame} {meth : Method} {c : Code} {cl sl : Nat} {Z : State → Prop} (hc : VX G M Q p e R s m args below meth c cl sl Z) {H : Heap} {locs : List Loc} {la : Array Slot} (hR : Rep G t H) (hS : va_S (AA G) s.heap H locs) (hl : lv_has la M.2.2.1 (vls G ls)) :
    va_Run p (gL G) e R s m args below meth c H locs cl sl 0 0 (F0 m pc la ((as.reverse ++ RR a :: st).map (rl G))) (st.map (rl G)) (QE G N.2.2.2.1 Pq (Value.ref (rlA G a) :: as.map (rl G)).toArray) (AA G) := by
  have hts := hc.2.2.2.2.1.1
  have ha : a < 145 := ky_lt (by have := hO.2.2.2.1; omega)
  have he : (cells G t)[a]? = some (rlA G a, .inr (ci, flds G t a)) := by rw [cells_at ha, ent_obj (by rw [hk]; exact hO.2.2.2.1), rlA_lt ha, hk]
  obtain ⟨q, hq, hq2⟩ : ∃ q, vcl[ci]? = some q ∧ q.1 = N.1.cls := by
    have h := hO.2.2.2.2
    cases h1 : vcl[ci]? with
    | none => rw [h1] at h; cases h
    | some q => rw [h1] at h; exact ⟨q, rfl, Option.some.inj h⟩
  have hrec := va_recv hc.2.2.2.2.1.2.1 hR hq he
  rw [hq2] at hrec
  have hfr := hc.2.2.2.2.2.1
  have hlo := hc.2.2.2.2.2.2.1
  have hm := hO.1.2.2.2.2
  have hpar : ∀ sig, parseMethodDescriptor N.1.desc = some sig → n = sig.parameters.length := fun sig h => by
    have h2 := hO.1.2.2.2.1
    rw [h] at h2
    exact (Option.some.inj h2).symm
  have hroom : (rmL N.2.2.2.2).frames + 1 ≤ R.frames ∧ 8 + (N.2.2.1 + 11) + (rmL N.2.2.2.2).locals ≤ R.locals := ⟨by show N.2.2.2.2 + 1 ≤ R.frames; omega, by show 8 + (N.2.2.1 + 11) + 40 * N.2.2.2.2 ≤ R.locals; omega⟩
  have hst : (F0 m pc la ((as.reverse ++ RR a :: st).map (rl G))).stack = (as.map (rl G)).reverse ++ .ref (rlA G a) :: st.map (rl G) := rev_rl
  have hPre : PreV s H N.1.cls (rlA G a) (PE G (RR a :: as) t) (as.map (rl G)) := ⟨PE.blind G _ t, hrec, pre_ok hc.2.2.2.2.1 hR hS⟩
  have hcd := hts _ hO.1.1 rfl args
  have hini := hts _ hO.1.2.1 rfl args
  have hin := hts _ hO.2.1 rfl args
  have hse := hts _ hO.2.2.1 rfl args
  have hroomW : 2 * (F0 m pc la ((as.reverse ++ RR a :: st).map (rl G))).monitorRoom + ((st.map (rl G)).map fun v => v.category).sum ≤ 8 := lv_room (by rw [vcs_rl]; exact hw)
  rcases hL with hL | ⟨host, hL⟩
  · exact va_runV (Ts := []) (nL := M.2.2.1) (own := M.1.cls) ⟨hc.1, hc.2.1, hc.2.2.1, hc.2.2.2.1, fun _ h => absurd h List.not_mem_nil⟩ hE
      ⟨⟨rfl, rfl, hroom.1, hroom.2, ex_paid hts hO.1, List.mem_cons_self, hcd, hini, hO.1.2.2.1, hpar, hts _ hL rfl args⟩, hin, hse⟩ hPre rfl (by rw [List.length_map]; exact hn) hl.1 hst hroomW hd ⟨hc.2.2.2.2.2.2.2.1, hc.2.2.2.2.2.2.2.2.1⟩
  · exact va_runVN (Ts := []) (nL := M.2.2.1) (own := M.1.cls) (host := host) ⟨hc.1, hc.2.1, hc.2.2.1, hc.2.2.2.1, fun _ h => absurd h List.not_mem_nil⟩ hE
      ⟨⟨⟨rfl, rfl, hroom.1, hroom.2, ex_paid hts hO.1, List.mem_cons_self⟩, hcd, hini, hO.1.2.2.1, hpar, hts _ hL rfl args⟩, hin, hse⟩ hPre rfl (by rw [List.length_map]; exact hn) hl.1 hst hroomW hd ⟨hc.2.2.2.2.2.2.2.1, hc.2.2.2.2.2.2.2.2.1⟩
theorem V_callVi (hO : OkV N n ci) (hr : N.2.2.2.1 = some ty) (hL : ML M.1.cls ix N.1) (hlev : N.2.2.2.2 < M.2.2.2.2) (hk : ky a = ci) (hn : as.length = n) (hw : vsz st ≤ 8) (hst : st0 = as.reverse ++ RR a :: st) (hd : decode M.2.1 pc = .ok (.invokevirtual ix, 3)) (hp : pc + 3 = pc2) (hE : Ex G N (RR a :: as) t Pq) (k : ∀ r u, Pq r u → V G M pc2 ls (II r :: st) u Q) : V G M pc ls st0 t Q := by
  subst hp; subst hst
  intro p e R s m args below meth c cl sl Z hc H locs la hR hS hl
  have hrun := V_runV (st := st) hO hL hlev hk hn hw hd hE hc hR hS hl
  rw [hr] at hrun
  refine va_calli (a := #[]) hrun hS (fun q _ h => h) (fun q h => h) (fun r u t2 H1 locs1 ht hvm hpost hB hz hk2 hS1 => ?_)
  obtain ⟨z, rfl, hz2⟩ := hpost
  have hB : Rep G u t2.heap := hB
  rw [ht] at hB
  exact k z u hz2 p e R s m args below meth c cl sl Z hc H1 locs1 la hB hS1 hl
theorem V_callVv (hO : OkV N n ci) (hr : N.2.2.2.1 = none) (hL : ML M.1.cls ix N.1) (hlev : N.2.2.2.2 < M.2.2.2.2) (hk : ky a = ci) (hn : as.length = n) (hw : vsz st ≤ 8) (hst : st0 = as.reverse ++ RR a :: st) (hd : decode M.2.1 pc = .ok (.invokevirtual ix, 3)) (hp : pc + 3 = pc2) (hE : Ex G N (RR a :: as) t Pq) (k : ∀ u, Pq 0 u → V G M pc2 ls st u Q) : V G M pc ls st0 t Q := by
  subst hp; subst hst
  intro p e R s m args below meth c cl sl Z hc H locs la hR hS hl
  have hrun := V_runV (st := st) hO hL hlev hk hn hw hd hE hc hR hS hl
  rw [hr] at hrun
  refine va_callv (a := #[]) hrun hS (fun q _ h => h) (fun q h => h) (fun u t2 H1 locs1 ht hvm hpost hB hz hk2 hS1 => ?_)
  have hB : Rep G u t2.heap := hB
  rw [ht] at hB
  exact k u hpost p e R s m args below meth c cl sl Z hc H1 locs1 la hB hS1 hl
theorem V_runS (hO : OkS N n) (hL : ML M.1.cls ix N.1) (hlev : N.2.2.2.2 < M.2.2.2.2) (hn : as.length = n) (hw : vsz st ≤ 8) (hd : decode M.2.1 pc = .ok (.invokestatic ix, 3)) (hE : Ex G N as t Pq) {p : Program} {e : Env} {R : Room} {s : State} {m : MethodId} {args : Array Value} {below : List Frame} {meth : Method} {c : Code} {cl sl : Nat} {Z : State → Prop} (hc : VX G M Q p e R s m args below meth c cl sl Z) {H : Heap} {locs : List Loc} {la : Array Slot} (hR : Rep G t H) (hS : va_S (AA G) s.heap H locs) (hl : lv_has la M.2.2.1 (vls G ls)) :
    va_Run p (gL G) e R s m args below meth c H locs cl sl 0 0 (F0 m pc la ((as.reverse ++ st).map (rl G))) (st.map (rl G)) (QE G N.2.2.2.1 Pq (as.map (rl G)).toArray) (AA G) := by
  have hts := hc.2.2.2.2.1.1
  have hfr := hc.2.2.2.2.2.1
  have hlo := hc.2.2.2.2.2.2.1
  have hm := hO.1.2.2.2.2
  have hpar : ∀ sig, parseMethodDescriptor N.1.desc = some sig → n = sig.parameters.length := fun sig h => by
    have h2 := hO.1.2.2.2.1
    rw [h] at h2
    exact (Option.some.inj h2).symm
  have hroom : (rmL N.2.2.2.2).frames + 1 ≤ R.frames ∧ 8 + (N.2.2.1 + 11) + (rmL N.2.2.2.2).locals ≤ R.locals := ⟨by show N.2.2.2.2 + 1 ≤ R.frames; omega, by show 8 + (N.2.2.1 + 11) + 40 * N.2.2.2.2 ≤ R.locals; omega⟩
  have hst : (F0 m pc la ((as.reverse ++ st).map (rl G))).stack = (as.map (rl G)).reverse ++ st.map (rl G) := rev_rlS
  have hPre : PreS s H (PE G as t) (as.map (rl G)) := ⟨PE.blind G _ t, pre_ok hc.2.2.2.2.1 hR hS⟩
  have hcd := hts _ hO.1.1 rfl args
  have hini := hts _ hO.1.2.1 rfl args
  have hin := hts _ hO.2 rfl args
  have hroomW : 2 * (F0 m pc la ((as.reverse ++ st).map (rl G))).monitorRoom + ((st.map (rl G)).map fun v => v.category).sum ≤ 8 := lv_room (by rw [vcs_rl]; exact hw)
  rcases hL with hL | ⟨host, hL⟩
  · exact va_runS (Ts := []) (nL := M.2.2.1) (own := M.1.cls) ⟨hc.1, hc.2.1, hc.2.2.1, hc.2.2.2.1, fun _ h => absurd h List.not_mem_nil⟩ hE
      ⟨⟨rfl, rfl, hroom.1, hroom.2, ex_paid hts hO.1, List.mem_cons_self, hcd, hini, hO.1.2.2.1, hpar, hts _ hL rfl args⟩, hin⟩ hPre rfl (by rw [List.length_map]; exact hn) hl.1 hst hroomW hd ⟨hc.2.2.2.2.2.2.2.1, hc.2.2.2.2.2.2.2.2.1⟩
  · exact va_runSN (Ts := []) (nL := M.2.2.1) (own := M.1.cls) (host := host) ⟨hc.1, hc.2.1, hc.2.2.1, hc.2.2.2.1, fun _ h => absurd h List.not_mem_nil⟩ hE
      ⟨⟨⟨rfl, rfl, hroom.1, hroom.2, ex_paid hts hO.1, List.mem_cons_self⟩, hcd, hini, hO.1.2.2.1, hpar, hts _ hL rfl args⟩, hin, trivial⟩ hPre rfl (by rw [List.length_map]; exact hn) hl.1 hst hroomW hd ⟨hc.2.2.2.2.2.2.2.1, hc.2.2.2.2.2.2.2.2.1⟩
theorem V_callSi (hO : OkS N n) (hr : N.2.2.2.1 = some ty) (hL : ML M.1.cls ix N.1) (hlev : N.2.2.2.2 < M.2.2.2.2) (hn : as.length = n) (hw : vsz st ≤ 8) (hst : st0 = as.reverse ++ st) (hd : decode M.2.1 pc = .ok (.invokestatic ix, 3)) (hp : pc + 3 = pc2) (hE : Ex G N as t Pq) (k : ∀ r u, Pq r u → V G M pc2 ls (II r :: st) u Q) : V G M pc ls st0 t Q := by
  subst hp; subst hst
  intro p e R s m args below meth c cl sl Z hc H locs la hR hS hl
  have hrun := V_runS (st := st) hO hL hlev hn hw hd hE hc hR hS hl
  rw [hr] at hrun
  refine va_calli (a := #[]) hrun hS (fun q _ h => h) (fun q h => h) (fun r u t2 H1 locs1 ht hvm hpost hB hz hk2 hS1 => ?_)
  obtain ⟨z, rfl, hz2⟩ := hpost
  have hB : Rep G u t2.heap := hB
  rw [ht] at hB
  exact k z u hz2 p e R s m args below meth c cl sl Z hc H1 locs1 la hB hS1 hl
end VCL
