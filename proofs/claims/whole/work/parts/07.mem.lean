/-! rules for memory and calls -/
def FW (ci : Nat) (C : String) (T : u_T) (N : Nat) : Prop := vcl[ci]? = some (C, T, N) ∧ nf ci = N ∧ ci < 7 ∧ ∀ w ∈ u_ws C T N, w ∈ lw_tbl ∧ okT w = true
def FL (own : String) (ix : Nat) (C n d : String) : Prop := Cond.fieldLink own ix C n d ∈ lw_tbl ∨ ∃ host, Cond.fieldLinkNest own ix C n d host ∈ lw_tbl
def ML (own : String) (ix : Nat) (y : MethodName) : Prop := Cond.methodLink own ix y ∈ lw_tbl ∨ ∃ host, Cond.methodLinkNest own ix y host ∈ lw_tbl
theorem ln_le (k : Nat) : ln k ≤ 1000 := by
  rcases Nat.lt_or_ge k 145 with g | g
  · exact (by decide +kernel : ∀ k, k < 145 → ln k ≤ 1000) k g
  · unfold ln la; rw [List.getD_eq_getElem?_getD, List.getElem?_eq_none (by rw [lay_len]; exact g)]; decide
theorem rf_lt {k j : Nat} (h : ky k < 99) : rf k j < 145 := by
  have hk := ky_lt h
  have h1 := (by decide +kernel : ∀ k, k < 145 → (la k).2.2.all (fun z => decide (z < 145)) = true) k hk
  unfold rf
  rw [List.getD_eq_getElem?_getD]
  cases h2 : (la k).2.2[j]? with
  | none => show 0 < 145; decide
  | some z => exact of_decide_eq_true (List.all_eq_true.mp h1 z (List.mem_of_getElem? h2))
theorem rlA_lt {G : GG} {a : Nat} (h : a < 145) : rlA G a = gN G 0 + a := by unfold rlA; rw [if_pos (by omega)]
def flds (G : GG) (t : Mem) (k : Nat) : List Value := (List.range (nf (ky k))).map (fun j => if fr (ky k) j then Value.ref (gN G 0 + rf k j) else .int (Int32.ofInt (t k j)))
theorem ent_obj {G : GG} {t : Mem} {k : Nat} (h : ky k < 7) : ent G t k = .inr (ky k, flds G t k) := by unfold ent flds; rw [if_pos h]
theorem ent_7 {G : GG} {t : Mem} {k : Nat} (h : ky k = 7) : ent G t k = .inl (gT G 0, ln k, .inl (fun j => Int32.ofInt (t k j))) := by unfold ent; rw [if_neg (by omega), if_pos h]
theorem ent_8 {G : GG} {t : Mem} {k : Nat} (h : ky k = 8) : ent G t k = .inl (gT G 1, ln k, .inr (.inl (fun j => Int64.ofInt (t k j)))) := by unfold ent; rw [if_neg (by omega), if_neg (by omega), if_pos h]
theorem ent_9 {G : GG} {t : Mem} {k : Nat} (h : ky k = 9) : ent G t k = .inl (gT G 2, ln k, .inr (.inr (.inr (.inr (fun j => some (gN G 0 + rf k j)))))) := by unfold ent; rw [if_neg (by omega), if_neg (by omega), if_neg (by omega), if_pos h]
theorem ent_10 {G : GG} {t : Mem} {k : Nat} (h : ky k = 10) : ent G t k = .inl (gT G 3, ln k, .inr (.inr (.inr (.inr (fun j => some (gN G 0 + rf k j)))))) := by unfold ent; rw [if_neg (by omega), if_neg (by omega), if_neg (by omega), if_neg (by omega)]
theorem flds_at {G : GG} {t : Mem} {k j : Nat} (h : j < nf (ky k)) : (flds G t k)[j]? = some (if fr (ky k) j then Value.ref (gN G 0 + rf k j) else .int (Int32.ofInt (t k j))) := by
  unfold flds; rw [List.getElem?_map, List.getElem?_range h]; rfl
theorem flds_len {G : GG} {t : Mem} {k : Nat} : (flds G t k).length = nf (ky k) := by simp [flds]
theorem flds_set {G : GG} {t : Mem} {k j : Nat} {v : Int} (h : j < nf (ky k)) (hf : fr (ky k) j = false) : (flds G t k).set j (.int (Int32.ofInt v)) = flds G (wr t k j v) k := by
  apply List.ext_getElem?
  intro i
  rw [List.getElem?_set]
  by_cases e : j = i
  · subst e
    rw [if_pos rfl, if_pos (by rw [flds_len]; exact h), flds_at h, hf]
    simp [wr]
  · rw [if_neg e]
    rcases Nat.lt_or_ge i (nf (ky k)) with g | g
    · rw [flds_at g, flds_at g]
      have : wr t k j v k i = t k i := by unfold wr; rw [if_neg (fun q => e q.2.symm)]
      rw [this]
    · rw [List.getElem?_eq_none (by rw [flds_len]; exact g), List.getElem?_eq_none (by rw [flds_len]; exact g)]
theorem wr_ne {t : Mem} {a j x : Nat} {v : Int} (h : x ≠ a) : t x = wr t a j v x := by
  funext y; unfold wr; rw [if_neg (fun q => h q.1)]
theorem cpy_ne {t : Mem} {a i b j n x : Nat} (h : x ≠ b) : t x = cpy t a i b j n x := by
  funext y; unfold cpy; rw [if_neg (fun q => h q.1)]
section VM
variable {G : GG} {M : MI} {pc pc2 : Nat} {ls ls2 : List (Nat × VV)} {st : List VV} {t : Mem} {Q : Int → Mem → Prop} {x y : Int} {a : Nat}
theorem TB.ws {s : State} {ci : Nat} {C : String} {T : u_T} {N : Nat} {args : Array Value} (h : TB s) (hF : FW ci C T N) : ∀ w ∈ u_ws C T N, w.before args s = true := fun w hw => h w (hF.2.2.2 w hw).1 (hF.2.2.2 w hw).2 args
theorem V_get {ci j ix N : Nat} {C : String} {T : u_T} (hF : FW ci C T N) (hj : j < N) (hv : ∀ (G : GG) (t : Mem) (a : Nat), ky a = ci → a < 145 → (flds G t a)[j]? = some (rl G (if fr ci j then RR (rf a j) else II (t a j)))) (hL : FL M.1.cls ix (T j).1 (T j).2.1 (T j).2.2.1) (hk : ky a = ci) (hd : decode M.2.1 pc = .ok (.getfield ix, 3)) (hp : pc + 3 = pc2) (k : V G M pc2 ls ((if fr ci j then RR (rf a j) else II (t a j)) :: st) t Q) : V G M pc ls (RR a :: st) t Q := by
  subst hp
  intro p e R s m args below meth c cl sl Z hc H locs la hR hS hl
  have ha : a < 145 := ky_lt (by rw [hk]; have := hF.2.2.1; omega)
  have he : (cells G t)[a]? = some (rlA G a, .inr (ci, flds G t a)) := by rw [cells_at ha, ent_obj (by rw [hk]; exact hF.2.2.1), rlA_lt ha, hk]
  have hts := hc.2.2.2.2.1.1
  have k2 := k p e R s m args below meth c cl sl Z hc H locs la hR hS hl
  rcases hL with hL | ⟨host, hL⟩
  · exact va_get hc.1 hc.2.1 (TB.ws hts hF) (fun w h => h) hc.2.2.2.1 hc.2.2.2.2.1.2.1 hR a he hF.1 j hj (hts _ hL rfl args) (fun _ h => h) (hv G t a hk ha) hd k2
  · exact va_getN hc.1 hc.2.1 (TB.ws hts hF) (fun w h => h) hc.2.2.2.1 hc.2.2.2.2.1.2.1 hR a he hF.1 j hj (hts _ hL rfl args) (fun _ h => h) (hv G t a hk ha) hd k2
theorem flds_rl {ci j : Nat} (hj : j < nf ci) : ∀ (G : GG) (t : Mem) (a : Nat), ky a = ci → a < 145 → (flds G t a)[j]? = some (rl G (if fr ci j then RR (rf a j) else II (t a j))) := by
  intro G t a hk ha
  have hci : ky a < 99 := by
    rcases Nat.lt_or_ge (ky a) 99 with g | g
    · exact g
    · exfalso; have := (by decide +kernel : ∀ k, k < 145 → ky k < 99) a ha; omega
  subst hk
  rw [flds_at hj]
  cases h : fr (ky a) j with
  | true => simp only [if_true, rl]; rw [rlA_lt (rf_lt hci)]
  | false => simp [rl]
theorem V_putX {ci j ix N : Nat} {C : String} {T : u_T} {ty0 : Nat → FieldType} {ty : FieldType} {v : Int} (hF : FW ci C T N) (hty : ∀ k, k < N → parseFieldDescriptor (T k).2.2.1 = some (ty0 k)) (hnm : ∀ a, a < N → ∀ b, b < N → a ≠ b → (T a).2.1 ≠ (T b).2.1) (hj : j < N) (hfr : fr ci j = false) (hfin : (T j).2.2.2 = false) (hT : parseFieldDescriptor (T j).2.2.1 = some ty) (hL : FL M.1.cls ix (T j).1 (T j).2.1 (T j).2.2.1) (hn : narrow ty (.int (Int32.ofInt v)) = .int (Int32.ofInt v)) (hfit : fits ty (.int (Int32.ofInt v)) = true) (hk : ky a = ci) (hd : decode M.2.1 pc = .ok (.putfield ix, 3)) (hp : pc + 3 = pc2) (k : ∀ u, u = wr t a j v → V G M pc2 ls st u Q) : V G M pc ls (II v :: RR a :: st) t Q := by
  subst hp
  intro p e R s m args below meth c cl sl Z hc H locs la hR hS hl
  have ha : a < 145 := ky_lt (by rw [hk]; have := hF.2.2.1; omega)
  have h7 : ky a < 7 := by rw [hk]; exact hF.2.2.1
  have hjn : j < nf (ky a) := by rw [hk, hF.2.1]; exact hj
  have he : (cells G t)[a]? = some (rlA G a, .inr (ci, flds G t a)) := by rw [cells_at ha, ent_obj h7, rlA_lt ha, hk]
  have hts := hc.2.2.2.2.1.1
  have hset : (cells G t).set a (rlA G a, .inr (ci, (flds G t a).set j (.int (Int32.ofInt v)))) = cells G (wr t a j v) := by
    rw [rlA_lt ha]
    refine cells_set ha ?_ (fun z hz => wr_ne hz)
    rw [ent_obj h7, flds_set hjn (by rw [hk]; exact hfr), hk]
  have kk : ∀ (H1 : Heap) (locs1 : List Loc), va_P (gD G) vcl ((cells G t).set a (rlA G a, .inr (ci, (flds G t a).set j (.int (Int32.ofInt v))))) H1 → va_D (AA G) ((cells G t).set a (rlA G a, .inr (ci, (flds G t a).set j (.int (Int32.ofInt v))))) → va_S (AA G) s.heap H1 locs1 → W p (gL G) e R s m args below meth c H1 locs1 cl sl Z (F0 m (pc + 3) la (st.map (rl G))) := by
    intro H1 locs1 hP _ hS1
    rw [hset] at hP
    exact k _ rfl p e R s m args below meth c cl sl Z hc H1 locs1 la hP hS1 hl
  rcases hL with hL | ⟨host, hL⟩
  · exact va_put hc.1 hc.2.1 (TB.ws hts hF) (fun w h => h) ty0 hty hnm hc.2.2.2.1 hc.2.2.2.2.1.2.1 hR (cells_D G t) hS a he hF.1 j hj (hts _ hL rfl args) (fun _ h => h) hfin hT hn hfit (by rw [flds_len]; exact hjn) hd kk
  · exact va_putN hc.1 hc.2.1 (TB.ws hts hF) (fun w h => h) ty0 hty hnm hc.2.2.2.1 hc.2.2.2.2.1.2.1 hR (cells_D G t) hS a he hF.1 j hj (hts _ hL rfl args) (fun _ h => h) hfin hT hn hfit (by rw [flds_len]; exact hjn) hd kk
theorem inR {z : Int} {n : Nat} (hn : n ≤ 1000) (h : 0 ≤ z ∧ z < n) : In32 z := ⟨by omega, by omega⟩
theorem V_iald (hk : ky a = 7) (hx : 0 ≤ x ∧ x < (ln a : Int)) (hd : decode M.2.1 pc = .ok (.iaload, 1)) (hp : pc + 1 = pc2) (k : V G M pc2 ls (II (t a x.toNat) :: st) t Q) : V G M pc ls (II x :: RR a :: st) t Q := by
  subst hp
  intro p e R s m args below meth c cl sl Z hc H locs la hR hS hl
  have ha : a < 145 := ky_lt (by omega)
  have he : (cells G t)[a]? = some (rlA G a, .inl (gT G 0, ln a, .inl (fun j => Int32.ofInt (t a j)))) := by rw [cells_at ha, ent_7 hk, rlA_lt ha]
  have hi := inR (ln_le a) hx
  have k2 := k p e R s m args below meth c cl sl Z hc H locs la hR hS hl
  refine va_iald hc.1 hc.2.1 hc.2.2.2.2.1.2.1 hR a 0 he rfl (oIn hi hx.1 hx.2) hd ?_
  rw [oClamp hi hx.1]; exact k2
theorem V_lald (hk : ky a = 8) (hx : 0 ≤ x ∧ x < (ln a : Int)) (hd : decode M.2.1 pc = .ok (.laload, 1)) (hp : pc + 1 = pc2) (k : V G M pc2 ls (JJ (t a x.toNat) :: st) t Q) : V G M pc ls (II x :: RR a :: st) t Q := by
  subst hp
  intro p e R s m args below meth c cl sl Z hc H locs la hR hS hl
  have ha : a < 145 := ky_lt (by omega)
  have he : (cells G t)[a]? = some (rlA G a, .inl (gT G 1, ln a, .inr (.inl (fun j => Int64.ofInt (t a j))))) := by rw [cells_at ha, ent_8 hk, rlA_lt ha]
  have hi := inR (ln_le a) hx
  have k2 := k p e R s m args below meth c cl sl Z hc H locs la hR hS hl
  refine va_lald hc.1 hc.2.1 hc.2.2.2.2.1.2.1 hR a 1 he rfl (oIn hi hx.1 hx.2) hd ?_
  rw [oClamp hi hx.1]; exact k2
theorem V_aald (hk : ky a = 9 ∨ ky a = 10) (hx : 0 ≤ x ∧ x < (ln a : Int)) (hd : decode M.2.1 pc = .ok (.aaload, 1)) (hp : pc + 1 = pc2) (k : V G M pc2 ls (RR (rf a x.toNat) :: st) t Q) : V G M pc ls (II x :: RR a :: st) t Q := by
  subst hp
  intro p e R s m args below meth c cl sl Z hc H locs la hR hS hl
  have ha : a < 145 := ky_lt (by omega)
  have hi := inR (ln_le a) hx
  have k2 := k p e R s m args below meth c cl sl Z hc H locs la hR hS hl
  rw [List.map_cons, show rl G (RR (rf a x.toNat)) = va_rf (some (gN G 0 + rf a x.toNat)) from congrArg Value.ref (rlA_lt (rf_lt (by omega)))] at k2
  rcases hk with hk | hk
  · have he : (cells G t)[a]? = some (rlA G a, .inl (gT G 2, ln a, .inr (.inr (.inr (.inr (fun j => some (gN G 0 + rf a j))))))) := by rw [cells_at ha, ent_9 hk, rlA_lt ha]
    refine va_aldq hc.1 hc.2.1 hc.2.2.2.2.1.2.1 hR a 2 he rfl (oIn hi hx.1 hx.2) hd ?_
    rw [oClamp hi hx.1]; exact k2
  · have he : (cells G t)[a]? = some (rlA G a, .inl (gT G 3, ln a, .inr (.inr (.inr (.inr (fun j => some (gN G 0 + rf a j))))))) := by rw [cells_at ha, ent_10 hk, rlA_lt ha]
    refine va_aldq hc.1 hc.2.1 hc.2.2.2.2.1.2.1 hR a 3 he rfl (oIn hi hx.1 hx.2) hd ?_
    rw [oClamp hi hx.1]; exact k2
theorem upd_wr {k j : Nat} {v : Int} : upd (fun j => Int32.ofInt (t k j)) j (Int32.ofInt v) = fun i => Int32.ofInt (wr t k j v k i) := by
  funext i; unfold upd wr
  by_cases h : i = j
  · rw [if_pos h, if_pos ⟨rfl, h⟩]
  · rw [if_neg h, if_neg (fun q => h q.2)]
theorem updL_wr {k j : Nat} {v : Int} : vp_updL (fun j => Int64.ofInt (t k j)) j (Int64.ofInt v) = fun i => Int64.ofInt (wr t k j v k i) := by
  funext i; unfold vp_updL wr
  by_cases h : i = j
  · rw [if_pos h, if_pos ⟨rfl, h⟩]
  · rw [if_neg h, if_neg (fun q => h q.2)]
theorem V_iast {v : Int} (hk : ky a = 7) (hx : 0 ≤ x ∧ x < (ln a : Int)) (hd : decode M.2.1 pc = .ok (.iastore, 1)) (hp : pc + 1 = pc2) (k : ∀ u, u = wr t a x.toNat v → V G M pc2 ls st u Q) : V G M pc ls (II v :: II x :: RR a :: st) t Q := by
  subst hp
  intro p e R s m args below meth c cl sl Z hc H locs la hR hS hl
  have ha : a < 145 := ky_lt (by omega)
  have he : (cells G t)[a]? = some (rlA G a, .inl (gT G 0, ln a, .inl (fun j => Int32.ofInt (t a j)))) := by rw [cells_at ha, ent_7 hk, rlA_lt ha]
  have hi := inR (ln_le a) hx
  refine va_iast hc.1 hc.2.1 hc.2.2.2.2.1.2.1 hR (cells_D G t) hS a 0 he rfl (oIn hi hx.1 hx.2) hd (fun H1 locs1 hP _ hS1 => ?_)
  rw [oClamp hi hx.1, upd_wr, rlA_lt ha, cells_set ha (u := wr t a x.toNat v) (by rw [ent_7 hk]) (fun z hz => wr_ne hz)] at hP
  exact k _ rfl p e R s m args below meth c cl sl Z hc H1 locs1 la hP hS1 hl
theorem V_last {v : Int} (hk : ky a = 8) (hx : 0 ≤ x ∧ x < (ln a : Int)) (hd : decode M.2.1 pc = .ok (.lastore, 1)) (hp : pc + 1 = pc2) (k : ∀ u, u = wr t a x.toNat v → V G M pc2 ls st u Q) : V G M pc ls (JJ v :: II x :: RR a :: st) t Q := by
  subst hp
  intro p e R s m args below meth c cl sl Z hc H locs la hR hS hl
  have ha : a < 145 := ky_lt (by omega)
  have he : (cells G t)[a]? = some (rlA G a, .inl (gT G 1, ln a, .inr (.inl (fun j => Int64.ofInt (t a j))))) := by rw [cells_at ha, ent_8 hk, rlA_lt ha]
  have hi := inR (ln_le a) hx
  refine va_last hc.1 hc.2.1 hc.2.2.2.2.1.2.1 hR (cells_D G t) hS a 1 he rfl (oIn hi hx.1 hx.2) hd (fun H1 locs1 hP _ hS1 => ?_)
  rw [oClamp hi hx.1, updL_wr, rlA_lt ha, cells_set ha (u := wr t a x.toNat v) (by rw [ent_8 hk]) (fun z hz => wr_ne hz)] at hP
  exact k _ rfl p e R s m args below meth c cl sl Z hc H1 locs1 la hP hS1 hl
end VM
