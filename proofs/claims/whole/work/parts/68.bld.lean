/-! building: the constructors' cells come one behind another -/
abbrev BE : Type := Nat → va_E
def upE (E : BE) (k : Nat) (v : va_E) : BE := fun j => if j = k then v else E j
theorem upE_s {E : BE} {k : Nat} {v : va_E} : upE E k v k = v := if_pos rfl
theorem upE_n {E : BE} {k j : Nat} {v : va_E} (h : j ≠ k) : upE E k v j = E j := if_neg h
def bcl (G : GG) (K : Nat) (E : BE) : va_W := (List.range K).map (fun k => (gN G 0 + k, E k))
def BRep (G : GG) (K : Nat) (E : BE) (H : Heap) : Prop := va_P (gD G) vcl (bcl G K E) H
theorem bcl_len {G : GG} {K : Nat} {E : BE} : (bcl G K E).length = K := by unfold bcl; rw [List.length_map, List.length_range]
theorem bcl_at {G : GG} {K k : Nat} {E : BE} (h : k < K) : (bcl G K E)[k]? = some (gN G 0 + k, E k) := by
  unfold bcl; rw [List.getElem?_map, List.getElem?_range h]; rfl
theorem bcl_no {G : GG} {K k : Nat} {E : BE} (h : K ≤ k) : (bcl G K E)[k]? = none := List.getElem?_eq_none (by rw [bcl_len]; exact h)
theorem bcl_set {G : GG} {K k : Nat} {E : BE} {v : va_E} (h : k < K) : (bcl G K E).set k (gN G 0 + k, v) = bcl G K (upE E k v) := by
  apply List.ext_getElem?
  intro i
  rw [List.getElem?_set]
  by_cases e : k = i
  · subst e
    rw [if_pos rfl, if_pos (by rw [bcl_len]; exact h), bcl_at h, upE_s]
  · rw [if_neg e]
    rcases Nat.lt_or_ge i K with g | g
    · rw [bcl_at g, bcl_at g, upE_n (fun q => e q.symm)]
    · rw [bcl_no g, bcl_no g]
theorem bcl_push {G : GG} {K : Nat} {E : BE} {v : va_E} : bcl G K E ++ [(gN G 0 + K, v)] = bcl G (K + 1) (upE E K v) := by
  apply List.ext_getElem?
  intro i
  rcases Nat.lt_or_ge i K with g | g
  · rw [List.getElem?_append_left (by rw [bcl_len]; exact g), bcl_at g, bcl_at (by omega), upE_n (by omega)]
  · rw [List.getElem?_append_right (by rw [bcl_len]; exact g), bcl_len]
    rcases Nat.lt_or_eq_of_le g with q | q
    · rw [List.getElem?_eq_none (by simp; omega), bcl_no (by omega)]
    · subst q
      rw [bcl_at (by omega), upE_s, Nat.sub_self]; rfl
theorem bcl_D (G : GG) (K : Nat) (E : BE) : va_D (AA G) (bcl G K E) := by
  refine ⟨fun i j p q hi hj hpq => ?_, fun k q hk => ?_⟩
  · rcases Nat.lt_or_ge i K with g | g
    · rcases Nat.lt_or_ge j K with g2 | g2
      · rw [bcl_at g] at hi; rw [bcl_at g2] at hj
        cases hi; cases hj
        have : gN G 0 + i = gN G 0 + j := hpq
        omega
      · rw [bcl_no g2] at hj; cases hj
    · rw [bcl_no g] at hi; cases hi
  · rcases Nat.lt_or_ge k K with g | g
    · rw [bcl_at g] at hk; cases hk; exact Nat.le_add_right _ _
    · rw [bcl_no g] at hk; cases hk
theorem BRep.ext {G : GG} {K : Nat} {E F : BE} {H : Heap} (h : BRep G K E H) (e : ∀ k, k < K → F k = E k) : BRep G K F H := by
  have : bcl G K F = bcl G K E := by
    apply List.ext_getElem?
    intro i
    rcases Nat.lt_or_ge i K with g | g
    · rw [bcl_at g, bcl_at g, e i g]
    · rw [bcl_no g, bcl_no g]
  unfold BRep; rw [this]; exact h
/-- a new cell lies behind the others -/
theorem b_q {G : GG} {K q : Nat} {E : BE} {en : va_E} {H1 : Heap} (hP : va_P (gD G) vcl (bcl G K E ++ [(q, en)]) H1) (hD : va_D (AA G) (bcl G K E ++ [(q, en)])) (hz : H1.size ≤ gN G 0 + (K + 1)) : q = gN G 0 + K := by
  have aK : (bcl G K E ++ [(q, en)])[K]? = some (q, en) := by rw [List.getElem?_append_right (by rw [bcl_len]; exact Nat.le_refl _), bcl_len, Nat.sub_self]; rfl
  have h1 : q < H1.size := (hP K _ aK).lt
  have h2 : gN G 0 ≤ q := hD.2 K _ aK
  rcases Nat.lt_or_ge q (gN G 0 + K) with g | g
  · exfalso
    have ak : (bcl G K E ++ [(q, en)])[q - gN G 0]? = some (gN G 0 + (q - gN G 0), E (q - gN G 0)) := by rw [List.getElem?_append_left (by rw [bcl_len]; omega), bcl_at (by omega)]
    have := hD.1 (q - gN G 0) K _ _ ak aK (by show gN G 0 + (q - gN G 0) = q; omega)
    omega
  · omega
def AC (ty : FieldType) (U : State) : Prop := ∀ a : Array Value, (Cond.arrayClass ty).before a U = true
theorem AC.warm {ty : FieldType} {s U : State} (hW : s.WarmedH U.vm) (h : AC ty s) : AC ty U := fun a => word_at hW (Or.inr ⟨_, rfl⟩) (h a)
theorem AC.same {ty : FieldType} {s U : State} (e : U.vm = s.vm) (h : AC ty s) : AC ty U := h.warm (by rw [e]; exact State.WarmedH.refl s)
def AOs (U : State) : Prop := (va_AO "WellTurns$Moment" U ∧ va_AO "WellTurns$Sheet" U) ∧ AC .int U ∧ AC .long U
theorem AOs.warm {u U : State} (hW : u.WarmedH U.vm) (h : AOs u) : AOs U := ⟨⟨h.1.1.moved hW.alike, h.1.2.moved hW.alike⟩, h.2.1.warm hW, h.2.2.warm hW⟩
theorem AOs.call {U : State} (g : JFrame) (mk : MethodId) (a : Array Value) (h : AOs U) : AOs (U.calling g mk a) := ⟨⟨va_AO.moved (u := U) (U := U.calling g mk a) (Vm.Alike.refl U.vm) h.1.1, va_AO.moved (u := U) (U := U.calling g mk a) (Vm.Alike.refl U.vm) h.1.2⟩, AC.same (s := U) (U := U.calling g mk a) rfl h.2.1, AC.same (s := U) (U := U.calling g mk a) rfl h.2.2⟩
/-- what a walk in a constructor (or in the law) stands on -/
def BC (G : GG) (M : MI) (p : Program) (s : State) (m : MethodId) (c : Code) : Prop := p.tables.exec = Jvm.exec ∧ c.code = M.2.1 ∧ c.maxLocals = M.2.2.1 ∧ s.vm.findClass M.1.cls = some m.cls ∧ Ctx G s ∧ gN G 0 ≤ s.heap.size ∧ AOs s
section BR
variable {G : GG} {M N : MI} {p : Program} {e : Env} {R : Room} {s : State} {m : MethodId} {args : Array Value} {below : List Frame} {meth : Method} {c : Code} {H : Heap} {locs : List Loc} {cls sls : Nat} {Q : State → Prop}
variable {pc K a ix : Nat} {ls : Array Slot} {rest : List Value} {E : BE}
theorem W_sz {l : Launch} {g : JFrame} (k : H.size ≤ s.heap.size + cls → W p l e R s m args below meth c H locs cls sls Q g) : W p l e R s m args below meth c H locs cls sls Q g := fun T hT X => k (by
  have := X.same.2.2.1
  rw [← hT]; exact this) T hT X
theorem b_new {ci n : Nat} {C : String} {T : u_T} (ty : Nat → FieldType) (hF : FW ci C T n) (hty : ∀ k, k < n → parseFieldDescriptor (T k).2.2.1 = some (ty k)) (hcl : Cond.classLink M.1.cls ix C ∈ lw_tbl) (hin : Cond.instantiable C n ∈ lw_tbl) (hini : Cond.initialized C ∈ lw_tbl) (hB : BC G M p s m c) (hR : BRep G K E H) (hS : va_S (AA G) s.heap H locs) (hz : s.heap.size + cls = gN G 0 + K) (fs : List Value) (hfs : ∀ j, j < n → defaultValue (ty j) = vp_V fs j) (hcs : cls + 1 ≤ R.cells) (hss : sls + n ≤ R.slots) (hd : decode M.2.1 pc = .ok (.new ix, 3))
    (kk : ∀ H1 : Heap, BRep G (K + 1) (upE E K (.inr (ci, fs))) H1 → va_S (AA G) s.heap H1 locs → W p (gL G) e R s m args below meth c H1 locs (cls + 1) (sls + n) Q (F0 m (pc + 3) ls (.ref (gN G 0 + K) :: rest))) : W p (gL G) e R s m args below meth c H locs cls sls Q (F0 m pc ls rest) := by
  obtain ⟨h1, h2, h3, h4, h5, h6, h7⟩ := hB
  have hts := h5.1
  refine va_new h1 h2 (TB.ws hts hF) (fun w h => h) ty hty h4 (hts _ hcl rfl args) (hts _ hin rfl args) (hts _ hini rfl args) h5.2.1 hR (bcl_D G K E) hS (fun q h => Nat.le_trans h6 h) hF.1 hfs hcs hss hd (fun q H1 hP hD hS1 => W_sz (fun z => ?_))
  have hq := b_q hP hD (by omega)
  subst hq
  rw [bcl_push] at hP
  exact kk H1 hP hS1
set_option maxHeartbeats 100000 in
theorem b_newi (hB : BC G M p s m c) (hR : BRep G K E H) (hS : va_S (AA G) s.heap H locs) (hz : s.heap.size + cls = gN G 0 + K) {v : Int32} (n : Nat) (hn : ¬ v < 0) (hN : v.toNatClampNeg = n) (hbt : n * componentBytes .int ≤ 536870912) (hcs : cls + 1 ≤ R.cells) (hss : sls + n ≤ R.slots) (hd : decode M.2.1 pc = .ok (.newarray .int, 2))
    (kk : ∀ H1 : Heap, BRep G (K + 1) (upE E K (.inl (gT G 0, n, .inl (fun _ => 0)))) H1 → va_S (AA G) s.heap H1 locs → W p (gL G) e R s m args below meth c H1 locs (cls + 1) (sls + n) Q (F0 m (pc + 2) ls (.ref (gN G 0 + K) :: rest))) : W p (gL G) e R s m args below meth c H locs cls sls Q (F0 m pc ls (.int v :: rest)) := by
  obtain ⟨h1, h2, h3, h4, h5, h6, h7⟩ := hB
  have hts := h5.1
  have q1 : (Cond.arrayClass (newarray.typeOf .int)).before args s = true := h7.2.1 args
  refine va_newa (a0 := (n, .inl (fun _ => 0))) (ty := .int) (N' := n) h1 h2 q1 rfl h5.2.1 hR (bcl_D G K E) hS (fun q h => Nat.le_trans h6 h) (fun cA => rfl) hn hN hbt hcs hss hd (fun q cA H1 hK hP hD hS1 => W_sz (fun z => ?_))
  have hq := b_q hP hD (by omega)
  subst hq
  have hA : cA = gT G 0 := by
    have r1 : s.vm.findClass ("[" ++ FieldType.int.toString) = some cA := (hK.2 4 _ rfl).2
    have r2 : s.vm.findClass ("[" ++ FieldType.int.toString) = some (gT G 0) := (hK.2 0 _ rfl).2
    rw [r1] at r2
    exact Option.some.inj r2
  subst hA
  rw [bcl_push] at hP
  exact kk H1 hP hS1
set_option maxHeartbeats 100000 in
theorem b_newl (hB : BC G M p s m c) (hR : BRep G K E H) (hS : va_S (AA G) s.heap H locs) (hz : s.heap.size + cls = gN G 0 + K) {v : Int32} (n : Nat) (hn : ¬ v < 0) (hN : v.toNatClampNeg = n) (hbt : n * componentBytes .long ≤ 536870912) (hcs : cls + 1 ≤ R.cells) (hss : sls + n ≤ R.slots) (hd : decode M.2.1 pc = .ok (.newarray .long, 2))
    (kk : ∀ H1 : Heap, BRep G (K + 1) (upE E K (.inl (gT G 1, n, .inr (.inl (fun _ => 0))))) H1 → va_S (AA G) s.heap H1 locs → W p (gL G) e R s m args below meth c H1 locs (cls + 1) (sls + n) Q (F0 m (pc + 2) ls (.ref (gN G 0 + K) :: rest))) : W p (gL G) e R s m args below meth c H locs cls sls Q (F0 m pc ls (.int v :: rest)) := by
  obtain ⟨h1, h2, h3, h4, h5, h6, h7⟩ := hB
  have hts := h5.1
  have q1 : (Cond.arrayClass (newarray.typeOf .long)).before args s = true := h7.2.2 args
  refine va_newa (a0 := (n, .inr (.inl (fun _ => 0)))) (ty := .long) (N' := n) h1 h2 q1 rfl h5.2.1 hR (bcl_D G K E) hS (fun q h => Nat.le_trans h6 h) (fun cA => rfl) hn hN hbt hcs hss hd (fun q cA H1 hK hP hD hS1 => W_sz (fun z => ?_))
  have hq := b_q hP hD (by omega)
  subst hq
  have hA : cA = gT G 1 := by
    have r1 : s.vm.findClass ("[" ++ FieldType.long.toString) = some cA := (hK.2 4 _ rfl).2
    have r2 : s.vm.findClass ("[" ++ FieldType.long.toString) = some (gT G 1) := (hK.2 1 _ rfl).2
    rw [r1] at r2
    exact Option.some.inj r2
  subst hA
  rw [bcl_push] at hP
  exact kk H1 hP hS1
theorem b_newr {C : String} (t0 : Nat) (ht : (tysG G)[t0]? = some (gT G t0, .object C)) (hcl : Cond.classLink M.1.cls ix C ∈ lw_tbl) (hao : ∀ U, AOs U → va_AO C U) (hB : BC G M p s m c) (hR : BRep G K E H) (hS : va_S (AA G) s.heap H locs) (hz : s.heap.size + cls = gN G 0 + K) {v : Int32} (n : Nat) (hn : ¬ v < 0) (hN : v.toNatClampNeg = n) (hbt : n * 4 ≤ 536870912) (hcs : cls + 1 ≤ R.cells) (hss : sls + n ≤ R.slots) (hd : decode M.2.1 pc = .ok (.anewarray ix, 3))
    (kk : ∀ H1 : Heap, BRep G (K + 1) (upE E K (.inl (gT G t0, n, .inr (.inr (.inr (.inr (fun _ => none))))))) H1 → va_S (AA G) s.heap H1 locs → W p (gL G) e R s m args below meth c H1 locs (cls + 1) (sls + n) Q (F0 m (pc + 3) ls (.ref (gN G 0 + K) :: rest))) : W p (gL G) e R s m args below meth c H locs cls sls Q (F0 m pc ls (.int v :: rest)) := by
  obtain ⟨h1, h2, h3, h4, h5, h6, h7⟩ := hB
  have hts := h5.1
  refine va_newq h1 h2 h4 (hts _ hcl rfl args) (hao s h7) h5.2.1 hR (bcl_D G K E) hS (fun q h => Nat.le_trans h6 h) hn hN hbt hcs hss hd (fun q cA H1 hK hP hD hS1 => W_sz (fun z => ?_))
  have hq := b_q hP hD (by omega)
  subst hq
  have hA : cA = gT G t0 := by
    have r1 : va_RA s cA (.object C) := (hK.2 4 _ rfl).2
    have r2 : va_RA s (gT G t0) (.object C) := (h5.2.1.2 t0 _ ht).2
    obtain ⟨_, _, _, _, _, f1⟩ := r1
    obtain ⟨_, _, _, _, _, f2⟩ := r2
    exact Option.some.inj (f1.symm.trans f2)
  subst hA
  rw [bcl_push] at hP
  exact kk H1 hP hS1
theorem b_put {ci j n : Nat} {C : String} {T : u_T} (ty0 : Nat → FieldType) {ty : FieldType} {v : Value} {fs : List Value} (hF : FW ci C T n) (hty : ∀ k, k < n → parseFieldDescriptor (T k).2.2.1 = some (ty0 k)) (hnm : ∀ a, a < n → ∀ b, b < n → a ≠ b → (T a).2.1 ≠ (T b).2.1) (hj : j < n) (hfin : (T j).2.2.2 = false) (hT : parseFieldDescriptor (T j).2.2.1 = some ty) (hL : Cond.fieldLink M.1.cls ix (T j).1 (T j).2.1 (T j).2.2.1 ∈ lw_tbl) (hB : BC G M p s m c) (hR : BRep G K E H) (hS : va_S (AA G) s.heap H locs) (ha : a < K) (he : E a = .inr (ci, fs)) (hn : narrow ty v = v) (hfit : fits ty v = true) (hl : j < fs.length) (hd : decode M.2.1 pc = .ok (.putfield ix, 3))
    (kk : ∀ (H1 : Heap) (locs1 : List Loc), BRep G K (upE E a (.inr (ci, fs.set j v))) H1 → va_S (AA G) s.heap H1 locs1 → W p (gL G) e R s m args below meth c H1 locs1 cls sls Q (F0 m (pc + 3) ls rest)) : W p (gL G) e R s m args below meth c H locs cls sls Q (F0 m pc ls (v :: .ref (gN G 0 + a) :: rest)) := by
  obtain ⟨h1, h2, h3, h4, h5, h6, h7⟩ := hB
  have hts := h5.1
  refine va_put h1 h2 (TB.ws hts hF) (fun w h => h) ty0 hty hnm h4 h5.2.1 hR (bcl_D G K E) hS a (by rw [bcl_at ha, he]) hF.1 j hj (hts _ hL rfl args) (fun _ h => h) hfin hT hn hfit hl hd (fun H1 locs1 hP _ hS1 => ?_)
  rw [bcl_set ha] at hP
  exact kk H1 locs1 hP hS1
theorem b_putF {ci j n : Nat} {C : String} {T : u_T} (ty0 : Nat → FieldType) {ty : FieldType} {v : Value} {fs : List Value} (hF : FW ci C T n) (hty : ∀ k, k < n → parseFieldDescriptor (T k).2.2.1 = some (ty0 k)) (hnm : ∀ a, a < n → ∀ b, b < n → a ≠ b → (T a).2.1 ≠ (T b).2.1) (hj : j < n) (hfin : (T j).2.2.2 = true) (hin : meth.name = "<init>") (hdc : (T j).1 = M.1.cls) (hT : parseFieldDescriptor (T j).2.2.1 = some ty) (hL : Cond.fieldLink M.1.cls ix (T j).1 (T j).2.1 (T j).2.2.1 ∈ lw_tbl) (hB : BC G M p s m c) (hR : BRep G K E H) (hS : va_S (AA G) s.heap H locs) (ha : a < K) (he : E a = .inr (ci, fs)) (hn : narrow ty v = v) (hfit : fits ty v = true) (hl : j < fs.length) (hd : decode M.2.1 pc = .ok (.putfield ix, 3))
    (kk : ∀ (H1 : Heap) (locs1 : List Loc), BRep G K (upE E a (.inr (ci, fs.set j v))) H1 → va_S (AA G) s.heap H1 locs1 → W p (gL G) e R s m args below meth c H1 locs1 cls sls Q (F0 m (pc + 3) ls rest)) : W p (gL G) e R s m args below meth c H locs cls sls Q (F0 m pc ls (v :: .ref (gN G 0 + a) :: rest)) := by
  obtain ⟨h1, h2, h3, h4, h5, h6, h7⟩ := hB
  have hts := h5.1
  refine va_putF h1 h2 (TB.ws hts hF) (fun w h => h) ty0 hty hnm h4 h5.2.1 hR (bcl_D G K E) hS a (by rw [bcl_at ha, he]) hF.1 j hj (hts _ hL rfl args) (fun _ h => h) hfin hin hdc hT hn hfit hl hd (fun H1 locs1 hP _ hS1 => ?_)
  rw [bcl_set ha] at hP
  exact kk H1 locs1 hP hS1
theorem b_get {ci j n : Nat} {C : String} {T : u_T} {v : Value} {fs : List Value} (hF : FW ci C T n) (hj : j < n) (hL : Cond.fieldLink M.1.cls ix (T j).1 (T j).2.1 (T j).2.2.1 ∈ lw_tbl) (hB : BC G M p s m c) (hR : BRep G K E H) (ha : a < K) (he : E a = .inr (ci, fs)) (hv : fs[j]? = some v) (hd : decode M.2.1 pc = .ok (.getfield ix, 3))
    (kk : W p (gL G) e R s m args below meth c H locs cls sls Q (F0 m (pc + 3) ls (v :: rest))) : W p (gL G) e R s m args below meth c H locs cls sls Q (F0 m pc ls (.ref (gN G 0 + a) :: rest)) := by
  obtain ⟨h1, h2, h3, h4, h5, h6, h7⟩ := hB
  have hts := h5.1
  exact va_get h1 h2 (TB.ws hts hF) (fun w h => h) h4 h5.2.1 hR a (by rw [bcl_at ha, he]) hF.1 j hj (hts _ hL rfl args) (fun _ h => h) hv hd kk
theorem b_ast {b t0 ci n : Nat} {r : vw_C} {vs : List Value} {f : Nat → Option Nat} (ht : (tysG G)[t0]? = some (gT G t0, .object r.1)) (hr : vcl[ci]? = some r) (hB : BC G M p s m c) (hR : BRep G K E H) (hS : va_S (AA G) s.heap H locs) (ha : a < K) (he : E a = .inl (gT G t0, n, .inr (.inr (.inr (.inr f))))) (hb : b < K) (hv : E b = .inr (ci, vs)) {i : Nat} (hi : i < n) (hn : n < 2 ^ 31) (hd : decode M.2.1 pc = .ok (.aastore, 1))
    (kk : ∀ (H1 : Heap) (locs1 : List Loc), BRep G K (upE E a (.inl (gT G t0, n, .inr (.inr (.inr (.inr (va_up f i (some (gN G 0 + b))))))))) H1 → va_S (AA G) s.heap H1 locs1 → W p (gL G) e R s m args below meth c H1 locs1 cls sls Q (F0 m (pc + 1) ls rest)) : W p (gL G) e R s m args below meth c H locs cls sls Q (F0 m pc ls (.ref (gN G 0 + b) :: .int (nI i) :: .ref (gN G 0 + a) :: rest)) := by
  obtain ⟨h1, h2, h3, h4, h5, h6, h7⟩ := hB
  refine va_astq h1 h2 h5.2.1 hR (bcl_D G K E) hS a t0 b ci (by rw [bcl_at ha, he]) ht (by rw [bcl_at hb, hv]) hr (vp_in_nI hi hn) hd (fun H1 locs1 hP _ hS1 => ?_)
  rw [nI_clamp (by omega), bcl_set ha] at hP
  exact kk H1 locs1 hP hS1
theorem b_iast {n : Nat} {f : Nat → Int32} {v : Int32} (hB : BC G M p s m c) (hR : BRep G K E H) (hS : va_S (AA G) s.heap H locs) (ha : a < K) (he : E a = .inl (gT G 0, n, .inl f)) {i : Nat} (hi : i < n) (hn : n < 2 ^ 31) (hd : decode M.2.1 pc = .ok (.iastore, 1))
    (kk : ∀ (H1 : Heap) (locs1 : List Loc), BRep G K (upE E a (.inl (gT G 0, n, .inl (upd f i v)))) H1 → va_S (AA G) s.heap H1 locs1 → W p (gL G) e R s m args below meth c H1 locs1 cls sls Q (F0 m (pc + 1) ls rest)) : W p (gL G) e R s m args below meth c H locs cls sls Q (F0 m pc ls (.int v :: .int (nI i) :: .ref (gN G 0 + a) :: rest)) := by
  obtain ⟨h1, h2, h3, h4, h5, h6, h7⟩ := hB
  refine va_iast h1 h2 h5.2.1 hR (bcl_D G K E) hS a 0 (by rw [bcl_at ha, he]) rfl (vp_in_nI hi hn) hd (fun H1 locs1 hP _ hS1 => ?_)
  rw [nI_clamp (by omega), bcl_set ha] at hP
  exact kk H1 locs1 hP hS1
theorem b_obj (hL : Cond.methodLink M.1.cls ix Lib.objectInit ∈ lw_tbl) (hB : BC G M p s m c) (hl : ls.size = M.2.2.1) (hfr : 1 ≤ R.frames) (hlo : 40 ≤ R.locals) (hd : decode M.2.1 pc = .ok (.invokespecial ix, 3))
    (kk : W p (gL G) e R s m args below meth c H locs cls sls Q (F0 m (pc + 3) ls [])) : W p (gL G) e R s m args below meth c H locs cls sls Q (F0 m pc ls [.ref a]) := by
  obtain ⟨h1, h2, h3, h4, h5, h6, h7⟩ := hB
  have hts := h5.1
  refine W.objInit h1 h2 h4 (hts _ hL rfl args) (hts (.instanceMethod Lib.objectInit) (by decide +kernel) rfl args) (hts (.code Lib.objectInit ⟨#[0xb1]⟩ 1 none) (by decide +kernel) rfl args) rfl (by rw [h3]; exact hl) rfl hd hfr (Nat.le_trans (Nat.le_of_ble_eq_true rfl) hlo) ?_
  exact kk
/-- a constructor's contract: the object a has its defaults, K cells are there; K2 of them behind it -/
def BX (G : GG) (N : MI) (a K K2 mc ms : Nat) (E : BE) (post : BE → Prop) : Prop :=
  Met (gL G) N.1 [.code N.1 N.2.1 N.2.2.1 N.2.2.2.1] { frames := N.2.2.2.2, cells := mc, slots := ms, locals := 40 * N.2.2.2.2 } (fun v U => v = #[.ref (gN G 0 + a)] ∧ U.heap.size = gN G 0 + K ∧ BRep G K E U.heap ∧ Ctx G U ∧ AOs U) (va_Qv post (fun E2 t => BRep G K2 E2 t.heap) (AA G)) mc ms (AA G)
def OkI (N : MI) : Prop := OkM N 0 ∧ Cond.instanceMethod N.1 ∈ lw_tbl ∧ N.1.name = "<init>" ∧ N.2.2.2.1 = none
theorem b_call {K2 mc ms : Nat} {post : BE → Prop} (hO : OkI N) (hL : ML M.1.cls ix N.1) (hfr : N.2.2.2.2 + 1 ≤ R.frames) (hlo : 8 + (N.2.2.1 + 11) + 40 * N.2.2.2.2 ≤ R.locals) (hB : BC G M p s m c) (hR : BRep G K E H) (hS : va_S (AA G) s.heap H locs) (h0 : 0 < K) (hz : s.heap.size + cls = gN G 0 + K) (hl : ls.size = M.2.2.1) (hw : (rest.map fun v => v.category).sum ≤ 8) (hd : decode M.2.1 pc = .ok (.invokespecial ix, 3)) (hcs : cls + mc ≤ R.cells ∧ sls + ms ≤ R.slots) (hE : BX G N a K K2 mc ms E post)
    (kk : ∀ (E2 : BE) (H1 : Heap) (locs1 : List Loc), post E2 → BRep G K2 E2 H1 → va_S (AA G) s.heap H1 locs1 → W p (gL G) e R s m args below meth c H1 locs1 (cls + mc) (sls + ms) Q (F0 m (pc + 3) ls rest)) : W p (gL G) e R s m args below meth c H locs cls sls Q (F0 m pc ls (.ref (gN G 0 + a) :: rest)) := by
  refine W_sz (fun z => ?_)
  have hsz : H.size = gN G 0 + K := by
    have := (hR (K - 1) _ (bcl_at (by omega))).lt
    have h2 : gN G 0 + (K - 1) < H.size := this
    omega
  obtain ⟨h1, h2, h3, h4, h5, h6, h7⟩ := hB
  have hts := h5.1
  have hpar : ∀ sig, parseMethodDescriptor N.1.desc = some sig → 0 = sig.parameters.length := fun sig h => by
    have h2 := hO.1.2.2.2.1
    rw [h] at h2
    exact (Option.some.inj h2).symm
  have hcd := hts _ hO.1.1 rfl args
  have hini := hts _ hO.1.2.1 rfl args
  have hin := hts _ hO.2.1 rfl args
  have hPre : PreS s H (fun v U => v = #[.ref (gN G 0 + a)] ∧ U.heap.size = gN G 0 + K ∧ BRep G K E U.heap ∧ Ctx G U ∧ AOs U) [.ref (gN G 0 + a)] := ⟨fun a2 U g mk h => ⟨h.1, h.2.1, h.2.2.1, h.2.2.2.1.call g mk a2, h.2.2.2.2.call g mk a2⟩, fun U eU hW => ⟨rfl, by rw [eU]; exact hsz, by rw [eU]; exact hR, h5.move hW (by rw [eU]; exact hS), h7.warm hW⟩⟩
  have hroomW : 2 * (F0 m pc ls (.ref (gN G 0 + a) :: rest)).monitorRoom + (rest.map fun v => v.category).sum ≤ 8 := lv_room hw
  have hrun : va_Run p (gL G) e R s m args below meth c H locs cls sls mc ms (F0 m pc ls (.ref (gN G 0 + a) :: rest)) rest (va_Qv post (fun E2 t => BRep G K2 E2 t.heap) (AA G) (Value.ref (gN G 0 + a) :: []).toArray) (AA G) := by
    have hret := hO.2.2.2
    unfold BX at hE
    have hpaid := ex_paid hts hO.1
    rw [hret] at hE hcd hpaid
    rcases hL with hL | ⟨host, hL⟩
    · exact va_runI (Ts := []) (nL := M.2.2.1) (own := M.1.cls) (As := []) ⟨h1, h2, h3, h4, fun _ h => absurd h List.not_mem_nil⟩ hE
        ⟨⟨rfl, rfl, hfr, hlo, hpaid, List.mem_cons_self, hcd, hini, hO.1.2.2.1, hpar, hts _ hL rfl args⟩, hO.2.2.1, hin⟩ hPre rfl rfl hl rfl hroomW hd hcs
    · exact va_runIN (Ts := []) (nL := M.2.2.1) (own := M.1.cls) (host := host) (As := []) ⟨h1, h2, h3, h4, fun _ h => absurd h List.not_mem_nil⟩ hE
        ⟨⟨⟨rfl, rfl, hfr, hlo, hpaid, List.mem_cons_self⟩, hcd, hini, hO.1.2.2.1, hpar, hts _ hL rfl args⟩, hO.2.2.1, hin⟩ hPre rfl rfl hl rfl hroomW hd hcs
  refine va_callv hrun hS (fun q _ h => h) (fun q h => h) (fun E2 t2 H1 locs1 ht hvm hpost hB1 hz1 hk2 hS1 => ?_)
  have hB1 : BRep G K2 E2 t2.heap := hB1
  rw [ht] at hB1
  exact kk E2 H1 locs1 hpost hB1 hS1
end BR
