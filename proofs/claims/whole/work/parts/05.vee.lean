/-! THE LAYER: a small logic over the machine. Values are whole numbers (II an int, JJ a long) and virtual addresses (RR); the memory is one function. V: the method M, at pc, with locals ls, stack st, memory t, comes to its end with Q. Ex: a call of M ends so. -/
abbrev VV : Type := Int ⊕ (Int ⊕ Nat)
abbrev II (z : Int) : VV := Sum.inl z
abbrev JJ (z : Int) : VV := Sum.inr (Sum.inl z)
abbrev RR (k : Nat) : VV := Sum.inr (Sum.inr k)
abbrev Mem : Type := Nat → Nat → Int
def wr (t : Mem) (a j : Nat) (v : Int) : Mem := fun x y => if x = a ∧ y = j then v else t x y
/-- n items of the row a, from i on, come to the row b from j on -/
def cpy (t : Mem) (a i b j n : Nat) : Mem := fun x y => if x = b ∧ j ≤ y ∧ y < j + n then t a (i + (y - j)) else t x y
/-- launch; class numbers; slots; array classes; numbers (0 the first cell's address, 1 the script's, 2 LOWEST's, 3 HIGHEST's, 4 the script's length); the script -/
abbrev GG : Type := Launch × (Nat → ClassId) × (Nat → Nat → Nat) × (Nat → ClassId) × (Nat → Nat) × (Nat → Int32)
abbrev gL (G : GG) : Launch := G.1
abbrev gD (G : GG) : va_G := (G.2.1, G.2.2.1)
abbrev gT (G : GG) : Nat → ClassId := G.2.2.2.1
abbrev gN (G : GG) : Nat → Nat := G.2.2.2.2.1
abbrev gX (G : GG) : Nat → Int32 := G.2.2.2.2.2
def rlA (G : GG) (k : Nat) : Nat := if k < 900 then gN G 0 + k else if k = 900 then gN G 1 else if k = 901 then gN G 2 else gN G 3
def rl (G : GG) : VV → Value
  | .inl z => .int (Int32.ofInt z)
  | .inr (.inl z) => .long (Int64.ofInt z)
  | .inr (.inr k) => .ref (rlA G k)
def ent (G : GG) (t : Mem) (k : Nat) : va_E :=
  if ky k < 7 then .inr (ky k, (List.range (nf (ky k))).map (fun j => if fr (ky k) j then Value.ref (gN G 0 + rf k j) else .int (Int32.ofInt (t k j))))
  else if ky k = 7 then .inl (gT G 0, ln k, .inl (fun j => Int32.ofInt (t k j)))
  else if ky k = 8 then .inl (gT G 1, ln k, .inr (.inl (fun j => Int64.ofInt (t k j))))
  else if ky k = 9 then .inl (gT G 2, ln k, .inr (.inr (.inr (.inr (fun j => some (gN G 0 + rf k j))))))
  else .inl (gT G 3, ln k, .inr (.inr (.inr (.inr (fun j => some (gN G 0 + rf k j))))))
def cells (G : GG) (t : Mem) : va_W := (List.range 145).map (fun k => (gN G 0 + k, ent G t k))
abbrev tysG (G : GG) : List (ClassId × FieldType) := [(gT G 0, .int), (gT G 1, .long), (gT G 2, .object "WellTurns$Moment"), (gT G 3, .object "WellTurns$Sheet")]
def Rep (G : GG) (t : Mem) (H : Heap) : Prop := va_P (gD G) vcl (cells G t) H
def AA (G : GG) : Nat → Prop := fun q => gN G 0 ≤ q
def lowV (j : Nat) : Int := ([0, 0, 1, 1, 1, 0, 0] : List Int).getD j 0
def highV (j : Nat) : Int := ([60, 20, 40, 9, 7, 60, 3] : List Int).getD j 0
/-- the tables' words, at a state -/
def okT (w : Cond) : Bool := w.onTables && (w.keeps || (match w with | .fieldLinkNest .. => true | .methodLinkNest .. => true | _ => false))
theorem okT.on {w : Cond} (h : okT w = true) : w.onTables = true := (Bool.and_eq_true_iff.mp h).1
def TB (s : State) : Prop := ∀ w ∈ lw_tbl, okT w = true → ∀ a : Array Value, w.before a s = true
def Ctx (G : GG) (U : State) : Prop := TB U ∧ va_K (gD G) vcl (tysG G) U ∧ (va_X (gN G 1) (gN G 4) (gX G) U U.heap ∧ gN G 1 < U.heap.size ∧ gN G 1 < gN G 0 ∧ gN G 4 ≤ 384) ∧
  (va_Z "WellTurns" "LOWEST" "[I" (.ref (gN G 2)) (AA G) U U.heap ∧ va_T .int (gN G 2) 7 (fun j => .int (Int32.ofInt (lowV j))) (AA G) U U.heap) ∧
  (va_Z "WellTurns" "HIGHEST" "[I" (.ref (gN G 3)) (AA G) U U.heap ∧ va_T .int (gN G 3) 7 (fun j => .int (Int32.ofInt (highV j))) (AA G) U U.heap)
theorem cells_at {G : GG} {t : Mem} {k : Nat} (h : k < 145) : (cells G t)[k]? = some (gN G 0 + k, ent G t k) := by
  unfold cells; rw [List.getElem?_map, List.getElem?_range h]; rfl
theorem cells_set {G : GG} {t u : Mem} {k : Nat} (hk : k < 145) {en : va_E} (he : en = ent G u k) (ho : ∀ x, x ≠ k → t x = u x) : (cells G t).set k (gN G 0 + k, en) = cells G u := by
  apply List.ext_getElem?
  intro i
  rw [List.getElem?_set]
  by_cases h : k = i
  · subst h
    simp only [if_true, cells, List.length_map, List.length_range, hk, List.getElem?_map, List.getElem?_range hk, he, Option.map_some]
  · rw [if_neg h]
    rcases Nat.lt_or_ge i 145 with g | g
    · rw [cells_at g, cells_at g]
      unfold ent
      rw [ho i (fun e => h e.symm)]
    · rw [List.getElem?_eq_none (by simp [cells]; exact g), List.getElem?_eq_none (by simp [cells]; exact g)]
theorem cells_D (G : GG) (t : Mem) : va_D (AA G) (cells G t) := by
  refine ⟨fun i j p q hi hj hpq => ?_, fun k q hk => ?_⟩
  · rcases Nat.lt_or_ge i 145 with g | g
    · rcases Nat.lt_or_ge j 145 with g2 | g2
      · rw [cells_at g] at hi; rw [cells_at g2] at hj
        cases hi; cases hj
        have : gN G 0 + i = gN G 0 + j := hpq
        omega
      · rw [List.getElem?_eq_none (by simp [cells]; exact g2)] at hj; cases hj
    · rw [List.getElem?_eq_none (by simp [cells]; exact g)] at hi; cases hi
  · rcases Nat.lt_or_ge k 145 with g | g
    · rw [cells_at g] at hk; cases hk; exact Nat.le_add_right _ _
    · rw [List.getElem?_eq_none (by simp [cells]; exact g)] at hk; cases hk
theorem TB.warm {s U : State} (hW : s.WarmedH U.vm) (h : TB s) : TB U := by
  intro w hw ht a
  have h1 := (Bool.and_eq_true_iff.mp ht).2
  rcases hk : w.keeps with _ | _
  · rw [hk] at h1
    have h2 := h w hw ht #[]
    cases w <;> first | (exact va_Nw.use rfl (va_Nw.warmF hW h2)) | (exact va_Nw.use rfl (va_Nw.warmM hW h2)) | (simp at h1)
  · exact word_at hW (Or.inl (by rw [okT.on ht, hk]; rfl)) (h w hw ht a)
theorem TB.same {s U : State} (e : s.vm = U.vm) (h : TB s) : TB U := fun w hw ht a => va_tabs (okT.on ht) e (h w hw ht a)
theorem Ctx.move {G : GG} {s U : State} {locs : List Loc} (hW : s.WarmedH U.vm) (hS : va_S (AA G) s.heap U.heap locs) (h : Ctx G s) : Ctx G U := by
  obtain ⟨h1, h2, ⟨x1, x2, x3, x4⟩, ⟨z1, z2⟩, z3, z4⟩ := h
  have ha := hW.alike
  have hq : ∀ a : Nat, a < s.heap.size → ¬ AA G a → U.heap[a]? = s.heap[a]? := fun a q1 q2 => hS.2.1 a q1 q2
  refine ⟨h1.warm hW, va_K.moved ha h2, ⟨(x1.kept (hq _ x2 (fun q => Nat.lt_irrefl _ (Nat.lt_of_lt_of_le x3 q)))).moved ha, Nat.lt_of_lt_of_le x2 hS.1, x3, x4⟩, ⟨(z1.kept hq).moved ha, (z2.kept hq).moved ha⟩, (z3.kept hq).moved ha, (z4.kept hq).moved ha⟩
theorem Ctx.call {G : GG} {U : State} (g : JFrame) (mk : MethodId) (a : Array Value) (h : Ctx G U) : Ctx G (U.calling g mk a) := by
  obtain ⟨h1, h2, ⟨x1, x2, x3, x4⟩, ⟨z1, z2⟩, z3, z4⟩ := h
  have ha : U.vm.Alike (U.calling g mk a).vm := Vm.Alike.refl U.vm
  exact ⟨TB.same (s := U) (U := U.calling g mk a) rfl h1, va_K.moved ha h2, ⟨x1.moved ha, x2, x3, x4⟩, ⟨z1.moved ha, z2.moved ha⟩, z3.moved ha, z4.moved ha⟩
/-- a method: name, code, locals, what it returns, its height over the leaves -/
abbrev MI : Type := MethodName × ByteArray × Nat × Option FieldType × Nat
def rmL (d : Nat) : Room := { frames := d, cells := 0, slots := 0, locals := 40 * d }
def rok (ret : Option FieldType) (r : Int) : Prop := ret = some .int ∨ (ret = some .boolean ∧ (r = 0 ∨ r = 1))
def vls (G : GG) (ls : List (Nat × VV)) : List (Nat × Value) := ls.map (fun q => (q.1, rl G q.2))
def VX (G : GG) (M : MI) (Q : Int → Mem → Prop) (p : Program) (e : Env) (R : Room) (s : State) (m : MethodId) (args : Array Value) (below : List Frame) (meth : Method) (c : Code) (cl sl : Nat) (Z : State → Prop) : Prop :=
  p.tables.exec = Jvm.exec ∧ c.code = M.2.1 ∧ c.maxLocals = M.2.2.1 ∧ s.vm.findClass M.1.cls = some m.cls ∧ Ctx G s ∧ M.2.2.2.2 ≤ R.frames ∧ 40 * M.2.2.2.2 ≤ R.locals ∧ cl ≤ R.cells ∧ sl ≤ R.slots ∧
  (∀ (H : Heap) (locs : List Loc) (la : Array Slot) (pc : Nat) (r : Int) (t : Mem), Rep G t H → va_S (AA G) s.heap H locs → Q r t →
    (decode M.2.1 pc = .ok (.ireturn, 1) → rok M.2.2.2.1 r → W p (gL G) e R s m args below meth c H locs cl sl Z (F0 m pc la [.int (Int32.ofInt r)])) ∧
    (decode M.2.1 pc = .ok (.return_, 1) → M.2.2.2.1 = none → r = 0 → W p (gL G) e R s m args below meth c H locs cl sl Z (F0 m pc la [])))
def V (G : GG) (M : MI) (pc : Nat) (ls : List (Nat × VV)) (st : List VV) (t : Mem) (Q : Int → Mem → Prop) : Prop :=
  ∀ (p : Program) (e : Env) (R : Room) (s : State) (m : MethodId) (args : Array Value) (below : List Frame) (meth : Method) (c : Code) (cl sl : Nat) (Z : State → Prop),
    VX G M Q p e R s m args below meth c cl sl Z → ∀ (H : Heap) (locs : List Loc) (la : Array Slot), Rep G t H → va_S (AA G) s.heap H locs → lv_has la M.2.2.1 (vls G ls) →
    W p (gL G) e R s m args below meth c H locs cl sl Z (F0 m pc la (st.map (rl G)))
def QE (G : GG) (ret : Option FieldType) (Q : Int → Mem → Prop) : Array Value → State → Outcome → State → Prop := match ret with
  | none => va_Qv (fun u : Mem => Q 0 u) (fun u t => Rep G u t.heap) (AA G)
  | some _ => va_Qi (fun (r : Int32) (u : Mem) => ∃ z : Int, r = Int32.ofInt z ∧ Q z u) (fun u t => Rep G u t.heap) (AA G)
def PE (G : GG) (as : List VV) (t : Mem) : Array Value → State → Prop := fun v U => v = (as.map (rl G)).toArray ∧ Rep G t U.heap ∧ Ctx G U
def Ex (G : GG) (M : MI) (as : List VV) (t : Mem) (Q : Int → Mem → Prop) : Prop :=
  Met (gL G) M.1 [.code M.1 M.2.1 M.2.2.1 M.2.2.2.1] (rmL M.2.2.2.2) (PE G as t) (QE G M.2.2.2.1 Q) 0 0 (AA G)
theorem PE.blind (G : GG) (as : List VV) (t : Mem) : FrameBlind (PE G as t) := fun a U g mk h => ⟨h.1, h.2.1, h.2.2.call g mk a⟩
def vc (v : VV) : Nat := match v with | .inr (.inl _) => 2 | _ => 1
theorem rl_cat (G : GG) (v : VV) : (rl G v).category = vc v := by
  rcases v with z | z | z <;> rfl
def vargs : Nat → List VV → List (Nat × VV)
  | _, [] => []
  | i, v :: vs => (i, v) :: vargs (if vc v = 2 then i + 2 else i + 1) vs
theorem vargs_rl (G : GG) : ∀ (vs : List VV) (i : Nat), lv_args i (vs.map (rl G)) = vls G (vargs i vs)
  | [], i => rfl
  | v :: vs, i => by
    show (i, rl G v) :: lv_args (if (rl G v).category = 2 then i + 2 else i + 1) (vs.map (rl G)) = (i, rl G v) :: vls G (vargs (if vc v = 2 then i + 2 else i + 1) vs)
    rw [rl_cat, vargs_rl G vs]
def vsz : List VV → Nat
  | [] => 0
  | v :: vs => vc v + vsz vs
theorem lg_len (G : GG) : ∀ vs : List VV, (lg_sl (vs.map (rl G))).length = vsz vs
  | [] => rfl
  | v :: vs => by
    have h := lg_len G vs
    unfold lg_sl at h ⊢
    rw [List.map_cons, List.flatMap_cons, List.length_append, h, rl_cat]
    rcases v with z | z | z <;> simp [vc, vsz]
theorem vcs_rl (G : GG) : ∀ vs : List VV, ((vs.map (rl G)).map fun v => v.category).sum = vsz vs
  | [] => rfl
  | v :: vs => by
    rw [List.map_cons, List.map_cons, List.sum_cons, vcs_rl G vs, rl_cat]; rfl
/-- a contract out of a walk -/
theorem Ex.of {G : GG} {M : MI} {as : List VV} {t : Mem} {Q : Int → Mem → Prop} {ls : List (Nat × VV)} (hy : plainName M.1.cls = true) (hr : M.2.2.2.1 = none ∨ M.2.2.2.1 = some .int ∨ M.2.2.2.1 = some .boolean) (hn : vsz as ≤ M.2.2.1) (hls : vargs 0 as = ls) (k : V G M 0 ls [] t Q) : Ex G M as t Q := by
  refine Met.ofW (cc := M.2.1) (maxL := M.2.2.1) (ret := M.2.2.2.1) hy rfl ?_
  intro p e s m args below meth c s₁ B hml hv
  obtain ⟨rfl, hR, hC⟩ := hv
  rw [lg_entry_eq]
  have hlocks := B.notSynchronized
  refine k p e (rmL M.2.2.2.2) s m _ below meth c 0 0 _ ⟨B.exec, B.bytes, hml, findClass_of_methodNamed B.named, hC, Nat.le_refl _, Nat.le_refl _, Nat.zero_le _, Nat.zero_le _, ?_⟩ s.heap [] _ hR va_S.rf ?_
  · intro H locs la pc r u hu hS hq
    refine ⟨fun hd hk => ?_, fun hd hk hz => ?_⟩
    · rcases hk with h1 | ⟨h1, h2⟩
      · have hr1 : meth.sig.returnType = some .int := by rw [← h1]; exact B.returns
        have hQ : ∀ t2 : State, t2.heap = H → s.WarmedH t2.vm → QE G M.2.2.2.1 Q (List.map (rl G) as).toArray s (.returned (some (.int (Int32.ofInt r)))) t2 := by
          intro t2 e2 _
          rw [h1]
          exact ⟨⟨_, u, rfl, ⟨r, rfl, hq⟩, by show Rep G u t2.heap; rw [e2]; exact hu⟩, hS.F e2⟩
        exact W.iret B.exec B.bytes hr1 hQ hS.2.2 hd
      · have hr1 : meth.sig.returnType = some .boolean := by rw [← h1]; exact B.returns
        have hQ : ∀ t2 : State, t2.heap = H → s.WarmedH t2.vm → QE G M.2.2.2.1 Q (List.map (rl G) as).toArray s (.returned (some (.int (Int32.ofInt r)))) t2 := by
          intro t2 e2 _
          rw [h1]
          exact ⟨⟨_, u, rfl, ⟨r, rfl, hq⟩, by show Rep G u t2.heap; rw [e2]; exact hu⟩, hS.F e2⟩
        exact W.zret B.exec B.bytes hr1 (by rcases h2 with rfl | rfl <;> rfl) hQ hS.2.2 hd
    · have hr1 : meth.sig.returnType = none := by rw [← hk]; exact B.returns
      subst hz
      have hQ : ∀ t2 : State, t2.heap = H → s.WarmedH t2.vm → QE G M.2.2.2.1 Q (List.map (rl G) as).toArray s (.returned none) t2 := by
        intro t2 e2 _
        rw [hk]
        exact ⟨⟨u, rfl, hq, by show Rep G u t2.heap; rw [e2]; exact hu⟩, hS.F e2⟩
      exact W.vret B.exec B.bytes hr1 hQ hS.2.2 hd
  · have h := lv_entry (as.map (rl G)) (n := M.2.2.1) (by rw [lg_len]; exact hn)
    rw [vargs_rl, hls] at h
    exact h
