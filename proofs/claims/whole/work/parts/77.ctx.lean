/-! what holds at the law's entry, as the layer wants it -/
abbrev tLo : Term := .static "WellTurns" "LOWEST" "[I"
abbrev tHi : Term := .static "WellTurns" "HIGHEST" "[I"
theorem start_low {s : State} {b : Nat} (hts : ∀ w ∈ lw_tbl, w.before #[Value.ref b] s = true) (fl : ∀ c ∈ flatC (Jvm.Cond.and given_1 narrow_1), c.before #[Value.ref b] s = true) : ∃ q : Nat, va_Z "WellTurns" "LOWEST" "[I" (.ref q) (fun a => s.heap.size ≤ a) s s.heap ∧ va_T .int q 7 (fun j => .int (Int32.ofInt (lowV j))) (fun a => s.heap.size ≤ a) s s.heap := by
  have h0 := va_eqt (t := .elem tLo (.int 0)) (z := 0) (fl _ (by decide +kernel))
  have h1 := va_eqt (t := .elem tLo (.int 1)) (z := 0) (fl _ (by decide +kernel))
  have h2 := va_eqt (t := .elem tLo (.int 2)) (z := 1) (fl _ (by decide +kernel))
  have h3 := va_eqt (t := .elem tLo (.int 3)) (z := 1) (fl _ (by decide +kernel))
  have h4 := va_eqt (t := .elem tLo (.int 4)) (z := 1) (fl _ (by decide +kernel))
  have h5 := va_eqt (t := .elem tLo (.int 5)) (z := 0) (fl _ (by decide +kernel))
  have h6 := va_eqt (t := .elem tLo (.int 6)) (z := 0) (fl _ (by decide +kernel))
  have h7 := va_eqt (t := .length tLo) (z := 7) (fl _ (by decide +kernel))
  have ha : (Cond.arrayOf tLo .int).before #[Value.ref b] s = true := fl _ (by decide +kernel)
  obtain ⟨q, e, T⟩ := va_Tof (tm := tLo) (ty := .int) (N := 7) (f := fun j => .int (Int32.ofInt (lowV j))) (A := fun a => s.heap.size ≤ a) (by decide) ha h7 (fun j hj => by
    rcases (by omega : j = 0 ∨ j = 1 ∨ j = 2 ∨ j = 3 ∨ j = 4 ∨ j = 5 ∨ j = 6) with rfl | rfl | rfl | rfl | rfl | rfl | rfl
    · exact h0
    · exact h1
    · exact h2
    · exact h3
    · exact h4
    · exact h5
    · exact h6) (fun a ha => Nat.not_le.mpr ha)
  exact ⟨q, va_Zof (hts (.laysStatic "WellTurns" "LOWEST" "[I") (by decide +kernel)) (hts (.initialized "WellTurns") (by decide +kernel)) e (fun a ha => Nat.not_le.mpr ha), T⟩
theorem start_high {s : State} {b : Nat} (hts : ∀ w ∈ lw_tbl, w.before #[Value.ref b] s = true) (fl : ∀ c ∈ flatC (Jvm.Cond.and given_1 narrow_1), c.before #[Value.ref b] s = true) : ∃ q : Nat, va_Z "WellTurns" "HIGHEST" "[I" (.ref q) (fun a => s.heap.size ≤ a) s s.heap ∧ va_T .int q 7 (fun j => .int (Int32.ofInt (highV j))) (fun a => s.heap.size ≤ a) s s.heap := by
  have h0 := va_eqt (t := .elem tHi (.int 0)) (z := 60) (fl _ (by decide +kernel))
  have h1 := va_eqt (t := .elem tHi (.int 1)) (z := 20) (fl _ (by decide +kernel))
  have h2 := va_eqt (t := .elem tHi (.int 2)) (z := 40) (fl _ (by decide +kernel))
  have h3 := va_eqt (t := .elem tHi (.int 3)) (z := 9) (fl _ (by decide +kernel))
  have h4 := va_eqt (t := .elem tHi (.int 4)) (z := 7) (fl _ (by decide +kernel))
  have h5 := va_eqt (t := .elem tHi (.int 5)) (z := 60) (fl _ (by decide +kernel))
  have h6 := va_eqt (t := .elem tHi (.int 6)) (z := 3) (fl _ (by decide +kernel))
  have h7 := va_eqt (t := .length tHi) (z := 7) (fl _ (by decide +kernel))
  have ha : (Cond.arrayOf tHi .int).before #[Value.ref b] s = true := fl _ (by decide +kernel)
  obtain ⟨q, e, T⟩ := va_Tof (tm := tHi) (ty := .int) (N := 7) (f := fun j => .int (Int32.ofInt (highV j))) (A := fun a => s.heap.size ≤ a) (by decide) ha h7 (fun j hj => by
    rcases (by omega : j = 0 ∨ j = 1 ∨ j = 2 ∨ j = 3 ∨ j = 4 ∨ j = 5 ∨ j = 6) with rfl | rfl | rfl | rfl | rfl | rfl | rfl
    · exact h0
    · exact h1
    · exact h2
    · exact h3
    · exact h4
    · exact h5
    · exact h6) (fun a ha => Nat.not_le.mpr ha)
  exact ⟨q, va_Zof (hts (.laysStatic "WellTurns" "HIGHEST" "[I") (by decide +kernel)) (hts (.initialized "WellTurns") (by decide +kernel)) e (fun a ha => Nat.not_le.mpr ha), T⟩
theorem start_K {s : State} {b : Nat} (hts : ∀ w ∈ lw_tbl, w.before #[Value.ref b] s = true) : ∃ (dC : Nat → ClassId) (dI : Nat → Nat → Nat), ∀ (k : Nat) (q : vw_C), vcl[k]? = some q → u_Kn s q.1 q.2.1 q.2.2 (dC k) (dI k) := by
  obtain ⟨c0, i0, k0⟩ := u_known (C := RX0) (T := TX0) (N := 14) (n := 14) hts (fun w hw => (fwX0.2.2.2 w hw).1) (hts (.instantiable RX0 14) (by decide +kernel))
  obtain ⟨c1, i1, k1⟩ := u_known (C := RX1) (T := TX1) (N := 10) (n := 10) hts (fun w hw => (fwX1.2.2.2 w hw).1) (hts (.instantiable RX1 10) (by decide +kernel))
  obtain ⟨c2, i2, k2⟩ := u_known (C := RX2) (T := TX2) (N := 3) (n := 3) hts (fun w hw => (fwX2.2.2.2 w hw).1) (hts (.instantiable RX2 3) (by decide +kernel))
  obtain ⟨c3, i3, k3⟩ := u_known (C := RX3) (T := TX3) (N := 3) (n := 3) hts (fun w hw => (fwX3.2.2.2 w hw).1) (hts (.instantiable RX3 3) (by decide +kernel))
  obtain ⟨c4, i4, k4⟩ := u_known (C := RX4) (T := TX4) (N := 4) (n := 4) hts (fun w hw => (fwX4.2.2.2 w hw).1) (hts (.instantiable RX4 4) (by decide +kernel))
  obtain ⟨c5, i5, k5⟩ := u_known (C := RX5) (T := TX5) (N := 14) (n := 14) hts (fun w hw => (fwX5.2.2.2 w hw).1) (hts (.instantiable RX5 14) (by decide +kernel))
  obtain ⟨c6, i6, k6⟩ := u_known (C := RX6) (T := TX6) (N := 20) (n := 20) hts (fun w hw => (fwX6.2.2.2 w hw).1) (hts (.instantiable RX6 20) (by decide +kernel))
  refine ⟨fun k => if k = 0 then c0 else if k = 1 then c1 else if k = 2 then c2 else if k = 3 then c3 else if k = 4 then c4 else if k = 5 then c5 else c6, fun k => if k = 0 then i0 else if k = 1 then i1 else if k = 2 then i2 else if k = 3 then i3 else if k = 4 then i4 else if k = 5 then i5 else i6, ?_⟩
  intro k q hq
  match k, hq with
  | 0, hq => cases hq; exact k0
  | 1, hq => cases hq; exact k1
  | 2, hq => cases hq; exact k2
  | 3, hq => cases hq; exact k3
  | 4, hq => cases hq; exact k4
  | 5, hq => cases hq; exact k5
  | 6, hq => cases hq; exact k6
  | k + 7, hq => simp [vcl] at hq
theorem start_A {s : State} {b : Nat} (hts : ∀ w ∈ lw_tbl, w.before #[Value.ref b] s = true) : ∃ dT : Nat → ClassId, ∀ (k : Nat) (q : ClassId × FieldType), ([(dT 0, .int), (dT 1, .long), (dT 2, .object "WellTurns$Moment"), (dT 3, .object "WellTurns$Sheet")] : List (ClassId × FieldType))[k]? = some q → ArrOfT s q.1 q.2 ∧ va_RA s q.1 q.2 := by
  obtain ⟨a0, ka0, p0, f0, g0, h0⟩ := Cond.arrayClass_spec (type := .int) (hts (.arrayClass .int) (by decide +kernel))
  obtain ⟨a1, ka1, p1, f1, g1, h1⟩ := Cond.arrayClass_spec (type := .long) (hts (.arrayClass .long) (by decide +kernel))
  obtain ⟨p2, a2, ka2, x2, -, g2, h2, f2⟩ := Cond.arrayOver_spec (n := "WellTurns$Moment") (hts (.arrayOver (.object "WellTurns$Moment")) (by decide +kernel))
  obtain ⟨p3, a3, ka3, x3, -, g3, h3, f3⟩ := Cond.arrayOver_spec (n := "WellTurns$Sheet") (hts (.arrayOver (.object "WellTurns$Sheet")) (by decide +kernel))
  refine ⟨fun k => if k = 0 then a0 else if k = 1 then a1 else if k = 2 then a2 else a3, ?_⟩
  intro k q hq
  match k, hq with
  | 0, hq => cases hq; exact ⟨fun n z => ⟨fun k h => (by cases h), ka0, g0, p0, h0⟩, f0⟩
  | 1, hq => cases hq; exact ⟨fun n z => ⟨fun k h => (by cases h), ka1, g1, p1, h1⟩, f1⟩
  | 2, hq => cases hq; exact ⟨fun n z => ⟨fun k h => (by cases h), ka2, g2, p2, h2⟩, ka2, p2, g2, h2, x2, f2⟩
  | 3, hq => cases hq; exact ⟨fun n z => ⟨fun k h => (by cases h), ka3, g3, p3, h3⟩, ka3, p3, g3, h3, x3, f3⟩
  | k + 4, hq => simp at hq
theorem start_ctx (l : Launch) {s : State} {b L : Nat} {xs : Nat → Int32} (hL : L ≤ 384) (hts : ∀ w ∈ lw_tbl, w.before #[Value.ref b] s = true) (hX : va_X b L xs s s.heap) (hbl : b < s.heap.size) (hgv : (Jvm.Cond.and given_1 narrow_1).before #[Value.ref b] s = true) : ∃ G : GG, gL G = l ∧ gN G 0 = s.heap.size ∧ gN G 1 = b ∧ gN G 4 ≤ 384 ∧ Ctx G s ∧ AOs s := by
  have fl := flat_of_before _ hgv
  obtain ⟨q2, z2, T2⟩ := start_low hts fl
  obtain ⟨q3, z3, T3⟩ := start_high hts fl
  obtain ⟨dC, dI, hK⟩ := start_K hts
  obtain ⟨dT, hA⟩ := start_A hts
  refine ⟨(l, dC, dI, dT, (fun k => if k = 0 then s.heap.size else if k = 1 then b else if k = 2 then q2 else if k = 3 then q3 else L), xs), rfl, rfl, rfl, hL, ⟨fun w hw ht a => va_tabs (okT.on ht) rfl (hts w hw), ⟨hK, hA⟩, ⟨hX, hbl, hbl, hL⟩, ⟨z2, T2⟩, z3, T3⟩, ⟨⟨va_AO.of (hts (.arrayOver (.object "WellTurns$Moment")) (by decide +kernel)), va_AO.of (hts (.arrayOver (.object "WellTurns$Sheet")) (by decide +kernel))⟩, fun a => word_at (State.WarmedH.refl s) (Or.inr ⟨_, rfl⟩) (hts (.arrayClass .int) (by decide +kernel)), fun a => word_at (State.WarmedH.refl s) (Or.inr ⟨_, rfl⟩) (hts (.arrayClass .long) (by decide +kernel))⟩⟩
