/-! the memory behind both constructors; the cells of an object that is being made -/
def t0 : Mem := fun k j =>
  if ky k = 0 then (if j = 0 then 4 else if j = 1 then 10 else if j = 2 then 4 else if j = 3 then 3 else if j = 6 then -4 else 0)
  else if ky k = 1 then (if j = 0 then 30 else if j = 5 then 1 else 0)
  else if ky k = 3 then (if j = 0 then -1 else 0)
  else if k = 132 then (if j = 2 then -1 else 0)
  else if k = 133 then (if j = 0 then 30 else if j = 1 then 4 else if j = 2 then 10 else if j = 3 then 4 else if j = 4 then 3 else if j = 10 then -4 else if j = 13 then 1 else 0)
  else if k = 141 then (if j < 4 then -1 else 0)
  else 0
set_option maxRecDepth 100000 in
theorem ent_camp {G : GG} {a : Nat} (h : IsCamp a) : ent G t0 a = .inr (0, [.int 4, .int 10, .int 4, .int 3, .int 0, .int 0, .int (-4), .int 0, .ref (gN G 0 + (a + 1)), .ref (gN G 0 + (a + 2)), .ref (gN G 0 + (a + 3)), .ref (gN G 0 + (a + 4)), .ref (gN G 0 + (a + 5)), .int 0]) := by
  unfold IsCamp at h
  simp only [List.mem_cons, List.not_mem_nil, or_false] at h
  rcases h with rfl | rfl | rfl <;> rfl
set_option maxRecDepth 100000 in
theorem ent_mom {G : GG} {a : Nat} (h : IsMom a) : ent G t0 a = .inr (1, [.int 30, .int 0, .int 0, .int 0, .int 0, .int 1, .ref (gN G 0 + (a + 1)), .ref (gN G 0 + (a + 2)), .ref (gN G 0 + (a + 3)), .ref (gN G 0 + (a + 4))]) := by
  unfold IsMom at h
  simp only [List.mem_cons, List.not_mem_nil, or_false] at h
  rcases h with rfl | rfl | rfl | rfl | rfl | rfl | rfl | rfl | rfl | rfl | rfl | rfl | rfl | rfl | rfl | rfl | rfl | rfl | rfl <;> rfl
set_option maxRecDepth 100000 in
theorem ent_sheet {G : GG} {a : Nat} (h : IsSheet a) : ent G t0 a = .inr (3, [.int (-1), .int 0, .ref (gN G 0 + (a + 1))]) := by
  unfold IsSheet at h
  simp only [List.mem_cons, List.not_mem_nil, or_false] at h
  rcases h with rfl | rfl | rfl | rfl <;> rfl
set_option maxRecDepth 100000 in
theorem ent_past {G : GG} {a : Nat} (h : IsPast a) : ent G t0 a = .inr (2, [.ref (gN G 0 + (a + 1)), .int 0, .int 0]) := by
  unfold IsPast at h
  simp only [List.mem_cons, List.not_mem_nil, or_false] at h
  rcases h with rfl | rfl <;> rfl
theorem ent_a7 {G : GG} {k n : Nat} (h : ky k = 7 ∧ ln k = n ∧ k ≠ 133 ∧ k ≠ 141) : ent G t0 k = .inl (gT G 0, n, .inl (fun _ => 0)) := by
  rw [ent_7 h.1, h.2.1]
  have : (fun j => Int32.ofInt (t0 k j)) = fun _ => (0 : Int32) := by
    funext j
    have z : t0 k j = 0 := by
      unfold t0
      rw [if_neg (by rw [h.1]; decide), if_neg (by rw [h.1]; decide), if_neg (by rw [h.1]; decide)]
      by_cases e : k = 132
      · exfalso; have := h.1; rw [e] at this; revert this; decide +kernel
      · rw [if_neg e, if_neg h.2.2.1, if_neg h.2.2.2]
    rw [z]; rfl
  rw [this]
theorem ent_a8 {G : GG} {k n : Nat} (h : ky k = 8 ∧ ln k = n) : ent G t0 k = .inl (gT G 1, n, .inr (.inl (fun _ => 0))) := by
  rw [ent_8 h.1, h.2]
  have : (fun j => Int64.ofInt (t0 k j)) = fun _ => (0 : Int64) := by
    funext j
    have z : t0 k j = 0 := by
      unfold t0
      rw [if_neg (by rw [h.1]; decide), if_neg (by rw [h.1]; decide), if_neg (by rw [h.1]; decide), if_neg (fun e => by have := h.1; rw [e] at this; revert this; decide +kernel), if_neg (fun e => by have := h.1; rw [e] at this; revert this; decide +kernel), if_neg (fun e => by have := h.1; rw [e] at this; revert this; decide +kernel)]
    rw [z]; rfl
  rw [this]
theorem camp_arr {a : Nat} (h : IsCamp a) : ∀ i, i < 5 → ky (a + 1 + i) = 7 ∧ ln (a + 1 + i) = 7 ∧ a + 1 + i ≠ 133 ∧ a + 1 + i ≠ 141 := (by decide +kernel : ∀ a ∈ ([1, 54, 107] : List Nat), ∀ i, i < 5 → ky (a + 1 + i) = 7 ∧ ln (a + 1 + i) = 7 ∧ a + 1 + i ≠ 133 ∧ a + 1 + i ≠ 141) a h
theorem mom_arr {a : Nat} (h : IsMom a) : ∀ i, i < 4 → ky (a + 1 + i) = 7 ∧ ln (a + 1 + i) = 7 ∧ a + 1 + i ≠ 133 ∧ a + 1 + i ≠ 141 := (by decide +kernel : ∀ a ∈ ([7, 14, 19, 24, 29, 34, 39, 44, 49, 60, 67, 72, 77, 82, 87, 92, 97, 102, 113] : List Nat), ∀ i, i < 4 → ky (a + 1 + i) = 7 ∧ ln (a + 1 + i) = 7 ∧ a + 1 + i ≠ 133 ∧ a + 1 + i ≠ 141) a h
theorem sheet_arr {a : Nat} (h : IsSheet a) : ky (a + 1 + 0) = 8 ∧ ln (a + 1 + 0) = 24 := (by decide +kernel : ∀ a ∈ ([124, 126, 128, 130] : List Nat), ky (a + 1 + 0) = 8 ∧ ln (a + 1 + 0) = 24) a h
/-- behind a constructor: the cells from a to hi are as t0 says, those ahead of a are as they were -/
def Pst (G : GG) (E : BE) (a hi : Nat) (E2 : BE) : Prop := (∀ k, k < a → E2 k = E k) ∧ ∀ k, a ≤ k → k < hi → E2 k = ent G t0 k
def opn (O : Nat → Option va_E) (k : Nat) (v : va_E) : Nat → Option va_E := fun j => if j = k then some v else O j
def nop : Nat → Option va_E := fun _ => none
theorem opn_opn {O : Nat → Option va_E} {k : Nat} {v w : va_E} : opn (opn O k v) k w = opn O k w := by funext j; unfold opn; by_cases e : j = k <;> simp [e]
theorem opn_comm {O : Nat → Option va_E} {k j : Nat} {v w : va_E} (h : k ≠ j) : opn (opn O k v) j w = opn (opn O j w) k v := by
  funext i; unfold opn
  by_cases e : i = j
  · rw [if_pos e, if_neg (fun q => h (q.symm.trans e)), if_pos e]
  · rw [if_neg e]
    by_cases f : i = k
    · rw [if_pos f, if_pos f]
    · rw [if_neg f, if_neg f, if_neg e]
/-- an object that is being made: a its place, fs its fields, n cells behind it, O those among them that aren't done -/
def St (G : GG) (ci : Nat) (E : BE) (a n : Nat) (fs : List Value) (O : Nat → Option va_E) (F : BE) : Prop := F a = .inr (ci, fs) ∧ (∀ k, k < a → F k = E k) ∧ (∀ k, a < k → k < a + 1 + n → O k = none → F k = ent G t0 k) ∧ ∀ k v, a < k → k < a + 1 + n → O k = some v → F k = v
section ST
variable {G : GG} {ci a n : Nat} {E F : BE} {fs fs2 : List Value} {O : Nat → Option va_E}
theorem St.put {v : Value} {j : Nat} (h : St G ci E a n fs O F) : St G ci E a n (fs.set j v) O (upE F a (.inr (ci, fs.set j v))) := ⟨upE_s, fun k hk => by rw [upE_n (by omega)]; exact h.2.1 k hk, fun k h1 h2 h3 => by rw [upE_n (by omega)]; exact h.2.2.1 k h1 h2 h3, fun k v h1 h2 h3 => by rw [upE_n (by omega)]; exact h.2.2.2 k v h1 h2 h3⟩
theorem St.grow {en : va_E} (h : St G ci E a n fs O F) (ho : O (a + 1 + n) = none) (he : en = ent G t0 (a + 1 + n)) : St G ci E a (n + 1) fs O (upE F (a + 1 + n) en) := by
  refine ⟨by rw [upE_n (by omega)]; exact h.1, fun k hk => by rw [upE_n (by omega)]; exact h.2.1 k hk, fun k h1 h2 h3 => ?_, fun k v h1 h2 h3 => ?_⟩
  · by_cases e : k = a + 1 + n
    · rw [e, upE_s, he]
    · rw [upE_n e]; exact h.2.2.1 k h1 (by omega) h3
  · by_cases e : k = a + 1 + n
    · rw [e, ho] at h3; cases h3
    · rw [upE_n e]; exact h.2.2.2 k v h1 (by omega) h3
theorem St.growO {en : va_E} (h : St G ci E a n fs O F) : St G ci E a (n + 1) fs (opn O (a + 1 + n) en) (upE F (a + 1 + n) en) := by
  refine ⟨by rw [upE_n (by omega)]; exact h.1, fun k hk => by rw [upE_n (by omega)]; exact h.2.1 k hk, fun k h1 h2 h3 => ?_, fun k v h1 h2 h3 => ?_⟩
  · by_cases e : k = a + 1 + n
    · unfold opn at h3; rw [if_pos e] at h3; cases h3
    · unfold opn at h3; rw [if_neg e] at h3; rw [upE_n e]; exact h.2.2.1 k h1 (by omega) h3
  · by_cases e : k = a + 1 + n
    · unfold opn at h3; rw [if_pos e] at h3; cases h3; rw [e, upE_s]
    · unfold opn at h3; rw [if_neg e] at h3; rw [upE_n e]; exact h.2.2.2 k v h1 (by omega) h3
/-- a whole object behind it -/
theorem St.sub {en : va_E} {z : Nat} {F2 : BE} (h : St G ci E a n fs O F) (ho : ∀ k, a + 1 + n ≤ k → O k = none) (hp : Pst G (upE F (a + 1 + n) en) (a + 1 + n) (a + 1 + n + z) F2) : St G ci E a (n + z) fs O F2 := by
  have lo : ∀ k, k < a + 1 + n → F2 k = F k := fun k hk => by rw [hp.1 k hk, upE_n (by omega)]
  refine ⟨by rw [lo a (by omega)]; exact h.1, fun k hk => by rw [lo k (by omega)]; exact h.2.1 k hk, fun k h1 h2 h3 => ?_, fun k v h1 h2 h3 => ?_⟩
  · rcases Nat.lt_or_ge k (a + 1 + n) with q | q
    · rw [lo k q]; exact h.2.2.1 k h1 q h3
    · exact hp.2 k q (by omega)
  · rcases Nat.lt_or_ge k (a + 1 + n) with q | q
    · rw [lo k q]; exact h.2.2.2 k v h1 q h3
    · rw [ho k q] at h3; cases h3
theorem St.wr {r : Nat} {v w : va_E} (h : St G ci E a n fs (opn O r v) F) (h1 : a < r) : St G ci E a n fs (opn O r w) (upE F r w) := by
  refine ⟨by rw [upE_n (by omega)]; exact h.1, fun k hk => by rw [upE_n (by omega)]; exact h.2.1 k hk, fun k k1 k2 k3 => ?_, fun k u k1 k2 k3 => ?_⟩
  · by_cases e : k = r
    · unfold opn at k3; rw [if_pos e] at k3; cases k3
    · unfold opn at k3; rw [if_neg e] at k3; rw [upE_n e]; exact h.2.2.1 k k1 k2 (by unfold opn; rw [if_neg e]; exact k3)
  · by_cases e : k = r
    · unfold opn at k3; rw [if_pos e] at k3; cases k3; rw [e, upE_s]
    · unfold opn at k3; rw [if_neg e] at k3; rw [upE_n e]; exact h.2.2.2 k u k1 k2 (by unfold opn; rw [if_neg e]; exact k3)
theorem St.at {r : Nat} {v : va_E} (h : St G ci E a n fs (opn O r v) F) (h1 : a < r) (h2 : r < a + 1 + n) : F r = v := h.2.2.2 r v h1 h2 (if_pos rfl)
theorem St.close {r : Nat} {v : va_E} (h : St G ci E a n fs (opn O r v) F) (ho : O r = none) (h1 : a < r) (h2 : r < a + 1 + n) (he : v = ent G t0 r) : St G ci E a n fs O F := by
  have hr := h.at h1 h2
  refine ⟨h.1, h.2.1, fun k k1 k2 k3 => ?_, fun k u k1 k2 k3 => ?_⟩
  · by_cases e : k = r
    · rw [e, hr, he]
    · exact h.2.2.1 k k1 k2 (by unfold opn; rw [if_neg e]; exact k3)
  · by_cases e : k = r
    · rw [e, ho] at k3; cases k3
    · exact h.2.2.2 k u k1 k2 (by unfold opn; rw [if_neg e]; exact k3)
theorem St.done (h : St G ci E a n fs nop F) (he : .inr (ci, fs) = ent G t0 a) : Pst G E a (a + 1 + n) F := by
  refine ⟨h.2.1, fun k h1 h2 => ?_⟩
  by_cases e : k = a
  · rw [e, h.1, he]
  · exact h.2.2.1 k (by omega) h2 rfl
end ST
