/-! NAMES: what was told, on both sides. -/
def ix : List Int64 → Int64 → Option Nat
  | [], _ => none
  | x :: r, w => if x = w then some 0 else (ix r w).map (· + 1)
theorem ix_some {w : Int64} : ∀ {l : List Int64} {k : Nat}, ix l w = some k → l[k]? = some w ∧ k < l.length := by
  intro l
  induction l with
  | nil => intro k h; cases h
  | cons x r ih =>
    intro k h
    unfold ix at h
    by_cases e : x = w
    · rw [if_pos e] at h; cases h; exact ⟨by rw [e]; rfl, Nat.succ_pos _⟩
    · rw [if_neg e] at h
      cases hr : ix r w with
      | none => rw [hr] at h; cases h
      | some j =>
        rw [hr] at h
        have hk : j + 1 = k := Option.some.inj h
        subst hk
        exact ⟨by rw [List.getElem?_cons_succ]; exact (ih hr).1, Nat.succ_lt_succ (ih hr).2⟩
theorem ix_none {w : Int64} : ∀ {l : List Int64} {k : Nat}, ix l w = none → l[k]? ≠ some w := by
  intro l
  induction l with
  | nil => intro k _ h; cases h
  | cons x r ih =>
    intro k h
    unfold ix at h
    by_cases e : x = w
    · rw [if_pos e] at h; cases h
    · rw [if_neg e] at h
      cases hr : ix r w with
      | some j => rw [hr] at h; cases h
      | none =>
        cases k with
        | zero => intro z; exact e (Option.some.inj z)
        | succ k => rw [List.getElem?_cons_succ]; exact ih hr
def oi (n : Int32) : Option Nat → Int32
  | none => n
  | some k => nI k
/-- names of the reference: an array holds a list -/
def nb (s : ts) (f r : Nat) (l : List Int64) : Prop := gI s f 0 = nI l.length ∧ ∀ k, k < l.length → l[k]? = some (gB s r k)
theorem ix_from {w : Int64} {g : Nat → Int64} : ∀ {l : List Int64} {j : Nat}, (∀ k, k < l.length → l[k]? = some (g (j + k))) → True := fun _ => trivial
/-- the first match at or behind i -/
def ixf (g : Nat → Int64) (w : Int64) : Nat → Nat → Option Nat
  | 0, _ => none
  | f + 1, i => if g i = w then some i else ixf g w f (i + 1)
theorem ixf_ix {g : Nat → Int64} {w : Int64} : ∀ {l : List Int64} {i : Nat}, (∀ k, k < l.length → l[k]? = some (g (i + k))) → ixf g w l.length i = (ix l w).map (i + ·) := by
  intro l
  induction l with
  | nil => intro i h; rfl
  | cons x r ih =>
    intro i h
    have h0 : x = g i := Option.some.inj (h 0 (Nat.succ_pos _))
    show (if g i = w then some i else ixf g w r.length (i + 1)) = (if x = w then some 0 else (ix r w).map (· + 1)).map (i + ·)
    rw [h0]
    by_cases e : g i = w
    · rw [if_pos e, if_pos e]; rfl
    · rw [if_neg e, if_neg e, ih (i := i + 1) (fun k hk => by
        have := h (k + 1) (by simp; omega)
        rw [List.getElem?_cons_succ] at this
        rw [this, show i + (k + 1) = i + 1 + k by omega])]
      cases ix r w with
      | none => rfl
      | some j => show some (i + 1 + j) = some (i + (j + 1)); rw [show i + 1 + j = i + (j + 1) by omega]

theorem findResource_lp {w : Int64} {s : ts} {c : Nat} (hc : c ≤ 8) (h : gI s 1110 0 = nI c) : ∀ (f i F : Nat), i + f = c → f < F → cR_findResource_2 F w (nI i) s = some (oi (-1) (ixf (gB s 89) w f i), s) := by
  intro f
  induction f with
  | zero =>
    intro i F hi hF
    obtain ⟨F, rfl⟩ : ∃ G, F = G + 1 := ⟨F - 1, by omega⟩
    rw [cR_findResource_2.eq_2]
    unfold cR_findResource_2_b ixf oi
    simp (disch := first | assumption | omega) only [sx, if_pos, if_neg, bnd, Nat.reduceEqDiff, Nat.reduceAdd, Nat.reduceMul, Nat.reduceSub, and_true, true_and, and_false, false_and, or_true, true_or, or_false, false_or, if_true, if_false, eq_self, not_true, not_false_eq_true, h]
  | succ f ih =>
    intro i F hi hF
    obtain ⟨F, rfl⟩ : ∃ G, F = G + 1 := ⟨F - 1, by omega⟩
    rw [cR_findResource_2.eq_2]
    unfold cR_findResource_2_b ixf
    simp (disch := first | assumption | omega) only [sx, if_pos, if_neg, bnd, Nat.reduceEqDiff, Nat.reduceAdd, Nat.reduceMul, Nat.reduceSub, and_true, true_and, and_false, false_and, or_true, true_or, or_false, false_or, if_true, if_false, eq_self, not_true, not_false_eq_true, h]
    by_cases e : gB s 89 i = w
    · simp (disch := first | assumption | omega) only [sx, if_pos, if_neg, bnd, Nat.reduceEqDiff, Nat.reduceAdd, Nat.reduceMul, Nat.reduceSub, and_true, true_and, and_false, false_and, or_true, true_or, or_false, false_or, if_true, if_false, eq_self, not_true, not_false_eq_true, e]; rfl
    · simp (disch := first | assumption | omega) only [sx, if_pos, if_neg, bnd, Nat.reduceEqDiff, Nat.reduceAdd, Nat.reduceMul, Nat.reduceSub, and_true, true_and, and_false, false_and, or_true, true_or, or_false, false_or, if_true, if_false, eq_self, not_true, not_false_eq_true]
      exact ih (i + 1) F (by omega) (by omega)
theorem findResource_ok {w : Int64} {s : ts} {l : List Int64} (hc : l.length ≤ 8) (h : nb s 1110 89 l) : cR_findResource w s = some (oi (-1) (ix l w), s) := by
  unfold cR_findResource
  have := findResource_lp (w := w) hc h.1 l.length 0 tm_N (by omega) (by unfold tm_N; omega)
  rw [ixf_ix (l := l) (i := 0) (fun k hk => by rw [Nat.zero_add]; exact h.2 k hk)] at this
  rw [show (0 : Int32) = nI 0 from rfl, this]
  cases ix l w with
  | none => rfl
  | some j => show some (nI (0 + j), s) = _; rw [Nat.zero_add]; rfl

theorem findStore_lp {w : Int64} {s : ts} {c : Nat} (hc : c ≤ 6) (h : gI s 1113 0 = nI c) : ∀ (f i F : Nat), i + f = c → f < F → cR_findStore_2 F w (nI i) s = some (oi (-1) (ixf (gB s 91) w f i), s) := by
  intro f
  induction f with
  | zero =>
    intro i F hi hF
    obtain ⟨F, rfl⟩ : ∃ G, F = G + 1 := ⟨F - 1, by omega⟩
    rw [cR_findStore_2.eq_2]
    unfold cR_findStore_2_b ixf oi
    simp (disch := first | assumption | omega) only [sx, if_pos, if_neg, bnd, Nat.reduceEqDiff, Nat.reduceAdd, Nat.reduceMul, Nat.reduceSub, and_true, true_and, and_false, false_and, or_true, true_or, or_false, false_or, if_true, if_false, eq_self, not_true, not_false_eq_true, h]
  | succ f ih =>
    intro i F hi hF
    obtain ⟨F, rfl⟩ : ∃ G, F = G + 1 := ⟨F - 1, by omega⟩
    rw [cR_findStore_2.eq_2]
    unfold cR_findStore_2_b ixf
    simp (disch := first | assumption | omega) only [sx, if_pos, if_neg, bnd, Nat.reduceEqDiff, Nat.reduceAdd, Nat.reduceMul, Nat.reduceSub, and_true, true_and, and_false, false_and, or_true, true_or, or_false, false_or, if_true, if_false, eq_self, not_true, not_false_eq_true, h]
    by_cases e : gB s 91 i = w
    · simp (disch := first | assumption | omega) only [sx, if_pos, if_neg, bnd, Nat.reduceEqDiff, Nat.reduceAdd, Nat.reduceMul, Nat.reduceSub, and_true, true_and, and_false, false_and, or_true, true_or, or_false, false_or, if_true, if_false, eq_self, not_true, not_false_eq_true, e]; rfl
    · simp (disch := first | assumption | omega) only [sx, if_pos, if_neg, bnd, Nat.reduceEqDiff, Nat.reduceAdd, Nat.reduceMul, Nat.reduceSub, and_true, true_and, and_false, false_and, or_true, true_or, or_false, false_or, if_true, if_false, eq_self, not_true, not_false_eq_true]
      exact ih (i + 1) F (by omega) (by omega)
theorem findStore_ok {w : Int64} {s : ts} {l : List Int64} (hc : l.length ≤ 6) (h : nb s 1113 91 l) : cR_findStore w s = some (oi (-1) (ix l w), s) := by
  unfold cR_findStore
  have := findStore_lp (w := w) hc h.1 l.length 0 tm_N (by omega) (by unfold tm_N; omega)
  rw [ixf_ix (l := l) (i := 0) (fun k hk => by rw [Nat.zero_add]; exact h.2 k hk)] at this
  rw [show (0 : Int32) = nI 0 from rfl, this]
  cases ix l w with
  | none => rfl
  | some j => show some (nI (0 + j), s) = _; rw [Nat.zero_add]; rfl

theorem findNumber_lp {w : Int64} {s : ts} {c : Nat} (hc : c ≤ 16) (h : gI s 1117 0 = nI c) : ∀ (f i F : Nat), i + f = c → f < F → cR_findNumber_2 F w (nI i) s = some (oi (-1) (ixf (gB s 94) w f i), s) := by
  intro f
  induction f with
  | zero =>
    intro i F hi hF
    obtain ⟨F, rfl⟩ : ∃ G, F = G + 1 := ⟨F - 1, by omega⟩
    rw [cR_findNumber_2.eq_2]
    unfold cR_findNumber_2_b ixf oi
    simp (disch := first | assumption | omega) only [sx, if_pos, if_neg, bnd, Nat.reduceEqDiff, Nat.reduceAdd, Nat.reduceMul, Nat.reduceSub, and_true, true_and, and_false, false_and, or_true, true_or, or_false, false_or, if_true, if_false, eq_self, not_true, not_false_eq_true, h]
  | succ f ih =>
    intro i F hi hF
    obtain ⟨F, rfl⟩ : ∃ G, F = G + 1 := ⟨F - 1, by omega⟩
    rw [cR_findNumber_2.eq_2]
    unfold cR_findNumber_2_b ixf
    simp (disch := first | assumption | omega) only [sx, if_pos, if_neg, bnd, Nat.reduceEqDiff, Nat.reduceAdd, Nat.reduceMul, Nat.reduceSub, and_true, true_and, and_false, false_and, or_true, true_or, or_false, false_or, if_true, if_false, eq_self, not_true, not_false_eq_true, h]
    by_cases e : gB s 94 i = w
    · simp (disch := first | assumption | omega) only [sx, if_pos, if_neg, bnd, Nat.reduceEqDiff, Nat.reduceAdd, Nat.reduceMul, Nat.reduceSub, and_true, true_and, and_false, false_and, or_true, true_or, or_false, false_or, if_true, if_false, eq_self, not_true, not_false_eq_true, e]; rfl
    · simp (disch := first | assumption | omega) only [sx, if_pos, if_neg, bnd, Nat.reduceEqDiff, Nat.reduceAdd, Nat.reduceMul, Nat.reduceSub, and_true, true_and, and_false, false_and, or_true, true_or, or_false, false_or, if_true, if_false, eq_self, not_true, not_false_eq_true]
      exact ih (i + 1) F (by omega) (by omega)
theorem findNumber_ok {w : Int64} {s : ts} {l : List Int64} (hc : l.length ≤ 16) (h : nb s 1117 94 l) : cR_findNumber w s = some (oi (-1) (ix l w), s) := by
  unfold cR_findNumber
  have := findNumber_lp (w := w) hc h.1 l.length 0 tm_N (by omega) (by unfold tm_N; omega)
  rw [ixf_ix (l := l) (i := 0) (fun k hk => by rw [Nat.zero_add]; exact h.2 k hk)] at this
  rw [show (0 : Int32) = nI 0 from rfl, this]
  cases ix l w with
  | none => rfl
  | some j => show some (nI (0 + j), s) = _; rw [Nat.zero_add]; rfl

theorem findDefinition_lp {w : Int64} {s : ts} {c : Nat} (hc : c ≤ 12) (h : gI s 1119 0 = nI c) : ∀ (f i F : Nat), i + f = c → f < F → cR_findDefinition_2 F w (nI i) s = some (oi (-1) (ixf (gB s 95) w f i), s) := by
  intro f
  induction f with
  | zero =>
    intro i F hi hF
    obtain ⟨F, rfl⟩ : ∃ G, F = G + 1 := ⟨F - 1, by omega⟩
    rw [cR_findDefinition_2.eq_2]
    unfold cR_findDefinition_2_b ixf oi
    simp (disch := first | assumption | omega) only [sx, if_pos, if_neg, bnd, Nat.reduceEqDiff, Nat.reduceAdd, Nat.reduceMul, Nat.reduceSub, and_true, true_and, and_false, false_and, or_true, true_or, or_false, false_or, if_true, if_false, eq_self, not_true, not_false_eq_true, h]
  | succ f ih =>
    intro i F hi hF
    obtain ⟨F, rfl⟩ : ∃ G, F = G + 1 := ⟨F - 1, by omega⟩
    rw [cR_findDefinition_2.eq_2]
    unfold cR_findDefinition_2_b ixf
    simp (disch := first | assumption | omega) only [sx, if_pos, if_neg, bnd, Nat.reduceEqDiff, Nat.reduceAdd, Nat.reduceMul, Nat.reduceSub, and_true, true_and, and_false, false_and, or_true, true_or, or_false, false_or, if_true, if_false, eq_self, not_true, not_false_eq_true, h]
    by_cases e : gB s 95 i = w
    · simp (disch := first | assumption | omega) only [sx, if_pos, if_neg, bnd, Nat.reduceEqDiff, Nat.reduceAdd, Nat.reduceMul, Nat.reduceSub, and_true, true_and, and_false, false_and, or_true, true_or, or_false, false_or, if_true, if_false, eq_self, not_true, not_false_eq_true, e]; rfl
    · simp (disch := first | assumption | omega) only [sx, if_pos, if_neg, bnd, Nat.reduceEqDiff, Nat.reduceAdd, Nat.reduceMul, Nat.reduceSub, and_true, true_and, and_false, false_and, or_true, true_or, or_false, false_or, if_true, if_false, eq_self, not_true, not_false_eq_true]
      exact ih (i + 1) F (by omega) (by omega)
theorem findDefinition_ok {w : Int64} {s : ts} {l : List Int64} (hc : l.length ≤ 12) (h : nb s 1119 95 l) : cR_findDefinition w s = some (oi (-1) (ix l w), s) := by
  unfold cR_findDefinition
  have := findDefinition_lp (w := w) hc h.1 l.length 0 tm_N (by omega) (by unfold tm_N; omega)
  rw [ixf_ix (l := l) (i := 0) (fun k hk => by rw [Nat.zero_add]; exact h.2 k hk)] at this
  rw [show (0 : Int32) = nI 0 from rfl, this]
  cases ix l w with
  | none => rfl
  | some j => show some (nI (0 + j), s) = _; rw [Nat.zero_add]; rfl

theorem findLocal_lp {w : Int64} {s : ts} {c : Nat} (hc : c ≤ 8) (h : gI s 1123 0 = nI c) : ∀ (f i F : Nat), i + f = c → f < F → cR_findLocal_2 F w (nI i) s = some (oi (-1) (ixf (gB s 98) w f i), s) := by
  intro f
  induction f with
  | zero =>
    intro i F hi hF
    obtain ⟨F, rfl⟩ : ∃ G, F = G + 1 := ⟨F - 1, by omega⟩
    rw [cR_findLocal_2.eq_2]
    unfold cR_findLocal_2_b ixf oi
    simp (disch := first | assumption | omega) only [sx, if_pos, if_neg, bnd, Nat.reduceEqDiff, Nat.reduceAdd, Nat.reduceMul, Nat.reduceSub, and_true, true_and, and_false, false_and, or_true, true_or, or_false, false_or, if_true, if_false, eq_self, not_true, not_false_eq_true, h]
  | succ f ih =>
    intro i F hi hF
    obtain ⟨F, rfl⟩ : ∃ G, F = G + 1 := ⟨F - 1, by omega⟩
    rw [cR_findLocal_2.eq_2]
    unfold cR_findLocal_2_b ixf
    simp (disch := first | assumption | omega) only [sx, if_pos, if_neg, bnd, Nat.reduceEqDiff, Nat.reduceAdd, Nat.reduceMul, Nat.reduceSub, and_true, true_and, and_false, false_and, or_true, true_or, or_false, false_or, if_true, if_false, eq_self, not_true, not_false_eq_true, h]
    by_cases e : gB s 98 i = w
    · simp (disch := first | assumption | omega) only [sx, if_pos, if_neg, bnd, Nat.reduceEqDiff, Nat.reduceAdd, Nat.reduceMul, Nat.reduceSub, and_true, true_and, and_false, false_and, or_true, true_or, or_false, false_or, if_true, if_false, eq_self, not_true, not_false_eq_true, e]; rfl
    · simp (disch := first | assumption | omega) only [sx, if_pos, if_neg, bnd, Nat.reduceEqDiff, Nat.reduceAdd, Nat.reduceMul, Nat.reduceSub, and_true, true_and, and_false, false_and, or_true, true_or, or_false, false_or, if_true, if_false, eq_self, not_true, not_false_eq_true]
      exact ih (i + 1) F (by omega) (by omega)
theorem findLocal_ok {w : Int64} {s : ts} {l : List Int64} (hc : l.length ≤ 8) (h : nb s 1123 98 l) : cR_findLocal w s = some (oi (-1) (ix l w), s) := by
  unfold cR_findLocal
  have := findLocal_lp (w := w) hc h.1 l.length 0 tm_N (by omega) (by unfold tm_N; omega)
  rw [ixf_ix (l := l) (i := 0) (fun k hk => by rw [Nat.zero_add]; exact h.2 k hk)] at this
  rw [show (0 : Int32) = nI 0 from rfl, this]
  cases ix l w with
  | none => rfl
  | some j => show some (nI (0 + j), s) = _; rw [Nat.zero_add]; rfl

-- the program's table
def tv (n : Nat) : List (Nat × Nat) := (List.range n).map (fun r => (4, r))
theorem tv_succ (n : Nat) : tv (n + 1) = tv n ++ [(4, n)] := by unfold tv; rw [List.range_succ, List.map_append]; rfl
theorem tv_len (n : Nat) : (tv n).length = n := by unfold tv; simp
def nmx (q : Nat) : Nat := if q = 0 then 8 else if q = 1 then 6 else if q = 2 then 16 else if q = 3 then 12 else 8
/-- the program's names: T tells sort and rank of each word but the variables, which come last -/
def NA (s : ts) (L : Nat → List Int64) (T : List (Nat × Nat)) : Prop := (gI s 203 0 = nI (T ++ tv (L 4).length).length) ∧ (∀ q, q < 5 → gA s 16 q = nI (L q).length) ∧ (∀ q, q < 5 → (L q).length ≤ nmx q) ∧ (∀ i x, (T ++ tv (L 4).length)[i]? = some x → gA s 14 i = nI x.1 ∧ gA s 15 i = nI x.2 ∧ x.1 < 5 ∧ (L x.1)[x.2]? = some (gB s 13 i)) ∧ (∀ q r, q < 4 → r < (L q).length → (q, r) ∈ T) ∧ (∀ x, x ∈ T → x.1 < 4) ∧ (T.length = (L 0).length + (L 1).length + (L 2).length + (L 3).length)
theorem NA.n {s : ts} {L : Nat → List Int64} {T : List (Nat × Nat)} (h : NA s L T) : gI s 203 0 = nI (T ++ tv (L 4).length).length := h.1
theorem NA.c {s : ts} {L : Nat → List Int64} {T : List (Nat × Nat)} (h : NA s L T) : ∀ q, q < 5 → gA s 16 q = nI (L q).length := h.2.1
theorem NA.m {s : ts} {L : Nat → List Int64} {T : List (Nat × Nat)} (h : NA s L T) : ∀ q, q < 5 → (L q).length ≤ nmx q := h.2.2.1
theorem NA.t {s : ts} {L : Nat → List Int64} {T : List (Nat × Nat)} (h : NA s L T) : ∀ i x, (T ++ tv (L 4).length)[i]? = some x → gA s 14 i = nI x.1 ∧ gA s 15 i = nI x.2 ∧ x.1 < 5 ∧ (L x.1)[x.2]? = some (gB s 13 i) := h.2.2.2.1
theorem NA.k {s : ts} {L : Nat → List Int64} {T : List (Nat × Nat)} (h : NA s L T) : ∀ q r, q < 4 → r < (L q).length → (q, r) ∈ T := h.2.2.2.2.1
theorem NA.v {s : ts} {L : Nat → List Int64} {T : List (Nat × Nat)} (h : NA s L T) : ∀ x, x ∈ T → x.1 < 4 := h.2.2.2.2.2.1
theorem NA.e {s : ts} {L : Nat → List Int64} {T : List (Nat × Nat)} (h : NA s L T) : T.length = (L 0).length + (L 1).length + (L 2).length + (L 3).length := h.2.2.2.2.2.2
/-- no word is told twice, but that a variable may hide a number -/
def ND (L : Nat → List Int64) : Prop := ∀ (q q' r r' : Nat) (w : Int64), (L q)[r]? = some w → (L q')[r']? = some w → (q = q' ∧ r = r') ∨ (q = 4 ∧ q' = 2) ∨ (q = 2 ∧ q' = 4)
theorem NA.len {s : ts} {L : Nat → List Int64} {T : List (Nat × Nat)} (h : NA s L T) : (T ++ tv (L 4).length).length ≤ 50 := by
  have h0 : (L 0).length ≤ 8 := h.m 0 (by omega)
  have h1 : (L 1).length ≤ 6 := h.m 1 (by omega)
  have h2 : (L 2).length ≤ 16 := h.m 2 (by omega)
  have h3 : (L 3).length ≤ 12 := h.m 3 (by omega)
  have h4 : (L 4).length ≤ 8 := h.m 4 (by omega)
  have := h.e
  rw [List.length_append, tv_len]
  omega
/-- every place of the table has its word, and the other way round -/
theorem NA.at {s : ts} {L : Nat → List Int64} {T : List (Nat × Nat)} (h : NA s L T) {i : Nat} (hi : i < (T ++ tv (L 4).length).length) : ∃ q r, q < 5 ∧ gA s 14 i = nI q ∧ gA s 15 i = nI r ∧ (L q)[r]? = some (gB s 13 i) ∧ (T ++ tv (L 4).length)[i]? = some (q, r) := by
  have e := List.getElem?_eq_getElem hi
  obtain ⟨h1, h2, h3, h4⟩ := h.t i _ e
  exact ⟨_, _, h3, h1, h2, h4, e⟩
theorem NA.of {s : ts} {L : Nat → List Int64} {T : List (Nat × Nat)} (h : NA s L T) {q r : Nat} {w : Int64} (hq : q < 5) (hw : (L q)[r]? = some w) : ∃ i, i < (T ++ tv (L 4).length).length ∧ gA s 14 i = nI q ∧ gA s 15 i = nI r ∧ gB s 13 i = w := by
  have hr : r < (L q).length := by
    apply Classical.byContradiction
    intro z
    rw [List.getElem?_eq_none (by omega)] at hw
    cases hw
  have hm : (q, r) ∈ T ++ tv (L 4).length := by
    by_cases h4 : q = 4
    · subst h4
      refine List.mem_append_right _ ?_
      unfold tv
      exact List.mem_map.mpr ⟨r, List.mem_range.mpr hr, rfl⟩
    · exact List.mem_append_left _ (h.k q r (by omega) hr)
  obtain ⟨i, hi, e⟩ := List.getElem_of_mem hm
  obtain ⟨h1, h2, h3, h4⟩ := h.t i (q, r) (by rw [List.getElem?_eq_getElem hi, e])
  refine ⟨i, hi, h1, h2, ?_⟩
  dsimp only at h4
  rw [hw] at h4
  exact (Option.some.inj h4).symm
theorem ND.un {L : Nat → List Int64} (hd : ND L) {q r r' : Nat} {w : Int64} (h1 : (L q)[r]? = some w) (h2 : (L q)[r']? = some w) : r = r' := by
  rcases hd q q r r' w h1 h2 with z | z | z
  · exact z.2
  · omega
  · omega
theorem ix_eq {l : List Int64} {w : Int64} {r : Nat} (hu : ∀ k, l[k]? = some w → k = r) (h : l[r]? = some w) : ix l w = some r := by
  cases hx : ix l w with
  | none => exact absurd h (ix_none hx)
  | some k => rw [hu k (ix_some hx).1]
theorem find_lp1 {w : Int64} {q c : Nat} {s : ts} (hc : c ≤ 50) (h : gI s 203 0 = nI c) : ∀ (f i F : Nat), i + f = c → f < F → ∃ v, cG_find_3 F w (nI q) (nI i) s = some (v, s) ∧ ((∃ k, k < c ∧ gB s 13 k = w ∧ gA s 14 k = nI q ∧ v = gA s 15 k) ∨ (v = -2 ∧ ∀ k, i ≤ k → k < c → ¬ (gB s 13 k = w ∧ gA s 14 k = nI q))) := by
  intro f
  induction f with
  | zero =>
    intro i F hi hF
    obtain ⟨F, rfl⟩ : ∃ G, F = G + 1 := ⟨F - 1, by omega⟩
    rw [cG_find_3.eq_2]
    unfold cG_find_3_b
    refine ⟨-2, ?_, Or.inr ⟨rfl, fun k hk1 hk2 => by omega⟩⟩
    simp (disch := first | assumption | omega) only [sx, if_pos, if_neg, bnd, Nat.reduceEqDiff, Nat.reduceAdd, Nat.reduceMul, Nat.reduceSub, and_true, true_and, and_false, false_and, or_true, true_or, or_false, false_or, if_true, if_false, eq_self, not_true, not_false_eq_true, h]
  | succ f ih =>
    intro i F hi hF
    obtain ⟨F, rfl⟩ : ∃ G, F = G + 1 := ⟨F - 1, by omega⟩
    rw [cG_find_3.eq_2]
    unfold cG_find_3_b
    obtain ⟨v, g1, g2⟩ := ih (i + 1) F (by omega) (by omega)
    by_cases e : gB s 13 i = w ∧ gA s 14 i = nI q
    · exact ⟨gA s 15 i, by simp (disch := first | assumption | omega) only [sx, if_pos, if_neg, bnd, Nat.reduceEqDiff, Nat.reduceAdd, Nat.reduceMul, Nat.reduceSub, and_true, true_and, and_false, false_and, or_true, true_or, or_false, false_or, if_true, if_false, eq_self, not_true, not_false_eq_true, h, e.1, e.2], Or.inl ⟨i, by omega, e.1, e.2, rfl⟩⟩
    · refine ⟨v, ?_, ?_⟩
      · simp (disch := first | assumption | omega) only [sx, if_pos, if_neg, bnd, Nat.reduceEqDiff, Nat.reduceAdd, Nat.reduceMul, Nat.reduceSub, and_true, true_and, and_false, false_and, or_true, true_or, or_false, false_or, if_true, if_false, eq_self, not_true, not_false_eq_true, h]
        by_cases e1 : gB s 13 i = w
        · have e2 : ¬ gA s 14 i = nI q := fun z => e ⟨e1, z⟩
          simp (disch := first | assumption | omega) only [sx, if_pos, if_neg, bnd, Nat.reduceEqDiff, Nat.reduceAdd, Nat.reduceMul, Nat.reduceSub, and_true, true_and, and_false, false_and, or_true, true_or, or_false, false_or, if_true, if_false, eq_self, not_true, not_false_eq_true, g1]
        · simp (disch := first | assumption | omega) only [sx, if_pos, if_neg, bnd, Nat.reduceEqDiff, Nat.reduceAdd, Nat.reduceMul, Nat.reduceSub, and_true, true_and, and_false, false_and, or_true, true_or, or_false, false_or, if_true, if_false, eq_self, not_true, not_false_eq_true, g1]
      · rcases g2 with z | z
        · exact Or.inl z
        · refine Or.inr ⟨z.1, fun k hk1 hk2 => ?_⟩
          by_cases ek : k = i
          · rw [ek]; exact e
          · exact z.2 k (by omega) hk2
theorem find_ok1 {s : ts} {L : Nat → List Int64} {T : List (Nat × Nat)} (h : NA s L T) (hd : ND L) {q : Nat} (hq : q < 5) (w : Int64) : cG_find w (nI q) s = some (oi (-2) (ix (L q) w), s) := by
  obtain ⟨v, g1, g2⟩ := find_lp1 (w := w) (q := q) h.len h.n _ 0 tm_N (Nat.zero_add _) (by have := h.len; unfold tm_N; omega)
  unfold cG_find
  rw [show (0 : Int32) = nI 0 from rfl, g1]
  rcases g2 with ⟨k, k1, k2, k3, k4⟩ | ⟨z1, z2⟩
  · obtain ⟨q', r, a1, a2, a3, a4, a5⟩ := h.at k1
    have eq : q' = q := nI_inj (by omega) (by omega) (a2.symm.trans k3)
    subst eq
    rw [k2] at a4
    rw [ix_eq (fun k hk => hd.un hk a4) a4, k4, a3]
    rfl
  · rw [z1]
    cases hx : ix (L q) w with
    | none => rfl
    | some r =>
      obtain ⟨i, i1, i2, i3, i4⟩ := h.of hq (ix_some hx).1
      exact absurd ⟨i4, i2⟩ (z2 i (Nat.zero_le _) i1)
/-- a word that may not be told anew -/
def tkn1 (L : Nat → List Int64) (v : Bool) (w : Int64) : Bool := (ix (L 0) w).isSome || ((ix (L 1) w).isSome || ((ix (L 3) w).isSome || (if v = true then (ix (L 4) w).isSome else (ix (L 2) w).isSome)))
theorem taken_lp {w : Int64} {q c : Nat} {s : ts} (hq : q < 5) (hc : c ≤ 50) (h : gI s 203 0 = nI c) (hs : ∀ i, i < c → ∃ x, x < 5 ∧ gA s 14 i = nI x) : ∀ (f i F : Nat), i + f = c → f < F → ∃ v, cG_isTaken_3 F w (nI q) (nI i) s = some (bI v, s) ∧ ((v = true ∧ ∃ k, k < c ∧ gB s 13 k = w ∧ ¬ (q = 4 ∧ gA s 14 k = nI 2)) ∨ (v = false ∧ ∀ k, i ≤ k → k < c → gB s 13 k = w → (q = 4 ∧ gA s 14 k = nI 2))) := by
  intro f
  induction f with
  | zero =>
    intro i F hi hF
    obtain ⟨F, rfl⟩ : ∃ G, F = G + 1 := ⟨F - 1, by omega⟩
    rw [cG_isTaken_3.eq_2]
    unfold cG_isTaken_3_b
    refine ⟨false, ?_, Or.inr ⟨rfl, fun k hk1 hk2 => by omega⟩⟩
    simp (disch := first | assumption | omega) only [sx, if_pos, if_neg, bnd, Nat.reduceEqDiff, Nat.reduceAdd, Nat.reduceMul, Nat.reduceSub, and_true, true_and, and_false, false_and, or_true, true_or, or_false, false_or, if_true, if_false, eq_self, not_true, not_false_eq_true, h]; rfl
  | succ f ih =>
    intro i F hi hF
    obtain ⟨F, rfl⟩ : ∃ G, F = G + 1 := ⟨F - 1, by omega⟩
    obtain ⟨x, hx, hsx⟩ := hs i (by omega)
    rw [cG_isTaken_3.eq_2]
    unfold cG_isTaken_3_b cG_isTaken_33
    obtain ⟨v, g1, g2⟩ := ih (i + 1) F (by omega) (by omega)
    have no : (gB s 13 i = w → (q = 4 ∧ gA s 14 i = nI 2)) → ((v = true ∧ ∃ k, k < c ∧ gB s 13 k = w ∧ ¬ (q = 4 ∧ gA s 14 k = nI 2)) ∨ (v = false ∧ ∀ k, i ≤ k → k < c → gB s 13 k = w → (q = 4 ∧ gA s 14 k = nI 2))) := by
      intro e
      rcases g2 with z | z
      · exact Or.inl z
      · refine Or.inr ⟨z.1, fun k hk1 hk2 => ?_⟩
        by_cases ek : k = i
        · rw [ek]; exact e
        · exact z.2 k (by omega) hk2
    by_cases ew : gB s 13 i = w
    · by_cases e4 : q = 4
      · by_cases e2 : x = 2
        · refine ⟨v, ?_, no (fun _ => ⟨e4, by rw [hsx, e2]⟩)⟩
          simp (disch := first | assumption | omega) only [sx, if_pos, if_neg, bnd, Nat.reduceEqDiff, Nat.reduceAdd, Nat.reduceMul, Nat.reduceSub, and_true, true_and, and_false, false_and, or_true, true_or, or_false, false_or, if_true, if_false, eq_self, not_true, not_false_eq_true, h, hsx, ew, g1]
        · refine ⟨true, ?_, Or.inl ⟨rfl, i, by omega, ew, fun z => e2 (nI_inj (by omega) (by decide) (hsx.symm.trans z.2))⟩⟩
          simp (disch := first | assumption | omega) only [sx, if_pos, if_neg, bnd, Nat.reduceEqDiff, Nat.reduceAdd, Nat.reduceMul, Nat.reduceSub, and_true, true_and, and_false, false_and, or_true, true_or, or_false, false_or, if_true, if_false, eq_self, not_true, not_false_eq_true, h, hsx, ew]; rfl
      · refine ⟨true, ?_, Or.inl ⟨rfl, i, by omega, ew, fun z => e4 z.1⟩⟩
        simp (disch := first | assumption | omega) only [sx, if_pos, if_neg, bnd, Nat.reduceEqDiff, Nat.reduceAdd, Nat.reduceMul, Nat.reduceSub, and_true, true_and, and_false, false_and, or_true, true_or, or_false, false_or, if_true, if_false, eq_self, not_true, not_false_eq_true, h, ew]; rfl
    · refine ⟨v, ?_, no (fun z => absurd z ew)⟩
      by_cases e4 : q = 4
      · by_cases e2 : x = 2
        · simp (disch := first | assumption | omega) only [sx, if_pos, if_neg, bnd, Nat.reduceEqDiff, Nat.reduceAdd, Nat.reduceMul, Nat.reduceSub, and_true, true_and, and_false, false_and, or_true, true_or, or_false, false_or, if_true, if_false, eq_self, not_true, not_false_eq_true, h, hsx, g1]
        · simp (disch := first | assumption | omega) only [sx, if_pos, if_neg, bnd, Nat.reduceEqDiff, Nat.reduceAdd, Nat.reduceMul, Nat.reduceSub, and_true, true_and, and_false, false_and, or_true, true_or, or_false, false_or, if_true, if_false, eq_self, not_true, not_false_eq_true, h, hsx, g1]
      · simp (disch := first | assumption | omega) only [sx, if_pos, if_neg, bnd, Nat.reduceEqDiff, Nat.reduceAdd, Nat.reduceMul, Nat.reduceSub, and_true, true_and, and_false, false_and, or_true, true_or, or_false, false_or, if_true, if_false, eq_self, not_true, not_false_eq_true, h, g1]
theorem taken_ok {s : ts} {L : Nat → List Int64} {T : List (Nat × Nat)} (h : NA s L T) {q : Nat} (hq : q < 5) (hv : q < 4 → L 4 = []) (w : Int64) : cG_isTaken w (nI q) s = some (bI (tkn1 L (Nat.beq q 4) w), s) := by
  obtain ⟨v, g1, g2⟩ := taken_lp (w := w) (q := q) hq h.len h.n (fun i hi => by obtain ⟨x, _, x1, x2, _⟩ := h.at hi; exact ⟨x, x1, x2⟩) _ 0 tm_N (Nat.zero_add _) (by have := h.len; unfold tm_N; omega)
  unfold cG_isTaken
  rw [show (0 : Int32) = nI 0 from rfl, g1]
  have key : v = tkn1 L (Nat.beq q 4) w := by
    rcases g2 with ⟨z1, k, k1, k2, k3⟩ | ⟨z1, z2⟩
    · rw [z1]
      obtain ⟨x, r, a1, a2, a3, a4, a5⟩ := h.at k1
      rw [k2] at a4
      have hx : (ix (L x) w).isSome = true := by
        cases hq : ix (L x) w with
        | none => exact absurd a4 (ix_none hq)
        | some _ => rfl
      unfold tkn1
      rcases (show x = 0 ∨ x = 1 ∨ x = 2 ∨ x = 3 ∨ x = 4 by omega) with rfl | rfl | rfl | rfl | rfl
      · rw [hx]; rfl
      · rw [hx, Bool.true_or, Bool.or_true]
      · have h4 : ¬ q = 4 := fun z => k3 ⟨z, a2⟩
        rw [beq_n h4, if_neg (by decide), hx, Bool.or_true, Bool.or_true, Bool.or_true]
      · rw [hx, Bool.true_or, Bool.or_true, Bool.or_true]
      · by_cases h4 : q = 4
        · rw [h4, if_pos (show Nat.beq 4 4 = true from rfl), hx, Bool.or_true, Bool.or_true, Bool.or_true]
        · rw [hv (by omega)] at a4; cases a4
    · rw [z1]
      have no : ∀ x, x < 5 → ¬ (q = 4 ∧ x = 2) → (ix (L x) w).isSome = false := by
        intro x hx hn
        cases hq : ix (L x) w with
        | none => rfl
        | some r =>
          obtain ⟨i, i1, i2, i3, i4⟩ := h.of hx (ix_some hq).1
          have := z2 i (Nat.zero_le _) i1 i4
          exact absurd ⟨this.1, nI_inj (by omega) (by decide) (i2.symm.trans this.2)⟩ hn
      unfold tkn1
      rw [no 0 (by omega) (by omega), no 1 (by omega) (by omega), no 3 (by omega) (by omega)]
      by_cases h4 : q = 4
      · rw [h4, if_pos (show Nat.beq 4 4 = true from rfl), no 4 (by omega) (by omega)]; rfl
      · rw [beq_n h4, if_neg (by decide), no 2 (by omega) (by omega)]; rfl
  rw [key]

/-- a word that means a value: a variable, or a number behind all variables -/
def fv (L : Nat → List Int64) (w : Int64) : Option Nat := match ix (L 4) w with
  | some r => some r
  | none => (ix (L 2) w).map (8 + ·)
theorem fv_lt {s : ts} {L : Nat → List Int64} {T : List (Nat × Nat)} (h : NA s L T) {w : Int64} {k : Nat} (hk : fv L w = some k) : k < 24 := by
  have h2 : (L 2).length ≤ 16 := h.m 2 (by omega)
  have h4 : (L 4).length ≤ 8 := h.m 4 (by omega)
  unfold fv at hk
  cases h5 : ix (L 4) w with
  | some r => rw [h5] at hk; cases hk; have := (ix_some h5).2; omega
  | none =>
    rw [h5] at hk
    cases h6 : ix (L 2) w with
    | none => rw [h6] at hk; cases hk
    | some r => rw [h6] at hk; have := (ix_some h6).2; have e : 8 + r = k := Option.some.inj hk; omega
theorem value_lp {w : Int64} {c : Nat} {s : ts} (hc : c ≤ 50) : ∀ (f F : Nat), f ≤ c → f < F → ∃ v, cG_findValue_7 F w (nI f - 1) s = some (v, s) ∧ ((∃ k, k < f ∧ gB s 13 k = w ∧ (∀ j, k < j → j < f → ¬ (gB s 13 j = w ∧ (gA s 14 j = nI 4 ∨ gA s 14 j = nI 2))) ∧ ((gA s 14 k = nI 4 ∧ v = gA s 15 k) ∨ (¬ gA s 14 k = nI 4 ∧ gA s 14 k = nI 2 ∧ v = nI 8 + gA s 15 k))) ∨ (v = -2 ∧ ∀ j, j < f → ¬ (gB s 13 j = w ∧ (gA s 14 j = nI 4 ∨ gA s 14 j = nI 2)))) := by
  intro f
  induction f with
  | zero =>
    intro F hi hF
    obtain ⟨F, rfl⟩ : ∃ G, F = G + 1 := ⟨F - 1, by omega⟩
    rw [cG_findValue_7.eq_2]
    unfold cG_findValue_7_b
    exact ⟨-2, if_pos (by decide), Or.inr ⟨rfl, fun k hk => by omega⟩⟩
  | succ f ih =>
    intro F hi hF
    obtain ⟨F, rfl⟩ : ∃ G, F = G + 1 := ⟨F - 1, by omega⟩
    rw [cG_findValue_7.eq_2, nI_pred]
    unfold cG_findValue_7_b cG_findValue_39
    obtain ⟨v, g1, g2⟩ := ih F (by omega) (by omega)
    rw [show nI f + (-1 : Int32) = nI f - 1 from by rw [Int32.sub_eq_add_neg]]
    generalize nI f - 1 = z at *
    have no : ¬ (gB s 13 f = w ∧ (gA s 14 f = nI 4 ∨ gA s 14 f = nI 2)) → ((∃ k, k < f + 1 ∧ gB s 13 k = w ∧ (∀ j, k < j → j < f + 1 → ¬ (gB s 13 j = w ∧ (gA s 14 j = nI 4 ∨ gA s 14 j = nI 2))) ∧ ((gA s 14 k = nI 4 ∧ v = gA s 15 k) ∨ (¬ gA s 14 k = nI 4 ∧ gA s 14 k = nI 2 ∧ v = nI 8 + gA s 15 k))) ∨ (v = -2 ∧ ∀ j, j < f + 1 → ¬ (gB s 13 j = w ∧ (gA s 14 j = nI 4 ∨ gA s 14 j = nI 2)))) := by
      intro e
      rcases g2 with ⟨k, k1, k2, k3, k4⟩ | ⟨z1, z2⟩
      · refine Or.inl ⟨k, by omega, k2, fun j j1 j2 => ?_, k4⟩
        by_cases ej : j = f
        · rw [ej]; exact e
        · exact k3 j j1 (by omega)
      · refine Or.inr ⟨z1, fun j j1 => ?_⟩
        by_cases ej : j = f
        · rw [ej]; exact e
        · exact z2 j (by omega)
    by_cases ew : gB s 13 f = w
    · by_cases e4 : gA s 14 f = nI 4
      · refine ⟨gA s 15 f, ?_, Or.inl ⟨f, by omega, ew, fun j j1 j2 => by omega, Or.inl ⟨e4, rfl⟩⟩⟩
        simp (disch := first | assumption | omega) only [sx, if_pos, if_neg, bnd, Nat.reduceEqDiff, Nat.reduceAdd, Nat.reduceMul, Nat.reduceSub, and_true, true_and, and_false, false_and, or_true, true_or, or_false, false_or, if_true, if_false, eq_self, not_true, not_false_eq_true, ew, e4]
      · by_cases e2 : gA s 14 f = nI 2
        · refine ⟨nI 8 + gA s 15 f, ?_, Or.inl ⟨f, by omega, ew, fun j j1 j2 => by omega, Or.inr ⟨e4, e2, rfl⟩⟩⟩
          simp (disch := first | assumption | omega) only [sx, if_pos, if_neg, bnd, Nat.reduceEqDiff, Nat.reduceAdd, Nat.reduceMul, Nat.reduceSub, and_true, true_and, and_false, false_and, or_true, true_or, or_false, false_or, if_true, if_false, eq_self, not_true, not_false_eq_true, ew, e2]
        · refine ⟨v, ?_, no (fun z => by rcases z.2 with y | y; exact e4 y; exact e2 y)⟩
          simp (disch := first | assumption | omega) only [sx, if_pos, if_neg, bnd, Nat.reduceEqDiff, Nat.reduceAdd, Nat.reduceMul, Nat.reduceSub, and_true, true_and, and_false, false_and, or_true, true_or, or_false, false_or, if_true, if_false, eq_self, not_true, not_false_eq_true, ew, g1]
    · refine ⟨v, ?_, no (fun z => ew z.1)⟩
      simp (disch := first | assumption | omega) only [sx, if_pos, if_neg, bnd, Nat.reduceEqDiff, Nat.reduceAdd, Nat.reduceMul, Nat.reduceSub, and_true, true_and, and_false, false_and, or_true, true_or, or_false, false_or, if_true, if_false, eq_self, not_true, not_false_eq_true, g1]
theorem value_ok {s : ts} {L : Nat → List Int64} {T : List (Nat × Nat)} (h : NA s L T) (hd : ND L) (w : Int64) : cG_findValue w s = some (oi (-2) (fv L w), s) := by
  obtain ⟨v, g1, g2⟩ := value_lp (w := w) (s := s) h.len (T ++ tv (L 4).length).length tm_N (Nat.le_refl _) (by have := h.len; unfold tm_N; omega)
  unfold cG_findValue
  rw [h.n, g1]
  congr 2
  unfold fv
  rcases g2 with ⟨k, k1, k2, k3, k4⟩ | ⟨z1, z2⟩
  · obtain ⟨x, r, a1, a2, a3, a4, a5⟩ := h.at k1
    rw [k2] at a4
    rcases k4 with ⟨e4, ev⟩ | ⟨ne4, e2, ev⟩
    · have ex4 : x = 4 := nI_inj (by omega) (by decide) (a2.symm.trans e4)
      subst ex4
      rw [ix_eq (fun k hk => hd.un hk a4) a4, ev, a3]
      rfl
    · have ex2 : x = 2 := nI_inj (by omega) (by decide) (a2.symm.trans e2)
      subst ex2
      cases h4 : ix (L 4) w with
      | some r' =>
        exfalso
        have hw := ix_some h4
        -- a variable of this word stands behind the number
        have hT : k < T.length := by
          apply Classical.byContradiction
          intro hn
          rw [List.getElem?_append_right (by omega)] at a5
          unfold tv at a5
          rw [List.getElem?_map] at a5
          cases hr : (List.range (L 4).length)[k - T.length]? with
          | none => rw [hr] at a5; cases a5
          | some y => rw [hr] at a5; cases a5
        have hj : (T ++ tv (L 4).length)[T.length + r']? = some (4, r') := by
          rw [List.getElem?_append_right (by omega), Nat.add_sub_cancel_left]
          unfold tv
          rw [List.getElem?_map, List.getElem?_range hw.2]
          rfl
        obtain ⟨j1, j2, j3, j4⟩ := h.t _ _ hj
        dsimp only at j4
        rw [hw.1] at j4
        exact k3 (T.length + r') (by omega) (by rw [List.length_append, tv_len]; omega) ⟨(Option.some.inj j4).symm, Or.inl j1⟩
      | none =>
        rw [ix_eq (fun k hk => hd.un hk a4) a4, ev, a3, nI_add]
        rfl
  · rw [z1]
    cases h4 : ix (L 4) w with
    | some r =>
      obtain ⟨i, i1, i2, i3, i4⟩ := h.of (by omega) (ix_some h4).1
      exact absurd ⟨i4, Or.inl i2⟩ (z2 i i1)
    | none =>
      cases h2 : ix (L 2) w with
      | some r =>
        obtain ⟨i, i1, i2, i3, i4⟩ := h.of (by omega) (ix_some h2).1
        exact absurd ⟨i4, Or.inr i2⟩ (z2 i i1)
      | none => rfl
/-- a word that means a place: a resource, or a store behind all resources -/
def fp (L : Nat → List Int64) (a b : Bool) (w : Int64) : Option Nat := match (if a = true then ix (L 0) w else none) with
  | some r => some r
  | none => if b = true then (ix (L 1) w).map (8 + ·) else none
theorem place_lp {w : Int64} {c : Nat} {a b : Bool} {s : ts} (hc : c ≤ 50) (h : gI s 203 0 = nI c) : ∀ (f i F : Nat), i + f = c → f < F → ∃ v, cG_findPlace_3 F w (bI a) (bI b) (nI i) s = some (v, s) ∧ ((∃ k, k < c ∧ gB s 13 k = w ∧ ((a = true ∧ gA s 14 k = nI 0 ∧ v = gA s 15 k) ∨ (b = true ∧ gA s 14 k = nI 1 ∧ v = nI 8 + gA s 15 k))) ∨ (v = -2 ∧ ∀ k, i ≤ k → k < c → gB s 13 k = w → ¬ ((a = true ∧ gA s 14 k = nI 0) ∨ (b = true ∧ gA s 14 k = nI 1)))) := by
  intro f
  induction f with
  | zero =>
    intro i F hi hF
    obtain ⟨F, rfl⟩ : ∃ G, F = G + 1 := ⟨F - 1, by omega⟩
    rw [cG_findPlace_3.eq_2]
    unfold cG_findPlace_3_b
    refine ⟨-2, ?_, Or.inr ⟨rfl, fun k hk1 hk2 => by omega⟩⟩
    simp (disch := first | assumption | omega) only [sx, if_pos, if_neg, bnd, Nat.reduceEqDiff, Nat.reduceAdd, Nat.reduceMul, Nat.reduceSub, and_true, true_and, and_false, false_and, or_true, true_or, or_false, false_or, if_true, if_false, eq_self, not_true, not_false_eq_true, h]
  | succ f ih =>
    intro i F hi hF
    obtain ⟨F, rfl⟩ : ∃ G, F = G + 1 := ⟨F - 1, by omega⟩
    rw [cG_findPlace_3.eq_2]
    unfold cG_findPlace_3_b cG_findPlace_46
    obtain ⟨v, g1, g2⟩ := ih (i + 1) F (by omega) (by omega)
    have no : (gB s 13 i = w → ¬ ((a = true ∧ gA s 14 i = nI 0) ∨ (b = true ∧ gA s 14 i = nI 1))) → ((∃ k, k < c ∧ gB s 13 k = w ∧ ((a = true ∧ gA s 14 k = nI 0 ∧ v = gA s 15 k) ∨ (b = true ∧ gA s 14 k = nI 1 ∧ v = nI 8 + gA s 15 k))) ∨ (v = -2 ∧ ∀ k, i ≤ k → k < c → gB s 13 k = w → ¬ ((a = true ∧ gA s 14 k = nI 0) ∨ (b = true ∧ gA s 14 k = nI 1)))) := by
      intro e
      rcases g2 with z | z
      · exact Or.inl z
      · refine Or.inr ⟨z.1, fun k hk1 hk2 => ?_⟩
        by_cases ek : k = i
        · rw [ek]; exact e
        · exact z.2 k (by omega) hk2
    by_cases ew : gB s 13 i = w
    · by_cases e0 : gA s 14 i = nI 0
      · have n1 : ¬ gA s 14 i = nI 1 := by rw [e0]; decide
        cases a with
        | true =>
          refine ⟨gA s 15 i, ?_, Or.inl ⟨i, by omega, ew, Or.inl ⟨rfl, e0, rfl⟩⟩⟩
          simp (disch := first | assumption | omega) only [sx, if_pos, if_neg, bnd, Nat.reduceEqDiff, Nat.reduceAdd, Nat.reduceMul, Nat.reduceSub, and_true, true_and, and_false, false_and, or_true, true_or, or_false, false_or, if_true, if_false, eq_self, not_true, not_false_eq_true, h, ew, e0, bI_0, Bool.true_eq_false]
        | false =>
          refine ⟨v, ?_, no (fun _ z => by rcases z with y | y; cases y.1; exact n1 y.2)⟩
          simp (disch := first | assumption | omega) only [sx, if_pos, if_neg, bnd, Nat.reduceEqDiff, Nat.reduceAdd, Nat.reduceMul, Nat.reduceSub, and_true, true_and, and_false, false_and, or_true, true_or, or_false, false_or, if_true, if_false, eq_self, not_true, not_false_eq_true, h, ew, e0, bI_0, g1]
      · by_cases e1 : gA s 14 i = nI 1
        · cases b with
          | true =>
            refine ⟨nI 8 + gA s 15 i, ?_, Or.inl ⟨i, by omega, ew, Or.inr ⟨rfl, e1, rfl⟩⟩⟩
            simp (disch := first | assumption | omega) only [sx, if_pos, if_neg, bnd, Nat.reduceEqDiff, Nat.reduceAdd, Nat.reduceMul, Nat.reduceSub, and_true, true_and, and_false, false_and, or_true, true_or, or_false, false_or, if_true, if_false, eq_self, not_true, not_false_eq_true, h, ew, e1, bI_0, Bool.true_eq_false]
          | false =>
            refine ⟨v, ?_, no (fun _ z => by rcases z with y | y; exact e0 y.2; cases y.1)⟩
            simp (disch := first | assumption | omega) only [sx, if_pos, if_neg, bnd, Nat.reduceEqDiff, Nat.reduceAdd, Nat.reduceMul, Nat.reduceSub, and_true, true_and, and_false, false_and, or_true, true_or, or_false, false_or, if_true, if_false, eq_self, not_true, not_false_eq_true, h, ew, e1, bI_0, g1]
        · refine ⟨v, ?_, no (fun _ z => by rcases z with y | y; exact e0 y.2; exact e1 y.2)⟩
          simp (disch := first | assumption | omega) only [sx, if_pos, if_neg, bnd, Nat.reduceEqDiff, Nat.reduceAdd, Nat.reduceMul, Nat.reduceSub, and_true, true_and, and_false, false_and, or_true, true_or, or_false, false_or, if_true, if_false, eq_self, not_true, not_false_eq_true, h, ew, g1]
    · refine ⟨v, ?_, no (fun z => absurd z ew)⟩
      simp (disch := first | assumption | omega) only [sx, if_pos, if_neg, bnd, Nat.reduceEqDiff, Nat.reduceAdd, Nat.reduceMul, Nat.reduceSub, and_true, true_and, and_false, false_and, or_true, true_or, or_false, false_or, if_true, if_false, eq_self, not_true, not_false_eq_true, h, g1]
theorem place_ok {s : ts} {L : Nat → List Int64} {T : List (Nat × Nat)} (h : NA s L T) (hd : ND L) (a b : Bool) (w : Int64) : cG_findPlace w (bI a) (bI b) s = some (oi (-2) (fp L a b w), s) := by
  obtain ⟨v, g1, g2⟩ := place_lp (w := w) (a := a) (b := b) h.len h.n _ 0 tm_N (Nat.zero_add _) (by have := h.len; unfold tm_N; omega)
  unfold cG_findPlace
  rw [show (0 : Int32) = nI 0 from rfl, g1]
  congr 2
  unfold fp
  rcases g2 with ⟨k, k1, k2, k3⟩ | ⟨z1, z2⟩
  · obtain ⟨x, r, a1, a2, a3, a4, a5⟩ := h.at k1
    rw [k2] at a4
    rcases k3 with ⟨ea, e0, ev⟩ | ⟨eb, e1, ev⟩
    · have e : x = 0 := nI_inj (by omega) (by decide) (a2.symm.trans e0)
      subst e
      rw [if_pos ea, ix_eq (fun k hk => hd.un hk a4) a4, ev, a3]
      rfl
    · have e : x = 1 := nI_inj (by omega) (by decide) (a2.symm.trans e1)
      subst e
      have n0 : (if a = true then ix (L 0) w else none) = none := by
        split
        · cases hx : ix (L 0) w with
          | none => rfl
          | some r' =>
            rcases hd 0 1 r' r w (ix_some hx).1 a4 with z | z | z
            · omega
            · omega
            · omega
        · rfl
      rw [n0, if_pos eb, ix_eq (fun k hk => hd.un hk a4) a4, ev, a3, nI_add]
      rfl
  · rw [z1]
    have n0 : (if a = true then ix (L 0) w else none) = none := by
      split
      · rename_i ea
        cases hx : ix (L 0) w with
        | none => rfl
        | some r =>
          obtain ⟨i, i1, i2, i3, i4⟩ := h.of (by omega) (ix_some hx).1
          exact absurd (Or.inl ⟨ea, i2⟩) (z2 i (Nat.zero_le _) i1 i4)
      · rfl
    rw [n0]
    by_cases eb : b = true
    · rw [if_pos eb]
      cases hx : ix (L 1) w with
      | none => rfl
      | some r =>
        obtain ⟨i, i1, i2, i3, i4⟩ := h.of (by omega) (ix_some hx).1
        exact absurd (Or.inr ⟨eb, i2⟩) (z2 i (Nat.zero_le _) i1 i4)
    · rw [if_neg eb]; rfl
/-- a word is told -/
def Lu (L : Nat → List Int64) (q : Nat) (w : Int64) : Nat → List Int64 := fun k => if k = q then L q ++ [w] else L k
theorem addWord_ok {s : ts} {L : Nat → List Int64} {T : List (Nat × Nat)} (h : NA s L T) {q : Nat} (hq : q < 5) (hv : q < 4 → L 4 = []) (hm : (L q).length < nmx q) (w : Int64) : ∃ s1, cG_addWord w (nI q) s = some s1 ∧ NA s1 (Lu L q w) (if q = 4 then T else T ++ [(q, (L q).length)]) ∧ fr wf_cG_addWord s s1 := by
  have h0 : (L 0).length ≤ 8 := h.m 0 (by omega)
  have h1 : (L 1).length ≤ 6 := h.m 1 (by omega)
  have h2 : (L 2).length ≤ 16 := h.m 2 (by omega)
  have h3 : (L 3).length ≤ 12 := h.m 3 (by omega)
  have h4 : (L 4).length ≤ 8 := h.m 4 (by omega)
  have he := h.e
  have hlen := h.n
  have hl2 : (T ++ tv (L 4).length).length = T.length + (L 4).length := by rw [List.length_append, tv_len]
  have hlt : T.length + (L 4).length < 50 := by
    rcases (show q = 0 ∨ q = 1 ∨ q = 2 ∨ q = 3 ∨ q = 4 by omega) with rfl | rfl | rfl | rfl | rfl <;> (simp [nmx] at hm; omega)
  generalize hc : (T ++ tv (L 4).length).length = c at *
  have hcq := h.c q hq
  have hrun : cG_addWord w (nI q) s = some (wI (wA (wA (wA (wB s 13 c w) 14 c (nI q)) 15 c (nI (L q).length)) 16 q (nI ((L q).length + 1))) 203 0 (nI (c + 1))) := by
    unfold cG_addWord
    simp (disch := first | assumption | omega) only [sx, if_pos, if_neg, bnd, Nat.reduceEqDiff, Nat.reduceAdd, Nat.reduceMul, Nat.reduceSub, and_true, true_and, and_false, false_and, or_true, true_or, or_false, false_or, if_true, if_false, eq_self, not_true, not_false_eq_true, hlen, hcq]
  refine ⟨_, hrun, ?_, cG_addWord_fr _ _ _ _ hrun⟩
  have hT : (if q = 4 then T else T ++ [(q, (L q).length)]) ++ tv (Lu L q w 4).length = (T ++ tv (L 4).length) ++ [(q, (L q).length)] := by
    by_cases e : q = 4
    · subst e
      rw [if_pos rfl]
      unfold Lu
      rw [if_pos rfl, List.length_append]
      show T ++ tv ((L 4).length + 1) = _
      rw [tv_succ, List.append_assoc]
    · rw [if_neg e]
      unfold Lu
      rw [if_neg (fun z => e z.symm), hv (by omega)]
      show T ++ [(q, (L q).length)] ++ [] = T ++ [] ++ _
      rw [List.append_nil, List.append_nil]
  have hlq : ∀ k, (Lu L q w k).length = if k = q then (L q).length + 1 else (L k).length := by
    intro k
    unfold Lu
    by_cases e : k = q
    · rw [if_pos e, if_pos e, List.length_append]; rfl
    · rw [if_neg e, if_neg e]
  refine ⟨?_, ?_, ?_, ?_, ?_, ?_, ?_⟩
  · rw [hT, List.length_append, hc]; simp (disch := first | assumption | omega) only [sx, if_pos, if_neg, bnd, Nat.reduceEqDiff, Nat.reduceAdd, Nat.reduceMul, Nat.reduceSub, and_true, true_and, and_false, false_and, or_true, true_or, or_false, false_or, if_true, if_false, eq_self, not_true, not_false_eq_true]; rfl
  · intro k hk
    rw [hlq]
    by_cases e : k = q
    · subst e; simp (disch := first | assumption | omega) only [sx, if_pos, if_neg, bnd, Nat.reduceEqDiff, Nat.reduceAdd, Nat.reduceMul, Nat.reduceSub, and_true, true_and, and_false, false_and, or_true, true_or, or_false, false_or, if_true, if_false, eq_self, not_true, not_false_eq_true]
    · rw [if_neg e]; simp (disch := first | assumption | omega) only [sx, if_pos, if_neg, bnd, Nat.reduceEqDiff, Nat.reduceAdd, Nat.reduceMul, Nat.reduceSub, and_true, true_and, and_false, false_and, or_true, true_or, or_false, false_or, if_true, if_false, eq_self, not_true, not_false_eq_true, h.c k hk]
  · intro k hk
    rw [hlq]
    by_cases e : k = q
    · rw [if_pos e, e]; omega
    · rw [if_neg e]; exact h.m k hk
  · intro i x hx
    rw [hT] at hx
    by_cases hi : i < c
    · rw [List.getElem?_append_left (by omega)] at hx
      obtain ⟨t1, t2, t3, t4⟩ := h.t i x hx
      refine ⟨?_, ?_, t3, ?_⟩
      · simp (disch := first | assumption | omega) only [sx, if_pos, if_neg, bnd, Nat.reduceEqDiff, Nat.reduceAdd, Nat.reduceMul, Nat.reduceSub, and_true, true_and, and_false, false_and, or_true, true_or, or_false, false_or, if_true, if_false, eq_self, not_true, not_false_eq_true, t1]
      · simp (disch := first | assumption | omega) only [sx, if_pos, if_neg, bnd, Nat.reduceEqDiff, Nat.reduceAdd, Nat.reduceMul, Nat.reduceSub, and_true, true_and, and_false, false_and, or_true, true_or, or_false, false_or, if_true, if_false, eq_self, not_true, not_false_eq_true, t2]
      · have : gB (wI (wA (wA (wA (wB s 13 c w) 14 c (nI q)) 15 c (nI (L q).length)) 16 q (nI ((L q).length + 1))) 203 0 (nI (c + 1))) 13 i = gB s 13 i := by simp (disch := first | assumption | omega) only [sx, if_pos, if_neg, bnd, Nat.reduceEqDiff, Nat.reduceAdd, Nat.reduceMul, Nat.reduceSub, and_true, true_and, and_false, false_and, or_true, true_or, or_false, false_or, if_true, if_false, eq_self, not_true, not_false_eq_true]
        rw [this]
        unfold Lu
        by_cases e : x.1 = q
        · rw [if_pos e, ← e]
          have hlt2 : x.2 < (L x.1).length := by
            apply Classical.byContradiction
            intro z
            rw [List.getElem?_eq_none (by omega)] at t4
            cases t4
          rw [List.getElem?_append_left hlt2]; exact t4
        · rw [if_neg e]; exact t4
    · have ei : i = c := by
        apply Classical.byContradiction
        intro z
        rw [List.getElem?_eq_none (by rw [List.length_append, hc]; simp; omega)] at hx
        cases hx
      rw [List.getElem?_append_right (by omega), hc, ei, Nat.sub_self] at hx
      have hx : (q, (L q).length) = x := Option.some.inj hx
      subst hx
      subst ei
      refine ⟨?_, ?_, hq, ?_⟩
      · simp (disch := first | assumption | omega) only [sx, if_pos, if_neg, bnd, Nat.reduceEqDiff, Nat.reduceAdd, Nat.reduceMul, Nat.reduceSub, and_true, true_and, and_false, false_and, or_true, true_or, or_false, false_or, if_true, if_false, eq_self, not_true, not_false_eq_true]
      · simp (disch := first | assumption | omega) only [sx, if_pos, if_neg, bnd, Nat.reduceEqDiff, Nat.reduceAdd, Nat.reduceMul, Nat.reduceSub, and_true, true_and, and_false, false_and, or_true, true_or, or_false, false_or, if_true, if_false, eq_self, not_true, not_false_eq_true]
      · have : gB (wI (wA (wA (wA (wB s 13 i w) 14 i (nI q)) 15 i (nI (L q).length)) 16 q (nI ((L q).length + 1))) 203 0 (nI (i + 1))) 13 i = w := by simp (disch := first | assumption | omega) only [sx, if_pos, if_neg, bnd, Nat.reduceEqDiff, Nat.reduceAdd, Nat.reduceMul, Nat.reduceSub, and_true, true_and, and_false, false_and, or_true, true_or, or_false, false_or, if_true, if_false, eq_self, not_true, not_false_eq_true]
        rw [this]
        unfold Lu
        rw [if_pos rfl, List.getElem?_append_right (Nat.le_refl _), Nat.sub_self]
        rfl
  · intro k r hk hr
    rw [hlq] at hr
    by_cases e : k = q
    · subst e
      rw [if_pos rfl] at hr
      rw [if_neg (by omega)]
      by_cases er : r = (L k).length
      · rw [er]; exact List.mem_append_right _ List.mem_cons_self
      · exact List.mem_append_left _ (h.k k r hk (by omega))
    · rw [if_neg e] at hr
      have := h.k k r hk hr
      split
      · exact this
      · exact List.mem_append_left _ this
  · intro x hx
    split at hx
    · exact h.v x hx
    · rename_i e4
      rcases List.mem_append.mp hx with z | z
      · exact h.v x z
      · rw [List.mem_singleton.mp z]; show q < 4; omega
  · rw [hlq, hlq, hlq, hlq]
    rcases (show q = 0 ∨ q = 1 ∨ q = 2 ∨ q = 3 ∨ q = 4 by omega) with rfl | rfl | rfl | rfl | rfl <;> simp <;> omega
theorem ND_add {L : Nat → List Int64} (hd : ND L) {q : Nat} {w : Int64} (hq : q < 5) (hv : q < 4 → L 4 = []) (hL : ∀ k, 5 ≤ k → L k = []) (ht : tkn1 L (Nat.beq q 4) w = false) : ND (Lu L q w) := by
  have no : ∀ k r : Nat, ¬ (q = 4 ∧ k = 2) → (L k)[r]? ≠ some w := by
    intro k r hn hw
    unfold tkn1 at ht
    rw [Bool.or_eq_false_iff, Bool.or_eq_false_iff, Bool.or_eq_false_iff] at ht
    obtain ⟨t0, t1, t3, t4⟩ := ht
    have nn : ∀ k, (ix (L k) w).isSome = false → (L k)[r]? ≠ some w := by
      intro k hk
      refine ix_none ?_
      cases hx : ix (L k) w with
      | none => rfl
      | some _ => rw [hx] at hk; cases hk
    by_cases h5 : 5 ≤ k
    · rw [hL k h5] at hw; cases hw
    · rcases (show k = 0 ∨ k = 1 ∨ k = 2 ∨ k = 3 ∨ k = 4 by omega) with rfl | rfl | rfl | rfl | rfl
      · exact nn 0 t0 hw
      · exact nn 1 t1 hw
      · have h4 : ¬ q = 4 := fun z => hn ⟨z, rfl⟩
        rw [beq_n h4, if_neg (by decide)] at t4
        exact nn 2 t4 hw
      · exact nn 3 t3 hw
      · by_cases h4 : q = 4
        · rw [h4, if_pos (show Nat.beq 4 4 = true from rfl)] at t4; exact nn 4 t4 hw
        · rw [hv (by omega)] at hw; cases hw
  have sp : ∀ (k r : Nat) (v : Int64), (Lu L q w k)[r]? = some v → (L k)[r]? = some v ∨ (k = q ∧ r = (L q).length ∧ v = w) := by
    intro k r v h
    unfold Lu at h
    by_cases e : k = q
    · rw [if_pos e] at h
      by_cases er : r < (L q).length
      · rw [List.getElem?_append_left er] at h; rw [e]; exact Or.inl h
      · rw [List.getElem?_append_right (by omega)] at h
        by_cases e2 : r - (L q).length = 0
        · rw [e2] at h; exact Or.inr ⟨e, by omega, (Option.some.inj h).symm⟩
        · rw [List.getElem?_eq_none (by simp; omega)] at h; cases h
    · rw [if_neg e] at h; exact Or.inl h
  intro k k' r r' v h h'
  rcases sp k r v h with a | ⟨a1, a2, a3⟩
  · rcases sp k' r' v h' with b | ⟨b1, b2, b3⟩
    · exact hd k k' r r' v a b
    · subst b3
      by_cases hn : q = 4 ∧ k = 2
      · exact Or.inr (Or.inr ⟨hn.2, by omega⟩)
      · exact absurd a (no k r hn)
  · rcases sp k' r' v h' with b | ⟨b1, b2, b3⟩
    · subst a3
      by_cases hn : q = 4 ∧ k' = 2
      · exact Or.inr (Or.inl ⟨by omega, hn.2⟩)
      · exact absurd b (no k' r' hn)
    · exact Or.inl ⟨by omega, by omega⟩
theorem dropVariables_ok {s : ts} {L : Nat → List Int64} {T : List (Nat × Nat)} (h : NA s L T) : ∃ s1, cG_dropVariables s = some s1 ∧ NA s1 (fun k => if k = 4 then [] else L k) T ∧ fr wf_cG_dropVariables s s1 := by
  have hl2 : (T ++ tv (L 4).length).length = T.length + (L 4).length := by rw [List.length_append, tv_len]
  have hlen := h.n
  have hc4 := h.c 4 (by omega)
  have hm4 : (L 4).length ≤ 8 := h.m 4 (by omega)
  have hrun : cG_dropVariables s = some (wA (wI s 203 0 (nI T.length)) 16 4 (nI 0)) := by
    unfold cG_dropVariables
    rw [show ((4 : Int32)).toNatClampNeg = 4 from rfl, hlen, hc4, hl2, pk_sub (by omega), Nat.add_sub_cancel]
    rfl
  refine ⟨_, hrun, ?_, cG_dropVariables_fr _ _ hrun⟩
  refine ⟨?_, ?_, ?_, ?_, ?_, h.v, ?_⟩
  · dsimp only
    rw [if_pos rfl]
    show gI (wA (wI s 203 0 (nI T.length)) 16 4 (nI 0)) 203 0 = nI (T ++ []).length
    rw [List.append_nil]; simp (disch := first | assumption | omega) only [sx, if_pos, if_neg, bnd, Nat.reduceEqDiff, Nat.reduceAdd, Nat.reduceMul, Nat.reduceSub, and_true, true_and, and_false, false_and, or_true, true_or, or_false, false_or, if_true, if_false, eq_self, not_true, not_false_eq_true]
  · intro q hq
    dsimp only
    by_cases e : q = 4
    · rw [if_pos e, e]; simp (disch := first | assumption | omega) only [sx, if_pos, if_neg, bnd, Nat.reduceEqDiff, Nat.reduceAdd, Nat.reduceMul, Nat.reduceSub, and_true, true_and, and_false, false_and, or_true, true_or, or_false, false_or, if_true, if_false, eq_self, not_true, not_false_eq_true]; rfl
    · rw [if_neg e]; simp (disch := first | assumption | omega) only [sx, if_pos, if_neg, bnd, Nat.reduceEqDiff, Nat.reduceAdd, Nat.reduceMul, Nat.reduceSub, and_true, true_and, and_false, false_and, or_true, true_or, or_false, false_or, if_true, if_false, eq_self, not_true, not_false_eq_true, h.c q hq]
  · intro q hq
    dsimp only
    by_cases e : q = 4
    · rw [if_pos e]; exact Nat.zero_le _
    · rw [if_neg e]; exact h.m q hq
  · intro i x hx
    dsimp only at hx
    rw [if_pos rfl] at hx
    have hx : (T ++ [])[i]? = some x := hx
    rw [List.append_nil] at hx
    have hi : i < T.length := by
      apply Classical.byContradiction
      intro z
      rw [List.getElem?_eq_none (by omega)] at hx
      cases hx
    obtain ⟨t1, t2, t3, t4⟩ := h.t i x (by rw [List.getElem?_append_left hi]; exact hx)
    have hxv := h.v x (List.mem_of_getElem? hx)
    refine ⟨t1, t2, t3, ?_⟩
    dsimp only
    rw [if_neg (by omega)]
    exact t4
  · intro q r hq hr
    dsimp only at hr
    rw [if_neg (by omega)] at hr
    exact h.k q r hq hr
  · dsimp only
    rw [if_neg (by omega), if_neg (by omega), if_neg (by omega), if_neg (by omega)]
    exact h.e
theorem ND_drop {L : Nat → List Int64} (hd : ND L) : ND (fun k => if k = 4 then [] else L k) := by
  intro q q' r r' w h h'
  dsimp only at h h'
  by_cases e : q = 4
  · rw [if_pos e] at h; cases h
  · by_cases e' : q' = 4
    · rw [if_pos e'] at h'; cases h'
    · rw [if_neg e] at h
      rw [if_neg e'] at h'
      exact hd q q' r r' w h h'
