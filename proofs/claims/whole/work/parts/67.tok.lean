/-! THE TOKENS: what both sides make of the bytes. -/
def isW (c : Nat) : Bool := isL c || isD c
/-- where a run of such bytes ends; f: how many bytes are left -/
def rn (p : Nat → Bool) (b : Nat → Nat) : Nat → Nat → Nat
  | 0, i => i
  | f + 1, i => if p (b i) = true then rn p b f (i + 1) else i
theorem rn_le (p : Nat → Bool) (b : Nat → Nat) : ∀ f i, i ≤ rn p b f i ∧ rn p b f i ≤ i + f ∧ (0 < f → p (b i) = true → i < rn p b f i) := by
  intro f
  induction f with
  | zero => intro i; exact ⟨Nat.le_refl _, Nat.le_refl _, fun h => absurd h (Nat.lt_irrefl _)⟩
  | succ f ih =>
    intro i
    have := ih (i + 1)
    unfold rn
    split
    · exact ⟨by omega, by omega, fun _ _ => by omega⟩
    · rename_i h; exact ⟨by omega, by omega, fun _ z => absurd z h⟩
/-- a word's bytes; a number's value -/
def wv (b : Nat → Nat) (i : Nat) : Nat → Int64
  | 0 => 0
  | m + 1 => (wv b i m <<< ((nI 8).toInt64 &&& 63)) ||| (nI (b (i + m))).toInt64
def nv (b : Nat → Nat) (i : Nat) : Nat → Int64
  | 0 => 0
  | m + 1 => nv b i m * 10 + (nI (b (i + m))).toInt64 - 48
/-- the kind of a word: 512 and its place among the reserved ones, or 2 -/
def wk (R : Nat → Int64) (w : Int64) : Nat → Nat → Nat
  | 0, _ => 2
  | f + 1, k => if R k = w then 512 + k else wk R w f (k + 1)
theorem wk_ge (R : Nat → Int64) (w : Int64) : ∀ f k, (wk R w f k = 2 ∨ 512 ≤ wk R w f k) ∧ wk R w f k < 512 + k + f + 1 := by
  intro f
  induction f with
  | zero => intro k; exact ⟨Or.inl rfl, by show 2 < _; omega⟩
  | succ f ih =>
    intro k
    have := ih (k + 1)
    unfold wk
    split
    · omega
    · omega
def isP (c d : Nat) : Bool := if c = 38 ∨ c = 124 then Nat.beq d c else if c = 61 ∨ c = 33 ∨ c = 60 ∨ c = 62 then Nat.beq d 61 else false
def isS (c : Nat) : Bool := if c = 40 ∨ c = 41 ∨ c = 123 ∨ c = 125 ∨ c = 44 ∨ c = 59 ∨ c = 61 ∨ c = 43 ∨ c = 45 ∨ c = 42 ∨ c = 47 ∨ c = 37 ∨ c = 60 ∨ c = 62 ∨ c = 33 then true else false
/-- the token at a place behind blanks: its kind, its place, its value, where it ends -/
def tok1 (b : Nat → Nat) (n : Nat) (R : Nat → Int64) (j : Nat) : Nat × Nat × Int64 × Nat :=
  if n ≤ j then (0, n, 0, j)
  else if isL (b j) = true then
    (if 8 < rn isW b (n - j) j - j then (1, j, 0, rn isW b (n - j) j) else (wk R (wv b j (rn isW b (n - j) j - j)) 24 0, j, wv b j (rn isW b (n - j) j - j), rn isW b (n - j) j))
  else if isD (b j) = true then
    (if 9 < rn isD b (n - j) j - j then (1, j, 0, rn isD b (n - j) j) else (3, j, nv b j (rn isD b (n - j) j - j), rn isD b (n - j) j))
  else if isP (b j) (if j + 1 < n then b (j + 1) else 256) = true then (256 + b j, j, 0, j + 2)
  else if isS (b j) = true then (b j, j, 0, j + 1) else (1, j, 0, j + 1)
/-- the token behind place i; an: behind a number -/
def tok (b : Nat → Nat) (n : Nat) (R : Nat → Int64) (an : Bool) (i : Nat) : Nat × Nat × Int64 × Nat :=
  if an = true ∧ i < n ∧ isL (b i) = true then (1, i, 0, i) else tok1 b n R (sk b (n - i) false i)
def tst (b : Nat → Nat) (n : Nat) (R : Nat → Int64) : Nat → Bool × Nat
  | 0 => (false, 0)
  | j + 1 => (Nat.beq (tok b n R (tst b n R j).1 (tst b n R j).2).1 3, (tok b n R (tst b n R j).1 (tst b n R j).2).2.2.2)
def tkn (b : Nat → Nat) (n : Nat) (R : Nat → Int64) (j : Nat) : Nat × Nat × Int64 × Nat := tok b n R (tst b n R j).1 (tst b n R j).2
-- the program: one token is noted
def adT (s : ts) (m k q : Nat) (v : Int64) : ts := wI (wB (wA (wA s 9 m (nI k)) 10 m (nI q)) 11 m v) 104 0 (nI (m + 1))
theorem tadd {s : ts} {m k q : Nat} {v : Int64} (hm : m < 4001) (hk : k < 1000) (h : gI s 104 0 = nI m) : cT_add (nI k) (nI q) v s = some (bI (Nat.ble 2 k), adT s m k q v) := by
  unfold cT_add adT
  simp (disch := first | assumption | omega) only [sx, if_pos, if_neg, bnd, Nat.reduceEqDiff, Nat.reduceAdd, Nat.reduceMul, Nat.reduceSub, and_true, true_and, and_false, false_and, or_true, true_or, or_false, false_or, if_true, if_false, eq_self, not_true, not_false_eq_true, h]
  by_cases h0 : k = 0
  · simp (disch := first | assumption | omega) only [sx, if_pos, if_neg, bnd, Nat.reduceEqDiff, Nat.reduceAdd, Nat.reduceMul, Nat.reduceSub, and_true, true_and, and_false, false_and, or_true, true_or, or_false, false_or, if_true, if_false, eq_self, not_true, not_false_eq_true, h0]; rfl
  · by_cases h1 : k = 1
    · simp (disch := first | assumption | omega) only [sx, if_pos, if_neg, bnd, Nat.reduceEqDiff, Nat.reduceAdd, Nat.reduceMul, Nat.reduceSub, and_true, true_and, and_false, false_and, or_true, true_or, or_false, false_or, if_true, if_false, eq_self, not_true, not_false_eq_true, h1]; rfl
    · simp (disch := first | assumption | omega) only [sx, if_pos, if_neg, bnd, Nat.reduceEqDiff, Nat.reduceAdd, Nat.reduceMul, Nat.reduceSub, and_true, true_and, and_false, false_and, or_true, true_or, or_false, false_or, if_true, if_false, eq_self, not_true, not_false_eq_true]; rw [ble_t (by omega)]; rfl
/-- the byte there, or none -/
def bx (b : Nat → Nat) (n i : Nat) : Int32 := if i < n then nI (b i) else -2
theorem byteAt_x {s : ts} {b : Nat → Nat} {n i : Nat} (ht : txX s b n) (hn : n ≤ 4000) (hi : i < 2 ^ 31) : cT_byteAt (nI n) (nI i) s = some (bx b n i, s) := by
  unfold bx
  by_cases h : i < n
  · rw [if_pos h, byteAt_in ht hn h]
  · rw [if_neg h, byteAt_out (by omega) hi]
theorem isLetter2 (s : ts) : cT_isLetter (-2) s = some (0, s) := rfl
theorem isDigit2 (s : ts) : cT_isDigit (-2) s = some (0, s) := rfl
theorem bI_0 {x : Bool} : (bI x = nI 0) = (x = false) := by cases x <;> simp [bI] <;> decide
theorem takeWord_lp {b : Nat → Nat} {n i : Nat} (hn : n ≤ 4000) : ∀ (f j F : Nat) (s : ts), i ≤ j → j + f = n → f < F → txX s b n → gI s 105 0 = nI j → cT_takeWord_19 F (nI n) (nI i) (wv b i (j - i)) (bx b n j) s = cT_takeWord_78 (nI i) (wv b i (rn isW b f j - i)) (wI s 105 0 (nI (rn isW b f j))) := by
  intro f
  induction f with
  | zero =>
    intro j F s hij hj hF ht h
    obtain ⟨F, rfl⟩ : ∃ G, F = G + 1 := ⟨F - 1, by omega⟩
    rw [cT_takeWord_19.eq_2]
    unfold cT_takeWord_19_b rn
    simp (disch := first | assumption | omega) only [sx, if_pos, if_neg, bnd, Nat.reduceEqDiff, Nat.reduceAdd, Nat.reduceMul, Nat.reduceSub, and_true, true_and, and_false, false_and, or_true, true_or, or_false, false_or, if_true, if_false, eq_self, not_true, not_false_eq_true, h]
    rw [← h, wI_self]
  | succ f ih =>
    intro j F s hij hj hF ht h
    obtain ⟨F, rfl⟩ : ∃ G, F = G + 1 := ⟨F - 1, by omega⟩
    have hb := (ht j (by omega)).1
    have e0 : bx b n j = nI (b j) := if_pos (by omega)
    have go : cT_takeWord_43 (cT_takeWord_19 F) (nI n) (nI i) (wv b i (j - i)) (nI (b j)) s = cT_takeWord_78 (nI i) (wv b i (rn isW b f (j + 1) - i)) (wI s 105 0 (nI (rn isW b f (j + 1)))) := by
      unfold cT_takeWord_43
      simp (disch := first | assumption | omega) only [sx, if_pos, if_neg, bnd, Nat.reduceEqDiff, Nat.reduceAdd, Nat.reduceMul, Nat.reduceSub, and_true, true_and, and_false, false_and, or_true, true_or, or_false, false_or, if_true, if_false, eq_self, not_true, not_false_eq_true, h]
      rw [byteAt_x (i := j + 1) (txX_w ht) hn (by omega), Option.bind_some]
      have := ih (j + 1) F (wI s 105 0 (nI (j + 1))) (by omega) (by omega) (by omega) (txX_w ht) gI_wIs
      rw [wI_wI] at this
      rw [← this]
      show _ = cT_takeWord_19 F (nI n) (nI i) (wv b i (j + 1 - i)) _ _
      rw [show j + 1 - i = (j - i) + 1 by omega]
      show _ = cT_takeWord_19 F (nI n) (nI i) (_ ||| (nI (b (i + (j - i)))).toInt64) _ _
      rw [show i + (j - i) = j by omega]
    rw [cT_takeWord_19.eq_2]
    unfold cT_takeWord_19_b rn isW
    simp (disch := first | assumption | omega) only [sx, if_pos, if_neg, bnd, Nat.reduceEqDiff, Nat.reduceAdd, Nat.reduceMul, Nat.reduceSub, and_true, true_and, and_false, false_and, or_true, true_or, or_false, false_or, if_true, if_false, eq_self, not_true, not_false_eq_true, h, e0, isLetterT, isDigitT, bI_0, go]
    cases hL : isL (b j) with
    | true => simp; rfl
    | false =>
      cases hD : isD (b j) with
      | true => simp; rfl
      | false => simp; rw [← h, wI_self]
theorem key_lp {m i : Nat} {w : Int64} : ∀ (f k F : Nat) (s : ts), k + f = 24 → f < F → m < 4001 → gI s 104 0 = nI m → cT_takeWord_100 F (nI i) w (nI k) s = some (1, adT s m (wk (gB s 8) w f k) i w) := by
  intro f
  induction f with
  | zero =>
    intro k F s hk hF hm h
    obtain ⟨F, rfl⟩ : ∃ G, F = G + 1 := ⟨F - 1, by omega⟩
    rw [cT_takeWord_100.eq_2]
    unfold cT_takeWord_100_b wk
    simp (disch := first | assumption | omega) only [sx, if_pos, if_neg, bnd, Nat.reduceEqDiff, Nat.reduceAdd, Nat.reduceMul, Nat.reduceSub, and_true, true_and, and_false, false_and, or_true, true_or, or_false, false_or, if_true, if_false, eq_self, not_true, not_false_eq_true]
    rw [tadd hm (by omega) h]
    rfl
  | succ f ih =>
    intro k F s hk hF hm h
    obtain ⟨F, rfl⟩ : ∃ G, F = G + 1 := ⟨F - 1, by omega⟩
    rw [cT_takeWord_100.eq_2]
    unfold cT_takeWord_100_b wk
    simp (disch := first | assumption | omega) only [sx, if_pos, if_neg, bnd, Nat.reduceEqDiff, Nat.reduceAdd, Nat.reduceMul, Nat.reduceSub, and_true, true_and, and_false, false_and, or_true, true_or, or_false, false_or, if_true, if_false, eq_self, not_true, not_false_eq_true]
    by_cases hw : gB s 8 k = w
    · simp (disch := first | assumption | omega) only [sx, if_pos, if_neg, bnd, Nat.reduceEqDiff, Nat.reduceAdd, Nat.reduceMul, Nat.reduceSub, and_true, true_and, and_false, false_and, or_true, true_or, or_false, false_or, if_true, if_false, eq_self, not_true, not_false_eq_true, hw]
      rw [tadd hm (by omega) h, ble_t (by omega)]
      rfl
    · simp (disch := first | assumption | omega) only [sx, if_pos, if_neg, bnd, Nat.reduceEqDiff, Nat.reduceAdd, Nat.reduceMul, Nat.reduceSub, and_true, true_and, and_false, false_and, or_true, true_or, or_false, false_or, if_true, if_false, eq_self, not_true, not_false_eq_true]
      exact ih (k + 1) F s (by omega) (by omega) hm h
theorem takeNum_lp {b : Nat → Nat} {n i : Nat} (hn : n ≤ 4000) : ∀ (f j F : Nat) (s : ts), i ≤ j → j + f = n → f < F → txX s b n → gI s 105 0 = nI j → cT_takeNumber_19 F (nI n) (nI i) (nv b i (j - i)) (bx b n j) s = cT_takeNumber_75 (nI i) (nv b i (rn isD b f j - i)) (bx b n (rn isD b f j)) (wI s 105 0 (nI (rn isD b f j))) := by
  intro f
  induction f with
  | zero =>
    intro j F s hij hj hF ht h
    obtain ⟨F, rfl⟩ : ∃ G, F = G + 1 := ⟨F - 1, by omega⟩
    rw [cT_takeNumber_19.eq_2]
    unfold cT_takeNumber_19_b rn
    simp (disch := first | assumption | omega) only [sx, if_pos, if_neg, bnd, Nat.reduceEqDiff, Nat.reduceAdd, Nat.reduceMul, Nat.reduceSub, and_true, true_and, and_false, false_and, or_true, true_or, or_false, false_or, if_true, if_false, eq_self, not_true, not_false_eq_true, h]
    rw [← h, wI_self]
  | succ f ih =>
    intro j F s hij hj hF ht h
    obtain ⟨F, rfl⟩ : ∃ G, F = G + 1 := ⟨F - 1, by omega⟩
    have hb := (ht j (by omega)).1
    have e0 : bx b n j = nI (b j) := if_pos (by omega)
    rw [cT_takeNumber_19.eq_2]
    unfold cT_takeNumber_19_b rn
    simp (disch := first | assumption | omega) only [sx, if_pos, if_neg, bnd, Nat.reduceEqDiff, Nat.reduceAdd, Nat.reduceMul, Nat.reduceSub, and_true, true_and, and_false, false_and, or_true, true_or, or_false, false_or, if_true, if_false, eq_self, not_true, not_false_eq_true, h, e0, isDigitT, bI_0]
    cases hD : isD (b j) with
    | true =>
      simp only [if_true, if_false, Bool.true_eq_false]
      rw [byteAt_x (i := j + 1) (txX_w ht) hn (by omega), Option.bind_some]
      have := ih (j + 1) F (wI s 105 0 (nI (j + 1))) (by omega) (by omega) (by omega) (txX_w ht) gI_wIs
      rw [wI_wI] at this
      rw [← this]
      show _ = cT_takeNumber_19 F (nI n) (nI i) (nv b i (j + 1 - i)) _ _
      rw [show j + 1 - i = (j - i) + 1 by omega]
      show _ = cT_takeNumber_19 F (nI n) (nI i) (_ + (nI (b (i + (j - i)))).toInt64 - 48) _ _
      rw [show i + (j - i) = j by omega]
    | false => simp; rw [← h, wI_self, e0]

theorem isPair_ok {c : Nat} (hc : c < 256) {s : ts} {d : Nat} (hd : d < 257) : cT_isPair (nI c) (if d = 256 then -2 else nI d) s = some (bI (isP c d), s) := by
  unfold cT_isPair isP
  by_cases hd2 : d = 256
  · subst hd2
    simp (disch := first | assumption | omega) only [sx, if_pos, if_neg, bnd, Nat.reduceEqDiff, Nat.reduceAdd, Nat.reduceMul, Nat.reduceSub, and_true, true_and, and_false, false_and, or_true, true_or, or_false, false_or, if_true, if_false, eq_self, not_true, not_false_eq_true, hc]
    by_cases h1 : c = 33
    · subst h1; rfl
    by_cases h2 : c = 38
    · subst h2; rfl
    by_cases h3 : c = 60
    · subst h3; rfl
    by_cases h4 : c = 61
    · subst h4; rfl
    by_cases h5 : c = 62
    · subst h5; rfl
    by_cases h6 : c = 124
    · subst h6; rfl
    simp (disch := first | assumption | omega) only [sx, if_pos, if_neg, bnd, Nat.reduceEqDiff, Nat.reduceAdd, Nat.reduceMul, Nat.reduceSub, and_true, true_and, and_false, false_and, or_true, true_or, or_false, false_or, if_true, if_false, eq_self, not_true, not_false_eq_true]; rfl
  · simp (disch := first | assumption | omega) only [sx, if_pos, if_neg, bnd, Nat.reduceEqDiff, Nat.reduceAdd, Nat.reduceMul, Nat.reduceSub, and_true, true_and, and_false, false_and, or_true, true_or, or_false, false_or, if_true, if_false, eq_self, not_true, not_false_eq_true, hc]
    by_cases h1 : c = 33
    · subst h1
      by_cases g : d = 61
      · subst g; rfl
      · simp (disch := first | assumption | omega) only [sx, if_pos, if_neg, bnd, Nat.reduceEqDiff, Nat.reduceAdd, Nat.reduceMul, Nat.reduceSub, and_true, true_and, and_false, false_and, or_true, true_or, or_false, false_or, if_true, if_false, eq_self, not_true, not_false_eq_true, beq_n g]; rfl
    by_cases h2 : c = 38
    · subst h2
      by_cases g : d = 38
      · subst g; rfl
      · simp (disch := first | assumption | omega) only [sx, if_pos, if_neg, bnd, Nat.reduceEqDiff, Nat.reduceAdd, Nat.reduceMul, Nat.reduceSub, and_true, true_and, and_false, false_and, or_true, true_or, or_false, false_or, if_true, if_false, eq_self, not_true, not_false_eq_true, beq_n g]; rfl
    by_cases h3 : c = 60
    · subst h3
      by_cases g : d = 61
      · subst g; rfl
      · simp (disch := first | assumption | omega) only [sx, if_pos, if_neg, bnd, Nat.reduceEqDiff, Nat.reduceAdd, Nat.reduceMul, Nat.reduceSub, and_true, true_and, and_false, false_and, or_true, true_or, or_false, false_or, if_true, if_false, eq_self, not_true, not_false_eq_true, beq_n g]; rfl
    by_cases h4 : c = 61
    · subst h4
      by_cases g : d = 61
      · subst g; rfl
      · simp (disch := first | assumption | omega) only [sx, if_pos, if_neg, bnd, Nat.reduceEqDiff, Nat.reduceAdd, Nat.reduceMul, Nat.reduceSub, and_true, true_and, and_false, false_and, or_true, true_or, or_false, false_or, if_true, if_false, eq_self, not_true, not_false_eq_true, beq_n g]; rfl
    by_cases h5 : c = 62
    · subst h5
      by_cases g : d = 61
      · subst g; rfl
      · simp (disch := first | assumption | omega) only [sx, if_pos, if_neg, bnd, Nat.reduceEqDiff, Nat.reduceAdd, Nat.reduceMul, Nat.reduceSub, and_true, true_and, and_false, false_and, or_true, true_or, or_false, false_or, if_true, if_false, eq_self, not_true, not_false_eq_true, beq_n g]; rfl
    by_cases h6 : c = 124
    · subst h6
      by_cases g : d = 124
      · subst g; rfl
      · simp (disch := first | assumption | omega) only [sx, if_pos, if_neg, bnd, Nat.reduceEqDiff, Nat.reduceAdd, Nat.reduceMul, Nat.reduceSub, and_true, true_and, and_false, false_and, or_true, true_or, or_false, false_or, if_true, if_false, eq_self, not_true, not_false_eq_true, beq_n g]; rfl
    simp (disch := first | assumption | omega) only [sx, if_pos, if_neg, bnd, Nat.reduceEqDiff, Nat.reduceAdd, Nat.reduceMul, Nat.reduceSub, and_true, true_and, and_false, false_and, or_true, true_or, or_false, false_or, if_true, if_false, eq_self, not_true, not_false_eq_true]; rfl
theorem isSign_ok {c : Nat} (hc : c < 256) {s : ts} : cT_isSign (nI c) s = some (bI (isS c), s) := by
  have key : ∀ c, c < 256 → isS c = (Nat.beq c 33 || (Nat.beq c 37 || (Nat.beq c 40 || (Nat.beq c 41 || (Nat.beq c 42 || (Nat.beq c 43 || (Nat.beq c 44 || (Nat.beq c 45 || (Nat.beq c 47 || (Nat.beq c 59 || (Nat.beq c 60 || (Nat.beq c 61 || (Nat.beq c 62 || (Nat.beq c 123 || Nat.beq c 125)))))))))))))) := by decide +kernel
  rw [key c hc]
  unfold cT_isSign
  have st : ∀ (k : Nat) (x : Bool) (o : Option (Int32 × ts)), k < 256 → o = some (bI x, s) → (if nI c = nI k then some (1, s) else o) = some (bI (Nat.beq c k || x), s) := by
    intro k x o hk ho
    by_cases h : c = k
    · subst h; rw [if_pos rfl, beq_y]; rfl
    · rw [if_neg (fun z => h (nI_inj (by omega) (by omega) z)), beq_n h, ho]; rfl
  have e : ∀ k : Nat, k < 256 → (if nI c = nI k then some ((1 : Int32), s) else some (0, s)) = some (bI (Nat.beq c k), s) := by
    intro k hk
    have := st k false (some (0, s)) hk rfl
    rw [Bool.or_false] at this
    exact this
  exact st 33 _ _ (by decide) (st 37 _ _ (by decide) (st 40 _ _ (by decide) (st 41 _ _ (by decide) (st 42 _ _ (by decide) (st 43 _ _ (by decide) (st 44 _ _ (by decide) (st 45 _ _ (by decide) (st 47 _ _ (by decide) (st 59 _ _ (by decide) (st 60 _ _ (by decide) (st 61 _ _ (by decide) (st 62 _ _ (by decide) (st 123 _ _ (by decide) (e 125 (by decide)))))))))))))))
theorem isS_ge {c : Nat} (h : isS c = true) : 33 ≤ c := by
  unfold isS at h
  split at h
  · omega
  · cases h
/-- what takeToken does at a place behind blanks -/
def tkS (b : Nat → Nat) (n : Nat) (s : ts) (m : Nat) (t : Nat × Nat × Int64 × Nat) : Option (Int32 × ts) :=
  if t.1 = 3 ∧ t.2.2.2 < n ∧ isL (b t.2.2.2) = true then some (0, adT (adT (wI s 105 0 (nI t.2.2.2)) m t.1 t.2.1 t.2.2.1) (m + 1) 1 t.2.2.2 0)
  else some (bI (Nat.ble 2 t.1), adT (wI s 105 0 (nI t.2.2.2)) m t.1 t.2.1 t.2.2.1)
theorem isS_nd {c : Nat} (h : isS c = true) : isL c = false ∧ isD c = false := by
  unfold isS at h
  split at h
  · rename_i z
    rcases z with z | z | z | z | z | z | z | z | z | z | z | z | z | z | z <;> subst z <;> exact ⟨rfl, rfl⟩
  · cases h
theorem adT_g {s : ts} {m k q : Nat} {v : Int64} : gI (adT s m k q v) 104 0 = nI (m + 1) := gI_wIs
theorem takeToken_ok {b : Nat → Nat} {n j m : Nat} {s : ts} (hn : n ≤ 4000) (hj : j ≤ n) (hm : m < 4000 ∨ m < 4001 ∧ j = n) (ht : txX s b n) (h1 : gI s 105 0 = nI j) (h2 : gI s 104 0 = nI m) : cT_takeToken (nI n) s = tkS b n s m (tok1 b n (gB s 8) j) := by
  unfold cT_takeToken
  rw [h1, byteAt_x ht hn (by omega), Option.bind_some]
  unfold tok1
  by_cases hjn : n ≤ j
  · have e : j = n := by omega
    subst e
    rw [if_pos hjn]
    unfold tkS bx
    simp (disch := first | assumption | omega) only [sx, if_pos, if_neg, bnd, Nat.reduceEqDiff, Nat.reduceAdd, Nat.reduceMul, Nat.reduceSub, and_true, true_and, and_false, false_and, or_true, true_or, or_false, false_or, if_true, if_false, eq_self, not_true, not_false_eq_true]
    rw [show nI 0 = nI 0 from rfl, tadd (k := 0) (by omega) (by omega) h2, Option.bind_some]
    rw [← h1, wI_self]
  · rw [if_neg hjn]
    have hb := (ht j (by omega)).1
    have e0 : bx b n j = nI (b j) := if_pos (by omega)
    simp (disch := first | assumption | omega) only [sx, if_pos, if_neg, bnd, Nat.reduceEqDiff, Nat.reduceAdd, Nat.reduceMul, Nat.reduceSub, and_true, true_and, and_false, false_and, or_true, true_or, or_false, false_or, if_true, if_false, eq_self, not_true, not_false_eq_true, e0, isLetterT, isDigitT, bI_0]
    cases hL : isL (b j) with
    | true =>
      simp only [if_true, if_false, Bool.true_eq_false]
      unfold cT_takeWord
      rw [h1, byteAt_x ht hn (by omega), Option.bind_some]
      have := takeWord_lp (i := j) hn (n - j) j tm_N s (Nat.le_refl _) (by omega) (by unfold tm_N; omega) ht h1
      rw [Nat.sub_self] at this
      show ((cT_takeWord_19 tm_N (nI n) (nI j) (wv b j 0) (bx b n j) s).bind _) = _
      rw [this]
      obtain ⟨r1, r2, r3⟩ := rn_le isW b (n - j) j
      have r3 := r3 (by omega) (by unfold isW; rw [hL]; rfl)
      generalize rn isW b (n - j) j = e at *
      unfold cT_takeWord_78
      simp (disch := first | assumption | omega) only [sx, if_pos, if_neg, bnd, Nat.reduceEqDiff, Nat.reduceAdd, Nat.reduceMul, Nat.reduceSub, and_true, true_and, and_false, false_and, or_true, true_or, or_false, false_or, if_true, if_false, eq_self, not_true, not_false_eq_true]
      by_cases h8 : 8 < e - j
      · simp (disch := first | assumption | omega) only [sx, if_pos, if_neg, bnd, Nat.reduceEqDiff, Nat.reduceAdd, Nat.reduceMul, Nat.reduceSub, and_true, true_and, and_false, false_and, or_true, true_or, or_false, false_or, if_true, if_false, eq_self, not_true, not_false_eq_true]
        rw [tadd (s := wI s 105 0 (nI e)) (m := m) (k := 1) (by omega) (by omega) h2]
        unfold tkS
        rw [if_neg (fun z => by have := z.1; dsimp only at this; omega)]
        rfl
      · simp (disch := first | assumption | omega) only [sx, if_pos, if_neg, bnd, Nat.reduceEqDiff, Nat.reduceAdd, Nat.reduceMul, Nat.reduceSub, and_true, true_and, and_false, false_and, or_true, true_or, or_false, false_or, if_true, if_false, eq_self, not_true, not_false_eq_true]
        rw [show nI 0 = nI 0 from rfl, key_lp (m := m) 24 0 tm_N (wI s 105 0 (nI e)) (by omega) (by unfold tm_N; omega) (by omega) h2]
        have hwk := wk_ge (gB s 8) (wv b j (e - j)) 24 0
        unfold tkS
        show some _ = _
        rw [if_neg (fun z => by have := z.1; dsimp only at this; omega)]
        dsimp only
        rw [ble_t (by omega)]
        rfl
    | false =>
      simp only [if_true, if_false, Bool.false_eq_true]
      cases hD : isD (b j) with
      | true =>
        simp only [if_true, if_false, Bool.true_eq_false]
        unfold cT_takeNumber
        rw [h1, byteAt_x ht hn (by omega), Option.bind_some]
        have := takeNum_lp (i := j) hn (n - j) j tm_N s (Nat.le_refl _) (by omega) (by unfold tm_N; omega) ht h1
        rw [Nat.sub_self] at this
        show ((cT_takeNumber_19 tm_N (nI n) (nI j) (nv b j 0) (bx b n j) s).bind _) = _
        rw [this]
        obtain ⟨r1, r2, r3⟩ := rn_le isD b (n - j) j
        have r3 := r3 (by omega) hD
        generalize rn isD b (n - j) j = e at *
        unfold cT_takeNumber_75
        simp (disch := first | assumption | omega) only [sx, if_pos, if_neg, bnd, Nat.reduceEqDiff, Nat.reduceAdd, Nat.reduceMul, Nat.reduceSub, and_true, true_and, and_false, false_and, or_true, true_or, or_false, false_or, if_true, if_false, eq_self, not_true, not_false_eq_true]
        by_cases h8 : 9 < e - j
        · simp (disch := first | assumption | omega) only [sx, if_pos, if_neg, bnd, Nat.reduceEqDiff, Nat.reduceAdd, Nat.reduceMul, Nat.reduceSub, and_true, true_and, and_false, false_and, or_true, true_or, or_false, false_or, if_true, if_false, eq_self, not_true, not_false_eq_true]
          rw [tadd (s := wI s 105 0 (nI e)) (m := m) (k := 1) (by omega) (by omega) h2]
          unfold tkS
          rw [if_neg (fun z => by have := z.1; dsimp only at this; omega)]
          rfl
        · simp (disch := first | assumption | omega) only [sx, if_pos, if_neg, bnd, Nat.reduceEqDiff, Nat.reduceAdd, Nat.reduceMul, Nat.reduceSub, and_true, true_and, and_false, false_and, or_true, true_or, or_false, false_or, if_true, if_false, eq_self, not_true, not_false_eq_true]
          rw [tadd (s := wI s 105 0 (nI e)) (m := m) (k := 3) (by omega) (by omega) h2, Option.bind_some]
          unfold tkS
          dsimp only
          by_cases he : e < n
          · have he0 : bx b n e = nI (b e) := if_pos he
            rw [he0, isLetterT (ht e he).1, Option.bind_some]
            simp (disch := first | assumption | omega) only [sx, if_pos, if_neg, bnd, Nat.reduceEqDiff, Nat.reduceAdd, Nat.reduceMul, Nat.reduceSub, and_true, true_and, and_false, false_and, or_true, true_or, or_false, false_or, if_true, if_false, eq_self, not_true, not_false_eq_true, bI_0]
            cases hLe : isL (b e) with
            | true =>
              rw [if_neg (by decide), if_pos ⟨he, rfl⟩]
              have e1 : gI (adT (wI s 105 0 (nI e)) m 3 j (nv b j (e - j))) 105 0 = nI e := by unfold adT; simp (disch := first | assumption | omega) only [sx, if_pos, if_neg, bnd, Nat.reduceEqDiff, Nat.reduceAdd, Nat.reduceMul, Nat.reduceSub, and_true, true_and, and_false, false_and, or_true, true_or, or_false, false_or, if_true, if_false, eq_self, not_true, not_false_eq_true]
              rw [e1, tadd (k := 1) (by omega) (by omega) adT_g]
              rfl
            | false =>
              rw [if_pos rfl, if_neg (fun z => by cases z.2)]
              rfl
          · have he0 : bx b n e = -2 := if_neg he
            rw [he0, isLetter2, Option.bind_some]
            dsimp only
            rw [if_pos (show (0 : Int32) = nI 0 from rfl), if_neg (fun z => he z.2.1)]
            rfl
      | false =>
        simp only [if_true, if_false, Bool.false_eq_true]
        rw [h1, nI_add, byteAt_x (i := j + 1) ht hn (by omega), Option.bind_some]
        have e1 : bx b n (j + 1) = if (if j + 1 < n then b (j + 1) else 256) = 256 then -2 else nI (if j + 1 < n then b (j + 1) else 256) := by
          unfold bx
          by_cases h : j + 1 < n
          · have := (ht (j + 1) h).1
            rw [if_pos h, if_pos h, if_neg (by omega)]
          · rw [if_neg h, if_neg h, if_pos rfl]
        have hd : (if j + 1 < n then b (j + 1) else 256) < 257 := by
          split
          · have := (ht (j + 1) (by assumption)).1; omega
          · omega
        dsimp only
        rw [e1]
        generalize (if j + 1 < n then b (j + 1) else 256) = d at *
        unfold cT_takeSign
        rw [isPair_ok hb hd]
        simp (disch := first | assumption | omega) only [sx, if_pos, if_neg, bnd, Nat.reduceEqDiff, Nat.reduceAdd, Nat.reduceMul, Nat.reduceSub, and_true, true_and, and_false, false_and, or_true, true_or, or_false, false_or, if_true, if_false, eq_self, not_true, not_false_eq_true, isSign_ok, bI_0, h1]
        cases hP : isP (b j) d with
        | true =>
          simp only [if_true, if_false, Bool.true_eq_false]
          rw [tadd (s := wI s 105 0 (nI (j + 2))) (m := m) (by omega) (by omega) h2]
          unfold tkS
          rw [if_neg (fun z => by have := z.1; dsimp only at this; omega)]
          dsimp only
          rw [ble_t (by omega)]
          rfl
        | false =>
          simp only [if_true, if_false, Bool.false_eq_true]
          cases hS : isS (b j) with
          | true =>
            simp only [if_true, if_false, Bool.true_eq_false]
            unfold cT_takeSign_58
            rw [tadd (s := wI s 105 0 (nI (j + 1))) (m := m) (by omega) (by omega) h2]
            have := isS_ge hS
            unfold tkS
            rw [if_neg (fun z => by have := z.1; dsimp only at this; omega)]
            rfl
          | false =>
            simp only [if_true, if_false, Bool.false_eq_true]
            unfold cT_takeSign_58
            rw [tadd (s := wI s 105 0 (nI (j + 1))) (m := m) (k := 1) (by omega) (by omega) h2]
            unfold tkS
            rw [if_neg (fun z => by have := z.1; dsimp only at this; omega)]
            rfl

/-- tokens end behind their place; all but the last two kinds take a byte -/
theorem tok1_nx {b : Nat → Nat} {n : Nat} {R : Nat → Int64} {j : Nat} (hj : j ≤ n) (hb : ∀ k, k < n → b k < 256) : j ≤ (tok1 b n R j).2.2.2 ∧ (tok1 b n R j).2.2.2 ≤ n ∧ (2 ≤ (tok1 b n R j).1 → j < (tok1 b n R j).2.2.2) ∧ (tok1 b n R j).1 < 600 := by
  unfold tok1
  by_cases h0 : n ≤ j
  · rw [if_pos h0]; exact ⟨Nat.le_refl _, by dsimp only; omega, fun z => by dsimp only at z; omega, by dsimp only; omega⟩
  · rw [if_neg h0]
    have hbj := hb j (by omega)
    by_cases h1 : isL (b j) = true
    · rw [if_pos h1]
      obtain ⟨r1, r2, r3⟩ := rn_le isW b (n - j) j
      have r3 := r3 (by omega) (by unfold isW; rw [h1]; rfl)
      have := wk_ge R (wv b j (rn isW b (n - j) j - j)) 24 0
      split <;> (dsimp only; omega)
    · rw [if_neg h1]
      by_cases h2 : isD (b j) = true
      · rw [if_pos h2]
        obtain ⟨r1, r2, r3⟩ := rn_le isD b (n - j) j
        have r3 := r3 (by omega) h2
        split <;> (dsimp only; omega)
      · rw [if_neg h2]
        by_cases hp : isP (b j) (if j + 1 < n then b (j + 1) else 256) = true
        · rw [if_pos hp]
          dsimp only
          have : j + 1 < n := by
            apply Classical.byContradiction
            intro hc
            rw [if_neg hc] at hp
            unfold isP at hp
            split at hp
            · rw [beq_n (by omega)] at hp; cases hp
            · split at hp <;> cases hp
          omega
        · rw [if_neg hp]
          by_cases hS : isS (b j) = true
          · rw [if_pos hS]; dsimp only; omega
          · rw [if_neg hS]; dsimp only; omega
theorem tok_nx {b : Nat → Nat} {n : Nat} {R : Nat → Int64} {an : Bool} {j : Nat} (hj : j ≤ n) (hb : ∀ k, k < n → b k < 256) : j ≤ (tok b n R an j).2.2.2 ∧ (tok b n R an j).2.2.2 ≤ n ∧ (2 ≤ (tok b n R an j).1 → j < (tok b n R an j).2.2.2) ∧ (tok b n R an j).1 < 600 := by
  unfold tok
  split
  · dsimp only; omega
  · have h1 := sk_le b (n - j) false j
    have h2 := tok1_nx (R := R) (j := sk b (n - j) false j) (by omega) hb
    omega
theorem tst_le {b : Nat → Nat} {n : Nat} {R : Nat → Int64} (hb : ∀ k, k < n → b k < 256) : ∀ j, (tst b n R j).2 ≤ n := by
  intro j
  induction j with
  | zero => exact Nat.zero_le _
  | succ j ih => exact (tok_nx ih hb).2.1
theorem tst_ge {b : Nat → Nat} {n : Nat} {R : Nat → Int64} (hb : ∀ k, k < n → b k < 256) : ∀ j, (∀ i, i < j → 2 ≤ (tkn b n R i).1) → j ≤ (tst b n R j).2 := by
  intro j
  induction j with
  | zero => intro _; exact Nat.zero_le _
  | succ j ih =>
    intro h
    have := ih (fun i hi => h i (by omega))
    have h2 := (tok_nx (R := R) (an := (tst b n R j).1) (tst_le hb j) hb).2.2.1 (h j (by omega))
    show j + 1 ≤ (tok b n R (tst b n R j).1 (tst b n R j).2).2.2.2
    omega
/-- the tokens before m are noted -/
def TA (s : ts) (b : Nat → Nat) (n : Nat) (R : Nat → Int64) (m : Nat) : Prop := ∀ j, j < m → gA s 9 j = nI (tkn b n R j).1 ∧ gA s 10 j = nI (tkn b n R j).2.1 ∧ gB s 11 j = (tkn b n R j).2.2.1
theorem TA_ad {s : ts} {b : Nat → Nat} {n : Nat} {R : Nat → Int64} {m : Nat} (h : TA s b n R m) : TA (adT s m (tkn b n R m).1 (tkn b n R m).2.1 (tkn b n R m).2.2.1) b n R (m + 1) := by
  intro j hj
  unfold adT
  by_cases e : j = m
  · subst e; simp (disch := first | assumption | omega) only [sx, if_pos, if_neg, bnd, Nat.reduceEqDiff, Nat.reduceAdd, Nat.reduceMul, Nat.reduceSub, and_true, true_and, and_false, false_and, or_true, true_or, or_false, false_or, if_true, if_false, eq_self, not_true, not_false_eq_true]
  · have := h j (by omega)
    simp (disch := first | assumption | omega) only [sx, if_pos, if_neg, bnd, Nat.reduceEqDiff, Nat.reduceAdd, Nat.reduceMul, Nat.reduceSub, and_true, true_and, and_false, false_and, or_true, true_or, or_false, false_or, if_true, if_false, eq_self, not_true, not_false_eq_true, this]
/-- all tokens: the last one has index m -/
def TL (s : ts) (b : Nat → Nat) (n : Nat) (R : Nat → Int64) (m : Nat) : Prop := m ≤ n ∧ gI s 104 0 = nI (m + 1) ∧ TA s b n R (m + 1) ∧ (∀ j, j < m → 2 ≤ (tkn b n R j).1) ∧ (tkn b n R m).1 < 2
theorem part_lp {b : Nat → Nat} {n : Nat} {R : Nat → Int64} (hn : n ≤ 4000) : ∀ (f m F : Nat) (s : ts), n + 1 - m ≤ f → f < F → txX s b n → gB s 8 = R → gI s 104 0 = nI m → gI s 105 0 = nI (tst b n R m).2 → TA s b n R m → (∀ j, j < m → 2 ≤ (tkn b n R j).1) → ¬ ((tst b n R m).1 = true ∧ (tst b n R m).2 < n ∧ isL (b (tst b n R m).2) = true) → ∃ s1 k, cT_part_33 (F + 1) (nI n) 1 (nI m) s = some (wI (wI s1 106 0 0) 107 0 (gA s1 9 0)) ∧ TL s1 b n R k ∧ gI s1 108 0 = gI s 108 0 ∧ gI s1 109 0 = gI s 109 0 := by
  intro f
  induction f with
  | zero =>
    intro m F s hf hF ht hR h1 h2 hA hk han
    have hb : ∀ k, k < n → b k < 256 := fun k hk => (ht k hk).1
    have := tst_ge (R := R) hb m hk
    have := tst_le (R := R) hb m
    omega
  | succ f ih =>
    intro m F s hf hF ht hR h1 h2 hA hk han
    have hb : ∀ k, k < n → b k < 256 := fun k hk => (ht k hk).1
    have g1 := tst_ge (R := R) hb m hk
    have g2 := tst_le (R := R) hb m
    rw [cT_part_33.eq_2]
    unfold cT_part_33_b
    simp (disch := first | assumption | omega) only [sx, if_pos, if_neg, bnd, Nat.reduceEqDiff, Nat.reduceAdd, Nat.reduceMul, Nat.reduceSub, and_true, true_and, and_false, false_and, or_true, true_or, or_false, false_or, if_true, if_false, eq_self, not_true, not_false_eq_true]
    rw [skipX_ok hn g2 ht h2, Option.bind_some]
    have hs := sk_le b (n - (tst b n R m).2) false (tst b n R m).2
    have htk : tkn b n R m = tok1 b n R (sk b (n - (tst b n R m).2) false (tst b n R m).2) := if_neg han
    rw [takeToken_ok (m := m) hn (by omega) (by omega) (txX_w ht) gI_wIs (by simp (disch := first | assumption | omega) only [sx, if_pos, if_neg, bnd, Nat.reduceEqDiff, Nat.reduceAdd, Nat.reduceMul, Nat.reduceSub, and_true, true_and, and_false, false_and, or_true, true_or, or_false, false_or, if_true, if_false, eq_self, not_true, not_false_eq_true, h1])]
    rw [show gB (wI s 105 0 (nI (sk b (n - (tst b n R m).2) false (tst b n R m).2))) 8 = R from hR, ← htk]
    have hnx := tok_nx (R := R) (an := (tst b n R m).1) g2 hb
    rw [show tok b n R (tst b n R m).1 (tst b n R m).2 = tkn b n R m from rfl] at hnx
    have hA1 := TA_ad (s := wI (wI s 105 0 (nI (sk b (n - (tst b n R m).2) false (tst b n R m).2))) 105 0 (nI (tkn b n R m).2.2.2)) hA
    have hst : tst b n R (m + 1) = (Nat.beq (tkn b n R m).1 3, (tkn b n R m).2.2.2) := rfl
    unfold tkS
    by_cases hc : (tkn b n R m).1 = 3 ∧ (tkn b n R m).2.2.2 < n ∧ isL (b (tkn b n R m).2.2.2) = true
    · rw [if_pos hc, Option.bind_some]
      have e2 : tkn b n R (m + 1) = (1, (tkn b n R m).2.2.2, 0, (tkn b n R m).2.2.2) := by
        show tok b n R (tst b n R (m + 1)).1 (tst b n R (m + 1)).2 = _
        rw [hst]
        exact if_pos ⟨by dsimp only; rw [hc.1]; rfl, hc.2⟩
      have hA2 := TA_ad hA1
      rw [e2] at hA2
      have hk2 : ∀ j, j < m + 1 → 2 ≤ (tkn b n R j).1 := by
        intro j hj
        by_cases e : j = m
        · rw [e]; omega
        · exact hk j (by omega)
      have g3 := tst_ge (R := R) hb (m + 1) hk2
      rw [hst] at g3
      obtain ⟨F, rfl⟩ : ∃ G, F = G + 1 := ⟨F - 1, by omega⟩
      refine ⟨adT (adT (wI (wI s 105 0 (nI (sk b (n - (tst b n R m).2) false (tst b n R m).2))) 105 0 (nI (tkn b n R m).2.2.2)) m (tkn b n R m).1 (tkn b n R m).2.1 (tkn b n R m).2.2.1) (m + 1) 1 (tkn b n R m).2.2.2 0, m + 1, ?_, ⟨by dsimp only at g3; omega, adT_g, hA2, hk2, by rw [e2]; dsimp only; omega⟩, rfl, rfl⟩
      rw [cT_part_33.eq_2]
      unfold cT_part_33_b
      by_cases h4 : m = 4000
      · omega
      · simp (disch := first | assumption | omega) only [sx, if_pos, if_neg, bnd, Nat.reduceEqDiff, Nat.reduceAdd, Nat.reduceMul, Nat.reduceSub, and_true, true_and, and_false, false_and, or_true, true_or, or_false, false_or, if_true, if_false, eq_self, not_true, not_false_eq_true]
    · rw [if_neg hc, Option.bind_some]
      dsimp only
      by_cases h2k : 2 ≤ (tkn b n R m).1
      · rw [ble_t h2k]
        obtain ⟨F, rfl⟩ : ∃ G, F = G + 1 := ⟨F - 1, by omega⟩
        have hk2 : ∀ j, j < m + 1 → 2 ≤ (tkn b n R j).1 := by
          intro j hj
          by_cases e : j = m
          · rw [e]; omega
          · exact hk j (by omega)
        have := ih (m + 1) F (adT (wI (wI s 105 0 (nI (sk b (n - (tst b n R m).2) false (tst b n R m).2))) 105 0 (nI (tkn b n R m).2.2.2)) m (tkn b n R m).1 (tkn b n R m).2.1 (tkn b n R m).2.2.1) (by omega) (by omega) ht hR adT_g (by unfold adT; simp (disch := first | assumption | omega) only [sx, if_pos, if_neg, bnd, Nat.reduceEqDiff, Nat.reduceAdd, Nat.reduceMul, Nat.reduceSub, and_true, true_and, and_false, false_and, or_true, true_or, or_false, false_or, if_true, if_false, eq_self, not_true, not_false_eq_true, hst]) hA1 hk2 (by
          rw [hst]
          intro z
          exact hc ⟨Nat.eq_of_beq_eq_true z.1, z.2⟩)
        exact this
      · rw [ble_f (by omega)]
        obtain ⟨F, rfl⟩ : ∃ G, F = G + 1 := ⟨F - 1, by omega⟩
        refine ⟨adT (wI (wI s 105 0 (nI (sk b (n - (tst b n R m).2) false (tst b n R m).2))) 105 0 (nI (tkn b n R m).2.2.2)) m (tkn b n R m).1 (tkn b n R m).2.1 (tkn b n R m).2.2.1, m, ?_, ⟨by omega, adT_g, hA1, hk, by omega⟩, rfl, rfl⟩
        rw [cT_part_33.eq_2]
        unfold cT_part_33_b
        by_cases h4 : m = 4000
        · simp (disch := first | assumption | omega) only [sx, if_pos, if_neg, bnd, Nat.reduceEqDiff, Nat.reduceAdd, Nat.reduceMul, Nat.reduceSub, and_true, true_and, and_false, false_and, or_true, true_or, or_false, false_or, if_true, if_false, eq_self, not_true, not_false_eq_true]
        · simp (disch := first | assumption | omega) only [sx, if_pos, if_neg, bnd, Nat.reduceEqDiff, Nat.reduceAdd, Nat.reduceMul, Nat.reduceSub, and_true, true_and, and_false, false_and, or_true, true_or, or_false, false_or, if_true, if_false, eq_self, not_true, not_false_eq_true]
          rfl

theorem part_ok {b : Nat → Nat} {n : Nat} {s : ts} (hn : n ≤ 4000) (ht : txX s b n) : ∃ s1 k, cT_part (nI n) s = some s1 ∧ TL s1 b n (gB s 8) k ∧ fr wf_cT_part s s1 ∧ gI s1 108 0 = 0 ∧ gI s1 109 0 = -1 ∧ gI s1 106 0 = nI 0 ∧ gI s1 107 0 = nI (tkn b n (gB s 8) 0).1 := by
  have e0 : cT_part (nI n) s = cT_part_33 (999999999 + 1) (nI n) 1 (nI 0) (wI (wI (wI (wI s 108 0 0) 109 0 (-1)) 104 0 0) 105 0 0) := by
    unfold cT_part
    rw [if_neg (show ¬ (4000 : Int32) < nI n from nI_nlt (a := 4000) (b := n) hn (by decide))]
    rfl
  obtain ⟨s1, k, h1, h2, h3, h4⟩ := part_lp (b := b) (n := n) (R := gB s 8) hn (n + 1) 0 999999999 (wI (wI (wI (wI s 108 0 0) 109 0 (-1)) 104 0 0) 105 0 0) (by omega) (by omega) ht rfl (by simp (disch := first | assumption | omega) only [sx, if_pos, if_neg, bnd, Nat.reduceEqDiff, Nat.reduceAdd, Nat.reduceMul, Nat.reduceSub, and_true, true_and, and_false, false_and, or_true, true_or, or_false, false_or, if_true, if_false, eq_self, not_true, not_false_eq_true]) (by simp (disch := first | assumption | omega) only [sx, if_pos, if_neg, bnd, Nat.reduceEqDiff, Nat.reduceAdd, Nat.reduceMul, Nat.reduceSub, and_true, true_and, and_false, false_and, or_true, true_or, or_false, false_or, if_true, if_false, eq_self, not_true, not_false_eq_true]; rfl) (fun j hj => absurd hj (Nat.not_lt_zero _)) (fun j hj => absurd hj (Nat.not_lt_zero _)) (fun z => by cases z.1)
  rw [h1] at e0
  refine ⟨_, k, e0, ⟨h2.1, h2.2.1, h2.2.2.1, h2.2.2.2⟩, cT_part_fr _ _ _ e0, h3, h4, ?_, ?_⟩
  · simp (disch := first | assumption | omega) only [sx, if_pos, if_neg, bnd, Nat.reduceEqDiff, Nat.reduceAdd, Nat.reduceMul, Nat.reduceSub, and_true, true_and, and_false, false_and, or_true, true_or, or_false, false_or, if_true, if_false, eq_self, not_true, not_false_eq_true]
  · simp (disch := first | assumption | omega) only [sx, if_pos, if_neg, bnd, Nat.reduceEqDiff, Nat.reduceAdd, Nat.reduceMul, Nat.reduceSub, and_true, true_and, and_false, false_and, or_true, true_or, or_false, false_or, if_true, if_false, eq_self, not_true, not_false_eq_true]
    exact (h2.2.2.1 0 (by omega)).1
