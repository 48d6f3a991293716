/-! THE TOKENS: the reference. -/
theorem wJ_wJ {s : ts} {f i : Nat} {x y : Int64} : wJ (wJ s f i x) f i y = wJ s f i y := by
  refine Prod.ext rfl (Prod.ext (funext fun a => funext fun b => ?_) rfl)
  show (if a = f ∧ b = i then y else if a = f ∧ b = i then x else s.2.1 a b) = if a = f ∧ b = i then y else s.2.1 a b
  by_cases h : a = f ∧ b = i
  · rw [if_pos h, if_pos h]
  · rw [if_neg h, if_neg h, if_neg h]
theorem wJ_self {s : ts} {f i : Nat} : wJ s f i (gJ s f i) = s := by
  refine Prod.ext rfl (Prod.ext (funext fun a => funext fun b => ?_) rfl)
  show (if a = f ∧ b = i then gJ s f i else s.2.1 a b) = s.2.1 a b
  by_cases h : a = f ∧ b = i
  · rw [if_pos h, h.1, h.2]; rfl
  · rw [if_neg h]
theorem wI_comm {s : ts} {f g i j : Nat} {x y : Int32} (h : ¬ f = g) : wI (wI s f i x) g j y = wI (wI s g j y) f i x := by
  refine Prod.ext (funext fun a => funext fun b => ?_) rfl
  show (if a = g ∧ b = j then y else if a = f ∧ b = i then x else s.1 a b) = if a = f ∧ b = i then x else if a = g ∧ b = j then y else s.1 a b
  by_cases h1 : a = g ∧ b = j
  · rw [if_pos h1, if_neg (fun z => h (z.1.symm.trans h1.1)), if_pos h1]
  · rw [if_neg h1, if_neg h1]
/-- the byte there for the reference, or none -/
def by1 (b : Nat → Nat) (n i : Nat) : Int32 := if i < n then nI (b i) else -1
theorem peek_x {s : ts} {b : Nat → Nat} {n i : Nat} (ht : txR s b n) (hn : n ≤ 4000) (h1 : gI s 1101 0 = nI n) (h2 : gI s 1105 0 = nI i) (hi : i < 2 ^ 31) : cR_peek s = some (by1 b n i, s) := by
  unfold by1
  by_cases h : i < n
  · rw [if_pos h, peek_in ht hn h1 h2 h]
  · rw [if_neg h, peek_out h1 h2 (by omega) hi]
theorem isLetter1 (s : ts) : cR_isLetter (-1) s = some (0, s) := rfl
theorem isDigit1 (s : ts) : cR_isDigit (-1) s = some (0, s) := rfl
theorem word_lp {b : Nat → Nat} {n i : Nat} (hn : n ≤ 4000) : ∀ (f m F : Nat) (s : ts), i + m + f = n → f < F → txR s b n → gI s 1101 0 = nI n → gI s 1105 0 = nI (i + m) → gJ s 1108 0 = wv b i m → cR_next_80 F (nI m) s = cR_next_150 (bI (Nat.ble (rn isW b f (i + m) - i) 8)) (wI (wI (wJ s 1108 0 (wv b i (rn isW b f (i + m) - i))) 1105 0 (nI (rn isW b f (i + m)))) 1106 0 1) := by
  intro f
  induction f with
  | zero =>
    intro m F s hi hF ht h1 h2 h3
    obtain ⟨F, rfl⟩ : ∃ G, F = G + 1 := ⟨F - 1, by omega⟩
    rw [cR_next_80.eq_2]
    unfold cR_next_80_b rn
    have e0 : by1 b n (i + m) = -1 := if_neg (by omega)
    rw [peek_x ht hn h1 h2 (by omega), e0, Option.bind_some, isLetter1, Option.bind_some]
    dsimp only
    rw [if_pos rfl, peek_x ht hn h1 h2 (by omega), e0, Option.bind_some, isDigit1, Option.bind_some]
    dsimp only
    rw [if_pos rfl, show i + m - i = m by omega, ← h3, wJ_self, ← h2, wI_self]
    by_cases h : 9 ≤ m
    · simp (disch := first | assumption | omega) only [sx, if_pos, if_neg, bnd, Nat.reduceEqDiff, Nat.reduceAdd, Nat.reduceMul, Nat.reduceSub, and_true, true_and, and_false, false_and, or_true, true_or, or_false, false_or, if_true, if_false, eq_self, not_true, not_false_eq_true]; rw [ble_f (by omega)]; rfl
    · simp (disch := first | assumption | omega) only [sx, if_pos, if_neg, bnd, Nat.reduceEqDiff, Nat.reduceAdd, Nat.reduceMul, Nat.reduceSub, and_true, true_and, and_false, false_and, or_true, true_or, or_false, false_or, if_true, if_false, eq_self, not_true, not_false_eq_true]; rw [ble_t (by omega)]; rfl
  | succ f ih =>
    intro m F s hi hF ht h1 h2 h3
    obtain ⟨F, rfl⟩ : ∃ G, F = G + 1 := ⟨F - 1, by omega⟩
    have hb := (ht (i + m) (by omega)).1
    have e0 : by1 b n (i + m) = nI (b (i + m)) := if_pos (by omega)
    have go : cR_next_100 (cR_next_80 F) (nI m) s = cR_next_150 (bI (Nat.ble (rn isW b f (i + (m + 1)) - i) 8)) (wI (wI (wJ s 1108 0 (wv b i (rn isW b f (i + (m + 1)) - i))) 1105 0 (nI (rn isW b f (i + (m + 1))))) 1106 0 1) := by
      unfold cR_next_100
      rw [peek_x ht hn h1 h2 (by omega), e0, Option.bind_some]
      dsimp only
      have := ih (m + 1) F (wI (wJ s 1108 0 (wv b i (m + 1))) 1105 0 (nI (i + (m + 1)))) (by omega) (by omega) ht (by simp (disch := first | assumption | omega) only [sx, if_pos, if_neg, bnd, Nat.reduceEqDiff, Nat.reduceAdd, Nat.reduceMul, Nat.reduceSub, and_true, true_and, and_false, false_and, or_true, true_or, or_false, false_or, if_true, if_false, eq_self, not_true, not_false_eq_true, h1]) (by simp (disch := first | assumption | omega) only [sx, if_pos, if_neg, bnd, Nat.reduceEqDiff, Nat.reduceAdd, Nat.reduceMul, Nat.reduceSub, and_true, true_and, and_false, false_and, or_true, true_or, or_false, false_or, if_true, if_false, eq_self, not_true, not_false_eq_true]) (by simp (disch := first | assumption | omega) only [sx, if_pos, if_neg, bnd, Nat.reduceEqDiff, Nat.reduceAdd, Nat.reduceMul, Nat.reduceSub, and_true, true_and, and_false, false_and, or_true, true_or, or_false, false_or, if_true, if_false, eq_self, not_true, not_false_eq_true])
      rw [show ∀ x y z, wJ (wI (wJ s 1108 0 x) 1105 0 y) 1108 0 z = wI (wJ (wJ s 1108 0 x) 1108 0 z) 1105 0 y from fun _ _ _ => rfl, wJ_wJ, wI_wI] at this
      rw [← this, h3]
      simp (disch := first | assumption | omega) only [sx, if_pos, if_neg, bnd, Nat.reduceEqDiff, Nat.reduceAdd, Nat.reduceMul, Nat.reduceSub, and_true, true_and, and_false, false_and, or_true, true_or, or_false, false_or, if_true, if_false, eq_self, not_true, not_false_eq_true, h2]
      rfl
    rw [cR_next_80.eq_2]
    unfold cR_next_80_b rn
    rw [peek_x ht hn h1 h2 (by omega), e0, Option.bind_some, isLetterR hb, Option.bind_some]
    dsimp only
    have hW : isW (b (i + m)) = (isL (b (i + m)) || isD (b (i + m))) := rfl
    cases hL : isL (b (i + m)) with
    | true =>
      rw [if_neg (by decide), if_pos (by rw [hW, hL]; rfl), go]; rfl
    | false =>
      rw [if_pos (show bI false = 0 from rfl), peek_x ht hn h1 h2 (by omega), e0, Option.bind_some, isDigitR hb, Option.bind_some]
      dsimp only
      cases hD : isD (b (i + m)) with
      | true => rw [if_neg (by decide), if_pos (by rw [hW, hL, hD]; rfl), go]; rfl
      | false =>
        rw [if_pos (show bI false = 0 from rfl), if_neg (show ¬ isW (b (i + m)) = true by rw [hW, hL, hD]; decide), show i + m - i = m by omega, ← h3, wJ_self, ← h2, wI_self]
        by_cases h : 9 ≤ m
        · simp (disch := first | assumption | omega) only [sx, if_pos, if_neg, bnd, Nat.reduceEqDiff, Nat.reduceAdd, Nat.reduceMul, Nat.reduceSub, and_true, true_and, and_false, false_and, or_true, true_or, or_false, false_or, if_true, if_false, eq_self, not_true, not_false_eq_true]; rw [ble_f (by omega)]; rfl
        · simp (disch := first | assumption | omega) only [sx, if_pos, if_neg, bnd, Nat.reduceEqDiff, Nat.reduceAdd, Nat.reduceMul, Nat.reduceSub, and_true, true_and, and_false, false_and, or_true, true_or, or_false, false_or, if_true, if_false, eq_self, not_true, not_false_eq_true]; rw [ble_t (by omega)]; rfl
theorem nv_i (b : Nat → Nat) (i m : Nat) : (nv b i (m + 1)).toInt32 = 10 * (nv b i m).toInt32 + nI (b (i + m)) - 48 := by
  show (nv b i m * 10 + (nI (b (i + m))).toInt64 - 48).toInt32 = _
  simp [Int32.mul_comm]
theorem num_lp {b : Nat → Nat} {n i : Nat} (hn : n ≤ 4000) : ∀ (f m F : Nat) (s : ts), i + m + f = n → f < F → txR s b n → gI s 1101 0 = nI n → gI s 1105 0 = nI (i + m) → (m ≤ 9 → gI s 1109 0 = (nv b i m).toInt32) → ∃ d, cR_next_169 F (nI m) s = cR_next_244 (bI (Nat.ble (rn isD b f (i + m) - i) 9)) (wI (wI (wI s 1109 0 d) 1105 0 (nI (rn isD b f (i + m)))) 1106 0 2) ∧ (rn isD b f (i + m) - i ≤ 9 → d = (nv b i (rn isD b f (i + m) - i)).toInt32) := by
  intro f
  induction f with
  | zero =>
    intro m F s hi hF ht h1 h2 h3
    obtain ⟨F, rfl⟩ : ∃ G, F = G + 1 := ⟨F - 1, by omega⟩
    rw [cR_next_169.eq_2]
    unfold cR_next_169_b rn
    have e0 : by1 b n (i + m) = -1 := if_neg (by omega)
    refine ⟨gI s 1109 0, ?_, ?_⟩
    · rw [peek_x ht hn h1 h2 (by omega), e0, Option.bind_some, isDigit1, Option.bind_some]
      dsimp only
      rw [if_pos rfl, show i + m - i = m by omega, wI_self, ← h2, wI_self]
      by_cases h : 10 ≤ m
      · simp (disch := first | assumption | omega) only [sx, if_pos, if_neg, bnd, Nat.reduceEqDiff, Nat.reduceAdd, Nat.reduceMul, Nat.reduceSub, and_true, true_and, and_false, false_and, or_true, true_or, or_false, false_or, if_true, if_false, eq_self, not_true, not_false_eq_true]; rw [ble_f (by omega)]; rfl
      · simp (disch := first | assumption | omega) only [sx, if_pos, if_neg, bnd, Nat.reduceEqDiff, Nat.reduceAdd, Nat.reduceMul, Nat.reduceSub, and_true, true_and, and_false, false_and, or_true, true_or, or_false, false_or, if_true, if_false, eq_self, not_true, not_false_eq_true]; rw [ble_t (by omega)]; rfl
    · rw [show i + m - i = m by omega]; exact h3
  | succ f ih =>
    intro m F s hi hF ht h1 h2 h3
    obtain ⟨F, rfl⟩ : ∃ G, F = G + 1 := ⟨F - 1, by omega⟩
    have hb := (ht (i + m) (by omega)).1
    have e0 : by1 b n (i + m) = nI (b (i + m)) := if_pos (by omega)
    rw [cR_next_169.eq_2]
    unfold cR_next_169_b rn
    rw [peek_x ht hn h1 h2 (by omega), e0, Option.bind_some, isDigitR hb, Option.bind_some]
    dsimp only
    cases hD : isD (b (i + m)) with
    | true =>
      rw [if_neg (by decide), if_pos rfl, show nI m + (1 : Int32) = nI (m + 1) from nI_add m 1]
      by_cases h10 : 10 ≤ m + 1
      · rw [if_pos (show (10 : Int32) ≤ nI (m + 1) from nI_le (a := 10) (b := m + 1) h10 (by omega)), wI_self]
        obtain ⟨d, g1, g2⟩ := ih (m + 1) F (wI s 1105 0 (nI (i + (m + 1)))) (by omega) (by omega) ht (by simp (disch := first | assumption | omega) only [sx, if_pos, if_neg, bnd, Nat.reduceEqDiff, Nat.reduceAdd, Nat.reduceMul, Nat.reduceSub, and_true, true_and, and_false, false_and, or_true, true_or, or_false, false_or, if_true, if_false, eq_self, not_true, not_false_eq_true, h1]) (by simp (disch := first | assumption | omega) only [sx, if_pos, if_neg, bnd, Nat.reduceEqDiff, Nat.reduceAdd, Nat.reduceMul, Nat.reduceSub, and_true, true_and, and_false, false_and, or_true, true_or, or_false, false_or, if_true, if_false, eq_self, not_true, not_false_eq_true]) (fun z => by omega)
        refine ⟨d, ?_, g2⟩
        rw [show gI s 1105 0 + 1 = nI (i + (m + 1)) by rw [h2]; exact nI_add _ 1, g1, wI_comm (f := 1105) (g := 1109) (by decide), wI_wI]
        rfl
      · rw [if_neg (show ¬ (10 : Int32) ≤ nI (m + 1) from nI_ge (b := 10) (a := m + 1) (by omega) (by decide))]
        rw [peek_x ht hn h1 h2 (by omega), e0, Option.bind_some]
        dsimp only
        obtain ⟨d, g1, g2⟩ := ih (m + 1) F (wI (wI s 1109 0 ((nv b i (m + 1)).toInt32)) 1105 0 (nI (i + (m + 1)))) (by omega) (by omega) ht (by simp (disch := first | assumption | omega) only [sx, if_pos, if_neg, bnd, Nat.reduceEqDiff, Nat.reduceAdd, Nat.reduceMul, Nat.reduceSub, and_true, true_and, and_false, false_and, or_true, true_or, or_false, false_or, if_true, if_false, eq_self, not_true, not_false_eq_true, h1]) (by simp (disch := first | assumption | omega) only [sx, if_pos, if_neg, bnd, Nat.reduceEqDiff, Nat.reduceAdd, Nat.reduceMul, Nat.reduceSub, and_true, true_and, and_false, false_and, or_true, true_or, or_false, false_or, if_true, if_false, eq_self, not_true, not_false_eq_true]) (fun z => by simp (disch := first | assumption | omega) only [sx, if_pos, if_neg, bnd, Nat.reduceEqDiff, Nat.reduceAdd, Nat.reduceMul, Nat.reduceSub, and_true, true_and, and_false, false_and, or_true, true_or, or_false, false_or, if_true, if_false, eq_self, not_true, not_false_eq_true])
        refine ⟨d, ?_, g2⟩
        rw [h3 (by omega), ← nv_i]
        rw [show gI (wI s 1109 0 ((nv b i (m + 1)).toInt32)) 1105 0 + 1 = nI (i + (m + 1)) by rw [gI_wIn (by decide), h2]; exact nI_add _ 1, g1, wI_comm (f := 1105) (g := 1109) (by decide), wI_wI, wI_wI]
        rfl
    | false =>
      refine ⟨gI s 1109 0, ?_, ?_⟩
      · rw [if_pos (show bI false = 0 from rfl), if_neg (show ¬ false = true by decide), show i + m - i = m by omega, wI_self, ← h2, wI_self]
        by_cases h : 10 ≤ m
        · simp (disch := first | assumption | omega) only [sx, if_pos, if_neg, bnd, Nat.reduceEqDiff, Nat.reduceAdd, Nat.reduceMul, Nat.reduceSub, and_true, true_and, and_false, false_and, or_true, true_or, or_false, false_or, if_true, if_false, eq_self, not_true, not_false_eq_true]; rw [ble_f (by omega)]; rfl
        · simp (disch := first | assumption | omega) only [sx, if_pos, if_neg, bnd, Nat.reduceEqDiff, Nat.reduceAdd, Nat.reduceMul, Nat.reduceSub, and_true, true_and, and_false, false_and, or_true, true_or, or_false, false_or, if_true, if_false, eq_self, not_true, not_false_eq_true]; rw [ble_t (by omega)]; rfl
      · rw [if_neg (by decide), show i + m - i = m by omega]; exact h3

/-- the reference's number of a kind -/
def rt (k : Nat) : Nat := if k = 2 ∨ 512 ≤ k then 1 else if k = 3 then 2 else if k = 317 then 300 else if k = 289 then 301 else if k = 316 then 302 else if k = 318 then 303 else if k = 294 then 304 else if k = 380 then 305 else k
theorem fail_ok {x y : Int32} {s : ts} (h : gI s 1103 0 = 0) : cR_fail x y s = some (wI (wI s 1103 0 x) 1104 0 y) := by
  unfold cR_fail; rw [if_pos h]
theorem need_t {y : Int32} {s : ts} : cR_need 1 y s = some s := rfl
theorem need_f {y : Int32} {s : ts} (h : gI s 1103 0 = 0) : cR_need 0 y s = some (wI (wI s 1103 0 y) 1104 0 (gI s 1107 0)) := by
  unfold cR_need; rw [if_pos rfl, fail_ok h]; rfl
theorem need_b {y : Int32} {s : ts} {x : Bool} (h : gI s 1103 0 = 0) : cR_need (bI x) y s = some (if x = true then s else wI (wI s 1103 0 y) 1104 0 (gI s 1107 0)) := by
  cases x with
  | true => rw [if_pos rfl]; exact need_t
  | false => rw [if_neg (by decide)]; exact need_f h
/-- a sign of the reference: it stands behind the sign, its number is the kind's; or it is none: 1 there -/
theorem sign_ok {b : Nat → Nat} {n j : Nat} {s : ts} (hn : n ≤ 4000) (hj : j < n) (ht : txR s b n) (h1 : gI s 1101 0 = nI n) (h2 : gI s 1105 0 = nI j) (h3 : gI s 1103 0 = 0) : cR_sign (nI (b j)) s = some (if isP (b j) (if j + 1 < n then b (j + 1) else 256) = true then wI (wI s 1105 0 (nI (j + 2))) 1106 0 (nI (rt (256 + b j))) else if isS (b j) = true then wI (wI s 1105 0 (nI (j + 1))) 1106 0 (nI (b j)) else wI (wI (wI (wI s 1105 0 (nI (j + 1))) 1106 0 (nI (b j))) 1103 0 1) 1104 0 (gI s 1107 0)) := by
  have hb := (ht j hj).1
  unfold cR_sign
  rw [show gI s 1105 0 + 1 = nI (j + 1) by rw [h2]; exact nI_add _ 1]
  rw [peek_x (s := wI s 1105 0 (nI (j + 1))) (i := j + 1) ht hn (by simp (disch := first | assumption | omega) only [sx, if_pos, if_neg, bnd, Nat.reduceEqDiff, Nat.reduceAdd, Nat.reduceMul, Nat.reduceSub, and_true, true_and, and_false, false_and, or_true, true_or, or_false, false_or, if_true, if_false, eq_self, not_true, not_false_eq_true, h1]) (by simp (disch := first | assumption | omega) only [sx, if_pos, if_neg, bnd, Nat.reduceEqDiff, Nat.reduceAdd, Nat.reduceMul, Nat.reduceSub, and_true, true_and, and_false, false_and, or_true, true_or, or_false, false_or, if_true, if_false, eq_self, not_true, not_false_eq_true]) (by omega), Option.bind_some]
  dsimp only
  have hd : (if j + 1 < n then b (j + 1) else 256) < 257 := by
    split
    · have := (ht (j + 1) (by assumption)).1; omega
    · omega
  have e1 : by1 b n (j + 1) = if (if j + 1 < n then b (j + 1) else 256) = 256 then -1 else nI (if j + 1 < n then b (j + 1) else 256) := by
    unfold by1
    by_cases h : j + 1 < n
    · have := (ht (j + 1) h).1
      rw [if_pos h, if_pos h, if_neg (by omega)]
    · rw [if_neg h, if_neg h, if_pos rfl]
  rw [e1]
  generalize (if j + 1 < n then b (j + 1) else 256) = d at *
  generalize hs1 : wI s 1105 0 (nI (j + 1)) = s1
  have g2 : gI s1 1105 0 = nI (j + 1) := by rw [← hs1]; simp (disch := first | assumption | omega) only [sx, if_pos, if_neg, bnd, Nat.reduceEqDiff, Nat.reduceAdd, Nat.reduceMul, Nat.reduceSub, and_true, true_and, and_false, false_and, or_true, true_or, or_false, false_or, if_true, if_false, eq_self, not_true, not_false_eq_true]
  have g3 : gI s1 1103 0 = 0 := by rw [← hs1]; simp (disch := first | assumption | omega) only [sx, if_pos, if_neg, bnd, Nat.reduceEqDiff, Nat.reduceAdd, Nat.reduceMul, Nat.reduceSub, and_true, true_and, and_false, false_and, or_true, true_or, or_false, false_or, if_true, if_false, eq_self, not_true, not_false_eq_true, h3]
  have g7 : gI s1 1107 0 = gI s 1107 0 := by rw [← hs1]; simp (disch := first | assumption | omega) only [sx, if_pos, if_neg, bnd, Nat.reduceEqDiff, Nat.reduceAdd, Nat.reduceMul, Nat.reduceSub, and_true, true_and, and_false, false_and, or_true, true_or, or_false, false_or, if_true, if_false, eq_self, not_true, not_false_eq_true]
  have w2 : ∀ y, wI s1 1105 0 y = wI s 1105 0 y := fun y => by rw [← hs1, wI_wI]
  generalize hc : b j = c at *
  -- no pair
  have plain : cR_sign_73 (nI c) 0 0 s1 = some (if isS c = true then wI s1 1106 0 (nI c) else wI (wI (wI s1 1106 0 (nI c)) 1103 0 1) 1104 0 (gI s 1107 0)) := by
    unfold cR_sign_73
    rw [if_pos rfl, if_pos rfl]
    have y1 : cR_sign_265 1 (wI s1 1106 0 (nI c)) = some (wI s1 1106 0 (nI c)) := rfl
    have y0 : cR_sign_265 0 (wI s1 1106 0 (nI c)) = some (wI (wI (wI s1 1106 0 (nI c)) 1103 0 1) 1104 0 (gI s 1107 0)) := by
      unfold cR_sign_265
      rw [need_f (by simp (disch := first | assumption | omega) only [sx, if_pos, if_neg, bnd, Nat.reduceEqDiff, Nat.reduceAdd, Nat.reduceMul, Nat.reduceSub, and_true, true_and, and_false, false_and, or_true, true_or, or_false, false_or, if_true, if_false, eq_self, not_true, not_false_eq_true, g3]), Option.bind_some, gI_wIn (by decide), g7]
    rw [y1, y0]
    have key : ∀ c, c < 256 → isS c = (Nat.beq c 40 || (Nat.beq c 41 || (Nat.beq c 123 || (Nat.beq c 125 || (Nat.beq c 44 || (Nat.beq c 59 || (Nat.beq c 61 || (Nat.beq c 43 || (Nat.beq c 45 || (Nat.beq c 42 || (Nat.beq c 47 || (Nat.beq c 37 || (Nat.beq c 60 || (Nat.beq c 62 || Nat.beq c 33)))))))))))))) := by decide +kernel
    rw [key c hb]
    generalize wI s1 1106 0 (nI c) = u
    generalize wI (wI u 1103 0 1) 1104 0 (gI s 1107 0) = v
    have st : ∀ (k : Nat) (x : Bool) (o : Option ts), k < 256 → o = some (if x = true then u else v) → (if nI c = nI k then some u else o) = some (if (Nat.beq c k || x) = true then u else v) := by
      intro k x o hk ho
      by_cases h : c = k
      · subst h; rw [if_pos rfl, beq_y]; rfl
      · rw [if_neg (fun z => h (nI_inj (by omega) (by omega) z)), beq_n h, ho]; rfl
    have e : ∀ k : Nat, k < 256 → (if nI c = nI k then some u else some v) = some (if Nat.beq c k = true then u else v) := by
      intro k hk
      have := st k false (some v) hk rfl
      rw [Bool.or_false] at this
      exact this
    exact st 40 _ _ (by decide) (st 41 _ _ (by decide) (st 123 _ _ (by decide) (st 125 _ _ (by decide) (st 44 _ _ (by decide) (st 59 _ _ (by decide) (st 61 _ _ (by decide) (st 43 _ _ (by decide) (st 45 _ _ (by decide) (st 42 _ _ (by decide) (st 47 _ _ (by decide) (st 37 _ _ (by decide) (st 60 _ _ (by decide) (st 62 _ _ (by decide) (e 33 (by decide)))))))))))))))
  have pair : ∀ k : Nat, (c = 61 ∧ k = 300) ∨ (c = 33 ∧ k = 301) ∨ (c = 60 ∧ k = 302) ∨ (c = 62 ∧ k = 303) ∨ (c = 38 ∧ k = 304) ∨ (c = 124 ∧ k = 305) → cR_sign_84 (nI c) s1 = some (wI (wI s 1105 0 (nI (j + 2))) 1106 0 (nI k)) := by
    intro k hk
    unfold cR_sign_84
    rw [show gI s1 1105 0 + 1 = nI (j + 2) by rw [g2]; exact nI_add _ 1, w2]
    rcases hk with ⟨rfl, rfl⟩ | ⟨rfl, rfl⟩ | ⟨rfl, rfl⟩ | ⟨rfl, rfl⟩ | ⟨rfl, rfl⟩ | ⟨rfl, rfl⟩ <;> rfl
  have p73 : ∀ t : Int32, cR_sign_73 (nI c) 1 t s1 = cR_sign_84 (nI c) s1 := fun t => rfl
  have p74 : cR_sign_73 (nI c) 0 1 s1 = cR_sign_84 (nI c) s1 := rfl
  by_cases hP : isP c d = true
  · rw [if_pos hP]
    unfold isP at hP
    by_cases hq : c = 38 ∨ c = 124
    · rw [if_pos hq] at hP
      have hdc := Nat.eq_of_beq_eq_true hP
      subst hdc
      rw [show (if d = 256 then (-1 : Int32) else nI d) = nI d from if_neg (by omega), if_neg (show ¬ nI d = 61 from fun z => by have := nI_inj (a := d) (b := 61) (by omega) (by decide) z; omega)]
      unfold cR_sign_50
      rw [if_pos rfl]
      rcases hq with rfl | rfl
      · rw [if_pos (by decide), p74, pair 304 (by omega)]; rfl
      · rw [if_neg (by decide), if_pos (by decide), p74, pair 305 (by omega)]; rfl
    · rw [if_neg hq] at hP
      by_cases hr : c = 61 ∨ c = 33 ∨ c = 60 ∨ c = 62
      · rw [if_pos hr] at hP
        have hdc := Nat.eq_of_beq_eq_true hP
        subst hdc
        rw [show (if (61 : Nat) = 256 then (-1 : Int32) else nI 61) = nI 61 from rfl, if_pos (show nI 61 = 61 from rfl)]
        have p50 : cR_sign_50 (nI c) (nI 61) 1 s1 = cR_sign_84 (nI c) s1 := by
          unfold cR_sign_50
          rw [p73, p73]
          by_cases h : nI 61 = nI c
          · rw [if_pos h]
            have := nI_inj (a := 61) (b := c) (by decide) (by omega) h
            subst this
            rfl
          · rw [if_neg h]
        rcases hr with rfl | rfl | rfl | rfl
        · rw [if_pos (by decide), p50, pair 300 (by omega)]; rfl
        · rw [if_neg (by decide), if_pos (by decide), p50, pair 301 (by omega)]; rfl
        · rw [if_neg (by decide), if_neg (by decide), if_pos (by decide), p50, pair 302 (by omega)]; rfl
        · rw [if_neg (by decide), if_neg (by decide), if_neg (by decide), if_pos (by decide), p50, pair 303 (by omega)]; rfl
      · rw [if_neg hr] at hP; cases hP
  · rw [if_neg hP]
    unfold isP at hP
    have p50 : ∀ x : Int32, (c = 38 ∨ c = 124 → ¬ x = nI c) → cR_sign_50 (nI c) x 0 s1 = cR_sign_73 (nI c) 0 0 s1 := by
      intro x hx
      unfold cR_sign_50
      by_cases h : x = nI c
      · rw [if_pos h]
        have h38 : ¬ nI c = 38 := fun z => hx (Or.inl (nI_inj (a := c) (b := 38) (by omega) (by decide) z)) h
        have h124 : ¬ nI c = 124 := fun z => hx (Or.inr (nI_inj (a := c) (b := 124) (by omega) (by decide) z)) h
        rw [if_neg h38, if_neg h124]
      · rw [if_neg h]
    rw [← plain]
    by_cases hd2 : d = 256
    · rw [show (if d = 256 then (-1 : Int32) else nI d) = -1 from if_pos hd2, if_neg (by decide)]
      refine p50 _ (fun _ z => ?_)
      have := nI_pos' (n := c) (by omega); rw [← z] at this; exact absurd this (by decide)
    · rw [show (if d = 256 then (-1 : Int32) else nI d) = nI d from if_neg hd2]
      have hx : c = 38 ∨ c = 124 → ¬ nI d = nI c := by
        intro hq z
        rw [if_pos hq] at hP
        have := nI_inj (by omega) (by omega) z
        subst this
        exact hP (beq_y _)
      by_cases h61 : d = 61
      · subst h61
        rw [if_pos (show nI 61 = 61 from rfl)]
        have hn4 : ¬ (c = 61 ∨ c = 33 ∨ c = 60 ∨ c = 62) := by
          intro hr
          rw [if_neg (by omega), if_pos hr] at hP
          exact hP rfl
        rw [if_neg (show ¬ nI c = 61 from fun z => by have := nI_inj (a := c) (b := 61) (by omega) (by decide) z; omega), if_neg (show ¬ nI c = 33 from fun z => by have := nI_inj (a := c) (b := 33) (by omega) (by decide) z; omega), if_neg (show ¬ nI c = 60 from fun z => by have := nI_inj (a := c) (b := 60) (by omega) (by decide) z; omega), if_neg (show ¬ nI c = 62 from fun z => by have := nI_inj (a := c) (b := 62) (by omega) (by decide) z; omega)]
        exact p50 _ hx
      · rw [if_neg (show ¬ nI d = 61 from fun z => by have := nI_inj (a := d) (b := 61) (by omega) (by decide) z; omega)]
        exact p50 _ hx
/-- the reference stands at such a token, or it has found that it is none -/
def NX (s : ts) (t : Nat × Nat × Int64 × Nat) : Prop := (t.1 = 1 → gI s 1103 0 = 1 ∧ gI s 1104 0 = nI t.2.1) ∧ (t.1 ≠ 1 → gI s 1103 0 = 0 ∧ gI s 1106 0 = nI (rt t.1) ∧ gI s 1107 0 = nI t.2.1 ∧ gI s 1105 0 = nI t.2.2.2 ∧ (t.1 = 2 ∨ 512 ≤ t.1 → gJ s 1108 0 = t.2.2.1) ∧ (t.1 = 3 → gI s 1109 0 = t.2.2.1.toInt32))
theorem rt_w {k : Nat} (h : k = 2 ∨ 512 ≤ k) : rt k = 1 := if_pos h
theorem next36_ok {b : Nat → Nat} {n i : Nat} {R : Nat → Int64} {s : ts} (hn : n ≤ 4000) (hi : i ≤ n) (ht : txR s b n) (h1 : gI s 1101 0 = nI n) (h2 : gI s 1105 0 = nI i) (h3 : gI s 1103 0 = 0) : ∃ s1, cR_next_36 s = some s1 ∧ NX s1 (tok1 b n R (sk b (n - i) false i)) := by
  have hsk := sk_le b (n - i) false i
  unfold cR_next_36
  rw [skipR_ok hn hi ht h1 h2, Option.bind_some, gI_wIs]
  generalize sk b (n - i) false i = j at *
  generalize hu : wI (wI s 1105 0 (nI j)) 1107 0 (nI j) = u
  have u1 : gI u 1101 0 = nI n := by rw [← hu]; simp (disch := first | assumption | omega) only [sx, if_pos, if_neg, bnd, Nat.reduceEqDiff, Nat.reduceAdd, Nat.reduceMul, Nat.reduceSub, and_true, true_and, and_false, false_and, or_true, true_or, or_false, false_or, if_true, if_false, eq_self, not_true, not_false_eq_true, h1]
  have u2 : gI u 1105 0 = nI j := by rw [← hu]; simp (disch := first | assumption | omega) only [sx, if_pos, if_neg, bnd, Nat.reduceEqDiff, Nat.reduceAdd, Nat.reduceMul, Nat.reduceSub, and_true, true_and, and_false, false_and, or_true, true_or, or_false, false_or, if_true, if_false, eq_self, not_true, not_false_eq_true]
  have u3 : gI u 1103 0 = 0 := by rw [← hu]; simp (disch := first | assumption | omega) only [sx, if_pos, if_neg, bnd, Nat.reduceEqDiff, Nat.reduceAdd, Nat.reduceMul, Nat.reduceSub, and_true, true_and, and_false, false_and, or_true, true_or, or_false, false_or, if_true, if_false, eq_self, not_true, not_false_eq_true, h3]
  have u7 : gI u 1107 0 = nI j := by rw [← hu]; simp (disch := first | assumption | omega) only [sx, if_pos, if_neg, bnd, Nat.reduceEqDiff, Nat.reduceAdd, Nat.reduceMul, Nat.reduceSub, and_true, true_and, and_false, false_and, or_true, true_or, or_false, false_or, if_true, if_false, eq_self, not_true, not_false_eq_true]
  have ut : txR u b n := by rw [← hu]; exact ht
  rw [peek_x ut hn u1 u2 (by omega), Option.bind_some]
  dsimp only
  unfold tok1
  by_cases hjn : n ≤ j
  · have e : j = n := by omega
    rw [if_pos hjn, show by1 b n j = -1 from if_neg (by omega), if_pos rfl]
    refine ⟨_, rfl, fun z => by dsimp only at z; omega, fun _ => ⟨?_, ?_, ?_, ?_, fun z => ?_, fun z => ?_⟩⟩
    · simp (disch := first | assumption | omega) only [sx, if_pos, if_neg, bnd, Nat.reduceEqDiff, Nat.reduceAdd, Nat.reduceMul, Nat.reduceSub, and_true, true_and, and_false, false_and, or_true, true_or, or_false, false_or, if_true, if_false, eq_self, not_true, not_false_eq_true, u3]
    · simp (disch := first | assumption | omega) only [sx, if_pos, if_neg, bnd, Nat.reduceEqDiff, Nat.reduceAdd, Nat.reduceMul, Nat.reduceSub, and_true, true_and, and_false, false_and, or_true, true_or, or_false, false_or, if_true, if_false, eq_self, not_true, not_false_eq_true]; rfl
    · simp (disch := first | assumption | omega) only [sx, if_pos, if_neg, bnd, Nat.reduceEqDiff, Nat.reduceAdd, Nat.reduceMul, Nat.reduceSub, and_true, true_and, and_false, false_and, or_true, true_or, or_false, false_or, if_true, if_false, eq_self, not_true, not_false_eq_true, u7, e]
    · simp (disch := first | assumption | omega) only [sx, if_pos, if_neg, bnd, Nat.reduceEqDiff, Nat.reduceAdd, Nat.reduceMul, Nat.reduceSub, and_true, true_and, and_false, false_and, or_true, true_or, or_false, false_or, if_true, if_false, eq_self, not_true, not_false_eq_true, u2]
    · dsimp only at z; omega
    · dsimp only at z; omega
  · rw [if_neg hjn]
    have hb := (ut j (by omega)).1
    rw [show by1 b n j = nI (b j) from if_pos (by omega)]
    rw [if_neg (show ¬ nI (b j) = -1 from fun z => by have := nI_pos' (n := b j) (by omega); rw [z] at this; exact absurd this (by decide)), isLetterR hb, Option.bind_some]
    dsimp only
    cases hL : isL (b j) with
    | true =>
      rw [if_neg (by decide), if_pos rfl]
      have := word_lp (i := j) hn (n - j) 0 tm_N (wJ u 1108 0 0) (by omega) (by unfold tm_N; omega) ut (by simp (disch := first | assumption | omega) only [sx, if_pos, if_neg, bnd, Nat.reduceEqDiff, Nat.reduceAdd, Nat.reduceMul, Nat.reduceSub, and_true, true_and, and_false, false_and, or_true, true_or, or_false, false_or, if_true, if_false, eq_self, not_true, not_false_eq_true, u1]) (by simp (disch := first | assumption | omega) only [sx, if_pos, if_neg, bnd, Nat.reduceEqDiff, Nat.reduceAdd, Nat.reduceMul, Nat.reduceSub, and_true, true_and, and_false, false_and, or_true, true_or, or_false, false_or, if_true, if_false, eq_self, not_true, not_false_eq_true, u2]; rfl) (by simp (disch := first | assumption | omega) only [sx, if_pos, if_neg, bnd, Nat.reduceEqDiff, Nat.reduceAdd, Nat.reduceMul, Nat.reduceSub, and_true, true_and, and_false, false_and, or_true, true_or, or_false, false_or, if_true, if_false, eq_self, not_true, not_false_eq_true]; rfl)
      rw [Nat.add_zero] at this
      show ∃ s1, cR_next_80 tm_N (nI 0) (wJ u 1108 0 0) = _ ∧ _
      rw [this]
      generalize rn isW b (n - j) j = e at *
      unfold cR_next_150
      rw [need_b (by simp (disch := first | assumption | omega) only [sx, if_pos, if_neg, bnd, Nat.reduceEqDiff, Nat.reduceAdd, Nat.reduceMul, Nat.reduceSub, and_true, true_and, and_false, false_and, or_true, true_or, or_false, false_or, if_true, if_false, eq_self, not_true, not_false_eq_true, u3]), Option.bind_some, wJ_wJ]
      by_cases h8 : 8 < e - j
      · rw [if_pos h8, ble_f h8, if_neg (show ¬ false = true by decide)]
        refine ⟨_, rfl, fun _ => ⟨?_, ?_⟩, fun z => absurd rfl z⟩
        · simp (disch := first | assumption | omega) only [sx, if_pos, if_neg, bnd, Nat.reduceEqDiff, Nat.reduceAdd, Nat.reduceMul, Nat.reduceSub, and_true, true_and, and_false, false_and, or_true, true_or, or_false, false_or, if_true, if_false, eq_self, not_true, not_false_eq_true]
        · simp (disch := first | assumption | omega) only [sx, if_pos, if_neg, bnd, Nat.reduceEqDiff, Nat.reduceAdd, Nat.reduceMul, Nat.reduceSub, and_true, true_and, and_false, false_and, or_true, true_or, or_false, false_or, if_true, if_false, eq_self, not_true, not_false_eq_true, u7]
      · rw [if_neg h8, ble_t (by omega)]
        have hwk := wk_ge R (wv b j (e - j)) 24 0
        refine ⟨_, rfl, fun z => by dsimp only at z; omega, fun _ => ⟨?_, ?_, ?_, ?_, fun z => ?_, fun z => ?_⟩⟩
        · simp (disch := first | assumption | omega) only [sx, if_pos, if_neg, bnd, Nat.reduceEqDiff, Nat.reduceAdd, Nat.reduceMul, Nat.reduceSub, and_true, true_and, and_false, false_and, or_true, true_or, or_false, false_or, if_true, if_false, eq_self, not_true, not_false_eq_true, u3]
        · rw [rt_w (by dsimp only; omega)]; simp (disch := first | assumption | omega) only [sx, if_pos, if_neg, bnd, Nat.reduceEqDiff, Nat.reduceAdd, Nat.reduceMul, Nat.reduceSub, and_true, true_and, and_false, false_and, or_true, true_or, or_false, false_or, if_true, if_false, eq_self, not_true, not_false_eq_true]
        · simp (disch := first | assumption | omega) only [sx, if_pos, if_neg, bnd, Nat.reduceEqDiff, Nat.reduceAdd, Nat.reduceMul, Nat.reduceSub, and_true, true_and, and_false, false_and, or_true, true_or, or_false, false_or, if_true, if_false, eq_self, not_true, not_false_eq_true, u7]
        · simp (disch := first | assumption | omega) only [sx, if_pos, if_neg, bnd, Nat.reduceEqDiff, Nat.reduceAdd, Nat.reduceMul, Nat.reduceSub, and_true, true_and, and_false, false_and, or_true, true_or, or_false, false_or, if_true, if_false, eq_self, not_true, not_false_eq_true]
        · simp (disch := first | assumption | omega) only [sx, if_pos, if_neg, bnd, Nat.reduceEqDiff, Nat.reduceAdd, Nat.reduceMul, Nat.reduceSub, and_true, true_and, and_false, false_and, or_true, true_or, or_false, false_or, if_true, if_false, eq_self, not_true, not_false_eq_true]
        · dsimp only at z; omega
    | false =>
      rw [if_pos (show bI false = 0 from rfl), if_neg (by decide), isDigitR hb, Option.bind_some]
      dsimp only
      cases hD : isD (b j) with
      | true =>
        rw [if_neg (by decide), if_pos rfl]
        obtain ⟨d, g1, g2⟩ := num_lp (i := j) hn (n - j) 0 tm_N (wI u 1109 0 0) (by omega) (by unfold tm_N; omega) ut (by simp (disch := first | assumption | omega) only [sx, if_pos, if_neg, bnd, Nat.reduceEqDiff, Nat.reduceAdd, Nat.reduceMul, Nat.reduceSub, and_true, true_and, and_false, false_and, or_true, true_or, or_false, false_or, if_true, if_false, eq_self, not_true, not_false_eq_true, u1]) (by simp (disch := first | assumption | omega) only [sx, if_pos, if_neg, bnd, Nat.reduceEqDiff, Nat.reduceAdd, Nat.reduceMul, Nat.reduceSub, and_true, true_and, and_false, false_and, or_true, true_or, or_false, false_or, if_true, if_false, eq_self, not_true, not_false_eq_true, u2]; rfl) (fun _ => by simp (disch := first | assumption | omega) only [sx, if_pos, if_neg, bnd, Nat.reduceEqDiff, Nat.reduceAdd, Nat.reduceMul, Nat.reduceSub, and_true, true_and, and_false, false_and, or_true, true_or, or_false, false_or, if_true, if_false, eq_self, not_true, not_false_eq_true]; rfl)
        rw [Nat.add_zero] at g1 g2
        show ∃ s1, cR_next_169 tm_N (nI 0) (wI u 1109 0 0) = _ ∧ _
        rw [g1]
        generalize rn isD b (n - j) j = e at *
        unfold cR_next_244
        rw [need_b (by simp (disch := first | assumption | omega) only [sx, if_pos, if_neg, bnd, Nat.reduceEqDiff, Nat.reduceAdd, Nat.reduceMul, Nat.reduceSub, and_true, true_and, and_false, false_and, or_true, true_or, or_false, false_or, if_true, if_false, eq_self, not_true, not_false_eq_true, u3]), Option.bind_some, wI_wI]
        by_cases h8 : 9 < e - j
        · rw [if_pos h8, ble_f h8, if_neg (show ¬ false = true by decide)]
          refine ⟨_, rfl, fun _ => ⟨?_, ?_⟩, fun z => absurd rfl z⟩
          · simp (disch := first | assumption | omega) only [sx, if_pos, if_neg, bnd, Nat.reduceEqDiff, Nat.reduceAdd, Nat.reduceMul, Nat.reduceSub, and_true, true_and, and_false, false_and, or_true, true_or, or_false, false_or, if_true, if_false, eq_self, not_true, not_false_eq_true]
          · simp (disch := first | assumption | omega) only [sx, if_pos, if_neg, bnd, Nat.reduceEqDiff, Nat.reduceAdd, Nat.reduceMul, Nat.reduceSub, and_true, true_and, and_false, false_and, or_true, true_or, or_false, false_or, if_true, if_false, eq_self, not_true, not_false_eq_true, u7]
        · rw [if_neg h8, ble_t (by omega)]
          refine ⟨_, rfl, fun z => by dsimp only at z; omega, fun _ => ⟨?_, ?_, ?_, ?_, fun z => ?_, fun z => ?_⟩⟩
          · simp (disch := first | assumption | omega) only [sx, if_pos, if_neg, bnd, Nat.reduceEqDiff, Nat.reduceAdd, Nat.reduceMul, Nat.reduceSub, and_true, true_and, and_false, false_and, or_true, true_or, or_false, false_or, if_true, if_false, eq_self, not_true, not_false_eq_true, u3]
          · simp (disch := first | assumption | omega) only [sx, if_pos, if_neg, bnd, Nat.reduceEqDiff, Nat.reduceAdd, Nat.reduceMul, Nat.reduceSub, and_true, true_and, and_false, false_and, or_true, true_or, or_false, false_or, if_true, if_false, eq_self, not_true, not_false_eq_true]; rfl
          · simp (disch := first | assumption | omega) only [sx, if_pos, if_neg, bnd, Nat.reduceEqDiff, Nat.reduceAdd, Nat.reduceMul, Nat.reduceSub, and_true, true_and, and_false, false_and, or_true, true_or, or_false, false_or, if_true, if_false, eq_self, not_true, not_false_eq_true, u7]
          · simp (disch := first | assumption | omega) only [sx, if_pos, if_neg, bnd, Nat.reduceEqDiff, Nat.reduceAdd, Nat.reduceMul, Nat.reduceSub, and_true, true_and, and_false, false_and, or_true, true_or, or_false, false_or, if_true, if_false, eq_self, not_true, not_false_eq_true]
          · dsimp only at z; omega
          · simp (disch := first | assumption | omega) only [sx, if_pos, if_neg, bnd, Nat.reduceEqDiff, Nat.reduceAdd, Nat.reduceMul, Nat.reduceSub, and_true, true_and, and_false, false_and, or_true, true_or, or_false, false_or, if_true, if_false, eq_self, not_true, not_false_eq_true, g2 (by omega)]
      | false =>
        rw [if_pos (show bI false = 0 from rfl), if_neg (by decide)]
        rw [sign_ok hn (by omega) ut u1 u2 u3, Option.bind_some]
        by_cases hP : isP (b j) (if j + 1 < n then b (j + 1) else 256) = true
        · rw [if_pos hP, if_pos hP]
          refine ⟨_, rfl, fun z => by dsimp only at z; omega, fun _ => ⟨?_, ?_, ?_, ?_, fun z => ?_, fun z => ?_⟩⟩
          · simp (disch := first | assumption | omega) only [sx, if_pos, if_neg, bnd, Nat.reduceEqDiff, Nat.reduceAdd, Nat.reduceMul, Nat.reduceSub, and_true, true_and, and_false, false_and, or_true, true_or, or_false, false_or, if_true, if_false, eq_self, not_true, not_false_eq_true, u3]
          · simp (disch := first | assumption | omega) only [sx, if_pos, if_neg, bnd, Nat.reduceEqDiff, Nat.reduceAdd, Nat.reduceMul, Nat.reduceSub, and_true, true_and, and_false, false_and, or_true, true_or, or_false, false_or, if_true, if_false, eq_self, not_true, not_false_eq_true]
          · simp (disch := first | assumption | omega) only [sx, if_pos, if_neg, bnd, Nat.reduceEqDiff, Nat.reduceAdd, Nat.reduceMul, Nat.reduceSub, and_true, true_and, and_false, false_and, or_true, true_or, or_false, false_or, if_true, if_false, eq_self, not_true, not_false_eq_true, u7]
          · simp (disch := first | assumption | omega) only [sx, if_pos, if_neg, bnd, Nat.reduceEqDiff, Nat.reduceAdd, Nat.reduceMul, Nat.reduceSub, and_true, true_and, and_false, false_and, or_true, true_or, or_false, false_or, if_true, if_false, eq_self, not_true, not_false_eq_true]
          · dsimp only at z; omega
          · dsimp only at z; omega
        · rw [if_neg hP, if_neg hP]
          by_cases hS : isS (b j) = true
          · rw [if_pos hS, if_pos hS]
            have hge := isS_ge hS
            have hrt : rt (b j) = b j := by
              unfold rt
              rw [if_neg (by omega), if_neg (by omega), if_neg (by omega), if_neg (by omega), if_neg (by omega), if_neg (by omega), if_neg (by omega), if_neg (by omega)]
            refine ⟨_, rfl, fun z => by dsimp only at z; omega, fun _ => ⟨?_, ?_, ?_, ?_, fun z => ?_, fun z => ?_⟩⟩
            · simp (disch := first | assumption | omega) only [sx, if_pos, if_neg, bnd, Nat.reduceEqDiff, Nat.reduceAdd, Nat.reduceMul, Nat.reduceSub, and_true, true_and, and_false, false_and, or_true, true_or, or_false, false_or, if_true, if_false, eq_self, not_true, not_false_eq_true, u3]
            · simp (disch := first | assumption | omega) only [sx, if_pos, if_neg, bnd, Nat.reduceEqDiff, Nat.reduceAdd, Nat.reduceMul, Nat.reduceSub, and_true, true_and, and_false, false_and, or_true, true_or, or_false, false_or, if_true, if_false, eq_self, not_true, not_false_eq_true, hrt]
            · simp (disch := first | assumption | omega) only [sx, if_pos, if_neg, bnd, Nat.reduceEqDiff, Nat.reduceAdd, Nat.reduceMul, Nat.reduceSub, and_true, true_and, and_false, false_and, or_true, true_or, or_false, false_or, if_true, if_false, eq_self, not_true, not_false_eq_true, u7]
            · simp (disch := first | assumption | omega) only [sx, if_pos, if_neg, bnd, Nat.reduceEqDiff, Nat.reduceAdd, Nat.reduceMul, Nat.reduceSub, and_true, true_and, and_false, false_and, or_true, true_or, or_false, false_or, if_true, if_false, eq_self, not_true, not_false_eq_true]
            · dsimp only at z; omega
            · dsimp only at z; omega
          · rw [if_neg hS, if_neg hS]
            refine ⟨_, rfl, fun _ => ⟨?_, ?_⟩, fun z => absurd rfl z⟩
            · simp (disch := first | assumption | omega) only [sx, if_pos, if_neg, bnd, Nat.reduceEqDiff, Nat.reduceAdd, Nat.reduceMul, Nat.reduceSub, and_true, true_and, and_false, false_and, or_true, true_or, or_false, false_or, if_true, if_false, eq_self, not_true, not_false_eq_true]
            · simp (disch := first | assumption | omega) only [sx, if_pos, if_neg, bnd, Nat.reduceEqDiff, Nat.reduceAdd, Nat.reduceMul, Nat.reduceSub, and_true, true_and, and_false, false_and, or_true, true_or, or_false, false_or, if_true, if_false, eq_self, not_true, not_false_eq_true, u7]
theorem next_ok {b : Nat → Nat} {n i : Nat} {R : Nat → Int64} {an : Bool} {s : ts} (hn : n ≤ 4000) (hi : i ≤ n) (ht : txR s b n) (h1 : gI s 1101 0 = nI n) (h2 : gI s 1105 0 = nI i) (h3 : gI s 1103 0 = 0) (h4 : gI s 1106 0 = 2 ↔ an = true) : ∃ s1, cR_next s = some s1 ∧ fr wf_cR_next s s1 ∧ NX s1 (tok b n R an i) := by
  have e0 : cR_next s = if (an = true ∧ i < n ∧ isL (b i) = true) then some (wI (wI s 1103 0 1) 1104 0 (nI i)) else cR_next_36 s := by
    unfold cR_next
    have hg : cR_good s = some (1, s) := by unfold cR_good; rw [if_pos h3]
    rw [hg, Option.bind_some]
    dsimp only
    rw [if_neg (by decide)]
    by_cases hA : an = true
    · rw [if_pos (h4.mpr hA), peek_x ht hn h1 h2 (by omega), Option.bind_some]
      dsimp only
      by_cases hin : i < n
      · rw [show by1 b n i = nI (b i) from if_pos hin, isLetterR (ht i hin).1, Option.bind_some]
        dsimp only
        cases hL : isL (b i) with
        | true => rw [if_neg (by decide), if_pos ⟨hA, hin, rfl⟩, h2, fail_ok h3]; rfl
        | false => rw [if_pos (show bI false = 0 from rfl), if_neg (fun z => by cases z.2.2)]
      · rw [show by1 b n i = -1 from if_neg hin, isLetter1, Option.bind_some]
        dsimp only
        rw [if_pos rfl, if_neg (fun z => hin z.2.1)]
    · rw [if_neg (fun z => hA (h4.mp z)), if_neg (fun z => hA z.1)]
  unfold tok
  by_cases hc : an = true ∧ i < n ∧ isL (b i) = true
  · rw [if_pos hc] at e0
    rw [if_pos hc]
    refine ⟨_, e0, cR_next_fr _ _ e0, fun _ => ⟨?_, ?_⟩, fun z => absurd rfl z⟩
    · simp (disch := first | assumption | omega) only [sx, if_pos, if_neg, bnd, Nat.reduceEqDiff, Nat.reduceAdd, Nat.reduceMul, Nat.reduceSub, and_true, true_and, and_false, false_and, or_true, true_or, or_false, false_or, if_true, if_false, eq_self, not_true, not_false_eq_true]
    · simp (disch := first | assumption | omega) only [sx, if_pos, if_neg, bnd, Nat.reduceEqDiff, Nat.reduceAdd, Nat.reduceMul, Nat.reduceSub, and_true, true_and, and_false, false_and, or_true, true_or, or_false, false_or, if_true, if_false, eq_self, not_true, not_false_eq_true]
  · rw [if_neg hc] at e0
    rw [if_neg hc]
    obtain ⟨s1, g1, g2⟩ := next36_ok (R := R) hn hi ht h1 h2 h3
    exact ⟨s1, e0.trans g1, cR_next_fr _ _ (e0.trans g1), g2⟩
