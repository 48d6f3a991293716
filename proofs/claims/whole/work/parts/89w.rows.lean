/-! ROWS of the reference: who waits at a place. -/
def rw1 (b : ts) (ρ : Nat) (l : List (Nat × Int32)) : Prop := gA b 136 ρ = nI l.length ∧ l.length ≤ 300 ∧ ∀ i y, l[i]? = some y → gA b 137 (300 * ρ + i) = nI y.1 ∧ gA b 138 (300 * ρ + i) = y.2
def Kr (ρ : Nat) (b b1 : ts) : Prop := ∀ ρ', ¬ ρ' = ρ → gA b1 136 ρ' = gA b 136 ρ' ∧ ∀ i, i < 300 → gA b1 137 (300 * ρ' + i) = gA b 137 (300 * ρ' + i) ∧ gA b1 138 (300 * ρ' + i) = gA b 138 (300 * ρ' + i)
theorem Kr_rf {ρ : Nat} {b : ts} : Kr ρ b b := fun _ _ => ⟨rfl, fun _ _ => ⟨rfl, rfl⟩⟩
theorem Kr_tr {ρ : Nat} {b b1 b2 : ts} (h : Kr ρ b b1) (k : Kr ρ b1 b2) : Kr ρ b b2 := fun ρ' hn => ⟨(k ρ' hn).1.trans (h ρ' hn).1, fun i hi => ⟨((k ρ' hn).2 i hi).1.trans ((h ρ' hn).2 i hi).1, ((k ρ' hn).2 i hi).2.trans ((h ρ' hn).2 i hi).2⟩⟩
theorem rw1_o {ρ ρ' : Nat} {b b1 : ts} {l : List (Nat × Int32)} (h : rw1 b ρ' l) (k : Kr ρ b b1) (hn : ¬ ρ' = ρ) : rw1 b1 ρ' l := by
  obtain ⟨h1, h2, h3⟩ := h
  refine ⟨(k ρ' hn).1.trans h1, h2, fun i y hi => ?_⟩
  have := getE_lt hi
  rw [((k ρ' hn).2 i (by omega)).1, ((k ρ' hn).2 i (by omega)).2]; exact h3 i y hi
theorem Kr_w {ρ i : Nat} {b : ts} {r : Nat} {v : Int32} (hr : r = 137 ∨ r = 138) (hi : i < 300) : Kr ρ b (wA b r (300 * ρ + i) v) := by
  intro ρ' hn
  rcases hr with e | e
  · subst e
    refine ⟨by simp (disch := first | assumption | omega) only [sx, if_pos, if_neg, bnd, Nat.reduceEqDiff, Nat.reduceAdd, Nat.reduceMul, Nat.reduceSub, and_true, true_and, and_false, false_and, or_true, true_or, or_false, false_or, if_true, if_false, eq_self, not_true, not_false_eq_true], fun k hk => ⟨?_, by simp (disch := first | assumption | omega) only [sx, if_pos, if_neg, bnd, Nat.reduceEqDiff, Nat.reduceAdd, Nat.reduceMul, Nat.reduceSub, and_true, true_and, and_false, false_and, or_true, true_or, or_false, false_or, if_true, if_false, eq_self, not_true, not_false_eq_true]⟩⟩
    rw [gA_wAn]
    intro z
    apply hn
    omega
  · subst e
    refine ⟨by simp (disch := first | assumption | omega) only [sx, if_pos, if_neg, bnd, Nat.reduceEqDiff, Nat.reduceAdd, Nat.reduceMul, Nat.reduceSub, and_true, true_and, and_false, false_and, or_true, true_or, or_false, false_or, if_true, if_false, eq_self, not_true, not_false_eq_true], fun k hk => ⟨by simp (disch := first | assumption | omega) only [sx, if_pos, if_neg, bnd, Nat.reduceEqDiff, Nat.reduceAdd, Nat.reduceMul, Nat.reduceSub, and_true, true_and, and_false, false_and, or_true, true_or, or_false, false_or, if_true, if_false, eq_self, not_true, not_false_eq_true], ?_⟩⟩
    rw [gA_wAn]
    intro z
    apply hn
    omega
theorem Kr_n {ρ : Nat} {b : ts} {v : Int32} : Kr ρ b (wA b 136 ρ v) := by
  intro ρ' hn
  exact ⟨gA_wAn hn, fun k hk => ⟨by simp (disch := first | assumption | omega) only [sx, if_pos, if_neg, bnd, Nat.reduceEqDiff, Nat.reduceAdd, Nat.reduceMul, Nat.reduceSub, and_true, true_and, and_false, false_and, or_true, true_or, or_false, false_or, if_true, if_false, eq_self, not_true, not_false_eq_true], by simp (disch := first | assumption | omega) only [sx, if_pos, if_neg, bnd, Nat.reduceEqDiff, Nat.reduceAdd, Nat.reduceMul, Nat.reduceSub, and_true, true_and, and_false, false_and, or_true, true_or, or_false, false_or, if_true, if_false, eq_self, not_true, not_false_eq_true]⟩⟩
/-- the places behind move up by one -/
theorem enter_lp {ρ c : Nat} {x v : Int32} (hρ : ρ < 28) : ∀ (m F : Nat) (b : ts), m < F → c + m < 300 → ∃ b1, cR_enter_8 F (nI ρ) x v (nI c) (nI (c + m)) b = some b1 ∧ gA b1 136 ρ = gA b 136 ρ + 1 ∧ fr [2136, 2137, 2138] b b1 ∧ Kr ρ b b1 ∧ gA b1 137 (300 * ρ + c) = x ∧ gA b1 138 (300 * ρ + c) = v ∧ (∀ i, i < c → gA b1 137 (300 * ρ + i) = gA b 137 (300 * ρ + i) ∧ gA b1 138 (300 * ρ + i) = gA b 138 (300 * ρ + i)) ∧ (∀ i, c ≤ i → i < c + m → gA b1 137 (300 * ρ + (i + 1)) = gA b 137 (300 * ρ + i) ∧ gA b1 138 (300 * ρ + (i + 1)) = gA b 138 (300 * ρ + i)) ∧ ∀ i, c + m < i → i < 300 → gA b1 137 (300 * ρ + i) = gA b 137 (300 * ρ + i) ∧ gA b1 138 (300 * ρ + i) = gA b 138 (300 * ρ + i) := by
  have e3 : (300 : Int32) * nI ρ = nI (300 * ρ) := pk_mul 300 ρ
  intro m
  induction m with
  | zero =>
    intro F b h1 h2
    have hF0 : ∃ F0, F = F0 + 1 := ⟨F - 1, by omega⟩
    obtain ⟨F0, hF0⟩ := hF0
    refine ⟨wA (wA (wA b 137 (300 * ρ + c) x) 138 (300 * ρ + c) v) 136 ρ (gA b 136 ρ + 1), ?_, gA_wAs, fr_wA (fr_wA (fr_wA fr_rf rfl) rfl) rfl, Kr_tr (Kr_tr (Kr_w (Or.inl rfl) (by omega)) (Kr_w (Or.inr rfl) (by omega))) Kr_n, by simp (disch := first | assumption | omega) only [sx, if_pos, if_neg, bnd, Nat.reduceEqDiff, Nat.reduceAdd, Nat.reduceMul, Nat.reduceSub, and_true, true_and, and_false, false_and, or_true, true_or, or_false, false_or, if_true, if_false, eq_self, not_true, not_false_eq_true], by simp (disch := first | assumption | omega) only [sx, if_pos, if_neg, bnd, Nat.reduceEqDiff, Nat.reduceAdd, Nat.reduceMul, Nat.reduceSub, and_true, true_and, and_false, false_and, or_true, true_or, or_false, false_or, if_true, if_false, eq_self, not_true, not_false_eq_true], fun i hi => ⟨by simp (disch := first | assumption | omega) only [sx, if_pos, if_neg, bnd, Nat.reduceEqDiff, Nat.reduceAdd, Nat.reduceMul, Nat.reduceSub, and_true, true_and, and_false, false_and, or_true, true_or, or_false, false_or, if_true, if_false, eq_self, not_true, not_false_eq_true], by simp (disch := first | assumption | omega) only [sx, if_pos, if_neg, bnd, Nat.reduceEqDiff, Nat.reduceAdd, Nat.reduceMul, Nat.reduceSub, and_true, true_and, and_false, false_and, or_true, true_or, or_false, false_or, if_true, if_false, eq_self, not_true, not_false_eq_true]⟩, fun i h4 h5 => by omega, fun i h4 h5 => ⟨by simp (disch := first | assumption | omega) only [sx, if_pos, if_neg, bnd, Nat.reduceEqDiff, Nat.reduceAdd, Nat.reduceMul, Nat.reduceSub, and_true, true_and, and_false, false_and, or_true, true_or, or_false, false_or, if_true, if_false, eq_self, not_true, not_false_eq_true], by simp (disch := first | assumption | omega) only [sx, if_pos, if_neg, bnd, Nat.reduceEqDiff, Nat.reduceAdd, Nat.reduceMul, Nat.reduceSub, and_true, true_and, and_false, false_and, or_true, true_or, or_false, false_or, if_true, if_false, eq_self, not_true, not_false_eq_true]⟩⟩
    rw [hF0, cR_enter_8.eq_2]
    unfold cR_enter_8_b
    rw [if_pos (show nI (c + 0) ≤ nI c from nI_le (by omega) (by omega)), e3, nI_add, if_pos (nI_idx (by omega) (by decide)), if_pos (nI_idx hρ (by decide)), nI_clamp (by omega), nI_clamp (by omega)]
    rfl
  | succ m ih =>
    intro F b h1 h2
    have hF0 : ∃ F0, F = F0 + 1 := ⟨F - 1, by omega⟩
    obtain ⟨F0, hF0⟩ := hF0
    have i1 : (300 : Int32) * nI ρ + nI (c + (m + 1)) - 1 = nI (300 * ρ + (c + m)) := by
      rw [e3, nI_add, show 300 * ρ + (c + (m + 1)) = 300 * ρ + (c + m) + 1 by omega]; exact nI_pred _
    have i2 : (300 : Int32) * nI ρ + nI (c + (m + 1)) = nI (300 * ρ + (c + m + 1)) := by rw [e3, nI_add]; rfl
    have i3 : nI (c + (m + 1)) + (-1 : Int32) = nI (c + m) := by
      rw [show (-1 : Int32) = -(1 : Int32) from rfl, ← Int32.sub_eq_add_neg]; exact nI_pred (c + m)
    -- one place moves
    generalize hb1 : wA (wA b 137 (300 * ρ + (c + m + 1)) (gA b 137 (300 * ρ + (c + m)))) 138 (300 * ρ + (c + m + 1)) (gA b 138 (300 * ρ + (c + m))) = b1
    have f1 : fr [2136, 2137, 2138] b b1 := by rw [← hb1]; exact fr_wA (fr_wA fr_rf rfl) rfl
    have k1 : Kr ρ b b1 := by rw [← hb1]; exact Kr_tr (Kr_w (Or.inl rfl) (by omega)) (Kr_w (Or.inr rfl) (by omega))
    have n1 : gA b1 136 ρ = gA b 136 ρ := by rw [← hb1]; simp (disch := first | assumption | omega) only [sx, if_pos, if_neg, bnd, Nat.reduceEqDiff, Nat.reduceAdd, Nat.reduceMul, Nat.reduceSub, and_true, true_and, and_false, false_and, or_true, true_or, or_false, false_or, if_true, if_false, eq_self, not_true, not_false_eq_true]
    have v1 : gA b1 137 (300 * ρ + (c + m + 1)) = gA b 137 (300 * ρ + (c + m)) ∧ gA b1 138 (300 * ρ + (c + m + 1)) = gA b 138 (300 * ρ + (c + m)) := by rw [← hb1]; exact ⟨by simp (disch := first | assumption | omega) only [sx, if_pos, if_neg, bnd, Nat.reduceEqDiff, Nat.reduceAdd, Nat.reduceMul, Nat.reduceSub, and_true, true_and, and_false, false_and, or_true, true_or, or_false, false_or, if_true, if_false, eq_self, not_true, not_false_eq_true], by simp (disch := first | assumption | omega) only [sx, if_pos, if_neg, bnd, Nat.reduceEqDiff, Nat.reduceAdd, Nat.reduceMul, Nat.reduceSub, and_true, true_and, and_false, false_and, or_true, true_or, or_false, false_or, if_true, if_false, eq_self, not_true, not_false_eq_true]⟩
    have o1 : ∀ i, ¬ i = c + m + 1 → gA b1 137 (300 * ρ + i) = gA b 137 (300 * ρ + i) ∧ gA b1 138 (300 * ρ + i) = gA b 138 (300 * ρ + i) := by
      intro i hi
      rw [← hb1]; exact ⟨by simp (disch := first | assumption | omega) only [sx, if_pos, if_neg, bnd, Nat.reduceEqDiff, Nat.reduceAdd, Nat.reduceMul, Nat.reduceSub, and_true, true_and, and_false, false_and, or_true, true_or, or_false, false_or, if_true, if_false, eq_self, not_true, not_false_eq_true], by simp (disch := first | assumption | omega) only [sx, if_pos, if_neg, bnd, Nat.reduceEqDiff, Nat.reduceAdd, Nat.reduceMul, Nat.reduceSub, and_true, true_and, and_false, false_and, or_true, true_or, or_false, false_or, if_true, if_false, eq_self, not_true, not_false_eq_true]⟩
    have e1 : cR_enter_8 F (nI ρ) x v (nI c) (nI (c + (m + 1))) b = cR_enter_8 F0 (nI ρ) x v (nI c) (nI (c + m)) b1 := by
      rw [hF0, cR_enter_8.eq_2]
      unfold cR_enter_8_b
      rw [if_neg (show ¬ nI (c + (m + 1)) ≤ nI c from nI_ge (by omega) (by omega)), i1, i2, i3, if_pos (nI_idx (by omega) (by decide)), if_pos (nI_idx (by omega) (by decide)), nI_clamp (by omega), nI_clamp (by omega), show gA (wA b 137 (300 * ρ + (c + m + 1)) (gA b 137 (300 * ρ + (c + m)))) 138 (300 * ρ + (c + m)) = gA b 138 (300 * ρ + (c + m)) from rfl, hb1]
    obtain ⟨b2, y1, y2, y3, y4, y5, y6, y7, y8, y9⟩ := ih F0 b1 (by omega) (by omega)
    refine ⟨b2, e1.trans y1, y2.trans (by rw [n1]), fr_tr f1 y3, Kr_tr k1 y4, y5, y6, fun i hi => ?_, fun i h3 h4 => ?_, fun i h3 h4 => ?_⟩
    · rw [(y7 i hi).1, (y7 i hi).2]; exact o1 i (by omega)
    · by_cases e : i = c + m
      · rw [e]
        have := y9 (c + m + 1) (by omega) (by omega)
        rw [this.1, this.2]; exact v1
      · have := y8 i h3 (by omega)
        rw [this.1, this.2]; exact o1 i (by omega)
    · have := y9 i (by omega) h4
      rw [this.1, this.2]; exact o1 i (by omega)
/-- who enters a row stands at its place -/
theorem enter_ok {ρ : Nat} {p : Nat} {v : Int32} {A B : List (Nat × Int32)} {b : ts} (hρ : ρ < 28) (h : rw1 b ρ (A ++ B)) (hn : (A ++ B).length < 300) : ∃ b1, cR_enter (nI ρ) (nI p) v (nI A.length) b = some b1 ∧ fr [2136, 2137, 2138] b b1 ∧ Kr ρ b b1 ∧ rw1 b1 ρ (A ++ (p, v) :: B) := by
  obtain ⟨h1, h2, h3⟩ := h
  have hl : (A ++ B).length = A.length + B.length := List.length_append
  obtain ⟨b1, y1, y2, y3, y4, y5, y6, y7, y8, -⟩ := enter_lp (c := A.length) (x := nI p) (v := v) hρ B.length tm_N b (by unfold tm_N; omega) (by omega)
  refine ⟨b1, ?_, y3, y4, ?_, ?_, ?_⟩
  · unfold cR_enter
    rw [if_pos (nI_idx hρ (by decide)), nI_clamp (by omega), h1, hl]
    exact y1
  · rw [y2, h1, hl, List.length_append, List.length_cons]; exact nI_add _ 1
  · rw [List.length_append, List.length_cons]; omega
  · intro i y hi
    by_cases c1 : i < A.length
    · rw [List.getElem?_append_left c1] at hi
      rw [(y7 i c1).1, (y7 i c1).2]
      exact h3 i y (by rw [List.getElem?_append_left c1]; exact hi)
    · rw [List.getElem?_append_right (by omega)] at hi
      by_cases c2 : i = A.length
      · rw [c2, Nat.sub_self] at hi
        have := Option.some.inj hi
        rw [← this, c2]; exact ⟨y5, y6⟩
      · obtain ⟨k, hk⟩ : ∃ k, i = A.length + k + 1 := ⟨i - A.length - 1, by omega⟩
        have e : (((p, v) :: B)[i - A.length]?) = B[k]? := by rw [hk, show A.length + k + 1 - A.length = k + 1 by omega]; rfl
        rw [e] at hi
        have hk2 := getE_lt hi
        rw [hk, show 300 * ρ + (A.length + k + 1) = 300 * ρ + ((A.length + k) + 1) by omega, (y8 (A.length + k) (by omega) (by omega)).1, (y8 (A.length + k) (by omega) (by omega)).2]
        exact h3 (A.length + k) y (by rw [List.getElem?_append_right (by omega), show A.length + k - A.length = k by omega]; exact hi)
