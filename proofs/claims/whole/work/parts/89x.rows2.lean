/-! ROWS of the reference: leaving, looking. -/
theorem dropR_lp {ρ : Nat} (hρ : ρ < 28) : ∀ (m i F : Nat) (b : ts), gA b 136 ρ = nI (i + m) → i + m < 300 → m < F → ∃ b1, cR_drop_12 F (nI ρ) (nI i) b = some b1 ∧ gA b1 136 ρ = gA b 136 ρ ∧ fr [2136, 2137, 2138] b b1 ∧ Kr ρ b b1 ∧ (∀ j, j < i → gA b1 137 (300 * ρ + j) = gA b 137 (300 * ρ + j) ∧ gA b1 138 (300 * ρ + j) = gA b 138 (300 * ρ + j)) ∧ ∀ j, i ≤ j → j < i + m → gA b1 137 (300 * ρ + j) = gA b 137 (300 * ρ + (j + 1)) ∧ gA b1 138 (300 * ρ + j) = gA b 138 (300 * ρ + (j + 1)) := by
  have e3 : (300 : Int32) * nI ρ = nI (300 * ρ) := pk_mul 300 ρ
  intro m
  induction m with
  | zero =>
    intro i F b h1 h2 h3
    have hF0 : ∃ F0, F = F0 + 1 := ⟨F - 1, by omega⟩
    obtain ⟨F0, hF0⟩ := hF0
    refine ⟨b, ?_, rfl, fr_rf, Kr_rf, fun j hj => ⟨rfl, rfl⟩, fun j h4 h5 => by omega⟩
    rw [hF0, cR_drop_12.eq_2]
    unfold cR_drop_12_b
    rw [if_pos (nI_idx hρ (by decide)), nI_clamp (by omega), h1, if_pos (nI_le (by omega) (by omega))]
  | succ m ih =>
    intro i F b h1 h2 h3
    have hF0 : ∃ F0, F = F0 + 1 := ⟨F - 1, by omega⟩
    obtain ⟨F0, hF0⟩ := hF0
    have i1 : (300 : Int32) * nI ρ + nI i + 1 = nI (300 * ρ + (i + 1)) := by
      rw [e3, nI_add]; exact nI_add _ 1
    have i2 : (300 : Int32) * nI ρ + nI i = nI (300 * ρ + i) := by rw [e3, nI_add]
    generalize hb1 : wA (wA b 137 (300 * ρ + i) (gA b 137 (300 * ρ + (i + 1)))) 138 (300 * ρ + i) (gA b 138 (300 * ρ + (i + 1))) = b1
    have f1 : fr [2136, 2137, 2138] b b1 := by rw [← hb1]; exact fr_wA (fr_wA fr_rf rfl) rfl
    have k1 : Kr ρ b b1 := by rw [← hb1]; exact Kr_tr (Kr_w (Or.inl rfl) (by omega)) (Kr_w (Or.inr rfl) (by omega))
    have n1 : gA b1 136 ρ = gA b 136 ρ := by rw [← hb1]; rfl
    have v1 : gA b1 137 (300 * ρ + i) = gA b 137 (300 * ρ + (i + 1)) ∧ gA b1 138 (300 * ρ + i) = gA b 138 (300 * ρ + (i + 1)) := by rw [← hb1]; exact ⟨by simp (disch := first | assumption | omega) only [sx, if_pos, if_neg, bnd, Nat.reduceEqDiff, Nat.reduceAdd, Nat.reduceMul, Nat.reduceSub, and_true, true_and, and_false, false_and, or_true, true_or, or_false, false_or, if_true, if_false, eq_self, not_true, not_false_eq_true], by simp (disch := first | assumption | omega) only [sx, if_pos, if_neg, bnd, Nat.reduceEqDiff, Nat.reduceAdd, Nat.reduceMul, Nat.reduceSub, and_true, true_and, and_false, false_and, or_true, true_or, or_false, false_or, if_true, if_false, eq_self, not_true, not_false_eq_true]⟩
    have o1 : ∀ j, ¬ j = i → gA b1 137 (300 * ρ + j) = gA b 137 (300 * ρ + j) ∧ gA b1 138 (300 * ρ + j) = gA b 138 (300 * ρ + j) := by
      intro j hj
      rw [← hb1]; exact ⟨by simp (disch := first | assumption | omega) only [sx, if_pos, if_neg, bnd, Nat.reduceEqDiff, Nat.reduceAdd, Nat.reduceMul, Nat.reduceSub, and_true, true_and, and_false, false_and, or_true, true_or, or_false, false_or, if_true, if_false, eq_self, not_true, not_false_eq_true], by simp (disch := first | assumption | omega) only [sx, if_pos, if_neg, bnd, Nat.reduceEqDiff, Nat.reduceAdd, Nat.reduceMul, Nat.reduceSub, and_true, true_and, and_false, false_and, or_true, true_or, or_false, false_or, if_true, if_false, eq_self, not_true, not_false_eq_true]⟩
    have e1 : cR_drop_12 F (nI ρ) (nI i) b = cR_drop_12 F0 (nI ρ) (nI (i + 1)) b1 := by
      rw [hF0, cR_drop_12.eq_2]
      unfold cR_drop_12_b
      rw [if_pos (nI_idx hρ (by decide)), nI_clamp (by omega), h1, if_neg (show ¬ nI (i + (m + 1)) ≤ nI i from nI_ge (by omega) (by omega)), i1, i2, if_pos (nI_idx (by omega) (by decide)), if_pos (nI_idx (by omega) (by decide)), nI_clamp (by omega), nI_clamp (by omega), show gA (wA b 137 (300 * ρ + i) (gA b 137 (300 * ρ + (i + 1)))) 138 (300 * ρ + (i + 1)) = gA b 138 (300 * ρ + (i + 1)) from rfl, hb1, show nI i + (1 : Int32) = nI (i + 1) from nI_add i 1]
    obtain ⟨b2, y1, y2, y3, y4, y5, y6⟩ := ih (i + 1) F0 b1 (by rw [n1, h1]; congr 1; omega) (by omega) (by omega)
    refine ⟨b2, e1.trans y1, y2.trans n1, fr_tr f1 y3, Kr_tr k1 y4, fun j hj => ?_, fun j h4 h5 => ?_⟩
    · rw [(y5 j (by omega)).1, (y5 j (by omega)).2]; exact o1 j (by omega)
    · by_cases e : j = i
      · rw [e, (y5 i (by omega)).1, (y5 i (by omega)).2]; exact v1
      · rw [(y6 j (by omega) (by omega)).1, (y6 j (by omega) (by omega)).2]; exact o1 (j + 1) (by omega)
/-- one leaves a row -/
theorem dropR_ok {ρ : Nat} {y : Nat × Int32} {A B : List (Nat × Int32)} {b : ts} (hρ : ρ < 28) (h : rw1 b ρ (A ++ y :: B)) : ∃ b1, cR_drop (nI ρ) (nI A.length) b = some b1 ∧ fr [2136, 2137, 2138] b b1 ∧ Kr ρ b b1 ∧ rw1 b1 ρ (A ++ B) := by
  obtain ⟨h1, h2, h3⟩ := h
  have hl : (A ++ y :: B).length = A.length + B.length + 1 := by rw [List.length_append, List.length_cons]; omega
  have hl2 : (A ++ B).length = A.length + B.length := List.length_append
  generalize hb0 : wA b 136 ρ (nI (A.length + B.length)) = b0
  have e1 : gA b0 136 ρ = nI (A.length + B.length) := by rw [← hb0]; exact gA_wAs
  have o1 : ∀ i, gA b0 137 i = gA b 137 i ∧ gA b0 138 i = gA b 138 i := by intro i; rw [← hb0]; exact ⟨rfl, rfl⟩
  obtain ⟨b1, y1, y2, y3, y4, y5, y6⟩ := dropR_lp hρ B.length A.length tm_N b0 e1 (by omega) (by unfold tm_N; omega)
  refine ⟨b1, ?_, fr_tr (by rw [← hb0]; exact fr_wA fr_rf rfl) y3, Kr_tr (by rw [← hb0]; exact Kr_n) y4, ?_, by omega, ?_⟩
  · unfold cR_drop
    rw [if_pos (nI_idx hρ (by decide)), nI_clamp (by omega), h1, hl, show nI (A.length + B.length + 1) - 1 = nI (A.length + B.length) from nI_pred _, hb0]
    exact y1
  · rw [y2, e1, hl2]
  · intro i z hi
    by_cases c1 : i < A.length
    · rw [List.getElem?_append_left c1] at hi
      rw [(y5 i c1).1, (y5 i c1).2, (o1 _).1, (o1 _).2]
      exact h3 i z (by rw [List.getElem?_append_left c1]; exact hi)
    · rw [List.getElem?_append_right (by omega)] at hi
      have hk2 := getE_lt hi
      rw [(y6 i (by omega) (by omega)).1, (y6 i (by omega) (by omega)).2, (o1 _).1, (o1 _).2]
      refine h3 (i + 1) z ?_
      rw [List.getElem?_append_right (by omega), show i + 1 - A.length = (i - A.length) + 1 by omega]; exact hi
theorem leave_lp {ρ p : Nat} (hρ : ρ < 28) (hp : p < 300) : ∀ (m F : Nat) (A B : List (Nat × Int32)) (b : ts), A.length = m → m < F → (∀ y ∈ A, y.1 < 300) → rw1 b ρ (A ++ B) → ∃ b1, cR_leaveRow_9 F (nI ρ) (nI p) (nI m - 1) b = some b1 ∧ fr [2136, 2137, 2138] b b1 ∧ Kr ρ b b1 ∧ rw1 b1 ρ (A.filter (fun y => decide (¬ y.1 = p)) ++ B) := by
  have e3 : (300 : Int32) * nI ρ = nI (300 * ρ) := pk_mul 300 ρ
  intro m
  induction m with
  | zero =>
    intro F A B b h1 h2 h3 h4
    have hF0 : ∃ F0, F = F0 + 1 := ⟨F - 1, by omega⟩
    obtain ⟨F0, hF0⟩ := hF0
    have hA : A = [] := List.length_eq_zero_iff.mp h1
    refine ⟨b, ?_, fr_rf, Kr_rf, by rw [hA] at h4 ⊢; exact h4⟩
    rw [hF0, cR_leaveRow_9.eq_2]
    unfold cR_leaveRow_9_b
    rw [if_pos (by decide)]
  | succ m ih =>
    intro F A B b h1 h2 h3 h4
    have hF0 : ∃ F0, F = F0 + 1 := ⟨F - 1, by omega⟩
    obtain ⟨F0, hF0⟩ := hF0
    obtain ⟨A', y, hA⟩ : ∃ A' y, A = A' ++ [y] := by
      cases hg : A.getLast? with
      | none => rw [List.getLast?_eq_none_iff.mp hg] at h1; cases h1
      | some y => obtain ⟨C, hC⟩ := List.getLast?_eq_some_iff.mp hg; exact ⟨C, y, hC⟩
    subst hA
    have hm : A'.length = m := by rw [List.length_append, List.length_singleton] at h1; omega
    rw [List.append_assoc] at h4
    have h4' : rw1 b ρ (A' ++ y :: B) := h4
    have h5 := h4.2.1
    have hy := h4.2.2 m y (by rw [← hm, List.getElem?_append_right (Nat.le_refl _), Nat.sub_self]; rfl)
    have hy3 := h3 y (by simp)
    have hmlt : m < 300 := by have := h4.2.1; rw [List.length_append, List.length_append, List.length_singleton] at this; omega
    have i2 : (300 : Int32) * nI ρ + nI m = nI (300 * ρ + m) := by rw [e3, nI_add]
    have hf : (A' ++ [y]).filter (fun y => decide (¬ y.1 = p)) = A'.filter (fun y => decide (¬ y.1 = p)) ++ [y].filter (fun y => decide (¬ y.1 = p)) := List.filter_append ..
    have e0 : nI (m + 1) - 1 = nI m := nI_pred m
    have e4 : nI m + (-1 : Int32) = nI m - 1 := by rw [show (-1 : Int32) = -(1 : Int32) from rfl, ← Int32.sub_eq_add_neg]
    by_cases e : y.1 = p
    · obtain ⟨b1, y1, y2, y3, y4⟩ := dropR_ok hρ h4'
      obtain ⟨b2, z1, z2, z3, z4⟩ := ih F0 A' B b1 hm (by omega) (fun x hx => h3 x (List.mem_append_left _ hx)) y4
      refine ⟨b2, ?_, fr_tr y2 z2, Kr_tr y3 z3, ?_⟩
      · rw [hF0, cR_leaveRow_9.eq_2]
        unfold cR_leaveRow_9_b
        rw [e0, if_neg (nI_pos (by omega)), i2, if_pos (nI_idx (by omega) (by decide)), nI_clamp (by omega), hy.1, if_pos (by rw [e]), ← hm, y1, Option.bind_some, hm, e4]
        exact z1
      · rw [hf, List.filter_cons_of_neg (by simp [e])]
        simpa using z4
    · obtain ⟨b2, z1, z2, z3, z4⟩ := ih F0 A' (y :: B) b hm (by omega) (fun x hx => h3 x (List.mem_append_left _ hx)) h4'
      refine ⟨b2, ?_, z2, z3, ?_⟩
      · rw [hF0, cR_leaveRow_9.eq_2]
        unfold cR_leaveRow_9_b
        rw [e0, if_neg (nI_pos (by omega)), i2, if_pos (nI_idx (by omega) (by decide)), nI_clamp (by omega), hy.1, if_neg (fun z => e (nI_inj (by omega) (by omega) z)), e4]
        exact z1
      · rw [hf, List.filter_cons_of_pos (by simp [e])]
        simpa using z4
theorem leaveRow_ok {ρ p : Nat} {l : List (Nat × Int32)} {b : ts} (hρ : ρ < 28) (hp : p < 300) (hl : ∀ y ∈ l, y.1 < 300) (h : rw1 b ρ l) : ∃ b1, cR_leaveRow (nI ρ) (nI p) b = some b1 ∧ fr [2136, 2137, 2138] b b1 ∧ Kr ρ b b1 ∧ rw1 b1 ρ (l.filter (fun y => decide (¬ y.1 = p))) := by
  have h3 := h.2.1
  obtain ⟨b1, y1, y2, y3, y4⟩ := leave_lp hρ hp l.length tm_N l [] b rfl (by unfold tm_N; omega) hl (by rw [List.append_nil]; exact h)
  refine ⟨b1, ?_, y2, y3, by rw [List.append_nil] at y4; exact y4⟩
  unfold cR_leaveRow
  rw [if_pos (nI_idx hρ (by decide)), nI_clamp (by omega), h.1]
  exact y1
/-- those that await, on the reference's side -/
def aw1 (b : ts) (l : List Nat) : Prop := gI b 1185 0 = nI l.length ∧ l.length ≤ 300 ∧ ∀ i p, l[i]? = some p → gA b 139 i = nI p
theorem leaveA_lp {p : Nat} (hp : p < 300) {c : Nat} (hc : c ≤ 300) : ∀ (S Q : List Nat) (k F : Nat) (b : ts), k + S.length = c → Q.length ≤ k → S.length < F → (∀ x ∈ S, x < 300) → gI b 1185 0 = nI c → (∀ i x, S[i]? = some x → gA b 139 (k + i) = nI x) → (∀ i x, Q[i]? = some x → gA b 139 i = nI x) → ∃ b1, cR_leaveAwaits_4 F (nI p) (nI Q.length) (nI k) b = some b1 ∧ fr [1185, 2139] b b1 ∧ aw1 b1 (Q ++ S.filter (fun y => decide (¬ y = p))) := by
  intro S
  induction S with
  | nil =>
    intro Q k F b h1 h2 h3 h4 h5 h6 h7
    have hF0 : ∃ F0, F = F0 + 1 := ⟨F - 1, by omega⟩
    obtain ⟨F0, hF0⟩ := hF0
    have h1 : k = c := h1
    refine ⟨wI b 1185 0 (nI Q.length), ?_, fr_wI fr_rf rfl, ?_⟩
    · rw [hF0, cR_leaveAwaits_4.eq_2]
      unfold cR_leaveAwaits_4_b
      rw [h5, if_pos (nI_le (by omega) (by omega))]
    · rw [List.filter_nil, List.append_nil]
      exact ⟨gI_wIs, by omega, fun i x hi => h7 i x hi⟩
  | cons y S ih =>
    intro Q k F b h1 h2 h3 h4 h5 h6 h7
    have hF0 : ∃ F0, F = F0 + 1 := ⟨F - 1, by omega⟩
    obtain ⟨F0, hF0⟩ := hF0
    rw [List.length_cons] at h1 h3
    have hy := h6 0 y rfl
    rw [Nat.add_zero] at hy
    have hy3 := h4 y List.mem_cons_self
    have e0 : nI k + (1 : Int32) = nI (k + 1) := nI_add k 1
    by_cases e : y = p
    · obtain ⟨b1, z1, z2, z3⟩ := ih Q (k + 1) F0 b (by omega) (by omega) (by omega) (fun x hx => h4 x (List.mem_cons_of_mem _ hx)) h5 (fun i x hi => by rw [show k + 1 + i = k + (i + 1) by omega]; exact h6 (i + 1) x hi) h7
      refine ⟨b1, ?_, z2, ?_⟩
      · rw [hF0, cR_leaveAwaits_4.eq_2]
        unfold cR_leaveAwaits_4_b
        rw [h5, if_neg (nI_ge (by omega) (by omega)), if_pos (nI_idx (by omega) (by decide)), nI_clamp (by omega), hy, if_pos (by rw [e]), e0]
        exact z1
      · rw [List.filter_cons_of_neg (by simp [e])]; exact z3
    · obtain ⟨b1, z1, z2, z3⟩ := ih (Q ++ [y]) (k + 1) F0 (wA b 139 Q.length (nI y)) (by omega) (by rw [List.length_append, List.length_singleton]; omega) (by omega) (fun x hx => h4 x (List.mem_cons_of_mem _ hx)) h5 (fun i x hi => by
          rw [gA_wAn (by omega), show k + 1 + i = k + (i + 1) by omega]; exact h6 (i + 1) x hi) (fun i x hi => by
          by_cases c1 : i < Q.length
          · rw [List.getElem?_append_left c1] at hi
            rw [gA_wAn (by omega)]; exact h7 i x hi
          · have c2 := getE_lt hi
            rw [List.length_append, List.length_singleton] at c2
            have c3 : i = Q.length := by omega
            rw [c3, List.getElem?_append_right (Nat.le_refl _), Nat.sub_self] at hi
            rw [c3, gA_wAs]; exact congrArg nI (Option.some.inj hi))
      refine ⟨b1, ?_, fr_tr (fr_wA fr_rf rfl) z2, ?_⟩
      · rw [List.length_append, List.length_singleton] at z1
        rw [hF0, cR_leaveAwaits_4.eq_2]
        unfold cR_leaveAwaits_4_b
        rw [h5, if_neg (nI_ge (by omega) (by omega)), if_pos (nI_idx (by omega) (by decide)), nI_clamp (by omega), hy, if_neg (fun z => e (nI_inj (by omega) (by omega) z)), if_pos (nI_idx (by omega) (by decide)), nI_clamp (by omega), e0, show nI Q.length + (1 : Int32) = nI (Q.length + 1) from nI_add _ 1]
        exact z1
      · rw [List.filter_cons_of_pos (by simp [e])]
        simpa using z3
theorem leaveA_ok {p : Nat} {l : List Nat} {b : ts} (hp : p < 300) (hl : ∀ y ∈ l, y < 300) (h : aw1 b l) : ∃ b1, cR_leaveAwaits (nI p) b = some b1 ∧ fr [1185, 2139] b b1 ∧ aw1 b1 (l.filter (fun y => decide (¬ y = p))) := by
  have h3 := h.2.1
  obtain ⟨b1, y1, y2, y3⟩ := leaveA_lp hp h3 l [] 0 tm_N b (by omega) (Nat.zero_le _) (by unfold tm_N; omega) hl h.1 (fun i x hi => by rw [Nat.zero_add]; exact h.2.2 i x hi) (fun i x hi => by cases hi)
  exact ⟨b1, y1, y2, y3⟩
theorem isIn_lp {ρ p n : Nat} {b : ts} (hρ : ρ < 28) (hp : p < 300) (hn : n ≤ 300) (h : gA b 136 ρ = nI n) : ∀ (S : List (Nat × Int32)) (k F : Nat) (v : Bool), k + S.length = n → S.length < F → (∀ y ∈ S, y.1 < 300) → (∀ i y, S[i]? = some y → gA b 137 (300 * ρ + (k + i)) = nI y.1) → cR_isIn_5 F (nI ρ) (nI p) (if v then 1 else 0) (nI k) b = some (if v || S.any (fun y => decide (y.1 = p)) then 1 else 0, b) := by
  have e3 : (300 : Int32) * nI ρ = nI (300 * ρ) := pk_mul 300 ρ
  intro S
  induction S with
  | nil =>
    intro k F v h1 h2 h3 h4
    have hF0 : ∃ F0, F = F0 + 1 := ⟨F - 1, by omega⟩
    obtain ⟨F0, hF0⟩ := hF0
    have h1 : k = n := h1
    rw [hF0, cR_isIn_5.eq_2]
    unfold cR_isIn_5_b
    rw [if_pos (nI_idx hρ (by decide)), nI_clamp (by omega), h, if_pos (nI_le (by omega) (by omega))]
    cases v <;> rfl
  | cons y S ih =>
    intro k F v h1 h2 h3 h4
    have hF0 : ∃ F0, F = F0 + 1 := ⟨F - 1, by omega⟩
    obtain ⟨F0, hF0⟩ := hF0
    rw [List.length_cons] at h1 h2
    have hy := h4 0 y rfl
    rw [Nat.add_zero] at hy
    have hy3 := h3 y List.mem_cons_self
    have e0 : nI k + (1 : Int32) = nI (k + 1) := nI_add k 1
    have i2 : (300 : Int32) * nI ρ + nI k = nI (300 * ρ + k) := by rw [e3, nI_add]
    have ih' := fun v => ih (k + 1) F0 v (by omega) (by omega) (fun x hx => h3 x (List.mem_cons_of_mem _ hx)) (fun i x hi => by rw [show k + 1 + i = k + (i + 1) by omega]; exact h4 (i + 1) x hi)
    rw [hF0, cR_isIn_5.eq_2]
    unfold cR_isIn_5_b
    rw [if_pos (nI_idx hρ (by decide)), nI_clamp (by omega), h, if_neg (show ¬ nI n ≤ nI k from nI_ge (by omega) (by omega)), e0, List.any_cons]
    cases v with
    | true =>
      rw [if_neg (show ¬ (if true = true then (1 : Int32) else 0) = 0 by decide)]
      exact ih' true
    | false =>
      rw [if_pos (show (if false = true then (1 : Int32) else 0) = 0 by decide), i2, if_pos (nI_idx (by omega) (by decide)), nI_clamp (by omega), hy]
      by_cases e : y.1 = p
      · rw [if_pos (by rw [e]), decide_eq_true e]
        exact ih' true
      · rw [if_neg (fun z => e (nI_inj (by omega) (by omega) z)), decide_eq_false e]
        exact ih' false
theorem isIn_ok {ρ p : Nat} {l : List (Nat × Int32)} {b : ts} (hρ : ρ < 28) (hp : p < 300) (hl : ∀ y ∈ l, y.1 < 300) (h : rw1 b ρ l) : cR_isIn (nI ρ) (nI p) b = some (if l.any (fun y => decide (y.1 = p)) then 1 else 0, b) :=
  isIn_lp hρ hp h.2.1 h.1 l 0 tm_N false (by omega) (by have := h.2.1; unfold tm_N; omega) hl (fun i y hi => by rw [Nat.zero_add]; exact (h.2.2 i y hi).1)
theorem scan_lp {ρ : Nat} {x v : Int32} {b : ts} {A : List (Nat × Int32)} (hρ : ρ < 14) : ∀ (m F : Nat) (B C : List (Nat × Int32)), B.length = m → m < F → rw1 b ρ (A ++ (B ++ C)) → (∀ y ∈ B, v < y.2) → (∀ y, A.getLast? = some y → ¬ v < y.2) → cR_seize_53 F x (nI ρ) v (nI (A.length + m)) b = cR_seize_83 x (nI ρ) v (nI A.length) b := by
  have e3 : (300 : Int32) * nI ρ = nI (300 * ρ) := pk_mul 300 ρ
  intro m
  induction m with
  | zero =>
    intro F B C h1 h2 h3 h4 h5
    have hF0 : ∃ F0, F = F0 + 1 := ⟨F - 1, by omega⟩
    obtain ⟨F0, hF0⟩ := hF0
    rw [hF0, cR_seize_53.eq_2, Nat.add_zero]
    unfold cR_seize_53_b
    cases hg : A.getLast? with
    | none => rw [List.getLast?_eq_none_iff.mp hg, if_pos (by decide)]
    | some y =>
      obtain ⟨D, hD⟩ := List.getLast?_eq_some_iff.mp hg
      have hl : A.length = D.length + 1 := by rw [hD, List.length_append]; rfl
      have hn := h3.2.1
      rw [List.length_append] at hn
      have hy := (h3.2.2 D.length y (by rw [List.getElem?_append_left (by omega), hD, List.getElem?_append_right (Nat.le_refl _), Nat.sub_self]; rfl)).2
      have i1 : (300 : Int32) * nI ρ + nI A.length - 1 = nI (300 * ρ + D.length) := by
        rw [hl, e3, nI_add]; exact nI_pred (300 * ρ + D.length)
      rw [if_neg (show ¬ nI A.length ≤ (0 : Int32) from nI_ge (b := A.length) (a := 0) (by omega) (by omega)), i1, if_pos (nI_idx (by omega) (by decide)), nI_clamp (by omega), hy, if_pos (Int32.not_lt.mp (h5 y hg))]
  | succ m ih =>
    intro F B C h1 h2 h3 h4 h5
    have hF0 : ∃ F0, F = F0 + 1 := ⟨F - 1, by omega⟩
    obtain ⟨F0, hF0⟩ := hF0
    obtain ⟨B', y, hB⟩ : ∃ B' y, B = B' ++ [y] := by
      cases hg : B.getLast? with
      | none => rw [List.getLast?_eq_none_iff.mp hg] at h1; cases h1
      | some y => obtain ⟨D, hD⟩ := List.getLast?_eq_some_iff.mp hg; exact ⟨D, y, hD⟩
    subst hB
    have hm : B'.length = m := by rw [List.length_append, List.length_singleton] at h1; omega
    rw [List.append_assoc] at h3
    have hn := h3.2.1
    rw [List.length_append, List.length_append, List.length_append, List.length_singleton] at hn
    have hy := (h3.2.2 (A.length + m) y (by rw [List.getElem?_append_right (by omega), List.getElem?_append_right (by omega), show A.length + m - A.length - B'.length = 0 by omega]; rfl)).2
    have i1 : (300 : Int32) * nI ρ + nI (A.length + (m + 1)) - 1 = nI (300 * ρ + (A.length + m)) := by
      rw [e3, nI_add, show 300 * ρ + (A.length + (m + 1)) = 300 * ρ + (A.length + m) + 1 by omega]; exact nI_pred _
    have i3 : nI (A.length + (m + 1)) + (-1 : Int32) = nI (A.length + m) := by
      rw [show (-1 : Int32) = -(1 : Int32) from rfl, ← Int32.sub_eq_add_neg]; exact nI_pred (A.length + m)
    rw [hF0, cR_seize_53.eq_2]
    unfold cR_seize_53_b
    rw [if_neg (show ¬ nI (A.length + (m + 1)) ≤ (0 : Int32) from nI_ge (b := A.length + (m + 1)) (a := 0) (by omega) (by omega)), i1, i3, if_pos (nI_idx (by omega) (by decide)), nI_clamp (by omega), hy, if_neg (Int32.not_le.mpr (h4 y (by simp)))]
    exact ih F0 B' ([y] ++ C) hm (by omega) h3 (fun z hz => h4 z (List.mem_append_left _ hz)) h5
theorem scan_ok {ρ : Nat} {x v : Int32} {b : ts} {A B : List (Nat × Int32)} (hρ : ρ < 14) (h : rw1 b ρ (A ++ B)) (h4 : ∀ y ∈ B, v < y.2) (h5 : ∀ y, A.getLast? = some y → ¬ v < y.2) : cR_seize_53 tm_N x (nI ρ) v (gA b 136 ρ) b = cR_seize_83 x (nI ρ) v (nI A.length) b := by
  have hn := h.2.1
  rw [List.length_append] at hn
  rw [h.1, List.length_append]
  exact scan_lp hρ B.length tm_N B [] rfl (by unfold tm_N; omega) (by rw [List.append_nil]; exact h) h4 h5
