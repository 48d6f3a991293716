/-! A TURN CLOSES: the two loops side by side. -/
theorem close_lp2 {rm pm en vc un rm0 : Nat → Nat} {L : Nat → List Int64} {G : List Ln} {τ : Nat → Int32} {K K' n : Nat} (hn : n ≤ 300) : ∀ (S D : List Nat) (k F F' : Nat) (a b : ts) (M : Md), Evp a b L pm en vc un rm0 G τ K K' rm → CW rm G (L 3).length M → VA rm a M → VB rm b M → m_R M 29 = D ++ S → k + S.length = n → S.length < F → S.length < F' → (∀ i x, S[i]? = some x → gA b 141 (k + i) = nI x) → ∃ a1 b1 M1, cH_closeTurn_26 F S.head? a = some a1 ∧ cR_endTurn_48 F' (nI n) (nI k) b = some b1 ∧ VA rm a1 M1 ∧ VB rm b1 M1 ∧ CW rm G (L 3).length M1 ∧ Qc (S.length * 8300) M M1 := by
  intro S
  induction S with
  | nil =>
    intro D k F F' a b M hE hC hA hB hR hk hF hF' hlk
    obtain ⟨F0, rfl⟩ : ∃ F0, F = F0 + 1 := ⟨F - 1, by omega⟩
    obtain ⟨F1, rfl⟩ : ∃ F1, F' = F1 + 1 := ⟨F' - 1, by omega⟩
    refine ⟨a, b, M, ?_, ?_, hA, hB, hC, ⟨rfl, rfl, rfl, by omega, fun _ _ _ => rfl⟩⟩
    · rw [cH_closeTurn_26.eq_2]; rfl
    · rw [cR_endTurn_48.eq_2]
      unfold cR_endTurn_48_b
      have : k = n := by simpa using hk
      rw [this, if_pos (nI_le (Nat.le_refl _) (by omega))]
  | cons x S ih =>
    intro D k F F' a b M hE hC hA hB hR hk hF hF' hlk
    obtain ⟨F0, rfl⟩ : ∃ F0, F = F0 + 1 := ⟨F - 1, by omega⟩
    obtain ⟨F1, rfl⟩ : ∃ F1, F' = F1 + 1 := ⟨F' - 1, by omega⟩
    rw [List.length_cons] at hk hF hF'
    have hN := (Inv_N hC.1).1
    have hx29 : x ∈ m_R M 29 := by rw [hR]; exact List.mem_append.mpr (Or.inr List.mem_cons_self)
    have hme := Inv_me hC.1 29 (by omega) x hx29
    have hxN := hme.1
    have hS : m_S M x = 4 := by
      rcases hme.2 with z | z
      · cases z
      · unfold SP at z; omega
    have hxM : x < gM a := Nat.lt_of_lt_of_le hxN (VA_gm hA).1
    have hli : ln a 29 (m_R M 29) := VA_li hA 29 (by omega)
    have h509 : gR a 509 x = S.head? := by
      have z := hli.2.2.1
      rw [hR] at z
      exact (ch_at z).1
    obtain ⟨a1, b1, M1, s1, s2, s3, s4, s5, s6, s7, s8, s9⟩ := await_step hE hC hA hB hR
    have hE1 := Evp_fr hE s8 s9 (by decide) (by decide)
    have hlk1 : ∀ i y, S[i]? = some y → gA b1 141 (k + 1 + i) = nI y := fun i y hy => by
      rw [s9.2.1 141 rfl, show k + 1 + i = k + (i + 1) by omega]
      exact hlk (i + 1) y hy
    have hrec : ∃ a2 b2 M2, cH_closeTurn_26 F0 S.head? a1 = some a2 ∧ cR_endTurn_48 F1 (nI n) (nI (k + 1)) b1 = some b2 ∧ VA rm a2 M2 ∧ VB rm b2 M2 ∧ CW rm G (L 3).length M2 ∧ Qc (S.length * 8300) M1 M2 := by
      rcases s6 with z | z
      · exact ih (D ++ [x]) (k + 1) F0 F1 a1 b1 M1 hE1 s5 s3 s4 (by rw [z, List.append_assoc]; rfl) (by omega) (by omega) (by omega) hlk1
      · exact ih D (k + 1) F0 F1 a1 b1 M1 hE1 s5 s3 s4 z (by omega) (by omega) (by omega) hlk1
    obtain ⟨a2, b2, M2, t1, t2, t3, t4, t5, t6⟩ := hrec
    refine ⟨a2, b2, M2, ?_, ?_, t3, t4, t5, Qc_mono (Qc_tr s7 t6) (by rw [List.length_cons]; omega)⟩
    · show cH_closeTurn_26 (F0 + 1) (some x) a = some a2
      rw [close26 hxM, s1, Option.bind_some, h509]; exact t1
    · have e141 : gA b 141 k = nI x := hlk 0 x rfl
      rw [cR_endTurn_48.eq_2]
      unfold cR_endTurn_48_b
      rw [if_neg (nI_ge (by omega) (by omega)), if_pos (nI_idx (by omega) (by decide)), nI_clamp (by omega), e141, if_pos (nI_idx (by omega) (by decide)), nI_clamp (by omega), VB_ss hB x hxN, hS, if_pos (by decide), s2, nI_1]
      exact t2
theorem look_lp {n : Nat} (hn : n ≤ 300) : ∀ (m k F : Nat) (b : ts), k + m = n → m < F → ∃ b1, cR_endTurn_23 F (nI n) (nI k) b = cR_endTurn_48 tm_N (nI n) 0 b1 ∧ fr [2141] b b1 ∧ (∀ i, k ≤ i → i < n → gA b1 141 i = gA b 139 i) ∧ (∀ i, i < k → gA b1 141 i = gA b 141 i) := by
  intro m
  induction m with
  | zero =>
    intro k F b hk hF
    obtain ⟨F0, rfl⟩ : ∃ F0, F = F0 + 1 := ⟨F - 1, by omega⟩
    refine ⟨b, ?_, fr_rf, fun i h1 h2 => by omega, fun _ _ => rfl⟩
    rw [cR_endTurn_23.eq_2]
    unfold cR_endTurn_23_b
    rw [if_pos (nI_le (by omega) (by omega))]
  | succ m ih =>
    intro k F b hk hF
    obtain ⟨F0, rfl⟩ : ∃ F0, F = F0 + 1 := ⟨F - 1, by omega⟩
    obtain ⟨b1, h1, h2, h3, h4⟩ := ih (k + 1) F0 (wA b 141 k (gA b 139 k)) (by omega) (by omega)
    refine ⟨b1, ?_, fr_tr (fr_wA fr_rf rfl) h2, fun i h5 h6 => ?_, fun i h5 => ?_⟩
    · rw [cR_endTurn_23.eq_2]
      unfold cR_endTurn_23_b
      rw [if_neg (nI_ge (by omega) (by omega)), if_pos (nI_idx (by omega) (by decide)), nI_clamp (by omega), nI_1]; exact h1
    · by_cases c : i = k
      · rw [c, h4 k (by omega), gA_ws]
      · rw [h3 i (by omega) h6, gA_wf (by decide)]
    · rw [h4 i (by omega), gA_wn (by omega)]
theorem Inv_close {rm : Nat → Nat} {M : Md} (h : Inv rm M none) (h7 : ∀ p, p < m_N M → m_S M p ≠ 7) : Inv rm (mTn (mAm M none)) none := by
  unfold Inv
  simp only [p_mTn, p_mAm]
  obtain ⟨h1, h2, h3, h4, h5, h6, h8, h9, h10, h11, h12, h13⟩ := h
  exact ⟨h1, h2, h3, h4, h5, h6, h8, h9, h10, h11, h12, fun p hp z => absurd z (h7 p hp), fun p z => (by cases z)⟩
theorem closeT_ok {rm pm en vc un rm0 : Nat → Nat} {L : Nat → List Int64} {G : List Ln} {τ : Nat → Int32} {K K' : Nat} {a b : ts} {M : Md} (hE : Evp a b L pm en vc un rm0 G τ K K' rm) (hA : VA rm a M) (hB : VB rm b M) (hI : Inv rm M none) (hJ : Jv rm M) (hmb : ∀ q, q < 14 → m_mw M q = m_mb M q) (hLn : ∀ p, p < m_N M → m_D M p < (L 3).length ∧ LK G (m_S M p) (m_T M p) (m_Lr M p)) (h7 : ∀ p, p < m_N M → m_S M p ≠ 7) : ∃ a1 b1 M1, cH_closeTurn a = some a1 ∧ cR_endTurn b = some b1 ∧ VA rm a1 M1 ∧ VB rm b1 M1 ∧ CW rm G (L 3).length M1 ∧ Qc 2500000 M M1 := by
  have zA := cl_Tn (cl_Am (o := none) hA)
  have zB := rc_Tn (rc_Am (o := none) hB)
  have hC : CW rm G (L 3).length (mTn (mAm M none)) := by
    refine ⟨Inv_close hI h7, ?_, ?_, ?_, ?_⟩
    · unfold Jv; simp only [p_mTn, p_mAm]; exact hJ
    · simp only [p_mTn, p_mAm]; exact hmb
    · simp only [p_mTn, p_mAm]; exact hLn
    · simp only [p_mTn, p_mAm]
  have hQ0 : Qc 0 M (mTn (mAm M none)) := by
    unfold Qc
    simp only [p_mTn, p_mAm]
    exact ⟨trivial, trivial, trivial, Nat.le_refl _, fun _ _ _ => trivial⟩
  have kR : m_R (mTn (mAm M none)) = m_R M := by simp only [p_mTn, p_mAm]
  generalize ha : wI (wR a 1003 0 none) 1005 0 (gI (wR a 1003 0 none) 1005 0 + 1) = a0 at zA
  generalize hb : wI (wI b 1159 0 (oi (-2) none)) 1154 0 (gI (wI b 1159 0 (oi (-2) none)) 1154 0 + 1) = b0 at zB
  have fa : fr [1005, 7003] a a0 := by rw [← ha]; exact fr_wI (fr_wR fr_rf rfl) rfl
  have fb : fr [1154, 1159] b b0 := by rw [← hb]; exact fr_wI (fr_wI fr_rf rfl) rfl
  have h29 : (m_R M 29).length ≤ 300 := VA_len hA (by omega)
  obtain ⟨b1, l1, l2, l3, l4⟩ := look_lp h29 (m_R M 29).length 0 tm_N b0 (by omega) (by unfold tm_N; omega)
  have zB1 : VB rm b1 (mTn (mAm M none)) := rc_fr zB (fr_mono (by decide) l2)
  have hE1 : Evp a0 b1 L pm en vc un rm0 G τ K K' rm := Evp_fr hE fa (fr_tr (W := [1154, 1159, 2141]) (fr_mono (by decide) fb) (fr_mono (by decide) l2)) rfl rfl
  have haw := VB_aw zB
  rw [kR] at haw
  obtain ⟨a2, b2, M2, t1, t2, t3, t4, t5, t6⟩ := close_lp2 h29 (m_R M 29) [] 0 tm_N tm_N a0 b1 (mTn (mAm M none)) hE1 hC zA zB1 (by rw [kR]; rfl) (by omega) (by unfold tm_N; omega) (by unfold tm_N; omega) (fun i x hi => by
    rw [Nat.zero_add, l3 i (by omega) (getE_lt hi)]; exact haw.2.2 i x hi)
  refine ⟨a2, b2, M2, ?_, ?_, t3, t4, t5, Qc_mono (Qc_tr hQ0 t6) (by omega)⟩
  · have h600 : gR a0 600 29 = (m_R M 29).head? := by
      have := (VA_li zA 29 (by omega)).1
      rw [kR] at this; exact this
    have e : cH_closeTurn a = cH_closeTurn_26 tm_N (gR a0 600 29) a0 := by
      unfold cH_closeTurn
      rw [ha]
      cases gR a0 600 29 <;> rfl
    rw [e, h600]; exact t1
  · have e : cR_endTurn b = cR_endTurn_23 tm_N (gI b0 1185 0) 0 b0 := by
      unfold cR_endTurn
      have hb' : wI (wI b 1159 0 (-2)) 1154 0 (gI (wI b 1159 0 (-2)) 1154 0 + 1) = b0 := hb
      rw [hb']
    rw [e, haw.1]
    have l1 : cR_endTurn_23 tm_N (nI (m_R M 29).length) 0 b0 = _ := l1
    rw [l1]; exact t2
