/-! TIME GOES BY: the sums over time, on both sides. -/
def gF (rm : Nat → Nat) (M : Md) (q : Nat) : Int32 := if q < 8 then nI (rm q) - m_th M q else m_th M q
def gs0 (rm : Nat → Nat) (M : Md) (d q : Nat) : Int64 := m_s0 M q + lN d * (gF rm M q).toInt64
def gs1 (M : Md) (d q : Nat) : Int64 := m_s1 M q + lN d * (nI (lenq M q)).toInt64
theorem cl_go {rm : Nat → Nat} {a : ts} {M : Md} {q t : Nat} {x y : Int64} {f g : Nat → Int64} (h : VA rm a (mGo M t f g)) : VA rm (wJ (wJ a 708 q x) 709 q y) (mGo M t (up f q x) (up g q y)) := by
  have fa : fr [4708, 4709] a (wJ (wJ a 708 q x) 709 q y) := fr_wJ (fr_wJ fr_rf rfl) rfl
  have h0 := VA_s0 h
  have h1 := VA_s1 h
  have h' := h
  unfold VA at h' ⊢
  simp only [p_mGo] at h' h0 h1 ⊢
  obtain ⟨i1, i2, i3, i4, i5, i6, i7, i8, i9, i10, i11, i12, i13, i14, i15, i16, i17, i18, i19, i20, i21, i22, i23, i24, i25, i26, i27, i28, i29, i30, i31, i32, i33, i34⟩ := h'
  refine ⟨i1, i2, i3, i4, i5, i6, i7, i8, i9, i10, i11, i12, i13, i14, i15, i16, ?_, ?_, i19, i20, i21, i22, i23, i24, i25, i26, i27, i28, i29, i30, i31, i32, fun ρ hρ => ln_congr (fa.2.2.2.2.1 600 rfl _) (fa.1 601 rfl _) (fun x _ => fa.2.2.2.2.1 509 rfl x) (fun x _ => fa.2.2.2.2.1 507 rfl x) (by rw [fa.2.2.2.2.2.2.2.1 rfl]; exact Nat.le_refl _) (i33 ρ hρ), i34⟩
  · intro q1 hq1
    have e : gJ (wJ (wJ a 708 q x) 709 q y) 708 q1 = gJ (wJ a 708 q x) 708 q1 := by rw [gJ_wJ, if_neg (fun z => absurd z.1 (by decide))]
    rw [e]
    by_cases c : q1 = q
    · rw [c, up_s, gJ_wJs]
    · rw [up_n c, gJ_wJn c]; exact h0 q1 hq1
  · intro q1 hq1
    by_cases c : q1 = q
    · rw [c, up_s, gJ_wJs]
    · rw [up_n c, gJ_wJn c]
      have e : gJ (wJ a 708 q x) 709 q1 = gJ a 709 q1 := by rw [gJ_wJ, if_neg (fun z => absurd z.1 (by decide))]
      rw [e]; exact h1 q1 hq1
theorem cl_go2 {rm : Nat → Nat} {a : ts} {M : Md} {t t0 : Nat} {f g f1 g1 : Nat → Int64} (h : VA rm a (mGo M t0 f g)) (hf : ∀ q, q < 14 → f1 q = f q ∧ g1 q = g q) : VA rm (wI a 800 0 (nI t)) (mGo M t f1 g1) := by
  have fa : fr [800] a (wI a 800 0 (nI t)) := fr_wI fr_rf rfl
  have h' := h
  unfold VA at h' ⊢
  simp only [p_mGo] at h' ⊢
  obtain ⟨i1, i2, i3, i4, i5, i6, i7, i8, i9, i10, i11, i12, i13, i14, i15, i16, i17, i18, i19, i20, i21, i22, i23, i24, i25, i26, i27, i28, i29, i30, i31, i32, i33, i34⟩ := h'
  have pp : ∀ k y, ¬ k = 800 → gI (wI a 800 0 (nI t)) k y = gI a k y := fun k y hk => gI_wf hk
  refine ⟨gI_ws, (pp 801 0 (by decide)).trans i2, i3, (pp 1004 0 (by decide)).trans i4, (pp 1005 0 (by decide)).trans i5, (pp 904 0 (by decide)).trans i6, (pp 905 0 (by decide)).trans i7, (pp 906 0 (by decide)).trans i8, (pp 1008 0 (by decide)).trans i9, i10, i11, fun q hq => (pp 703 q (by decide)).trans (i12 q hq), fun q hq => (pp 704 q (by decide)).trans (i13 q hq), fun q hq => (pp 705 q (by decide)).trans (i14 q hq), fun q hq => (pp 706 q (by decide)).trans (i15 q hq), fun q hq => (pp 707 q (by decide)).trans (i16 q hq), fun q hq => (by rw [(hf q hq).1]; exact i17 q hq), fun q hq => (by rw [(hf q hq).2]; exact i18 q hq), i19, fun q hq => (pp 700 q (by decide)).trans (i20 q hq), i21, fun p hp => (pp 500 p (by decide)).trans (i22 p hp), fun p hp => (pp 501 p (by decide)).trans (i23 p hp), fun p hp => (pp 502 p (by decide)).trans (i24 p hp), fun p hp => (pp 503 p (by decide)).trans (i25 p hp), fun p hp => (pp 504 p (by decide)).trans (i26 p hp), fun p hp => (pp 508 p (by decide)).trans (i27 p hp), fun p hp => (pp 510 p (by decide)).trans (i28 p hp), fun p hp => (pp 512 p (by decide)).trans (i29 p hp), fun p hp hs => (pp 511 p (by decide)).trans (i30 p hp hs), i31, i32, fun ρ hρ => ln_congr (fa.2.2.2.2.1 600 rfl _) (fa.1 601 rfl _) (fun x _ => fa.2.2.2.2.1 509 rfl x) (fun x _ => fa.2.2.2.2.1 507 rfl x) (by rw [fa.2.2.2.2.2.2.2.1 rfl]; exact Nat.le_refl _) (i33 ρ hρ), i34⟩
theorem go_self {M : Md} : mGo M (m_tm M) (m_s0 M) (m_s1 M) = M := by
  refine Md_ext ?_ ?_ ?_ ?_ ?_ ?_ ?_ ?_ ?_ ?_ ?_ ?_ ?_ ?_ ?_ ?_ ?_ ?_ ?_ ?_ ?_ ?_ ?_ ?_ ?_ ?_ ?_ ?_ ?_ ?_ ?_ ?_ ?_ ?_ <;> simp only [p_mGo]
theorem goTo_lp {rm : Nat → Nat} {M : Md} {t d : Nat} (hd0 : 0 < d) (hd : d < 2 ^ 31) : ∀ (k q F : Nat) (a : ts) (f g : Nat → Int64), q + k = 14 → k < F → VA rm a (mGo M (m_tm M) f g) → (∀ i, q ≤ i → f i = m_s0 M i ∧ g i = m_s1 M i) → ∃ a1 f1 g1, cW_goTo_12 F (nI t) (lN d) (nI q) a = some (wI a1 800 0 (nI t)) ∧ VA rm a1 (mGo M (m_tm M) f1 g1) ∧ (∀ i, q ≤ i → i < 14 → f1 i = gs0 rm M d i ∧ g1 i = gs1 M d i) ∧ (∀ i, i < q → f1 i = f i ∧ g1 i = g i) := by
  intro k
  induction k with
  | zero =>
    intro q F a f g hk hF hA hf
    obtain ⟨F0, rfl⟩ : ∃ F0, F = F0 + 1 := ⟨F - 1, by omega⟩
    have e : q = 14 := by omega
    subst e
    refine ⟨a, f, g, ?_, hA, fun i h1 h2 => by omega, fun _ _ => ⟨rfl, rfl⟩⟩
    rw [cW_goTo_12.eq_2]
    unfold cW_goTo_12_b
    rw [if_pos (by decide)]
  | succ k ih =>
    intro q F a f g hk hF hA hf
    obtain ⟨F0, rfl⟩ : ∃ F0, F = F0 + 1 := ⟨F - 1, by omega⟩
    have hq : q < 14 := by omega
    have e700 := VA_iS hA q hq
    have e703 : gI a 703 q = m_th M q := by have := VA_th hA q hq; simp only [p_mGo] at this; exact this
    have e704 := VA_rm hA q hq
    have e708 : gJ a 708 q = m_s0 M q := by have := VA_s0 hA q hq; simp only [p_mGo] at this; rw [this]; exact (hf q (Nat.le_refl _)).1
    have e709 : gJ a 709 q = m_s1 M q := by have := VA_s1 hA q hq; simp only [p_mGo] at this; rw [this]; exact (hf q (Nat.le_refl _)).2
    have e1 : gI a 601 (2 * q) = nI (m_R M q).length := by have := (VA_li hA q (by omega)).2.1; simp only [p_mGo] at this; rw [lno_a hq] at this; exact this
    have e2 : gI a 601 (2 * q + 1) = nI (m_R M (14 + q)).length := by have := (VA_li hA (14 + q) (by omega)).2.1; simp only [p_mGo] at this; rw [lno_b hq] at this; exact this
    have zA := cl_go (q := q) (x := gs0 rm M d q) (y := gs1 M d q) hA
    have ep : cK_pass q (lN d) a = some (wJ (wJ a 708 q (gs0 rm M d q)) 709 q (gs1 M d q)) := by
      have e29 : ∀ t3, t3 = gF rm M q → cK_pass_29 q (lN d) q (gJ a 708 q) (lN d) t3 a = some (wJ (wJ a 708 q (gs0 rm M d q)) 709 q (gs1 M d q)) := by
        intro t3 h
        have e9 : gJ (wJ a 708 q (gs0 rm M d q)) 709 q = m_s1 M q := by rw [gJ_wJ, if_neg (fun z => absurd z.1 (by decide))]; exact e709
        unfold cK_pass_29 cK_waiting
        rw [if_pos hq, if_pos hq, if_pos hq, Option.bind_some, h, e708]
        show some (wJ (wJ a 708 q (gs0 rm M d q)) 709 q (gJ (wJ a 708 q (gs0 rm M d q)) 709 q + lN d * (gI a 601 (2 * q) + gI a 601 (2 * q + 1)).toInt64)) = _
        rw [e9, e1, e2, nI_add]; rfl
      unfold cK_pass
      rw [if_pos hq, e700]
      by_cases c : q < 8
      · rw [if_pos c, if_pos rfl, e704, e703]
        exact e29 _ (by unfold gF; rw [if_pos c])
      · rw [if_neg c, if_neg (by decide), e703]
        exact e29 _ (by unfold gF; rw [if_neg c])
    obtain ⟨a1, f1, g1, h1, h2, h3, h4⟩ := ih (q + 1) F0 _ _ _ (by omega) (by omega) zA (fun i hi => by rw [up_n (by omega), up_n (by omega)]; exact hf i (by omega))
    refine ⟨a1, f1, g1, ?_, h2, fun i hi hi2 => ?_, fun i hi => ?_⟩
    · rw [cW_goTo_12.eq_2]
      unfold cW_goTo_12_b
      have hc : ¬ lg_cmp (lN d) (0 : Int64) ≤ 0 := by
        rw [lg_cmp_le]
        intro z
        have := (lN_le (a := d) (b := 0) hd (by decide)).mp z
        omega
      rw [if_neg (show ¬ (14 : Int32) ≤ nI q from nI_ge (b := 14) hq (by decide)), if_neg hc, if_pos (nI_idx hq (by decide)), nI_clamp (by omega), ep, Option.bind_some, nI_1]
      exact h1
    · by_cases c : i = q
      · rw [(h4 i (by omega)).1, (h4 i (by omega)).2, c, up_s, up_s]; exact ⟨rfl, rfl⟩
      · exact h3 i (by omega) hi2
    · rw [(h4 i (by omega)).1, (h4 i (by omega)).2, up_n (by omega), up_n (by omega)]; exact ⟨rfl, rfl⟩
theorem goTo_ok {rm : Nat → Nat} {a : ts} {M : Md} {t : Nat} (hA : VA rm a M) (ht : m_tm M ≤ t) (ht9 : t ≤ 1000000000) : ∃ a1, cW_goTo (nI t) a = some a1 ∧ VA rm a1 (mGo M t (gs0 rm M (t - m_tm M)) (gs1 M (t - m_tm M))) := by
  have espan : (nI t).toInt64 - (nI (m_tm M)).toInt64 = lN (t - m_tm M) := by
    rw [nI_l (by omega), nI_l (by omega), lN_sub ht]
  have e0 : cW_goTo (nI t) a = cW_goTo_12 tm_N (nI t) (lN (t - m_tm M)) 0 a := by
    unfold cW_goTo
    rw [VA_tm hA, espan]
  have hA0 : VA rm a (mGo M (m_tm M) (m_s0 M) (m_s1 M)) := by rw [go_self]; exact hA
  by_cases c : t - m_tm M = 0
  · refine ⟨wI a 800 0 (nI t), ?_, cl_go2 hA0 (fun q _ => ?_)⟩
    · rw [e0, c, show tm_N = 999999999 + 1 from rfl, cW_goTo_12.eq_2]
      unfold cW_goTo_12_b
      rw [if_neg (by decide), if_pos (by decide)]
    · unfold gs0 gs1
      rw [c, show lN 0 = 0 from rfl, Int64.zero_mul, Int64.zero_mul, Int64.add_zero, Int64.add_zero]; exact ⟨rfl, rfl⟩
  · obtain ⟨a1, f1, g1, h1, h2, h3, h4⟩ := goTo_lp (rm := rm) (M := M) (t := t) (d := t - m_tm M) (by omega) (by omega) 14 0 tm_N a (m_s0 M) (m_s1 M) (by omega) (by unfold tm_N; omega) hA0 (fun _ _ => ⟨rfl, rfl⟩)
    refine ⟨_, by rw [e0]; exact h1, cl_go2 h2 (fun q hq => ?_)⟩
    have := h3 q (by omega) hq
    exact ⟨this.1.symm, this.2.symm⟩
theorem rc_go {rm : Nat → Nat} {b : ts} {M : Md} {q t : Nat} {x y : Int64} {f g : Nat → Int64} (h : VB rm b (mGo M t f g)) : VB rm (wB (wB b 133 q x) 134 q y) (mGo M t (up f q x) (up g q y)) := by
  have fa : fr [3133, 3134] b (wB (wB b 133 q x) 134 q y) := fr_wB (fr_wB fr_rf rfl) rfl
  have h0 := VB_s0 h
  have h1 := VB_s1 h
  have h' := h
  unfold VB rb at h' ⊢
  simp only [p_mGo] at h' h0 h1 ⊢
  obtain ⟨j1, j2, j3, i1, i2, i3, i4, i5, i6, i7, i8, i9, i10, i11, i12, i13, i14, i15, i16, i17, i18, i19, i20, i21, i22, i23, i24, i25, i26, i27, i28, i29, i30, i31⟩ := h'
  have e3 : ∀ r k, ¬ r = 133 → ¬ r = 134 → gB (wB (wB b 133 q x) 134 q y) r k = gB b r k := fun r k h1 h2 => by
    rw [gB_wB, if_neg (fun z => h2 z.1), gB_wB, if_neg (fun z => h1 z.1)]
  refine ⟨j1, j2, j3, i1, i2, i3, i4, i5, i6, i7, i8, i9, i10, i11, i12, i13, i14, i15, ?_, ?_, fun q hq => (e3 135 q (by decide) (by decide)).trans (i18 q hq), i19, i20, i21, i22, fun p hp hs => (e3 123 p (by decide) (by decide)).trans (i23 p hp hs), i24, i25, i26, i27, i28, i29, fun ρ hρ => rw1_fr (i30 ρ hρ) fa rfl rfl rfl, aw1_fr i31 fa rfl rfl⟩
  · intro q1 hq1
    have e : gB (wB (wB b 133 q x) 134 q y) 133 q1 = gB (wB b 133 q x) 133 q1 := by rw [gB_wB, if_neg (fun z => absurd z.1 (by decide))]
    rw [e]
    by_cases c : q1 = q
    · rw [c, up_s, gB_wBs]
    · rw [up_n c, gB_wBn c]; exact h0 q1 hq1
  · intro q1 hq1
    by_cases c : q1 = q
    · rw [c, up_s, gB_wBs]
    · rw [up_n c, gB_wBn c]
      have e : gB (wB b 133 q x) 134 q1 = gB b 134 q1 := by rw [gB_wB, if_neg (fun z => absurd z.1 (by decide))]
      rw [e]; exact h1 q1 hq1
theorem rc_go2 {rm : Nat → Nat} {b : ts} {M : Md} {t t0 : Nat} {f g f1 g1 : Nat → Int64} (h : VB rm b (mGo M t0 f g)) (hf : ∀ q, q < 14 → f1 q = f q ∧ g1 q = g q) : VB rm (wI b 1152 0 (nI t)) (mGo M t f1 g1) := by
  have fa : fr [1152] b (wI b 1152 0 (nI t)) := fr_wI fr_rf rfl
  have h' := h
  unfold VB rb at h' ⊢
  simp only [p_mGo] at h' ⊢
  obtain ⟨j1, j2, j3, i1, i2, i3, i4, i5, i6, i7, i8, i9, i10, i11, i12, i13, i14, i15, i16, i17, i18, i19, i20, i21, i22, i23, i24, i25, i26, i27, i28, i29, i30, i31⟩ := h'
  have pp : ∀ k y, ¬ k = 1152 → gI (wI b 1152 0 (nI t)) k y = gI b k y := fun k y hk => gI_wf hk
  exact ⟨⟨(pp 1110 0 (by decide)).trans j1.1, j1.2⟩, j2, j3, gI_ws, (pp 1158 0 (by decide)).trans i2, i3, (pp 1153 0 (by decide)).trans i4, (pp 1154 0 (by decide)).trans i5, (pp 1155 0 (by decide)).trans i6, (pp 1156 0 (by decide)).trans i7, (pp 1157 0 (by decide)).trans i8, (pp 1161 0 (by decide)).trans i9, i10, (pp 1159 0 (by decide)).trans i11, i12, i13, i14, i15, fun q hq => (by rw [(hf q hq).1]; exact i16 q hq), fun q hq => (by rw [(hf q hq).2]; exact i17 q hq), i18, i19, i20, i21, i22, i23, i24, i25, i26, i27, i28, i29, fun ρ hρ => rw1_fr (i30 ρ hρ) fa rfl rfl rfl, aw1_fr i31 fa rfl rfl⟩
theorem goOn_lp {rm : Nat → Nat} {M : Md} {t : Nat} (hrm : RMk rm) (ht : m_tm M ≤ t) (ht9 : t ≤ 1000000000) (h2 : ∀ q, q < 14 → lenq M q ≤ 300) : ∀ (k q F : Nat) (b : ts) (f g : Nat → Int64), q + k = 14 → k < F → VB rm b (mGo M (m_tm M) f g) → (∀ i, q ≤ i → f i = m_s0 M i ∧ g i = m_s1 M i) → ∃ b1 f1 g1, cR_goOn_2 F (nI t) (nI q) b = some (wI b1 1152 0 (nI t)) ∧ VB rm b1 (mGo M (m_tm M) f1 g1) ∧ (∀ i, q ≤ i → i < 14 → f1 i = gs0 rm M (t - m_tm M) i ∧ g1 i = gs1 M (t - m_tm M) i) ∧ (∀ i, i < q → f1 i = f i ∧ g1 i = g i) := by
  intro k
  induction k with
  | zero =>
    intro q F b f g hk hF hB hf
    obtain ⟨F0, rfl⟩ : ∃ F0, F = F0 + 1 := ⟨F - 1, by omega⟩
    have e : q = 14 := by omega
    subst e
    refine ⟨b, f, g, ?_, hB, fun i h1 h2 => by omega, fun _ _ => ⟨rfl, rfl⟩⟩
    rw [cR_goOn_2.eq_2]
    unfold cR_goOn_2_b
    rw [if_pos (by decide)]
  | succ k ih =>
    intro q F b f g hk hF hB hf
    obtain ⟨F0, rfl⟩ : ∃ F0, F = F0 + 1 := ⟨F - 1, by omega⟩
    have hq : q < 14 := by omega
    have e129 : gA b 129 q = m_th M q := by have := VB_th hB q hq; simp only [p_mGo] at this; exact this
    have e133 : gB b 133 q = m_s0 M q := by have := VB_s0 hB q hq; simp only [p_mGo] at this; rw [this]; exact (hf q (Nat.le_refl _)).1
    have e134 : gB b 134 q = m_s1 M q := by have := VB_s1 hB q hq; simp only [p_mGo] at this; rw [this]; exact (hf q (Nat.le_refl _)).2
    have e1 : gA b 136 q = nI (m_R M q).length := by
      have := (VB_ro hB q (by omega)).1
      unfold rb at this
      rw [List.length_map] at this
      simp only [p_mGo] at this; exact this
    have e2 : gA b 136 (14 + q) = nI (m_R M (14 + q)).length := by
      have := (VB_ro hB (14 + q) (by omega)).1
      unfold rb at this
      rw [List.length_map] at this
      simp only [p_mGo] at this; exact this
    have etm : gI b 1152 0 = nI (m_tm M) := by have := VB_tm hB; simp only [p_mGo] at this; exact this
    have espan : (nI t - nI (m_tm M)).toInt64 = lN (t - m_tm M) := by rw [pk_sub ht, nI_l (by omega)]
    have zB := rc_go (q := q) (x := gs0 rm M (t - m_tm M) q) (y := gs1 M (t - m_tm M) q) hB
    have e64 : ∀ t4, t4 = gF rm M q → cR_goOn_64 (cR_goOn_2 F0) (nI t) (nI q) (lN (t - m_tm M)) (nI q) (m_s0 M q) (lN (t - m_tm M)) t4 b = cR_goOn_2 F0 (nI t) (nI (q + 1)) (wB (wB b 133 q (gs0 rm M (t - m_tm M) q)) 134 q (gs1 M (t - m_tm M) q)) := by
      intro t4 h
      have e9 : gB (wB b 133 q (gs0 rm M (t - m_tm M) q)) 134 q = m_s1 M q := by rw [gB_wB, if_neg (fun z => absurd z.1 (by decide))]; exact e134
      have f1 : gA (wB b 133 q (gs0 rm M (t - m_tm M) q)) 136 q = nI (m_R M q).length := e1
      have f2 : gA (wB b 133 q (gs0 rm M (t - m_tm M) q)) 136 (14 + q) = nI (m_R M (14 + q)).length := e2
      unfold cR_goOn_64
      rw [if_pos (nI_idx hq (by decide)), if_pos (nI_idx hq (by decide)), nI_clamp (by omega), h]
      show ((cR_waitingAt (nI q) (wB b 133 q (gs0 rm M (t - m_tm M) q))).bind _) = _
      unfold cR_waitingAt
      rw [if_pos (nI_idx (by omega) (by decide)), show (14 : Int32) + nI q = nI (14 + q) from nI_add 14 q, if_pos (nI_idx (by omega) (by decide)), nI_clamp (by omega), nI_clamp (by omega), f1, f2, nI_add, Option.bind_some]
      dsimp only
      show cR_goOn_2 F0 (nI t) (nI q + 1) (wB (wB b 133 q (gs0 rm M (t - m_tm M) q)) 134 q (gB (wB b 133 q (gs0 rm M (t - m_tm M) q)) 134 q + _)) = _
      rw [e9, nI_1]; rfl
    obtain ⟨b1, f1, g1, h1, h3, h4, h5⟩ := ih (q + 1) F0 _ _ _ (by omega) (by omega) zB (fun i hi => by rw [up_n (by omega), up_n (by omega)]; exact hf i (by omega))
    refine ⟨b1, f1, g1, ?_, h3, fun i hi hi2 => ?_, fun i hi => ?_⟩
    · rw [← h1, cR_goOn_2.eq_2]
      unfold cR_goOn_2_b
      rw [if_neg (show ¬ (14 : Int32) ≤ nI q from nI_ge (b := 14) hq (by decide)), if_pos (nI_idx hq (by decide)), etm, espan, nI_clamp (by omega), e133, e129]
      by_cases c : q < 8
      · rw [if_neg (show ¬ (8 : Int32) ≤ nI q from nI_ge (b := 8) c (by decide)), (VB_nr hB).1]
        have h14 := (VB_nr hB).2
        by_cases c2 : q < rm 14
        · rw [if_neg (nI_ge c2 (by omega)), if_pos (nI_idx c (by decide)), VB_r0 hB q c2]
          exact e64 _ (by unfold gF; rw [if_pos c])
        · rw [if_pos (nI_le (by omega) (by omega))]
          exact e64 _ (by unfold gF; rw [if_pos c, hrm.2.1 q (by omega) c]; rfl)
      · rw [if_pos (show (8 : Int32) ≤ nI q from nI_le (a := 8) (by omega) (by omega))]
        exact e64 _ (by unfold gF; rw [if_neg c])
    · by_cases c : i = q
      · rw [(h5 i (by omega)).1, (h5 i (by omega)).2, c, up_s, up_s]; exact ⟨rfl, rfl⟩
      · exact h4 i (by omega) hi2
    · rw [(h5 i (by omega)).1, (h5 i (by omega)).2, up_n (by omega), up_n (by omega)]; exact ⟨rfl, rfl⟩
theorem goOn_ok {rm : Nat → Nat} {b : ts} {M : Md} {t : Nat} (hrm : RMk rm) (hB : VB rm b M) (ht : m_tm M ≤ t) (ht9 : t ≤ 1000000000) (h2 : ∀ q, q < 14 → lenq M q ≤ 300) : ∃ b1, cR_goOn (nI t) b = some b1 ∧ VB rm b1 (mGo M t (gs0 rm M (t - m_tm M)) (gs1 M (t - m_tm M))) := by
  obtain ⟨b1, f1, g1, h1, h3, h4, h5⟩ := goOn_lp (rm := rm) (M := M) (t := t) hrm ht ht9 h2 14 0 tm_N b (m_s0 M) (m_s1 M) (by omega) (by unfold tm_N; omega) (by rw [go_self]; exact hB) (fun _ _ => ⟨rfl, rfl⟩)
  refine ⟨_, h1, rc_go2 h3 (fun q hq => ?_)⟩
  have := h4 q (by omega) hq
  exact ⟨this.1.symm, this.2.symm⟩
