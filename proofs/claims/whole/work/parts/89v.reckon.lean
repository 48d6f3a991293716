/-! ACTS: their expressions, reckoned on both sides. -/
theorem exp_i {p T f e t : Nat} {a b : ts} {F : List Op1} (hW : Wt 103 F) (hR : EVR p a b) (hO : OpA a f F) (hX : OpC b e F) (he : e + F.length < 9000) (hT : f + F.length ≤ T) (hT4 : T ≤ 4000) (ht : t + 103 ≤ 128) (h805 : gI a 805 0 = nI t) : (∃ v j a' b', j ≤ F.length ∧ (∀ G, cW_reckon_45 (G + j) p (nI T) (nI f) a = cW_reckon_45 G p (nI T) (nI (f + F.length)) a') ∧ cR_reckon (nI e) (nI p) b = some (v, b') ∧ gI b' 1188 0 = 0 ∧ gI a' 805 0 = nI (t + 1) ∧ gA a' 38 t = v ∧ (∀ k, k < t → gA a' 38 k = gA a 38 k) ∧ fr [801, 805, 2038] a a' ∧ fr [1158, 1188, 2140] b b' ∧ gI a' 801 0 = gI b' 1158 0) ∨ (∃ w u j a' b', w ≠ 0 ∧ w < 10 ∧ j ≤ F.length ∧ (∀ G, cW_reckon_45 (G + j) p (nI T) (nI f) a = some (nI w, a')) ∧ cR_reckon (nI e) (nI p) b = some (u, b') ∧ gI b' 1188 0 = nI w ∧ fr [801, 805, 2038] a a' ∧ fr [1158, 1188, 2140] b b' ∧ gI a' 801 0 = gI b' 1158 0) := by
  have f0 : fr [1158, 1188, 2140] b (wI b 1188 0 0) := fr_wI fr_rf rfl
  have hs0 : gI a 801 0 = gI (wI b 1188 0 0) 1158 0 := by rw [gI_wIn (by decide)]; exact hR.2.1
  have hR0 := EVR_fr hR fr_rf f0 hs0
  have hD : OpD (wI b 1188 0 0) e F := hX.2
  have hend : gA (wI b 1188 0 0) 110 (e + F.length) = 0 := hX.1
  rcases (ev_all hW).2 p T f e t 0 a (wI b 1188 0 0) hR0 hO hD hT hT4 he ht (by omega) h805 gI_wIs with ⟨v, j, j', a', b', h1, h2, h3, h4, h5, h6, h7, h8, h9, h10, h11, h12⟩ | ⟨w, j, j', a', b', h1, h2, h3, h4, h5, h6, h7, h8, h9, h10⟩
  · left
    refine ⟨v, j, a', b', h1, h3, ?_, (h11.1 1188 rfl 0).trans gI_wIs, h5, h6, h8, h10, fr_tr f0 (fr_mono (by decide +kernel) h11), h12⟩
    unfold cR_reckon
    have e0 : cR_reckon_10 tm_N (nI p) 0 (nI e) (wI b 1188 0 0) = cR_reckon_10 (999999999 - j' + 1) (nI p) (nI (0 + 1)) (nI (e + F.length)) b' := by
      rw [show tm_N = 999999999 - j' + 1 + j' by unfold tm_N; omega]; exact h4 _
    rw [e0, cR_reckon_10.eq_2]
    unfold cR_reckon_10_b
    rw [if_pos (nI_idx he (by decide)), nI_clamp (by omega), h11.2.1 110 rfl, hend, if_pos rfl, show gA b' 140 ((0 : Int32)).toNatClampNeg = v from h7]
  · right
    obtain ⟨u, hu⟩ := h6 (999999999 - j')
    refine ⟨w, u, j, a', b', h1, h2, h3, h5, ?_, h7, h8, fr_tr f0 h9, h10⟩
    unfold cR_reckon
    rw [show tm_N = 999999999 - j' + j' + 1 by unfold tm_N; omega]; exact hu
/-- the program's reckoning of an act begins -/
theorem reckon_begin {l g f T p : Nat} {a : ts} (hg : gI a 214 0 = nI g) (hl : l < g) (hg5 : g ≤ 512) (h24 : gA a 24 l = nI f) (h25 : gA a 25 l = nI T) (hT : T ≤ 4000) (hf4 : f ≤ 4000) : cW_reckon (nI l) p a = cW_reckon_45 tm_N p (nI T) (nI f) (wI a 805 0 0) := by
  have hg' : gI (wI a 805 0 ((0 : Int32))) 214 0 = nI g := by rw [gI_wIn (by decide)]; exact hg
  have h24' : gA (wI a 805 0 ((0 : Int32))) 24 l = nI f := h24
  have h25' : gA (wI a 805 0 ((0 : Int32))) 25 l = nI T := h25
  unfold cW_reckon
  rw [if_neg (nI_pos (by omega)), hg', if_pos (nI_lt hl (by omega)), if_pos (nI_idx (by omega) (by decide)), nI_clamp (by omega), h24', h25', if_neg (show ¬ (4000 : Int32) < nI T from nI_nlt (a := 4000) hT (by decide))]
  by_cases hf : f = 0
  · rw [hf, if_neg (by decide)]; rfl
  · rw [if_pos (show (0 : Int32) < nI f from nI_lt (a := 0) (by omega) (by omega))]
theorem reckon_end {p T G : Nat} {a : ts} (hT : T ≤ 4000) : cW_reckon_45 (G + 1) p (nI T) (nI T) a = some (0, a) := by
  rw [cW_reckon_45.eq_2]
  unfold cW_reckon_45_b
  rw [if_pos (nI_le (Nat.le_refl _) (by omega))]
theorem reckon0 {l g f p : Nat} {a : ts} (hg : gI a 214 0 = nI g) (hl : l < g) (hg5 : g ≤ 512) (h24 : gA a 24 l = nI f) (h25 : gA a 25 l = nI f) (hT : f ≤ 4000) : cW_reckon (nI l) p a = some (0, wI a 805 0 0) := by
  rw [reckon_begin hg hl hg5 h24 h25 hT hT, show tm_N = 999999999 + 1 from rfl]
  exact reckon_end hT
theorem reckon1 {l g f e p : Nat} {a b : ts} {F : List Op1} (hW : Wt 103 F) (hR : EVR p a b) (hg : gI a 214 0 = nI g) (hl : l < g) (hg5 : g ≤ 512) (h24 : gA a 24 l = nI f) (h25 : gA a 25 l = nI (f + F.length)) (hT : f + F.length ≤ 4000) (hO : OpA a f F) (hX : OpC b e F) (he : e + F.length < 9000) : ∃ w u a' b', w < 10 ∧ cW_reckon (nI l) p a = some (nI w, a') ∧ cR_reckon (nI e) (nI p) b = some (u, b') ∧ gI b' 1188 0 = nI w ∧ (w = 0 → gI a' 805 0 = nI 1 ∧ gA a' 38 0 = u) ∧ fr [801, 805, 2038] a a' ∧ fr [1158, 1188, 2140] b b' ∧ gI a' 801 0 = gI b' 1158 0 := by
  have f0 : fr [801, 805, 2038] a (wI a 805 0 0) := fr_wI fr_rf rfl
  have hs0 : gI (wI a 805 0 0) 801 0 = gI b 1158 0 := by rw [gI_wIn (by decide)]; exact hR.2.1
  have hR0 := EVR_fr hR f0 fr_rf hs0
  rw [reckon_begin hg hl hg5 h24 h25 hT (by omega)]
  rcases exp_i (T := f + F.length) (t := 0) hW hR0 (OpA_fr hO f0) hX he (Nat.le_refl _) hT (by omega) (by rw [gI_wIs]; rfl) with ⟨v, j, a', b', h1, h2, h3, h4, h5, h6, h7, h8, h9, h10⟩ | ⟨w, u, j, a', b', h1, h2, h3, h4, h5, h6, h7, h8, h9⟩
  · refine ⟨0, v, a', b', by omega, ?_, h3, h4, fun _ => ⟨h5, h6⟩, fr_tr f0 h8, h9, h10⟩
    rw [show tm_N = 999999999 - j + 1 + j by unfold tm_N; omega, h2]
    exact reckon_end hT
  · refine ⟨w, u, a', b', h2, ?_, h5, h6, fun z => absurd z h1, fr_tr f0 h7, h8, h9⟩
    rw [show tm_N = 1000000000 - j + j by unfold tm_N; omega]; exact h4 _
theorem result0 {a : ts} (h : gI a 805 0 = nI 1) : cW_result 0 a = some (gA a 38 0, a) := by
  unfold cW_result
  rw [if_neg (by decide), h, if_neg (by decide), if_neg (by decide), if_pos (by decide)]; rfl
theorem result_none {a : ts} (h : gI a 805 0 = nI 0) : cW_result 0 a = some (0, a) := by
  unfold cW_result
  rw [if_neg (by decide), h, if_pos (by decide)]
