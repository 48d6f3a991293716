/-! START AT WORK: arguments and span, then the new process. -/
theorem const0 {p T f t : Nat} {a : ts} (hO : OpA a f [(1, 0)]) (h805 : gI a 805 0 = nI t) (ht : t < 128) (hf : f < T) (hT : T ≤ 4000) : ∀ G, cW_reckon_45 (G + 1) p (nI T) (nI f) a = cW_reckon_45 G p (nI T) (nI (f + 1)) (pshA a t 0) := by
  intro G
  obtain ⟨a1, a2⟩ := hO 0 (1, 0) rfl
  rw [Nat.add_zero] at a1 a2
  have ea : oA f (1, 0) = 0 := if_neg (fun z => by have := z.1; cases this)
  rw [ea] at a2
  rw [cstep (o := 1) a1 a2 hf hT (by decide) (by decide) (by decide)]
  unfold cW_apply
  rw [if_pos (by decide), push_ok h805 ht, Option.bind_some, Option.bind_some]; rfl
theorem EVR_142 {p k : Nat} {v : Int32} {a b : ts} (h : EVR p a b) : EVR p a (wA b 142 k v) := by
  obtain ⟨h1, h2, h3, h4, h5, h6, h7⟩ := h
  refine ⟨h1, h2, fun i hi => ?_, h4, fun i hi => ?_, fun q hq => ?_, fun q hq => ?_⟩
  · rw [gA_wf (by decide)]; exact h3 i hi
  · rw [gA_wf (by decide)]; exact h5 i hi
  · rw [gA_wf (by decide)]; exact h6 q hq
  · rw [gA_wf (by decide), gA_wf (by decide)]; exact h7 q hq
theorem XB_fr {b b1 : ts} {K : Nat} {v : Int32} {F : List Op1} {W : List Nat} (h : XB b K v F) (hf : fr W b b1) (c1 : W.contains (2000 + 110) = false) (c2 : W.contains (2000 + 111) = false) : XB b1 K v F := XB_mono h (fun j _ => ⟨hf.2.1 110 c1 j, hf.2.1 111 c2 j⟩) (Nat.le_refl _)
theorem psh_top {a : ts} {t : Nat} {v : Int32} : gI (pshA a t v) 805 0 = nI (t + 1) ∧ gA (pshA a t v) 38 t = v ∧ ∀ k, k < t → gA (pshA a t v) 38 k = gA a 38 k := by
  unfold pshA
  refine ⟨gI_ws, ?_, fun k hk => ?_⟩
  · show gA (wA a 38 t v) 38 t = v
    exact gA_ws
  · show gA (wA a 38 t v) 38 k = _
    exact gA_wn (by omega)
/-- arguments from the i-th on, then the span -/
theorem sargs {p l T m K : Nat} {Pr : List Op1} (hm : m ≤ 8) (hl : l < 900) (hK : K ≤ 8000) (hT4 : T ≤ 4000) (hWP : Wt 103 Pr) : ∀ (As : List (List Op1)) (i f F : Nat) (a b : ts), i + As.length = m → As.length < F → EVR p a b → OpA a f (As ++ [Pr]).flatten → f + (As ++ [Pr]).flatten.length = T → (∀ E, E ∈ As → Wt 103 E) → gI a 805 0 = nI i → (∀ k, k < i → gA a 38 k = gA b 142 k) → gA b 105 l = nI m → XZ b K (gA b 101 l) Pr → (∀ j E, As[j]? = some E → XB b K (gA b 104 (8 * l + (i + j))) E) →
    (∃ v J a' b', J ≤ (As ++ [Pr]).flatten.length + 1 ∧ (∀ G, cW_reckon_45 (G + J) p (nI T) (nI f) a = some (0, a')) ∧ cR_startOne_2 F (nI p) (nI l) (nI i) b = cR_startOne_112 (nI p) (nI l) v b' ∧ gI a' 805 0 = nI (m + 1) ∧ gA a' 38 m = v ∧ (∀ k, k < m → gA a' 38 k = gA b' 142 k) ∧ fr [801, 805, 2038] a a' ∧ fr [1158, 1188, 2140, 2142] b b' ∧ gI a' 801 0 = gI b' 1158 0)
    ∨ (∃ w J a' b', 0 < w ∧ w < 10 ∧ J ≤ (As ++ [Pr]).flatten.length + 1 ∧ (∀ G, cW_reckon_45 (G + J) p (nI T) (nI f) a = some (nI w, a')) ∧ cR_startOne_2 F (nI p) (nI l) (nI i) b = (cR_finish (nI p) (nI w) b').bind (fun s => some s) ∧ fr [801, 805, 2038] a a' ∧ fr [1158, 1188, 2140, 2142] b b' ∧ gI a' 801 0 = gI b' 1158 0) := by
  intro As
  induction As with
  | nil =>
    intro i f F a b hi hF hR hO hfT hW h805 hst h105 hXZ hXB
    obtain ⟨F0, rfl⟩ : ∃ F0, F = F0 + 1 := ⟨F - 1, by omega⟩
    have e1 : ([] ++ [Pr] : List (List Op1)).flatten = Pr := by simp
    rw [e1] at hO hfT ⊢
    have him : i = m := by simpa using hi
    subst him
    have eR : cR_startOne_2 (F0 + 1) (nI p) (nI l) (nI i) b = (if (gA b 101 l) = ((-1 : Int32)) then cR_startOne_82 (nI p) (nI l) ((0 : Int32)) b else (cR_reckon (gA b 101 l) (nI p) b).bind (fun x4 => cR_startOne_82 (nI p) (nI l) x4.1 x4.2)) := by
      rw [cR_startOne_2.eq_2]
      unfold cR_startOne_2_b
      rw [if_pos (nI_idx hl (by decide)), nI_clamp (by omega), h105, if_pos (nI_le (Nat.le_refl _) (by omega))]
    rcases hXZ with ⟨z1, z2⟩ | ⟨e, z1, z2, z3⟩
    · subst z2
      left
      have hps := psh_top (a := a) (t := i) (v := 0)
      refine ⟨0, 2, pshA a i 0, b, by simp, fun G => ?_, ?_, hps.1, hps.2.1, fun k hk => (hps.2.2 k hk).trans (hst k hk), fr_psh, fr_rf, ?_⟩
      · have e2 : f + 1 = T := by simpa using hfT
        rw [show G + 2 = G + 1 + 1 from rfl, const0 hO h805 (by omega) (by omega) hT4, e2]
        exact reckon_end hT4
      · rw [eR, if_pos z1]
        unfold cR_startOne_82
        rw [if_pos (nI_idx hl (by decide)), nI_clamp (by omega), if_pos z1]
      · rw [← hR.2.1]; unfold pshA; exact (gI_wf (by decide)).trans rfl
    · have hne : ¬ gA b 101 l = -1 := by rw [z1]; exact nI_no1 (by omega)
      have e82 : ∀ v b', gA b' 101 l = gA b 101 l → cR_startOne_82 (nI p) (nI l) v b' = (if (gI b' 1188 0) ≤ ((0 : Int32)) then cR_startOne_112 (nI p) (nI l) v b' else (cR_finish (nI p) (gI b' 1188 0) b').bind (fun s3 => some s3)) := by
        intro v b' h
        unfold cR_startOne_82
        rw [if_pos (nI_idx hl (by decide)), nI_clamp (by omega), h, if_neg hne]
      rcases exp_i (T := T) (t := i) hWP hR hO z3 (by omega) (by omega) hT4 (by omega) h805 with ⟨v, j, a', b', h1, h2, h3, h4, h5, h6, h7, h8, h9, h10⟩ | ⟨w, u, j, a', b', h1, h2, h3, h4, h5, h6, h7, h8, h9⟩
      · left
        refine ⟨v, j + 1, a', b', by omega, fun G => ?_, ?_, h5, h6, fun k hk => ?_, h8, fr_mono (by decide) h9, h10⟩
        · rw [show G + (j + 1) = G + 1 + j by omega, h2, hfT]; exact reckon_end hT4
        · rw [eR, if_neg hne, z1, h3, Option.bind_some]
          dsimp only
          rw [e82 v b' (h9.2.1 101 rfl l), h4, if_pos (by decide)]
        · rw [h7 k hk, hst k hk]; exact (h9.2.1 142 rfl k).symm
      · right
        refine ⟨w, j, a', b', by omega, h2, by omega, h4, ?_, h7, fr_mono (by decide) h8, h9⟩
        rw [eR, if_neg hne, z1, h5, Option.bind_some]
        dsimp only
        rw [e82 u b' (h8.2.1 101 rfl l), h6, if_neg (nI_nle (by omega) (by omega))]
  | cons E As ih =>
    intro i f F a b hi hF hR hO hfT hW h805 hst h105 hXZ hXB
    obtain ⟨F0, rfl⟩ : ∃ F0, F = F0 + 1 := ⟨F - 1, by omega⟩
    have e1 : (E :: As ++ [Pr]).flatten = E ++ (As ++ [Pr]).flatten := by simp
    rw [e1] at hO hfT ⊢
    rw [List.length_append] at hfT ⊢
    rw [List.length_cons] at hi hF
    obtain ⟨e, z1, z2, z3⟩ := hXB 0 E rfl
    rw [Nat.add_zero] at z1
    have eR : cR_startOne_2 (F0 + 1) (nI p) (nI l) (nI i) b = (cR_reckon (nI e) (nI p) b).bind (fun x9 => (if am_idx (nI i) 8 = true then (if (gI (wA x9.2 142 (nI i).toNatClampNeg x9.1) 1188 0) ≤ ((0 : Int32)) then cR_startOne_2 F0 (nI p) (nI l) (nI i + (1 : Int32)) (wA x9.2 142 (nI i).toNatClampNeg x9.1) else (cR_finish (nI p) (gI (wA x9.2 142 (nI i).toNatClampNeg x9.1) 1188 0) (wA x9.2 142 (nI i).toNatClampNeg x9.1)).bind (fun s12 => some s12)) else none)) := by
      rw [cR_startOne_2.eq_2]
      unfold cR_startOne_2_b
      rw [if_pos (nI_idx hl (by decide)), nI_clamp (by omega), h105, if_neg (nI_ge (by omega) (by omega)), show (8 : Int32) * nI l + nI i = nI (8 * l + i) by rw [show (8 : Int32) = nI 8 from rfl, pk_mul, nI_add], if_pos (nI_idx (by omega) (by decide)), nI_clamp (by omega), z1]
    rcases exp_i (T := T) (t := i) (hW E List.mem_cons_self) hR (OpA_left hO) z3 (by omega) (by omega) hT4 (by omega) h805 with ⟨v, j, a', b', h1, h2, h3, h4, h5, h6, h7, h8, h9, h10⟩ | ⟨w, u, j, a', b', h1, h2, h3, h4, h5, h6, h7, h8, h9⟩
    · have f142 : fr [1158, 1188, 2140, 2142] b (wA b' 142 i v) := fr_wA (fr_mono (by decide) h9) rfl
      have hR' : EVR p a' (wA b' 142 i v) := EVR_142 (EVR_fr hR h8 h9 h10)
      have hst' : ∀ k, k < i + 1 → gA a' 38 k = gA (wA b' 142 i v) 142 k := fun k hk => by
        by_cases c : k = i
        · rw [c, gA_ws]; exact h6
        · rw [gA_wn c, h7 k (by omega), hst k (by omega)]; exact (h9.2.1 142 rfl k).symm
      have hstep : cR_startOne_2 (F0 + 1) (nI p) (nI l) (nI i) b = cR_startOne_2 F0 (nI p) (nI l) (nI (i + 1)) (wA b' 142 i v) := by
        rw [eR, h3, Option.bind_some]
        dsimp only
        rw [if_pos (nI_idx (by omega) (by decide)), nI_clamp (by omega), show gI (wA b' 142 i v) 1188 0 = 0 from h4, if_pos (by decide), nI_1]
      have hrec := ih (i + 1) (f + E.length) F0 a' (wA b' 142 i v) (by omega) (by omega) hR' (OpA_fr (OpA_right hO) h8) (by omega) (fun E' h => hW E' (List.mem_cons_of_mem _ h)) h5 hst' (by rw [f142.2.1 105 rfl]; exact h105) (by
        rw [f142.2.1 101 rfl]
        rcases hXZ with z | z
        · exact Or.inl z
        · exact Or.inr (XB_fr z f142 rfl rfl)) (fun j' E' hj => by
        have := hXB (j' + 1) E' hj
        rw [show i + (j' + 1) = i + 1 + j' by omega] at this
        rw [f142.2.1 104 rfl]; exact XB_fr this f142 rfl rfl)
      rcases hrec with ⟨v', J, a2, b2, g1, g2, g3, g4, g5, g6, g7, g8, g9⟩ | ⟨w, J, a2, b2, g1, g2, g3, g4, g5, g6, g7, g8⟩
      · left
        refine ⟨v', J + j, a2, b2, by omega, fun G => ?_, by rw [hstep]; exact g3, g4, g5, g6, fr_tr h8 g7, fr_tr f142 g8, g9⟩
        rw [← Nat.add_assoc, h2]; exact g2 G
      · right
        refine ⟨w, J + j, a2, b2, g1, g2, by omega, fun G => ?_, by rw [hstep]; exact g5, fr_tr h8 g6, fr_tr f142 g7, g8⟩
        rw [← Nat.add_assoc, h2]; exact g4 G
    · right
      refine ⟨w, j, a', wA b' 142 i u, by omega, h2, by omega, h4, ?_, h7, fr_wA (fr_mono (by decide) h8) rfl, h9⟩
      rw [eR, h5, Option.bind_some]
      dsimp only
      rw [if_pos (nI_idx (by omega) (by decide)), nI_clamp (by omega), show gI (wA b' 142 i u) 1188 0 = nI w from h6, if_neg (nI_nle (by omega) (by omega))]
theorem isDef_yes {a : ts} {nd d : Nat} (h : gA a 16 3 = nI nd) (hd : d < nd) (hn : nd ≤ 12) : cG_isDefinition (nI d) a = some (1, a) := by
  unfold cG_isDefinition
  rw [if_neg (nI_pos (by omega)), show gA a 16 ((3 : Int32)).toNatClampNeg = nI nd from h, if_neg (nI_ge hd (by omega)), if_neg (show ¬ (12 : Int32) ≤ nI d from nI_ge (b := 12) (by omega) (by decide))]
theorem result_i {a : ts} {m i : Nat} (h : gI a 805 0 = nI m) (hi : i < m) (hm : m ≤ 128) : cW_result (nI i) a = some (gA a 38 i, a) := by
  unfold cW_result
  rw [if_neg (nI_pos (by omega)), h, if_neg (nI_ge hi (by omega)), if_neg (show ¬ (128 : Int32) ≤ nI i from nI_ge (b := 128) (by omega) (by decide)), if_pos (nI_idx (by omega) (by decide)), nI_clamp (by omega)]
/-- the program gives the new process its values -/
theorem vals_cl {rm : Nat → Nat} {q n : Nat} {v : Int32} {f : Nat → Int32} (hn : n ≤ 8) : ∀ (k i F : Nat) (a : ts) (M : Md), i + k = n → k < F → VA rm a (vals M q f i) → q < gM a → gI a 805 0 = nI (n + 1) → (∀ j, j < n → gA a 38 j = f j) → ∃ a1, cH_startAnother_61 F (nI n) v q (nI i) a = cH_startAnother_97 v q a1 ∧ VA rm a1 (vals M q f n) := by
  intro k
  induction k with
  | zero =>
    intro i F a M hk hF hA hq h8 hf
    obtain ⟨F0, rfl⟩ : ∃ F0, F = F0 + 1 := ⟨F - 1, by omega⟩
    have e : i = n := by omega
    subst e
    refine ⟨a, ?_, hA⟩
    show cH_startAnother_61_b (cH_startAnother_61 F0) (nI i) v q (nI i) a = _
    unfold cH_startAnother_61_b
    rw [if_pos (nI_le (Nat.le_refl _) (by omega))]
  | succ k ih =>
    intro i F a M hk hF hA hq h8 hf
    obtain ⟨F0, rfl⟩ : ∃ F0, F = F0 + 1 := ⟨F - 1, by omega⟩
    obtain ⟨a1, h1, h2⟩ := ih (i + 1) F0 (wV a q i (f i)) M (by omega) (by omega) (cl_V hA) hq h8 hf
    refine ⟨a1, ?_, h2⟩
    show cH_startAnother_61_b (cH_startAnother_61 F0) (nI n) v q (nI i) a = _
    unfold cH_startAnother_61_b
    rw [if_neg (nI_ge (by omega) (by omega)), if_neg (show ¬ (8 : Int32) ≤ nI i from nI_ge (b := 8) (by omega) (by decide)), if_pos hq, result_i h8 (by omega) (by omega), Option.bind_some]
    dsimp only
    rw [if_pos hq, if_pos (nI_idx (by omega) (by decide)), nI_clamp (by omega), hf i (by omega), nI_1]
    exact h1
theorem vals_rc {rm : Nat → Nat} {q n l : Nat} {f : Nat → Int32} (hn : n ≤ 8) (hq : q < 300) (hl : l < 900) : ∀ (k i F : Nat) (b : ts) (M : Md), i + k = n → k < F → VB rm b (vals M q f i) → gA b 105 l = nI n → (∀ j, j < n → gA b 142 j = f j) → ∃ b1, cR_startOne_180 F (nI l) (nI q) (nI i) b = some b1 ∧ VB rm b1 (vals M q f n) := by
  intro k
  induction k with
  | zero =>
    intro i F b M hk hF hB h5 hf
    obtain ⟨F0, rfl⟩ : ∃ F0, F = F0 + 1 := ⟨F - 1, by omega⟩
    have e : i = n := by omega
    subst e
    refine ⟨b, ?_, hB⟩
    show cR_startOne_180_b (cR_startOne_180 F0) (nI l) (nI q) (nI i) b = _
    unfold cR_startOne_180_b
    rw [if_pos (nI_idx hl (by decide)), nI_clamp (by omega), h5, if_pos (nI_le (Nat.le_refl _) (by omega))]
  | succ k ih =>
    intro i F b M hk hF hB h5 hf
    obtain ⟨F0, rfl⟩ : ∃ F0, F = F0 + 1 := ⟨F - 1, by omega⟩
    obtain ⟨b1, h1, h2⟩ := ih (i + 1) F0 (wA b 127 (8 * q + i) (f i)) M (by omega) (by omega) (rc_V hB (by omega)) (by rw [gA_wf (by decide)]; exact h5) (fun j hj => by rw [gA_wf (by decide)]; exact hf j hj)
    refine ⟨b1, ?_, h2⟩
    show cR_startOne_180_b (cR_startOne_180 F0) (nI l) (nI q) (nI i) b = _
    unfold cR_startOne_180_b
    rw [if_pos (nI_idx hl (by decide)), nI_clamp (by omega), h5, if_neg (nI_ge (by omega) (by omega)), if_pos (nI_idx (by omega) (by decide)), show (8 : Int32) * nI q + nI i = nI (8 * q + i) by rw [show (8 : Int32) = nI 8 from rfl, pk_mul, nI_add], if_pos (nI_idx (by omega) (by decide)), nI_clamp (by omega), nI_clamp (by omega), hf i (by omega), nI_1]
    exact h1
