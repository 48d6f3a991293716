/-! WHAT HOLDS BETWEEN TWO CALLS: the reads, and load. -/
theorem IV_tc {k : Nat} {m : Nat} (hk : k ≤ 513) (h : m ≤ k * TK) : m < 2000000000 := by
  unfold TK at h
  omega
theorem x_state (k : Nat) : sx_state (IV k) (IV (k + 1)) := fun w s h => by
  have h0 := h
  obtain ⟨i1, i2, i3, i4, i5⟩ := h
  rcases i5 with z | ⟨h1, h2, L, pm, en, vc, un, rm0, G, τ, K, K', rm, M, h3, h4, h5, h7, h8, h9⟩
  · have hf := i4.2.2.2.1
    have hf2 := i4.2.2.2.2
    by_cases c11 : w = 11
    · refine ⟨gI s 108 0, s, s, ?_, ?_, IV_up h0⟩
      · unfold cX_state
        rw [if_pos c11]
      · unfold cR_state cR_state_12
        rw [if_pos c11, if_pos c11, hf]
    · by_cases c12 : w = 12
      · refine ⟨gI s 109 0, s, s, ?_, ?_, IV_up h0⟩
        · unfold cX_state
          rw [if_neg c11, if_pos c12]
        · unfold cR_state cR_state_12
          rw [if_neg c11, if_pos c12, if_neg c11, hf2]
      · refine ⟨-1, s, s, ?_, ?_, IV_up h0⟩
        · unfold cX_state
          rw [if_neg c11, if_neg c12, z.1, if_pos rfl]
        · unfold cR_state
          rw [if_neg c11, if_neg c12, z.2, if_pos rfl]
  · obtain ⟨v, e1, e2⟩ := state_ok w h4 h5 h7.1 h1 h2 i4.2.2.2.1 i4.2.2.2.2
    exact ⟨v, s, s, e1, e2, IV_up h0⟩
theorem x_number (k : Nat) : sx_number (IV k) (IV (k + 1)) := fun w s h => by
  have h0 := h
  obtain ⟨i1, i2, i3, i4, i5⟩ := h
  rcases i5 with z | ⟨h1, h2, L, pm, en, vc, un, rm0, G, τ, K, K', rm, M, h3, h4, h5, h7, h8, h9⟩
  · refine ⟨-2000000000, s, s, ?_, ?_, IV_up h0⟩
    · unfold cX_number
      rw [z.1, if_pos rfl]
    · unfold cR_number
      rw [z.2, if_pos rfl]
  · obtain ⟨v, e1, e2⟩ := number_ok w h3 h4 h5 h1 h2
    exact ⟨v, s, s, e1, e2, IV_up h0⟩
theorem x_process (k : Nat) : sx_process (IV k) (IV (k + 1)) := fun p w s h => by
  have h0 := h
  obtain ⟨i1, i2, i3, i4, i5⟩ := h
  rcases i5 with z | ⟨h1, h2, L, pm, en, vc, un, rm0, G, τ, K, K', rm, M, h3, h4, h5, h7, h8, h9⟩
  · refine ⟨-2000000000, s, s, ?_, ?_, IV_up h0⟩
    · unfold cX_process cX_process_22
      rw [z.1, if_pos rfl]
    · unfold cR_process
      rw [z.2, if_pos rfl]
  · obtain ⟨v, e1, e2⟩ := process_ok p w h3 h4 h5 h7 h1 h2
    exact ⟨v, s, s, e1, e2, IV_up h0⟩
theorem x_place (k : Nat) : sx_place (IV k) (IV (k + 1)) := fun r w s h => by
  have h0 := h
  obtain ⟨i1, i2, i3, i4, i5⟩ := h
  rcases i5 with z | ⟨h1, h2, L, pm, en, vc, un, rm0, G, τ, K, K', rm, M, h3, h4, h5, h7, h8, h9⟩
  · refine ⟨-2, s, s, ?_, ?_, IV_up h0⟩
    · unfold cX_place cX_place_29
      rw [z.1, if_pos rfl]
    · unfold cR_place cR_spot
      rw [z.2, if_pos rfl]; rfl
  · obtain ⟨v, e1, e2⟩ := placeC_ok r w h3 h4 h5 h7.1 h7.2.2.1 h1 h2
    exact ⟨v, s, s, e1, e2, IV_up h0⟩
theorem x_sum (k : Nat) : sx_sum (IV k) (IV (k + 1)) := fun r w s h => by
  have h0 := h
  obtain ⟨i1, i2, i3, i4, i5⟩ := h
  rcases i5 with z | ⟨h1, h2, L, pm, en, vc, un, rm0, G, τ, K, K', rm, M, h3, h4, h5, h7, h8, h9⟩
  · refine ⟨-1, s, s, ?_, ?_, IV_up h0⟩
    · unfold cX_sum cX_sum_29
      rw [z.1, if_pos rfl]
    · unfold cR_sum cR_spot
      rw [z.2, if_pos rfl]; rfl
  · obtain ⟨v, e1, e2⟩ := sum_ok r w h3 h4 h5 h1 h2
    exact ⟨v, s, s, e1, e2, IV_up h0⟩
theorem x_trace (k : Nat) (hk : k ≤ 513) : sx_trace (IV k) (IV (k + 1)) := fun i w s h => by
  have h0 := h
  obtain ⟨i1, i2, i3, i4, i5⟩ := h
  rcases i5 with z | ⟨h1, h2, L, pm, en, vc, un, rm0, G, τ, K, K', rm, M, h3, h4, h5, h7, h8, h9⟩
  · refine ⟨-2000000000, s, s, ?_, ?_, IV_up h0⟩
    · unfold cX_trace
      rw [z.1, if_pos rfl]
    · unfold cR_trace
      rw [z.2, if_pos rfl]
  · obtain ⟨v, e1, e2⟩ := trace_ok i w h4 h5 (IV_tc hk h9) h1 h2
    exact ⟨v, s, s, e1, e2, IV_up h0⟩
theorem M00_RW {rm un : Nat → Nat} {G : List Ln} {nd : Nat} {sd : Int32} (hu : ∀ q, q < 8 → un q = rm q) : RW rm G nd (M00 un sd) := by
  refine ⟨?_, ?_, ?_, ?_, ?_⟩
  · unfold Inv
    simp only [p_M00]
    refine ⟨⟨by omega, by omega⟩, fun ρ hρ => List.nodup_nil, fun ρ hρ p hp => (by cases hp), fun ρ ρ1 p h1 h2 h3 => (by cases h3), fun p hp => by omega, fun p hp => (by cases hp), ⟨List.Pairwise.nil, fun x hx => (by cases hx)⟩, fun ρ hρ => List.Pairwise.nil, fun ρ h1 h2 h3 p hp => (by cases hp), fun q hq => ⟨Nat.zero_le _, ?_, fun hne => absurd rfl hne⟩, fun q hq => ⟨Nat.le_refl _, by omega⟩, fun p hp => by omega, fun p hp => (by cases hp)⟩
    rw [hu q hq]; rfl
  · unfold Jv
    simp only [p_M00]
    exact fun q _ _ => ⟨trivial, trivial⟩
  · simp only [p_M00]
    exact fun q _ => trivial
  · simp only [p_M00]
    exact fun p hp => by omega
  · simp only [p_M00]
    exact fun p hp => by cases hp
theorem iv_tx {s : ts} (h : iv_t s) : ∃ bt n, n ≤ 4000 ∧ txX s bt n ∧ gI s 1 0 = nI n ∧ txR s bt n ∧ gI s 1101 0 = nI n := by
  obtain ⟨n, h1, h2, h3, h4⟩ := h
  refine ⟨fun k => (gA s 88 k).toNatClampNeg, n, h1, fun k hk => ?_, h2, fun k hk => ?_, h3⟩
  · obtain ⟨b, hb, e1, e2⟩ := h4 k hk
    show (gA s 88 k).toNatClampNeg < 256 ∧ gA s 6 k &&& 255 = nI (gA s 88 k).toNatClampNeg
    rw [e1, nI_clamp (by omega)]; exact ⟨hb, e2⟩
  · obtain ⟨b, hb, e1, e2⟩ := h4 k hk
    show (gA s 88 k).toNatClampNeg < 256 ∧ gA s 88 k = nI (gA s 88 k).toNatClampNeg
    rw [e1, nI_clamp (by omega)]; exact ⟨hb, rfl⟩
theorem x_load (k : Nat) : sx_load (IV k) (IV (k + 1)) := fun s h => by
  obtain ⟨i1, i2, i3, i4, i5⟩ := h
  obtain ⟨bt, n, hn, tX, l1, tR, l2⟩ := iv_tx i1
  obtain ⟨s2, r, a1, bx, p1, p2, p3, p4⟩ := load_prog hn tX l1 i4.1 i4.2.1 tR l2 i4.2.2.1
  have fp := cT_part_fr _ _ _ p1
  have fr1 := cD_readText_fr _ _ p2
  have e1 : gI a1 1 0 = 0 := by
    rw [fr1.1 1 (by decide) 0, gI_ws]
  have e302 : gI a1 302 0 = 0 := cD_readText_z3 _ _ p2 (by rw [gI_wf (by decide), fp.1 302 (by decide) 0]; exact i4.2.1)
  have fa1 : fr (wf_cT_part ++ ([1] ++ wf_cD_readText)) s a1 := fr_tr (fr_wI (fr_mono (by decide +kernel) fp) (by decide)) (fr_mono (by decide +kernel) fr1)
  have hCg1 : Cg a1 := Cg_fr i3 fa1 (by decide)
  have h8 : ∀ k, k < 24 → gB a1 8 k = in_rw.getD k 0 := fun k hk => by rw [fa1.2.2.1 8 (by decide)]; exact i4.1 k hk
  -- the program
  have hX : ∃ s1, cX_load s = some (gI a1 108 0, s1) ∧ fr wf_cH_open (wI a1 6 0 r) s1 ∧ (r = 1 → ∀ (un rm : Nat → Nat), (∀ p, p < 14 → gA a1 17 p = nI (un p) ∧ gA a1 18 p = nI (rm p)) → VA rm s1 (M00 un (gI a1 801 0))) ∧ (r = 0 → s1 = wI a1 6 0 r) := by
    have hr : r = 0 ∨ r = 1 := by
      rcases p4 with ⟨z, _⟩ | ⟨z, _⟩
      · exact Or.inl z
      · exact Or.inr z
    rcases hr with hr | hr
    · refine ⟨wI a1 6 0 r, ?_, fr_rf, fun z => ?_, fun _ => rfl⟩
      · unfold cX_load
        rw [p1, Option.bind_some, p2, Option.bind_some]
        dsimp only
        rw [gI_ws, if_pos hr, gI_wf (by decide)]
      · rw [hr] at z; exact absurd z (by decide)
    · have hop : ∃ s1, cH_open (wI a1 6 0 r) = some s1 := by
        obtain ⟨L, pm, en, vc, un, rm, G, τ, K, K', q1, _⟩ : PR a1 bx := by
          rcases p4 with ⟨z, _⟩ | ⟨_, _, _, _, z⟩
          · rw [hr] at z; exact absurd z (by decide)
          · exact z
        obtain ⟨s1, o1, _⟩ := openA_ok (rm := rm) (un := un) (s := wI a1 6 0 r) q1.2.2.2.2 hCg1.1 (fun p hp => by rw [gI_wf (by decide)]; exact hCg1.2.1 p hp) (fun q hq => by rw [gI_wf (by decide)]; exact hCg1.2.2 q hq)
        exact ⟨s1, o1⟩
      obtain ⟨s1, o1⟩ := hop
      have fo := cH_open_fr _ _ o1
      refine ⟨s1, ?_, fo, fun _ un rm hp => ?_, fun z => ?_⟩
      · unfold cX_load
        rw [p1, Option.bind_some, p2, Option.bind_some]
        dsimp only
        rw [gI_ws, if_neg (by rw [hr]; decide), o1, Option.bind_some, fo.1 108 (by decide) 0, gI_wf (by decide)]
      · obtain ⟨s1', o1', o2⟩ := openA_ok (rm := rm) (un := un) (s := wI a1 6 0 r) hp hCg1.1 (fun p hp => by rw [gI_wf (by decide)]; exact hCg1.2.1 p hp) (fun q hq => by rw [gI_wf (by decide)]; exact hCg1.2.2 q hq)
        rw [o1] at o1'
        cases o1'
        rw [gI_wf (by decide)] at o2
        exact o2
      · rw [hr] at z; exact absurd z (by decide)
  obtain ⟨s1, x1, x2, x3, x4⟩ := hX
  have fX := cX_load_fr _ _ x1
  have fa2 : fr (6 :: wf_cH_open) a1 s1 := fr_tr (fr_wI fr_rf (by decide)) (fr_mono (by decide +kernel) x2)
  -- the reference, where the program left it
  have tX1 : txR s1 bt n := fun j hj => by rw [fX.2.1 88 (by decide)]; exact tR j hj
  obtain ⟨s2', r', a1', b1, p1', p2', p3', p4'⟩ := load_prog (b := s1) hn tX l1 i4.1 i4.2.1 tX1 ((fX.1 1101 (by decide) 0).trans l2) (WD_fr i4.2.2.1 fX)
  rw [p1] at p1'
  cases p1'
  rw [p2] at p2'
  obtain ⟨er, ea⟩ := Prod.mk.inj (Option.some.inj p2')
  rw [← er, ← ea] at p4'
  have sd1 : gI s1 801 0 = gI s 801 0 := fX.1 801 (by decide) 0
  rcases p4' with ⟨hr, hF⟩ | ⟨hr, h1103, h108, h109, hPR⟩
  · have eR : cR_load s1 = some (gI a1 108 0, wI b1 1101 0 0) := by
      rw [p3']
      unfold cR_load_245 cR_good
      rw [gI_wf (by decide), if_neg hF.2.2, Option.bind_some]
      dsimp only
      rw [if_pos rfl, gI_wf (by decide), hF.1]
    have fR := cR_load_fr _ _ eR
    have hz := load_z eR
    have g3 : gI (wI b1 1101 0 0) 1103 0 = gI b1 1103 0 := gI_wf (by decide)
    have g4 : gI (wI b1 1101 0 0) 1104 0 = gI b1 1104 0 := gI_wf (by decide)
    have hs1 := x4 hr
    refine ⟨gI a1 108 0, s1, wI b1 1101 0 0, x1, eR, ⟨0, by omega, ?_, gI_ws, fun j hj => by omega⟩, ?_, ?_, ⟨?_, ?_, ?_, ?_, ?_⟩, Or.inl ⟨?_, hz.1 (by rw [g3]; exact hF.2.2)⟩⟩
    · rw [fR.1 1 (by decide) 0, fa2.1 1 (by decide) 0]; exact e1
    · rw [fR.1 801 (by decide) 0, fR.1 1158 (by decide) 0, sd1, fX.1 1158 (by decide) 0]; exact i2
    · exact Cg_fr (Cg_fr hCg1 fa2 (by decide)) fR (by decide)
    · intro j hj
      rw [fR.2.2.1 8 (by decide), fa2.2.2.1 8 (by decide)]; exact h8 j hj
    · rw [fR.1 302 (by decide) 0, fa2.1 302 (by decide) 0]; exact e302
    · exact WD_fr (WD_fr i4.2.2.1 fX) fR
    · rw [fR.1 108 (by decide) 0, fa2.1 108 (by decide) 0, g3]; exact hF.1
    · rw [fR.1 109 (by decide) 0, fa2.1 109 (by decide) 0, g4]; exact hF.2.1
    · rw [fR.1 6 (by decide) 0, hs1, gI_ws]; exact hr
  · obtain ⟨L, pm, en, vc, un, rm0, G, τ, K, K', q1, q2, q3⟩ := hPR
    have hUR := q3.2.2.2.1
    obtain ⟨u1, u2, u3, u4⟩ := hUR
    have l0 : (L 0).length ≤ 8 := (q1.2.1 0 (by omega)).2
    have l1' : (L 1).length ≤ 6 := (q1.2.1 1 (by omega)).2
    generalize hrm : (fun q => if q = 14 then (L 0).length else if q = 15 then (L 1).length else rm0 q : Nat → Nat) = rm
    have m14 : rm 14 = (L 0).length := by rw [← hrm]; rfl
    have m15 : rm 15 = (L 1).length := by rw [← hrm]; rfl
    have mq : ∀ q, q < 14 → rm q = rm0 q := fun q hq => by
      rw [← hrm]
      show (if q = 14 then (L 0).length else if q = 15 then (L 1).length else rm0 q) = rm0 q
      rw [if_neg (by omega), if_neg (by omega)]
    have hRM : RMk rm := by
      refine ⟨fun q hq => ?_, fun q h1 h2 => ?_, fun q hq => ?_, by omega, by omega⟩
      · rw [mq q (by omega)]
        by_cases c : q < (L 0).length
        · have := u1 q c; omega
        · have := u3 q (by omega) hq; omega
      · rw [mq q (by omega)]
        exact (u3 q (by omega) h2).2
      · rw [mq q hq]
        by_cases c8 : q < 8
        · by_cases c : q < (L 0).length
          · have := u1 q c; omega
          · have := u3 q (by omega) c8; omega
        · obtain ⟨j, rfl⟩ : ∃ j, q = 8 + j := ⟨q - 8, by omega⟩
          by_cases c : j < (L 1).length
          · have := u2 j c; omega
          · have := u4 j (by omega) (by omega); omega
    have hu8 : ∀ q, q < 8 → un q = rm q := fun q hq => by
      rw [mq q (by omega)]
      by_cases c : q < (L 0).length
      · exact (u1 q c).2.2.symm
      · have := u3 q (by omega) hq; omega
    -- the reference begins
    have f0 : fr [1101, 1102] b1 (wI (wI b1 1101 0 0) 1102 0 1) := fr_wI (fr_wI fr_rf rfl) rfl
    have q2b := PRB_fr q2 f0 (by decide)
    obtain ⟨s3, g1, g2⟩ := begB_ok (rm := rm) (un := un) (nr := (L 0).length) (ns := (L 1).length) (s := wI (wI b1 1101 0 0) 1102 0 1) l0 l1' (fun r h1 h2 => (u3 r h1 h2).1) (fun j h1 h2 => (u4 j h1 h2).1) q2b.2.1.1 q2b.2.1.2.1 q2b.2.2.2.2.1 (fun i hi => (q2b.2.2.2.2.2 i hi).1) (fun i hi => by rw [mq (8 + i) (by omega)]; exact (q2b.2.2.2.2.2 i hi).2) m14 m15 (fun r hr => by rw [mq r (by omega)]; exact (u1 r hr).2.2)
    have fB := cR_beginAll_fr _ _ g1
    have eR : cR_load s1 = some (0, s3) := by
      rw [p3']
      unfold cR_load_245 cR_good
      rw [gI_wf (by decide), if_pos h1103, Option.bind_some]
      dsimp only
      rw [if_neg (by decide), g1, Option.bind_some]
    have fR := cR_load_fr _ _ eR
    have hz := load_z eR
    have v1103 : gI s3 1103 0 = 0 := by
      rw [fB.1 1103 (by decide) 0, f0.1 1103 (by decide) 0]; exact h1103
    have sd3 : gI s3 1158 0 = gI s 1158 0 := by rw [fR.1 1158 (by decide) 0, fX.1 1158 (by decide) 0]
    have hA1 := x3 hr un rm (fun p hp => by rw [mq p hp]; exact q1.2.2.2.2 p hp)
    have sdA : gI a1 801 0 = gI s 801 0 := fa1.1 801 (by decide) 0
    rw [sdA] at hA1
    have hA3 : VA rm s3 (M00 un (gI s 801 0)) := VA_fr hA1 fR (by decide)
    have hB3 : VB rm s3 (M00 un (gI s 801 0)) := by
      have e : gI (wI (wI b1 1101 0 0) 1102 0 1) 1158 0 = gI s 801 0 := by
        have := VB_sd g2
        simp only [p_M00] at this
        rw [← this, sd3, i2]
      rw [e] at g2; exact g2
    have hE3 : Evp s3 s3 L pm en vc un rm0 G τ K K' rm := by
      refine ⟨PRA_fr (PRA_fr q1 fa2 (by decide)) fR (by decide), PRB_fr q2b fB (by decide), q3, hRM, m14, m15⟩
    refine ⟨gI a1 108 0, s1, s3, x1, by rw [h108]; exact eR, ⟨0, by omega, ?_, ?_, fun j hj => by omega⟩, ?_, Cg_VA hA3, ⟨?_, ?_, ?_, ?_, ?_⟩, Or.inr ⟨?_, ?_, L, pm, en, vc, un, rm0, G, τ, K, K', rm, M00 un (gI s 801 0), hE3, hA3, hB3, M00_RW hu8, ?_, ?_⟩⟩
    · rw [fR.1 1 (by decide) 0, fa2.1 1 (by decide) 0]; exact e1
    · rw [fB.1 1101 (by decide) 0, gI_wf (by decide), gI_ws]; rfl
    · rw [fR.1 801 (by decide) 0, sd1, sd3]; exact i2
    · intro j hj
      rw [fR.2.2.1 8 (by decide), fa2.2.2.1 8 (by decide)]; exact h8 j hj
    · rw [fR.1 302 (by decide) 0, fa2.1 302 (by decide) 0]; exact e302
    · exact WD_fr (WD_fr i4.2.2.1 fX) fR
    · rw [fR.1 108 (by decide) 0, fa2.1 108 (by decide) 0, v1103]; exact h108
    · rw [fR.1 109 (by decide) 0, fa2.1 109 (by decide) 0, hz.2 v1103]; exact h109
    · rw [fR.1 6 (by decide) 0, x2.1 6 (by decide) 0, gI_ws]; exact hr
    · rw [fB.1 1102 (by decide) 0, gI_ws]
    · simp only [p_M00]; exact Nat.zero_le _
    · simp only [p_M00]; exact Nat.zero_le _
