/-! A STATEMENT, whatever its kind: both sides. -/
theorem ev_st {rm pm en vc un rm0 : Nat → Nat} {L : Nat → List Int64} {G : List Ln} {τ : Nat → Int32} {K K' l p : Nat} {a b : ts} {M : Md} {n : Ln} (hE : Evp a b L pm en vc un rm0 G τ K K' rm) (hA : VA rm a M) (hB : VB rm b M) (hp : p < m_N M) (hN : m_N M ≤ 300) (hn : G[l]? = some n) (h14 : ¬ gA b 99 l = 14) (hx : (∃ F, n.2.2.1 = [F] ∧ Wt 103 F ∧ XZ b K' (gA b 101 l) F) ∨ (n.2.2.1 = [] ∧ gA b 101 l = -1)) : ∃ w u a' b', w < 10 ∧ cW_reckon (nI l) p a = some (nI w, a') ∧ cR_perform (nI p) (nI l) b = (if w = 0 then cR_perform_79 (nI p) (nI l) u b' else (cR_finish (nI p) (nI w) b').bind (fun s => some s)) ∧ (w = 0 → cW_result 0 a' = some (u, a')) ∧ fr [801, 805, 2038] a a' ∧ fr [1158, 1188, 2140] b b' ∧ gI a' 801 0 = gI b' 1158 0 := by
  obtain ⟨⟨g1, g2, g3⟩, gn, gl, gd, _⟩ := hE.1
  obtain ⟨⟨r1, r2⟩, _, rl, rd, _⟩ := hE.2.1
  have hl := getE_lt hn
  obtain ⟨k22, k23, f, k24, k25, kK, kO⟩ := gl l n hn
  have hR := EVR_of hA hB hp hN
  have hl9 : l < 900 := by omega
  have f0 : fr [801, 805, 2038] a (wI a 805 0 0) := fr_wI fr_rf rfl
  have s0 : gI (wI a 805 0 0) 801 0 = gI b 1158 0 := by rw [gI_wf (by decide)]; exact hR.2.1
  have no : gA b 101 l = -1 → cR_perform (nI p) (nI l) b = cR_perform_79 (nI p) (nI l) 0 b := fun h => by
    unfold cR_perform cR_perform_40
    rw [if_pos (nI_idx hl9 (by decide)), nI_clamp (by omega), if_pos h, if_pos (nI_idx hl9 (by decide)), if_pos h]
  rcases hx with ⟨F, x1, x2, x3⟩ | ⟨x1, x2⟩
  · have ef : n.2.2.1.flatten = F := by rw [x1]; simp
    rw [ef] at k25 kK kO
    rcases x3 with ⟨z1, z2⟩ | ⟨e, z1, z2, z3⟩
    · subst z2
      have hT : f + 1 ≤ 4000 := by
        have : ([(1, 0)] : List Op1).length = 1 := rfl
        omega
      have h8 : gI (wI a 805 0 0) 805 0 = nI 0 := gI_ws
      have hps := psh_top (a := wI a 805 0 0) (t := 0) (v := 0)
      refine ⟨0, 0, pshA (wI a 805 0 0) 0 0, b, by omega, ?_, by rw [if_pos rfl]; exact no z1, fun _ => ?_, fr_tr f0 fr_psh, fr_rf, ?_⟩
      · rw [reckon_begin g1 hl g2 k24 k25 hT (by omega), show tm_N = 999999998 + 1 + 1 from rfl]
        rw [show ([(1, 0)] : List Op1).length = 1 from rfl, const0 (OpA_fr kO f0) h8 (by omega) (by omega) hT]
        exact reckon_end hT
      · rw [result0 hps.1, hps.2.1]
      · rw [← s0]; unfold pshA; exact (gI_wf (by decide)).trans rfl
    · have hne : ¬ gA b 101 l = -1 := by rw [z1]; exact nI_no1 (by omega)
      obtain ⟨w, u, a', b', y1, y2, y3, y4, y5, y6, y7, y8⟩ := reckon1 x2 hR g1 hl g2 k24 k25 (by omega) kO z3 (by omega)
      refine ⟨w, u, a', b', y1, y2, ?_, fun hw => ?_, y6, y7, y8⟩
      · unfold cR_perform
        rw [if_pos (nI_idx hl9 (by decide)), nI_clamp (by omega), if_neg hne, if_neg h14, z1, y3, Option.bind_some]
        unfold cR_perform_40
        dsimp only
        rw [if_pos (nI_idx hl9 (by decide)), nI_clamp (by omega), y7.2.1 101 rfl, if_neg hne, y7.2.1 99 rfl, if_neg h14, y4]
        by_cases c : w = 0
        · rw [if_pos c, c, if_pos (by decide)]
        · rw [if_neg c, if_neg (nI_nle (by omega) (by omega))]
      · have := y5 hw
        rw [result0 this.1, this.2]
  · have ef : n.2.2.1.flatten = [] := by rw [x1]; rfl
    rw [ef] at k25 kK kO
    refine ⟨0, 0, wI a 805 0 0, b, by omega, reckon0 g1 hl g2 k24 k25 (by omega), by rw [if_pos rfl]; exact no x2, fun _ => result_none gI_ws, f0, fr_rf, s0⟩
theorem bind_id {s : ts} {o : Option ts} (h : o = some s) : o.bind (fun x => some x) = some s := by rw [h]; rfl
theorem bind_pr {r : Int32 × ts} {o : Option (Int32 × ts)} (h : o = some r) : o.bind (fun x => some (x.1, x.2)) = some r := by rw [h]; rfl
theorem nI_wr {w : Nat} {a0 : ts} : (some ((0 : Int32), a0) : Option (Int32 × ts)) = some (nI 0, a0) := rfl
/-- perform, where the expression went well -/
theorem perf79 {rm pm en vc un rm0 : Nat → Nat} {L : Nat → List Int64} {G : List Ln} {τ : Nat → Int32} {K K' l p : Nat} {v : Int32} {a b : ts} {M : Md} {n : Ln} (hE : Evp a b L pm en vc un rm0 G τ K K' rm) (hb : Bs rm G l p M) (hA : VA rm a M) (hB : VB rm b M) (hn : G[l]? = some n) (h2 : n.1 ≠ 2) (h3 : n.1 ≠ 3) (h526 : n.1 ≠ 526) (htc : m_tc M < 2000000000) : ∃ w a0 a1 b1 M1, cH_perform p (nI l) v a = some (nI w, a0) ∧ fw p (nI w) a0 = some a1 ∧ cR_perform_79 (nI p) (nI l) v b = some b1 ∧ VA rm a1 M1 ∧ VB rm b1 M1 ∧ Inv rm M1 none ∧ Sy rm G (L 3).length 8300 l p M M1 := by
  have hrm := hE.2.2.2.1
  have hr14 := hE.2.2.2.2.1
  have hr15 := hE.2.2.2.2.2
  have hI := hb.1
  have hp := hb.2.2.2.1
  have hN := (Inv_N hI).1
  have hS := hb.2.2.2.2.1
  have hpM : p < gM a := Nat.lt_of_lt_of_le hp (VA_gm hA).1
  obtain ⟨⟨g1, g2, g3⟩, gn, gl, gd, _⟩ := hE.1
  obtain ⟨⟨r1, r2⟩, _, rl, rd, _⟩ := hE.2.1
  have hl := getE_lt hn
  have hl9 : l < 900 := by omega
  obtain ⟨k22, k23, _⟩ := gl l n hn
  have at1 := actAt_ok g1 hl g2
  have tg : cG_targetAt (nI l) a = some (if isJ n.1 = true then τ l else n.2.1, a) := by rw [at1.2, k23]
  have ac : cG_actAt (nI l) a = some (nI n.1, a) := by rw [at1.1, k22]
  have jump : ∀ k, n.1 = k → isJ k = true → (k = 517 ∨ k = 519) → ∃ w a0 a1 b1 M1, cH_perform p (nI l) v a = some (nI w, a0) ∧ fw p (nI w) a0 = some a1 ∧ (if v = ((0 : Int32)) then (if am_idx (nI p) 300 = true then some (wA b 121 (nI p).toNatClampNeg (gA b 103 l)) else none) else (if am_idx (nI p) 300 = true then some (wA b 121 (nI p).toNatClampNeg (nI l + ((1 : Int32)))) else none)) = some b1 ∧ VA rm a1 M1 ∧ VB rm b1 M1 ∧ Inv rm M1 none ∧ Sy rm G (L 3).length 8300 l p M M1 := by
    intro k hk hj hkk
    obtain ⟨t, ht1, ht2, _⟩ := hE.2.2.1.1 l n hn (by rw [hk]; exact hj)
    have h103 : gA b 103 l = nI t := by rw [(rl l n hn).2.1 (by rw [hk]; exact hj), ht1]
    have eC : cH_perform p (nI l) v a = (if v = ((0 : Int32)) then (if p < gM a then some ((0 : Int32), wI a 503 p (nI t)) else none) else (if p < gM a then some ((0 : Int32), wI a 503 p (gI a 503 p)) else none)) := by
      rw [hk, if_pos hj, ht1] at tg
      rw [hk] at ac
      rcases hkk with c | c
      · rw [c] at ac; exact pA_517 tg ac
      · rw [c] at ac; exact pA_519 tg ac
    have e503 : gI a 503 p = nI (l + 1) := by rw [VA_at hA p hp, hb.2.2.2.2.2.2.1]
    by_cases c : v = 0
    · have z := goto_ok (nd := (L 3).length) (t := t) hb hA hB ht2
      refine ⟨0, _, _, _, _, by rw [eC, if_pos c, if_pos hpM]; rfl, fw0, ?_, z.1, z.2.1, z.2.2.1, Sy_mono z.2.2.2 (by omega)⟩
      rw [if_pos c, if_pos (nI_idx (by omega) (by decide)), nI_clamp (by omega), h103]
    · have z := goto_ok (nd := (L 3).length) (t := l + 1) hb hA hB hb.2.2.2.2.2.2.2.2
      refine ⟨0, _, _, _, _, by rw [eC, if_neg c, if_pos hpM, e503]; rfl, fw0, ?_, z.1, z.2.1, z.2.2.1, Sy_mono z.2.2.2 (by omega)⟩
      rw [if_neg c, if_pos (nI_idx (by omega) (by decide)), nI_clamp (by omega), nI_1]
  rcases (rl l n hn).1 with h | h | h | h | h | h | h | h | h
  · obtain ⟨q1, ⟨i, q2, q3, q4, q5⟩, q6⟩ := h
    rw [q1, if_neg (by decide), q3] at tg
    rw [q1] at ac
    obtain ⟨a1, b1, M1, s1, s2, s3, s4, s5, s6⟩ := set_ok (nd := (L 3).length) (i := i) (v := v) hb hA hB q2
    refine ⟨0, a1, a1, b1, M1, ?_, fw0, ?_, s3, s4, s5, Sy_mono s6 (by omega)⟩
    · rw [pA_1 tg ac, s1, Option.bind_some]; rfl
    · by_cases c : i < 8
      · rw [if_pos c] at q4 q5 s2
        rw [pB_24 hl9 q4, q5]; exact s2
      · rw [if_neg c] at q4 q5 s2
        rw [pB_25 hl9 q4, q5]; exact s2
  · exact absurd h.1 h2
  · exact absurd h.1 h3
  · obtain ⟨q1, q2, q3⟩ := h
    rcases q1 with c | c | c | c | c | c | c
    · rw [c] at q2
      obtain ⟨w, a0, a1, b1, M1, s1, s2, s3, s4⟩ := jump 517 c (by decide) (Or.inl rfl)
      exact ⟨w, a0, a1, b1, M1, s1, s2, by rw [pB_5 hl9 q2]; exact s3, s4⟩
    · rw [c] at q2
      obtain ⟨w, a0, a1, b1, M1, s1, s2, s3, s4⟩ := jump 519 c (by decide) (Or.inr rfl)
      exact ⟨w, a0, a1, b1, M1, s1, s2, by rw [pB_7 hl9 q2]; exact s3, s4⟩
    · rw [c] at q2 ac
      obtain ⟨w, a0, a1, b1, M1, s1, s2, s3, s4⟩ := hold_ok (nd := (L 3).length) (v := v) hrm hb hA hB
      exact ⟨w, a0, a1, b1, M1, by rw [pA_520 tg ac]; exact bind_pr s1, s2, by rw [pB_8 hl9 q2]; exact s3, s4⟩
    · rw [c] at q2 ac
      by_cases cv : v = 0
      · obtain ⟨a1, b1, M1, s1, s2, s3, s4, s5, s6⟩ := await_ok (nd := (L 3).length) hb hA hB ⟨n, hn, c⟩
        exact ⟨0, a1, a1, b1, M1, by rw [pA_525 tg ac, if_pos cv, s1, Option.bind_some]; rfl, fw0, by rw [pB_13 hl9 q2, if_pos cv]; exact s2, s3, s4, s5, Sy_mono s6 (by omega)⟩
      · exact ⟨0, a, a, b, M, by rw [pA_525 tg ac, if_neg cv]; rfl, fw0, by rw [pB_13 hl9 q2, if_neg cv], hA, hB, hI, Sy_mono (Sy_Qt (k := 0) hb Qt_rf hI) (by omega)⟩
    · rw [c] at q2 ac
      obtain ⟨w, a0, a1, b1, M1, s1, s2, s3, s4⟩ := other_ok (nd := (L 3).length) (v := v) (k := 1) hrm hb hA hB (by omega)
      exact ⟨w, a0, a1, b1, M1, by rw [pA_527 tg ac]; exact s1, s2, by rw [pB_15 hl9 q2]; exact bind_id s3, s4⟩
    · rw [c] at q2 ac
      obtain ⟨w, a0, a1, b1, M1, s1, s2, s3, s4⟩ := other_ok (nd := (L 3).length) (v := v) (k := 0) hrm hb hA hB (by omega)
      exact ⟨w, a0, a1, b1, M1, by rw [pA_528 tg ac]; exact s1, s2, by rw [pB_16 hl9 q2]; exact bind_id s3, s4⟩
    · rw [c] at q2 ac
      obtain ⟨a1, b1, M1, s1, s2, s3, s4, s5, s6⟩ := say_ok (nd := (L 3).length) (v := v) hb hA hB htc
      exact ⟨0, a1, a1, b1, M1, by rw [pA_529 tg ac, s1, Option.bind_some]; rfl, fw0, by rw [pB_17 hl9 q2]; exact s2, s3, s4, s5, Sy_mono s6 (by omega)⟩
  · obtain ⟨q1, q2, ⟨r, q3, q4, q5⟩, q6⟩ := h
    rw [q1, if_neg (by decide), q4] at tg
    rw [q1] at ac
    obtain ⟨a1, b1, M1, s1, s2, s3, s4, s5, s6⟩ := seize_ok (nd := (L 3).length) (v := v) (r := r) hrm hb hA hB (by omega)
    exact ⟨0, a1, a1, b1, M1, by rw [pA_521 tg ac, s1, Option.bind_some]; rfl, fw0, by rw [pB_9 hl9 q2, q5]; exact bind_id s2, s3, s4, s5, Sy_mono s6 (by omega)⟩
  · obtain ⟨q1, q2, q3, r, q4, q5, q6, q7⟩ := h
    rw [q1, if_neg (by decide), q5] at tg
    rw [q1] at ac
    obtain ⟨w, a0, a1, b1, M1, s1, s2, s3, s4⟩ := free_ok (nd := (L 3).length) (r := r) hrm hb hA hB (by omega)
    exact ⟨w, a0, a1, b1, M1, by rw [pA_522 tg ac]; exact s1, s2, by rw [pB_10 hl9 q2, q6]; exact bind_id s3, s4⟩
  · obtain ⟨q1, q2, ⟨r, q3, q4, q5⟩, q6⟩ := h
    rcases q1 with c | c
    · rw [c] at q2
      rw [c, if_neg (by decide), q4] at tg
      rw [c] at ac
      obtain ⟨w, a0, a1, b1, M1, s1, s2, s3, s4⟩ := trade_ok (nd := (L 3).length) (v := v) (s := r) (k := 1) hrm hb hA hB (by omega) (by omega)
      exact ⟨w, a0, a1, b1, M1, by rw [pA_523 tg ac]; exact bind_pr s1, s2, by rw [pB_11 hl9 q2, q5]; exact bind_id s3, s4⟩
    · rw [c] at q2
      rw [c, if_neg (by decide), q4] at tg
      rw [c] at ac
      obtain ⟨w, a0, a1, b1, M1, s1, s2, s3, s4⟩ := trade_ok (nd := (L 3).length) (v := v) (s := r) (k := 0) hrm hb hA hB (by omega) (by omega)
      exact ⟨w, a0, a1, b1, M1, by rw [pA_524 tg ac]; exact bind_pr s1, s2, by rw [pB_12 hl9 q2, q5]; exact bind_id s3, s4⟩
  · exact absurd h.1 h526
  · obtain ⟨q1, q2, q3, q4⟩ := h
    rw [q1] at ac
    obtain ⟨a1, b1, M1, s1, s2, s3, s4, s5, s6⟩ := finish_ok (w := 0) hrm hA hB hI hb.2.1 hp (by omega) (by omega)
    have s1 : cO_finish (some p) 0 a = some a1 := s1
    exact ⟨0, a1, a1, b1, M1, by rw [pA_530 tg ac, s1, Option.bind_some]; rfl, fw0, by rw [pB_18 hl9 q2]; exact bind_id s2, s3, s4, s5, Sy_Qf hb s6 s5⟩
theorem perform_ok {rm pm en vc un rm0 : Nat → Nat} {L : Nat → List Int64} {G : List Ln} {τ : Nat → Int32} {K K' l p : Nat} {a b : ts} {M : Md} {n : Ln} (hE : Evp a b L pm en vc un rm0 G τ K K' rm) (hb : Bs rm G l p M) (hA : VA rm a M) (hB : VB rm b M) (hn : G[l]? = some n) (h2 : n.1 ≠ 2) (h3 : n.1 ≠ 3) (htc : m_tc M < 2000000000) : ∃ a1 b1 M1, rp p (nI l) a = some a1 ∧ cR_perform (nI p) (nI l) b = some b1 ∧ VA rm a1 M1 ∧ VB rm b1 M1 ∧ Inv rm M1 none ∧ Sy rm G (L 3).length 8300 l p M M1 := by
  have hrm := hE.2.2.2.1
  have hI := hb.1
  have hp := hb.2.2.2.1
  have hN := (Inv_N hI).1
  have hl := getE_lt hn
  have hl5 := hE.1.1.2.1
  have hl9 : l < 900 := by omega
  have hKB := (hE.2.1.2.2.1 l n hn).1
  by_cases c : n.1 = 526
  · obtain ⟨a1, b1, M1, s1, s2, s3, s4, s5, s6⟩ := start_ok hE hb hA hB hn c
    refine ⟨a1, b1, M1, s1, ?_, s3, s4, s5, s6⟩
    have h14 : gA b 99 l = 14 := (KB_14 hKB).mpr c
    have e79 : cR_perform (nI p) (nI l) b = cR_perform_79 (nI p) (nI l) 0 b := by
      unfold cR_perform cR_perform_40
      rw [if_pos (nI_idx hl9 (by decide)), nI_clamp (by omega), if_pos (nI_idx hl9 (by decide)), h14]
      by_cases d : gA b 101 l = -1
      · rw [if_pos d, if_pos d]
      · rw [if_neg d, if_neg d, if_pos rfl, if_pos rfl]
    rw [e79, pB_14 hl9 h14]; exact bind_id s2
  · have h14 : ¬ gA b 99 l = 14 := fun z => c ((KB_14 hKB).mp z)
    have hx : (∃ F, n.2.2.1 = [F] ∧ Wt 103 F ∧ XZ b K' (gA b 101 l) F) ∨ (n.2.2.1 = [] ∧ gA b 101 l = -1) := by
      rcases hKB with h | h | h | h | h | h | h | h | h
      · obtain ⟨F, z1, z2, z3⟩ := h.2.2
        exact Or.inl ⟨F, z1, z2, Or.inr z3⟩
      · exact absurd h.1 h2
      · exact absurd h.1 h3
      · obtain ⟨F, z1, z2, z3⟩ := h.2.2
        exact Or.inl ⟨F, z1, z2, Or.inr z3⟩
      · exact Or.inl h.2.2.2
      · obtain ⟨q1, q2, q3, r, q4, q5, q6, q7⟩ := h
        exact Or.inr ⟨q3, q7⟩
      · obtain ⟨F, z1, z2, z3⟩ := h.2.2.2
        exact Or.inl ⟨F, z1, z2, Or.inr z3⟩
      · exact absurd h.1 c
      · exact Or.inr ⟨h.2.2.1, h.2.2.2⟩
    obtain ⟨w, u, a', b', y1, y2, y3, y4, y5, y6, y7⟩ := ev_st hE hA hB hp hN hn h14 hx
    have zA : VA rm a' (mSd M (gI b' 1158 0)) := cl_Sd hA y5 y7
    have zB : VB rm b' (mSd M (gI b' 1158 0)) := rc_Sd hB y6 rfl
    have zb := Bs_Sd (v := gI b' 1158 0) hb
    have hE' := Evp_fr hE y5 y6 rfl rfl
    by_cases cw : w = 0
    · obtain ⟨w2, a0, a1, b1, M1, s1, s2, s3, s4, s5, s6, s7⟩ := perf79 (v := u) hE' zb zA zB hn h2 h3 c (by simp only [p_mSd]; exact htc)
      refine ⟨a1, b1, M1, ?_, ?_, s4, s5, s6, Sy_Sd s7⟩
      · unfold rp
        rw [y2, Option.bind_some, cw]
        dsimp only
        rw [if_pos (show nI 0 = (0 : Int32) from rfl), y4 cw, Option.bind_some]
        dsimp only
        rw [s1, Option.bind_some]; exact s2
      · rw [y3, if_pos cw]; exact s3
    · obtain ⟨a1, b1, M1, s1, s2, s3, s4, s5, s6⟩ := wrong_ok (nd := (L 3).length) (w := w) hrm zb zA zB (by omega) y1
      refine ⟨a1, b1, M1, ?_, ?_, s3, s4, s5, Sy_Sd s6⟩
      · unfold rp
        rw [y2, Option.bind_some]
        dsimp only
        rw [if_neg (nI_ne0 (by omega) (by omega))]; exact s1
      · rw [y3, if_neg cw]; exact bind_id s2
