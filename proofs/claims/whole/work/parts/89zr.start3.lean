/-! START AT WORK: the whole statement. -/
theorem rc_Sd2 {rm : Nat → Nat} {b b1 : ts} {M : Md} {v : Int32} (h : VB rm b M) (fa : fr [1158, 1188, 2140, 2142] b b1) (hv : gI b1 1158 0 = v) : VB rm b1 (mSd M v) := by
  unfold VB rb
  simp only [p_mSd]
  exact ⟨⟨(fa.1 1110 rfl 0).trans (VB_nr h).1, (VB_nr h).2⟩, fun r hr => (fa.2.1 90 rfl r).trans ((VB_r0 h) r hr), fun s hs => (fa.2.1 93 rfl s).trans ((VB_r1 h) s hs), (fa.1 1152 rfl 0).trans (VB_tm h), hv, fun i hi => (fa.2.1 118 rfl i).trans ((VB_nu h) i hi), (fa.1 1153 rfl 0).trans (VB_st h), (fa.1 1154 rfl 0).trans (VB_tn h), (fa.1 1155 rfl 0).trans (VB_N h), (fa.1 1156 rfl 0).trans (VB_en h), (fa.1 1157 rfl 0).trans (VB_wg h), (fa.1 1161 rfl 0).trans (VB_tc h), fun k h1 h2 => ⟨(fa.2.1 116 rfl k).trans ((VB_tt h) k h1 h2).1, (fa.2.1 117 rfl k).trans ((VB_tt h) k h1 h2).2⟩, (fa.1 1159 rfl 0).trans (VB_am h), fun q hq => (fa.2.1 129 rfl q).trans ((VB_th h) q hq), fun q hq => (fa.2.1 130 rfl q).trans ((VB_sv h) q hq), fun q hq => (fa.2.1 131 rfl q).trans ((VB_lt h) q hq), fun q hq => (fa.2.1 132 rfl q).trans ((VB_mb h) q hq), fun q hq => (fa.2.2.1 133 rfl q).trans ((VB_s0 h) q hq), fun q hq => (fa.2.2.1 134 rfl q).trans ((VB_s1 h) q hq), fun q hq => (fa.2.2.1 135 rfl q).trans ((VB_s2 h) q hq), fun p hp => (fa.2.1 119 rfl p).trans ((VB_df h) p hp), fun p hp => (fa.2.1 120 rfl p).trans ((VB_ss h) p hp), fun p hp => (fa.2.1 121 rfl p).trans ((VB_at h) p hp), fun p hp hs => (fa.2.1 122 rfl p).trans ((VB_du h) p hp hs), fun p hp hs => (fa.2.2.1 123 rfl p).trans ((VB_pa h) p hp hs), (fa.2.2.2.1 1160 rfl 0).trans (VB_P h), fun p hp => (fa.2.1 124 rfl p).trans ((VB_si h) p hp), fun p hp hs => (fa.2.1 125 rfl p).trans ((VB_wh h) p hp hs), fun p hp => (fa.2.1 126 rfl p).trans ((VB_wr h) p hp), fun p hp i hi => (fa.2.1 127 rfl _).trans ((VB_vl h) p hp i hi), fun p hp i hi => (fa.2.1 128 rfl _).trans ((VB_un h) p hp i hi), fun ρ hρ => rw1_fr ((VB_ro h) ρ hρ) fa rfl rfl rfl, aw1_fr (VB_aw h) fa rfl rfl⟩
theorem perf_start {a : ts} {p l : Nat} {v t : Int32} (h1 : cG_targetAt (nI l) a = some (t, a)) (h2 : cG_actAt (nI l) a = some (nI 526, a)) : cH_perform p (nI l) v a = (cH_startAnother t a).bind (fun x47 => some (x47.1, x47.2)) := by
  unfold cH_perform
  rw [h1, Option.bind_some]
  dsimp only
  rw [h2, Option.bind_some]
  dsimp only
  rw [if_neg (by decide), if_neg (by decide), if_neg (by decide), if_neg (by decide), if_neg (by decide), if_neg (by decide), if_neg (by decide), if_neg (by decide), if_neg (by decide), if_pos (by decide)]
theorem DFn_lt {G : List Ln} {p v e : Nat} (h : DFn G p v e) : e < G.length := by
  obtain ⟨H, _, _, ⟨n, hn, _⟩, _⟩ := h
  have := getE_lt hn
  omega
theorem start_go {rm : Nat → Nat} {G : List Ln} {nd l p d e m : Nat} {v : Int32} {a b : ts} {M : Md} (hrm : RMk rm) (hb : Bs rm G l p M) (hA : VA rm a M) (hB : VB rm b M) (h16 : gA a 16 3 = nI nd) (hnd : nd ≤ 12) (hd : d < nd) (h19 : gA a 19 d = nI m) (h21 : gA a 21 d = nI e) (hm : m ≤ 8) (he : e < G.length) (hl : l < 512) (h97 : gA b 97 d = nI e) (h100 : gA b 100 l = nI d) (h105 : gA b 105 l = nI m) (h805 : gI a 805 0 = nI (m + 1)) (hv : gA a 38 m = v) (hst : ∀ k, k < m → gA a 38 k = gA b 142 k) : ∃ w a0 a1 b1 M1, cH_startAnother (nI d) a = some (nI w, a0) ∧ fw p (nI w) a0 = some a1 ∧ cR_startOne_112 (nI p) (nI l) v b = some b1 ∧ VA rm a1 M1 ∧ VB rm b1 M1 ∧ Inv rm M1 none ∧ Sy rm G nd 8300 l p M M1 := by
  have hb0 := hb
  obtain ⟨hI, hJ, hmb, hp, hS, ham, hT, hL, hG⟩ := hb
  have hN := (Inv_N hI).1
  have ea := VA_tm hA
  have eb := VB_tm hB
  have hdef := isDef_yes h16 hd hnd
  have e1 : cH_startAnother (nI d) a = (cH_isTimeAhead v a).bind (fun x6 => (if x6.1 = ((0 : Int32)) then some ((2 : Int32), x6.2) else (cH_add (nI d) x6.2).bind (fun x9 => match x9.1 with
      | none => some ((5 : Int32), x9.2)
      | some q10 => cH_startAnother_61 tm_N (nI m) v q10 ((0 : Int32)) x9.2))) := by
    unfold cH_startAnother
    rw [hdef, Option.bind_some]
    dsimp only
    rw [if_neg (by decide), if_pos (nI_idx (by omega) (by decide)), nI_clamp (by omega), h19]
    unfold cH_startAnother_24
    rw [result_i h805 (by omega) (by omega), Option.bind_some, hv]
    rfl
  rcases ahead (v := v) ea (Inv_N hI).2 with ⟨h1, h2⟩ | ⟨k, ek, h1, h2, h3, h4⟩
  · obtain ⟨a1, b1, M1, g1, g2, g3, g4, g5, g6⟩ := wrong_ok (nd := nd) (w := 2) hrm hb0 hA hB (by omega) (by omega)
    have g2 : cR_finish (nI p) 2 b = some b1 := g2
    refine ⟨2, a, a1, b1, M1, ?_, g1, ?_, g3, g4, g5, g6⟩
    · rw [e1, h1, Option.bind_some]; rfl
    · unfold cR_startOne_112 cR_startOne_131
      rw [eb]
      rcases h2 with c | ⟨c, c2⟩
      · rw [if_pos c, g2, Option.bind_some]
      · rw [if_neg c, if_neg c2, g2, Option.bind_some]
  · have e2 : cH_startAnother (nI d) a = (cH_add (nI d) a).bind (fun x9 => match x9.1 with
      | none => some ((5 : Int32), x9.2)
      | some q10 => cH_startAnother_61 tm_N (nI m) v q10 ((0 : Int32)) x9.2) := by
      rw [e1, h2, Option.bind_some]
      dsimp only
      rw [if_neg (by decide)]
    have e3 : cH_add (nI d) a = (cO_add (nI d) (nI e) a).bind (fun x7 => match x7.1 with
      | none => some (none, x7.2)
      | some q8 => some (some q8, x7.2)) := by
      unfold cH_add
      rw [hdef, Option.bind_some]
      dsimp only
      rw [if_neg (by decide), if_pos (nI_idx (by omega) (by decide)), nI_clamp (by omega), h21]
      refine congrArg _ (funext fun x => ?_)
      obtain ⟨x1, x2⟩ := x
      cases x1 <;> rfl
    have e4 : cR_startOne_112 (nI p) (nI l) v b = (if (gI b 1155 0) = ((300 : Int32)) then (cR_finish (nI p) ((5 : Int32)) b).bind (fun s6 => some s6) else (cR_fresh (nI d) (nI (m_tm M + k)) b).bind (fun x4 => cR_startOne_180 tm_N (nI l) x4.1 ((0 : Int32)) x4.2)) := by
      unfold cR_startOne_112
      rw [eb, if_neg h3, if_pos h4, if_pos (nI_idx (by omega) (by decide)), nI_clamp (by omega), h100, ek, nI_add]
    by_cases c : m_N M = 300
    · obtain ⟨a1, b1, M1, g1, g2, g3, g4, g5, g6⟩ := wrong_ok (nd := nd) (w := 5) hrm hb0 hA hB (by omega) (by omega)
      have g2 : cR_finish (nI p) 5 b = some b1 := g2
      refine ⟨5, a, a1, b1, M1, ?_, g1, ?_, g3, g4, g5, g6⟩
      · have e5 : cO_add (nI d) (nI e) a = some (none, a) := by
          unfold cO_add cO_isFull
          rw [VA_N hA, c, if_neg (by decide), Option.bind_some]
          dsimp only
          rw [if_neg (by decide)]
        rw [e2, e3, e5]; rfl
      · rw [e4, VB_N hB, c, if_pos (by decide), g2, Option.bind_some]
    · obtain ⟨a1, x, y, z, y1, y2⟩ := addP_ok (d := d) (e := e) hA (Mm_of hI) (by omega)
      have y3 : cH_add (nI d) a = some (some (m_N M), a1) := by rw [e3, y1]; rfl
      have fa := cH_add_fr (nI d) a _ y3
      have hgm : m_N M < gM a1 := by
        have := (VA_gm y2).1
        simp only [p_mNew] at this; omega
      obtain ⟨a2, v1, v2⟩ := vals_cl (rm := rm) (q := m_N M) (n := m) (v := v) (f := fun j => gA a 38 j) hm m 0 tm_N a1 (mNew M d e 7 x y z) (by omega) (by unfold tm_N; omega) y2 hgm ((fa.1 805 rfl 0).trans h805) (fun j _ => fa.2.1 38 rfl j)
      have hvp := vals_p (M := mNew M d e 7 x y z) (q := m_N M) (f := fun j => gA a 38 j) m
      have kR : m_R (vals (mNew M d e 7 x y z) (m_N M) (fun j => gA a 38 j) m) = m_R M := by rw [hvp.2.2.2.2.2.2.2.2.2.1]; simp only [p_mNew]
      have kN : m_N (vals (mNew M d e 7 x y z) (m_N M) (fun j => gA a 38 j) m) = m_N M + 1 := by rw [hvp.1]; simp only [p_mNew]
      have ktm : m_tm (vals (mNew M d e 7 x y z) (m_N M) (fun j => gA a 38 j) m) = m_tm M := by rw [hvp.2.1]; simp only [p_mNew]
      obtain ⟨a3, w1, w2⟩ := cl_put (s := 0) (t := nI (m_tm M + k)) v2 (by unfold Di; rw [kR]; exact Inv_di hI) (by unfold Mm; rw [kR, kN]; exact fun ρ hρ x hx => by have := (Inv_me hI ρ hρ x hx).1; omega) (p := m_N M) (by rw [kN]; omega) (by omega)
      rw [vals_put, new_put (s' := 5) (x' := 0) (y' := 0)] at w2
      have w2 : VA rm a3 (mStart M d e m z (nI (m_tm M + k)) (fun j => gA a 38 j)) := w2
      obtain ⟨b1, sx1, xx, u1, u2⟩ := rc_new (d := d) (e := e) (t := nI (m_tm M + k)) (z := z) hB (Mm_of hI) (by omega) (by omega) h97
      rw [new_put (s' := 5) (x' := 0) (y' := 0)] at u2
      have fb := cR_fresh_fr (nI d) (nI (m_tm M + k)) b _ u1
      obtain ⟨b2, t1, t2⟩ := vals_rc (rm := rm) (q := m_N M) (n := m) (l := l) (f := fun j => gA a 38 j) hm (by omega) (by omega) m 0 tm_N b1 (mPut (mNew M d e 5 0 0 z) (m_N M) 0 (nI (m_tm M + k))) (by omega) (by unfold tm_N; omega) u2 ((fb.2.1 105 rfl l).trans h105) (fun j hj => (fb.2.1 142 rfl j).trans (hst j hj).symm)
      have hI1 : Inv rm (mStart M d e m z (nI (m_tm M + k)) (fun j => gA a 38 j)) none := by
        refine Inv_vals (Inv_put (Inv_new hI (by omega)) (by simp only [p_mNew]; omega) (fun z => by cases z) (by omega) ?_) m
        simp only [p_mNew]
        exact ⟨by omega, h1⟩
      refine ⟨0, a3, a3, b2, _, ?_, fw0, ?_, w2, t2, hI1, Sy_mono (Sy_start hb0 hI1 hd he) (by omega)⟩
      · have w1 : cO_putInCalendar (m_N M) 0 (nI (m_tm M + k)) a2 = some a3 := w1
        have v1 : cH_startAnother_61 tm_N (nI m) v (m_N M) 0 a1 = _ := v1
        rw [e2, y3, Option.bind_some]
        dsimp only
        rw [v1]
        unfold cH_startAnother_97
        rw [VA_tm v2, ktm, ek, nI_add, w1, Option.bind_some]; rfl
      · have t1 : cR_startOne_180 tm_N (nI l) (nI (m_N M)) 0 b1 = some b2 := t1
        rw [e4, VB_N hB, if_neg (show ¬ nI (m_N M) = (300 : Int32) from fun z => c (nI_inj (b := 300) (by omega) (by decide) z)), u1, Option.bind_some]
        exact t1
theorem start_ok {rm pm en vc un rm0 : Nat → Nat} {L : Nat → List Int64} {G : List Ln} {τ : Nat → Int32} {K K' l p : Nat} {a b : ts} {M : Md} {n : Ln} (hE : Evp a b L pm en vc un rm0 G τ K K' rm) (hb : Bs rm G l p M) (hA : VA rm a M) (hB : VB rm b M) (hn : G[l]? = some n) (h526 : n.1 = 526) : ∃ a1 b1 M1, rp p (nI l) a = some a1 ∧ cR_startOne (nI p) (nI l) b = some b1 ∧ VA rm a1 M1 ∧ VB rm b1 M1 ∧ Inv rm M1 none ∧ Sy rm G (L 3).length 8300 l p M M1 := by
  have hrm := hE.2.2.2.1
  have hI := hb.1
  have hp := hb.2.2.2.1
  have hN := (Inv_N hI).1
  obtain ⟨⟨g1, g2, g3⟩, gn, gl, gd, _⟩ := hE.1
  obtain ⟨⟨r1, r2⟩, _, rl, rd, _⟩ := hE.2.1
  have hl := getE_lt hn
  obtain ⟨k22, k23, f, k24, k25, kK, kO⟩ := gl l n hn
  obtain ⟨d, hd1, hd2, hd3⟩ := hE.2.2.1.2.2.2.2 l n hn h526
  have hd12 : (L 3).length ≤ 12 := (gn 3 (by omega)).2
  have hdf := gd d hd2
  have h100 := (rl l n hn).2.2 h526
  have hKB := (rl l n hn).1
  have hKB8 : ∃ A Pr, n.2.2.1 = A ++ [Pr] ∧ (∀ F, F ∈ A → Wt 103 F) ∧ Wt 103 Pr ∧ gA b 105 l = nI A.length ∧ XZ b K' (gA b 101 l) Pr ∧ ∀ i F, i < 8 → A[i]? = some F → XB b K' (gA b 104 (8 * l + i)) F := by
    rcases hKB with h | h | h | h | h | h | h | h | h
    · exact absurd h.1 (by omega)
    · exact absurd h.1 (by omega)
    · exact absurd h.1 (by omega)
    · exact absurd h.1 (by omega)
    · exact absurd h.1 (by omega)
    · exact absurd h.1 (by omega)
    · exact absurd h.1 (by omega)
    · exact h.2.2.2.2
    · exact absurd h.1 (by omega)
  obtain ⟨A, Pr, q1, q2, q3, q4, q5, q6⟩ := hKB8
  have hm : A.length = pm d := by
    rw [q1, List.length_append] at hd3
    have : ([Pr] : List (List Op1)).length = 1 := rfl
    omega
  have hm8 := hdf.2.1
  rw [q1] at kO k25 kK
  have f0 : fr [801, 805, 2038] a (wI a 805 0 0) := fr_wI fr_rf rfl
  have hR := EVR_of hA hB hp hN
  have hR0 : EVR p (wI a 805 0 0) b := EVR_fr hR f0 fr_rf (by rw [gI_wf (by decide)]; exact hR.2.1)
  have eC := reckon_begin (p := p) g1 hl g2 k24 k25 (by omega) (by omega)
  have hts : 5000 < tm_N := by unfold tm_N; omega
  have hs := sargs (p := p) (l := l) (T := f + (A ++ [Pr]).flatten.length) (m := A.length) (K := K') (Pr := Pr) (by omega) (by omega) r2 (by omega) q3 A 0 f tm_N (wI a 805 0 0) b (by omega) (by omega) hR0 (OpA_fr kO f0) rfl q2 gI_ws (fun k hk => by omega) q4 q5 (fun j E hj => by
    rw [Nat.zero_add]
    exact q6 j E (by have := getE_lt hj; omega) hj)
  have eS : cR_startOne (nI p) (nI l) b = cR_startOne_2 tm_N (nI p) (nI l) (nI 0) b := rfl
  rcases hs with ⟨v, J, a', b', s1, s2, s3, s4, s5, s6, s7, s8, s9⟩ | ⟨w, J, a', b', s1, s2, s3, s4, s5, s6, s7, s8⟩
  · have fA : fr [801, 805, 2038] a a' := fr_tr f0 s7
    have zA : VA rm a' (mSd M (gI b' 1158 0)) := cl_Sd hA fA s9
    have zB : VB rm b' (mSd M (gI b' 1158 0)) := rc_Sd2 hB s8 rfl
    have zb := Bs_Sd (v := gI b' 1158 0) hb
    have hE' := Evp_fr hE fA s8 rfl rfl
    obtain ⟨⟨e1, _, _⟩, e2, e3, e4, _⟩ := hE'.1
    have e7 := actAt_ok e1 hl g2
    have e5 : gA a' 22 l = nI 526 := by rw [(e3 l n hn).1, h526]
    have e6 : gA a' 23 l = nI d := by rw [(e3 l n hn).2.1, if_neg (by rw [h526]; decide), hd1]
    obtain ⟨w, a0, a1, b1, M1, t1, t2, t3, t4, t5, t6, t7⟩ := start_go (nd := (L 3).length) (d := d) (e := en d) (m := A.length) (v := v) hrm zb zA zB (e2 3 (by omega)).1 hd12 hd2 (by rw [(e4 d hd2).1, hm]) (e4 d hd2).2.2.2 (by omega) (DFn_lt (hE.2.2.1.2.1 d hd2)) (by omega) ((hE'.2.1.2.2.2.1 d hd2).2) (by rw [(hE'.2.1.2.2.1 l n hn).2.2 h526, hd1]) ((s8.2.1 105 rfl l).trans q4) s4 s5 s6
    refine ⟨a1, b1, M1, ?_, ?_, t4, t5, t6, Sy_Sd t7⟩
    · unfold rp
      rw [eC, show tm_N = tm_N - J + J by omega, s2, Option.bind_some]
      dsimp only
      have er : cW_result 0 a' = some (gA a' 38 0, a') := result_i (i := 0) s4 (by omega) (by omega)
      rw [if_pos rfl, er, Option.bind_some]
      dsimp only
      rw [perf_start (t := nI d) (by rw [e7.2, e6]) (by rw [e7.1, e5]), t1, Option.bind_some, Option.bind_some]
      exact t2
    · rw [eS, s3]; exact t3
  · have fA : fr [801, 805, 2038] a a' := fr_tr f0 s6
    have zA : VA rm a' (mSd M (gI b' 1158 0)) := cl_Sd hA fA s8
    have zB : VB rm b' (mSd M (gI b' 1158 0)) := rc_Sd2 hB s7 rfl
    have zb := Bs_Sd (v := gI b' 1158 0) hb
    obtain ⟨a1, b1, M1, h1, h2, h3, h4, h5, h6⟩ := wrong_ok (nd := (L 3).length) hrm zb zA zB s1 s2
    refine ⟨a1, b1, M1, ?_, ?_, h3, h4, h5, Sy_Sd h6⟩
    · unfold rp
      rw [eC, show tm_N = tm_N - J + J by omega, s4, Option.bind_some]
      dsimp only
      rw [if_neg (nI_ne0 s1 (by omega))]; exact h1
    · rw [eS, s5, h2, Option.bind_some]
