/-! A STEP, on both sides. -/
def RW (rm : Nat → Nat) (G : List Ln) (nd : Nat) (M : Md) : Prop := Inv rm M none ∧ Jv rm M ∧ (∀ q, q < 14 → m_mw M q = m_mb M q) ∧ (∀ p, p < m_N M → m_D M p < nd ∧ LK G (m_S M p) (m_T M p) (m_Lr M p)) ∧ ∀ p, m_am M = some p → m_S M p = 7
theorem RW_of {rm : Nat → Nat} {G : List Ln} {nd : Nat} {M : Md} (h : CW rm G nd M) : RW rm G nd M := ⟨h.1, h.2.1, h.2.2.1, h.2.2.2.1, fun p hp => by rw [h.2.2.2.2] at hp; cases hp⟩
def Qd (k : Nat) (M M1 : Md) : Prop := m_N M ≤ m_N M1 ∧ m_tc M1 ≤ m_tc M + 1 ∧ m_P M1 ≤ m_P M + k ∧ ∀ y, y < m_N M → (m_S M y = 5 ∨ m_S M y = 6) → (m_S M1 y = 5 ∨ m_S M1 y = 6)
/-- what holds of all but p -/
def Ot (G : List Ln) (nd p : Nat) (M : Md) : Prop := ∀ y, y < m_N M → m_D M y < nd ∧ (¬ y = p → LK G (m_S M y) (m_T M y) (m_Lr M y))
theorem no7 {rm : Nat → Nat} {M : Md} {p : Nat} (hI : Inv rm M none) (ham : m_am M = some p) (hS : m_S M p ≠ 7) : ∀ y, y < m_N M → m_S M y ≠ 7 := fun y hy z => by
  have := (Inv_am hI).1 y hy z
  rw [ham] at this
  cases this
  exact hS z
theorem settleT_ok {rm pm en vc un rm0 : Nat → Nat} {L : Nat → List Int64} {G : List Ln} {τ : Nat → Int32} {K K' p l : Nat} {a b : ts} {M : Md} (hE : Evp a b L pm en vc un rm0 G τ K K' rm) (hA : VA rm a M) (hB : VB rm b M) (hI : Inv rm M none) (hJ : Jv rm M) (hmb : ∀ q, q < 14 → m_mw M q = m_mb M q) (hO : Ot G (L 3).length p M) (hp : p < m_N M) (hS : m_S M p = 7) (ham : m_am M = some p) (hT : m_T M p = l) (hL : m_Lr M p = l) (hl : l < G.length) : ∃ a1 b1 M1, cH_doStep_71 p a = some a1 ∧ cR_settleLine (nI p) b = some b1 ∧ VA rm a1 M1 ∧ VB rm b1 M1 ∧ RW rm G (L 3).length M1 ∧ Qc 2600000 M M1 ∧ (m_am M1 = none → m_S M1 p = 5 ∨ m_S M1 p = 6) ∧ (∀ q, m_am M1 = some q → q = p) := by
  have hN := (Inv_N hI).1
  have hrm := hE.2.2.2.1
  have hpM : p < gM a := Nat.lt_of_lt_of_le hp (VA_gm hA).1
  have hg5 := hE.1.1.2.1
  obtain ⟨a1, b1, M1, l1, n1, h1, h2, h3, h4, h5, h6, h7, h8, h9, h10⟩ := settle_lp (p := p) (G.length - l) l 0 tm_N tm_N a b M (Nat.le_refl _) hE hA hB hI hp hT hL hl (Or.inl (by omega)) (by unfold tm_N; omega) (by unfold tm_N; omega) (by omega)
  have hE1 := Evp_fr hE h9 h10 rfl rfl
  have hl1 := getE_lt h7
  obtain ⟨⟨q1, q2, q3, q4, q5, q6, q7, q8, q9, q10⟩, qT, qL, qo⟩ := h6
  have hp1 : p < m_N M1 := by rw [q1]; exact hp
  have hpM1 : p < gM a1 := Nat.lt_of_lt_of_le hp1 (VA_gm h3).1
  have hS1 : m_S M1 p = 7 := by rw [q3]; exact hS
  have hJ1 : Jv rm M1 := by unfold Jv; rw [q10]; exact hJ
  have hmb1 : ∀ q, q < 14 → m_mw M1 q = m_mb M1 q := by rw [q8, q9]; exact hmb
  have hO1 : Ot G (L 3).length p M1 := fun y hy => by
    have := hO y (by rw [← q1]; exact hy)
    rw [q2, q3]
    refine ⟨this.1, fun hyp => ?_⟩
    rw [(qo y hyp).1, (qo y hyp).2]; exact this.2 hyp
  have eA : cH_doStep_71 p a = (cH_goToStatement_55 p a1).bind (fun s2 => (if p < gM s2 then (if (gI s2 502 p) = ((7 : Int32)) then some s2 else (cH_closeTurn s2).bind (fun s6 => some s6)) else none)) := by
    unfold cH_doStep_71 cH_goToStatement
    have h1 : cH_goToStatement_12 tm_N p 0 a = _ := h1
    rw [if_pos hpM, VA_ss hA p hp, hS, if_pos (by decide), h1]
  have eB : cR_settleLine (nI p) b = slE (nI p) b1 l1 := by
    unfold cR_settleLine
    exact h2
  obtain ⟨⟨g1, g2, g3⟩, gn, gl, gd, _⟩ := hE1.1
  have at1 := actAt_ok g1 hl1 g2
  have k22 := (gl l1 n1 h7).1
  have hKB := KB_26 (hE1.2.1.2.2.1 l1 n1 h7).1
  have e503 : gI a1 503 p = nI l1 := by rw [VA_at h3 p hp1, qT]
  have e55 : cH_goToStatement_55 p a1 = (if nI n1.1 = ((3 : Int32)) then (cO_finish (some p) ((0 : Int32)) a1).bind (fun s6 => some s6) else some a1) := by
    unfold cH_goToStatement_55
    rw [if_pos hpM1, e503, at1.1, Option.bind_some]
    dsimp only
    rw [k22]
  by_cases c : n1.1 = 3
  · obtain ⟨a2, b2, M2, s1, s2, s3, s4, s5, s6⟩ := finish_ok (w := 0) hrm h3 h4 h5 hJ1 hp1 (by omega) (by omega)
    have s1 : cO_finish (some p) 0 a1 = some a2 := s1
    have s2 : cR_finish (nI p) 0 b1 = some b2 := s2
    have hE2 := Evp_fr hE1 (cO_finish_fr _ _ _ _ s1) (cR_finish_fr _ _ _ _ s2) (by decide) (by decide)
    obtain ⟨⟨w1, w2, w3, w4, w5, w6, w7, w8, w9⟩, wP, wx, wS, w29, wR⟩ := s6
    have hLn2 : ∀ y, y < m_N M2 → m_D M2 y < (L 3).length ∧ LK G (m_S M2 y) (m_T M2 y) (m_Lr M2 y) := fun y hy => by
      have h0 := hO1 y (by rw [← w1]; exact hy)
      rw [w4, w2, w3]
      refine ⟨h0.1, ?_⟩
      by_cases cy : y = p
      · rw [cy]; exact ⟨fun z => absurd z (by omega), fun z => absurd z (by omega), fun z => absurd z (by omega)⟩
      · rcases wS y (by rw [← w1]; exact hy) cy with z | ⟨z1, z2, z3⟩
        · rw [z]; exact h0.2 cy
        · rw [z3]
          exact ⟨fun _ => (h0.2 cy).1 (by omega), fun z => absurd z (by omega), fun z => absurd z (by omega)⟩
    have hp2 : p < m_N M2 := by rw [w1]; exact hp1
    obtain ⟨a3, b3, M3, t1, t2, t3, t4, t5, t6⟩ := closeT_ok hE2 s3 s4 s5 (Jv_rows hJ1 wR) (by rw [w8, w9]; exact hmb1) hLn2 (no7 (p := p) s5 (by rw [w7, q6]; exact ham) (by omega))
    have hpM2 : p < gM a2 := Nat.lt_of_lt_of_le hp2 (VA_gm s3).1
    refine ⟨a3, b3, M3, ?_, ?_, t3, t4, RW_of t5, ?_, fun _ => ?_, fun q hq => by rw [t5.2.2.2.2] at hq; cases hq⟩
    · rw [eA, e55, c, if_pos (by decide), s1, Option.bind_some, Option.bind_some, if_pos hpM2, VA_ss s3 p hp2, if_neg (show ¬ nI (m_S M2 p) = (7 : Int32) from fun z => by have := nI_inj (b := 7) (by omega) (by decide) z; omega), t1, Option.bind_some]
    · have e120 : gA b1 120 p = nI 7 := by rw [VB_ss h4 p hp1, hS1]
      rw [eB]
      unfold slE
      rw [if_pos (hKB.2.mpr c), nI_clamp (by omega), e120, if_pos (by decide), s2, Option.bind_some]
      unfold cR_settleLine_69
      rw [if_pos (nI_idx (by omega) (by decide)), nI_clamp (by omega), VB_ss s4 p hp2, if_neg (show ¬ nI (m_S M2 p) = (7 : Int32) from fun z => by have := nI_inj (b := 7) (by omega) (by decide) z; omega), t2, Option.bind_some]
    · have x1 : Qc 8300 M M2 := ⟨by rw [w1, q1], by rw [w5, q4], by rw [w6, q5], by rw [q7] at wP; exact wP, fun y hy h56 => by
        have cy : ¬ y = p := fun z => by rw [z] at h56; omega
        have := wS y (by rw [q1]; exact hy) cy
        rw [q3] at this
        omega⟩
      exact Qc_mono (Qc_tr x1 t6) (by omega)
    · have := t6.2.2.2.2 p hp2 wx
      omega
  · have hn6 : n1.1 < 600 := by
      rcases (hE1.2.1.2.2.1 l1 n1 h7).1 with h | h | h | h | h | h | h | h | h
      · have := h.1; omega
      · have := h.1; omega
      · have := h.1; omega
      · have := h.1; omega
      · have := h.1; omega
      · have := h.1; omega
      · have := h.1; omega
      · have := h.1; omega
      · have := h.1; omega
    refine ⟨a1, b1, M1, ?_, ?_, h3, h4, ⟨h5, hJ1, hmb1, fun y hy => ?_, fun q hq => ?_⟩, ⟨q1, q4, q5, by omega, fun y _ _ => by rw [q3]⟩, fun hn => ?_, fun q hq => ?_⟩
    · rw [eA, e55, if_neg (show ¬ nI n1.1 = (3 : Int32) from fun z => c (nI_inj (b := 3) (by omega) (by decide) z)), Option.bind_some, if_pos hpM1, VA_ss h3 p hp1, hS1, if_pos (by decide)]
    · rw [eB]
      unfold slE
      rw [if_neg (fun z => c (hKB.2.mp z))]
      unfold cR_settleLine_69
      rw [if_pos (nI_idx (by omega) (by decide)), nI_clamp (by omega), VB_ss h4 p hp1, hS1, if_pos (by decide)]
    · have h0 := hO1 y hy
      refine ⟨h0.1, ?_⟩
      by_cases cy : y = p
      · rw [cy, hS1, qT, qL]
        exact ⟨fun z => absurd z (by omega), fun z => absurd z (by omega), fun _ => ⟨rfl, n1, h7, h8, c⟩⟩
      · exact h0.2 cy
    · rw [q6, ham] at hq
      cases hq; exact hS1
    · rw [q6, ham] at hn; cases hn
    · rw [q6, ham] at hq
      cases hq; rfl
theorem rc_Mb {rm : Nat → Nat} {b : ts} {M : Md} {q v : Nat} (h : VB rm b M) : VB rm (wA b 132 q (nI v)) (mMb M (up (m_mb M) q v)) := by
  have fa : fr [2132] b (wA b 132 q (nI v)) := fr_wA fr_rf rfl
  unfold VB rb
  simp only [p_mMb]
  exact ⟨⟨(fa.1 1110 rfl 0).trans (VB_nr h).1, (VB_nr h).2⟩, fun r hr => (fa.2.1 90 rfl r).trans ((VB_r0 h) r hr), fun s hs => (fa.2.1 93 rfl s).trans ((VB_r1 h) s hs), (fa.1 1152 rfl 0).trans (VB_tm h), (fa.1 1158 rfl 0).trans (VB_sd h), fun i hi => (fa.2.1 118 rfl i).trans ((VB_nu h) i hi), (fa.1 1153 rfl 0).trans (VB_st h), (fa.1 1154 rfl 0).trans (VB_tn h), (fa.1 1155 rfl 0).trans (VB_N h), (fa.1 1156 rfl 0).trans (VB_en h), (fa.1 1157 rfl 0).trans (VB_wg h), (fa.1 1161 rfl 0).trans (VB_tc h), fun k h1 h2 => ⟨(fa.2.1 116 rfl k).trans ((VB_tt h) k h1 h2).1, (fa.2.1 117 rfl k).trans ((VB_tt h) k h1 h2).2⟩, (fa.1 1159 rfl 0).trans (VB_am h), fun q hq => (fa.2.1 129 rfl q).trans ((VB_th h) q hq), fun q hq => (fa.2.1 130 rfl q).trans ((VB_sv h) q hq), fun q hq => (fa.2.1 131 rfl q).trans ((VB_lt h) q hq), fun q1 hq1 => upAN (VB_mb h q1 hq1), fun q hq => (fa.2.2.1 133 rfl q).trans ((VB_s0 h) q hq), fun q hq => (fa.2.2.1 134 rfl q).trans ((VB_s1 h) q hq), fun q hq => (fa.2.2.1 135 rfl q).trans ((VB_s2 h) q hq), fun p hp => (fa.2.1 119 rfl p).trans ((VB_df h) p hp), fun p hp => (fa.2.1 120 rfl p).trans ((VB_ss h) p hp), fun p hp => (fa.2.1 121 rfl p).trans ((VB_at h) p hp), fun p hp hs => (fa.2.1 122 rfl p).trans ((VB_du h) p hp hs), fun p hp hs => (fa.2.2.1 123 rfl p).trans ((VB_pa h) p hp hs), (fa.2.2.2.1 1160 rfl 0).trans (VB_P h), fun p hp => (fa.2.1 124 rfl p).trans ((VB_si h) p hp), fun p hp hs => (fa.2.1 125 rfl p).trans ((VB_wh h) p hp hs), fun p hp => (fa.2.1 126 rfl p).trans ((VB_wr h) p hp), fun p hp i hi => (fa.2.1 127 rfl _).trans ((VB_vl h) p hp i hi), fun p hp i hi => (fa.2.1 128 rfl _).trans ((VB_un h) p hp i hi), fun ρ hρ => rw1_fr ((VB_ro h) ρ hρ) fa rfl rfl rfl, aw1_fr (VB_aw h) fa rfl rfl⟩
/-- the reference's count of the most that waited -/
theorem mb_lp {rm : Nat → Nat} {p l : Int32} {M : Md} (hI : Inv rm M none) (h6 : ∀ q, q < 14 → m_mb M q ≤ 600) : ∀ (k q F : Nat) (b : ts) (f : Nat → Nat), q + k = 14 → k < F → VB rm b (mMb M f) → (∀ i, q ≤ i → f i = m_mb M i) → ∃ b1 f1, cR_step_44 F p l (nI q) b = (if am_idx p 300 = true then (if (gA b1 120 p.toNatClampNeg) = ((7 : Int32)) then (cR_settleLine p b1).bind (fun s3 => some s3) else (if (gA b1 120 p.toNatClampNeg) = ((4 : Int32)) then cR_step_119 (wA b1 121 p.toNatClampNeg l) else cR_step_119 b1)) else none) ∧ VB rm b1 (mMb M f1) ∧ (∀ i, q ≤ i → i < 14 → f1 i = max (m_mb M i) (lenq M i)) ∧ (∀ i, i < q → f1 i = f i) ∧ fr [2132] b b1 := by
  intro k
  induction k with
  | zero =>
    intro q F b f hk hF hB hf
    obtain ⟨F0, rfl⟩ : ∃ F0, F = F0 + 1 := ⟨F - 1, by omega⟩
    have e : q = 14 := by omega
    subst e
    refine ⟨b, f, ?_, hB, fun i h1 h2 => by omega, fun _ _ => rfl, fr_rf⟩
    rw [cR_step_44.eq_2]
    unfold cR_step_44_b
    rw [if_pos (by decide)]
  | succ k ih =>
    intro q F b f hk hF hB hf
    obtain ⟨F0, rfl⟩ : ∃ F0, F = F0 + 1 := ⟨F - 1, by omega⟩
    have hq : q < 14 := by omega
    have h2 := two_len hI hq
    have e1 : gA b 136 q = nI (m_R M q).length := by
      have := (VB_ro hB q (by omega)).1
      unfold rb at this
      rw [List.length_map] at this
      simp only [p_mMb] at this; exact this
    have e2 : gA b 136 (14 + q) = nI (m_R M (14 + q)).length := by
      have := (VB_ro hB (14 + q) (by omega)).1
      unfold rb at this
      rw [List.length_map] at this
      simp only [p_mMb] at this; exact this
    have e3 : gA b 132 q = nI (m_mb M q) := by
      have := VB_mb hB q hq
      simp only [p_mMb] at this
      rw [this, hf q (Nat.le_refl _)]
    have ew : cR_waitingAt (nI q) b = some (nI (lenq M q), b) := by
      unfold cR_waitingAt
      rw [if_pos (nI_idx (by omega) (by decide)), nI_clamp (by omega), show (14 : Int32) + nI q = nI (14 + q) from nI_add 14 q, if_pos (nI_idx (by omega) (by decide)), nI_clamp (by omega), e1, e2, nI_add]
      rfl
    have hmx := h6 q hq
    have hlq : lenq M q ≤ 300 := h2
    have zB : VB rm (wA b 132 q (nI (max (m_mb M q) (lenq M q)))) (mMb M (up f q (max (m_mb M q) (lenq M q)))) := by
      have z := rc_Mb (q := q) (v := max (m_mb M q) (lenq M q)) hB
      have e : mMb (mMb M f) (up (m_mb (mMb M f)) q (max (m_mb M q) (lenq M q))) = mMb M (up f q (max (m_mb M q) (lenq M q))) := by
        refine Md_ext ?_ ?_ ?_ ?_ ?_ ?_ ?_ ?_ ?_ ?_ ?_ ?_ ?_ ?_ ?_ ?_ ?_ ?_ ?_ ?_ ?_ ?_ ?_ ?_ ?_ ?_ ?_ ?_ ?_ ?_ ?_ ?_ ?_ ?_ <;> simp only [p_mMb]
      rw [e] at z; exact z
    obtain ⟨b1, f1, h3, h4, h5, h7, h8⟩ := ih (q + 1) F0 _ _ (by omega) (by omega) zB (fun i hi => by rw [up_n (by omega)]; exact hf i (by omega))
    refine ⟨b1, f1, ?_, h4, fun i hi hi2 => ?_, fun i hi => ?_, fr_tr (fr_wA fr_rf rfl) h8⟩
    · rw [← h3, cR_step_44.eq_2]
      unfold cR_step_44_b
      rw [if_neg (show ¬ (14 : Int32) ≤ nI q from nI_ge (b := 14) hq (by decide)), ew, Option.bind_some]
      dsimp only
      rw [if_pos (nI_idx hq (by decide)), nI_clamp (by omega), e3, nI_1]
      by_cases c : lenq M q ≤ m_mb M q
      · rw [if_pos (nI_le c (by omega)), Nat.max_eq_left c]
      · rw [if_neg (nI_ge (by omega) (by omega)), Nat.max_eq_right (by omega)]
    · by_cases c : i = q
      · rw [h7 i (by omega), c, up_s]
      · exact h5 i (by omega) hi2
    · rw [h7 i (by omega), up_n (by omega)]
theorem Inv_Mb {rm : Nat → Nat} {M : Md} {o : Option Nat} {f : Nat → Nat} (h : Inv rm M o) : Inv rm (mMb M f) o := by
  unfold Inv at h ⊢
  simp only [p_mMb]
  exact h
theorem Inv_Sp {rm : Nat → Nat} {M : Md} {o : Option Nat} {v : Int32} (h : Inv rm M o) : Inv rm (mSp M v) o := by
  unfold Inv at h ⊢
  simp only [p_mSp]
  exact h
theorem rp_fr {p : Nat} {l : Int32} {a a1 : ts} (h : rp p l a = some a1) : fr (wf_cO_finish ++ (wf_cH_perform ++ wf_cW_reckon)) a a1 := by
  have ffw : ∀ w s s1, fw p w s = some s1 → fr (wf_cO_finish ++ (wf_cH_perform ++ wf_cW_reckon)) s s1 := fun w s s1 h => by
    unfold fw at h
    by_cases c : w = 0
    · rw [if_pos c] at h; cases h; exact fr_rf
    · rw [if_neg c] at h; exact fr_mono (by decide +kernel) (cO_finish_fr _ _ _ _ h)
  unfold rp at h
  obtain ⟨x4, hx4, h⟩ := FB h
  have f1 := fr_mono (W := wf_cO_finish ++ (wf_cH_perform ++ wf_cW_reckon)) (by decide +kernel) (cW_reckon_fr _ _ _ _ hx4)
  by_cases c : x4.1 = 0
  · rw [if_pos c] at h
    obtain ⟨x7, hx7, h⟩ := FB h
    have f2 := fr_mono (W := wf_cO_finish ++ (wf_cH_perform ++ wf_cW_reckon)) (by decide +kernel) (cW_result_fr _ _ _ hx7)
    obtain ⟨x10, hx10, h⟩ := FB h
    have f3 := fr_mono (W := wf_cO_finish ++ (wf_cH_perform ++ wf_cW_reckon)) (by decide +kernel) (cH_perform_fr _ _ _ _ _ hx10)
    exact fr_tr (fr_tr (fr_tr f1 f2) f3) (ffw _ _ _ h)
  · rw [if_neg c] at h
    exact fr_tr f1 (ffw _ _ _ h)
theorem step_ok {rm pm en vc un rm0 : Nat → Nat} {L : Nat → List Int64} {G : List Ln} {τ : Nat → Int32} {K K' p : Nat} {a b : ts} {M : Md} (hE : Evp a b L pm en vc un rm0 G τ K K' rm) (hA : VA rm a M) (hB : VB rm b M) (hW : RW rm G (L 3).length M) (ham : m_am M = some p) (htc : m_tc M < 2000000000) : ∃ a1 b1 M1, cH_doStep p a = some a1 ∧ cR_step b = some b1 ∧ VA rm a1 M1 ∧ VB rm b1 M1 ∧ RW rm G (L 3).length M1 ∧ Qd 2700000 M M1 := by
  obtain ⟨hI, hJ, hmb, hLn, hS7⟩ := hW
  have hN := (Inv_N hI).1
  have hp := (Inv_am hI).2 p ham
  have hS := hS7 p ham
  have hpM : p < gM a := Nat.lt_of_lt_of_le hp (VA_gm hA).1
  obtain ⟨hTL, n, hn, hn2, hn3⟩ := (hLn p hp).2.2.2 hS
  generalize hld : m_Lr M p = l at hTL hn
  have hl := getE_lt hn
  have hl1 : l + 1 < G.length := hE.2.2.1.2.2.1 l n hn hn3
  have hg5 := hE.1.1.2.1
  -- the line goes on
  have zA := cl_Lr (p := p) (l := l + 1) (cl_T (p := p) (l := l + 1) (cl_Sp (v := (m_st M + 1) &&& 1073741823) hA))
  have zB := rc_Lr (p := p) (l := l + 1) (rc_T (p := p) (l := l + 1) (rc_Sp (v := (m_st M + 1) &&& 1073741823) hB))
  have fa : fr [503, 1004] a (wI (wI a 1004 0 ((m_st M + 1) &&& 1073741823)) 503 p (nI (l + 1))) := fr_wI (fr_wI fr_rf rfl) rfl
  have fb : fr [1153, 2121] b (wA (wI b 1153 0 ((m_st M + 1) &&& 1073741823)) 121 p (nI (l + 1))) := fr_wA (fr_wI fr_rf rfl) rfl
  have hE0 := Evp_fr hE fa fb rfl rfl
  generalize hM0 : mLr (mT (mSp M ((m_st M + 1) &&& 1073741823)) p (l + 1)) p (l + 1) = M0 at zA zB
  have hb : Bs rm G l p M0 := by
    rw [← hM0]
    refine ⟨Inv_TL (Inv_Sp hI), ?_, ?_, ?_, ?_, ?_, ?_, ?_, hl1⟩
    · unfold Jv; simp only [p_mLr, p_mT, p_mSp]; exact hJ
    · simp only [p_mLr, p_mT, p_mSp]; exact hmb
    · simp only [p_mLr, p_mT, p_mSp]; exact hp
    · simp only [p_mLr, p_mT, p_mSp]; exact hS
    · simp only [p_mLr, p_mT, p_mSp]; exact ham
    · simp only [p_mLr, p_mT, p_mSp]; exact up_s
    · simp only [p_mLr, p_mT, p_mSp]; exact up_s
  have k0 : m_N M0 = m_N M ∧ m_tc M0 = m_tc M ∧ m_P M0 = m_P M ∧ m_S M0 = m_S M ∧ m_D M0 = m_D M ∧ m_am M0 = m_am M := by
    rw [← hM0]; simp only [p_mLr, p_mT, p_mSp]; exact ⟨trivial, trivial, trivial, trivial, trivial, trivial⟩
  have kL : ∀ y, ¬ y = p → m_T M0 y = m_T M y ∧ m_Lr M0 y = m_Lr M y := fun y hy => by
    rw [← hM0]; simp only [p_mLr, p_mT, p_mSp]; exact ⟨up_n hy, up_n hy⟩
  obtain ⟨a1, b1, M1, s1, s2, s3, s4, s5, s6⟩ := perform_ok hE0 hb zA zB hn hn2 hn3 (by rw [k0.2.1]; exact htc)
  obtain ⟨⟨y1, y2, y3, y4, y5, y6⟩, y7, y8, y9, y10, y11⟩ := s6
  have hp1 : p < m_N M1 := by omega
  have hN1 := (Inv_N s5).1
  have eA : cH_doStep p a = cH_doStep_71 p a1 := by
    have e1 : gI (wI a 1004 0 ((m_st M + 1) &&& 1073741823)) 503 p = nI l := by
      rw [gI_wf (by decide), VA_at hA p hp, hTL]
    have x1 : cH_doStep p a = (rp p (nI l) (wI (wI a 1004 0 ((m_st M + 1) &&& 1073741823)) 503 p (nI (l + 1)))).bind (fun s => cH_doStep_71 p s) := by
      unfold cH_doStep rp
      rw [if_pos hpM, VA_st hA, e1, nI_1, Option.bind_assoc]
      refine congrArg _ (funext fun x4 => ?_)
      have e58 : ∀ w s, cH_doStep_58 p w s = (fw p w s).bind (fun s => cH_doStep_71 p s) := fun w s => by
        unfold cH_doStep_58 fw
        by_cases c : w = 0
        · rw [if_pos c, if_pos c]; rfl
        · rw [if_neg c, if_neg c]
      by_cases c : x4.1 = 0
      · rw [if_pos c, if_pos c, Option.bind_assoc]
        refine congrArg _ (funext fun x7 => ?_)
        rw [Option.bind_assoc]
        refine congrArg _ (funext fun x10 => e58 _ _)
      · rw [if_neg c, if_neg c]; exact e58 _ _
    rw [x1, s1, Option.bind_some]
  have h600 : ∀ q, q < 14 → m_mb M1 q ≤ 600 := fun q hq => by
    have z1 := y10 q hq
    have z2 := (Inv_mw s5 q hq).2
    omega
  have self : mMb M1 (m_mb M1) = M1 := by
    refine Md_ext ?_ ?_ ?_ ?_ ?_ ?_ ?_ ?_ ?_ ?_ ?_ ?_ ?_ ?_ ?_ ?_ ?_ ?_ ?_ ?_ ?_ ?_ ?_ ?_ ?_ ?_ ?_ ?_ ?_ ?_ ?_ ?_ ?_ ?_ <;> simp only [p_mMb]
  obtain ⟨b2, f1, t1, t2, t3, t4, t5⟩ := mb_lp (p := nI p) (l := nI l) s5 h600 14 0 tm_N b1 (m_mb M1) (by omega) (by unfold tm_N; omega) (by rw [self]; exact s4) (fun _ _ => rfl)
  have eB : cR_step b = (if (gA b2 120 p) = ((7 : Int32)) then (cR_settleLine (nI p) b2).bind (fun s3 => some s3) else (if (gA b2 120 p) = ((4 : Int32)) then cR_step_119 (wA b2 121 p (nI l)) else cR_step_119 b2)) := by
    have e0 : gI b 1159 0 = nI p := by rw [VB_am hB, ham]; rfl
    have e1 : gA b 121 p = nI l := by rw [VB_at hB p hp, hld]
    have e2 : gA (wI b 1153 0 ((m_st M + 1) &&& 1073741823)) 121 p = nI l := e1
    have t1 : cR_step_44 tm_N (nI p) (nI l) 0 b1 = _ := t1
    unfold cR_step
    rw [e0, if_pos (nI_idx (by omega) (by decide)), nI_clamp (by omega), e1, VB_st hB, e2, nI_1, s2, Option.bind_some, t1, if_pos (nI_idx (by omega) (by decide)), nI_clamp (by omega)]
  have zA2 := cl_Mb (f := f1) s3
  have hE1 : Evp a1 b2 L pm en vc un rm0 G τ K K' rm := by
    have x1 : fr wf_cR_perform (wA (wI b 1153 0 ((m_st M + 1) &&& 1073741823)) 121 p (nI (l + 1))) b1 := cR_perform_fr _ _ _ _ s2
    have x2 := rp_fr s1
    exact Evp_fr hE0 x2 (fr_tr (W := 2132 :: wf_cR_perform) (fr_mono (by decide) x1) (fr_mono (by decide) t5)) (by decide) (by decide)
  have hI2 := Inv_Mb (f := f1) s5
  have hmb2 : ∀ q, q < 14 → m_mw (mMb M1 f1) q = m_mb (mMb M1 f1) q := fun q hq => by
    simp only [p_mMb]
    rw [t3 q (by omega) hq]; exact y10 q hq
  have hJ2 : Jv rm (mMb M1 f1) := by unfold Jv; simp only [p_mMb]; exact y9
  have hO2 : Ot G (L 3).length p (mMb M1 f1) := fun y hy => by
    simp only [p_mMb] at hy ⊢
    by_cases c1 : y < m_N M0
    · by_cases c2 : y = p
      · rw [c2, y6, k0.2.2.2.2.1]
        exact ⟨(hLn p hp).1, fun z => absurd rfl z⟩
      · obtain ⟨⟨z1, z2, z3⟩, z4, z5⟩ := y7 y c1 c2
        have h0 := hLn y (by rw [← k0.1]; exact c1)
        rw [z1, z2, z3, k0.2.2.2.2.1, (kL y c2).1, (kL y c2).2]
        refine ⟨h0.1, fun _ => ?_⟩
        rw [k0.2.2.2.1] at z4
        rcases z4 with z | ⟨z, z'⟩ | z | z
        · rw [z]; exact h0.2
        · rw [z']; exact ⟨fun _ => h0.2.1 z, fun z => absurd z (by omega), fun z => absurd z (by omega)⟩
        · rw [z]; exact ⟨fun z => absurd z (by omega), fun z => absurd z (by omega), fun z => absurd z (by omega)⟩
        · rw [z]; exact ⟨fun z => absurd z (by omega), fun z => absurd z (by omega), fun z => absurd z (by omega)⟩
    · obtain ⟨z1, z2, z3, z4⟩ := y8 y (by omega) hy
      refine ⟨z4, fun _ => ?_⟩
      rw [z1, z2]; exact ⟨fun _ => ⟨rfl, z3⟩, fun z => absurd z (by omega), fun z => absurd z (by omega)⟩
  have hQ : ∀ M2, Qc 2600000 (mMb M1 f1) M2 → Qd 2700000 M M2 := fun M2 h => by
    unfold Qc at h
    simp only [p_mMb] at h
    obtain ⟨h1, h2, h3, h4, h5⟩ := h
    refine ⟨by omega, by omega, by omega, fun y hy h56 => ?_⟩
    have c2 : ¬ y = p := fun z => by rw [z] at h56; omega
    have z := (y7 y (by rw [k0.1]; exact hy) c2).2.2
    rw [k0.2.2.2.1] at z
    have z1 := z h56
    have z2 := h5 y (by omega) (by rw [z1]; exact h56)
    omega
  have hS2 : gA b2 120 p = nI (m_S M1 p) := by
    have := VB_ss t2 p (by simp only [p_mMb]; exact hp1)
    simp only [p_mMb] at this; exact this
  have hco := (Inv_co s5 p hp1).1
  have ham1 : m_am M1 = some p := by rw [y4, k0.2.2.2.2.2]; exact ham
  by_cases c7 : m_S M1 p = 7
  · have hTL1 : m_T M1 p = m_Lr M1 p ∧ m_Lr M1 p < G.length := by
      rcases y11 with z | z | z
      · omega
      · omega
      · exact z.2
    obtain ⟨a3, b3, M3, u1, u2, u3, u4, u5, u6, _⟩ := settleT_ok (l := m_Lr M1 p) hE1 zA2 t2 hI2 hJ2 hmb2 hO2 (by simp only [p_mMb]; exact hp1) (by simp only [p_mMb]; exact c7) (by simp only [p_mMb]; exact ham1) (by simp only [p_mMb]; exact hTL1.1) (by simp only [p_mMb]) hTL1.2
    refine ⟨a3, b3, M3, by rw [eA]; exact u1, ?_, u3, u4, u5, hQ _ u6⟩
    rw [eB, hS2, c7, if_pos (by decide), u2, Option.bind_some]
  · have hpM1 : p < gM a1 := Nat.lt_of_lt_of_le hp1 (VA_gm s3).1
    have n7 : ¬ nI (m_S M1 p) = (7 : Int32) := fun z => c7 (nI_inj (b := 7) (by omega) (by decide) z)
    have e71 : cH_doStep_71 p a1 = (cH_closeTurn a1).bind (fun s6 => some s6) := by
      unfold cH_doStep_71 cH_goToStatement
      rw [if_pos hpM1, VA_ss s3 p hp1, if_neg n7, Option.bind_some, if_pos hpM1, VA_ss s3 p hp1, if_neg n7]
    by_cases c4 : m_S M1 p = 4
    · have hT4 : m_T M1 p = l + 1 ∧ m_Lr M1 p = l + 1 ∧ ∃ n, G[l]? = some n ∧ n.1 = 525 := by
        rcases y11 with z | z | z
        · omega
        · exact z.2
        · omega
      have zA3 := cl_Lr (p := p) (l := l) zA2
      have zB3 := rc_Lr (p := p) (l := l) t2
      have hE3 := Evp_fr hE1 (fr_rf (W := []) (s := a1)) (fr_wA (W := [2121]) (f := 121) (i := p) (x := nI l) (fr_rf (s := b2)) rfl) rfl rfl
      have hI3 := Inv_Lr (p := p) (l := l) hI2
      obtain ⟨a3, b3, M3, u1, u2, u3, u4, u5, u6⟩ := closeT_ok hE3 zA3 zB3 hI3 (by unfold Jv; simp only [p_mLr]; exact hJ2) (by simp only [p_mLr]; exact hmb2) (fun y hy => by
        simp only [p_mLr] at hy ⊢
        have h0 := hO2 y hy
        refine ⟨h0.1, ?_⟩
        by_cases c : y = p
        · rw [c, up_s]
          simp only [p_mMb]
          rw [c4, hT4.1]
          exact ⟨fun z => absurd z (by omega), fun _ => ⟨rfl, hl1, hT4.2.2⟩, fun z => absurd z (by omega)⟩
        · rw [up_n c]; exact h0.2 c) (no7 (p := p) hI3 (by simp only [p_mLr, p_mMb]; exact ham1) (by simp only [p_mLr, p_mMb]; exact c7))
      refine ⟨a3, b3, M3, ?_, ?_, u3, u4, RW_of u5, hQ _ ?_⟩
      · rw [eA, e71, u1, Option.bind_some]
      · rw [eB, hS2, if_neg n7, if_pos (by rw [c4]; decide)]
        unfold cR_step_119
        rw [u2, Option.bind_some]
      · unfold Qc at u6 ⊢
        simp only [p_mLr] at u6
        obtain ⟨h1, h2, h3, h4, h5⟩ := u6
        exact ⟨h1, h2, h3, by omega, h5⟩
    · obtain ⟨a3, b3, M3, u1, u2, u3, u4, u5, u6⟩ := closeT_ok hE1 zA2 t2 hI2 hJ2 hmb2 (fun y hy => by
        have h0 := hO2 y hy
        refine ⟨h0.1, ?_⟩
        by_cases c : y = p
        · rw [c]
          simp only [p_mMb]
          rcases y11 with z | z | z
          · exact ⟨fun z => absurd z (by omega), fun z => absurd z (by omega), fun z => absurd z (by omega)⟩
          · exact absurd z.1 c4
          · exact ⟨fun _ => ⟨z.2.1, z.2.2⟩, fun z => absurd z (by omega), fun z => absurd z (by omega)⟩
        · exact h0.2 c) (no7 (p := p) hI2 (by simp only [p_mMb]; exact ham1) (by simp only [p_mMb]; exact c7))
      refine ⟨a3, b3, M3, ?_, ?_, u3, u4, RW_of u5, hQ _ (Qc_mono u6 (by omega))⟩
      · rw [eA, e71, u1, Option.bind_some]
      · rw [eB, hS2, if_neg n7, if_neg (show ¬ nI (m_S M1 p) = (4 : Int32) from fun z => c4 (nI_inj (b := 4) (by omega) (by decide) z))]
        unfold cR_step_119
        rw [u2, Option.bind_some]
