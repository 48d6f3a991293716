/-! A TURN BEGINS, on both sides. -/
theorem cl_Sx {rm : Nat → Nat} {a : ts} {M : Md} {p s : Nat} (h : VA rm a M) (hs : s ≠ 2 ∧ s ≠ 3) : VA rm (wI a 502 p (nI s)) (mSx M p s) := by
  generalize ha : wI a 502 p (nI s) = a1
  have fa : fr [502] a a1 := by rw [← ha]; exact fr_wI fr_rf rfl
  unfold VA
  simp only [p_mSx]
  refine ⟨(fa.1 800 rfl 0).trans (VA_tm h), (fa.1 801 rfl 0).trans (VA_sd h), fun i hi => (fa.2.1 36 rfl i).trans ((VA_nu h) i hi), (fa.1 1004 rfl 0).trans (VA_st h), (fa.1 1005 rfl 0).trans (VA_tn h), (fa.1 904 rfl 0).trans (VA_N h), (fa.1 905 rfl 0).trans (VA_en h), (fa.1 906 rfl 0).trans (VA_wg h), (fa.1 1008 rfl 0).trans (VA_tc h), fun k h1 h2 => ⟨(fa.2.1 85 rfl k).trans ((VA_tt h) k h1 h2).1, (fa.2.1 86 rfl k).trans ((VA_tt h) k h1 h2).2⟩, (fa.2.2.2.2.1 1003 rfl 0).trans (VA_am h), fun q hq => (fa.1 703 rfl q).trans ((VA_th h) q hq), fun q hq => (fa.1 704 rfl q).trans ((VA_rm h) q hq), fun q hq => (fa.1 705 rfl q).trans ((VA_sv h) q hq), fun q hq => (fa.1 706 rfl q).trans ((VA_lt h) q hq), fun q hq => (fa.1 707 rfl q).trans ((VA_mw h) q hq), fun q hq => (fa.2.2.2.1 708 rfl q).trans ((VA_s0 h) q hq), fun q hq => (fa.2.2.2.1 709 rfl q).trans ((VA_s1 h) q hq), fun q hq => (fa.2.2.2.1 710 rfl q).trans ((VA_s2 h) q hq), fun q hq => (fa.1 700 rfl q).trans ((VA_iS h) q hq), by rw [fa.2.2.2.2.2.2.2.1 rfl]; exact (VA_gm h), fun p hp => (fa.1 500 rfl p).trans ((VA_no h) p (by rw [fa.2.2.2.2.2.2.2.1 rfl] at hp; exact hp)), fun p hp => (fa.1 501 rfl p).trans ((VA_df h) p hp), ?_, fun p hp => (fa.1 503 rfl p).trans ((VA_at h) p hp), fun p hp => (fa.1 504 rfl p).trans ((VA_wr h) p hp), fun p hp => (fa.1 508 rfl p).trans ((VA_ke h) p hp), fun p hp => (fa.1 510 rfl p).trans ((VA_si h) p hp), fun p hp => (fa.1 512 rfl p).trans ((VA_ao h) p hp), ?_, fun p hp i hi => (fa.2.2.2.2.2.1 rfl p i).trans ((VA_vl h) p hp i hi), fun p hp i hi => (fa.2.2.2.2.2.2.1 rfl p i).trans ((VA_un h) p hp i hi), fun ρ hρ => ln_congr (fa.2.2.2.2.1 600 rfl _) (fa.1 601 rfl _) (fun x _ => fa.2.2.2.2.1 509 rfl x) (fun x _ => fa.2.2.2.2.1 507 rfl x) (by rw [fa.2.2.2.2.2.2.2.1 rfl]; exact Nat.le_refl _) ((VA_li h) ρ hρ), fun p hp hn => (fa.2.2.2.2.1 507 rfl p).trans ((VA_nw h) p hp hn)⟩
  · intro p1 hp1
    rw [← ha]; exact upN (VA_ss h p1 hp1)
  · intro p1 hp1 hw
    by_cases c : p1 = p
    · rw [c, up_s] at hw; omega
    · rw [up_n c] at hw
      have := VA_wh h p1 hp1 hw
      rw [← ha]; exact this
theorem rc_Sx {rm : Nat → Nat} {b : ts} {M : Md} {p s : Nat} (h : VB rm b M) (hs : 4 ≤ s) : VB rm (wA b 120 p (nI s)) (mSx M p s) := by
  generalize hb : wA b 120 p (nI s) = b1
  have fa : fr [2120] b b1 := by rw [← hb]; exact fr_wA fr_rf rfl
  unfold VB rb
  simp only [p_mSx]
  refine ⟨⟨(fa.1 1110 rfl 0).trans (VB_nr h).1, (VB_nr h).2⟩, fun r hr => (fa.2.1 90 rfl r).trans ((VB_r0 h) r hr), fun s hs => (fa.2.1 93 rfl s).trans ((VB_r1 h) s hs), (fa.1 1152 rfl 0).trans (VB_tm h), (fa.1 1158 rfl 0).trans (VB_sd h), fun i hi => (fa.2.1 118 rfl i).trans ((VB_nu h) i hi), (fa.1 1153 rfl 0).trans (VB_st h), (fa.1 1154 rfl 0).trans (VB_tn h), (fa.1 1155 rfl 0).trans (VB_N h), (fa.1 1156 rfl 0).trans (VB_en h), (fa.1 1157 rfl 0).trans (VB_wg h), (fa.1 1161 rfl 0).trans (VB_tc h), fun k h1 h2 => ⟨(fa.2.1 116 rfl k).trans ((VB_tt h) k h1 h2).1, (fa.2.1 117 rfl k).trans ((VB_tt h) k h1 h2).2⟩, (fa.1 1159 rfl 0).trans (VB_am h), fun q hq => (fa.2.1 129 rfl q).trans ((VB_th h) q hq), fun q hq => (fa.2.1 130 rfl q).trans ((VB_sv h) q hq), fun q hq => (fa.2.1 131 rfl q).trans ((VB_lt h) q hq), fun q hq => (fa.2.1 132 rfl q).trans ((VB_mb h) q hq), fun q hq => (fa.2.2.1 133 rfl q).trans ((VB_s0 h) q hq), fun q hq => (fa.2.2.1 134 rfl q).trans ((VB_s1 h) q hq), fun q hq => (fa.2.2.1 135 rfl q).trans ((VB_s2 h) q hq), fun p hp => (fa.2.1 119 rfl p).trans ((VB_df h) p hp), ?_, fun p hp => (fa.2.1 121 rfl p).trans ((VB_at h) p hp), ?_, ?_, (fa.2.2.2.1 1160 rfl 0).trans (VB_P h), fun p hp => (fa.2.1 124 rfl p).trans ((VB_si h) p hp), ?_, fun p hp => (fa.2.1 126 rfl p).trans ((VB_wr h) p hp), fun p hp i hi => (fa.2.1 127 rfl _).trans ((VB_vl h) p hp i hi), fun p hp i hi => (fa.2.1 128 rfl _).trans ((VB_un h) p hp i hi), fun ρ hρ => rw1_fr ((VB_ro h) ρ hρ) fa rfl rfl rfl, aw1_fr (VB_aw h) fa rfl rfl⟩
  · intro p1 hp1
    rw [← hb]; exact upAN (VB_ss h p1 hp1)
  · intro p1 hp1 hw
    by_cases c : p1 = p
    · rw [c, up_s] at hw; omega
    · rw [up_n c] at hw
      have := VB_du h p1 hp1 hw
      rw [← hb]; exact this
  · intro p1 hp1 hw
    by_cases c : p1 = p
    · rw [c, up_s] at hw; omega
    · rw [up_n c] at hw
      have := VB_pa h p1 hp1 hw
      rw [← hb]; exact this
  · intro p1 hp1 hw
    by_cases c : p1 = p
    · rw [c, up_s] at hw; omega
    · rw [up_n c] at hw
      have := VB_wh h p1 hp1 hw
      rw [← hb]; exact this
theorem Inv_begin {rm : Nat → Nat} {M : Md} {x t : Nat} {T : List Nat} {f g : Nat → Int64} (h : Inv rm M none) (hR : m_R M 28 = x :: T) (hK : m_K M x = nI t) (ht : t ≤ 1000000000) (ham : m_am M = none) : Inv rm (mAm (mSx (mGo (mRem M x) t f g) x 7) (some x)) none := by
  have hx : x ∈ m_R M 28 := by rw [hR]; exact List.mem_cons_self
  have hxN := (Inv_me h 28 (by omega) x hx).1
  have hs : ∀ y, ¬ y = x → up (m_S M) x 7 y = m_S M y := fun y hy => up_n hy
  unfold Inv
  simp only [p_mAm, p_mSx, p_mGo, p_mRem]
  refine ⟨⟨(Inv_N h).1, ht⟩, fun ρ hρ => (Inv_nd h ρ hρ).sublist rem_sub, fun ρ hρ y hy => ?_, fun ρ ρ1 y h1 h2 h3 h4 => Inv_di h ρ ρ1 y h1 h2 (mem_rem.mp h3).1 (mem_rem.mp h4).1, fun y hy => ?_, fun _ z => (by cases z), ⟨(Inv_ca h).1.sublist rem_sub, fun y hy => ?_⟩, fun ρ hρ => (Inv_so h ρ hρ).sublist rem_sub, fun ρ h1 h2 h3 y hy => Inv_k0 h ρ h1 h2 h3 y (mem_rem.mp hy).1, fun q hq => ⟨(Inv_re h q hq).1, (Inv_re h q hq).2.1, fun hne => (Inv_re h q hq).2.2 (fun e => hne (by unfold rem; rw [e]; rfl))⟩, fun q hq => ⟨Nat.le_trans (Nat.add_le_add (wl_sub rem_sub) (wl_sub rem_sub)) (Inv_mw h q hq).1, (Inv_mw h q hq).2⟩, fun y hy h7 => ?_, fun y hy => ?_⟩
  · have z := mem_rem.mp hy
    rw [hs y z.2]; exact Inv_me h ρ hρ y z.1
  · by_cases c : y = x
    · rw [c, up_s]; exact ⟨by omega, fun z => by omega⟩
    · rw [hs y c]
      refine ⟨(Inv_co h y hy).1, fun h4 => ?_⟩
      obtain ⟨ρ, h1, h2⟩ := (Inv_co h y hy).2 h4
      exact ⟨ρ, h1, mem_rem.mpr ⟨h2, c⟩⟩
  · have z := mem_rem.mp hy
    obtain ⟨h1, t2, h2, h3, h4⟩ := (Inv_ca h).2 y z.1
    refine ⟨h1, t2, h2, ?_, h4⟩
    have pw := (Inv_ca h).1
    have zy := z.1
    rw [hR] at pw zy
    rcases List.mem_cons.mp zy with e | e
    · exact absurd e z.2
    · have w := (List.pairwise_cons.mp pw).1 y e
      unfold clt at w
      rw [hK, h2] at w
      rcases w with w | ⟨w, _⟩
      · have := (nI_ltI (by omega) (by omega)).mp w; omega
      · have := nI_inj (by omega) (by omega) w; omega
  · by_cases c : y = x
    · rw [c]
    · rw [hs y c] at h7
      have := (Inv_am h).1 y hy h7
      rw [ham] at this; cases this
  · cases hy; exact hxN
/-- the turn of the next process begins; or there is none -/
theorem begin_ok {rm pm en vc un rm0 : Nat → Nat} {L : Nat → List Int64} {G : List Ln} {τ : Nat → Int32} {K K' : Nat} {a b : ts} {M : Md} (hE : Evp a b L pm en vc un rm0 G τ K K' rm) (hA : VA rm a M) (hB : VB rm b M) (hW : RW rm G (L 3).length M) (ham : m_am M = none) (hP : m_P M < 2 ^ 62) : (cH_beginTurn a = some (-2, a) ∧ cR_begin b = some (0, b) ∧ cR_taken b = some (-2, b)) ∨ ∃ x a1 b1 M1, x < 300 ∧ cH_beginTurn a = some (nI x, a1) ∧ cR_begin b = some (1, b1) ∧ cR_taken b = some (nI x, b) ∧ VA rm a1 M1 ∧ VB rm b1 M1 ∧ RW rm G (L 3).length M1 ∧ Qd 2700000 M M1 ∧ x < m_N M ∧ m_S M x ≤ 1 ∧ (m_am M1 = none → m_S M1 x = 5 ∨ m_S M1 x = 6) ∧ (∀ q, m_am M1 = some q → q = x) := by
  obtain ⟨hI, hJ, hmb, hLn, hS7⟩ := hW
  have hN := (Inv_N hI).1
  have hrm := hE.2.2.2.1
  have etk := nextP_ok hB hI hP
  have hli : ln a 28 (m_R M 28) := VA_li hA 28 (by omega)
  cases hR : m_R M 28 with
  | nil =>
    left
    rw [hR] at etk hli
    refine ⟨?_, ?_, etk⟩
    · unfold cH_beginTurn
      rw [takeFirst_nil (by omega) hli, Option.bind_some]
    · unfold cR_begin
      rw [etk, Option.bind_some]; rfl
  | cons x T =>
    right
    rw [hR] at etk
    have hx : x ∈ m_R M 28 := by rw [hR]; exact List.mem_cons_self
    have hxN := (Inv_me hI 28 (by omega) x hx).1
    have hS1 := (in28 hI hxN).mpr hx
    obtain ⟨_, t, hK, ht, ht9⟩ := (Inv_ca hI).2 x hx
    have hro : ∀ ρ, ρ < 30 → ¬ ρ = 28 → x ∉ m_R M ρ := fun ρ h1 h2 h3 => h2 (Inv_di hI ρ 28 x h1 (by omega) h3 hx)
    have etk : cR_taken b = some (nI x, b) := etk
    -- the program
    obtain ⟨a1, h1, h2⟩ := cl_first hA (Di_of hI) (by omega) hR
    have h1 : cN_takeFirst 28 a = some (some x, a1) := h1
    have kN : m_N (mRem M x) = m_N M := by simp only [p_mRem]
    have ktm : m_tm (mRem M x) = m_tm M := by simp only [p_mRem]
    have hxM1 : x < gM a1 := by have := (VA_gm h2).1; omega
    have e508 : gI a1 508 x = nI t := by have := VA_ke h2 x (by omega); simp only [p_mRem] at this; rw [this, hK]
    obtain ⟨a2, h3, h4⟩ := goTo_ok (t := t) h2 (by omega) ht9
    have h5 := cl_Am (o := some x) (cl_Sx (p := x) (s := 7) h4 ⟨by omega, by omega⟩)
    have hxM2 : x < gM a2 := by have := (VA_gm h4).1; simp only [p_mGo, p_mRem] at this; omega
    -- the reference
    have g1 := rc_rem hB hro
    have hlen : ∀ q, q < 14 → lenq (mRem M x) q ≤ 300 := fun q hq => by
      have := two_len hI hq
      unfold lenq
      simp only [p_mRem]
      have l1 := (rem_sub (R := m_R M) (p := x) (ρ := q)).length_le
      have l2 := (rem_sub (R := m_R M) (p := x) (ρ := 14 + q)).length_le
      omega
    obtain ⟨b2, g3, g4⟩ := goOn_ok (t := t) hrm g1 (by omega) ht9 hlen
    have g5 := rc_Sx (p := x) (s := 7) (rc_Am (o := some x) g4) (by omega)
    have ecm : ∀ N : Md, mSx (mAm N (some x)) x 7 = mAm (mSx N x 7) (some x) := fun N => by
      refine Md_ext ?_ ?_ ?_ ?_ ?_ ?_ ?_ ?_ ?_ ?_ ?_ ?_ ?_ ?_ ?_ ?_ ?_ ?_ ?_ ?_ ?_ ?_ ?_ ?_ ?_ ?_ ?_ ?_ ?_ ?_ ?_ ?_ ?_ ?_ <;> simp only [p_mSx, p_mAm]
    rw [ecm] at g5
    have hI5 := Inv_begin (f := gs0 rm (mRem M x) (t - m_tm (mRem M x))) (g := gs1 (mRem M x) (t - m_tm (mRem M x))) hI hR hK ht9 ham
    have fa : fr (wf_cN_takeFirst ++ (wf_cW_goTo ++ [502, 7003])) a (wR (wI a2 502 x (nI 7)) 1003 0 (some x)) := fr_wR (fr_wI (fr_tr (fr_mono (by decide +kernel) (cN_takeFirst_fr _ _ _ h1)) (fr_mono (by decide +kernel) (cW_goTo_fr _ _ _ h3))) (by decide)) (by decide)
    have fb : fr (wf_cR_goOn ++ [1159, 2120]) b (wA (wI b2 1159 0 (oi (-2) (some x))) 120 x (nI 7)) := fr_wA (fr_wI (fr_mono (by decide +kernel) (cR_goOn_fr _ _ _ g3)) (by decide)) (by decide)
    have hE5 := Evp_fr hE fa fb (by decide) (by decide)
    generalize hM5 : mAm (mSx (mGo (mRem M x) t (gs0 rm (mRem M x) (t - m_tm (mRem M x))) (gs1 (mRem M x) (t - m_tm (mRem M x)))) x 7) (some x) = M5 at h5 g5 hI5
    have k5 : m_N M5 = m_N M ∧ m_T M5 = m_T M ∧ m_Lr M5 = m_Lr M ∧ m_D M5 = m_D M ∧ m_S M5 = up (m_S M) x 7 ∧ m_tc M5 = m_tc M ∧ m_P M5 = m_P M ∧ m_am M5 = some x ∧ m_mw M5 = m_mw M ∧ m_mb M5 = m_mb M ∧ m_R M5 = rem (m_R M) x := by
      rw [← hM5]
      simp only [p_mAm, p_mSx, p_mGo, p_mRem]
      exact ⟨trivial, trivial, trivial, trivial, trivial, trivial, trivial, trivial, trivial, trivial, trivial⟩
    obtain ⟨q1, q2, q3, q4, q5, q6, q7, q8, q9, q10, q11⟩ := k5
    have hlk := (hLn x hxN).2.1 (by omega)
    obtain ⟨a6, b6, M6, s1, s2, s3, s4, s5, s6, s7, s8⟩ := settleT_ok (p := x) (l := m_Lr M x) hE5 h5 g5 hI5 (Jv_rows hJ (fun ρ _ y hy => by rw [q11] at hy; exact (mem_rem.mp hy).1)) (by rw [q9, q10]; exact hmb) (fun y hy => by
      have h0 := hLn y (by rw [← q1]; exact hy)
      rw [q4]
      refine ⟨h0.1, fun hyx => ?_⟩
      rw [q5, q2, q3, up_n hyx]; exact h0.2) (by rw [q1]; exact hxN) (by rw [q5, up_s]) q8 (by rw [q2]; exact hlk.1) (by rw [q3]) hlk.2
    have hx6 : x < m_N M6 := by rw [s6.1, q1]; exact hxN
    have hx6M : x < gM a6 := Nat.lt_of_lt_of_le hx6 (VA_gm s3).1
    have h500 : gI a6 500 x = nI x := VA_no s3 x hx6M
    refine ⟨x, a6, b6, M6, by omega, ?_, ?_, etk, s3, s4, s5, ?_, hxN, hS1, s7, s8⟩
    · have s1' := s1
      unfold cH_doStep_71 at s1'
      obtain ⟨s2x, y1, y2⟩ := FB s1'
      have y1 : cH_goToStatement x (wR (wI a2 502 x 7) 1003 0 (some x)) = some s2x := y1
      unfold cH_beginTurn
      rw [h1, Option.bind_some]
      dsimp only
      rw [if_pos hxM1, e508, h3, Option.bind_some, if_pos hxM2, y1, Option.bind_some]
      by_cases c1 : x < gM s2x
      · rw [if_pos c1] at y2 ⊢
        by_cases c2 : gI s2x 502 x = 7
        · rw [if_pos c2] at y2 ⊢
          cases y2
          rw [h500]
        · rw [if_neg c2] at y2 ⊢
          obtain ⟨s6x, z1, z2⟩ := FB y2
          cases z2
          rw [z1, Option.bind_some, if_pos hx6M, h500]
      · rw [if_neg c1] at y2; cases y2
    · have e122 : gA b 122 x = nI t := by rw [VB_du hB x hxN hS1, hK]
      have s2 : cR_settleLine (nI x) (wA (wI b2 1159 0 (nI x)) 120 x 7) = some b6 := s2
      unfold cR_begin
      rw [etk, Option.bind_some]
      dsimp only
      rw [if_neg (nI_no2 (by omega)), if_pos (nI_idx (by omega) (by decide)), nI_clamp (by omega), e122, g3, Option.bind_some, s2, Option.bind_some]
    · obtain ⟨w1, w2, w3, w4, w5⟩ := s6
      refine ⟨by omega, by omega, by omega, fun y hy h56 => ?_⟩
      have c : ¬ y = x := fun z => by rw [z] at h56; omega
      have z := w5 y (by omega) (by rw [q5, up_n c]; exact h56)
      rw [z, q5, up_n c]; exact h56
