/-! STATEMENTS AT WORK: hold, await, stop, wake, say, set, if, while. -/
theorem rc_put {rm : Nat → Nat} {b : ts} {M : Md} {p s : Nat} {t : Int32} (h : VB rm b M) (hN : m_N M ≤ 300) (hp : p < m_N M) (hr : ∀ ρ, ρ < 30 → ¬ ρ = 28 → p ∉ m_R M ρ) (hs : s ≤ 1) : ∃ b1, cR_calendar (nI p) (nI s) t b = some b1 ∧ VB rm b1 (mPut M p s t) := by
  obtain ⟨b1, h1, h2⟩ := rc_cal (s := s) (t := t) (rc_rem h hr) (by simp only [p_mRem]; exact hN) (p := p) (by simp only [p_mRem]; exact hp) (fun ρ h1 h2 => by simp only [p_mRem] at h2; exact (mem_rem.mp h2).2 rfl) hs
  exact ⟨b1, h1, h2⟩
theorem Sy_put {rm : Nat → Nat} {G : List Ln} {nd l p s : Nat} {t : Int32} {M : Md} (hb : Bs rm G l p M) (hs : s ≤ 1) (hI : Inv rm (mPut M p s t) none) : Sy rm G nd 1 l p M (mPut M p s t) := by
  obtain ⟨b1, b2, b3, b4, b5, b6, b7, b8, b9⟩ := hb
  have hw := mw_mb hI (by simp only [p_mPut]; exact b3)
  have hJ : Jv rm (mPut M p s t) := Jv_rows b2 (fun ρ h1 x hx => by
    simp only [p_mPut] at hx
    rw [up_n (by omega)] at hx; exact (mem_rem.mp hx).1)
  refine ⟨?_, fun y hy hyp => ?_, fun y h1 h2 => ?_, hJ, hw, Or.inr (Or.inr ?_)⟩
  · simp only [p_mPut]
    exact ⟨Nat.le_refl _, trivial, by omega, trivial, Nat.le_refl _, trivial⟩
  · simp only [p_mPut]
    rw [up_n hyp]
    exact ⟨⟨trivial, trivial, trivial⟩, Or.inl rfl, fun _ => rfl⟩
  · simp only [p_mPut] at h2; omega
  · simp only [p_mPut]
    rw [up_s, b7, b8]
    exact ⟨by omega, rfl, b9⟩
/-- a span of time ahead -/
theorem ahead {a : ts} {v : Int32} {tm : Nat} (h : gI a 800 0 = nI tm) (htm : tm ≤ 1000000000) : (cH_isTimeAhead v a = some (0, a) ∧ (v < 0 ∨ (¬ v < 0 ∧ ¬ lg_cmp ((nI tm).toInt64 + v.toInt64) (1000000000 : Int64) ≤ 0))) ∨ (∃ n, v = nI n ∧ tm + n ≤ 1000000000 ∧ cH_isTimeAhead v a = some (1, a) ∧ ¬ v < 0 ∧ lg_cmp ((nI tm).toInt64 + v.toInt64) (1000000000 : Int64) ≤ 0) := by
  unfold cH_isTimeAhead
  rw [h]
  by_cases c : v < 0
  · left; rw [if_pos c]; exact ⟨rfl, Or.inl c⟩
  · rw [if_neg c]
    obtain ⟨n, hn, e⟩ := nI_of c
    by_cases c2 : (0 : Int32) < lg_cmp ((nI tm).toInt64 + v.toInt64) (1000000000 : Int64)
    · left
      rw [if_pos c2]
      refine ⟨rfl, Or.inr ⟨c, fun z => ?_⟩⟩
      exact absurd (Int32.lt_of_lt_of_le c2 z) (Int32.lt_irrefl)
    · right
      rw [if_neg c2]
      have c3 : lg_cmp ((nI tm).toInt64 + v.toInt64) (1000000000 : Int64) ≤ 0 := Int32.not_lt.mp c2
      refine ⟨n, e, ?_, rfl, c, c3⟩
      have c4 := (lg_cmp_le _ _).mp c3
      rw [Int64.le_iff_toInt_le, lg_i2l_add, e, nI_toInt (by omega), nI_toInt hn] at c4
      have e9 : (1000000000 : Int64).toInt = 1000000000 := by decide
      rw [e9] at c4
      omega
theorem hold_ok {rm : Nat → Nat} {G : List Ln} {nd l p : Nat} {v : Int32} {a b : ts} {M : Md} (hrm : RMk rm) (hb : Bs rm G l p M) (hA : VA rm a M) (hB : VB rm b M) : ∃ w a0 a1 b1 M1, cH_hold p v a = some (nI w, a0) ∧ fw p (nI w) a0 = some a1 ∧ (if v < ((0 : Int32)) then cR_perform_263 (nI p) b else (if (lg_cmp (((gI b 1152 0).toInt64) + v.toInt64) ((1000000000 : Int64))) ≤ ((0 : Int32)) then (cR_calendar (nI p) ((1 : Int32)) ((gI b 1152 0) + v) b).bind (fun s15 => some s15) else cR_perform_263 (nI p) b)) = some b1 ∧ VA rm a1 M1 ∧ VB rm b1 M1 ∧ Inv rm M1 none ∧ Sy rm G nd 8300 l p M M1 := by
  have hb0 := hb
  obtain ⟨hI, hJ, hmb, hp, hS, ham, hT, hL, hG⟩ := hb
  have hN := (Inv_N hI).1
  have hn := none_in hI (p := p) (by omega)
  have ea := VA_tm hA
  have eb := VB_tm hB
  rcases ahead (v := v) ea (Inv_N hI).2 with ⟨h1, h2⟩ | ⟨n, e, h1, h2, h3, h4⟩
  · obtain ⟨a1, b1, M1, g1, g2, g3, g4, g5, g6⟩ := wrong_ok (nd := nd) (w := 2) hrm hb0 hA hB (by omega) (by omega)
    have g2 : cR_finish (nI p) 2 b = some b1 := g2
    refine ⟨2, a, a1, b1, M1, ?_, g1, ?_, g3, g4, g5, g6⟩
    · unfold cH_hold
      rw [h1, Option.bind_some]; rfl
    · rw [eb]
      unfold cR_perform_263
      rcases h2 with c | ⟨c, d⟩
      · rw [if_pos c, g2, Option.bind_some]
      · rw [if_neg c, if_neg d, g2, Option.bind_some]
  · obtain ⟨a1, y1, y2⟩ := cl_put (s := 1) (t := nI (m_tm M + n)) hA (Di_of hI) (Mm_of hI) (p := p) hp (by omega)
    obtain ⟨b1, z1, z2⟩ := rc_put (s := 1) (t := nI (m_tm M + n)) hB hN hp (fun ρ h _ => hn ρ h) (by omega)
    have hI1 := Inv_put (s := 1) (t := m_tm M + n) hI hp (fun z => by cases z) (by omega) ⟨by omega, h1⟩
    refine ⟨0, a1, a1, b1, _, ?_, fw0, ?_, y2, z2, hI1, Sy_mono (Sy_put hb0 (by omega) hI1) (by omega)⟩
    · have y1 : cO_putInCalendar p 1 (nI (m_tm M + n)) a = some a1 := y1
      unfold cH_hold
      rw [h2, Option.bind_some]
      dsimp only
      rw [if_neg (by decide), ea, e, nI_add, y1, Option.bind_some]; rfl
    · have z1 : cR_calendar (nI p) 1 (nI (m_tm M + n)) b = some b1 := z1
      rw [eb, if_neg h3, if_pos h4, e, nI_add, z1, Option.bind_some]
theorem cl_st2 {rm : Nat → Nat} {a : ts} {M : Md} {p s : Nat} (h : VA rm a M) (hs : s ≠ 2 ∧ s ≠ 3) : VA rm (wI (wI a 502 p (nI s)) 510 p (nI (m_tm M))) (mSt M p s) := by
  have z := cl_stat (p := p) (s := s) (w := gI (wI (wI a 502 p (nI s)) 510 p (nI (m_tm M))) 511 p) h hs
  rw [wI_self] at z
  exact z
theorem rc_st4 {rm : Nat → Nat} {b : ts} {M : Md} {p : Nat} {w : Int32} (h : VB rm b M) (hN : m_N M ≤ 300) (hp : p < m_N M) : ∃ b1, cR_waits (nI p) 4 w b = some b1 ∧ VB rm b1 (mSt M p 4) := by
  generalize hb : wA (wA (wA b 120 p (nI 4)) 125 p w) 124 p (nI (m_tm M)) = b1
  have fa : fr [2120, 2124, 2125] b b1 := by rw [← hb]; exact fr_wA (fr_wA (fr_wA fr_rf rfl) rfl) rfl
  refine ⟨b1, ?_, ?_⟩
  · unfold cR_waits
    rw [if_pos (nI_idx (by omega) (by decide)), nI_clamp (by omega), show gI (wA (wA b 120 p 4) 125 p w) 1152 0 = nI (m_tm M) from (by have x0 := VB_tm h; exact x0)]
    rw [← hb]; rfl
  unfold VB rb
  simp only [p_mSt]
  refine ⟨⟨(fa.1 1110 rfl 0).trans (VB_nr h).1, (VB_nr h).2⟩, fun r hr => (fa.2.1 90 rfl r).trans ((VB_r0 h) r hr), fun s hs => (fa.2.1 93 rfl s).trans ((VB_r1 h) s hs), (fa.1 1152 rfl 0).trans (VB_tm h), (fa.1 1158 rfl 0).trans (VB_sd h), fun i hi => (fa.2.1 118 rfl i).trans ((VB_nu h) i hi), (fa.1 1153 rfl 0).trans (VB_st h), (fa.1 1154 rfl 0).trans (VB_tn h), (fa.1 1155 rfl 0).trans (VB_N h), (fa.1 1156 rfl 0).trans (VB_en h), (fa.1 1157 rfl 0).trans (VB_wg h), (fa.1 1161 rfl 0).trans (VB_tc h), fun k h1 h2 => ⟨(fa.2.1 116 rfl k).trans ((VB_tt h) k h1 h2).1, (fa.2.1 117 rfl k).trans ((VB_tt h) k h1 h2).2⟩, (fa.1 1159 rfl 0).trans (VB_am h), fun q hq => (fa.2.1 129 rfl q).trans ((VB_th h) q hq), fun q hq => (fa.2.1 130 rfl q).trans ((VB_sv h) q hq), fun q hq => (fa.2.1 131 rfl q).trans ((VB_lt h) q hq), fun q hq => (fa.2.1 132 rfl q).trans ((VB_mb h) q hq), fun q hq => (fa.2.2.1 133 rfl q).trans ((VB_s0 h) q hq), fun q hq => (fa.2.2.1 134 rfl q).trans ((VB_s1 h) q hq), fun q hq => (fa.2.2.1 135 rfl q).trans ((VB_s2 h) q hq), fun p hp => (fa.2.1 119 rfl p).trans ((VB_df h) p hp), ?_, fun p hp => (fa.2.1 121 rfl p).trans ((VB_at h) p hp), ?_, ?_, (fa.2.2.2.1 1160 rfl 0).trans (VB_P h), ?_, ?_, fun p hp => (fa.2.1 126 rfl p).trans ((VB_wr h) p hp), fun p hp i hi => (fa.2.1 127 rfl _).trans ((VB_vl h) p hp i hi), fun p hp i hi => (fa.2.1 128 rfl _).trans ((VB_un h) p hp i hi), fun ρ hρ => rw1_fr ((VB_ro h) ρ hρ) fa rfl rfl rfl, aw1_fr (VB_aw h) fa rfl rfl⟩
  · intro p1 hp1
    rw [← hb]; exact upAN (VB_ss h p1 hp1)
  · intro p1 hp1 hw
    by_cases c : p1 = p
    · rw [c, up_s] at hw; omega
    · rw [up_n c] at hw
      have := VB_du h p1 hp1 hw
      rw [← hb]; exact this
  · intro p1 hp1 hw
    by_cases c : p1 = p
    · rw [c, up_s] at hw; omega
    · rw [up_n c] at hw
      have := VB_pa h p1 hp1 hw
      rw [← hb]; exact this
  · intro p1 hp1
    rw [← hb]; exact upA (VB_si h p1 hp1)
  · intro p1 hp1 hw
    by_cases c : p1 = p
    · rw [c, up_s] at hw; omega
    · rw [up_n c] at hw
      rw [← hb]
      show gA (wA (wA b 120 p (nI 4)) 125 p w) 125 p1 = _
      rw [gA_wn c]; exact VB_wh h p1 hp1 hw
theorem rc_aw {rm : Nat → Nat} {b : ts} {M : Md} {p : Nat} (h : VB rm b M) (hn : ∀ ρ, ρ < 30 → p ∉ m_R M ρ) (hl : (m_R M 29).length < 300) (h0 : ∀ x, x ∈ m_R M 29 → m_K M x = 0) (hS : 2 ≤ m_S M p) : VB rm (wI (wA b 139 (m_R M 29).length (nI p)) 1185 0 (nI ((m_R M 29).length + 1))) (mJn M 29 p 0) := by
  generalize hb : wI (wA b 139 (m_R M 29).length (nI p)) 1185 0 (nI ((m_R M 29).length + 1)) = b1
  have fa : fr [1185, 2139] b b1 := by rw [← hb]; exact fr_wI (fr_wA fr_rf rfl) rfl
  have hmap : ∀ ρ1, ρ1 < 28 → (m_R M ρ1).map (fun x => (x, if ρ1 < 8 then up (m_K M) p 0 x else m_A M x)) = rb M ρ1 := fun ρ1 h1 => by
    unfold rb
    refine List.map_congr_left (fun x hx => ?_)
    rw [up_n (show ¬ x = p from fun z => hn ρ1 (by omega) (z ▸ hx))]
  unfold VB rb
  simp only [p_mJn]
  refine ⟨⟨(fa.1 1110 rfl 0).trans (VB_nr h).1, (VB_nr h).2⟩, fun r hr => (fa.2.1 90 rfl r).trans ((VB_r0 h) r hr), fun s hs => (fa.2.1 93 rfl s).trans ((VB_r1 h) s hs), (fa.1 1152 rfl 0).trans (VB_tm h), (fa.1 1158 rfl 0).trans (VB_sd h), fun i hi => (fa.2.1 118 rfl i).trans ((VB_nu h) i hi), (fa.1 1153 rfl 0).trans (VB_st h), (fa.1 1154 rfl 0).trans (VB_tn h), (fa.1 1155 rfl 0).trans (VB_N h), (fa.1 1156 rfl 0).trans (VB_en h), (fa.1 1157 rfl 0).trans (VB_wg h), (fa.1 1161 rfl 0).trans (VB_tc h), fun k h1 h2 => ⟨(fa.2.1 116 rfl k).trans ((VB_tt h) k h1 h2).1, (fa.2.1 117 rfl k).trans ((VB_tt h) k h1 h2).2⟩, (fa.1 1159 rfl 0).trans (VB_am h), fun q hq => (fa.2.1 129 rfl q).trans ((VB_th h) q hq), fun q hq => (fa.2.1 130 rfl q).trans ((VB_sv h) q hq), fun q hq => (fa.2.1 131 rfl q).trans ((VB_lt h) q hq), fun q hq => (fa.2.1 132 rfl q).trans ((VB_mb h) q hq), fun q hq => (fa.2.2.1 133 rfl q).trans ((VB_s0 h) q hq), fun q hq => (fa.2.2.1 134 rfl q).trans ((VB_s1 h) q hq), fun q hq => (fa.2.2.1 135 rfl q).trans ((VB_s2 h) q hq), fun p hp => (fa.2.1 119 rfl p).trans ((VB_df h) p hp), fun p hp => (fa.2.1 120 rfl p).trans ((VB_ss h) p hp), fun p hp => (fa.2.1 121 rfl p).trans ((VB_at h) p hp), ?_, fun p hp hs => (fa.2.2.1 123 rfl p).trans ((VB_pa h) p hp hs), (fa.2.2.2.1 1160 rfl 0).trans (VB_P h), fun p hp => (fa.2.1 124 rfl p).trans ((VB_si h) p hp), fun p hp hs => (fa.2.1 125 rfl p).trans ((VB_wh h) p hp hs), fun p hp => (fa.2.1 126 rfl p).trans ((VB_wr h) p hp), fun p hp i hi => (fa.2.1 127 rfl _).trans ((VB_vl h) p hp i hi), fun p hp i hi => (fa.2.1 128 rfl _).trans ((VB_un h) p hp i hi), ?_, ?_⟩
  · intro p1 hp1 hs
    by_cases c : p1 = p
    · rw [c] at hs; omega
    · rw [up_n c]; exact (fa.2.1 122 rfl p1).trans (VB_du h p1 hp1 hs)
  · intro ρ hρ
    rw [up_n (by omega), hmap ρ hρ]; exact rw1_fr (VB_ro h ρ hρ) fa rfl rfl rfl
  · rw [up_s, ins_last h0]
    have ha := VB_aw h
    refine ⟨by rw [← hb, gI_ws, List.length_append]; rfl, by rw [List.length_append]; exact hl, fun i y hy => ?_⟩
    rw [← hb]
    show gA (wA b 139 (m_R M 29).length (nI p)) 139 i = nI y
    rw [List.getElem?_append] at hy
    by_cases c : i < (m_R M 29).length
    · rw [if_pos c] at hy
      rw [gA_wn (by omega)]; exact ha.2.2 i y hy
    · rw [if_neg c] at hy
      have hi : i = (m_R M 29).length := by
        have : i - (m_R M 29).length < 1 := by
          rcases Nat.lt_or_ge (i - (m_R M 29).length) 1 with z | z
          · exact z
          · rw [List.getElem?_eq_none (by simpa using z)] at hy; cases hy
        omega
      rw [hi, Nat.sub_self] at hy
      cases hy
      rw [hi, gA_ws]
theorem await_ok {rm : Nat → Nat} {G : List Ln} {nd l p : Nat} {a b : ts} {M : Md} (hb : Bs rm G l p M) (hA : VA rm a M) (hB : VB rm b M) (hl : ∃ n, G[l]? = some n ∧ n.1 = 525) : ∃ a1 b1 M1, cO_makeAwait p a = some a1 ∧ (cR_waits (nI p) ((4 : Int32)) ((-2 : Int32)) b).bind (fun s33 => (if am_idx (gI s33 1185 0) 300 = true then some (wI (wA s33 139 (gI s33 1185 0).toNatClampNeg (nI p)) 1185 0 ((gI (wA s33 139 (gI s33 1185 0).toNatClampNeg (nI p)) 1185 0) + ((1 : Int32)))) else none)) = some b1 ∧ VA rm a1 M1 ∧ VB rm b1 M1 ∧ Inv rm M1 none ∧ Sy rm G nd 0 l p M M1 := by
  obtain ⟨hI, hJ, hmb, hp, hS, ham, hT, hL, hG⟩ := hb
  have hN := (Inv_N hI).1
  have hpM : p < gM a := Nat.lt_of_lt_of_le hp (VA_gm hA).1
  have hn := none_in hI (p := p) (by omega)
  have zA := cl_st2 (p := p) (s := 4) hA ⟨by omega, by omega⟩
  generalize ha0 : wI (wI a 502 p (nI 4)) 510 p (nI (m_tm M)) = a0 at zA
  have kR : m_R (mSt M p 4) = m_R M := by simp only [p_mSt]
  have kN : m_N (mSt M p 4) = m_N M := by simp only [p_mSt]
  have hdi : Di (mSt M p 4) := Di_st (Di_of hI)
  obtain ⟨a1, y1, y2, _⟩ := cl_join (ρ := 29) (k := 0) zA hdi (by rw [kN]; exact hp) (by rw [kR]; exact hn) (by omega) (fun x hx => by rw [kR] at hx; rw [kN]; exact (Inv_me hI 29 (by omega) x hx).1)
  have y1 : cN_join 29 p 0 a0 = some a1 := y1
  obtain ⟨b0, z1, z2⟩ := rc_st4 (w := -2) hB hN hp
  have h29 := row_short hI hp (hn 29 (by omega)) (by omega)
  have zB := rc_aw z2 (by rw [kR]; exact hn) (by rw [kR]; exact h29) (fun x hx => by rw [kR] at hx; simp only [p_mSt]; exact Inv_k0 hI 29 (by omega) (by omega) (by omega) x hx) (by simp only [p_mSt]; rw [up_s]; omega)
  have hcm : mJn (mSt M p 4) 29 p 0 = mSt (mJn M 29 p 0) p 4 := by
    refine Md_ext ?_ ?_ ?_ ?_ ?_ ?_ ?_ ?_ ?_ ?_ ?_ ?_ ?_ ?_ ?_ ?_ ?_ ?_ ?_ ?_ ?_ ?_ ?_ ?_ ?_ ?_ ?_ ?_ ?_ ?_ ?_ ?_ ?_ ?_ <;> simp only [p_mJn, p_mSt]
  have hIj := Inv_jn (ρ := 29) (v := 0) (Inv_in hI hp hS) hn (by omega) (by omega) (fun _ => rfl) (fun z => by omega)
  have hI1 : Inv rm (mJn (mSt M p 4) 29 p 0) none := by
    rw [hcm]
    refine Inv_own4 hIj ?_
    simp only [p_mJn]
    rw [up_s, mem_ins]; exact Or.inl rfl
  refine ⟨a1, _, _, ?_, ?_, y2, zB, hI1, ?_⟩
  · unfold cO_makeAwait
    rw [if_pos hpM, show gI (wI a 502 p (4 : Int32)) 800 0 = nI (m_tm M) by rw [gI_wf (by decide)]; exact VA_tm hA]
    have e : wI (wI a 502 p (4 : Int32)) 510 p (nI (m_tm M)) = a0 := ha0
    rw [e, y1, Option.bind_some]
  · have e1 : gI b0 1185 0 = nI (m_R M 29).length := by
      have := (VB_aw z2).1
      rw [kR] at this; exact this
    rw [z1, Option.bind_some, e1, if_pos (nI_idx h29 (by decide)), nI_clamp (by omega), show gI (wA b0 139 (m_R M 29).length (nI p)) 1185 0 = nI (m_R M 29).length from e1, nI_1, kR]
  · have hw := mw_mb hI1 (by simp only [p_mJn, p_mSt]; exact hmb)
    refine ⟨?_, fun y hy hyp => ?_, fun y h1 h2 => ?_, ?_, hw, Or.inr (Or.inl ?_)⟩
    · simp only [p_mJn, p_mSt]
      exact ⟨Nat.le_refl _, trivial, by omega, trivial, Nat.le_refl _, trivial⟩
    · simp only [p_mJn, p_mSt]
      rw [up_n hyp]
      exact ⟨⟨trivial, trivial, trivial⟩, Or.inl rfl, fun _ => rfl⟩
    · simp only [p_mJn, p_mSt] at h2; omega
    · intro q h1 h2
      simp only [p_mJn, p_mSt]
      rw [up_n (by omega), up_n (by omega)]; exact hJ q h1 h2
    · simp only [p_mJn, p_mSt]
      rw [up_s]
      exact ⟨rfl, hT, hL, hl⟩
theorem find_yes {rm : Nat → Nat} {a : ts} {M : Md} {q : Nat} (hA : VA rm a M) (hq : q < m_N M) : cO_find (nI q) a = some (some q, a) := by
  have h3 := (VA_gm hA).2
  have h4 := (VA_gm hA).1
  unfold cO_find
  rw [if_neg (nI_pos (by omega)), VA_N hA, if_neg (nI_ge hq (by omega)), if_neg (show ¬ (300 : Int32) ≤ nI q from nI_ge (b := 300) (by omega) (by decide)), if_pos (nI_idx (by omega) (by decide)), nI_clamp (by omega), if_pos (by omega)]
theorem find_no {rm : Nat → Nat} {a : ts} {M : Md} {v : Int32} (hA : VA rm a M) (h : v < 0 ∨ nI (m_N M) ≤ v) : cO_find v a = some (none, a) := by
  unfold cO_find
  by_cases c : v < 0
  · rw [if_pos c]
  · rw [if_neg c, VA_N hA, if_pos (h.resolve_left c)]
theorem num_of {v : Int32} {N : Nat} (hN : N ≤ 300) (h : ¬ (v < 0 ∨ nI N ≤ v)) : ∃ q, v = nI q ∧ q < N := by
  obtain ⟨q, h1, e⟩ := nI_of (fun z => h (Or.inl z))
  refine ⟨q, e, ?_⟩
  rcases Nat.lt_or_ge q N with z | z
  · exact z
  · exact absurd (Or.inr (by rw [e]; exact nI_le z h1)) h
theorem over_yes {rm : Nat → Nat} {a : ts} {M : Md} {p w : Nat} (hA : VA rm a M) (hp : p < m_N M) (hS : m_S M p = 5 ∨ m_S M p = 6) : cO_finish (some p) (nI w) a = some a := by
  have hpM : p < gM a := Nat.lt_of_lt_of_le hp (VA_gm hA).1
  have e : cP_isOver p a = some (1, a) := by
    unfold cP_isOver
    rw [if_pos hpM, VA_ss hA p hp]
    rcases hS with c | c
    · rw [c, if_pos (show nI 5 = (5 : Int32) from rfl)]
    · rw [c, if_neg (show ¬ nI 6 = (5 : Int32) by decide), if_pos (show nI 6 = (6 : Int32) from rfl)]
  unfold cO_finish
  dsimp only
  rw [if_pos hpM, e, Option.bind_some]
  dsimp only
  rw [if_neg (by decide)]
/-- stop (k = 1) and wake (k = 0) -/
def ow_cl (k : Nat) (v : Int32) (a : ts) : Option (Int32 × ts) := (cO_find v a).bind (fun x => (if k = 1 then cO_finish x.1 0 x.2 else cO_wake x.1 x.2).bind (fun s => (cO_find v s).bind (fun y => match y.1 with
  | none => some ((7 : Int32), y.2)
  | some _ => some ((0 : Int32), y.2))))
theorem other_ok {rm : Nat → Nat} {G : List Ln} {nd l p k : Nat} {v : Int32} {a b : ts} {M : Md} (hrm : RMk rm) (hb : Bs rm G l p M) (hA : VA rm a M) (hB : VB rm b M) (hk : k ≤ 1) : ∃ w a0 a1 b1 M1, ow_cl k v a = some (nI w, a0) ∧ fw p (nI w) a0 = some a1 ∧ cR_other (nI p) v (nI k) b = some b1 ∧ VA rm a1 M1 ∧ VB rm b1 M1 ∧ Inv rm M1 none ∧ Sy rm G nd 8300 l p M M1 := by
  have hb0 := hb
  obtain ⟨hI, hJ, hmb, hp, hS, ham, hT, hL, hG⟩ := hb
  have hN := (Inv_N hI).1
  by_cases c : v < 0 ∨ nI (m_N M) ≤ v
  · obtain ⟨a1, b1, M1, g1, g2, g3, g4, g5, g6⟩ := wrong_ok (nd := nd) (w := 7) hrm hb0 hA hB (by omega) (by omega)
    have g2 : cR_finish (nI p) 7 b = some b1 := g2
    refine ⟨7, a, a1, b1, M1, ?_, g1, ?_, g3, g4, g5, g6⟩
    · unfold ow_cl
      rw [find_no hA c, Option.bind_some]
      dsimp only
      have e : (if k = 1 then cO_finish none 0 a else cO_wake none a) = some a := by split <;> rfl
      rw [e, Option.bind_some, find_no hA c, Option.bind_some]; rfl
    · unfold cR_other cR_other_12
      by_cases d : v < 0
      · rw [if_pos d, g2, Option.bind_some]
      · rw [if_neg d, VB_N hB, if_neg (Int32.not_lt.mpr (c.resolve_left d)), g2, Option.bind_some]
  · obtain ⟨q, e, hq⟩ := num_of hN c
    subst e
    have h7 := (Inv_co hI q hq).1
    have eR : cR_other (nI p) (nI q) (nI k) b = (if k = 0 then cR_other_56 (nI q) (nI k) b else if m_S M q = 5 ∨ m_S M q = 6 then cR_other_56 (nI q) (nI k) b else (cR_finish (nI q) ((0 : Int32)) b).bind (fun s3 => some s3)) := by
      unfold cR_other
      rw [if_neg (nI_pos (by omega)), VB_N hB, if_pos (nI_lt hq (by omega))]
      by_cases d : k = 0
      · rw [if_pos d, if_pos (show nI k = 0 by rw [d]; rfl)]
      · rw [if_neg d, if_neg (nI_ne0 (by omega) (by omega)), if_pos (nI_idx (by omega) (by decide)), nI_clamp (by omega), VB_ss hB q hq]
        by_cases d5 : m_S M q = 5
        · rw [if_pos (Or.inl d5), if_pos (show nI (m_S M q) = (5 : Int32) by rw [d5]; rfl)]
        · rw [if_neg (show ¬ nI (m_S M q) = (5 : Int32) from fun z => d5 (nI_inj (b := 5) (by omega) (by decide) z))]
          by_cases d6 : m_S M q = 6
          · rw [if_pos (Or.inr d6), if_pos (show nI (m_S M q) = (6 : Int32) by rw [d6]; rfl)]
          · rw [if_neg (show ¬ nI (m_S M q) = (6 : Int32) from fun z => d6 (nI_inj (b := 6) (by omega) (by decide) z)), if_neg (by omega)]
    have eC : ∀ a1 M1, (if k = 1 then cO_finish (some q) 0 a else cO_wake (some q) a) = some a1 → VA rm a1 M1 → m_N M1 = m_N M → ow_cl k (nI q) a = some (nI 0, a1) := by
      intro a1 M1 h1 h2 h3
      unfold ow_cl
      rw [find_yes hA hq, Option.bind_some]
      dsimp only
      rw [h1, Option.bind_some, find_yes h2 (by rw [h3]; exact hq), Option.bind_some]; rfl
    by_cases d : k = 0
    · have hk1 : ¬ k = 1 := by omega
      by_cases d1 : m_S M q = 1
      · have hpq : ¬ q = p := fun z => by rw [z] at d1; omega
        have hro : ∀ ρ, ρ < 30 → ¬ ρ = 28 → q ∉ m_R M ρ := fun ρ h1 h2 h3 => by
          rcases (Inv_me hI ρ h1 q h3).2 with y | y
          · cases y
          · unfold SP at y; omega
        obtain ⟨a1, y1, y2⟩ := cl_put (s := 0) (t := nI (m_tm M)) hA (Di_of hI) (Mm_of hI) (p := q) hq (by omega)
        obtain ⟨b1, z1, z2⟩ := rc_put (s := 0) (t := nI (m_tm M)) hB hN hq hro (by omega)
        have hI1 := Inv_put (s := 0) (t := m_tm M) hI hq (fun z => by cases z) (by omega) ⟨by omega, (Inv_N hI).2⟩
        refine ⟨0, a1, a1, b1, _, eC a1 _ ?_ y2 (by simp only [p_mPut]), fw0, ?_, y2, z2, hI1, ?_⟩
        · have y1 : cO_putInCalendar q 0 (nI (m_tm M)) a = some a1 := y1
          rw [if_neg hk1]
          unfold cO_wake
          dsimp only
          rw [if_pos (Nat.lt_of_lt_of_le hq (VA_gm hA).1), VA_ss hA q hq, if_pos (show nI (m_S M q) = (1 : Int32) by rw [d1]; rfl), VA_tm hA, y1, Option.bind_some]
        · have z1 : cR_calendar (nI q) 0 (nI (m_tm M)) b = some b1 := z1
          rw [eR, if_pos d]
          unfold cR_other_56
          rw [if_pos (show nI k = 0 by rw [d]; rfl), if_pos (nI_idx (by omega) (by decide)), nI_clamp (by omega), VB_ss hB q hq, if_pos (show nI (m_S M q) = (1 : Int32) by rw [d1]; rfl), VB_tm hB, z1, Option.bind_some]
        · have hw := mw_mb hI1 (by simp only [p_mPut]; exact hmb)
          refine ⟨?_, fun y hy hyp => ?_, fun y h1 h2 => ?_, ?_, hw, Or.inr (Or.inr ?_)⟩
          · simp only [p_mPut]
            exact ⟨Nat.le_refl _, trivial, by omega, trivial, by omega, trivial⟩
          · simp only [p_mPut]
            by_cases c1 : y = q
            · rw [c1, up_s]
              exact ⟨⟨trivial, trivial, trivial⟩, Or.inr (Or.inl ⟨by omega, rfl⟩), fun z => by omega⟩
            · rw [up_n c1]
              exact ⟨⟨trivial, trivial, trivial⟩, Or.inl rfl, fun _ => rfl⟩
          · simp only [p_mPut] at h2; omega
          · exact Jv_rows hJ (fun ρ h1 x hx => by
              simp only [p_mPut] at hx
              rw [up_n (by omega)] at hx; exact (mem_rem.mp hx).1)
          · simp only [p_mPut]
            rw [up_n (fun z => hpq z.symm), hT, hL]
            exact ⟨by omega, rfl, hG⟩
      · refine ⟨0, a, a, b, M, eC a M ?_ hA rfl, fw0, ?_, hA, hB, hI, Sy_mono (Sy_Qt (k := 0) hb0 Qt_rf hI) (by omega)⟩
        · rw [if_neg hk1]
          unfold cO_wake
          dsimp only
          rw [if_pos (Nat.lt_of_lt_of_le hq (VA_gm hA).1), VA_ss hA q hq, if_neg (show ¬ nI (m_S M q) = (1 : Int32) from fun z => d1 (nI_inj (b := 1) (by omega) (by decide) z))]
        · rw [eR, if_pos d]
          unfold cR_other_56
          rw [if_pos (show nI k = 0 by rw [d]; rfl), if_pos (nI_idx (by omega) (by decide)), nI_clamp (by omega), VB_ss hB q hq, if_neg (show ¬ nI (m_S M q) = (1 : Int32) from fun z => d1 (nI_inj (b := 1) (by omega) (by decide) z))]
    · have hk1 : k = 1 := by omega
      by_cases d1 : m_S M q = 5 ∨ m_S M q = 6
      · refine ⟨0, a, a, b, M, eC a M ?_ hA rfl, fw0, ?_, hA, hB, hI, Sy_mono (Sy_Qt (k := 0) hb0 Qt_rf hI) (by omega)⟩
        · rw [if_pos hk1]; exact over_yes (w := 0) hA hq d1
        · rw [eR, if_neg d, if_pos d1]
          unfold cR_other_56
          rw [if_neg (nI_ne0 (by omega) (by omega))]
      · obtain ⟨a1, b1, M1, h1, h2, h3, h4, h5, h6⟩ := finish_ok (w := 0) hrm hA hB hI hJ hq (by omega) (by omega)
        have h2 : cR_finish (nI q) 0 b = some b1 := h2
        refine ⟨0, a1, a1, b1, M1, eC a1 M1 ?_ h3 h6.1.1, fw0, ?_, h3, h4, h5, ?_⟩
        · rw [if_pos hk1]; exact h1
        · rw [eR, if_neg d, if_neg d1, h2, Option.bind_some]
        · by_cases c1 : p = q
          · rw [← c1] at h6; exact Sy_Qf hb0 h6 h5
          · exact Sy_Qf2 hb0 h6 c1 (by omega) h5
