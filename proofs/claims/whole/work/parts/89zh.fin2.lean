/-! A PROCESS ENDS: both sides. -/
theorem isOver_no {rm : Nat → Nat} {a : ts} {M : Md} {p : Nat} (hA : VA rm a M) (hp : p < m_N M) (hS : m_S M p ≤ 7 ∧ m_S M p ≠ 5 ∧ m_S M p ≠ 6) : cP_isOver p a = some (0, a) := by
  unfold cP_isOver
  rw [if_pos (Nat.lt_of_lt_of_le hp (VA_gm hA).1), VA_ss hA p hp, if_neg (show ¬ nI (m_S M p) = (5 : Int32) from fun z => hS.2.1 (nI_inj (b := 5) (by omega) (by decide) z)), if_neg (show ¬ nI (m_S M p) = (6 : Int32) from fun z => hS.2.2 (nI_inj (b := 6) (by omega) (by decide) z))]
theorem fin102 {p : Nat} {l4 : Option Nat} {t1 t2 : Int32} {s : ts} : cO_finish_102 p l4 t1 t2 s = (match l4 with | none => cO_finish_122 tm_N p 0 (wI s 906 0 (t1 + t2)) | some q => (cO_serve q none (wI s 906 0 (t1 + t2))).bind (fun x3 => cO_finish_122 tm_N p 0 x3.2)) := by
  unfold cO_finish_102
  cases l4 <;> rfl
theorem fin49 {p w : Nat} {l4 : Option Nat} {s : ts} (hp : p < gM s) (hw : w < 10) : cO_finish_49 p (nI w) l4 s = cO_finish_102 p l4 (gI s 906 0) (if w = 0 then 0 else 1) (wI (wI (wI s 502 p (nI (if w = 0 then 5 else 6))) 504 p (nI w)) 905 0 (gI s 905 0 + (if w = 0 then 1 else 0))) := by
  have e0 : nI w = 0 ↔ w = 0 := ⟨fun z => nI_inj (b := 0) (by omega) (by decide) z, fun z => by rw [z]; rfl⟩
  unfold cO_finish_49 cO_finish_62 cO_finish_84
  by_cases c : w = 0
  · subst c
    cases l4 <;> (dsimp only; rw [if_pos (show nI 0 = 0 from rfl), if_pos hp, if_pos hp]; rfl)
  · have c0 : ¬ nI w = 0 := fun z => c (e0.mp z)
    cases l4 <;> (simp only [if_neg c0, if_neg c, if_pos hp]; rfl)
/-- the program's half: up to the store's service -/
theorem finish_cl {rm : Nat → Nat} {a : ts} {M : Md} {p w : Nat} (hA : VA rm a M) (hI : Inv rm M none) (hp : p < m_N M) (hS : m_S M p ≠ 5 ∧ m_S M p ≠ 6) (hw : w < 10) : ∃ a1, VA rm a1 (mRem (mFin M p w) p) ∧ cO_finish (some p) (nI w) a = (if m_S M p = 3 then (cO_serve (m_W M p) none a1).bind (fun x => cO_finish_122 tm_N p 0 x.2) else cO_finish_122 tm_N p 0 a1) := by
  obtain ⟨a1, y1, y2, y3, y4⟩ := cl_leave hA (Di_of hI) hp
  have hpM : p < gM a := Nat.lt_of_lt_of_le hp (VA_gm hA).1
  have hpM1 : p < gM a1 := by
    have := (VA_gm y2).1
    simp only [p_mRem] at this
    omega
  have h7 := (Inv_co hI p hp).1
  have z := cl_fin (p := p) (w := w) y2
  rw [fin_rem] at z
  simp only [p_mRem] at z
  refine ⟨_, z, ?_⟩
  have e5 : gI a1 905 0 = m_en M := by have := VA_en y2; simp only [p_mRem] at this; exact this
  have e6 : gI a1 906 0 = m_wg M := by have := VA_wg y2; simp only [p_mRem] at this; exact this
  have e2 : gI a1 502 p = nI (m_S M p) := by have := VA_ss y2 p (by simp only [p_mRem]; exact hp); simp only [p_mRem] at this; exact this
  have eA : cO_finish (some p) (nI w) a = cO_finish_26 p (nI w) a1 := by
    have x1 : cO_finish (some p) (nI w) a = (cl_lv p a).bind (fun s => cO_finish_26 p (nI w) s) := by
      unfold cO_finish cl_lv
      dsimp only
      rw [if_pos hpM, isOver_no hA hp ⟨h7, hS⟩, Option.bind_some]
      dsimp only
      rw [if_pos rfl, if_pos hpM]
      cases gR a 507 p with
      | none => rfl
      | some r =>
        dsimp only
        by_cases c : r < 30
        · rw [if_pos c, if_pos c]
        · rw [if_neg c, if_neg c]; rfl
    rw [x1, y1, Option.bind_some]
  rw [eA]
  unfold cO_finish_26
  rw [if_pos hpM1, e2]
  by_cases c : m_S M p = 3
  · have eW : gI a1 511 p = nI (m_W M p) := by
      have := VA_wh y2 p (by simp only [p_mRem]; exact hp) (by simp only [p_mRem]; omega)
      simp only [p_mRem] at this; exact this
    have hW : m_W M p < 14 := by
      obtain ⟨ρ, h1, h2⟩ := (Inv_co hI p hp).2 (by omega)
      rcases (Inv_me hI ρ h1 p h2).2 with z | z
      · cases z
      · unfold SP at z; omega
    rw [if_pos (show nI (m_S M p) = (3 : Int32) by rw [c]; rfl), eW, placeAt_ok hW, Option.bind_some, if_pos c]
    dsimp only
    rw [fin49 hpM1 hw, fin102, e5, e6]
  · rw [if_neg (show ¬ nI (m_S M p) = (3 : Int32) from fun z => c (nI_inj (b := 3) (by omega) (by decide) z)), if_neg c, fin49 hpM1 hw, fin102, e5, e6]
theorem fin22 {p w : Nat} {l3 : Int32} {s : ts} (hp : p < 300) (hw : w < 10) : cR_finish_22 (nI p) (nI w) l3 (nI p) (nI (if w = 0 then 5 else 6)) s = cR_finish_62 (nI p) l3 (gI s 1157 0) (if w = 0 then 0 else 1) (wI (wA (wA s 120 p (nI (if w = 0 then 5 else 6))) 126 p (nI w)) 1156 0 (gI s 1156 0 + (if w = 0 then 1 else 0))) := by
  unfold cR_finish_22 cR_finish_44
  rw [if_pos (nI_idx hp (by decide)), if_pos (nI_idx hp (by decide)), nI_clamp (by omega)]
  by_cases c : w = 0
  · subst c
    rw [if_pos (by decide), if_pos (by decide)]; rfl
  · rw [if_neg (nI_nle (by omega) (by omega)), if_neg (nI_nle (by omega) (by omega)), if_neg c, if_neg c, if_neg c]; rfl
theorem rem_only {R : Nat → List Nat} {p ρ0 : Nat} (h : ∀ ρ, ρ < 30 → p ∈ R ρ → ρ = ρ0) : ∀ ρ, ρ < 30 → rem R p ρ = up R ρ0 (rem R p ρ0) ρ := by
  intro ρ hρ
  by_cases c : ρ = ρ0
  · rw [c, up_s]
  · rw [up_n c]; exact rem_out (fun z => c (h ρ hρ z))
/-- the reference's half -/
theorem finish_rc {rm : Nat → Nat} {b : ts} {M : Md} {p w : Nat} (hB : VB rm b M) (hI : Inv rm M none) (hp : p < m_N M) (hS : m_S M p ≠ 5 ∧ m_S M p ≠ 6) (hw : w < 10) : ∃ b1, VB rm b1 (mRem (mFin M p w) p) ∧ cR_finish (nI p) (nI w) b = (if m_S M p = 3 then (cR_serveStore (nI (m_W M p - 8)) b1).bind (fun s => cR_finish_144 tm_N (nI p) 0 s) else cR_finish_144 tm_N (nI p) 0 b1) := by
  have hN := (Inv_N hI).1
  have h7 := (Inv_co hI p hp).1
  have z := rc_fin (p := p) (w := w) hB
  generalize hb0 : wI (wI (wA (wA b 120 p (nI (if w = 0 then 5 else 6))) 126 p (nI w)) 1156 0 (m_en M + (if w = 0 then 1 else 0))) 1157 0 (m_wg M + (if w = 0 then 0 else 1)) = b0 at z
  have e1 : cR_finish (nI p) (nI w) b = cR_finish_22 (nI p) (nI w) (nI (m_S M p)) (nI p) (nI (if w = 0 then 5 else 6)) b := by
    unfold cR_finish
    rw [if_pos (nI_idx (by omega) (by decide)), nI_clamp (by omega), VB_ss hB p hp]
    by_cases c : w = 0
    · subst c; rw [if_pos (by decide)]; rfl
    · rw [if_neg (nI_nle (by omega) (by omega)), if_neg c]; rfl
  have e2 : cR_finish (nI p) (nI w) b = cR_finish_62 (nI p) (nI (m_S M p)) (m_wg M) (if w = 0 then 0 else 1) (wI (wA (wA b 120 p (nI (if w = 0 then 5 else 6))) 126 p (nI w)) 1156 0 (m_en M + (if w = 0 then 1 else 0))) := by
    rw [e1, fin22 (by omega) hw, VB_wg hB, VB_en hB]
  rw [e2]
  unfold cR_finish_62
  rw [hb0]
  have kR : m_R (mFin M p w) = m_R M := by simp only [p_mFin]
  have kN : m_N (mFin M p w) = m_N M := by simp only [p_mFin]
  have hmm : Mm (mFin M p w) := by unfold Mm; simp only [p_mFin]; exact Mm_of hI
  have hdi : ∀ ρ ρ1, ρ < 30 → ρ1 < 30 → p ∈ m_R M ρ → p ∈ m_R M ρ1 → ρ = ρ1 := fun ρ ρ1 h1 h2 => Inv_di hI ρ ρ1 p h1 h2
  have hno : ∀ k, ¬ m_S M p = k → k < 8 → ¬ nI (m_S M p) = nI k := fun k h h8 z => h (nI_inj (by omega) (by omega) z)
  by_cases c2 : m_S M p = 2
  · obtain ⟨ρ, h1, h2⟩ := (Inv_co hI p hp).2 (by omega)
    have hsp : ρ < 8 ∧ m_W M p = ρ := by
      rcases (Inv_me hI ρ h1 p h2).2 with y | y
      · cases y
      · unfold SP at y; omega
    have hW : gA b0 125 p = nI ρ := by
      have := VB_wh hB p hp (Or.inl c2)
      rw [← hb0, ← hsp.2]; exact this
    obtain ⟨b1, y1, y2, _⟩ := rc_leave z (by rw [kN]; exact hN) hmm (by rw [kN]; exact hp) (ρ := ρ) (by omega)
    refine ⟨b1, ?_, ?_⟩
    · unfold mRem
      refine rc_R y2 (fun ρ1 hρ1 => ?_)
      exact rem_only (fun ρ2 h3 h4 => hdi ρ2 ρ h3 h1 (kR ▸ h4) h2) ρ1 hρ1
    · rw [if_pos (show nI (m_S M p) = (2 : Int32) by rw [c2]; rfl), if_pos (nI_idx (by omega) (by decide)), nI_clamp (by omega), hW, y1, Option.bind_some, if_neg (by omega)]
  · rw [if_neg (show ¬ nI (m_S M p) = (2 : Int32) from hno 2 c2 (by omega))]
    by_cases c3 : m_S M p = 3
    · obtain ⟨ρ, h1, h2⟩ := (Inv_co hI p hp).2 (by omega)
      have hsp : (ρ = m_W M p ∨ ρ = 14 + m_W M p) ∧ 8 ≤ m_W M p ∧ m_W M p < 14 := by
        rcases (Inv_me hI ρ h1 p h2).2 with y | y
        · cases y
        · unfold SP at y; omega
      have hW : gA b0 125 p = nI (m_W M p) := by
        have := VB_wh hB p hp (Or.inr c3)
        rw [← hb0]; exact this
      obtain ⟨b1, y1, y2, y3⟩ := rc_leave z (by rw [kN]; exact hN) hmm (by rw [kN]; exact hp) (ρ := m_W M p) (by omega)
      have hmm1 : Mm (s_R (mFin M p w) (up (m_R (mFin M p w)) (m_W M p) (rem (m_R (mFin M p w)) p (m_W M p)))) := by
        unfold Mm
        simp only [k_R]
        intro ρ1 h3 x hx
        by_cases c : ρ1 = m_W M p
        · rw [c, up_s] at hx; exact hmm _ (by omega) x (mem_rem.mp hx).1
        · rw [up_n c] at hx; exact hmm ρ1 h3 x hx
      obtain ⟨b2, y4, y5, y6⟩ := rc_leave y2 (by simp only [k_R]; rw [kN]; exact hN) hmm1 (p := p) (by simp only [k_R]; rw [kN]; exact hp) (ρ := 14 + m_W M p) (by omega)
      have hW1 : gA b1 125 p = nI (m_W M p) := y3.trans hW
      have hW2 : gA b2 125 p = nI (m_W M p) := y6.trans hW1
      refine ⟨b2, ?_, ?_⟩
      · unfold mRem
        have y7 : VB rm b2 (s_R (mFin M p w) (up (up (m_R (mFin M p w)) (m_W M p) (rem (m_R (mFin M p w)) p (m_W M p))) (14 + m_W M p) (rem (up (m_R (mFin M p w)) (m_W M p) (rem (m_R (mFin M p w)) p (m_W M p))) p (14 + m_W M p)))) := by
          have e : ∀ (N : Md) (r1 r2 : Nat → List Nat), s_R (s_R N r1) r2 = s_R N r2 := fun _ _ _ => by
            refine Md_ext ?_ ?_ ?_ ?_ ?_ ?_ ?_ ?_ ?_ ?_ ?_ ?_ ?_ ?_ ?_ ?_ ?_ ?_ ?_ ?_ ?_ ?_ ?_ ?_ ?_ ?_ ?_ ?_ ?_ ?_ ?_ ?_ ?_ ?_ <;> simp only [k_R]
          simp only [k_R] at y5
          rw [e] at y5
          exact y5
        refine rc_R y7 (fun ρ1 hρ1 => ?_)
        rw [kR]
        by_cases c : ρ1 = 14 + m_W M p
        · rw [c, up_s]
          unfold rem
          rw [up_n (show ¬ 14 + m_W M p = m_W M p by omega)]
        · rw [up_n c]
          by_cases c' : ρ1 = m_W M p
          · rw [c', up_s]
          · rw [up_n c']
            exact rem_out (fun y => by have := hdi ρ1 ρ hρ1 h1 y h2; omega)
      · rw [if_pos (show nI (m_S M p) = (3 : Int32) by rw [c3]; rfl), if_pos (nI_idx (by omega) (by decide)), nI_clamp (by omega), hW, y1, Option.bind_some, hW1, show (14 : Int32) + nI (m_W M p) = nI (14 + m_W M p) from nI_add 14 _, y4, Option.bind_some, hW2, show nI (m_W M p) - (8 : Int32) = nI (m_W M p - 8) from pk_sub (b := 8) hsp.2.1, if_pos c3]
    · rw [if_neg (show ¬ nI (m_S M p) = (3 : Int32) from hno 3 c3 (by omega))]
      by_cases c4 : m_S M p = 4
      · have hr : ∀ ρ, ρ < 28 → p ∉ m_R (mFin M p w) ρ := fun ρ h1 h2 => by
          rw [kR] at h2
          rcases (Inv_me hI ρ (by omega) p h2).2 with y | y
          · cases y
          · unfold SP at y; omega
        obtain ⟨b1, y1, y2⟩ := rc_leaveA z (by rw [kN]; exact hN) hmm (by rw [kN]; exact hp) hr
        exact ⟨b1, y2, by rw [if_pos (show nI (m_S M p) = (4 : Int32) by rw [c4]; rfl), y1, Option.bind_some, if_neg c3]⟩
      · refine ⟨b0, rc_rem z (fun ρ h1 h2 h3 => ?_), by rw [if_neg (show ¬ nI (m_S M p) = (4 : Int32) from hno 4 c4 (by omega)), if_neg c3]⟩
        rw [kR] at h3
        rcases (Inv_me hI ρ h1 p h3).2 with y | y
        · cases y
        · unfold SP at y; omega
/-- what a process's end leaves of the rest -/
def Qf (k p : Nat) (M M1 : Md) : Prop := (m_N M1 = m_N M ∧ m_T M1 = m_T M ∧ m_Lr M1 = m_Lr M ∧ m_D M1 = m_D M ∧ m_tm M1 = m_tm M ∧ m_tc M1 = m_tc M ∧ m_am M1 = m_am M ∧ m_mw M1 = m_mw M ∧ m_mb M1 = m_mb M) ∧ m_P M1 ≤ m_P M + k ∧ (m_S M1 p = 5 ∨ m_S M1 p = 6) ∧ (∀ y, y < m_N M → ¬ y = p → m_S M1 y = m_S M y ∨ (2 ≤ m_S M y ∧ m_S M y ≤ 3 ∧ m_S M1 y = 0)) ∧ m_R M1 29 = rem (m_R M) p 29 ∧ ∀ ρ, ρ < 28 → ∀ x, x ∈ m_R M1 ρ → x ∈ m_R M ρ
theorem finish_ok {rm : Nat → Nat} {a b : ts} {M : Md} {p w : Nat} (hrm : RMk rm) (hA : VA rm a M) (hB : VB rm b M) (hI : Inv rm M none) (hJ : Jv rm M) (hp : p < m_N M) (hS : m_S M p ≠ 5 ∧ m_S M p ≠ 6) (hw : w < 10) : ∃ a1 b1 M1, cO_finish (some p) (nI w) a = some a1 ∧ cR_finish (nI p) (nI w) b = some b1 ∧ VA rm a1 M1 ∧ VB rm b1 M1 ∧ Inv rm M1 none ∧ Qf 8300 p M M1 := by
  obtain ⟨a1, x1, x2⟩ := finish_cl hA hI hp hS hw
  obtain ⟨b1, y1, y2⟩ := finish_rc hB hI hp hS hw
  have hI1 := Inv_fin (p := p) (w := w) hI
  have hQ : ∀ k M2, Qt k (mRem (mFin M p w) p) M2 → k ≤ 8300 → Qf 8300 p M M2 := by
    intro k M2 h hk
    unfold Qt at h
    simp only [p_mRem, p_mFin] at h
    obtain ⟨h1, h2, h3, h4, h5⟩ := h
    refine ⟨h1, by omega, ?_, fun y hy hyp => ?_, h4, fun ρ h6 x hx => (mem_rem.mp (h5 ρ h6 x hx)).1⟩
    · have := h3 p hp
      rw [up_s] at this
      split at this <;> omega
    · have := h3 y hy
      rw [up_n hyp] at this; exact this
  have hS1 : 5 ≤ m_S (mRem (mFin M p w) p) p := by
    simp only [p_mRem, p_mFin]
    rw [up_s]; split <;> omega
  have ht : 8 < tm_N := by unfold tm_N; omega
  by_cases c : m_S M p = 3
  · rw [if_pos c] at x2 y2
    have hsp : 8 ≤ m_W M p ∧ m_W M p < 14 ∧ m_W M p < 8 + rm 15 := by
      obtain ⟨ρ, h1, h2⟩ := (Inv_co hI p hp).2 (by omega)
      rcases (Inv_me hI ρ h1 p h2).2 with y | y
      · cases y
      · unfold SP at y
        refine ⟨by omega, by omega, ?_⟩
        by_cases d : m_W M p < 8 + rm 15
        · exact d
        · have hj := hJ (m_W M p) (by omega) (by omega)
          have e : ρ = m_W M p ∨ ρ = 14 + m_W M p := by omega
          rcases e with e | e
          · rw [e, hj.1] at h2; cases h2
          · rw [e, hj.2] at h2; cases h2
    obtain ⟨l, a2, b2, M2, s1, s2, s3, s4, s5, s6, s7, s8⟩ := serve_ok (s := m_W M p - 8) (q := m_W M p) (o := none) (by omega) (by omega) (by omega) x1 y1 hI1 (fun _ z => by cases z) (fun _ z => by cases z)
    have hS2 : 5 ≤ m_S M2 p := by
      have := s6.2.2.1 p (by simp only [p_mRem, p_mFin]; exact hp)
      omega
    obtain ⟨a3, b3, M3, u1, u2, u3, u4, u5, u6⟩ := units_lp hrm (p := p) 8 0 tm_N tm_N M2 a2 b2 (by omega) ht ht s3 s4 s5 (by rw [s6.1.1]; simp only [p_mRem, p_mFin]; exact hp) hS2
    refine ⟨a3, b3, M3, ?_, ?_, u3, u4, u5, hQ _ _ (Qt_tr s6 u6) (by omega)⟩
    · rw [x2, s1, Option.bind_some]; exact u1
    · rw [y2, s2, Option.bind_some]; exact u2
  · rw [if_neg c] at x2 y2
    obtain ⟨a3, b3, M3, u1, u2, u3, u4, u5, u6⟩ := units_lp hrm (p := p) 8 0 tm_N tm_N _ a1 b1 (by omega) ht ht x1 y1 hI1 (by simp only [p_mRem, p_mFin]; exact hp) hS1
    exact ⟨a3, b3, M3, by rw [x2]; exact u1, by rw [y2]; exact u2, u3, u4, u5, hQ _ _ u6 (by omega)⟩
