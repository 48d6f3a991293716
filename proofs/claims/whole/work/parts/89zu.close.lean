/-! A TURN CLOSES: those that await are looked at. -/
def LK (G : List Ln) (s t l : Nat) : Prop := (s ≤ 3 → t = l ∧ l < G.length) ∧ (s = 4 → t = l + 1 ∧ l + 1 < G.length ∧ ∃ n, G[l]? = some n ∧ n.1 = 525) ∧ (s = 7 → t = l ∧ ∃ n, G[l]? = some n ∧ n.1 ≠ 2 ∧ n.1 ≠ 3)
def CW (rm : Nat → Nat) (G : List Ln) (nd : Nat) (M : Md) : Prop := Inv rm M none ∧ Jv rm M ∧ (∀ q, q < 14 → m_mw M q = m_mb M q) ∧ (∀ p, p < m_N M → m_D M p < nd ∧ LK G (m_S M p) (m_T M p) (m_Lr M p)) ∧ m_am M = none
def Qc (k : Nat) (M M1 : Md) : Prop := m_N M1 = m_N M ∧ m_tm M1 = m_tm M ∧ m_tc M1 = m_tc M ∧ m_P M1 ≤ m_P M + k ∧ ∀ y, y < m_N M → (m_S M y = 5 ∨ m_S M y = 6) → m_S M1 y = m_S M y
theorem Qc_tr {k j : Nat} {M M1 M2 : Md} (h : Qc k M M1) (g : Qc j M1 M2) : Qc (k + j) M M2 := by
  obtain ⟨a1, a2, a3, a4, a5⟩ := h
  obtain ⟨b1, b2, b3, b4, b5⟩ := g
  exact ⟨b1.trans a1, b2.trans a2, b3.trans a3, by omega, fun y hy h5 => by rw [b5 y (by omega) (by rw [a5 y hy h5]; exact h5), a5 y hy h5]⟩
theorem Qc_mono {k j : Nat} {M M1 : Md} (h : Qc k M M1) (hk : k ≤ j) : Qc j M M1 := ⟨h.1, h.2.1, h.2.2.1, by have := h.2.2.2.1; omega, h.2.2.2.2⟩
def cb (x : Nat) (s : ts) : Option ts := (cW_reckon ((gI s 503 x) - ((1 : Int32))) x s).bind (fun x6 => (if x6.1 = ((0 : Int32)) then (cW_result ((0 : Int32)) x6.2).bind (fun x9 => (if x9.1 = ((0 : Int32)) then some x9.2 else cO_putInCalendar x ((0 : Int32)) (gI x9.2 800 0) x9.2)) else cO_finish (some x) x6.1 x6.2))
theorem close26 {F x : Nat} {s : ts} (hx : x < gM s) : cH_closeTurn_26 (F + 1) (some x) s = (cb x s).bind (fun s1 => cH_closeTurn_26 F (gR s 509 x) s1) := by
  rw [cH_closeTurn_26.eq_2]
  unfold cH_closeTurn_26_b cb
  dsimp only
  rw [if_pos hx]
  cases gR s 509 x with
  | none =>
    dsimp only
    rw [Option.bind_assoc]
    refine congrArg _ (funext fun x6 => ?_)
    by_cases c : x6.1 = 0
    · rw [if_pos c, if_pos c, Option.bind_assoc]
      refine congrArg _ (funext fun x9 => ?_)
      by_cases d : x9.1 = 0
      · rw [if_pos d, if_pos d]; rfl
      · rw [if_neg d, if_neg d]
    · rw [if_neg c, if_neg c]
  | some r =>
    dsimp only
    rw [Option.bind_assoc]
    refine congrArg _ (funext fun x6 => ?_)
    by_cases c : x6.1 = 0
    · rw [if_pos c, if_pos c, Option.bind_assoc]
      refine congrArg _ (funext fun x9 => ?_)
      by_cases d : x9.1 = 0
      · rw [if_pos d, if_pos d]; rfl
      · rw [if_neg d, if_neg d]
    · rw [if_neg c, if_neg c]
theorem Inv_Lr {rm : Nat → Nat} {M : Md} {o : Option Nat} {p l : Nat} (h : Inv rm M o) : Inv rm (mLr M p l) o := by
  unfold Inv at h ⊢
  simp only [p_mLr]
  exact h
theorem CW_Sd {rm : Nat → Nat} {G : List Ln} {nd : Nat} {v : Int32} {M : Md} (h : CW rm G nd M) : CW rm G nd (mSd M v) := by
  unfold CW Inv Jv at h ⊢
  simp only [p_mSd]
  exact h
theorem Qc_Sd {k : Nat} {v : Int32} {M M1 : Md} (h : Qc k (mSd M v) M1) : Qc k M M1 := by
  unfold Qc at h ⊢
  simp only [p_mSd] at h
  exact h
theorem lr_rem {M : Md} {x l : Nat} {t : Int32} : mPt (mJn (mSt (mLr (mRem M x) x l) x 0) 28 x t) x = mPut (mLr M x l) x 0 t := by
  refine Md_ext ?_ ?_ ?_ ?_ ?_ ?_ ?_ ?_ ?_ ?_ ?_ ?_ ?_ ?_ ?_ ?_ ?_ ?_ ?_ ?_ ?_ ?_ ?_ ?_ ?_ ?_ ?_ ?_ ?_ ?_ ?_ ?_ ?_ ?_ <;> simp only [p_mPt, p_mJn, p_mSt, p_mLr, p_mRem, p_mPut]
def wEb : List Nat := [1156, 1157, 1158, 1185, 1188, 2120, 2121, 2122, 2124, 2126, 2128, 2129, 2130, 2131, 2136, 2137, 2138, 2139, 2140, 3123, 3135, 5160]
/-- one that awaits -/
theorem await_step {rm pm en vc un rm0 : Nat → Nat} {L : Nat → List Int64} {G : List Ln} {τ : Nat → Int32} {K K' x : Nat} {a b : ts} {M : Md} {D T : List Nat} (hE : Evp a b L pm en vc un rm0 G τ K K' rm) (hC : CW rm G (L 3).length M) (hA : VA rm a M) (hB : VB rm b M) (hR : m_R M 29 = D ++ x :: T) : ∃ a1 b1 M1, cb x a = some a1 ∧ (∀ kk l1 l2, (if am_idx (gA b 121 x) 900 = true then (cR_reckon (gA b 101 (gA b 121 x).toNatClampNeg) (nI x) b).bind (fun x6 => cR_endTurn_90 kk l1 l2 (nI x) x6.1 x6.2) else none) = kk l1 (l2 + 1) b1) ∧ VA rm a1 M1 ∧ VB rm b1 M1 ∧ CW rm G (L 3).length M1 ∧ (m_R M1 29 = D ++ x :: T ∨ m_R M1 29 = D ++ T) ∧ Qc 8300 M M1 ∧ fr wf_cH_closeTurn a a1 ∧ fr wEb b b1 := by
  have hC0 := hC
  obtain ⟨hI, hJ, hmb, hLn, ham⟩ := hC
  have hrm := hE.2.2.2.1
  have hN := (Inv_N hI).1
  have hx29 : x ∈ m_R M 29 := by rw [hR]; exact List.mem_append.mpr (Or.inr List.mem_cons_self)
  have hme := Inv_me hI 29 (by omega) x hx29
  have hx := hme.1
  have hS : m_S M x = 4 := by
    rcases hme.2 with z | z
    · cases z
    · unfold SP at z; omega
  obtain ⟨hT, hG, n, hn, hk⟩ := (hLn x hx).2.2.1 hS
  generalize hld : m_Lr M x = l at hT hG hn
  have hl := getE_lt hn
  obtain ⟨⟨g1, g2, g3⟩, gn, gl, gd, _⟩ := hE.1
  obtain ⟨⟨r1, r2⟩, _, rl, rd, _⟩ := hE.2.1
  obtain ⟨k22, k23, f, k24, k25, kK, kO⟩ := gl l n hn
  have hX1 : ∃ F, n.2.2.1 = [F] ∧ Wt 103 F ∧ XB b K' (gA b 101 l) F := by
    rcases (rl l n hn).1 with h | h | h | h | h | h | h | h | h
    · exact absurd h.1 (by omega)
    · exact absurd h.1 (by omega)
    · exact absurd h.1 (by omega)
    · exact h.2.2
    · exact absurd h.1 (by omega)
    · exact absurd h.1 (by omega)
    · exact absurd h.1 (by omega)
    · exact absurd h.1 (by omega)
    · exact absurd h.1 (by omega)
  obtain ⟨F, x1, x2, e, z1, z2, z3⟩ := hX1
  have ef : n.2.2.1.flatten = F := by rw [x1]; simp
  rw [ef] at k25 kK kO
  obtain ⟨w, u, a', b', y1, y2, y3, y4, y5, y6, y7, y8⟩ := reckon1 x2 (EVR_of hA hB hx hN) g1 hl g2 k24 k25 (by omega) kO z3 (by omega)
  have zA : VA rm a' (mSd M (gI b' 1158 0)) := cl_Sd hA y6 y8
  have zB : VB rm b' (mSd M (gI b' 1158 0)) := rc_Sd hB y7 rfl
  have zC := CW_Sd (v := gI b' 1158 0) hC0
  have eA : cb x a = (if nI w = ((0 : Int32)) then (cW_result ((0 : Int32)) a').bind (fun x9 => (if x9.1 = ((0 : Int32)) then some x9.2 else cO_putInCalendar x ((0 : Int32)) (gI x9.2 800 0) x9.2)) else cO_finish (some x) (nI w) a') := by
    unfold cb
    rw [VA_at hA x hx, hT, show nI (l + 1) - (1 : Int32) = nI l from nI_pred l, y2, Option.bind_some]
  have eB : ∀ (kk : Int32 → Int32 → ts → Option ts) l1 l2, (if am_idx (gA b 121 x) 900 = true then (cR_reckon (gA b 101 (gA b 121 x).toNatClampNeg) (nI x) b).bind (fun x6 => cR_endTurn_90 kk l1 l2 (nI x) x6.1 x6.2) else none) = cR_endTurn_90 kk l1 l2 (nI x) u b' := fun kk l1 l2 => by
    rw [VB_at hB x hx, hld, if_pos (nI_idx (by omega) (by decide)), nI_clamp (by omega), z1, y3, Option.bind_some]
  have hS' : gA b' 120 x = nI 4 := by
    have := VB_ss zB x (by simp only [p_mSd]; exact hx)
    simp only [p_mSd] at this
    rw [this, hS]
  have hrem : rem (m_R M) x 29 = D ++ T := rem_mid hR (Inv_nd hI 29 (by omega))
  have kR : m_R (mSd M (gI b' 1158 0)) = m_R M := by simp only [p_mSd]
  have kN : m_N (mSd M (gI b' 1158 0)) = m_N M := by simp only [p_mSd]
  have kT : m_T (mSd M (gI b' 1158 0)) = m_T M := by simp only [p_mSd]
  have kL : m_Lr (mSd M (gI b' 1158 0)) = m_Lr M := by simp only [p_mSd]
  have ktm : m_tm (mSd M (gI b' 1158 0)) = m_tm M := by simp only [p_mSd]
  have kS : m_S (mSd M (gI b' 1158 0)) = m_S M := by simp only [p_mSd]
  have fA : fr wf_cH_closeTurn a a' := fr_mono (by decide) y6
  have fB : fr wEb b b' := fr_mono (by decide) y7
  generalize hM' : mSd M (gI b' 1158 0) = M' at zA zB zC kR kN kT kL ktm kS
  have hQ : ∀ k M1, Qc k M' M1 → Qc k M M1 := fun k M1 h => by rw [← hM'] at h; exact Qc_Sd h
  by_cases cw : w = 0
  · subst cw
    have hy := y5 rfl
    have e90 : ∀ (kk : Int32 → Int32 → ts → Option ts) l1 l2, cR_endTurn_90 kk l1 l2 (nI x) u b' = (if u = ((0 : Int32)) then kk l1 (l2 + (1 : Int32)) b' else (cR_leaveAwaits (nI x) b').bind (fun s3 => (cR_calendar (nI x) ((0 : Int32)) (gI (wA s3 121 x ((gA s3 121 x) + ((1 : Int32)))) 1152 0) (wA s3 121 x ((gA s3 121 x) + ((1 : Int32))))).bind (fun s6 => kk l1 (l2 + (1 : Int32)) s6))) := fun kk l1 l2 => by
      unfold cR_endTurn_90 cR_endTurn_121
      rw [if_pos (nI_idx (by omega) (by decide)), nI_clamp (by omega), hS', if_pos (by decide), y4, if_pos (by decide), if_pos (nI_idx (by omega) (by decide)), if_pos (by decide)]
    by_cases cu : u = 0
    · refine ⟨a', b', M', ?_, fun kk l1 l2 => ?_, zA, zB, zC, Or.inl (by rw [kR]; exact hR), hQ _ _ ⟨rfl, rfl, rfl, by omega, fun _ _ _ => rfl⟩, fA, fB⟩
      · rw [eA, if_pos (by decide), result0 hy.1, Option.bind_some]
        dsimp only
        rw [hy.2, if_pos cu]
      · rw [eB, e90, if_pos cu]
    · have hr28 : ∀ ρ, ρ < 28 → x ∉ m_R M' ρ := fun ρ h1 h2 => by
        rw [kR] at h2
        have := Inv_di hI ρ 29 x (by omega) (by omega) h2 hx29
        omega
      have hI' := zC.1
      have zL := cl_Lr (p := x) (l := l + 1) zA
      obtain ⟨a1, v1, v2⟩ := cl_put (s := 0) (t := nI (m_tm M)) zL (by unfold Di; simp only [p_mLr]; exact Inv_di hI') (by unfold Mm; simp only [p_mLr]; exact Mm_of hI') (p := x) (by simp only [p_mLr]; rw [kN]; exact hx) (by omega)
      obtain ⟨b1, u1, u2⟩ := rc_leaveA zB (by rw [kN]; exact hN) (Mm_of hI') (by rw [kN]; exact hx) hr28
      have u3 := rc_Lr (p := x) (l := l + 1) u2
      obtain ⟨b2, t1, t2⟩ := rc_cal (p := x) (s := 0) (t := nI (m_tm M)) u3 (by simp only [p_mLr, p_mRem]; rw [kN]; exact hN) (by simp only [p_mLr, p_mRem]; rw [kN]; exact hx) (fun ρ h1 h2 => by simp only [p_mLr, p_mRem] at h2; exact (mem_rem.mp h2).2 rfl) (by omega)
      rw [lr_rem] at t2
      have hI1 := Inv_put (s := 0) (t := m_tm M) (Inv_Lr (p := x) (l := l + 1) hI') (p := x) (by simp only [p_mLr]; rw [kN]; exact hx) (fun z => by cases z) (by omega) (by simp only [p_mLr]; rw [ktm]; exact ⟨Nat.le_refl _, (Inv_N hI).2⟩)
      have v1 : cO_putInCalendar x 0 (nI (m_tm M)) a' = some a1 := v1
      have t1 : cR_calendar (nI x) 0 (nI (m_tm M)) (wA b1 121 x (nI (l + 1))) = some b2 := t1
      refine ⟨a1, b2, _, ?_, fun kk l1 l2 => ?_, v2, t2, ?_, Or.inr ?_, hQ _ _ ?_, ?_, ?_⟩
      · rw [eA, if_pos (by decide), result0 hy.1, Option.bind_some]
        dsimp only
        rw [hy.2, if_neg cu, VA_tm zA, ktm]; exact v1
      · have e1 : gA b1 121 x = nI l := by
          have := VB_at u2 x (by simp only [p_mRem]; rw [kN]; exact hx)
          simp only [p_mRem] at this
          rw [this, kL, hld]
        have e2 : gI (wA b1 121 x (nI (l + 1))) 1152 0 = nI (m_tm M) := by
          have := VB_tm u2
          simp only [p_mRem] at this
          rw [ktm] at this
          exact this
        rw [eB, e90, if_neg cu, u1, Option.bind_some, e1, nI_1, e2, t1, Option.bind_some]
      · refine ⟨hI1, ?_, ?_, fun y hy => ?_, ?_⟩
        · exact Jv_rows zC.2.1 (fun ρ h1 y hy => by
            simp only [p_mPut, p_mLr] at hy
            rw [up_n (by omega)] at hy; exact (mem_rem.mp hy).1)
        · simp only [p_mPut, p_mLr]; exact zC.2.2.1
        · simp only [p_mPut, p_mLr] at hy ⊢
          have h0 := zC.2.2.2.1 y hy
          refine ⟨h0.1, ?_⟩
          by_cases c : y = x
          · rw [c, up_s, up_s, kT, hT]
            exact ⟨fun _ => ⟨rfl, hG⟩, fun z => absurd z (by omega), fun z => absurd z (by omega)⟩
          · rw [up_n c, up_n c]; exact h0.2
        · simp only [p_mPut, p_mLr]; exact zC.2.2.2.2
      · simp only [p_mPut, p_mLr]
        rw [up_n (by decide), kR]; exact hrem
      · refine ⟨by simp only [p_mPut, p_mLr], by simp only [p_mPut, p_mLr], by simp only [p_mPut, p_mLr], by simp only [p_mPut, p_mLr]; omega, fun y hy h5 => ?_⟩
        simp only [p_mPut, p_mLr]
        rw [up_n (fun z => by rw [z, kS, hS] at h5; omega)]
      · exact fr_tr fA (fr_mono (by decide) (cO_putInCalendar_fr _ _ _ _ _ v1))
      · exact fr_tr (fr_wA (fr_tr fB (fr_mono (by decide) (cR_leaveAwaits_fr _ _ _ u1))) (by decide)) (fr_mono (by decide) (cR_calendar_fr _ _ _ _ _ t1))
  · have e90 : ∀ (kk : Int32 → Int32 → ts → Option ts) l1 l2, cR_endTurn_90 kk l1 l2 (nI x) u b' = (cR_finish (nI x) (nI w) b').bind (fun s3 => kk l1 (l2 + (1 : Int32)) s3) := fun kk l1 l2 => by
      unfold cR_endTurn_90
      rw [if_pos (nI_idx (by omega) (by decide)), nI_clamp (by omega), hS', if_pos (by decide), y4, if_neg (nI_nle (by omega) (by omega))]
    obtain ⟨a1, b1, M1, s1, s2, s3, s4, s5, s6⟩ := finish_ok hrm zA zB zC.1 zC.2.1 (p := x) (w := w) (by rw [kN]; exact hx) (by rw [kS]; omega) y1
    obtain ⟨⟨q1, q2, q3, q4, q5, q6, q7, q8, q9⟩, qP, qx, qS, q29, qR⟩ := s6
    refine ⟨a1, b1, M1, ?_, fun kk l1 l2 => ?_, s3, s4, ?_, Or.inr ?_, hQ _ _ ?_, fr_tr fA (fr_mono (by decide) (cO_finish_fr _ _ _ _ s1)), fr_tr fB (fr_mono (by decide) (cR_finish_fr _ _ _ _ s2))⟩
    · rw [eA, if_neg (nI_ne0 (by omega) (by omega))]; exact s1
    · rw [eB, e90, s2, Option.bind_some]
    · refine ⟨s5, Jv_rows zC.2.1 qR, fun q hq => by rw [q8, q9]; exact zC.2.2.1 q hq, fun y hy => ?_, by rw [q7]; exact zC.2.2.2.2⟩
      have h0 := zC.2.2.2.1 y (by rw [← q1]; exact hy)
      rw [q4, q2, q3]
      refine ⟨h0.1, ?_⟩
      by_cases c : y = x
      · rw [c]
        exact ⟨fun z => absurd z (by omega), fun z => absurd z (by omega), fun z => absurd z (by omega)⟩
      · rcases qS y (by rw [← q1]; exact hy) c with z | ⟨z1, z2, z3⟩
        · rw [z]; exact h0.2
        · rw [z3]
          exact ⟨fun _ => h0.2.1 (by omega), fun z => absurd z (by omega), fun z => absurd z (by omega)⟩
    · rw [q29, kR]; exact hrem
    · refine ⟨q1, q5, q6, qP, fun y hy h5 => ?_⟩
      have c : ¬ y = x := fun z => by rw [z, kS, hS] at h5; omega
      rcases qS y hy c with z | ⟨z1, z2, z3⟩
      · exact z
      · omega
