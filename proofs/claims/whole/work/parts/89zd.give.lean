/-! A UNIT goes back, to the first one that waits. -/
theorem Md_ext {M M1 : Md} (h0 : m_N M = m_N M1) (h1 : m_S M = m_S M1) (h2 : m_W M = m_W M1) (h3 : m_T M = m_T M1) (h4 : m_Lr M = m_Lr M1) (h5 : m_D M = m_D M1) (h6 : m_U M = m_U M1) (h7 : m_R M = m_R M1) (h8 : m_K M = m_K M1) (h9 : m_A M = m_A M1) (h10 : m_Zs M = m_Zs M1) (h11 : m_Xw M = m_Xw M1) (h12 : m_V M = m_V M1) (h13 : m_nu M = m_nu M1) (h14 : m_th M = m_th M1) (h15 : m_sv M = m_sv M1) (h16 : m_lt M = m_lt M1) (h17 : m_mw M = m_mw M1) (h18 : m_mb M = m_mb M1) (h19 : m_s0 M = m_s0 M1) (h20 : m_s1 M = m_s1 M1) (h21 : m_s2 M = m_s2 M1) (h22 : m_tm M = m_tm M1) (h23 : m_tc M = m_tc M1) (h24 : m_P M = m_P M1) (h25 : m_pa M = m_pa M1) (h26 : m_sd M = m_sd M1) (h27 : m_st M = m_st M1) (h28 : m_tn M = m_tn M1) (h29 : m_en M = m_en M1) (h30 : m_wg M = m_wg M1) (h31 : m_tt M = m_tt M1) (h32 : m_tv M = m_tv M1) (h33 : m_am M = m_am M1) : M = M1 :=
  Prod.ext h0 (Prod.ext h1 (Prod.ext h2 (Prod.ext h3 (Prod.ext h4 (Prod.ext h5 (Prod.ext h6 (Prod.ext h7 (Prod.ext h8 (Prod.ext h9 (Prod.ext h10 (Prod.ext h11 (Prod.ext h12 (Prod.ext h13 (Prod.ext h14 (Prod.ext h15 (Prod.ext h16 (Prod.ext h17 (Prod.ext h18 (Prod.ext h19 (Prod.ext h20 (Prod.ext h21 (Prod.ext h22 (Prod.ext h23 (Prod.ext h24 (Prod.ext h25 (Prod.ext h26 (Prod.ext h27 (Prod.ext h28 (Prod.ext h29 (Prod.ext h30 (Prod.ext h31 (Prod.ext h32 (h33)))))))))))))))))))))))))))))))))
theorem placeAt_ok {q : Nat} {a : ts} (hq : q < 14) : cW_placeAt (nI q) a = some (some q, a) := by
  unfold cW_placeAt
  rw [if_neg (nI_pos (by omega)), if_neg (show ¬ (14 : Int32) ≤ nI q from nI_ge (b := 14) hq (by decide)), if_pos (nI_idx hq (by decide)), nI_clamp (by omega)]
theorem rem_rem {R : Nat → List Nat} {p : Nat} : rem (rem R p) p = rem R p := by
  funext ρ
  exact rem_out (fun z => (mem_rem.mp z).2 rfl)
theorem up_up {α : Type} {f : Nat → α} {i : Nat} {v w : α} : up (up f i v) i w = up f i w := by
  funext j
  by_cases c : j = i
  · rw [c, up_s, up_s]
  · rw [up_n c, up_n c, up_n c]
theorem up_id {α : Type} {f : Nat → α} {i : Nat} {v : α} (h : f i = v) : up f i v = f := by
  funext j
  by_cases c : j = i
  · rw [c, up_s, h]
  · rw [up_n c]
theorem Inv_late {rm : Nat → Nat} {M : Md} {o : Option Nat} {q : Nat} {z : Int64} (h : Inv rm M o) : Inv rm (mLate M q z) o := by
  unfold Inv mLate
  simp only [k_sv, k_lt, k_s2]
  exact h
theorem Inv_serv {rm : Nat → Nat} {M : Md} {o : Option Nat} {q : Nat} (h : Inv rm M o) : Inv rm (mServ M q) o := by
  unfold Inv mServ
  simp only [k_sv]
  exact h
theorem Inv_U {rm : Nat → Nat} {M : Md} {o : Option Nat} {U1 : Nat → Nat → Nat} (h : Inv rm M o) (hu : ∀ q, q < 8 → su U1 q (m_N M) = su (m_U M) q (m_N M)) : Inv rm (s_U M U1) o := by
  unfold Inv
  simp only [k_U]
  obtain ⟨h1, h2, h3, h4, h5, h6, h7, h8, h9, h10, h11, h12⟩ := h
  exact ⟨h1, h2, h3, h4, h5, h6, h7, h8, h9, fun q hq => by rw [hu q hq]; exact h10 q hq, h11, h12⟩
/-- a change that leaves alone all but who waits, and what there is -/
def Qt (k : Nat) (M M1 : Md) : Prop := (m_N M1 = m_N M ∧ m_T M1 = m_T M ∧ m_Lr M1 = m_Lr M ∧ m_D M1 = m_D M ∧ m_tm M1 = m_tm M ∧ m_tc M1 = m_tc M ∧ m_am M1 = m_am M ∧ m_mw M1 = m_mw M ∧ m_mb M1 = m_mb M) ∧ m_P M1 ≤ m_P M + k ∧ (∀ y, y < m_N M → m_S M1 y = m_S M y ∨ (2 ≤ m_S M y ∧ m_S M y ≤ 3 ∧ m_S M1 y = 0)) ∧ m_R M1 29 = m_R M 29 ∧ ∀ ρ, ρ < 28 → ∀ x, x ∈ m_R M1 ρ → x ∈ m_R M ρ
theorem Qt_rf {M : Md} {k : Nat} : Qt k M M := ⟨⟨rfl, rfl, rfl, rfl, rfl, rfl, rfl, rfl, rfl⟩, Nat.le_add_right _ _, fun _ _ => Or.inl rfl, rfl, fun _ _ _ h => h⟩
theorem Qt_tr {M M1 M2 : Md} {k j : Nat} (h : Qt k M M1) (g : Qt j M1 M2) : Qt (k + j) M M2 := by
  obtain ⟨⟨a1, a2, a3, a4, a5, a6, a7, a8, a9⟩, b, c, d, d2⟩ := h
  obtain ⟨⟨e1, e2, e3, e4, e5, e6, e7, e8, e9⟩, f, g, i, i2⟩ := g
  refine ⟨⟨e1.trans a1, e2.trans a2, e3.trans a3, e4.trans a4, e5.trans a5, e6.trans a6, e7.trans a7, e8.trans a8, e9.trans a9⟩, by omega, fun y hy => ?_, i.trans d, fun ρ h1 x hx => d2 ρ h1 x (i2 ρ h1 x hx)⟩
  have g := g y (by rw [a1]; exact hy)
  have c := c y hy
  omega
theorem Di_of {rm : Nat → Nat} {M : Md} {o : Option Nat} (h : Inv rm M o) : Di M := Inv_di h
theorem Mm_of {rm : Nat → Nat} {M : Md} {o : Option Nat} (h : Inv rm M o) : Mm M := fun ρ hρ p hp => (Inv_me h ρ hρ p hp).1
theorem Qt_put {M : Md} {x : Nat} {t : Int32} (h2 : 2 ≤ m_S M x ∧ m_S M x ≤ 3) (h9 : x ∉ m_R M 29) : Qt 1 M (mPut M x 0 t) := by
  unfold Qt mPut mPt mJn mSt mRem
  simp only [k_S, k_Zs, k_R, k_K, k_pa, k_P]
  refine ⟨⟨trivial, trivial, trivial, trivial, trivial, trivial, trivial, trivial, trivial⟩, Nat.le_refl _, fun y hy => ?_, ?_, fun ρ h1 y hy => ?_⟩
  · by_cases c : y = x
    · rw [c, up_s]; exact Or.inr ⟨h2.1, h2.2, rfl⟩
    · rw [up_n c]; exact Or.inl rfl
  · rw [up_n (by decide), rem_out h9]
  · rw [up_n (by omega)] at hy; exact (mem_rem.mp hy).1
theorem give_ok {rm : Nat → Nat} {a b : ts} {M : Md} {p r : Nat} (hA : VA rm a M) (hB : VB rm b M) (hI : Inv rm M none) (hp : p < m_N M) (hr : r < 8) (hu : 0 < m_U M p r) (hS : 5 ≤ m_S M p) (hrm : rm r < 1000) : ∃ a1 b1 M1, cO_giveBack p (nI r) a = some (1, a1) ∧ cR_serveResource (nI r) (wA (wA b 128 (8 * p + r) (nI (m_U M p r - 1))) 129 r (m_th M r + 1)) = some b1 ∧ VA rm a1 M1 ∧ VB rm b1 M1 ∧ Inv rm M1 none ∧ Qt 1 M M1 ∧ m_U M1 p r = m_U M p r - 1 ∧ (∀ i, ¬ i = r → m_U M1 p i = m_U M p i) := by
  have hN := (Inv_N hI).1
  have hpM : p < gM a := Nat.lt_of_lt_of_le hp (VA_gm hA).1
  have hre := Inv_re hI r hr
  have hle := su_le (U := m_U M) (q := r) hp
  have hU : gU a p r = nI (m_U M p r) := VA_un hA p hp r hr
  have hU1 : gU a p r - 1 = nI (m_U M p r - 1) := by
    rw [hU]; obtain ⟨v, hv⟩ : ∃ v, m_U M p r = v + 1 := ⟨m_U M p r - 1, by omega⟩
    rw [hv]; exact nI_pred v
  have zA := cl_U (p := p) (r := r) (v := m_U M p r - 1) hA
  have zB := rc_U (p := p) (r := r) (v := m_U M p r - 1) hB hr
  have hsu := su_up (U := m_U M) (q := r) (p := p) (v := m_U M p r - 1) hp
  generalize ha0 : wU a p r (nI (m_U M p r - 1)) = a0 at zA
  have ga0 : gM a0 = gM a := by rw [← ha0]; rfl
  have hl := VA_li hA r (by omega)
  have hlno : lno r = 2 * r := if_pos (by omega)
  rw [hlno] at hl
  have f0 : gR a0 600 (2 * r) = (m_R M r).head? := by rw [← ha0]; exact hl.1
  have eA : cO_giveBack p (nI r) a = (match gR a0 600 (2 * r) with
      | none => some ((1 : Int32), wI a0 703 r (gI a0 703 r + 1))
      | some r8 => if r8 < gM a then (cK_countLate r (((gI (wU a0 r8 r (gU a0 r8 r + 1)) 800 0) - (gI (wU a0 r8 r (gU a0 r8 r + 1)) 510 r8)).toInt64) (wU a0 r8 r (gU a0 r8 r + 1))).bind (fun s12 => (cO_putInCalendar r8 0 (gI s12 800 0) s12).bind (fun s15 => some ((1 : Int32), s15))) else none) := by
    unfold cO_giveBack
    rw [placeAt_ok (by omega), Option.bind_some]
    dsimp only
    rw [if_neg (show ¬ (8 : Int32) ≤ nI r from nI_ge (b := 8) hr (by decide)), if_pos hpM, if_pos (nI_idx hr (by decide)), nI_clamp (by omega), if_pos (show (0 : Int32) < gU a p r by rw [hU]; exact nI_lt (a := 0) hu (by omega)), if_pos (show r < 14 by omega), hU1, ha0]
    cases gR a0 600 (2 * r) <;> rfl
  have hrow := VB_ro hB r (by omega)
  cases hR : m_R M r with
  | nil =>
    have yA := cl_th (q := r) (v := m_th M r + 1) zA
    have yB := rc_th (q := r) (v := m_th M r + 1) zB
    refine ⟨_, _, mTh (mU M p r (m_U M p r - 1)) r (m_th M r + 1), ?_, ?_, yA, yB, ?_, ?_, ?_, ?_⟩
    · rw [eA, f0, hR]
      have e7 : gI a0 703 r = m_th M r := by have := VA_th hA r (by omega); rw [← ha0]; exact this
      rw [e7]; rfl
    · have e6 : gA (wA (wA b 128 (8 * p + r) (nI (m_U M p r - 1))) 129 r (m_th M r + 1)) 136 r = 0 := by
        have := hrow.1
        unfold rb at this
        rw [hR] at this
        exact this
      unfold cR_serveResource
      rw [show tm_N = 999999999 + 1 from rfl, cR_serveResource_0.eq_2]
      unfold cR_serveResource_0_b
      rw [if_pos (nI_idx (by omega) (by decide)), nI_clamp (by omega)]
      by_cases c : gA (wA (wA b 128 (8 * p + r) (nI (m_U M p r - 1))) 129 r (m_th M r + 1)) 129 r ≤ 0
      · rw [if_pos c]
      · rw [if_neg c, if_pos (nI_idx (by omega) (by decide)), e6, if_pos (by decide)]
    · unfold Inv mTh mU
      simp only [k_th, k_U]
      obtain ⟨h1, h2, h3, h4, h5, h6, h7, h8, h9, h10, h11, h12⟩ := hI
      refine ⟨h1, h2, h3, h4, h5, h6, h7, h8, h9, fun q hq => ?_, h11, h12⟩
      by_cases c : q = r
      · subst c
        rw [up_s, hre.2.1]
        refine ⟨by omega, ?_, fun z => absurd hR z⟩
        rw [show rm q - su (up2 (m_U M) p q (m_U M p q - 1)) q (m_N M) = rm q - su (m_U M) q (m_N M) + 1 by omega]
        exact nI_add _ 1
      · rw [up_n c, su_o c]; exact h10 q hq
    · unfold Qt mTh mU
      simp only [k_th, k_U]
      exact ⟨⟨trivial, trivial, trivial, trivial, trivial, trivial, trivial, trivial, trivial⟩, Nat.le_add_right _ _, fun _ _ => Or.inl trivial, trivial, fun _ _ _ h => h⟩
    · unfold mTh mU
      simp only [k_th, k_U]
      rw [up2_s]
    · intro i hi
      unfold mTh mU
      simp only [k_th, k_U]
      rw [up2_n (fun z => hi z.2)]
  | cons x t =>
    have hxR : x ∈ m_R M r := by rw [hR]; exact List.mem_cons_self
    have hme := Inv_me hI r (by omega) x hxR
    have hxN := hme.1
    have hSx : m_S M x = 2 ∧ m_W M x = r := by
      rcases hme.2 with z | z
      · cases z
      · unfold SP at z; omega
    have hxp : ¬ x = p := fun z => by rw [z] at hSx; omega
    have h9 : x ∉ m_R M 29 := fun z => absurd (Inv_di hI r 29 x (by omega) (by omega) hxR z) (by omega)
    have hth : m_th M r = nI 0 := by rw [hre.2.1, hre.2.2 (by rw [hR]; simp), Nat.sub_self]
    -- the program's side
    generalize hM0 : mU M p r (m_U M p r - 1) = M0 at zA zB
    have kU0 : m_U M0 = up2 (m_U M) p r (m_U M p r - 1) := by rw [← hM0]; unfold mU; simp only [k_U]
    have kN0 : m_N M0 = m_N M := by rw [← hM0]; unfold mU; simp only [k_U]
    have kS0 : m_S M0 = m_S M := by rw [← hM0]; unfold mU; simp only [k_U]
    have kR0 : m_R M0 = m_R M := by rw [← hM0]; unfold mU; simp only [k_U]
    have kZ0 : m_Zs M0 = m_Zs M := by rw [← hM0]; unfold mU; simp only [k_U]
    have ktm0 : m_tm M0 = m_tm M := by rw [← hM0]; unfold mU; simp only [k_U]
    have kth0 : m_th M0 = m_th M := by rw [← hM0]; unfold mU; simp only [k_U]
    have kam0 : m_am M0 = m_am M := by rw [← hM0]; unfold mU; simp only [k_U]
    have zA2 := cl_U (p := x) (r := r) (v := m_U M0 x r + 1) zA
    have eU : gU a0 x r + 1 = nI (m_U M0 x r + 1) := by rw [VA_un zA x (by rw [kN0]; exact hxN) r hr]; exact nI_add _ 1
    obtain ⟨a2, y1, y2, y3⟩ := cl_late (q := r) (z := ((nI (m_tm M) - m_Zs M x).toInt64)) zA2 (by omega)
    generalize hM1 : mLate (mU M0 x r (m_U M0 x r + 1)) r ((nI (m_tm M) - m_Zs M x).toInt64) = M1 at y2
    have hI1 : Inv rm M1 none := by
      rw [← hM1, ← hM0]
      refine Inv_late ?_
      have e2 : mU (mU M p r (m_U M p r - 1)) x r (m_U (mU M p r (m_U M p r - 1)) x r + 1) = s_U M (up2 (up2 (m_U M) p r (m_U M p r - 1)) x r (m_U M x r + 1)) := by
        unfold mU
        simp only [k_U]
        rw [up2_n (fun z => hxp z.1)]
        rfl
      rw [e2]
      refine Inv_U hI (fun q hq => ?_)
      by_cases c : q = r
      · subst c
        have s1 := su_up (U := up2 (m_U M) p q (m_U M p q - 1)) (q := q) (p := x) (v := m_U M x q + 1) hxN
        rw [up2_n (fun z => hxp z.1)] at s1
        omega
      · rw [su_o c, su_o c]
    have kN1 : m_N M1 = m_N M := by rw [← hM1]; unfold mLate mU; simp only [k_sv, k_lt, k_s2, k_U]; exact kN0
    have ktm1 : m_tm M1 = m_tm M := by rw [← hM1]; unfold mLate mU; simp only [k_sv, k_lt, k_s2, k_U]; exact ktm0
    have kS1 : m_S M1 = m_S M := by rw [← hM1]; unfold mLate mU; simp only [k_sv, k_lt, k_s2, k_U]; exact kS0
    have kR1 : m_R M1 = m_R M := by rw [← hM1]; unfold mLate mU; simp only [k_sv, k_lt, k_s2, k_U]; exact kR0
    obtain ⟨a3, w1, w2⟩ := cl_put (s := 0) (t := nI (m_tm M)) y2 (Di_of hI1) (Mm_of hI1) (p := x) (by rw [kN1]; exact hxN) (by omega)
    have hI2 := Inv_put (s := 0) (t := m_tm M) hI1 (p := x) (by rw [kN1]; exact hxN) (fun z => by cases z) (by omega) (by rw [ktm1]; exact ⟨Nat.le_refl _, (Inv_N hI).2⟩)
    -- the reference's side
    have v1 := rc_th (q := r) (v := m_th M r + 1) zB
    generalize hb0 : wA (wA b 128 (8 * p + r) (nI (m_U M p r - 1))) 129 r (m_th M r + 1) = b0 at v1
    generalize hN0 : mTh M0 r (m_th M r + 1) = N0 at v1
    have jR : m_R N0 = m_R M := by rw [← hN0]; unfold mTh; simp only [k_th]; exact kR0
    have jN : m_N N0 = m_N M := by rw [← hN0]; unfold mTh; simp only [k_th]; exact kN0
    have jth : m_th N0 = up (m_th M) r (m_th M r + 1) := by rw [← hN0]; unfold mTh; simp only [k_th]; rw [kth0]
    have jU : m_U N0 = m_U M0 := by rw [← hN0]; unfold mTh; simp only [k_th]
    obtain ⟨b1, u1, u2⟩ := rc_row0 (ρ := r) v1 (by unfold Di; rw [jR]; exact Inv_di hI) (by rw [jR]; exact Inv_nd hI r (by omega)) (by omega) (by rw [jR]; exact hR)
    generalize hN1 : mRem N0 x = N1 at u2
    have iU : m_U N1 = m_U M0 := by rw [← hN1]; unfold mRem; simp only [k_R]; exact jU
    have iN : m_N N1 = m_N M := by rw [← hN1]; unfold mRem; simp only [k_R]; exact jN
    have ith : m_th N1 r = m_th M r + 1 := by rw [← hN1]; unfold mRem; simp only [k_R]; rw [jth, up_s]
    have u3 := rc_U (p := x) (r := r) (v := m_U M0 x r + 1) (rc_th (q := r) (v := nI 0) u2) hr
    generalize hb2 : wA (wA b1 129 r (nI 0)) 128 (8 * x + r) (nI (m_U M0 x r + 1)) = b2 at u3
    generalize hN2 : mU (mTh N1 r (nI 0)) x r (m_U M0 x r + 1) = N2 at u3
    have lN : m_N N2 = m_N M := by rw [← hN2]; unfold mU mTh; simp only [k_U, k_th]; exact iN
    have lR : m_R N2 = rem (m_R M) x := by rw [← hN2]; unfold mU mTh; simp only [k_U, k_th]; rw [← hN1]; unfold mRem; simp only [k_R]; rw [jR]
    have lS : m_S N2 = m_S M := by rw [← hN2]; unfold mU mTh; simp only [k_U, k_th]; rw [← hN1]; unfold mRem; simp only [k_R]; rw [← hN0]; unfold mTh; simp only [k_th]; exact kS0
    have lam : m_am N2 = m_am M := by rw [← hN2]; unfold mU mTh; simp only [k_U, k_th]; rw [← hN1]; unfold mRem; simp only [k_R]; rw [← hN0]; unfold mTh; simp only [k_th]; exact kam0
    have ltm : m_tm N2 = m_tm M := by rw [← hN2]; unfold mU mTh; simp only [k_U, k_th]; rw [← hN1]; unfold mRem; simp only [k_R]; rw [← hN0]; unfold mTh; simp only [k_th]; exact ktm0
    have lZ : m_Zs N2 = m_Zs M := by rw [← hN2]; unfold mU mTh; simp only [k_U, k_th]; rw [← hN1]; unfold mRem; simp only [k_R]; rw [← hN0]; unfold mTh; simp only [k_th]; exact kZ0
    obtain ⟨b3, o1, o2⟩ := rc_count (q := r) (x := x) u3 (by rw [lN]; exact hN) (by rw [lN]; exact hxN) (by omega) (fun z => by rw [lS] at z; omega) (by rw [lS]; omega) (fun ρ _ z => by rw [lR] at z; exact (mem_rem.mp z).2 rfl) (by rw [lam, lN]; exact (Inv_am hI).2)
    rw [ltm, lZ] at o2
    have eM : mPt (mJn (mSt (mLate N2 r ((nI (m_tm M) - m_Zs M x).toInt64)) x 0) 28 x (nI (m_tm M))) x = mPut M1 x 0 (nI (m_tm M)) := by
      unfold mPut
      congr 3
      rw [← hM1, ← hN2, ← hN1, ← hN0]
      unfold mLate mU mTh mRem
      refine Md_ext ?_ ?_ ?_ ?_ ?_ ?_ ?_ ?_ ?_ ?_ ?_ ?_ ?_ ?_ ?_ ?_ ?_ ?_ ?_ ?_ ?_ ?_ ?_ ?_ ?_ ?_ ?_ ?_ ?_ ?_ ?_ ?_ ?_ ?_ <;> simp only [k_sv, k_lt, k_s2, k_U, k_th, k_R]
      rw [kth0, up_up, up_id hth]
    rw [eM] at o2
    have hth3 : m_th (mPut M1 x 0 (nI (m_tm M))) r = nI 0 := by
      unfold mPut mPt mJn mSt mRem
      simp only [k_S, k_Zs, k_R, k_K, k_pa, k_P]
      rw [← hM1]; unfold mLate mU; simp only [k_sv, k_lt, k_s2, k_U]; rw [kth0]; exact hth
    refine ⟨a3, b3, mPut M1 x 0 (nI (m_tm M)), ?_, ?_, w2, o2, hI2, ?_, ?_, ?_⟩
    · rw [eA, f0, hR]
      dsimp only [List.head?_cons]
      have t1 : gI a0 800 0 = nI (m_tm M) := by rw [VA_tm zA, ktm0]
      have t2 : gI a0 510 x = m_Zs M x := by rw [VA_si zA x (by rw [kN0]; exact hxN), kZ0]
      rw [if_pos (Nat.lt_of_lt_of_le hxN (VA_gm hA).1), eU, show gI (wU a0 x r (nI (m_U M0 x r + 1))) 800 0 = nI (m_tm M) from t1, show gI (wU a0 x r (nI (m_U M0 x r + 1))) 510 x = m_Zs M x from t2, y1, Option.bind_some, show gI a2 800 0 = nI (m_tm M) by rw [VA_tm y2, ktm1]]
      have w1 : cO_putInCalendar x 0 (nI (m_tm M)) a2 = some a3 := w1
      rw [w1, Option.bind_some]
    · have q1 : gA b0 129 r = nI 1 := by rw [VB_th v1 r (by omega), jth, up_s, hth]; rfl
      have q2 : gA b0 136 r = nI (t.length + 1) := by
        have := (VB_ro v1 r (by omega)).1
        unfold rb at this
        rw [jR, hR] at this
        rw [this, List.length_map, List.length_cons]
      have hlen : t.length + 1 ≤ 300 := by
        have := VA_len hA (ρ := r) (by omega)
        rw [hR, List.length_cons] at this; exact this
      have q3 : gA b0 137 (300 * r) = nI x := by
        have := ((VB_ro v1 r (by omega)).2.2 0 (x, if r < 8 then m_K N0 x else m_A N0 x) (by unfold rb; rw [jR, hR]; rfl)).1
        exact this
      have q4 : gA b1 129 r = nI 1 := by rw [VB_th u2 r (by omega), ith, hth]; rfl
      have q5 : gA b1 128 (8 * x + r) = nI (m_U M0 x r) := by rw [VB_un u2 x (by rw [iN]; exact hxN) r hr, iU]
      have q6 : gA b3 129 r = nI 0 := by rw [VB_th o2 r (by omega), hth3]
      unfold cR_serveResource
      rw [show tm_N = 999999998 + 1 + 1 from rfl, cR_serveResource_0.eq_2]
      unfold cR_serveResource_0_b
      rw [if_pos (nI_idx (by omega) (by decide)), nI_clamp (by omega), q1, if_neg (by decide), if_pos (nI_idx (by omega) (by decide)), q2, if_neg (show ¬ nI (t.length + 1) ≤ (0 : Int32) from nI_ge (a := 0) (by omega) (by omega)), show (300 : Int32) * nI r = nI (300 * r) from pk_mul 300 r, if_pos (nI_idx (by omega) (by decide)), u1, Option.bind_some, nI_clamp (by omega), q3, show (8 : Int32) * nI x + nI r = nI (8 * x + r) by rw [show (8 : Int32) = nI 8 from rfl, pk_mul, nI_add], if_pos (nI_idx (by omega) (by decide)), nI_clamp (by omega), q4, show nI 1 - (1 : Int32) = nI 0 from rfl, show gA (wA b1 129 r (nI 0)) 128 (8 * x + r) = nI (m_U M0 x r) from q5, show nI (m_U M0 x r) + (1 : Int32) = nI (m_U M0 x r + 1) from nI_add _ 1, hb2, o1, Option.bind_some, cR_serveResource_0.eq_2]
      unfold cR_serveResource_0_b
      rw [if_pos (nI_idx (by omega) (by decide)), nI_clamp (by omega), q6, if_pos (by decide)]
    · have z1 : Qt 0 M M1 := by
        rw [← hM1, ← hM0]
        unfold Qt mLate mU
        simp only [k_sv, k_lt, k_s2, k_U]
        exact ⟨⟨trivial, trivial, trivial, trivial, trivial, trivial, trivial, trivial, trivial⟩, Nat.le_add_right _ _, fun _ _ => Or.inl trivial, trivial, fun _ _ _ h => h⟩
      have z2 := Qt_put (M := M1) (x := x) (t := nI (m_tm M)) (by rw [kS1]; omega) (by rw [kR1]; exact h9)
      have := Qt_tr z1 z2
      rw [Nat.zero_add] at this; exact this
    · unfold mPut mPt mJn mSt mRem
      simp only [k_S, k_Zs, k_R, k_K, k_pa, k_P]
      rw [← hM1]; unfold mLate mU; simp only [k_sv, k_lt, k_s2, k_U]
      rw [up2_n (fun z => hxp z.1.symm), kU0, up2_s]
    · intro i hi
      unfold mPut mPt mJn mSt mRem
      simp only [k_S, k_Zs, k_R, k_K, k_pa, k_P]
      rw [← hM1]; unfold mLate mU; simp only [k_sv, k_lt, k_s2, k_U]
      rw [up2_n (fun z => hi z.2), kU0, up2_n (fun z => hi z.2)]
