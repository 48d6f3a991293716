/-! WHAT HOLDS BETWEEN TWO CALLS, and that each call keeps it. -/
def PK : Nat := 274877906944
def TK : Nat := 50000
def Cg (s : ts) : Prop := gM s ≤ 300 ∧ (∀ p, p < gM s → gI s 500 p = nI p) ∧ (∀ q, q < 14 → gI s 700 q = if q < 8 then 0 else 1)
def Cu (s : ts) : Prop := (∀ k, k < 24 → gB s 8 k = in_rw.getD k 0) ∧ gI s 302 0 = 0 ∧ WD s ∧ gI s 108 0 = gI s 1103 0 ∧ gI s 109 0 = gI s 1104 0
def Rd (k : Nat) (s : ts) : Prop := (gI s 6 0 = 0 ∧ gI s 1102 0 = 0) ∨ (gI s 6 0 = 1 ∧ gI s 1102 0 = 1 ∧ ∃ L pm en vc un rm0 G τ K K' rm M, Evp s s L pm en vc un rm0 G τ K K' rm ∧ VA rm s M ∧ VB rm s M ∧ RW rm G (L 3).length M ∧ m_P M ≤ k * PK ∧ m_tc M ≤ k * TK)
def IV (k : Nat) (s : ts) : Prop := iv_t s ∧ gI s 801 0 = gI s 1158 0 ∧ Cg s ∧ Cu s ∧ Rd k s
theorem Rd_up {k : Nat} {s : ts} (h : Rd k s) : Rd (k + 1) s := by
  rcases h with h | ⟨h1, h2, L, pm, en, vc, un, rm0, G, τ, K, K', rm, M, h3, h4, h5, h6, h7, h8⟩
  · exact Or.inl h
  · exact Or.inr ⟨h1, h2, L, pm, en, vc, un, rm0, G, τ, K, K', rm, M, h3, h4, h5, h6, by rw [Nat.add_mul]; omega, by rw [Nat.add_mul]; omega⟩
theorem IV_up {k : Nat} {s : ts} (h : IV k s) : IV (k + 1) s := ⟨h.1, h.2.1, h.2.2.1, h.2.2.2.1, Rd_up h.2.2.2.2⟩
theorem Cg_fr {W : List Nat} {s s1 : ts} (h : Cg s) (f : fr W s s1) (hd : dj [500, 700, 9003] W = true) : Cg s1 := by
  have e : gM s1 = gM s := f.2.2.2.2.2.2.2.1 (dj_m hd rfl)
  exact ⟨by rw [e]; exact h.1, fun p hp => by rw [f.1 500 (dj_m hd rfl)]; exact h.2.1 p (by rw [← e]; exact hp), fun q hq => by rw [f.1 700 (dj_m hd rfl)]; exact h.2.2 q hq⟩
theorem Cg_VA {rm : Nat → Nat} {s : ts} {M : Md} (h : VA rm s M) : Cg s := ⟨(VA_gm h).2, VA_no h, VA_iS h⟩
theorem WD_fr {W : List Nat} {s s1 : ts} (h : WD s) (f : fr W s s1) : WD s1 := (fr_O f 3).trans h
theorem Cu_fr {W : List Nat} {s s1 : ts} (h : Cu s) (f : fr W s s1) (hd : dj [3008, 302, 108, 109, 1103, 1104] W = true) : Cu s1 := ⟨fun k hk => by rw [f.2.2.1 8 (dj_m hd rfl)]; exact h.1 k hk, (f.1 302 (dj_m hd rfl) 0).trans h.2.1, WD_fr h.2.2.1 f, by rw [f.1 108 (dj_m hd rfl), f.1 1103 (dj_m hd rfl)]; exact h.2.2.2.1, by rw [f.1 109 (dj_m hd rfl), f.1 1104 (dj_m hd rfl)]; exact h.2.2.2.2⟩
theorem ivt_fr {W : List Nat} {s s1 : ts} (h : iv_t s) (f : fr W s s1) (hd : dj [1, 1101, 2006, 2088] W = true) : iv_t s1 := by
  obtain ⟨n, h1, h2, h3, h4⟩ := h
  refine ⟨n, h1, (f.1 1 (dj_m hd rfl) 0).trans h2, (f.1 1101 (dj_m hd rfl) 0).trans h3, fun k hk => ?_⟩
  rw [f.2.1 88 (dj_m hd rfl), f.2.1 6 (dj_m hd rfl)]; exact h4 k hk
theorem Rd_fr {W : List Nat} {k : Nat} {s s1 : ts} (h : Rd k s) (f : fr W s s1) (h6 : dj [6, 1102] W = true) (ha : dj eva W = true) (hb : dj evb W = true) (hc : dj vaF W = true) (hd : dj vbF W = true) : Rd k s1 := by
  rcases h with h | ⟨h1, h2, L, pm, en, vc, un, rm0, G, τ, K, K', rm, M, h3, h4, h5, h7, h8, h9⟩
  · exact Or.inl ⟨(f.1 6 (dj_m h6 rfl) 0).trans h.1, (f.1 1102 (dj_m h6 rfl) 0).trans h.2⟩
  · exact Or.inr ⟨(f.1 6 (dj_m h6 rfl) 0).trans h1, (f.1 1102 (dj_m h6 rfl) 0).trans h2, L, pm, en, vc, un, rm0, G, τ, K, K', rm, M, Evp_fr h3 f f ha hb, VA_fr h4 f hc, VB_fr h5 f hd, h7, h8, h9⟩
theorem X_fr {k : Nat} {s s1 : ts} (f : fr [1, 1101, 2006, 2088] s s1) (h : gI s 801 0 = gI s 1158 0 ∧ Cg s ∧ Cu s ∧ Rd k s) : gI s1 801 0 = gI s1 1158 0 ∧ Cg s1 ∧ Cu s1 ∧ Rd k s1 := ⟨by rw [f.1 801 rfl, f.1 1158 rfl]; exact h.1, Cg_fr h.2.1 f (by decide), Cu_fr h.2.2.1 f (by decide), Rd_fr h.2.2.2 f (by decide) (by decide) (by decide) (by decide) (by decide)⟩
theorem x_feed (k : Nat) : sx_feed (IV k) (IV (k + 1)) := fun a0 a1 a2 a3 a4 s h => by
  obtain ⟨v, s1, s2, e1, e2, e3⟩ := feed_ok (X := fun s => gI s 801 0 = gI s 1158 0 ∧ Cg s ∧ Cu s ∧ Rd k s) (fun s s1 f h => X_fr f h) a0 a1 a2 a3 a4 s h
  exact ⟨v, s1, s2, e1, e2, IV_up e3⟩
theorem x_end (k : Nat) : sx_end (IV k) (IV (k + 1)) := fun a0 s h => by
  obtain ⟨v, s1, s2, e1, e2, e3⟩ := end_ok (X := fun s => gI s 801 0 = gI s 1158 0 ∧ Cg s ∧ Cu s ∧ Rd k s) (fun s s1 f h => X_fr f h) a0 s h
  exact ⟨v, s1, s2, e1, e2, IV_up e3⟩
theorem x_seed (k : Nat) : sx_seed (IV k) (IV (k + 1)) := fun a0 s h => by
  by_cases c : (0 : Int32) ≤ a0
  · have f1 : fr [801, 1158] s (wI (wI s 801 0 a0) 1158 0 a0) := fr_wI (fr_wI fr_rf rfl) rfl
    refine ⟨gI s 801 0, wI s 801 0 a0, wI (wI s 801 0 a0) 1158 0 a0, ?_, ?_, IV_up ⟨ivt_fr h.1 f1 (by decide), ?_, Cg_fr h.2.2.1 f1 (by decide), Cu_fr h.2.2.2.1 f1 (by decide), ?_⟩⟩
    · unfold cX_seed cW_changeSeed
      rw [if_pos c]; rfl
    · unfold cR_seed
      rw [if_pos c, gI_wf (by decide), h.2.1]
    · rw [gI_wf (by decide), gI_ws, gI_ws]
    · rcases h.2.2.2.2 with z | ⟨h1, h2, L, pm, en, vc, un, rm0, G, τ, K, K', rm, M, h3, h4, h5, h7, h8, h9⟩
      · exact Or.inl ⟨(f1.1 6 rfl 0).trans z.1, (f1.1 1102 rfl 0).trans z.2⟩
      · refine Or.inr ⟨(f1.1 6 rfl 0).trans h1, (f1.1 1102 rfl 0).trans h2, L, pm, en, vc, un, rm0, G, τ, K, K', rm, mSd M a0, Evp_fr h3 f1 f1 (by decide) (by decide), ?_, ?_, ?_, ?_, ?_⟩
        · have z := cl_Sd (v := a0) h4 (fr_wI (fr_rf (s := s)) rfl : fr [801, 805, 2038] s (wI s 801 0 a0)) gI_ws
          exact VA_fr z (fr_wI (W := [1158]) (f := 1158) (i := 0) (x := a0) fr_rf rfl) (by decide)
        · have z := VB_fr h5 (fr_wI (W := [801]) (f := 801) (i := 0) (x := a0) (fr_rf (s := s)) rfl) (by decide)
          exact rc_Sd (v := a0) z (fr_wI fr_rf rfl) gI_ws
        · unfold RW Inv Jv at h7 ⊢
          simp only [p_mSd]
          exact h7
        · simp only [p_mSd]; exact h8
        · simp only [p_mSd]; exact h9
  · refine ⟨-1, s, s, ?_, ?_, IV_up h⟩
    · unfold cX_seed
      rw [if_neg c]
    · unfold cR_seed
      rw [if_neg c]
theorem IV_read {k : Nat} {s s2 : ts} {L : Nat → List Int64} {pm en vc un rm0 rm : Nat → Nat} {G : List Ln} {τ : Nat → Int32} {K K' : Nat} {M : Md} {W : List Nat} (h : IV k s) (f : fr W s s2) (hd1 : dj [1, 1101, 2006, 2088] W = true) (hd2 : dj [3008, 302, 108, 109, 1103, 1104] W = true) (hd6 : dj [6, 1102] W = true) (hE : Evp s s L pm en vc un rm0 G τ K K' rm) (ha : dj eva W = true) (hb : dj evb W = true) (h6 : gI s 6 0 = 1) (h2 : gI s 1102 0 = 1) (hA : VA rm s2 M) (hB : VB rm s2 M) (hW : RW rm G (L 3).length M) (hP : m_P M ≤ (k + 1) * PK) (hT : m_tc M ≤ (k + 1) * TK) : IV (k + 1) s2 := ⟨ivt_fr h.1 f hd1, (VA_sd hA).trans (VB_sd hB).symm, Cg_VA hA, Cu_fr h.2.2.2.1 f hd2, Or.inr ⟨(f.1 6 (dj_m hd6 rfl) 0).trans h6, (f.1 1102 (dj_m hd6 rfl) 0).trans h2, L, pm, en, vc, un, rm0, G, τ, K, K', rm, M, Evp_fr hE f f ha hb, hA, hB, hW, hP, hT⟩⟩
theorem x_start (k : Nat) : sx_start (IV k) (IV (k + 1)) := fun a0 a1 a2 a3 a4 s h => by
  have h0 := h
  obtain ⟨i1, i2, i3, i4, i5⟩ := h
  rcases i5 with z | ⟨h1, h2, L, pm, en, vc, un, rm0, G, τ, K, K', rm, M, h3, h4, h5, h7, h8, h9⟩
  · refine ⟨-1, s, s, ?_, ?_, IV_up h0⟩
    · unfold cX_start
      rw [z.1, if_pos rfl]
    · unfold cR_start
      rw [z.2, if_pos rfl]
  · obtain ⟨v, s1, s2, M1, e1, e2, e3, e4, e5, e6, e7⟩ := startC_ok a0 a1 a2 a3 a4 h3 h4 h5 h7 h1 h2
    have f : fr (wf_cX_start ++ wf_cR_start) s s2 := fr_tr (fr_mono (by decide +kernel) (cX_start_fr _ _ _ _ _ _ _ e1)) (fr_mono (by decide +kernel) (cR_start_fr _ _ _ _ _ _ _ e2))
    refine ⟨v, s1, s2, e1, e2, IV_read h0 f (by decide) (by decide) (by decide) h3 (by decide) (by decide) h1 h2 e3 e4 e5 ?_ ?_⟩
    · rw [Nat.add_mul]; unfold PK at h8 ⊢; omega
    · rw [Nat.add_mul]; omega
theorem isSC {n : Int32} {s : ts} : cX_isStepCount n s = some (if n < 1 then 0 else if (20000 : Int32) < n then 0 else 1, s) := by
  unfold cX_isStepCount
  by_cases c : n < 1
  · rw [if_pos c, if_pos c]
  · rw [if_neg c, if_neg c]
    by_cases c2 : (20000 : Int32) < n
    · rw [if_pos c2, if_pos c2]
    · rw [if_neg c2, if_neg c2]
theorem x_run (k : Nat) (hk : k ≤ 513) : sx_run (IV k) (IV (k + 1)) := fun a0 s h => by
  have h0 := h
  obtain ⟨i1, i2, i3, i4, i5⟩ := h
  rcases i5 with z | ⟨h1, h2, L, pm, en, vc, un, rm0, G, τ, K, K', rm, M, h3, h4, h5, h7, h8, h9⟩
  · refine ⟨-1, s, s, ?_, ?_, IV_up h0⟩
    · unfold cX_run
      rw [z.1, if_pos rfl]
    · unfold cR_run
      rw [z.2, if_pos rfl]
  · by_cases c : a0 < 1
    · refine ⟨-1, s, s, ?_, ?_, IV_up h0⟩
      · unfold cX_run
        rw [h1, if_neg (by decide), isSC, if_pos c, Option.bind_some]; rfl
      · unfold cR_run
        rw [h2, if_neg (by decide), if_pos c]
    · obtain ⟨n, hn31, e⟩ := nI_of (x := a0) (fun z => c (Int32.lt_trans z (by decide)))
      subst e
      by_cases c2 : n ≤ 20000
      · have f0 : fr [1191] s (wI s 1191 0 0) := fr_wI fr_rf rfl
        have hN := (Inv_N h7.1).1
        have hov := ovr_le (M := M) (m_N M)
        -- the program first, then the reference where the program left it: both from one walk
        obtain ⟨r, a1, b1, M1, s1, s2, s3, s4, s5, s6, s7⟩ := run_lp (n := n) (PB := (k + 1) * PK) (TB := (k + 1) * TK) c2 (by unfold PK; omega) (by unfold TK; omega) (2 * n + 301) 0 0 tm_N tm_N s (wI s 1191 0 0) M (Evp_fr h3 (fr_rf (W := []) (s := s)) f0 (by decide) (by decide)) h4 (rc_fr h5 (fr_mono (by decide) f0)) h7 gI_ws (by omega) (by split <;> omega) (by omega) (by rw [Nat.add_mul]; unfold PK at h8 ⊢; omega) (by rw [Nat.add_mul]; unfold TK at h9 ⊢; omega) (by unfold tm_N; omega) (by unfold tm_N; omega)
        have eX : cX_run (nI n) s = some (nI r, a1) := by
          have s1 : cH_doSteps_4 tm_N (nI n) 0 0 s = some (nI r, a1) := s1
          unfold cX_run cH_doSteps
          rw [h1, if_neg (by decide), isSC, if_neg c, if_neg (show ¬ (20000 : Int32) < nI n from nI_nlt (a := 20000) c2 (by decide)), Option.bind_some]
          dsimp only
          rw [if_neg (by decide), s1]; rfl
        have fX := cX_run_fr _ _ _ eX
        have f1 : fr [1191] a1 (wI a1 1191 0 0) := fr_wI fr_rf rfl
        have hB1 : VB rm a1 M := VB_fr h5 fX (by decide)
        have hE1 := Evp_fr h3 (fr_rf (W := []) (s := s)) fX (by decide) (by decide)
        obtain ⟨r', a1', b1', M1', s1', s2', s3', s4', s5', s6', s7'⟩ := run_lp (n := n) (PB := (k + 1) * PK) (TB := (k + 1) * TK) c2 (by unfold PK; omega) (by unfold TK; omega) (2 * n + 301) 0 0 tm_N tm_N s (wI a1 1191 0 0) M (Evp_fr hE1 (fr_rf (W := []) (s := s)) f1 (by decide) (by decide)) h4 (rc_fr hB1 (fr_mono (by decide) f1)) h7 gI_ws (by omega) (by split <;> omega) (by omega) (by rw [Nat.add_mul]; unfold PK at h8 ⊢; omega) (by rw [Nat.add_mul]; unfold TK at h9 ⊢; omega) (by unfold tm_N; omega) (by unfold tm_N; omega)
        rw [s1] at s1'
        obtain ⟨er, ea⟩ := Prod.mk.inj (Option.some.inj s1')
        rw [← er] at s2'
        rw [← ea] at s3'
        have eR : cR_run (nI n) a1 = some (nI r, b1') := by
          unfold cR_run
          rw [(fX.1 1102 (by decide) 0).trans h2, if_neg (by decide), if_neg c, if_pos (show nI n ≤ (20000 : Int32) from nI_le (b := 20000) c2 (by decide))]
          exact s2'
        have fR := cR_run_fr _ _ _ eR
        have f : fr (wf_cX_run ++ wf_cR_run) s b1' := fr_tr (fr_mono (by decide +kernel) fX) (fr_mono (by decide +kernel) fR)
        exact ⟨nI r, a1, b1', eX, eR, IV_read h0 f (by decide) (by decide) (by decide) h3 (by decide) (by decide) h1 h2 (VA_fr s3' fR (by decide)) s4' s5' s6' s7'⟩
      · refine ⟨-1, s, s, ?_, ?_, IV_up h0⟩
        · unfold cX_run
          rw [h1, if_neg (by decide), isSC, if_neg c, if_pos (show (20000 : Int32) < nI n from nI_lt (a := 20000) (by omega) hn31), Option.bind_some]; rfl
        · unfold cR_run
          rw [h2, if_neg (by decide), if_neg c, if_neg (show ¬ nI n ≤ (20000 : Int32) from nI_ge (a := 20000) (by omega) hn31)]
/-- turn, on a state each side has for itself -/
theorem turn_ok {rm pm en vc un rm0 : Nat → Nat} {L : Nat → List Int64} {G : List Ln} {τ : Nat → Int32} {K K' n PB TB : Nat} {a b : ts} {M : Md} (hn : n ≤ 20000) (hPB : PB < 2 ^ 62) (hTB : TB < 2000000000) (hE : Evp a b L pm en vc un rm0 G τ K K' rm) (hA : VA rm a M) (hB : VB rm b M) (hW : RW rm G (L 3).length M) (hP : m_P M + (n + 1) * 2700000 ≤ PB) (hT : m_tc M + (n + 1) ≤ TB) : ∃ r a1 b1 M1, cH_doTurn (nI n) a = some (r, a1) ∧ (if (gI b 1159 0) = ((-2 : Int32)) then (cR_taken b).bind (fun x3 => (cR_begin x3.2).bind (fun x6 => cR_turn_44 tm_N (nI n) x3.1 ((0 : Int32)) x6.2)) else cR_turn_44 tm_N (nI n) (gI b 1159 0) ((0 : Int32)) b) = some (r, b1) ∧ VA rm a1 M1 ∧ VB rm b1 M1 ∧ RW rm G (L 3).length M1 ∧ m_P M1 ≤ PB ∧ m_tc M1 ≤ TB := by
  have hN := (Inv_N hW.1).1
  have ht : 20001 < tm_N := by unfold tm_N; omega
  have hnt : n < tm_N := Nat.lt_of_le_of_lt hn (Nat.lt_trans (by decide) ht)
  rw [Nat.add_mul, Nat.one_mul] at hP
  have hP' : m_P M + n * 2700000 ≤ PB := Nat.le_trans (Nat.add_le_add_left (Nat.le_add_right _ _) _) hP
  have hT' : m_tc M + n ≤ TB := by omega
  cases ham : m_am M with
  | none =>
    have e1 : gI b 1159 0 = -2 := by rw [VB_am hB, ham]; rfl
    rw [e1, if_pos rfl]
    have eA : cH_doTurn (nI n) a = (cH_beginTurn a).bind (fun x5 => cH_doTurn_24 tm_N (nI n) x5.1 ((0 : Int32)) x5.2) := by
      unfold cH_doTurn
      rw [VA_am hA, ham]
    rcases begin_ok hE hA hB hW ham (by omega) with ⟨s1, s2, s3⟩ | ⟨x, a1, b1, M1, hx3, s1, s2, s3, s4, s5, s6, s7, s8, s9, s10, s11⟩
    · refine ⟨-2, a, b, M, ?_, ?_, hA, hB, hW, by omega, by omega⟩
      · rw [eA, s1, Option.bind_some]
        dsimp only
        obtain ⟨T, hT⟩ : ∃ T, tm_N = T + 1 := ⟨999999999, rfl⟩
        rw [hT, cH_doTurn_24.eq_2]
        unfold cH_doTurn_24_b cH_doTurn_50
        rw [VA_am hA, ham]
        by_cases c : nI n ≤ (0 : Int32)
        · rw [if_pos c]
        · rw [if_neg c]
      · rw [s3, Option.bind_some]
        dsimp only
        rw [s2, Option.bind_some]
        dsimp only
        obtain ⟨T, hT⟩ : ∃ T, tm_N = T + 1 := ⟨999999999, rfl⟩
        rw [hT, cR_turn_44.eq_2]
        unfold cR_turn_44_b cR_turn_68
        rw [e1, if_pos rfl]
        by_cases c : nI n ≤ (0 : Int32)
        · rw [if_pos c]
        · rw [if_neg c, if_pos rfl]
    · have hE1 := Evp_fr hE (cH_beginTurn_fr a _ s1) (cR_begin_fr b _ s2) (by decide) (by decide)
      obtain ⟨q1, q2, q3, q4⟩ := s7
      obtain ⟨r, a2, b2, M2, t1, t2, t3⟩ := turn_lp (x := x) hn hx3 hPB hTB n 0 tm_N tm_N a1 b1 M1 hE1 s4 s5 s6 (by omega) (by omega) (by omega) (by omega) (by omega)
      refine ⟨r, a2, b2, M2, ?_, ?_, t3⟩
      · rw [eA, s1, Option.bind_some]; exact t1
      · rw [s3, Option.bind_some]
        dsimp only
        rw [s2, Option.bind_some]; exact t2
  | some p =>
    have hp := (Inv_am hW.1).2 p ham
    have hpM : p < gM a := Nat.lt_of_lt_of_le hp (VA_gm hA).1
    have e1 : gI b 1159 0 = nI p := by rw [VB_am hB, ham]; rfl
    rw [e1, if_neg (nI_no2 (by omega))]
    obtain ⟨r, a2, b2, M2, t1, t2, t3⟩ := turn_lp (x := p) hn (by omega) hPB hTB n 0 tm_N tm_N a b M hE hA hB hW (Nat.zero_add n) hP' hT' hnt hnt
    refine ⟨r, a2, b2, M2, ?_, t2, t3⟩
    unfold cH_doTurn
    rw [VA_am hA, ham]
    dsimp only
    rw [if_pos hpM, VA_no hA p hpM]; exact t1
theorem x_turn (k : Nat) (hk : k ≤ 513) : sx_turn (IV k) (IV (k + 1)) := fun a0 s h => by
  have h0 := h
  obtain ⟨i1, i2, i3, i4, i5⟩ := h
  rcases i5 with z | ⟨h1, h2, L, pm, en, vc, un, rm0, G, τ, K, K', rm, M, h3, h4, h5, h7, h8, h9⟩
  · refine ⟨-1, s, s, ?_, ?_, IV_up h0⟩
    · unfold cX_turn
      rw [z.1, if_pos rfl]
    · unfold cR_turn
      rw [z.2, if_pos rfl]
  · by_cases c : a0 < 1
    · refine ⟨-1, s, s, ?_, ?_, IV_up h0⟩
      · unfold cX_turn
        rw [h1, if_neg (by decide), isSC, if_pos c, Option.bind_some]; rfl
      · unfold cR_turn
        rw [h2, if_neg (by decide), if_pos c]
    · obtain ⟨n, hn31, e⟩ := nI_of (x := a0) (fun z => c (Int32.lt_trans z (by decide)))
      subst e
      by_cases c2 : n ≤ 20000
      · obtain ⟨r, a1, b1, M1, s1, s2, s3, s4, s5, s6, s7⟩ := turn_ok (n := n) (PB := (k + 1) * PK) (TB := (k + 1) * TK) c2 (by unfold PK; omega) (by unfold TK; omega) h3 h4 h5 h7 (by rw [Nat.add_mul]; unfold PK at h8 ⊢; omega) (by rw [Nat.add_mul]; unfold TK at h9 ⊢; omega)
        have eX : cX_turn (nI n) s = some (r, a1) := by
          unfold cX_turn
          rw [h1, if_neg (by decide), isSC, if_neg c, if_neg (show ¬ (20000 : Int32) < nI n from nI_nlt (a := 20000) c2 (by decide)), Option.bind_some]
          dsimp only
          rw [if_neg (by decide), s1]; rfl
        have fX := cX_turn_fr _ _ _ eX
        have hB1 : VB rm a1 M := VB_fr h5 fX (by decide)
        have hE1 := Evp_fr h3 (fr_rf (W := []) (s := s)) fX (by decide) (by decide)
        obtain ⟨r', a1', b1', M1', s1', s2', s3', s4', s5', s6', s7'⟩ := turn_ok (n := n) (PB := (k + 1) * PK) (TB := (k + 1) * TK) c2 (by unfold PK; omega) (by unfold TK; omega) hE1 h4 hB1 h7 (by rw [Nat.add_mul]; unfold PK at h8 ⊢; omega) (by rw [Nat.add_mul]; unfold TK at h9 ⊢; omega)
        rw [s1] at s1'
        obtain ⟨er, ea⟩ := Prod.mk.inj (Option.some.inj s1')
        rw [← er] at s2'
        rw [← ea] at s3'
        have eR : cR_turn (nI n) a1 = some (r, b1') := by
          unfold cR_turn
          rw [(fX.1 1102 (by decide) 0).trans h2, if_neg (by decide), if_neg c, if_pos (show nI n ≤ (20000 : Int32) from nI_le (b := 20000) c2 (by decide))]
          exact s2'
        have fR := cR_turn_fr _ _ _ eR
        have f : fr (wf_cX_turn ++ wf_cR_turn) s b1' := fr_tr (fr_mono (by decide +kernel) fX) (fr_mono (by decide +kernel) fR)
        exact ⟨r, a1, b1', eX, eR, IV_read h0 f (by decide) (by decide) (by decide) h3 (by decide) (by decide) h1 h2 (VA_fr s3' fR (by decide)) s4' s5' s6' s7'⟩
      · refine ⟨-1, s, s, ?_, ?_, IV_up h0⟩
        · unfold cX_turn
          rw [h1, if_neg (by decide), isSC, if_neg c, if_pos (show (20000 : Int32) < nI n from nI_lt (a := 20000) (by omega) hn31), Option.bind_some]; rfl
        · unfold cR_turn
          rw [h2, if_neg (by decide), if_neg c, if_neg (show ¬ nI n ≤ (20000 : Int32) from nI_ge (a := 20000) (by omega) hn31)]
