/-! RUN and TURN, on both sides. -/
def ovr (M : Md) : Nat → Nat
  | 0 => 0
  | k + 1 => ovr M k + (if m_S M k = 5 ∨ m_S M k = 6 then 1 else 0)
theorem ovr_le {M : Md} : ∀ k, ovr M k ≤ k
  | 0 => Nat.le_refl _
  | k + 1 => by
    have := ovr_le (M := M) k
    unfold ovr
    split <;> omega
theorem ovr_mono {M M1 : Md} : ∀ k, (∀ y, y < k → (m_S M y = 5 ∨ m_S M y = 6) → (m_S M1 y = 5 ∨ m_S M1 y = 6)) → ovr M k ≤ ovr M1 k
  | 0, _ => Nat.le_refl _
  | k + 1, h => by
    have h1 := ovr_mono (M := M) (M1 := M1) k (fun y hy => h y (by omega))
    have h2 := h k (by omega)
    unfold ovr
    by_cases c : m_S M k = 5 ∨ m_S M k = 6
    · rw [if_pos c, if_pos (h2 c)]; omega
    · rw [if_neg c]; omega
theorem ovr_up {M : Md} : ∀ {k j : Nat}, k ≤ j → ovr M k ≤ ovr M j := by
  intro k j h
  induction j with
  | zero => have : k = 0 := by omega
            rw [this]; exact Nat.le_refl _
  | succ j ih =>
    by_cases c : k = j + 1
    · rw [c]; exact Nat.le_refl _
    · have := ih (by omega)
      show ovr M k ≤ ovr M j + _
      omega
theorem ovr_lt {M M1 : Md} {x : Nat} (hx : ¬ (m_S M x = 5 ∨ m_S M x = 6)) (hx1 : m_S M1 x = 5 ∨ m_S M1 x = 6) : ∀ k, x < k → (∀ y, y < k → (m_S M y = 5 ∨ m_S M y = 6) → (m_S M1 y = 5 ∨ m_S M1 y = 6)) → ovr M k + 1 ≤ ovr M1 k
  | 0, h, _ => by omega
  | k + 1, h, hm => by
    have h2 := hm k (by omega)
    unfold ovr
    by_cases cx : x = k
    · have h1 := ovr_mono (M := M) (M1 := M1) k (fun y hy => hm y (by omega))
      rw [← cx, if_neg hx, if_pos hx1]
      rw [← cx] at h1
      omega
    · have h1 := ovr_lt hx hx1 k (by omega) (fun y hy => hm y (by omega))
      by_cases c : m_S M k = 5 ∨ m_S M k = 6
      · rw [if_pos c, if_pos (h2 c)]; omega
      · rw [if_neg c]; omega
theorem run_lp {rm pm en vc un rm0 : Nat → Nat} {L : Nat → List Int64} {G : List Ln} {τ : Nat → Int32} {K K' n PB TB : Nat} (hn : n ≤ 20000) (hPB : PB < 2 ^ 62) (hTB : TB < 2000000000) : ∀ (μ done i F F' : Nat) (a b : ts) (M : Md), Evp a b L pm en vc un rm0 G τ K K' rm → VA rm a M → VB rm b M → RW rm G (L 3).length M → gI b 1191 0 = nI done → done ≤ n → 2 * (n - done) + (300 - ovr M (m_N M)) + (if m_am M = none then 1 else 0) ≤ μ → i + μ ≤ 2 * n + 301 → m_P M + μ * 2700000 ≤ PB → m_tc M + μ ≤ TB → μ < F → μ + 1 < F' → ∃ r a1 b1 M1, cH_doSteps_4 F (nI n) (nI done) (nI i) a = some (nI r, a1) ∧ cR_run_28 F' (nI n) 1 b = some (nI r, b1) ∧ VA rm a1 M1 ∧ VB rm b1 M1 ∧ RW rm G (L 3).length M1 ∧ m_P M1 ≤ PB ∧ m_tc M1 ≤ TB := by
  intro μ
  induction μ with
  | zero =>
    intro done i F F' a b M hE hA hB hW hd hdn hμ hi hP hT hF hF'
    obtain ⟨F0, rfl⟩ : ∃ F0, F = F0 + 1 := ⟨F - 1, by omega⟩
    obtain ⟨F1, rfl⟩ : ∃ F1, F' = F1 + 1 := ⟨F' - 1, by omega⟩
    refine ⟨done, a, b, M, ?_, ?_, hA, hB, hW, by omega, by omega⟩
    · rw [cH_doSteps_4.eq_2]
      unfold cH_doSteps_4_b
      rw [if_pos (nI_le (a := n) (b := done) (by omega) (by omega)), ite_self]
    · rw [cR_run_28.eq_2]
      unfold cR_run_28_b
      rw [if_neg (by decide), hd, if_pos (nI_le (by omega) (by omega))]
  | succ μ ih =>
    intro done i F F' a b M hE hA hB hW hd hdn hμ hi hP hT hF hF'
    obtain ⟨F0, rfl⟩ : ∃ F0, F = F0 + 1 := ⟨F - 1, by omega⟩
    obtain ⟨F1, rfl⟩ : ∃ F1, F' = F1 + 1 := ⟨F' - 1, by omega⟩
    by_cases cd : done = n
    · refine ⟨done, a, b, M, ?_, ?_, hA, hB, hW, by omega, by omega⟩
      · rw [cH_doSteps_4.eq_2]
        unfold cH_doSteps_4_b
        rw [if_pos (nI_le (a := n) (b := done) (by omega) (by omega)), ite_self]
      · rw [cR_run_28.eq_2]
        unfold cR_run_28_b
        rw [if_neg (by decide), hd, if_pos (nI_le (by omega) (by omega))]
    · have ovN := ovr_le (M := M) (m_N M)
      have hN := (Inv_N hW.1).1
      have eA0 : cH_doSteps_4 (F0 + 1) (nI n) (nI done) (nI i) a = (match gR a 1003 0 with
        | none => (cH_beginTurn a).bind (fun x5 => (if x5.1 = ((-2 : Int32)) then some (nI done, x5.2) else cH_doSteps_4 F0 (nI n) (nI done) (nI i + (1 : Int32)) x5.2))
        | some r1 => (cH_doStep r1 a).bind (fun s8 => cH_doSteps_4 F0 (nI n) (nI done + (1 : Int32)) (nI i + (1 : Int32)) s8)) := by
        rw [cH_doSteps_4.eq_2]
        unfold cH_doSteps_4_b
        have e2 : (2 : Int32) * (nI n + (300 : Int32)) = nI (2 * (n + 300)) := by
          rw [show (300 : Int32) = nI 300 from rfl, nI_add, show (2 : Int32) = nI 2 from rfl, pk_mul]
        rw [e2, if_neg (nI_ge (by omega) (by omega)), if_neg (nI_ge (by omega) (by omega))]
        cases gR a 1003 0 <;> rfl
      have eB0 : cR_run_28 (F1 + 1) (nI n) 1 b = (if (gI b 1159 0) = ((-2 : Int32)) then (cR_begin b).bind (fun x6 => cR_run_28 F1 (nI n) x6.1 x6.2) else (cR_step b).bind (fun s2 => cR_run_28 F1 (nI n) 1 (wI s2 1191 0 ((gI s2 1191 0) + ((1 : Int32)))))) := by
        rw [cR_run_28.eq_2]
        unfold cR_run_28_b
        rw [if_neg (by decide), hd, if_neg (nI_ge (by omega) (by omega))]
      cases ham : m_am M with
      | none =>
        rw [VA_am hA, ham] at eA0
        dsimp only at eA0
        rw [VB_am hB, ham, if_pos (show oi (-2) none = (-2 : Int32) from rfl)] at eB0
        rw [ham, if_pos rfl] at hμ
        rcases begin_ok hE hA hB hW ham (by omega) with ⟨s1, s2, s3⟩ | ⟨x, a1, b1, M1, hx3, s1, s2, s3, s4, s5, s6, s7, s8, s9, s10, s11⟩
        · obtain ⟨F2, rfl⟩ : ∃ F2, F1 = F2 + 1 := ⟨F1 - 1, by omega⟩
          refine ⟨done, a, b, M, ?_, ?_, hA, hB, hW, by omega, by omega⟩
          · rw [eA0, s1, Option.bind_some]; rfl
          · rw [eB0, s2, Option.bind_some, cR_run_28.eq_2]
            unfold cR_run_28_b
            rw [if_pos rfl, hd]
        · have fa := cH_beginTurn_fr a _ s1
          have fb := cR_begin_fr b _ s2
          have hE1 := Evp_fr hE fa fb (by decide) (by decide)
          obtain ⟨q1, q2, q3, q4⟩ := s7
          have o1 := ovr_mono (M := M) (M1 := M1) (m_N M) q4
          have o2 := ovr_up (M := M1) q1
          have o3 := ovr_le (M := M1) (m_N M1)
          have hN1 := (Inv_N s6.1).1
          have hμ1 : 2 * (n - done) + (300 - ovr M1 (m_N M1)) + (if m_am M1 = none then 1 else 0) ≤ μ := by
            by_cases c : m_am M1 = none
            · rw [if_pos c]
              have o4 := ovr_lt (M := M) (M1 := M1) (x := x) (by omega) (s10 c) (m_N M) s8 q4
              omega
            · rw [if_neg c]; omega
          obtain ⟨r, a2, b2, M2, t1, t2, t3⟩ := ih done (i + 1) F0 F1 a1 b1 M1 hE1 s4 s5 s6 ((fb.1 1191 (by decide) 0).trans hd) hdn hμ1 (by omega) (by omega) (by omega) (by omega) (by omega)
          refine ⟨r, a2, b2, M2, ?_, ?_, t3⟩
          · rw [eA0, s1, Option.bind_some]
            dsimp only
            rw [if_neg (nI_no2 (by omega)), nI_1]; exact t1
          · rw [eB0, s2, Option.bind_some]; exact t2
      | some p =>
        rw [VA_am hA, ham] at eA0
        dsimp only at eA0
        have hp := (Inv_am hW.1).2 p ham
        rw [VB_am hB, ham, if_neg (show ¬ oi (-2) (some p) = (-2 : Int32) from nI_no2 (r := p) (by omega))] at eB0
        rw [ham, if_neg (by simp)] at hμ
        obtain ⟨a1, b1, M1, s1, s2, s3, s4, s5, s6⟩ := step_ok hE hA hB hW ham (by omega)
        have fa := cH_doStep_fr p a _ s1
        have fb := cR_step_fr b _ s2
        have fb2 : fr [1188, 1191, 2140, 2141, 2142] b1 (wI b1 1191 0 (nI (done + 1))) := fr_wI fr_rf rfl
        have hE1 := Evp_fr (Evp_fr hE fa fb (by decide) (by decide)) (fr_rf (W := []) (s := a1)) fb2 rfl rfl
        obtain ⟨q1, q2, q3, q4⟩ := s6
        have o1 := ovr_mono (M := M) (M1 := M1) (m_N M) q4
        have o2 := ovr_up (M := M1) q1
        have hμ1 : 2 * (n - (done + 1)) + (300 - ovr M1 (m_N M1)) + (if m_am M1 = none then 1 else 0) ≤ μ := by
          split <;> omega
        obtain ⟨r, a2, b2, M2, t1, t2, t3⟩ := ih (done + 1) (i + 1) F0 F1 a1 (wI b1 1191 0 (nI (done + 1))) M1 hE1 s3 (rc_fr s4 fb2) s5 gI_ws (by omega) hμ1 (by omega) (by omega) (by omega) (by omega) (by omega)
        refine ⟨r, a2, b2, M2, ?_, ?_, t3⟩
        · rw [eA0, s1, Option.bind_some, nI_1, nI_1]; exact t1
        · rw [eB0, s2, Option.bind_some, (fb.1 1191 (by decide) 0).trans hd, nI_1]; exact t2
theorem turn_lp {rm pm en vc un rm0 : Nat → Nat} {L : Nat → List Int64} {G : List Ln} {τ : Nat → Int32} {K K' n PB TB x : Nat} (hn : n ≤ 20000) (hx : x < 300) (hPB : PB < 2 ^ 62) (hTB : TB < 2000000000) : ∀ (m k F F' : Nat) (a b : ts) (M : Md), Evp a b L pm en vc un rm0 G τ K K' rm → VA rm a M → VB rm b M → RW rm G (L 3).length M → k + m = n → m_P M + m * 2700000 ≤ PB → m_tc M + m ≤ TB → m < F → m < F' → ∃ r a1 b1 M1, cH_doTurn_24 F (nI n) (nI x) (nI k) a = some (r, a1) ∧ cR_turn_44 F' (nI n) (nI x) (nI k) b = some (r, b1) ∧ VA rm a1 M1 ∧ VB rm b1 M1 ∧ RW rm G (L 3).length M1 ∧ m_P M1 ≤ PB ∧ m_tc M1 ≤ TB := by
  have fin : ∀ (a b : ts) (M : Md), VA rm a M → VB rm b M → RW rm G (L 3).length M → m_P M ≤ PB → m_tc M ≤ TB → ∃ r a1 b1 M1, cH_doTurn_50 (nI x) a = some (r, a1) ∧ cR_turn_68 (nI x) b = some (r, b1) ∧ VA rm a1 M1 ∧ VB rm b1 M1 ∧ RW rm G (L 3).length M1 ∧ m_P M1 ≤ PB ∧ m_tc M1 ≤ TB := by
    intro a b M hA hB hW hP hT
    have hN := (Inv_N hW.1).1
    cases ham : m_am M with
    | none =>
      refine ⟨nI x, a, b, M, ?_, ?_, hA, hB, hW, hP, hT⟩
      · unfold cH_doTurn_50
        rw [VA_am hA, ham]
      · unfold cR_turn_68
        rw [if_neg (nI_no2 (by omega)), VB_am hB, ham, if_pos (show oi (-2) none = (-2 : Int32) from rfl)]
    | some p =>
      have hp := (Inv_am hW.1).2 p ham
      refine ⟨-3 - nI x, a, b, M, ?_, ?_, hA, hB, hW, hP, hT⟩
      · unfold cH_doTurn_50
        rw [VA_am hA, ham]
      · unfold cR_turn_68
        rw [if_neg (nI_no2 (by omega)), VB_am hB, ham, if_neg (show ¬ oi (-2) (some p) = (-2 : Int32) from nI_no2 (r := p) (by omega))]
  intro m
  induction m with
  | zero =>
    intro k F F' a b M hE hA hB hW hk hP hT hF hF'
    obtain ⟨F0, rfl⟩ : ∃ F0, F = F0 + 1 := ⟨F - 1, by omega⟩
    obtain ⟨F1, rfl⟩ : ∃ F1, F' = F1 + 1 := ⟨F' - 1, by omega⟩
    obtain ⟨r, a1, b1, M1, s1, s2, s3⟩ := fin a b M hA hB hW (by omega) (by omega)
    refine ⟨r, a1, b1, M1, ?_, ?_, s3⟩
    · rw [cH_doTurn_24.eq_2]
      unfold cH_doTurn_24_b
      rw [if_pos (nI_le (by omega) (by omega))]; exact s1
    · rw [cR_turn_44.eq_2]
      unfold cR_turn_44_b
      rw [if_pos (nI_le (by omega) (by omega))]; exact s2
  | succ m ih =>
    intro k F F' a b M hE hA hB hW hk hP hT hF hF'
    obtain ⟨F0, rfl⟩ : ∃ F0, F = F0 + 1 := ⟨F - 1, by omega⟩
    obtain ⟨F1, rfl⟩ : ∃ F1, F' = F1 + 1 := ⟨F' - 1, by omega⟩
    have hN := (Inv_N hW.1).1
    cases ham : m_am M with
    | none =>
      obtain ⟨r, a1, b1, M1, s1, s2, s3⟩ := fin a b M hA hB hW (by omega) (by omega)
      refine ⟨r, a1, b1, M1, ?_, ?_, s3⟩
      · rw [cH_doTurn_24.eq_2]
        unfold cH_doTurn_24_b
        rw [if_neg (nI_ge (by omega) (by omega)), VA_am hA, ham]; exact s1
      · rw [cR_turn_44.eq_2]
        unfold cR_turn_44_b
        rw [if_neg (nI_ge (by omega) (by omega)), VB_am hB, ham, if_pos (show oi (-2) none = (-2 : Int32) from rfl)]; exact s2
    | some p =>
      have hp := (Inv_am hW.1).2 p ham
      obtain ⟨a1, b1, M1, s1, s2, s3, s4, s5, s6⟩ := step_ok hE hA hB hW ham (by omega)
      have hE1 := Evp_fr hE (cH_doStep_fr p a _ s1) (cR_step_fr b _ s2) (by decide) (by decide)
      obtain ⟨q1, q2, q3, q4⟩ := s6
      obtain ⟨r, a2, b2, M2, t1, t2, t3⟩ := ih (k + 1) F0 F1 a1 b1 M1 hE1 s3 s4 s5 (by omega) (by omega) (by omega) (by omega) (by omega)
      refine ⟨r, a2, b2, M2, ?_, ?_, t3⟩
      · rw [cH_doTurn_24.eq_2]
        unfold cH_doTurn_24_b
        rw [if_neg (nI_ge (by omega) (by omega)), VA_am hA, ham]
        dsimp only
        rw [s1, Option.bind_some, nI_1]; exact t1
      · rw [cR_turn_44.eq_2]
        unfold cR_turn_44_b
        rw [if_neg (nI_ge (by omega) (by omega)), VB_am hB, ham, if_neg (show ¬ oi (-2) (some p) = (-2 : Int32) from nI_no2 (r := p) (by omega)), s2, Option.bind_some, nI_1]; exact t2
