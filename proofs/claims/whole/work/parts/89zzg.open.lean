/-! A TEXT IS TAKEN: the state that a load leaves, on both sides. -/
def M00 (un : Nat → Nat) (sd : Int32) : Md := (0, fun _ => 0, fun _ => 0, fun _ => 0, fun _ => 0, fun _ => 0, fun _ _ => 0, fun _ => [], fun _ => 0, fun _ => 0, fun _ => 0, fun _ => 0, fun _ _ => 0, fun _ => 0, fun q => nI (un q), fun _ => 0, fun _ => 0, fun _ => 0, fun _ => 0, fun _ => 0, fun _ => 0, fun _ => 0, 0, 0, 0, fun _ => 0, sd, 0, 0, 0, 0, fun _ => 0, fun _ => 0, none)
theorem p_M00 : (∀ (un : Nat → Nat) (sd : Int32), m_N (M00 un sd) = 0) ∧ (∀ (un : Nat → Nat) (sd : Int32), m_S (M00 un sd) = fun _ => 0) ∧ (∀ (un : Nat → Nat) (sd : Int32), m_W (M00 un sd) = fun _ => 0) ∧ (∀ (un : Nat → Nat) (sd : Int32), m_T (M00 un sd) = fun _ => 0) ∧ (∀ (un : Nat → Nat) (sd : Int32), m_Lr (M00 un sd) = fun _ => 0) ∧ (∀ (un : Nat → Nat) (sd : Int32), m_D (M00 un sd) = fun _ => 0) ∧ (∀ (un : Nat → Nat) (sd : Int32), m_U (M00 un sd) = fun _ _ => 0) ∧ (∀ (un : Nat → Nat) (sd : Int32), m_R (M00 un sd) = fun _ => []) ∧ (∀ (un : Nat → Nat) (sd : Int32), m_K (M00 un sd) = fun _ => 0) ∧ (∀ (un : Nat → Nat) (sd : Int32), m_A (M00 un sd) = fun _ => 0) ∧ (∀ (un : Nat → Nat) (sd : Int32), m_Zs (M00 un sd) = fun _ => 0) ∧ (∀ (un : Nat → Nat) (sd : Int32), m_Xw (M00 un sd) = fun _ => 0) ∧ (∀ (un : Nat → Nat) (sd : Int32), m_V (M00 un sd) = fun _ _ => 0) ∧ (∀ (un : Nat → Nat) (sd : Int32), m_nu (M00 un sd) = fun _ => 0) ∧ (∀ (un : Nat → Nat) (sd : Int32), m_th (M00 un sd) = fun q => nI (un q)) ∧ (∀ (un : Nat → Nat) (sd : Int32), m_sv (M00 un sd) = fun _ => 0) ∧ (∀ (un : Nat → Nat) (sd : Int32), m_lt (M00 un sd) = fun _ => 0) ∧ (∀ (un : Nat → Nat) (sd : Int32), m_mw (M00 un sd) = fun _ => 0) ∧ (∀ (un : Nat → Nat) (sd : Int32), m_mb (M00 un sd) = fun _ => 0) ∧ (∀ (un : Nat → Nat) (sd : Int32), m_s0 (M00 un sd) = fun _ => 0) ∧ (∀ (un : Nat → Nat) (sd : Int32), m_s1 (M00 un sd) = fun _ => 0) ∧ (∀ (un : Nat → Nat) (sd : Int32), m_s2 (M00 un sd) = fun _ => 0) ∧ (∀ (un : Nat → Nat) (sd : Int32), m_tm (M00 un sd) = 0) ∧ (∀ (un : Nat → Nat) (sd : Int32), m_tc (M00 un sd) = 0) ∧ (∀ (un : Nat → Nat) (sd : Int32), m_P (M00 un sd) = 0) ∧ (∀ (un : Nat → Nat) (sd : Int32), m_pa (M00 un sd) = fun _ => 0) ∧ (∀ (un : Nat → Nat) (sd : Int32), m_sd (M00 un sd) = sd) ∧ (∀ (un : Nat → Nat) (sd : Int32), m_st (M00 un sd) = 0) ∧ (∀ (un : Nat → Nat) (sd : Int32), m_tn (M00 un sd) = 0) ∧ (∀ (un : Nat → Nat) (sd : Int32), m_en (M00 un sd) = 0) ∧ (∀ (un : Nat → Nat) (sd : Int32), m_wg (M00 un sd) = 0) ∧ (∀ (un : Nat → Nat) (sd : Int32), m_tt (M00 un sd) = fun _ => 0) ∧ (∀ (un : Nat → Nat) (sd : Int32), m_tv (M00 un sd) = fun _ => 0) ∧ (∀ (un : Nat → Nat) (sd : Int32), m_am (M00 un sd) = none) := ⟨fun _ _ => rfl, fun _ _ => rfl, fun _ _ => rfl, fun _ _ => rfl, fun _ _ => rfl, fun _ _ => rfl, fun _ _ => rfl, fun _ _ => rfl, fun _ _ => rfl, fun _ _ => rfl, fun _ _ => rfl, fun _ _ => rfl, fun _ _ => rfl, fun _ _ => rfl, fun _ _ => rfl, fun _ _ => rfl, fun _ _ => rfl, fun _ _ => rfl, fun _ _ => rfl, fun _ _ => rfl, fun _ _ => rfl, fun _ _ => rfl, fun _ _ => rfl, fun _ _ => rfl, fun _ _ => rfl, fun _ _ => rfl, fun _ _ => rfl, fun _ _ => rfl, fun _ _ => rfl, fun _ _ => rfl, fun _ _ => rfl, fun _ _ => rfl, fun _ _ => rfl, fun _ _ => rfl⟩
def OpQ (rm un : Nat → Nat) (s : ts) (q : Nat) : Prop := (gR s 600 (2 * q) = none ∧ gI s 601 (2 * q) = 0 ∧ gR s 600 (2 * q + 1) = none ∧ gI s 601 (2 * q + 1) = 0) ∧ gI s 703 q = nI (un q) ∧ gI s 704 q = nI (rm q) ∧ gI s 705 q = 0 ∧ gI s 706 q = 0 ∧ gI s 707 q = 0 ∧ gJ s 708 q = 0 ∧ gJ s 709 q = 0 ∧ gJ s 710 q = 0
def kop (s : ts) (q : Nat) (x y : Int32) : ts := wJ (wJ (wJ (wI (wI (wI (wI (wI (wI (wR (wI (wR s 600 (2 * q) none) 601 (2 * q) 0) 600 (2 * q + 1) none) 601 (2 * q + 1) 0) 703 q x) 704 q y) 705 q 0) 706 q 0) 707 q 0) 708 q 0) 709 q 0) 710 q 0
theorem kop_I {s : ts} {q f i : Nat} {x y : Int32} : gI (kop s q x y) f i = if f = 707 ∧ i = q then 0 else if f = 706 ∧ i = q then 0 else if f = 705 ∧ i = q then 0 else if f = 704 ∧ i = q then y else if f = 703 ∧ i = q then x else if f = 601 ∧ i = 2 * q + 1 then 0 else if f = 601 ∧ i = 2 * q then 0 else gI s f i := rfl
theorem kop_R {s : ts} {q f i : Nat} {x y : Int32} : gR (kop s q x y) f i = if f = 600 ∧ i = 2 * q + 1 then none else if f = 600 ∧ i = 2 * q then none else gR s f i := rfl
theorem kop_J {s : ts} {q f i : Nat} {x y : Int32} : gJ (kop s q x y) f i = if f = 710 ∧ i = q then 0 else if f = 709 ∧ i = q then 0 else if f = 708 ∧ i = q then 0 else gJ s f i := rfl
theorem kop_ok {s : ts} {q : Nat} {x y : Int32} (hq : q < 14) : cK_open q x y s = some (kop s q x y) := by
  unfold cK_open cN_clear
  rw [if_pos hq, if_pos (by omega), Option.bind_some, if_pos (by omega), Option.bind_some]; rfl
theorem kop_fr {s : ts} {q : Nat} {x y : Int32} : fr [601, 703, 704, 705, 706, 707, 4708, 4709, 4710, 6600] s (kop s q x y) := fr_wJ (fr_wJ (fr_wJ (fr_wI (fr_wI (fr_wI (fr_wI (fr_wI (fr_wI (fr_wR (fr_wI (fr_wR fr_rf rfl) rfl) rfl) rfl) rfl) rfl) rfl) rfl) rfl) rfl) rfl) rfl
theorem kop_new {rm un : Nat → Nat} {s : ts} {q : Nat} : OpQ rm un (kop s q (nI (un q)) (nI (rm q))) q := by
  unfold OpQ
  simp only [kop_I, kop_R, kop_J, Nat.reduceEqDiff, and_true, true_and, and_false, false_and, if_true, if_false, eq_self, show (2 * q = 2 * q + 1) = False from eq_false (by omega)]
theorem kop_old {rm un : Nat → Nat} {s : ts} {q p : Nat} {x y : Int32} (h : OpQ rm un s p) (hne : ¬ p = q) : OpQ rm un (kop s q x y) p := by
  unfold OpQ at h ⊢
  simp only [kop_I, kop_R, kop_J, Nat.reduceEqDiff, and_true, true_and, and_false, false_and, if_true, if_false, eq_self, show (2 * p = 2 * q + 1) = False from eq_false (by omega), show (2 * p = 2 * q) = False from eq_false (by omega), show (2 * p + 1 = 2 * q + 1) = False from eq_false (by omega), show (2 * p + 1 = 2 * q) = False from eq_false (by omega), show (p = q) = False from eq_false hne]
  exact h
theorem open28 {rm un : Nat → Nat} : ∀ (k q F : Nat) (s : ts), q + k = 14 → k < F → (∀ p, p < 14 → gA s 17 p = nI (un p) ∧ gA s 18 p = nI (rm p)) → (∀ p, p < q → OpQ rm un s p) → ∃ s1, cW_open_28 F (nI q) s = some s1 ∧ (∀ p, p < 14 → OpQ rm un s1 p) ∧ fr [601, 703, 704, 705, 706, 707, 4708, 4709, 4710, 6600] s s1 := by
  intro k
  induction k with
  | zero =>
    intro q F s hk hF hp ho
    obtain ⟨F0, rfl⟩ : ∃ F0, F = F0 + 1 := ⟨F - 1, by omega⟩
    have e : q = 14 := by omega
    subst e
    refine ⟨s, ?_, ho, fr_rf⟩
    rw [cW_open_28.eq_2]
    unfold cW_open_28_b
    rw [if_pos (by decide)]
  | succ k ih =>
    intro q F s hk hF hp ho
    obtain ⟨F0, rfl⟩ : ∃ F0, F = F0 + 1 := ⟨F - 1, by omega⟩
    have hq : q < 14 := by omega
    have z := hp q hq
    have fr1 := kop_fr (s := s) (q := q) (x := nI (un q)) (y := nI (rm q))
    obtain ⟨s1, h1, h2, h3⟩ := ih (q + 1) F0 (kop s q (nI (un q)) (nI (rm q))) (by omega) (by omega) (fun p hp1 => by rw [fr1.2.1 17 rfl, fr1.2.1 18 rfl]; exact hp p hp1) (fun p hp1 => by
      by_cases c : p = q
      · rw [c]; exact kop_new
      · exact kop_old (ho p (by omega)) c)
    refine ⟨s1, ?_, h2, fr_tr fr1 h3⟩
    rw [cW_open_28.eq_2]
    unfold cW_open_28_b
    rw [if_neg (show ¬ (14 : Int32) ≤ nI q from nI_ge (b := 14) hq (by decide)), if_pos (nI_idx hq (by decide)), nI_clamp (by omega), z.1, z.2, kop_ok hq, Option.bind_some, nI_1]
    exact h1
theorem open7 : ∀ (k i F : Nat) (s : ts), i + k = 16 → k < F → ∃ s1, cW_open_7 F (nI i) s = cW_open_28 tm_N 0 s1 ∧ (∀ j, i ≤ j → j < 16 → gA s1 36 j = 0) ∧ (∀ j, j < i → gA s1 36 j = gA s 36 j) ∧ fr [2036] s s1 := by
  intro k
  induction k with
  | zero =>
    intro i F s hk hF
    obtain ⟨F0, rfl⟩ : ∃ F0, F = F0 + 1 := ⟨F - 1, by omega⟩
    have e : i = 16 := by omega
    subst e
    refine ⟨s, ?_, fun j h1 h2 => by omega, fun _ _ => rfl, fr_rf⟩
    rw [cW_open_7.eq_2]
    unfold cW_open_7_b
    rw [if_pos (by decide)]
  | succ k ih =>
    intro i F s hk hF
    obtain ⟨F0, rfl⟩ : ∃ F0, F = F0 + 1 := ⟨F - 1, by omega⟩
    obtain ⟨s1, h1, h2, h3, h4⟩ := ih (i + 1) F0 (wA s 36 i 0) (by omega) (by omega)
    refine ⟨s1, ?_, fun j h5 h6 => ?_, fun j h5 => ?_, fr_tr (fr_wA fr_rf rfl) h4⟩
    · rw [cW_open_7.eq_2]
      unfold cW_open_7_b
      rw [if_neg (show ¬ (16 : Int32) ≤ nI i from nI_ge (b := 16) (by omega) (by decide)), if_pos (nI_idx (by omega) (by decide)), nI_clamp (by omega), nI_1]; exact h1
    · by_cases c : j = i
      · rw [c, h3 i (by omega), gA_ws]
      · exact h2 j (by omega) h6
    · rw [h3 j (by omega), gA_wn (by omega)]
theorem ln_nil {s : ts} {l : Nat} (h1 : gR s 600 l = none) (h2 : gI s 601 l = 0) : ln s l [] := ⟨h1, h2, trivial, List.nodup_nil, fun x hx => by cases hx⟩
theorem openA_ok {rm un : Nat → Nat} {s : ts} (hp : ∀ p, p < 14 → gA s 17 p = nI (un p) ∧ gA s 18 p = nI (rm p)) (hM : gM s ≤ 300) (hno : ∀ p, p < gM s → gI s 500 p = nI p) (hiS : ∀ q, q < 14 → gI s 700 q = if q < 8 then 0 else 1) : ∃ s1, cH_open s = some s1 ∧ VA rm s1 (M00 un (gI s 801 0)) := by
  obtain ⟨s1, a1, a2, a3, a4⟩ := open7 16 0 tm_N (wI s 800 0 0) (by omega) (by unfold tm_N; omega)
  have f1 : fr [800, 2036] s s1 := fr_tr (fr_wI fr_rf rfl) (fr_mono (by decide) a4)
  obtain ⟨s2, b1, b2, b3⟩ := open28 (rm := rm) (un := un) 14 0 tm_N s1 (by omega) (by unfold tm_N; omega) (fun p hp1 => by rw [f1.2.1 17 rfl, f1.2.1 18 rfl]; exact hp p hp1) (fun p h => by omega)
  generalize hs3 : wI (wI (wI (wR (wI (wI (wI (wI (wR (wI (wR s2 600 28 none) 601 28 0) 600 29 none) 601 29 0) 904 0 0) 905 0 0) 906 0 0) 1003 0 none) 1004 0 0) 1005 0 0) 1008 0 0 = s3
  have f3 : fr [601, 904, 905, 906, 1004, 1005, 1008, 6600, 7003] s2 s3 := by
    rw [← hs3]
    exact fr_wI (fr_wI (fr_wI (fr_wR (fr_wI (fr_wI (fr_wI (fr_wI (fr_wR (fr_wI (fr_wR fr_rf rfl) rfl) rfl) rfl) rfl) rfl) rfl) rfl) rfl) rfl) rfl
  have fall : fr [601, 703, 704, 705, 706, 707, 800, 904, 905, 906, 1004, 1005, 1008, 2036, 4708, 4709, 4710, 6600, 7003] s s3 := fr_tr (fr_tr (fr_mono (by decide) f1) (fr_mono (by decide) b3)) (fr_mono (by decide) f3)
  have e600 : ∀ l, gR s3 600 l = if l = 29 then none else if l = 28 then none else gR s2 600 l := fun l => by
    rw [← hs3]
    show gR (wR (wI (wI (wI (wI (wR (wI (wR s2 600 28 none) 601 28 0) 600 29 none) 601 29 0) 904 0 0) 905 0 0) 906 0 0) 1003 0 none) 600 l = _
    rw [gR_wRf (by decide)]
    show gR (wR (wI (wR s2 600 28 none) 601 28 0) 600 29 none) 600 l = _
    by_cases c : l = 29
    · rw [c, gR_wRs, if_pos rfl]
    · rw [gR_wRi c, if_neg c]
      show gR (wR s2 600 28 none) 600 l = _
      by_cases c2 : l = 28
      · rw [c2, gR_wRs, if_pos rfl]
      · rw [gR_wRi c2, if_neg c2]
  have e601 : ∀ l, gI s3 601 l = if l = 29 then 0 else if l = 28 then 0 else gI s2 601 l := fun l => by
    rw [← hs3, gI_wf (by decide), gI_wf (by decide), gI_wf (by decide)]
    show gI (wI (wI (wI (wI (wR (wI (wR s2 600 28 none) 601 28 0) 600 29 none) 601 29 0) 904 0 0) 905 0 0) 906 0 0) 601 l = _
    rw [gI_wf (by decide), gI_wf (by decide), gI_wf (by decide)]
    by_cases c : l = 29
    · rw [c, gI_ws, if_pos rfl]
    · rw [gI_wIi c, if_neg c]
      show gI (wI (wR s2 600 28 none) 601 28 0) 601 l = _
      by_cases c2 : l = 28
      · rw [c2, gI_ws, if_pos rfl]
      · rw [gI_wIi c2, if_neg c2]; rfl
  have hz : ∀ f, f = 904 ∨ f = 905 ∨ f = 906 ∨ f = 1004 ∨ f = 1005 ∨ f = 1008 → gI s3 f 0 = 0 := fun f hf => by
    rw [← hs3]
    rcases hf with e | e | e | e | e | e
    · rw [e, gI_wf (by decide), gI_wf (by decide), gI_wf (by decide), gI_wR, gI_wf (by decide), gI_wf (by decide), gI_ws]
    · rw [e, gI_wf (by decide), gI_wf (by decide), gI_wf (by decide), gI_wR, gI_wf (by decide), gI_ws]
    · rw [e, gI_wf (by decide), gI_wf (by decide), gI_wf (by decide), gI_wR, gI_ws]
    · rw [e, gI_wf (by decide), gI_wf (by decide), gI_ws]
    · rw [e, gI_wf (by decide), gI_ws]
    · rw [e, gI_ws]
  have ham : gR s3 1003 0 = none := by
    rw [← hs3]
    rw [gR_wI, gR_wI, gR_wI, gR_wRs]
  have hgM : gM s3 = gM s := fall.2.2.2.2.2.2.2.1 rfl
  refine ⟨s3, ?_, ?_⟩
  · unfold cH_open cW_open cO_clear cN_clear
    have a1 : cW_open_7 tm_N 0 (wI s 800 0 0) = _ := a1
    have b1 : cW_open_28 tm_N 0 s1 = some s2 := b1
    rw [a1, b1, Option.bind_some, if_pos (by decide), Option.bind_some, if_pos (by decide), Option.bind_some, Option.bind_some, hs3]
  · unfold VA
    simp only [p_M00]
    have hO : ∀ q, q < 14 → OpQ rm un s2 q := b2
    refine ⟨?_, fall.1 801 rfl 0, fun i hi => ?_, hz 1004 (by omega), hz 1005 (by omega), hz 904 (by omega), hz 905 (by omega), hz 906 (by omega), hz 1008 (by omega), fun k h1 h2 => by omega, ham, fun q hq => ?_, fun q hq => ?_, fun q hq => ?_, fun q hq => ?_, fun q hq => ?_, fun q hq => ?_, fun q hq => ?_, fun q hq => ?_, fun q hq => ?_, ⟨Nat.zero_le _, by rw [hgM]; exact hM⟩, fun p hp1 => ?_, fun p hp1 => by omega, fun p hp1 => by omega, fun p hp1 => by omega, fun p hp1 => by omega, fun p hp1 => by omega, fun p hp1 => by omega, fun p hp1 => by omega, fun p hp1 => by omega, fun p hp1 => by omega, fun p hp1 => by omega, fun ρ hρ => ?_, fun p hp1 => by omega⟩
    · rw [f3.1 800 rfl, b3.1 800 rfl, a4.1 800 rfl, gI_ws]; rfl
    · rw [f3.2.1 36 rfl, b3.2.1 36 rfl]; exact a2 i (by omega) hi
    · rw [f3.1 703 rfl]; exact (hO q hq).2.1
    · rw [f3.1 704 rfl]; exact (hO q hq).2.2.1
    · rw [f3.1 705 rfl]; exact (hO q hq).2.2.2.1
    · rw [f3.1 706 rfl]; exact (hO q hq).2.2.2.2.1
    · rw [f3.1 707 rfl]; exact (hO q hq).2.2.2.2.2.1
    · rw [f3.2.2.2.1 708 rfl]; exact (hO q hq).2.2.2.2.2.2.1
    · rw [f3.2.2.2.1 709 rfl]; exact (hO q hq).2.2.2.2.2.2.2.1
    · rw [f3.2.2.2.1 710 rfl]; exact (hO q hq).2.2.2.2.2.2.2.2
    · rw [fall.1 700 rfl]; exact hiS q hq
    · rw [fall.1 500 rfl]; exact hno p (by rw [← hgM]; exact hp1)
    · refine ln_nil ?_ ?_
      · rw [e600]
        unfold lno
        by_cases c1 : ρ < 14
        · rw [if_pos c1, if_neg (by omega), if_neg (by omega)]; exact (hO ρ c1).1.1
        · rw [if_neg c1]
          by_cases c2 : ρ < 28
          · rw [if_pos c2, if_neg (by omega), if_neg (by omega)]; exact (hO (ρ - 14) (by omega)).1.2.2.1
          · rw [if_neg c2]
            by_cases c3 : ρ = 29
            · rw [if_pos c3]
            · rw [if_neg c3, if_pos (by omega)]
      · rw [e601]
        unfold lno
        by_cases c1 : ρ < 14
        · rw [if_pos c1, if_neg (by omega), if_neg (by omega)]; exact (hO ρ c1).1.2.1
        · rw [if_neg c1]
          by_cases c2 : ρ < 28
          · rw [if_pos c2, if_neg (by omega), if_neg (by omega)]; exact (hO (ρ - 14) (by omega)).1.2.2.2
          · rw [if_neg c2]
            by_cases c3 : ρ = 29
            · rw [if_pos c3]
            · rw [if_neg c3, if_pos (by omega)]
