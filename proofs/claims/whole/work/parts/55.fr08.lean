/-! WHAT A FUNCTION MAY WRITE: printed by wip/tools/frames.py. -/
theorem cR_turn_44_b_fr (kk : Int32 → Int32 → Int32 → ts → Option (Int32 × ts)) (hkk : ∀ (a0 : Int32) (a1 : Int32) (a2 : Int32) (s : ts) (r : Int32 × ts), kk a0 a1 a2 s = some r → fr wf_cR_turn s r.2) (l1 : Int32) (l2 : Int32) (l3 : Int32) (s : ts) (r : Int32 × ts) (h : cR_turn_44_b kk l1 l2 l3 s = some r) : fr wf_cR_turn s r.2 := by
  unfold cR_turn_44_b at h
  refine FI h (fun h => ?_) (fun h => ?_)
  · exact fr_tr (fr_rf) (cR_turn_68_fr l2 _ _ h)
  · refine FI h (fun h => ?_) (fun h => ?_)
    · exact fr_tr (fr_rf) (cR_turn_68_fr l2 _ _ h)
    · obtain ⟨s2, hs2, h⟩ := FB h
      have f1 := fr_tr (W := wf_cR_turn) (fr_rf) (fr_mono (by decide +kernel) (cR_step_fr _ _ hs2))
      exact fr_tr (f1) (hkk l1 l2 (l3 + (1 : Int32)) _ _ h)
theorem cR_turn_44_fr : ∀ (n : Nat) (l1 : Int32) (l2 : Int32) (l3 : Int32) (s : ts) (r : Int32 × ts), cR_turn_44 n l1 l2 l3 s = some r → fr wf_cR_turn s r.2 := by
  intro n
  induction n with
  | zero => intro l1 l2 l3 s r h; exact FN h
  | succ n ih =>
    intro l1 l2 l3 s r h
    rw [cR_turn_44.eq_2] at h
    exact cR_turn_44_b_fr (cR_turn_44 n) ih l1 l2 l3 s r h
theorem cR_turn_fr (l1 : Int32) (s : ts) (r : Int32 × ts) (h : cR_turn l1 s = some r) : fr wf_cR_turn s r.2 := by
  unfold cR_turn at h
  refine FI h (fun h => ?_) (fun h => ?_)
  · exact FS h (fr_rf)
  · refine FI h (fun h => ?_) (fun h => ?_)
    · exact FS h (fr_rf)
    · refine FI h (fun h => ?_) (fun h => ?_)
      · refine FI h (fun h => ?_) (fun h => ?_)
        · obtain ⟨x3, hx3, h⟩ := FB h
          have f1 := fr_tr (W := wf_cR_turn) (fr_rf) (fr_mono (by decide +kernel) (cR_taken_fr _ _ hx3))
          obtain ⟨x6, hx6, h⟩ := FB h
          have f2 := fr_tr (W := wf_cR_turn) (f1) (fr_mono (by decide +kernel) (cR_begin_fr _ _ hx6))
          exact fr_tr (f2) (cR_turn_44_fr tm_N l1 x3.1 ((0 : Int32)) _ _ h)
        · exact fr_tr (fr_rf) (cR_turn_44_fr tm_N l1 (gI s 1159 0) ((0 : Int32)) _ _ h)
      · exact FS h (fr_rf)
theorem cW_waitingAtPlaces_4_b_fr (kk : Int32 → Int32 → ts → Option (Int32 × ts)) (hkk : ∀ (a0 : Int32) (a1 : Int32) (s : ts) (r : Int32 × ts), kk a0 a1 s = some r → fr wf_cW_waitingAtPlaces s r.2) (l1 : Int32) (l2 : Int32) (s : ts) (r : Int32 × ts) (h : cW_waitingAtPlaces_4_b kk l1 l2 s = some r) : fr wf_cW_waitingAtPlaces s r.2 := by
  unfold cW_waitingAtPlaces_4_b at h
  refine FI h (fun h => ?_) (fun h => ?_)
  · exact FS h (fr_rf)
  · obtain ⟨x3, hx3, h⟩ := FB h
    have f1 := fr_tr (W := wf_cW_waitingAtPlaces) (fr_rf) (fr_mono (by decide +kernel) (cW_look_fr ((535 : Int32)) l2 _ _ hx3))
    exact fr_tr (f1) (hkk (l1 + x3.1) (l2 + (1 : Int32)) _ _ h)
theorem cW_waitingAtPlaces_4_fr : ∀ (n : Nat) (l1 : Int32) (l2 : Int32) (s : ts) (r : Int32 × ts), cW_waitingAtPlaces_4 n l1 l2 s = some r → fr wf_cW_waitingAtPlaces s r.2 := by
  intro n
  induction n with
  | zero => intro l1 l2 s r h; exact FN h
  | succ n ih =>
    intro l1 l2 s r h
    rw [cW_waitingAtPlaces_4.eq_2] at h
    exact cW_waitingAtPlaces_4_b_fr (cW_waitingAtPlaces_4 n) ih l1 l2 s r h
theorem cW_waitingAtPlaces_fr (s : ts) (r : Int32 × ts) (h : cW_waitingAtPlaces s = some r) : fr wf_cW_waitingAtPlaces s r.2 := by
  unfold cW_waitingAtPlaces at h
  exact fr_tr (fr_rf) (cW_waitingAtPlaces_4_fr tm_N ((0 : Int32)) ((0 : Int32)) _ _ h)
theorem cH_tellState_fr (l1 : Int32) (s : ts) (r : Int32 × ts) (h : cH_tellState l1 s = some r) : fr wf_cH_tellState s r.2 := by
  unfold cH_tellState at h
  refine FI h (fun h => ?_) (fun h => ?_)
  · exact FS h (fr_rf)
  · refine FI h (fun h => ?_) (fun h => ?_)
    · exact FS h (fr_rf)
    · refine FI h (fun h => ?_) (fun h => ?_)
      · exact FS h (fr_rf)
      · refine FI h (fun h => ?_) (fun h => ?_)
        · exact FS h (fr_rf)
        · refine FI h (fun h => ?_) (fun h => ?_)
          · exact FS h (fr_rf)
          · refine FI h (fun h => ?_) (fun h => ?_)
            · obtain ⟨x8, hx8, h⟩ := FB h
              have f1 := fr_tr (W := wf_cH_tellState) (fr_rf) (fr_mono (by decide +kernel) (cW_waitingAtPlaces_fr _ _ hx8))
              exact FS h (f1)
            · refine FI h (fun h => ?_) (fun h => ?_)
              · exact FS h (fr_rf)
              · refine FI h (fun h => ?_) (fun h => ?_)
                · exact FS h (fr_rf)
                · refine FI h (fun h => ?_) (fun h => ?_)
                  · exact FS h (fr_rf)
                  · refine FI h (fun h => ?_) (fun h => ?_)
                    · exact FS h (fr_rf)
                    · refine FI h (fun h => ?_) (fun h => ?_)
                      · cases e2 : gR s 1003 0 with
                        | none =>
                          rw [e2] at h
                          try dsimp only at h
                          exact FS h (fr_rf)
                        | some r14 =>
                          rw [e2] at h
                          try dsimp only at h
                          replace h := FG h
                          exact FS h (fr_rf)
                      · exact FS h (fr_rf)
theorem cX_state_fr (l1 : Int32) (s : ts) (r : Int32 × ts) (h : cX_state l1 s = some r) : fr wf_cX_state s r.2 := by
  unfold cX_state at h
  refine FI h (fun h => ?_) (fun h => ?_)
  · exact FS h (fr_rf)
  · refine FI h (fun h => ?_) (fun h => ?_)
    · exact FS h (fr_rf)
    · refine FI h (fun h => ?_) (fun h => ?_)
      · exact FS h (fr_rf)
      · obtain ⟨x3, hx3, h⟩ := FB h
        have f1 := fr_tr (W := wf_cX_state) (fr_rf) (fr_mono (by decide +kernel) (cH_tellState_fr l1 _ _ hx3))
        exact FS h (f1)
theorem cR_countOf_5_b_fr (kk : Int32 → Int32 → Int32 → Int32 → ts → Option (Int32 × ts)) (hkk : ∀ (a0 : Int32) (a1 : Int32) (a2 : Int32) (a3 : Int32) (s : ts) (r : Int32 × ts), kk a0 a1 a2 a3 s = some r → fr wf_cR_countOf s r.2) (l1 : Int32) (l2 : Int32) (l3 : Int32) (l4 : Int32) (s : ts) (r : Int32 × ts) (h : cR_countOf_5_b kk l1 l2 l3 l4 s = some r) : fr wf_cR_countOf s r.2 := by
  unfold cR_countOf_5_b at h
  refine FI h (fun h => ?_) (fun h => ?_)
  · exact FS h (fr_rf)
  · replace h := FG h
    refine FI h (fun h => ?_) (fun h => ?_)
    · exact fr_tr (fr_rf) (hkk l1 l2 (l3 + ((0 : Int32))) (l4 + (1 : Int32)) _ _ h)
    · refine FI h (fun h => ?_) (fun h => ?_)
      · exact fr_tr (fr_rf) (hkk l1 l2 (l3 + ((0 : Int32))) (l4 + (1 : Int32)) _ _ h)
      · exact fr_tr (fr_rf) (hkk l1 l2 (l3 + ((1 : Int32))) (l4 + (1 : Int32)) _ _ h)
theorem cR_countOf_5_fr : ∀ (n : Nat) (l1 : Int32) (l2 : Int32) (l3 : Int32) (l4 : Int32) (s : ts) (r : Int32 × ts), cR_countOf_5 n l1 l2 l3 l4 s = some r → fr wf_cR_countOf s r.2 := by
  intro n
  induction n with
  | zero => intro l1 l2 l3 l4 s r h; exact FN h
  | succ n ih =>
    intro l1 l2 l3 l4 s r h
    rw [cR_countOf_5.eq_2] at h
    exact cR_countOf_5_b_fr (cR_countOf_5 n) ih l1 l2 l3 l4 s r h
theorem cR_countOf_fr (l1 : Int32) (l2 : Int32) (s : ts) (r : Int32 × ts) (h : cR_countOf l1 l2 s = some r) : fr wf_cR_countOf s r.2 := by
  unfold cR_countOf at h
  exact fr_tr (fr_rf) (cR_countOf_5_fr tm_N l1 l2 ((0 : Int32)) ((0 : Int32)) _ _ h)
theorem cR_state_12_fr (l1 : Int32) (s : ts) (r : Int32 × ts) (h : cR_state_12 l1 s = some r) : fr wf_cR_state s r.2 := by
  unfold cR_state_12 at h
  refine FI h (fun h => ?_) (fun h => ?_)
  · exact FS h (fr_rf)
  · exact FS h (fr_rf)
theorem cR_state_fr (l1 : Int32) (s : ts) (r : Int32 × ts) (h : cR_state l1 s = some r) : fr wf_cR_state s r.2 := by
  unfold cR_state at h
  refine FI h (fun h => ?_) (fun h => ?_)
  · exact fr_tr (fr_rf) (cR_state_12_fr l1 _ _ h)
  · refine FI h (fun h => ?_) (fun h => ?_)
    · exact fr_tr (fr_rf) (cR_state_12_fr l1 _ _ h)
    · refine FI h (fun h => ?_) (fun h => ?_)
      · exact FS h (fr_rf)
      · refine FI h (fun h => ?_) (fun h => ?_)
        · exact FS h (fr_rf)
        · refine FI h (fun h => ?_) (fun h => ?_)
          · exact FS h (fr_rf)
          · refine FI h (fun h => ?_) (fun h => ?_)
            · exact FS h (fr_rf)
            · refine FI h (fun h => ?_) (fun h => ?_)
              · exact FS h (fr_rf)
              · refine FI h (fun h => ?_) (fun h => ?_)
                · obtain ⟨x7, hx7, h⟩ := FB h
                  have f1 := fr_tr (W := wf_cR_state) (fr_rf) (fr_mono (by decide +kernel) (cR_countOf_fr ((0 : Int32)) ((1 : Int32)) _ _ hx7))
                  exact FS h (f1)
                · refine FI h (fun h => ?_) (fun h => ?_)
                  · obtain ⟨x11, hx11, h⟩ := FB h
                    have f2 := fr_tr (W := wf_cR_state) (fr_rf) (fr_mono (by decide +kernel) (cR_countOf_fr ((2 : Int32)) ((4 : Int32)) _ _ hx11))
                    exact FS h (f2)
                  · refine FI h (fun h => ?_) (fun h => ?_)
                    · exact FS h (fr_rf)
                    · refine FI h (fun h => ?_) (fun h => ?_)
                      · exact FS h (fr_rf)
                      · refine FI h (fun h => ?_) (fun h => ?_)
                        · exact FS h (fr_rf)
                        · refine FI h (fun h => ?_) (fun h => ?_)
                          · exact FS h (fr_rf)
                          · refine FI h (fun h => ?_) (fun h => ?_)
                            · exact FS h (fr_rf)
                            · exact FS h (fr_rf)
theorem cX_number_fr (l1 : Int32) (s : ts) (r : Int32 × ts) (h : cX_number l1 s = some r) : fr wf_cX_number s r.2 := by
  unfold cX_number at h
  refine FI h (fun h => ?_) (fun h => ?_)
  · exact FS h (fr_rf)
  · refine FI h (fun h => ?_) (fun h => ?_)
    · exact FS h (fr_rf)
    · refine FI h (fun h => ?_) (fun h => ?_)
      · exact FS h (fr_rf)
      · obtain ⟨x3, hx3, h⟩ := FB h
        have f1 := fr_tr (W := wf_cX_number) (fr_rf) (fr_mono (by decide +kernel) (cW_numberAt_fr l1 _ _ hx3))
        exact FS h (f1)
theorem cR_number_fr (l1 : Int32) (s : ts) (r : Int32 × ts) (h : cR_number l1 s = some r) : fr wf_cR_number s r.2 := by
  unfold cR_number at h
  refine FI h (fun h => ?_) (fun h => ?_)
  · exact FS h (fr_rf)
  · refine FI h (fun h => ?_) (fun h => ?_)
    · exact FS h (fr_rf)
    · refine FI h (fun h => ?_) (fun h => ?_)
      · replace h := FG h
        exact FS h (fr_rf)
      · exact FS h (fr_rf)
theorem cP_isInCalendar_fr (l0 : Nat) (s : ts) (r : Int32 × ts) (h : cP_isInCalendar l0 s = some r) : fr wf_cP_isInCalendar s r.2 := by
  unfold cP_isInCalendar at h
  replace h := FG h
  refine FI h (fun h => ?_) (fun h => ?_)
  · exact FS h (fr_rf)
  · refine FI h (fun h => ?_) (fun h => ?_)
    · exact FS h (fr_rf)
    · exact FS h (fr_rf)
theorem cG_outerPlace_fr (l1 : Int32) (s : ts) (r : Int32 × ts) (h : cG_outerPlace l1 s = some r) : fr wf_cG_outerPlace s r.2 := by
  unfold cG_outerPlace at h
  refine FI h (fun h => ?_) (fun h => ?_)
  · exact FS h (fr_rf)
  · exact FS h (fr_rf)
theorem cP_unitsInAll_4_b_fr (kk : Nat → Int32 → Int32 → ts → Option (Int32 × ts)) (hkk : ∀ (a0 : Nat) (a1 : Int32) (a2 : Int32) (s : ts) (r : Int32 × ts), kk a0 a1 a2 s = some r → fr wf_cP_unitsInAll s r.2) (l0 : Nat) (l1 : Int32) (l2 : Int32) (s : ts) (r : Int32 × ts) (h : cP_unitsInAll_4_b kk l0 l1 l2 s = some r) : fr wf_cP_unitsInAll s r.2 := by
  unfold cP_unitsInAll_4_b at h
  refine FI h (fun h => ?_) (fun h => ?_)
  · exact FS h (fr_rf)
  · replace h := FG h
    replace h := FG h
    exact fr_tr (fr_rf) (hkk l0 (l1 + (gU s l0 l2.toNatClampNeg)) (l2 + (1 : Int32)) _ _ h)
theorem cP_unitsInAll_4_fr : ∀ (n : Nat) (l0 : Nat) (l1 : Int32) (l2 : Int32) (s : ts) (r : Int32 × ts), cP_unitsInAll_4 n l0 l1 l2 s = some r → fr wf_cP_unitsInAll s r.2 := by
  intro n
  induction n with
  | zero => intro l0 l1 l2 s r h; exact FN h
  | succ n ih =>
    intro l0 l1 l2 s r h
    rw [cP_unitsInAll_4.eq_2] at h
    exact cP_unitsInAll_4_b_fr (cP_unitsInAll_4 n) ih l0 l1 l2 s r h
theorem cP_unitsInAll_fr (l0 : Nat) (s : ts) (r : Int32 × ts) (h : cP_unitsInAll l0 s = some r) : fr wf_cP_unitsInAll s r.2 := by
  unfold cP_unitsInAll at h
  exact fr_tr (fr_rf) (cP_unitsInAll_4_fr tm_N l0 ((0 : Int32)) ((0 : Int32)) _ _ h)
theorem cH_tellVariable_45_fr (l1 : Nat) (l2 : Int32) (t0 : Int32) (s : ts) (r : Int32 × ts) (h : cH_tellVariable_45 l1 l2 t0 s = some r) : fr wf_cH_tellVariable s r.2 := by
  unfold cH_tellVariable_45 at h
  refine FI h (fun h => ?_) (fun h => ?_)
  · exact FS h (fr_rf)
  · replace h := FG h
    replace h := FG h
    exact FS h (fr_rf)
theorem cH_tellVariable_fr (l1 : Nat) (l2 : Int32) (s : ts) (r : Int32 × ts) (h : cH_tellVariable l1 l2 s = some r) : fr wf_cH_tellVariable s r.2 := by
  unfold cH_tellVariable at h
  replace h := FG h
  obtain ⟨x4, hx4, h⟩ := FB h
  have f1 := fr_tr (W := wf_cH_tellVariable) (fr_rf) (fr_mono (by decide +kernel) (cG_isDefinition_fr (gI s 501 l1) _ _ hx4))
  refine FI h (fun h => ?_) (fun h => ?_)
  · exact fr_tr (f1) (cH_tellVariable_45_fr l1 l2 ((0 : Int32)) _ _ h)
  · refine FI h (fun h => ?_) (fun h => ?_)
    · exact fr_tr (f1) (cH_tellVariable_45_fr l1 l2 ((0 : Int32)) _ _ h)
    · refine FI h (fun h => ?_) (fun h => ?_)
      · exact fr_tr (f1) (cH_tellVariable_45_fr l1 l2 ((0 : Int32)) _ _ h)
      · replace h := FG h
        replace h := FG h
        refine FI h (fun h => ?_) (fun h => ?_)
        · exact fr_tr (f1) (cH_tellVariable_45_fr l1 l2 ((0 : Int32)) _ _ h)
        · exact fr_tr (f1) (cH_tellVariable_45_fr l1 l2 ((1 : Int32)) _ _ h)
theorem cH_tellProcess_92_fr (l1 : Nat) (t0 : Int32) (s : ts) (r : Int32 × ts) (h : cH_tellProcess_92 l1 t0 s = some r) : fr wf_cH_tellProcess s r.2 := by
  unfold cH_tellProcess_92 at h
  refine FI h (fun h => ?_) (fun h => ?_)
  · exact FS h (fr_rf)
  · replace h := FG h
    obtain ⟨x4, hx4, h⟩ := FB h
    have f1 := fr_tr (W := wf_cH_tellProcess) (fr_rf) (fr_mono (by decide +kernel) (cG_outerPlace_fr (gI s 511 l1) _ _ hx4))
    exact FS h (f1)
theorem cH_tellProcess_fr (l1 : Nat) (l2 : Int32) (s : ts) (r : Int32 × ts) (h : cH_tellProcess l1 l2 s = some r) : fr wf_cH_tellProcess s r.2 := by
  unfold cH_tellProcess at h
  refine FI h (fun h => ?_) (fun h => ?_)
  · replace h := FG h
    exact FS h (fr_rf)
  · refine FI h (fun h => ?_) (fun h => ?_)
    · replace h := FG h
      exact FS h (fr_rf)
    · refine FI h (fun h => ?_) (fun h => ?_)
      · replace h := FG h
        obtain ⟨x8, hx8, h⟩ := FB h
        have f1 := fr_tr (W := wf_cH_tellProcess) (fr_rf) (fr_mono (by decide +kernel) (cP_isInCalendar_fr l1 _ _ hx8))
        refine FI h (fun h => ?_) (fun h => ?_)
        · exact FS h (f1)
        · replace h := FG h
          exact FS h (f1)
      · refine FI h (fun h => ?_) (fun h => ?_)
        · replace h := FG h
          refine FI h (fun h => ?_) (fun h => ?_)
          · exact fr_tr (fr_rf) (cH_tellProcess_92_fr l1 ((1 : Int32)) _ _ h)
          · refine FI h (fun h => ?_) (fun h => ?_)
            · exact fr_tr (fr_rf) (cH_tellProcess_92_fr l1 ((1 : Int32)) _ _ h)
            · exact fr_tr (fr_rf) (cH_tellProcess_92_fr l1 ((0 : Int32)) _ _ h)
        · refine FI h (fun h => ?_) (fun h => ?_)
          · replace h := FG h
            obtain ⟨x19, hx19, h⟩ := FB h
            have f2 := fr_tr (W := wf_cH_tellProcess) (fr_rf) (fr_mono (by decide +kernel) (cP_unitsInAll_fr l1 _ _ hx19))
            exact FS h (f2)
          · refine FI h (fun h => ?_) (fun h => ?_)
            · replace h := FG h
              exact FS h (fr_rf)
            · refine FI h (fun h => ?_) (fun h => ?_)
              · replace h := FG h
                refine FI h (fun h => ?_) (fun h => ?_)
                · exact FS h (fr_rf)
                · exact FS h (fr_rf)
              · obtain ⟨x28, hx28, h⟩ := FB h
                have f3 := fr_tr (W := wf_cH_tellProcess) (fr_rf) (fr_mono (by decide +kernel) (cH_tellVariable_fr l1 (l2 - ((10 : Int32))) _ _ hx28))
                exact FS h (f3)
theorem cX_process_22_fr (l2 : Int32) (t0 : Option Nat) (s : ts) (r : Int32 × ts) (h : cX_process_22 l2 t0 s = some r) : fr wf_cX_process s r.2 := by
  unfold cX_process_22 at h
  cases t0 with
  | none =>
    try dsimp only at h
    exact FS h (fr_rf)
  | some t0 =>
    try dsimp only at h
    obtain ⟨x3, hx3, h⟩ := FB h
    have f1 := fr_tr (W := wf_cX_process) (fr_rf) (fr_mono (by decide +kernel) (cH_tellProcess_fr t0 l2 _ _ hx3))
    exact FS h (f1)
theorem cX_process_fr (l1 : Int32) (l2 : Int32) (s : ts) (r : Int32 × ts) (h : cX_process l1 l2 s = some r) : fr wf_cX_process s r.2 := by
  unfold cX_process at h
  refine FI h (fun h => ?_) (fun h => ?_)
  · exact fr_tr (fr_rf) (cX_process_22_fr l2 none _ _ h)
  · obtain ⟨x3, hx3, h⟩ := FB h
    have f1 := fr_tr (W := wf_cX_process) (fr_rf) (fr_mono (by decide +kernel) (cO_find_fr l1 _ _ hx3))
    cases e2 : x3.1 with
    | none =>
      rw [e2] at h
      try dsimp only at h
      exact fr_tr (f1) (cX_process_22_fr l2 none _ _ h)
    | some q4 =>
      rw [e2] at h
      try dsimp only at h
      exact fr_tr (f1) (cX_process_22_fr l2 (some q4) _ _ h)
theorem cR_localsOf_14_b_fr (kk : Int32 → Int32 → ts → Option (Int32 × ts)) (hkk : ∀ (a0 : Int32) (a1 : Int32) (s : ts) (r : Int32 × ts), kk a0 a1 s = some r → fr wf_cR_localsOf s r.2) (l2 : Int32) (l3 : Int32) (s : ts) (r : Int32 × ts) (h : cR_localsOf_14_b kk l2 l3 s = some r) : fr wf_cR_localsOf s r.2 := by
  unfold cR_localsOf_14_b at h
  replace h := FG h
  refine FI h (fun h => ?_) (fun h => ?_)
  · exact FS h (fr_rf)
  · refine FI h (fun h => ?_) (fun h => ?_)
    · refine FI h (fun h => ?_) (fun h => ?_)
      · exact fr_tr (fr_rf) (hkk l2 (l3 + (1 : Int32)) _ _ h)
      · exact fr_tr (fr_rf) (hkk ((gA s 100 l3.toNatClampNeg) + ((1 : Int32))) (l3 + (1 : Int32)) _ _ h)
    · exact fr_tr (fr_rf) (hkk l2 (l3 + (1 : Int32)) _ _ h)
theorem cR_localsOf_14_fr : ∀ (n : Nat) (l2 : Int32) (l3 : Int32) (s : ts) (r : Int32 × ts), cR_localsOf_14 n l2 l3 s = some r → fr wf_cR_localsOf s r.2 := by
  intro n
  induction n with
  | zero => intro l2 l3 s r h; exact FN h
  | succ n ih =>
    intro l2 l3 s r h
    rw [cR_localsOf_14.eq_2] at h
    exact cR_localsOf_14_b_fr (cR_localsOf_14 n) ih l2 l3 s r h
theorem cR_localsOf_fr (l1 : Int32) (s : ts) (r : Int32 × ts) (h : cR_localsOf l1 s = some r) : fr wf_cR_localsOf s r.2 := by
  unfold cR_localsOf at h
  replace h := FG h
  exact fr_tr (fr_rf) (cR_localsOf_14_fr tm_N (gA s 96 l1.toNatClampNeg) (gA s 97 l1.toNatClampNeg) _ _ h)
theorem cR_process_66_b_fr (kk : Int32 → Int32 → Int32 → Int32 → ts → Option (Int32 × ts)) (hkk : ∀ (a0 : Int32) (a1 : Int32) (a2 : Int32) (a3 : Int32) (s : ts) (r : Int32 × ts), kk a0 a1 a2 a3 s = some r → fr wf_cR_process s r.2) (l1 : Int32) (l2 : Int32) (l3 : Int32) (l4 : Int32) (s : ts) (r : Int32 × ts) (h : cR_process_66_b kk l1 l2 l3 l4 s = some r) : fr wf_cR_process s r.2 := by
  unfold cR_process_66_b at h
  refine FI h (fun h => ?_) (fun h => ?_)
  · refine FI h (fun h => ?_) (fun h => ?_)
    · replace h := FG h
      exact FS h (fr_rf)
    · refine FI h (fun h => ?_) (fun h => ?_)
      · replace h := FG h
        exact FS h (fr_rf)
      · refine FI h (fun h => ?_) (fun h => ?_)
        · replace h := FG h
          refine FI h (fun h => ?_) (fun h => ?_)
          · exact FS h (fr_rf)
          · exact FS h (fr_rf)
        · refine FI h (fun h => ?_) (fun h => ?_)
          · replace h := FG h
            refine FI h (fun h => ?_) (fun h => ?_)
            · exact FS h (fr_rf)
            · refine FI h (fun h => ?_) (fun h => ?_)
              · exact FS h (fr_rf)
              · exact FS h (fr_rf)
          · refine FI h (fun h => ?_) (fun h => ?_)
            · exact FS h (fr_rf)
            · refine FI h (fun h => ?_) (fun h => ?_)
              · replace h := FG h
                exact FS h (fr_rf)
              · refine FI h (fun h => ?_) (fun h => ?_)
                · replace h := FG h
                  refine FI h (fun h => ?_) (fun h => ?_)
                  · exact FS h (fr_rf)
                  · exact FS h (fr_rf)
                · exact FS h (fr_rf)
  · replace h := FG h
    exact fr_tr (fr_rf) (hkk l1 l2 (l3 + (gA s 128 ((((8 : Int32)) * l1) + l4).toNatClampNeg)) (l4 + (1 : Int32)) _ _ h)
theorem cR_process_66_fr : ∀ (n : Nat) (l1 : Int32) (l2 : Int32) (l3 : Int32) (l4 : Int32) (s : ts) (r : Int32 × ts), cR_process_66 n l1 l2 l3 l4 s = some r → fr wf_cR_process s r.2 := by
  intro n
  induction n with
  | zero => intro l1 l2 l3 l4 s r h; exact FN h
  | succ n ih =>
    intro l1 l2 l3 l4 s r h
    rw [cR_process_66.eq_2] at h
    exact cR_process_66_b_fr (cR_process_66 n) ih l1 l2 l3 l4 s r h
theorem cR_process_fr (l1 : Int32) (l2 : Int32) (s : ts) (r : Int32 × ts) (h : cR_process l1 l2 s = some r) : fr wf_cR_process s r.2 := by
  unfold cR_process at h
  refine FI h (fun h => ?_) (fun h => ?_)
  · exact FS h (fr_rf)
  · refine FI h (fun h => ?_) (fun h => ?_)
    · exact FS h (fr_rf)
    · refine FI h (fun h => ?_) (fun h => ?_)
      · refine FI h (fun h => ?_) (fun h => ?_)
        · exact fr_tr (fr_rf) (cR_process_66_fr tm_N l1 l2 ((0 : Int32)) ((0 : Int32)) _ _ h)
        · replace h := FG h
          obtain ⟨x4, hx4, h⟩ := FB h
          have f1 := fr_tr (W := wf_cR_process) (fr_rf) (fr_mono (by decide +kernel) (cR_localsOf_fr (gA s 119 l1.toNatClampNeg) _ _ hx4))
          refine FI h (fun h => ?_) (fun h => ?_)
          · exact fr_tr (f1) (cR_process_66_fr tm_N l1 l2 ((0 : Int32)) ((0 : Int32)) _ _ h)
          · replace h := FG h
            exact FS h (f1)
      · exact FS h (fr_rf)
theorem cG_innerPlace_fr (l1 : Int32) (s : ts) (r : Int32 × ts) (h : cG_innerPlace l1 s = some r) : fr wf_cG_innerPlace s r.2 := by
  unfold cG_innerPlace at h
  refine FI h (fun h => ?_) (fun h => ?_)
  · exact FS h (fr_rf)
  · refine FI h (fun h => ?_) (fun h => ?_)
    · refine FI h (fun h => ?_) (fun h => ?_)
      · exact FS h (fr_rf)
      · exact FS h (fr_rf)
    · exact FS h (fr_rf)
theorem cN_find_7_b_fr (kk : Int32 → Option Nat → Int32 → ts → Option (Option Nat × ts)) (hkk : ∀ (a0 : Int32) (a1 : Option Nat) (a2 : Int32) (s : ts) (r : Option Nat × ts), kk a0 a1 a2 s = some r → fr wf_cN_find s r.2) (l1 : Int32) (l2 : Option Nat) (l3 : Int32) (s : ts) (r : Option Nat × ts) (h : cN_find_7_b kk l1 l2 l3 s = some r) : fr wf_cN_find s r.2 := by
  unfold cN_find_7_b at h
  cases l2 with
  | none =>
    try dsimp only at h
    refine FI h (fun h => ?_) (fun h => ?_)
    · exact FS h (fr_rf)
    · exact FS h (fr_rf)
  | some l2 =>
    try dsimp only at h
    refine FI h (fun h => ?_) (fun h => ?_)
    · exact FS h (fr_rf)
    · replace h := FG h
      cases e1 : gR s 509 l2 with
      | none =>
        rw [e1] at h
        try dsimp only at h
        exact fr_tr (fr_rf) (hkk l1 none (l3 + (1 : Int32)) _ _ h)
      | some r3 =>
        rw [e1] at h
        try dsimp only at h
        exact fr_tr (fr_rf) (hkk l1 (some r3) (l3 + (1 : Int32)) _ _ h)
theorem cN_find_7_fr : ∀ (n : Nat) (l1 : Int32) (l2 : Option Nat) (l3 : Int32) (s : ts) (r : Option Nat × ts), cN_find_7 n l1 l2 l3 s = some r → fr wf_cN_find s r.2 := by
  intro n
  induction n with
  | zero => intro l1 l2 l3 s r h; exact FN h
  | succ n ih =>
    intro l1 l2 l3 s r h
    rw [cN_find_7.eq_2] at h
    exact cN_find_7_b_fr (cN_find_7 n) ih l1 l2 l3 s r h
theorem cN_find_fr (l0 : Nat) (l1 : Int32) (s : ts) (r : Option Nat × ts) (h : cN_find l0 l1 s = some r) : fr wf_cN_find s r.2 := by
  unfold cN_find at h
  replace h := FG h
  cases e1 : gR s 600 l0 with
  | none =>
    rw [e1] at h
    try dsimp only at h
    exact fr_tr (fr_rf) (cN_find_7_fr tm_N l1 none ((0 : Int32)) _ _ h)
  | some r2 =>
    rw [e1] at h
    try dsimp only at h
    exact fr_tr (fr_rf) (cN_find_7_fr tm_N l1 (some r2) ((0 : Int32)) _ _ h)
theorem cK_tellWaiting_38_fr (t0 : Option Nat) (s : ts) (r : Int32 × ts) (h : cK_tellWaiting_38 t0 s = some r) : fr wf_cK_tellWaiting s r.2 := by
  unfold cK_tellWaiting_38 at h
  cases t0 with
  | none =>
    try dsimp only at h
    exact FS h (fr_rf)
  | some t0 =>
    try dsimp only at h
    replace h := FG h
    exact FS h (fr_rf)
theorem cK_tellWaiting_fr (l0 : Nat) (l1 : Int32) (s : ts) (r : Int32 × ts) (h : cK_tellWaiting l0 l1 s = some r) : fr wf_cK_tellWaiting s r.2 := by
  unfold cK_tellWaiting at h
  replace h := FG h
  refine FI h (fun h => ?_) (fun h => ?_)
  · obtain ⟨x4, hx4, h⟩ := FB h
    have f1 := fr_tr (W := wf_cK_tellWaiting) (fr_rf) (fr_mono (by decide +kernel) (cN_find_fr (2 * l0 + 1) (l1 - (gI s 601 (2 * l0))) _ _ hx4))
    cases e2 : x4.1 with
    | none =>
      rw [e2] at h
      try dsimp only at h
      exact fr_tr (f1) (cK_tellWaiting_38_fr none _ _ h)
    | some q5 =>
      rw [e2] at h
      try dsimp only at h
      exact fr_tr (f1) (cK_tellWaiting_38_fr (some q5) _ _ h)
  · obtain ⟨x8, hx8, h⟩ := FB h
    have f3 := fr_tr (W := wf_cK_tellWaiting) (fr_rf) (fr_mono (by decide +kernel) (cN_find_fr (2 * l0) l1 _ _ hx8))
    cases e4 : x8.1 with
    | none =>
      rw [e4] at h
      try dsimp only at h
      exact fr_tr (f3) (cK_tellWaiting_38_fr none _ _ h)
    | some q9 =>
      rw [e4] at h
      try dsimp only at h
      exact fr_tr (f3) (cK_tellWaiting_38_fr (some q9) _ _ h)
theorem cK_tell_fr (l0 : Nat) (l1 : Int32) (s : ts) (r : Int32 × ts) (h : cK_tell l0 l1 s = some r) : fr wf_cK_tell s r.2 := by
  unfold cK_tell at h
  refine FI h (fun h => ?_) (fun h => ?_)
  · replace h := FG h
    exact FS h (fr_rf)
  · refine FI h (fun h => ?_) (fun h => ?_)
    · replace h := FG h
      obtain ⟨x6, hx6, h⟩ := FB h
      have f1 := fr_tr (W := wf_cK_tell) (fr_rf) (fr_mono (by decide +kernel) (cK_waiting_fr l0 _ _ hx6))
      exact FS h (f1)
    · refine FI h (fun h => ?_) (fun h => ?_)
      · replace h := FG h
        exact FS h (fr_rf)
      · refine FI h (fun h => ?_) (fun h => ?_)
        · replace h := FG h
          exact FS h (fr_rf)
        · refine FI h (fun h => ?_) (fun h => ?_)
          · replace h := FG h
            exact FS h (fr_rf)
          · refine FI h (fun h => ?_) (fun h => ?_)
            · replace h := FG h
              exact FS h (fr_rf)
            · refine FI h (fun h => ?_) (fun h => ?_)
              · replace h := FG h
                obtain ⟨x19, hx19, h⟩ := FB h
                have f2 := fr_tr (W := wf_cK_tell) (fr_rf) (fr_mono (by decide +kernel) (cK_tellWaiting_fr l0 (l1 - ((10 : Int32))) _ _ hx19))
                exact FS h (f2)
              · exact FS h (fr_rf)
theorem cX_place_29_fr (l2 : Int32) (t0 : Option Nat) (s : ts) (r : Int32 × ts) (h : cX_place_29 l2 t0 s = some r) : fr wf_cX_place s r.2 := by
  unfold cX_place_29 at h
  cases t0 with
  | none =>
    try dsimp only at h
    exact FS h (fr_rf)
  | some t0 =>
    try dsimp only at h
    replace h := FG h
    obtain ⟨x4, hx4, h⟩ := FB h
    have f1 := fr_tr (W := wf_cX_place) (fr_rf) (fr_mono (by decide +kernel) (cK_tell_fr t0 l2 _ _ hx4))
    exact FS h (f1)
theorem cX_place_fr (l1 : Int32) (l2 : Int32) (s : ts) (r : Int32 × ts) (h : cX_place l1 l2 s = some r) : fr wf_cX_place s r.2 := by
  unfold cX_place at h
  refine FI h (fun h => ?_) (fun h => ?_)
  · exact fr_tr (fr_rf) (cX_place_29_fr l2 none _ _ h)
  · obtain ⟨x3, hx3, h⟩ := FB h
    have f1 := fr_tr (W := wf_cX_place) (fr_rf) (fr_mono (by decide +kernel) (cG_innerPlace_fr l1 _ _ hx3))
    obtain ⟨x6, hx6, h⟩ := FB h
    have f2 := fr_tr (W := wf_cX_place) (f1) (fr_mono (by decide +kernel) (cW_placeAt_fr x3.1 _ _ hx6))
    cases e3 : x6.1 with
    | none =>
      rw [e3] at h
      try dsimp only at h
      exact fr_tr (f2) (cX_place_29_fr l2 none _ _ h)
    | some q7 =>
      rw [e3] at h
      try dsimp only at h
      exact fr_tr (f2) (cX_place_29_fr l2 (some q7) _ _ h)
theorem cR_spot_fr (l1 : Int32) (s : ts) (r : Int32 × ts) (h : cR_spot l1 s = some r) : fr wf_cR_spot s r.2 := by
  unfold cR_spot at h
  refine FI h (fun h => ?_) (fun h => ?_)
  · exact FS h (fr_rf)
  · refine FI h (fun h => ?_) (fun h => ?_)
    · exact FS h (fr_rf)
    · refine FI h (fun h => ?_) (fun h => ?_)
      · refine FI h (fun h => ?_) (fun h => ?_)
        · exact FS h (fr_rf)
        · exact FS h (fr_rf)
      · exact FS h (fr_rf)
theorem cR_place_93_fr (l2 : Int32) (l3 : Int32) (l4 : Int32) (s : ts) (r : Int32 × ts) (h : cR_place_93 l2 l3 l4 s = some r) : fr wf_cR_place s r.2 := by
  unfold cR_place_93 at h
  refine FI h (fun h => ?_) (fun h => ?_)
  · replace h := FG h
    exact FS h (fr_rf)
  · refine FI h (fun h => ?_) (fun h => ?_)
    · exact FS h (fr_rf)
    · refine FI h (fun h => ?_) (fun h => ?_)
      · refine FI h (fun h => ?_) (fun h => ?_)
        · replace h := FG h
          exact FS h (fr_rf)
        · replace h := FG h
          exact FS h (fr_rf)
      · refine FI h (fun h => ?_) (fun h => ?_)
        · replace h := FG h
          exact FS h (fr_rf)
        · refine FI h (fun h => ?_) (fun h => ?_)
          · replace h := FG h
            exact FS h (fr_rf)
          · refine FI h (fun h => ?_) (fun h => ?_)
            · replace h := FG h
              exact FS h (fr_rf)
            · exact FS h (fr_rf)
theorem cR_place_fr (l1 : Int32) (l2 : Int32) (s : ts) (r : Int32 × ts) (h : cR_place l1 l2 s = some r) : fr wf_cR_place s r.2 := by
  unfold cR_place at h
  obtain ⟨x3, hx3, h⟩ := FB h
  have f1 := fr_tr (W := wf_cR_place) (fr_rf) (fr_mono (by decide +kernel) (cR_spot_fr l1 _ _ hx3))
  refine FI h (fun h => ?_) (fun h => ?_)
  · exact FS h (f1)
  · obtain ⟨x6, hx6, h⟩ := FB h
    have f2 := fr_tr (W := wf_cR_place) (f1) (fr_mono (by decide +kernel) (cR_waitingAt_fr x3.1 _ _ hx6))
    refine FI h (fun h => ?_) (fun h => ?_)
    · exact fr_tr (f2) (cR_place_93_fr l2 x3.1 x6.1 _ _ h)
    · refine FI h (fun h => ?_) (fun h => ?_)
      · exact fr_tr (f2) (cR_place_93_fr l2 x3.1 x6.1 _ _ h)
      · replace h := FG h
        refine FI h (fun h => ?_) (fun h => ?_)
        · replace h := FG h
          exact FS h (f2)
        · replace h := FG h
          exact FS h (f2)
theorem cK_tellSum_fr (l0 : Nat) (l1 : Int32) (s : ts) (r : Int64 × ts) (h : cK_tellSum l0 l1 s = some r) : fr wf_cK_tellSum s r.2 := by
  unfold cK_tellSum at h
  refine FI h (fun h => ?_) (fun h => ?_)
  · replace h := FG h
    exact FS h (fr_rf)
  · refine FI h (fun h => ?_) (fun h => ?_)
    · replace h := FG h
      exact FS h (fr_rf)
    · refine FI h (fun h => ?_) (fun h => ?_)
      · replace h := FG h
        exact FS h (fr_rf)
      · exact FS h (fr_rf)
theorem cX_sum_29_fr (l2 : Int32) (t0 : Option Nat) (s : ts) (r : Int64 × ts) (h : cX_sum_29 l2 t0 s = some r) : fr wf_cX_sum s r.2 := by
  unfold cX_sum_29 at h
  cases t0 with
  | none =>
    try dsimp only at h
    exact FS h (fr_rf)
  | some t0 =>
    try dsimp only at h
    replace h := FG h
    obtain ⟨x4, hx4, h⟩ := FB h
    have f1 := fr_tr (W := wf_cX_sum) (fr_rf) (fr_mono (by decide +kernel) (cK_tellSum_fr t0 l2 _ _ hx4))
    exact FS h (f1)
theorem cX_sum_fr (l1 : Int32) (l2 : Int32) (s : ts) (r : Int64 × ts) (h : cX_sum l1 l2 s = some r) : fr wf_cX_sum s r.2 := by
  unfold cX_sum at h
  refine FI h (fun h => ?_) (fun h => ?_)
  · exact fr_tr (fr_rf) (cX_sum_29_fr l2 none _ _ h)
  · obtain ⟨x3, hx3, h⟩ := FB h
    have f1 := fr_tr (W := wf_cX_sum) (fr_rf) (fr_mono (by decide +kernel) (cG_innerPlace_fr l1 _ _ hx3))
    obtain ⟨x6, hx6, h⟩ := FB h
    have f2 := fr_tr (W := wf_cX_sum) (f1) (fr_mono (by decide +kernel) (cW_placeAt_fr x3.1 _ _ hx6))
    cases e3 : x6.1 with
    | none =>
      rw [e3] at h
      try dsimp only at h
      exact fr_tr (f2) (cX_sum_29_fr l2 none _ _ h)
    | some q7 =>
      rw [e3] at h
      try dsimp only at h
      exact fr_tr (f2) (cX_sum_29_fr l2 (some q7) _ _ h)
theorem cR_sum_fr (l1 : Int32) (l2 : Int32) (s : ts) (r : Int64 × ts) (h : cR_sum l1 l2 s = some r) : fr wf_cR_sum s r.2 := by
  unfold cR_sum at h
  obtain ⟨x3, hx3, h⟩ := FB h
  have f1 := fr_tr (W := wf_cR_sum) (fr_rf) (fr_mono (by decide +kernel) (cR_spot_fr l1 _ _ hx3))
  refine FI h (fun h => ?_) (fun h => ?_)
  · exact FS h (f1)
  · refine FI h (fun h => ?_) (fun h => ?_)
    · exact FS h (f1)
    · refine FI h (fun h => ?_) (fun h => ?_)
      · refine FI h (fun h => ?_) (fun h => ?_)
        · replace h := FG h
          exact FS h (f1)
        · refine FI h (fun h => ?_) (fun h => ?_)
          · replace h := FG h
            exact FS h (f1)
          · replace h := FG h
            exact FS h (f1)
      · exact FS h (f1)
theorem cH_tellTrace_fr (l1 : Int32) (l2 : Int32) (s : ts) (r : Int32 × ts) (h : cH_tellTrace l1 l2 s = some r) : fr wf_cH_tellTrace s r.2 := by
  unfold cH_tellTrace at h
  refine FI h (fun h => ?_) (fun h => ?_)
  · exact FS h (fr_rf)
  · refine FI h (fun h => ?_) (fun h => ?_)
    · exact FS h (fr_rf)
    · refine FI h (fun h => ?_) (fun h => ?_)
      · refine FI h (fun h => ?_) (fun h => ?_)
        · replace h := FG h
          exact FS h (fr_rf)
        · refine FI h (fun h => ?_) (fun h => ?_)
          · replace h := FG h
            exact FS h (fr_rf)
          · exact FS h (fr_rf)
      · exact FS h (fr_rf)
theorem cX_trace_fr (l1 : Int32) (l2 : Int32) (s : ts) (r : Int32 × ts) (h : cX_trace l1 l2 s = some r) : fr wf_cX_trace s r.2 := by
  unfold cX_trace at h
  refine FI h (fun h => ?_) (fun h => ?_)
  · exact FS h (fr_rf)
  · obtain ⟨x3, hx3, h⟩ := FB h
    have f1 := fr_tr (W := wf_cX_trace) (fr_rf) (fr_mono (by decide +kernel) (cH_tellTrace_fr l1 l2 _ _ hx3))
    exact FS h (f1)
theorem cR_trace_fr (l1 : Int32) (l2 : Int32) (s : ts) (r : Int32 × ts) (h : cR_trace l1 l2 s = some r) : fr wf_cR_trace s r.2 := by
  unfold cR_trace at h
  refine FI h (fun h => ?_) (fun h => ?_)
  · exact FS h (fr_rf)
  · refine FI h (fun h => ?_) (fun h => ?_)
    · exact FS h (fr_rf)
    · refine FI h (fun h => ?_) (fun h => ?_)
      · exact FS h (fr_rf)
      · refine FI h (fun h => ?_) (fun h => ?_)
        · exact FS h (fr_rf)
        · refine FI h (fun h => ?_) (fun h => ?_)
          · exact FS h (fr_rf)
          · refine FI h (fun h => ?_) (fun h => ?_)
            · refine FI h (fun h => ?_) (fun h => ?_)
              · replace h := FG h
                exact FS h (fr_rf)
              · replace h := FG h
                exact FS h (fr_rf)
            · exact FS h (fr_rf)
theorem cL_law_18_b_fr (kk : Int32 → ts → Option (Int32 × ts)) (hkk : ∀ (a0 : Int32) (s : ts) (r : Int32 × ts), kk a0 s = some r → fr wf_cL_law s r.2) (l3 : Int32) (s : ts) (r : Int32 × ts) (h : cL_law_18_b kk l3 s = some r) : fr wf_cL_law s r.2 := by
  unfold cL_law_18_b at h
  replace h := FG h
  refine FI h (fun h => ?_) (fun h => ?_)
  · exact FS h (fr_rf)
  · replace h := FG h
    refine FI h (fun h => ?_) (fun h => ?_)
    · replace h := FG h
      replace h := FG h
      replace h := FG h
      replace h := FG h
      replace h := FG h
      obtain ⟨x10, hx10, h⟩ := FB h
      have f1 := fr_tr (W := wf_cL_law) (fr_rf) (fr_mono (by decide +kernel) (cX_feed_fr (gS s (l3 + ((1 : Int32))).toNatClampNeg) (gS s (l3 + ((2 : Int32))).toNatClampNeg) (gS s (l3 + ((3 : Int32))).toNatClampNeg) (gS s (l3 + ((4 : Int32))).toNatClampNeg) (gS s (l3 + ((5 : Int32))).toNatClampNeg) _ _ hx10))
      replace h := FG h
      replace h := FG h
      replace h := FG h
      replace h := FG h
      replace h := FG h
      replace h := FG h
      obtain ⟨x19, hx19, h⟩ := FB h
      have f2 := fr_tr (W := wf_cL_law) (f1) (fr_mono (by decide +kernel) (cR_feed_fr (gS x10.2 (l3 + ((1 : Int32))).toNatClampNeg) (gS x10.2 (l3 + ((2 : Int32))).toNatClampNeg) (gS x10.2 (l3 + ((3 : Int32))).toNatClampNeg) (gS x10.2 (l3 + ((4 : Int32))).toNatClampNeg) (gS x10.2 (l3 + ((5 : Int32))).toNatClampNeg) _ _ hx19))
      refine FI h (fun h => ?_) (fun h => ?_)
      · exact fr_tr (f2) (hkk (l3 + (6 : Int32)) _ _ h)
      · exact FS h (f2)
    · refine FI h (fun h => ?_) (fun h => ?_)
      · replace h := FG h
        obtain ⟨x25, hx25, h⟩ := FB h
        have f3 := fr_tr (W := wf_cL_law) (fr_rf) (fr_mono (by decide +kernel) (cX_end_fr (gS s (l3 + ((1 : Int32))).toNatClampNeg) _ _ hx25))
        replace h := FG h
        replace h := FG h
        obtain ⟨x30, hx30, h⟩ := FB h
        have f4 := fr_tr (W := wf_cL_law) (f3) (fr_mono (by decide +kernel) (cR_end_fr (gS x25.2 (l3 + ((1 : Int32))).toNatClampNeg) _ _ hx30))
        refine FI h (fun h => ?_) (fun h => ?_)
        · exact fr_tr (f4) (hkk (l3 + (6 : Int32)) _ _ h)
        · exact FS h (f4)
      · refine FI h (fun h => ?_) (fun h => ?_)
        · obtain ⟨x35, hx35, h⟩ := FB h
          have f5 := fr_tr (W := wf_cL_law) (fr_rf) (fr_mono (by decide +kernel) (cX_load_fr _ _ hx35))
          obtain ⟨x38, hx38, h⟩ := FB h
          have f6 := fr_tr (W := wf_cL_law) (f5) (fr_mono (by decide +kernel) (cR_load_fr _ _ hx38))
          refine FI h (fun h => ?_) (fun h => ?_)
          · exact fr_tr (f6) (hkk (l3 + (6 : Int32)) _ _ h)
          · exact FS h (f6)
        · refine FI h (fun h => ?_) (fun h => ?_)
          · replace h := FG h
            obtain ⟨x44, hx44, h⟩ := FB h
            have f7 := fr_tr (W := wf_cL_law) (fr_rf) (fr_mono (by decide +kernel) (cX_seed_fr (gS s (l3 + ((1 : Int32))).toNatClampNeg) _ _ hx44))
            replace h := FG h
            replace h := FG h
            obtain ⟨x49, hx49, h⟩ := FB h
            have f8 := fr_tr (W := wf_cL_law) (f7) (fr_mono (by decide +kernel) (cR_seed_fr (gS x44.2 (l3 + ((1 : Int32))).toNatClampNeg) _ _ hx49))
            refine FI h (fun h => ?_) (fun h => ?_)
            · exact fr_tr (f8) (hkk (l3 + (6 : Int32)) _ _ h)
            · exact FS h (f8)
          · refine FI h (fun h => ?_) (fun h => ?_)
            · replace h := FG h
              replace h := FG h
              replace h := FG h
              replace h := FG h
              replace h := FG h
              obtain ⟨x59, hx59, h⟩ := FB h
              have f9 := fr_tr (W := wf_cL_law) (fr_rf) (fr_mono (by decide +kernel) (cX_start_fr (gS s (l3 + ((1 : Int32))).toNatClampNeg) (gS s (l3 + ((2 : Int32))).toNatClampNeg) (gS s (l3 + ((3 : Int32))).toNatClampNeg) (gS s (l3 + ((4 : Int32))).toNatClampNeg) (gS s (l3 + ((5 : Int32))).toNatClampNeg) _ _ hx59))
              replace h := FG h
              replace h := FG h
              replace h := FG h
              replace h := FG h
              replace h := FG h
              replace h := FG h
              obtain ⟨x68, hx68, h⟩ := FB h
              have f10 := fr_tr (W := wf_cL_law) (f9) (fr_mono (by decide +kernel) (cR_start_fr (gS x59.2 (l3 + ((1 : Int32))).toNatClampNeg) (gS x59.2 (l3 + ((2 : Int32))).toNatClampNeg) (gS x59.2 (l3 + ((3 : Int32))).toNatClampNeg) (gS x59.2 (l3 + ((4 : Int32))).toNatClampNeg) (gS x59.2 (l3 + ((5 : Int32))).toNatClampNeg) _ _ hx68))
              refine FI h (fun h => ?_) (fun h => ?_)
              · exact fr_tr (f10) (hkk (l3 + (6 : Int32)) _ _ h)
              · exact FS h (f10)
            · refine FI h (fun h => ?_) (fun h => ?_)
              · replace h := FG h
                obtain ⟨x74, hx74, h⟩ := FB h
                have f11 := fr_tr (W := wf_cL_law) (fr_rf) (fr_mono (by decide +kernel) (cX_run_fr (gS s (l3 + ((1 : Int32))).toNatClampNeg) _ _ hx74))
                replace h := FG h
                replace h := FG h
                obtain ⟨x79, hx79, h⟩ := FB h
                have f12 := fr_tr (W := wf_cL_law) (f11) (fr_mono (by decide +kernel) (cR_run_fr (gS x74.2 (l3 + ((1 : Int32))).toNatClampNeg) _ _ hx79))
                refine FI h (fun h => ?_) (fun h => ?_)
                · exact fr_tr (f12) (hkk (l3 + (6 : Int32)) _ _ h)
                · exact FS h (f12)
              · refine FI h (fun h => ?_) (fun h => ?_)
                · replace h := FG h
                  obtain ⟨x85, hx85, h⟩ := FB h
                  have f13 := fr_tr (W := wf_cL_law) (fr_rf) (fr_mono (by decide +kernel) (cX_turn_fr (gS s (l3 + ((1 : Int32))).toNatClampNeg) _ _ hx85))
                  replace h := FG h
                  replace h := FG h
                  obtain ⟨x90, hx90, h⟩ := FB h
                  have f14 := fr_tr (W := wf_cL_law) (f13) (fr_mono (by decide +kernel) (cR_turn_fr (gS x85.2 (l3 + ((1 : Int32))).toNatClampNeg) _ _ hx90))
                  refine FI h (fun h => ?_) (fun h => ?_)
                  · exact fr_tr (f14) (hkk (l3 + (6 : Int32)) _ _ h)
                  · exact FS h (f14)
                · refine FI h (fun h => ?_) (fun h => ?_)
                  · replace h := FG h
                    obtain ⟨x96, hx96, h⟩ := FB h
                    have f15 := fr_tr (W := wf_cL_law) (fr_rf) (fr_mono (by decide +kernel) (cX_state_fr (gS s (l3 + ((1 : Int32))).toNatClampNeg) _ _ hx96))
                    replace h := FG h
                    replace h := FG h
                    obtain ⟨x101, hx101, h⟩ := FB h
                    have f16 := fr_tr (W := wf_cL_law) (f15) (fr_mono (by decide +kernel) (cR_state_fr (gS x96.2 (l3 + ((1 : Int32))).toNatClampNeg) _ _ hx101))
                    refine FI h (fun h => ?_) (fun h => ?_)
                    · exact fr_tr (f16) (hkk (l3 + (6 : Int32)) _ _ h)
                    · exact FS h (f16)
                  · refine FI h (fun h => ?_) (fun h => ?_)
                    · replace h := FG h
                      obtain ⟨x107, hx107, h⟩ := FB h
                      have f17 := fr_tr (W := wf_cL_law) (fr_rf) (fr_mono (by decide +kernel) (cX_number_fr (gS s (l3 + ((1 : Int32))).toNatClampNeg) _ _ hx107))
                      replace h := FG h
                      replace h := FG h
                      obtain ⟨x112, hx112, h⟩ := FB h
                      have f18 := fr_tr (W := wf_cL_law) (f17) (fr_mono (by decide +kernel) (cR_number_fr (gS x107.2 (l3 + ((1 : Int32))).toNatClampNeg) _ _ hx112))
                      refine FI h (fun h => ?_) (fun h => ?_)
                      · exact fr_tr (f18) (hkk (l3 + (6 : Int32)) _ _ h)
                      · exact FS h (f18)
                    · refine FI h (fun h => ?_) (fun h => ?_)
                      · replace h := FG h
                        replace h := FG h
                        obtain ⟨x119, hx119, h⟩ := FB h
                        have f19 := fr_tr (W := wf_cL_law) (fr_rf) (fr_mono (by decide +kernel) (cX_process_fr (gS s (l3 + ((1 : Int32))).toNatClampNeg) (gS s (l3 + ((2 : Int32))).toNatClampNeg) _ _ hx119))
                        replace h := FG h
                        replace h := FG h
                        replace h := FG h
                        obtain ⟨x125, hx125, h⟩ := FB h
                        have f20 := fr_tr (W := wf_cL_law) (f19) (fr_mono (by decide +kernel) (cR_process_fr (gS x119.2 (l3 + ((1 : Int32))).toNatClampNeg) (gS x119.2 (l3 + ((2 : Int32))).toNatClampNeg) _ _ hx125))
                        refine FI h (fun h => ?_) (fun h => ?_)
                        · exact fr_tr (f20) (hkk (l3 + (6 : Int32)) _ _ h)
                        · exact FS h (f20)
                      · refine FI h (fun h => ?_) (fun h => ?_)
                        · replace h := FG h
                          replace h := FG h
                          obtain ⟨x132, hx132, h⟩ := FB h
                          have f21 := fr_tr (W := wf_cL_law) (fr_rf) (fr_mono (by decide +kernel) (cX_place_fr (gS s (l3 + ((1 : Int32))).toNatClampNeg) (gS s (l3 + ((2 : Int32))).toNatClampNeg) _ _ hx132))
                          replace h := FG h
                          replace h := FG h
                          replace h := FG h
                          obtain ⟨x138, hx138, h⟩ := FB h
                          have f22 := fr_tr (W := wf_cL_law) (f21) (fr_mono (by decide +kernel) (cR_place_fr (gS x132.2 (l3 + ((1 : Int32))).toNatClampNeg) (gS x132.2 (l3 + ((2 : Int32))).toNatClampNeg) _ _ hx138))
                          refine FI h (fun h => ?_) (fun h => ?_)
                          · exact fr_tr (f22) (hkk (l3 + (6 : Int32)) _ _ h)
                          · exact FS h (f22)
                        · refine FI h (fun h => ?_) (fun h => ?_)
                          · replace h := FG h
                            replace h := FG h
                            obtain ⟨x145, hx145, h⟩ := FB h
                            have f23 := fr_tr (W := wf_cL_law) (fr_rf) (fr_mono (by decide +kernel) (cX_sum_fr (gS s (l3 + ((1 : Int32))).toNatClampNeg) (gS s (l3 + ((2 : Int32))).toNatClampNeg) _ _ hx145))
                            replace h := FG h
                            replace h := FG h
                            replace h := FG h
                            obtain ⟨x151, hx151, h⟩ := FB h
                            have f24 := fr_tr (W := wf_cL_law) (f23) (fr_mono (by decide +kernel) (cR_sum_fr (gS x145.2 (l3 + ((1 : Int32))).toNatClampNeg) (gS x145.2 (l3 + ((2 : Int32))).toNatClampNeg) _ _ hx151))
                            refine FI h (fun h => ?_) (fun h => ?_)
                            · exact fr_tr (f24) (hkk (l3 + (6 : Int32)) _ _ h)
                            · exact FS h (f24)
                          · refine FI h (fun h => ?_) (fun h => ?_)
                            · replace h := FG h
                              replace h := FG h
                              obtain ⟨x158, hx158, h⟩ := FB h
                              have f25 := fr_tr (W := wf_cL_law) (fr_rf) (fr_mono (by decide +kernel) (cX_trace_fr (gS s (l3 + ((1 : Int32))).toNatClampNeg) (gS s (l3 + ((2 : Int32))).toNatClampNeg) _ _ hx158))
                              replace h := FG h
                              replace h := FG h
                              replace h := FG h
                              obtain ⟨x164, hx164, h⟩ := FB h
                              have f26 := fr_tr (W := wf_cL_law) (f25) (fr_mono (by decide +kernel) (cR_trace_fr (gS x158.2 (l3 + ((1 : Int32))).toNatClampNeg) (gS x158.2 (l3 + ((2 : Int32))).toNatClampNeg) _ _ hx164))
                              refine FI h (fun h => ?_) (fun h => ?_)
                              · exact fr_tr (f26) (hkk (l3 + (6 : Int32)) _ _ h)
                              · exact FS h (f26)
                            · exact fr_tr (fr_rf) (hkk (l3 + (6 : Int32)) _ _ h)
theorem cL_law_18_fr : ∀ (n : Nat) (l3 : Int32) (s : ts) (r : Int32 × ts), cL_law_18 n l3 s = some r → fr wf_cL_law s r.2 := by
  intro n
  induction n with
  | zero => intro l3 s r h; exact FN h
  | succ n ih =>
    intro l3 s r h
    rw [cL_law_18.eq_2] at h
    exact cL_law_18_b_fr (cL_law_18 n) ih l3 s r h
theorem cL_law_16_fr (s : ts) (r : Int32 × ts) (h : cL_law_16 s = some r) : fr wf_cL_law s r.2 := by
  unfold cL_law_16 at h
  exact fr_tr (fr_rf) (cL_law_18_fr tm_N ((0 : Int32)) _ _ h)
