/-! WHAT A FUNCTION MAY WRITE: printed by wip/tools/frames.py. -/
theorem cR_takeOne_49_fr (l1 : Int32) (t1 : Int32) (s : ts) (r : ts) (h : cR_takeOne_49 l1 t1 s = some r) : fr wf_cR_takeOne s r := by
  unfold cR_takeOne_49 at h
  obtain ⟨s2, hs2, h⟩ := FB h
  have f1 := fr_tr (W := wf_cR_takeOne) (fr_rf) (fr_mono (by decide +kernel) (cR_need_fr t1 ((2 : Int32)) _ _ hs2))
  obtain ⟨x6, hx6, h⟩ := FB h
  have f2 := fr_tr (W := wf_cR_takeOne) (f1) (fr_mono (by decide +kernel) (cR_reserved_fr _ _ hx6))
  obtain ⟨x9, hx9, h⟩ := FB h
  have f3 := fr_tr (W := wf_cR_takeOne) (f2) (fr_mono (by decide +kernel) (cR_good_fr _ _ hx9))
  refine FI h (fun h => ?_) (fun h => ?_)
  · exact fr_tr (f3) (cR_takeOne_100_fr l1 x6.1 _ _ h)
  · refine FI h (fun h => ?_) (fun h => ?_)
    · refine FI h (fun h => ?_) (fun h => ?_)
      · exact fr_tr (f3) (cR_takeOne_96_fr l1 x6.1 ((1 : Int32)) _ _ h)
      · refine FI h (fun h => ?_) (fun h => ?_)
        · exact fr_tr (f3) (cR_takeOne_96_fr l1 x6.1 ((0 : Int32)) _ _ h)
        · refine FI h (fun h => ?_) (fun h => ?_)
          · exact fr_tr (f3) (cR_takeOne_96_fr l1 x6.1 ((0 : Int32)) _ _ h)
          · exact fr_tr (f3) (cR_takeOne_96_fr l1 x6.1 ((1 : Int32)) _ _ h)
    · exact fr_tr (f3) (cR_takeOne_100_fr l1 x6.1 _ _ h)
theorem cR_takeOne_fr (l1 : Int32) (s : ts) (r : ts) (h : cR_takeOne l1 s = some r) : fr wf_cR_takeOne s r := by
  unfold cR_takeOne at h
  refine FI h (fun h => ?_) (fun h => ?_)
  · exact fr_tr (fr_rf) (cR_takeOne_49_fr l1 ((1 : Int32)) _ _ h)
  · refine FI h (fun h => ?_) (fun h => ?_)
    · exact fr_tr (fr_rf) (cR_takeOne_49_fr l1 ((1 : Int32)) _ _ h)
    · refine FI h (fun h => ?_) (fun h => ?_)
      · exact fr_tr (fr_rf) (cR_takeOne_49_fr l1 ((1 : Int32)) _ _ h)
      · refine FI h (fun h => ?_) (fun h => ?_)
        · exact fr_tr (fr_rf) (cR_takeOne_49_fr l1 ((1 : Int32)) _ _ h)
        · refine FI h (fun h => ?_) (fun h => ?_)
          · exact fr_tr (fr_rf) (cR_takeOne_49_fr l1 ((1 : Int32)) _ _ h)
          · exact fr_tr (fr_rf) (cR_takeOne_49_fr l1 ((0 : Int32)) _ _ h)
theorem cR_rankOf_fr (l0 : Int32) (s : ts) (r : Int32 × ts) (h : cR_rankOf l0 s = some r) : fr wf_cR_rankOf s r.2 := by
  unfold cR_rankOf at h
  refine FI h (fun h => ?_) (fun h => ?_)
  · exact FS h (fr_rf)
  · refine FI h (fun h => ?_) (fun h => ?_)
    · exact FS h (fr_rf)
    · refine FI h (fun h => ?_) (fun h => ?_)
      · exact FS h (fr_rf)
      · refine FI h (fun h => ?_) (fun h => ?_)
        · exact FS h (fr_rf)
        · refine FI h (fun h => ?_) (fun h => ?_)
          · exact FS h (fr_rf)
          · refine FI h (fun h => ?_) (fun h => ?_)
            · exact FS h (fr_rf)
            · refine FI h (fun h => ?_) (fun h => ?_)
              · exact FS h (fr_rf)
              · refine FI h (fun h => ?_) (fun h => ?_)
                · exact FS h (fr_rf)
                · refine FI h (fun h => ?_) (fun h => ?_)
                  · exact FS h (fr_rf)
                  · refine FI h (fun h => ?_) (fun h => ?_)
                    · exact FS h (fr_rf)
                    · refine FI h (fun h => ?_) (fun h => ?_)
                      · exact FS h (fr_rf)
                      · refine FI h (fun h => ?_) (fun h => ?_)
                        · exact FS h (fr_rf)
                        · refine FI h (fun h => ?_) (fun h => ?_)
                          · exact FS h (fr_rf)
                          · exact FS h (fr_rf)
theorem cR_takeSign_222_fr (s : ts) (r : ts) (h : cR_takeSign_222 s = some r) : fr wf_cR_takeSign s r := by
  unfold cR_takeSign_222 at h
  obtain ⟨s2, hs2, h⟩ := FB h
  have f1 := fr_tr (W := wf_cR_takeSign) (fr_rf) (fr_mono (by decide +kernel) (cR_next_fr _ _ hs2))
  obtain ⟨s5, hs5, h⟩ := FB h
  have f2 := fr_tr (W := wf_cR_takeSign) (f1) (fr_mono (by decide +kernel) (cR_endOne_fr _ _ hs5))
  exact FV h (f2)
theorem cR_takeSign_156_fr (t1 : Int32) (s : ts) (r : ts) (h : cR_takeSign_156 t1 s = some r) : fr wf_cR_takeSign s r := by
  unfold cR_takeSign_156 at h
  obtain ⟨s2, hs2, h⟩ := FB h
  have f1 := fr_tr (W := wf_cR_takeSign) (fr_rf) (fr_mono (by decide +kernel) (cR_need_fr t1 ((2 : Int32)) _ _ hs2))
  obtain ⟨x6, hx6, h⟩ := FB h
  have f2 := fr_tr (W := wf_cR_takeSign) (f1) (fr_mono (by decide +kernel) (cR_good_fr _ _ hx6))
  refine FI h (fun h => ?_) (fun h => ?_)
  · exact FV h (f2)
  · replace h := FG h
    replace h := FG h
    replace h := FG h
    refine FI h (fun h => ?_) (fun h => ?_)
    · obtain ⟨x12, hx12, h⟩ := FB h
      have f3 := fr_tr (W := wf_cR_takeSign) (fr_wI (fr_wI (fr_wI (f2) rfl) rfl) rfl) (fr_mono (by decide +kernel) (cR_add_fr ((6 : Int32)) ((0 : Int32)) _ _ hx12))
      exact fr_tr (f3) (cR_takeSign_222_fr _ _ h)
    · exact fr_tr (fr_wI (fr_wI (fr_wI (f2) rfl) rfl) rfl) (cR_takeSign_222_fr _ _ h)
theorem cR_takeSign_130_fr (t0 : Int32) (s : ts) (r : ts) (h : cR_takeSign_130 t0 s = some r) : fr wf_cR_takeSign s r := by
  unfold cR_takeSign_130 at h
  refine FI h (fun h => ?_) (fun h => ?_)
  · exact FV h (fr_wI (fr_rf) rfl)
  · refine FI h (fun h => ?_) (fun h => ?_)
    · exact fr_tr (fr_rf) (cR_takeSign_156_fr ((1 : Int32)) _ _ h)
    · exact fr_tr (fr_rf) (cR_takeSign_156_fr ((0 : Int32)) _ _ h)
theorem cR_takeSign_96_fr (t1 : Int32) (s : ts) (r : ts) (h : cR_takeSign_96 t1 s = some r) : fr wf_cR_takeSign s r := by
  unfold cR_takeSign_96 at h
  replace h := FG h
  obtain ⟨s3, hs3, h⟩ := FB h
  have f1 := fr_tr (W := wf_cR_takeSign) (fr_wI (fr_wI (fr_rf) rfl) rfl) (fr_mono (by decide +kernel) (cR_next_fr _ _ hs3))
  exact FV h (f1)
theorem cR_takeSign_78_fr (l1 : Int32) (s : ts) (r : ts) (h : cR_takeSign_78 l1 s = some r) : fr wf_cR_takeSign s r := by
  unfold cR_takeSign_78 at h
  refine FI h (fun h => ?_) (fun h => ?_)
  · refine FI h (fun h => ?_) (fun h => ?_)
    · exact fr_tr (fr_rf) (cR_takeSign_96_fr ((1 : Int32)) _ _ h)
    · exact fr_tr (fr_rf) (cR_takeSign_96_fr ((0 : Int32)) _ _ h)
  · exact fr_tr (fr_rf) (cR_takeSign_96_fr ((1 : Int32)) _ _ h)
theorem cR_takeSign_68_fr (l1 : Int32) (t1 : Int32) (t3 : Int32) (s : ts) (r : ts) (h : cR_takeSign_68 l1 t1 t3 s = some r) : fr wf_cR_takeSign s r := by
  unfold cR_takeSign_68 at h
  obtain ⟨x3, hx3, h⟩ := FB h
  have f1 := fr_tr (W := wf_cR_takeSign) (fr_rf) (fr_mono (by decide +kernel) (cR_add_fr t3 ((0 : Int32)) _ _ hx3))
  replace h := FG h
  exact fr_tr (fr_wI (fr_wA (f1) rfl) rfl) (cR_takeSign_78_fr l1 _ _ h)
theorem cR_takeSign_22_fr (l1 : Int32) (s : ts) (r : ts) (h : cR_takeSign_22 l1 s = some r) : fr wf_cR_takeSign s r := by
  unfold cR_takeSign_22 at h
  refine FI h (fun h => ?_) (fun h => ?_)
  · obtain ⟨s2, hs2, h⟩ := FB h
    have f1 := fr_tr (W := wf_cR_takeSign) (fr_rf) (fr_mono (by decide +kernel) (cR_settleTo_fr ((1 : Int32)) _ _ hs2))
    refine FI h (fun h => ?_) (fun h => ?_)
    · exact fr_tr (f1) (cR_takeSign_130_fr ((0 : Int32)) _ _ h)
    · exact fr_tr (f1) (cR_takeSign_130_fr ((1 : Int32)) _ _ h)
  · obtain ⟨s6, hs6, h⟩ := FB h
    have f2 := fr_tr (W := wf_cR_takeSign) (fr_rf) (fr_mono (by decide +kernel) (cR_settleTo_fr l1 _ _ hs6))
    obtain ⟨s9, hs9, h⟩ := FB h
    have f3 := fr_tr (W := wf_cR_takeSign) (f2) (fr_mono (by decide +kernel) (cR_wait1_fr (gI s6 1106 0) l1 _ _ hs9))
    refine FI h (fun h => ?_) (fun h => ?_)
    · exact fr_tr (f3) (cR_takeSign_78_fr l1 _ _ h)
    · refine FI h (fun h => ?_) (fun h => ?_)
      · exact fr_tr (f3) (cR_takeSign_68_fr l1 ((gI s9 1142 0) - ((1 : Int32))) ((12 : Int32)) _ _ h)
      · exact fr_tr (f3) (cR_takeSign_68_fr l1 ((gI s9 1142 0) - ((1 : Int32))) ((11 : Int32)) _ _ h)
theorem cR_takeSign_fr (s : ts) (r : ts) (h : cR_takeSign s = some r) : fr wf_cR_takeSign s r := by
  unfold cR_takeSign at h
  obtain ⟨x3, hx3, h⟩ := FB h
  have f1 := fr_tr (W := wf_cR_takeSign) (fr_rf) (fr_mono (by decide +kernel) (cR_rankOf_fr (gI s 1106 0) _ _ hx3))
  refine FI h (fun h => ?_) (fun h => ?_)
  · refine FI h (fun h => ?_) (fun h => ?_)
    · exact fr_tr (f1) (cR_takeSign_22_fr x3.1 _ _ h)
    · exact fr_tr (f1) (cR_takeSign_22_fr ((0 : Int32)) _ _ h)
  · exact fr_tr (f1) (cR_takeSign_22_fr x3.1 _ _ h)
theorem cR_takeExp_69_fr (l2 : Int32) (s : ts) (r : Int32 × ts) (h : cR_takeExp_69 l2 s = some r) : fr wf_cR_takeExp s r.2 := by
  unfold cR_takeExp_69 at h
  obtain ⟨x3, hx3, h⟩ := FB h
  have f1 := fr_tr (W := wf_cR_takeExp) (fr_wI (fr_rf) rfl) (fr_mono (by decide +kernel) (cR_add_fr ((0 : Int32)) ((0 : Int32)) _ _ hx3))
  exact FS h (f1)
theorem cR_takeExp_33_b_fr (kk : Int32 → Int32 → ts → Option (Int32 × ts)) (hkk : ∀ (a0 : Int32) (a1 : Int32) (s : ts) (r : Int32 × ts), kk a0 a1 s = some r → fr wf_cR_takeExp s r.2) (l1 : Int32) (l2 : Int32) (s : ts) (r : Int32 × ts) (h : cR_takeExp_33_b kk l1 l2 s = some r) : fr wf_cR_takeExp s r.2 := by
  unfold cR_takeExp_33_b at h
  refine FI h (fun h => ?_) (fun h => ?_)
  · obtain ⟨x3, hx3, h⟩ := FB h
    have f1 := fr_tr (W := wf_cR_takeExp) (fr_rf) (fr_mono (by decide +kernel) (cR_good_fr _ _ hx3))
    refine FI h (fun h => ?_) (fun h => ?_)
    · exact fr_tr (f1) (cR_takeExp_69_fr l2 _ _ h)
    · refine FI h (fun h => ?_) (fun h => ?_)
      · obtain ⟨s5, hs5, h⟩ := FB h
        have f2 := fr_tr (W := wf_cR_takeExp) (f1) (fr_mono (by decide +kernel) (cR_takeSign_fr _ _ hs5))
        exact fr_tr (f2) (hkk l1 l2 _ _ h)
      · obtain ⟨s8, hs8, h⟩ := FB h
        have f3 := fr_tr (W := wf_cR_takeExp) (f1) (fr_mono (by decide +kernel) (cR_takeOne_fr l1 _ _ hs8))
        exact fr_tr (f3) (hkk l1 l2 _ _ h)
  · exact fr_tr (fr_rf) (cR_takeExp_69_fr l2 _ _ h)
theorem cR_takeExp_33_fr : ∀ (n : Nat) (l1 : Int32) (l2 : Int32) (s : ts) (r : Int32 × ts), cR_takeExp_33 n l1 l2 s = some r → fr wf_cR_takeExp s r.2 := by
  intro n
  induction n with
  | zero => intro l1 l2 s r h; exact FN h
  | succ n ih =>
    intro l1 l2 s r h
    rw [cR_takeExp_33.eq_2] at h
    exact cR_takeExp_33_b_fr (cR_takeExp_33 n) ih l1 l2 s r h
theorem cR_takeExp_fr (l1 : Int32) (s : ts) (r : Int32 × ts) (h : cR_takeExp l1 s = some r) : fr wf_cR_takeExp s r.2 := by
  unfold cR_takeExp at h
  exact fr_tr (fr_wI (fr_wI (fr_wI (fr_wI (fr_wI (fr_rf) rfl) rfl) rfl) rfl) rfl) (cR_takeExp_33_fr tm_N l1 (gI s 1139 0) _ _ h)
theorem cR_takeStart_279_fr (t1 : Int32) (t2 : Int32) (s : ts) (r : ts) (h : cR_takeStart_279 t1 t2 s = some r) : fr wf_cR_takeStart s r := by
  unfold cR_takeStart_279 at h
  replace h := FG h
  obtain ⟨s3, hs3, h⟩ := FB h
  have f1 := fr_tr (W := wf_cR_takeStart) (fr_wA (fr_rf) rfl) (fr_mono (by decide +kernel) (cR_must_fr ((59 : Int32)) _ _ hs3))
  exact FV h (f1)
theorem cR_takeStart_243_fr (l1 : Int32) (s : ts) (r : ts) (h : cR_takeStart_243 l1 s = some r) : fr wf_cR_takeStart s r := by
  unfold cR_takeStart_243 at h
  obtain ⟨s2, hs2, h⟩ := FB h
  have f1 := fr_tr (W := wf_cR_takeStart) (fr_rf) (fr_mono (by decide +kernel) (cR_must_fr ((41 : Int32)) _ _ hs2))
  obtain ⟨x6, hx6, h⟩ := FB h
  have f2 := fr_tr (W := wf_cR_takeStart) (f1) (fr_mono (by decide +kernel) (cR_good_fr _ _ hx6))
  refine FI h (fun h => ?_) (fun h => ?_)
  · exact fr_tr (f2) (cR_takeStart_279_fr l1 ((-1 : Int32)) _ _ h)
  · refine FI h (fun h => ?_) (fun h => ?_)
    · exact fr_tr (f2) (cR_takeStart_279_fr l1 ((-1 : Int32)) _ _ h)
    · obtain ⟨x9, hx9, h⟩ := FB h
      have f3 := fr_tr (W := wf_cR_takeStart) (f2) (fr_mono (by decide +kernel) (cR_takeExp_fr ((0 : Int32)) _ _ hx9))
      exact fr_tr (f3) (cR_takeStart_279_fr l1 x9.1 _ _ h)
theorem cR_takeStart_238_fr (l1 : Int32) (t1 : Int32) (s : ts) (r : ts) (h : cR_takeStart_238 l1 t1 s = some r) : fr wf_cR_takeStart s r := by
  unfold cR_takeStart_238 at h
  obtain ⟨s2, hs2, h⟩ := FB h
  have f1 := fr_tr (W := wf_cR_takeStart) (fr_rf) (fr_mono (by decide +kernel) (cR_need_fr t1 ((6 : Int32)) _ _ hs2))
  exact fr_tr (f1) (cR_takeStart_243_fr l1 _ _ h)
theorem cR_takeStart_180_fr (l1 : Int32) (l3 : Int32) (s : ts) (r : ts) (h : cR_takeStart_180 l1 l3 s = some r) : fr wf_cR_takeStart s r := by
  unfold cR_takeStart_180 at h
  replace h := FG h
  obtain ⟨x4, hx4, h⟩ := FB h
  have f1 := fr_tr (W := wf_cR_takeStart) (fr_wA (fr_rf) rfl) (fr_mono (by decide +kernel) (cR_findDefinition_fr (gB (wA s 105 l1.toNatClampNeg l3) 106 l1.toNatClampNeg) _ _ hx4))
  obtain ⟨x7, hx7, h⟩ := FB h
  have f2 := fr_tr (W := wf_cR_takeStart) (f1) (fr_mono (by decide +kernel) (cR_good_fr _ _ hx7))
  refine FI h (fun h => ?_) (fun h => ?_)
  · exact fr_tr (f2) (cR_takeStart_243_fr l1 _ _ h)
  · refine FI h (fun h => ?_) (fun h => ?_)
    · refine FI h (fun h => ?_) (fun h => ?_)
      · exact fr_tr (f2) (cR_takeStart_243_fr l1 _ _ h)
      · replace h := FG h
        refine FI h (fun h => ?_) (fun h => ?_)
        · exact fr_tr (f2) (cR_takeStart_238_fr l1 ((1 : Int32)) _ _ h)
        · exact fr_tr (f2) (cR_takeStart_238_fr l1 ((0 : Int32)) _ _ h)
    · exact fr_tr (f2) (cR_takeStart_243_fr l1 _ _ h)
theorem cR_takeStart_168_fr (k79 : Int32 → Int32 → Int32 → ts → Option (ts)) (hk79 : ∀ (a0 : Int32) (a1 : Int32) (a2 : Int32) (s : ts) (r : ts), k79 a0 a1 a2 s = some r → fr wf_cR_takeStart s r) (l1 : Int32) (l3 : Int32) (t0 : Int32) (s : ts) (r : ts) (h : cR_takeStart_168 k79 l1 l3 t0 s = some r) : fr wf_cR_takeStart s r := by
  unfold cR_takeStart_168 at h
  refine FI h (fun h => ?_) (fun h => ?_)
  · exact fr_tr (fr_rf) (hk79 l1 t0 l3 _ _ h)
  · obtain ⟨s2, hs2, h⟩ := FB h
    have f1 := fr_tr (W := wf_cR_takeStart) (fr_rf) (fr_mono (by decide +kernel) (cR_next_fr _ _ hs2))
    exact fr_tr (f1) (hk79 l1 t0 l3 _ _ h)
theorem cR_takeStart_154_fr (k79 : Int32 → Int32 → Int32 → ts → Option (ts)) (hk79 : ∀ (a0 : Int32) (a1 : Int32) (a2 : Int32) (s : ts) (r : ts), k79 a0 a1 a2 s = some r → fr wf_cR_takeStart s r) (l1 : Int32) (l3 : Int32) (s : ts) (r : ts) (h : cR_takeStart_154 k79 l1 l3 s = some r) : fr wf_cR_takeStart s r := by
  unfold cR_takeStart_154 at h
  refine FI h (fun h => ?_) (fun h => ?_)
  · exact fr_tr (fr_rf) (cR_takeStart_168_fr k79 hk79 l1 l3 ((1 : Int32)) _ _ h)
  · exact fr_tr (fr_rf) (cR_takeStart_168_fr k79 hk79 l1 l3 ((0 : Int32)) _ _ h)
theorem cR_takeStart_150_fr (k79 : Int32 → Int32 → Int32 → ts → Option (ts)) (hk79 : ∀ (a0 : Int32) (a1 : Int32) (a2 : Int32) (s : ts) (r : ts), k79 a0 a1 a2 s = some r → fr wf_cR_takeStart s r) (l1 : Int32) (l3 : Int32) (t1 : Int32) (s : ts) (r : ts) (h : cR_takeStart_150 k79 l1 l3 t1 s = some r) : fr wf_cR_takeStart s r := by
  unfold cR_takeStart_150 at h
  obtain ⟨s2, hs2, h⟩ := FB h
  have f1 := fr_tr (W := wf_cR_takeStart) (fr_rf) (fr_mono (by decide +kernel) (cR_need_fr t1 ((2 : Int32)) _ _ hs2))
  exact fr_tr (f1) (cR_takeStart_154_fr k79 hk79 l1 l3 _ _ h)
theorem cR_takeStart_116_fr (k79 : Int32 → Int32 → Int32 → ts → Option (ts)) (hk79 : ∀ (a0 : Int32) (a1 : Int32) (a2 : Int32) (s : ts) (r : ts), k79 a0 a1 a2 s = some r → fr wf_cR_takeStart s r) (l1 : Int32) (l3 : Int32) (s : ts) (r : ts) (h : cR_takeStart_116 k79 l1 l3 s = some r) : fr wf_cR_takeStart s r := by
  unfold cR_takeStart_116 at h
  obtain ⟨x3, hx3, h⟩ := FB h
  have f1 := fr_tr (W := wf_cR_takeStart) (fr_rf) (fr_mono (by decide +kernel) (cR_good_fr _ _ hx3))
  refine FI h (fun h => ?_) (fun h => ?_)
  · exact fr_tr (f1) (cR_takeStart_154_fr k79 hk79 l1 (l3 + (1 : Int32)) _ _ h)
  · refine FI h (fun h => ?_) (fun h => ?_)
    · exact fr_tr (f1) (cR_takeStart_150_fr k79 hk79 l1 (l3 + (1 : Int32)) ((1 : Int32)) _ _ h)
    · refine FI h (fun h => ?_) (fun h => ?_)
      · exact fr_tr (f1) (cR_takeStart_150_fr k79 hk79 l1 (l3 + (1 : Int32)) ((1 : Int32)) _ _ h)
      · exact fr_tr (f1) (cR_takeStart_150_fr k79 hk79 l1 (l3 + (1 : Int32)) ((0 : Int32)) _ _ h)
theorem cR_takeStart_79_b_fr (kk : Int32 → Int32 → Int32 → ts → Option (ts)) (hkk : ∀ (a0 : Int32) (a1 : Int32) (a2 : Int32) (s : ts) (r : ts), kk a0 a1 a2 s = some r → fr wf_cR_takeStart s r) (l1 : Int32) (l2 : Int32) (l3 : Int32) (s : ts) (r : ts) (h : cR_takeStart_79_b kk l1 l2 l3 s = some r) : fr wf_cR_takeStart s r := by
  unfold cR_takeStart_79_b at h
  refine FI h (fun h => ?_) (fun h => ?_)
  · exact fr_tr (fr_rf) (cR_takeStart_180_fr l1 l3 _ _ h)
  · obtain ⟨x3, hx3, h⟩ := FB h
    have f1 := fr_tr (W := wf_cR_takeStart) (fr_rf) (fr_mono (by decide +kernel) (cR_good_fr _ _ hx3))
    refine FI h (fun h => ?_) (fun h => ?_)
    · exact fr_tr (f1) (cR_takeStart_180_fr l1 l3 _ _ h)
    · obtain ⟨x6, hx6, h⟩ := FB h
      have f2 := fr_tr (W := wf_cR_takeStart) (f1) (fr_mono (by decide +kernel) (cR_takeExp_fr ((0 : Int32)) _ _ hx6))
      refine FI h (fun h => ?_) (fun h => ?_)
      · exact fr_tr (f2) (cR_takeStart_116_fr kk hkk l1 l3 _ _ h)
      · replace h := FG h
        exact fr_tr (fr_wA (f2) rfl) (cR_takeStart_116_fr kk hkk l1 l3 _ _ h)
theorem cR_takeStart_79_fr : ∀ (n : Nat) (l1 : Int32) (l2 : Int32) (l3 : Int32) (s : ts) (r : ts), cR_takeStart_79 n l1 l2 l3 s = some r → fr wf_cR_takeStart s r := by
  intro n
  induction n with
  | zero => intro l1 l2 l3 s r h; exact FN h
  | succ n ih =>
    intro l1 l2 l3 s r h
    rw [cR_takeStart_79.eq_2] at h
    exact cR_takeStart_79_b_fr (cR_takeStart_79 n) ih l1 l2 l3 s r h
theorem cR_takeStart_25_fr (l1 : Int32) (s : ts) (r : ts) (h : cR_takeStart_25 l1 s = some r) : fr wf_cR_takeStart s r := by
  unfold cR_takeStart_25 at h
  replace h := FG h
  obtain ⟨s3, hs3, h⟩ := FB h
  have f1 := fr_tr (W := wf_cR_takeStart) (fr_wA (fr_wB (fr_rf) rfl) rfl) (fr_mono (by decide +kernel) (cR_next_fr _ _ hs3))
  obtain ⟨s6, hs6, h⟩ := FB h
  have f2 := fr_tr (W := wf_cR_takeStart) (f1) (fr_mono (by decide +kernel) (cR_must_fr ((40 : Int32)) _ _ hs6))
  obtain ⟨x10, hx10, h⟩ := FB h
  have f3 := fr_tr (W := wf_cR_takeStart) (f2) (fr_mono (by decide +kernel) (cR_good_fr _ _ hx10))
  refine FI h (fun h => ?_) (fun h => ?_)
  · exact fr_tr (f3) (cR_takeStart_79_fr tm_N l1 ((0 : Int32)) ((0 : Int32)) _ _ h)
  · refine FI h (fun h => ?_) (fun h => ?_)
    · exact fr_tr (f3) (cR_takeStart_79_fr tm_N l1 ((0 : Int32)) ((0 : Int32)) _ _ h)
    · exact fr_tr (f3) (cR_takeStart_79_fr tm_N l1 ((1 : Int32)) ((0 : Int32)) _ _ h)
theorem cR_takeStart_21_fr (l1 : Int32) (t1 : Int32) (s : ts) (r : ts) (h : cR_takeStart_21 l1 t1 s = some r) : fr wf_cR_takeStart s r := by
  unfold cR_takeStart_21 at h
  obtain ⟨s2, hs2, h⟩ := FB h
  have f1 := fr_tr (W := wf_cR_takeStart) (fr_rf) (fr_mono (by decide +kernel) (cR_need_fr t1 ((2 : Int32)) _ _ hs2))
  exact fr_tr (f1) (cR_takeStart_25_fr l1 _ _ h)
theorem cR_takeStart_fr (l1 : Int32) (s : ts) (r : ts) (h : cR_takeStart l1 s = some r) : fr wf_cR_takeStart s r := by
  unfold cR_takeStart at h
  obtain ⟨x3, hx3, h⟩ := FB h
  have f1 := fr_tr (W := wf_cR_takeStart) (fr_rf) (fr_mono (by decide +kernel) (cR_good_fr _ _ hx3))
  refine FI h (fun h => ?_) (fun h => ?_)
  · exact fr_tr (f1) (cR_takeStart_25_fr l1 _ _ h)
  · refine FI h (fun h => ?_) (fun h => ?_)
    · exact fr_tr (f1) (cR_takeStart_21_fr l1 ((1 : Int32)) _ _ h)
    · exact fr_tr (f1) (cR_takeStart_21_fr l1 ((0 : Int32)) _ _ h)
theorem cR_takeRest_398_fr (t1 : Int32) (t3 : Int32) (s : ts) (r : ts) (h : cR_takeRest_398 t1 t3 s = some r) : fr wf_cR_takeRest s r := by
  unfold cR_takeRest_398 at h
  obtain ⟨x3, hx3, h⟩ := FB h
  have f1 := fr_tr (W := wf_cR_takeRest) (fr_rf) (fr_mono (by decide +kernel) (cR_takeExp_fr t3 _ _ hx3))
  replace h := FG h
  obtain ⟨s6, hs6, h⟩ := FB h
  have f2 := fr_tr (W := wf_cR_takeRest) (fr_wA (f1) rfl) (fr_mono (by decide +kernel) (cR_must_fr ((59 : Int32)) _ _ hs6))
  exact FV h (f2)
theorem cR_takeRest_264_fr (t1 : Int32) (t2 : Int32) (s : ts) (r : ts) (h : cR_takeRest_264 t1 t2 s = some r) : fr wf_cR_takeRest s r := by
  unfold cR_takeRest_264 at h
  replace h := FG h
  obtain ⟨s3, hs3, h⟩ := FB h
  have f1 := fr_tr (W := wf_cR_takeRest) (fr_wA (fr_rf) rfl) (fr_mono (by decide +kernel) (cR_must_fr ((59 : Int32)) _ _ hs3))
  exact FV h (f1)
theorem cR_takeRest_224_fr (l1 : Int32) (l2 : Int32) (s : ts) (r : ts) (h : cR_takeRest_224 l1 l2 s = some r) : fr wf_cR_takeRest s r := by
  unfold cR_takeRest_224 at h
  obtain ⟨s2, hs2, h⟩ := FB h
  have f1 := fr_tr (W := wf_cR_takeRest) (fr_rf) (fr_mono (by decide +kernel) (cR_next_fr _ _ hs2))
  refine FI h (fun h => ?_) (fun h => ?_)
  · obtain ⟨x6, hx6, h⟩ := FB h
    have f2 := fr_tr (W := wf_cR_takeRest) (f1) (fr_mono (by decide +kernel) (cR_good_fr _ _ hx6))
    refine FI h (fun h => ?_) (fun h => ?_)
    · exact fr_tr (f2) (cR_takeRest_264_fr l1 ((-1 : Int32)) _ _ h)
    · refine FI h (fun h => ?_) (fun h => ?_)
      · exact fr_tr (f2) (cR_takeRest_264_fr l1 ((-1 : Int32)) _ _ h)
      · obtain ⟨x9, hx9, h⟩ := FB h
        have f3 := fr_tr (W := wf_cR_takeRest) (f2) (fr_mono (by decide +kernel) (cR_takeExp_fr ((0 : Int32)) _ _ hx9))
        exact fr_tr (f3) (cR_takeRest_264_fr l1 x9.1 _ _ h)
  · exact fr_tr (f1) (cR_takeRest_264_fr l1 ((-1 : Int32)) _ _ h)
theorem cR_takeRest_220_fr (l1 : Int32) (l2 : Int32) (t1 : Int32) (s : ts) (r : ts) (h : cR_takeRest_220 l1 l2 t1 s = some r) : fr wf_cR_takeRest s r := by
  unfold cR_takeRest_220 at h
  obtain ⟨s2, hs2, h⟩ := FB h
  have f1 := fr_tr (W := wf_cR_takeRest) (fr_rf) (fr_mono (by decide +kernel) (cR_need_fr t1 ((4 : Int32)) _ _ hs2))
  exact fr_tr (f1) (cR_takeRest_224_fr l1 l2 _ _ h)
theorem cR_takeRest_183_fr (l1 : Int32) (l2 : Int32) (s : ts) (r : ts) (h : cR_takeRest_183 l1 l2 s = some r) : fr wf_cR_takeRest s r := by
  unfold cR_takeRest_183 at h
  obtain ⟨x3, hx3, h⟩ := FB h
  have f1 := fr_tr (W := wf_cR_takeRest) (fr_rf) (fr_mono (by decide +kernel) (cR_findResource_fr (gJ s 1108 0) _ _ hx3))
  replace h := FG h
  obtain ⟨x7, hx7, h⟩ := FB h
  have f2 := fr_tr (W := wf_cR_takeRest) (fr_wA (f1) rfl) (fr_mono (by decide +kernel) (cR_good_fr _ _ hx7))
  refine FI h (fun h => ?_) (fun h => ?_)
  · exact fr_tr (f2) (cR_takeRest_224_fr l1 l2 _ _ h)
  · refine FI h (fun h => ?_) (fun h => ?_)
    · exact fr_tr (f2) (cR_takeRest_220_fr l1 l2 ((0 : Int32)) _ _ h)
    · exact fr_tr (f2) (cR_takeRest_220_fr l1 l2 ((1 : Int32)) _ _ h)
theorem cR_takeRest_179_fr (l1 : Int32) (l2 : Int32) (t1 : Int32) (s : ts) (r : ts) (h : cR_takeRest_179 l1 l2 t1 s = some r) : fr wf_cR_takeRest s r := by
  unfold cR_takeRest_179 at h
  obtain ⟨s2, hs2, h⟩ := FB h
  have f1 := fr_tr (W := wf_cR_takeRest) (fr_rf) (fr_mono (by decide +kernel) (cR_need_fr t1 ((2 : Int32)) _ _ hs2))
  exact fr_tr (f1) (cR_takeRest_183_fr l1 l2 _ _ h)
theorem cR_takeRest_340_fr (l1 : Int32) (s : ts) (r : ts) (h : cR_takeRest_340 l1 s = some r) : fr wf_cR_takeRest s r := by
  unfold cR_takeRest_340 at h
  obtain ⟨s2, hs2, h⟩ := FB h
  have f1 := fr_tr (W := wf_cR_takeRest) (fr_rf) (fr_mono (by decide +kernel) (cR_next_fr _ _ hs2))
  obtain ⟨x6, hx6, h⟩ := FB h
  have f2 := fr_tr (W := wf_cR_takeRest) (f1) (fr_mono (by decide +kernel) (cR_takeExp_fr ((0 : Int32)) _ _ hx6))
  replace h := FG h
  obtain ⟨s9, hs9, h⟩ := FB h
  have f3 := fr_tr (W := wf_cR_takeRest) (fr_wA (f2) rfl) (fr_mono (by decide +kernel) (cR_must_fr ((59 : Int32)) _ _ hs9))
  exact FV h (f3)
theorem cR_takeRest_336_fr (l1 : Int32) (t1 : Int32) (s : ts) (r : ts) (h : cR_takeRest_336 l1 t1 s = some r) : fr wf_cR_takeRest s r := by
  unfold cR_takeRest_336 at h
  obtain ⟨s2, hs2, h⟩ := FB h
  have f1 := fr_tr (W := wf_cR_takeRest) (fr_rf) (fr_mono (by decide +kernel) (cR_need_fr t1 ((4 : Int32)) _ _ hs2))
  exact fr_tr (f1) (cR_takeRest_340_fr l1 _ _ h)
theorem cR_takeRest_299_fr (l1 : Int32) (s : ts) (r : ts) (h : cR_takeRest_299 l1 s = some r) : fr wf_cR_takeRest s r := by
  unfold cR_takeRest_299 at h
  obtain ⟨x3, hx3, h⟩ := FB h
  have f1 := fr_tr (W := wf_cR_takeRest) (fr_rf) (fr_mono (by decide +kernel) (cR_findStore_fr (gJ s 1108 0) _ _ hx3))
  replace h := FG h
  obtain ⟨x7, hx7, h⟩ := FB h
  have f2 := fr_tr (W := wf_cR_takeRest) (fr_wA (f1) rfl) (fr_mono (by decide +kernel) (cR_good_fr _ _ hx7))
  refine FI h (fun h => ?_) (fun h => ?_)
  · exact fr_tr (f2) (cR_takeRest_340_fr l1 _ _ h)
  · refine FI h (fun h => ?_) (fun h => ?_)
    · exact fr_tr (f2) (cR_takeRest_336_fr l1 ((0 : Int32)) _ _ h)
    · exact fr_tr (f2) (cR_takeRest_336_fr l1 ((1 : Int32)) _ _ h)
theorem cR_takeRest_295_fr (l1 : Int32) (t1 : Int32) (s : ts) (r : ts) (h : cR_takeRest_295 l1 t1 s = some r) : fr wf_cR_takeRest s r := by
  unfold cR_takeRest_295 at h
  obtain ⟨s2, hs2, h⟩ := FB h
  have f1 := fr_tr (W := wf_cR_takeRest) (fr_rf) (fr_mono (by decide +kernel) (cR_need_fr t1 ((2 : Int32)) _ _ hs2))
  exact fr_tr (f1) (cR_takeRest_299_fr l1 _ _ h)
theorem cR_takeRest_fr (l1 : Int32) (l2 : Int32) (s : ts) (r : ts) (h : cR_takeRest l1 l2 s = some r) : fr wf_cR_takeRest s r := by
  unfold cR_takeRest at h
  refine FI h (fun h => ?_) (fun h => ?_)
  · obtain ⟨s2, hs2, h⟩ := FB h
    have f1 := fr_tr (W := wf_cR_takeRest) (fr_rf) (fr_mono (by decide +kernel) (cR_takeLocal_fr _ _ hs2))
    obtain ⟨s5, hs5, h⟩ := FB h
    have f2 := fr_tr (W := wf_cR_takeRest) (f1) (fr_mono (by decide +kernel) (cR_next_fr _ _ hs5))
    obtain ⟨s8, hs8, h⟩ := FB h
    have f3 := fr_tr (W := wf_cR_takeRest) (f2) (fr_mono (by decide +kernel) (cR_must_fr ((61 : Int32)) _ _ hs8))
    obtain ⟨x12, hx12, h⟩ := FB h
    have f4 := fr_tr (W := wf_cR_takeRest) (f3) (fr_mono (by decide +kernel) (cR_takeExp_fr ((0 : Int32)) _ _ hx12))
    replace h := FG h
    obtain ⟨s15, hs15, h⟩ := FB h
    have f5 := fr_tr (W := wf_cR_takeRest) (fr_wA (fr_wA (fr_wA (f4) rfl) rfl) rfl) (fr_mono (by decide +kernel) (cR_addLocal_fr (gJ s2 1108 0) _ _ hs15))
    obtain ⟨s18, hs18, h⟩ := FB h
    have f6 := fr_tr (W := wf_cR_takeRest) (f5) (fr_mono (by decide +kernel) (cR_must_fr ((59 : Int32)) _ _ hs18))
    exact FV h (f6)
  · refine FI h (fun h => ?_) (fun h => ?_)
    · obtain ⟨x23, hx23, h⟩ := FB h
      have f7 := fr_tr (W := wf_cR_takeRest) (fr_rf) (fr_mono (by decide +kernel) (cR_takeExp_fr ((0 : Int32)) _ _ hx23))
      replace h := FG h
      obtain ⟨s26, hs26, h⟩ := FB h
      have f8 := fr_tr (W := wf_cR_takeRest) (fr_wA (f7) rfl) (fr_mono (by decide +kernel) (cR_beginBlock_fr l2 l1 _ _ hs26))
      exact FV h (f8)
    · refine FI h (fun h => ?_) (fun h => ?_)
      · refine FI h (fun h => ?_) (fun h => ?_)
        · exact fr_tr (fr_rf) (cR_takeRest_398_fr l1 ((1 : Int32)) _ _ h)
        · exact fr_tr (fr_rf) (cR_takeRest_398_fr l1 ((0 : Int32)) _ _ h)
      · refine FI h (fun h => ?_) (fun h => ?_)
        · obtain ⟨x33, hx33, h⟩ := FB h
          have f9 := fr_tr (W := wf_cR_takeRest) (fr_rf) (fr_mono (by decide +kernel) (cR_takeExp_fr ((0 : Int32)) _ _ hx33))
          replace h := FG h
          obtain ⟨s36, hs36, h⟩ := FB h
          have f10 := fr_tr (W := wf_cR_takeRest) (fr_wA (f9) rfl) (fr_mono (by decide +kernel) (cR_beginBlock_fr l2 l1 _ _ hs36))
          exact FV h (f10)
        · refine FI h (fun h => ?_) (fun h => ?_)
          · refine FI h (fun h => ?_) (fun h => ?_)
            · exact fr_tr (fr_rf) (cR_takeRest_398_fr l1 ((1 : Int32)) _ _ h)
            · exact fr_tr (fr_rf) (cR_takeRest_398_fr l1 ((0 : Int32)) _ _ h)
          · refine FI h (fun h => ?_) (fun h => ?_)
            · obtain ⟨x43, hx43, h⟩ := FB h
              have f11 := fr_tr (W := wf_cR_takeRest) (fr_rf) (fr_mono (by decide +kernel) (cR_good_fr _ _ hx43))
              refine FI h (fun h => ?_) (fun h => ?_)
              · exact fr_tr (f11) (cR_takeRest_183_fr l1 l2 _ _ h)
              · refine FI h (fun h => ?_) (fun h => ?_)
                · exact fr_tr (f11) (cR_takeRest_179_fr l1 l2 ((1 : Int32)) _ _ h)
                · exact fr_tr (f11) (cR_takeRest_179_fr l1 l2 ((0 : Int32)) _ _ h)
            · refine FI h (fun h => ?_) (fun h => ?_)
              · obtain ⟨x49, hx49, h⟩ := FB h
                have f12 := fr_tr (W := wf_cR_takeRest) (fr_rf) (fr_mono (by decide +kernel) (cR_good_fr _ _ hx49))
                refine FI h (fun h => ?_) (fun h => ?_)
                · exact fr_tr (f12) (cR_takeRest_183_fr l1 l2 _ _ h)
                · refine FI h (fun h => ?_) (fun h => ?_)
                  · exact fr_tr (f12) (cR_takeRest_179_fr l1 l2 ((1 : Int32)) _ _ h)
                  · exact fr_tr (f12) (cR_takeRest_179_fr l1 l2 ((0 : Int32)) _ _ h)
              · refine FI h (fun h => ?_) (fun h => ?_)
                · obtain ⟨x55, hx55, h⟩ := FB h
                  have f13 := fr_tr (W := wf_cR_takeRest) (fr_rf) (fr_mono (by decide +kernel) (cR_good_fr _ _ hx55))
                  refine FI h (fun h => ?_) (fun h => ?_)
                  · exact fr_tr (f13) (cR_takeRest_299_fr l1 _ _ h)
                  · refine FI h (fun h => ?_) (fun h => ?_)
                    · exact fr_tr (f13) (cR_takeRest_295_fr l1 ((1 : Int32)) _ _ h)
                    · exact fr_tr (f13) (cR_takeRest_295_fr l1 ((0 : Int32)) _ _ h)
                · refine FI h (fun h => ?_) (fun h => ?_)
                  · obtain ⟨x61, hx61, h⟩ := FB h
                    have f14 := fr_tr (W := wf_cR_takeRest) (fr_rf) (fr_mono (by decide +kernel) (cR_good_fr _ _ hx61))
                    refine FI h (fun h => ?_) (fun h => ?_)
                    · exact fr_tr (f14) (cR_takeRest_299_fr l1 _ _ h)
                    · refine FI h (fun h => ?_) (fun h => ?_)
                      · exact fr_tr (f14) (cR_takeRest_295_fr l1 ((1 : Int32)) _ _ h)
                      · exact fr_tr (f14) (cR_takeRest_295_fr l1 ((0 : Int32)) _ _ h)
                  · refine FI h (fun h => ?_) (fun h => ?_)
                    · refine FI h (fun h => ?_) (fun h => ?_)
                      · exact fr_tr (fr_rf) (cR_takeRest_398_fr l1 ((1 : Int32)) _ _ h)
                      · exact fr_tr (fr_rf) (cR_takeRest_398_fr l1 ((0 : Int32)) _ _ h)
                    · refine FI h (fun h => ?_) (fun h => ?_)
                      · obtain ⟨s68, hs68, h⟩ := FB h
                        have f15 := fr_tr (W := wf_cR_takeRest) (fr_rf) (fr_mono (by decide +kernel) (cR_takeStart_fr l1 _ _ hs68))
                        exact FV h (f15)
                      · refine FI h (fun h => ?_) (fun h => ?_)
                        · refine FI h (fun h => ?_) (fun h => ?_)
                          · exact fr_tr (fr_rf) (cR_takeRest_398_fr l1 ((1 : Int32)) _ _ h)
                          · exact fr_tr (fr_rf) (cR_takeRest_398_fr l1 ((0 : Int32)) _ _ h)
                        · refine FI h (fun h => ?_) (fun h => ?_)
                          · refine FI h (fun h => ?_) (fun h => ?_)
                            · exact fr_tr (fr_rf) (cR_takeRest_398_fr l1 ((1 : Int32)) _ _ h)
                            · exact fr_tr (fr_rf) (cR_takeRest_398_fr l1 ((0 : Int32)) _ _ h)
                          · refine FI h (fun h => ?_) (fun h => ?_)
                            · refine FI h (fun h => ?_) (fun h => ?_)
                              · exact fr_tr (fr_rf) (cR_takeRest_398_fr l1 ((1 : Int32)) _ _ h)
                              · exact fr_tr (fr_rf) (cR_takeRest_398_fr l1 ((0 : Int32)) _ _ h)
                            · refine FI h (fun h => ?_) (fun h => ?_)
                              · obtain ⟨s78, hs78, h⟩ := FB h
                                have f16 := fr_tr (W := wf_cR_takeRest) (fr_rf) (fr_mono (by decide +kernel) (cR_must_fr ((59 : Int32)) _ _ hs78))
                                exact FV h (f16)
                              · refine FI h (fun h => ?_) (fun h => ?_)
                                · exact fr_tr (fr_rf) (cR_takeRest_398_fr l1 ((1 : Int32)) _ _ h)
                                · exact fr_tr (fr_rf) (cR_takeRest_398_fr l1 ((0 : Int32)) _ _ h)
theorem cR_takeStatement_191_fr (l4 : Int32) (t1 : Int32) (t2 : Int32) (s : ts) (r : ts) (h : cR_takeStatement_191 l4 t1 t2 s = some r) : fr wf_cR_takeStatement s r := by
  unfold cR_takeStatement_191 at h
  replace h := FG h
  obtain ⟨s3, hs3, h⟩ := FB h
  have f1 := fr_tr (W := wf_cR_takeStatement) (fr_wA (fr_rf) rfl) (fr_mono (by decide +kernel) (cR_next_fr _ _ hs3))
  obtain ⟨s6, hs6, h⟩ := FB h
  have f2 := fr_tr (W := wf_cR_takeStatement) (f1) (fr_mono (by decide +kernel) (cR_must_fr ((61 : Int32)) _ _ hs6))
  obtain ⟨x10, hx10, h⟩ := FB h
  have f3 := fr_tr (W := wf_cR_takeStatement) (f2) (fr_mono (by decide +kernel) (cR_takeExp_fr ((0 : Int32)) _ _ hx10))
  replace h := FG h
  obtain ⟨s13, hs13, h⟩ := FB h
  have f4 := fr_tr (W := wf_cR_takeStatement) (fr_wA (f3) rfl) (fr_mono (by decide +kernel) (cR_must_fr ((59 : Int32)) _ _ hs13))
  exact FV h (f4)
theorem cR_takeStatement_163_fr (l3 : Int32) (t1 : Int32) (s : ts) (r : ts) (h : cR_takeStatement_163 l3 t1 s = some r) : fr wf_cR_takeStatement s r := by
  unfold cR_takeStatement_163 at h
  obtain ⟨x3, hx3, h⟩ := FB h
  have f1 := fr_tr (W := wf_cR_takeStatement) (fr_rf) (fr_mono (by decide +kernel) (cR_line_fr t1 _ _ hx3))
  refine FI h (fun h => ?_) (fun h => ?_)
  · obtain ⟨x6, hx6, h⟩ := FB h
    have f2 := fr_tr (W := wf_cR_takeStatement) (f1) (fr_mono (by decide +kernel) (cR_findNumber_fr (gJ x3.2 1108 0) _ _ hx6))
    exact fr_tr (f2) (cR_takeStatement_191_fr x3.1 x3.1 x6.1 _ _ h)
  · exact fr_tr (f1) (cR_takeStatement_191_fr x3.1 x3.1 l3 _ _ h)
theorem cR_takeStatement_116_fr (l1 : Int32) (l2 : Int32) (t1 : Int32) (s : ts) (r : ts) (h : cR_takeStatement_116 l1 l2 t1 s = some r) : fr wf_cR_takeStatement s r := by
  unfold cR_takeStatement_116 at h
  obtain ⟨s2, hs2, h⟩ := FB h
  have f1 := fr_tr (W := wf_cR_takeStatement) (fr_rf) (fr_mono (by decide +kernel) (cR_limit_fr t1 _ _ hs2))
  obtain ⟨x6, hx6, h⟩ := FB h
  have f2 := fr_tr (W := wf_cR_takeStatement) (f1) (fr_mono (by decide +kernel) (cR_good_fr _ _ hx6))
  refine FI h (fun h => ?_) (fun h => ?_)
  · exact FV h (f2)
  · refine FI h (fun h => ?_) (fun h => ?_)
    · obtain ⟨x9, hx9, h⟩ := FB h
      have f3 := fr_tr (W := wf_cR_takeStatement) (fr_wI (f2) rfl) (fr_mono (by decide +kernel) (cR_line_fr l1 _ _ hx9))
      obtain ⟨s11, hs11, h⟩ := FB h
      have f4 := fr_tr (W := wf_cR_takeStatement) (f3) (fr_mono (by decide +kernel) (cR_next_fr _ _ hs11))
      obtain ⟨s14, hs14, h⟩ := FB h
      have f5 := fr_tr (W := wf_cR_takeStatement) (f4) (fr_mono (by decide +kernel) (cR_takeRest_fr x9.1 l1 _ _ hs14))
      exact FV h (f5)
    · obtain ⟨x18, hx18, h⟩ := FB h
      have f6 := fr_tr (W := wf_cR_takeStatement) (fr_wI (f2) rfl) (fr_mono (by decide +kernel) (cR_findLocal_fr (gJ (wI x6.2 1126 0 ((gI x6.2 1126 0) + ((1 : Int32)))) 1108 0) _ _ hx18))
      refine FI h (fun h => ?_) (fun h => ?_)
      · exact fr_tr (f6) (cR_takeStatement_163_fr x18.1 ((25 : Int32)) _ _ h)
      · exact fr_tr (f6) (cR_takeStatement_163_fr x18.1 ((24 : Int32)) _ _ h)
theorem cR_takeStatement_100_fr (l1 : Int32) (l2 : Int32) (s : ts) (r : ts) (h : cR_takeStatement_100 l1 l2 s = some r) : fr wf_cR_takeStatement s r := by
  unfold cR_takeStatement_100 at h
  refine FI h (fun h => ?_) (fun h => ?_)
  · exact fr_tr (fr_rf) (cR_takeStatement_116_fr l1 l2 ((0 : Int32)) _ _ h)
  · exact fr_tr (fr_rf) (cR_takeStatement_116_fr l1 l2 ((1 : Int32)) _ _ h)
theorem cR_takeStatement_96_fr (l1 : Int32) (l2 : Int32) (t1 : Int32) (s : ts) (r : ts) (h : cR_takeStatement_96 l1 l2 t1 s = some r) : fr wf_cR_takeStatement s r := by
  unfold cR_takeStatement_96 at h
  obtain ⟨s2, hs2, h⟩ := FB h
  have f1 := fr_tr (W := wf_cR_takeStatement) (fr_rf) (fr_mono (by decide +kernel) (cR_need_fr t1 ((4 : Int32)) _ _ hs2))
  exact fr_tr (f1) (cR_takeStatement_100_fr l1 l2 _ _ h)
theorem cR_takeStatement_51_fr (l1 : Int32) (l2 : Int32) (t1 : Int32) (s : ts) (r : ts) (h : cR_takeStatement_51 l1 l2 t1 s = some r) : fr wf_cR_takeStatement s r := by
  unfold cR_takeStatement_51 at h
  obtain ⟨s2, hs2, h⟩ := FB h
  have f1 := fr_tr (W := wf_cR_takeStatement) (fr_rf) (fr_mono (by decide +kernel) (cR_need_fr t1 ((2 : Int32)) _ _ hs2))
  obtain ⟨x6, hx6, h⟩ := FB h
  have f2 := fr_tr (W := wf_cR_takeStatement) (f1) (fr_mono (by decide +kernel) (cR_good_fr _ _ hx6))
  refine FI h (fun h => ?_) (fun h => ?_)
  · exact fr_tr (f2) (cR_takeStatement_100_fr l1 l2 _ _ h)
  · refine FI h (fun h => ?_) (fun h => ?_)
    · exact fr_tr (f2) (cR_takeStatement_100_fr l1 l2 _ _ h)
    · obtain ⟨x9, hx9, h⟩ := FB h
      have f3 := fr_tr (W := wf_cR_takeStatement) (f2) (fr_mono (by decide +kernel) (cR_findLocal_fr (gJ x6.2 1108 0) _ _ hx9))
      refine FI h (fun h => ?_) (fun h => ?_)
      · obtain ⟨x12, hx12, h⟩ := FB h
        have f4 := fr_tr (W := wf_cR_takeStatement) (f3) (fr_mono (by decide +kernel) (cR_findNumber_fr (gJ x9.2 1108 0) _ _ hx12))
        refine FI h (fun h => ?_) (fun h => ?_)
        · exact fr_tr (f4) (cR_takeStatement_96_fr l1 l2 ((0 : Int32)) _ _ h)
        · exact fr_tr (f4) (cR_takeStatement_96_fr l1 l2 ((1 : Int32)) _ _ h)
      · exact fr_tr (f3) (cR_takeStatement_96_fr l1 l2 ((1 : Int32)) _ _ h)
theorem cR_takeStatement_23_fr (l1 : Int32) (t0 : Int32) (s : ts) (r : ts) (h : cR_takeStatement_23 l1 t0 s = some r) : fr wf_cR_takeStatement s r := by
  unfold cR_takeStatement_23 at h
  refine FI h (fun h => ?_) (fun h => ?_)
  · refine FI h (fun h => ?_) (fun h => ?_)
    · exact fr_tr (fr_rf) (cR_takeStatement_51_fr l1 t0 ((0 : Int32)) _ _ h)
    · refine FI h (fun h => ?_) (fun h => ?_)
      · exact fr_tr (fr_rf) (cR_takeStatement_51_fr l1 t0 ((0 : Int32)) _ _ h)
      · refine FI h (fun h => ?_) (fun h => ?_)
        · exact fr_tr (fr_rf) (cR_takeStatement_51_fr l1 t0 ((0 : Int32)) _ _ h)
        · exact fr_tr (fr_rf) (cR_takeStatement_51_fr l1 t0 ((1 : Int32)) _ _ h)
  · exact fr_tr (fr_rf) (cR_takeStatement_51_fr l1 t0 ((1 : Int32)) _ _ h)
theorem cR_takeStatement_fr (s : ts) (r : ts) (h : cR_takeStatement s = some r) : fr wf_cR_takeStatement s r := by
  unfold cR_takeStatement at h
  obtain ⟨x3, hx3, h⟩ := FB h
  have f1 := fr_tr (W := wf_cR_takeStatement) (fr_rf) (fr_mono (by decide +kernel) (cR_reserved_fr _ _ hx3))
  refine FI h (fun h => ?_) (fun h => ?_)
  · refine FI h (fun h => ?_) (fun h => ?_)
    · exact fr_tr (f1) (cR_takeStatement_23_fr x3.1 ((1 : Int32)) _ _ h)
    · exact fr_tr (f1) (cR_takeStatement_23_fr x3.1 ((0 : Int32)) _ _ h)
  · exact fr_tr (f1) (cR_takeStatement_23_fr x3.1 ((0 : Int32)) _ _ h)
theorem cR_takeProcess_224_fr (s : ts) (r : ts) (h : cR_takeProcess_224 s = some r) : fr wf_cR_takeProcess s r := by
  unfold cR_takeProcess_224 at h
  obtain ⟨x3, hx3, h⟩ := FB h
  have f1 := fr_tr (W := wf_cR_takeProcess) (fr_rf) (fr_mono (by decide +kernel) (cR_line_fr ((27 : Int32)) _ _ hx3))
  exact FV h (f1)
theorem cR_takeProcess_187_b_fr (kk : ts → Option (ts)) (hkk : ∀ (s : ts) (r : ts), kk s = some r → fr wf_cR_takeProcess s r) (s : ts) (r : ts) (h : cR_takeProcess_187_b kk s = some r) : fr wf_cR_takeProcess s r := by
  unfold cR_takeProcess_187_b at h
  obtain ⟨x3, hx3, h⟩ := FB h
  have f1 := fr_tr (W := wf_cR_takeProcess) (fr_rf) (fr_mono (by decide +kernel) (cR_good_fr _ _ hx3))
  refine FI h (fun h => ?_) (fun h => ?_)
  · exact fr_tr (f1) (cR_takeProcess_224_fr _ _ h)
  · refine FI h (fun h => ?_) (fun h => ?_)
    · exact fr_tr (f1) (cR_takeProcess_224_fr _ _ h)
    · refine FI h (fun h => ?_) (fun h => ?_)
      · obtain ⟨s8, hs8, h⟩ := FB h
        have f2 := fr_tr (W := wf_cR_takeProcess) (f1) (fr_mono (by decide +kernel) (cR_endBlock_fr _ _ hs8))
        exact fr_tr (f2) (hkk _ _ h)
      · obtain ⟨s5, hs5, h⟩ := FB h
        have f3 := fr_tr (W := wf_cR_takeProcess) (f1) (fr_mono (by decide +kernel) (cR_takeStatement_fr _ _ hs5))
        exact fr_tr (f3) (hkk _ _ h)
theorem cR_takeProcess_187_fr : ∀ (n : Nat) (s : ts) (r : ts), cR_takeProcess_187 n s = some r → fr wf_cR_takeProcess s r := by
  intro n
  induction n with
  | zero => intro s r h; exact FN h
  | succ n ih =>
    intro s r h
    rw [cR_takeProcess_187.eq_2] at h
    exact cR_takeProcess_187_b_fr (cR_takeProcess_187 n) ih s r h
theorem cR_takeProcess_150_fr (l1 : Int32) (s : ts) (r : ts) (h : cR_takeProcess_150 l1 s = some r) : fr wf_cR_takeProcess s r := by
  unfold cR_takeProcess_150 at h
  replace h := FG h
  obtain ⟨s3, hs3, h⟩ := FB h
  have f1 := fr_tr (W := wf_cR_takeProcess) (fr_wA (fr_rf) rfl) (fr_mono (by decide +kernel) (cR_must_fr ((41 : Int32)) _ _ hs3))
  obtain ⟨s6, hs6, h⟩ := FB h
  have f2 := fr_tr (W := wf_cR_takeProcess) (fr_wI (fr_wA (f1) rfl) rfl) (fr_mono (by decide +kernel) (cR_beginBlock_fr ((3 : Int32)) ((0 : Int32)) _ _ hs6))
  exact fr_tr (f2) (cR_takeProcess_187_fr tm_N _ _ h)
theorem cR_takeProcess_138_fr (k97 : Int32 → Int32 → ts → Option (ts)) (hk97 : ∀ (a0 : Int32) (a1 : Int32) (s : ts) (r : ts), k97 a0 a1 s = some r → fr wf_cR_takeProcess s r) (l1 : Int32) (t0 : Int32) (s : ts) (r : ts) (h : cR_takeProcess_138 k97 l1 t0 s = some r) : fr wf_cR_takeProcess s r := by
  unfold cR_takeProcess_138 at h
  refine FI h (fun h => ?_) (fun h => ?_)
  · exact fr_tr (fr_rf) (hk97 l1 t0 _ _ h)
  · obtain ⟨s2, hs2, h⟩ := FB h
    have f1 := fr_tr (W := wf_cR_takeProcess) (fr_rf) (fr_mono (by decide +kernel) (cR_next_fr _ _ hs2))
    exact fr_tr (f1) (hk97 l1 t0 _ _ h)
theorem cR_takeProcess_97_b_fr (kk : Int32 → Int32 → ts → Option (ts)) (hkk : ∀ (a0 : Int32) (a1 : Int32) (s : ts) (r : ts), kk a0 a1 s = some r → fr wf_cR_takeProcess s r) (l1 : Int32) (l2 : Int32) (s : ts) (r : ts) (h : cR_takeProcess_97_b kk l1 l2 s = some r) : fr wf_cR_takeProcess s r := by
  unfold cR_takeProcess_97_b at h
  refine FI h (fun h => ?_) (fun h => ?_)
  · exact fr_tr (fr_rf) (cR_takeProcess_150_fr l1 _ _ h)
  · obtain ⟨x3, hx3, h⟩ := FB h
    have f1 := fr_tr (W := wf_cR_takeProcess) (fr_rf) (fr_mono (by decide +kernel) (cR_good_fr _ _ hx3))
    refine FI h (fun h => ?_) (fun h => ?_)
    · exact fr_tr (f1) (cR_takeProcess_150_fr l1 _ _ h)
    · obtain ⟨s5, hs5, h⟩ := FB h
      have f2 := fr_tr (W := wf_cR_takeProcess) (f1) (fr_mono (by decide +kernel) (cR_takeLocal_fr _ _ hs5))
      obtain ⟨s8, hs8, h⟩ := FB h
      have f3 := fr_tr (W := wf_cR_takeProcess) (f2) (fr_mono (by decide +kernel) (cR_addLocal_fr (gJ s5 1108 0) _ _ hs8))
      obtain ⟨s11, hs11, h⟩ := FB h
      have f4 := fr_tr (W := wf_cR_takeProcess) (f3) (fr_mono (by decide +kernel) (cR_next_fr _ _ hs11))
      refine FI h (fun h => ?_) (fun h => ?_)
      · exact fr_tr (f4) (cR_takeProcess_138_fr kk hkk l1 ((1 : Int32)) _ _ h)
      · exact fr_tr (f4) (cR_takeProcess_138_fr kk hkk l1 ((0 : Int32)) _ _ h)
theorem cR_takeProcess_97_fr : ∀ (n : Nat) (l1 : Int32) (l2 : Int32) (s : ts) (r : ts), cR_takeProcess_97 n l1 l2 s = some r → fr wf_cR_takeProcess s r := by
  intro n
  induction n with
  | zero => intro l1 l2 s r h; exact FN h
  | succ n ih =>
    intro l1 l2 s r h
    rw [cR_takeProcess_97.eq_2] at h
    exact cR_takeProcess_97_b_fr (cR_takeProcess_97 n) ih l1 l2 s r h
theorem cR_takeProcess_24_fr (t1 : Int32) (s : ts) (r : ts) (h : cR_takeProcess_24 t1 s = some r) : fr wf_cR_takeProcess s r := by
  unfold cR_takeProcess_24 at h
  obtain ⟨s2, hs2, h⟩ := FB h
  have f1 := fr_tr (W := wf_cR_takeProcess) (fr_rf) (fr_mono (by decide +kernel) (cR_limit_fr t1 _ _ hs2))
  obtain ⟨x6, hx6, h⟩ := FB h
  have f2 := fr_tr (W := wf_cR_takeProcess) (f1) (fr_mono (by decide +kernel) (cR_good_fr _ _ hx6))
  refine FI h (fun h => ?_) (fun h => ?_)
  · exact FV h (f2)
  · replace h := FG h
    obtain ⟨s9, hs9, h⟩ := FB h
    have f3 := fr_tr (W := wf_cR_takeProcess) (fr_wI (fr_wI (fr_wB (f2) rfl) rfl) rfl) (fr_mono (by decide +kernel) (cR_next_fr _ _ hs9))
    obtain ⟨s12, hs12, h⟩ := FB h
    have f4 := fr_tr (W := wf_cR_takeProcess) (f3) (fr_mono (by decide +kernel) (cR_must_fr ((40 : Int32)) _ _ hs12))
    obtain ⟨x16, hx16, h⟩ := FB h
    have f5 := fr_tr (W := wf_cR_takeProcess) (f4) (fr_mono (by decide +kernel) (cR_good_fr _ _ hx16))
    refine FI h (fun h => ?_) (fun h => ?_)
    · exact fr_tr (f5) (cR_takeProcess_97_fr tm_N (gI x6.2 1119 0) ((0 : Int32)) _ _ h)
    · refine FI h (fun h => ?_) (fun h => ?_)
      · exact fr_tr (f5) (cR_takeProcess_97_fr tm_N (gI x6.2 1119 0) ((0 : Int32)) _ _ h)
      · exact fr_tr (f5) (cR_takeProcess_97_fr tm_N (gI x6.2 1119 0) ((1 : Int32)) _ _ h)
theorem cR_takeProcess_fr (s : ts) (r : ts) (h : cR_takeProcess s = some r) : fr wf_cR_takeProcess s r := by
  unfold cR_takeProcess at h
  obtain ⟨s2, hs2, h⟩ := FB h
  have f1 := fr_tr (W := wf_cR_takeProcess) (fr_rf) (fr_mono (by decide +kernel) (cR_next_fr _ _ hs2))
  obtain ⟨s5, hs5, h⟩ := FB h
  have f2 := fr_tr (W := wf_cR_takeProcess) (f1) (fr_mono (by decide +kernel) (cR_freshName_fr ((0 : Int32)) _ _ hs5))
  refine FI h (fun h => ?_) (fun h => ?_)
  · exact fr_tr (f2) (cR_takeProcess_24_fr ((0 : Int32)) _ _ h)
  · exact fr_tr (f2) (cR_takeProcess_24_fr ((1 : Int32)) _ _ h)
theorem cR_beginAll_132_fr (k74 : Int32 → ts → Option (ts)) (hk74 : ∀ (a0 : Int32) (s : ts) (r : ts), k74 a0 s = some r → fr wf_cR_beginAll s r) (l1 : Int32) (t1 : Int32) (t2 : Int32) (s : ts) (r : ts) (h : cR_beginAll_132 k74 l1 t1 t2 s = some r) : fr wf_cR_beginAll s r := by
  unfold cR_beginAll_132 at h
  replace h := FG h
  replace h := FG h
  replace h := FG h
  replace h := FG h
  exact fr_tr (fr_wA (fr_wA (fr_wB (fr_wB (fr_wB (fr_wA (fr_wA (fr_wA (fr_wA (fr_rf) rfl) rfl) rfl) rfl) rfl) rfl) rfl) rfl) rfl) (hk74 (l1 + (1 : Int32)) _ _ h)
theorem cR_beginAll_74_b_fr (kk : Int32 → ts → Option (ts)) (hkk : ∀ (a0 : Int32) (s : ts) (r : ts), kk a0 s = some r → fr wf_cR_beginAll s r) (l1 : Int32) (s : ts) (r : ts) (h : cR_beginAll_74_b kk l1 s = some r) : fr wf_cR_beginAll s r := by
  unfold cR_beginAll_74_b at h
  refine FI h (fun h => ?_) (fun h => ?_)
  · exact FV h (fr_rf)
  · refine FI h (fun h => ?_) (fun h => ?_)
    · refine FI h (fun h => ?_) (fun h => ?_)
      · exact fr_tr (fr_rf) (cR_beginAll_132_fr kk hkk l1 l1 ((0 : Int32)) _ _ h)
      · refine FI h (fun h => ?_) (fun h => ?_)
        · exact fr_tr (fr_rf) (cR_beginAll_132_fr kk hkk l1 l1 ((0 : Int32)) _ _ h)
        · replace h := FG h
          exact fr_tr (fr_rf) (cR_beginAll_132_fr kk hkk l1 l1 (gA s 92 (l1 - ((8 : Int32))).toNatClampNeg) _ _ h)
    · replace h := FG h
      exact fr_tr (fr_rf) (cR_beginAll_132_fr kk hkk l1 l1 (gA s 90 l1.toNatClampNeg) _ _ h)
theorem cR_beginAll_74_fr : ∀ (n : Nat) (l1 : Int32) (s : ts) (r : ts), cR_beginAll_74 n l1 s = some r → fr wf_cR_beginAll s r := by
  intro n
  induction n with
  | zero => intro l1 s r h; exact FN h
  | succ n ih =>
    intro l1 s r h
    rw [cR_beginAll_74.eq_2] at h
    exact cR_beginAll_74_b_fr (cR_beginAll_74 n) ih l1 s r h
theorem cR_beginAll_53_b_fr (kk : Int32 → ts → Option (ts)) (hkk : ∀ (a0 : Int32) (s : ts) (r : ts), kk a0 s = some r → fr wf_cR_beginAll s r) (l1 : Int32) (s : ts) (r : ts) (h : cR_beginAll_53_b kk l1 s = some r) : fr wf_cR_beginAll s r := by
  unfold cR_beginAll_53_b at h
  refine FI h (fun h => ?_) (fun h => ?_)
  · exact fr_tr (fr_rf) (cR_beginAll_74_fr tm_N ((0 : Int32)) _ _ h)
  · replace h := FG h
    exact fr_tr (fr_wA (fr_rf) rfl) (hkk (l1 + (1 : Int32)) _ _ h)
theorem cR_beginAll_53_fr : ∀ (n : Nat) (l1 : Int32) (s : ts) (r : ts), cR_beginAll_53 n l1 s = some r → fr wf_cR_beginAll s r := by
  intro n
  induction n with
  | zero => intro l1 s r h; exact FN h
  | succ n ih =>
    intro l1 s r h
    rw [cR_beginAll_53.eq_2] at h
    exact cR_beginAll_53_b_fr (cR_beginAll_53 n) ih l1 s r h
theorem cR_beginAll_fr (s : ts) (r : ts) (h : cR_beginAll s = some r) : fr wf_cR_beginAll s r := by
  unfold cR_beginAll at h
  exact fr_tr (fr_wI (fr_wI (fr_wJ (fr_wI (fr_wI (fr_wI (fr_wI (fr_wI (fr_wI (fr_wI (fr_rf) rfl) rfl) rfl) rfl) rfl) rfl) rfl) rfl) rfl) rfl) (cR_beginAll_53_fr tm_N ((0 : Int32)) _ _ h)
theorem cR_load_245_fr (s : ts) (r : Int32 × ts) (h : cR_load_245 s = some r) : fr wf_cR_load s r.2 := by
  unfold cR_load_245 at h
  obtain ⟨x3, hx3, h⟩ := FB h
  have f1 := fr_tr (W := wf_cR_load) (fr_wI (fr_rf) rfl) (fr_mono (by decide +kernel) (cR_good_fr _ _ hx3))
  refine FI h (fun h => ?_) (fun h => ?_)
  · exact FS h (f1)
  · obtain ⟨s5, hs5, h⟩ := FB h
    have f2 := fr_tr (W := wf_cR_load) (fr_wI (f1) rfl) (fr_mono (by decide +kernel) (cR_beginAll_fr _ _ hs5))
    exact FS h (f2)
theorem cR_load_220_fr (k163 : Int32 → ts → Option (Int32 × ts)) (hk163 : ∀ (a0 : Int32) (s : ts) (r : Int32 × ts), k163 a0 s = some r → fr wf_cR_load s r.2) (l1 : Int32) (l2 : Int32) (s : ts) (r : Int32 × ts) (h : cR_load_220 k163 l1 l2 s = some r) : fr wf_cR_load s r.2 := by
  unfold cR_load_220 at h
  replace h := FG h
  obtain ⟨s3, hs3, h⟩ := FB h
  have f1 := fr_tr (W := wf_cR_load) (fr_rf) (fr_mono (by decide +kernel) (cR_fail_fr ((6 : Int32)) (gA s 107 l1.toNatClampNeg) _ _ hs3))
  exact fr_tr (fr_wA (f1) rfl) (hk163 (l1 + (1 : Int32)) _ _ h)
theorem cR_load_163_b_fr (kk : Int32 → ts → Option (Int32 × ts)) (hkk : ∀ (a0 : Int32) (s : ts) (r : Int32 × ts), kk a0 s = some r → fr wf_cR_load s r.2) (l1 : Int32) (s : ts) (r : Int32 × ts) (h : cR_load_163_b kk l1 s = some r) : fr wf_cR_load s r.2 := by
  unfold cR_load_163_b at h
  refine FI h (fun h => ?_) (fun h => ?_)
  · exact fr_tr (fr_rf) (cR_load_245_fr _ _ h)
  · obtain ⟨x3, hx3, h⟩ := FB h
    have f1 := fr_tr (W := wf_cR_load) (fr_rf) (fr_mono (by decide +kernel) (cR_good_fr _ _ hx3))
    refine FI h (fun h => ?_) (fun h => ?_)
    · exact fr_tr (f1) (cR_load_245_fr _ _ h)
    · replace h := FG h
      refine FI h (fun h => ?_) (fun h => ?_)
      · obtain ⟨x7, hx7, h⟩ := FB h
        have f2 := fr_tr (W := wf_cR_load) (f1) (fr_mono (by decide +kernel) (cR_findDefinition_fr (gB x3.2 106 l1.toNatClampNeg) _ _ hx7))
        refine FI h (fun h => ?_) (fun h => ?_)
        · exact fr_tr (f2) (cR_load_220_fr kk hkk l1 x7.1 _ _ h)
        · replace h := FG h
          refine FI h (fun h => ?_) (fun h => ?_)
          · exact fr_tr (fr_wA (f2) rfl) (hkk (l1 + (1 : Int32)) _ _ h)
          · exact fr_tr (f2) (cR_load_220_fr kk hkk l1 x7.1 _ _ h)
      · exact fr_tr (f1) (hkk (l1 + (1 : Int32)) _ _ h)
theorem cR_load_163_fr : ∀ (n : Nat) (l1 : Int32) (s : ts) (r : Int32 × ts), cR_load_163 n l1 s = some r → fr wf_cR_load s r.2 := by
  intro n
  induction n with
  | zero => intro l1 s r h; exact FN h
  | succ n ih =>
    intro l1 s r h
    rw [cR_load_163.eq_2] at h
    exact cR_load_163_b_fr (cR_load_163 n) ih l1 s r h
theorem cR_load_108_fr (k74 : ts → Option (Int32 × ts)) (hk74 : ∀ (s : ts) (r : Int32 × ts), k74 s = some r → fr wf_cR_load s r.2) (l1 : Int32) (t1 : Int32) (s : ts) (r : Int32 × ts) (h : cR_load_108 k74 l1 t1 s = some r) : fr wf_cR_load s r.2 := by
  unfold cR_load_108 at h
  obtain ⟨s2, hs2, h⟩ := FB h
  have f1 := fr_tr (W := wf_cR_load) (fr_rf) (fr_mono (by decide +kernel) (cR_need_fr t1 ((2 : Int32)) _ _ hs2))
  refine FI h (fun h => ?_) (fun h => ?_)
  · obtain ⟨s20, hs20, h⟩ := FB h
    have f2 := fr_tr (W := wf_cR_load) (f1) (fr_mono (by decide +kernel) (cR_takeResource_fr _ _ hs20))
    exact fr_tr (f2) (hk74 _ _ h)
  · refine FI h (fun h => ?_) (fun h => ?_)
    · obtain ⟨s16, hs16, h⟩ := FB h
      have f3 := fr_tr (W := wf_cR_load) (f1) (fr_mono (by decide +kernel) (cR_takeStore_fr _ _ hs16))
      exact fr_tr (f3) (hk74 _ _ h)
    · refine FI h (fun h => ?_) (fun h => ?_)
      · obtain ⟨s12, hs12, h⟩ := FB h
        have f4 := fr_tr (W := wf_cR_load) (f1) (fr_mono (by decide +kernel) (cR_takeNumbers_fr _ _ hs12))
        exact fr_tr (f4) (hk74 _ _ h)
      · obtain ⟨x6, hx6, h⟩ := FB h
        have f5 := fr_tr (W := wf_cR_load) (f1) (fr_mono (by decide +kernel) (cR_good_fr _ _ hx6))
        refine FI h (fun h => ?_) (fun h => ?_)
        · exact fr_tr (f5) (hk74 _ _ h)
        · obtain ⟨s8, hs8, h⟩ := FB h
          have f6 := fr_tr (W := wf_cR_load) (f5) (fr_mono (by decide +kernel) (cR_takeProcess_fr _ _ hs8))
          exact fr_tr (f6) (hk74 _ _ h)
theorem cR_load_74_b_fr (kk : ts → Option (Int32 × ts)) (hkk : ∀ (s : ts) (r : Int32 × ts), kk s = some r → fr wf_cR_load s r.2) (s : ts) (r : Int32 × ts) (h : cR_load_74_b kk s = some r) : fr wf_cR_load s r.2 := by
  unfold cR_load_74_b at h
  obtain ⟨x3, hx3, h⟩ := FB h
  have f1 := fr_tr (W := wf_cR_load) (fr_rf) (fr_mono (by decide +kernel) (cR_good_fr _ _ hx3))
  refine FI h (fun h => ?_) (fun h => ?_)
  · exact fr_tr (f1) (cR_load_163_fr tm_N ((0 : Int32)) _ _ h)
  · refine FI h (fun h => ?_) (fun h => ?_)
    · exact fr_tr (f1) (cR_load_163_fr tm_N ((0 : Int32)) _ _ h)
    · obtain ⟨x6, hx6, h⟩ := FB h
      have f2 := fr_tr (W := wf_cR_load) (f1) (fr_mono (by decide +kernel) (cR_reserved_fr _ _ hx6))
      refine FI h (fun h => ?_) (fun h => ?_)
      · exact fr_tr (f2) (cR_load_108_fr kk hkk x6.1 ((0 : Int32)) _ _ h)
      · refine FI h (fun h => ?_) (fun h => ?_)
        · exact fr_tr (f2) (cR_load_108_fr kk hkk x6.1 ((0 : Int32)) _ _ h)
        · exact fr_tr (f2) (cR_load_108_fr kk hkk x6.1 ((1 : Int32)) _ _ h)
theorem cR_load_74_fr : ∀ (n : Nat) (s : ts) (r : Int32 × ts), cR_load_74 n s = some r → fr wf_cR_load s r.2 := by
  intro n
  induction n with
  | zero => intro s r h; exact FN h
  | succ n ih =>
    intro s r h
    rw [cR_load_74.eq_2] at h
    exact cR_load_74_b_fr (cR_load_74 n) ih s r h
theorem cR_load_fr (s : ts) (r : Int32 × ts) (h : cR_load s = some r) : fr wf_cR_load s r.2 := by
  unfold cR_load at h
  obtain ⟨s2, hs2, h⟩ := FB h
  have f1 := fr_tr (W := wf_cR_load) (fr_wI (fr_wI (fr_wI (fr_wI (fr_wI (fr_wI (fr_wI (fr_wI (fr_wI (fr_wI (fr_wI (fr_wI (fr_wI (fr_wI (fr_rf) rfl) rfl) rfl) rfl) rfl) rfl) rfl) rfl) rfl) rfl) rfl) rfl) rfl) rfl) (fr_mono (by decide +kernel) (cR_next_fr _ _ hs2))
  exact fr_tr (f1) (cR_load_74_fr tm_N _ _ h)
theorem cW_changeSeed_fr (l1 : Int32) (s : ts) (r : Int32 × ts) (h : cW_changeSeed l1 s = some r) : fr wf_cW_changeSeed s r.2 := by
  unfold cW_changeSeed at h
  exact FS h (fr_wI (fr_rf) rfl)
theorem cX_seed_fr (l1 : Int32) (s : ts) (r : Int32 × ts) (h : cX_seed l1 s = some r) : fr wf_cX_seed s r.2 := by
  unfold cX_seed at h
  refine FI h (fun h => ?_) (fun h => ?_)
  · obtain ⟨x3, hx3, h⟩ := FB h
    have f1 := fr_tr (W := wf_cX_seed) (fr_rf) (fr_mono (by decide +kernel) (cW_changeSeed_fr l1 _ _ hx3))
    exact FS h (f1)
  · exact FS h (fr_rf)
theorem cR_seed_fr (l1 : Int32) (s : ts) (r : Int32 × ts) (h : cR_seed l1 s = some r) : fr wf_cR_seed s r.2 := by
  unfold cR_seed at h
  refine FI h (fun h => ?_) (fun h => ?_)
  · exact FS h (fr_wI (fr_rf) rfl)
  · exact FS h (fr_rf)
theorem cO_isFull_fr (s : ts) (r : Int32 × ts) (h : cO_isFull s = some r) : fr wf_cO_isFull s r.2 := by
  unfold cO_isFull at h
  refine FI h (fun h => ?_) (fun h => ?_)
  · exact FS h (fr_rf)
  · exact FS h (fr_rf)
theorem cH_admits_fr (l1 : Int32) (s : ts) (r : Int32 × ts) (h : cH_admits l1 s = some r) : fr wf_cH_admits s r.2 := by
  unfold cH_admits at h
  cases e3 : gR s 1003 0 with
  | none =>
    rw [e3] at h
    try dsimp only at h
    obtain ⟨x5, hx5, h⟩ := FB h
    have f1 := fr_tr (W := wf_cH_admits) (fr_rf) (fr_mono (by decide +kernel) (cG_isDefinition_fr l1 _ _ hx5))
    refine FI h (fun h => ?_) (fun h => ?_)
    · exact FS h (f1)
    · obtain ⟨x8, hx8, h⟩ := FB h
      have f2 := fr_tr (W := wf_cH_admits) (f1) (fr_mono (by decide +kernel) (cO_isFull_fr _ _ hx8))
      refine FI h (fun h => ?_) (fun h => ?_)
      · exact FS h (f2)
      · exact FS h (f2)
  | some r1 =>
    rw [e3] at h
    try dsimp only at h
    exact FS h (fr_rf)
theorem cP_begin_44_b_fr (kk : Nat → Int32 → ts → Option (ts)) (hkk : ∀ (a0 : Nat) (a1 : Int32) (s : ts) (r : ts), kk a0 a1 s = some r → fr wf_cP_begin s r) (l0 : Nat) (l3 : Int32) (s : ts) (r : ts) (h : cP_begin_44_b kk l0 l3 s = some r) : fr wf_cP_begin s r := by
  unfold cP_begin_44_b at h
  refine FI h (fun h => ?_) (fun h => ?_)
  · replace h := FG h
    exact FV h (fr_wI (fr_wR (fr_wR (fr_rf) rfl) rfl) rfl)
  · replace h := FG h
    replace h := FG h
    exact fr_tr (fr_wU (fr_rf) rfl) (hkk l0 (l3 + (1 : Int32)) _ _ h)
theorem cP_begin_44_fr : ∀ (n : Nat) (l0 : Nat) (l3 : Int32) (s : ts) (r : ts), cP_begin_44 n l0 l3 s = some r → fr wf_cP_begin s r := by
  intro n
  induction n with
  | zero => intro l0 l3 s r h; exact FN h
  | succ n ih =>
    intro l0 l3 s r h
    rw [cP_begin_44.eq_2] at h
    exact cP_begin_44_b_fr (cP_begin_44 n) ih l0 l3 s r h
theorem cP_begin_23_b_fr (kk : Nat → Int32 → ts → Option (ts)) (hkk : ∀ (a0 : Nat) (a1 : Int32) (s : ts) (r : ts), kk a0 a1 s = some r → fr wf_cP_begin s r) (l0 : Nat) (l3 : Int32) (s : ts) (r : ts) (h : cP_begin_23_b kk l0 l3 s = some r) : fr wf_cP_begin s r := by
  unfold cP_begin_23_b at h
  refine FI h (fun h => ?_) (fun h => ?_)
  · exact fr_tr (fr_rf) (cP_begin_44_fr tm_N l0 ((0 : Int32)) _ _ h)
  · replace h := FG h
    replace h := FG h
    exact fr_tr (fr_wV (fr_rf) rfl) (hkk l0 (l3 + (1 : Int32)) _ _ h)
theorem cP_begin_23_fr : ∀ (n : Nat) (l0 : Nat) (l3 : Int32) (s : ts) (r : ts), cP_begin_23 n l0 l3 s = some r → fr wf_cP_begin s r := by
  intro n
  induction n with
  | zero => intro l0 l3 s r h; exact FN h
  | succ n ih =>
    intro l0 l3 s r h
    rw [cP_begin_23.eq_2] at h
    exact cP_begin_23_b_fr (cP_begin_23 n) ih l0 l3 s r h
theorem cP_begin_fr (l0 : Nat) (l1 : Int32) (l2 : Int32) (s : ts) (r : ts) (h : cP_begin l0 l1 l2 s = some r) : fr wf_cP_begin s r := by
  unfold cP_begin at h
  replace h := FG h
  exact fr_tr (fr_wI (fr_wI (fr_wI (fr_wI (fr_rf) rfl) rfl) rfl) rfl) (cP_begin_23_fr tm_N l0 ((0 : Int32)) _ _ h)
theorem cO_add_45_fr (l1 : Int32) (l2 : Int32) (l3 : Nat) (s : ts) (r : Option Nat × ts) (h : cO_add_45 l1 l2 l3 s = some r) : fr wf_cO_add s r.2 := by
  unfold cO_add_45 at h
  replace h := FG h
  obtain ⟨s3, hs3, h⟩ := FB h
  have f1 := fr_tr (W := wf_cO_add) (fr_rf) (fr_mono (by decide +kernel) (cP_begin_fr l3 l1 l2 _ _ hs3))
  exact FS h (fr_wI (f1) rfl)
theorem cO_add_fr (l1 : Int32) (l2 : Int32) (s : ts) (r : Option Nat × ts) (h : cO_add l1 l2 s = some r) : fr wf_cO_add s r.2 := by
  unfold cO_add at h
  obtain ⟨x3, hx3, h⟩ := FB h
  have f1 := fr_tr (W := wf_cO_add) (fr_rf) (fr_mono (by decide +kernel) (cO_isFull_fr _ _ hx3))
  refine FI h (fun h => ?_) (fun h => ?_)
  · replace h := FG h
    refine FI h (fun h => ?_) (fun h => ?_)
    · exact fr_tr (f1) (cO_add_45_fr l1 l2 ((gI x3.2 904 0).toNatClampNeg) _ _ h)
    · replace h := FG h
      exact fr_tr (fr_mk (f1) (by decide +kernel)) (cO_add_45_fr l1 l2 (gM x3.2) _ _ h)
  · exact FS h (f1)
