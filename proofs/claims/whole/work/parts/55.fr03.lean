/-! WHAT A FUNCTION MAY WRITE: printed by wip/tools/frames.py. -/
theorem cR_sign_73_fr (l1 : Int32) (l3 : Int32) (t0 : Int32) (s : ts) (r : ts) (h : cR_sign_73 l1 l3 t0 s = some r) : fr wf_cR_sign s r := by
  unfold cR_sign_73 at h
  refine FI h (fun h => ?_) (fun h => ?_)
  · refine FI h (fun h => ?_) (fun h => ?_)
    · refine FI h (fun h => ?_) (fun h => ?_)
      · exact fr_tr (fr_wI (fr_rf) rfl) (cR_sign_265_fr ((1 : Int32)) _ _ h)
      · refine FI h (fun h => ?_) (fun h => ?_)
        · exact fr_tr (fr_wI (fr_rf) rfl) (cR_sign_265_fr ((1 : Int32)) _ _ h)
        · refine FI h (fun h => ?_) (fun h => ?_)
          · exact fr_tr (fr_wI (fr_rf) rfl) (cR_sign_265_fr ((1 : Int32)) _ _ h)
          · refine FI h (fun h => ?_) (fun h => ?_)
            · exact fr_tr (fr_wI (fr_rf) rfl) (cR_sign_265_fr ((1 : Int32)) _ _ h)
            · refine FI h (fun h => ?_) (fun h => ?_)
              · exact fr_tr (fr_wI (fr_rf) rfl) (cR_sign_265_fr ((1 : Int32)) _ _ h)
              · refine FI h (fun h => ?_) (fun h => ?_)
                · exact fr_tr (fr_wI (fr_rf) rfl) (cR_sign_265_fr ((1 : Int32)) _ _ h)
                · refine FI h (fun h => ?_) (fun h => ?_)
                  · exact fr_tr (fr_wI (fr_rf) rfl) (cR_sign_265_fr ((1 : Int32)) _ _ h)
                  · refine FI h (fun h => ?_) (fun h => ?_)
                    · exact fr_tr (fr_wI (fr_rf) rfl) (cR_sign_265_fr ((1 : Int32)) _ _ h)
                    · refine FI h (fun h => ?_) (fun h => ?_)
                      · exact fr_tr (fr_wI (fr_rf) rfl) (cR_sign_265_fr ((1 : Int32)) _ _ h)
                      · refine FI h (fun h => ?_) (fun h => ?_)
                        · exact fr_tr (fr_wI (fr_rf) rfl) (cR_sign_265_fr ((1 : Int32)) _ _ h)
                        · refine FI h (fun h => ?_) (fun h => ?_)
                          · exact fr_tr (fr_wI (fr_rf) rfl) (cR_sign_265_fr ((1 : Int32)) _ _ h)
                          · refine FI h (fun h => ?_) (fun h => ?_)
                            · exact fr_tr (fr_wI (fr_rf) rfl) (cR_sign_265_fr ((1 : Int32)) _ _ h)
                            · refine FI h (fun h => ?_) (fun h => ?_)
                              · exact fr_tr (fr_wI (fr_rf) rfl) (cR_sign_265_fr ((1 : Int32)) _ _ h)
                              · refine FI h (fun h => ?_) (fun h => ?_)
                                · exact fr_tr (fr_wI (fr_rf) rfl) (cR_sign_265_fr ((1 : Int32)) _ _ h)
                                · refine FI h (fun h => ?_) (fun h => ?_)
                                  · exact fr_tr (fr_wI (fr_rf) rfl) (cR_sign_265_fr ((1 : Int32)) _ _ h)
                                  · exact fr_tr (fr_wI (fr_rf) rfl) (cR_sign_265_fr ((0 : Int32)) _ _ h)
    · exact fr_tr (fr_rf) (cR_sign_84_fr l1 _ _ h)
  · exact fr_tr (fr_rf) (cR_sign_84_fr l1 _ _ h)
theorem cR_sign_50_fr (l1 : Int32) (l2 : Int32) (t0 : Int32) (s : ts) (r : ts) (h : cR_sign_50 l1 l2 t0 s = some r) : fr wf_cR_sign s r := by
  unfold cR_sign_50 at h
  refine FI h (fun h => ?_) (fun h => ?_)
  · refine FI h (fun h => ?_) (fun h => ?_)
    · exact fr_tr (fr_rf) (cR_sign_73_fr l1 t0 ((1 : Int32)) _ _ h)
    · refine FI h (fun h => ?_) (fun h => ?_)
      · exact fr_tr (fr_rf) (cR_sign_73_fr l1 t0 ((1 : Int32)) _ _ h)
      · exact fr_tr (fr_rf) (cR_sign_73_fr l1 t0 ((0 : Int32)) _ _ h)
  · exact fr_tr (fr_rf) (cR_sign_73_fr l1 t0 ((0 : Int32)) _ _ h)
theorem cR_sign_fr (l1 : Int32) (s : ts) (r : ts) (h : cR_sign l1 s = some r) : fr wf_cR_sign s r := by
  unfold cR_sign at h
  obtain ⟨x3, hx3, h⟩ := FB h
  have f1 := fr_tr (W := wf_cR_sign) (fr_wI (fr_rf) rfl) (fr_mono (by decide +kernel) (cR_peek_fr _ _ hx3))
  refine FI h (fun h => ?_) (fun h => ?_)
  · refine FI h (fun h => ?_) (fun h => ?_)
    · exact fr_tr (f1) (cR_sign_50_fr l1 x3.1 ((1 : Int32)) _ _ h)
    · refine FI h (fun h => ?_) (fun h => ?_)
      · exact fr_tr (f1) (cR_sign_50_fr l1 x3.1 ((1 : Int32)) _ _ h)
      · refine FI h (fun h => ?_) (fun h => ?_)
        · exact fr_tr (f1) (cR_sign_50_fr l1 x3.1 ((1 : Int32)) _ _ h)
        · refine FI h (fun h => ?_) (fun h => ?_)
          · exact fr_tr (f1) (cR_sign_50_fr l1 x3.1 ((1 : Int32)) _ _ h)
          · exact fr_tr (f1) (cR_sign_50_fr l1 x3.1 ((0 : Int32)) _ _ h)
  · exact fr_tr (f1) (cR_sign_50_fr l1 x3.1 ((0 : Int32)) _ _ h)
theorem cR_next_244_fr (t1 : Int32) (s : ts) (r : ts) (h : cR_next_244 t1 s = some r) : fr wf_cR_next s r := by
  unfold cR_next_244 at h
  obtain ⟨s2, hs2, h⟩ := FB h
  have f1 := fr_tr (W := wf_cR_next) (fr_rf) (fr_mono (by decide +kernel) (cR_need_fr t1 ((1 : Int32)) _ _ hs2))
  exact FV h (f1)
theorem cR_next_169_b_fr (kk : Int32 → ts → Option (ts)) (hkk : ∀ (a0 : Int32) (s : ts) (r : ts), kk a0 s = some r → fr wf_cR_next s r) (l2 : Int32) (s : ts) (r : ts) (h : cR_next_169_b kk l2 s = some r) : fr wf_cR_next s r := by
  unfold cR_next_169_b at h
  obtain ⟨x3, hx3, h⟩ := FB h
  have f1 := fr_tr (W := wf_cR_next) (fr_rf) (fr_mono (by decide +kernel) (cR_peek_fr _ _ hx3))
  obtain ⟨x6, hx6, h⟩ := FB h
  have f2 := fr_tr (W := wf_cR_next) (f1) (fr_mono (by decide +kernel) (cR_isDigit_fr x3.1 _ _ hx6))
  refine FI h (fun h => ?_) (fun h => ?_)
  · refine FI h (fun h => ?_) (fun h => ?_)
    · exact fr_tr (fr_wI (f2) rfl) (cR_next_244_fr ((0 : Int32)) _ _ h)
    · exact fr_tr (fr_wI (f2) rfl) (cR_next_244_fr ((1 : Int32)) _ _ h)
  · refine FI h (fun h => ?_) (fun h => ?_)
    · exact fr_tr (fr_wI (fr_wI (f2) rfl) rfl) (hkk (l2 + (1 : Int32)) _ _ h)
    · obtain ⟨x10, hx10, h⟩ := FB h
      have f3 := fr_tr (W := wf_cR_next) (f2) (fr_mono (by decide +kernel) (cR_peek_fr _ _ hx10))
      exact fr_tr (fr_wI (fr_wI (f3) rfl) rfl) (hkk (l2 + (1 : Int32)) _ _ h)
theorem cR_next_169_fr : ∀ (n : Nat) (l2 : Int32) (s : ts) (r : ts), cR_next_169 n l2 s = some r → fr wf_cR_next s r := by
  intro n
  induction n with
  | zero => intro l2 s r h; exact FN h
  | succ n ih =>
    intro l2 s r h
    rw [cR_next_169.eq_2] at h
    exact cR_next_169_b_fr (cR_next_169 n) ih l2 s r h
theorem cR_next_100_fr (k80 : Int32 → ts → Option (ts)) (hk80 : ∀ (a0 : Int32) (s : ts) (r : ts), k80 a0 s = some r → fr wf_cR_next s r) (l2 : Int32) (s : ts) (r : ts) (h : cR_next_100 k80 l2 s = some r) : fr wf_cR_next s r := by
  unfold cR_next_100 at h
  obtain ⟨x3, hx3, h⟩ := FB h
  have f1 := fr_tr (W := wf_cR_next) (fr_rf) (fr_mono (by decide +kernel) (cR_peek_fr _ _ hx3))
  exact fr_tr (fr_wI (fr_wJ (f1) rfl) rfl) (hk80 (l2 + (1 : Int32)) _ _ h)
theorem cR_next_150_fr (t1 : Int32) (s : ts) (r : ts) (h : cR_next_150 t1 s = some r) : fr wf_cR_next s r := by
  unfold cR_next_150 at h
  obtain ⟨s2, hs2, h⟩ := FB h
  have f1 := fr_tr (W := wf_cR_next) (fr_rf) (fr_mono (by decide +kernel) (cR_need_fr t1 ((1 : Int32)) _ _ hs2))
  exact FV h (f1)
theorem cR_next_80_b_fr (kk : Int32 → ts → Option (ts)) (hkk : ∀ (a0 : Int32) (s : ts) (r : ts), kk a0 s = some r → fr wf_cR_next s r) (l2 : Int32) (s : ts) (r : ts) (h : cR_next_80_b kk l2 s = some r) : fr wf_cR_next s r := by
  unfold cR_next_80_b at h
  obtain ⟨x3, hx3, h⟩ := FB h
  have f1 := fr_tr (W := wf_cR_next) (fr_rf) (fr_mono (by decide +kernel) (cR_peek_fr _ _ hx3))
  obtain ⟨x6, hx6, h⟩ := FB h
  have f2 := fr_tr (W := wf_cR_next) (f1) (fr_mono (by decide +kernel) (cR_isLetter_fr x3.1 _ _ hx6))
  refine FI h (fun h => ?_) (fun h => ?_)
  · obtain ⟨x9, hx9, h⟩ := FB h
    have f3 := fr_tr (W := wf_cR_next) (f2) (fr_mono (by decide +kernel) (cR_peek_fr _ _ hx9))
    obtain ⟨x12, hx12, h⟩ := FB h
    have f4 := fr_tr (W := wf_cR_next) (f3) (fr_mono (by decide +kernel) (cR_isDigit_fr x9.1 _ _ hx12))
    refine FI h (fun h => ?_) (fun h => ?_)
    · refine FI h (fun h => ?_) (fun h => ?_)
      · exact fr_tr (fr_wI (f4) rfl) (cR_next_150_fr ((0 : Int32)) _ _ h)
      · exact fr_tr (fr_wI (f4) rfl) (cR_next_150_fr ((1 : Int32)) _ _ h)
    · exact fr_tr (f4) (cR_next_100_fr kk hkk l2 _ _ h)
  · exact fr_tr (f2) (cR_next_100_fr kk hkk l2 _ _ h)
theorem cR_next_80_fr : ∀ (n : Nat) (l2 : Int32) (s : ts) (r : ts), cR_next_80 n l2 s = some r → fr wf_cR_next s r := by
  intro n
  induction n with
  | zero => intro l2 s r h; exact FN h
  | succ n ih =>
    intro l2 s r h
    rw [cR_next_80.eq_2] at h
    exact cR_next_80_b_fr (cR_next_80 n) ih l2 s r h
theorem cR_next_36_fr (s : ts) (r : ts) (h : cR_next_36 s = some r) : fr wf_cR_next s r := by
  unfold cR_next_36 at h
  obtain ⟨s2, hs2, h⟩ := FB h
  have f1 := fr_tr (W := wf_cR_next) (fr_rf) (fr_mono (by decide +kernel) (cR_skip_fr _ _ hs2))
  obtain ⟨x6, hx6, h⟩ := FB h
  have f2 := fr_tr (W := wf_cR_next) (fr_wI (f1) rfl) (fr_mono (by decide +kernel) (cR_peek_fr _ _ hx6))
  refine FI h (fun h => ?_) (fun h => ?_)
  · exact FV h (fr_wI (f2) rfl)
  · obtain ⟨x9, hx9, h⟩ := FB h
    have f3 := fr_tr (W := wf_cR_next) (f2) (fr_mono (by decide +kernel) (cR_isLetter_fr x6.1 _ _ hx9))
    refine FI h (fun h => ?_) (fun h => ?_)
    · obtain ⟨x12, hx12, h⟩ := FB h
      have f4 := fr_tr (W := wf_cR_next) (f3) (fr_mono (by decide +kernel) (cR_isDigit_fr x6.1 _ _ hx12))
      refine FI h (fun h => ?_) (fun h => ?_)
      · obtain ⟨s14, hs14, h⟩ := FB h
        have f5 := fr_tr (W := wf_cR_next) (f4) (fr_mono (by decide +kernel) (cR_sign_fr x6.1 _ _ hs14))
        exact FV h (f5)
      · exact fr_tr (fr_wI (f4) rfl) (cR_next_169_fr tm_N ((0 : Int32)) _ _ h)
    · exact fr_tr (fr_wJ (f3) rfl) (cR_next_80_fr tm_N ((0 : Int32)) _ _ h)
theorem cR_next_fr (s : ts) (r : ts) (h : cR_next s = some r) : fr wf_cR_next s r := by
  unfold cR_next at h
  obtain ⟨x3, hx3, h⟩ := FB h
  have f1 := fr_tr (W := wf_cR_next) (fr_rf) (fr_mono (by decide +kernel) (cR_good_fr _ _ hx3))
  refine FI h (fun h => ?_) (fun h => ?_)
  · exact FV h (f1)
  · refine FI h (fun h => ?_) (fun h => ?_)
    · obtain ⟨x6, hx6, h⟩ := FB h
      have f2 := fr_tr (W := wf_cR_next) (f1) (fr_mono (by decide +kernel) (cR_peek_fr _ _ hx6))
      obtain ⟨x9, hx9, h⟩ := FB h
      have f3 := fr_tr (W := wf_cR_next) (f2) (fr_mono (by decide +kernel) (cR_isLetter_fr x6.1 _ _ hx9))
      refine FI h (fun h => ?_) (fun h => ?_)
      · exact fr_tr (f3) (cR_next_36_fr _ _ h)
      · obtain ⟨s11, hs11, h⟩ := FB h
        have f4 := fr_tr (W := wf_cR_next) (f3) (fr_mono (by decide +kernel) (cR_fail_fr ((1 : Int32)) (gI x9.2 1105 0) _ _ hs11))
        exact FV h (f4)
    · exact fr_tr (f1) (cR_next_36_fr _ _ h)
theorem cR_reserved_17_b_fr (kk : Int64 → Int32 → Int32 → ts → Option (Int32 × ts)) (hkk : ∀ (a0 : Int64) (a1 : Int32) (a2 : Int32) (s : ts) (r : Int32 × ts), kk a0 a1 a2 s = some r → fr wf_cR_reserved s r.2) (l1 : Int64) (l3 : Int32) (l4 : Int32) (s : ts) (r : Int32 × ts) (h : cR_reserved_17_b kk l1 l3 l4 s = some r) : fr wf_cR_reserved s r.2 := by
  unfold cR_reserved_17_b at h
  replace h := FG h
  refine FI h (fun h => ?_) (fun h => ?_)
  · exact FS h (fr_rf)
  · replace h := FG h
    refine FI h (fun h => ?_) (fun h => ?_)
    · refine FI h (fun h => ?_) (fun h => ?_)
      · exact FS h (fr_rf)
      · exact fr_tr (fr_rf) (hkk ((0 : Int64)) (l3 + (1 : Int32)) (l4 + (1 : Int32)) _ _ h)
    · exact fr_tr (fr_rf) (hkk ((l1 <<< (((8 : Int32)).toInt64 &&& 63)) ||| ((gW s l4.toNatClampNeg).toInt64)) l3 (l4 + (1 : Int32)) _ _ h)
theorem cR_reserved_17_fr : ∀ (n : Nat) (l1 : Int64) (l3 : Int32) (l4 : Int32) (s : ts) (r : Int32 × ts), cR_reserved_17 n l1 l3 l4 s = some r → fr wf_cR_reserved s r.2 := by
  intro n
  induction n with
  | zero => intro l1 l3 l4 s r h; exact FN h
  | succ n ih =>
    intro l1 l3 l4 s r h
    rw [cR_reserved_17.eq_2] at h
    exact cR_reserved_17_b_fr (cR_reserved_17 n) ih l1 l3 l4 s r h
theorem cR_reserved_fr (s : ts) (r : Int32 × ts) (h : cR_reserved s = some r) : fr wf_cR_reserved s r.2 := by
  unfold cR_reserved at h
  refine FI h (fun h => ?_) (fun h => ?_)
  · exact fr_tr (fr_rf) (cR_reserved_17_fr tm_N ((0 : Int64)) ((0 : Int32)) ((0 : Int32)) _ _ h)
  · exact FS h (fr_rf)
theorem cR_findResource_2_b_fr (kk : Int64 → Int32 → ts → Option (Int32 × ts)) (hkk : ∀ (a0 : Int64) (a1 : Int32) (s : ts) (r : Int32 × ts), kk a0 a1 s = some r → fr wf_cR_findResource s r.2) (l1 : Int64) (l3 : Int32) (s : ts) (r : Int32 × ts) (h : cR_findResource_2_b kk l1 l3 s = some r) : fr wf_cR_findResource s r.2 := by
  unfold cR_findResource_2_b at h
  refine FI h (fun h => ?_) (fun h => ?_)
  · exact FS h (fr_rf)
  · replace h := FG h
    refine FI h (fun h => ?_) (fun h => ?_)
    · exact FS h (fr_rf)
    · exact fr_tr (fr_rf) (hkk l1 (l3 + (1 : Int32)) _ _ h)
theorem cR_findResource_2_fr : ∀ (n : Nat) (l1 : Int64) (l3 : Int32) (s : ts) (r : Int32 × ts), cR_findResource_2 n l1 l3 s = some r → fr wf_cR_findResource s r.2 := by
  intro n
  induction n with
  | zero => intro l1 l3 s r h; exact FN h
  | succ n ih =>
    intro l1 l3 s r h
    rw [cR_findResource_2.eq_2] at h
    exact cR_findResource_2_b_fr (cR_findResource_2 n) ih l1 l3 s r h
theorem cR_findResource_fr (l1 : Int64) (s : ts) (r : Int32 × ts) (h : cR_findResource l1 s = some r) : fr wf_cR_findResource s r.2 := by
  unfold cR_findResource at h
  exact fr_tr (fr_rf) (cR_findResource_2_fr tm_N l1 ((0 : Int32)) _ _ h)
theorem cR_findStore_2_b_fr (kk : Int64 → Int32 → ts → Option (Int32 × ts)) (hkk : ∀ (a0 : Int64) (a1 : Int32) (s : ts) (r : Int32 × ts), kk a0 a1 s = some r → fr wf_cR_findStore s r.2) (l1 : Int64) (l3 : Int32) (s : ts) (r : Int32 × ts) (h : cR_findStore_2_b kk l1 l3 s = some r) : fr wf_cR_findStore s r.2 := by
  unfold cR_findStore_2_b at h
  refine FI h (fun h => ?_) (fun h => ?_)
  · exact FS h (fr_rf)
  · replace h := FG h
    refine FI h (fun h => ?_) (fun h => ?_)
    · exact FS h (fr_rf)
    · exact fr_tr (fr_rf) (hkk l1 (l3 + (1 : Int32)) _ _ h)
theorem cR_findStore_2_fr : ∀ (n : Nat) (l1 : Int64) (l3 : Int32) (s : ts) (r : Int32 × ts), cR_findStore_2 n l1 l3 s = some r → fr wf_cR_findStore s r.2 := by
  intro n
  induction n with
  | zero => intro l1 l3 s r h; exact FN h
  | succ n ih =>
    intro l1 l3 s r h
    rw [cR_findStore_2.eq_2] at h
    exact cR_findStore_2_b_fr (cR_findStore_2 n) ih l1 l3 s r h
theorem cR_findStore_fr (l1 : Int64) (s : ts) (r : Int32 × ts) (h : cR_findStore l1 s = some r) : fr wf_cR_findStore s r.2 := by
  unfold cR_findStore at h
  exact fr_tr (fr_rf) (cR_findStore_2_fr tm_N l1 ((0 : Int32)) _ _ h)
theorem cR_findDefinition_2_b_fr (kk : Int64 → Int32 → ts → Option (Int32 × ts)) (hkk : ∀ (a0 : Int64) (a1 : Int32) (s : ts) (r : Int32 × ts), kk a0 a1 s = some r → fr wf_cR_findDefinition s r.2) (l1 : Int64) (l3 : Int32) (s : ts) (r : Int32 × ts) (h : cR_findDefinition_2_b kk l1 l3 s = some r) : fr wf_cR_findDefinition s r.2 := by
  unfold cR_findDefinition_2_b at h
  refine FI h (fun h => ?_) (fun h => ?_)
  · exact FS h (fr_rf)
  · replace h := FG h
    refine FI h (fun h => ?_) (fun h => ?_)
    · exact FS h (fr_rf)
    · exact fr_tr (fr_rf) (hkk l1 (l3 + (1 : Int32)) _ _ h)
theorem cR_findDefinition_2_fr : ∀ (n : Nat) (l1 : Int64) (l3 : Int32) (s : ts) (r : Int32 × ts), cR_findDefinition_2 n l1 l3 s = some r → fr wf_cR_findDefinition s r.2 := by
  intro n
  induction n with
  | zero => intro l1 l3 s r h; exact FN h
  | succ n ih =>
    intro l1 l3 s r h
    rw [cR_findDefinition_2.eq_2] at h
    exact cR_findDefinition_2_b_fr (cR_findDefinition_2 n) ih l1 l3 s r h
theorem cR_findDefinition_fr (l1 : Int64) (s : ts) (r : Int32 × ts) (h : cR_findDefinition l1 s = some r) : fr wf_cR_findDefinition s r.2 := by
  unfold cR_findDefinition at h
  exact fr_tr (fr_rf) (cR_findDefinition_2_fr tm_N l1 ((0 : Int32)) _ _ h)
theorem cR_findLocal_2_b_fr (kk : Int64 → Int32 → ts → Option (Int32 × ts)) (hkk : ∀ (a0 : Int64) (a1 : Int32) (s : ts) (r : Int32 × ts), kk a0 a1 s = some r → fr wf_cR_findLocal s r.2) (l1 : Int64) (l3 : Int32) (s : ts) (r : Int32 × ts) (h : cR_findLocal_2_b kk l1 l3 s = some r) : fr wf_cR_findLocal s r.2 := by
  unfold cR_findLocal_2_b at h
  refine FI h (fun h => ?_) (fun h => ?_)
  · exact FS h (fr_rf)
  · replace h := FG h
    refine FI h (fun h => ?_) (fun h => ?_)
    · exact FS h (fr_rf)
    · exact fr_tr (fr_rf) (hkk l1 (l3 + (1 : Int32)) _ _ h)
theorem cR_findLocal_2_fr : ∀ (n : Nat) (l1 : Int64) (l3 : Int32) (s : ts) (r : Int32 × ts), cR_findLocal_2 n l1 l3 s = some r → fr wf_cR_findLocal s r.2 := by
  intro n
  induction n with
  | zero => intro l1 l3 s r h; exact FN h
  | succ n ih =>
    intro l1 l3 s r h
    rw [cR_findLocal_2.eq_2] at h
    exact cR_findLocal_2_b_fr (cR_findLocal_2 n) ih l1 l3 s r h
theorem cR_findLocal_fr (l1 : Int64) (s : ts) (r : Int32 × ts) (h : cR_findLocal l1 s = some r) : fr wf_cR_findLocal s r.2 := by
  unfold cR_findLocal at h
  exact fr_tr (fr_rf) (cR_findLocal_2_fr tm_N l1 ((0 : Int32)) _ _ h)
theorem cR_findNumber_2_b_fr (kk : Int64 → Int32 → ts → Option (Int32 × ts)) (hkk : ∀ (a0 : Int64) (a1 : Int32) (s : ts) (r : Int32 × ts), kk a0 a1 s = some r → fr wf_cR_findNumber s r.2) (l1 : Int64) (l3 : Int32) (s : ts) (r : Int32 × ts) (h : cR_findNumber_2_b kk l1 l3 s = some r) : fr wf_cR_findNumber s r.2 := by
  unfold cR_findNumber_2_b at h
  refine FI h (fun h => ?_) (fun h => ?_)
  · exact FS h (fr_rf)
  · replace h := FG h
    refine FI h (fun h => ?_) (fun h => ?_)
    · exact FS h (fr_rf)
    · exact fr_tr (fr_rf) (hkk l1 (l3 + (1 : Int32)) _ _ h)
theorem cR_findNumber_2_fr : ∀ (n : Nat) (l1 : Int64) (l3 : Int32) (s : ts) (r : Int32 × ts), cR_findNumber_2 n l1 l3 s = some r → fr wf_cR_findNumber s r.2 := by
  intro n
  induction n with
  | zero => intro l1 l3 s r h; exact FN h
  | succ n ih =>
    intro l1 l3 s r h
    rw [cR_findNumber_2.eq_2] at h
    exact cR_findNumber_2_b_fr (cR_findNumber_2 n) ih l1 l3 s r h
theorem cR_findNumber_fr (l1 : Int64) (s : ts) (r : Int32 × ts) (h : cR_findNumber l1 s = some r) : fr wf_cR_findNumber s r.2 := by
  unfold cR_findNumber at h
  exact fr_tr (fr_rf) (cR_findNumber_2_fr tm_N l1 ((0 : Int32)) _ _ h)
theorem cR_freshName_123_fr (t1 : Int32) (s : ts) (r : ts) (h : cR_freshName_123 t1 s = some r) : fr wf_cR_freshName s r := by
  unfold cR_freshName_123 at h
  obtain ⟨s2, hs2, h⟩ := FB h
  have f1 := fr_tr (W := wf_cR_freshName) (fr_rf) (fr_mono (by decide +kernel) (cR_need_fr t1 ((3 : Int32)) _ _ hs2))
  exact FV h (f1)
theorem cR_freshName_104_fr (t0 : Int32) (s : ts) (r : ts) (h : cR_freshName_104 t0 s = some r) : fr wf_cR_freshName s r := by
  unfold cR_freshName_104 at h
  obtain ⟨x3, hx3, h⟩ := FB h
  have f1 := fr_tr (W := wf_cR_freshName) (fr_rf) (fr_mono (by decide +kernel) (cR_reserved_fr _ _ hx3))
  refine FI h (fun h => ?_) (fun h => ?_)
  · refine FI h (fun h => ?_) (fun h => ?_)
    · exact fr_tr (f1) (cR_freshName_123_fr ((1 : Int32)) _ _ h)
    · exact fr_tr (f1) (cR_freshName_123_fr ((0 : Int32)) _ _ h)
  · exact fr_tr (f1) (cR_freshName_123_fr ((0 : Int32)) _ _ h)
theorem cR_freshName_25_fr (l1 : Int32) (s : ts) (r : ts) (h : cR_freshName_25 l1 s = some r) : fr wf_cR_freshName s r := by
  unfold cR_freshName_25 at h
  obtain ⟨x3, hx3, h⟩ := FB h
  have f1 := fr_tr (W := wf_cR_freshName) (fr_rf) (fr_mono (by decide +kernel) (cR_good_fr _ _ hx3))
  refine FI h (fun h => ?_) (fun h => ?_)
  · exact FV h (f1)
  · obtain ⟨x6, hx6, h⟩ := FB h
    have f2 := fr_tr (W := wf_cR_freshName) (f1) (fr_mono (by decide +kernel) (cR_findResource_fr (gJ x3.2 1108 0) _ _ hx6))
    refine FI h (fun h => ?_) (fun h => ?_)
    · obtain ⟨x9, hx9, h⟩ := FB h
      have f3 := fr_tr (W := wf_cR_freshName) (f2) (fr_mono (by decide +kernel) (cR_findStore_fr (gJ x6.2 1108 0) _ _ hx9))
      refine FI h (fun h => ?_) (fun h => ?_)
      · obtain ⟨x12, hx12, h⟩ := FB h
        have f4 := fr_tr (W := wf_cR_freshName) (f3) (fr_mono (by decide +kernel) (cR_findDefinition_fr (gJ x9.2 1108 0) _ _ hx12))
        refine FI h (fun h => ?_) (fun h => ?_)
        · refine FI h (fun h => ?_) (fun h => ?_)
          · obtain ⟨x15, hx15, h⟩ := FB h
            have f5 := fr_tr (W := wf_cR_freshName) (f4) (fr_mono (by decide +kernel) (cR_findNumber_fr (gJ x12.2 1108 0) _ _ hx15))
            refine FI h (fun h => ?_) (fun h => ?_)
            · exact fr_tr (f5) (cR_freshName_104_fr ((0 : Int32)) _ _ h)
            · exact fr_tr (f5) (cR_freshName_104_fr ((1 : Int32)) _ _ h)
          · obtain ⟨x19, hx19, h⟩ := FB h
            have f6 := fr_tr (W := wf_cR_freshName) (f4) (fr_mono (by decide +kernel) (cR_findLocal_fr (gJ x12.2 1108 0) _ _ hx19))
            refine FI h (fun h => ?_) (fun h => ?_)
            · exact fr_tr (f6) (cR_freshName_104_fr ((0 : Int32)) _ _ h)
            · exact fr_tr (f6) (cR_freshName_104_fr ((1 : Int32)) _ _ h)
        · exact fr_tr (f4) (cR_freshName_104_fr ((1 : Int32)) _ _ h)
      · exact fr_tr (f3) (cR_freshName_104_fr ((1 : Int32)) _ _ h)
    · exact fr_tr (f2) (cR_freshName_104_fr ((1 : Int32)) _ _ h)
theorem cR_freshName_21_fr (l1 : Int32) (t1 : Int32) (s : ts) (r : ts) (h : cR_freshName_21 l1 t1 s = some r) : fr wf_cR_freshName s r := by
  unfold cR_freshName_21 at h
  obtain ⟨s2, hs2, h⟩ := FB h
  have f1 := fr_tr (W := wf_cR_freshName) (fr_rf) (fr_mono (by decide +kernel) (cR_need_fr t1 ((2 : Int32)) _ _ hs2))
  exact fr_tr (f1) (cR_freshName_25_fr l1 _ _ h)
theorem cR_freshName_fr (l1 : Int32) (s : ts) (r : ts) (h : cR_freshName l1 s = some r) : fr wf_cR_freshName s r := by
  unfold cR_freshName at h
  obtain ⟨x3, hx3, h⟩ := FB h
  have f1 := fr_tr (W := wf_cR_freshName) (fr_rf) (fr_mono (by decide +kernel) (cR_good_fr _ _ hx3))
  refine FI h (fun h => ?_) (fun h => ?_)
  · exact fr_tr (f1) (cR_freshName_25_fr l1 _ _ h)
  · refine FI h (fun h => ?_) (fun h => ?_)
    · exact fr_tr (f1) (cR_freshName_21_fr l1 ((1 : Int32)) _ _ h)
    · exact fr_tr (f1) (cR_freshName_21_fr l1 ((0 : Int32)) _ _ h)
theorem cR_limit_fr (l1 : Int32) (s : ts) (r : ts) (h : cR_limit l1 s = some r) : fr wf_cR_limit s r := by
  unfold cR_limit at h
  obtain ⟨x3, hx3, h⟩ := FB h
  have f1 := fr_tr (W := wf_cR_limit) (fr_rf) (fr_mono (by decide +kernel) (cR_good_fr _ _ hx3))
  refine FI h (fun h => ?_) (fun h => ?_)
  · exact FV h (f1)
  · obtain ⟨s5, hs5, h⟩ := FB h
    have f2 := fr_tr (W := wf_cR_limit) (f1) (fr_mono (by decide +kernel) (cR_need_fr l1 ((5 : Int32)) _ _ hs5))
    exact FV h (f2)
theorem cR_must_25_fr (s : ts) (r : ts) (h : cR_must_25 s = some r) : fr wf_cR_must s r := by
  unfold cR_must_25 at h
  obtain ⟨s2, hs2, h⟩ := FB h
  have f1 := fr_tr (W := wf_cR_must) (fr_rf) (fr_mono (by decide +kernel) (cR_next_fr _ _ hs2))
  exact FV h (f1)
theorem cR_must_21_fr (t1 : Int32) (s : ts) (r : ts) (h : cR_must_21 t1 s = some r) : fr wf_cR_must s r := by
  unfold cR_must_21 at h
  obtain ⟨s2, hs2, h⟩ := FB h
  have f1 := fr_tr (W := wf_cR_must) (fr_rf) (fr_mono (by decide +kernel) (cR_need_fr t1 ((2 : Int32)) _ _ hs2))
  exact fr_tr (f1) (cR_must_25_fr _ _ h)
theorem cR_must_fr (l1 : Int32) (s : ts) (r : ts) (h : cR_must l1 s = some r) : fr wf_cR_must s r := by
  unfold cR_must at h
  obtain ⟨x3, hx3, h⟩ := FB h
  have f1 := fr_tr (W := wf_cR_must) (fr_rf) (fr_mono (by decide +kernel) (cR_good_fr _ _ hx3))
  refine FI h (fun h => ?_) (fun h => ?_)
  · exact fr_tr (f1) (cR_must_25_fr _ _ h)
  · refine FI h (fun h => ?_) (fun h => ?_)
    · exact fr_tr (f1) (cR_must_21_fr ((1 : Int32)) _ _ h)
    · exact fr_tr (f1) (cR_must_21_fr ((0 : Int32)) _ _ h)
theorem cR_takeResource_127_fr (s : ts) (r : ts) (h : cR_takeResource_127 s = some r) : fr wf_cR_takeResource s r := by
  unfold cR_takeResource_127 at h
  obtain ⟨s2, hs2, h⟩ := FB h
  have f1 := fr_tr (W := wf_cR_takeResource) (fr_rf) (fr_mono (by decide +kernel) (cR_next_fr _ _ hs2))
  obtain ⟨s5, hs5, h⟩ := FB h
  have f2 := fr_tr (W := wf_cR_takeResource) (f1) (fr_mono (by decide +kernel) (cR_must_fr ((59 : Int32)) _ _ hs5))
  exact FV h (f2)
theorem cR_takeResource_84_fr (l1 : Int64) (t1 : Int32) (s : ts) (r : ts) (h : cR_takeResource_84 l1 t1 s = some r) : fr wf_cR_takeResource s r := by
  unfold cR_takeResource_84 at h
  obtain ⟨s2, hs2, h⟩ := FB h
  have f1 := fr_tr (W := wf_cR_takeResource) (fr_rf) (fr_mono (by decide +kernel) (cR_limit_fr t1 _ _ hs2))
  obtain ⟨x6, hx6, h⟩ := FB h
  have f2 := fr_tr (W := wf_cR_takeResource) (f1) (fr_mono (by decide +kernel) (cR_good_fr _ _ hx6))
  refine FI h (fun h => ?_) (fun h => ?_)
  · exact fr_tr (f2) (cR_takeResource_127_fr _ _ h)
  · replace h := FG h
    replace h := FG h
    exact fr_tr (fr_wI (fr_wA (fr_wB (f2) rfl) rfl) rfl) (cR_takeResource_127_fr _ _ h)
theorem cR_takeResource_61_fr (l1 : Int64) (s : ts) (r : ts) (h : cR_takeResource_61 l1 s = some r) : fr wf_cR_takeResource s r := by
  unfold cR_takeResource_61 at h
  refine FI h (fun h => ?_) (fun h => ?_)
  · exact fr_tr (fr_rf) (cR_takeResource_84_fr l1 ((0 : Int32)) _ _ h)
  · refine FI h (fun h => ?_) (fun h => ?_)
    · exact fr_tr (fr_rf) (cR_takeResource_84_fr l1 ((0 : Int32)) _ _ h)
    · exact fr_tr (fr_rf) (cR_takeResource_84_fr l1 ((1 : Int32)) _ _ h)
theorem cR_takeResource_57_fr (l1 : Int64) (t1 : Int32) (s : ts) (r : ts) (h : cR_takeResource_57 l1 t1 s = some r) : fr wf_cR_takeResource s r := by
  unfold cR_takeResource_57 at h
  obtain ⟨s2, hs2, h⟩ := FB h
  have f1 := fr_tr (W := wf_cR_takeResource) (fr_rf) (fr_mono (by decide +kernel) (cR_need_fr t1 ((2 : Int32)) _ _ hs2))
  exact fr_tr (f1) (cR_takeResource_61_fr l1 _ _ h)
theorem cR_takeResource_24_fr (t1 : Int32) (s : ts) (r : ts) (h : cR_takeResource_24 t1 s = some r) : fr wf_cR_takeResource s r := by
  unfold cR_takeResource_24 at h
  obtain ⟨s2, hs2, h⟩ := FB h
  have f1 := fr_tr (W := wf_cR_takeResource) (fr_rf) (fr_mono (by decide +kernel) (cR_limit_fr t1 _ _ hs2))
  obtain ⟨s5, hs5, h⟩ := FB h
  have f2 := fr_tr (W := wf_cR_takeResource) (f1) (fr_mono (by decide +kernel) (cR_next_fr _ _ hs5))
  obtain ⟨x9, hx9, h⟩ := FB h
  have f3 := fr_tr (W := wf_cR_takeResource) (f2) (fr_mono (by decide +kernel) (cR_good_fr _ _ hx9))
  refine FI h (fun h => ?_) (fun h => ?_)
  · exact fr_tr (f3) (cR_takeResource_61_fr (gJ s2 1108 0) _ _ h)
  · refine FI h (fun h => ?_) (fun h => ?_)
    · exact fr_tr (f3) (cR_takeResource_57_fr (gJ s2 1108 0) ((1 : Int32)) _ _ h)
    · exact fr_tr (f3) (cR_takeResource_57_fr (gJ s2 1108 0) ((0 : Int32)) _ _ h)
theorem cR_takeResource_fr (s : ts) (r : ts) (h : cR_takeResource s = some r) : fr wf_cR_takeResource s r := by
  unfold cR_takeResource at h
  obtain ⟨s2, hs2, h⟩ := FB h
  have f1 := fr_tr (W := wf_cR_takeResource) (fr_rf) (fr_mono (by decide +kernel) (cR_next_fr _ _ hs2))
  obtain ⟨s5, hs5, h⟩ := FB h
  have f2 := fr_tr (W := wf_cR_takeResource) (f1) (fr_mono (by decide +kernel) (cR_freshName_fr ((0 : Int32)) _ _ hs5))
  refine FI h (fun h => ?_) (fun h => ?_)
  · exact fr_tr (f2) (cR_takeResource_24_fr ((0 : Int32)) _ _ h)
  · exact fr_tr (f2) (cR_takeResource_24_fr ((1 : Int32)) _ _ h)
theorem cR_takeStore_198_fr (s : ts) (r : ts) (h : cR_takeStore_198 s = some r) : fr wf_cR_takeStore s r := by
  unfold cR_takeStore_198 at h
  obtain ⟨s2, hs2, h⟩ := FB h
  have f1 := fr_tr (W := wf_cR_takeStore) (fr_rf) (fr_mono (by decide +kernel) (cR_next_fr _ _ hs2))
  obtain ⟨s5, hs5, h⟩ := FB h
  have f2 := fr_tr (W := wf_cR_takeStore) (f1) (fr_mono (by decide +kernel) (cR_must_fr ((59 : Int32)) _ _ hs5))
  exact FV h (f2)
theorem cR_takeStore_145_fr (l1 : Int64) (l3 : Int32) (t1 : Int32) (s : ts) (r : ts) (h : cR_takeStore_145 l1 l3 t1 s = some r) : fr wf_cR_takeStore s r := by
  unfold cR_takeStore_145 at h
  obtain ⟨s2, hs2, h⟩ := FB h
  have f1 := fr_tr (W := wf_cR_takeStore) (fr_rf) (fr_mono (by decide +kernel) (cR_limit_fr t1 _ _ hs2))
  obtain ⟨x6, hx6, h⟩ := FB h
  have f2 := fr_tr (W := wf_cR_takeStore) (f1) (fr_mono (by decide +kernel) (cR_good_fr _ _ hx6))
  refine FI h (fun h => ?_) (fun h => ?_)
  · exact fr_tr (f2) (cR_takeStore_198_fr _ _ h)
  · replace h := FG h
    replace h := FG h
    replace h := FG h
    exact fr_tr (fr_wI (fr_wA (fr_wA (fr_wB (f2) rfl) rfl) rfl) rfl) (cR_takeStore_198_fr _ _ h)
theorem cR_takeStore_114_fr (l1 : Int64) (l3 : Int32) (s : ts) (r : ts) (h : cR_takeStore_114 l1 l3 s = some r) : fr wf_cR_takeStore s r := by
  unfold cR_takeStore_114 at h
  refine FI h (fun h => ?_) (fun h => ?_)
  · exact fr_tr (fr_rf) (cR_takeStore_145_fr l1 l3 ((0 : Int32)) _ _ h)
  · refine FI h (fun h => ?_) (fun h => ?_)
    · exact fr_tr (fr_rf) (cR_takeStore_145_fr l1 l3 ((0 : Int32)) _ _ h)
    · refine FI h (fun h => ?_) (fun h => ?_)
      · exact fr_tr (fr_rf) (cR_takeStore_145_fr l1 l3 ((0 : Int32)) _ _ h)
      · exact fr_tr (fr_rf) (cR_takeStore_145_fr l1 l3 ((1 : Int32)) _ _ h)
theorem cR_takeStore_110_fr (l1 : Int64) (l3 : Int32) (t1 : Int32) (s : ts) (r : ts) (h : cR_takeStore_110 l1 l3 t1 s = some r) : fr wf_cR_takeStore s r := by
  unfold cR_takeStore_110 at h
  obtain ⟨s2, hs2, h⟩ := FB h
  have f1 := fr_tr (W := wf_cR_takeStore) (fr_rf) (fr_mono (by decide +kernel) (cR_need_fr t1 ((2 : Int32)) _ _ hs2))
  exact fr_tr (f1) (cR_takeStore_114_fr l1 l3 _ _ h)
theorem cR_takeStore_77_fr (l1 : Int64) (t1 : Int32) (s : ts) (r : ts) (h : cR_takeStore_77 l1 t1 s = some r) : fr wf_cR_takeStore s r := by
  unfold cR_takeStore_77 at h
  obtain ⟨s2, hs2, h⟩ := FB h
  have f1 := fr_tr (W := wf_cR_takeStore) (fr_rf) (fr_mono (by decide +kernel) (cR_limit_fr t1 _ _ hs2))
  obtain ⟨s5, hs5, h⟩ := FB h
  have f2 := fr_tr (W := wf_cR_takeStore) (f1) (fr_mono (by decide +kernel) (cR_next_fr _ _ hs5))
  obtain ⟨x9, hx9, h⟩ := FB h
  have f3 := fr_tr (W := wf_cR_takeStore) (f2) (fr_mono (by decide +kernel) (cR_good_fr _ _ hx9))
  refine FI h (fun h => ?_) (fun h => ?_)
  · exact fr_tr (f3) (cR_takeStore_114_fr l1 (gI s2 1109 0) _ _ h)
  · refine FI h (fun h => ?_) (fun h => ?_)
    · exact fr_tr (f3) (cR_takeStore_110_fr l1 (gI s2 1109 0) ((1 : Int32)) _ _ h)
    · exact fr_tr (f3) (cR_takeStore_110_fr l1 (gI s2 1109 0) ((0 : Int32)) _ _ h)
theorem cR_takeStore_61_fr (l1 : Int64) (s : ts) (r : ts) (h : cR_takeStore_61 l1 s = some r) : fr wf_cR_takeStore s r := by
  unfold cR_takeStore_61 at h
  refine FI h (fun h => ?_) (fun h => ?_)
  · exact fr_tr (fr_rf) (cR_takeStore_77_fr l1 ((0 : Int32)) _ _ h)
  · exact fr_tr (fr_rf) (cR_takeStore_77_fr l1 ((1 : Int32)) _ _ h)
theorem cR_takeStore_57_fr (l1 : Int64) (t1 : Int32) (s : ts) (r : ts) (h : cR_takeStore_57 l1 t1 s = some r) : fr wf_cR_takeStore s r := by
  unfold cR_takeStore_57 at h
  obtain ⟨s2, hs2, h⟩ := FB h
  have f1 := fr_tr (W := wf_cR_takeStore) (fr_rf) (fr_mono (by decide +kernel) (cR_need_fr t1 ((2 : Int32)) _ _ hs2))
  exact fr_tr (f1) (cR_takeStore_61_fr l1 _ _ h)
theorem cR_takeStore_24_fr (t1 : Int32) (s : ts) (r : ts) (h : cR_takeStore_24 t1 s = some r) : fr wf_cR_takeStore s r := by
  unfold cR_takeStore_24 at h
  obtain ⟨s2, hs2, h⟩ := FB h
  have f1 := fr_tr (W := wf_cR_takeStore) (fr_rf) (fr_mono (by decide +kernel) (cR_limit_fr t1 _ _ hs2))
  obtain ⟨s5, hs5, h⟩ := FB h
  have f2 := fr_tr (W := wf_cR_takeStore) (f1) (fr_mono (by decide +kernel) (cR_next_fr _ _ hs5))
  obtain ⟨x9, hx9, h⟩ := FB h
  have f3 := fr_tr (W := wf_cR_takeStore) (f2) (fr_mono (by decide +kernel) (cR_good_fr _ _ hx9))
  refine FI h (fun h => ?_) (fun h => ?_)
  · exact fr_tr (f3) (cR_takeStore_61_fr (gJ s2 1108 0) _ _ h)
  · refine FI h (fun h => ?_) (fun h => ?_)
    · exact fr_tr (f3) (cR_takeStore_57_fr (gJ s2 1108 0) ((1 : Int32)) _ _ h)
    · exact fr_tr (f3) (cR_takeStore_57_fr (gJ s2 1108 0) ((0 : Int32)) _ _ h)
theorem cR_takeStore_fr (s : ts) (r : ts) (h : cR_takeStore s = some r) : fr wf_cR_takeStore s r := by
  unfold cR_takeStore at h
  obtain ⟨s2, hs2, h⟩ := FB h
  have f1 := fr_tr (W := wf_cR_takeStore) (fr_rf) (fr_mono (by decide +kernel) (cR_next_fr _ _ hs2))
  obtain ⟨s5, hs5, h⟩ := FB h
  have f2 := fr_tr (W := wf_cR_takeStore) (f1) (fr_mono (by decide +kernel) (cR_freshName_fr ((0 : Int32)) _ _ hs5))
  refine FI h (fun h => ?_) (fun h => ?_)
  · exact fr_tr (f2) (cR_takeStore_24_fr ((0 : Int32)) _ _ h)
  · exact fr_tr (f2) (cR_takeStore_24_fr ((1 : Int32)) _ _ h)
theorem cR_takeNumbers_100_fr (s : ts) (r : ts) (h : cR_takeNumbers_100 s = some r) : fr wf_cR_takeNumbers s r := by
  unfold cR_takeNumbers_100 at h
  obtain ⟨s2, hs2, h⟩ := FB h
  have f1 := fr_tr (W := wf_cR_takeNumbers) (fr_rf) (fr_mono (by decide +kernel) (cR_must_fr ((59 : Int32)) _ _ hs2))
  exact FV h (f1)
theorem cR_takeNumbers_88_fr (k6 : Int32 → ts → Option (ts)) (hk6 : ∀ (a0 : Int32) (s : ts) (r : ts), k6 a0 s = some r → fr wf_cR_takeNumbers s r) (t0 : Int32) (s : ts) (r : ts) (h : cR_takeNumbers_88 k6 t0 s = some r) : fr wf_cR_takeNumbers s r := by
  unfold cR_takeNumbers_88 at h
  refine FI h (fun h => ?_) (fun h => ?_)
  · exact fr_tr (fr_rf) (hk6 t0 _ _ h)
  · obtain ⟨s2, hs2, h⟩ := FB h
    have f1 := fr_tr (W := wf_cR_takeNumbers) (fr_rf) (fr_mono (by decide +kernel) (cR_next_fr _ _ hs2))
    exact fr_tr (f1) (hk6 t0 _ _ h)
theorem cR_takeNumbers_70_fr (k6 : Int32 → ts → Option (ts)) (hk6 : ∀ (a0 : Int32) (s : ts) (r : ts), k6 a0 s = some r → fr wf_cR_takeNumbers s r) (s : ts) (r : ts) (h : cR_takeNumbers_70 k6 s = some r) : fr wf_cR_takeNumbers s r := by
  unfold cR_takeNumbers_70 at h
  obtain ⟨s2, hs2, h⟩ := FB h
  have f1 := fr_tr (W := wf_cR_takeNumbers) (fr_rf) (fr_mono (by decide +kernel) (cR_next_fr _ _ hs2))
  refine FI h (fun h => ?_) (fun h => ?_)
  · exact fr_tr (f1) (cR_takeNumbers_88_fr k6 hk6 ((1 : Int32)) _ _ h)
  · exact fr_tr (f1) (cR_takeNumbers_88_fr k6 hk6 ((0 : Int32)) _ _ h)
theorem cR_takeNumbers_37_fr (k6 : Int32 → ts → Option (ts)) (hk6 : ∀ (a0 : Int32) (s : ts) (r : ts), k6 a0 s = some r → fr wf_cR_takeNumbers s r) (t1 : Int32) (s : ts) (r : ts) (h : cR_takeNumbers_37 k6 t1 s = some r) : fr wf_cR_takeNumbers s r := by
  unfold cR_takeNumbers_37 at h
  obtain ⟨s2, hs2, h⟩ := FB h
  have f1 := fr_tr (W := wf_cR_takeNumbers) (fr_rf) (fr_mono (by decide +kernel) (cR_limit_fr t1 _ _ hs2))
  obtain ⟨x6, hx6, h⟩ := FB h
  have f2 := fr_tr (W := wf_cR_takeNumbers) (f1) (fr_mono (by decide +kernel) (cR_good_fr _ _ hx6))
  refine FI h (fun h => ?_) (fun h => ?_)
  · exact fr_tr (f2) (cR_takeNumbers_70_fr k6 hk6 _ _ h)
  · replace h := FG h
    exact fr_tr (fr_wI (fr_wB (f2) rfl) rfl) (cR_takeNumbers_70_fr k6 hk6 _ _ h)
theorem cR_takeNumbers_6_b_fr (kk : Int32 → ts → Option (ts)) (hkk : ∀ (a0 : Int32) (s : ts) (r : ts), kk a0 s = some r → fr wf_cR_takeNumbers s r) (l1 : Int32) (s : ts) (r : ts) (h : cR_takeNumbers_6_b kk l1 s = some r) : fr wf_cR_takeNumbers s r := by
  unfold cR_takeNumbers_6_b at h
  refine FI h (fun h => ?_) (fun h => ?_)
  · exact fr_tr (fr_rf) (cR_takeNumbers_100_fr _ _ h)
  · obtain ⟨x3, hx3, h⟩ := FB h
    have f1 := fr_tr (W := wf_cR_takeNumbers) (fr_rf) (fr_mono (by decide +kernel) (cR_good_fr _ _ hx3))
    refine FI h (fun h => ?_) (fun h => ?_)
    · exact fr_tr (f1) (cR_takeNumbers_100_fr _ _ h)
    · obtain ⟨s5, hs5, h⟩ := FB h
      have f2 := fr_tr (W := wf_cR_takeNumbers) (f1) (fr_mono (by decide +kernel) (cR_freshName_fr ((0 : Int32)) _ _ hs5))
      refine FI h (fun h => ?_) (fun h => ?_)
      · exact fr_tr (f2) (cR_takeNumbers_37_fr kk hkk ((0 : Int32)) _ _ h)
      · exact fr_tr (f2) (cR_takeNumbers_37_fr kk hkk ((1 : Int32)) _ _ h)
theorem cR_takeNumbers_6_fr : ∀ (n : Nat) (l1 : Int32) (s : ts) (r : ts), cR_takeNumbers_6 n l1 s = some r → fr wf_cR_takeNumbers s r := by
  intro n
  induction n with
  | zero => intro l1 s r h; exact FN h
  | succ n ih =>
    intro l1 s r h
    rw [cR_takeNumbers_6.eq_2] at h
    exact cR_takeNumbers_6_b_fr (cR_takeNumbers_6 n) ih l1 s r h
theorem cR_takeNumbers_fr (s : ts) (r : ts) (h : cR_takeNumbers s = some r) : fr wf_cR_takeNumbers s r := by
  unfold cR_takeNumbers at h
  obtain ⟨s2, hs2, h⟩ := FB h
  have f1 := fr_tr (W := wf_cR_takeNumbers) (fr_rf) (fr_mono (by decide +kernel) (cR_next_fr _ _ hs2))
  exact fr_tr (f1) (cR_takeNumbers_6_fr tm_N ((1 : Int32)) _ _ h)
theorem cR_takeLocal_20_fr (t1 : Int32) (s : ts) (r : ts) (h : cR_takeLocal_20 t1 s = some r) : fr wf_cR_takeLocal s r := by
  unfold cR_takeLocal_20 at h
  obtain ⟨s2, hs2, h⟩ := FB h
  have f1 := fr_tr (W := wf_cR_takeLocal) (fr_rf) (fr_mono (by decide +kernel) (cR_limit_fr t1 _ _ hs2))
  exact FV h (f1)
theorem cR_takeLocal_fr (s : ts) (r : ts) (h : cR_takeLocal s = some r) : fr wf_cR_takeLocal s r := by
  unfold cR_takeLocal at h
  obtain ⟨s2, hs2, h⟩ := FB h
  have f1 := fr_tr (W := wf_cR_takeLocal) (fr_rf) (fr_mono (by decide +kernel) (cR_freshName_fr ((1 : Int32)) _ _ hs2))
  refine FI h (fun h => ?_) (fun h => ?_)
  · exact fr_tr (f1) (cR_takeLocal_20_fr ((0 : Int32)) _ _ h)
  · exact fr_tr (f1) (cR_takeLocal_20_fr ((1 : Int32)) _ _ h)
theorem cR_addLocal_fr (l1 : Int64) (s : ts) (r : ts) (h : cR_addLocal l1 s = some r) : fr wf_cR_addLocal s r := by
  unfold cR_addLocal at h
  obtain ⟨x3, hx3, h⟩ := FB h
  have f1 := fr_tr (W := wf_cR_addLocal) (fr_rf) (fr_mono (by decide +kernel) (cR_good_fr _ _ hx3))
  refine FI h (fun h => ?_) (fun h => ?_)
  · exact FV h (f1)
  · replace h := FG h
    exact FV h (fr_wI (fr_wB (f1) rfl) rfl)
theorem cR_beginBlock_41_fr (l1 : Int32) (l2 : Int32) (t1 : Int32) (s : ts) (r : ts) (h : cR_beginBlock_41 l1 l2 t1 s = some r) : fr wf_cR_beginBlock s r := by
  unfold cR_beginBlock_41 at h
  obtain ⟨s2, hs2, h⟩ := FB h
  have f1 := fr_tr (W := wf_cR_beginBlock) (fr_rf) (fr_mono (by decide +kernel) (cR_limit_fr t1 _ _ hs2))
  obtain ⟨x6, hx6, h⟩ := FB h
  have f2 := fr_tr (W := wf_cR_beginBlock) (f1) (fr_mono (by decide +kernel) (cR_good_fr _ _ hx6))
  refine FI h (fun h => ?_) (fun h => ?_)
  · exact FV h (f2)
  · replace h := FG h
    replace h := FG h
    obtain ⟨s10, hs10, h⟩ := FB h
    have f3 := fr_tr (W := wf_cR_beginBlock) (fr_wI (fr_wA (fr_wA (f2) rfl) rfl) rfl) (fr_mono (by decide +kernel) (cR_next_fr _ _ hs10))
    exact FV h (f3)
theorem cR_beginBlock_26_fr (l1 : Int32) (l2 : Int32) (s : ts) (r : ts) (h : cR_beginBlock_26 l1 l2 s = some r) : fr wf_cR_beginBlock s r := by
  unfold cR_beginBlock_26 at h
  refine FI h (fun h => ?_) (fun h => ?_)
  · exact fr_tr (fr_rf) (cR_beginBlock_41_fr l1 l2 ((0 : Int32)) _ _ h)
  · exact fr_tr (fr_rf) (cR_beginBlock_41_fr l1 l2 ((1 : Int32)) _ _ h)
theorem cR_beginBlock_22_fr (l1 : Int32) (l2 : Int32) (t1 : Int32) (s : ts) (r : ts) (h : cR_beginBlock_22 l1 l2 t1 s = some r) : fr wf_cR_beginBlock s r := by
  unfold cR_beginBlock_22 at h
  obtain ⟨s2, hs2, h⟩ := FB h
  have f1 := fr_tr (W := wf_cR_beginBlock) (fr_rf) (fr_mono (by decide +kernel) (cR_need_fr t1 ((2 : Int32)) _ _ hs2))
  exact fr_tr (f1) (cR_beginBlock_26_fr l1 l2 _ _ h)
theorem cR_beginBlock_fr (l1 : Int32) (l2 : Int32) (s : ts) (r : ts) (h : cR_beginBlock l1 l2 s = some r) : fr wf_cR_beginBlock s r := by
  unfold cR_beginBlock at h
  obtain ⟨x3, hx3, h⟩ := FB h
  have f1 := fr_tr (W := wf_cR_beginBlock) (fr_rf) (fr_mono (by decide +kernel) (cR_good_fr _ _ hx3))
  refine FI h (fun h => ?_) (fun h => ?_)
  · exact fr_tr (f1) (cR_beginBlock_26_fr l1 l2 _ _ h)
  · refine FI h (fun h => ?_) (fun h => ?_)
    · exact fr_tr (f1) (cR_beginBlock_22_fr l1 l2 ((1 : Int32)) _ _ h)
    · exact fr_tr (f1) (cR_beginBlock_22_fr l1 l2 ((0 : Int32)) _ _ h)
theorem cR_line_fr (l1 : Int32) (s : ts) (r : Int32 × ts) (h : cR_line l1 s = some r) : fr wf_cR_line s r.2 := by
  unfold cR_line at h
  replace h := FG h
  exact FS h (fr_wA (fr_wA (fr_wA (fr_wA (fr_wI (fr_rf) rfl) rfl) rfl) rfl) rfl)
theorem cR_endBlock_131_fr (l1 : Int32) (l2 : Int32) (s : ts) (r : ts) (h : cR_endBlock_131 l1 l2 s = some r) : fr wf_cR_endBlock s r := by
  unfold cR_endBlock_131 at h
  refine FI h (fun h => ?_) (fun h => ?_)
  · replace h := FG h
    exact FV h (fr_wA (fr_rf) rfl)
  · exact FV h (fr_rf)
theorem cR_endBlock_fr (s : ts) (r : ts) (h : cR_endBlock s = some r) : fr wf_cR_endBlock s r := by
  unfold cR_endBlock at h
  obtain ⟨s2, hs2, h⟩ := FB h
  have f1 := fr_tr (W := wf_cR_endBlock) (fr_rf) (fr_mono (by decide +kernel) (cR_next_fr _ _ hs2))
  replace h := FG h
  refine FI h (fun h => ?_) (fun h => ?_)
  · obtain ⟨x24, hx24, h⟩ := FB h
    have f2 := fr_tr (W := wf_cR_endBlock) (fr_wI (f1) rfl) (fr_mono (by decide +kernel) (cR_line_fr ((26 : Int32)) _ _ hx24))
    replace h := FG h
    replace h := FG h
    exact FV h (fr_wA (fr_wA (f2) rfl) rfl)
  · refine FI h (fun h => ?_) (fun h => ?_)
    · replace h := FG h
      exact FV h (fr_wA (fr_wI (f1) rfl) rfl)
    · refine FI h (fun h => ?_) (fun h => ?_)
      · obtain ⟨x7, hx7, h⟩ := FB h
        have f3 := fr_tr (W := wf_cR_endBlock) (fr_wI (f1) rfl) (fr_mono (by decide +kernel) (cR_reserved_fr _ _ hx7))
        refine FI h (fun h => ?_) (fun h => ?_)
        · obtain ⟨x10, hx10, h⟩ := FB h
          have f4 := fr_tr (W := wf_cR_endBlock) (f3) (fr_mono (by decide +kernel) (cR_line_fr ((26 : Int32)) _ _ hx10))
          replace h := FG h
          obtain ⟨s13, hs13, h⟩ := FB h
          have f5 := fr_tr (W := wf_cR_endBlock) (fr_wA (f4) rfl) (fr_mono (by decide +kernel) (cR_next_fr _ _ hs13))
          obtain ⟨s16, hs16, h⟩ := FB h
          have f6 := fr_tr (W := wf_cR_endBlock) (f5) (fr_mono (by decide +kernel) (cR_beginBlock_fr ((6 : Int32)) x10.1 _ _ hs16))
          exact FV h (f6)
        · exact fr_tr (f3) (cR_endBlock_131_fr (gA (wI s2 1138 0 ((gI s2 1138 0) - ((1 : Int32)))) 108 (gI (wI s2 1138 0 ((gI s2 1138 0) - ((1 : Int32)))) 1138 0).toNatClampNeg) (gA (wI s2 1138 0 ((gI s2 1138 0) - ((1 : Int32)))) 109 (gI (wI s2 1138 0 ((gI s2 1138 0) - ((1 : Int32)))) 1138 0).toNatClampNeg) _ _ h)
      · exact fr_tr (fr_wI (f1) rfl) (cR_endBlock_131_fr (gA (wI s2 1138 0 ((gI s2 1138 0) - ((1 : Int32)))) 108 (gI (wI s2 1138 0 ((gI s2 1138 0) - ((1 : Int32)))) 1138 0).toNatClampNeg) (gA (wI s2 1138 0 ((gI s2 1138 0) - ((1 : Int32)))) 109 (gI (wI s2 1138 0 ((gI s2 1138 0) - ((1 : Int32)))) 1138 0).toNatClampNeg) _ _ h)
theorem cR_wait1_fr (l1 : Int32) (l2 : Int32) (s : ts) (r : ts) (h : cR_wait1 l1 l2 s = some r) : fr wf_cR_wait1 s r := by
  unfold cR_wait1 at h
  replace h := FG h
  replace h := FG h
  replace h := FG h
  replace h := FG h
  exact FV h (fr_wI (fr_wA (fr_wA (fr_wA (fr_wA (fr_rf) rfl) rfl) rfl) rfl) rfl)
theorem cR_open_fr (l1 : Int32) (s : ts) (r : ts) (h : cR_open l1 s = some r) : fr wf_cR_open s r := by
  unfold cR_open at h
  obtain ⟨s2, hs2, h⟩ := FB h
  have f1 := fr_tr (W := wf_cR_open) (fr_rf) (fr_mono (by decide +kernel) (cR_wait1_fr l1 ((0 : Int32)) _ _ hs2))
  exact FV h (fr_wI (fr_wI (f1) rfl) rfl)
theorem cR_add_fr (l1 : Int32) (l2 : Int32) (s : ts) (r : Int32 × ts) (h : cR_add l1 l2 s = some r) : fr wf_cR_add s r.2 := by
  unfold cR_add at h
  replace h := FG h
  exact FS h (fr_wI (fr_wA (fr_wA (fr_rf) rfl) rfl) rfl)
theorem cR_takePlain_47_fr (t1 : Int32) (s : ts) (r : ts) (h : cR_takePlain_47 t1 s = some r) : fr wf_cR_takePlain s r := by
  unfold cR_takePlain_47 at h
  obtain ⟨x3, hx3, h⟩ := FB h
  have f1 := fr_tr (W := wf_cR_takePlain) (fr_rf) (fr_mono (by decide +kernel) (cR_add_fr t1 ((0 : Int32)) _ _ hx3))
  exact FV h (f1)
theorem cR_takePlain_35_fr (l1 : Int32) (s : ts) (r : ts) (h : cR_takePlain_35 l1 s = some r) : fr wf_cR_takePlain s r := by
  unfold cR_takePlain_35 at h
  refine FI h (fun h => ?_) (fun h => ?_)
  · exact fr_tr (fr_rf) (cR_takePlain_47_fr ((4 : Int32)) _ _ h)
  · exact fr_tr (fr_rf) (cR_takePlain_47_fr ((5 : Int32)) _ _ h)
theorem cR_takePlain_171_fr (t1 : Int32) (t2 : Int32) (s : ts) (r : ts) (h : cR_takePlain_171 t1 t2 s = some r) : fr wf_cR_takePlain s r := by
  unfold cR_takePlain_171 at h
  obtain ⟨x3, hx3, h⟩ := FB h
  have f1 := fr_tr (W := wf_cR_takePlain) (fr_rf) (fr_mono (by decide +kernel) (cR_add_fr t1 t2 _ _ hx3))
  exact FV h (f1)
theorem cR_takePlain_157_fr (l3 : Int32) (l4 : Int32) (t1 : Int32) (s : ts) (r : ts) (h : cR_takePlain_157 l3 l4 t1 s = some r) : fr wf_cR_takePlain s r := by
  unfold cR_takePlain_157 at h
  refine FI h (fun h => ?_) (fun h => ?_)
  · exact fr_tr (fr_rf) (cR_takePlain_171_fr t1 (((8 : Int32)) + l4) _ _ h)
  · exact fr_tr (fr_rf) (cR_takePlain_171_fr t1 l3 _ _ h)
theorem cR_takePlain_143_fr (l1 : Int32) (l3 : Int32) (l4 : Int32) (s : ts) (r : ts) (h : cR_takePlain_143 l1 l3 l4 s = some r) : fr wf_cR_takePlain s r := by
  unfold cR_takePlain_143 at h
  refine FI h (fun h => ?_) (fun h => ?_)
  · exact fr_tr (fr_rf) (cR_takePlain_157_fr l3 l4 ((7 : Int32)) _ _ h)
  · exact fr_tr (fr_rf) (cR_takePlain_157_fr l3 l4 ((8 : Int32)) _ _ h)
theorem cR_takePlain_139_fr (l1 : Int32) (l3 : Int32) (l4 : Int32) (t1 : Int32) (s : ts) (r : ts) (h : cR_takePlain_139 l1 l3 l4 t1 s = some r) : fr wf_cR_takePlain s r := by
  unfold cR_takePlain_139 at h
  obtain ⟨s2, hs2, h⟩ := FB h
  have f1 := fr_tr (W := wf_cR_takePlain) (fr_rf) (fr_mono (by decide +kernel) (cR_need_fr t1 ((4 : Int32)) _ _ hs2))
  exact fr_tr (f1) (cR_takePlain_143_fr l1 l3 l4 _ _ h)
theorem cR_takePlain_96_fr (l1 : Int32) (s : ts) (r : ts) (h : cR_takePlain_96 l1 s = some r) : fr wf_cR_takePlain s r := by
  unfold cR_takePlain_96 at h
  obtain ⟨x3, hx3, h⟩ := FB h
  have f1 := fr_tr (W := wf_cR_takePlain) (fr_rf) (fr_mono (by decide +kernel) (cR_findResource_fr (gJ s 1108 0) _ _ hx3))
  obtain ⟨x6, hx6, h⟩ := FB h
  have f2 := fr_tr (W := wf_cR_takePlain) (f1) (fr_mono (by decide +kernel) (cR_findStore_fr (gJ x3.2 1108 0) _ _ hx6))
  obtain ⟨x9, hx9, h⟩ := FB h
  have f3 := fr_tr (W := wf_cR_takePlain) (f2) (fr_mono (by decide +kernel) (cR_good_fr _ _ hx9))
  refine FI h (fun h => ?_) (fun h => ?_)
  · exact fr_tr (f3) (cR_takePlain_143_fr l1 x3.1 x6.1 _ _ h)
  · refine FI h (fun h => ?_) (fun h => ?_)
    · refine FI h (fun h => ?_) (fun h => ?_)
      · exact fr_tr (f3) (cR_takePlain_139_fr l1 x3.1 x6.1 ((0 : Int32)) _ _ h)
      · exact fr_tr (f3) (cR_takePlain_139_fr l1 x3.1 x6.1 ((1 : Int32)) _ _ h)
    · exact fr_tr (f3) (cR_takePlain_139_fr l1 x3.1 x6.1 ((1 : Int32)) _ _ h)
theorem cR_takePlain_92_fr (l1 : Int32) (t1 : Int32) (s : ts) (r : ts) (h : cR_takePlain_92 l1 t1 s = some r) : fr wf_cR_takePlain s r := by
  unfold cR_takePlain_92 at h
  obtain ⟨s2, hs2, h⟩ := FB h
  have f1 := fr_tr (W := wf_cR_takePlain) (fr_rf) (fr_mono (by decide +kernel) (cR_need_fr t1 ((2 : Int32)) _ _ hs2))
  exact fr_tr (f1) (cR_takePlain_96_fr l1 _ _ h)
theorem cR_takePlain_67_fr (l1 : Int32) (s : ts) (r : ts) (h : cR_takePlain_67 l1 s = some r) : fr wf_cR_takePlain s r := by
  unfold cR_takePlain_67 at h
  obtain ⟨s2, hs2, h⟩ := FB h
  have f1 := fr_tr (W := wf_cR_takePlain) (fr_rf) (fr_mono (by decide +kernel) (cR_next_fr _ _ hs2))
  obtain ⟨x6, hx6, h⟩ := FB h
  have f2 := fr_tr (W := wf_cR_takePlain) (f1) (fr_mono (by decide +kernel) (cR_good_fr _ _ hx6))
  refine FI h (fun h => ?_) (fun h => ?_)
  · exact fr_tr (f2) (cR_takePlain_96_fr l1 _ _ h)
  · refine FI h (fun h => ?_) (fun h => ?_)
    · exact fr_tr (f2) (cR_takePlain_92_fr l1 ((1 : Int32)) _ _ h)
    · exact fr_tr (f2) (cR_takePlain_92_fr l1 ((0 : Int32)) _ _ h)
theorem cR_takePlain_215_fr (t1 : Int32) (t2 : Int32) (s : ts) (r : ts) (h : cR_takePlain_215 t1 t2 s = some r) : fr wf_cR_takePlain s r := by
  unfold cR_takePlain_215 at h
  obtain ⟨x3, hx3, h⟩ := FB h
  have f1 := fr_tr (W := wf_cR_takePlain) (fr_rf) (fr_mono (by decide +kernel) (cR_add_fr t1 t2 _ _ hx3))
  exact FV h (f1)
theorem cR_takePlain_198_fr (l3 : Int32) (t1 : Int32) (s : ts) (r : ts) (h : cR_takePlain_198 l3 t1 s = some r) : fr wf_cR_takePlain s r := by
  unfold cR_takePlain_198 at h
  refine FI h (fun h => ?_) (fun h => ?_)
  · obtain ⟨x3, hx3, h⟩ := FB h
    have f1 := fr_tr (W := wf_cR_takePlain) (fr_rf) (fr_mono (by decide +kernel) (cR_findNumber_fr (gJ s 1108 0) _ _ hx3))
    exact fr_tr (f1) (cR_takePlain_215_fr t1 x3.1 _ _ h)
  · exact fr_tr (fr_rf) (cR_takePlain_215_fr t1 l3 _ _ h)
theorem cR_takePlain_fr (l1 : Int32) (s : ts) (r : ts) (h : cR_takePlain l1 s = some r) : fr wf_cR_takePlain s r := by
  unfold cR_takePlain at h
  refine FI h (fun h => ?_) (fun h => ?_)
  · obtain ⟨x11, hx11, h⟩ := FB h
    have f1 := fr_tr (W := wf_cR_takePlain) (fr_rf) (fr_mono (by decide +kernel) (cR_add_fr ((1 : Int32)) (gI s 1109 0) _ _ hx11))
    exact FV h (f1)
  · refine FI h (fun h => ?_) (fun h => ?_)
    · exact fr_tr (fr_rf) (cR_takePlain_35_fr l1 _ _ h)
    · refine FI h (fun h => ?_) (fun h => ?_)
      · exact fr_tr (fr_rf) (cR_takePlain_35_fr l1 _ _ h)
      · refine FI h (fun h => ?_) (fun h => ?_)
        · exact fr_tr (fr_rf) (cR_takePlain_67_fr l1 _ _ h)
        · refine FI h (fun h => ?_) (fun h => ?_)
          · exact fr_tr (fr_rf) (cR_takePlain_67_fr l1 _ _ h)
          · obtain ⟨x3, hx3, h⟩ := FB h
            have f2 := fr_tr (W := wf_cR_takePlain) (fr_rf) (fr_mono (by decide +kernel) (cR_findLocal_fr (gJ s 1108 0) _ _ hx3))
            refine FI h (fun h => ?_) (fun h => ?_)
            · exact fr_tr (f2) (cR_takePlain_198_fr x3.1 ((3 : Int32)) _ _ h)
            · exact fr_tr (f2) (cR_takePlain_198_fr x3.1 ((2 : Int32)) _ _ h)
theorem cR_settle_82_fr (s : ts) (r : ts) (h : cR_settle_82 s = some r) : fr wf_cR_settle s r := by
  unfold cR_settle_82 at h
  replace h := FG h
  refine FI h (fun h => ?_) (fun h => ?_)
  · exact FV h (fr_wI (fr_rf) rfl)
  · exact FV h (fr_wI (fr_rf) rfl)
theorem cR_settle_46_fr (s : ts) (r : ts) (h : cR_settle_46 s = some r) : fr wf_cR_settle s r := by
  unfold cR_settle_46 at h
  obtain ⟨x3, hx3, h⟩ := FB h
  have f1 := fr_tr (W := wf_cR_settle) (fr_rf) (fr_mono (by decide +kernel) (cR_add_fr ((13 : Int32)) ((0 : Int32)) _ _ hx3))
  replace h := FG h
  replace h := FG h
  exact fr_tr (fr_wA (f1) rfl) (cR_settle_82_fr _ _ h)
theorem cR_settle_fr (s : ts) (r : ts) (h : cR_settle s = some r) : fr wf_cR_settle s r := by
  unfold cR_settle at h
  replace h := FG h
  refine FI h (fun h => ?_) (fun h => ?_)
  · exact fr_tr (fr_wI (fr_rf) rfl) (cR_settle_46_fr _ _ h)
  · refine FI h (fun h => ?_) (fun h => ?_)
    · exact fr_tr (fr_wI (fr_rf) rfl) (cR_settle_46_fr _ _ h)
    · obtain ⟨x4, hx4, h⟩ := FB h
      have f1 := fr_tr (W := wf_cR_settle) (fr_wI (fr_rf) rfl) (fr_mono (by decide +kernel) (cR_add_fr (gA (wI s 1142 0 ((gI s 1142 0) - ((1 : Int32)))) 112 (gI (wI s 1142 0 ((gI s 1142 0) - ((1 : Int32)))) 1142 0).toNatClampNeg) ((0 : Int32)) _ _ hx4))
      exact fr_tr (f1) (cR_settle_82_fr _ _ h)
theorem cR_settleTo_0_b_fr (kk : Int32 → ts → Option (ts)) (hkk : ∀ (a0 : Int32) (s : ts) (r : ts), kk a0 s = some r → fr wf_cR_settleTo s r) (l1 : Int32) (s : ts) (r : ts) (h : cR_settleTo_0_b kk l1 s = some r) : fr wf_cR_settleTo s r := by
  unfold cR_settleTo_0_b at h
  refine FI h (fun h => ?_) (fun h => ?_)
  · exact FV h (fr_rf)
  · replace h := FG h
    refine FI h (fun h => ?_) (fun h => ?_)
    · exact FV h (fr_rf)
    · refine FI h (fun h => ?_) (fun h => ?_)
      · exact FV h (fr_rf)
      · refine FI h (fun h => ?_) (fun h => ?_)
        · exact FV h (fr_rf)
        · obtain ⟨s3, hs3, h⟩ := FB h
          have f1 := fr_tr (W := wf_cR_settleTo) (fr_rf) (fr_mono (by decide +kernel) (cR_settle_fr _ _ hs3))
          exact fr_tr (f1) (hkk l1 _ _ h)
theorem cR_settleTo_0_fr : ∀ (n : Nat) (l1 : Int32) (s : ts) (r : ts), cR_settleTo_0 n l1 s = some r → fr wf_cR_settleTo s r := by
  intro n
  induction n with
  | zero => intro l1 s r h; exact FN h
  | succ n ih =>
    intro l1 s r h
    rw [cR_settleTo_0.eq_2] at h
    exact cR_settleTo_0_b_fr (cR_settleTo_0 n) ih l1 s r h
theorem cR_settleTo_fr (l1 : Int32) (s : ts) (r : ts) (h : cR_settleTo l1 s = some r) : fr wf_cR_settleTo s r := by
  unfold cR_settleTo at h
  exact fr_tr (fr_rf) (cR_settleTo_0_fr tm_N l1 _ _ h)
theorem cR_endOne_fr (s : ts) (r : ts) (h : cR_endOne s = some r) : fr wf_cR_endOne s r := by
  unfold cR_endOne at h
  obtain ⟨s2, hs2, h⟩ := FB h
  have f1 := fr_tr (W := wf_cR_endOne) (fr_wI (fr_rf) rfl) (fr_mono (by decide +kernel) (cR_settleTo_fr ((9 : Int32)) _ _ hs2))
  exact FV h (f1)
theorem cR_takeOne_242_fr (t1 : Int32) (s : ts) (r : ts) (h : cR_takeOne_242 t1 s = some r) : fr wf_cR_takeOne s r := by
  unfold cR_takeOne_242 at h
  obtain ⟨s2, hs2, h⟩ := FB h
  have f1 := fr_tr (W := wf_cR_takeOne) (fr_rf) (fr_mono (by decide +kernel) (cR_wait1_fr t1 ((9 : Int32)) _ _ hs2))
  obtain ⟨s5, hs5, h⟩ := FB h
  have f2 := fr_tr (W := wf_cR_takeOne) (fr_wI (f1) rfl) (fr_mono (by decide +kernel) (cR_next_fr _ _ hs5))
  exact FV h (f2)
theorem cR_takeOne_225_fr (s : ts) (r : ts) (h : cR_takeOne_225 s = some r) : fr wf_cR_takeOne s r := by
  unfold cR_takeOne_225 at h
  refine FI h (fun h => ?_) (fun h => ?_)
  · exact fr_tr (fr_rf) (cR_takeOne_242_fr ((9 : Int32)) _ _ h)
  · exact fr_tr (fr_rf) (cR_takeOne_242_fr ((10 : Int32)) _ _ h)
theorem cR_takeOne_196_fr (l2 : Int32) (t1 : Int32) (s : ts) (r : ts) (h : cR_takeOne_196 l2 t1 s = some r) : fr wf_cR_takeOne s r := by
  unfold cR_takeOne_196 at h
  obtain ⟨s2, hs2, h⟩ := FB h
  have f1 := fr_tr (W := wf_cR_takeOne) (fr_rf) (fr_mono (by decide +kernel) (cR_limit_fr t1 _ _ hs2))
  obtain ⟨x6, hx6, h⟩ := FB h
  have f2 := fr_tr (W := wf_cR_takeOne) (f1) (fr_mono (by decide +kernel) (cR_good_fr _ _ hx6))
  refine FI h (fun h => ?_) (fun h => ?_)
  · exact FV h (f2)
  · refine FI h (fun h => ?_) (fun h => ?_)
    · exact fr_tr (f2) (cR_takeOne_225_fr _ _ h)
    · refine FI h (fun h => ?_) (fun h => ?_)
      · exact fr_tr (f2) (cR_takeOne_225_fr _ _ h)
      · refine FI h (fun h => ?_) (fun h => ?_)
        · obtain ⟨s31, hs31, h⟩ := FB h
          have f3 := fr_tr (W := wf_cR_takeOne) (f2) (fr_mono (by decide +kernel) (cR_open_fr ((14 : Int32)) _ _ hs31))
          obtain ⟨s34, hs34, h⟩ := FB h
          have f4 := fr_tr (W := wf_cR_takeOne) (f3) (fr_mono (by decide +kernel) (cR_next_fr _ _ hs34))
          exact FV h (f4)
        · refine FI h (fun h => ?_) (fun h => ?_)
          · obtain ⟨s21, hs21, h⟩ := FB h
            have f5 := fr_tr (W := wf_cR_takeOne) (f2) (fr_mono (by decide +kernel) (cR_next_fr _ _ hs21))
            obtain ⟨s24, hs24, h⟩ := FB h
            have f6 := fr_tr (W := wf_cR_takeOne) (f5) (fr_mono (by decide +kernel) (cR_open_fr ((6 : Int32)) _ _ hs24))
            obtain ⟨s27, hs27, h⟩ := FB h
            have f7 := fr_tr (W := wf_cR_takeOne) (f6) (fr_mono (by decide +kernel) (cR_must_fr ((40 : Int32)) _ _ hs27))
            exact FV h (f7)
          · obtain ⟨s8, hs8, h⟩ := FB h
            have f8 := fr_tr (W := wf_cR_takeOne) (f2) (fr_mono (by decide +kernel) (cR_takePlain_fr l2 _ _ hs8))
            obtain ⟨s11, hs11, h⟩ := FB h
            have f9 := fr_tr (W := wf_cR_takeOne) (f8) (fr_mono (by decide +kernel) (cR_next_fr _ _ hs11))
            obtain ⟨x15, hx15, h⟩ := FB h
            have f10 := fr_tr (W := wf_cR_takeOne) (f9) (fr_mono (by decide +kernel) (cR_good_fr _ _ hx15))
            refine FI h (fun h => ?_) (fun h => ?_)
            · exact FV h (f10)
            · obtain ⟨s17, hs17, h⟩ := FB h
              have f11 := fr_tr (W := wf_cR_takeOne) (f10) (fr_mono (by decide +kernel) (cR_endOne_fr _ _ hs17))
              exact FV h (f11)
theorem cR_takeOne_181_fr (l2 : Int32) (s : ts) (r : ts) (h : cR_takeOne_181 l2 s = some r) : fr wf_cR_takeOne s r := by
  unfold cR_takeOne_181 at h
  refine FI h (fun h => ?_) (fun h => ?_)
  · exact fr_tr (fr_rf) (cR_takeOne_196_fr l2 ((0 : Int32)) _ _ h)
  · exact fr_tr (fr_rf) (cR_takeOne_196_fr l2 ((1 : Int32)) _ _ h)
theorem cR_takeOne_177_fr (l2 : Int32) (t1 : Int32) (s : ts) (r : ts) (h : cR_takeOne_177 l2 t1 s = some r) : fr wf_cR_takeOne s r := by
  unfold cR_takeOne_177 at h
  obtain ⟨s2, hs2, h⟩ := FB h
  have f1 := fr_tr (W := wf_cR_takeOne) (fr_rf) (fr_mono (by decide +kernel) (cR_need_fr t1 ((4 : Int32)) _ _ hs2))
  exact fr_tr (f1) (cR_takeOne_181_fr l2 _ _ h)
theorem cR_takeOne_154_fr (l1 : Int32) (l2 : Int32) (s : ts) (r : ts) (h : cR_takeOne_154 l1 l2 s = some r) : fr wf_cR_takeOne s r := by
  unfold cR_takeOne_154 at h
  obtain ⟨x3, hx3, h⟩ := FB h
  have f1 := fr_tr (W := wf_cR_takeOne) (fr_rf) (fr_mono (by decide +kernel) (cR_good_fr _ _ hx3))
  refine FI h (fun h => ?_) (fun h => ?_)
  · exact fr_tr (f1) (cR_takeOne_181_fr l2 _ _ h)
  · refine FI h (fun h => ?_) (fun h => ?_)
    · refine FI h (fun h => ?_) (fun h => ?_)
      · exact fr_tr (f1) (cR_takeOne_177_fr l2 ((1 : Int32)) _ _ h)
      · exact fr_tr (f1) (cR_takeOne_177_fr l2 ((0 : Int32)) _ _ h)
    · exact fr_tr (f1) (cR_takeOne_181_fr l2 _ _ h)
theorem cR_takeOne_150_fr (l1 : Int32) (l2 : Int32) (t1 : Int32) (s : ts) (r : ts) (h : cR_takeOne_150 l1 l2 t1 s = some r) : fr wf_cR_takeOne s r := by
  unfold cR_takeOne_150 at h
  obtain ⟨s2, hs2, h⟩ := FB h
  have f1 := fr_tr (W := wf_cR_takeOne) (fr_rf) (fr_mono (by decide +kernel) (cR_need_fr t1 ((4 : Int32)) _ _ hs2))
  exact fr_tr (f1) (cR_takeOne_154_fr l1 l2 _ _ h)
theorem cR_takeOne_100_fr (l1 : Int32) (l2 : Int32) (s : ts) (r : ts) (h : cR_takeOne_100 l1 l2 s = some r) : fr wf_cR_takeOne s r := by
  unfold cR_takeOne_100 at h
  obtain ⟨x3, hx3, h⟩ := FB h
  have f1 := fr_tr (W := wf_cR_takeOne) (fr_rf) (fr_mono (by decide +kernel) (cR_good_fr _ _ hx3))
  refine FI h (fun h => ?_) (fun h => ?_)
  · exact fr_tr (f1) (cR_takeOne_154_fr l1 l2 _ _ h)
  · refine FI h (fun h => ?_) (fun h => ?_)
    · refine FI h (fun h => ?_) (fun h => ?_)
      · obtain ⟨x6, hx6, h⟩ := FB h
        have f2 := fr_tr (W := wf_cR_takeOne) (f1) (fr_mono (by decide +kernel) (cR_findLocal_fr (gJ x3.2 1108 0) _ _ hx6))
        refine FI h (fun h => ?_) (fun h => ?_)
        · obtain ⟨x9, hx9, h⟩ := FB h
          have f3 := fr_tr (W := wf_cR_takeOne) (f2) (fr_mono (by decide +kernel) (cR_findNumber_fr (gJ x6.2 1108 0) _ _ hx9))
          refine FI h (fun h => ?_) (fun h => ?_)
          · exact fr_tr (f3) (cR_takeOne_150_fr l1 l2 ((0 : Int32)) _ _ h)
          · exact fr_tr (f3) (cR_takeOne_150_fr l1 l2 ((1 : Int32)) _ _ h)
        · exact fr_tr (f2) (cR_takeOne_150_fr l1 l2 ((1 : Int32)) _ _ h)
      · exact fr_tr (f1) (cR_takeOne_154_fr l1 l2 _ _ h)
    · exact fr_tr (f1) (cR_takeOne_154_fr l1 l2 _ _ h)
theorem cR_takeOne_96_fr (l1 : Int32) (l2 : Int32) (t1 : Int32) (s : ts) (r : ts) (h : cR_takeOne_96 l1 l2 t1 s = some r) : fr wf_cR_takeOne s r := by
  unfold cR_takeOne_96 at h
  obtain ⟨s2, hs2, h⟩ := FB h
  have f1 := fr_tr (W := wf_cR_takeOne) (fr_rf) (fr_mono (by decide +kernel) (cR_need_fr t1 ((2 : Int32)) _ _ hs2))
  exact fr_tr (f1) (cR_takeOne_100_fr l1 l2 _ _ h)
