/-! WHAT A FUNCTION MAY WRITE: printed by wip/tools/frames.py. -/
theorem cX_append_3_b_fr (kk : Int32 → Int32 → ts → Option (ts)) (hkk : ∀ (a0 : Int32) (a1 : Int32) (s : ts) (r : ts), kk a0 a1 s = some r → fr wf_cX_append s r) (l1 : Int32) (l2 : Int32) (s : ts) (r : ts) (h : cX_append_3_b kk l1 l2 s = some r) : fr wf_cX_append s r := by
  unfold cX_append_3_b at h
  refine FI h (fun h => ?_) (fun h => ?_)
  · exact FV h (fr_rf)
  · refine FI h (fun h => ?_) (fun h => ?_)
    · exact fr_tr (fr_rf) (hkk l1 (l2 + (-8 : Int32)) _ _ h)
    · replace h := FG h
      exact fr_tr (fr_wI (fr_wA (fr_rf) rfl) rfl) (hkk l1 (l2 + (-8 : Int32)) _ _ h)
theorem cX_append_3_fr : ∀ (n : Nat) (l1 : Int32) (l2 : Int32) (s : ts) (r : ts), cX_append_3 n l1 l2 s = some r → fr wf_cX_append s r := by
  intro n
  induction n with
  | zero => intro l1 l2 s r h; exact FN h
  | succ n ih =>
    intro l1 l2 s r h
    rw [cX_append_3.eq_2] at h
    exact cX_append_3_b_fr (cX_append_3 n) ih l1 l2 s r h
theorem cX_append_fr (l1 : Int32) (s : ts) (r : ts) (h : cX_append l1 s = some r) : fr wf_cX_append s r := by
  unfold cX_append at h
  exact fr_tr (fr_rf) (cX_append_3_fr tm_N l1 ((24 : Int32)) _ _ h)
theorem cX_feed_fr (l1 : Int32) (l2 : Int32) (l3 : Int32) (l4 : Int32) (l5 : Int32) (s : ts) (r : Int32 × ts) (h : cX_feed l1 l2 l3 l4 l5 s = some r) : fr wf_cX_feed s r.2 := by
  unfold cX_feed at h
  refine FI h (fun h => ?_) (fun h => ?_)
  · obtain ⟨s2, hs2, h⟩ := FB h
    have f1 := fr_tr (W := wf_cX_feed) (fr_rf) (fr_mono (by decide +kernel) (cX_append_fr l1 _ _ hs2))
    obtain ⟨s5, hs5, h⟩ := FB h
    have f2 := fr_tr (W := wf_cX_feed) (f1) (fr_mono (by decide +kernel) (cX_append_fr l2 _ _ hs5))
    obtain ⟨s8, hs8, h⟩ := FB h
    have f3 := fr_tr (W := wf_cX_feed) (f2) (fr_mono (by decide +kernel) (cX_append_fr l3 _ _ hs8))
    obtain ⟨s11, hs11, h⟩ := FB h
    have f4 := fr_tr (W := wf_cX_feed) (f3) (fr_mono (by decide +kernel) (cX_append_fr l4 _ _ hs11))
    obtain ⟨s14, hs14, h⟩ := FB h
    have f5 := fr_tr (W := wf_cX_feed) (f4) (fr_mono (by decide +kernel) (cX_append_fr l5 _ _ hs14))
    exact FS h (f5)
  · exact FS h (fr_rf)
theorem cR_feed_71_fr (k18 : Int32 → Int32 → Int32 → Int32 → Int32 → Int32 → ts → Option (Int32 × ts)) (hk18 : ∀ (a0 : Int32) (a1 : Int32) (a2 : Int32) (a3 : Int32) (a4 : Int32) (a5 : Int32) (s : ts) (r : Int32 × ts), k18 a0 a1 a2 a3 a4 a5 s = some r → fr wf_cR_feed s r.2) (l1 : Int32) (l2 : Int32) (l3 : Int32) (l4 : Int32) (l5 : Int32) (l6 : Int32) (t0 : Int32) (s : ts) (r : Int32 × ts) (h : cR_feed_71 k18 l1 l2 l3 l4 l5 l6 t0 s = some r) : fr wf_cR_feed s r.2 := by
  unfold cR_feed_71 at h
  replace h := FG h
  exact fr_tr (fr_wI (fr_wA (fr_rf) rfl) rfl) (hk18 l1 l2 l3 l4 l5 (l6 + (1 : Int32)) _ _ h)
theorem cR_feed_18_b_fr (kk : Int32 → Int32 → Int32 → Int32 → Int32 → Int32 → ts → Option (Int32 × ts)) (hkk : ∀ (a0 : Int32) (a1 : Int32) (a2 : Int32) (a3 : Int32) (a4 : Int32) (a5 : Int32) (s : ts) (r : Int32 × ts), kk a0 a1 a2 a3 a4 a5 s = some r → fr wf_cR_feed s r.2) (l1 : Int32) (l2 : Int32) (l3 : Int32) (l4 : Int32) (l5 : Int32) (l6 : Int32) (s : ts) (r : Int32 × ts) (h : cR_feed_18_b kk l1 l2 l3 l4 l5 l6 s = some r) : fr wf_cR_feed s r.2 := by
  unfold cR_feed_18_b at h
  refine FI h (fun h => ?_) (fun h => ?_)
  · exact FS h (fr_rf)
  · refine FI h (fun h => ?_) (fun h => ?_)
    · refine FI h (fun h => ?_) (fun h => ?_)
      · refine FI h (fun h => ?_) (fun h => ?_)
        · refine FI h (fun h => ?_) (fun h => ?_)
          · exact fr_tr (fr_rf) (cR_feed_71_fr kk hkk l1 l2 l3 l4 l5 l6 l5 _ _ h)
          · exact fr_tr (fr_rf) (cR_feed_71_fr kk hkk l1 l2 l3 l4 l5 l6 l4 _ _ h)
        · exact fr_tr (fr_rf) (cR_feed_71_fr kk hkk l1 l2 l3 l4 l5 l6 l3 _ _ h)
      · exact fr_tr (fr_rf) (cR_feed_71_fr kk hkk l1 l2 l3 l4 l5 l6 l2 _ _ h)
    · exact fr_tr (fr_rf) (cR_feed_71_fr kk hkk l1 l2 l3 l4 l5 l6 l1 _ _ h)
theorem cR_feed_18_fr : ∀ (n : Nat) (l1 : Int32) (l2 : Int32) (l3 : Int32) (l4 : Int32) (l5 : Int32) (l6 : Int32) (s : ts) (r : Int32 × ts), cR_feed_18 n l1 l2 l3 l4 l5 l6 s = some r → fr wf_cR_feed s r.2 := by
  intro n
  induction n with
  | zero => intro l1 l2 l3 l4 l5 l6 s r h; exact FN h
  | succ n ih =>
    intro l1 l2 l3 l4 l5 l6 s r h
    rw [cR_feed_18.eq_2] at h
    exact cR_feed_18_b_fr (cR_feed_18 n) ih l1 l2 l3 l4 l5 l6 s r h
theorem cR_feed_fr (l1 : Int32) (l2 : Int32) (l3 : Int32) (l4 : Int32) (l5 : Int32) (s : ts) (r : Int32 × ts) (h : cR_feed l1 l2 l3 l4 l5 s = some r) : fr wf_cR_feed s r.2 := by
  unfold cR_feed at h
  refine FI h (fun h => ?_) (fun h => ?_)
  · exact fr_tr (fr_rf) (cR_feed_18_fr tm_N l1 l2 l3 l4 l5 ((0 : Int32)) _ _ h)
  · exact FS h (fr_rf)
theorem cX_end_fr (l1 : Int32) (s : ts) (r : Int32 × ts) (h : cX_end l1 s = some r) : fr wf_cX_end s r.2 := by
  unfold cX_end at h
  refine FI h (fun h => ?_) (fun h => ?_)
  · exact FS h (fr_rf)
  · refine FI h (fun h => ?_) (fun h => ?_)
    · exact FS h (fr_rf)
    · refine FI h (fun h => ?_) (fun h => ?_)
      · exact FS h (fr_wI (fr_rf) rfl)
      · exact FS h (fr_rf)
theorem cR_end_fr (l1 : Int32) (s : ts) (r : Int32 × ts) (h : cR_end l1 s = some r) : fr wf_cR_end s r.2 := by
  unfold cR_end at h
  refine FI h (fun h => ?_) (fun h => ?_)
  · exact FS h (fr_rf)
  · refine FI h (fun h => ?_) (fun h => ?_)
    · exact FS h (fr_rf)
    · refine FI h (fun h => ?_) (fun h => ?_)
      · exact FS h (fr_wI (fr_rf) rfl)
      · exact FS h (fr_rf)
theorem cT_byteAt_fr (l1 : Int32) (l2 : Int32) (s : ts) (r : Int32 × ts) (h : cT_byteAt l1 l2 s = some r) : fr wf_cT_byteAt s r.2 := by
  unfold cT_byteAt at h
  refine FI h (fun h => ?_) (fun h => ?_)
  · exact FS h (fr_rf)
  · refine FI h (fun h => ?_) (fun h => ?_)
    · exact FS h (fr_rf)
    · refine FI h (fun h => ?_) (fun h => ?_)
      · exact FS h (fr_rf)
      · replace h := FG h
        exact FS h (fr_rf)
theorem cT_skipBlanks_2_b_fr (kk : Int32 → Int32 → ts → Option (ts)) (hkk : ∀ (a0 : Int32) (a1 : Int32) (s : ts) (r : ts), kk a0 a1 s = some r → fr wf_cT_skipBlanks s r) (l2 : Int32) (l3 : Int32) (s : ts) (r : ts) (h : cT_skipBlanks_2_b kk l2 l3 s = some r) : fr wf_cT_skipBlanks s r := by
  unfold cT_skipBlanks_2_b at h
  refine FI h (fun h => ?_) (fun h => ?_)
  · exact FV h (fr_rf)
  · obtain ⟨x3, hx3, h⟩ := FB h
    have f1 := fr_tr (W := wf_cT_skipBlanks) (fr_rf) (fr_mono (by decide +kernel) (cT_byteAt_fr l2 (gI s 105 0) _ _ hx3))
    refine FI h (fun h => ?_) (fun h => ?_)
    · refine FI h (fun h => ?_) (fun h => ?_)
      · exact fr_tr (fr_wI (f1) rfl) (hkk l2 ((1 : Int32)) _ _ h)
      · refine FI h (fun h => ?_) (fun h => ?_)
        · exact fr_tr (fr_wI (f1) rfl) (hkk l2 l3 _ _ h)
        · refine FI h (fun h => ?_) (fun h => ?_)
          · exact fr_tr (fr_wI (f1) rfl) (hkk l2 l3 _ _ h)
          · refine FI h (fun h => ?_) (fun h => ?_)
            · exact fr_tr (fr_wI (f1) rfl) (hkk l2 l3 _ _ h)
            · refine FI h (fun h => ?_) (fun h => ?_)
              · exact fr_tr (fr_wI (f1) rfl) (hkk l2 l3 _ _ h)
              · exact FV h (f1)
    · refine FI h (fun h => ?_) (fun h => ?_)
      · exact fr_tr (fr_wI (f1) rfl) (hkk l2 ((0 : Int32)) _ _ h)
      · exact fr_tr (fr_wI (f1) rfl) (hkk l2 ((1 : Int32)) _ _ h)
theorem cT_skipBlanks_2_fr : ∀ (n : Nat) (l2 : Int32) (l3 : Int32) (s : ts) (r : ts), cT_skipBlanks_2 n l2 l3 s = some r → fr wf_cT_skipBlanks s r := by
  intro n
  induction n with
  | zero => intro l2 l3 s r h; exact FN h
  | succ n ih =>
    intro l2 l3 s r h
    rw [cT_skipBlanks_2.eq_2] at h
    exact cT_skipBlanks_2_b_fr (cT_skipBlanks_2 n) ih l2 l3 s r h
theorem cT_skipBlanks_fr (l2 : Int32) (s : ts) (r : ts) (h : cT_skipBlanks l2 s = some r) : fr wf_cT_skipBlanks s r := by
  unfold cT_skipBlanks at h
  exact fr_tr (fr_rf) (cT_skipBlanks_2_fr tm_N l2 ((0 : Int32)) _ _ h)
theorem cT_add_fr (l1 : Int32) (l2 : Int32) (l3 : Int64) (s : ts) (r : Int32 × ts) (h : cT_add l1 l2 l3 s = some r) : fr wf_cT_add s r.2 := by
  unfold cT_add at h
  refine FI h (fun h => ?_) (fun h => ?_)
  · replace h := FG h
    replace h := FG h
    replace h := FG h
    refine FI h (fun h => ?_) (fun h => ?_)
    · exact FS h (fr_wI (fr_wB (fr_wA (fr_wA (fr_rf) rfl) rfl) rfl) rfl)
    · refine FI h (fun h => ?_) (fun h => ?_)
      · exact FS h (fr_wI (fr_wB (fr_wA (fr_wA (fr_rf) rfl) rfl) rfl) rfl)
      · exact FS h (fr_wI (fr_wB (fr_wA (fr_wA (fr_rf) rfl) rfl) rfl) rfl)
  · exact FS h (fr_rf)
theorem cT_isLetter_12_fr (l0 : Int32) (s : ts) (r : Int32 × ts) (h : cT_isLetter_12 l0 s = some r) : fr wf_cT_isLetter s r.2 := by
  unfold cT_isLetter_12 at h
  refine FI h (fun h => ?_) (fun h => ?_)
  · exact FS h (fr_rf)
  · refine FI h (fun h => ?_) (fun h => ?_)
    · exact FS h (fr_rf)
    · exact FS h (fr_rf)
theorem cT_isLetter_fr (l0 : Int32) (s : ts) (r : Int32 × ts) (h : cT_isLetter l0 s = some r) : fr wf_cT_isLetter s r.2 := by
  unfold cT_isLetter at h
  refine FI h (fun h => ?_) (fun h => ?_)
  · exact fr_tr (fr_rf) (cT_isLetter_12_fr l0 _ _ h)
  · refine FI h (fun h => ?_) (fun h => ?_)
    · exact FS h (fr_rf)
    · exact fr_tr (fr_rf) (cT_isLetter_12_fr l0 _ _ h)
theorem cT_isDigit_fr (l0 : Int32) (s : ts) (r : Int32 × ts) (h : cT_isDigit l0 s = some r) : fr wf_cT_isDigit s r.2 := by
  unfold cT_isDigit at h
  refine FI h (fun h => ?_) (fun h => ?_)
  · exact FS h (fr_rf)
  · refine FI h (fun h => ?_) (fun h => ?_)
    · exact FS h (fr_rf)
    · exact FS h (fr_rf)
theorem cT_takeWord_100_b_fr (kk : Int32 → Int64 → Int32 → ts → Option (Int32 × ts)) (hkk : ∀ (a0 : Int32) (a1 : Int64) (a2 : Int32) (s : ts) (r : Int32 × ts), kk a0 a1 a2 s = some r → fr wf_cT_takeWord s r.2) (l3 : Int32) (l4 : Int64) (l7 : Int32) (s : ts) (r : Int32 × ts) (h : cT_takeWord_100_b kk l3 l4 l7 s = some r) : fr wf_cT_takeWord s r.2 := by
  unfold cT_takeWord_100_b at h
  refine FI h (fun h => ?_) (fun h => ?_)
  · obtain ⟨x3, hx3, h⟩ := FB h
    have f1 := fr_tr (W := wf_cT_takeWord) (fr_rf) (fr_mono (by decide +kernel) (cT_add_fr ((2 : Int32)) l3 l4 _ _ hx3))
    exact FS h (f1)
  · replace h := FG h
    refine FI h (fun h => ?_) (fun h => ?_)
    · obtain ⟨x7, hx7, h⟩ := FB h
      have f2 := fr_tr (W := wf_cT_takeWord) (fr_rf) (fr_mono (by decide +kernel) (cT_add_fr (((512 : Int32)) + l7) l3 l4 _ _ hx7))
      exact FS h (f2)
    · exact fr_tr (fr_rf) (hkk l3 l4 (l7 + (1 : Int32)) _ _ h)
theorem cT_takeWord_100_fr : ∀ (n : Nat) (l3 : Int32) (l4 : Int64) (l7 : Int32) (s : ts) (r : Int32 × ts), cT_takeWord_100 n l3 l4 l7 s = some r → fr wf_cT_takeWord s r.2 := by
  intro n
  induction n with
  | zero => intro l3 l4 l7 s r h; exact FN h
  | succ n ih =>
    intro l3 l4 l7 s r h
    rw [cT_takeWord_100.eq_2] at h
    exact cT_takeWord_100_b_fr (cT_takeWord_100 n) ih l3 l4 l7 s r h
theorem cT_takeWord_78_fr (l3 : Int32) (l4 : Int64) (s : ts) (r : Int32 × ts) (h : cT_takeWord_78 l3 l4 s = some r) : fr wf_cT_takeWord s r.2 := by
  unfold cT_takeWord_78 at h
  refine FI h (fun h => ?_) (fun h => ?_)
  · exact fr_tr (fr_rf) (cT_takeWord_100_fr tm_N l3 l4 ((0 : Int32)) _ _ h)
  · obtain ⟨x3, hx3, h⟩ := FB h
    have f1 := fr_tr (W := wf_cT_takeWord) (fr_rf) (fr_mono (by decide +kernel) (cT_add_fr ((1 : Int32)) l3 ((0 : Int64)) _ _ hx3))
    exact FS h (f1)
theorem cT_takeWord_43_fr (k19 : Int32 → Int32 → Int64 → Int32 → ts → Option (Int32 × ts)) (hk19 : ∀ (a0 : Int32) (a1 : Int32) (a2 : Int64) (a3 : Int32) (s : ts) (r : Int32 × ts), k19 a0 a1 a2 a3 s = some r → fr wf_cT_takeWord s r.2) (l2 : Int32) (l3 : Int32) (l4 : Int64) (l6 : Int32) (s : ts) (r : Int32 × ts) (h : cT_takeWord_43 k19 l2 l3 l4 l6 s = some r) : fr wf_cT_takeWord s r.2 := by
  unfold cT_takeWord_43 at h
  obtain ⟨x3, hx3, h⟩ := FB h
  have f1 := fr_tr (W := wf_cT_takeWord) (fr_wI (fr_rf) rfl) (fr_mono (by decide +kernel) (cT_byteAt_fr l2 (gI (wI s 105 0 ((gI s 105 0) + ((1 : Int32)))) 105 0) _ _ hx3))
  exact fr_tr (f1) (hk19 l2 l3 ((l4 <<< (((8 : Int32)).toInt64 &&& 63)) ||| l6.toInt64) x3.1 _ _ h)
theorem cT_takeWord_19_b_fr (kk : Int32 → Int32 → Int64 → Int32 → ts → Option (Int32 × ts)) (hkk : ∀ (a0 : Int32) (a1 : Int32) (a2 : Int64) (a3 : Int32) (s : ts) (r : Int32 × ts), kk a0 a1 a2 a3 s = some r → fr wf_cT_takeWord s r.2) (l2 : Int32) (l3 : Int32) (l4 : Int64) (l6 : Int32) (s : ts) (r : Int32 × ts) (h : cT_takeWord_19_b kk l2 l3 l4 l6 s = some r) : fr wf_cT_takeWord s r.2 := by
  unfold cT_takeWord_19_b at h
  refine FI h (fun h => ?_) (fun h => ?_)
  · exact fr_tr (fr_rf) (cT_takeWord_78_fr l3 l4 _ _ h)
  · obtain ⟨x3, hx3, h⟩ := FB h
    have f1 := fr_tr (W := wf_cT_takeWord) (fr_rf) (fr_mono (by decide +kernel) (cT_isLetter_fr l6 _ _ hx3))
    refine FI h (fun h => ?_) (fun h => ?_)
    · obtain ⟨x6, hx6, h⟩ := FB h
      have f2 := fr_tr (W := wf_cT_takeWord) (f1) (fr_mono (by decide +kernel) (cT_isDigit_fr l6 _ _ hx6))
      refine FI h (fun h => ?_) (fun h => ?_)
      · exact fr_tr (f2) (cT_takeWord_78_fr l3 l4 _ _ h)
      · exact fr_tr (f2) (cT_takeWord_43_fr kk hkk l2 l3 l4 l6 _ _ h)
    · exact fr_tr (f1) (cT_takeWord_43_fr kk hkk l2 l3 l4 l6 _ _ h)
theorem cT_takeWord_19_fr : ∀ (n : Nat) (l2 : Int32) (l3 : Int32) (l4 : Int64) (l6 : Int32) (s : ts) (r : Int32 × ts), cT_takeWord_19 n l2 l3 l4 l6 s = some r → fr wf_cT_takeWord s r.2 := by
  intro n
  induction n with
  | zero => intro l2 l3 l4 l6 s r h; exact FN h
  | succ n ih =>
    intro l2 l3 l4 l6 s r h
    rw [cT_takeWord_19.eq_2] at h
    exact cT_takeWord_19_b_fr (cT_takeWord_19 n) ih l2 l3 l4 l6 s r h
theorem cT_takeWord_fr (l2 : Int32) (s : ts) (r : Int32 × ts) (h : cT_takeWord l2 s = some r) : fr wf_cT_takeWord s r.2 := by
  unfold cT_takeWord at h
  obtain ⟨x3, hx3, h⟩ := FB h
  have f1 := fr_tr (W := wf_cT_takeWord) (fr_rf) (fr_mono (by decide +kernel) (cT_byteAt_fr l2 (gI s 105 0) _ _ hx3))
  exact fr_tr (f1) (cT_takeWord_19_fr tm_N l2 (gI s 105 0) ((0 : Int64)) x3.1 _ _ h)
theorem cT_takeNumber_75_fr (l3 : Int32) (l4 : Int64) (l6 : Int32) (s : ts) (r : Int32 × ts) (h : cT_takeNumber_75 l3 l4 l6 s = some r) : fr wf_cT_takeNumber s r.2 := by
  unfold cT_takeNumber_75 at h
  refine FI h (fun h => ?_) (fun h => ?_)
  · obtain ⟨x3, hx3, h⟩ := FB h
    have f1 := fr_tr (W := wf_cT_takeNumber) (fr_rf) (fr_mono (by decide +kernel) (cT_add_fr ((3 : Int32)) l3 l4 _ _ hx3))
    obtain ⟨x6, hx6, h⟩ := FB h
    have f2 := fr_tr (W := wf_cT_takeNumber) (f1) (fr_mono (by decide +kernel) (cT_isLetter_fr l6 _ _ hx6))
    refine FI h (fun h => ?_) (fun h => ?_)
    · exact FS h (f2)
    · obtain ⟨x9, hx9, h⟩ := FB h
      have f3 := fr_tr (W := wf_cT_takeNumber) (f2) (fr_mono (by decide +kernel) (cT_add_fr ((1 : Int32)) (gI x6.2 105 0) ((0 : Int64)) _ _ hx9))
      exact FS h (f3)
  · obtain ⟨x13, hx13, h⟩ := FB h
    have f4 := fr_tr (W := wf_cT_takeNumber) (fr_rf) (fr_mono (by decide +kernel) (cT_add_fr ((1 : Int32)) l3 ((0 : Int64)) _ _ hx13))
    exact FS h (f4)
theorem cT_takeNumber_19_b_fr (kk : Int32 → Int32 → Int64 → Int32 → ts → Option (Int32 × ts)) (hkk : ∀ (a0 : Int32) (a1 : Int32) (a2 : Int64) (a3 : Int32) (s : ts) (r : Int32 × ts), kk a0 a1 a2 a3 s = some r → fr wf_cT_takeNumber s r.2) (l2 : Int32) (l3 : Int32) (l4 : Int64) (l6 : Int32) (s : ts) (r : Int32 × ts) (h : cT_takeNumber_19_b kk l2 l3 l4 l6 s = some r) : fr wf_cT_takeNumber s r.2 := by
  unfold cT_takeNumber_19_b at h
  refine FI h (fun h => ?_) (fun h => ?_)
  · exact fr_tr (fr_rf) (cT_takeNumber_75_fr l3 l4 l6 _ _ h)
  · obtain ⟨x3, hx3, h⟩ := FB h
    have f1 := fr_tr (W := wf_cT_takeNumber) (fr_rf) (fr_mono (by decide +kernel) (cT_isDigit_fr l6 _ _ hx3))
    refine FI h (fun h => ?_) (fun h => ?_)
    · exact fr_tr (f1) (cT_takeNumber_75_fr l3 l4 l6 _ _ h)
    · obtain ⟨x6, hx6, h⟩ := FB h
      have f2 := fr_tr (W := wf_cT_takeNumber) (fr_wI (f1) rfl) (fr_mono (by decide +kernel) (cT_byteAt_fr l2 (gI (wI x3.2 105 0 ((gI x3.2 105 0) + ((1 : Int32)))) 105 0) _ _ hx6))
      exact fr_tr (f2) (hkk l2 l3 (((l4 * ((10 : Int64))) + l6.toInt64) - ((48 : Int64))) x6.1 _ _ h)
theorem cT_takeNumber_19_fr : ∀ (n : Nat) (l2 : Int32) (l3 : Int32) (l4 : Int64) (l6 : Int32) (s : ts) (r : Int32 × ts), cT_takeNumber_19 n l2 l3 l4 l6 s = some r → fr wf_cT_takeNumber s r.2 := by
  intro n
  induction n with
  | zero => intro l2 l3 l4 l6 s r h; exact FN h
  | succ n ih =>
    intro l2 l3 l4 l6 s r h
    rw [cT_takeNumber_19.eq_2] at h
    exact cT_takeNumber_19_b_fr (cT_takeNumber_19 n) ih l2 l3 l4 l6 s r h
theorem cT_takeNumber_fr (l2 : Int32) (s : ts) (r : Int32 × ts) (h : cT_takeNumber l2 s = some r) : fr wf_cT_takeNumber s r.2 := by
  unfold cT_takeNumber at h
  obtain ⟨x3, hx3, h⟩ := FB h
  have f1 := fr_tr (W := wf_cT_takeNumber) (fr_rf) (fr_mono (by decide +kernel) (cT_byteAt_fr l2 (gI s 105 0) _ _ hx3))
  exact fr_tr (f1) (cT_takeNumber_19_fr tm_N l2 (gI s 105 0) ((0 : Int64)) x3.1 _ _ h)
theorem cT_isPair_fr (l0 : Int32) (l1 : Int32) (s : ts) (r : Int32 × ts) (h : cT_isPair l0 l1 s = some r) : fr wf_cT_isPair s r.2 := by
  unfold cT_isPair at h
  refine FI h (fun h => ?_) (fun h => ?_)
  · refine FI h (fun h => ?_) (fun h => ?_)
    · exact FS h (fr_rf)
    · exact FS h (fr_rf)
  · refine FI h (fun h => ?_) (fun h => ?_)
    · refine FI h (fun h => ?_) (fun h => ?_)
      · exact FS h (fr_rf)
      · exact FS h (fr_rf)
    · refine FI h (fun h => ?_) (fun h => ?_)
      · refine FI h (fun h => ?_) (fun h => ?_)
        · exact FS h (fr_rf)
        · exact FS h (fr_rf)
      · refine FI h (fun h => ?_) (fun h => ?_)
        · refine FI h (fun h => ?_) (fun h => ?_)
          · exact FS h (fr_rf)
          · exact FS h (fr_rf)
        · refine FI h (fun h => ?_) (fun h => ?_)
          · refine FI h (fun h => ?_) (fun h => ?_)
            · exact FS h (fr_rf)
            · exact FS h (fr_rf)
          · refine FI h (fun h => ?_) (fun h => ?_)
            · refine FI h (fun h => ?_) (fun h => ?_)
              · exact FS h (fr_rf)
              · exact FS h (fr_rf)
            · exact FS h (fr_rf)
theorem cT_isSign_fr (l0 : Int32) (s : ts) (r : Int32 × ts) (h : cT_isSign l0 s = some r) : fr wf_cT_isSign s r.2 := by
  unfold cT_isSign at h
  refine FI h (fun h => ?_) (fun h => ?_)
  · exact FS h (fr_rf)
  · refine FI h (fun h => ?_) (fun h => ?_)
    · exact FS h (fr_rf)
    · refine FI h (fun h => ?_) (fun h => ?_)
      · exact FS h (fr_rf)
      · refine FI h (fun h => ?_) (fun h => ?_)
        · exact FS h (fr_rf)
        · refine FI h (fun h => ?_) (fun h => ?_)
          · exact FS h (fr_rf)
          · refine FI h (fun h => ?_) (fun h => ?_)
            · exact FS h (fr_rf)
            · refine FI h (fun h => ?_) (fun h => ?_)
              · exact FS h (fr_rf)
              · refine FI h (fun h => ?_) (fun h => ?_)
                · exact FS h (fr_rf)
                · refine FI h (fun h => ?_) (fun h => ?_)
                  · exact FS h (fr_rf)
                  · refine FI h (fun h => ?_) (fun h => ?_)
                    · exact FS h (fr_rf)
                    · refine FI h (fun h => ?_) (fun h => ?_)
                      · exact FS h (fr_rf)
                      · refine FI h (fun h => ?_) (fun h => ?_)
                        · exact FS h (fr_rf)
                        · refine FI h (fun h => ?_) (fun h => ?_)
                          · exact FS h (fr_rf)
                          · refine FI h (fun h => ?_) (fun h => ?_)
                            · exact FS h (fr_rf)
                            · refine FI h (fun h => ?_) (fun h => ?_)
                              · exact FS h (fr_rf)
                              · exact FS h (fr_rf)
theorem cT_takeSign_58_fr (l3 : Int32) (t1 : Int32) (s : ts) (r : Int32 × ts) (h : cT_takeSign_58 l3 t1 s = some r) : fr wf_cT_takeSign s r.2 := by
  unfold cT_takeSign_58 at h
  obtain ⟨x3, hx3, h⟩ := FB h
  have f1 := fr_tr (W := wf_cT_takeSign) (fr_rf) (fr_mono (by decide +kernel) (cT_add_fr t1 l3 ((0 : Int64)) _ _ hx3))
  exact FS h (f1)
theorem cT_takeSign_fr (l1 : Int32) (l2 : Int32) (s : ts) (r : Int32 × ts) (h : cT_takeSign l1 l2 s = some r) : fr wf_cT_takeSign s r.2 := by
  unfold cT_takeSign at h
  obtain ⟨x3, hx3, h⟩ := FB h
  have f1 := fr_tr (W := wf_cT_takeSign) (fr_rf) (fr_mono (by decide +kernel) (cT_isPair_fr l1 l2 _ _ hx3))
  refine FI h (fun h => ?_) (fun h => ?_)
  · obtain ⟨x6, hx6, h⟩ := FB h
    have f2 := fr_tr (W := wf_cT_takeSign) (fr_wI (f1) rfl) (fr_mono (by decide +kernel) (cT_isSign_fr l1 _ _ hx6))
    refine FI h (fun h => ?_) (fun h => ?_)
    · exact fr_tr (f2) (cT_takeSign_58_fr (gI s 105 0) ((1 : Int32)) _ _ h)
    · exact fr_tr (f2) (cT_takeSign_58_fr (gI s 105 0) l1 _ _ h)
  · obtain ⟨x10, hx10, h⟩ := FB h
    have f3 := fr_tr (W := wf_cT_takeSign) (fr_wI (f1) rfl) (fr_mono (by decide +kernel) (cT_add_fr (((256 : Int32)) + l1) (gI s 105 0) ((0 : Int64)) _ _ hx10))
    exact FS h (f3)
theorem cT_takeToken_fr (l2 : Int32) (s : ts) (r : Int32 × ts) (h : cT_takeToken l2 s = some r) : fr wf_cT_takeToken s r.2 := by
  unfold cT_takeToken at h
  obtain ⟨x3, hx3, h⟩ := FB h
  have f1 := fr_tr (W := wf_cT_takeToken) (fr_rf) (fr_mono (by decide +kernel) (cT_byteAt_fr l2 (gI s 105 0) _ _ hx3))
  refine FI h (fun h => ?_) (fun h => ?_)
  · obtain ⟨x26, hx26, h⟩ := FB h
    have f2 := fr_tr (W := wf_cT_takeToken) (f1) (fr_mono (by decide +kernel) (cT_add_fr ((0 : Int32)) l2 ((0 : Int64)) _ _ hx26))
    exact FS h (f2)
  · obtain ⟨x6, hx6, h⟩ := FB h
    have f3 := fr_tr (W := wf_cT_takeToken) (f1) (fr_mono (by decide +kernel) (cT_isLetter_fr x3.1 _ _ hx6))
    refine FI h (fun h => ?_) (fun h => ?_)
    · obtain ⟨x9, hx9, h⟩ := FB h
      have f4 := fr_tr (W := wf_cT_takeToken) (f3) (fr_mono (by decide +kernel) (cT_isDigit_fr x3.1 _ _ hx9))
      refine FI h (fun h => ?_) (fun h => ?_)
      · obtain ⟨x12, hx12, h⟩ := FB h
        have f5 := fr_tr (W := wf_cT_takeToken) (f4) (fr_mono (by decide +kernel) (cT_byteAt_fr l2 ((gI x9.2 105 0) + ((1 : Int32))) _ _ hx12))
        obtain ⟨x15, hx15, h⟩ := FB h
        have f6 := fr_tr (W := wf_cT_takeToken) (f5) (fr_mono (by decide +kernel) (cT_takeSign_fr x3.1 x12.1 _ _ hx15))
        exact FS h (f6)
      · obtain ⟨x18, hx18, h⟩ := FB h
        have f7 := fr_tr (W := wf_cT_takeToken) (f4) (fr_mono (by decide +kernel) (cT_takeNumber_fr l2 _ _ hx18))
        exact FS h (f7)
    · obtain ⟨x22, hx22, h⟩ := FB h
      have f8 := fr_tr (W := wf_cT_takeToken) (f3) (fr_mono (by decide +kernel) (cT_takeWord_fr l2 _ _ hx22))
      exact FS h (f8)
theorem cT_part_33_b_fr (kk : Int32 → Int32 → Int32 → ts → Option (ts)) (hkk : ∀ (a0 : Int32) (a1 : Int32) (a2 : Int32) (s : ts) (r : ts), kk a0 a1 a2 s = some r → fr wf_cT_part s r) (l3 : Int32) (l4 : Int32) (l5 : Int32) (s : ts) (r : ts) (h : cT_part_33_b kk l3 l4 l5 s = some r) : fr wf_cT_part s r := by
  unfold cT_part_33_b at h
  refine FI h (fun h => ?_) (fun h => ?_)
  · exact FV h (fr_wI (fr_wI (fr_rf) rfl) rfl)
  · refine FI h (fun h => ?_) (fun h => ?_)
    · exact FV h (fr_wI (fr_wI (fr_rf) rfl) rfl)
    · obtain ⟨s2, hs2, h⟩ := FB h
      have f1 := fr_tr (W := wf_cT_part) (fr_rf) (fr_mono (by decide +kernel) (cT_skipBlanks_fr l3 _ _ hs2))
      obtain ⟨x6, hx6, h⟩ := FB h
      have f2 := fr_tr (W := wf_cT_part) (f1) (fr_mono (by decide +kernel) (cT_takeToken_fr l3 _ _ hx6))
      exact fr_tr (f2) (hkk l3 x6.1 (l5 + (1 : Int32)) _ _ h)
theorem cT_part_33_fr : ∀ (n : Nat) (l3 : Int32) (l4 : Int32) (l5 : Int32) (s : ts) (r : ts), cT_part_33 n l3 l4 l5 s = some r → fr wf_cT_part s r := by
  intro n
  induction n with
  | zero => intro l3 l4 l5 s r h; exact FN h
  | succ n ih =>
    intro l3 l4 l5 s r h
    rw [cT_part_33.eq_2] at h
    exact cT_part_33_b_fr (cT_part_33 n) ih l3 l4 l5 s r h
theorem cT_part_fr (l2 : Int32) (s : ts) (r : ts) (h : cT_part l2 s = some r) : fr wf_cT_part s r := by
  unfold cT_part at h
  exact fr_tr (fr_wI (fr_wI (fr_wI (fr_wI (fr_rf) rfl) rfl) rfl) rfl) (cT_part_33_fr tm_N (if (4000 : Int32) < l2 then (4000 : Int32) else l2) ((1 : Int32)) ((0 : Int32)) _ _ h)
theorem cG_clear_27_b_fr (kk : Int32 → ts → Option (ts)) (hkk : ∀ (a0 : Int32) (s : ts) (r : ts), kk a0 s = some r → fr wf_cG_clear s r) (l1 : Int32) (s : ts) (r : ts) (h : cG_clear_27_b kk l1 s = some r) : fr wf_cG_clear s r := by
  unfold cG_clear_27_b at h
  refine FI h (fun h => ?_) (fun h => ?_)
  · exact FV h (fr_wI (fr_wI (fr_rf) rfl) rfl)
  · replace h := FG h
    exact fr_tr (fr_wA (fr_wA (fr_rf) rfl) rfl) (hkk (l1 + (1 : Int32)) _ _ h)
theorem cG_clear_27_fr : ∀ (n : Nat) (l1 : Int32) (s : ts) (r : ts), cG_clear_27 n l1 s = some r → fr wf_cG_clear s r := by
  intro n
  induction n with
  | zero => intro l1 s r h; exact FN h
  | succ n ih =>
    intro l1 s r h
    rw [cG_clear_27.eq_2] at h
    exact cG_clear_27_b_fr (cG_clear_27 n) ih l1 s r h
theorem cG_clear_7_b_fr (kk : Int32 → ts → Option (ts)) (hkk : ∀ (a0 : Int32) (s : ts) (r : ts), kk a0 s = some r → fr wf_cG_clear s r) (l1 : Int32) (s : ts) (r : ts) (h : cG_clear_7_b kk l1 s = some r) : fr wf_cG_clear s r := by
  unfold cG_clear_7_b at h
  refine FI h (fun h => ?_) (fun h => ?_)
  · exact fr_tr (fr_rf) (cG_clear_27_fr tm_N ((0 : Int32)) _ _ h)
  · replace h := FG h
    exact fr_tr (fr_wA (fr_rf) rfl) (hkk (l1 + (1 : Int32)) _ _ h)
theorem cG_clear_7_fr : ∀ (n : Nat) (l1 : Int32) (s : ts) (r : ts), cG_clear_7 n l1 s = some r → fr wf_cG_clear s r := by
  intro n
  induction n with
  | zero => intro l1 s r h; exact FN h
  | succ n ih =>
    intro l1 s r h
    rw [cG_clear_7.eq_2] at h
    exact cG_clear_7_b_fr (cG_clear_7 n) ih l1 s r h
theorem cG_clear_fr (s : ts) (r : ts) (h : cG_clear s = some r) : fr wf_cG_clear s r := by
  unfold cG_clear at h
  exact fr_tr (fr_wI (fr_rf) rfl) (cG_clear_7_fr tm_N ((0 : Int32)) _ _ h)
theorem cT_advance_fr (s : ts) (r : ts) (h : cT_advance s = some r) : fr wf_cT_advance s r := by
  unfold cT_advance at h
  refine FI h (fun h => ?_) (fun h => ?_)
  · exact FV h (fr_rf)
  · replace h := FG h
    exact FV h (fr_wI (fr_wI (fr_rf) rfl) rfl)
theorem cT_word_fr (s : ts) (r : Int64 × ts) (h : cT_word s = some r) : fr wf_cT_word s r.2 := by
  unfold cT_word at h
  replace h := FG h
  exact FS h (fr_rf)
theorem cT_isAnyWord_fr (s : ts) (r : Int32 × ts) (h : cT_isAnyWord s = some r) : fr wf_cT_isAnyWord s r.2 := by
  unfold cT_isAnyWord at h
  refine FI h (fun h => ?_) (fun h => ?_)
  · exact FS h (fr_rf)
  · refine FI h (fun h => ?_) (fun h => ?_)
    · exact FS h (fr_rf)
    · exact FS h (fr_rf)
theorem cT_fail_fr (l1 : Int32) (s : ts) (r : Int32 × ts) (h : cT_fail l1 s = some r) : fr wf_cT_fail s r.2 := by
  unfold cT_fail at h
  refine FI h (fun h => ?_) (fun h => ?_)
  · replace h := FG h
    exact FS h (fr_wI (fr_wI (fr_rf) rfl) rfl)
  · replace h := FG h
    exact FS h (fr_wI (fr_wI (fr_rf) rfl) rfl)
theorem cT_isReserved_fr (s : ts) (r : Int32 × ts) (h : cT_isReserved s = some r) : fr wf_cT_isReserved s r.2 := by
  unfold cT_isReserved at h
  refine FI h (fun h => ?_) (fun h => ?_)
  · exact FS h (fr_rf)
  · exact FS h (fr_rf)
theorem cG_isTaken_33_fr (k3 : Int64 → Int32 → Int32 → ts → Option (Int32 × ts)) (hk3 : ∀ (a0 : Int64) (a1 : Int32) (a2 : Int32) (s : ts) (r : Int32 × ts), k3 a0 a1 a2 s = some r → fr wf_cG_isTaken s r.2) (l1 : Int64) (l3 : Int32) (l4 : Int32) (t0 : Int32) (s : ts) (r : Int32 × ts) (h : cG_isTaken_33 k3 l1 l3 l4 t0 s = some r) : fr wf_cG_isTaken s r.2 := by
  unfold cG_isTaken_33 at h
  replace h := FG h
  refine FI h (fun h => ?_) (fun h => ?_)
  · refine FI h (fun h => ?_) (fun h => ?_)
    · exact FS h (fr_rf)
    · exact fr_tr (fr_rf) (hk3 l1 l3 (l4 + (1 : Int32)) _ _ h)
  · exact fr_tr (fr_rf) (hk3 l1 l3 (l4 + (1 : Int32)) _ _ h)
theorem cG_isTaken_3_b_fr (kk : Int64 → Int32 → Int32 → ts → Option (Int32 × ts)) (hkk : ∀ (a0 : Int64) (a1 : Int32) (a2 : Int32) (s : ts) (r : Int32 × ts), kk a0 a1 a2 s = some r → fr wf_cG_isTaken s r.2) (l1 : Int64) (l3 : Int32) (l4 : Int32) (s : ts) (r : Int32 × ts) (h : cG_isTaken_3_b kk l1 l3 l4 s = some r) : fr wf_cG_isTaken s r.2 := by
  unfold cG_isTaken_3_b at h
  refine FI h (fun h => ?_) (fun h => ?_)
  · exact FS h (fr_rf)
  · refine FI h (fun h => ?_) (fun h => ?_)
    · replace h := FG h
      refine FI h (fun h => ?_) (fun h => ?_)
      · exact fr_tr (fr_rf) (cG_isTaken_33_fr kk hkk l1 l3 l4 ((1 : Int32)) _ _ h)
      · exact fr_tr (fr_rf) (cG_isTaken_33_fr kk hkk l1 l3 l4 ((0 : Int32)) _ _ h)
    · exact fr_tr (fr_rf) (cG_isTaken_33_fr kk hkk l1 l3 l4 ((0 : Int32)) _ _ h)
theorem cG_isTaken_3_fr : ∀ (n : Nat) (l1 : Int64) (l3 : Int32) (l4 : Int32) (s : ts) (r : Int32 × ts), cG_isTaken_3 n l1 l3 l4 s = some r → fr wf_cG_isTaken s r.2 := by
  intro n
  induction n with
  | zero => intro l1 l3 l4 s r h; exact FN h
  | succ n ih =>
    intro l1 l3 l4 s r h
    rw [cG_isTaken_3.eq_2] at h
    exact cG_isTaken_3_b_fr (cG_isTaken_3 n) ih l1 l3 l4 s r h
theorem cG_isTaken_fr (l1 : Int64) (l3 : Int32) (s : ts) (r : Int32 × ts) (h : cG_isTaken l1 l3 s = some r) : fr wf_cG_isTaken s r.2 := by
  unfold cG_isTaken at h
  exact fr_tr (fr_rf) (cG_isTaken_3_fr tm_N l1 l3 ((0 : Int32)) _ _ h)
theorem cD_checkNewWord_47_fr (s : ts) (r : Int32 × ts) (h : cD_checkNewWord_47 s = some r) : fr wf_cD_checkNewWord s r.2 := by
  unfold cD_checkNewWord_47 at h
  obtain ⟨x3, hx3, h⟩ := FB h
  have f1 := fr_tr (W := wf_cD_checkNewWord) (fr_rf) (fr_mono (by decide +kernel) (cT_fail_fr ((3 : Int32)) _ _ hx3))
  exact FS h (f1)
theorem cD_checkNewWord_fr (l1 : Int32) (l2 : Int32) (s : ts) (r : Int32 × ts) (h : cD_checkNewWord l1 l2 s = some r) : fr wf_cD_checkNewWord s r.2 := by
  unfold cD_checkNewWord at h
  obtain ⟨x3, hx3, h⟩ := FB h
  have f1 := fr_tr (W := wf_cD_checkNewWord) (fr_rf) (fr_mono (by decide +kernel) (cT_isAnyWord_fr _ _ hx3))
  refine FI h (fun h => ?_) (fun h => ?_)
  · obtain ⟨x23, hx23, h⟩ := FB h
    have f2 := fr_tr (W := wf_cD_checkNewWord) (f1) (fr_mono (by decide +kernel) (cT_fail_fr ((2 : Int32)) _ _ hx23))
    exact FS h (f2)
  · obtain ⟨x6, hx6, h⟩ := FB h
    have f3 := fr_tr (W := wf_cD_checkNewWord) (f1) (fr_mono (by decide +kernel) (cT_isReserved_fr _ _ hx6))
    refine FI h (fun h => ?_) (fun h => ?_)
    · obtain ⟨x9, hx9, h⟩ := FB h
      have f4 := fr_tr (W := wf_cD_checkNewWord) (f3) (fr_mono (by decide +kernel) (cT_word_fr _ _ hx9))
      obtain ⟨x12, hx12, h⟩ := FB h
      have f5 := fr_tr (W := wf_cD_checkNewWord) (f4) (fr_mono (by decide +kernel) (cG_isTaken_fr x9.1 l1 _ _ hx12))
      refine FI h (fun h => ?_) (fun h => ?_)
      · replace h := FG h
        refine FI h (fun h => ?_) (fun h => ?_)
        · exact FS h (f5)
        · obtain ⟨x16, hx16, h⟩ := FB h
          have f6 := fr_tr (W := wf_cD_checkNewWord) (f5) (fr_mono (by decide +kernel) (cT_fail_fr ((5 : Int32)) _ _ hx16))
          refine FI h (fun h => ?_) (fun h => ?_)
          · exact FS h (f6)
          · exact FS h (f6)
      · exact fr_tr (f5) (cD_checkNewWord_47_fr _ _ h)
    · exact fr_tr (f3) (cD_checkNewWord_47_fr _ _ h)
theorem cG_addWord_fr (l1 : Int64) (l3 : Int32) (s : ts) (r : ts) (h : cG_addWord l1 l3 s = some r) : fr wf_cG_addWord s r := by
  unfold cG_addWord at h
  refine FI h (fun h => ?_) (fun h => ?_)
  · exact FV h (fr_rf)
  · refine FI h (fun h => ?_) (fun h => ?_)
    · exact FV h (fr_rf)
    · refine FI h (fun h => ?_) (fun h => ?_)
      · exact FV h (fr_rf)
      · replace h := FG h
        replace h := FG h
        replace h := FG h
        replace h := FG h
        exact FV h (fr_wI (fr_wA (fr_wA (fr_wA (fr_wB (fr_rf) rfl) rfl) rfl) rfl) rfl)
theorem cD_tell_fr (l1 : Int32) (l2 : Int32) (s : ts) (r : Int32 × ts) (h : cD_tell l1 l2 s = some r) : fr wf_cD_tell s r.2 := by
  unfold cD_tell at h
  obtain ⟨x3, hx3, h⟩ := FB h
  have f1 := fr_tr (W := wf_cD_tell) (fr_rf) (fr_mono (by decide +kernel) (cT_word_fr _ _ hx3))
  obtain ⟨x6, hx6, h⟩ := FB h
  have f2 := fr_tr (W := wf_cD_tell) (f1) (fr_mono (by decide +kernel) (cD_checkNewWord_fr l1 l2 _ _ hx6))
  refine FI h (fun h => ?_) (fun h => ?_)
  · exact FS h (f2)
  · obtain ⟨s8, hs8, h⟩ := FB h
    have f3 := fr_tr (W := wf_cD_tell) (f2) (fr_mono (by decide +kernel) (cG_addWord_fr x3.1 l1 _ _ hs8))
    obtain ⟨s11, hs11, h⟩ := FB h
    have f4 := fr_tr (W := wf_cD_tell) (f3) (fr_mono (by decide +kernel) (cT_advance_fr _ _ hs11))
    exact FS h (f4)
theorem cT_value_fr (s : ts) (r : Int32 × ts) (h : cT_value s = some r) : fr wf_cT_value s r.2 := by
  unfold cT_value at h
  replace h := FG h
  exact FS h (fr_rf)
theorem cD_checkNumber_42_fr (s : ts) (r : Int32 × ts) (h : cD_checkNumber_42 s = some r) : fr wf_cD_checkNumber s r.2 := by
  unfold cD_checkNumber_42 at h
  obtain ⟨x3, hx3, h⟩ := FB h
  have f1 := fr_tr (W := wf_cD_checkNumber) (fr_rf) (fr_mono (by decide +kernel) (cT_fail_fr ((5 : Int32)) _ _ hx3))
  refine FI h (fun h => ?_) (fun h => ?_)
  · exact FS h (f1)
  · exact FS h (f1)
theorem cD_checkNumber_fr (l1 : Int32) (l2 : Int32) (s : ts) (r : Int32 × ts) (h : cD_checkNumber l1 l2 s = some r) : fr wf_cD_checkNumber s r.2 := by
  unfold cD_checkNumber at h
  refine FI h (fun h => ?_) (fun h => ?_)
  · obtain ⟨x3, hx3, h⟩ := FB h
    have f1 := fr_tr (W := wf_cD_checkNumber) (fr_rf) (fr_mono (by decide +kernel) (cT_value_fr _ _ hx3))
    refine FI h (fun h => ?_) (fun h => ?_)
    · exact fr_tr (f1) (cD_checkNumber_42_fr _ _ h)
    · obtain ⟨x6, hx6, h⟩ := FB h
      have f2 := fr_tr (W := wf_cD_checkNumber) (f1) (fr_mono (by decide +kernel) (cT_value_fr _ _ hx6))
      refine FI h (fun h => ?_) (fun h => ?_)
      · exact FS h (f2)
      · exact fr_tr (f2) (cD_checkNumber_42_fr _ _ h)
  · obtain ⟨x11, hx11, h⟩ := FB h
    have f3 := fr_tr (W := wf_cD_checkNumber) (fr_rf) (fr_mono (by decide +kernel) (cT_fail_fr ((2 : Int32)) _ _ hx11))
    exact FS h (f3)
theorem cD_setPlace_fr (l1 : Int32) (l2 : Int32) (l3 : Int32) (s : ts) (r : ts) (h : cD_setPlace l1 l2 l3 s = some r) : fr wf_cD_setPlace s r := by
  unfold cD_setPlace at h
  refine FI h (fun h => ?_) (fun h => ?_)
  · exact FV h (fr_rf)
  · refine FI h (fun h => ?_) (fun h => ?_)
    · exact FV h (fr_rf)
    · replace h := FG h
      exact FV h (fr_wA (fr_wA (fr_rf) rfl) rfl)
theorem cT_need_fr (l1 : Int32) (s : ts) (r : Int32 × ts) (h : cT_need l1 s = some r) : fr wf_cT_need s r.2 := by
  unfold cT_need at h
  refine FI h (fun h => ?_) (fun h => ?_)
  · obtain ⟨s2, hs2, h⟩ := FB h
    have f1 := fr_tr (W := wf_cT_need) (fr_rf) (fr_mono (by decide +kernel) (cT_advance_fr _ _ hs2))
    exact FS h (f1)
  · obtain ⟨x6, hx6, h⟩ := FB h
    have f2 := fr_tr (W := wf_cT_need) (fr_rf) (fr_mono (by decide +kernel) (cT_fail_fr ((2 : Int32)) _ _ hx6))
    exact FS h (f2)
theorem cD_readResource_fr (s : ts) (r : Int32 × ts) (h : cD_readResource s = some r) : fr wf_cD_readResource s r.2 := by
  unfold cD_readResource at h
  obtain ⟨s2, hs2, h⟩ := FB h
  have f1 := fr_tr (W := wf_cD_readResource) (fr_rf) (fr_mono (by decide +kernel) (cT_advance_fr _ _ hs2))
  obtain ⟨x6, hx6, h⟩ := FB h
  have f2 := fr_tr (W := wf_cD_readResource) (f1) (fr_mono (by decide +kernel) (cD_tell_fr ((0 : Int32)) ((8 : Int32)) _ _ hx6))
  refine FI h (fun h => ?_) (fun h => ?_)
  · exact FS h (f2)
  · obtain ⟨x9, hx9, h⟩ := FB h
    have f3 := fr_tr (W := wf_cD_readResource) (f2) (fr_mono (by decide +kernel) (cD_checkNumber_fr ((1 : Int32)) ((99 : Int32)) _ _ hx9))
    refine FI h (fun h => ?_) (fun h => ?_)
    · exact FS h (f3)
    · obtain ⟨x12, hx12, h⟩ := FB h
      have f4 := fr_tr (W := wf_cD_readResource) (f3) (fr_mono (by decide +kernel) (cT_value_fr _ _ hx12))
      obtain ⟨x15, hx15, h⟩ := FB h
      have f5 := fr_tr (W := wf_cD_readResource) (f4) (fr_mono (by decide +kernel) (cT_value_fr _ _ hx15))
      obtain ⟨s17, hs17, h⟩ := FB h
      have f6 := fr_tr (W := wf_cD_readResource) (f5) (fr_mono (by decide +kernel) (cD_setPlace_fr (gA s2 16 ((0 : Int32)).toNatClampNeg) x12.1 x15.1 _ _ hs17))
      obtain ⟨s20, hs20, h⟩ := FB h
      have f7 := fr_tr (W := wf_cD_readResource) (f6) (fr_mono (by decide +kernel) (cT_advance_fr _ _ hs20))
      obtain ⟨x24, hx24, h⟩ := FB h
      have f8 := fr_tr (W := wf_cD_readResource) (f7) (fr_mono (by decide +kernel) (cT_need_fr ((59 : Int32)) _ _ hx24))
      exact FS h (f8)
theorem cD_readStore_fr (s : ts) (r : Int32 × ts) (h : cD_readStore s = some r) : fr wf_cD_readStore s r.2 := by
  unfold cD_readStore at h
  obtain ⟨s2, hs2, h⟩ := FB h
  have f1 := fr_tr (W := wf_cD_readStore) (fr_rf) (fr_mono (by decide +kernel) (cT_advance_fr _ _ hs2))
  obtain ⟨x6, hx6, h⟩ := FB h
  have f2 := fr_tr (W := wf_cD_readStore) (f1) (fr_mono (by decide +kernel) (cD_tell_fr ((1 : Int32)) ((6 : Int32)) _ _ hx6))
  refine FI h (fun h => ?_) (fun h => ?_)
  · exact FS h (f2)
  · obtain ⟨x9, hx9, h⟩ := FB h
    have f3 := fr_tr (W := wf_cD_readStore) (f2) (fr_mono (by decide +kernel) (cD_checkNumber_fr ((0 : Int32)) ((9999 : Int32)) _ _ hx9))
    refine FI h (fun h => ?_) (fun h => ?_)
    · exact FS h (f3)
    · obtain ⟨x12, hx12, h⟩ := FB h
      have f4 := fr_tr (W := wf_cD_readStore) (f3) (fr_mono (by decide +kernel) (cT_value_fr _ _ hx12))
      obtain ⟨s14, hs14, h⟩ := FB h
      have f5 := fr_tr (W := wf_cD_readStore) (f4) (fr_mono (by decide +kernel) (cT_advance_fr _ _ hs14))
      obtain ⟨x18, hx18, h⟩ := FB h
      have f6 := fr_tr (W := wf_cD_readStore) (f5) (fr_mono (by decide +kernel) (cD_checkNumber_fr (if (1 : Int32) < x12.1 then x12.1 else (1 : Int32)) ((9999 : Int32)) _ _ hx18))
      refine FI h (fun h => ?_) (fun h => ?_)
      · exact FS h (f6)
      · obtain ⟨x21, hx21, h⟩ := FB h
        have f7 := fr_tr (W := wf_cD_readStore) (f6) (fr_mono (by decide +kernel) (cT_value_fr _ _ hx21))
        obtain ⟨s23, hs23, h⟩ := FB h
        have f8 := fr_tr (W := wf_cD_readStore) (f7) (fr_mono (by decide +kernel) (cD_setPlace_fr (((8 : Int32)) + (gA s2 16 ((1 : Int32)).toNatClampNeg)) x12.1 x21.1 _ _ hs23))
        obtain ⟨s26, hs26, h⟩ := FB h
        have f9 := fr_tr (W := wf_cD_readStore) (f8) (fr_mono (by decide +kernel) (cT_advance_fr _ _ hs26))
        obtain ⟨x30, hx30, h⟩ := FB h
        have f10 := fr_tr (W := wf_cD_readStore) (f9) (fr_mono (by decide +kernel) (cT_need_fr ((59 : Int32)) _ _ hx30))
        exact FS h (f10)
theorem cD_readWords_2_b_fr (kk : Int32 → Int32 → Int32 → ts → Option (Int32 × ts)) (hkk : ∀ (a0 : Int32) (a1 : Int32) (a2 : Int32) (s : ts) (r : Int32 × ts), kk a0 a1 a2 s = some r → fr wf_cD_readWords s r.2) (l1 : Int32) (l2 : Int32) (l3 : Int32) (s : ts) (r : Int32 × ts) (h : cD_readWords_2_b kk l1 l2 l3 s = some r) : fr wf_cD_readWords s r.2 := by
  unfold cD_readWords_2_b at h
  refine FI h (fun h => ?_) (fun h => ?_)
  · exact FS h (fr_rf)
  · obtain ⟨x3, hx3, h⟩ := FB h
    have f1 := fr_tr (W := wf_cD_readWords) (fr_rf) (fr_mono (by decide +kernel) (cD_tell_fr l1 l2 _ _ hx3))
    refine FI h (fun h => ?_) (fun h => ?_)
    · exact FS h (f1)
    · refine FI h (fun h => ?_) (fun h => ?_)
      · obtain ⟨s5, hs5, h⟩ := FB h
        have f2 := fr_tr (W := wf_cD_readWords) (f1) (fr_mono (by decide +kernel) (cT_advance_fr _ _ hs5))
        exact fr_tr (f2) (hkk l1 l2 (l3 + (1 : Int32)) _ _ h)
      · exact FS h (f1)
theorem cD_readWords_2_fr : ∀ (n : Nat) (l1 : Int32) (l2 : Int32) (l3 : Int32) (s : ts) (r : Int32 × ts), cD_readWords_2 n l1 l2 l3 s = some r → fr wf_cD_readWords s r.2 := by
  intro n
  induction n with
  | zero => intro l1 l2 l3 s r h; exact FN h
  | succ n ih =>
    intro l1 l2 l3 s r h
    rw [cD_readWords_2.eq_2] at h
    exact cD_readWords_2_b_fr (cD_readWords_2 n) ih l1 l2 l3 s r h
theorem cD_readWords_fr (l1 : Int32) (l2 : Int32) (s : ts) (r : Int32 × ts) (h : cD_readWords l1 l2 s = some r) : fr wf_cD_readWords s r.2 := by
  unfold cD_readWords at h
  exact fr_tr (fr_rf) (cD_readWords_2_fr tm_N l1 l2 ((0 : Int32)) _ _ h)
theorem cD_readNumbers_fr (s : ts) (r : Int32 × ts) (h : cD_readNumbers s = some r) : fr wf_cD_readNumbers s r.2 := by
  unfold cD_readNumbers at h
  obtain ⟨s2, hs2, h⟩ := FB h
  have f1 := fr_tr (W := wf_cD_readNumbers) (fr_rf) (fr_mono (by decide +kernel) (cT_advance_fr _ _ hs2))
  obtain ⟨x6, hx6, h⟩ := FB h
  have f2 := fr_tr (W := wf_cD_readNumbers) (f1) (fr_mono (by decide +kernel) (cD_readWords_fr ((2 : Int32)) ((16 : Int32)) _ _ hx6))
  refine FI h (fun h => ?_) (fun h => ?_)
  · exact FS h (f2)
  · obtain ⟨x9, hx9, h⟩ := FB h
    have f3 := fr_tr (W := wf_cD_readNumbers) (f2) (fr_mono (by decide +kernel) (cT_need_fr ((59 : Int32)) _ _ hx9))
    refine FI h (fun h => ?_) (fun h => ?_)
    · exact FS h (f3)
    · exact FS h (f3)
theorem cG_isDefinition_fr (l1 : Int32) (s : ts) (r : Int32 × ts) (h : cG_isDefinition l1 s = some r) : fr wf_cG_isDefinition s r.2 := by
  unfold cG_isDefinition at h
  refine FI h (fun h => ?_) (fun h => ?_)
  · exact FS h (fr_rf)
  · refine FI h (fun h => ?_) (fun h => ?_)
    · exact FS h (fr_rf)
    · refine FI h (fun h => ?_) (fun h => ?_)
      · exact FS h (fr_rf)
      · exact FS h (fr_rf)
theorem cG_findValue_39_fr (k7 : Int64 → Int32 → ts → Option (Int32 × ts)) (hk7 : ∀ (a0 : Int64) (a1 : Int32) (s : ts) (r : Int32 × ts), k7 a0 a1 s = some r → fr wf_cG_findValue s r.2) (l1 : Int64) (l3 : Int32) (s : ts) (r : Int32 × ts) (h : cG_findValue_39 k7 l1 l3 s = some r) : fr wf_cG_findValue s r.2 := by
  unfold cG_findValue_39 at h
  replace h := FG h
  refine FI h (fun h => ?_) (fun h => ?_)
  · refine FI h (fun h => ?_) (fun h => ?_)
    · exact FS h (fr_rf)
    · exact fr_tr (fr_rf) (hk7 l1 (l3 + (-1 : Int32)) _ _ h)
  · exact fr_tr (fr_rf) (hk7 l1 (l3 + (-1 : Int32)) _ _ h)
theorem cG_findValue_7_b_fr (kk : Int64 → Int32 → ts → Option (Int32 × ts)) (hkk : ∀ (a0 : Int64) (a1 : Int32) (s : ts) (r : Int32 × ts), kk a0 a1 s = some r → fr wf_cG_findValue s r.2) (l1 : Int64) (l3 : Int32) (s : ts) (r : Int32 × ts) (h : cG_findValue_7_b kk l1 l3 s = some r) : fr wf_cG_findValue s r.2 := by
  unfold cG_findValue_7_b at h
  refine FI h (fun h => ?_) (fun h => ?_)
  · exact FS h (fr_rf)
  · replace h := FG h
    refine FI h (fun h => ?_) (fun h => ?_)
    · refine FI h (fun h => ?_) (fun h => ?_)
      · exact FS h (fr_rf)
      · exact fr_tr (fr_rf) (cG_findValue_39_fr kk hkk l1 l3 _ _ h)
    · exact fr_tr (fr_rf) (cG_findValue_39_fr kk hkk l1 l3 _ _ h)
theorem cG_findValue_7_fr : ∀ (n : Nat) (l1 : Int64) (l3 : Int32) (s : ts) (r : Int32 × ts), cG_findValue_7 n l1 l3 s = some r → fr wf_cG_findValue s r.2 := by
  intro n
  induction n with
  | zero => intro l1 l3 s r h; exact FN h
  | succ n ih =>
    intro l1 l3 s r h
    rw [cG_findValue_7.eq_2] at h
    exact cG_findValue_7_b_fr (cG_findValue_7 n) ih l1 l3 s r h
theorem cG_findValue_fr (l1 : Int64) (s : ts) (r : Int32 × ts) (h : cG_findValue l1 s = some r) : fr wf_cG_findValue s r.2 := by
  unfold cG_findValue at h
  exact fr_tr (fr_rf) (cG_findValue_7_fr tm_N l1 ((gI s 203 0) - ((1 : Int32))) _ _ h)
theorem cD_faultOfStatement_fr (s : ts) (r : Int32 × ts) (h : cD_faultOfStatement s = some r) : fr wf_cD_faultOfStatement s r.2 := by
  unfold cD_faultOfStatement at h
  refine FI h (fun h => ?_) (fun h => ?_)
  · obtain ⟨x6, hx6, h⟩ := FB h
    have f1 := fr_tr (W := wf_cD_faultOfStatement) (fr_rf) (fr_mono (by decide +kernel) (cT_word_fr _ _ hx6))
    obtain ⟨x9, hx9, h⟩ := FB h
    have f2 := fr_tr (W := wf_cD_faultOfStatement) (f1) (fr_mono (by decide +kernel) (cG_findValue_fr x6.1 _ _ hx9))
    refine FI h (fun h => ?_) (fun h => ?_)
    · exact FS h (f2)
    · exact FS h (f2)
  · refine FI h (fun h => ?_) (fun h => ?_)
    · exact FS h (fr_rf)
    · refine FI h (fun h => ?_) (fun h => ?_)
      · exact FS h (fr_rf)
      · refine FI h (fun h => ?_) (fun h => ?_)
        · exact FS h (fr_rf)
        · exact FS h (fr_rf)
theorem cF_faultOfOne_fr (s : ts) (r : Int32 × ts) (h : cF_faultOfOne s = some r) : fr wf_cF_faultOfOne s r.2 := by
  unfold cF_faultOfOne at h
  refine FI h (fun h => ?_) (fun h => ?_)
  · obtain ⟨x3, hx3, h⟩ := FB h
    have f1 := fr_tr (W := wf_cF_faultOfOne) (fr_rf) (fr_mono (by decide +kernel) (cT_word_fr _ _ hx3))
    obtain ⟨x6, hx6, h⟩ := FB h
    have f2 := fr_tr (W := wf_cF_faultOfOne) (f1) (fr_mono (by decide +kernel) (cG_findValue_fr x3.1 _ _ hx6))
    refine FI h (fun h => ?_) (fun h => ?_)
    · exact FS h (f2)
    · exact FS h (f2)
  · refine FI h (fun h => ?_) (fun h => ?_)
    · exact FS h (fr_rf)
    · refine FI h (fun h => ?_) (fun h => ?_)
      · exact FS h (fr_rf)
      · refine FI h (fun h => ?_) (fun h => ?_)
        · exact FS h (fr_rf)
        · refine FI h (fun h => ?_) (fun h => ?_)
          · exact FS h (fr_rf)
          · refine FI h (fun h => ?_) (fun h => ?_)
            · exact FS h (fr_rf)
            · refine FI h (fun h => ?_) (fun h => ?_)
              · exact FS h (fr_rf)
              · refine FI h (fun h => ?_) (fun h => ?_)
                · refine FI h (fun h => ?_) (fun h => ?_)
                  · exact FS h (fr_rf)
                  · exact FS h (fr_rf)
                · refine FI h (fun h => ?_) (fun h => ?_)
                  · exact FS h (fr_rf)
                  · refine FI h (fun h => ?_) (fun h => ?_)
                    · exact FS h (fr_rf)
                    · exact FS h (fr_rf)
theorem cG_addOp_fr (l1 : Int32) (l2 : Int32) (s : ts) (r : Int32 × ts) (h : cG_addOp l1 l2 s = some r) : fr wf_cG_addOp s r.2 := by
  unfold cG_addOp at h
  refine FI h (fun h => ?_) (fun h => ?_)
  · replace h := FG h
    replace h := FG h
    exact FS h (fr_wI (fr_wA (fr_wA (fr_rf) rfl) rfl) rfl)
  · exact FS h (fr_rf)
theorem cG_findPlace_46_fr (k3 : Int64 → Int32 → Int32 → Int32 → ts → Option (Int32 × ts)) (hk3 : ∀ (a0 : Int64) (a1 : Int32) (a2 : Int32) (a3 : Int32) (s : ts) (r : Int32 × ts), k3 a0 a1 a2 a3 s = some r → fr wf_cG_findPlace s r.2) (l1 : Int64) (l3 : Int32) (l4 : Int32) (l5 : Int32) (s : ts) (r : Int32 × ts) (h : cG_findPlace_46 k3 l1 l3 l4 l5 s = some r) : fr wf_cG_findPlace s r.2 := by
  unfold cG_findPlace_46 at h
  replace h := FG h
  refine FI h (fun h => ?_) (fun h => ?_)
  · refine FI h (fun h => ?_) (fun h => ?_)
    · refine FI h (fun h => ?_) (fun h => ?_)
      · exact fr_tr (fr_rf) (hk3 l1 l3 l4 (l5 + (1 : Int32)) _ _ h)
      · exact FS h (fr_rf)
    · exact fr_tr (fr_rf) (hk3 l1 l3 l4 (l5 + (1 : Int32)) _ _ h)
  · exact fr_tr (fr_rf) (hk3 l1 l3 l4 (l5 + (1 : Int32)) _ _ h)
theorem cG_findPlace_3_b_fr (kk : Int64 → Int32 → Int32 → Int32 → ts → Option (Int32 × ts)) (hkk : ∀ (a0 : Int64) (a1 : Int32) (a2 : Int32) (a3 : Int32) (s : ts) (r : Int32 × ts), kk a0 a1 a2 a3 s = some r → fr wf_cG_findPlace s r.2) (l1 : Int64) (l3 : Int32) (l4 : Int32) (l5 : Int32) (s : ts) (r : Int32 × ts) (h : cG_findPlace_3_b kk l1 l3 l4 l5 s = some r) : fr wf_cG_findPlace s r.2 := by
  unfold cG_findPlace_3_b at h
  refine FI h (fun h => ?_) (fun h => ?_)
  · exact FS h (fr_rf)
  · replace h := FG h
    refine FI h (fun h => ?_) (fun h => ?_)
    · refine FI h (fun h => ?_) (fun h => ?_)
      · refine FI h (fun h => ?_) (fun h => ?_)
        · exact fr_tr (fr_rf) (cG_findPlace_46_fr kk hkk l1 l3 l4 l5 _ _ h)
        · exact FS h (fr_rf)
      · exact fr_tr (fr_rf) (cG_findPlace_46_fr kk hkk l1 l3 l4 l5 _ _ h)
    · exact fr_tr (fr_rf) (cG_findPlace_46_fr kk hkk l1 l3 l4 l5 _ _ h)
theorem cG_findPlace_3_fr : ∀ (n : Nat) (l1 : Int64) (l3 : Int32) (l4 : Int32) (l5 : Int32) (s : ts) (r : Int32 × ts), cG_findPlace_3 n l1 l3 l4 l5 s = some r → fr wf_cG_findPlace s r.2 := by
  intro n
  induction n with
  | zero => intro l1 l3 l4 l5 s r h; exact FN h
  | succ n ih =>
    intro l1 l3 l4 l5 s r h
    rw [cG_findPlace_3.eq_2] at h
    exact cG_findPlace_3_b_fr (cG_findPlace_3 n) ih l1 l3 l4 l5 s r h
theorem cG_findPlace_fr (l1 : Int64) (l3 : Int32) (l4 : Int32) (s : ts) (r : Int32 × ts) (h : cG_findPlace l1 l3 l4 s = some r) : fr wf_cG_findPlace s r.2 := by
  unfold cG_findPlace at h
  exact fr_tr (fr_rf) (cG_findPlace_3_fr tm_N l1 l3 l4 ((0 : Int32)) _ _ h)
theorem cF_readLook_fr (l1 : Int32) (s : ts) (r : Int32 × ts) (h : cF_readLook l1 s = some r) : fr wf_cF_readLook s r.2 := by
  unfold cF_readLook at h
  obtain ⟨x3, hx3, h⟩ := FB h
  have f1 := fr_tr (W := wf_cF_readLook) (fr_rf) (fr_mono (by decide +kernel) (cT_isAnyWord_fr _ _ hx3))
  refine FI h (fun h => ?_) (fun h => ?_)
  · obtain ⟨x22, hx22, h⟩ := FB h
    have f2 := fr_tr (W := wf_cF_readLook) (f1) (fr_mono (by decide +kernel) (cT_fail_fr ((2 : Int32)) _ _ hx22))
    exact FS h (f2)
  · obtain ⟨x6, hx6, h⟩ := FB h
    have f3 := fr_tr (W := wf_cF_readLook) (f1) (fr_mono (by decide +kernel) (cT_word_fr _ _ hx6))
    obtain ⟨x9, hx9, h⟩ := FB h
    have f4 := fr_tr (W := wf_cF_readLook) (f3) (fr_mono (by decide +kernel) (cG_findPlace_fr x6.1 ((1 : Int32)) ((1 : Int32)) _ _ hx9))
    refine FI h (fun h => ?_) (fun h => ?_)
    · obtain ⟨x18, hx18, h⟩ := FB h
      have f5 := fr_tr (W := wf_cF_readLook) (f4) (fr_mono (by decide +kernel) (cT_fail_fr ((4 : Int32)) _ _ hx18))
      exact FS h (f5)
    · obtain ⟨x12, hx12, h⟩ := FB h
      have f6 := fr_tr (W := wf_cF_readLook) (f4) (fr_mono (by decide +kernel) (cG_addOp_fr l1 x9.1 _ _ hx12))
      obtain ⟨s14, hs14, h⟩ := FB h
      have f7 := fr_tr (W := wf_cF_readLook) (f6) (fr_mono (by decide +kernel) (cT_advance_fr _ _ hs14))
      exact FS h (f7)
theorem cF_readInner_fr (rc : Nat → Int32 → ts → Option (Int32 × ts)) (hrc : ∀ (a0 : Nat) (a1 : Int32) (s : ts) (r : Int32 × ts), rc a0 a1 s = some r → fr wf_clF s r.2) (l1 : Int32) (s : ts) (r : Int32 × ts) (h : cF_readInner rc l1 s = some r) : fr wf_cF_readInner s r.2 := by
  unfold cF_readInner at h
  obtain ⟨x3, hx3, h⟩ := FB h
  have f1 := fr_tr (W := wf_cF_readInner) (fr_rf) (hrc 0 l1 _ _ hx3)
  refine FI h (fun h => ?_) (fun h => ?_)
  · exact FS h (f1)
  · obtain ⟨x6, hx6, h⟩ := FB h
    have f2 := fr_tr (W := wf_cF_readInner) (f1) (fr_mono (by decide +kernel) (cT_need_fr ((41 : Int32)) _ _ hx6))
    refine FI h (fun h => ?_) (fun h => ?_)
    · exact FS h (f2)
    · exact FS h (f2)
theorem cF_addRead_fr (l1 : Int32) (s : ts) (r : Int32 × ts) (h : cF_addRead l1 s = some r) : fr wf_cF_addRead s r.2 := by
  unfold cF_addRead at h
  obtain ⟨x3, hx3, h⟩ := FB h
  have f1 := fr_tr (W := wf_cF_addRead) (fr_rf) (fr_mono (by decide +kernel) (cG_addOp_fr l1 ((0 : Int32)) _ _ hx3))
  exact FS h (f1)
theorem cF_readOne_17_fr (rc : Nat → Int32 → ts → Option (Int32 × ts)) (hrc : ∀ (a0 : Nat) (a1 : Int32) (s : ts) (r : Int32 × ts), rc a0 a1 s = some r → fr wf_clF s r.2) (l1 : Int32) (l2 : Int32) (s : ts) (r : Int32 × ts) (h : cF_readOne_17 rc l1 l2 s = some r) : fr wf_cF_readOne s r.2 := by
  unfold cF_readOne_17 at h
  refine FI h (fun h => ?_) (fun h => ?_)
  · obtain ⟨x3, hx3, h⟩ := FB h
    have f1 := fr_tr (W := wf_cF_readOne) (fr_rf) (fr_mono (by decide +kernel) (cT_word_fr _ _ hx3))
    obtain ⟨s5, hs5, h⟩ := FB h
    have f2 := fr_tr (W := wf_cF_readOne) (f1) (fr_mono (by decide +kernel) (cT_advance_fr _ _ hs5))
    refine FI h (fun h => ?_) (fun h => ?_)
    · obtain ⟨x9, hx9, h⟩ := FB h
      have f3 := fr_tr (W := wf_cF_readOne) (f2) (fr_mono (by decide +kernel) (cG_findValue_fr x3.1 _ _ hx9))
      obtain ⟨x12, hx12, h⟩ := FB h
      have f4 := fr_tr (W := wf_cF_readOne) (f3) (fr_mono (by decide +kernel) (cG_addOp_fr ((2 : Int32)) x9.1 _ _ hx12))
      exact FS h (f4)
    · refine FI h (fun h => ?_) (fun h => ?_)
      · obtain ⟨x16, hx16, h⟩ := FB h
        have f5 := fr_tr (W := wf_cF_readOne) (f2) (fr_mono (by decide +kernel) (cG_addOp_fr ((1 : Int32)) x3.1.toInt32 _ _ hx16))
        exact FS h (f5)
      · refine FI h (fun h => ?_) (fun h => ?_)
        · obtain ⟨x20, hx20, h⟩ := FB h
          have f6 := fr_tr (W := wf_cF_readOne) (f2) (hrc 4 (l1 + ((1 : Int32))) _ _ hx20)
          exact FS h (f6)
        · refine FI h (fun h => ?_) (fun h => ?_)
          · obtain ⟨x24, hx24, h⟩ := FB h
            have f7 := fr_tr (W := wf_cF_readOne) (f2) (hrc 3 (l1 + ((1 : Int32))) _ _ hx24)
            refine FI h (fun h => ?_) (fun h => ?_)
            · exact FS h (f7)
            · obtain ⟨x27, hx27, h⟩ := FB h
              have f8 := fr_tr (W := wf_cF_readOne) (f7) (fr_mono (by decide +kernel) (cF_addRead_fr ((3 : Int32)) _ _ hx27))
              refine FI h (fun h => ?_) (fun h => ?_)
              · exact FS h (f8)
              · exact FS h (f8)
          · refine FI h (fun h => ?_) (fun h => ?_)
            · obtain ⟨x33, hx33, h⟩ := FB h
              have f9 := fr_tr (W := wf_cF_readOne) (f2) (fr_mono (by decide +kernel) (cG_addOp_fr (gI s 107 0) ((0 : Int32)) _ _ hx33))
              exact FS h (f9)
            · refine FI h (fun h => ?_) (fun h => ?_)
              · obtain ⟨x37, hx37, h⟩ := FB h
                have f10 := fr_tr (W := wf_cF_readOne) (f2) (fr_mono (by decide +kernel) (cG_addOp_fr (gI s 107 0) ((0 : Int32)) _ _ hx37))
                exact FS h (f10)
              · refine FI h (fun h => ?_) (fun h => ?_)
                · obtain ⟨x41, hx41, h⟩ := FB h
                  have f11 := fr_tr (W := wf_cF_readOne) (f2) (fr_mono (by decide +kernel) (cT_need_fr ((40 : Int32)) _ _ hx41))
                  refine FI h (fun h => ?_) (fun h => ?_)
                  · exact FS h (f11)
                  · obtain ⟨x44, hx44, h⟩ := FB h
                    have f12 := fr_tr (W := wf_cF_readOne) (f11) (hrc 4 (l1 + ((1 : Int32))) _ _ hx44)
                    refine FI h (fun h => ?_) (fun h => ?_)
                    · exact FS h (f12)
                    · obtain ⟨x47, hx47, h⟩ := FB h
                      have f13 := fr_tr (W := wf_cF_readOne) (f12) (fr_mono (by decide +kernel) (cF_addRead_fr ((533 : Int32)) _ _ hx47))
                      refine FI h (fun h => ?_) (fun h => ?_)
                      · exact FS h (f13)
                      · exact FS h (f13)
                · refine FI h (fun h => ?_) (fun h => ?_)
                  · obtain ⟨x54, hx54, h⟩ := FB h
                    have f14 := fr_tr (W := wf_cF_readOne) (f2) (fr_mono (by decide +kernel) (cF_readLook_fr (gI s 107 0) _ _ hx54))
                    exact FS h (f14)
                  · refine FI h (fun h => ?_) (fun h => ?_)
                    · obtain ⟨x58, hx58, h⟩ := FB h
                      have f15 := fr_tr (W := wf_cF_readOne) (f2) (fr_mono (by decide +kernel) (cF_readLook_fr (gI s 107 0) _ _ hx58))
                      exact FS h (f15)
                    · obtain ⟨x62, hx62, h⟩ := FB h
                      have f16 := fr_tr (W := wf_cF_readOne) (f2) (hrc 3 (l1 + ((1 : Int32))) _ _ hx62)
                      refine FI h (fun h => ?_) (fun h => ?_)
                      · exact FS h (f16)
                      · obtain ⟨x65, hx65, h⟩ := FB h
                        have f17 := fr_tr (W := wf_cF_readOne) (f16) (fr_mono (by decide +kernel) (cF_addRead_fr ((33 : Int32)) _ _ hx65))
                        refine FI h (fun h => ?_) (fun h => ?_)
                        · exact FS h (f17)
                        · exact FS h (f17)
  · obtain ⟨x70, hx70, h⟩ := FB h
    have f18 := fr_tr (W := wf_cF_readOne) (fr_rf) (fr_mono (by decide +kernel) (cT_fail_fr l2 _ _ hx70))
    exact FS h (f18)
