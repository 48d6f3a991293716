/-! WHAT A FUNCTION MAY WRITE: printed by wip/tools/frames.py. -/
theorem cF_readOne_fr (rc : Nat → Int32 → ts → Option (Int32 × ts)) (hrc : ∀ (a0 : Nat) (a1 : Int32) (s : ts) (r : Int32 × ts), rc a0 a1 s = some r → fr wf_clF s r.2) (l1 : Int32) (s : ts) (r : Int32 × ts) (h : cF_readOne rc l1 s = some r) : fr wf_cF_readOne s r.2 := by
  unfold cF_readOne at h
  obtain ⟨x3, hx3, h⟩ := FB h
  have f1 := fr_tr (W := wf_cF_readOne) (fr_rf) (fr_mono (by decide +kernel) (cF_faultOfOne_fr _ _ hx3))
  refine FI h (fun h => ?_) (fun h => ?_)
  · refine FI h (fun h => ?_) (fun h => ?_)
    · exact fr_tr (f1) (cF_readOne_17_fr rc hrc l1 x3.1 _ _ h)
    · exact fr_tr (f1) (cF_readOne_17_fr rc hrc l1 ((5 : Int32)) _ _ h)
  · exact fr_tr (f1) (cF_readOne_17_fr rc hrc l1 x3.1 _ _ h)
theorem cF_addSign_fr (l1 : Int32) (s : ts) (r : ts) (h : cF_addSign l1 s = some r) : fr wf_cF_addSign s r := by
  unfold cF_addSign at h
  refine FI h (fun h => ?_) (fun h => ?_)
  · exact FV h (fr_rf)
  · obtain ⟨x3, hx3, h⟩ := FB h
    have f1 := fr_tr (W := wf_cF_addSign) (fr_rf) (fr_mono (by decide +kernel) (cG_addOp_fr l1 ((0 : Int32)) _ _ hx3))
    exact FV h (f1)
theorem cF_readSum_95_fr (rc : Nat → Int32 → ts → Option (Int32 × ts)) (k9 : Int32 → Int32 → Int32 → Int32 → ts → Option (Int32 × ts)) (hrc : ∀ (a0 : Nat) (a1 : Int32) (s : ts) (r : Int32 × ts), rc a0 a1 s = some r → fr wf_clF s r.2) (hk9 : ∀ (a0 : Int32) (a1 : Int32) (a2 : Int32) (a3 : Int32) (s : ts) (r : Int32 × ts), k9 a0 a1 a2 a3 s = some r → fr wf_cF_readSum s r.2) (l1 : Int32) (l2 : Int32) (l3 : Int32) (l4 : Int32) (s : ts) (r : Int32 × ts) (h : cF_readSum_95 rc k9 l1 l2 l3 l4 s = some r) : fr wf_cF_readSum s r.2 := by
  unfold cF_readSum_95 at h
  obtain ⟨s2, hs2, h⟩ := FB h
  have f1 := fr_tr (W := wf_cF_readSum) (fr_rf) (fr_mono (by decide +kernel) (cT_advance_fr _ _ hs2))
  exact fr_tr (f1) (hk9 l1 l2 l3 (l4 + (1 : Int32)) _ _ h)
theorem cF_readSum_9_b_fr (rc : Nat → Int32 → ts → Option (Int32 × ts)) (kk : Int32 → Int32 → Int32 → Int32 → ts → Option (Int32 × ts)) (hrc : ∀ (a0 : Nat) (a1 : Int32) (s : ts) (r : Int32 × ts), rc a0 a1 s = some r → fr wf_clF s r.2) (hkk : ∀ (a0 : Int32) (a1 : Int32) (a2 : Int32) (a3 : Int32) (s : ts) (r : Int32 × ts), kk a0 a1 a2 a3 s = some r → fr wf_cF_readSum s r.2) (l1 : Int32) (l2 : Int32) (l3 : Int32) (l4 : Int32) (s : ts) (r : Int32 × ts) (h : cF_readSum_9_b rc kk l1 l2 l3 l4 s = some r) : fr wf_cF_readSum s r.2 := by
  unfold cF_readSum_9_b at h
  refine FI h (fun h => ?_) (fun h => ?_)
  · exact FS h (fr_rf)
  · obtain ⟨x3, hx3, h⟩ := FB h
    have f1 := fr_tr (W := wf_cF_readSum) (fr_rf) (hrc 3 l1 _ _ hx3)
    refine FI h (fun h => ?_) (fun h => ?_)
    · exact FS h (f1)
    · obtain ⟨s5, hs5, h⟩ := FB h
      have f2 := fr_tr (W := wf_cF_readSum) (f1) (fr_mono (by decide +kernel) (cF_addSign_fr l3 _ _ hs5))
      refine FI h (fun h => ?_) (fun h => ?_)
      · exact fr_tr (f2) (cF_readSum_95_fr rc kk hrc hkk l1 l2 (gI s5 107 0) l4 _ _ h)
      · refine FI h (fun h => ?_) (fun h => ?_)
        · exact fr_tr (f2) (cF_readSum_95_fr rc kk hrc hkk l1 l2 (gI s5 107 0) l4 _ _ h)
        · refine FI h (fun h => ?_) (fun h => ?_)
          · exact fr_tr (f2) (cF_readSum_95_fr rc kk hrc hkk l1 l2 (gI s5 107 0) l4 _ _ h)
          · obtain ⟨s8, hs8, h⟩ := FB h
            have f3 := fr_tr (W := wf_cF_readSum) (f2) (fr_mono (by decide +kernel) (cF_addSign_fr l2 _ _ hs8))
            refine FI h (fun h => ?_) (fun h => ?_)
            · exact fr_tr (f3) (cF_readSum_95_fr rc kk hrc hkk l1 (gI s5 107 0) ((-2 : Int32)) l4 _ _ h)
            · refine FI h (fun h => ?_) (fun h => ?_)
              · exact fr_tr (f3) (cF_readSum_95_fr rc kk hrc hkk l1 (gI s5 107 0) ((-2 : Int32)) l4 _ _ h)
              · exact FS h (f3)
theorem cF_readSum_9_fr (rc : Nat → Int32 → ts → Option (Int32 × ts)) (hrc : ∀ (a0 : Nat) (a1 : Int32) (s : ts) (r : Int32 × ts), rc a0 a1 s = some r → fr wf_clF s r.2) : ∀ (n : Nat) (l1 : Int32) (l2 : Int32) (l3 : Int32) (l4 : Int32) (s : ts) (r : Int32 × ts), cF_readSum_9 rc n l1 l2 l3 l4 s = some r → fr wf_cF_readSum s r.2 := by
  intro n
  induction n with
  | zero => intro l1 l2 l3 l4 s r h; exact FN h
  | succ n ih =>
    intro l1 l2 l3 l4 s r h
    rw [cF_readSum_9.eq_2] at h
    exact cF_readSum_9_b_fr rc (cF_readSum_9 rc n) hrc ih l1 l2 l3 l4 s r h
theorem cF_readSum_fr (rc : Nat → Int32 → ts → Option (Int32 × ts)) (hrc : ∀ (a0 : Nat) (a1 : Int32) (s : ts) (r : Int32 × ts), rc a0 a1 s = some r → fr wf_clF s r.2) (l1 : Int32) (s : ts) (r : Int32 × ts) (h : cF_readSum rc l1 s = some r) : fr wf_cF_readSum s r.2 := by
  unfold cF_readSum at h
  exact fr_tr (fr_rf) (cF_readSum_9_fr rc hrc tm_N l1 ((-2 : Int32)) ((-2 : Int32)) ((0 : Int32)) _ _ h)
theorem cF_isRelation_fr (l0 : Int32) (s : ts) (r : Int32 × ts) (h : cF_isRelation l0 s = some r) : fr wf_cF_isRelation s r.2 := by
  unfold cF_isRelation at h
  refine FI h (fun h => ?_) (fun h => ?_)
  · exact FS h (fr_rf)
  · refine FI h (fun h => ?_) (fun h => ?_)
    · exact FS h (fr_rf)
    · refine FI h (fun h => ?_) (fun h => ?_)
      · exact FS h (fr_rf)
      · refine FI h (fun h => ?_) (fun h => ?_)
        · exact FS h (fr_rf)
        · refine FI h (fun h => ?_) (fun h => ?_)
          · exact FS h (fr_rf)
          · refine FI h (fun h => ?_) (fun h => ?_)
            · exact FS h (fr_rf)
            · exact FS h (fr_rf)
theorem cF_readTest_fr (rc : Nat → Int32 → ts → Option (Int32 × ts)) (hrc : ∀ (a0 : Nat) (a1 : Int32) (s : ts) (r : Int32 × ts), rc a0 a1 s = some r → fr wf_clF s r.2) (l1 : Int32) (s : ts) (r : Int32 × ts) (h : cF_readTest rc l1 s = some r) : fr wf_cF_readTest s r.2 := by
  unfold cF_readTest at h
  obtain ⟨x3, hx3, h⟩ := FB h
  have f1 := fr_tr (W := wf_cF_readTest) (fr_rf) (hrc 2 l1 _ _ hx3)
  refine FI h (fun h => ?_) (fun h => ?_)
  · exact FS h (f1)
  · obtain ⟨x6, hx6, h⟩ := FB h
    have f2 := fr_tr (W := wf_cF_readTest) (f1) (fr_mono (by decide +kernel) (cF_isRelation_fr (gI x3.2 107 0) _ _ hx6))
    refine FI h (fun h => ?_) (fun h => ?_)
    · exact FS h (f2)
    · obtain ⟨s8, hs8, h⟩ := FB h
      have f3 := fr_tr (W := wf_cF_readTest) (f2) (fr_mono (by decide +kernel) (cT_advance_fr _ _ hs8))
      obtain ⟨x12, hx12, h⟩ := FB h
      have f4 := fr_tr (W := wf_cF_readTest) (f3) (hrc 2 l1 _ _ hx12)
      refine FI h (fun h => ?_) (fun h => ?_)
      · exact FS h (f4)
      · obtain ⟨x15, hx15, h⟩ := FB h
        have f5 := fr_tr (W := wf_cF_readTest) (f4) (fr_mono (by decide +kernel) (cG_addOp_fr (gI x3.2 107 0) ((0 : Int32)) _ _ hx15))
        exact FS h (f5)
theorem cG_closeSkip_fr (l1 : Int32) (s : ts) (r : ts) (h : cG_closeSkip l1 s = some r) : fr wf_cG_closeSkip s r := by
  unfold cG_closeSkip at h
  refine FI h (fun h => ?_) (fun h => ?_)
  · exact FV h (fr_rf)
  · refine FI h (fun h => ?_) (fun h => ?_)
    · exact FV h (fr_rf)
    · obtain ⟨x3, hx3, h⟩ := FB h
      have f1 := fr_tr (W := wf_cG_closeSkip) (fr_rf) (fr_mono (by decide +kernel) (cG_addOp_fr ((4 : Int32)) ((0 : Int32)) _ _ hx3))
      replace h := FG h
      exact FV h (fr_wA (f1) rfl)
theorem cF_readExp_101_fr (rc : Nat → Int32 → ts → Option (Int32 × ts)) (k9 : Int32 → Int32 → Int32 → Int32 → ts → Option (Int32 × ts)) (hrc : ∀ (a0 : Nat) (a1 : Int32) (s : ts) (r : Int32 × ts), rc a0 a1 s = some r → fr wf_clF s r.2) (hk9 : ∀ (a0 : Int32) (a1 : Int32) (a2 : Int32) (a3 : Int32) (s : ts) (r : Int32 × ts), k9 a0 a1 a2 a3 s = some r → fr wf_cF_readExp s r.2) (l1 : Int32) (l2 : Int32) (l3 : Int32) (l4 : Int32) (s : ts) (r : Int32 × ts) (h : cF_readExp_101 rc k9 l1 l2 l3 l4 s = some r) : fr wf_cF_readExp s r.2 := by
  unfold cF_readExp_101 at h
  obtain ⟨s2, hs2, h⟩ := FB h
  have f1 := fr_tr (W := wf_cF_readExp) (fr_rf) (fr_mono (by decide +kernel) (cT_advance_fr _ _ hs2))
  exact fr_tr (f1) (hk9 l1 l2 l3 (l4 + (1 : Int32)) _ _ h)
theorem cF_readExp_9_b_fr (rc : Nat → Int32 → ts → Option (Int32 × ts)) (kk : Int32 → Int32 → Int32 → Int32 → ts → Option (Int32 × ts)) (hrc : ∀ (a0 : Nat) (a1 : Int32) (s : ts) (r : Int32 × ts), rc a0 a1 s = some r → fr wf_clF s r.2) (hkk : ∀ (a0 : Int32) (a1 : Int32) (a2 : Int32) (a3 : Int32) (s : ts) (r : Int32 × ts), kk a0 a1 a2 a3 s = some r → fr wf_cF_readExp s r.2) (l1 : Int32) (l2 : Int32) (l3 : Int32) (l4 : Int32) (s : ts) (r : Int32 × ts) (h : cF_readExp_9_b rc kk l1 l2 l3 l4 s = some r) : fr wf_cF_readExp s r.2 := by
  unfold cF_readExp_9_b at h
  refine FI h (fun h => ?_) (fun h => ?_)
  · exact FS h (fr_rf)
  · obtain ⟨x3, hx3, h⟩ := FB h
    have f1 := fr_tr (W := wf_cF_readExp) (fr_rf) (hrc 1 l1 _ _ hx3)
    refine FI h (fun h => ?_) (fun h => ?_)
    · exact FS h (f1)
    · obtain ⟨s5, hs5, h⟩ := FB h
      have f2 := fr_tr (W := wf_cF_readExp) (f1) (fr_mono (by decide +kernel) (cG_closeSkip_fr l3 _ _ hs5))
      refine FI h (fun h => ?_) (fun h => ?_)
      · obtain ⟨x16, hx16, h⟩ := FB h
        have f3 := fr_tr (W := wf_cF_readExp) (f2) (fr_mono (by decide +kernel) (cG_addOp_fr ((294 : Int32)) ((0 : Int32)) _ _ hx16))
        exact fr_tr (f3) (cF_readExp_101_fr rc kk hrc hkk l1 l2 x16.1 l4 _ _ h)
      · obtain ⟨s8, hs8, h⟩ := FB h
        have f4 := fr_tr (W := wf_cF_readExp) (f2) (fr_mono (by decide +kernel) (cG_closeSkip_fr l2 _ _ hs8))
        refine FI h (fun h => ?_) (fun h => ?_)
        · obtain ⟨x12, hx12, h⟩ := FB h
          have f5 := fr_tr (W := wf_cF_readExp) (f4) (fr_mono (by decide +kernel) (cG_addOp_fr ((380 : Int32)) ((0 : Int32)) _ _ hx12))
          exact fr_tr (f5) (cF_readExp_101_fr rc kk hrc hkk l1 x12.1 ((-2 : Int32)) l4 _ _ h)
        · exact FS h (f4)
theorem cF_readExp_9_fr (rc : Nat → Int32 → ts → Option (Int32 × ts)) (hrc : ∀ (a0 : Nat) (a1 : Int32) (s : ts) (r : Int32 × ts), rc a0 a1 s = some r → fr wf_clF s r.2) : ∀ (n : Nat) (l1 : Int32) (l2 : Int32) (l3 : Int32) (l4 : Int32) (s : ts) (r : Int32 × ts), cF_readExp_9 rc n l1 l2 l3 l4 s = some r → fr wf_cF_readExp s r.2 := by
  intro n
  induction n with
  | zero => intro l1 l2 l3 l4 s r h; exact FN h
  | succ n ih =>
    intro l1 l2 l3 l4 s r h
    rw [cF_readExp_9.eq_2] at h
    exact cF_readExp_9_b_fr rc (cF_readExp_9 rc n) hrc ih l1 l2 l3 l4 s r h
theorem cF_readExp_fr (rc : Nat → Int32 → ts → Option (Int32 × ts)) (hrc : ∀ (a0 : Nat) (a1 : Int32) (s : ts) (r : Int32 × ts), rc a0 a1 s = some r → fr wf_clF s r.2) (l1 : Int32) (s : ts) (r : Int32 × ts) (h : cF_readExp rc l1 s = some r) : fr wf_cF_readExp s r.2 := by
  unfold cF_readExp at h
  exact fr_tr (fr_rf) (cF_readExp_9_fr rc hrc tm_N l1 ((-2 : Int32)) ((-2 : Int32)) ((0 : Int32)) _ _ h)
theorem clF_fr : ∀ (n w : Nat) (a : Int32) (s : ts) (r : Int32 × ts), clF n w a s = some r → fr wf_clF s r.2 := by
  intro n
  induction n with
  | zero => intro w a s r h; exact FN h
  | succ n ih =>
    intro w a s r h
    rw [clF.eq_2] at h
    refine FI h (fun h => ?_) (fun h => ?_)
    · exact fr_mono (by decide +kernel) (cF_readExp_fr (clF n) ih a s r h)
    refine FI h (fun h => ?_) (fun h => ?_)
    · exact fr_mono (by decide +kernel) (cF_readTest_fr (clF n) ih a s r h)
    refine FI h (fun h => ?_) (fun h => ?_)
    · exact fr_mono (by decide +kernel) (cF_readSum_fr (clF n) ih a s r h)
    refine FI h (fun h => ?_) (fun h => ?_)
    · exact fr_mono (by decide +kernel) (cF_readOne_fr (clF n) ih a s r h)
    refine FI h (fun h => ?_) (fun h => ?_)
    · exact fr_mono (by decide +kernel) (cF_readInner_fr (clF n) ih a s r h)
    exact FN h
theorem cG_addAct_fr (l1 : Int32) (l2 : Int32) (l3 : Int32) (s : ts) (r : Int32 × ts) (h : cG_addAct l1 l2 l3 s = some r) : fr wf_cG_addAct s r.2 := by
  unfold cG_addAct at h
  refine FI h (fun h => ?_) (fun h => ?_)
  · replace h := FG h
    replace h := FG h
    replace h := FG h
    replace h := FG h
    exact FS h (fr_wI (fr_wA (fr_wA (fr_wA (fr_wA (fr_rf) rfl) rfl) rfl) rfl) rfl)
  · exact FS h (fr_rf)
theorem cD_closeStatement_fr (l1 : Int32) (l2 : Int32) (l3 : Int32) (s : ts) (r : Int32 × ts) (h : cD_closeStatement l1 l2 l3 s = some r) : fr wf_cD_closeStatement s r.2 := by
  unfold cD_closeStatement at h
  obtain ⟨x3, hx3, h⟩ := FB h
  have f1 := fr_tr (W := wf_cD_closeStatement) (fr_rf) (fr_mono (by decide +kernel) (cG_addAct_fr l1 l2 l3 _ _ hx3))
  obtain ⟨x6, hx6, h⟩ := FB h
  have f2 := fr_tr (W := wf_cD_closeStatement) (f1) (fr_mono (by decide +kernel) (cT_need_fr ((59 : Int32)) _ _ hx6))
  exact FS h (f2)
theorem cD_readPlain_24_fr (l1 : Int32) (l2 : Int32) (l3 : Int32) (t1 : Int32) (s : ts) (r : Int32 × ts) (h : cD_readPlain_24 l1 l2 l3 t1 s = some r) : fr wf_cD_readPlain s r.2 := by
  unfold cD_readPlain_24 at h
  replace h := FG h
  obtain ⟨x4, hx4, h⟩ := FB h
  have f1 := fr_tr (W := wf_cD_readPlain) (fr_wI (fr_rf) rfl) (fr_mono (by decide +kernel) (clF_fr 200 0 ((0 : Int32)) _ _ hx4))
  refine FI h (fun h => ?_) (fun h => ?_)
  · exact FS h (fr_wI (f1) rfl)
  · obtain ⟨x7, hx7, h⟩ := FB h
    have f2 := fr_tr (W := wf_cD_readPlain) (fr_wI (f1) rfl) (fr_mono (by decide +kernel) (cD_closeStatement_fr l1 l2 l3 _ _ hx7))
    refine FI h (fun h => ?_) (fun h => ?_)
    · exact FS h (f2)
    · exact FS h (f2)
theorem cD_readPlain_fr (l1 : Int32) (l2 : Int32) (s : ts) (r : Int32 × ts) (h : cD_readPlain l1 l2 s = some r) : fr wf_cD_readPlain s r.2 := by
  unfold cD_readPlain at h
  refine FI h (fun h => ?_) (fun h => ?_)
  · exact fr_tr (fr_rf) (cD_readPlain_24_fr l1 l2 (gI s 217 0) ((1 : Int32)) _ _ h)
  · exact fr_tr (fr_rf) (cD_readPlain_24_fr l1 l2 (gI s 217 0) ((0 : Int32)) _ _ h)
theorem cG_aim_fr (l1 : Int32) (l2 : Int32) (s : ts) (r : ts) (h : cG_aim l1 l2 s = some r) : fr wf_cG_aim s r := by
  unfold cG_aim at h
  refine FI h (fun h => ?_) (fun h => ?_)
  · exact FV h (fr_rf)
  · refine FI h (fun h => ?_) (fun h => ?_)
    · exact FV h (fr_rf)
    · replace h := FG h
      exact FV h (fr_wA (fr_rf) rfl)
theorem cD_readIf_fr (rc : Nat → Int32 → ts → Option (Int32 × ts)) (hrc : ∀ (a0 : Nat) (a1 : Int32) (s : ts) (r : Int32 × ts), rc a0 a1 s = some r → fr wf_clT s r.2) (l1 : Int32) (s : ts) (r : Int32 × ts) (h : cD_readIf rc l1 s = some r) : fr wf_cD_readIf s r.2 := by
  unfold cD_readIf at h
  obtain ⟨x3, hx3, h⟩ := FB h
  have f1 := fr_tr (W := wf_cD_readIf) (fr_rf) (fr_mono (by decide +kernel) (clF_fr 200 0 ((0 : Int32)) _ _ hx3))
  refine FI h (fun h => ?_) (fun h => ?_)
  · exact FS h (f1)
  · obtain ⟨x6, hx6, h⟩ := FB h
    have f2 := fr_tr (W := wf_cD_readIf) (f1) (fr_mono (by decide +kernel) (cG_addAct_fr ((517 : Int32)) ((-2 : Int32)) (gI s 217 0) _ _ hx6))
    obtain ⟨x9, hx9, h⟩ := FB h
    have f3 := fr_tr (W := wf_cD_readIf) (f2) (hrc 0 (l1 + ((1 : Int32))) _ _ hx9)
    refine FI h (fun h => ?_) (fun h => ?_)
    · exact FS h (f3)
    · refine FI h (fun h => ?_) (fun h => ?_)
      · obtain ⟨s11, hs11, h⟩ := FB h
        have f4 := fr_tr (W := wf_cD_readIf) (f3) (fr_mono (by decide +kernel) (cT_advance_fr _ _ hs11))
        obtain ⟨x15, hx15, h⟩ := FB h
        have f5 := fr_tr (W := wf_cD_readIf) (f4) (fr_mono (by decide +kernel) (cG_addAct_fr ((2 : Int32)) ((-2 : Int32)) (gI s11 217 0) _ _ hx15))
        obtain ⟨s17, hs17, h⟩ := FB h
        have f6 := fr_tr (W := wf_cD_readIf) (f5) (fr_mono (by decide +kernel) (cG_aim_fr x6.1 (gI x15.2 214 0) _ _ hs17))
        obtain ⟨x21, hx21, h⟩ := FB h
        have f7 := fr_tr (W := wf_cD_readIf) (f6) (hrc 0 (l1 + ((1 : Int32))) _ _ hx21)
        refine FI h (fun h => ?_) (fun h => ?_)
        · exact FS h (f7)
        · obtain ⟨s23, hs23, h⟩ := FB h
          have f8 := fr_tr (W := wf_cD_readIf) (f7) (fr_mono (by decide +kernel) (cG_aim_fr x15.1 (gI x21.2 214 0) _ _ hs23))
          exact FS h (f8)
      · obtain ⟨s27, hs27, h⟩ := FB h
        have f9 := fr_tr (W := wf_cD_readIf) (f3) (fr_mono (by decide +kernel) (cG_aim_fr x6.1 (gI x9.2 214 0) _ _ hs27))
        exact FS h (f9)
theorem cD_readWhile_fr (rc : Nat → Int32 → ts → Option (Int32 × ts)) (hrc : ∀ (a0 : Nat) (a1 : Int32) (s : ts) (r : Int32 × ts), rc a0 a1 s = some r → fr wf_clT s r.2) (l1 : Int32) (s : ts) (r : Int32 × ts) (h : cD_readWhile rc l1 s = some r) : fr wf_cD_readWhile s r.2 := by
  unfold cD_readWhile at h
  obtain ⟨x3, hx3, h⟩ := FB h
  have f1 := fr_tr (W := wf_cD_readWhile) (fr_rf) (fr_mono (by decide +kernel) (clF_fr 200 0 ((0 : Int32)) _ _ hx3))
  refine FI h (fun h => ?_) (fun h => ?_)
  · exact FS h (f1)
  · obtain ⟨x6, hx6, h⟩ := FB h
    have f2 := fr_tr (W := wf_cD_readWhile) (f1) (fr_mono (by decide +kernel) (cG_addAct_fr ((519 : Int32)) ((-2 : Int32)) (gI s 217 0) _ _ hx6))
    obtain ⟨x9, hx9, h⟩ := FB h
    have f3 := fr_tr (W := wf_cD_readWhile) (f2) (hrc 0 (l1 + ((1 : Int32))) _ _ hx9)
    refine FI h (fun h => ?_) (fun h => ?_)
    · exact FS h (f3)
    · obtain ⟨x12, hx12, h⟩ := FB h
      have f4 := fr_tr (W := wf_cD_readWhile) (f3) (fr_mono (by decide +kernel) (cG_addAct_fr ((2 : Int32)) x6.1 (gI x9.2 217 0) _ _ hx12))
      obtain ⟨s14, hs14, h⟩ := FB h
      have f5 := fr_tr (W := wf_cD_readWhile) (f4) (fr_mono (by decide +kernel) (cG_aim_fr x6.1 (gI x12.2 214 0) _ _ hs14))
      exact FS h (f5)
theorem cD_readLet_fr (s : ts) (r : Int32 × ts) (h : cD_readLet s = some r) : fr wf_cD_readLet s r.2 := by
  unfold cD_readLet at h
  obtain ⟨x3, hx3, h⟩ := FB h
  have f1 := fr_tr (W := wf_cD_readLet) (fr_rf) (fr_mono (by decide +kernel) (cT_word_fr _ _ hx3))
  obtain ⟨x6, hx6, h⟩ := FB h
  have f2 := fr_tr (W := wf_cD_readLet) (f1) (fr_mono (by decide +kernel) (cD_checkNewWord_fr ((4 : Int32)) ((8 : Int32)) _ _ hx6))
  refine FI h (fun h => ?_) (fun h => ?_)
  · exact FS h (f2)
  · obtain ⟨s8, hs8, h⟩ := FB h
    have f3 := fr_tr (W := wf_cD_readLet) (f2) (fr_mono (by decide +kernel) (cT_advance_fr _ _ hs8))
    obtain ⟨x12, hx12, h⟩ := FB h
    have f4 := fr_tr (W := wf_cD_readLet) (f3) (fr_mono (by decide +kernel) (cT_need_fr ((61 : Int32)) _ _ hx12))
    refine FI h (fun h => ?_) (fun h => ?_)
    · exact FS h (f4)
    · obtain ⟨x15, hx15, h⟩ := FB h
      have f5 := fr_tr (W := wf_cD_readLet) (f4) (fr_mono (by decide +kernel) (clF_fr 200 0 ((0 : Int32)) _ _ hx15))
      refine FI h (fun h => ?_) (fun h => ?_)
      · exact FS h (f5)
      · obtain ⟨s17, hs17, h⟩ := FB h
        have f6 := fr_tr (W := wf_cD_readLet) (f5) (fr_mono (by decide +kernel) (cG_addWord_fr x3.1 ((4 : Int32)) _ _ hs17))
        obtain ⟨x21, hx21, h⟩ := FB h
        have f7 := fr_tr (W := wf_cD_readLet) (f6) (fr_mono (by decide +kernel) (cD_closeStatement_fr ((1 : Int32)) (gA x15.2 16 ((4 : Int32)).toNatClampNeg) (gI s8 217 0) _ _ hx21))
        exact FS h (f7)
theorem cT_currentPlace_fr (s : ts) (r : Int32 × ts) (h : cT_currentPlace s = some r) : fr wf_cT_currentPlace s r.2 := by
  unfold cT_currentPlace at h
  replace h := FG h
  exact FS h (fr_rf)
theorem cG_find_3_b_fr (kk : Int64 → Int32 → Int32 → ts → Option (Int32 × ts)) (hkk : ∀ (a0 : Int64) (a1 : Int32) (a2 : Int32) (s : ts) (r : Int32 × ts), kk a0 a1 a2 s = some r → fr wf_cG_find s r.2) (l1 : Int64) (l3 : Int32) (l4 : Int32) (s : ts) (r : Int32 × ts) (h : cG_find_3_b kk l1 l3 l4 s = some r) : fr wf_cG_find s r.2 := by
  unfold cG_find_3_b at h
  refine FI h (fun h => ?_) (fun h => ?_)
  · exact FS h (fr_rf)
  · replace h := FG h
    refine FI h (fun h => ?_) (fun h => ?_)
    · refine FI h (fun h => ?_) (fun h => ?_)
      · exact FS h (fr_rf)
      · exact fr_tr (fr_rf) (hkk l1 l3 (l4 + (1 : Int32)) _ _ h)
    · exact fr_tr (fr_rf) (hkk l1 l3 (l4 + (1 : Int32)) _ _ h)
theorem cG_find_3_fr : ∀ (n : Nat) (l1 : Int64) (l3 : Int32) (l4 : Int32) (s : ts) (r : Int32 × ts), cG_find_3 n l1 l3 l4 s = some r → fr wf_cG_find s r.2 := by
  intro n
  induction n with
  | zero => intro l1 l3 l4 s r h; exact FN h
  | succ n ih =>
    intro l1 l3 l4 s r h
    rw [cG_find_3.eq_2] at h
    exact cG_find_3_b_fr (cG_find_3 n) ih l1 l3 l4 s r h
theorem cG_find_fr (l1 : Int64) (l3 : Int32) (s : ts) (r : Int32 × ts) (h : cG_find l1 l3 s = some r) : fr wf_cG_find s r.2 := by
  unfold cG_find at h
  exact fr_tr (fr_rf) (cG_find_3_fr tm_N l1 l3 ((0 : Int32)) _ _ h)
theorem cD_keepOpen_fr (l1 : Int64) (l3 : Int32) (l4 : Int32) (s : ts) (r : ts) (h : cD_keepOpen l1 l3 l4 s = some r) : fr wf_cD_keepOpen s r := by
  unfold cD_keepOpen at h
  refine FI h (fun h => ?_) (fun h => ?_)
  · exact FV h (fr_rf)
  · replace h := FG h
    replace h := FG h
    replace h := FG h
    replace h := FG h
    exact FV h (fr_wI (fr_wA (fr_wA (fr_wA (fr_wB (fr_rf) rfl) rfl) rfl) rfl) rfl)
theorem cD_readStart_238_fr (l4 : Int32) (l6 : Int32) (s : ts) (r : Int32 × ts) (h : cD_readStart_238 l4 l6 s = some r) : fr wf_cD_readStart s r.2 := by
  unfold cD_readStart_238 at h
  obtain ⟨x3, hx3, h⟩ := FB h
  have f1 := fr_tr (W := wf_cD_readStart) (fr_rf) (fr_mono (by decide +kernel) (cD_closeStatement_fr ((526 : Int32)) l6 l4 _ _ hx3))
  exact FS h (f1)
theorem cD_readStart_223_fr (l1 : Int64) (l3 : Int32) (l4 : Int32) (l5 : Int32) (l6 : Int32) (s : ts) (r : Int32 × ts) (h : cD_readStart_223 l1 l3 l4 l5 l6 s = some r) : fr wf_cD_readStart s r.2 := by
  unfold cD_readStart_223 at h
  refine FI h (fun h => ?_) (fun h => ?_)
  · obtain ⟨s2, hs2, h⟩ := FB h
    have f1 := fr_tr (W := wf_cD_readStart) (fr_rf) (fr_mono (by decide +kernel) (cD_keepOpen_fr l1 l3 l5 _ _ hs2))
    exact fr_tr (f1) (cD_readStart_238_fr l4 l6 _ _ h)
  · exact fr_tr (fr_rf) (cD_readStart_238_fr l4 l6 _ _ h)
theorem cD_readStart_178_fr (l1 : Int64) (l3 : Int32) (l4 : Int32) (l5 : Int32) (l6 : Int32) (s : ts) (r : Int32 × ts) (h : cD_readStart_178 l1 l3 l4 l5 l6 s = some r) : fr wf_cD_readStart s r.2 := by
  unfold cD_readStart_178 at h
  obtain ⟨s2, hs2, h⟩ := FB h
  have f1 := fr_tr (W := wf_cD_readStart) (fr_rf) (fr_mono (by decide +kernel) (cT_advance_fr _ _ hs2))
  refine FI h (fun h => ?_) (fun h => ?_)
  · obtain ⟨x10, hx10, h⟩ := FB h
    have f2 := fr_tr (W := wf_cD_readStart) (f1) (fr_mono (by decide +kernel) (cG_addOp_fr ((1 : Int32)) ((0 : Int32)) _ _ hx10))
    exact fr_tr (f2) (cD_readStart_223_fr l1 l3 l4 l5 l6 _ _ h)
  · obtain ⟨x6, hx6, h⟩ := FB h
    have f3 := fr_tr (W := wf_cD_readStart) (f1) (fr_mono (by decide +kernel) (clF_fr 200 0 ((0 : Int32)) _ _ hx6))
    refine FI h (fun h => ?_) (fun h => ?_)
    · exact FS h (f3)
    · exact fr_tr (f3) (cD_readStart_223_fr l1 l3 l4 l5 l6 _ _ h)
theorem cD_readStart_130_fr (l1 : Int64) (l3 : Int32) (l4 : Int32) (l5 : Int32) (s : ts) (r : Int32 × ts) (h : cD_readStart_130 l1 l3 l4 l5 s = some r) : fr wf_cD_readStart s r.2 := by
  unfold cD_readStart_130 at h
  obtain ⟨x3, hx3, h⟩ := FB h
  have f1 := fr_tr (W := wf_cD_readStart) (fr_rf) (fr_mono (by decide +kernel) (cG_find_fr l1 ((3 : Int32)) _ _ hx3))
  obtain ⟨x6, hx6, h⟩ := FB h
  have f2 := fr_tr (W := wf_cD_readStart) (f1) (fr_mono (by decide +kernel) (cG_isDefinition_fr x3.1 _ _ hx6))
  refine FI h (fun h => ?_) (fun h => ?_)
  · exact fr_tr (f2) (cD_readStart_178_fr l1 l3 l4 l5 x3.1 _ _ h)
  · replace h := FG h
    refine FI h (fun h => ?_) (fun h => ?_)
    · exact fr_tr (f2) (cD_readStart_178_fr l1 l3 l4 l5 x3.1 _ _ h)
    · obtain ⟨x10, hx10, h⟩ := FB h
      have f3 := fr_tr (W := wf_cD_readStart) (f2) (fr_mono (by decide +kernel) (cT_fail_fr ((6 : Int32)) _ _ hx10))
      exact FS h (f3)
theorem cD_readStart_108_fr (k71 : Int64 → Int32 → Int32 → Int32 → Int32 → ts → Option (Int32 × ts)) (hk71 : ∀ (a0 : Int64) (a1 : Int32) (a2 : Int32) (a3 : Int32) (a4 : Int32) (s : ts) (r : Int32 × ts), k71 a0 a1 a2 a3 a4 s = some r → fr wf_cD_readStart s r.2) (l1 : Int64) (l3 : Int32) (l4 : Int32) (l5 : Int32) (l6 : Int32) (s : ts) (r : Int32 × ts) (h : cD_readStart_108 k71 l1 l3 l4 l5 l6 s = some r) : fr wf_cD_readStart s r.2 := by
  unfold cD_readStart_108 at h
  obtain ⟨x3, hx3, h⟩ := FB h
  have f1 := fr_tr (W := wf_cD_readStart) (fr_rf) (fr_mono (by decide +kernel) (clF_fr 200 0 ((0 : Int32)) _ _ hx3))
  refine FI h (fun h => ?_) (fun h => ?_)
  · exact FS h (f1)
  · exact fr_tr (f1) (hk71 l1 l3 l4 (l5 + (1 : Int32)) (l6 + (1 : Int32)) _ _ h)
theorem cD_readStart_71_b_fr (kk : Int64 → Int32 → Int32 → Int32 → Int32 → ts → Option (Int32 × ts)) (hkk : ∀ (a0 : Int64) (a1 : Int32) (a2 : Int32) (a3 : Int32) (a4 : Int32) (s : ts) (r : Int32 × ts), kk a0 a1 a2 a3 a4 s = some r → fr wf_cD_readStart s r.2) (l1 : Int64) (l3 : Int32) (l4 : Int32) (l5 : Int32) (l6 : Int32) (s : ts) (r : Int32 × ts) (h : cD_readStart_71_b kk l1 l3 l4 l5 l6 s = some r) : fr wf_cD_readStart s r.2 := by
  unfold cD_readStart_71_b at h
  refine FI h (fun h => ?_) (fun h => ?_)
  · exact fr_tr (fr_rf) (cD_readStart_130_fr l1 l3 l4 l5 _ _ h)
  · refine FI h (fun h => ?_) (fun h => ?_)
    · exact fr_tr (fr_rf) (cD_readStart_130_fr l1 l3 l4 l5 _ _ h)
    · refine FI h (fun h => ?_) (fun h => ?_)
      · exact fr_tr (fr_rf) (cD_readStart_108_fr kk hkk l1 l3 l4 l5 l6 _ _ h)
      · obtain ⟨x3, hx3, h⟩ := FB h
        have f1 := fr_tr (W := wf_cD_readStart) (fr_rf) (fr_mono (by decide +kernel) (cT_need_fr ((44 : Int32)) _ _ hx3))
        refine FI h (fun h => ?_) (fun h => ?_)
        · exact FS h (f1)
        · exact fr_tr (f1) (cD_readStart_108_fr kk hkk l1 l3 l4 l5 l6 _ _ h)
theorem cD_readStart_71_fr : ∀ (n : Nat) (l1 : Int64) (l3 : Int32) (l4 : Int32) (l5 : Int32) (l6 : Int32) (s : ts) (r : Int32 × ts), cD_readStart_71 n l1 l3 l4 l5 l6 s = some r → fr wf_cD_readStart s r.2 := by
  intro n
  induction n with
  | zero => intro l1 l3 l4 l5 l6 s r h; exact FN h
  | succ n ih =>
    intro l1 l3 l4 l5 l6 s r h
    rw [cD_readStart_71.eq_2] at h
    exact cD_readStart_71_b_fr (cD_readStart_71 n) ih l1 l3 l4 l5 l6 s r h
theorem cD_readStart_fr (s : ts) (r : Int32 × ts) (h : cD_readStart s = some r) : fr wf_cD_readStart s r.2 := by
  unfold cD_readStart at h
  obtain ⟨x3, hx3, h⟩ := FB h
  have f1 := fr_tr (W := wf_cD_readStart) (fr_rf) (fr_mono (by decide +kernel) (cT_isAnyWord_fr _ _ hx3))
  refine FI h (fun h => ?_) (fun h => ?_)
  · obtain ⟨x19, hx19, h⟩ := FB h
    have f2 := fr_tr (W := wf_cD_readStart) (f1) (fr_mono (by decide +kernel) (cT_fail_fr ((2 : Int32)) _ _ hx19))
    exact FS h (f2)
  · obtain ⟨x6, hx6, h⟩ := FB h
    have f3 := fr_tr (W := wf_cD_readStart) (f1) (fr_mono (by decide +kernel) (cT_word_fr _ _ hx6))
    obtain ⟨x9, hx9, h⟩ := FB h
    have f4 := fr_tr (W := wf_cD_readStart) (f3) (fr_mono (by decide +kernel) (cT_currentPlace_fr _ _ hx9))
    obtain ⟨s11, hs11, h⟩ := FB h
    have f5 := fr_tr (W := wf_cD_readStart) (f4) (fr_mono (by decide +kernel) (cT_advance_fr _ _ hs11))
    obtain ⟨x15, hx15, h⟩ := FB h
    have f6 := fr_tr (W := wf_cD_readStart) (f5) (fr_mono (by decide +kernel) (cT_need_fr ((40 : Int32)) _ _ hx15))
    refine FI h (fun h => ?_) (fun h => ?_)
    · exact FS h (f6)
    · exact fr_tr (f6) (cD_readStart_71_fr tm_N x6.1 x9.1 (gI x9.2 217 0) ((0 : Int32)) ((0 : Int32)) _ _ h)
theorem cD_readUse_127_fr (l1 : Int32) (l3 : Int32) (l4 : Int32) (s : ts) (r : Int32 × ts) (h : cD_readUse_127 l1 l3 l4 s = some r) : fr wf_cD_readUse s r.2 := by
  unfold cD_readUse_127 at h
  obtain ⟨x3, hx3, h⟩ := FB h
  have f1 := fr_tr (W := wf_cD_readUse) (fr_rf) (fr_mono (by decide +kernel) (cD_closeStatement_fr l1 l3 l4 _ _ hx3))
  exact FS h (f1)
theorem cD_readUse_107_fr (l1 : Int32) (l3 : Int32) (l4 : Int32) (s : ts) (r : Int32 × ts) (h : cD_readUse_107 l1 l3 l4 s = some r) : fr wf_cD_readUse s r.2 := by
  unfold cD_readUse_107 at h
  refine FI h (fun h => ?_) (fun h => ?_)
  · exact fr_tr (fr_rf) (cD_readUse_127_fr l1 l3 l4 _ _ h)
  · obtain ⟨x3, hx3, h⟩ := FB h
    have f1 := fr_tr (W := wf_cD_readUse) (fr_rf) (fr_mono (by decide +kernel) (clF_fr 200 0 ((0 : Int32)) _ _ hx3))
    refine FI h (fun h => ?_) (fun h => ?_)
    · exact FS h (f1)
    · exact fr_tr (f1) (cD_readUse_127_fr l1 l3 l4 _ _ h)
theorem cD_readUse_40_fr (l1 : Int32) (t1 : Int64) (t2 : Int32) (t3 : Int32) (s : ts) (r : Int32 × ts) (h : cD_readUse_40 l1 t1 t2 t3 s = some r) : fr wf_cD_readUse s r.2 := by
  unfold cD_readUse_40 at h
  obtain ⟨x3, hx3, h⟩ := FB h
  have f1 := fr_tr (W := wf_cD_readUse) (fr_rf) (fr_mono (by decide +kernel) (cG_findPlace_fr t1 t2 t3 _ _ hx3))
  refine FI h (fun h => ?_) (fun h => ?_)
  · obtain ⟨x14, hx14, h⟩ := FB h
    have f2 := fr_tr (W := wf_cD_readUse) (f1) (fr_mono (by decide +kernel) (cT_fail_fr ((4 : Int32)) _ _ hx14))
    exact FS h (f2)
  · obtain ⟨s5, hs5, h⟩ := FB h
    have f3 := fr_tr (W := wf_cD_readUse) (f1) (fr_mono (by decide +kernel) (cT_advance_fr _ _ hs5))
    refine FI h (fun h => ?_) (fun h => ?_)
    · refine FI h (fun h => ?_) (fun h => ?_)
      · obtain ⟨x9, hx9, h⟩ := FB h
        have f4 := fr_tr (W := wf_cD_readUse) (f3) (fr_mono (by decide +kernel) (cG_addOp_fr ((1 : Int32)) ((0 : Int32)) _ _ hx9))
        exact fr_tr (f4) (cD_readUse_127_fr l1 x3.1 (gI s5 217 0) _ _ h)
      · exact fr_tr (f3) (cD_readUse_107_fr l1 x3.1 (gI s5 217 0) _ _ h)
    · exact fr_tr (f3) (cD_readUse_107_fr l1 x3.1 (gI s5 217 0) _ _ h)
theorem cD_readUse_fr (l1 : Int32) (l2 : Int32) (s : ts) (r : Int32 × ts) (h : cD_readUse l1 l2 s = some r) : fr wf_cD_readUse s r.2 := by
  unfold cD_readUse at h
  obtain ⟨x3, hx3, h⟩ := FB h
  have f1 := fr_tr (W := wf_cD_readUse) (fr_rf) (fr_mono (by decide +kernel) (cT_isAnyWord_fr _ _ hx3))
  refine FI h (fun h => ?_) (fun h => ?_)
  · obtain ⟨x10, hx10, h⟩ := FB h
    have f2 := fr_tr (W := wf_cD_readUse) (f1) (fr_mono (by decide +kernel) (cT_fail_fr ((2 : Int32)) _ _ hx10))
    exact FS h (f2)
  · obtain ⟨x6, hx6, h⟩ := FB h
    have f3 := fr_tr (W := wf_cD_readUse) (f1) (fr_mono (by decide +kernel) (cT_word_fr _ _ hx6))
    refine FI h (fun h => ?_) (fun h => ?_)
    · exact fr_tr (f3) (cD_readUse_40_fr l1 x6.1 l2 ((1 : Int32)) _ _ h)
    · exact fr_tr (f3) (cD_readUse_40_fr l1 x6.1 l2 ((0 : Int32)) _ _ h)
theorem cD_readStatement_21_fr (rc : Nat → Int32 → ts → Option (Int32 × ts)) (hrc : ∀ (a0 : Nat) (a1 : Int32) (s : ts) (r : Int32 × ts), rc a0 a1 s = some r → fr wf_clT s r.2) (l1 : Int32) (l2 : Int32) (s : ts) (r : Int32 × ts) (h : cD_readStatement_21 rc l1 l2 s = some r) : fr wf_cD_readStatement s r.2 := by
  unfold cD_readStatement_21 at h
  refine FI h (fun h => ?_) (fun h => ?_)
  · obtain ⟨x3, hx3, h⟩ := FB h
    have f1 := fr_tr (W := wf_cD_readStatement) (fr_wI (fr_rf) rfl) (fr_mono (by decide +kernel) (cT_word_fr _ _ hx3))
    obtain ⟨s5, hs5, h⟩ := FB h
    have f2 := fr_tr (W := wf_cD_readStatement) (f1) (fr_mono (by decide +kernel) (cT_advance_fr _ _ hs5))
    refine FI h (fun h => ?_) (fun h => ?_)
    · obtain ⟨x9, hx9, h⟩ := FB h
      have f3 := fr_tr (W := wf_cD_readStatement) (f2) (fr_mono (by decide +kernel) (cT_need_fr ((61 : Int32)) _ _ hx9))
      refine FI h (fun h => ?_) (fun h => ?_)
      · exact FS h (f3)
      · obtain ⟨x12, hx12, h⟩ := FB h
        have f4 := fr_tr (W := wf_cD_readStatement) (f3) (fr_mono (by decide +kernel) (cG_findValue_fr x3.1 _ _ hx12))
        obtain ⟨x15, hx15, h⟩ := FB h
        have f5 := fr_tr (W := wf_cD_readStatement) (f4) (fr_mono (by decide +kernel) (cD_readPlain_fr ((1 : Int32)) x12.1 _ _ hx15))
        refine FI h (fun h => ?_) (fun h => ?_)
        · exact FS h (f5)
        · exact FS h (f5)
    · refine FI h (fun h => ?_) (fun h => ?_)
      · obtain ⟨x21, hx21, h⟩ := FB h
        have f6 := fr_tr (W := wf_cD_readStatement) (f2) (fr_mono (by decide +kernel) (cD_readLet_fr _ _ hx21))
        exact FS h (f6)
      · refine FI h (fun h => ?_) (fun h => ?_)
        · obtain ⟨x25, hx25, h⟩ := FB h
          have f7 := fr_tr (W := wf_cD_readStatement) (f2) (hrc 2 l1 _ _ hx25)
          exact FS h (f7)
        · refine FI h (fun h => ?_) (fun h => ?_)
          · obtain ⟨x29, hx29, h⟩ := FB h
            have f8 := fr_tr (W := wf_cD_readStatement) (f2) (hrc 3 l1 _ _ hx29)
            exact FS h (f8)
          · refine FI h (fun h => ?_) (fun h => ?_)
            · obtain ⟨x33, hx33, h⟩ := FB h
              have f9 := fr_tr (W := wf_cD_readStatement) (f2) (fr_mono (by decide +kernel) (cD_readUse_fr (gI (wI s 403 0 ((gI s 403 0) + ((1 : Int32)))) 107 0) ((1 : Int32)) _ _ hx33))
              exact FS h (f9)
            · refine FI h (fun h => ?_) (fun h => ?_)
              · obtain ⟨x37, hx37, h⟩ := FB h
                have f10 := fr_tr (W := wf_cD_readStatement) (f2) (fr_mono (by decide +kernel) (cD_readUse_fr (gI (wI s 403 0 ((gI s 403 0) + ((1 : Int32)))) 107 0) ((1 : Int32)) _ _ hx37))
                exact FS h (f10)
              · refine FI h (fun h => ?_) (fun h => ?_)
                · obtain ⟨x41, hx41, h⟩ := FB h
                  have f11 := fr_tr (W := wf_cD_readStatement) (f2) (fr_mono (by decide +kernel) (cD_readUse_fr (gI (wI s 403 0 ((gI s 403 0) + ((1 : Int32)))) 107 0) ((0 : Int32)) _ _ hx41))
                  exact FS h (f11)
                · refine FI h (fun h => ?_) (fun h => ?_)
                  · obtain ⟨x45, hx45, h⟩ := FB h
                    have f12 := fr_tr (W := wf_cD_readStatement) (f2) (fr_mono (by decide +kernel) (cD_readUse_fr (gI (wI s 403 0 ((gI s 403 0) + ((1 : Int32)))) 107 0) ((0 : Int32)) _ _ hx45))
                    exact FS h (f12)
                  · refine FI h (fun h => ?_) (fun h => ?_)
                    · obtain ⟨x49, hx49, h⟩ := FB h
                      have f13 := fr_tr (W := wf_cD_readStatement) (f2) (fr_mono (by decide +kernel) (cD_readStart_fr _ _ hx49))
                      exact FS h (f13)
                    · refine FI h (fun h => ?_) (fun h => ?_)
                      · obtain ⟨x53, hx53, h⟩ := FB h
                        have f14 := fr_tr (W := wf_cD_readStatement) (f2) (fr_mono (by decide +kernel) (cD_closeStatement_fr (gI (wI s 403 0 ((gI s 403 0) + ((1 : Int32)))) 107 0) ((-2 : Int32)) (gI s5 217 0) _ _ hx53))
                        exact FS h (f14)
                      · obtain ⟨x57, hx57, h⟩ := FB h
                        have f15 := fr_tr (W := wf_cD_readStatement) (f2) (fr_mono (by decide +kernel) (cD_readPlain_fr (gI (wI s 403 0 ((gI s 403 0) + ((1 : Int32)))) 107 0) ((-2 : Int32)) _ _ hx57))
                        exact FS h (f15)
  · obtain ⟨x60, hx60, h⟩ := FB h
    have f16 := fr_tr (W := wf_cD_readStatement) (fr_rf) (fr_mono (by decide +kernel) (cT_fail_fr l2 _ _ hx60))
    exact FS h (f16)
theorem cD_readStatement_fr (rc : Nat → Int32 → ts → Option (Int32 × ts)) (hrc : ∀ (a0 : Nat) (a1 : Int32) (s : ts) (r : Int32 × ts), rc a0 a1 s = some r → fr wf_clT s r.2) (l1 : Int32) (s : ts) (r : Int32 × ts) (h : cD_readStatement rc l1 s = some r) : fr wf_cD_readStatement s r.2 := by
  unfold cD_readStatement at h
  obtain ⟨x3, hx3, h⟩ := FB h
  have f1 := fr_tr (W := wf_cD_readStatement) (fr_rf) (fr_mono (by decide +kernel) (cD_faultOfStatement_fr _ _ hx3))
  refine FI h (fun h => ?_) (fun h => ?_)
  · refine FI h (fun h => ?_) (fun h => ?_)
    · exact fr_tr (f1) (cD_readStatement_21_fr rc hrc l1 x3.1 _ _ h)
    · exact fr_tr (f1) (cD_readStatement_21_fr rc hrc l1 ((5 : Int32)) _ _ h)
  · exact fr_tr (f1) (cD_readStatement_21_fr rc hrc l1 x3.1 _ _ h)
theorem cD_readBlock_78_fr (rc : Nat → Int32 → ts → Option (Int32 × ts)) (hrc : ∀ (a0 : Nat) (a1 : Int32) (s : ts) (r : Int32 × ts), rc a0 a1 s = some r → fr wf_clT s r.2) (s : ts) (r : Int32 × ts) (h : cD_readBlock_78 rc s = some r) : fr wf_cD_readBlock s r.2 := by
  unfold cD_readBlock_78 at h
  obtain ⟨x3, hx3, h⟩ := FB h
  have f1 := fr_tr (W := wf_cD_readBlock) (fr_rf) (fr_mono (by decide +kernel) (cT_need_fr ((125 : Int32)) _ _ hx3))
  exact FS h (f1)
theorem cD_readBlock_43_b_fr (rc : Nat → Int32 → ts → Option (Int32 × ts)) (kk : Int32 → Int32 → ts → Option (Int32 × ts)) (hrc : ∀ (a0 : Nat) (a1 : Int32) (s : ts) (r : Int32 × ts), rc a0 a1 s = some r → fr wf_clT s r.2) (hkk : ∀ (a0 : Int32) (a1 : Int32) (s : ts) (r : Int32 × ts), kk a0 a1 s = some r → fr wf_cD_readBlock s r.2) (l1 : Int32) (l2 : Int32) (s : ts) (r : Int32 × ts) (h : cD_readBlock_43_b rc kk l1 l2 s = some r) : fr wf_cD_readBlock s r.2 := by
  unfold cD_readBlock_43_b at h
  refine FI h (fun h => ?_) (fun h => ?_)
  · exact fr_tr (fr_rf) (cD_readBlock_78_fr rc hrc _ _ h)
  · refine FI h (fun h => ?_) (fun h => ?_)
    · exact fr_tr (fr_rf) (cD_readBlock_78_fr rc hrc _ _ h)
    · obtain ⟨x3, hx3, h⟩ := FB h
      have f1 := fr_tr (W := wf_cD_readBlock) (fr_rf) (hrc 1 l1 _ _ hx3)
      refine FI h (fun h => ?_) (fun h => ?_)
      · exact FS h (f1)
      · exact fr_tr (f1) (hkk l1 (l2 + (1 : Int32)) _ _ h)
theorem cD_readBlock_43_fr (rc : Nat → Int32 → ts → Option (Int32 × ts)) (hrc : ∀ (a0 : Nat) (a1 : Int32) (s : ts) (r : Int32 × ts), rc a0 a1 s = some r → fr wf_clT s r.2) : ∀ (n : Nat) (l1 : Int32) (l2 : Int32) (s : ts) (r : Int32 × ts), cD_readBlock_43 rc n l1 l2 s = some r → fr wf_cD_readBlock s r.2 := by
  intro n
  induction n with
  | zero => intro l1 l2 s r h; exact FN h
  | succ n ih =>
    intro l1 l2 s r h
    rw [cD_readBlock_43.eq_2] at h
    exact cD_readBlock_43_b_fr rc (cD_readBlock_43 rc n) hrc ih l1 l2 s r h
theorem cD_readBlock_27_fr (rc : Nat → Int32 → ts → Option (Int32 × ts)) (hrc : ∀ (a0 : Nat) (a1 : Int32) (s : ts) (r : Int32 × ts), rc a0 a1 s = some r → fr wf_clT s r.2) (l1 : Int32) (s : ts) (r : Int32 × ts) (h : cD_readBlock_27 rc l1 s = some r) : fr wf_cD_readBlock s r.2 := by
  unfold cD_readBlock_27 at h
  obtain ⟨x3, hx3, h⟩ := FB h
  have f1 := fr_tr (W := wf_cD_readBlock) (fr_rf) (fr_mono (by decide +kernel) (cT_need_fr ((123 : Int32)) _ _ hx3))
  refine FI h (fun h => ?_) (fun h => ?_)
  · exact FS h (f1)
  · exact fr_tr (f1) (cD_readBlock_43_fr rc hrc tm_N l1 ((0 : Int32)) _ _ h)
theorem cD_readBlock_fr (rc : Nat → Int32 → ts → Option (Int32 × ts)) (hrc : ∀ (a0 : Nat) (a1 : Int32) (s : ts) (r : Int32 × ts), rc a0 a1 s = some r → fr wf_clT s r.2) (l1 : Int32) (s : ts) (r : Int32 × ts) (h : cD_readBlock rc l1 s = some r) : fr wf_cD_readBlock s r.2 := by
  unfold cD_readBlock at h
  refine FI h (fun h => ?_) (fun h => ?_)
  · refine FI h (fun h => ?_) (fun h => ?_)
    · exact fr_tr (fr_rf) (cD_readBlock_27_fr rc hrc l1 _ _ h)
    · obtain ⟨x3, hx3, h⟩ := FB h
      have f1 := fr_tr (W := wf_cD_readBlock) (fr_rf) (fr_mono (by decide +kernel) (cT_fail_fr ((5 : Int32)) _ _ hx3))
      exact FS h (f1)
  · exact fr_tr (fr_rf) (cD_readBlock_27_fr rc hrc l1 _ _ h)
theorem clT_fr : ∀ (n w : Nat) (a : Int32) (s : ts) (r : Int32 × ts), clT n w a s = some r → fr wf_clT s r.2 := by
  intro n
  induction n with
  | zero => intro w a s r h; exact FN h
  | succ n ih =>
    intro w a s r h
    rw [clT.eq_2] at h
    refine FI h (fun h => ?_) (fun h => ?_)
    · exact fr_mono (by decide +kernel) (cD_readBlock_fr (clT n) ih a s r h)
    refine FI h (fun h => ?_) (fun h => ?_)
    · exact fr_mono (by decide +kernel) (cD_readStatement_fr (clT n) ih a s r h)
    refine FI h (fun h => ?_) (fun h => ?_)
    · exact fr_mono (by decide +kernel) (cD_readIf_fr (clT n) ih a s r h)
    refine FI h (fun h => ?_) (fun h => ?_)
    · exact fr_mono (by decide +kernel) (cD_readWhile_fr (clT n) ih a s r h)
    exact FN h
theorem cG_dropVariables_fr (s : ts) (r : ts) (h : cG_dropVariables s = some r) : fr wf_cG_dropVariables s r := by
  unfold cG_dropVariables at h
  exact FV h (fr_wA (fr_wI (fr_rf) rfl) rfl)
theorem cD_readProcess_78_fr (l1 : Int32) (s : ts) (r : Int32 × ts) (h : cD_readProcess_78 l1 s = some r) : fr wf_cD_readProcess s r.2 := by
  unfold cD_readProcess_78 at h
  replace h := FG h
  obtain ⟨x4, hx4, h⟩ := FB h
  have f1 := fr_tr (W := wf_cD_readProcess) (fr_wA (fr_wA (fr_rf) rfl) rfl) (fr_mono (by decide +kernel) (cT_need_fr ((41 : Int32)) _ _ hx4))
  refine FI h (fun h => ?_) (fun h => ?_)
  · exact FS h (f1)
  · obtain ⟨x7, hx7, h⟩ := FB h
    have f2 := fr_tr (W := wf_cD_readProcess) (f1) (fr_mono (by decide +kernel) (clT_fr 60 0 ((0 : Int32)) _ _ hx7))
    refine FI h (fun h => ?_) (fun h => ?_)
    · exact FS h (f2)
    · obtain ⟨s9, hs9, h⟩ := FB h
      have f3 := fr_tr (W := wf_cD_readProcess) (fr_wA (f2) rfl) (fr_mono (by decide +kernel) (cG_dropVariables_fr _ _ hs9))
      obtain ⟨x13, hx13, h⟩ := FB h
      have f4 := fr_tr (W := wf_cD_readProcess) (f3) (fr_mono (by decide +kernel) (cG_addAct_fr ((3 : Int32)) ((-2 : Int32)) (gI s9 217 0) _ _ hx13))
      exact FS h (f4)
theorem cD_readProcess_fr (s : ts) (r : Int32 × ts) (h : cD_readProcess s = some r) : fr wf_cD_readProcess s r.2 := by
  unfold cD_readProcess at h
  obtain ⟨s2, hs2, h⟩ := FB h
  have f1 := fr_tr (W := wf_cD_readProcess) (fr_rf) (fr_mono (by decide +kernel) (cT_advance_fr _ _ hs2))
  obtain ⟨x6, hx6, h⟩ := FB h
  have f2 := fr_tr (W := wf_cD_readProcess) (f1) (fr_mono (by decide +kernel) (cD_tell_fr ((3 : Int32)) ((12 : Int32)) _ _ hx6))
  refine FI h (fun h => ?_) (fun h => ?_)
  · exact FS h (f2)
  · obtain ⟨x9, hx9, h⟩ := FB h
    have f3 := fr_tr (W := wf_cD_readProcess) (f2) (fr_mono (by decide +kernel) (cG_isDefinition_fr (gA s2 16 ((3 : Int32)).toNatClampNeg) _ _ hx9))
    refine FI h (fun h => ?_) (fun h => ?_)
    · exact FS h (f3)
    · obtain ⟨x12, hx12, h⟩ := FB h
      have f4 := fr_tr (W := wf_cD_readProcess) (f3) (fr_mono (by decide +kernel) (cT_need_fr ((40 : Int32)) _ _ hx12))
      refine FI h (fun h => ?_) (fun h => ?_)
      · exact FS h (f4)
      · refine FI h (fun h => ?_) (fun h => ?_)
        · exact fr_tr (f4) (cD_readProcess_78_fr (gA s2 16 ((3 : Int32)).toNatClampNeg) _ _ h)
        · obtain ⟨x15, hx15, h⟩ := FB h
          have f5 := fr_tr (W := wf_cD_readProcess) (f4) (fr_mono (by decide +kernel) (cD_readWords_fr ((4 : Int32)) ((8 : Int32)) _ _ hx15))
          refine FI h (fun h => ?_) (fun h => ?_)
          · exact FS h (f5)
          · exact fr_tr (f5) (cD_readProcess_78_fr (gA s2 16 ((3 : Int32)).toNatClampNeg) _ _ h)
theorem cT_failAt_fr (l1 : Int32) (l2 : Int32) (s : ts) (r : Int32 × ts) (h : cT_failAt l1 l2 s = some r) : fr wf_cT_failAt s r.2 := by
  unfold cT_failAt at h
  exact FS h (fr_wI (fr_wI (fr_rf) rfl) rfl)
theorem cD_closeStarts_59_fr (k2 : Int32 → ts → Option (Int32 × ts)) (hk2 : ∀ (a0 : Int32) (s : ts) (r : Int32 × ts), k2 a0 s = some r → fr wf_cD_closeStarts s r.2) (l1 : Int32) (l2 : Int32) (t0 : Int32) (s : ts) (r : Int32 × ts) (h : cD_closeStarts_59 k2 l1 l2 t0 s = some r) : fr wf_cD_closeStarts s r.2 := by
  unfold cD_closeStarts_59 at h
  refine FI h (fun h => ?_) (fun h => ?_)
  · replace h := FG h
    obtain ⟨x8, hx8, h⟩ := FB h
    have f1 := fr_tr (W := wf_cD_closeStarts) (fr_rf) (fr_mono (by decide +kernel) (cT_failAt_fr ((6 : Int32)) (gA s 30 l1.toNatClampNeg) _ _ hx8))
    exact FS h (f1)
  · replace h := FG h
    obtain ⟨s3, hs3, h⟩ := FB h
    have f2 := fr_tr (W := wf_cD_closeStarts) (fr_rf) (fr_mono (by decide +kernel) (cG_aim_fr (gA s 32 l1.toNatClampNeg) l2 _ _ hs3))
    exact fr_tr (f2) (hk2 (l1 + (1 : Int32)) _ _ h)
theorem cD_closeStarts_2_b_fr (kk : Int32 → ts → Option (Int32 × ts)) (hkk : ∀ (a0 : Int32) (s : ts) (r : Int32 × ts), kk a0 s = some r → fr wf_cD_closeStarts s r.2) (l1 : Int32) (s : ts) (r : Int32 × ts) (h : cD_closeStarts_2_b kk l1 s = some r) : fr wf_cD_closeStarts s r.2 := by
  unfold cD_closeStarts_2_b at h
  refine FI h (fun h => ?_) (fun h => ?_)
  · exact FS h (fr_rf)
  · replace h := FG h
    obtain ⟨x4, hx4, h⟩ := FB h
    have f1 := fr_tr (W := wf_cD_closeStarts) (fr_rf) (fr_mono (by decide +kernel) (cG_find_fr (gB s 29 l1.toNatClampNeg) ((3 : Int32)) _ _ hx4))
    obtain ⟨x7, hx7, h⟩ := FB h
    have f2 := fr_tr (W := wf_cD_closeStarts) (f1) (fr_mono (by decide +kernel) (cG_isDefinition_fr x4.1 _ _ hx7))
    refine FI h (fun h => ?_) (fun h => ?_)
    · exact fr_tr (f2) (cD_closeStarts_59_fr kk hkk l1 x4.1 ((0 : Int32)) _ _ h)
    · replace h := FG h
      refine FI h (fun h => ?_) (fun h => ?_)
      · exact fr_tr (f2) (cD_closeStarts_59_fr kk hkk l1 x4.1 ((1 : Int32)) _ _ h)
      · exact fr_tr (f2) (cD_closeStarts_59_fr kk hkk l1 x4.1 ((0 : Int32)) _ _ h)
theorem cD_closeStarts_2_fr : ∀ (n : Nat) (l1 : Int32) (s : ts) (r : Int32 × ts), cD_closeStarts_2 n l1 s = some r → fr wf_cD_closeStarts s r.2 := by
  intro n
  induction n with
  | zero => intro l1 s r h; exact FN h
  | succ n ih =>
    intro l1 s r h
    rw [cD_closeStarts_2.eq_2] at h
    exact cD_closeStarts_2_b_fr (cD_closeStarts_2 n) ih l1 s r h
theorem cD_closeStarts_fr (s : ts) (r : Int32 × ts) (h : cD_closeStarts s = some r) : fr wf_cD_closeStarts s r.2 := by
  unfold cD_closeStarts at h
  exact fr_tr (fr_rf) (cD_closeStarts_2_fr tm_N ((0 : Int32)) _ _ h)
theorem cD_readText_127_fr (l1 : Int32) (s : ts) (r : Int32 × ts) (h : cD_readText_127 l1 s = some r) : fr wf_cD_readText s r.2 := by
  unfold cD_readText_127 at h
  refine FI h (fun h => ?_) (fun h => ?_)
  · exact FS h (fr_rf)
  · obtain ⟨x3, hx3, h⟩ := FB h
    have f1 := fr_tr (W := wf_cD_readText) (fr_rf) (fr_mono (by decide +kernel) (cD_closeStarts_fr _ _ hx3))
    refine FI h (fun h => ?_) (fun h => ?_)
    · exact FS h (f1)
    · exact FS h (f1)
theorem cD_readText_21_b_fr (kk : Int32 → Int32 → ts → Option (Int32 × ts)) (hkk : ∀ (a0 : Int32) (a1 : Int32) (s : ts) (r : Int32 × ts), kk a0 a1 s = some r → fr wf_cD_readText s r.2) (l1 : Int32) (l2 : Int32) (s : ts) (r : Int32 × ts) (h : cD_readText_21_b kk l1 l2 s = some r) : fr wf_cD_readText s r.2 := by
  unfold cD_readText_21_b at h
  refine FI h (fun h => ?_) (fun h => ?_)
  · exact fr_tr (fr_rf) (cD_readText_127_fr l1 _ _ h)
  · refine FI h (fun h => ?_) (fun h => ?_)
    · exact fr_tr (fr_rf) (cD_readText_127_fr l1 _ _ h)
    · refine FI h (fun h => ?_) (fun h => ?_)
      · exact fr_tr (fr_rf) (cD_readText_127_fr l1 _ _ h)
      · refine FI h (fun h => ?_) (fun h => ?_)
        · obtain ⟨x3, hx3, h⟩ := FB h
          have f1 := fr_tr (W := wf_cD_readText) (fr_rf) (fr_mono (by decide +kernel) (cD_readResource_fr _ _ hx3))
          exact fr_tr (f1) (hkk x3.1 (l2 + (1 : Int32)) _ _ h)
        · refine FI h (fun h => ?_) (fun h => ?_)
          · obtain ⟨x7, hx7, h⟩ := FB h
            have f2 := fr_tr (W := wf_cD_readText) (fr_rf) (fr_mono (by decide +kernel) (cD_readStore_fr _ _ hx7))
            exact fr_tr (f2) (hkk x7.1 (l2 + (1 : Int32)) _ _ h)
          · refine FI h (fun h => ?_) (fun h => ?_)
            · obtain ⟨x11, hx11, h⟩ := FB h
              have f3 := fr_tr (W := wf_cD_readText) (fr_rf) (fr_mono (by decide +kernel) (cD_readNumbers_fr _ _ hx11))
              exact fr_tr (f3) (hkk x11.1 (l2 + (1 : Int32)) _ _ h)
            · refine FI h (fun h => ?_) (fun h => ?_)
              · obtain ⟨x15, hx15, h⟩ := FB h
                have f4 := fr_tr (W := wf_cD_readText) (fr_rf) (fr_mono (by decide +kernel) (cD_readProcess_fr _ _ hx15))
                exact fr_tr (f4) (hkk x15.1 (l2 + (1 : Int32)) _ _ h)
              · obtain ⟨x19, hx19, h⟩ := FB h
                have f5 := fr_tr (W := wf_cD_readText) (fr_rf) (fr_mono (by decide +kernel) (cT_fail_fr ((2 : Int32)) _ _ hx19))
                exact fr_tr (f5) (hkk x19.1 (l2 + (1 : Int32)) _ _ h)
theorem cD_readText_21_fr : ∀ (n : Nat) (l1 : Int32) (l2 : Int32) (s : ts) (r : Int32 × ts), cD_readText_21 n l1 l2 s = some r → fr wf_cD_readText s r.2 := by
  intro n
  induction n with
  | zero => intro l1 l2 s r h; exact FN h
  | succ n ih =>
    intro l1 l2 s r h
    rw [cD_readText_21.eq_2] at h
    exact cD_readText_21_b_fr (cD_readText_21 n) ih l1 l2 s r h
theorem cD_readText_fr (s : ts) (r : Int32 × ts) (h : cD_readText s = some r) : fr wf_cD_readText s r.2 := by
  unfold cD_readText at h
  obtain ⟨s2, hs2, h⟩ := FB h
  have f1 := fr_tr (W := wf_cD_readText) (fr_rf) (fr_mono (by decide +kernel) (cG_clear_fr _ _ hs2))
  exact fr_tr (fr_wI (fr_wI (f1) rfl) rfl) (cD_readText_21_fr tm_N ((1 : Int32)) ((0 : Int32)) _ _ h)
theorem cN_clear_fr (l0 : Nat) (s : ts) (r : ts) (h : cN_clear l0 s = some r) : fr wf_cN_clear s r := by
  unfold cN_clear at h
  replace h := FG h
  exact FV h (fr_wI (fr_wR (fr_rf) rfl) rfl)
theorem cK_open_fr (l0 : Nat) (l1 : Int32) (l2 : Int32) (s : ts) (r : ts) (h : cK_open l0 l1 l2 s = some r) : fr wf_cK_open s r := by
  unfold cK_open at h
  replace h := FG h
  obtain ⟨s3, hs3, h⟩ := FB h
  have f1 := fr_tr (W := wf_cK_open) (fr_rf) (fr_mono (by decide +kernel) (cN_clear_fr (2 * l0) _ _ hs3))
  obtain ⟨s6, hs6, h⟩ := FB h
  have f2 := fr_tr (W := wf_cK_open) (f1) (fr_mono (by decide +kernel) (cN_clear_fr (2 * l0 + 1) _ _ hs6))
  exact FV h (fr_wJ (fr_wJ (fr_wJ (fr_wI (fr_wI (fr_wI (fr_wI (fr_wI (f2) rfl) rfl) rfl) rfl) rfl) rfl) rfl) rfl)
theorem cW_open_28_b_fr (kk : Int32 → ts → Option (ts)) (hkk : ∀ (a0 : Int32) (s : ts) (r : ts), kk a0 s = some r → fr wf_cW_open s r) (l2 : Int32) (s : ts) (r : ts) (h : cW_open_28_b kk l2 s = some r) : fr wf_cW_open s r := by
  unfold cW_open_28_b at h
  refine FI h (fun h => ?_) (fun h => ?_)
  · exact FV h (fr_rf)
  · replace h := FG h
    obtain ⟨s3, hs3, h⟩ := FB h
    have f1 := fr_tr (W := wf_cW_open) (fr_rf) (fr_mono (by decide +kernel) (cK_open_fr l2.toNatClampNeg (gA s 17 l2.toNatClampNeg) (gA s 18 l2.toNatClampNeg) _ _ hs3))
    exact fr_tr (f1) (hkk (l2 + (1 : Int32)) _ _ h)
theorem cW_open_28_fr : ∀ (n : Nat) (l2 : Int32) (s : ts) (r : ts), cW_open_28 n l2 s = some r → fr wf_cW_open s r := by
  intro n
  induction n with
  | zero => intro l2 s r h; exact FN h
  | succ n ih =>
    intro l2 s r h
    rw [cW_open_28.eq_2] at h
    exact cW_open_28_b_fr (cW_open_28 n) ih l2 s r h
theorem cW_open_7_b_fr (kk : Int32 → ts → Option (ts)) (hkk : ∀ (a0 : Int32) (s : ts) (r : ts), kk a0 s = some r → fr wf_cW_open s r) (l2 : Int32) (s : ts) (r : ts) (h : cW_open_7_b kk l2 s = some r) : fr wf_cW_open s r := by
  unfold cW_open_7_b at h
  refine FI h (fun h => ?_) (fun h => ?_)
  · exact fr_tr (fr_rf) (cW_open_28_fr tm_N ((0 : Int32)) _ _ h)
  · replace h := FG h
    exact fr_tr (fr_wA (fr_rf) rfl) (hkk (l2 + (1 : Int32)) _ _ h)
theorem cW_open_7_fr : ∀ (n : Nat) (l2 : Int32) (s : ts) (r : ts), cW_open_7 n l2 s = some r → fr wf_cW_open s r := by
  intro n
  induction n with
  | zero => intro l2 s r h; exact FN h
  | succ n ih =>
    intro l2 s r h
    rw [cW_open_7.eq_2] at h
    exact cW_open_7_b_fr (cW_open_7 n) ih l2 s r h
theorem cW_open_fr (s : ts) (r : ts) (h : cW_open s = some r) : fr wf_cW_open s r := by
  unfold cW_open at h
  exact fr_tr (fr_wI (fr_rf) rfl) (cW_open_7_fr tm_N ((0 : Int32)) _ _ h)
theorem cO_clear_fr (s : ts) (r : ts) (h : cO_clear s = some r) : fr wf_cO_clear s r := by
  unfold cO_clear at h
  obtain ⟨s2, hs2, h⟩ := FB h
  have f1 := fr_tr (W := wf_cO_clear) (fr_rf) (fr_mono (by decide +kernel) (cN_clear_fr 28 _ _ hs2))
  obtain ⟨s5, hs5, h⟩ := FB h
  have f2 := fr_tr (W := wf_cO_clear) (f1) (fr_mono (by decide +kernel) (cN_clear_fr 29 _ _ hs5))
  exact FV h (fr_wI (fr_wI (fr_wI (f2) rfl) rfl) rfl)
theorem cH_open_fr (s : ts) (r : ts) (h : cH_open s = some r) : fr wf_cH_open s r := by
  unfold cH_open at h
  obtain ⟨s2, hs2, h⟩ := FB h
  have f1 := fr_tr (W := wf_cH_open) (fr_rf) (fr_mono (by decide +kernel) (cW_open_fr _ _ hs2))
  obtain ⟨s5, hs5, h⟩ := FB h
  have f2 := fr_tr (W := wf_cH_open) (f1) (fr_mono (by decide +kernel) (cO_clear_fr _ _ hs5))
  exact FV h (fr_wI (fr_wI (fr_wI (fr_wR (f2) rfl) rfl) rfl) rfl)
theorem cX_load_fr (s : ts) (r : Int32 × ts) (h : cX_load s = some r) : fr wf_cX_load s r.2 := by
  unfold cX_load at h
  obtain ⟨s2, hs2, h⟩ := FB h
  have f1 := fr_tr (W := wf_cX_load) (fr_rf) (fr_mono (by decide +kernel) (cT_part_fr (gI s 1 0) _ _ hs2))
  obtain ⟨x6, hx6, h⟩ := FB h
  have f2 := fr_tr (W := wf_cX_load) (fr_wI (f1) rfl) (fr_mono (by decide +kernel) (cD_readText_fr _ _ hx6))
  refine FI h (fun h => ?_) (fun h => ?_)
  · exact FS h (fr_wI (f2) rfl)
  · obtain ⟨s8, hs8, h⟩ := FB h
    have f3 := fr_tr (W := wf_cX_load) (fr_wI (f2) rfl) (fr_mono (by decide +kernel) (cH_open_fr _ _ hs8))
    exact FS h (f3)
theorem cR_good_fr (s : ts) (r : Int32 × ts) (h : cR_good s = some r) : fr wf_cR_good s r.2 := by
  unfold cR_good at h
  refine FI h (fun h => ?_) (fun h => ?_)
  · exact FS h (fr_rf)
  · exact FS h (fr_rf)
theorem cR_peek_fr (s : ts) (r : Int32 × ts) (h : cR_peek s = some r) : fr wf_cR_peek s r.2 := by
  unfold cR_peek at h
  refine FI h (fun h => ?_) (fun h => ?_)
  · exact FS h (fr_rf)
  · replace h := FG h
    exact FS h (fr_rf)
theorem cR_isLetter_12_fr (l0 : Int32) (s : ts) (r : Int32 × ts) (h : cR_isLetter_12 l0 s = some r) : fr wf_cR_isLetter s r.2 := by
  unfold cR_isLetter_12 at h
  refine FI h (fun h => ?_) (fun h => ?_)
  · exact FS h (fr_rf)
  · refine FI h (fun h => ?_) (fun h => ?_)
    · exact FS h (fr_rf)
    · exact FS h (fr_rf)
theorem cR_isLetter_fr (l0 : Int32) (s : ts) (r : Int32 × ts) (h : cR_isLetter l0 s = some r) : fr wf_cR_isLetter s r.2 := by
  unfold cR_isLetter at h
  refine FI h (fun h => ?_) (fun h => ?_)
  · exact fr_tr (fr_rf) (cR_isLetter_12_fr l0 _ _ h)
  · refine FI h (fun h => ?_) (fun h => ?_)
    · exact FS h (fr_rf)
    · exact fr_tr (fr_rf) (cR_isLetter_12_fr l0 _ _ h)
theorem cR_fail_fr (l1 : Int32) (l2 : Int32) (s : ts) (r : ts) (h : cR_fail l1 l2 s = some r) : fr wf_cR_fail s r := by
  unfold cR_fail at h
  refine FI h (fun h => ?_) (fun h => ?_)
  · exact FV h (fr_wI (fr_wI (fr_rf) rfl) rfl)
  · exact FV h (fr_rf)
theorem cR_skip_53_b_fr (k2 : Int32 → ts → Option (ts)) (kk : Int32 → ts → Option (ts)) (hk2 : ∀ (a0 : Int32) (s : ts) (r : ts), k2 a0 s = some r → fr wf_cR_skip s r) (hkk : ∀ (a0 : Int32) (s : ts) (r : ts), kk a0 s = some r → fr wf_cR_skip s r) (l1 : Int32) (s : ts) (r : ts) (h : cR_skip_53_b k2 kk l1 s = some r) : fr wf_cR_skip s r := by
  unfold cR_skip_53_b at h
  obtain ⟨x3, hx3, h⟩ := FB h
  have f1 := fr_tr (W := wf_cR_skip) (fr_rf) (fr_mono (by decide +kernel) (cR_peek_fr _ _ hx3))
  refine FI h (fun h => ?_) (fun h => ?_)
  · exact fr_tr (f1) (hk2 l1 _ _ h)
  · obtain ⟨x6, hx6, h⟩ := FB h
    have f2 := fr_tr (W := wf_cR_skip) (f1) (fr_mono (by decide +kernel) (cR_peek_fr _ _ hx6))
    refine FI h (fun h => ?_) (fun h => ?_)
    · exact fr_tr (f2) (hk2 l1 _ _ h)
    · exact fr_tr (fr_wI (f2) rfl) (hkk l1 _ _ h)
theorem cR_skip_53_fr (k2 : Int32 → ts → Option (ts)) (hk2 : ∀ (a0 : Int32) (s : ts) (r : ts), k2 a0 s = some r → fr wf_cR_skip s r) : ∀ (n : Nat) (l1 : Int32) (s : ts) (r : ts), cR_skip_53 k2 n l1 s = some r → fr wf_cR_skip s r := by
  intro n
  induction n with
  | zero => intro l1 s r h; exact FN h
  | succ n ih =>
    intro l1 s r h
    rw [cR_skip_53.eq_2] at h
    exact cR_skip_53_b_fr k2 (cR_skip_53 k2 n) hk2 ih l1 s r h
theorem cR_skip_46_fr (k2 : Int32 → ts → Option (ts)) (hk2 : ∀ (a0 : Int32) (s : ts) (r : ts), k2 a0 s = some r → fr wf_cR_skip s r) (l2 : Int32) (t0 : Int32) (s : ts) (r : ts) (h : cR_skip_46 k2 l2 t0 s = some r) : fr wf_cR_skip s r := by
  unfold cR_skip_46 at h
  refine FI h (fun h => ?_) (fun h => ?_)
  · exact fr_tr (fr_rf) (cR_skip_53_fr k2 hk2 tm_N t0 _ _ h)
  · refine FI h (fun h => ?_) (fun h => ?_)
    · exact fr_tr (fr_rf) (hk2 t0 _ _ h)
    · exact fr_tr (fr_wI (fr_rf) rfl) (hk2 t0 _ _ h)
theorem cR_skip_2_b_fr (kk : Int32 → ts → Option (ts)) (hkk : ∀ (a0 : Int32) (s : ts) (r : ts), kk a0 s = some r → fr wf_cR_skip s r) (l1 : Int32) (s : ts) (r : ts) (h : cR_skip_2_b kk l1 s = some r) : fr wf_cR_skip s r := by
  unfold cR_skip_2_b at h
  refine FI h (fun h => ?_) (fun h => ?_)
  · exact FV h (fr_rf)
  · obtain ⟨x3, hx3, h⟩ := FB h
    have f1 := fr_tr (W := wf_cR_skip) (fr_rf) (fr_mono (by decide +kernel) (cR_peek_fr _ _ hx3))
    refine FI h (fun h => ?_) (fun h => ?_)
    · exact fr_tr (f1) (cR_skip_46_fr kk hkk x3.1 ((1 : Int32)) _ _ h)
    · refine FI h (fun h => ?_) (fun h => ?_)
      · exact fr_tr (f1) (cR_skip_46_fr kk hkk x3.1 ((1 : Int32)) _ _ h)
      · refine FI h (fun h => ?_) (fun h => ?_)
        · exact fr_tr (f1) (cR_skip_46_fr kk hkk x3.1 ((1 : Int32)) _ _ h)
        · refine FI h (fun h => ?_) (fun h => ?_)
          · exact fr_tr (f1) (cR_skip_46_fr kk hkk x3.1 ((1 : Int32)) _ _ h)
          · refine FI h (fun h => ?_) (fun h => ?_)
            · exact fr_tr (f1) (cR_skip_46_fr kk hkk x3.1 ((1 : Int32)) _ _ h)
            · exact fr_tr (f1) (cR_skip_46_fr kk hkk x3.1 ((0 : Int32)) _ _ h)
theorem cR_skip_2_fr : ∀ (n : Nat) (l1 : Int32) (s : ts) (r : ts), cR_skip_2 n l1 s = some r → fr wf_cR_skip s r := by
  intro n
  induction n with
  | zero => intro l1 s r h; exact FN h
  | succ n ih =>
    intro l1 s r h
    rw [cR_skip_2.eq_2] at h
    exact cR_skip_2_b_fr (cR_skip_2 n) ih l1 s r h
theorem cR_skip_fr (s : ts) (r : ts) (h : cR_skip s = some r) : fr wf_cR_skip s r := by
  unfold cR_skip at h
  exact fr_tr (fr_rf) (cR_skip_2_fr tm_N ((1 : Int32)) _ _ h)
theorem cR_isDigit_fr (l0 : Int32) (s : ts) (r : Int32 × ts) (h : cR_isDigit l0 s = some r) : fr wf_cR_isDigit s r.2 := by
  unfold cR_isDigit at h
  refine FI h (fun h => ?_) (fun h => ?_)
  · exact FS h (fr_rf)
  · refine FI h (fun h => ?_) (fun h => ?_)
    · exact FS h (fr_rf)
    · exact FS h (fr_rf)
theorem cR_need_fr (l1 : Int32) (l2 : Int32) (s : ts) (r : ts) (h : cR_need l1 l2 s = some r) : fr wf_cR_need s r := by
  unfold cR_need at h
  refine FI h (fun h => ?_) (fun h => ?_)
  · obtain ⟨s2, hs2, h⟩ := FB h
    have f1 := fr_tr (W := wf_cR_need) (fr_rf) (fr_mono (by decide +kernel) (cR_fail_fr l2 (gI s 1107 0) _ _ hs2))
    exact FV h (f1)
  · exact FV h (fr_rf)
theorem cR_sign_84_fr (l1 : Int32) (s : ts) (r : ts) (h : cR_sign_84 l1 s = some r) : fr wf_cR_sign s r := by
  unfold cR_sign_84 at h
  refine FI h (fun h => ?_) (fun h => ?_)
  · exact FV h (fr_wI (fr_wI (fr_rf) rfl) rfl)
  · refine FI h (fun h => ?_) (fun h => ?_)
    · exact FV h (fr_wI (fr_wI (fr_rf) rfl) rfl)
    · refine FI h (fun h => ?_) (fun h => ?_)
      · exact FV h (fr_wI (fr_wI (fr_rf) rfl) rfl)
      · refine FI h (fun h => ?_) (fun h => ?_)
        · exact FV h (fr_wI (fr_wI (fr_rf) rfl) rfl)
        · refine FI h (fun h => ?_) (fun h => ?_)
          · exact FV h (fr_wI (fr_wI (fr_rf) rfl) rfl)
          · exact FV h (fr_wI (fr_wI (fr_rf) rfl) rfl)
theorem cR_sign_265_fr (t1 : Int32) (s : ts) (r : ts) (h : cR_sign_265 t1 s = some r) : fr wf_cR_sign s r := by
  unfold cR_sign_265 at h
  obtain ⟨s2, hs2, h⟩ := FB h
  have f1 := fr_tr (W := wf_cR_sign) (fr_rf) (fr_mono (by decide +kernel) (cR_need_fr t1 ((1 : Int32)) _ _ hs2))
  exact FV h (f1)
