/-! WHAT A FUNCTION MAY WRITE: printed by wip/tools/frames.py. -/
theorem cR_serveStore_7_b_fr (kk : Int32 → Int32 → Int32 → ts → Option (ts)) (hkk : ∀ (a0 : Int32) (a1 : Int32) (a2 : Int32) (s : ts) (r : ts), kk a0 a1 a2 s = some r → fr wf_cR_serveStore s r) (l1 : Int32) (l2 : Int32) (l3 : Int32) (s : ts) (r : ts) (h : cR_serveStore_7_b kk l1 l2 l3 s = some r) : fr wf_cR_serveStore s r := by
  unfold cR_serveStore_7_b at h
  refine FI h (fun h => ?_) (fun h => ?_)
  · exact FV h (fr_rf)
  · replace h := FG h
    refine FI h (fun h => ?_) (fun h => ?_)
    · exact fr_tr (fr_rf) (cR_serveStore_94_fr kk hkk l1 l2 l3 (((300 : Int32)) * (((14 : Int32)) + l2)) _ _ h)
    · replace h := FG h
      replace h := FG h
      refine FI h (fun h => ?_) (fun h => ?_)
      · exact fr_tr (fr_rf) (cR_serveStore_94_fr kk hkk l1 l2 l3 (((300 : Int32)) * (((14 : Int32)) + l2)) _ _ h)
      · obtain ⟨s5, hs5, h⟩ := FB h
        have f1 := fr_tr (W := wf_cR_serveStore) (fr_wA (fr_rf) rfl) (fr_mono (by decide +kernel) (cR_drop_fr l2 ((0 : Int32)) _ _ hs5))
        obtain ⟨s8, hs8, h⟩ := FB h
        have f2 := fr_tr (W := wf_cR_serveStore) (f1) (fr_mono (by decide +kernel) (cR_count_fr l2 (gA s 137 (((300 : Int32)) * l2).toNatClampNeg) _ _ hs8))
        exact fr_tr (f2) (hkk l1 l2 l3 _ _ h)
theorem cR_serveStore_7_fr : ∀ (n : Nat) (l1 : Int32) (l2 : Int32) (l3 : Int32) (s : ts) (r : ts), cR_serveStore_7 n l1 l2 l3 s = some r → fr wf_cR_serveStore s r := by
  intro n
  induction n with
  | zero => intro l1 l2 l3 s r h; exact FN h
  | succ n ih =>
    intro l1 l2 l3 s r h
    rw [cR_serveStore_7.eq_2] at h
    exact cR_serveStore_7_b_fr (cR_serveStore_7 n) ih l1 l2 l3 s r h
theorem cR_serveStore_fr (l1 : Int32) (s : ts) (r : ts) (h : cR_serveStore l1 s = some r) : fr wf_cR_serveStore s r := by
  unfold cR_serveStore at h
  exact fr_tr (fr_rf) (cR_serveStore_7_fr tm_N l1 (((8 : Int32)) + l1) ((1 : Int32)) _ _ h)
theorem cR_leaveAwaits_4_b_fr (kk : Int32 → Int32 → Int32 → ts → Option (ts)) (hkk : ∀ (a0 : Int32) (a1 : Int32) (a2 : Int32) (s : ts) (r : ts), kk a0 a1 a2 s = some r → fr wf_cR_leaveAwaits s r) (l1 : Int32) (l2 : Int32) (l3 : Int32) (s : ts) (r : ts) (h : cR_leaveAwaits_4_b kk l1 l2 l3 s = some r) : fr wf_cR_leaveAwaits s r := by
  unfold cR_leaveAwaits_4_b at h
  refine FI h (fun h => ?_) (fun h => ?_)
  · exact FV h (fr_wI (fr_rf) rfl)
  · replace h := FG h
    refine FI h (fun h => ?_) (fun h => ?_)
    · exact fr_tr (fr_rf) (hkk l1 l2 (l3 + (1 : Int32)) _ _ h)
    · replace h := FG h
      exact fr_tr (fr_wA (fr_rf) rfl) (hkk l1 (l2 + (1 : Int32)) (l3 + (1 : Int32)) _ _ h)
theorem cR_leaveAwaits_4_fr : ∀ (n : Nat) (l1 : Int32) (l2 : Int32) (l3 : Int32) (s : ts) (r : ts), cR_leaveAwaits_4 n l1 l2 l3 s = some r → fr wf_cR_leaveAwaits s r := by
  intro n
  induction n with
  | zero => intro l1 l2 l3 s r h; exact FN h
  | succ n ih =>
    intro l1 l2 l3 s r h
    rw [cR_leaveAwaits_4.eq_2] at h
    exact cR_leaveAwaits_4_b_fr (cR_leaveAwaits_4 n) ih l1 l2 l3 s r h
theorem cR_leaveAwaits_fr (l1 : Int32) (s : ts) (r : ts) (h : cR_leaveAwaits l1 s = some r) : fr wf_cR_leaveAwaits s r := by
  unfold cR_leaveAwaits at h
  exact fr_tr (fr_rf) (cR_leaveAwaits_4_fr tm_N l1 ((0 : Int32)) ((0 : Int32)) _ _ h)
theorem cR_serveResource_0_b_fr (kk : Int32 → ts → Option (ts)) (hkk : ∀ (a0 : Int32) (s : ts) (r : ts), kk a0 s = some r → fr wf_cR_serveResource s r) (l1 : Int32) (s : ts) (r : ts) (h : cR_serveResource_0_b kk l1 s = some r) : fr wf_cR_serveResource s r := by
  unfold cR_serveResource_0_b at h
  replace h := FG h
  refine FI h (fun h => ?_) (fun h => ?_)
  · exact FV h (fr_rf)
  · replace h := FG h
    refine FI h (fun h => ?_) (fun h => ?_)
    · exact FV h (fr_rf)
    · replace h := FG h
      obtain ⟨s5, hs5, h⟩ := FB h
      have f1 := fr_tr (W := wf_cR_serveResource) (fr_rf) (fr_mono (by decide +kernel) (cR_drop_fr l1 ((0 : Int32)) _ _ hs5))
      replace h := FG h
      obtain ⟨s9, hs9, h⟩ := FB h
      have f2 := fr_tr (W := wf_cR_serveResource) (fr_wA (fr_wA (f1) rfl) rfl) (fr_mono (by decide +kernel) (cR_count_fr l1 (gA s 137 (((300 : Int32)) * l1).toNatClampNeg) _ _ hs9))
      exact fr_tr (f2) (hkk l1 _ _ h)
theorem cR_serveResource_0_fr : ∀ (n : Nat) (l1 : Int32) (s : ts) (r : ts), cR_serveResource_0 n l1 s = some r → fr wf_cR_serveResource s r := by
  intro n
  induction n with
  | zero => intro l1 s r h; exact FN h
  | succ n ih =>
    intro l1 s r h
    rw [cR_serveResource_0.eq_2] at h
    exact cR_serveResource_0_b_fr (cR_serveResource_0 n) ih l1 s r h
theorem cR_serveResource_fr (l1 : Int32) (s : ts) (r : ts) (h : cR_serveResource l1 s = some r) : fr wf_cR_serveResource s r := by
  unfold cR_serveResource at h
  exact fr_tr (fr_rf) (cR_serveResource_0_fr tm_N l1 _ _ h)
theorem cR_finish_153_b_fr (k144 : Int32 → Int32 → ts → Option (ts)) (kk : Int32 → Int32 → ts → Option (ts)) (hk144 : ∀ (a0 : Int32) (a1 : Int32) (s : ts) (r : ts), k144 a0 a1 s = some r → fr wf_cR_finish s r) (hkk : ∀ (a0 : Int32) (a1 : Int32) (s : ts) (r : ts), kk a0 a1 s = some r → fr wf_cR_finish s r) (l1 : Int32) (l4 : Int32) (s : ts) (r : ts) (h : cR_finish_153_b k144 kk l1 l4 s = some r) : fr wf_cR_finish s r := by
  unfold cR_finish_153_b at h
  replace h := FG h
  refine FI h (fun h => ?_) (fun h => ?_)
  · exact fr_tr (fr_rf) (hk144 l1 (l4 + (1 : Int32)) _ _ h)
  · replace h := FG h
    obtain ⟨s4, hs4, h⟩ := FB h
    have f1 := fr_tr (W := wf_cR_finish) (fr_wA (fr_wA (fr_rf) rfl) rfl) (fr_mono (by decide +kernel) (cR_serveResource_fr l4 _ _ hs4))
    exact fr_tr (f1) (hkk l1 l4 _ _ h)
theorem cR_finish_153_fr (k144 : Int32 → Int32 → ts → Option (ts)) (hk144 : ∀ (a0 : Int32) (a1 : Int32) (s : ts) (r : ts), k144 a0 a1 s = some r → fr wf_cR_finish s r) : ∀ (n : Nat) (l1 : Int32) (l4 : Int32) (s : ts) (r : ts), cR_finish_153 k144 n l1 l4 s = some r → fr wf_cR_finish s r := by
  intro n
  induction n with
  | zero => intro l1 l4 s r h; exact FN h
  | succ n ih =>
    intro l1 l4 s r h
    rw [cR_finish_153.eq_2] at h
    exact cR_finish_153_b_fr k144 (cR_finish_153 k144 n) hk144 ih l1 l4 s r h
theorem cR_finish_144_b_fr (kk : Int32 → Int32 → ts → Option (ts)) (hkk : ∀ (a0 : Int32) (a1 : Int32) (s : ts) (r : ts), kk a0 a1 s = some r → fr wf_cR_finish s r) (l1 : Int32) (l4 : Int32) (s : ts) (r : ts) (h : cR_finish_144_b kk l1 l4 s = some r) : fr wf_cR_finish s r := by
  unfold cR_finish_144_b at h
  refine FI h (fun h => ?_) (fun h => ?_)
  · exact FV h (fr_rf)
  · exact fr_tr (fr_rf) (cR_finish_153_fr kk hkk tm_N l1 l4 _ _ h)
theorem cR_finish_144_fr : ∀ (n : Nat) (l1 : Int32) (l4 : Int32) (s : ts) (r : ts), cR_finish_144 n l1 l4 s = some r → fr wf_cR_finish s r := by
  intro n
  induction n with
  | zero => intro l1 l4 s r h; exact FN h
  | succ n ih =>
    intro l1 l4 s r h
    rw [cR_finish_144.eq_2] at h
    exact cR_finish_144_b_fr (cR_finish_144 n) ih l1 l4 s r h
theorem cR_finish_62_fr (l1 : Int32) (l3 : Int32) (t1 : Int32) (t2 : Int32) (s : ts) (r : ts) (h : cR_finish_62 l1 l3 t1 t2 s = some r) : fr wf_cR_finish s r := by
  unfold cR_finish_62 at h
  refine FI h (fun h => ?_) (fun h => ?_)
  · replace h := FG h
    obtain ⟨s18, hs18, h⟩ := FB h
    have f1 := fr_tr (W := wf_cR_finish) (fr_wI (fr_rf) rfl) (fr_mono (by decide +kernel) (cR_leaveRow_fr (gA (wI s 1157 0 (t1 + t2)) 125 l1.toNatClampNeg) l1 _ _ hs18))
    exact fr_tr (f1) (cR_finish_144_fr tm_N l1 ((0 : Int32)) _ _ h)
  · refine FI h (fun h => ?_) (fun h => ?_)
    · replace h := FG h
      obtain ⟨s7, hs7, h⟩ := FB h
      have f2 := fr_tr (W := wf_cR_finish) (fr_wI (fr_rf) rfl) (fr_mono (by decide +kernel) (cR_leaveRow_fr (gA (wI s 1157 0 (t1 + t2)) 125 l1.toNatClampNeg) l1 _ _ hs7))
      obtain ⟨s10, hs10, h⟩ := FB h
      have f3 := fr_tr (W := wf_cR_finish) (f2) (fr_mono (by decide +kernel) (cR_leaveRow_fr (((14 : Int32)) + (gA s7 125 l1.toNatClampNeg)) l1 _ _ hs10))
      obtain ⟨s13, hs13, h⟩ := FB h
      have f4 := fr_tr (W := wf_cR_finish) (f3) (fr_mono (by decide +kernel) (cR_serveStore_fr ((gA s10 125 l1.toNatClampNeg) - ((8 : Int32))) _ _ hs13))
      exact fr_tr (f4) (cR_finish_144_fr tm_N l1 ((0 : Int32)) _ _ h)
    · refine FI h (fun h => ?_) (fun h => ?_)
      · obtain ⟨s2, hs2, h⟩ := FB h
        have f5 := fr_tr (W := wf_cR_finish) (fr_wI (fr_rf) rfl) (fr_mono (by decide +kernel) (cR_leaveAwaits_fr l1 _ _ hs2))
        exact fr_tr (f5) (cR_finish_144_fr tm_N l1 ((0 : Int32)) _ _ h)
      · exact fr_tr (fr_wI (fr_rf) rfl) (cR_finish_144_fr tm_N l1 ((0 : Int32)) _ _ h)
theorem cR_finish_44_fr (l1 : Int32) (l2 : Int32) (l3 : Int32) (t1 : Int32) (t2 : Int32) (s : ts) (r : ts) (h : cR_finish_44 l1 l2 l3 t1 t2 s = some r) : fr wf_cR_finish s r := by
  unfold cR_finish_44 at h
  refine FI h (fun h => ?_) (fun h => ?_)
  · exact fr_tr (fr_wI (fr_rf) rfl) (cR_finish_62_fr l1 l3 (gI (wI s 1156 0 (t1 + t2)) 1157 0) ((0 : Int32)) _ _ h)
  · exact fr_tr (fr_wI (fr_rf) rfl) (cR_finish_62_fr l1 l3 (gI (wI s 1156 0 (t1 + t2)) 1157 0) ((1 : Int32)) _ _ h)
theorem cR_finish_22_fr (l1 : Int32) (l2 : Int32) (l3 : Int32) (t1 : Int32) (t2 : Int32) (s : ts) (r : ts) (h : cR_finish_22 l1 l2 l3 t1 t2 s = some r) : fr wf_cR_finish s r := by
  unfold cR_finish_22 at h
  replace h := FG h
  replace h := FG h
  refine FI h (fun h => ?_) (fun h => ?_)
  · exact fr_tr (fr_wA (fr_wA (fr_rf) rfl) rfl) (cR_finish_44_fr l1 l2 l3 (gI (wA (wA s 120 t1.toNatClampNeg t2) 126 l1.toNatClampNeg l2) 1156 0) ((1 : Int32)) _ _ h)
  · exact fr_tr (fr_wA (fr_wA (fr_rf) rfl) rfl) (cR_finish_44_fr l1 l2 l3 (gI (wA (wA s 120 t1.toNatClampNeg t2) 126 l1.toNatClampNeg l2) 1156 0) ((0 : Int32)) _ _ h)
theorem cR_finish_fr (l1 : Int32) (l2 : Int32) (s : ts) (r : ts) (h : cR_finish l1 l2 s = some r) : fr wf_cR_finish s r := by
  unfold cR_finish at h
  replace h := FG h
  refine FI h (fun h => ?_) (fun h => ?_)
  · exact fr_tr (fr_rf) (cR_finish_22_fr l1 l2 (gA s 120 l1.toNatClampNeg) l1 ((5 : Int32)) _ _ h)
  · exact fr_tr (fr_rf) (cR_finish_22_fr l1 l2 (gA s 120 l1.toNatClampNeg) l1 ((6 : Int32)) _ _ h)
theorem cR_draw_fr (l1 : Int32) (s : ts) (r : Int32 × ts) (h : cR_draw l1 s = some r) : fr wf_cR_draw s r.2 := by
  unfold cR_draw at h
  refine FI h (fun h => ?_) (fun h => ?_)
  · replace h := FG h
    exact FS h (fr_wI (fr_rf) rfl)
  · exact FS h (fr_wI (fr_rf) rfl)
theorem cR_two_23_fr (l1 : Int32) (l2 : Int32) (l3 : Int32) (s : ts) (r : Int32 × ts) (h : cR_two_23 l1 l2 l3 s = some r) : fr wf_cR_two s r.2 := by
  unfold cR_two_23 at h
  refine FI h (fun h => ?_) (fun h => ?_)
  · replace h := FG h
    exact FS h (fr_rf)
  · refine FI h (fun h => ?_) (fun h => ?_)
    · exact FS h (fr_rf)
    · refine FI h (fun h => ?_) (fun h => ?_)
      · exact FS h (fr_rf)
      · refine FI h (fun h => ?_) (fun h => ?_)
        · exact FS h (fr_rf)
        · refine FI h (fun h => ?_) (fun h => ?_)
          · replace h := FG h
            exact FS h (fr_rf)
          · refine FI h (fun h => ?_) (fun h => ?_)
            · refine FI h (fun h => ?_) (fun h => ?_)
              · exact FS h (fr_rf)
              · exact FS h (fr_rf)
            · refine FI h (fun h => ?_) (fun h => ?_)
              · refine FI h (fun h => ?_) (fun h => ?_)
                · exact FS h (fr_rf)
                · exact FS h (fr_rf)
              · refine FI h (fun h => ?_) (fun h => ?_)
                · refine FI h (fun h => ?_) (fun h => ?_)
                  · exact FS h (fr_rf)
                  · exact FS h (fr_rf)
                · refine FI h (fun h => ?_) (fun h => ?_)
                  · refine FI h (fun h => ?_) (fun h => ?_)
                    · exact FS h (fr_rf)
                    · exact FS h (fr_rf)
                  · refine FI h (fun h => ?_) (fun h => ?_)
                    · refine FI h (fun h => ?_) (fun h => ?_)
                      · exact FS h (fr_rf)
                      · exact FS h (fr_rf)
                    · refine FI h (fun h => ?_) (fun h => ?_)
                      · exact FS h (fr_rf)
                      · exact FS h (fr_rf)
theorem cR_two_12_fr (l1 : Int32) (l2 : Int32) (l3 : Int32) (s : ts) (r : Int32 × ts) (h : cR_two_12 l1 l2 l3 s = some r) : fr wf_cR_two s r.2 := by
  unfold cR_two_12 at h
  refine FI h (fun h => ?_) (fun h => ?_)
  · exact FS h (fr_wI (fr_rf) rfl)
  · exact fr_tr (fr_rf) (cR_two_23_fr l1 l2 l3 _ _ h)
theorem cR_two_fr (l1 : Int32) (l2 : Int32) (l3 : Int32) (s : ts) (r : Int32 × ts) (h : cR_two l1 l2 l3 s = some r) : fr wf_cR_two s r.2 := by
  unfold cR_two at h
  refine FI h (fun h => ?_) (fun h => ?_)
  · exact fr_tr (fr_rf) (cR_two_12_fr l1 l2 l3 _ _ h)
  · refine FI h (fun h => ?_) (fun h => ?_)
    · exact fr_tr (fr_rf) (cR_two_12_fr l1 l2 l3 _ _ h)
    · exact fr_tr (fr_rf) (cR_two_23_fr l1 l2 l3 _ _ h)
theorem cR_reckon_68_fr (k10 : Int32 → Int32 → Int32 → ts → Option (Int32 × ts)) (hk10 : ∀ (a0 : Int32) (a1 : Int32) (a2 : Int32) (s : ts) (r : Int32 × ts), k10 a0 a1 a2 s = some r → fr wf_cR_reckon s r.2) (l2 : Int32) (l3 : Int32) (l4 : Int32) (l5 : Int32) (l6 : Int32) (s : ts) (r : Int32 × ts) (h : cR_reckon_68 k10 l2 l3 l4 l5 l6 s = some r) : fr wf_cR_reckon s r.2 := by
  unfold cR_reckon_68 at h
  refine FI h (fun h => ?_) (fun h => ?_)
  · replace h := FG h
    exact fr_tr (fr_wA (fr_rf) rfl) (hk10 l2 (l3 + (1 : Int32)) l4 _ _ h)
  · refine FI h (fun h => ?_) (fun h => ?_)
    · replace h := FG h
      replace h := FG h
      exact fr_tr (fr_wA (fr_rf) rfl) (hk10 l2 (l3 + (1 : Int32)) l4 _ _ h)
    · refine FI h (fun h => ?_) (fun h => ?_)
      · replace h := FG h
        replace h := FG h
        exact fr_tr (fr_wA (fr_rf) rfl) (hk10 l2 (l3 + (1 : Int32)) l4 _ _ h)
      · refine FI h (fun h => ?_) (fun h => ?_)
        · replace h := FG h
          exact fr_tr (fr_wA (fr_rf) rfl) (hk10 l2 (l3 + (1 : Int32)) l4 _ _ h)
        · refine FI h (fun h => ?_) (fun h => ?_)
          · replace h := FG h
            exact fr_tr (fr_wA (fr_rf) rfl) (hk10 l2 (l3 + (1 : Int32)) l4 _ _ h)
          · refine FI h (fun h => ?_) (fun h => ?_)
            · replace h := FG h
              replace h := FG h
              exact fr_tr (fr_wA (fr_rf) rfl) (hk10 l2 (l3 + (1 : Int32)) l4 _ _ h)
            · obtain ⟨x3, hx3, h⟩ := FB h
              have f1 := fr_tr (W := wf_cR_reckon) (fr_rf) (fr_mono (by decide +kernel) (cR_waitingAt_fr l6 _ _ hx3))
              replace h := FG h
              exact fr_tr (fr_wA (f1) rfl) (hk10 l2 (l3 + (1 : Int32)) l4 _ _ h)
theorem cR_reckon_220_fr (k10 : Int32 → Int32 → Int32 → ts → Option (Int32 × ts)) (hk10 : ∀ (a0 : Int32) (a1 : Int32) (a2 : Int32) (s : ts) (r : Int32 × ts), k10 a0 a1 a2 s = some r → fr wf_cR_reckon s r.2) (l2 : Int32) (l3 : Int32) (l4 : Int32) (l6 : Int32) (l7 : Int32) (t0 : Int32) (t1 : Int32) (s : ts) (r : Int32 × ts) (h : cR_reckon_220 k10 l2 l3 l4 l6 l7 t0 t1 s = some r) : fr wf_cR_reckon s r.2 := by
  unfold cR_reckon_220 at h
  refine FI h (fun h => ?_) (fun h => ?_)
  · refine FI h (fun h => ?_) (fun h => ?_)
    · replace h := FG h
      exact fr_tr (fr_wA (fr_rf) rfl) (hk10 l2 l3 l6 _ _ h)
    · replace h := FG h
      exact fr_tr (fr_wA (fr_rf) rfl) (hk10 l2 l3 l6 _ _ h)
  · exact fr_tr (fr_rf) (hk10 l2 (l3 + (-1 : Int32)) l4 _ _ h)
theorem cR_reckon_204_fr (k10 : Int32 → Int32 → Int32 → ts → Option (Int32 × ts)) (hk10 : ∀ (a0 : Int32) (a1 : Int32) (a2 : Int32) (s : ts) (r : Int32 × ts), k10 a0 a1 a2 s = some r → fr wf_cR_reckon s r.2) (l2 : Int32) (l3 : Int32) (l4 : Int32) (l5 : Int32) (l6 : Int32) (t0 : Int32) (s : ts) (r : Int32 × ts) (h : cR_reckon_204 k10 l2 l3 l4 l5 l6 t0 s = some r) : fr wf_cR_reckon s r.2 := by
  unfold cR_reckon_204 at h
  refine FI h (fun h => ?_) (fun h => ?_)
  · exact fr_tr (fr_rf) (cR_reckon_220_fr k10 hk10 l2 l3 l4 l6 t0 t0 ((1 : Int32)) _ _ h)
  · exact fr_tr (fr_rf) (cR_reckon_220_fr k10 hk10 l2 l3 l4 l6 t0 t0 ((0 : Int32)) _ _ h)
theorem cR_reckon_188_fr (k10 : Int32 → Int32 → Int32 → ts → Option (Int32 × ts)) (hk10 : ∀ (a0 : Int32) (a1 : Int32) (a2 : Int32) (s : ts) (r : Int32 × ts), k10 a0 a1 a2 s = some r → fr wf_cR_reckon s r.2) (l2 : Int32) (l3 : Int32) (l4 : Int32) (l5 : Int32) (l6 : Int32) (s : ts) (r : Int32 × ts) (h : cR_reckon_188 k10 l2 l3 l4 l5 l6 s = some r) : fr wf_cR_reckon s r.2 := by
  unfold cR_reckon_188 at h
  replace h := FG h
  refine FI h (fun h => ?_) (fun h => ?_)
  · exact fr_tr (fr_rf) (cR_reckon_204_fr k10 hk10 l2 l3 l4 l5 l6 ((0 : Int32)) _ _ h)
  · exact fr_tr (fr_rf) (cR_reckon_204_fr k10 hk10 l2 l3 l4 l5 l6 ((1 : Int32)) _ _ h)
theorem cR_reckon_10_b_fr (kk : Int32 → Int32 → Int32 → ts → Option (Int32 × ts)) (hkk : ∀ (a0 : Int32) (a1 : Int32) (a2 : Int32) (s : ts) (r : Int32 × ts), kk a0 a1 a2 s = some r → fr wf_cR_reckon s r.2) (l2 : Int32) (l3 : Int32) (l4 : Int32) (s : ts) (r : Int32 × ts) (h : cR_reckon_10_b kk l2 l3 l4 s = some r) : fr wf_cR_reckon s r.2 := by
  unfold cR_reckon_10_b at h
  replace h := FG h
  refine FI h (fun h => ?_) (fun h => ?_)
  · exact FS h (fr_rf)
  · refine FI h (fun h => ?_) (fun h => ?_)
    · refine FI h (fun h => ?_) (fun h => ?_)
      · exact fr_tr (fr_rf) (cR_reckon_68_fr kk hkk l2 l3 (l4 + (1 : Int32)) (gA s 110 l4.toNatClampNeg) (gA s 111 l4.toNatClampNeg) _ _ h)
      · refine FI h (fun h => ?_) (fun h => ?_)
        · exact fr_tr (fr_rf) (cR_reckon_68_fr kk hkk l2 l3 (l4 + (1 : Int32)) (gA s 110 l4.toNatClampNeg) (gA s 111 l4.toNatClampNeg) _ _ h)
        · refine FI h (fun h => ?_) (fun h => ?_)
          · exact fr_tr (fr_rf) (cR_reckon_68_fr kk hkk l2 l3 (l4 + (1 : Int32)) (gA s 110 l4.toNatClampNeg) (gA s 111 l4.toNatClampNeg) _ _ h)
          · refine FI h (fun h => ?_) (fun h => ?_)
            · exact fr_tr (fr_rf) (cR_reckon_188_fr kk hkk l2 l3 (l4 + (1 : Int32)) (gA s 110 l4.toNatClampNeg) (gA s 111 l4.toNatClampNeg) _ _ h)
            · refine FI h (fun h => ?_) (fun h => ?_)
              · exact fr_tr (fr_rf) (cR_reckon_188_fr kk hkk l2 l3 (l4 + (1 : Int32)) (gA s 110 l4.toNatClampNeg) (gA s 111 l4.toNatClampNeg) _ _ h)
              · refine FI h (fun h => ?_) (fun h => ?_)
                · replace h := FG h
                  replace h := FG h
                  obtain ⟨x6, hx6, h⟩ := FB h
                  have f1 := fr_tr (W := wf_cR_reckon) (fr_rf) (fr_mono (by decide +kernel) (cR_two_fr (gA s 110 l4.toNatClampNeg) (gA s 140 ((l3 + (-1 : Int32)) - ((1 : Int32))).toNatClampNeg) (gA s 140 (l3 + (-1 : Int32)).toNatClampNeg) _ _ hx6))
                  exact fr_tr (fr_wA (f1) rfl) (hkk l2 (l3 + (-1 : Int32)) (l4 + (1 : Int32)) _ _ h)
                · replace h := FG h
                  refine FI h (fun h => ?_) (fun h => ?_)
                  · obtain ⟨x14, hx14, h⟩ := FB h
                    have f2 := fr_tr (W := wf_cR_reckon) (fr_rf) (fr_mono (by decide +kernel) (cR_draw_fr (gA s 140 (l3 - ((1 : Int32))).toNatClampNeg) _ _ hx14))
                    exact fr_tr (fr_wA (f2) rfl) (hkk l2 l3 (l4 + (1 : Int32)) _ _ h)
                  · refine FI h (fun h => ?_) (fun h => ?_)
                    · exact fr_tr (fr_wA (fr_rf) rfl) (hkk l2 l3 (l4 + (1 : Int32)) _ _ h)
                    · refine FI h (fun h => ?_) (fun h => ?_)
                      · refine FI h (fun h => ?_) (fun h => ?_)
                        · exact fr_tr (fr_wA (fr_rf) rfl) (hkk l2 l3 (l4 + (1 : Int32)) _ _ h)
                        · exact fr_tr (fr_wA (fr_rf) rfl) (hkk l2 l3 (l4 + (1 : Int32)) _ _ h)
                      · refine FI h (fun h => ?_) (fun h => ?_)
                        · exact fr_tr (fr_wA (fr_rf) rfl) (hkk l2 l3 (l4 + (1 : Int32)) _ _ h)
                        · exact fr_tr (fr_wA (fr_rf) rfl) (hkk l2 l3 (l4 + (1 : Int32)) _ _ h)
    · exact FS h (fr_rf)
theorem cR_reckon_10_fr : ∀ (n : Nat) (l2 : Int32) (l3 : Int32) (l4 : Int32) (s : ts) (r : Int32 × ts), cR_reckon_10 n l2 l3 l4 s = some r → fr wf_cR_reckon s r.2 := by
  intro n
  induction n with
  | zero => intro l2 l3 l4 s r h; exact FN h
  | succ n ih =>
    intro l2 l3 l4 s r h
    rw [cR_reckon_10.eq_2] at h
    exact cR_reckon_10_b_fr (cR_reckon_10 n) ih l2 l3 l4 s r h
theorem cR_reckon_fr (l1 : Int32) (l2 : Int32) (s : ts) (r : Int32 × ts) (h : cR_reckon l1 l2 s = some r) : fr wf_cR_reckon s r.2 := by
  unfold cR_reckon at h
  exact fr_tr (fr_wI (fr_rf) rfl) (cR_reckon_10_fr tm_N l2 ((0 : Int32)) l1 _ _ h)
theorem cR_endTurn_121_fr (k48 : Int32 → Int32 → ts → Option (ts)) (hk48 : ∀ (a0 : Int32) (a1 : Int32) (s : ts) (r : ts), k48 a0 a1 s = some r → fr wf_cR_endTurn s r) (l1 : Int32) (l2 : Int32) (l3 : Int32) (l4 : Int32) (s : ts) (r : ts) (h : cR_endTurn_121 k48 l1 l2 l3 l4 s = some r) : fr wf_cR_endTurn s r := by
  unfold cR_endTurn_121 at h
  replace h := FG h
  refine FI h (fun h => ?_) (fun h => ?_)
  · refine FI h (fun h => ?_) (fun h => ?_)
    · exact fr_tr (fr_rf) (hk48 l1 (l2 + (1 : Int32)) _ _ h)
    · obtain ⟨s3, hs3, h⟩ := FB h
      have f1 := fr_tr (W := wf_cR_endTurn) (fr_rf) (fr_mono (by decide +kernel) (cR_leaveAwaits_fr l3 _ _ hs3))
      obtain ⟨s6, hs6, h⟩ := FB h
      have f2 := fr_tr (W := wf_cR_endTurn) (fr_wA (f1) rfl) (fr_mono (by decide +kernel) (cR_calendar_fr l3 ((0 : Int32)) (gI (wA s3 121 l3.toNatClampNeg ((gA s3 121 l3.toNatClampNeg) + ((1 : Int32)))) 1152 0) _ _ hs6))
      exact fr_tr (f2) (hk48 l1 (l2 + (1 : Int32)) _ _ h)
  · exact fr_tr (fr_rf) (hk48 l1 (l2 + (1 : Int32)) _ _ h)
theorem cR_endTurn_90_fr (k48 : Int32 → Int32 → ts → Option (ts)) (hk48 : ∀ (a0 : Int32) (a1 : Int32) (s : ts) (r : ts), k48 a0 a1 s = some r → fr wf_cR_endTurn s r) (l1 : Int32) (l2 : Int32) (l3 : Int32) (t0 : Int32) (s : ts) (r : ts) (h : cR_endTurn_90 k48 l1 l2 l3 t0 s = some r) : fr wf_cR_endTurn s r := by
  unfold cR_endTurn_90 at h
  replace h := FG h
  refine FI h (fun h => ?_) (fun h => ?_)
  · refine FI h (fun h => ?_) (fun h => ?_)
    · exact fr_tr (fr_rf) (cR_endTurn_121_fr k48 hk48 l1 l2 l3 t0 _ _ h)
    · obtain ⟨s3, hs3, h⟩ := FB h
      have f1 := fr_tr (W := wf_cR_endTurn) (fr_rf) (fr_mono (by decide +kernel) (cR_finish_fr l3 (gI s 1188 0) _ _ hs3))
      exact fr_tr (f1) (hk48 l1 (l2 + (1 : Int32)) _ _ h)
  · exact fr_tr (fr_rf) (cR_endTurn_121_fr k48 hk48 l1 l2 l3 t0 _ _ h)
theorem cR_endTurn_48_b_fr (kk : Int32 → Int32 → ts → Option (ts)) (hkk : ∀ (a0 : Int32) (a1 : Int32) (s : ts) (r : ts), kk a0 a1 s = some r → fr wf_cR_endTurn s r) (l1 : Int32) (l2 : Int32) (s : ts) (r : ts) (h : cR_endTurn_48_b kk l1 l2 s = some r) : fr wf_cR_endTurn s r := by
  unfold cR_endTurn_48_b at h
  refine FI h (fun h => ?_) (fun h => ?_)
  · exact FV h (fr_rf)
  · replace h := FG h
    replace h := FG h
    refine FI h (fun h => ?_) (fun h => ?_)
    · replace h := FG h
      obtain ⟨x6, hx6, h⟩ := FB h
      have f1 := fr_tr (W := wf_cR_endTurn) (fr_rf) (fr_mono (by decide +kernel) (cR_reckon_fr (gA s 101 (gA s 121 (gA s 141 l2.toNatClampNeg).toNatClampNeg).toNatClampNeg) (gA s 141 l2.toNatClampNeg) _ _ hx6))
      exact fr_tr (f1) (cR_endTurn_90_fr kk hkk l1 l2 (gA s 141 l2.toNatClampNeg) x6.1 _ _ h)
    · exact fr_tr (fr_rf) (cR_endTurn_90_fr kk hkk l1 l2 (gA s 141 l2.toNatClampNeg) ((0 : Int32)) _ _ h)
theorem cR_endTurn_48_fr : ∀ (n : Nat) (l1 : Int32) (l2 : Int32) (s : ts) (r : ts), cR_endTurn_48 n l1 l2 s = some r → fr wf_cR_endTurn s r := by
  intro n
  induction n with
  | zero => intro l1 l2 s r h; exact FN h
  | succ n ih =>
    intro l1 l2 s r h
    rw [cR_endTurn_48.eq_2] at h
    exact cR_endTurn_48_b_fr (cR_endTurn_48 n) ih l1 l2 s r h
theorem cR_endTurn_23_b_fr (kk : Int32 → Int32 → ts → Option (ts)) (hkk : ∀ (a0 : Int32) (a1 : Int32) (s : ts) (r : ts), kk a0 a1 s = some r → fr wf_cR_endTurn s r) (l1 : Int32) (l2 : Int32) (s : ts) (r : ts) (h : cR_endTurn_23_b kk l1 l2 s = some r) : fr wf_cR_endTurn s r := by
  unfold cR_endTurn_23_b at h
  refine FI h (fun h => ?_) (fun h => ?_)
  · exact fr_tr (fr_rf) (cR_endTurn_48_fr tm_N l1 ((0 : Int32)) _ _ h)
  · replace h := FG h
    exact fr_tr (fr_wA (fr_rf) rfl) (hkk l1 (l2 + (1 : Int32)) _ _ h)
theorem cR_endTurn_23_fr : ∀ (n : Nat) (l1 : Int32) (l2 : Int32) (s : ts) (r : ts), cR_endTurn_23 n l1 l2 s = some r → fr wf_cR_endTurn s r := by
  intro n
  induction n with
  | zero => intro l1 l2 s r h; exact FN h
  | succ n ih =>
    intro l1 l2 s r h
    rw [cR_endTurn_23.eq_2] at h
    exact cR_endTurn_23_b_fr (cR_endTurn_23 n) ih l1 l2 s r h
theorem cR_endTurn_fr (s : ts) (r : ts) (h : cR_endTurn s = some r) : fr wf_cR_endTurn s r := by
  unfold cR_endTurn at h
  exact fr_tr (fr_wI (fr_wI (fr_rf) rfl) rfl) (cR_endTurn_23_fr tm_N (gI (wI (wI s 1159 0 ((-2 : Int32))) 1154 0 ((gI (wI s 1159 0 ((-2 : Int32))) 1154 0) + ((1 : Int32)))) 1185 0) ((0 : Int32)) _ _ h)
theorem cR_settleLine_69_fr (l1 : Int32) (s : ts) (r : ts) (h : cR_settleLine_69 l1 s = some r) : fr wf_cR_settleLine s r := by
  unfold cR_settleLine_69 at h
  replace h := FG h
  refine FI h (fun h => ?_) (fun h => ?_)
  · exact FV h (fr_rf)
  · obtain ⟨s3, hs3, h⟩ := FB h
    have f1 := fr_tr (W := wf_cR_settleLine) (fr_rf) (fr_mono (by decide +kernel) (cR_endTurn_fr _ _ hs3))
    exact FV h (f1)
theorem cR_settleLine_0_b_fr (kk : Int32 → ts → Option (ts)) (hkk : ∀ (a0 : Int32) (s : ts) (r : ts), kk a0 s = some r → fr wf_cR_settleLine s r) (l1 : Int32) (s : ts) (r : ts) (h : cR_settleLine_0_b kk l1 s = some r) : fr wf_cR_settleLine s r := by
  unfold cR_settleLine_0_b at h
  replace h := FG h
  replace h := FG h
  refine FI h (fun h => ?_) (fun h => ?_)
  · exact fr_tr (fr_wA (fr_rf) rfl) (hkk l1 _ _ h)
  · refine FI h (fun h => ?_) (fun h => ?_)
    · refine FI h (fun h => ?_) (fun h => ?_)
      · obtain ⟨s4, hs4, h⟩ := FB h
        have f1 := fr_tr (W := wf_cR_settleLine) (fr_rf) (fr_mono (by decide +kernel) (cR_finish_fr l1 ((0 : Int32)) _ _ hs4))
        exact fr_tr (f1) (cR_settleLine_69_fr l1 _ _ h)
      · exact fr_tr (fr_rf) (cR_settleLine_69_fr l1 _ _ h)
    · exact fr_tr (fr_rf) (cR_settleLine_69_fr l1 _ _ h)
theorem cR_settleLine_0_fr : ∀ (n : Nat) (l1 : Int32) (s : ts) (r : ts), cR_settleLine_0 n l1 s = some r → fr wf_cR_settleLine s r := by
  intro n
  induction n with
  | zero => intro l1 s r h; exact FN h
  | succ n ih =>
    intro l1 s r h
    rw [cR_settleLine_0.eq_2] at h
    exact cR_settleLine_0_b_fr (cR_settleLine_0 n) ih l1 s r h
theorem cR_settleLine_fr (l1 : Int32) (s : ts) (r : ts) (h : cR_settleLine l1 s = some r) : fr wf_cR_settleLine s r := by
  unfold cR_settleLine at h
  exact fr_tr (fr_rf) (cR_settleLine_0_fr tm_N l1 _ _ h)
theorem cR_begin_fr (s : ts) (r : Int32 × ts) (h : cR_begin s = some r) : fr wf_cR_begin s r.2 := by
  unfold cR_begin at h
  obtain ⟨x3, hx3, h⟩ := FB h
  have f1 := fr_tr (W := wf_cR_begin) (fr_rf) (fr_mono (by decide +kernel) (cR_taken_fr _ _ hx3))
  refine FI h (fun h => ?_) (fun h => ?_)
  · exact FS h (f1)
  · replace h := FG h
    obtain ⟨s6, hs6, h⟩ := FB h
    have f2 := fr_tr (W := wf_cR_begin) (f1) (fr_mono (by decide +kernel) (cR_goOn_fr (gA x3.2 122 x3.1.toNatClampNeg) _ _ hs6))
    obtain ⟨s9, hs9, h⟩ := FB h
    have f3 := fr_tr (W := wf_cR_begin) (fr_wA (fr_wI (f2) rfl) rfl) (fr_mono (by decide +kernel) (cR_settleLine_fr x3.1 _ _ hs9))
    exact FS h (f3)
theorem cR_enter_8_b_fr (kk : Int32 → Int32 → Int32 → Int32 → Int32 → ts → Option (ts)) (hkk : ∀ (a0 : Int32) (a1 : Int32) (a2 : Int32) (a3 : Int32) (a4 : Int32) (s : ts) (r : ts), kk a0 a1 a2 a3 a4 s = some r → fr wf_cR_enter s r) (l1 : Int32) (l2 : Int32) (l3 : Int32) (l4 : Int32) (l5 : Int32) (s : ts) (r : ts) (h : cR_enter_8_b kk l1 l2 l3 l4 l5 s = some r) : fr wf_cR_enter s r := by
  unfold cR_enter_8_b at h
  refine FI h (fun h => ?_) (fun h => ?_)
  · replace h := FG h
    replace h := FG h
    exact FV h (fr_wA (fr_wA (fr_wA (fr_rf) rfl) rfl) rfl)
  · replace h := FG h
    replace h := FG h
    exact fr_tr (fr_wA (fr_wA (fr_rf) rfl) rfl) (hkk l1 l2 l3 l4 (l5 + (-1 : Int32)) _ _ h)
theorem cR_enter_8_fr : ∀ (n : Nat) (l1 : Int32) (l2 : Int32) (l3 : Int32) (l4 : Int32) (l5 : Int32) (s : ts) (r : ts), cR_enter_8 n l1 l2 l3 l4 l5 s = some r → fr wf_cR_enter s r := by
  intro n
  induction n with
  | zero => intro l1 l2 l3 l4 l5 s r h; exact FN h
  | succ n ih =>
    intro l1 l2 l3 l4 l5 s r h
    rw [cR_enter_8.eq_2] at h
    exact cR_enter_8_b_fr (cR_enter_8 n) ih l1 l2 l3 l4 l5 s r h
theorem cR_enter_fr (l1 : Int32) (l2 : Int32) (l3 : Int32) (l4 : Int32) (s : ts) (r : ts) (h : cR_enter l1 l2 l3 l4 s = some r) : fr wf_cR_enter s r := by
  unfold cR_enter at h
  replace h := FG h
  exact fr_tr (fr_rf) (cR_enter_8_fr tm_N l1 l2 l3 l4 (gA s 136 l1.toNatClampNeg) _ _ h)
theorem cR_waits_fr (l1 : Int32) (l2 : Int32) (l3 : Int32) (s : ts) (r : ts) (h : cR_waits l1 l2 l3 s = some r) : fr wf_cR_waits s r := by
  unfold cR_waits at h
  replace h := FG h
  exact FV h (fr_wA (fr_wA (fr_wA (fr_rf) rfl) rfl) rfl)
theorem cR_seize_83_fr (l1 : Int32) (l2 : Int32) (l3 : Int32) (l4 : Int32) (s : ts) (r : ts) (h : cR_seize_83 l1 l2 l3 l4 s = some r) : fr wf_cR_seize s r := by
  unfold cR_seize_83 at h
  obtain ⟨s2, hs2, h⟩ := FB h
  have f1 := fr_tr (W := wf_cR_seize) (fr_rf) (fr_mono (by decide +kernel) (cR_enter_fr l2 l1 l3 l4 _ _ hs2))
  obtain ⟨s5, hs5, h⟩ := FB h
  have f2 := fr_tr (W := wf_cR_seize) (f1) (fr_mono (by decide +kernel) (cR_waits_fr l1 ((2 : Int32)) l2 _ _ hs5))
  exact FV h (f2)
theorem cR_seize_53_b_fr (kk : Int32 → Int32 → Int32 → Int32 → ts → Option (ts)) (hkk : ∀ (a0 : Int32) (a1 : Int32) (a2 : Int32) (a3 : Int32) (s : ts) (r : ts), kk a0 a1 a2 a3 s = some r → fr wf_cR_seize s r) (l1 : Int32) (l2 : Int32) (l3 : Int32) (l4 : Int32) (s : ts) (r : ts) (h : cR_seize_53_b kk l1 l2 l3 l4 s = some r) : fr wf_cR_seize s r := by
  unfold cR_seize_53_b at h
  refine FI h (fun h => ?_) (fun h => ?_)
  · exact fr_tr (fr_rf) (cR_seize_83_fr l1 l2 l3 l4 _ _ h)
  · replace h := FG h
    refine FI h (fun h => ?_) (fun h => ?_)
    · exact fr_tr (fr_rf) (cR_seize_83_fr l1 l2 l3 l4 _ _ h)
    · exact fr_tr (fr_rf) (hkk l1 l2 l3 (l4 + (-1 : Int32)) _ _ h)
theorem cR_seize_53_fr : ∀ (n : Nat) (l1 : Int32) (l2 : Int32) (l3 : Int32) (l4 : Int32) (s : ts) (r : ts), cR_seize_53 n l1 l2 l3 l4 s = some r → fr wf_cR_seize s r := by
  intro n
  induction n with
  | zero => intro l1 l2 l3 l4 s r h; exact FN h
  | succ n ih =>
    intro l1 l2 l3 l4 s r h
    rw [cR_seize_53.eq_2] at h
    exact cR_seize_53_b_fr (cR_seize_53 n) ih l1 l2 l3 l4 s r h
theorem cR_seize_fr (l1 : Int32) (l2 : Int32) (l3 : Int32) (s : ts) (r : ts) (h : cR_seize l1 l2 l3 s = some r) : fr wf_cR_seize s r := by
  unfold cR_seize at h
  replace h := FG h
  refine FI h (fun h => ?_) (fun h => ?_)
  · replace h := FG h
    exact fr_tr (fr_rf) (cR_seize_53_fr tm_N l1 l2 l3 (gA s 136 l2.toNatClampNeg) _ _ h)
  · replace h := FG h
    exact FV h (fr_wA (fr_wA (fr_wA (fr_rf) rfl) rfl) rfl)
theorem cR_free_fr (l1 : Int32) (l2 : Int32) (s : ts) (r : ts) (h : cR_free l1 l2 s = some r) : fr wf_cR_free s r := by
  unfold cR_free at h
  replace h := FG h
  refine FI h (fun h => ?_) (fun h => ?_)
  · obtain ⟨s7, hs7, h⟩ := FB h
    have f1 := fr_tr (W := wf_cR_free) (fr_rf) (fr_mono (by decide +kernel) (cR_finish_fr l1 ((3 : Int32)) _ _ hs7))
    exact FV h (f1)
  · replace h := FG h
    obtain ⟨s4, hs4, h⟩ := FB h
    have f2 := fr_tr (W := wf_cR_free) (fr_wA (fr_wA (fr_rf) rfl) rfl) (fr_mono (by decide +kernel) (cR_serveResource_fr l2 _ _ hs4))
    exact FV h (f2)
theorem cR_isIn_5_b_fr (kk : Int32 → Int32 → Int32 → Int32 → ts → Option (Int32 × ts)) (hkk : ∀ (a0 : Int32) (a1 : Int32) (a2 : Int32) (a3 : Int32) (s : ts) (r : Int32 × ts), kk a0 a1 a2 a3 s = some r → fr wf_cR_isIn s r.2) (l1 : Int32) (l2 : Int32) (l3 : Int32) (l4 : Int32) (s : ts) (r : Int32 × ts) (h : cR_isIn_5_b kk l1 l2 l3 l4 s = some r) : fr wf_cR_isIn s r.2 := by
  unfold cR_isIn_5_b at h
  replace h := FG h
  refine FI h (fun h => ?_) (fun h => ?_)
  · replace h := FG h
    exact FS h (fr_rf)
  · refine FI h (fun h => ?_) (fun h => ?_)
    · replace h := FG h
      refine FI h (fun h => ?_) (fun h => ?_)
      · exact fr_tr (fr_rf) (hkk l1 l2 ((1 : Int32)) (l4 + (1 : Int32)) _ _ h)
      · exact fr_tr (fr_rf) (hkk l1 l2 ((0 : Int32)) (l4 + (1 : Int32)) _ _ h)
    · exact fr_tr (fr_rf) (hkk l1 l2 ((1 : Int32)) (l4 + (1 : Int32)) _ _ h)
theorem cR_isIn_5_fr : ∀ (n : Nat) (l1 : Int32) (l2 : Int32) (l3 : Int32) (l4 : Int32) (s : ts) (r : Int32 × ts), cR_isIn_5 n l1 l2 l3 l4 s = some r → fr wf_cR_isIn s r.2 := by
  intro n
  induction n with
  | zero => intro l1 l2 l3 l4 s r h; exact FN h
  | succ n ih =>
    intro l1 l2 l3 l4 s r h
    rw [cR_isIn_5.eq_2] at h
    exact cR_isIn_5_b_fr (cR_isIn_5 n) ih l1 l2 l3 l4 s r h
theorem cR_isIn_fr (l1 : Int32) (l2 : Int32) (s : ts) (r : Int32 × ts) (h : cR_isIn l1 l2 s = some r) : fr wf_cR_isIn s r.2 := by
  unfold cR_isIn at h
  exact fr_tr (fr_rf) (cR_isIn_5_fr tm_N l1 l2 ((0 : Int32)) ((0 : Int32)) _ _ h)
theorem cR_exchange_15_fr (l1 : Int32) (s : ts) (r : ts) (h : cR_exchange_15 l1 s = some r) : fr wf_cR_exchange s r := by
  unfold cR_exchange_15 at h
  obtain ⟨s2, hs2, h⟩ := FB h
  have f1 := fr_tr (W := wf_cR_exchange) (fr_rf) (fr_mono (by decide +kernel) (cR_finish_fr l1 ((4 : Int32)) _ _ hs2))
  exact FV h (f1)
theorem cR_exchange_43_fr (l1 : Int32) (l2 : Int32) (l3 : Int32) (l5 : Int32) (t0 : Int32) (s : ts) (r : ts) (h : cR_exchange_43 l1 l2 l3 l5 t0 s = some r) : fr wf_cR_exchange s r := by
  unfold cR_exchange_43 at h
  replace h := FG h
  obtain ⟨s3, hs3, h⟩ := FB h
  have f1 := fr_tr (W := wf_cR_exchange) (fr_rf) (fr_mono (by decide +kernel) (cR_enter_fr t0 l1 l3 (gA s 136 t0.toNatClampNeg) _ _ hs3))
  obtain ⟨s6, hs6, h⟩ := FB h
  have f2 := fr_tr (W := wf_cR_exchange) (f1) (fr_mono (by decide +kernel) (cR_serveStore_fr l2 _ _ hs6))
  obtain ⟨x10, hx10, h⟩ := FB h
  have f3 := fr_tr (W := wf_cR_exchange) (f2) (fr_mono (by decide +kernel) (cR_isIn_fr t0 l1 _ _ hx10))
  refine FI h (fun h => ?_) (fun h => ?_)
  · exact FV h (f3)
  · obtain ⟨s12, hs12, h⟩ := FB h
    have f4 := fr_tr (W := wf_cR_exchange) (f3) (fr_mono (by decide +kernel) (cR_waits_fr l1 ((3 : Int32)) l5 _ _ hs12))
    exact FV h (f4)
theorem cR_exchange_fr (l1 : Int32) (l2 : Int32) (l3 : Int32) (l4 : Int32) (s : ts) (r : ts) (h : cR_exchange l1 l2 l3 l4 s = some r) : fr wf_cR_exchange s r := by
  unfold cR_exchange at h
  refine FI h (fun h => ?_) (fun h => ?_)
  · exact fr_tr (fr_rf) (cR_exchange_15_fr l1 _ _ h)
  · replace h := FG h
    refine FI h (fun h => ?_) (fun h => ?_)
    · refine FI h (fun h => ?_) (fun h => ?_)
      · exact fr_tr (fr_rf) (cR_exchange_43_fr l1 l2 l3 (((8 : Int32)) + l2) (((8 : Int32)) + l2) _ _ h)
      · exact fr_tr (fr_rf) (cR_exchange_43_fr l1 l2 l3 (((8 : Int32)) + l2) (((14 : Int32)) + (((8 : Int32)) + l2)) _ _ h)
    · exact fr_tr (fr_rf) (cR_exchange_15_fr l1 _ _ h)
theorem cR_startOne_131_fr (l1 : Int32) (s : ts) (r : ts) (h : cR_startOne_131 l1 s = some r) : fr wf_cR_startOne s r := by
  unfold cR_startOne_131 at h
  obtain ⟨s2, hs2, h⟩ := FB h
  have f1 := fr_tr (W := wf_cR_startOne) (fr_rf) (fr_mono (by decide +kernel) (cR_finish_fr l1 ((2 : Int32)) _ _ hs2))
  exact FV h (f1)
theorem cR_startOne_180_b_fr (kk : Int32 → Int32 → Int32 → ts → Option (ts)) (hkk : ∀ (a0 : Int32) (a1 : Int32) (a2 : Int32) (s : ts) (r : ts), kk a0 a1 a2 s = some r → fr wf_cR_startOne s r) (l2 : Int32) (l4 : Int32) (l5 : Int32) (s : ts) (r : ts) (h : cR_startOne_180_b kk l2 l4 l5 s = some r) : fr wf_cR_startOne s r := by
  unfold cR_startOne_180_b at h
  replace h := FG h
  refine FI h (fun h => ?_) (fun h => ?_)
  · exact FV h (fr_rf)
  · replace h := FG h
    replace h := FG h
    exact fr_tr (fr_wA (fr_rf) rfl) (hkk l2 l4 (l5 + (1 : Int32)) _ _ h)
theorem cR_startOne_180_fr : ∀ (n : Nat) (l2 : Int32) (l4 : Int32) (l5 : Int32) (s : ts) (r : ts), cR_startOne_180 n l2 l4 l5 s = some r → fr wf_cR_startOne s r := by
  intro n
  induction n with
  | zero => intro l2 l4 l5 s r h; exact FN h
  | succ n ih =>
    intro l2 l4 l5 s r h
    rw [cR_startOne_180.eq_2] at h
    exact cR_startOne_180_b_fr (cR_startOne_180 n) ih l2 l4 l5 s r h
theorem cR_startOne_112_fr (l1 : Int32) (l2 : Int32) (l3 : Int32) (s : ts) (r : ts) (h : cR_startOne_112 l1 l2 l3 s = some r) : fr wf_cR_startOne s r := by
  unfold cR_startOne_112 at h
  refine FI h (fun h => ?_) (fun h => ?_)
  · exact fr_tr (fr_rf) (cR_startOne_131_fr l1 _ _ h)
  · refine FI h (fun h => ?_) (fun h => ?_)
    · refine FI h (fun h => ?_) (fun h => ?_)
      · obtain ⟨s6, hs6, h⟩ := FB h
        have f1 := fr_tr (W := wf_cR_startOne) (fr_rf) (fr_mono (by decide +kernel) (cR_finish_fr l1 ((5 : Int32)) _ _ hs6))
        exact FV h (f1)
      · replace h := FG h
        obtain ⟨x4, hx4, h⟩ := FB h
        have f2 := fr_tr (W := wf_cR_startOne) (fr_rf) (fr_mono (by decide +kernel) (cR_fresh_fr (gA s 100 l2.toNatClampNeg) ((gI s 1152 0) + l3) _ _ hx4))
        exact fr_tr (f2) (cR_startOne_180_fr tm_N l2 x4.1 ((0 : Int32)) _ _ h)
    · exact fr_tr (fr_rf) (cR_startOne_131_fr l1 _ _ h)
theorem cR_startOne_82_fr (l1 : Int32) (l2 : Int32) (t0 : Int32) (s : ts) (r : ts) (h : cR_startOne_82 l1 l2 t0 s = some r) : fr wf_cR_startOne s r := by
  unfold cR_startOne_82 at h
  replace h := FG h
  refine FI h (fun h => ?_) (fun h => ?_)
  · exact fr_tr (fr_rf) (cR_startOne_112_fr l1 l2 t0 _ _ h)
  · refine FI h (fun h => ?_) (fun h => ?_)
    · exact fr_tr (fr_rf) (cR_startOne_112_fr l1 l2 t0 _ _ h)
    · obtain ⟨s3, hs3, h⟩ := FB h
      have f1 := fr_tr (W := wf_cR_startOne) (fr_rf) (fr_mono (by decide +kernel) (cR_finish_fr l1 (gI s 1188 0) _ _ hs3))
      exact FV h (f1)
theorem cR_startOne_2_b_fr (kk : Int32 → Int32 → Int32 → ts → Option (ts)) (hkk : ∀ (a0 : Int32) (a1 : Int32) (a2 : Int32) (s : ts) (r : ts), kk a0 a1 a2 s = some r → fr wf_cR_startOne s r) (l1 : Int32) (l2 : Int32) (l3 : Int32) (s : ts) (r : ts) (h : cR_startOne_2_b kk l1 l2 l3 s = some r) : fr wf_cR_startOne s r := by
  unfold cR_startOne_2_b at h
  replace h := FG h
  refine FI h (fun h => ?_) (fun h => ?_)
  · refine FI h (fun h => ?_) (fun h => ?_)
    · exact fr_tr (fr_rf) (cR_startOne_82_fr l1 l2 ((0 : Int32)) _ _ h)
    · obtain ⟨x4, hx4, h⟩ := FB h
      have f1 := fr_tr (W := wf_cR_startOne) (fr_rf) (fr_mono (by decide +kernel) (cR_reckon_fr (gA s 101 l2.toNatClampNeg) l1 _ _ hx4))
      exact fr_tr (f1) (cR_startOne_82_fr l1 l2 x4.1 _ _ h)
  · replace h := FG h
    obtain ⟨x9, hx9, h⟩ := FB h
    have f2 := fr_tr (W := wf_cR_startOne) (fr_rf) (fr_mono (by decide +kernel) (cR_reckon_fr (gA s 104 ((((8 : Int32)) * l2) + l3).toNatClampNeg) l1 _ _ hx9))
    replace h := FG h
    refine FI h (fun h => ?_) (fun h => ?_)
    · exact fr_tr (fr_wA (f2) rfl) (hkk l1 l2 (l3 + (1 : Int32)) _ _ h)
    · obtain ⟨s12, hs12, h⟩ := FB h
      have f3 := fr_tr (W := wf_cR_startOne) (fr_wA (f2) rfl) (fr_mono (by decide +kernel) (cR_finish_fr l1 (gI (wA x9.2 142 l3.toNatClampNeg x9.1) 1188 0) _ _ hs12))
      exact FV h (f3)
theorem cR_startOne_2_fr : ∀ (n : Nat) (l1 : Int32) (l2 : Int32) (l3 : Int32) (s : ts) (r : ts), cR_startOne_2 n l1 l2 l3 s = some r → fr wf_cR_startOne s r := by
  intro n
  induction n with
  | zero => intro l1 l2 l3 s r h; exact FN h
  | succ n ih =>
    intro l1 l2 l3 s r h
    rw [cR_startOne_2.eq_2] at h
    exact cR_startOne_2_b_fr (cR_startOne_2 n) ih l1 l2 l3 s r h
theorem cR_startOne_fr (l1 : Int32) (l2 : Int32) (s : ts) (r : ts) (h : cR_startOne l1 l2 s = some r) : fr wf_cR_startOne s r := by
  unfold cR_startOne at h
  exact fr_tr (fr_rf) (cR_startOne_2_fr tm_N l1 l2 ((0 : Int32)) _ _ h)
theorem cR_other_12_fr (l1 : Int32) (s : ts) (r : ts) (h : cR_other_12 l1 s = some r) : fr wf_cR_other s r := by
  unfold cR_other_12 at h
  obtain ⟨s2, hs2, h⟩ := FB h
  have f1 := fr_tr (W := wf_cR_other) (fr_rf) (fr_mono (by decide +kernel) (cR_finish_fr l1 ((7 : Int32)) _ _ hs2))
  exact FV h (f1)
theorem cR_other_56_fr (l2 : Int32) (l3 : Int32) (s : ts) (r : ts) (h : cR_other_56 l2 l3 s = some r) : fr wf_cR_other s r := by
  unfold cR_other_56 at h
  refine FI h (fun h => ?_) (fun h => ?_)
  · replace h := FG h
    refine FI h (fun h => ?_) (fun h => ?_)
    · obtain ⟨s3, hs3, h⟩ := FB h
      have f1 := fr_tr (W := wf_cR_other) (fr_rf) (fr_mono (by decide +kernel) (cR_calendar_fr l2 ((0 : Int32)) (gI s 1152 0) _ _ hs3))
      exact FV h (f1)
    · exact FV h (fr_rf)
  · exact FV h (fr_rf)
theorem cR_other_fr (l1 : Int32) (l2 : Int32) (l3 : Int32) (s : ts) (r : ts) (h : cR_other l1 l2 l3 s = some r) : fr wf_cR_other s r := by
  unfold cR_other at h
  refine FI h (fun h => ?_) (fun h => ?_)
  · exact fr_tr (fr_rf) (cR_other_12_fr l1 _ _ h)
  · refine FI h (fun h => ?_) (fun h => ?_)
    · refine FI h (fun h => ?_) (fun h => ?_)
      · exact fr_tr (fr_rf) (cR_other_56_fr l2 l3 _ _ h)
      · replace h := FG h
        refine FI h (fun h => ?_) (fun h => ?_)
        · exact fr_tr (fr_rf) (cR_other_56_fr l2 l3 _ _ h)
        · refine FI h (fun h => ?_) (fun h => ?_)
          · exact fr_tr (fr_rf) (cR_other_56_fr l2 l3 _ _ h)
          · obtain ⟨s3, hs3, h⟩ := FB h
            have f1 := fr_tr (W := wf_cR_other) (fr_rf) (fr_mono (by decide +kernel) (cR_finish_fr l2 ((0 : Int32)) _ _ hs3))
            exact FV h (f1)
    · exact fr_tr (fr_rf) (cR_other_12_fr l1 _ _ h)
theorem cR_perform_263_fr (l1 : Int32) (s : ts) (r : ts) (h : cR_perform_263 l1 s = some r) : fr wf_cR_perform s r := by
  unfold cR_perform_263 at h
  obtain ⟨s2, hs2, h⟩ := FB h
  have f1 := fr_tr (W := wf_cR_perform) (fr_rf) (fr_mono (by decide +kernel) (cR_finish_fr l1 ((2 : Int32)) _ _ hs2))
  exact FV h (f1)
theorem cR_perform_341_fr (t1 : Int32) (t2 : Int32) (t3 : Int32) (t4 : Int32) (s : ts) (r : ts) (h : cR_perform_341 t1 t2 t3 t4 s = some r) : fr wf_cR_perform s r := by
  unfold cR_perform_341 at h
  obtain ⟨s2, hs2, h⟩ := FB h
  have f1 := fr_tr (W := wf_cR_perform) (fr_rf) (fr_mono (by decide +kernel) (cR_exchange_fr t1 t2 t3 t4 _ _ hs2))
  exact FV h (f1)
theorem cR_perform_410_fr (t1 : Int32) (t2 : Int32) (t3 : Int32) (s : ts) (r : ts) (h : cR_perform_410 t1 t2 t3 s = some r) : fr wf_cR_perform s r := by
  unfold cR_perform_410 at h
  obtain ⟨s2, hs2, h⟩ := FB h
  have f1 := fr_tr (W := wf_cR_perform) (fr_rf) (fr_mono (by decide +kernel) (cR_other_fr t1 t2 t3 _ _ hs2))
  exact FV h (f1)
theorem cR_perform_458_fr (l3 : Int32) (t1 : Int32) (t2 : Int32) (s : ts) (r : ts) (h : cR_perform_458 l3 t1 t2 s = some r) : fr wf_cR_perform s r := by
  unfold cR_perform_458 at h
  replace h := FG h
  refine FI h (fun h => ?_) (fun h => ?_)
  · replace h := FG h
    exact FV h (fr_wI (fr_wA (fr_wA (fr_rf) rfl) rfl) rfl)
  · replace h := FG h
    exact FV h (fr_wI (fr_wA (fr_wA (fr_rf) rfl) rfl) rfl)
theorem cR_perform_79_fr (l1 : Int32) (l2 : Int32) (l3 : Int32) (s : ts) (r : ts) (h : cR_perform_79 l1 l2 l3 s = some r) : fr wf_cR_perform s r := by
  unfold cR_perform_79 at h
  replace h := FG h
  refine FI h (fun h => ?_) (fun h => ?_)
  · refine FI h (fun h => ?_) (fun h => ?_)
    · replace h := FG h
      exact FV h (fr_wA (fr_rf) rfl)
    · replace h := FG h
      exact FV h (fr_wA (fr_rf) rfl)
  · refine FI h (fun h => ?_) (fun h => ?_)
    · obtain ⟨s7, hs7, h⟩ := FB h
      have f1 := fr_tr (W := wf_cR_perform) (fr_rf) (fr_mono (by decide +kernel) (cR_finish_fr l1 ((0 : Int32)) _ _ hs7))
      exact FV h (f1)
    · refine FI h (fun h => ?_) (fun h => ?_)
      · refine FI h (fun h => ?_) (fun h => ?_)
        · replace h := FG h
          exact FV h (fr_wA (fr_rf) rfl)
        · replace h := FG h
          exact FV h (fr_wA (fr_rf) rfl)
      · refine FI h (fun h => ?_) (fun h => ?_)
        · refine FI h (fun h => ?_) (fun h => ?_)
          · exact fr_tr (fr_rf) (cR_perform_263_fr l1 _ _ h)
          · refine FI h (fun h => ?_) (fun h => ?_)
            · obtain ⟨s15, hs15, h⟩ := FB h
              have f2 := fr_tr (W := wf_cR_perform) (fr_rf) (fr_mono (by decide +kernel) (cR_calendar_fr l1 ((1 : Int32)) ((gI s 1152 0) + l3) _ _ hs15))
              exact FV h (f2)
            · exact fr_tr (fr_rf) (cR_perform_263_fr l1 _ _ h)
        · refine FI h (fun h => ?_) (fun h => ?_)
          · obtain ⟨s21, hs21, h⟩ := FB h
            have f3 := fr_tr (W := wf_cR_perform) (fr_rf) (fr_mono (by decide +kernel) (cR_seize_fr l1 (gA s 100 l2.toNatClampNeg) l3 _ _ hs21))
            exact FV h (f3)
          · refine FI h (fun h => ?_) (fun h => ?_)
            · obtain ⟨s25, hs25, h⟩ := FB h
              have f4 := fr_tr (W := wf_cR_perform) (fr_rf) (fr_mono (by decide +kernel) (cR_free_fr l1 (gA s 100 l2.toNatClampNeg) _ _ hs25))
              exact FV h (f4)
            · refine FI h (fun h => ?_) (fun h => ?_)
              · refine FI h (fun h => ?_) (fun h => ?_)
                · exact fr_tr (fr_rf) (cR_perform_341_fr l1 (gA s 100 l2.toNatClampNeg) l3 ((1 : Int32)) _ _ h)
                · exact fr_tr (fr_rf) (cR_perform_341_fr l1 (gA s 100 l2.toNatClampNeg) l3 ((0 : Int32)) _ _ h)
              · refine FI h (fun h => ?_) (fun h => ?_)
                · refine FI h (fun h => ?_) (fun h => ?_)
                  · exact fr_tr (fr_rf) (cR_perform_341_fr l1 (gA s 100 l2.toNatClampNeg) l3 ((1 : Int32)) _ _ h)
                  · exact fr_tr (fr_rf) (cR_perform_341_fr l1 (gA s 100 l2.toNatClampNeg) l3 ((0 : Int32)) _ _ h)
                · refine FI h (fun h => ?_) (fun h => ?_)
                  · refine FI h (fun h => ?_) (fun h => ?_)
                    · obtain ⟨s33, hs33, h⟩ := FB h
                      have f5 := fr_tr (W := wf_cR_perform) (fr_rf) (fr_mono (by decide +kernel) (cR_waits_fr l1 ((4 : Int32)) ((-2 : Int32)) _ _ hs33))
                      replace h := FG h
                      exact FV h (fr_wI (fr_wA (f5) rfl) rfl)
                    · exact FV h (fr_rf)
                  · refine FI h (fun h => ?_) (fun h => ?_)
                    · obtain ⟨s39, hs39, h⟩ := FB h
                      have f6 := fr_tr (W := wf_cR_perform) (fr_rf) (fr_mono (by decide +kernel) (cR_startOne_fr l1 l2 _ _ hs39))
                      exact FV h (f6)
                    · refine FI h (fun h => ?_) (fun h => ?_)
                      · refine FI h (fun h => ?_) (fun h => ?_)
                        · exact fr_tr (fr_rf) (cR_perform_410_fr l1 l3 ((1 : Int32)) _ _ h)
                        · exact fr_tr (fr_rf) (cR_perform_410_fr l1 l3 ((0 : Int32)) _ _ h)
                      · refine FI h (fun h => ?_) (fun h => ?_)
                        · refine FI h (fun h => ?_) (fun h => ?_)
                          · exact fr_tr (fr_rf) (cR_perform_410_fr l1 l3 ((1 : Int32)) _ _ h)
                          · exact fr_tr (fr_rf) (cR_perform_410_fr l1 l3 ((0 : Int32)) _ _ h)
                        · refine FI h (fun h => ?_) (fun h => ?_)
                          · refine FI h (fun h => ?_) (fun h => ?_)
                            · replace h := FG h
                              exact fr_tr (fr_rf) (cR_perform_458_fr l3 ((gI s 1161 0) - (gI s 1161 0) / ((1000 : Int32)) * ((1000 : Int32))) (gA s 116 ((gI s 1161 0) - (gI s 1161 0) / ((1000 : Int32)) * ((1000 : Int32))).toNatClampNeg) _ _ h)
                            · exact fr_tr (fr_rf) (cR_perform_458_fr l3 ((gI s 1161 0) - (gI s 1161 0) / ((1000 : Int32)) * ((1000 : Int32))) (gI s 1152 0) _ _ h)
                          · refine FI h (fun h => ?_) (fun h => ?_)
                            · obtain ⟨s50, hs50, h⟩ := FB h
                              have f7 := fr_tr (W := wf_cR_perform) (fr_rf) (fr_mono (by decide +kernel) (cR_finish_fr l1 ((0 : Int32)) _ _ hs50))
                              exact FV h (f7)
                            · refine FI h (fun h => ?_) (fun h => ?_)
                              · obtain ⟨s54, hs54, h⟩ := FB h
                                have f8 := fr_tr (W := wf_cR_perform) (fr_rf) (fr_mono (by decide +kernel) (cR_finish_fr l1 ((0 : Int32)) _ _ hs54))
                                exact FV h (f8)
                              · refine FI h (fun h => ?_) (fun h => ?_)
                                · obtain ⟨s58, hs58, h⟩ := FB h
                                  have f9 := fr_tr (W := wf_cR_perform) (fr_rf) (fr_mono (by decide +kernel) (cR_finish_fr l1 ((0 : Int32)) _ _ hs58))
                                  exact FV h (f9)
                                · refine FI h (fun h => ?_) (fun h => ?_)
                                  · obtain ⟨s62, hs62, h⟩ := FB h
                                    have f10 := fr_tr (W := wf_cR_perform) (fr_rf) (fr_mono (by decide +kernel) (cR_finish_fr l1 ((0 : Int32)) _ _ hs62))
                                    exact FV h (f10)
                                  · refine FI h (fun h => ?_) (fun h => ?_)
                                    · obtain ⟨s66, hs66, h⟩ := FB h
                                      have f11 := fr_tr (W := wf_cR_perform) (fr_rf) (fr_mono (by decide +kernel) (cR_finish_fr l1 ((0 : Int32)) _ _ hs66))
                                      exact FV h (f11)
                                    · refine FI h (fun h => ?_) (fun h => ?_)
                                      · obtain ⟨s70, hs70, h⟩ := FB h
                                        have f12 := fr_tr (W := wf_cR_perform) (fr_rf) (fr_mono (by decide +kernel) (cR_finish_fr l1 ((0 : Int32)) _ _ hs70))
                                        exact FV h (f12)
                                      · refine FI h (fun h => ?_) (fun h => ?_)
                                        · replace h := FG h
                                          exact FV h (fr_wA (fr_rf) rfl)
                                        · refine FI h (fun h => ?_) (fun h => ?_)
                                          · replace h := FG h
                                            exact FV h (fr_wA (fr_rf) rfl)
                                          · obtain ⟨s78, hs78, h⟩ := FB h
                                            have f13 := fr_tr (W := wf_cR_perform) (fr_rf) (fr_mono (by decide +kernel) (cR_finish_fr l1 ((0 : Int32)) _ _ hs78))
                                            exact FV h (f13)
theorem cR_perform_40_fr (l1 : Int32) (l2 : Int32) (t0 : Int32) (s : ts) (r : ts) (h : cR_perform_40 l1 l2 t0 s = some r) : fr wf_cR_perform s r := by
  unfold cR_perform_40 at h
  replace h := FG h
  refine FI h (fun h => ?_) (fun h => ?_)
  · exact fr_tr (fr_rf) (cR_perform_79_fr l1 l2 t0 _ _ h)
  · refine FI h (fun h => ?_) (fun h => ?_)
    · exact fr_tr (fr_rf) (cR_perform_79_fr l1 l2 t0 _ _ h)
    · refine FI h (fun h => ?_) (fun h => ?_)
      · exact fr_tr (fr_rf) (cR_perform_79_fr l1 l2 t0 _ _ h)
      · obtain ⟨s3, hs3, h⟩ := FB h
        have f1 := fr_tr (W := wf_cR_perform) (fr_rf) (fr_mono (by decide +kernel) (cR_finish_fr l1 (gI s 1188 0) _ _ hs3))
        exact FV h (f1)
theorem cR_perform_fr (l1 : Int32) (l2 : Int32) (s : ts) (r : ts) (h : cR_perform l1 l2 s = some r) : fr wf_cR_perform s r := by
  unfold cR_perform at h
  replace h := FG h
  refine FI h (fun h => ?_) (fun h => ?_)
  · exact fr_tr (fr_rf) (cR_perform_40_fr l1 l2 ((0 : Int32)) _ _ h)
  · refine FI h (fun h => ?_) (fun h => ?_)
    · exact fr_tr (fr_rf) (cR_perform_40_fr l1 l2 ((0 : Int32)) _ _ h)
    · obtain ⟨x4, hx4, h⟩ := FB h
      have f1 := fr_tr (W := wf_cR_perform) (fr_rf) (fr_mono (by decide +kernel) (cR_reckon_fr (gA s 101 l2.toNatClampNeg) l1 _ _ hx4))
      exact fr_tr (f1) (cR_perform_40_fr l1 l2 x4.1 _ _ h)
theorem cR_step_119_fr (s : ts) (r : ts) (h : cR_step_119 s = some r) : fr wf_cR_step s r := by
  unfold cR_step_119 at h
  obtain ⟨s2, hs2, h⟩ := FB h
  have f1 := fr_tr (W := wf_cR_step) (fr_rf) (fr_mono (by decide +kernel) (cR_endTurn_fr _ _ hs2))
  exact FV h (f1)
theorem cR_step_44_b_fr (kk : Int32 → Int32 → Int32 → ts → Option (ts)) (hkk : ∀ (a0 : Int32) (a1 : Int32) (a2 : Int32) (s : ts) (r : ts), kk a0 a1 a2 s = some r → fr wf_cR_step s r) (l1 : Int32) (l2 : Int32) (l3 : Int32) (s : ts) (r : ts) (h : cR_step_44_b kk l1 l2 l3 s = some r) : fr wf_cR_step s r := by
  unfold cR_step_44_b at h
  refine FI h (fun h => ?_) (fun h => ?_)
  · replace h := FG h
    refine FI h (fun h => ?_) (fun h => ?_)
    · obtain ⟨s3, hs3, h⟩ := FB h
      have f1 := fr_tr (W := wf_cR_step) (fr_rf) (fr_mono (by decide +kernel) (cR_settleLine_fr l1 _ _ hs3))
      exact FV h (f1)
    · refine FI h (fun h => ?_) (fun h => ?_)
      · exact fr_tr (fr_wA (fr_rf) rfl) (cR_step_119_fr _ _ h)
      · exact fr_tr (fr_rf) (cR_step_119_fr _ _ h)
  · obtain ⟨x9, hx9, h⟩ := FB h
    have f2 := fr_tr (W := wf_cR_step) (fr_rf) (fr_mono (by decide +kernel) (cR_waitingAt_fr l3 _ _ hx9))
    replace h := FG h
    refine FI h (fun h => ?_) (fun h => ?_)
    · exact fr_tr (fr_wA (f2) rfl) (hkk l1 l2 (l3 + (1 : Int32)) _ _ h)
    · exact fr_tr (fr_wA (f2) rfl) (hkk l1 l2 (l3 + (1 : Int32)) _ _ h)
theorem cR_step_44_fr : ∀ (n : Nat) (l1 : Int32) (l2 : Int32) (l3 : Int32) (s : ts) (r : ts), cR_step_44 n l1 l2 l3 s = some r → fr wf_cR_step s r := by
  intro n
  induction n with
  | zero => intro l1 l2 l3 s r h; exact FN h
  | succ n ih =>
    intro l1 l2 l3 s r h
    rw [cR_step_44.eq_2] at h
    exact cR_step_44_b_fr (cR_step_44 n) ih l1 l2 l3 s r h
theorem cR_step_fr (s : ts) (r : ts) (h : cR_step s = some r) : fr wf_cR_step s r := by
  unfold cR_step at h
  replace h := FG h
  obtain ⟨s3, hs3, h⟩ := FB h
  have f1 := fr_tr (W := wf_cR_step) (fr_wA (fr_wI (fr_rf) rfl) rfl) (fr_mono (by decide +kernel) (cR_perform_fr (gI s 1159 0) (gA s 121 (gI s 1159 0).toNatClampNeg) _ _ hs3))
  exact fr_tr (f1) (cR_step_44_fr tm_N (gI s 1159 0) (gA s 121 (gI s 1159 0).toNatClampNeg) ((0 : Int32)) _ _ h)
theorem cR_run_28_b_fr (kk : Int32 → Int32 → ts → Option (Int32 × ts)) (hkk : ∀ (a0 : Int32) (a1 : Int32) (s : ts) (r : Int32 × ts), kk a0 a1 s = some r → fr wf_cR_run s r.2) (l1 : Int32) (l2 : Int32) (s : ts) (r : Int32 × ts) (h : cR_run_28_b kk l1 l2 s = some r) : fr wf_cR_run s r.2 := by
  unfold cR_run_28_b at h
  refine FI h (fun h => ?_) (fun h => ?_)
  · exact FS h (fr_rf)
  · refine FI h (fun h => ?_) (fun h => ?_)
    · exact FS h (fr_rf)
    · refine FI h (fun h => ?_) (fun h => ?_)
      · obtain ⟨x6, hx6, h⟩ := FB h
        have f1 := fr_tr (W := wf_cR_run) (fr_rf) (fr_mono (by decide +kernel) (cR_begin_fr _ _ hx6))
        exact fr_tr (f1) (hkk l1 x6.1 _ _ h)
      · obtain ⟨s2, hs2, h⟩ := FB h
        have f2 := fr_tr (W := wf_cR_run) (fr_rf) (fr_mono (by decide +kernel) (cR_step_fr _ _ hs2))
        exact fr_tr (fr_wI (f2) rfl) (hkk l1 l2 _ _ h)
theorem cR_run_28_fr : ∀ (n : Nat) (l1 : Int32) (l2 : Int32) (s : ts) (r : Int32 × ts), cR_run_28 n l1 l2 s = some r → fr wf_cR_run s r.2 := by
  intro n
  induction n with
  | zero => intro l1 l2 s r h; exact FN h
  | succ n ih =>
    intro l1 l2 s r h
    rw [cR_run_28.eq_2] at h
    exact cR_run_28_b_fr (cR_run_28 n) ih l1 l2 s r h
theorem cR_run_fr (l1 : Int32) (s : ts) (r : Int32 × ts) (h : cR_run l1 s = some r) : fr wf_cR_run s r.2 := by
  unfold cR_run at h
  refine FI h (fun h => ?_) (fun h => ?_)
  · exact FS h (fr_rf)
  · refine FI h (fun h => ?_) (fun h => ?_)
    · exact FS h (fr_rf)
    · refine FI h (fun h => ?_) (fun h => ?_)
      · exact fr_tr (fr_wI (fr_rf) rfl) (cR_run_28_fr tm_N l1 ((1 : Int32)) _ _ h)
      · exact FS h (fr_rf)
theorem cH_doTurn_50_fr (l2 : Int32) (s : ts) (r : Int32 × ts) (h : cH_doTurn_50 l2 s = some r) : fr wf_cH_doTurn s r.2 := by
  unfold cH_doTurn_50 at h
  cases e1 : gR s 1003 0 with
  | none =>
    rw [e1] at h
    try dsimp only at h
    exact FS h (fr_rf)
  | some r1 =>
    rw [e1] at h
    try dsimp only at h
    exact FS h (fr_rf)
theorem cH_doTurn_24_b_fr (kk : Int32 → Int32 → Int32 → ts → Option (Int32 × ts)) (hkk : ∀ (a0 : Int32) (a1 : Int32) (a2 : Int32) (s : ts) (r : Int32 × ts), kk a0 a1 a2 s = some r → fr wf_cH_doTurn s r.2) (l1 : Int32) (l2 : Int32) (l3 : Int32) (s : ts) (r : Int32 × ts) (h : cH_doTurn_24_b kk l1 l2 l3 s = some r) : fr wf_cH_doTurn s r.2 := by
  unfold cH_doTurn_24_b at h
  refine FI h (fun h => ?_) (fun h => ?_)
  · exact fr_tr (fr_rf) (cH_doTurn_50_fr l2 _ _ h)
  · cases e2 : gR s 1003 0 with
    | none =>
      rw [e2] at h
      try dsimp only at h
      exact fr_tr (fr_rf) (cH_doTurn_50_fr l2 _ _ h)
    | some r1 =>
      rw [e2] at h
      try dsimp only at h
      obtain ⟨s4, hs4, h⟩ := FB h
      have f1 := fr_tr (W := wf_cH_doTurn) (fr_rf) (fr_mono (by decide +kernel) (cH_doStep_fr r1 _ _ hs4))
      exact fr_tr (f1) (hkk l1 l2 (l3 + (1 : Int32)) _ _ h)
theorem cH_doTurn_24_fr : ∀ (n : Nat) (l1 : Int32) (l2 : Int32) (l3 : Int32) (s : ts) (r : Int32 × ts), cH_doTurn_24 n l1 l2 l3 s = some r → fr wf_cH_doTurn s r.2 := by
  intro n
  induction n with
  | zero => intro l1 l2 l3 s r h; exact FN h
  | succ n ih =>
    intro l1 l2 l3 s r h
    rw [cH_doTurn_24.eq_2] at h
    exact cH_doTurn_24_b_fr (cH_doTurn_24 n) ih l1 l2 l3 s r h
theorem cH_doTurn_fr (l1 : Int32) (s : ts) (r : Int32 × ts) (h : cH_doTurn l1 s = some r) : fr wf_cH_doTurn s r.2 := by
  unfold cH_doTurn at h
  cases e2 : gR s 1003 0 with
  | none =>
    rw [e2] at h
    try dsimp only at h
    obtain ⟨x5, hx5, h⟩ := FB h
    have f1 := fr_tr (W := wf_cH_doTurn) (fr_rf) (fr_mono (by decide +kernel) (cH_beginTurn_fr _ _ hx5))
    exact fr_tr (f1) (cH_doTurn_24_fr tm_N l1 x5.1 ((0 : Int32)) _ _ h)
  | some r1 =>
    rw [e2] at h
    try dsimp only at h
    replace h := FG h
    exact fr_tr (fr_rf) (cH_doTurn_24_fr tm_N l1 (gI s 500 r1) ((0 : Int32)) _ _ h)
theorem cX_turn_fr (l1 : Int32) (s : ts) (r : Int32 × ts) (h : cX_turn l1 s = some r) : fr wf_cX_turn s r.2 := by
  unfold cX_turn at h
  refine FI h (fun h => ?_) (fun h => ?_)
  · exact FS h (fr_rf)
  · obtain ⟨x3, hx3, h⟩ := FB h
    have f1 := fr_tr (W := wf_cX_turn) (fr_rf) (fr_mono (by decide +kernel) (cX_isStepCount_fr l1 _ _ hx3))
    refine FI h (fun h => ?_) (fun h => ?_)
    · exact FS h (f1)
    · obtain ⟨x6, hx6, h⟩ := FB h
      have f2 := fr_tr (W := wf_cX_turn) (f1) (fr_mono (by decide +kernel) (cH_doTurn_fr l1 _ _ hx6))
      exact FS h (f2)
theorem cR_turn_68_fr (l2 : Int32) (s : ts) (r : Int32 × ts) (h : cR_turn_68 l2 s = some r) : fr wf_cR_turn s r.2 := by
  unfold cR_turn_68 at h
  refine FI h (fun h => ?_) (fun h => ?_)
  · exact FS h (fr_rf)
  · refine FI h (fun h => ?_) (fun h => ?_)
    · exact FS h (fr_rf)
    · exact FS h (fr_rf)
