/-! WHAT A FUNCTION MAY WRITE: printed by wip/tools/frames.py. -/
theorem cO_serve_77_fr (k11 : Nat → Option Nat → Int32 → Option Nat → Int32 → ts → Option (Int32 × ts)) (hk11 : ∀ (a0 : Nat) (a1 : Option Nat) (a2 : Int32) (a3 : Option Nat) (a4 : Int32) (s : ts) (r : Int32 × ts), k11 a0 a1 a2 a3 a4 s = some r → fr wf_cO_serve s r.2) (l1 : Nat) (l2 : Option Nat) (l3 : Int32) (l5 : Int32) (s : ts) (r : Int32 × ts) (h : cO_serve_77 k11 l1 l2 l3 l5 s = some r) : fr wf_cO_serve s r.2 := by
  unfold cO_serve_77 at h
  cases l2 with
  | none =>
    try dsimp only at h
    replace h := FG h
    obtain ⟨x4, hx4, h⟩ := FB h
    have f1 := fr_tr (W := wf_cO_serve) (fr_rf) (fr_mono (by decide +kernel) (cK_serveNext_fr l1 _ _ hx4))
    cases e2 : x4.1 with
    | none =>
      rw [e2] at h
      try dsimp only at h
      exact fr_tr (f1) (hk11 l1 none l3 none (l5 + (1 : Int32)) _ _ h)
    | some q5 =>
      rw [e2] at h
      try dsimp only at h
      exact fr_tr (f1) (hk11 l1 none l3 (some q5) (l5 + (1 : Int32)) _ _ h)
  | some l2 =>
    try dsimp only at h
    replace h := FG h
    obtain ⟨x9, hx9, h⟩ := FB h
    have f3 := fr_tr (W := wf_cO_serve) (fr_rf) (fr_mono (by decide +kernel) (cK_serveNext_fr l1 _ _ hx9))
    cases e4 : x9.1 with
    | none =>
      rw [e4] at h
      try dsimp only at h
      exact fr_tr (f3) (hk11 l1 (some l2) l3 none (l5 + (1 : Int32)) _ _ h)
    | some q10 =>
      rw [e4] at h
      try dsimp only at h
      exact fr_tr (f3) (hk11 l1 (some l2) l3 (some q10) (l5 + (1 : Int32)) _ _ h)
theorem cO_serve_11_b_fr (kk : Nat → Option Nat → Int32 → Option Nat → Int32 → ts → Option (Int32 × ts)) (hkk : ∀ (a0 : Nat) (a1 : Option Nat) (a2 : Int32) (a3 : Option Nat) (a4 : Int32) (s : ts) (r : Int32 × ts), kk a0 a1 a2 a3 a4 s = some r → fr wf_cO_serve s r.2) (l1 : Nat) (l2 : Option Nat) (l3 : Int32) (l4 : Option Nat) (l5 : Int32) (s : ts) (r : Int32 × ts) (h : cO_serve_11_b kk l1 l2 l3 l4 l5 s = some r) : fr wf_cO_serve s r.2 := by
  unfold cO_serve_11_b at h
  cases l2 with
  | none =>
    try dsimp only at h
    cases l4 with
    | none =>
      try dsimp only at h
      refine FI h (fun h => ?_) (fun h => ?_)
      · replace h := FG h
        exact FS h (fr_rf)
      · replace h := FG h
        exact FS h (fr_rf)
    | some l4 =>
      try dsimp only at h
      refine FI h (fun h => ?_) (fun h => ?_)
      · replace h := FG h
        exact FS h (fr_rf)
      · replace h := FG h
        replace h := FG h
        obtain ⟨s8, hs8, h⟩ := FB h
        have f1 := fr_tr (W := wf_cO_serve) (fr_rf) (fr_mono (by decide +kernel) (cK_countLate_fr l1 (((gI s 800 0) - (gI s 510 l4)).toInt64) _ _ hs8))
        obtain ⟨s11, hs11, h⟩ := FB h
        have f2 := fr_tr (W := wf_cO_serve) (f1) (fr_mono (by decide +kernel) (cO_putInCalendar_fr l4 ((0 : Int32)) (gI s8 800 0) _ _ hs11))
        exact fr_tr (f2) (cO_serve_77_fr kk hkk l1 none l3 l5 _ _ h)
  | some l2 =>
    try dsimp only at h
    cases l4 with
    | none =>
      try dsimp only at h
      refine FI h (fun h => ?_) (fun h => ?_)
      · replace h := FG h
        exact FS h (fr_rf)
      · replace h := FG h
        exact FS h (fr_rf)
    | some l4 =>
      try dsimp only at h
      refine FI h (fun h => ?_) (fun h => ?_)
      · replace h := FG h
        exact FS h (fr_rf)
      · refine FI h (fun h => ?_) (fun h => ?_)
        · replace h := FG h
          exact fr_tr (fr_wI (fr_rf) rfl) (cO_serve_77_fr kk hkk l1 (some l2) ((1 : Int32)) l5 _ _ h)
        · replace h := FG h
          replace h := FG h
          obtain ⟨s22, hs22, h⟩ := FB h
          have f3 := fr_tr (W := wf_cO_serve) (fr_rf) (fr_mono (by decide +kernel) (cK_countLate_fr l1 (((gI s 800 0) - (gI s 510 l4)).toInt64) _ _ hs22))
          obtain ⟨s25, hs25, h⟩ := FB h
          have f4 := fr_tr (W := wf_cO_serve) (f3) (fr_mono (by decide +kernel) (cO_putInCalendar_fr l4 ((0 : Int32)) (gI s22 800 0) _ _ hs25))
          exact fr_tr (f4) (cO_serve_77_fr kk hkk l1 (some l2) l3 l5 _ _ h)
theorem cO_serve_11_fr : ∀ (n : Nat) (l1 : Nat) (l2 : Option Nat) (l3 : Int32) (l4 : Option Nat) (l5 : Int32) (s : ts) (r : Int32 × ts), cO_serve_11 n l1 l2 l3 l4 l5 s = some r → fr wf_cO_serve s r.2 := by
  intro n
  induction n with
  | zero => intro l1 l2 l3 l4 l5 s r h; exact FN h
  | succ n ih =>
    intro l1 l2 l3 l4 l5 s r h
    rw [cO_serve_11.eq_2] at h
    exact cO_serve_11_b_fr (cO_serve_11 n) ih l1 l2 l3 l4 l5 s r h
theorem cO_serve_fr (l1 : Nat) (l2 : Option Nat) (s : ts) (r : Int32 × ts) (h : cO_serve l1 l2 s = some r) : fr wf_cO_serve s r.2 := by
  unfold cO_serve at h
  cases l2 with
  | none =>
    try dsimp only at h
    replace h := FG h
    obtain ⟨x4, hx4, h⟩ := FB h
    have f1 := fr_tr (W := wf_cO_serve) (fr_rf) (fr_mono (by decide +kernel) (cK_serveNext_fr l1 _ _ hx4))
    cases e2 : x4.1 with
    | none =>
      rw [e2] at h
      try dsimp only at h
      exact fr_tr (f1) (cO_serve_11_fr tm_N l1 none ((0 : Int32)) none ((0 : Int32)) _ _ h)
    | some q5 =>
      rw [e2] at h
      try dsimp only at h
      exact fr_tr (f1) (cO_serve_11_fr tm_N l1 none ((0 : Int32)) (some q5) ((0 : Int32)) _ _ h)
  | some l2 =>
    try dsimp only at h
    replace h := FG h
    obtain ⟨x9, hx9, h⟩ := FB h
    have f3 := fr_tr (W := wf_cO_serve) (fr_rf) (fr_mono (by decide +kernel) (cK_serveNext_fr l1 _ _ hx9))
    cases e4 : x9.1 with
    | none =>
      rw [e4] at h
      try dsimp only at h
      exact fr_tr (f3) (cO_serve_11_fr tm_N l1 (some l2) ((0 : Int32)) none ((0 : Int32)) _ _ h)
    | some q10 =>
      rw [e4] at h
      try dsimp only at h
      exact fr_tr (f3) (cO_serve_11_fr tm_N l1 (some l2) ((0 : Int32)) (some q10) ((0 : Int32)) _ _ h)
theorem cO_trade_54_fr (l1 : Nat) (l2 : Int32) (l5 : Nat) (t0 : Nat) (s : ts) (r : Int32 × ts) (h : cO_trade_54 l1 l2 l5 t0 s = some r) : fr wf_cO_trade s r.2 := by
  unfold cO_trade_54 at h
  replace h := FG h
  obtain ⟨s3, hs3, h⟩ := FB h
  have f1 := fr_tr (W := wf_cO_trade) (fr_rf) (fr_mono (by decide +kernel) (cN_join_fr t0 l1 ((0 : Int32)) _ _ hs3))
  obtain ⟨x7, hx7, h⟩ := FB h
  have f2 := fr_tr (W := wf_cO_trade) (f1) (fr_mono (by decide +kernel) (cO_serve_fr l5 (some l1) _ _ hx7))
  refine FI h (fun h => ?_) (fun h => ?_)
  · obtain ⟨s9, hs9, h⟩ := FB h
    have f3 := fr_tr (W := wf_cO_trade) (f2) (fr_mono (by decide +kernel) (cO_makeWait_fr l1 ((3 : Int32)) l2 _ _ hs9))
    exact FS h (f3)
  · exact FS h (f2)
theorem cO_trade_fr (l1 : Nat) (l2 : Int32) (l3 : Int32) (l4 : Int32) (s : ts) (r : Int32 × ts) (h : cO_trade l1 l2 l3 l4 s = some r) : fr wf_cO_trade s r.2 := by
  unfold cO_trade at h
  obtain ⟨x3, hx3, h⟩ := FB h
  have f1 := fr_tr (W := wf_cO_trade) (fr_rf) (fr_mono (by decide +kernel) (cW_placeAt_fr l2 _ _ hx3))
  cases e2 : x3.1 with
  | none =>
    rw [e2] at h
    try dsimp only at h
    exact FS h (f1)
  | some q4 =>
    rw [e2] at h
    try dsimp only at h
    refine FI h (fun h => ?_) (fun h => ?_)
    · exact FS h (f1)
    · replace h := FG h
      refine FI h (fun h => ?_) (fun h => ?_)
      · replace h := FG h
        refine FI h (fun h => ?_) (fun h => ?_)
        · exact fr_tr (fr_wI (f1) rfl) (cO_trade_54_fr l1 l2 q4 (2 * q4) _ _ h)
        · exact fr_tr (fr_wI (f1) rfl) (cO_trade_54_fr l1 l2 q4 (2 * q4 + 1) _ _ h)
      · exact FS h (f1)
theorem cO_makeAwait_fr (l1 : Nat) (s : ts) (r : ts) (h : cO_makeAwait l1 s = some r) : fr wf_cO_makeAwait s r := by
  unfold cO_makeAwait at h
  replace h := FG h
  obtain ⟨s3, hs3, h⟩ := FB h
  have f1 := fr_tr (W := wf_cO_makeAwait) (fr_wI (fr_wI (fr_rf) rfl) rfl) (fr_mono (by decide +kernel) (cN_join_fr 29 l1 ((0 : Int32)) _ _ hs3))
  exact FV h (f1)
theorem cH_startAnother_97_fr (l3 : Int32) (l4 : Nat) (s : ts) (r : Int32 × ts) (h : cH_startAnother_97 l3 l4 s = some r) : fr wf_cH_startAnother s r.2 := by
  unfold cH_startAnother_97 at h
  obtain ⟨s2, hs2, h⟩ := FB h
  have f1 := fr_tr (W := wf_cH_startAnother) (fr_rf) (fr_mono (by decide +kernel) (cO_putInCalendar_fr l4 ((0 : Int32)) ((gI s 800 0) + l3) _ _ hs2))
  exact FS h (f1)
theorem cH_startAnother_61_b_fr (kk : Int32 → Int32 → Nat → Int32 → ts → Option (Int32 × ts)) (hkk : ∀ (a0 : Int32) (a1 : Int32) (a2 : Nat) (a3 : Int32) (s : ts) (r : Int32 × ts), kk a0 a1 a2 a3 s = some r → fr wf_cH_startAnother s r.2) (l2 : Int32) (l3 : Int32) (l4 : Nat) (l5 : Int32) (s : ts) (r : Int32 × ts) (h : cH_startAnother_61_b kk l2 l3 l4 l5 s = some r) : fr wf_cH_startAnother s r.2 := by
  unfold cH_startAnother_61_b at h
  refine FI h (fun h => ?_) (fun h => ?_)
  · exact fr_tr (fr_rf) (cH_startAnother_97_fr l3 l4 _ _ h)
  · refine FI h (fun h => ?_) (fun h => ?_)
    · exact fr_tr (fr_rf) (cH_startAnother_97_fr l3 l4 _ _ h)
    · replace h := FG h
      obtain ⟨x4, hx4, h⟩ := FB h
      have f1 := fr_tr (W := wf_cH_startAnother) (fr_rf) (fr_mono (by decide +kernel) (cW_result_fr l5 _ _ hx4))
      replace h := FG h
      replace h := FG h
      exact fr_tr (fr_wV (f1) rfl) (hkk l2 l3 l4 (l5 + (1 : Int32)) _ _ h)
theorem cH_startAnother_61_fr : ∀ (n : Nat) (l2 : Int32) (l3 : Int32) (l4 : Nat) (l5 : Int32) (s : ts) (r : Int32 × ts), cH_startAnother_61 n l2 l3 l4 l5 s = some r → fr wf_cH_startAnother s r.2 := by
  intro n
  induction n with
  | zero => intro l2 l3 l4 l5 s r h; exact FN h
  | succ n ih =>
    intro l2 l3 l4 l5 s r h
    rw [cH_startAnother_61.eq_2] at h
    exact cH_startAnother_61_b_fr (cH_startAnother_61 n) ih l2 l3 l4 l5 s r h
theorem cH_startAnother_24_fr (l1 : Int32) (t0 : Int32) (s : ts) (r : Int32 × ts) (h : cH_startAnother_24 l1 t0 s = some r) : fr wf_cH_startAnother s r.2 := by
  unfold cH_startAnother_24 at h
  obtain ⟨x3, hx3, h⟩ := FB h
  have f1 := fr_tr (W := wf_cH_startAnother) (fr_rf) (fr_mono (by decide +kernel) (cW_result_fr t0 _ _ hx3))
  obtain ⟨x6, hx6, h⟩ := FB h
  have f2 := fr_tr (W := wf_cH_startAnother) (f1) (fr_mono (by decide +kernel) (cH_isTimeAhead_fr x3.1 _ _ hx6))
  refine FI h (fun h => ?_) (fun h => ?_)
  · exact FS h (f2)
  · obtain ⟨x9, hx9, h⟩ := FB h
    have f3 := fr_tr (W := wf_cH_startAnother) (f2) (fr_mono (by decide +kernel) (cH_add_fr l1 _ _ hx9))
    cases e4 : x9.1 with
    | none =>
      rw [e4] at h
      try dsimp only at h
      exact FS h (f3)
    | some q10 =>
      rw [e4] at h
      try dsimp only at h
      exact fr_tr (f3) (cH_startAnother_61_fr tm_N t0 x3.1 q10 ((0 : Int32)) _ _ h)
theorem cH_startAnother_fr (l1 : Int32) (s : ts) (r : Int32 × ts) (h : cH_startAnother l1 s = some r) : fr wf_cH_startAnother s r.2 := by
  unfold cH_startAnother at h
  obtain ⟨x3, hx3, h⟩ := FB h
  have f1 := fr_tr (W := wf_cH_startAnother) (fr_rf) (fr_mono (by decide +kernel) (cG_isDefinition_fr l1 _ _ hx3))
  refine FI h (fun h => ?_) (fun h => ?_)
  · exact fr_tr (f1) (cH_startAnother_24_fr l1 ((0 : Int32)) _ _ h)
  · replace h := FG h
    exact fr_tr (f1) (cH_startAnother_24_fr l1 (gA x3.2 19 l1.toNatClampNeg) _ _ h)
theorem cO_find_fr (l1 : Int32) (s : ts) (r : Option Nat × ts) (h : cO_find l1 s = some r) : fr wf_cO_find s r.2 := by
  unfold cO_find at h
  refine FI h (fun h => ?_) (fun h => ?_)
  · exact FS h (fr_rf)
  · refine FI h (fun h => ?_) (fun h => ?_)
    · exact FS h (fr_rf)
    · refine FI h (fun h => ?_) (fun h => ?_)
      · exact FS h (fr_rf)
      · replace h := FG h
        refine FI h (fun h => ?_) (fun h => ?_)
        · exact FS h (fr_rf)
        · exact FS h (fr_rf)
theorem cP_isOver_fr (l0 : Nat) (s : ts) (r : Int32 × ts) (h : cP_isOver l0 s = some r) : fr wf_cP_isOver s r.2 := by
  unfold cP_isOver at h
  replace h := FG h
  refine FI h (fun h => ?_) (fun h => ?_)
  · exact FS h (fr_rf)
  · refine FI h (fun h => ?_) (fun h => ?_)
    · exact FS h (fr_rf)
    · exact FS h (fr_rf)
theorem cO_finish_138_b_fr (k122 : Nat → Int32 → ts → Option (ts)) (kk : Nat → Int32 → Int32 → ts → Option (ts)) (hk122 : ∀ (a0 : Nat) (a1 : Int32) (s : ts) (r : ts), k122 a0 a1 s = some r → fr wf_cO_finish s r) (hkk : ∀ (a0 : Nat) (a1 : Int32) (a2 : Int32) (s : ts) (r : ts), kk a0 a1 a2 s = some r → fr wf_cO_finish s r) (l1 : Nat) (l5 : Int32) (l6 : Int32) (s : ts) (r : ts) (h : cO_finish_138_b k122 kk l1 l5 l6 s = some r) : fr wf_cO_finish s r := by
  unfold cO_finish_138_b at h
  refine FI h (fun h => ?_) (fun h => ?_)
  · exact fr_tr (fr_rf) (hk122 l1 (l5 + (1 : Int32)) _ _ h)
  · obtain ⟨x3, hx3, h⟩ := FB h
    have f1 := fr_tr (W := wf_cO_finish) (fr_rf) (fr_mono (by decide +kernel) (cO_giveBack_fr l1 l5 _ _ hx3))
    exact fr_tr (f1) (hkk l1 l5 (l6 + (-1 : Int32)) _ _ h)
theorem cO_finish_138_fr (k122 : Nat → Int32 → ts → Option (ts)) (hk122 : ∀ (a0 : Nat) (a1 : Int32) (s : ts) (r : ts), k122 a0 a1 s = some r → fr wf_cO_finish s r) : ∀ (n : Nat) (l1 : Nat) (l5 : Int32) (l6 : Int32) (s : ts) (r : ts), cO_finish_138 k122 n l1 l5 l6 s = some r → fr wf_cO_finish s r := by
  intro n
  induction n with
  | zero => intro l1 l5 l6 s r h; exact FN h
  | succ n ih =>
    intro l1 l5 l6 s r h
    rw [cO_finish_138.eq_2] at h
    exact cO_finish_138_b_fr k122 (cO_finish_138 k122 n) hk122 ih l1 l5 l6 s r h
theorem cO_finish_122_b_fr (kk : Nat → Int32 → ts → Option (ts)) (hkk : ∀ (a0 : Nat) (a1 : Int32) (s : ts) (r : ts), kk a0 a1 s = some r → fr wf_cO_finish s r) (l1 : Nat) (l5 : Int32) (s : ts) (r : ts) (h : cO_finish_122_b kk l1 l5 s = some r) : fr wf_cO_finish s r := by
  unfold cO_finish_122_b at h
  refine FI h (fun h => ?_) (fun h => ?_)
  · exact FV h (fr_rf)
  · replace h := FG h
    replace h := FG h
    exact fr_tr (fr_rf) (cO_finish_138_fr kk hkk tm_N l1 l5 (gU s l1 l5.toNatClampNeg) _ _ h)
theorem cO_finish_122_fr : ∀ (n : Nat) (l1 : Nat) (l5 : Int32) (s : ts) (r : ts), cO_finish_122 n l1 l5 s = some r → fr wf_cO_finish s r := by
  intro n
  induction n with
  | zero => intro l1 l5 s r h; exact FN h
  | succ n ih =>
    intro l1 l5 s r h
    rw [cO_finish_122.eq_2] at h
    exact cO_finish_122_b_fr (cO_finish_122 n) ih l1 l5 s r h
theorem cO_finish_102_fr (l1 : Nat) (l4 : Option Nat) (t1 : Int32) (t2 : Int32) (s : ts) (r : ts) (h : cO_finish_102 l1 l4 t1 t2 s = some r) : fr wf_cO_finish s r := by
  unfold cO_finish_102 at h
  cases l4 with
  | none =>
    try dsimp only at h
    exact fr_tr (fr_wI (fr_rf) rfl) (cO_finish_122_fr tm_N l1 ((0 : Int32)) _ _ h)
  | some l4 =>
    try dsimp only at h
    obtain ⟨x3, hx3, h⟩ := FB h
    have f1 := fr_tr (W := wf_cO_finish) (fr_wI (fr_rf) rfl) (fr_mono (by decide +kernel) (cO_serve_fr l4 none _ _ hx3))
    exact fr_tr (f1) (cO_finish_122_fr tm_N l1 ((0 : Int32)) _ _ h)
theorem cO_finish_84_fr (l1 : Nat) (l2 : Int32) (l4 : Option Nat) (t1 : Int32) (t2 : Int32) (s : ts) (r : ts) (h : cO_finish_84 l1 l2 l4 t1 t2 s = some r) : fr wf_cO_finish s r := by
  unfold cO_finish_84 at h
  cases l4 with
  | none =>
    try dsimp only at h
    refine FI h (fun h => ?_) (fun h => ?_)
    · exact fr_tr (fr_wI (fr_rf) rfl) (cO_finish_102_fr l1 none (gI (wI s 905 0 (t1 + t2)) 906 0) ((0 : Int32)) _ _ h)
    · exact fr_tr (fr_wI (fr_rf) rfl) (cO_finish_102_fr l1 none (gI (wI s 905 0 (t1 + t2)) 906 0) ((1 : Int32)) _ _ h)
  | some l4 =>
    try dsimp only at h
    refine FI h (fun h => ?_) (fun h => ?_)
    · exact fr_tr (fr_wI (fr_rf) rfl) (cO_finish_102_fr l1 (some l4) (gI (wI s 905 0 (t1 + t2)) 906 0) ((0 : Int32)) _ _ h)
    · exact fr_tr (fr_wI (fr_rf) rfl) (cO_finish_102_fr l1 (some l4) (gI (wI s 905 0 (t1 + t2)) 906 0) ((1 : Int32)) _ _ h)
theorem cO_finish_62_fr (l1 : Nat) (l2 : Int32) (l4 : Option Nat) (t0 : Nat) (t1 : Int32) (s : ts) (r : ts) (h : cO_finish_62 l1 l2 l4 t0 t1 s = some r) : fr wf_cO_finish s r := by
  unfold cO_finish_62 at h
  cases l4 with
  | none =>
    try dsimp only at h
    replace h := FG h
    replace h := FG h
    refine FI h (fun h => ?_) (fun h => ?_)
    · exact fr_tr (fr_wI (fr_wI (fr_rf) rfl) rfl) (cO_finish_84_fr l1 l2 none (gI (wI (wI s 502 t0 t1) 504 l1 l2) 905 0) ((1 : Int32)) _ _ h)
    · exact fr_tr (fr_wI (fr_wI (fr_rf) rfl) rfl) (cO_finish_84_fr l1 l2 none (gI (wI (wI s 502 t0 t1) 504 l1 l2) 905 0) ((0 : Int32)) _ _ h)
  | some l4 =>
    try dsimp only at h
    replace h := FG h
    replace h := FG h
    refine FI h (fun h => ?_) (fun h => ?_)
    · exact fr_tr (fr_wI (fr_wI (fr_rf) rfl) rfl) (cO_finish_84_fr l1 l2 (some l4) (gI (wI (wI s 502 t0 t1) 504 l1 l2) 905 0) ((1 : Int32)) _ _ h)
    · exact fr_tr (fr_wI (fr_wI (fr_rf) rfl) rfl) (cO_finish_84_fr l1 l2 (some l4) (gI (wI (wI s 502 t0 t1) 504 l1 l2) 905 0) ((0 : Int32)) _ _ h)
theorem cO_finish_49_fr (l1 : Nat) (l2 : Int32) (t0 : Option Nat) (s : ts) (r : ts) (h : cO_finish_49 l1 l2 t0 s = some r) : fr wf_cO_finish s r := by
  unfold cO_finish_49 at h
  cases t0 with
  | none =>
    try dsimp only at h
    refine FI h (fun h => ?_) (fun h => ?_)
    · exact fr_tr (fr_rf) (cO_finish_62_fr l1 l2 none l1 ((5 : Int32)) _ _ h)
    · exact fr_tr (fr_rf) (cO_finish_62_fr l1 l2 none l1 ((6 : Int32)) _ _ h)
  | some t0 =>
    try dsimp only at h
    refine FI h (fun h => ?_) (fun h => ?_)
    · exact fr_tr (fr_rf) (cO_finish_62_fr l1 l2 (some t0) l1 ((5 : Int32)) _ _ h)
    · exact fr_tr (fr_rf) (cO_finish_62_fr l1 l2 (some t0) l1 ((6 : Int32)) _ _ h)
theorem cO_finish_26_fr (l1 : Nat) (l2 : Int32) (s : ts) (r : ts) (h : cO_finish_26 l1 l2 s = some r) : fr wf_cO_finish s r := by
  unfold cO_finish_26 at h
  replace h := FG h
  refine FI h (fun h => ?_) (fun h => ?_)
  · obtain ⟨x4, hx4, h⟩ := FB h
    have f1 := fr_tr (W := wf_cO_finish) (fr_rf) (fr_mono (by decide +kernel) (cW_placeAt_fr (gI s 511 l1) _ _ hx4))
    cases e2 : x4.1 with
    | none =>
      rw [e2] at h
      try dsimp only at h
      exact fr_tr (f1) (cO_finish_49_fr l1 l2 none _ _ h)
    | some q5 =>
      rw [e2] at h
      try dsimp only at h
      exact fr_tr (f1) (cO_finish_49_fr l1 l2 (some q5) _ _ h)
  · exact fr_tr (fr_rf) (cO_finish_49_fr l1 l2 none _ _ h)
theorem cO_finish_fr (l1 : Option Nat) (l2 : Int32) (s : ts) (r : ts) (h : cO_finish l1 l2 s = some r) : fr wf_cO_finish s r := by
  unfold cO_finish at h
  cases l1 with
  | none =>
    try dsimp only at h
    exact FV h (fr_rf)
  | some l1 =>
    try dsimp only at h
    replace h := FG h
    obtain ⟨x4, hx4, h⟩ := FB h
    have f1 := fr_tr (W := wf_cO_finish) (fr_rf) (fr_mono (by decide +kernel) (cP_isOver_fr l1 _ _ hx4))
    refine FI h (fun h => ?_) (fun h => ?_)
    · replace h := FG h
      cases e3 : gR x4.2 507 l1 with
      | none =>
        rw [e3] at h
        try dsimp only at h
        exact fr_tr (f1) (cO_finish_26_fr l1 l2 _ _ h)
      | some r6 =>
        rw [e3] at h
        try dsimp only at h
        replace h := FG h
        obtain ⟨s10, hs10, h⟩ := FB h
        have f2 := fr_tr (W := wf_cO_finish) (f1) (fr_mono (by decide +kernel) (cN_drop_fr r6 l1 _ _ hs10))
        exact fr_tr (f2) (cO_finish_26_fr l1 l2 _ _ h)
    · exact FV h (f1)
theorem cO_wake_fr (l1 : Option Nat) (s : ts) (r : ts) (h : cO_wake l1 s = some r) : fr wf_cO_wake s r := by
  unfold cO_wake at h
  cases l1 with
  | none =>
    try dsimp only at h
    exact FV h (fr_rf)
  | some l1 =>
    try dsimp only at h
    replace h := FG h
    refine FI h (fun h => ?_) (fun h => ?_)
    · obtain ⟨s3, hs3, h⟩ := FB h
      have f1 := fr_tr (W := wf_cO_wake) (fr_rf) (fr_mono (by decide +kernel) (cO_putInCalendar_fr l1 ((0 : Int32)) (gI s 800 0) _ _ hs3))
      exact FV h (f1)
    · exact FV h (fr_rf)
theorem cH_say_fr (l1 : Int32) (s : ts) (r : ts) (h : cH_say l1 s = some r) : fr wf_cH_say s r := by
  unfold cH_say at h
  refine FI h (fun h => ?_) (fun h => ?_)
  · exact FV h (fr_wI (fr_rf) rfl)
  · replace h := FG h
    replace h := FG h
    exact FV h (fr_wI (fr_wA (fr_wA (fr_rf) rfl) rfl) rfl)
theorem cH_perform_fr (l1 : Nat) (l2 : Int32) (l3 : Int32) (s : ts) (r : Int32 × ts) (h : cH_perform l1 l2 l3 s = some r) : fr wf_cH_perform s r.2 := by
  unfold cH_perform at h
  obtain ⟨x3, hx3, h⟩ := FB h
  have f1 := fr_tr (W := wf_cH_perform) (fr_rf) (fr_mono (by decide +kernel) (cG_targetAt_fr l2 _ _ hx3))
  obtain ⟨x6, hx6, h⟩ := FB h
  have f2 := fr_tr (W := wf_cH_perform) (f1) (fr_mono (by decide +kernel) (cG_actAt_fr l2 _ _ hx6))
  refine FI h (fun h => ?_) (fun h => ?_)
  · obtain ⟨s8, hs8, h⟩ := FB h
    have f3 := fr_tr (W := wf_cH_perform) (f2) (fr_mono (by decide +kernel) (cW_assign_fr l1 x3.1 l3 _ _ hs8))
    exact FS h (f3)
  · refine FI h (fun h => ?_) (fun h => ?_)
    · refine FI h (fun h => ?_) (fun h => ?_)
      · replace h := FG h
        exact FS h (fr_wI (f2) rfl)
      · replace h := FG h
        exact FS h (fr_wI (f2) rfl)
    · refine FI h (fun h => ?_) (fun h => ?_)
      · refine FI h (fun h => ?_) (fun h => ?_)
        · replace h := FG h
          exact FS h (fr_wI (f2) rfl)
        · replace h := FG h
          exact FS h (fr_wI (f2) rfl)
      · refine FI h (fun h => ?_) (fun h => ?_)
        · obtain ⟨x21, hx21, h⟩ := FB h
          have f4 := fr_tr (W := wf_cH_perform) (f2) (fr_mono (by decide +kernel) (cH_hold_fr l1 l3 _ _ hx21))
          exact FS h (f4)
        · refine FI h (fun h => ?_) (fun h => ?_)
          · obtain ⟨s24, hs24, h⟩ := FB h
            have f5 := fr_tr (W := wf_cH_perform) (f2) (fr_mono (by decide +kernel) (cO_seize_fr l1 x3.1 l3 _ _ hs24))
            exact FS h (f5)
          · refine FI h (fun h => ?_) (fun h => ?_)
            · obtain ⟨x29, hx29, h⟩ := FB h
              have f6 := fr_tr (W := wf_cH_perform) (f2) (fr_mono (by decide +kernel) (cO_giveBack_fr l1 x3.1 _ _ hx29))
              refine FI h (fun h => ?_) (fun h => ?_)
              · exact FS h (f6)
              · exact FS h (f6)
            · refine FI h (fun h => ?_) (fun h => ?_)
              · obtain ⟨x34, hx34, h⟩ := FB h
                have f7 := fr_tr (W := wf_cH_perform) (f2) (fr_mono (by decide +kernel) (cO_trade_fr l1 x3.1 l3 ((1 : Int32)) _ _ hx34))
                exact FS h (f7)
              · refine FI h (fun h => ?_) (fun h => ?_)
                · obtain ⟨x38, hx38, h⟩ := FB h
                  have f8 := fr_tr (W := wf_cH_perform) (f2) (fr_mono (by decide +kernel) (cO_trade_fr l1 x3.1 l3 ((0 : Int32)) _ _ hx38))
                  exact FS h (f8)
                · refine FI h (fun h => ?_) (fun h => ?_)
                  · refine FI h (fun h => ?_) (fun h => ?_)
                    · obtain ⟨s41, hs41, h⟩ := FB h
                      have f9 := fr_tr (W := wf_cH_perform) (f2) (fr_mono (by decide +kernel) (cO_makeAwait_fr l1 _ _ hs41))
                      exact FS h (f9)
                    · exact FS h (f2)
                  · refine FI h (fun h => ?_) (fun h => ?_)
                    · obtain ⟨x47, hx47, h⟩ := FB h
                      have f10 := fr_tr (W := wf_cH_perform) (f2) (fr_mono (by decide +kernel) (cH_startAnother_fr x3.1 _ _ hx47))
                      exact FS h (f10)
                    · refine FI h (fun h => ?_) (fun h => ?_)
                      · obtain ⟨x51, hx51, h⟩ := FB h
                        have f11 := fr_tr (W := wf_cH_perform) (f2) (fr_mono (by decide +kernel) (cO_find_fr l3 _ _ hx51))
                        cases e18 : x51.1 with
                        | none =>
                          rw [e18] at h
                          try dsimp only at h
                          obtain ⟨s53, hs53, h⟩ := FB h
                          have f12 := fr_tr (W := wf_cH_perform) (f11) (fr_mono (by decide +kernel) (cO_finish_fr none ((0 : Int32)) _ _ hs53))
                          obtain ⟨x57, hx57, h⟩ := FB h
                          have f13 := fr_tr (W := wf_cH_perform) (f12) (fr_mono (by decide +kernel) (cO_find_fr l3 _ _ hx57))
                          cases e14 : x57.1 with
                          | none =>
                            rw [e14] at h
                            try dsimp only at h
                            exact FS h (f13)
                          | some q58 =>
                            rw [e14] at h
                            try dsimp only at h
                            exact FS h (f13)
                        | some q59 =>
                          rw [e18] at h
                          try dsimp only at h
                          obtain ⟨s61, hs61, h⟩ := FB h
                          have f15 := fr_tr (W := wf_cH_perform) (f11) (fr_mono (by decide +kernel) (cO_finish_fr (some q59) ((0 : Int32)) _ _ hs61))
                          obtain ⟨x65, hx65, h⟩ := FB h
                          have f16 := fr_tr (W := wf_cH_perform) (f15) (fr_mono (by decide +kernel) (cO_find_fr l3 _ _ hx65))
                          cases e17 : x65.1 with
                          | none =>
                            rw [e17] at h
                            try dsimp only at h
                            exact FS h (f16)
                          | some q66 =>
                            rw [e17] at h
                            try dsimp only at h
                            exact FS h (f16)
                      · refine FI h (fun h => ?_) (fun h => ?_)
                        · obtain ⟨x70, hx70, h⟩ := FB h
                          have f19 := fr_tr (W := wf_cH_perform) (f2) (fr_mono (by decide +kernel) (cO_find_fr l3 _ _ hx70))
                          cases e26 : x70.1 with
                          | none =>
                            rw [e26] at h
                            try dsimp only at h
                            obtain ⟨s72, hs72, h⟩ := FB h
                            have f20 := fr_tr (W := wf_cH_perform) (f19) (fr_mono (by decide +kernel) (cO_wake_fr none _ _ hs72))
                            obtain ⟨x76, hx76, h⟩ := FB h
                            have f21 := fr_tr (W := wf_cH_perform) (f20) (fr_mono (by decide +kernel) (cO_find_fr l3 _ _ hx76))
                            cases e22 : x76.1 with
                            | none =>
                              rw [e22] at h
                              try dsimp only at h
                              exact FS h (f21)
                            | some q77 =>
                              rw [e22] at h
                              try dsimp only at h
                              exact FS h (f21)
                          | some q78 =>
                            rw [e26] at h
                            try dsimp only at h
                            obtain ⟨s80, hs80, h⟩ := FB h
                            have f23 := fr_tr (W := wf_cH_perform) (f19) (fr_mono (by decide +kernel) (cO_wake_fr (some q78) _ _ hs80))
                            obtain ⟨x84, hx84, h⟩ := FB h
                            have f24 := fr_tr (W := wf_cH_perform) (f23) (fr_mono (by decide +kernel) (cO_find_fr l3 _ _ hx84))
                            cases e25 : x84.1 with
                            | none =>
                              rw [e25] at h
                              try dsimp only at h
                              exact FS h (f24)
                            | some q85 =>
                              rw [e25] at h
                              try dsimp only at h
                              exact FS h (f24)
                        · refine FI h (fun h => ?_) (fun h => ?_)
                          · obtain ⟨s88, hs88, h⟩ := FB h
                            have f27 := fr_tr (W := wf_cH_perform) (f2) (fr_mono (by decide +kernel) (cH_say_fr l3 _ _ hs88))
                            exact FS h (f27)
                          · obtain ⟨s92, hs92, h⟩ := FB h
                            have f28 := fr_tr (W := wf_cH_perform) (f2) (fr_mono (by decide +kernel) (cO_finish_fr (some l1) ((0 : Int32)) _ _ hs92))
                            exact FS h (f28)
theorem cH_goToStatement_55_fr (l1 : Nat) (s : ts) (r : ts) (h : cH_goToStatement_55 l1 s = some r) : fr wf_cH_goToStatement s r := by
  unfold cH_goToStatement_55 at h
  replace h := FG h
  obtain ⟨x4, hx4, h⟩ := FB h
  have f1 := fr_tr (W := wf_cH_goToStatement) (fr_rf) (fr_mono (by decide +kernel) (cG_actAt_fr (gI s 503 l1) _ _ hx4))
  refine FI h (fun h => ?_) (fun h => ?_)
  · obtain ⟨s6, hs6, h⟩ := FB h
    have f2 := fr_tr (W := wf_cH_goToStatement) (f1) (fr_mono (by decide +kernel) (cO_finish_fr (some l1) ((0 : Int32)) _ _ hs6))
    exact FV h (f2)
  · exact FV h (f1)
theorem cH_goToStatement_12_b_fr (kk : Nat → Int32 → ts → Option (ts)) (hkk : ∀ (a0 : Nat) (a1 : Int32) (s : ts) (r : ts), kk a0 a1 s = some r → fr wf_cH_goToStatement s r) (l1 : Nat) (l2 : Int32) (s : ts) (r : ts) (h : cH_goToStatement_12_b kk l1 l2 s = some r) : fr wf_cH_goToStatement s r := by
  unfold cH_goToStatement_12_b at h
  refine FI h (fun h => ?_) (fun h => ?_)
  · exact fr_tr (fr_rf) (cH_goToStatement_55_fr l1 _ _ h)
  · replace h := FG h
    obtain ⟨x4, hx4, h⟩ := FB h
    have f1 := fr_tr (W := wf_cH_goToStatement) (fr_rf) (fr_mono (by decide +kernel) (cG_actAt_fr (gI s 503 l1) _ _ hx4))
    refine FI h (fun h => ?_) (fun h => ?_)
    · replace h := FG h
      obtain ⟨x8, hx8, h⟩ := FB h
      have f2 := fr_tr (W := wf_cH_goToStatement) (f1) (fr_mono (by decide +kernel) (cG_targetAt_fr (gI x4.2 503 l1) _ _ hx8))
      replace h := FG h
      exact fr_tr (fr_wI (f2) rfl) (hkk l1 (l2 + (1 : Int32)) _ _ h)
    · exact fr_tr (f1) (cH_goToStatement_55_fr l1 _ _ h)
theorem cH_goToStatement_12_fr : ∀ (n : Nat) (l1 : Nat) (l2 : Int32) (s : ts) (r : ts), cH_goToStatement_12 n l1 l2 s = some r → fr wf_cH_goToStatement s r := by
  intro n
  induction n with
  | zero => intro l1 l2 s r h; exact FN h
  | succ n ih =>
    intro l1 l2 s r h
    rw [cH_goToStatement_12.eq_2] at h
    exact cH_goToStatement_12_b_fr (cH_goToStatement_12 n) ih l1 l2 s r h
theorem cH_goToStatement_fr (l1 : Nat) (s : ts) (r : ts) (h : cH_goToStatement l1 s = some r) : fr wf_cH_goToStatement s r := by
  unfold cH_goToStatement at h
  replace h := FG h
  refine FI h (fun h => ?_) (fun h => ?_)
  · exact fr_tr (fr_rf) (cH_goToStatement_12_fr tm_N l1 ((0 : Int32)) _ _ h)
  · exact FV h (fr_rf)
theorem cH_closeTurn_26_b_fr (kk : Option Nat → ts → Option (ts)) (hkk : ∀ (a0 : Option Nat) (s : ts) (r : ts), kk a0 s = some r → fr wf_cH_closeTurn s r) (l1 : Option Nat) (s : ts) (r : ts) (h : cH_closeTurn_26_b kk l1 s = some r) : fr wf_cH_closeTurn s r := by
  unfold cH_closeTurn_26_b at h
  cases l1 with
  | none =>
    try dsimp only at h
    exact FV h (fr_rf)
  | some l1 =>
    try dsimp only at h
    replace h := FG h
    cases e9 : gR s 509 l1 with
    | none =>
      rw [e9] at h
      try dsimp only at h
      obtain ⟨x6, hx6, h⟩ := FB h
      have f1 := fr_tr (W := wf_cH_closeTurn) (fr_rf) (fr_mono (by decide +kernel) (cW_reckon_fr ((gI s 503 l1) - ((1 : Int32))) l1 _ _ hx6))
      refine FI h (fun h => ?_) (fun h => ?_)
      · obtain ⟨x9, hx9, h⟩ := FB h
        have f2 := fr_tr (W := wf_cH_closeTurn) (f1) (fr_mono (by decide +kernel) (cW_result_fr ((0 : Int32)) _ _ hx9))
        refine FI h (fun h => ?_) (fun h => ?_)
        · exact fr_tr (f2) (hkk none _ _ h)
        · obtain ⟨s11, hs11, h⟩ := FB h
          have f3 := fr_tr (W := wf_cH_closeTurn) (f2) (fr_mono (by decide +kernel) (cO_putInCalendar_fr l1 ((0 : Int32)) (gI x9.2 800 0) _ _ hs11))
          exact fr_tr (f3) (hkk none _ _ h)
      · obtain ⟨s15, hs15, h⟩ := FB h
        have f4 := fr_tr (W := wf_cH_closeTurn) (f1) (fr_mono (by decide +kernel) (cO_finish_fr (some l1) x6.1 _ _ hs15))
        exact fr_tr (f4) (hkk none _ _ h)
    | some r2 =>
      rw [e9] at h
      try dsimp only at h
      obtain ⟨x20, hx20, h⟩ := FB h
      have f5 := fr_tr (W := wf_cH_closeTurn) (fr_rf) (fr_mono (by decide +kernel) (cW_reckon_fr ((gI s 503 l1) - ((1 : Int32))) l1 _ _ hx20))
      refine FI h (fun h => ?_) (fun h => ?_)
      · obtain ⟨x23, hx23, h⟩ := FB h
        have f6 := fr_tr (W := wf_cH_closeTurn) (f5) (fr_mono (by decide +kernel) (cW_result_fr ((0 : Int32)) _ _ hx23))
        refine FI h (fun h => ?_) (fun h => ?_)
        · exact fr_tr (f6) (hkk (some r2) _ _ h)
        · obtain ⟨s25, hs25, h⟩ := FB h
          have f7 := fr_tr (W := wf_cH_closeTurn) (f6) (fr_mono (by decide +kernel) (cO_putInCalendar_fr l1 ((0 : Int32)) (gI x23.2 800 0) _ _ hs25))
          exact fr_tr (f7) (hkk (some r2) _ _ h)
      · obtain ⟨s29, hs29, h⟩ := FB h
        have f8 := fr_tr (W := wf_cH_closeTurn) (f5) (fr_mono (by decide +kernel) (cO_finish_fr (some l1) x20.1 _ _ hs29))
        exact fr_tr (f8) (hkk (some r2) _ _ h)
theorem cH_closeTurn_26_fr : ∀ (n : Nat) (l1 : Option Nat) (s : ts) (r : ts), cH_closeTurn_26 n l1 s = some r → fr wf_cH_closeTurn s r := by
  intro n
  induction n with
  | zero => intro l1 s r h; exact FN h
  | succ n ih =>
    intro l1 s r h
    rw [cH_closeTurn_26.eq_2] at h
    exact cH_closeTurn_26_b_fr (cH_closeTurn_26 n) ih l1 s r h
theorem cH_closeTurn_fr (s : ts) (r : ts) (h : cH_closeTurn s = some r) : fr wf_cH_closeTurn s r := by
  unfold cH_closeTurn at h
  cases e1 : gR (wI (wR s 1003 0 none) 1005 0 ((gI (wR s 1003 0 none) 1005 0) + ((1 : Int32)))) 600 29 with
  | none =>
    rw [e1] at h
    try dsimp only at h
    exact fr_tr (fr_wI (fr_wR (fr_rf) rfl) rfl) (cH_closeTurn_26_fr tm_N none _ _ h)
  | some r1 =>
    rw [e1] at h
    try dsimp only at h
    exact fr_tr (fr_wI (fr_wR (fr_rf) rfl) rfl) (cH_closeTurn_26_fr tm_N (some r1) _ _ h)
theorem cH_doStep_71_fr (l1 : Nat) (s : ts) (r : ts) (h : cH_doStep_71 l1 s = some r) : fr wf_cH_doStep s r := by
  unfold cH_doStep_71 at h
  obtain ⟨s2, hs2, h⟩ := FB h
  have f1 := fr_tr (W := wf_cH_doStep) (fr_rf) (fr_mono (by decide +kernel) (cH_goToStatement_fr l1 _ _ hs2))
  replace h := FG h
  refine FI h (fun h => ?_) (fun h => ?_)
  · exact FV h (f1)
  · obtain ⟨s6, hs6, h⟩ := FB h
    have f2 := fr_tr (W := wf_cH_doStep) (f1) (fr_mono (by decide +kernel) (cH_closeTurn_fr _ _ hs6))
    exact FV h (f2)
theorem cH_doStep_58_fr (l1 : Nat) (l3 : Int32) (s : ts) (r : ts) (h : cH_doStep_58 l1 l3 s = some r) : fr wf_cH_doStep s r := by
  unfold cH_doStep_58 at h
  refine FI h (fun h => ?_) (fun h => ?_)
  · exact fr_tr (fr_rf) (cH_doStep_71_fr l1 _ _ h)
  · obtain ⟨s2, hs2, h⟩ := FB h
    have f1 := fr_tr (W := wf_cH_doStep) (fr_rf) (fr_mono (by decide +kernel) (cO_finish_fr (some l1) l3 _ _ hs2))
    exact fr_tr (f1) (cH_doStep_71_fr l1 _ _ h)
theorem cH_doStep_fr (l1 : Nat) (s : ts) (r : ts) (h : cH_doStep l1 s = some r) : fr wf_cH_doStep s r := by
  unfold cH_doStep at h
  replace h := FG h
  obtain ⟨x4, hx4, h⟩ := FB h
  have f1 := fr_tr (W := wf_cH_doStep) (fr_wI (fr_wI (fr_rf) rfl) rfl) (fr_mono (by decide +kernel) (cW_reckon_fr (gI (wI s 1004 0 (((gI s 1004 0) + ((1 : Int32))) &&& ((1073741823 : Int32)))) 503 l1) l1 _ _ hx4))
  refine FI h (fun h => ?_) (fun h => ?_)
  · obtain ⟨x7, hx7, h⟩ := FB h
    have f2 := fr_tr (W := wf_cH_doStep) (f1) (fr_mono (by decide +kernel) (cW_result_fr ((0 : Int32)) _ _ hx7))
    obtain ⟨x10, hx10, h⟩ := FB h
    have f3 := fr_tr (W := wf_cH_doStep) (f2) (fr_mono (by decide +kernel) (cH_perform_fr l1 (gI (wI s 1004 0 (((gI s 1004 0) + ((1 : Int32))) &&& ((1073741823 : Int32)))) 503 l1) x7.1 _ _ hx10))
    exact fr_tr (f3) (cH_doStep_58_fr l1 x10.1 _ _ h)
  · exact fr_tr (f1) (cH_doStep_58_fr l1 x4.1 _ _ h)
theorem cK_pass_29_fr (l0 : Nat) (l1 : Int64) (t0 : Nat) (t1 : Int64) (t2 : Int64) (t3 : Int32) (s : ts) (r : ts) (h : cK_pass_29 l0 l1 t0 t1 t2 t3 s = some r) : fr wf_cK_pass s r := by
  unfold cK_pass_29 at h
  replace h := FG h
  replace h := FG h
  obtain ⟨x5, hx5, h⟩ := FB h
  have f1 := fr_tr (W := wf_cK_pass) (fr_wJ (fr_rf) rfl) (fr_mono (by decide +kernel) (cK_waiting_fr l0 _ _ hx5))
  exact FV h (fr_wJ (f1) rfl)
theorem cK_pass_fr (l0 : Nat) (l1 : Int64) (s : ts) (r : ts) (h : cK_pass l0 l1 s = some r) : fr wf_cK_pass s r := by
  unfold cK_pass at h
  replace h := FG h
  refine FI h (fun h => ?_) (fun h => ?_)
  · exact fr_tr (fr_rf) (cK_pass_29_fr l0 l1 l0 (gJ s 708 l0) l1 ((gI s 704 l0) - (gI s 703 l0)) _ _ h)
  · exact fr_tr (fr_rf) (cK_pass_29_fr l0 l1 l0 (gJ s 708 l0) l1 (gI s 703 l0) _ _ h)
theorem cW_goTo_12_b_fr (kk : Int32 → Int64 → Int32 → ts → Option (ts)) (hkk : ∀ (a0 : Int32) (a1 : Int64) (a2 : Int32) (s : ts) (r : ts), kk a0 a1 a2 s = some r → fr wf_cW_goTo s r) (l1 : Int32) (l2 : Int64) (l4 : Int32) (s : ts) (r : ts) (h : cW_goTo_12_b kk l1 l2 l4 s = some r) : fr wf_cW_goTo s r := by
  unfold cW_goTo_12_b at h
  refine FI h (fun h => ?_) (fun h => ?_)
  · exact FV h (fr_wI (fr_rf) rfl)
  · refine FI h (fun h => ?_) (fun h => ?_)
    · exact FV h (fr_wI (fr_rf) rfl)
    · replace h := FG h
      obtain ⟨s3, hs3, h⟩ := FB h
      have f1 := fr_tr (W := wf_cW_goTo) (fr_rf) (fr_mono (by decide +kernel) (cK_pass_fr l4.toNatClampNeg l2 _ _ hs3))
      exact fr_tr (f1) (hkk l1 l2 (l4 + (1 : Int32)) _ _ h)
theorem cW_goTo_12_fr : ∀ (n : Nat) (l1 : Int32) (l2 : Int64) (l4 : Int32) (s : ts) (r : ts), cW_goTo_12 n l1 l2 l4 s = some r → fr wf_cW_goTo s r := by
  intro n
  induction n with
  | zero => intro l1 l2 l4 s r h; exact FN h
  | succ n ih =>
    intro l1 l2 l4 s r h
    rw [cW_goTo_12.eq_2] at h
    exact cW_goTo_12_b_fr (cW_goTo_12 n) ih l1 l2 l4 s r h
theorem cW_goTo_fr (l1 : Int32) (s : ts) (r : ts) (h : cW_goTo l1 s = some r) : fr wf_cW_goTo s r := by
  unfold cW_goTo at h
  exact fr_tr (fr_rf) (cW_goTo_12_fr tm_N l1 (l1.toInt64 - ((gI s 800 0).toInt64)) ((0 : Int32)) _ _ h)
theorem cH_beginTurn_fr (s : ts) (r : Int32 × ts) (h : cH_beginTurn s = some r) : fr wf_cH_beginTurn s r.2 := by
  unfold cH_beginTurn at h
  obtain ⟨x3, hx3, h⟩ := FB h
  have f1 := fr_tr (W := wf_cH_beginTurn) (fr_rf) (fr_mono (by decide +kernel) (cN_takeFirst_fr 28 _ _ hx3))
  cases e5 : x3.1 with
  | none =>
    rw [e5] at h
    try dsimp only at h
    exact FS h (f1)
  | some q4 =>
    rw [e5] at h
    try dsimp only at h
    replace h := FG h
    obtain ⟨s7, hs7, h⟩ := FB h
    have f2 := fr_tr (W := wf_cH_beginTurn) (f1) (fr_mono (by decide +kernel) (cW_goTo_fr (gI x3.2 508 q4) _ _ hs7))
    replace h := FG h
    obtain ⟨s11, hs11, h⟩ := FB h
    have f3 := fr_tr (W := wf_cH_beginTurn) (fr_wR (fr_wI (f2) rfl) rfl) (fr_mono (by decide +kernel) (cH_goToStatement_fr q4 _ _ hs11))
    replace h := FG h
    refine FI h (fun h => ?_) (fun h => ?_)
    · exact FS h (f3)
    · obtain ⟨s15, hs15, h⟩ := FB h
      have f4 := fr_tr (W := wf_cH_beginTurn) (f3) (fr_mono (by decide +kernel) (cH_closeTurn_fr _ _ hs15))
      replace h := FG h
      exact FS h (f4)
theorem cH_doSteps_4_b_fr (kk : Int32 → Int32 → Int32 → ts → Option (Int32 × ts)) (hkk : ∀ (a0 : Int32) (a1 : Int32) (a2 : Int32) (s : ts) (r : Int32 × ts), kk a0 a1 a2 s = some r → fr wf_cH_doSteps s r.2) (l1 : Int32) (l2 : Int32) (l3 : Int32) (s : ts) (r : Int32 × ts) (h : cH_doSteps_4_b kk l1 l2 l3 s = some r) : fr wf_cH_doSteps s r.2 := by
  unfold cH_doSteps_4_b at h
  refine FI h (fun h => ?_) (fun h => ?_)
  · exact FS h (fr_rf)
  · refine FI h (fun h => ?_) (fun h => ?_)
    · exact FS h (fr_rf)
    · cases e3 : gR s 1003 0 with
      | none =>
        rw [e3] at h
        try dsimp only at h
        obtain ⟨x5, hx5, h⟩ := FB h
        have f1 := fr_tr (W := wf_cH_doSteps) (fr_rf) (fr_mono (by decide +kernel) (cH_beginTurn_fr _ _ hx5))
        refine FI h (fun h => ?_) (fun h => ?_)
        · exact FS h (f1)
        · exact fr_tr (f1) (hkk l1 l2 (l3 + (1 : Int32)) _ _ h)
      | some r1 =>
        rw [e3] at h
        try dsimp only at h
        obtain ⟨s8, hs8, h⟩ := FB h
        have f2 := fr_tr (W := wf_cH_doSteps) (fr_rf) (fr_mono (by decide +kernel) (cH_doStep_fr r1 _ _ hs8))
        exact fr_tr (f2) (hkk l1 (l2 + (1 : Int32)) (l3 + (1 : Int32)) _ _ h)
theorem cH_doSteps_4_fr : ∀ (n : Nat) (l1 : Int32) (l2 : Int32) (l3 : Int32) (s : ts) (r : Int32 × ts), cH_doSteps_4 n l1 l2 l3 s = some r → fr wf_cH_doSteps s r.2 := by
  intro n
  induction n with
  | zero => intro l1 l2 l3 s r h; exact FN h
  | succ n ih =>
    intro l1 l2 l3 s r h
    rw [cH_doSteps_4.eq_2] at h
    exact cH_doSteps_4_b_fr (cH_doSteps_4 n) ih l1 l2 l3 s r h
theorem cH_doSteps_fr (l1 : Int32) (s : ts) (r : Int32 × ts) (h : cH_doSteps l1 s = some r) : fr wf_cH_doSteps s r.2 := by
  unfold cH_doSteps at h
  exact fr_tr (fr_rf) (cH_doSteps_4_fr tm_N l1 ((0 : Int32)) ((0 : Int32)) _ _ h)
theorem cX_run_fr (l1 : Int32) (s : ts) (r : Int32 × ts) (h : cX_run l1 s = some r) : fr wf_cX_run s r.2 := by
  unfold cX_run at h
  refine FI h (fun h => ?_) (fun h => ?_)
  · exact FS h (fr_rf)
  · obtain ⟨x3, hx3, h⟩ := FB h
    have f1 := fr_tr (W := wf_cX_run) (fr_rf) (fr_mono (by decide +kernel) (cX_isStepCount_fr l1 _ _ hx3))
    refine FI h (fun h => ?_) (fun h => ?_)
    · exact FS h (f1)
    · obtain ⟨x6, hx6, h⟩ := FB h
      have f2 := fr_tr (W := wf_cX_run) (f1) (fr_mono (by decide +kernel) (cH_doSteps_fr l1 _ _ hx6))
      exact FS h (f2)
theorem cR_taken_5_b_fr (kk : Int32 → Int32 → ts → Option (Int32 × ts)) (hkk : ∀ (a0 : Int32) (a1 : Int32) (s : ts) (r : Int32 × ts), kk a0 a1 s = some r → fr wf_cR_taken s r.2) (l1 : Int32) (l2 : Int32) (s : ts) (r : Int32 × ts) (h : cR_taken_5_b kk l1 l2 s = some r) : fr wf_cR_taken s r.2 := by
  unfold cR_taken_5_b at h
  refine FI h (fun h => ?_) (fun h => ?_)
  · exact FS h (fr_rf)
  · replace h := FG h
    refine FI h (fun h => ?_) (fun h => ?_)
    · exact fr_tr (fr_rf) (hkk l1 (l2 + (1 : Int32)) _ _ h)
    · refine FI h (fun h => ?_) (fun h => ?_)
      · exact fr_tr (fr_rf) (hkk l2 (l2 + (1 : Int32)) _ _ h)
      · replace h := FG h
        refine FI h (fun h => ?_) (fun h => ?_)
        · exact fr_tr (fr_rf) (hkk l2 (l2 + (1 : Int32)) _ _ h)
        · refine FI h (fun h => ?_) (fun h => ?_)
          · refine FI h (fun h => ?_) (fun h => ?_)
            · exact fr_tr (fr_rf) (hkk l1 (l2 + (1 : Int32)) _ _ h)
            · exact fr_tr (fr_rf) (hkk l2 (l2 + (1 : Int32)) _ _ h)
          · exact fr_tr (fr_rf) (hkk l1 (l2 + (1 : Int32)) _ _ h)
theorem cR_taken_5_fr : ∀ (n : Nat) (l1 : Int32) (l2 : Int32) (s : ts) (r : Int32 × ts), cR_taken_5 n l1 l2 s = some r → fr wf_cR_taken s r.2 := by
  intro n
  induction n with
  | zero => intro l1 l2 s r h; exact FN h
  | succ n ih =>
    intro l1 l2 s r h
    rw [cR_taken_5.eq_2] at h
    exact cR_taken_5_b_fr (cR_taken_5 n) ih l1 l2 s r h
theorem cR_taken_fr (s : ts) (r : Int32 × ts) (h : cR_taken s = some r) : fr wf_cR_taken s r.2 := by
  unfold cR_taken at h
  exact fr_tr (fr_rf) (cR_taken_5_fr tm_N ((-2 : Int32)) ((0 : Int32)) _ _ h)
theorem cR_waitingAt_fr (l1 : Int32) (s : ts) (r : Int32 × ts) (h : cR_waitingAt l1 s = some r) : fr wf_cR_waitingAt s r.2 := by
  unfold cR_waitingAt at h
  replace h := FG h
  replace h := FG h
  exact FS h (fr_rf)
theorem cR_goOn_64_fr (k2 : Int32 → Int32 → ts → Option (ts)) (hk2 : ∀ (a0 : Int32) (a1 : Int32) (s : ts) (r : ts), k2 a0 a1 s = some r → fr wf_cR_goOn s r) (l1 : Int32) (l2 : Int32) (l3 : Int64) (t1 : Int32) (t2 : Int64) (t3 : Int64) (t4 : Int32) (s : ts) (r : ts) (h : cR_goOn_64 k2 l1 l2 l3 t1 t2 t3 t4 s = some r) : fr wf_cR_goOn s r := by
  unfold cR_goOn_64 at h
  replace h := FG h
  replace h := FG h
  obtain ⟨x5, hx5, h⟩ := FB h
  have f1 := fr_tr (W := wf_cR_goOn) (fr_wB (fr_rf) rfl) (fr_mono (by decide +kernel) (cR_waitingAt_fr l2 _ _ hx5))
  exact fr_tr (fr_wB (f1) rfl) (hk2 l1 (l2 + (1 : Int32)) _ _ h)
theorem cR_goOn_2_b_fr (kk : Int32 → Int32 → ts → Option (ts)) (hkk : ∀ (a0 : Int32) (a1 : Int32) (s : ts) (r : ts), kk a0 a1 s = some r → fr wf_cR_goOn s r) (l1 : Int32) (l2 : Int32) (s : ts) (r : ts) (h : cR_goOn_2_b kk l1 l2 s = some r) : fr wf_cR_goOn s r := by
  unfold cR_goOn_2_b at h
  refine FI h (fun h => ?_) (fun h => ?_)
  · exact FV h (fr_wI (fr_rf) rfl)
  · replace h := FG h
    refine FI h (fun h => ?_) (fun h => ?_)
    · exact fr_tr (fr_rf) (cR_goOn_64_fr kk hkk l1 l2 ((l1 - (gI s 1152 0)).toInt64) l2 (gB s 133 l2.toNatClampNeg) ((l1 - (gI s 1152 0)).toInt64) (gA s 129 l2.toNatClampNeg) _ _ h)
    · refine FI h (fun h => ?_) (fun h => ?_)
      · exact fr_tr (fr_rf) (cR_goOn_64_fr kk hkk l1 l2 ((l1 - (gI s 1152 0)).toInt64) l2 (gB s 133 l2.toNatClampNeg) ((l1 - (gI s 1152 0)).toInt64) (((0 : Int32)) - (gA s 129 l2.toNatClampNeg)) _ _ h)
      · replace h := FG h
        exact fr_tr (fr_rf) (cR_goOn_64_fr kk hkk l1 l2 ((l1 - (gI s 1152 0)).toInt64) l2 (gB s 133 l2.toNatClampNeg) ((l1 - (gI s 1152 0)).toInt64) ((gA s 90 l2.toNatClampNeg) - (gA s 129 l2.toNatClampNeg)) _ _ h)
theorem cR_goOn_2_fr : ∀ (n : Nat) (l1 : Int32) (l2 : Int32) (s : ts) (r : ts), cR_goOn_2 n l1 l2 s = some r → fr wf_cR_goOn s r := by
  intro n
  induction n with
  | zero => intro l1 l2 s r h; exact FN h
  | succ n ih =>
    intro l1 l2 s r h
    rw [cR_goOn_2.eq_2] at h
    exact cR_goOn_2_b_fr (cR_goOn_2 n) ih l1 l2 s r h
theorem cR_goOn_fr (l1 : Int32) (s : ts) (r : ts) (h : cR_goOn l1 s = some r) : fr wf_cR_goOn s r := by
  unfold cR_goOn at h
  exact fr_tr (fr_rf) (cR_goOn_2_fr tm_N l1 ((0 : Int32)) _ _ h)
theorem cR_drop_12_b_fr (kk : Int32 → Int32 → ts → Option (ts)) (hkk : ∀ (a0 : Int32) (a1 : Int32) (s : ts) (r : ts), kk a0 a1 s = some r → fr wf_cR_drop s r) (l1 : Int32) (l3 : Int32) (s : ts) (r : ts) (h : cR_drop_12_b kk l1 l3 s = some r) : fr wf_cR_drop s r := by
  unfold cR_drop_12_b at h
  replace h := FG h
  refine FI h (fun h => ?_) (fun h => ?_)
  · exact FV h (fr_rf)
  · replace h := FG h
    replace h := FG h
    exact fr_tr (fr_wA (fr_wA (fr_rf) rfl) rfl) (hkk l1 (l3 + (1 : Int32)) _ _ h)
theorem cR_drop_12_fr : ∀ (n : Nat) (l1 : Int32) (l3 : Int32) (s : ts) (r : ts), cR_drop_12 n l1 l3 s = some r → fr wf_cR_drop s r := by
  intro n
  induction n with
  | zero => intro l1 l3 s r h; exact FN h
  | succ n ih =>
    intro l1 l3 s r h
    rw [cR_drop_12.eq_2] at h
    exact cR_drop_12_b_fr (cR_drop_12 n) ih l1 l3 s r h
theorem cR_drop_fr (l1 : Int32) (l2 : Int32) (s : ts) (r : ts) (h : cR_drop l1 l2 s = some r) : fr wf_cR_drop s r := by
  unfold cR_drop at h
  replace h := FG h
  exact fr_tr (fr_wA (fr_rf) rfl) (cR_drop_12_fr tm_N l1 l2 _ _ h)
theorem cR_leaveRow_9_b_fr (kk : Int32 → Int32 → Int32 → ts → Option (ts)) (hkk : ∀ (a0 : Int32) (a1 : Int32) (a2 : Int32) (s : ts) (r : ts), kk a0 a1 a2 s = some r → fr wf_cR_leaveRow s r) (l1 : Int32) (l2 : Int32) (l3 : Int32) (s : ts) (r : ts) (h : cR_leaveRow_9_b kk l1 l2 l3 s = some r) : fr wf_cR_leaveRow s r := by
  unfold cR_leaveRow_9_b at h
  refine FI h (fun h => ?_) (fun h => ?_)
  · exact FV h (fr_rf)
  · replace h := FG h
    refine FI h (fun h => ?_) (fun h => ?_)
    · obtain ⟨s3, hs3, h⟩ := FB h
      have f1 := fr_tr (W := wf_cR_leaveRow) (fr_rf) (fr_mono (by decide +kernel) (cR_drop_fr l1 l3 _ _ hs3))
      exact fr_tr (f1) (hkk l1 l2 (l3 + (-1 : Int32)) _ _ h)
    · exact fr_tr (fr_rf) (hkk l1 l2 (l3 + (-1 : Int32)) _ _ h)
theorem cR_leaveRow_9_fr : ∀ (n : Nat) (l1 : Int32) (l2 : Int32) (l3 : Int32) (s : ts) (r : ts), cR_leaveRow_9 n l1 l2 l3 s = some r → fr wf_cR_leaveRow s r := by
  intro n
  induction n with
  | zero => intro l1 l2 l3 s r h; exact FN h
  | succ n ih =>
    intro l1 l2 l3 s r h
    rw [cR_leaveRow_9.eq_2] at h
    exact cR_leaveRow_9_b_fr (cR_leaveRow_9 n) ih l1 l2 l3 s r h
theorem cR_leaveRow_fr (l1 : Int32) (l2 : Int32) (s : ts) (r : ts) (h : cR_leaveRow l1 l2 s = some r) : fr wf_cR_leaveRow s r := by
  unfold cR_leaveRow at h
  replace h := FG h
  exact fr_tr (fr_rf) (cR_leaveRow_9_fr tm_N l1 l2 ((gA s 136 l1.toNatClampNeg) - ((1 : Int32))) _ _ h)
theorem cR_count_80_fr (l2 : Int32) (l3 : Int32) (t1 : Int32) (t2 : Int64) (t3 : Int64) (s : ts) (r : ts) (h : cR_count_80 l2 l3 t1 t2 t3 s = some r) : fr wf_cR_count s r := by
  unfold cR_count_80 at h
  replace h := FG h
  refine FI h (fun h => ?_) (fun h => ?_)
  · exact FV h (fr_wB (fr_rf) rfl)
  · obtain ⟨s3, hs3, h⟩ := FB h
    have f1 := fr_tr (W := wf_cR_count) (fr_wB (fr_rf) rfl) (fr_mono (by decide +kernel) (cR_calendar_fr l2 ((0 : Int32)) (gI (wB s 135 t1.toNatClampNeg (t2 + t3)) 1152 0) _ _ hs3))
    exact FV h (f1)
theorem cR_count_51_fr (l1 : Int32) (l2 : Int32) (l3 : Int32) (t1 : Int32) (t2 : Int32) (t3 : Int32) (s : ts) (r : ts) (h : cR_count_51 l1 l2 l3 t1 t2 t3 s = some r) : fr wf_cR_count s r := by
  unfold cR_count_51 at h
  replace h := FG h
  replace h := FG h
  refine FI h (fun h => ?_) (fun h => ?_)
  · exact fr_tr (fr_wA (fr_rf) rfl) (cR_count_80_fr l2 l3 l1 (gB (wA s 131 t1.toNatClampNeg (t2 + t3)) 135 l1.toNatClampNeg) ((0 : Int64)) _ _ h)
  · replace h := FG h
    exact fr_tr (fr_wA (fr_rf) rfl) (cR_count_80_fr l2 l3 l1 (gB (wA s 131 t1.toNatClampNeg (t2 + t3)) 135 l1.toNatClampNeg) (((gI (wA s 131 t1.toNatClampNeg (t2 + t3)) 1152 0) - (gA (wA s 131 t1.toNatClampNeg (t2 + t3)) 124 l2.toNatClampNeg)).toInt64) _ _ h)
theorem cR_count_24_fr (l1 : Int32) (l2 : Int32) (t0 : Int32) (s : ts) (r : ts) (h : cR_count_24 l1 l2 t0 s = some r) : fr wf_cR_count s r := by
  unfold cR_count_24 at h
  replace h := FG h
  refine FI h (fun h => ?_) (fun h => ?_)
  · exact fr_tr (fr_wA (fr_rf) rfl) (cR_count_51_fr l1 l2 t0 l1 (gA (wA s 130 l1.toNatClampNeg ((gA s 130 l1.toNatClampNeg) + ((1 : Int32)))) 131 l1.toNatClampNeg) ((0 : Int32)) _ _ h)
  · exact fr_tr (fr_wA (fr_rf) rfl) (cR_count_51_fr l1 l2 t0 l1 (gA (wA s 130 l1.toNatClampNeg ((gA s 130 l1.toNatClampNeg) + ((1 : Int32)))) 131 l1.toNatClampNeg) ((1 : Int32)) _ _ h)
theorem cR_count_fr (l1 : Int32) (l2 : Int32) (s : ts) (r : ts) (h : cR_count l1 l2 s = some r) : fr wf_cR_count s r := by
  unfold cR_count at h
  refine FI h (fun h => ?_) (fun h => ?_)
  · replace h := FG h
    refine FI h (fun h => ?_) (fun h => ?_)
    · exact fr_tr (fr_rf) (cR_count_24_fr l1 l2 ((0 : Int32)) _ _ h)
    · exact fr_tr (fr_rf) (cR_count_24_fr l1 l2 ((1 : Int32)) _ _ h)
  · exact fr_tr (fr_rf) (cR_count_24_fr l1 l2 ((1 : Int32)) _ _ h)
theorem cR_serveStore_94_fr (k7 : Int32 → Int32 → Int32 → ts → Option (ts)) (hk7 : ∀ (a0 : Int32) (a1 : Int32) (a2 : Int32) (s : ts) (r : ts), k7 a0 a1 a2 s = some r → fr wf_cR_serveStore s r) (l1 : Int32) (l2 : Int32) (l3 : Int32) (l5 : Int32) (s : ts) (r : ts) (h : cR_serveStore_94 k7 l1 l2 l3 l5 s = some r) : fr wf_cR_serveStore s r := by
  unfold cR_serveStore_94 at h
  replace h := FG h
  refine FI h (fun h => ?_) (fun h => ?_)
  · exact fr_tr (fr_rf) (hk7 l1 l2 ((0 : Int32)) _ _ h)
  · replace h := FG h
    replace h := FG h
    replace h := FG h
    refine FI h (fun h => ?_) (fun h => ?_)
    · exact fr_tr (fr_rf) (hk7 l1 l2 ((0 : Int32)) _ _ h)
    · obtain ⟨s6, hs6, h⟩ := FB h
      have f1 := fr_tr (W := wf_cR_serveStore) (fr_wA (fr_rf) rfl) (fr_mono (by decide +kernel) (cR_drop_fr (((14 : Int32)) + l2) ((0 : Int32)) _ _ hs6))
      obtain ⟨s9, hs9, h⟩ := FB h
      have f2 := fr_tr (W := wf_cR_serveStore) (f1) (fr_mono (by decide +kernel) (cR_count_fr l2 (gA s 137 l5.toNatClampNeg) _ _ hs9))
      exact fr_tr (f2) (hk7 l1 l2 l3 _ _ h)
