/-! WHAT A FUNCTION MAY WRITE: printed by wip/tools/frames.py. -/
theorem cH_add_fr (l1 : Int32) (s : ts) (r : Option Nat × ts) (h : cH_add l1 s = some r) : fr wf_cH_add s r.2 := by
  unfold cH_add at h
  obtain ⟨x3, hx3, h⟩ := FB h
  have f1 := fr_tr (W := wf_cH_add) (fr_rf) (fr_mono (by decide +kernel) (cG_isDefinition_fr l1 _ _ hx3))
  refine FI h (fun h => ?_) (fun h => ?_)
  · exact FS h (f1)
  · replace h := FG h
    obtain ⟨x7, hx7, h⟩ := FB h
    have f2 := fr_tr (W := wf_cH_add) (f1) (fr_mono (by decide +kernel) (cO_add_fr l1 (gA x3.2 21 l1.toNatClampNeg) _ _ hx7))
    cases e3 : x7.1 with
    | none =>
      rw [e3] at h
      try dsimp only at h
      exact FS h (f2)
    | some q8 =>
      rw [e3] at h
      try dsimp only at h
      exact FS h (f2)
theorem cN_drop_49_fr (l0 : Nat) (l1 : Nat) (s : ts) (r : ts) (h : cN_drop_49 l0 l1 s = some r) : fr wf_cN_drop s r := by
  unfold cN_drop_49 at h
  replace h := FG h
  replace h := FG h
  exact FV h (fr_wI (fr_wR (fr_wR (fr_rf) rfl) rfl) rfl)
theorem cN_drop_26_fr (l0 : Nat) (l1 : Nat) (l2 : Option Nat) (s : ts) (r : ts) (h : cN_drop_26 l0 l1 l2 s = some r) : fr wf_cN_drop s r := by
  unfold cN_drop_26 at h
  cases l2 with
  | none =>
    try dsimp only at h
    replace h := FG h
    cases e1 : gR s 509 l1 with
    | none =>
      rw [e1] at h
      try dsimp only at h
      replace h := FG h
      exact fr_tr (fr_wR (fr_rf) rfl) (cN_drop_49_fr l0 l1 _ _ h)
    | some r2 =>
      rw [e1] at h
      try dsimp only at h
      replace h := FG h
      exact fr_tr (fr_wR (fr_rf) rfl) (cN_drop_49_fr l0 l1 _ _ h)
  | some l2 =>
    try dsimp only at h
    replace h := FG h
    cases e2 : gR s 509 l1 with
    | none =>
      rw [e2] at h
      try dsimp only at h
      replace h := FG h
      exact fr_tr (fr_wR (fr_rf) rfl) (cN_drop_49_fr l0 l1 _ _ h)
    | some r7 =>
      rw [e2] at h
      try dsimp only at h
      replace h := FG h
      exact fr_tr (fr_wR (fr_rf) rfl) (cN_drop_49_fr l0 l1 _ _ h)
theorem cN_drop_7_b_fr (kk : Nat → Nat → Option Nat → Option Nat → ts → Option (ts)) (hkk : ∀ (a0 : Nat) (a1 : Nat) (a2 : Option Nat) (a3 : Option Nat) (s : ts) (r : ts), kk a0 a1 a2 a3 s = some r → fr wf_cN_drop s r) (l0 : Nat) (l1 : Nat) (l2 : Option Nat) (l3 : Option Nat) (s : ts) (r : ts) (h : cN_drop_7_b kk l0 l1 l2 l3 s = some r) : fr wf_cN_drop s r := by
  unfold cN_drop_7_b at h
  cases l2 with
  | none =>
    try dsimp only at h
    cases l3 with
    | none =>
      try dsimp only at h
      exact fr_tr (fr_rf) (cN_drop_26_fr l0 l1 none _ _ h)
    | some l3 =>
      try dsimp only at h
      refine FI h (fun h => ?_) (fun h => ?_)
      · exact fr_tr (fr_rf) (cN_drop_26_fr l0 l1 none _ _ h)
      · replace h := FG h
        cases e1 : gR s 509 l3 with
        | none =>
          rw [e1] at h
          try dsimp only at h
          exact fr_tr (fr_rf) (hkk l0 l1 (some l3) none _ _ h)
        | some r3 =>
          rw [e1] at h
          try dsimp only at h
          exact fr_tr (fr_rf) (hkk l0 l1 (some l3) (some r3) _ _ h)
  | some l2 =>
    try dsimp only at h
    cases l3 with
    | none =>
      try dsimp only at h
      exact fr_tr (fr_rf) (cN_drop_26_fr l0 l1 (some l2) _ _ h)
    | some l3 =>
      try dsimp only at h
      refine FI h (fun h => ?_) (fun h => ?_)
      · exact fr_tr (fr_rf) (cN_drop_26_fr l0 l1 (some l2) _ _ h)
      · replace h := FG h
        cases e2 : gR s 509 l3 with
        | none =>
          rw [e2] at h
          try dsimp only at h
          exact fr_tr (fr_rf) (hkk l0 l1 (some l3) none _ _ h)
        | some r7 =>
          rw [e2] at h
          try dsimp only at h
          exact fr_tr (fr_rf) (hkk l0 l1 (some l3) (some r7) _ _ h)
theorem cN_drop_7_fr : ∀ (n : Nat) (l0 : Nat) (l1 : Nat) (l2 : Option Nat) (l3 : Option Nat) (s : ts) (r : ts), cN_drop_7 n l0 l1 l2 l3 s = some r → fr wf_cN_drop s r := by
  intro n
  induction n with
  | zero => intro l0 l1 l2 l3 s r h; exact FN h
  | succ n ih =>
    intro l0 l1 l2 l3 s r h
    rw [cN_drop_7.eq_2] at h
    exact cN_drop_7_b_fr (cN_drop_7 n) ih l0 l1 l2 l3 s r h
theorem cN_drop_fr (l0 : Nat) (l1 : Nat) (s : ts) (r : ts) (h : cN_drop l0 l1 s = some r) : fr wf_cN_drop s r := by
  unfold cN_drop at h
  replace h := FG h
  cases e1 : gR s 600 l0 with
  | none =>
    rw [e1] at h
    try dsimp only at h
    exact fr_tr (fr_rf) (cN_drop_7_fr tm_N l0 l1 none none _ _ h)
  | some r2 =>
    rw [e1] at h
    try dsimp only at h
    exact fr_tr (fr_rf) (cN_drop_7_fr tm_N l0 l1 none (some r2) _ _ h)
theorem cN_join_68_fr (l0 : Nat) (l1 : Nat) (l2 : Int32) (s : ts) (r : ts) (h : cN_join_68 l0 l1 l2 s = some r) : fr wf_cN_join s r := by
  unfold cN_join_68 at h
  replace h := FG h
  replace h := FG h
  exact FV h (fr_wI (fr_wR (fr_wI (fr_rf) rfl) rfl) rfl)
theorem cN_join_35_fr (l0 : Nat) (l1 : Nat) (l2 : Int32) (l3 : Option Nat) (s : ts) (r : ts) (h : cN_join_35 l0 l1 l2 l3 s = some r) : fr wf_cN_join s r := by
  unfold cN_join_35 at h
  cases l3 with
  | none =>
    try dsimp only at h
    replace h := FG h
    cases e1 : gR s 600 l0 with
    | none =>
      rw [e1] at h
      try dsimp only at h
      replace h := FG h
      exact fr_tr (fr_wR (fr_wR (fr_rf) rfl) rfl) (cN_join_68_fr l0 l1 l2 _ _ h)
    | some r2 =>
      rw [e1] at h
      try dsimp only at h
      replace h := FG h
      exact fr_tr (fr_wR (fr_wR (fr_rf) rfl) rfl) (cN_join_68_fr l0 l1 l2 _ _ h)
  | some l3 =>
    try dsimp only at h
    replace h := FG h
    cases e2 : gR s 509 l3 with
    | none =>
      rw [e2] at h
      try dsimp only at h
      replace h := FG h
      exact fr_tr (fr_wR (fr_wR (fr_rf) rfl) rfl) (cN_join_68_fr l0 l1 l2 _ _ h)
    | some r7 =>
      rw [e2] at h
      try dsimp only at h
      replace h := FG h
      exact fr_tr (fr_wR (fr_wR (fr_rf) rfl) rfl) (cN_join_68_fr l0 l1 l2 _ _ h)
theorem cN_join_8_b_fr (kk : Nat → Nat → Int32 → Option Nat → Option Nat → ts → Option (ts)) (hkk : ∀ (a0 : Nat) (a1 : Nat) (a2 : Int32) (a3 : Option Nat) (a4 : Option Nat) (s : ts) (r : ts), kk a0 a1 a2 a3 a4 s = some r → fr wf_cN_join s r) (l0 : Nat) (l1 : Nat) (l2 : Int32) (l3 : Option Nat) (l4 : Option Nat) (s : ts) (r : ts) (h : cN_join_8_b kk l0 l1 l2 l3 l4 s = some r) : fr wf_cN_join s r := by
  unfold cN_join_8_b at h
  cases l3 with
  | none =>
    try dsimp only at h
    cases l4 with
    | none =>
      try dsimp only at h
      exact fr_tr (fr_rf) (cN_join_35_fr l0 l1 l2 none _ _ h)
    | some l4 =>
      try dsimp only at h
      replace h := FG h
      refine FI h (fun h => ?_) (fun h => ?_)
      · exact fr_tr (fr_rf) (cN_join_35_fr l0 l1 l2 none _ _ h)
      · cases e1 : gR s 509 l4 with
        | none =>
          rw [e1] at h
          try dsimp only at h
          exact fr_tr (fr_rf) (hkk l0 l1 l2 (some l4) none _ _ h)
        | some r2 =>
          rw [e1] at h
          try dsimp only at h
          exact fr_tr (fr_rf) (hkk l0 l1 l2 (some l4) (some r2) _ _ h)
  | some l3 =>
    try dsimp only at h
    cases l4 with
    | none =>
      try dsimp only at h
      exact fr_tr (fr_rf) (cN_join_35_fr l0 l1 l2 (some l3) _ _ h)
    | some l4 =>
      try dsimp only at h
      replace h := FG h
      refine FI h (fun h => ?_) (fun h => ?_)
      · exact fr_tr (fr_rf) (cN_join_35_fr l0 l1 l2 (some l3) _ _ h)
      · cases e2 : gR s 509 l4 with
        | none =>
          rw [e2] at h
          try dsimp only at h
          exact fr_tr (fr_rf) (hkk l0 l1 l2 (some l4) none _ _ h)
        | some r6 =>
          rw [e2] at h
          try dsimp only at h
          exact fr_tr (fr_rf) (hkk l0 l1 l2 (some l4) (some r6) _ _ h)
theorem cN_join_8_fr : ∀ (n : Nat) (l0 : Nat) (l1 : Nat) (l2 : Int32) (l3 : Option Nat) (l4 : Option Nat) (s : ts) (r : ts), cN_join_8 n l0 l1 l2 l3 l4 s = some r → fr wf_cN_join s r := by
  intro n
  induction n with
  | zero => intro l0 l1 l2 l3 l4 s r h; exact FN h
  | succ n ih =>
    intro l0 l1 l2 l3 l4 s r h
    rw [cN_join_8.eq_2] at h
    exact cN_join_8_b_fr (cN_join_8 n) ih l0 l1 l2 l3 l4 s r h
theorem cN_join_fr (l0 : Nat) (l1 : Nat) (l2 : Int32) (s : ts) (r : ts) (h : cN_join l0 l1 l2 s = some r) : fr wf_cN_join s r := by
  unfold cN_join at h
  replace h := FG h
  cases e1 : gR s 600 l0 with
  | none =>
    rw [e1] at h
    try dsimp only at h
    exact fr_tr (fr_rf) (cN_join_8_fr tm_N l0 l1 l2 none none _ _ h)
  | some r2 =>
    rw [e1] at h
    try dsimp only at h
    exact fr_tr (fr_rf) (cN_join_8_fr tm_N l0 l1 l2 none (some r2) _ _ h)
theorem cO_putInCalendar_17_fr (l1 : Nat) (l2 : Int32) (l3 : Int32) (s : ts) (r : ts) (h : cO_putInCalendar_17 l1 l2 l3 s = some r) : fr wf_cO_putInCalendar s r := by
  unfold cO_putInCalendar_17 at h
  replace h := FG h
  obtain ⟨s3, hs3, h⟩ := FB h
  have f1 := fr_tr (W := wf_cO_putInCalendar) (fr_wI (fr_wI (fr_wI (fr_rf) rfl) rfl) rfl) (fr_mono (by decide +kernel) (cN_join_fr 28 l1 l3 _ _ hs3))
  exact FV h (f1)
theorem cO_putInCalendar_fr (l1 : Nat) (l2 : Int32) (l3 : Int32) (s : ts) (r : ts) (h : cO_putInCalendar l1 l2 l3 s = some r) : fr wf_cO_putInCalendar s r := by
  unfold cO_putInCalendar at h
  replace h := FG h
  cases e2 : gR s 507 l1 with
  | none =>
    rw [e2] at h
    try dsimp only at h
    exact fr_tr (fr_rf) (cO_putInCalendar_17_fr l1 l2 l3 _ _ h)
  | some r2 =>
    rw [e2] at h
    try dsimp only at h
    replace h := FG h
    obtain ⟨s6, hs6, h⟩ := FB h
    have f1 := fr_tr (W := wf_cO_putInCalendar) (fr_rf) (fr_mono (by decide +kernel) (cN_drop_fr r2 l1 _ _ hs6))
    exact fr_tr (f1) (cO_putInCalendar_17_fr l1 l2 l3 _ _ h)
theorem cH_admit_97_fr (l6 : Nat) (t0 : Nat) (t1 : Int32) (t2 : Int32) (s : ts) (r : Int32 × ts) (h : cH_admit_97 l6 t0 t1 t2 s = some r) : fr wf_cH_admit s r.2 := by
  unfold cH_admit_97 at h
  replace h := FG h
  replace h := FG h
  obtain ⟨s4, hs4, h⟩ := FB h
  have f1 := fr_tr (W := wf_cH_admit) (fr_wV (fr_rf) rfl) (fr_mono (by decide +kernel) (cO_putInCalendar_fr l6 ((0 : Int32)) (gI (wV s t0 t1.toNatClampNeg t2) 800 0) _ _ hs4))
  replace h := FG h
  exact FS h (f1)
theorem cH_admit_78_fr (l5 : Int32) (l6 : Nat) (l7 : Int32) (t0 : Nat) (t1 : Int32) (t2 : Int32) (s : ts) (r : Int32 × ts) (h : cH_admit_78 l5 l6 l7 t0 t1 t2 s = some r) : fr wf_cH_admit s r.2 := by
  unfold cH_admit_78 at h
  replace h := FG h
  replace h := FG h
  replace h := FG h
  refine FI h (fun h => ?_) (fun h => ?_)
  · exact fr_tr (fr_wV (fr_rf) rfl) (cH_admit_97_fr l6 l6 ((3 : Int32)) ((0 : Int32)) _ _ h)
  · exact fr_tr (fr_wV (fr_rf) rfl) (cH_admit_97_fr l6 l6 ((3 : Int32)) l5 _ _ h)
theorem cH_admit_59_fr (l4 : Int32) (l5 : Int32) (l6 : Nat) (l7 : Int32) (t0 : Nat) (t1 : Int32) (t2 : Int32) (s : ts) (r : Int32 × ts) (h : cH_admit_59 l4 l5 l6 l7 t0 t1 t2 s = some r) : fr wf_cH_admit s r.2 := by
  unfold cH_admit_59 at h
  replace h := FG h
  replace h := FG h
  replace h := FG h
  refine FI h (fun h => ?_) (fun h => ?_)
  · exact fr_tr (fr_wV (fr_rf) rfl) (cH_admit_78_fr l5 l6 l7 l6 ((2 : Int32)) ((0 : Int32)) _ _ h)
  · exact fr_tr (fr_wV (fr_rf) rfl) (cH_admit_78_fr l5 l6 l7 l6 ((2 : Int32)) l4 _ _ h)
theorem cH_admit_41_fr (l3 : Int32) (l4 : Int32) (l5 : Int32) (l6 : Nat) (l7 : Int32) (t0 : Nat) (t1 : Int32) (t2 : Int32) (s : ts) (r : Int32 × ts) (h : cH_admit_41 l3 l4 l5 l6 l7 t0 t1 t2 s = some r) : fr wf_cH_admit s r.2 := by
  unfold cH_admit_41 at h
  replace h := FG h
  replace h := FG h
  replace h := FG h
  refine FI h (fun h => ?_) (fun h => ?_)
  · exact fr_tr (fr_wV (fr_rf) rfl) (cH_admit_59_fr l4 l5 l6 l7 l6 ((1 : Int32)) ((0 : Int32)) _ _ h)
  · exact fr_tr (fr_wV (fr_rf) rfl) (cH_admit_59_fr l4 l5 l6 l7 l6 ((1 : Int32)) l3 _ _ h)
theorem cH_admit_fr (l1 : Int32) (l2 : Int32) (l3 : Int32) (l4 : Int32) (l5 : Int32) (s : ts) (r : Int32 × ts) (h : cH_admit l1 l2 l3 l4 l5 s = some r) : fr wf_cH_admit s r.2 := by
  unfold cH_admit at h
  obtain ⟨x3, hx3, h⟩ := FB h
  have f1 := fr_tr (W := wf_cH_admit) (fr_rf) (fr_mono (by decide +kernel) (cH_add_fr l1 _ _ hx3))
  cases e2 : x3.1 with
  | none =>
    rw [e2] at h
    try dsimp only at h
    exact FS h (f1)
  | some q4 =>
    rw [e2] at h
    try dsimp only at h
    replace h := FG h
    replace h := FG h
    refine FI h (fun h => ?_) (fun h => ?_)
    · exact fr_tr (f1) (cH_admit_41_fr l3 l4 l5 q4 (gA x3.2 19 l1.toNatClampNeg) q4 ((0 : Int32)) ((0 : Int32)) _ _ h)
    · exact fr_tr (f1) (cH_admit_41_fr l3 l4 l5 q4 (gA x3.2 19 l1.toNatClampNeg) q4 ((0 : Int32)) l2 _ _ h)
theorem cX_start_fr (l1 : Int32) (l2 : Int32) (l3 : Int32) (l4 : Int32) (l5 : Int32) (s : ts) (r : Int32 × ts) (h : cX_start l1 l2 l3 l4 l5 s = some r) : fr wf_cX_start s r.2 := by
  unfold cX_start at h
  refine FI h (fun h => ?_) (fun h => ?_)
  · exact FS h (fr_rf)
  · obtain ⟨x3, hx3, h⟩ := FB h
    have f1 := fr_tr (W := wf_cX_start) (fr_rf) (fr_mono (by decide +kernel) (cH_admits_fr l1 _ _ hx3))
    refine FI h (fun h => ?_) (fun h => ?_)
    · exact FS h (f1)
    · obtain ⟨x6, hx6, h⟩ := FB h
      have f2 := fr_tr (W := wf_cX_start) (f1) (fr_mono (by decide +kernel) (cH_admit_fr l1 l2 l3 l4 l5 _ _ hx6))
      exact FS h (f2)
theorem cR_calendar_fr (l1 : Int32) (l2 : Int32) (l3 : Int32) (s : ts) (r : ts) (h : cR_calendar l1 l2 l3 s = some r) : fr wf_cR_calendar s r := by
  unfold cR_calendar at h
  replace h := FG h
  exact FV h (fr_wA (fr_wJ (fr_wB (fr_wA (fr_wA (fr_rf) rfl) rfl) rfl) rfl) rfl)
theorem cR_fresh_52_b_fr (kk : Int32 → Int32 → Int32 → ts → Option (Int32 × ts)) (hkk : ∀ (a0 : Int32) (a1 : Int32) (a2 : Int32) (s : ts) (r : Int32 × ts), kk a0 a1 a2 s = some r → fr wf_cR_fresh s r.2) (l2 : Int32) (l3 : Int32) (l4 : Int32) (s : ts) (r : Int32 × ts) (h : cR_fresh_52_b kk l2 l3 l4 s = some r) : fr wf_cR_fresh s r.2 := by
  unfold cR_fresh_52_b at h
  refine FI h (fun h => ?_) (fun h => ?_)
  · obtain ⟨s2, hs2, h⟩ := FB h
    have f1 := fr_tr (W := wf_cR_fresh) (fr_rf) (fr_mono (by decide +kernel) (cR_calendar_fr l3 ((0 : Int32)) l2 _ _ hs2))
    exact FS h (f1)
  · replace h := FG h
    exact fr_tr (fr_wA (fr_wA (fr_rf) rfl) rfl) (hkk l2 l3 (l4 + (1 : Int32)) _ _ h)
theorem cR_fresh_52_fr : ∀ (n : Nat) (l2 : Int32) (l3 : Int32) (l4 : Int32) (s : ts) (r : Int32 × ts), cR_fresh_52 n l2 l3 l4 s = some r → fr wf_cR_fresh s r.2 := by
  intro n
  induction n with
  | zero => intro l2 l3 l4 s r h; exact FN h
  | succ n ih =>
    intro l2 l3 l4 s r h
    rw [cR_fresh_52.eq_2] at h
    exact cR_fresh_52_b_fr (cR_fresh_52 n) ih l2 l3 l4 s r h
theorem cR_fresh_fr (l1 : Int32) (l2 : Int32) (s : ts) (r : Int32 × ts) (h : cR_fresh l1 l2 s = some r) : fr wf_cR_fresh s r.2 := by
  unfold cR_fresh at h
  replace h := FG h
  replace h := FG h
  exact fr_tr (fr_wA (fr_wA (fr_wA (fr_wA (fr_wI (fr_rf) rfl) rfl) rfl) rfl) rfl) (cR_fresh_52_fr tm_N l2 (gI s 1155 0) ((0 : Int32)) _ _ h)
theorem cR_start_54_b_fr (kk : Int32 → Int32 → Int32 → Int32 → Int32 → Int32 → Int32 → ts → Option (Int32 × ts)) (hkk : ∀ (a0 : Int32) (a1 : Int32) (a2 : Int32) (a3 : Int32) (a4 : Int32) (a5 : Int32) (a6 : Int32) (s : ts) (r : Int32 × ts), kk a0 a1 a2 a3 a4 a5 a6 s = some r → fr wf_cR_start s r.2) (l1 : Int32) (l2 : Int32) (l3 : Int32) (l4 : Int32) (l5 : Int32) (l6 : Int32) (l7 : Int32) (s : ts) (r : Int32 × ts) (h : cR_start_54_b kk l1 l2 l3 l4 l5 l6 l7 s = some r) : fr wf_cR_start s r.2 := by
  unfold cR_start_54_b at h
  replace h := FG h
  refine FI h (fun h => ?_) (fun h => ?_)
  · exact FS h (fr_rf)
  · refine FI h (fun h => ?_) (fun h => ?_)
    · exact FS h (fr_rf)
    · refine FI h (fun h => ?_) (fun h => ?_)
      · replace h := FG h
        exact fr_tr (fr_wA (fr_rf) rfl) (hkk l1 l2 l3 l4 l5 l6 (l7 + (1 : Int32)) _ _ h)
      · refine FI h (fun h => ?_) (fun h => ?_)
        · replace h := FG h
          exact fr_tr (fr_wA (fr_rf) rfl) (hkk l1 l2 l3 l4 l5 l6 (l7 + (1 : Int32)) _ _ h)
        · refine FI h (fun h => ?_) (fun h => ?_)
          · replace h := FG h
            exact fr_tr (fr_wA (fr_rf) rfl) (hkk l1 l2 l3 l4 l5 l6 (l7 + (1 : Int32)) _ _ h)
          · replace h := FG h
            exact fr_tr (fr_wA (fr_rf) rfl) (hkk l1 l2 l3 l4 l5 l6 (l7 + (1 : Int32)) _ _ h)
theorem cR_start_54_fr : ∀ (n : Nat) (l1 : Int32) (l2 : Int32) (l3 : Int32) (l4 : Int32) (l5 : Int32) (l6 : Int32) (l7 : Int32) (s : ts) (r : Int32 × ts), cR_start_54 n l1 l2 l3 l4 l5 l6 l7 s = some r → fr wf_cR_start s r.2 := by
  intro n
  induction n with
  | zero => intro l1 l2 l3 l4 l5 l6 l7 s r h; exact FN h
  | succ n ih =>
    intro l1 l2 l3 l4 l5 l6 l7 s r h
    rw [cR_start_54.eq_2] at h
    exact cR_start_54_b_fr (cR_start_54 n) ih l1 l2 l3 l4 l5 l6 l7 s r h
theorem cR_start_fr (l1 : Int32) (l2 : Int32) (l3 : Int32) (l4 : Int32) (l5 : Int32) (s : ts) (r : Int32 × ts) (h : cR_start l1 l2 l3 l4 l5 s = some r) : fr wf_cR_start s r.2 := by
  unfold cR_start at h
  refine FI h (fun h => ?_) (fun h => ?_)
  · exact FS h (fr_rf)
  · refine FI h (fun h => ?_) (fun h => ?_)
    · exact FS h (fr_rf)
    · refine FI h (fun h => ?_) (fun h => ?_)
      · exact FS h (fr_rf)
      · refine FI h (fun h => ?_) (fun h => ?_)
        · exact FS h (fr_rf)
        · refine FI h (fun h => ?_) (fun h => ?_)
          · obtain ⟨x3, hx3, h⟩ := FB h
            have f1 := fr_tr (W := wf_cR_start) (fr_rf) (fr_mono (by decide +kernel) (cR_fresh_fr l1 (gI s 1152 0) _ _ hx3))
            exact fr_tr (f1) (cR_start_54_fr tm_N l1 l2 l3 l4 l5 x3.1 ((0 : Int32)) _ _ h)
          · exact FS h (fr_rf)
theorem cX_isStepCount_fr (l0 : Int32) (s : ts) (r : Int32 × ts) (h : cX_isStepCount l0 s = some r) : fr wf_cX_isStepCount s r.2 := by
  unfold cX_isStepCount at h
  refine FI h (fun h => ?_) (fun h => ?_)
  · exact FS h (fr_rf)
  · refine FI h (fun h => ?_) (fun h => ?_)
    · exact FS h (fr_rf)
    · exact FS h (fr_rf)
theorem cW_pop_fr (s : ts) (r : Int32 × ts) (h : cW_pop s = some r) : fr wf_cW_pop s r.2 := by
  unfold cW_pop at h
  refine FI h (fun h => ?_) (fun h => ?_)
  · exact FS h (fr_rf)
  · refine FI h (fun h => ?_) (fun h => ?_)
    · replace h := FG h
      exact FS h (fr_wI (fr_rf) rfl)
    · exact FS h (fr_rf)
theorem cW_truth_fr (l0 : Int32) (s : ts) (r : Int32 × ts) (h : cW_truth l0 s = some r) : fr wf_cW_truth s r.2 := by
  unfold cW_truth at h
  refine FI h (fun h => ?_) (fun h => ?_)
  · exact FS h (fr_rf)
  · exact FS h (fr_rf)
theorem cW_push_fr (l1 : Int32) (s : ts) (r : ts) (h : cW_push l1 s = some r) : fr wf_cW_push s r := by
  unfold cW_push at h
  refine FI h (fun h => ?_) (fun h => ?_)
  · exact FV h (fr_rf)
  · refine FI h (fun h => ?_) (fun h => ?_)
    · exact FV h (fr_rf)
    · replace h := FG h
      exact FV h (fr_wI (fr_wA (fr_rf) rfl) rfl)
theorem cW_skips_34_fr (l2 : Int32) (t0 : Int32) (s : ts) (r : Int32 × ts) (h : cW_skips_34 l2 t0 s = some r) : fr wf_cW_skips s r.2 := by
  unfold cW_skips_34 at h
  refine FI h (fun h => ?_) (fun h => ?_)
  · replace h := FG h
    exact FS h (fr_rf)
  · obtain ⟨x4, hx4, h⟩ := FB h
    have f1 := fr_tr (W := wf_cW_skips) (fr_rf) (fr_mono (by decide +kernel) (cW_truth_fr l2 _ _ hx4))
    obtain ⟨s6, hs6, h⟩ := FB h
    have f2 := fr_tr (W := wf_cW_skips) (f1) (fr_mono (by decide +kernel) (cW_push_fr x4.1 _ _ hs6))
    replace h := FG h
    exact FS h (f2)
theorem cW_skips_26_fr (l2 : Int32) (t0 : Int32) (t1 : Int32) (s : ts) (r : Int32 × ts) (h : cW_skips_26 l2 t0 t1 s = some r) : fr wf_cW_skips s r.2 := by
  unfold cW_skips_26 at h
  refine FI h (fun h => ?_) (fun h => ?_)
  · exact fr_tr (fr_rf) (cW_skips_34_fr l2 ((1 : Int32)) _ _ h)
  · exact fr_tr (fr_rf) (cW_skips_34_fr l2 ((0 : Int32)) _ _ h)
theorem cW_skips_12_fr (l1 : Int32) (t0 : Int32) (s : ts) (r : Int32 × ts) (h : cW_skips_12 l1 t0 s = some r) : fr wf_cW_skips s r.2 := by
  unfold cW_skips_12 at h
  refine FI h (fun h => ?_) (fun h => ?_)
  · exact fr_tr (fr_rf) (cW_skips_26_fr t0 t0 ((1 : Int32)) _ _ h)
  · exact fr_tr (fr_rf) (cW_skips_26_fr t0 t0 ((0 : Int32)) _ _ h)
theorem cW_skips_fr (l1 : Int32) (s : ts) (r : Int32 × ts) (h : cW_skips l1 s = some r) : fr wf_cW_skips s r.2 := by
  unfold cW_skips at h
  obtain ⟨x3, hx3, h⟩ := FB h
  have f1 := fr_tr (W := wf_cW_skips) (fr_rf) (fr_mono (by decide +kernel) (cW_pop_fr _ _ hx3))
  refine FI h (fun h => ?_) (fun h => ?_)
  · exact fr_tr (f1) (cW_skips_12_fr l1 ((0 : Int32)) _ _ h)
  · exact fr_tr (f1) (cW_skips_12_fr l1 ((1 : Int32)) _ _ h)
theorem cW_numberAt_fr (l1 : Int32) (s : ts) (r : Int32 × ts) (h : cW_numberAt l1 s = some r) : fr wf_cW_numberAt s r.2 := by
  unfold cW_numberAt at h
  refine FI h (fun h => ?_) (fun h => ?_)
  · exact FS h (fr_rf)
  · refine FI h (fun h => ?_) (fun h => ?_)
    · exact FS h (fr_rf)
    · replace h := FG h
      exact FS h (fr_rf)
theorem cW_valueOf_17_fr (l2 : Int32) (s : ts) (r : Int32 × ts) (h : cW_valueOf_17 l2 s = some r) : fr wf_cW_valueOf s r.2 := by
  unfold cW_valueOf_17 at h
  obtain ⟨x3, hx3, h⟩ := FB h
  have f1 := fr_tr (W := wf_cW_valueOf) (fr_rf) (fr_mono (by decide +kernel) (cW_numberAt_fr (l2 - ((8 : Int32))) _ _ hx3))
  exact FS h (f1)
theorem cW_valueOf_fr (l1 : Nat) (l2 : Int32) (s : ts) (r : Int32 × ts) (h : cW_valueOf l1 l2 s = some r) : fr wf_cW_valueOf s r.2 := by
  unfold cW_valueOf at h
  refine FI h (fun h => ?_) (fun h => ?_)
  · exact fr_tr (fr_rf) (cW_valueOf_17_fr l2 _ _ h)
  · refine FI h (fun h => ?_) (fun h => ?_)
    · exact fr_tr (fr_rf) (cW_valueOf_17_fr l2 _ _ h)
    · replace h := FG h
      replace h := FG h
      exact FS h (fr_rf)
theorem cW_placeAt_fr (l1 : Int32) (s : ts) (r : Option Nat × ts) (h : cW_placeAt l1 s = some r) : fr wf_cW_placeAt s r.2 := by
  unfold cW_placeAt at h
  refine FI h (fun h => ?_) (fun h => ?_)
  · exact FS h (fr_rf)
  · refine FI h (fun h => ?_) (fun h => ?_)
    · exact FS h (fr_rf)
    · replace h := FG h
      exact FS h (fr_rf)
theorem cK_waiting_fr (l0 : Nat) (s : ts) (r : Int32 × ts) (h : cK_waiting l0 s = some r) : fr wf_cK_waiting s r.2 := by
  unfold cK_waiting at h
  replace h := FG h
  exact FS h (fr_rf)
theorem cW_look_fr (l1 : Int32) (l2 : Int32) (s : ts) (r : Int32 × ts) (h : cW_look l1 l2 s = some r) : fr wf_cW_look s r.2 := by
  unfold cW_look at h
  obtain ⟨x3, hx3, h⟩ := FB h
  have f1 := fr_tr (W := wf_cW_look) (fr_rf) (fr_mono (by decide +kernel) (cW_placeAt_fr l2 _ _ hx3))
  cases e3 : x3.1 with
  | none =>
    rw [e3] at h
    try dsimp only at h
    exact FS h (f1)
  | some q4 =>
    rw [e3] at h
    try dsimp only at h
    refine FI h (fun h => ?_) (fun h => ?_)
    · replace h := FG h
      exact FS h (f1)
    · replace h := FG h
      obtain ⟨x8, hx8, h⟩ := FB h
      have f2 := fr_tr (W := wf_cW_look) (f1) (fr_mono (by decide +kernel) (cK_waiting_fr q4 _ _ hx8))
      exact FS h (f2)
theorem cW_draw_fr (l1 : Int32) (s : ts) (r : Int32 × ts) (h : cW_draw l1 s = some r) : fr wf_cW_draw s r.2 := by
  unfold cW_draw at h
  refine FI h (fun h => ?_) (fun h => ?_)
  · replace h := FG h
    obtain ⟨s3, hs3, h⟩ := FB h
    have f1 := fr_tr (W := wf_cW_draw) (fr_wI (fr_rf) rfl) (fr_mono (by decide +kernel) (cW_push_fr (((gI (wI s 801 0 ((((((1103515245 : Int64)) * ((gI s 801 0).toInt64)) + ((12345 : Int64))) &&& ((2147483647 : Int64))).toInt32)) 801 0) >>> (((8 : Int32)) &&& 31)) - ((gI (wI s 801 0 ((((((1103515245 : Int64)) * ((gI s 801 0).toInt64)) + ((12345 : Int64))) &&& ((2147483647 : Int64))).toInt32)) 801 0) >>> (((8 : Int32)) &&& 31)) / l1 * l1) _ _ hs3))
    exact FS h (f1)
  · exact FS h (fr_rf)
theorem cW_combine_fr (l0 : Int32) (l1 : Int32) (l2 : Int32) (s : ts) (r : Int32 × ts) (h : cW_combine l0 l1 l2 s = some r) : fr wf_cW_combine s r.2 := by
  unfold cW_combine at h
  refine FI h (fun h => ?_) (fun h => ?_)
  · exact FS h (fr_rf)
  · refine FI h (fun h => ?_) (fun h => ?_)
    · exact FS h (fr_rf)
    · exact FS h (fr_rf)
theorem cW_holds_fr (l0 : Int32) (l1 : Int32) (l2 : Int32) (s : ts) (r : Int32 × ts) (h : cW_holds l0 l1 l2 s = some r) : fr wf_cW_holds s r.2 := by
  unfold cW_holds at h
  refine FI h (fun h => ?_) (fun h => ?_)
  · refine FI h (fun h => ?_) (fun h => ?_)
    · exact FS h (fr_rf)
    · exact FS h (fr_rf)
  · refine FI h (fun h => ?_) (fun h => ?_)
    · refine FI h (fun h => ?_) (fun h => ?_)
      · exact FS h (fr_rf)
      · exact FS h (fr_rf)
    · refine FI h (fun h => ?_) (fun h => ?_)
      · refine FI h (fun h => ?_) (fun h => ?_)
        · exact FS h (fr_rf)
        · exact FS h (fr_rf)
      · refine FI h (fun h => ?_) (fun h => ?_)
        · refine FI h (fun h => ?_) (fun h => ?_)
          · exact FS h (fr_rf)
          · exact FS h (fr_rf)
        · refine FI h (fun h => ?_) (fun h => ?_)
          · refine FI h (fun h => ?_) (fun h => ?_)
            · exact FS h (fr_rf)
            · exact FS h (fr_rf)
          · refine FI h (fun h => ?_) (fun h => ?_)
            · exact FS h (fr_rf)
            · exact FS h (fr_rf)
theorem cW_applyToTwo_44_fr (t1 : Int32) (s : ts) (r : Int32 × ts) (h : cW_applyToTwo_44 t1 s = some r) : fr wf_cW_applyToTwo s r.2 := by
  unfold cW_applyToTwo_44 at h
  obtain ⟨s2, hs2, h⟩ := FB h
  have f1 := fr_tr (W := wf_cW_applyToTwo) (fr_rf) (fr_mono (by decide +kernel) (cW_push_fr t1 _ _ hs2))
  exact FS h (f1)
theorem cW_applyToTwo_22_fr (l1 : Int32) (l2 : Int32) (l3 : Int32) (s : ts) (r : Int32 × ts) (h : cW_applyToTwo_22 l1 l2 l3 s = some r) : fr wf_cW_applyToTwo s r.2 := by
  unfold cW_applyToTwo_22 at h
  refine FI h (fun h => ?_) (fun h => ?_)
  · exact FS h (fr_rf)
  · refine FI h (fun h => ?_) (fun h => ?_)
    · replace h := FG h
      exact fr_tr (fr_rf) (cW_applyToTwo_44_fr (l3 / l2) _ _ h)
    · replace h := FG h
      exact fr_tr (fr_rf) (cW_applyToTwo_44_fr (l3 - l3 / l2 * l2) _ _ h)
theorem cW_applyToTwo_67_fr (l1 : Int32) (l2 : Int32) (l3 : Int32) (s : ts) (r : Int32 × ts) (h : cW_applyToTwo_67 l1 l2 l3 s = some r) : fr wf_cW_applyToTwo s r.2 := by
  unfold cW_applyToTwo_67 at h
  obtain ⟨x3, hx3, h⟩ := FB h
  have f1 := fr_tr (W := wf_cW_applyToTwo) (fr_rf) (fr_mono (by decide +kernel) (cW_combine_fr l1 l3 l2 _ _ hx3))
  obtain ⟨s5, hs5, h⟩ := FB h
  have f2 := fr_tr (W := wf_cW_applyToTwo) (f1) (fr_mono (by decide +kernel) (cW_push_fr x3.1 _ _ hs5))
  exact FS h (f2)
theorem cW_applyToTwo_fr (l1 : Int32) (s : ts) (r : Int32 × ts) (h : cW_applyToTwo l1 s = some r) : fr wf_cW_applyToTwo s r.2 := by
  unfold cW_applyToTwo at h
  obtain ⟨x3, hx3, h⟩ := FB h
  have f1 := fr_tr (W := wf_cW_applyToTwo) (fr_rf) (fr_mono (by decide +kernel) (cW_pop_fr _ _ hx3))
  obtain ⟨x6, hx6, h⟩ := FB h
  have f2 := fr_tr (W := wf_cW_applyToTwo) (f1) (fr_mono (by decide +kernel) (cW_pop_fr _ _ hx6))
  refine FI h (fun h => ?_) (fun h => ?_)
  · exact fr_tr (f2) (cW_applyToTwo_22_fr l1 x3.1 x6.1 _ _ h)
  · refine FI h (fun h => ?_) (fun h => ?_)
    · exact fr_tr (f2) (cW_applyToTwo_22_fr l1 x3.1 x6.1 _ _ h)
    · refine FI h (fun h => ?_) (fun h => ?_)
      · exact fr_tr (f2) (cW_applyToTwo_67_fr l1 x3.1 x6.1 _ _ h)
      · refine FI h (fun h => ?_) (fun h => ?_)
        · exact fr_tr (f2) (cW_applyToTwo_67_fr l1 x3.1 x6.1 _ _ h)
        · refine FI h (fun h => ?_) (fun h => ?_)
          · exact fr_tr (f2) (cW_applyToTwo_67_fr l1 x3.1 x6.1 _ _ h)
          · obtain ⟨x9, hx9, h⟩ := FB h
            have f3 := fr_tr (W := wf_cW_applyToTwo) (f2) (fr_mono (by decide +kernel) (cW_holds_fr l1 x6.1 x3.1 _ _ hx9))
            obtain ⟨x12, hx12, h⟩ := FB h
            have f4 := fr_tr (W := wf_cW_applyToTwo) (f3) (fr_mono (by decide +kernel) (cW_truth_fr x9.1 _ _ hx12))
            obtain ⟨s14, hs14, h⟩ := FB h
            have f5 := fr_tr (W := wf_cW_applyToTwo) (f4) (fr_mono (by decide +kernel) (cW_push_fr x12.1 _ _ hs14))
            exact FS h (f5)
theorem cW_apply_176_fr (t1 : Int32) (s : ts) (r : Int32 × ts) (h : cW_apply_176 t1 s = some r) : fr wf_cW_apply s r.2 := by
  unfold cW_apply_176 at h
  obtain ⟨x3, hx3, h⟩ := FB h
  have f1 := fr_tr (W := wf_cW_apply) (fr_rf) (fr_mono (by decide +kernel) (cW_truth_fr t1 _ _ hx3))
  obtain ⟨s5, hs5, h⟩ := FB h
  have f2 := fr_tr (W := wf_cW_apply) (f1) (fr_mono (by decide +kernel) (cW_push_fr x3.1 _ _ hs5))
  exact FS h (f2)
theorem cW_apply_197_fr (t1 : Int32) (s : ts) (r : Int32 × ts) (h : cW_apply_197 t1 s = some r) : fr wf_cW_apply s r.2 := by
  unfold cW_apply_197 at h
  obtain ⟨x3, hx3, h⟩ := FB h
  have f1 := fr_tr (W := wf_cW_apply) (fr_rf) (fr_mono (by decide +kernel) (cW_truth_fr t1 _ _ hx3))
  obtain ⟨s5, hs5, h⟩ := FB h
  have f2 := fr_tr (W := wf_cW_apply) (f1) (fr_mono (by decide +kernel) (cW_push_fr x3.1 _ _ hs5))
  exact FS h (f2)
theorem cW_apply_fr (l1 : Int32) (l2 : Int32) (l3 : Nat) (s : ts) (r : Int32 × ts) (h : cW_apply l1 l2 l3 s = some r) : fr wf_cW_apply s r.2 := by
  unfold cW_apply at h
  refine FI h (fun h => ?_) (fun h => ?_)
  · obtain ⟨s2, hs2, h⟩ := FB h
    have f1 := fr_tr (W := wf_cW_apply) (fr_rf) (fr_mono (by decide +kernel) (cW_push_fr l2 _ _ hs2))
    exact FS h (f1)
  · refine FI h (fun h => ?_) (fun h => ?_)
    · obtain ⟨x7, hx7, h⟩ := FB h
      have f2 := fr_tr (W := wf_cW_apply) (fr_rf) (fr_mono (by decide +kernel) (cW_valueOf_fr l3 l2 _ _ hx7))
      obtain ⟨s9, hs9, h⟩ := FB h
      have f3 := fr_tr (W := wf_cW_apply) (f2) (fr_mono (by decide +kernel) (cW_push_fr x7.1 _ _ hs9))
      exact FS h (f3)
    · refine FI h (fun h => ?_) (fun h => ?_)
      · obtain ⟨x14, hx14, h⟩ := FB h
        have f4 := fr_tr (W := wf_cW_apply) (fr_rf) (fr_mono (by decide +kernel) (cW_pop_fr _ _ hx14))
        obtain ⟨s16, hs16, h⟩ := FB h
        have f5 := fr_tr (W := wf_cW_apply) (f4) (fr_mono (by decide +kernel) (cW_push_fr (-x14.1) _ _ hs16))
        exact FS h (f5)
      · refine FI h (fun h => ?_) (fun h => ?_)
        · obtain ⟨x21, hx21, h⟩ := FB h
          have f6 := fr_tr (W := wf_cW_apply) (fr_rf) (fr_mono (by decide +kernel) (cW_pop_fr _ _ hx21))
          refine FI h (fun h => ?_) (fun h => ?_)
          · exact fr_tr (f6) (cW_apply_176_fr ((0 : Int32)) _ _ h)
          · exact fr_tr (f6) (cW_apply_176_fr ((1 : Int32)) _ _ h)
        · refine FI h (fun h => ?_) (fun h => ?_)
          · obtain ⟨x26, hx26, h⟩ := FB h
            have f7 := fr_tr (W := wf_cW_apply) (fr_rf) (fr_mono (by decide +kernel) (cW_pop_fr _ _ hx26))
            refine FI h (fun h => ?_) (fun h => ?_)
            · exact fr_tr (f7) (cW_apply_197_fr ((1 : Int32)) _ _ h)
            · exact fr_tr (f7) (cW_apply_197_fr ((0 : Int32)) _ _ h)
          · refine FI h (fun h => ?_) (fun h => ?_)
            · obtain ⟨s30, hs30, h⟩ := FB h
              have f8 := fr_tr (W := wf_cW_apply) (fr_rf) (fr_mono (by decide +kernel) (cW_push_fr (gI s 800 0) _ _ hs30))
              exact FS h (f8)
            · refine FI h (fun h => ?_) (fun h => ?_)
              · replace h := FG h
                obtain ⟨s35, hs35, h⟩ := FB h
                have f9 := fr_tr (W := wf_cW_apply) (fr_rf) (fr_mono (by decide +kernel) (cW_push_fr (gI s 500 l3) _ _ hs35))
                exact FS h (f9)
              · refine FI h (fun h => ?_) (fun h => ?_)
                · obtain ⟨x40, hx40, h⟩ := FB h
                  have f10 := fr_tr (W := wf_cW_apply) (fr_rf) (fr_mono (by decide +kernel) (cW_pop_fr _ _ hx40))
                  obtain ⟨x43, hx43, h⟩ := FB h
                  have f11 := fr_tr (W := wf_cW_apply) (f10) (fr_mono (by decide +kernel) (cW_draw_fr x40.1 _ _ hx43))
                  exact FS h (f11)
                · refine FI h (fun h => ?_) (fun h => ?_)
                  · obtain ⟨x47, hx47, h⟩ := FB h
                    have f12 := fr_tr (W := wf_cW_apply) (fr_rf) (fr_mono (by decide +kernel) (cW_look_fr l1 l2 _ _ hx47))
                    obtain ⟨s49, hs49, h⟩ := FB h
                    have f13 := fr_tr (W := wf_cW_apply) (f12) (fr_mono (by decide +kernel) (cW_push_fr x47.1 _ _ hs49))
                    exact FS h (f13)
                  · refine FI h (fun h => ?_) (fun h => ?_)
                    · obtain ⟨x54, hx54, h⟩ := FB h
                      have f14 := fr_tr (W := wf_cW_apply) (fr_rf) (fr_mono (by decide +kernel) (cW_look_fr l1 l2 _ _ hx54))
                      obtain ⟨s56, hs56, h⟩ := FB h
                      have f15 := fr_tr (W := wf_cW_apply) (f14) (fr_mono (by decide +kernel) (cW_push_fr x54.1 _ _ hs56))
                      exact FS h (f15)
                    · obtain ⟨x61, hx61, h⟩ := FB h
                      have f16 := fr_tr (W := wf_cW_apply) (fr_rf) (fr_mono (by decide +kernel) (cW_applyToTwo_fr l1 _ _ hx61))
                      exact FS h (f16)
theorem cW_reckon_77_fr (k45 : Nat → Int32 → Int32 → ts → Option (Int32 × ts)) (hk45 : ∀ (a0 : Nat) (a1 : Int32) (a2 : Int32) (s : ts) (r : Int32 × ts), k45 a0 a1 a2 s = some r → fr wf_cW_reckon s r.2) (l3 : Nat) (l4 : Int32) (l5 : Int32) (l6 : Int32) (s : ts) (r : Int32 × ts) (h : cW_reckon_77 k45 l3 l4 l5 l6 s = some r) : fr wf_cW_reckon s r.2 := by
  unfold cW_reckon_77 at h
  obtain ⟨x3, hx3, h⟩ := FB h
  have f1 := fr_tr (W := wf_cW_reckon) (fr_rf) (fr_mono (by decide +kernel) (cW_skips_fr l6 _ _ hx3))
  refine FI h (fun h => ?_) (fun h => ?_)
  · exact fr_tr (f1) (hk45 l3 l4 (l5 + (1 : Int32)) _ _ h)
  · replace h := FG h
    exact fr_tr (f1) (hk45 l3 l4 ((if l5 < (gA x3.2 27 l5.toNatClampNeg) - ((1 : Int32)) then (gA x3.2 27 l5.toNatClampNeg) - ((1 : Int32)) else l5) + (1 : Int32)) _ _ h)
theorem cW_reckon_45_b_fr (kk : Nat → Int32 → Int32 → ts → Option (Int32 × ts)) (hkk : ∀ (a0 : Nat) (a1 : Int32) (a2 : Int32) (s : ts) (r : Int32 × ts), kk a0 a1 a2 s = some r → fr wf_cW_reckon s r.2) (l3 : Nat) (l4 : Int32) (l5 : Int32) (s : ts) (r : Int32 × ts) (h : cW_reckon_45_b kk l3 l4 l5 s = some r) : fr wf_cW_reckon s r.2 := by
  unfold cW_reckon_45_b at h
  refine FI h (fun h => ?_) (fun h => ?_)
  · exact FS h (fr_rf)
  · replace h := FG h
    refine FI h (fun h => ?_) (fun h => ?_)
    · exact fr_tr (fr_rf) (cW_reckon_77_fr kk hkk l3 l4 l5 (gA s 26 l5.toNatClampNeg) _ _ h)
    · refine FI h (fun h => ?_) (fun h => ?_)
      · exact fr_tr (fr_rf) (cW_reckon_77_fr kk hkk l3 l4 l5 (gA s 26 l5.toNatClampNeg) _ _ h)
      · obtain ⟨x4, hx4, h⟩ := FB h
        have f1 := fr_tr (W := wf_cW_reckon) (fr_rf) (fr_mono (by decide +kernel) (cW_apply_fr (gA s 26 l5.toNatClampNeg) (gA s 27 l5.toNatClampNeg) l3 _ _ hx4))
        refine FI h (fun h => ?_) (fun h => ?_)
        · exact fr_tr (f1) (hkk l3 l4 (l5 + (1 : Int32)) _ _ h)
        · exact FS h (f1)
theorem cW_reckon_45_fr : ∀ (n : Nat) (l3 : Nat) (l4 : Int32) (l5 : Int32) (s : ts) (r : Int32 × ts), cW_reckon_45 n l3 l4 l5 s = some r → fr wf_cW_reckon s r.2 := by
  intro n
  induction n with
  | zero => intro l3 l4 l5 s r h; exact FN h
  | succ n ih =>
    intro l3 l4 l5 s r h
    rw [cW_reckon_45.eq_2] at h
    exact cW_reckon_45_b_fr (cW_reckon_45 n) ih l3 l4 l5 s r h
theorem cW_reckon_fr (l2 : Int32) (l3 : Nat) (s : ts) (r : Int32 × ts) (h : cW_reckon l2 l3 s = some r) : fr wf_cW_reckon s r.2 := by
  unfold cW_reckon at h
  refine FI h (fun h => ?_) (fun h => ?_)
  · exact FS h (fr_wI (fr_rf) rfl)
  · refine FI h (fun h => ?_) (fun h => ?_)
    · replace h := FG h
      exact fr_tr (fr_wI (fr_rf) rfl) (cW_reckon_45_fr tm_N l3 (if (4000 : Int32) < gA (wI s 805 0 ((0 : Int32))) 25 l2.toNatClampNeg then (4000 : Int32) else gA (wI s 805 0 ((0 : Int32))) 25 l2.toNatClampNeg) (if (0 : Int32) < gA (wI s 805 0 ((0 : Int32))) 24 l2.toNatClampNeg then gA (wI s 805 0 ((0 : Int32))) 24 l2.toNatClampNeg else (0 : Int32)) _ _ h)
    · exact FS h (fr_wI (fr_rf) rfl)
theorem cW_result_fr (l1 : Int32) (s : ts) (r : Int32 × ts) (h : cW_result l1 s = some r) : fr wf_cW_result s r.2 := by
  unfold cW_result at h
  refine FI h (fun h => ?_) (fun h => ?_)
  · exact FS h (fr_rf)
  · refine FI h (fun h => ?_) (fun h => ?_)
    · exact FS h (fr_rf)
    · refine FI h (fun h => ?_) (fun h => ?_)
      · exact FS h (fr_rf)
      · replace h := FG h
        exact FS h (fr_rf)
theorem cG_targetAt_fr (l1 : Int32) (s : ts) (r : Int32 × ts) (h : cG_targetAt l1 s = some r) : fr wf_cG_targetAt s r.2 := by
  unfold cG_targetAt at h
  refine FI h (fun h => ?_) (fun h => ?_)
  · exact FS h (fr_rf)
  · refine FI h (fun h => ?_) (fun h => ?_)
    · exact FS h (fr_rf)
    · replace h := FG h
      exact FS h (fr_rf)
theorem cG_actAt_fr (l1 : Int32) (s : ts) (r : Int32 × ts) (h : cG_actAt l1 s = some r) : fr wf_cG_actAt s r.2 := by
  unfold cG_actAt at h
  refine FI h (fun h => ?_) (fun h => ?_)
  · exact FS h (fr_rf)
  · refine FI h (fun h => ?_) (fun h => ?_)
    · exact FS h (fr_rf)
    · replace h := FG h
      exact FS h (fr_rf)
theorem cW_assign_20_fr (l2 : Int32) (l3 : Int32) (s : ts) (r : ts) (h : cW_assign_20 l2 l3 s = some r) : fr wf_cW_assign s r := by
  unfold cW_assign_20 at h
  refine FI h (fun h => ?_) (fun h => ?_)
  · exact FV h (fr_rf)
  · refine FI h (fun h => ?_) (fun h => ?_)
    · exact FV h (fr_rf)
    · replace h := FG h
      exact FV h (fr_wA (fr_rf) rfl)
theorem cW_assign_fr (l1 : Nat) (l2 : Int32) (l3 : Int32) (s : ts) (r : ts) (h : cW_assign l1 l2 l3 s = some r) : fr wf_cW_assign s r := by
  unfold cW_assign at h
  refine FI h (fun h => ?_) (fun h => ?_)
  · exact fr_tr (fr_rf) (cW_assign_20_fr l2 l3 _ _ h)
  · refine FI h (fun h => ?_) (fun h => ?_)
    · exact fr_tr (fr_rf) (cW_assign_20_fr l2 l3 _ _ h)
    · replace h := FG h
      replace h := FG h
      exact FV h (fr_wV (fr_rf) rfl)
theorem cH_isTimeAhead_fr (l1 : Int32) (s : ts) (r : Int32 × ts) (h : cH_isTimeAhead l1 s = some r) : fr wf_cH_isTimeAhead s r.2 := by
  unfold cH_isTimeAhead at h
  refine FI h (fun h => ?_) (fun h => ?_)
  · exact FS h (fr_rf)
  · refine FI h (fun h => ?_) (fun h => ?_)
    · exact FS h (fr_rf)
    · exact FS h (fr_rf)
theorem cH_hold_fr (l1 : Nat) (l2 : Int32) (s : ts) (r : Int32 × ts) (h : cH_hold l1 l2 s = some r) : fr wf_cH_hold s r.2 := by
  unfold cH_hold at h
  obtain ⟨x3, hx3, h⟩ := FB h
  have f1 := fr_tr (W := wf_cH_hold) (fr_rf) (fr_mono (by decide +kernel) (cH_isTimeAhead_fr l2 _ _ hx3))
  refine FI h (fun h => ?_) (fun h => ?_)
  · exact FS h (f1)
  · obtain ⟨s5, hs5, h⟩ := FB h
    have f2 := fr_tr (W := wf_cH_hold) (f1) (fr_mono (by decide +kernel) (cO_putInCalendar_fr l1 ((1 : Int32)) ((gI x3.2 800 0) + l2) _ _ hs5))
    exact FS h (f2)
theorem cO_makeWait_fr (l1 : Nat) (l2 : Int32) (l3 : Int32) (s : ts) (r : ts) (h : cO_makeWait l1 l2 l3 s = some r) : fr wf_cO_makeWait s r := by
  unfold cO_makeWait at h
  replace h := FG h
  obtain ⟨x4, hx4, h⟩ := FB h
  have f1 := fr_tr (W := wf_cO_makeWait) (fr_wI (fr_wI (fr_wI (fr_rf) rfl) rfl) rfl) (fr_mono (by decide +kernel) (cW_placeAt_fr l3 _ _ hx4))
  cases e3 : x4.1 with
  | none =>
    rw [e3] at h
    try dsimp only at h
    exact FV h (f1)
  | some q5 =>
    rw [e3] at h
    try dsimp only at h
    replace h := FG h
    obtain ⟨x9, hx9, h⟩ := FB h
    have f2 := fr_tr (W := wf_cO_makeWait) (f1) (fr_mono (by decide +kernel) (cK_waiting_fr q5 _ _ hx9))
    exact FV h (fr_wI (f2) rfl)
theorem cO_seize_fr (l1 : Nat) (l2 : Int32) (l3 : Int32) (s : ts) (r : ts) (h : cO_seize l1 l2 l3 s = some r) : fr wf_cO_seize s r := by
  unfold cO_seize at h
  obtain ⟨x3, hx3, h⟩ := FB h
  have f1 := fr_tr (W := wf_cO_seize) (fr_rf) (fr_mono (by decide +kernel) (cW_placeAt_fr l2 _ _ hx3))
  cases e4 : x3.1 with
  | none =>
    rw [e4] at h
    try dsimp only at h
    exact FV h (f1)
  | some q4 =>
    rw [e4] at h
    try dsimp only at h
    refine FI h (fun h => ?_) (fun h => ?_)
    · replace h := FG h
      refine FI h (fun h => ?_) (fun h => ?_)
      · obtain ⟨s7, hs7, h⟩ := FB h
        have f2 := fr_tr (W := wf_cO_seize) (f1) (fr_mono (by decide +kernel) (cN_join_fr (2 * q4) l1 l3 _ _ hs7))
        obtain ⟨s10, hs10, h⟩ := FB h
        have f3 := fr_tr (W := wf_cO_seize) (f2) (fr_mono (by decide +kernel) (cO_makeWait_fr l1 ((2 : Int32)) l2 _ _ hs10))
        exact FV h (f3)
      · replace h := FG h
        replace h := FG h
        exact FV h (fr_wI (fr_wU (fr_wI (f1) rfl) rfl) rfl)
    · exact FV h (f1)
theorem cK_countLate_fr (l0 : Nat) (l1 : Int64) (s : ts) (r : ts) (h : cK_countLate l0 l1 s = some r) : fr wf_cK_countLate s r := by
  unfold cK_countLate at h
  replace h := FG h
  exact FV h (fr_wJ (fr_wI (fr_wI (fr_rf) rfl) rfl) rfl)
theorem cO_giveBack_fr (l1 : Nat) (l2 : Int32) (s : ts) (r : Int32 × ts) (h : cO_giveBack l1 l2 s = some r) : fr wf_cO_giveBack s r.2 := by
  unfold cO_giveBack at h
  obtain ⟨x3, hx3, h⟩ := FB h
  have f1 := fr_tr (W := wf_cO_giveBack) (fr_rf) (fr_mono (by decide +kernel) (cW_placeAt_fr l2 _ _ hx3))
  cases e5 : x3.1 with
  | none =>
    rw [e5] at h
    try dsimp only at h
    exact FS h (f1)
  | some q4 =>
    rw [e5] at h
    try dsimp only at h
    refine FI h (fun h => ?_) (fun h => ?_)
    · exact FS h (f1)
    · replace h := FG h
      replace h := FG h
      refine FI h (fun h => ?_) (fun h => ?_)
      · replace h := FG h
        cases e4 : gR (wU x3.2 l1 l2.toNatClampNeg ((gU x3.2 l1 l2.toNatClampNeg) - ((1 : Int32)))) 600 (2 * q4) with
        | none =>
          rw [e4] at h
          try dsimp only at h
          exact FS h (fr_wI (fr_wU (f1) rfl) rfl)
        | some r8 =>
          rw [e4] at h
          try dsimp only at h
          replace h := FG h
          obtain ⟨s12, hs12, h⟩ := FB h
          have f2 := fr_tr (W := wf_cO_giveBack) (fr_wU (fr_wU (f1) rfl) rfl) (fr_mono (by decide +kernel) (cK_countLate_fr q4 (((gI (wU (wU x3.2 l1 l2.toNatClampNeg ((gU x3.2 l1 l2.toNatClampNeg) - ((1 : Int32)))) r8 l2.toNatClampNeg ((gU (wU x3.2 l1 l2.toNatClampNeg ((gU x3.2 l1 l2.toNatClampNeg) - ((1 : Int32)))) r8 l2.toNatClampNeg) + ((1 : Int32)))) 800 0) - (gI (wU (wU x3.2 l1 l2.toNatClampNeg ((gU x3.2 l1 l2.toNatClampNeg) - ((1 : Int32)))) r8 l2.toNatClampNeg ((gU (wU x3.2 l1 l2.toNatClampNeg ((gU x3.2 l1 l2.toNatClampNeg) - ((1 : Int32)))) r8 l2.toNatClampNeg) + ((1 : Int32)))) 510 r8)).toInt64) _ _ hs12))
          obtain ⟨s15, hs15, h⟩ := FB h
          have f3 := fr_tr (W := wf_cO_giveBack) (f2) (fr_mono (by decide +kernel) (cO_putInCalendar_fr r8 ((0 : Int32)) (gI s12 800 0) _ _ hs15))
          exact FS h (f3)
      · exact FS h (f1)
theorem cN_takeFirst_fr (l0 : Nat) (s : ts) (r : Option Nat × ts) (h : cN_takeFirst l0 s = some r) : fr wf_cN_takeFirst s r.2 := by
  unfold cN_takeFirst at h
  replace h := FG h
  cases e2 : gR s 600 l0 with
  | none =>
    rw [e2] at h
    try dsimp only at h
    exact FS h (fr_rf)
  | some r2 =>
    rw [e2] at h
    try dsimp only at h
    replace h := FG h
    cases e1 : gR s 509 r2 with
    | none =>
      rw [e1] at h
      try dsimp only at h
      exact FS h (fr_wI (fr_wR (fr_wR (fr_wR (fr_rf) rfl) rfl) rfl) rfl)
    | some r5 =>
      rw [e1] at h
      try dsimp only at h
      exact FS h (fr_wI (fr_wR (fr_wR (fr_wR (fr_rf) rfl) rfl) rfl) rfl)
theorem cK_serveNext_44_fr (l0 : Nat) (s : ts) (r : Option Nat × ts) (h : cK_serveNext_44 l0 s = some r) : fr wf_cK_serveNext s r.2 := by
  unfold cK_serveNext_44 at h
  replace h := FG h
  cases e3 : gR s 600 (2 * l0 + 1) with
  | none =>
    rw [e3] at h
    try dsimp only at h
    exact FS h (fr_rf)
  | some r2 =>
    rw [e3] at h
    try dsimp only at h
    replace h := FG h
    refine FI h (fun h => ?_) (fun h => ?_)
    · exact FS h (fr_rf)
    · obtain ⟨x7, hx7, h⟩ := FB h
      have f1 := fr_tr (W := wf_cK_serveNext) (fr_wI (fr_rf) rfl) (fr_mono (by decide +kernel) (cN_takeFirst_fr (2 * l0 + 1) _ _ hx7))
      cases e2 : x7.1 with
      | none =>
        rw [e2] at h
        try dsimp only at h
        exact FS h (f1)
      | some q8 =>
        rw [e2] at h
        try dsimp only at h
        exact FS h (f1)
theorem cK_serveNext_fr (l0 : Nat) (s : ts) (r : Option Nat × ts) (h : cK_serveNext l0 s = some r) : fr wf_cK_serveNext s r.2 := by
  unfold cK_serveNext at h
  replace h := FG h
  cases e3 : gR s 600 (2 * l0) with
  | none =>
    rw [e3] at h
    try dsimp only at h
    exact fr_tr (fr_rf) (cK_serveNext_44_fr l0 _ _ h)
  | some r2 =>
    rw [e3] at h
    try dsimp only at h
    replace h := FG h
    refine FI h (fun h => ?_) (fun h => ?_)
    · exact fr_tr (fr_rf) (cK_serveNext_44_fr l0 _ _ h)
    · obtain ⟨x7, hx7, h⟩ := FB h
      have f1 := fr_tr (W := wf_cK_serveNext) (fr_wI (fr_rf) rfl) (fr_mono (by decide +kernel) (cN_takeFirst_fr (2 * l0) _ _ hx7))
      cases e2 : x7.1 with
      | none =>
        rw [e2] at h
        try dsimp only at h
        exact FS h (f1)
      | some q8 =>
        rw [e2] at h
        try dsimp only at h
        exact FS h (f1)
