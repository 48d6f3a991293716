/-! THE REFERENCE BEGINS; what its load leaves where it fails. -/
def OrQ (un : Nat → Nat) (s : ts) (q : Nat) : Prop := gA s 129 q = nI (un q) ∧ gA s 130 q = 0 ∧ gA s 131 q = 0 ∧ gA s 132 q = 0 ∧ gB s 133 q = 0 ∧ gB s 134 q = 0 ∧ gB s 135 q = 0 ∧ gA s 136 q = 0 ∧ gA s 136 (14 + q) = 0
def kor (s : ts) (q : Nat) (x : Int32) : ts := wA (wA (wB (wB (wB (wA (wA (wA (wA s 129 q x) 130 q 0) 131 q 0) 132 q 0) 133 q 0) 134 q 0) 135 q 0) 136 q 0) 136 (14 + q) 0
theorem kor_A {s : ts} {q f i : Nat} {x : Int32} : gA (kor s q x) f i = if f = 136 ∧ i = 14 + q then 0 else if f = 136 ∧ i = q then 0 else if f = 132 ∧ i = q then 0 else if f = 131 ∧ i = q then 0 else if f = 130 ∧ i = q then 0 else if f = 129 ∧ i = q then x else gA s f i := rfl
theorem kor_B {s : ts} {q f i : Nat} {x : Int32} : gB (kor s q x) f i = if f = 135 ∧ i = q then 0 else if f = 134 ∧ i = q then 0 else if f = 133 ∧ i = q then 0 else gB s f i := rfl
theorem kor_fr {s : ts} {q : Nat} {x : Int32} : fr [2129, 2130, 2131, 2132, 2136, 3133, 3134, 3135] s (kor s q x) := fr_wA (fr_wA (fr_wB (fr_wB (fr_wB (fr_wA (fr_wA (fr_wA (fr_wA fr_rf rfl) rfl) rfl) rfl) rfl) rfl) rfl) rfl) rfl
theorem kor_new {un : Nat → Nat} {s : ts} {q : Nat} (hq : q < 14) : OrQ un (kor s q (nI (un q))) q := by
  unfold OrQ
  simp only [kor_A, kor_B, Nat.reduceEqDiff, and_true, true_and, and_false, false_and, if_true, if_false, eq_self, show (q = 14 + q) = False from eq_false (by omega)]
theorem kor_old {un : Nat → Nat} {s : ts} {q p : Nat} {x : Int32} (h : OrQ un s p) (hne : ¬ p = q) (hq : q < 14) (hp : p < 14) : OrQ un (kor s q x) p := by
  unfold OrQ at h ⊢
  simp only [kor_A, kor_B, Nat.reduceEqDiff, and_true, true_and, and_false, false_and, if_true, if_false, eq_self, show (p = 14 + q) = False from eq_false (by omega), show (14 + p = 14 + q) = False from eq_false (by omega), show (14 + p = q) = False from eq_false (by omega), show (p = q) = False from eq_false hne]
  exact h
theorem beg74 {un : Nat → Nat} {nr ns : Nat} (hr : nr ≤ 8) (hs6 : ns ≤ 6) (hz : ∀ r, nr ≤ r → r < 8 → un r = 0) (hz2 : ∀ s, ns ≤ s → s < 6 → un (8 + s) = 0) : ∀ (k q F : Nat) (s : ts), q + k = 14 → k < F → gI s 1110 0 = nI nr → gI s 1113 0 = nI ns → (∀ r, r < nr → gA s 90 r = nI (un r)) → (∀ i, i < ns → gA s 92 i = nI (un (8 + i))) → (∀ p, p < q → OrQ un s p) → ∃ s1, cR_beginAll_74 F (nI q) s = some s1 ∧ (∀ p, p < 14 → OrQ un s1 p) ∧ fr [2129, 2130, 2131, 2132, 2136, 3133, 3134, 3135] s s1 := by
  intro k
  induction k with
  | zero =>
    intro q F s hk hF h1 h2 h3 h4 ho
    obtain ⟨F0, rfl⟩ : ∃ F0, F = F0 + 1 := ⟨F - 1, by omega⟩
    have e : q = 14 := by omega
    subst e
    refine ⟨s, ?_, ho, fr_rf⟩
    rw [cR_beginAll_74.eq_2]
    unfold cR_beginAll_74_b
    rw [if_pos (by decide)]
  | succ k ih =>
    intro q F s hk hF h1 h2 h3 h4 ho
    obtain ⟨F0, rfl⟩ : ∃ F0, F = F0 + 1 := ⟨F - 1, by omega⟩
    have hq : q < 14 := by omega
    have f1 := kor_fr (s := s) (q := q) (x := nI (un q))
    obtain ⟨s1, g1, g2, g3⟩ := ih (q + 1) F0 (kor s q (nI (un q))) (by omega) (by omega) ((f1.1 1110 rfl 0).trans h1) ((f1.1 1113 rfl 0).trans h2) (fun r hr => by rw [f1.2.1 90 rfl]; exact h3 r hr) (fun i hi => by rw [f1.2.1 92 rfl]; exact h4 i hi) (fun p hp => by
      by_cases c : p = q
      · rw [c]; exact kor_new hq
      · exact kor_old (ho p (by omega)) c hq (by omega))
    refine ⟨s1, ?_, g2, fr_tr f1 g3⟩
    have e132 : ∀ t2, t2 = nI (un q) → cR_beginAll_132 (cR_beginAll_74 F0) (nI q) (nI q) t2 s = some s1 := fun t2 h => by
      unfold cR_beginAll_132
      rw [if_pos (nI_idx hq (by decide)), if_pos (nI_idx hq (by decide)), if_pos (nI_idx (by omega) (by decide)), show (14 : Int32) + nI q = nI (14 + q) from nI_add 14 q, if_pos (nI_idx (by omega) (by decide)), nI_clamp (by omega), nI_clamp (by omega), nI_1, h]
      exact g1
    rw [cR_beginAll_74.eq_2]
    unfold cR_beginAll_74_b
    rw [if_neg (show ¬ (14 : Int32) ≤ nI q from nI_ge (b := 14) hq (by decide)), h1, h2]
    by_cases c : nr ≤ q
    · rw [if_pos (nI_le c (by omega))]
      by_cases c8 : q < 8
      · rw [if_pos (show nI q < (8 : Int32) from nI_lt (b := 8) c8 (by decide))]
        exact e132 _ (by rw [hz q c c8]; rfl)
      · rw [if_neg (show ¬ nI q < (8 : Int32) from nI_nlt (b := 8) (by omega) (by omega)), show nI q - (8 : Int32) = nI (q - 8) from pk_sub (b := 8) (by omega)]
        by_cases c9 : ns ≤ q - 8
        · rw [if_pos (nI_le c9 (by omega))]
          have := hz2 (q - 8) c9 (by omega)
          rw [show 8 + (q - 8) = q by omega] at this
          exact e132 _ (by rw [this]; rfl)
        · rw [if_neg (nI_ge (by omega) (by omega)), if_pos (nI_idx (by omega) (by decide)), nI_clamp (by omega), h4 (q - 8) (by omega), show 8 + (q - 8) = q by omega]
          exact e132 _ rfl
    · rw [if_neg (nI_ge (by omega) (by omega)), if_pos (nI_idx (by omega) (by decide)), nI_clamp (by omega), h3 q (by omega)]
      exact e132 _ rfl
theorem beg53 : ∀ (k i F : Nat) (s : ts), i + k = 16 → k < F → ∃ s1, cR_beginAll_53 F (nI i) s = cR_beginAll_74 tm_N 0 s1 ∧ (∀ j, i ≤ j → j < 16 → gA s1 118 j = 0) ∧ (∀ j, j < i → gA s1 118 j = gA s 118 j) ∧ fr [2118] s s1 := by
  intro k
  induction k with
  | zero =>
    intro i F s hk hF
    obtain ⟨F0, rfl⟩ : ∃ F0, F = F0 + 1 := ⟨F - 1, by omega⟩
    have e : i = 16 := by omega
    subst e
    refine ⟨s, ?_, fun j h1 h2 => by omega, fun _ _ => rfl, fr_rf⟩
    rw [cR_beginAll_53.eq_2]
    unfold cR_beginAll_53_b
    rw [if_pos (by decide)]
  | succ k ih =>
    intro i F s hk hF
    obtain ⟨F0, rfl⟩ : ∃ F0, F = F0 + 1 := ⟨F - 1, by omega⟩
    obtain ⟨s1, h1, h2, h3, h4⟩ := ih (i + 1) F0 (wA s 118 i 0) (by omega) (by omega)
    refine ⟨s1, ?_, fun j h5 h6 => ?_, fun j h5 => ?_, fr_tr (fr_wA fr_rf rfl) h4⟩
    · rw [cR_beginAll_53.eq_2]
      unfold cR_beginAll_53_b
      rw [if_neg (show ¬ (16 : Int32) ≤ nI i from nI_ge (b := 16) (by omega) (by decide)), if_pos (nI_idx (by omega) (by decide)), nI_clamp (by omega), nI_1]; exact h1
    · by_cases c : j = i
      · rw [c, h3 i (by omega), gA_ws]
      · exact h2 j (by omega) h6
    · rw [h3 j (by omega), gA_wn (by omega)]
theorem begB_ok {rm un : Nat → Nat} {nr ns : Nat} {s : ts} (hr : nr ≤ 8) (hs6 : ns ≤ 6) (hz : ∀ r, nr ≤ r → r < 8 → un r = 0) (hz2 : ∀ s, ns ≤ s → s < 6 → un (8 + s) = 0) (h1 : gI s 1110 0 = nI nr) (h2 : gI s 1113 0 = nI ns) (h3 : ∀ r, r < nr → gA s 90 r = nI (un r)) (h4 : ∀ i, i < ns → gA s 92 i = nI (un (8 + i))) (h5 : ∀ i, i < ns → gA s 93 i = nI (rm (8 + i))) (hm : rm 14 = nr) (hm2 : rm 15 = ns) (hru : ∀ r, r < nr → rm r = un r) : ∃ s1, cR_beginAll s = some s1 ∧ VB rm s1 (M00 un (gI s 1158 0)) := by
  generalize hs0 : wI (wI (wJ (wI (wI (wI (wI (wI (wI (wI s 1152 0 0) 1153 0 0) 1154 0 0) 1155 0 0) 1156 0 0) 1157 0 0) 1159 0 (-2)) 1160 0 0) 1161 0 0) 1185 0 0 = s0
  have f0 : fr [1152, 1153, 1154, 1155, 1156, 1157, 1159, 1161, 1185, 5160] s s0 := by
    rw [← hs0]
    exact fr_wI (fr_wI (fr_wJ (fr_wI (fr_wI (fr_wI (fr_wI (fr_wI (fr_wI (fr_wI fr_rf rfl) rfl) rfl) rfl) rfl) rfl) rfl) rfl) rfl) rfl
  obtain ⟨s1, a1, a2, a3, a4⟩ := beg53 16 0 tm_N s0 (by omega) (by unfold tm_N; omega)
  have f1 : fr [1152, 1153, 1154, 1155, 1156, 1157, 1159, 1161, 1185, 2118, 5160] s s1 := fr_tr (fr_mono (by decide) f0) (fr_mono (by decide) a4)
  obtain ⟨s2, b1, b2, b3⟩ := beg74 (un := un) hr hs6 hz hz2 14 0 tm_N s1 (by omega) (by unfold tm_N; omega) ((f1.1 1110 rfl 0).trans h1) ((f1.1 1113 rfl 0).trans h2) (fun r hr => by rw [f1.2.1 90 rfl]; exact h3 r hr) (fun i hi => by rw [f1.2.1 92 rfl]; exact h4 i hi) (fun p h => by omega)
  have fall : fr [1152, 1153, 1154, 1155, 1156, 1157, 1159, 1161, 1185, 2118, 2129, 2130, 2131, 2132, 2136, 3133, 3134, 3135, 5160] s s2 := fr_tr (fr_mono (by decide) f1) (fr_mono (by decide) b3)
  have p0 : ∀ f v, ([2118] : List Nat).contains f = false → ([2129, 2130, 2131, 2132, 2136, 3133, 3134, 3135] : List Nat).contains f = false → gI s0 f 0 = v → gI s2 f 0 = v := fun f v c1 c2 h => by rw [b3.1 f c2, a4.1 f c1]; exact h
  refine ⟨s2, ?_, ?_⟩
  · unfold cR_beginAll
    have a1 : cR_beginAll_53 tm_N 0 s0 = _ := a1
    rw [hs0, a1]; exact b1
  · unfold VB rb
    simp only [p_M00]
    have k : ∀ q, q < 14 → OrQ un s2 q := b2
    refine ⟨⟨by rw [fall.1 1110 rfl, hm]; exact h1, by omega⟩, fun r hr1 => ?_, fun i hi => ?_, ?_, fall.1 1158 rfl 0, fun i hi => ?_, ?_, ?_, ?_, ?_, ?_, ?_, fun k h1 h2 => by omega, ?_, fun q hq => (k q hq).1, fun q hq => (k q hq).2.1, fun q hq => (k q hq).2.2.1, fun q hq => (k q hq).2.2.2.1, fun q hq => (k q hq).2.2.2.2.1, fun q hq => (k q hq).2.2.2.2.2.1, fun q hq => (k q hq).2.2.2.2.2.2.1, fun p hp => by omega, fun p hp => by omega, fun p hp => by omega, fun p hp => by omega, fun p hp => by omega, ?_, fun p hp => by omega, fun p hp => by omega, fun p hp => by omega, fun p hp => by omega, fun p hp => by omega, fun ρ hρ => ?_, ?_⟩
    · rw [fall.2.1 90 rfl, h3 r (by omega), hru r (by omega)]
    · rw [fall.2.1 93 rfl]; exact h5 i (by omega)
    · refine p0 1152 _ rfl rfl ?_
      rw [← hs0, gI_wf (by decide), gI_wf (by decide), gI_wJ, gI_wf (by decide), gI_wf (by decide), gI_wf (by decide), gI_wf (by decide), gI_wf (by decide), gI_wf (by decide), gI_ws]; rfl
    · rw [b3.2.1 118 rfl]; exact a2 i (by omega) hi
    · refine p0 1153 _ rfl rfl ?_
      rw [← hs0, gI_wf (by decide), gI_wf (by decide), gI_wJ, gI_wf (by decide), gI_wf (by decide), gI_wf (by decide), gI_wf (by decide), gI_wf (by decide), gI_ws]
    · refine p0 1154 _ rfl rfl ?_
      rw [← hs0, gI_wf (by decide), gI_wf (by decide), gI_wJ, gI_wf (by decide), gI_wf (by decide), gI_wf (by decide), gI_wf (by decide), gI_ws]
    · refine p0 1155 _ rfl rfl ?_
      rw [← hs0, gI_wf (by decide), gI_wf (by decide), gI_wJ, gI_wf (by decide), gI_wf (by decide), gI_wf (by decide), gI_ws]; rfl
    · refine p0 1156 _ rfl rfl ?_
      rw [← hs0, gI_wf (by decide), gI_wf (by decide), gI_wJ, gI_wf (by decide), gI_wf (by decide), gI_ws]
    · refine p0 1157 _ rfl rfl ?_
      rw [← hs0, gI_wf (by decide), gI_wf (by decide), gI_wJ, gI_wf (by decide), gI_ws]
    · refine p0 1161 _ rfl rfl ?_
      rw [← hs0, gI_wf (by decide), gI_ws]; rfl
    · refine p0 1159 _ rfl rfl ?_
      rw [← hs0, gI_wf (by decide), gI_wf (by decide), gI_wJ, gI_ws]; rfl
    · rw [b3.2.2.2.1 1160 rfl, a4.2.2.2.1 1160 rfl, ← hs0, gJ_wI, gJ_wI, gJ_wJs]; rfl
    · refine ⟨?_, by simp, fun i y hi => by simp at hi⟩
      by_cases c : ρ < 14
      · exact (k ρ c).2.2.2.2.2.2.2.1
      · have := (k (ρ - 14) (by omega)).2.2.2.2.2.2.2.2
        rw [show 14 + (ρ - 14) = ρ by omega] at this
        exact this
    · refine ⟨p0 1185 _ rfl rfl ?_, by simp, fun i y hi => by simp at hi⟩
      rw [← hs0, gI_ws]; rfl
/-- where the reference's load fails, nothing is read -/
def z5 (s : ts) (r : Int32 × ts) : Prop := gI s 1102 0 = 0 → ¬ gI r.2 1103 0 = 0 → gI r.2 1102 0 = 0
theorem z5_fr {W : List Nat} {s s1 : ts} {r : Int32 × ts} (h : fr W s s1) (hc : W.contains 1102 = false) (k : z5 s1 r) : z5 s r := fun z => k ((h.1 1102 hc 0).trans z)
theorem cR_load_245_z5 (s : ts) (r : Int32 × ts) (h : cR_load_245 s = some r) : z5 s r := by
  intro z hn
  unfold cR_load_245 cR_good at h
  by_cases c : gI (wI s 1101 0 0) 1103 0 = 0
  · rw [if_pos c, Option.bind_some] at h
    dsimp only at h
    rw [if_neg (by decide)] at h
    obtain ⟨s5, h1, h2⟩ := FB h
    cases h2
    have f1 := cR_beginAll_fr _ _ h1
    have : gI s5 1103 0 = 0 := by
      rw [f1.1 1103 (by decide) 0, gI_wf (by decide)]; exact c
    exact absurd this hn
  · rw [if_neg c, Option.bind_some] at h
    dsimp only at h
    rw [if_pos rfl] at h
    cases h
    show gI (wI s 1101 0 0) 1102 0 = 0
    rw [gI_wf (by decide)]; exact z
theorem cR_load_220_z5 (kk : Int32 → ts → Option (Int32 × ts)) (hkk : ∀ l s r, kk l s = some r → z5 s r) (l1 l2 : Int32) (s : ts) (r : Int32 × ts) (h : cR_load_220 kk l1 l2 s = some r) : z5 s r := by
  unfold cR_load_220 at h
  refine FI h (fun h => ?_) (fun h => ?_)
  · obtain ⟨s3, h1, h2⟩ := FB h
    exact z5_fr (cR_fail_fr _ _ _ _ h1) (by decide) (fun z => hkk _ _ _ h2 z)
  · cases h
theorem cR_load_163_z5 : ∀ (n : Nat) (l1 : Int32) (s : ts) (r : Int32 × ts), cR_load_163 n l1 s = some r → z5 s r := by
  intro n
  induction n with
  | zero => intro l1 s r h; cases h
  | succ n ih =>
    intro l1 s r h
    rw [cR_load_163.eq_2] at h
    unfold cR_load_163_b at h
    refine FI h (fun h => ?_) (fun h => ?_)
    · exact cR_load_245_z5 _ _ h
    · obtain ⟨x3, hx3, h⟩ := FB h
      refine z5_fr (cR_good_fr _ _ hx3) (by decide) ?_
      refine FI h (fun h => ?_) (fun h => ?_)
      · exact cR_load_245_z5 _ _ h
      · refine FI h (fun h => ?_) (fun h => ?_)
        · refine FI h (fun h => ?_) (fun h => ?_)
          · obtain ⟨x7, hx7, h⟩ := FB h
            refine z5_fr (cR_findDefinition_fr _ _ _ hx7) (by decide) ?_
            refine FI h (fun h => ?_) (fun h => ?_)
            · exact cR_load_220_z5 _ ih _ _ _ _ h
            · refine FI h (fun h => ?_) (fun h => ?_)
              · refine FI h (fun h => ?_) (fun h => ?_)
                · exact fun z => ih _ _ _ h z
                · exact cR_load_220_z5 _ ih _ _ _ _ h
              · cases h
          · exact ih _ _ _ h
        · cases h
theorem cR_load_108_z5 (kk : ts → Option (Int32 × ts)) (hkk : ∀ s r, kk s = some r → z5 s r) (l1 t1 : Int32) (s : ts) (r : Int32 × ts) (h : cR_load_108 kk l1 t1 s = some r) : z5 s r := by
  unfold cR_load_108 at h
  obtain ⟨s2, hs2, h⟩ := FB h
  refine z5_fr (cR_need_fr _ _ _ _ hs2) (by decide) ?_
  refine FI h (fun h => ?_) (fun h => ?_)
  · obtain ⟨s20, h1, h⟩ := FB h
    exact z5_fr (cR_takeResource_fr _ _ h1) (by decide) (hkk _ _ h)
  · refine FI h (fun h => ?_) (fun h => ?_)
    · obtain ⟨s20, h1, h⟩ := FB h
      exact z5_fr (cR_takeStore_fr _ _ h1) (by decide) (hkk _ _ h)
    · refine FI h (fun h => ?_) (fun h => ?_)
      · obtain ⟨s20, h1, h⟩ := FB h
        exact z5_fr (cR_takeNumbers_fr _ _ h1) (by decide) (hkk _ _ h)
      · obtain ⟨x6, h1, h⟩ := FB h
        refine z5_fr (cR_good_fr _ _ h1) (by decide) ?_
        refine FI h (fun h => ?_) (fun h => ?_)
        · exact hkk _ _ h
        · obtain ⟨s20, h1, h⟩ := FB h
          exact z5_fr (cR_takeProcess_fr _ _ h1) (by decide) (hkk _ _ h)
theorem cR_load_74_z5 : ∀ (n : Nat) (s : ts) (r : Int32 × ts), cR_load_74 n s = some r → z5 s r := by
  intro n
  induction n with
  | zero => intro s r h; cases h
  | succ n ih =>
    intro s r h
    rw [cR_load_74.eq_2] at h
    unfold cR_load_74_b at h
    obtain ⟨x3, hx3, h⟩ := FB h
    refine z5_fr (cR_good_fr _ _ hx3) (by decide) ?_
    refine FI h (fun h => ?_) (fun h => ?_)
    · exact cR_load_163_z5 _ _ _ _ h
    · refine FI h (fun h => ?_) (fun h => ?_)
      · exact cR_load_163_z5 _ _ _ _ h
      · obtain ⟨x6, hx6, h⟩ := FB h
        refine z5_fr (cR_reserved_fr _ _ hx6) (by decide) ?_
        refine FI h (fun h => ?_) (fun h => ?_)
        · exact cR_load_108_z5 _ ih _ _ _ _ h
        · refine FI h (fun h => ?_) (fun h => ?_)
          · exact cR_load_108_z5 _ ih _ _ _ _ h
          · exact cR_load_108_z5 _ ih _ _ _ _ h
theorem load_z {s : ts} {r : Int32 × ts} (h : cR_load s = some r) : (¬ gI r.2 1103 0 = 0 → gI r.2 1102 0 = 0) ∧ (gI r.2 1103 0 = 0 → gI r.2 1104 0 = -1) := by
  unfold cR_load at h
  obtain ⟨s2, h1, h2⟩ := FB h
  refine ⟨fun hn => ?_, fun h0 => ?_⟩
  · refine cR_load_74_z5 _ _ _ h2 ?_ hn
    rw [(cR_next_fr _ _ h1).1 1102 (by decide) 0, gI_wf (by decide), gI_wf (by decide), gI_ws]
  · have z := cR_load_74_z4 _ _ _ h2 h0
    have z2 := cR_next_z4 _ _ h1 z.1
    rw [z.2, z2.2, gI_wf (by decide), gI_wf (by decide), gI_wf (by decide), gI_ws]
