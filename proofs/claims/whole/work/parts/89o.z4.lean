/-! THE REFERENCE'S FAULT: it stays; where there is none the place is as before. Printed by wip/tools/gen_z4.py. -/
def z4 (s s1 : ts) : Prop := gI s1 1103 0 = 0 → gI s 1103 0 = 0 ∧ gI s1 1104 0 = gI s 1104 0
theorem z4_rf {s : ts} : z4 s s := fun h => ⟨h, rfl⟩
theorem z4_tr {s s1 s2 : ts} (h : z4 s s1) (k : z4 s1 s2) : z4 s s2 := fun z => ⟨(h (k z).1).1, (k z).2.trans (h (k z).1).2⟩
theorem z4_fr {W : List Nat} {s s1 : ts} (hd : W.contains 1103 = false) (hd2 : W.contains 1104 = false) (h : fr W s s1) : z4 s s1 := fun z => ⟨(h.1 1103 hd 0).symm.trans z, h.1 1104 hd2 0⟩
theorem z4_wI {s s1 : ts} {f i : Nat} {x : Int32} (h : z4 s s1) (hf : (Nat.beq f 1103 || Nat.beq f 1104) = false) : z4 s (wI s1 f i x) := by
  have n3 : ¬ 1103 = f := fun e => by rw [← e] at hf; exact absurd hf (by decide)
  have n4 : ¬ 1104 = f := fun e => by rw [← e] at hf; exact absurd hf (by decide)
  intro z
  rw [gI_wIn n3] at z
  exact ⟨(h z).1, (gI_wIn n4).trans (h z).2⟩
theorem z4_wA {s s1 : ts} {f i : Nat} {x : Int32} (h : z4 s s1) (_ : true = true) : z4 s (wA s1 f i x) := h
theorem z4_wB {s s1 : ts} {f i : Nat} {x : Int64} (h : z4 s s1) (_ : true = true) : z4 s (wB s1 f i x) := h
theorem z4_wJ {s s1 : ts} {f i : Nat} {x : Int64} (h : z4 s s1) (_ : true = true) : z4 s (wJ s1 f i x) := h
theorem YS {α : Type} {s s' : ts} {v : α} {r : α × ts} (h : some (v, s') = some r) (k : z4 s s') : z4 s r.2 := by cases h; exact k
theorem YV {s s' r : ts} (h : some s' = some r) (k : z4 s s') : z4 s r := by cases h; exact k
theorem cR_fail_z4 (l1 : Int32) (l2 : Int32) (hl : ¬ l1 = 0) (s : ts) (r : ts) (h : cR_fail l1 l2 s = some r) : z4 s r := by
  unfold cR_fail at h
  refine FI h (fun h => ?_) (fun h => ?_)
  · cases h
    intro z
    rw [gI_wIn (by decide), gI_wIs] at z
    exact absurd z hl
  · exact YV h z4_rf
theorem cR_need_z4 (l1 : Int32) (l2 : Int32) (hl : ¬ l2 = 0) (s : ts) (r : ts) (h : cR_need l1 l2 s = some r) : z4 s r := by
  unfold cR_need at h
  refine FI h (fun h => ?_) (fun h => ?_)
  · obtain ⟨s2, hs2, h⟩ := FB h
    exact YV h (cR_fail_z4 l2 (gI s 1107 0) hl _ _ hs2)
  · exact YV h z4_rf
theorem cR_sign_84_z4 (l1 : Int32) (s : ts) (r : ts) (h : cR_sign_84 l1 s = some r) : z4 s r := by
  unfold cR_sign_84 at h
  refine FI h (fun h => ?_) (fun h => ?_)
  · exact YV h (z4_wI (z4_wI (z4_rf) rfl) rfl)
  · refine FI h (fun h => ?_) (fun h => ?_)
    · exact YV h (z4_wI (z4_wI (z4_rf) rfl) rfl)
    · refine FI h (fun h => ?_) (fun h => ?_)
      · exact YV h (z4_wI (z4_wI (z4_rf) rfl) rfl)
      · refine FI h (fun h => ?_) (fun h => ?_)
        · exact YV h (z4_wI (z4_wI (z4_rf) rfl) rfl)
        · refine FI h (fun h => ?_) (fun h => ?_)
          · exact YV h (z4_wI (z4_wI (z4_rf) rfl) rfl)
          · exact YV h (z4_wI (z4_wI (z4_rf) rfl) rfl)
theorem cR_sign_265_z4 (t1 : Int32) (s : ts) (r : ts) (h : cR_sign_265 t1 s = some r) : z4 s r := by
  unfold cR_sign_265 at h
  obtain ⟨s2, hs2, h⟩ := FB h
  have f1 := z4_tr (z4_rf) (cR_need_z4 t1 ((1 : Int32)) (by decide) _ _ hs2)
  exact YV h (f1)
theorem cR_sign_73_z4 (l1 : Int32) (l3 : Int32) (t0 : Int32) (s : ts) (r : ts) (h : cR_sign_73 l1 l3 t0 s = some r) : z4 s r := by
  unfold cR_sign_73 at h
  refine FI h (fun h => ?_) (fun h => ?_)
  · refine FI h (fun h => ?_) (fun h => ?_)
    · refine FI h (fun h => ?_) (fun h => ?_)
      · exact z4_tr (z4_wI (z4_rf) rfl) (cR_sign_265_z4 ((1 : Int32)) _ _ h)
      · refine FI h (fun h => ?_) (fun h => ?_)
        · exact z4_tr (z4_wI (z4_rf) rfl) (cR_sign_265_z4 ((1 : Int32)) _ _ h)
        · refine FI h (fun h => ?_) (fun h => ?_)
          · exact z4_tr (z4_wI (z4_rf) rfl) (cR_sign_265_z4 ((1 : Int32)) _ _ h)
          · refine FI h (fun h => ?_) (fun h => ?_)
            · exact z4_tr (z4_wI (z4_rf) rfl) (cR_sign_265_z4 ((1 : Int32)) _ _ h)
            · refine FI h (fun h => ?_) (fun h => ?_)
              · exact z4_tr (z4_wI (z4_rf) rfl) (cR_sign_265_z4 ((1 : Int32)) _ _ h)
              · refine FI h (fun h => ?_) (fun h => ?_)
                · exact z4_tr (z4_wI (z4_rf) rfl) (cR_sign_265_z4 ((1 : Int32)) _ _ h)
                · refine FI h (fun h => ?_) (fun h => ?_)
                  · exact z4_tr (z4_wI (z4_rf) rfl) (cR_sign_265_z4 ((1 : Int32)) _ _ h)
                  · refine FI h (fun h => ?_) (fun h => ?_)
                    · exact z4_tr (z4_wI (z4_rf) rfl) (cR_sign_265_z4 ((1 : Int32)) _ _ h)
                    · refine FI h (fun h => ?_) (fun h => ?_)
                      · exact z4_tr (z4_wI (z4_rf) rfl) (cR_sign_265_z4 ((1 : Int32)) _ _ h)
                      · refine FI h (fun h => ?_) (fun h => ?_)
                        · exact z4_tr (z4_wI (z4_rf) rfl) (cR_sign_265_z4 ((1 : Int32)) _ _ h)
                        · refine FI h (fun h => ?_) (fun h => ?_)
                          · exact z4_tr (z4_wI (z4_rf) rfl) (cR_sign_265_z4 ((1 : Int32)) _ _ h)
                          · refine FI h (fun h => ?_) (fun h => ?_)
                            · exact z4_tr (z4_wI (z4_rf) rfl) (cR_sign_265_z4 ((1 : Int32)) _ _ h)
                            · refine FI h (fun h => ?_) (fun h => ?_)
                              · exact z4_tr (z4_wI (z4_rf) rfl) (cR_sign_265_z4 ((1 : Int32)) _ _ h)
                              · refine FI h (fun h => ?_) (fun h => ?_)
                                · exact z4_tr (z4_wI (z4_rf) rfl) (cR_sign_265_z4 ((1 : Int32)) _ _ h)
                                · refine FI h (fun h => ?_) (fun h => ?_)
                                  · exact z4_tr (z4_wI (z4_rf) rfl) (cR_sign_265_z4 ((1 : Int32)) _ _ h)
                                  · exact z4_tr (z4_wI (z4_rf) rfl) (cR_sign_265_z4 ((0 : Int32)) _ _ h)
    · exact z4_tr (z4_rf) (cR_sign_84_z4 l1 _ _ h)
  · exact z4_tr (z4_rf) (cR_sign_84_z4 l1 _ _ h)
theorem cR_sign_50_z4 (l1 : Int32) (l2 : Int32) (t0 : Int32) (s : ts) (r : ts) (h : cR_sign_50 l1 l2 t0 s = some r) : z4 s r := by
  unfold cR_sign_50 at h
  refine FI h (fun h => ?_) (fun h => ?_)
  · refine FI h (fun h => ?_) (fun h => ?_)
    · exact z4_tr (z4_rf) (cR_sign_73_z4 l1 t0 ((1 : Int32)) _ _ h)
    · refine FI h (fun h => ?_) (fun h => ?_)
      · exact z4_tr (z4_rf) (cR_sign_73_z4 l1 t0 ((1 : Int32)) _ _ h)
      · exact z4_tr (z4_rf) (cR_sign_73_z4 l1 t0 ((0 : Int32)) _ _ h)
  · exact z4_tr (z4_rf) (cR_sign_73_z4 l1 t0 ((0 : Int32)) _ _ h)
theorem cR_sign_z4 (l1 : Int32) (s : ts) (r : ts) (h : cR_sign l1 s = some r) : z4 s r := by
  unfold cR_sign at h
  obtain ⟨x3, hx3, h⟩ := FB h
  have f1 := z4_tr (z4_wI (z4_rf) rfl) (z4_fr rfl rfl (cR_peek_fr _ _ hx3))
  refine FI h (fun h => ?_) (fun h => ?_)
  · refine FI h (fun h => ?_) (fun h => ?_)
    · exact z4_tr (f1) (cR_sign_50_z4 l1 x3.1 ((1 : Int32)) _ _ h)
    · refine FI h (fun h => ?_) (fun h => ?_)
      · exact z4_tr (f1) (cR_sign_50_z4 l1 x3.1 ((1 : Int32)) _ _ h)
      · refine FI h (fun h => ?_) (fun h => ?_)
        · exact z4_tr (f1) (cR_sign_50_z4 l1 x3.1 ((1 : Int32)) _ _ h)
        · refine FI h (fun h => ?_) (fun h => ?_)
          · exact z4_tr (f1) (cR_sign_50_z4 l1 x3.1 ((1 : Int32)) _ _ h)
          · exact z4_tr (f1) (cR_sign_50_z4 l1 x3.1 ((0 : Int32)) _ _ h)
  · exact z4_tr (f1) (cR_sign_50_z4 l1 x3.1 ((0 : Int32)) _ _ h)
theorem cR_next_244_z4 (t1 : Int32) (s : ts) (r : ts) (h : cR_next_244 t1 s = some r) : z4 s r := by
  unfold cR_next_244 at h
  obtain ⟨s2, hs2, h⟩ := FB h
  have f1 := z4_tr (z4_rf) (cR_need_z4 t1 ((1 : Int32)) (by decide) _ _ hs2)
  exact YV h (f1)
theorem cR_next_169_b_z4 (kk : Int32 → ts → Option (ts)) (hkk : ∀ (a0 : Int32) (s : ts) (r : ts), kk a0 s = some r → z4 s r) (l2 : Int32) (s : ts) (r : ts) (h : cR_next_169_b kk l2 s = some r) : z4 s r := by
  unfold cR_next_169_b at h
  obtain ⟨x3, hx3, h⟩ := FB h
  have f1 := z4_tr (z4_rf) (z4_fr rfl rfl (cR_peek_fr _ _ hx3))
  obtain ⟨x6, hx6, h⟩ := FB h
  have f2 := z4_tr (f1) (z4_fr rfl rfl (cR_isDigit_fr x3.1 _ _ hx6))
  refine FI h (fun h => ?_) (fun h => ?_)
  · refine FI h (fun h => ?_) (fun h => ?_)
    · exact z4_tr (z4_wI (f2) rfl) (cR_next_244_z4 ((0 : Int32)) _ _ h)
    · exact z4_tr (z4_wI (f2) rfl) (cR_next_244_z4 ((1 : Int32)) _ _ h)
  · refine FI h (fun h => ?_) (fun h => ?_)
    · exact z4_tr (z4_wI (z4_wI (f2) rfl) rfl) (hkk (l2 + (1 : Int32)) _ _ h)
    · obtain ⟨x10, hx10, h⟩ := FB h
      have f3 := z4_tr (f2) (z4_fr rfl rfl (cR_peek_fr _ _ hx10))
      exact z4_tr (z4_wI (z4_wI (f3) rfl) rfl) (hkk (l2 + (1 : Int32)) _ _ h)
theorem cR_next_169_z4 : ∀ (n : Nat) (l2 : Int32) (s : ts) (r : ts), cR_next_169 n l2 s = some r → z4 s r := by
  intro n
  induction n with
  | zero => intro l2 s r h; exact FN h
  | succ n ih =>
    intro l2 s r h
    rw [cR_next_169.eq_2] at h
    exact cR_next_169_b_z4 (cR_next_169 n) ih l2 s r h
theorem cR_next_100_z4 (k80 : Int32 → ts → Option (ts)) (hk80 : ∀ (a0 : Int32) (s : ts) (r : ts), k80 a0 s = some r → z4 s r) (l2 : Int32) (s : ts) (r : ts) (h : cR_next_100 k80 l2 s = some r) : z4 s r := by
  unfold cR_next_100 at h
  obtain ⟨x3, hx3, h⟩ := FB h
  have f1 := z4_tr (z4_rf) (z4_fr rfl rfl (cR_peek_fr _ _ hx3))
  exact z4_tr (z4_wI (z4_wJ (f1) rfl) rfl) (hk80 (l2 + (1 : Int32)) _ _ h)
theorem cR_next_150_z4 (t1 : Int32) (s : ts) (r : ts) (h : cR_next_150 t1 s = some r) : z4 s r := by
  unfold cR_next_150 at h
  obtain ⟨s2, hs2, h⟩ := FB h
  have f1 := z4_tr (z4_rf) (cR_need_z4 t1 ((1 : Int32)) (by decide) _ _ hs2)
  exact YV h (f1)
theorem cR_next_80_b_z4 (kk : Int32 → ts → Option (ts)) (hkk : ∀ (a0 : Int32) (s : ts) (r : ts), kk a0 s = some r → z4 s r) (l2 : Int32) (s : ts) (r : ts) (h : cR_next_80_b kk l2 s = some r) : z4 s r := by
  unfold cR_next_80_b at h
  obtain ⟨x3, hx3, h⟩ := FB h
  have f1 := z4_tr (z4_rf) (z4_fr rfl rfl (cR_peek_fr _ _ hx3))
  obtain ⟨x6, hx6, h⟩ := FB h
  have f2 := z4_tr (f1) (z4_fr rfl rfl (cR_isLetter_fr x3.1 _ _ hx6))
  refine FI h (fun h => ?_) (fun h => ?_)
  · obtain ⟨x9, hx9, h⟩ := FB h
    have f3 := z4_tr (f2) (z4_fr rfl rfl (cR_peek_fr _ _ hx9))
    obtain ⟨x12, hx12, h⟩ := FB h
    have f4 := z4_tr (f3) (z4_fr rfl rfl (cR_isDigit_fr x9.1 _ _ hx12))
    refine FI h (fun h => ?_) (fun h => ?_)
    · refine FI h (fun h => ?_) (fun h => ?_)
      · exact z4_tr (z4_wI (f4) rfl) (cR_next_150_z4 ((0 : Int32)) _ _ h)
      · exact z4_tr (z4_wI (f4) rfl) (cR_next_150_z4 ((1 : Int32)) _ _ h)
    · exact z4_tr (f4) (cR_next_100_z4 kk hkk l2 _ _ h)
  · exact z4_tr (f2) (cR_next_100_z4 kk hkk l2 _ _ h)
theorem cR_next_80_z4 : ∀ (n : Nat) (l2 : Int32) (s : ts) (r : ts), cR_next_80 n l2 s = some r → z4 s r := by
  intro n
  induction n with
  | zero => intro l2 s r h; exact FN h
  | succ n ih =>
    intro l2 s r h
    rw [cR_next_80.eq_2] at h
    exact cR_next_80_b_z4 (cR_next_80 n) ih l2 s r h
theorem cR_next_36_z4 (s : ts) (r : ts) (h : cR_next_36 s = some r) : z4 s r := by
  unfold cR_next_36 at h
  obtain ⟨s2, hs2, h⟩ := FB h
  have f1 := z4_tr (z4_rf) (z4_fr rfl rfl (cR_skip_fr _ _ hs2))
  obtain ⟨x6, hx6, h⟩ := FB h
  have f2 := z4_tr (z4_wI (f1) rfl) (z4_fr rfl rfl (cR_peek_fr _ _ hx6))
  refine FI h (fun h => ?_) (fun h => ?_)
  · exact YV h (z4_wI (f2) rfl)
  · obtain ⟨x9, hx9, h⟩ := FB h
    have f3 := z4_tr (f2) (z4_fr rfl rfl (cR_isLetter_fr x6.1 _ _ hx9))
    refine FI h (fun h => ?_) (fun h => ?_)
    · obtain ⟨x12, hx12, h⟩ := FB h
      have f4 := z4_tr (f3) (z4_fr rfl rfl (cR_isDigit_fr x6.1 _ _ hx12))
      refine FI h (fun h => ?_) (fun h => ?_)
      · obtain ⟨s14, hs14, h⟩ := FB h
        have f5 := z4_tr (f4) (cR_sign_z4 x6.1 _ _ hs14)
        exact YV h (f5)
      · exact z4_tr (z4_wI (f4) rfl) (cR_next_169_z4 tm_N ((0 : Int32)) _ _ h)
    · exact z4_tr (z4_wJ (f3) rfl) (cR_next_80_z4 tm_N ((0 : Int32)) _ _ h)
theorem cR_next_z4 (s : ts) (r : ts) (h : cR_next s = some r) : z4 s r := by
  unfold cR_next at h
  obtain ⟨x3, hx3, h⟩ := FB h
  have f1 := z4_tr (z4_rf) (z4_fr rfl rfl (cR_good_fr _ _ hx3))
  refine FI h (fun h => ?_) (fun h => ?_)
  · exact YV h (f1)
  · refine FI h (fun h => ?_) (fun h => ?_)
    · obtain ⟨x6, hx6, h⟩ := FB h
      have f2 := z4_tr (f1) (z4_fr rfl rfl (cR_peek_fr _ _ hx6))
      obtain ⟨x9, hx9, h⟩ := FB h
      have f3 := z4_tr (f2) (z4_fr rfl rfl (cR_isLetter_fr x6.1 _ _ hx9))
      refine FI h (fun h => ?_) (fun h => ?_)
      · exact z4_tr (f3) (cR_next_36_z4 _ _ h)
      · obtain ⟨s11, hs11, h⟩ := FB h
        have f4 := z4_tr (f3) (cR_fail_z4 ((1 : Int32)) (gI x9.2 1105 0) (by decide) _ _ hs11)
        exact YV h (f4)
    · exact z4_tr (f1) (cR_next_36_z4 _ _ h)
theorem cR_freshName_123_z4 (t1 : Int32) (s : ts) (r : ts) (h : cR_freshName_123 t1 s = some r) : z4 s r := by
  unfold cR_freshName_123 at h
  obtain ⟨s2, hs2, h⟩ := FB h
  have f1 := z4_tr (z4_rf) (cR_need_z4 t1 ((3 : Int32)) (by decide) _ _ hs2)
  exact YV h (f1)
theorem cR_freshName_104_z4 (t0 : Int32) (s : ts) (r : ts) (h : cR_freshName_104 t0 s = some r) : z4 s r := by
  unfold cR_freshName_104 at h
  obtain ⟨x3, hx3, h⟩ := FB h
  have f1 := z4_tr (z4_rf) (z4_fr rfl rfl (cR_reserved_fr _ _ hx3))
  refine FI h (fun h => ?_) (fun h => ?_)
  · refine FI h (fun h => ?_) (fun h => ?_)
    · exact z4_tr (f1) (cR_freshName_123_z4 ((1 : Int32)) _ _ h)
    · exact z4_tr (f1) (cR_freshName_123_z4 ((0 : Int32)) _ _ h)
  · exact z4_tr (f1) (cR_freshName_123_z4 ((0 : Int32)) _ _ h)
theorem cR_freshName_25_z4 (l1 : Int32) (s : ts) (r : ts) (h : cR_freshName_25 l1 s = some r) : z4 s r := by
  unfold cR_freshName_25 at h
  obtain ⟨x3, hx3, h⟩ := FB h
  have f1 := z4_tr (z4_rf) (z4_fr rfl rfl (cR_good_fr _ _ hx3))
  refine FI h (fun h => ?_) (fun h => ?_)
  · exact YV h (f1)
  · obtain ⟨x6, hx6, h⟩ := FB h
    have f2 := z4_tr (f1) (z4_fr rfl rfl (cR_findResource_fr (gJ x3.2 1108 0) _ _ hx6))
    refine FI h (fun h => ?_) (fun h => ?_)
    · obtain ⟨x9, hx9, h⟩ := FB h
      have f3 := z4_tr (f2) (z4_fr rfl rfl (cR_findStore_fr (gJ x6.2 1108 0) _ _ hx9))
      refine FI h (fun h => ?_) (fun h => ?_)
      · obtain ⟨x12, hx12, h⟩ := FB h
        have f4 := z4_tr (f3) (z4_fr rfl rfl (cR_findDefinition_fr (gJ x9.2 1108 0) _ _ hx12))
        refine FI h (fun h => ?_) (fun h => ?_)
        · refine FI h (fun h => ?_) (fun h => ?_)
          · obtain ⟨x15, hx15, h⟩ := FB h
            have f5 := z4_tr (f4) (z4_fr rfl rfl (cR_findNumber_fr (gJ x12.2 1108 0) _ _ hx15))
            refine FI h (fun h => ?_) (fun h => ?_)
            · exact z4_tr (f5) (cR_freshName_104_z4 ((0 : Int32)) _ _ h)
            · exact z4_tr (f5) (cR_freshName_104_z4 ((1 : Int32)) _ _ h)
          · obtain ⟨x19, hx19, h⟩ := FB h
            have f6 := z4_tr (f4) (z4_fr rfl rfl (cR_findLocal_fr (gJ x12.2 1108 0) _ _ hx19))
            refine FI h (fun h => ?_) (fun h => ?_)
            · exact z4_tr (f6) (cR_freshName_104_z4 ((0 : Int32)) _ _ h)
            · exact z4_tr (f6) (cR_freshName_104_z4 ((1 : Int32)) _ _ h)
        · exact z4_tr (f4) (cR_freshName_104_z4 ((1 : Int32)) _ _ h)
      · exact z4_tr (f3) (cR_freshName_104_z4 ((1 : Int32)) _ _ h)
    · exact z4_tr (f2) (cR_freshName_104_z4 ((1 : Int32)) _ _ h)
theorem cR_freshName_21_z4 (l1 : Int32) (t1 : Int32) (s : ts) (r : ts) (h : cR_freshName_21 l1 t1 s = some r) : z4 s r := by
  unfold cR_freshName_21 at h
  obtain ⟨s2, hs2, h⟩ := FB h
  have f1 := z4_tr (z4_rf) (cR_need_z4 t1 ((2 : Int32)) (by decide) _ _ hs2)
  exact z4_tr (f1) (cR_freshName_25_z4 l1 _ _ h)
theorem cR_freshName_z4 (l1 : Int32) (s : ts) (r : ts) (h : cR_freshName l1 s = some r) : z4 s r := by
  unfold cR_freshName at h
  obtain ⟨x3, hx3, h⟩ := FB h
  have f1 := z4_tr (z4_rf) (z4_fr rfl rfl (cR_good_fr _ _ hx3))
  refine FI h (fun h => ?_) (fun h => ?_)
  · exact z4_tr (f1) (cR_freshName_25_z4 l1 _ _ h)
  · refine FI h (fun h => ?_) (fun h => ?_)
    · exact z4_tr (f1) (cR_freshName_21_z4 l1 ((1 : Int32)) _ _ h)
    · exact z4_tr (f1) (cR_freshName_21_z4 l1 ((0 : Int32)) _ _ h)
theorem cR_limit_z4 (l1 : Int32) (s : ts) (r : ts) (h : cR_limit l1 s = some r) : z4 s r := by
  unfold cR_limit at h
  obtain ⟨x3, hx3, h⟩ := FB h
  have f1 := z4_tr (z4_rf) (z4_fr rfl rfl (cR_good_fr _ _ hx3))
  refine FI h (fun h => ?_) (fun h => ?_)
  · exact YV h (f1)
  · obtain ⟨s5, hs5, h⟩ := FB h
    have f2 := z4_tr (f1) (cR_need_z4 l1 ((5 : Int32)) (by decide) _ _ hs5)
    exact YV h (f2)
theorem cR_must_25_z4 (s : ts) (r : ts) (h : cR_must_25 s = some r) : z4 s r := by
  unfold cR_must_25 at h
  obtain ⟨s2, hs2, h⟩ := FB h
  have f1 := z4_tr (z4_rf) (cR_next_z4 _ _ hs2)
  exact YV h (f1)
theorem cR_must_21_z4 (t1 : Int32) (s : ts) (r : ts) (h : cR_must_21 t1 s = some r) : z4 s r := by
  unfold cR_must_21 at h
  obtain ⟨s2, hs2, h⟩ := FB h
  have f1 := z4_tr (z4_rf) (cR_need_z4 t1 ((2 : Int32)) (by decide) _ _ hs2)
  exact z4_tr (f1) (cR_must_25_z4 _ _ h)
theorem cR_must_z4 (l1 : Int32) (s : ts) (r : ts) (h : cR_must l1 s = some r) : z4 s r := by
  unfold cR_must at h
  obtain ⟨x3, hx3, h⟩ := FB h
  have f1 := z4_tr (z4_rf) (z4_fr rfl rfl (cR_good_fr _ _ hx3))
  refine FI h (fun h => ?_) (fun h => ?_)
  · exact z4_tr (f1) (cR_must_25_z4 _ _ h)
  · refine FI h (fun h => ?_) (fun h => ?_)
    · exact z4_tr (f1) (cR_must_21_z4 ((1 : Int32)) _ _ h)
    · exact z4_tr (f1) (cR_must_21_z4 ((0 : Int32)) _ _ h)
theorem cR_takeResource_127_z4 (s : ts) (r : ts) (h : cR_takeResource_127 s = some r) : z4 s r := by
  unfold cR_takeResource_127 at h
  obtain ⟨s2, hs2, h⟩ := FB h
  have f1 := z4_tr (z4_rf) (cR_next_z4 _ _ hs2)
  obtain ⟨s5, hs5, h⟩ := FB h
  have f2 := z4_tr (f1) (cR_must_z4 ((59 : Int32)) _ _ hs5)
  exact YV h (f2)
theorem cR_takeResource_84_z4 (l1 : Int64) (t1 : Int32) (s : ts) (r : ts) (h : cR_takeResource_84 l1 t1 s = some r) : z4 s r := by
  unfold cR_takeResource_84 at h
  obtain ⟨s2, hs2, h⟩ := FB h
  have f1 := z4_tr (z4_rf) (cR_limit_z4 t1 _ _ hs2)
  obtain ⟨x6, hx6, h⟩ := FB h
  have f2 := z4_tr (f1) (z4_fr rfl rfl (cR_good_fr _ _ hx6))
  refine FI h (fun h => ?_) (fun h => ?_)
  · exact z4_tr (f2) (cR_takeResource_127_z4 _ _ h)
  · replace h := FG h
    replace h := FG h
    exact z4_tr (z4_wI (z4_wA (z4_wB (f2) rfl) rfl) rfl) (cR_takeResource_127_z4 _ _ h)
theorem cR_takeResource_61_z4 (l1 : Int64) (s : ts) (r : ts) (h : cR_takeResource_61 l1 s = some r) : z4 s r := by
  unfold cR_takeResource_61 at h
  refine FI h (fun h => ?_) (fun h => ?_)
  · exact z4_tr (z4_rf) (cR_takeResource_84_z4 l1 ((0 : Int32)) _ _ h)
  · refine FI h (fun h => ?_) (fun h => ?_)
    · exact z4_tr (z4_rf) (cR_takeResource_84_z4 l1 ((0 : Int32)) _ _ h)
    · exact z4_tr (z4_rf) (cR_takeResource_84_z4 l1 ((1 : Int32)) _ _ h)
theorem cR_takeResource_57_z4 (l1 : Int64) (t1 : Int32) (s : ts) (r : ts) (h : cR_takeResource_57 l1 t1 s = some r) : z4 s r := by
  unfold cR_takeResource_57 at h
  obtain ⟨s2, hs2, h⟩ := FB h
  have f1 := z4_tr (z4_rf) (cR_need_z4 t1 ((2 : Int32)) (by decide) _ _ hs2)
  exact z4_tr (f1) (cR_takeResource_61_z4 l1 _ _ h)
theorem cR_takeResource_24_z4 (t1 : Int32) (s : ts) (r : ts) (h : cR_takeResource_24 t1 s = some r) : z4 s r := by
  unfold cR_takeResource_24 at h
  obtain ⟨s2, hs2, h⟩ := FB h
  have f1 := z4_tr (z4_rf) (cR_limit_z4 t1 _ _ hs2)
  obtain ⟨s5, hs5, h⟩ := FB h
  have f2 := z4_tr (f1) (cR_next_z4 _ _ hs5)
  obtain ⟨x9, hx9, h⟩ := FB h
  have f3 := z4_tr (f2) (z4_fr rfl rfl (cR_good_fr _ _ hx9))
  refine FI h (fun h => ?_) (fun h => ?_)
  · exact z4_tr (f3) (cR_takeResource_61_z4 (gJ s2 1108 0) _ _ h)
  · refine FI h (fun h => ?_) (fun h => ?_)
    · exact z4_tr (f3) (cR_takeResource_57_z4 (gJ s2 1108 0) ((1 : Int32)) _ _ h)
    · exact z4_tr (f3) (cR_takeResource_57_z4 (gJ s2 1108 0) ((0 : Int32)) _ _ h)
theorem cR_takeResource_z4 (s : ts) (r : ts) (h : cR_takeResource s = some r) : z4 s r := by
  unfold cR_takeResource at h
  obtain ⟨s2, hs2, h⟩ := FB h
  have f1 := z4_tr (z4_rf) (cR_next_z4 _ _ hs2)
  obtain ⟨s5, hs5, h⟩ := FB h
  have f2 := z4_tr (f1) (cR_freshName_z4 ((0 : Int32)) _ _ hs5)
  refine FI h (fun h => ?_) (fun h => ?_)
  · exact z4_tr (f2) (cR_takeResource_24_z4 ((0 : Int32)) _ _ h)
  · exact z4_tr (f2) (cR_takeResource_24_z4 ((1 : Int32)) _ _ h)
theorem cR_takeStore_198_z4 (s : ts) (r : ts) (h : cR_takeStore_198 s = some r) : z4 s r := by
  unfold cR_takeStore_198 at h
  obtain ⟨s2, hs2, h⟩ := FB h
  have f1 := z4_tr (z4_rf) (cR_next_z4 _ _ hs2)
  obtain ⟨s5, hs5, h⟩ := FB h
  have f2 := z4_tr (f1) (cR_must_z4 ((59 : Int32)) _ _ hs5)
  exact YV h (f2)
theorem cR_takeStore_145_z4 (l1 : Int64) (l3 : Int32) (t1 : Int32) (s : ts) (r : ts) (h : cR_takeStore_145 l1 l3 t1 s = some r) : z4 s r := by
  unfold cR_takeStore_145 at h
  obtain ⟨s2, hs2, h⟩ := FB h
  have f1 := z4_tr (z4_rf) (cR_limit_z4 t1 _ _ hs2)
  obtain ⟨x6, hx6, h⟩ := FB h
  have f2 := z4_tr (f1) (z4_fr rfl rfl (cR_good_fr _ _ hx6))
  refine FI h (fun h => ?_) (fun h => ?_)
  · exact z4_tr (f2) (cR_takeStore_198_z4 _ _ h)
  · replace h := FG h
    replace h := FG h
    replace h := FG h
    exact z4_tr (z4_wI (z4_wA (z4_wA (z4_wB (f2) rfl) rfl) rfl) rfl) (cR_takeStore_198_z4 _ _ h)
theorem cR_takeStore_114_z4 (l1 : Int64) (l3 : Int32) (s : ts) (r : ts) (h : cR_takeStore_114 l1 l3 s = some r) : z4 s r := by
  unfold cR_takeStore_114 at h
  refine FI h (fun h => ?_) (fun h => ?_)
  · exact z4_tr (z4_rf) (cR_takeStore_145_z4 l1 l3 ((0 : Int32)) _ _ h)
  · refine FI h (fun h => ?_) (fun h => ?_)
    · exact z4_tr (z4_rf) (cR_takeStore_145_z4 l1 l3 ((0 : Int32)) _ _ h)
    · refine FI h (fun h => ?_) (fun h => ?_)
      · exact z4_tr (z4_rf) (cR_takeStore_145_z4 l1 l3 ((0 : Int32)) _ _ h)
      · exact z4_tr (z4_rf) (cR_takeStore_145_z4 l1 l3 ((1 : Int32)) _ _ h)
theorem cR_takeStore_110_z4 (l1 : Int64) (l3 : Int32) (t1 : Int32) (s : ts) (r : ts) (h : cR_takeStore_110 l1 l3 t1 s = some r) : z4 s r := by
  unfold cR_takeStore_110 at h
  obtain ⟨s2, hs2, h⟩ := FB h
  have f1 := z4_tr (z4_rf) (cR_need_z4 t1 ((2 : Int32)) (by decide) _ _ hs2)
  exact z4_tr (f1) (cR_takeStore_114_z4 l1 l3 _ _ h)
theorem cR_takeStore_77_z4 (l1 : Int64) (t1 : Int32) (s : ts) (r : ts) (h : cR_takeStore_77 l1 t1 s = some r) : z4 s r := by
  unfold cR_takeStore_77 at h
  obtain ⟨s2, hs2, h⟩ := FB h
  have f1 := z4_tr (z4_rf) (cR_limit_z4 t1 _ _ hs2)
  obtain ⟨s5, hs5, h⟩ := FB h
  have f2 := z4_tr (f1) (cR_next_z4 _ _ hs5)
  obtain ⟨x9, hx9, h⟩ := FB h
  have f3 := z4_tr (f2) (z4_fr rfl rfl (cR_good_fr _ _ hx9))
  refine FI h (fun h => ?_) (fun h => ?_)
  · exact z4_tr (f3) (cR_takeStore_114_z4 l1 (gI s2 1109 0) _ _ h)
  · refine FI h (fun h => ?_) (fun h => ?_)
    · exact z4_tr (f3) (cR_takeStore_110_z4 l1 (gI s2 1109 0) ((1 : Int32)) _ _ h)
    · exact z4_tr (f3) (cR_takeStore_110_z4 l1 (gI s2 1109 0) ((0 : Int32)) _ _ h)
theorem cR_takeStore_61_z4 (l1 : Int64) (s : ts) (r : ts) (h : cR_takeStore_61 l1 s = some r) : z4 s r := by
  unfold cR_takeStore_61 at h
  refine FI h (fun h => ?_) (fun h => ?_)
  · exact z4_tr (z4_rf) (cR_takeStore_77_z4 l1 ((0 : Int32)) _ _ h)
  · exact z4_tr (z4_rf) (cR_takeStore_77_z4 l1 ((1 : Int32)) _ _ h)
theorem cR_takeStore_57_z4 (l1 : Int64) (t1 : Int32) (s : ts) (r : ts) (h : cR_takeStore_57 l1 t1 s = some r) : z4 s r := by
  unfold cR_takeStore_57 at h
  obtain ⟨s2, hs2, h⟩ := FB h
  have f1 := z4_tr (z4_rf) (cR_need_z4 t1 ((2 : Int32)) (by decide) _ _ hs2)
  exact z4_tr (f1) (cR_takeStore_61_z4 l1 _ _ h)
theorem cR_takeStore_24_z4 (t1 : Int32) (s : ts) (r : ts) (h : cR_takeStore_24 t1 s = some r) : z4 s r := by
  unfold cR_takeStore_24 at h
  obtain ⟨s2, hs2, h⟩ := FB h
  have f1 := z4_tr (z4_rf) (cR_limit_z4 t1 _ _ hs2)
  obtain ⟨s5, hs5, h⟩ := FB h
  have f2 := z4_tr (f1) (cR_next_z4 _ _ hs5)
  obtain ⟨x9, hx9, h⟩ := FB h
  have f3 := z4_tr (f2) (z4_fr rfl rfl (cR_good_fr _ _ hx9))
  refine FI h (fun h => ?_) (fun h => ?_)
  · exact z4_tr (f3) (cR_takeStore_61_z4 (gJ s2 1108 0) _ _ h)
  · refine FI h (fun h => ?_) (fun h => ?_)
    · exact z4_tr (f3) (cR_takeStore_57_z4 (gJ s2 1108 0) ((1 : Int32)) _ _ h)
    · exact z4_tr (f3) (cR_takeStore_57_z4 (gJ s2 1108 0) ((0 : Int32)) _ _ h)
theorem cR_takeStore_z4 (s : ts) (r : ts) (h : cR_takeStore s = some r) : z4 s r := by
  unfold cR_takeStore at h
  obtain ⟨s2, hs2, h⟩ := FB h
  have f1 := z4_tr (z4_rf) (cR_next_z4 _ _ hs2)
  obtain ⟨s5, hs5, h⟩ := FB h
  have f2 := z4_tr (f1) (cR_freshName_z4 ((0 : Int32)) _ _ hs5)
  refine FI h (fun h => ?_) (fun h => ?_)
  · exact z4_tr (f2) (cR_takeStore_24_z4 ((0 : Int32)) _ _ h)
  · exact z4_tr (f2) (cR_takeStore_24_z4 ((1 : Int32)) _ _ h)
theorem cR_takeNumbers_100_z4 (s : ts) (r : ts) (h : cR_takeNumbers_100 s = some r) : z4 s r := by
  unfold cR_takeNumbers_100 at h
  obtain ⟨s2, hs2, h⟩ := FB h
  have f1 := z4_tr (z4_rf) (cR_must_z4 ((59 : Int32)) _ _ hs2)
  exact YV h (f1)
theorem cR_takeNumbers_88_z4 (k6 : Int32 → ts → Option (ts)) (hk6 : ∀ (a0 : Int32) (s : ts) (r : ts), k6 a0 s = some r → z4 s r) (t0 : Int32) (s : ts) (r : ts) (h : cR_takeNumbers_88 k6 t0 s = some r) : z4 s r := by
  unfold cR_takeNumbers_88 at h
  refine FI h (fun h => ?_) (fun h => ?_)
  · exact z4_tr (z4_rf) (hk6 t0 _ _ h)
  · obtain ⟨s2, hs2, h⟩ := FB h
    have f1 := z4_tr (z4_rf) (cR_next_z4 _ _ hs2)
    exact z4_tr (f1) (hk6 t0 _ _ h)
theorem cR_takeNumbers_70_z4 (k6 : Int32 → ts → Option (ts)) (hk6 : ∀ (a0 : Int32) (s : ts) (r : ts), k6 a0 s = some r → z4 s r) (s : ts) (r : ts) (h : cR_takeNumbers_70 k6 s = some r) : z4 s r := by
  unfold cR_takeNumbers_70 at h
  obtain ⟨s2, hs2, h⟩ := FB h
  have f1 := z4_tr (z4_rf) (cR_next_z4 _ _ hs2)
  refine FI h (fun h => ?_) (fun h => ?_)
  · exact z4_tr (f1) (cR_takeNumbers_88_z4 k6 hk6 ((1 : Int32)) _ _ h)
  · exact z4_tr (f1) (cR_takeNumbers_88_z4 k6 hk6 ((0 : Int32)) _ _ h)
theorem cR_takeNumbers_37_z4 (k6 : Int32 → ts → Option (ts)) (hk6 : ∀ (a0 : Int32) (s : ts) (r : ts), k6 a0 s = some r → z4 s r) (t1 : Int32) (s : ts) (r : ts) (h : cR_takeNumbers_37 k6 t1 s = some r) : z4 s r := by
  unfold cR_takeNumbers_37 at h
  obtain ⟨s2, hs2, h⟩ := FB h
  have f1 := z4_tr (z4_rf) (cR_limit_z4 t1 _ _ hs2)
  obtain ⟨x6, hx6, h⟩ := FB h
  have f2 := z4_tr (f1) (z4_fr rfl rfl (cR_good_fr _ _ hx6))
  refine FI h (fun h => ?_) (fun h => ?_)
  · exact z4_tr (f2) (cR_takeNumbers_70_z4 k6 hk6 _ _ h)
  · replace h := FG h
    exact z4_tr (z4_wI (z4_wB (f2) rfl) rfl) (cR_takeNumbers_70_z4 k6 hk6 _ _ h)
theorem cR_takeNumbers_6_b_z4 (kk : Int32 → ts → Option (ts)) (hkk : ∀ (a0 : Int32) (s : ts) (r : ts), kk a0 s = some r → z4 s r) (l1 : Int32) (s : ts) (r : ts) (h : cR_takeNumbers_6_b kk l1 s = some r) : z4 s r := by
  unfold cR_takeNumbers_6_b at h
  refine FI h (fun h => ?_) (fun h => ?_)
  · exact z4_tr (z4_rf) (cR_takeNumbers_100_z4 _ _ h)
  · obtain ⟨x3, hx3, h⟩ := FB h
    have f1 := z4_tr (z4_rf) (z4_fr rfl rfl (cR_good_fr _ _ hx3))
    refine FI h (fun h => ?_) (fun h => ?_)
    · exact z4_tr (f1) (cR_takeNumbers_100_z4 _ _ h)
    · obtain ⟨s5, hs5, h⟩ := FB h
      have f2 := z4_tr (f1) (cR_freshName_z4 ((0 : Int32)) _ _ hs5)
      refine FI h (fun h => ?_) (fun h => ?_)
      · exact z4_tr (f2) (cR_takeNumbers_37_z4 kk hkk ((0 : Int32)) _ _ h)
      · exact z4_tr (f2) (cR_takeNumbers_37_z4 kk hkk ((1 : Int32)) _ _ h)
theorem cR_takeNumbers_6_z4 : ∀ (n : Nat) (l1 : Int32) (s : ts) (r : ts), cR_takeNumbers_6 n l1 s = some r → z4 s r := by
  intro n
  induction n with
  | zero => intro l1 s r h; exact FN h
  | succ n ih =>
    intro l1 s r h
    rw [cR_takeNumbers_6.eq_2] at h
    exact cR_takeNumbers_6_b_z4 (cR_takeNumbers_6 n) ih l1 s r h
theorem cR_takeNumbers_z4 (s : ts) (r : ts) (h : cR_takeNumbers s = some r) : z4 s r := by
  unfold cR_takeNumbers at h
  obtain ⟨s2, hs2, h⟩ := FB h
  have f1 := z4_tr (z4_rf) (cR_next_z4 _ _ hs2)
  exact z4_tr (f1) (cR_takeNumbers_6_z4 tm_N ((1 : Int32)) _ _ h)
theorem cR_takeLocal_20_z4 (t1 : Int32) (s : ts) (r : ts) (h : cR_takeLocal_20 t1 s = some r) : z4 s r := by
  unfold cR_takeLocal_20 at h
  obtain ⟨s2, hs2, h⟩ := FB h
  have f1 := z4_tr (z4_rf) (cR_limit_z4 t1 _ _ hs2)
  exact YV h (f1)
theorem cR_takeLocal_z4 (s : ts) (r : ts) (h : cR_takeLocal s = some r) : z4 s r := by
  unfold cR_takeLocal at h
  obtain ⟨s2, hs2, h⟩ := FB h
  have f1 := z4_tr (z4_rf) (cR_freshName_z4 ((1 : Int32)) _ _ hs2)
  refine FI h (fun h => ?_) (fun h => ?_)
  · exact z4_tr (f1) (cR_takeLocal_20_z4 ((0 : Int32)) _ _ h)
  · exact z4_tr (f1) (cR_takeLocal_20_z4 ((1 : Int32)) _ _ h)
theorem cR_beginBlock_41_z4 (l1 : Int32) (l2 : Int32) (t1 : Int32) (s : ts) (r : ts) (h : cR_beginBlock_41 l1 l2 t1 s = some r) : z4 s r := by
  unfold cR_beginBlock_41 at h
  obtain ⟨s2, hs2, h⟩ := FB h
  have f1 := z4_tr (z4_rf) (cR_limit_z4 t1 _ _ hs2)
  obtain ⟨x6, hx6, h⟩ := FB h
  have f2 := z4_tr (f1) (z4_fr rfl rfl (cR_good_fr _ _ hx6))
  refine FI h (fun h => ?_) (fun h => ?_)
  · exact YV h (f2)
  · replace h := FG h
    replace h := FG h
    obtain ⟨s10, hs10, h⟩ := FB h
    have f3 := z4_tr (z4_wI (z4_wA (z4_wA (f2) rfl) rfl) rfl) (cR_next_z4 _ _ hs10)
    exact YV h (f3)
theorem cR_beginBlock_26_z4 (l1 : Int32) (l2 : Int32) (s : ts) (r : ts) (h : cR_beginBlock_26 l1 l2 s = some r) : z4 s r := by
  unfold cR_beginBlock_26 at h
  refine FI h (fun h => ?_) (fun h => ?_)
  · exact z4_tr (z4_rf) (cR_beginBlock_41_z4 l1 l2 ((0 : Int32)) _ _ h)
  · exact z4_tr (z4_rf) (cR_beginBlock_41_z4 l1 l2 ((1 : Int32)) _ _ h)
theorem cR_beginBlock_22_z4 (l1 : Int32) (l2 : Int32) (t1 : Int32) (s : ts) (r : ts) (h : cR_beginBlock_22 l1 l2 t1 s = some r) : z4 s r := by
  unfold cR_beginBlock_22 at h
  obtain ⟨s2, hs2, h⟩ := FB h
  have f1 := z4_tr (z4_rf) (cR_need_z4 t1 ((2 : Int32)) (by decide) _ _ hs2)
  exact z4_tr (f1) (cR_beginBlock_26_z4 l1 l2 _ _ h)
theorem cR_beginBlock_z4 (l1 : Int32) (l2 : Int32) (s : ts) (r : ts) (h : cR_beginBlock l1 l2 s = some r) : z4 s r := by
  unfold cR_beginBlock at h
  obtain ⟨x3, hx3, h⟩ := FB h
  have f1 := z4_tr (z4_rf) (z4_fr rfl rfl (cR_good_fr _ _ hx3))
  refine FI h (fun h => ?_) (fun h => ?_)
  · exact z4_tr (f1) (cR_beginBlock_26_z4 l1 l2 _ _ h)
  · refine FI h (fun h => ?_) (fun h => ?_)
    · exact z4_tr (f1) (cR_beginBlock_22_z4 l1 l2 ((1 : Int32)) _ _ h)
    · exact z4_tr (f1) (cR_beginBlock_22_z4 l1 l2 ((0 : Int32)) _ _ h)
theorem cR_endBlock_131_z4 (l1 : Int32) (l2 : Int32) (s : ts) (r : ts) (h : cR_endBlock_131 l1 l2 s = some r) : z4 s r := by
  unfold cR_endBlock_131 at h
  refine FI h (fun h => ?_) (fun h => ?_)
  · replace h := FG h
    exact YV h (z4_wA (z4_rf) rfl)
  · exact YV h (z4_rf)
theorem cR_endBlock_z4 (s : ts) (r : ts) (h : cR_endBlock s = some r) : z4 s r := by
  unfold cR_endBlock at h
  obtain ⟨s2, hs2, h⟩ := FB h
  have f1 := z4_tr (z4_rf) (cR_next_z4 _ _ hs2)
  replace h := FG h
  refine FI h (fun h => ?_) (fun h => ?_)
  · obtain ⟨x24, hx24, h⟩ := FB h
    have f2 := z4_tr (z4_wI (f1) rfl) (z4_fr rfl rfl (cR_line_fr ((26 : Int32)) _ _ hx24))
    replace h := FG h
    replace h := FG h
    exact YV h (z4_wA (z4_wA (f2) rfl) rfl)
  · refine FI h (fun h => ?_) (fun h => ?_)
    · replace h := FG h
      exact YV h (z4_wA (z4_wI (f1) rfl) rfl)
    · refine FI h (fun h => ?_) (fun h => ?_)
      · obtain ⟨x7, hx7, h⟩ := FB h
        have f3 := z4_tr (z4_wI (f1) rfl) (z4_fr rfl rfl (cR_reserved_fr _ _ hx7))
        refine FI h (fun h => ?_) (fun h => ?_)
        · obtain ⟨x10, hx10, h⟩ := FB h
          have f4 := z4_tr (f3) (z4_fr rfl rfl (cR_line_fr ((26 : Int32)) _ _ hx10))
          replace h := FG h
          obtain ⟨s13, hs13, h⟩ := FB h
          have f5 := z4_tr (z4_wA (f4) rfl) (cR_next_z4 _ _ hs13)
          obtain ⟨s16, hs16, h⟩ := FB h
          have f6 := z4_tr (f5) (cR_beginBlock_z4 ((6 : Int32)) x10.1 _ _ hs16)
          exact YV h (f6)
        · exact z4_tr (f3) (cR_endBlock_131_z4 (gA (wI s2 1138 0 ((gI s2 1138 0) - ((1 : Int32)))) 108 (gI (wI s2 1138 0 ((gI s2 1138 0) - ((1 : Int32)))) 1138 0).toNatClampNeg) (gA (wI s2 1138 0 ((gI s2 1138 0) - ((1 : Int32)))) 109 (gI (wI s2 1138 0 ((gI s2 1138 0) - ((1 : Int32)))) 1138 0).toNatClampNeg) _ _ h)
      · exact z4_tr (z4_wI (f1) rfl) (cR_endBlock_131_z4 (gA (wI s2 1138 0 ((gI s2 1138 0) - ((1 : Int32)))) 108 (gI (wI s2 1138 0 ((gI s2 1138 0) - ((1 : Int32)))) 1138 0).toNatClampNeg) (gA (wI s2 1138 0 ((gI s2 1138 0) - ((1 : Int32)))) 109 (gI (wI s2 1138 0 ((gI s2 1138 0) - ((1 : Int32)))) 1138 0).toNatClampNeg) _ _ h)
theorem cR_takePlain_47_z4 (t1 : Int32) (s : ts) (r : ts) (h : cR_takePlain_47 t1 s = some r) : z4 s r := by
  unfold cR_takePlain_47 at h
  obtain ⟨x3, hx3, h⟩ := FB h
  have f1 := z4_tr (z4_rf) (z4_fr rfl rfl (cR_add_fr t1 ((0 : Int32)) _ _ hx3))
  exact YV h (f1)
theorem cR_takePlain_35_z4 (l1 : Int32) (s : ts) (r : ts) (h : cR_takePlain_35 l1 s = some r) : z4 s r := by
  unfold cR_takePlain_35 at h
  refine FI h (fun h => ?_) (fun h => ?_)
  · exact z4_tr (z4_rf) (cR_takePlain_47_z4 ((4 : Int32)) _ _ h)
  · exact z4_tr (z4_rf) (cR_takePlain_47_z4 ((5 : Int32)) _ _ h)
theorem cR_takePlain_171_z4 (t1 : Int32) (t2 : Int32) (s : ts) (r : ts) (h : cR_takePlain_171 t1 t2 s = some r) : z4 s r := by
  unfold cR_takePlain_171 at h
  obtain ⟨x3, hx3, h⟩ := FB h
  have f1 := z4_tr (z4_rf) (z4_fr rfl rfl (cR_add_fr t1 t2 _ _ hx3))
  exact YV h (f1)
theorem cR_takePlain_157_z4 (l3 : Int32) (l4 : Int32) (t1 : Int32) (s : ts) (r : ts) (h : cR_takePlain_157 l3 l4 t1 s = some r) : z4 s r := by
  unfold cR_takePlain_157 at h
  refine FI h (fun h => ?_) (fun h => ?_)
  · exact z4_tr (z4_rf) (cR_takePlain_171_z4 t1 (((8 : Int32)) + l4) _ _ h)
  · exact z4_tr (z4_rf) (cR_takePlain_171_z4 t1 l3 _ _ h)
theorem cR_takePlain_143_z4 (l1 : Int32) (l3 : Int32) (l4 : Int32) (s : ts) (r : ts) (h : cR_takePlain_143 l1 l3 l4 s = some r) : z4 s r := by
  unfold cR_takePlain_143 at h
  refine FI h (fun h => ?_) (fun h => ?_)
  · exact z4_tr (z4_rf) (cR_takePlain_157_z4 l3 l4 ((7 : Int32)) _ _ h)
  · exact z4_tr (z4_rf) (cR_takePlain_157_z4 l3 l4 ((8 : Int32)) _ _ h)
theorem cR_takePlain_139_z4 (l1 : Int32) (l3 : Int32) (l4 : Int32) (t1 : Int32) (s : ts) (r : ts) (h : cR_takePlain_139 l1 l3 l4 t1 s = some r) : z4 s r := by
  unfold cR_takePlain_139 at h
  obtain ⟨s2, hs2, h⟩ := FB h
  have f1 := z4_tr (z4_rf) (cR_need_z4 t1 ((4 : Int32)) (by decide) _ _ hs2)
  exact z4_tr (f1) (cR_takePlain_143_z4 l1 l3 l4 _ _ h)
theorem cR_takePlain_96_z4 (l1 : Int32) (s : ts) (r : ts) (h : cR_takePlain_96 l1 s = some r) : z4 s r := by
  unfold cR_takePlain_96 at h
  obtain ⟨x3, hx3, h⟩ := FB h
  have f1 := z4_tr (z4_rf) (z4_fr rfl rfl (cR_findResource_fr (gJ s 1108 0) _ _ hx3))
  obtain ⟨x6, hx6, h⟩ := FB h
  have f2 := z4_tr (f1) (z4_fr rfl rfl (cR_findStore_fr (gJ x3.2 1108 0) _ _ hx6))
  obtain ⟨x9, hx9, h⟩ := FB h
  have f3 := z4_tr (f2) (z4_fr rfl rfl (cR_good_fr _ _ hx9))
  refine FI h (fun h => ?_) (fun h => ?_)
  · exact z4_tr (f3) (cR_takePlain_143_z4 l1 x3.1 x6.1 _ _ h)
  · refine FI h (fun h => ?_) (fun h => ?_)
    · refine FI h (fun h => ?_) (fun h => ?_)
      · exact z4_tr (f3) (cR_takePlain_139_z4 l1 x3.1 x6.1 ((0 : Int32)) _ _ h)
      · exact z4_tr (f3) (cR_takePlain_139_z4 l1 x3.1 x6.1 ((1 : Int32)) _ _ h)
    · exact z4_tr (f3) (cR_takePlain_139_z4 l1 x3.1 x6.1 ((1 : Int32)) _ _ h)
theorem cR_takePlain_92_z4 (l1 : Int32) (t1 : Int32) (s : ts) (r : ts) (h : cR_takePlain_92 l1 t1 s = some r) : z4 s r := by
  unfold cR_takePlain_92 at h
  obtain ⟨s2, hs2, h⟩ := FB h
  have f1 := z4_tr (z4_rf) (cR_need_z4 t1 ((2 : Int32)) (by decide) _ _ hs2)
  exact z4_tr (f1) (cR_takePlain_96_z4 l1 _ _ h)
theorem cR_takePlain_67_z4 (l1 : Int32) (s : ts) (r : ts) (h : cR_takePlain_67 l1 s = some r) : z4 s r := by
  unfold cR_takePlain_67 at h
  obtain ⟨s2, hs2, h⟩ := FB h
  have f1 := z4_tr (z4_rf) (cR_next_z4 _ _ hs2)
  obtain ⟨x6, hx6, h⟩ := FB h
  have f2 := z4_tr (f1) (z4_fr rfl rfl (cR_good_fr _ _ hx6))
  refine FI h (fun h => ?_) (fun h => ?_)
  · exact z4_tr (f2) (cR_takePlain_96_z4 l1 _ _ h)
  · refine FI h (fun h => ?_) (fun h => ?_)
    · exact z4_tr (f2) (cR_takePlain_92_z4 l1 ((1 : Int32)) _ _ h)
    · exact z4_tr (f2) (cR_takePlain_92_z4 l1 ((0 : Int32)) _ _ h)
theorem cR_takePlain_215_z4 (t1 : Int32) (t2 : Int32) (s : ts) (r : ts) (h : cR_takePlain_215 t1 t2 s = some r) : z4 s r := by
  unfold cR_takePlain_215 at h
  obtain ⟨x3, hx3, h⟩ := FB h
  have f1 := z4_tr (z4_rf) (z4_fr rfl rfl (cR_add_fr t1 t2 _ _ hx3))
  exact YV h (f1)
theorem cR_takePlain_198_z4 (l3 : Int32) (t1 : Int32) (s : ts) (r : ts) (h : cR_takePlain_198 l3 t1 s = some r) : z4 s r := by
  unfold cR_takePlain_198 at h
  refine FI h (fun h => ?_) (fun h => ?_)
  · obtain ⟨x3, hx3, h⟩ := FB h
    have f1 := z4_tr (z4_rf) (z4_fr rfl rfl (cR_findNumber_fr (gJ s 1108 0) _ _ hx3))
    exact z4_tr (f1) (cR_takePlain_215_z4 t1 x3.1 _ _ h)
  · exact z4_tr (z4_rf) (cR_takePlain_215_z4 t1 l3 _ _ h)
theorem cR_takePlain_z4 (l1 : Int32) (s : ts) (r : ts) (h : cR_takePlain l1 s = some r) : z4 s r := by
  unfold cR_takePlain at h
  refine FI h (fun h => ?_) (fun h => ?_)
  · obtain ⟨x11, hx11, h⟩ := FB h
    have f1 := z4_tr (z4_rf) (z4_fr rfl rfl (cR_add_fr ((1 : Int32)) (gI s 1109 0) _ _ hx11))
    exact YV h (f1)
  · refine FI h (fun h => ?_) (fun h => ?_)
    · exact z4_tr (z4_rf) (cR_takePlain_35_z4 l1 _ _ h)
    · refine FI h (fun h => ?_) (fun h => ?_)
      · exact z4_tr (z4_rf) (cR_takePlain_35_z4 l1 _ _ h)
      · refine FI h (fun h => ?_) (fun h => ?_)
        · exact z4_tr (z4_rf) (cR_takePlain_67_z4 l1 _ _ h)
        · refine FI h (fun h => ?_) (fun h => ?_)
          · exact z4_tr (z4_rf) (cR_takePlain_67_z4 l1 _ _ h)
          · obtain ⟨x3, hx3, h⟩ := FB h
            have f2 := z4_tr (z4_rf) (z4_fr rfl rfl (cR_findLocal_fr (gJ s 1108 0) _ _ hx3))
            refine FI h (fun h => ?_) (fun h => ?_)
            · exact z4_tr (f2) (cR_takePlain_198_z4 x3.1 ((3 : Int32)) _ _ h)
            · exact z4_tr (f2) (cR_takePlain_198_z4 x3.1 ((2 : Int32)) _ _ h)
theorem cR_takeOne_242_z4 (t1 : Int32) (s : ts) (r : ts) (h : cR_takeOne_242 t1 s = some r) : z4 s r := by
  unfold cR_takeOne_242 at h
  obtain ⟨s2, hs2, h⟩ := FB h
  have f1 := z4_tr (z4_rf) (z4_fr rfl rfl (cR_wait1_fr t1 ((9 : Int32)) _ _ hs2))
  obtain ⟨s5, hs5, h⟩ := FB h
  have f2 := z4_tr (z4_wI (f1) rfl) (cR_next_z4 _ _ hs5)
  exact YV h (f2)
theorem cR_takeOne_225_z4 (s : ts) (r : ts) (h : cR_takeOne_225 s = some r) : z4 s r := by
  unfold cR_takeOne_225 at h
  refine FI h (fun h => ?_) (fun h => ?_)
  · exact z4_tr (z4_rf) (cR_takeOne_242_z4 ((9 : Int32)) _ _ h)
  · exact z4_tr (z4_rf) (cR_takeOne_242_z4 ((10 : Int32)) _ _ h)
theorem cR_takeOne_196_z4 (l2 : Int32) (t1 : Int32) (s : ts) (r : ts) (h : cR_takeOne_196 l2 t1 s = some r) : z4 s r := by
  unfold cR_takeOne_196 at h
  obtain ⟨s2, hs2, h⟩ := FB h
  have f1 := z4_tr (z4_rf) (cR_limit_z4 t1 _ _ hs2)
  obtain ⟨x6, hx6, h⟩ := FB h
  have f2 := z4_tr (f1) (z4_fr rfl rfl (cR_good_fr _ _ hx6))
  refine FI h (fun h => ?_) (fun h => ?_)
  · exact YV h (f2)
  · refine FI h (fun h => ?_) (fun h => ?_)
    · exact z4_tr (f2) (cR_takeOne_225_z4 _ _ h)
    · refine FI h (fun h => ?_) (fun h => ?_)
      · exact z4_tr (f2) (cR_takeOne_225_z4 _ _ h)
      · refine FI h (fun h => ?_) (fun h => ?_)
        · obtain ⟨s31, hs31, h⟩ := FB h
          have f3 := z4_tr (f2) (z4_fr rfl rfl (cR_open_fr ((14 : Int32)) _ _ hs31))
          obtain ⟨s34, hs34, h⟩ := FB h
          have f4 := z4_tr (f3) (cR_next_z4 _ _ hs34)
          exact YV h (f4)
        · refine FI h (fun h => ?_) (fun h => ?_)
          · obtain ⟨s21, hs21, h⟩ := FB h
            have f5 := z4_tr (f2) (cR_next_z4 _ _ hs21)
            obtain ⟨s24, hs24, h⟩ := FB h
            have f6 := z4_tr (f5) (z4_fr rfl rfl (cR_open_fr ((6 : Int32)) _ _ hs24))
            obtain ⟨s27, hs27, h⟩ := FB h
            have f7 := z4_tr (f6) (cR_must_z4 ((40 : Int32)) _ _ hs27)
            exact YV h (f7)
          · obtain ⟨s8, hs8, h⟩ := FB h
            have f8 := z4_tr (f2) (cR_takePlain_z4 l2 _ _ hs8)
            obtain ⟨s11, hs11, h⟩ := FB h
            have f9 := z4_tr (f8) (cR_next_z4 _ _ hs11)
            obtain ⟨x15, hx15, h⟩ := FB h
            have f10 := z4_tr (f9) (z4_fr rfl rfl (cR_good_fr _ _ hx15))
            refine FI h (fun h => ?_) (fun h => ?_)
            · exact YV h (f10)
            · obtain ⟨s17, hs17, h⟩ := FB h
              have f11 := z4_tr (f10) (z4_fr rfl rfl (cR_endOne_fr _ _ hs17))
              exact YV h (f11)
theorem cR_takeOne_181_z4 (l2 : Int32) (s : ts) (r : ts) (h : cR_takeOne_181 l2 s = some r) : z4 s r := by
  unfold cR_takeOne_181 at h
  refine FI h (fun h => ?_) (fun h => ?_)
  · exact z4_tr (z4_rf) (cR_takeOne_196_z4 l2 ((0 : Int32)) _ _ h)
  · exact z4_tr (z4_rf) (cR_takeOne_196_z4 l2 ((1 : Int32)) _ _ h)
theorem cR_takeOne_177_z4 (l2 : Int32) (t1 : Int32) (s : ts) (r : ts) (h : cR_takeOne_177 l2 t1 s = some r) : z4 s r := by
  unfold cR_takeOne_177 at h
  obtain ⟨s2, hs2, h⟩ := FB h
  have f1 := z4_tr (z4_rf) (cR_need_z4 t1 ((4 : Int32)) (by decide) _ _ hs2)
  exact z4_tr (f1) (cR_takeOne_181_z4 l2 _ _ h)
theorem cR_takeOne_154_z4 (l1 : Int32) (l2 : Int32) (s : ts) (r : ts) (h : cR_takeOne_154 l1 l2 s = some r) : z4 s r := by
  unfold cR_takeOne_154 at h
  obtain ⟨x3, hx3, h⟩ := FB h
  have f1 := z4_tr (z4_rf) (z4_fr rfl rfl (cR_good_fr _ _ hx3))
  refine FI h (fun h => ?_) (fun h => ?_)
  · exact z4_tr (f1) (cR_takeOne_181_z4 l2 _ _ h)
  · refine FI h (fun h => ?_) (fun h => ?_)
    · refine FI h (fun h => ?_) (fun h => ?_)
      · exact z4_tr (f1) (cR_takeOne_177_z4 l2 ((1 : Int32)) _ _ h)
      · exact z4_tr (f1) (cR_takeOne_177_z4 l2 ((0 : Int32)) _ _ h)
    · exact z4_tr (f1) (cR_takeOne_181_z4 l2 _ _ h)
theorem cR_takeOne_150_z4 (l1 : Int32) (l2 : Int32) (t1 : Int32) (s : ts) (r : ts) (h : cR_takeOne_150 l1 l2 t1 s = some r) : z4 s r := by
  unfold cR_takeOne_150 at h
  obtain ⟨s2, hs2, h⟩ := FB h
  have f1 := z4_tr (z4_rf) (cR_need_z4 t1 ((4 : Int32)) (by decide) _ _ hs2)
  exact z4_tr (f1) (cR_takeOne_154_z4 l1 l2 _ _ h)
theorem cR_takeOne_100_z4 (l1 : Int32) (l2 : Int32) (s : ts) (r : ts) (h : cR_takeOne_100 l1 l2 s = some r) : z4 s r := by
  unfold cR_takeOne_100 at h
  obtain ⟨x3, hx3, h⟩ := FB h
  have f1 := z4_tr (z4_rf) (z4_fr rfl rfl (cR_good_fr _ _ hx3))
  refine FI h (fun h => ?_) (fun h => ?_)
  · exact z4_tr (f1) (cR_takeOne_154_z4 l1 l2 _ _ h)
  · refine FI h (fun h => ?_) (fun h => ?_)
    · refine FI h (fun h => ?_) (fun h => ?_)
      · obtain ⟨x6, hx6, h⟩ := FB h
        have f2 := z4_tr (f1) (z4_fr rfl rfl (cR_findLocal_fr (gJ x3.2 1108 0) _ _ hx6))
        refine FI h (fun h => ?_) (fun h => ?_)
        · obtain ⟨x9, hx9, h⟩ := FB h
          have f3 := z4_tr (f2) (z4_fr rfl rfl (cR_findNumber_fr (gJ x6.2 1108 0) _ _ hx9))
          refine FI h (fun h => ?_) (fun h => ?_)
          · exact z4_tr (f3) (cR_takeOne_150_z4 l1 l2 ((0 : Int32)) _ _ h)
          · exact z4_tr (f3) (cR_takeOne_150_z4 l1 l2 ((1 : Int32)) _ _ h)
        · exact z4_tr (f2) (cR_takeOne_150_z4 l1 l2 ((1 : Int32)) _ _ h)
      · exact z4_tr (f1) (cR_takeOne_154_z4 l1 l2 _ _ h)
    · exact z4_tr (f1) (cR_takeOne_154_z4 l1 l2 _ _ h)
theorem cR_takeOne_96_z4 (l1 : Int32) (l2 : Int32) (t1 : Int32) (s : ts) (r : ts) (h : cR_takeOne_96 l1 l2 t1 s = some r) : z4 s r := by
  unfold cR_takeOne_96 at h
  obtain ⟨s2, hs2, h⟩ := FB h
  have f1 := z4_tr (z4_rf) (cR_need_z4 t1 ((2 : Int32)) (by decide) _ _ hs2)
  exact z4_tr (f1) (cR_takeOne_100_z4 l1 l2 _ _ h)
theorem cR_takeOne_49_z4 (l1 : Int32) (t1 : Int32) (s : ts) (r : ts) (h : cR_takeOne_49 l1 t1 s = some r) : z4 s r := by
  unfold cR_takeOne_49 at h
  obtain ⟨s2, hs2, h⟩ := FB h
  have f1 := z4_tr (z4_rf) (cR_need_z4 t1 ((2 : Int32)) (by decide) _ _ hs2)
  obtain ⟨x6, hx6, h⟩ := FB h
  have f2 := z4_tr (f1) (z4_fr rfl rfl (cR_reserved_fr _ _ hx6))
  obtain ⟨x9, hx9, h⟩ := FB h
  have f3 := z4_tr (f2) (z4_fr rfl rfl (cR_good_fr _ _ hx9))
  refine FI h (fun h => ?_) (fun h => ?_)
  · exact z4_tr (f3) (cR_takeOne_100_z4 l1 x6.1 _ _ h)
  · refine FI h (fun h => ?_) (fun h => ?_)
    · refine FI h (fun h => ?_) (fun h => ?_)
      · exact z4_tr (f3) (cR_takeOne_96_z4 l1 x6.1 ((1 : Int32)) _ _ h)
      · refine FI h (fun h => ?_) (fun h => ?_)
        · exact z4_tr (f3) (cR_takeOne_96_z4 l1 x6.1 ((0 : Int32)) _ _ h)
        · refine FI h (fun h => ?_) (fun h => ?_)
          · exact z4_tr (f3) (cR_takeOne_96_z4 l1 x6.1 ((0 : Int32)) _ _ h)
          · exact z4_tr (f3) (cR_takeOne_96_z4 l1 x6.1 ((1 : Int32)) _ _ h)
    · exact z4_tr (f3) (cR_takeOne_100_z4 l1 x6.1 _ _ h)
theorem cR_takeOne_z4 (l1 : Int32) (s : ts) (r : ts) (h : cR_takeOne l1 s = some r) : z4 s r := by
  unfold cR_takeOne at h
  refine FI h (fun h => ?_) (fun h => ?_)
  · exact z4_tr (z4_rf) (cR_takeOne_49_z4 l1 ((1 : Int32)) _ _ h)
  · refine FI h (fun h => ?_) (fun h => ?_)
    · exact z4_tr (z4_rf) (cR_takeOne_49_z4 l1 ((1 : Int32)) _ _ h)
    · refine FI h (fun h => ?_) (fun h => ?_)
      · exact z4_tr (z4_rf) (cR_takeOne_49_z4 l1 ((1 : Int32)) _ _ h)
      · refine FI h (fun h => ?_) (fun h => ?_)
        · exact z4_tr (z4_rf) (cR_takeOne_49_z4 l1 ((1 : Int32)) _ _ h)
        · refine FI h (fun h => ?_) (fun h => ?_)
          · exact z4_tr (z4_rf) (cR_takeOne_49_z4 l1 ((1 : Int32)) _ _ h)
          · exact z4_tr (z4_rf) (cR_takeOne_49_z4 l1 ((0 : Int32)) _ _ h)
theorem cR_takeSign_222_z4 (s : ts) (r : ts) (h : cR_takeSign_222 s = some r) : z4 s r := by
  unfold cR_takeSign_222 at h
  obtain ⟨s2, hs2, h⟩ := FB h
  have f1 := z4_tr (z4_rf) (cR_next_z4 _ _ hs2)
  obtain ⟨s5, hs5, h⟩ := FB h
  have f2 := z4_tr (f1) (z4_fr rfl rfl (cR_endOne_fr _ _ hs5))
  exact YV h (f2)
theorem cR_takeSign_156_z4 (t1 : Int32) (s : ts) (r : ts) (h : cR_takeSign_156 t1 s = some r) : z4 s r := by
  unfold cR_takeSign_156 at h
  obtain ⟨s2, hs2, h⟩ := FB h
  have f1 := z4_tr (z4_rf) (cR_need_z4 t1 ((2 : Int32)) (by decide) _ _ hs2)
  obtain ⟨x6, hx6, h⟩ := FB h
  have f2 := z4_tr (f1) (z4_fr rfl rfl (cR_good_fr _ _ hx6))
  refine FI h (fun h => ?_) (fun h => ?_)
  · exact YV h (f2)
  · replace h := FG h
    replace h := FG h
    replace h := FG h
    refine FI h (fun h => ?_) (fun h => ?_)
    · obtain ⟨x12, hx12, h⟩ := FB h
      have f3 := z4_tr (z4_wI (z4_wI (z4_wI (f2) rfl) rfl) rfl) (z4_fr rfl rfl (cR_add_fr ((6 : Int32)) ((0 : Int32)) _ _ hx12))
      exact z4_tr (f3) (cR_takeSign_222_z4 _ _ h)
    · exact z4_tr (z4_wI (z4_wI (z4_wI (f2) rfl) rfl) rfl) (cR_takeSign_222_z4 _ _ h)
theorem cR_takeSign_130_z4 (t0 : Int32) (s : ts) (r : ts) (h : cR_takeSign_130 t0 s = some r) : z4 s r := by
  unfold cR_takeSign_130 at h
  refine FI h (fun h => ?_) (fun h => ?_)
  · exact YV h (z4_wI (z4_rf) rfl)
  · refine FI h (fun h => ?_) (fun h => ?_)
    · exact z4_tr (z4_rf) (cR_takeSign_156_z4 ((1 : Int32)) _ _ h)
    · exact z4_tr (z4_rf) (cR_takeSign_156_z4 ((0 : Int32)) _ _ h)
theorem cR_takeSign_96_z4 (t1 : Int32) (s : ts) (r : ts) (h : cR_takeSign_96 t1 s = some r) : z4 s r := by
  unfold cR_takeSign_96 at h
  replace h := FG h
  obtain ⟨s3, hs3, h⟩ := FB h
  have f1 := z4_tr (z4_wI (z4_wI (z4_rf) rfl) rfl) (cR_next_z4 _ _ hs3)
  exact YV h (f1)
theorem cR_takeSign_78_z4 (l1 : Int32) (s : ts) (r : ts) (h : cR_takeSign_78 l1 s = some r) : z4 s r := by
  unfold cR_takeSign_78 at h
  refine FI h (fun h => ?_) (fun h => ?_)
  · refine FI h (fun h => ?_) (fun h => ?_)
    · exact z4_tr (z4_rf) (cR_takeSign_96_z4 ((1 : Int32)) _ _ h)
    · exact z4_tr (z4_rf) (cR_takeSign_96_z4 ((0 : Int32)) _ _ h)
  · exact z4_tr (z4_rf) (cR_takeSign_96_z4 ((1 : Int32)) _ _ h)
theorem cR_takeSign_68_z4 (l1 : Int32) (t1 : Int32) (t3 : Int32) (s : ts) (r : ts) (h : cR_takeSign_68 l1 t1 t3 s = some r) : z4 s r := by
  unfold cR_takeSign_68 at h
  obtain ⟨x3, hx3, h⟩ := FB h
  have f1 := z4_tr (z4_rf) (z4_fr rfl rfl (cR_add_fr t3 ((0 : Int32)) _ _ hx3))
  replace h := FG h
  exact z4_tr (z4_wI (z4_wA (f1) rfl) rfl) (cR_takeSign_78_z4 l1 _ _ h)
theorem cR_takeSign_22_z4 (l1 : Int32) (s : ts) (r : ts) (h : cR_takeSign_22 l1 s = some r) : z4 s r := by
  unfold cR_takeSign_22 at h
  refine FI h (fun h => ?_) (fun h => ?_)
  · obtain ⟨s2, hs2, h⟩ := FB h
    have f1 := z4_tr (z4_rf) (z4_fr rfl rfl (cR_settleTo_fr ((1 : Int32)) _ _ hs2))
    refine FI h (fun h => ?_) (fun h => ?_)
    · exact z4_tr (f1) (cR_takeSign_130_z4 ((0 : Int32)) _ _ h)
    · exact z4_tr (f1) (cR_takeSign_130_z4 ((1 : Int32)) _ _ h)
  · obtain ⟨s6, hs6, h⟩ := FB h
    have f2 := z4_tr (z4_rf) (z4_fr rfl rfl (cR_settleTo_fr l1 _ _ hs6))
    obtain ⟨s9, hs9, h⟩ := FB h
    have f3 := z4_tr (f2) (z4_fr rfl rfl (cR_wait1_fr (gI s6 1106 0) l1 _ _ hs9))
    refine FI h (fun h => ?_) (fun h => ?_)
    · exact z4_tr (f3) (cR_takeSign_78_z4 l1 _ _ h)
    · refine FI h (fun h => ?_) (fun h => ?_)
      · exact z4_tr (f3) (cR_takeSign_68_z4 l1 ((gI s9 1142 0) - ((1 : Int32))) ((12 : Int32)) _ _ h)
      · exact z4_tr (f3) (cR_takeSign_68_z4 l1 ((gI s9 1142 0) - ((1 : Int32))) ((11 : Int32)) _ _ h)
theorem cR_takeSign_z4 (s : ts) (r : ts) (h : cR_takeSign s = some r) : z4 s r := by
  unfold cR_takeSign at h
  obtain ⟨x3, hx3, h⟩ := FB h
  have f1 := z4_tr (z4_rf) (z4_fr rfl rfl (cR_rankOf_fr (gI s 1106 0) _ _ hx3))
  refine FI h (fun h => ?_) (fun h => ?_)
  · refine FI h (fun h => ?_) (fun h => ?_)
    · exact z4_tr (f1) (cR_takeSign_22_z4 x3.1 _ _ h)
    · exact z4_tr (f1) (cR_takeSign_22_z4 ((0 : Int32)) _ _ h)
  · exact z4_tr (f1) (cR_takeSign_22_z4 x3.1 _ _ h)
theorem cR_takeExp_69_z4 (l2 : Int32) (s : ts) (r : Int32 × ts) (h : cR_takeExp_69 l2 s = some r) : z4 s r.2 := by
  unfold cR_takeExp_69 at h
  obtain ⟨x3, hx3, h⟩ := FB h
  have f1 := z4_tr (z4_wI (z4_rf) rfl) (z4_fr rfl rfl (cR_add_fr ((0 : Int32)) ((0 : Int32)) _ _ hx3))
  exact YS h (f1)
theorem cR_takeExp_33_b_z4 (kk : Int32 → Int32 → ts → Option (Int32 × ts)) (hkk : ∀ (a0 : Int32) (a1 : Int32) (s : ts) (r : Int32 × ts), kk a0 a1 s = some r → z4 s r.2) (l1 : Int32) (l2 : Int32) (s : ts) (r : Int32 × ts) (h : cR_takeExp_33_b kk l1 l2 s = some r) : z4 s r.2 := by
  unfold cR_takeExp_33_b at h
  refine FI h (fun h => ?_) (fun h => ?_)
  · obtain ⟨x3, hx3, h⟩ := FB h
    have f1 := z4_tr (z4_rf) (z4_fr rfl rfl (cR_good_fr _ _ hx3))
    refine FI h (fun h => ?_) (fun h => ?_)
    · exact z4_tr (f1) (cR_takeExp_69_z4 l2 _ _ h)
    · refine FI h (fun h => ?_) (fun h => ?_)
      · obtain ⟨s5, hs5, h⟩ := FB h
        have f2 := z4_tr (f1) (cR_takeSign_z4 _ _ hs5)
        exact z4_tr (f2) (hkk l1 l2 _ _ h)
      · obtain ⟨s8, hs8, h⟩ := FB h
        have f3 := z4_tr (f1) (cR_takeOne_z4 l1 _ _ hs8)
        exact z4_tr (f3) (hkk l1 l2 _ _ h)
  · exact z4_tr (z4_rf) (cR_takeExp_69_z4 l2 _ _ h)
theorem cR_takeExp_33_z4 : ∀ (n : Nat) (l1 : Int32) (l2 : Int32) (s : ts) (r : Int32 × ts), cR_takeExp_33 n l1 l2 s = some r → z4 s r.2 := by
  intro n
  induction n with
  | zero => intro l1 l2 s r h; exact FN h
  | succ n ih =>
    intro l1 l2 s r h
    rw [cR_takeExp_33.eq_2] at h
    exact cR_takeExp_33_b_z4 (cR_takeExp_33 n) ih l1 l2 s r h
theorem cR_takeExp_z4 (l1 : Int32) (s : ts) (r : Int32 × ts) (h : cR_takeExp l1 s = some r) : z4 s r.2 := by
  unfold cR_takeExp at h
  exact z4_tr (z4_wI (z4_wI (z4_wI (z4_wI (z4_wI (z4_rf) rfl) rfl) rfl) rfl) rfl) (cR_takeExp_33_z4 tm_N l1 (gI s 1139 0) _ _ h)
theorem cR_takeStart_279_z4 (t1 : Int32) (t2 : Int32) (s : ts) (r : ts) (h : cR_takeStart_279 t1 t2 s = some r) : z4 s r := by
  unfold cR_takeStart_279 at h
  replace h := FG h
  obtain ⟨s3, hs3, h⟩ := FB h
  have f1 := z4_tr (z4_wA (z4_rf) rfl) (cR_must_z4 ((59 : Int32)) _ _ hs3)
  exact YV h (f1)
theorem cR_takeStart_243_z4 (l1 : Int32) (s : ts) (r : ts) (h : cR_takeStart_243 l1 s = some r) : z4 s r := by
  unfold cR_takeStart_243 at h
  obtain ⟨s2, hs2, h⟩ := FB h
  have f1 := z4_tr (z4_rf) (cR_must_z4 ((41 : Int32)) _ _ hs2)
  obtain ⟨x6, hx6, h⟩ := FB h
  have f2 := z4_tr (f1) (z4_fr rfl rfl (cR_good_fr _ _ hx6))
  refine FI h (fun h => ?_) (fun h => ?_)
  · exact z4_tr (f2) (cR_takeStart_279_z4 l1 ((-1 : Int32)) _ _ h)
  · refine FI h (fun h => ?_) (fun h => ?_)
    · exact z4_tr (f2) (cR_takeStart_279_z4 l1 ((-1 : Int32)) _ _ h)
    · obtain ⟨x9, hx9, h⟩ := FB h
      have f3 := z4_tr (f2) (cR_takeExp_z4 ((0 : Int32)) _ _ hx9)
      exact z4_tr (f3) (cR_takeStart_279_z4 l1 x9.1 _ _ h)
theorem cR_takeStart_238_z4 (l1 : Int32) (t1 : Int32) (s : ts) (r : ts) (h : cR_takeStart_238 l1 t1 s = some r) : z4 s r := by
  unfold cR_takeStart_238 at h
  obtain ⟨s2, hs2, h⟩ := FB h
  have f1 := z4_tr (z4_rf) (cR_need_z4 t1 ((6 : Int32)) (by decide) _ _ hs2)
  exact z4_tr (f1) (cR_takeStart_243_z4 l1 _ _ h)
theorem cR_takeStart_180_z4 (l1 : Int32) (l3 : Int32) (s : ts) (r : ts) (h : cR_takeStart_180 l1 l3 s = some r) : z4 s r := by
  unfold cR_takeStart_180 at h
  replace h := FG h
  obtain ⟨x4, hx4, h⟩ := FB h
  have f1 := z4_tr (z4_wA (z4_rf) rfl) (z4_fr rfl rfl (cR_findDefinition_fr (gB (wA s 105 l1.toNatClampNeg l3) 106 l1.toNatClampNeg) _ _ hx4))
  obtain ⟨x7, hx7, h⟩ := FB h
  have f2 := z4_tr (f1) (z4_fr rfl rfl (cR_good_fr _ _ hx7))
  refine FI h (fun h => ?_) (fun h => ?_)
  · exact z4_tr (f2) (cR_takeStart_243_z4 l1 _ _ h)
  · refine FI h (fun h => ?_) (fun h => ?_)
    · refine FI h (fun h => ?_) (fun h => ?_)
      · exact z4_tr (f2) (cR_takeStart_243_z4 l1 _ _ h)
      · replace h := FG h
        refine FI h (fun h => ?_) (fun h => ?_)
        · exact z4_tr (f2) (cR_takeStart_238_z4 l1 ((1 : Int32)) _ _ h)
        · exact z4_tr (f2) (cR_takeStart_238_z4 l1 ((0 : Int32)) _ _ h)
    · exact z4_tr (f2) (cR_takeStart_243_z4 l1 _ _ h)
theorem cR_takeStart_168_z4 (k79 : Int32 → Int32 → Int32 → ts → Option (ts)) (hk79 : ∀ (a0 : Int32) (a1 : Int32) (a2 : Int32) (s : ts) (r : ts), k79 a0 a1 a2 s = some r → z4 s r) (l1 : Int32) (l3 : Int32) (t0 : Int32) (s : ts) (r : ts) (h : cR_takeStart_168 k79 l1 l3 t0 s = some r) : z4 s r := by
  unfold cR_takeStart_168 at h
  refine FI h (fun h => ?_) (fun h => ?_)
  · exact z4_tr (z4_rf) (hk79 l1 t0 l3 _ _ h)
  · obtain ⟨s2, hs2, h⟩ := FB h
    have f1 := z4_tr (z4_rf) (cR_next_z4 _ _ hs2)
    exact z4_tr (f1) (hk79 l1 t0 l3 _ _ h)
theorem cR_takeStart_154_z4 (k79 : Int32 → Int32 → Int32 → ts → Option (ts)) (hk79 : ∀ (a0 : Int32) (a1 : Int32) (a2 : Int32) (s : ts) (r : ts), k79 a0 a1 a2 s = some r → z4 s r) (l1 : Int32) (l3 : Int32) (s : ts) (r : ts) (h : cR_takeStart_154 k79 l1 l3 s = some r) : z4 s r := by
  unfold cR_takeStart_154 at h
  refine FI h (fun h => ?_) (fun h => ?_)
  · exact z4_tr (z4_rf) (cR_takeStart_168_z4 k79 hk79 l1 l3 ((1 : Int32)) _ _ h)
  · exact z4_tr (z4_rf) (cR_takeStart_168_z4 k79 hk79 l1 l3 ((0 : Int32)) _ _ h)
theorem cR_takeStart_150_z4 (k79 : Int32 → Int32 → Int32 → ts → Option (ts)) (hk79 : ∀ (a0 : Int32) (a1 : Int32) (a2 : Int32) (s : ts) (r : ts), k79 a0 a1 a2 s = some r → z4 s r) (l1 : Int32) (l3 : Int32) (t1 : Int32) (s : ts) (r : ts) (h : cR_takeStart_150 k79 l1 l3 t1 s = some r) : z4 s r := by
  unfold cR_takeStart_150 at h
  obtain ⟨s2, hs2, h⟩ := FB h
  have f1 := z4_tr (z4_rf) (cR_need_z4 t1 ((2 : Int32)) (by decide) _ _ hs2)
  exact z4_tr (f1) (cR_takeStart_154_z4 k79 hk79 l1 l3 _ _ h)
theorem cR_takeStart_116_z4 (k79 : Int32 → Int32 → Int32 → ts → Option (ts)) (hk79 : ∀ (a0 : Int32) (a1 : Int32) (a2 : Int32) (s : ts) (r : ts), k79 a0 a1 a2 s = some r → z4 s r) (l1 : Int32) (l3 : Int32) (s : ts) (r : ts) (h : cR_takeStart_116 k79 l1 l3 s = some r) : z4 s r := by
  unfold cR_takeStart_116 at h
  obtain ⟨x3, hx3, h⟩ := FB h
  have f1 := z4_tr (z4_rf) (z4_fr rfl rfl (cR_good_fr _ _ hx3))
  refine FI h (fun h => ?_) (fun h => ?_)
  · exact z4_tr (f1) (cR_takeStart_154_z4 k79 hk79 l1 (l3 + (1 : Int32)) _ _ h)
  · refine FI h (fun h => ?_) (fun h => ?_)
    · exact z4_tr (f1) (cR_takeStart_150_z4 k79 hk79 l1 (l3 + (1 : Int32)) ((1 : Int32)) _ _ h)
    · refine FI h (fun h => ?_) (fun h => ?_)
      · exact z4_tr (f1) (cR_takeStart_150_z4 k79 hk79 l1 (l3 + (1 : Int32)) ((1 : Int32)) _ _ h)
      · exact z4_tr (f1) (cR_takeStart_150_z4 k79 hk79 l1 (l3 + (1 : Int32)) ((0 : Int32)) _ _ h)
theorem cR_takeStart_79_b_z4 (kk : Int32 → Int32 → Int32 → ts → Option (ts)) (hkk : ∀ (a0 : Int32) (a1 : Int32) (a2 : Int32) (s : ts) (r : ts), kk a0 a1 a2 s = some r → z4 s r) (l1 : Int32) (l2 : Int32) (l3 : Int32) (s : ts) (r : ts) (h : cR_takeStart_79_b kk l1 l2 l3 s = some r) : z4 s r := by
  unfold cR_takeStart_79_b at h
  refine FI h (fun h => ?_) (fun h => ?_)
  · exact z4_tr (z4_rf) (cR_takeStart_180_z4 l1 l3 _ _ h)
  · obtain ⟨x3, hx3, h⟩ := FB h
    have f1 := z4_tr (z4_rf) (z4_fr rfl rfl (cR_good_fr _ _ hx3))
    refine FI h (fun h => ?_) (fun h => ?_)
    · exact z4_tr (f1) (cR_takeStart_180_z4 l1 l3 _ _ h)
    · obtain ⟨x6, hx6, h⟩ := FB h
      have f2 := z4_tr (f1) (cR_takeExp_z4 ((0 : Int32)) _ _ hx6)
      refine FI h (fun h => ?_) (fun h => ?_)
      · exact z4_tr (f2) (cR_takeStart_116_z4 kk hkk l1 l3 _ _ h)
      · replace h := FG h
        exact z4_tr (z4_wA (f2) rfl) (cR_takeStart_116_z4 kk hkk l1 l3 _ _ h)
theorem cR_takeStart_79_z4 : ∀ (n : Nat) (l1 : Int32) (l2 : Int32) (l3 : Int32) (s : ts) (r : ts), cR_takeStart_79 n l1 l2 l3 s = some r → z4 s r := by
  intro n
  induction n with
  | zero => intro l1 l2 l3 s r h; exact FN h
  | succ n ih =>
    intro l1 l2 l3 s r h
    rw [cR_takeStart_79.eq_2] at h
    exact cR_takeStart_79_b_z4 (cR_takeStart_79 n) ih l1 l2 l3 s r h
theorem cR_takeStart_25_z4 (l1 : Int32) (s : ts) (r : ts) (h : cR_takeStart_25 l1 s = some r) : z4 s r := by
  unfold cR_takeStart_25 at h
  replace h := FG h
  obtain ⟨s3, hs3, h⟩ := FB h
  have f1 := z4_tr (z4_wA (z4_wB (z4_rf) rfl) rfl) (cR_next_z4 _ _ hs3)
  obtain ⟨s6, hs6, h⟩ := FB h
  have f2 := z4_tr (f1) (cR_must_z4 ((40 : Int32)) _ _ hs6)
  obtain ⟨x10, hx10, h⟩ := FB h
  have f3 := z4_tr (f2) (z4_fr rfl rfl (cR_good_fr _ _ hx10))
  refine FI h (fun h => ?_) (fun h => ?_)
  · exact z4_tr (f3) (cR_takeStart_79_z4 tm_N l1 ((0 : Int32)) ((0 : Int32)) _ _ h)
  · refine FI h (fun h => ?_) (fun h => ?_)
    · exact z4_tr (f3) (cR_takeStart_79_z4 tm_N l1 ((0 : Int32)) ((0 : Int32)) _ _ h)
    · exact z4_tr (f3) (cR_takeStart_79_z4 tm_N l1 ((1 : Int32)) ((0 : Int32)) _ _ h)
theorem cR_takeStart_21_z4 (l1 : Int32) (t1 : Int32) (s : ts) (r : ts) (h : cR_takeStart_21 l1 t1 s = some r) : z4 s r := by
  unfold cR_takeStart_21 at h
  obtain ⟨s2, hs2, h⟩ := FB h
  have f1 := z4_tr (z4_rf) (cR_need_z4 t1 ((2 : Int32)) (by decide) _ _ hs2)
  exact z4_tr (f1) (cR_takeStart_25_z4 l1 _ _ h)
theorem cR_takeStart_z4 (l1 : Int32) (s : ts) (r : ts) (h : cR_takeStart l1 s = some r) : z4 s r := by
  unfold cR_takeStart at h
  obtain ⟨x3, hx3, h⟩ := FB h
  have f1 := z4_tr (z4_rf) (z4_fr rfl rfl (cR_good_fr _ _ hx3))
  refine FI h (fun h => ?_) (fun h => ?_)
  · exact z4_tr (f1) (cR_takeStart_25_z4 l1 _ _ h)
  · refine FI h (fun h => ?_) (fun h => ?_)
    · exact z4_tr (f1) (cR_takeStart_21_z4 l1 ((1 : Int32)) _ _ h)
    · exact z4_tr (f1) (cR_takeStart_21_z4 l1 ((0 : Int32)) _ _ h)
theorem cR_takeRest_398_z4 (t1 : Int32) (t3 : Int32) (s : ts) (r : ts) (h : cR_takeRest_398 t1 t3 s = some r) : z4 s r := by
  unfold cR_takeRest_398 at h
  obtain ⟨x3, hx3, h⟩ := FB h
  have f1 := z4_tr (z4_rf) (cR_takeExp_z4 t3 _ _ hx3)
  replace h := FG h
  obtain ⟨s6, hs6, h⟩ := FB h
  have f2 := z4_tr (z4_wA (f1) rfl) (cR_must_z4 ((59 : Int32)) _ _ hs6)
  exact YV h (f2)
theorem cR_takeRest_264_z4 (t1 : Int32) (t2 : Int32) (s : ts) (r : ts) (h : cR_takeRest_264 t1 t2 s = some r) : z4 s r := by
  unfold cR_takeRest_264 at h
  replace h := FG h
  obtain ⟨s3, hs3, h⟩ := FB h
  have f1 := z4_tr (z4_wA (z4_rf) rfl) (cR_must_z4 ((59 : Int32)) _ _ hs3)
  exact YV h (f1)
theorem cR_takeRest_224_z4 (l1 : Int32) (l2 : Int32) (s : ts) (r : ts) (h : cR_takeRest_224 l1 l2 s = some r) : z4 s r := by
  unfold cR_takeRest_224 at h
  obtain ⟨s2, hs2, h⟩ := FB h
  have f1 := z4_tr (z4_rf) (cR_next_z4 _ _ hs2)
  refine FI h (fun h => ?_) (fun h => ?_)
  · obtain ⟨x6, hx6, h⟩ := FB h
    have f2 := z4_tr (f1) (z4_fr rfl rfl (cR_good_fr _ _ hx6))
    refine FI h (fun h => ?_) (fun h => ?_)
    · exact z4_tr (f2) (cR_takeRest_264_z4 l1 ((-1 : Int32)) _ _ h)
    · refine FI h (fun h => ?_) (fun h => ?_)
      · exact z4_tr (f2) (cR_takeRest_264_z4 l1 ((-1 : Int32)) _ _ h)
      · obtain ⟨x9, hx9, h⟩ := FB h
        have f3 := z4_tr (f2) (cR_takeExp_z4 ((0 : Int32)) _ _ hx9)
        exact z4_tr (f3) (cR_takeRest_264_z4 l1 x9.1 _ _ h)
  · exact z4_tr (f1) (cR_takeRest_264_z4 l1 ((-1 : Int32)) _ _ h)
theorem cR_takeRest_220_z4 (l1 : Int32) (l2 : Int32) (t1 : Int32) (s : ts) (r : ts) (h : cR_takeRest_220 l1 l2 t1 s = some r) : z4 s r := by
  unfold cR_takeRest_220 at h
  obtain ⟨s2, hs2, h⟩ := FB h
  have f1 := z4_tr (z4_rf) (cR_need_z4 t1 ((4 : Int32)) (by decide) _ _ hs2)
  exact z4_tr (f1) (cR_takeRest_224_z4 l1 l2 _ _ h)
theorem cR_takeRest_183_z4 (l1 : Int32) (l2 : Int32) (s : ts) (r : ts) (h : cR_takeRest_183 l1 l2 s = some r) : z4 s r := by
  unfold cR_takeRest_183 at h
  obtain ⟨x3, hx3, h⟩ := FB h
  have f1 := z4_tr (z4_rf) (z4_fr rfl rfl (cR_findResource_fr (gJ s 1108 0) _ _ hx3))
  replace h := FG h
  obtain ⟨x7, hx7, h⟩ := FB h
  have f2 := z4_tr (z4_wA (f1) rfl) (z4_fr rfl rfl (cR_good_fr _ _ hx7))
  refine FI h (fun h => ?_) (fun h => ?_)
  · exact z4_tr (f2) (cR_takeRest_224_z4 l1 l2 _ _ h)
  · refine FI h (fun h => ?_) (fun h => ?_)
    · exact z4_tr (f2) (cR_takeRest_220_z4 l1 l2 ((0 : Int32)) _ _ h)
    · exact z4_tr (f2) (cR_takeRest_220_z4 l1 l2 ((1 : Int32)) _ _ h)
theorem cR_takeRest_179_z4 (l1 : Int32) (l2 : Int32) (t1 : Int32) (s : ts) (r : ts) (h : cR_takeRest_179 l1 l2 t1 s = some r) : z4 s r := by
  unfold cR_takeRest_179 at h
  obtain ⟨s2, hs2, h⟩ := FB h
  have f1 := z4_tr (z4_rf) (cR_need_z4 t1 ((2 : Int32)) (by decide) _ _ hs2)
  exact z4_tr (f1) (cR_takeRest_183_z4 l1 l2 _ _ h)
theorem cR_takeRest_340_z4 (l1 : Int32) (s : ts) (r : ts) (h : cR_takeRest_340 l1 s = some r) : z4 s r := by
  unfold cR_takeRest_340 at h
  obtain ⟨s2, hs2, h⟩ := FB h
  have f1 := z4_tr (z4_rf) (cR_next_z4 _ _ hs2)
  obtain ⟨x6, hx6, h⟩ := FB h
  have f2 := z4_tr (f1) (cR_takeExp_z4 ((0 : Int32)) _ _ hx6)
  replace h := FG h
  obtain ⟨s9, hs9, h⟩ := FB h
  have f3 := z4_tr (z4_wA (f2) rfl) (cR_must_z4 ((59 : Int32)) _ _ hs9)
  exact YV h (f3)
theorem cR_takeRest_336_z4 (l1 : Int32) (t1 : Int32) (s : ts) (r : ts) (h : cR_takeRest_336 l1 t1 s = some r) : z4 s r := by
  unfold cR_takeRest_336 at h
  obtain ⟨s2, hs2, h⟩ := FB h
  have f1 := z4_tr (z4_rf) (cR_need_z4 t1 ((4 : Int32)) (by decide) _ _ hs2)
  exact z4_tr (f1) (cR_takeRest_340_z4 l1 _ _ h)
theorem cR_takeRest_299_z4 (l1 : Int32) (s : ts) (r : ts) (h : cR_takeRest_299 l1 s = some r) : z4 s r := by
  unfold cR_takeRest_299 at h
  obtain ⟨x3, hx3, h⟩ := FB h
  have f1 := z4_tr (z4_rf) (z4_fr rfl rfl (cR_findStore_fr (gJ s 1108 0) _ _ hx3))
  replace h := FG h
  obtain ⟨x7, hx7, h⟩ := FB h
  have f2 := z4_tr (z4_wA (f1) rfl) (z4_fr rfl rfl (cR_good_fr _ _ hx7))
  refine FI h (fun h => ?_) (fun h => ?_)
  · exact z4_tr (f2) (cR_takeRest_340_z4 l1 _ _ h)
  · refine FI h (fun h => ?_) (fun h => ?_)
    · exact z4_tr (f2) (cR_takeRest_336_z4 l1 ((0 : Int32)) _ _ h)
    · exact z4_tr (f2) (cR_takeRest_336_z4 l1 ((1 : Int32)) _ _ h)
theorem cR_takeRest_295_z4 (l1 : Int32) (t1 : Int32) (s : ts) (r : ts) (h : cR_takeRest_295 l1 t1 s = some r) : z4 s r := by
  unfold cR_takeRest_295 at h
  obtain ⟨s2, hs2, h⟩ := FB h
  have f1 := z4_tr (z4_rf) (cR_need_z4 t1 ((2 : Int32)) (by decide) _ _ hs2)
  exact z4_tr (f1) (cR_takeRest_299_z4 l1 _ _ h)
theorem cR_takeRest_z4 (l1 : Int32) (l2 : Int32) (s : ts) (r : ts) (h : cR_takeRest l1 l2 s = some r) : z4 s r := by
  unfold cR_takeRest at h
  refine FI h (fun h => ?_) (fun h => ?_)
  · obtain ⟨s2, hs2, h⟩ := FB h
    have f1 := z4_tr (z4_rf) (cR_takeLocal_z4 _ _ hs2)
    obtain ⟨s5, hs5, h⟩ := FB h
    have f2 := z4_tr (f1) (cR_next_z4 _ _ hs5)
    obtain ⟨s8, hs8, h⟩ := FB h
    have f3 := z4_tr (f2) (cR_must_z4 ((61 : Int32)) _ _ hs8)
    obtain ⟨x12, hx12, h⟩ := FB h
    have f4 := z4_tr (f3) (cR_takeExp_z4 ((0 : Int32)) _ _ hx12)
    replace h := FG h
    obtain ⟨s15, hs15, h⟩ := FB h
    have f5 := z4_tr (z4_wA (z4_wA (z4_wA (f4) rfl) rfl) rfl) (z4_fr rfl rfl (cR_addLocal_fr (gJ s2 1108 0) _ _ hs15))
    obtain ⟨s18, hs18, h⟩ := FB h
    have f6 := z4_tr (f5) (cR_must_z4 ((59 : Int32)) _ _ hs18)
    exact YV h (f6)
  · refine FI h (fun h => ?_) (fun h => ?_)
    · obtain ⟨x23, hx23, h⟩ := FB h
      have f7 := z4_tr (z4_rf) (cR_takeExp_z4 ((0 : Int32)) _ _ hx23)
      replace h := FG h
      obtain ⟨s26, hs26, h⟩ := FB h
      have f8 := z4_tr (z4_wA (f7) rfl) (cR_beginBlock_z4 l2 l1 _ _ hs26)
      exact YV h (f8)
    · refine FI h (fun h => ?_) (fun h => ?_)
      · refine FI h (fun h => ?_) (fun h => ?_)
        · exact z4_tr (z4_rf) (cR_takeRest_398_z4 l1 ((1 : Int32)) _ _ h)
        · exact z4_tr (z4_rf) (cR_takeRest_398_z4 l1 ((0 : Int32)) _ _ h)
      · refine FI h (fun h => ?_) (fun h => ?_)
        · obtain ⟨x33, hx33, h⟩ := FB h
          have f9 := z4_tr (z4_rf) (cR_takeExp_z4 ((0 : Int32)) _ _ hx33)
          replace h := FG h
          obtain ⟨s36, hs36, h⟩ := FB h
          have f10 := z4_tr (z4_wA (f9) rfl) (cR_beginBlock_z4 l2 l1 _ _ hs36)
          exact YV h (f10)
        · refine FI h (fun h => ?_) (fun h => ?_)
          · refine FI h (fun h => ?_) (fun h => ?_)
            · exact z4_tr (z4_rf) (cR_takeRest_398_z4 l1 ((1 : Int32)) _ _ h)
            · exact z4_tr (z4_rf) (cR_takeRest_398_z4 l1 ((0 : Int32)) _ _ h)
          · refine FI h (fun h => ?_) (fun h => ?_)
            · obtain ⟨x43, hx43, h⟩ := FB h
              have f11 := z4_tr (z4_rf) (z4_fr rfl rfl (cR_good_fr _ _ hx43))
              refine FI h (fun h => ?_) (fun h => ?_)
              · exact z4_tr (f11) (cR_takeRest_183_z4 l1 l2 _ _ h)
              · refine FI h (fun h => ?_) (fun h => ?_)
                · exact z4_tr (f11) (cR_takeRest_179_z4 l1 l2 ((1 : Int32)) _ _ h)
                · exact z4_tr (f11) (cR_takeRest_179_z4 l1 l2 ((0 : Int32)) _ _ h)
            · refine FI h (fun h => ?_) (fun h => ?_)
              · obtain ⟨x49, hx49, h⟩ := FB h
                have f12 := z4_tr (z4_rf) (z4_fr rfl rfl (cR_good_fr _ _ hx49))
                refine FI h (fun h => ?_) (fun h => ?_)
                · exact z4_tr (f12) (cR_takeRest_183_z4 l1 l2 _ _ h)
                · refine FI h (fun h => ?_) (fun h => ?_)
                  · exact z4_tr (f12) (cR_takeRest_179_z4 l1 l2 ((1 : Int32)) _ _ h)
                  · exact z4_tr (f12) (cR_takeRest_179_z4 l1 l2 ((0 : Int32)) _ _ h)
              · refine FI h (fun h => ?_) (fun h => ?_)
                · obtain ⟨x55, hx55, h⟩ := FB h
                  have f13 := z4_tr (z4_rf) (z4_fr rfl rfl (cR_good_fr _ _ hx55))
                  refine FI h (fun h => ?_) (fun h => ?_)
                  · exact z4_tr (f13) (cR_takeRest_299_z4 l1 _ _ h)
                  · refine FI h (fun h => ?_) (fun h => ?_)
                    · exact z4_tr (f13) (cR_takeRest_295_z4 l1 ((1 : Int32)) _ _ h)
                    · exact z4_tr (f13) (cR_takeRest_295_z4 l1 ((0 : Int32)) _ _ h)
                · refine FI h (fun h => ?_) (fun h => ?_)
                  · obtain ⟨x61, hx61, h⟩ := FB h
                    have f14 := z4_tr (z4_rf) (z4_fr rfl rfl (cR_good_fr _ _ hx61))
                    refine FI h (fun h => ?_) (fun h => ?_)
                    · exact z4_tr (f14) (cR_takeRest_299_z4 l1 _ _ h)
                    · refine FI h (fun h => ?_) (fun h => ?_)
                      · exact z4_tr (f14) (cR_takeRest_295_z4 l1 ((1 : Int32)) _ _ h)
                      · exact z4_tr (f14) (cR_takeRest_295_z4 l1 ((0 : Int32)) _ _ h)
                  · refine FI h (fun h => ?_) (fun h => ?_)
                    · refine FI h (fun h => ?_) (fun h => ?_)
                      · exact z4_tr (z4_rf) (cR_takeRest_398_z4 l1 ((1 : Int32)) _ _ h)
                      · exact z4_tr (z4_rf) (cR_takeRest_398_z4 l1 ((0 : Int32)) _ _ h)
                    · refine FI h (fun h => ?_) (fun h => ?_)
                      · obtain ⟨s68, hs68, h⟩ := FB h
                        have f15 := z4_tr (z4_rf) (cR_takeStart_z4 l1 _ _ hs68)
                        exact YV h (f15)
                      · refine FI h (fun h => ?_) (fun h => ?_)
                        · refine FI h (fun h => ?_) (fun h => ?_)
                          · exact z4_tr (z4_rf) (cR_takeRest_398_z4 l1 ((1 : Int32)) _ _ h)
                          · exact z4_tr (z4_rf) (cR_takeRest_398_z4 l1 ((0 : Int32)) _ _ h)
                        · refine FI h (fun h => ?_) (fun h => ?_)
                          · refine FI h (fun h => ?_) (fun h => ?_)
                            · exact z4_tr (z4_rf) (cR_takeRest_398_z4 l1 ((1 : Int32)) _ _ h)
                            · exact z4_tr (z4_rf) (cR_takeRest_398_z4 l1 ((0 : Int32)) _ _ h)
                          · refine FI h (fun h => ?_) (fun h => ?_)
                            · refine FI h (fun h => ?_) (fun h => ?_)
                              · exact z4_tr (z4_rf) (cR_takeRest_398_z4 l1 ((1 : Int32)) _ _ h)
                              · exact z4_tr (z4_rf) (cR_takeRest_398_z4 l1 ((0 : Int32)) _ _ h)
                            · refine FI h (fun h => ?_) (fun h => ?_)
                              · obtain ⟨s78, hs78, h⟩ := FB h
                                have f16 := z4_tr (z4_rf) (cR_must_z4 ((59 : Int32)) _ _ hs78)
                                exact YV h (f16)
                              · refine FI h (fun h => ?_) (fun h => ?_)
                                · exact z4_tr (z4_rf) (cR_takeRest_398_z4 l1 ((1 : Int32)) _ _ h)
                                · exact z4_tr (z4_rf) (cR_takeRest_398_z4 l1 ((0 : Int32)) _ _ h)
theorem cR_takeStatement_191_z4 (l4 : Int32) (t1 : Int32) (t2 : Int32) (s : ts) (r : ts) (h : cR_takeStatement_191 l4 t1 t2 s = some r) : z4 s r := by
  unfold cR_takeStatement_191 at h
  replace h := FG h
  obtain ⟨s3, hs3, h⟩ := FB h
  have f1 := z4_tr (z4_wA (z4_rf) rfl) (cR_next_z4 _ _ hs3)
  obtain ⟨s6, hs6, h⟩ := FB h
  have f2 := z4_tr (f1) (cR_must_z4 ((61 : Int32)) _ _ hs6)
  obtain ⟨x10, hx10, h⟩ := FB h
  have f3 := z4_tr (f2) (cR_takeExp_z4 ((0 : Int32)) _ _ hx10)
  replace h := FG h
  obtain ⟨s13, hs13, h⟩ := FB h
  have f4 := z4_tr (z4_wA (f3) rfl) (cR_must_z4 ((59 : Int32)) _ _ hs13)
  exact YV h (f4)
theorem cR_takeStatement_163_z4 (l3 : Int32) (t1 : Int32) (s : ts) (r : ts) (h : cR_takeStatement_163 l3 t1 s = some r) : z4 s r := by
  unfold cR_takeStatement_163 at h
  obtain ⟨x3, hx3, h⟩ := FB h
  have f1 := z4_tr (z4_rf) (z4_fr rfl rfl (cR_line_fr t1 _ _ hx3))
  refine FI h (fun h => ?_) (fun h => ?_)
  · obtain ⟨x6, hx6, h⟩ := FB h
    have f2 := z4_tr (f1) (z4_fr rfl rfl (cR_findNumber_fr (gJ x3.2 1108 0) _ _ hx6))
    exact z4_tr (f2) (cR_takeStatement_191_z4 x3.1 x3.1 x6.1 _ _ h)
  · exact z4_tr (f1) (cR_takeStatement_191_z4 x3.1 x3.1 l3 _ _ h)
theorem cR_takeStatement_116_z4 (l1 : Int32) (l2 : Int32) (t1 : Int32) (s : ts) (r : ts) (h : cR_takeStatement_116 l1 l2 t1 s = some r) : z4 s r := by
  unfold cR_takeStatement_116 at h
  obtain ⟨s2, hs2, h⟩ := FB h
  have f1 := z4_tr (z4_rf) (cR_limit_z4 t1 _ _ hs2)
  obtain ⟨x6, hx6, h⟩ := FB h
  have f2 := z4_tr (f1) (z4_fr rfl rfl (cR_good_fr _ _ hx6))
  refine FI h (fun h => ?_) (fun h => ?_)
  · exact YV h (f2)
  · refine FI h (fun h => ?_) (fun h => ?_)
    · obtain ⟨x9, hx9, h⟩ := FB h
      have f3 := z4_tr (z4_wI (f2) rfl) (z4_fr rfl rfl (cR_line_fr l1 _ _ hx9))
      obtain ⟨s11, hs11, h⟩ := FB h
      have f4 := z4_tr (f3) (cR_next_z4 _ _ hs11)
      obtain ⟨s14, hs14, h⟩ := FB h
      have f5 := z4_tr (f4) (cR_takeRest_z4 x9.1 l1 _ _ hs14)
      exact YV h (f5)
    · obtain ⟨x18, hx18, h⟩ := FB h
      have f6 := z4_tr (z4_wI (f2) rfl) (z4_fr rfl rfl (cR_findLocal_fr (gJ (wI x6.2 1126 0 ((gI x6.2 1126 0) + ((1 : Int32)))) 1108 0) _ _ hx18))
      refine FI h (fun h => ?_) (fun h => ?_)
      · exact z4_tr (f6) (cR_takeStatement_163_z4 x18.1 ((25 : Int32)) _ _ h)
      · exact z4_tr (f6) (cR_takeStatement_163_z4 x18.1 ((24 : Int32)) _ _ h)
theorem cR_takeStatement_100_z4 (l1 : Int32) (l2 : Int32) (s : ts) (r : ts) (h : cR_takeStatement_100 l1 l2 s = some r) : z4 s r := by
  unfold cR_takeStatement_100 at h
  refine FI h (fun h => ?_) (fun h => ?_)
  · exact z4_tr (z4_rf) (cR_takeStatement_116_z4 l1 l2 ((0 : Int32)) _ _ h)
  · exact z4_tr (z4_rf) (cR_takeStatement_116_z4 l1 l2 ((1 : Int32)) _ _ h)
theorem cR_takeStatement_96_z4 (l1 : Int32) (l2 : Int32) (t1 : Int32) (s : ts) (r : ts) (h : cR_takeStatement_96 l1 l2 t1 s = some r) : z4 s r := by
  unfold cR_takeStatement_96 at h
  obtain ⟨s2, hs2, h⟩ := FB h
  have f1 := z4_tr (z4_rf) (cR_need_z4 t1 ((4 : Int32)) (by decide) _ _ hs2)
  exact z4_tr (f1) (cR_takeStatement_100_z4 l1 l2 _ _ h)
theorem cR_takeStatement_51_z4 (l1 : Int32) (l2 : Int32) (t1 : Int32) (s : ts) (r : ts) (h : cR_takeStatement_51 l1 l2 t1 s = some r) : z4 s r := by
  unfold cR_takeStatement_51 at h
  obtain ⟨s2, hs2, h⟩ := FB h
  have f1 := z4_tr (z4_rf) (cR_need_z4 t1 ((2 : Int32)) (by decide) _ _ hs2)
  obtain ⟨x6, hx6, h⟩ := FB h
  have f2 := z4_tr (f1) (z4_fr rfl rfl (cR_good_fr _ _ hx6))
  refine FI h (fun h => ?_) (fun h => ?_)
  · exact z4_tr (f2) (cR_takeStatement_100_z4 l1 l2 _ _ h)
  · refine FI h (fun h => ?_) (fun h => ?_)
    · exact z4_tr (f2) (cR_takeStatement_100_z4 l1 l2 _ _ h)
    · obtain ⟨x9, hx9, h⟩ := FB h
      have f3 := z4_tr (f2) (z4_fr rfl rfl (cR_findLocal_fr (gJ x6.2 1108 0) _ _ hx9))
      refine FI h (fun h => ?_) (fun h => ?_)
      · obtain ⟨x12, hx12, h⟩ := FB h
        have f4 := z4_tr (f3) (z4_fr rfl rfl (cR_findNumber_fr (gJ x9.2 1108 0) _ _ hx12))
        refine FI h (fun h => ?_) (fun h => ?_)
        · exact z4_tr (f4) (cR_takeStatement_96_z4 l1 l2 ((0 : Int32)) _ _ h)
        · exact z4_tr (f4) (cR_takeStatement_96_z4 l1 l2 ((1 : Int32)) _ _ h)
      · exact z4_tr (f3) (cR_takeStatement_96_z4 l1 l2 ((1 : Int32)) _ _ h)
theorem cR_takeStatement_23_z4 (l1 : Int32) (t0 : Int32) (s : ts) (r : ts) (h : cR_takeStatement_23 l1 t0 s = some r) : z4 s r := by
  unfold cR_takeStatement_23 at h
  refine FI h (fun h => ?_) (fun h => ?_)
  · refine FI h (fun h => ?_) (fun h => ?_)
    · exact z4_tr (z4_rf) (cR_takeStatement_51_z4 l1 t0 ((0 : Int32)) _ _ h)
    · refine FI h (fun h => ?_) (fun h => ?_)
      · exact z4_tr (z4_rf) (cR_takeStatement_51_z4 l1 t0 ((0 : Int32)) _ _ h)
      · refine FI h (fun h => ?_) (fun h => ?_)
        · exact z4_tr (z4_rf) (cR_takeStatement_51_z4 l1 t0 ((0 : Int32)) _ _ h)
        · exact z4_tr (z4_rf) (cR_takeStatement_51_z4 l1 t0 ((1 : Int32)) _ _ h)
  · exact z4_tr (z4_rf) (cR_takeStatement_51_z4 l1 t0 ((1 : Int32)) _ _ h)
theorem cR_takeStatement_z4 (s : ts) (r : ts) (h : cR_takeStatement s = some r) : z4 s r := by
  unfold cR_takeStatement at h
  obtain ⟨x3, hx3, h⟩ := FB h
  have f1 := z4_tr (z4_rf) (z4_fr rfl rfl (cR_reserved_fr _ _ hx3))
  refine FI h (fun h => ?_) (fun h => ?_)
  · refine FI h (fun h => ?_) (fun h => ?_)
    · exact z4_tr (f1) (cR_takeStatement_23_z4 x3.1 ((1 : Int32)) _ _ h)
    · exact z4_tr (f1) (cR_takeStatement_23_z4 x3.1 ((0 : Int32)) _ _ h)
  · exact z4_tr (f1) (cR_takeStatement_23_z4 x3.1 ((0 : Int32)) _ _ h)
theorem cR_takeProcess_224_z4 (s : ts) (r : ts) (h : cR_takeProcess_224 s = some r) : z4 s r := by
  unfold cR_takeProcess_224 at h
  obtain ⟨x3, hx3, h⟩ := FB h
  have f1 := z4_tr (z4_rf) (z4_fr rfl rfl (cR_line_fr ((27 : Int32)) _ _ hx3))
  exact YV h (f1)
theorem cR_takeProcess_187_b_z4 (kk : ts → Option (ts)) (hkk : ∀ (s : ts) (r : ts), kk s = some r → z4 s r) (s : ts) (r : ts) (h : cR_takeProcess_187_b kk s = some r) : z4 s r := by
  unfold cR_takeProcess_187_b at h
  obtain ⟨x3, hx3, h⟩ := FB h
  have f1 := z4_tr (z4_rf) (z4_fr rfl rfl (cR_good_fr _ _ hx3))
  refine FI h (fun h => ?_) (fun h => ?_)
  · exact z4_tr (f1) (cR_takeProcess_224_z4 _ _ h)
  · refine FI h (fun h => ?_) (fun h => ?_)
    · exact z4_tr (f1) (cR_takeProcess_224_z4 _ _ h)
    · refine FI h (fun h => ?_) (fun h => ?_)
      · obtain ⟨s8, hs8, h⟩ := FB h
        have f2 := z4_tr (f1) (cR_endBlock_z4 _ _ hs8)
        exact z4_tr (f2) (hkk _ _ h)
      · obtain ⟨s5, hs5, h⟩ := FB h
        have f3 := z4_tr (f1) (cR_takeStatement_z4 _ _ hs5)
        exact z4_tr (f3) (hkk _ _ h)
theorem cR_takeProcess_187_z4 : ∀ (n : Nat) (s : ts) (r : ts), cR_takeProcess_187 n s = some r → z4 s r := by
  intro n
  induction n with
  | zero => intro s r h; exact FN h
  | succ n ih =>
    intro s r h
    rw [cR_takeProcess_187.eq_2] at h
    exact cR_takeProcess_187_b_z4 (cR_takeProcess_187 n) ih s r h
theorem cR_takeProcess_150_z4 (l1 : Int32) (s : ts) (r : ts) (h : cR_takeProcess_150 l1 s = some r) : z4 s r := by
  unfold cR_takeProcess_150 at h
  replace h := FG h
  obtain ⟨s3, hs3, h⟩ := FB h
  have f1 := z4_tr (z4_wA (z4_rf) rfl) (cR_must_z4 ((41 : Int32)) _ _ hs3)
  obtain ⟨s6, hs6, h⟩ := FB h
  have f2 := z4_tr (z4_wI (z4_wA (f1) rfl) rfl) (cR_beginBlock_z4 ((3 : Int32)) ((0 : Int32)) _ _ hs6)
  exact z4_tr (f2) (cR_takeProcess_187_z4 tm_N _ _ h)
theorem cR_takeProcess_138_z4 (k97 : Int32 → Int32 → ts → Option (ts)) (hk97 : ∀ (a0 : Int32) (a1 : Int32) (s : ts) (r : ts), k97 a0 a1 s = some r → z4 s r) (l1 : Int32) (t0 : Int32) (s : ts) (r : ts) (h : cR_takeProcess_138 k97 l1 t0 s = some r) : z4 s r := by
  unfold cR_takeProcess_138 at h
  refine FI h (fun h => ?_) (fun h => ?_)
  · exact z4_tr (z4_rf) (hk97 l1 t0 _ _ h)
  · obtain ⟨s2, hs2, h⟩ := FB h
    have f1 := z4_tr (z4_rf) (cR_next_z4 _ _ hs2)
    exact z4_tr (f1) (hk97 l1 t0 _ _ h)
theorem cR_takeProcess_97_b_z4 (kk : Int32 → Int32 → ts → Option (ts)) (hkk : ∀ (a0 : Int32) (a1 : Int32) (s : ts) (r : ts), kk a0 a1 s = some r → z4 s r) (l1 : Int32) (l2 : Int32) (s : ts) (r : ts) (h : cR_takeProcess_97_b kk l1 l2 s = some r) : z4 s r := by
  unfold cR_takeProcess_97_b at h
  refine FI h (fun h => ?_) (fun h => ?_)
  · exact z4_tr (z4_rf) (cR_takeProcess_150_z4 l1 _ _ h)
  · obtain ⟨x3, hx3, h⟩ := FB h
    have f1 := z4_tr (z4_rf) (z4_fr rfl rfl (cR_good_fr _ _ hx3))
    refine FI h (fun h => ?_) (fun h => ?_)
    · exact z4_tr (f1) (cR_takeProcess_150_z4 l1 _ _ h)
    · obtain ⟨s5, hs5, h⟩ := FB h
      have f2 := z4_tr (f1) (cR_takeLocal_z4 _ _ hs5)
      obtain ⟨s8, hs8, h⟩ := FB h
      have f3 := z4_tr (f2) (z4_fr rfl rfl (cR_addLocal_fr (gJ s5 1108 0) _ _ hs8))
      obtain ⟨s11, hs11, h⟩ := FB h
      have f4 := z4_tr (f3) (cR_next_z4 _ _ hs11)
      refine FI h (fun h => ?_) (fun h => ?_)
      · exact z4_tr (f4) (cR_takeProcess_138_z4 kk hkk l1 ((1 : Int32)) _ _ h)
      · exact z4_tr (f4) (cR_takeProcess_138_z4 kk hkk l1 ((0 : Int32)) _ _ h)
theorem cR_takeProcess_97_z4 : ∀ (n : Nat) (l1 : Int32) (l2 : Int32) (s : ts) (r : ts), cR_takeProcess_97 n l1 l2 s = some r → z4 s r := by
  intro n
  induction n with
  | zero => intro l1 l2 s r h; exact FN h
  | succ n ih =>
    intro l1 l2 s r h
    rw [cR_takeProcess_97.eq_2] at h
    exact cR_takeProcess_97_b_z4 (cR_takeProcess_97 n) ih l1 l2 s r h
theorem cR_takeProcess_24_z4 (t1 : Int32) (s : ts) (r : ts) (h : cR_takeProcess_24 t1 s = some r) : z4 s r := by
  unfold cR_takeProcess_24 at h
  obtain ⟨s2, hs2, h⟩ := FB h
  have f1 := z4_tr (z4_rf) (cR_limit_z4 t1 _ _ hs2)
  obtain ⟨x6, hx6, h⟩ := FB h
  have f2 := z4_tr (f1) (z4_fr rfl rfl (cR_good_fr _ _ hx6))
  refine FI h (fun h => ?_) (fun h => ?_)
  · exact YV h (f2)
  · replace h := FG h
    obtain ⟨s9, hs9, h⟩ := FB h
    have f3 := z4_tr (z4_wI (z4_wI (z4_wB (f2) rfl) rfl) rfl) (cR_next_z4 _ _ hs9)
    obtain ⟨s12, hs12, h⟩ := FB h
    have f4 := z4_tr (f3) (cR_must_z4 ((40 : Int32)) _ _ hs12)
    obtain ⟨x16, hx16, h⟩ := FB h
    have f5 := z4_tr (f4) (z4_fr rfl rfl (cR_good_fr _ _ hx16))
    refine FI h (fun h => ?_) (fun h => ?_)
    · exact z4_tr (f5) (cR_takeProcess_97_z4 tm_N (gI x6.2 1119 0) ((0 : Int32)) _ _ h)
    · refine FI h (fun h => ?_) (fun h => ?_)
      · exact z4_tr (f5) (cR_takeProcess_97_z4 tm_N (gI x6.2 1119 0) ((0 : Int32)) _ _ h)
      · exact z4_tr (f5) (cR_takeProcess_97_z4 tm_N (gI x6.2 1119 0) ((1 : Int32)) _ _ h)
theorem cR_takeProcess_z4 (s : ts) (r : ts) (h : cR_takeProcess s = some r) : z4 s r := by
  unfold cR_takeProcess at h
  obtain ⟨s2, hs2, h⟩ := FB h
  have f1 := z4_tr (z4_rf) (cR_next_z4 _ _ hs2)
  obtain ⟨s5, hs5, h⟩ := FB h
  have f2 := z4_tr (f1) (cR_freshName_z4 ((0 : Int32)) _ _ hs5)
  refine FI h (fun h => ?_) (fun h => ?_)
  · exact z4_tr (f2) (cR_takeProcess_24_z4 ((0 : Int32)) _ _ h)
  · exact z4_tr (f2) (cR_takeProcess_24_z4 ((1 : Int32)) _ _ h)
theorem cR_load_245_z4 (s : ts) (r : Int32 × ts) (h : cR_load_245 s = some r) : z4 s r.2 := by
  unfold cR_load_245 at h
  obtain ⟨x3, hx3, h⟩ := FB h
  have f1 := z4_tr (z4_wI (z4_rf) rfl) (z4_fr rfl rfl (cR_good_fr _ _ hx3))
  refine FI h (fun h => ?_) (fun h => ?_)
  · exact YS h (f1)
  · obtain ⟨s5, hs5, h⟩ := FB h
    have f2 := z4_tr (z4_wI (f1) rfl) (z4_fr rfl rfl (cR_beginAll_fr _ _ hs5))
    exact YS h (f2)
theorem cR_load_220_z4 (k163 : Int32 → ts → Option (Int32 × ts)) (hk163 : ∀ (a0 : Int32) (s : ts) (r : Int32 × ts), k163 a0 s = some r → z4 s r.2) (l1 : Int32) (l2 : Int32) (s : ts) (r : Int32 × ts) (h : cR_load_220 k163 l1 l2 s = some r) : z4 s r.2 := by
  unfold cR_load_220 at h
  replace h := FG h
  obtain ⟨s3, hs3, h⟩ := FB h
  have f1 := z4_tr (z4_rf) (cR_fail_z4 ((6 : Int32)) (gA s 107 l1.toNatClampNeg) (by decide) _ _ hs3)
  exact z4_tr (z4_wA (f1) rfl) (hk163 (l1 + (1 : Int32)) _ _ h)
theorem cR_load_163_b_z4 (kk : Int32 → ts → Option (Int32 × ts)) (hkk : ∀ (a0 : Int32) (s : ts) (r : Int32 × ts), kk a0 s = some r → z4 s r.2) (l1 : Int32) (s : ts) (r : Int32 × ts) (h : cR_load_163_b kk l1 s = some r) : z4 s r.2 := by
  unfold cR_load_163_b at h
  refine FI h (fun h => ?_) (fun h => ?_)
  · exact z4_tr (z4_rf) (cR_load_245_z4 _ _ h)
  · obtain ⟨x3, hx3, h⟩ := FB h
    have f1 := z4_tr (z4_rf) (z4_fr rfl rfl (cR_good_fr _ _ hx3))
    refine FI h (fun h => ?_) (fun h => ?_)
    · exact z4_tr (f1) (cR_load_245_z4 _ _ h)
    · replace h := FG h
      refine FI h (fun h => ?_) (fun h => ?_)
      · obtain ⟨x7, hx7, h⟩ := FB h
        have f2 := z4_tr (f1) (z4_fr rfl rfl (cR_findDefinition_fr (gB x3.2 106 l1.toNatClampNeg) _ _ hx7))
        refine FI h (fun h => ?_) (fun h => ?_)
        · exact z4_tr (f2) (cR_load_220_z4 kk hkk l1 x7.1 _ _ h)
        · replace h := FG h
          refine FI h (fun h => ?_) (fun h => ?_)
          · exact z4_tr (z4_wA (f2) rfl) (hkk (l1 + (1 : Int32)) _ _ h)
          · exact z4_tr (f2) (cR_load_220_z4 kk hkk l1 x7.1 _ _ h)
      · exact z4_tr (f1) (hkk (l1 + (1 : Int32)) _ _ h)
theorem cR_load_163_z4 : ∀ (n : Nat) (l1 : Int32) (s : ts) (r : Int32 × ts), cR_load_163 n l1 s = some r → z4 s r.2 := by
  intro n
  induction n with
  | zero => intro l1 s r h; exact FN h
  | succ n ih =>
    intro l1 s r h
    rw [cR_load_163.eq_2] at h
    exact cR_load_163_b_z4 (cR_load_163 n) ih l1 s r h
theorem cR_load_108_z4 (k74 : ts → Option (Int32 × ts)) (hk74 : ∀ (s : ts) (r : Int32 × ts), k74 s = some r → z4 s r.2) (l1 : Int32) (t1 : Int32) (s : ts) (r : Int32 × ts) (h : cR_load_108 k74 l1 t1 s = some r) : z4 s r.2 := by
  unfold cR_load_108 at h
  obtain ⟨s2, hs2, h⟩ := FB h
  have f1 := z4_tr (z4_rf) (cR_need_z4 t1 ((2 : Int32)) (by decide) _ _ hs2)
  refine FI h (fun h => ?_) (fun h => ?_)
  · obtain ⟨s20, hs20, h⟩ := FB h
    have f2 := z4_tr (f1) (cR_takeResource_z4 _ _ hs20)
    exact z4_tr (f2) (hk74 _ _ h)
  · refine FI h (fun h => ?_) (fun h => ?_)
    · obtain ⟨s16, hs16, h⟩ := FB h
      have f3 := z4_tr (f1) (cR_takeStore_z4 _ _ hs16)
      exact z4_tr (f3) (hk74 _ _ h)
    · refine FI h (fun h => ?_) (fun h => ?_)
      · obtain ⟨s12, hs12, h⟩ := FB h
        have f4 := z4_tr (f1) (cR_takeNumbers_z4 _ _ hs12)
        exact z4_tr (f4) (hk74 _ _ h)
      · obtain ⟨x6, hx6, h⟩ := FB h
        have f5 := z4_tr (f1) (z4_fr rfl rfl (cR_good_fr _ _ hx6))
        refine FI h (fun h => ?_) (fun h => ?_)
        · exact z4_tr (f5) (hk74 _ _ h)
        · obtain ⟨s8, hs8, h⟩ := FB h
          have f6 := z4_tr (f5) (cR_takeProcess_z4 _ _ hs8)
          exact z4_tr (f6) (hk74 _ _ h)
theorem cR_load_74_b_z4 (kk : ts → Option (Int32 × ts)) (hkk : ∀ (s : ts) (r : Int32 × ts), kk s = some r → z4 s r.2) (s : ts) (r : Int32 × ts) (h : cR_load_74_b kk s = some r) : z4 s r.2 := by
  unfold cR_load_74_b at h
  obtain ⟨x3, hx3, h⟩ := FB h
  have f1 := z4_tr (z4_rf) (z4_fr rfl rfl (cR_good_fr _ _ hx3))
  refine FI h (fun h => ?_) (fun h => ?_)
  · exact z4_tr (f1) (cR_load_163_z4 tm_N ((0 : Int32)) _ _ h)
  · refine FI h (fun h => ?_) (fun h => ?_)
    · exact z4_tr (f1) (cR_load_163_z4 tm_N ((0 : Int32)) _ _ h)
    · obtain ⟨x6, hx6, h⟩ := FB h
      have f2 := z4_tr (f1) (z4_fr rfl rfl (cR_reserved_fr _ _ hx6))
      refine FI h (fun h => ?_) (fun h => ?_)
      · exact z4_tr (f2) (cR_load_108_z4 kk hkk x6.1 ((0 : Int32)) _ _ h)
      · refine FI h (fun h => ?_) (fun h => ?_)
        · exact z4_tr (f2) (cR_load_108_z4 kk hkk x6.1 ((0 : Int32)) _ _ h)
        · exact z4_tr (f2) (cR_load_108_z4 kk hkk x6.1 ((1 : Int32)) _ _ h)
theorem cR_load_74_z4 : ∀ (n : Nat) (s : ts) (r : Int32 × ts), cR_load_74 n s = some r → z4 s r.2 := by
  intro n
  induction n with
  | zero => intro s r h; exact FN h
  | succ n ih =>
    intro s r h
    rw [cR_load_74.eq_2] at h
    exact cR_load_74_b_z4 (cR_load_74 n) ih s r h
