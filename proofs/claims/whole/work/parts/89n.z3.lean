/-! FIELD 302: it is 0 behind the readers where it was 0 before. Printed by wip/tools/gen_z3.py. -/
def z3 (s s1 : ts) : Prop := gI s 302 0 = 0 → gI s1 302 0 = 0
theorem z3_rf {s : ts} : z3 s s := fun h => h
theorem z3_tr {s s1 s2 : ts} (h : z3 s s1) (k : z3 s1 s2) : z3 s s2 := fun z => k (h z)
theorem z3_fr {W : List Nat} {s s1 : ts} (hd : W.contains 302 = false) (h : fr W s s1) : z3 s s1 := fun z => (h.1 302 hd 0).trans z
theorem z3_wI {s s1 : ts} {f i : Nat} {x : Int32} (h : z3 s s1) (hf : Nat.beq f 302 = false) : z3 s (wI s1 f i x) := fun z => (gI_wIn (fun e => by rw [← e] at hf; exact absurd hf (by decide))).trans (h z)
theorem z3_wA {s s1 : ts} {f i : Nat} {x : Int32} (h : z3 s s1) (_ : true = true) : z3 s (wA s1 f i x) := h
theorem z3_wB {s s1 : ts} {f i : Nat} {x : Int64} (h : z3 s s1) (_ : true = true) : z3 s (wB s1 f i x) := h
theorem ZS {α : Type} {s s' : ts} {v : α} {r : α × ts} (h : some (v, s') = some r) (k : z3 s s') : z3 s r.2 := by cases h; exact k
theorem ZV {s s' r : ts} (h : some s' = some r) (k : z3 s s') : z3 s r := by cases h; exact k
theorem cD_readPlain_24_z3 (l1 : Int32) (l2 : Int32) (l3 : Int32) (t1 : Int32) (s : ts) (r : Int32 × ts) (h : cD_readPlain_24 l1 l2 l3 t1 s = some r) : z3 s r.2 := by
  unfold cD_readPlain_24 at h
  replace h := FG h
  obtain ⟨x4, hx4, h⟩ := FB h
  have f1 : z3 s (wI x4.2 302 0 ((0 : Int32))) := fun _ => gI_wIs
  refine FI h (fun h => ?_) (fun h => ?_)
  · exact ZS h f1
  · obtain ⟨x7, hx7, h⟩ := FB h
    have f2 := z3_tr f1 (z3_fr rfl (cD_closeStatement_fr l1 l2 l3 _ _ hx7))
    refine FI h (fun h => ?_) (fun h => ?_)
    · exact ZS h (f2)
    · exact ZS h (f2)
theorem cD_readPlain_z3 (l1 : Int32) (l2 : Int32) (s : ts) (r : Int32 × ts) (h : cD_readPlain l1 l2 s = some r) : z3 s r.2 := by
  unfold cD_readPlain at h
  refine FI h (fun h => ?_) (fun h => ?_)
  · exact z3_tr (z3_rf) (cD_readPlain_24_z3 l1 l2 (gI s 217 0) ((1 : Int32)) _ _ h)
  · exact z3_tr (z3_rf) (cD_readPlain_24_z3 l1 l2 (gI s 217 0) ((0 : Int32)) _ _ h)
theorem cD_readIf_z3 (rc : Nat → Int32 → ts → Option (Int32 × ts)) (hrc : ∀ (a0 : Nat) (a1 : Int32) (s : ts) (r : Int32 × ts), rc a0 a1 s = some r → z3 s r.2) (l1 : Int32) (s : ts) (r : Int32 × ts) (h : cD_readIf rc l1 s = some r) : z3 s r.2 := by
  unfold cD_readIf at h
  obtain ⟨x3, hx3, h⟩ := FB h
  have f1 := z3_tr (z3_rf) (z3_fr rfl (clF_fr 200 0 ((0 : Int32)) _ _ hx3))
  refine FI h (fun h => ?_) (fun h => ?_)
  · exact ZS h (f1)
  · obtain ⟨x6, hx6, h⟩ := FB h
    have f2 := z3_tr (f1) (z3_fr rfl (cG_addAct_fr ((517 : Int32)) ((-2 : Int32)) (gI s 217 0) _ _ hx6))
    obtain ⟨x9, hx9, h⟩ := FB h
    have f3 := z3_tr (f2) (hrc 0 (l1 + ((1 : Int32))) _ _ hx9)
    refine FI h (fun h => ?_) (fun h => ?_)
    · exact ZS h (f3)
    · refine FI h (fun h => ?_) (fun h => ?_)
      · obtain ⟨s11, hs11, h⟩ := FB h
        have f4 := z3_tr (f3) (z3_fr rfl (cT_advance_fr _ _ hs11))
        obtain ⟨x15, hx15, h⟩ := FB h
        have f5 := z3_tr (f4) (z3_fr rfl (cG_addAct_fr ((2 : Int32)) ((-2 : Int32)) (gI s11 217 0) _ _ hx15))
        obtain ⟨s17, hs17, h⟩ := FB h
        have f6 := z3_tr (f5) (z3_fr rfl (cG_aim_fr x6.1 (gI x15.2 214 0) _ _ hs17))
        obtain ⟨x21, hx21, h⟩ := FB h
        have f7 := z3_tr (f6) (hrc 0 (l1 + ((1 : Int32))) _ _ hx21)
        refine FI h (fun h => ?_) (fun h => ?_)
        · exact ZS h (f7)
        · obtain ⟨s23, hs23, h⟩ := FB h
          have f8 := z3_tr (f7) (z3_fr rfl (cG_aim_fr x15.1 (gI x21.2 214 0) _ _ hs23))
          exact ZS h (f8)
      · obtain ⟨s27, hs27, h⟩ := FB h
        have f9 := z3_tr (f3) (z3_fr rfl (cG_aim_fr x6.1 (gI x9.2 214 0) _ _ hs27))
        exact ZS h (f9)
theorem cD_readWhile_z3 (rc : Nat → Int32 → ts → Option (Int32 × ts)) (hrc : ∀ (a0 : Nat) (a1 : Int32) (s : ts) (r : Int32 × ts), rc a0 a1 s = some r → z3 s r.2) (l1 : Int32) (s : ts) (r : Int32 × ts) (h : cD_readWhile rc l1 s = some r) : z3 s r.2 := by
  unfold cD_readWhile at h
  obtain ⟨x3, hx3, h⟩ := FB h
  have f1 := z3_tr (z3_rf) (z3_fr rfl (clF_fr 200 0 ((0 : Int32)) _ _ hx3))
  refine FI h (fun h => ?_) (fun h => ?_)
  · exact ZS h (f1)
  · obtain ⟨x6, hx6, h⟩ := FB h
    have f2 := z3_tr (f1) (z3_fr rfl (cG_addAct_fr ((519 : Int32)) ((-2 : Int32)) (gI s 217 0) _ _ hx6))
    obtain ⟨x9, hx9, h⟩ := FB h
    have f3 := z3_tr (f2) (hrc 0 (l1 + ((1 : Int32))) _ _ hx9)
    refine FI h (fun h => ?_) (fun h => ?_)
    · exact ZS h (f3)
    · obtain ⟨x12, hx12, h⟩ := FB h
      have f4 := z3_tr (f3) (z3_fr rfl (cG_addAct_fr ((2 : Int32)) x6.1 (gI x9.2 217 0) _ _ hx12))
      obtain ⟨s14, hs14, h⟩ := FB h
      have f5 := z3_tr (f4) (z3_fr rfl (cG_aim_fr x6.1 (gI x12.2 214 0) _ _ hs14))
      exact ZS h (f5)
theorem cD_readStatement_21_z3 (rc : Nat → Int32 → ts → Option (Int32 × ts)) (hrc : ∀ (a0 : Nat) (a1 : Int32) (s : ts) (r : Int32 × ts), rc a0 a1 s = some r → z3 s r.2) (l1 : Int32) (l2 : Int32) (s : ts) (r : Int32 × ts) (h : cD_readStatement_21 rc l1 l2 s = some r) : z3 s r.2 := by
  unfold cD_readStatement_21 at h
  refine FI h (fun h => ?_) (fun h => ?_)
  · obtain ⟨x3, hx3, h⟩ := FB h
    have f1 := z3_tr (z3_wI (z3_rf) rfl) (z3_fr rfl (cT_word_fr _ _ hx3))
    obtain ⟨s5, hs5, h⟩ := FB h
    have f2 := z3_tr (f1) (z3_fr rfl (cT_advance_fr _ _ hs5))
    refine FI h (fun h => ?_) (fun h => ?_)
    · obtain ⟨x9, hx9, h⟩ := FB h
      have f3 := z3_tr (f2) (z3_fr rfl (cT_need_fr ((61 : Int32)) _ _ hx9))
      refine FI h (fun h => ?_) (fun h => ?_)
      · exact ZS h (f3)
      · obtain ⟨x12, hx12, h⟩ := FB h
        have f4 := z3_tr (f3) (z3_fr rfl (cG_findValue_fr x3.1 _ _ hx12))
        obtain ⟨x15, hx15, h⟩ := FB h
        have f5 := z3_tr (f4) (cD_readPlain_z3 ((1 : Int32)) x12.1 _ _ hx15)
        refine FI h (fun h => ?_) (fun h => ?_)
        · exact ZS h (f5)
        · exact ZS h (f5)
    · refine FI h (fun h => ?_) (fun h => ?_)
      · obtain ⟨x21, hx21, h⟩ := FB h
        have f6 := z3_tr (f2) (z3_fr rfl (cD_readLet_fr _ _ hx21))
        exact ZS h (f6)
      · refine FI h (fun h => ?_) (fun h => ?_)
        · obtain ⟨x25, hx25, h⟩ := FB h
          have f7 := z3_tr (f2) (hrc 2 l1 _ _ hx25)
          exact ZS h (f7)
        · refine FI h (fun h => ?_) (fun h => ?_)
          · obtain ⟨x29, hx29, h⟩ := FB h
            have f8 := z3_tr (f2) (hrc 3 l1 _ _ hx29)
            exact ZS h (f8)
          · refine FI h (fun h => ?_) (fun h => ?_)
            · obtain ⟨x33, hx33, h⟩ := FB h
              have f9 := z3_tr (f2) (z3_fr rfl (cD_readUse_fr (gI (wI s 403 0 ((gI s 403 0) + ((1 : Int32)))) 107 0) ((1 : Int32)) _ _ hx33))
              exact ZS h (f9)
            · refine FI h (fun h => ?_) (fun h => ?_)
              · obtain ⟨x37, hx37, h⟩ := FB h
                have f10 := z3_tr (f2) (z3_fr rfl (cD_readUse_fr (gI (wI s 403 0 ((gI s 403 0) + ((1 : Int32)))) 107 0) ((1 : Int32)) _ _ hx37))
                exact ZS h (f10)
              · refine FI h (fun h => ?_) (fun h => ?_)
                · obtain ⟨x41, hx41, h⟩ := FB h
                  have f11 := z3_tr (f2) (z3_fr rfl (cD_readUse_fr (gI (wI s 403 0 ((gI s 403 0) + ((1 : Int32)))) 107 0) ((0 : Int32)) _ _ hx41))
                  exact ZS h (f11)
                · refine FI h (fun h => ?_) (fun h => ?_)
                  · obtain ⟨x45, hx45, h⟩ := FB h
                    have f12 := z3_tr (f2) (z3_fr rfl (cD_readUse_fr (gI (wI s 403 0 ((gI s 403 0) + ((1 : Int32)))) 107 0) ((0 : Int32)) _ _ hx45))
                    exact ZS h (f12)
                  · refine FI h (fun h => ?_) (fun h => ?_)
                    · obtain ⟨x49, hx49, h⟩ := FB h
                      have f13 := z3_tr (f2) (z3_fr rfl (cD_readStart_fr _ _ hx49))
                      exact ZS h (f13)
                    · refine FI h (fun h => ?_) (fun h => ?_)
                      · obtain ⟨x53, hx53, h⟩ := FB h
                        have f14 := z3_tr (f2) (z3_fr rfl (cD_closeStatement_fr (gI (wI s 403 0 ((gI s 403 0) + ((1 : Int32)))) 107 0) ((-2 : Int32)) (gI s5 217 0) _ _ hx53))
                        exact ZS h (f14)
                      · obtain ⟨x57, hx57, h⟩ := FB h
                        have f15 := z3_tr (f2) (cD_readPlain_z3 (gI (wI s 403 0 ((gI s 403 0) + ((1 : Int32)))) 107 0) ((-2 : Int32)) _ _ hx57)
                        exact ZS h (f15)
  · obtain ⟨x60, hx60, h⟩ := FB h
    have f16 := z3_tr (z3_rf) (z3_fr rfl (cT_fail_fr l2 _ _ hx60))
    exact ZS h (f16)
theorem cD_readStatement_z3 (rc : Nat → Int32 → ts → Option (Int32 × ts)) (hrc : ∀ (a0 : Nat) (a1 : Int32) (s : ts) (r : Int32 × ts), rc a0 a1 s = some r → z3 s r.2) (l1 : Int32) (s : ts) (r : Int32 × ts) (h : cD_readStatement rc l1 s = some r) : z3 s r.2 := by
  unfold cD_readStatement at h
  obtain ⟨x3, hx3, h⟩ := FB h
  have f1 := z3_tr (z3_rf) (z3_fr rfl (cD_faultOfStatement_fr _ _ hx3))
  refine FI h (fun h => ?_) (fun h => ?_)
  · refine FI h (fun h => ?_) (fun h => ?_)
    · exact z3_tr (f1) (cD_readStatement_21_z3 rc hrc l1 x3.1 _ _ h)
    · exact z3_tr (f1) (cD_readStatement_21_z3 rc hrc l1 ((5 : Int32)) _ _ h)
  · exact z3_tr (f1) (cD_readStatement_21_z3 rc hrc l1 x3.1 _ _ h)
theorem cD_readBlock_78_z3 (rc : Nat → Int32 → ts → Option (Int32 × ts)) (hrc : ∀ (a0 : Nat) (a1 : Int32) (s : ts) (r : Int32 × ts), rc a0 a1 s = some r → z3 s r.2) (s : ts) (r : Int32 × ts) (h : cD_readBlock_78 rc s = some r) : z3 s r.2 := by
  unfold cD_readBlock_78 at h
  obtain ⟨x3, hx3, h⟩ := FB h
  have f1 := z3_tr (z3_rf) (z3_fr rfl (cT_need_fr ((125 : Int32)) _ _ hx3))
  exact ZS h (f1)
theorem cD_readBlock_43_b_z3 (rc : Nat → Int32 → ts → Option (Int32 × ts)) (kk : Int32 → Int32 → ts → Option (Int32 × ts)) (hrc : ∀ (a0 : Nat) (a1 : Int32) (s : ts) (r : Int32 × ts), rc a0 a1 s = some r → z3 s r.2) (hkk : ∀ (a0 : Int32) (a1 : Int32) (s : ts) (r : Int32 × ts), kk a0 a1 s = some r → z3 s r.2) (l1 : Int32) (l2 : Int32) (s : ts) (r : Int32 × ts) (h : cD_readBlock_43_b rc kk l1 l2 s = some r) : z3 s r.2 := by
  unfold cD_readBlock_43_b at h
  refine FI h (fun h => ?_) (fun h => ?_)
  · exact z3_tr (z3_rf) (cD_readBlock_78_z3 rc hrc _ _ h)
  · refine FI h (fun h => ?_) (fun h => ?_)
    · exact z3_tr (z3_rf) (cD_readBlock_78_z3 rc hrc _ _ h)
    · obtain ⟨x3, hx3, h⟩ := FB h
      have f1 := z3_tr (z3_rf) (hrc 1 l1 _ _ hx3)
      refine FI h (fun h => ?_) (fun h => ?_)
      · exact ZS h (f1)
      · exact z3_tr (f1) (hkk l1 (l2 + (1 : Int32)) _ _ h)
theorem cD_readBlock_43_z3 (rc : Nat → Int32 → ts → Option (Int32 × ts)) (hrc : ∀ (a0 : Nat) (a1 : Int32) (s : ts) (r : Int32 × ts), rc a0 a1 s = some r → z3 s r.2) : ∀ (n : Nat) (l1 : Int32) (l2 : Int32) (s : ts) (r : Int32 × ts), cD_readBlock_43 rc n l1 l2 s = some r → z3 s r.2 := by
  intro n
  induction n with
  | zero => intro l1 l2 s r h; exact FN h
  | succ n ih =>
    intro l1 l2 s r h
    rw [cD_readBlock_43.eq_2] at h
    exact cD_readBlock_43_b_z3 rc (cD_readBlock_43 rc n) hrc ih l1 l2 s r h
theorem cD_readBlock_27_z3 (rc : Nat → Int32 → ts → Option (Int32 × ts)) (hrc : ∀ (a0 : Nat) (a1 : Int32) (s : ts) (r : Int32 × ts), rc a0 a1 s = some r → z3 s r.2) (l1 : Int32) (s : ts) (r : Int32 × ts) (h : cD_readBlock_27 rc l1 s = some r) : z3 s r.2 := by
  unfold cD_readBlock_27 at h
  obtain ⟨x3, hx3, h⟩ := FB h
  have f1 := z3_tr (z3_rf) (z3_fr rfl (cT_need_fr ((123 : Int32)) _ _ hx3))
  refine FI h (fun h => ?_) (fun h => ?_)
  · exact ZS h (f1)
  · exact z3_tr (f1) (cD_readBlock_43_z3 rc hrc tm_N l1 ((0 : Int32)) _ _ h)
theorem cD_readBlock_z3 (rc : Nat → Int32 → ts → Option (Int32 × ts)) (hrc : ∀ (a0 : Nat) (a1 : Int32) (s : ts) (r : Int32 × ts), rc a0 a1 s = some r → z3 s r.2) (l1 : Int32) (s : ts) (r : Int32 × ts) (h : cD_readBlock rc l1 s = some r) : z3 s r.2 := by
  unfold cD_readBlock at h
  refine FI h (fun h => ?_) (fun h => ?_)
  · refine FI h (fun h => ?_) (fun h => ?_)
    · exact z3_tr (z3_rf) (cD_readBlock_27_z3 rc hrc l1 _ _ h)
    · obtain ⟨x3, hx3, h⟩ := FB h
      have f1 := z3_tr (z3_rf) (z3_fr rfl (cT_fail_fr ((5 : Int32)) _ _ hx3))
      exact ZS h (f1)
  · exact z3_tr (z3_rf) (cD_readBlock_27_z3 rc hrc l1 _ _ h)
theorem clT_z3 : ∀ (n w : Nat) (a : Int32) (s : ts) (r : Int32 × ts), clT n w a s = some r → z3 s r.2 := by
  intro n
  induction n with
  | zero => intro w a s r h; exact FN h
  | succ n ih =>
    intro w a s r h
    rw [clT.eq_2] at h
    refine FI h (fun h => ?_) (fun h => ?_)
    · exact cD_readBlock_z3 (clT n) ih a s r h
    refine FI h (fun h => ?_) (fun h => ?_)
    · exact cD_readStatement_z3 (clT n) ih a s r h
    refine FI h (fun h => ?_) (fun h => ?_)
    · exact cD_readIf_z3 (clT n) ih a s r h
    refine FI h (fun h => ?_) (fun h => ?_)
    · exact cD_readWhile_z3 (clT n) ih a s r h
    exact FN h
theorem cD_readProcess_78_z3 (l1 : Int32) (s : ts) (r : Int32 × ts) (h : cD_readProcess_78 l1 s = some r) : z3 s r.2 := by
  unfold cD_readProcess_78 at h
  replace h := FG h
  obtain ⟨x4, hx4, h⟩ := FB h
  have f1 := z3_tr (z3_wA (z3_wA (z3_rf) rfl) rfl) (z3_fr rfl (cT_need_fr ((41 : Int32)) _ _ hx4))
  refine FI h (fun h => ?_) (fun h => ?_)
  · exact ZS h (f1)
  · obtain ⟨x7, hx7, h⟩ := FB h
    have f2 := z3_tr (f1) (clT_z3 60 0 ((0 : Int32)) _ _ hx7)
    refine FI h (fun h => ?_) (fun h => ?_)
    · exact ZS h (f2)
    · obtain ⟨s9, hs9, h⟩ := FB h
      have f3 := z3_tr (z3_wA (f2) rfl) (z3_fr rfl (cG_dropVariables_fr _ _ hs9))
      obtain ⟨x13, hx13, h⟩ := FB h
      have f4 := z3_tr (f3) (z3_fr rfl (cG_addAct_fr ((3 : Int32)) ((-2 : Int32)) (gI s9 217 0) _ _ hx13))
      exact ZS h (f4)
theorem cD_readProcess_z3 (s : ts) (r : Int32 × ts) (h : cD_readProcess s = some r) : z3 s r.2 := by
  unfold cD_readProcess at h
  obtain ⟨s2, hs2, h⟩ := FB h
  have f1 := z3_tr (z3_rf) (z3_fr rfl (cT_advance_fr _ _ hs2))
  obtain ⟨x6, hx6, h⟩ := FB h
  have f2 := z3_tr (f1) (z3_fr rfl (cD_tell_fr ((3 : Int32)) ((12 : Int32)) _ _ hx6))
  refine FI h (fun h => ?_) (fun h => ?_)
  · exact ZS h (f2)
  · obtain ⟨x9, hx9, h⟩ := FB h
    have f3 := z3_tr (f2) (z3_fr rfl (cG_isDefinition_fr (gA s2 16 ((3 : Int32)).toNatClampNeg) _ _ hx9))
    refine FI h (fun h => ?_) (fun h => ?_)
    · exact ZS h (f3)
    · obtain ⟨x12, hx12, h⟩ := FB h
      have f4 := z3_tr (f3) (z3_fr rfl (cT_need_fr ((40 : Int32)) _ _ hx12))
      refine FI h (fun h => ?_) (fun h => ?_)
      · exact ZS h (f4)
      · refine FI h (fun h => ?_) (fun h => ?_)
        · exact z3_tr (f4) (cD_readProcess_78_z3 (gA s2 16 ((3 : Int32)).toNatClampNeg) _ _ h)
        · obtain ⟨x15, hx15, h⟩ := FB h
          have f5 := z3_tr (f4) (z3_fr rfl (cD_readWords_fr ((4 : Int32)) ((8 : Int32)) _ _ hx15))
          refine FI h (fun h => ?_) (fun h => ?_)
          · exact ZS h (f5)
          · exact z3_tr (f5) (cD_readProcess_78_z3 (gA s2 16 ((3 : Int32)).toNatClampNeg) _ _ h)
theorem cD_readText_127_z3 (l1 : Int32) (s : ts) (r : Int32 × ts) (h : cD_readText_127 l1 s = some r) : z3 s r.2 := by
  unfold cD_readText_127 at h
  refine FI h (fun h => ?_) (fun h => ?_)
  · exact ZS h (z3_rf)
  · obtain ⟨x3, hx3, h⟩ := FB h
    have f1 := z3_tr (z3_rf) (z3_fr rfl (cD_closeStarts_fr _ _ hx3))
    refine FI h (fun h => ?_) (fun h => ?_)
    · exact ZS h (f1)
    · exact ZS h (f1)
theorem cD_readText_21_b_z3 (kk : Int32 → Int32 → ts → Option (Int32 × ts)) (hkk : ∀ (a0 : Int32) (a1 : Int32) (s : ts) (r : Int32 × ts), kk a0 a1 s = some r → z3 s r.2) (l1 : Int32) (l2 : Int32) (s : ts) (r : Int32 × ts) (h : cD_readText_21_b kk l1 l2 s = some r) : z3 s r.2 := by
  unfold cD_readText_21_b at h
  refine FI h (fun h => ?_) (fun h => ?_)
  · exact z3_tr (z3_rf) (cD_readText_127_z3 l1 _ _ h)
  · refine FI h (fun h => ?_) (fun h => ?_)
    · exact z3_tr (z3_rf) (cD_readText_127_z3 l1 _ _ h)
    · refine FI h (fun h => ?_) (fun h => ?_)
      · exact z3_tr (z3_rf) (cD_readText_127_z3 l1 _ _ h)
      · refine FI h (fun h => ?_) (fun h => ?_)
        · obtain ⟨x3, hx3, h⟩ := FB h
          have f1 := z3_tr (z3_rf) (z3_fr rfl (cD_readResource_fr _ _ hx3))
          exact z3_tr (f1) (hkk x3.1 (l2 + (1 : Int32)) _ _ h)
        · refine FI h (fun h => ?_) (fun h => ?_)
          · obtain ⟨x7, hx7, h⟩ := FB h
            have f2 := z3_tr (z3_rf) (z3_fr rfl (cD_readStore_fr _ _ hx7))
            exact z3_tr (f2) (hkk x7.1 (l2 + (1 : Int32)) _ _ h)
          · refine FI h (fun h => ?_) (fun h => ?_)
            · obtain ⟨x11, hx11, h⟩ := FB h
              have f3 := z3_tr (z3_rf) (z3_fr rfl (cD_readNumbers_fr _ _ hx11))
              exact z3_tr (f3) (hkk x11.1 (l2 + (1 : Int32)) _ _ h)
            · refine FI h (fun h => ?_) (fun h => ?_)
              · obtain ⟨x15, hx15, h⟩ := FB h
                have f4 := z3_tr (z3_rf) (cD_readProcess_z3 _ _ hx15)
                exact z3_tr (f4) (hkk x15.1 (l2 + (1 : Int32)) _ _ h)
              · obtain ⟨x19, hx19, h⟩ := FB h
                have f5 := z3_tr (z3_rf) (z3_fr rfl (cT_fail_fr ((2 : Int32)) _ _ hx19))
                exact z3_tr (f5) (hkk x19.1 (l2 + (1 : Int32)) _ _ h)
theorem cD_readText_21_z3 : ∀ (n : Nat) (l1 : Int32) (l2 : Int32) (s : ts) (r : Int32 × ts), cD_readText_21 n l1 l2 s = some r → z3 s r.2 := by
  intro n
  induction n with
  | zero => intro l1 l2 s r h; exact FN h
  | succ n ih =>
    intro l1 l2 s r h
    rw [cD_readText_21.eq_2] at h
    exact cD_readText_21_b_z3 (cD_readText_21 n) ih l1 l2 s r h
theorem cD_readText_z3 (s : ts) (r : Int32 × ts) (h : cD_readText s = some r) : z3 s r.2 := by
  unfold cD_readText at h
  obtain ⟨s2, hs2, h⟩ := FB h
  have f1 := z3_tr (z3_rf) (z3_fr rfl (cG_clear_fr _ _ hs2))
  exact z3_tr (z3_wI (z3_wI (f1) rfl) rfl) (cD_readText_21_z3 tm_N ((1 : Int32)) ((0 : Int32)) _ _ h)
