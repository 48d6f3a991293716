/-! WHAT WAITS in the reference while an expression is read. -/
abbrev Ent : Type := Nat × Nat × Nat × Bool
def ec (t : Ent) : Nat := if t.2.1 = 0 ∧ t.1 = 40 then 14 else if t.2.1 = 1 ∨ t.2.1 = 2 then rt t.1 else rc (t.1, 0)
def EW (b : ts) (k : Nat) (W : List Ent) (dp : Nat) (cp : Bool) : Prop := (gI b 1142 0 = nI W.length) ∧ (gI b 1147 0 = nI 0) ∧ (∀ j t, W[j]? = some t → gA b 112 j = nI (ec t) ∧ gA b 113 j = nI t.2.1 ∧ (t.2.1 = 1 ∨ t.2.1 = 2 → gA b 114 j = nI (k + t.2.2.1)) ∧ gA b 115 j = bI t.2.2.2) ∧ (gI b 1148 0 = nI dp) ∧ (gI b 1149 0 = bI cp) ∧ (gI b 1151 0 = nI 0)
theorem EW.w {b : ts} {k : Nat} {W : List Ent} {dp : Nat} {cp : Bool} (h : EW b k W dp cp) : gI b 1142 0 = nI W.length := h.1
theorem EW.f {b : ts} {k : Nat} {W : List Ent} {dp : Nat} {cp : Bool} (h : EW b k W dp cp) : gI b 1147 0 = nI 0 := h.2.1
theorem EW.e {b : ts} {k : Nat} {W : List Ent} {dp : Nat} {cp : Bool} (h : EW b k W dp cp) : ∀ j t, W[j]? = some t → gA b 112 j = nI (ec t) ∧ gA b 113 j = nI t.2.1 ∧ (t.2.1 = 1 ∨ t.2.1 = 2 → gA b 114 j = nI (k + t.2.2.1)) ∧ gA b 115 j = bI t.2.2.2 := h.2.2.1
theorem EW.d {b : ts} {k : Nat} {W : List Ent} {dp : Nat} {cp : Bool} (h : EW b k W dp cp) : gI b 1148 0 = nI dp := h.2.2.2.1
theorem EW.c {b : ts} {k : Nat} {W : List Ent} {dp : Nat} {cp : Bool} (h : EW b k W dp cp) : gI b 1149 0 = bI cp := h.2.2.2.2.1
theorem EW.v {b : ts} {k : Nat} {W : List Ent} {dp : Nat} {cp : Bool} (h : EW b k W dp cp) : gI b 1151 0 = nI 0 := h.2.2.2.2.2
theorem EW_fr {W : List Nat} {b b1 : ts} {k : Nat} {V : List Ent} {dp : Nat} {cp : Bool} (hf : fr W b b1) (hd : dj [1142, 1147, 1148, 1149, 1151, 2112, 2113, 2114, 2115] W = true) (h : EW b k V dp cp) : EW b1 k V dp cp := by
  refine ⟨(hf.1 1142 (dj_m hd rfl) 0).trans h.w, (hf.1 1147 (dj_m hd rfl) 0).trans h.f, fun j t hj => ?_, (hf.1 1148 (dj_m hd rfl) 0).trans h.d, (hf.1 1149 (dj_m hd rfl) 0).trans h.c, (hf.1 1151 (dj_m hd rfl) 0).trans h.v⟩
  obtain ⟨e1, e2, e3, e4⟩ := h.e j t hj
  exact ⟨(hf.2.1 112 (dj_m hd rfl) j).trans e1, (hf.2.1 113 (dj_m hd rfl) j).trans e2, fun z => (hf.2.1 114 (dj_m hd rfl) j).trans (e3 z), (hf.2.1 115 (dj_m hd rfl) j).trans e4⟩
theorem EC_fr {W : List Nat} {b b1 : ts} {k : Nat} {P Q : Nat → Int32} {E : List Op1} (hf : fr W b b1) (hd : dj [1139, 2110, 2111] W = true) (h : EC b k P Q E) : EC b1 k P Q E :=
  ⟨(hf.1 1139 (dj_m hd rfl) 0).trans h.n, fun j o hj => ⟨(hf.2.1 110 (dj_m hd rfl) _).trans (h.o j o hj).1, (hf.2.1 111 (dj_m hd rfl) _).trans (h.o j o hj).2⟩, fun j hj => ⟨(hf.2.1 110 (dj_m hd rfl) _).trans (h.p j hj).1, (hf.2.1 111 (dj_m hd rfl) _).trans (h.p j hj).2⟩⟩
theorem EA_fr {W : List Nat} {b b1 : ts} {k : Nat} {P Q : Nat → Int32} {E : List Op1} (hf : fr W b b1) (hd : dj [217, 2026, 2027] W = true) (h : EA b k P Q E) : EA b1 k P Q E :=
  ⟨(hf.1 217 (dj_m hd rfl) 0).trans h.n, fun j o hj => ⟨(hf.2.1 26 (dj_m hd rfl) _).trans (h.o j o hj).1, (hf.2.1 27 (dj_m hd rfl) _).trans (h.o j o hj).2⟩, fun j hj => ⟨(hf.2.1 26 (dj_m hd rfl) _).trans (h.p j hj).1, (hf.2.1 27 (dj_m hd rfl) _).trans (h.p j hj).2⟩⟩
/-- what may wait -/
def VT (t : Ent) : Prop := (t.2.1 = 1 ∧ t.1 = 380) ∨ (t.2.1 = 2 ∧ t.1 = 294) ∨ (t.2.1 = 3 ∧ (t.1 = 60 ∨ t.1 = 62 ∨ t.1 = 316 ∨ t.1 = 318 ∨ t.1 = 317 ∨ t.1 = 289)) ∨ (t.2.1 = 4 ∧ (t.1 = 43 ∨ t.1 = 45)) ∨ (t.2.1 = 5 ∧ (t.1 = 42 ∨ t.1 = 47 ∨ t.1 = 37)) ∨ (t.2.1 = 9 ∧ (t.1 = 3 ∨ t.1 = 33))
theorem VT_c {t : Ent} (h : VT t) : 0 < t.2.1 ∧ t.2.1 < 10 ∧ ec t ≠ 14 ∧ ec t ≠ 6 ∧ ec t < 600 := by
  obtain ⟨o, r, a, p⟩ := t
  unfold VT at h
  dsimp only at h
  unfold ec
  dsimp only
  rcases h with ⟨rfl, rfl⟩ | ⟨rfl, rfl⟩ | ⟨rfl, rfl | rfl | rfl | rfl | rfl | rfl⟩ | ⟨rfl, rfl | rfl⟩ | ⟨rfl, rfl | rfl | rfl⟩ | ⟨rfl, rfl | rfl⟩ <;> simp [rt, rc]
theorem rA_0 (k o : Nat) : rA k (o, 0) = 0 := by
  unfold rA
  rw [if_neg (fun z => z.2 rfl), if_neg (fun z => z.2 (by show (0 : Int32) < 8; decide))]
def wtW (b : ts) (j : Nat) (c r p : Int32) : ts := wI (wA (wA (wA (wA b 112 j c) 113 j r) 114 j (-1)) 115 j p) 1142 0 (nI (j + 1))
theorem fr_wtW {b : ts} {j : Nat} {c r p : Int32} : fr [1142, 2112, 2113, 2114, 2115] b (wtW b j c r p) := fr_wI (fr_wA (fr_wA (fr_wA (fr_wA fr_rf rfl) rfl) rfl) rfl) rfl
theorem nar_b (x : Bool) : vp_nar .boolean (bI x) = bI x := by cases x <;> rfl
theorem wait1_run {b : ts} {k : Nat} {W : List Ent} {dp : Nat} {cp : Bool} (h : EW b k W dp cp) (hl : W.length < 4100) (c r : Int32) : cR_wait1 c r b = some (wtW b W.length c r (bI cp)) := by
  unfold cR_wait1 wtW
  simp (disch := first | assumption | omega) only [sx, if_pos, if_neg, bnd, Nat.reduceEqDiff, Nat.reduceAdd, Nat.reduceMul, Nat.reduceSub, and_true, true_and, and_false, false_and, or_true, true_or, or_false, false_or, if_true, if_false, eq_self, not_true, not_false_eq_true, h.w, h.c, nar_b]
theorem wait1_ok {b : ts} {k : Nat} {W : List Ent} {dp : Nat} {cp : Bool} (h : EW b k W dp cp) (hl : W.length < 4100) (t : Ent) (hp : t.2.2.2 = cp) (b2 : ts) (hf : fr [1139, 1148, 1149, 1150, 2110, 2111, 2114] (wtW b W.length (nI (ec t)) (nI t.2.1) (bI cp)) b2) (dp2 : Nat) (cp2 : Bool) (hd : gI b2 1148 0 = nI dp2) (hc : gI b2 1149 0 = bI cp2) (h4 : ∀ j, j < W.length → gA b2 114 j = gA b 114 j) (h5 : t.2.1 = 1 ∨ t.2.1 = 2 → gA b2 114 W.length = nI (k + t.2.2.1)) : EW b2 k (W ++ [t]) dp2 cp2 := by
  refine ⟨?_, ?_, ?_, hd, hc, ?_⟩
  · rw [hf.1 1142 rfl]; unfold wtW; simp (disch := first | assumption | omega) only [sx, if_pos, if_neg, bnd, Nat.reduceEqDiff, Nat.reduceAdd, Nat.reduceMul, Nat.reduceSub, and_true, true_and, and_false, false_and, or_true, true_or, or_false, false_or, if_true, if_false, eq_self, not_true, not_false_eq_true, List.length_append, List.length_cons, List.length_nil]
  · rw [hf.1 1147 rfl]; unfold wtW; simp (disch := first | assumption | omega) only [sx, if_pos, if_neg, bnd, Nat.reduceEqDiff, Nat.reduceAdd, Nat.reduceMul, Nat.reduceSub, and_true, true_and, and_false, false_and, or_true, true_or, or_false, false_or, if_true, if_false, eq_self, not_true, not_false_eq_true, h.f]
  · intro j u hj
    rw [hf.2.1 112 rfl, hf.2.1 113 rfl, hf.2.1 115 rfl]
    rcases getE_app hj with ⟨g1, g2⟩ | ⟨g1, g2⟩
    · obtain ⟨e1, e2, e3, e4⟩ := h.e j u g2
      unfold wtW
      refine ⟨?_, ?_, fun z => (h4 j g1).trans (e3 z), ?_⟩
      · simp (disch := first | assumption | omega) only [sx, if_pos, if_neg, bnd, Nat.reduceEqDiff, Nat.reduceAdd, Nat.reduceMul, Nat.reduceSub, and_true, true_and, and_false, false_and, or_true, true_or, or_false, false_or, if_true, if_false, eq_self, not_true, not_false_eq_true, e1]
      · simp (disch := first | assumption | omega) only [sx, if_pos, if_neg, bnd, Nat.reduceEqDiff, Nat.reduceAdd, Nat.reduceMul, Nat.reduceSub, and_true, true_and, and_false, false_and, or_true, true_or, or_false, false_or, if_true, if_false, eq_self, not_true, not_false_eq_true, e2]
      · simp (disch := first | assumption | omega) only [sx, if_pos, if_neg, bnd, Nat.reduceEqDiff, Nat.reduceAdd, Nat.reduceMul, Nat.reduceSub, and_true, true_and, and_false, false_and, or_true, true_or, or_false, false_or, if_true, if_false, eq_self, not_true, not_false_eq_true, e4]
    · subst g2 g1
      unfold wtW
      refine ⟨?_, ?_, h5, ?_⟩
      · simp (disch := first | assumption | omega) only [sx, if_pos, if_neg, bnd, Nat.reduceEqDiff, Nat.reduceAdd, Nat.reduceMul, Nat.reduceSub, and_true, true_and, and_false, false_and, or_true, true_or, or_false, false_or, if_true, if_false, eq_self, not_true, not_false_eq_true]
      · simp (disch := first | assumption | omega) only [sx, if_pos, if_neg, bnd, Nat.reduceEqDiff, Nat.reduceAdd, Nat.reduceMul, Nat.reduceSub, and_true, true_and, and_false, false_and, or_true, true_or, or_false, false_or, if_true, if_false, eq_self, not_true, not_false_eq_true]
      · simp (disch := first | assumption | omega) only [sx, if_pos, if_neg, bnd, Nat.reduceEqDiff, Nat.reduceAdd, Nat.reduceMul, Nat.reduceSub, and_true, true_and, and_false, false_and, or_true, true_or, or_false, false_or, if_true, if_false, eq_self, not_true, not_false_eq_true, hp]
  · rw [hf.1 1151 rfl]; unfold wtW; simp (disch := first | assumption | omega) only [sx, if_pos, if_neg, bnd, Nat.reduceEqDiff, Nat.reduceAdd, Nat.reduceMul, Nat.reduceSub, and_true, true_and, and_false, false_and, or_true, true_or, or_false, false_or, if_true, if_false, eq_self, not_true, not_false_eq_true, h.v]
/-- one that waits is settled -/
def st1 (E : List Op1) (t : Ent) : List Op1 := if t.2.1 = 1 ∨ t.2.1 = 2 then clo E t.2.2.1 else E ++ [(t.1, 0)]
theorem st1_len (E : List Op1) (t : Ent) : (st1 E t).length = E.length + 1 := by
  unfold st1
  split
  · exact clo_len _ _
  · simp
/-- skips that wait stand there -/
def GP (E : List Op1) (P : List Ent) : Prop := ∀ t, t ∈ P → (t.2.1 = 1 ∨ t.2.1 = 2) → t.2.2.1 < E.length ∧ isSk (E.getD t.2.2.1 (0, 0)).1 = true
theorem getD_clo {E : List Op1} {i j : Nat} (hj : j < E.length) : ((clo E i).getD j (0, 0)).1 = (E.getD j (0, 0)).1 := by
  unfold clo
  rw [List.getD_eq_getElem?_getD, List.getElem?_append_left (by rw [List.length_set]; exact hj)]
  by_cases e : j = i
  · subst e
    rw [List.getElem?_set_self hj]; rfl
  · rw [List.getElem?_set_ne (fun z => e z.symm), ← List.getD_eq_getElem?_getD]
theorem GP_st1 {E : List Op1} {P : List Ent} {t : Ent} (h : GP E P) : GP (st1 E t) P := by
  intro u hu hr
  obtain ⟨h1, h2⟩ := h u hu hr
  rw [st1_len]
  refine ⟨by omega, ?_⟩
  unfold st1
  split
  · rw [getD_clo h1]; exact h2
  · rw [List.getD_eq_getElem?_getD, List.getElem?_append_left h1, ← List.getD_eq_getElem?_getD]; exact h2
theorem EC_clo {b : ts} {k i : Nat} {P Q : Nat → Int32} {E : List Op1} (h : EC b k P Q (E ++ [(4, 0)])) (hi : i < E.length) (hs : isSk (E.getD i (0, 0)).1 = true) (hk : k + E.length < 9000) : EC (wA b 111 (k + i) (nI (k + E.length + 1))) k P Q (clo E i) := by
  refine ⟨?_, ?_, ?_⟩
  · rw [clo_len]; rw [gI_wA, h.n]; simp
  · intro j o hj
    have hjl := getE_lt hj
    rw [clo_len] at hjl
    unfold clo at hj
    by_cases e : j = i
    · subst e
      rw [List.getElem?_append_left (by rw [List.length_set]; exact hi), List.getElem?_set_self hi] at hj
      have hj := Option.some.inj hj
      subst hj
      have q := h.o j (E.getD j (0, 0)) (by rw [List.getElem?_append_left hi, List.getD_eq_getElem?_getD, List.getElem?_eq_getElem hi]; rfl)
      have eo : rA (k + j) ((E.getD j (0, 0)).1, nI (E.length + 1 - j)) = nI (k + E.length + 1) := by
        unfold rA
        rw [if_pos ⟨hs, nI_ne0 (by omega) (by omega)⟩, nI_add]
        congr 1
        omega
      have er : rc ((E.getD j (0, 0)).1, nI (E.length + 1 - j)) = rc (E.getD j (0, 0)) := by
        have : ¬ (E.getD j (0, 0)).1 = 2 := fun z => by rw [z] at hs; cases hs
        unfold rc
        rw [if_neg this, if_neg this]
      refine ⟨?_, ?_⟩
      · rw [gA_wA, if_neg (by omega), er]; exact q.1
      · rw [eo, gA_wA, if_pos ⟨rfl, rfl⟩]
    · have hj2 : (E ++ [(4, 0)])[j]? = some o := by
        rcases getE_app hj with ⟨w1, w2⟩ | ⟨w1, w2⟩
        · rw [List.length_set] at w1
          rw [List.getElem?_set_ne (fun z => e z.symm)] at w2
          rw [List.getElem?_append_left w1]; exact w2
        · rw [List.length_set] at w1
          subst w1 w2
          rw [List.getElem?_append_right (Nat.le_refl _), Nat.sub_self]; rfl
      obtain ⟨q1, q2⟩ := h.o j o hj2
      exact ⟨by rw [gA_wA, if_neg (by omega)]; exact q1, by rw [gA_wA, if_neg (by omega)]; exact q2⟩
  · intro j hj
    obtain ⟨q1, q2⟩ := h.p j hj
    exact ⟨by rw [gA_wA, if_neg (by omega)]; exact q1, by rw [gA_wA, if_neg (by omega)]; exact q2⟩
def n9 (t : Ent) : Nat := if t.2.1 = 9 then 1 else 0
theorem settle_ok {b : ts} {k : Nat} {P Q : Nat → Int32} {E : List Op1} {W : List Ent} {t : Ent} {dp : Nat} {cp : Bool} (hE : EC b k P Q E) (hW : EW b k (W ++ [t]) dp cp) (hv : VT t) (hl : W.length < 4100) (hk : k + E.length < 9000) (hg : GP E [t]) (hd : n9 t ≤ dp) : ∃ b1, cR_settle b = some b1 ∧ EC b1 k P Q (st1 E t) ∧ EW b1 k W (dp - n9 t) cp := by
  obtain ⟨e1, e2, e3, e4⟩ := hW.e W.length t (by rw [List.getElem?_append_right (Nat.le_refl _), Nat.sub_self]; rfl)
  obtain ⟨v1, v2, v3, v4, v5⟩ := VT_c hv
  have hw : gI b 1142 0 = nI (W.length + 1) := by rw [hW.w, List.length_append]; rfl
  have hle : ∀ j u, W[j]? = some u → j < W.length := fun j u h => getE_lt h
  -- what is behind the emission
  have fin : ∀ b2 : ts, fr [1139, 2110, 2111] (wI b 1142 0 (nI W.length)) b2 → cR_settle_82 b2 = some (wI b2 1148 0 (nI (dp - n9 t))) ∧ EW (wI b2 1148 0 (nI (dp - n9 t))) k W (dp - n9 t) cp := by
    intro b2 hf
    have f2 : gI b2 1142 0 = nI W.length := by rw [hf.1 1142 rfl]; simp (disch := first | assumption | omega) only [sx, if_pos, if_neg, bnd, Nat.reduceEqDiff, Nat.reduceAdd, Nat.reduceMul, Nat.reduceSub, and_true, true_and, and_false, false_and, or_true, true_or, or_false, false_or, if_true, if_false, eq_self, not_true, not_false_eq_true]
    have f3 : gA b2 113 W.length = nI t.2.1 := by rw [hf.2.1 113 rfl]; simp (disch := first | assumption | omega) only [sx, if_pos, if_neg, bnd, Nat.reduceEqDiff, Nat.reduceAdd, Nat.reduceMul, Nat.reduceSub, and_true, true_and, and_false, false_and, or_true, true_or, or_false, false_or, if_true, if_false, eq_self, not_true, not_false_eq_true, e2]
    have f4 : gI b2 1148 0 = nI dp := by rw [hf.1 1148 rfl]; simp (disch := first | assumption | omega) only [sx, if_pos, if_neg, bnd, Nat.reduceEqDiff, Nat.reduceAdd, Nat.reduceMul, Nat.reduceSub, and_true, true_and, and_false, false_and, or_true, true_or, or_false, false_or, if_true, if_false, eq_self, not_true, not_false_eq_true, hW.d]
    refine ⟨?_, ?_, ?_, ?_, ?_, ?_, ?_⟩
    · unfold cR_settle_82
      unfold n9 at hd ⊢
      by_cases h9 : t.2.1 = 9
      · rw [if_pos h9] at hd
        simp (disch := first | assumption | omega) only [sx, if_pos, if_neg, bnd, Nat.reduceEqDiff, Nat.reduceAdd, Nat.reduceMul, Nat.reduceSub, and_true, true_and, and_false, false_and, or_true, true_or, or_false, false_or, if_true, if_false, eq_self, not_true, not_false_eq_true, f2, f3, f4]
      · simp (disch := first | assumption | omega) only [sx, if_pos, if_neg, bnd, Nat.reduceEqDiff, Nat.reduceAdd, Nat.reduceMul, Nat.reduceSub, and_true, true_and, and_false, false_and, or_true, true_or, or_false, false_or, if_true, if_false, eq_self, not_true, not_false_eq_true, f2, f3, f4]
    · simp (disch := first | assumption | omega) only [sx, if_pos, if_neg, bnd, Nat.reduceEqDiff, Nat.reduceAdd, Nat.reduceMul, Nat.reduceSub, and_true, true_and, and_false, false_and, or_true, true_or, or_false, false_or, if_true, if_false, eq_self, not_true, not_false_eq_true, f2]
    · rw [gI_wIn (by decide), hf.1 1147 rfl]; simp (disch := first | assumption | omega) only [sx, if_pos, if_neg, bnd, Nat.reduceEqDiff, Nat.reduceAdd, Nat.reduceMul, Nat.reduceSub, and_true, true_and, and_false, false_and, or_true, true_or, or_false, false_or, if_true, if_false, eq_self, not_true, not_false_eq_true, hW.f]
    · intro j u hj
      obtain ⟨q1, q2, q3, q4⟩ := hW.e j u (by rw [List.getElem?_append_left (hle j u hj)]; exact hj)
      refine ⟨?_, ?_, fun z => ?_, ?_⟩
      · rw [gA_wI, hf.2.1 112 rfl, gA_wI]; exact q1
      · rw [gA_wI, hf.2.1 113 rfl, gA_wI]; exact q2
      · rw [gA_wI, hf.2.1 114 rfl, gA_wI]; exact q3 z
      · rw [gA_wI, hf.2.1 115 rfl, gA_wI]; exact q4
    · exact gI_wIs
    · rw [gI_wIn (by decide), hf.1 1149 rfl]; simp (disch := first | assumption | omega) only [sx, if_pos, if_neg, bnd, Nat.reduceEqDiff, Nat.reduceAdd, Nat.reduceMul, Nat.reduceSub, and_true, true_and, and_false, false_and, or_true, true_or, or_false, false_or, if_true, if_false, eq_self, not_true, not_false_eq_true, hW.c]
    · rw [gI_wIn (by decide), hf.1 1151 rfl]; simp (disch := first | assumption | omega) only [sx, if_pos, if_neg, bnd, Nat.reduceEqDiff, Nat.reduceAdd, Nat.reduceMul, Nat.reduceSub, and_true, true_and, and_false, false_and, or_true, true_or, or_false, false_or, if_true, if_false, eq_self, not_true, not_false_eq_true, hW.v]
  have hE1 : EC (wI b 1142 0 (nI W.length)) k P Q E := EC_fr (W := [1142]) (fr_wI fr_rf rfl) rfl hE
  unfold cR_settle
  rw [show gI b 1142 0 - 1 = nI W.length by rw [hw, nI_pred]]
  generalize hu : wI b 1142 0 (nI W.length) = u at *
  have g2 : gI u 1142 0 = nI W.length := by rw [← hu]; simp (disch := first | assumption | omega) only [sx, if_pos, if_neg, bnd, Nat.reduceEqDiff, Nat.reduceAdd, Nat.reduceMul, Nat.reduceSub, and_true, true_and, and_false, false_and, or_true, true_or, or_false, false_or, if_true, if_false, eq_self, not_true, not_false_eq_true]
  have g3 : gA u 113 W.length = nI t.2.1 := by rw [← hu]; simp (disch := first | assumption | omega) only [sx, if_pos, if_neg, bnd, Nat.reduceEqDiff, Nat.reduceAdd, Nat.reduceMul, Nat.reduceSub, and_true, true_and, and_false, false_and, or_true, true_or, or_false, false_or, if_true, if_false, eq_self, not_true, not_false_eq_true, e2]
  have g4 : gA u 112 W.length = nI (ec t) := by rw [← hu]; simp (disch := first | assumption | omega) only [sx, if_pos, if_neg, bnd, Nat.reduceEqDiff, Nat.reduceAdd, Nat.reduceMul, Nat.reduceSub, and_true, true_and, and_false, false_and, or_true, true_or, or_false, false_or, if_true, if_false, eq_self, not_true, not_false_eq_true, e1]
  by_cases h12 : t.2.1 = 1 ∨ t.2.1 = 2
  · have go : ∃ b1, cR_settle_46 u = some b1 ∧ EC b1 k P Q (st1 E t) ∧ EW b1 k W (dp - n9 t) cp := by
      obtain ⟨h1, h2⟩ := hg t List.mem_cons_self h12
      obtain ⟨a1, a2⟩ := add_ok (c := 13) (v := 0) (o := (4, 0)) hE1 hk rfl (rA_0 _ _).symm
      have f1 : gI (cdW u (k + E.length) 13 0) 1142 0 = nI W.length := by unfold cdW; simp (disch := first | assumption | omega) only [sx, if_pos, if_neg, bnd, Nat.reduceEqDiff, Nat.reduceAdd, Nat.reduceMul, Nat.reduceSub, and_true, true_and, and_false, false_and, or_true, true_or, or_false, false_or, if_true, if_false, eq_self, not_true, not_false_eq_true, g2]
      have f2 : gA (cdW u (k + E.length) 13 0) 114 W.length = nI (k + t.2.2.1) := by
        unfold cdW
        have := e3 h12
        rw [← hu]
        simp (disch := first | assumption | omega) only [sx, if_pos, if_neg, bnd, Nat.reduceEqDiff, Nat.reduceAdd, Nat.reduceMul, Nat.reduceSub, and_true, true_and, and_false, false_and, or_true, true_or, or_false, false_or, if_true, if_false, eq_self, not_true, not_false_eq_true, this]
      have f3 : gI (cdW u (k + E.length) 13 0) 1139 0 = nI (k + E.length + 1) := by unfold cdW; simp (disch := first | assumption | omega) only [sx, if_pos, if_neg, bnd, Nat.reduceEqDiff, Nat.reduceAdd, Nat.reduceMul, Nat.reduceSub, and_true, true_and, and_false, false_and, or_true, true_or, or_false, false_or, if_true, if_false, eq_self, not_true, not_false_eq_true]
      have f4 : fr [1139, 2110, 2111] u (cdW u (k + E.length) 13 0) := fr_cdW
      have a3 := EC_clo a2 h1 h2 hk
      generalize cdW u (k + E.length) 13 0 = w at *
      obtain ⟨q1, q2⟩ := fin (wA w 111 (k + t.2.2.1) (nI (k + E.length + 1))) (fr_wA f4 rfl)
      refine ⟨_, ?_, ?_, q2⟩
      · unfold cR_settle_46
        rw [a1, Option.bind_some]
        dsimp only
        rw [f1, if_pos (nI_idx hl (by decide)), nI_clamp (by omega), f2, if_pos (nI_idx (by omega) (by decide)), nI_clamp (by omega), f3]
        exact q1
      · unfold st1
        rw [if_pos h12]
        exact EC_fr (W := [1148]) (fr_wI fr_rf rfl) rfl a3
    rw [g2, if_pos (nI_idx hl (by decide)), nI_clamp (by omega), g3]
    rcases h12 with h | h
    · rw [h, if_pos (by decide)]; exact go
    · rw [h, if_neg (by decide), if_pos (by decide)]; exact go
  · rw [g2, if_pos (nI_idx hl (by decide)), nI_clamp (by omega), g3, if_neg (show ¬ nI t.2.1 = (1 : Int32) from fun z => h12 (Or.inl (nI_inj (a := t.2.1) (b := 1) (by omega) (by decide) z))), if_neg (show ¬ nI t.2.1 = (2 : Int32) from fun z => h12 (Or.inr (nI_inj (a := t.2.1) (b := 2) (by omega) (by decide) z))), g4]
    have hec : ec t = rc (t.1, 0) := by
      unfold ec
      rw [if_neg (fun z => by omega), if_neg h12]
    obtain ⟨a1, a2⟩ := add_ok (c := nI (ec t)) (v := 0) (o := (t.1, 0)) hE1 hk (by rw [hec]) (rA_0 _ _).symm
    obtain ⟨q1, q2⟩ := fin _ fr_cdW
    refine ⟨_, ?_, ?_, q2⟩
    · rw [a1, Option.bind_some]; exact q1
    · unfold st1
      rw [if_neg h12]
      exact EC_fr (W := [1148]) (fr_wI fr_rf rfl) rfl a2
def flush (E : List Op1) (P : List Ent) : List Op1 := P.foldr (fun t e => st1 e t) E
def n9s : List Ent → Nat
  | [] => 0
  | t :: r => n9 t + n9s r
theorem n9s_app (P : List Ent) (t : Ent) : n9s (P ++ [t]) = n9s P + n9 t := by
  induction P with
  | nil => show n9 t + 0 = 0 + n9 t; omega
  | cons u r ih => show n9 u + n9s (r ++ [t]) = n9 u + n9s r + n9 t; rw [ih]; omega
theorem flush_app (E : List Op1) (P : List Ent) (t : Ent) : flush E (P ++ [t]) = flush (st1 E t) P := by unfold flush; rw [List.foldr_append]; rfl
theorem flush_len (P : List Ent) : ∀ (E : List Op1), (flush E P).length = E.length + P.length := by
  induction P with
  | nil => intro E; rfl
  | cons t r ih => intro E; show (st1 (flush E r) t).length = _; rw [st1_len, ih]; simp; omega
/-- settleTo: those on top with such a rank are settled -/
theorem settleTo_lp {k r : Nat} {P Q : Nat → Int32} {W0 : List Ent} {cp : Bool} (hr : 1 ≤ r ∧ r < 10) (hW0 : ∀ t, W0.getLast? = some t → t.2.1 < r) : ∀ (p : Nat) (V : List Ent) (F : Nat) (b : ts) (E : List Op1) (dp : Nat), V.length = p → p < F → EC b k P Q E → EW b k (W0 ++ V) dp cp → (∀ t, t ∈ V → VT t ∧ r ≤ t.2.1) → (W0 ++ V).length < 4100 → k + E.length + V.length ≤ 9000 → GP E V → n9s V ≤ dp → ∃ b1, cR_settleTo_0 F (nI r) b = some b1 ∧ EC b1 k P Q (flush E V) ∧ EW b1 k W0 (dp - n9s V) cp := by
  intro p
  induction p with
  | zero =>
    intro V F b E dp hp hF hE hW hV hl hk hg hd
    have hV0 : V = [] := List.length_eq_zero_iff.mp hp
    subst hV0
    rw [List.append_nil] at hW hl
    obtain ⟨F, rfl⟩ : ∃ G, F = G + 1 := ⟨F - 1, by omega⟩
    refine ⟨b, ?_, hE, hW⟩
    rw [cR_settleTo_0.eq_2]
    unfold cR_settleTo_0_b
    rw [hW.w, hW.f]
    by_cases h0 : W0.length = 0
    · rw [h0, if_pos (Int32.le_refl _)]
    · obtain ⟨j, hj⟩ : ∃ j, W0.length = j + 1 := ⟨W0.length - 1, by omega⟩
      have hlt : j < W0.length := by omega
      obtain ⟨e1, e2, e3, e4⟩ := hW.e j W0[j] (List.getElem?_eq_getElem hlt)
      have hlast : W0.getLast? = some W0[j] := by
        rw [List.getLast?_eq_getElem?, hj]
        simp
      have := hW0 _ hlast
      rw [hj, if_neg (nI_ge (by omega) (by omega)), nI_pred, if_pos (nI_idx (by omega) (by decide)), nI_clamp (by omega), e2, if_pos (nI_lt this (by omega))]
  | succ p ih =>
    intro V F b E dp hp hF hE hW hV hl hk hg hd
    obtain ⟨F, rfl⟩ : ∃ G, F = G + 1 := ⟨F - 1, by omega⟩
    obtain ⟨V1, t, rfl⟩ : ∃ V1 t, V = V1 ++ [t] := by
      have hne : V ≠ [] := by intro z; rw [z] at hp; cases hp
      exact ⟨V.dropLast, V.getLast hne, (List.dropLast_concat_getLast hne).symm⟩
    have hV1 : V1.length = p := by simp at hp; exact hp
    obtain ⟨vt, vr⟩ := hV t (by simp)
    obtain ⟨v1, v2, v3, v4, v5⟩ := VT_c vt
    rw [← List.append_assoc] at hW hl
    have hlen : (W0 ++ V1).length < 4100 := by simp at hl ⊢; omega
    rw [n9s_app] at hd
    simp only [List.length_append, List.length_cons, List.length_nil] at hk
    obtain ⟨b1, s1, s2, s3⟩ := settle_ok hE hW vt hlen (by omega) (fun u hu => hg u (by rw [List.mem_singleton.mp hu]; simp)) (by omega)
    obtain ⟨b2, q1, q2, q3⟩ := ih V1 F b1 (st1 E t) (dp - n9 t) hV1 (by omega) s2 s3 (fun u hu => hV u (List.mem_append_left _ hu)) hlen (by rw [st1_len]; omega) (GP_st1 (fun u hu => hg u (List.mem_append_left _ hu))) (by omega)
    refine ⟨b2, ?_, ?_, ?_⟩
    · rw [cR_settleTo_0.eq_2]
      unfold cR_settleTo_0_b
      obtain ⟨e1, e2, e3, e4⟩ := hW.e (W0 ++ V1).length t (by rw [List.getElem?_append_right (Nat.le_refl _), Nat.sub_self]; rfl)
      have hw : gI b 1142 0 = nI ((W0 ++ V1).length + 1) := by rw [hW.w, List.length_append]; rfl
      rw [hw, hW.f, if_neg (nI_ge (by omega) (by omega)), nI_pred, if_pos (nI_idx hlen (by decide)), nI_clamp (by omega), e2, if_neg (nI_nlt vr (by omega)), e1, if_neg (show ¬ nI (ec t) = (14 : Int32) from fun z => v3 (nI_inj (a := ec t) (b := 14) (by omega) (by decide) z)), if_neg (show ¬ nI (ec t) = (6 : Int32) from fun z => v4 (nI_inj (a := ec t) (b := 6) (by omega) (by decide) z)), s1, Option.bind_some]
      exact q1
    · rw [flush_app]; exact q2
    · rw [n9s_app, show dp - (n9s V1 + n9 t) = dp - n9 t - n9s V1 by omega]; exact q3
theorem settleTo_ok {k r : Nat} {P Q : Nat → Int32} {W0 V : List Ent} {cp : Bool} {b : ts} {E : List Op1} {dp : Nat} (hr : 1 ≤ r ∧ r < 10) (hW0 : ∀ t, W0.getLast? = some t → t.2.1 < r) (hE : EC b k P Q E) (hW : EW b k (W0 ++ V) dp cp) (hV : ∀ t, t ∈ V → VT t ∧ r ≤ t.2.1) (hl : (W0 ++ V).length < 4100) (hk : k + E.length + V.length ≤ 9000) (hg : GP E V) (hd : n9s V ≤ dp) : ∃ b1, cR_settleTo (nI r) b = some b1 ∧ EC b1 k P Q (flush E V) ∧ EW b1 k W0 (dp - n9s V) cp ∧ fr wf_cR_settleTo b b1 := by
  obtain ⟨b1, h1, h2, h3⟩ := settleTo_lp hr hW0 V.length V tm_N b E dp rfl (by simp at hl; unfold tm_N; omega) hE hW hV hl hk hg hd
  exact ⟨b1, h1, h2, h3, cR_settleTo_fr _ _ _ h1⟩
-- ranks
def rkI (l : Int32) : Int32 := if l = 305 then 1 else if l = 304 then 2 else if l = 60 then 3 else if l = 62 then 3 else if l = 302 then 3 else if l = 303 then 3 else if l = 300 then 3 else if l = 301 then 3 else if l = 43 then 4 else if l = 45 then 4 else if l = 42 then 5 else if l = 47 then 5 else if l = 37 then 5 else 0
def rk (k : Nat) : Nat := if k = 380 then 1 else if k = 294 then 2 else if k = 60 ∨ k = 62 ∨ k = 316 ∨ k = 318 ∨ k = 317 ∨ k = 289 then 3 else if k = 43 ∨ k = 45 then 4 else if k = 42 ∨ k = 47 ∨ k = 37 then 5 else 0
theorem rankOf_i (l : Int32) (s : ts) : cR_rankOf l s = some (rkI l, s) := by
  unfold cR_rankOf rkI
  by_cases h305 : l = 305
  · rw [if_pos h305, if_pos h305]
  rw [if_neg h305, if_neg h305]
  by_cases h304 : l = 304
  · rw [if_pos h304, if_pos h304]
  rw [if_neg h304, if_neg h304]
  by_cases h60 : l = 60
  · rw [if_pos h60, if_pos h60]
  rw [if_neg h60, if_neg h60]
  by_cases h62 : l = 62
  · rw [if_pos h62, if_pos h62]
  rw [if_neg h62, if_neg h62]
  by_cases h302 : l = 302
  · rw [if_pos h302, if_pos h302]
  rw [if_neg h302, if_neg h302]
  by_cases h303 : l = 303
  · rw [if_pos h303, if_pos h303]
  rw [if_neg h303, if_neg h303]
  by_cases h300 : l = 300
  · rw [if_pos h300, if_pos h300]
  rw [if_neg h300, if_neg h300]
  by_cases h301 : l = 301
  · rw [if_pos h301, if_pos h301]
  rw [if_neg h301, if_neg h301]
  by_cases h43 : l = 43
  · rw [if_pos h43, if_pos h43]
  rw [if_neg h43, if_neg h43]
  by_cases h45 : l = 45
  · rw [if_pos h45, if_pos h45]
  rw [if_neg h45, if_neg h45]
  by_cases h42 : l = 42
  · rw [if_pos h42, if_pos h42]
  rw [if_neg h42, if_neg h42]
  by_cases h47 : l = 47
  · rw [if_pos h47, if_pos h47]
  rw [if_neg h47, if_neg h47]
  by_cases h37 : l = 37
  · rw [if_pos h37, if_pos h37]
  rw [if_neg h37, if_neg h37]
/-- the kinds that there are -/
def vk (k : Nat) : Bool := Nat.beq k 0 || (Nat.beq k 1 || (Nat.beq k 2 || (Nat.beq k 3 || (isS k || (Nat.beq k 317 || (Nat.beq k 289 || (Nat.beq k 316 || (Nat.beq k 318 || (Nat.beq k 294 || (Nat.beq k 380 || (Nat.ble 512 k && Nat.ble k 535)))))))))))
theorem isP_k {c d : Nat} (h : isP c d = true) : c = 38 ∨ c = 124 ∨ c = 61 ∨ c = 33 ∨ c = 60 ∨ c = 62 := by
  unfold isP at h
  by_cases h1 : c = 38 ∨ c = 124
  · omega
  · rw [if_neg h1] at h
    by_cases h2 : c = 61 ∨ c = 33 ∨ c = 60 ∨ c = 62
    · omega
    · rw [if_neg h2] at h; cases h
theorem tok1_vk {b : Nat → Nat} {n j : Nat} {R : Nat → Int64} : vk (tok1 b n R j).1 = true := by
  unfold tok1
  by_cases h0 : n ≤ j
  · rw [if_pos h0]; rfl
  · rw [if_neg h0]
    by_cases h1 : isL (b j) = true
    · rw [if_pos h1]
      by_cases h2 : 8 < rn isW b (n - j) j - j
      · rw [if_pos h2]; rfl
      · rw [if_neg h2]
        dsimp only
        have := wk_ge R (wv b j (rn isW b (n - j) j - j)) 24 0
        have wl : ∀ (w : Int64) (f k : Nat), wk R w f k = 2 ∨ wk R w f k < 512 + k + f := by
          intro w f
          induction f with
          | zero => intro k; exact Or.inl rfl
          | succ f ih =>
            intro k
            unfold wk
            split
            · right; omega
            · rcases ih (k + 1) with z | z
              · exact Or.inl z
              · right; omega
        have w2 := wl (wv b j (rn isW b (n - j) j - j)) 24 0
        generalize wk R (wv b j (rn isW b (n - j) j - j)) 24 0 = k at *
        by_cases e2 : k = 2
        · rw [e2]; rfl
        · have a1 : Nat.ble 512 k = true := ble_t (by omega)
          have a2 : Nat.ble k 535 = true := ble_t (by omega)
          unfold vk
          rw [a1, a2]
          simp
    · rw [if_neg h1]
      by_cases h2 : isD (b j) = true
      · rw [if_pos h2]
        by_cases h3 : 9 < rn isD b (n - j) j - j
        · rw [if_pos h3]; rfl
        · rw [if_neg h3]; rfl
      · rw [if_neg h2]
        by_cases h3 : isP (b j) (if j + 1 < n then b (j + 1) else 256) = true
        · rw [if_pos h3]
          dsimp only
          rcases isP_k h3 with e | e | e | e | e | e <;> rw [e] <;> rfl
        · rw [if_neg h3]
          by_cases h4 : isS (b j) = true
          · rw [if_pos h4]; dsimp only; unfold vk; rw [h4]; simp
          · rw [if_neg h4]; rfl
theorem Cx.kv (x : Cx) (c : Nat) : vk (x.kd c) = true := by
  show vk (tok x.bt x.n x.R (tst x.bt x.n x.R c).1 (tst x.bt x.n x.R c).2).1 = true
  unfold tok
  split
  · rfl
  · exact tok1_vk
theorem rk_tab : ∀ k, k < 600 → vk k = true → k ≠ 1 → rkI (nI (rt k)) = nI (rk k) := by decide +kernel
theorem rankOf_ok {x : Cx} (hx : x.Ok) {c : Nat} (h1 : x.kd c ≠ 1) (s : ts) : cR_rankOf (nI (rt (x.kd c))) s = some (nI (rk (x.kd c)), s) := by rw [rankOf_i, rk_tab _ (hx.lt c) (x.kv c) h1]
