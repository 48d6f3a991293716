/-! SMALL STEPS of the reference; and what it does behind a fault. -/
theorem SXB_q {x : Cx} {L : Nat → List Int64} {pm : Nat → Nat} {G : List Ln} {τ : Nat → Int32} {b : ts} {c q K D u : Nat} {BK BL : Nat → Int32} (h : SXB x L pm G τ b c q K D BK BL u) : SXB x L pm G τ (wI b 1126 0 (nI (q + 1))) c (q + 1) K D BK BL u := by
  obtain ⟨h1, ⟨h3, h4, h5, h6, h7⟩, h8, h9, h11⟩ := h
  have hf : fr [1126] b (wI b 1126 0 (nI (q + 1))) := fr_wI fr_rf rfl
  exact ⟨⟨SB_fr hf rfl rfl h1.1, NB_fr hf rfl h1.2⟩, ⟨(hf.1 1125 rfl 0).trans h3, (hf.1 1139 rfl 0).trans h4, by simp (disch := first | assumption | omega) only [sx, if_pos, if_neg, bnd, Nat.reduceEqDiff, Nat.reduceAdd, Nat.reduceMul, Nat.reduceSub, and_true, true_and, and_false, false_and, or_true, true_or, or_false, false_or, if_true, if_false, eq_self, not_true, not_false_eq_true], (hf.1 1142 rfl 0).trans h6, (hf.1 1138 rfl 0).trans h7⟩, h8, h9, h11⟩
theorem SXB_low {x : Cx} {L : Nat → List Int64} {pm : Nat → Nat} {G : List Ln} {τ : Nat → Int32} {b b1 : ts} {c q K D u u1 : Nat} {BK BL : Nat → Int32} {W : List Nat} (h : SXB x L pm G τ b c q K D BK BL u) (hf : fr W b b1) (hd : dj [1110, 1113, 1117, 1119, 1123, 3089, 3091, 3094, 3095, 3098, 1103, 1104, 1105, 1106, 1107, 1109, 5108, 1101, 2088, 1126, 1138, 1139, 1142, 2096, 2108, 2109, 2110, 2111] W = true) (h5 : gI b1 1125 0 = nI (G.length + u1)) (hp : ∀ l, l < G.length → PB1 b b1 l ∧ gA b1 103 l = gA b 103 l) : SXB x L pm G τ b1 c q K D BK BL u1 := by
  obtain ⟨⟨h1, h2⟩, ⟨h3, h4, h5', h6, h7⟩, h8, h10, h11⟩ := h
  have key : ∀ V : List Nat, V.all (fun k => [1110, 1113, 1117, 1119, 1123, 3089, 3091, 3094, 3095, 3098, 1103, 1104, 1105, 1106, 1107, 1109, 5108, 1101, 2088, 1126, 1138, 1139, 1142, 2096, 2108, 2109, 2110, 2111].contains k) = true → dj V W = true := fun V hV => List.all_eq_true.mpr (fun k hk => List.all_eq_true.mp hd k (List.contains_iff_mem.mp (List.all_eq_true.mp hV k hk)))
  refine ⟨⟨SB_fr hf (key _ rfl) (key _ rfl) h1, NB_fr hf (key _ rfl) h2⟩, ⟨h5, (hf.1 1139 (dj_m hd rfl) 0).trans h4, (hf.1 1126 (dj_m hd rfl) 0).trans h5', (hf.1 1142 (dj_m hd rfl) 0).trans h6, (hf.1 1138 (dj_m hd rfl) 0).trans h7⟩, fun j hj => ⟨(hf.2.1 109 (dj_m hd rfl) j).trans (h8 j hj).1, (hf.2.1 108 (dj_m hd rfl) j).trans (h8 j hj).2⟩, fun l n hl => ⟨?_, fun z1 z2 => (hp l (getE_lt hl)).2.trans ((h10 l n hl).2 z1 z2)⟩, fun d hd2 => (hf.2.1 96 (dj_m hd rfl) d).trans (h11 d hd2)⟩
  exact KB_mono (h10 l n hl).1 (hp l (getE_lt hl)).1 (fun j _ => ⟨hf.2.1 110 (dj_m hd rfl) j, hf.2.1 111 (dj_m hd rfl) j⟩) (Nat.le_refl _) (Nat.le_refl _) (Nat.le_refl _)
theorem line_run {b : ts} {g : Nat} {w : Int32} (h : gI b 1125 0 = nI g) (hg : g < 900) : cR_line w b = some (nI g, wA (wA (wA (wA (wI b 1125 0 (nI (g + 1))) 99 g w) 101 g (-1)) 102 g (-1)) 105 g (nI 0)) := by
  unfold cR_line
  simp (disch := first | assumption | omega) only [sx, if_pos, if_neg, bnd, Nat.reduceEqDiff, Nat.reduceAdd, Nat.reduceMul, Nat.reduceSub, and_true, true_and, and_false, false_and, or_true, true_or, or_false, false_or, if_true, if_false, eq_self, not_true, not_false_eq_true, h]
theorem line_sx {x : Cx} {L : Nat → List Int64} {pm : Nat → Nat} {G : List Ln} {τ : Nat → Int32} {b : ts} {c q K D : Nat} {BK BL : Nat → Int32} (h : SXB x L pm G τ b c q K D BK BL 0) (hn : G.length < 900) (w : Int32) : ∃ b1, cR_line w b = some (nI G.length, b1) ∧ SXB x L pm G τ b1 c q K D BK BL 1 ∧ gA b1 99 G.length = w ∧ gA b1 101 G.length = -1 ∧ gA b1 105 G.length = nI 0 ∧ fr wf_cR_line b b1 := by
  have hr := line_run (w := w) h.2.1.1 hn
  have hf := cR_line_fr _ _ _ hr
  refine ⟨_, hr, SXB_low h hf rfl ?_ ?_, ?_, ?_, ?_, hf⟩
  · simp (disch := first | assumption | omega) only [sx, if_pos, if_neg, bnd, Nat.reduceEqDiff, Nat.reduceAdd, Nat.reduceMul, Nat.reduceSub, and_true, true_and, and_false, false_and, or_true, true_or, or_false, false_or, if_true, if_false, eq_self, not_true, not_false_eq_true]
  · intro l hl
    refine ⟨⟨?_, ?_, ?_, ?_, ?_, ?_, fun i hi => ?_⟩, ?_⟩ <;> simp (disch := first | assumption | omega) only [sx, if_pos, if_neg, bnd, Nat.reduceEqDiff, Nat.reduceAdd, Nat.reduceMul, Nat.reduceSub, and_true, true_and, and_false, false_and, or_true, true_or, or_false, false_or, if_true, if_false, eq_self, not_true, not_false_eq_true]
  · simp (disch := first | assumption | omega) only [sx, if_pos, if_neg, bnd, Nat.reduceEqDiff, Nat.reduceAdd, Nat.reduceMul, Nat.reduceSub, and_true, true_and, and_false, false_and, or_true, true_or, or_false, false_or, if_true, if_false, eq_self, not_true, not_false_eq_true]
  · simp (disch := first | assumption | omega) only [sx, if_pos, if_neg, bnd, Nat.reduceEqDiff, Nat.reduceAdd, Nat.reduceMul, Nat.reduceSub, and_true, true_and, and_false, false_and, or_true, true_or, or_false, false_or, if_true, if_false, eq_self, not_true, not_false_eq_true]
  · simp (disch := first | assumption | omega) only [sx, if_pos, if_neg, bnd, Nat.reduceEqDiff, Nat.reduceAdd, Nat.reduceMul, Nat.reduceSub, and_true, true_and, and_false, false_and, or_true, true_or, or_false, false_or, if_true, if_false, eq_self, not_true, not_false_eq_true]
theorem SXB_100 {x : Cx} {L : Nat → List Int64} {pm : Nat → Nat} {G : List Ln} {τ : Nat → Int32} {b : ts} {c q K D u : Nat} {BK BL : Nat → Int32} (h : SXB x L pm G τ b c q K D BK BL u) (v : Int32) : SXB x L pm G τ (wA b 100 G.length v) c q K D BK BL u := by
  refine SXB_low (W := [2100]) h (fr_wA fr_rf rfl) rfl h.2.1.1 ?_
  intro l hl
  refine ⟨⟨?_, ?_, ?_, ?_, ?_, ?_, fun i hi => ?_⟩, ?_⟩ <;> simp (disch := first | assumption | omega) only [sx, if_pos, if_neg, bnd, Nat.reduceEqDiff, Nat.reduceAdd, Nat.reduceMul, Nat.reduceSub, and_true, true_and, and_false, false_and, or_true, true_or, or_false, false_or, if_true, if_false, eq_self, not_true, not_false_eq_true]
theorem SXB_101 {x : Cx} {L : Nat → List Int64} {pm : Nat → Nat} {G : List Ln} {τ : Nat → Int32} {b : ts} {c q K D u : Nat} {BK BL : Nat → Int32} (h : SXB x L pm G τ b c q K D BK BL u) (v : Int32) : SXB x L pm G τ (wA b 101 G.length v) c q K D BK BL u := by
  refine SXB_low (W := [2101]) h (fr_wA fr_rf rfl) rfl h.2.1.1 ?_
  intro l hl
  refine ⟨⟨?_, ?_, ?_, ?_, ?_, ?_, fun i hi => ?_⟩, ?_⟩ <;> simp (disch := first | assumption | omega) only [sx, if_pos, if_neg, bnd, Nat.reduceEqDiff, Nat.reduceAdd, Nat.reduceMul, Nat.reduceSub, and_true, true_and, and_false, false_and, or_true, true_or, or_false, false_or, if_true, if_false, eq_self, not_true, not_false_eq_true]
theorem SXB_99 {x : Cx} {L : Nat → List Int64} {pm : Nat → Nat} {G : List Ln} {τ : Nat → Int32} {b : ts} {c q K D u : Nat} {BK BL : Nat → Int32} (h : SXB x L pm G τ b c q K D BK BL u) (v : Int32) : SXB x L pm G τ (wA b 99 G.length v) c q K D BK BL u := by
  refine SXB_low (W := [2099]) h (fr_wA fr_rf rfl) rfl h.2.1.1 ?_
  intro l hl
  refine ⟨⟨?_, ?_, ?_, ?_, ?_, ?_, fun i hi => ?_⟩, ?_⟩ <;> simp (disch := first | assumption | omega) only [sx, if_pos, if_neg, bnd, Nat.reduceEqDiff, Nat.reduceAdd, Nat.reduceMul, Nat.reduceSub, and_true, true_and, and_false, false_and, or_true, true_or, or_false, false_or, if_true, if_false, eq_self, not_true, not_false_eq_true]
theorem SXB_105 {x : Cx} {L : Nat → List Int64} {pm : Nat → Nat} {G : List Ln} {τ : Nat → Int32} {b : ts} {c q K D u : Nat} {BK BL : Nat → Int32} (h : SXB x L pm G τ b c q K D BK BL u) (v : Int32) : SXB x L pm G τ (wA b 105 G.length v) c q K D BK BL u := by
  refine SXB_low (W := [2105]) h (fr_wA fr_rf rfl) rfl h.2.1.1 ?_
  intro l hl
  refine ⟨⟨?_, ?_, ?_, ?_, ?_, ?_, fun i hi => ?_⟩, ?_⟩ <;> simp (disch := first | assumption | omega) only [sx, if_pos, if_neg, bnd, Nat.reduceEqDiff, Nat.reduceAdd, Nat.reduceMul, Nat.reduceSub, and_true, true_and, and_false, false_and, or_true, true_or, or_false, false_or, if_true, if_false, eq_self, not_true, not_false_eq_true]
theorem SXB_104 {x : Cx} {L : Nat → List Int64} {pm : Nat → Nat} {G : List Ln} {τ : Nat → Int32} {b : ts} {c q K D u : Nat} {BK BL : Nat → Int32} (h : SXB x L pm G τ b c q K D BK BL u) (j : Nat) (v : Int32) : SXB x L pm G τ (wA b 104 (8 * G.length + j) v) c q K D BK BL u := by
  refine SXB_low (W := [2104]) h (fr_wA fr_rf rfl) rfl h.2.1.1 ?_
  intro l hl
  refine ⟨⟨?_, ?_, ?_, ?_, ?_, ?_, fun i hi => ?_⟩, ?_⟩ <;> simp (disch := first | assumption | omega) only [sx, if_pos, if_neg, bnd, Nat.reduceEqDiff, Nat.reduceAdd, Nat.reduceMul, Nat.reduceSub, and_true, true_and, and_false, false_and, or_true, true_or, or_false, false_or, if_true, if_false, eq_self, not_true, not_false_eq_true]
theorem SXB_167 {x : Cx} {L : Nat → List Int64} {pm : Nat → Nat} {G : List Ln} {τ : Nat → Int32} {b : ts} {c q K D u : Nat} {BK BL : Nat → Int32} (h : SXB x L pm G τ b c q K D BK BL u) (w : Int64) (v : Int32) : SXB x L pm G τ (wA (wB b 106 G.length w) 107 G.length v) c q K D BK BL u := by
  refine SXB_low (W := [2107, 3106]) h (fr_wA (fr_wB fr_rf rfl) rfl) rfl h.2.1.1 ?_
  intro l hl
  refine ⟨⟨?_, ?_, ?_, ?_, ?_, ?_, fun i hi => ?_⟩, ?_⟩ <;> simp (disch := first | assumption | omega) only [sx, if_pos, if_neg, bnd, Nat.reduceEqDiff, Nat.reduceAdd, Nat.reduceMul, Nat.reduceSub, and_true, true_and, and_false, false_and, or_true, true_or, or_false, false_or, if_true, if_false, eq_self, not_true, not_false_eq_true]
theorem SXB_done {x : Cx} {L : Nat → List Int64} {pm : Nat → Nat} {G : List Ln} {τ τ1 : Nat → Int32} {b : ts} {c q K D : Nat} {BK BL : Nat → Int32} {n : Ln} (h : SXB x L pm G τ b c q K D BK BL 1) (hk : KB b (L 0).length (L 1).length K G.length n) (hj : isJ n.1 = true → ¬ τ1 G.length = -2 → gA b 103 G.length = τ1 G.length) (ht : ∀ k, k < G.length → τ1 k = τ k) : SXB x L pm (G ++ [n]) τ1 b c q K D BK BL 0 := by
  obtain ⟨h1, ⟨h3, h4, h5, h6, h7⟩, h8, h9, h11⟩ := SXB_tau h ht
  refine ⟨h1, ⟨?_, h4, h5, h6, h7⟩, h8, fun l m hl => ?_, h11⟩
  · rw [List.length_append]; exact h3
  · rcases getE_snoc hl with ⟨z1, z2⟩ | ⟨z1, z2⟩
    · exact h9 l m z2
    · subst z1; subst z2; exact ⟨hk, hj⟩
theorem SXB_aim {x : Cx} {L : Nat → List Int64} {pm : Nat → Nat} {G : List Ln} {τ : Nat → Int32} {b : ts} {c q K D u l : Nat} {BK BL : Nat → Int32} {t : Int32} (h : SXB x L pm G τ b c q K D BK BL u) : SXB x L pm G (fun k => if k = l then t else τ k) (wA b 103 l t) c q K D BK BL u := by
  obtain ⟨⟨h1, h2⟩, ⟨h3, h4, h5, h6, h7⟩, h8, h9, h11⟩ := h
  have hf : fr [2103] b (wA b 103 l t) := fr_wA fr_rf rfl
  refine ⟨⟨SB_fr hf rfl rfl h1, NB_fr hf rfl h2⟩, ⟨h3, h4, h5, h6, h7⟩, h8, fun i m hi => ⟨KB_mono (h9 i m hi).1 ⟨rfl, rfl, rfl, rfl, rfl, rfl, fun _ _ => rfl⟩ (fun _ _ => ⟨rfl, rfl⟩) (Nat.le_refl _) (Nat.le_refl _) (Nat.le_refl _), fun z1 z2 => ?_⟩, h11⟩
  dsimp only at z2 ⊢
  by_cases e : i = l
  · subst e; rw [if_pos rfl]; simp (disch := first | assumption | omega) only [sx, if_pos, if_neg, bnd, Nat.reduceEqDiff, Nat.reduceAdd, Nat.reduceMul, Nat.reduceSub, and_true, true_and, and_false, false_and, or_true, true_or, or_false, false_or, if_true, if_false, eq_self, not_true, not_false_eq_true]
  · rw [if_neg e] at z2 ⊢
    rw [gA_wAn e]
    exact (h9 i m hi).2 z1 z2
/-! Behind a fault. -/
def Flt (b b1 : ts) : Prop := gI b1 1103 0 = gI b 1103 0 ∧ gI b1 1104 0 = gI b 1104 0
theorem Flt_tr {b b1 b2 : ts} (h : Flt b b1) (k : Flt b1 b2) : Flt b b2 := ⟨k.1.trans h.1, k.2.trans h.2⟩
theorem Flt_rf {b : ts} : Flt b b := ⟨rfl, rfl⟩
theorem Flt_FL {a b b1 : ts} (h : FL a b) (k : Flt b b1) : FL a b1 := ⟨h.1.trans k.1.symm, h.2.1.trans k.2.symm, by rw [k.1]; exact h.2.2⟩
theorem Flt_bad {b b1 : ts} (h : ¬ gI b 1103 0 = 0) (k : Flt b b1) : ¬ gI b1 1103 0 = 0 := by rw [k.1]; exact h
theorem Flt_fr {W : List Nat} {b b1 : ts} (hf : fr W b b1) (hd : dj [1103, 1104] W = true) : Flt b b1 := ⟨hf.1 1103 (dj_m hd rfl) 0, hf.1 1104 (dj_m hd rfl) 0⟩
theorem fail_bad {b : ts} {x y : Int32} (h : ¬ gI b 1103 0 = 0) : cR_fail x y b = some b := by
  unfold cR_fail; rw [if_neg h]
theorem need_bad {b : ts} {t y : Int32} (h : ¬ gI b 1103 0 = 0) : cR_need t y b = some b := by
  unfold cR_need
  rw [fail_bad h]
  split <;> rfl
theorem limit_bad {b : ts} {t : Int32} (h : ¬ gI b 1103 0 = 0) : cR_limit t b = some b := by
  unfold cR_limit
  rw [good_f h, Option.bind_some]; rfl
theorem must_bad {b : ts} {t : Int32} (h : ¬ gI b 1103 0 = 0) : cR_must t b = some b := by
  unfold cR_must
  rw [good_f h, Option.bind_some]
  dsimp only
  rw [if_pos rfl]
  unfold cR_must_25
  rw [next_bad h]; rfl
theorem fresh_bad {b : ts} {t : Int32} (h : ¬ gI b 1103 0 = 0) : cR_freshName t b = some b := by
  unfold cR_freshName
  rw [good_f h, Option.bind_some]
  dsimp only
  rw [if_pos rfl]
  unfold cR_freshName_25
  rw [good_f h, Option.bind_some]; rfl
theorem takeLocal_bad {b : ts} (h : ¬ gI b 1103 0 = 0) : cR_takeLocal b = some b := by
  unfold cR_takeLocal cR_takeLocal_20
  rw [fresh_bad h, Option.bind_some, limit_bad h, limit_bad h]
  split <;> rfl
theorem addLocal_bad {b : ts} {w : Int64} (h : ¬ gI b 1103 0 = 0) : cR_addLocal w b = some b := by
  unfold cR_addLocal
  rw [good_f h, Option.bind_some]; rfl
theorem beginBlock_bad {b : ts} {k l : Int32} (h : ¬ gI b 1103 0 = 0) : cR_beginBlock k l b = some b := by
  have e : ∀ t, cR_beginBlock_41 k l t b = some b := by
    intro t
    unfold cR_beginBlock_41
    rw [limit_bad h, Option.bind_some, good_f h, Option.bind_some]; rfl
  unfold cR_beginBlock
  rw [good_f h, Option.bind_some]
  dsimp only
  rw [if_pos rfl]
  unfold cR_beginBlock_26
  rw [e, e]
  split <;> rfl
theorem takeExpB {b : ts} {aw : Int32} {q : Nat} (h : ¬ gI b 1103 0 = 0) (hq : gI b 1139 0 = nI q) (hl : q < 9000) (hw : gI b 1142 0 = nI 0) : ∃ b1, cR_takeExp aw b = some (nI q, b1) ∧ gI b1 1139 0 = nI (q + 1) ∧ gI b1 1142 0 = nI 0 ∧ Flt b b1 ∧ fr wf_cR_takeExp b b1 := by
  generalize hb0 : wI (wI (wI (wI (wI b 1147 0 (gI b 1142 0)) 1148 0 0) 1149 0 0) 1150 0 1) 1151 0 0 = b0
  have f0 : fr [1147, 1148, 1149, 1150, 1151] b b0 := by rw [← hb0]; exact fr_wI (fr_wI (fr_wI (fr_wI (fr_wI fr_rf rfl) rfl) rfl) rfl) rfl
  have hf : gI b0 1147 0 = nI 0 := by rw [← hb0]; simp (disch := first | assumption | omega) only [sx, if_pos, if_neg, bnd, Nat.reduceEqDiff, Nat.reduceAdd, Nat.reduceMul, Nat.reduceSub, and_true, true_and, and_false, false_and, or_true, true_or, or_false, false_or, if_true, if_false, eq_self, not_true, not_false_eq_true, hw]
  have e0 : cR_takeExp aw b = some (nI q, cdW (wI b0 1142 0 (nI 0)) q 0 0) := by
    unfold cR_takeExp
    rw [hb0, hq, show tm_N = 999999999 + 1 by rfl]
    exact takeExp_bad (Flt_bad h (Flt_fr f0 rfl)) ((f0.1 1139 rfl 0).trans hq) hl hf
  refine ⟨_, e0, ?_, ?_, ?_, cR_takeExp_fr _ _ _ e0⟩
  · unfold cdW; simp (disch := first | assumption | omega) only [sx, if_pos, if_neg, bnd, Nat.reduceEqDiff, Nat.reduceAdd, Nat.reduceMul, Nat.reduceSub, and_true, true_and, and_false, false_and, or_true, true_or, or_false, false_or, if_true, if_false, eq_self, not_true, not_false_eq_true]
  · unfold cdW; simp (disch := first | assumption | omega) only [sx, if_pos, if_neg, bnd, Nat.reduceEqDiff, Nat.reduceAdd, Nat.reduceMul, Nat.reduceSub, and_true, true_and, and_false, false_and, or_true, true_or, or_false, false_or, if_true, if_false, eq_self, not_true, not_false_eq_true]
  · have f1 : fr [1139, 1142, 2110, 2111] b0 (cdW (wI b0 1142 0 (nI 0)) q 0 0) := fr_wI (fr_wA (fr_wA (fr_wI fr_rf rfl) rfl) rfl) rfl
    exact Flt_tr (Flt_fr f0 rfl) (Flt_fr f1 rfl)
