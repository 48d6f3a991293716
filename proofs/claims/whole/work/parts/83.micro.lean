/-! SMALL STEPS: what the pieces of a statement do to the lines told so far. -/
theorem SXA_tok {x : Cx} {L : Nat → List Int64} {T : List (Nat × Nat)} {pm : Nat → Nat} {G : List Ln} {τ : Nat → Int32} {a a1 : ts} {c c1 q K e : Nat} {aw : Bool} (h : SXA x L T pm G τ a c q K e aw) (hf : fr [106, 107, 108, 109] a a1) (ha : SA x a1 c1) : SXA x L T pm G τ a1 c1 q K e aw :=
  SXA_step h hf rfl ha ((hf.1 217 rfl 0).trans h.2.1.2.1) (Nat.le_refl _) (fun j _ => ⟨hf.2.1 26 rfl j, hf.2.1 27 rfl j⟩)
theorem SXB_tok {x : Cx} {L : Nat → List Int64} {pm : Nat → Nat} {G : List Ln} {τ : Nat → Int32} {b b1 : ts} {c c1 q K D u : Nat} {BK BL : Nat → Int32} (h : SXB x L pm G τ b c q K D BK BL u) (hf : fr wf_cR_next b b1) (hb : SB x b1 c1) : SXB x L pm G τ b1 c1 q K D BK BL u :=
  SXB_step h hf rfl hb ((hf.1 1139 rfl 0).trans h.2.1.2.1) ((hf.1 1142 rfl 0).trans h.2.1.2.2.2.1) (Nat.le_refl _) (fun j _ => ⟨hf.2.1 110 rfl j, hf.2.1 111 rfl j⟩)
theorem SXA_q {x : Cx} {L : Nat → List Int64} {T : List (Nat × Nat)} {pm : Nat → Nat} {G : List Ln} {τ : Nat → Int32} {a : ts} {c q K e : Nat} {aw : Bool} (h : SXA x L T pm G τ a c q K e aw) (hq : q < 250) : SXA x L T pm G τ (wI a 403 0 (nI (q + 1))) c (q + 1) K (e + 2) aw := by
  obtain ⟨⟨h1, h2, h3⟩, ⟨h4, h5, h6⟩, h8, h9, h10, h11⟩ := h
  have hf : fr [403] a (wI a 403 0 (nI (q + 1))) := fr_wI fr_rf rfl
  exact ⟨⟨SA_fr hf rfl h1, NA_fr hf rfl h2, (hf.1 302 rfl 0).trans h3⟩, ⟨(hf.1 214 rfl 0).trans h4, (hf.1 217 rfl 0).trans h5, by simp (disch := first | assumption | omega) only [sx, if_pos, if_neg, bnd, Nat.reduceEqDiff, Nat.reduceAdd, Nat.reduceMul, Nat.reduceSub, and_true, true_and, and_false, false_and, or_true, true_or, or_false, false_or, if_true, if_false, eq_self, not_true, not_false_eq_true]⟩, ⟨by omega, by omega, by omega⟩, h9, h10, h11⟩
theorem SXA_aw {x : Cx} {L : Nat → List Int64} {T : List (Nat × Nat)} {pm : Nat → Nat} {G : List Ln} {τ : Nat → Int32} {a : ts} {c q K e : Nat} {aw : Bool} (h : SXA x L T pm G τ a c q K e aw) (aw1 : Bool) : SXA x L T pm G τ (wI a 302 0 (bI aw1)) c q K e aw1 := by
  obtain ⟨⟨h1, h2, h3⟩, ⟨h4, h5, h6⟩, h8, h9, h10, h11⟩ := h
  have hf : fr [302] a (wI a 302 0 (bI aw1)) := fr_wI fr_rf rfl
  exact ⟨⟨SA_fr hf rfl h1, NA_fr hf rfl h2, by simp (disch := first | assumption | omega) only [sx, if_pos, if_neg, bnd, Nat.reduceEqDiff, Nat.reduceAdd, Nat.reduceMul, Nat.reduceSub, and_true, true_and, and_false, false_and, or_true, true_or, or_false, false_or, if_true, if_false, eq_self, not_true, not_false_eq_true]⟩, ⟨(hf.1 214 rfl 0).trans h4, (hf.1 217 rfl 0).trans h5, (hf.1 403 rfl 0).trans h6⟩, h8, h9, h10, h11⟩
theorem SXA_e {x : Cx} {L : Nat → List Int64} {T : List (Nat × Nat)} {pm : Nat → Nat} {G : List Ln} {τ : Nat → Int32} {a : ts} {c q K e e1 : Nat} {aw : Bool} (h : SXA x L T pm G τ a c q K e aw) (he : e1 ≤ e) : SXA x L T pm G τ a c q K e1 aw := by
  obtain ⟨h1, h2, h3, h9, h10, h11⟩ := h
  exact ⟨h1, h2, ⟨h3.1, by omega, h3.2.2⟩, h9, h10, h11⟩
theorem OA_no {a : ts} {G : List Ln} {n : Ln} (h : OA a G) (hn : pnd n = false) : OA a (G ++ [n]) := by
  have e : opn (G ++ [n]) = opn G := by rw [opn_app, if_neg (by rw [hn]; decide), List.append_nil]
  refine ⟨by rw [e]; exact h.1, fun i l m hi hl => ?_⟩
  rw [e] at hi
  have := opn_lt G i l hi
  rw [List.getElem?_append_left this] at hl
  exact h.2 i l m hi hl
theorem getE_snoc {α : Type} {G : List α} {n m : α} {l : Nat} (h : (G ++ [n])[l]? = some m) : (l < G.length ∧ G[l]? = some m) ∨ (l = G.length ∧ m = n) := getE_app h
theorem addAct_run {a : ts} {k g K : Nat} {t : Int32} {f : Nat} (h4 : gI a 214 0 = nI g) (h5 : gI a 217 0 = nI K) (hg : g < 512) : cG_addAct (nI k) t (nI f) a = some (nI g, wI (wA (wA (wA (wA a 22 g (nI k)) 23 g t) 24 g (nI f)) 25 g (nI K)) 214 0 (nI (g + 1))) := by
  unfold cG_addAct
  simp (disch := first | assumption | omega) only [sx, if_pos, if_neg, bnd, Nat.reduceEqDiff, Nat.reduceAdd, Nat.reduceMul, Nat.reduceSub, and_true, true_and, and_false, false_and, or_true, true_or, or_false, false_or, if_true, if_false, eq_self, not_true, not_false_eq_true, h4, h5, Nat.add_sub_cancel]
theorem addAct_sx {x : Cx} {L : Nat → List Int64} {T : List (Nat × Nat)} {pm : Nat → Nat} {G : List Ln} {τ : Nat → Int32} {a : ts} {c q K e f : Nat} {aw : Bool} {n : Ln} {t : Int32} (h1 : SA x a c ∧ NA a L T ∧ gI a 302 0 = bI aw) (h2 : gI a 214 0 = nI G.length ∧ gI a 217 0 = nI K ∧ gI a 403 0 = nI q) (h3 : q ≤ 250 ∧ G.length + (e + 1) + 1 ≤ 2 * q + (L 3).length ∧ (opn (G ++ [n])).length ≤ q) (h9 : ∀ l n, G[l]? = some n → LnA a τ K l n ∧ VS L pm n) (h10 : OA a (G ++ [n])) (h11 : ∀ d, d < (L 3).length → gA a 19 d = nI (pm d) ∧ pm d ≤ 8) (ht : isJ n.1 = false → t = n.2.1) (hf : f + n.2.2.1.flatten.length = K) (ho : OpA a f n.2.2.1.flatten) (hv : VS L pm n) : ∃ a1, cG_addAct (nI n.1) t (nI f) a = some (nI G.length, a1) ∧ SXA x L T pm (G ++ [n]) (fun k => if k = G.length then t else τ k) a1 c q K e aw ∧ fr wf_cG_addAct a a1 := by
  have hL3 : (L 3).length ≤ 12 := h1.2.1.m 3 (by omega)
  have hg : G.length < 512 := by omega
  refine ⟨_, addAct_run h2.1 h2.2.1 hg, ?_, fr_wI (fr_wA (fr_wA (fr_wA (fr_wA fr_rf rfl) rfl) rfl) rfl) rfl⟩
  have hfr : fr [214, 2022, 2023, 2024, 2025] a (wI (wA (wA (wA (wA a 22 G.length (nI n.1)) 23 G.length t) 24 G.length (nI f)) 25 G.length (nI K)) 214 0 (nI (G.length + 1))) := fr_wI (fr_wA (fr_wA (fr_wA (fr_wA fr_rf rfl) rfl) rfl) rfl) rfl
  generalize ha1 : wI (wA (wA (wA (wA a 22 G.length (nI n.1)) 23 G.length t) 24 G.length (nI f)) 25 G.length (nI K)) 214 0 (nI (G.length + 1)) = a1 at hfr ⊢
  refine ⟨⟨SA_fr hfr rfl h1.1, NA_fr hfr rfl h1.2.1, (hfr.1 302 rfl 0).trans h1.2.2⟩, ⟨?_, (hfr.1 217 rfl 0).trans h2.2.1, (hfr.1 403 rfl 0).trans h2.2.2⟩, ⟨h3.1, ?_, h3.2.2⟩, ?_, ⟨(hfr.1 408 rfl 0).trans h10.1, fun i l m hi hl => ?_⟩, fun d hd => ⟨(hfr.2.1 19 rfl d).trans (h11 d hd).1, (h11 d hd).2⟩⟩
  · rw [← ha1, List.length_append]; simp (disch := first | assumption | omega) only [sx, if_pos, if_neg, bnd, Nat.reduceEqDiff, Nat.reduceAdd, Nat.reduceMul, Nat.reduceSub, and_true, true_and, and_false, false_and, or_true, true_or, or_false, false_or, if_true, if_false, eq_self, not_true, not_false_eq_true]; rfl
  · rw [List.length_append]; simp only [List.length_cons, List.length_nil]; omega
  · intro l m hl
    rcases getE_snoc hl with ⟨z1, z2⟩ | ⟨z1, z2⟩
    · refine ⟨LnA_mono (h9 l m z2).1 ?_ ?_ ?_ ?_ (Nat.le_refl _) (fun j _ => ⟨hfr.2.1 26 rfl j, hfr.2.1 27 rfl j⟩), (h9 l m z2).2⟩
      · rw [← ha1]; simp (disch := first | assumption | omega) only [sx, if_pos, if_neg, bnd, Nat.reduceEqDiff, Nat.reduceAdd, Nat.reduceMul, Nat.reduceSub, and_true, true_and, and_false, false_and, or_true, true_or, or_false, false_or, if_true, if_false, eq_self, not_true, not_false_eq_true]
      · have e1 : gA a1 23 l = gA a 23 l := by rw [← ha1]; simp (disch := first | assumption | omega) only [sx, if_pos, if_neg, bnd, Nat.reduceEqDiff, Nat.reduceAdd, Nat.reduceMul, Nat.reduceSub, and_true, true_and, and_false, false_and, or_true, true_or, or_false, false_or, if_true, if_false, eq_self, not_true, not_false_eq_true]
        rw [e1, if_neg (show ¬ l = G.length by omega), (h9 l m z2).1.2.1]
        by_cases hj : isJ m.1 = true
        · rw [if_pos hj, if_pos hj]
        · rw [if_neg hj, if_neg hj]
      · rw [← ha1]; simp (disch := first | assumption | omega) only [sx, if_pos, if_neg, bnd, Nat.reduceEqDiff, Nat.reduceAdd, Nat.reduceMul, Nat.reduceSub, and_true, true_and, and_false, false_and, or_true, true_or, or_false, false_or, if_true, if_false, eq_self, not_true, not_false_eq_true]
      · rw [← ha1]; simp (disch := first | assumption | omega) only [sx, if_pos, if_neg, bnd, Nat.reduceEqDiff, Nat.reduceAdd, Nat.reduceMul, Nat.reduceSub, and_true, true_and, and_false, false_and, or_true, true_or, or_false, false_or, if_true, if_false, eq_self, not_true, not_false_eq_true]
    · subst z1; subst z2
      refine ⟨⟨?_, ?_, f, ?_, ?_, by omega, fun j o hj => ?_⟩, hv⟩
      · rw [← ha1]; simp (disch := first | assumption | omega) only [sx, if_pos, if_neg, bnd, Nat.reduceEqDiff, Nat.reduceAdd, Nat.reduceMul, Nat.reduceSub, and_true, true_and, and_false, false_and, or_true, true_or, or_false, false_or, if_true, if_false, eq_self, not_true, not_false_eq_true]
      · dsimp only
        rw [if_pos rfl]
        have e1 : gA a1 23 G.length = t := by rw [← ha1]; simp (disch := first | assumption | omega) only [sx, if_pos, if_neg, bnd, Nat.reduceEqDiff, Nat.reduceAdd, Nat.reduceMul, Nat.reduceSub, and_true, true_and, and_false, false_and, or_true, true_or, or_false, false_or, if_true, if_false, eq_self, not_true, not_false_eq_true]
        rw [e1]
        by_cases hj : isJ m.1 = true
        · rw [if_pos hj]
        · rw [if_neg hj]; exact ht (by cases hjj : isJ m.1 with | true => exact absurd hjj hj | false => rfl)
      · rw [← ha1]; simp (disch := first | assumption | omega) only [sx, if_pos, if_neg, bnd, Nat.reduceEqDiff, Nat.reduceAdd, Nat.reduceMul, Nat.reduceSub, and_true, true_and, and_false, false_and, or_true, true_or, or_false, false_or, if_true, if_false, eq_self, not_true, not_false_eq_true]
      · rw [hf, ← ha1]; simp (disch := first | assumption | omega) only [sx, if_pos, if_neg, bnd, Nat.reduceEqDiff, Nat.reduceAdd, Nat.reduceMul, Nat.reduceSub, and_true, true_and, and_false, false_and, or_true, true_or, or_false, false_or, if_true, if_false, eq_self, not_true, not_false_eq_true]
      · rw [hfr.2.1 26 rfl, hfr.2.1 27 rfl]; exact ho j o hj
  · rw [hfr.2.2.1 29 rfl, hfr.2.1 30 rfl, hfr.2.1 31 rfl, hfr.2.1 32 rfl]; exact h10.2 i l m hi hl
/-- an act that is no start waiting for its process -/
theorem addAct_no {x : Cx} {L : Nat → List Int64} {T : List (Nat × Nat)} {pm : Nat → Nat} {G : List Ln} {τ : Nat → Int32} {a : ts} {c q K e f : Nat} {aw : Bool} {n : Ln} {t : Int32} (h : SXA x L T pm G τ a c q K (e + 1) aw) (ht : isJ n.1 = false → t = n.2.1) (hf : f + n.2.2.1.flatten.length = K) (ho : OpA a f n.2.2.1.flatten) (hv : VS L pm n) (hp : pnd n = false) : ∃ a1, cG_addAct (nI n.1) t (nI f) a = some (nI G.length, a1) ∧ SXA x L T pm (G ++ [n]) (fun k => if k = G.length then t else τ k) a1 c q K e aw ∧ fr wf_cG_addAct a a1 := by
  obtain ⟨h1, h2, h3, h9, h10, h11⟩ := h
  refine addAct_sx h1 h2 ⟨h3.1, h3.2.1, ?_⟩ h9 (OA_no h10 hp) h11 ht hf ho hv
  rw [opn_app, if_neg (by rw [hp]; decide), List.append_nil]; exact h3.2.2
theorem aim_sx {x : Cx} {L : Nat → List Int64} {T : List (Nat × Nat)} {pm : Nat → Nat} {G : List Ln} {τ : Nat → Int32} {a : ts} {c q K e l : Nat} {aw : Bool} {n : Ln} {t : Int32} (h : SXA x L T pm G τ a c q K e aw) (hl : G[l]? = some n) (hj : isJ n.1 = true) : ∃ a1, cG_aim (nI l) t a = some a1 ∧ SXA x L T pm G (fun k => if k = l then t else τ k) a1 c q K e aw ∧ fr [2023] a a1 := by
  have hlt := getE_lt hl
  obtain ⟨h1, h2, h3, h9, h10, h11⟩ := h
  have hL3 : (L 3).length ≤ 12 := h1.2.1.m 3 (by omega)
  have hfr : fr [2023] a (wA a 23 l t) := fr_wA fr_rf rfl
  refine ⟨wA a 23 l t, ?_, ?_, hfr⟩
  · unfold cG_aim
    have h4 := h2.1
    simp (disch := first | assumption | omega) only [sx, if_pos, if_neg, bnd, Nat.reduceEqDiff, Nat.reduceAdd, Nat.reduceMul, Nat.reduceSub, and_true, true_and, and_false, false_and, or_true, true_or, or_false, false_or, if_true, if_false, eq_self, not_true, not_false_eq_true, h4]
  · refine ⟨⟨SA_fr hfr rfl h1.1, NA_fr hfr rfl h1.2.1, h1.2.2⟩, h2, h3, fun i m hi => ⟨?_, (h9 i m hi).2⟩, h10, h11⟩
    refine LnA_mono (h9 i m hi).1 rfl ?_ rfl rfl (Nat.le_refl _) (fun j _ => ⟨rfl, rfl⟩)
    by_cases e1 : i = l
    · subst e1
      have : m = n := Option.some.inj (hi.symm.trans hl)
      rw [this, if_pos hj, if_pos rfl]; simp (disch := first | assumption | omega) only [sx, if_pos, if_neg, bnd, Nat.reduceEqDiff, Nat.reduceAdd, Nat.reduceMul, Nat.reduceSub, and_true, true_and, and_false, false_and, or_true, true_or, or_false, false_or, if_true, if_false, eq_self, not_true, not_false_eq_true]
    · rw [if_neg e1]
      have e2 : gA (wA a 23 l t) 23 i = gA a 23 i := by simp (disch := first | assumption | omega) only [sx, if_pos, if_neg, bnd, Nat.reduceEqDiff, Nat.reduceAdd, Nat.reduceMul, Nat.reduceSub, and_true, true_and, and_false, false_and, or_true, true_or, or_false, false_or, if_true, if_false, eq_self, not_true, not_false_eq_true]
      rw [e2, (h9 i m hi).1.2.1]
      by_cases hj2 : isJ m.1 = true
      · rw [if_pos hj2, if_pos hj2]
      · rw [if_neg hj2, if_neg hj2]
theorem SXA_tau {x : Cx} {L : Nat → List Int64} {T : List (Nat × Nat)} {pm : Nat → Nat} {G : List Ln} {τ τ1 : Nat → Int32} {a : ts} {c q K e : Nat} {aw : Bool} (h : SXA x L T pm G τ a c q K e aw) (ht : ∀ k, k < G.length → τ1 k = τ k) : SXA x L T pm G τ1 a c q K e aw := by
  obtain ⟨h1, h2, h3, h9, h10, h11⟩ := h
  refine ⟨h1, h2, h3, fun l n hl => ⟨?_, (h9 l n hl).2⟩, h10, h11⟩
  obtain ⟨z1, z2, z3⟩ := (h9 l n hl).1
  exact ⟨z1, by rw [ht l (getE_lt hl)]; exact z2, z3⟩
theorem SXB_tau {x : Cx} {L : Nat → List Int64} {pm : Nat → Nat} {G : List Ln} {τ τ1 : Nat → Int32} {b : ts} {c q K D u : Nat} {BK BL : Nat → Int32} (h : SXB x L pm G τ b c q K D BK BL u) (ht : ∀ k, k < G.length → τ1 k = τ k) : SXB x L pm G τ1 b c q K D BK BL u := by
  obtain ⟨h1, h2, h3, h9, h11⟩ := h
  exact ⟨h1, h2, h3, fun l n hl => ⟨(h9 l n hl).1, by rw [ht l (getE_lt hl)]; exact (h9 l n hl).2⟩, h11⟩
