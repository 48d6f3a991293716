/-! LOAD, both sides. -/
theorem load_prog {s b : ts} {bt : Nat → Nat} {n : Nat} (hn : n ≤ 4000) (htX : txX s bt n) (h1 : gI s 1 0 = nI n) (hR : ∀ k, k < 24 → gB s 8 k = in_rw.getD k 0) (h302 : gI s 302 0 = 0) (htR : txR b bt n) (h1101 : gI b 1101 0 = nI n) (hW : WD b) : ∃ s2 r a1 b1, cT_part (gI s 1 0) s = some s2 ∧ cD_readText (wI s2 1 0 0) = some (r, a1) ∧ cR_load b = cR_load_245 b1 ∧ ((r = 0 ∧ FL a1 b1) ∨ (r = 1 ∧ gI b1 1103 0 = 0 ∧ gI a1 108 0 = 0 ∧ gI a1 109 0 = -1 ∧ PR a1 b1)) := by
  obtain ⟨s2, m, p1, p2, p3, p4, p5, p6, p7⟩ := part_ok hn htX
  obtain ⟨x, hxe⟩ : ∃ x : Cx, x = ((bt, n, gB s 8, m) : Cx) := ⟨_, rfl⟩
  have xb : x.bt = bt := by rw [hxe]; rfl
  have xn : x.n = n := by rw [hxe]; rfl
  have xR : x.R = gB s 8 := by rw [hxe]; rfl
  have xm : x.m = m := by rw [hxe]; rfl
  have hx : x.Ok := by
    refine ⟨by rw [xn]; exact hn, fun k hk => ?_, fun k hk => by rw [xR]; exact hR k hk, by rw [xm, xn]; exact p2.1, fun j hj => ?_, ?_⟩
    · rw [xn] at hk; rw [xb]; exact (htX k hk).1
    · rw [xm] at hj
      unfold Cx.kd Cx.tk
      rw [xb, xn, xR]; exact p2.2.2.2.1 j hj
    · unfold Cx.kd Cx.tk
      rw [xb, xn, xR, xm]; exact p2.2.2.2.2
  have hmn := hx.m
  -- the program's beginning
  obtain ⟨a', c1, c2, c3, c4, c5, c6, c7⟩ := clearG_ok (wI s2 1 0 0)
  have fa : fr (1 :: 403 :: 408 :: wf_cG_clear) s2 (wI (wI a' 403 0 0) 408 0 0) := fr_wI (fr_wI (fr_tr (fr_wI fr_rf (by decide +kernel)) (fr_mono (by decide +kernel) c2)) (by decide +kernel)) (by decide +kernel)
  have hSA : SA x (wI (wI a' 403 0 0) 408 0 0) 0 := by
    refine ⟨?_, ?_, ?_, Nat.zero_le _, ?_, ?_⟩
    · rw [xb, xn, xR, xm]; exact TL_fr fa rfl p2
    · rw [fa.1 106 rfl]; exact p6
    · rw [fa.1 107 rfl, p7]
      unfold Cx.kd Cx.tk
      rw [xb, xn, xR]
    · rw [fa.1 108 rfl]; exact p4
    · rw [fa.1 109 rfl]; exact p5
  have h302' : gI (wI (wI a' 403 0 0) 408 0 0) 302 0 = bI false := by
    rw [fa.1 302 rfl, p3.1 302 rfl, h302]; rfl
  have hIA : IXA x (fun _ => []) [] (fun _ => 0) (fun _ => 0) (fun _ => 0) (fun _ => 0) (fun _ => 0) [] (fun _ => 0) (wI (wI a' 403 0 0) 408 0 0) 0 0 0 := by
    refine ⟨⟨hSA, ?_, h302'⟩, ⟨?_, ?_, ?_⟩, ⟨by omega, by simp, by show (opn []).length ≤ 0; exact Nat.le_refl _⟩, fun l n hl => by simp at hl, ⟨?_, fun i l n hi hl => by simp at hl⟩, fun d hd => by simp at hd, fun p hp => ?_, Nat.zero_le _⟩
    · refine ⟨?_, fun q hq => ?_, fun q hq => Nat.zero_le _, fun i y hy => ?_, (fun q r hq hr => by simp at hr), (fun y hy => by cases hy), rfl⟩
      · rw [gI_wIn (by decide), gI_wIn (by decide)]; exact c3
      · exact c6 q hq
      · have : (([] : List (Nat × Nat)) ++ tv ([] : List Int64).length) = [] := rfl
        rw [this] at hy; simp at hy
    · rw [gI_wIn (by decide), gI_wIn (by decide)]; exact c4
    · rw [gI_wIn (by decide), gI_wIn (by decide)]; exact c5
    · rw [gI_wIn (by decide), gI_wIs]; rfl
    · rw [gI_wIs]; rfl
    · exact c7 p hp
  have hIP : IXP (fun _ => []) (fun _ => 0) (fun _ => 0) (fun _ => 0) (fun _ => 0) (fun _ => 0) [] (fun _ => 0) := by
    refine ⟨fun q q' r r' w h => by simp at h, rfl, fun _ _ => rfl, fun l n hl => by simp at hl, fun d hd => by simp at hd, fun l n hl => by simp at hl, ⟨fun r hr => by simp at hr, fun s hs => by simp at hs, fun _ _ _ => ⟨rfl, rfl⟩, fun _ _ _ => ⟨rfl, rfl⟩⟩⟩
  -- the reference's
  generalize hb0 : wI (wI (wI (wI (wI (wI (wI (wI (wI (wI (wI (wI (wI (wI b 1110 0 ((0 : Int32))) 1113 0 ((0 : Int32))) 1117 0 ((0 : Int32))) 1119 0 ((0 : Int32))) 1125 0 ((0 : Int32))) 1126 0 ((0 : Int32))) 1139 0 ((0 : Int32))) 1142 0 ((0 : Int32))) 1123 0 ((0 : Int32))) 1103 0 ((0 : Int32))) 1104 0 ((-1 : Int32))) 1102 0 ((0 : Int32))) 1105 0 ((0 : Int32))) 1106 0 ((0 : Int32)) = b0
  have eL : cR_load b = (cR_next b0).bind (fun s2 => cR_load_74 tm_N s2) := by
    unfold cR_load
    rw [hb0]
  have fb0 : fr [1102, 1103, 1104, 1105, 1106, 1110, 1113, 1117, 1119, 1123, 1125, 1126, 1139, 1142] b b0 := by
    rw [← hb0]
    exact fr_wI (fr_wI (fr_wI (fr_wI (fr_wI (fr_wI (fr_wI (fr_wI (fr_wI (fr_wI (fr_wI (fr_wI (fr_wI (fr_wI fr_rf rfl) rfl) rfl) rfl) rfl) rfl) rfl) rfl) rfl) rfl) rfl) rfl) rfl) rfl
  have g : ∀ f : Nat, f = 1110 ∨ f = 1113 ∨ f = 1117 ∨ f = 1119 ∨ f = 1125 ∨ f = 1126 ∨ f = 1139 ∨ f = 1142 → gI b0 f 0 = nI 0 := by
    intro f hf
    rw [← hb0]
    rcases hf with e | e | e | e | e | e | e | e <;> (subst e; simp (disch := first | assumption | omega) only [sx, if_pos, if_neg, bnd, Nat.reduceEqDiff, Nat.reduceAdd, Nat.reduceMul, Nat.reduceSub, and_true, true_and, and_false, false_and, or_true, true_or, or_false, false_or, if_true, if_false, eq_self, not_true, not_false_eq_true])
  have g3 : gI b0 1103 0 = 0 := by rw [← hb0]; simp (disch := first | assumption | omega) only [sx, if_pos, if_neg, bnd, Nat.reduceEqDiff, Nat.reduceAdd, Nat.reduceMul, Nat.reduceSub, and_true, true_and, and_false, false_and, or_true, true_or, or_false, false_or, if_true, if_false, eq_self, not_true, not_false_eq_true]
  have g5 : gI b0 1105 0 = nI 0 := by rw [← hb0]; simp (disch := first | assumption | omega) only [sx, if_pos, if_neg, bnd, Nat.reduceEqDiff, Nat.reduceAdd, Nat.reduceMul, Nat.reduceSub, and_true, true_and, and_false, false_and, or_true, true_or, or_false, false_or, if_true, if_false, eq_self, not_true, not_false_eq_true]
  have g6 : gI b0 1106 0 = 0 := by rw [← hb0]; simp (disch := first | assumption | omega) only [sx, if_pos, if_neg, bnd, Nat.reduceEqDiff, Nat.reduceAdd, Nat.reduceMul, Nat.reduceSub, and_true, true_and, and_false, false_and, or_true, true_or, or_false, false_or, if_true, if_false, eq_self, not_true, not_false_eq_true]
  have htR0 : txR b0 bt n := fun k hk => ⟨(htR k hk).1, (fb0.2.1 88 rfl k).trans (htR k hk).2⟩
  obtain ⟨b1, n1, n2, n3⟩ := next_ok (R := gB s 8) (an := false) hn (Nat.zero_le _) htR0 ((fb0.1 1101 rfl 0).trans h1101) g5 g3 ⟨fun z => by rw [g6] at z; exact absurd z (by decide), fun z => by cases z⟩
  have hSB : SB x b1 0 := by
    refine ⟨?_, ?_, ?_, ?_⟩
    · rw [xb, xn]; exact fun k hk => ⟨(htR0 k hk).1, (n2.2.1 88 rfl k).trans (htR0 k hk).2⟩
    · rw [xn, n2.1 1101 rfl, fb0.1 1101 rfl]; exact h1101
    · unfold WD
      rw [n2.2.2.2.2.2.2.2.2, fb0.2.2.2.2.2.2.2.2]; exact hW
    · have : x.tk 0 = tok bt n (gB s 8) false 0 := by
        unfold Cx.tk
        rw [xb, xn, xR]; rfl
      rw [this]; exact n3
  have hIB : IXB x (fun _ => []) (fun _ => 0) (fun _ => 0) (fun _ => 0) (fun _ => 0) [] (fun _ => 0) b1 0 0 0 := by
    refine ⟨⟨hSB, ⟨?_, fun k hk => by simp at hk⟩, ⟨?_, fun k hk => by simp at hk⟩, ⟨?_, fun k hk => by simp at hk⟩, ⟨?_, fun k hk => by simp at hk⟩, fun z => by omega⟩, ⟨?_, ?_, ?_, ?_⟩, fun l n hl => by simp at hl, fun d hd => by simp at hd, fun r hr => by simp at hr, fun s hs => by simp at hs, Nat.zero_le _⟩
    · rw [n2.1 1110 rfl]; exact g 1110 (by omega)
    · rw [n2.1 1113 rfl]; exact g 1113 (by omega)
    · rw [n2.1 1117 rfl]; exact g 1117 (by omega)
    · rw [n2.1 1119 rfl]; exact g 1119 (by omega)
    · rw [n2.1 1125 rfl]; exact g 1125 (by omega)
    · rw [n2.1 1139 rfl]; exact g 1139 (by omega)
    · rw [n2.1 1126 rfl]; exact g 1126 (by omega)
    · rw [n2.1 1142 rfl]; exact g 1142 (by omega)
  obtain ⟨a1, b2, t1, t2⟩ := text_lp hx (x.m + 1) 999999999 999999999 _ b1 0 0 _ _ _ _ _ _ _ _ _ 0 0 0 (by omega) (by omega) (by omega) (by omega) hIA hIB hIP
  have eR : cR_load b = cR_load_163 tm_N 0 b2 := by
    rw [eL, n1, Option.bind_some, show tm_N = 999999999 + 1 from rfl]; exact t1
  have eD : cD_readText (wI s2 1 0 0) = cD_readText_21 (999999999 + 1) 1 (nI 0) (wI (wI a' 403 0 0) 408 0 0) := by
    unfold cD_readText
    rw [c1, Option.bind_some]; rfl
  refine ⟨s2, ?_⟩
  rw [h1, p1, eD, eR]
  rcases t2 with ⟨z1, z2⟩ | ⟨z1, L, T, pm, en, vc, un, rm, G, τ, cc, q, K, K', z2, z3, z4, z5⟩
  · rw [z1]
    refine ⟨0, a1, b2, rfl, rfl, ?_, Or.inl ⟨rfl, z2⟩⟩
    rw [show tm_N = 999999999 + 1 from rfl]; exact bad163 z2.2.2
  · rw [z1]
    have hg2 := z4.1.1.g (show x.kd cc ≠ 1 by omega)
    have hGl := IXA_G z3
    obtain ⟨r, a2, b3, y1, y2, y3⟩ := close_lp hx z5.1 z3 z4 hg2 G 0 0 tm_N tm_N a1 b2 rfl (Nat.zero_le _) (by
      show opn G = opf G 0
      unfold opn; exact opn_opf G 0) (Nat.zero_le _) (by unfold tm_N; omega) (by unfold tm_N; omega) fr_rf (fun k n hk => by rw [if_neg (fun z => by omega)]) fr_rf (fun k n hk => by rw [if_neg (fun z => by omega)]) (fun k n hk => by omega)
    have y1 : cD_closeStarts a1 = some (r, a2) := y1
    have y2 : cR_load_163 tm_N 0 b2 = cR_load_245 b3 := y2
    have e127 : cD_readText_127 1 a1 = (if r = ((0 : Int32)) then some ((0 : Int32), a2) else some ((1 : Int32), a2)) := by
      unfold cD_readText_127
      rw [if_neg (by decide), y1, Option.bind_some]
    rcases y3 with ⟨q1, q2⟩ | ⟨q1, q2, q3, q4, q5, q6, q7⟩
    · exact ⟨0, a2, b3, rfl, by rw [e127, if_pos q1], y2, Or.inl ⟨rfl, q2⟩⟩
    · refine ⟨1, a2, b3, rfl, by rw [e127, if_neg (by rw [q1]; decide)], y2, Or.inr ⟨rfl, q2, ?_, ?_, PR_of hx z3 z4 z5 q3 q4 q5 q6 q7⟩⟩
      · rw [q3.1 108 rfl]; exact z3.1.1.z.1
      · rw [q3.1 109 rfl]; exact z3.1.1.z.2
