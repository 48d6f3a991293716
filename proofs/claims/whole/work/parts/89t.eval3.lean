/-! EXPRESSIONS: two-sided signs, and those that skip. -/
def tw2 (o : Nat) (l r : Int32) : Int32 := if o = 47 then l / r else if o = 37 then l - l / r * r else if o = 43 then l + r else if o = 45 then l - r else if o = 42 then l * r else if o = 60 then (if r ≤ l then 0 else 1) else if o = 62 then (if l ≤ r then 0 else 1) else if o = 316 then (if r < l then 0 else 1) else if o = 317 then (if l = r then 1 else 0) else if o = 318 then (if l < r then 0 else 1) else (if l = r then 0 else 1)
theorem rk_two {o : Nat} (h : 3 ≤ rk o) : o = 60 ∨ o = 62 ∨ o = 316 ∨ o = 318 ∨ o = 317 ∨ o = 289 ∨ o = 43 ∨ o = 45 ∨ o = 42 ∨ o = 47 ∨ o = 37 := by
  rcases rk_k2 (k := o) (by omega) with h | h | h | h | h | h
  · omega
  · omega
  · omega
  · omega
  · omega
  · exfalso
    rcases h.2 with e | e
    · rw [e] at h; exact absurd h.1 (by decide)
    · rw [e] at h; exact absurd h.1 (by decide)
theorem two_ok {o : Nat} (h : 3 ≤ rk o) (l r : Int32) (b : ts) : cR_two (nI (rc (o, 0))) l r b = if (o = 47 ∨ o = 37) ∧ r = 0 then some (0, wI b 1188 0 1) else some (tw2 o l r, b) := by
  rcases rk_two h with h | h | h | h | h | h | h | h | h | h | h
  · subst h
    rw [if_neg (by omega)]
    show (if r ≤ l then some ((0 : Int32), b) else some ((1 : Int32), b)) = some ((if r ≤ l then 0 else 1), b)
    split <;> rfl
  · subst h
    rw [if_neg (by omega)]
    show (if l ≤ r then some ((0 : Int32), b) else some ((1 : Int32), b)) = some ((if l ≤ r then 0 else 1), b)
    split <;> rfl
  · subst h
    rw [if_neg (by omega)]
    show (if r < l then some ((0 : Int32), b) else some ((1 : Int32), b)) = some ((if r < l then 0 else 1), b)
    split <;> rfl
  · subst h
    rw [if_neg (by omega)]
    show (if l < r then some ((0 : Int32), b) else some ((1 : Int32), b)) = some ((if l < r then 0 else 1), b)
    split <;> rfl
  · subst h
    rw [if_neg (by omega)]
    show (if l = r then some ((1 : Int32), b) else some ((0 : Int32), b)) = some ((if l = r then 1 else 0), b)
    split <;> rfl
  · subst h
    rw [if_neg (by omega)]
    show (if l = r then some ((0 : Int32), b) else some ((1 : Int32), b)) = some ((if l = r then 0 else 1), b)
    split <;> rfl
  · subst h
    rw [if_neg (by omega)]; rfl
  · subst h
    rw [if_neg (by omega)]; rfl
  · subst h
    rw [if_neg (by omega)]; rfl
  · subst h
    show (if r = ((0 : Int32)) then some ((0 : Int32), wI b 1188 0 ((1 : Int32))) else (if ¬ r = 0 then some (l / r, b) else none)) = _
    by_cases hr : r = 0
    · rw [if_pos hr, if_pos ⟨Or.inl rfl, hr⟩]
    · rw [if_neg hr, if_pos hr, if_neg (fun z => hr z.2)]; rfl
  · subst h
    show (if r = ((0 : Int32)) then some ((0 : Int32), wI b 1188 0 ((1 : Int32))) else (if ¬ r = 0 then some (l - l / r * r, b) else none)) = _
    by_cases hr : r = 0
    · rw [if_pos hr, if_pos ⟨Or.inr rfl, hr⟩]
    · rw [if_neg hr, if_pos hr, if_neg (fun z => hr z.2)]; rfl
theorem applyTwo_ok {o t : Nat} (h : 3 ≤ rk o) {a : ts} (ha : gI a 805 0 = nI (t + 1 + 1)) (ht : t + 1 < 128) : cW_applyToTwo (nI o) a = if (o = 47 ∨ o = 37) ∧ gA a 38 (t + 1) = 0 then some (1, wI (wI a 805 0 (nI (t + 1))) 805 0 (nI t)) else some (0, pshA (wI (wI a 805 0 (nI (t + 1))) 805 0 (nI t)) t (tw2 o (gA a 38 t) (gA a 38 (t + 1)))) := by
  have p1 := pop_ok ha ht
  have p2 := pop_ok (a := wI a 805 0 (nI (t + 1))) (t := t) gI_wIs (by omega)
  have ps : ∀ v, cW_push v (wI (wI a 805 0 (nI (t + 1))) 805 0 (nI t)) = some (pshA (wI (wI a 805 0 (nI (t + 1))) 805 0 (nI t)) t v) := fun v => push_ok gI_wIs (by omega)
  have e2 : gA (wI a 805 0 (nI (t + 1))) 38 t = gA a 38 t := rfl
  rw [e2] at p2
  unfold cW_applyToTwo
  rw [p1, Option.bind_some]
  dsimp only
  rw [p2, Option.bind_some]
  dsimp only
  generalize wI (wI a 805 0 (nI (t + 1))) 805 0 (nI t) = s at ps
  generalize gA a 38 t = l
  generalize gA a 38 (t + 1) = r
  have tr : ∀ (c : Prop) [Decidable c] (x y : Int32), (x = 0 ∨ x = 1) → (y = 0 ∨ y = 1) → ((if c then some (x, s) else some (y, s)).bind (fun x9 => (cW_truth x9.1 x9.2).bind (fun x12 => (cW_push x12.1 x12.2).bind (fun s14 => some ((0 : Int32), s14))))) = some (0, pshA s t (if c then x else y)) := by
    intro c _ x y hx hy
    have one : ∀ z : Int32, (z = 0 ∨ z = 1) → ((some (z, s)).bind (fun x9 => (cW_truth x9.1 x9.2).bind (fun x12 => (cW_push x12.1 x12.2).bind (fun s14 => some ((0 : Int32), s14))))) = some (0, pshA s t z) := by
      intro z hz
      rw [Option.bind_some]
      unfold cW_truth
      rcases hz with hz | hz
      · rw [hz, if_pos rfl, Option.bind_some]
        dsimp only
        rw [ps]; rfl
      · rw [hz, if_neg (show ¬ (1 : Int32) = 0 by decide), Option.bind_some]
        dsimp only
        rw [ps]; rfl
    by_cases hc : c
    · rw [if_pos hc, if_pos hc]; exact one x hx
    · rw [if_neg hc, if_neg hc]; exact one y hy
  have nz : ∀ o : Nat, o ≠ 47 → o ≠ 37 → ¬ ((o = 47 ∨ o = 37) ∧ r = 0) := fun o h1 h2 z => by omega
  rcases rk_two h with h | h | h | h | h | h | h | h | h | h | h
  · subst h; rw [if_neg (nz _ (by decide) (by decide))]
    exact tr (r ≤ l) 0 1 (Or.inl rfl) (Or.inr rfl)
  · subst h; rw [if_neg (nz _ (by decide) (by decide))]
    exact tr (l ≤ r) 0 1 (Or.inl rfl) (Or.inr rfl)
  · subst h; rw [if_neg (nz _ (by decide) (by decide))]
    exact tr (r < l) 0 1 (Or.inl rfl) (Or.inr rfl)
  · subst h; rw [if_neg (nz _ (by decide) (by decide))]
    exact tr (l < r) 0 1 (Or.inl rfl) (Or.inr rfl)
  · subst h; rw [if_neg (nz _ (by decide) (by decide))]
    exact tr (l = r) 1 0 (Or.inr rfl) (Or.inl rfl)
  · subst h; rw [if_neg (nz _ (by decide) (by decide))]
    exact tr (l = r) 0 1 (Or.inl rfl) (Or.inr rfl)
  · subst h; rw [if_neg (nz _ (by decide) (by decide))]
    show (cW_push (l + r) s).bind (fun s5 => some ((0 : Int32), s5)) = _
    rw [ps]; rfl
  · subst h; rw [if_neg (nz _ (by decide) (by decide))]
    show (cW_push (l - r) s).bind (fun s5 => some ((0 : Int32), s5)) = _
    rw [ps]; rfl
  · subst h; rw [if_neg (nz _ (by decide) (by decide))]
    show (cW_push (l * r) s).bind (fun s5 => some ((0 : Int32), s5)) = _
    rw [ps]; rfl
  · subst h
    show (if r = ((0 : Int32)) then some ((1 : Int32), s) else (if ¬ r = 0 then (cW_push (l / r) s).bind (fun s2 => some ((0 : Int32), s2)) else none)) = _
    by_cases hr : r = 0
    · rw [if_pos hr, if_pos ⟨Or.inl rfl, hr⟩]
    · rw [if_neg hr, if_pos hr, if_neg (fun z => hr z.2), ps]; rfl
  · subst h
    show (if r = ((0 : Int32)) then some ((1 : Int32), s) else (if ¬ r = 0 then (cW_push (l - l / r * r) s).bind (fun s2 => some ((0 : Int32), s2)) else none)) = _
    by_cases hr : r = 0
    · rw [if_pos hr, if_pos ⟨Or.inr rfl, hr⟩]
    · rw [if_neg hr, if_pos hr, if_neg (fun z => hr z.2), ps]; rfl
theorem rc_two {o : Nat} (h : 3 ≤ rk o) : 13 < rc (o, 0) ∧ rc (o, 0) < 600 := by
  rcases rk_two h with h | h | h | h | h | h | h | h | h | h | h <;> (subst h; decide)
theorem rstepB {p e t' c : Nat} {b : ts} {F : Nat} (hc : gA b 110 e = nI c) (he : e < 9000) (ht : t' + 1 < 4200) (hw : gI b 1188 0 = 0) (h : 13 < c) (h6 : c < 600) : cR_reckon_10 (F + 1) (nI p) (nI (t' + 1 + 1)) (nI e) b = (cR_two (nI c) (gA b 140 t') (gA b 140 (t' + 1)) b).bind (fun x6 => cR_reckon_10 F (nI p) (nI (t' + 1)) (nI (e + 1)) (wA x6.2 140 t' x6.1)) := by
  rw [cR_reckon_10.eq_2]
  unfold cR_reckon_10_b
  have e1 : nI (t' + 1 + 1) + (-1 : Int32) = nI (t' + 1) := by
    rw [show (-1 : Int32) = -(1 : Int32) from rfl, ← Int32.sub_eq_add_neg]; exact nI_pred (t' + 1)
  have e2 : nI (t' + 1) - (1 : Int32) = nI t' := nI_pred t'
  have ne : ∀ m : Nat, m ≤ 13 → ¬ nI c = nI m := fun m hm z => by
    have := nI_inj (by omega) (by omega) z
    omega
  rw [if_pos (nI_idx he (by decide)), nI_clamp (n := e) (by omega), hc, hw, show nI e + (1 : Int32) = nI (e + 1) from nI_add e 1, e1, e2, if_neg (show ¬ nI c = (0 : Int32) from ne 0 (by omega)), if_pos rfl, if_neg (show ¬ nI c ≤ (5 : Int32) from nI_ge (a := 5) (by omega) (by omega)), if_neg (show ¬ nI c = (7 : Int32) from ne 7 (by omega)), if_neg (show ¬ nI c = (8 : Int32) from ne 8 (by omega)), if_neg (show ¬ nI c = (11 : Int32) from ne 11 (by omega)), if_neg (show ¬ nI c = (12 : Int32) from ne 12 (by omega)), if_pos (show (13 : Int32) < nI c from nI_lt (a := 13) h (by omega)), if_pos (nI_idx (by omega) (by decide)), if_pos (nI_idx (by omega) (by decide)), nI_clamp (n := t') (by omega), nI_clamp (n := t' + 1) (by omega)]
theorem ev_bin {g e0 o : Nat} {E F : List Op1} (hr : 3 ≤ rk o) (hg : 1 ≤ e0) (hE : EVL g E) (hF : EVL e0 F) (hge : e0 + 1 ≤ g) : EVL g (E ++ F ++ [(o, 0)]) := by
  intro p T f e t t' a b hR hA hB hT hT4 he ht ht' h805 hw
  have hl : (E ++ F ++ [((o, 0) : Op1)]).length = E.length + F.length + 1 := by rw [List.length_append, List.length_append]; rfl
  rw [hl] at hT he ⊢
  have hEF : (E ++ F).length = E.length + F.length := List.length_append
  rcases hE p T f e t t' a b hR (OpA_left (OpA_left hA)) (OpD_left (OpD_left hB)) (by omega) hT4 (by omega) ht ht' h805 hw with ⟨v, j, j', a', b', h1, h2, h3, h4, h5, h6, h7, h8, h9, h10, h11, h12⟩ | h
  · have hR' := EVR_fr hR h10 (fr_mono (by decide +kernel) h11) h12
    have hw' : gI b' 1188 0 = 0 := (h11.1 1188 rfl 0).trans hw
    rcases hF p T (f + E.length) (e + E.length) (t + 1) (t' + 1) a' b' hR' (OpA_fr (OpA_right (OpA_left hA)) h10) (OpD_fr (OpD_right (OpD_left hB)) h11) (by omega) hT4 (by omega) (by omega) (by omega) h5 hw' with ⟨v2, i, i', a2, b2, q1, q2, q3, q4, q5, q6, q7, q8, q9, q10, q11, q12⟩ | ⟨w, i, i', a2, b2, q1, q2, q3, q4, q5, q6, q7, q8, q9, q10⟩
    · have hw2 : gI b2 1188 0 = 0 := (q11.1 1188 rfl 0).trans hw'
      obtain ⟨c1, c2⟩ := OpA_right hA 0 (o, 0) rfl
      obtain ⟨d1, d2⟩ := OpD_right hB 0 (o, 0) rfl
      rw [Nat.add_zero, hEF] at c1 c2 d1 d2
      rw [oA_0] at c2
      have c1' : gA a2 26 (f + (E.length + F.length)) = nI o := (q10.2.1 26 rfl _).trans ((h10.2.1 26 rfl _).trans c1)
      have c2' : gA a2 27 (f + (E.length + F.length)) = 0 := (q10.2.1 27 rfl _).trans ((h10.2.1 27 rfl _).trans c2)
      have d1' : gA b2 110 (e + (E.length + F.length)) = nI (rc (o, 0)) := (q11.2.1 110 rfl _).trans ((h11.2.1 110 rfl _).trans d1)
      obtain ⟨rc1, rc2⟩ := rc_two hr
      have ho6 : o < 600 ∧ o ≠ 294 ∧ o ≠ 380 ∧ o ≠ 1 ∧ o ≠ 2 ∧ o ≠ 3 ∧ o ≠ 4 ∧ o ≠ 33 ∧ o < 531 := by
        rcases rk_two hr with h | h | h | h | h | h | h | h | h | h | h <;> omega
      have lv : gA a2 38 t = v := (q8 t (by omega)).trans h6
      have lb : gA b2 140 t' = v := (q9 t' (by omega)).trans h7
      have ap := applyTwo_ok hr q5 (show t + 1 < 128 by omega)
      rw [lv, q6] at ap
      have stepA : ∀ G, cW_reckon_45 (G + 1) p (nI T) (nI (f + (E.length + F.length))) a2 = (cW_applyToTwo (nI o) a2).bind (fun x4 => (if x4.1 = ((0 : Int32)) then cW_reckon_45 G p (nI T) (nI (f + (E.length + F.length) + 1)) x4.2 else some (x4.1, x4.2))) := by
        intro G
        have ne : ∀ m : Nat, m < 600 → o ≠ m → ¬ nI o = nI m := fun m hm hne z => hne (nI_inj (by omega) (by omega) z)
        rw [cstep c1' c2' (by omega) hT4 ho6.2.1 ho6.2.2.1 ho6.1]
        unfold cW_apply
        rw [if_neg (show ¬ nI o = (1 : Int32) from ne 1 (by omega) (by omega)), if_neg (show ¬ nI o = (2 : Int32) from ne 2 (by omega) (by omega)), if_neg (show ¬ nI o = (3 : Int32) from ne 3 (by omega) (by omega)), if_neg (show ¬ nI o = (4 : Int32) from ne 4 (by omega) (by omega)), if_neg (show ¬ nI o = (33 : Int32) from ne 33 (by omega) (by omega)), if_neg (show ¬ nI o = (531 : Int32) from ne 531 (by omega) (by omega)), if_neg (show ¬ nI o = (532 : Int32) from ne 532 (by omega) (by omega)), if_neg (show ¬ nI o = (533 : Int32) from ne 533 (by omega) (by omega)), if_neg (show ¬ nI o = (534 : Int32) from ne 534 (by omega) (by omega)), if_neg (show ¬ nI o = (535 : Int32) from ne 535 (by omega) (by omega)), bind_eta]
      have stepB : ∀ G, cR_reckon_10 (G + 1) (nI p) (nI (t' + 1 + 1)) (nI (e + (E.length + F.length))) b2 = (cR_two (nI (rc (o, 0))) v v2 b2).bind (fun x6 => cR_reckon_10 G (nI p) (nI (t' + 1)) (nI (e + (E.length + F.length) + 1)) (wA x6.2 140 t' x6.1)) := by
        intro G
        rw [rstepB d1' (by omega) (by omega) hw2 rc1 rc2, lb, q7]
      have fpp : fr [801, 805, 2038] a2 (wI (wI a2 805 0 (nI (t + 1))) 805 0 (nI t)) := fr_wI (fr_wI fr_rf rfl) rfl
      have e801 : gI (wI (wI a2 805 0 (nI (t + 1))) 805 0 (nI t)) 801 0 = gI a2 801 0 := by rw [gI_wIn (by decide), gI_wIn (by decide)]
      by_cases hz : (o = 47 ∨ o = 37) ∧ v2 = 0
      · rw [if_pos hz] at ap
        refine Or.inr ⟨1, j + (i + 1), j' + (i' + 1), wI (wI a2 805 0 (nI (t + 1))) 805 0 (nI t), wA (wI b2 1188 0 1) 140 t' 0, by omega, by omega, by omega, by omega, fun G => ?_, fun G => ?_, (show gI (wI b2 1188 0 1) 1188 0 = nI 1 from gI_wIs), fr_tr h10 (fr_tr q10 fpp), fr_wA (fr_wI (fr_tr (fr_mono (by decide +kernel) h11) (fr_mono (by decide +kernel) q11)) rfl) rfl, ?_⟩
        · rw [show G + (j + (i + 1)) = G + 1 + i + j by omega, h3, q3, Nat.add_assoc f, stepA, ap, Option.bind_some]; rfl
        · obtain ⟨u, hu⟩ := rstop (p := p) (t' := t' + 1) (F := G) (e := e + (E.length + F.length) + 1) (b := wA (wI b2 1188 0 1) 140 t' 0) (by omega) (by
            show ¬ gI (wI b2 1188 0 1) 1188 0 = 0
            rw [gI_wIs]; decide)
          refine ⟨u, ?_⟩
          rw [show G + (j' + (i' + 1)) + 1 = G + 1 + 1 + i' + j' by omega, h4, q4, Nat.add_assoc e, stepB, two_ok hr, if_pos hz, Option.bind_some]
          exact hu
        · rw [e801]
          show gI a2 801 0 = gI (wI b2 1188 0 1) 1158 0
          rw [gI_wIn (by decide)]; exact q12
      · rw [if_neg hz] at ap
        refine Or.inl ⟨tw2 o v v2, j + (i + 1), j' + (i' + 1), pshA (wI (wI a2 805 0 (nI (t + 1))) 805 0 (nI t)) t (tw2 o v v2), wA b2 140 t' (tw2 o v v2), by omega, by omega, fun G => ?_, fun G => ?_, ?_, ?_, gA_wAs, fun k hk => ?_, fun k hk => ?_, fr_tr h10 (fr_tr q10 (fr_tr fpp fr_psh)), fr_wA (fr_tr h11 q11) rfl, ?_⟩
        · rw [show G + (j + (i + 1)) = G + 1 + i + j by omega, h3, q3, Nat.add_assoc f, stepA, ap, Option.bind_some]
          rfl
        · rw [show G + (j' + (i' + 1)) = G + 1 + i' + j' by omega, h4, q4, Nat.add_assoc e, stepB, two_ok hr, if_neg hz, Option.bind_some]
          rfl
        · unfold pshA; exact gI_wIs
        · unfold pshA; simp (disch := first | assumption | omega) only [sx, if_pos, if_neg, bnd, Nat.reduceEqDiff, Nat.reduceAdd, Nat.reduceMul, Nat.reduceSub, and_true, true_and, and_false, false_and, or_true, true_or, or_false, false_or, if_true, if_false, eq_self, not_true, not_false_eq_true]
        · rw [← h8 k hk, ← q8 k (by omega)]; unfold pshA; simp (disch := first | assumption | omega) only [sx, if_pos, if_neg, bnd, Nat.reduceEqDiff, Nat.reduceAdd, Nat.reduceMul, Nat.reduceSub, and_true, true_and, and_false, false_and, or_true, true_or, or_false, false_or, if_true, if_false, eq_self, not_true, not_false_eq_true]
        · rw [← h9 k hk, ← q9 k (by omega)]; simp (disch := first | assumption | omega) only [sx, if_pos, if_neg, bnd, Nat.reduceEqDiff, Nat.reduceAdd, Nat.reduceMul, Nat.reduceSub, and_true, true_and, and_false, false_and, or_true, true_or, or_false, false_or, if_true, if_false, eq_self, not_true, not_false_eq_true]
        · unfold pshA; rw [gI_wIn (by decide)]
          show gI (wI (wI a2 805 0 (nI (t + 1))) 805 0 (nI t)) 801 0 = gI b2 1158 0
          rw [e801]; exact q12
    · refine Or.inr ⟨w, j + i, j' + i', a2, b2, q1, q2, by omega, by omega, fun G => ?_, fun G => ?_, q7, fr_tr h10 q8, fr_tr (fr_mono (by decide +kernel) h11) q9, q10⟩
      · rw [show G + (j + i) = G + i + j by omega, h3, q5]
      · obtain ⟨u, hu⟩ := q6 G
        exact ⟨u, by rw [show G + (j' + i') + 1 = G + i' + 1 + j' by omega, h4, hu]⟩
  · exact evo_wrong (by omega) h
