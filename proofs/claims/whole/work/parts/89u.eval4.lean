/-! EXPRESSIONS: those that skip; and all of them. -/
def enq (o : Nat) (v : Int32) : Bool := if o = 380 then decide (¬ v = 0) else decide (v = 0)
def tru (v : Int32) : Int32 := if v = 0 then 0 else 1
theorem skips_ok {o t : Nat} (ho : o = 294 ∨ o = 380) {a : ts} {v : Int32} (h : gI a 805 0 = nI (t + 1)) (hv : gA a 38 t = v) (ht : t < 128) : cW_skips (nI o) a = if enq o v = true then some (1, pshA (wI a 805 0 (nI t)) t (tru v)) else some (0, wI a 805 0 (nI t)) := by
  have ps : ∀ u, cW_push u (wI a 805 0 (nI t)) = some (pshA (wI a 805 0 (nI t)) t u) := fun u => push_ok gI_wIs ht
  unfold cW_skips
  rw [pop_ok h ht, Option.bind_some, hv]
  dsimp only
  generalize wI a 805 0 (nI t) = s at ps
  have e1 : ∀ l2 : Int32, (l2 = 0 ∨ l2 = 1) → cW_skips_34 l2 1 s = some (1, pshA s t l2) := by
    intro l2 hl
    unfold cW_skips_34 cW_truth
    rw [if_neg (by decide)]
    rcases hl with hl | hl
    · rw [hl, if_pos rfl, Option.bind_some]
      dsimp only
      rw [ps, Option.bind_some, if_pos (Or.inr rfl)]
    · rw [hl, if_neg (by decide), Option.bind_some]
      dsimp only
      rw [ps, Option.bind_some, if_pos (Or.inr rfl)]
  have e0 : ∀ l2 : Int32, cW_skips_34 l2 0 s = some (0, s) := by
    intro l2
    unfold cW_skips_34
    rw [if_pos rfl, if_pos (Or.inl rfl)]
  unfold cW_skips_12 cW_skips_26 enq tru
  rcases ho with ho | ho
  · subst ho
    rw [if_neg (show ¬ nI 294 = (380 : Int32) by decide), if_neg (show ¬ nI 294 = (380 : Int32) by decide), if_neg (show ¬ (294 : Nat) = 380 by decide)]
    by_cases hz : v = 0
    · rw [if_pos hz, if_pos rfl, e1 0 (Or.inl rfl), decide_eq_true hz, if_pos rfl, if_pos hz]
    · rw [if_neg hz, if_neg (show ¬ (1 : Int32) = 0 by decide), e0, decide_eq_false hz, if_neg (by decide)]
  · subst ho
    rw [if_pos (show nI 380 = (380 : Int32) from rfl), if_pos (show nI 380 = (380 : Int32) from rfl), if_pos (show (380 : Nat) = 380 from rfl)]
    by_cases hz : v = 0
    · rw [if_pos hz, if_neg (show ¬ (0 : Int32) = 1 by decide), e0, decide_eq_false (fun z => z hz), if_neg (by decide)]
    · rw [if_neg hz, if_pos rfl, e1 1 (Or.inr rfl), decide_eq_true hz, if_pos rfl, if_neg hz]
theorem cstepS {p T i o A : Nat} {a : ts} {F : Nat} {v : Int32} {t : Nat} (ho : o = 294 ∨ o = 380) (h1 : gA a 26 i = nI o) (h2 : gA a 27 i = nI (i + A + 1)) (hA : 1 ≤ A) (hi : i < T) (hT : T ≤ 4000) (hA2 : i + A + 1 ≤ 4000) (h : gI a 805 0 = nI (t + 1)) (hv : gA a 38 t = v) (ht : t < 128) : cW_reckon_45 (F + 1) p (nI T) (nI i) a = if enq o v = true then cW_reckon_45 F p (nI T) (nI (i + A + 1)) (pshA (wI a 805 0 (nI t)) t (tru v)) else cW_reckon_45 F p (nI T) (nI (i + 1)) (wI a 805 0 (nI t)) := by
  have e77 : cW_reckon_45 (F + 1) p (nI T) (nI i) a = cW_reckon_77 (cW_reckon_45 F) p (nI T) (nI i) (nI o) a := by
    rw [cW_reckon_45.eq_2]
    unfold cW_reckon_45_b
    rw [if_neg (nI_ge hi (by omega)), if_pos (nI_idx (by omega) (by decide)), nI_clamp (by omega), h1]
    rcases ho with ho | ho
    · subst ho; rw [if_pos (show nI 294 = (294 : Int32) from rfl)]
    · subst ho; rw [if_neg (show ¬ nI 380 = (294 : Int32) by decide), if_pos (show nI 380 = (380 : Int32) from rfl)]
  rw [e77]
  unfold cW_reckon_77
  rw [skips_ok ho h hv ht]
  by_cases he : enq o v = true
  · rw [if_pos he, if_pos he, Option.bind_some]
    dsimp only
    have h2' : gA (pshA (wI a 805 0 (nI t)) t (tru v)) 27 i = nI (i + A + 1) := h2
    rw [if_neg (by decide), if_pos (nI_idx (by omega) (by decide)), nI_clamp (by omega), h2', show nI (i + A + 1) - (1 : Int32) = nI (i + A) from nI_pred (i + A), if_pos (nI_lt (by omega) (by omega)), show nI (i + A) + (1 : Int32) = nI (i + A + 1) from nI_add (i + A) 1]
  · rw [if_neg he, if_neg he, Option.bind_some]
    dsimp only
    rw [if_pos rfl, show nI i + (1 : Int32) = nI (i + 1) from nI_add i 1]
theorem rstepS {p e o t' : Nat} {b : ts} {F : Nat} {arg v : Int32} (ho : o = 294 ∨ o = 380) (h1 : gA b 110 e = nI (rc (o, arg))) (h2 : gA b 111 e = arg) (he : e < 9000) (hw : gI b 1188 0 = 0) (hv : gA b 140 t' = v) (ht : t' < 4200) : cR_reckon_10 (F + 1) (nI p) (nI (t' + 1)) (nI e) b = if enq o v = true then cR_reckon_10 F (nI p) (nI (t' + 1)) arg (wA b 140 t' (tru v)) else cR_reckon_10 F (nI p) (nI t') (nI (e + 1)) b := by
  have e1 : nI (t' + 1) - (1 : Int32) = nI t' := nI_pred t'
  have e2 : nI (t' + 1) + (-1 : Int32) = nI t' := by
    rw [show (-1 : Int32) = -(1 : Int32) from rfl, ← Int32.sub_eq_add_neg]; exact e1
  have e188 : ∀ c : Int32, cR_reckon_188 (cR_reckon_10 F) (nI p) (nI (t' + 1)) (nI (e + 1)) c arg b = (if v = ((0 : Int32)) then cR_reckon_204 (cR_reckon_10 F) (nI p) (nI (t' + 1)) (nI (e + 1)) c arg ((0 : Int32)) b else cR_reckon_204 (cR_reckon_10 F) (nI p) (nI (t' + 1)) (nI (e + 1)) c arg ((1 : Int32)) b) := by
    intro c
    unfold cR_reckon_188
    rw [e1, if_pos (nI_idx ht (by decide)), nI_clamp (by omega), hv]
  rw [cR_reckon_10.eq_2]
  unfold cR_reckon_10_b
  rw [if_pos (nI_idx he (by decide)), nI_clamp (n := e) (by omega), h1, h2, hw, show nI e + (1 : Int32) = nI (e + 1) from nI_add e 1]
  unfold enq tru
  rcases ho with ho | ho
  · subst ho
    have er : rc (294, arg) = 11 := rfl
    rw [er, if_neg (show ¬ nI 11 = (0 : Int32) by decide), if_pos (show (0 : Int32) = 0 from rfl), if_neg (show ¬ nI 11 ≤ (5 : Int32) by decide), if_neg (show ¬ nI 11 = (7 : Int32) by decide), if_neg (show ¬ nI 11 = (8 : Int32) by decide), if_pos (show nI 11 = (11 : Int32) from rfl), e188, if_neg (show ¬ (294 : Nat) = 380 by decide)]
    unfold cR_reckon_204 cR_reckon_220
    rw [if_neg (show ¬ nI 11 = (12 : Int32) by decide), if_neg (show ¬ nI 11 = (12 : Int32) by decide), e1, e2]
    by_cases hz : v = 0
    · rw [if_pos hz, if_pos (show (0 : Int32) = 0 from rfl), if_pos (show (0 : Int32) = 0 from rfl), if_pos (nI_idx ht (by decide)), nI_clamp (by omega), decide_eq_true hz, if_pos rfl, if_pos hz]
    · rw [if_neg hz, if_neg (show ¬ (1 : Int32) = 0 by decide), decide_eq_false hz, if_neg (by decide)]
  · subst ho
    have er : rc (380, arg) = 12 := rfl
    rw [er, if_neg (show ¬ nI 12 = (0 : Int32) by decide), if_pos (show (0 : Int32) = 0 from rfl), if_neg (show ¬ nI 12 ≤ (5 : Int32) by decide), if_neg (show ¬ nI 12 = (7 : Int32) by decide), if_neg (show ¬ nI 12 = (8 : Int32) by decide), if_neg (show ¬ nI 12 = (11 : Int32) by decide), if_pos (show nI 12 = (12 : Int32) from rfl), e188, if_pos (show (380 : Nat) = 380 from rfl)]
    unfold cR_reckon_204 cR_reckon_220
    rw [if_pos (show nI 12 = (12 : Int32) from rfl), if_pos (show nI 12 = (12 : Int32) from rfl), e1, e2]
    by_cases hz : v = 0
    · rw [if_pos hz, if_neg (show ¬ (0 : Int32) = 1 by decide), decide_eq_false (fun z => z hz), if_neg (by decide)]
    · rw [if_neg hz, if_pos (show (1 : Int32) = 1 from rfl), if_neg (show ¬ (1 : Int32) = 0 by decide), if_pos (nI_idx ht (by decide)), nI_clamp (by omega), decide_eq_true hz, if_pos rfl, if_neg hz]
theorem rc_sk1 {o : Nat} (ho : o = 294 ∨ o = 380) (u : Int32) : rc (o, u) = if o = 294 then 11 else 12 := by
  unfold rc
  dsimp only
  rw [if_neg (show ¬ o = 2 by omega), if_neg (show ¬ o = 531 by omega), if_neg (show ¬ o = 532 by omega), if_neg (show ¬ o = 533 by omega), if_neg (show ¬ o = 534 by omega), if_neg (show ¬ o = 535 by omega), if_neg (show ¬ o = 3 by omega), if_neg (show ¬ o = 33 by omega)]
  by_cases h : o = 294
  · rw [if_pos h, if_pos h]
  · rw [if_neg h, if_neg h, if_pos (by omega)]
theorem rc_sk {o : Nat} (ho : o = 294 ∨ o = 380) (u v : Int32) : rc (o, u) = rc (o, v) := by rw [rc_sk1 ho, rc_sk1 ho]
theorem ev_skA {a' b' : ts} {o n f e : Nat} (ho : o = 294 ∨ o = 380) (hn : n < 5000) (c2 : gA a' 27 f = oA f (o, nI (n + 2))) (d1 : gA b' 110 e = nI (rc (o, nI (n + 2)))) (d2 : gA b' 111 e = rA e (o, nI (n + 2))) : gA a' 27 f = nI (f + (n + 1) + 1) ∧ gA b' 111 e = nI (e + (n + 2)) ∧ gA b' 110 e = nI (rc (o, nI (e + (n + 2)))) := by
  have hsk : isSk o = true := by rcases ho with h | h <;> (subst h; rfl)
  have hn0 : ¬ nI (n + 2) = 0 := fun z => by
    have := nI_inj (a := n + 2) (b := 0) (by omega) (by decide) z
    omega
  refine ⟨?_, ?_, ?_⟩
  · rw [c2]
    unfold oA
    rw [if_pos ⟨hsk, hn0⟩]
    show nI f + nI (n + 2) = _
    rw [nI_add]; congr 1
  · rw [d2]
    unfold rA
    rw [if_pos ⟨hsk, hn0⟩]
    show nI e + nI (n + 2) = _
    rw [nI_add]
  · rw [d1, rc_sk ho]
theorem ev_sk {g o : Nat} {E F : List Op1} (hg : 1 ≤ g) (ho : o = 294 ∨ o = 380) (hE : EVL g E) (hF : EVL g F) : EVL g (E ++ (o, nI (F.length + 2)) :: (F ++ [(4, 0)])) := by
  intro p T f e t t' a b hR hA hB hT hT4 he ht ht' h805 hw
  have hl : (E ++ (o, nI (F.length + 2)) :: (F ++ [((4, 0) : Op1)])).length = E.length + (F.length + 2) := by
    rw [List.length_append, List.length_cons, List.length_append]; rfl
  have hl2 : (F ++ [((4, 0) : Op1)]).length = F.length + 1 := by rw [List.length_append]; rfl
  rw [hl] at hT he ⊢
  have hF4 := ev_un (o := 4) hg (by omega) hF
  rcases hE p T f e t t' a b hR (OpA_left hA) (OpD_left hB) (by omega) hT4 (by omega) ht ht' h805 hw with ⟨v, j, j', a', b', h1, h2, h3, h4, h5, h6, h7, h8, h9, h10, h11, h12⟩ | h
  · have hR' := EVR_fr hR h10 (fr_mono (by decide +kernel) h11) h12
    have hw' : gI b' 1188 0 = 0 := (h11.1 1188 rfl 0).trans hw
    have hAr := OpA_fr (OpA_right hA) h10
    have hBr := OpD_fr (OpD_right hB) h11
    obtain ⟨c1, c2⟩ := hAr 0 (o, nI (F.length + 2)) rfl
    obtain ⟨d1, d2⟩ := hBr 0 (o, nI (F.length + 2)) rfl
    rw [Nat.add_zero] at c1 c2 d1 d2
    obtain ⟨c2, d2', d1'⟩ := ev_skA ho (by omega) c2 d1 d2
    rw [Nat.add_assoc e] at d2' d1'
    have sA := fun G => cstepS (p := p) (T := T) (F := G) ho c1 c2 (by omega) (by omega) hT4 (by omega) h5 h6 (by omega)
    have sB := fun G => rstepS (p := p) (F := G) ho d1' d2' (by omega) hw' h7 (by omega)
    by_cases hq : enq o v = true
    · refine Or.inl ⟨tru v, j + 1, j' + 1, pshA (wI a' 805 0 (nI t)) t (tru v), wA b' 140 t' (tru v), by omega, by omega, fun G => ?_, fun G => ?_, ?_, ?_, gA_wAs, fun k hk => ?_, fun k hk => ?_, ?_, ?_, ?_⟩
      · rw [show G + (j + 1) = G + 1 + j by omega, h3, sA, if_pos hq]
        congr 2; omega
      · rw [show G + (j' + 1) = G + 1 + j' by omega, h4, sB, if_pos hq]
      · unfold pshA; exact gI_wIs
      · unfold pshA; simp (disch := first | assumption | omega) only [sx, if_pos, if_neg, bnd, Nat.reduceEqDiff, Nat.reduceAdd, Nat.reduceMul, Nat.reduceSub, and_true, true_and, and_false, false_and, or_true, true_or, or_false, false_or, if_true, if_false, eq_self, not_true, not_false_eq_true]
      · rw [← h8 k hk]; unfold pshA; simp (disch := first | assumption | omega) only [sx, if_pos, if_neg, bnd, Nat.reduceEqDiff, Nat.reduceAdd, Nat.reduceMul, Nat.reduceSub, and_true, true_and, and_false, false_and, or_true, true_or, or_false, false_or, if_true, if_false, eq_self, not_true, not_false_eq_true]
      · rw [← h9 k hk]; simp (disch := first | assumption | omega) only [sx, if_pos, if_neg, bnd, Nat.reduceEqDiff, Nat.reduceAdd, Nat.reduceMul, Nat.reduceSub, and_true, true_and, and_false, false_and, or_true, true_or, or_false, false_or, if_true, if_false, eq_self, not_true, not_false_eq_true]
      · exact fr_tr h10 (fr_tr (fr_wI fr_rf rfl) fr_psh)
      · exact fr_wA h11 rfl
      · unfold pshA; rw [gI_wIn (by decide)]
        show gI (wI a' 805 0 (nI t)) 801 0 = gI b' 1158 0
        rw [gI_wIn (by decide)]; exact h12
    · have fpop : fr [801, 805, 2038] a' (wI a' 805 0 (nI t)) := fr_wI fr_rf rfl
      have hA4 : OpA (wI a' 805 0 (nI t)) (f + E.length + 1) (F ++ [(4, 0)]) := fun k y hk => by
        have := hAr (1 + k) y (by rw [Nat.add_comm 1 k]; exact hk)
        rw [show f + E.length + 1 + k = f + E.length + (1 + k) by omega]; exact this
      have hB4 : OpD b' (e + E.length + 1) (F ++ [(4, 0)]) := fun k y hk => by
        have := hBr (1 + k) y (by rw [Nat.add_comm 1 k]; exact hk)
        rw [show e + E.length + 1 + k = e + E.length + (1 + k) by omega]; exact this
      have h801 : gI (wI a' 805 0 (nI t)) 801 0 = gI b' 1158 0 := by rw [gI_wIn (by decide)]; exact h12
      rcases hF4 p T (f + E.length + 1) (e + E.length + 1) t t' (wI a' 805 0 (nI t)) b' (EVR_fr hR' fpop fr_rf h801) hA4 hB4 (by rw [hl2]; omega) hT4 (by rw [hl2]; omega) ht ht' gI_wIs hw' with ⟨v2, i, i', a2, b2, q1, q2, q3, q4, q5, q6, q7, q8, q9, q10, q11, q12⟩ | ⟨w, i, i', a2, b2, q1, q2, q3, q4, q5, q6, q7, q8, q9, q10⟩
      · rw [hl2] at q1 q2 q3 q4
        refine Or.inl ⟨v2, j + (i + 1), j' + (i' + 1), a2, b2, by omega, by omega, fun G => ?_, fun G => ?_, q5, q6, q7, fun k hk => ?_, fun k hk => ?_, fr_tr h10 (fr_tr fpop q10), fr_tr h11 q11, q12⟩
        · rw [show G + (j + (i + 1)) = G + i + 1 + j by omega, h3, sA, if_neg hq, q3]
          congr 2; omega
        · rw [show G + (j' + (i' + 1)) = G + i' + 1 + j' by omega, h4, sB, if_neg hq, q4]
          congr 2; omega
        · rw [q8 k hk]; exact h8 k hk
        · rw [q9 k hk]; exact h9 k hk
      · rw [hl2] at q3 q4
        refine Or.inr ⟨w, j + (i + 1), j' + (i' + 1), a2, b2, q1, q2, by omega, by omega, fun G => ?_, fun G => ?_, q7, fr_tr h10 (fr_tr fpop q8), fr_tr (fr_mono (by decide +kernel) h11) q9, q10⟩
        · rw [show G + (j + (i + 1)) = G + i + 1 + j by omega, h3, sA, if_neg hq, q5]
        · obtain ⟨u, hu⟩ := q6 G
          exact ⟨u, by rw [show G + (j' + (i' + 1)) + 1 = G + i' + 1 + 1 + j' by omega, h4, sB, if_neg hq, hu]⟩
  · exact evo_wrong (by omega) h
theorem ev_all {g : Nat} {E : List Op1} (h : Wt g E) : 1 ≤ g ∧ EVL g E := by
  refine h (fun g E => 1 ≤ g ∧ EVL g E) ⟨fun g o ho hg => ⟨hg, ev_leaf ho hg⟩, fun g o E ho hE => ⟨hE.1, ev_un hE.1 (by omega) hE.2⟩, fun g e o E F hr _ hE hF hge => ⟨hE.1, ev_bin hr hF.1 hE.2 hF.2 hge⟩, fun g o E F ho hE hF => ⟨hE.1, ev_sk hE.1 ho hE.2 hF.2⟩⟩
