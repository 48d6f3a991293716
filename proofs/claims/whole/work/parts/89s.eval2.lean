/-! EXPRESSIONS: signs. -/
theorem shr8 (x : Int32) (h : 0 ≤ x) : x >>> ((8 : Int32) &&& 31) = x / 256 := by
  have h0 : 0 ≤ x.toInt := by
    have := Int32.le_iff_toInt_le.mp h
    simpa using this
  apply Int32.toInt_inj.mp
  have e1 : (x >>> ((8 : Int32) &&& 31)).toInt = x.toInt / 256 := by
    show (x >>> ((8 : Int32) &&& 31)).toBitVec.toInt = _
    rw [Int32.toBitVec_shiftRight, show ((8 : Int32) &&& 31).toBitVec.smod 32 = 8#32 by decide, BitVec.toInt_sshiftRight', show (8#32).toNat = 8 by decide, Int.shiftRight_eq_div_pow]
    rfl
  have e2 : (x / 256).toInt = x.toInt / 256 := by
    show (x / 256).toBitVec.toInt = _
    rw [Int32.toBitVec_div, BitVec.toInt_sdiv, show (256 : Int32).toBitVec.toInt = 256 by decide]
    show (x.toInt.tdiv 256).bmod (2 ^ 32) = _
    rw [Int.tdiv_eq_ediv_of_nonneg h0]
    have := Int32.toInt_lt x
    rw [Int.bmod_eq_of_le (by omega) (by omega)]
  rw [e1, e2]
theorem and31 (y : Int64) : 0 ≤ (y &&& 2147483647).toInt32 := by
  apply Int32.le_iff_toInt_le.mpr
  show (0 : Int32).toInt ≤ ((y &&& 2147483647).toInt32).toBitVec.toInt
  have hm : ((y &&& 2147483647).toInt32).toBitVec.msb = false := by
    rw [BitVec.msb_eq_getLsbD_last]
    show ((y &&& 2147483647).toBitVec.signExtend 32).getLsbD 31 = false
    rw [BitVec.getLsbD_signExtend]
    simp [Int64.toBitVec_and]
  rw [BitVec.toInt_eq_toNat_of_msb hm]
  show (0 : Int) ≤ _
  omega
theorem evo_wrong {p T f e t t' n m : Nat} {a b : ts} (hm : n ≤ m) (h : ∃ w j j' a' b', w ≠ 0 ∧ w < 10 ∧ j ≤ n ∧ j' ≤ n ∧ (∀ F, cW_reckon_45 (F + j) p (nI T) (nI f) a = some (nI w, a')) ∧ (∀ F, ∃ u, cR_reckon_10 (F + j' + 1) (nI p) (nI t') (nI e) b = some (u, b')) ∧ gI b' 1188 0 = nI w ∧ fr [801, 805, 2038] a a' ∧ fr [1158, 1188, 2140] b b' ∧ gI a' 801 0 = gI b' 1158 0) : EvO p T f e t t' m a b := by
  obtain ⟨w, j, j', a', b', h1, h2, h3, h4, h5⟩ := h
  exact Or.inr ⟨w, j, j', a', b', h1, h2, by omega, by omega, h5⟩
/-- behind one value: a sign that makes another of it -/
theorem evo_un {p T f e t t' n : Nat} {a b : ts} (h : EvO p T f e t t' n a b) (ht : t < 128) (hR : EVR p a b) (hw : gI b 1188 0 = 0) (step : ∀ (v : Int32) (a' b' : ts), gI a' 805 0 = nI (t + 1) → gA a' 38 t = v → gA b' 140 t' = v → fr [801, 805, 2038] a a' → fr [1158, 2140] b b' → gI a' 801 0 = gI b' 1158 0 → (∃ u a1 b1, (∀ F, cW_reckon_45 (F + 1) p (nI T) (nI (f + n)) a' = cW_reckon_45 F p (nI T) (nI (f + n + 1)) (pshA a1 t u)) ∧ (∀ F, cR_reckon_10 (F + 1) (nI p) (nI (t' + 1)) (nI (e + n)) b' = cR_reckon_10 F (nI p) (nI (t' + 1)) (nI (e + n + 1)) (wA b1 140 t' u)) ∧ fr [801, 805] a' a1 ∧ fr [1158] b' b1 ∧ gI a1 801 0 = gI b1 1158 0) ∨ (∃ w a1 b1, w ≠ 0 ∧ w < 10 ∧ (∀ F, cW_reckon_45 (F + 1) p (nI T) (nI (f + n)) a' = some (nI w, a1)) ∧ (∀ F, ∃ u, cR_reckon_10 (F + 1 + 1) (nI p) (nI (t' + 1)) (nI (e + n)) b' = some (u, b1)) ∧ gI b1 1188 0 = nI w ∧ fr [801, 805, 2038] a' a1 ∧ fr [1158, 1188, 2140] b' b1 ∧ gI a1 801 0 = gI b1 1158 0)) : EvO p T f e t t' (n + 1) a b := by
  rcases h with ⟨v, j, j', a', b', h1, h2, h3, h4, h5, h6, h7, h8, h9, h10, h11, h12⟩ | h
  · rcases step v a' b' h5 h6 h7 h10 h11 h12 with ⟨u, a1, b1, s1, s2, s3, s4, s5⟩ | ⟨w, a1, b1, s1, s2, s3, s4, s5, s6, s7, s8⟩
    · refine Or.inl ⟨u, j + 1, j' + 1, pshA a1 t u, wA b1 140 t' u, by omega, by omega, fun F => ?_, fun F => ?_, ?_, ?_, gA_wAs, fun k hk => ?_, fun k hk => ?_, ?_, ?_, ?_⟩
      · rw [show F + (j + 1) = F + 1 + j by omega, h3, s1, Nat.add_assoc]
      · rw [show F + (j' + 1) = F + 1 + j' by omega, h4, s2, Nat.add_assoc]
      · unfold pshA; exact gI_wIs
      · unfold pshA; simp (disch := first | assumption | omega) only [sx, if_pos, if_neg, bnd, Nat.reduceEqDiff, Nat.reduceAdd, Nat.reduceMul, Nat.reduceSub, and_true, true_and, and_false, false_and, or_true, true_or, or_false, false_or, if_true, if_false, eq_self, not_true, not_false_eq_true]
      · rw [← h8 k hk, ← s3.2.1 38 rfl k]; unfold pshA; simp (disch := first | assumption | omega) only [sx, if_pos, if_neg, bnd, Nat.reduceEqDiff, Nat.reduceAdd, Nat.reduceMul, Nat.reduceSub, and_true, true_and, and_false, false_and, or_true, true_or, or_false, false_or, if_true, if_false, eq_self, not_true, not_false_eq_true]
      · rw [← h9 k hk, ← s4.2.1 140 rfl k]; simp (disch := first | assumption | omega) only [sx, if_pos, if_neg, bnd, Nat.reduceEqDiff, Nat.reduceAdd, Nat.reduceMul, Nat.reduceSub, and_true, true_and, and_false, false_and, or_true, true_or, or_false, false_or, if_true, if_false, eq_self, not_true, not_false_eq_true]
      · exact fr_tr h10 (fr_tr (fr_mono (by decide +kernel) s3) fr_psh)
      · exact fr_tr h11 (fr_wA (fr_mono (by decide +kernel) s4) rfl)
      · unfold pshA; rw [gI_wIn (by decide)]; exact s5
    · refine Or.inr ⟨w, j + 1, j' + 1, a1, b1, s1, s2, by omega, by omega, fun F => ?_, fun F => ?_, s5, fr_tr h10 s6, fr_tr (fr_mono (by decide +kernel) h11) s7, s8⟩
      · rw [show F + (j + 1) = F + 1 + j by omega, h3, s3]
      · obtain ⟨u, hu⟩ := s4 F
        exact ⟨u, by rw [show F + (j' + 1) + 1 = F + 1 + 1 + j' by omega, h4, hu]⟩
  · exact evo_wrong (by omega) h
theorem OpA_left {a : ts} {f : Nat} {E F : List Op1} (h : OpA a f (E ++ F)) : OpA a f E := fun j o hj => h j o (by rw [List.getElem?_append_left (getE_lt hj)]; exact hj)
theorem OpA_right {a : ts} {f : Nat} {E F : List Op1} (h : OpA a f (E ++ F)) : OpA a (f + E.length) F := fun j o hj => by
  have := h (E.length + j) o (by rw [List.getElem?_append_right (by omega), show E.length + j - E.length = j by omega]; exact hj)
  rw [show f + E.length + j = f + (E.length + j) by omega]; exact this
theorem OpD_left {a : ts} {f : Nat} {E F : List Op1} (h : OpD a f (E ++ F)) : OpD a f E := fun j o hj => h j o (by rw [List.getElem?_append_left (getE_lt hj)]; exact hj)
theorem OpD_right {a : ts} {f : Nat} {E F : List Op1} (h : OpD a f (E ++ F)) : OpD a (f + E.length) F := fun j o hj => by
  have := h (E.length + j) o (by rw [List.getElem?_append_right (by omega), show E.length + j - E.length = j by omega]; exact hj)
  rw [show f + E.length + j = f + (E.length + j) by omega]; exact this
theorem OpA_fr {a a1 : ts} {f : Nat} {E : List Op1} (h : OpA a f E) (hf : fr [801, 805, 2038] a a1) : OpA a1 f E := fun j o hj => by rw [hf.2.1 26 rfl, hf.2.1 27 rfl]; exact h j o hj
theorem OpD_fr {a a1 : ts} {f : Nat} {E : List Op1} (h : OpD a f E) (hf : fr [1158, 2140] a a1) : OpD a1 f E := fun j o hj => by rw [hf.2.1 110 rfl, hf.2.1 111 rfl]; exact h j o hj
/-- the reference's one-sided signs -/
theorem rstepU {p e t' c : Nat} {b : ts} {F : Nat} (hc : gA b 110 e = nI c) (he : e < 9000) (ht : t' < 4200) (hw : gI b 1188 0 = 0) (h : c = 6 ∨ c = 9 ∨ c = 10 ∨ c = 13) : cR_reckon_10 (F + 1) (nI p) (nI (t' + 1)) (nI e) b = (if c = 6 then (cR_draw (gA b 140 t') b).bind (fun x14 => cR_reckon_10 F (nI p) (nI (t' + 1)) (nI (e + 1)) (wA x14.2 140 t' x14.1)) else if c = 9 then cR_reckon_10 F (nI p) (nI (t' + 1)) (nI (e + 1)) (wA b 140 t' (-(gA b 140 t'))) else if c = 10 then cR_reckon_10 F (nI p) (nI (t' + 1)) (nI (e + 1)) (wA b 140 t' (if gA b 140 t' = 0 then 1 else 0)) else cR_reckon_10 F (nI p) (nI (t' + 1)) (nI (e + 1)) (wA b 140 t' (if gA b 140 t' = 0 then 0 else 1))) := by
  rw [cR_reckon_10.eq_2]
  unfold cR_reckon_10_b
  have e1 : nI (t' + 1) - (1 : Int32) = nI t' := nI_pred t'
  rw [if_pos (nI_idx he (by decide)), nI_clamp (n := e) (by omega), hc, hw, show nI e + (1 : Int32) = nI (e + 1) from nI_add e 1, e1]
  rcases h with h | h | h | h
  · subst h
    rw [if_neg (by decide), if_pos rfl, if_neg (by decide), if_neg (by decide), if_neg (by decide), if_neg (by decide), if_neg (by decide), if_neg (by decide), if_pos (nI_idx ht (by decide)), nI_clamp (by omega), if_pos (by decide), if_pos rfl]
  · subst h
    rw [if_neg (by decide), if_pos rfl, if_neg (by decide), if_neg (by decide), if_neg (by decide), if_neg (by decide), if_neg (by decide), if_neg (by decide), if_pos (nI_idx ht (by decide)), nI_clamp (by omega), if_neg (by decide), if_pos (by decide), if_neg (by decide), if_pos rfl]
  · subst h
    rw [if_neg (show ¬ nI 10 = (0 : Int32) by decide), if_pos (show (0 : Int32) = 0 from rfl), if_neg (show ¬ nI 10 ≤ (5 : Int32) by decide), if_neg (show ¬ nI 10 = (7 : Int32) by decide), if_neg (show ¬ nI 10 = (8 : Int32) by decide), if_neg (show ¬ nI 10 = (11 : Int32) by decide), if_neg (show ¬ nI 10 = (12 : Int32) by decide), if_neg (show ¬ (13 : Int32) < nI 10 by decide), if_pos (nI_idx ht (by decide)), nI_clamp (by omega), if_neg (show ¬ nI 10 = (6 : Int32) by decide), if_neg (show ¬ nI 10 = (9 : Int32) by decide), if_pos (show nI 10 = (10 : Int32) from rfl), if_neg (show ¬ (10 : Nat) = 6 by decide), if_neg (show ¬ (10 : Nat) = 9 by decide), if_pos (show (10 : Nat) = 10 from rfl)]
    by_cases hz : gA b 140 t' = 0
    · rw [if_pos hz, if_pos hz]
    · rw [if_neg hz, if_neg hz]
  · subst h
    rw [if_neg (show ¬ nI 13 = (0 : Int32) by decide), if_pos (show (0 : Int32) = 0 from rfl), if_neg (show ¬ nI 13 ≤ (5 : Int32) by decide), if_neg (show ¬ nI 13 = (7 : Int32) by decide), if_neg (show ¬ nI 13 = (8 : Int32) by decide), if_neg (show ¬ nI 13 = (11 : Int32) by decide), if_neg (show ¬ nI 13 = (12 : Int32) by decide), if_neg (show ¬ (13 : Int32) < nI 13 by decide), if_pos (nI_idx ht (by decide)), nI_clamp (by omega), if_neg (show ¬ nI 13 = (6 : Int32) by decide), if_neg (show ¬ nI 13 = (9 : Int32) by decide), if_neg (show ¬ nI 13 = (10 : Int32) by decide), if_neg (show ¬ (13 : Nat) = 6 by decide), if_neg (show ¬ (13 : Nat) = 9 by decide), if_neg (show ¬ (13 : Nat) = 10 by decide)]
    by_cases hz : gA b 140 t' = 0
    · rw [if_pos hz, if_pos hz]
    · rw [if_neg hz, if_neg hz]
theorem oA_0 (k o : Nat) : oA k (o, 0) = 0 := if_neg (fun z => z.2 rfl)
/-- behind a fault the reference stops at its next code -/
theorem rstop {p e t' : Nat} {b : ts} {F : Nat} (he : e < 9000) (hw : ¬ gI b 1188 0 = 0) : ∃ u, cR_reckon_10 (F + 1) (nI p) (nI t') (nI e) b = some (u, b) := by
  refine ⟨gA b 140 ((0 : Int32)).toNatClampNeg, ?_⟩
  rw [cR_reckon_10.eq_2]
  unfold cR_reckon_10_b
  rw [if_pos (nI_idx he (by decide)), if_neg hw]
  split <;> rfl
def sdn (x : Int32) : Int32 := ((((1103515245 : Int64) * x.toInt64) + (12345 : Int64)) &&& (2147483647 : Int64)).toInt32
theorem ev_un {g o : Nat} {E : List Op1} (hg : 1 ≤ g) (ho : o = 3 ∨ o = 33 ∨ o = 533 ∨ o = 4) (hE : EVL g E) : EVL g (E ++ [(o, 0)]) := by
  intro p T f e t t' a b hR hA hB hT hT4 he ht ht' h805 hw
  have hl : (E ++ [((o, 0) : Op1)]).length = E.length + 1 := by rw [List.length_append]; rfl
  rw [hl] at hT he ⊢
  have h0 := hE p T f e t t' a b hR (OpA_left hA) (OpD_left hB) (by omega) hT4 (by omega) ht ht' h805 hw
  have t128 : t < 128 := by omega
  have t42 : t' < 4200 := by omega
  obtain ⟨a1, a2⟩ := OpA_right hA 0 (o, 0) rfl
  obtain ⟨b1, b2⟩ := OpD_right hB 0 (o, 0) rfl
  rw [Nat.add_zero] at a1 a2 b1 b2
  rw [oA_0] at a2
  refine evo_un h0 t128 hR hw ?_
  intro v a' b' q1 q2 q3 q4 q5 q6
  have hR' := EVR_fr hR q4 (fr_mono (by decide +kernel) q5) q6
  have c1 : gA a' 26 (f + E.length) = nI o := (q4.2.1 26 rfl _).trans a1
  have c2 : gA a' 27 (f + E.length) = 0 := (q4.2.1 27 rfl _).trans a2
  have d1 : gA b' 110 (e + E.length) = nI (rc (o, 0)) := (q5.2.1 110 rfl _).trans b1
  have hw' : gI b' 1188 0 = 0 := (q5.1 1188 rfl 0).trans hw
  have fpop : fr [801, 805] a' (wI a' 805 0 (nI t)) := fr_wI fr_rf rfl
  have h805' : gI (wI a' 805 0 (nI t)) 805 0 = nI t := gI_wIs
  have e801 : gI (wI a' 805 0 (nI t)) 801 0 = gI a' 801 0 := gI_wIn (by decide)
  rcases ho with h | h | h | h
  · subst h
    refine Or.inl ⟨-v, wI a' 805 0 (nI t), b', fun F => ?_, fun F => ?_, fpop, fr_rf, by rw [e801]; exact q6⟩
    · rw [cstep (o := 3) c1 c2 (by omega) hT4 (by decide) (by decide) (by decide)]
      unfold cW_apply
      rw [if_neg (by decide), if_neg (by decide), if_pos (by decide), pop_ok q1 t128, Option.bind_some]
      dsimp only
      rw [q2, push_ok h805' t128, Option.bind_some, Option.bind_some]; rfl
    · rw [rstepU (c := 9) d1 (by omega) t42 hw' (by omega), if_neg (by decide), if_pos rfl, q3]
  · subst h
    refine Or.inl ⟨if v = 0 then 1 else 0, wI a' 805 0 (nI t), b', fun F => ?_, fun F => ?_, fpop, fr_rf, by rw [e801]; exact q6⟩
    · rw [cstep (o := 33) c1 c2 (by omega) hT4 (by decide) (by decide) (by decide)]
      unfold cW_apply cW_apply_197 cW_truth
      rw [if_neg (by decide), if_neg (by decide), if_neg (by decide), if_neg (by decide), if_pos (by decide), pop_ok q1 t128, Option.bind_some]
      dsimp only
      rw [q2]
      by_cases hz : v = 0
      · rw [if_pos hz, if_pos hz, if_neg (by decide), Option.bind_some]
        dsimp only
        rw [push_ok h805' t128, Option.bind_some, Option.bind_some]; rfl
      · rw [if_neg hz, if_neg hz, if_pos rfl, Option.bind_some]
        dsimp only
        rw [push_ok h805' t128, Option.bind_some, Option.bind_some]; rfl
    · rw [rstepU (c := 10) d1 (by omega) t42 hw' (by omega), if_neg (by decide), if_neg (by decide), if_pos rfl, q3]
  · subst h
    have eC : ∀ F, cW_reckon_45 (F + 1) p (nI T) (nI (f + E.length)) a' = (cW_draw v (wI a' 805 0 (nI t))).bind (fun x4 => (if x4.1 = ((0 : Int32)) then cW_reckon_45 F p (nI T) (nI (f + E.length + 1)) x4.2 else some (x4.1, x4.2))) := by
      intro F
      rw [cstep (o := 533) c1 c2 (by omega) hT4 (by decide) (by decide) (by decide)]
      unfold cW_apply
      rw [if_neg (by decide), if_neg (by decide), if_neg (by decide), if_neg (by decide), if_neg (by decide), if_neg (by decide), if_neg (by decide), if_pos (by decide), pop_ok q1 t128, Option.bind_some]
      dsimp only
      rw [q2, bind_eta]
    have eR : ∀ F, cR_reckon_10 (F + 1) (nI p) (nI (t' + 1)) (nI (e + E.length)) b' = (cR_draw v b').bind (fun x14 => cR_reckon_10 F (nI p) (nI (t' + 1)) (nI (e + E.length + 1)) (wA x14.2 140 t' x14.1)) := by
      intro F
      rw [rstepU (c := 6) d1 (by omega) t42 hw' (by omega), if_pos rfl, q3]
    by_cases h1 : (1 : Int32) ≤ v
    · have hv0 : ¬ v = 0 := fun z => by rw [z] at h1; exact absurd h1 (by decide)
      have hs := shr8 (sdn (gI b' 1158 0)) (and31 _)
      refine Or.inl ⟨sdn (gI b' 1158 0) / 256 - sdn (gI b' 1158 0) / 256 / v * v, wI (wI a' 805 0 (nI t)) 801 0 (sdn (gI b' 1158 0)), wI b' 1158 0 (sdn (gI b' 1158 0)), fun F => ?_, fun F => ?_, fr_wI fpop rfl, fr_wI fr_rf rfl, by rw [gI_wIs, gI_wIs]⟩
      · rw [eC]
        unfold cW_draw
        rw [if_pos h1, if_pos hv0, e801, q6]
        show ((cW_push ((gI (wI (wI a' 805 0 (nI t)) 801 0 (sdn (gI b' 1158 0))) 801 0 >>> (((8 : Int32)) &&& 31)) - (gI (wI (wI a' 805 0 (nI t)) 801 0 (sdn (gI b' 1158 0))) 801 0 >>> (((8 : Int32)) &&& 31)) / v * v) (wI (wI a' 805 0 (nI t)) 801 0 (sdn (gI b' 1158 0)))).bind (fun s3 => some ((0 : Int32), s3))).bind _ = _
        rw [gI_wIs, hs, push_ok (t := t) (by rw [gI_wIn (by decide)]; exact h805') t128, Option.bind_some, Option.bind_some]
        rfl
      · rw [eR]
        unfold cR_draw
        rw [if_pos h1, if_pos hv0]
        show (some (gI (wI b' 1158 0 (sdn (gI b' 1158 0))) 1158 0 / ((256 : Int32)) - gI (wI b' 1158 0 (sdn (gI b' 1158 0))) 1158 0 / ((256 : Int32)) / v * v, wI b' 1158 0 (sdn (gI b' 1158 0)))).bind _ = _
        rw [gI_wIs, Option.bind_some]
    · refine Or.inr ⟨6, wI a' 805 0 (nI t), wA (wI b' 1188 0 6) 140 t' 0, by omega, by omega, fun F => ?_, fun F => ?_, (show gI (wI b' 1188 0 6) 1188 0 = nI 6 from gI_wIs), fr_mono (by decide +kernel) fpop, fr_wA (fr_wI fr_rf rfl) rfl, ?_⟩
      · rw [eC]
        unfold cW_draw
        rw [if_neg h1, Option.bind_some]
        rfl
      · obtain ⟨u, hu⟩ := rstop (p := p) (t' := t' + 1) (F := F) (e := e + E.length + 1) (b := wA (wI b' 1188 0 6) 140 t' 0) (by omega) (by
          show ¬ gI (wI b' 1188 0 6) 1188 0 = 0
          rw [gI_wIs]; decide)
        refine ⟨u, ?_⟩
        rw [eR]
        unfold cR_draw
        rw [if_neg h1, Option.bind_some]
        exact hu
      · rw [e801]
        show gI a' 801 0 = gI (wI b' 1188 0 6) 1158 0
        rw [gI_wIn (by decide)]; exact q6
  · subst h
    refine Or.inl ⟨if v = 0 then 0 else 1, wI a' 805 0 (nI t), b', fun F => ?_, fun F => ?_, fpop, fr_rf, by rw [e801]; exact q6⟩
    · rw [cstep (o := 4) c1 c2 (by omega) hT4 (by decide) (by decide) (by decide)]
      unfold cW_apply cW_apply_176 cW_truth
      rw [if_neg (by decide), if_neg (by decide), if_neg (by decide), if_pos (by decide), pop_ok q1 t128, Option.bind_some]
      dsimp only
      rw [q2]
      by_cases hz : v = 0
      · rw [if_pos hz, if_pos hz, if_pos rfl, Option.bind_some]
        dsimp only
        rw [push_ok h805' t128, Option.bind_some, Option.bind_some]; rfl
      · rw [if_neg hz, if_neg hz, if_neg (by decide), Option.bind_some]
        dsimp only
        rw [push_ok h805' t128, Option.bind_some, Option.bind_some]; rfl
    · rw [rstepU (c := 13) d1 (by omega) t42 hw' (by omega), if_neg (by decide), if_neg (by decide), if_neg (by decide), q3]
