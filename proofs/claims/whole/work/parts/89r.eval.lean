/-! EXPRESSIONS at work: the same value, or the same fault, on both sides. -/
def EVR (p : Nat) (a b : ts) : Prop := gI a 800 0 = gI b 1152 0 ∧ (gI a 801 0 = gI b 1158 0) ∧ (∀ i, i < 16 → gA a 36 i = gA b 118 i) ∧ (p < gM a ∧ p < 300 ∧ gI a 500 p = nI p) ∧ (∀ i, i < 8 → gV a p i = gA b 127 (8 * p + i)) ∧ (∀ q, q < 14 → gI a 703 q = gA b 129 q) ∧ ∀ q, q < 14 → gI a 601 (2 * q) + gI a 601 (2 * q + 1) = gA b 136 q + gA b 136 (14 + q)
theorem EVR_fr {p : Nat} {a b a1 b1 : ts} (h : EVR p a b) (fa : fr [801, 805, 2038] a a1) (fb : fr [1158, 1188, 2140] b b1) (hs : gI a1 801 0 = gI b1 1158 0) : EVR p a1 b1 := by
  obtain ⟨h1, h2, h3, h4, h5, h6, h7⟩ := h
  refine ⟨?_, hs, fun i hi => ?_, ⟨?_, h4.2.1, ?_⟩, fun i hi => ?_, fun q hq => ?_, fun q hq => ?_⟩
  · rw [fa.1 800 rfl, fb.1 1152 rfl]; exact h1
  · rw [fa.2.1 36 rfl, fb.2.1 118 rfl]; exact h3 i hi
  · rw [fa.2.2.2.2.2.2.2.1 rfl]; exact h4.1
  · rw [fa.1 500 rfl]; exact h4.2.2
  · rw [fa.2.2.2.2.2.1 rfl, fb.2.1 127 rfl]; exact h5 i hi
  · rw [fa.1 703 rfl, fb.2.1 129 rfl]; exact h6 q hq
  · rw [fa.1 601 rfl, fa.1 601 rfl, fb.2.1 136 rfl, fb.2.1 136 rfl]; exact h7 q hq
def OpD (b : ts) (e : Nat) (F : List Op1) : Prop := ∀ j o, F[j]? = some o → gA b 110 (e + j) = nI (rc o) ∧ gA b 111 (e + j) = rA (e + j) o
def pshA (a : ts) (t : Nat) (v : Int32) : ts := wI (wA a 38 t v) 805 0 (nI (t + 1))
theorem push_ok {a : ts} {t : Nat} {v : Int32} (h : gI a 805 0 = nI t) (ht : t < 128) : cW_push v a = some (pshA a t v) := by
  unfold cW_push pshA
  simp (disch := first | assumption | omega) only [sx, if_pos, if_neg, bnd, Nat.reduceEqDiff, Nat.reduceAdd, Nat.reduceMul, Nat.reduceSub, and_true, true_and, and_false, false_and, or_true, true_or, or_false, false_or, if_true, if_false, eq_self, not_true, not_false_eq_true, h]
theorem pop_ok {a : ts} {t : Nat} (h : gI a 805 0 = nI (t + 1)) (ht : t < 128) : cW_pop a = some (gA a 38 t, wI a 805 0 (nI t)) := by
  unfold cW_pop
  simp (disch := first | assumption | omega) only [sx, if_pos, if_neg, bnd, Nat.reduceEqDiff, Nat.reduceAdd, Nat.reduceMul, Nat.reduceSub, and_true, true_and, and_false, false_and, or_true, true_or, or_false, false_or, if_true, if_false, eq_self, not_true, not_false_eq_true, h, Nat.add_sub_cancel]
theorem fr_psh {a : ts} {t : Nat} {v : Int32} : fr [801, 805, 2038] a (pshA a t v) := fr_wI (fr_wA fr_rf rfl) rfl
/-- what an expression does on both sides -/
def EvO (p T f e t t' n : Nat) (a b : ts) : Prop :=
  (∃ v j j' a' b', j ≤ n ∧ j' ≤ n ∧ (∀ F, cW_reckon_45 (F + j) p (nI T) (nI f) a = cW_reckon_45 F p (nI T) (nI (f + n)) a') ∧ (∀ F, cR_reckon_10 (F + j') (nI p) (nI t') (nI e) b = cR_reckon_10 F (nI p) (nI (t' + 1)) (nI (e + n)) b') ∧ gI a' 805 0 = nI (t + 1) ∧ gA a' 38 t = v ∧ gA b' 140 t' = v ∧ (∀ k, k < t → gA a' 38 k = gA a 38 k) ∧ (∀ k, k < t' → gA b' 140 k = gA b 140 k) ∧ fr [801, 805, 2038] a a' ∧ fr [1158, 2140] b b' ∧ gI a' 801 0 = gI b' 1158 0) ∨
  (∃ w j j' a' b', w ≠ 0 ∧ w < 10 ∧ j ≤ n ∧ j' ≤ n ∧ (∀ F, cW_reckon_45 (F + j) p (nI T) (nI f) a = some (nI w, a')) ∧ (∀ F, ∃ u, cR_reckon_10 (F + j' + 1) (nI p) (nI t') (nI e) b = some (u, b')) ∧ gI b' 1188 0 = nI w ∧ fr [801, 805, 2038] a a' ∧ fr [1158, 1188, 2140] b b' ∧ gI a' 801 0 = gI b' 1158 0)
def EVL (g : Nat) (E : List Op1) : Prop := ∀ (p T f e t t' : Nat) (a b : ts), EVR p a b → OpA a f E → OpD b e E → f + E.length ≤ T → T ≤ 4000 → e + E.length < 9000 → t + g ≤ 128 → t' + g ≤ 4200 → gI a 805 0 = nI t → gI b 1188 0 = 0 → EvO p T f e t t' E.length a b
theorem cstep {p T f : Nat} {a : ts} {o F : Nat} {arg : Int32} (ho : gA a 26 f = nI o) (ha : gA a 27 f = arg) (hf : f < T) (hT : T ≤ 4000) (h1 : o ≠ 294) (h2 : o ≠ 380) (h6 : o < 600) : cW_reckon_45 (F + 1) p (nI T) (nI f) a = (cW_apply (nI o) arg p a).bind (fun x4 => (if x4.1 = ((0 : Int32)) then cW_reckon_45 F p (nI T) (nI (f + 1)) x4.2 else some (x4.1, x4.2))) := by
  rw [cW_reckon_45.eq_2]
  unfold cW_reckon_45_b
  rw [if_neg (nI_ge hf (by omega)), if_pos (nI_idx (by omega) (by decide)), nI_clamp (by omega), ho, ha, if_neg (show ¬ nI o = (294 : Int32) from fun z => h1 (nI_inj (a := o) (b := 294) (by omega) (by decide) z)), if_neg (show ¬ nI o = (380 : Int32) from fun z => h2 (nI_inj (a := o) (b := 380) (by omega) (by decide) z)), show nI f + (1 : Int32) = nI (f + 1) from nI_add f 1]
/-- a step that puts one value onto both stacks -/
theorem evo_leaf {p T f e t t' : Nat} {a b : ts} {v : Int32} (hR : EVR p a b) (ht : gI a 805 0 = nI t) (ht8 : t < 128) (hc : ∀ F, cW_reckon_45 (F + 1) p (nI T) (nI f) a = cW_reckon_45 F p (nI T) (nI (f + 1)) (pshA a t v)) (hr : ∀ F, cR_reckon_10 (F + 1) (nI p) (nI t') (nI e) b = cR_reckon_10 F (nI p) (nI (t' + 1)) (nI (e + 1)) (wA b 140 t' v)) : EvO p T f e t t' 1 a b := by
  refine Or.inl ⟨v, 1, 1, pshA a t v, wA b 140 t' v, Nat.le_refl _, Nat.le_refl _, hc, hr, ?_, ?_, gA_wAs, fun k hk => ?_, fun k hk => ?_, fr_psh, fr_wA fr_rf rfl, ?_⟩
  · unfold pshA; exact gI_wIs
  · unfold pshA; simp (disch := first | assumption | omega) only [sx, if_pos, if_neg, bnd, Nat.reduceEqDiff, Nat.reduceAdd, Nat.reduceMul, Nat.reduceSub, and_true, true_and, and_false, false_and, or_true, true_or, or_false, false_or, if_true, if_false, eq_self, not_true, not_false_eq_true]
  · unfold pshA; simp (disch := first | assumption | omega) only [sx, if_pos, if_neg, bnd, Nat.reduceEqDiff, Nat.reduceAdd, Nat.reduceMul, Nat.reduceSub, and_true, true_and, and_false, false_and, or_true, true_or, or_false, false_or, if_true, if_false, eq_self, not_true, not_false_eq_true]
  · simp (disch := first | assumption | omega) only [sx, if_pos, if_neg, bnd, Nat.reduceEqDiff, Nat.reduceAdd, Nat.reduceMul, Nat.reduceSub, and_true, true_and, and_false, false_and, or_true, true_or, or_false, false_or, if_true, if_false, eq_self, not_true, not_false_eq_true]
  · unfold pshA; rw [gI_wIn (by decide)]; exact hR.2.1
theorem nI_lt8 {r : Nat} (h : r < 24) : (nI r < (8 : Int32)) = (r < 8) := propext ⟨fun z => by
  by_cases q : r < 8
  · exact q
  · exact absurd z (nI_nlt (b := 8) (by omega) (by omega)), fun z => nI_lt (b := 8) z (by decide)⟩
theorem rstep68 {p e t' c : Nat} {b : ts} {arg : Int32} {F : Nat} (hc : gA b 110 e = nI c) (ha : gA b 111 e = arg) (he : e < 9000) (hw : gI b 1188 0 = 0) (h : 1 ≤ c ∧ c ≤ 5 ∨ c = 7 ∨ c = 8) : cR_reckon_10 (F + 1) (nI p) (nI t') (nI e) b = cR_reckon_68 (cR_reckon_10 F) (nI p) (nI t') (nI (e + 1)) (nI c) arg b := by
  rw [cR_reckon_10.eq_2]
  unfold cR_reckon_10_b
  rw [if_pos (nI_idx he (by decide)), nI_clamp (by omega), hc, ha, hw, show nI e + (1 : Int32) = nI (e + 1) from nI_add e 1]
  have e0 : (nI c = (0 : Int32)) = (c = 0) := propext (nI_eq (a := c) (b := 0) (by omega) (by decide))
  have e5 : (nI c ≤ (5 : Int32)) = (c ≤ 5) := propext (nI_leI (a := c) (b := 5) (by omega) (by decide))
  have e7 : (nI c = (7 : Int32)) = (c = 7) := propext (nI_eq (a := c) (b := 7) (by omega) (by decide))
  have e8 : (nI c = (8 : Int32)) = (c = 8) := propext (nI_eq (a := c) (b := 8) (by omega) (by decide))
  rw [if_neg (by rw [e0]; omega), if_pos rfl]
  by_cases h5 : c ≤ 5
  · rw [if_pos (by rw [e5]; exact h5)]
  · rw [if_neg (by rw [e5]; exact h5)]
    by_cases h7 : c = 7
    · rw [if_pos (by rw [e7]; exact h7)]
    · rw [if_neg (by rw [e7]; exact h7), if_pos (by rw [e8]; omega)]
theorem ev_leaf {g : Nat} {o : Op1} (ho : LF o) (hg : 1 ≤ g) : EVL g [o] := by
  intro p T f e t t' a b hR hA hB hT hT4 he ht ht' h805 hw
  obtain ⟨a1, a2⟩ := hA 0 o rfl
  obtain ⟨b1, b2⟩ := hB 0 o rfl
  rw [Nat.add_zero] at a1 a2 b1 b2
  have hT : f + 1 ≤ T := hT
  have he : e + 1 < 9000 := he
  have hR' := hR
  obtain ⟨r1, r2, r3, ⟨r4, r5, r6⟩, r7, r8, r9⟩ := hR'
  show EvO p T f e t t' 1 a b
  obtain ⟨op, arg⟩ := o
  rcases ho with h | ⟨h, r, h24, hr⟩ | ⟨h, h0⟩ | ⟨h, h0⟩ | ⟨h, q, hq, hq2⟩
  · -- a constant
    dsimp only at h; subst h
    have ea : oA f (1, arg) = arg := if_neg (fun z => by have := z.1; cases this)
    have eb : rA e (1, arg) = arg := by
      unfold rA
      rw [if_neg (fun z => by have := z.1; cases this), if_neg (fun z => absurd z.1 (show ¬ (1 : Nat) = 2 by decide))]
    rw [ea] at a2; rw [eb] at b2
    refine evo_leaf (v := arg) hR h805 (by omega) (fun F => ?_) (fun F => ?_)
    · rw [cstep (o := 1) a1 a2 (by omega) hT4 (by decide) (by decide) (by decide)]
      unfold cW_apply
      rw [if_pos (by decide), push_ok h805 (by omega), Option.bind_some, Option.bind_some]; rfl
    · rw [rstep68 (c := 1) b1 b2 (by omega) hw (by omega)]
      unfold cR_reckon_68
      rw [if_pos (by decide), if_pos (nI_idx (by omega) (by decide)), nI_clamp (by omega), show nI t' + (1 : Int32) = nI (t' + 1) from nI_add t' 1]
  · -- a variable or a number
    dsimp only at h hr; subst h; subst hr
    have ea : oA f (2, nI r) = nI r := if_neg (fun z => by have := z.1; cases this)
    have eb : rA e (2, nI r) = if r < 8 then nI r else nI (r - 8) := by
      unfold rA
      rw [if_neg (fun z => by have := z.1; cases this)]
      dsimp only
      by_cases h8 : r < 8
      · rw [if_neg (fun z => z.2 (by rw [nI_lt8 h24]; exact h8)), if_pos h8]
      · rw [if_pos ⟨rfl, by rw [nI_lt8 h24]; exact h8⟩, if_neg h8, show (8 : Int32) = nI 8 from rfl, pk_sub (by omega)]
    have ec : rc (2, nI r) = if r < 8 then 2 else 3 := by
      unfold rc
      rw [if_pos rfl]
      dsimp only
      by_cases h8 : r < 8
      · rw [if_pos (show nI r < (8 : Int32) from nI_lt (b := 8) h8 (by decide)), if_pos h8]
      · rw [if_neg (show ¬ nI r < (8 : Int32) from nI_nlt (b := 8) (by omega) (by omega)), if_neg h8]
    rw [ea] at a2; rw [eb] at b2; rw [ec] at b1
    have hval : cW_valueOf p (nI r) a = some (if r < 8 then gV a p r else gA a 36 (r - 8), a) := by
      unfold cW_valueOf cW_valueOf_17 cW_numberAt
      by_cases h8 : r < 8
      · rw [if_neg (nI_pos (by omega)), if_neg (show ¬ (8 : Int32) ≤ nI r from nI_ge (b := 8) h8 (by decide)), if_pos r4, if_pos (nI_idx h8 (by decide)), nI_clamp (by omega), if_pos h8]
      · rw [if_neg (nI_pos (by omega)), if_pos (show (8 : Int32) ≤ nI r from nI_le (a := 8) (by omega) (by omega)), show nI r - (8 : Int32) = nI (r - 8) from pk_sub (b := 8) (by omega), if_neg (nI_pos (by omega)), if_neg (show ¬ (16 : Int32) ≤ nI (r - 8) from nI_ge (b := 16) (by omega) (by decide)), if_pos (nI_idx (by omega) (by decide)), nI_clamp (by omega), if_neg h8, Option.bind_some]
    refine evo_leaf (v := if r < 8 then gV a p r else gA a 36 (r - 8)) hR h805 (by omega) (fun F => ?_) (fun F => ?_)
    · rw [cstep (o := 2) a1 a2 (by omega) hT4 (by decide) (by decide) (by decide)]
      unfold cW_apply
      rw [if_neg (by decide), if_pos (by decide), hval, Option.bind_some]
      dsimp only
      rw [push_ok h805 (by omega), Option.bind_some, Option.bind_some]; rfl
    · by_cases h8 : r < 8
      · rw [if_pos h8] at b1 b2
        rw [rstep68 (c := 2) b1 b2 (by omega) hw (by omega), if_pos h8, r7 r h8]
        unfold cR_reckon_68
        rw [if_neg (by decide), if_pos (by decide), show (8 : Int32) * nI p + nI r = nI (8 * p + r) by rw [show (8 : Int32) = nI 8 from rfl, pk_mul, nI_add], if_pos (nI_idx (by omega) (by decide)), if_pos (nI_idx (by omega) (by decide)), nI_clamp (by omega), nI_clamp (by omega), show nI t' + (1 : Int32) = nI (t' + 1) from nI_add t' 1]
      · rw [if_neg h8] at b1 b2
        rw [rstep68 (c := 3) b1 b2 (by omega) hw (by omega), if_neg h8, r3 (r - 8) (by omega)]
        unfold cR_reckon_68
        rw [if_neg (by decide), if_neg (by decide), if_pos (by decide), if_pos (nI_idx (by omega) (by decide)), if_pos (nI_idx (by omega) (by decide)), nI_clamp (by omega), nI_clamp (by omega), show nI t' + (1 : Int32) = nI (t' + 1) from nI_add t' 1]
  · -- the time
    dsimp only at h h0; subst h; subst h0
    refine evo_leaf (v := gI a 800 0) hR h805 (by omega) (fun F => ?_) (fun F => ?_)
    · rw [cstep (o := 531) a1 a2 (by omega) hT4 (by decide) (by decide) (by decide)]
      unfold cW_apply
      rw [if_neg (by decide), if_neg (by decide), if_neg (by decide), if_neg (by decide), if_neg (by decide), if_pos (by decide), push_ok h805 (by omega), Option.bind_some, Option.bind_some]; rfl
    · rw [rstep68 (c := 4) b1 b2 (by omega) hw (by omega), r1]
      unfold cR_reckon_68
      rw [if_neg (by decide), if_neg (by decide), if_neg (by decide), if_pos (by decide), if_pos (nI_idx (by omega) (by decide)), nI_clamp (by omega), show nI t' + (1 : Int32) = nI (t' + 1) from nI_add t' 1]
  · -- itself
    dsimp only at h h0; subst h; subst h0
    refine evo_leaf (v := nI p) hR h805 (by omega) (fun F => ?_) (fun F => ?_)
    · rw [cstep (o := 532) a1 a2 (by omega) hT4 (by decide) (by decide) (by decide)]
      unfold cW_apply
      rw [if_neg (by decide), if_neg (by decide), if_neg (by decide), if_neg (by decide), if_neg (by decide), if_neg (by decide), if_pos (by decide), if_pos r4, r6, push_ok h805 (by omega), Option.bind_some, Option.bind_some]; rfl
    · rw [rstep68 (c := 5) b1 b2 (by omega) hw (by omega)]
      unfold cR_reckon_68
      rw [if_neg (by decide), if_neg (by decide), if_neg (by decide), if_neg (by decide), if_pos (by decide), if_pos (nI_idx (by omega) (by decide)), nI_clamp (by omega), show nI t' + (1 : Int32) = nI (t' + 1) from nI_add t' 1]
  · -- a look at a place
    dsimp only at h hq2; subst hq2
    have hpl : ∀ k : Int32, cW_look k (nI q) a = (if k = ((534 : Int32)) then (if q < 14 then some (gI a 703 q, a) else none) else (if q < 14 then (cK_waiting q a).bind (fun x8 => some (x8.1, x8.2)) else none)) := by
      intro k
      unfold cW_look cW_placeAt
      rw [if_neg (nI_pos (by omega)), if_neg (show ¬ (14 : Int32) ≤ nI q from nI_ge (b := 14) hq (by decide)), if_pos (nI_idx hq (by decide)), nI_clamp (by omega), Option.bind_some]
    rcases h with h | h
    · subst h
      have ea : oA f (534, nI q) = nI q := if_neg (fun z => by have := z.1; cases this)
      have eb : rA e (534, nI q) = nI q := by
        unfold rA
        rw [if_neg (fun z => by have := z.1; cases this), if_neg (fun z => absurd z.1 (show ¬ (534 : Nat) = 2 by decide))]
      rw [ea] at a2; rw [eb] at b2
      refine evo_leaf (v := gI a 703 q) hR h805 (by omega) (fun F => ?_) (fun F => ?_)
      · rw [cstep (o := 534) a1 a2 (by omega) hT4 (by decide) (by decide) (by decide)]
        unfold cW_apply
        rw [if_neg (by decide), if_neg (by decide), if_neg (by decide), if_neg (by decide), if_neg (by decide), if_neg (by decide), if_neg (by decide), if_neg (by decide), if_pos (by decide), hpl, if_pos (by decide), if_pos hq, Option.bind_some]
        dsimp only
        rw [push_ok h805 (by omega), Option.bind_some, Option.bind_some]; rfl
      · rw [rstep68 (c := 7) b1 b2 (by omega) hw (by omega), r8 q hq]
        unfold cR_reckon_68
        rw [if_neg (by decide), if_neg (by decide), if_neg (by decide), if_neg (by decide), if_neg (by decide), if_pos (by decide), if_pos (nI_idx hq (by decide)), if_pos (nI_idx (by omega) (by decide)), nI_clamp (by omega), nI_clamp (by omega), show nI t' + (1 : Int32) = nI (t' + 1) from nI_add t' 1]
    · subst h
      have ea : oA f (535, nI q) = nI q := if_neg (fun z => by have := z.1; cases this)
      have eb : rA e (535, nI q) = nI q := by
        unfold rA
        rw [if_neg (fun z => by have := z.1; cases this), if_neg (fun z => absurd z.1 (show ¬ (535 : Nat) = 2 by decide))]
      rw [ea] at a2; rw [eb] at b2
      refine evo_leaf (v := gI a 601 (2 * q) + gI a 601 (2 * q + 1)) hR h805 (by omega) (fun F => ?_) (fun F => ?_)
      · rw [cstep (o := 535) a1 a2 (by omega) hT4 (by decide) (by decide) (by decide)]
        unfold cW_apply cK_waiting at *
        rw [if_neg (by decide), if_neg (by decide), if_neg (by decide), if_neg (by decide), if_neg (by decide), if_neg (by decide), if_neg (by decide), if_neg (by decide), if_neg (by decide), if_pos (by decide), hpl, if_neg (by decide), if_pos hq, if_pos hq, Option.bind_some, Option.bind_some]
        dsimp only
        rw [push_ok h805 (by omega), Option.bind_some, Option.bind_some]; rfl
      · rw [rstep68 (c := 8) b1 b2 (by omega) hw (by omega), r9 q hq]
        unfold cR_reckon_68 cR_waitingAt
        rw [if_neg (by decide), if_neg (by decide), if_neg (by decide), if_neg (by decide), if_neg (by decide), if_neg (by decide), if_pos (nI_idx (by omega) (by decide)), show (14 : Int32) + nI q = nI (14 + q) from nI_add 14 q, if_pos (nI_idx (by omega) (by decide)), nI_clamp (by omega), nI_clamp (by omega), Option.bind_some]
        dsimp only
        rw [if_pos (nI_idx (by omega) (by decide)), nI_clamp (by omega), show nI t' + (1 : Int32) = nI (t' + 1) from nI_add t' 1]
