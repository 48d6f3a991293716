/-! AN EXPRESSION IN BRACKETS; all readers; an expression from its first token to its last. -/
theorem readInner_pi {x : Cx} (hx : x.Ok) {L : Nat → List Int64} {T : List (Nat × Nat)} {aw : Bool} {rc1 : Nat → Int32 → ts → Option (Int32 × ts)} (hfr : ∀ w i s r, rc1 w i s = some r → fr wf_clF s r.2) {d : Nat} (hd : d ≤ 31) (pe : PE x L T aw (rc1 0) d) : PI1 x L T aw (cF_readInner rc1) d := by
  intro a b c k k' P Q P' Q' E W U o cp pre ho hU hWl hUl
  have hn := hx.n
  have hlast : ∀ t, (W ++ U ++ [(o, 0, 0, cp)]).getLast? = some t → t.2.1 = 0 := by
    intro t ht
    rw [List.getLast?_concat] at ht
    rw [← Option.some.inj ht]
  obtain ⟨r, a1, i1, j, b1, i2, i3, i4, i5⟩ := pe a b c k k' P Q P' Q' E (W ++ U ++ [(o, 0, 0, cp)]) pre hlast
  unfold cF_readInner
  rw [i1, Option.bind_some]
  dsimp only
  rcases i5 with ⟨z1, z2, z3⟩ | ⟨z1, c1, F, z2, z3, z4, z5, z6, z7, z8, z9, z10⟩
  · rw [z1, if_pos rfl]
    exact ⟨0, a1, rfl, j, b1, i2, i3, i4, Or.inl ⟨rfl, z2, z3⟩⟩
  · rw [z1, if_neg (by decide)]
    have hpn1 := hx.pn c1
    have hlt1 := hx.lt c1
    have hcl1 := z4.l
    by_cases hk1 : x.kd c1 = 1
    · obtain ⟨a2, f1, f2, f3⟩ := fail_tok hx z4 z5 hk1 2
      have hnd : cT_need 41 a1 = some (0, a2) := by
        unfold cT_need
        rw [z4.ki, hk1, if_neg (by decide), f1]; rfl
      rw [hnd]
      exact ⟨0, a2, rfl, j, b1, i2, i3, i4, Or.inl ⟨rfl, f2, by omega⟩⟩
    · obtain ⟨b2, cp2, w1, w2, w3, w4, w5, w6, w7⟩ := z10 hk1
      rw [if_neg (by simp)] at w3
      have hg2 := w4.g hk1
      have h41 := sg_eq hx w4 hk1 (q := 41) (by omega)
      have hfr2 : fr wf_cR_takeExp b b2 := fr_tr i3 (fr_mono (by decide +kernel) w7)
      by_cases e41 : x.kd c1 = 41
      · -- it is closed
        have hk2 : 2 ≤ x.kd c1 := by omega
        obtain ⟨v1, v2⟩ := adv_ok hx z4 (hx.lm hcl1 hk2)
        have hp1 := hx.p1 hk2
        have hnd : cT_need 41 a1 = some (1, av x a1 (c1 + 1)) := by
          unfold cT_need
          rw [z4.ki, e41, if_pos (by decide), v1]; rfl
        rw [hnd]
        -- the reference pops it
        have hw2 : gI b2 1142 0 = nI ((W ++ U).length + 1) := by rw [w6.w, List.length_append (as := W ++ U)]; rfl
        obtain ⟨e1, e2, e3, e4⟩ := w6.e (W ++ U).length (o, 0, 0, cp) (by rw [List.getElem?_append_right (Nat.le_refl _), Nat.sub_self]; rfl)
        have hWUl : (W ++ U).length < 4000 := by simp at z8 ⊢; omega
        generalize hu : wI (wI (wI b2 1142 0 (nI (W ++ U).length)) 1148 0 (nI (d - 1))) 1149 0 (bI cp) = u
        have fu : fr [1142, 1148, 1149] b2 u := by rw [← hu]; exact fr_wI (fr_wI (fr_wI fr_rf rfl) rfl) rfl
        have hEu : EC u k' P' Q' (E ++ F) := EC_fr fu rfl w5
        have hWu : EW u k' (W ++ U) (d - 1) cp := by
          refine ⟨?_, ?_, ?_, ?_, ?_, ?_⟩
          · rw [← hu]; simp (disch := first | assumption | omega) only [sx, if_pos, if_neg, bnd, Nat.reduceEqDiff, Nat.reduceAdd, Nat.reduceMul, Nat.reduceSub, and_true, true_and, and_false, false_and, or_true, true_or, or_false, false_or, if_true, if_false, eq_self, not_true, not_false_eq_true]
          · rw [fu.1 1147 rfl]; exact w6.f
          · intro i t hi
            obtain ⟨q1, q2, q3, q4⟩ := w6.e i t (by rw [List.getElem?_append_left (getE_lt hi)]; exact hi)
            exact ⟨(fu.2.1 112 rfl _).trans q1, (fu.2.1 113 rfl _).trans q2, fun z => (fu.2.1 114 rfl _).trans (q3 z), (fu.2.1 115 rfl _).trans q4⟩
          · rw [← hu]; simp (disch := first | assumption | omega) only [sx, if_pos, if_neg, bnd, Nat.reduceEqDiff, Nat.reduceAdd, Nat.reduceMul, Nat.reduceSub, and_true, true_and, and_false, false_and, or_true, true_or, or_false, false_or, if_true, if_false, eq_self, not_true, not_false_eq_true]
          · rw [← hu]; simp (disch := first | assumption | omega) only [sx, if_pos, if_neg, bnd, Nat.reduceEqDiff, Nat.reduceAdd, Nat.reduceMul, Nat.reduceSub, and_true, true_and, and_false, false_and, or_true, true_or, or_false, false_or, if_true, if_false, eq_self, not_true, not_false_eq_true]
          · rw [fu.1 1151 rfl]; exact w6.v
        have hSu : SB x u c1 := SB_fr fu rfl rfl w4
        have hbc : bI cp = 0 ∨ bI cp = 1 := by cases cp <;> simp [bI]
        have e156 : cR_takeSign b1 = if o = 533 then (cR_add 6 0 u).bind (fun x12 => cR_takeSign_222 x12.2) else cR_takeSign_222 u := by
          rw [w3]
          unfold cR_takeSign_130
          rw [if_neg (by decide), if_pos (show gI b2 1106 0 = (41 : Int32) from h41.mpr e41)]
          unfold cR_takeSign_156
          rw [need_t, Option.bind_some, good_t hg2, Option.bind_some]
          dsimp only
          rw [if_neg (by decide)]
          have s1 : gI b2 1142 0 - 1 = nI (W ++ U).length := by rw [hw2, nI_pred]
          rw [s1]
          have s2 : gI (wI b2 1142 0 (nI (W ++ U).length)) 1148 0 - 1 = nI (d - 1) := by
            rw [gI_wIn (by decide), w6.d]
            show nI d - nI 1 = _
            rw [pk_sub (by omega)]
          rw [s2]
          have s3 : gI (wI (wI b2 1142 0 (nI (W ++ U).length)) 1148 0 (nI (d - 1))) 1142 0 = nI (W ++ U).length := by simp (disch := first | assumption | omega) only [sx, if_pos, if_neg, bnd, Nat.reduceEqDiff, Nat.reduceAdd, Nat.reduceMul, Nat.reduceSub, and_true, true_and, and_false, false_and, or_true, true_or, or_false, false_or, if_true, if_false, eq_self, not_true, not_false_eq_true]
          rw [s3, if_pos (nI_idx (by omega) (by decide)), nI_clamp (by omega)]
          have s4 : gA (wI (wI b2 1142 0 (nI (W ++ U).length)) 1148 0 (nI (d - 1))) 115 (W ++ U).length = bI cp := e4
          rw [s4, if_pos hbc, hu]
          have s5 : gI u 1142 0 = nI (W ++ U).length := hWu.w
          have s6 : gA u 112 (W ++ U).length = nI (ec (o, 0, 0, cp)) := (fu.2.1 112 rfl _).trans e1
          rw [s5, if_pos (nI_idx (by omega) (by decide)), nI_clamp (by omega), s6]
          rcases ho with rfl | rfl
          · rw [if_neg (by cases cp <;> decide), if_neg (by decide)]
          · rw [if_pos (by cases cp <;> decide), if_pos rfl]
        -- the operation of a draw
        have mid : ∃ u1, (if o = 533 then (cR_add 6 0 u).bind (fun x12 => cR_takeSign_222 x12.2) else cR_takeSign_222 u) = cR_takeSign_222 u1 ∧ SB x u1 c1 ∧ EC u1 k' P' Q' (E ++ F ++ (if o = 533 then [(533, 0)] else [])) ∧ EW u1 k' (W ++ U) (d - 1) cp ∧ fr wf_cR_takeExp b u1 := by
          by_cases h533 : o = 533
          · obtain ⟨g1, g2⟩ := add_ok (c := 6) (v := 0) (o := (533, 0)) hEu (by simp at z9 ⊢; omega) rfl (rA_0 _ _).symm
            rw [if_pos h533, if_pos h533, g1]
            exact ⟨_, rfl, SB_fr fr_cdW rfl rfl hSu, g2, EW_fr fr_cdW rfl hWu, fr_tr (fr_tr hfr2 (fr_mono (by decide +kernel) fu)) (fr_mono (by decide +kernel) fr_cdW)⟩
          · rw [if_neg h533, if_neg h533, List.append_nil]
            exact ⟨u, rfl, hSu, hEu, hWu, fr_tr hfr2 (fr_mono (by decide +kernel) fu)⟩
        obtain ⟨u1, m1, m2, m3, m4, m5⟩ := mid
        obtain ⟨u2, n1, n2, n3⟩ := nxt_ok hx m2 hk2
        have hop : (if o = 533 then [(533, (0 : Int32))] else []).length ≤ 1 := by split <;> simp
        obtain ⟨b3, q1, q2, q3, q4, q5⟩ := endOne_ok (c := c1) hx (EC_fr n3 rfl m3) (EW_fr n3 rfl m4) hU hWl (by omega) (by simp at z9 hop ⊢; omega) (by omega)
        have hts : cR_takeSign b1 = some b3 := by
          rw [e156, m1]
          unfold cR_takeSign_222
          rw [n1, Option.bind_some, q1]; rfl
        have hre := RE_tr i2 (RE_sign (aw := aw) w2 (z5.g hk1) w1 hts)
        have hfb : fr wf_cR_takeExp b b3 := fr_tr m5 (fr_tr (fr_mono (by decide +kernel) n3) (fr_mono (by decide +kernel) q5))
        refine ⟨1, av x a1 (c1 + 1), rfl, j + 1, b3, hre, hfb, ⟨_, ?_, q2.n, q3.f⟩, Or.inr ⟨rfl, c1 + 1, F, by omega, by omega, v2, SB_fr q5 rfl rfl n2, EA_fr fr_av rfl z6, z7, ?_, ?_, fun _ => ⟨q2, q3, q4⟩⟩⟩
        · rw [flush_len]; simp at z9 hop ⊢; omega
        · simp at z8 ⊢; omega
        · simp at z9 ⊢; omega
      · -- another token
        obtain ⟨a2, b3, f1, f2, f3, f4, f5⟩ := fail_both hx z4 w4 hk1 2 (by decide)
        have hnd : cT_need 41 a1 = some (0, a2) := by
          unfold cT_need
          rw [z4.ki, if_neg (show ¬ nI (x.kd c1) = (41 : Int32) from fun z => e41 (nI_inj (a := x.kd c1) (b := 41) (by omega) (by decide) z)), f1]; rfl
        rw [hnd]
        have hts : cR_takeSign b1 = some b3 := by
          rw [w3]
          unfold cR_takeSign_130
          rw [if_neg (by decide), if_neg (show ¬ gI b2 1106 0 = (41 : Int32) from fun z => e41 (h41.mp z))]
          unfold cR_takeSign_156
          rw [f2, Option.bind_some, good_f f3.2.2, Option.bind_some]
          rfl
        have hre := RE_tr i2 (RE_sign (aw := aw) w2 (z5.g hk1) w1 hts)
        exact ⟨0, a2, rfl, j + 1, b3, hre, fr_tr hfr2 (fr_mono (by decide +kernel) f5), CB_fr f5 rfl (by
          refine ⟨_, ?_, w5.n, w6.f⟩
          simp at z9 ⊢; omega), Or.inl ⟨rfl, f3, by omega⟩⟩
theorem readInner_bd {x : Cx} {rc : Nat → Int32 → ts → Option (Int32 × ts)} {dp : Nat} (bd : BD x (rc 0) dp) : BD x (cF_readInner rc) dp := by
  intro a c ha h1
  obtain ⟨a1, d1, d2⟩ := bd a c ha h1
  refine ⟨a1, ?_, d2⟩
  unfold cF_readInner
  rw [d1]; rfl
theorem clF_fun (n : Nat) : clF (n + 1) 0 = cF_readExp (clF n) ∧ clF (n + 1) 1 = cF_readTest (clF n) ∧ clF (n + 1) 2 = cF_readSum (clF n) ∧ clF (n + 1) 3 = cF_readOne (clF n) ∧ clF (n + 1) 4 = cF_readInner (clF n) := by
  refine ⟨?_, ?_, ?_, ?_, ?_⟩ <;> (funext a s; rw [clF.eq_2]; rfl)
theorem clF_all {x : Cx} (hx : x.Ok) {L : Nat → List Int64} {T : List (Nat × Nat)} {aw : Bool} (hd : ND L) : ∀ n dp, dp ≤ 31 → (5 * (31 - dp) + 1 ≤ n → PO x L T aw (clF n 3) dp ∧ BD x (clF n 3) dp) ∧ (5 * (31 - dp) + 2 ≤ n → PS x L T aw (clF n 2) dp ∧ BD x (clF n 2) dp) ∧ (5 * (31 - dp) + 3 ≤ n → PT x L T aw (clF n 1) dp ∧ BD x (clF n 1) dp) ∧ (5 * (31 - dp) + 4 ≤ n → PE x L T aw (clF n 0) dp ∧ BD x (clF n 0) dp) ∧ (5 * (31 - dp) + 5 ≤ n → PI1 x L T aw (clF n 4) dp ∧ BD x (clF n 4) dp) := by
  intro n
  induction n with
  | zero => intro dp hdp; exact ⟨fun z => by omega, fun z => by omega, fun z => by omega, fun z => by omega, fun z => by omega⟩
  | succ n ih =>
    intro dp hdp
    obtain ⟨e0, e1, e2, e3, e4⟩ := clF_fun n
    have hfr := clF_fr n
    rw [e0, e1, e2, e3, e4]
    obtain ⟨i1, i2, i3, i4, i5⟩ := ih dp hdp
    refine ⟨fun z => ⟨readOne_po hx hd hfr hdp (fun h => (ih (dp + 1) (by omega)).1 (by omega)) (fun h => (ih (dp + 1) (by omega)).2.2.2.2 (by omega)), readOne_bd hx⟩, fun z => ?_, fun z => ?_, fun z => ?_, fun z => ?_⟩
    · obtain ⟨p, q⟩ := i1 (by omega)
      exact ⟨readSum_ps hx hfr hdp p q, readSum_bd q⟩
    · obtain ⟨p, q⟩ := i2 (by omega)
      exact ⟨readTest_pt hx hfr hdp p q, readTest_bd q⟩
    · obtain ⟨p, q⟩ := i3 (by omega)
      exact ⟨readExp_pe hx hfr hdp p q, readExp_bd q⟩
    · obtain ⟨p, q⟩ := i4 (by omega)
      exact ⟨readInner_pi hx hfr hdp p, readInner_bd q⟩
/-- the end of the reference's takeExp -/
theorem takeExp_69 {b : ts} {q : Nat} {l2 : Int32} (hq : gI b 1139 0 = nI q) (hl : q < 9000) (hf : gI b 1147 0 = nI 0) : cR_takeExp_69 l2 b = some (l2, cdW (wI b 1142 0 (nI 0)) q 0 0) := by
  unfold cR_takeExp_69 cR_add cdW
  simp (disch := first | assumption | omega) only [sx, if_pos, if_neg, bnd, Nat.reduceEqDiff, Nat.reduceAdd, Nat.reduceMul, Nat.reduceSub, and_true, true_and, and_false, false_and, or_true, true_or, or_false, false_or, if_true, if_false, eq_self, not_true, not_false_eq_true, hq, hf]
/-- an expression is over for the reference as soon as it has failed -/
theorem takeExp_bad {aw l2 : Int32} {b : ts} {q F : Nat} (hb : ¬ gI b 1103 0 = 0) (hq : gI b 1139 0 = nI q) (hl : q < 9000) (hf : gI b 1147 0 = nI 0) : cR_takeExp_33 (F + 1) aw l2 b = some (l2, cdW (wI b 1142 0 (nI 0)) q 0 0) := by
  rw [cR_takeExp_33.eq_2]
  unfold cR_takeExp_33_b
  rw [good_f hb, Option.bind_some]
  dsimp only
  rw [if_pos (show (0 : Int32) = 0 from rfl), takeExp_69 hq hl hf]
  split <;> rfl
/-- an expression, from its first token on -/
theorem takeExp_ok {x : Cx} (hx : x.Ok) {L : Nat → List Int64} {T : List (Nat × Nat)} {aw : Bool} {a b : ts} {c k k' : Nat} {P Q P' Q' : Nat → Int32} (hd : ND L) (h : RX x L T aw a b c) (hA : EA a k P Q []) (hC : EC b k' P' Q' []) (hw : gI b 1142 0 = nI 0) (hk : k ≤ x.ps c) (hk' : k' ≤ 2 * x.ps c) : ∃ r a1 b1, clF 200 0 0 a = some (r, a1) ∧ cR_takeExp (bI aw) b = some (nI k', b1) ∧ gI b1 1142 0 = nI 0 ∧ (∃ q, q ≤ 8501 ∧ gI b1 1139 0 = nI q) ∧ ((r = 0 ∧ FL a1 b1) ∨ (r = 1 ∧ ∃ c1 F, c < c1 ∧ SA x a1 c1 ∧ SB x b1 c1 ∧ EA a1 k P Q F ∧ Wt 103 F ∧ k + F.length ≤ x.ps c1 ∧ k' + F.length ≤ 2 * x.ps c1 ∧ (x.kd c1 ≠ 1 → gI b1 1139 0 = nI (k' + F.length + 1) ∧ gA b1 110 (k' + F.length) = 0 ∧ (∀ j o, F[j]? = some o → gA b1 110 (k' + j) = nI (rc o) ∧ gA b1 111 (k' + j) = rA (k' + j) o) ∧ (∀ j, j < k' → gA b1 110 j = P' j ∧ gA b1 111 j = Q' j)))) ∧ fr wf_clF a a1 ∧ fr wf_cR_takeExp b b1 := by
  have hn := hx.n
  have hpn := hx.pn c
  have hk0 : gI b 1139 0 = nI k' := by have := hC.n; simpa using this
  generalize hb0 : wI (wI (wI (wI (wI b 1147 0 (gI b 1142 0)) 1148 0 0) 1149 0 0) 1150 0 1) 1151 0 0 = b0
  have f0 : fr [1147, 1148, 1149, 1150, 1151] b b0 := by rw [← hb0]; exact fr_wI (fr_wI (fr_wI (fr_wI (fr_wI fr_rf rfl) rfl) rfl) rfl) rfl
  have f0' : fr wf_cR_takeExp b b0 := fr_mono (by decide +kernel) f0
  have e0 : cR_takeExp (bI aw) b = cR_takeExp_33 tm_N (bI aw) (nI k') b0 := by
    unfold cR_takeExp
    rw [hb0, hk0]
  have hE0 : EC b0 k' P' Q' [] := EC_fr f0 rfl hC
  have hW0 : EW b0 k' [] 0 false := by
    refine ⟨?_, ?_, (fun j t hj => by cases hj), ?_, ?_, ?_⟩
    · rw [f0.1 1142 rfl]; exact hw
    · rw [← hb0]; simp (disch := first | assumption | omega) only [sx, if_pos, if_neg, bnd, Nat.reduceEqDiff, Nat.reduceAdd, Nat.reduceMul, Nat.reduceSub, and_true, true_and, and_false, false_and, or_true, true_or, or_false, false_or, if_true, if_false, eq_self, not_true, not_false_eq_true, hw]
    · rw [← hb0]; simp (disch := first | assumption | omega) only [sx, if_pos, if_neg, bnd, Nat.reduceEqDiff, Nat.reduceAdd, Nat.reduceMul, Nat.reduceSub, and_true, true_and, and_false, false_and, or_true, true_or, or_false, false_or, if_true, if_false, eq_self, not_true, not_false_eq_true]
    · rw [← hb0]; simp (disch := first | assumption | omega) only [sx, if_pos, if_neg, bnd, Nat.reduceEqDiff, Nat.reduceAdd, Nat.reduceMul, Nat.reduceSub, and_true, true_and, and_false, false_and, or_true, true_or, or_false, false_or, if_true, if_false, eq_self, not_true, not_false_eq_true]; rfl
    · rw [← hb0]; simp (disch := first | assumption | omega) only [sx, if_pos, if_neg, bnd, Nat.reduceEqDiff, Nat.reduceAdd, Nat.reduceMul, Nat.reduceSub, and_true, true_and, and_false, false_and, or_true, true_or, or_false, false_or, if_true, if_false, eq_self, not_true, not_false_eq_true]
  have hS0 : SB x b0 c := SB_fr f0 rfl rfl h.sb
  obtain ⟨pe, bd⟩ := (clF_all hx (T := T) (aw := aw) hd 200 0 (by omega)).2.2.2.1 (by omega)
  have fin : ∀ r a1 b1, cR_takeExp (bI aw) b = some (nI k', b1) → clF 200 0 0 a = some (r, a1) → fr wf_clF a a1 ∧ fr wf_cR_takeExp b b1 := fun r a1 b1 h1 h2 => ⟨clF_fr _ _ _ _ _ h2, cR_takeExp_fr _ _ _ h1⟩
  -- the end, behind a fault
  have bad : ∀ (b1 : ts) (j : Nat), RE aw j b0 b1 → j ≤ 5000 → ¬ gI b1 1103 0 = 0 → CB b1 → ∃ b2, cR_takeExp (bI aw) b = some (nI k', b2) ∧ gI b2 1142 0 = nI 0 ∧ (∃ q, q ≤ 8501 ∧ gI b2 1139 0 = nI q) ∧ gI b2 1103 0 = gI b1 1103 0 ∧ gI b2 1104 0 = gI b1 1104 0 ∧ fr [1139, 1142, 2110, 2111] b1 b2 := by
    intro b1 j hr hj hb ⟨q, q1, q2, q3⟩
    refine ⟨cdW (wI b1 1142 0 (nI 0)) q 0 0, ?_, ?_, ⟨q + 1, by omega, ?_⟩, ?_, ?_, fr_wI (fr_wA (fr_wA (fr_wI fr_rf rfl) rfl) rfl) rfl⟩
    · rw [e0, show tm_N = (999999999 - j + 1) + j by unfold tm_N; omega, hr, takeExp_bad hb q2 (by omega) q3]
    · unfold cdW; simp (disch := first | assumption | omega) only [sx, if_pos, if_neg, bnd, Nat.reduceEqDiff, Nat.reduceAdd, Nat.reduceMul, Nat.reduceSub, and_true, true_and, and_false, false_and, or_true, true_or, or_false, false_or, if_true, if_false, eq_self, not_true, not_false_eq_true]
    · unfold cdW; simp (disch := first | assumption | omega) only [sx, if_pos, if_neg, bnd, Nat.reduceEqDiff, Nat.reduceAdd, Nat.reduceMul, Nat.reduceSub, and_true, true_and, and_false, false_and, or_true, true_or, or_false, false_or, if_true, if_false, eq_self, not_true, not_false_eq_true]
    · unfold cdW; simp (disch := first | assumption | omega) only [sx, if_pos, if_neg, bnd, Nat.reduceEqDiff, Nat.reduceAdd, Nat.reduceMul, Nat.reduceSub, and_true, true_and, and_false, false_and, or_true, true_or, or_false, false_or, if_true, if_false, eq_self, not_true, not_false_eq_true]
    · unfold cdW; simp (disch := first | assumption | omega) only [sx, if_pos, if_neg, bnd, Nat.reduceEqDiff, Nat.reduceAdd, Nat.reduceMul, Nat.reduceSub, and_true, true_and, and_false, false_and, or_true, true_or, or_false, false_or, if_true, if_false, eq_self, not_true, not_false_eq_true]
  by_cases hk1 : x.kd c = 1
  · obtain ⟨a1, d1, d2⟩ := bd a c h.sa hk1
    have d1 : clF 200 0 0 a = some (0, a1) := d1
    obtain ⟨b2, g1, g2, g3, g4, g5, g6⟩ := bad b0 0 RE_0 (by omega) (hS0.nb hk1) ⟨k', by omega, by have := hE0.n; simpa using this, hW0.f⟩
    obtain ⟨l1, l2, l3⟩ := d2 _ hS0
    obtain ⟨m1, m2⟩ := fin _ _ _ g1 d1
    exact ⟨0, a1, b2, d1, g1, g2, g3, Or.inl ⟨rfl, l1.trans g4.symm, l2.trans g5.symm, by rw [g4]; exact l3⟩, m1, m2⟩
  · have pre : PreE x L T aw a b0 c k k' P Q P' Q' [] [] 0 false := by
      refine ⟨RX_fr (V := []) h fr_rf f0 rfl rfl h.sa hS0, hk1, hA, hE0, hW0, ?_, by simpa using hk, by simpa using hk', fun t ht => by cases ht⟩
      rw [← hb0]; simp (disch := first | assumption | omega) only [sx, if_pos, if_neg, bnd, Nat.reduceEqDiff, Nat.reduceAdd, Nat.reduceMul, Nat.reduceSub, and_true, true_and, and_false, false_and, or_true, true_or, or_false, false_or, if_true, if_false, eq_self, not_true, not_false_eq_true]
    obtain ⟨r, a1, i1, j, b1, i2, i3, i4, i5⟩ := pe a b0 c k k' P Q P' Q' [] [] pre (fun t ht => by cases ht)
    have i1 : clF 200 0 0 a = some (r, a1) := i1
    have hxm := hx.m
    rcases i5 with ⟨z1, z2, z3⟩ | ⟨z1, c1, F, z2, z3, z4, z5, z6, z7, z8, z9, z10⟩
    · obtain ⟨b2, g1, g2, g3, g4, g5, g6⟩ := bad b1 j i2 (by omega) z2.2.2 i4
      obtain ⟨m1, m2⟩ := fin _ _ _ g1 i1
      exact ⟨r, a1, b2, i1, g1, g2, g3, Or.inl ⟨z1, z2.1.trans g4.symm, z2.2.1.trans g5.symm, by rw [g4]; exact z2.2.2⟩, m1, m2⟩
    · have hcl1 := z4.l
      rw [List.nil_append] at z6 z8 z9
      by_cases hkc : x.kd c1 = 1
      · obtain ⟨b2, g1, g2, g3, g4, g5, g6⟩ := bad b1 j i2 (by omega) (z5.nb hkc) i4
        obtain ⟨m1, m2⟩ := fin _ _ _ g1 i1
        exact ⟨r, a1, b2, i1, g1, g2, g3, Or.inr ⟨z1, c1, F, z2, z4, SB_fr g6 rfl rfl z5, z6, z7, by simpa using z8, by simpa using z9, fun z => absurd hkc z⟩, m1, m2⟩
      · obtain ⟨b2, cp2, w1, w2, w3, w4, w5, w6, w7⟩ := z10 hkc
        rw [if_pos rfl] at w3
        have hpn1 := hx.pn c1
        have z8 : k + F.length ≤ x.ps c1 := by simpa using z8
        have z9 : k' + F.length ≤ 2 * x.ps c1 := by simpa using z9
        have hts : cR_takeSign b1 = some (wI b2 1151 0 1) := by
          rw [w3]
          unfold cR_takeSign_130
          rw [if_pos rfl]
        have hre := RE_tr i2 (RE_sign (aw := aw) w2 (z5.g hkc) w1 hts)
        rw [List.nil_append] at w5
        have hq : gI (wI b2 1151 0 1) 1139 0 = nI (k' + F.length) := by rw [gI_wIn (by decide)]; exact w5.n
        have hfl : gI (wI b2 1151 0 1) 1147 0 = nI 0 := by rw [gI_wIn (by decide)]; exact w6.f
        have g1 : cR_takeExp (bI aw) b = some (nI k', cdW (wI (wI b2 1151 0 1) 1142 0 (nI 0)) (k' + F.length) 0 0) := by
          rw [e0, show tm_N = (999999998 - j + 1) + (j + 1) by unfold tm_N; omega, hre, cR_takeExp_33.eq_2]
          unfold cR_takeExp_33_b
          rw [gI_wIs, if_neg (by decide), takeExp_69 hq (by omega) hfl]
        obtain ⟨m1, m2⟩ := fin _ _ _ g1 i1
        refine ⟨r, a1, cdW (wI (wI b2 1151 0 1) 1142 0 (nI 0)) (k' + F.length) 0 0, i1, g1, ?_, ⟨k' + F.length + 1, by omega, ?_⟩, Or.inr ⟨z1, c1, F, z2, z4, ?_, z6, z7, z8, z9, fun _ => ⟨?_, ?_, ?_, ?_⟩⟩, m1, m2⟩
        · unfold cdW; simp (disch := first | assumption | omega) only [sx, if_pos, if_neg, bnd, Nat.reduceEqDiff, Nat.reduceAdd, Nat.reduceMul, Nat.reduceSub, and_true, true_and, and_false, false_and, or_true, true_or, or_false, false_or, if_true, if_false, eq_self, not_true, not_false_eq_true]
        · unfold cdW; simp (disch := first | assumption | omega) only [sx, if_pos, if_neg, bnd, Nat.reduceEqDiff, Nat.reduceAdd, Nat.reduceMul, Nat.reduceSub, and_true, true_and, and_false, false_and, or_true, true_or, or_false, false_or, if_true, if_false, eq_self, not_true, not_false_eq_true]
        · exact SB_fr (W := [1139, 1142, 1151, 2110, 2111]) (fr_wI (fr_wA (fr_wA (fr_wI (fr_wI fr_rf rfl) rfl) rfl) rfl) rfl) rfl rfl w4
        · unfold cdW; simp (disch := first | assumption | omega) only [sx, if_pos, if_neg, bnd, Nat.reduceEqDiff, Nat.reduceAdd, Nat.reduceMul, Nat.reduceSub, and_true, true_and, and_false, false_and, or_true, true_or, or_false, false_or, if_true, if_false, eq_self, not_true, not_false_eq_true]
        · unfold cdW; simp (disch := first | assumption | omega) only [sx, if_pos, if_neg, bnd, Nat.reduceEqDiff, Nat.reduceAdd, Nat.reduceMul, Nat.reduceSub, and_true, true_and, and_false, false_and, or_true, true_or, or_false, false_or, if_true, if_false, eq_self, not_true, not_false_eq_true]
        · intro i o hi
          have := getE_lt hi
          obtain ⟨q1, q2⟩ := w5.o i o hi
          unfold cdW
          simp (disch := first | assumption | omega) only [sx, if_pos, if_neg, bnd, Nat.reduceEqDiff, Nat.reduceAdd, Nat.reduceMul, Nat.reduceSub, and_true, true_and, and_false, false_and, or_true, true_or, or_false, false_or, if_true, if_false, eq_self, not_true, not_false_eq_true, q1, q2]
        · intro i hi
          obtain ⟨q1, q2⟩ := w5.p i hi
          unfold cdW
          simp (disch := first | assumption | omega) only [sx, if_pos, if_neg, bnd, Nat.reduceEqDiff, Nat.reduceAdd, Nat.reduceMul, Nat.reduceSub, and_true, true_and, and_false, false_and, or_true, true_or, or_false, false_or, if_true, if_false, eq_self, not_true, not_false_eq_true, q1, q2]
