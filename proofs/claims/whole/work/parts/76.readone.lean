/-! READING A ONE, side by side. -/
theorem sg_tab : ∀ k, k < 600 → vk k = true → k ≠ 1 → (rt k = 40 ↔ k = 40) ∧ (rt k = 41 ↔ k = 41) ∧ (rt k = 44 ↔ k = 44) := by decide +kernel
theorem sg_tab3 : ∀ k, k < 600 → vk k = true → k ≠ 1 → (rt k = 59 ↔ k = 59) ∧ (rt k = 61 ↔ k = 61) := by decide +kernel
theorem sg_tab4 : ∀ k, k < 600 → vk k = true → k ≠ 1 → (rt k = 123 ↔ k = 123) ∧ (rt k = 125 ↔ k = 125) := by decide +kernel
theorem sg_tab2 (k : Nat) (h : k < 600) (hv : vk k = true) (h1 : k ≠ 1) : (rt k = 59 ↔ k = 59) ∧ (rt k = 61 ↔ k = 61) ∧ (rt k = 123 ↔ k = 123) ∧ (rt k = 125 ↔ k = 125) := ⟨(sg_tab3 k h hv h1).1, (sg_tab3 k h hv h1).2, (sg_tab4 k h hv h1).1, (sg_tab4 k h hv h1).2⟩
theorem sg_eq {x : Cx} (hx : x.Ok) {b : ts} {c q : Nat} (hb : SB x b c) (hk : x.kd c ≠ 1) (hq : q = 40 ∨ q = 41 ∨ q = 44 ∨ q = 59 ∨ q = 61 ∨ q = 123 ∨ q = 125) : gI b 1106 0 = nI q ↔ x.kd c = q := by
  have x2 : gI b 1106 0 = nI (rt (x.kd c)) := (hb.nx.2 hk).2.1
  obtain ⟨s1, s2, s3⟩ := sg_tab _ (hx.lt c) (x.kv c) hk
  obtain ⟨s4, s5, s6, s7⟩ := sg_tab2 _ (hx.lt c) (x.kv c) hk
  have hr6 := (rt_tab _ (hx.lt c) (x.kv c) hk).2.2.2.2.2
  have key : rt (x.kd c) = q ↔ x.kd c = q := by rcases hq with rfl | rfl | rfl | rfl | rfl | rfl | rfl <;> assumption
  rw [x2, ← key]
  exact ⟨fun z => nI_inj (by omega) (by omega) z, fun z => by rw [z]⟩
/-- a token that must come -/
theorem nm_ok {x : Cx} (hx : x.Ok) {a b : ts} {c q : Nat} (ha : SA x a c) (hb : SB x b c) (hq : q = 40 ∨ q = 41 ∨ q = 44 ∨ q = 59 ∨ q = 61 ∨ q = 123 ∨ q = 125) : ∃ r a1 b1, cT_need (nI q) a = some (r, a1) ∧ cR_must (nI q) b = some b1 ∧ ((r = 1 ∧ x.kd c = q ∧ a1 = av x a (c + 1) ∧ SA x a1 (c + 1) ∧ SB x b1 (c + 1)) ∨ (r = 0 ∧ x.kd c ≠ q ∧ FL a1 b1)) ∧ fr [106, 107, 108, 109] a a1 ∧ fr wf_cR_must b b1 := by
  have hlt := hx.lt c
  by_cases h1 : x.kd c = 1
  · obtain ⟨a1, f1, f2, f3⟩ := fail_tok hx ha hb h1 2
    have hm : cR_must (nI q) b = some b := by
      unfold cR_must
      rw [good_f (hb.nb h1), Option.bind_some]
      dsimp only
      rw [if_pos rfl]
      unfold cR_must_25
      rw [next_bad (hb.nb h1)]; rfl
    refine ⟨0, a1, b, ?_, hm, Or.inr ⟨rfl, by omega, f2⟩, fr_mono (by decide +kernel) f3, fr_rf⟩
    unfold cT_need
    rw [ha.ki, if_neg (fun z => by have := nI_inj (by omega) (by omega) z; omega), f1]; rfl
  · have hg := hb.g h1
    by_cases e : x.kd c = q
    · obtain ⟨v1, v2⟩ := adv_ok hx ha (hx.lm ha.l (by omega))
      obtain ⟨b1, n1, n2, n3⟩ := nxt_ok hx hb (by omega)
      have hm : cR_must (nI q) b = some b1 := by
        unfold cR_must
        rw [good_t hg, Option.bind_some]
        dsimp only
        rw [if_neg (by decide), if_pos ((sg_eq hx hb h1 hq).mpr e)]
        unfold cR_must_21 cR_must_25
        rw [need_t, Option.bind_some, n1]; rfl
      refine ⟨1, _, b1, ?_, hm, Or.inl ⟨rfl, e, rfl, v2, n2⟩, fr_mono (by decide +kernel) fr_av, cR_must_fr _ _ _ hm⟩
      unfold cT_need
      rw [ha.ki, e, if_pos rfl, v1]; rfl
    · obtain ⟨a1, bf, f1, f2, f3, f4, f5⟩ := fail_both hx ha hb h1 2 (by decide)
      have hm : cR_must (nI q) b = some bf := by
        unfold cR_must
        rw [good_t hg, Option.bind_some]
        dsimp only
        rw [if_neg (by decide), if_neg (fun z => e ((sg_eq hx hb h1 hq).mp z))]
        unfold cR_must_21 cR_must_25
        rw [f2, Option.bind_some, next_bad f3.2.2]; rfl
      refine ⟨0, a1, bf, ?_, hm, Or.inr ⟨rfl, e, f3⟩, fr_mono (by decide +kernel) f4, cR_must_fr _ _ _ hm⟩
      unfold cT_need
      rw [ha.ki, if_neg (fun z => e (nI_inj (by omega) (by omega) z)), f1]; rfl
theorem open_ok {b : ts} {k o dp : Nat} {W : List Ent} {cp : Bool} {l : Int32} (h : EW b k W dp cp) (hl : W.length < 4100) (hd : dp < 1000) (ho : l = nI (ec (o, 0, 0, cp))) : ∃ b1, cR_open l b = some b1 ∧ EW b1 k (W ++ [(o, 0, 0, cp)]) (dp + 1) false ∧ fr wf_cR_open b b1 := by
  subst ho
  have w1 := wait1_run h hl (nI (ec (o, 0, 0, cp))) 0
  have fu : fr [1142, 2112, 2113, 2114, 2115] b (wtW b W.length (nI (ec (o, 0, 0, cp))) 0 (bI cp)) := fr_wtW
  have h114 : ∀ j, j < W.length → gA (wtW b W.length (nI (ec (o, 0, 0, cp))) 0 (bI cp)) 114 j = gA b 114 j := by
    intro j hj
    unfold wtW
    simp (disch := first | assumption | omega) only [sx, if_pos, if_neg, bnd, Nat.reduceEqDiff, Nat.reduceAdd, Nat.reduceMul, Nat.reduceSub, and_true, true_and, and_false, false_and, or_true, true_or, or_false, false_or, if_true, if_false, eq_self, not_true, not_false_eq_true]
  have hw := fun b2 hf dp2 cp2 hd hc h4 => wait1_ok h hl (o, 0, 0, cp) rfl b2 hf dp2 cp2 hd hc h4 (fun z => by exfalso; dsimp only at z; omega)
  have hw := hw (wI (wI (wtW b W.length (nI (ec (o, 0, 0, cp))) 0 (bI cp)) 1149 0 0) 1148 0 (nI (dp + 1))) (fr_wI (fr_wI fr_rf rfl) rfl) (dp + 1) false (by simp (disch := first | assumption | omega) only [sx, if_pos, if_neg, bnd, Nat.reduceEqDiff, Nat.reduceAdd, Nat.reduceMul, Nat.reduceSub, and_true, true_and, and_false, false_and, or_true, true_or, or_false, false_or, if_true, if_false, eq_self, not_true, not_false_eq_true]) (by simp (disch := first | assumption | omega) only [sx, if_pos, if_neg, bnd, Nat.reduceEqDiff, Nat.reduceAdd, Nat.reduceMul, Nat.reduceSub, and_true, true_and, and_false, false_and, or_true, true_or, or_false, false_or, if_true, if_false, eq_self, not_true, not_false_eq_true]; rfl) (by intro j hj; rw [gA_wI, gA_wI]; exact h114 j hj)
  have hrun : cR_open (nI (ec (o, 0, 0, cp))) b = some (wI (wI (wtW b W.length (nI (ec (o, 0, 0, cp))) 0 (bI cp)) 1149 0 0) 1148 0 (nI (dp + 1))) := by
    unfold cR_open
    rw [w1, Option.bind_some]
    rw [gI_wIn (by decide), fu.1 1148 rfl, h.d, show nI dp + (1 : Int32) = nI (dp + 1) from nI_add _ 1]
  exact ⟨_, hrun, hw, cR_open_fr _ _ _ hrun⟩
theorem unary_ok {x : Cx} (hx : x.Ok) {b : ts} {c k o dp : Nat} {W : List Ent} {cp : Bool} (hb : SB x b c) (hk : 2 ≤ x.kd c) (h : EW b k W dp cp) (hl : W.length < 4100) (hd : dp < 1000) (ho : o = 3 ∨ o = 33) : ∃ b1, cR_takeOne_242 (nI (rc (o, 0))) b = some b1 ∧ SB x b1 (c + 1) ∧ EW b1 k (W ++ [(o, 9, 0, cp)]) (dp + 1) cp ∧ gI b1 1150 0 = gI b 1150 0 ∧ fr wf_cR_takeOne b b1 ∧ fr [1103, 1104, 1105, 1106, 1107, 1109, 1142, 1148, 2112, 2113, 2114, 2115, 5108] b b1 := by
  have hec : ec (o, 9, 0, cp) = rc (o, 0) := rfl
  have w1 := wait1_run h hl (nI (rc (o, 0))) 9
  have fu : fr [1142, 2112, 2113, 2114, 2115] b (wtW b W.length (nI (rc (o, 0))) 9 (bI cp)) := fr_wtW
  have h114 : ∀ j, j < W.length → gA (wtW b W.length (nI (rc (o, 0))) 9 (bI cp)) 114 j = gA b 114 j := by
    intro j hj
    unfold wtW
    simp (disch := first | assumption | omega) only [sx, if_pos, if_neg, bnd, Nat.reduceEqDiff, Nat.reduceAdd, Nat.reduceMul, Nat.reduceSub, and_true, true_and, and_false, false_and, or_true, true_or, or_false, false_or, if_true, if_false, eq_self, not_true, not_false_eq_true]
  have f2 : fr [1142, 1148, 2112, 2113, 2114, 2115] b (wI (wtW b W.length (nI (rc (o, 0))) 9 (bI cp)) 1148 0 (nI (dp + 1))) := fr_wI (fr_mono (by decide +kernel) fu) rfl
  have hw := wait1_ok h hl (o, 9, 0, cp) rfl (wI (wtW b W.length (nI (rc (o, 0))) 9 (bI cp)) 1148 0 (nI (dp + 1))) (fr_wI fr_rf rfl) (dp + 1) cp (by simp (disch := first | assumption | omega) only [sx, if_pos, if_neg, bnd, Nat.reduceEqDiff, Nat.reduceAdd, Nat.reduceMul, Nat.reduceSub, and_true, true_and, and_false, false_and, or_true, true_or, or_false, false_or, if_true, if_false, eq_self, not_true, not_false_eq_true]) (by rw [f2.1 1149 rfl]; exact h.c) (by intro j hj; rw [gA_wI]; exact h114 j hj) (fun z => by exfalso; dsimp only at z; omega)
  obtain ⟨b1, n1, n2, n3⟩ := nxt_ok hx (SB_fr f2 rfl rfl hb) hk
  refine ⟨b1, ?_, n2, EW_fr n3 rfl hw, ?_, fr_tr (fr_mono (by decide +kernel) f2) (fr_mono (by decide +kernel) n3), fr_tr (fr_mono (by decide +kernel) f2) (fr_mono (by decide +kernel) n3)⟩
  · unfold cR_takeOne_242
    rw [w1, Option.bind_some, fu.1 1148 rfl, h.d, show nI dp + (1 : Int32) = nI (dp + 1) from nI_add _ 1, n1]; rfl
  · rw [n3.1 1150 rfl, f2.1 1150 rfl]
/-- a program's reader at what is no token -/
def BD (x : Cx) (f : Int32 → ts → Option (Int32 × ts)) (d : Nat) : Prop := ∀ (a : ts) (c : Nat), SA x a c → x.kd c = 1 → ∃ a1, f (nI d) a = some (0, a1) ∧ ∀ b, SB x b c → FL a1 b
def PI1 (x : Cx) (L : Nat → List Int64) (T : List (Nat × Nat)) (aw : Bool) (f : Int32 → ts → Option (Int32 × ts)) (d : Nat) : Prop :=
  ∀ (a b : ts) (c k k' : Nat) (P Q P' Q' : Nat → Int32) (E : List Op1) (W U : List Ent) (o : Nat) (cp : Bool), PreE x L T aw a b c k k' P Q P' Q' E (W ++ U ++ [(o, 0, 0, cp)]) d false → (o = 40 ∨ o = 533) → (∀ t, t ∈ U → VT t ∧ t.2.1 = 9) → (∀ t, W.getLast? = some t → t.2.1 < 9) → U.length + 1 ≤ d → ∃ r a1, f (nI d) a = some (r, a1) ∧ ∃ j b1, RE aw j b b1 ∧ fr wf_cR_takeExp b b1 ∧ CB b1 ∧
   ((r = 0 ∧ FL a1 b1 ∧ j + c ≤ x.m + 1) ∨
    (r = 1 ∧ ∃ c1 F, c < c1 ∧ j + c ≤ c1 ∧ SA x a1 c1 ∧ SB x b1 c1 ∧ EA a1 k P Q (E ++ F) ∧ Wt (103 - 3 * d) F ∧ k + (E ++ F).length + (W ++ U).length + 1 ≤ x.ps c1 ∧ k' + (E ++ F).length + (W ++ U).length + 1 ≤ 2 * x.ps c1 ∧ (x.kd c1 ≠ 1 → EC b1 k' P' Q' (flush (E ++ F ++ (if o = 533 then [(533, 0)] else [])) U) ∧ EW b1 k' W (d - 1 - U.length) cp ∧ gI b1 1150 0 = 0)))
theorem RX_fr {x : Cx} {L : Nat → List Int64} {T : List (Nat × Nat)} {aw : Bool} {a b a1 b1 : ts} {c c1 : Nat} {V W : List Nat} (h : RX x L T aw a b c) (fa : fr V a a1) (fb : fr W b b1) (hV : dj [302, 203, 2014, 2015, 2016, 3013] V = true) (hW : dj [1110, 1113, 1117, 1119, 1123, 3089, 3091, 3094, 3095, 3098] W = true) (ha : SA x a1 c1) (hb : SB x b1 c1) : RX x L T aw a1 b1 c1 :=
  ⟨ha, hb, NA_fr fa (by unfold dj at hV ⊢; simp at hV ⊢; exact hV.2) h.na, NB_fr fb hW h.nb, (fa.1 302 (dj_m hV rfl) 0).trans h.iw⟩
theorem readOne_bd {x : Cx} (hx : x.Ok) {rc : Nat → Int32 → ts → Option (Int32 × ts)} {dp : Nat} : BD x (cF_readOne rc) dp := by
  intro a c ha h1
  have e0 : cF_faultOfOne a = some (2, a) := by
    unfold cF_faultOfOne
    rw [ha.ki, h1]
    rfl
  refine ⟨wI (wI a 108 0 1) 109 0 (nI (x.pl c)), ?_, fun b hb => ?_⟩
  · unfold cF_readOne
    rw [e0, Option.bind_some]
    dsimp only
    rw [if_neg (by decide)]
    unfold cF_readOne_17
    rw [if_neg (by decide), failX_ok hx ha, if_pos h1]; rfl
  · obtain ⟨x1, x2⟩ := hb.nx.1 h1
    refine ⟨?_, ?_, ?_⟩
    · simp (disch := first | assumption | omega) only [sx, if_pos, if_neg, bnd, Nat.reduceEqDiff, Nat.reduceAdd, Nat.reduceMul, Nat.reduceSub, and_true, true_and, and_false, false_and, or_true, true_or, or_false, false_or, if_true, if_false, eq_self, not_true, not_false_eq_true, x1]
    · simp (disch := first | assumption | omega) only [sx, if_pos, if_neg, bnd, Nat.reduceEqDiff, Nat.reduceAdd, Nat.reduceMul, Nat.reduceSub, and_true, true_and, and_false, false_and, or_true, true_or, or_false, false_or, if_true, if_false, eq_self, not_true, not_false_eq_true, x2]; rfl
    · rw [x1]; decide

theorem addRead_ok {a : ts} {k o : Nat} {P Q : Nat → Int32} {E : List Op1} (h : EA a k P Q E) (hk : k + E.length < 4000) (ho : isSk o = false) : ∃ a1, cF_addRead (nI o) a = some (1, a1) ∧ EA a1 k P Q (E ++ [(o, 0)]) ∧ fr [217, 2026, 2027] a a1 := by
  obtain ⟨g1, g2⟩ := addOp_ok (o := o) (v := 0) h hk (fun _ => rfl)
  refine ⟨_, ?_, g2, fr_opW⟩
  unfold cF_addRead
  rw [g1]; rfl
theorem readLook_ok {x : Cx} (hx : x.Ok) {L : Nat → List Int64} {T : List (Nat × Nat)} {aw : Bool} {a b b0 : ts} {c k k' q dp : Nat} {P Q P' Q' : Nat → Int32} {E : List Op1} {W U : List Ent} {cp : Bool} (hd : ND L) (h : RX x L T aw a b0 c) (hbn : cR_next b = some b0) (hq : q = 534 ∨ q = 535) (hE : EA a k P Q E) (hl : k + E.length < 4000) (hC : EC b0 k' P' Q' E) (hW : EW b0 k' (W ++ U) dp cp) (hU : ∀ t, t ∈ U → VT t ∧ t.2.1 = 9) (hWl : ∀ t, W.getLast? = some t → t.2.1 < 9) (hdp : U.length ≤ dp) (hc : k' + E.length + (W ++ U).length ≤ 2 * x.ps c) (hw : (W ++ U).length ≤ 4000) : ∃ r a1 b1, cF_readLook (nI q) a = some (r, a1) ∧ (cR_takePlain_67 (nI (q - 512)) b).bind (fun s8 => (cR_next s8).bind (fun s11 => (cR_good s11).bind (fun x15 => (if x15.1 = ((0 : Int32)) then some x15.2 else (cR_endOne x15.2).bind (fun s17 => some s17))))) = some b1 ∧ fr wf_cR_takeOne b0 b1 ∧ CB b1 ∧ ((r = 0 ∧ FL a1 b1) ∨ (r = 1 ∧ ∃ o, LF o ∧ c < x.m ∧ SA x a1 (c + 1) ∧ SB x b1 (c + 1) ∧ EA a1 k P Q (E ++ [o]) ∧ (x.kd (c + 1) ≠ 1 → EC b1 k' P' Q' (flush (E ++ [o]) U) ∧ EW b1 k' W (dp - U.length) cp ∧ gI b1 1150 0 = 0))) := by
  have hlt := hx.lt c
  have hpn := hx.pn c
  have hn := hx.n
  have hm4 := h.na.m 0 (by omega)
  have hm5 := h.na.m 1 (by omega)
  have hm4 : (L 0).length ≤ 8 := hm4
  have hm5 : (L 1).length ≤ 6 := hm5
  have hany : cT_isAnyWord a = some (if x.kd c = 2 ∨ 512 ≤ x.kd c then 1 else 0, a) := by
    unfold cT_isAnyWord
    rw [h.sa.ki]
    by_cases h2 : x.kd c = 2
    · rw [h2, if_pos (by decide), if_pos (Or.inl rfl)]
    · rw [if_neg (show ¬ nI (x.kd c) = (2 : Int32) from fun z => h2 (nI_inj (a := x.kd c) (b := 2) (by omega) (by decide) z))]
      by_cases h5 : 512 ≤ x.kd c
      · rw [if_neg (show ¬ nI (x.kd c) < (512 : Int32) from nI_nlt (b := 512) h5 (by omega)), if_pos (Or.inr h5)]
      · rw [if_pos (show nI (x.kd c) < (512 : Int32) from nI_lt (b := 512) (by omega) (by decide)), if_neg (by omega)]
  -- behind a fault the reference still adds a code, which nobody looks at
  have bad : ∀ bf : ts, ¬ gI bf 1103 0 = 0 → fr [1103, 1104] b0 bf → ∃ b1, (cR_takePlain_96 (nI (q - 512)) bf).bind (fun s8 => (cR_next s8).bind (fun s11 => (cR_good s11).bind (fun x15 => (if x15.1 = ((0 : Int32)) then some x15.2 else (cR_endOne x15.2).bind (fun s17 => some s17))))) = some b1 ∧ fr wf_cR_takeOne b0 b1 ∧ CB b1 ∧ gI b1 1103 0 = gI bf 1103 0 ∧ gI b1 1104 0 = gI bf 1104 0 := by
    intro bf hbf hf
    have hCf := EC_fr hf rfl hC
    have hWf := EW_fr hf rfl hW
    have nbf := NB_fr hf rfl h.nb
    have add : ∀ (c v : Int32), ∃ b1, (cR_add c v bf).bind (fun x3 => some x3.2) = some b1 ∧ fr [1139, 2110, 2111] bf b1 ∧ CB b1 := by
      intro c v
      have hn2 := hCf.n
      refine ⟨cdW bf (k' + E.length) c v, ?_, fr_cdW, ?_⟩
      · unfold cR_add cdW
        simp (disch := first | assumption | omega) only [sx, if_pos, if_neg, bnd, Nat.reduceEqDiff, Nat.reduceAdd, Nat.reduceMul, Nat.reduceSub, and_true, true_and, and_false, false_and, or_true, true_or, or_false, false_or, if_true, if_false, eq_self, not_true, not_false_eq_true, hn2]
      · refine ⟨k' + E.length + 1, by omega, ?_, ?_⟩
        · unfold cdW; simp (disch := first | assumption | omega) only [sx, if_pos, if_neg, bnd, Nat.reduceEqDiff, Nat.reduceAdd, Nat.reduceMul, Nat.reduceSub, and_true, true_and, and_false, false_and, or_true, true_or, or_false, false_or, if_true, if_false, eq_self, not_true, not_false_eq_true]
        · unfold cdW; simp (disch := first | assumption | omega) only [sx, if_pos, if_neg, bnd, Nat.reduceEqDiff, Nat.reduceAdd, Nat.reduceMul, Nat.reduceSub, and_true, true_and, and_false, false_and, or_true, true_or, or_false, false_or, if_true, if_false, eq_self, not_true, not_false_eq_true, hWf.f]
    have e96 : ∃ b1, cR_takePlain_96 (nI (q - 512)) bf = some b1 ∧ fr [1139, 2110, 2111] bf b1 ∧ CB b1 := by
      unfold cR_takePlain_96
      rw [findResource_ok hm4 nbf.r, Option.bind_some]
      dsimp only
      rw [findStore_ok hm5 nbf.s, Option.bind_some]
      dsimp only
      rw [good_f hbf, Option.bind_some]
      dsimp only
      rw [if_pos rfl]
      unfold cR_takePlain_143 cR_takePlain_157 cR_takePlain_171
      split
      · split
        · exact add _ _
        · exact add _ _
      · split
        · exact add _ _
        · exact add _ _
    obtain ⟨b1, g1, g2, g3⟩ := e96
    have hb1 : ¬ gI b1 1103 0 = 0 := by rw [g2.1 1103 rfl]; exact hbf
    refine ⟨b1, ?_, fr_tr (fr_mono (by decide +kernel) hf) (fr_mono (by decide +kernel) g2), g3, g2.1 1103 rfl 0, g2.1 1104 rfl 0⟩
    rw [g1, Option.bind_some, next_bad hb1, Option.bind_some, good_f hb1, Option.bind_some]
    rfl
  by_cases h1 : x.kd c = 1
  · -- no token
    obtain ⟨a1, f1, f2, f3⟩ := fail_tok hx h.sa h.sb h1 2
    obtain ⟨b1, g1, g2, g3, g4, g5⟩ := bad b0 (h.sb.nb h1) fr_rf
    refine ⟨0, a1, b1, ?_, ?_, g2, g3, Or.inl ⟨rfl, ?_⟩⟩
    · unfold cF_readLook
      rw [hany, if_neg (by omega), Option.bind_some]
      dsimp only
      rw [if_pos rfl, f1]; rfl
    · unfold cR_takePlain_67
      rw [hbn, Option.bind_some, good_f (h.sb.nb h1), Option.bind_some]
      dsimp only
      rw [if_pos rfl]
      exact g1
    · exact ⟨f2.1.trans g4.symm, f2.2.1.trans g5.symm, by rw [g4]; exact f2.2.2⟩
  · have hg := h.sb.g h1
    have x2 : gI b0 1106 0 = nI (rt (x.kd c)) := (h.sb.nx.2 h1).2.1
    obtain ⟨r1, r2, r3, r4, r5, r6⟩ := rt_tab _ hlt (x.kv c) h1
    have e1 : gI b0 1106 0 = 1 ↔ x.kd c = 2 ∨ 512 ≤ x.kd c := by
      rw [x2, ← r1]
      exact ⟨fun z => nI_inj (a := rt (x.kd c)) (b := 1) (by omega) (by decide) z, fun z => by rw [z]; rfl⟩
    by_cases hw2 : x.kd c = 2 ∨ 512 ≤ x.kd c
    · -- a word
      have hwd : gJ b0 1108 0 = x.vl c := (h.sb.nx.2 h1).2.2.2.2.1 hw2
      have hpl := place_ok h.na hd true true (x.vl c)
      have e96 : cR_takePlain_67 (nI (q - 512)) b = cR_takePlain_96 (nI (q - 512)) b0 := by
        unfold cR_takePlain_67
        rw [hbn, Option.bind_some, good_t hg, Option.bind_some]
        dsimp only
        rw [if_neg (by decide), if_pos (e1.mpr hw2)]
        unfold cR_takePlain_92
        rw [need_t, Option.bind_some]
      rw [e96]
      have hfp : fp L true true (x.vl c) = match ix (L 0) (x.vl c) with | some r => some r | none => (ix (L 1) (x.vl c)).map (8 + ·) := by
        unfold fp
        rw [if_pos rfl, if_pos rfl]
        cases ix (L 0) (x.vl c) <;> rfl
      have cls : cF_readLook (nI q) a = (if oi (-2) (fp L true true (x.vl c)) = -2 then (cT_fail 4 a).bind (fun x18 => some (x18.1, x18.2)) else (cG_addOp (nI q) (oi (-2) (fp L true true (x.vl c))) a).bind (fun x12 => (cT_advance x12.2).bind (fun s14 => some ((1 : Int32), s14)))) := by
        unfold cF_readLook
        rw [hany, if_pos hw2, Option.bind_some]
        dsimp only
        rw [if_neg (by decide), word_ok hx h.sa, Option.bind_some]
        dsimp only
        rw [show (1 : Int32) = bI true from rfl, hpl, Option.bind_some]
      cases hp : fp L true true (x.vl c) with
      | none =>
        have hno : ix (L 0) (x.vl c) = none ∧ ix (L 1) (x.vl c) = none := by
          rw [hfp] at hp
          cases h0 : ix (L 0) (x.vl c) with
          | some r => rw [h0] at hp; cases hp
          | none =>
            rw [h0] at hp
            cases h11 : ix (L 1) (x.vl c) with
            | some r => rw [h11] at hp; cases hp
            | none => exact ⟨rfl, rfl⟩
        obtain ⟨a1, bf, f1, f2, f3, f4, f5⟩ := fail_both hx h.sa h.sb h1 4 (by decide)
        obtain ⟨b1, g1, g2, g3, g4, g5⟩ := bad bf f3.2.2 f5
        refine ⟨0, a1, b1, ?_, ?_, g2, g3, Or.inl ⟨rfl, f3.1.trans g4.symm, f3.2.1.trans g5.symm, by rw [g4]; exact f3.2.2⟩⟩
        · rw [cls, hp]
          show (if (-2 : Int32) = -2 then _ else _) = _
          rw [if_pos rfl, f1]; rfl
        · have nbf := NB_fr f5 rfl h.nb
          have hwf : gJ bf 1108 0 = x.vl c := by rw [f5.2.2.2.1 1108 rfl]; exact hwd
          rw [← g1]
          congr 1
          unfold cR_takePlain_96
          rw [hwd, findResource_ok hm4 h.nb.r, Option.bind_some, hno.1]
          dsimp only
          rw [hwd, findStore_ok hm5 h.nb.s, Option.bind_some, hno.2]
          dsimp only
          rw [good_t hg, Option.bind_some]
          dsimp only
          rw [if_neg (by decide), if_pos (show oi (-1) none = -1 from rfl), if_pos (show oi (-1) none = -1 from rfl)]
          unfold cR_takePlain_139
          rw [f2, Option.bind_some, hwf, findResource_ok hm4 nbf.r, Option.bind_some, hno.1]
          dsimp only
          rw [hwf, findStore_ok hm5 nbf.s, Option.bind_some, hno.2]
          dsimp only
          rw [good_f f3.2.2, Option.bind_some]
          dsimp only
          rw [if_pos rfl]
      | some p =>
        have hp14 : p < 14 := by
          rw [hfp] at hp
          cases h0 : ix (L 0) (x.vl c) with
          | some r => rw [h0] at hp; have := (ix_some h0).2; have e : r = p := Option.some.inj hp; omega
          | none =>
            rw [h0] at hp
            cases h11 : ix (L 1) (x.vl c) with
            | none => rw [h11] at hp; cases hp
            | some r => rw [h11] at hp; have := (ix_some h11).2; have e : 8 + r = p := Option.some.inj hp; omega
        have hq2 : isSk q = false := by rcases hq with rfl | rfl <;> rfl
        have hkq : 2 ≤ x.kd c := by omega
        obtain ⟨a1, a2⟩ := addOp_ok (o := q) (v := nI p) hE hl (fun z => by rw [hq2] at z; cases z)
        have hcm := hx.lm h.sa.l hkq
        obtain ⟨v1, v2⟩ := adv_ok hx (SA_fr fr_opW rfl h.sa) hcm
        have hrcq : nI (rc (q, nI p)) = if nI (q - 512) = 22 then 7 else 8 := by rcases hq with rfl | rfl <;> rfl
        obtain ⟨c1, c2⟩ := add_ok (c := if nI (q - 512) = 22 then 7 else 8) (v := nI p) (o := (q, nI p)) hC (by omega) hrcq.symm (by
          unfold rA
          rw [if_neg (fun z => by rw [hq2] at z; cases z.1), if_neg (fun z => by have := z.1; dsimp only at this; omega)])
        obtain ⟨b2, q1, q2, q3, q4, q5⟩ := plain_end hx (SB_fr fr_cdW rfl rfl h.sb) hkq c2 (EW_fr fr_cdW rfl hW) hU hWl hdp (by simp at hc ⊢; omega) (by omega)
        refine ⟨1, _, b2, ?_, ?_, fr_tr (fr_mono (by decide +kernel) fr_cdW) q5, q3, Or.inr ⟨rfl, (q, nI p), Or.inr (Or.inr (Or.inr (Or.inr ⟨hq, p, hp14, rfl⟩))), hcm, v2, q2, EA_fr fr_av rfl a2, q4⟩⟩
        · rw [cls, hp]
          show (if nI p = -2 then _ else (cG_addOp (nI q) (nI p) a).bind _) = _
          rw [if_neg (show ¬ nI p = (-2 : Int32) from fun z => (n2_n (a := p) (by omega)).mp z), a1, Option.bind_some, v1]
          rfl
        · rw [← q1]
          have e2 : cR_takePlain_96 (nI (q - 512)) b0 = some (cdW b0 (k' + E.length) (if nI (q - 512) = 22 then 7 else 8) (nI p)) := by
            have rest : ∀ (l3 l4 : Int32), (if l3 = -1 then (8 : Int32) + l4 else l3) = nI p → cR_takePlain_143 (nI (q - 512)) l3 l4 b0 = some (cdW b0 (k' + E.length) (if nI (q - 512) = 22 then 7 else 8) (nI p)) := by
              intro l3 l4 hl
              unfold cR_takePlain_143 cR_takePlain_157 cR_takePlain_171
              by_cases e : nI (q - 512) = 22
              · rw [if_pos e]
                rw [if_pos e] at c1
                by_cases e3 : l3 = -1
                · rw [if_pos e3] at hl ⊢
                  rw [hl, c1, if_pos e]; rfl
                · rw [if_neg e3] at hl ⊢
                  rw [hl, c1, if_pos e]; rfl
              · rw [if_neg e]
                rw [if_neg e] at c1
                by_cases e3 : l3 = -1
                · rw [if_pos e3] at hl ⊢
                  rw [hl, c1, if_neg e]; rfl
                · rw [if_neg e3] at hl ⊢
                  rw [hl, c1, if_neg e]; rfl
            unfold cR_takePlain_96
            rw [hwd, findResource_ok hm4 h.nb.r, Option.bind_some]
            dsimp only
            rw [hwd, findStore_ok hm5 h.nb.s, Option.bind_some]
            dsimp only
            rw [good_t hg, Option.bind_some]
            dsimp only
            rw [if_neg (by decide)]
            rw [hfp] at hp
            cases h0 : ix (L 0) (x.vl c) with
            | some r =>
              rw [h0] at hp
              have e : r = p := Option.some.inj hp
              subst e
              have hne : ¬ oi (-1) (some r) = -1 := fun z => (n1_n (a := r) (by omega)).mp z
              rw [if_neg hne]
              unfold cR_takePlain_139
              rw [need_t, Option.bind_some]
              exact rest _ _ (by rw [if_neg hne]; rfl)
            | none =>
              rw [h0] at hp
              rw [if_pos (show oi (-1) none = -1 from rfl)]
              cases h11 : ix (L 1) (x.vl c) with
              | none => rw [h11] at hp; cases hp
              | some r =>
                rw [h11] at hp
                have e : 8 + r = p := Option.some.inj hp
                rw [if_neg (show ¬ oi (-1) (some r) = -1 from fun z => (n1_n (a := r) (by omega)).mp z)]
                unfold cR_takePlain_139
                rw [need_t, Option.bind_some]
                exact rest _ _ (by rw [if_pos (show oi (-1) none = -1 from rfl)]; show nI 8 + nI r = _; rw [nI_add, e])
          rw [e2, Option.bind_some]
    · -- another token
      obtain ⟨a1, bf, f1, f2, f3, f4, f5⟩ := fail_both hx h.sa h.sb h1 2 (by decide)
      obtain ⟨b1, g1, g2, g3, g4, g5⟩ := bad bf f3.2.2 f5
      refine ⟨0, a1, b1, ?_, ?_, g2, g3, Or.inl ⟨rfl, f3.1.trans g4.symm, f3.2.1.trans g5.symm, by rw [g4]; exact f3.2.2⟩⟩
      · unfold cF_readLook
        rw [hany, if_neg hw2, Option.bind_some]
        dsimp only
        rw [if_pos rfl, f1]; rfl
      · rw [← g1]
        congr 1
        unfold cR_takePlain_67
        rw [hbn, Option.bind_some, good_t hg, Option.bind_some]
        dsimp only
        rw [if_neg (by decide), if_neg (fun z => hw2 (e1.mp z))]
        unfold cR_takePlain_92
        rw [f2, Option.bind_some]
