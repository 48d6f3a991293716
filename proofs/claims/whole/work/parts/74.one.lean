/-! ONES: the reference at the first token of a one, and both at its faults. -/
def NB (b : ts) (L : Nat → List Int64) : Prop := (nb b 1110 89 (L 0)) ∧ (nb b 1113 91 (L 1)) ∧ (nb b 1117 94 (L 2)) ∧ (nb b 1119 95 (L 3)) ∧ (nb b 1123 98 (L 4))
theorem NB.r {b : ts} {L : Nat → List Int64} (h : NB b L) : nb b 1110 89 (L 0) := h.1
theorem NB.s {b : ts} {L : Nat → List Int64} (h : NB b L) : nb b 1113 91 (L 1) := h.2.1
theorem NB.n {b : ts} {L : Nat → List Int64} (h : NB b L) : nb b 1117 94 (L 2) := h.2.2.1
theorem NB.d {b : ts} {L : Nat → List Int64} (h : NB b L) : nb b 1119 95 (L 3) := h.2.2.2.1
theorem NB.v {b : ts} {L : Nat → List Int64} (h : NB b L) : nb b 1123 98 (L 4) := h.2.2.2.2
theorem nb_fr {W : List Nat} {b b1 : ts} {f r : Nat} {l : List Int64} (hf : fr W b b1) (h1 : W.contains f = false) (h2 : W.contains (3000 + r) = false) (h : nb b f r l) : nb b1 f r l :=
  ⟨(hf.1 f h1 0).trans h.1, fun k hk => by rw [hf.2.2.1 r h2 k]; exact h.2 k hk⟩
theorem NB_fr {W : List Nat} {b b1 : ts} {L : Nat → List Int64} (hf : fr W b b1) (hd : dj [1110, 1113, 1117, 1119, 1123, 3089, 3091, 3094, 3095, 3098] W = true) (h : NB b L) : NB b1 L :=
  ⟨nb_fr hf (dj_m hd rfl) (dj_m hd rfl) h.r, nb_fr hf (dj_m hd rfl) (dj_m hd rfl) h.s, nb_fr hf (dj_m hd rfl) (dj_m hd rfl) h.n, nb_fr hf (dj_m hd rfl) (dj_m hd rfl) h.d, nb_fr hf (dj_m hd rfl) (dj_m hd rfl) h.v⟩
theorem NA_fr {W : List Nat} {a a1 : ts} {L : Nat → List Int64} {T : List (Nat × Nat)} (hf : fr W a a1) (hd : dj [203, 2014, 2015, 2016, 3013] W = true) (h : NA a L T) : NA a1 L T := by
  refine ⟨(hf.1 203 (dj_m hd rfl) 0).trans h.n, fun q hq => (hf.2.1 16 (dj_m hd rfl) q).trans (h.c q hq), h.m, fun i x hi => ?_, h.k, h.v, h.e⟩
  obtain ⟨t1, t2, t3, t4⟩ := h.t i x hi
  exact ⟨(hf.2.1 14 (dj_m hd rfl) i).trans t1, (hf.2.1 15 (dj_m hd rfl) i).trans t2, t3, by rw [hf.2.2.1 13 (dj_m hd rfl) i]; exact t4⟩
/-- both stand at token c, with the same names told -/
def RX (x : Cx) (L : Nat → List Int64) (T : List (Nat × Nat)) (aw : Bool) (a b : ts) (c : Nat) : Prop := (SA x a c) ∧ (SB x b c) ∧ (NA a L T) ∧ (NB b L) ∧ (gI a 302 0 = bI aw)
theorem RX.sa {x : Cx} {L : Nat → List Int64} {T : List (Nat × Nat)} {aw : Bool} {a b : ts} {c : Nat} (h : RX x L T aw a b c) : SA x a c := h.1
theorem RX.sb {x : Cx} {L : Nat → List Int64} {T : List (Nat × Nat)} {aw : Bool} {a b : ts} {c : Nat} (h : RX x L T aw a b c) : SB x b c := h.2.1
theorem RX.na {x : Cx} {L : Nat → List Int64} {T : List (Nat × Nat)} {aw : Bool} {a b : ts} {c : Nat} (h : RX x L T aw a b c) : NA a L T := h.2.2.1
theorem RX.nb {x : Cx} {L : Nat → List Int64} {T : List (Nat × Nat)} {aw : Bool} {a b : ts} {c : Nat} (h : RX x L T aw a b c) : NB b L := h.2.2.2.1
theorem RX.iw {x : Cx} {L : Nat → List Int64} {T : List (Nat × Nat)} {aw : Bool} {a b : ts} {c : Nat} (h : RX x L T aw a b c) : gI a 302 0 = bI aw := h.2.2.2.2
/-- the fault of a token as the first one of a one -/
def fo (L : Nat → List Int64) (aw : Bool) (k : Nat) (w : Int64) : Nat := if k = 2 then (match fv L w with | none => 4 | some _ => 0) else if k = 3 ∨ k = 33 ∨ k = 40 ∨ k = 45 ∨ k = 531 ∨ k = 532 ∨ k = 534 ∨ k = 535 then 0 else if k = 533 then (if aw = true then 4 else 0) else 2
theorem word_ok {x : Cx} (hx : x.Ok) {a : ts} {c : Nat} (h : SA x a c) : cT_word a = some (x.vl c, a) := by
  have hm := hx.m
  have hn := hx.n
  have hl := h.l
  have h11 : gB a 11 c = x.vl c := (h.t.2.2.1 c (by omega)).2.2
  unfold cT_word
  simp (disch := first | assumption | omega) only [sx, if_pos, if_neg, bnd, Nat.reduceEqDiff, Nat.reduceAdd, Nat.reduceMul, Nat.reduceSub, and_true, true_and, and_false, false_and, or_true, true_or, or_false, false_or, if_true, if_false, eq_self, not_true, not_false_eq_true, h.cu, h11]
theorem faultOfOne_ok {x : Cx} (hx : x.Ok) {L : Nat → List Int64} {T : List (Nat × Nat)} {aw : Bool} {a b : ts} {c : Nat} (hd : ND L) (h : RX x L T aw a b c) : cF_faultOfOne a = some (nI (fo L aw (x.kd c) (x.vl c)), a) := by
  have hlt := hx.lt c
  unfold cF_faultOfOne fo
  rw [h.sa.ki, word_ok hx h.sa, h.iw]
  by_cases h2 : x.kd c = 2
  · simp (disch := first | assumption | omega) only [sx, if_pos, if_neg, bnd, Nat.reduceEqDiff, Nat.reduceAdd, Nat.reduceMul, Nat.reduceSub, and_true, true_and, and_false, false_and, or_true, true_or, or_false, false_or, if_true, if_false, eq_self, not_true, not_false_eq_true, h2, value_ok h.na hd]
    cases hv : fv L (x.vl c) with
    | none => simp only [oi, if_true]
    | some k => have := fv_lt h.na hv; simp only [oi]; simp (disch := first | assumption | omega) only [sx, if_pos, if_neg, bnd, Nat.reduceEqDiff, Nat.reduceAdd, Nat.reduceMul, Nat.reduceSub, and_true, true_and, and_false, false_and, or_true, true_or, or_false, false_or, if_true, if_false, eq_self, not_true, not_false_eq_true]
  by_cases h3 : x.kd c = 3
  · simp (disch := first | assumption | omega) only [sx, if_pos, if_neg, bnd, Nat.reduceEqDiff, Nat.reduceAdd, Nat.reduceMul, Nat.reduceSub, and_true, true_and, and_false, false_and, or_true, true_or, or_false, false_or, if_true, if_false, eq_self, not_true, not_false_eq_true, h3]
  by_cases h33 : x.kd c = 33
  · simp (disch := first | assumption | omega) only [sx, if_pos, if_neg, bnd, Nat.reduceEqDiff, Nat.reduceAdd, Nat.reduceMul, Nat.reduceSub, and_true, true_and, and_false, false_and, or_true, true_or, or_false, false_or, if_true, if_false, eq_self, not_true, not_false_eq_true, h33]
  by_cases h40 : x.kd c = 40
  · simp (disch := first | assumption | omega) only [sx, if_pos, if_neg, bnd, Nat.reduceEqDiff, Nat.reduceAdd, Nat.reduceMul, Nat.reduceSub, and_true, true_and, and_false, false_and, or_true, true_or, or_false, false_or, if_true, if_false, eq_self, not_true, not_false_eq_true, h40]
  by_cases h45 : x.kd c = 45
  · simp (disch := first | assumption | omega) only [sx, if_pos, if_neg, bnd, Nat.reduceEqDiff, Nat.reduceAdd, Nat.reduceMul, Nat.reduceSub, and_true, true_and, and_false, false_and, or_true, true_or, or_false, false_or, if_true, if_false, eq_self, not_true, not_false_eq_true, h45]
  by_cases h531 : x.kd c = 531
  · simp (disch := first | assumption | omega) only [sx, if_pos, if_neg, bnd, Nat.reduceEqDiff, Nat.reduceAdd, Nat.reduceMul, Nat.reduceSub, and_true, true_and, and_false, false_and, or_true, true_or, or_false, false_or, if_true, if_false, eq_self, not_true, not_false_eq_true, h531]
  by_cases h532 : x.kd c = 532
  · simp (disch := first | assumption | omega) only [sx, if_pos, if_neg, bnd, Nat.reduceEqDiff, Nat.reduceAdd, Nat.reduceMul, Nat.reduceSub, and_true, true_and, and_false, false_and, or_true, true_or, or_false, false_or, if_true, if_false, eq_self, not_true, not_false_eq_true, h532]
  by_cases h533 : x.kd c = 533
  · simp (disch := first | assumption | omega) only [sx, if_pos, if_neg, bnd, Nat.reduceEqDiff, Nat.reduceAdd, Nat.reduceMul, Nat.reduceSub, and_true, true_and, and_false, false_and, or_true, true_or, or_false, false_or, if_true, if_false, eq_self, not_true, not_false_eq_true, h533, bI_0]
    cases aw <;> simp
  by_cases h534 : x.kd c = 534
  · simp (disch := first | assumption | omega) only [sx, if_pos, if_neg, bnd, Nat.reduceEqDiff, Nat.reduceAdd, Nat.reduceMul, Nat.reduceSub, and_true, true_and, and_false, false_and, or_true, true_or, or_false, false_or, if_true, if_false, eq_self, not_true, not_false_eq_true, h534]
  by_cases h535 : x.kd c = 535
  · simp (disch := first | assumption | omega) only [sx, if_pos, if_neg, bnd, Nat.reduceEqDiff, Nat.reduceAdd, Nat.reduceMul, Nat.reduceSub, and_true, true_and, and_false, false_and, or_true, true_or, or_false, false_or, if_true, if_false, eq_self, not_true, not_false_eq_true, h535]
  simp (disch := first | assumption | omega) only [sx, if_pos, if_neg, bnd, Nat.reduceEqDiff, Nat.reduceAdd, Nat.reduceMul, Nat.reduceSub, and_true, true_and, and_false, false_and, or_true, true_or, or_false, false_or, if_true, if_false, eq_self, not_true, not_false_eq_true]
/-- behind a fault nothing is done -/
theorem tO_bad {l1 l2 : Int32} {b : ts} (h : ¬ gI b 1103 0 = 0) : cR_takeOne_100 l1 l2 b = some b := by
  unfold cR_takeOne_100
  rw [good_f h, Option.bind_some]
  dsimp only
  rw [if_pos rfl]
  unfold cR_takeOne_154
  rw [good_f h, Option.bind_some]
  dsimp only
  rw [if_pos rfl]
  have : ∀ t, cR_takeOne_196 l2 t b = some b := by
    intro t
    unfold cR_takeOne_196 cR_limit
    rw [good_f h, Option.bind_some]
    dsimp only
    rw [if_pos rfl, Option.bind_some, good_f h, Option.bind_some]
    rfl
  unfold cR_takeOne_181
  rw [this, this]
  split <;> rfl
/-- what a one is, without a fault -/
def tO (l2 : Int32) (s : ts) : Option ts := if (gI s 1106 0) = ((45 : Int32)) then cR_takeOne_225 s else (if (gI s 1106 0) = ((33 : Int32)) then cR_takeOne_225 s else (if (gI s 1106 0) = ((40 : Int32)) then (cR_open ((14 : Int32)) s).bind (fun s31 => (cR_next s31).bind (fun s34 => some s34)) else (if l2 = ((21 : Int32)) then (cR_next s).bind (fun s21 => (cR_open ((6 : Int32)) s21).bind (fun s24 => (cR_must ((40 : Int32)) s24).bind (fun s27 => some s27))) else (cR_takePlain l2 s).bind (fun s8 => (cR_next s8).bind (fun s11 => (cR_good s11).bind (fun x15 => (if x15.1 = ((0 : Int32)) then some x15.2 else (cR_endOne x15.2).bind (fun s17 => some s17))))))))
theorem tO_181 {l2 : Int32} {b : ts} {dp : Nat} (hg : gI b 1103 0 = 0) (hd : gI b 1148 0 = nI dp) (h31 : dp < 2 ^ 31) : cR_takeOne_181 l2 b = if 30 < dp then cR_need 0 5 b else tO l2 b := by
  unfold cR_takeOne_181
  rw [hd]
  by_cases h : 30 < dp
  · rw [if_pos (show (30 : Int32) < nI dp from nI_lt (a := 30) h h31), if_pos h]
    unfold cR_takeOne_196 cR_limit
    rw [good_t hg, Option.bind_some]
    dsimp only
    rw [if_neg (by decide), need_f hg]
    rw [show (some (wI (wI b 1103 0 5) 1104 0 (gI b 1107 0))).bind (fun s5 => some s5) = some (wI (wI b 1103 0 5) 1104 0 (gI b 1107 0)) from rfl, Option.bind_some, good_f (by rw [gI_wIn (by decide), gI_wIs]; decide)]
    rfl
  · rw [if_neg (show ¬ (30 : Int32) < nI dp from nI_nlt (a := 30) (by omega) (by decide)), if_neg h]
    unfold cR_takeOne_196 cR_limit
    rw [good_t hg, Option.bind_some]
    dsimp only
    rw [if_neg (by decide)]
    show (some b).bind _ = _
    rw [Option.bind_some, good_t hg, Option.bind_some]
    dsimp only
    rw [if_neg (by decide)]
    rfl
theorem rt_tab1 : ∀ k, k < 600 → vk k = true → k ≠ 1 → (rt k = 1 ↔ k = 2 ∨ 512 ≤ k) ∧ (rt k = 2 ↔ k = 3) := by decide +kernel
theorem rt_tab2 : ∀ k, k < 600 → vk k = true → k ≠ 1 → (rt k = 45 ↔ k = 45) ∧ (rt k = 33 ↔ k = 33) := by decide +kernel
theorem rt_tab3 : ∀ k, k < 600 → vk k = true → k ≠ 1 → (rt k = 40 ↔ k = 40) ∧ rt k < 600 := by decide +kernel
theorem rt_tab (k : Nat) (h : k < 600) (hv : vk k = true) (h1 : k ≠ 1) : (rt k = 1 ↔ k = 2 ∨ 512 ≤ k) ∧ (rt k = 2 ↔ k = 3) ∧ (rt k = 45 ↔ k = 45) ∧ (rt k = 33 ↔ k = 33) ∧ (rt k = 40 ↔ k = 40) ∧ rt k < 600 := ⟨(rt_tab1 k h hv h1).1, (rt_tab1 k h hv h1).2, (rt_tab2 k h hv h1).1, (rt_tab2 k h hv h1).2, (rt_tab3 k h hv h1).1, (rt_tab3 k h hv h1).2⟩
theorem takeOne_ok {x : Cx} (hx : x.Ok) {L : Nat → List Int64} {T : List (Nat × Nat)} {aw : Bool} {a b : ts} {c dp : Nat} (h : RX x L T aw a b c) (hk1 : x.kd c ≠ 1) (hd : gI b 1148 0 = nI dp) (hdp : dp < 100) : cR_takeOne (bI aw) b = if fo L aw (x.kd c) (x.vl c) = 0 then (if 30 < dp then cR_need 0 5 b else tO (rvI (x.kd c)) b) else cR_need 0 (nI (fo L aw (x.kd c) (x.vl c))) b := by
  have hlt := hx.lt c
  have hg := h.sb.g hk1
  obtain ⟨x1, x2, x3, x4, x5, x6⟩ := h.sb.nx.2 hk1
  have x2 : gI b 1106 0 = nI (rt (x.kd c)) := x2
  obtain ⟨r1, r2, r3, r4, r5, r6⟩ := rt_tab _ hlt (x.kv c) hk1
  have hres : cR_reserved b = some (rvI (x.kd c), b) := reserved_ok h.sb.w hx.r h.sb.nx hk1
  have h181 := tO_181 (l2 := rvI (x.kd c)) hg hd (by omega)
  -- the fault's state
  have nf : ∀ f : Int32, ∃ bf, cR_need 0 f b = some bf ∧ gI bf 1103 0 = f ∧ gI bf 1106 0 = gI b 1106 0 := by
    intro f
    refine ⟨_, need_f hg, ?_, ?_⟩
    · simp (disch := first | assumption | omega) only [sx, if_pos, if_neg, bnd, Nat.reduceEqDiff, Nat.reduceAdd, Nat.reduceMul, Nat.reduceSub, and_true, true_and, and_false, false_and, or_true, true_or, or_false, false_or, if_true, if_false, eq_self, not_true, not_false_eq_true]
    · simp (disch := first | assumption | omega) only [sx, if_pos, if_neg, bnd, Nat.reduceEqDiff, Nat.reduceAdd, Nat.reduceMul, Nat.reduceSub, and_true, true_and, and_false, false_and, or_true, true_or, or_false, false_or, if_true, if_false, eq_self, not_true, not_false_eq_true]
  have good49 : (cR_takeOne_49 (bI aw) 1 b) = (if gI b 1106 0 = 1 then (if rvI (x.kd c) = -1 then cR_takeOne_96 (bI aw) (rvI (x.kd c)) 1 b else (if rvI (x.kd c) < 19 then cR_takeOne_96 (bI aw) (rvI (x.kd c)) 0 b else (if 23 < rvI (x.kd c) then cR_takeOne_96 (bI aw) (rvI (x.kd c)) 0 b else cR_takeOne_96 (bI aw) (rvI (x.kd c)) 1 b))) else cR_takeOne_100 (bI aw) (rvI (x.kd c)) b) := by
    unfold cR_takeOne_49
    rw [need_t, Option.bind_some, hres, Option.bind_some]
    dsimp only
    rw [good_t hg, Option.bind_some]
    dsimp only
    rw [if_neg (by decide)]
  have h96 : ∀ l2, cR_takeOne_96 (bI aw) l2 1 b = cR_takeOne_100 (bI aw) l2 b := fun l2 => rfl
  have h960 : ∀ l2, cR_takeOne_96 (bI aw) l2 0 b = cR_need 0 2 b := by
    intro l2
    obtain ⟨bf, n1, n2, n3⟩ := nf 2
    unfold cR_takeOne_96
    rw [n1, Option.bind_some, tO_bad (by rw [n2]; decide)]
  have h100 : ∀ l2, ¬ (gI b 1106 0 = 1 ∧ l2 = -1) → cR_takeOne_100 (bI aw) l2 b = cR_takeOne_154 (bI aw) l2 b := by
    intro l2 hn
    unfold cR_takeOne_100
    rw [good_t hg, Option.bind_some]
    dsimp only
    rw [if_neg (by decide)]
    by_cases e : gI b 1106 0 = 1
    · rw [if_pos e, if_neg (fun z => hn ⟨e, z⟩)]
    · rw [if_neg e]
  have h154 : ∀ l2, ¬ l2 = 21 → cR_takeOne_154 (bI aw) l2 b = cR_takeOne_181 l2 b := by
    intro l2 hn
    unfold cR_takeOne_154
    rw [good_t hg, Option.bind_some]
    dsimp only
    rw [if_neg (by decide), if_neg hn]
  have lit1 : ∀ k : Nat, k < 600 → (gI b 1106 0 = nI k ↔ rt (x.kd c) = k) := by
    intro k hk
    rw [x2]
    exact ⟨fun z => nI_inj (by omega) (by omega) z, fun z => by rw [z]⟩
  unfold cR_takeOne
  by_cases hw : x.kd c = 2
  · -- a word
    have e1 : gI b 1106 0 = 1 := (lit1 1 (by omega)).mpr (r1.mpr (Or.inl hw))
    have hv : rvI (x.kd c) = -1 := by rw [hw]; rfl
    have hwd : gJ b 1108 0 = x.vl c := x5 (Or.inl hw)
    rw [if_pos e1, good49, if_pos e1, hv, if_pos rfl, h96]
    unfold cR_takeOne_100
    rw [good_t hg, Option.bind_some]
    dsimp only
    rw [if_neg (by decide), if_pos e1, if_pos rfl, hwd, findLocal_ok (by have : (L 4).length ≤ 8 := h.na.m 4 (by omega); exact this) h.nb.v, Option.bind_some]
    dsimp only
    rw [hwd, findNumber_ok (by have : (L 2).length ≤ 16 := h.na.m 2 (by omega); exact this) h.nb.n, Option.bind_some]
    dsimp only
    have h150 : cR_takeOne_150 (bI aw) (-1) 1 b = cR_takeOne_181 (-1) b := by
      show cR_takeOne_154 (bI aw) (-1) b = _
      exact h154 _ (by decide)
    have h1500 : cR_takeOne_150 (bI aw) (-1) 0 b = cR_need 0 4 b := by
      obtain ⟨bf, n1, n2, n3⟩ := nf 4
      unfold cR_takeOne_150
      rw [n1, Option.bind_some]
      have hb : ¬ gI bf 1103 0 = 0 := by rw [n2]; decide
      have := tO_bad (l1 := bI aw) (l2 := -1) hb
      unfold cR_takeOne_100 at this
      rw [good_f hb, Option.bind_some] at this
      exact this
    rw [h150, h1500]
    rw [hv] at h181
    rw [h181]
    unfold fo fv
    rw [if_pos hw]
    have h4l := h.na.m 4 (by omega)
    have h2l := h.na.m 2 (by omega)
    cases h4 : ix (L 4) (x.vl c) with
    | some k =>
      have hk := (ix_some h4).2
      have : (L 4).length ≤ 8 := h4l
      rw [if_neg (show ¬ oi (-1) (some k) = -1 from fun z => by have := (n1_n (a := k) (by omega)).mp z; exact this)]
      rfl
    | none =>
      rw [if_pos (show oi (-1) none = -1 from rfl)]
      cases h2 : ix (L 2) (x.vl c) with
      | some k =>
        have hk := (ix_some h2).2
        have : (L 2).length ≤ 16 := h2l
        rw [if_neg (show ¬ oi (-1) (some k) = -1 from fun z => by have := (n1_n (a := k) (by omega)).mp z; exact this)]
        rfl
      | none => rw [if_pos (show oi (-1) none = -1 from rfl)]; rfl
  · by_cases hr : 512 ≤ x.kd c
    · -- a reserved one
      have e1 : gI b 1106 0 = 1 := (lit1 1 (by omega)).mpr (r1.mpr (Or.inr hr))
      have hv : rvI (x.kd c) = nI (x.kd c - 512) := if_pos hr
      have hkv : x.kd c ≤ 535 := by
        have key : ∀ k, k < 600 → vk k = true → 512 ≤ k → k ≤ 535 := by decide +kernel
        exact key _ hlt (x.kv c) hr
      rw [if_pos e1, good49, if_pos e1, hv, if_neg (show ¬ nI (x.kd c - 512) = -1 from fun z => (n1_n (a := x.kd c - 512) (by omega)).mp z)]
      rw [hv] at h181
      by_cases h19 : x.kd c - 512 < 19
      · rw [if_pos (show nI (x.kd c - 512) < (19 : Int32) from nI_lt (b := 19) h19 (by decide)), h960]
        have ef : fo L aw (x.kd c) (x.vl c) = 2 := by
          unfold fo
          rw [if_neg hw, if_neg (by omega), if_neg (by omega)]
        rw [ef, if_neg (by decide)]; rfl
      · rw [if_neg (show ¬ nI (x.kd c - 512) < (19 : Int32) from nI_nlt (b := 19) (by omega) (by omega)), if_neg (show ¬ (23 : Int32) < nI (x.kd c - 512) from nI_nlt (a := 23) (by omega) (by decide)), h96, h100 _ (fun z => (n1_n (a := x.kd c - 512) (by omega)).mp z.2)]
        by_cases h21 : x.kd c = 533
        · have e21 : nI (x.kd c - 512) = 21 := by rw [h21]; rfl
          unfold cR_takeOne_154
          rw [good_t hg, Option.bind_some]
          dsimp only
          rw [if_neg (by decide), if_pos e21]
          have ef : fo L aw (x.kd c) (x.vl c) = if aw = true then 4 else 0 := by
            unfold fo
            rw [if_neg hw, if_neg (by omega), if_pos h21]
          rw [ef]
          cases aw with
          | false =>
            rw [if_pos (show bI false = 0 from rfl)]
            show cR_takeOne_181 _ b = _
            rw [h181]; rfl
          | true =>
            rw [if_neg (show ¬ bI true = 0 by decide)]
            obtain ⟨bf, n1, n2, n3⟩ := nf 4
            have hb : ¬ gI bf 1103 0 = 0 := by rw [n2]; decide
            have this := tO_bad (l1 := bI true) (l2 := nI (x.kd c - 512)) hb
            unfold cR_takeOne_100 at this
            rw [good_f hb, Option.bind_some] at this
            have this : cR_takeOne_154 (bI true) (nI (x.kd c - 512)) bf = some bf := this
            unfold cR_takeOne_154 at this
            rw [good_f hb, Option.bind_some] at this
            unfold cR_takeOne_177
            rw [n1, Option.bind_some]
            rw [show (4 : Int32) = nI 4 from rfl] at n1
            show cR_takeOne_181 (nI (x.kd c - 512)) bf = cR_need 0 (nI 4) b
            rw [n1]
            exact this
        · rw [h154 _ (show ¬ nI (x.kd c - 512) = 21 from fun z => by have := nI_inj (a := x.kd c - 512) (b := 21) (by omega) (by decide) z; omega), h181]
          have ef : fo L aw (x.kd c) (x.vl c) = 0 := by
            unfold fo
            rw [if_neg hw, if_pos (by omega)]
          rw [ef]; rfl
    · have e1 : ¬ gI b 1106 0 = 1 := fun z => by have := r1.mp ((lit1 1 (by omega)).mp z); omega
      have hv : rvI (x.kd c) = -1 := if_neg hr
      have h181' : ¬ gI b 1106 0 = 1 → cR_takeOne_49 (bI aw) 1 b = if 30 < dp then cR_need 0 5 b else tO (rvI (x.kd c)) b := by
        intro _
        rw [good49, if_neg e1, h100 _ (fun z => e1 z.1), h154 _ (by rw [hv]; decide), h181]
      rw [if_neg e1]
      by_cases hs : x.kd c = 3 ∨ x.kd c = 45 ∨ x.kd c = 33 ∨ x.kd c = 40
      · have ef : fo L aw (x.kd c) (x.vl c) = 0 := by
          unfold fo
          rw [if_neg hw, if_pos (by omega)]
        rw [ef, if_pos rfl, h181' e1]
        rcases hs with e | e | e | e
        · rw [if_pos (show gI b 1106 0 = 2 from (lit1 2 (by omega)).mpr (r2.mpr e))]
        · rw [if_neg (show ¬ gI b 1106 0 = 2 from fun z => by have := r2.mp ((lit1 2 (by omega)).mp z); omega), if_pos (show gI b 1106 0 = 45 from (lit1 45 (by omega)).mpr (r3.mpr e))]
        · rw [if_neg (show ¬ gI b 1106 0 = 2 from fun z => by have := r2.mp ((lit1 2 (by omega)).mp z); omega), if_neg (show ¬ gI b 1106 0 = 45 from fun z => by have := r3.mp ((lit1 45 (by omega)).mp z); omega), if_pos (show gI b 1106 0 = 33 from (lit1 33 (by omega)).mpr (r4.mpr e))]
        · rw [if_neg (show ¬ gI b 1106 0 = 2 from fun z => by have := r2.mp ((lit1 2 (by omega)).mp z); omega), if_neg (show ¬ gI b 1106 0 = 45 from fun z => by have := r3.mp ((lit1 45 (by omega)).mp z); omega), if_neg (show ¬ gI b 1106 0 = 33 from fun z => by have := r4.mp ((lit1 33 (by omega)).mp z); omega), if_pos (show gI b 1106 0 = 40 from (lit1 40 (by omega)).mpr (r5.mpr e))]
      · have ef : fo L aw (x.kd c) (x.vl c) = 2 := by
          unfold fo
          rw [if_neg hw, if_neg (by omega), if_neg (by omega)]
        rw [if_neg (show ¬ gI b 1106 0 = 2 from fun z => by have := r2.mp ((lit1 2 (by omega)).mp z); omega), if_neg (show ¬ gI b 1106 0 = 45 from fun z => by have := r3.mp ((lit1 45 (by omega)).mp z); omega), if_neg (show ¬ gI b 1106 0 = 33 from fun z => by have := r4.mp ((lit1 33 (by omega)).mp z); omega), if_neg (show ¬ gI b 1106 0 = 40 from fun z => by have := r5.mp ((lit1 40 (by omega)).mp z); omega), ef, if_neg (by decide)]
        obtain ⟨bf, n1, n2, n3⟩ := nf 2
        have hb : ¬ gI bf 1103 0 = 0 := by rw [n2]; decide
        unfold cR_takeOne_49
        rw [n1, Option.bind_some]
        have hrf : cR_reserved bf = some (-1, bf) := by
          unfold cR_reserved
          rw [n3, if_neg e1]
        rw [hrf, Option.bind_some]
        dsimp only
        rw [good_f hb, Option.bind_some]
        dsimp only
        rw [if_pos rfl, tO_bad hb]
        exact n1.symm
