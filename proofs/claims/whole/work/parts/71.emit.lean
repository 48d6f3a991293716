/-! READING SIDE BY SIDE: where both stand in the tokens, what both have emitted, what waits. -/
abbrev Cx : Type := (Nat → Nat) × Nat × (Nat → Int64) × Nat
def Cx.bt (x : Cx) : Nat → Nat := x.1
def Cx.n (x : Cx) : Nat := x.2.1
def Cx.R (x : Cx) : Nat → Int64 := x.2.2.1
def Cx.m (x : Cx) : Nat := x.2.2.2
def Cx.tk (x : Cx) (c : Nat) : Nat × Nat × Int64 × Nat := tkn x.bt x.n x.R c
def Cx.kd (x : Cx) (c : Nat) : Nat := (x.tk c).1
def Cx.pl (x : Cx) (c : Nat) : Nat := (x.tk c).2.1
def Cx.vl (x : Cx) (c : Nat) : Int64 := (x.tk c).2.2.1
def Cx.ps (x : Cx) (c : Nat) : Nat := (tst x.bt x.n x.R c).2
def Cx.Ok (x : Cx) : Prop := (x.n ≤ 4000) ∧ (∀ k, k < x.n → x.bt k < 256) ∧ (∀ k, k < 24 → x.R k = in_rw.getD k 0) ∧ (x.m ≤ x.n) ∧ (∀ j, j < x.m → 2 ≤ x.kd j) ∧ (x.kd x.m < 2)
theorem Cx.Ok.n {x : Cx} (h : Cx.Ok x) : x.n ≤ 4000 := h.1
theorem Cx.Ok.b {x : Cx} (h : Cx.Ok x) : ∀ k, k < x.n → x.bt k < 256 := h.2.1
theorem Cx.Ok.r {x : Cx} (h : Cx.Ok x) : ∀ k, k < 24 → x.R k = in_rw.getD k 0 := h.2.2.1
theorem Cx.Ok.m {x : Cx} (h : Cx.Ok x) : x.m ≤ x.n := h.2.2.2.1
theorem Cx.Ok.k {x : Cx} (h : Cx.Ok x) : ∀ j, j < x.m → 2 ≤ x.kd j := h.2.2.2.2.1
theorem Cx.Ok.e {x : Cx} (h : Cx.Ok x) : x.kd x.m < 2 := h.2.2.2.2.2
theorem Cx.Ok.lt {x : Cx} (h : x.Ok) (c : Nat) : x.kd c < 600 := (tok_nx (tst_le h.b c) h.b).2.2.2
theorem Cx.Ok.pn {x : Cx} (h : x.Ok) (c : Nat) : x.ps c ≤ x.n := tst_le h.b c
theorem Cx.Ok.pc {x : Cx} (h : x.Ok) {c : Nat} (hc : c ≤ x.m) : c ≤ x.ps c := tst_ge h.b c (fun i hi => h.k i (by omega))
theorem Cx.Ok.p1 {x : Cx} (h : x.Ok) {c : Nat} (hc : 2 ≤ x.kd c) : x.ps c + 1 ≤ x.ps (c + 1) := (tok_nx (tst_le h.b c) h.b).2.2.1 hc
theorem Cx.Ok.lm {x : Cx} (h : x.Ok) {c : Nat} (hc : c ≤ x.m) (hk : 2 ≤ x.kd c) : c < x.m := by
  apply Classical.byContradiction
  intro z
  have : c = x.m := by omega
  rw [this] at hk
  have := h.e
  omega
theorem tok1_pair {b : Nat → Nat} {n j : Nat} {R : Nat → Int64} (h1 : 256 ≤ (tok1 b n R j).1) (h2 : (tok1 b n R j).1 < 512) (hb : ∀ k, k < n → b k < 256) : (tok1 b n R j).2.2.2 = j + 2 := by
  unfold tok1 at h1 h2 ⊢
  by_cases h0 : n ≤ j
  · rw [if_pos h0] at h1; dsimp only at h1; omega
  · rw [if_neg h0] at h1 h2 ⊢
    by_cases g1 : isL (b j) = true
    · rw [if_pos g1] at h1 h2
      by_cases g2 : 8 < rn isW b (n - j) j - j
      · rw [if_pos g2] at h1; dsimp only at h1; omega
      · rw [if_neg g2] at h1 h2; dsimp only at h1 h2
        have := wk_ge R (wv b j (rn isW b (n - j) j - j)) 24 0
        omega
    · rw [if_neg g1] at h1 h2 ⊢
      by_cases g2 : isD (b j) = true
      · rw [if_pos g2] at h1
        by_cases g3 : 9 < rn isD b (n - j) j - j
        · rw [if_pos g3] at h1; dsimp only at h1; omega
        · rw [if_neg g3] at h1; dsimp only at h1; omega
      · rw [if_neg g2] at h1 h2 ⊢
        by_cases g3 : isP (b j) (if j + 1 < n then b (j + 1) else 256) = true
        · rw [if_pos g3]
        · rw [if_neg g3] at h1 h2
          by_cases g4 : isS (b j) = true
          · rw [if_pos g4] at h1; dsimp only at h1; have := hb j (by omega); omega
          · rw [if_neg g4] at h1; dsimp only at h1; omega
theorem Cx.Ok.p2 {x : Cx} (h : x.Ok) {c : Nat} (h1 : 256 ≤ x.kd c) (h2 : x.kd c < 512) : x.ps c + 2 ≤ x.ps (c + 1) := by
  have e : x.kd c = (tok x.bt x.n x.R (tst x.bt x.n x.R c).1 (x.ps c)).1 := rfl
  have e2 : x.ps (c + 1) = (tok x.bt x.n x.R (tst x.bt x.n x.R c).1 (x.ps c)).2.2.2 := rfl
  rw [e] at h1 h2
  rw [e2]
  unfold tok at h1 h2 ⊢
  split at h1
  · dsimp only at h1; omega
  · rename_i hn
    rw [if_neg hn] at h2 ⊢
    rw [tok1_pair h1 h2 h.b]
    have := sk_le x.bt (x.n - x.ps c) false (x.ps c)
    omega
/-- V's places are not among W -/
def dj (V W : List Nat) : Bool := V.all (fun k => !(W.contains k))
theorem dj_m {V W : List Nat} {k : Nat} (h : dj V W = true) (hk : V.contains k = true) : W.contains k = false := by
  unfold dj at h
  have := List.all_eq_true.mp h k (List.contains_iff_mem.mp hk)
  cases hq : W.contains k with
  | false => rfl
  | true => rw [hq] at this; cases this
def SA (x : Cx) (a : ts) (c : Nat) : Prop := (TL a x.bt x.n x.R x.m) ∧ (gI a 106 0 = nI c) ∧ (gI a 107 0 = nI (x.kd c)) ∧ (c ≤ x.m ∧ gI a 108 0 = 0 ∧ gI a 109 0 = -1)
theorem SA.t {x : Cx} {a : ts} {c : Nat} (h : SA x a c) : TL a x.bt x.n x.R x.m := h.1
theorem SA.cu {x : Cx} {a : ts} {c : Nat} (h : SA x a c) : gI a 106 0 = nI c := h.2.1
theorem SA.ki {x : Cx} {a : ts} {c : Nat} (h : SA x a c) : gI a 107 0 = nI (x.kd c) := h.2.2.1
theorem SA.l {x : Cx} {a : ts} {c : Nat} (h : SA x a c) : c ≤ x.m := h.2.2.2.1
theorem SA.z {x : Cx} {a : ts} {c : Nat} (h : SA x a c) : gI a 108 0 = 0 ∧ gI a 109 0 = -1 := h.2.2.2.2
def SB (x : Cx) (b : ts) (c : Nat) : Prop := (txR b x.bt x.n) ∧ (gI b 1101 0 = nI x.n) ∧ (WD b) ∧ (NX b (x.tk c))
theorem SB.t {x : Cx} {b : ts} {c : Nat} (h : SB x b c) : txR b x.bt x.n := h.1
theorem SB.z {x : Cx} {b : ts} {c : Nat} (h : SB x b c) : gI b 1101 0 = nI x.n := h.2.1
theorem SB.w {x : Cx} {b : ts} {c : Nat} (h : SB x b c) : WD b := h.2.2.1
theorem SB.nx {x : Cx} {b : ts} {c : Nat} (h : SB x b c) : NX b (x.tk c) := h.2.2.2
/-- the program stands at token c -/
def av (x : Cx) (a : ts) (c : Nat) : ts := wI (wI a 106 0 (nI c)) 107 0 (nI (x.kd c))
theorem TL_fr {W : List Nat} {a a1 : ts} {b : Nat → Nat} {n m : Nat} {R : Nat → Int64} (hf : fr W a a1) (hd : dj [104, 2009, 2010, 3011] W = true) (h : TL a b n R m) : TL a1 b n R m := by
  refine ⟨h.1, (hf.1 104 (dj_m hd rfl) 0).trans h.2.1, fun j hj => ?_, h.2.2.2⟩
  obtain ⟨t1, t2, t3⟩ := h.2.2.1 j hj
  exact ⟨(hf.2.1 9 (dj_m hd rfl) j).trans t1, (hf.2.1 10 (dj_m hd rfl) j).trans t2, (hf.2.2.1 11 (dj_m hd rfl) j).trans t3⟩
theorem SA_fr {x : Cx} {W : List Nat} {a a1 : ts} {c : Nat} (hf : fr W a a1) (hd : dj [106, 107, 108, 109, 104, 2009, 2010, 3011] W = true) (h : SA x a c) : SA x a1 c :=
  ⟨TL_fr hf (by unfold dj at hd ⊢; simp at hd ⊢; exact hd.2.2.2.2) h.t, (hf.1 106 (dj_m hd rfl) 0).trans h.cu, (hf.1 107 (dj_m hd rfl) 0).trans h.ki, h.l, (hf.1 108 (dj_m hd rfl) 0).trans h.z.1, (hf.1 109 (dj_m hd rfl) 0).trans h.z.2⟩
theorem adv_ok {x : Cx} (hx : x.Ok) {a : ts} {c : Nat} (h : SA x a c) (hc : c < x.m) : cT_advance a = some (av x a (c + 1)) ∧ SA x (av x a (c + 1)) (c + 1) := by
  have hm := hx.m
  have hn := hx.n
  have h9 := (h.t.2.2.1 (c + 1) (by omega)).1
  have h9 : gA a 9 (c + 1) = nI (x.kd (c + 1)) := h9
  refine ⟨?_, ⟨h.t.1, h.t.2.1, h.t.2.2.1, h.t.2.2.2⟩, ?_, ?_, by omega, h.z⟩
  · unfold cT_advance av
    simp (disch := first | assumption | omega) only [sx, if_pos, if_neg, bnd, Nat.reduceEqDiff, Nat.reduceAdd, Nat.reduceMul, Nat.reduceSub, and_true, true_and, and_false, false_and, or_true, true_or, or_false, false_or, if_true, if_false, eq_self, not_true, not_false_eq_true, h.t.2.1, h.cu, h9]
  · unfold av; simp (disch := first | assumption | omega) only [sx, if_pos, if_neg, bnd, Nat.reduceEqDiff, Nat.reduceAdd, Nat.reduceMul, Nat.reduceSub, and_true, true_and, and_false, false_and, or_true, true_or, or_false, false_or, if_true, if_false, eq_self, not_true, not_false_eq_true]
  · unfold av; simp (disch := first | assumption | omega) only [sx, if_pos, if_neg, bnd, Nat.reduceEqDiff, Nat.reduceAdd, Nat.reduceMul, Nat.reduceSub, and_true, true_and, and_false, false_and, or_true, true_or, or_false, false_or, if_true, if_false, eq_self, not_true, not_false_eq_true]
theorem fr_av {x : Cx} {a : ts} {c : Nat} : fr [106, 107] a (av x a c) := fr_wI (fr_wI fr_rf rfl) rfl
theorem NX_fr {W : List Nat} {s s1 : ts} {t : Nat × Nat × Int64 × Nat} (hf : fr W s s1) (hd : dj [1103, 1104, 1105, 1106, 1107, 1109, 5108] W = true) (h : NX s t) : NX s1 t := by
  have e8 : gJ s1 1108 0 = gJ s 1108 0 := hf.2.2.2.1 1108 (dj_m hd rfl) 0
  unfold NX
  rw [hf.1 1103 (dj_m hd rfl), hf.1 1104 (dj_m hd rfl), hf.1 1105 (dj_m hd rfl), hf.1 1106 (dj_m hd rfl), hf.1 1107 (dj_m hd rfl), hf.1 1109 (dj_m hd rfl), e8]
  exact h
theorem SB_t {x : Cx} {W : List Nat} {b b1 : ts} {c : Nat} (hf : fr W b b1) (hd : dj [1101, 2088] W = true) (h : SB x b c) : txR b1 x.bt x.n ∧ gI b1 1101 0 = nI x.n ∧ WD b1 :=
  ⟨fun k hk => ⟨(h.t k hk).1, (hf.2.1 88 (dj_m hd rfl) k).trans (h.t k hk).2⟩, (hf.1 1101 (dj_m hd rfl) 0).trans h.z, (hf.2.2.2.2.2.2.2.2 3).trans h.w⟩
theorem SB_fr {x : Cx} {W : List Nat} {b b1 : ts} {c : Nat} (hf : fr W b b1) (hd : dj [1103, 1104, 1105, 1106, 1107, 1109, 5108] W = true) (hd2 : dj [1101, 2088] W = true) (h : SB x b c) : SB x b1 c := by
  obtain ⟨h1, h2, h3⟩ := SB_t hf hd2 h
  exact ⟨h1, h2, h3, NX_fr hf hd h.nx⟩
theorem rt_2 {k : Nat} (h1 : k ≠ 1) (hk : k < 600) : nI (rt k) = 2 ↔ Nat.beq k 3 = true := by
  have key : ∀ k, k < 600 → k ≠ 1 → (rt k = 2 ↔ Nat.beq k 3 = true) ∧ rt k < 600 := by decide +kernel
  obtain ⟨a, b⟩ := key k hk h1
  rw [← a]
  exact ⟨fun z => nI_inj (a := rt k) (b := 2) (by omega) (by decide) z, fun z => by rw [z]; rfl⟩
theorem nxt_ok {x : Cx} (hx : x.Ok) {b : ts} {c : Nat} (h : SB x b c) (hk : 2 ≤ x.kd c) : ∃ b1, cR_next b = some b1 ∧ SB x b1 (c + 1) ∧ fr wf_cR_next b b1 := by
  obtain ⟨x1, x2, x3, x4, x5, x6⟩ := h.nx.2 (show x.kd c ≠ 1 by omega)
  obtain ⟨b1, g1, g2, g3⟩ := next_ok (R := x.R) (an := Nat.beq (x.kd c) 3) hx.n (hx.pn (c + 1)) h.t h.z x4 x1 (by rw [x2]; exact rt_2 (show x.kd c ≠ 1 by omega) (hx.lt c))
  obtain ⟨t1, t2, t3⟩ := SB_t g2 rfl h
  exact ⟨b1, g1, ⟨t1, t2, t3, g3⟩, g2⟩
/-- the reference has gone wrong -/
theorem next_bad {b : ts} (h : ¬ gI b 1103 0 = 0) : cR_next b = some b := by
  unfold cR_next cR_good
  rw [if_neg h]
  rfl
theorem good_t {b : ts} (h : gI b 1103 0 = 0) : cR_good b = some (1, b) := by unfold cR_good; rw [if_pos h]
theorem good_f {b : ts} (h : ¬ gI b 1103 0 = 0) : cR_good b = some (0, b) := by unfold cR_good; rw [if_neg h]
theorem SB.g {x : Cx} {b : ts} {c : Nat} (h : SB x b c) (hk : x.kd c ≠ 1) : gI b 1103 0 = 0 := (h.nx.2 hk).1
theorem SB.nb {x : Cx} {b : ts} {c : Nat} (h : SB x b c) (hk : x.kd c = 1) : ¬ gI b 1103 0 = 0 := by rw [(h.nx.1 hk).1]; decide
/-- both have failed, alike -/
def FL (a b : ts) : Prop := gI a 108 0 = gI b 1103 0 ∧ gI a 109 0 = gI b 1104 0 ∧ ¬ gI b 1103 0 = 0
theorem failX_ok {x : Cx} (hx : x.Ok) {a : ts} {c : Nat} (h : SA x a c) (f : Int32) : cT_fail f a = some (0, wI (wI a 108 0 (if x.kd c = 1 then 1 else f)) 109 0 (nI (x.pl c))) := by
  have hm := hx.m
  have hn := hx.n
  have hl := h.l
  have hk := hx.lt c
  have h10 : gA a 10 c = nI (x.pl c) := (h.t.2.2.1 c (by omega)).2.1
  unfold cT_fail
  by_cases e : x.kd c = 1
  · simp (disch := first | assumption | omega) only [sx, if_pos, if_neg, bnd, Nat.reduceEqDiff, Nat.reduceAdd, Nat.reduceMul, Nat.reduceSub, and_true, true_and, and_false, false_and, or_true, true_or, or_false, false_or, if_true, if_false, eq_self, not_true, not_false_eq_true, h.ki, h.cu, e, h10]
  · simp (disch := first | assumption | omega) only [sx, if_pos, if_neg, bnd, Nat.reduceEqDiff, Nat.reduceAdd, Nat.reduceMul, Nat.reduceSub, and_true, true_and, and_false, false_and, or_true, true_or, or_false, false_or, if_true, if_false, eq_self, not_true, not_false_eq_true, h.ki, h.cu, h10]
/-- both find the token at fault -/
theorem fail_both {x : Cx} (hx : x.Ok) {a b : ts} {c : Nat} (ha : SA x a c) (hb : SB x b c) (hk : x.kd c ≠ 1) (f : Int32) (hf : ¬ f = 0) : ∃ a1 b1, cT_fail f a = some (0, a1) ∧ cR_need 0 f b = some b1 ∧ FL a1 b1 ∧ fr [108, 109] a a1 ∧ fr [1103, 1104] b b1 := by
  obtain ⟨x1, x2, x3, x4, x5, x6⟩ := hb.nx.2 hk
  refine ⟨_, _, failX_ok hx ha f, need_f x1, ?_, fr_wI (fr_wI fr_rf rfl) rfl, fr_wI (fr_wI fr_rf rfl) rfl⟩
  rw [if_neg hk, x3]
  refine ⟨?_, ?_, ?_⟩
  · simp (disch := first | assumption | omega) only [sx, if_pos, if_neg, bnd, Nat.reduceEqDiff, Nat.reduceAdd, Nat.reduceMul, Nat.reduceSub, and_true, true_and, and_false, false_and, or_true, true_or, or_false, false_or, if_true, if_false, eq_self, not_true, not_false_eq_true]
  · simp (disch := first | assumption | omega) only [sx, if_pos, if_neg, bnd, Nat.reduceEqDiff, Nat.reduceAdd, Nat.reduceMul, Nat.reduceSub, and_true, true_and, and_false, false_and, or_true, true_or, or_false, false_or, if_true, if_false, eq_self, not_true, not_false_eq_true]; rfl
  · simp (disch := first | assumption | omega) only [sx, if_pos, if_neg, bnd, Nat.reduceEqDiff, Nat.reduceAdd, Nat.reduceMul, Nat.reduceSub, and_true, true_and, and_false, false_and, or_true, true_or, or_false, false_or, if_true, if_false, eq_self, not_true, not_false_eq_true]; exact hf
/-- the reference failed as it read the token; the program finds that now -/
theorem fail_tok {x : Cx} (hx : x.Ok) {a b : ts} {c : Nat} (ha : SA x a c) (hb : SB x b c) (hk : x.kd c = 1) (f : Int32) : ∃ a1, cT_fail f a = some (0, a1) ∧ FL a1 b ∧ fr [108, 109] a a1 := by
  obtain ⟨x1, x2⟩ := hb.nx.1 hk
  refine ⟨_, failX_ok hx ha f, ?_, fr_wI (fr_wI fr_rf rfl) rfl⟩
  rw [if_pos hk]
  refine ⟨?_, ?_, ?_⟩
  · simp (disch := first | assumption | omega) only [sx, if_pos, if_neg, bnd, Nat.reduceEqDiff, Nat.reduceAdd, Nat.reduceMul, Nat.reduceSub, and_true, true_and, and_false, false_and, or_true, true_or, or_false, false_or, if_true, if_false, eq_self, not_true, not_false_eq_true, x1]
  · simp (disch := first | assumption | omega) only [sx, if_pos, if_neg, bnd, Nat.reduceEqDiff, Nat.reduceAdd, Nat.reduceMul, Nat.reduceSub, and_true, true_and, and_false, false_and, or_true, true_or, or_false, false_or, if_true, if_false, eq_self, not_true, not_false_eq_true, x2]; rfl
  · rw [x1]; decide

-- what both emit: an operation and its argument; a skip's argument is how far it leads, 0 as long as that is opened
abbrev Op1 : Type := Nat × Int32
def isSk (o : Nat) : Bool := Nat.beq o 294 || Nat.beq o 380
def oA (k : Nat) (o : Op1) : Int32 := if isSk o.1 = true ∧ ¬ o.2 = 0 then nI k + o.2 else o.2
def rc (o : Op1) : Nat := if o.1 = 2 then (if o.2 < 8 then 2 else 3) else if o.1 = 531 then 4 else if o.1 = 532 then 5 else if o.1 = 533 then 6 else if o.1 = 534 then 7 else if o.1 = 535 then 8 else if o.1 = 3 then 9 else if o.1 = 33 then 10 else if o.1 = 294 then 11 else if o.1 = 380 then 12 else if o.1 = 4 then 13 else if o.1 = 316 then 302 else if o.1 = 318 then 303 else if o.1 = 317 then 300 else if o.1 = 289 then 301 else o.1
def rA (k : Nat) (o : Op1) : Int32 := if isSk o.1 = true ∧ ¬ o.2 = 0 then nI k + o.2 else if o.1 = 2 ∧ ¬ o.2 < 8 then o.2 - 8 else o.2
/-- the program's operations from k on, and those before -/
def EA (a : ts) (k : Nat) (P Q : Nat → Int32) (E : List Op1) : Prop := (gI a 217 0 = nI (k + E.length)) ∧ (∀ j o, E[j]? = some o → gA a 26 (k + j) = nI o.1 ∧ gA a 27 (k + j) = oA (k + j) o) ∧ (∀ j, j < k → gA a 26 j = P j ∧ gA a 27 j = Q j)
theorem EA.n {a : ts} {k : Nat} {P Q : Nat → Int32} {E : List Op1} (h : EA a k P Q E) : gI a 217 0 = nI (k + E.length) := h.1
theorem EA.o {a : ts} {k : Nat} {P Q : Nat → Int32} {E : List Op1} (h : EA a k P Q E) : ∀ j o, E[j]? = some o → gA a 26 (k + j) = nI o.1 ∧ gA a 27 (k + j) = oA (k + j) o := h.2.1
theorem EA.p {a : ts} {k : Nat} {P Q : Nat → Int32} {E : List Op1} (h : EA a k P Q E) : ∀ j, j < k → gA a 26 j = P j ∧ gA a 27 j = Q j := h.2.2
/-- the reference's codes from k on, and those before -/
def EC (b : ts) (k : Nat) (P Q : Nat → Int32) (E : List Op1) : Prop := (gI b 1139 0 = nI (k + E.length)) ∧ (∀ j o, E[j]? = some o → gA b 110 (k + j) = nI (rc o) ∧ gA b 111 (k + j) = rA (k + j) o) ∧ (∀ j, j < k → gA b 110 j = P j ∧ gA b 111 j = Q j)
theorem EC.n {b : ts} {k : Nat} {P Q : Nat → Int32} {E : List Op1} (h : EC b k P Q E) : gI b 1139 0 = nI (k + E.length) := h.1
theorem EC.o {b : ts} {k : Nat} {P Q : Nat → Int32} {E : List Op1} (h : EC b k P Q E) : ∀ j o, E[j]? = some o → gA b 110 (k + j) = nI (rc o) ∧ gA b 111 (k + j) = rA (k + j) o := h.2.1
theorem EC.p {b : ts} {k : Nat} {P Q : Nat → Int32} {E : List Op1} (h : EC b k P Q E) : ∀ j, j < k → gA b 110 j = P j ∧ gA b 111 j = Q j := h.2.2
theorem getE_app {α : Type} {E : List α} {y o : α} {j : Nat} (h : (E ++ [y])[j]? = some o) : (j < E.length ∧ E[j]? = some o) ∨ (j = E.length ∧ o = y) := by
  by_cases hj : j < E.length
  · rw [List.getElem?_append_left hj] at h; exact Or.inl ⟨hj, h⟩
  · rw [List.getElem?_append_right (by omega)] at h
    by_cases e : j - E.length = 0
    · rw [e] at h; exact Or.inr ⟨by omega, (Option.some.inj h).symm⟩
    · rw [List.getElem?_eq_none (by simp; omega)] at h; cases h
theorem getE_lt {α : Type} {E : List α} {o : α} {j : Nat} (h : E[j]? = some o) : j < E.length := by
  apply Classical.byContradiction
  intro z
  rw [List.getElem?_eq_none (by omega)] at h
  cases h
def opW (a : ts) (k : Nat) (o : Nat) (v : Int32) : ts := wI (wA (wA a 26 k (nI o)) 27 k v) 217 0 (nI (k + 1))
theorem addOp_ok {a : ts} {k o : Nat} {P Q : Nat → Int32} {E : List Op1} {v : Int32} (h : EA a k P Q E) (hk : k + E.length < 4000) (hv : isSk o = true → v = 0) : cG_addOp (nI o) v a = some (nI (k + E.length), opW a (k + E.length) o v) ∧ EA (opW a (k + E.length) o v) k P Q (E ++ [(o, v)]) := by
  refine ⟨?_, ?_, ?_, ?_⟩
  · unfold cG_addOp opW
    simp (disch := first | assumption | omega) only [sx, if_pos, if_neg, bnd, Nat.reduceEqDiff, Nat.reduceAdd, Nat.reduceMul, Nat.reduceSub, and_true, true_and, and_false, false_and, or_true, true_or, or_false, false_or, if_true, if_false, eq_self, not_true, not_false_eq_true, h.n]
    rw [Nat.add_sub_cancel]
  · unfold opW; simp (disch := first | assumption | omega) only [sx, if_pos, if_neg, bnd, Nat.reduceEqDiff, Nat.reduceAdd, Nat.reduceMul, Nat.reduceSub, and_true, true_and, and_false, false_and, or_true, true_or, or_false, false_or, if_true, if_false, eq_self, not_true, not_false_eq_true, List.length_append, List.length_cons, List.length_nil]; rfl
  · intro j o' hj
    unfold opW
    rcases getE_app hj with ⟨g1, g2⟩ | ⟨g1, g2⟩
    · obtain ⟨q1, q2⟩ := h.o j o' g2
      simp (disch := first | assumption | omega) only [sx, if_pos, if_neg, bnd, Nat.reduceEqDiff, Nat.reduceAdd, Nat.reduceMul, Nat.reduceSub, and_true, true_and, and_false, false_and, or_true, true_or, or_false, false_or, if_true, if_false, eq_self, not_true, not_false_eq_true, q1, q2]
    · subst g2
      subst g1
      have : oA (k + E.length) (o, v) = v := by
        unfold oA
        split
        · rename_i z; exact absurd (hv z.1) z.2
        · rfl
      simp (disch := first | assumption | omega) only [sx, if_pos, if_neg, bnd, Nat.reduceEqDiff, Nat.reduceAdd, Nat.reduceMul, Nat.reduceSub, and_true, true_and, and_false, false_and, or_true, true_or, or_false, false_or, if_true, if_false, eq_self, not_true, not_false_eq_true, this]
  · intro j hj
    have := h.p j hj
    unfold opW
    simp (disch := first | assumption | omega) only [sx, if_pos, if_neg, bnd, Nat.reduceEqDiff, Nat.reduceAdd, Nat.reduceMul, Nat.reduceSub, and_true, true_and, and_false, false_and, or_true, true_or, or_false, false_or, if_true, if_false, eq_self, not_true, not_false_eq_true, this.1, this.2]
theorem fr_opW {a : ts} {k o : Nat} {v : Int32} : fr [217, 2026, 2027] a (opW a k o v) := fr_wI (fr_wA (fr_wA fr_rf rfl) rfl) rfl
def cdW (b : ts) (k : Nat) (c v : Int32) : ts := wI (wA (wA b 110 k c) 111 k v) 1139 0 (nI (k + 1))
theorem add_ok {b : ts} {k : Nat} {P Q : Nat → Int32} {E : List Op1} {c v : Int32} {o : Op1} (h : EC b k P Q E) (hk : k + E.length < 9000) (hc : c = nI (rc o)) (hv : v = rA (k + E.length) o) : cR_add c v b = some (nI (k + E.length), cdW b (k + E.length) c v) ∧ EC (cdW b (k + E.length) c v) k P Q (E ++ [o]) := by
  refine ⟨?_, ?_, ?_, ?_⟩
  · unfold cR_add cdW
    simp (disch := first | assumption | omega) only [sx, if_pos, if_neg, bnd, Nat.reduceEqDiff, Nat.reduceAdd, Nat.reduceMul, Nat.reduceSub, and_true, true_and, and_false, false_and, or_true, true_or, or_false, false_or, if_true, if_false, eq_self, not_true, not_false_eq_true, h.n]
  · unfold cdW; simp (disch := first | assumption | omega) only [sx, if_pos, if_neg, bnd, Nat.reduceEqDiff, Nat.reduceAdd, Nat.reduceMul, Nat.reduceSub, and_true, true_and, and_false, false_and, or_true, true_or, or_false, false_or, if_true, if_false, eq_self, not_true, not_false_eq_true, List.length_append, List.length_cons, List.length_nil]; rfl
  · intro j o' hj
    unfold cdW
    rcases getE_app hj with ⟨g1, g2⟩ | ⟨g1, g2⟩
    · obtain ⟨q1, q2⟩ := h.o j o' g2
      simp (disch := first | assumption | omega) only [sx, if_pos, if_neg, bnd, Nat.reduceEqDiff, Nat.reduceAdd, Nat.reduceMul, Nat.reduceSub, and_true, true_and, and_false, false_and, or_true, true_or, or_false, false_or, if_true, if_false, eq_self, not_true, not_false_eq_true, q1, q2]
    · subst g2
      subst g1
      simp (disch := first | assumption | omega) only [sx, if_pos, if_neg, bnd, Nat.reduceEqDiff, Nat.reduceAdd, Nat.reduceMul, Nat.reduceSub, and_true, true_and, and_false, false_and, or_true, true_or, or_false, false_or, if_true, if_false, eq_self, not_true, not_false_eq_true, hc, hv]
  · intro j hj
    have := h.p j hj
    unfold cdW
    simp (disch := first | assumption | omega) only [sx, if_pos, if_neg, bnd, Nat.reduceEqDiff, Nat.reduceAdd, Nat.reduceMul, Nat.reduceSub, and_true, true_and, and_false, false_and, or_true, true_or, or_false, false_or, if_true, if_false, eq_self, not_true, not_false_eq_true, this.1, this.2]
theorem fr_cdW {b : ts} {k : Nat} {c v : Int32} : fr [1139, 2110, 2111] b (cdW b k c v) := fr_wI (fr_wA (fr_wA fr_rf rfl) rfl) rfl
/-- a skip is closed: it leads behind a truth that is added -/
def clo (E : List Op1) (i : Nat) : List Op1 := (E.set i ((E.getD i (0, 0)).1, nI (E.length + 1 - i))) ++ [(4, 0)]
theorem clo_len (E : List Op1) (i : Nat) : (clo E i).length = E.length + 1 := by unfold clo; simp
theorem closeSkip_ok {a : ts} {k i : Nat} {P Q : Nat → Int32} {E : List Op1} (h : EA a k P Q E) (hk : k + E.length < 4000) (hi : i < E.length) (hs : isSk (E.getD i (0, 0)).1 = true) : ∃ a1, cG_closeSkip (nI (k + i)) a = some a1 ∧ EA a1 k P Q (clo E i) ∧ fr [217, 2026, 2027] a a1 := by
  obtain ⟨g1, g2⟩ := addOp_ok (o := 4) (v := 0) h hk (fun z => by cases z)
  have e : gI (opW a (k + E.length) 4 0) 217 0 = nI (k + E.length + 1) := by unfold opW; simp (disch := first | assumption | omega) only [sx, if_pos, if_neg, bnd, Nat.reduceEqDiff, Nat.reduceAdd, Nat.reduceMul, Nat.reduceSub, and_true, true_and, and_false, false_and, or_true, true_or, or_false, false_or, if_true, if_false, eq_self, not_true, not_false_eq_true]
  have hf : fr [217, 2026, 2027] a (opW a (k + E.length) 4 0) := fr_opW
  generalize opW a (k + E.length) 4 0 = u at *
  have hrun : cG_closeSkip (nI (k + i)) a = some (wA u 27 (k + i) (nI (k + E.length + 1))) := by
    unfold cG_closeSkip
    simp (disch := first | assumption | omega) only [sx, if_pos, if_neg, bnd, Nat.reduceEqDiff, Nat.reduceAdd, Nat.reduceMul, Nat.reduceSub, and_true, true_and, and_false, false_and, or_true, true_or, or_false, false_or, if_true, if_false, eq_self, not_true, not_false_eq_true, h.n]
    rw [show nI 0 = (0 : Int32) from rfl, g1]
    simp (disch := first | assumption | omega) only [sx, if_pos, if_neg, bnd, Nat.reduceEqDiff, Nat.reduceAdd, Nat.reduceMul, Nat.reduceSub, and_true, true_and, and_false, false_and, or_true, true_or, or_false, false_or, if_true, if_false, eq_self, not_true, not_false_eq_true, e]
  refine ⟨_, hrun, ⟨?_, ?_, ?_⟩, fr_wA hf rfl⟩
  · rw [clo_len]; simp (disch := first | assumption | omega) only [sx, if_pos, if_neg, bnd, Nat.reduceEqDiff, Nat.reduceAdd, Nat.reduceMul, Nat.reduceSub, and_true, true_and, and_false, false_and, or_true, true_or, or_false, false_or, if_true, if_false, eq_self, not_true, not_false_eq_true, e]; rfl
  · intro j o hj
    have hjl := getE_lt hj
    rw [clo_len] at hjl
    unfold clo at hj
    by_cases e : j = i
    · subst e
      rw [List.getElem?_append_left (by rw [List.length_set]; exact hi), List.getElem?_set_self hi] at hj
      have hj := Option.some.inj hj
      subst hj
      have q := g2.o j (E.getD j (0, 0)) (by rw [List.getElem?_append_left hi, List.getD_eq_getElem?_getD, List.getElem?_eq_getElem hi]; rfl)
      have eo : oA (k + j) ((E.getD j (0, 0)).1, nI (E.length + 1 - j)) = nI (k + E.length + 1) := by
        unfold oA
        rw [if_pos ⟨hs, nI_ne0 (by omega) (by omega)⟩, nI_add]
        congr 1
        omega
      refine ⟨?_, ?_⟩
      · rw [gA_wA, if_neg (by omega)]; exact q.1
      · rw [eo]; simp (disch := first | assumption | omega) only [sx, if_pos, if_neg, bnd, Nat.reduceEqDiff, Nat.reduceAdd, Nat.reduceMul, Nat.reduceSub, and_true, true_and, and_false, false_and, or_true, true_or, or_false, false_or, if_true, if_false, eq_self, not_true, not_false_eq_true]
    · have hj2 : (E ++ [(4, 0)])[j]? = some o := by
        rcases getE_app hj with ⟨w1, w2⟩ | ⟨w1, w2⟩
        · rw [List.length_set] at w1
          rw [List.getElem?_set_ne (fun z => e z.symm)] at w2
          rw [List.getElem?_append_left w1]; exact w2
        · rw [List.length_set] at w1
          subst w1 w2
          rw [List.getElem?_append_right (Nat.le_refl _), Nat.sub_self]; rfl
      obtain ⟨q1, q2⟩ := g2.o j o hj2
      refine ⟨?_, ?_⟩
      · simp (disch := first | assumption | omega) only [sx, if_pos, if_neg, bnd, Nat.reduceEqDiff, Nat.reduceAdd, Nat.reduceMul, Nat.reduceSub, and_true, true_and, and_false, false_and, or_true, true_or, or_false, false_or, if_true, if_false, eq_self, not_true, not_false_eq_true, q1]
      · simp (disch := first | assumption | omega) only [sx, if_pos, if_neg, bnd, Nat.reduceEqDiff, Nat.reduceAdd, Nat.reduceMul, Nat.reduceSub, and_true, true_and, and_false, false_and, or_true, true_or, or_false, false_or, if_true, if_false, eq_self, not_true, not_false_eq_true, q2]
  · intro j hj
    obtain ⟨q1, q2⟩ := g2.p j hj
    refine ⟨?_, ?_⟩
    · simp (disch := first | assumption | omega) only [sx, if_pos, if_neg, bnd, Nat.reduceEqDiff, Nat.reduceAdd, Nat.reduceMul, Nat.reduceSub, and_true, true_and, and_false, false_and, or_true, true_or, or_false, false_or, if_true, if_false, eq_self, not_true, not_false_eq_true, q1]
    · simp (disch := first | assumption | omega) only [sx, if_pos, if_neg, bnd, Nat.reduceEqDiff, Nat.reduceAdd, Nat.reduceMul, Nat.reduceSub, and_true, true_and, and_false, false_and, or_true, true_or, or_false, false_or, if_true, if_false, eq_self, not_true, not_false_eq_true, q2]
theorem closeSkip_no {a : ts} : cG_closeSkip (-2) a = some a := by unfold cG_closeSkip; rw [if_pos (by decide)]
