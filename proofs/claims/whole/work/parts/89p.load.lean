/-! LOAD: a text that both take gives the same program. -/
def PRA (a : ts) (L : Nat → List Int64) (pm en vc un rm : Nat → Nat) (G : List Ln) (τ : Nat → Int32) (K : Nat) : Prop :=
  (gI a 214 0 = nI G.length ∧ G.length ≤ 512 ∧ K ≤ 4000) ∧ (∀ q, q < 4 → gA a 16 q = nI (L q).length ∧ (L q).length ≤ nmx q) ∧ (∀ (l : Nat) (n : Ln), G[l]? = some n → LnA a τ K l n) ∧ (∀ d, d < (L 3).length → gA a 19 d = nI (pm d) ∧ pm d ≤ 8 ∧ gA a 20 d = nI (vc d) ∧ gA a 21 d = nI (en d)) ∧ ∀ p, p < 14 → gA a 17 p = nI (un p) ∧ gA a 18 p = nI (rm p)
def PRB (b : ts) (L : Nat → List Int64) (pm en un rm : Nat → Nat) (G : List Ln) (τ : Nat → Int32) (K : Nat) : Prop :=
  (gI b 1125 0 = nI G.length ∧ K ≤ 8000) ∧ (gI b 1110 0 = nI (L 0).length ∧ gI b 1113 0 = nI (L 1).length ∧ gI b 1117 0 = nI (L 2).length ∧ gI b 1119 0 = nI (L 3).length) ∧ (∀ (l : Nat) (n : Ln), G[l]? = some n → KB b (L 0).length (L 1).length K l n ∧ (isJ n.1 = true → gA b 103 l = τ l) ∧ (n.1 = 526 → gA b 100 l = n.2.1)) ∧ (∀ d, d < (L 3).length → gA b 96 d = nI (pm d) ∧ gA b 97 d = nI (en d)) ∧ (∀ r, r < (L 0).length → gA b 90 r = nI (un r)) ∧ ∀ s, s < (L 1).length → gA b 92 s = nI (un (8 + s)) ∧ gA b 93 s = nI (rm (8 + s))
def PRV (L : Nat → List Int64) (pm en vc un rm : Nat → Nat) (G : List Ln) (τ : Nat → Int32) : Prop := RT G τ ∧ (∀ d, d < (L 3).length → DFn G (pm d) (vc d) (en d)) ∧ (∀ (l : Nat) (n : Ln), G[l]? = some n → n.1 ≠ 3 → l + 1 < G.length) ∧ UR L un rm ∧ ∀ (l : Nat) (n : Ln), G[l]? = some n → n.1 = 526 → ∃ d, n.2.1 = nI d ∧ d < (L 3).length ∧ pm d + 1 = n.2.2.1.length
def PR (a b : ts) : Prop := ∃ L pm en vc un rm G τ K K', PRA a L pm en vc un rm G τ K ∧ PRB b L pm en un rm G τ K' ∧ PRV L pm en vc un rm G τ
def rsv (L : Nat → List Int64) (n : Ln) : Ln := if n.1 = 526 then (526, oi (-2) (ix (L 3) n.2.2.2.1), n.2.2.1, n.2.2.2.1, n.2.2.2.2) else n
theorem rsv_1 (L : Nat → List Int64) (n : Ln) : (rsv L n).1 = n.1 := by
  unfold rsv
  by_cases h : n.1 = 526
  · rw [if_pos h, h]
  · rw [if_neg h]
theorem rsv_e (L : Nat → List Int64) (n : Ln) : (rsv L n).2.2 = n.2.2 := by
  unfold rsv
  by_cases h : n.1 = 526
  · rw [if_pos h]
  · rw [if_neg h]
theorem rsv_at {L : Nat → List Int64} {G : List Ln} {l : Nat} {m : Ln} (h : (G.map (rsv L))[l]? = some m) : ∃ n, G[l]? = some n ∧ m = rsv L n := by
  rw [List.getElem?_map] at h
  cases hg : G[l]? with
  | none => rw [hg] at h; cases h
  | some n => rw [hg] at h; exact ⟨n, rfl, (Option.some.inj h).symm⟩
theorem rsv_to {L : Nat → List Int64} {G : List Ln} {l : Nat} {n : Ln} (h : G[l]? = some n) : (G.map (rsv L))[l]? = some (rsv L n) := by
  rw [List.getElem?_map, h]; rfl
theorem mv_rsv (L : Nat → List Int64) : ∀ (H : List Ln) (p : Nat), mv p (H.map (rsv L)) = mv p H := by
  intro H
  induction H with
  | nil => intro p; rfl
  | cons n r ih =>
    intro p
    have e : ∀ m : Ln, mv p (m :: r) = mv (if m.1 = 1 ∧ m.2.1 < 8 then max p (m.2.1.toNatClampNeg + 1) else p) r := fun _ => rfl
    have e' : mv p ((n :: r).map (rsv L)) = mv (if (rsv L n).1 = 1 ∧ (rsv L n).2.1 < 8 then max p ((rsv L n).2.1.toNatClampNeg + 1) else p) (r.map (rsv L)) := rfl
    rw [e', e, ih]
    congr 1
    unfold rsv
    by_cases h : n.1 = 526
    · rw [if_pos h, if_neg (fun z => absurd (show (526 : Nat) = 1 from z.1) (by decide)), if_neg (fun z => by rw [h] at z; exact absurd z.1 (by decide))]
    · rw [if_neg h]
theorem clr27 : ∀ (f i F : Nat) (s : ts), i + f = 14 → f < F → ∃ s1, cG_clear_27 F (nI i) s = some s1 ∧ fr [214, 217, 2017, 2018] s s1 ∧ gI s1 214 0 = nI 0 ∧ gI s1 217 0 = nI 0 ∧ (∀ p, i ≤ p → p < 14 → gA s1 17 p = nI 0 ∧ gA s1 18 p = nI 0) ∧ ∀ p, p < i → gA s1 17 p = gA s 17 p ∧ gA s1 18 p = gA s 18 p := by
  intro f
  induction f with
  | zero =>
    intro i F s h1 h2
    have hF0 : ∃ F0, F = F0 + 1 := ⟨F - 1, by omega⟩
    obtain ⟨F0, hF0⟩ := hF0
    refine ⟨wI (wI s 214 0 0) 217 0 0, ?_, fr_wI (fr_wI fr_rf rfl) rfl, by simp (disch := first | assumption | omega) only [sx, if_pos, if_neg, bnd, Nat.reduceEqDiff, Nat.reduceAdd, Nat.reduceMul, Nat.reduceSub, and_true, true_and, and_false, false_and, or_true, true_or, or_false, false_or, if_true, if_false, eq_self, not_true, not_false_eq_true], by simp (disch := first | assumption | omega) only [sx, if_pos, if_neg, bnd, Nat.reduceEqDiff, Nat.reduceAdd, Nat.reduceMul, Nat.reduceSub, and_true, true_and, and_false, false_and, or_true, true_or, or_false, false_or, if_true, if_false, eq_self, not_true, not_false_eq_true], fun p h3 h4 => by omega, fun p hp => ⟨rfl, rfl⟩⟩
    rw [hF0, cG_clear_27.eq_2]
    unfold cG_clear_27_b
    rw [if_pos (show (14 : Int32) ≤ nI i from nI_le (a := 14) (by omega) (by omega))]
  | succ f ih =>
    intro i F s h1 h2
    have hF0 : ∃ F0, F = F0 + 1 := ⟨F - 1, by omega⟩
    obtain ⟨F0, hF0⟩ := hF0
    obtain ⟨s1, y1, y2, y3, y4, y5, y6⟩ := ih (i + 1) F0 (wA (wA s 17 i 0) 18 i 0) (by omega) (by omega)
    refine ⟨s1, ?_, fr_tr (fr_wA (fr_wA fr_rf rfl) rfl) y2, y3, y4, fun p h3 h4 => ?_, fun p hp => ?_⟩
    · rw [hF0, cG_clear_27.eq_2]
      unfold cG_clear_27_b
      rw [if_neg (show ¬ (14 : Int32) ≤ nI i from nI_ge (b := 14) (by omega) (by decide)), if_pos (nI_idx (by omega) (by decide)), nI_clamp (by omega), show nI i + (1 : Int32) = nI (i + 1) from nI_add i 1]
      exact y1
    · by_cases e : p = i
      · have := y6 p (by omega)
        rw [this.1, this.2, e]
        exact ⟨by simp (disch := first | assumption | omega) only [sx, if_pos, if_neg, bnd, Nat.reduceEqDiff, Nat.reduceAdd, Nat.reduceMul, Nat.reduceSub, and_true, true_and, and_false, false_and, or_true, true_or, or_false, false_or, if_true, if_false, eq_self, not_true, not_false_eq_true], by simp (disch := first | assumption | omega) only [sx, if_pos, if_neg, bnd, Nat.reduceEqDiff, Nat.reduceAdd, Nat.reduceMul, Nat.reduceSub, and_true, true_and, and_false, false_and, or_true, true_or, or_false, false_or, if_true, if_false, eq_self, not_true, not_false_eq_true]⟩
      · exact y5 p (by omega) h4
    · have := y6 p (by omega)
      rw [this.1, this.2]
      exact ⟨by simp (disch := first | assumption | omega) only [sx, if_pos, if_neg, bnd, Nat.reduceEqDiff, Nat.reduceAdd, Nat.reduceMul, Nat.reduceSub, and_true, true_and, and_false, false_and, or_true, true_or, or_false, false_or, if_true, if_false, eq_self, not_true, not_false_eq_true], by simp (disch := first | assumption | omega) only [sx, if_pos, if_neg, bnd, Nat.reduceEqDiff, Nat.reduceAdd, Nat.reduceMul, Nat.reduceSub, and_true, true_and, and_false, false_and, or_true, true_or, or_false, false_or, if_true, if_false, eq_self, not_true, not_false_eq_true]⟩
theorem clr7 : ∀ (f i F : Nat) (s : ts), i + f = 5 → f < F → ∃ s1, cG_clear_7 F (nI i) s = cG_clear_27 tm_N 0 s1 ∧ fr [2016] s s1 ∧ (∀ p, i ≤ p → p < 5 → gA s1 16 p = nI 0) ∧ ∀ p, p < i → gA s1 16 p = gA s 16 p := by
  intro f
  induction f with
  | zero =>
    intro i F s h1 h2
    have hF0 : ∃ F0, F = F0 + 1 := ⟨F - 1, by omega⟩
    obtain ⟨F0, hF0⟩ := hF0
    refine ⟨s, ?_, fr_rf, fun p h3 h4 => by omega, fun p hp => rfl⟩
    rw [hF0, cG_clear_7.eq_2]
    unfold cG_clear_7_b
    rw [if_pos (show (5 : Int32) ≤ nI i from nI_le (a := 5) (by omega) (by omega))]
  | succ f ih =>
    intro i F s h1 h2
    have hF0 : ∃ F0, F = F0 + 1 := ⟨F - 1, by omega⟩
    obtain ⟨F0, hF0⟩ := hF0
    obtain ⟨s1, y1, y2, y5, y6⟩ := ih (i + 1) F0 (wA s 16 i 0) (by omega) (by omega)
    refine ⟨s1, ?_, fr_tr (fr_wA fr_rf rfl) y2, fun p h3 h4 => ?_, fun p hp => ?_⟩
    · rw [hF0, cG_clear_7.eq_2]
      unfold cG_clear_7_b
      rw [if_neg (show ¬ (5 : Int32) ≤ nI i from nI_ge (b := 5) (by omega) (by decide)), if_pos (nI_idx (by omega) (by decide)), nI_clamp (by omega), show nI i + (1 : Int32) = nI (i + 1) from nI_add i 1]
      exact y1
    · by_cases e : p = i
      · rw [y6 p (by omega), e]; simp (disch := first | assumption | omega) only [sx, if_pos, if_neg, bnd, Nat.reduceEqDiff, Nat.reduceAdd, Nat.reduceMul, Nat.reduceSub, and_true, true_and, and_false, false_and, or_true, true_or, or_false, false_or, if_true, if_false, eq_self, not_true, not_false_eq_true]
      · exact y5 p (by omega) h4
    · rw [y6 p (by omega)]; simp (disch := first | assumption | omega) only [sx, if_pos, if_neg, bnd, Nat.reduceEqDiff, Nat.reduceAdd, Nat.reduceMul, Nat.reduceSub, and_true, true_and, and_false, false_and, or_true, true_or, or_false, false_or, if_true, if_false, eq_self, not_true, not_false_eq_true]
theorem clearG_ok (s : ts) : ∃ s1, cG_clear s = some s1 ∧ fr wf_cG_clear s s1 ∧ gI s1 203 0 = nI 0 ∧ gI s1 214 0 = nI 0 ∧ gI s1 217 0 = nI 0 ∧ (∀ q, q < 5 → gA s1 16 q = nI 0) ∧ ∀ p, p < 14 → gA s1 17 p = nI 0 ∧ gA s1 18 p = nI 0 := by
  obtain ⟨s1, y1, y2, y3, -⟩ := clr7 5 0 tm_N (wI s 203 0 0) (by omega) (by unfold tm_N; omega)
  obtain ⟨s2, z1, z2, z3, z4, z5, -⟩ := clr27 14 0 tm_N s1 (by omega) (by unfold tm_N; omega)
  have y1 : cG_clear_7 tm_N 0 (wI s 203 0 0) = cG_clear_27 tm_N 0 s1 := y1
  have z1 : cG_clear_27 tm_N 0 s1 = some s2 := z1
  refine ⟨s2, ?_, fr_tr (fr_wI fr_rf (by decide +kernel)) (fr_tr (fr_mono (by decide +kernel) y2) (fr_mono (by decide +kernel) z2)), ?_, z3, z4, fun q hq => ?_, fun p hp => z5 p (by omega) hp⟩
  · unfold cG_clear
    rw [y1, z1]
  · rw [z2.1 203 rfl, y2.1 203 rfl, gI_wIs]; rfl
  · rw [z2.2.1 16 rfl]; exact y3 q (by omega) hq
/-- the program behind a text that was read to its end -/
theorem PR_of {x : Cx} (hx : x.Ok) {L : Nat → List Int64} {T : List (Nat × Nat)} {pm en vc un rm : Nat → Nat} {G : List Ln} {τ : Nat → Int32} {a0 b0 a1 b1 : ts} {c q K K' : Nat} (hA : IXA x L T pm en vc un rm G τ a0 c q K) (hB : IXB x L pm en un rm G τ b0 c q K') (hP : IXP L pm en vc un rm G τ) (fa : fr [2023] a0 a1) (ha : ∀ (k : Nat) (n : Ln), G[k]? = some n → gA a1 23 k = if n.1 = 526 then oi (-2) (ix (L 3) n.2.2.2.1) else gA a0 23 k) (fb : fr [2100] b0 b1) (hb : ∀ (k : Nat) (n : Ln), G[k]? = some n → gA b1 100 k = if n.1 = 526 then oi (-1) (ix (L 3) n.2.2.2.1) else gA b0 100 k) (hv : ∀ (k : Nat) (n : Ln), G[k]? = some n → n.1 = 526 → ∃ d, ix (L 3) n.2.2.2.1 = some d ∧ pm d + 1 = n.2.2.1.length) : PR a1 b1 := by
  have hG := IXA_G hA
  have hpn := hx.pn c
  have hn4 := hx.n
  have hK := hA.2.2.2.2.2.2.2
  have hK' := hB.2.2.2.2.2.2
  obtain ⟨hd, h4, hL5, hRT, hDF, hlast, hUR⟩ := hP
  have hlen : (G.map (rsv L)).length = G.length := List.length_map ..
  refine ⟨L, pm, en, vc, un, rm, G.map (rsv L), τ, K, K', ⟨⟨?_, by rw [hlen]; exact hG, by omega⟩, fun q hq => ⟨(fa.2.1 16 rfl q).trans (hA.1.2.1.c q (by omega)), hA.1.2.1.m q (by omega)⟩, fun l m hl => ?_, fun d hd2 => ?_, fun p hp => ?_⟩, ⟨⟨?_, by omega⟩, ⟨(fb.1 1110 rfl 0).trans hB.1.2.r.1, (fb.1 1113 rfl 0).trans hB.1.2.s.1, (fb.1 1117 rfl 0).trans hB.1.2.n.1, (fb.1 1119 rfl 0).trans hB.1.2.d.1⟩, fun l m hl => ?_, fun d hd2 => ?_, fun r hr => ?_, fun s hs => ?_⟩, ⟨fun l m hl hj => ?_, fun d hd2 => ?_, fun l m hl h3 => ?_, hUR, fun l m hl h5 => ?_⟩⟩
  · rw [hlen, fa.1 214 rfl]; exact hA.2.1.1
  · obtain ⟨n, h1, h2⟩ := rsv_at hl
    have hLn := (hA.2.2.2.1 l n h1).1
    rw [h2]
    obtain ⟨e1, e2, f, e3, e4, e5, e6⟩ := hLn
    refine ⟨?_, ?_, f, ?_, ?_, ?_, ?_⟩
    · rw [rsv_1, fa.2.1 22 rfl]; exact e1
    · rw [ha l n h1, rsv_1]
      by_cases h5 : n.1 = 526
      · rw [if_pos h5, if_neg (by rw [h5]; decide)]
        unfold rsv; rw [if_pos h5]
      · rw [if_neg h5, e2]
        unfold rsv; rw [if_neg h5]
    · rw [fa.2.1 24 rfl]; exact e3
    · rw [rsv_e, fa.2.1 25 rfl]; exact e4
    · rw [rsv_e]; exact e5
    · rw [rsv_e]; intro j o hj
      rw [fa.2.1 26 rfl, fa.2.1 27 rfl]; exact e6 j o hj
  · rw [fa.2.1 19 rfl, fa.2.1 20 rfl, fa.2.1 21 rfl]; exact hA.2.2.2.2.2.1 d hd2
  · rw [fa.2.1 17 rfl, fa.2.1 18 rfl]; exact hA.2.2.2.2.2.2.1 p hp
  · rw [hlen, fb.1 1125 rfl]; exact hB.2.1.1
  · obtain ⟨n, h1, h2⟩ := rsv_at hl
    obtain ⟨k1, k2⟩ := hB.2.2.1 l n h1
    rw [h2]
    refine ⟨?_, fun hj => ?_, fun h5 => ?_⟩
    · by_cases h5 : n.1 = 526
      · rcases k1 with h | h | h | h | h | h | h | h | h
        · omega
        · omega
        · omega
        · omega
        · omega
        · omega
        · omega
        · obtain ⟨g1, g2, g3, g4, A, Pr, g5, g6, g7, g8, g9, g10⟩ := h
          refine Or.inr (Or.inr (Or.inr (Or.inr (Or.inr (Or.inr (Or.inr (Or.inl ⟨?_, ?_, ?_, ?_, A, Pr, ?_, g6, g7, ?_, ?_, ?_⟩)))))))
          · rw [rsv_1]; exact g1
          · rw [fb.2.1 99 rfl]; exact g2
          · rw [rsv_e, fb.2.2.1 106 rfl]; exact g3
          · rw [rsv_e, fb.2.1 107 rfl]; exact g4
          · rw [rsv_e]; exact g5
          · rw [fb.2.1 105 rfl]; exact g8
          · rw [fb.2.1 101 rfl]; exact XZ_mono g9 (fun j _ => ⟨fb.2.1 110 rfl j, fb.2.1 111 rfl j⟩) (Nat.le_refl _)
          · intro i F hi hAi
            rw [fb.2.1 104 rfl]; exact XB_mono (g10 i F hi hAi) (fun j _ => ⟨fb.2.1 110 rfl j, fb.2.1 111 rfl j⟩) (Nat.le_refl _)
        · omega
      · have e : rsv L n = n := by unfold rsv; rw [if_neg h5]
        rw [e]
        refine KB_mono k1 ⟨fb.2.1 99 rfl l, ?_, fb.2.1 101 rfl l, fb.2.1 105 rfl l, fb.2.1 107 rfl l, fb.2.2.1 106 rfl l, fun i _ => fb.2.1 104 rfl _⟩ (fun j _ => ⟨fb.2.1 110 rfl j, fb.2.1 111 rfl j⟩) (Nat.le_refl _) (Nat.le_refl _) (Nat.le_refl _)
        rw [hb l n h1, if_neg h5]
    · rw [rsv_1] at hj
      rw [fb.2.1 103 rfl]
      refine k2 hj ?_
      obtain ⟨t, t1, t2, -⟩ := hRT l n h1 hj
      rw [t1]; exact nI_no2 (by omega)
    · rw [rsv_1] at h5
      obtain ⟨d, d1, d2⟩ := hv l n h1 h5
      rw [hb l n h1, if_pos h5, d1]
      unfold rsv
      rw [if_pos h5, d1]; rfl
  · rw [fb.2.1 96 rfl, fb.2.1 97 rfl]; exact hB.2.2.2.1 d hd2
  · rw [fb.2.1 90 rfl]; exact hB.2.2.2.2.1 r hr
  · rw [fb.2.1 92 rfl, fb.2.1 93 rfl]; exact hB.2.2.2.2.2.1 s hs
  · obtain ⟨n, h1, h2⟩ := rsv_at hl
    rw [h2, rsv_1] at hj
    obtain ⟨t, t1, t2, t3⟩ := hRT l n h1 hj
    refine ⟨t, t1, by rw [hlen]; exact t2, ?_⟩
    rcases t3 with t3 | ⟨t3, t4, m', t5, t6⟩
    · exact Or.inl t3
    · exact Or.inr ⟨by rw [h2, rsv_1]; exact t3, t4, rsv L m', rsv_to t5, by rw [rsv_1]; exact t6⟩
  · obtain ⟨H, g1, g2, ⟨n, g3, g4⟩, g5⟩ := hDF d hd2
    refine ⟨H.map (rsv L), fun n hn => ?_, fun i n hi => ?_, ⟨rsv L n, ?_, by rw [rsv_1]; exact g4⟩, by rw [mv_rsv]; exact g5⟩
    · obtain ⟨m, m1, m2⟩ := List.mem_map.mp hn
      rw [← m2, rsv_1]; exact g1 m m1
    · obtain ⟨m, m1, m2⟩ := rsv_at hi
      rw [m2]; exact rsv_to (g2 i m m1)
    · rw [List.length_map]; exact rsv_to g3
  · obtain ⟨n, h1, h2⟩ := rsv_at hl
    rw [h2, rsv_1] at h3
    rw [hlen]; exact hlast l n h1 h3
  · obtain ⟨n, h1, h2⟩ := rsv_at hl
    rw [h2, rsv_1] at h5
    obtain ⟨d, d1, d2⟩ := hv l n h1 h5
    refine ⟨d, ?_, (ix_some d1).2, ?_⟩
    · rw [h2]; unfold rsv; rw [if_pos h5, d1]; rfl
    · rw [h2, rsv_e]; exact d2
