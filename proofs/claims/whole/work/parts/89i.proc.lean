/-! Processes. -/
theorem bad97 {b : ts} {F d : Nat} {t : Int32} (h : ¬ gI b 1103 0 = 0) : cR_takeProcess_97 (F + 1) (nI d) t b = cR_takeProcess_150 (nI d) b := by
  rw [cR_takeProcess_97.eq_2]
  unfold cR_takeProcess_97_b
  rw [good_f h, Option.bind_some]
  dsimp only
  rw [if_pos (show (0 : Int32) = 0 from rfl)]
  split <;> rfl
theorem bad138 {b : ts} {F d : Nat} {t : Int32} (h : ¬ gI b 1103 0 = 0) : cR_takeProcess_138 (cR_takeProcess_97 (F + 1)) (nI d) t b = cR_takeProcess_150 (nI d) b := by
  unfold cR_takeProcess_138
  rw [next_bad h, Option.bind_some, bad97 h]
  split <;> rfl
theorem params_lp {x : Cx} (hx : x.Ok) {d : Nat} : ∀ (dd F F' : Nat) (a b : ts) (c i : Nat) (L : Nat → List Int64) (T : List (Nat × Nat)), x.m + 1 - c ≤ dd → dd < F → dd < F' → i ≤ c → SA x a c → SB x b c → NA a L T → NB b L → ND L → (∀ k, 5 ≤ k → L k = []) → ∃ r a1 b1, cD_readWords_2 F 4 8 (nI i) a = some (r, a1) ∧ cR_takeProcess_97 (F' + 1) (nI d) 1 b = cR_takeProcess_150 (nI d) b1 ∧ fr wf_cD_tell a a1 ∧ fr (1123 :: 3098 :: wf_cR_next) b b1 ∧ ((r = 0 ∧ FL a1 b1) ∨ (r = 1 ∧ ∃ c1 N, c < c1 ∧ x.ps c ≤ x.ps c1 ∧ SA x a1 c1 ∧ SB x b1 c1 ∧ NA a1 (Lv L N) T ∧ NB b1 (Lv L N) ∧ ND (Lv L N))) := by
  intro dd
  induction dd with
  | zero =>
    intro F F' a b c i L T h1 h2 h3 h4 ha
    exact absurd ha.l (by omega)
  | succ dd ih =>
    intro F F' a b c i L T h1 h2 h3 h4 ha hb hna hnb hd hL5
    have hcl := ha.l
    have hmn := hx.m
    have hn4 := hx.n
    have hm4 : (L 4).length ≤ 8 := hna.m 4 (by omega)
    have hF0 : ∃ F0, F = F0 + 1 := ⟨F - 1, by omega⟩
    obtain ⟨F0, hF0⟩ := hF0
    have hF1 : ∃ F1, F' = F1 + 1 := ⟨F' - 1, by omega⟩
    obtain ⟨F1, hF1⟩ := hF1
    obtain ⟨r, a2, b0, b2, t1, t2, t3, t4, t5, t6, t7⟩ := tell_sx hx (q := 4) ha hb hna hnb.nq (by omega) (fun z => by omega)
    have t1 : cD_tell 4 8 a = some (r, a2) := t1
    have t2 : cR_freshName 1 b = some b0 := t2
    have t3 : cR_limit (bI (Nat.blt (L 4).length 8)) b0 = some b2 := t3
    have e2 : cD_readWords_2 F 4 8 (nI i) a = (if r = ((0 : Int32)) then some ((0 : Int32), a2) else (if (gI a2 107 0) = ((44 : Int32)) then (cT_advance a2).bind (fun s5 => cD_readWords_2 F0 4 8 (nI (i + 1)) s5) else some ((1 : Int32), a2))) := by
      rw [hF0, cD_readWords_2.eq_2]
      unfold cD_readWords_2_b
      rw [if_neg (show ¬ (4001 : Int32) ≤ nI i from nI_ge (b := 4001) (by omega) (by decide)), t1, Option.bind_some, show nI i + (1 : Int32) = nI (i + 1) from nI_add i 1]
    rw [e2]
    by_cases hk1 : x.kd c = 1
    · rcases t7 with ⟨z1, z2⟩ | ⟨z1, z2, z3, z4, z5, z6, z7, z8, z9⟩
      · have hbad := hb.nb hk1
        have e0 : b0 = b := Option.some.inj (t2.symm.trans (fresh_bad hbad))
        have e3 : b2 = b0 := by rw [e0] at t3 ⊢; exact Option.some.inj (t3.symm.trans (limit_bad hbad))
        refine ⟨0, a2, b, by rw [if_pos z1], bad97 hbad, t4, fr_rf, Or.inl ⟨rfl, ?_⟩⟩
        rw [← e0, ← e3]; exact z2
      · omega
    have hg := hb.g hk1
    have hloc : cR_takeLocal b = some b2 := by
      unfold cR_takeLocal cR_takeLocal_20
      rw [t2, Option.bind_some, (t5.1 1123 rfl 0).trans hnb.v.1]
      simp only [bind_eta1]
      rw [show (8 : Int32) = nI 8 from rfl, limit_if (b := b0) (t := fun z => cR_limit z b0) (by omega) (by omega)]
      exact t3
    have e6 : cR_takeProcess_97 (F' + 1) (nI d) 1 b = (cR_addLocal (gJ b2 1108 0) b2).bind (fun s8 => (cR_next s8).bind (fun s11 => (if (gI s11 1106 0) = ((44 : Int32)) then cR_takeProcess_138 (cR_takeProcess_97 F') (nI d) ((1 : Int32)) s11 else cR_takeProcess_138 (cR_takeProcess_97 F') (nI d) ((0 : Int32)) s11))) := by
      rw [cR_takeProcess_97.eq_2]
      unfold cR_takeProcess_97_b
      rw [if_neg (show ¬ (1 : Int32) = 0 by decide), good_t hg, Option.bind_some]
      dsimp only
      rw [if_neg (show ¬ (1 : Int32) = 0 by decide), hloc, Option.bind_some]
    rw [e6]
    rcases t7 with ⟨z1, z2⟩ | ⟨z1, z2, z3, z4, z5, z6, z7, z8, z9⟩
    · refine ⟨0, a2, b2, by rw [if_pos z1], ?_, t4, fr_mono (by decide +kernel) (fr_tr t5 t6), Or.inl ⟨rfl, z2⟩⟩
      rw [addLocal_bad z2.2.2, Option.bind_some, next_bad z2.2.2, Option.bind_some, hF1, bad138 z2.2.2, bad138 z2.2.2]
      split <;> rfl
    · subst z3
      have z7 : (L 4).length < 8 := z7
      have z9 : NA a2 (Lv L [x.vl c]) T := z9
      have hwd : gJ b2 1108 0 = x.vl c := (hb.nx.2 hk1).2.2.2.2.1 (Or.inl z4)
      have h23 : gI b2 1123 0 = nI (L 4).length := hnb.v.1
      have hp := hx.p1 (c := c) (by omega)
      have fst : fr [1123, 3098] b2 (wI (wB b2 98 (L 4).length (x.vl c)) 1123 0 (nI ((L 4).length + 1))) := fr_wI (fr_wB fr_rf rfl) rfl
      have e7 : cR_addLocal (gJ b2 1108 0) b2 = some (wI (wB b2 98 (L 4).length (x.vl c)) 1123 0 (nI ((L 4).length + 1))) := by
        unfold cR_addLocal
        rw [good_t hg, Option.bind_some, hwd]
        dsimp only
        rw [if_neg (by decide)]
        simp (disch := first | assumption | omega) only [sx, if_pos, if_neg, bnd, Nat.reduceEqDiff, Nat.reduceAdd, Nat.reduceMul, Nat.reduceSub, and_true, true_and, and_false, false_and, or_true, true_or, or_false, false_or, if_true, if_false, eq_self, not_true, not_false_eq_true, h23]
      rw [e7, Option.bind_some]
      have hsb3 := SB_fr fst rfl rfl hb
      have hnb3 : NB (wI (wB b2 98 (L 4).length (x.vl c)) 1123 0 (nI ((L 4).length + 1))) (Lv L [x.vl c]) := by
        refine ⟨nb_fr fst rfl rfl hnb.r, nb_fr fst rfl rfl hnb.s, nb_fr fst rfl rfl hnb.n, nb_fr fst rfl rfl hnb.d, ?_⟩
        show nb _ 1123 98 (L 4 ++ [x.vl c])
        refine nb_snoc hnb.v gI_wIs ?_ ?_
        · intro k hk; simp (disch := first | assumption | omega) only [sx, if_pos, if_neg, bnd, Nat.reduceEqDiff, Nat.reduceAdd, Nat.reduceMul, Nat.reduceSub, and_true, true_and, and_false, false_and, or_true, true_or, or_false, false_or, if_true, if_false, eq_self, not_true, not_false_eq_true]
        · simp (disch := first | assumption | omega) only [sx, if_pos, if_neg, bnd, Nat.reduceEqDiff, Nat.reduceAdd, Nat.reduceMul, Nat.reduceSub, and_true, true_and, and_false, false_and, or_true, true_or, or_false, false_or, if_true, if_false, eq_self, not_true, not_false_eq_true]
      generalize wI (wB b2 98 (L 4).length (x.vl c)) 1123 0 (nI ((L 4).length + 1)) = b3 at fst hsb3 hnb3
      obtain ⟨b4, n1, n2, n3⟩ := nxt_ok hx hsb3 (by omega)
      have hnb4 : NB b4 (Lv L [x.vl c]) := NB_fr n3 rfl hnb3
      have hlt1 := hx.lt (c + 1)
      have hnd : ND (Lv L [x.vl c]) := ND_add hd (q := 4) (by omega) (fun z => by omega) hL5 z6
      have hki : gI a2 107 0 = (44 : Int32) ↔ x.kd (c + 1) = 44 := by
        rw [z8.ki]; exact ⟨fun z => nI_inj (a := x.kd (c + 1)) (b := 44) (by omega) (by decide) z, fun z => by rw [z]; rfl⟩
      have fb4 : fr (1123 :: 3098 :: wf_cR_next) b2 b4 := fr_tr (fr_mono (by decide +kernel) fst) (fr_mono (by decide +kernel) n3)
      rw [if_neg (by rw [z1]; decide), n1, Option.bind_some]
      by_cases hk2 : x.kd (c + 1) = 1
      · have hbad := n2.nb hk2
        refine ⟨1, a2, b4, by rw [if_neg (fun z => by have := hki.mp z; omega)], ?_, t4, fb4, Or.inr ⟨rfl, c + 1, [x.vl c], by omega, by omega, z8, n2, z9, hnb4, hnd⟩⟩
        rw [hF1, bad138 hbad, bad138 hbad]
        split <;> rfl
      · have s44 : gI b4 1106 0 = (44 : Int32) ↔ x.kd (c + 1) = 44 := sg_eq hx n2 hk2 (q := 44) (by omega)
        by_cases h44 : x.kd (c + 1) = 44
        · have hcm1 := hx.lm z8.l (show 2 ≤ x.kd (c + 1) by omega)
          have hp1 := hx.p1 (c := c + 1) (by omega)
          obtain ⟨v1, v2⟩ := adv_ok hx z8 hcm1
          obtain ⟨b5, m1, m2, m3⟩ := nxt_ok hx n2 (by omega)
          rw [if_pos (hki.mpr h44), v1, Option.bind_some, if_pos (s44.mpr h44)]
          unfold cR_takeProcess_138
          rw [if_neg (show ¬ (1 : Int32) = 0 by decide), m1, Option.bind_some, hF1]
          have hl5 : ∀ k, 5 ≤ k → Lv L [x.vl c] k = [] := fun k hk => (if_neg (show ¬ k = 4 by omega)).trans (hL5 k hk)
          obtain ⟨r5, a6, b6, q1, q2, q3, q4, q5⟩ := ih F0 F1 (av x a2 (c + 1 + 1)) b5 (c + 1 + 1) (i + 1) (Lv L [x.vl c]) T (by omega) (by omega) (by omega) (by omega) v2 m2 (NA_fr (W := [106, 107]) fr_av rfl z9) (NB_fr m3 rfl hnb4) hnd hl5
          refine ⟨r5, a6, b6, q1, q2, fr_tr t4 (fr_tr (fr_mono (V := [106, 107]) (by decide +kernel) fr_av) q3), fr_tr fb4 (fr_tr (fr_mono (by decide +kernel) m3) q4), ?_⟩
          rcases q5 with q5 | ⟨g1, c1, N, g2, g3, g4, g5, g6, g7, g8⟩
          · exact Or.inl q5
          · rw [Lv_app] at g6 g7 g8
            exact Or.inr ⟨g1, c1, [x.vl c] ++ N, by omega, by omega, g4, g5, g6, g7, g8⟩
        · rw [if_neg (fun z => h44 (hki.mp z)), if_neg (fun z => h44 (s44.mp z))]
          refine ⟨1, a2, b4, rfl, ?_, t4, fb4, Or.inr ⟨rfl, c + 1, [x.vl c], by omega, by omega, z8, n2, z9, hnb4, hnd⟩⟩
          unfold cR_takeProcess_138
          rw [if_pos rfl, hF1, cR_takeProcess_97.eq_2]
          unfold cR_takeProcess_97_b
          rw [if_pos rfl]
theorem bad187 {b : ts} {F : Nat} (h : ¬ gI b 1103 0 = 0) (hl : LB b) : ∃ b1, cR_takeProcess_187 (F + 1) b = some b1 ∧ Flt b b1 ∧ LB7 b1 := by
  obtain ⟨l, l1, l2⟩ := hl
  have hr := line_run (w := (27 : Int32)) l2 (by omega)
  refine ⟨wA (wA (wA (wA (wI b 1125 0 (nI (l + 1))) 99 l 27) 101 l (-1)) 102 l (-1)) 105 l (nI 0), ?_, ⟨rfl, rfl⟩, ⟨l + 1, by omega, by simp (disch := first | assumption | omega) only [sx, if_pos, if_neg, bnd, Nat.reduceEqDiff, Nat.reduceAdd, Nat.reduceMul, Nat.reduceSub, and_true, true_and, and_false, false_and, or_true, true_or, or_false, false_or, if_true, if_false, eq_self, not_true, not_false_eq_true]⟩⟩
  rw [cR_takeProcess_187.eq_2]
  unfold cR_takeProcess_187_b
  rw [good_f h, Option.bind_some]
  dsimp only
  rw [if_pos rfl]
  unfold cR_takeProcess_224
  rw [hr]; rfl
theorem bad150 {b : ts} {d : Nat} (hd : d < 12) (h : ¬ gI b 1103 0 = 0) (hl : LB b) : ∃ b1, cR_takeProcess_150 (nI d) b = some b1 ∧ Flt b b1 ∧ LB7 b1 := by
  have hf : fr [1138, 2096, 2097] b (wI (wA (wA b 96 d (gI b 1123 0)) 97 d (gI b 1125 0)) 1138 0 0) := fr_wI (fr_wA (fr_wA fr_rf rfl) rfl) rfl
  have hb1 : ¬ gI (wA b 96 d (gI b 1123 0)) 1103 0 = 0 := h
  have hb2 : ¬ gI (wI (wA (wA b 96 d (gI b 1123 0)) 97 d (gI b 1125 0)) 1138 0 0) 1103 0 = 0 := h
  obtain ⟨b1, y1, y2, y3⟩ := bad187 (F := 999999999) hb2 (LB_fr hl hf rfl)
  refine ⟨b1, ?_, Flt_tr (Flt_fr hf rfl) y2, y3⟩
  unfold cR_takeProcess_150
  rw [if_pos (nI_idx hd (by decide)), nI_clamp (by omega), must_bad hb1, Option.bind_some, show gI (wA b 96 d (gI b 1123 0)) 1125 0 = gI b 1125 0 from rfl, beginBlock_bad hb2, Option.bind_some]
  exact y1
def fL : Ln := (3, -2, [], 0, 0)
theorem addAct_ln {a : ts} {G : List Ln} {τ : Nat → Int32} {K f : Nat} {n : Ln} {t : Int32} (h : ∀ l m, G[l]? = some m → LnA a τ K l m) (ht : isJ n.1 = false → t = n.2.1) (hf : f + n.2.2.1.flatten.length = K) (ho : OpA a f n.2.2.1.flatten) : ∀ l m, (G ++ [n])[l]? = some m → LnA (wI (wA (wA (wA (wA a 22 G.length (nI n.1)) 23 G.length t) 24 G.length (nI f)) 25 G.length (nI K)) 214 0 (nI (G.length + 1))) (fun k => if k = G.length then t else τ k) K l m := by
  have hfr : fr [214, 2022, 2023, 2024, 2025] a (wI (wA (wA (wA (wA a 22 G.length (nI n.1)) 23 G.length t) 24 G.length (nI f)) 25 G.length (nI K)) 214 0 (nI (G.length + 1))) := fr_wI (fr_wA (fr_wA (fr_wA (fr_wA fr_rf rfl) rfl) rfl) rfl) rfl
  generalize ha1 : wI (wA (wA (wA (wA a 22 G.length (nI n.1)) 23 G.length t) 24 G.length (nI f)) 25 G.length (nI K)) 214 0 (nI (G.length + 1)) = a1 at hfr ⊢
  intro l m hl
  rcases getE_snoc hl with ⟨z1, z2⟩ | ⟨z1, z2⟩
  · refine LnA_mono (h l m z2) ?_ ?_ ?_ ?_ (Nat.le_refl _) (fun j _ => ⟨hfr.2.1 26 rfl j, hfr.2.1 27 rfl j⟩)
    · rw [← ha1]; simp (disch := first | assumption | omega) only [sx, if_pos, if_neg, bnd, Nat.reduceEqDiff, Nat.reduceAdd, Nat.reduceMul, Nat.reduceSub, and_true, true_and, and_false, false_and, or_true, true_or, or_false, false_or, if_true, if_false, eq_self, not_true, not_false_eq_true]
    · have e1 : gA a1 23 l = gA a 23 l := by rw [← ha1]; simp (disch := first | assumption | omega) only [sx, if_pos, if_neg, bnd, Nat.reduceEqDiff, Nat.reduceAdd, Nat.reduceMul, Nat.reduceSub, and_true, true_and, and_false, false_and, or_true, true_or, or_false, false_or, if_true, if_false, eq_self, not_true, not_false_eq_true]
      rw [e1, if_neg (show ¬ l = G.length by omega), (h l m z2).2.1]
      by_cases hj : isJ m.1 = true
      · rw [if_pos hj, if_pos hj]
      · rw [if_neg hj, if_neg hj]
    · rw [← ha1]; simp (disch := first | assumption | omega) only [sx, if_pos, if_neg, bnd, Nat.reduceEqDiff, Nat.reduceAdd, Nat.reduceMul, Nat.reduceSub, and_true, true_and, and_false, false_and, or_true, true_or, or_false, false_or, if_true, if_false, eq_self, not_true, not_false_eq_true]
    · rw [← ha1]; simp (disch := first | assumption | omega) only [sx, if_pos, if_neg, bnd, Nat.reduceEqDiff, Nat.reduceAdd, Nat.reduceMul, Nat.reduceSub, and_true, true_and, and_false, false_and, or_true, true_or, or_false, false_or, if_true, if_false, eq_self, not_true, not_false_eq_true]
  · subst z1; subst z2
    refine ⟨?_, ?_, f, ?_, ?_, by omega, fun j o hj => ?_⟩
    · rw [← ha1]; simp (disch := first | assumption | omega) only [sx, if_pos, if_neg, bnd, Nat.reduceEqDiff, Nat.reduceAdd, Nat.reduceMul, Nat.reduceSub, and_true, true_and, and_false, false_and, or_true, true_or, or_false, false_or, if_true, if_false, eq_self, not_true, not_false_eq_true]
    · dsimp only
      rw [if_pos rfl]
      have e1 : gA a1 23 G.length = t := by rw [← ha1]; simp (disch := first | assumption | omega) only [sx, if_pos, if_neg, bnd, Nat.reduceEqDiff, Nat.reduceAdd, Nat.reduceMul, Nat.reduceSub, and_true, true_and, and_false, false_and, or_true, true_or, or_false, false_or, if_true, if_false, eq_self, not_true, not_false_eq_true]
      rw [e1]
      by_cases hj : isJ m.1 = true
      · rw [if_pos hj]
      · rw [if_neg hj]; exact ht (by cases hjj : isJ m.1 with | true => exact absurd hjj hj | false => rfl)
    · rw [← ha1]; simp (disch := first | assumption | omega) only [sx, if_pos, if_neg, bnd, Nat.reduceEqDiff, Nat.reduceAdd, Nat.reduceMul, Nat.reduceSub, and_true, true_and, and_false, false_and, or_true, true_or, or_false, false_or, if_true, if_false, eq_self, not_true, not_false_eq_true]
    · rw [hf, ← ha1]; simp (disch := first | assumption | omega) only [sx, if_pos, if_neg, bnd, Nat.reduceEqDiff, Nat.reduceAdd, Nat.reduceMul, Nat.reduceSub, and_true, true_and, and_false, false_and, or_true, true_or, or_false, false_or, if_true, if_false, eq_self, not_true, not_false_eq_true]
    · rw [hfr.2.1 26 rfl, hfr.2.1 27 rfl]; exact ho j o hj
theorem ix_left {l l1 : List Int64} {w : Int64} : ∀ {k : Nat}, ix l w = some k → ix (l ++ l1) w = some k := by
  induction l with
  | nil => intro k h; cases h
  | cons y r ih =>
    intro k h
    unfold ix at h
    rw [List.cons_append]
    unfold ix
    by_cases e : y = w
    · rw [if_pos e] at h ⊢; exact h
    · rw [if_neg e] at h ⊢
      cases hi : ix r w with
      | none => rw [hi] at h; cases h
      | some j => rw [hi] at h; rw [ih hi]; exact h
