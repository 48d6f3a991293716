/-! A process, from its first token to its last. -/
theorem end_proc {x : Cx} (hx : x.Ok) {L : Nat → List Int64} {pm : Nat → Nat} {G : List Ln} {τ : Nat → Int32} {b : ts} {c q K : Nat} {BK BL : Nat → Int32} (h : SXB x L pm G τ b c q K 1 BK BL 0) (hk : x.kd c = 125) (hK : BK 0 = 3) (hL : BL 0 = 0) : ∃ b4, cR_endBlock b = some b4 ∧ SXB x L pm G τ b4 (c + 1) q K 0 BK BL 0 ∧ fr wSt b b4 := by
  obtain ⟨b1, n1, n2, n3⟩ := nxt_ok hx h.1.1 (by omega)
  have h1 := SXB_tok h n3 n2
  have h2 := SXB_pop (D := 0) h1
  obtain ⟨q1, q2⟩ := h1.2.2.1 0 (by omega)
  refine ⟨_, ?_, h2, fr_tr (fr_mono (by decide +kernel) n3) (fr_wI fr_rf (by decide +kernel))⟩
  rw [end_eq n1 h1.2.1.2.2.2.2 (by omega), q1, q2, hK, hL]
  unfold endK
  rw [if_neg (by decide), if_neg (by decide), if_neg (by decide)]
  unfold cR_endBlock_131
  rw [if_neg (by decide)]
/-- the body of a process -/
theorem body_ok {x : Cx} (hx : x.Ok) {L : Nat → List Int64} {T : List (Nat × Nat)} {pm en vc un rm : Nat → Nat} {G : List Ln} {τ : Nat → Int32} {a0 a b : ts} {c0 c d q K K' : Nat} {w : Int64} {P : List Int64} (hA : IXA x L T pm en vc un rm G τ a0 c0 q K) (hP : IXP L pm en vc un rm G τ) (hd3 : d = (L 3).length) (hd12 : d < 12) (hw : tkn1 L false w = false) (hc : c0 < c) (hps : x.ps c0 ≤ x.ps c) (ha : SA x a c) (hb : SB x b c) (hna : NA a (Lv (Lw L 3 [w]) P) (T ++ [(3, d)])) (hnb : NB b (Lv (Lw L 3 [w]) P)) (hnd : ND (Lv (Lw L 3 [w]) P)) (hfa : fr wf_cD_tell a0 a) (hB : gI b 1125 0 = nI G.length ∧ gI b 1139 0 = nI K' ∧ gI b 1126 0 = nI q ∧ gI b 1142 0 = nI 0) (hKB : ∀ l n, G[l]? = some n → KB b (L 0).length (L 1).length K' l n ∧ (isJ n.1 = true → ¬ τ l = -2 → gA b 103 l = τ l)) (h96 : ∀ i, i < (L 3).length → gA b 96 i = nI (pm i) ∧ gA b 97 i = nI (en i)) (h90 : ∀ r, r < (L 0).length → gA b 90 r = nI (un r)) (h92 : ∀ s, s < (L 1).length → gA b 92 s = nI (un (8 + s)) ∧ gA b 93 s = nI (rm (8 + s))) (hk' : K' ≤ 2 * x.ps c) : ∃ r a1 b1, cD_readProcess_78 (nI d) a = some (r, a1) ∧ cR_takeProcess_150 (nI d) b = some b1 ∧ OutI x c0 r a1 b1 := by
  have hG := IXA_G hA
  obtain ⟨hd, h4, hL5, hRT, hDF, hlast, hUR⟩ := hP
  have hm4 := hna.m 4 (by omega)
  have hPl : (Lv (Lw L 3 [w]) P 4).length = P.length := by
    show (L 4 ++ P).length = P.length
    rw [h4]; rfl
  rw [hPl] at hm4
  have hm4 : P.length ≤ 8 := hm4
  have hc4 : gA a 16 4 = nI P.length := (hna.c 4 (by omega)).trans (by rw [hPl])
  have hLB : LB b := ⟨_, (by omega : G.length ≤ 600), hB.1⟩
  have h214 : gI a 214 0 = nI G.length := (hfa.1 214 rfl 0).trans hA.2.1.1
  have h217 : gI a 217 0 = nI K := (hfa.1 217 rfl 0).trans hA.2.1.2.1
  have h403 : gI a 403 0 = nI q := (hfa.1 403 rfl 0).trans hA.2.1.2.2
  have hKc := hA.2.2.2.2.2.2.2
  have hL13 : (Lv (Lw L 3 [w]) P 3).length = d + 1 := by
    show (L 3 ++ [w]).length = d + 1
    rw [List.length_append, hd3]; rfl
  -- the program's table of the process
  have fa2 : fr [2019, 2021] a (wA (wA a 19 d (nI P.length)) 21 d (nI G.length)) := fr_wA (fr_wA fr_rf rfl) rfl
  have e78 : cD_readProcess_78 (nI d) a = (cT_need ((41 : Int32)) (wA (wA a 19 d (nI P.length)) 21 d (nI G.length))).bind (fun x4 => (if x4.1 = ((0 : Int32)) then some ((0 : Int32), x4.2) else (clT 60 0 ((0 : Int32)) x4.2).bind (fun x7 => (if x7.1 = ((0 : Int32)) then some ((0 : Int32), x7.2) else (cG_dropVariables (wA x7.2 20 d (gA x7.2 16 4))).bind (fun s9 => (cG_addAct ((3 : Int32)) ((-2 : Int32)) (gI s9 217 0) s9).bind (fun x13 => some ((1 : Int32), x13.2))))))) := by
    unfold cD_readProcess_78
    rw [if_pos (nI_idx hd12 (by decide)), nI_clamp (by omega), show gA a 16 ((4 : Int32)).toNatClampNeg = nI P.length from hc4, show gI (wA a 19 d (nI P.length)) 214 0 = nI G.length from h214]
    rfl
  have fb2 : fr [2096] b (wA b 96 d (nI P.length)) := fr_wA fr_rf rfl
  have e150 : cR_takeProcess_150 (nI d) b = (cR_must ((41 : Int32)) (wA b 96 d (nI P.length))).bind (fun s3 => (cR_beginBlock ((3 : Int32)) ((0 : Int32)) (wI (wA s3 97 d (gI s3 1125 0)) 1138 0 ((0 : Int32)))).bind (fun s6 => cR_takeProcess_187 tm_N s6)) := by
    unfold cR_takeProcess_150
    rw [if_pos (nI_idx hd12 (by decide)), nI_clamp (by omega), hnb.v.1, hPl]
  obtain ⟨r3, a3, b3, n1, n2, n3, n4, n5⟩ := nm_ok hx (SA_fr fa2 rfl ha) (SB_fr fb2 rfl rfl hb) (q := 41) (by omega)
  have n1 : cT_need 41 (wA (wA a 19 d (nI P.length)) 21 d (nI G.length)) = some (r3, a3) := n1
  have n2 : cR_must 41 (wA b 96 d (nI P.length)) = some b3 := n2
  rw [e78, e150, n1, Option.bind_some, n2, Option.bind_some]
  dsimp only
  have h25 : gI b3 1125 0 = nI G.length := (n5.1 1125 rfl 0).trans hB.1
  rw [h25]
  have fb3 : fr [1138, 2097] b3 (wI (wA b3 97 d (nI G.length)) 1138 0 0) := fr_wI (fr_wA fr_rf rfl) rfl
  rcases n3 with ⟨z1, z2, z3, z4, z5⟩ | ⟨z1, z2, z3⟩
  · rw [z1, if_neg (by decide)]
    have hp := hx.p1 (c := c) (by omega)
    have hlen0 := hA.2.2.1
    -- both sides before the body
    have fa3 : fr (2019 :: 2021 :: wf_cD_tell) a0 a3 := fr_tr (fr_mono (by decide +kernel) hfa) (fr_tr (fr_mono (by decide +kernel) fa2) (fr_mono (by decide +kernel) n4))
    have hSA : SXA x (Lv (Lw L 3 [w]) P) (T ++ [(3, d)]) (fun i => if i = d then P.length else pm i) G τ a3 (c + 1) q K 0 false := by
      refine ⟨⟨z4, NA_fr n4 rfl (NA_fr fa2 rfl hna), (fa3.1 302 rfl 0).trans hA.1.2.2⟩, ⟨(fa3.1 214 rfl 0).trans hA.2.1.1, (fa3.1 217 rfl 0).trans hA.2.1.2.1, (fa3.1 403 rfl 0).trans hA.2.1.2.2⟩, ⟨hlen0.1, by rw [hL13]; omega, hlen0.2.2⟩, fun l n hl => ⟨?_, ?_⟩, ⟨(fa3.1 408 rfl 0).trans hA.2.2.2.2.1.1, fun i l n hi hl => ?_⟩, fun i hi => ?_⟩
      · have hLn := (hA.2.2.2.1 l n hl).1
        refine LnA_mono hLn (fa3.2.1 22 rfl l) ?_ (fa3.2.1 24 rfl l) (fa3.2.1 25 rfl l) (Nat.le_refl _) (fun j _ => ⟨fa3.2.1 26 rfl j, fa3.2.1 27 rfl j⟩)
        rw [fa3.2.1 23 rfl l, hLn.2.1]
        by_cases hj : isJ n.1 = true
        · rw [if_pos hj, if_pos hj]
        · rw [if_neg hj, if_neg hj]
      · intro h526
        rcases (hA.2.2.2.1 l n hl).2 h526 with z | ⟨i, i1, i2, i3⟩
        · exact Or.inl z
        · refine Or.inr ⟨i, i1, ix_left i2, ?_⟩
          have := (ix_some i2).2
          show (if i = d then P.length else pm i) = _
          rw [if_neg (by omega)]; exact i3
      · rw [fa3.2.2.1 29 rfl, fa3.2.1 30 rfl, fa3.2.1 31 rfl, fa3.2.1 32 rfl]; exact hA.2.2.2.2.1.2 i l n hi hl
      · rw [hL13] at hi
        dsimp only
        rw [n4.2.1 19 rfl]
        by_cases e : i = d
        · rw [if_pos e, e]
          exact ⟨by simp (disch := first | assumption | omega) only [sx, if_pos, if_neg, bnd, Nat.reduceEqDiff, Nat.reduceAdd, Nat.reduceMul, Nat.reduceSub, and_true, true_and, and_false, false_and, or_true, true_or, or_false, false_or, if_true, if_false, eq_self, not_true, not_false_eq_true], hm4⟩
        · rw [if_neg e]
          have h19 := hA.2.2.2.2.2.1 i (by omega)
          refine ⟨?_, h19.2.1⟩
          rw [← h19.1, ← hfa.2.1 19 rfl i]; simp (disch := first | assumption | omega) only [sx, if_pos, if_neg, bnd, Nat.reduceEqDiff, Nat.reduceAdd, Nat.reduceMul, Nat.reduceSub, and_true, true_and, and_false, false_and, or_true, true_or, or_false, false_or, if_true, if_false, eq_self, not_true, not_false_eq_true]
    have fb4 : fr (1138 :: 2096 :: 2097 :: wf_cR_next) b (wI (wA b3 97 d (nI G.length)) 1138 0 0) := fr_tr (fr_mono (by decide +kernel) fb2) (fr_tr (fr_mono (by decide +kernel) n5) (fr_mono (by decide +kernel) fb3))
    have hSB : SXB x (Lv (Lw L 3 [w]) P) (fun i => if i = d then P.length else pm i) G τ (wI (wA b3 97 d (nI G.length)) 1138 0 0) (c + 1) q K' 0 (fun _ => 0) (fun _ => 0) 0 := by
      refine ⟨⟨SB_fr fb3 rfl rfl z5, NB_fr fb4 rfl hnb⟩, ⟨(fb4.1 1125 rfl 0).trans hB.1, (fb4.1 1139 rfl 0).trans hB.2.1, (fb4.1 1126 rfl 0).trans hB.2.2.1, (fb4.1 1142 rfl 0).trans hB.2.2.2, by simp (disch := first | assumption | omega) only [sx, if_pos, if_neg, bnd, Nat.reduceEqDiff, Nat.reduceAdd, Nat.reduceMul, Nat.reduceSub, and_true, true_and, and_false, false_and, or_true, true_or, or_false, false_or, if_true, if_false, eq_self, not_true, not_false_eq_true]⟩, fun j hj => by omega, fun l n hl => ⟨?_, fun y1 y2 => (fb4.2.1 103 rfl l).trans ((hKB l n hl).2 y1 y2)⟩, fun i hi => ?_⟩
      · exact KB_mono (hKB l n hl).1 ⟨fb4.2.1 99 rfl l, fb4.2.1 100 rfl l, fb4.2.1 101 rfl l, fb4.2.1 105 rfl l, fb4.2.1 107 rfl l, fb4.2.2.1 106 rfl l, fun i _ => fb4.2.1 104 rfl _⟩ (fun j _ => ⟨fb4.2.1 110 rfl j, fb4.2.1 111 rfl j⟩) (Nat.le_refl _) (Nat.le_refl _) (Nat.le_refl _)
      · rw [hL13] at hi
        have e96 : gA (wI (wA b3 97 d (nI G.length)) 1138 0 0) 96 i = gA (wA b 96 d (nI P.length)) 96 i := n5.2.1 96 rfl i
        rw [e96]
        dsimp only
        by_cases e : i = d
        · rw [if_pos e, e]; simp (disch := first | assumption | omega) only [sx, if_pos, if_neg, bnd, Nat.reduceEqDiff, Nat.reduceAdd, Nat.reduceMul, Nat.reduceSub, and_true, true_and, and_false, false_and, or_true, true_or, or_false, false_or, if_true, if_false, eq_self, not_true, not_false_eq_true]
        · rw [if_neg e, ← (h96 i (by omega)).1]; simp (disch := first | assumption | omega) only [sx, if_pos, if_neg, bnd, Nat.reduceEqDiff, Nat.reduceAdd, Nat.reduceMul, Nat.reduceSub, and_true, true_and, and_false, false_and, or_true, true_or, or_false, false_or, if_true, if_false, eq_self, not_true, not_false_eq_true]
    have hL5' : ∀ k, 5 ≤ k → Lv (Lw L 3 [w]) P k = [] := fun k hk => (if_neg (show ¬ k = 4 by omega)).trans ((if_neg (show ¬ k = 3 by omega)).trans (hL5 k hk))
    obtain ⟨pb, -⟩ := (clT_all hx (T := T ++ [(3, d)]) (pm := fun i => if i = d then P.length else pm i) 60 0 (by omega)).1 (by omega)
    obtain ⟨r5, a5, b5, j, b6, y1, y2, y3, y4, y5, y6⟩ := pb (Lv (Lw L 3 [w]) P) a3 _ (c + 1) G τ q K K' 0 (fun _ => 0) (fun _ => 0) 3 0 hnd hL5' hSA hSB (by omega) (by omega)
    have y1 : clT 60 0 0 a3 = some (r5, a5) := y1
    rw [y1, Option.bind_some, y2, Option.bind_some]
    dsimp only
    have hmn := hx.m
    have hn4 := hx.n
    rcases y6 with ⟨u1, u2, u3⟩ | ⟨u1, c1, V, H, τ1, q1, K1, K1', w1, w2, w3, w4, w5, w6, w7, w8, w9, w10, w11, w12, w13⟩
    · rw [u1, if_pos rfl]
      obtain ⟨b7, g1, g2, g3⟩ := bad187 (F := 999999999 - j) u2.2.2 y4
      refine ⟨0, a5, b7, rfl, ?_, g3, Or.inl ⟨rfl, Flt_FL u2 g2⟩⟩
      rw [show tm_N = 999999999 - j + 1 + j by unfold tm_N; omega, y3]; exact g1
    · rw [u1, if_neg (by decide)]
      rw [Lv_app] at w5 w10 w11 w12
      have hG5 := SXA_G w5
      obtain ⟨b7, g1, g2, g3⟩ := end_proc hx w12 w4 (if_pos rfl) (if_pos rfl)
      have hRS : RS 1 b6 b7 := RS_end (D := 0) (w12.1.1.g (by omega)) w12.2.1.2.2.2.2 (by omega) ((sg_eq hx w12.1.1 (by omega) (q := 125) (by omega)).mpr w4) g1
      obtain ⟨b8, l1, l2, l3, l4, l5, l6⟩ := line_sx g2 (by omega) 27
      have e187 : cR_takeProcess_187 tm_N b5 = some b8 := by
        rw [show tm_N = 999999998 - j + 1 + (j + 1) by unfold tm_N; omega, RS_tr y3 hRS, cR_takeProcess_187.eq_2]
        unfold cR_takeProcess_187_b
        have e224 : cR_takeProcess_224 b7 = some b8 := by
          unfold cR_takeProcess_224
          rw [l1]; rfl
        by_cases hg7 : gI b7 1103 0 = 0
        · rw [good_t hg7, Option.bind_some]
          dsimp only
          rw [if_neg (by decide), g2.2.1.2.2.2.2, if_pos (by decide)]; exact e224
        · rw [good_f hg7, Option.bind_some]
          dsimp only
          rw [if_pos rfl]; exact e224
      rw [e187]
      have hB8 : SXB x (Lv (Lw L 3 [w]) (P ++ V)) (fun i => if i = d then P.length else pm i) (G ++ H ++ [fL]) (fun k => if k = (G ++ H).length then -2 else τ1 k) b8 (c1 + 1) q1 K1' 0 _ _ 0 := SXB_done (n := fL) l2 (Or.inr (Or.inr (Or.inl ⟨rfl, rfl, l3⟩))) (fun z => by cases z) (fun k hk => if_neg (by omega))
      -- the program's end
      have hc16 : gA a5 16 4 = nI (P ++ V).length := (w5.1.2.1.c 4 (by omega)).trans (by
        show nI (L 4 ++ (P ++ V)).length = _
        rw [h4]; rfl)
      rw [hc16]
      have f20 : fr [2020] a5 (wA a5 20 d (nI (P ++ V).length)) := fr_wA fr_rf rfl
      obtain ⟨a6, dv1, dv2, dv3⟩ := dropVariables_ok (NA_fr f20 rfl w5.1.2.1)
      rw [dv1, Option.bind_some]
      have h6 : gI a6 217 0 = nI K1 := (dv3.1 217 rfl 0).trans w5.2.1.2.1
      have h6' : gI a6 214 0 = nI (G ++ H).length := (dv3.1 214 rfl 0).trans w5.2.1.1
      rw [h6, show (3 : Int32) = nI 3 from rfl, addAct_run h6' h6 (by omega), Option.bind_some]
      refine ⟨1, wI (wA (wA (wA (wA a6 22 (G ++ H).length (nI 3)) 23 (G ++ H).length (-2)) 24 (G ++ H).length (nI K1)) 25 (G ++ H).length (nI K1)) 214 0 (nI ((G ++ H).length + 1)), b8, rfl, rfl, ⟨(G ++ H).length + 1, by omega, l2.2.1.1⟩, Or.inr ⟨rfl, Lw L 3 [w], T ++ [(3, d)], (fun i => if i = d then P.length else pm i), (fun i => if i = d then G.length else en i), (fun i => if i = d then (P ++ V).length else vc i), un, rm, G ++ H ++ [fL], (fun k => if k = (G ++ H).length then -2 else τ1 k), c1 + 1, q1, K1, K1', by omega, ?_, ?_, ?_⟩⟩
      · -- the program's side
        have hp1 := hx.p1 (c := c1) (by omega)
        have hLd : (fun k => if k = 4 then [] else Lv (Lw L 3 [w]) (P ++ V) k) = Lw L 3 [w] := by
          funext k
          by_cases e4 : k = 4
          · rw [if_pos e4, e4]; exact h4.symm
          · rw [if_neg e4]; exact if_neg e4
        rw [hLd] at dv2
        have f6 : fr (2020 :: wf_cG_dropVariables) a5 a6 := fr_tr (fr_mono (by decide +kernel) f20) (fr_mono (by decide +kernel) dv3)
        have f7 : fr [214, 2022, 2023, 2024, 2025] a6 (wI (wA (wA (wA (wA a6 22 (G ++ H).length (nI 3)) 23 (G ++ H).length (-2)) 24 (G ++ H).length (nI K1)) 25 (G ++ H).length (nI K1)) 214 0 (nI ((G ++ H).length + 1))) := fr_wI (fr_wA (fr_wA (fr_wA (fr_wA fr_rf rfl) rfl) rfl) rfl) rfl
        have hlines := addAct_ln (n := fL) (t := -2) (f := K1) (K := K1) (τ := τ1) (a := a6) (G := G ++ H) (fun l m hl => by
          have hLn := (w5.2.2.2.1 l m hl).1
          refine LnA_mono hLn (f6.2.1 22 rfl l) ?_ (f6.2.1 24 rfl l) (f6.2.1 25 rfl l) (Nat.le_refl _) (fun j _ => ⟨f6.2.1 26 rfl j, f6.2.1 27 rfl j⟩)
          rw [f6.2.1 23 rfl l, hLn.2.1]
          by_cases hj : isJ m.1 = true
          · rw [if_pos hj, if_pos hj]
          · rw [if_neg hj, if_neg hj]) (fun _ => rfl) rfl (fun j o hj => by simp [fL] at hj)
        have hlines : ∀ l m, (G ++ H ++ [fL])[l]? = some m → LnA (wI (wA (wA (wA (wA a6 22 (G ++ H).length (nI 3)) 23 (G ++ H).length (-2)) 24 (G ++ H).length (nI K1)) 25 (G ++ H).length (nI K1)) 214 0 (nI ((G ++ H).length + 1))) (fun k => if k = (G ++ H).length then -2 else τ1 k) K1 l m := hlines
        generalize ha7 : wI (wA (wA (wA (wA a6 22 (G ++ H).length (nI 3)) 23 (G ++ H).length (-2)) 24 (G ++ H).length (nI K1)) 25 (G ++ H).length (nI K1)) 214 0 (nI ((G ++ H).length + 1)) = a7 at f7 hlines ⊢
        have hop : opn (G ++ H ++ [fL]) = opn (G ++ H) := by rw [opn_app, if_neg (by decide), List.append_nil]
        have h3' : (Lw L 3 [w] 3).length = d + 1 := hL13
        have hb5 := w5.2.2.1
        have hL13' : (Lv (Lw L 3 [w]) (P ++ V) 3).length = d + 1 := hL13
        rw [hL13'] at hb5
        have faa : fr wf_clT a3 a5 := clT_fr _ _ _ _ _ y1
        refine ⟨⟨SA_fr f7 rfl (SA_fr f6 rfl w5.1.1), NA_fr f7 rfl dv2, ?_⟩, ⟨?_, ?_, ?_⟩, ⟨hb5.1, ?_, by rw [hop]; exact hb5.2.2⟩, fun l n hl => ⟨hlines l n hl, ?_⟩, ?_, fun i hi => ?_, fun p hp => ?_, by omega⟩
        · rw [f7.1 302 rfl, f6.1 302 rfl]; exact w5.1.2.2
        · rw [show (G ++ H ++ [fL]).length = (G ++ H).length + 1 from List.length_append, ← ha7]; exact gI_wIs
        · rw [f7.1 217 rfl]; exact h6
        · rw [f7.1 403 rfl, f6.1 403 rfl]; exact w5.2.1.2.2
        · rw [h3', List.length_append]; show (G ++ H).length + 1 ≤ 2 * q1 + (d + 1); omega
        · rcases getE_snoc hl with ⟨e1, e2⟩ | ⟨e1, e2⟩
          · exact (w5.2.2.2.1 l n e2).2
          · rw [e2]; intro z; exact absurd z (by decide)
        · have hOA : OA a7 (G ++ H) := ⟨by rw [f7.1 408 rfl, f6.1 408 rfl]; exact w5.2.2.2.2.1.1, fun i l n hi hl => by
            rw [f7.2.2.1 29 rfl, f7.2.1 30 rfl, f7.2.1 31 rfl, f7.2.1 32 rfl, f6.2.2.1 29 rfl, f6.2.1 30 rfl, f6.2.1 31 rfl, f6.2.1 32 rfl]; exact w5.2.2.2.2.1.2 i l n hi hl⟩
          exact OA_no hOA (by decide)
        · rw [h3'] at hi
          have e19 := w5.2.2.2.2.2 i (by rw [hL13']; exact hi)
          have e21 : gA a7 21 i = if i = d then nI G.length else nI (en i) := by
            rw [f7.2.1 21 rfl, f6.2.1 21 rfl, faa.2.1 21 rfl, n4.2.1 21 rfl]
            by_cases e : i = d
            · rw [if_pos e, e]; simp (disch := first | assumption | omega) only [sx, if_pos, if_neg, bnd, Nat.reduceEqDiff, Nat.reduceAdd, Nat.reduceMul, Nat.reduceSub, and_true, true_and, and_false, false_and, or_true, true_or, or_false, false_or, if_true, if_false, eq_self, not_true, not_false_eq_true]
            · rw [if_neg e, ← (hA.2.2.2.2.2.1 i (by omega)).2.2.2, ← hfa.2.1 21 rfl i]; simp (disch := first | assumption | omega) only [sx, if_pos, if_neg, bnd, Nat.reduceEqDiff, Nat.reduceAdd, Nat.reduceMul, Nat.reduceSub, and_true, true_and, and_false, false_and, or_true, true_or, or_false, false_or, if_true, if_false, eq_self, not_true, not_false_eq_true]
          have e20 : gA a7 20 i = if i = d then nI (P ++ V).length else nI (vc i) := by
            rw [f7.2.1 20 rfl, dv3.2.1 20 rfl]
            by_cases e : i = d
            · rw [if_pos e, e]; exact gA_wAs
            · rw [if_neg e, gA_wAn e, faa.2.1 20 rfl, n4.2.1 20 rfl, ← (hA.2.2.2.2.2.1 i (by omega)).2.2.1, ← hfa.2.1 20 rfl i]; rfl
          rw [e20, e21, f7.2.1 19 rfl, f6.2.1 19 rfl]
          dsimp only
          refine ⟨e19.1, e19.2, ?_, ?_⟩
          · by_cases e : i = d
            · rw [if_pos e, if_pos e]
            · rw [if_neg e, if_neg e]
          · by_cases e : i = d
            · rw [if_pos e, if_pos e]
            · rw [if_neg e, if_neg e]
        · rw [f7.2.1 17 rfl, f7.2.1 18 rfl, f6.2.1 17 rfl, f6.2.1 18 rfl, faa.2.1 17 rfl, faa.2.1 18 rfl, fa3.2.1 17 rfl, fa3.2.1 18 rfl]
          exact hA.2.2.2.2.2.2.1 p hp
      · -- the reference's side
        have hp1 := hx.p1 (c := c1) (by omega)
        have h3' : (Lw L 3 [w] 3).length = d + 1 := hL13
        have f68 : fr wSt (wI (wA b3 97 d (nI G.length)) 1138 0 0) b8 := fr_tr y5 (fr_tr g3 (fr_mono (by decide +kernel) l6))
        refine ⟨⟨hB8.1.1, ?_⟩, ⟨hB8.2.1.1, hB8.2.1.2.1, hB8.2.1.2.2.1, hB8.2.1.2.2.2.1⟩, hB8.2.2.2.1, fun i hi => ⟨hB8.2.2.2.2 i hi, ?_⟩, fun r hr => ?_, fun s hs => ?_, by omega⟩
        · exact ⟨hB8.1.2.r, hB8.1.2.s, hB8.1.2.n, hB8.1.2.d, fun z => by omega⟩
        · rw [h3'] at hi
          rw [f68.2.1 97 rfl]
          dsimp only
          by_cases e : i = d
          · rw [if_pos e, e]; simp (disch := first | assumption | omega) only [sx, if_pos, if_neg, bnd, Nat.reduceEqDiff, Nat.reduceAdd, Nat.reduceMul, Nat.reduceSub, and_true, true_and, and_false, false_and, or_true, true_or, or_false, false_or, if_true, if_false, eq_self, not_true, not_false_eq_true]
          · rw [if_neg e, ← (h96 i (by omega)).2, ← fb2.2.1 97 rfl i, ← n5.2.1 97 rfl i]; simp (disch := first | assumption | omega) only [sx, if_pos, if_neg, bnd, Nat.reduceEqDiff, Nat.reduceAdd, Nat.reduceMul, Nat.reduceSub, and_true, true_and, and_false, false_and, or_true, true_or, or_false, false_or, if_true, if_false, eq_self, not_true, not_false_eq_true]
        · rw [f68.2.1 90 rfl, fb4.2.1 90 rfl]; exact h90 r hr
        · rw [f68.2.1 92 rfl, f68.2.1 93 rfl, fb4.2.1 92 rfl, fb4.2.1 93 rfl]; exact h92 s hs
      · have hLd : (fun k => if k = 4 then [] else Lv (Lw L 3 [w]) (P ++ V) k) = Lw L 3 [w] := by
          funext k
          by_cases e4 : k = 4
          · rw [if_pos e4, e4]; exact h4.symm
          · rw [if_neg e4]; exact if_neg e4
        have hnd' : ND (Lw L 3 [w]) := by rw [← hLd]; exact ND_drop w11
        have h3' : (Lw L 3 [w] 3).length = d + 1 := hL13
        have hlen : (G ++ H ++ [fL]).length = G.length + H.length + 1 := by rw [List.length_append, List.length_append]; rfl
        have hlen1 : (G ++ H).length = G.length + H.length := List.length_append
        have left : ∀ (l : Nat) (n : Ln), G[l]? = some n → (G ++ H ++ [fL])[l]? = some n := by
          intro l n hl
          have := getE_lt hl
          rw [List.append_assoc, List.getElem?_append_left this]; exact hl
        have mid : ∀ (i : Nat) (n : Ln), H[i]? = some n → (G ++ H ++ [fL])[G.length + i]? = some n := by
          intro i n hi
          have := getE_lt hi
          rw [List.append_assoc, List.getElem?_append_right (by omega), List.getElem?_append_left (by omega), show G.length + i - G.length = i by omega]; exact hi
        have lst : (G ++ H ++ [fL])[G.length + H.length]? = some fL := by
          rw [List.getElem?_append_right (by omega), show G.length + H.length - (G ++ H).length = 0 by omega]; rfl
        refine ⟨hnd', h4, fun k hk => (if_neg (show ¬ k = 3 by omega)).trans (hL5 k hk), ?_, ?_, ?_, hUR⟩
        · intro l n hl hj
          rcases getE_snoc hl with ⟨e1, e2⟩ | ⟨e1, e2⟩
          · rw [hlen1] at e1
            dsimp only
            rw [if_neg (by omega), hlen]
            by_cases hlG : l < G.length
            · rw [List.getElem?_append_left hlG] at e2
              obtain ⟨t, t1, t2, t3⟩ := hRT l n e2 hj
              refine ⟨t, by rw [w7 l hlG]; exact t1, by omega, ?_⟩
              rcases t3 with t3 | ⟨t3, t4, m, t5, t6⟩
              · exact Or.inl t3
              · exact Or.inr ⟨t3, t4, m, left t m t5, t6⟩
            · rw [List.getElem?_append_right (by omega)] at e2
              obtain ⟨t, t1, t2⟩ := w8 (l - G.length) n e2 hj
              rw [show G.length + (l - G.length) = l by omega] at t1 t2
              rcases t2 with t2 | ⟨t2, i', n', t3, t4, t5, t6⟩
              · exact ⟨t, t1, by omega, Or.inl t2.1⟩
              · refine ⟨t, t1, by omega, Or.inr ⟨t2, by omega, n', ?_, t6⟩⟩
                rw [t3]; exact mid i' n' t5
          · rw [e2] at hj; cases hj
        · intro i hi
          rw [h3'] at hi
          dsimp only
          by_cases e : i = d
          · rw [if_pos e, if_pos e, if_pos e]
            refine ⟨H, w9, mid, ⟨fL, lst, rfl⟩, ?_⟩
            have e1 : (Lv (Lw L 3 [w]) P 4).length = P.length := hPl
            have e2 : (Lv (Lw L 3 [w]) (P ++ V) 4).length = (P ++ V).length := by
              show (L 4 ++ (P ++ V)).length = _
              rw [h4]; rfl
            rw [← e1, ← e2]; exact w10
          · rw [if_neg e, if_neg e, if_neg e]
            obtain ⟨H0, q1', q2', ⟨n, q3', q4'⟩, q5'⟩ := hDF i (by omega)
            exact ⟨H0, q1', fun k n hk => left _ n (q2' k n hk), ⟨n, left _ n q3', q4'⟩, q5'⟩
        · intro l n hl h3
          rcases getE_snoc hl with ⟨e1, e2⟩ | ⟨e1, e2⟩
          · rw [hlen]; omega
          · rw [e2] at h3; exact absurd rfl h3
  · rw [z1, if_pos rfl]
    have hb4 : ¬ gI (wI (wA b3 97 d (nI G.length)) 1138 0 0) 1103 0 = 0 := z3.2.2
    obtain ⟨b5, g1, g2, g3⟩ := bad187 (F := 999999999) hb4 (LB_fr (LB_fr (LB_fr hLB fb2 rfl) n5 rfl) fb3 rfl)
    refine ⟨0, a3, b5, rfl, ?_, g3, Or.inl ⟨rfl, Flt_FL z3 g2⟩⟩
    rw [beginBlock_bad hb4, Option.bind_some]; exact g1
