/-! The head of a process. -/
theorem readProcess_ok {x : Cx} (hx : x.Ok) {L : Nat → List Int64} {T : List (Nat × Nat)} {pm en vc un rm : Nat → Nat} {G : List Ln} {τ : Nat → Int32} {a b : ts} {c q K K' : Nat} (hA : IXA x L T pm en vc un rm G τ a c q K) (hB : IXB x L pm en un rm G τ b c q K') (hP : IXP L pm en vc un rm G τ) (hkd : x.kd c = 515) : ∃ r a1 b1, cD_readProcess a = some (r, a1) ∧ cR_takeProcess b = some b1 ∧ OutI x c r a1 b1 := by
  have hcl := hA.1.1.l
  have hcm := hx.lm hcl (by omega)
  have hp := hx.p1 (c := c) (by omega)
  have hmn := hx.m
  have hn4 := hx.n
  have hG := IXA_G hA
  have hP' := hP
  obtain ⟨hd, h4, hL5, hRT, hDF, hlast, hUR⟩ := hP'
  have hm3 : (L 3).length ≤ 12 := hA.1.2.1.m 3 (by omega)
  obtain ⟨v1, v2⟩ := adv_ok hx hA.1.1 hcm
  obtain ⟨b1, n1, n2, n3⟩ := nxt_ok hx hB.1.1 (by omega)
  have hna1 : NA (av x a (c + 1)) L T := NA_fr (W := [106, 107]) fr_av rfl hA.1.2.1
  have hnb1 : NQ b1 L 0 := NQ_fr n3 rfl hB.1.2
  have hLB1 : LB b1 := LB_fr ⟨_, (by omega : G.length ≤ 600), hB.2.1.1⟩ n3 rfl
  have h16 : gA (av x a (c + 1)) 16 ((3 : Int32)).toNatClampNeg = nI (L 3).length := hna1.c 3 (by omega)
  have fv : fr [106, 107] a (av x a (c + 1)) := fr_av
  unfold cD_readProcess cR_takeProcess
  rw [v1, Option.bind_some, n1, Option.bind_some, h16]
  generalize av x a (c + 1) = s1 at v2 hna1 v1 fv
  obtain ⟨r, a2, b0, b2, t1, t2, t3, t4, t5, t6, t7⟩ := tell_sx hx (q := 3) v2 n2 hna1 (hnb1.lt (by omega)) (by omega) (fun _ => h4)
  have t1 : cD_tell 3 12 s1 = some (r, a2) := t1
  have t2 : cR_freshName 0 b1 = some b0 := t2
  rw [t1, Option.bind_some, t2, Option.bind_some, (t5.1 1119 rfl 0).trans hnb1.d.1]
  dsimp only
  rw [show (12 : Int32) = nI 12 from rfl, limit_if (b := b0) (t := fun z => cR_takeProcess_24 z b0) (by omega) (by omega)]
  unfold cR_takeProcess_24
  have t3 : cR_limit (bI (Nat.blt (L 3).length 12)) b0 = some b2 := t3
  rw [t3, Option.bind_some]
  have hLB2 : LB b2 := LB_fr (LB_fr hLB1 t5 rfl) t6 rfl
  rcases t7 with ⟨z1, z2⟩ | ⟨z1, z2, z3, z4, z5, z6, z7, z8, z9⟩
  · rw [z1, if_pos rfl, good_f z2.2.2, Option.bind_some]
    dsimp only
    rw [if_pos rfl]
    exact ⟨0, a2, b2, rfl, rfl, LB7_of hLB2, Or.inl ⟨rfl, z2⟩⟩
  · subst z3
    have z7 : (L 3).length < 12 := z7
    have z6 : tkn1 L false (x.vl (c + 1)) = false := z6
    have z9 : NA a2 (Lw L 3 [x.vl (c + 1)]) (T ++ [(3, (L 3).length)]) := z9
    have hp1 := hx.p1 (c := c + 1) (by omega)
    have hk1 : x.kd (c + 1) ≠ 1 := by omega
    have hg := n2.g hk1
    have hwd : gJ b2 1108 0 = x.vl (c + 1) := (n2.nx.2 hk1).2.2.2.2.1 (Or.inl z4)
    have h19 : gI b2 1119 0 = nI (L 3).length := hnb1.d.1
    have hnd : ND (Lw L 3 [x.vl (c + 1)]) := ND_add hd (q := 3) (by omega) (fun _ => h4) hL5 z6
    have hL5' : ∀ k, 5 ≤ k → Lw L 3 [x.vl (c + 1)] k = [] := fun k hk => (Lw_ne (by omega)).trans (hL5 k hk)
    rw [z1, if_neg (by decide), good_t hg, Option.bind_some]
    dsimp only
    rw [if_neg (show ¬ (1 : Int32) = 0 by decide)]
    have hdef : cG_isDefinition (nI (L 3).length) a2 = some (1, a2) := by
      have hc3 : gA a2 16 3 = nI ((L 3).length + 1) := by
        have := z9.c 3 (by omega)
        rw [Lw_eq, List.length_append] at this; exact this
      unfold cG_isDefinition
      rw [if_neg (nI_pos (by omega)), show gA a2 16 ((3 : Int32)).toNatClampNeg = nI ((L 3).length + 1) from hc3, if_neg (nI_ge (by omega) (by omega)), if_neg (show ¬ (12 : Int32) ≤ nI (L 3).length from nI_ge (b := 12) z7 (by decide))]
    rw [hdef, Option.bind_some]
    dsimp only
    rw [if_neg (show ¬ (1 : Int32) = 0 by decide)]
    -- the reference's table
    have fst : fr [1119, 1123, 3095] b2 (wI (wI (wB b2 95 (L 3).length (x.vl (c + 1))) 1119 0 (nI ((L 3).length + 1))) 1123 0 0) := fr_wI (fr_wI (fr_wB fr_rf rfl) rfl) rfl
    have e24 : (if am_idx (gI b2 1119 0) 12 = true then (cR_next (wI (wI (wB b2 95 (gI b2 1119 0).toNatClampNeg (gJ b2 1108 0)) 1119 0 ((gI (wB b2 95 (gI b2 1119 0).toNatClampNeg (gJ b2 1108 0)) 1119 0) + ((1 : Int32)))) 1123 0 ((0 : Int32)))).bind (fun s9 => (cR_must ((40 : Int32)) s9).bind (fun s12 => (cR_good s12).bind (fun x16 => (if x16.1 = ((0 : Int32)) then cR_takeProcess_97 tm_N (gI b2 1119 0) ((0 : Int32)) x16.2 else (if (gI x16.2 1106 0) = ((41 : Int32)) then cR_takeProcess_97 tm_N (gI b2 1119 0) ((0 : Int32)) x16.2 else cR_takeProcess_97 tm_N (gI b2 1119 0) ((1 : Int32)) x16.2))))) else none) = (cR_next (wI (wI (wB b2 95 (L 3).length (x.vl (c + 1))) 1119 0 (nI ((L 3).length + 1))) 1123 0 0)).bind (fun s9 => (cR_must ((40 : Int32)) s9).bind (fun s12 => (cR_good s12).bind (fun x16 => (if x16.1 = ((0 : Int32)) then cR_takeProcess_97 tm_N (nI (L 3).length) ((0 : Int32)) x16.2 else (if (gI x16.2 1106 0) = ((41 : Int32)) then cR_takeProcess_97 tm_N (nI (L 3).length) ((0 : Int32)) x16.2 else cR_takeProcess_97 tm_N (nI (L 3).length) ((1 : Int32)) x16.2))))) := by
      rw [h19, if_pos (nI_idx z7 (by decide)), nI_clamp (by omega), hwd, show gI (wB b2 95 (L 3).length (x.vl (c + 1))) 1119 0 = nI (L 3).length from h19, show nI (L 3).length + (1 : Int32) = nI ((L 3).length + 1) from nI_add _ 1]
    rw [e24]
    have hsb3 := SB_fr fst rfl rfl n2
    have hnb3 : NB (wI (wI (wB b2 95 (L 3).length (x.vl (c + 1))) 1119 0 (nI ((L 3).length + 1))) 1123 0 0) (Lw L 3 [x.vl (c + 1)]) := by
      refine ⟨nb_fr fst rfl rfl hnb1.r, nb_fr fst rfl rfl hnb1.s, nb_fr fst rfl rfl hnb1.n, ?_, ?_⟩
      · rw [Lw_eq]
        refine nb_snoc hnb1.d ?_ ?_ ?_
        · rw [gI_wIn (by decide)]; exact gI_wIs
        · intro k hk; simp (disch := first | assumption | omega) only [sx, if_pos, if_neg, bnd, Nat.reduceEqDiff, Nat.reduceAdd, Nat.reduceMul, Nat.reduceSub, and_true, true_and, and_false, false_and, or_true, true_or, or_false, false_or, if_true, if_false, eq_self, not_true, not_false_eq_true]
        · simp (disch := first | assumption | omega) only [sx, if_pos, if_neg, bnd, Nat.reduceEqDiff, Nat.reduceAdd, Nat.reduceMul, Nat.reduceSub, and_true, true_and, and_false, false_and, or_true, true_or, or_false, false_or, if_true, if_false, eq_self, not_true, not_false_eq_true]
      · rw [Lw_ne (by decide), h4]
        exact ⟨gI_wIs, fun k hk => by simp at hk⟩
    generalize wI (wI (wB b2 95 (L 3).length (x.vl (c + 1))) 1119 0 (nI ((L 3).length + 1))) 1123 0 0 = b3 at fst hsb3 hnb3
    obtain ⟨b4, m1, m2, m3⟩ := nxt_ok hx hsb3 (by omega)
    rw [m1, Option.bind_some]
    obtain ⟨r5, a5, b5, k1, k2, k3, k4, k5⟩ := nm_ok hx z8 m2 (q := 40) (by omega)
    have k1 : cT_need 40 a2 = some (r5, a5) := k1
    have k2 : cR_must 40 b4 = some b5 := k2
    rw [k1, Option.bind_some, k2, Option.bind_some]
    dsimp only
    have fb5 : fr (1119 :: 1123 :: 3095 :: wf_cR_next) b b5 := fr_tr (fr_mono (by decide +kernel) n3) (fr_tr (fr_mono (by decide +kernel) fst) (fr_tr (fr_mono (by decide +kernel) m3) (fr_mono (by decide +kernel) k5)))
    have hLB5 : LB b5 := LB_fr (LB_fr (LB_fr hLB2 fst rfl) m3 rfl) k5 rfl
    have hnb5 : NB b5 (Lw L 3 [x.vl (c + 1)]) := NB_fr k5 rfl (NB_fr m3 rfl hnb3)
    have h97 : ∀ (bf : ts) (t : Int32), ¬ gI bf 1103 0 = 0 → cR_takeProcess_97 tm_N (nI (L 3).length) t bf = cR_takeProcess_150 (nI (L 3).length) bf := by
      intro bf t h
      rw [show tm_N = 999999999 + 1 from rfl]; exact bad97 h
    rcases k3 with ⟨y1, y2, y3, y4, y5⟩ | ⟨y1, y2, y3⟩
    · rw [y1, if_neg (by decide)]
      have hp2 := hx.p1 (c := c + 1 + 1) (by omega)
      have hlt3 := hx.lt (c + 1 + 1 + 1)
      have fa5 : fr wf_cD_tell a a5 := fr_tr (fr_mono (by decide +kernel) fv) (fr_tr t4 (fr_mono (by decide +kernel) k4))
      have hna5 : NA a5 (Lw L 3 [x.vl (c + 1)]) (T ++ [(3, (L 3).length)]) := NA_fr k4 rfl z9
      have hki : gI a5 107 0 = (41 : Int32) ↔ x.kd (c + 1 + 1 + 1) = 41 := by
        rw [y4.ki]; exact ⟨fun z => nI_inj (a := x.kd (c + 1 + 1 + 1)) (b := 41) (by omega) (by decide) z, fun z => by rw [z]; rfl⟩
      -- the body, from a state of both
      have body : ∀ (a6 b6 : ts) (c6 : Nat) (Pn : List Int64), SA x a6 c6 → SB x b6 c6 → c < c6 → x.ps c ≤ x.ps c6 → NA a6 (Lv (Lw L 3 [x.vl (c + 1)]) Pn) (T ++ [(3, (L 3).length)]) → NB b6 (Lv (Lw L 3 [x.vl (c + 1)]) Pn) → ND (Lv (Lw L 3 [x.vl (c + 1)]) Pn) → fr wf_cD_tell a a6 → fr (1119 :: 1123 :: 3095 :: 3098 :: wf_cR_next) b b6 → ∃ r a1 b1, cD_readProcess_78 (nI (L 3).length) a6 = some (r, a1) ∧ cR_takeProcess_150 (nI (L 3).length) b6 = some b1 ∧ OutI x c r a1 b1 := by
        intro a6 b6 c6 Pn q1 q2 q3 q4 q5 q6 q7 q8 q9
        refine body_ok hx (K' := K') hA hP rfl z7 z6 q3 q4 q1 q2 q5 q6 q7 q8 ⟨(q9.1 1125 rfl 0).trans hB.2.1.1, (q9.1 1139 rfl 0).trans hB.2.1.2.1, (q9.1 1126 rfl 0).trans hB.2.1.2.2.1, (q9.1 1142 rfl 0).trans hB.2.1.2.2.2⟩ ?_ ?_ ?_ ?_ ?_
        · intro l n hl
          refine ⟨?_, fun u1 u2 => (q9.2.1 103 rfl l).trans ((hB.2.2.1 l n hl).2 u1 u2)⟩
          exact KB_mono (hB.2.2.1 l n hl).1 ⟨q9.2.1 99 rfl l, q9.2.1 100 rfl l, q9.2.1 101 rfl l, q9.2.1 105 rfl l, q9.2.1 107 rfl l, q9.2.2.1 106 rfl l, fun i _ => q9.2.1 104 rfl _⟩ (fun j _ => ⟨q9.2.1 110 rfl j, q9.2.1 111 rfl j⟩) (Nat.le_refl _) (Nat.le_refl _) (Nat.le_refl _)
        · intro i hi
          rw [q9.2.1 96 rfl, q9.2.1 97 rfl]; exact hB.2.2.2.1 i hi
        · intro r hr
          rw [q9.2.1 90 rfl]; exact hB.2.2.2.2.1 r hr
        · intro s hs
          rw [q9.2.1 92 rfl, q9.2.1 93 rfl]; exact hB.2.2.2.2.2.1 s hs
        · have := hB.2.2.2.2.2.2
          omega
      by_cases h41 : x.kd (c + 1 + 1 + 1) = 41
      · rw [if_pos (hki.mpr h41), good_t (y5.g (by omega)), Option.bind_some]
        dsimp only
        rw [if_neg (show ¬ (1 : Int32) = 0 by decide), if_pos (show gI b5 1106 0 = (41 : Int32) from (sg_eq hx y5 (by omega) (q := 41) (by omega)).mpr h41)]
        have e97 : cR_takeProcess_97 tm_N (nI (L 3).length) 0 b5 = cR_takeProcess_150 (nI (L 3).length) b5 := by
          rw [show tm_N = 999999999 + 1 from rfl, cR_takeProcess_97.eq_2]
          unfold cR_takeProcess_97_b
          rw [if_pos rfl]
        rw [e97]
        exact body a5 b5 (c + 1 + 1 + 1) [] y4 y5 (by omega) (by omega) (by rw [Lv_nil]; exact hna5) (by rw [Lv_nil]; exact hnb5) (by rw [Lv_nil]; exact hnd) fa5 (fr_mono (by decide +kernel) fb5)
      · rw [if_neg (fun z => h41 (hki.mp z))]
        obtain ⟨r6, a6, b6, q1, q2, q3, q4, q5⟩ := params_lp hx (d := (L 3).length) (x.m + 1) tm_N 999999999 a5 b5 (c + 1 + 1 + 1) 0 (Lw L 3 [x.vl (c + 1)]) _ (by omega) (by unfold tm_N; omega) (by omega) (by omega) y4 y5 hna5 hnb5 hnd hL5'
        have q1 : cD_readWords 4 8 a5 = some (r6, a6) := q1
        have q2 : cR_takeProcess_97 tm_N (nI (L 3).length) 1 b5 = cR_takeProcess_150 (nI (L 3).length) b6 := q2
        have eR : (cR_good b5).bind (fun x16 => (if x16.1 = ((0 : Int32)) then cR_takeProcess_97 tm_N (nI (L 3).length) ((0 : Int32)) x16.2 else (if (gI x16.2 1106 0) = ((41 : Int32)) then cR_takeProcess_97 tm_N (nI (L 3).length) ((0 : Int32)) x16.2 else cR_takeProcess_97 tm_N (nI (L 3).length) ((1 : Int32)) x16.2))) = cR_takeProcess_150 (nI (L 3).length) b6 := by
          by_cases hk3 : x.kd (c + 1 + 1 + 1) = 1
          · have hbad := y5.nb hk3
            rw [good_f hbad, Option.bind_some]
            dsimp only
            rw [if_pos rfl, h97 b5 0 hbad, ← h97 b5 1 hbad]; exact q2
          · rw [good_t (y5.g hk3), Option.bind_some]
            dsimp only
            rw [if_neg (show ¬ (1 : Int32) = 0 by decide), if_neg (show ¬ gI b5 1106 0 = (41 : Int32) from fun z => h41 ((sg_eq hx y5 hk3 (q := 41) (by omega)).mp z))]
            exact q2
        rw [eR, q1, Option.bind_some]
        dsimp only
        have fb6 : fr (1119 :: 1123 :: 3095 :: 3098 :: wf_cR_next) b b6 := fr_tr (fr_mono (by decide +kernel) fb5) (fr_mono (by decide +kernel) q4)
        rcases q5 with ⟨g1, g2⟩ | ⟨g1, c1, Pn, g2, g3, g4, g5, g6, g7, g8⟩
        · rw [g1, if_pos rfl]
          obtain ⟨b7, e1, e2, e3⟩ := bad150 z7 g2.2.2 (LB_fr hLB5 q4 rfl)
          exact ⟨0, a6, b7, rfl, e1, e3, Or.inl ⟨rfl, Flt_FL g2 e2⟩⟩
        · rw [g1, if_neg (by decide)]
          exact body a6 b6 c1 Pn g4 g5 (by omega) (by omega) g6 g7 g8 (fr_tr fa5 q3) fb6
    · rw [y1, if_pos rfl, good_f y3.2.2, Option.bind_some]
      dsimp only
      rw [if_pos rfl, h97 b5 0 y3.2.2]
      obtain ⟨b7, e1, e2, e3⟩ := bad150 z7 y3.2.2 hLB5
      exact ⟨0, a5, b7, rfl, e1, e3, Or.inl ⟨rfl, Flt_FL y3 e2⟩⟩
