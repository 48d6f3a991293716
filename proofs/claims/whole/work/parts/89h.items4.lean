/-! Rows of words: numbers, parameters. -/
def Lw (L : Nat → List Int64) (q : Nat) (N : List Int64) : Nat → List Int64 := fun k => if k = q then L q ++ N else L k
theorem Lw_app (L : Nat → List Int64) (q : Nat) (N N1 : List Int64) : Lw (Lw L q N) q N1 = Lw L q (N ++ N1) := by
  funext k
  unfold Lw
  by_cases h : k = q
  · rw [if_pos h, if_pos rfl, if_pos h, List.append_assoc]
  · rw [if_neg h, if_neg h, if_neg h]
theorem Lw_ne {L : Nat → List Int64} {q k : Nat} {N : List Int64} (h : ¬ k = q) : Lw L q N k = L k := if_neg h
theorem Lw_eq {L : Nat → List Int64} {q : Nat} {N : List Int64} : Lw L q N q = L q ++ N := if_pos rfl
theorem bad100 {b : ts} (h : ¬ gI b 1103 0 = 0) : cR_takeNumbers_100 b = some b := by
  unfold cR_takeNumbers_100
  rw [must_bad h]; rfl
theorem bad6 {b : ts} {F : Nat} {t : Int32} (h : ¬ gI b 1103 0 = 0) : cR_takeNumbers_6 (F + 1) t b = cR_takeNumbers_100 b := by
  rw [cR_takeNumbers_6.eq_2]
  unfold cR_takeNumbers_6_b
  rw [good_f h, Option.bind_some]
  dsimp only
  rw [if_pos (show (0 : Int32) = 0 from rfl)]
  split <;> rfl
theorem bad88 {b : ts} {F : Nat} {t : Int32} (h : ¬ gI b 1103 0 = 0) : cR_takeNumbers_88 (cR_takeNumbers_6 (F + 1)) t b = cR_takeNumbers_100 b := by
  unfold cR_takeNumbers_88
  rw [next_bad h, Option.bind_some, bad6 h]
  split <;> rfl
theorem bad70 {b : ts} {F : Nat} (h : ¬ gI b 1103 0 = 0) : cR_takeNumbers_70 (cR_takeNumbers_6 (F + 1)) b = cR_takeNumbers_100 b := by
  unfold cR_takeNumbers_70
  rw [next_bad h, Option.bind_some, bad88 h, bad88 h]
  split <;> rfl
theorem numbers_lp {x : Cx} (hx : x.Ok) : ∀ (dd F F' : Nat) (a b : ts) (c i : Nat) (L : Nat → List Int64) (T : List (Nat × Nat)), x.m + 1 - c ≤ dd → dd < F → dd < F' → i ≤ c → SA x a c → SB x b c → NA a L T → NQ b L 0 → L 4 = [] → ND L → (∀ k, 5 ≤ k → L k = []) → ∃ r a1 b1, cD_readWords_2 F 2 16 (nI i) a = some (r, a1) ∧ cR_takeNumbers_6 (F' + 1) 1 b = cR_takeNumbers_100 b1 ∧ fr wf_cD_readNumbers a a1 ∧ fr wf_cR_takeNumbers b b1 ∧ ((r = 0 ∧ FL a1 b1) ∨ (r = 1 ∧ ∃ c1 N T1, c < c1 ∧ x.ps c ≤ x.ps c1 ∧ SA x a1 c1 ∧ SB x b1 c1 ∧ NA a1 (Lw L 2 N) T1 ∧ NQ b1 (Lw L 2 N) 0 ∧ ND (Lw L 2 N))) := by
  intro dd
  induction dd with
  | zero =>
    intro F F' a b c i L T h1 h2 h3 h4 ha
    exact absurd ha.l (by omega)
  | succ dd ih =>
    intro F F' a b c i L T h1 h2 h3 h4 ha hb hna hnb hL4 hd hL5
    have hcl := ha.l
    have hmn := hx.m
    have hn4 := hx.n
    have hm2 : (L 2).length ≤ 16 := hna.m 2 (by omega)
    have hF0 : ∃ F0, F = F0 + 1 := ⟨F - 1, by omega⟩
    obtain ⟨F0, hF0⟩ := hF0
    have hF1 : ∃ F1, F' = F1 + 1 := ⟨F' - 1, by omega⟩
    obtain ⟨F1, hF1⟩ := hF1
    obtain ⟨r, a2, b0, b2, t1, t2, t3, t4, t5, t6, t7⟩ := tell_sx hx (q := 2) ha hb hna (hnb.lt (by omega)) (by omega) (fun _ => hL4)
    have t1 : cD_tell 2 16 a = some (r, a2) := t1
    have t2 : cR_freshName 0 b = some b0 := t2
    have t3 : cR_limit (bI (Nat.blt (L 2).length 16)) b0 = some b2 := t3
    have e2 : cD_readWords_2 F 2 16 (nI i) a = (if r = ((0 : Int32)) then some ((0 : Int32), a2) else (if (gI a2 107 0) = ((44 : Int32)) then (cT_advance a2).bind (fun s5 => cD_readWords_2 F0 2 16 (nI (i + 1)) s5) else some ((1 : Int32), a2))) := by
      rw [hF0, cD_readWords_2.eq_2]
      unfold cD_readWords_2_b
      rw [if_neg (show ¬ (4001 : Int32) ≤ nI i from nI_ge (b := 4001) (by omega) (by decide)), t1, Option.bind_some, show nI i + (1 : Int32) = nI (i + 1) from nI_add i 1]
    rw [e2]
    by_cases hk1 : x.kd c = 1
    · rcases t7 with ⟨z1, z2⟩ | ⟨z1, z2, z3, z4, z5, z6, z7, z8, z9⟩
      · have hbad := hb.nb hk1
        have e0 : b0 = b := Option.some.inj (t2.symm.trans (fresh_bad hbad))
        have e3 : b2 = b0 := by rw [e0] at t3 ⊢; exact Option.some.inj (t3.symm.trans (limit_bad hbad))
        refine ⟨0, a2, b, by rw [if_pos z1], by rw [hF1]; exact bad6 hbad, fr_mono (by decide +kernel) t4, fr_rf, Or.inl ⟨rfl, ?_⟩⟩
        rw [← e0, ← e3]; exact z2
      · omega
    have hg := hb.g hk1
    have e6 : cR_takeNumbers_6 (F' + 1) 1 b = (cR_good b2).bind (fun x6 => (if x6.1 = ((0 : Int32)) then cR_takeNumbers_70 (cR_takeNumbers_6 F') x6.2 else (if am_idx (gI x6.2 1117 0) 16 = true then cR_takeNumbers_70 (cR_takeNumbers_6 F') (wI (wB x6.2 94 (gI x6.2 1117 0).toNatClampNeg (gJ x6.2 1108 0)) 1117 0 ((gI (wB x6.2 94 (gI x6.2 1117 0).toNatClampNeg (gJ x6.2 1108 0)) 1117 0) + ((1 : Int32)))) else none))) := by
      rw [cR_takeNumbers_6.eq_2]
      unfold cR_takeNumbers_6_b
      rw [if_neg (show ¬ (1 : Int32) = 0 by decide), good_t hg, Option.bind_some]
      dsimp only
      rw [if_neg (show ¬ (1 : Int32) = 0 by decide), t2, Option.bind_some, (t5.1 1117 rfl 0).trans hnb.n.1, show (16 : Int32) = nI 16 from rfl, limit_if (b := b0) (t := fun z => cR_takeNumbers_37 (cR_takeNumbers_6 F') z b0) (by omega) (by omega)]
      unfold cR_takeNumbers_37
      rw [t3, Option.bind_some]
    rw [e6]
    rcases t7 with ⟨z1, z2⟩ | ⟨z1, z2, z3, z4, z5, z6, z7, z8, z9⟩
    · refine ⟨0, a2, b2, by rw [if_pos z1], ?_, fr_mono (by decide +kernel) t4, fr_mono (by decide +kernel) (fr_tr t5 t6), Or.inl ⟨rfl, z2⟩⟩
      rw [good_f z2.2.2, Option.bind_some]
      dsimp only
      rw [if_pos rfl, hF1]; exact bad70 z2.2.2
    · subst z3
      have z7 : (L 2).length < 16 := z7
      have hwd : gJ b2 1108 0 = x.vl c := (hb.nx.2 hk1).2.2.2.2.1 (Or.inl z4)
      have h17 : gI b2 1117 0 = nI (L 2).length := hnb.n.1
      have hp := hx.p1 (c := c) (by omega)
      have fst : fr [1117, 3094] b2 (wI (wB b2 94 (L 2).length (x.vl c)) 1117 0 (nI ((L 2).length + 1))) := fr_wI (fr_wB fr_rf rfl) rfl
      have e7 : (cR_good b2).bind (fun x6 => (if x6.1 = ((0 : Int32)) then cR_takeNumbers_70 (cR_takeNumbers_6 F') x6.2 else (if am_idx (gI x6.2 1117 0) 16 = true then cR_takeNumbers_70 (cR_takeNumbers_6 F') (wI (wB x6.2 94 (gI x6.2 1117 0).toNatClampNeg (gJ x6.2 1108 0)) 1117 0 ((gI (wB x6.2 94 (gI x6.2 1117 0).toNatClampNeg (gJ x6.2 1108 0)) 1117 0) + ((1 : Int32)))) else none))) = cR_takeNumbers_70 (cR_takeNumbers_6 F') (wI (wB b2 94 (L 2).length (x.vl c)) 1117 0 (nI ((L 2).length + 1))) := by
        rw [good_t hg, Option.bind_some]
        dsimp only
        rw [if_neg (by decide)]
        simp (disch := first | assumption | omega) only [sx, if_pos, if_neg, bnd, Nat.reduceEqDiff, Nat.reduceAdd, Nat.reduceMul, Nat.reduceSub, and_true, true_and, and_false, false_and, or_true, true_or, or_false, false_or, if_true, if_false, eq_self, not_true, not_false_eq_true, h17, hwd]
      rw [e7]
      have hsb3 := SB_fr fst rfl rfl hb
      have hnb3 : NQ (wI (wB b2 94 (L 2).length (x.vl c)) 1117 0 (nI ((L 2).length + 1))) (Lw L 2 [x.vl c]) 0 := by
        refine ⟨nb_fr fst rfl rfl hnb.r, nb_fr fst rfl rfl hnb.s, ?_, nb_fr fst rfl rfl hnb.d, fun z => by omega⟩
        rw [Lw_eq]
        refine nb_snoc hnb.n gI_wIs ?_ ?_
        · intro k hk; simp (disch := first | assumption | omega) only [sx, if_pos, if_neg, bnd, Nat.reduceEqDiff, Nat.reduceAdd, Nat.reduceMul, Nat.reduceSub, and_true, true_and, and_false, false_and, or_true, true_or, or_false, false_or, if_true, if_false, eq_self, not_true, not_false_eq_true]
        · simp (disch := first | assumption | omega) only [sx, if_pos, if_neg, bnd, Nat.reduceEqDiff, Nat.reduceAdd, Nat.reduceMul, Nat.reduceSub, and_true, true_and, and_false, false_and, or_true, true_or, or_false, false_or, if_true, if_false, eq_self, not_true, not_false_eq_true]
      generalize wI (wB b2 94 (L 2).length (x.vl c)) 1117 0 (nI ((L 2).length + 1)) = b3 at fst hsb3 hnb3
      obtain ⟨b4, n1, n2, n3⟩ := nxt_ok hx hsb3 (by omega)
      have hnb4 : NQ b4 (Lw L 2 [x.vl c]) 0 := NQ_fr n3 rfl hnb3
      have hlt1 := hx.lt (c + 1)
      have hnd : ND (Lw L 2 [x.vl c]) := ND_add hd (q := 2) (by omega) (fun _ => hL4) hL5 z6
      have hki : gI a2 107 0 = (44 : Int32) ↔ x.kd (c + 1) = 44 := by
        rw [z8.ki]; exact ⟨fun z => nI_inj (a := x.kd (c + 1)) (b := 44) (by omega) (by decide) z, fun z => by rw [z]; rfl⟩
      have fb4 : fr wf_cR_takeNumbers b2 b4 := fr_tr (fr_mono (by decide +kernel) fst) (fr_mono (by decide +kernel) n3)
      rw [if_neg (by rw [z1]; decide)]
      unfold cR_takeNumbers_70
      rw [n1, Option.bind_some]
      have one : ∀ b5, cR_takeNumbers_6 (F' + 1) 1 b2 = cR_takeNumbers_6 (F' + 1) 1 b2 → b5 = b4 → True := fun _ _ _ => trivial
      by_cases hk2 : x.kd (c + 1) = 1
      · have hbad := n2.nb hk2
        refine ⟨1, a2, b4, by rw [if_neg (fun z => by have := hki.mp z; omega)], ?_, fr_mono (by decide +kernel) t4, fb4, Or.inr ⟨rfl, c + 1, [x.vl c], _, by omega, by omega, z8, n2, z9, hnb4, hnd⟩⟩
        rw [hF1, bad88 hbad, bad88 hbad]
        split <;> rfl
      · have s44 : gI b4 1106 0 = (44 : Int32) ↔ x.kd (c + 1) = 44 := sg_eq hx n2 hk2 (q := 44) (by omega)
        by_cases h44 : x.kd (c + 1) = 44
        · have hcm1 := hx.lm z8.l (show 2 ≤ x.kd (c + 1) by omega)
          have hp1 := hx.p1 (c := c + 1) (by omega)
          obtain ⟨v1, v2⟩ := adv_ok hx z8 hcm1
          obtain ⟨b5, m1, m2, m3⟩ := nxt_ok hx n2 (by omega)
          rw [if_pos (hki.mpr h44), v1, Option.bind_some, if_pos (s44.mpr h44)]
          unfold cR_takeNumbers_88
          rw [if_neg (show ¬ (1 : Int32) = 0 by decide), m1, Option.bind_some, hF1]
          have hl4 : Lw L 2 [x.vl c] 4 = [] := hL4
          have hl5 : ∀ k, 5 ≤ k → Lw L 2 [x.vl c] k = [] := fun k hk => (Lw_ne (by omega)).trans (hL5 k hk)
          obtain ⟨r5, a6, b6, q1, q2, q3, q4, q5⟩ := ih F0 F1 (av x a2 (c + 1 + 1)) b5 (c + 1 + 1) (i + 1) (Lw L 2 [x.vl c]) _ (by omega) (by omega) (by omega) (by omega) v2 m2 (NA_fr (W := [106, 107]) fr_av rfl z9) (NQ_fr m3 rfl hnb4) hl4 hnd hl5
          refine ⟨r5, a6, b6, q1, q2, fr_tr (fr_mono (by decide +kernel) t4) (fr_tr (fr_mono (V := [106, 107]) (by decide +kernel) fr_av) q3), fr_tr fb4 (fr_tr (fr_mono (by decide +kernel) m3) q4), ?_⟩
          rcases q5 with q5 | ⟨g1, c1, N, T1, g2, g3, g4, g5, g6, g7, g8⟩
          · exact Or.inl q5
          · rw [Lw_app] at g6 g7 g8
            exact Or.inr ⟨g1, c1, [x.vl c] ++ N, T1, by omega, by omega, g4, g5, g6, g7, g8⟩
        · rw [if_neg (fun z => h44 (hki.mp z)), if_neg (fun z => h44 (s44.mp z))]
          refine ⟨1, a2, b4, rfl, ?_, fr_mono (by decide +kernel) t4, fb4, Or.inr ⟨rfl, c + 1, [x.vl c], _, by omega, by omega, z8, n2, z9, hnb4, hnd⟩⟩
          unfold cR_takeNumbers_88
          rw [if_pos rfl, hF1, cR_takeNumbers_6.eq_2]
          unfold cR_takeNumbers_6_b
          rw [if_pos rfl]
theorem readNumbers_ok {x : Cx} (hx : x.Ok) {L : Nat → List Int64} {T : List (Nat × Nat)} {pm en vc un rm : Nat → Nat} {G : List Ln} {τ : Nat → Int32} {a b : ts} {c q K K' : Nat} (hA : IXA x L T pm en vc un rm G τ a c q K) (hB : IXB x L pm en un rm G τ b c q K') (hP : IXP L pm en vc un rm G τ) (hkd : x.kd c = 514) : ∃ r a1 b1, cD_readNumbers a = some (r, a1) ∧ cR_takeNumbers b = some b1 ∧ OutI x c r a1 b1 := by
  have hcl := hA.1.1.l
  have hcm := hx.lm hcl (by omega)
  have hp := hx.p1 (c := c) (by omega)
  have hmn := hx.m
  have hn4 := hx.n
  have hG := IXA_G hA
  obtain ⟨hd, h4, hL5, hRT, hDF, hlast, hUR⟩ := hP
  obtain ⟨v1, v2⟩ := adv_ok hx hA.1.1 hcm
  obtain ⟨b1, n1, n2, n3⟩ := nxt_ok hx hB.1.1 (by omega)
  have hna1 : NA (av x a (c + 1)) L T := NA_fr (W := [106, 107]) fr_av rfl hA.1.2.1
  have hnb1 : NQ b1 L 0 := NQ_fr n3 rfl hB.1.2
  have hLB1 : LB b1 := LB_fr ⟨_, (by omega : G.length ≤ 600), hB.2.1.1⟩ n3 rfl
  unfold cD_readNumbers cR_takeNumbers cD_readWords
  rw [v1, Option.bind_some, n1, Option.bind_some, show tm_N = 999999999 + 1 from rfl]
  obtain ⟨r, a2, b2, t1, t2, t3, t4, t5⟩ := numbers_lp hx (x.m + 1) (999999999 + 1) 999999999 (av x a (c + 1)) b1 (c + 1) 0 L T (by omega) (by omega) (by omega) (by omega) v2 n2 hna1 hnb1 h4 hd hL5
  have t1 : cD_readWords_2 (999999999 + 1) 2 16 0 (av x a (c + 1)) = some (r, a2) := t1
  rw [t1, Option.bind_some, t2]
  dsimp only
  have hLB2 : LB b2 := LB_fr hLB1 t4 rfl
  rcases t5 with ⟨z1, z2⟩ | ⟨z1, c1, N, T1, z2, z3, z4, z5, z6, z7, z8⟩
  · rw [z1, if_pos rfl]
    exact ⟨0, a2, b2, rfl, bad100 z2.2.2, LB7_of hLB2, Or.inl ⟨rfl, z2⟩⟩
  · rw [z1, if_neg (by decide)]
    obtain ⟨r6, a6, b6, q1, q2, q3, q4, q5⟩ := nm_ok hx z4 z5 (q := 59) (by omega)
    have q1 : cT_need 59 a2 = some (r6, a6) := q1
    have q2 : cR_must 59 b2 = some b6 := q2
    unfold cR_takeNumbers_100
    rw [q1, Option.bind_some, q2, Option.bind_some]
    dsimp only
    have hLB6 : LB b6 := LB_fr hLB2 q5 rfl
    rcases q3 with ⟨g1, g2, g3, g4, g5⟩ | ⟨g1, g2, g3⟩
    · have hp1 := hx.p1 (c := c1) (by omega)
      refine ⟨1, a6, b6, by rw [g1, if_neg (by decide)], rfl, LB7_of hLB6, Or.inr ⟨rfl, Lw L 2 N, T1, pm, en, vc, un, rm, G, τ, c1 + 1, q, K, K', by omega, ?_, ?_, ?_⟩⟩
      · have fa : fr wf_cD_readNumbers a a6 := fr_tr (fr_mono (V := [106, 107]) (by decide +kernel) fr_av) (fr_tr t3 (fr_mono (by decide +kernel) q4))
        refine IXA_items hA (fr_mono (by decide +kernel) fa) g4 (NA_fr q4 rfl z6) (Lw_ne (by decide)) ?_ (by omega)
        intro p hp
        rw [fa.2.1 17 rfl, fa.2.1 18 rfl]; exact hA.2.2.2.2.2.2.1 p hp
      · have fb : fr wf_cR_takeNumbers b b6 := fr_tr (fr_mono (by decide +kernel) n3) (fr_tr t4 (fr_mono (by decide +kernel) q5))
        refine IXB_items hB (fr_mono (by decide +kernel) fb) g5 (NQ_fr q5 rfl z7) (Lw_ne (by decide)) (by rw [Lw_ne (by decide)]; exact Nat.le_refl _) (by rw [Lw_ne (by decide)]; exact Nat.le_refl _) ?_ ?_ (by omega)
        · intro r hr
          rw [Lw_ne (by decide)] at hr
          rw [fb.2.1 90 rfl]; exact hB.2.2.2.2.1 r hr
        · intro s hs
          rw [Lw_ne (by decide)] at hs
          rw [fb.2.1 92 rfl, fb.2.1 93 rfl]; exact hB.2.2.2.2.2.1 s hs
      · refine ⟨z8, (Lw_ne (by decide)).trans h4, fun k hk => (Lw_ne (by omega)).trans (hL5 k hk), hRT, ?_, hlast, ?_⟩
        · intro d hd'
          rw [Lw_ne (by decide)] at hd'
          exact hDF d hd'
        · unfold UR
          rw [Lw_ne (by decide), Lw_ne (by decide)]; exact hUR
    · exact ⟨0, a6, b6, by rw [g1, if_pos rfl], rfl, LB7_of hLB6, Or.inl ⟨rfl, g3⟩⟩
