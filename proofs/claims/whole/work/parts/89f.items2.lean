/-! Resources, stores, numbers. -/
def LB7 (b : ts) : Prop := ∃ l, l ≤ 700 ∧ gI b 1125 0 = nI l
theorem LB7_of {b : ts} (h : LB b) : LB7 b := by
  obtain ⟨l, h1, h2⟩ := h
  exact ⟨l, by omega, h2⟩
def OutI (x : Cx) (c : Nat) (r : Int32) (a1 b1 : ts) : Prop := LB7 b1 ∧ ((r = 0 ∧ FL a1 b1) ∨ (r = 1 ∧ ∃ L T pm en vc un rm G τ c1 q K K', c < c1 ∧ IXA x L T pm en vc un rm G τ a1 c1 q K ∧ IXB x L pm en un rm G τ b1 c1 q K' ∧ IXP L pm en vc un rm G τ))
theorem Lu_ne {L : Nat → List Int64} {q k : Nat} {w : Int64} (h : ¬ k = q) : Lu L q w k = L k := if_neg h
theorem Lu_eq {L : Nat → List Int64} {q : Nat} {w : Int64} : Lu L q w q = L q ++ [w] := if_pos rfl
theorem bad127 {b : ts} (h : ¬ gI b 1103 0 = 0) : cR_takeResource_127 b = some b := by
  unfold cR_takeResource_127
  rw [next_bad h, Option.bind_some, must_bad h]; rfl
theorem bad61 {b : ts} {w : Int64} (h : ¬ gI b 1103 0 = 0) : cR_takeResource_61 w b = some b := by
  have e : ∀ t, cR_takeResource_84 w t b = some b := by
    intro t
    unfold cR_takeResource_84
    rw [limit_bad h, Option.bind_some, good_f h, Option.bind_some]
    dsimp only
    rw [if_pos rfl]; exact bad127 h
  unfold cR_takeResource_61
  rw [e, e]
  split
  · rfl
  · split <;> rfl
theorem limit_if {b : ts} {n m : Nat} {t : Int32 → Option ts} (hn : n < 2 ^ 30) (hm : m < 2 ^ 30) : (if nI m ≤ nI n then t 0 else t 1) = t (bI (Nat.blt n m)) := by
  by_cases h : n < m
  · have hb : Nat.blt n m = true := Nat.ble_eq_true_of_le h
    rw [if_neg (nI_ge h (by omega)), hb]; rfl
  · have hb : Nat.blt n m = false := by
      cases hh : Nat.blt n m with
      | false => rfl
      | true => exact absurd (Nat.le_of_ble_eq_true hh) h
    rw [if_pos (nI_le (by omega) (by omega)), hb]; rfl
theorem i32_nat {v : Int32} {n : Nat} (h : 0 ≤ v) (hn : v ≤ nI n) (hn2 : n < 2 ^ 30) : ∃ u, v = nI u ∧ u ≤ n := by
  obtain ⟨j, h1, h2⟩ := nI_of (x := v) (Int32.not_lt.mpr h)
  refine ⟨j, h2, ?_⟩
  rw [h2] at hn
  by_cases hj : j ≤ n
  · exact hj
  · exact absurd hn (nI_ge (by omega) h1)
theorem readResource_ok {x : Cx} (hx : x.Ok) {L : Nat → List Int64} {T : List (Nat × Nat)} {pm en vc un rm : Nat → Nat} {G : List Ln} {τ : Nat → Int32} {a b : ts} {c q K K' : Nat} (hA : IXA x L T pm en vc un rm G τ a c q K) (hB : IXB x L pm en un rm G τ b c q K') (hP : IXP L pm en vc un rm G τ) (hkd : x.kd c = 512) : ∃ r a1 b1, cD_readResource a = some (r, a1) ∧ cR_takeResource b = some b1 ∧ OutI x c r a1 b1 := by
  have hcl := hA.1.1.l
  have hcm := hx.lm hcl (by omega)
  have hp := hx.p1 (c := c) (by omega)
  have hG := IXA_G hA
  obtain ⟨hd, h4, hL5, hRT, hDF, hlast, hUR⟩ := hP
  have hm0 : (L 0).length ≤ 8 := hA.1.2.1.m 0 (by omega)
  obtain ⟨v1, v2⟩ := adv_ok hx hA.1.1 hcm
  obtain ⟨b1, n1, n2, n3⟩ := nxt_ok hx hB.1.1 (by omega)
  have hna1 : NA (av x a (c + 1)) L T := NA_fr (W := [106, 107]) fr_av rfl hA.1.2.1
  have hnb1 : NQ b1 L 0 := NQ_fr n3 rfl hB.1.2
  have hLB1 : LB b1 := LB_fr ⟨_, (by omega : G.length ≤ 600), hB.2.1.1⟩ n3 rfl
  have h16 : gA (av x a (c + 1)) 16 0 = nI (L 0).length := hna1.c 0 (by omega)
  unfold cD_readResource cR_takeResource
  rw [v1, Option.bind_some, n1, Option.bind_some, show gA (av x a (c + 1)) 16 ((0 : Int32)).toNatClampNeg = nI (L 0).length from h16]
  generalize av x a (c + 1) = s1 at v2 hna1 v1
  obtain ⟨r, a2, b0, b2, t1, t2, t3, t4, t5, t6, t7⟩ := tell_sx hx (q := 0) v2 n2 hna1 (hnb1.lt (by omega)) (by omega) (fun _ => h4)
  have t1 : cD_tell 0 8 s1 = some (r, a2) := t1
  have t2 : cR_freshName 0 b1 = some b0 := t2
  rw [t1, Option.bind_some, t2, Option.bind_some, (t5.1 1110 rfl 0).trans hnb1.r.1]
  dsimp only
  rw [show (8 : Int32) = nI 8 from rfl, limit_if (b := b0) (t := fun z => cR_takeResource_24 z b0) (by omega) (by omega)]
  unfold cR_takeResource_24
  have t3 : cR_limit (bI (Nat.blt (L 0).length 8)) b0 = some b2 := t3
  rw [t3, Option.bind_some]
  have hLB2 : LB b2 := LB_fr (LB_fr hLB1 t5 rfl) t6 rfl
  rcases t7 with ⟨z1, z2⟩ | ⟨z1, z2, z3, z4, z5, z6, z7, z8, z9⟩
  · rw [z1, if_pos rfl, next_bad z2.2.2, Option.bind_some, good_f z2.2.2, Option.bind_some]
    dsimp only
    rw [if_pos rfl, bad61 z2.2.2]
    exact ⟨0, a2, b2, rfl, rfl, LB7_of hLB2, Or.inl ⟨rfl, z2⟩⟩
  · subst z3
    have z7 : (L 0).length < 8 := z7
    have hp1 := hx.p1 (c := c + 1) (by omega)
    have hwd : gJ b2 1108 0 = x.vl (c + 1) := (n2.nx.2 (show x.kd (c + 1) ≠ 1 by omega)).2.2.2.2.1 (Or.inl z4)
    obtain ⟨b3, m1, m2, m3⟩ := nxt_ok hx n2 (by omega)
    rw [z1, if_neg (by decide), m1, Option.bind_some, hwd]
    have hLB3 : LB b3 := LB_fr hLB2 m3 rfl
    obtain ⟨r3, a3, k1, k2, k3⟩ := check_sx hx z8 m2 1 99
    rw [k1, Option.bind_some]
    dsimp only
    rcases k3 with ⟨y1, y2, y3⟩ | ⟨y1, y2, y3, bf, y4, y5, y6⟩ | ⟨y1, y2, y3, bf, y4, y5, y6⟩ | ⟨y1, y2, y3, y4, y5⟩
    · rw [y1, if_pos rfl, good_f (m2.nb y2), Option.bind_some]
      dsimp only
      rw [if_pos rfl, bad61 (m2.nb y2)]
      exact ⟨0, a3, b3, rfl, rfl, LB7_of hLB3, Or.inl ⟨rfl, y3⟩⟩
    · rw [y1, if_pos rfl, good_t (m2.g y2), Option.bind_some]
      dsimp only
      rw [if_neg (by decide), if_neg (fun z => y3 ((num2 hx m2 y2).mp z))]
      unfold cR_takeResource_57
      rw [y4, Option.bind_some, bad61 y5.2.2]
      exact ⟨0, a3, bf, rfl, rfl, LB7_of (LB_fr hLB3 y6 rfl), Or.inl ⟨rfl, y5⟩⟩
    · have h1' : x.kd (c + 1 + 1) ≠ 1 := by omega
      have hg := m2.g h1'
      have hdg : gI b3 1109 0 = (x.vl (c + 1 + 1)).toInt32 := (m2.nx.2 h1').2.2.2.2.2 y2
      rw [y1, if_pos rfl, good_t hg, Option.bind_some]
      dsimp only
      rw [if_neg (by decide), if_pos ((num2 hx m2 h1').mpr y2)]
      unfold cR_takeResource_57
      rw [need_t, Option.bind_some]
      have e0 : cR_takeResource_84 (x.vl (c + 1)) 0 b3 = some bf := by
        unfold cR_takeResource_84 cR_limit
        rw [good_t hg, Option.bind_some]
        dsimp only
        rw [if_neg (by decide), y4, Option.bind_some, Option.bind_some, good_f y5.2.2, Option.bind_some]
        dsimp only
        rw [if_pos rfl]; exact bad127 y5.2.2
      refine ⟨0, a3, bf, rfl, ?_, LB7_of (LB_fr hLB3 y6 rfl), Or.inl ⟨rfl, y5⟩⟩
      unfold cR_takeResource_61
      rw [hdg, e0]
      by_cases hl : (x.vl (c + 1 + 1)).toInt32 < 1
      · rw [if_pos hl]
      · rw [if_neg hl, if_pos]
        exact Int32.not_le.mp (fun z => y3 ⟨Int32.not_lt.mp hl, z⟩)
    · subst y3
      have h1' : x.kd (c + 1 + 1) ≠ 1 := by omega
      have hg := m2.g h1'
      have hdg : gI b3 1109 0 = (x.vl (c + 1 + 1)).toInt32 := (m2.nx.2 h1').2.2.2.2.2 y2
      obtain ⟨u, hu, hu2⟩ := i32_nat (n := 99) (Int32.le_trans (by decide) y4) y5 (by omega)
      have hu1 : 1 ≤ u := by
        rw [hu] at y4
        by_cases h0 : u = 0
        · rw [h0] at y4; exact absurd y4 (by decide)
        · omega
      rw [y1, if_neg (by decide), value1 hx z8, Option.bind_some]
      dsimp only
      rw [value1 hx z8, Option.bind_some]
      dsimp only
      rw [hu] at hdg y4 y5 ⊢
      -- the program's place
      have eset : cD_setPlace (nI (L 0).length) (nI u) (nI u) a3 = some (wA (wA a3 17 (L 0).length (nI u)) 18 (L 0).length (nI u)) := by
        unfold cD_setPlace
        simp (disch := first | assumption | omega) only [sx, if_pos, if_neg, bnd, Nat.reduceEqDiff, Nat.reduceAdd, Nat.reduceMul, Nat.reduceSub, and_true, true_and, and_false, false_and, or_true, true_or, or_false, false_or, if_true, if_false, eq_self, not_true, not_false_eq_true]
      rw [eset, Option.bind_some]
      have fset : fr [2017, 2018] a3 (wA (wA a3 17 (L 0).length (nI u)) 18 (L 0).length (nI u)) := fr_wA (fr_wA fr_rf rfl) rfl
      have ha4 := SA_fr fset rfl z8
      have hcm2 := hx.lm ha4.l (show 2 ≤ x.kd (c + 1 + 1) by omega)
      have hp2 := hx.p1 (c := c + 1 + 1) (by omega)
      obtain ⟨w1, w2⟩ := adv_ok hx ha4 hcm2
      rw [w1, Option.bind_some]
      -- the reference's
      have fst : fr [1110, 2090, 3089] b3 (wI (wA (wB b3 89 (L 0).length (x.vl (c + 1))) 90 (L 0).length (nI u)) 1110 0 (nI ((L 0).length + 1))) := fr_wI (fr_wA (fr_wB fr_rf rfl) rfl) rfl
      have h1110 : gI b3 1110 0 = nI (L 0).length := (m3.1 1110 rfl 0).trans hnb1.r.1
      have e84 : cR_takeResource_84 (x.vl (c + 1)) 1 b3 = cR_takeResource_127 (wI (wA (wB b3 89 (L 0).length (x.vl (c + 1))) 90 (L 0).length (nI u)) 1110 0 (nI ((L 0).length + 1))) := by
        unfold cR_takeResource_84 cR_limit
        rw [good_t hg, Option.bind_some]
        dsimp only
        rw [if_neg (by decide), need_t, Option.bind_some, Option.bind_some, good_t hg, Option.bind_some]
        dsimp only
        rw [if_neg (by decide)]
        simp (disch := first | assumption | omega) only [sx, if_pos, if_neg, bnd, Nat.reduceEqDiff, Nat.reduceAdd, Nat.reduceMul, Nat.reduceSub, and_true, true_and, and_false, false_and, or_true, true_or, or_false, false_or, if_true, if_false, eq_self, not_true, not_false_eq_true, h1110, hdg]
      have eR : (cR_good b3).bind (fun x9 => (if x9.1 = ((0 : Int32)) then cR_takeResource_61 (x.vl (c + 1)) x9.2 else (if (gI x9.2 1106 0) = ((2 : Int32)) then cR_takeResource_57 (x.vl (c + 1)) ((1 : Int32)) x9.2 else cR_takeResource_57 (x.vl (c + 1)) ((0 : Int32)) x9.2))) = cR_takeResource_127 (wI (wA (wB b3 89 (L 0).length (x.vl (c + 1))) 90 (L 0).length (nI u)) 1110 0 (nI ((L 0).length + 1))) := by
        rw [good_t hg, Option.bind_some]
        dsimp only
        rw [if_neg (by decide), if_pos ((num2 hx m2 h1').mpr y2)]
        unfold cR_takeResource_57
        rw [need_t, Option.bind_some]
        unfold cR_takeResource_61
        rw [hdg, if_neg (show ¬ nI u < (1 : Int32) from Int32.not_lt.mpr y4), if_neg (show ¬ (99 : Int32) < nI u from Int32.not_lt.mpr y5)]
        exact e84
      rw [eR]
      have hsb4 := SB_fr fst rfl rfl m2
      generalize hb4 : wI (wA (wB b3 89 (L 0).length (x.vl (c + 1))) 90 (L 0).length (nI u)) 1110 0 (nI ((L 0).length + 1)) = b4 at fst hsb4
      obtain ⟨b5, o1, o2, o3⟩ := nxt_ok hx hsb4 (by omega)
      unfold cR_takeResource_127
      rw [o1, Option.bind_some, bind_eta1]
      obtain ⟨r6, a6, b6, q1, q2, q3, q4, q5⟩ := nm_ok hx w2 o2 (q := 59) (by omega)
      have q1 : cT_need 59 (av x (wA (wA a3 17 (L 0).length (nI u)) 18 (L 0).length (nI u)) (c + 1 + 1 + 1)) = some (r6, a6) := q1
      have q2 : cR_must 59 b5 = some b6 := q2
      rw [q1, Option.bind_some, q2]
      have hLB6 : LB b6 := LB_fr (LB_fr (LB_fr hLB3 fst rfl) o3 rfl) q5 rfl
      refine ⟨r6, a6, b6, rfl, rfl, LB7_of hLB6, ?_⟩
      rcases q3 with ⟨g1, g2, g3, g4, g5⟩ | ⟨g1, g2, g3⟩
      · right
        have hp3 := hx.p1 (c := c + 1 + 1 + 1) (by omega)
        have fa : fr wf_cD_readResource a a6 := fr_tr (fr_mono (V := [106, 107]) (by decide +kernel) (by
          have := cT_advance_fr _ _ v1
          exact fr_mono (by decide +kernel) this)) (fr_tr (fr_mono (by decide +kernel) t4) (fr_tr (fr_mono (by decide +kernel) fset) (fr_tr (fr_mono (V := [106, 107]) (by decide +kernel) fr_av) (fr_mono (by decide +kernel) q4))))
        have fb : fr wIt b b6 := fr_tr (fr_mono (by decide +kernel) n3) (fr_tr (fr_mono (by decide +kernel) m3) (fr_tr (fr_mono (by decide +kernel) fst) (fr_tr (fr_mono (by decide +kernel) o3) (fr_mono (by decide +kernel) q5))))
        have f36 : fr (1110 :: 2090 :: 3089 :: wf_cR_next) b b6 := fr_tr (fr_mono (by decide +kernel) n3) (fr_tr (fr_mono (by decide +kernel) m3) (fr_tr (fr_mono (by decide +kernel) fst) (fr_tr (fr_mono (by decide +kernel) o3) (fr_mono (by decide +kernel) q5))))
        have f46 : fr wf_cR_next b4 b6 := fr_tr o3 q5
        have hna6 : NA a6 (Lu L 0 (x.vl (c + 1))) (T ++ [(0, (L 0).length)]) := NA_fr q4 rfl (NA_fr (W := [106, 107]) fr_av rfl (NA_fr fset rfl z9))
        have fa2 : fr wf_cD_tell a a3 := fr_tr (fr_mono (by decide +kernel) (cT_advance_fr _ _ v1)) t4
        refine ⟨g1, Lu L 0 (x.vl (c + 1)), T ++ [(0, (L 0).length)], pm, en, vc, (fun p => if p = (L 0).length then u else un p), (fun p => if p = (L 0).length then u else rm p), G, τ, c + 1 + 1 + 1 + 1, q, K, K', by omega, ?_, ?_, ?_⟩
        · refine IXA_items hA fa g4 hna6 (Lu_ne (by decide)) ?_ (by omega)
          intro p hp
          have e17 : gA a6 17 p = gA (wA (wA a3 17 (L 0).length (nI u)) 18 (L 0).length (nI u)) 17 p := q4.2.1 17 rfl p
          have e18 : gA a6 18 p = gA (wA (wA a3 17 (L 0).length (nI u)) 18 (L 0).length (nI u)) 18 p := q4.2.1 18 rfl p
          rw [e17, e18]
          by_cases ep : p = (L 0).length
          · rw [if_pos ep, if_pos ep, ep]
            exact ⟨by simp (disch := first | assumption | omega) only [sx, if_pos, if_neg, bnd, Nat.reduceEqDiff, Nat.reduceAdd, Nat.reduceMul, Nat.reduceSub, and_true, true_and, and_false, false_and, or_true, true_or, or_false, false_or, if_true, if_false, eq_self, not_true, not_false_eq_true], by simp (disch := first | assumption | omega) only [sx, if_pos, if_neg, bnd, Nat.reduceEqDiff, Nat.reduceAdd, Nat.reduceMul, Nat.reduceSub, and_true, true_and, and_false, false_and, or_true, true_or, or_false, false_or, if_true, if_false, eq_self, not_true, not_false_eq_true]⟩
          · rw [if_neg ep, if_neg ep]
            have h17 := hA.2.2.2.2.2.2.1 p hp
            refine ⟨?_, ?_⟩
            · rw [← h17.1, ← fa2.2.1 17 rfl p]; simp (disch := first | assumption | omega) only [sx, if_pos, if_neg, bnd, Nat.reduceEqDiff, Nat.reduceAdd, Nat.reduceMul, Nat.reduceSub, and_true, true_and, and_false, false_and, or_true, true_or, or_false, false_or, if_true, if_false, eq_self, not_true, not_false_eq_true]
            · rw [← h17.2, ← fa2.2.1 18 rfl p]; simp (disch := first | assumption | omega) only [sx, if_pos, if_neg, bnd, Nat.reduceEqDiff, Nat.reduceAdd, Nat.reduceMul, Nat.reduceSub, and_true, true_and, and_false, false_and, or_true, true_or, or_false, false_or, if_true, if_false, eq_self, not_true, not_false_eq_true]
        · have hl0 : (Lu L 0 (x.vl (c + 1)) 0).length = (L 0).length + 1 := by rw [Lu_eq, List.length_append]; rfl
          refine IXB_items hB fb g5 ?_ (Lu_ne (by decide)) (by rw [hl0]; omega) (by rw [Lu_ne (by decide)]; exact Nat.le_refl _) ?_ ?_ (by omega)
          · refine ⟨?_, nb_fr f36 rfl rfl hB.1.2.s, nb_fr f36 rfl rfl hB.1.2.n, nb_fr f36 rfl rfl hB.1.2.d, ?_⟩
            · rw [Lu_eq]
              refine nb_snoc hB.1.2.r ?_ ?_ ?_
              · rw [f46.1 1110 rfl, ← hb4]; exact gI_wIs
              · intro k hk
                rw [f46.2.2.1 89 rfl, ← hb4, ← n3.2.2.1 89 rfl k, ← m3.2.2.1 89 rfl k]
                simp (disch := first | assumption | omega) only [sx, if_pos, if_neg, bnd, Nat.reduceEqDiff, Nat.reduceAdd, Nat.reduceMul, Nat.reduceSub, and_true, true_and, and_false, false_and, or_true, true_or, or_false, false_or, if_true, if_false, eq_self, not_true, not_false_eq_true]
              · rw [f46.2.2.1 89 rfl, ← hb4]; simp (disch := first | assumption | omega) only [sx, if_pos, if_neg, bnd, Nat.reduceEqDiff, Nat.reduceAdd, Nat.reduceMul, Nat.reduceSub, and_true, true_and, and_false, false_and, or_true, true_or, or_false, false_or, if_true, if_false, eq_self, not_true, not_false_eq_true]
            · exact fun z => by omega
          · intro r hr
            rw [hl0] at hr
            rw [f46.2.1 90 rfl, ← hb4]
            by_cases er : r = (L 0).length
            · rw [if_pos er, er]; simp (disch := first | assumption | omega) only [sx, if_pos, if_neg, bnd, Nat.reduceEqDiff, Nat.reduceAdd, Nat.reduceMul, Nat.reduceSub, and_true, true_and, and_false, false_and, or_true, true_or, or_false, false_or, if_true, if_false, eq_self, not_true, not_false_eq_true]
            · rw [if_neg er, ← hB.2.2.2.2.1 r (by omega), ← n3.2.1 90 rfl r, ← m3.2.1 90 rfl r]; simp (disch := first | assumption | omega) only [sx, if_pos, if_neg, bnd, Nat.reduceEqDiff, Nat.reduceAdd, Nat.reduceMul, Nat.reduceSub, and_true, true_and, and_false, false_and, or_true, true_or, or_false, false_or, if_true, if_false, eq_self, not_true, not_false_eq_true]
          · intro s hs
            rw [Lu_ne (by decide)] at hs
            have hm1 : (L 1).length ≤ 6 := hA.1.2.1.m 1 (by omega)
            rw [f36.2.1 92 rfl, f36.2.1 93 rfl, if_neg (by omega), if_neg (by omega)]
            exact hB.2.2.2.2.2.1 s hs
        · refine ⟨ND_add hd (q := 0) (by omega) (fun _ => h4) hL5 z6, (Lu_ne (by decide)).trans h4, fun k hk => (Lu_ne (by omega)).trans (hL5 k hk), hRT, ?_, hlast, ?_⟩
          · intro d hd'
            rw [Lu_ne (by decide)] at hd'
            exact hDF d hd'
          · have hl0 : (Lu L 0 (x.vl (c + 1)) 0).length = (L 0).length + 1 := by rw [Lu_eq, List.length_append]; rfl
            obtain ⟨u1, u2, u3, u4⟩ := hUR
            refine ⟨fun r hr => ?_, fun s hs => ?_, fun r h1 h2 => ?_, fun s h1 h2 => ?_⟩
            · rw [hl0] at hr
              dsimp only
              by_cases er : r = (L 0).length
              · rw [if_pos er, if_pos er]; omega
              · rw [if_neg er, if_neg er]; exact u1 r (by omega)
            · rw [Lu_ne (by decide)] at hs
              dsimp only
              rw [if_neg (by omega), if_neg (by omega)]; exact u2 s hs
            · rw [hl0] at h1
              dsimp only
              rw [if_neg (by omega), if_neg (by omega)]; exact u3 r (by omega) h2
            · rw [Lu_ne (by decide)] at h1
              dsimp only
              rw [if_neg (by omega), if_neg (by omega)]; exact u4 s h1 h2
      · left; exact ⟨g1, g3⟩
