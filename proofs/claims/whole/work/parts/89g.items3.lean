/-! Stores and numbers. -/
theorem rn_all {p : Nat → Bool} {b : Nat → Nat} : ∀ f i k, i ≤ k → k < rn p b f i → p (b k) = true := by
  intro f
  induction f with
  | zero => intro i k h1 h2; unfold rn at h2; omega
  | succ f ih =>
    intro i k h1 h2
    unfold rn at h2
    by_cases hp : p (b i) = true
    · rw [if_pos hp] at h2
      by_cases e : k = i
      · rw [e]; exact hp
      · exact ih (i + 1) k (by omega) h2
    · rw [if_neg hp] at h2; omega
theorem nv_nat {b : Nat → Nat} {i : Nat} : ∀ m, m ≤ 9 → (∀ k, k < m → isD (b (i + k)) = true) → ∃ n, n < 10 ^ m ∧ (nv b i m).toInt32 = nI n := by
  intro m
  induction m with
  | zero => intro _ _; exact ⟨0, by decide, rfl⟩
  | succ m ih =>
    intro hm hd
    obtain ⟨n, h1, h2⟩ := ih (by omega) (fun k hk => hd k (by omega))
    have h3 := hd m (by omega)
    unfold isD at h3
    rw [Bool.and_eq_true] at h3
    have h4 := Nat.le_of_ble_eq_true h3.1
    have h5 := Nat.le_of_ble_eq_true h3.2
    refine ⟨10 * n + (b (i + m) - 48), ?_, ?_⟩
    · rw [Nat.pow_succ]; omega
    · rw [nv_i, h2, show (10 : Int32) = nI 10 from rfl, pk_mul, nI_add, show (48 : Int32) = nI 48 from rfl, pk_sub (by omega)]
      congr 1; omega
theorem tok1_d {b : Nat → Nat} {n j : Nat} {R : Nat → Int64} : (tok1 b n R j).1 = 3 → ∃ m, m < 10 ^ 9 ∧ (tok1 b n R j).2.2.1.toInt32 = nI m := by
  unfold tok1
  by_cases h0 : n ≤ j
  · rw [if_pos h0]; intro z; dsimp only at z; omega
  · rw [if_neg h0]
    by_cases h1 : isL (b j) = true
    · rw [if_pos h1]
      by_cases h2 : 8 < rn isW b (n - j) j - j
      · rw [if_pos h2]; intro z; dsimp only at z; omega
      · rw [if_neg h2]; intro z
        have := (wk_ge R (wv b j (rn isW b (n - j) j - j)) 24 0).1
        dsimp only at z; omega
    · rw [if_neg h1]
      by_cases h2 : isD (b j) = true
      · rw [if_pos h2]
        by_cases h3 : 9 < rn isD b (n - j) j - j
        · rw [if_pos h3]; intro z; dsimp only at z; omega
        · rw [if_neg h3]; intro z
          obtain ⟨m, m1, m2⟩ := nv_nat (b := b) (i := j) (rn isD b (n - j) j - j) (by omega) (fun k hk => rn_all (n - j) j (j + k) (by omega) (by omega))
          exact ⟨m, Nat.lt_of_lt_of_le m1 (Nat.pow_le_pow_right (by omega) (by omega)), m2⟩
      · rw [if_neg h2]
        by_cases h3 : isP (b j) (if j + 1 < n then b (j + 1) else 256) = true
        · rw [if_pos h3]; intro z; dsimp only at z; omega
        · rw [if_neg h3]
          by_cases h4 : isS (b j) = true
          · rw [if_pos h4]; intro z; dsimp only at z; have := isS_ge h4; omega
          · rw [if_neg h4]; intro z; dsimp only at z; omega
theorem Cx.num (x : Cx) (c : Nat) (h : x.kd c = 3) : ∃ m, m < 10 ^ 9 ∧ (x.vl c).toInt32 = nI m := by
  unfold Cx.kd Cx.tk tkn tok at h
  unfold Cx.vl Cx.tk tkn tok
  by_cases h1 : (tst x.bt x.n x.R c).1 = true ∧ (tst x.bt x.n x.R c).2 < x.n ∧ isL (x.bt (tst x.bt x.n x.R c).2) = true
  · rw [if_pos h1] at h; dsimp only at h; omega
  · rw [if_neg h1] at h ⊢; exact tok1_d h
theorem badS198 {b : ts} (h : ¬ gI b 1103 0 = 0) : cR_takeStore_198 b = some b := by
  unfold cR_takeStore_198
  rw [next_bad h, Option.bind_some, must_bad h]; rfl
theorem badS145 {b : ts} {w : Int64} {l t : Int32} (h : ¬ gI b 1103 0 = 0) : cR_takeStore_145 w l t b = some b := by
  unfold cR_takeStore_145
  rw [limit_bad h, Option.bind_some, good_f h, Option.bind_some]
  dsimp only
  rw [if_pos rfl]; exact badS198 h
theorem badS114 {b : ts} {w : Int64} {l : Int32} (h : ¬ gI b 1103 0 = 0) : cR_takeStore_114 w l b = some b := by
  unfold cR_takeStore_114
  rw [badS145 h, badS145 h]
  split
  · rfl
  · split
    · rfl
    · split <;> rfl
theorem badS77 {b : ts} {w : Int64} {t : Int32} (h : ¬ gI b 1103 0 = 0) : cR_takeStore_77 w t b = some b := by
  unfold cR_takeStore_77
  rw [limit_bad h, Option.bind_some, next_bad h, Option.bind_some, good_f h, Option.bind_some]
  dsimp only
  rw [if_pos rfl]; exact badS114 h
theorem badS61 {b : ts} {w : Int64} (h : ¬ gI b 1103 0 = 0) : cR_takeStore_61 w b = some b := by
  unfold cR_takeStore_61
  rw [badS77 h, badS77 h]; split <;> rfl
theorem readStore_ok {x : Cx} (hx : x.Ok) {L : Nat → List Int64} {T : List (Nat × Nat)} {pm en vc un rm : Nat → Nat} {G : List Ln} {τ : Nat → Int32} {a b : ts} {c q K K' : Nat} (hA : IXA x L T pm en vc un rm G τ a c q K) (hB : IXB x L pm en un rm G τ b c q K') (hP : IXP L pm en vc un rm G τ) (hkd : x.kd c = 513) : ∃ r a1 b1, cD_readStore a = some (r, a1) ∧ cR_takeStore b = some b1 ∧ OutI x c r a1 b1 := by
  have hcl := hA.1.1.l
  have hcm := hx.lm hcl (by omega)
  have hp := hx.p1 (c := c) (by omega)
  have hG := IXA_G hA
  obtain ⟨hd, h4, hL5, hRT, hDF, hlast, hUR⟩ := hP
  have hm0 : (L 0).length ≤ 8 := hA.1.2.1.m 0 (by omega)
  have hm1 : (L 1).length ≤ 6 := hA.1.2.1.m 1 (by omega)
  obtain ⟨v1, v2⟩ := adv_ok hx hA.1.1 hcm
  obtain ⟨b1, n1, n2, n3⟩ := nxt_ok hx hB.1.1 (by omega)
  have hna1 : NA (av x a (c + 1)) L T := NA_fr (W := [106, 107]) fr_av rfl hA.1.2.1
  have hnb1 : NQ b1 L 0 := NQ_fr n3 rfl hB.1.2
  have hLB1 : LB b1 := LB_fr ⟨_, (by omega : G.length ≤ 600), hB.2.1.1⟩ n3 rfl
  have h16 : (8 : Int32) + gA (av x a (c + 1)) 16 ((1 : Int32)).toNatClampNeg = nI (8 + (L 1).length) := by
    rw [show gA (av x a (c + 1)) 16 ((1 : Int32)).toNatClampNeg = nI (L 1).length from hna1.c 1 (by omega)]; exact nI_add 8 _
  unfold cD_readStore cR_takeStore
  rw [v1, Option.bind_some, n1, Option.bind_some, h16]
  generalize av x a (c + 1) = s1 at v2 hna1 v1
  obtain ⟨r, a2, b0, b2, t1, t2, t3, t4, t5, t6, t7⟩ := tell_sx hx (q := 1) v2 n2 hna1 (hnb1.lt (by omega)) (by omega) (fun _ => h4)
  have t1 : cD_tell 1 6 s1 = some (r, a2) := t1
  have t2 : cR_freshName 0 b1 = some b0 := t2
  rw [t1, Option.bind_some, t2, Option.bind_some, (t5.1 1113 rfl 0).trans hnb1.s.1]
  dsimp only
  rw [show (6 : Int32) = nI 6 from rfl, limit_if (b := b0) (t := fun z => cR_takeStore_24 z b0) (by omega) (by omega)]
  unfold cR_takeStore_24
  have t3 : cR_limit (bI (Nat.blt (L 1).length 6)) b0 = some b2 := t3
  rw [t3, Option.bind_some]
  have hLB2 : LB b2 := LB_fr (LB_fr hLB1 t5 rfl) t6 rfl
  rcases t7 with ⟨z1, z2⟩ | ⟨z1, z2, z3, z4, z5, z6, z7, z8, z9⟩
  · rw [z1, if_pos rfl, next_bad z2.2.2, Option.bind_some, good_f z2.2.2, Option.bind_some]
    dsimp only
    rw [if_pos rfl, badS61 z2.2.2]
    exact ⟨0, a2, b2, rfl, rfl, LB7_of hLB2, Or.inl ⟨rfl, z2⟩⟩
  · subst z3
    have z7 : (L 1).length < 6 := z7
    have hp1 := hx.p1 (c := c + 1) (by omega)
    have hwd : gJ b2 1108 0 = x.vl (c + 1) := (n2.nx.2 (show x.kd (c + 1) ≠ 1 by omega)).2.2.2.2.1 (Or.inl z4)
    obtain ⟨b3, m1, m2, m3⟩ := nxt_ok hx n2 (by omega)
    rw [z1, if_neg (by decide), m1, Option.bind_some, hwd]
    have hLB3 : LB b3 := LB_fr hLB2 m3 rfl
    obtain ⟨r3, a3, k1, k2, k3⟩ := check_sx hx z8 m2 0 9999
    rw [k1, Option.bind_some]
    dsimp only
    rcases k3 with ⟨y1, y2, y3⟩ | ⟨y1, y2, y3, bf, y4, y5, y6⟩ | ⟨y1, y2, y3, bf, y4, y5, y6⟩ | ⟨y1, y2, y3, y4, y5⟩
    · rw [y1, if_pos rfl, good_f (m2.nb y2), Option.bind_some]
      dsimp only
      rw [if_pos rfl, badS61 (m2.nb y2)]
      exact ⟨0, a3, b3, rfl, rfl, LB7_of hLB3, Or.inl ⟨rfl, y3⟩⟩
    · rw [y1, if_pos rfl, good_t (m2.g y2), Option.bind_some]
      dsimp only
      rw [if_neg (by decide), if_neg (fun z => y3 ((num2 hx m2 y2).mp z))]
      unfold cR_takeStore_57
      rw [y4, Option.bind_some, badS61 y5.2.2]
      exact ⟨0, a3, bf, rfl, rfl, LB7_of (LB_fr hLB3 y6 rfl), Or.inl ⟨rfl, y5⟩⟩
    · have h1' : x.kd (c + 1 + 1) ≠ 1 := by omega
      have hg := m2.g h1'
      have hdg : gI b3 1109 0 = (x.vl (c + 1 + 1)).toInt32 := (m2.nx.2 h1').2.2.2.2.2 y2
      obtain ⟨mm, hmm, hmv⟩ := x.num (c + 1 + 1) y2
      rw [y1, if_pos rfl, good_t hg, Option.bind_some]
      dsimp only
      rw [if_neg (by decide), if_pos ((num2 hx m2 h1').mpr y2)]
      unfold cR_takeStore_57
      rw [need_t, Option.bind_some]
      have e0 : cR_takeStore_77 (x.vl (c + 1)) 0 b3 = some bf := by
        unfold cR_takeStore_77 cR_limit
        rw [good_t hg, Option.bind_some]
        dsimp only
        rw [if_neg (by decide), y4, Option.bind_some, Option.bind_some, next_bad y5.2.2, Option.bind_some, good_f y5.2.2, Option.bind_some]
        dsimp only
        rw [if_pos rfl]; exact badS114 y5.2.2
      refine ⟨0, a3, bf, rfl, ?_, LB7_of (LB_fr hLB3 y6 rfl), Or.inl ⟨rfl, y5⟩⟩
      unfold cR_takeStore_61
      rw [hdg, e0, if_pos]
      exact Int32.not_le.mp (fun z => y3 ⟨by rw [hmv]; exact nI_pos' (by omega), z⟩)
    · subst y3
      have h1' : x.kd (c + 1 + 1) ≠ 1 := by omega
      have hg := m2.g h1'
      have hdg : gI b3 1109 0 = (x.vl (c + 1 + 1)).toInt32 := (m2.nx.2 h1').2.2.2.2.2 y2
      obtain ⟨u, hu, hu2⟩ := i32_nat (n := 9999) y4 y5 (by omega)
      have hcm2 := hx.lm z8.l (show 2 ≤ x.kd (c + 1 + 1) by omega)
      have hp2 := hx.p1 (c := c + 1 + 1) (by omega)
      obtain ⟨w1, w2⟩ := adv_ok hx z8 hcm2
      rw [y1, if_neg (by decide), value1 hx z8, Option.bind_some]
      dsimp only
      rw [w1, Option.bind_some]
      obtain ⟨b4, o1, o2, o3⟩ := nxt_ok hx m2 (by omega)
      have hLB4 : LB b4 := LB_fr hLB3 o3 rfl
      rw [hu] at hdg ⊢
      -- the reference up to the second number
      have eR : (cR_good b3).bind (fun x9 => (if x9.1 = ((0 : Int32)) then cR_takeStore_61 (x.vl (c + 1)) x9.2 else (if (gI x9.2 1106 0) = ((2 : Int32)) then cR_takeStore_57 (x.vl (c + 1)) ((1 : Int32)) x9.2 else cR_takeStore_57 (x.vl (c + 1)) ((0 : Int32)) x9.2))) = (cR_good b4).bind (fun x9 => (if x9.1 = ((0 : Int32)) then cR_takeStore_114 (x.vl (c + 1)) (nI u) x9.2 else (if (gI x9.2 1106 0) = ((2 : Int32)) then cR_takeStore_110 (x.vl (c + 1)) (nI u) ((1 : Int32)) x9.2 else cR_takeStore_110 (x.vl (c + 1)) (nI u) ((0 : Int32)) x9.2))) := by
        rw [good_t hg, Option.bind_some]
        dsimp only
        rw [if_neg (by decide), if_pos ((num2 hx m2 h1').mpr y2)]
        unfold cR_takeStore_57
        rw [need_t, Option.bind_some]
        unfold cR_takeStore_61
        rw [hdg, if_neg (show ¬ (9999 : Int32) < nI u from nI_nlt (a := 9999) hu2 (by decide))]
        unfold cR_takeStore_77 cR_limit
        rw [good_t hg, Option.bind_some]
        dsimp only
        rw [if_neg (by decide), need_t, Option.bind_some, Option.bind_some, o1, Option.bind_some, hdg]
      rw [eR]
      generalize av x a3 (c + 1 + 1 + 1) = s4 at w1 w2
      have fs4 : fr [106, 107] a3 s4 := cT_advance_fr _ _ w1
      obtain ⟨r5, a5, k1', k2', k3'⟩ := check_sx hx w2 o2 (if (1 : Int32) < nI u then nI u else 1) 9999
      rw [k1', Option.bind_some]
      dsimp only
      rcases k3' with ⟨i1, i2, i3⟩ | ⟨i1, i2, i3, bf, i4, i5, i6⟩ | ⟨i1, i2, i3, bf, i4, i5, i6⟩ | ⟨i1, i2, i3, i4, i5⟩
      · rw [i1, if_pos rfl, good_f (o2.nb i2), Option.bind_some]
        dsimp only
        rw [if_pos rfl, badS114 (o2.nb i2)]
        exact ⟨0, a5, b4, rfl, rfl, LB7_of hLB4, Or.inl ⟨rfl, i3⟩⟩
      · rw [i1, if_pos rfl, good_t (o2.g i2), Option.bind_some]
        dsimp only
        rw [if_neg (by decide), if_neg (fun z => i3 ((num2 hx o2 i2).mp z))]
        unfold cR_takeStore_110
        rw [i4, Option.bind_some, badS114 i5.2.2]
        exact ⟨0, a5, bf, rfl, rfl, LB7_of (LB_fr hLB4 i6 rfl), Or.inl ⟨rfl, i5⟩⟩
      · have h1'' : x.kd (c + 1 + 1 + 1) ≠ 1 := by omega
        have hg4 := o2.g h1''
        have hdg4 : gI b4 1109 0 = (x.vl (c + 1 + 1 + 1)).toInt32 := (o2.nx.2 h1'').2.2.2.2.2 i2
        obtain ⟨mm, hmm, hmv⟩ := x.num (c + 1 + 1 + 1) i2
        rw [i1, if_pos rfl, good_t hg4, Option.bind_some]
        dsimp only
        rw [if_neg (by decide), if_pos ((num2 hx o2 h1'').mpr i2)]
        unfold cR_takeStore_110
        rw [need_t, Option.bind_some]
        have e0 : cR_takeStore_145 (x.vl (c + 1)) (nI u) 0 b4 = some bf := by
          unfold cR_takeStore_145 cR_limit
          rw [good_t hg4, Option.bind_some]
          dsimp only
          rw [if_neg (by decide), i4, Option.bind_some, Option.bind_some, good_f i5.2.2, Option.bind_some]
          dsimp only
          rw [if_pos rfl]; exact badS198 i5.2.2
        refine ⟨0, a5, bf, rfl, ?_, LB7_of (LB_fr hLB4 i6 rfl), Or.inl ⟨rfl, i5⟩⟩
        unfold cR_takeStore_114
        rw [hdg4, e0, hmv]
        rw [hmv] at i3
        by_cases q1 : 9999 < mm
        · rw [if_pos (show (9999 : Int32) < nI mm from nI_lt (a := 9999) q1 (by omega))]
        · rw [if_neg (show ¬ (9999 : Int32) < nI mm from nI_nlt (a := 9999) (by omega) (by decide))]
          by_cases q2 : mm = 0
          · rw [q2, if_pos (by decide)]
          · rw [if_neg (show ¬ nI mm ≤ (0 : Int32) from nI_nle (by omega) (by omega)), if_pos]
            refine Int32.not_le.mp (fun z => i3 ⟨?_, nI_le (b := 9999) (by omega) (by decide)⟩)
            by_cases q3 : (1 : Int32) < nI u
            · rw [if_pos q3]; exact z
            · rw [if_neg q3]; exact nI_le (a := 1) (by omega) (by omega)
      · subst i3
        have h1'' : x.kd (c + 1 + 1 + 1) ≠ 1 := by omega
        have hg4 := o2.g h1''
        have hdg4 : gI b4 1109 0 = (x.vl (c + 1 + 1 + 1)).toInt32 := (o2.nx.2 h1'').2.2.2.2.2 i2
        obtain ⟨mm, hmm, hmv⟩ := x.num (c + 1 + 1 + 1) i2
        rw [hmv] at i4 i5 hdg4
        have hmm2 : mm ≤ 9999 := by
          by_cases q1 : mm ≤ 9999
          · exact q1
          · exact absurd i5 (nI_ge (a := 9999) (by omega) (by omega))
        have hum : u ≤ mm ∧ 1 ≤ mm := by
          by_cases q3 : (1 : Int32) < nI u
          · rw [if_pos q3] at i4
            have q4 : u ≤ mm := by
              by_cases q5 : u ≤ mm
              · exact q5
              · exact absurd i4 (nI_ge (by omega) (by omega))
            have q6 : 1 < u := by
              by_cases q7 : 1 < u
              · exact q7
              · exact absurd q3 (nI_nlt (a := 1) (by omega) (by decide))
            omega
          · rw [if_neg q3] at i4
            have q4 : 1 ≤ mm := by
              by_cases q5 : 1 ≤ mm
              · exact q5
              · exact absurd i4 (nI_ge (b := 1) (by omega) (by decide))
            have q6 : u ≤ 1 := by
              by_cases q7 : u ≤ 1
              · exact q7
              · exact absurd (show (1 : Int32) < nI u from nI_lt (a := 1) (by omega) (by omega)) q3
            omega
        rw [i1, if_neg (by decide), value1 hx w2, hmv, Option.bind_some]
        dsimp only
        have eset : cD_setPlace (nI (8 + (L 1).length)) (nI u) (nI mm) a5 = some (wA (wA a5 17 (8 + (L 1).length) (nI u)) 18 (8 + (L 1).length) (nI mm)) := by
          unfold cD_setPlace
          simp (disch := first | assumption | omega) only [sx, if_pos, if_neg, bnd, Nat.reduceEqDiff, Nat.reduceAdd, Nat.reduceMul, Nat.reduceSub, and_true, true_and, and_false, false_and, or_true, true_or, or_false, false_or, if_true, if_false, eq_self, not_true, not_false_eq_true]
        rw [eset, Option.bind_some]
        have fset : fr [2017, 2018] a5 (wA (wA a5 17 (8 + (L 1).length) (nI u)) 18 (8 + (L 1).length) (nI mm)) := fr_wA (fr_wA fr_rf rfl) rfl
        have ha4 := SA_fr fset rfl w2
        have hcm3 := hx.lm ha4.l (show 2 ≤ x.kd (c + 1 + 1 + 1) by omega)
        have hp3 := hx.p1 (c := c + 1 + 1 + 1) (by omega)
        obtain ⟨j1, j2⟩ := adv_ok hx ha4 hcm3
        rw [j1, Option.bind_some]
        have h1113 : gI b4 1113 0 = nI (L 1).length := (o3.1 1113 rfl 0).trans ((m3.1 1113 rfl 0).trans hnb1.s.1)
        have fst : fr [1113, 2092, 2093, 3091] b4 (wI (wA (wA (wB b4 91 (L 1).length (x.vl (c + 1))) 92 (L 1).length (nI u)) 93 (L 1).length (nI mm)) 1113 0 (nI ((L 1).length + 1))) := fr_wI (fr_wA (fr_wA (fr_wB fr_rf rfl) rfl) rfl) rfl
        have eR2 : (cR_good b4).bind (fun x9 => (if x9.1 = ((0 : Int32)) then cR_takeStore_114 (x.vl (c + 1)) (nI u) x9.2 else (if (gI x9.2 1106 0) = ((2 : Int32)) then cR_takeStore_110 (x.vl (c + 1)) (nI u) ((1 : Int32)) x9.2 else cR_takeStore_110 (x.vl (c + 1)) (nI u) ((0 : Int32)) x9.2))) = cR_takeStore_198 (wI (wA (wA (wB b4 91 (L 1).length (x.vl (c + 1))) 92 (L 1).length (nI u)) 93 (L 1).length (nI mm)) 1113 0 (nI ((L 1).length + 1))) := by
          rw [good_t hg4, Option.bind_some]
          dsimp only
          rw [if_neg (by decide), if_pos ((num2 hx o2 h1'').mpr i2)]
          unfold cR_takeStore_110
          rw [need_t, Option.bind_some]
          unfold cR_takeStore_114
          rw [hdg4, if_neg (show ¬ (9999 : Int32) < nI mm from nI_nlt (a := 9999) (by omega) (by decide)), if_neg (show ¬ nI mm ≤ (0 : Int32) from nI_nle (by omega) (by omega)), if_neg (show ¬ nI mm < nI u from nI_nlt (by omega) (by omega))]
          unfold cR_takeStore_145 cR_limit
          rw [good_t hg4, Option.bind_some]
          dsimp only
          rw [if_neg (by decide), need_t, Option.bind_some, Option.bind_some, good_t hg4, Option.bind_some]
          dsimp only
          rw [if_neg (by decide)]
          simp (disch := first | assumption | omega) only [sx, if_pos, if_neg, bnd, Nat.reduceEqDiff, Nat.reduceAdd, Nat.reduceMul, Nat.reduceSub, and_true, true_and, and_false, false_and, or_true, true_or, or_false, false_or, if_true, if_false, eq_self, not_true, not_false_eq_true, h1113, hdg4]
        rw [eR2]
        have hsb5 := SB_fr fst rfl rfl o2
        generalize hb5 : wI (wA (wA (wB b4 91 (L 1).length (x.vl (c + 1))) 92 (L 1).length (nI u)) 93 (L 1).length (nI mm)) 1113 0 (nI ((L 1).length + 1)) = b5 at fst hsb5
        obtain ⟨b6, p1, p2, p3⟩ := nxt_ok hx hsb5 (by omega)
        unfold cR_takeStore_198
        rw [p1, Option.bind_some, bind_eta1]
        obtain ⟨r6, a6, b7, q1, q2, q3, q4, q5⟩ := nm_ok hx j2 p2 (q := 59) (by omega)
        have q1 : cT_need 59 (av x (wA (wA a5 17 (8 + (L 1).length) (nI u)) 18 (8 + (L 1).length) (nI mm)) (c + 1 + 1 + 1 + 1)) = some (r6, a6) := q1
        have q2 : cR_must 59 b6 = some b7 := q2
        rw [q1, Option.bind_some, q2]
        have hLB7 : LB b7 := LB_fr (LB_fr (LB_fr hLB4 fst rfl) p3 rfl) q5 rfl
        refine ⟨r6, a6, b7, rfl, rfl, LB7_of hLB7, ?_⟩
        rcases q3 with ⟨g1, g2, g3, g4, g5⟩ | ⟨g1, g2, g3⟩
        · right
          have hp4 := hx.p1 (c := c + 1 + 1 + 1 + 1) (by omega)
          have fa : fr wf_cD_readResource a a6 := fr_tr (fr_mono (by decide +kernel) (cT_advance_fr _ _ v1)) (fr_tr (fr_mono (by decide +kernel) t4) (fr_tr (fr_mono (by decide +kernel) fs4) (fr_tr (fr_mono (by decide +kernel) fset) (fr_tr (fr_mono (V := [106, 107]) (by decide +kernel) fr_av) (fr_mono (by decide +kernel) q4)))))
          have f36 : fr (1113 :: 2092 :: 2093 :: 3091 :: wf_cR_next) b b7 := fr_tr (fr_mono (by decide +kernel) n3) (fr_tr (fr_mono (by decide +kernel) m3) (fr_tr (fr_mono (by decide +kernel) o3) (fr_tr (fr_mono (by decide +kernel) fst) (fr_tr (fr_mono (by decide +kernel) p3) (fr_mono (by decide +kernel) q5)))))
          have fb : fr wIt b b7 := fr_mono (by decide +kernel) f36
          have f46 : fr wf_cR_next b5 b7 := fr_tr p3 q5
          have hna6 : NA a6 (Lu L 1 (x.vl (c + 1))) (T ++ [(1, (L 1).length)]) := NA_fr q4 rfl (NA_fr (W := [106, 107]) fr_av rfl (NA_fr fset rfl (NA_fr fs4 rfl z9)))
          have fa2 : fr wf_cD_tell a a5 := fr_tr (fr_mono (by decide +kernel) (cT_advance_fr _ _ v1)) (fr_tr t4 (fr_mono (by decide +kernel) fs4))
          have hl1 : (Lu L 1 (x.vl (c + 1)) 1).length = (L 1).length + 1 := by rw [Lu_eq, List.length_append]; rfl
          refine ⟨g1, Lu L 1 (x.vl (c + 1)), T ++ [(1, (L 1).length)], pm, en, vc, (fun p => if p = 8 + (L 1).length then u else un p), (fun p => if p = 8 + (L 1).length then mm else rm p), G, τ, c + 1 + 1 + 1 + 1 + 1, q, K, K', by omega, ?_, ?_, ?_⟩
          · refine IXA_items hA fa g4 hna6 (Lu_ne (by decide)) ?_ (by omega)
            intro p hp
            have e17 : gA a6 17 p = gA (wA (wA a5 17 (8 + (L 1).length) (nI u)) 18 (8 + (L 1).length) (nI mm)) 17 p := q4.2.1 17 rfl p
            have e18 : gA a6 18 p = gA (wA (wA a5 17 (8 + (L 1).length) (nI u)) 18 (8 + (L 1).length) (nI mm)) 18 p := q4.2.1 18 rfl p
            rw [e17, e18]
            by_cases ep : p = 8 + (L 1).length
            · rw [if_pos ep, if_pos ep, ep]
              exact ⟨by simp (disch := first | assumption | omega) only [sx, if_pos, if_neg, bnd, Nat.reduceEqDiff, Nat.reduceAdd, Nat.reduceMul, Nat.reduceSub, and_true, true_and, and_false, false_and, or_true, true_or, or_false, false_or, if_true, if_false, eq_self, not_true, not_false_eq_true], by simp (disch := first | assumption | omega) only [sx, if_pos, if_neg, bnd, Nat.reduceEqDiff, Nat.reduceAdd, Nat.reduceMul, Nat.reduceSub, and_true, true_and, and_false, false_and, or_true, true_or, or_false, false_or, if_true, if_false, eq_self, not_true, not_false_eq_true]⟩
            · rw [if_neg ep, if_neg ep]
              have h17 := hA.2.2.2.2.2.2.1 p hp
              refine ⟨?_, ?_⟩
              · rw [← h17.1, ← fa2.2.1 17 rfl p]; simp (disch := first | assumption | omega) only [sx, if_pos, if_neg, bnd, Nat.reduceEqDiff, Nat.reduceAdd, Nat.reduceMul, Nat.reduceSub, and_true, true_and, and_false, false_and, or_true, true_or, or_false, false_or, if_true, if_false, eq_self, not_true, not_false_eq_true]
              · rw [← h17.2, ← fa2.2.1 18 rfl p]; simp (disch := first | assumption | omega) only [sx, if_pos, if_neg, bnd, Nat.reduceEqDiff, Nat.reduceAdd, Nat.reduceMul, Nat.reduceSub, and_true, true_and, and_false, false_and, or_true, true_or, or_false, false_or, if_true, if_false, eq_self, not_true, not_false_eq_true]
          · refine IXB_items hB fb g5 ?_ (Lu_ne (by decide)) (by rw [Lu_ne (by decide)]; exact Nat.le_refl _) (by rw [hl1]; omega) ?_ ?_ (by omega)
            · refine ⟨nb_fr f36 rfl rfl hB.1.2.r, ?_, nb_fr f36 rfl rfl hB.1.2.n, nb_fr f36 rfl rfl hB.1.2.d, ?_⟩
              · rw [Lu_eq]
                refine nb_snoc hB.1.2.s ?_ ?_ ?_
                · rw [f46.1 1113 rfl, ← hb5]; exact gI_wIs
                · intro k hk
                  rw [f46.2.2.1 91 rfl, ← hb5, ← n3.2.2.1 91 rfl k, ← m3.2.2.1 91 rfl k, ← o3.2.2.1 91 rfl k]
                  simp (disch := first | assumption | omega) only [sx, if_pos, if_neg, bnd, Nat.reduceEqDiff, Nat.reduceAdd, Nat.reduceMul, Nat.reduceSub, and_true, true_and, and_false, false_and, or_true, true_or, or_false, false_or, if_true, if_false, eq_self, not_true, not_false_eq_true]
                · rw [f46.2.2.1 91 rfl, ← hb5]; simp (disch := first | assumption | omega) only [sx, if_pos, if_neg, bnd, Nat.reduceEqDiff, Nat.reduceAdd, Nat.reduceMul, Nat.reduceSub, and_true, true_and, and_false, false_and, or_true, true_or, or_false, false_or, if_true, if_false, eq_self, not_true, not_false_eq_true]
              · exact fun z => by omega
            · intro r hr
              rw [Lu_ne (by decide)] at hr
              rw [f36.2.1 90 rfl, if_neg (by omega)]
              exact hB.2.2.2.2.1 r hr
            · intro s hs
              rw [hl1] at hs
              rw [f46.2.1 92 rfl, f46.2.1 93 rfl, ← hb5]
              by_cases er : s = (L 1).length
              · rw [if_pos (by omega), if_pos (by omega), er]
                exact ⟨by simp (disch := first | assumption | omega) only [sx, if_pos, if_neg, bnd, Nat.reduceEqDiff, Nat.reduceAdd, Nat.reduceMul, Nat.reduceSub, and_true, true_and, and_false, false_and, or_true, true_or, or_false, false_or, if_true, if_false, eq_self, not_true, not_false_eq_true], by simp (disch := first | assumption | omega) only [sx, if_pos, if_neg, bnd, Nat.reduceEqDiff, Nat.reduceAdd, Nat.reduceMul, Nat.reduceSub, and_true, true_and, and_false, false_and, or_true, true_or, or_false, false_or, if_true, if_false, eq_self, not_true, not_false_eq_true]⟩
              · rw [if_neg (by omega), if_neg (by omega)]
                have hbs := hB.2.2.2.2.2.1 s (by omega)
                refine ⟨?_, ?_⟩
                · rw [← hbs.1, ← n3.2.1 92 rfl s, ← m3.2.1 92 rfl s, ← o3.2.1 92 rfl s]; simp (disch := first | assumption | omega) only [sx, if_pos, if_neg, bnd, Nat.reduceEqDiff, Nat.reduceAdd, Nat.reduceMul, Nat.reduceSub, and_true, true_and, and_false, false_and, or_true, true_or, or_false, false_or, if_true, if_false, eq_self, not_true, not_false_eq_true]
                · rw [← hbs.2, ← n3.2.1 93 rfl s, ← m3.2.1 93 rfl s, ← o3.2.1 93 rfl s]; simp (disch := first | assumption | omega) only [sx, if_pos, if_neg, bnd, Nat.reduceEqDiff, Nat.reduceAdd, Nat.reduceMul, Nat.reduceSub, and_true, true_and, and_false, false_and, or_true, true_or, or_false, false_or, if_true, if_false, eq_self, not_true, not_false_eq_true]
          · refine ⟨ND_add hd (q := 1) (by omega) (fun _ => h4) hL5 z6, (Lu_ne (by decide)).trans h4, fun k hk => (Lu_ne (by omega)).trans (hL5 k hk), hRT, ?_, hlast, ?_⟩
            · intro d hd'
              rw [Lu_ne (by decide)] at hd'
              exact hDF d hd'
            · obtain ⟨u1, u2, u3, u4⟩ := hUR
              refine ⟨fun r hr => ?_, fun s hs => ?_, fun r h1 h2 => ?_, fun s h1 h2 => ?_⟩
              · rw [Lu_ne (by decide)] at hr
                dsimp only
                rw [if_neg (by omega), if_neg (by omega)]; exact u1 r hr
              · rw [hl1] at hs
                dsimp only
                by_cases er : s = (L 1).length
                · rw [if_pos (by omega), if_pos (by omega)]; omega
                · rw [if_neg (by omega), if_neg (by omega)]; exact u2 s (by omega)
              · rw [Lu_ne (by decide)] at h1
                dsimp only
                rw [if_neg (by omega), if_neg (by omega)]; exact u3 r h1 h2
              · rw [hl1] at h1
                dsimp only
                rw [if_neg (by omega), if_neg (by omega)]; exact u4 s (by omega) h2
        · left; exact ⟨g1, g3⟩
