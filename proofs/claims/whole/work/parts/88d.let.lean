/-! New variables. -/
theorem SXB_local {x : Cx} {L : Nat → List Int64} {pm : Nat → Nat} {G : List Ln} {τ : Nat → Int32} {b : ts} {c q K D u : Nat} {BK BL : Nat → Int32} {w : Int64} (h : SXB x L pm G τ b c q K D BK BL u) (hl : (L 4).length < 8) (hg : gI b 1103 0 = 0) : ∃ b1, cR_addLocal w b = some b1 ∧ SXB x (Lv L [w]) pm G τ b1 c q K D BK BL u ∧ fr [1123, 3098] b b1 := by
  obtain ⟨⟨h1, h2⟩, ⟨h3, h4, h5, h6, h7⟩, h8, h9, h11⟩ := h
  have hn := h2.v.1
  have hf : fr [1123, 3098] b (wI (wB b 98 (L 4).length w) 1123 0 (nI ((L 4).length + 1))) := fr_wI (fr_wB fr_rf rfl) rfl
  refine ⟨wI (wB b 98 (L 4).length w) 1123 0 (nI ((L 4).length + 1)), ?_, ?_, hf⟩
  · unfold cR_addLocal
    rw [good_t hg, Option.bind_some]
    dsimp only
    rw [if_neg (show ¬ (1 : Int32) = 0 by decide)]
    simp (disch := first | assumption | omega) only [sx, if_pos, if_neg, bnd, Nat.reduceEqDiff, Nat.reduceAdd, Nat.reduceMul, Nat.reduceSub, and_true, true_and, and_false, false_and, or_true, true_or, or_false, false_or, if_true, if_false, eq_self, not_true, not_false_eq_true, hn]
  · generalize hb1 : wI (wB b 98 (L 4).length w) 1123 0 (nI ((L 4).length + 1)) = b1 at hf ⊢
    refine ⟨⟨SB_fr hf rfl rfl h1, ?_⟩, ⟨(hf.1 1125 rfl 0).trans h3, (hf.1 1139 rfl 0).trans h4, (hf.1 1126 rfl 0).trans h5, (hf.1 1142 rfl 0).trans h6, (hf.1 1138 rfl 0).trans h7⟩, fun j hj => ⟨(hf.2.1 109 rfl j).trans (h8 j hj).1, (hf.2.1 108 rfl j).trans (h8 j hj).2⟩, fun l n hl => ⟨?_, fun z1 z2 => (hf.2.1 103 rfl l).trans ((h9 l n hl).2 z1 z2)⟩, fun d hd => (hf.2.1 96 rfl d).trans (h11 d hd)⟩
    · refine ⟨nb_fr hf rfl rfl h2.r, nb_fr hf rfl rfl h2.s, nb_fr hf rfl rfl h2.n, nb_fr hf rfl rfl h2.d, ?_⟩
      show nb b1 1123 98 (L 4 ++ [w])
      refine ⟨?_, fun k hk => ?_⟩
      · rw [← hb1, List.length_append]; exact gI_wIs
      · rw [List.length_append] at hk
        have hk : k < (L 4).length + 1 := hk
        rw [← hb1]
        by_cases e : k = (L 4).length
        · rw [e, List.getElem?_append_right (Nat.le_refl _)]
          simp only [Nat.sub_self, List.getElem?_cons_zero]
          simp (disch := first | assumption | omega) only [sx, if_pos, if_neg, bnd, Nat.reduceEqDiff, Nat.reduceAdd, Nat.reduceMul, Nat.reduceSub, and_true, true_and, and_false, false_and, or_true, true_or, or_false, false_or, if_true, if_false, eq_self, not_true, not_false_eq_true]
        · rw [List.getElem?_append_left (by omega), h2.v.2 k (by omega)]
          simp (disch := first | assumption | omega) only [sx, if_pos, if_neg, bnd, Nat.reduceEqDiff, Nat.reduceAdd, Nat.reduceMul, Nat.reduceSub, and_true, true_and, and_false, false_and, or_true, true_or, or_false, false_or, if_true, if_false, eq_self, not_true, not_false_eq_true]
    · exact KB_mono (h9 l n hl).1 ⟨hf.2.1 99 rfl l, hf.2.1 100 rfl l, hf.2.1 101 rfl l, hf.2.1 105 rfl l, hf.2.1 107 rfl l, hf.2.2.1 106 rfl l, fun i _ => hf.2.1 104 rfl _⟩ (fun j _ => ⟨hf.2.1 110 rfl j, hf.2.1 111 rfl j⟩) (Nat.le_refl _) (Nat.le_refl _) (Nat.le_refl _)
theorem SXA_word {x : Cx} {L : Nat → List Int64} {T : List (Nat × Nat)} {pm : Nat → Nat} {G : List Ln} {τ : Nat → Int32} {a : ts} {c q K e : Nat} {aw : Bool} {w : Int64} (h : SXA x L T pm G τ a c q K e aw) (hl : (L 4).length < 8) : ∃ a1, cG_addWord w 4 a = some a1 ∧ SXA x (Lv L [w]) T pm G τ a1 c q K e aw ∧ fr wf_cG_addWord a a1 := by
  obtain ⟨⟨h1, h2, h3⟩, ⟨h4, h5, h6⟩, h8, h9, h10, h11⟩ := h
  obtain ⟨a1, y1, y2, hf⟩ := addWord_ok h2 (q := 4) (by omega) (fun z => by omega) hl w
  refine ⟨a1, y1, ⟨⟨SA_fr hf rfl h1, y2, (hf.1 302 rfl 0).trans h3⟩, ⟨(hf.1 214 rfl 0).trans h4, (hf.1 217 rfl 0).trans h5, (hf.1 403 rfl 0).trans h6⟩, h8, fun l n hl => ⟨?_, (h9 l n hl).2⟩, ⟨(hf.1 408 rfl 0).trans h10.1, fun i l n hi hl => ?_⟩, fun d hd => ⟨(hf.2.1 19 rfl d).trans (h11 d hd).1, (h11 d hd).2⟩⟩, hf⟩
  · refine LnA_mono (h9 l n hl).1 (hf.2.1 22 rfl l) ?_ (hf.2.1 24 rfl l) (hf.2.1 25 rfl l) (Nat.le_refl _) (fun j _ => ⟨hf.2.1 26 rfl j, hf.2.1 27 rfl j⟩)
    rw [hf.2.1 23 rfl l, (h9 l n hl).1.2.1]
    by_cases hj : isJ n.1 = true
    · rw [if_pos hj, if_pos hj]
    · rw [if_neg hj, if_neg hj]
  · rw [hf.2.2.1 29 rfl, hf.2.1 30 rfl, hf.2.1 31 rfl, hf.2.1 32 rfl]; exact h10.2 i l n hi hl
theorem stm_let {x : Cx} (hx : x.Ok) {L : Nat → List Int64} {T : List (Nat × Nat)} {pm : Nat → Nat} {rc : Nat → Int32 → ts → Option (Int32 × ts)} {d : Int32} {G : List Ln} {τ : Nat → Int32} {a b : ts} {c q K K' e D : Nat} {BK BL : Nat → Int32} (hd : ND L) (hL5 : ∀ k, 5 ≤ k → L k = []) (hA : SXA x L T pm G τ a c q K e false) (hB : SXB x L pm G τ b c q K' D BK BL 0) (hk : K ≤ x.ps c) (hk' : K' ≤ 2 * x.ps c) (hq : q < 250) (hkd : x.kd c = 516) : StOk x L T pm rc d G τ a b c q e D BK BL := by
  have hcl := hA.1.1.l
  have hcm := hx.lm hcl (by omega)
  have hp := hx.p1 (c := c) (by omega)
  have hpn := hx.pn (c + 1)
  have hpn2 := hx.pn (c + 2)
  have hn4 := hx.n
  have hm4 : (L 4).length ≤ 8 := hA.1.2.1.m 4 (by omega)
  obtain ⟨-, hs⟩ := st21 hx (rc := rc) (d := d) hA.1.1 hA.2.1.2.2 hcm
  have hA1 := SXA_begin hA hq hs
  have hG := SXA_G hA1
  obtain ⟨b1, e1, hB1, g1, g2, g3, f1⟩ := SXB_begin hx hB (by omega) (by omega)
  have hLB1 := SXB_LB hB1 (by omega)
  generalize hs5 : av x (wI a 403 0 (nI (q + 1))) (c + 1) = s5 at hA1 hs
  have eS : stK rc d (x.kd c) (x.vl c) s5 = cD_readLet s5 := by rw [hkd]; rfl
  -- the reference's end
  have eR : cR_takeRest (nI G.length) (nI (x.kd c - 512)) b1 = (cR_takeLocal b1).bind (fun s2 => (cR_next s2).bind (fun s5 => (cR_must ((61 : Int32)) s5).bind (fun s8 => (cR_takeExp ((0 : Int32)) s8).bind (fun x12 => (if am_idx (nI G.length) 900 = true then (cR_addLocal (gJ s2 1108 0) (wA (wA (wA x12.2 101 (nI G.length).toNatClampNeg x12.1) 100 (nI G.length).toNatClampNeg (gI (wA x12.2 101 (nI G.length).toNatClampNeg x12.1) 1123 0)) 99 (nI G.length).toNatClampNeg ((24 : Int32)))).bind (fun s15 => (cR_must ((59 : Int32)) s15).bind (fun s18 => some s18)) else none))))) := by
    rw [hkd]; rfl
  have endB : ∀ (w : Int64) (bf : ts) (v : Int32), ¬ gI bf 1103 0 = 0 → (if am_idx (nI G.length) 900 = true then (cR_addLocal w (wA (wA (wA bf 101 (nI G.length).toNatClampNeg v) 100 (nI G.length).toNatClampNeg (gI (wA bf 101 (nI G.length).toNatClampNeg v) 1123 0)) 99 (nI G.length).toNatClampNeg ((24 : Int32)))).bind (fun s15 => (cR_must ((59 : Int32)) s15).bind (fun s18 => some s18)) else none) = some (wA (wA (wA bf 101 G.length v) 100 G.length (gI bf 1123 0)) 99 G.length 24) := by
    intro w bf v hb
    rw [if_pos (nI_idx (by omega) (by decide)), nI_clamp (by omega), addLocal_bad (show ¬ gI (wA (wA (wA bf 101 G.length v) 100 G.length (gI (wA bf 101 G.length v) 1123 0)) 99 G.length 24) 1103 0 = 0 from hb), Option.bind_some, bind_eta1, must_bad (show ¬ gI (wA (wA (wA bf 101 G.length v) 100 G.length (gI (wA bf 101 G.length v) 1123 0)) 99 G.length 24) 1103 0 = 0 from hb)]
    rfl
  have expB : ∀ (w : Int64) (bf a1 : ts), ¬ gI bf 1103 0 = 0 → fr wf_cR_must b1 bf → FL a1 bf → ∃ b3, (cR_takeExp ((0 : Int32)) bf).bind (fun x12 => (if am_idx (nI G.length) 900 = true then (cR_addLocal w (wA (wA (wA x12.2 101 (nI G.length).toNatClampNeg x12.1) 100 (nI G.length).toNatClampNeg (gI (wA x12.2 101 (nI G.length).toNatClampNeg x12.1) 1123 0)) 99 (nI G.length).toNatClampNeg ((24 : Int32)))).bind (fun s15 => (cR_must ((59 : Int32)) s15).bind (fun s18 => some s18)) else none)) = some b3 ∧ OutT x L T pm G τ e D BK BL b c 1 0 a1 b3 := by
    intro w bf a1 hb hf hfl
    obtain ⟨b2, y1, y2, y3, y4, y5⟩ := takeExpB (aw := 0) hb ((hf.1 1139 rfl 0).trans hB1.2.1.2.1) (by omega) ((hf.1 1142 rfl 0).trans hB1.2.1.2.2.2.1)
    refine ⟨wA (wA (wA b2 101 G.length (nI K')) 100 G.length (gI b2 1123 0)) 99 G.length 24, ?_, OutT_bad (c := c) (LB_fr (W := [2099, 2100, 2101]) (LB_fr (LB_fr hLB1 hf rfl) y5 rfl) (fr_wA (fr_wA (fr_wA fr_rf rfl) rfl) rfl) rfl) (fr_wA (fr_wA (fr_wA (fr_tr f1 (fr_tr (fr_mono (by decide +kernel) hf) (fr_mono (by decide +kernel) y5))) (by decide +kernel)) (by decide +kernel)) (by decide +kernel)) (Flt_FL hfl y4) hcl⟩
    rw [y1, Option.bind_some]
    exact endB w b2 _ (Flt_bad hb y4)
  obtain ⟨r, a1, b0, b2, h1, h2, h3, h4, h5, h6, h7⟩ := fresh_sx hx (q := 4) hA1.1.1 hB1.1.1 hA1.1.2.1 hB1.1.2.nq (by omega) (fun z => by omega)
  have h1 : cD_checkNewWord 4 8 s5 = some (r, a1) := h1
  have h2 : cR_freshName 1 b1 = some b0 := h2
  have hloc : cR_takeLocal b1 = some b2 := by
    unfold cR_takeLocal cR_takeLocal_20
    rw [h2, Option.bind_some, (h5.1 1123 rfl 0).trans hB1.1.2.v.1]
    simp only [bind_eta1]
    by_cases hc : (L 4).length < 8
    · have hbl : Nat.blt (L 4).length 8 = true := Nat.ble_eq_true_of_le hc
      rw [if_neg (show ¬ (8 : Int32) ≤ nI (L 4).length from nI_ge (b := 8) hc (by decide))]
      have h3 : cR_limit (bI (Nat.blt (L 4).length 8)) b0 = some b2 := h3
      rw [hbl] at h3; exact h3
    · have hbl : Nat.blt (L 4).length 8 = false := by
        cases hh : Nat.blt (L 4).length 8 with
        | false => rfl
        | true => exact absurd (Nat.le_of_ble_eq_true hh) hc
      rw [if_pos (show (8 : Int32) ≤ nI (L 4).length from nI_le (a := 8) (by omega) (by omega))]
      have h3 : cR_limit (bI (Nat.blt (L 4).length 8)) b0 = some b2 := h3
      rw [hbl] at h3; exact h3
  unfold StOk
  rw [hs5, eS, e1, eR, hloc, Option.bind_some]
  unfold cD_readLet
  rw [word_ok hx hA1.1.1, Option.bind_some]
  dsimp only
  rw [h1, Option.bind_some]
  dsimp only
  rcases h7 with ⟨z1, z2⟩ | ⟨z1, z2, z3, z4, z5, z6, z7⟩
  · rw [z1, if_pos rfl, next_bad z2.2.2, Option.bind_some, must_bad z2.2.2, Option.bind_some]
    obtain ⟨b3, y1, y2⟩ := expB (gJ b2 1108 0) b2 a1 z2.2.2 (fr_mono (by decide +kernel) (fr_tr h5 h6)) z2
    exact ⟨0, a1, b3, rfl, y1, y2⟩
  · subst z2; subst z4
    rw [z1, if_neg (by decide)]
    have hl4 : (L 4).length < 8 := z7
    have hcm1 := hx.lm hA1.1.1.l (show 2 ≤ x.kd (c + 1) by omega)
    have hp1 := hx.p1 (c := c + 1) (by omega)
    have hwd : gJ b2 1108 0 = x.vl (c + 1) := (hB1.1.1.nx.2 (by show x.kd (c + 1) ≠ 1; omega)).2.2.2.2.1 (Or.inl z5)
    rw [hwd]
    obtain ⟨v1, v2⟩ := adv_ok hx hA1.1.1 hcm1
    obtain ⟨b3, n1, n2, n3⟩ := nxt_ok hx hB1.1.1 (by omega)
    have hA3 := SXA_tok hA1 (fr_mono (by decide +kernel) fr_av) v2
    have hB3 := SXB_tok hB1 n3 n2
    rw [v1, Option.bind_some, n1, Option.bind_some]
    generalize av x a1 (c + 1 + 1) = s6 at hA3 v2
    obtain ⟨r4, a4, b4, m1, m2, m3, m4, m5⟩ := nm_ok hx hA3.1.1 hB3.1.1 (q := 61) (by omega)
    have m1 : cT_need 61 s6 = some (r4, a4) := m1
    have m2 : cR_must 61 b3 = some b4 := m2
    rw [m1, Option.bind_some, m2, Option.bind_some]
    dsimp only
    rcases m3 with ⟨y1, y2, y3, y4, y5⟩ | ⟨y1, y2, y3⟩
    · rw [y1, if_neg (by decide)]
      have hp2 := hx.p1 (c := c + 1 + 1) (by omega)
      have hA4 := SXA_tok hA3 m4 y4
      have hB4 := SXB_tok hB3 m5 y5
      have h217 := hA3.2.1.2.1
      obtain ⟨r5, a5, b5, x1, x2, x3, x4, x5, x6, x7⟩ := exp_sx hx hd hA4 hB4 (by omega) (by omega)
      have x2 : cR_takeExp 0 b4 = some (nI K', b5) := x2
      rw [x1, Option.bind_some, x2, Option.bind_some]
      dsimp only
      have fb5 : fr wSt b b5 := fr_tr f1 (fr_tr (fr_mono (by decide +kernel) n3) (fr_tr (fr_mono (by decide +kernel) m5) (fr_mono (by decide +kernel) x4)))
      have hLB5 : LB b5 := LB_fr (LB_fr (LB_fr hLB1 n3 rfl) m5 rfl) x4 rfl
      rcases x7 with ⟨u1, u2⟩ | ⟨u1, c1, F, u2, u3, u4, u5, u6, u7, u8⟩
      · rw [u1, if_pos rfl]
        exact ⟨0, a5, _, rfl, endB _ b5 _ u2.2.2, OutT_bad (LB_fr (W := [2099, 2100, 2101]) hLB5 (fr_wA (fr_wA (fr_wA fr_rf rfl) rfl) rfl) rfl) (fr_wA (fr_wA (fr_wA fb5 (by decide +kernel)) (by decide +kernel)) (by decide +kernel)) u2 hcl⟩
      · rw [u1, if_neg (by decide)]
        obtain ⟨a6, w1, w2, w3⟩ := SXA_word (w := x.vl (c + 1)) u4 hl4
        rw [w1, Option.bind_some]
        have hc16 : gA a5 16 ((4 : Int32)).toNatClampNeg = nI (L 4).length := u4.1.2.1.c 4 (by omega)
        rw [hc16, h217, bind_eta]
        obtain ⟨a', t1, t2, t3⟩ := addAct_no (n := ((1, nI (L 4).length, [F], 0, 0) : Ln)) (t := nI (L 4).length) (f := K) w2 (fun _ => rfl) (by simp) (OpA1 u5 (by funext i; exact w3.2.1 26 rfl i) (by funext i; exact w3.2.1 27 rfl i)) (fun z => absurd z (show ¬ (1 : Nat) = 526 by decide)) rfl
        have hmv1 : mv (L 4).length [((1, nI (L 4).length, [F], 0, 0) : Ln)] = (Lv L [x.vl (c + 1)] 4).length := by
          show (if (1 : Nat) = 1 ∧ nI (L 4).length < 8 then max (L 4).length ((nI (L 4).length).toNatClampNeg + 1) else (L 4).length) = (L 4 ++ [x.vl (c + 1)]).length
          rw [if_pos ⟨rfl, nI_lt (b := 8) hl4 (by decide)⟩, nI_clamp (by omega), List.length_append]
          show max (L 4).length ((L 4).length + 1) = (L 4).length + 1
          omega
        have hnd : ND (Lv L [x.vl (c + 1)]) := ND_add hd (q := 4) (by omega) (fun z => by omega) hL5 z6
        have fin : ∀ (b6 : ts), (cR_addLocal (x.vl (c + 1)) (wA (wA (wA b5 101 G.length (nI K')) 100 G.length (gI b5 1123 0)) 99 G.length 24)) = some b6 → fr wSt b b6 → LB b6 → SB x b6 c1 → (x.kd c1 ≠ 1 → SXB x (Lv L [x.vl (c + 1)]) pm G τ b6 c1 (q + 1) (K' + F.length + 1) D BK BL 1 ∧ KB b6 (Lv L [x.vl (c + 1)] 0).length (Lv L [x.vl (c + 1)] 1).length (K' + F.length + 1) G.length ((1, nI (L 4).length, [F], 0, 0) : Ln) ∧ K' + F.length + 1 ≤ 2 * x.ps c1 + 1) → ∃ r a1 b1, cD_closeStatement 1 (nI (L 4).length) (nI K) a6 = some (r, a1) ∧ (if am_idx (nI G.length) 900 = true then (cR_addLocal (x.vl (c + 1)) (wA (wA (wA b5 101 (nI G.length).toNatClampNeg (nI K')) 100 (nI G.length).toNatClampNeg (gI (wA b5 101 (nI G.length).toNatClampNeg (nI K')) 1123 0)) 99 (nI G.length).toNatClampNeg ((24 : Int32)))).bind (fun s15 => (cR_must ((59 : Int32)) s15).bind (fun s18 => some s18)) else none) = some b1 ∧ OutT x L T pm G τ e D BK BL b c 1 r a1 b1 := by
          intro b6 q1 q2 q3 q4 q5
          obtain ⟨r2, a3, b7, c1', c2', c3', c4', c5'⟩ := close_sx hx (b := b6) (K' := K' + F.length + 1) (BK := BK) (BL := BL) (D := D) (τ := τ) t1 (SXA_e t2 (show e ≤ e + 1 by omega)) u7 q4 q3 rfl (fun k hk => if_neg (by omega)) q5
          refine ⟨r2, a3, b7, c1', ?_, OutT_one (V := [x.vl (c + 1)]) c3' (fr_tr q2 (fr_mono (by decide +kernel) c4')) c5' (by omega) hcl rfl (show (1 : Nat) ≠ 3 by decide) hmv1 hnd (fun k hk => if_neg (by omega))⟩
          rw [if_pos (nI_idx (by omega) (by decide)), nI_clamp (by omega), show gI (wA b5 101 G.length (nI K')) 1123 0 = gI b5 1123 0 from rfl, q1, Option.bind_some, bind_eta1]
          exact c2'
        have fb6 : fr wSt b (wA (wA (wA b5 101 G.length (nI K')) 100 G.length (gI b5 1123 0)) 99 G.length 24) := fr_wA (fr_wA (fr_wA fb5 (by decide +kernel)) (by decide +kernel)) (by decide +kernel)
        have f6 : fr [2099, 2100, 2101] b5 (wA (wA (wA b5 101 G.length (nI K')) 100 G.length (gI b5 1123 0)) 99 G.length 24) := fr_wA (fr_wA (fr_wA fr_rf rfl) rfl) rfl
        by_cases hk1 : x.kd c1 = 1
        · exact fin _ (addLocal_bad (show ¬ gI b5 1103 0 = 0 from u6.nb hk1)) fb6 (LB_fr hLB5 f6 rfl) (SB_fr f6 rfl rfl u6) (fun z => absurd hk1 z)
        · obtain ⟨p1, p2, p3⟩ := u8 hk1
          have hB6 := SXB_99 (SXB_100 (SXB_101 p1 (nI K')) (gI b5 1123 0)) 24
          obtain ⟨b6, o1, o2, o3⟩ := SXB_local (w := x.vl (c + 1)) hB6 hl4 (show gI b5 1103 0 = 0 from u6.g hk1)
          refine fin b6 o1 (fr_tr fb6 (fr_mono (by decide +kernel) o3)) (LB_fr (LB_fr hLB5 f6 rfl) o3 rfl) o2.1.1 (fun _ => ⟨o2, Or.inl ⟨rfl, ⟨(L 4).length, by omega, rfl, ?_, ?_⟩, F, rfl, u3, K', ?_, by omega, ?_, fun j o hj => ?_⟩, by omega⟩)
          · rw [o3.2.1 99 rfl, gA_wAs, if_pos hl4]; rfl
          · rw [o3.2.1 100 rfl, if_pos hl4]
            show gA (wA (wA b5 101 G.length (nI K')) 100 G.length (gI b5 1123 0)) 100 G.length = _
            rw [gA_wAs]; exact p1.1.2.v.1
          · rw [o3.2.1 101 rfl]
            show gA (wA b5 101 G.length (nI K')) 101 G.length = _
            exact gA_wAs
          · rw [o3.2.1 110 rfl]; exact p2.1
          · rw [o3.2.1 110 rfl, o3.2.1 111 rfl]; exact p2.2 j o hj
    · rw [y1, if_pos rfl]
      obtain ⟨b5, w1, w2⟩ := expB (x.vl (c + 1)) b4 a4 y3.2.2 (fr_tr n3 m5) y3
      exact ⟨0, a4, b5, rfl, w1, w2⟩
