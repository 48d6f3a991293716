/-! Statements that use a store; new words. -/
theorem stm_use11 {x : Cx} (hx : x.Ok) {L : Nat → List Int64} {T : List (Nat × Nat)} {pm : Nat → Nat} {rc : Nat → Int32 → ts → Option (Int32 × ts)} {d : Int32} {G : List Ln} {τ : Nat → Int32} {a b : ts} {c q K K' e D : Nat} {BK BL : Nat → Int32} (hd : ND L) (hA : SXA x L T pm G τ a c q K e false) (hB : SXB x L pm G τ b c q K' D BK BL 0) (hk : K ≤ x.ps c) (hk' : K' ≤ 2 * x.ps c) (hq : q < 250) (k : Nat) (hkd : x.kd c = k) (hkk : k = 523 ∨ k = 524) : StOk x L T pm rc d G τ a b c q e D BK BL := by
  have hcl := hA.1.1.l
  have hcm := hx.lm hcl (by omega)
  have hp := hx.p1 (c := c) (by omega)
  have hpn := hx.pn (c + 1)
  have hpn2 := hx.pn (c + 2)
  have hn4 := hx.n
  have hm1 : (L 1).length ≤ 6 := hA.1.2.1.m 1 (by omega)
  obtain ⟨-, hs⟩ := st21 hx (rc := rc) (d := d) hA.1.1 hA.2.1.2.2 hcm
  have hA1 := SXA_begin hA hq hs
  have hG := SXA_G hA1
  obtain ⟨b1, e1, hB1, g1, g2, g3, f1⟩ := SXB_begin hx hB (by omega) (by omega)
  have hLB1 := SXB_LB hB1 (by omega)
  generalize hs5 : av x (wI a 403 0 (nI (q + 1))) (c + 1) = s5 at hA1 hs
  have eS : stK rc d (x.kd c) (x.vl c) s5 = cD_readUse (nI k) 0 s5 := by
    rw [hkd]; rcases hkk with h | h <;> (subst h; rfl)
  have eR : cR_takeRest (nI G.length) (nI (x.kd c - 512)) b1 = (cR_good b1).bind (fun x55 => (if x55.1 = ((0 : Int32)) then cR_takeRest_299 (nI G.length) x55.2 else (if (gI x55.2 1106 0) = ((1 : Int32)) then cR_takeRest_295 (nI G.length) ((1 : Int32)) x55.2 else cR_takeRest_295 (nI G.length) ((0 : Int32)) x55.2))) := by
    rw [hkd]; rcases hkk with h | h <;> (subst h; rfl)
  unfold StOk
  rw [hs5, eS, e1, eR]
  have h39 := hB1.2.1.2.1
  have h42 := hB1.2.1.2.2.2.1
  have bad : ∀ (bf a1 : ts), ¬ gI bf 1103 0 = 0 → fr [1103, 1104] b1 bf → FL a1 bf → ∃ b3, cR_takeRest_299 (nI G.length) bf = some b3 ∧ OutT x L T pm G τ e D BK BL b c 1 0 a1 b3 := by
    intro bf a1 h1 h2 h3
    obtain ⟨b3, y1, y2, y3⟩ := bad299 (NB_fr h2 rfl hB1.1.2) hm1 h1 ((h2.1 1139 rfl 0).trans h39) (by omega) ((h2.1 1142 rfl 0).trans h42) (show G.length < 900 by omega)
    exact ⟨b3, y1, OutT_bad (LB_fr (LB_fr hLB1 h2 rfl) y3 rfl) (fr_tr f1 (fr_tr (fr_mono (by decide +kernel) h2) (fr_mono (by decide +kernel) y3))) (Flt_FL h3 y2) hcl⟩
  unfold cD_readUse
  rw [any_ok hx hA1.1.1, Option.bind_some]
  dsimp only
  by_cases h1 : x.kd (c + 1) = 1
  · obtain ⟨a2, y1, y2, y3⟩ := fail_tok hx hA1.1.1 hB1.1.1 h1 2
    obtain ⟨b3, y4, y5⟩ := bad b1 a2 (hB1.1.1.nb h1) fr_rf y2
    refine ⟨0, a2, b3, ?_, ?_, y5⟩
    · rw [if_neg (show ¬ (x.kd (c + 1) = 2 ∨ 512 ≤ x.kd (c + 1)) by omega), if_pos rfl, bind_eta]; exact y1
    · rw [good_f (hB1.1.1.nb h1), Option.bind_some]
      dsimp only
      rw [if_pos rfl]; exact y4
  have hg1 := hB1.1.1.g h1
  rw [good_t hg1, Option.bind_some]
  dsimp only
  rw [if_neg (show ¬ (1 : Int32) = 0 by decide)]
  by_cases hw : x.kd (c + 1) = 2 ∨ 512 ≤ x.kd (c + 1)
  · have hwd : gJ b1 1108 0 = x.vl (c + 1) := (hB1.1.1.nx.2 h1).2.2.2.2.1 hw
    rw [if_pos hw, if_neg (by decide), word_ok hx hA1.1.1, Option.bind_some]
    dsimp only
    rw [if_pos rfl, if_pos ((word1 hx hB1.1.1 h1).mpr hw)]
    unfold cD_readUse_40
    have hpl : cG_findPlace (x.vl (c + 1)) 0 1 s5 = some (oi (-2) ((ix (L 1) (x.vl (c + 1))).map (8 + ·)), s5) := by
      have := place_ok hA1.1.2.1 hd false true (x.vl (c + 1))
      rw [fp_s] at this; exact this
    rw [hpl, Option.bind_some]
    dsimp only
    have hB2 := SXB_100 hB1 (oi (-1) (ix (L 1) (x.vl (c + 1))))
    have e295 : cR_takeRest_295 (nI G.length) 1 b1 = (if (gA (wA b1 100 G.length (oi (-1) (ix (L 1) (x.vl (c + 1))))) 100 G.length) = ((-1 : Int32)) then cR_takeRest_336 (nI G.length) ((0 : Int32)) (wA b1 100 G.length (oi (-1) (ix (L 1) (x.vl (c + 1))))) else cR_takeRest_336 (nI G.length) ((1 : Int32)) (wA b1 100 G.length (oi (-1) (ix (L 1) (x.vl (c + 1)))))) := by
      unfold cR_takeRest_295
      rw [need_t, Option.bind_some]
      unfold cR_takeRest_299
      rw [hwd, findStore_ok hm1 hB1.1.2.s, Option.bind_some]
      dsimp only
      rw [if_pos (nI_idx (by omega) (by decide)), nI_clamp (by omega), good_t (show gI (wA b1 100 G.length (oi (-1) (ix (L 1) (x.vl (c + 1))))) 1103 0 = 0 from hg1), Option.bind_some]
      dsimp only
      rw [if_neg (by decide)]
    rw [e295, gA_wAs]
    have f2 : fr wSt b (wA b1 100 G.length (oi (-1) (ix (L 1) (x.vl (c + 1))))) := fr_wA f1 (by decide +kernel)
    cases hi : ix (L 1) (x.vl (c + 1)) with
    | none =>
      rw [hi] at hB2 f2
      obtain ⟨a2, bf, y1, y2, y3, y4, y5⟩ := fail_both hx hA1.1.1 hB2.1.1 h1 4 (by decide)
      obtain ⟨b3, w1, w2, w3⟩ := bad340 y3.2.2 ((y5.1 1139 rfl 0).trans h39) (by omega) ((y5.1 1142 rfl 0).trans h42) (show G.length < 900 by omega)
      refine ⟨0, a2, b3, ?_, ?_, OutT_bad ?_ (fr_tr f2 (fr_tr (fr_mono (by decide +kernel) y5) (fr_mono (by decide +kernel) w3))) (Flt_FL y3 w2) hcl⟩
      · rw [if_pos (show oi (-2) (Option.map (fun x => 8 + x) none) = (-2 : Int32) from rfl), bind_eta]; exact y1
      · rw [if_pos (show oi (-1) none = (-1 : Int32) from rfl)]
        unfold cR_takeRest_336
        rw [y2, Option.bind_some]
        exact w1
      · exact LB_fr (LB_fr (SXB_LB hB2 (by omega)) y5 rfl) w3 rfl
    | some r =>
      rw [hi] at hB2 f2
      have hr := (ix_some hi).2
      have e336 : cR_takeRest_336 (nI G.length) 1 (wA b1 100 G.length (oi (-1) (some r))) = cR_takeRest_340 (nI G.length) (wA b1 100 G.length (oi (-1) (some r))) := by
        unfold cR_takeRest_336
        rw [need_t, Option.bind_some]
      rw [if_neg (show ¬ oi (-2) (Option.map (fun x => 8 + x) (some r)) = (-2 : Int32) from nI_no2 (show 8 + r < 2 ^ 31 by omega)), if_neg (show ¬ oi (-1) (some r) = (-1 : Int32) from nI_no1 (by omega)), e336]
      have hcm1 := hx.lm hA1.1.1.l (show 2 ≤ x.kd (c + 1) by omega)
      have hp1 := hx.p1 (c := c + 1) (by omega)
      obtain ⟨v1, v2⟩ := adv_ok hx hA1.1.1 hcm1
      obtain ⟨b2, n1, n2, n3⟩ := nxt_ok hx hB2.1.1 (by omega)
      have hA3 := SXA_tok hA1 (fr_mono (by decide +kernel) fr_av) v2
      have hB3 := SXB_tok hB2 n3 n2
      rw [v1, Option.bind_some]
      generalize av x s5 (c + 1 + 1) = s6 at hA3 v2
      have f3 : fr wSt b b2 := fr_tr f2 (fr_mono (by decide +kernel) n3)
      have k99 : gA b2 99 G.length = nI (k - 512) := by
        rw [n3.2.1 99 rfl, show gA (wA b1 100 G.length (oi (-1) (some r))) 99 G.length = gA b1 99 G.length from rfl, g1, hkd]
      have k100 : gA b2 100 G.length = nI r := by
        rw [n3.2.1 100 rfl, gA_wAs]; rfl
      have h217 := hA3.2.1.2.1
      obtain ⟨r3, a3, b3, y1, y2, y3, y4, y5⟩ := plain_tail hx hd (SXA_e hA3 (show e + 1 ≤ e + 2 by omega)) hB3 (by omega) (by omega) k (nI (8 + r)) false (by rcases hkk with h | h <;> (subst h; rfl)) (by omega) (by omega) (fun F b4 K1 hf h1 => by
        refine Or.inr (Or.inr (Or.inr (Or.inr (Or.inr (Or.inr (Or.inl ⟨hkk, ?_, ⟨r, hr, rfl, ?_⟩, h1⟩))))))
        · rw [show gA (wA b4 101 G.length (nI K')) 99 G.length = gA b4 99 G.length from rfl, hf.2.1 99 rfl, k99]
        · rw [show gA (wA b4 101 G.length (nI K')) 100 G.length = gA b4 100 G.length from rfl, hf.2.1 100 rfl, k100]) (fun F => mv_no (show k ≠ 1 by omega)) (show c ≤ c + 1 + 1 by omega) hcl f3
      refine ⟨r3, a3, b3, ?_, ?_, y4⟩
      · have e5 : ¬ nI k = (521 : Int32) := fun z => by have := nI_inj (a := k) (b := 521) (by omega) (by decide) z; omega
        have e6 : ¬ nI k = (522 : Int32) := fun z => by have := nI_inj (a := k) (b := 522) (by omega) (by decide) z; omega
        rw [if_neg e5]
        unfold cD_readUse_107
        rw [if_neg e6, h217]
        unfold cD_readUse_127
        simp only [bind_eta]
        exact y2 rfl
      · unfold cR_takeRest_340
        rw [n1, Option.bind_some]; exact y3
  · obtain ⟨a2, bf, y1, y2, y3, y4, y5⟩ := fail_both hx hA1.1.1 hB1.1.1 h1 2 (by decide)
    obtain ⟨b3, y6, y7⟩ := bad bf a2 y3.2.2 y5 y3
    refine ⟨0, a2, b3, ?_, ?_, y7⟩
    · rw [if_neg hw, if_pos rfl, bind_eta]; exact y1
    · rw [if_neg (fun z => hw ((word1 hx hB1.1.1 h1).mp z))]
      unfold cR_takeRest_295
      rw [y2, Option.bind_some]; exact y6
/-- the words of the reference; its variables only where they are asked for -/
def NQ (b : ts) (L : Nat → List Int64) (q : Nat) : Prop := nb b 1110 89 (L 0) ∧ nb b 1113 91 (L 1) ∧ nb b 1117 94 (L 2) ∧ nb b 1119 95 (L 3) ∧ (q = 4 → nb b 1123 98 (L 4))
theorem NQ.r {b : ts} {L : Nat → List Int64} {q : Nat} (h : NQ b L q) : nb b 1110 89 (L 0) := h.1
theorem NQ.s {b : ts} {L : Nat → List Int64} {q : Nat} (h : NQ b L q) : nb b 1113 91 (L 1) := h.2.1
theorem NQ.n {b : ts} {L : Nat → List Int64} {q : Nat} (h : NQ b L q) : nb b 1117 94 (L 2) := h.2.2.1
theorem NQ.d {b : ts} {L : Nat → List Int64} {q : Nat} (h : NQ b L q) : nb b 1119 95 (L 3) := h.2.2.2.1
theorem NQ.v {b : ts} {L : Nat → List Int64} {q : Nat} (h : NQ b L q) : q = 4 → nb b 1123 98 (L 4) := h.2.2.2.2
theorem NB.nq {b : ts} {L : Nat → List Int64} (h : NB b L) {q : Nat} : NQ b L q := ⟨h.r, h.s, h.n, h.d, fun _ => h.v⟩
theorem NQ.lt {b : ts} {L : Nat → List Int64} (h : NQ b L 0) {q : Nat} (hq : q < 4) : NQ b L q := ⟨h.r, h.s, h.n, h.d, fun z => by omega⟩
theorem NQ_fr {W : List Nat} {b b1 : ts} {L : Nat → List Int64} (hf : fr W b b1) (hd : dj [1110, 1113, 1117, 1119, 3089, 3091, 3094, 3095] W = true) (h : NQ b L 0) : NQ b1 L 0 := ⟨nb_fr hf (dj_m hd rfl) (dj_m hd rfl) h.r, nb_fr hf (dj_m hd rfl) (dj_m hd rfl) h.s, nb_fr hf (dj_m hd rfl) (dj_m hd rfl) h.n, nb_fr hf (dj_m hd rfl) (dj_m hd rfl) h.d, fun z => by omega⟩
/-- a new word: the same answer on both sides -/
theorem fresh_sx {x : Cx} (hx : x.Ok) {L : Nat → List Int64} {T : List (Nat × Nat)} {a b : ts} {c q : Nat} (ha : SA x a c) (hb : SB x b c) (hna : NA a L T) (hnb : NQ b L q) (hq : q < 5) (hv : q < 4 → L 4 = []) : ∃ r a1 b0 b1, cD_checkNewWord (nI q) (nI (nmx q)) a = some (r, a1) ∧ cR_freshName (bI (Nat.beq q 4)) b = some b0 ∧ cR_limit (bI (Nat.blt (L q).length (nmx q))) b0 = some b1 ∧ fr [108, 109] a a1 ∧ fr [1103, 1104] b b0 ∧ fr [1103, 1104] b0 b1 ∧ ((r = 0 ∧ FL a1 b1) ∨ (r = 1 ∧ a1 = a ∧ b0 = b ∧ b1 = b ∧ x.kd c = 2 ∧ tkn1 L (Nat.beq q 4) (x.vl c) = false ∧ (L q).length < nmx q)) := by
  have hlt := hx.lt c
  have m0 : (L 0).length ≤ 8 := hna.m 0 (by omega)
  have m1 : (L 1).length ≤ 6 := hna.m 1 (by omega)
  have m2 : (L 2).length ≤ 16 := hna.m 2 (by omega)
  have m3 : (L 3).length ≤ 12 := hna.m 3 (by omega)
  have m4 : (L 4).length ≤ 8 := hna.m 4 (by omega)
  have mq := hna.m q hq
  have nq : nmx q ≤ 16 := by unfold nmx; split <;> (try split) <;> (try split) <;> (try split) <;> omega
  have hFR : ∀ a1 b1 : ts, True := fun _ _ => trivial
  by_cases h1 : x.kd c = 1
  · obtain ⟨a1, y1, y2, y3⟩ := fail_tok hx ha hb h1 2
    refine ⟨0, a1, b, b, ?_, fresh_bad (hb.nb h1), limit_bad (hb.nb h1), y3, fr_rf, fr_rf, Or.inl ⟨rfl, y2⟩⟩
    unfold cD_checkNewWord
    rw [any_ok hx ha, if_neg (by omega), Option.bind_some]
    dsimp only
    rw [if_pos rfl, bind_eta]; exact y1
  have hg := hb.g h1
  have eF : cR_freshName (bI (Nat.beq q 4)) b = (if (gI b 1106 0) = ((1 : Int32)) then cR_freshName_21 (bI (Nat.beq q 4)) ((1 : Int32)) b else cR_freshName_21 (bI (Nat.beq q 4)) ((0 : Int32)) b) := by
    unfold cR_freshName
    rw [good_t hg, Option.bind_some]
    dsimp only
    rw [if_neg (by decide)]
  by_cases hw : x.kd c = 2 ∨ 512 ≤ x.kd c
  · have hwd : gJ b 1108 0 = x.vl c := (hb.nx.2 h1).2.2.2.2.1 hw
    have hres : cR_reserved b = some (rvI (x.kd c), b) := reserved_ok hb.w hx.r hb.nx h1
    have e25 : cR_freshName (bI (Nat.beq q 4)) b = cR_freshName_104 (bI (tkn1 L (Nat.beq q 4) (x.vl c))) b := by
      rw [eF, if_pos ((word1 hx hb h1).mpr hw)]
      unfold cR_freshName_21 cR_freshName_25
      rw [need_t, Option.bind_some, good_t hg, Option.bind_some]
      dsimp only
      rw [if_neg (by decide), hwd, findResource_ok m0 hnb.r, Option.bind_some]
      dsimp only
      unfold tkn1
      cases h0 : ix (L 0) (x.vl c) with
      | some r =>
        have := (ix_some h0).2
        rw [if_neg (show ¬ oi (-1) (some r) = (-1 : Int32) from nI_no1 (by omega))]; rfl
      | none =>
        rw [if_pos (show oi (-1) none = (-1 : Int32) from rfl), hwd, findStore_ok m1 hnb.s, Option.bind_some]
        dsimp only
        cases h01 : ix (L 1) (x.vl c) with
        | some r =>
          have := (ix_some h01).2
          rw [if_neg (show ¬ oi (-1) (some r) = (-1 : Int32) from nI_no1 (by omega))]; rfl
        | none =>
          rw [if_pos (show oi (-1) none = (-1 : Int32) from rfl), hwd, findDefinition_ok m3 hnb.d, Option.bind_some]
          dsimp only
          cases h03 : ix (L 3) (x.vl c) with
          | some r =>
            have := (ix_some h03).2
            rw [if_neg (show ¬ oi (-1) (some r) = (-1 : Int32) from nI_no1 (by omega))]; rfl
          | none =>
            rw [if_pos (show oi (-1) none = (-1 : Int32) from rfl)]
            cases hbq : Nat.beq q 4 with
            | false =>
              rw [if_pos (show bI false = (0 : Int32) from rfl), hwd, findNumber_ok m2 hnb.n, Option.bind_some]
              dsimp only
              cases h02 : ix (L 2) (x.vl c) with
              | some r =>
                have := (ix_some h02).2
                rw [if_neg (show ¬ oi (-1) (some r) = (-1 : Int32) from nI_no1 (by omega))]; rfl
              | none => rw [if_pos (show oi (-1) none = (-1 : Int32) from rfl)]; rfl
            | true =>
              rw [if_neg (show ¬ bI true = (0 : Int32) by decide), hwd, findLocal_ok m4 (hnb.v (Nat.eq_of_beq_eq_true hbq)), Option.bind_some]
              dsimp only
              cases h04 : ix (L 4) (x.vl c) with
              | some r =>
                have := (ix_some h04).2
                rw [if_neg (show ¬ oi (-1) (some r) = (-1 : Int32) from nI_no1 (by omega))]; rfl
              | none => rw [if_pos (show oi (-1) none = (-1 : Int32) from rfl)]; rfl
    have eA : cD_checkNewWord (nI q) (nI (nmx q)) a = (if x.kd c = 2 then (if tkn1 L (Nat.beq q 4) (x.vl c) = true then cT_fail 3 a else if (L q).length < nmx q then some (1, a) else cT_fail 5 a) else cT_fail 3 a) := by
      have e5 : ((cT_fail ((5 : Int32)) a).bind (fun x16 => (if x16.1 = ((0 : Int32)) then some ((0 : Int32), x16.2) else some ((1 : Int32), x16.2)))) = cT_fail 5 a := by
        rw [failX_ok hx ha]; rfl
      unfold cD_checkNewWord
      rw [any_ok hx ha, if_pos hw, Option.bind_some]
      dsimp only
      rw [if_neg (by decide)]
      unfold cT_isReserved cD_checkNewWord_47
      rw [ha.ki]
      simp only [bind_eta]
      by_cases h2 : x.kd c = 2
      · rw [if_pos (show nI (x.kd c) < (512 : Int32) by rw [h2]; decide), if_pos h2, Option.bind_some]
        dsimp only
        rw [if_pos rfl, word_ok hx ha, Option.bind_some]
        dsimp only
        rw [taken_ok hna hq hv, Option.bind_some]
        dsimp only
        cases htk : tkn1 L (Nat.beq q 4) (x.vl c) with
        | true => rw [if_neg (show ¬ bI true = (0 : Int32) by decide), if_pos rfl]
        | false =>
          rw [if_pos (show bI false = (0 : Int32) from rfl), if_pos (nI_idx hq (by decide)), nI_clamp (by omega), hna.c q hq, e5, if_neg (show ¬ (false = true) by decide)]
          by_cases hc : (L q).length < nmx q
          · rw [if_pos (nI_lt hc (by omega)), if_pos hc]
          · rw [if_neg (nI_nlt (by omega) (by omega)), if_neg hc]
      · rw [if_neg (show ¬ nI (x.kd c) < (512 : Int32) from nI_nlt (b := 512) (by omega) (by omega)), if_neg h2, Option.bind_some]
        dsimp only
        rw [if_neg (by decide)]
    have e104 : ∀ t : Int32, cR_freshName_104 t b = (if x.kd c = 2 then (if t = 0 then some b else cR_need 0 3 b) else cR_need 0 3 b) := by
      intro t
      unfold cR_freshName_104 cR_freshName_123
      rw [hres, Option.bind_some]
      dsimp only
      simp only [bind_eta1]
      by_cases h2 : x.kd c = 2
      · rw [if_pos (show rvI (x.kd c) = -1 by rw [h2]; rfl), if_pos h2, need_t]
      · rw [if_neg (show ¬ rvI (x.kd c) = -1 from fun z => by
          have e : rvI (x.kd c) = nI (x.kd c - 512) := if_pos (by omega)
          rw [e] at z; exact nI_no1 (by omega) z), if_neg h2]
    rw [eA, e25, e104]
    by_cases h2 : x.kd c = 2
    · rw [if_pos h2, if_pos h2]
      cases htk : tkn1 L (Nat.beq q 4) (x.vl c) with
      | true =>
        rw [if_pos rfl, if_neg (show ¬ bI true = (0 : Int32) by decide)]
        obtain ⟨a1, bf, y1, y2, y3, y4, y5⟩ := fail_both hx ha hb h1 3 (by decide)
        exact ⟨0, a1, bf, bf, y1, y2, limit_bad y3.2.2, y4, y5, fr_rf, Or.inl ⟨rfl, y3⟩⟩
      | false =>
        rw [if_neg (show ¬ (false = true) by decide), if_pos (show bI false = (0 : Int32) from rfl)]
        by_cases hc : (L q).length < nmx q
        · have hbl : Nat.blt (L q).length (nmx q) = true := Nat.ble_eq_true_of_le hc
          refine ⟨1, a, b, b, by rw [if_pos hc], rfl, ?_, fr_rf, fr_rf, fr_rf, Or.inr ⟨rfl, rfl, rfl, rfl, h2, rfl, hc⟩⟩
          rw [hbl]
          unfold cR_limit
          rw [good_t hg, Option.bind_some]
          dsimp only
          rw [if_neg (by decide), bind_eta1]; exact need_t
        · have hbl : Nat.blt (L q).length (nmx q) = false := by
            cases hh : Nat.blt (L q).length (nmx q) with
            | false => rfl
            | true => exact absurd (Nat.le_of_ble_eq_true hh) hc
          obtain ⟨a1, bf, y1, y2, y3, y4, y5⟩ := fail_both hx ha hb h1 5 (by decide)
          refine ⟨0, a1, b, bf, by rw [if_neg hc]; exact y1, rfl, ?_, y4, fr_rf, y5, Or.inl ⟨rfl, y3⟩⟩
          rw [hbl]
          unfold cR_limit
          rw [good_t hg, Option.bind_some]
          dsimp only
          rw [if_neg (by decide), bind_eta1]; exact y2
    · rw [if_neg h2, if_neg h2]
      obtain ⟨a1, bf, y1, y2, y3, y4, y5⟩ := fail_both hx ha hb h1 3 (by decide)
      exact ⟨0, a1, bf, bf, y1, y2, limit_bad y3.2.2, y4, y5, fr_rf, Or.inl ⟨rfl, y3⟩⟩
  · obtain ⟨a1, bf, y1, y2, y3, y4, y5⟩ := fail_both hx ha hb h1 2 (by decide)
    refine ⟨0, a1, bf, bf, ?_, ?_, limit_bad y3.2.2, y4, y5, fr_rf, Or.inl ⟨rfl, y3⟩⟩
    · unfold cD_checkNewWord
      rw [any_ok hx ha, if_neg hw, Option.bind_some]
      dsimp only
      rw [if_pos rfl, bind_eta]; exact y1
    · rw [eF, if_neg (fun z => hw ((word1 hx hb h1).mp z))]
      unfold cR_freshName_21 cR_freshName_25
      rw [y2, Option.bind_some, good_f y3.2.2, Option.bind_some]; rfl
