/-! Statements that use a place. -/
theorem any_ok {x : Cx} (hx : x.Ok) {a : ts} {c : Nat} (ha : SA x a c) : cT_isAnyWord a = some (if x.kd c = 2 ∨ 512 ≤ x.kd c then 1 else 0, a) := by
  have hlt := hx.lt c
  unfold cT_isAnyWord
  rw [ha.ki]
  by_cases h2 : x.kd c = 2
  · rw [h2, if_pos (by decide), if_pos (Or.inl rfl)]
  · rw [if_neg (show ¬ nI (x.kd c) = (2 : Int32) from fun z => h2 (nI_inj (a := x.kd c) (b := 2) (by omega) (by decide) z))]
    by_cases h5 : 512 ≤ x.kd c
    · rw [if_neg (show ¬ nI (x.kd c) < (512 : Int32) from nI_nlt (b := 512) h5 (by omega)), if_pos (Or.inr h5)]
    · rw [if_pos (show nI (x.kd c) < (512 : Int32) from nI_lt (b := 512) (by omega) (by decide)), if_neg (by omega)]
theorem word1 {x : Cx} (hx : x.Ok) {b : ts} {c : Nat} (hb : SB x b c) (h1 : x.kd c ≠ 1) : gI b 1106 0 = 1 ↔ x.kd c = 2 ∨ 512 ≤ x.kd c := by
  have hlt := hx.lt c
  obtain ⟨r1, r2, r3, r4, r5, r6⟩ := rt_tab _ hlt (x.kv c) h1
  have x2 : gI b 1106 0 = nI (rt (x.kd c)) := (hb.nx.2 h1).2.1
  rw [x2, ← r1]
  exact ⟨fun z => nI_inj (a := rt (x.kd c)) (b := 1) (by omega) (by decide) z, fun z => by rw [z]; rfl⟩
theorem bad264 {b : ts} {g : Nat} {v : Int32} (h : ¬ gI b 1103 0 = 0) (hg : g < 900) : cR_takeRest_264 (nI g) v b = some (wA b 101 g v) := by
  unfold cR_takeRest_264
  rw [if_pos (nI_idx hg (by decide)), nI_clamp (by omega), bind_eta1]
  exact must_bad (show ¬ gI (wA b 101 g v) 1103 0 = 0 from h)
theorem bad224 {b : ts} {g : Nat} {l2 : Int32} (h : ¬ gI b 1103 0 = 0) (hg : g < 900) : cR_takeRest_224 (nI g) l2 b = some (wA b 101 g (-1)) := by
  unfold cR_takeRest_224
  rw [next_bad h, Option.bind_some, good_f h, Option.bind_some]
  dsimp only
  rw [if_pos rfl, bad264 h hg]
  split <;> rfl
theorem bad183 {b : ts} {g : Nat} {l2 : Int32} {L : Nat → List Int64} (hn : NB b L) (hm : (L 0).length ≤ 8) (h : ¬ gI b 1103 0 = 0) (hg : g < 900) : ∃ b1, cR_takeRest_183 (nI g) l2 b = some b1 ∧ Flt b b1 ∧ fr [2100, 2101] b b1 := by
  refine ⟨wA (wA b 100 g (oi (-1) (ix (L 0) (gJ b 1108 0)))) 101 g (-1), ?_, ⟨rfl, rfl⟩, fr_wA (fr_wA fr_rf rfl) rfl⟩
  unfold cR_takeRest_183
  rw [findResource_ok hm hn.r, Option.bind_some]
  dsimp only
  rw [if_pos (nI_idx hg (by decide)), nI_clamp (by omega), good_f (show ¬ gI (wA b 100 g (oi (-1) (ix (L 0) (gJ b 1108 0)))) 1103 0 = 0 from h), Option.bind_some]
  dsimp only
  rw [if_pos rfl]
  exact bad224 h hg
theorem bad340 {b : ts} {g K' : Nat} (h : ¬ gI b 1103 0 = 0) (hq : gI b 1139 0 = nI K') (hl : K' < 9000) (hw : gI b 1142 0 = nI 0) (hg : g < 900) : ∃ b1, cR_takeRest_340 (nI g) b = some b1 ∧ Flt b b1 ∧ fr (2101 :: wf_cR_takeExp) b b1 := by
  unfold cR_takeRest_340
  rw [next_bad h, Option.bind_some]
  exact expBad h hq hl hw hg
theorem bad299 {b : ts} {g K' : Nat} {L : Nat → List Int64} (hn : NB b L) (hm : (L 1).length ≤ 6) (h : ¬ gI b 1103 0 = 0) (hq : gI b 1139 0 = nI K') (hl : K' < 9000) (hw : gI b 1142 0 = nI 0) (hg : g < 900) : ∃ b1, cR_takeRest_299 (nI g) b = some b1 ∧ Flt b b1 ∧ fr (2100 :: 2101 :: wf_cR_takeExp) b b1 := by
  obtain ⟨b1, h1, h2, h3⟩ := bad340 (b := wA b 100 g (oi (-1) (ix (L 1) (gJ b 1108 0)))) h hq hl hw hg
  refine ⟨b1, ?_, h2, fr_tr (fr_wA fr_rf (by decide +kernel)) (fr_mono (by decide +kernel) h3)⟩
  unfold cR_takeRest_299
  rw [findStore_ok hm hn.s, Option.bind_some]
  dsimp only
  rw [if_pos (nI_idx hg (by decide)), nI_clamp (by omega), good_f (show ¬ gI (wA b 100 g (oi (-1) (ix (L 1) (gJ b 1108 0)))) 1103 0 = 0 from h), Option.bind_some]
  dsimp only
  rw [if_pos rfl, h1]
theorem fp_r (L : Nat → List Int64) (w : Int64) : fp L true false w = ix (L 0) w := by
  unfold fp
  rw [if_pos rfl]
  cases ix (L 0) w <;> rfl
theorem fp_s (L : Nat → List Int64) (w : Int64) : fp L false true w = (ix (L 1) w).map (8 + ·) := by
  unfold fp
  rw [if_neg (by decide), if_pos rfl]
theorem addOp_sx {x : Cx} {L : Nat → List Int64} {T : List (Nat × Nat)} {pm : Nat → Nat} {G : List Ln} {τ : Nat → Int32} {a : ts} {c q K e : Nat} {aw : Bool} (h : SXA x L T pm G τ a c q K e aw) (hK : K < 4000) : ∃ a1, cG_addOp 1 0 a = some (nI K, a1) ∧ SXA x L T pm G τ a1 c q (K + 1) e aw ∧ OpA a1 K [(1, 0)] := by
  have hEA : EA a K (gA a 26) (gA a 27) [] := ⟨by simpa using h.2.1.2.1, fun j o hj => by simp at hj, fun j _ => ⟨rfl, rfl⟩⟩
  obtain ⟨h1, h2⟩ := addOp_ok (o := 1) (v := 0) hEA (by simpa using hK) (fun z => by cases z)
  have h1 : cG_addOp 1 0 a = some (nI K, opW a K 1 0) := h1
  have h2 : EA (opW a K 1 0) K (gA a 26) (gA a 27) [(1, 0)] := h2
  exact ⟨_, h1, SXA_step h fr_opW rfl (SA_fr fr_opW rfl h.1.1) h2.n (by omega) h2.p, h2.o⟩
/-- an act without an expression that is read -/
theorem noexp_tail {x : Cx} (hx : x.Ok) {L : Nat → List Int64} {T : List (Nat × Nat)} {pm : Nat → Nat} {G : List Ln} {τ : Nat → Int32} {s b b1 : ts} {c c0 q K K1 K' e D : Nat} {BK BL : Nat → Int32} (hd : ND L) (n : Ln) (hA1 : SXA x L T pm G τ s c q K1 (e + 1) false) (hB1 : SXB x L pm G τ b1 c q K' D BK BL 1) (hk : K1 ≤ x.ps c) (hk' : K' ≤ 2 * x.ps c) (hK1 : K + n.2.2.1.flatten.length = K1) (ho : OpA s K n.2.2.1.flatten) (hjj : isJ n.1 = false) (hvs : VS L pm n) (hpn : pnd n = false) (h3 : n.1 ≠ 3) (hKB : KB b1 (L 0).length (L 1).length K' G.length n) (hmv : mv (L 4).length [n] = (L 4).length) (hc0 : c0 ≤ c) (hcm : c0 ≤ x.m) (fb : fr wSt b b1) : ∃ r a1 b3, cD_closeStatement (nI n.1) n.2.1 (nI K) s = some (r, a1) ∧ cR_must (nI 59) b1 = some b3 ∧ OutT x L T pm G τ e D BK BL b c0 1 r a1 b3 := by
  have hG := SXA_G hA1
  obtain ⟨a', t1, t2, t3⟩ := addAct_no (n := n) (t := n.2.1) (f := K) hA1 (fun _ => rfl) hK1 ho hvs hpn
  obtain ⟨r2, a3, b3, c1', c2', c3', c4', c5'⟩ := close_sx hx (b := b1) (K' := K') (BK := BK) (BL := BL) (D := D) (τ := τ) t1 t2 hk hB1.1.1 (SXB_LB hB1 (by omega)) hjj (fun k hk => if_neg (by omega)) (fun _ => ⟨hB1, hKB, by omega⟩)
  exact ⟨r2, a3, b3, c1', c2', OutT_one (V := []) c3' (fr_tr fb (fr_mono (by decide +kernel) c4')) (by rw [Lv_nil]; exact c5') hc0 hcm hjj h3 (by rw [Lv_nil]; exact hmv) (by rw [Lv_nil]; exact hd) (fun k hk => if_neg (by omega))⟩
theorem stm_use9 {x : Cx} (hx : x.Ok) {L : Nat → List Int64} {T : List (Nat × Nat)} {pm : Nat → Nat} {rc : Nat → Int32 → ts → Option (Int32 × ts)} {d : Int32} {G : List Ln} {τ : Nat → Int32} {a b : ts} {c q K K' e D : Nat} {BK BL : Nat → Int32} (hd : ND L) (hA : SXA x L T pm G τ a c q K e false) (hB : SXB x L pm G τ b c q K' D BK BL 0) (hk : K ≤ x.ps c) (hk' : K' ≤ 2 * x.ps c) (hq : q < 250) (k : Nat) (hkd : x.kd c = k) (hkk : k = 521 ∨ k = 522) : StOk x L T pm rc d G τ a b c q e D BK BL := by
  have hcl := hA.1.1.l
  have hcm := hx.lm hcl (by omega)
  have hp := hx.p1 (c := c) (by omega)
  have hpn := hx.pn (c + 1)
  have hpn2 := hx.pn (c + 2)
  have hn4 := hx.n
  have hm0 : (L 0).length ≤ 8 := hA.1.2.1.m 0 (by omega)
  obtain ⟨-, hs⟩ := st21 hx (rc := rc) (d := d) hA.1.1 hA.2.1.2.2 hcm
  have hA1 := SXA_begin hA hq hs
  have hG := SXA_G hA1
  obtain ⟨b1, e1, hB1, g1, g2, g3, f1⟩ := SXB_begin hx hB (by omega) (by omega)
  have hLB1 := SXB_LB hB1 (by omega)
  generalize hs5 : av x (wI a 403 0 (nI (q + 1))) (c + 1) = s5 at hA1 hs
  have eS : stK rc d (x.kd c) (x.vl c) s5 = cD_readUse (nI k) 1 s5 := by
    rw [hkd]; rcases hkk with h | h <;> (subst h; rfl)
  have eR : cR_takeRest (nI G.length) (nI (x.kd c - 512)) b1 = (cR_good b1).bind (fun x43 => (if x43.1 = ((0 : Int32)) then cR_takeRest_183 (nI G.length) (nI (k - 512)) x43.2 else (if (gI x43.2 1106 0) = ((1 : Int32)) then cR_takeRest_179 (nI G.length) (nI (k - 512)) ((1 : Int32)) x43.2 else cR_takeRest_179 (nI G.length) (nI (k - 512)) ((0 : Int32)) x43.2))) := by
    rw [hkd]; rcases hkk with h | h <;> (subst h; rfl)
  unfold StOk
  rw [hs5, eS, e1, eR]
  have bad : ∀ (bf a1 : ts), ¬ gI bf 1103 0 = 0 → fr [1103, 1104] b1 bf → FL a1 bf → ∃ b3, cR_takeRest_183 (nI G.length) (nI (k - 512)) bf = some b3 ∧ OutT x L T pm G τ e D BK BL b c 1 0 a1 b3 := by
    intro bf a1 h1 h2 h3
    obtain ⟨b3, y1, y2, y3⟩ := bad183 (l2 := nI (k - 512)) (NB_fr h2 rfl hB1.1.2) hm0 h1 (show G.length < 900 by omega)
    exact ⟨b3, y1, OutT_bad (LB_fr (LB_fr hLB1 h2 rfl) y3 rfl) (fr_tr f1 (fr_tr (fr_mono (by decide +kernel) h2) (fr_mono (by decide +kernel) y3))) (Flt_FL h3 y2) hcl⟩
  unfold cD_readUse
  rw [any_ok hx hA1.1.1, Option.bind_some]
  dsimp only
  by_cases h1 : x.kd (c + 1) = 1
  · obtain ⟨a2, y1, y2, y3⟩ := fail_tok hx hA1.1.1 hB1.1.1 h1 2
    obtain ⟨b3, y4, y5⟩ := bad b1 a2 (hB1.1.1.nb h1) fr_rf y2
    refine ⟨0, a2, b3, ?_, ?_, y5⟩
    · rw [if_neg (show ¬ (x.kd (c + 1) = 2 ∨ 512 ≤ x.kd (c + 1)) by omega), if_pos rfl, bind_eta]; exact y1
    · rw [good_f (hB1.1.1.nb h1), Option.bind_some]
      dsimp only
      rw [if_pos rfl]; exact y4
  have hg1 := hB1.1.1.g h1
  rw [good_t hg1, Option.bind_some]
  dsimp only
  rw [if_neg (show ¬ (1 : Int32) = 0 by decide)]
  by_cases hw : x.kd (c + 1) = 2 ∨ 512 ≤ x.kd (c + 1)
  · have hwd : gJ b1 1108 0 = x.vl (c + 1) := (hB1.1.1.nx.2 h1).2.2.2.2.1 hw
    rw [if_pos hw, if_neg (by decide), word_ok hx hA1.1.1, Option.bind_some]
    dsimp only
    rw [if_neg (by decide), if_pos ((word1 hx hB1.1.1 h1).mpr hw)]
    unfold cD_readUse_40
    have hpl : cG_findPlace (x.vl (c + 1)) 1 0 s5 = some (oi (-2) (ix (L 0) (x.vl (c + 1))), s5) := by
      have := place_ok hA1.1.2.1 hd true false (x.vl (c + 1))
      rw [fp_r] at this; exact this
    rw [hpl, Option.bind_some]
    dsimp only
    have hB2 := SXB_100 hB1 (oi (-1) (ix (L 0) (x.vl (c + 1))))
    have e179 : cR_takeRest_179 (nI G.length) (nI (k - 512)) 1 b1 = (if (gA (wA b1 100 G.length (oi (-1) (ix (L 0) (x.vl (c + 1))))) 100 G.length) = ((-1 : Int32)) then cR_takeRest_220 (nI G.length) (nI (k - 512)) ((0 : Int32)) (wA b1 100 G.length (oi (-1) (ix (L 0) (x.vl (c + 1))))) else cR_takeRest_220 (nI G.length) (nI (k - 512)) ((1 : Int32)) (wA b1 100 G.length (oi (-1) (ix (L 0) (x.vl (c + 1)))))) := by
      unfold cR_takeRest_179
      rw [need_t, Option.bind_some]
      unfold cR_takeRest_183
      rw [hwd, findResource_ok hm0 hB1.1.2.r, Option.bind_some]
      dsimp only
      rw [if_pos (nI_idx (by omega) (by decide)), nI_clamp (by omega), good_t (show gI (wA b1 100 G.length (oi (-1) (ix (L 0) (x.vl (c + 1))))) 1103 0 = 0 from hg1), Option.bind_some]
      dsimp only
      rw [if_neg (by decide)]
    rw [e179, gA_wAs]
    have f2 : fr wSt b (wA b1 100 G.length (oi (-1) (ix (L 0) (x.vl (c + 1))))) := fr_wA f1 (by decide +kernel)
    cases hi : ix (L 0) (x.vl (c + 1)) with
    | none =>
      rw [hi] at hB2 f2
      obtain ⟨a2, bf, y1, y2, y3, y4, y5⟩ := fail_both hx hA1.1.1 hB2.1.1 h1 4 (by decide)
      refine ⟨0, a2, wA bf 101 G.length (-1), ?_, ?_, OutT_bad ?_ (fr_wA (fr_tr f2 (fr_mono (by decide +kernel) y5)) (by decide +kernel)) y3 hcl⟩
      · rw [if_pos (show oi (-2) none = (-2 : Int32) from rfl), bind_eta]; exact y1
      · rw [if_pos (show oi (-1) none = (-1 : Int32) from rfl)]
        unfold cR_takeRest_220
        rw [y2, Option.bind_some]
        exact bad224 y3.2.2 (by omega)
      · exact LB_fr (LB_fr (SXB_LB hB2 (by omega)) y5 rfl) (W := [2101]) (fr_wA fr_rf rfl) rfl
    | some r =>
      rw [hi] at hB2 f2
      have hr := (ix_some hi).2
      have e220 : cR_takeRest_220 (nI G.length) (nI (k - 512)) 1 (wA b1 100 G.length (oi (-1) (some r))) = cR_takeRest_224 (nI G.length) (nI (k - 512)) (wA b1 100 G.length (oi (-1) (some r))) := by
        unfold cR_takeRest_220
        rw [need_t, Option.bind_some]
      rw [if_neg (show ¬ oi (-2) (some r) = (-2 : Int32) from nI_no2 (by omega)), if_neg (show ¬ oi (-1) (some r) = (-1 : Int32) from nI_no1 (by omega)), e220]
      have hcm1 := hx.lm hA1.1.1.l (show 2 ≤ x.kd (c + 1) by omega)
      have hp1 := hx.p1 (c := c + 1) (by omega)
      obtain ⟨v1, v2⟩ := adv_ok hx hA1.1.1 hcm1
      obtain ⟨b2, n1, n2, n3⟩ := nxt_ok hx hB2.1.1 (by omega)
      have hA3 := SXA_tok hA1 (fr_mono (by decide +kernel) fr_av) v2
      have hB3 := SXB_tok hB2 n3 n2
      rw [v1, Option.bind_some]
      generalize av x s5 (c + 1 + 1) = s6 at hA3 v2
      have f3 : fr wSt b b2 := fr_tr f2 (fr_mono (by decide +kernel) n3)
      have k99 : gA b2 99 G.length = nI (k - 512) := by
        rw [n3.2.1 99 rfl, show gA (wA b1 100 G.length (oi (-1) (some r))) 99 G.length = gA b1 99 G.length from rfl, g1, hkd]
      have k100 : gA b2 100 G.length = nI r := by
        rw [n3.2.1 100 rfl, gA_wAs]; rfl
      have k101 : gA b2 101 G.length = -1 := by
        rw [n3.2.1 101 rfl, show gA (wA b1 100 G.length (oi (-1) (some r))) 101 G.length = gA b1 101 G.length from rfl, g2]
      have h217 := hA3.2.1.2.1
      have hki : gI s6 107 0 = (59 : Int32) ↔ x.kd (c + 1 + 1) = 59 := by
        have := hx.lt (c + 1 + 1)
        rw [hA3.1.1.ki]; exact ⟨fun z => nI_inj (a := x.kd (c + 1 + 1)) (b := 59) (by omega) (by decide) z, fun z => by rw [z]; rfl⟩
      -- the reference's end when no expression is read
      have ref0 : cR_takeRest_264 (nI G.length) (-1) b2 = cR_must (nI 59) (wA b2 101 G.length (-1)) := by
        unfold cR_takeRest_264
        rw [if_pos (nI_idx (by omega) (by decide)), nI_clamp (by omega), bind_eta1]; rfl
      have hB4 := SXB_101 hB3 (-1)
      have f4 : fr wSt b (wA b2 101 G.length (-1)) := fr_wA f3 (by decide +kernel)
      rcases hkk with hk5 | hk5
      · -- seize
        subst hk5
        rw [if_pos (by decide)]
        have r9 : cR_takeRest_224 (nI G.length) (nI (521 - 512)) (wA b1 100 G.length (oi (-1) (some r))) = (cR_good b2).bind (fun x6 => (if x6.1 = ((0 : Int32)) then cR_takeRest_264 (nI G.length) ((-1 : Int32)) x6.2 else (if (gI x6.2 1106 0) = ((59 : Int32)) then cR_takeRest_264 (nI G.length) ((-1 : Int32)) x6.2 else (cR_takeExp ((0 : Int32)) x6.2).bind (fun x9 => cR_takeRest_264 (nI G.length) x9.1 x9.2)))) := by
          unfold cR_takeRest_224
          rw [n1, Option.bind_some, if_pos (by decide)]
        rw [r9]
        by_cases h59 : x.kd (c + 1 + 1) = 59
        · rw [if_pos (hki.mpr h59), good_t (hB3.1.1.g (by omega)), Option.bind_some]
          dsimp only
          rw [if_neg (by decide), if_pos (show gI b2 1106 0 = (59 : Int32) from (sg_eq hx hB3.1.1 (by omega) (q := 59) (by omega)).mpr h59), ref0]
          obtain ⟨s7, o1, o2, o3⟩ := addOp_sx hA3 (by omega)
          rw [o1, Option.bind_some]
          dsimp only
          unfold cD_readUse_127
          rw [bind_eta, h217]
          exact noexp_tail hx hd ((521, nI r, [[(1, 0)]], 0, 0) : Ln) (SXA_e o2 (show e + 1 ≤ e + 2 by omega)) hB4 (by omega) (by omega) rfl o3 rfl (fun z => absurd z (show ¬ (521 : Nat) = 526 by decide)) rfl (show (521 : Nat) ≠ 3 by decide) (Or.inr (Or.inr (Or.inr (Or.inr (Or.inl ⟨rfl, k99, ⟨r, hr, rfl, k100⟩, [(1, 0)], rfl, Wt.leaf (Or.inl rfl) (by omega), Or.inl ⟨gA_wAs, rfl⟩⟩))))) (mv_no (show (521 : Nat) ≠ 1 by decide)) (by omega) hcl f4
        · rw [if_neg (fun z => h59 (hki.mp z))]
          unfold cD_readUse_107
          rw [if_neg (by decide), h217]
          unfold cD_readUse_127
          simp only [bind_eta]
          obtain ⟨r3, a3, b3, y1, y2, y3, y4, y5⟩ := plain_tail hx hd (SXA_e hA3 (show e + 1 ≤ e + 2 by omega)) hB3 (by omega) (by omega) 521 (nI r) false rfl (by decide) (by decide) (fun F b4 K1 hf h1 => by
            obtain ⟨F', q1, q2, q3⟩ := h1
            refine Or.inr (Or.inr (Or.inr (Or.inr (Or.inl ⟨rfl, ?_, ⟨r, hr, rfl, ?_⟩, F', q1, q2, Or.inr q3⟩))))
            · rw [show gA (wA b4 101 G.length (nI K')) 99 G.length = gA b4 99 G.length from rfl, hf.2.1 99 rfl, k99]
            · rw [show gA (wA b4 101 G.length (nI K')) 100 G.length = gA b4 100 G.length from rfl, hf.2.1 100 rfl, k100]) (fun F => mv_no (show (521 : Nat) ≠ 1 by decide)) (show c ≤ c + 1 + 1 by omega) hcl f3
          by_cases h1' : x.kd (c + 1 + 1) = 1
          · -- no token
            have hbad := hB3.1.1.nb h1'
            have y3' : ((cR_takeExp (bI false) b2).bind (fun x10 => (if am_idx (nI G.length) 900 = true then (cR_must ((59 : Int32)) (wA x10.2 101 (nI G.length).toNatClampNeg x10.1)).bind (fun s13 => some s13) else none))) = some b3 := y3
            obtain ⟨b5, w1, w2, w3, w4, w5⟩ := takeExpB (aw := bI false) hbad hB3.2.1.2.1 (by omega) hB3.2.1.2.2.2.1
            rw [w1, Option.bind_some] at y3'
            dsimp only at y3'
            rw [if_pos (nI_idx (by omega) (by decide)), nI_clamp (by omega), bind_eta1, must_bad (show ¬ gI (wA b5 101 G.length (nI K')) 1103 0 = 0 from Flt_bad hbad w4)] at y3'
            have eb : b3 = wA b5 101 G.length (nI K') := (Option.some.inj y3').symm
            refine ⟨r3, a3, wA b2 101 G.length (-1), y2 rfl, ?_, ?_⟩
            · rw [good_f hbad, Option.bind_some]
              dsimp only
              rw [if_pos rfl]; exact bad264 hbad (by omega)
            · rcases y4 with ⟨u1, u2, u3 | u3⟩
              · obtain ⟨u4, u5, u6⟩ := u3
                rw [u4]
                refine OutT_bad (LB_fr (SXB_LB hB4 (by omega)) (fr_rf (W := [])) rfl) f4 ?_ hcl
                rw [eb] at u5
                exact ⟨u5.1.trans w4.1, u5.2.1.trans w4.2, hbad⟩
              · obtain ⟨u4, c9, V9, H9, τ9, q9, K9, u6, u7, u8, u9, u10, -⟩ := u3
                exfalso
                -- the program fails there
                have hbd := (clF_all hx (T := T) (aw := false) hd 200 0 (by omega)).2.2.2.1 (by omega)
                obtain ⟨a9, d1, d2⟩ := hbd.2 s6 (c + 1 + 1) hA3.1.1 h1'
                have d1 : clF 200 0 0 s6 = some (0, a9) := d1
                have y2 := y2 rfl
                rw [d1, Option.bind_some] at y2
                dsimp only at y2
                rw [if_pos rfl] at y2
                have : (0 : Int32) = r3 := (Prod.mk.inj (Option.some.inj y2)).1
                rw [u4] at this; exact absurd this (by decide)
          · refine ⟨r3, a3, b3, y2 rfl, ?_, y4⟩
            rw [good_t (hB3.1.1.g h1'), Option.bind_some]
            dsimp only
            rw [if_neg (by decide), if_neg (show ¬ gI b2 1106 0 = (59 : Int32) from fun z => h59 ((sg_eq hx hB3.1.1 h1' (q := 59) (by omega)).mp z))]
            exact y3
      · subst hk5
        rw [if_neg (by decide)]
        unfold cD_readUse_107 cD_readUse_127
        rw [if_pos (by decide), bind_eta, h217]
        have r10 : cR_takeRest_224 (nI G.length) (nI (522 - 512)) (wA b1 100 G.length (oi (-1) (some r))) = cR_takeRest_264 (nI G.length) ((-1 : Int32)) b2 := by
          unfold cR_takeRest_224
          rw [n1, Option.bind_some, if_neg (by decide)]
        rw [r10, ref0]
        exact noexp_tail hx hd ((522, nI r, [], 0, 0) : Ln) (SXA_e hA3 (show e + 1 ≤ e + 2 by omega)) hB4 (by omega) (by omega) rfl (fun j o hj => by simp at hj) rfl (fun z => absurd z (show ¬ (522 : Nat) = 526 by decide)) rfl (show (522 : Nat) ≠ 3 by decide) (Or.inr (Or.inr (Or.inr (Or.inr (Or.inr (Or.inl ⟨rfl, k99, rfl, r, hr, rfl, k100, gA_wAs⟩)))))) (mv_no (show (522 : Nat) ≠ 1 by decide)) (by omega) hcl f4
  · obtain ⟨a2, bf, y1, y2, y3, y4, y5⟩ := fail_both hx hA1.1.1 hB1.1.1 h1 2 (by decide)
    obtain ⟨b3, y6, y7⟩ := bad bf a2 y3.2.2 y5 y3
    refine ⟨0, a2, b3, ?_, ?_, y7⟩
    · rw [if_neg hw, if_pos rfl, bind_eta]; exact y1
    · rw [if_neg (fun z => hw ((word1 hx hB1.1.1 h1).mp z))]
      unfold cR_takeRest_179
      rw [y2, Option.bind_some]; exact y6
