/-! Statements that set a value. -/
theorem nI_no1 {r : Nat} (h : r < 2 ^ 31) : ¬ nI r = (-1 : Int32) := fun z => by
  have := nI_pos' h; rw [z] at this; exact absurd this (by decide)
theorem nI_no2 {r : Nat} (h : r < 2 ^ 31) : ¬ nI r = (-2 : Int32) := fun z => by
  have := nI_pos' h; rw [z] at this; exact absurd this (by decide)
/-- must, then an expression, its place, and the end: behind a fault -/
theorem expBad {b : ts} {g K' : Nat} {aw : Int32} (h : ¬ gI b 1103 0 = 0) (hq : gI b 1139 0 = nI K') (hl : K' < 9000) (hw : gI b 1142 0 = nI 0) (hg : g < 900) : ∃ b1, ((cR_takeExp aw b).bind (fun x10 => (if am_idx (nI g) 900 = true then (cR_must ((59 : Int32)) (wA x10.2 101 (nI g).toNatClampNeg x10.1)).bind (fun s13 => some s13) else none))) = some b1 ∧ Flt b b1 ∧ fr (2101 :: wf_cR_takeExp) b b1 := by
  obtain ⟨b1, h1, h2, h3, h4, h5⟩ := takeExpB (aw := aw) h hq hl hw
  refine ⟨wA b1 101 g (nI K'), ?_, h4, fr_wA (fr_mono (by decide +kernel) h5) (by decide +kernel)⟩
  rw [h1, Option.bind_some]
  dsimp only
  rw [if_pos (nI_idx hg (by decide)), nI_clamp (by omega), bind_eta1, must_bad]
  exact Flt_bad h h4
theorem stm_set {x : Cx} (hx : x.Ok) {L : Nat → List Int64} {T : List (Nat × Nat)} {pm : Nat → Nat} {rc : Nat → Int32 → ts → Option (Int32 × ts)} {d : Int32} {G : List Ln} {τ : Nat → Int32} {a b : ts} {c q K K' e D : Nat} {BK BL : Nat → Int32} (hd : ND L) (hA : SXA x L T pm G τ a c q K e false) (hB : SXB x L pm G τ b c q K' D BK BL 0) (hk : K ≤ x.ps c) (hk' : K' ≤ 2 * x.ps c) (hq : q < 250) (hkd : x.kd c = 2) (v : Nat) (hv : fv L (x.vl c) = some v) : StOk x L T pm rc d G τ a b c q e D BK BL := by
  have hcl := hA.1.1.l
  have hcm := hx.lm hcl (by omega)
  have hp := hx.p1 (c := c) (by omega)
  have hpn := hx.pn (c + 1)
  have hn4 := hx.n
  have hv24 := fv_lt hA.1.2.1 hv
  have hm4 : (L 4).length ≤ 8 := hA.1.2.1.m 4 (by omega)
  have hm2 : (L 2).length ≤ 16 := hA.1.2.1.m 2 (by omega)
  obtain ⟨-, hs⟩ := st21 hx (rc := rc) (d := d) hA.1.1 hA.2.1.2.2 hcm
  have hA1 := SXA_begin hA hq hs
  have hG := SXA_G hA1
  generalize hs5 : av x (wI a 403 0 (nI (q + 1))) (c + 1) = s5 at hA1 hs
  -- the reference up to the sign
  have hg := hB.1.1.g (by omega)
  have e0 : gI b 1126 0 + 1 = nI (q + 1) := by rw [hB.2.1.2.2.1]; exact nI_add q 1
  have hwd : gJ b 1108 0 = x.vl c := (hB.1.1.nx.2 (show x.kd c ≠ 1 by omega)).2.2.2.2.1 (Or.inl hkd)
  have hBq := SXB_q hB
  have ref : ∃ b1, cR_takeStatement_116 (rvI (x.kd c)) (bI (Nat.beq (x.kd c) 2)) 1 b = (cR_must ((61 : Int32)) b1).bind (fun s6 => (cR_takeExp ((0 : Int32)) s6).bind (fun x10 => (if am_idx (nI G.length) 900 = true then (cR_must ((59 : Int32)) (wA x10.2 101 (nI G.length).toNatClampNeg x10.1)).bind (fun s13 => some s13) else none))) ∧ SXB x L pm G τ b1 (c + 1) (q + 1) K' D BK BL 1 ∧ gA b1 99 G.length = nI (if v < 8 then 24 else 25) ∧ gA b1 100 G.length = nI (if v < 8 then v else v - 8) ∧ fr wSt b b1 := by
    have common : ∀ (w t : Int32), ∃ b1, (∀ l : Int32, cR_takeStatement_191 l (nI G.length) t (wA (wA (wA (wA (wI (wI b 1126 0 (nI (q + 1))) 1125 0 (nI (G.length + 1))) 99 G.length w) 101 G.length (-1)) 102 G.length (-1)) 105 G.length (nI 0)) = (cR_must ((61 : Int32)) b1).bind (fun s6 => (cR_takeExp ((0 : Int32)) s6).bind (fun x10 => (if am_idx l 900 = true then (cR_must ((59 : Int32)) (wA x10.2 101 l.toNatClampNeg x10.1)).bind (fun s13 => some s13) else none)))) ∧ SXB x L pm G τ b1 (c + 1) (q + 1) K' D BK BL 1 ∧ gA b1 99 G.length = w ∧ gA b1 100 G.length = t ∧ fr wSt b b1 := by
      intro w t
      obtain ⟨b1, l1, l2, l3, l4, l5, l6⟩ := line_sx hBq (by omega) w
      have l7 := line_run (w := w) hBq.2.1.1 (by omega)
      have eb : b1 = wA (wA (wA (wA (wI (wI b 1126 0 (nI (q + 1))) 1125 0 (nI (G.length + 1))) 99 G.length w) 101 G.length (-1)) 102 G.length (-1)) 105 G.length (nI 0) := (Prod.mk.inj (Option.some.inj (l1.symm.trans l7))).2
      rw [← eb]
      have hB2 := SXB_100 l2 t
      obtain ⟨b2, n1, n2, n3⟩ := nxt_ok hx hB2.1.1 (by omega)
      refine ⟨b2, ?_, SXB_tok hB2 n3 n2, (n3.2.1 99 rfl _).trans l3, (n3.2.1 100 rfl _).trans gA_wAs, fr_tr (fr_wA (fr_tr (fr_wI fr_rf (by decide +kernel)) (fr_mono (by decide +kernel) l6)) (by decide +kernel)) (fr_mono (by decide +kernel) n3)⟩
      intro l
      unfold cR_takeStatement_191
      rw [if_pos (nI_idx (by omega) (by decide)), nI_clamp (by omega), n1, Option.bind_some]
    have e163 : ∀ (l3 w : Int32), cR_takeStatement_163 l3 w (wI b 1126 0 (nI (q + 1))) = (if l3 = ((-1 : Int32)) then (cR_findNumber (x.vl c) (wA (wA (wA (wA (wI (wI b 1126 0 (nI (q + 1))) 1125 0 (nI (G.length + 1))) 99 G.length w) 101 G.length (-1)) 102 G.length (-1)) 105 G.length (nI 0))).bind (fun x6 => cR_takeStatement_191 (nI G.length) (nI G.length) x6.1 x6.2) else cR_takeStatement_191 (nI G.length) (nI G.length) l3 (wA (wA (wA (wA (wI (wI b 1126 0 (nI (q + 1))) 1125 0 (nI (G.length + 1))) 99 G.length w) 101 G.length (-1)) 102 G.length (-1)) 105 G.length (nI 0))) := by
      intro l3 w
      unfold cR_takeStatement_163
      rw [line_run hBq.2.1.1 (by omega), Option.bind_some]
      dsimp only
      rw [show gJ (wA (wA (wA (wA (wI (wI b 1126 0 (nI (q + 1))) 1125 0 (nI (G.length + 0 + 1))) 99 (G.length + 0) w) 101 (G.length + 0) (-1)) 102 (G.length + 0) (-1)) 105 (G.length + 0) (nI 0)) 1108 0 = x.vl c from hwd]
      rfl
    have e116 : cR_takeStatement_116 (rvI (x.kd c)) (bI (Nat.beq (x.kd c) 2)) 1 b = (if oi (-1) (ix (L 4) (x.vl c)) = ((-1 : Int32)) then cR_takeStatement_163 (oi (-1) (ix (L 4) (x.vl c))) ((25 : Int32)) (wI b 1126 0 (nI (q + 1))) else cR_takeStatement_163 (oi (-1) (ix (L 4) (x.vl c))) ((24 : Int32)) (wI b 1126 0 (nI (q + 1)))) := by
      unfold cR_takeStatement_116 cR_limit
      rw [good_t hg, Option.bind_some]
      dsimp only
      rw [if_neg (by decide), need_t, Option.bind_some, Option.bind_some, good_t hg, Option.bind_some]
      dsimp only
      rw [if_neg (by decide), if_neg (by rw [hkd]; decide), e0, show gJ (wI b 1126 0 (nI (q + 1))) 1108 0 = x.vl c from hwd, findLocal_ok hm4 hBq.1.2.v, Option.bind_some]
    rw [e116]
    unfold fv at hv
    cases hi : ix (L 4) (x.vl c) with
    | some r =>
      rw [hi] at hv
      have hrv : r = v := Option.some.inj hv
      have hr := (ix_some hi).2
      have hv8 : v < 8 := by omega
      obtain ⟨b1, y1, y2, y3, y4, y5⟩ := common 24 (nI r)
      refine ⟨b1, ?_, y2, ?_, ?_, y5⟩
      · rw [if_neg (show ¬ oi (-1) (some r) = (-1 : Int32) from nI_no1 (by omega)), e163, if_neg (show ¬ oi (-1) (some r) = (-1 : Int32) from nI_no1 (by omega))]
        exact y1 _
      · rw [y3, if_pos hv8]; rfl
      · rw [y4, if_pos hv8, hrv]
    | none =>
      rw [hi] at hv
      cases hi2 : ix (L 2) (x.vl c) with
      | none => rw [hi2] at hv; cases hv
      | some r =>
        rw [hi2] at hv
        have hrv : 8 + r = v := Option.some.inj hv
        have hr := (ix_some hi2).2
        obtain ⟨b1, y1, y2, y3, y4, y5⟩ := common 25 (nI r)
        refine ⟨b1, ?_, y2, ?_, ?_, y5⟩
        · rw [if_pos (show oi (-1) none = (-1 : Int32) from rfl), e163, if_pos (show oi (-1) none = (-1 : Int32) from rfl)]
          obtain ⟨b9, l1, l2, l3, l4, l5, l6⟩ := line_sx hBq (by omega) 25
          have l7 := line_run (w := 25) hBq.2.1.1 (by omega)
          have eb : b9 = wA (wA (wA (wA (wI (wI b 1126 0 (nI (q + 1))) 1125 0 (nI (G.length + 1))) 99 G.length 25) 101 G.length (-1)) 102 G.length (-1)) 105 G.length (nI 0) := (Prod.mk.inj (Option.some.inj (l1.symm.trans l7))).2
          rw [← eb] at y1 ⊢
          rw [findNumber_ok hm2 l2.1.2.n, hi2, Option.bind_some]
          exact y1 _
        · rw [y3, if_neg (by omega)]; rfl
        · rw [y4, if_neg (by omega), show v - 8 = r by omega]
  obtain ⟨b1, eR, hB1, g1, g2, f1⟩ := ref
  have hLB1 := SXB_LB hB1 (by omega)
  obtain ⟨r, a2, b2, n1, n2, n3, n4, n5⟩ := nm_ok hx hA1.1.1 hB1.1.1 (q := 61) (by omega)
  have eS : stK rc d (x.kd c) (x.vl c) s5 = (cT_need 61 s5).bind (fun x9 => if x9.1 = 0 then some (0, x9.2) else (cG_findValue (x.vl c) x9.2).bind (fun x12 => (cD_readPlain 1 x12.1 x12.2).bind (fun x15 => if x15.1 = 0 then some (0, x15.2) else some (1, x15.2)))) := by
    unfold stK; rw [if_pos hkd]
  have n1' : cT_need 61 s5 = some (r, a2) := n1
  have n2' : cR_must 61 b1 = some b2 := n2
  rw [n1', Option.bind_some] at eS
  rw [n2', Option.bind_some] at eR
  dsimp only at eS
  unfold StOk
  rw [hs5, eS, eR]
  have fb2 : fr wSt b b2 := fr_tr f1 (fr_mono (by decide +kernel) n5)
  rcases n3 with ⟨z1, z2, z3, z4, z5⟩ | ⟨z1, z2, z3⟩
  · have hp2 := hx.p1 (c := c + 1) (by omega)
    have hA2 := SXA_tok hA1 n4 z4
    have hB2 := SXB_tok hB1 n5 z5
    have hv4 : v < 8 → v < (L 4).length := by
      intro h8
      unfold fv at hv
      cases hi : ix (L 4) (x.vl c) with
      | some r => rw [hi] at hv; have hrv : r = v := Option.some.inj hv; have := (ix_some hi).2; omega
      | none =>
        rw [hi] at hv
        cases hi2 : ix (L 2) (x.vl c) with
        | none => rw [hi2] at hv; cases hv
        | some r => rw [hi2] at hv; have hrv : 8 + r = v := Option.some.inj hv; omega
    rw [if_neg (by rw [z1]; decide), value_ok hA2.1.2.1 hd, hv, Option.bind_some]
    dsimp only
    obtain ⟨r3, a3, b3, y1, -, y2, y3, y4⟩ := plain_tail hx hd (SXA_e hA2 (show e + 1 ≤ e + 2 by omega)) hB2 (by omega) (by omega) 1 (nI v) false rfl (by decide) (by decide) (fun F b3 K1 hf h1 => Or.inl ⟨rfl, ⟨v, hv24, rfl, by
      rw [show gA (wA b3 101 G.length (nI K')) 99 G.length = gA b3 99 G.length from rfl, hf.2.1 99 rfl, n5.2.1 99 rfl, g1], by
      rw [show gA (wA b3 101 G.length (nI K')) 100 G.length = gA b3 100 G.length from rfl, hf.2.1 100 rfl, n5.2.1 100 rfl, g2]⟩, h1⟩) (fun F => by
      show (if (1 : Nat) = 1 ∧ nI v < 8 then max (L 4).length ((nI v).toNatClampNeg + 1) else (L 4).length) = (L 4).length
      by_cases h8 : v < 8
      · have := hv4 h8
        rw [if_pos ⟨rfl, nI_lt (b := 8) h8 (by decide)⟩, nI_clamp (by omega)]; omega
      · rw [if_neg (fun z => nI_nlt (a := v) (b := 8) (by omega) (by omega) z.2)]) (show c ≤ c + 1 + 1 by omega) hcl fb2
    have e24 : cD_readPlain 1 (oi (-2) (some v)) a2 = some (r3, a3) := by
      unfold cD_readPlain
      rw [if_neg (by decide), hA2.2.1.2.1]; exact y1
    rw [e24, Option.bind_some]
    refine ⟨r3, a3, b3, ?_, y2, y3⟩
    dsimp only
    rcases y4 with y | y
    · rw [y]; rfl
    · rw [y]; rfl
  · obtain ⟨b3, h1, h2, h3⟩ := expBad (aw := 0) (g := G.length) z3.2.2 ((n5.1 1139 rfl 0).trans hB1.2.1.2.1) (by omega) ((n5.1 1142 rfl 0).trans hB1.2.1.2.2.2.1) (by omega)
    exact ⟨0, a2, b3, by rw [if_pos z1], h1, OutT_bad (LB_fr (LB_fr hLB1 n5 rfl) h3 rfl) (fr_tr fb2 (fr_mono (by decide +kernel) h3)) (Flt_FL z3 h2) hcl⟩
