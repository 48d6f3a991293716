/-! PLAIN statements, and those that set a value. -/
def StOk (x : Cx) (L : Nat → List Int64) (T : List (Nat × Nat)) (pm : Nat → Nat) (rc : Nat → Int32 → ts → Option (Int32 × ts)) (d : Int32) (G : List Ln) (τ : Nat → Int32) (a b : ts) (c q e D : Nat) (BK BL : Nat → Int32) : Prop := ∃ r a1 b1, stK rc d (x.kd c) (x.vl c) (av x (wI a 403 0 (nI (q + 1))) (c + 1)) = some (r, a1) ∧ cR_takeStatement_116 (rvI (x.kd c)) (bI (Nat.beq (x.kd c) 2)) 1 b = some b1 ∧ OutT x L T pm G τ e D BK BL b c 1 r a1 b1
theorem X1_101 {b : ts} {K' g K1 : Nat} {F : List Op1} {n : Ln} (hn : n.2.2.1 = [F]) (hw : Wt 103 F) (ho : OpC b K' F) (hl : K' + F.length < K1) : X1 (wA b 101 g (nI K')) K1 g n := ⟨F, hn, hw, K', gA_wAs, hl, ho⟩
theorem fl1 (F : List Op1) : ([F] : List (List Op1)).flatten = F := by simp
theorem OpA1 {a a1 : ts} {K : Nat} {F : List Op1} (h : OpA a K F) (h6 : gA a1 26 = gA a 26) (h7 : gA a1 27 = gA a 27) : OpA a1 K ([F] : List (List Op1)).flatten := by
  rw [fl1]
  intro j o hj
  rw [h6, h7]; exact h j o hj
theorem mv_no {p : Nat} {n : Ln} (h : n.1 ≠ 1) : mv p [n] = p := if_neg (fun z => h z.1)
theorem stm_end {x : Cx} (hx : x.Ok) {L : Nat → List Int64} {T : List (Nat × Nat)} {pm : Nat → Nat} {rc : Nat → Int32 → ts → Option (Int32 × ts)} {d : Int32} {G : List Ln} {τ : Nat → Int32} {a b : ts} {c q K K' e D : Nat} {BK BL : Nat → Int32} (hd : ND L) (hA : SXA x L T pm G τ a c q K e false) (hB : SXB x L pm G τ b c q K' D BK BL 0) (hk : K ≤ x.ps c) (hk' : K' ≤ 2 * x.ps c) (hq : q < 250) (hkd : x.kd c = 530) : StOk x L T pm rc d G τ a b c q e D BK BL := by
  have hcl := hA.1.1.l
  have hcm := hx.lm hcl (by omega)
  have hp := hx.p1 (c := c) (by omega)
  obtain ⟨-, hs⟩ := st21 hx (rc := rc) (d := d) hA.1.1 hA.2.1.2.2 hcm
  have hA1 := SXA_begin hA hq hs
  have hG := SXA_G hA1
  obtain ⟨b1, e1, hB1, g1, g2, g3, f1⟩ := SXB_begin hx hB (by omega) (by omega)
  rw [hkd] at e1 g1
  generalize hs5 : av x (wI a 403 0 (nI (q + 1))) (c + 1) = s5 at hA1 hs
  obtain ⟨a', t1, t2, t3⟩ := addAct_no (n := ((530, -2, [], 0, 0) : Ln)) (t := -2) (f := K) hA1 (fun _ => rfl) rfl (fun j o hj => by simp at hj) (fun z => absurd z (by decide)) rfl
  obtain ⟨r, a1, b2, c1, c2, c3, c4, c5⟩ := close_sx hx (b := b1) (K' := K') (BK := BK) (BL := BL) (D := D) (τ := τ) t1 (SXA_e t2 (show e ≤ e + 1 by omega)) (by omega) hB1.1.1 (SXB_LB hB1 (by omega)) rfl (fun k hk => if_neg (by omega)) (fun _ => ⟨hB1, Or.inr (Or.inr (Or.inr (Or.inr (Or.inr (Or.inr (Or.inr (Or.inr ⟨rfl, g1, rfl, g2⟩))))))), by omega⟩)
  refine ⟨r, a1, b2, ?_, ?_, OutT_one (V := []) c3 (fr_tr f1 (fr_mono (by decide +kernel) c4)) (by rw [Lv_nil]; exact c5) (by omega) hcl rfl (show (530 : Nat) ≠ 3 by decide) (by rw [Lv_nil]; exact mv_no (show (530 : Nat) ≠ 1 by decide)) (by rw [Lv_nil]; exact hd) (fun k hk => if_neg (by omega))⟩
  · rw [hkd, hs5]
    show cD_closeStatement (nI 530) (-2) (gI s5 217 0) s5 = _
    rw [hA1.2.1.2.1]; exact c1
  · rw [hkd, e1]
    show (cR_must 59 b1).bind (fun s78 => some s78) = _
    rw [bind_eta1]; exact c2
/-- an expression, its place, the act and the end -/
theorem plain_tail {x : Cx} (hx : x.Ok) {L : Nat → List Int64} {T : List (Nat × Nat)} {pm : Nat → Nat} {G : List Ln} {τ : Nat → Int32} {s b b1 : ts} {c c0 q K K' e D : Nat} {BK BL : Nat → Int32} (hd : ND L) (hA1 : SXA x L T pm G τ s c q K (e + 1) false) (hB1 : SXB x L pm G τ b1 c q K' D BK BL 1) (hk : K ≤ x.ps c) (hk' : K' ≤ 2 * x.ps c) (k : Nat) (t : Int32) (aw : Bool) (hjj : isJ k = false) (h526 : k ≠ 526) (h3 : k ≠ 3) (hKB : ∀ F b2 K1, fr wf_cR_takeExp b1 b2 → X1 (wA b2 101 G.length (nI K')) K1 G.length ((k, t, [F], 0, 0) : Ln) → KB (wA b2 101 G.length (nI K')) (L 0).length (L 1).length K1 G.length ((k, t, [F], 0, 0) : Ln)) (hmv : ∀ F, mv (L 4).length [((k, t, [F], 0, 0) : Ln)] = (L 4).length) (hc0 : c0 ≤ c) (hcm : c0 ≤ x.m) (fb : fr wSt b b1) : ∃ r a1 b3, cD_readPlain_24 (nI k) t (nI K) (bI aw) s = some (r, a1) ∧ (aw = false → ((clF 200 0 0 s).bind (fun x3 => (if x3.1 = ((0 : Int32)) then some ((0 : Int32), x3.2) else cD_closeStatement (nI k) t (nI K) x3.2))) = some (r, a1)) ∧ ((cR_takeExp (bI aw) b1).bind (fun x10 => (if am_idx (nI G.length) 900 = true then (cR_must ((59 : Int32)) (wA x10.2 101 (nI G.length).toNatClampNeg x10.1)).bind (fun s13 => some s13) else none))) = some b3 ∧ OutT x L T pm G τ e D BK BL b c0 1 r a1 b3 ∧ (r = 0 ∨ r = 1) := by
  have hG := SXA_G hA1
  have hLB1 := SXB_LB hB1 (by omega)
  have hA2 := SXA_aw hA1 aw
  obtain ⟨r, a2, b2, x1, x2, x3, x4, x5, x6, x7⟩ := exp_sx hx hd hA2 hB1 hk hk'
  have eP2 : cD_readPlain_24 (nI k) t (nI K) (bI aw) s = (if r = (0 : Int32) then some ((0 : Int32), wI a2 302 0 ((0 : Int32))) else (cD_closeStatement (nI k) t (nI K) (wI a2 302 0 ((0 : Int32)))).bind (fun x7 => (if x7.1 = ((0 : Int32)) then some ((0 : Int32), x7.2) else some ((1 : Int32), x7.2)))) := by
    unfold cD_readPlain_24
    rw [if_pos (by cases aw <;> first | exact Or.inl rfl | exact Or.inr rfl), x1, Option.bind_some]
  have eP3 : aw = false → ((clF 200 0 0 s).bind (fun x3 => (if x3.1 = ((0 : Int32)) then some ((0 : Int32), x3.2) else cD_closeStatement (nI k) t (nI K) x3.2))) = (if r = (0 : Int32) then some ((0 : Int32), wI a2 302 0 ((0 : Int32))) else cD_closeStatement (nI k) t (nI K) (wI a2 302 0 ((0 : Int32)))) := by
    intro haw
    subst haw
    have e1 : wI s 302 0 (bI false) = s := by rw [← hA1.1.2.2]; exact wI_self
    have e2 : wI a2 302 0 (0 : Int32) = a2 := by
      have : gI a2 302 0 = (0 : Int32) := (x3.1 302 rfl 0).trans hA2.1.2.2
      rw [← this]; exact wI_self
    rw [e1] at x1
    rw [x1, Option.bind_some, e2]
  have hf2 : fr wSt b (wA b2 101 G.length (nI K')) := fr_wA (fr_tr fb (fr_mono (by decide +kernel) x4)) (by decide +kernel)
  have hLB2 : LB (wA b2 101 G.length (nI K')) := LB_fr (LB_fr hLB1 x4 rfl) (W := [2101]) (fr_wA fr_rf rfl) rfl
  have eR2 : ((cR_takeExp (bI aw) b1).bind (fun x10 => (if am_idx (nI G.length) 900 = true then (cR_must ((59 : Int32)) (wA x10.2 101 (nI G.length).toNatClampNeg x10.1)).bind (fun s13 => some s13) else none))) = cR_must (nI 59) (wA b2 101 G.length (nI K')) := by
    rw [x2, Option.bind_some]
    dsimp only
    rw [if_pos (nI_idx (by omega) (by decide)), bind_eta1, nI_clamp (by omega)]; rfl
  rcases x7 with ⟨z1, z2⟩ | ⟨z1, c1, F, z2, z3, z4, z5, z6, z7, z8⟩
  · refine ⟨0, wI a2 302 0 0, wA b2 101 G.length (nI K'), ?_, ?_, ?_, OutT_bad hLB2 hf2 z2 hcm, Or.inl rfl⟩
    · rw [eP2, if_pos z1]
    · intro haw; rw [eP3 haw, if_pos z1]
    · rw [eR2, must_bad (show ¬ gI (wA b2 101 G.length (nI K')) 1103 0 = 0 from z2.2.2)]
  · have hA3 := SXA_aw z4 false
    obtain ⟨a', t1, t2, t3⟩ := addAct_no (n := ((k, t, [F], 0, 0) : Ln)) (t := t) (f := K) hA3 (fun _ => rfl) (by simp) (OpA1 z5 rfl rfl) (fun z => absurd z h526) (by
      unfold pnd
      have : Nat.beq k 526 = false := by
        cases hh : Nat.beq k 526 with
        | false => rfl
        | true => exact absurd (Nat.eq_of_beq_eq_true hh) h526
      dsimp only
      rw [this]; rfl)
    obtain ⟨r2, a3, b3, c1', c2', c3', c4', c5'⟩ := close_sx hx (b := wA b2 101 G.length (nI K')) (K' := K' + F.length + 1) (BK := BK) (BL := BL) (D := D) (τ := τ) t1 t2 z7 (SB_fr (W := [2101]) (fr_wA fr_rf rfl) rfl rfl z6) hLB2 hjj (fun k hk => if_neg (by omega)) (fun hk1 => by
      obtain ⟨w1, w2, w3⟩ := z8 hk1
      exact ⟨SXB_101 w1 _, hKB F b2 _ x4 (X1_101 rfl z3 w2 (by omega)), by omega⟩)
    have c1' : cD_closeStatement (nI k) t (nI K) (wI a2 302 0 ((0 : Int32))) = some (r2, a3) := c1'
    have r01 : r2 = 0 ∨ r2 = 1 := by
      rcases c5' with ⟨y1, -⟩ | ⟨y1, -⟩
      · exact Or.inl y1
      · exact Or.inr y1
    refine ⟨r2, a3, b3, ?_, ?_, ?_, OutT_one (V := []) c3' (fr_tr hf2 (fr_mono (by decide +kernel) c4')) (by rw [Lv_nil]; exact c5') (by omega) hcm hjj h3 (by rw [Lv_nil]; exact hmv F) (by rw [Lv_nil]; exact hd) (fun k hk => if_neg (by omega)), r01⟩
    · rw [eP2, if_neg (by rw [z1]; decide), c1', Option.bind_some]
      dsimp only
      rcases r01 with y1 | y1
      · rw [y1]; rfl
      · rw [y1]; rfl
    · intro haw; rw [eP3 haw, if_neg (by rw [z1]; decide), c1']
    · rw [eR2]; exact c2'
theorem stm_plain {x : Cx} (hx : x.Ok) {L : Nat → List Int64} {T : List (Nat × Nat)} {pm : Nat → Nat} {rc : Nat → Int32 → ts → Option (Int32 × ts)} {d : Int32} {G : List Ln} {τ : Nat → Int32} {a b : ts} {c q K K' e D : Nat} {BK BL : Nat → Int32} (hd : ND L) (hA : SXA x L T pm G τ a c q K e false) (hB : SXB x L pm G τ b c q K' D BK BL 0) (hk : K ≤ x.ps c) (hk' : K' ≤ 2 * x.ps c) (hq : q < 250) (k : Nat) (hkd : x.kd c = k) (hkk : k = 520 ∨ k = 525 ∨ k = 527 ∨ k = 528 ∨ k = 529) : StOk x L T pm rc d G τ a b c q e D BK BL := by
  have hcl := hA.1.1.l
  have hcm := hx.lm hcl (by omega)
  have hp := hx.p1 (c := c) (by omega)
  obtain ⟨-, hs⟩ := st21 hx (rc := rc) (d := d) hA.1.1 hA.2.1.2.2 hcm
  have hA1 := SXA_begin hA hq hs
  have hG := SXA_G hA1
  obtain ⟨b1, e1, hB1, g1, g2, g3, f1⟩ := SXB_begin hx hB (by omega) (by omega)
  have hjj : isJ k = false := by rcases hkk with h | h | h | h | h <;> (rw [h]; rfl)
  generalize hs5 : av x (wI a 403 0 (nI (q + 1))) (c + 1) = s5 at hA1 hs
  have eS : stK rc d (x.kd c) (x.vl c) s5 = cD_readPlain (nI k) (-2) s5 := by
    rw [hkd]; unfold stK
    rw [if_neg (by omega), if_neg (by omega), if_neg (by omega), if_neg (by omega), if_neg (by omega), if_neg (by omega), if_neg (by omega), if_neg (by omega), if_neg (by omega), if_neg (by omega)]
  have eP : cD_readPlain (nI k) (-2) s5 = cD_readPlain_24 (nI k) (-2) (nI K) (bI (Nat.beq k 525)) s5 := by
    unfold cD_readPlain
    rw [hA1.2.1.2.1]
    rcases hkk with h | h | h | h | h <;> (subst h; rfl)
  have eR : cR_takeRest (nI G.length) (nI (x.kd c - 512)) b1 = cR_takeRest_398 (nI G.length) (bI (Nat.beq k 525)) b1 := by
    rw [hkd]
    rcases hkk with h | h | h | h | h <;> (subst h; rfl)
  obtain ⟨r, a1, b3, y1, -, y2, y3, y4⟩ := plain_tail hx hd (SXA_e hA1 (show e + 1 ≤ e + 2 by omega)) hB1 (by omega) (by omega) k (-2) (Nat.beq k 525) hjj (by omega) (by omega) (fun F b2 K1 hf h1 => Or.inr (Or.inr (Or.inr (Or.inl ⟨by dsimp only; omega, by
      rw [show gA (wA b2 101 G.length (nI K')) 99 G.length = gA b2 99 G.length from rfl, hf.2.1 99 rfl, g1, hkd], h1⟩)))) (fun F => mv_no (by dsimp only; omega)) (show c ≤ c + 1 by omega) hcl f1
  exact ⟨r, a1, b3, by rw [hs5, eS, eP, y1], by rw [e1, eR]; exact y2, y3⟩
