/-! The ends of blocks; choices and loops. -/
def jL : Ln := (2, -2, [], 0, 0)
def endK (kd ln : Int32) (s : ts) : Option ts := if kd = 7 then (cR_line 26 s).bind (fun x24 => if am_idx x24.1 900 = true then (if am_idx ln 900 = true then some (wA (wA x24.2 103 x24.1.toNatClampNeg ln) 103 ln.toNatClampNeg (gI (wA x24.2 103 x24.1.toNatClampNeg ln) 1125 0)) else none) else none) else if kd = 6 then (if am_idx ln 900 = true then some (wA s 103 ln.toNatClampNeg (gI s 1125 0)) else none) else if kd = 5 then (cR_reserved s).bind (fun x7 => if x7.1 = 6 then (cR_line 26 x7.2).bind (fun x10 => if am_idx ln 900 = true then (cR_next (wA x10.2 103 ln.toNatClampNeg (gI x10.2 1125 0))).bind (fun s13 => (cR_beginBlock 6 x10.1 s13).bind (fun s16 => some s16)) else none) else cR_endBlock_131 ln kd x7.2) else cR_endBlock_131 ln kd s
theorem end_eq {b b1 : ts} {D : Nat} (n1 : cR_next b = some b1) (h38 : gI b1 1138 0 = nI (D + 1)) (hD : D < 12) : cR_endBlock b = endK (gA b1 109 D) (gA b1 108 D) (wI b1 1138 0 (nI D)) := by
  have e : gI b1 1138 0 - 1 = nI D := by rw [h38]; exact nI_pred D
  unfold cR_endBlock
  rw [n1, Option.bind_some, e]
  simp only [gI_wIs]
  rw [if_pos (nI_idx hD (by decide)), nI_clamp (by omega)]
  rfl
theorem SXB_pop {x : Cx} {L : Nat → List Int64} {pm : Nat → Nat} {G : List Ln} {τ : Nat → Int32} {b : ts} {c q K D u : Nat} {BK BL : Nat → Int32} (h : SXB x L pm G τ b c q K (D + 1) BK BL u) : SXB x L pm G τ (wI b 1138 0 (nI D)) c q K D BK BL u := by
  have hf : fr [1138] b (wI b 1138 0 (nI D)) := fr_wI fr_rf rfl
  obtain ⟨⟨h1, h2⟩, ⟨h3, h4, h5, h6, h7⟩, h8, h9, h11⟩ := h
  exact ⟨⟨SB_fr hf rfl rfl h1, NB_fr hf rfl h2⟩, ⟨(hf.1 1125 rfl 0).trans h3, (hf.1 1139 rfl 0).trans h4, (hf.1 1126 rfl 0).trans h5, (hf.1 1142 rfl 0).trans h6, gI_wIs⟩, fun j hj => h8 j (by omega), h9, h11⟩
theorem res_tot {x : Cx} (hx : x.Ok) {b : ts} (hw : WD b) : ∃ v, cR_reserved b = some (v, b) := by
  unfold cR_reserved
  by_cases h : gI b 1106 0 = 1
  · rw [if_pos h]
    exact ⟨_, rw_all hw hx.r 24 0 tm_N (by omega) (by unfold tm_N; omega)⟩
  · rw [if_neg h]; exact ⟨_, rfl⟩
theorem end_while {x : Cx} (hx : x.Ok) {L : Nat → List Int64} {pm : Nat → Nat} {G : List Ln} {τ : Nat → Int32} {b : ts} {c q K D l : Nat} {BK BL : Nat → Int32} (h : SXB x L pm G τ b c q K (D + 1) BK BL 0) (hk : x.kd c = 125) (hG : G.length < 600) (hD : D < 12) (hK : BK D = 7) (hL : BL D = nI l) (hl : l < G.length) : ∃ b4, cR_endBlock b = some b4 ∧ SXB x L pm (G ++ [jL]) (fun k => if k = l then nI (G.length + 1) else (fun k => if k = G.length then nI l else τ k) k) b4 (c + 1) q K D BK BL 0 ∧ fr wSt b b4 := by
  obtain ⟨b1, n1, n2, n3⟩ := nxt_ok hx h.1.1 (by omega)
  have h1 := SXB_tok h n3 n2
  have h2 := SXB_pop h1
  obtain ⟨q1, q2⟩ := h1.2.2.1 D (by omega)
  obtain ⟨b3, l1, l2, l3, l4, l5, l6⟩ := line_sx h2 (by omega) 26
  have h3 := SXB_aim (l := G.length) (t := nI l) l2
  have h4 : SXB x L pm (G ++ [jL]) (fun k => if k = G.length then nI l else τ k) (wA b3 103 G.length (nI l)) (c + 1) q K D BK BL 0 := SXB_done (n := jL) h3 (Or.inr (Or.inl ⟨rfl, rfl, l3⟩)) (fun _ _ => by
    rw [if_pos rfl]; exact gA_wAs) (fun _ _ => rfl)
  have h5 := SXB_aim (l := l) (t := nI (G.length + 1)) h4
  have h45 : gI (wA b3 103 G.length (nI l)) 1125 0 = nI (G.length + 1) := l2.2.1.1
  refine ⟨_, ?_, h5, fr_wA (fr_wA (fr_tr (fr_tr (fr_mono (by decide +kernel) n3) (fr_wI fr_rf (by decide +kernel))) (fr_mono (by decide +kernel) l6)) (by decide +kernel)) (by decide +kernel)⟩
  rw [end_eq n1 h1.2.1.2.2.2.2 hD, q1, q2, hK, hL]
  unfold endK
  rw [if_pos rfl, l1, Option.bind_some]
  dsimp only
  rw [if_pos (nI_idx (by omega) (by decide)), if_pos (nI_idx (by omega) (by decide)), nI_clamp (by omega), nI_clamp (by omega), h45]
theorem end_else6 {x : Cx} (hx : x.Ok) {L : Nat → List Int64} {pm : Nat → Nat} {G : List Ln} {τ : Nat → Int32} {b : ts} {c q K D l : Nat} {BK BL : Nat → Int32} (h : SXB x L pm G τ b c q K (D + 1) BK BL 0) (hk : x.kd c = 125) (hG : G.length < 600) (hD : D < 12) (hK : BK D = 6) (hL : BL D = nI l) (hl : l < G.length) : ∃ b4, cR_endBlock b = some b4 ∧ SXB x L pm G (fun k => if k = l then nI G.length else τ k) b4 (c + 1) q K D BK BL 0 ∧ fr wSt b b4 := by
  obtain ⟨b1, n1, n2, n3⟩ := nxt_ok hx h.1.1 (by omega)
  have h1 := SXB_tok h n3 n2
  have h2 := SXB_pop h1
  obtain ⟨q1, q2⟩ := h1.2.2.1 D (by omega)
  have h5 := SXB_aim (l := l) (t := nI G.length) h2
  refine ⟨_, ?_, h5, fr_wA (fr_tr (fr_mono (by decide +kernel) n3) (fr_wI fr_rf (by decide +kernel))) (by decide +kernel)⟩
  rw [end_eq n1 h1.2.1.2.2.2.2 hD, q1, q2, hK, hL]
  unfold endK
  rw [if_neg (by decide), if_pos rfl, if_pos (nI_idx (by omega) (by decide)), nI_clamp (by omega), h2.2.1.1]
  rfl
theorem end_if {x : Cx} (hx : x.Ok) {L : Nat → List Int64} {pm : Nat → Nat} {G : List Ln} {τ : Nat → Int32} {b : ts} {c q K D l : Nat} {BK BL : Nat → Int32} (h : SXB x L pm G τ b c q K (D + 1) BK BL 0) (hk : x.kd c = 125) (hG : G.length < 599) (hD : D < 12) (hK : BK D = 5) (hL : BL D = nI l) (hl : l < G.length) (h518 : x.kd (c + 1) ≠ 518) : ∃ b4, cR_endBlock b = some b4 ∧ SB x b4 (c + 1) ∧ LB b4 ∧ (x.kd (c + 1) ≠ 1 → SXB x L pm G (fun k => if k = l then nI G.length else τ k) b4 (c + 1) q K D BK BL 0) ∧ fr wSt b b4 := by
  obtain ⟨b1, n1, n2, n3⟩ := nxt_ok hx h.1.1 (by omega)
  have h1 := SXB_tok h n3 n2
  have h2 := SXB_pop h1
  obtain ⟨q1, q2⟩ := h1.2.2.1 D (by omega)
  have f2 : fr wSt b (wI b1 1138 0 (nI D)) := fr_tr (fr_mono (by decide +kernel) n3) (fr_wI fr_rf (by decide +kernel))
  have hlt := hx.lt (c + 1)
  have eE : cR_endBlock b = (cR_reserved (wI b1 1138 0 (nI D))).bind (fun x7 => if x7.1 = 6 then (cR_line 26 x7.2).bind (fun x10 => if am_idx (nI l) 900 = true then (cR_next (wA x10.2 103 (nI l).toNatClampNeg (gI x10.2 1125 0))).bind (fun s13 => (cR_beginBlock 6 x10.1 s13).bind (fun s16 => some s16)) else none) else cR_endBlock_131 (nI l) 5 x7.2) := by
    rw [end_eq n1 h1.2.1.2.2.2.2 hD, q1, q2, hK, hL]
    unfold endK
    rw [if_neg (by decide), if_neg (by decide), if_pos rfl]
  have e131 : cR_endBlock_131 (nI l) 5 (wI b1 1138 0 (nI D)) = some (wA (wI b1 1138 0 (nI D)) 103 l (nI G.length)) := by
    unfold cR_endBlock_131
    rw [if_pos rfl, if_pos (nI_idx (by omega) (by decide)), nI_clamp (by omega), h2.2.1.1]; rfl
  have h5 := SXB_aim (l := l) (t := nI G.length) h2
  have f5 : fr wSt b (wA (wI b1 1138 0 (nI D)) 103 l (nI G.length)) := fr_wA f2 (by decide +kernel)
  by_cases hk1 : x.kd (c + 1) = 1
  · have hbad := h2.1.1.nb hk1
    obtain ⟨v, hv⟩ := res_tot hx h2.1.1.w
    rw [eE, hv, Option.bind_some]
    dsimp only
    by_cases h6 : v = 6
    · obtain ⟨b3, l1, l2, l3, l4, l5, l6⟩ := line_sx h2 (by omega) 26
      have f6 : fr [2103] b3 (wA b3 103 l (gI b3 1125 0)) := fr_wA fr_rf rfl
      have hSB : SB x (wA b3 103 l (gI b3 1125 0)) (c + 1) := SB_fr f6 rfl rfl l2.1.1
      refine ⟨wA b3 103 l (gI b3 1125 0), ?_, hSB, LB_fr (SXB_LB l2 (by omega)) f6 rfl, fun z => absurd hk1 z, fr_tr (fr_tr f2 (fr_mono (by decide +kernel) l6)) (fr_mono (by decide +kernel) f6)⟩
      rw [if_pos h6, l1, Option.bind_some]
      dsimp only
      rw [if_pos (nI_idx (by omega) (by decide)), nI_clamp (by omega), next_bad (hSB.nb hk1), Option.bind_some, beginBlock_bad (hSB.nb hk1)]; rfl
    · rw [if_neg h6, e131]
      exact ⟨_, rfl, h5.1.1, SXB_LB h5 (by omega), fun z => absurd hk1 z, f5⟩
  · have hres : cR_reserved (wI b1 1138 0 (nI D)) = some (rvI (x.kd (c + 1)), wI b1 1138 0 (nI D)) := reserved_ok h2.1.1.w hx.r h2.1.1.nx hk1
    rw [eE, hres, Option.bind_some]
    dsimp only
    have h6 : ¬ rvI (x.kd (c + 1)) = 6 := by
      intro z
      unfold rvI at z
      by_cases h5 : 512 ≤ x.kd (c + 1)
      · rw [if_pos h5] at z
        have := nI_inj (a := x.kd (c + 1) - 512) (b := 6) (by omega) (by decide) z
        omega
      · rw [if_neg h5] at z; exact absurd z (by decide)
    rw [if_neg h6, e131]
    exact ⟨_, rfl, h5.1.1, SXB_LB h5 (by omega), fun _ => h5, f5⟩
theorem end_elif {x : Cx} (hx : x.Ok) {L : Nat → List Int64} {pm : Nat → Nat} {G : List Ln} {τ : Nat → Int32} {b : ts} {c q K D l : Nat} {BK BL : Nat → Int32} (h : SXB x L pm G τ b c q K (D + 1) BK BL 0) (hk : x.kd c = 125) (hG : G.length < 599) (hD : D < 12) (hK : BK D = 5) (hL : BL D = nI l) (hl : l < G.length) (h518 : x.kd (c + 1) = 518) : ∃ b4, cR_endBlock b = cR_beginBlock 6 (nI G.length) b4 ∧ SXB x L pm (G ++ [jL]) (fun k => if k = l then nI (G.length + 1) else (fun k => if k = G.length then -2 else τ k) k) b4 (c + 1 + 1) q K D BK BL 0 ∧ fr wSt b b4 := by
  obtain ⟨b1, n1, n2, n3⟩ := nxt_ok hx h.1.1 (by omega)
  have h1 := SXB_tok h n3 n2
  have h2 := SXB_pop h1
  obtain ⟨q1, q2⟩ := h1.2.2.1 D (by omega)
  have f2 : fr wSt b (wI b1 1138 0 (nI D)) := fr_tr (fr_mono (by decide +kernel) n3) (fr_wI fr_rf (by decide +kernel))
  have eE : cR_endBlock b = (cR_reserved (wI b1 1138 0 (nI D))).bind (fun x7 => if x7.1 = 6 then (cR_line 26 x7.2).bind (fun x10 => if am_idx (nI l) 900 = true then (cR_next (wA x10.2 103 (nI l).toNatClampNeg (gI x10.2 1125 0))).bind (fun s13 => (cR_beginBlock 6 x10.1 s13).bind (fun s16 => some s16)) else none) else cR_endBlock_131 (nI l) 5 x7.2) := by
    rw [end_eq n1 h1.2.1.2.2.2.2 hD, q1, q2, hK, hL]
    unfold endK
    rw [if_neg (by decide), if_neg (by decide), if_pos rfl]
  have hres : cR_reserved (wI b1 1138 0 (nI D)) = some (rvI (x.kd (c + 1)), wI b1 1138 0 (nI D)) := reserved_ok h2.1.1.w hx.r h2.1.1.nx (by show x.kd (c + 1) ≠ 1; omega)
  obtain ⟨b3, l1, l2, l3, l4, l5, l6⟩ := line_sx h2 (by omega) 26
  have h3 : SXB x L pm (G ++ [jL]) (fun k => if k = G.length then -2 else τ k) b3 (c + 1) q K D BK BL 0 := SXB_done (n := jL) l2 (Or.inr (Or.inl ⟨rfl, rfl, l3⟩)) (fun _ z => by
    rw [if_pos rfl] at z; exact absurd rfl z) (fun k hk => if_neg (by omega))
  have h4 := SXB_aim (l := l) (t := nI (G.length + 1)) h3
  have h35 : gI b3 1125 0 = nI (G.length + 1) := l2.2.1.1
  obtain ⟨b5, m1, m2, m3⟩ := nxt_ok hx h4.1.1 (by omega)
  refine ⟨b5, ?_, SXB_tok h4 m3 m2, fr_tr (fr_wA (fr_tr f2 (fr_mono (by decide +kernel) l6)) (by decide +kernel)) (fr_mono (by decide +kernel) m3)⟩
  rw [eE, hres, Option.bind_some]
  dsimp only
  rw [if_pos (show rvI (x.kd (c + 1)) = 6 by rw [h518]; rfl), l1, Option.bind_some]
  dsimp only
  rw [if_pos (nI_idx (by omega) (by decide)), nI_clamp (by omega), h35, m1, Option.bind_some, bind_eta1]
