/-! Choices; any statement; any block. -/
theorem readIf_ok {x : Cx} (hx : x.Ok) {T : List (Nat × Nat)} {pm : Nat → Nat} {rc : Nat → Int32 → ts → Option (Int32 × ts)} {D : Nat} (hD : D ≤ 9) (pb : PBk x T pm (rc 0) (D + 1)) (bd : BD x (rc 0) (D + 1)) : PIf x T pm (cD_readIf rc) D 517 := by
  intro L a b c G τ q K K' e BK BL hd hL5 hA hB hk hk' hq hkd
  obtain ⟨o, h1, h2⟩ := head_sx hx hD pb bd hd hL5 hA hB hk hk' hq 517 hkd (Or.inl rfl) _ rfl (fun v s => (if (gI s 107 0) = ((518 : Int32)) then (cT_advance s).bind (fun s11 => (cG_addAct ((2 : Int32)) ((-2 : Int32)) (gI s11 217 0) s11).bind (fun x15 => (cG_aim v (gI x15.2 214 0) x15.2).bind (fun s17 => (rc 0 (nI D + ((1 : Int32))) s17).bind (fun x21 => (if x21.1 = ((0 : Int32)) then some ((0 : Int32), x21.2) else (cG_aim x15.1 (gI x21.2 214 0) x21.2).bind (fun s23 => some ((1 : Int32), s23))))))) else (cG_aim v (gI s 214 0) s).bind (fun s27 => some ((1 : Int32), s27))))
  have e0 : cD_readIf rc (nI D) (av x (wI a 403 0 (nI (q + 1))) (c + 1)) = o := h1
  rw [e0]
  rcases h2 with ⟨a1, j, b1, y1, y2, y3⟩ | ⟨a7, j, b8, c2, V, H, τ2, q2, K2, K2', F, y1, y2, y3, y4, y5, y6, y7, y8, y9, y10, y11, y12, y13, y14, y15, y16, y17⟩
  · exact ⟨0, a1, j, b1, y1, y2, y3⟩
  · have hG := SXA_G y9
    have hlt2 := hx.lt (c2 + 1)
    have hlen : (G ++ [((517, -2, [F], 0, 0) : Ln)] ++ H).length = G.length + 1 + H.length := by rw [List.length_append, List.length_append]; rfl
    rw [hlen] at hG
    have hp := hx.p1 (c := c2) (by omega)
    have hl0 : (G ++ [((517, -2, [F], 0, 0) : Ln)] ++ H)[G.length]? = some ((517, -2, [F], 0, 0) : Ln) := by
      rw [List.append_assoc, List.getElem?_append_right (Nat.le_refl _), Nat.sub_self]; rfl
    have hki : gI a7 107 0 = (518 : Int32) ↔ x.kd (c2 + 1) = 518 := by
      rw [y9.1.1.ki]; exact ⟨fun z => nI_inj (a := x.kd (c2 + 1)) (b := 518) (by omega) (by decide) z, fun z => by rw [z]; rfl⟩
    have hBK : (if D + 1 = D + 1 then nI (517 - 512) else BK (D + 1)) = 5 := by rw [if_pos rfl]; rfl
    have hg8 := y16.1.1.g (show x.kd c2 ≠ 1 by omega)
    have h125 : gI b8 1106 0 = 125 := (sg_eq hx y16.1.1 (show x.kd c2 ≠ 1 by omega) (q := 125) (by omega)).mpr y8
    by_cases h518 : x.kd (c2 + 1) = 518
    · -- the other block
      have hcm2 := hx.lm y9.1.1.l (show 2 ≤ x.kd (c2 + 1) by omega)
      have hp2 := hx.p1 (c := c2 + 1) (by omega)
      obtain ⟨v1, v2⟩ := adv_ok hx y9.1.1 hcm2
      have hA8 := SXA_tok y9 (fr_mono (by decide +kernel) fr_av) v2
      generalize ha8 : av x a7 (c2 + 1 + 1) = a8 at hA8 v1 v2
      obtain ⟨a9, t1, t2, t3⟩ := addAct_no (n := jL) (t := -2) (f := K2) hA8 (fun z => by cases z) rfl (fun j o hj => by simp [jL] at hj) (fun z => absurd z (by decide)) rfl
      have t1 : cG_addAct 2 (-2) (nI K2) a8 = some (nI (G ++ [((517, -2, [F], 0, 0) : Ln)] ++ H).length, a9) := t1
      have hl1 : (G ++ [((517, -2, [F], 0, 0) : Ln)] ++ H ++ [jL])[G.length]? = some ((517, -2, [F], 0, 0) : Ln) := by
        rw [List.getElem?_append_left (by rw [hlen]; omega)]; exact hl0
      have h214 : gI a9 214 0 = nI ((G ++ [((517, -2, [F], 0, 0) : Ln)] ++ H).length + 1) := by
        have := t2.2.1.1
        rw [List.length_append] at this; exact this
      obtain ⟨a10, s1, s2, s3⟩ := aim_sx (l := G.length) (t := nI ((G ++ [((517, -2, [F], 0, 0) : Ln)] ++ H).length + 1)) t2 hl1 rfl
      obtain ⟨b9, w1, w2, w3⟩ := end_elif hx (l := G.length) y16 y8 (by rw [hlen]; omega) (by omega) hBK (if_pos rfl) (by rw [hlen]; omega) h518
      have w2' := SXB_bk (BK1 := BK) (BL1 := BL) w2 (fun i hi => ⟨(if_neg (by omega)).symm, (if_neg (by omega)).symm⟩)
      have hL5' : ∀ k, 5 ≤ k → Lv L V k = [] := fun k hk => (if_neg (show ¬ k = 4 by omega)).trans (hL5 k hk)
      obtain ⟨r7, a11, b10, j2, b11, p1, p2, p3, p4, p5, p6⟩ := pb (Lv L V) a10 b9 (c2 + 1 + 1) _ _ q2 K2 K2' e BK BL 6 (nI (G ++ [((517, -2, [F], 0, 0) : Ln)] ++ H).length) y15 hL5' s2 w2' (by omega) (by omega)
      have hRS : RS 1 b8 b10 := RS_end hg8 y16.2.1.2.2.2.2 (by omega) h125 (by rw [w1]; exact p2)
      have eK : o = (if r7 = ((0 : Int32)) then some ((0 : Int32), a11) else (cG_aim (nI (G ++ [((517, -2, [F], 0, 0) : Ln)] ++ H).length) (gI a11 214 0) a11).bind (fun s23 => some ((1 : Int32), s23))) := by
        rw [y1]
        rw [if_pos (hki.mpr h518), v1, Option.bind_some, hA8.2.1.2.1, t1, Option.bind_some]
        dsimp only
        rw [h214, s1, Option.bind_some, show nI D + (1 : Int32) = nI (D + 1) from nI_add D 1, p1, Option.bind_some]
      have hlen2 : (G ++ [((517, -2, [F], 0, 0) : Ln)] ++ H ++ [jL]).length = G.length + 1 + H.length + 1 := by rw [List.length_append, hlen]; rfl
      rcases p6 with ⟨z1, z2, z3⟩ | ⟨z1, c3, V2, H2, τ3, q3, K3, K3', u1, u2, u3, u4, u5, u6, u7, u8, u9, u10, u11, u12, u13⟩
      · refine ⟨0, a11, j + (1 + j2), b11, by rw [eK, if_pos z1], RS_tr y2 (RS_tr hRS p3), p4, fr_tr y4 (fr_tr w3 p5), Or.inl ⟨rfl, z2, by omega⟩⟩
      · have hG3 := SXA_G u5
        have hlen3 : (G ++ [((517, -2, [F], 0, 0) : Ln)] ++ H ++ [jL] ++ H2).length = G.length + 1 + H.length + 1 + H2.length := by rw [List.length_append, hlen2]
        rw [hlen3] at hG3
        have hp3 := hx.p1 (c := c3) (by omega)
        have hl2 : (G ++ [((517, -2, [F], 0, 0) : Ln)] ++ H ++ [jL] ++ H2)[(G ++ [((517, -2, [F], 0, 0) : Ln)] ++ H).length]? = some jL := by
          rw [List.append_assoc (G ++ [((517, -2, [F], 0, 0) : Ln)] ++ H), List.getElem?_append_right (Nat.le_refl _), Nat.sub_self]; rfl
        obtain ⟨a12, m1, m2, m3⟩ := aim_sx (l := (G ++ [((517, -2, [F], 0, 0) : Ln)] ++ H).length) (t := nI (G ++ [((517, -2, [F], 0, 0) : Ln)] ++ H ++ [jL] ++ H2).length) u5 hl2 rfl
        obtain ⟨b12, n1, n2, n3⟩ := end_else6 hx (l := (G ++ [((517, -2, [F], 0, 0) : Ln)] ++ H).length) u12 u4 (by rw [hlen3]; omega) (by omega) (if_pos rfl) (if_pos rfl) (by rw [hlen3, hlen]; omega)
        have hRS2 : RS 1 b11 b12 := RS_end (u12.1.1.g (show x.kd c3 ≠ 1 by omega)) u12.2.1.2.2.2.2 (by omega) ((sg_eq hx u12.1.1 (show x.kd c3 ≠ 1 by omega) (q := 125) (by omega)).mpr u4) n1
        have n2' := SXB_bk (BK1 := BK) (BL1 := BL) n2 (fun i hi => ⟨(if_neg (by omega)).symm, (if_neg (by omega)).symm⟩)
        have eH : G ++ [((517, -2, [F], 0, 0) : Ln)] ++ H ++ [jL] ++ H2 = G ++ ([((517, -2, [F], 0, 0) : Ln)] ++ H ++ [jL] ++ H2) := by simp only [List.append_assoc]
        rw [hlen2] at u7 u8
        rw [hlen] at u7
        have agr : ∀ i, i < G.length → τ3 i = τ i := by
          intro i hi
          rw [u7 i (by omega)]
          dsimp only
          rw [if_neg (show ¬ i = G.length by omega), if_neg (show ¬ i = G.length + 1 + H.length by omega)]
          exact y11 i hi
        have tg : τ3 G.length = nI (G.length + 1 + H.length + 1) := by
          rw [u7 _ (by omega)]
          dsimp only
          rw [if_pos rfl]
        rw [hlen3, hlen] at n2' m2
        rw [eH, Lv_app] at n2' m2
        rw [Lv_app] at u11 u10
        refine ⟨1, a12, j + (1 + (j2 + 1)), b12, ?_, RS_tr y2 (RS_tr hRS (RS_tr p3 hRS2)), SXB_LB n2' (by rw [← eH, hlen3]; omega), fr_tr y4 (fr_tr w3 (fr_tr p5 n3)), Or.inr ⟨rfl, c3 + 1, V ++ V2, [((517, -2, [F], 0, 0) : Ln)] ++ H ++ [jL] ++ H2, _, q3, K3, by omega, by omega, m2, by omega, n2'.1.1, ?_, ?_, ?_, ?_, u11, fun _ => ⟨K3', n2', by omega⟩⟩⟩
        · rw [eK, if_neg (by rw [z1]; decide), u5.2.1.1, m1]; rfl
        · intro i hi
          rw [if_neg (by omega)]; exact agr i hi
        · have hL : ([((517, -2, [F], 0, 0) : Ln)] ++ H ++ [jL] ++ H2).length = H.length + 2 + H2.length := by simp only [List.length_append, List.length_cons, List.length_nil]; omega
          have q1 : TGb G.length [((517, -2, [F], 0, 0) : Ln)] (fun k => if k = G.length + 1 + H.length then nI (G.length + 1 + H.length + 1 + H2.length) else τ3 k) (G.length + (H.length + 2 + H2.length)) := TGb_1 (t := G.length + 1 + H.length + 1) (by rw [if_neg (by omega)]; exact tg) (by omega) (by omega)
          have q2 : TGb (G.length + 1) H (fun k => if k = G.length + 1 + H.length then nI (G.length + 1 + H.length + 1 + H2.length) else τ3 k) (G.length + (H.length + 2 + H2.length)) := TGb_mono y12 (by omega) (fun i h1 h2 => by
            rw [if_neg (by omega), u7 i (by omega)]
            dsimp only
            rw [if_neg (by omega), if_neg (by omega)])
          have q3 : TGb (G.length + ([((517, -2, [F], 0, 0) : Ln)] ++ H).length) [jL] (fun k => if k = G.length + 1 + H.length then nI (G.length + 1 + H.length + 1 + H2.length) else τ3 k) (G.length + (H.length + 2 + H2.length)) := by
            have eL : ([((517, -2, [F], 0, 0) : Ln)] ++ H).length = 1 + H.length := by rw [List.length_append]; rfl
            rw [eL]
            exact TGb_1 (t := G.length + 1 + H.length + 1 + H2.length) (by rw [if_pos (by omega)]) (by omega) (by omega)
          have q4 : TGb (G.length + ([((517, -2, [F], 0, 0) : Ln)] ++ H ++ [jL]).length) H2 (fun k => if k = G.length + 1 + H.length then nI (G.length + 1 + H.length + 1 + H2.length) else τ3 k) (G.length + (H.length + 2 + H2.length)) := by
            have eL : ([((517, -2, [F], 0, 0) : Ln)] ++ H ++ [jL]).length = 1 + H.length + 1 := by rw [List.length_append, List.length_append]; rfl
            rw [eL, show G.length + (1 + H.length + 1) = G.length + 1 + H.length + 1 by omega]
            exact TGb_mono u8 (by omega) (fun i h1 h2 => by
              rw [if_neg (by omega)])
          have hz := TGb_app (TGb_app (TGb_app q1 q2) q3) q4
          rw [← hL] at hz
          exact hz
        · intro n hn
          rcases List.mem_append.mp hn with z | z
          · rcases List.mem_append.mp z with z | z
            · rcases List.mem_append.mp z with z | z
              · have : n = ((517, -2, [F], 0, 0) : Ln) := by simpa using z
                rw [this]; exact (show (517 : Nat) ≠ 3 by decide)
              · exact y13 n z
            · have : n = jL := by simpa using z
              rw [this]; decide
          · exact u9 n z
        · rw [mv_app, mv_app, mv_app, mv_no (n := ((517, -2, [F], 0, 0) : Ln)) (show (517 : Nat) ≠ 1 by decide), y14, mv_no (n := jL) (show (2 : Nat) ≠ 1 by decide)]
          exact u10
    · -- no other block
      obtain ⟨a8, s1, s2, s3⟩ := aim_sx (l := G.length) (t := nI (G ++ [((517, -2, [F], 0, 0) : Ln)] ++ H).length) y9 hl0 rfl
      obtain ⟨b9, w1, w2, w3, w4, w5⟩ := end_if hx (l := G.length) y16 y8 (by rw [hlen]; omega) (by omega) hBK (if_pos rfl) (by rw [hlen]; omega) h518
      have hRS : RS 1 b8 b9 := RS_end hg8 y16.2.1.2.2.2.2 (by omega) h125 w1
      have eH : G ++ [((517, -2, [F], 0, 0) : Ln)] ++ H = G ++ ([((517, -2, [F], 0, 0) : Ln)] ++ H) := by simp only [List.append_assoc]
      have s2' := SXA_e s2 (show e ≤ e + 1 by omega)
      rw [hlen, eH] at s2'
      refine ⟨1, a8, j + 1, b9, ?_, RS_tr y2 hRS, w3, fr_tr y4 w5, Or.inr ⟨rfl, c2 + 1, V, [((517, -2, [F], 0, 0) : Ln)] ++ H, _, q2, K2, by omega, by omega, s2', by omega, w2, ?_, ?_, ?_, ?_, y15, fun hk1 => ⟨K2', ?_, by omega⟩⟩⟩
      · rw [y1]
        rw [if_neg (fun z => h518 (hki.mp z)), y9.2.1.1, s1]; rfl
      · intro i hi
        rw [if_neg (by omega)]; exact y11 i hi
      · have hL : ([((517, -2, [F], 0, 0) : Ln)] ++ H).length = H.length + 1 := by simp only [List.length_append, List.length_cons, List.length_nil]; omega
        have q1 : TGb G.length [((517, -2, [F], 0, 0) : Ln)] (fun k => if k = G.length then nI (G.length + 1 + H.length) else τ2 k) (G.length + (H.length + 1)) := TGb_1 (t := G.length + 1 + H.length) (if_pos rfl) (by omega) (by omega)
        have q2 : TGb (G.length + 1) H (fun k => if k = G.length then nI (G.length + 1 + H.length) else τ2 k) (G.length + (H.length + 1)) := TGb_mono y12 (by omega) (fun i h1 h2 => if_neg (by omega))
        have hz := TGb_app q1 q2
        rw [← hL] at hz
        exact hz
      · intro n hn
        rcases List.mem_append.mp hn with z | z
        · have : n = ((517, -2, [F], 0, 0) : Ln) := by simpa using z
          rw [this]; exact (show (517 : Nat) ≠ 3 by decide)
        · exact y13 n z
      · rw [mv_app, mv_no (n := ((517, -2, [F], 0, 0) : Ln)) (show (517 : Nat) ≠ 1 by decide)]; exact y14
      · have := SXB_bk (BK1 := BK) (BL1 := BL) (w4 hk1) (fun i hi => ⟨(if_neg (by omega)).symm, (if_neg (by omega)).symm⟩)
        rw [hlen, eH] at this
        exact this
/-- a statement that takes one turn of the reference's loop -/
theorem one_turn {x : Cx} (hx : x.Ok) {L : Nat → List Int64} {T : List (Nat × Nat)} {pm : Nat → Nat} {rc : Nat → Int32 → ts → Option (Int32 × ts)} {G : List Ln} {τ : Nat → Int32} {a b : ts} {c q K K' e D : Nat} {BK BL : Nat → Int32} (hD : D ≤ 9) (hd : ND L) (hA : SXA x L T pm G τ a c q K e false) (hB : SXB x L pm G τ b c q K' (D + 1) BK BL 0) (h125 : x.kd c ≠ 125) (h1 : x.kd c ≠ 1) (hfq : fsq L (x.kd c) (x.vl c) q = 0) (h : StOk x L T pm rc (nI D) G τ a b c q e (D + 1) BK BL) : ∃ r a1 j b1, cD_readStatement rc (nI D) a = some (r, a1) ∧ RS j b b1 ∧ OutT x L T pm G τ e (D + 1) BK BL b c j r a1 b1 := by
  obtain ⟨r, a1, b1, y1, y2, y3⟩ := h
  have hcm := hx.lm hA.1.1.l (show 2 ≤ x.kd c by
    have := x.kv c
    by_cases h0 : x.kd c = 0
    · exfalso
      unfold fsq at hfq
      have : fs L (x.kd c) (x.vl c) = 2 := by unfold fs; rw [if_neg (by omega), if_neg (by omega)]
      rw [this, if_neg (by decide)] at hfq; exact absurd hfq (by decide)
    · omega)
  refine ⟨r, a1, 1, b1, ?_, RS_stm (hB.1.1.g h1) hB.2.1.2.2.2.2 (by omega) (fun z => h125 ((sg_eq hx hB.1.1 h1 (q := 125) (by omega)).mp z)) ?_, y3⟩
  · rw [readStatement_pre hx hd hA.1.1 hA.1.2.1 hA.2.1.2.2 hA.2.2.1.1, hfq, (st21 hx hA.1.1 hA.2.1.2.2 hcm).1]; exact y1
  · rw [takeStatement_pre hx hA.1.2.1.m hB.1.1 hB.1.2 h1 hB.2.1.2.2.1 hA.2.2.1.1, if_pos hfq]; exact y2
theorem readStatement_ps {x : Cx} (hx : x.Ok) {T : List (Nat × Nat)} {pm : Nat → Nat} {rc : Nat → Int32 → ts → Option (Int32 × ts)} {D : Nat} (hD : D ≤ 9) (pi : PIf x T pm (rc 2) D 517) (pw : PIf x T pm (rc 3) D 519) : PSt x T pm (cD_readStatement rc) D := by
  intro L a b c G τ q K K' e BK BL hd hL5 hA hB hk hk' h125 h1
  have hG := SXA_G hA
  have hq := hA.2.2.1.1
  have hcl := hA.1.1.l
  by_cases hfq : fsq L (x.kd c) (x.vl c) q = 0
  · have hfs : fs L (x.kd c) (x.vl c) = 0 := by
      by_cases h0 : fs L (x.kd c) (x.vl c) = 0
      · exact h0
      · unfold fsq at hfq; rw [if_neg h0] at hfq; exact hfq
    have hq250 : q < 250 := by
      unfold fsq at hfq
      rw [if_pos hfs] at hfq
      by_cases h0 : q < 250
      · exact h0
      · rw [if_neg h0] at hfq; exact absurd hfq (by decide)
    have go := one_turn hx (rc := rc) hD hd hA hB h125 h1 hfq
    by_cases h2 : x.kd c = 2
    · cases hv : fv L (x.vl c) with
      | none => unfold fs at hfs; rw [if_pos h2, hv] at hfs; exact absurd hfs (by decide)
      | some v => exact go (stm_set hx hd hA hB hk hk' hq250 h2 v hv)
    · have hkk : 516 ≤ x.kd c ∧ x.kd c ≤ 530 ∧ x.kd c ≠ 518 := by
        unfold fs at hfs
        rw [if_neg h2] at hfs
        by_cases h0 : 516 ≤ x.kd c ∧ x.kd c ≤ 530 ∧ x.kd c ≠ 518
        · exact h0
        · rw [if_neg h0] at hfs; exact absurd hfs (by decide)
      have hcm := hx.lm hcl (show 2 ≤ x.kd c by omega)
      have cal : ∀ (w : Nat), stK rc (nI D) (x.kd c) (x.vl c) (av x (wI a 403 0 (nI (q + 1))) (c + 1)) = rc w (nI D) (av x (wI a 403 0 (nI (q + 1))) (c + 1)) → (∃ r a1 j b1, rc w (nI D) (av x (wI a 403 0 (nI (q + 1))) (c + 1)) = some (r, a1) ∧ RS j b b1 ∧ OutT x L T pm G τ e (D + 1) BK BL b c j r a1 b1) → ∃ r a1 j b1, cD_readStatement rc (nI D) a = some (r, a1) ∧ RS j b b1 ∧ OutT x L T pm G τ e (D + 1) BK BL b c j r a1 b1 := by
        intro w e1 ⟨r, a1, j, b1, y1, y2, y3⟩
        refine ⟨r, a1, j, b1, ?_, y2, y3⟩
        rw [readStatement_pre hx hd hA.1.1 hA.1.2.1 hA.2.1.2.2 hq, hfq, (st21 hx hA.1.1 hA.2.1.2.2 hcm).1, e1]; exact y1
      by_cases k1 : x.kd c = 516
      · exact go (stm_let hx hd hL5 hA hB hk hk' hq250 k1)
      by_cases k2 : x.kd c = 517
      · exact cal 2 (by rw [k2]; rfl) (pi L a b c G τ q K K' e BK BL hd hL5 hA hB hk hk' hq250 k2)
      by_cases k3 : x.kd c = 519
      · exact cal 3 (by rw [k3]; rfl) (pw L a b c G τ q K K' e BK BL hd hL5 hA hB hk hk' hq250 k3)
      by_cases k4 : x.kd c = 521 ∨ x.kd c = 522
      · exact go (stm_use9 hx hd hA hB hk hk' hq250 _ rfl k4)
      by_cases k5 : x.kd c = 523 ∨ x.kd c = 524
      · exact go (stm_use11 hx hd hA hB hk hk' hq250 _ rfl k5)
      by_cases k6 : x.kd c = 526
      · exact go (stm_start hx hd hA hB hk hk' hq250 k6)
      by_cases k7 : x.kd c = 530
      · exact go (stm_end hx hd hA hB hk hk' hq250 k7)
      · exact go (stm_plain hx hd hA hB hk hk' hq250 _ rfl (by omega))
  · have hlt := fsq_lt L (x.kd c) (x.vl c) q
    have hne : ¬ nI (fsq L (x.kd c) (x.vl c) q) = (0 : Int32) := fun z => hfq (nI_inj (a := fsq L (x.kd c) (x.vl c) q) (b := 0) (by omega) (by decide) z)
    obtain ⟨a1, bf, y1, y2, y3, y4, y5⟩ := fail_both hx hA.1.1 hB.1.1 h1 (nI (fsq L (x.kd c) (x.vl c) q)) hne
    refine ⟨0, a1, 1, bf, ?_, RS_stm (hB.1.1.g h1) hB.2.1.2.2.2.2 (by omega) (fun z => h125 ((sg_eq hx hB.1.1 h1 (q := 125) (by omega)).mp z)) ?_, OutT_bad (LB_fr (SXB_LB hB (by omega)) y5 rfl) (fr_mono (by decide +kernel) y5) y3 hcl⟩
    · rw [readStatement_pre hx hd hA.1.1 hA.1.2.1 hA.2.1.2.2 hq]
      unfold cD_readStatement_21
      rw [if_neg hne, bind_eta]; exact y1
    · rw [takeStatement_pre hx hA.1.2.1.m hB.1.1 hB.1.2 h1 hB.2.1.2.2.1 hq, if_neg hfq]; exact y2
theorem readStatement_bd {x : Cx} (hx : x.Ok) {rc : Nat → Int32 → ts → Option (Int32 × ts)} {D : Nat} : BD x (cD_readStatement rc) D := by
  intro a c ha h1
  have e := failX_ok hx ha 2
  refine ⟨wI (wI a 108 0 (if x.kd c = 1 then 1 else 2)) 109 0 (nI (x.pl c)), ?_, fun b hb => ?_⟩
  · have e2 : cD_faultOfStatement a = some (2, a) := by
      unfold cD_faultOfStatement
      rw [ha.ki, if_neg (show ¬ nI (x.kd c) = (2 : Int32) by rw [h1]; decide), if_pos (show nI (x.kd c) < (516 : Int32) by rw [h1]; decide)]
    unfold cD_readStatement cD_readStatement_21
    rw [e2, Option.bind_some]
    dsimp only
    rw [if_neg (by decide), if_neg (by decide), e]; rfl
  · obtain ⟨a1, y1, y2, y3⟩ := fail_tok hx ha hb h1 2
    have := (Prod.mk.inj (Option.some.inj (e.symm.trans y1))).2
    rw [this]; exact y2
theorem clT_fun (n : Nat) : clT (n + 1) 0 = cD_readBlock (clT n) ∧ clT (n + 1) 1 = cD_readStatement (clT n) ∧ clT (n + 1) 2 = cD_readIf (clT n) ∧ clT (n + 1) 3 = cD_readWhile (clT n) := by
  refine ⟨?_, ?_, ?_, ?_⟩ <;> (funext a s; rfl)
theorem clT_all {x : Cx} (hx : x.Ok) {T : List (Nat × Nat)} {pm : Nat → Nat} : ∀ n D, D ≤ 10 → (3 * (10 - D) + 1 ≤ n → PBk x T pm (clT n 0) D ∧ BD x (clT n 0) D) ∧ (D ≤ 9 → 3 * (10 - D) ≤ n → PSt x T pm (clT n 1) D ∧ BD x (clT n 1) D) ∧ (D ≤ 9 → 3 * (10 - D) ≤ n + 1 → PIf x T pm (clT n 2) D 517 ∧ PIf x T pm (clT n 3) D 519) := by
  intro n
  induction n with
  | zero =>
    intro D hD
    exact ⟨fun h => by omega, fun h1 h2 => by omega, fun h1 h2 => by omega⟩
  | succ n ih =>
    intro D hD
    obtain ⟨e1, e2, e3, e4⟩ := clT_fun n
    rw [e1, e2, e3, e4]
    refine ⟨fun h => ⟨readBlock_pb hx hD (fun h9 => (ih D hD).2.1 h9 (by omega)), readBlock_bd hx⟩, fun h9 h => ⟨?_, readStatement_bd hx⟩, fun h9 h => ?_⟩
    · obtain ⟨p1, p2⟩ := (ih D hD).2.2 h9 (by omega)
      exact readStatement_ps hx h9 p1 p2
    · obtain ⟨p1, p2⟩ := (ih (D + 1) (by omega)).1 (by omega)
      exact ⟨readIf_ok hx h9 p1 p2, readWhile_ok hx h9 p1 p2⟩
