/-! Choices and loops, side by side. -/
theorem SXB_bk {x : Cx} {L : Nat → List Int64} {pm : Nat → Nat} {G : List Ln} {τ : Nat → Int32} {b : ts} {c q K D u : Nat} {BK BL BK1 BL1 : Nat → Int32} (h : SXB x L pm G τ b c q K D BK BL u) (hk : ∀ j, j < D → BK1 j = BK j ∧ BL1 j = BL j) : SXB x L pm G τ b c q K D BK1 BL1 u := by
  obtain ⟨h1, h2, h8, h9, h11⟩ := h
  exact ⟨h1, h2, fun j hj => by rw [(hk j hj).1, (hk j hj).2]; exact h8 j hj, h9, h11⟩
/-- the head of a choice or loop, and its first block -/
theorem head_sx {x : Cx} (hx : x.Ok) {L : Nat → List Int64} {T : List (Nat × Nat)} {pm : Nat → Nat} {rc : Nat → Int32 → ts → Option (Int32 × ts)} {G : List Ln} {τ : Nat → Int32} {a b : ts} {c q K K' e D : Nat} {BK BL : Nat → Int32} (hD : D ≤ 9) (pb : PBk x T pm (rc 0) (D + 1)) (bd : BD x (rc 0) (D + 1)) (hd : ND L) (hL5 : ∀ k, 5 ≤ k → L k = []) (hA : SXA x L T pm G τ a c q K e false) (hB : SXB x L pm G τ b c q K' (D + 1) BK BL 0) (hk : K ≤ x.ps c) (hk' : K' ≤ 2 * x.ps c) (hq : q < 250) (k : Nat) (hkd : x.kd c = k) (hkk : k = 517 ∨ k = 519) (s5 : ts) (hs5 : av x (wI a 403 0 (nI (q + 1))) (c + 1) = s5) (kt : Int32 → ts → Option (Int32 × ts)) : ∃ o, ((clF 200 0 ((0 : Int32)) s5).bind (fun x3 => (if x3.1 = ((0 : Int32)) then some ((0 : Int32), x3.2) else (cG_addAct (nI k) ((-2 : Int32)) (gI s5 217 0) x3.2).bind (fun x6 => (rc 0 (nI D + ((1 : Int32))) x6.2).bind (fun x9 => (if x9.1 = ((0 : Int32)) then some ((0 : Int32), x9.2) else kt x6.1 x9.2)))))) = o ∧ ((∃ a1 j b1, o = some (0, a1) ∧ RS j b b1 ∧ OutT x L T pm G τ e (D + 1) BK BL b c j 0 a1 b1) ∨ ∃ a7 j b8 c2 V H τ2 q2 K2 K2' F, o = kt (nI G.length) a7 ∧ RS j b b8 ∧ LB b8 ∧ fr wSt b b8 ∧ c < c2 ∧ j + c ≤ c2 ∧ c2 < x.m ∧ x.kd c2 = 125 ∧ SXA x (Lv L V) T pm (G ++ [((k, -2, [F], 0, 0) : Ln)] ++ H) τ2 a7 (c2 + 1) q2 K2 (e + 1) false ∧ K2 ≤ x.ps c2 ∧ (∀ i, i < G.length → τ2 i = τ i) ∧ TGb (G.length + 1) H τ2 (G.length + 1 + H.length) ∧ (∀ n, n ∈ H → n.1 ≠ 3) ∧ mv (L 4).length H = (Lv L V 4).length ∧ ND (Lv L V) ∧ SXB x (Lv L V) pm (G ++ [((k, -2, [F], 0, 0) : Ln)] ++ H) τ2 b8 c2 q2 K2' (D + 1 + 1) (fun i => if i = D + 1 then nI (k - 512) else BK i) (fun i => if i = D + 1 then nI G.length else BL i) 0 ∧ K2' ≤ 2 * x.ps c2) := by
  have hcl := hA.1.1.l
  have hcm := hx.lm hcl (by omega)
  have hp := hx.p1 (c := c) (by omega)
  have hpn := hx.pn (c + 1)
  have hn4 := hx.n
  have hmn := hx.m
  obtain ⟨-, hs⟩ := st21 hx (rc := rc) (d := 0) hA.1.1 hA.2.1.2.2 hcm
  have hA1 := SXA_begin hA hq hs
  rw [hs5] at hA1 hs
  have hG := SXA_G hA1
  obtain ⟨b1, e1, hB1, g1, g2, g3, f1⟩ := SXB_begin hx hB (by omega) (by omega)
  have hLB1 := SXB_LB hB1 (by omega)
  have hfq : fsq L (x.kd c) (x.vl c) q = 0 := by
    have h0 : fs L (x.kd c) (x.vl c) = 0 := by unfold fs; rw [if_neg (by omega), if_pos (by omega)]
    unfold fsq; rw [if_pos h0, if_pos hq]
  have eT : cR_takeStatement b = (cR_takeExp ((0 : Int32)) b1).bind (fun x23 => (if am_idx (nI G.length) 900 = true then (cR_beginBlock (nI (k - 512)) (nI G.length) (wA x23.2 101 (nI G.length).toNatClampNeg x23.1)).bind (fun s26 => some s26) else none)) := by
    rw [takeStatement_pre hx hA.1.2.1.m hB.1.1 hB.1.2 (by omega) hB.2.1.2.2.1 (by omega), if_pos hfq, e1, hkd]
    rcases hkk with h | h <;> (subst h; rfl)
  have hgb := hB.1.1.g (show x.kd c ≠ 1 by omega)
  have ht5 : ¬ gI b 1106 0 = 125 := fun z => by
    have := (sg_eq hx hB.1.1 (show x.kd c ≠ 1 by omega) (q := 125) (by omega)).mp z
    omega
  have h38 := hB.2.1.2.2.2.2
  obtain ⟨r5, a5, b5, x1, x2, x3, x4, x5, x6, x7⟩ := exp_sx hx hd hA1 hB1 (by omega) (by omega)
  have x2 : cR_takeExp 0 b1 = some (nI K', b5) := x2
  have h217 := hA1.2.1.2.1
  refine ⟨_, rfl, ?_⟩
  rw [x1, Option.bind_some, h217]
  dsimp only
  have eT2 : cR_takeStatement b = cR_beginBlock (nI (k - 512)) (nI G.length) (wA b5 101 G.length (nI K')) := by
    rw [eT, x2, Option.bind_some]
    dsimp only
    rw [if_pos (nI_idx (by omega) (by decide)), nI_clamp (by omega), bind_eta1]
  have f6 : fr wSt b (wA b5 101 G.length (nI K')) := fr_wA (fr_tr f1 (fr_mono (by decide +kernel) x4)) (by decide +kernel)
  have hLB6 : LB (wA b5 101 G.length (nI K')) := LB_fr (LB_fr hLB1 x4 rfl) (W := [2101]) (fr_wA fr_rf rfl) rfl
  rcases x7 with ⟨u1, u2⟩ | ⟨u1, c1, F, u2, u3, u4, u5, u6, u7, u8⟩
  · left
    rw [u1, if_pos rfl]
    refine ⟨a5, 1, wA b5 101 G.length (nI K'), rfl, RS_stm hgb h38 (by omega) ht5 ?_, OutT_bad hLB6 f6 u2 hcl⟩
    rw [eT2]; exact beginBlock_bad (show ¬ gI b5 1103 0 = 0 from u2.2.2)
  · rw [u1, if_neg (by decide)]
    obtain ⟨a6, t1, t2, t3⟩ := addAct_no (n := ((k, -2, [F], 0, 0) : Ln)) (t := -2) (f := K) u4 (fun _ => rfl) (by simp) (OpA1 u5 rfl rfl) (fun z => by have : k = 526 := z; omega) (by rcases hkk with h | h <;> (subst h; rfl))
    have t1 : cG_addAct (nI k) (-2) (nI K) a5 = some (nI G.length, a6) := t1
    rw [t1, Option.bind_some]
    dsimp only
    rw [show nI D + (1 : Int32) = nI (D + 1) from nI_add D 1]
    have hSB6 : SB x (wA b5 101 G.length (nI K')) c1 := SB_fr (W := [2101]) (fr_wA fr_rf rfl) rfl rfl u6
    have hc1 := u4.1.1.l
    by_cases hk1 : x.kd c1 = 1
    · left
      obtain ⟨a9, d1, d2⟩ := bd a6 c1 t2.1.1 hk1
      rw [d1, Option.bind_some]
      dsimp only
      rw [if_pos rfl]
      refine ⟨a9, 1, wA b5 101 G.length (nI K'), rfl, RS_stm hgb h38 (by omega) ht5 ?_, OutT_bad hLB6 f6 (d2 _ hSB6) hcl⟩
      rw [eT2]; exact beginBlock_bad (hSB6.nb hk1)
    · obtain ⟨w1, w2, w3⟩ := u8 hk1
      have hB6 : SXB x L pm (G ++ [((k, -2, [F], 0, 0) : Ln)]) (fun i => if i = G.length then -2 else τ i) (wA b5 101 G.length (nI K')) c1 (q + 1) (K' + F.length + 1) (D + 1) BK BL 0 := by
        refine SXB_done (n := ((k, -2, [F], 0, 0) : Ln)) (SXB_101 w1 (nI K')) (Or.inr (Or.inr (Or.inr (Or.inl ⟨by dsimp only; omega, ?_, X1_101 rfl u3 w2 (by omega)⟩)))) (fun _ z => ?_) (fun i hi => if_neg (by omega))
        · rw [show gA (wA b5 101 G.length (nI K')) 99 G.length = gA b5 99 G.length from rfl, x4.2.1 99 rfl, g1, hkd]
        · rw [if_pos rfl] at z; exact absurd rfl z
      obtain ⟨r7, a7, b7, j, b8, y1, y2, y3, y4, y5, y6⟩ := pb L a6 (wA b5 101 G.length (nI K')) c1 _ _ (q + 1) (K + F.length) (K' + F.length + 1) (e + 1) BK BL (nI (k - 512)) (nI G.length) hd hL5 t2 hB6 u7 (by omega)
      have hRS : RS 1 b b7 := RS_stm hgb h38 (by omega) ht5 (by rw [eT2]; exact y2)
      rw [y1, Option.bind_some]
      dsimp only
      rcases y6 with ⟨z1, z2, z3⟩ | ⟨z1, c2, V, H, τ2, q2, K2, K2', v1, v2, v3, v4, v5, v6, v7, v8, v9, v10, v11, v12, v13⟩
      · left
        rw [z1, if_pos rfl]
        exact ⟨a7, 1 + j, b8, rfl, RS_tr hRS y3, y4, fr_tr f6 y5, Or.inl ⟨rfl, z2, by omega⟩⟩
      · right
        rw [z1, if_neg (by decide)]
        have hlen : (G ++ [((k, -2, [F], 0, 0) : Ln)]).length = G.length + 1 := by rw [List.length_append]; rfl
        rw [hlen] at v7 v8
        exact ⟨a7, 1 + j, b8, c2, V, H, τ2, q2, K2, K2', F, rfl, RS_tr hRS y3, y4, fr_tr f6 y5, by omega, by omega, v3, v4, v5, v6, (fun i hi => by rw [v7 i (by omega)]; exact if_neg (by omega)), v8, v9, v10, v11, v12, v13⟩
def PIf (x : Cx) (T : List (Nat × Nat)) (pm : Nat → Nat) (f : Int32 → ts → Option (Int32 × ts)) (D k : Nat) : Prop := ∀ (L : Nat → List Int64) (a b : ts) (c : Nat) (G : List Ln) (τ : Nat → Int32) (q K K' e : Nat) (BK BL : Nat → Int32), ND L → (∀ k, 5 ≤ k → L k = []) → SXA x L T pm G τ a c q K e false → SXB x L pm G τ b c q K' (D + 1) BK BL 0 → K ≤ x.ps c → K' ≤ 2 * x.ps c → q < 250 → x.kd c = k → ∃ r a1 j b1, f (nI D) (av x (wI a 403 0 (nI (q + 1))) (c + 1)) = some (r, a1) ∧ RS j b b1 ∧ OutT x L T pm G τ e (D + 1) BK BL b c j r a1 b1
theorem readWhile_ok {x : Cx} (hx : x.Ok) {T : List (Nat × Nat)} {pm : Nat → Nat} {rc : Nat → Int32 → ts → Option (Int32 × ts)} {D : Nat} (hD : D ≤ 9) (pb : PBk x T pm (rc 0) (D + 1)) (bd : BD x (rc 0) (D + 1)) : PIf x T pm (cD_readWhile rc) D 519 := by
  intro L a b c G τ q K K' e BK BL hd hL5 hA hB hk hk' hq hkd
  obtain ⟨o, h1, h2⟩ := head_sx hx hD pb bd hd hL5 hA hB hk hk' hq 519 hkd (Or.inr rfl) _ rfl (fun v s => (cG_addAct ((2 : Int32)) v (gI s 217 0) s).bind (fun x12 => (cG_aim v (gI x12.2 214 0) x12.2).bind (fun s14 => some ((1 : Int32), s14))))
  have e0 : cD_readWhile rc (nI D) (av x (wI a 403 0 (nI (q + 1))) (c + 1)) = o := h1
  rw [e0]
  rcases h2 with ⟨a1, j, b1, y1, y2, y3⟩ | ⟨a7, j, b8, c2, V, H, τ2, q2, K2, K2', F, y1, y2, y3, y4, y5, y6, y7, y8, y9, y10, y11, y12, y13, y14, y15, y16, y17⟩
  · exact ⟨0, a1, j, b1, y1, y2, y3⟩
  · have hG := SXA_G y9
    have hlen : (G ++ [((519, -2, [F], 0, 0) : Ln)] ++ H).length = G.length + 1 + H.length := by rw [List.length_append, List.length_append]; rfl
    have hp := hx.p1 (c := c2) (by omega)
    have hl0 : (G ++ [((519, -2, [F], 0, 0) : Ln)] ++ H)[G.length]? = some ((519, -2, [F], 0, 0) : Ln) := by
      rw [List.append_assoc, List.getElem?_append_right (Nat.le_refl _), Nat.sub_self]; rfl
    obtain ⟨a8, t1, t2, t3⟩ := addAct_no (n := jL) (t := nI G.length) (f := K2) y9 (fun z => by cases z) rfl (fun j o hj => by simp [jL] at hj) (fun z => absurd z (by decide)) rfl
    have t1 : cG_addAct 2 (nI G.length) (nI K2) a7 = some (nI (G ++ [((519, -2, [F], 0, 0) : Ln)] ++ H).length, a8) := t1
    have hl1 : (G ++ [((519, -2, [F], 0, 0) : Ln)] ++ H ++ [jL])[G.length]? = some ((519, -2, [F], 0, 0) : Ln) := by
      rw [List.getElem?_append_left (by rw [hlen]; omega)]; exact hl0
    obtain ⟨a9, s1, s2, s3⟩ := aim_sx (l := G.length) (t := nI ((G ++ [((519, -2, [F], 0, 0) : Ln)] ++ H).length + 1)) t2 hl1 rfl
    have h214 : gI a8 214 0 = nI ((G ++ [((519, -2, [F], 0, 0) : Ln)] ++ H).length + 1) := by
      have := t2.2.1.1
      rw [List.length_append] at this; exact this
    obtain ⟨b9, w1, w2, w3⟩ := end_while hx (l := G.length) y16 y8 (by omega) (by omega) (by show (if D + 1 = D + 1 then nI (519 - 512) else BK (D + 1)) = 7; rw [if_pos rfl]; rfl) (if_pos rfl) (by rw [hlen]; omega)
    have hRS : RS 1 b8 b9 := RS_end (y16.1.1.g (by omega)) y16.2.1.2.2.2.2 (by omega) ((sg_eq hx y16.1.1 (by omega) (q := 125) (by omega)).mpr y8) w1
    have eH : G ++ [((519, -2, [F], 0, 0) : Ln)] ++ H ++ [jL] = G ++ ([((519, -2, [F], 0, 0) : Ln)] ++ H ++ [jL]) := by simp only [List.append_assoc]
    have w2' := SXB_bk (BK1 := BK) (BL1 := BL) w2 (fun i hi => ⟨(if_neg (by omega)).symm, (if_neg (by omega)).symm⟩)
    rw [eH, hlen] at w2' s2
    refine ⟨1, a9, j + 1, b9, ?_, RS_tr y2 hRS, SXB_LB w2' (by rw [← eH, List.length_append, hlen]; show G.length + 1 + H.length + 1 + 0 ≤ 600; omega), fr_tr y4 w3, Or.inr ⟨rfl, c2 + 1, V, [((519, -2, [F], 0, 0) : Ln)] ++ H ++ [jL], _, q2, K2, by omega, by omega, s2, by omega, w2'.1.1, ?_, ?_, ?_, ?_, y15, fun _ => ⟨K2', w2', by omega⟩⟩⟩
    · rw [y1, y9.2.1.2.1, t1, Option.bind_some]
      dsimp only
      rw [h214, s1]; rfl
    · intro i hi
      rw [if_neg (by omega), if_neg (by omega)]; exact y11 i hi
    · have hL : ([((519, -2, [F], 0, 0) : Ln)] ++ H ++ [jL]).length = H.length + 2 := by simp only [List.length_append, List.length_cons, List.length_nil]; omega
      have p1 : TGb G.length [((519, -2, [F], 0, 0) : Ln)] (fun k => if k = G.length then nI (G.length + 1 + H.length + 1) else (fun k => if k = G.length + 1 + H.length then nI G.length else τ2 k) k) (G.length + (H.length + 2)) := TGb_1 (t := G.length + 1 + H.length + 1) (if_pos rfl) (by omega) (by omega)
      have p2 : TGb (G.length + 1) H (fun k => if k = G.length then nI (G.length + 1 + H.length + 1) else (fun k => if k = G.length + 1 + H.length then nI G.length else τ2 k) k) (G.length + (H.length + 2)) := TGb_mono y12 (by omega) (fun i h1 h2 => by
        dsimp only
        rw [if_neg (by omega), if_neg (by omega)])
      have p3 := TGb_app p1 p2
      have hz : TGb G.length ([((519, -2, [F], 0, 0) : Ln)] ++ H ++ [jL]) (fun k => if k = G.length then nI (G.length + 1 + H.length + 1) else (fun k => if k = G.length + 1 + H.length then nI G.length else τ2 k) k) (G.length + (H.length + 2)) := by
        intro i n hi hj
        rcases getE_snoc hi with ⟨z1, z2⟩ | ⟨z1, z2⟩
        · obtain ⟨t, q1, q2⟩ := p3 i n z2 hj
          refine ⟨t, q1, ?_⟩
          rcases q2 with q2 | ⟨q2, i', n', q3, q4, q5, q6⟩
          · exact Or.inl q2
          · exact Or.inr ⟨q2, i', n', q3, q4, by rw [List.getElem?_append_left (getE_lt q5)]; exact q5, q6⟩
        · have z3 : i = 1 + H.length := by rw [z1, List.length_append]; rfl
          refine ⟨G.length, ?_, Or.inr ⟨by rw [z2]; rfl, 0, ((519, -2, [F], 0, 0) : Ln), by omega, by omega, by simp only [List.append_assoc]; rfl, rfl⟩⟩
          dsimp only
          rw [if_neg (by omega), if_pos (by omega)]
      rw [← hL] at hz
      exact hz
    · intro n hn
      rcases List.mem_append.mp hn with z | z
      · rcases List.mem_append.mp z with z | z
        · have : n = ((519, -2, [F], 0, 0) : Ln) := by simpa using z
          rw [this]; exact (show (519 : Nat) ≠ 3 by decide)
        · exact y13 n z
      · have : n = jL := by simpa using z
        rw [this]; decide
    · rw [mv_app, mv_app, mv_no (n := ((519, -2, [F], 0, 0) : Ln)) (show (519 : Nat) ≠ 1 by decide), y14]
      exact mv_no (show (2 : Nat) ≠ 1 by decide)
