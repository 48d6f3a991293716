/-! Starts. -/
def SG (b : ts) (g K : Nat) (w : Int64) (p : Nat) (A : List (List Op1)) : Prop := gA b 99 g = nI 14 ∧ gB b 106 g = w ∧ gA b 107 g = nI p ∧ ∀ i F, i < 8 → A[i]? = some F → XB b K (gA b 104 (8 * g + i)) F
theorem SG_fr {W : List Nat} {b b1 : ts} {g K K1 p : Nat} {w : Int64} {A : List (List Op1)} (h : SG b g K w p A) (hf : fr W b b1) (hd : dj [2099, 2104, 2107, 3106] W = true) (hc : Kc b b1 K) (hK : K ≤ K1) : SG b1 g K1 w p A :=
  ⟨(hf.2.1 99 (dj_m hd rfl) g).trans h.1, (hf.2.2.1 106 (dj_m hd rfl) g).trans h.2.1, (hf.2.1 107 (dj_m hd rfl) g).trans h.2.2.1, fun i F hi hA => by rw [hf.2.1 104 (dj_m hd rfl)]; exact XB_mono (h.2.2.2 i F hi hA) hc hK⟩
theorem Kc_fr {W : List Nat} {b b1 : ts} {K : Nat} (hf : fr W b b1) (hd : dj [2110, 2111] W = true) : Kc b b1 K := fun j _ => ⟨hf.2.1 110 (dj_m hd rfl) j, hf.2.1 111 (dj_m hd rfl) j⟩
theorem place1 {x : Cx} (hx : x.Ok) {a : ts} {c : Nat} (ha : SA x a c) : cT_currentPlace a = some (nI (x.pl c), a) := by
  have h1 := ha.l
  have h2 := hx.m
  have h3 := hx.n
  have h4 := (ha.t.2.2.1 c (by omega)).2.1
  unfold cT_currentPlace
  rw [ha.cu, if_pos (nI_idx (by omega) (by decide)), nI_clamp (by omega), h4]; rfl
theorem bad279 {b : ts} {g : Nat} {v : Int32} (h : ¬ gI b 1103 0 = 0) (hg : g < 900) : cR_takeStart_279 (nI g) v b = some (wA b 101 g v) := by
  unfold cR_takeStart_279
  rw [if_pos (nI_idx hg (by decide)), nI_clamp (by omega), bind_eta1]
  exact must_bad (show ¬ gI (wA b 101 g v) 1103 0 = 0 from h)
theorem bad243 {b : ts} {g : Nat} (h : ¬ gI b 1103 0 = 0) (hg : g < 900) : cR_takeStart_243 (nI g) b = some (wA b 101 g (-1)) := by
  unfold cR_takeStart_243
  rw [must_bad h, Option.bind_some, good_f h, Option.bind_some]
  dsimp only
  rw [if_pos rfl, bad279 h hg]
theorem bad180 {b : ts} {g : Nat} {v : Int32} {L : Nat → List Int64} (hn : NB b L) (hm : (L 3).length ≤ 12) (h : ¬ gI b 1103 0 = 0) (hg : g < 900) : cR_takeStart_180 (nI g) v b = some (wA (wA b 105 g v) 101 g (-1)) := by
  have hn2 : NB (wA b 105 g v) L := NB_fr (W := [2105]) (fr_wA fr_rf rfl) rfl hn
  unfold cR_takeStart_180
  rw [if_pos (nI_idx hg (by decide)), nI_clamp (by omega), findDefinition_ok hm hn2.d, Option.bind_some]
  dsimp only
  rw [good_f (show ¬ gI (wA b 105 g v) 1103 0 = 0 from h), Option.bind_some]
  dsimp only
  rw [if_pos rfl]
  exact bad243 (show ¬ gI (wA b 105 g v) 1103 0 = 0 from h) hg
theorem bad79 {b : ts} {g : Nat} {l2 v : Int32} {F : Nat} (h : ¬ gI b 1103 0 = 0) : cR_takeStart_79 (F + 1) (nI g) l2 v b = cR_takeStart_180 (nI g) v b := by
  rw [cR_takeStart_79.eq_2]
  unfold cR_takeStart_79_b
  rw [good_f h, Option.bind_some]
  dsimp only
  rw [if_pos (show (0 : Int32) = 0 from rfl)]
  split <;> rfl
theorem keepOpen_sx {a : ts} {G : List Ln} {n : Ln} {m p : Nat} {w : Int64} (h : OA a G) (hg : gI a 214 0 = nI G.length) (hl : (opn G).length < 250) (hp : pnd n = true) (hw : n.2.2.2.1 = w) (hp2 : n.2.2.2.2 = p) (hm : n.2.2.1.length - 1 = m) : ∃ a1, cD_keepOpen w (nI p) (nI m) a = some a1 ∧ OA a1 (G ++ [n]) ∧ fr wf_cD_keepOpen a a1 := by
  have e : opn (G ++ [n]) = opn G ++ [G.length] := by rw [opn_app, if_pos hp]
  have h8 := h.1
  have hf : fr wf_cD_keepOpen a (wI (wA (wA (wA (wB a 29 (opn G).length w) 30 (opn G).length (nI p)) 31 (opn G).length (nI m)) 32 (opn G).length (nI G.length)) 408 0 (nI ((opn G).length + 1))) := fr_wI (fr_wA (fr_wA (fr_wA (fr_wB fr_rf (by decide +kernel)) (by decide +kernel)) (by decide +kernel)) (by decide +kernel)) (by decide +kernel)
  refine ⟨wI (wA (wA (wA (wB a 29 (opn G).length w) 30 (opn G).length (nI p)) 31 (opn G).length (nI m)) 32 (opn G).length (nI G.length)) 408 0 (nI ((opn G).length + 1)), ?_, ⟨?_, ?_⟩, hf⟩
  · unfold cD_keepOpen
    simp (disch := first | assumption | omega) only [sx, if_pos, if_neg, bnd, Nat.reduceEqDiff, Nat.reduceAdd, Nat.reduceMul, Nat.reduceSub, and_true, true_and, and_false, false_and, or_true, true_or, or_false, false_or, if_true, if_false, eq_self, not_true, not_false_eq_true, h8, hg]
  · rw [e, List.length_append]; exact gI_wIs
  · intro i l k hi hl2
    rw [e] at hi
    rcases getE_snoc hi with ⟨z1, z2⟩ | ⟨z1, z2⟩
    · have hll := opn_lt G i l z2
      rw [List.getElem?_append_left hll] at hl2
      obtain ⟨q1, q2, q3, q4⟩ := h.2 i l k z2 hl2
      refine ⟨?_, ?_, ?_, ?_⟩
      · rw [← q1]; simp (disch := first | assumption | omega) only [sx, if_pos, if_neg, bnd, Nat.reduceEqDiff, Nat.reduceAdd, Nat.reduceMul, Nat.reduceSub, and_true, true_and, and_false, false_and, or_true, true_or, or_false, false_or, if_true, if_false, eq_self, not_true, not_false_eq_true]
      · rw [← q2]; simp (disch := first | assumption | omega) only [sx, if_pos, if_neg, bnd, Nat.reduceEqDiff, Nat.reduceAdd, Nat.reduceMul, Nat.reduceSub, and_true, true_and, and_false, false_and, or_true, true_or, or_false, false_or, if_true, if_false, eq_self, not_true, not_false_eq_true]
      · rw [← q3]; simp (disch := first | assumption | omega) only [sx, if_pos, if_neg, bnd, Nat.reduceEqDiff, Nat.reduceAdd, Nat.reduceMul, Nat.reduceSub, and_true, true_and, and_false, false_and, or_true, true_or, or_false, false_or, if_true, if_false, eq_self, not_true, not_false_eq_true]
      · rw [← q4]; simp (disch := first | assumption | omega) only [sx, if_pos, if_neg, bnd, Nat.reduceEqDiff, Nat.reduceAdd, Nat.reduceMul, Nat.reduceSub, and_true, true_and, and_false, false_and, or_true, true_or, or_false, false_or, if_true, if_false, eq_self, not_true, not_false_eq_true]
    · subst z1; subst z2
      rw [List.getElem?_append_right (Nat.le_refl _)] at hl2
      simp only [Nat.sub_self, List.getElem?_cons_zero] at hl2
      have hk : n = k := Option.some.inj hl2
      subst hk
      refine ⟨?_, ?_, ?_, ?_⟩
      · rw [hw]; simp (disch := first | assumption | omega) only [sx, if_pos, if_neg, bnd, Nat.reduceEqDiff, Nat.reduceAdd, Nat.reduceMul, Nat.reduceSub, and_true, true_and, and_false, false_and, or_true, true_or, or_false, false_or, if_true, if_false, eq_self, not_true, not_false_eq_true]
      · rw [hp2]; simp (disch := first | assumption | omega) only [sx, if_pos, if_neg, bnd, Nat.reduceEqDiff, Nat.reduceAdd, Nat.reduceMul, Nat.reduceSub, and_true, true_and, and_false, false_and, or_true, true_or, or_false, false_or, if_true, if_false, eq_self, not_true, not_false_eq_true]
      · rw [hm]; simp (disch := first | assumption | omega) only [sx, if_pos, if_neg, bnd, Nat.reduceEqDiff, Nat.reduceAdd, Nat.reduceMul, Nat.reduceSub, and_true, true_and, and_false, false_and, or_true, true_or, or_false, false_or, if_true, if_false, eq_self, not_true, not_false_eq_true]
      · simp (disch := first | assumption | omega) only [sx, if_pos, if_neg, bnd, Nat.reduceEqDiff, Nat.reduceAdd, Nat.reduceMul, Nat.reduceSub, and_true, true_and, and_false, false_and, or_true, true_or, or_false, false_or, if_true, if_false, eq_self, not_true, not_false_eq_true]
/-- behind the arguments of a start -/
theorem start_end {x : Cx} (hx : x.Ok) {L : Nat → List Int64} {T : List (Nat × Nat)} {pm : Nat → Nat} {G : List Ln} {τ : Nat → Int32} {s b b1 : ts} {c c0 q K Km Km' e D m p : Nat} {BK BL : Nat → Int32} {w : Int64} {A : List (List Op1)} (hd : ND L) (hA : SXA x L T pm G τ s c q Km (e + 1) false) (hB : SXB x L pm G τ b1 c q Km' D BK BL 1) (hk : Km ≤ x.ps c) (hk' : Km' ≤ 2 * x.ps c + 1) (hopn : (opn G).length < q) (hAm : A.length = m) (hm31 : m < 5000) (hKm : Km = K + A.flatten.length) (ho : OpA s K A.flatten) (hw : ∀ F, F ∈ A → Wt 103 F) (hsg : SG b1 G.length Km' w p A) (hc0 : c0 ≤ c) (fb : fr wSt b b1) (h41 : x.kd c = 41) : ∃ r a1 b3, cD_readStart_130 w (nI p) (nI K) (nI m) s = some (r, a1) ∧ cR_takeStart_180 (nI G.length) (nI m) b1 = some b3 ∧ OutT x L T pm G τ e D BK BL b c0 1 r a1 b3 := by
  have hG := SXA_G hA
  have hcl := hA.1.1.l
  have hpn := hx.pn c
  have hn4 := hx.n
  have hL3 : (L 3).length ≤ 12 := hA.1.2.1.m 3 (by omega)
  have hg1 := hB.1.1.g (show x.kd c ≠ 1 by omega)
  have hB2 := SXB_105 hB (nI m)
  have hsg2 : SG (wA b1 105 G.length (nI m)) G.length Km' w p A := SG_fr (W := [2105]) hsg (fr_wA fr_rf rfl) rfl (Kc_fr (W := [2105]) (fr_wA fr_rf rfl) rfl) (Nat.le_refl _)
  have fb2 : fr wSt b (wA b1 105 G.length (nI m)) := fr_wA fb (by decide +kernel)
  have h105 : gA (wA b1 105 G.length (nI m)) 105 G.length = nI m := gA_wAs
  have e180 : cR_takeStart_180 (nI G.length) (nI m) b1 = (if oi (-1) (ix (L 3) w) = ((-1 : Int32)) then cR_takeStart_243 (nI G.length) (wA b1 105 G.length (nI m)) else (if am_idx (oi (-1) (ix (L 3) w)) 12 = true then (if (gA (wA b1 105 G.length (nI m)) 96 (oi (-1) (ix (L 3) w)).toNatClampNeg) = nI m then cR_takeStart_238 (nI G.length) ((1 : Int32)) (wA b1 105 G.length (nI m)) else cR_takeStart_238 (nI G.length) ((0 : Int32)) (wA b1 105 G.length (nI m))) else none)) := by
    unfold cR_takeStart_180
    rw [if_pos (nI_idx (by omega) (by decide)), nI_clamp (by omega), show gB (wA b1 105 G.length (nI m)) 106 G.length = w from hsg.2.1, findDefinition_ok hL3 hB2.1.2.d, Option.bind_some]
    dsimp only
    rw [good_t (show gI (wA b1 105 G.length (nI m)) 1103 0 = 0 from hg1), Option.bind_some]
    dsimp only
    rw [if_neg (by decide), if_pos (show gI (wA b1 105 G.length (nI m)) 1106 0 = (41 : Int32) from (sg_eq hx hB2.1.1 (by omega) (q := 41) (by omega)).mpr h41)]
  have e130 : cD_readStart_130 w (nI p) (nI K) (nI m) s = (cG_isDefinition (oi (-2) (ix (L 3) w)) s).bind (fun x6 => (if x6.1 = ((0 : Int32)) then cD_readStart_178 w (nI p) (nI K) (nI m) (oi (-2) (ix (L 3) w)) x6.2 else (if am_idx (oi (-2) (ix (L 3) w)) 12 = true then (if (gA x6.2 19 (oi (-2) (ix (L 3) w)).toNatClampNeg) = nI m then cD_readStart_178 w (nI p) (nI K) (nI m) (oi (-2) (ix (L 3) w)) x6.2 else (cT_fail ((6 : Int32)) x6.2).bind (fun x10 => some (x10.1, x10.2))) else none))) := by
    have hfd : cG_find w 3 s = some (oi (-2) (ix (L 3) w), s) := find_ok1 hA.1.2.1 hd (q := 3) (by omega) w
    unfold cD_readStart_130
    rw [hfd, Option.bind_some]
  -- behind the sign, on both sides
  have rest : (∀ d, ix (L 3) w = some d → pm d = m) → ∃ r a1 b3, cD_readStart_178 w (nI p) (nI K) (nI m) (oi (-2) (ix (L 3) w)) s = some (r, a1) ∧ cR_takeStart_243 (nI G.length) (wA b1 105 G.length (nI m)) = some b3 ∧ OutT x L T pm G τ e D BK BL b c0 1 r a1 b3 := by
    intro hdm
    have hcm := hx.lm hcl (show 2 ≤ x.kd c by omega)
    have hp := hx.p1 (c := c) (by omega)
    have hpn1 := hx.pn (c + 1)
    obtain ⟨v1, v2⟩ := adv_ok hx hA.1.1 hcm
    obtain ⟨r0, a0, b2, n1, n2, n3, n4, n5⟩ := nm_ok hx hA.1.1 hB2.1.1 (q := 41) (by omega)
    have n2 : cR_must 41 (wA b1 105 G.length (nI m)) = some b2 := n2
    rcases n3 with ⟨z1, z2, z3, z4, z5⟩ | ⟨z1, z2, z3⟩
    · have hA3 := SXA_tok hA (fr_mono (by decide +kernel) fr_av) v2
      have hB3 := SXB_tok hB2 n5 z5
      have hsg3 : SG b2 G.length Km' w p A := SG_fr hsg2 n5 rfl (Kc_fr n5 rfl) (Nat.le_refl _)
      have fb3 : fr wSt b b2 := fr_tr fb2 (fr_mono (by decide +kernel) n5)
      have h105' : gA b2 105 G.length = nI m := (n5.2.1 105 rfl _).trans h105
      have hLB3 := SXB_LB hB3 (by omega)
      unfold cD_readStart_178 cR_takeStart_243
      rw [v1, Option.bind_some, n2, Option.bind_some]
      have ho3 : OpA (av x s (c + 1)) K A.flatten := ho
      generalize av x s (c + 1) = s6 at hA3 v2 ho3
      have hki : gI s6 107 0 = (59 : Int32) ↔ x.kd (c + 1) = 59 := by
        have := hx.lt (c + 1)
        rw [hA3.1.1.ki]; exact ⟨fun z => nI_inj (a := x.kd (c + 1)) (b := 59) (by omega) (by decide) z, fun z => by rw [z]; rfl⟩
      -- the end, with the time's expression read or none
      have fin : ∀ (Pr : List Op1) (s7 b4 : ts) (c4 K4 K4' : Nat) (v : Int32), SXA x L T pm G τ s7 c4 q K4 (e + 1) false → K4 = K + (A ++ [Pr]).flatten.length → OpA s7 K (A ++ [Pr]).flatten → Wt 103 Pr → K4 ≤ x.ps c4 → c0 ≤ c4 → SB x b4 c4 → LB b4 → fr wSt b b4 → (x.kd c4 ≠ 1 → SXB x L pm G τ b4 c4 q K4' D BK BL 1 ∧ SG b4 G.length K4' w p A ∧ gA b4 105 G.length = nI m ∧ XZ b4 K4' v Pr ∧ K4' ≤ 2 * x.ps c4 + 1) → ∃ r a1 b3, cD_readStart_223 w (nI p) (nI K) (nI m) (oi (-2) (ix (L 3) w)) s7 = some (r, a1) ∧ cR_takeStart_279 (nI G.length) v b4 = some b3 ∧ OutT x L T pm G τ e D BK BL b c0 1 r a1 b3 := by
        intro Pr s7 b4 c4 K4 K4' v y1 y2 y3 y4 y5 y6 y7 y8 y9 y10
        have e279 : cR_takeStart_279 (nI G.length) v b4 = cR_must (nI 59) (wA b4 101 G.length v) := by
          unfold cR_takeStart_279
          rw [if_pos (nI_idx (by omega) (by decide)), nI_clamp (by omega), bind_eta1]; rfl
        rw [e279]
        -- the act
        have act : ∃ s8 a', (cD_readStart_223 w (nI p) (nI K) (nI m) (oi (-2) (ix (L 3) w)) s7 = cD_closeStatement (nI 526) (oi (-2) (ix (L 3) w)) (nI K) s8) ∧ cG_addAct (nI 526) (oi (-2) (ix (L 3) w)) (nI K) s8 = some (nI G.length, a') ∧ SXA x L T pm (G ++ [((526, oi (-2) (ix (L 3) w), A ++ [Pr], w, p) : Ln)]) (fun k => if k = G.length then oi (-2) (ix (L 3) w) else τ k) a' c4 q K4 e false := by
          cases hi : ix (L 3) w with
          | some d =>
            have hdl := (ix_some hi).2
            obtain ⟨a', t1, t2, t3⟩ := addAct_no (n := ((526, nI d, A ++ [Pr], w, p) : Ln)) (t := nI d) (f := K) y1 (fun _ => rfl) y2.symm y3 (fun _ => Or.inr ⟨d, rfl, hi, by rw [hdm d hi]; show m = (A ++ [Pr]).length - 1; rw [List.length_append, hAm]; rfl⟩) (by
              unfold pnd
              have : decide (nI d = (-2 : Int32)) = false := decide_eq_false (nI_no2 (by omega))
              dsimp only
              rw [this, Bool.and_false])
            refine ⟨s7, a', ?_, t1, t2⟩
            unfold cD_readStart_223 cD_readStart_238
            rw [if_neg (show ¬ oi (-2) (some d) = (-2 : Int32) from nI_no2 (by omega)), bind_eta]; rfl
          | none =>
            obtain ⟨q1, q2, q3, q4, q5, q6⟩ := y1
            have hlen : (A ++ [Pr]).length - 1 = m := by rw [List.length_append, hAm]; rfl
            obtain ⟨s8, k1, k2, k3⟩ := keepOpen_sx (n := ((526, -2, A ++ [Pr], w, p) : Ln)) (m := m) (p := p) (w := w) q5 q2.1 (by omega) rfl rfl rfl hlen
            have hop : (opn (G ++ [((526, -2, A ++ [Pr], w, p) : Ln)])).length ≤ q := by
              rw [opn_app, if_pos (show pnd ((526, -2, A ++ [Pr], w, p) : Ln) = true from rfl), List.length_append]
              show (opn G).length + 1 ≤ q
              omega
            obtain ⟨a', t1, t2, t3⟩ := addAct_sx (n := ((526, -2, A ++ [Pr], w, p) : Ln)) (t := -2) (f := K) (τ := τ) (e := e) (K := K4) (c := c4) (x := x) (L := L) (T := T) (pm := pm) (q := q) (aw := false) ⟨SA_fr k3 rfl q1.1, NA_fr k3 rfl q1.2.1, (k3.1 302 rfl 0).trans q1.2.2⟩ ⟨(k3.1 214 rfl 0).trans q2.1, (k3.1 217 rfl 0).trans q2.2.1, (k3.1 403 rfl 0).trans q2.2.2⟩ ⟨q3.1, q3.2.1, hop⟩ (fun l n hl => ⟨LnA_mono (q4 l n hl).1 (k3.2.1 22 rfl l) (by
              rw [k3.2.1 23 rfl l, (q4 l n hl).1.2.1]
              by_cases hj : isJ n.1 = true
              · rw [if_pos hj, if_pos hj]
              · rw [if_neg hj, if_neg hj]) (k3.2.1 24 rfl l) (k3.2.1 25 rfl l) (Nat.le_refl _) (fun j _ => ⟨k3.2.1 26 rfl j, k3.2.1 27 rfl j⟩), (q4 l n hl).2⟩) k2 (fun d hd => ⟨(k3.2.1 19 rfl d).trans (q6 d hd).1, (q6 d hd).2⟩) (fun _ => rfl) y2.symm (fun j o hj => by rw [k3.2.1 26 rfl, k3.2.1 27 rfl]; exact y3 j o hj) (fun _ => Or.inl rfl)
            refine ⟨s8, a', ?_, t1, t2⟩
            unfold cD_readStart_223 cD_readStart_238
            rw [if_pos (show oi (-2) none = (-2 : Int32) from rfl), k1, Option.bind_some, bind_eta]; rfl
        obtain ⟨s8, a', u1, u2, u3⟩ := act
        rw [u1]
        obtain ⟨r2, a3, b5, c1', c2', c3', c4', c5'⟩ := close_sx hx (n := ((526, oi (-2) (ix (L 3) w), A ++ [Pr], w, p) : Ln)) (b := wA b4 101 G.length v) (K' := K4') (BK := BK) (BL := BL) (D := D) (τ := τ) u2 u3 y5 (SB_fr (W := [2101]) (fr_wA fr_rf rfl) rfl rfl y7) (LB_fr (W := [2101]) y8 (fr_wA fr_rf rfl) rfl) rfl (fun k hk => if_neg (by omega)) (fun hk1 => by
          obtain ⟨w1, w2, w3, w4, w5⟩ := y10 hk1
          exact ⟨SXB_101 w1 v, Or.inr (Or.inr (Or.inr (Or.inr (Or.inr (Or.inr (Or.inr (Or.inl ⟨rfl, w2.1, w2.2.1, w2.2.2.1, A, Pr, rfl, hw, y4, by rw [hAm]; exact w3, by rw [gA_wAs]; exact w4, w2.2.2.2⟩))))))), w5⟩)
        exact ⟨r2, a3, b5, c1', c2', OutT_one (V := []) c3' (fr_tr (fr_wA y9 (by decide +kernel)) (fr_mono (by decide +kernel) c4')) (by rw [Lv_nil]; exact c5') y6 (by omega) rfl (show (526 : Nat) ≠ 3 by decide) (by rw [Lv_nil]; exact mv_no (show (526 : Nat) ≠ 1 by decide)) (by rw [Lv_nil]; exact hd) (fun k hk => if_neg (by omega))⟩
      by_cases h1 : x.kd (c + 1) = 1
      · have hbad := hB3.1.1.nb h1
        have hbd := (clF_all hx (T := T) (aw := false) hd 200 0 (by omega)).2.2.2.1 (by omega)
        obtain ⟨a9, d1, d2⟩ := hbd.2 s6 (c + 1) hA3.1.1 h1
        have d1 : clF 200 0 0 s6 = some (0, a9) := d1
        refine ⟨0, a9, wA b2 101 G.length (-1), ?_, ?_, OutT_bad (LB_fr (W := [2101]) hLB3 (fr_wA fr_rf rfl) rfl) (fr_wA fb3 (by decide +kernel)) (d2 b2 hB3.1.1) (by omega)⟩
        · rw [if_neg (fun z => by have := hki.mp z; omega), d1, Option.bind_some]; rfl
        · rw [good_f hbad, Option.bind_some]
          dsimp only
          rw [if_pos rfl]; exact bad279 hbad (by omega)
      · rw [good_t (hB3.1.1.g h1), Option.bind_some]
        dsimp only
        rw [if_neg (show ¬ (1 : Int32) = 0 by decide)]
        by_cases h59 : x.kd (c + 1) = 59
        · rw [if_pos (hki.mpr h59), if_pos (show gI b2 1106 0 = (59 : Int32) from (sg_eq hx hB3.1.1 h1 (q := 59) (by omega)).mpr h59)]
          obtain ⟨s7, o1, o2, o3⟩ := addOp_sx hA3 (by omega)
          have o1' : cG_addOp 1 0 s6 = some (nI Km, s7) := o1
          have hfs : fr wf_cG_addOp s6 s7 := cG_addOp_fr _ _ _ _ o1'
          rw [o1', Option.bind_some]
          have hsame : ∀ j, j < Km → gA s7 26 j = gA s6 26 j ∧ gA s7 27 j = gA s6 27 j := by
            have e9 : s7 = opW s6 Km 1 0 := by
              have hEA : EA s6 Km (gA s6 26) (gA s6 27) [] := ⟨by simpa using hA3.2.1.2.1, fun j o hj => by simp at hj, fun j _ => ⟨rfl, rfl⟩⟩
              have := (addOp_ok (o := 1) (v := 0) hEA (by have : Km < 4000 := by omega
                                                          simpa using this) (fun z => by cases z)).1
              have this : cG_addOp 1 0 s6 = some (nI Km, opW s6 Km 1 0) := this
              exact (Prod.mk.inj (Option.some.inj (o1'.symm.trans this))).2
            intro j hj
            rw [e9]; unfold opW
            refine ⟨?_, ?_⟩ <;> simp (disch := first | assumption | omega) only [sx, if_pos, if_neg, bnd, Nat.reduceEqDiff, Nat.reduceAdd, Nat.reduceMul, Nat.reduceSub, and_true, true_and, and_false, false_and, or_true, true_or, or_false, false_or, if_true, if_false, eq_self, not_true, not_false_eq_true]
          refine fin [(1, 0)] s7 b2 (c + 1) (Km + 1) Km' (-1) o2 ?_ ?_ (Wt.leaf (Or.inl rfl) (by omega)) (by omega) (by omega) hB3.1.1 hLB3 fb3 (fun _ => ⟨hB3, hsg3, h105', Or.inl ⟨rfl, rfl⟩, by omega⟩)
          · rw [List.flatten_append, List.length_append, fl1]; show Km + 1 = K + (A.flatten.length + 1); omega
          · rw [List.flatten_append, fl1]
            intro j o hj
            by_cases hjl : j < A.flatten.length
            · rw [List.getElem?_append_left hjl] at hj
              rw [(hsame (K + j) (by omega)).1, (hsame (K + j) (by omega)).2]; exact ho3 j o hj
            · rw [List.getElem?_append_right (by omega)] at hj
              have := o3 _ o hj
              rw [show Km + (j - A.flatten.length) = K + j by omega] at this; exact this
        · rw [if_neg (fun z => h59 (hki.mp z)), if_neg (show ¬ gI b2 1106 0 = (59 : Int32) from fun z => h59 ((sg_eq hx hB3.1.1 h1 (q := 59) (by omega)).mp z))]
          obtain ⟨r5, a5, b5, x1, x2, x3, x4, x5, x6, x7⟩ := exp_sx hx hd hA3 hB3 (by omega) (by omega)
          have x2 : cR_takeExp 0 b2 = some (nI Km', b5) := x2
          rw [x1, Option.bind_some, x2, Option.bind_some]
          dsimp only
          have fb5 : fr wSt b b5 := fr_tr fb3 (fr_mono (by decide +kernel) x4)
          have hLB5 : LB b5 := LB_fr hLB3 x4 rfl
          rcases x7 with ⟨u1, u2⟩ | ⟨u1, c1, F, u2, u3, u4, u5, u6, u7, u8⟩
          · rw [u1, if_pos rfl]
            exact ⟨0, a5, _, rfl, bad279 u2.2.2 (by omega), OutT_bad (LB_fr (W := [2101]) hLB5 (fr_wA fr_rf rfl) rfl) (fr_wA fb5 (by decide +kernel)) u2 (by omega)⟩
          · rw [u1, if_neg (by decide)]
            have hKeep : ∀ j, j < Km → gA a5 26 j = gA s6 26 j ∧ gA a5 27 j = gA s6 27 j := by
              have hEA : EA s6 Km (gA s6 26) (gA s6 27) [] := ⟨by simpa using hA3.2.1.2.1, fun j o hj => by simp at hj, fun j _ => ⟨rfl, rfl⟩⟩
              have hEC : EC b2 Km' (gA b2 110) (gA b2 111) [] := ⟨by simpa using hB3.2.1.2.1, fun j o hj => by simp at hj, fun j _ => ⟨rfl, rfl⟩⟩
              obtain ⟨r', a', b', i1, i2, i3, i4, i5, i6, i7⟩ := takeExp_ok hx hd (SXA_RX hA3 hB3) hEA hEC hB3.2.1.2.2.2.1 (by omega) (by omega)
              have hra : (r', a') = (r5, a5) := Option.some.inj (i1.symm.trans x1)
              have e1 : r' = r5 := (Prod.mk.inj hra).1
              have e2 : a' = a5 := (Prod.mk.inj hra).2
              subst e2
              rcases i5 with ⟨j1, -⟩ | ⟨j1, c9, F9, j2, j3, j4, j5, -⟩
              · rw [e1, u1] at j1; exact absurd j1 (by decide)
              · exact j5.p
            refine fin F a5 b5 c1 (Km + F.length) (Km' + F.length + 1) (nI Km') u4 ?_ ?_ u3 u7 (by omega) u6 hLB5 fb5 (fun hk1 => ?_)
            · rw [List.flatten_append, List.length_append, fl1]; omega
            · rw [List.flatten_append, fl1]
              intro j o hj
              by_cases hjl : j < A.flatten.length
              · rw [List.getElem?_append_left hjl] at hj
                rw [(hKeep (K + j) (by omega)).1, (hKeep (K + j) (by omega)).2]; exact ho3 j o hj
              · rw [List.getElem?_append_right (by omega)] at hj
                have := u5 _ o hj
                rw [show Km + (j - A.flatten.length) = K + j by omega] at this; exact this
            · obtain ⟨p1, p2, p3⟩ := u8 hk1
              have hKc : Kc b2 b5 Km' := by
                have hEA : EA s6 Km (gA s6 26) (gA s6 27) [] := ⟨by simpa using hA3.2.1.2.1, fun j o hj => by simp at hj, fun j _ => ⟨rfl, rfl⟩⟩
                have hEC : EC b2 Km' (gA b2 110) (gA b2 111) [] := ⟨by simpa using hB3.2.1.2.1, fun j o hj => by simp at hj, fun j _ => ⟨rfl, rfl⟩⟩
                obtain ⟨r', a', b', i1, i2, i3, i4, i5, i6, i7⟩ := takeExp_ok hx hd (SXA_RX hA3 hB3) hEA hEC hB3.2.1.2.2.2.1 (by omega) (by omega)
                have hra : (r', a') = (r5, a5) := Option.some.inj (i1.symm.trans x1)
                have e1 : r' = r5 := (Prod.mk.inj hra).1
                have e2 : a' = a5 := (Prod.mk.inj hra).2
                have e3 : b' = b5 := (Prod.mk.inj (Option.some.inj (i2.symm.trans x2))).2
                subst e2; subst e3
                rcases i5 with ⟨j1, -⟩ | ⟨j1, c9, F9, j2, j3, j4, j5, j6, j7, j8, j9⟩
                · rw [e1, u1] at j1; exact absurd j1 (by decide)
                · have hc9 : c9 = c1 := by
                    have q1 := j3.cu
                    have q2 := u4.1.1.cu
                    have l1 := j3.l
                    have l2 := u4.1.1.l
                    have := hx.m
                    exact nI_inj (by omega) (by omega) (q1.symm.trans q2)
                  rw [hc9] at j9
                  exact (j9 hk1).2.2.2
              exact ⟨p1, SG_fr hsg3 x4 rfl hKc (by omega), (x4.2.1 105 rfl _).trans h105', Or.inr ⟨Km', rfl, by omega, p2⟩, by omega⟩
    · exact absurd h41 z2
  rw [e130, e180]
  cases hi : ix (L 3) w with
  | none =>
    rw [hi] at rest
    have hdef : cG_isDefinition (oi (-2) none) s = some (0, s) := by
      unfold cG_isDefinition
      rw [if_pos (show oi (-2) none < (0 : Int32) by decide)]
    rw [hdef, Option.bind_some]
    dsimp only
    rw [if_pos rfl, if_pos (show oi (-1) none = (-1 : Int32) from rfl)]
    exact rest (fun d hd => by cases hd)
  | some d =>
    rw [hi] at rest
    have hdl := (ix_some hi).2
    have hdef : cG_isDefinition (oi (-2) (some d)) s = some (1, s) := by
      unfold cG_isDefinition
      have h3 := hA.1.2.1.c 3 (by omega)
      show (if nI d < 0 then _ else if gA s 16 3 ≤ nI d then _ else if 12 ≤ nI d then _ else _) = _
      rw [h3, if_neg (nI_pos (by omega)), if_neg (nI_ge hdl (by omega)), if_neg (show ¬ (12 : Int32) ≤ nI d from nI_ge (b := 12) (by omega) (by decide))]
    rw [hdef, Option.bind_some]
    dsimp only
    have h19 := hA.2.2.2.2.2 d hdl
    have h96 : gA (wA b1 105 G.length (nI m)) 96 d = nI (pm d) := hB2.2.2.2.2 d hdl
    have hcl2 : (oi (-2) (some d)).toNatClampNeg = d := nI_clamp (n := d) (by omega)
    have hcl1 : (oi (-1) (some d)).toNatClampNeg = d := nI_clamp (n := d) (by omega)
    rw [if_neg (show ¬ (1 : Int32) = 0 by decide), if_pos (show am_idx (oi (-2) (some d)) 12 = true from nI_idx (c := d) (by omega) (by decide)), if_neg (show ¬ oi (-1) (some d) = (-1 : Int32) from nI_no1 (by omega)), if_pos (show am_idx (oi (-1) (some d)) 12 = true from nI_idx (c := d) (by omega) (by decide)), hcl1, hcl2, h19.1, h96]
    by_cases hpm : pm d = m
    · rw [hpm, if_pos rfl, if_pos rfl]
      have e238 : cR_takeStart_238 (nI G.length) 1 (wA b1 105 G.length (nI m)) = cR_takeStart_243 (nI G.length) (wA b1 105 G.length (nI m)) := by
        unfold cR_takeStart_238
        rw [need_t, Option.bind_some]
      rw [e238]
      exact rest (fun d' hd' => by rw [← Option.some.inj hd']; exact hpm)
    · have hne : ¬ nI (pm d) = nI m := fun z => hpm (nI_inj (by omega) (by omega) z)
      rw [if_neg hne, if_neg hne]
      obtain ⟨a2, bf, y1, y2, y3, y4, y5⟩ := fail_both hx hA.1.1 hB2.1.1 (show x.kd c ≠ 1 by omega) 6 (by decide)
      refine ⟨0, a2, wA bf 101 G.length (-1), ?_, ?_, OutT_bad (LB_fr (W := [2101]) (LB_fr (SXB_LB hB2 (by omega)) y5 rfl) (fr_wA fr_rf rfl) rfl) (fr_wA (fr_tr fb2 (fr_mono (by decide +kernel) y5)) (by decide +kernel)) y3 (by omega)⟩
      · rw [bind_eta]; exact y1
      · unfold cR_takeStart_238
        rw [y2, Option.bind_some]; exact bad243 y3.2.2 (by omega)
