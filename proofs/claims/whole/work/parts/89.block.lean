/-! BLOCKS: the reference's one loop against the program's readers that call each other. -/
def RS (j : Nat) (b b1 : ts) : Prop := ∀ F, cR_takeProcess_187 (F + j) b = cR_takeProcess_187 F b1
theorem RS_0 {b : ts} : RS 0 b b := fun _ => rfl
theorem RS_tr {i j : Nat} {b b1 b2 : ts} (h : RS i b b1) (k : RS j b1 b2) : RS (i + j) b b2 := by
  intro F
  have e1 := h (F + j)
  rw [show F + (i + j) = F + j + i by omega, e1]; exact k F
theorem RS_stm {b b1 : ts} {D : Nat} (hg : gI b 1103 0 = 0) (hD : gI b 1138 0 = nI (D + 1)) (hD2 : D < 100) (ht : ¬ gI b 1106 0 = 125) (h : cR_takeStatement b = some b1) : RS 1 b b1 := by
  intro F
  rw [cR_takeProcess_187.eq_2]
  unfold cR_takeProcess_187_b
  rw [good_t hg, Option.bind_some]
  dsimp only
  rw [if_neg (by decide), hD, if_neg (show ¬ nI (D + 1) ≤ (0 : Int32) from nI_nle (by omega) (by omega)), if_neg ht, h, Option.bind_some]
theorem RS_end {b b1 : ts} {D : Nat} (hg : gI b 1103 0 = 0) (hD : gI b 1138 0 = nI (D + 1)) (hD2 : D < 100) (ht : gI b 1106 0 = 125) (h : cR_endBlock b = some b1) : RS 1 b b1 := by
  intro F
  rw [cR_takeProcess_187.eq_2]
  unfold cR_takeProcess_187_b
  rw [good_t hg, Option.bind_some]
  dsimp only
  rw [if_neg (by decide), hD, if_neg (show ¬ nI (D + 1) ≤ (0 : Int32) from nI_nle (by omega) (by omega)), if_pos ht, h, Option.bind_some]
def TGb (g : Nat) (H : List Ln) (τ : Nat → Int32) (B : Nat) : Prop := ∀ i n, H[i]? = some n → isJ n.1 = true → ∃ t, τ (g + i) = nI t ∧ ((g + i < t ∧ t ≤ B) ∨ (n.1 = 2 ∧ ∃ i' n', t = g + i' ∧ i' < i ∧ H[i']? = some n' ∧ n'.1 = 519))
theorem TGb_mono {g B B1 : Nat} {H : List Ln} {τ τ1 : Nat → Int32} (h : TGb g H τ B) (hB : B ≤ B1) (ht : ∀ k, g ≤ k → k < g + H.length → τ1 k = τ k) : TGb g H τ1 B1 := by
  intro i n hi hj
  have hl := getE_lt hi
  obtain ⟨t, h1, h2⟩ := h i n hi hj
  refine ⟨t, by rw [ht _ (by omega) (by omega)]; exact h1, ?_⟩
  rcases h2 with h2 | h2
  · exact Or.inl ⟨h2.1, by omega⟩
  · exact Or.inr h2
theorem TGb_app {g B : Nat} {H H1 : List Ln} {τ : Nat → Int32} (h : TGb g H τ B) (k : TGb (g + H.length) H1 τ B) : TGb g (H ++ H1) τ B := by
  intro i n hi hj
  by_cases hl : i < H.length
  · rw [List.getElem?_append_left hl] at hi
    obtain ⟨t, h1, h2⟩ := h i n hi hj
    refine ⟨t, h1, ?_⟩
    rcases h2 with h2 | ⟨h2, i', n', h3, h4, h5, h6⟩
    · exact Or.inl h2
    · exact Or.inr ⟨h2, i', n', h3, h4, by rw [List.getElem?_append_left (by omega)]; exact h5, h6⟩
  · rw [List.getElem?_append_right (by omega)] at hi
    obtain ⟨t, h1, h2⟩ := k (i - H.length) n hi hj
    rw [show g + H.length + (i - H.length) = g + i by omega] at h1 h2
    refine ⟨t, h1, ?_⟩
    rcases h2 with h2 | ⟨h2, i', n', h3, h4, h5, h6⟩
    · exact Or.inl h2
    · refine Or.inr ⟨h2, H.length + i', n', by omega, by omega, ?_, h6⟩
      rw [List.getElem?_append_right (by omega), show H.length + i' - H.length = i' by omega]; exact h5
theorem TGb_1 {g B t : Nat} {n : Ln} {τ : Nat → Int32} (ht : τ g = nI t) (h1 : g < t) (h2 : t ≤ B) : TGb g [n] τ B := by
  intro i m hi hm
  cases i with
  | zero => exact ⟨t, ht, Or.inl ⟨h1, h2⟩⟩
  | succ k => simp at hi
/-- what comes out of the statements of a block -/
def OutB (x : Cx) (L : Nat → List Int64) (T : List (Nat × Nat)) (pm : Nat → Nat) (G : List Ln) (τ : Nat → Int32) (e D : Nat) (BK BL : Nat → Int32) (b : ts) (c j : Nat) (r : Int32) (a1 b1 : ts) : Prop :=
  LB b1 ∧ fr wSt b b1 ∧ ((r = 0 ∧ FL a1 b1 ∧ j + c ≤ x.m + 1) ∨ (r = 1 ∧ ∃ c1 V H τ1 q1 K1 K1', c ≤ c1 ∧ j + c ≤ c1 ∧ c1 < x.m ∧ x.kd c1 = 125 ∧ SXA x (Lv L V) T pm (G ++ H) τ1 a1 (c1 + 1) q1 K1 e false ∧ K1 ≤ x.ps c1 ∧ (∀ k, k < G.length → τ1 k = τ k) ∧ TGb G.length H τ1 (G.length + H.length) ∧ (∀ n, n ∈ H → n.1 ≠ 3) ∧ mv (L 4).length H = (Lv L V 4).length ∧ ND (Lv L V) ∧ SXB x (Lv L V) pm (G ++ H) τ1 b1 c1 q1 K1' D BK BL 0 ∧ K1' ≤ 2 * x.ps c1))
theorem OutB_cons {x : Cx} {L : Nat → List Int64} {T : List (Nat × Nat)} {pm : Nat → Nat} {G H : List Ln} {τ τ1 : Nat → Int32} {e D : Nat} {BK BL : Nat → Int32} {b b0 : ts} {c c0 j j0 : Nat} {r : Int32} {a1 b1 : ts} {V : List Int64} (h : OutB x (Lv L V) T pm (G ++ H) τ1 e D BK BL b c j r a1 b1) (hf : fr wSt b0 b) (hc : c0 ≤ c) (hj : j0 + c0 ≤ c) (ht : ∀ k, k < G.length → τ1 k = τ k) (hT : TGb G.length H τ1 (G.length + H.length)) (h3 : ∀ n, n ∈ H → n.1 ≠ 3) (hm : mv (L 4).length H = (Lv L V 4).length) : OutB x L T pm G τ e D BK BL b0 c0 (j0 + j) r a1 b1 := by
  obtain ⟨h1, h2, h4⟩ := h
  refine ⟨h1, fr_tr hf h2, ?_⟩
  rcases h4 with ⟨z1, z2, z3⟩ | ⟨z1, c1, V1, H1, τ2, q1, K1, K1', y1, y2, y3, y4, y5, y6, y7, y8, y9, y10, y11, y12, y13⟩
  · exact Or.inl ⟨z1, z2, by omega⟩
  · rw [Lv_app] at y5 y10 y11 y12
    rw [List.append_assoc] at y5 y12
    rw [List.length_append] at y7 y8
    refine Or.inr ⟨z1, c1, V ++ V1, H ++ H1, τ2, q1, K1, K1', by omega, by omega, y3, y4, y5, y6, fun k hk => by rw [y7 k (by omega)]; exact ht k hk, ?_, ?_, ?_, y11, y12, y13⟩
    · rw [List.length_append]
      refine TGb_app (TGb_mono hT (by omega) (fun k _ hk2 => y7 k hk2)) ?_
      rw [show G.length + (H.length + H1.length) = G.length + H.length + H1.length by omega]; exact y8
    · intro n hn
      rcases List.mem_append.mp hn with z | z
      · exact h3 n z
      · exact y9 n z
    · rw [mv_app, hm]; exact y10
/-- one statement inside D blocks -/
def PSt (x : Cx) (T : List (Nat × Nat)) (pm : Nat → Nat) (f : Int32 → ts → Option (Int32 × ts)) (D : Nat) : Prop := ∀ (L : Nat → List Int64) (a b : ts) (c : Nat) (G : List Ln) (τ : Nat → Int32) (q K K' e : Nat) (BK BL : Nat → Int32), ND L → (∀ k, 5 ≤ k → L k = []) → SXA x L T pm G τ a c q K e false → SXB x L pm G τ b c q K' (D + 1) BK BL 0 → K ≤ x.ps c → K' ≤ 2 * x.ps c → x.kd c ≠ 125 → x.kd c ≠ 1 → ∃ r a1 j b1, f (nI D) a = some (r, a1) ∧ RS j b b1 ∧ OutT x L T pm G τ e (D + 1) BK BL b c j r a1 b1
theorem block_lp {x : Cx} (hx : x.Ok) {T : List (Nat × Nat)} {pm : Nat → Nat} {rc : Nat → Int32 → ts → Option (Int32 × ts)} {D : Nat} (ps : PSt x T pm (rc 1) D) (bd : BD x (rc 1) D) : ∀ (dd F : Nat) (L : Nat → List Int64) (a b : ts) (c i : Nat) (G : List Ln) (τ : Nat → Int32) (q K e : Nat) (BK BL : Nat → Int32), x.m + 1 - c ≤ dd → dd < F → i ≤ c → ND L → (∀ k, 5 ≤ k → L k = []) → SXA x L T pm G τ a c q K e false → K ≤ x.ps c → SB x b c → LB b → (x.kd c ≠ 1 → ∃ K', SXB x L pm G τ b c q K' (D + 1) BK BL 0 ∧ K' ≤ 2 * x.ps c) → ∃ r a1 j b1, cD_readBlock_43 rc F (nI D) (nI i) a = some (r, a1) ∧ RS j b b1 ∧ OutB x L T pm G τ e (D + 1) BK BL b c j r a1 b1 := by
  intro dd
  induction dd with
  | zero =>
    intro F L a b c i G τ q K e BK BL h1 h2 h3 hd hL5 hA
    exact absurd hA.1.1.l (by omega)
  | succ dd ih =>
    intro F L a b c i G τ q K e BK BL h1 h2 h3 hd hL5 hA hk hb hl hB
    have hcl := hA.1.1.l
    have hmn := hx.m
    have hn4 := hx.n
    have hlt := hx.lt c
    have hF0 : ∃ F0, F = F0 + 1 := ⟨F - 1, by omega⟩
    obtain ⟨F0, hF0⟩ := hF0
    have e43 : cD_readBlock_43 rc F (nI D) (nI i) a = (if x.kd c = 125 then cT_need 125 a else (rc 1 (nI D) a).bind (fun x3 => (if x3.1 = ((0 : Int32)) then some ((0 : Int32), x3.2) else cD_readBlock_43 rc F0 (nI D) (nI (i + 1)) x3.2))) := by
      rw [hF0, cD_readBlock_43.eq_2]
      unfold cD_readBlock_43_b cD_readBlock_78
      rw [if_neg (show ¬ (4001 : Int32) ≤ nI i from nI_ge (b := 4001) (by omega) (by decide)), hA.1.1.ki, bind_eta, show nI i + (1 : Int32) = nI (i + 1) from nI_add i 1]
      by_cases h5 : x.kd c = 125
      · rw [h5, if_pos (show nI 125 = (125 : Int32) from rfl), if_pos rfl]
      · rw [if_neg (show ¬ nI (x.kd c) = (125 : Int32) from fun z => h5 (nI_inj (a := x.kd c) (b := 125) (by omega) (by decide) z)), if_neg h5]
    rw [e43]
    by_cases h5 : x.kd c = 125
    · rw [if_pos h5]
      have hcm := hx.lm hcl (show 2 ≤ x.kd c by omega)
      obtain ⟨v1, v2⟩ := adv_ok hx hA.1.1 hcm
      obtain ⟨K', hB1, hk'⟩ := hB (by omega)
      have en : cT_need 125 a = some (1, av x a (c + 1)) := by
        unfold cT_need
        rw [hA.1.1.ki, h5, if_pos (show nI 125 = (125 : Int32) from rfl), v1]; rfl
      refine ⟨1, av x a (c + 1), 0, b, en, RS_0, hl, fr_rf, Or.inr ⟨rfl, c, [], [], τ, q, K, K', Nat.le_refl _, by omega, hcm, h5, ?_, hk, fun _ _ => rfl, (fun i n hi => by simp at hi), (fun n hn => by cases hn), ?_, ?_, ?_, hk'⟩⟩
      · rw [Lv_nil, List.append_nil]; exact SXA_tok hA (fr_mono (by decide +kernel) fr_av) v2
      · rw [Lv_nil]; rfl
      · rw [Lv_nil]; exact hd
      · rw [Lv_nil, List.append_nil]; exact hB1
    · rw [if_neg h5]
      by_cases hk1 : x.kd c = 1
      · obtain ⟨a1, d1, d2⟩ := bd a c hA.1.1 hk1
        refine ⟨0, a1, 0, b, ?_, RS_0, hl, fr_rf, Or.inl ⟨rfl, d2 b hb, by omega⟩⟩
        rw [d1, Option.bind_some]; rfl
      · obtain ⟨K', hB1, hk'⟩ := hB hk1
        obtain ⟨r, a1, j, b1, y1, y2, y3, y4, y5⟩ := ps L a b c G τ q K K' e BK BL hd hL5 hA hB1 hk hk' h5 hk1
        rw [y1, Option.bind_some]
        dsimp only
        rcases y5 with ⟨z1, z2, z3⟩ | ⟨z1, c1, V, H, τ1, q1, K1, w1, w2, w3, w4, w5, w6, w7, w8, w9, w10, w11⟩
        · rw [z1, if_pos rfl]
          exact ⟨0, a1, j, b1, rfl, y2, y3, y4, Or.inl ⟨rfl, z2, z3⟩⟩
        · rw [z1, if_neg (by decide)]
          have hc1 := w3.1.1.l
          have hL5' : ∀ k, 5 ≤ k → Lv L V k = [] := fun k hk => (if_neg (show ¬ k = 4 by omega)).trans (hL5 k hk)
          have o1 : x.m + 1 - c1 ≤ dd ∧ dd < F0 ∧ i + 1 ≤ c1 := by clear w11 hB; omega
          obtain ⟨r2, a2, j2, b2, q1', q2', q3'⟩ := ih F0 (Lv L V) a1 b1 c1 (i + 1) (G ++ H) τ1 q1 K1 e BK BL o1.1 o1.2.1 o1.2.2 w10 hL5' w3 w4 w5 y3 w11
          exact ⟨r2, a2, j + j2, b2, q1', RS_tr y2 q2', OutB_cons (c0 := c) (j0 := j) q3' y4 (Nat.le_of_lt w1) w2 w6 w7 w8 w9⟩
/-- a block, whose reader begins before its first sign -/
def PBk (x : Cx) (T : List (Nat × Nat)) (pm : Nat → Nat) (f : Int32 → ts → Option (Int32 × ts)) (D : Nat) : Prop := ∀ (L : Nat → List Int64) (a b0 : ts) (c : Nat) (G : List Ln) (τ : Nat → Int32) (q K K' e : Nat) (BK BL : Nat → Int32) (kk ll : Int32), ND L → (∀ k, 5 ≤ k → L k = []) → SXA x L T pm G τ a c q K e false → SXB x L pm G τ b0 c q K' D BK BL 0 → K ≤ x.ps c → K' ≤ 2 * x.ps c + 1 → ∃ r a1 b j b1, f (nI D) a = some (r, a1) ∧ cR_beginBlock kk ll b0 = some b ∧ RS j b b1 ∧ OutB x L T pm G τ e (D + 1) (fun k => if k = D then kk else BK k) (fun k => if k = D then ll else BL k) b0 c j r a1 b1
theorem SXB_push {x : Cx} {L : Nat → List Int64} {pm : Nat → Nat} {G : List Ln} {τ : Nat → Int32} {b : ts} {c q K D u : Nat} {BK BL : Nat → Int32} {kk ll : Int32} (h : SXB x L pm G τ b c q K D BK BL u) : SXB x L pm G τ (wI (wA (wA b 109 D kk) 108 D ll) 1138 0 (nI (D + 1))) c q K (D + 1) (fun k => if k = D then kk else BK k) (fun k => if k = D then ll else BL k) u ∧ fr [1138, 2108, 2109] b (wI (wA (wA b 109 D kk) 108 D ll) 1138 0 (nI (D + 1))) := by
  have hf : fr [1138, 2108, 2109] b (wI (wA (wA b 109 D kk) 108 D ll) 1138 0 (nI (D + 1))) := fr_wI (fr_wA (fr_wA fr_rf rfl) rfl) rfl
  refine ⟨?_, hf⟩
  obtain ⟨⟨h1, h2⟩, ⟨h3, h4, h5, h6, h7⟩, h8, h9, h11⟩ := h
  generalize hb1 : wI (wA (wA b 109 D kk) 108 D ll) 1138 0 (nI (D + 1)) = b1 at hf ⊢
  refine ⟨⟨SB_fr hf rfl rfl h1, NB_fr hf rfl h2⟩, ⟨(hf.1 1125 rfl 0).trans h3, (hf.1 1139 rfl 0).trans h4, (hf.1 1126 rfl 0).trans h5, (hf.1 1142 rfl 0).trans h6, ?_⟩, fun j hj => ?_, fun l n hl => ⟨?_, fun z1 z2 => (hf.2.1 103 rfl l).trans ((h9 l n hl).2 z1 z2)⟩, fun d hd => (hf.2.1 96 rfl d).trans (h11 d hd)⟩
  · rw [← hb1]; exact gI_wIs
  · dsimp only
    by_cases e : j = D
    · rw [if_pos e, if_pos e, e, ← hb1]
      exact ⟨by simp (disch := first | assumption | omega) only [sx, if_pos, if_neg, bnd, Nat.reduceEqDiff, Nat.reduceAdd, Nat.reduceMul, Nat.reduceSub, and_true, true_and, and_false, false_and, or_true, true_or, or_false, false_or, if_true, if_false, eq_self, not_true, not_false_eq_true], by simp (disch := first | assumption | omega) only [sx, if_pos, if_neg, bnd, Nat.reduceEqDiff, Nat.reduceAdd, Nat.reduceMul, Nat.reduceSub, and_true, true_and, and_false, false_and, or_true, true_or, or_false, false_or, if_true, if_false, eq_self, not_true, not_false_eq_true]⟩
    · rw [if_neg e, if_neg e, ← hb1]
      have := h8 j (by omega)
      refine ⟨?_, ?_⟩
      · rw [← this.1]; simp (disch := first | assumption | omega) only [sx, if_pos, if_neg, bnd, Nat.reduceEqDiff, Nat.reduceAdd, Nat.reduceMul, Nat.reduceSub, and_true, true_and, and_false, false_and, or_true, true_or, or_false, false_or, if_true, if_false, eq_self, not_true, not_false_eq_true]
      · rw [← this.2]; simp (disch := first | assumption | omega) only [sx, if_pos, if_neg, bnd, Nat.reduceEqDiff, Nat.reduceAdd, Nat.reduceMul, Nat.reduceSub, and_true, true_and, and_false, false_and, or_true, true_or, or_false, false_or, if_true, if_false, eq_self, not_true, not_false_eq_true]
  · exact KB_mono (h9 l n hl).1 ⟨hf.2.1 99 rfl l, hf.2.1 100 rfl l, hf.2.1 101 rfl l, hf.2.1 105 rfl l, hf.2.1 107 rfl l, hf.2.2.1 106 rfl l, fun i _ => hf.2.1 104 rfl _⟩ (fun j _ => ⟨hf.2.1 110 rfl j, hf.2.1 111 rfl j⟩) (Nat.le_refl _) (Nat.le_refl _) (Nat.le_refl _)
theorem begin_bad {b : ts} {kk ll : Int32} {y : Int32} (hg : gI b 1103 0 = 0) (hy : ¬ y = 0) : ∃ bf, cR_need 0 y b = some bf ∧ ¬ gI bf 1103 0 = 0 ∧ cR_beginBlock_26 kk ll bf = some bf := by
  have h : ¬ gI (wI (wI b 1103 0 y) 1104 0 (gI b 1107 0)) 1103 0 = 0 := by rw [gI_wIn (by decide), gI_wIs]; exact hy
  refine ⟨_, need_f hg, h, ?_⟩
  have e : ∀ t, cR_beginBlock_41 kk ll t (wI (wI b 1103 0 y) 1104 0 (gI b 1107 0)) = some (wI (wI b 1103 0 y) 1104 0 (gI b 1107 0)) := by
    intro t
    unfold cR_beginBlock_41
    rw [limit_bad h, Option.bind_some, good_f h, Option.bind_some]; rfl
  unfold cR_beginBlock_26
  rw [e, e]
  split <;> rfl
theorem readBlock_pb {x : Cx} (hx : x.Ok) {T : List (Nat × Nat)} {pm : Nat → Nat} {rc : Nat → Int32 → ts → Option (Int32 × ts)} {D : Nat} (hD : D ≤ 10) (ps : D ≤ 9 → PSt x T pm (rc 1) D ∧ BD x (rc 1) D) : PBk x T pm (cD_readBlock rc) D := by
  intro L a b0 c G τ q K K' e BK BL kk ll hd hL5 hA hB hk hk'
  have hcl := hA.1.1.l
  have hmn := hx.m
  have hn4 := hx.n
  have hlt := hx.lt c
  have hG := SXA_G hA
  have hLB := SXB_LB hB (by omega)
  have e27 : x.kd c ≠ 123 → cD_readBlock rc (nI D) a = (cT_fail 2 a).bind (fun x3 => (if x3.1 = ((0 : Int32)) then some ((0 : Int32), x3.2) else cD_readBlock_43 rc tm_N (nI D) ((0 : Int32)) x3.2)) := by
    intro h
    unfold cD_readBlock cD_readBlock_27 cT_need
    rw [hA.1.1.ki, if_neg (show ¬ nI (x.kd c) = (123 : Int32) from fun z => h (nI_inj (a := x.kd c) (b := 123) (by omega) (by decide) z)), if_neg (show ¬ nI (x.kd c) = (123 : Int32) from fun z => h (nI_inj (a := x.kd c) (b := 123) (by omega) (by decide) z)), bind_eta]
  by_cases h1 : x.kd c = 1
  · obtain ⟨a1, y1, y2, y3⟩ := fail_tok hx hA.1.1 hB.1.1 h1 2
    refine ⟨0, a1, b0, 0, b0, ?_, beginBlock_bad (hB.1.1.nb h1), RS_0, hLB, fr_rf, Or.inl ⟨rfl, y2, by omega⟩⟩
    rw [e27 (by omega), y1, Option.bind_some]; rfl
  have hg := hB.1.1.g h1
  have s123 : gI b0 1106 0 = (123 : Int32) ↔ x.kd c = 123 := sg_eq hx hB.1.1 h1 (q := 123) (by omega)
  by_cases h123 : x.kd c = 123
  · have eB : cR_beginBlock kk ll b0 = cR_beginBlock_26 kk ll b0 := by
      unfold cR_beginBlock
      rw [good_t hg, Option.bind_some]
      dsimp only
      rw [if_neg (by decide), if_pos (s123.mpr h123)]
      unfold cR_beginBlock_22
      rw [need_t, Option.bind_some]
    have h38 := hB.2.1.2.2.2.2
    by_cases hD9 : D ≤ 9
    · obtain ⟨ps1, bd1⟩ := ps hD9
      have hcm := hx.lm hcl (show 2 ≤ x.kd c by omega)
      have hp := hx.p1 (c := c) (by omega)
      obtain ⟨v1, v2⟩ := adv_ok hx hA.1.1 hcm
      obtain ⟨hB1, f1⟩ := SXB_push (kk := kk) (ll := ll) hB
      obtain ⟨b2, n1, n2, n3⟩ := nxt_ok hx hB1.1.1 (by omega)
      have hA1 := SXA_tok hA (fr_mono (by decide +kernel) fr_av) v2
      have hB2 := SXB_tok hB1 n3 n2
      have f2 : fr wSt b0 b2 := fr_tr (fr_mono (by decide +kernel) f1) (fr_mono (by decide +kernel) n3)
      obtain ⟨r, a1, j, b1, y1, y2, y3⟩ := block_lp hx ps1 bd1 (x.m + 1) tm_N L (av x a (c + 1)) b2 (c + 1) 0 G τ q K e _ _ (by omega) (by unfold tm_N; omega) (by omega) hd hL5 hA1 (by omega) n2 (SXB_LB hB2 (by omega)) (fun _ => ⟨K', hB2, by omega⟩)
      have y3 : OutB x (Lv L []) T pm (G ++ []) τ e (D + 1) (fun k => if k = D then kk else BK k) (fun k => if k = D then ll else BL k) b2 (c + 1) j r a1 b1 := by
        rw [Lv_nil, List.append_nil]; exact y3
      have y4 := OutB_cons (c0 := c) (j0 := 0) (τ := τ) y3 f2 (by omega) (by omega) (fun _ _ => rfl) (fun i n hi => by simp at hi) (fun n hn => by cases hn) (by rw [Lv_nil]; rfl)
      rw [Nat.zero_add] at y4
      refine ⟨r, a1, b2, j, b1, ?_, ?_, y2, y4⟩
      · unfold cD_readBlock cD_readBlock_27 cT_need
        rw [hA.1.1.ki, h123, if_pos (show nI 123 = (123 : Int32) from rfl), if_pos (show nI D ≤ (9 : Int32) from nI_le (b := 9) hD9 (by decide)), if_pos (show nI 123 = (123 : Int32) from rfl), v1, Option.bind_some, Option.bind_some]
        dsimp only
        rw [if_neg (by decide)]; exact y1
      · rw [eB]
        unfold cR_beginBlock_26
        rw [h38, if_neg (show ¬ (9 : Int32) < nI D from nI_nlt (a := 9) hD9 (by decide))]
        unfold cR_beginBlock_41 cR_limit
        rw [good_t hg, Option.bind_some]
        dsimp only
        rw [if_neg (by decide), need_t, Option.bind_some, Option.bind_some, good_t hg, Option.bind_some]
        dsimp only
        rw [if_neg (by decide)]
        have e38 : ∀ v : Int32, gI (wA b0 109 D v) 1138 0 = nI D := fun v => h38
        have e38b : ∀ v w : Int32, gI (wA (wA b0 109 D v) 108 D w) 1138 0 = nI D := fun v w => h38
        rw [h38, if_pos (nI_idx (by omega) (by decide)), nI_clamp (by omega), e38, if_pos (nI_idx (by omega) (by decide)), nI_clamp (by omega), e38b, show nI D + (1 : Int32) = nI (D + 1) from nI_add D 1, n1, bind_eta1]
    · have hD10 : D = 10 := by omega
      obtain ⟨a1, bf, y1, y2, y3, y4, y5⟩ := fail_both hx hA.1.1 hB.1.1 h1 5 (by decide)
      refine ⟨0, a1, bf, 0, bf, ?_, ?_, RS_0, LB_fr hLB y5 rfl, fr_mono (by decide +kernel) y5, Or.inl ⟨rfl, y3, by omega⟩⟩
      · unfold cD_readBlock
        rw [hA.1.1.ki, h123, if_pos (show nI 123 = (123 : Int32) from rfl), if_neg (show ¬ nI D ≤ (9 : Int32) from nI_ge (a := 9) (by omega) (by omega)), bind_eta]; exact y1
      · rw [eB]
        unfold cR_beginBlock_26
        rw [h38, if_pos (show (9 : Int32) < nI D from nI_lt (a := 9) (by omega) (by omega))]
        unfold cR_beginBlock_41 cR_limit
        rw [good_t hg, Option.bind_some]
        dsimp only
        rw [if_neg (by decide), y2, Option.bind_some, Option.bind_some, good_f y3.2.2, Option.bind_some]; rfl
  · obtain ⟨a1, bf, y1, y2, y3, y4, y5⟩ := fail_both hx hA.1.1 hB.1.1 h1 2 (by decide)
    refine ⟨0, a1, bf, 0, bf, ?_, ?_, RS_0, LB_fr hLB y5 rfl, fr_mono (by decide +kernel) y5, Or.inl ⟨rfl, y3, by omega⟩⟩
    · rw [e27 h123, y1, Option.bind_some]; rfl
    · obtain ⟨bg, g1, g2, g3⟩ := begin_bad (kk := kk) (ll := ll) hg (show ¬ (2 : Int32) = 0 by decide)
      have : bg = bf := Option.some.inj (g1.symm.trans y2)
      subst this
      unfold cR_beginBlock
      rw [good_t hg, Option.bind_some]
      dsimp only
      rw [if_neg (by decide), if_neg (fun z => h123 (s123.mp z))]
      unfold cR_beginBlock_22
      rw [g1, Option.bind_some]; exact g3
theorem readBlock_bd {x : Cx} (hx : x.Ok) {rc : Nat → Int32 → ts → Option (Int32 × ts)} {D : Nat} : BD x (cD_readBlock rc) D := by
  intro a c ha h1
  have e := failX_ok hx ha 2
  refine ⟨wI (wI a 108 0 (if x.kd c = 1 then 1 else 2)) 109 0 (nI (x.pl c)), ?_, fun b hb => ?_⟩
  · unfold cD_readBlock cD_readBlock_27 cT_need
    have hne : ¬ nI (x.kd c) = (123 : Int32) := by rw [h1]; decide
    rw [ha.ki, if_neg hne, if_neg hne, e, Option.bind_some, Option.bind_some]; rfl
  · obtain ⟨a1, y1, y2, y3⟩ := fail_tok hx ha hb h1 2
    have := (Prod.mk.inj (Option.some.inj (e.symm.trans y1))).2
    rw [this]; exact y2
