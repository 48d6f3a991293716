/-! ITEMS of a text: what both hold between two of them. -/
def IXA (x : Cx) (L : Nat → List Int64) (T : List (Nat × Nat)) (pm en vc un rm : Nat → Nat) (G : List Ln) (τ : Nat → Int32) (a : ts) (c q K : Nat) : Prop :=
  (SA x a c ∧ NA a L T ∧ gI a 302 0 = bI false) ∧ (gI a 214 0 = nI G.length ∧ gI a 217 0 = nI K ∧ gI a 403 0 = nI q) ∧ (q ≤ 250 ∧ G.length ≤ 2 * q + (L 3).length ∧ (opn G).length ≤ q) ∧ (∀ l n, G[l]? = some n → LnA a τ K l n ∧ VS L pm n) ∧ OA a G ∧ (∀ d, d < (L 3).length → gA a 19 d = nI (pm d) ∧ pm d ≤ 8 ∧ gA a 20 d = nI (vc d) ∧ gA a 21 d = nI (en d)) ∧ (∀ p, p < 14 → gA a 17 p = nI (un p) ∧ gA a 18 p = nI (rm p)) ∧ K ≤ x.ps c
def IXB (x : Cx) (L : Nat → List Int64) (pm en un rm : Nat → Nat) (G : List Ln) (τ : Nat → Int32) (b : ts) (c q K : Nat) : Prop :=
  (SB x b c ∧ NQ b L 0) ∧ (gI b 1125 0 = nI G.length ∧ gI b 1139 0 = nI K ∧ gI b 1126 0 = nI q ∧ gI b 1142 0 = nI 0) ∧ (∀ l n, G[l]? = some n → KB b (L 0).length (L 1).length K l n ∧ (isJ n.1 = true → ¬ τ l = -2 → gA b 103 l = τ l)) ∧ (∀ d, d < (L 3).length → gA b 96 d = nI (pm d) ∧ gA b 97 d = nI (en d)) ∧ (∀ r, r < (L 0).length → gA b 90 r = nI (un r)) ∧ (∀ s, s < (L 1).length → gA b 92 s = nI (un (8 + s)) ∧ gA b 93 s = nI (rm (8 + s))) ∧ K ≤ 2 * x.ps c
def RT (G : List Ln) (τ : Nat → Int32) : Prop := ∀ l n, G[l]? = some n → isJ n.1 = true → ∃ t, τ l = nI t ∧ t < G.length ∧ (l < t ∨ (n.1 = 2 ∧ t < l ∧ ∃ m, G[t]? = some m ∧ m.1 = 519))
def DFn (G : List Ln) (p v e : Nat) : Prop := ∃ H, (∀ n, n ∈ H → n.1 ≠ 3) ∧ (∀ i n, H[i]? = some n → G[e + i]? = some n) ∧ (∃ n, G[e + H.length]? = some n ∧ n.1 = 3) ∧ mv p H = v
def UR (L : Nat → List Int64) (un rm : Nat → Nat) : Prop := (∀ r, r < (L 0).length → 1 ≤ un r ∧ un r ≤ 99 ∧ rm r = un r) ∧ (∀ s, s < (L 1).length → un (8 + s) ≤ rm (8 + s) ∧ 1 ≤ rm (8 + s) ∧ rm (8 + s) ≤ 9999) ∧ (∀ r, (L 0).length ≤ r → r < 8 → un r = 0 ∧ rm r = 0) ∧ ∀ s, (L 1).length ≤ s → s < 6 → un (8 + s) = 0 ∧ rm (8 + s) = 0
def IXP (L : Nat → List Int64) (pm en vc un rm : Nat → Nat) (G : List Ln) (τ : Nat → Int32) : Prop := ND L ∧ L 4 = [] ∧ (∀ k, 5 ≤ k → L k = []) ∧ RT G τ ∧ (∀ d, d < (L 3).length → DFn G (pm d) (vc d) (en d)) ∧ (∀ l n, G[l]? = some n → n.1 ≠ 3 → l + 1 < G.length) ∧ UR L un rm
theorem IXA_G {x : Cx} {L : Nat → List Int64} {T : List (Nat × Nat)} {pm en vc un rm : Nat → Nat} {G : List Ln} {τ : Nat → Int32} {a : ts} {c q K : Nat} (h : IXA x L T pm en vc un rm G τ a c q K) : G.length ≤ 512 := by
  have hL3 : (L 3).length ≤ 12 := h.1.2.1.m 3 (by omega)
  have := h.2.2.1
  omega
theorem IXA_items {x : Cx} {L L1 : Nat → List Int64} {T T1 : List (Nat × Nat)} {pm en vc un rm un1 rm1 : Nat → Nat} {G : List Ln} {τ : Nat → Int32} {a a1 : ts} {c c1 q K : Nat} (h : IXA x L T pm en vc un rm G τ a c q K) (hf : fr wf_cD_readResource a a1) (ha : SA x a1 c1) (hn : NA a1 L1 T1) (h3 : L1 3 = L 3) (hp : ∀ p, p < 14 → gA a1 17 p = nI (un1 p) ∧ gA a1 18 p = nI (rm1 p)) (hc : x.ps c ≤ x.ps c1) : IXA x L1 T1 pm en vc un1 rm1 G τ a1 c1 q K := by
  obtain ⟨h1, ⟨h4, h5, h6⟩, h8, h9, h10, h11, h12, h13⟩ := h
  refine ⟨⟨ha, hn, (hf.1 302 rfl 0).trans h1.2.2⟩, ⟨(hf.1 214 rfl 0).trans h4, (hf.1 217 rfl 0).trans h5, (hf.1 403 rfl 0).trans h6⟩, by rw [h3]; exact h8, fun l n hl => ⟨?_, ?_⟩, ⟨(hf.1 408 rfl 0).trans h10.1, fun i l n hi hl => ?_⟩, fun d hd => ?_, hp, by omega⟩
  · refine LnA_mono (h9 l n hl).1 (hf.2.1 22 rfl l) ?_ (hf.2.1 24 rfl l) (hf.2.1 25 rfl l) (Nat.le_refl _) (fun j _ => ⟨hf.2.1 26 rfl j, hf.2.1 27 rfl j⟩)
    rw [hf.2.1 23 rfl l, (h9 l n hl).1.2.1]
    by_cases hj : isJ n.1 = true
    · rw [if_pos hj, if_pos hj]
    · rw [if_neg hj, if_neg hj]
  · have := (h9 l n hl).2
    unfold VS at this ⊢
    rw [h3]; exact this
  · rw [hf.2.2.1 29 rfl, hf.2.1 30 rfl, hf.2.1 31 rfl, hf.2.1 32 rfl]; exact h10.2 i l n hi hl
  · rw [h3] at hd
    rw [hf.2.1 19 rfl, hf.2.1 20 rfl, hf.2.1 21 rfl]; exact h11 d hd
def wIt : List Nat := [1103, 1104, 1105, 1106, 1107, 1109, 1110, 1113, 1117, 2090, 2092, 2093, 3089, 3091, 3094, 5108]
theorem IXB_items {x : Cx} {L L1 : Nat → List Int64} {pm en un rm un1 rm1 : Nat → Nat} {G : List Ln} {τ : Nat → Int32} {b b1 : ts} {c c1 q K : Nat} (h : IXB x L pm en un rm G τ b c q K) (hf : fr wIt b b1) (hb : SB x b1 c1) (hn : NQ b1 L1 0) (h3 : L1 3 = L 3) (h0 : (L 0).length ≤ (L1 0).length) (h1' : (L 1).length ≤ (L1 1).length) (hp : ∀ r, r < (L1 0).length → gA b1 90 r = nI (un1 r)) (hs : ∀ s, s < (L1 1).length → gA b1 92 s = nI (un1 (8 + s)) ∧ gA b1 93 s = nI (rm1 (8 + s))) (hc : x.ps c ≤ x.ps c1) : IXB x L1 pm en un1 rm1 G τ b1 c1 q K := by
  obtain ⟨h1, ⟨h4, h5, h6, h7⟩, h9, h10, h11, h12, h13⟩ := h
  refine ⟨⟨hb, hn⟩, ⟨(hf.1 1125 rfl 0).trans h4, (hf.1 1139 rfl 0).trans h5, (hf.1 1126 rfl 0).trans h6, (hf.1 1142 rfl 0).trans h7⟩, fun l n hl => ⟨?_, fun z1 z2 => (hf.2.1 103 rfl l).trans ((h9 l n hl).2 z1 z2)⟩, fun d hd => ?_, hp, hs, by omega⟩
  · exact KB_mono (h9 l n hl).1 ⟨hf.2.1 99 rfl l, hf.2.1 100 rfl l, hf.2.1 101 rfl l, hf.2.1 105 rfl l, hf.2.1 107 rfl l, hf.2.2.1 106 rfl l, fun i _ => hf.2.1 104 rfl _⟩ (fun j _ => ⟨hf.2.1 110 rfl j, hf.2.1 111 rfl j⟩) (Nat.le_refl _) h0 h1'
  · rw [h3] at hd
    rw [hf.2.1 96 rfl, hf.2.1 97 rfl]; exact h10 d hd
theorem nb_snoc {b b1 : ts} {f r : Nat} {l : List Int64} {w : Int64} (h : nb b f r l) (h1 : gI b1 f 0 = nI (l.length + 1)) (h2 : ∀ k, k < l.length → gB b1 r k = gB b r k) (h3 : gB b1 r l.length = w) : nb b1 f r (l ++ [w]) := by
  refine ⟨by rw [List.length_append]; exact h1, fun k hk => ?_⟩
  rw [List.length_append] at hk
  have hk : k < l.length + 1 := hk
  by_cases e : k = l.length
  · rw [e, List.getElem?_append_right (Nat.le_refl _), h3]
    simp only [Nat.sub_self, List.getElem?_cons_zero]
  · rw [List.getElem?_append_left (by omega), h2 k (by omega)]; exact h.2 k (by omega)
theorem tell_sx {x : Cx} (hx : x.Ok) {L : Nat → List Int64} {T : List (Nat × Nat)} {a b : ts} {c q : Nat} (ha : SA x a c) (hb : SB x b c) (hna : NA a L T) (hnb : NQ b L q) (hq : q < 5) (hv : q < 4 → L 4 = []) : ∃ r a1 b0 b1, cD_tell (nI q) (nI (nmx q)) a = some (r, a1) ∧ cR_freshName (bI (Nat.beq q 4)) b = some b0 ∧ cR_limit (bI (Nat.blt (L q).length (nmx q))) b0 = some b1 ∧ fr wf_cD_tell a a1 ∧ fr [1103, 1104] b b0 ∧ fr [1103, 1104] b0 b1 ∧ ((r = 0 ∧ FL a1 b1) ∨ (r = 1 ∧ b0 = b ∧ b1 = b ∧ x.kd c = 2 ∧ c < x.m ∧ tkn1 L (Nat.beq q 4) (x.vl c) = false ∧ (L q).length < nmx q ∧ SA x a1 (c + 1) ∧ NA a1 (Lu L q (x.vl c)) (if q = 4 then T else T ++ [(q, (L q).length)]))) := by
  obtain ⟨r, a1, b0, b1, h1, h2, h3, h4, h5, h6, h7⟩ := fresh_sx hx ha hb hna hnb hq hv
  rcases h7 with ⟨z1, z2⟩ | ⟨z1, z2, z3, z4, z5, z6, z7⟩
  · have e : cD_tell (nI q) (nI (nmx q)) a = some (0, a1) := by
      unfold cD_tell
      rw [word_ok hx ha, Option.bind_some]
      dsimp only
      rw [h1, Option.bind_some]
      dsimp only
      rw [if_pos z1]
    exact ⟨0, a1, b0, b1, e, h2, h3, cD_tell_fr _ _ _ _ e, h5, h6, Or.inl ⟨rfl, z2⟩⟩
  · subst z2
    obtain ⟨a2, w1, w2, w3⟩ := addWord_ok hna hq hv z7 (x.vl c)
    have ha2 := SA_fr w3 rfl ha
    have hcm := hx.lm ha.l (show 2 ≤ x.kd c by omega)
    obtain ⟨v1, v2⟩ := adv_ok hx ha2 hcm
    have e : cD_tell (nI q) (nI (nmx q)) a1 = some (1, av x a2 (c + 1)) := by
      unfold cD_tell
      rw [word_ok hx ha, Option.bind_some]
      dsimp only
      rw [h1, Option.bind_some]
      dsimp only
      rw [if_neg (by rw [z1]; decide), w1, Option.bind_some, v1]; rfl
    exact ⟨1, _, b0, b1, e, h2, h3, cD_tell_fr _ _ _ _ e, h5, h6, Or.inr ⟨rfl, z3, z4, z5, hcm, z6, z7, v2, NA_fr (W := [106, 107]) fr_av rfl w2⟩⟩
theorem value1 {x : Cx} (hx : x.Ok) {a : ts} {c : Nat} (ha : SA x a c) : cT_value a = some ((x.vl c).toInt32, a) := by
  have h1 := ha.l
  have h2 := hx.m
  have h3 := hx.n
  have h4 := (ha.t.2.2.1 c (by omega)).2.2
  unfold cT_value
  rw [ha.cu, if_pos (nI_idx (by omega) (by decide)), nI_clamp (by omega), h4]; rfl
theorem num2 {x : Cx} (hx : x.Ok) {b : ts} {c : Nat} (hb : SB x b c) (h1 : x.kd c ≠ 1) : gI b 1106 0 = 2 ↔ x.kd c = 3 := by
  have hlt := hx.lt c
  obtain ⟨r1, r2, r3, r4, r5, r6⟩ := rt_tab _ hlt (x.kv c) h1
  have x2 : gI b 1106 0 = nI (rt (x.kd c)) := (hb.nx.2 h1).2.1
  rw [x2, ← r2]
  exact ⟨fun z => nI_inj (a := rt (x.kd c)) (b := 2) (by omega) (by decide) z, fun z => by rw [z]; rfl⟩
/-- a number's token between two bounds -/
theorem check_sx {x : Cx} (hx : x.Ok) {a b : ts} {c : Nat} (ha : SA x a c) (hb : SB x b c) (lo hi : Int32) : ∃ r a1, cD_checkNumber lo hi a = some (r, a1) ∧ fr [108, 109] a a1 ∧ ((r = 0 ∧ x.kd c = 1 ∧ FL a1 b) ∨ (r = 0 ∧ x.kd c ≠ 1 ∧ x.kd c ≠ 3 ∧ ∃ b1, cR_need 0 2 b = some b1 ∧ FL a1 b1 ∧ fr [1103, 1104] b b1) ∨ (r = 0 ∧ x.kd c = 3 ∧ ¬ (lo ≤ (x.vl c).toInt32 ∧ (x.vl c).toInt32 ≤ hi) ∧ ∃ b1, cR_need 0 5 b = some b1 ∧ FL a1 b1 ∧ fr [1103, 1104] b b1) ∨ (r = 1 ∧ x.kd c = 3 ∧ a1 = a ∧ lo ≤ (x.vl c).toInt32 ∧ (x.vl c).toInt32 ≤ hi)) := by
  have hlt := hx.lt c
  unfold cD_checkNumber
  rw [ha.ki]
  by_cases h3 : x.kd c = 3
  · rw [h3, if_pos (show nI 3 = (3 : Int32) from rfl), value1 hx ha, Option.bind_some]
    dsimp only
    obtain ⟨a1, b1, y1, y2, y3, y4, y5⟩ := fail_both hx ha hb (show x.kd c ≠ 1 by omega) 5 (by decide)
    have e42 : cD_checkNumber_42 a = some (0, a1) := by
      unfold cD_checkNumber_42
      rw [y1, Option.bind_some]; rfl
    by_cases hl : (x.vl c).toInt32 < lo
    · rw [if_pos hl, e42]
      exact ⟨0, a1, rfl, y4, Or.inr (Or.inr (Or.inl ⟨rfl, rfl, fun z => absurd (Int32.lt_of_lt_of_le hl z.1) (Int32.lt_irrefl), b1, y2, y3, y5⟩))⟩
    · rw [if_neg hl, value1 hx ha, Option.bind_some]
      dsimp only
      by_cases hh : (x.vl c).toInt32 ≤ hi
      · rw [if_pos hh]
        exact ⟨1, a, rfl, fr_rf, Or.inr (Or.inr (Or.inr ⟨rfl, rfl, rfl, Int32.not_lt.mp hl, hh⟩))⟩
      · rw [if_neg hh, e42]
        exact ⟨0, a1, rfl, y4, Or.inr (Or.inr (Or.inl ⟨rfl, rfl, fun z => hh z.2, b1, y2, y3, y5⟩))⟩
  · rw [if_neg (show ¬ nI (x.kd c) = (3 : Int32) from fun z => h3 (nI_inj (a := x.kd c) (b := 3) (by omega) (by decide) z)), bind_eta]
    by_cases h1 : x.kd c = 1
    · obtain ⟨a1, y1, y2, y3⟩ := fail_tok hx ha hb h1 2
      exact ⟨0, a1, y1, y3, Or.inl ⟨rfl, h1, y2⟩⟩
    · obtain ⟨a1, b1, y1, y2, y3, y4, y5⟩ := fail_both hx ha hb h1 2 (by decide)
      exact ⟨0, a1, y1, y4, Or.inr (Or.inl ⟨rfl, h1, h3, b1, y2, y3, y5⟩)⟩
