/-! STATEMENTS: the lines of both programs. A line: the act's number, its target, its expressions, a word and its place. -/
abbrev Ln : Type := Nat × Int32 × List (List Op1) × Int64 × Nat
def isJ (k : Nat) : Bool := Nat.beq k 2 || (Nat.beq k 517 || Nat.beq k 519)
def OpA (a : ts) (f : Nat) (F : List Op1) : Prop := ∀ j o, F[j]? = some o → gA a 26 (f + j) = nI o.1 ∧ gA a 27 (f + j) = oA (f + j) o
def OpC (b : ts) (e : Nat) (F : List Op1) : Prop := gA b 110 (e + F.length) = 0 ∧ ∀ j o, F[j]? = some o → gA b 110 (e + j) = nI (rc o) ∧ gA b 111 (e + j) = rA (e + j) o
def LnA (a : ts) (τ : Nat → Int32) (K l : Nat) (n : Ln) : Prop := gA a 22 l = nI n.1 ∧ gA a 23 l = (if isJ n.1 = true then τ l else n.2.1) ∧ ∃ f, gA a 24 l = nI f ∧ gA a 25 l = nI (f + n.2.2.1.flatten.length) ∧ f + n.2.2.1.flatten.length ≤ K ∧ OpA a f n.2.2.1.flatten
def XB (b : ts) (K : Nat) (v : Int32) (F : List Op1) : Prop := ∃ e, v = nI e ∧ e + F.length < K ∧ OpC b e F
def XZ (b : ts) (K : Nat) (v : Int32) (F : List Op1) : Prop := (v = -1 ∧ F = [(1, 0)]) ∨ XB b K v F
def X1 (b : ts) (K l : Nat) (n : Ln) : Prop := ∃ F, n.2.2.1 = [F] ∧ Wt 103 F ∧ XB b K (gA b 101 l) F
def KB (b : ts) (nr ns K l : Nat) (n : Ln) : Prop :=
  (n.1 = 1 ∧ (∃ v, v < 24 ∧ n.2.1 = nI v ∧ gA b 99 l = nI (if v < 8 then 24 else 25) ∧ gA b 100 l = nI (if v < 8 then v else v - 8)) ∧ X1 b K l n)
  ∨ (n.1 = 2 ∧ n.2.2.1 = [] ∧ gA b 99 l = nI 26)
  ∨ (n.1 = 3 ∧ n.2.2.1 = [] ∧ gA b 99 l = nI 27)
  ∨ ((n.1 = 517 ∨ n.1 = 519 ∨ n.1 = 520 ∨ n.1 = 525 ∨ n.1 = 527 ∨ n.1 = 528 ∨ n.1 = 529) ∧ gA b 99 l = nI (n.1 - 512) ∧ X1 b K l n)
  ∨ (n.1 = 521 ∧ gA b 99 l = nI 9 ∧ (∃ r, r < nr ∧ n.2.1 = nI r ∧ gA b 100 l = nI r) ∧ ∃ F, n.2.2.1 = [F] ∧ Wt 103 F ∧ XZ b K (gA b 101 l) F)
  ∨ (n.1 = 522 ∧ gA b 99 l = nI 10 ∧ n.2.2.1 = [] ∧ ∃ r, r < nr ∧ n.2.1 = nI r ∧ gA b 100 l = nI r ∧ gA b 101 l = -1)
  ∨ ((n.1 = 523 ∨ n.1 = 524) ∧ gA b 99 l = nI (n.1 - 512) ∧ (∃ r, r < ns ∧ n.2.1 = nI (8 + r) ∧ gA b 100 l = nI r) ∧ X1 b K l n)
  ∨ (n.1 = 526 ∧ gA b 99 l = nI 14 ∧ gB b 106 l = n.2.2.2.1 ∧ gA b 107 l = nI n.2.2.2.2 ∧ ∃ A Pr, n.2.2.1 = A ++ [Pr] ∧ (∀ F, F ∈ A → Wt 103 F) ∧ Wt 103 Pr ∧ gA b 105 l = nI A.length ∧ XZ b K (gA b 101 l) Pr ∧ ∀ i F, i < 8 → A[i]? = some F → XB b K (gA b 104 (8 * l + i)) F)
  ∨ (n.1 = 530 ∧ gA b 99 l = nI 18 ∧ n.2.2.1 = [] ∧ gA b 101 l = -1)
def PB1 (b b1 : ts) (l : Nat) : Prop := gA b1 99 l = gA b 99 l ∧ gA b1 100 l = gA b 100 l ∧ gA b1 101 l = gA b 101 l ∧ gA b1 105 l = gA b 105 l ∧ gA b1 107 l = gA b 107 l ∧ gB b1 106 l = gB b 106 l ∧ ∀ i, i < 8 → gA b1 104 (8 * l + i) = gA b 104 (8 * l + i)
def Kc (b b1 : ts) (K : Nat) : Prop := ∀ j, j < K → gA b1 110 j = gA b 110 j ∧ gA b1 111 j = gA b 111 j
theorem XB_mono {b b1 : ts} {K K1 : Nat} {v : Int32} {F : List Op1} (h : XB b K v F) (hc : Kc b b1 K) (hK : K ≤ K1) : XB b1 K1 v F := by
  obtain ⟨e, h1, h2, h3, h4⟩ := h
  refine ⟨e, h1, by omega, ?_, fun j o hj => ?_⟩
  · rw [(hc _ h2).1]; exact h3
  · have := getE_lt hj
    rw [(hc (e + j) (by omega)).1, (hc (e + j) (by omega)).2]; exact h4 j o hj
theorem XZ_mono {b b1 : ts} {K K1 : Nat} {v : Int32} {F : List Op1} (h : XZ b K v F) (hc : Kc b b1 K) (hK : K ≤ K1) : XZ b1 K1 v F := h.elim Or.inl (fun z => Or.inr (XB_mono z hc hK))
theorem X1_mono {b b1 : ts} {K K1 l : Nat} {n : Ln} (h : X1 b K l n) (hp : gA b1 101 l = gA b 101 l) (hc : Kc b b1 K) (hK : K ≤ K1) : X1 b1 K1 l n := by
  obtain ⟨F, h1, h2, h3⟩ := h
  exact ⟨F, h1, h2, by rw [hp]; exact XB_mono h3 hc hK⟩
theorem KB_mono {b b1 : ts} {nr ns nr1 ns1 K K1 l : Nat} {n : Ln} (h : KB b nr ns K l n) (hp : PB1 b b1 l) (hc : Kc b b1 K) (hK : K ≤ K1) (hr : nr ≤ nr1) (hs : ns ≤ ns1) : KB b1 nr1 ns1 K1 l n := by
  obtain ⟨p1, p2, p3, p4, p5, p6, p7⟩ := hp
  rcases h with h | h | h | h | h | h | h | h | h
  · obtain ⟨h1, ⟨v, h2, h3, h4, h5⟩, h6⟩ := h
    exact Or.inl ⟨h1, ⟨v, h2, h3, p1.trans h4, p2.trans h5⟩, X1_mono h6 p3 hc hK⟩
  · exact Or.inr (Or.inl ⟨h.1, h.2.1, p1.trans h.2.2⟩)
  · exact Or.inr (Or.inr (Or.inl ⟨h.1, h.2.1, p1.trans h.2.2⟩))
  · exact Or.inr (Or.inr (Or.inr (Or.inl ⟨h.1, p1.trans h.2.1, X1_mono h.2.2 p3 hc hK⟩)))
  · obtain ⟨h1, h2, ⟨r, h3, h4, h5⟩, F, h6, h7, h8⟩ := h
    exact Or.inr (Or.inr (Or.inr (Or.inr (Or.inl ⟨h1, p1.trans h2, ⟨r, by omega, h4, p2.trans h5⟩, F, h6, h7, by rw [p3]; exact XZ_mono h8 hc hK⟩))))
  · obtain ⟨h1, h2, h3, r, h4, h5, h6⟩ := h
    exact Or.inr (Or.inr (Or.inr (Or.inr (Or.inr (Or.inl ⟨h1, p1.trans h2, h3, r, by omega, h5, p2.trans h6.1, p3.trans h6.2⟩)))))
  · obtain ⟨h1, h2, ⟨r, h3, h4, h5⟩, h6⟩ := h
    exact Or.inr (Or.inr (Or.inr (Or.inr (Or.inr (Or.inr (Or.inl ⟨h1, p1.trans h2, ⟨r, by omega, h4, p2.trans h5⟩, X1_mono h6 p3 hc hK⟩))))))
  · obtain ⟨h1, h2, h3, h4, A, Pr, h5, h6, h7, h8, h9, h10⟩ := h
    exact Or.inr (Or.inr (Or.inr (Or.inr (Or.inr (Or.inr (Or.inr (Or.inl ⟨h1, p1.trans h2, p6.trans h3, p5.trans h4, A, Pr, h5, h6, h7, p4.trans h8, by rw [p3]; exact XZ_mono h9 hc hK, fun i F hi hA => by rw [p7 i hi]; exact XB_mono (h10 i F hi hA) hc hK⟩)))))))
  · exact Or.inr (Or.inr (Or.inr (Or.inr (Or.inr (Or.inr (Or.inr (Or.inr ⟨h.1, p1.trans h.2.1, h.2.2.1, p3.trans h.2.2.2⟩)))))))
theorem LnA_mono {a a1 : ts} {τ τ1 : Nat → Int32} {K K1 l : Nat} {n : Ln} (h : LnA a τ K l n) (h2 : gA a1 22 l = gA a 22 l) (h3 : gA a1 23 l = if isJ n.1 = true then τ1 l else gA a 23 l) (h4 : gA a1 24 l = gA a 24 l) (h5 : gA a1 25 l = gA a 25 l) (hK : K ≤ K1) (ho : ∀ j, j < K → gA a1 26 j = gA a 26 j ∧ gA a1 27 j = gA a 27 j) : LnA a1 τ1 K1 l n := by
  obtain ⟨e1, e2, f, e3, e4, e5, e6⟩ := h
  refine ⟨h2.trans e1, ?_, f, h4.trans e3, h5.trans e4, by omega, fun j o hj => ?_⟩
  · rw [h3]
    by_cases hj : isJ n.1 = true
    · rw [if_pos hj, if_pos hj]
    · rw [if_neg hj, if_neg hj, e2, if_neg hj]
  · have := getE_lt hj
    rw [(ho (f + j) (by omega)).1, (ho (f + j) (by omega)).2]; exact e6 j o hj
/-- starts whose process was not told before them -/
def pnd (n : Ln) : Bool := Nat.beq n.1 526 && decide (n.2.1 = -2)
def opn (G : List Ln) : List Nat := (G.zipIdx.filter (fun p => pnd p.1)).map (fun p => p.2)
theorem opn_app (G : List Ln) (n : Ln) : opn (G ++ [n]) = opn G ++ (if pnd n = true then [G.length] else []) := by
  unfold opn
  rw [List.zipIdx_append, List.filter_append, List.map_append]
  congr 1
  simp only [List.zipIdx_cons, List.zipIdx_nil, List.filter_cons, List.filter_nil, Nat.zero_add]
  by_cases h : pnd n = true
  · rw [if_pos h, if_pos h]; rfl
  · rw [if_neg h, if_neg h]; rfl
theorem opn_lt (G : List Ln) (i l : Nat) (h : (opn G)[i]? = some l) : l < G.length := by
  have h1 := List.mem_of_getElem? h
  unfold opn at h1
  obtain ⟨p, hp, e⟩ := List.mem_map.mp h1
  have := List.mem_filter.mp hp
  have := List.mem_zipIdx this.1
  rw [← e]; omega
def OA (a : ts) (G : List Ln) : Prop := gI a 408 0 = nI (opn G).length ∧ ∀ i l n, (opn G)[i]? = some l → G[l]? = some n → gB a 29 i = n.2.2.2.1 ∧ gA a 30 i = nI n.2.2.2.2 ∧ gA a 31 i = nI (n.2.2.1.length - 1) ∧ gA a 32 i = nI l
def VS (L : Nat → List Int64) (pm : Nat → Nat) (n : Ln) : Prop := n.1 = 526 → n.2.1 = -2 ∨ ∃ d, n.2.1 = nI d ∧ ix (L 3) n.2.2.2.1 = some d ∧ pm d = n.2.2.1.length - 1
def SXA (x : Cx) (L : Nat → List Int64) (T : List (Nat × Nat)) (pm : Nat → Nat) (G : List Ln) (τ : Nat → Int32) (a : ts) (c q K e : Nat) (aw : Bool) : Prop :=
  (SA x a c ∧ NA a L T ∧ gI a 302 0 = bI aw) ∧ (gI a 214 0 = nI G.length ∧ gI a 217 0 = nI K ∧ gI a 403 0 = nI q) ∧ (q ≤ 250 ∧ G.length + e + 1 ≤ 2 * q + (L 3).length ∧ (opn G).length ≤ q) ∧ (∀ l n, G[l]? = some n → LnA a τ K l n ∧ VS L pm n) ∧ OA a G ∧ ∀ d, d < (L 3).length → gA a 19 d = nI (pm d) ∧ pm d ≤ 8
def SXB (x : Cx) (L : Nat → List Int64) (pm : Nat → Nat) (G : List Ln) (τ : Nat → Int32) (b : ts) (c q K D : Nat) (BK BL : Nat → Int32) (u : Nat) : Prop :=
  (SB x b c ∧ NB b L) ∧ (gI b 1125 0 = nI (G.length + u) ∧ gI b 1139 0 = nI K ∧ gI b 1126 0 = nI q ∧ gI b 1142 0 = nI 0 ∧ gI b 1138 0 = nI D) ∧ (∀ j, j < D → gA b 109 j = BK j ∧ gA b 108 j = BL j) ∧ (∀ l n, G[l]? = some n → KB b (L 0).length (L 1).length K l n ∧ (isJ n.1 = true → ¬ τ l = -2 → gA b 103 l = τ l)) ∧ ∀ d, d < (L 3).length → gA b 96 d = nI (pm d)
theorem SXA_step {x : Cx} {L : Nat → List Int64} {T : List (Nat × Nat)} {pm : Nat → Nat} {G : List Ln} {τ : Nat → Int32} {a a1 : ts} {c c1 q K K1 e : Nat} {aw : Bool} {W : List Nat} (h : SXA x L T pm G τ a c q K e aw) (hf : fr W a a1) (hd : dj [203, 214, 302, 403, 408, 2014, 2015, 2016, 2019, 2022, 2023, 2024, 2025, 2030, 2031, 2032, 3013, 3029] W = true) (ha : SA x a1 c1) (h7 : gI a1 217 0 = nI K1) (hK : K ≤ K1) (ho : ∀ j, j < K → gA a1 26 j = gA a 26 j ∧ gA a1 27 j = gA a 27 j) : SXA x L T pm G τ a1 c1 q K1 e aw := by
  obtain ⟨⟨h1, h2, h3⟩, ⟨h4, h5, h6⟩, h8, h9, h10, h11⟩ := h
  refine ⟨⟨ha, ?_, (hf.1 302 (dj_m hd rfl) 0).trans h3⟩, ⟨(hf.1 214 (dj_m hd rfl) 0).trans h4, h7, (hf.1 403 (dj_m hd rfl) 0).trans h6⟩, h8, fun l n hl => ⟨?_, (h9 l n hl).2⟩, ⟨(hf.1 408 (dj_m hd rfl) 0).trans h10.1, fun i l n hi hl => ?_⟩, fun d hd2 => ⟨(hf.2.1 19 (dj_m hd rfl) d).trans (h11 d hd2).1, (h11 d hd2).2⟩⟩
  · exact ⟨(hf.1 203 (dj_m hd rfl) 0).trans h2.n, fun q hq => (hf.2.1 16 (dj_m hd rfl) q).trans (h2.c q hq), h2.m, fun i y hy => by rw [hf.2.1 14 (dj_m hd rfl), hf.2.1 15 (dj_m hd rfl), hf.2.2.1 13 (dj_m hd rfl)]; exact h2.t i y hy, h2.k, h2.v, h2.e⟩
  · refine LnA_mono (h9 l n hl).1 (hf.2.1 22 (dj_m hd rfl) l) ?_ (hf.2.1 24 (dj_m hd rfl) l) (hf.2.1 25 (dj_m hd rfl) l) hK ho
    rw [hf.2.1 23 (dj_m hd rfl) l, (h9 l n hl).1.2.1]
    by_cases hj : isJ n.1 = true
    · rw [if_pos hj, if_pos hj]
    · rw [if_neg hj, if_neg hj]
  · rw [hf.2.2.1 29 (dj_m hd rfl), hf.2.1 30 (dj_m hd rfl), hf.2.1 31 (dj_m hd rfl), hf.2.1 32 (dj_m hd rfl)]; exact h10.2 i l n hi hl
theorem SXB_step {x : Cx} {L : Nat → List Int64} {pm : Nat → Nat} {G : List Ln} {τ : Nat → Int32} {b b1 : ts} {c c1 q K K1 D u : Nat} {BK BL : Nat → Int32} {W : List Nat} (h : SXB x L pm G τ b c q K D BK BL u) (hf : fr W b b1) (hd : dj [1110, 1113, 1117, 1119, 1123, 3089, 3091, 3094, 3095, 3098, 1125, 1126, 1138, 2096, 2099, 2100, 2101, 2103, 2104, 2105, 2107, 2108, 2109, 3106] W = true) (hb : SB x b1 c1) (h9 : gI b1 1139 0 = nI K1) (hw : gI b1 1142 0 = nI 0) (hK : K ≤ K1) (ho : Kc b b1 K) : SXB x L pm G τ b1 c1 q K1 D BK BL u := by
  obtain ⟨⟨h1, h2⟩, ⟨h3, h4, h5, h6, h7⟩, h8, h10, h11⟩ := h
  have key : ∀ V : List Nat, V.all (fun k => [1110, 1113, 1117, 1119, 1123, 3089, 3091, 3094, 3095, 3098, 1125, 1126, 1138, 2096, 2099, 2100, 2101, 2103, 2104, 2105, 2107, 2108, 2109, 3106].contains k) = true → dj V W = true := fun V hV => List.all_eq_true.mpr (fun k hk => List.all_eq_true.mp hd k (List.contains_iff_mem.mp (List.all_eq_true.mp hV k hk)))
  refine ⟨⟨hb, NB_fr hf (key _ rfl) h2⟩, ⟨(hf.1 1125 (dj_m hd rfl) 0).trans h3, h9, (hf.1 1126 (dj_m hd rfl) 0).trans h5, hw, (hf.1 1138 (dj_m hd rfl) 0).trans h7⟩, fun j hj => ⟨(hf.2.1 109 (dj_m hd rfl) j).trans (h8 j hj).1, (hf.2.1 108 (dj_m hd rfl) j).trans (h8 j hj).2⟩, fun l n hl => ⟨?_, fun z1 z2 => (hf.2.1 103 (dj_m hd rfl) l).trans ((h10 l n hl).2 z1 z2)⟩, fun d hd2 => (hf.2.1 96 (dj_m hd rfl) d).trans (h11 d hd2)⟩
  exact KB_mono (h10 l n hl).1 ⟨hf.2.1 99 (dj_m hd rfl) l, hf.2.1 100 (dj_m hd rfl) l, hf.2.1 101 (dj_m hd rfl) l, hf.2.1 105 (dj_m hd rfl) l, hf.2.1 107 (dj_m hd rfl) l, hf.2.2.1 106 (dj_m hd rfl) l, fun i _ => hf.2.1 104 (dj_m hd rfl) _⟩ ho hK (Nat.le_refl _) (Nat.le_refl _)
