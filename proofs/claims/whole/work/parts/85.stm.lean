/-! A STATEMENT's pieces, side by side. -/
theorem SXA_RX {x : Cx} {L : Nat → List Int64} {T : List (Nat × Nat)} {pm : Nat → Nat} {G : List Ln} {τ : Nat → Int32} {a b : ts} {c q K K' e D u : Nat} {aw : Bool} {BK BL : Nat → Int32} (hA : SXA x L T pm G τ a c q K e aw) (hB : SXB x L pm G τ b c q K' D BK BL u) : RX x L T aw a b c := ⟨hA.1.1, hB.1.1, hA.1.2.1, hB.1.2, hA.1.2.2⟩
theorem exp_sx {x : Cx} (hx : x.Ok) {L : Nat → List Int64} {T : List (Nat × Nat)} {pm : Nat → Nat} {G : List Ln} {τ : Nat → Int32} {a b : ts} {c q K K' e D u : Nat} {aw : Bool} {BK BL : Nat → Int32} (hd : ND L) (hA : SXA x L T pm G τ a c q K e aw) (hB : SXB x L pm G τ b c q K' D BK BL u) (hk : K ≤ x.ps c) (hk' : K' ≤ 2 * x.ps c) : ∃ r a1 b1, clF 200 0 0 a = some (r, a1) ∧ cR_takeExp (bI aw) b = some (nI K', b1) ∧ fr wf_clF a a1 ∧ fr wf_cR_takeExp b b1 ∧ gI b1 1142 0 = nI 0 ∧ (∃ z, z ≤ 8501 ∧ gI b1 1139 0 = nI z) ∧ ((r = 0 ∧ FL a1 b1) ∨ (r = 1 ∧ ∃ c1 F, c < c1 ∧ Wt 103 F ∧ SXA x L T pm G τ a1 c1 q (K + F.length) e aw ∧ OpA a1 K F ∧ SB x b1 c1 ∧ K + F.length ≤ x.ps c1 ∧ (x.kd c1 ≠ 1 → SXB x L pm G τ b1 c1 q (K' + F.length + 1) D BK BL u ∧ OpC b1 K' F ∧ K' + F.length ≤ 2 * x.ps c1))) := by
  have hEA : EA a K (gA a 26) (gA a 27) [] := ⟨by simpa using hA.2.1.2.1, fun j o hj => by simp at hj, fun j _ => ⟨rfl, rfl⟩⟩
  have hEC : EC b K' (gA b 110) (gA b 111) [] := ⟨by simpa using hB.2.1.2.1, fun j o hj => by simp at hj, fun j _ => ⟨rfl, rfl⟩⟩
  obtain ⟨r, a1, b1, h1, h2, h3, h4, h5, h6, h7⟩ := takeExp_ok hx hd (SXA_RX hA hB) hEA hEC hB.2.1.2.2.2.1 hk hk'
  refine ⟨r, a1, b1, h1, h2, h6, h7, h3, h4, ?_⟩
  rcases h5 with h5 | ⟨z1, c1, F, z2, z3, z4, z5, z6, z7, z8, z9⟩
  · exact Or.inl h5
  · refine Or.inr ⟨z1, c1, F, z2, z6, SXA_step hA h6 rfl z3 z5.n (by omega) z5.p, z5.o, z4, z7, fun hk1 => ?_⟩
    obtain ⟨w1, w2, w3, w4⟩ := z9 hk1
    exact ⟨SXB_step hB h7 rfl z4 w1 h3 (by omega) w4, ⟨w2, w3⟩, z8⟩
def LB (b : ts) : Prop := ∃ l, l ≤ 600 ∧ gI b 1125 0 = nI l
theorem LB_fr {W : List Nat} {b b1 : ts} (h : LB b) (hf : fr W b b1) (hd : W.contains 1125 = false) : LB b1 := by
  obtain ⟨l, h1, h2⟩ := h
  exact ⟨l, h1, (hf.1 1125 hd 0).trans h2⟩
theorem SXA_G {x : Cx} {L : Nat → List Int64} {T : List (Nat × Nat)} {pm : Nat → Nat} {G : List Ln} {τ : Nat → Int32} {a : ts} {c q K e : Nat} {aw : Bool} (h : SXA x L T pm G τ a c q K e aw) : G.length + e ≤ 511 := by
  have hL3 : (L 3).length ≤ 12 := h.1.2.1.m 3 (by omega)
  have := h.2.2.1
  omega
/-- the end of a statement: its act, and the sign behind it -/
theorem close_sx {x : Cx} (hx : x.Ok) {L : Nat → List Int64} {T : List (Nat × Nat)} {pm : Nat → Nat} {G : List Ln} {τ τ1 : Nat → Int32} {a a' b : ts} {c q K K' e f D : Nat} {BK BL : Nat → Int32} {n : Ln} {aw : Bool} (hact : cG_addAct (nI n.1) n.2.1 (nI f) a = some (nI G.length, a')) (hA : SXA x L T pm (G ++ [n]) τ1 a' c q K e aw) (hK : K ≤ x.ps c) (hb : SB x b c) (hl : LB b) (hj : isJ n.1 = false) (ht : ∀ k, k < G.length → τ1 k = τ k) (hB : x.kd c ≠ 1 → SXB x L pm G τ b c q K' D BK BL 1 ∧ KB b (L 0).length (L 1).length K' G.length n ∧ K' ≤ 2 * x.ps c + 1) : ∃ r a1 b1, cD_closeStatement (nI n.1) n.2.1 (nI f) a = some (r, a1) ∧ cR_must (nI 59) b = some b1 ∧ LB b1 ∧ fr wf_cR_must b b1 ∧ ((r = 0 ∧ FL a1 b1) ∨ (r = 1 ∧ c < x.m ∧ SXA x L T pm (G ++ [n]) τ1 a1 (c + 1) q K e aw ∧ K ≤ x.ps (c + 1) ∧ SB x b1 (c + 1) ∧ SXB x L pm (G ++ [n]) τ1 b1 (c + 1) q K' D BK BL 0 ∧ K' ≤ 2 * x.ps (c + 1))) := by
  obtain ⟨r, a1, b1, h1, h2, h3, h4, h5⟩ := nm_ok hx hA.1.1 hb (q := 59) (by omega)
  refine ⟨r, a1, b1, ?_, h2, LB_fr hl h5 rfl, h5, ?_⟩
  · unfold cD_closeStatement
    rw [hact, Option.bind_some]
    dsimp only
    rw [show (59 : Int32) = nI 59 from rfl, h1]; rfl
  · rcases h3 with ⟨z1, z2, z3, z4, z5⟩ | ⟨z1, z2, z3⟩
    · have hp := hx.p1 (c := c) (by omega)
      have hcm := z4.l
      obtain ⟨w1, w2, w3⟩ := hB (by omega)
      exact Or.inr ⟨z1, by omega, SXA_tok hA h4 z4, by omega, z5, SXB_tok (SXB_done w1 w2 (fun z => by rw [hj] at z; cases z) ht) h5 z5, by omega⟩
    · exact Or.inl ⟨z1, z3⟩
/-! The first token of a statement. -/
def fs (L : Nat → List Int64) (k : Nat) (w : Int64) : Nat := if k = 2 then (match fv L w with | none => 4 | some _ => 0) else if 516 ≤ k ∧ k ≤ 530 ∧ k ≠ 518 then 0 else 2
theorem fs_lt (L : Nat → List Int64) (k : Nat) (w : Int64) : fs L k w < 5 := by
  unfold fs
  split
  · split <;> omega
  · split <;> omega
theorem faultOfStatement_ok {x : Cx} (hx : x.Ok) {L : Nat → List Int64} {T : List (Nat × Nat)} {a : ts} {c : Nat} (hd : ND L) (ha : SA x a c) (hn : NA a L T) : cD_faultOfStatement a = some (nI (fs L (x.kd c) (x.vl c)), a) := by
  have hlt := hx.lt c
  unfold cD_faultOfStatement
  rw [ha.ki]
  by_cases h2 : x.kd c = 2
  · rw [h2, if_pos (by decide), word_ok hx ha, Option.bind_some]
    dsimp only
    rw [value_ok hn hd, Option.bind_some]
    dsimp only
    unfold fs
    rw [if_pos rfl]
    cases hf : fv L (x.vl c) with
    | none => rw [if_pos (show oi (-2) none = (-2 : Int32) from rfl)]; rfl
    | some k =>
      have := fv_lt hn hf
      rw [if_neg (show ¬ oi (-2) (some k) = (-2 : Int32) from fun z => by
        have e : nI k = -2 := z
        have := nI_pos' (n := k) (by omega); rw [e] at this; exact absurd this (by decide))]
      rfl
  · rw [if_neg (show ¬ nI (x.kd c) = (2 : Int32) from fun z => h2 (nI_inj (a := x.kd c) (b := 2) (by omega) (by decide) z))]
    unfold fs
    rw [if_neg h2]
    by_cases h5 : x.kd c < 516
    · rw [if_pos (show nI (x.kd c) < (516 : Int32) from nI_lt (b := 516) h5 (by decide)), if_neg (by omega)]; rfl
    · rw [if_neg (show ¬ nI (x.kd c) < (516 : Int32) from nI_nlt (b := 516) (by omega) (by omega))]
      by_cases h6 : 530 < x.kd c
      · rw [if_pos (show (530 : Int32) < nI (x.kd c) from nI_lt (a := 530) h6 (by omega)), if_neg (by omega)]; rfl
      · rw [if_neg (show ¬ (530 : Int32) < nI (x.kd c) from nI_nlt (a := 530) (by omega) (by decide))]
        by_cases h8 : x.kd c = 518
        · rw [h8, if_pos (by decide), if_neg (by omega)]; rfl
        · rw [if_neg (show ¬ nI (x.kd c) = (518 : Int32) from fun z => h8 (nI_inj (a := x.kd c) (b := 518) (by omega) (by decide) z)), if_pos ⟨by omega, by omega, h8⟩]; rfl
def fsq (L : Nat → List Int64) (k : Nat) (w : Int64) (q : Nat) : Nat := if fs L k w = 0 then (if q < 250 then 0 else 5) else fs L k w
theorem fsq_lt (L : Nat → List Int64) (k : Nat) (w : Int64) (q : Nat) : fsq L k w q < 6 := by
  have := fs_lt L k w
  unfold fsq
  split
  · split <;> omega
  · omega
theorem readStatement_pre {x : Cx} (hx : x.Ok) {L : Nat → List Int64} {T : List (Nat × Nat)} {a : ts} {c q : Nat} {rc : Nat → Int32 → ts → Option (Int32 × ts)} {d : Int32} (hd : ND L) (ha : SA x a c) (hn : NA a L T) (hq : gI a 403 0 = nI q) (hq2 : q ≤ 250) : cD_readStatement rc d a = cD_readStatement_21 rc d (nI (fsq L (x.kd c) (x.vl c) q)) a := by
  have hlt := fs_lt L (x.kd c) (x.vl c)
  unfold cD_readStatement
  rw [faultOfStatement_ok hx hd ha hn, Option.bind_some]
  dsimp only
  unfold fsq
  by_cases h : fs L (x.kd c) (x.vl c) = 0
  · rw [h, if_pos (by decide), if_pos rfl, hq]
    by_cases h2 : q < 250
    · rw [if_pos (show nI q < (250 : Int32) from nI_lt (b := 250) h2 (by decide)), if_pos h2]
    · rw [if_neg (show ¬ nI q < (250 : Int32) from nI_nlt (b := 250) (by omega) (by omega)), if_neg h2]; rfl
  · rw [if_neg (show ¬ nI (fs L (x.kd c) (x.vl c)) = (0 : Int32) from fun z => h (nI_inj (a := fs L (x.kd c) (x.vl c)) (b := 0) (by omega) (by decide) z)), if_neg h]
/-- the reference's first steps into a statement -/
theorem takeStatement_pre {x : Cx} (hx : x.Ok) {L : Nat → List Int64} {b : ts} {c q : Nat} (hm : ∀ k, k < 5 → (L k).length ≤ nmx k) (hb : SB x b c) (hn : NB b L) (h1 : x.kd c ≠ 1) (hq : gI b 1126 0 = nI q) (hq2 : q ≤ 250) : cR_takeStatement b = if fsq L (x.kd c) (x.vl c) q = 0 then cR_takeStatement_116 (rvI (x.kd c)) (bI (Nat.beq (x.kd c) 2)) 1 b else cR_need 0 (nI (fsq L (x.kd c) (x.vl c) q)) b := by
  have hlt := hx.lt c
  have hg := hb.g h1
  have hm4 : (L 4).length ≤ 8 := hm 4 (by omega)
  have hm2 : (L 2).length ≤ 16 := hm 2 (by omega)
  have x2 : gI b 1106 0 = nI (rt (x.kd c)) := (hb.nx.2 h1).2.1
  obtain ⟨r1, r2, r3, r4, r5, r6⟩ := rt_tab _ hlt (x.kv c) h1
  have e1 : gI b 1106 0 = 1 ↔ x.kd c = 2 ∨ 512 ≤ x.kd c := by
    rw [x2, ← r1]
    exact ⟨fun z => nI_inj (a := rt (x.kd c)) (b := 1) (by omega) (by decide) z, fun z => by rw [z]; rfl⟩
  have hres : cR_reserved b = some (rvI (x.kd c), b) := reserved_ok hb.w hx.r hb.nx h1
  -- behind a fault
  have bad : ∀ (y : Int32) (l1 l2 : Int32), ¬ y = 0 → ∃ bf, cR_need 0 y b = some bf ∧ ¬ gI bf 1103 0 = 0 ∧ ∀ t, cR_takeStatement_116 l1 l2 t bf = some bf := by
    intro y l1 l2 hy
    refine ⟨_, need_f hg, ?_, ?_⟩
    · rw [gI_wIn (by decide), gI_wIs]; exact hy
    · intro t
      have hbf : ¬ gI (wI (wI b 1103 0 y) 1104 0 (gI b 1107 0)) 1103 0 = 0 := by rw [gI_wIn (by decide), gI_wIs]; exact hy
      unfold cR_takeStatement_116
      rw [limit_bad hbf, Option.bind_some, good_f hbf, Option.bind_some]; rfl
  have e100 : ∀ l1 l2 : Int32, cR_takeStatement_100 l1 l2 b = if q < 250 then cR_takeStatement_116 l1 l2 1 b else cR_need 0 5 b := by
    intro l1 l2
    unfold cR_takeStatement_100
    rw [hq]
    by_cases h2 : q < 250
    · rw [if_neg (show ¬ (250 : Int32) ≤ nI q from nI_ge (b := 250) h2 (by decide)), if_pos h2]
    · rw [if_pos (show (250 : Int32) ≤ nI q from nI_le (a := 250) (by omega) (by omega)), if_neg h2]
      obtain ⟨bf, f1, f2, f3⟩ := bad 5 l1 l2 (by decide)
      unfold cR_takeStatement_116 cR_limit
      rw [good_t hg, Option.bind_some]
      dsimp only
      rw [if_neg (by decide), f1, Option.bind_some, Option.bind_some, good_f f2, Option.bind_some]; rfl
  have bad100 : ∀ (bf : ts) (l1 l2 : Int32), (∀ t, cR_takeStatement_116 l1 l2 t bf = some bf) → cR_takeStatement_100 l1 l2 bf = some bf := by
    intro bf l1 l2 h
    unfold cR_takeStatement_100
    rw [h, h]; split <;> rfl
  have bad51 : ∀ l1 l2 : Int32, cR_takeStatement_51 l1 l2 0 b = cR_need 0 2 b := by
    intro l1 l2
    obtain ⟨bf, f1, f2, f3⟩ := bad 2 l1 l2 (by decide)
    unfold cR_takeStatement_51
    rw [f1, Option.bind_some, good_f f2, Option.bind_some]
    dsimp only
    rw [if_pos rfl, bad100 bf l1 l2 f3]
  have goodF : fs L (x.kd c) (x.vl c) = 0 → ∀ l1 l2 : Int32, cR_takeStatement_100 l1 l2 b = if fsq L (x.kd c) (x.vl c) q = 0 then cR_takeStatement_116 l1 l2 1 b else cR_need 0 (nI (fsq L (x.kd c) (x.vl c) q)) b := by
    intro hz l1 l2
    rw [e100]
    by_cases h2 : q < 250
    · have : fsq L (x.kd c) (x.vl c) q = 0 := by unfold fsq; rw [if_pos hz, if_pos h2]
      rw [if_pos h2, this, if_pos rfl]
    · have : fsq L (x.kd c) (x.vl c) q = 5 := by unfold fsq; rw [if_pos hz, if_neg h2]
      rw [if_neg h2, this, if_neg (by decide)]; rfl
  have badF : ∀ (y : Nat) (X : Option ts), fs L (x.kd c) (x.vl c) = y → ¬ y = 0 → (if fsq L (x.kd c) (x.vl c) q = 0 then X else cR_need 0 (nI (fsq L (x.kd c) (x.vl c) q)) b) = cR_need 0 (nI y) b := by
    intro y X h1 h2
    have : fsq L (x.kd c) (x.vl c) q = y := by unfold fsq; rw [h1, if_neg h2]
    rw [this, if_neg h2]
  unfold cR_takeStatement
  rw [hres, Option.bind_some]
  dsimp only
  by_cases hk2 : x.kd c = 2
  · -- a word
    have hwd : gJ b 1108 0 = x.vl c := (hb.nx.2 h1).2.2.2.2.1 (Or.inl hk2)
    have hrv : rvI (x.kd c) = -1 := by rw [hk2]; rfl
    rw [if_pos (e1.mpr (Or.inl hk2)), if_pos hrv]
    unfold cR_takeStatement_23
    rw [if_neg (by decide)]
    unfold cR_takeStatement_51
    rw [need_t, Option.bind_some, good_t hg, Option.bind_some]
    dsimp only
    rw [if_neg (by decide), if_neg (by decide), hwd, findLocal_ok hm4 hn.v, Option.bind_some]
    dsimp only
    have hb2 : bI (Nat.beq (x.kd c) 2) = 1 := by rw [hk2]; rfl
    rw [hb2]
    have e96 : ∀ l1 l2 : Int32, cR_takeStatement_96 l1 l2 0 b = cR_need 0 4 b := by
      intro l1 l2
      obtain ⟨bf, f1, f2, f3⟩ := bad 4 l1 l2 (by decide)
      unfold cR_takeStatement_96
      rw [f1, Option.bind_some, bad100 bf l1 l2 f3]
    have e96t : ∀ l1 l2 : Int32, cR_takeStatement_96 l1 l2 1 b = cR_takeStatement_100 l1 l2 b := by
      intro l1 l2
      unfold cR_takeStatement_96
      rw [need_t, Option.bind_some]
    cases hi : ix (L 4) (x.vl c) with
    | some r =>
      have hr := (ix_some hi).2
      have hz : fs L (x.kd c) (x.vl c) = 0 := by unfold fs fv; rw [if_pos hk2, hi]
      rw [if_neg (show ¬ oi (-1) (some r) = (-1 : Int32) from fun z => by
        have e : nI r = -1 := z
        have := nI_pos' (n := r) (by omega); rw [e] at this; exact absurd this (by decide)), e96t, goodF hz]
    | none =>
      rw [if_pos (show oi (-1) none = (-1 : Int32) from rfl), hwd, findNumber_ok hm2 hn.n, Option.bind_some]
      dsimp only
      cases hi2 : ix (L 2) (x.vl c) with
      | some r =>
        have hr := (ix_some hi2).2
        have hz : fs L (x.kd c) (x.vl c) = 0 := by unfold fs fv; rw [if_pos hk2, hi, hi2]; rfl
        rw [if_neg (show ¬ oi (-1) (some r) = (-1 : Int32) from fun z => by
          have e : nI r = -1 := z
          have := nI_pos' (n := r) (by omega); rw [e] at this; exact absurd this (by decide)), e96t, goodF hz]
      | none =>
        have hz : fs L (x.kd c) (x.vl c) = 4 := by unfold fs fv; rw [if_pos hk2, hi, hi2]; rfl
        rw [if_pos (show oi (-1) none = (-1 : Int32) from rfl), e96, badF 4 _ hz (by decide)]; rfl
  · have hb2 : bI (Nat.beq (x.kd c) 2) = 0 := by
      have : Nat.beq (x.kd c) 2 = false := by
        cases hh : Nat.beq (x.kd c) 2 with
        | false => rfl
        | true => exact absurd (Nat.eq_of_beq_eq_true hh) hk2
      rw [this]; rfl
    rw [hb2]
    have e23 : cR_takeStatement_23 (rvI (x.kd c)) 0 b = if fsq L (x.kd c) (x.vl c) q = 0 then cR_takeStatement_116 (rvI (x.kd c)) 0 1 b else cR_need 0 (nI (fsq L (x.kd c) (x.vl c) q)) b := by
      unfold cR_takeStatement_23
      rw [if_pos (show (0 : Int32) = 0 from rfl)]
      by_cases h5 : 512 ≤ x.kd c
      · have hrv : rvI (x.kd c) = nI (x.kd c - 512) := if_pos h5
        rw [hrv]
        by_cases hok : 516 ≤ x.kd c ∧ x.kd c ≤ 530 ∧ x.kd c ≠ 518
        · have hz : fs L (x.kd c) (x.vl c) = 0 := by unfold fs; rw [if_neg hk2, if_pos hok]
          rw [if_neg (show ¬ nI (x.kd c - 512) < (4 : Int32) from nI_nlt (b := 4) (by omega) (by omega)), if_neg (show ¬ (18 : Int32) < nI (x.kd c - 512) from nI_nlt (a := 18) (by omega) (by decide)), if_neg (show ¬ nI (x.kd c - 512) = (6 : Int32) from fun z => by have := nI_inj (a := x.kd c - 512) (b := 6) (by omega) (by decide) z; omega)]
          unfold cR_takeStatement_51
          rw [need_t, Option.bind_some, good_t hg, Option.bind_some]
          dsimp only
          rw [if_neg (by decide), if_pos rfl, goodF hz]
        · have hz : fs L (x.kd c) (x.vl c) = 2 := by unfold fs; rw [if_neg hk2, if_neg hok]
          rw [badF 2 _ hz (by decide), bad51]
          by_cases g1 : x.kd c < 516
          · rw [if_pos (show nI (x.kd c - 512) < (4 : Int32) from nI_lt (b := 4) (by omega) (by decide))]; rfl
          · rw [if_neg (show ¬ nI (x.kd c - 512) < (4 : Int32) from nI_nlt (b := 4) (by omega) (by omega))]
            by_cases g2 : 530 < x.kd c
            · rw [if_pos (show (18 : Int32) < nI (x.kd c - 512) from nI_lt (a := 18) (by omega) (by omega))]; rfl
            · rw [if_neg (show ¬ (18 : Int32) < nI (x.kd c - 512) from nI_nlt (a := 18) (by omega) (by decide))]
              have g3 : x.kd c = 518 := by omega
              rw [g3, if_pos (by decide)]; rfl
      · have hrv : rvI (x.kd c) = -1 := if_neg h5
        have hz : fs L (x.kd c) (x.vl c) = 2 := by unfold fs; rw [if_neg hk2, if_neg (by omega)]
        rw [hrv, if_pos (by decide), bad51, badF 2 _ hz (by decide)]; rfl
    by_cases h5 : 512 ≤ x.kd c
    · have hrv : rvI (x.kd c) = nI (x.kd c - 512) := if_pos h5
      rw [if_pos (e1.mpr (Or.inr h5)), if_neg (show ¬ rvI (x.kd c) = (-1 : Int32) from fun z => by
        rw [hrv] at z
        have := nI_pos' (n := x.kd c - 512) (by omega); rw [z] at this; exact absurd this (by decide)), e23]
    · rw [if_neg (fun z => by have := e1.mp z; omega), e23]
