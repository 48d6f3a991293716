/-! STATEMENTS of one line: what comes out of them; and the plain ones. -/
def Lv (L : Nat → List Int64) (V : List Int64) : Nat → List Int64 := fun k => if k = 4 then L 4 ++ V else L k
theorem Lv_nil (L : Nat → List Int64) : Lv L [] = L := by
  funext k
  unfold Lv
  by_cases h : k = 4
  · rw [if_pos h, List.append_nil, h]
  · rw [if_neg h]
theorem Lv_app (L : Nat → List Int64) (V V1 : List Int64) : Lv (Lv L V) V1 = Lv L (V ++ V1) := by
  funext k
  unfold Lv
  by_cases h : k = 4
  · rw [if_pos h, if_pos rfl, if_pos h, List.append_assoc]
  · rw [if_neg h, if_neg h, if_neg h]
def mv (p : Nat) (H : List Ln) : Nat := H.foldl (fun m n => if n.1 = 1 ∧ n.2.1 < 8 then max m (n.2.1.toNatClampNeg + 1) else m) p
theorem mv_app (p : Nat) (H H1 : List Ln) : mv p (H ++ H1) = mv (mv p H) H1 := List.foldl_append
def TGd (g : Nat) (H : List Ln) (τ : Nat → Int32) : Prop := ∀ i n, H[i]? = some n → isJ n.1 = true → ∃ t, τ (g + i) = nI t ∧ ((g + i < t ∧ t ≤ g + H.length) ∨ (n.1 = 2 ∧ ∃ i' n', t = g + i' ∧ i' < i ∧ H[i']? = some n' ∧ n'.1 = 519))
def wSt : List Nat := 2103 :: wf_cR_takeStatement
def OutT (x : Cx) (L : Nat → List Int64) (T : List (Nat × Nat)) (pm : Nat → Nat) (G : List Ln) (τ : Nat → Int32) (e D : Nat) (BK BL : Nat → Int32) (b : ts) (c j : Nat) (r : Int32) (a1 b1 : ts) : Prop :=
  LB b1 ∧ fr wSt b b1 ∧ ((r = 0 ∧ FL a1 b1 ∧ j + c ≤ x.m + 1) ∨ (r = 1 ∧ ∃ c1 V H τ1 q1 K1, c < c1 ∧ j + c ≤ c1 ∧ SXA x (Lv L V) T pm (G ++ H) τ1 a1 c1 q1 K1 e false ∧ K1 ≤ x.ps c1 ∧ SB x b1 c1 ∧ (∀ k, k < G.length → τ1 k = τ k) ∧ TGd G.length H τ1 ∧ (∀ n, n ∈ H → n.1 ≠ 3) ∧ mv (L 4).length H = (Lv L V 4).length ∧ ND (Lv L V) ∧ (x.kd c1 ≠ 1 → ∃ K1', SXB x (Lv L V) pm (G ++ H) τ1 b1 c1 q1 K1' D BK BL 0 ∧ K1' ≤ 2 * x.ps c1)))
theorem TGd_one {g : Nat} {n : Ln} {τ : Nat → Int32} (hj : isJ n.1 = false) : TGd g [n] τ := by
  intro i m hi hm
  cases i with
  | zero =>
    have : m = n := (Option.some.inj hi).symm
    rw [this, hj] at hm; cases hm
  | succ k => simp at hi
theorem OutT_one {x : Cx} {L : Nat → List Int64} {T : List (Nat × Nat)} {pm : Nat → Nat} {G : List Ln} {τ τ1 : Nat → Int32} {e D : Nat} {BK BL : Nat → Int32} {b a1 b1 : ts} {c c2 q1 K K' : Nat} {r : Int32} {n : Ln} {V : List Int64} (hl : LB b1) (hf : fr wSt b b1) (h : (r = 0 ∧ FL a1 b1) ∨ (r = 1 ∧ c2 < x.m ∧ SXA x (Lv L V) T pm (G ++ [n]) τ1 a1 (c2 + 1) q1 K e false ∧ K ≤ x.ps (c2 + 1) ∧ SB x b1 (c2 + 1) ∧ SXB x (Lv L V) pm (G ++ [n]) τ1 b1 (c2 + 1) q1 K' D BK BL 0 ∧ K' ≤ 2 * x.ps (c2 + 1))) (hc : c ≤ c2) (hcm : c ≤ x.m) (hj : isJ n.1 = false) (h3 : n.1 ≠ 3) (hmv : mv (L 4).length [n] = (Lv L V 4).length) (hnd : ND (Lv L V)) (ht : ∀ k, k < G.length → τ1 k = τ k) : OutT x L T pm G τ e D BK BL b c 1 r a1 b1 := by
  refine ⟨hl, hf, ?_⟩
  rcases h with ⟨z1, z2⟩ | ⟨z1, z2, z3, z4, z5, z6, z7⟩
  · exact Or.inl ⟨z1, z2, by omega⟩
  · refine Or.inr ⟨z1, c2 + 1, V, [n], τ1, q1, K, by omega, by omega, z3, z4, z5, ht, TGd_one hj, ?_, hmv, hnd, fun _ => ⟨K', z6, z7⟩⟩
    intro m hm
    have : m = n := by simpa using hm
    rw [this]; exact h3
theorem OutT_bad {x : Cx} {L : Nat → List Int64} {T : List (Nat × Nat)} {pm : Nat → Nat} {G : List Ln} {τ : Nat → Int32} {e D : Nat} {BK BL : Nat → Int32} {b a1 b1 : ts} {c : Nat} (hl : LB b1) (hf : fr wSt b b1) (h : FL a1 b1) (hcm : c ≤ x.m) : OutT x L T pm G τ e D BK BL b c 1 0 a1 b1 := ⟨hl, hf, Or.inl ⟨rfl, h, by omega⟩⟩
theorem bind_eta {o : Option (Int32 × ts)} : (o.bind (fun y => some (y.1, y.2))) = o := by cases o <;> rfl
theorem bind_eta1 {o : Option ts} : (o.bind (fun y => some y)) = o := by cases o <;> rfl
/-- the program's choice by the first token -/
def stK (rc : Nat → Int32 → ts → Option (Int32 × ts)) (d : Int32) (k : Nat) (w : Int64) (s5 : ts) : Option (Int32 × ts) := if k = 2 then (cT_need 61 s5).bind (fun x9 => if x9.1 = 0 then some (0, x9.2) else (cG_findValue w x9.2).bind (fun x12 => (cD_readPlain 1 x12.1 x12.2).bind (fun x15 => if x15.1 = 0 then some (0, x15.2) else some (1, x15.2)))) else if k = 516 then cD_readLet s5 else if k = 517 then rc 2 d s5 else if k = 519 then rc 3 d s5 else if k = 521 then cD_readUse (nI k) 1 s5 else if k = 522 then cD_readUse (nI k) 1 s5 else if k = 523 then cD_readUse (nI k) 0 s5 else if k = 524 then cD_readUse (nI k) 0 s5 else if k = 526 then cD_readStart s5 else if k = 530 then cD_closeStatement (nI k) (-2) (gI s5 217 0) s5 else cD_readPlain (nI k) (-2) s5
theorem kI {k : Nat} (hk : k < 600) (m : Nat) (hm : m < 600) : (nI k = nI m) = (k = m) := propext (nI_eq (by omega) (by omega))
theorem st21 {x : Cx} (hx : x.Ok) {a : ts} {c q : Nat} {rc : Nat → Int32 → ts → Option (Int32 × ts)} {d : Int32} (ha : SA x a c) (hq : gI a 403 0 = nI q) (hc : c < x.m) : cD_readStatement_21 rc d (nI 0) a = stK rc d (x.kd c) (x.vl c) (av x (wI a 403 0 (nI (q + 1))) (c + 1)) ∧ SA x (av x (wI a 403 0 (nI (q + 1))) (c + 1)) (c + 1) := by
  have hlt := hx.lt c
  have e0 : gI a 403 0 + 1 = nI (q + 1) := by rw [hq]; exact nI_add q 1
  have hf : fr [403] a (wI a 403 0 (nI (q + 1))) := fr_wI fr_rf rfl
  have ha1 := SA_fr hf rfl ha
  obtain ⟨v1, v2⟩ := adv_ok hx ha1 hc
  refine ⟨?_, v2⟩
  unfold cD_readStatement_21
  rw [if_pos (show nI 0 = (0 : Int32) from rfl), e0, word_ok hx ha1, Option.bind_some]
  dsimp only
  rw [v1, Option.bind_some, ha1.ki]
  unfold stK
  simp only [bind_eta]
  have e2 : (nI (x.kd c) = (2 : Int32)) = (x.kd c = 2) := kI hlt 2 (by omega)
  have e516 : (nI (x.kd c) = (516 : Int32)) = (x.kd c = 516) := kI hlt 516 (by omega)
  have e517 : (nI (x.kd c) = (517 : Int32)) = (x.kd c = 517) := kI hlt 517 (by omega)
  have e519 : (nI (x.kd c) = (519 : Int32)) = (x.kd c = 519) := kI hlt 519 (by omega)
  have e521 : (nI (x.kd c) = (521 : Int32)) = (x.kd c = 521) := kI hlt 521 (by omega)
  have e522 : (nI (x.kd c) = (522 : Int32)) = (x.kd c = 522) := kI hlt 522 (by omega)
  have e523 : (nI (x.kd c) = (523 : Int32)) = (x.kd c = 523) := kI hlt 523 (by omega)
  have e524 : (nI (x.kd c) = (524 : Int32)) = (x.kd c = 524) := kI hlt 524 (by omega)
  have e526 : (nI (x.kd c) = (526 : Int32)) = (x.kd c = 526) := kI hlt 526 (by omega)
  have e530 : (nI (x.kd c) = (530 : Int32)) = (x.kd c = 530) := kI hlt 530 (by omega)
  simp only [e2, e516, e517, e519, e521, e522, e523, e524, e526, e530]
/-- the program's side when a statement begins -/
theorem SXA_begin {x : Cx} {L : Nat → List Int64} {T : List (Nat × Nat)} {pm : Nat → Nat} {G : List Ln} {τ : Nat → Int32} {a : ts} {c q K e : Nat} {aw : Bool} (h : SXA x L T pm G τ a c q K e aw) (hq : q < 250) (hs : SA x (av x (wI a 403 0 (nI (q + 1))) (c + 1)) (c + 1)) : SXA x L T pm G τ (av x (wI a 403 0 (nI (q + 1))) (c + 1)) (c + 1) (q + 1) K (e + 2) aw := SXA_tok (SXA_q h hq) (fr_mono (by decide +kernel) fr_av) hs
/-- the reference's side -/
theorem SXB_begin {x : Cx} (hx : x.Ok) {L : Nat → List Int64} {pm : Nat → Nat} {G : List Ln} {τ : Nat → Int32} {b : ts} {c q K D : Nat} {BK BL : Nat → Int32} (h : SXB x L pm G τ b c q K D BK BL 0) (hG : G.length < 600) (h5 : 512 ≤ x.kd c) : ∃ b1, cR_takeStatement_116 (rvI (x.kd c)) (bI (Nat.beq (x.kd c) 2)) 1 b = cR_takeRest (nI G.length) (nI (x.kd c - 512)) b1 ∧ SXB x L pm G τ b1 (c + 1) (q + 1) K D BK BL 1 ∧ gA b1 99 G.length = nI (x.kd c - 512) ∧ gA b1 101 G.length = -1 ∧ gA b1 105 G.length = nI 0 ∧ fr wSt b b1 := by
  have hlt := hx.lt c
  have hg := h.1.1.g (by omega)
  have hrv : rvI (x.kd c) = nI (x.kd c - 512) := if_pos h5
  have hb2 : bI (Nat.beq (x.kd c) 2) = 0 := by
    have : Nat.beq (x.kd c) 2 = false := by
      cases hh : Nat.beq (x.kd c) 2 with
      | false => rfl
      | true => have := Nat.eq_of_beq_eq_true hh; omega
    rw [this]; rfl
  have e0 : gI b 1126 0 + 1 = nI (q + 1) := by rw [h.2.1.2.2.1]; exact nI_add q 1
  obtain ⟨b1, l1, l2, l3, l4, l5, l6⟩ := line_sx (SXB_q h) (by omega) (nI (x.kd c - 512))
  obtain ⟨b2, n1, n2, n3⟩ := nxt_ok hx l2.1.1 (by omega)
  refine ⟨b2, ?_, SXB_tok l2 n3 n2, (n3.2.1 99 rfl _).trans l3, (n3.2.1 101 rfl _).trans l4, (n3.2.1 105 rfl _).trans l5, fr_tr (fr_tr (fr_wI fr_rf (by decide +kernel)) (fr_mono (by decide +kernel) l6)) (fr_mono (by decide +kernel) n3)⟩
  unfold cR_takeStatement_116 cR_limit
  rw [good_t hg, Option.bind_some]
  dsimp only
  rw [if_neg (by decide), need_t, Option.bind_some, Option.bind_some, good_t hg, Option.bind_some]
  dsimp only
  rw [if_neg (by decide), hb2, if_pos rfl, e0, hrv, l1, Option.bind_some]
  dsimp only
  rw [n1, Option.bind_some, bind_eta1]
theorem SXB_LB {x : Cx} {L : Nat → List Int64} {pm : Nat → Nat} {G : List Ln} {τ : Nat → Int32} {b : ts} {c q K D u : Nat} {BK BL : Nat → Int32} (h : SXB x L pm G τ b c q K D BK BL u) (hG : G.length + u ≤ 600) : LB b := ⟨_, hG, h.2.1.1⟩
