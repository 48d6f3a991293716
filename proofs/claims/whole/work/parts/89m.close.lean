/-! Starts of processes that were told later. -/
def opf : List Ln → Nat → List Nat
  | [], _ => []
  | n :: r, l => if pnd n = true then l :: opf r (l + 1) else opf r (l + 1)
theorem opn_opf (R : List Ln) : ∀ l, ((R.zipIdx l).filter (fun p => pnd p.1)).map (fun p => p.2) = opf R l := by
  induction R with
  | nil => intro l; rfl
  | cons n r ih =>
    intro l
    rw [List.zipIdx_cons, opf.eq_2]
    by_cases h : pnd n = true
    · rw [List.filter_cons_of_pos (a := (n, l)) (p := fun p => pnd p.1) h, if_pos h, List.map_cons, ih]
    · rw [List.filter_cons_of_neg (a := (n, l)) (p := fun p => pnd p.1) h, if_neg h, ih]
theorem wt_len {g : Nat} {E : List Op1} (h : Wt g E) : 1 ≤ E.length := by
  refine h (fun _ E => 1 ≤ E.length) ⟨fun _ _ _ _ => Nat.le_refl _, fun _ _ E _ hE => ?_, fun _ _ _ E F _ _ hE _ _ => ?_, fun _ _ E F _ hE _ => ?_⟩
  · simp only [List.length_append] at *; omega
  · simp only [List.length_append] at *; omega
  · simp only [List.length_append] at *; omega
theorem flat_len : ∀ (A : List (List Op1)), (∀ F, F ∈ A → 1 ≤ F.length) → A.length ≤ A.flatten.length := by
  intro A
  induction A with
  | nil => intro _; exact Nat.le_refl _
  | cons E r ih =>
    intro h
    have h1 := h E (List.mem_cons_self ..)
    have h2 := ih (fun F hF => h F (List.mem_cons_of_mem _ hF))
    rw [List.flatten_cons, List.length_append, List.length_cons]; omega
theorem KB_14 {b : ts} {nr ns K l : Nat} {n : Ln} (h : KB b nr ns K l n) : gA b 99 l = 14 ↔ n.1 = 526 := by
  have key : ∀ m : Nat, m < 600 → gA b 99 l = nI m → (gA b 99 l = 14 ↔ m = 14) := by
    intro m hm e
    rw [e]
    exact ⟨fun z => nI_inj (a := m) (b := 14) (by omega) (by decide) z, fun z => by rw [z]; rfl⟩
  rcases h with h | h | h | h | h | h | h | h | h
  · obtain ⟨h1, ⟨v, h2, h3, h4, h5⟩, h6⟩ := h
    rw [key _ (by split <;> omega) h4]
    split <;> omega
  · rw [key _ (by omega) h.2.2]; omega
  · rw [key _ (by omega) h.2.2]; omega
  · rw [key _ (by omega) h.2.1]; omega
  · rw [key _ (by omega) h.2.1]; omega
  · rw [key _ (by omega) h.2.1]; omega
  · rw [key _ (by omega) h.2.1]; omega
  · rw [key _ (by omega) h.2.1]; omega
  · rw [key _ (by omega) h.2.1]; omega
theorem bad163 {b : ts} {F : Nat} {v : Int32} (h : ¬ gI b 1103 0 = 0) : cR_load_163 (F + 1) v b = cR_load_245 b := by
  rw [cR_load_163.eq_2]
  unfold cR_load_163_b
  rw [good_f h, Option.bind_some]
  dsimp only
  rw [if_pos (show (0 : Int32) = 0 from rfl)]
  split <;> rfl
theorem close_lp {x : Cx} (hx : x.Ok) {L : Nat → List Int64} {T : List (Nat × Nat)} {pm en vc un rm : Nat → Nat} {G : List Ln} {τ : Nat → Int32} {a0 b0 : ts} {c q K K' : Nat} (hd : ND L) (hA : IXA x L T pm en vc un rm G τ a0 c q K) (hB : IXB x L pm en un rm G τ b0 c q K') (hg0 : gI b0 1103 0 = 0) : ∀ (R : List Ln) (l i F F' : Nat) (a b : ts), G.drop l = R → l ≤ G.length → (opn G).drop i = opf R l → i ≤ (opn G).length → R.length < F → R.length < F' → fr [2023] a0 a → (∀ (k : Nat) (n : Ln), G[k]? = some n → gA a 23 k = if k < l ∧ n.1 = 526 then oi (-2) (ix (L 3) n.2.2.2.1) else gA a0 23 k) → fr [2100] b0 b → (∀ (k : Nat) (n : Ln), G[k]? = some n → gA b 100 k = if k < l ∧ n.1 = 526 then oi (-1) (ix (L 3) n.2.2.2.1) else gA b0 100 k) → (∀ (k : Nat) (n : Ln), k < l → G[k]? = some n → n.1 = 526 → ∃ d, ix (L 3) n.2.2.2.1 = some d ∧ pm d + 1 = n.2.2.1.length) → ∃ r a1 b1, cD_closeStarts_2 F (nI i) a = some (r, a1) ∧ cR_load_163 F' (nI l) b = cR_load_245 b1 ∧ ((r = 0 ∧ FL a1 b1) ∨ (r = 1 ∧ gI b1 1103 0 = 0 ∧ fr [2023] a0 a1 ∧ (∀ (k : Nat) (n : Ln), G[k]? = some n → gA a1 23 k = if n.1 = 526 then oi (-2) (ix (L 3) n.2.2.2.1) else gA a0 23 k) ∧ fr [2100] b0 b1 ∧ (∀ (k : Nat) (n : Ln), G[k]? = some n → gA b1 100 k = if n.1 = 526 then oi (-1) (ix (L 3) n.2.2.2.1) else gA b0 100 k) ∧ ∀ (k : Nat) (n : Ln), G[k]? = some n → n.1 = 526 → ∃ d, ix (L 3) n.2.2.2.1 = some d ∧ pm d + 1 = n.2.2.1.length)) := by
  have hG := IXA_G hA
  have hL3 : (L 3).length ≤ 12 := hA.1.2.1.m 3 (by omega)
  have hOA := hA.2.2.2.2.1
  have hq := hA.2.2.1
  intro R
  induction R with
  | nil =>
    intro l i F F' a b h1 h2 h3 h3' h4 h5 fa ha fb hb hv
    have hl : l = G.length := by
      have := congrArg List.length h1
      rw [List.length_drop] at this
      have this : G.length - l = 0 := this
      omega
    have hi : i = (opn G).length := by
      have := congrArg List.length h3
      rw [List.length_drop] at this
      have this : (opn G).length - i = 0 := this
      omega
    have hF0 : ∃ F0, F = F0 + 1 := ⟨F - 1, by have : ([] : List Ln).length = 0 := rfl; omega⟩
    obtain ⟨F0, hF0⟩ := hF0
    have hF1 : ∃ F1, F' = F1 + 1 := ⟨F' - 1, by have : ([] : List Ln).length = 0 := rfl; omega⟩
    obtain ⟨F1, hF1⟩ := hF1
    refine ⟨1, a, b, ?_, ?_, Or.inr ⟨rfl, (fb.1 1103 rfl 0).trans hg0, fa, fun k n hk => ?_, fb, fun k n hk => ?_, fun k n hk => ?_⟩⟩
    · rw [hF0, cD_closeStarts_2.eq_2]
      unfold cD_closeStarts_2_b
      rw [fa.1 408 rfl, hOA.1, hi, if_pos (nI_le (Nat.le_refl _) (by omega))]
    · rw [hF1, cR_load_163.eq_2]
      unfold cR_load_163_b
      rw [fb.1 1125 rfl, hB.2.1.1, hl, if_pos (nI_le (Nat.le_refl _) (by omega))]
    · have := getE_lt hk
      rw [ha k n hk]
      by_cases e : n.1 = 526
      · rw [if_pos ⟨by omega, e⟩, if_pos e]
      · rw [if_neg (fun z => e z.2), if_neg e]
    · have := getE_lt hk
      rw [hb k n hk]
      by_cases e : n.1 = 526
      · rw [if_pos ⟨by omega, e⟩, if_pos e]
      · rw [if_neg (fun z => e z.2), if_neg e]
    · exact hv k n (by have := getE_lt hk; omega) hk
  | cons n R ih =>
    intro l i F F' a b h1 h2 h3 h3' h4 h5 fa ha fb hb hv
    have hlen : l < G.length := by
      have := congrArg List.length h1
      rw [List.length_drop, List.length_cons] at this
      omega
    have hGl : G[l]? = some n := by
      have : (G.drop l)[0]? = some n := by rw [h1]; rfl
      rw [List.getElem?_drop] at this; exact this
    have hdr : G.drop (l + 1) = R := by
      rw [← List.drop_drop, h1]; rfl
    rw [List.length_cons] at h4 h5
    have hF0 : ∃ F0, F = F0 + 1 := ⟨F - 1, by omega⟩
    obtain ⟨F0, hF0⟩ := hF0
    have hF1 : ∃ F1, F' = F1 + 1 := ⟨F' - 1, by omega⟩
    obtain ⟨F1, hF1⟩ := hF1
    have hna : NA a L T := NA_fr fa rfl hA.1.2.1
    have hnq : NQ b L 0 := NQ_fr fb rfl hB.1.2
    have hg : gI b 1103 0 = 0 := (fb.1 1103 rfl 0).trans hg0
    have hKB := (hB.2.2.1 l n hGl).1
    have h99 : gA b 99 l = 14 ↔ n.1 = 526 := by rw [fb.2.1 99 rfl]; exact KB_14 hKB
    have ei : nI l + (1 : Int32) = nI (l + 1) := nI_add l 1
    have e163 : cR_load_163 F' (nI l) b = (if (gA b 99 l) = ((14 : Int32)) then (cR_findDefinition (gB b 106 l) b).bind (fun x7 => (if x7.1 = ((-1 : Int32)) then cR_load_220 (cR_load_163 F1) (nI l) x7.1 x7.2 else (if am_idx x7.1 12 = true then (if (gA x7.2 96 x7.1.toNatClampNeg) = (gA x7.2 105 l) then cR_load_163 F1 (nI (l + 1)) (wA x7.2 100 l x7.1) else cR_load_220 (cR_load_163 F1) (nI l) x7.1 x7.2) else none))) else cR_load_163 F1 (nI (l + 1)) b) := by
      rw [hF1, cR_load_163.eq_2]
      unfold cR_load_163_b
      rw [fb.1 1125 rfl, hB.2.1.1, if_neg (nI_ge hlen (by omega)), good_t hg, Option.bind_some]
      dsimp only
      rw [if_neg (by decide), if_pos (nI_idx (by omega) (by decide)), nI_clamp (by omega), ei]
    by_cases h526 : n.1 = 526
    · -- a start
      have hst : gB b 106 l = n.2.2.2.1 ∧ gA b 107 l = nI n.2.2.2.2 ∧ gA b 105 l = nI (n.2.2.1.length - 1) ∧ 1 ≤ n.2.2.1.length := by
        rcases hKB with h | h | h | h | h | h | h | h | h
        · omega
        · omega
        · omega
        · omega
        · omega
        · omega
        · omega
        · obtain ⟨h1, h2, h3, h4, A, Pr, h5, h6, h7, h8, h9, h10⟩ := h
          have hl : n.2.2.1.length = A.length + 1 := by rw [h5, List.length_append]; rfl
          refine ⟨(fb.2.2.1 106 rfl l).trans h3, (fb.2.1 107 rfl l).trans h4, ?_, by omega⟩
          rw [fb.2.1 105 rfl, h8, hl]; rfl
        · omega
      obtain ⟨s1, s2, s3, s4⟩ := hst
      rw [e163, if_pos (h99.mpr h526), s1, findDefinition_ok hL3 hnq.d, Option.bind_some]
      dsimp only
      -- the next line
      have next : ∀ (i1 : Nat) (a1 : ts) (d : Nat), ix (L 3) n.2.2.2.1 = some d → pm d + 1 = n.2.2.1.length → (opn G).drop i1 = opf R (l + 1) → i1 ≤ (opn G).length → fr [2023] a0 a1 → (∀ (k : Nat) (n : Ln), G[k]? = some n → gA a1 23 k = if k < l + 1 ∧ n.1 = 526 then oi (-2) (ix (L 3) n.2.2.2.1) else gA a0 23 k) → ∃ r a2 b1, cD_closeStarts_2 F0 (nI i1) a1 = some (r, a2) ∧ cR_load_163 F1 (nI (l + 1)) (wA b 100 l (nI d)) = cR_load_245 b1 ∧ ((r = 0 ∧ FL a2 b1) ∨ (r = 1 ∧ gI b1 1103 0 = 0 ∧ fr [2023] a0 a2 ∧ (∀ (k : Nat) (n : Ln), G[k]? = some n → gA a2 23 k = if n.1 = 526 then oi (-2) (ix (L 3) n.2.2.2.1) else gA a0 23 k) ∧ fr [2100] b0 b1 ∧ (∀ (k : Nat) (n : Ln), G[k]? = some n → gA b1 100 k = if n.1 = 526 then oi (-1) (ix (L 3) n.2.2.2.1) else gA b0 100 k) ∧ ∀ (k : Nat) (n : Ln), G[k]? = some n → n.1 = 526 → ∃ d, ix (L 3) n.2.2.2.1 = some d ∧ pm d + 1 = n.2.2.1.length)) := by
        intro i1 a1 d hi hp ho hio fa1 ha1
        refine ih (l + 1) i1 F0 F1 a1 (wA b 100 l (nI d)) hdr (by omega) ho hio (by omega) (by omega) fa1 ha1 (fr_wA fb rfl) ?_ ?_
        · intro k m hk
          by_cases e : k = l
          · have : m = n := by rw [e] at hk; exact Option.some.inj (hk.symm.trans hGl)
            rw [this, if_pos ⟨by omega, h526⟩, hi, e, gA_wAs]; rfl
          · rw [gA_wAn e, hb k m hk]
            by_cases e2 : m.1 = 526
            · by_cases e3 : k < l
              · rw [if_pos ⟨e3, e2⟩, if_pos ⟨by omega, e2⟩]
              · rw [if_neg (fun z => e3 z.1), if_neg (fun z => by have := z.1; omega)]
            · rw [if_neg (fun z => e2 z.2), if_neg (fun z => e2 z.2)]
        · intro k m hk hkm h5
          by_cases e : k = l
          · have : m = n := by rw [e] at hkm; exact Option.some.inj (hkm.symm.trans hGl)
            rw [this]; exact ⟨d, hi, hp⟩
          · exact hv k m (by omega) hkm h5
      -- a start that doesn't fit, on the reference's side
      have nofit : ∀ v : Int32, ∃ b1, cR_load_220 (cR_load_163 F1) (nI l) v b = cR_load_245 b1 ∧ gI b1 1103 0 = 6 ∧ gI b1 1104 0 = nI n.2.2.2.2 := by
        intro v
        have hbad : ¬ gI (wA (wI (wI b 1103 0 6) 1104 0 (nI n.2.2.2.2)) 100 l v) 1103 0 = 0 := by
          show ¬ gI (wI (wI b 1103 0 6) 1104 0 (nI n.2.2.2.2)) 1103 0 = 0
          rw [gI_wIn (by decide), gI_wIs]; decide
        have hF2 : ∃ F2, F1 = F2 + 1 := ⟨F1 - 1, by omega⟩
        obtain ⟨F2, hF2⟩ := hF2
        refine ⟨wA (wI (wI b 1103 0 6) 1104 0 (nI n.2.2.2.2)) 100 l v, ?_, ?_, ?_⟩
        · unfold cR_load_220
          rw [if_pos (nI_idx (by omega) (by decide)), nI_clamp (by omega), s2, fail_ok hg, Option.bind_some, hF2]
          exact bad163 hbad
        · show gI (wI (wI b 1103 0 6) 1104 0 (nI n.2.2.2.2)) 1103 0 = 6
          rw [gI_wIn (by decide), gI_wIs]
        · show gI (wI (wI b 1103 0 6) 1104 0 (nI n.2.2.2.2)) 1104 0 = _
          rw [gI_wIs]
      have h96 : ∀ d, d < (L 3).length → gA b 96 d = nI (pm d) := fun d hd => (fb.2.1 96 rfl d).trans (hB.2.2.2.1 d hd).1
      have h19 : ∀ d, d < (L 3).length → gA a 19 d = nI (pm d) ∧ pm d ≤ 8 := fun d hd => ⟨(fa.2.1 19 rfl d).trans (hA.2.2.2.2.2.1 d hd).1, (hA.2.2.2.2.2.1 d hd).2.1⟩
      by_cases hpn : pnd n = true
      · -- told later
        have ho : (opn G).drop i = l :: opf R (l + 1) := by rw [h3, opf.eq_2, if_pos hpn]
        have hoi : (opn G)[i]? = some l := by
          have : ((opn G).drop i)[0]? = some l := by rw [ho]; rfl
          rw [List.getElem?_drop] at this; exact this
        have hil := getE_lt hoi
        have hod : (opn G).drop (i + 1) = opf R (l + 1) := by rw [← List.drop_drop, ho]; rfl
        obtain ⟨o1, o2, o3, o4⟩ := hOA.2 i l n hoi hGl
        have eC : cD_closeStarts_2 F (nI i) a = (cG_isDefinition (oi (-2) (ix (L 3) n.2.2.2.1)) a).bind (fun x7 => (if x7.1 = ((0 : Int32)) then cD_closeStarts_59 (cD_closeStarts_2 F0) (nI i) (oi (-2) (ix (L 3) n.2.2.2.1)) ((0 : Int32)) x7.2 else (if am_idx (oi (-2) (ix (L 3) n.2.2.2.1)) 12 = true then (if (gA x7.2 19 (oi (-2) (ix (L 3) n.2.2.2.1)).toNatClampNeg) = (gA x7.2 31 i) then cD_closeStarts_59 (cD_closeStarts_2 F0) (nI i) (oi (-2) (ix (L 3) n.2.2.2.1)) ((1 : Int32)) x7.2 else cD_closeStarts_59 (cD_closeStarts_2 F0) (nI i) (oi (-2) (ix (L 3) n.2.2.2.1)) ((0 : Int32)) x7.2) else none))) := by
          have hfd : cG_find n.2.2.2.1 3 a = some (oi (-2) (ix (L 3) n.2.2.2.1), a) := find_ok1 hna hd (q := 3) (by omega) _
          rw [hF0, cD_closeStarts_2.eq_2]
          unfold cD_closeStarts_2_b
          rw [fa.1 408 rfl, hOA.1, if_neg (nI_ge hil (by omega)), if_pos (nI_idx (by omega) (by decide)), nI_clamp (by omega), fa.2.2.1 29 rfl, o1, hfd, Option.bind_some]
        have e0 : ∀ l2 : Int32, cD_closeStarts_59 (cD_closeStarts_2 F0) (nI i) l2 0 a = some (0, wI (wI a 108 0 6) 109 0 (nI n.2.2.2.2)) := by
          intro l2
          unfold cD_closeStarts_59 cT_failAt
          rw [if_pos rfl, if_pos (nI_idx (by omega) (by decide)), nI_clamp (by omega), fa.2.1 30 rfl, o2]; rfl
        have fl : ∀ b1, gI b1 1103 0 = 6 → gI b1 1104 0 = nI n.2.2.2.2 → FL (wI (wI a 108 0 6) 109 0 (nI n.2.2.2.2)) b1 := by
          intro b1 q1 q2
          refine ⟨?_, ?_, by rw [q1]; decide⟩
          · rw [q1, gI_wIn (by decide), gI_wIs]
          · rw [q2, gI_wIs]
        rw [eC]
        cases hix : ix (L 3) n.2.2.2.1 with
        | none =>
          have hdef : cG_isDefinition (oi (-2) none) a = some (0, a) := by
            unfold cG_isDefinition
            rw [if_pos (show oi (-2) none < (0 : Int32) by decide)]
          rw [hdef, Option.bind_some, if_pos (show oi (-1) none = (-1 : Int32) from rfl)]
          dsimp only
          rw [if_pos rfl, e0]
          obtain ⟨b1, q1, q2, q3⟩ := nofit (oi (-1) none)
          exact ⟨0, _, b1, rfl, q1, Or.inl ⟨rfl, fl b1 q2 q3⟩⟩
        | some d =>
          have hdl := (ix_some hix).2
          have hdef : cG_isDefinition (oi (-2) (some d)) a = some (1, a) := by
            unfold cG_isDefinition
            have hc3 := hna.c 3 (by omega)
            show (if nI d < 0 then _ else if gA a 16 3 ≤ nI d then _ else if 12 ≤ nI d then _ else _) = _
            rw [hc3, if_neg (nI_pos (by omega)), if_neg (nI_ge hdl (by omega)), if_neg (show ¬ (12 : Int32) ≤ nI d from nI_ge (b := 12) (by omega) (by decide))]
          have hcl2 : (oi (-2) (some d)).toNatClampNeg = d := nI_clamp (n := d) (by omega)
          have hcl1 : (oi (-1) (some d)).toNatClampNeg = d := nI_clamp (n := d) (by omega)
          rw [hdef, Option.bind_some]
          dsimp only
          rw [if_neg (show ¬ (1 : Int32) = 0 by decide), if_pos (show am_idx (oi (-2) (some d)) 12 = true from nI_idx (c := d) (by omega) (by decide)), if_neg (show ¬ oi (-1) (some d) = (-1 : Int32) from nI_no1 (by omega)), if_pos (show am_idx (oi (-1) (some d)) 12 = true from nI_idx (c := d) (by omega) (by decide)), hcl1, hcl2, (h19 d hdl).1, h96 d hdl, s3, fa.2.1 31 rfl, o3]
          by_cases hpm : nI (pm d) = nI (n.2.2.1.length - 1)
          · rw [if_pos hpm, if_pos hpm]
            have h214 : gI a 214 0 = nI G.length := (fa.1 214 rfl 0).trans hA.2.1.1
            have e1 : cD_closeStarts_59 (cD_closeStarts_2 F0) (nI i) (oi (-2) (some d)) 1 a = cD_closeStarts_2 F0 (nI (i + 1)) (wA a 23 l (nI d)) := by
              unfold cD_closeStarts_59 cG_aim
              rw [if_neg (show ¬ (1 : Int32) = 0 by decide), if_pos (nI_idx (by omega) (by decide)), nI_clamp (by omega), fa.2.1 32 rfl, o4, if_neg (nI_pos (by omega)), h214, if_neg (nI_ge hlen (by omega)), if_pos (nI_idx (by omega) (by decide)), nI_clamp (by omega), Option.bind_some, show nI i + (1 : Int32) = nI (i + 1) from nI_add i 1]
              rfl
            rw [e1]
            have hpmn : pm d + 1 = n.2.2.1.length := by
              have hp8 := (h19 d hdl).2
              have hle : n.2.2.1.length ≤ 4001 := by
                have hoo := (hA.2.2.2.1 l n hGl).1
                obtain ⟨-, -, f, -, -, g4, -⟩ := hoo
                have hK := hA.2.2.2.2.2.2.2
                have hps := hx.pn c
                have hn4 := hx.n
                rcases hKB with h | h | h | h | h | h | h | h | h
                · omega
                · omega
                · omega
                · omega
                · omega
                · omega
                · omega
                · obtain ⟨-, -, -, -, A, Pr, g5, g6, g7, -⟩ := h
                  have := flat_len n.2.2.1 (fun F hF => by
                    rw [g5] at hF
                    rcases List.mem_append.mp hF with z | z
                    · exact wt_len (g6 F z)
                    · have : F = Pr := by simpa using z
                      rw [this]; exact wt_len g7)
                  omega
                · omega
              have := nI_inj (by omega) (by omega) hpm
              omega
            refine next (i + 1) (wA a 23 l (nI d)) d hix hpmn hod (by omega) (fr_wA fa rfl) ?_
            intro k m hk
            by_cases e : k = l
            · have : m = n := by rw [e] at hk; exact Option.some.inj (hk.symm.trans hGl)
              rw [this, if_pos ⟨by omega, h526⟩, hix, e, gA_wAs]; rfl
            · rw [gA_wAn e, ha k m hk]
              by_cases e2 : m.1 = 526
              · by_cases e3 : k < l
                · rw [if_pos ⟨e3, e2⟩, if_pos ⟨by omega, e2⟩]
                · rw [if_neg (fun z => e3 z.1), if_neg (fun z => by have := z.1; omega)]
              · rw [if_neg (fun z => e2 z.2), if_neg (fun z => e2 z.2)]
          · rw [if_neg hpm, if_neg hpm, e0]
            obtain ⟨b1, q1, q2, q3⟩ := nofit (oi (-1) (some d))
            exact ⟨0, _, b1, rfl, q1, Or.inl ⟨rfl, fl b1 q2 q3⟩⟩
      · -- told before
        have ho : (opn G).drop i = opf R (l + 1) := by rw [h3, opf.eq_2, if_neg hpn]
        have hne : ¬ n.2.1 = -2 := by
          intro z
          apply hpn
          unfold pnd
          rw [h526, z]; rfl
        obtain ⟨d, d1, d2, d3⟩ := ((hA.2.2.2.1 l n hGl).2 h526).resolve_left hne
        have hdl := (ix_some d2).2
        have hcl1 : (oi (-1) (some d)).toNatClampNeg = d := nI_clamp (n := d) (by omega)
        rw [d2, if_neg (show ¬ oi (-1) (some d) = (-1 : Int32) from nI_no1 (by omega)), if_pos (show am_idx (oi (-1) (some d)) 12 = true from nI_idx (c := d) (by omega) (by decide)), hcl1, h96 d hdl, s3, d3, if_pos rfl]
        rw [hF0]
        have e2 : ∀ i1 a1, cD_closeStarts_2 F0 (nI i1) a1 = cD_closeStarts_2 F0 (nI i1) a1 := fun _ _ => rfl
        -- the program doesn't move; give it the same fuel
        refine ih (l + 1) i (F0 + 1) F1 a (wA b 100 l (nI d)) hdr (by omega) ho h3' (by omega) (by omega) fa ?_ (fr_wA fb rfl) ?_ ?_
        · intro k m hk
          rw [ha k m hk]
          by_cases e : k = l
          · have : m = n := by rw [e] at hk; exact Option.some.inj (hk.symm.trans hGl)
            rw [this, if_neg (fun z => by have := z.1; omega), if_pos ⟨by omega, h526⟩, d2, e, (hA.2.2.2.1 l n hGl).1.2.1, if_neg (by rw [h526]; decide), d1]; rfl
          · by_cases e2 : m.1 = 526
            · by_cases e3 : k < l
              · rw [if_pos ⟨e3, e2⟩, if_pos ⟨by omega, e2⟩]
              · rw [if_neg (fun z => e3 z.1), if_neg (fun z => by have := z.1; omega)]
            · rw [if_neg (fun z => e2 z.2), if_neg (fun z => e2 z.2)]
        · intro k m hk
          by_cases e : k = l
          · have : m = n := by rw [e] at hk; exact Option.some.inj (hk.symm.trans hGl)
            rw [this, if_pos ⟨by omega, h526⟩, d2, e, gA_wAs]; rfl
          · rw [gA_wAn e, hb k m hk]
            by_cases e2 : m.1 = 526
            · by_cases e3 : k < l
              · rw [if_pos ⟨e3, e2⟩, if_pos ⟨by omega, e2⟩]
              · rw [if_neg (fun z => e3 z.1), if_neg (fun z => by have := z.1; omega)]
            · rw [if_neg (fun z => e2 z.2), if_neg (fun z => e2 z.2)]
        · intro k m hk hkm h5
          by_cases e : k = l
          · have : m = n := by rw [e] at hkm; exact Option.some.inj (hkm.symm.trans hGl)
            rw [this]; exact ⟨d, d2, by omega⟩
          · exact hv k m (by omega) hkm h5
    · -- another line
      rw [e163, if_neg (fun z => h526 (h99.mp z))]
      have hpn : ¬ pnd n = true := by
        intro z
        unfold pnd at z
        rw [Bool.and_eq_true] at z
        exact h526 (Nat.eq_of_beq_eq_true z.1)
      have ho : (opn G).drop i = opf R (l + 1) := by rw [h3, opf.eq_2, if_neg hpn]
      refine ih (l + 1) i F F1 a b hdr (by omega) ho h3' (by omega) (by omega) fa ?_ fb ?_ ?_
      · intro k m hk
        rw [ha k m hk]
        by_cases e2 : m.1 = 526
        · by_cases e3 : k < l
          · rw [if_pos ⟨e3, e2⟩, if_pos ⟨by omega, e2⟩]
          · have hkl : ¬ k = l := fun z => by
              rw [z] at hk
              have : m = n := Option.some.inj (hk.symm.trans hGl)
              rw [this] at e2; exact h526 e2
            rw [if_neg (fun z => e3 z.1), if_neg (fun z => by have := z.1; omega)]
        · rw [if_neg (fun z => e2 z.2), if_neg (fun z => e2 z.2)]
      · intro k m hk
        rw [hb k m hk]
        by_cases e2 : m.1 = 526
        · by_cases e3 : k < l
          · rw [if_pos ⟨e3, e2⟩, if_pos ⟨by omega, e2⟩]
          · have hkl : ¬ k = l := fun z => by
              rw [z] at hk
              have : m = n := Option.some.inj (hk.symm.trans hGl)
              rw [this] at e2; exact h526 e2
            rw [if_neg (fun z => e3 z.1), if_neg (fun z => by have := z.1; omega)]
        · rw [if_neg (fun z => e2 z.2), if_neg (fun z => e2 z.2)]
      · intro k m hk hkm h5
        by_cases e : k = l
        · have : m = n := by rw [e] at hkm; exact Option.some.inj (hkm.symm.trans hGl)
          rw [this] at h5; exact absurd h5 h526
        · exact hv k m (by omega) hkm h5
