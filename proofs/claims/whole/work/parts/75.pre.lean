/-! EXPRESSIONS, side by side: what holds before and behind each piece. -/
/-- the first operations of a one that is plain -/
def LF (o : Op1) : Prop := o.1 = 1 ∨ (o.1 = 2 ∧ ∃ r, r < 24 ∧ o.2 = nI r) ∨ (o.1 = 531 ∧ o.2 = 0) ∨ (o.1 = 532 ∧ o.2 = 0) ∨ ((o.1 = 534 ∨ o.1 = 535) ∧ ∃ p, p < 14 ∧ o.2 = nI p)
/-- rows of operations that leave one value, on a stack that grows by at most g -/
def WtC (R : Nat → List Op1 → Prop) : Prop := (∀ (g : Nat) (o : Op1), LF o → 1 ≤ g → R g [o]) ∧ (∀ (g o : Nat) (E : List Op1), (o = 3 ∨ o = 33 ∨ o = 533) → R g E → R g (E ++ [(o, 0)])) ∧ (∀ (g e o : Nat) (E F : List Op1), 3 ≤ rk o → o < 600 → R g E → R e F → e + 1 ≤ g → R g (E ++ F ++ [(o, 0)])) ∧ (∀ (g o : Nat) (E F : List Op1), (o = 294 ∨ o = 380) → R g E → R g F → R g (E ++ (o, nI (F.length + 2)) :: (F ++ [(4, 0)])))
def Wt (g : Nat) (E : List Op1) : Prop := ∀ R : Nat → List Op1 → Prop, WtC R → R g E
theorem Wt.leaf {g : Nat} {o : Op1} (h : LF o) (hg : 1 ≤ g) : Wt g [o] := fun R hR => hR.1 g o h hg
theorem Wt.un {g : Nat} {o : Nat} {E : List Op1} (h : o = 3 ∨ o = 33 ∨ o = 533) (hE : Wt g E) : Wt g (E ++ [(o, 0)]) := fun R hR => hR.2.1 g o E h (hE R hR)
theorem Wt.bin {g e : Nat} {o : Nat} {E F : List Op1} (h : 3 ≤ rk o) (ho : o < 600) (hE : Wt g E) (hF : Wt e F) (he : e + 1 ≤ g) : Wt g (E ++ F ++ [(o, 0)]) := fun R hR => hR.2.2.1 g e o E F h ho (hE R hR) (hF R hR) he
theorem Wt.sk {g : Nat} {o : Nat} {E F : List Op1} (h : o = 294 ∨ o = 380) (hE : Wt g E) (hF : Wt g F) : Wt g (E ++ (o, nI (F.length + 2)) :: (F ++ [(4, 0)])) := fun R hR => hR.2.2.2 g o E F h (hE R hR) (hF R hR)
theorem Wt.mono {g g' : Nat} {E : List Op1} (h : Wt g E) : g ≤ g' → Wt g' E := by
  have key := h (fun g E => ∀ g', g ≤ g' → Wt g' E) ⟨fun g o h1 h2 g' hg => Wt.leaf h1 (by omega), fun g o E h1 h2 g' hg => Wt.un h1 (h2 g' hg), fun g e o E F h1 h2 h3 h4 h5 g' hg => Wt.bin h1 h2 (h3 g' hg) (h4 e (Nat.le_refl _)) (by omega), fun g o E F h1 h2 h3 g' hg => Wt.sk h1 (h2 g' hg) (h3 g' hg)⟩
  exact key g'
def RE (aw : Bool) (j : Nat) (b b1 : ts) : Prop := ∀ (F : Nat) (l2 : Int32), cR_takeExp_33 (F + j) (bI aw) l2 b = cR_takeExp_33 F (bI aw) l2 b1
theorem RE_0 {aw : Bool} {b : ts} : RE aw 0 b b := fun _ _ => rfl
theorem RE_tr {aw : Bool} {i j : Nat} {b b1 b2 : ts} (h : RE aw i b b1) (h2 : RE aw j b1 b2) : RE aw (i + j) b b2 := by
  intro F l2
  rw [show F + (i + j) = (F + j) + i by omega, h, h2]
theorem RE_one {aw : Bool} {b b1 : ts} (hv : gI b 1151 0 = 0) (hg : gI b 1103 0 = 0) (h1 : gI b 1150 0 = 1) (h : cR_takeOne (bI aw) b = some b1) : RE aw 1 b b1 := by
  intro F l2
  rw [cR_takeExp_33.eq_2]
  unfold cR_takeExp_33_b
  rw [if_pos hv, good_t hg, Option.bind_some]
  dsimp only
  rw [if_neg (by decide), h1, if_neg (by decide), h, Option.bind_some]
theorem RE_sign {aw : Bool} {b b1 : ts} (hv : gI b 1151 0 = 0) (hg : gI b 1103 0 = 0) (h1 : gI b 1150 0 = 0) (h : cR_takeSign b = some b1) : RE aw 1 b b1 := by
  intro F l2
  rw [cR_takeExp_33.eq_2]
  unfold cR_takeExp_33_b
  rw [if_pos hv, good_t hg, Option.bind_some]
  dsimp only
  rw [if_neg (by decide), h1, if_pos rfl, h, Option.bind_some]
/-- the reference's codes are few -/
def CB (b : ts) : Prop := ∃ q, q ≤ 8500 ∧ gI b 1139 0 = nI q ∧ gI b 1147 0 = nI 0
theorem CB_fr {W : List Nat} {b b1 : ts} (hf : fr W b b1) (hd : dj [1139, 1147] W = true) (h : CB b) : CB b1 := by
  obtain ⟨q, h1, h2, h3⟩ := h
  exact ⟨q, h1, (hf.1 1139 (dj_m hd rfl) 0).trans h2, (hf.1 1147 (dj_m hd rfl) 0).trans h3⟩
def PreE (x : Cx) (L : Nat → List Int64) (T : List (Nat × Nat)) (aw : Bool) (a b : ts) (c k k' : Nat) (P Q P' Q' : Nat → Int32) (E : List Op1) (W : List Ent) (dp : Nat) (cp : Bool) : Prop := (RX x L T aw a b c) ∧ (x.kd c ≠ 1) ∧ (EA a k P Q E) ∧ (EC b k' P' Q' E) ∧ (EW b k' W dp cp) ∧ (gI b 1150 0 = 1) ∧ (k + E.length + W.length ≤ x.ps c) ∧ (k' + E.length + W.length ≤ 2 * x.ps c) ∧ (GP E W)
theorem PreE.rx {x : Cx} {L : Nat → List Int64} {T : List (Nat × Nat)} {aw : Bool} {a b : ts} {c k k' : Nat} {P Q P' Q' : Nat → Int32} {E : List Op1} {W : List Ent} {dp : Nat} {cp : Bool} (h : PreE x L T aw a b c k k' P Q P' Q' E W dp cp) : RX x L T aw a b c := h.1
theorem PreE.k1 {x : Cx} {L : Nat → List Int64} {T : List (Nat × Nat)} {aw : Bool} {a b : ts} {c k k' : Nat} {P Q P' Q' : Nat → Int32} {E : List Op1} {W : List Ent} {dp : Nat} {cp : Bool} (h : PreE x L T aw a b c k k' P Q P' Q' E W dp cp) : x.kd c ≠ 1 := h.2.1
theorem PreE.ea {x : Cx} {L : Nat → List Int64} {T : List (Nat × Nat)} {aw : Bool} {a b : ts} {c k k' : Nat} {P Q P' Q' : Nat → Int32} {E : List Op1} {W : List Ent} {dp : Nat} {cp : Bool} (h : PreE x L T aw a b c k k' P Q P' Q' E W dp cp) : EA a k P Q E := h.2.2.1
theorem PreE.ec {x : Cx} {L : Nat → List Int64} {T : List (Nat × Nat)} {aw : Bool} {a b : ts} {c k k' : Nat} {P Q P' Q' : Nat → Int32} {E : List Op1} {W : List Ent} {dp : Nat} {cp : Bool} (h : PreE x L T aw a b c k k' P Q P' Q' E W dp cp) : EC b k' P' Q' E := h.2.2.2.1
theorem PreE.ew {x : Cx} {L : Nat → List Int64} {T : List (Nat × Nat)} {aw : Bool} {a b : ts} {c k k' : Nat} {P Q P' Q' : Nat → Int32} {E : List Op1} {W : List Ent} {dp : Nat} {cp : Bool} (h : PreE x L T aw a b c k k' P Q P' Q' E W dp cp) : EW b k' W dp cp := h.2.2.2.2.1
theorem PreE.on {x : Cx} {L : Nat → List Int64} {T : List (Nat × Nat)} {aw : Bool} {a b : ts} {c k k' : Nat} {P Q P' Q' : Nat → Int32} {E : List Op1} {W : List Ent} {dp : Nat} {cp : Bool} (h : PreE x L T aw a b c k k' P Q P' Q' E W dp cp) : gI b 1150 0 = 1 := h.2.2.2.2.2.1
theorem PreE.lk {x : Cx} {L : Nat → List Int64} {T : List (Nat × Nat)} {aw : Bool} {a b : ts} {c k k' : Nat} {P Q P' Q' : Nat → Int32} {E : List Op1} {W : List Ent} {dp : Nat} {cp : Bool} (h : PreE x L T aw a b c k k' P Q P' Q' E W dp cp) : k + E.length + W.length ≤ x.ps c := h.2.2.2.2.2.2.1
theorem PreE.lc {x : Cx} {L : Nat → List Int64} {T : List (Nat × Nat)} {aw : Bool} {a b : ts} {c k k' : Nat} {P Q P' Q' : Nat → Int32} {E : List Op1} {W : List Ent} {dp : Nat} {cp : Bool} (h : PreE x L T aw a b c k k' P Q P' Q' E W dp cp) : k' + E.length + W.length ≤ 2 * x.ps c := h.2.2.2.2.2.2.2.1
theorem PreE.gp {x : Cx} {L : Nat → List Int64} {T : List (Nat × Nat)} {aw : Bool} {a b : ts} {c k k' : Nat} {P Q P' Q' : Nat → Int32} {E : List Op1} {W : List Ent} {dp : Nat} {cp : Bool} (h : PreE x L T aw a b c k k' P Q P' Q' E W dp cp) : GP E W := h.2.2.2.2.2.2.2.2
theorem CB_of {x : Cx} (hx : x.Ok) {b : ts} {c k' : Nat} {P' Q' : Nat → Int32} {E : List Op1} {W : List Ent} {dp : Nat} {cp : Bool} (h1 : EC b k' P' Q' E) (h2 : EW b k' W dp cp) (h3 : k' + E.length ≤ 2 * x.ps c + 3) : CB b := by
  have := hx.pn c
  have := hx.n
  exact ⟨_, by omega, h1.n, h2.f⟩
/-- behind a one -/
def OutOne (x : Cx) (aw : Bool) (b : ts) (c k k' : Nat) (P Q P' Q' : Nat → Int32) (E : List Op1) (W U : List Ent) (dp : Nat) (cp : Bool) (g : Nat) (r : Int32) (a1 : ts) : Prop :=
  ∃ j b1, RE aw j b b1 ∧ fr wf_cR_takeExp b b1 ∧ CB b1 ∧
   ((r = 0 ∧ FL a1 b1 ∧ j + c ≤ x.m + 1) ∨
    (r = 1 ∧ ∃ c1 F, c < c1 ∧ j + c ≤ c1 ∧ SA x a1 c1 ∧ SB x b1 c1 ∧ EA a1 k P Q (E ++ F) ∧ Wt g F ∧ k + (E ++ F).length + (W ++ U).length ≤ x.ps c1 ∧ k' + (E ++ F).length + (W ++ U).length ≤ 2 * x.ps c1 ∧ (x.kd c1 ≠ 1 → EC b1 k' P' Q' (flush (E ++ F) U) ∧ EW b1 k' W (dp - U.length) cp ∧ gI b1 1150 0 = 0)))
def PO (x : Cx) (L : Nat → List Int64) (T : List (Nat × Nat)) (aw : Bool) (f : Int32 → ts → Option (Int32 × ts)) (dp : Nat) : Prop :=
  ∀ (a b : ts) (c k k' : Nat) (P Q P' Q' : Nat → Int32) (E : List Op1) (W U : List Ent) (cp : Bool), PreE x L T aw a b c k k' P Q P' Q' E (W ++ U) dp cp → (∀ t, t ∈ U → VT t ∧ t.2.1 = 9) → (∀ t, W.getLast? = some t → t.2.1 < 9) → U.length ≤ dp → ∃ r a1, f (nI dp) a = some (r, a1) ∧ OutOne x aw b c k k' P Q P' Q' E W U dp cp (100 - 3 * dp) r a1
theorem n9s_u {U : List Ent} (h : ∀ t, t ∈ U → VT t ∧ t.2.1 = 9) : n9s U = U.length := by
  induction U with
  | nil => rfl
  | cons t r ih =>
    show n9 t + n9s r = r.length + 1
    rw [ih (fun u hu => h u (List.mem_cons_of_mem _ hu))]
    unfold n9
    rw [if_pos (h t List.mem_cons_self).2]
    omega
theorem GP_9 {E : List Op1} {U : List Ent} (h : ∀ t, t ∈ U → VT t ∧ t.2.1 = 9) : GP E U := fun t ht z => by have := (h t ht).2; omega
theorem GP_app {E F : List Op1} {W : List Ent} (h : GP E W) : GP (E ++ F) W := by
  intro t ht hr
  obtain ⟨h1, h2⟩ := h t ht hr
  refine ⟨by rw [List.length_append]; omega, ?_⟩
  rw [List.getD_eq_getElem?_getD, List.getElem?_append_left h1, ← List.getD_eq_getElem?_getD]
  exact h2
theorem endOne_ok {x : Cx} (hx : x.Ok) {b : ts} {k c dp : Nat} {P Q : Nat → Int32} {E : List Op1} {W U : List Ent} {cp : Bool} (hE : EC b k P Q E) (hW : EW b k (W ++ U) dp cp) (hU : ∀ t, t ∈ U → VT t ∧ t.2.1 = 9) (hl : ∀ t, W.getLast? = some t → t.2.1 < 9) (hd : U.length ≤ dp) (hc : k + E.length + (W ++ U).length ≤ 2 * x.ps c + 3) (hw : (W ++ U).length ≤ 4010) : ∃ b1, cR_endOne b = some b1 ∧ EC b1 k P Q (flush E U) ∧ EW b1 k W (dp - U.length) cp ∧ gI b1 1150 0 = 0 ∧ fr wf_cR_endOne b b1 := by
  have := hx.pn c
  have := hx.n
  have f1 : fr [1150] b (wI b 1150 0 0) := fr_wI fr_rf rfl
  obtain ⟨b1, s1, s2, s3, s4⟩ := settleTo_ok (r := 9) ⟨by omega, by omega⟩ hl (EC_fr f1 rfl hE) (EW_fr f1 rfl hW) (fun t ht => ⟨(hU t ht).1, by rw [(hU t ht).2]; omega⟩) (by omega) (by simp at hc; omega) (GP_9 hU) (by rw [n9s_u hU]; exact hd)
  have hrun : cR_endOne b = some b1 := by
    unfold cR_endOne
    rw [show (9 : Int32) = nI 9 from rfl, s1]; rfl
  refine ⟨b1, hrun, s2, by rw [n9s_u hU] at s3; exact s3, ?_, cR_endOne_fr _ _ hrun⟩
  rw [s4.1 1150 rfl]; simp (disch := first | assumption | omega) only [sx, if_pos, if_neg, bnd, Nat.reduceEqDiff, Nat.reduceAdd, Nat.reduceMul, Nat.reduceSub, and_true, true_and, and_false, false_and, or_true, true_or, or_false, false_or, if_true, if_false, eq_self, not_true, not_false_eq_true]
/-- behind the operation of a plain one -/
theorem plain_end {x : Cx} (hx : x.Ok) {b : ts} {k c dp : Nat} {P Q : Nat → Int32} {E : List Op1} {W U : List Ent} {cp : Bool} (hb : SB x b c) (hk : 2 ≤ x.kd c) (hE : EC b k P Q E) (hW : EW b k (W ++ U) dp cp) (hU : ∀ t, t ∈ U → VT t ∧ t.2.1 = 9) (hl : ∀ t, W.getLast? = some t → t.2.1 < 9) (hd : U.length ≤ dp) (hc : k + E.length + (W ++ U).length ≤ 2 * x.ps c + 3) (hw : (W ++ U).length ≤ 4010) : ∃ b2, (cR_next b).bind (fun s11 => (cR_good s11).bind (fun x15 => (if x15.1 = ((0 : Int32)) then some x15.2 else (cR_endOne x15.2).bind (fun s17 => some s17)))) = some b2 ∧ SB x b2 (c + 1) ∧ CB b2 ∧ (x.kd (c + 1) ≠ 1 → EC b2 k P Q (flush E U) ∧ EW b2 k W (dp - U.length) cp ∧ gI b2 1150 0 = 0) ∧ fr wf_cR_takeOne b b2 := by
  have := hx.pn c
  have := hx.n
  obtain ⟨b1, n1, n2, n3⟩ := nxt_ok hx hb hk
  rw [n1, Option.bind_some]
  have hE1 := EC_fr n3 rfl hE
  have hW1 := EW_fr n3 rfl hW
  by_cases h1 : x.kd (c + 1) = 1
  · refine ⟨b1, ?_, n2, ⟨_, by simp at hc; omega, hE1.n, hW1.f⟩, fun z => absurd h1 z, fr_mono (by decide +kernel) n3⟩
    rw [good_f (n2.nb h1), Option.bind_some]
    rfl
  · obtain ⟨b2, e1, e2, e3, e4, e5⟩ := endOne_ok hx hE1 hW1 hU hl hd hc hw
    refine ⟨b2, ?_, SB_fr e5 rfl rfl n2, ⟨_, by rw [flush_len]; simp at hc; omega, e2.n, e3.f⟩, fun _ => ⟨e2, e3, e4⟩, fr_tr (fr_mono (by decide +kernel) n3) (fr_mono (by decide +kernel) e5)⟩
    rw [good_t (n2.g h1), Option.bind_some]
    dsimp only
    rw [if_neg (by decide), e1]; rfl
/-- the operation of a plain one -/
def lo (L : Nat → List Int64) (k : Nat) (v : Int64) : Op1 := if k = 3 then (1, v.toInt32) else if k = 2 then (2, oi (-2) (fv L v)) else (k, 0)
theorem takePlain_leaf {x : Cx} (hx : x.Ok) {L : Nat → List Int64} {T : List (Nat × Nat)} {aw : Bool} {a b : ts} {c k : Nat} {P Q : Nat → Int32} {E : List Op1} (h : RX x L T aw a b c) (hk : x.kd c = 2 ∨ x.kd c = 3 ∨ x.kd c = 531 ∨ x.kd c = 532) (hf : fo L aw (x.kd c) (x.vl c) = 0) (hE : EC b k P Q E) (hl : k + E.length < 9000) : ∃ b1, cR_takePlain (rvI (x.kd c)) b = some b1 ∧ EC b1 k P Q (E ++ [lo L (x.kd c) (x.vl c)]) ∧ fr [1139, 2110, 2111] b b1 ∧ LF (lo L (x.kd c) (x.vl c)) := by
  have hk1 : x.kd c ≠ 1 := by omega
  obtain ⟨x1, x2, x3, x4, x5, x6⟩ := h.sb.nx.2 hk1
  have x2 : gI b 1106 0 = nI (rt (x.kd c)) := x2
  unfold cR_takePlain
  rcases hk with e | e | e | e
  · -- a word
    have hwd : gJ b 1108 0 = x.vl c := x5 (Or.inl e)
    have h4l : (L 4).length ≤ 8 := h.na.m 4 (by omega)
    have h2l : (L 2).length ≤ 16 := h.na.m 2 (by omega)
    rw [x2, e]
    have n2 : ¬ nI (rt 2) = 2 := by decide
    rw [if_neg n2, if_neg (by decide), if_neg (by decide), if_neg (by decide), if_neg (by decide), hwd, findLocal_ok h4l h.nb.v, Option.bind_some]
    dsimp only
    have hlo : lo L 2 (x.vl c) = (2, oi (-2) (fv L (x.vl c))) := rfl
    rw [hlo]
    unfold fo at hf
    rw [if_pos e] at hf
    unfold fv at hf ⊢
    cases h4 : ix (L 4) (x.vl c) with
    | some r =>
      have hr := (ix_some h4).2
      have hv : nI r = rA (k + E.length) (2, nI r) := by
        unfold rA
        rw [if_neg (fun z => by cases z.1), if_neg (fun z => z.2 (show nI r < (8 : Int32) from nI_lt (b := 8) (by omega) (by decide)))]
      obtain ⟨a1, a2⟩ := add_ok (c := 2) (v := nI r) (o := (2, nI r)) hE hl (by
        unfold rc
        rw [if_pos rfl, if_pos (show nI r < (8 : Int32) from nI_lt (b := 8) (by omega) (by decide))]
        rfl) hv
      refine ⟨_, ?_, a2, fr_cdW, Or.inr (Or.inl ⟨rfl, r, by omega, rfl⟩)⟩
      show (if nI r = -1 then cR_takePlain_198 (nI r) 3 b else cR_takePlain_198 (nI r) 2 b) = _
      have hne : ¬ nI r = -1 := fun z => (n1_n (a := r) (by omega)).mp z
      rw [if_neg hne]
      unfold cR_takePlain_198 cR_takePlain_215
      rw [if_neg hne, a1]; rfl
    | none =>
      rw [h4] at hf
      cases h2 : ix (L 2) (x.vl c) with
      | none => rw [h2] at hf; cases hf
      | some r =>
        have hr := (ix_some h2).2
        have hge : ¬ nI (8 + r) < (8 : Int32) := nI_nlt (b := 8) (by omega) (by omega)
        obtain ⟨a1, a2⟩ := add_ok (c := 3) (v := nI r) (o := (2, nI (8 + r))) hE hl (by
          unfold rc
          rw [if_pos rfl, if_neg hge]
          rfl) (by
          unfold rA
          rw [if_neg (fun z => by cases z.1), if_pos ⟨rfl, hge⟩]
          show nI r = nI (8 + r) - nI 8
          rw [pk_sub (by omega)]
          congr 1
          omega)
        refine ⟨_, ?_, a2, fr_cdW, Or.inr (Or.inl ⟨rfl, 8 + r, by omega, rfl⟩)⟩
        show (if (-1 : Int32) = -1 then cR_takePlain_198 (-1) 3 b else cR_takePlain_198 (-1) 2 b) = _
        rw [if_pos rfl]
        unfold cR_takePlain_198 cR_takePlain_215
        rw [if_pos rfl, hwd, findNumber_ok h2l h.nb.n, h2, Option.bind_some]
        show (cR_add 3 (nI r) b).bind _ = _
        rw [a1]; rfl
  · have hdg : gI b 1109 0 = (x.vl c).toInt32 := x6 e
    obtain ⟨a1, a2⟩ := add_ok (c := 1) (v := (x.vl c).toInt32) (o := (1, (x.vl c).toInt32)) hE hl rfl (by
      unfold rA
      rw [if_neg (fun z => by cases z.1), if_neg (fun z => by cases z.1)])
    have hlo : lo L 3 (x.vl c) = (1, (x.vl c).toInt32) := rfl
    rw [e, hlo]
    refine ⟨_, ?_, a2, fr_cdW, Or.inl rfl⟩
    rw [x2, e, if_pos (by decide), hdg, a1]; rfl
  · obtain ⟨a1, a2⟩ := add_ok (c := 4) (v := 0) (o := (531, 0)) hE hl rfl (rA_0 _ _).symm
    have hlo : lo L 531 (x.vl c) = (531, 0) := rfl
    rw [e, hlo]
    refine ⟨_, ?_, a2, fr_cdW, Or.inr (Or.inr (Or.inl ⟨rfl, rfl⟩))⟩
    rw [x2, e, if_neg (by decide), if_pos (by decide)]
    unfold cR_takePlain_35 cR_takePlain_47
    rw [if_pos (by decide), a1]; rfl
  · obtain ⟨a1, a2⟩ := add_ok (c := 5) (v := 0) (o := (532, 0)) hE hl rfl (rA_0 _ _).symm
    have hlo : lo L 532 (x.vl c) = (532, 0) := rfl
    rw [e, hlo]
    refine ⟨_, ?_, a2, fr_cdW, Or.inr (Or.inr (Or.inr (Or.inl ⟨rfl, rfl⟩)))⟩
    rw [x2, e, if_neg (by decide), if_neg (by decide), if_pos (by decide)]
    unfold cR_takePlain_35 cR_takePlain_47
    rw [if_neg (by decide), a1]; rfl
