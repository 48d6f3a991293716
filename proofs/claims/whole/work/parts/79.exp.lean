/-! TESTS AND WHOLE EXPRESSIONS, side by side. -/
def PT (x : Cx) (L : Nat → List Int64) (T : List (Nat × Nat)) (aw : Bool) (f : Int32 → ts → Option (Int32 × ts)) (dp : Nat) : Prop :=
  ∀ (a b : ts) (c k k' : Nat) (P Q P' Q' : Nat → Int32) (E : List Op1) (W : List Ent), PreE x L T aw a b c k k' P Q P' Q' E W dp false → (∀ t, W.getLast? = some t → t.2.1 < 3) → ∃ r a1, f (nI dp) a = some (r, a1) ∧ OutV x aw b c k k' P Q P' Q' E W dp (103 - 3 * dp) 3 (fun q p => rk q < 3 ∨ (rk q = 3 ∧ p = true)) r a1
theorem rk_3 : ∀ k, k < 600 → (rk k = 3 ↔ (k = 60 ∨ k = 62 ∨ k = 289 ∨ k = 316 ∨ k = 317 ∨ k = 318)) := by
  intro k hk
  unfold rk
  constructor
  · intro h
    split at h
    · omega
    · split at h
      · omega
      · split at h
        · omega
        · split at h
          · omega
          · split at h <;> omega
  · intro h
    rw [if_neg (by omega), if_neg (by omega), if_pos (by omega)]
theorem isRelation_ok {k : Nat} (hk : k < 600) (s : ts) : cF_isRelation (nI k) s = some (if rk k = 3 then 1 else 0, s) := by
  unfold cF_isRelation
  have h3 := rk_3 k hk
  by_cases h60 : k = 60
  · subst h60; rfl
  by_cases h62 : k = 62
  · subst h62; rfl
  by_cases h289 : k = 289
  · subst h289; rfl
  by_cases h316 : k = 316
  · subst h316; rfl
  by_cases h317 : k = 317
  · subst h317; rfl
  by_cases h318 : k = 318
  · subst h318; rfl
  rw [if_neg (show ¬ rk k = 3 from fun z => by have := h3.mp z; omega)]
  simp (disch := first | assumption | omega) only [sx, if_pos, if_neg, bnd, Nat.reduceEqDiff, Nat.reduceAdd, Nat.reduceMul, Nat.reduceSub, and_true, true_and, and_false, false_and, or_true, true_or, or_false, false_or, if_true, if_false, eq_self, not_true, not_false_eq_true]
theorem BV_mono {r r' : Nat} {V : List Ent} (h : BV r V) (hr : r' ≤ r) : BV r' V := fun t ht => ⟨(h t ht).1, by have := (h t ht).2.1; omega, (h t ht).2.2⟩
theorem flush_cons (E : List Op1) (t : Ent) (V : List Ent) : flush E (t :: V) = st1 (flush E V) t := rfl
theorem flush_app2 (E : List Op1) (U V : List Ent) : flush E (U ++ V) = flush (flush E V) U := by unfold flush; rw [List.foldr_append]
theorem readTest_pt {x : Cx} (hx : x.Ok) {L : Nat → List Int64} {T : List (Nat × Nat)} {aw : Bool} {rc : Nat → Int32 → ts → Option (Int32 × ts)} (hfr : ∀ w i s r, rc w i s = some r → fr wf_clF s r.2) {dp : Nat} (hdp : dp ≤ 31) (ps : PS x L T aw (rc 2) dp) (bd : BD x (rc 2) dp) : PT x L T aw (cF_readTest rc) dp := by
  intro a b c k k' P Q P' Q' E W pre hW
  have hn := hx.n
  have hlk := pre.lk
  have hlc := pre.lc
  have hcl := pre.rx.sa.l
  obtain ⟨r, a1, i1, j, b1, i2, i3, i4, i5⟩ := ps a b c k k' P Q P' Q' E W false pre (fun t ht => by have := hW t ht; omega)
  unfold cF_readTest
  rw [i1, Option.bind_some]
  dsimp only
  rcases i5 with ⟨z1, z2, z3⟩ | ⟨z1, c1, F1, z2, z3, z4, z5, z6, z7, z8, z9, z10⟩
  · rw [z1, if_pos rfl]
    exact ⟨0, a1, rfl, j, b1, i2, i3, i4, Or.inl ⟨rfl, z2, z3⟩⟩
  · rw [z1, if_neg (by decide), z4.ki, isRelation_ok (hx.lt c1), Option.bind_some]
    dsimp only
    have hpn1 := hx.pn c1
    by_cases h3 : rk (x.kd c1) = 3
    · rw [if_pos h3, if_neg (by decide)]
      have hk1 : x.kd c1 ≠ 1 := fun z => by rw [z] at h3; cases h3
      have hk2 : 2 ≤ x.kd c1 := by have := (rk_3 _ (hx.lt c1)).mp h3; omega
      obtain ⟨E1, V, cp1, w1, w2, w3, w4, w5, ⟨G, w6⟩, w7, w8⟩ := z10 hk1
      subst w8
      have hE1 : E1.length + V.length = (E ++ F1).length := by rw [← w5, flush_len]
      obtain ⟨b2, t1, t2, t3, t4, t5, t6⟩ := takeSign_op (W0 := W) (V := V) hx z5 hk1 (by omega) (fun _ => rfl) w1 w2 (by rw [h3]; exact hW) (fun t ht => ⟨(w4 t ht).1, by rw [h3]; have := (w4 t ht).2.1; omega⟩) (by simp at hE1 z8 ⊢; omega) (by simp at z9 hE1 ⊢; omega) (GP_3 (r := 4) w4 (by omega)) (n9s_0 w4)
      rw [h3, if_neg (by omega), List.append_nil, w5] at t3
      rw [h3, if_neg (by omega), w5] at t4
      have t4 : EW b2 k' (W ++ [(x.kd c1, 3, (E ++ F1).length, false)]) dp true := t4
      have hre := RE_tr i2 (RE_sign (aw := aw) (by have := w2.v; exact this) (z5.g hk1) w3 t1)
      have hfb : fr wf_cR_takeExp b b2 := fr_tr i3 (fr_mono (by decide +kernel) t6)
      obtain ⟨v1, v2⟩ := adv_ok hx z4 (hx.lm z4.l hk2)
      have hp1 := hx.p1 hk2
      have hvl := v2.l
      rw [v1, Option.bind_some]
      have hf1 := hfr _ _ _ _ i1
      by_cases hb1 : x.kd (c1 + 1) = 1
      · obtain ⟨a3, d1, d2⟩ := bd _ _ v2 hb1
        refine ⟨0, a3, by rw [d1]; rfl, j + 1, b2, hre, hfb, ⟨_, ?_, t3.n, t4.f⟩, Or.inl ⟨rfl, d2 _ t2, by omega⟩⟩
        omega
      · obtain ⟨r2, a3, y1, jj, b3, y2, y3, y4, y5⟩ := ps (av x a1 (c1 + 1)) b2 (c1 + 1) k k' P Q P' Q' (E ++ F1) (W ++ [(x.kd c1, 3, (E ++ F1).length, false)]) true ⟨RX_fr (V := wf_clF) (W := wf_cR_takeExp) pre.rx (fr_tr hf1 (fr_mono (by decide +kernel) fr_av)) hfb rfl rfl v2 t2, hb1, EA_fr fr_av rfl z6, t3, t4, t5, by simp at z8 ⊢; omega, by simp at z9 ⊢; omega, GP_ext pre.gp (by
            intro t ht
            rcases List.mem_append.mp ht with zz | zz
            · exact Or.inl zz
            · rw [List.mem_singleton.mp zz]; right; right; exact Nat.le_refl _)⟩ (by
            intro t ht
            rw [List.getLast?_concat] at ht
            rw [← Option.some.inj ht]; show 3 < 4; omega)
        rw [y1, Option.bind_some]
        dsimp only
        rcases y5 with ⟨q1, q2, q3⟩ | ⟨q1, c2, F2, q2, q3, q4, q5, q6, q7, q8, q9, q10⟩
        · rw [q1, if_pos rfl]
          exact ⟨0, a3, rfl, j + 1 + jj, b3, RE_tr hre y2, fr_tr hfb y3, y4, Or.inl ⟨rfl, q2, by omega⟩⟩
        · rw [q1, if_neg (by decide)]
          have hpn2 := hx.pn c2
          have hsk : isSk (x.kd c1) = false := by
            have := (rk_3 _ (hx.lt c1)).mp h3
            unfold isSk
            rw [beq_n (by omega), beq_n (by omega)]; rfl
          obtain ⟨g1, g2⟩ := addOp_ok (o := x.kd c1) (v := 0) q6 (by simp at q8 ⊢; omega) (fun _ => rfl)
          rw [g1]
          refine ⟨1, _, rfl, j + 1 + jj, b3, RE_tr hre y2, fr_tr hfb y3, y4, Or.inr ⟨rfl, c2, F1 ++ F2 ++ [(x.kd c1, 0)], by omega, by omega, SA_fr fr_opW rfl q4, q5, ?_, Wt.bin (by omega) (hx.lt c1) (z7.mono (by omega)) q7 (by omega), ?_, ?_, fun hh => ?_⟩⟩
          · have := g2
            rw [List.append_assoc E F1 F2, List.append_assoc E] at this
            have e : opW a3 (k + (E ++ F1 ++ F2).length) (x.kd c1) 0 = opW a3 (k + (E ++ (F1 ++ F2)).length) (x.kd c1) 0 := by rw [List.append_assoc]
            rw [e]
            exact this
          · simp at q8 ⊢; omega
          · simp at q9 ⊢; omega
          · obtain ⟨E2, V2, cp2, u1, u2, u3, u4, u5, ⟨G2, u6⟩, u7, u8⟩ := q10 hh
            refine ⟨E2, (x.kd c1, 3, (E ++ F1).length, false) :: V2, cp2, u1, ?_, u3, ?_, ?_, ⟨F1 ++ G2, by rw [u6, List.append_assoc]⟩, ?_⟩
            · rw [show W ++ (x.kd c1, 3, (E ++ F1).length, false) :: V2 = W ++ [(x.kd c1, 3, (E ++ F1).length, false)] ++ V2 by simp]; exact u2
            · intro t ht
              rcases List.mem_cons.mp ht with zz | zz
              · rw [zz]
                have hv := VT_rk (a := (E ++ F1).length) (p := false) (hx.lt c1) (by omega : 1 ≤ rk (x.kd c1))
                rw [h3] at hv
                exact ⟨hv, Nat.le_refl _, by show 3 < 9; omega⟩
              · exact BV_mono u4 (by omega) t zz
            · rw [flush_cons, u5]
              unfold st1
              rw [if_neg (by dsimp only; omega)]
              simp [List.append_assoc]
            · by_cases e3 : rk (x.kd c2) = 3
              · exact Or.inr ⟨e3, u8⟩
              · left; omega
    · rw [if_neg h3, if_pos rfl]
      refine ⟨1, a1, rfl, j, b1, i2, i3, i4, Or.inr ⟨rfl, c1, F1, z2, z3, z4, z5, z6, z7.mono (by omega), z8, z9, fun hh => ?_⟩⟩
      obtain ⟨E1, V, cp1, w1, w2, w3, w4, w5, w6, w7, w8⟩ := z10 hh
      exact ⟨E1, V, cp1, w1, w2, w3, BV_mono w4 (by omega), w5, w6, Or.inl (by omega)⟩
theorem readTest_bd {x : Cx} {rc : Nat → Int32 → ts → Option (Int32 × ts)} {dp : Nat} (bd : BD x (rc 2) dp) : BD x (cF_readTest rc) dp := by
  intro a c ha h1
  obtain ⟨a1, d1, d2⟩ := bd a c ha h1
  refine ⟨a1, ?_, d2⟩
  unfold cF_readTest
  rw [d1]; rfl

/-- behind a whole expression -/
def OutE (x : Cx) (aw : Bool) (b : ts) (c k k' : Nat) (P Q P' Q' : Nat → Int32) (E : List Op1) (W : List Ent) (dp : Nat) (g : Nat) (r : Int32) (a1 : ts) : Prop :=
  ∃ j b1, RE aw j b b1 ∧ fr wf_cR_takeExp b b1 ∧ CB b1 ∧
   ((r = 0 ∧ FL a1 b1 ∧ j + c ≤ x.m + 1) ∨
    (r = 1 ∧ ∃ c1 F, c < c1 ∧ j + c ≤ c1 ∧ SA x a1 c1 ∧ SB x b1 c1 ∧ EA a1 k P Q (E ++ F) ∧ Wt g F ∧ k + (E ++ F).length + W.length ≤ x.ps c1 ∧ k' + (E ++ F).length + W.length ≤ 2 * x.ps c1 ∧ (x.kd c1 ≠ 1 → ∃ b2 cp2, gI b1 1150 0 = 0 ∧ gI b1 1151 0 = 0 ∧ cR_takeSign b1 = (if W = [] then cR_takeSign_130 0 b2 else cR_takeSign_130 1 b2) ∧ SB x b2 c1 ∧ EC b2 k' P' Q' (E ++ F) ∧ EW b2 k' W dp cp2 ∧ fr wf_cR_settleTo b1 b2)))
theorem OutE_pre {x : Cx} {aw : Bool} {b b0 : ts} {c c0 k k' : Nat} {P Q P' Q' : Nat → Int32} {E : List Op1} {W : List Ent} {dp g j0 : Nat} {r : Int32} {a1 : ts} (h : OutE x aw b c k k' P Q P' Q' E W dp g r a1) (hr : RE aw j0 b0 b) (hf : fr wf_cR_takeExp b0 b) (hc : j0 + c0 ≤ c) : OutE x aw b0 c0 k k' P Q P' Q' E W dp g r a1 := by
  obtain ⟨j, b1, h1, h2, h3, h4⟩ := h
  refine ⟨j0 + j, b1, RE_tr hr h1, fr_tr hf h2, h3, ?_⟩
  rcases h4 with ⟨z1, z2, z3⟩ | ⟨z1, c1, F, z2, z3, z4⟩
  · exact Or.inl ⟨z1, z2, by omega⟩
  · exact Or.inr ⟨z1, c1, F, by omega, by omega, z4⟩
def PE (x : Cx) (L : Nat → List Int64) (T : List (Nat × Nat)) (aw : Bool) (f : Int32 → ts → Option (Int32 × ts)) (dp : Nat) : Prop :=
  ∀ (a b : ts) (c k k' : Nat) (P Q P' Q' : Nat → Int32) (E : List Op1) (W : List Ent), PreE x L T aw a b c k k' P Q P' Q' E W dp false → (∀ t, W.getLast? = some t → t.2.1 = 0) → ∃ r a1, f (nI dp) a = some (r, a1) ∧ OutE x aw b c k k' P Q P' Q' E W dp (103 - 3 * dp) r a1
/-- a skip that waits, or none -/
def Pq (r o g k e0 : Nat) (l : Int32) (V : List Ent) (A : List Op1) : Prop := (l = -2 ∧ V = [] ∧ A = []) ∨ ∃ A' p, l = nI (k + (e0 + A'.length)) ∧ V = [(o, r, e0 + A'.length, p)] ∧ A = A' ++ [(o, 0)] ∧ Wt g A'
theorem clo_mid (X Y : List Op1) (o : Nat) : clo (X ++ ((o, 0) :: Y)) X.length = X ++ ((o, nI (Y.length + 2)) :: (Y ++ [(4, 0)])) := by
  unfold clo
  have e1 : (X ++ ((o, 0) :: Y)).getD X.length (0, 0) = (o, 0) := by
    rw [List.getD_eq_getElem?_getD, List.getElem?_append_right (Nat.le_refl _), Nat.sub_self]; rfl
  have e2 : (X ++ ((o, 0) :: Y)).length + 1 - X.length = Y.length + 2 := by simp; omega
  rw [e1, e2, List.set_append_right _ _ (Nat.le_refl _), Nat.sub_self]
  simp
theorem close_ok {a : ts} {k r o g : Nat} {P Q : Nat → Int32} {E0 A B : List Op1} {l : Int32} {V : List Ent} (hp : Pq r o g k E0.length l V A) (hr : (r = 1 ∧ o = 380) ∨ (r = 2 ∧ o = 294)) (hE : EA a k P Q (E0 ++ (A ++ B))) (hB : Wt g B) (hk : k + (E0 ++ (A ++ B)).length + V.length ≤ 4000) : ∃ a1 A1, cG_closeSkip l a = some a1 ∧ EA a1 k P Q (E0 ++ A1) ∧ Wt g A1 ∧ flush (E0 ++ (A ++ B)) V = E0 ++ A1 ∧ fr [217, 2026, 2027] a a1 ∧ A1.length = (A ++ B).length + V.length := by
  rcases hp with ⟨rfl, rfl, rfl⟩ | ⟨A', p, rfl, rfl, rfl, h3⟩
  · exact ⟨a, B, closeSkip_no, hE, hB, rfl, fr_rf, rfl⟩
  · have hsk : isSk o = true := by rcases hr with ⟨_, rfl⟩ | ⟨_, rfl⟩ <;> rfl
    have hX : E0 ++ (A' ++ [(o, 0)] ++ B) = (E0 ++ A') ++ ((o, 0) :: B) := by simp
    rw [hX] at hE hk ⊢
    have hl : (E0 ++ A').length = E0.length + A'.length := by simp
    obtain ⟨a1, c1, c2, c3⟩ := closeSkip_ok (i := (E0 ++ A').length) hE (by simp at hk ⊢; omega) (by simp) (by
      rw [List.getD_eq_getElem?_getD, List.getElem?_append_right (Nat.le_refl _), Nat.sub_self]; exact hsk)
    rw [clo_mid] at c2
    refine ⟨a1, A' ++ ((o, nI (B.length + 2)) :: (B ++ [(4, 0)])), ?_, by rw [← List.append_assoc]; exact c2, Wt.sk (by omega) h3 hB, ?_, c3, by simp; omega⟩
    · rw [← hl]; exact c1
    · show st1 ((E0 ++ A') ++ ((o, 0) :: B)) (o, r, E0.length + A'.length, p) = _
      unfold st1
      rw [if_pos (by dsimp only; omega)]
      dsimp only
      rw [← hl, clo_mid, List.append_assoc]
theorem Pq_last {r o g k e0 : Nat} {l : Int32} {W V : List Ent} {A : List Op1} (h : Pq r o g k e0 l V A) (n : Nat) (hr : r < n) (hW : ∀ t, W.getLast? = some t → t.2.1 < n) : ∀ t, (W ++ V).getLast? = some t → t.2.1 < n := by
  rcases h with ⟨_, rfl, _⟩ | ⟨A', p, _, rfl, _, _⟩
  · rw [List.append_nil]; exact hW
  · intro t ht
    rw [List.getLast?_concat] at ht
    rw [← Option.some.inj ht]; exact hr
theorem Pq_vt {r o g k e0 : Nat} {l : Int32} {V : List Ent} {A : List Op1} (h : Pq r o g k e0 l V A) (hr : (r = 1 ∧ o = 380) ∨ (r = 2 ∧ o = 294)) : ∀ t, t ∈ V → VT t ∧ t.2.1 = r := by
  rcases h with ⟨_, rfl, _⟩ | ⟨A', p, _, rfl, _, _⟩
  · intro t ht; cases ht
  · intro t ht
    rw [List.mem_singleton.mp ht]
    refine ⟨?_, rfl⟩
    rcases hr with ⟨h1, h2⟩ | ⟨h1, h2⟩
    · exact Or.inl ⟨h1, h2⟩
    · exact Or.inr (Or.inl ⟨h1, h2⟩)
theorem Pq_gp {r o g k : Nat} {l : Int32} {V : List Ent} {E0 A G : List Op1} (h : Pq r o g k E0.length l V A) (hr : (r = 1 ∧ o = 380) ∨ (r = 2 ∧ o = 294)) : GP (E0 ++ (A ++ G)) V := by
  have hsk : isSk o = true := by rcases hr with ⟨_, rfl⟩ | ⟨_, rfl⟩ <;> rfl
  rcases h with ⟨_, rfl, _⟩ | ⟨A', p, _, rfl, rfl, _⟩
  · intro t ht; cases ht
  · intro t ht _
    rw [List.mem_singleton.mp ht]
    have hX : E0 ++ (A' ++ [(o, 0)] ++ G) = (E0 ++ A') ++ ((o, 0) :: G) := by simp
    have hl : (E0 ++ A').length = E0.length + A'.length := by simp
    dsimp only
    rw [hX, ← hl]
    refine ⟨by simp, ?_⟩
    rw [List.getD_eq_getElem?_getD, List.getElem?_append_right (Nat.le_refl _), Nat.sub_self]; exact hsk
theorem GP_two {E : List Op1} {U V : List Ent} (h1 : GP E U) (h2 : GP E V) : GP E (U ++ V) := by
  intro t ht hr
  rcases List.mem_append.mp ht with z | z
  · exact h1 t z hr
  · exact h2 t z hr
theorem n9s_two (U V : List Ent) : n9s (U ++ V) = n9s U + n9s V := by
  induction U with
  | nil => show n9s V = 0 + n9s V; omega
  | cons t r ih => show n9 t + n9s (r ++ V) = n9 t + n9s r + n9s V; rw [ih]; omega
theorem n9s_r {V : List Ent} (h : ∀ t, t ∈ V → ¬ t.2.1 = 9) : n9s V = 0 := by
  induction V with
  | nil => rfl
  | cons t s ih =>
    show n9 t + n9s s = 0
    rw [ih (fun u hu => h u (List.mem_cons_of_mem _ hu))]
    unfold n9
    rw [if_neg (h t List.mem_cons_self)]
