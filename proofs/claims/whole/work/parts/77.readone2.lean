theorem fo_lt (L : Nat → List Int64) (aw : Bool) (k : Nat) (w : Int64) : fo L aw k w < 6 := by
  unfold fo
  split
  · split <;> omega
  · split
    · omega
    · split
      · split <;> omega
      · omega
theorem fo_0 {L : Nat → List Int64} {aw : Bool} {k : Nat} {w : Int64} (h : fo L aw k w = 0) : k = 2 ∨ k = 3 ∨ k = 33 ∨ k = 40 ∨ k = 45 ∨ k = 531 ∨ k = 532 ∨ k = 533 ∨ k = 534 ∨ k = 535 := by
  unfold fo at h
  split at h
  · omega
  · split at h
    · omega
    · split at h
      · omega
      · cases h
theorem GP_rest {E : List Op1} {W : List Ent} {t : Ent} (h : GP E W) (ht : t.2.1 = 0 ∨ t.2.1 = 9) : GP E (W ++ [t]) := by
  intro u hu hr
  rcases List.mem_append.mp hu with z | z
  · exact h u z hr
  · rw [List.mem_singleton.mp z] at hr; omega
theorem VT_un {o a : Nat} {p : Bool} (h : o = 3 ∨ o = 33) : VT (o, 9, a, p) := Or.inr (Or.inr (Or.inr (Or.inr (Or.inr ⟨rfl, h⟩))))
theorem readOne_po {x : Cx} (hx : x.Ok) {L : Nat → List Int64} {T : List (Nat × Nat)} {aw : Bool} (hd : ND L) {rc : Nat → Int32 → ts → Option (Int32 × ts)} (hfr : ∀ w i s r, rc w i s = some r → fr wf_clF s r.2) {dp : Nat} (hdp : dp ≤ 31) (h3 : dp < 31 → PO x L T aw (rc 3) (dp + 1) ∧ BD x (rc 3) (dp + 1)) (h4 : dp < 31 → PI1 x L T aw (rc 4) (dp + 1) ∧ BD x (rc 4) (dp + 1)) : PO x L T aw (cF_readOne rc) dp := by
  intro a b c k k' P Q P' Q' E W U cp pre hU hWl hUl
  have hlt := hx.lt c
  have hpn := hx.pn c
  have hn := hx.n
  have hk1 := pre.k1
  have hg := pre.rx.sb.g hk1
  have hlk := pre.lk
  have hlc := pre.lc
  have hWU : (W ++ U).length ≤ 4000 := by omega
  have hcb : CB b := ⟨_, by omega, pre.ec.n, pre.ew.f⟩
  have hcl := pre.rx.sa.l
  have efo := faultOfOne_ok hx hd pre.rx
  have eto := takeOne_ok hx pre.rx hk1 pre.ew.d (by omega)
  have hfl := fo_lt L aw (x.kd c) (x.vl c)
  -- at fault
  have bad : ∀ f : Nat, 0 < f → f < 10 → cF_readOne rc (nI dp) a = (cT_fail (nI f) a).bind (fun x70 => some (x70.1, x70.2)) → cR_takeOne (bI aw) b = cR_need 0 (nI f) b → ∃ r a1, cF_readOne rc (nI dp) a = some (r, a1) ∧ OutOne x aw b c k k' P Q P' Q' E W U dp cp (100 - 3 * dp) r a1 := by
    intro f hf0 hf10 e1 e2
    obtain ⟨a1, b1, f1, f2, f3, f4, f5⟩ := fail_both hx pre.rx.sa pre.rx.sb hk1 (nI f) (nI_ne0 hf0 (by omega))
    refine ⟨0, a1, by rw [e1, f1]; rfl, 1, b1, RE_one (by have := pre.ew.v; exact this) hg pre.on (e2.trans f2), fr_mono (by decide +kernel) f5, CB_fr f5 rfl hcb, Or.inl ⟨rfl, f3, by omega⟩⟩
  by_cases hf : fo L aw (x.kd c) (x.vl c) = 0
  · rw [if_pos hf] at eto
    by_cases h30 : 30 < dp
    · rw [if_pos h30] at eto
      refine bad 5 (by omega) (by omega) ?_ eto
      unfold cF_readOne
      rw [efo, hf, Option.bind_some]
      dsimp only
      rw [if_pos (show nI 0 = (0 : Int32) from rfl), if_neg (show ¬ nI dp ≤ (30 : Int32) from nI_ge (a := 30) h30 (by omega))]
      unfold cF_readOne_17
      rw [if_neg (by decide)]
      rfl
    · rw [if_neg h30] at eto
      have hkk := fo_0 hf
      have hk2 : 2 ≤ x.kd c := by omega
      have hcm := hx.lm hcl hk2
      have hp1 := hx.p1 hk2
      have hpn2 := hx.pn (c + 1)
      obtain ⟨v1, v2⟩ := adv_ok hx pre.rx.sa hcm
      have hEav : EA (av x a (c + 1)) k P Q E := EA_fr fr_av rfl pre.ea
      obtain ⟨r1, r2, r3, r4, r5, r6⟩ := rt_tab _ hlt (x.kv c) hk1
      have x2 : gI b 1106 0 = nI (rt (x.kd c)) := (pre.rx.sb.nx.2 hk1).2.1
      have lit1 : ∀ k : Nat, k < 600 → (gI b 1106 0 = nI k ↔ rt (x.kd c) = k) := by
        intro k hk
        rw [x2]
        exact ⟨fun z => nI_inj (by omega) (by omega) z, fun z => by rw [z]⟩
      have l45 : gI b 1106 0 = 45 ↔ x.kd c = 45 := (lit1 45 (by omega)).trans r3
      have l33 : gI b 1106 0 = 33 ↔ x.kd c = 33 := (lit1 33 (by omega)).trans r4
      have l40 : gI b 1106 0 = 40 ↔ x.kd c = 40 := (lit1 40 (by omega)).trans r5
      have c17 : cF_readOne rc (nI dp) a = cF_readOne_17 rc (nI dp) 0 a := by
        unfold cF_readOne
        rw [efo, hf, Option.bind_some]
        dsimp only
        rw [if_pos (show nI 0 = (0 : Int32) from rfl), if_pos (show nI dp ≤ (30 : Int32) from nI_le (b := 30) (by omega) (by decide))]
        rfl
      have hki : ∀ q : Nat, q < 600 → x.kd c ≠ q → ¬ gI a 107 0 = nI q := fun q hq hne z => by rw [pre.rx.sa.ki] at z; exact hne (nI_inj (by omega) (by omega) z)
      have hd1 : nI dp + (1 : Int32) = nI (dp + 1) := nI_add _ 1
      have hre : ∀ b1, cR_takeOne (bI aw) b = some b1 → RE aw 1 b b1 := fun b1 h => RE_one (by have := pre.ew.v; exact this) hg pre.on h
      have hop : x.kd c = 2 ∨ x.kd c = 3 ∨ x.kd c = 531 ∨ x.kd c = 532 ∨ x.kd c = 534 ∨ x.kd c = 535 → ¬ rvI (x.kd c) = 21 := by
        rintro (e | e | e | e | e | e) <;> rw [e] <;> decide
      have htO : x.kd c = 2 ∨ x.kd c = 3 ∨ x.kd c = 531 ∨ x.kd c = 532 ∨ x.kd c = 534 ∨ x.kd c = 535 → tO (rvI (x.kd c)) b = (cR_takePlain (rvI (x.kd c)) b).bind (fun s8 => (cR_next s8).bind (fun s11 => (cR_good s11).bind (fun x15 => (if x15.1 = ((0 : Int32)) then some x15.2 else (cR_endOne x15.2).bind (fun s17 => some s17))))) := by
        intro hh
        unfold tO
        rw [if_neg (fun z => by have := l45.mp z; omega), if_neg (fun z => by have := l33.mp z; omega), if_neg (fun z => by have := l40.mp z; omega), if_neg (hop hh)]
      by_cases hleaf : x.kd c = 2 ∨ x.kd c = 3 ∨ x.kd c = 531 ∨ x.kd c = 532
      · -- a plain one
        obtain ⟨b1, p1, p2, p3, p4⟩ := takePlain_leaf hx pre.rx hleaf hf pre.ec (by omega)
        obtain ⟨b2, q1, q2, q3, q4, q5⟩ := plain_end hx (SB_fr p3 rfl rfl pre.rx.sb) hk2 p2 (EW_fr p3 rfl pre.ew) hU hWl hUl (by simp at hlc ⊢; omega) (by omega)
        have hR : cR_takeOne (bI aw) b = some b2 := by rw [eto, htO (by omega), p1, Option.bind_some]; exact q1
        have hls : isSk (lo L (x.kd c) (x.vl c)).1 = false := by
          rcases hleaf with e | e | e | e <;> rw [e] <;> rfl
        obtain ⟨a1, a2⟩ := addOp_ok (o := (lo L (x.kd c) (x.vl c)).1) (v := (lo L (x.kd c) (x.vl c)).2) hEav (by simp at hlk; omega) (fun z => by rw [hls] at z; cases z)
        have hna := NA_fr (fr_av (x := x) (a := a) (c := c + 1)) rfl pre.rx.na
        have cls : cF_readOne rc (nI dp) a = some (1, opW (av x a (c + 1)) (k + E.length) (lo L (x.kd c) (x.vl c)).1 (lo L (x.kd c) (x.vl c)).2) := by
          rw [c17]
          unfold cF_readOne_17
          rw [if_pos rfl, word_ok hx pre.rx.sa, Option.bind_some]
          dsimp only
          rw [v1, Option.bind_some, pre.rx.sa.ki]
          rcases hleaf with e | e | e | e
          · rw [e] at a1 ⊢
            rw [if_pos (by decide), value_ok hna hd, Option.bind_some]
            show (cG_addOp (nI 2) (oi (-2) (fv L (x.vl c))) _).bind _ = _
            have a1 : cG_addOp (nI 2) (oi (-2) (fv L (x.vl c))) (av x a (c + 1)) = _ := a1
            rw [a1]; rfl
          · rw [e] at a1 ⊢
            rw [if_neg (by decide), if_pos (by decide)]
            have a1 : cG_addOp 1 (x.vl c).toInt32 (av x a (c + 1)) = _ := a1
            rw [a1]; rfl
          · rw [e] at a1 ⊢
            rw [if_neg (by decide), if_neg (by decide), if_neg (by decide), if_neg (by decide), if_pos (by decide)]
            have a1 : cG_addOp (nI 531) 0 (av x a (c + 1)) = _ := a1
            rw [a1]; rfl
          · rw [e] at a1 ⊢
            rw [if_neg (by decide), if_neg (by decide), if_neg (by decide), if_neg (by decide), if_neg (by decide), if_pos (by decide)]
            have a1 : cG_addOp (nI 532) 0 (av x a (c + 1)) = _ := a1
            rw [a1]; rfl
        refine ⟨1, _, cls, 1, b2, hre _ hR, fr_mono (by decide +kernel) (cR_takeOne_fr _ _ _ hR), q3, Or.inr ⟨rfl, c + 1, [lo L (x.kd c) (x.vl c)], by omega, by omega, SA_fr fr_opW rfl v2, q2, a2, Wt.leaf p4 (by omega), ?_, ?_, fun hh => q4 hh⟩⟩
        · simp at hlk ⊢; omega
        · simp at hlc ⊢; omega
      · by_cases hlook : x.kd c = 534 ∨ x.kd c = 535
        · -- a look at a place
          obtain ⟨b0, n1, n2, n3⟩ := nxt_ok hx pre.rx.sb hk2
          have hrx1 := RX_fr (V := [106, 107]) (W := wf_cR_next) pre.rx fr_av n3 rfl rfl v2 n2
          obtain ⟨r, a1, b1, g1, g2, g3, g4, g5⟩ := readLook_ok hx hd hrx1 n1 hlook hEav (by simp at hlk; omega) (EC_fr n3 rfl pre.ec) (EW_fr n3 rfl pre.ew) hU hWl hUl (by omega) hWU
          have hR : cR_takeOne (bI aw) b = some b1 := by
            rw [eto, htO (by omega), ← g2]
            have hv : rvI (x.kd c) = nI (x.kd c - 512) := if_pos (by omega)
            have n3' : ¬ gI b 1106 0 = 2 := fun z => by have := r2.mp ((lit1 2 (by omega)).mp z); omega
            unfold cR_takePlain
            rw [hv, if_neg n3']
            rcases hlook with e | e
            · rw [e, if_neg (by decide), if_neg (by decide), if_pos (by decide)]
            · rw [e, if_neg (by decide), if_neg (by decide), if_neg (by decide), if_pos (by decide)]
          have cls : cF_readOne rc (nI dp) a = some (r, a1) := by
            rw [c17]
            unfold cF_readOne_17
            rw [if_pos rfl, word_ok hx pre.rx.sa, Option.bind_some]
            dsimp only
            rw [v1, Option.bind_some, pre.rx.sa.ki]
            rcases hlook with e | e
            · rw [e] at g1 ⊢
              rw [if_neg (by decide), if_neg (by decide), if_neg (by decide), if_neg (by decide), if_neg (by decide), if_neg (by decide), if_neg (by decide), if_pos (by decide), g1]; rfl
            · rw [e] at g1 ⊢
              rw [if_neg (by decide), if_neg (by decide), if_neg (by decide), if_neg (by decide), if_neg (by decide), if_neg (by decide), if_neg (by decide), if_neg (by decide), if_pos (by decide), g1]; rfl
          refine ⟨r, a1, cls, 1, b1, hre _ hR, fr_mono (by decide +kernel) (cR_takeOne_fr _ _ _ hR), g4, ?_⟩
          rcases g5 with ⟨z1, z2⟩ | ⟨z1, o, z2, z3, z4, z5, z6, z7⟩
          · exact Or.inl ⟨z1, z2, by omega⟩
          · have hk3 : 2 ≤ x.kd (c + 1) := hx.k _ z3
            have := hx.p1 hk3
            refine Or.inr ⟨z1, c + 1 + 1, [o], by omega, by omega, z4, z5, z6, Wt.leaf z2 (by omega), ?_, ?_, z7⟩
            · simp at hlk ⊢; omega
            · simp at hlc ⊢; omega
        · by_cases hun : x.kd c = 45 ∨ x.kd c = 33
          · -- a sign before a one
            obtain ⟨o, ho, hoc, hrc⟩ : ∃ o, (o = 3 ∨ o = 33) ∧ (x.kd c = 45 → o = 3) ∧ (x.kd c = 33 → o = 33) := by
              rcases hun with e | e
              · exact ⟨3, Or.inl rfl, fun _ => rfl, fun z => by omega⟩
              · exact ⟨33, Or.inr rfl, fun z => by omega, fun _ => rfl⟩
            obtain ⟨b1, u1, u2, u3, u4, u5, u6⟩ := unary_ok hx pre.rx.sb hk2 pre.ew (by omega) (by omega) ho
            have hR : cR_takeOne (bI aw) b = some b1 := by
              rw [eto, ← u1]
              unfold tO
              rcases hun with e | e
              · rw [if_pos (l45.mpr e)]
                unfold cR_takeOne_225
                rw [if_pos (l45.mpr e), hoc e]; rfl
              · rw [if_neg (fun z => by have := l45.mp z; omega), if_pos (l33.mpr e)]
                unfold cR_takeOne_225
                rw [if_neg (fun z => by have := l45.mp z; omega), hrc e]; rfl
            have cls : cF_readOne rc (nI dp) a = (rc 3 (nI (dp + 1)) (av x a (c + 1))).bind (fun x24 => (if x24.1 = ((0 : Int32)) then some ((0 : Int32), x24.2) else (cF_addRead (nI o) x24.2).bind (fun x27 => (if x27.1 = ((0 : Int32)) then some ((0 : Int32), x27.2) else some ((1 : Int32), x27.2))))) := by
              rw [c17]
              unfold cF_readOne_17
              rw [if_pos rfl, word_ok hx pre.rx.sa, Option.bind_some]
              dsimp only
              rw [v1, Option.bind_some, pre.rx.sa.ki, hd1]
              rcases hun with e | e
              · rw [e, if_neg (by decide), if_neg (by decide), if_neg (by decide), if_pos (by decide), hoc e]; rfl
              · rw [e, if_neg (by decide), if_neg (by decide), if_neg (by decide), if_neg (by decide), if_neg (by decide), if_neg (by decide), if_neg (by decide), if_neg (by decide), if_neg (by decide), hrc e]; rfl
            obtain ⟨po, bd⟩ := h3 (by omega)
            have hEb1 : EC b1 k' P' Q' E := EC_fr u6 rfl pre.ec
            have fb1 : fr wf_cR_takeExp b b1 := fr_mono (by decide +kernel) u5
            by_cases hb1 : x.kd (c + 1) = 1
            · obtain ⟨a1, d1, d2⟩ := bd _ _ v2 hb1
              exact ⟨0, a1, by rw [cls, d1]; rfl, 1, b1, hre _ hR, fb1, ⟨_, by omega, hEb1.n, u3.f⟩, Or.inl ⟨rfl, d2 _ u2, by omega⟩⟩
            · have pre1 : PreE x L T aw (av x a (c + 1)) b1 (c + 1) k k' P Q P' Q' E (W ++ (U ++ [(o, 9, 0, cp)])) (dp + 1) cp := by
                refine ⟨RX_fr (V := [106, 107]) pre.rx fr_av u6 rfl rfl v2 u2, hb1, hEav, hEb1, ?_, u4.trans pre.on, ?_, ?_, ?_⟩
                · rw [← List.append_assoc]; exact u3
                · simp at hlk ⊢; omega
                · simp at hlc ⊢; omega
                · rw [← List.append_assoc]; exact GP_rest pre.gp (Or.inr rfl)
              obtain ⟨r, a1, i1, j, b2, i2, i3, i4, i5⟩ := po _ _ _ _ _ _ _ _ _ _ _ _ _ pre1 (by
                intro t ht
                rcases List.mem_append.mp ht with z | z
                · exact hU t z
                · rw [List.mem_singleton.mp z]; exact ⟨VT_un ho, rfl⟩) hWl (by simp; omega)
              have hre2 : RE aw (1 + j) b b2 := RE_tr (hre _ hR) i2
              rcases i5 with ⟨z1, z2, z3⟩ | ⟨z1, c1, F, z2, z3, z4, z5, z6, z7, z8, z9, z10⟩
              · exact ⟨0, a1, by rw [cls, i1, z1]; rfl, 1 + j, b2, hre2, fr_tr fb1 i3, i4, Or.inl ⟨rfl, z2, by omega⟩⟩
              · have hpn1 := hx.pn c1
                obtain ⟨a2, y1, y2, y3⟩ := addRead_ok (o := o) z6 (by simp at z8 ⊢; omega) (by rcases ho with rfl | rfl <;> rfl)
                refine ⟨1, a2, ?_, 1 + j, b2, hre2, fr_tr fb1 i3, i4, Or.inr ⟨rfl, c1, F ++ [(o, 0)], by omega, by omega, SA_fr y3 rfl z4, z5, ?_, Wt.un (by omega) (z7.mono (by omega)), ?_, ?_, fun hh => ?_⟩⟩
                · rw [cls, i1, z1, Option.bind_some]
                  dsimp only
                  rw [if_neg (by decide), y1]; rfl
                · rw [← List.append_assoc]; exact y2
                · simp at z8 ⊢; omega
                · simp at z9 ⊢; omega
                · obtain ⟨w1, w2, w3⟩ := z10 hh
                  refine ⟨?_, ?_, w3⟩
                  · rw [flush_app] at w1
                    rw [← List.append_assoc]
                    exact w1
                  · rw [show dp - U.length = dp + 1 - (U ++ [(o, 9, 0, cp)]).length by rw [List.length_append, List.length_singleton]; omega]; exact w2
          · by_cases hpar : x.kd c = 40
            · -- an opened one
              obtain ⟨b1, o1, o2, o3⟩ := open_ok (o := 40) (l := 14) pre.ew (by omega) (by omega) (by cases cp <;> rfl)
              obtain ⟨b2, n1, n2, n3⟩ := nxt_ok hx (SB_fr o3 rfl rfl pre.rx.sb) hk2
              have hR : cR_takeOne (bI aw) b = some b2 := by
                rw [eto]
                unfold tO
                rw [if_neg (fun z => by have := l45.mp z; omega), if_neg (fun z => by have := l33.mp z; omega), if_pos (l40.mpr hpar), o1, Option.bind_some, n1]; rfl
              have cls : cF_readOne rc (nI dp) a = (rc 4 (nI (dp + 1)) (av x a (c + 1))).bind (fun x20 => some (x20.1, x20.2)) := by
                rw [c17]
                unfold cF_readOne_17
                rw [if_pos rfl, word_ok hx pre.rx.sa, Option.bind_some]
                dsimp only
                rw [v1, Option.bind_some, pre.rx.sa.ki, hd1, hpar, if_neg (by decide), if_neg (by decide), if_pos (by decide)]
              obtain ⟨po, bd⟩ := h4 (by omega)
              have hEb2 : EC b2 k' P' Q' E := EC_fr n3 rfl (EC_fr o3 rfl pre.ec)
              have hWb2 := EW_fr n3 rfl o2
              have fb2 : fr wf_cR_takeExp b b2 := fr_mono (by decide +kernel) (cR_takeOne_fr _ _ _ hR)
              by_cases hb1 : x.kd (c + 1) = 1
              · obtain ⟨a1, d1, d2⟩ := bd _ _ v2 hb1
                exact ⟨0, a1, by rw [cls, d1]; rfl, 1, b2, hre _ hR, fb2, ⟨_, by omega, hEb2.n, hWb2.f⟩, Or.inl ⟨rfl, d2 _ n2, by omega⟩⟩
              · have pre1 : PreE x L T aw (av x a (c + 1)) b2 (c + 1) k k' P Q P' Q' E (W ++ U ++ [(40, 0, 0, cp)]) (dp + 1) false := by
                  refine ⟨RX_fr (V := [106, 107]) (W := wf_cR_takeExp) pre.rx fr_av fb2 rfl rfl v2 n2, hb1, hEav, hEb2, hWb2, ?_, ?_, ?_, GP_rest pre.gp (Or.inl rfl)⟩
                  · rw [n3.1 1150 rfl, o3.1 1150 rfl]; exact pre.on
                  · simp at hlk ⊢; omega
                  · simp at hlc ⊢; omega
                obtain ⟨r, a1, i1, j, b3, i2, i3, i4, i5⟩ := po _ _ _ _ _ _ _ _ _ _ _ _ _ _ pre1 (Or.inl rfl) hU hWl (by omega)
                have hre2 : RE aw (1 + j) b b3 := RE_tr (hre _ hR) i2
                refine ⟨r, a1, by rw [cls, i1]; rfl, 1 + j, b3, hre2, fr_tr fb2 i3, i4, ?_⟩
                rcases i5 with ⟨z1, z2, z3⟩ | ⟨z1, c1, F, z2, z3, z4, z5, z6, z7, z8, z9, z10⟩
                · exact Or.inl ⟨z1, z2, by omega⟩
                · refine Or.inr ⟨z1, c1, F, by omega, by omega, z4, z5, z6, z7.mono (by omega), by omega, by omega, fun hh => ?_⟩
                  obtain ⟨w1, w2, w3⟩ := z10 hh
                  rw [if_neg (by decide), List.append_nil] at w1
                  exact ⟨w1, w2, w3⟩
            · -- a draw
              have hdr : x.kd c = 533 := by omega
              obtain ⟨b0, n1, n2, n3⟩ := nxt_ok hx pre.rx.sb hk2
              have hWb0 := EW_fr n3 rfl pre.ew
              obtain ⟨b1, o1, o2, o3⟩ := open_ok (o := 533) (l := 6) hWb0 (by omega) (by omega) (by cases cp <;> rfl)
              obtain ⟨r0, a0, b2, m1, m2, m3, m4, m5⟩ := nm_ok (q := 40) hx v2 (SB_fr o3 rfl rfl n2) (by omega)
              have hR : cR_takeOne (bI aw) b = some b2 := by
                rw [eto]
                unfold tO
                rw [if_neg (fun z => by have := l45.mp z; omega), if_neg (fun z => by have := l33.mp z; omega), if_neg (fun z => by have := l40.mp z; omega), if_pos (by rw [hdr]; decide), n1, Option.bind_some, o1, Option.bind_some]
                show (cR_must (nI 40) b1).bind _ = _
                rw [m2]; rfl
              have fb2 : fr wf_cR_takeExp b b2 := fr_mono (by decide +kernel) (cR_takeOne_fr _ _ _ hR)
              have hEb2 : EC b2 k' P' Q' E := EC_fr m5 rfl (EC_fr o3 rfl (EC_fr n3 rfl pre.ec))
              have hWb2 := EW_fr m5 rfl o2
              have hcb2 : CB b2 := ⟨_, by omega, hEb2.n, hWb2.f⟩
              have cls : cF_readOne rc (nI dp) a = (cT_need 40 (av x a (c + 1))).bind (fun x41 => (if x41.1 = ((0 : Int32)) then some ((0 : Int32), x41.2) else (rc 4 (nI (dp + 1)) x41.2).bind (fun x44 => (if x44.1 = ((0 : Int32)) then some ((0 : Int32), x44.2) else (cF_addRead ((533 : Int32)) x44.2).bind (fun x47 => (if x47.1 = ((0 : Int32)) then some ((0 : Int32), x47.2) else some ((1 : Int32), x47.2))))))) := by
                rw [c17]
                unfold cF_readOne_17
                rw [if_pos rfl, word_ok hx pre.rx.sa, Option.bind_some]
                dsimp only
                rw [v1, Option.bind_some, pre.rx.sa.ki, hd1, hdr, if_neg (by decide), if_neg (by decide), if_neg (by decide), if_neg (by decide), if_neg (by decide), if_neg (by decide), if_pos (by decide)]
              have m1 : cT_need 40 (av x a (c + 1)) = some (r0, a0) := m1
              rw [m1, Option.bind_some] at cls
              dsimp only at cls
              rcases m3 with ⟨w1, w2, w3, w4, w5⟩ | ⟨w1, w2, w3⟩
              · rw [w1, if_neg (by decide)] at cls
                have hk40 : 2 ≤ x.kd (c + 1) := by omega
                have hp2 := hx.p1 hk40
                obtain ⟨po, bd⟩ := h4 (by omega)
                by_cases hb1 : x.kd (c + 1 + 1) = 1
                · obtain ⟨a1, d1, d2⟩ := bd _ _ w4 hb1
                  exact ⟨0, a1, by rw [cls, d1]; rfl, 1, b2, hre _ hR, fb2, hcb2, Or.inl ⟨rfl, d2 _ w5, by omega⟩⟩
                · have fa0 : fr [106, 107, 108, 109] a a0 := fr_tr (fr_mono (by decide +kernel) fr_av) m4
                  have pre1 : PreE x L T aw a0 b2 (c + 1 + 1) k k' P Q P' Q' E (W ++ U ++ [(533, 0, 0, cp)]) (dp + 1) false := by
                    refine ⟨RX_fr (W := wf_cR_takeExp) pre.rx fa0 fb2 rfl rfl w4 w5, hb1, EA_fr fa0 rfl pre.ea, hEb2, hWb2, ?_, ?_, ?_, GP_rest pre.gp (Or.inl rfl)⟩
                    · rw [m5.1 1150 rfl, o3.1 1150 rfl, n3.1 1150 rfl]; exact pre.on
                    · simp at hlk ⊢; omega
                    · simp at hlc ⊢; omega
                  obtain ⟨r, a1, i1, j, b3, i2, i3, i4, i5⟩ := po _ _ _ _ _ _ _ _ _ _ _ _ _ _ pre1 (Or.inr rfl) hU hWl (by omega)
                  have hre2 : RE aw (1 + j) b b3 := RE_tr (hre _ hR) i2
                  rcases i5 with ⟨z1, z2, z3⟩ | ⟨z1, c1, F, z2, z3, z4, z5, z6, z7, z8, z9, z10⟩
                  · exact ⟨0, a1, by rw [cls, i1, z1]; rfl, 1 + j, b3, hre2, fr_tr fb2 i3, i4, Or.inl ⟨rfl, z2, by omega⟩⟩
                  · have hpn1 := hx.pn c1
                    obtain ⟨a2, y1, y2, y3⟩ := addRead_ok (o := 533) z6 (by omega) rfl
                    have y1 : cF_addRead 533 a1 = some (1, a2) := y1
                    refine ⟨1, a2, ?_, 1 + j, b3, hre2, fr_tr fb2 i3, i4, Or.inr ⟨rfl, c1, F ++ [(533, 0)], by omega, by omega, SA_fr y3 rfl z4, z5, ?_, Wt.un (by omega) (z7.mono (by omega)), ?_, ?_, fun hh => ?_⟩⟩
                    · rw [cls, i1, z1, Option.bind_some]
                      dsimp only
                      rw [if_neg (by decide), y1]; rfl
                    · rw [← List.append_assoc]; exact y2
                    · simp at z8 ⊢; omega
                    · simp at z9 ⊢; omega
                    · obtain ⟨q1, q2, q3⟩ := z10 hh
                      rw [if_pos rfl, List.append_assoc] at q1
                      exact ⟨q1, q2, q3⟩
              · exact ⟨0, a0, by rw [cls, w1]; rfl, 1, b2, hre _ hR, fb2, hcb2, Or.inl ⟨rfl, w3, by omega⟩⟩
  · rw [if_neg hf] at eto
    refine bad _ (by omega) (by omega) ?_ eto
    unfold cF_readOne
    rw [efo, Option.bind_some]
    dsimp only
    have hne : ¬ nI (fo L aw (x.kd c) (x.vl c)) = 0 := nI_ne0 (by omega) (by omega)
    rw [if_neg hne]
    unfold cF_readOne_17
    rw [if_neg hne]
