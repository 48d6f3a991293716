/-! SIGNS: the reference behind a one. -/
theorem rk_k1 : ∀ k, k < 600 → 1 ≤ rk k → (if rk k = 1 ∨ rk k = 2 then rt k else rc (k, 0)) = rt k ∧ rk k < 6 := by decide +kernel
theorem rk_k2 {k : Nat} (h : 1 ≤ rk k) : (rk k = 1 ∧ k = 380) ∨ (rk k = 2 ∧ k = 294) ∨ (rk k = 3 ∧ (k = 60 ∨ k = 62 ∨ k = 316 ∨ k = 318 ∨ k = 317 ∨ k = 289)) ∨ (rk k = 4 ∧ (k = 43 ∨ k = 45)) ∨ (rk k = 5 ∧ (k = 42 ∨ k = 47 ∨ k = 37)) ∨ (rk k = 9 ∧ (k = 3 ∨ k = 33)) := by
  by_cases h1 : k = 380
  · subst h1; exact Or.inl ⟨rfl, rfl⟩
  by_cases h2 : k = 294
  · subst h2; exact Or.inr (Or.inl ⟨rfl, rfl⟩)
  by_cases h3 : k = 60 ∨ k = 62 ∨ k = 316 ∨ k = 318 ∨ k = 317 ∨ k = 289
  · refine Or.inr (Or.inr (Or.inl ⟨?_, h3⟩))
    unfold rk
    rw [if_neg h1, if_neg h2, if_pos h3]
  by_cases h4 : k = 43 ∨ k = 45
  · refine Or.inr (Or.inr (Or.inr (Or.inl ⟨?_, h4⟩)))
    unfold rk
    rw [if_neg h1, if_neg h2, if_neg h3, if_pos h4]
  by_cases h5 : k = 42 ∨ k = 47 ∨ k = 37
  · refine Or.inr (Or.inr (Or.inr (Or.inr (Or.inl ⟨?_, h5⟩))))
    unfold rk
    rw [if_neg h1, if_neg h2, if_neg h3, if_neg h4, if_pos h5]
  unfold rk at h
  rw [if_neg h1, if_neg h2, if_neg h3, if_neg h4, if_neg h5] at h
  omega
theorem rk_k (k : Nat) (hk : k < 600) (h : 1 ≤ rk k) : (if rk k = 1 ∨ rk k = 2 then rt k else rc (k, 0)) = rt k ∧ rk k < 6 ∧ ((rk k = 1 ∧ k = 380) ∨ (rk k = 2 ∧ k = 294) ∨ (rk k = 3 ∧ (k = 60 ∨ k = 62 ∨ k = 316 ∨ k = 318 ∨ k = 317 ∨ k = 289)) ∨ (rk k = 4 ∧ (k = 43 ∨ k = 45)) ∨ (rk k = 5 ∧ (k = 42 ∨ k = 47 ∨ k = 37)) ∨ (rk k = 9 ∧ (k = 3 ∨ k = 33))) := ⟨(rk_k1 k hk h).1, (rk_k1 k hk h).2, rk_k2 h⟩
theorem ec_rk {k a : Nat} {p : Bool} (hk : k < 600) (h : 1 ≤ rk k) : ec (k, rk k, a, p) = rt k := by
  unfold ec
  dsimp only
  rw [if_neg (fun z => by omega)]
  exact (rk_k k hk h).1
theorem VT_rk {k a : Nat} {p : Bool} (hk : k < 600) (h : 1 ≤ rk k) : VT (k, rk k, a, p) := (rk_k k hk h).2.2
theorem takeSign_op {x : Cx} (hx : x.Ok) {b : ts} {c k dp : Nat} {P Q : Nat → Int32} {E : List Op1} {W0 V : List Ent} {cp : Bool} (hb : SB x b c) (hk1 : x.kd c ≠ 1) (hr : 1 ≤ rk (x.kd c)) (h3 : rk (x.kd c) = 3 → cp = false) (hE : EC b k P Q E) (hW : EW b k (W0 ++ V) dp cp) (hW0 : ∀ t, W0.getLast? = some t → t.2.1 < rk (x.kd c)) (hV : ∀ t, t ∈ V → VT t ∧ rk (x.kd c) ≤ t.2.1) (hl : (W0 ++ V).length < 4100) (hk : k + E.length + V.length < 9000) (hg : GP E V) (hn : n9s V = 0) : ∃ b1, cR_takeSign b = some b1 ∧ SB x b1 (c + 1) ∧ EC b1 k P Q (flush E V ++ (if rk (x.kd c) < 3 then [(x.kd c, 0)] else [])) ∧ EW b1 k (W0 ++ [(x.kd c, rk (x.kd c), (flush E V).length, cp)]) dp (if rk (x.kd c) < 3 then false else (cp || Nat.beq (rk (x.kd c)) 3)) ∧ gI b1 1150 0 = 1 ∧ fr wf_cR_takeSign b b1 := by
  have hlt := hx.lt c
  have hge : 2 ≤ x.kd c := by
    have := (rk_k _ hlt hr).2.2
    omega
  obtain ⟨x1, x2, x3, x4, x5, x6⟩ := hb.nx.2 hk1
  have x2 : gI b 1106 0 = nI (rt (x.kd c)) := x2
  have hr6 := (rk_k _ hlt hr).2.1
  obtain ⟨b1, s1, s2, s3, s4⟩ := settleTo_ok ⟨hr, by omega⟩ hW0 hE hW hV hl (by omega) hg (by omega)
  rw [hn, Nat.sub_zero] at s3
  have t1 : gI b1 1106 0 = nI (rt (x.kd c)) := by rw [s4.1 1106 rfl]; exact x2
  have hb1 : SB x b1 c := SB_fr s4 rfl rfl hb
  have hl0 : W0.length < 4100 := by simp at hl; omega
  have hfl := flush_len V E
  have w1 := wait1_run s3 hl0 (nI (rt (x.kd c))) (nI (rk (x.kd c)))
  rw [← ec_rk (a := (flush E V).length) (p := cp) hlt hr] at w1
  have e0 : cR_takeSign b = cR_takeSign_22 (nI (rk (x.kd c))) b := by
    unfold cR_takeSign
    rw [x2, rankOf_ok hx hk1, Option.bind_some]
    dsimp only
    by_cases h : rk (x.kd c) = 3
    · rw [h, if_pos (by decide), hW.c, h3 h, if_pos (by decide)]
    · rw [if_neg (show ¬ nI (rk (x.kd c)) = (3 : Int32) from fun z => h (nI_inj (a := rk (x.kd c)) (b := 3) (by omega) (by decide) z))]
  have e1 : cR_takeSign_22 (nI (rk (x.kd c))) b = (if (3 : Int32) ≤ nI (rk (x.kd c)) then cR_takeSign_78 (nI (rk (x.kd c))) (wtW b1 W0.length (nI (rt (x.kd c))) (nI (rk (x.kd c))) (bI cp)) else (if nI (rk (x.kd c)) = (1 : Int32) then cR_takeSign_68 (nI (rk (x.kd c))) (nI W0.length) 12 (wtW b1 W0.length (nI (rt (x.kd c))) (nI (rk (x.kd c))) (bI cp)) else cR_takeSign_68 (nI (rk (x.kd c))) (nI W0.length) 11 (wtW b1 W0.length (nI (rt (x.kd c))) (nI (rk (x.kd c))) (bI cp)))) := by
    unfold cR_takeSign_22
    rw [if_neg (nI_nle hr (by omega)), s1, Option.bind_some, t1, wait1_run s3 hl0, Option.bind_some]
    have : gI (wtW b1 W0.length (nI (rt (x.kd c))) (nI (rk (x.kd c))) (bI cp)) 1142 0 - 1 = nI W0.length := by
      unfold wtW
      rw [gI_wIs, nI_pred]
    rw [this]
  have fin : ∀ (b2 : ts) (cp2 : Bool), SB x b2 c → fr wf_cR_takeSign b b2 → EC b2 k P Q (flush E V ++ (if rk (x.kd c) < 3 then [(x.kd c, 0)] else [])) → EW b2 k (W0 ++ [(x.kd c, rk (x.kd c), (flush E V).length, cp)]) dp cp2 → (if rk (x.kd c) < 3 then false else (cp || Nat.beq (rk (x.kd c)) 3)) = (cp2 || Nat.beq (rk (x.kd c)) 3) → ∃ b3, cR_takeSign_78 (nI (rk (x.kd c))) b2 = some b3 ∧ SB x b3 (c + 1) ∧ EC b3 k P Q (flush E V ++ (if rk (x.kd c) < 3 then [(x.kd c, 0)] else [])) ∧ EW b3 k (W0 ++ [(x.kd c, rk (x.kd c), (flush E V).length, cp)]) dp (if rk (x.kd c) < 3 then false else (cp || Nat.beq (rk (x.kd c)) 3)) ∧ gI b3 1150 0 = 1 ∧ fr wf_cR_takeSign b b3 := by
    intro b2 cp2 q1 q2 q3 q4 q5
    rw [q5]
    have r1 : cR_takeSign_78 (nI (rk (x.kd c))) b2 = cR_takeSign_96 (bI (cp2 || Nat.beq (rk (x.kd c)) 3)) b2 := by
      unfold cR_takeSign_78
      rw [q4.c]
      cases cp2 with
      | true => rw [if_neg (by decide)]; rfl
      | false =>
        rw [if_pos (by decide)]
        by_cases h : rk (x.kd c) = 3
        · rw [h, if_pos (by decide)]; rfl
        · rw [if_neg (show ¬ nI (rk (x.kd c)) = (3 : Int32) from fun z => h (nI_inj (a := rk (x.kd c)) (b := 3) (by omega) (by decide) z)), beq_n h]; rfl
    have hv : bI (cp2 || Nat.beq (rk (x.kd c)) 3) = 0 ∨ bI (cp2 || Nat.beq (rk (x.kd c)) 3) = 1 := by cases (cp2 || Nat.beq (rk (x.kd c)) 3) <;> simp [bI]
    have f3 : fr [1149, 1150] b2 (wI (wI b2 1149 0 (bI (cp2 || Nat.beq (rk (x.kd c)) 3))) 1150 0 1) := fr_wI (fr_wI fr_rf rfl) rfl
    obtain ⟨b3, n1, n2, n3⟩ := nxt_ok hx (SB_fr f3 rfl rfl q1) hge
    refine ⟨b3, ?_, n2, EC_fr n3 rfl (EC_fr f3 rfl q3), ?_, ?_, fr_tr q2 (fr_tr (fr_mono (by decide +kernel) f3) (fr_mono (by decide +kernel) n3))⟩
    · rw [r1]
      unfold cR_takeSign_96
      rw [if_pos hv, n1]; rfl
    · refine EW_fr n3 rfl ⟨q4.w, q4.f, q4.e, q4.d, ?_, q4.v⟩
      simp (disch := first | assumption | omega) only [sx, if_pos, if_neg, bnd, Nat.reduceEqDiff, Nat.reduceAdd, Nat.reduceMul, Nat.reduceSub, and_true, true_and, and_false, false_and, or_true, true_or, or_false, false_or, if_true, if_false, eq_self, not_true, not_false_eq_true]
    · rw [n3.1 1150 rfl]; simp (disch := first | assumption | omega) only [sx, if_pos, if_neg, bnd, Nat.reduceEqDiff, Nat.reduceAdd, Nat.reduceMul, Nat.reduceSub, and_true, true_and, and_false, false_and, or_true, true_or, or_false, false_or, if_true, if_false, eq_self, not_true, not_false_eq_true]
  rw [e0, e1]
  generalize hu : wtW b1 W0.length (nI (rt (x.kd c))) (nI (rk (x.kd c))) (bI cp) = u at *
  have fu : fr [1142, 2112, 2113, 2114, 2115] b1 u := by rw [← hu]; exact fr_wtW
  have fub : fr wf_cR_takeSign b u := fr_tr (fr_mono (by decide +kernel) s4) (fr_mono (by decide +kernel) fu)
  have hEu : EC u k P Q (flush E V) := EC_fr fu rfl s2
  have hSu : SB x u c := SB_fr fu rfl rfl hb1
  have hu' : wtW b1 W0.length (nI (ec (x.kd c, rk (x.kd c), (flush E V).length, cp))) (nI (rk (x.kd c))) (bI cp) = u := by rw [ec_rk hlt hr]; exact hu
  have h114 : ∀ j, j < W0.length → gA u 114 j = gA b1 114 j := by
    intro j hj
    rw [← hu]
    unfold wtW
    simp (disch := first | assumption | omega) only [sx, if_pos, if_neg, bnd, Nat.reduceEqDiff, Nat.reduceAdd, Nat.reduceMul, Nat.reduceSub, and_true, true_and, and_false, false_and, or_true, true_or, or_false, false_or, if_true, if_false, eq_self, not_true, not_false_eq_true]
  by_cases hr3 : rk (x.kd c) < 3
  · have go : ∀ (t3 : Int32), t3 = nI (rc (x.kd c, 0)) → ∃ b3, cR_takeSign_68 (nI (rk (x.kd c))) (nI W0.length) t3 u = some b3 ∧ SB x b3 (c + 1) ∧ EC b3 k P Q (flush E V ++ (if rk (x.kd c) < 3 then [(x.kd c, 0)] else [])) ∧ EW b3 k (W0 ++ [(x.kd c, rk (x.kd c), (flush E V).length, cp)]) dp (if rk (x.kd c) < 3 then false else (cp || Nat.beq (rk (x.kd c)) 3)) ∧ gI b3 1150 0 = 1 ∧ fr wf_cR_takeSign b b3 := by
      intro t3 ht3
      obtain ⟨a1, a2⟩ := add_ok (c := t3) (v := 0) (o := (x.kd c, 0)) hEu (by omega) ht3 (rA_0 _ _).symm
      have f4 : fr [1139, 1149, 2110, 2111, 2114] u (wI (wA (cdW u (k + (flush E V).length) t3 0) 114 W0.length (nI (k + (flush E V).length))) 1149 0 0) := fr_wI (fr_wA (fr_mono (by decide +kernel) fr_cdW) rfl) rfl
      obtain ⟨b3, y1, y2⟩ := fin (wI (wA (cdW u (k + (flush E V).length) t3 0) 114 W0.length (nI (k + (flush E V).length))) 1149 0 0) false (SB_fr f4 rfl rfl hSu) (fr_tr fub (fr_mono (by decide +kernel) f4)) (by rw [if_pos hr3]; exact EC_fr (W := [1149, 2114]) (fr_wI (fr_wA fr_rf rfl) rfl) rfl a2) (wait1_ok s3 hl0 (x.kd c, rk (x.kd c), (flush E V).length, cp) rfl _ (by rw [hu']; exact fr_mono (by decide +kernel) f4) dp false (by rw [f4.1 1148 rfl, fu.1 1148 rfl]; exact s3.d) (by simp (disch := first | assumption | omega) only [sx, if_pos, if_neg, bnd, Nat.reduceEqDiff, Nat.reduceAdd, Nat.reduceMul, Nat.reduceSub, and_true, true_and, and_false, false_and, or_true, true_or, or_false, false_or, if_true, if_false, eq_self, not_true, not_false_eq_true]; rfl) (by
          intro j hj
          rw [gA_wI, gA_wA, if_neg (by omega)]
          show gA (cdW u (k + (flush E V).length) t3 0) 114 j = _
          rw [fr_cdW.2.1 114 rfl, h114 j hj]) (fun _ => by rw [gA_wI, gA_wA, if_pos ⟨rfl, rfl⟩])) (by rw [if_pos hr3, beq_n (by omega)]; rfl)
      refine ⟨b3, ?_, y2⟩
      unfold cR_takeSign_68
      rw [a1, Option.bind_some]
      dsimp only
      rw [if_pos (nI_idx hl0 (by decide)), nI_clamp (by omega)]
      exact y1
    rw [if_neg (show ¬ (3 : Int32) ≤ nI (rk (x.kd c)) from nI_ge (b := 3) hr3 (by decide))]
    rcases (rk_k _ hlt hr).2.2 with z | z | z | z | z | z
    · rw [if_pos (show nI (rk (x.kd c)) = (1 : Int32) by rw [z.1]; rfl)]
      exact go 12 (by rw [z.2]; rfl)
    · rw [if_neg (show ¬ nI (rk (x.kd c)) = (1 : Int32) by rw [z.1]; decide)]
      exact go 11 (by rw [z.2]; rfl)
    · omega
    · omega
    · omega
    · omega
  · rw [if_pos (show (3 : Int32) ≤ nI (rk (x.kd c)) from nI_le (a := 3) (by omega) (by omega))]
    exact fin u cp hSu fub (by rw [if_neg hr3, List.append_nil]; exact hEu) (wait1_ok s3 hl0 (x.kd c, rk (x.kd c), (flush E V).length, cp) rfl u (by rw [hu']; exact fr_rf) dp cp (by rw [fu.1 1148 rfl]; exact s3.d) (by rw [fu.1 1149 rfl]; exact s3.c) h114 (fun z => by exfalso; dsimp only at z; omega)) (by rw [if_neg hr3])
/-- no sign that goes on: all up to the last opened one is settled -/
theorem takeSign_no {x : Cx} (hx : x.Ok) {b : ts} {c k dp : Nat} {P Q : Nat → Int32} {E : List Op1} {W0 V : List Ent} {cp : Bool} (hb : SB x b c) (hk1 : x.kd c ≠ 1) (hr : rk (x.kd c) = 0 ∨ (rk (x.kd c) = 3 ∧ cp = true)) (hE : EC b k P Q E) (hW : EW b k (W0 ++ V) dp cp) (hW0 : ∀ t, W0.getLast? = some t → t.2.1 = 0) (hV : ∀ t, t ∈ V → VT t) (hl : (W0 ++ V).length < 4100) (hk : k + E.length + V.length < 9000) (hg : GP E V) (hn : n9s V = 0) : ∃ b1, cR_takeSign b = (if W0 = [] then cR_takeSign_130 0 b1 else cR_takeSign_130 1 b1) ∧ SB x b1 c ∧ EC b1 k P Q (flush E V) ∧ EW b1 k W0 dp cp ∧ fr wf_cR_settleTo b b1 := by
  have hlt := hx.lt c
  obtain ⟨x1, x2, x3, x4, x5, x6⟩ := hb.nx.2 hk1
  have x2 : gI b 1106 0 = nI (rt (x.kd c)) := x2
  obtain ⟨b1, s1, s2, s3, s4⟩ := settleTo_ok (r := 1) ⟨by omega, by omega⟩ (fun t ht => by rw [hW0 t ht]; omega) hE hW (fun t ht => ⟨hV t ht, (VT_c (hV t ht)).1⟩) hl (by omega) hg (by omega)
  rw [hn, Nat.sub_zero] at s3
  refine ⟨b1, ?_, SB_fr s4 rfl rfl hb, s2, s3, s4⟩
  have e0 : cR_takeSign b = cR_takeSign_22 0 b := by
    unfold cR_takeSign
    rw [x2, rankOf_ok hx hk1, Option.bind_some]
    dsimp only
    rcases hr with h | ⟨h, h2⟩
    · rw [h, if_neg (by decide)]; rfl
    · rw [h, if_pos (by decide), hW.c, h2, if_neg (by decide)]
  rw [e0]
  unfold cR_takeSign_22
  rw [if_pos (Int32.le_refl _), show (1 : Int32) = nI 1 from rfl, s1, Option.bind_some, s3.w, s3.f]
  by_cases h0 : W0 = []
  · rw [h0, if_pos rfl, if_pos (show nI ([] : List Ent).length ≤ nI 0 from Int32.le_refl _)]
  · rw [if_neg h0, if_neg (nI_ge (List.length_pos_iff.mpr h0) (by simp at hl; omega))]
