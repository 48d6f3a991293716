/-! The arguments of a start. -/
theorem exp_sx2 {x : Cx} (hx : x.Ok) {L : Nat → List Int64} {T : List (Nat × Nat)} {pm : Nat → Nat} {G : List Ln} {τ : Nat → Int32} {a b : ts} {c q K K' e D u : Nat} {aw : Bool} {BK BL : Nat → Int32} (hd : ND L) (hA : SXA x L T pm G τ a c q K e aw) (hB : SXB x L pm G τ b c q K' D BK BL u) (hk : K ≤ x.ps c) (hk' : K' ≤ 2 * x.ps c) : ∃ r a1 b1, clF 200 0 0 a = some (r, a1) ∧ cR_takeExp (bI aw) b = some (nI K', b1) ∧ fr wf_clF a a1 ∧ fr wf_cR_takeExp b b1 ∧ ((r = 0 ∧ FL a1 b1) ∨ (r = 1 ∧ ∃ c1 F, c < c1 ∧ Wt 103 F ∧ SXA x L T pm G τ a1 c1 q (K + F.length) e aw ∧ OpA a1 K F ∧ (∀ j, j < K → gA a1 26 j = gA a 26 j ∧ gA a1 27 j = gA a 27 j) ∧ SB x b1 c1 ∧ K + F.length ≤ x.ps c1 ∧ (x.kd c1 ≠ 1 → SXB x L pm G τ b1 c1 q (K' + F.length + 1) D BK BL u ∧ OpC b1 K' F ∧ Kc b b1 K' ∧ K' + F.length ≤ 2 * x.ps c1))) := by
  have hEA : EA a K (gA a 26) (gA a 27) [] := ⟨by simpa using hA.2.1.2.1, fun j o hj => by simp at hj, fun j _ => ⟨rfl, rfl⟩⟩
  have hEC : EC b K' (gA b 110) (gA b 111) [] := ⟨by simpa using hB.2.1.2.1, fun j o hj => by simp at hj, fun j _ => ⟨rfl, rfl⟩⟩
  obtain ⟨r, a1, b1, h1, h2, h3, h4, h5, h6, h7⟩ := takeExp_ok hx hd (SXA_RX hA hB) hEA hEC hB.2.1.2.2.2.1 hk hk'
  refine ⟨r, a1, b1, h1, h2, h6, h7, ?_⟩
  rcases h5 with h5 | ⟨z1, c1, F, z2, z3, z4, z5, z6, z7, z8, z9⟩
  · exact Or.inl h5
  · refine Or.inr ⟨z1, c1, F, z2, z6, SXA_step hA h6 rfl z3 z5.n (by omega) z5.p, z5.o, z5.p, z4, z7, fun hk1 => ?_⟩
    obtain ⟨w1, w2, w3, w4⟩ := z9 hk1
    exact ⟨SXB_step hB h7 rfl z4 w1 h3 (by omega) w4, ⟨w2, w3⟩, w4, z8⟩
theorem bad154 {b : ts} {g F : Nat} {v : Int32} (h : ¬ gI b 1103 0 = 0) : cR_takeStart_154 (cR_takeStart_79 (F + 1)) (nI g) v b = cR_takeStart_180 (nI g) v b := by
  have e : ∀ t, cR_takeStart_168 (cR_takeStart_79 (F + 1)) (nI g) v t b = cR_takeStart_180 (nI g) v b := by
    intro t
    unfold cR_takeStart_168
    rw [next_bad h, Option.bind_some, bad79 h]
    split <;> rfl
  unfold cR_takeStart_154
  rw [e, e]
  split <;> rfl
theorem OpA_snoc {a a1 : ts} {K : Nat} {A : List (List Op1)} {F : List Op1} (h : OpA a K A.flatten) (hs : ∀ j, j < K + A.flatten.length → gA a1 26 j = gA a 26 j ∧ gA a1 27 j = gA a 27 j) (hF : OpA a1 (K + A.flatten.length) F) : OpA a1 K (A ++ [F]).flatten := by
  rw [List.flatten_append, fl1]
  intro j o hj
  by_cases hjl : j < A.flatten.length
  · rw [List.getElem?_append_left hjl] at hj
    rw [(hs (K + j) (by omega)).1, (hs (K + j) (by omega)).2]; exact h j o hj
  · rw [List.getElem?_append_right (by omega)] at hj
    have := hF _ o hj
    rw [show K + A.flatten.length + (j - A.flatten.length) = K + j by omega] at this; exact this
theorem start_lp {x : Cx} (hx : x.Ok) {L : Nat → List Int64} {T : List (Nat × Nat)} {pm : Nat → Nat} {G : List Ln} {τ : Nat → Int32} {b : ts} {c0 q K e D p : Nat} {BK BL : Nat → Int32} {w : Int64} (hd : ND L) (hopn : (opn G).length < q) : ∀ (dd F F' : Nat) (s b1 : ts) (c m Km Km' : Nat) (A : List (List Op1)), x.m + 1 - c ≤ dd → dd < F → dd < F' → m ≤ c → A.length = m → SXA x L T pm G τ s c q Km (e + 1) false → SXB x L pm G τ b1 c q Km' D BK BL 1 → Km ≤ x.ps c → Km' ≤ 2 * x.ps c → Km = K + A.flatten.length → OpA s K A.flatten → (∀ Fx, Fx ∈ A → Wt 103 Fx) → SG b1 G.length Km' w p A → fr wSt b b1 → c0 ≤ c → ∃ r a1 b3, cD_readStart_108 (cD_readStart_71 F) w (nI p) (nI K) (nI m) (nI m) s = some (r, a1) ∧ cR_takeStart_79 (F' + 1) (nI G.length) 1 (nI m) b1 = some b3 ∧ OutT x L T pm G τ e D BK BL b c0 1 r a1 b3 := by
  intro dd
  induction dd with
  | zero =>
    intro F F' s b1 c m Km Km' A h1 h2 h3 h4 h5 hA
    exact absurd hA.1.1.l (by omega)
  | succ dd ih =>
    intro F F' s b1 c m Km Km' A h1 h2 h3 h4 h5 hA hB hk hk' hKm ho hw hsg fb hc0
    have hG := SXA_G hA
    have hcl := hA.1.1.l
    have hmn := hx.m
    have hn4 := hx.n
    have hL3 : (L 3).length ≤ 12 := hA.1.2.1.m 3 (by omega)
    have hLB1 := SXB_LB hB (by omega)
    -- behind a fault
    have bad : ∀ (bf a1 : ts) (v : Int32), ¬ gI bf 1103 0 = 0 → NB bf L → LB bf → fr wSt b bf → FL a1 bf → ∃ b3, cR_takeStart_180 (nI G.length) v bf = some b3 ∧ OutT x L T pm G τ e D BK BL b c0 1 0 a1 b3 := by
      intro bf a1 v q1 q2 q3 q4 q5
      exact ⟨_, bad180 q2 hL3 q1 (by omega), OutT_bad (LB_fr (W := [2101, 2105]) q3 (fr_wA (fr_wA fr_rf rfl) rfl) rfl) (fr_wA (fr_wA q4 (by decide +kernel)) (by decide +kernel)) q5 (by omega)⟩
    by_cases hkc : x.kd c = 1
    · have hbad := hB.1.1.nb hkc
      have hbd := (clF_all hx (T := T) (aw := false) hd 200 0 (by omega)).2.2.2.1 (by omega)
      obtain ⟨a9, d1, d2⟩ := hbd.2 s c hA.1.1 hkc
      have d1 : clF 200 0 0 s = some (0, a9) := d1
      obtain ⟨b3, y1, y2⟩ := bad b1 a9 (nI m) hbad hB.1.2 hLB1 fb (d2 b1 hB.1.1)
      refine ⟨0, a9, b3, ?_, by rw [bad79 hbad]; exact y1, y2⟩
      unfold cD_readStart_108
      rw [d1, Option.bind_some]; rfl
    have hg1 := hB.1.1.g hkc
    obtain ⟨r5, a5, b5, x1, x2, x3, x4, x7⟩ := exp_sx2 hx hd hA hB hk hk'
    have x2 : cR_takeExp 0 b1 = some (nI Km', b5) := x2
    have fb5 : fr wSt b b5 := fr_tr fb (fr_mono (by decide +kernel) x4)
    have hLB5 : LB b5 := LB_fr hLB1 x4 rfl
    have hNB5 : NB b5 L := NB_fr x4 rfl hB.1.2
    -- the state behind the expression
    have hb6 : ∃ b6, cR_takeStart_79 (F' + 1) (nI G.length) 1 (nI m) b1 = cR_takeStart_116 (cR_takeStart_79 F') (nI G.length) (nI m) b6 ∧ fr [2104] b5 b6 ∧ (m < 8 → b6 = wA b5 104 (8 * G.length + m) (nI Km')) ∧ (¬ m < 8 → b6 = b5) := by
      have e8 : (8 : Int32) * nI G.length + nI m = nI (8 * G.length + m) := by
        rw [show (8 : Int32) = nI 8 from rfl, pk_mul, nI_add]
      rw [cR_takeStart_79.eq_2]
      unfold cR_takeStart_79_b
      rw [if_neg (show ¬ (1 : Int32) = 0 by decide), good_t hg1, Option.bind_some]
      dsimp only
      rw [if_neg (show ¬ (1 : Int32) = 0 by decide), x2, Option.bind_some]
      dsimp only
      by_cases hm8 : m < 8
      · refine ⟨wA b5 104 (8 * G.length + m) (nI Km'), ?_, fr_wA fr_rf rfl, fun _ => rfl, fun z => absurd hm8 z⟩
        rw [if_neg (show ¬ (8 : Int32) ≤ nI m from nI_ge (b := 8) hm8 (by decide)), e8, if_pos (nI_idx (by omega) (by decide)), nI_clamp (by omega)]
      · refine ⟨b5, ?_, fr_rf, fun z => absurd z hm8, fun _ => rfl⟩
        rw [if_pos (show (8 : Int32) ≤ nI m from nI_le (a := 8) (by omega) (by omega))]
    obtain ⟨b6, e79, f6, b6a, b6b⟩ := hb6
    have fb6 : fr wSt b b6 := fr_tr fb5 (fr_mono (by decide +kernel) f6)
    have hLB6 : LB b6 := LB_fr hLB5 f6 rfl
    have hNB6 : NB b6 L := NB_fr f6 rfl hNB5
    have ei : nI m + (1 : Int32) = nI (m + 1) := nI_add m 1
    have hF1 : ∃ F1, F' = F1 + 1 := ⟨F' - 1, by omega⟩
    obtain ⟨F1, hF1⟩ := hF1
    rw [e79]
    unfold cD_readStart_108
    rw [x1, Option.bind_some]
    dsimp only
    rcases x7 with ⟨u1, u2⟩ | ⟨u1, c1, Fe, u2, u3, u4, u5, u5b, u6, u7, u8⟩
    · rw [u1, if_pos rfl]
      have hbad : ¬ gI b6 1103 0 = 0 := by rw [f6.1 1103 rfl]; exact u2.2.2
      obtain ⟨b3, y1, y2⟩ := bad b6 a5 (nI (m + 1)) hbad hNB6 hLB6 fb6 ⟨u2.1.trans (f6.1 1103 rfl 0).symm, u2.2.1.trans (f6.1 1104 rfl 0).symm, hbad⟩
      refine ⟨0, a5, b3, rfl, ?_, y2⟩
      unfold cR_takeStart_116
      rw [good_f hbad, Option.bind_some]
      dsimp only
      rw [if_pos rfl, ei, hF1, bad154 hbad]; exact y1
    · rw [u1, if_neg (by decide), ei]
      have hc1 := u4.1.1.l
      have hlt1 := hx.lt c1
      have hF0 : ∃ F0, F = F0 + 1 := ⟨F - 1, by omega⟩
      obtain ⟨F0, hF0⟩ := hF0
      have hSB6 : SB x b6 c1 := SB_fr f6 rfl rfl u6
      have e71 : cD_readStart_71 F w (nI p) (nI K) (nI (m + 1)) (nI (m + 1)) a5 = (if x.kd c1 = 41 then cD_readStart_130 w (nI p) (nI K) (nI (m + 1)) a5 else (cT_need ((44 : Int32)) a5).bind (fun x3 => (if x3.1 = ((0 : Int32)) then some ((0 : Int32), x3.2) else cD_readStart_108 (cD_readStart_71 F0) w (nI p) (nI K) (nI (m + 1)) (nI (m + 1)) x3.2))) := by
        rw [hF0, cD_readStart_71.eq_2]
        unfold cD_readStart_71_b
        rw [if_neg (show ¬ (4001 : Int32) ≤ nI (m + 1) from nI_ge (b := 4001) (by omega) (by decide)), u4.1.1.ki]
        by_cases h41 : x.kd c1 = 41
        · rw [h41, if_pos (by decide), if_pos rfl]
        · rw [if_neg (show ¬ nI (x.kd c1) = (41 : Int32) from fun z => h41 (nI_inj (a := x.kd c1) (b := 41) (by omega) (by decide) z)), if_neg h41, if_neg (show ¬ nI (m + 1) ≤ (0 : Int32) from nI_nle (by omega) (by omega))]
      rw [e71]
      by_cases hk1 : x.kd c1 = 1
      · -- no token behind it
        have hbad := hSB6.nb hk1
        obtain ⟨a2, y1, y2, y3⟩ := fail_tok hx u4.1.1 hSB6 hk1 2
        obtain ⟨b3, y4, y5⟩ := bad b6 a2 (nI (m + 1)) hbad hNB6 hLB6 fb6 y2
        refine ⟨0, a2, b3, ?_, ?_, y5⟩
        · have e44 : cT_need 44 a5 = some (0, a2) := by
            unfold cT_need
            rw [u4.1.1.ki, if_neg (show ¬ nI (x.kd c1) = (44 : Int32) from fun z => by have := nI_inj (a := x.kd c1) (b := 44) (by omega) (by decide) z; omega), bind_eta]; exact y1
          rw [if_neg (by omega), e44, Option.bind_some]; rfl
        · unfold cR_takeStart_116
          rw [good_f hbad, Option.bind_some]
          dsimp only
          rw [if_pos rfl, ei, hF1, bad154 hbad]; exact y4
      · obtain ⟨p1, p2, p3, p4⟩ := u8 hk1
        have hg6 := hSB6.g hk1
        -- what the reference holds now
        have hB6 : SXB x L pm G τ b6 c1 q (Km' + Fe.length + 1) D BK BL 1 := by
          by_cases hm8 : m < 8
          · rw [b6a hm8]; exact SXB_104 p1 m (nI Km')
          · rw [b6b hm8]; exact p1
        have hKc6 : Kc b1 b6 Km' := by
          intro j hj
          rw [f6.2.1 110 rfl, f6.2.1 111 rfl]; exact p3 j hj
        have hsg6 : SG b6 G.length (Km' + Fe.length + 1) w p (A ++ [Fe]) := by
          refine ⟨?_, ?_, ?_, fun i Fx hi hAi => ?_⟩
          · rw [f6.2.1 99 rfl, x4.2.1 99 rfl]; exact hsg.1
          · rw [f6.2.2.1 106 rfl, x4.2.2.1 106 rfl]; exact hsg.2.1
          · rw [f6.2.1 107 rfl, x4.2.1 107 rfl]; exact hsg.2.2.1
          · rcases getE_snoc hAi with ⟨z1, z2⟩ | ⟨z1, z2⟩
            · have h104 : gA b6 104 (8 * G.length + i) = gA b1 104 (8 * G.length + i) := by
                by_cases hm8 : m < 8
                · rw [b6a hm8, gA_wAn (by omega), x4.2.1 104 rfl]
                · rw [b6b hm8, x4.2.1 104 rfl]
              rw [h104]
              exact XB_mono (hsg.2.2.2 i Fx hi z2) hKc6 (by omega)
            · have hm8 : m < 8 := by omega
              subst z2
              rw [b6a hm8, z1, h5, gA_wAs]
              exact ⟨Km', rfl, by omega, p2⟩
        have ho6 : OpA a5 K (A ++ [Fe]).flatten := OpA_snoc ho (fun j hj => u5b j (by omega)) (by rw [← hKm]; exact u5)
        have hKm6 : Km + Fe.length = K + (A ++ [Fe]).flatten.length := by rw [List.flatten_append, List.length_append, fl1]; omega
        have hw6 : ∀ Fx, Fx ∈ A ++ [Fe] → Wt 103 Fx := by
          intro Fx hF
          rcases List.mem_append.mp hF with z | z
          · exact hw Fx z
          · have : Fx = Fe := by simpa using z
            rw [this]; exact u3
        have hlen6 : (A ++ [Fe]).length = m + 1 := by rw [List.length_append, h5]; rfl
        have e116 : cR_takeStart_116 (cR_takeStart_79 F') (nI G.length) (nI m) b6 = (if (gI b6 1106 0) = ((44 : Int32)) then cR_takeStart_150 (cR_takeStart_79 F') (nI G.length) (nI (m + 1)) ((1 : Int32)) b6 else (if (gI b6 1106 0) = ((41 : Int32)) then cR_takeStart_150 (cR_takeStart_79 F') (nI G.length) (nI (m + 1)) ((1 : Int32)) b6 else cR_takeStart_150 (cR_takeStart_79 F') (nI G.length) (nI (m + 1)) ((0 : Int32)) b6)) := by
          unfold cR_takeStart_116
          rw [good_t hg6, Option.bind_some]
          dsimp only
          rw [if_neg (by decide), ei]
        rw [e116]
        have s44 : gI b6 1106 0 = (44 : Int32) ↔ x.kd c1 = 44 := sg_eq hx hSB6 hk1 (q := 44) (by omega)
        have s41 : gI b6 1106 0 = (41 : Int32) ↔ x.kd c1 = 41 := sg_eq hx hSB6 hk1 (q := 41) (by omega)
        have e150 : cR_takeStart_150 (cR_takeStart_79 F') (nI G.length) (nI (m + 1)) 1 b6 = cR_takeStart_154 (cR_takeStart_79 F') (nI G.length) (nI (m + 1)) b6 := by
          unfold cR_takeStart_150
          rw [need_t, Option.bind_some]
        by_cases h41 : x.kd c1 = 41
        · rw [if_pos h41, if_neg (fun z => by have := s44.mp z; omega), if_pos (s41.mpr h41), e150]
          have e154 : cR_takeStart_154 (cR_takeStart_79 F') (nI G.length) (nI (m + 1)) b6 = cR_takeStart_180 (nI G.length) (nI (m + 1)) b6 := by
            unfold cR_takeStart_154 cR_takeStart_168
            rw [if_neg (fun z => by have := s44.mp z; omega), if_pos rfl, hF1, cR_takeStart_79.eq_2]
            unfold cR_takeStart_79_b
            rw [if_pos rfl]
          rw [e154]
          exact start_end hx hd u4 hB6 (by omega) (by omega) hopn hlen6 (by omega) hKm6 ho6 hw6 hsg6 (by omega) fb6 h41
        · rw [if_neg h41]
          by_cases h44 : x.kd c1 = 44
          · rw [if_pos (s44.mpr h44), e150]
            have hcm1 := hx.lm u4.1.1.l (show 2 ≤ x.kd c1 by omega)
            have hp1 := hx.p1 (c := c1) (by omega)
            obtain ⟨v1, v2⟩ := adv_ok hx u4.1.1 hcm1
            obtain ⟨b7, n1, n2, n3⟩ := nxt_ok hx hSB6 (by omega)
            have e44 : cT_need 44 a5 = some (1, av x a5 (c1 + 1)) := by
              unfold cT_need
              rw [u4.1.1.ki, h44, if_pos (show nI 44 = (44 : Int32) from rfl), v1]; rfl
            have e154 : cR_takeStart_154 (cR_takeStart_79 F') (nI G.length) (nI (m + 1)) b6 = cR_takeStart_79 F' (nI G.length) 1 (nI (m + 1)) b7 := by
              unfold cR_takeStart_154 cR_takeStart_168
              rw [if_pos (s44.mpr h44), if_neg (show ¬ (1 : Int32) = 0 by decide), n1, Option.bind_some]
            rw [e44, Option.bind_some, e154, hF1]
            dsimp only
            rw [if_neg (show ¬ (1 : Int32) = 0 by decide)]
            have hA7 := SXA_tok u4 (fr_mono (by decide +kernel) fr_av) v2
            have ho7 : OpA (av x a5 (c1 + 1)) K (A ++ [Fe]).flatten := ho6
            exact ih F0 F1 (av x a5 (c1 + 1)) b7 (c1 + 1) (m + 1) (Km + Fe.length) (Km' + Fe.length + 1) (A ++ [Fe]) (by omega) (by omega) (by omega) (by omega) hlen6 hA7 (SXB_tok hB6 n3 n2) (by omega) (by omega) hKm6 ho7 hw6 (SG_fr hsg6 n3 rfl (Kc_fr n3 rfl) (Nat.le_refl _)) (fr_tr fb6 (fr_mono (by decide +kernel) n3)) (by omega)
          · rw [if_neg (fun z => h44 (s44.mp z)), if_neg (fun z => h41 (s41.mp z))]
            obtain ⟨a2, bf, y1, y2, y3, y4, y5⟩ := fail_both hx u4.1.1 hSB6 hk1 2 (by decide)
            obtain ⟨b3, y6, y7⟩ := bad bf a2 (nI (m + 1)) y3.2.2 (NB_fr y5 rfl hNB6) (LB_fr hLB6 y5 rfl) (fr_tr fb6 (fr_mono (by decide +kernel) y5)) y3
            refine ⟨0, a2, b3, ?_, ?_, y7⟩
            · have e44 : cT_need 44 a5 = some (0, a2) := by
                unfold cT_need
                rw [u4.1.1.ki, if_neg (show ¬ nI (x.kd c1) = (44 : Int32) from fun z => h44 (nI_inj (a := x.kd c1) (b := 44) (by omega) (by decide) z)), bind_eta]; exact y1
              rw [e44, Option.bind_some]; rfl
            · unfold cR_takeStart_150
              rw [y2, Option.bind_some, hF1, bad154 y3.2.2]; exact y6
theorem stm_start {x : Cx} (hx : x.Ok) {L : Nat → List Int64} {T : List (Nat × Nat)} {pm : Nat → Nat} {rc : Nat → Int32 → ts → Option (Int32 × ts)} {d : Int32} {G : List Ln} {τ : Nat → Int32} {a b : ts} {c q K K' e D : Nat} {BK BL : Nat → Int32} (hd : ND L) (hA : SXA x L T pm G τ a c q K e false) (hB : SXB x L pm G τ b c q K' D BK BL 0) (hk : K ≤ x.ps c) (hk' : K' ≤ 2 * x.ps c) (hq : q < 250) (hkd : x.kd c = 526) : StOk x L T pm rc d G τ a b c q e D BK BL := by
  have hcl := hA.1.1.l
  have hcm := hx.lm hcl (by omega)
  have hp := hx.p1 (c := c) (by omega)
  have hpn := hx.pn (c + 1)
  have hn4 := hx.n
  have hmn := hx.m
  have hL3 : (L 3).length ≤ 12 := hA.1.2.1.m 3 (by omega)
  have hopn : (opn G).length < q + 1 := by have := hA.2.2.1.2.2; omega
  obtain ⟨-, hs⟩ := st21 hx (rc := rc) (d := d) hA.1.1 hA.2.1.2.2 hcm
  have hA1 := SXA_begin hA hq hs
  have hG := SXA_G hA1
  obtain ⟨b1, e1, hB1, g1, g2, g3, f1⟩ := SXB_begin hx hB (by omega) (by omega)
  have hLB1 := SXB_LB hB1 (by omega)
  generalize hs5 : av x (wI a 403 0 (nI (q + 1))) (c + 1) = s5 at hA1 hs
  have eS : stK rc d (x.kd c) (x.vl c) s5 = cD_readStart s5 := by rw [hkd]; rfl
  have eR : cR_takeRest (nI G.length) (nI (x.kd c - 512)) b1 = cR_takeStart (nI G.length) b1 := by
    rw [hkd]
    show (cR_takeStart (nI G.length) b1).bind (fun s68 => some s68) = _
    rw [bind_eta1]
  rw [hkd] at g1
  unfold StOk
  rw [hs5, eS, e1, eR]
  have h217 := hA1.2.1.2.1
  -- behind a fault
  have bad : ∀ (bf a1 : ts), ¬ gI bf 1103 0 = 0 → NB bf L → LB bf → fr wSt b bf → FL a1 bf → ∃ b3, cR_takeStart_180 (nI G.length) (nI 0) bf = some b3 ∧ OutT x L T pm G τ e D BK BL b c 1 0 a1 b3 := by
    intro bf a1 q1 q2 q3 q4 q5
    exact ⟨_, bad180 q2 hL3 q1 (by omega), OutT_bad (LB_fr (W := [2101, 2105]) q3 (fr_wA (fr_wA fr_rf rfl) rfl) rfl) (fr_wA (fr_wA q4 (by decide +kernel)) (by decide +kernel)) q5 hcl⟩
  have h79b : ∀ (bf : ts) (l2 : Int32), ¬ gI bf 1103 0 = 0 → cR_takeStart_79 tm_N (nI G.length) l2 0 bf = cR_takeStart_180 (nI G.length) (nI 0) bf := by
    intro bf l2 h
    rw [show tm_N = 999999999 + 1 from rfl]; exact bad79 h
  have bad25 : ∀ (bf a1 : ts), ¬ gI bf 1103 0 = 0 → fr [1103, 1104] b1 bf → FL a1 bf → ∃ b3, cR_takeStart_25 (nI G.length) bf = some b3 ∧ OutT x L T pm G τ e D BK BL b c 1 0 a1 b3 := by
    intro bf a1 q1 q2 q3
    have f9 : fr [2107, 3106] bf (wA (wB bf 106 G.length (gJ bf 1108 0)) 107 G.length (gI bf 1107 0)) := fr_wA (fr_wB fr_rf rfl) rfl
    obtain ⟨b3, y1, y2⟩ := bad (wA (wB bf 106 G.length (gJ bf 1108 0)) 107 G.length (gI bf 1107 0)) a1 q1 (NB_fr f9 rfl (NB_fr q2 rfl hB1.1.2)) (LB_fr (LB_fr hLB1 q2 rfl) f9 rfl) (fr_tr f1 (fr_tr (fr_mono (by decide +kernel) q2) (fr_mono (by decide +kernel) f9))) q3
    refine ⟨b3, ?_, y2⟩
    unfold cR_takeStart_25
    rw [if_pos (nI_idx (by omega) (by decide)), nI_clamp (by omega), show gI (wB bf 106 G.length (gJ bf 1108 0)) 1107 0 = gI bf 1107 0 from rfl, next_bad (show ¬ gI (wA (wB bf 106 G.length (gJ bf 1108 0)) 107 G.length (gI bf 1107 0)) 1103 0 = 0 from q1), Option.bind_some, must_bad (show ¬ gI (wA (wB bf 106 G.length (gJ bf 1108 0)) 107 G.length (gI bf 1107 0)) 1103 0 = 0 from q1), Option.bind_some, good_f (show ¬ gI (wA (wB bf 106 G.length (gJ bf 1108 0)) 107 G.length (gI bf 1107 0)) 1103 0 = 0 from q1), Option.bind_some]
    dsimp only
    rw [if_pos rfl, h79b _ _ (show ¬ gI (wA (wB bf 106 G.length (gJ bf 1108 0)) 107 G.length (gI bf 1107 0)) 1103 0 = 0 from q1)]
    exact y1
  unfold cD_readStart cR_takeStart
  rw [any_ok hx hA1.1.1, Option.bind_some]
  dsimp only
  by_cases h1 : x.kd (c + 1) = 1
  · obtain ⟨a2, y1, y2, y3⟩ := fail_tok hx hA1.1.1 hB1.1.1 h1 2
    obtain ⟨b3, y4, y5⟩ := bad25 b1 a2 (hB1.1.1.nb h1) fr_rf y2
    refine ⟨0, a2, b3, ?_, ?_, y5⟩
    · rw [if_neg (show ¬ (x.kd (c + 1) = 2 ∨ 512 ≤ x.kd (c + 1)) by omega), if_pos rfl, bind_eta]; exact y1
    · rw [good_f (hB1.1.1.nb h1), Option.bind_some]
      dsimp only
      rw [if_pos rfl]; exact y4
  have hg1 := hB1.1.1.g h1
  rw [good_t hg1, Option.bind_some]
  dsimp only
  rw [if_neg (show ¬ (1 : Int32) = 0 by decide)]
  by_cases hw : x.kd (c + 1) = 2 ∨ 512 ≤ x.kd (c + 1)
  · have hwd : gJ b1 1108 0 = x.vl (c + 1) := (hB1.1.1.nx.2 h1).2.2.2.2.1 hw
    have hpd : gI b1 1107 0 = nI (x.pl (c + 1)) := (hB1.1.1.nx.2 h1).2.2.1
    have hcm1 := hx.lm hA1.1.1.l (show 2 ≤ x.kd (c + 1) by omega)
    have hp1 := hx.p1 (c := c + 1) (by omega)
    have hpn2 := hx.pn (c + 1 + 1)
    obtain ⟨v1, v2⟩ := adv_ok hx hA1.1.1 hcm1
    have hB2 := SXB_167 hB1 (x.vl (c + 1)) (nI (x.pl (c + 1)))
    obtain ⟨b2, n1, n2, n3⟩ := nxt_ok hx hB2.1.1 (by omega)
    have hA3 := SXA_tok hA1 (fr_mono (by decide +kernel) fr_av) v2
    have hB3 := SXB_tok hB2 n3 n2
    rw [if_pos hw, if_neg (by decide), word_ok hx hA1.1.1, Option.bind_some]
    dsimp only
    rw [place1 hx hA1.1.1, Option.bind_some]
    dsimp only
    rw [v1, Option.bind_some, h217, if_pos ((word1 hx hB1.1.1 h1).mpr hw)]
    have e21 : cR_takeStart_21 (nI G.length) 1 b1 = (cR_must ((40 : Int32)) b2).bind (fun s6 => (cR_good s6).bind (fun x10 => (if x10.1 = ((0 : Int32)) then cR_takeStart_79 tm_N (nI G.length) ((0 : Int32)) ((0 : Int32)) x10.2 else (if (gI x10.2 1106 0) = ((41 : Int32)) then cR_takeStart_79 tm_N (nI G.length) ((0 : Int32)) ((0 : Int32)) x10.2 else cR_takeStart_79 tm_N (nI G.length) ((1 : Int32)) ((0 : Int32)) x10.2)))) := by
      unfold cR_takeStart_21
      rw [need_t, Option.bind_some]
      unfold cR_takeStart_25
      rw [if_pos (nI_idx (by omega) (by decide)), nI_clamp (by omega), hwd, show gI (wB b1 106 G.length (x.vl (c + 1))) 1107 0 = nI (x.pl (c + 1)) from hpd, n1, Option.bind_some]
    rw [e21]
    have fb2 : fr wSt b b2 := fr_tr (fr_wA (fr_wB f1 (by decide +kernel)) (by decide +kernel)) (fr_mono (by decide +kernel) n3)
    have hsg2 : SG b2 G.length K' (x.vl (c + 1)) (x.pl (c + 1)) [] := by
      refine ⟨?_, ?_, ?_, fun i F hi hA => by simp at hA⟩
      · rw [n3.2.1 99 rfl]; exact g1
      · rw [n3.2.2.1 106 rfl]; show gB (wB b1 106 G.length (x.vl (c + 1))) 106 G.length = _; simp (disch := first | assumption | omega) only [sx, if_pos, if_neg, bnd, Nat.reduceEqDiff, Nat.reduceAdd, Nat.reduceMul, Nat.reduceSub, and_true, true_and, and_false, false_and, or_true, true_or, or_false, false_or, if_true, if_false, eq_self, not_true, not_false_eq_true]
      · rw [n3.2.1 107 rfl, gA_wAs]
    have h217' := hA3.2.1.2.1
    generalize av x s5 (c + 1 + 1) = s6 at hA3 v2 h217'
    obtain ⟨r4, a4, b4, m1, m2, m3, m4, m5⟩ := nm_ok hx hA3.1.1 hB3.1.1 (q := 40) (by omega)
    have m1 : cT_need 40 s6 = some (r4, a4) := m1
    have m2 : cR_must 40 b2 = some b4 := m2
    rw [m1, Option.bind_some, m2, Option.bind_some]
    dsimp only
    have fb4 : fr wSt b b4 := fr_tr fb2 (fr_mono (by decide +kernel) m5)
    have hLB4 : LB b4 := LB_fr (SXB_LB hB3 (by omega)) m5 rfl
    have hNB4 : NB b4 L := NB_fr m5 rfl hB3.1.2
    rcases m3 with ⟨y1, y2, y3, y4, y5⟩ | ⟨y1, y2, y3⟩
    · rw [y1, if_neg (by decide)]
      have hp2 := hx.p1 (c := c + 1 + 1) (by omega)
      have hA4 := SXA_tok hA3 m4 y4
      have hB4 := SXB_tok hB3 m5 y5
      have hsg4 : SG b4 G.length K' (x.vl (c + 1)) (x.pl (c + 1)) [] := SG_fr hsg2 m5 rfl (Kc_fr m5 rfl) (Nat.le_refl _)
      have hl4 := hA4.1.1.l
      have hlt4 := hx.lt (c + 1 + 1 + 1)
      have hE : OpA a4 K ([] : List (List Op1)).flatten := fun j o hj => by simp at hj
      have e71 : cD_readStart_71 tm_N (x.vl (c + 1)) (nI (x.pl (c + 1))) (nI K) 0 0 a4 = (if x.kd (c + 1 + 1 + 1) = 41 then cD_readStart_130 (x.vl (c + 1)) (nI (x.pl (c + 1))) (nI K) (nI 0) a4 else cD_readStart_108 (cD_readStart_71 999999999) (x.vl (c + 1)) (nI (x.pl (c + 1))) (nI K) (nI 0) (nI 0) a4) := by
        rw [show tm_N = 999999999 + 1 from rfl, cD_readStart_71.eq_2]
        unfold cD_readStart_71_b
        rw [if_neg (by decide), hA4.1.1.ki]
        by_cases h41 : x.kd (c + 1 + 1 + 1) = 41
        · rw [h41, if_pos (show nI 41 = (41 : Int32) from rfl), if_pos rfl]; rfl
        · rw [if_neg (show ¬ nI (x.kd (c + 1 + 1 + 1)) = (41 : Int32) from fun z => h41 (nI_inj (a := x.kd (c + 1 + 1 + 1)) (b := 41) (by omega) (by decide) z)), if_neg h41, if_pos (by decide)]; rfl
      rw [e71]
      by_cases hk1 : x.kd (c + 1 + 1 + 1) = 1
      · have hbad := hB4.1.1.nb hk1
        have hbd := (clF_all hx (T := T) (aw := false) hd 200 0 (by omega)).2.2.2.1 (by omega)
        obtain ⟨a9, d1, d2⟩ := hbd.2 a4 (c + 1 + 1 + 1) hA4.1.1 hk1
        have d1 : clF 200 0 0 a4 = some (0, a9) := d1
        obtain ⟨b3, w1, w2⟩ := bad b4 a9 hbad hNB4 hLB4 fb4 (d2 b4 hB4.1.1)
        refine ⟨0, a9, b3, ?_, ?_, w2⟩
        · rw [if_neg (by omega)]
          unfold cD_readStart_108
          rw [d1, Option.bind_some]; rfl
        · rw [good_f hbad, Option.bind_some]
          dsimp only
          rw [if_pos rfl, h79b _ _ hbad]; exact w1
      · rw [good_t (hB4.1.1.g hk1), Option.bind_some]
        dsimp only
        rw [if_neg (show ¬ (1 : Int32) = 0 by decide)]
        have s41 : gI b4 1106 0 = (41 : Int32) ↔ x.kd (c + 1 + 1 + 1) = 41 := sg_eq hx hB4.1.1 hk1 (q := 41) (by omega)
        by_cases h41 : x.kd (c + 1 + 1 + 1) = 41
        · rw [if_pos h41, if_pos (s41.mpr h41)]
          have e79 : cR_takeStart_79 tm_N (nI G.length) 0 0 b4 = cR_takeStart_180 (nI G.length) (nI 0) b4 := by
            rw [show tm_N = 999999999 + 1 from rfl, cR_takeStart_79.eq_2]
            unfold cR_takeStart_79_b
            rw [if_pos (show (0 : Int32) = 0 from rfl)]; rfl
          rw [e79]
          exact start_end hx hd (SXA_e hA4 (show e + 1 ≤ e + 2 by omega)) hB4 (by omega) (by omega) hopn rfl (by omega) (by simp) hE (fun F hF => by cases hF) hsg4 (show c ≤ c + 1 + 1 + 1 by omega) fb4 h41
        · rw [if_neg h41, if_neg (fun z => h41 (s41.mp z))]
          exact start_lp hx (c0 := c) hd hopn (x.m + 1) 999999999 999999999 a4 b4 (c + 1 + 1 + 1) 0 K K' [] (by omega) (by omega) (by omega) (by omega) rfl (SXA_e hA4 (show e + 1 ≤ e + 2 by omega)) hB4 (by omega) (by omega) (by simp) hE (fun F hF => by cases hF) hsg4 fb4 (by omega)
    · rw [y1, if_pos rfl, good_f y3.2.2, Option.bind_some]
      dsimp only
      rw [if_pos rfl, h79b _ _ y3.2.2]
      obtain ⟨b3, w1, w2⟩ := bad b4 a4 y3.2.2 hNB4 hLB4 fb4 y3
      exact ⟨0, a4, b3, rfl, w1, w2⟩
  · obtain ⟨a2, bf, y1, y2, y3, y4, y5⟩ := fail_both hx hA1.1.1 hB1.1.1 h1 2 (by decide)
    obtain ⟨b3, y6, y7⟩ := bad25 bf a2 y3.2.2 y5 y3
    refine ⟨0, a2, b3, ?_, ?_, y7⟩
    · rw [if_neg hw, if_pos rfl, bind_eta]; exact y1
    · rw [if_neg (fun z => hw ((word1 hx hB1.1.1 h1).mp z))]
      unfold cR_takeStart_21
      rw [y2, Option.bind_some]; exact y6
