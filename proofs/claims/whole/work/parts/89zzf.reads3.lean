/-! THE READS: process. -/
theorem tellVar_no {rm pm en vc un rm0 : Nat → Nat} {L : Nat → List Int64} {G : List Ln} {τ : Nat → Int32} {K K' p : Nat} {s : ts} {M : Md} {v : Int32} (hE : Evp s s L pm en vc un rm0 G τ K K' rm) (hA : VA rm s M) (hp : p < m_N M) (hD : m_D M p < (L 3).length) (hv : v < 0 ∨ (8 : Int32) ≤ v) : cH_tellVariable p v s = some (-2000000000, s) := by
  have hpM : p < gM s := Nat.lt_of_lt_of_le hp (VA_gm hA).1
  have hnd := hE.1.2.1 3 (by omega)
  have hnd12 : (L 3).length ≤ 12 := hnd.2
  unfold cH_tellVariable cH_tellVariable_45
  rw [if_pos hpM, VA_df hA p hp, isDef_yes hnd.1 hD hnd12, Option.bind_some]
  dsimp only
  rw [if_neg (show ¬ (1 : Int32) = 0 by decide)]
  by_cases c : v < 0
  · rw [if_pos c, if_pos rfl]
  · rw [if_neg c, if_pos (hv.resolve_left c), if_pos rfl]
theorem tellVar_ok {rm pm en vc un rm0 : Nat → Nat} {L : Nat → List Int64} {G : List Ln} {τ : Nat → Int32} {K K' p i : Nat} {s : ts} {M : Md} (hE : Evp s s L pm en vc un rm0 G τ K K' rm) (hA : VA rm s M) (hp : p < m_N M) (hD : m_D M p < (L 3).length) (hi : i < 8) : cH_tellVariable p (nI i) s = some (if vc (m_D M p) ≤ i then -2000000000 else m_V M p i, s) := by
  have hpM : p < gM s := Nat.lt_of_lt_of_le hp (VA_gm hA).1
  have hnd := hE.1.2.1 3 (by omega)
  have hnd12 : (L 3).length ≤ 12 := hnd.2
  have hvc := hE.1.2.2.2.1 (m_D M p) hD
  have hv8 : vc (m_D M p) ≤ 8 := by
    obtain ⟨H, _, _, _, e⟩ := hE.2.2.1.2.1 (m_D M p) hD
    rw [← e]; exact mv_le hvc.2.1 H
  unfold cH_tellVariable cH_tellVariable_45
  rw [if_pos hpM, VA_df hA p hp, isDef_yes hnd.1 hD hnd12, Option.bind_some]
  dsimp only
  rw [if_neg (show ¬ (1 : Int32) = 0 by decide), if_neg (nI_pos (by omega)), if_neg (show ¬ (8 : Int32) ≤ nI i from nI_ge (b := 8) hi (by decide)), if_pos hpM, VA_df hA p hp, if_pos (nI_idx (by omega) (by decide)), nI_clamp (by omega), hvc.2.2.1]
  by_cases c : vc (m_D M p) ≤ i
  · rw [if_pos (nI_le c (by omega)), if_pos rfl, if_pos c]
  · rw [if_neg (nI_ge (by omega) (by omega)), if_neg (by decide), if_pos hpM, if_pos (nI_idx hi (by decide)), nI_clamp (by omega), VA_vl hA p hp i hi, if_neg c]
theorem process_ok {rm pm en vc un rm0 : Nat → Nat} {L : Nat → List Int64} {G : List Ln} {τ : Nat → Int32} {K K' : Nat} {s : ts} {M : Md} (x w : Int32) (hE : Evp s s L pm en vc un rm0 G τ K K' rm) (hA : VA rm s M) (hB : VB rm s M) (hW : RW rm G (L 3).length M) (h6 : gI s 6 0 = 1) (h1102 : gI s 1102 0 = 1) : ∃ v, cX_process x w s = some (v, s) ∧ cR_process x w s = some (v, s) := by
  have hI := hW.1
  have hN := (Inv_N hI).1
  unfold cX_process cR_process
  rw [h6, if_neg (show ¬ (1 : Int32) = 0 by decide), h1102, if_neg (show ¬ (1 : Int32) = 0 by decide), VB_N hB]
  by_cases c : x < 0 ∨ nI (m_N M) ≤ x
  · refine ⟨-2000000000, ?_, ?_⟩
    · rw [find_no hA c, Option.bind_some]; rfl
    · by_cases c2 : x < 0
      · rw [if_pos c2]
      · rw [if_neg c2, if_neg (Int32.not_lt.mpr (c.resolve_left c2))]
  · obtain ⟨p, e, hp⟩ := num_of hN c
    subst e
    have hpM : p < gM s := Nat.lt_of_lt_of_le hp (VA_gm hA).1
    have h7 := (Inv_co hI p hp).1
    have hD := (hW.2.2.2.1 p hp).1
    have hnd12 : (L 3).length ≤ 12 := (hE.1.2.1 3 (by omega)).2
    have hvc := hE.1.2.2.2.1 (m_D M p) hD
    have eS := VA_ss hA p hp
    have eT := VB_ss hB p hp
    have nS : ∀ k, k < 10 → ¬ m_S M p = k → ¬ nI (m_S M p) = nI k := fun k hk h z => h (nI_inj (by omega) (by omega) z)
    have hDF := hE.2.2.1.2.1 (m_D M p) hD
    have hv8 : vc (m_D M p) ≤ 8 := by
      obtain ⟨H, _, _, _, e⟩ := hDF
      rw [← e]; exact mv_le hvc.2.1 H
    have eloc : cR_localsOf (nI (m_D M p)) s = some (nI (vc (m_D M p)), s) := by
      obtain ⟨H, h1, h2, h3, h4⟩ := hDF
      have hb := hE.2.1.2.2.2.1 (m_D M p) hD
      have hG5 := hE.1.1.2.1
      have hHl : H.length < tm_N := by
        obtain ⟨n, hn, _⟩ := h3
        have := getE_lt hn
        unfold tm_N; omega
      unfold cR_localsOf
      rw [if_pos (nI_idx (by omega) (by decide)), nI_clamp (by omega), hb.1, hb.2, locals_lp (fun l n hl => (hE.2.1.2.2.1 l n hl).1) hG5 H (pm (m_D M p)) (en (m_D M p)) tm_N hvc.2.1 h1 h2 h3 hHl, h4]
    have eU := units_cl hA hp 8 0 tm_N (by omega) (by unfold tm_N; omega)
    have eU : cP_unitsInAll p s = some (nI (us (m_U M) p 8), s) := eU
    have e66 := units_rc (w := w) hB hp (by omega) 8 0 tm_N (by omega) (by unfold tm_N; omega)
    have e66 : cR_process_66 tm_N (nI p) w 0 0 s = prE p w (nI (us (m_U M) p 8)) s := e66
    have eX : ∀ v, cH_tellProcess p w s = some (v, s) → ((cO_find (nI p) s).bind (fun x3 => match x3.1 with
        | none => cX_process_22 w none x3.2
        | some q4 => cX_process_22 w (some q4) x3.2)) = some (v, s) := fun v h => by
      rw [find_yes hA hp, Option.bind_some]
      dsimp only
      unfold cX_process_22
      dsimp only
      rw [h, Option.bind_some]
    rw [if_neg (nI_pos (by omega)), if_pos (nI_lt hp (by omega)), e66, if_pos (nI_idx (show p < 300 by omega) (by decide)), nI_clamp (show p < 2 ^ 31 by omega), VB_df hB p hp, eloc]
    by_cases c10 : w < 10
    · rw [if_pos c10]
      unfold prE
      by_cases c0 : w = 0
      · exact ⟨nI (m_D M p), eX _ (by unfold cH_tellProcess; rw [if_pos c0, if_pos hpM, VA_df hA p hp]), by rw [if_pos c0, VB_df hB p hp]⟩
      by_cases c1 : w = 1
      · exact ⟨nI (m_S M p), eX _ (by unfold cH_tellProcess; rw [if_neg c0, if_pos c1, if_pos hpM, eS]), by rw [if_neg c0, if_pos c1, eT]⟩
      by_cases c2 : w = 2
      · by_cases d : m_S M p ≤ 1
        · refine ⟨m_K M p, eX _ ?_, ?_⟩
          · have ei : cP_isInCalendar p s = some (1, s) := by
              unfold cP_isInCalendar
              rw [if_pos hpM, eS]
              have : m_S M p = 0 ∨ m_S M p = 1 := by omega
              rcases this with z | z
              · rw [z, if_pos (show nI 0 = (0 : Int32) from rfl)]
              · rw [z, if_neg (show ¬ nI 1 = (0 : Int32) by decide), if_pos (show nI 1 = (1 : Int32) from rfl)]
            unfold cH_tellProcess
            rw [if_neg c0, if_neg c1, if_pos c2, if_pos hpM, ei, Option.bind_some]
            dsimp only
            rw [if_neg (by decide), if_pos hpM, VA_ke hA p hp]
          · rw [if_neg c0, if_neg c1, if_pos c2, eT, if_neg (show ¬ (2 : Int32) ≤ nI (m_S M p) from nI_ge (b := 2) (by omega) (by decide)), VB_du hB p hp d]
        · refine ⟨-2, eX _ ?_, ?_⟩
          · have ei : cP_isInCalendar p s = some (0, s) := by
              unfold cP_isInCalendar
              rw [if_pos hpM, eS, if_neg (show ¬ nI (m_S M p) = (0 : Int32) from nS 0 (by omega) (by omega)), if_neg (show ¬ nI (m_S M p) = (1 : Int32) from nS 1 (by omega) (by omega))]
            unfold cH_tellProcess
            rw [if_neg c0, if_neg c1, if_pos c2, if_pos hpM, ei, Option.bind_some]; rfl
          · rw [if_neg c0, if_neg c1, if_pos c2, eT, if_pos (show (2 : Int32) ≤ nI (m_S M p) from nI_le (a := 2) (by omega) (by omega))]
      by_cases c3 : w = 3
      · have e16 : gA s 16 ((0 : Int32)).toNatClampNeg = nI (L 0).length := (hE.1.2.1 0 (by omega)).1
        have r0 : gI s 1110 0 = nI (L 0).length := hE.2.1.2.1.1
        by_cases d2 : m_S M p = 2
        · have hw1 := VA_wh hA p hp (Or.inl d2)
          have hw2 := VB_wh hB p hp (Or.inl d2)
          have hW8 : m_W M p < 8 := by
            obtain ⟨ρ, h1, h2⟩ := (Inv_co hI p hp).2 (by omega)
            rcases (Inv_me hI ρ h1 p h2).2 with z | z
            · cases z
            · unfold SP at z; omega
          refine ⟨nI (m_W M p), eX _ ?_, ?_⟩
          · unfold cH_tellProcess cH_tellProcess_92 cG_outerPlace
            rw [if_neg c0, if_neg c1, if_neg c2, if_pos c3, if_pos hpM, eS, if_pos (show nI (m_S M p) = (2 : Int32) by rw [d2]; rfl), if_neg (by decide), if_pos hpM, hw1, if_neg (show ¬ (8 : Int32) ≤ nI (m_W M p) from nI_ge (b := 8) hW8 (by decide))]; rfl
          · rw [if_neg c0, if_neg c1, if_neg c2, if_pos c3, eT, if_pos (show nI (m_S M p) = (2 : Int32) by rw [d2]; rfl), hw2]
        · by_cases d3 : m_S M p = 3
          · have hw1 := VA_wh hA p hp (Or.inr d3)
            have hw2 := VB_wh hB p hp (Or.inr d3)
            have hW8 : 8 ≤ m_W M p ∧ m_W M p < 14 := by
              obtain ⟨ρ, h1, h2⟩ := (Inv_co hI p hp).2 (by omega)
              rcases (Inv_me hI ρ h1 p h2).2 with z | z
              · cases z
              · unfold SP at z; omega
            refine ⟨nI (L 0).length + nI (m_W M p) - 8, eX _ ?_, ?_⟩
            · unfold cH_tellProcess cH_tellProcess_92 cG_outerPlace
              rw [if_neg c0, if_neg c1, if_neg c2, if_pos c3, if_pos hpM, eS, if_neg (show ¬ nI (m_S M p) = (2 : Int32) from nS 2 (by omega) d2), if_pos (show nI (m_S M p) = (3 : Int32) by rw [d3]; rfl), if_neg (by decide), if_pos hpM, hw1, if_pos (show (8 : Int32) ≤ nI (m_W M p) from nI_le (a := 8) hW8.1 (by omega)), e16]; rfl
            · rw [if_neg c0, if_neg c1, if_neg c2, if_pos c3, eT, if_neg (show ¬ nI (m_S M p) = (2 : Int32) from nS 2 (by omega) d2), if_pos (show nI (m_S M p) = (3 : Int32) by rw [d3]; rfl), hw2, r0]
          · refine ⟨-2, eX _ ?_, ?_⟩
            · unfold cH_tellProcess cH_tellProcess_92
              rw [if_neg c0, if_neg c1, if_neg c2, if_pos c3, if_pos hpM, eS, if_neg (show ¬ nI (m_S M p) = (2 : Int32) from nS 2 (by omega) d2), if_neg (show ¬ nI (m_S M p) = (3 : Int32) from nS 3 (by omega) d3), if_pos rfl]
            · rw [if_neg c0, if_neg c1, if_neg c2, if_pos c3, eT, if_neg (show ¬ nI (m_S M p) = (2 : Int32) from nS 2 (by omega) d2), if_neg (show ¬ nI (m_S M p) = (3 : Int32) from nS 3 (by omega) d3)]
      by_cases c4 : w = 4
      · exact ⟨nI (us (m_U M) p 8), eX _ (by unfold cH_tellProcess; rw [if_neg c0, if_neg c1, if_neg c2, if_neg c3, if_pos c4, if_pos hpM, eU]; rfl), by rw [if_neg c0, if_neg c1, if_neg c2, if_neg c3, if_pos c4]⟩
      by_cases c5 : w = 5
      · exact ⟨m_Xw M p, eX _ (by unfold cH_tellProcess; rw [if_neg c0, if_neg c1, if_neg c2, if_neg c3, if_neg c4, if_pos c5, if_pos hpM, VA_wr hA p hp]), by rw [if_neg c0, if_neg c1, if_neg c2, if_neg c3, if_neg c4, if_pos c5, VB_wr hB p hp]⟩
      by_cases c6 : w = 6
      · by_cases d : 5 ≤ m_S M p
        · exact ⟨-2, eX _ (by unfold cH_tellProcess; rw [if_neg c0, if_neg c1, if_neg c2, if_neg c3, if_neg c4, if_neg c5, if_pos c6, if_pos hpM, eS, if_pos (show (5 : Int32) ≤ nI (m_S M p) from nI_le (a := 5) d (by omega))]), by rw [if_neg c0, if_neg c1, if_neg c2, if_neg c3, if_neg c4, if_neg c5, if_pos c6, eT, if_pos (show (5 : Int32) ≤ nI (m_S M p) from nI_le (a := 5) d (by omega))]⟩
        · exact ⟨m_Zs M p, eX _ (by unfold cH_tellProcess; rw [if_neg c0, if_neg c1, if_neg c2, if_neg c3, if_neg c4, if_neg c5, if_pos c6, if_pos hpM, eS, if_neg (show ¬ (5 : Int32) ≤ nI (m_S M p) from nI_ge (b := 5) (by omega) (by decide)), VA_si hA p hp]), by rw [if_neg c0, if_neg c1, if_neg c2, if_neg c3, if_neg c4, if_neg c5, if_pos c6, eT, if_neg (show ¬ (5 : Int32) ≤ nI (m_S M p) from nI_ge (b := 5) (by omega) (by decide)), VB_si hB p hp]⟩
      · refine ⟨-2000000000, eX _ ?_, ?_⟩
        · have hv : w - 10 < 0 ∨ (8 : Int32) ≤ w - 10 := by
            by_cases d : w - 10 < 0
            · exact Or.inl d
            · right
              rcases Int32.lt_or_le (w - 10) 8 with z | z
              · exfalso
                obtain ⟨i, hi, e⟩ := nI_of d
                rw [e] at z
                have hi8 := (nI_ltI (b := 8) hi (by decide)).mp z
                have ew : w = nI (i + 10) := by
                  have : w - 10 + 10 = nI i + 10 := by rw [e]
                  rw [Int32.sub_add_cancel] at this
                  rw [this]; exact nI_add i 10
                rw [ew] at c10
                exact absurd c10 (nI_nlt (b := 10) (by omega) (by omega))
              · exact z
          unfold cH_tellProcess
          rw [if_neg c0, if_neg c1, if_neg c2, if_neg c3, if_neg c4, if_neg c5, if_neg c6, tellVar_no hE hA hp hD hv]; rfl
        · rw [if_neg c0, if_neg c1, if_neg c2, if_neg c3, if_neg c4, if_neg c5, if_neg c6]
    · obtain ⟨j, hj, e⟩ := nI_of (x := w) (fun z => c10 (Int32.lt_trans z (by decide)))
      subst e
      have hj10 : 10 ≤ j := by
        rcases Nat.lt_or_ge j 10 with z | z
        · exact absurd (show nI j < (10 : Int32) from nI_lt (b := 10) z (by decide)) c10
        · exact z
      have e10 : nI j - (10 : Int32) = nI (j - 10) := pk_sub (b := 10) hj10
      have hne : ∀ m, m < 10 → ¬ nI j = nI m := fun m hm z => by have := nI_inj hj (by omega) z; omega
      have eP : cH_tellProcess p (nI j) s = (cH_tellVariable p (nI (j - 10)) s).bind (fun x28 => some (x28.1, x28.2)) := by
        unfold cH_tellProcess
        rw [if_neg (show ¬ nI j = (0 : Int32) from hne 0 (by omega)), if_neg (show ¬ nI j = (1 : Int32) from hne 1 (by omega)), if_neg (show ¬ nI j = (2 : Int32) from hne 2 (by omega)), if_neg (show ¬ nI j = (3 : Int32) from hne 3 (by omega)), if_neg (show ¬ nI j = (4 : Int32) from hne 4 (by omega)), if_neg (show ¬ nI j = (5 : Int32) from hne 5 (by omega)), if_neg (show ¬ nI j = (6 : Int32) from hne 6 (by omega)), e10]
      have ePr : prE p (nI j) (nI (us (m_U M) p 8)) s = some (-2000000000, s) := by
        unfold prE
        rw [if_neg (show ¬ nI j = (0 : Int32) from hne 0 (by omega)), if_neg (show ¬ nI j = (1 : Int32) from hne 1 (by omega)), if_neg (show ¬ nI j = (2 : Int32) from hne 2 (by omega)), if_neg (show ¬ nI j = (3 : Int32) from hne 3 (by omega)), if_neg (show ¬ nI j = (4 : Int32) from hne 4 (by omega)), if_neg (show ¬ nI j = (5 : Int32) from hne 5 (by omega)), if_neg (show ¬ nI j = (6 : Int32) from hne 6 (by omega))]
      rw [if_neg c10, Option.bind_some]
      dsimp only
      rw [e10, e66, ePr]
      by_cases d : vc (m_D M p) ≤ j - 10
      · refine ⟨-2000000000, eX _ ?_, by rw [if_pos (nI_le d (by omega))]⟩
        rw [eP]
        by_cases d8 : j - 10 < 8
        · rw [tellVar_ok hE hA hp hD d8, if_pos d]; rfl
        · rw [tellVar_no hE hA hp hD (Or.inr (show (8 : Int32) ≤ nI (j - 10) from nI_le (a := 8) (by omega) (by omega)))]; rfl
      · refine ⟨m_V M p (j - 10), eX _ ?_, ?_⟩
        · rw [eP, tellVar_ok hE hA hp hD (by omega), if_neg d]; rfl
        · rw [if_neg (nI_ge (by omega) (by omega)), show ((8 : Int32) * nI p + nI j) - (10 : Int32) = nI (8 * p + (j - 10)) by
            rw [show (8 : Int32) = nI 8 from rfl, pk_mul, nI_add, show (10 : Int32) = nI 10 from rfl, pk_sub (by omega), show 8 * p + j - 10 = 8 * p + (j - 10) by omega], if_pos (nI_idx (by omega) (by decide)), nI_clamp (by omega), VB_vl hB p hp (j - 10) (by omega)]
