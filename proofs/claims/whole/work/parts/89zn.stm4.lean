/-! STATEMENTS AT WORK: say, set, if, while. -/
theorem gA_wf {s : ts} {f g i j : Nat} {x : Int32} (h : ¬ g = f) : gA (wA s f i x) g j = gA s g j := by rw [gA_wA, if_neg (fun z => h z.1)]
theorem say_ok {rm : Nat → Nat} {G : List Ln} {nd l p : Nat} {v : Int32} {a b : ts} {M : Md} (hb : Bs rm G l p M) (hA : VA rm a M) (hB : VB rm b M) (htc : m_tc M < 2000000000) : ∃ a1 b1 M1, cH_say v a = some a1 ∧ (if ((1000 : Int32)) ≤ (gI b 1161 0) then (if am_idx ((gI b 1161 0) - (gI b 1161 0) / ((1000 : Int32)) * ((1000 : Int32))) 1000 = true then cR_perform_458 v ((gI b 1161 0) - (gI b 1161 0) / ((1000 : Int32)) * ((1000 : Int32))) (gA b 116 ((gI b 1161 0) - (gI b 1161 0) / ((1000 : Int32)) * ((1000 : Int32))).toNatClampNeg) b else none) else cR_perform_458 v ((gI b 1161 0) - (gI b 1161 0) / ((1000 : Int32)) * ((1000 : Int32))) (gI b 1152 0) b) = some b1 ∧ VA rm a1 M1 ∧ VB rm b1 M1 ∧ Inv rm M1 none ∧ Sy rm G nd 0 l p M M1 := by
  obtain ⟨hI, hJ, hmb, hp, hS, ham, hT, hL, hG⟩ := hb
  have eA := VA_tc hA
  have eB := VB_tc hB
  have tA := VA_tm hA
  have tB := VB_tm hB
  have hrem : nI (m_tc M) - nI (m_tc M) / (1000 : Int32) * (1000 : Int32) = nI (m_tc M % 1000) := pk_rem (d := 1000) (by omega) (by omega) (by omega)
  have hI1 : Inv rm (mSay M v) none := by
    unfold Inv at hI ⊢
    simp only [p_mSay]
    exact hI
  have hSy : Sy rm G nd 0 l p M (mSay M v) := by
    have hw := mw_mb hI1 (by simp only [p_mSay]; exact hmb)
    refine ⟨?_, fun y hy hyp => ?_, fun y h1 h2 => ?_, ?_, hw, Or.inr (Or.inr ?_)⟩
    · simp only [p_mSay]
      exact ⟨Nat.le_refl _, trivial, Nat.le_refl _, trivial, Nat.le_refl _, trivial⟩
    · simp only [p_mSay]
      exact ⟨⟨trivial, trivial, trivial⟩, Or.inl trivial, fun _ => trivial⟩
    · simp only [p_mSay] at h2; omega
    · unfold Jv at hJ ⊢
      simp only [p_mSay]
      exact hJ
    · simp only [p_mSay]
      rw [hT, hL]
      exact ⟨by omega, rfl, hG⟩
  by_cases c : m_tc M < 1000
  · have hm : m_tc M % 1000 = m_tc M := Nat.mod_eq_of_lt c
    generalize ha : wI (wA (wA a 85 (m_tc M) (nI (m_tm M))) 86 (m_tc M) v) 1008 0 (nI (m_tc M + 1)) = a1
    generalize hb1 : wI (wA (wA b 116 (m_tc M) (nI (m_tm M))) 117 (m_tc M) v) 1161 0 (nI (m_tc M + 1)) = b1
    have fa : fr [1008, 2085, 2086] a a1 := by rw [← ha]; exact fr_wI (fr_wA (fr_wA fr_rf rfl) rfl) rfl
    have fb : fr [1161, 2116, 2117] b b1 := by rw [← hb1]; exact fr_wI (fr_wA (fr_wA fr_rf rfl) rfl) rfl
    refine ⟨a1, b1, mSay M v, ?_, ?_, ?_, ?_, hI1, hSy⟩
    · unfold cH_say
      have e1 : gI (wA a 85 (m_tc M) (nI (m_tm M))) 1008 0 = nI (m_tc M) := eA
      have e2 : gI (wA (wA a 85 (m_tc M) (nI (m_tm M))) 86 (m_tc M) v) 1008 0 = nI (m_tc M) := eA
      rw [eA, if_neg (show ¬ (1000 : Int32) ≤ nI (m_tc M) from nI_ge (b := 1000) c (by decide)), if_pos (nI_idx c (by decide)), nI_clamp (by omega), tA, e1, if_pos (nI_idx c (by decide)), nI_clamp (by omega), e2, nI_1, ha]
    · rw [eB, if_neg (show ¬ (1000 : Int32) ≤ nI (m_tc M) from nI_ge (b := 1000) c (by decide)), hrem, hm, tB]
      unfold cR_perform_458
      have e1 : gI (wA b 116 (m_tc M) (nI (m_tm M))) 1161 0 = nI (m_tc M) := eB
      have e2 : gI (wA (wA b 116 (m_tc M) (nI (m_tm M))) 117 (m_tc M) v) 1161 0 = nI (m_tc M) := eB
      rw [if_pos (nI_idx c (by decide)), nI_clamp (by omega), e1, if_neg (show ¬ (1000 : Int32) ≤ nI (m_tc M) from nI_ge (b := 1000) c (by decide)), hrem, hm, if_pos (nI_idx c (by decide)), nI_clamp (by omega), e2, nI_1, hb1]
    · unfold VA
      simp only [p_mSay]
      refine ⟨(fa.1 800 rfl 0).trans (VA_tm hA), (fa.1 801 rfl 0).trans (VA_sd hA), fun i hi => (fa.2.1 36 rfl i).trans ((VA_nu hA) i hi), (fa.1 1004 rfl 0).trans (VA_st hA), (fa.1 1005 rfl 0).trans (VA_tn hA), (fa.1 904 rfl 0).trans (VA_N hA), (fa.1 905 rfl 0).trans (VA_en hA), (fa.1 906 rfl 0).trans (VA_wg hA), ?_, ?_, (fa.2.2.2.2.1 1003 rfl 0).trans (VA_am hA), fun q hq => (fa.1 703 rfl q).trans ((VA_th hA) q hq), fun q hq => (fa.1 704 rfl q).trans ((VA_rm hA) q hq), fun q hq => (fa.1 705 rfl q).trans ((VA_sv hA) q hq), fun q hq => (fa.1 706 rfl q).trans ((VA_lt hA) q hq), fun q hq => (fa.1 707 rfl q).trans ((VA_mw hA) q hq), fun q hq => (fa.2.2.2.1 708 rfl q).trans ((VA_s0 hA) q hq), fun q hq => (fa.2.2.2.1 709 rfl q).trans ((VA_s1 hA) q hq), fun q hq => (fa.2.2.2.1 710 rfl q).trans ((VA_s2 hA) q hq), fun q hq => (fa.1 700 rfl q).trans ((VA_iS hA) q hq), by rw [fa.2.2.2.2.2.2.2.1 rfl]; exact (VA_gm hA), fun p hp => (fa.1 500 rfl p).trans ((VA_no hA) p (by rw [fa.2.2.2.2.2.2.2.1 rfl] at hp; exact hp)), fun p hp => (fa.1 501 rfl p).trans ((VA_df hA) p hp), fun p hp => (fa.1 502 rfl p).trans ((VA_ss hA) p hp), fun p hp => (fa.1 503 rfl p).trans ((VA_at hA) p hp), fun p hp => (fa.1 504 rfl p).trans ((VA_wr hA) p hp), fun p hp => (fa.1 508 rfl p).trans ((VA_ke hA) p hp), fun p hp => (fa.1 510 rfl p).trans ((VA_si hA) p hp), fun p hp => (fa.1 512 rfl p).trans ((VA_ao hA) p hp), fun p hp hs => (fa.1 511 rfl p).trans ((VA_wh hA) p hp hs), fun p hp i hi => (fa.2.2.2.2.2.1 rfl p i).trans ((VA_vl hA) p hp i hi), fun p hp i hi => (fa.2.2.2.2.2.2.1 rfl p i).trans ((VA_un hA) p hp i hi), fun ρ hρ => ln_congr (fa.2.2.2.2.1 600 rfl _) (fa.1 601 rfl _) (fun x _ => fa.2.2.2.2.1 509 rfl x) (fun x _ => fa.2.2.2.2.1 507 rfl x) (by rw [fa.2.2.2.2.2.2.2.1 rfl]; exact Nat.le_refl _) ((VA_li hA) ρ hρ), fun p hp hn => (fa.2.2.2.2.1 507 rfl p).trans ((VA_nw hA) p hp hn)⟩
      · rw [← ha, gI_ws]
      · intro k h1 h2
        rw [if_pos c, if_pos c, ← ha]
        show gA (wA (wA a 85 (m_tc M) (nI (m_tm M))) 86 (m_tc M) v) 85 k = _ ∧ gA (wA (wA a 85 (m_tc M) (nI (m_tm M))) 86 (m_tc M) v) 86 k = _
        have f85 : gA (wA (wA a 85 (m_tc M) (nI (m_tm M))) 86 (m_tc M) v) 85 k = gA (wA a 85 (m_tc M) (nI (m_tm M))) 85 k := gA_wf (by decide)
        rw [f85]
        by_cases d : k = m_tc M
        · rw [d, up_s, up_s, gA_ws, gA_ws]; exact ⟨rfl, rfl⟩
        · rw [up_n d, up_n d, gA_wn d, gA_wn d]
          exact VA_tt hA k h1 (by omega)
    · unfold VB rb
      simp only [p_mSay]
      refine ⟨⟨(fb.1 1110 rfl 0).trans (VB_nr hB).1, (VB_nr hB).2⟩, fun r hr => (fb.2.1 90 rfl r).trans ((VB_r0 hB) r hr), fun s hs => (fb.2.1 93 rfl s).trans ((VB_r1 hB) s hs), (fb.1 1152 rfl 0).trans (VB_tm hB), (fb.1 1158 rfl 0).trans (VB_sd hB), fun i hi => (fb.2.1 118 rfl i).trans ((VB_nu hB) i hi), (fb.1 1153 rfl 0).trans (VB_st hB), (fb.1 1154 rfl 0).trans (VB_tn hB), (fb.1 1155 rfl 0).trans (VB_N hB), (fb.1 1156 rfl 0).trans (VB_en hB), (fb.1 1157 rfl 0).trans (VB_wg hB), ?_, ?_, (fb.1 1159 rfl 0).trans (VB_am hB), fun q hq => (fb.2.1 129 rfl q).trans ((VB_th hB) q hq), fun q hq => (fb.2.1 130 rfl q).trans ((VB_sv hB) q hq), fun q hq => (fb.2.1 131 rfl q).trans ((VB_lt hB) q hq), fun q hq => (fb.2.1 132 rfl q).trans ((VB_mb hB) q hq), fun q hq => (fb.2.2.1 133 rfl q).trans ((VB_s0 hB) q hq), fun q hq => (fb.2.2.1 134 rfl q).trans ((VB_s1 hB) q hq), fun q hq => (fb.2.2.1 135 rfl q).trans ((VB_s2 hB) q hq), fun p hp => (fb.2.1 119 rfl p).trans ((VB_df hB) p hp), fun p hp => (fb.2.1 120 rfl p).trans ((VB_ss hB) p hp), fun p hp => (fb.2.1 121 rfl p).trans ((VB_at hB) p hp), fun p hp hs => (fb.2.1 122 rfl p).trans ((VB_du hB) p hp hs), fun p hp hs => (fb.2.2.1 123 rfl p).trans ((VB_pa hB) p hp hs), (fb.2.2.2.1 1160 rfl 0).trans (VB_P hB), fun p hp => (fb.2.1 124 rfl p).trans ((VB_si hB) p hp), fun p hp hs => (fb.2.1 125 rfl p).trans ((VB_wh hB) p hp hs), fun p hp => (fb.2.1 126 rfl p).trans ((VB_wr hB) p hp), fun p hp i hi => (fb.2.1 127 rfl _).trans ((VB_vl hB) p hp i hi), fun p hp i hi => (fb.2.1 128 rfl _).trans ((VB_un hB) p hp i hi), fun ρ hρ => rw1_fr ((VB_ro hB) ρ hρ) fb rfl rfl rfl, aw1_fr (VB_aw hB) fb rfl rfl⟩
      · rw [← hb1, gI_ws]
      · intro k h1 h2
        rw [if_pos c, if_pos c, ← hb1]
        show gA (wA (wA b 116 (m_tc M) (nI (m_tm M))) 117 (m_tc M) v) 116 k = _ ∧ gA (wA (wA b 116 (m_tc M) (nI (m_tm M))) 117 (m_tc M) v) 117 k = _
        have f85 : gA (wA (wA b 116 (m_tc M) (nI (m_tm M))) 117 (m_tc M) v) 116 k = gA (wA b 116 (m_tc M) (nI (m_tm M))) 116 k := gA_wf (by decide)
        rw [f85]
        by_cases d : k = m_tc M
        · rw [d, up_s, up_s, gA_ws, gA_ws]; exact ⟨rfl, rfl⟩
        · rw [up_n d, up_n d, gA_wn d, gA_wn d]
          exact VB_tt hB k h1 (by omega)
  · have hmm : m_tc M % 1000 < 1000 := Nat.mod_lt _ (by omega)
    generalize ha : wI a 1008 0 (nI (m_tc M + 1)) = a1
    generalize hb1 : wI (wA (wA b 116 (m_tc M % 1000) (gA b 116 (m_tc M % 1000))) 117 (m_tc M % 1000) (gA b 117 (m_tc M % 1000))) 1161 0 (nI (m_tc M + 1)) = b1
    have fa : fr [1008] a a1 := by rw [← ha]; exact fr_wI fr_rf rfl
    have fb : fr [1161, 2116, 2117] b b1 := by rw [← hb1]; exact fr_wI (fr_wA (fr_wA fr_rf rfl) rfl) rfl
    refine ⟨a1, b1, mSay M v, ?_, ?_, ?_, ?_, hI1, hSy⟩
    · unfold cH_say
      rw [eA, if_pos (show (1000 : Int32) ≤ nI (m_tc M) from nI_le (a := 1000) (by omega) (by omega)), nI_1, ha]
    · rw [eB, if_pos (show (1000 : Int32) ≤ nI (m_tc M) from nI_le (a := 1000) (by omega) (by omega)), hrem, if_pos (nI_idx hmm (by decide)), nI_clamp (by omega)]
      unfold cR_perform_458
      have e1 : gI (wA b 116 (m_tc M % 1000) (gA b 116 (m_tc M % 1000))) 1161 0 = nI (m_tc M) := eB
      have e3 : gA (wA b 116 (m_tc M % 1000) (gA b 116 (m_tc M % 1000))) 117 (m_tc M % 1000) = gA b 117 (m_tc M % 1000) := gA_wf (by decide)
      have e2 : gI (wA (wA b 116 (m_tc M % 1000) (gA b 116 (m_tc M % 1000))) 117 (m_tc M % 1000) (gA b 117 (m_tc M % 1000))) 1161 0 = nI (m_tc M) := eB
      rw [if_pos (nI_idx hmm (by decide)), nI_clamp (by omega), e1, if_pos (show (1000 : Int32) ≤ nI (m_tc M) from nI_le (a := 1000) (by omega) (by omega)), hrem, if_pos (nI_idx hmm (by decide)), nI_clamp (by omega), e3, e2, nI_1, hb1]
    · unfold VA
      simp only [p_mSay]
      refine ⟨(fa.1 800 rfl 0).trans (VA_tm hA), (fa.1 801 rfl 0).trans (VA_sd hA), fun i hi => (fa.2.1 36 rfl i).trans ((VA_nu hA) i hi), (fa.1 1004 rfl 0).trans (VA_st hA), (fa.1 1005 rfl 0).trans (VA_tn hA), (fa.1 904 rfl 0).trans (VA_N hA), (fa.1 905 rfl 0).trans (VA_en hA), (fa.1 906 rfl 0).trans (VA_wg hA), ?_, ?_, (fa.2.2.2.2.1 1003 rfl 0).trans (VA_am hA), fun q hq => (fa.1 703 rfl q).trans ((VA_th hA) q hq), fun q hq => (fa.1 704 rfl q).trans ((VA_rm hA) q hq), fun q hq => (fa.1 705 rfl q).trans ((VA_sv hA) q hq), fun q hq => (fa.1 706 rfl q).trans ((VA_lt hA) q hq), fun q hq => (fa.1 707 rfl q).trans ((VA_mw hA) q hq), fun q hq => (fa.2.2.2.1 708 rfl q).trans ((VA_s0 hA) q hq), fun q hq => (fa.2.2.2.1 709 rfl q).trans ((VA_s1 hA) q hq), fun q hq => (fa.2.2.2.1 710 rfl q).trans ((VA_s2 hA) q hq), fun q hq => (fa.1 700 rfl q).trans ((VA_iS hA) q hq), by rw [fa.2.2.2.2.2.2.2.1 rfl]; exact (VA_gm hA), fun p hp => (fa.1 500 rfl p).trans ((VA_no hA) p (by rw [fa.2.2.2.2.2.2.2.1 rfl] at hp; exact hp)), fun p hp => (fa.1 501 rfl p).trans ((VA_df hA) p hp), fun p hp => (fa.1 502 rfl p).trans ((VA_ss hA) p hp), fun p hp => (fa.1 503 rfl p).trans ((VA_at hA) p hp), fun p hp => (fa.1 504 rfl p).trans ((VA_wr hA) p hp), fun p hp => (fa.1 508 rfl p).trans ((VA_ke hA) p hp), fun p hp => (fa.1 510 rfl p).trans ((VA_si hA) p hp), fun p hp => (fa.1 512 rfl p).trans ((VA_ao hA) p hp), fun p hp hs => (fa.1 511 rfl p).trans ((VA_wh hA) p hp hs), fun p hp i hi => (fa.2.2.2.2.2.1 rfl p i).trans ((VA_vl hA) p hp i hi), fun p hp i hi => (fa.2.2.2.2.2.2.1 rfl p i).trans ((VA_un hA) p hp i hi), fun ρ hρ => ln_congr (fa.2.2.2.2.1 600 rfl _) (fa.1 601 rfl _) (fun x _ => fa.2.2.2.2.1 509 rfl x) (fun x _ => fa.2.2.2.2.1 507 rfl x) (by rw [fa.2.2.2.2.2.2.2.1 rfl]; exact Nat.le_refl _) ((VA_li hA) ρ hρ), fun p hp hn => (fa.2.2.2.2.1 507 rfl p).trans ((VA_nw hA) p hp hn)⟩
      · rw [← ha, gI_ws]
      · intro k h1 h2
        rw [if_neg c, if_neg c, ← ha]
        exact VA_tt hA k h1 (by omega)
    · unfold VB rb
      simp only [p_mSay]
      refine ⟨⟨(fb.1 1110 rfl 0).trans (VB_nr hB).1, (VB_nr hB).2⟩, fun r hr => (fb.2.1 90 rfl r).trans ((VB_r0 hB) r hr), fun s hs => (fb.2.1 93 rfl s).trans ((VB_r1 hB) s hs), (fb.1 1152 rfl 0).trans (VB_tm hB), (fb.1 1158 rfl 0).trans (VB_sd hB), fun i hi => (fb.2.1 118 rfl i).trans ((VB_nu hB) i hi), (fb.1 1153 rfl 0).trans (VB_st hB), (fb.1 1154 rfl 0).trans (VB_tn hB), (fb.1 1155 rfl 0).trans (VB_N hB), (fb.1 1156 rfl 0).trans (VB_en hB), (fb.1 1157 rfl 0).trans (VB_wg hB), ?_, ?_, (fb.1 1159 rfl 0).trans (VB_am hB), fun q hq => (fb.2.1 129 rfl q).trans ((VB_th hB) q hq), fun q hq => (fb.2.1 130 rfl q).trans ((VB_sv hB) q hq), fun q hq => (fb.2.1 131 rfl q).trans ((VB_lt hB) q hq), fun q hq => (fb.2.1 132 rfl q).trans ((VB_mb hB) q hq), fun q hq => (fb.2.2.1 133 rfl q).trans ((VB_s0 hB) q hq), fun q hq => (fb.2.2.1 134 rfl q).trans ((VB_s1 hB) q hq), fun q hq => (fb.2.2.1 135 rfl q).trans ((VB_s2 hB) q hq), fun p hp => (fb.2.1 119 rfl p).trans ((VB_df hB) p hp), fun p hp => (fb.2.1 120 rfl p).trans ((VB_ss hB) p hp), fun p hp => (fb.2.1 121 rfl p).trans ((VB_at hB) p hp), fun p hp hs => (fb.2.1 122 rfl p).trans ((VB_du hB) p hp hs), fun p hp hs => (fb.2.2.1 123 rfl p).trans ((VB_pa hB) p hp hs), (fb.2.2.2.1 1160 rfl 0).trans (VB_P hB), fun p hp => (fb.2.1 124 rfl p).trans ((VB_si hB) p hp), fun p hp hs => (fb.2.1 125 rfl p).trans ((VB_wh hB) p hp hs), fun p hp => (fb.2.1 126 rfl p).trans ((VB_wr hB) p hp), fun p hp i hi => (fb.2.1 127 rfl _).trans ((VB_vl hB) p hp i hi), fun p hp i hi => (fb.2.1 128 rfl _).trans ((VB_un hB) p hp i hi), fun ρ hρ => rw1_fr ((VB_ro hB) ρ hρ) fb rfl rfl rfl, aw1_fr (VB_aw hB) fb rfl rfl⟩
      · rw [← hb1, gI_ws]
      · intro k h1 h2
        rw [if_neg c, if_neg c, ← hb1]
        show gA (wA (wA b 116 (m_tc M % 1000) (gA b 116 (m_tc M % 1000))) 117 (m_tc M % 1000) (gA b 117 (m_tc M % 1000))) 116 k = _ ∧ gA (wA (wA b 116 (m_tc M % 1000) (gA b 116 (m_tc M % 1000))) 117 (m_tc M % 1000) (gA b 117 (m_tc M % 1000))) 117 k = _
        have f85 : gA (wA (wA b 116 (m_tc M % 1000) (gA b 116 (m_tc M % 1000))) 117 (m_tc M % 1000) (gA b 117 (m_tc M % 1000))) 116 k = gA b 116 k := by
          refine (gA_wf (by decide)).trans ?_
          by_cases d : k = m_tc M % 1000
          · rw [d]; exact gA_ws
          · exact gA_wn d
        have f86 : gA (wA (wA b 116 (m_tc M % 1000) (gA b 116 (m_tc M % 1000))) 117 (m_tc M % 1000) (gA b 117 (m_tc M % 1000))) 117 k = gA b 117 k := by
          by_cases d : k = m_tc M % 1000
          · rw [d]; exact gA_ws
          · exact (gA_wn d).trans (gA_wf (by decide))
        rw [f85, f86]
        exact VB_tt hB k h1 (by omega)
theorem Sy_V {rm : Nat → Nat} {G : List Ln} {nd l p i : Nat} {v : Int32} {M : Md} (hb : Bs rm G l p M) : Inv rm (mVal M p i v) none ∧ Sy rm G nd 0 l p M (mVal M p i v) := by
  have hI : Inv rm (mVal M p i v) none := by
    have := hb.1
    unfold Inv at this ⊢
    simp only [p_mVal]
    exact this
  refine ⟨hI, Sy_Qt hb ?_ hI⟩
  unfold Qt
  simp only [p_mVal]
  exact ⟨⟨trivial, trivial, trivial, trivial, trivial, trivial, trivial, trivial, trivial⟩, Nat.le_refl _, fun _ _ => Or.inl trivial, trivial, fun _ _ _ h => h⟩
theorem Sy_nu {rm : Nat → Nat} {G : List Ln} {nd l p i : Nat} {v : Int32} {M : Md} (hb : Bs rm G l p M) : Inv rm (mNum M i v) none ∧ Sy rm G nd 0 l p M (mNum M i v) := by
  have hI : Inv rm (mNum M i v) none := by
    have := hb.1
    unfold Inv at this ⊢
    simp only [p_mNum]
    exact this
  refine ⟨hI, Sy_Qt hb ?_ hI⟩
  unfold Qt
  simp only [p_mNum]
  exact ⟨⟨trivial, trivial, trivial, trivial, trivial, trivial, trivial, trivial, trivial⟩, Nat.le_refl _, fun _ _ => Or.inl trivial, trivial, fun _ _ _ h => h⟩
/-- a value is set -/
theorem set_ok {rm : Nat → Nat} {G : List Ln} {nd l p i : Nat} {v : Int32} {a b : ts} {M : Md} (hb : Bs rm G l p M) (hA : VA rm a M) (hB : VB rm b M) (hi : i < 24) : ∃ a1 b1 M1, cW_assign p (nI i) v a = some a1 ∧ (if i < 8 then (if am_idx ((((8 : Int32)) * nI p) + nI i) 2400 = true then some (wA b 127 ((((8 : Int32)) * nI p) + nI i).toNatClampNeg v) else none) else (if am_idx (nI (i - 8)) 16 = true then some (wA b 118 (nI (i - 8)).toNatClampNeg v) else none)) = some b1 ∧ VA rm a1 M1 ∧ VB rm b1 M1 ∧ Inv rm M1 none ∧ Sy rm G nd 0 l p M M1 := by
  have hp := hb.2.2.2.1
  have hN := (Inv_N hb.1).1
  have hpM : p < gM a := Nat.lt_of_lt_of_le hp (VA_gm hA).1
  unfold cW_assign
  rw [if_neg (nI_pos (by omega))]
  by_cases c : i < 8
  · have z := Sy_V (i := i) (v := v) (nd := nd) hb
    refine ⟨wV a p i v, wA b 127 (8 * p + i) v, mVal M p i v, ?_, ?_, cl_V hA, rc_V hB c, z.1, z.2⟩
    · rw [if_neg (show ¬ (8 : Int32) ≤ nI i from nI_ge (b := 8) c (by decide)), if_pos hpM, if_pos (nI_idx c (by decide)), nI_clamp (by omega)]
    · rw [if_pos c, show (8 : Int32) * nI p + nI i = nI (8 * p + i) by rw [show (8 : Int32) = nI 8 from rfl, pk_mul, nI_add], if_pos (nI_idx (by omega) (by decide)), nI_clamp (by omega)]
  · have z := Sy_nu (i := i - 8) (v := v) (nd := nd) hb
    refine ⟨wA a 36 (i - 8) v, wA b 118 (i - 8) v, mNum M (i - 8) v, ?_, ?_, cl_nu hA, rc_nu hB, z.1, z.2⟩
    · unfold cW_assign_20
      rw [if_pos (show (8 : Int32) ≤ nI i from nI_le (a := 8) (by omega) (by omega)), if_neg (show ¬ nI i < (8 : Int32) from nI_nlt (b := 8) (by omega) (by omega)), if_neg (show ¬ (24 : Int32) ≤ nI i from nI_ge (b := 24) hi (by decide)), show nI i - (8 : Int32) = nI (i - 8) from pk_sub (b := 8) (by omega), if_pos (nI_idx (by omega) (by decide)), nI_clamp (by omega)]
    · rw [if_neg c, if_pos (nI_idx (by omega) (by decide)), nI_clamp (by omega)]
theorem Inv_TL {rm : Nat → Nat} {M : Md} {o : Option Nat} {p l l2 : Nat} (h : Inv rm M o) : Inv rm (mLr (mT M p l) p l2) o := by
  unfold Inv at h ⊢
  simp only [p_mLr, p_mT]
  exact h
/-- a choice: the next line -/
theorem goto_ok {rm : Nat → Nat} {G : List Ln} {nd l p t : Nat} {a b : ts} {M : Md} (hb : Bs rm G l p M) (hA : VA rm a M) (hB : VB rm b M) (ht : t < G.length) : VA rm (wI a 503 p (nI t)) (mLr (mT M p t) p t) ∧ VB rm (wA b 121 p (nI t)) (mLr (mT M p t) p t) ∧ Inv rm (mLr (mT M p t) p t) none ∧ Sy rm G nd 0 l p M (mLr (mT M p t) p t) := by
  obtain ⟨hI, hJ, hmb, hp, hS, ham, hT, hL, hG⟩ := hb
  have hI1 : Inv rm (mLr (mT M p t) p t) none := Inv_TL hI
  refine ⟨cl_Lr (cl_T hA), rc_Lr (rc_T hB), hI1, ?_⟩
  have hw := mw_mb hI1 (by simp only [p_mLr, p_mT]; exact hmb)
  refine ⟨?_, fun y hy hyp => ?_, fun y h1 h2 => ?_, ?_, hw, Or.inr (Or.inr ?_)⟩
  · simp only [p_mLr, p_mT]
    exact ⟨Nat.le_refl _, trivial, by omega, trivial, Nat.le_refl _, trivial⟩
  · simp only [p_mLr, p_mT]
    rw [up_n hyp, up_n hyp]
    exact ⟨⟨rfl, rfl, trivial⟩, Or.inl trivial, fun _ => trivial⟩
  · simp only [p_mLr, p_mT] at h2; omega
  · unfold Jv at hJ ⊢
    simp only [p_mLr, p_mT]
    exact hJ
  · simp only [p_mLr, p_mT]
    rw [up_s, up_s]
    exact ⟨by omega, rfl, ht⟩
