/-! VIEWS BEHIND A FRAME; START as a call. -/
def vaF : List Nat := [500, 501, 502, 503, 504, 508, 510, 511, 512, 601, 700, 703, 704, 705, 706, 707, 800, 801, 904, 905, 906, 1004, 1005, 1008, 2036, 2085, 2086, 4708, 4709, 4710, 6507, 6509, 6600, 7003, 9001, 9002, 9003]
def vbF : List Nat := [1110, 1152, 1153, 1154, 1155, 1156, 1157, 1158, 1159, 1161, 1185, 2090, 2093, 2116, 2117, 2118, 2119, 2120, 2121, 2122, 2124, 2125, 2126, 2127, 2128, 2129, 2130, 2131, 2132, 2136, 2137, 2138, 2139, 3123, 3133, 3134, 3135, 5160]
theorem VA_fr {rm : Nat → Nat} {a a1 : ts} {M : Md} {W : List Nat} (h : VA rm a M) (fa : fr W a a1) (hd : dj vaF W = true) : VA rm a1 M := ⟨(fa.1 800 (dj_m hd rfl) 0).trans (VA_tm h), (fa.1 801 (dj_m hd rfl) 0).trans (VA_sd h), fun i hi => (fa.2.1 36 (dj_m hd rfl) i).trans ((VA_nu h) i hi), (fa.1 1004 (dj_m hd rfl) 0).trans (VA_st h), (fa.1 1005 (dj_m hd rfl) 0).trans (VA_tn h), (fa.1 904 (dj_m hd rfl) 0).trans (VA_N h), (fa.1 905 (dj_m hd rfl) 0).trans (VA_en h), (fa.1 906 (dj_m hd rfl) 0).trans (VA_wg h), (fa.1 1008 (dj_m hd rfl) 0).trans (VA_tc h), fun k h1 h2 => ⟨(fa.2.1 85 (dj_m hd rfl) k).trans ((VA_tt h) k h1 h2).1, (fa.2.1 86 (dj_m hd rfl) k).trans ((VA_tt h) k h1 h2).2⟩, (fa.2.2.2.2.1 1003 (dj_m hd rfl) 0).trans (VA_am h), fun q hq => (fa.1 703 (dj_m hd rfl) q).trans ((VA_th h) q hq), fun q hq => (fa.1 704 (dj_m hd rfl) q).trans ((VA_rm h) q hq), fun q hq => (fa.1 705 (dj_m hd rfl) q).trans ((VA_sv h) q hq), fun q hq => (fa.1 706 (dj_m hd rfl) q).trans ((VA_lt h) q hq), fun q hq => (fa.1 707 (dj_m hd rfl) q).trans ((VA_mw h) q hq), fun q hq => (fa.2.2.2.1 708 (dj_m hd rfl) q).trans ((VA_s0 h) q hq), fun q hq => (fa.2.2.2.1 709 (dj_m hd rfl) q).trans ((VA_s1 h) q hq), fun q hq => (fa.2.2.2.1 710 (dj_m hd rfl) q).trans ((VA_s2 h) q hq), fun q hq => (fa.1 700 (dj_m hd rfl) q).trans ((VA_iS h) q hq), by rw [fa.2.2.2.2.2.2.2.1 (dj_m hd rfl)]; exact (VA_gm h), fun p hp => (fa.1 500 (dj_m hd rfl) p).trans ((VA_no h) p (by rw [fa.2.2.2.2.2.2.2.1 (dj_m hd rfl)] at hp; exact hp)), fun p hp => (fa.1 501 (dj_m hd rfl) p).trans ((VA_df h) p hp), fun p hp => (fa.1 502 (dj_m hd rfl) p).trans ((VA_ss h) p hp), fun p hp => (fa.1 503 (dj_m hd rfl) p).trans ((VA_at h) p hp), fun p hp => (fa.1 504 (dj_m hd rfl) p).trans ((VA_wr h) p hp), fun p hp => (fa.1 508 (dj_m hd rfl) p).trans ((VA_ke h) p hp), fun p hp => (fa.1 510 (dj_m hd rfl) p).trans ((VA_si h) p hp), fun p hp => (fa.1 512 (dj_m hd rfl) p).trans ((VA_ao h) p hp), fun p hp hs => (fa.1 511 (dj_m hd rfl) p).trans ((VA_wh h) p hp hs), fun p hp i hi => (fa.2.2.2.2.2.1 (dj_m hd rfl) p i).trans ((VA_vl h) p hp i hi), fun p hp i hi => (fa.2.2.2.2.2.2.1 (dj_m hd rfl) p i).trans ((VA_un h) p hp i hi), fun ρ hρ => ln_congr (fa.2.2.2.2.1 600 (dj_m hd rfl) _) (fa.1 601 (dj_m hd rfl) _) (fun x _ => fa.2.2.2.2.1 509 (dj_m hd rfl) x) (fun x _ => fa.2.2.2.2.1 507 (dj_m hd rfl) x) (by rw [fa.2.2.2.2.2.2.2.1 (dj_m hd rfl)]; exact Nat.le_refl _) ((VA_li h) ρ hρ), fun p hp hn => (fa.2.2.2.2.1 507 (dj_m hd rfl) p).trans ((VA_nw h) p hp hn)⟩
theorem VB_fr {rm : Nat → Nat} {b b1 : ts} {M : Md} {W : List Nat} (h : VB rm b M) (fa : fr W b b1) (hd : dj vbF W = true) : VB rm b1 M := ⟨⟨(fa.1 1110 (dj_m hd rfl) 0).trans (VB_nr h).1, (VB_nr h).2⟩, fun r hr => (fa.2.1 90 (dj_m hd rfl) r).trans ((VB_r0 h) r hr), fun s hs => (fa.2.1 93 (dj_m hd rfl) s).trans ((VB_r1 h) s hs), (fa.1 1152 (dj_m hd rfl) 0).trans (VB_tm h), (fa.1 1158 (dj_m hd rfl) 0).trans (VB_sd h), fun i hi => (fa.2.1 118 (dj_m hd rfl) i).trans ((VB_nu h) i hi), (fa.1 1153 (dj_m hd rfl) 0).trans (VB_st h), (fa.1 1154 (dj_m hd rfl) 0).trans (VB_tn h), (fa.1 1155 (dj_m hd rfl) 0).trans (VB_N h), (fa.1 1156 (dj_m hd rfl) 0).trans (VB_en h), (fa.1 1157 (dj_m hd rfl) 0).trans (VB_wg h), (fa.1 1161 (dj_m hd rfl) 0).trans (VB_tc h), fun k h1 h2 => ⟨(fa.2.1 116 (dj_m hd rfl) k).trans ((VB_tt h) k h1 h2).1, (fa.2.1 117 (dj_m hd rfl) k).trans ((VB_tt h) k h1 h2).2⟩, (fa.1 1159 (dj_m hd rfl) 0).trans (VB_am h), fun q hq => (fa.2.1 129 (dj_m hd rfl) q).trans ((VB_th h) q hq), fun q hq => (fa.2.1 130 (dj_m hd rfl) q).trans ((VB_sv h) q hq), fun q hq => (fa.2.1 131 (dj_m hd rfl) q).trans ((VB_lt h) q hq), fun q hq => (fa.2.1 132 (dj_m hd rfl) q).trans ((VB_mb h) q hq), fun q hq => (fa.2.2.1 133 (dj_m hd rfl) q).trans ((VB_s0 h) q hq), fun q hq => (fa.2.2.1 134 (dj_m hd rfl) q).trans ((VB_s1 h) q hq), fun q hq => (fa.2.2.1 135 (dj_m hd rfl) q).trans ((VB_s2 h) q hq), fun p hp => (fa.2.1 119 (dj_m hd rfl) p).trans ((VB_df h) p hp), fun p hp => (fa.2.1 120 (dj_m hd rfl) p).trans ((VB_ss h) p hp), fun p hp => (fa.2.1 121 (dj_m hd rfl) p).trans ((VB_at h) p hp), fun p hp hs => (fa.2.1 122 (dj_m hd rfl) p).trans ((VB_du h) p hp hs), fun p hp hs => (fa.2.2.1 123 (dj_m hd rfl) p).trans ((VB_pa h) p hp hs), (fa.2.2.2.1 1160 (dj_m hd rfl) 0).trans (VB_P h), fun p hp => (fa.2.1 124 (dj_m hd rfl) p).trans ((VB_si h) p hp), fun p hp hs => (fa.2.1 125 (dj_m hd rfl) p).trans ((VB_wh h) p hp hs), fun p hp => (fa.2.1 126 (dj_m hd rfl) p).trans ((VB_wr h) p hp), fun p hp i hi => (fa.2.1 127 (dj_m hd rfl) _).trans ((VB_vl h) p hp i hi), fun p hp i hi => (fa.2.1 128 (dj_m hd rfl) _).trans ((VB_un h) p hp i hi), fun ρ hρ => rw1_fr ((VB_ro h) ρ hρ) fa (dj_m hd rfl) (dj_m hd rfl) (dj_m hd rfl), aw1_fr (VB_aw h) fa (dj_m hd rfl) (dj_m hd rfl)⟩
theorem mVal_id {M : Md} {q i : Nat} {v : Int32} (h : m_V M q i = v) : mVal M q i v = M := by
  have e : up2 (m_V M) q i v = m_V M := by
    funext j k
    unfold up2
    by_cases c : j = q ∧ k = i
    · rw [if_pos c, c.1, c.2, h]
    · rw [if_neg c]
  refine Md_ext ?_ ?_ ?_ ?_ ?_ ?_ ?_ ?_ ?_ ?_ ?_ ?_ ?_ ?_ ?_ ?_ ?_ ?_ ?_ ?_ ?_ ?_ ?_ ?_ ?_ ?_ ?_ ?_ ?_ ?_ ?_ ?_ ?_ ?_ <;> simp only [p_mVal]
  exact e
theorem vals_V {M : Md} {q : Nat} {f : Nat → Int32} : ∀ n i, n ≤ i → m_V (vals M q f n) q i = m_V M q i
  | 0, _, _ => rfl
  | n + 1, i, h => by
    show m_V (mVal (vals M q f n) q n (f n)) q i = _
    simp only [p_mVal]
    rw [up2_n (fun z => by omega)]
    exact vals_V n i (by omega)
theorem vals_z {M : Md} {q m : Nat} {f : Nat → Int32} (hV : ∀ i, m_V M q i = 0) (hf : ∀ i, m ≤ i → f i = 0) : ∀ k, vals M q f (m + k) = vals M q f m
  | 0 => rfl
  | k + 1 => by
    show mVal (vals M q f (m + k)) q (m + k) (f (m + k)) = _
    rw [mVal_id, vals_z hV hf k]
    rw [vals_V _ _ (Nat.le_refl _), hV, hf _ (by omega)]
def arg4 (a b c e : Int32) (i : Nat) : Int32 := if i = 0 then a else if i = 1 then b else if i = 2 then c else e
theorem vals_rs {rm : Nat → Nat} {q n d : Nat} {x1 x2 x3 x4 : Int32} (hq : q < 300) (hd : d < 12) : ∀ (k i F : Nat) (b : ts) (M : Md), i + k = min n 4 → n ≤ 8 → k < F → VB rm b (vals M q (arg4 x1 x2 x3 x4) i) → gA b 96 d = nI n → ∃ b1, cR_start_54 F (nI d) x1 x2 x3 x4 (nI q) (nI i) b = some (nI q, b1) ∧ VB rm b1 (vals M q (arg4 x1 x2 x3 x4) (min n 4)) := by
  intro k
  induction k with
  | zero =>
    intro i F b M hk hn hF hB h5
    obtain ⟨F0, rfl⟩ : ∃ F0, F = F0 + 1 := ⟨F - 1, by omega⟩
    have e : i = min n 4 := by omega
    refine ⟨b, ?_, e ▸ hB⟩
    rw [cR_start_54.eq_2]
    unfold cR_start_54_b
    rw [if_pos (nI_idx hd (by decide)), nI_clamp (by omega), h5]
    by_cases c : n ≤ i
    · rw [if_pos (nI_le c (by omega))]
    · rw [if_neg (nI_ge (by omega) (by omega)), if_pos (show (4 : Int32) ≤ nI i from nI_le (a := 4) (by omega) (by omega))]
  | succ k ih =>
    intro i F b M hk hn hF hB h5
    obtain ⟨F0, rfl⟩ : ∃ F0, F = F0 + 1 := ⟨F - 1, by omega⟩
    obtain ⟨b1, h1, h2⟩ := ih (i + 1) F0 (wA b 127 (8 * q + i) (arg4 x1 x2 x3 x4 i)) M (by omega) hn (by omega) (rc_V hB (by omega)) (by rw [gA_wf (by decide)]; exact h5)
    refine ⟨b1, ?_, h2⟩
    rw [cR_start_54.eq_2]
    unfold cR_start_54_b
    have e8 : (8 : Int32) * nI q + nI i = nI (8 * q + i) := by rw [show (8 : Int32) = nI 8 from rfl, pk_mul, nI_add]
    rw [if_pos (nI_idx hd (by decide)), nI_clamp (by omega), h5, if_neg (nI_ge (by omega) (by omega)), if_neg (show ¬ (4 : Int32) ≤ nI i from nI_ge (b := 4) (by omega) (by decide)), e8, nI_clamp (show 8 * q + i < 2 ^ 31 by omega), nI_1]
    have key : ∀ v, v = arg4 x1 x2 x3 x4 i → cR_start_54 F0 (nI d) x1 x2 x3 x4 (nI q) (nI (i + 1)) (wA b 127 (8 * q + i) v) = some (nI q, b1) := fun v hv => by rw [hv]; exact h1
    by_cases c0 : i = 0
    · rw [if_pos (show nI i = 0 by rw [c0]; rfl), if_pos (nI_idx (show 8 * q + i < 2400 by omega) (by decide))]; exact key _ (by unfold arg4; rw [if_pos c0])
    · rw [if_neg (nI_ne0 (by omega) (by omega))]
      by_cases c1 : i = 1
      · rw [if_pos (show nI i = 1 by rw [c1]; rfl), if_pos (nI_idx (show 8 * q + i < 2400 by omega) (by decide))]; exact key _ (by unfold arg4; rw [if_neg c0, if_pos c1])
      · rw [if_neg (show ¬ nI i = (1 : Int32) from fun z => c1 (nI_inj (b := 1) (by omega) (by decide) z))]
        by_cases c2 : i = 2
        · rw [if_pos (show nI i = 2 by rw [c2]; rfl), if_pos (nI_idx (show 8 * q + i < 2400 by omega) (by decide))]; exact key _ (by unfold arg4; rw [if_neg c0, if_neg c1, if_pos c2])
        · rw [if_neg (show ¬ nI i = (2 : Int32) from fun z => c2 (nI_inj (b := 2) (by omega) (by decide) z)), if_pos (nI_idx (show 8 * q + i < 2400 by omega) (by decide))]
          exact key _ (by unfold arg4; rw [if_neg c0, if_neg c1, if_neg c2])
def arg4z (n : Nat) (a b c e : Int32) (i : Nat) : Int32 := if i < n then (if i < 4 then arg4 a b c e i else 0) else 0
theorem vals_cg {M : Md} {q : Nat} {f g : Nat → Int32} : ∀ n, (∀ i, i < n → f i = g i) → vals M q f n = vals M q g n
  | 0, _ => rfl
  | n + 1, h => by
    show mVal (vals M q f n) q n (f n) = mVal (vals M q g n) q n (g n)
    rw [vals_cg n (fun i hi => h i (by omega)), h n (by omega)]
theorem if_arg {m j : Nat} {α : Type} {X : Int32 → Option α} {v : Int32} (hm : m < 1000) (hj : j < 1000) : (if nI m ≤ nI j then X 0 else X v) = X (if m ≤ j then 0 else v) := by
  by_cases c : m ≤ j
  · rw [if_pos c, if_pos (nI_le c (by omega))]
  · rw [if_neg c, if_neg (nI_ge (by omega) (by omega))]
theorem RW_start {rm : Nat → Nat} {G : List Ln} {nd d e n : Nat} {z t : Int32} {f : Nat → Int32} {M : Md} (hW : RW rm G nd M) (ham : m_am M = none) (hI : Inv rm (mStart M d e n z t f) none) (hd : d < nd) (he : e < G.length) : RW rm G nd (mStart M d e n z t f) := by
  obtain ⟨b1, b2, b3, b4, b5⟩ := hW
  obtain ⟨h1, h2, h3, h4, h5, h6, h7, h8, h9, h10, h11, h12⟩ := start_p (M := M) (d := d) (e := e) (n := n) (z := z) (t := t) (f := f)
  refine ⟨hI, Jv_rows b2 h10, by rw [h11, h12]; exact b3, fun y hy => ?_, fun y hy => by rw [h4, ham] at hy; cases hy⟩
  rw [h6, h7, h8, h9]
  by_cases c : y = m_N M
  · rw [c, up_s, up_s, up_s, up_s]
    exact ⟨hd, fun _ => ⟨rfl, he⟩, fun z => absurd z (by omega), fun z => absurd z (by omega)⟩
  · rw [up_n c, up_n c, up_n c, up_n c]; exact b4 y (by omega)
/-- start as a call -/
theorem startC_ok {rm pm en vc un rm0 : Nat → Nat} {L : Nat → List Int64} {G : List Ln} {τ : Nat → Int32} {K K' : Nat} {s : ts} {M : Md} (x0 x1 x2 x3 x4 : Int32) (hE : Evp s s L pm en vc un rm0 G τ K K' rm) (hA : VA rm s M) (hB : VB rm s M) (hW : RW rm G (L 3).length M) (h6 : gI s 6 0 = 1) (h1102 : gI s 1102 0 = 1) : ∃ v s1 s2 M1, cX_start x0 x1 x2 x3 x4 s = some (v, s1) ∧ cR_start x0 x1 x2 x3 x4 s1 = some (v, s2) ∧ VA rm s2 M1 ∧ VB rm s2 M1 ∧ RW rm G (L 3).length M1 ∧ m_P M1 ≤ m_P M + 1 ∧ m_tc M1 = m_tc M := by
  have hI := hW.1
  have hN := (Inv_N hI).1
  obtain ⟨⟨g1, g2, g3⟩, gn, gl, gd, _⟩ := hE.1
  have hnd := gn 3 (by omega)
  have hnd12 : (L 3).length ≤ 12 := hnd.2
  have r1119 : gI s 1119 0 = nI (L 3).length := hE.2.1.2.1.2.2.2
  have bad : cH_admits x0 s = some (0, s) → (x0 < 0 ∨ (¬ x0 < 0 ∧ nI (L 3).length ≤ x0) ∨ (¬ x0 < 0 ∧ ¬ nI (L 3).length ≤ x0 ∧ (m_N M = 300 ∨ (m_N M ≠ 300 ∧ m_am M ≠ none)))) → ∃ v s1 s2 M1, cX_start x0 x1 x2 x3 x4 s = some (v, s1) ∧ cR_start x0 x1 x2 x3 x4 s1 = some (v, s2) ∧ VA rm s2 M1 ∧ VB rm s2 M1 ∧ RW rm G (L 3).length M1 ∧ m_P M1 ≤ m_P M + 1 ∧ m_tc M1 = m_tc M := by
    intro ha hc
    refine ⟨-1, s, s, M, ?_, ?_, hA, hB, hW, by omega, rfl⟩
    · unfold cX_start
      rw [h6, if_neg (by decide), ha, Option.bind_some]; rfl
    · unfold cR_start
      rw [h1102, if_neg (by decide), r1119, VB_N hB, VB_am hB]
      rcases hc with c | ⟨c, c2⟩ | ⟨c, c2, c3⟩
      · rw [if_pos c]
      · rw [if_neg c, if_pos c2]
      · rw [if_neg c, if_neg c2]
        rcases c3 with c3 | ⟨c3, c4⟩
        · rw [if_pos (by rw [c3]; decide)]
        · rw [if_neg (show ¬ nI (m_N M) = (300 : Int32) from fun z => c3 (nI_inj (b := 300) (by omega) (by decide) z))]
          cases hm : m_am M with
          | none => exact absurd hm c4
          | some p =>
            have hp := (Inv_am hI).2 p hm
            rw [if_neg (show ¬ oi (-2) (some p) = (-2 : Int32) from nI_no2 (r := p) (by omega))]
  have edef : cG_isDefinition x0 s = if x0 < 0 then some (0, s) else if nI (L 3).length ≤ x0 then some (0, s) else if (12 : Int32) ≤ x0 then some (0, s) else some (1, s) := by
    unfold cG_isDefinition
    rw [show gA s 16 ((3 : Int32)).toNatClampNeg = nI (L 3).length from hnd.1]
  cases ham : m_am M with
  | some p =>
    have ha : cH_admits x0 s = some (0, s) := by
      unfold cH_admits
      rw [VA_am hA, ham]
    refine bad ha ?_
    by_cases c : x0 < 0
    · exact Or.inl c
    · by_cases c2 : nI (L 3).length ≤ x0
      · exact Or.inr (Or.inl ⟨c, c2⟩)
      · by_cases c3 : m_N M = 300
        · exact Or.inr (Or.inr ⟨c, c2, Or.inl c3⟩)
        · exact Or.inr (Or.inr ⟨c, c2, Or.inr ⟨c3, by rw [ham]; simp⟩⟩)
  | none =>
    by_cases c : x0 < 0
    · refine bad ?_ (Or.inl c)
      unfold cH_admits
      rw [VA_am hA, ham, edef, if_pos c, Option.bind_some]; rfl
    by_cases c2 : nI (L 3).length ≤ x0
    · refine bad ?_ (Or.inr (Or.inl ⟨c, c2⟩))
      unfold cH_admits
      rw [VA_am hA, ham, edef, if_neg c, if_pos c2, Option.bind_some]; rfl
    obtain ⟨d, hd31, hde⟩ := nI_of c
    have hd : d < (L 3).length := by
      rcases Nat.lt_or_ge d (L 3).length with z | z
      · exact z
      · exact absurd (by rw [hde]; exact nI_le z hd31) c2
    subst hde
    have hdef : cG_isDefinition (nI d) s = some (1, s) := isDef_yes hnd.1 hd hnd12
    by_cases c3 : m_N M = 300
    · refine bad ?_ (Or.inr (Or.inr ⟨c, c2, Or.inl c3⟩))
      unfold cH_admits cO_isFull
      rw [VA_am hA, ham]
      dsimp only
      rw [hdef, Option.bind_some]
      dsimp only
      rw [if_neg (by decide), VA_N hA, c3, if_neg (by decide), Option.bind_some]; rfl
    · have hN3 : m_N M < 300 := by omega
      have hpm := gd d hd
      have hadm : cH_admits (nI d) s = some (1, s) := by
        unfold cH_admits cO_isFull
        rw [VA_am hA, ham]
        dsimp only
        rw [hdef, Option.bind_some]
        dsimp only
        rw [if_neg (by decide), VA_N hA, if_pos (show nI (m_N M) < (300 : Int32) from nI_lt (b := 300) hN3 (by decide)), Option.bind_some]; rfl
      obtain ⟨a1, x, y, z, y1, y2⟩ := addP_ok (d := d) (e := en d) hA (Mm_of hI) hN3
      have y3 : cH_add (nI d) s = some (some (m_N M), a1) := by
        unfold cH_add
        rw [hdef, Option.bind_some]
        dsimp only
        rw [if_neg (by decide), if_pos (nI_idx (by omega) (by decide)), nI_clamp (by omega), hpm.2.2.2, y1]; rfl
      have fa := cH_add_fr (nI d) s _ y3
      have hgm : m_N M < gM a1 := by
        have := (VA_gm y2).1
        simp only [p_mNew] at this; omega
      have z1 := cl_V (p := m_N M) (i := 3) (v := if pm d ≤ 3 then 0 else x4) (cl_V (p := m_N M) (i := 2) (v := if pm d ≤ 2 then 0 else x3) (cl_V (p := m_N M) (i := 1) (v := if pm d ≤ 1 then 0 else x2) (cl_V (p := m_N M) (i := 0) (v := if pm d ≤ 0 then 0 else x1) y2)))
      have evals : mVal (mVal (mVal (mVal (mNew M d (en d) 7 x y z) (m_N M) 0 (if pm d ≤ 0 then 0 else x1)) (m_N M) 1 (if pm d ≤ 1 then 0 else x2)) (m_N M) 2 (if pm d ≤ 2 then 0 else x3)) (m_N M) 3 (if pm d ≤ 3 then 0 else x4) = vals (mNew M d (en d) 7 x y z) (m_N M) (arg4 x1 x2 x3 x4) (min (pm d) 4) := by
        have hz : ∀ i, m_V (mNew M d (en d) 7 x y z) (m_N M) i = 0 := fun i => by simp only [p_mNew]; rw [up_s]
        have e1 : mVal (mVal (mVal (mVal (mNew M d (en d) 7 x y z) (m_N M) 0 (if pm d ≤ 0 then 0 else x1)) (m_N M) 1 (if pm d ≤ 1 then 0 else x2)) (m_N M) 2 (if pm d ≤ 2 then 0 else x3)) (m_N M) 3 (if pm d ≤ 3 then 0 else x4) = vals (mNew M d (en d) 7 x y z) (m_N M) (arg4z (pm d) x1 x2 x3 x4) 4 := by
          have f0 : arg4z (pm d) x1 x2 x3 x4 0 = if pm d ≤ 0 then 0 else x1 := by
            unfold arg4z arg4
            by_cases q : pm d ≤ 0
            · rw [if_pos q, if_neg (by omega)]
            · rw [if_neg q, if_pos (by omega)]; rfl
          have f1 : arg4z (pm d) x1 x2 x3 x4 1 = if pm d ≤ 1 then 0 else x2 := by
            unfold arg4z arg4
            by_cases q : pm d ≤ 1
            · rw [if_pos q, if_neg (by omega)]
            · rw [if_neg q, if_pos (by omega)]; rfl
          have f2 : arg4z (pm d) x1 x2 x3 x4 2 = if pm d ≤ 2 then 0 else x3 := by
            unfold arg4z arg4
            by_cases q : pm d ≤ 2
            · rw [if_pos q, if_neg (by omega)]
            · rw [if_neg q, if_pos (by omega)]; rfl
          have f3 : arg4z (pm d) x1 x2 x3 x4 3 = if pm d ≤ 3 then 0 else x4 := by
            unfold arg4z arg4
            by_cases q : pm d ≤ 3
            · rw [if_pos q, if_neg (by omega)]
            · rw [if_neg q, if_pos (by omega)]; rfl
          rw [← f0, ← f1, ← f2, ← f3]; rfl
        have e2 := vals_z (M := mNew M d (en d) 7 x y z) (q := m_N M) (m := min (pm d) 4) (f := arg4z (pm d) x1 x2 x3 x4) hz (fun i hi => by
          unfold arg4z
          by_cases q : i < pm d
          · rw [if_pos q, if_neg (by omega)]
          · rw [if_neg q]) (4 - min (pm d) 4)
        rw [e1, show (4 : Nat) = min (pm d) 4 + (4 - min (pm d) 4) by omega, e2]
        rw [show min (pm d) (min (pm d) 4 + (4 - min (pm d) 4)) = min (pm d) 4 by omega]
        exact vals_cg _ (fun i hi => by unfold arg4z; rw [if_pos (by omega), if_pos (by omega)])
      rw [evals] at z1
      generalize ha2 : wV (wV (wV (wV a1 (m_N M) 0 (if pm d ≤ 0 then 0 else x1)) (m_N M) 1 (if pm d ≤ 1 then 0 else x2)) (m_N M) 2 (if pm d ≤ 2 then 0 else x3)) (m_N M) 3 (if pm d ≤ 3 then 0 else x4) = a2 at z1
      have hvp := vals_p (M := mNew M d (en d) 7 x y z) (q := m_N M) (f := arg4 x1 x2 x3 x4) (min (pm d) 4)
      have kR : m_R (vals (mNew M d (en d) 7 x y z) (m_N M) (arg4 x1 x2 x3 x4) (min (pm d) 4)) = m_R M := by rw [hvp.2.2.2.2.2.2.2.2.2.1]; simp only [p_mNew]
      have kN : m_N (vals (mNew M d (en d) 7 x y z) (m_N M) (arg4 x1 x2 x3 x4) (min (pm d) 4)) = m_N M + 1 := by rw [hvp.1]; simp only [p_mNew]
      have ktm : m_tm (vals (mNew M d (en d) 7 x y z) (m_N M) (arg4 x1 x2 x3 x4) (min (pm d) 4)) = m_tm M := by rw [hvp.2.1]; simp only [p_mNew]
      obtain ⟨a3, w1, w2⟩ := cl_put (s := 0) (t := nI (m_tm M)) z1 (by unfold Di; rw [kR]; exact Inv_di hI) (by unfold Mm; rw [kR, kN]; exact fun ρ hρ x hx => by have := (Inv_me hI ρ hρ x hx).1; omega) (p := m_N M) (by rw [kN]; omega) (by omega)
      rw [vals_put, new_put (s' := 5) (x' := 0) (y' := 0)] at w2
      have w2 : VA rm a3 (mStart M d (en d) (min (pm d) 4) z (nI (m_tm M)) (arg4 x1 x2 x3 x4)) := w2
      have w1 : cO_putInCalendar (m_N M) 0 (nI (m_tm M)) a2 = some a3 := w1
      have hgm3 : m_N M < gM a3 := by
        have := (VA_gm w2).1
        rw [start_p.1] at this; omega
      have e500 : gI a3 500 (m_N M) = nI (m_N M) := VA_no w2 _ hgm3
      have eX : cX_start (nI d) x1 x2 x3 x4 s = some (nI (m_N M), a3) := by
        have e19 : gA a1 19 d = nI (pm d) := (fa.2.1 19 rfl d).trans hpm.1
        have hg2 : ∀ v0, m_N M < gM (wV a1 (m_N M) 0 v0) := fun _ => hgm
        have ead : cH_admit (nI d) x1 x2 x3 x4 s = some (nI (m_N M), a3) := by
          unfold cH_admit
          rw [y3, Option.bind_some]
          dsimp only
          rw [if_pos (nI_idx (by omega) (by decide)), if_pos hgm, nI_clamp (by omega), e19]
          have s0 := if_arg (m := pm d) (j := 0) (v := x1) (X := fun v => cH_admit_41 x2 x3 x4 (m_N M) (nI (pm d)) (m_N M) 0 v a1) (by omega) (by omega)
          refine Eq.trans s0 ?_
          unfold cH_admit_41
          rw [if_pos (by exact hgm), if_pos (by decide), if_pos (by exact hgm)]
          have s1 := if_arg (m := pm d) (j := 1) (v := x2) (X := fun v => cH_admit_59 x3 x4 (m_N M) (nI (pm d)) (m_N M) 1 v (wV a1 (m_N M) ((0 : Int32)).toNatClampNeg (if pm d ≤ 0 then 0 else x1))) (by omega) (by omega)
          refine Eq.trans s1 ?_
          unfold cH_admit_59
          rw [if_pos (by exact hgm), if_pos (by decide), if_pos (by exact hgm)]
          have s2 := if_arg (m := pm d) (j := 2) (v := x3) (X := fun v => cH_admit_78 x4 (m_N M) (nI (pm d)) (m_N M) 2 v (wV (wV a1 (m_N M) ((0 : Int32)).toNatClampNeg (if pm d ≤ 0 then 0 else x1)) (m_N M) ((1 : Int32)).toNatClampNeg (if pm d ≤ 1 then 0 else x2))) (by omega) (by omega)
          refine Eq.trans s2 ?_
          unfold cH_admit_78
          rw [if_pos (by exact hgm), if_pos (by decide), if_pos (by exact hgm)]
          have s3 := if_arg (m := pm d) (j := 3) (v := x4) (X := fun v => cH_admit_97 (m_N M) (m_N M) 3 v (wV (wV (wV a1 (m_N M) ((0 : Int32)).toNatClampNeg (if pm d ≤ 0 then 0 else x1)) (m_N M) ((1 : Int32)).toNatClampNeg (if pm d ≤ 1 then 0 else x2)) (m_N M) ((2 : Int32)).toNatClampNeg (if pm d ≤ 2 then 0 else x3))) (by omega) (by omega)
          refine Eq.trans s3 ?_
          unfold cH_admit_97
          rw [if_pos (by exact hgm), if_pos (by decide)]
          have ea2 : wV (wV (wV (wV a1 (m_N M) ((0 : Int32)).toNatClampNeg (if pm d ≤ 0 then 0 else x1)) (m_N M) ((1 : Int32)).toNatClampNeg (if pm d ≤ 1 then 0 else x2)) (m_N M) ((2 : Int32)).toNatClampNeg (if pm d ≤ 2 then 0 else x3)) (m_N M) ((3 : Int32)).toNatClampNeg (if pm d ≤ 3 then 0 else x4) = a2 := ha2
          rw [ea2, VA_tm z1, ktm, w1, Option.bind_some, if_pos hgm3, e500]
        unfold cX_start
        rw [h6, if_neg (by decide), hadm, Option.bind_some]
        dsimp only
        rw [if_neg (by decide), ead]; rfl
      have fX := cX_start_fr _ _ _ _ _ _ _ eX
      have hB1 : VB rm a3 M := VB_fr hB fX (by decide)
      have hE1 := Evp_fr hE fX fX (by decide) (by decide)
      obtain ⟨b1, sx1, xx, u1, u2⟩ := rc_new (d := d) (e := en d) (t := nI (m_tm M)) (z := z) hB1 (Mm_of hI) hN3 (by omega) (hE1.2.1.2.2.2.1 d hd).2
      rw [new_put (s' := 5) (x' := 0) (y' := 0)] at u2
      have fb := cR_fresh_fr (nI d) (nI (m_tm M)) a3 _ u1
      obtain ⟨b2, t1, t2⟩ := vals_rs (rm := rm) (q := m_N M) (n := pm d) (d := d) (x1 := x1) (x2 := x2) (x3 := x3) (x4 := x4) hN3 (by omega) (min (pm d) 4) 0 tm_N b1 _ (by omega) hpm.2.1 (by unfold tm_N; omega) u2 ((fb.2.1 96 rfl d).trans (hE1.2.1.2.2.2.1 d hd).1)
      have eR : cR_start (nI d) x1 x2 x3 x4 a3 = some (nI (m_N M), b2) := by
        have t1 : cR_start_54 tm_N (nI d) x1 x2 x3 x4 (nI (m_N M)) 0 b1 = some (nI (m_N M), b2) := t1
        unfold cR_start
        rw [(fX.1 1102 (by decide) 0).trans h1102, if_neg (by decide), if_neg c, (fX.1 1119 (by decide) 0).trans r1119, if_neg c2, VB_N hB1, if_neg (show ¬ nI (m_N M) = (300 : Int32) from fun z => c3 (nI_inj (b := 300) (by omega) (by decide) z)), VB_am hB1, ham, if_pos (show oi (-2) none = (-2 : Int32) from rfl), VB_tm hB1, u1, Option.bind_some]
        exact t1
      have fR := cR_start_fr _ _ _ _ _ _ _ eR
      have hI1 : Inv rm (mStart M d (en d) (min (pm d) 4) z (nI (m_tm M)) (arg4 x1 x2 x3 x4)) none := by
        refine Inv_vals (Inv_put (Inv_new hI hN3) (by simp only [p_mNew]; omega) (fun z => by cases z) (by omega) ?_) _
        simp only [p_mNew]
        exact ⟨Nat.le_refl _, (Inv_N hI).2⟩
      refine ⟨nI (m_N M), a3, b2, _, eX, eR, VA_fr w2 fR (by decide), t2, RW_start hW ham hI1 hd (DFn_lt (hE.2.2.1.2.1 d hd)), Nat.le_of_eq start_p.2.2.2.2.1, start_p.2.2.1⟩
