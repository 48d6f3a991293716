/-! GOING ON TO THE NEXT STATEMENT, and closing the turn. -/
theorem KB_26 {b : ts} {nr ns K l : Nat} {n : Ln} (h : KB b nr ns K l n) : (gA b 99 l = 26 ↔ n.1 = 2) ∧ (gA b 99 l = 27 ↔ n.1 = 3) := by
  have key : ∀ m k : Nat, m < 600 → k < 600 → gA b 99 l = nI m → (gA b 99 l = nI k ↔ m = k) := by
    intro m k hm hk e
    rw [e]
    exact ⟨fun z => nI_inj (by omega) (by omega) z, fun z => by rw [z]⟩
  have k26 : ∀ m : Nat, m < 600 → gA b 99 l = nI m → (gA b 99 l = 26 ↔ m = 26) ∧ (gA b 99 l = 27 ↔ m = 27) := fun m hm e => ⟨key m 26 hm (by omega) e, key m 27 hm (by omega) e⟩
  rcases h with h | h | h | h | h | h | h | h | h
  · obtain ⟨h1, ⟨v, h2, h3, h4, h5⟩, h6⟩ := h
    have := k26 _ (by split <;> omega) h4
    rw [this.1, this.2]
    split <;> omega
  · have := k26 _ (by omega) h.2.2; rw [this.1, this.2]; omega
  · have := k26 _ (by omega) h.2.2; rw [this.1, this.2]; omega
  · have := k26 _ (by omega) h.2.1; rw [this.1, this.2]; omega
  · have := k26 _ (by omega) h.2.1; rw [this.1, this.2]; omega
  · have := k26 _ (by omega) h.2.1; rw [this.1, this.2]; omega
  · have := k26 _ (by omega) h.2.1; rw [this.1, this.2]; omega
  · have := k26 _ (by omega) h.2.1; rw [this.1, this.2]; omega
  · have := k26 _ (by omega) h.2.1; rw [this.1, this.2]; omega
def Sq (p l : Nat) (M M1 : Md) : Prop := (m_N M1 = m_N M ∧ m_D M1 = m_D M ∧ m_S M1 = m_S M ∧ m_tm M1 = m_tm M ∧ m_tc M1 = m_tc M ∧ m_am M1 = m_am M ∧ m_P M1 = m_P M ∧ m_mw M1 = m_mw M ∧ m_mb M1 = m_mb M ∧ m_R M1 = m_R M) ∧ m_T M1 p = l ∧ m_Lr M1 p = l ∧ ∀ y, ¬ y = p → m_T M1 y = m_T M y ∧ m_Lr M1 y = m_Lr M y
theorem Sq_one {M : Md} {p t : Nat} : Sq p t M (mLr (mT M p t) p t) := by
  unfold Sq
  simp only [p_mLr, p_mT]
  exact ⟨⟨trivial, trivial, trivial, trivial, trivial, trivial, trivial, trivial, trivial, trivial⟩, up_s, up_s, fun y hy => ⟨up_n hy, up_n hy⟩⟩
theorem Sq_tr {M M1 M2 : Md} {p t t2 : Nat} (h : Sq p t M M1) (g : Sq p t2 M1 M2) : Sq p t2 M M2 := by
  obtain ⟨⟨a1, a2, a3, a4, a5, a6, a7, a8, a9, a10⟩, _, _, b⟩ := h
  obtain ⟨⟨c1, c2, c3, c4, c5, c6, c7, c8, c9, c10⟩, d1, d2, d⟩ := g
  exact ⟨⟨c1.trans a1, c2.trans a2, c3.trans a3, c4.trans a4, c5.trans a5, c6.trans a6, c7.trans a7, c8.trans a8, c9.trans a9, c10.trans a10⟩, d1, d2, fun y hy => ⟨(d y hy).1.trans (b y hy).1, (d y hy).2.trans (b y hy).2⟩⟩
def slE (p : Int32) (b : ts) (l : Nat) : Option ts := if (gA b 99 l) = ((27 : Int32)) then (if (gA b 120 p.toNatClampNeg) = ((7 : Int32)) then (cR_finish p ((0 : Int32)) b).bind (fun s4 => cR_settleLine_69 p s4) else cR_settleLine_69 p b) else cR_settleLine_69 p b
theorem settle_lp {rm pm en vc un rm0 : Nat → Nat} {L : Nat → List Int64} {G : List Ln} {τ : Nat → Int32} {K K' p : Nat} : ∀ (m l i F F' : Nat) (a b : ts) (M : Md), G.length - l ≤ m → Evp a b L pm en vc un rm0 G τ K K' rm → VA rm a M → VB rm b M → Inv rm M none → p < m_N M → m_T M p = l → m_Lr M p = l → l < G.length → (i ≤ l ∨ ∃ n, G[l]? = some n ∧ n.1 ≠ 2) → m + 1 < F → m + 1 < F' → i ≤ 512 → ∃ a1 b1 M1 l1 n1, cH_goToStatement_12 F p (nI i) a = cH_goToStatement_55 p a1 ∧ cR_settleLine_0 F' (nI p) b = slE (nI p) b1 l1 ∧ VA rm a1 M1 ∧ VB rm b1 M1 ∧ Inv rm M1 none ∧ Sq p l1 M M1 ∧ G[l1]? = some n1 ∧ n1.1 ≠ 2 ∧ fr [503] a a1 ∧ fr [2121] b b1 := by
  intro m
  induction m using Nat.strongRecOn with
  | ind m ih =>
  intro l i F F' a b M hm hE hA hB hI hp hT hL hl hi hF hF' hi5
  obtain ⟨F0, rfl⟩ : ∃ F0, F = F0 + 1 := ⟨F - 1, by omega⟩
  obtain ⟨F1, rfl⟩ : ∃ F1, F' = F1 + 1 := ⟨F' - 1, by omega⟩
  have hN := (Inv_N hI).1
  have hpM : p < gM a := Nat.lt_of_lt_of_le hp (VA_gm hA).1
  obtain ⟨⟨g1, g2, g3⟩, gn, gl, gd, _⟩ := hE.1
  obtain ⟨⟨r1, r2⟩, _, rl, rd, _⟩ := hE.2.1
  obtain ⟨n, hn⟩ : ∃ n, G[l]? = some n := ⟨G[l], List.getElem?_eq_getElem hl⟩
  obtain ⟨k22, k23, _⟩ := gl l n hn
  have at1 := actAt_ok g1 hl g2
  have hKB := KB_26 (rl l n hn).1
  have e503 : gI a 503 p = nI l := by rw [VA_at hA p hp, hT]
  have e121 : gA b 121 p = nI l := by rw [VB_at hB p hp, hL]
  by_cases c : n.1 = 2
  · have hil : i ≤ l := by
      rcases hi with z | ⟨n', z1, z2⟩
      · exact z
      · rw [hn] at z1; cases z1; exact absurd c z2
    have hj : isJ n.1 = true := by rw [c]; decide
    obtain ⟨t, ht1, ht2, ht3⟩ := hE.2.2.1.1 l n hn hj
    have h103 : gA b 103 l = nI t := by rw [(rl l n hn).2.1 hj, ht1]
    have zA := cl_Lr (p := p) (l := t) (cl_T (p := p) (l := t) hA)
    have zB := rc_Lr (p := p) (l := t) (rc_T (p := p) (l := t) hB)
    have hI1 := Inv_TL (p := p) (l := t) (l2 := t) hI
    have fa : fr [503] a (wI a 503 p (nI t)) := fr_wI fr_rf rfl
    have fb : fr [2121] b (wA b 121 p (nI t)) := fr_wA fr_rf rfl
    have hE1 := Evp_fr hE fa fb rfl rfl
    have hsq := Sq_one (M := M) (p := p) (t := t)
    have eA : cH_goToStatement_12 (F0 + 1) p (nI i) a = cH_goToStatement_12 F0 p (nI (i + 1)) (wI a 503 p (nI t)) := by
      rw [cH_goToStatement_12.eq_2]
      unfold cH_goToStatement_12_b
      rw [if_neg (show ¬ (512 : Int32) ≤ nI i from nI_ge (b := 512) (by omega) (by decide)), if_pos hpM, e503, at1.1, Option.bind_some]
      dsimp only
      rw [k22, c, if_pos (by decide), if_pos hpM, e503, at1.2, Option.bind_some]
      dsimp only
      rw [if_pos hpM, k23, if_pos hj, ht1, nI_1]
    have eB : cR_settleLine_0 (F1 + 1) (nI p) b = cR_settleLine_0 F1 (nI p) (wA b 121 p (nI t)) := by
      rw [cR_settleLine_0.eq_2]
      unfold cR_settleLine_0_b
      rw [if_pos (nI_idx (by omega) (by decide)), nI_clamp (by omega), e121, if_pos (nI_idx (by omega) (by decide)), nI_clamp (by omega), if_pos (hKB.1.mpr c), h103]
    have hrec : ∃ a1 b1 M1 l1 n1, cH_goToStatement_12 F0 p (nI (i + 1)) (wI a 503 p (nI t)) = cH_goToStatement_55 p a1 ∧ cR_settleLine_0 F1 (nI p) (wA b 121 p (nI t)) = slE (nI p) b1 l1 ∧ VA rm a1 M1 ∧ VB rm b1 M1 ∧ Inv rm M1 none ∧ Sq p l1 (mLr (mT M p t) p t) M1 ∧ G[l1]? = some n1 ∧ n1.1 ≠ 2 ∧ fr [503] (wI a 503 p (nI t)) a1 ∧ fr [2121] (wA b 121 p (nI t)) b1 := by
      rcases ht3 with ht3 | ⟨_, ht4, k, hk1, hk2⟩
      · exact ih (G.length - t) (by omega) t (i + 1) F0 F1 _ _ _ (Nat.le_refl _) hE1 zA zB hI1 (by rw [hsq.1.1]; exact hp) hsq.2.1 hsq.2.2.1 ht2 (Or.inl (by omega)) (by omega) (by omega) (by omega)
      · -- a line that is no jump: done here
        obtain ⟨F2, rfl⟩ : ∃ F2, F0 = F2 + 1 := ⟨F0 - 1, by omega⟩
        obtain ⟨F3, rfl⟩ : ∃ F3, F1 = F3 + 1 := ⟨F1 - 1, by omega⟩
        obtain ⟨⟨e1, _, _⟩, _, e3, _, _⟩ := hE1.1
        have at2 := actAt_ok e1 ht2 g2
        have e5 : gI (wI a 503 p (nI t)) 503 p = nI t := gI_ws
        have e6 : gA (wA b 121 p (nI t)) 121 p = nI t := gA_ws
        have kb2 := KB_26 (hE1.2.1.2.2.1 t k hk1).1
        refine ⟨wI a 503 p (nI t), wA b 121 p (nI t), _, t, k, ?_, ?_, zA, zB, hI1, ?_, hk1, by omega, fr_rf, fr_rf⟩
        · rw [cH_goToStatement_12.eq_2]
          unfold cH_goToStatement_12_b
          by_cases c5 : i + 1 = 512
          · rw [if_pos (show (512 : Int32) ≤ nI (i + 1) from nI_le (a := 512) (by omega) (by omega))]
          · rw [if_neg (show ¬ (512 : Int32) ≤ nI (i + 1) from nI_ge (b := 512) (by omega) (by decide)), if_pos (show p < gM (wI a 503 p (nI t)) from hpM), e5, at2.1, Option.bind_some]
            dsimp only
            rw [(e3 t k hk1).1, if_neg (show ¬ nI k.1 = (2 : Int32) by rw [hk2]; decide)]
        · rw [cR_settleLine_0.eq_2]
          unfold cR_settleLine_0_b slE
          rw [if_pos (nI_idx (by omega) (by decide)), nI_clamp (by omega), e6, if_pos (nI_idx (by omega) (by decide)), nI_clamp (by omega), if_neg (fun z => by have := kb2.1.mp z; omega)]
        · obtain ⟨q1, q2, q3, q4⟩ := hsq
          exact ⟨⟨rfl, rfl, rfl, rfl, rfl, rfl, rfl, rfl, rfl, rfl⟩, q2, q3, fun _ _ => ⟨rfl, rfl⟩⟩
    obtain ⟨a1, b1, M1, l1, n1, h1, h2, h3, h4, h5, h6, h7, h8, h9, h10⟩ := hrec
    exact ⟨a1, b1, M1, l1, n1, by rw [eA]; exact h1, by rw [eB]; exact h2, h3, h4, h5, Sq_tr hsq h6, h7, h8, fr_tr fa h9, fr_tr fb h10⟩
  · refine ⟨a, b, M, l, n, ?_, ?_, hA, hB, hI, ⟨⟨rfl, rfl, rfl, rfl, rfl, rfl, rfl, rfl, rfl, rfl⟩, hT, hL, fun _ _ => ⟨rfl, rfl⟩⟩, hn, c, fr_rf, fr_rf⟩
    · rw [cH_goToStatement_12.eq_2]
      unfold cH_goToStatement_12_b
      by_cases c5 : i = 512
      · rw [if_pos (show (512 : Int32) ≤ nI i from nI_le (a := 512) (by omega) (by omega))]
      · rw [if_neg (show ¬ (512 : Int32) ≤ nI i from nI_ge (b := 512) (by omega) (by decide)), if_pos hpM, e503, at1.1, Option.bind_some]
        dsimp only
        have hn6 : n.1 < 600 := by
          rcases (rl l n hn).1 with h | h | h | h | h | h | h | h | h
          · have := h.1; omega
          · have := h.1; omega
          · have := h.1; omega
          · have := h.1; omega
          · have := h.1; omega
          · have := h.1; omega
          · have := h.1; omega
          · have := h.1; omega
          · have := h.1; omega
        rw [k22, if_neg (show ¬ nI n.1 = (2 : Int32) from fun z => c (nI_inj (b := 2) (by omega) (by decide) z))]
    · rw [cR_settleLine_0.eq_2]
      unfold cR_settleLine_0_b slE
      rw [if_pos (nI_idx (by omega) (by decide)), nI_clamp (by omega), e121, if_pos (nI_idx (by omega) (by decide)), nI_clamp (by omega), if_neg (fun z => c (hKB.1.mp z))]
