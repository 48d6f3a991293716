/-! THE READS: place, process. -/
theorem row_at {rm : Nat → Nat} {b : ts} {M : Md} {ρ i x : Nat} (h : VB rm b M) (hρ : ρ < 28) (e : (m_R M ρ)[i]? = some x) : gA b 137 (300 * ρ + i) = nI x := by
  have h0 := VB_ro h ρ hρ
  have := (h0.2.2 i (x, if ρ < 8 then m_K M x else m_A M x) (by unfold rb; rw [List.getElem?_map, e]; rfl)).1
  exact this
theorem placeC_ok {rm pm en vc un rm0 : Nat → Nat} {L : Nat → List Int64} {G : List Ln} {τ : Nat → Int32} {K K' : Nat} {s : ts} {M : Md} (r w : Int32) (hE : Evp s s L pm en vc un rm0 G τ K K' rm) (hA : VA rm s M) (hB : VB rm s M) (hI : Inv rm M none) (hmb : ∀ q, q < 14 → m_mw M q = m_mb M q) (h6 : gI s 6 0 = 1) (h1102 : gI s 1102 0 = 1) : ∃ v, cX_place r w s = some (v, s) ∧ cR_place r w s = some (v, s) := by
  unfold cX_place cR_place
  rw [h6, if_neg (by decide)]
  rcases spot_ok r hE h1102 with ⟨e1, e2⟩ | ⟨q, hq, hq2, e1, e2⟩
  · rw [e1, Option.bind_some, e2, Option.bind_some]
    exact ⟨-2, rfl, rfl⟩
  · have h2l := two_len hI hq
    have l1 : gI s 601 (2 * q) = nI (m_R M q).length := by have := (VA_li hA q (by omega)).2.1; rw [lno_a hq] at this; exact this
    have l2 : gI s 601 (2 * q + 1) = nI (m_R M (14 + q)).length := by have := (VA_li hA (14 + q) (by omega)).2.1; rw [lno_b hq] at this; exact this
    have k1 : gA s 136 q = nI (m_R M q).length := by
      have := (VB_ro hB q (by omega)).1
      unfold rb at this
      rw [List.length_map] at this; exact this
    have k2 : gA s 136 (14 + q) = nI (m_R M (14 + q)).length := by
      have := (VB_ro hB (14 + q) (by omega)).1
      unfold rb at this
      rw [List.length_map] at this; exact this
    have ew : cR_waitingAt (nI q) s = some (nI (lenq M q), s) := by
      unfold cR_waitingAt
      rw [if_pos (nI_idx (by omega) (by decide)), nI_clamp (by omega), show (14 : Int32) + nI q = nI (14 + q) from nI_add 14 q, if_pos (nI_idx (by omega) (by decide)), nI_clamp (by omega), k1, k2, nI_add]
      rfl
    have hlq : lenq M q ≤ 300 := h2l
    have eX : ∀ v, cK_tell q w s = some (v, s) → ((cG_innerPlace r s).bind (fun x3 => (cW_placeAt x3.1 x3.2).bind (fun x6 => match x6.1 with
        | none => cX_place_29 w none x6.2
        | some q7 => cX_place_29 w (some q7) x6.2))) = some (v, s) := fun v h => by
      rw [e1, Option.bind_some, placeAt_ok hq, Option.bind_some]
      dsimp only
      unfold cX_place_29
      dsimp only
      rw [if_pos hq, h, Option.bind_some]
    have eR : ((cR_spot r s).bind (fun x3 => (if x3.1 = ((-1 : Int32)) then some ((-2 : Int32), x3.2) else (cR_waitingAt x3.1 x3.2).bind (fun x6 => (if w < ((10 : Int32)) then cR_place_93 w x3.1 x6.1 x6.2 else (if x6.1 ≤ (w - ((10 : Int32))) then cR_place_93 w x3.1 x6.1 x6.2 else (if am_idx x3.1 28 = true then (if (gA x6.2 136 x3.1.toNatClampNeg) ≤ (w - ((10 : Int32))) then (if am_idx (((((300 : Int32)) * (((14 : Int32)) + x3.1)) + (w - ((10 : Int32)))) - (gA x6.2 136 x3.1.toNatClampNeg)) 8400 = true then some (gA x6.2 137 (((((300 : Int32)) * (((14 : Int32)) + x3.1)) + (w - ((10 : Int32)))) - (gA x6.2 136 x3.1.toNatClampNeg)).toNatClampNeg, x6.2) else none) else (if am_idx ((((300 : Int32)) * x3.1) + (w - ((10 : Int32)))) 8400 = true then some (gA x6.2 137 ((((300 : Int32)) * x3.1) + (w - ((10 : Int32)))).toNatClampNeg, x6.2) else none)) else none))))))) = (if w < ((10 : Int32)) then cR_place_93 w (nI q) (nI (lenq M q)) s else (if nI (lenq M q) ≤ (w - ((10 : Int32))) then cR_place_93 w (nI q) (nI (lenq M q)) s else (if nI (m_R M q).length ≤ (w - ((10 : Int32))) then (if am_idx (((((300 : Int32)) * nI (14 + q)) + (w - ((10 : Int32)))) - nI (m_R M q).length) 8400 = true then some (gA s 137 (((((300 : Int32)) * nI (14 + q)) + (w - ((10 : Int32)))) - nI (m_R M q).length).toNatClampNeg, s) else none) else (if am_idx ((((300 : Int32)) * nI q) + (w - ((10 : Int32)))) 8400 = true then some (gA s 137 ((((300 : Int32)) * nI q) + (w - ((10 : Int32)))).toNatClampNeg, s) else none)))) := by
      rw [e2, Option.bind_some]
      dsimp only
      rw [if_neg (nI_no1 (by omega)), ew, Option.bind_some]
      dsimp only
      rw [if_pos (nI_idx (show q < 28 by omega) (by decide)), nI_clamp (show q < 2 ^ 31 by omega), k1, show (14 : Int32) + nI q = nI (14 + q) from nI_add 14 q]
    rw [eR]
    -- by what is asked
    by_cases c10 : w < 10
    · rw [if_pos c10]
      unfold cR_place_93
      have nt : ¬ (10 : Int32) ≤ w := Int32.not_le.mpr c10
      by_cases c0 : w = 0
      · exact ⟨m_th M q, eX _ (by unfold cK_tell; rw [if_pos c0, if_pos hq, VA_th hA q hq]), by rw [if_pos c0, if_pos (nI_idx hq (by decide)), nI_clamp (by omega), VB_th hB q hq]⟩
      by_cases c1 : w = 1
      · exact ⟨nI (lenq M q), eX _ (by unfold cK_tell cK_waiting; rw [if_neg c0, if_pos c1, if_pos hq, if_pos hq, l1, l2, nI_add]; rfl), by rw [if_neg c0, if_pos c1]⟩
      by_cases c2 : w = 2
      · refine ⟨nI (rm q), eX _ (by unfold cK_tell; rw [if_neg c0, if_neg c1, if_pos c2, if_pos hq, VA_rm hA q hq]), ?_⟩
        rw [if_neg c0, if_neg c1, if_pos c2]
        have h14 := (VB_nr hB).2
        by_cases c8 : 8 ≤ q
        · have h93 := VB_r1 hB (q - 8) (by omega)
          rw [show 8 + (q - 8) = q by omega] at h93
          rw [if_pos (show (8 : Int32) ≤ nI q from nI_le (a := 8) c8 (by omega)), show nI q - (8 : Int32) = nI (q - 8) from pk_sub (b := 8) c8, if_pos (nI_idx (by omega) (by decide)), nI_clamp (by omega), h93]
        · rw [if_neg (show ¬ (8 : Int32) ≤ nI q from nI_ge (b := 8) (by omega) (by decide)), if_pos (nI_idx (by omega) (by decide)), nI_clamp (by omega), VB_r0 hB q (by omega)]
      by_cases c3 : w = 3
      · exact ⟨m_sv M q, eX _ (by unfold cK_tell; rw [if_neg c0, if_neg c1, if_neg c2, if_pos c3, if_pos hq, VA_sv hA q hq]), by rw [if_neg c0, if_neg c1, if_neg c2, if_pos c3, if_pos (nI_idx hq (by decide)), nI_clamp (by omega), VB_sv hB q hq]⟩
      by_cases c4 : w = 4
      · exact ⟨m_lt M q, eX _ (by unfold cK_tell; rw [if_neg c0, if_neg c1, if_neg c2, if_neg c3, if_pos c4, if_pos hq, VA_lt hA q hq]), by rw [if_neg c0, if_neg c1, if_neg c2, if_neg c3, if_pos c4, if_pos (nI_idx hq (by decide)), nI_clamp (by omega), VB_lt hB q hq]⟩
      by_cases c5 : w = 5
      · exact ⟨nI (m_mb M q), eX _ (by unfold cK_tell; rw [if_neg c0, if_neg c1, if_neg c2, if_neg c3, if_neg c4, if_pos c5, if_pos hq, VA_mw hA q hq, hmb q hq]), by rw [if_neg c0, if_neg c1, if_neg c2, if_neg c3, if_neg c4, if_pos c5, if_pos (nI_idx hq (by decide)), nI_clamp (by omega), VB_mb hB q hq]⟩
      · exact ⟨-2, eX _ (by unfold cK_tell; rw [if_neg c0, if_neg c1, if_neg c2, if_neg c3, if_neg c4, if_neg c5, if_neg nt]), by rw [if_neg c0, if_neg c1, if_neg c2, if_neg c3, if_neg c4, if_neg c5]⟩
    · have h10 : (10 : Int32) ≤ w := Int32.not_lt.mp c10
      obtain ⟨j, hj, e⟩ := nI_of (x := w) (fun z => c10 (Int32.lt_trans z (by decide)))
      subst e
      have hj10 : 10 ≤ j := by
        rcases Nat.lt_or_ge j 10 with z | z
        · exact absurd (show nI j < (10 : Int32) from nI_lt (b := 10) z (by decide)) c10
        · exact z
      have e10 : nI j - (10 : Int32) = nI (j - 10) := pk_sub (b := 10) hj10
      have hne : ∀ m, m < 10 → ¬ nI j = nI m := fun m hm z => by have := nI_inj hj (by omega) z; omega
      have etell : cK_tell q (nI j) s = (cK_tellWaiting q (nI (j - 10)) s).bind (fun x19 => some (x19.1, x19.2)) := by
        unfold cK_tell
        rw [if_neg (show ¬ nI j = (0 : Int32) from hne 0 (by omega)), if_neg (show ¬ nI j = (1 : Int32) from hne 1 (by omega)), if_neg (show ¬ nI j = (2 : Int32) from hne 2 (by omega)), if_neg (show ¬ nI j = (3 : Int32) from hne 3 (by omega)), if_neg (show ¬ nI j = (4 : Int32) from hne 4 (by omega)), if_neg (show ¬ nI j = (5 : Int32) from hne 5 (by omega)), if_pos h10, if_pos hq, e10]
      have e93 : cR_place_93 (nI j) (nI q) (nI (lenq M q)) s = some (-2, s) := by
        unfold cR_place_93
        rw [if_neg (show ¬ nI j = (0 : Int32) from hne 0 (by omega)), if_neg (show ¬ nI j = (1 : Int32) from hne 1 (by omega)), if_neg (show ¬ nI j = (2 : Int32) from hne 2 (by omega)), if_neg (show ¬ nI j = (3 : Int32) from hne 3 (by omega)), if_neg (show ¬ nI j = (4 : Int32) from hne 4 (by omega)), if_neg (show ¬ nI j = (5 : Int32) from hne 5 (by omega))]
      have hlA : ln s (2 * q) (m_R M q) := by have := VA_li hA q (by omega); rw [lno_a hq] at this; exact this
      have hlB : ln s (2 * q + 1) (m_R M (14 + q)) := by have := VA_li hA (14 + q) (by omega); rw [lno_b hq] at this; exact this
      have hnum : ∀ x, x < m_N M → cK_tellWaiting_38 (some x) s = some (nI x, s) := fun x hx => by
        have hxM : x < gM s := Nat.lt_of_lt_of_le hx (VA_gm hA).1
        unfold cK_tellWaiting_38
        dsimp only
        rw [if_pos hxM, VA_no hA x hxM]
      have hlen : lenq M q = (m_R M q).length + (m_R M (14 + q)).length := rfl
      rw [if_neg c10, e10]
      have e3b : (300 : Int32) * nI (14 + q) + nI (j - 10) = nI (300 * (14 + q) + (j - 10)) := by rw [show (300 : Int32) = nI 300 from rfl, pk_mul, nI_add]
      have e3a : (300 : Int32) * nI q + nI (j - 10) = nI (300 * q + (j - 10)) := by rw [show (300 : Int32) = nI 300 from rfl, pk_mul, nI_add]
      by_cases d1 : (m_R M q).length ≤ j - 10
      · have etw : cK_tellWaiting q (nI (j - 10)) s = cK_tellWaiting_38 (m_R M (14 + q))[j - 10 - (m_R M q).length]? s := by
          unfold cK_tellWaiting
          rw [if_pos hq, l1, if_pos (nI_le d1 (by omega)), pk_sub d1, find_ok (by omega) hlB (by omega) (by omega), Option.bind_some]
          cases (m_R M (14 + q))[j - 10 - (m_R M q).length]? <;> rfl
        by_cases d2 : lenq M q ≤ j - 10
        · refine ⟨-2, eX _ ?_, ?_⟩
          · rw [etell, etw, List.getElem?_eq_none (by omega)]; rfl
          · rw [if_pos (nI_le d2 (by omega)), e93]
        · obtain ⟨x, hx⟩ : ∃ x, (m_R M (14 + q))[j - 10 - (m_R M q).length]? = some x := ⟨_, List.getElem?_eq_getElem (by omega)⟩
          have hxm := Inv_me hI (14 + q) (by omega) x (List.mem_of_getElem? hx)
          refine ⟨nI x, eX _ ?_, ?_⟩
          · rw [etell, etw, hx, hnum x hxm.1, Option.bind_some]
          · rw [if_neg (nI_ge (by omega) (by omega)), if_pos (nI_le d1 (by omega)), e3b, pk_sub (by omega), if_pos (nI_idx (by omega) (by decide)), nI_clamp (by omega), show 300 * (14 + q) + (j - 10) - (m_R M q).length = 300 * (14 + q) + (j - 10 - (m_R M q).length) by omega, row_at hB (by omega) hx]
      · obtain ⟨x, hx⟩ : ∃ x, (m_R M q)[j - 10]? = some x := ⟨_, List.getElem?_eq_getElem (by omega)⟩
        have hxm := Inv_me hI q (by omega) x (List.mem_of_getElem? hx)
        have etw : cK_tellWaiting q (nI (j - 10)) s = cK_tellWaiting_38 (some x) s := by
          unfold cK_tellWaiting
          rw [if_pos hq, l1, if_neg (nI_ge (by omega) (by omega)), find_ok (by omega) hlA (by omega) (by omega), Option.bind_some, hx]
        refine ⟨nI x, eX _ ?_, ?_⟩
        · rw [etell, etw, hnum x hxm.1, Option.bind_some]
        · rw [if_neg (nI_ge (by omega) (by omega)), if_neg (nI_ge (by omega) (by omega)), e3a, if_pos (nI_idx (by omega) (by decide)), nI_clamp (by omega), row_at hB (by omega) hx]
/-- how many variables a definition has -/
theorem mv_le {p : Nat} (hp : p ≤ 8) : ∀ H : List Ln, mv p H ≤ 8 := by
  intro H
  induction H generalizing p with
  | nil => exact hp
  | cons n H ih =>
    show mv (if n.1 = 1 ∧ n.2.1 < 8 then max p (n.2.1.toNatClampNeg + 1) else p) H ≤ 8
    refine ih ?_
    by_cases c : n.1 = 1 ∧ n.2.1 < 8
    · rw [if_pos c]
      have : n.2.1.toNatClampNeg < 8 := by
        by_cases d : n.2.1 < 0
        · have : n.2.1.toInt < 0 := by rw [Int32.lt_iff_toInt_lt] at d; exact d
          unfold Int32.toNatClampNeg
          omega
        · obtain ⟨i, hi, e⟩ := nI_of d
          rw [e, nI_clamp hi]
          have c2 := c.2
          rw [e] at c2
          exact (nI_ltI (b := 8) hi (by decide)).mp c2
      omega
    · rw [if_neg c]; exact hp
theorem locals_lp {b : ts} {G : List Ln} {nr ns K : Nat} (hK : ∀ l n, G[l]? = some n → KB b nr ns K l n) (hG : G.length ≤ 512) : ∀ (H : List Ln) (p l F : Nat), p ≤ 8 → (∀ n, n ∈ H → n.1 ≠ 3) → (∀ i n, H[i]? = some n → G[l + i]? = some n) → (∃ n, G[l + H.length]? = some n ∧ n.1 = 3) → H.length < F → cR_localsOf_14 F (nI p) (nI l) b = some (nI (mv p H), b) := by
  intro H
  induction H with
  | nil =>
    intro p l F hp h3 hH hE hF
    obtain ⟨F0, rfl⟩ : ∃ F0, F = F0 + 1 := ⟨F - 1, by omega⟩
    obtain ⟨n, hn, hn3⟩ := hE
    rw [List.length_nil, Nat.add_zero] at hn
    have hl := getE_lt hn
    rw [cR_localsOf_14.eq_2]
    unfold cR_localsOf_14_b
    rw [if_pos (nI_idx (by omega) (by decide)), nI_clamp (by omega), if_pos ((KB_26 (hK l n hn)).2.mpr hn3)]; rfl
  | cons n H ih =>
    intro p l F hp h3 hH hE hF
    obtain ⟨F0, rfl⟩ : ∃ F0, F = F0 + 1 := ⟨F - 1, by omega⟩
    rw [List.length_cons] at hF hE
    have hn : G[l]? = some n := hH 0 n rfl
    have hl := getE_lt hn
    have hn3 := h3 n List.mem_cons_self
    have hp' : mv p [n] ≤ 8 := mv_le hp [n]
    have ih' := ih (mv p [n]) (l + 1) F0 hp' (fun m hm => h3 m (List.mem_cons_of_mem _ hm)) (fun i m hi => by rw [show l + 1 + i = l + (i + 1) by omega]; exact hH (i + 1) m hi) (by rw [show l + 1 + H.length = l + (H.length + 1) by omega]; exact hE) (by omega)
    have emv : mv p (n :: H) = mv (mv p [n]) H := rfl
    rw [emv, cR_localsOf_14.eq_2]
    unfold cR_localsOf_14_b
    have hkb := hK l n hn
    rw [if_pos (nI_idx (by omega) (by decide)), nI_clamp (by omega), if_neg (fun z => hn3 ((KB_26 hkb).2.mp z)), nI_1]
    have no24 : ∀ m : Nat, m < 600 → ¬ m = 24 → gA b 99 l = nI m → ¬ gA b 99 l = 24 := fun m hm h24 e z => by
      rw [e] at z
      exact h24 (nI_inj (b := 24) (by omega) (by decide) z)
    have plain : ¬ gA b 99 l = 24 → mv p [n] = p → (if (gA b 99 l) = ((24 : Int32)) then (if ((gA b 100 l) + ((1 : Int32))) ≤ nI p then cR_localsOf_14 F0 (nI p) (nI (l + 1)) b else cR_localsOf_14 F0 ((gA b 100 l) + ((1 : Int32))) (nI (l + 1)) b) else cR_localsOf_14 F0 (nI p) (nI (l + 1)) b) = some (nI (mv (mv p [n]) H), b) := fun h1 h2 => by
      rw [if_neg h1, ← ih', h2]
    rcases hkb with h | h | h | h | h | h | h | h | h
    · obtain ⟨h1, ⟨v, h2, h4, h5, h6⟩, h7⟩ := h
      by_cases cv : v < 8
      · rw [if_pos cv] at h5 h6
        have ev : mv p [n] = max p (v + 1) := by
          show (if n.1 = 1 ∧ n.2.1 < 8 then max p (n.2.1.toNatClampNeg + 1) else p) = _
          rw [h4, nI_clamp (by omega), if_pos ⟨h1, nI_lt (b := 8) cv (by decide)⟩]
        rw [h5, if_pos (by decide), h6, nI_1]
        rw [ev] at ih' ⊢
        by_cases cm : v + 1 ≤ p
        · rw [if_pos (nI_le cm (by omega))]
          rw [Nat.max_eq_left cm] at ih' ⊢; exact ih'
        · rw [if_neg (nI_ge (by omega) (by omega))]
          rw [Nat.max_eq_right (by omega)] at ih' ⊢; exact ih'
      · rw [if_neg cv] at h5
        refine plain (no24 25 (by omega) (by omega) h5) ?_
        show (if n.1 = 1 ∧ n.2.1 < 8 then max p (n.2.1.toNatClampNeg + 1) else p) = p
        rw [if_neg (fun z => by have := z.2; rw [h4] at this; exact absurd this (nI_nlt (b := 8) (by omega) (by omega)))]
    · exact plain (no24 26 (by omega) (by omega) h.2.2) (if_neg (fun z => by have := z.1; omega))
    · exact plain (no24 27 (by omega) (by omega) h.2.2) (if_neg (fun z => by have := z.1; omega))
    · exact plain (no24 _ (by omega) (by omega) h.2.1) (if_neg (fun z => by have := z.1; omega))
    · exact plain (no24 _ (by omega) (by omega) h.2.1) (if_neg (fun z => by have := z.1; omega))
    · exact plain (no24 _ (by omega) (by omega) h.2.1) (if_neg (fun z => by have := z.1; omega))
    · exact plain (no24 _ (by omega) (by omega) h.2.1) (if_neg (fun z => by have := z.1; omega))
    · exact plain (no24 _ (by omega) (by omega) h.2.1) (if_neg (fun z => by have := z.1; omega))
    · exact plain (no24 _ (by omega) (by omega) h.2.1) (if_neg (fun z => by have := z.1; omega))
def us (U : Nat → Nat → Nat) (p : Nat) : Nat → Nat
  | 0 => 0
  | k + 1 => us U p k + U p k
theorem units_cl {rm : Nat → Nat} {s : ts} {M : Md} {p : Nat} (hA : VA rm s M) (hp : p < m_N M) : ∀ (k i F : Nat), i + k = 8 → k < F → cP_unitsInAll_4 F p (nI (us (m_U M) p i)) (nI i) s = some (nI (us (m_U M) p 8), s) := by
  intro k
  induction k with
  | zero =>
    intro i F hk hF
    obtain ⟨F0, rfl⟩ : ∃ F0, F = F0 + 1 := ⟨F - 1, by omega⟩
    have e : i = 8 := by omega
    subst e
    rw [cP_unitsInAll_4.eq_2]
    unfold cP_unitsInAll_4_b
    rw [if_pos (by decide)]
  | succ k ih =>
    intro i F hk hF
    obtain ⟨F0, rfl⟩ : ∃ F0, F = F0 + 1 := ⟨F - 1, by omega⟩
    rw [cP_unitsInAll_4.eq_2]
    unfold cP_unitsInAll_4_b
    rw [if_neg (show ¬ (8 : Int32) ≤ nI i from nI_ge (b := 8) (by omega) (by decide)), if_pos (Nat.lt_of_lt_of_le hp (VA_gm hA).1), if_pos (nI_idx (by omega) (by decide)), nI_clamp (by omega), VA_un hA p hp i (by omega), nI_add, nI_1]
    exact ih (i + 1) F0 (by omega) (by omega)
def prE (p : Nat) (w : Int32) (u : Int32) (s : ts) : Option (Int32 × ts) := (if w = (0 : Int32) then some (gA s 119 p, s) else (if w = (1 : Int32) then some (gA s 120 p, s) else (if w = (2 : Int32) then (if ((2 : Int32)) ≤ (gA s 120 p) then some ((-2 : Int32), s) else some (gA s 122 p, s)) else (if w = (3 : Int32) then (if (gA s 120 p) = ((2 : Int32)) then some (gA s 125 p, s) else (if (gA s 120 p) = ((3 : Int32)) then some (((gI s 1110 0) + (gA s 125 p)) - ((8 : Int32)), s) else some ((-2 : Int32), s))) else (if w = (4 : Int32) then some (u, s) else (if w = (5 : Int32) then some (gA s 126 p, s) else (if w = (6 : Int32) then (if ((5 : Int32)) ≤ (gA s 120 p) then some ((-2 : Int32), s) else some (gA s 124 p, s)) else some ((-2000000000 : Int32), s))))))))
theorem units_rc {rm : Nat → Nat} {s : ts} {M : Md} {p : Nat} {w : Int32} (hB : VB rm s M) (hp : p < m_N M) (hp3 : p < 300) : ∀ (k i F : Nat), i + k = 8 → k < F → cR_process_66 F (nI p) w (nI (us (m_U M) p i)) (nI i) s = prE p w (nI (us (m_U M) p 8)) s := by
  intro k
  induction k with
  | zero =>
    intro i F hk hF
    obtain ⟨F0, rfl⟩ : ∃ F0, F = F0 + 1 := ⟨F - 1, by omega⟩
    have e : i = 8 := by omega
    subst e
    rw [cR_process_66.eq_2]
    unfold cR_process_66_b prE
    simp only [if_pos (show (8 : Int32) ≤ nI 8 by decide), if_pos (nI_idx hp3 (by decide)), nI_clamp (show p < 2 ^ 31 by omega)]
  | succ k ih =>
    intro i F hk hF
    obtain ⟨F0, rfl⟩ : ∃ F0, F = F0 + 1 := ⟨F - 1, by omega⟩
    rw [cR_process_66.eq_2]
    unfold cR_process_66_b
    rw [if_neg (show ¬ (8 : Int32) ≤ nI i from nI_ge (b := 8) (by omega) (by decide)), show (8 : Int32) * nI p + nI i = nI (8 * p + i) by rw [show (8 : Int32) = nI 8 from rfl, pk_mul, nI_add], if_pos (nI_idx (by omega) (by decide)), nI_clamp (by omega), VB_un hB p hp i (by omega), nI_add, nI_1]
    exact ih (i + 1) F0 (by omega) (by omega)
