/-! A PROCESS ENDS, or goes wrong: it leaves where it stands, and its units go back. -/
theorem gI_ws {s : ts} {f i : Nat} {x : Int32} : gI (wI s f i x) f i = x := if_pos ⟨rfl, rfl⟩
theorem gI_wf {s : ts} {f g i j : Nat} {x : Int32} (h : ¬ g = f) : gI (wI s f i x) g j = gI s g j := u2_ne h
def Jv (rm : Nat → Nat) (M : Md) : Prop := ∀ q, 8 + rm 15 ≤ q → q < 14 → m_R M q = [] ∧ m_R M (14 + q) = []
def RMk (rm : Nat → Nat) : Prop := (∀ q, q < 8 → rm q < 1000) ∧ (∀ q, rm 14 ≤ q → q < 8 → rm q = 0) ∧ (∀ q, q < 14 → rm q < 100000) ∧ rm 15 ≤ 6 ∧ rm 14 ≤ 8
theorem Jv_rows {rm : Nat → Nat} {M M1 : Md} (h : Jv rm M) (hr : ∀ ρ, ρ < 28 → ∀ x, x ∈ m_R M1 ρ → x ∈ m_R M ρ) : Jv rm M1 := by
  intro q h1 h2
  have z := h q h1 h2
  exact ⟨List.eq_nil_iff_forall_not_mem.mpr (fun x hx => by have := hr q (by omega) x hx; rw [z.1] at this; cases this), List.eq_nil_iff_forall_not_mem.mpr (fun x hx => by have := hr (14 + q) (by omega) x hx; rw [z.2] at this; cases this)⟩
theorem Jv_Qt {rm : Nat → Nat} {M M1 : Md} {k : Nat} (h : Jv rm M) (q : Qt k M M1) : Jv rm M1 := Jv_rows h q.2.2.2.2
theorem units_in {rm : Nat → Nat} {p r : Nat} (hr : r < 8) (hrm : rm r < 1000) : ∀ (u F F' : Nat) (M : Md) (a b : ts), m_U M p r = u → u < F → u < F' → VA rm a M → VB rm b M → Inv rm M none → p < m_N M → 5 ≤ m_S M p → ∃ a1 b1 M1, (∀ kk, cO_finish_138 kk F p (nI r) (nI u) a = kk p (nI (r + 1)) a1) ∧ (∀ kk, cR_finish_153 kk F' (nI p) (nI r) b = kk (nI p) (nI (r + 1)) b1) ∧ VA rm a1 M1 ∧ VB rm b1 M1 ∧ Inv rm M1 none ∧ Qt u M M1 ∧ m_U M1 p r = 0 ∧ (∀ i, ¬ i = r → m_U M1 p i = m_U M p i) ∧ m_S M1 p = m_S M p := by
  intro u
  induction u with
  | zero =>
    intro F F' M a b hu hF hF' hA hB hI hp hS
    have hN := (Inv_N hI).1
    obtain ⟨F0, rfl⟩ : ∃ F0, F = F0 + 1 := ⟨F - 1, by omega⟩
    obtain ⟨F1, rfl⟩ : ∃ F1, F' = F1 + 1 := ⟨F' - 1, by omega⟩
    refine ⟨a, b, M, fun kk => ?_, fun kk => ?_, hA, hB, hI, Qt_rf, hu, fun _ _ => rfl, rfl⟩
    · show cO_finish_138_b kk (cO_finish_138 kk F0) p (nI r) (nI 0) a = _
      unfold cO_finish_138_b
      rw [if_pos (by decide), nI_1]
    · show cR_finish_153_b kk (cR_finish_153 kk F1) (nI p) (nI r) b = _
      unfold cR_finish_153_b
      rw [show (8 : Int32) * nI p + nI r = nI (8 * p + r) by rw [show (8 : Int32) = nI 8 from rfl, pk_mul, nI_add], if_pos (nI_idx (by omega) (by decide)), nI_clamp (by omega), VB_un hB p hp r hr, hu, if_pos (by decide), nI_1]
  | succ u ih =>
    intro F F' M a b hu hF hF' hA hB hI hp hS
    have hN := (Inv_N hI).1
    obtain ⟨F0, rfl⟩ : ∃ F0, F = F0 + 1 := ⟨F - 1, by omega⟩
    obtain ⟨F1, rfl⟩ : ∃ F1, F' = F1 + 1 := ⟨F' - 1, by omega⟩
    have hre := Inv_re hI r hr
    have hle := su_le (U := m_U M) (q := r) hp
    obtain ⟨a1, b1, M1, g1, g2, g3, g4, g5, g6, g7, g8⟩ := give_ok hA hB hI hp hr (by omega) hS hrm
    have hS1 : m_S M1 p = m_S M p := by
      have := g6.2.2.1 p hp
      omega
    obtain ⟨a2, b2, M2, i1, i2, i3, i4, i5, i6, i7, i8, i9⟩ := ih F0 F1 M1 a1 b1 (by rw [g7, hu]; rfl) (by omega) (by omega) g3 g4 g5 (by rw [g6.1.1]; exact hp) (by omega)
    refine ⟨a2, b2, M2, fun kk => ?_, fun kk => ?_, i3, i4, i5, Qt_mono (Qt_tr g6 i6) (by omega), i7, fun i hi => (i8 i hi).trans (g8 i hi), i9.trans hS1⟩
    · show cO_finish_138_b kk (cO_finish_138 kk F0) p (nI r) (nI (u + 1)) a = _
      unfold cO_finish_138_b
      rw [if_neg (nI_nle (by omega) (by omega)), g1, Option.bind_some, show nI (u + 1) + (-1 : Int32) = nI u by rw [← Int32.sub_eq_add_neg]; exact nI_pred u]
      exact i1 kk
    · show cR_finish_153_b kk (cR_finish_153 kk F1) (nI p) (nI r) b = _
      unfold cR_finish_153_b
      have e1 : gA b 128 (8 * p + r) = nI (u + 1) := by rw [VB_un hB p hp r hr, hu]
      have e2 : gA (wA b 128 (8 * p + r) (nI u)) 129 r = m_th M r := VB_th hB r (by omega)
      rw [hu, Nat.add_sub_cancel] at g2
      rw [show (8 : Int32) * nI p + nI r = nI (8 * p + r) by rw [show (8 : Int32) = nI 8 from rfl, pk_mul, nI_add], if_pos (nI_idx (by omega) (by decide)), nI_clamp (by omega), e1, if_neg (nI_nle (by omega) (by omega)), if_pos (nI_idx (by omega) (by decide)), nI_pred u, nI_clamp (by omega), e2, g2, Option.bind_some]
      exact i2 kk
theorem units_lp {rm : Nat → Nat} (hrm : RMk rm) {p : Nat} : ∀ (k r F F' : Nat) (M : Md) (a b : ts), r + k = 8 → k < F → k < F' → VA rm a M → VB rm b M → Inv rm M none → p < m_N M → 5 ≤ m_S M p → ∃ a1 b1 M1, cO_finish_122 F p (nI r) a = some a1 ∧ cR_finish_144 F' (nI p) (nI r) b = some b1 ∧ VA rm a1 M1 ∧ VB rm b1 M1 ∧ Inv rm M1 none ∧ Qt (k * 1000) M M1 := by
  intro k
  induction k with
  | zero =>
    intro r F F' M a b hk hF hF' hA hB hI hp hS
    obtain ⟨F0, rfl⟩ : ∃ F0, F = F0 + 1 := ⟨F - 1, by omega⟩
    obtain ⟨F1, rfl⟩ : ∃ F1, F' = F1 + 1 := ⟨F' - 1, by omega⟩
    have e : r = 8 := by omega
    subst e
    refine ⟨a, b, M, ?_, ?_, hA, hB, hI, Qt_rf⟩
    · show cO_finish_122_b (cO_finish_122 F0) p (nI 8) a = _
      unfold cO_finish_122_b
      rw [if_pos (by decide)]
    · show cR_finish_144_b (cR_finish_144 F1) (nI p) (nI 8) b = _
      unfold cR_finish_144_b
      rw [(VB_nr hB).1, if_pos (nI_le (VB_nr hB).2 (by decide))]
  | succ k ih =>
    intro r F F' M a b hk hF hF' hA hB hI hp hS
    obtain ⟨F0, rfl⟩ : ∃ F0, F = F0 + 1 := ⟨F - 1, by omega⟩
    obtain ⟨F1, rfl⟩ : ∃ F1, F' = F1 + 1 := ⟨F' - 1, by omega⟩
    have hr : r < 8 := by omega
    have hre := Inv_re hI r hr
    have hle := su_le (U := m_U M) (q := r) hp
    have hr1 := hrm.1 r hr
    have ht : 1000 < tm_N := by unfold tm_N; omega
    obtain ⟨a1, b1, M1, g1, g2, g3, g4, g5, g6, g7, g8, g9⟩ := units_in hr hr1 (m_U M p r) tm_N tm_N M a b rfl (by omega) (by omega) hA hB hI hp hS
    have eA : cO_finish_122 (F0 + 1) p (nI r) a = cO_finish_122 F0 p (nI (r + 1)) a1 := by
      show cO_finish_122_b (cO_finish_122 F0) p (nI r) a = _
      unfold cO_finish_122_b
      rw [if_neg (show ¬ (8 : Int32) ≤ nI r from nI_ge (b := 8) hr (by decide)), if_pos (Nat.lt_of_lt_of_le hp (VA_gm hA).1), if_pos (nI_idx hr (by decide)), nI_clamp (by omega), VA_un hA p hp r hr, g1]
    obtain ⟨a2, b2, M2, i1, i2, i3, i4, i5, i6⟩ := ih (r + 1) F0 F1 M1 a1 b1 (by omega) (by omega) (by omega) g3 g4 g5 (by rw [g6.1.1]; exact hp) (by rw [g9]; exact hS)
    refine ⟨a2, b2, M2, by rw [eA]; exact i1, ?_, i3, i4, i5, Qt_mono (Qt_tr g6 i6) (by omega)⟩
    show cR_finish_144_b (cR_finish_144 F1) (nI p) (nI r) b = _
    unfold cR_finish_144_b
    by_cases c : r < rm 14
    · rw [(VB_nr hB).1, if_neg (nI_ge c (by have := (VB_nr hB).2; omega)), g2]; exact i2
    · have h0 := hrm.2.1 r (by omega) hr
      have hu0 : m_U M p r = 0 := by omega
      have eb : b1 = b := by
        have z := g2 (fun _ _ s => some s)
        obtain ⟨T, hT⟩ : ∃ T, tm_N = T + 1 := ⟨999999999, rfl⟩
        rw [hT] at z
        have hN := (Inv_N hI).1
        have z1 : cR_finish_153_b (fun _ _ s => some s) (cR_finish_153 (fun _ _ s => some s) T) (nI p) (nI r) b = some b1 := z
        unfold cR_finish_153_b at z1
        rw [show (8 : Int32) * nI p + nI r = nI (8 * p + r) by rw [show (8 : Int32) = nI 8 from rfl, pk_mul, nI_add], if_pos (nI_idx (by omega) (by decide)), nI_clamp (by omega), VB_un hB p hp r hr, hu0, if_pos (by decide)] at z1
        exact (Option.some.inj z1).symm
      have hb : cR_finish_144 F1 (nI p) (nI (r + 1)) b1 = some b1 := by
        obtain ⟨F2, rfl⟩ : ∃ F2, F1 = F2 + 1 := ⟨F1 - 1, by omega⟩
        show cR_finish_144_b (cR_finish_144 F2) (nI p) (nI (r + 1)) b1 = _
        unfold cR_finish_144_b
        rw [(VB_nr g4).1, if_pos (nI_le (by omega) (by omega))]
      rw [(VB_nr hB).1, if_pos (nI_le (by omega) (by omega))]
      rw [hb] at i2
      rw [← i2, eb]
theorem cl_fin {rm : Nat → Nat} {a : ts} {M : Md} {p w : Nat} (h : VA rm a M) : VA rm (wI (wI (wI (wI a 502 p (nI (if w = 0 then 5 else 6))) 504 p (nI w)) 905 0 (m_en M + (if w = 0 then 1 else 0))) 906 0 (m_wg M + (if w = 0 then 0 else 1))) (mFin M p w) := by
  generalize ha : wI (wI (wI (wI a 502 p (nI (if w = 0 then 5 else 6))) 504 p (nI w)) 905 0 (m_en M + (if w = 0 then 1 else 0))) 906 0 (m_wg M + (if w = 0 then 0 else 1)) = a1
  have fa : fr [502, 504, 905, 906] a a1 := by rw [← ha]; exact fr_wI (fr_wI (fr_wI (fr_wI fr_rf rfl) rfl) rfl) rfl
  unfold VA
  simp only [p_mFin]
  refine ⟨(fa.1 800 rfl 0).trans (VA_tm h), (fa.1 801 rfl 0).trans (VA_sd h), fun i hi => (fa.2.1 36 rfl i).trans ((VA_nu h) i hi), (fa.1 1004 rfl 0).trans (VA_st h), (fa.1 1005 rfl 0).trans (VA_tn h), (fa.1 904 rfl 0).trans (VA_N h), ?_, ?_, (fa.1 1008 rfl 0).trans (VA_tc h), fun k h1 h2 => ⟨(fa.2.1 85 rfl k).trans ((VA_tt h) k h1 h2).1, (fa.2.1 86 rfl k).trans ((VA_tt h) k h1 h2).2⟩, (fa.2.2.2.2.1 1003 rfl 0).trans (VA_am h), fun q hq => (fa.1 703 rfl q).trans ((VA_th h) q hq), fun q hq => (fa.1 704 rfl q).trans ((VA_rm h) q hq), fun q hq => (fa.1 705 rfl q).trans ((VA_sv h) q hq), fun q hq => (fa.1 706 rfl q).trans ((VA_lt h) q hq), fun q hq => (fa.1 707 rfl q).trans ((VA_mw h) q hq), fun q hq => (fa.2.2.2.1 708 rfl q).trans ((VA_s0 h) q hq), fun q hq => (fa.2.2.2.1 709 rfl q).trans ((VA_s1 h) q hq), fun q hq => (fa.2.2.2.1 710 rfl q).trans ((VA_s2 h) q hq), fun q hq => (fa.1 700 rfl q).trans ((VA_iS h) q hq), by rw [fa.2.2.2.2.2.2.2.1 rfl]; exact (VA_gm h), fun p hp => (fa.1 500 rfl p).trans ((VA_no h) p (by rw [fa.2.2.2.2.2.2.2.1 rfl] at hp; exact hp)), fun p hp => (fa.1 501 rfl p).trans ((VA_df h) p hp), ?_, fun p hp => (fa.1 503 rfl p).trans ((VA_at h) p hp), ?_, fun p hp => (fa.1 508 rfl p).trans ((VA_ke h) p hp), fun p hp => (fa.1 510 rfl p).trans ((VA_si h) p hp), fun p hp => (fa.1 512 rfl p).trans ((VA_ao h) p hp), ?_, fun p hp i hi => (fa.2.2.2.2.2.1 rfl p i).trans ((VA_vl h) p hp i hi), fun p hp i hi => (fa.2.2.2.2.2.2.1 rfl p i).trans ((VA_un h) p hp i hi), fun ρ hρ => ln_congr (fa.2.2.2.2.1 600 rfl _) (fa.1 601 rfl _) (fun x _ => fa.2.2.2.2.1 509 rfl x) (fun x _ => fa.2.2.2.2.1 507 rfl x) (by rw [fa.2.2.2.2.2.2.2.1 rfl]; exact Nat.le_refl _) ((VA_li h) ρ hρ), fun p hp hn => (fa.2.2.2.2.1 507 rfl p).trans ((VA_nw h) p hp hn)⟩
  · rw [← ha, gI_wf (by decide), gI_ws]
  · rw [← ha, gI_ws]
  · intro p1 hp1
    rw [← ha]; exact upN (VA_ss h p1 hp1)
  · intro p1 hp1
    rw [← ha]; exact upI (VA_wr h p1 hp1)
  · intro p1 hp1 hw
    by_cases c : p1 = p
    · rw [c, up_s] at hw
      split at hw <;> omega
    · rw [up_n c] at hw
      have := VA_wh h p1 hp1 hw
      rw [← ha]; exact this
theorem rc_fin {rm : Nat → Nat} {b : ts} {M : Md} {p w : Nat} (h : VB rm b M) : VB rm (wI (wI (wA (wA b 120 p (nI (if w = 0 then 5 else 6))) 126 p (nI w)) 1156 0 (m_en M + (if w = 0 then 1 else 0))) 1157 0 (m_wg M + (if w = 0 then 0 else 1))) (mFin M p w) := by
  generalize hb : wI (wI (wA (wA b 120 p (nI (if w = 0 then 5 else 6))) 126 p (nI w)) 1156 0 (m_en M + (if w = 0 then 1 else 0))) 1157 0 (m_wg M + (if w = 0 then 0 else 1)) = b1
  have fa : fr [1156, 1157, 2120, 2126] b b1 := by rw [← hb]; exact fr_wI (fr_wI (fr_wA (fr_wA fr_rf rfl) rfl) rfl) rfl
  unfold VB rb
  simp only [p_mFin]
  refine ⟨⟨(fa.1 1110 rfl 0).trans (VB_nr h).1, (VB_nr h).2⟩, fun r hr => (fa.2.1 90 rfl r).trans ((VB_r0 h) r hr), fun s hs => (fa.2.1 93 rfl s).trans ((VB_r1 h) s hs), (fa.1 1152 rfl 0).trans (VB_tm h), (fa.1 1158 rfl 0).trans (VB_sd h), fun i hi => (fa.2.1 118 rfl i).trans ((VB_nu h) i hi), (fa.1 1153 rfl 0).trans (VB_st h), (fa.1 1154 rfl 0).trans (VB_tn h), (fa.1 1155 rfl 0).trans (VB_N h), ?_, ?_, (fa.1 1161 rfl 0).trans (VB_tc h), fun k h1 h2 => ⟨(fa.2.1 116 rfl k).trans ((VB_tt h) k h1 h2).1, (fa.2.1 117 rfl k).trans ((VB_tt h) k h1 h2).2⟩, (fa.1 1159 rfl 0).trans (VB_am h), fun q hq => (fa.2.1 129 rfl q).trans ((VB_th h) q hq), fun q hq => (fa.2.1 130 rfl q).trans ((VB_sv h) q hq), fun q hq => (fa.2.1 131 rfl q).trans ((VB_lt h) q hq), fun q hq => (fa.2.1 132 rfl q).trans ((VB_mb h) q hq), fun q hq => (fa.2.2.1 133 rfl q).trans ((VB_s0 h) q hq), fun q hq => (fa.2.2.1 134 rfl q).trans ((VB_s1 h) q hq), fun q hq => (fa.2.2.1 135 rfl q).trans ((VB_s2 h) q hq), fun p hp => (fa.2.1 119 rfl p).trans ((VB_df h) p hp), ?_, fun p hp => (fa.2.1 121 rfl p).trans ((VB_at h) p hp), ?_, ?_, (fa.2.2.2.1 1160 rfl 0).trans (VB_P h), fun p hp => (fa.2.1 124 rfl p).trans ((VB_si h) p hp), ?_, ?_, fun p hp i hi => (fa.2.1 127 rfl _).trans ((VB_vl h) p hp i hi), fun p hp i hi => (fa.2.1 128 rfl _).trans ((VB_un h) p hp i hi), fun ρ hρ => rw1_fr ((VB_ro h) ρ hρ) fa rfl rfl rfl, aw1_fr (VB_aw h) fa rfl rfl⟩
  · rw [← hb, gI_wf (by decide), gI_ws]
  · rw [← hb, gI_ws]
  · intro p1 hp1
    rw [← hb]; exact upAN (VB_ss h p1 hp1)
  · intro p1 hp1 hw
    by_cases c : p1 = p
    · rw [c, up_s] at hw
      split at hw <;> omega
    · rw [up_n c] at hw
      have := VB_du h p1 hp1 hw
      rw [← hb]; exact this
  · intro p1 hp1 hw
    by_cases c : p1 = p
    · rw [c, up_s] at hw
      split at hw <;> omega
    · rw [up_n c] at hw
      have := VB_pa h p1 hp1 hw
      rw [← hb]; exact this
  · intro p1 hp1 hw
    by_cases c : p1 = p
    · rw [c, up_s] at hw
      split at hw <;> omega
    · rw [up_n c] at hw
      have := VB_wh h p1 hp1 hw
      rw [← hb]; exact this
  · intro p1 hp1
    rw [← hb]; exact upA (VB_wr h p1 hp1)
theorem fin_rem {M : Md} {p w : Nat} : mFin (mRem M p) p w = mRem (mFin M p w) p := by
  refine Md_ext ?_ ?_ ?_ ?_ ?_ ?_ ?_ ?_ ?_ ?_ ?_ ?_ ?_ ?_ ?_ ?_ ?_ ?_ ?_ ?_ ?_ ?_ ?_ ?_ ?_ ?_ ?_ ?_ ?_ ?_ ?_ ?_ ?_ ?_ <;> simp only [p_mRem, p_mFin]
theorem Inv_fin {rm : Nat → Nat} {M : Md} {p w : Nat} (h : Inv rm M none) : Inv rm (mRem (mFin M p w) p) none := by
  unfold Inv
  simp only [p_mRem, p_mFin]
  have hs : ∀ x, ¬ x = p → up (m_S M) p (if w = 0 then 5 else 6) x = m_S M x := fun x hx => up_n hx
  have hs2 : up (m_S M) p (if w = 0 then 5 else 6) p = 5 ∨ up (m_S M) p (if w = 0 then 5 else 6) p = 6 := by
    rw [up_s]; split <;> omega
  refine ⟨Inv_N h, fun ρ hρ => (Inv_nd h ρ hρ).sublist rem_sub, fun ρ hρ x hx => ?_, fun ρ ρ1 x h1 h2 h3 h4 => Inv_di h ρ ρ1 x h1 h2 (mem_rem.mp h3).1 (mem_rem.mp h4).1, fun x hx => ?_, fun _ z => (by cases z), ⟨(Inv_ca h).1.sublist rem_sub, fun x hx => (Inv_ca h).2 x (mem_rem.mp hx).1⟩, fun ρ hρ => (Inv_so h ρ hρ).sublist rem_sub, fun ρ h1 h2 h3 x hx => Inv_k0 h ρ h1 h2 h3 x (mem_rem.mp hx).1, fun q hq => ⟨(Inv_re h q hq).1, (Inv_re h q hq).2.1, fun hne => (Inv_re h q hq).2.2 (fun e => hne (by unfold rem; rw [e]; rfl))⟩, fun q hq => ⟨Nat.le_trans (Nat.add_le_add (wl_sub rem_sub) (wl_sub rem_sub)) (Inv_mw h q hq).1, (Inv_mw h q hq).2⟩, fun x hx h7 => ?_, (Inv_am h).2⟩
  · have z := mem_rem.mp hx
    rw [hs x z.2]; exact Inv_me h ρ hρ x z.1
  · by_cases c : x = p
    · rw [c]; exact ⟨by omega, fun z => by omega⟩
    · rw [hs x c]
      refine ⟨(Inv_co h x hx).1, fun h4 => ?_⟩
      obtain ⟨ρ, h1, h2⟩ := (Inv_co h x hx).2 h4
      exact ⟨ρ, h1, mem_rem.mpr ⟨h2, c⟩⟩
  · by_cases c : x = p
    · rw [c] at h7; omega
    · rw [hs x c] at h7; exact (Inv_am h).1 x hx h7
