/-! A NEW PROCESS, on both sides. -/
def mNew (M : Md) (d e s : Nat) (x y z : Int32) : Md := s_A (s_K (s_Zs (s_U (s_V (s_Xw (s_D (s_Lr (s_T (s_S (s_N M (m_N M + 1)) (up (m_S M) (m_N M) s)) (up (m_T M) (m_N M) e)) (up (m_Lr M) (m_N M) e)) (up (m_D M) (m_N M) d)) (up (m_Xw M) (m_N M) 0)) (up (m_V M) (m_N M) (fun _ => 0))) (up (m_U M) (m_N M) (fun _ => 0))) (up (m_Zs M) (m_N M) x)) (up (m_K M) (m_N M) y)) (up (m_A M) (m_N M) z)
theorem p_mNew : (∀ (M : Md) (d e s : Nat) (x y z : Int32), m_N (mNew M d e s x y z) = m_N M + 1) ∧ (∀ (M : Md) (d e s : Nat) (x y z : Int32), m_S (mNew M d e s x y z) = up (m_S M) (m_N M) s) ∧ (∀ (M : Md) (d e s : Nat) (x y z : Int32), m_W (mNew M d e s x y z) = m_W M) ∧ (∀ (M : Md) (d e s : Nat) (x y z : Int32), m_T (mNew M d e s x y z) = up (m_T M) (m_N M) e) ∧ (∀ (M : Md) (d e s : Nat) (x y z : Int32), m_Lr (mNew M d e s x y z) = up (m_Lr M) (m_N M) e) ∧ (∀ (M : Md) (d e s : Nat) (x y z : Int32), m_D (mNew M d e s x y z) = up (m_D M) (m_N M) d) ∧ (∀ (M : Md) (d e s : Nat) (x y z : Int32), m_U (mNew M d e s x y z) = up (m_U M) (m_N M) (fun _ => 0)) ∧ (∀ (M : Md) (d e s : Nat) (x y z : Int32), m_R (mNew M d e s x y z) = m_R M) ∧ (∀ (M : Md) (d e s : Nat) (x y z : Int32), m_K (mNew M d e s x y z) = up (m_K M) (m_N M) y) ∧ (∀ (M : Md) (d e s : Nat) (x y z : Int32), m_A (mNew M d e s x y z) = up (m_A M) (m_N M) z) ∧ (∀ (M : Md) (d e s : Nat) (x y z : Int32), m_Zs (mNew M d e s x y z) = up (m_Zs M) (m_N M) x) ∧ (∀ (M : Md) (d e s : Nat) (x y z : Int32), m_Xw (mNew M d e s x y z) = up (m_Xw M) (m_N M) 0) ∧ (∀ (M : Md) (d e s : Nat) (x y z : Int32), m_V (mNew M d e s x y z) = up (m_V M) (m_N M) (fun _ => 0)) ∧ (∀ (M : Md) (d e s : Nat) (x y z : Int32), m_nu (mNew M d e s x y z) = m_nu M) ∧ (∀ (M : Md) (d e s : Nat) (x y z : Int32), m_th (mNew M d e s x y z) = m_th M) ∧ (∀ (M : Md) (d e s : Nat) (x y z : Int32), m_sv (mNew M d e s x y z) = m_sv M) ∧ (∀ (M : Md) (d e s : Nat) (x y z : Int32), m_lt (mNew M d e s x y z) = m_lt M) ∧ (∀ (M : Md) (d e s : Nat) (x y z : Int32), m_mw (mNew M d e s x y z) = m_mw M) ∧ (∀ (M : Md) (d e s : Nat) (x y z : Int32), m_mb (mNew M d e s x y z) = m_mb M) ∧ (∀ (M : Md) (d e s : Nat) (x y z : Int32), m_s0 (mNew M d e s x y z) = m_s0 M) ∧ (∀ (M : Md) (d e s : Nat) (x y z : Int32), m_s1 (mNew M d e s x y z) = m_s1 M) ∧ (∀ (M : Md) (d e s : Nat) (x y z : Int32), m_s2 (mNew M d e s x y z) = m_s2 M) ∧ (∀ (M : Md) (d e s : Nat) (x y z : Int32), m_tm (mNew M d e s x y z) = m_tm M) ∧ (∀ (M : Md) (d e s : Nat) (x y z : Int32), m_tc (mNew M d e s x y z) = m_tc M) ∧ (∀ (M : Md) (d e s : Nat) (x y z : Int32), m_P (mNew M d e s x y z) = m_P M) ∧ (∀ (M : Md) (d e s : Nat) (x y z : Int32), m_pa (mNew M d e s x y z) = m_pa M) ∧ (∀ (M : Md) (d e s : Nat) (x y z : Int32), m_sd (mNew M d e s x y z) = m_sd M) ∧ (∀ (M : Md) (d e s : Nat) (x y z : Int32), m_st (mNew M d e s x y z) = m_st M) ∧ (∀ (M : Md) (d e s : Nat) (x y z : Int32), m_tn (mNew M d e s x y z) = m_tn M) ∧ (∀ (M : Md) (d e s : Nat) (x y z : Int32), m_en (mNew M d e s x y z) = m_en M) ∧ (∀ (M : Md) (d e s : Nat) (x y z : Int32), m_wg (mNew M d e s x y z) = m_wg M) ∧ (∀ (M : Md) (d e s : Nat) (x y z : Int32), m_tt (mNew M d e s x y z) = m_tt M) ∧ (∀ (M : Md) (d e s : Nat) (x y z : Int32), m_tv (mNew M d e s x y z) = m_tv M) ∧ (∀ (M : Md) (d e s : Nat) (x y z : Int32), m_am (mNew M d e s x y z) = m_am M) := by
  unfold mNew
  simp only [k_N, k_S, k_T, k_Lr, k_D, k_Xw, k_V, k_U, k_Zs, k_K, k_A, and_self, implies_true]
theorem cl_mk {rm : Nat → Nat} {a : ts} {M : Md} (h : VA rm a M) (hm : Mm M) (hN : m_N M = gM a) (h3 : gM a < 300) : VA rm (ts_mk a) M := by
  have eI : ∀ f i, ¬ i = gM a → gI (ts_mk a) f i = gI a f i := fun f i hi => if_neg (fun z => hi z.1)
  have eI2 : ∀ f i, ¬ (500 ≤ f ∧ f < 513) → gI (ts_mk a) f i = gI a f i := fun f i hf => if_neg (fun z => hf z.2)
  have eR : ∀ f i, ¬ i = gM a → gR (ts_mk a) f i = gR a f i := fun f i hi => if_neg (fun z => hi z.1)
  have eR2 : ∀ f i, ¬ (f = 507 ∨ f = 509) → gR (ts_mk a) f i = gR a f i := fun f i hf => if_neg (fun z => hf z.2)
  have eV : ∀ p i, ¬ p = gM a → gV (ts_mk a) p i = gV a p i := fun p i hp => if_neg hp
  have eU : ∀ p i, ¬ p = gM a → gU (ts_mk a) p i = gU a p i := fun p i hp => if_neg hp
  have e500 : gI (ts_mk a) 500 (gM a) = gI a 904 0 := (if_pos ⟨rfl, by omega, by omega⟩).trans (if_pos rfl)
  have eM : gM (ts_mk a) = gM a + 1 := rfl
  have pp : ∀ f, ∀ p, p < m_N M → gI (ts_mk a) f p = gI a f p := fun f p hp => eI f p (by omega)
  refine ⟨(eI2 800 0 (by omega)).trans (VA_tm h), (eI2 801 0 (by omega)).trans (VA_sd h), (by have x0 := VA_nu h; exact x0), (eI2 1004 0 (by omega)).trans (VA_st h), (eI2 1005 0 (by omega)).trans (VA_tn h), (eI2 904 0 (by omega)).trans (VA_N h), (eI2 905 0 (by omega)).trans (VA_en h), (eI2 906 0 (by omega)).trans (VA_wg h), (eI2 1008 0 (by omega)).trans (VA_tc h), (by have x0 := VA_tt h; exact x0), (eR2 1003 0 (by omega)).trans (VA_am h), fun q hq => (eI2 703 q (by omega)).trans (VA_th h q hq), fun q hq => (eI2 704 q (by omega)).trans (VA_rm h q hq), fun q hq => (eI2 705 q (by omega)).trans (VA_sv h q hq), fun q hq => (eI2 706 q (by omega)).trans (VA_lt h q hq), fun q hq => (eI2 707 q (by omega)).trans (VA_mw h q hq), (by have x0 := VA_s0 h; exact x0), (by have x0 := VA_s1 h; exact x0), (by have x0 := VA_s2 h; exact x0), fun q hq => (eI2 700 q (by omega)).trans (VA_iS h q hq), ⟨by rw [eM]; omega, by rw [eM]; omega⟩, ?_, fun p hp => (pp 501 p hp).trans (VA_df h p hp), fun p hp => (pp 502 p hp).trans (VA_ss h p hp), fun p hp => (pp 503 p hp).trans (VA_at h p hp), fun p hp => (pp 504 p hp).trans (VA_wr h p hp), fun p hp => (pp 508 p hp).trans (VA_ke h p hp), fun p hp => (pp 510 p hp).trans (VA_si h p hp), fun p hp => (pp 512 p hp).trans (VA_ao h p hp), fun p hp hs => (pp 511 p hp).trans (VA_wh h p hp hs), fun p hp i hi => (eV p i (by omega)).trans (VA_vl h p hp i hi), fun p hp i hi => (eU p i (by omega)).trans (VA_un h p hp i hi), fun ρ hρ => ?_, fun p hp hn => (eR 507 p (by omega)).trans (VA_nw h p hp hn)⟩
  · intro p hp
    rw [eM] at hp
    by_cases c : p = gM a
    · rw [c, e500, VA_N h, hN]
    · rw [eI 500 p c]; exact VA_no h p (by omega)
  · exact ln_congr (eR2 600 _ (by omega)) (eI2 601 _ (by omega)) (fun x hx => eR 509 x (by have := hm ρ hρ x hx; omega)) (fun x hx => eR 507 x (by have := hm ρ hρ x hx; omega)) (by rw [eM]; omega) (VA_li h ρ hρ)
/-- the two loops of begin -/
theorem beg_V {q : Nat} : ∀ (k i F : Nat) (s : ts), i + k = 8 → k < F → q < gM s → ∃ s1, cP_begin_23 F q (nI i) s = cP_begin_44 tm_N q 0 s1 ∧ fr [9001] s s1 ∧ (∀ j, i ≤ j → j < 8 → gV s1 q j = 0) ∧ (∀ p j, ¬ (p = q ∧ i ≤ j) → gV s1 p j = gV s p j) := by
  intro k
  induction k with
  | zero =>
    intro i F s hk hF hq
    obtain ⟨F0, rfl⟩ : ∃ F0, F = F0 + 1 := ⟨F - 1, by omega⟩
    have e : i = 8 := by omega
    subst e
    refine ⟨s, ?_, fr_rf, fun j h1 h2 => by omega, fun _ _ _ => rfl⟩
    show cP_begin_23_b (cP_begin_23 F0) q (nI 8) s = _
    unfold cP_begin_23_b
    rw [if_pos (by decide)]
  | succ k ih =>
    intro i F s hk hF hq
    obtain ⟨F0, rfl⟩ : ∃ F0, F = F0 + 1 := ⟨F - 1, by omega⟩
    obtain ⟨s1, h1, h2, h3, h4⟩ := ih (i + 1) F0 (wV s q i 0) (by omega) (by omega) hq
    refine ⟨s1, ?_, fr_tr (fr_wV fr_rf rfl) h2, fun j h5 h6 => ?_, fun p j h5 => ?_⟩
    · show cP_begin_23_b (cP_begin_23 F0) q (nI i) s = _
      unfold cP_begin_23_b
      rw [if_neg (show ¬ (8 : Int32) ≤ nI i from nI_ge (b := 8) (by omega) (by decide)), if_pos hq, if_pos (nI_idx (by omega) (by decide)), nI_clamp (by omega), nI_1]
      exact h1
    · by_cases c : j = i
      · rw [c, h4 q i (by omega), gV_wV, if_pos ⟨rfl, rfl⟩]
      · exact h3 j (by omega) h6
    · rw [h4 p j (by omega), gV_wV, if_neg (by omega)]
theorem beg_U {q : Nat} : ∀ (k i F : Nat) (s : ts), i + k = 8 → k < F → q < gM s → ∃ s1, cP_begin_44 F q (nI i) s = some (wI (wR (wR s1 507 q none) 509 q none) 511 q (-2)) ∧ fr [9002] s s1 ∧ (∀ j, i ≤ j → j < 8 → gU s1 q j = 0) ∧ (∀ p j, ¬ (p = q ∧ i ≤ j) → gU s1 p j = gU s p j) := by
  intro k
  induction k with
  | zero =>
    intro i F s hk hF hq
    obtain ⟨F0, rfl⟩ : ∃ F0, F = F0 + 1 := ⟨F - 1, by omega⟩
    have e : i = 8 := by omega
    subst e
    refine ⟨s, ?_, fr_rf, fun j h1 h2 => by omega, fun _ _ _ => rfl⟩
    show cP_begin_44_b (cP_begin_44 F0) q (nI 8) s = _
    unfold cP_begin_44_b
    rw [if_pos (by decide), if_pos hq]
  | succ k ih =>
    intro i F s hk hF hq
    obtain ⟨F0, rfl⟩ : ∃ F0, F = F0 + 1 := ⟨F - 1, by omega⟩
    obtain ⟨s1, h1, h2, h3, h4⟩ := ih (i + 1) F0 (wU s q i 0) (by omega) (by omega) hq
    refine ⟨s1, ?_, fr_tr (fr_wU fr_rf rfl) h2, fun j h5 h6 => ?_, fun p j h5 => ?_⟩
    · show cP_begin_44_b (cP_begin_44 F0) q (nI i) s = _
      unfold cP_begin_44_b
      rw [if_neg (show ¬ (8 : Int32) ≤ nI i from nI_ge (b := 8) (by omega) (by decide)), if_pos hq, if_pos (nI_idx (by omega) (by decide)), nI_clamp (by omega), nI_1]
      exact h1
    · by_cases c : j = i
      · rw [c, h4 q i (by omega), gU_wU, if_pos ⟨rfl, rfl⟩]
      · exact h3 j (by omega) h6
    · rw [h4 p j (by omega), gU_wU, if_neg (by omega)]
theorem cl_beg {rm : Nat → Nat} {a : ts} {M : Md} {d e : Nat} (h : VA rm a M) (hm : Mm M) (hq : m_N M < gM a) : ∃ a1 x y z, cO_add_45 (nI d) (nI e) (m_N M) a = some (some (m_N M), a1) ∧ VA rm a1 (mNew M d e 7 x y z) ∧ fr [501, 502, 503, 504, 511, 904, 6507, 6509, 9001, 9002] a a1 := by
  generalize hs : wI (wI (wI (wI a 501 (m_N M) (nI d)) 502 (m_N M) 7) 503 (m_N M) (nI e)) 504 (m_N M) 0 = s0
  have f0 : fr [501, 502, 503, 504] a s0 := by rw [← hs]; exact fr_wI (fr_wI (fr_wI (fr_wI fr_rf rfl) rfl) rfl) rfl
  have hq0 : m_N M < gM s0 := by rw [← hs]; exact hq
  obtain ⟨s1, v1, v2, v3, v4⟩ := beg_V (q := m_N M) 8 0 tm_N s0 (by omega) (by unfold tm_N; omega) hq0
  have hq1 : m_N M < gM s1 := by rw [v2.2.2.2.2.2.2.2.1 rfl]; exact hq0
  obtain ⟨s2, u1, u2, u3, u4⟩ := beg_U (q := m_N M) 8 0 tm_N s1 (by omega) (by unfold tm_N; omega) hq1
  have hN : gI s2 904 0 = nI (m_N M) := by rw [u2.1 904 rfl, v2.1 904 rfl, f0.1 904 rfl]; exact VA_N h
  generalize ha : wI (wI (wR (wR s2 507 (m_N M) none) 509 (m_N M) none) 511 (m_N M) (-2)) 904 0 (nI (m_N M + 1)) = a1
  have fa : fr [501, 502, 503, 504, 511, 904, 6507, 6509, 9001, 9002] a a1 := by
    rw [← ha]
    exact fr_wI (fr_wI (fr_wR (fr_wR (fr_tr (fr_tr (fr_mono (by decide) f0) (fr_mono (by decide) v2)) (fr_mono (by decide) u2)) rfl) rfl) rfl) rfl
  refine ⟨a1, gI a1 510 (m_N M), gI a1 508 (m_N M), gI a1 512 (m_N M), ?_, ?_, fa⟩
  · unfold cO_add_45 cP_begin
    have u1 : cP_begin_44 tm_N (m_N M) 0 s1 = _ := u1
    have v1 : cP_begin_23 tm_N (m_N M) 0 s0 = _ := v1
    rw [if_pos hq, if_pos hq, hs, v1, u1, Option.bind_some]
    have e9 : gI (wI (wR (wR s2 507 (m_N M) none) 509 (m_N M) none) 511 (m_N M) (-2)) 904 0 = nI (m_N M) := hN
    rw [e9, nI_1, ha]
  · have h501 : ∀ y, gI a1 501 y = gI s0 501 y := fun y => by rw [← ha, gI_wf (by decide), gI_wf (by decide)]; exact (u2.1 501 rfl y).trans (v2.1 501 rfl y)
    have h502 : ∀ y, gI a1 502 y = gI s0 502 y := fun y => by rw [← ha, gI_wf (by decide), gI_wf (by decide)]; exact (u2.1 502 rfl y).trans (v2.1 502 rfl y)
    have h503 : ∀ y, gI a1 503 y = gI s0 503 y := fun y => by rw [← ha, gI_wf (by decide), gI_wf (by decide)]; exact (u2.1 503 rfl y).trans (v2.1 503 rfl y)
    have h504 : ∀ y, gI a1 504 y = gI s0 504 y := fun y => by rw [← ha, gI_wf (by decide), gI_wf (by decide)]; exact (u2.1 504 rfl y).trans (v2.1 504 rfl y)
    have h507 : ∀ y, ¬ y = m_N M → gR a1 507 y = gR a 507 y := fun y hy => by
      rw [← ha]
      show gR (wR (wR s2 507 (m_N M) none) 509 (m_N M) none) 507 y = gR a 507 y
      rw [gR_wRf (by decide), gR_wRi hy, u2.2.2.2.2.1 507 rfl, v2.2.2.2.2.1 507 rfl, f0.2.2.2.2.1 507 rfl]
    have h509 : ∀ y, ¬ y = m_N M → gR a1 509 y = gR a 509 y := fun y hy => by
      rw [← ha]
      show gR (wR (wR s2 507 (m_N M) none) 509 (m_N M) none) 509 y = gR a 509 y
      rw [gR_wRi hy, gR_wRf (by decide), u2.2.2.2.2.1 509 rfl, v2.2.2.2.2.1 509 rfl, f0.2.2.2.2.1 509 rfl]
    have h5N : gR a1 507 (m_N M) = none := by
      rw [← ha]
      show gR (wR (wR s2 507 (m_N M) none) 509 (m_N M) none) 507 (m_N M) = none
      rw [gR_wRf (by decide), gR_wRs]
    have hVs : ∀ p j, gV a1 p j = gV s1 p j := fun p j => by rw [← ha]; exact u2.2.2.2.2.2.1 rfl p j
    have hUs : ∀ p j, gU a1 p j = gU s2 p j := fun p j => by rw [← ha]; rfl
    have hgM : gM a1 = gM a := fa.2.2.2.2.2.2.2.1 rfl
    unfold VA
    simp only [p_mNew]
    refine ⟨(fa.1 800 rfl 0).trans (VA_tm h), (fa.1 801 rfl 0).trans (VA_sd h), fun i hi => (fa.2.1 36 rfl i).trans ((VA_nu h) i hi), (fa.1 1004 rfl 0).trans (VA_st h), (fa.1 1005 rfl 0).trans (VA_tn h), ?_, (fa.1 905 rfl 0).trans (VA_en h), (fa.1 906 rfl 0).trans (VA_wg h), (fa.1 1008 rfl 0).trans (VA_tc h), fun k h1 h2 => ⟨(fa.2.1 85 rfl k).trans ((VA_tt h) k h1 h2).1, (fa.2.1 86 rfl k).trans ((VA_tt h) k h1 h2).2⟩, (fa.2.2.2.2.1 1003 rfl 0).trans (VA_am h), fun q hq => (fa.1 703 rfl q).trans ((VA_th h) q hq), fun q hq => (fa.1 704 rfl q).trans ((VA_rm h) q hq), fun q hq => (fa.1 705 rfl q).trans ((VA_sv h) q hq), fun q hq => (fa.1 706 rfl q).trans ((VA_lt h) q hq), fun q hq => (fa.1 707 rfl q).trans ((VA_mw h) q hq), fun q hq => (fa.2.2.2.1 708 rfl q).trans ((VA_s0 h) q hq), fun q hq => (fa.2.2.2.1 709 rfl q).trans ((VA_s1 h) q hq), fun q hq => (fa.2.2.2.1 710 rfl q).trans ((VA_s2 h) q hq), fun q hq => (fa.1 700 rfl q).trans ((VA_iS h) q hq), ?_, fun p hp => (fa.1 500 rfl p).trans ((VA_no h) p (by rw [fa.2.2.2.2.2.2.2.1 rfl] at hp; exact hp)), ?_, ?_, ?_, ?_, ?_, ?_, ?_, ?_, ?_, ?_, ?_, ?_⟩
    · rw [← ha, gI_ws]
    · rw [hgM]; exact ⟨hq, (VA_gm h).2⟩
    · intro p hp
      rw [h501, ← hs, gI_wf (by decide), gI_wf (by decide), gI_wf (by decide)]
      by_cases c : p = m_N M
      · rw [c, up_s, gI_ws]
      · rw [up_n c, gI_wIi c]; exact VA_df h p (by omega)
    · intro p hp
      rw [h502, ← hs, gI_wf (by decide), gI_wf (by decide)]
      by_cases c : p = m_N M
      · rw [c, up_s, gI_ws]; rfl
      · rw [up_n c, gI_wIi c, gI_wf (by decide)]; exact VA_ss h p (by omega)
    · intro p hp
      rw [h503, ← hs, gI_wf (by decide)]
      by_cases c : p = m_N M
      · rw [c, up_s, gI_ws]
      · rw [up_n c, gI_wIi c, gI_wf (by decide), gI_wf (by decide)]; exact VA_at h p (by omega)
    · intro p hp
      rw [h504, ← hs]
      by_cases c : p = m_N M
      · rw [c, up_s, gI_ws]
      · rw [up_n c, gI_wIi c, gI_wf (by decide), gI_wf (by decide), gI_wf (by decide)]; exact VA_wr h p (by omega)
    · intro p hp
      by_cases c : p = m_N M
      · rw [c, up_s]
      · rw [up_n c]; exact (fa.1 508 rfl p).trans (VA_ke h p (by omega))
    · intro p hp
      by_cases c : p = m_N M
      · rw [c, up_s]
      · rw [up_n c]; exact (fa.1 510 rfl p).trans (VA_si h p (by omega))
    · intro p hp
      by_cases c : p = m_N M
      · rw [c, up_s]
      · rw [up_n c]; exact (fa.1 512 rfl p).trans (VA_ao h p (by omega))
    · intro p hp hw
      by_cases c : p = m_N M
      · rw [c, up_s] at hw; omega
      · rw [up_n c] at hw
        have e : gI a1 511 p = gI a 511 p := by
          rw [← ha, gI_wf (by decide), gI_wIi c]
          exact (u2.1 511 rfl p).trans ((v2.1 511 rfl p).trans (f0.1 511 rfl p))
        rw [e]; exact VA_wh h p (by omega) hw
    · intro p hp i hi
      rw [hVs]
      by_cases c : p = m_N M
      · rw [c, up_s]; exact v3 i (by omega) hi
      · rw [up_n c, v4 p i (fun z => c z.1), f0.2.2.2.2.2.1 rfl]; exact VA_vl h p (by omega) i hi
    · intro p hp i hi
      rw [hUs]
      by_cases c : p = m_N M
      · rw [c, up_s]; exact u3 i (by omega) hi
      · rw [up_n c, u4 p i (fun z => c z.1), v2.2.2.2.2.2.2.1 rfl, f0.2.2.2.2.2.2.1 rfl]; exact VA_un h p (by omega) i hi
    · intro ρ hρ
      exact ln_congr (fa.2.2.2.2.1 600 rfl _) (fa.1 601 rfl _) (fun x hx => h509 x (by have := hm ρ hρ x hx; omega)) (fun x hx => h507 x (by have := hm ρ hρ x hx; omega)) (by rw [hgM]; exact Nat.le_refl _) (VA_li h ρ hρ)
    · intro p hp hn
      by_cases c : p = m_N M
      · rw [c]; exact h5N
      · rw [h507 p c]; exact VA_nw h p (by omega) hn
/-- the program's new process -/
theorem addP_ok {rm : Nat → Nat} {a : ts} {M : Md} {d e : Nat} (h : VA rm a M) (hm : Mm M) (hN : m_N M < 300) : ∃ a1 x y z, cO_add (nI d) (nI e) a = some (some (m_N M), a1) ∧ VA rm a1 (mNew M d e 7 x y z) := by
  have hg := VA_gm h
  have e1 : cO_isFull a = some (0, a) := by
    unfold cO_isFull
    rw [VA_N h, if_pos (show nI (m_N M) < (300 : Int32) from nI_lt (b := 300) hN (by decide))]
  unfold cO_add
  rw [e1, Option.bind_some]
  dsimp only
  rw [if_pos rfl, VA_N h, if_pos (nI_idx hN (by decide)), nI_clamp (by omega)]
  by_cases c : m_N M < gM a
  · obtain ⟨a1, x, y, z, h1, h2, _⟩ := cl_beg (d := d) (e := e) h hm c
    exact ⟨a1, x, y, z, by rw [if_pos c]; exact h1, h2⟩
  · have c2 : m_N M = gM a := by omega
    have z := cl_mk h hm c2 (by omega)
    obtain ⟨a1, x, y, z, h1, h2, _⟩ := cl_beg (d := d) (e := e) z hm (by rw [c2]; exact ts_mk_lt)
    refine ⟨a1, x, y, z, ?_, h2⟩
    rw [if_neg c, if_pos ⟨nI_idx hN (by decide), c2⟩, ← c2]; exact h1
theorem any_nI (x : Int32) : ∃ n, 2 ^ 32 ≤ n ∧ x = nI n := by
  refine ⟨x.toBitVec.toNat + 2 ^ 32, by omega, ?_⟩
  apply Int32.toBitVec_inj.mp
  unfold nI
  rw [Int32.toBitVec_ofNat']
  apply BitVec.eq_of_toNat_eq
  rw [BitVec.toNat_ofNat]
  have := x.toBitVec.isLt
  omega
theorem fresh_lp {q : Nat} {t : Int32} (hq : q < 300) : ∀ (k i F : Nat) (b : ts), i + k = 8 → k < F → ∃ b1, cR_fresh_52 F t (nI q) (nI i) b = (cR_calendar (nI q) 0 t b1).bind (fun s2 => some (nI q, s2)) ∧ fr [2127, 2128] b b1 ∧ (∀ j, i ≤ j → j < 8 → gA b1 127 (8 * q + j) = 0 ∧ gA b1 128 (8 * q + j) = 0) ∧ (∀ m, ¬ (8 * q + i ≤ m ∧ m < 8 * q + 8) → gA b1 127 m = gA b 127 m ∧ gA b1 128 m = gA b 128 m) := by
  intro k
  induction k with
  | zero =>
    intro i F b hk hF
    obtain ⟨F0, rfl⟩ : ∃ F0, F = F0 + 1 := ⟨F - 1, by omega⟩
    have e : i = 8 := by omega
    subst e
    refine ⟨b, ?_, fr_rf, fun j h1 h2 => by omega, fun _ _ => ⟨rfl, rfl⟩⟩
    show cR_fresh_52_b (cR_fresh_52 F0) t (nI q) (nI 8) b = _
    unfold cR_fresh_52_b
    rw [if_pos (by decide)]
  | succ k ih =>
    intro i F b hk hF
    obtain ⟨F0, rfl⟩ : ∃ F0, F = F0 + 1 := ⟨F - 1, by omega⟩
    obtain ⟨b1, h1, h2, h3, h4⟩ := ih (i + 1) F0 (wA (wA b 127 (8 * q + i) 0) 128 (8 * q + i) 0) (by omega) (by omega)
    have g1 : ∀ m, ¬ m = 8 * q + i → gA (wA (wA b 127 (8 * q + i) 0) 128 (8 * q + i) 0) 127 m = gA b 127 m ∧ gA (wA (wA b 127 (8 * q + i) 0) 128 (8 * q + i) 0) 128 m = gA b 128 m := fun m hm => by
      rw [gA_wf (by decide), gA_wn hm, gA_wn hm, gA_wf (by decide)]; exact ⟨rfl, rfl⟩
    refine ⟨b1, ?_, fr_tr (fr_wA (fr_wA fr_rf rfl) rfl) h2, fun j h5 h6 => ?_, fun m hm => ?_⟩
    · show cR_fresh_52_b (cR_fresh_52 F0) t (nI q) (nI i) b = _
      unfold cR_fresh_52_b
      rw [if_neg (show ¬ (8 : Int32) ≤ nI i from nI_ge (b := 8) (by omega) (by decide)), show (8 : Int32) * nI q + nI i = nI (8 * q + i) by rw [show (8 : Int32) = nI 8 from rfl, pk_mul, nI_add], if_pos (nI_idx (by omega) (by decide)), nI_clamp (by omega), nI_1]
      exact h1
    · by_cases c : j = i
      · have z := h4 (8 * q + j) (by omega)
        rw [z.1, z.2, c, gA_wf (by decide), gA_ws, gA_ws]; exact ⟨rfl, rfl⟩
      · exact h3 j (by omega) h6
    · have z := h4 m (by omega)
      rw [z.1, z.2]; exact g1 m (by omega)
theorem rc_new {rm : Nat → Nat} {b : ts} {M : Md} {d e : Nat} {t z : Int32} (h : VB rm b M) (hm : Mm M) (hN : m_N M < 300) (hd : d < 12) (he : gA b 97 d = nI e) : ∃ b1 s x, cR_fresh (nI d) t b = some (nI (m_N M), b1) ∧ VB rm b1 (mPut (mNew M d e s x 0 z) (m_N M) 0 t) := by
  generalize hs : wA (wA (wA (wA (wI b 1155 0 (nI (m_N M + 1))) 119 (m_N M) (nI d)) 121 (m_N M) (nI e)) 126 (m_N M) 0) 125 (m_N M) (-2) = s0
  have f0 : fr [1155, 2119, 2121, 2125, 2126] b s0 := by rw [← hs]; exact fr_wA (fr_wA (fr_wA (fr_wA (fr_wI fr_rf rfl) rfl) rfl) rfl) rfl
  obtain ⟨s1, u1, u2, u3, u4⟩ := fresh_lp (q := m_N M) (t := t) hN 8 0 tm_N s0 (by omega) (by unfold tm_N; omega)
  have fa : fr [1155, 2119, 2121, 2125, 2126, 2127, 2128] b s1 := fr_tr (fr_mono (by decide) f0) (fr_mono (by decide) u2)
  obtain ⟨s, hs32, es⟩ := any_nI (gA s1 120 (m_N M))
  have hmem : ∀ ρ, ρ < 30 → ∀ x, x ∈ m_R M ρ → ¬ x = m_N M := fun ρ hρ x hx => by have := hm ρ hρ x hx; omega
  have zV : VB rm s1 (mNew M d e s (gA s1 124 (m_N M)) 0 z) := by
    unfold VB rb
    simp only [p_mNew]
    refine ⟨⟨(fa.1 1110 rfl 0).trans (VB_nr h).1, (VB_nr h).2⟩, fun r hr => (fa.2.1 90 rfl r).trans ((VB_r0 h) r hr), fun s hs => (fa.2.1 93 rfl s).trans ((VB_r1 h) s hs), (fa.1 1152 rfl 0).trans (VB_tm h), (fa.1 1158 rfl 0).trans (VB_sd h), fun i hi => (fa.2.1 118 rfl i).trans ((VB_nu h) i hi), (fa.1 1153 rfl 0).trans (VB_st h), (fa.1 1154 rfl 0).trans (VB_tn h), ?_, (fa.1 1156 rfl 0).trans (VB_en h), (fa.1 1157 rfl 0).trans (VB_wg h), (fa.1 1161 rfl 0).trans (VB_tc h), fun k h1 h2 => ⟨(fa.2.1 116 rfl k).trans ((VB_tt h) k h1 h2).1, (fa.2.1 117 rfl k).trans ((VB_tt h) k h1 h2).2⟩, (fa.1 1159 rfl 0).trans (VB_am h), fun q hq => (fa.2.1 129 rfl q).trans ((VB_th h) q hq), fun q hq => (fa.2.1 130 rfl q).trans ((VB_sv h) q hq), fun q hq => (fa.2.1 131 rfl q).trans ((VB_lt h) q hq), fun q hq => (fa.2.1 132 rfl q).trans ((VB_mb h) q hq), fun q hq => (fa.2.2.1 133 rfl q).trans ((VB_s0 h) q hq), fun q hq => (fa.2.2.1 134 rfl q).trans ((VB_s1 h) q hq), fun q hq => (fa.2.2.1 135 rfl q).trans ((VB_s2 h) q hq), ?_, ?_, ?_, ?_, ?_, (fa.2.2.2.1 1160 rfl 0).trans (VB_P h), ?_, ?_, ?_, ?_, ?_, ?_, aw1_fr (VB_aw h) fa rfl rfl⟩
    · rw [u2.1 1155 rfl, ← hs]
      show gI (wI b 1155 0 (nI (m_N M + 1))) 1155 0 = _
      rw [gI_ws]
    · intro p hp
      rw [u2.2.1 119 rfl, ← hs, gA_wf (by decide), gA_wf (by decide), gA_wf (by decide)]
      by_cases c : p = m_N M
      · rw [c, up_s, gA_ws]
      · rw [up_n c, gA_wn c]; exact VB_df h p (by omega)
    · intro p hp
      by_cases c : p = m_N M
      · rw [c, up_s]; exact es
      · rw [up_n c]; exact (fa.2.1 120 rfl p).trans (VB_ss h p (by omega))
    · intro p hp
      rw [u2.2.1 121 rfl, ← hs, gA_wf (by decide), gA_wf (by decide)]
      by_cases c : p = m_N M
      · rw [c, up_s, gA_ws]
      · rw [up_n c, gA_wn c, gA_wf (by decide)]; exact VB_at h p (by omega)
    · intro p hp hS
      by_cases c : p = m_N M
      · rw [c, up_s] at hS; omega
      · rw [up_n c] at hS ⊢; exact (fa.2.1 122 rfl p).trans (VB_du h p (by omega) hS)
    · intro p hp hS
      by_cases c : p = m_N M
      · rw [c, up_s] at hS; omega
      · rw [up_n c] at hS; exact (fa.2.2.1 123 rfl p).trans (VB_pa h p (by omega) hS)
    · intro p hp
      by_cases c : p = m_N M
      · rw [c, up_s]
      · rw [up_n c]; exact (fa.2.1 124 rfl p).trans (VB_si h p (by omega))
    · intro p hp hS
      by_cases c : p = m_N M
      · rw [c, up_s] at hS; omega
      · rw [up_n c] at hS
        rw [u2.2.1 125 rfl, ← hs, gA_wn c, gA_wf (by decide), gA_wf (by decide), gA_wf (by decide)]; exact VB_wh h p (by omega) hS
    · intro p hp
      rw [u2.2.1 126 rfl, ← hs, gA_wf (by decide)]
      by_cases c : p = m_N M
      · rw [c, up_s, gA_ws]
      · rw [up_n c, gA_wn c, gA_wf (by decide), gA_wf (by decide)]; exact VB_wr h p (by omega)
    · intro p hp i hi
      by_cases c : p = m_N M
      · rw [c, up_s]; exact (u3 i (by omega) hi).1
      · rw [up_n c, (u4 (8 * p + i) (by omega)).1, f0.2.1 127 rfl]; exact VB_vl h p (by omega) i hi
    · intro p hp i hi
      by_cases c : p = m_N M
      · rw [c, up_s]; exact (u3 i (by omega) hi).2
      · rw [up_n c, (u4 (8 * p + i) (by omega)).2, f0.2.1 128 rfl]; exact VB_un h p (by omega) i hi
    · intro ρ hρ
      have em : (m_R M ρ).map (fun x => (x, if ρ < 8 then up (m_K M) (m_N M) 0 x else up (m_A M) (m_N M) z x)) = rb M ρ := by
        unfold rb
        refine List.map_congr_left (fun x hx => ?_)
        rw [up_n (hmem ρ (by omega) x hx), up_n (hmem ρ (by omega) x hx)]
      rw [em]; exact rw1_fr (VB_ro h ρ hρ) fa rfl rfl rfl
  obtain ⟨b1, y1, y2⟩ := rc_put (p := m_N M) (s := 0) (t := t) zV (by simp only [p_mNew]; omega) (by simp only [p_mNew]; omega) (fun ρ h1 h2 h3 => by simp only [p_mNew] at h3; exact hmem ρ h1 _ h3 rfl) (by omega)
  refine ⟨b1, s, gA s1 124 (m_N M), ?_, y2⟩
  have u1 : cR_fresh_52 tm_N t (nI (m_N M)) 0 s0 = _ := u1
  have y1 : cR_calendar (nI (m_N M)) 0 t s1 = some b1 := y1
  have e97 : gA (wA (wI b 1155 0 (nI (m_N M + 1))) 119 (m_N M) (nI d)) 97 d = nI e := by rw [gA_wf (by decide)]; exact he
  unfold cR_fresh
  rw [VB_N h, if_pos (nI_idx hN (by decide)), if_pos (nI_idx hd (by decide)), nI_clamp (by omega), nI_clamp (by omega), nI_1, e97, hs, u1, y1, Option.bind_some]
theorem new_put {M : Md} {d e s s' i : Nat} {x x' y y' z t : Int32} : mPut (mNew M d e s x y z) (m_N M) i t = mPut (mNew M d e s' x' y' z) (m_N M) i t := by
  refine Md_ext ?_ ?_ ?_ ?_ ?_ ?_ ?_ ?_ ?_ ?_ ?_ ?_ ?_ ?_ ?_ ?_ ?_ ?_ ?_ ?_ ?_ ?_ ?_ ?_ ?_ ?_ ?_ ?_ ?_ ?_ ?_ ?_ ?_ ?_ <;> simp only [p_mPut, p_mNew]
  · rw [up_up, up_up]
  · rw [ins_cg (K := m_K M) (fun x hx => up_n (mem_rem.mp hx).2), ins_cg (K := m_K M) (fun x hx => up_n (mem_rem.mp hx).2)]
  · rw [up_up, up_up]
  · rw [up_up, up_up]
theorem Inv_new {rm : Nat → Nat} {M : Md} {d e : Nat} {x y z : Int32} (h : Inv rm M none) (hN : m_N M < 300) : Inv rm (mNew M d e 5 x y z) none := by
  have hmem : ∀ ρ, ρ < 30 → ∀ x, x ∈ m_R M ρ → ¬ x = m_N M := fun ρ hρ x hx => by have := (Inv_me h ρ hρ x hx).1; omega
  have hsu : ∀ q, su (up (m_U M) (m_N M) (fun _ => 0)) q (m_N M + 1) = su (m_U M) q (m_N M) := fun q => by
    show su (up (m_U M) (m_N M) (fun _ => 0)) q (m_N M) + up (m_U M) (m_N M) (fun _ => 0) (m_N M) q = _
    rw [up_s, su_congr (U := m_U M) (fun p hp => by rw [up_n (show ¬ p = m_N M by omega)]), Nat.add_zero]
  unfold Inv
  simp only [p_mNew]
  refine ⟨⟨by omega, (Inv_N h).2⟩, Inv_nd h, fun ρ hρ x hx => ?_, Inv_di h, fun x hx => ?_, fun _ z => (by cases z), ⟨(Inv_ca h).1.imp_of_mem (fun {x y} hx hy z => ?_), fun x hx => ?_⟩, fun ρ hρ => (Inv_so h ρ hρ).imp_of_mem (fun {x y} hx hy z => ?_), fun ρ h1 h2 h3 x hx => ?_, fun q hq => ?_, Inv_mw h, fun x hx h7 => ?_, fun x hx => ?_⟩
  · rw [up_n (hmem ρ hρ x hx)]
    exact ⟨by have := (Inv_me h ρ hρ x hx).1; omega, (Inv_me h ρ hρ x hx).2⟩
  · by_cases c : x = m_N M
    · rw [c, up_s]; exact ⟨by omega, fun z => by omega⟩
    · rw [up_n c]; exact Inv_co h x (by omega)
  · unfold clt
    rw [up_n (hmem 28 (by omega) x hx), up_n (hmem 28 (by omega) y hy)]; exact z
  · rw [up_n (hmem 28 (by omega) x hx)]; exact (Inv_ca h).2 x hx
  · rw [up_n (hmem ρ (by omega) x hx), up_n (hmem ρ (by omega) y hy)]; exact z
  · rw [up_n (hmem ρ h2 x hx)]; exact Inv_k0 h ρ h1 h2 h3 x hx
  · rw [hsu q]; exact Inv_re h q hq
  · by_cases c : x = m_N M
    · rw [c, up_s] at h7; omega
    · rw [up_n c] at h7; exact (Inv_am h).1 x (by omega) h7
  · have := (Inv_am h).2 x hx; omega
/-- values, one behind the other -/
def vals (M : Md) (q : Nat) (f : Nat → Int32) : Nat → Md
  | 0 => M
  | n + 1 => mVal (vals M q f n) q n (f n)
theorem vals_put {M : Md} {q s : Nat} {t : Int32} {f : Nat → Int32} : ∀ n, mPut (vals M q f n) q s t = vals (mPut M q s t) q f n
  | 0 => rfl
  | n + 1 => by
    show mPut (mVal (vals M q f n) q n (f n)) q s t = mVal (vals (mPut M q s t) q f n) q n (f n)
    rw [← vals_put n]
    refine Md_ext ?_ ?_ ?_ ?_ ?_ ?_ ?_ ?_ ?_ ?_ ?_ ?_ ?_ ?_ ?_ ?_ ?_ ?_ ?_ ?_ ?_ ?_ ?_ ?_ ?_ ?_ ?_ ?_ ?_ ?_ ?_ ?_ ?_ ?_ <;> simp only [p_mPut, p_mVal]
