/-! STATEMENTS AT WORK: what holds before and behind one, on both sides. -/
def lenq (M : Md) (q : Nat) : Nat := (m_R M q).length + (m_R M (14 + q)).length
def Bs (rm : Nat → Nat) (G : List Ln) (l p : Nat) (M : Md) : Prop := Inv rm M none ∧ Jv rm M ∧ (∀ q, q < 14 → m_mw M q = m_mb M q) ∧ p < m_N M ∧ m_S M p = 7 ∧ m_am M = some p ∧ m_T M p = l + 1 ∧ m_Lr M p = l + 1 ∧ l + 1 < G.length
def Sy (rm : Nat → Nat) (G : List Ln) (nd k l p : Nat) (M M1 : Md) : Prop :=
  (m_N M ≤ m_N M1 ∧ m_tm M1 = m_tm M ∧ m_tc M1 ≤ m_tc M + 1 ∧ m_am M1 = m_am M ∧ m_P M1 ≤ m_P M + k ∧ m_D M1 p = m_D M p)
  ∧ (∀ y, y < m_N M → ¬ y = p → (m_T M1 y = m_T M y ∧ m_Lr M1 y = m_Lr M y ∧ m_D M1 y = m_D M y) ∧ (m_S M1 y = m_S M y ∨ (m_S M y ≤ 3 ∧ m_S M1 y = 0) ∨ m_S M1 y = 5 ∨ m_S M1 y = 6) ∧ ((m_S M y = 5 ∨ m_S M y = 6) → m_S M1 y = m_S M y))
  ∧ (∀ y, m_N M ≤ y → y < m_N M1 → m_S M1 y = 0 ∧ m_T M1 y = m_Lr M1 y ∧ m_Lr M1 y < G.length ∧ m_D M1 y < nd)
  ∧ Jv rm M1
  ∧ (∀ q, q < 14 → m_mw M1 q = max (m_mb M1 q) (lenq M1 q))
  ∧ ((m_S M1 p = 5 ∨ m_S M1 p = 6) ∨ (m_S M1 p = 4 ∧ m_T M1 p = l + 1 ∧ m_Lr M1 p = l + 1 ∧ ∃ n, G[l]? = some n ∧ n.1 = 525) ∨ ((m_S M1 p ≤ 3 ∨ m_S M1 p = 7) ∧ m_T M1 p = m_Lr M1 p ∧ m_Lr M1 p < G.length))
theorem mw_mb {rm : Nat → Nat} {M : Md} (hI : Inv rm M none) (h : ∀ q, q < 14 → m_mw M q = m_mb M q) : ∀ q, q < 14 → m_mw M q = max (m_mb M q) (lenq M q) := fun q hq => by
  have z := (Inv_mw hI q hq).1
  rw [wl_none, wl_none] at z
  rw [← h q hq]
  unfold lenq
  omega
theorem Sy_Qt {rm : Nat → Nat} {G : List Ln} {nd k l p : Nat} {M M1 : Md} (hb : Bs rm G l p M) (hq : Qt k M M1) (hI : Inv rm M1 none) : Sy rm G nd k l p M M1 := by
  obtain ⟨b1, b2, b3, b4, b5, b6, b7, b8, b9⟩ := hb
  have hJ := Jv_Qt b2 hq
  obtain ⟨⟨a1, a2, a3, a4, a5, a6, a7, a8, a9⟩, c, d, e, f⟩ := hq
  refine ⟨⟨by omega, a5, by omega, a7, c, by rw [a4]⟩, fun y hy hyp => ⟨⟨by rw [a2], by rw [a3], by rw [a4]⟩, ?_, ?_⟩, fun y h1 h2 => by omega, hJ, mw_mb hI (fun q hq => by rw [a8, a9]; exact b3 q hq), Or.inr (Or.inr ?_)⟩
  · have := d y hy; omega
  · have := d y hy; omega
  · have := d p b4
    rw [a2, a3, b7, b8]
    exact ⟨by omega, rfl, b9⟩
theorem Sy_Qf {rm : Nat → Nat} {G : List Ln} {nd k l p : Nat} {M M1 : Md} (hb : Bs rm G l p M) (hq : Qf k p M M1) (hI : Inv rm M1 none) : Sy rm G nd k l p M M1 := by
  obtain ⟨b1, b2, b3, b4, b5, b6, b7, b8, b9⟩ := hb
  obtain ⟨⟨a1, a2, a3, a4, a5, a6, a7, a8, a9⟩, c, d, e, f, g⟩ := hq
  refine ⟨⟨by omega, a5, by omega, a7, c, by rw [a4]⟩, fun y hy hyp => ⟨⟨by rw [a2], by rw [a3], by rw [a4]⟩, ?_, ?_⟩, fun y h1 h2 => by omega, Jv_rows b2 g, mw_mb hI (fun q hq => by rw [a8, a9]; exact b3 q hq), Or.inl d⟩
  · have := e y hy hyp; omega
  · have := e y hy hyp; omega
theorem Sy_Qf2 {rm : Nat → Nat} {G : List Ln} {nd k l p z : Nat} {M M1 : Md} (hb : Bs rm G l p M) (hq : Qf k z M M1) (hz : ¬ p = z) (hzs : m_S M z ≠ 5 ∧ m_S M z ≠ 6) (hI : Inv rm M1 none) : Sy rm G nd k l p M M1 := by
  obtain ⟨b1, b2, b3, b4, b5, b6, b7, b8, b9⟩ := hb
  obtain ⟨⟨a1, a2, a3, a4, a5, a6, a7, a8, a9⟩, c, d, e, f, g⟩ := hq
  refine ⟨⟨by omega, a5, by omega, a7, c, by rw [a4]⟩, fun y hy hyp => ⟨⟨by rw [a2], by rw [a3], by rw [a4]⟩, ?_, ?_⟩, fun y h1 h2 => by omega, Jv_rows b2 g, mw_mb hI (fun q hq => by rw [a8, a9]; exact b3 q hq), Or.inr (Or.inr ?_)⟩
  · by_cases c1 : y = z
    · rw [c1]; omega
    · have := e y hy c1; omega
  · intro h56
    by_cases c1 : y = z
    · rw [c1] at h56; omega
    · have := e y hy c1; omega
  · have := e p b4 hz
    rw [a2, a3, b7, b8]
    exact ⟨by omega, rfl, b9⟩
def Qw (k : Nat) (M M1 : Md) : Prop := (m_N M1 = m_N M ∧ m_T M1 = m_T M ∧ m_Lr M1 = m_Lr M ∧ m_D M1 = m_D M ∧ m_tm M1 = m_tm M ∧ m_tc M1 = m_tc M ∧ m_am M1 = m_am M ∧ m_mw M1 = m_mw M ∧ m_mb M1 = m_mb M) ∧ m_P M1 ≤ m_P M + k ∧ (∀ y, y < m_N M → m_S M1 y = m_S M y ∨ (2 ≤ m_S M y ∧ m_S M y ≤ 3 ∧ m_S M1 y = 0))
theorem Qw_of {k : Nat} {M M1 : Md} (h : Qt k M M1) : Qw k M M1 := ⟨h.1, h.2.1, h.2.2.1⟩
theorem Qw_tr {M M1 M2 : Md} {k j : Nat} (h : Qw k M M1) (g : Qw j M1 M2) : Qw (k + j) M M2 := by
  obtain ⟨⟨a1, a2, a3, a4, a5, a6, a7, a8, a9⟩, b, c⟩ := h
  obtain ⟨⟨e1, e2, e3, e4, e5, e6, e7, e8, e9⟩, f, g⟩ := g
  refine ⟨⟨e1.trans a1, e2.trans a2, e3.trans a3, e4.trans a4, e5.trans a5, e6.trans a6, e7.trans a7, e8.trans a8, e9.trans a9⟩, by omega, fun y hy => ?_⟩
  have g := g y (by rw [a1]; exact hy)
  have c := c y hy
  omega
theorem Sy_wait {rm : Nat → Nat} {G : List Ln} {nd k l p s q : Nat} {M N : Md} (hb : Bs rm G l p M) (hq : Qw k M N) (hs : s = 2 ∨ s = 3) (hI : Inv rm (mMw (mWt N p s q) q (max (m_mw N q) (lenq N q))) none) (hJ : Jv rm N) : Sy rm G nd k l p M (mMw (mWt N p s q) q (max (m_mw N q) (lenq N q))) := by
  obtain ⟨b1, b2, b3, b4, b5, b6, b7, b8, b9⟩ := hb
  obtain ⟨⟨a1, a2, a3, a4, a5, a6, a7, a8, a9⟩, c, d⟩ := hq
  have hmw := Inv_mw hI
  unfold Sy
  simp only [p_mMw, p_mWt] at hmw ⊢
  refine ⟨⟨by omega, a5, by omega, a7, c, by rw [a4]⟩, fun y hy hyp => ⟨⟨by rw [a2], by rw [a3], by rw [a4]⟩, ?_, ?_⟩, fun y h1 h2 => by omega, ?_, fun q1 hq1 => ?_, Or.inr (Or.inr ?_)⟩
  · rw [up_n hyp]; have := d y hy; omega
  · rw [up_n hyp]; have := d y hy; omega
  · unfold Jv
    simp only [p_mMw, p_mWt]
    exact hJ
  · have el : lenq (mMw (mWt N p s q) q (max (m_mw N q) (lenq N q))) q1 = lenq N q1 := by
      unfold lenq
      simp only [p_mMw, p_mWt]
    rw [el]
    by_cases c1 : q1 = q
    · rw [c1, up_s, a8, a9, b3 q (c1 ▸ hq1)]
    · have z := (hmw q1 hq1).1
      rw [up_n c1, wl_none, wl_none] at z
      rw [up_n c1]
      have e1 : m_mw N q1 = m_mb N q1 := by rw [a8, a9]; exact b3 q1 hq1
      rw [← e1]
      unfold lenq
      omega
  · rw [up_s, a2, a3, b7, b8]
    exact ⟨by omega, rfl, b9⟩
theorem jn_Qw {M : Md} {ρ p : Nat} {v : Int32} : Qw 0 M (mJn M ρ p v) := by
  unfold Qw
  simp only [p_mJn]
  exact ⟨⟨trivial, trivial, trivial, trivial, trivial, trivial, trivial, trivial, trivial⟩, Nat.le_refl _, fun _ _ => Or.inl trivial⟩
theorem Inv_take {rm : Nat → Nat} {M : Md} {p r : Nat} (h : Inv rm M none) (hp : p < m_N M) (hr : r < 8) (hs : su (m_U M) r (m_N M) < rm r) : Inv rm (mServ (mU (mTh M r (nI (rm r - su (m_U M) r (m_N M) - 1))) p r (m_U M p r + 1)) r) none := by
  refine Inv_serv ?_
  unfold Inv
  simp only [p_mU, p_mTh]
  obtain ⟨h1, h2, h3, h4, h5, h6, h7, h8, h9, h10, h11, h12⟩ := h
  refine ⟨h1, h2, h3, h4, h5, h6, h7, h8, h9, fun q hq => ?_, h11, h12⟩
  by_cases c : q = r
  · subst c
    have e := su_up (U := m_U M) (q := q) (p := p) (v := m_U M p q + 1) hp
    have e2 : su (up2 (m_U M) p q (m_U M p q + 1)) q (m_N M) = su (m_U M) q (m_N M) + 1 := by omega
    rw [e2, up_s]
    refine ⟨by omega, by rw [Nat.sub_sub], fun hne => ?_⟩
    have := (h10 q hq).2.2 hne
    omega
  · rw [up_n c, su_o c]; exact h10 q hq
theorem seize_ok {rm : Nat → Nat} {G : List Ln} {nd l p r : Nat} {v : Int32} {a b : ts} {M : Md} (hrm : RMk rm) (hb : Bs rm G l p M) (hA : VA rm a M) (hB : VB rm b M) (hr : r < rm 14) : ∃ a1 b1 M1, cO_seize p (nI r) v a = some a1 ∧ cR_seize (nI p) (nI r) v b = some b1 ∧ VA rm a1 M1 ∧ VB rm b1 M1 ∧ Inv rm M1 none ∧ Sy rm G nd 0 l p M M1 := by
  have hb0 := hb
  obtain ⟨hI, hJ, hmb, hp, hS, ham, hT, hL, hG⟩ := hb
  have hr8 : r < 8 := by have := hrm.2.2.2.2; omega
  have hN := (Inv_N hI).1
  have hre := Inv_re hI r hr8
  have hrk := hrm.1 r hr8
  have hpM : p < gM a := Nat.lt_of_lt_of_le hp (VA_gm hA).1
  have hn := none_in hI (p := p) (by omega)
  by_cases c : su (m_U M) r (m_N M) < rm r
  · have e1 : m_th M r - 1 = nI (rm r - su (m_U M) r (m_N M) - 1) := by
      rw [hre.2.1]; exact pk_sub (b := 1) (by omega)
    have z1 := cl_sv (q := r) (cl_U (p := p) (r := r) (v := m_U M p r + 1) (cl_th (q := r) (v := nI (rm r - su (m_U M) r (m_N M) - 1)) hA)) (by omega)
    have z2 := rc_sv (q := r) (rc_U (p := p) (r := r) (v := m_U M p r + 1) (rc_th (q := r) (v := nI (rm r - su (m_U M) r (m_N M) - 1)) hB) hr8) (by omega)
    have hI1 := Inv_take hI hp hr8 c
    refine ⟨_, _, _, ?_, ?_, z1, z2, hI1, Sy_Qt hb0 ?_ hI1⟩
    · have e2 : gU (wI a 703 r (nI (rm r - su (m_U M) r (m_N M) - 1))) p r = nI (m_U M p r) := by have x0 := VA_un hA p hp r hr8; exact x0
      unfold cO_seize
      rw [placeAt_ok (by omega), Option.bind_some]
      dsimp only
      rw [if_pos (show nI r < (8 : Int32) from nI_lt (b := 8) hr8 (by decide)), if_pos (by omega), VA_th hA r (by omega), if_neg (by rw [hre.2.1]; exact nI_nle (by omega) (by omega)), if_pos hpM, if_pos (nI_idx hr8 (by decide)), nI_clamp (by omega), e1, e2, nI_1]
    · have e2 : gA (wA b 129 r (nI (rm r - su (m_U M) r (m_N M) - 1))) 128 (8 * p + r) = nI (m_U M p r) := by have x0 := VB_un hB p hp r hr8; exact x0
      unfold cR_seize
      rw [if_pos (nI_idx (by omega) (by decide)), nI_clamp (by omega), VB_th hB r (by omega), if_neg (by rw [hre.2.1]; exact nI_nle (by omega) (by omega)), show (8 : Int32) * nI p + nI r = nI (8 * p + r) by rw [show (8 : Int32) = nI 8 from rfl, pk_mul, nI_add], if_pos (nI_idx (by omega) (by decide)), nI_clamp (by omega), e1, e2, nI_1]
    · unfold Qt
      simp only [p_mServ, p_mU, p_mTh]
      exact ⟨⟨trivial, trivial, trivial, trivial, trivial, trivial, trivial, trivial, trivial⟩, Nat.le_refl _, fun _ _ => Or.inl trivial, trivial, fun _ _ _ h => h⟩
  · have hsu : su (m_U M) r (m_N M) = rm r := by omega
    have hth : m_th M r = 0 := by rw [hre.2.1, hsu, Nat.sub_self]; rfl
    have hIp := Inv_in hI hp hS
    have hIj := Inv_jn (ρ := r) (v := v) hIp hn (by omega) (by omega) (fun z => by omega) (fun _ => hsu)
    obtain ⟨a1, y1, y2, _⟩ := cl_join (ρ := r) (k := v) hA (Di_of hI) hp hn (by omega) (fun x hx => (Inv_me hI r (by omega) x hx).1)
    rw [lno_a (by omega)] at y1
    have h2l := two_len hIj (q := r) (by omega)
    have hmem : p ∈ m_R (mJn M r p v) r := by
      simp only [p_mJn]
      rw [up_s, mem_ins]; exact Or.inl rfl
    have hIo := Inv_own (q := r) (s := 2) hIj hmem (by omega) (Or.inl ⟨hr8, rfl, rfl⟩) (by omega) (Or.inl rfl)
    obtain ⟨a2, w1, w2⟩ := makeWait_ok (p := p) (s := 2) (q := r) y2 (by simp only [p_mJn]; exact hp) (by omega) (by omega) ((Inv_mw hIj r (by omega)).2)
    have hso := Inv_so hI r hr8
    have ek : (if r < 8 then v else m_A M p) = v := if_pos hr8
    obtain ⟨b1, u1, u2⟩ := rc_jn (ρ := r) (k := v) hB hn (by omega) (row_short hI hp (hn r (by omega)) (by omega)) (by omega)
    rw [ek] at u1
    obtain ⟨b2, v1, v2⟩ := rc_Wt (p := p) (s := 2) (w := r) u2 (by simp only [p_mJn]; exact hN) (by simp only [p_mJn]; exact hp) (by omega)
    refine ⟨a2, b2, _, ?_, ?_, w2, rc_Mw v2, hIo, Sy_wait hb0 jn_Qw (Or.inl rfl) hIo ?_⟩
    · unfold cO_seize
      rw [placeAt_ok (by omega), Option.bind_some]
      dsimp only
      rw [if_pos (show nI r < (8 : Int32) from nI_lt (b := 8) hr8 (by decide)), if_pos (by omega), VA_th hA r (by omega), hth, if_pos (by decide), y1, Option.bind_some]
      have w1 : cO_makeWait p 2 (nI r) a1 = some a2 := w1
      rw [w1, Option.bind_some]
    · have h3 := VB_ro hB r (by omega)
      have e3 : rb M r = ((m_R M r).takeWhile (fun x => decide (¬ v < m_K M x))).map (fun x => (x, if r < 8 then m_K M x else m_A M x)) ++ ((m_R M r).dropWhile (fun x => decide (¬ v < m_K M x))).map (fun x => (x, if r < 8 then m_K M x else m_A M x)) := by
        unfold rb
        rw [← List.map_append, List.takeWhile_append_dropWhile]
      rw [e3] at h3
      have hsc := scan_ok (x := nI p) (v := v) (by omega) h3 (fun y hy => by
        obtain ⟨x, hx, e⟩ := List.mem_map.mp hy
        rw [← e]
        show v < if r < 8 then m_K M x else m_A M x
        rw [if_pos hr8]; exact dW_ge hso x hx) (fun y hy => by
        have hm := List.mem_of_getLast? hy
        obtain ⟨x, hx, e⟩ := List.mem_map.mp hm
        rw [← e]
        show ¬ v < if r < 8 then m_K M x else m_A M x
        rw [if_pos hr8]; exact tW_le hx)
      rw [List.length_map] at hsc
      unfold cR_seize
      rw [if_pos (nI_idx (by omega) (by decide)), nI_clamp (by omega), VB_th hB r (by omega), hth, if_pos (by decide), if_pos (nI_idx (by omega) (by decide)), hsc]
      unfold cR_seize_83
      rw [u1, Option.bind_some]
      have v1 : cR_waits (nI p) 2 (nI r) b1 = some b2 := v1
      rw [v1, Option.bind_some]
    · intro q h1 h2
      simp only [p_mJn]
      rw [up_n (by omega), up_n (by omega)]
      exact hJ q h1 h2
