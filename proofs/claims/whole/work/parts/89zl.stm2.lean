/-! STATEMENTS AT WORK: free, put, get, hold, await. -/
def fw (p : Nat) (w : Int32) (s : ts) : Option ts := if w = 0 then some s else cO_finish (some p) w s
theorem fw0 {p : Nat} {s : ts} : fw p (nI 0) s = some s := if_pos rfl
theorem fwn {p w : Nat} {s : ts} (h0 : 0 < w) (h : w < 10) : fw p (nI w) s = cO_finish (some p) (nI w) s := if_neg (nI_ne0 h0 (by omega))
/-- it goes wrong: both sides -/
theorem wrong_ok {rm : Nat → Nat} {G : List Ln} {nd l p w : Nat} {a b : ts} {M : Md} (hrm : RMk rm) (hb : Bs rm G l p M) (hA : VA rm a M) (hB : VB rm b M) (h0 : 0 < w) (hw : w < 10) : ∃ a1 b1 M1, fw p (nI w) a = some a1 ∧ cR_finish (nI p) (nI w) b = some b1 ∧ VA rm a1 M1 ∧ VB rm b1 M1 ∧ Inv rm M1 none ∧ Sy rm G nd 8300 l p M M1 := by
  obtain ⟨a1, b1, M1, h1, h2, h3, h4, h5, h6⟩ := finish_ok hrm hA hB hb.1 hb.2.1 hb.2.2.2.1 (by have := hb.2.2.2.2.1; omega) hw
  exact ⟨a1, b1, M1, by rw [fwn h0 hw]; exact h1, h2, h3, h4, h5, Sy_Qf hb h6 h5⟩
theorem Sy_mono {rm : Nat → Nat} {G : List Ln} {nd k j l p : Nat} {M M1 : Md} (h : Sy rm G nd k l p M M1) (hk : k ≤ j) : Sy rm G nd j l p M M1 := by
  obtain ⟨⟨a1, a2, a3, a4, a5, a6⟩, b⟩ := h
  exact ⟨⟨a1, a2, a3, a4, by omega, a6⟩, b⟩
theorem free_ok {rm : Nat → Nat} {G : List Ln} {nd l p r : Nat} {a b : ts} {M : Md} (hrm : RMk rm) (hb : Bs rm G l p M) (hA : VA rm a M) (hB : VB rm b M) (hr : r < rm 14) : ∃ w a0 a1 b1 M1, (cO_giveBack p (nI r) a).bind (fun x29 => (if x29.1 = ((0 : Int32)) then some ((3 : Int32), x29.2) else some ((0 : Int32), x29.2))) = some (nI w, a0) ∧ fw p (nI w) a0 = some a1 ∧ cR_free (nI p) (nI r) b = some b1 ∧ VA rm a1 M1 ∧ VB rm b1 M1 ∧ Inv rm M1 none ∧ Sy rm G nd 8300 l p M M1 := by
  have hb0 := hb
  obtain ⟨hI, hJ, hmb, hp, hS, ham, hT, hL, hG⟩ := hb
  have hr8 : r < 8 := by have := hrm.2.2.2.2; omega
  have hN := (Inv_N hI).1
  have hre := Inv_re hI r hr8
  have hrk := hrm.1 r hr8
  have hle := su_le (U := m_U M) (q := r) hp
  have hpM : p < gM a := Nat.lt_of_lt_of_le hp (VA_gm hA).1
  by_cases c : m_U M p r = 0
  · obtain ⟨a1, b1, M1, h1, h2, h3, h4, h5, h6⟩ := wrong_ok (nd := nd) (w := 3) hrm hb0 hA hB (by omega) (by omega)
    refine ⟨3, a, a1, b1, M1, ?_, h1, ?_, h3, h4, h5, h6⟩
    · have e : cO_giveBack p (nI r) a = some (0, a) := by
        unfold cO_giveBack
        rw [placeAt_ok (by omega), Option.bind_some]
        dsimp only
        rw [if_neg (show ¬ (8 : Int32) ≤ nI r from nI_ge (b := 8) hr8 (by decide)), if_pos hpM, if_pos (nI_idx hr8 (by decide)), nI_clamp (by omega), VA_un hA p hp r hr8, c, if_neg (by decide)]
      rw [e, Option.bind_some]; rfl
    · unfold cR_free
      have h2 : cR_finish (nI p) 3 b = some b1 := h2
      rw [show (8 : Int32) * nI p + nI r = nI (8 * p + r) by rw [show (8 : Int32) = nI 8 from rfl, pk_mul, nI_add], if_pos (nI_idx (by omega) (by decide)), nI_clamp (by omega), VB_un hB p hp r hr8, c, if_pos (show nI 0 = (0 : Int32) from rfl), h2, Option.bind_some]
  · obtain ⟨a1, b1, M1, h1, h2, h3, h4, h5, h6, _⟩ := give_ok hA hB hI hp hr8 (by omega) (by omega) hrk
    refine ⟨0, a1, a1, b1, M1, ?_, fw0, ?_, h3, h4, h5, Sy_mono (Sy_Qt hb0 h6 h5) (by omega)⟩
    · rw [h1, Option.bind_some]; rfl
    · have e1 : gA b 128 (8 * p + r) = nI (m_U M p r) := VB_un hB p hp r hr8
      have e2 : gA (wA b 128 (8 * p + r) (nI (m_U M p r - 1))) 129 r = m_th M r := by have x0 := VB_th hB r (by omega); exact x0
      unfold cR_free
      rw [show (8 : Int32) * nI p + nI r = nI (8 * p + r) by rw [show (8 : Int32) = nI 8 from rfl, pk_mul, nI_add], if_pos (nI_idx (by omega) (by decide)), nI_clamp (by omega), e1, if_neg (nI_ne0 (by omega) (by omega)), if_pos (nI_idx (by omega) (by decide)), nI_clamp (by omega), show nI (m_U M p r) - (1 : Int32) = nI (m_U M p r - 1) from pk_sub (b := 1) (by omega), e2, h2, Option.bind_some]
theorem Inv_amt {rm : Nat → Nat} {M : Md} {o : Option Nat} {p : Nat} {v : Int32} (h : Inv rm M o) : Inv rm (mAmt M p v) o := by
  unfold Inv at h ⊢
  simp only [p_mAmt]
  exact h
/-- put (k = 1) and get (k = 0) -/
theorem trade_ok {rm : Nat → Nat} {G : List Ln} {nd l p s k : Nat} {v : Int32} {a b : ts} {M : Md} (hrm : RMk rm) (hb : Bs rm G l p M) (hA : VA rm a M) (hB : VB rm b M) (hs : s < rm 15) (hk : k ≤ 1) : ∃ w a0 a1 b1 M1, cO_trade p (nI (8 + s)) v (nI k) a = some (nI w, a0) ∧ fw p (nI w) a0 = some a1 ∧ cR_exchange (nI p) (nI s) v (nI k) b = some b1 ∧ VA rm a1 M1 ∧ VB rm b1 M1 ∧ Inv rm M1 none ∧ Sy rm G nd 8300 l p M M1 := by
  have hb0 := hb
  obtain ⟨hI, hJ, hmb, hp, hS, ham, hT, hL, hG⟩ := hb
  have hs6 : s < 6 := by have := hrm.2.2.2.1; omega
  have hN := (Inv_N hI).1
  have hpM : p < gM a := Nat.lt_of_lt_of_le hp (VA_gm hA).1
  have hn := none_in hI (p := p) (by omega)
  have hrmA := VA_rm hA (8 + s) (by omega)
  have hrmB := VB_r1 hB s hs
  have bad : (v < 1 ∨ ¬ v ≤ nI (rm (8 + s))) → ∃ w a0 a1 b1 M1, cO_trade p (nI (8 + s)) v (nI k) a = some (nI w, a0) ∧ fw p (nI w) a0 = some a1 ∧ cR_exchange (nI p) (nI s) v (nI k) b = some b1 ∧ VA rm a1 M1 ∧ VB rm b1 M1 ∧ Inv rm M1 none ∧ Sy rm G nd 8300 l p M M1 := by
    intro hv
    obtain ⟨a1, b1, M1, h1, h2, h3, h4, h5, h6⟩ := wrong_ok (nd := nd) (w := 4) hrm hb0 hA hB (by omega) (by omega)
    have h2 : cR_finish (nI p) 4 b = some b1 := h2
    refine ⟨4, a, a1, b1, M1, ?_, h1, ?_, h3, h4, h5, h6⟩
    · unfold cO_trade
      rw [placeAt_ok (by omega), Option.bind_some]
      dsimp only
      by_cases c : v < 1
      · rw [if_pos c]; rfl
      · rw [if_neg c, if_pos (by omega), hrmA, if_neg (hv.resolve_left c)]; rfl
    · unfold cR_exchange cR_exchange_15
      by_cases c : v < 1
      · rw [if_pos c, h2, Option.bind_some]
      · rw [if_neg c, if_pos (nI_idx hs6 (by decide)), nI_clamp (by omega), hrmB, if_neg (hv.resolve_left c), h2, Option.bind_some]
  by_cases c1 : v < 1
  · exact bad (Or.inl c1)
  by_cases c2 : v ≤ nI (rm (8 + s))
  · generalize hρd : (if k = 0 then 8 + s else 14 + (8 + s)) = ρ
    have hρ : ρ = 8 + s ∨ ρ = 14 + (8 + s) := by rw [← hρd]; split <;> omega
    have hlno : lno ρ = if k = 0 then 2 * (8 + s) else 2 * (8 + s) + 1 := by
      rw [← hρd]
      by_cases c : k = 0
      · rw [if_pos c, if_pos c]; exact lno_a (by omega)
      · rw [if_neg c, if_neg c]; exact lno_b (by omega)
    have zA := cl_Amt (p := p) (v := v) hA
    have zB := rc_Amt (p := p) (v := v) hB (fun ρ h => hn ρ (by omega))
    have hIa : Inv rm (mAmt M p v) none := Inv_amt hI
    have hna : ∀ ρ, ρ < 30 → p ∉ m_R (mAmt M p v) ρ := by simp only [p_mAmt]; exact hn
    have kA : m_A (mAmt M p v) p = v := by simp only [p_mAmt]; exact up_s
    have kRa : m_R (mAmt M p v) = m_R M := by simp only [p_mAmt]
    have kNa : m_N (mAmt M p v) = m_N M := by simp only [p_mAmt]
    have hIj := Inv_jn (ρ := ρ) (v := 0) (Inv_in hIa (by rw [kNa]; exact hp) (by simp only [p_mAmt]; exact hS)) hna (by omega) (by omega) (fun _ => rfl) (fun z => by omega)
    obtain ⟨a1, y1, y2, _⟩ := cl_join (ρ := ρ) (k := 0) zA (Di_of hIa) (by rw [kNa]; exact hp) hna (by omega) (fun x hx => (Inv_me hIa ρ (by omega) x hx).1)
    obtain ⟨b1, u1, u2⟩ := rc_jn (ρ := ρ) (k := 0) zB hna (by omega) (row_short hIa (by rw [kNa]; exact hp) (hna ρ (by omega)) (by omega)) (by simp only [p_mAmt]; omega)
    have k0 := Inv_k0 hIa ρ (by omega) (by omega) (by omega)
    rw [if_neg (show ¬ ρ < 8 by omega), kA, (tW_all (l := m_R (mAmt M p v) ρ) (f := fun x => decide (¬ (0 : Int32) < m_K (mAmt M p v) x)) (fun x hx => by rw [k0 x hx]; decide)).1] at u1
    have hmem : p ∈ m_R (mJn (mAmt M p v) ρ p 0) ρ := by
      simp only [p_mJn]
      rw [up_s, mem_ins]; exact Or.inl rfl
    obtain ⟨lx, a2, b2, N, s1, s2, s3, s4, s5, s6, s7, s8⟩ := serve_ok (s := s) (q := 8 + s) (o := some p) rfl hs6 hs y2 u2 hIj (fun p1 h1 => by cases h1; simp only [p_mJn, p_mAmt]; exact ham) (fun p1 h1 => by
      cases h1
      rcases hρ with e | e
      · rw [e] at hmem; exact Or.inl (by rw [e]; exact hmem)
      · rw [e] at hmem; exact Or.inr (by rw [e]; exact hmem))
    have hNN : m_N N = m_N M := by rw [s6.1.1]; simp only [p_mJn, p_mAmt]
    have hlen : gA b 136 ρ = nI (m_R (mAmt M p v) ρ).length := by
      have := (VB_ro hB ρ (by omega)).1
      unfold rb at this
      rw [List.length_map] at this
      rw [kRa]; exact this
    have hJN : Jv rm N := by
      refine Jv_rows (M := mJn (mAmt M p v) ρ p 0) (fun q h1 h2 => ?_) s8
      simp only [p_mJn, p_mAmt]
      rw [up_n (by omega), up_n (by omega)]; exact hJ q h1 h2
    have hrow := VB_ro s4 ρ (by omega)
    have hrl := rb_lt (M := N) (ρ := ρ) (by omega) (Mm_of s5) (by omega)
    have eC : cO_trade p (nI (8 + s)) v (nI k) a = (if nI lx = (0 : Int32) then (cO_makeWait p (3 : Int32) (nI (8 + s)) a2).bind (fun s9 => some ((0 : Int32), s9)) else some ((0 : Int32), a2)) := by
      unfold cO_trade
      rw [placeAt_ok (by omega), Option.bind_some]
      dsimp only
      rw [if_neg c1, if_pos (by omega), hrmA, if_pos c2, if_pos hpM]
      have e54 : ∀ t0, t0 = lno ρ → cO_trade_54 p (nI (8 + s)) (8 + s) t0 (wI a 512 p v) = (if nI lx = (0 : Int32) then (cO_makeWait p (3 : Int32) (nI (8 + s)) a2).bind (fun s9 => some ((0 : Int32), s9)) else some ((0 : Int32), a2)) := by
        intro t0 e
        unfold cO_trade_54
        rw [e, if_pos (lno_lt (by omega)), y1, Option.bind_some, s1, Option.bind_some]
      by_cases c : k = 0
      · rw [if_pos (show nI k = 0 by rw [c]; rfl)]; exact e54 _ (by rw [hlno, if_pos c])
      · rw [if_neg (nI_ne0 (by omega) (by omega))]; exact e54 _ (by rw [hlno, if_neg c])
    have eR : cR_exchange (nI p) (nI s) v (nI k) b = (cR_isIn (nI ρ) (nI p) b2).bind (fun x10 => (if x10.1 = ((0 : Int32)) then some x10.2 else (cR_waits (nI p) ((3 : Int32)) (nI (8 + s)) x10.2).bind (fun s12 => some s12))) := by
      unfold cR_exchange
      have e8 : (8 : Int32) + nI s = nI (8 + s) := nI_add 8 s
      rw [if_neg c1, if_pos (nI_idx hs6 (by decide)), nI_clamp (by omega), hrmB, if_pos c2, e8, show (14 : Int32) + nI (8 + s) = nI (14 + (8 + s)) from nI_add 14 _]
      have e43 : ∀ t0, t0 = nI ρ → cR_exchange_43 (nI p) (nI s) v (nI (8 + s)) t0 b = (cR_isIn (nI ρ) (nI p) b2).bind (fun x10 => (if x10.1 = ((0 : Int32)) then some x10.2 else (cR_waits (nI p) ((3 : Int32)) (nI (8 + s)) x10.2).bind (fun s12 => some s12))) := by
        intro t0 e
        unfold cR_exchange_43
        rw [e, if_pos (nI_idx (by omega) (by decide)), nI_clamp (by omega), hlen, u1, Option.bind_some, s2, Option.bind_some]
      by_cases c : k = 0
      · rw [if_pos (show nI k = 0 by rw [c]; rfl)]; exact e43 _ (by rw [← hρd, if_pos c])
      · rw [if_neg (nI_ne0 (by omega) (by omega))]; exact e43 _ (by rw [← hρd, if_neg c])
    have hisIn := isIn_ok (ρ := ρ) (p := p) (by omega) (by omega) hrl hrow
    have hQ0 : Qw 0 M (mJn (mAmt M p v) ρ p 0) := by
      unfold Qw
      simp only [p_mJn, p_mAmt]
      exact ⟨⟨trivial, trivial, trivial, trivial, trivial, trivial, trivial, trivial, trivial⟩, Nat.le_refl _, fun _ _ => Or.inl trivial⟩
    rcases s7.2 p rfl with ⟨f1, f2⟩ | ⟨f1, f2⟩
    · have hpρ : p ∈ m_R N ρ := by
        have g : ∀ ρ1, ρ1 < 28 → p ∈ m_R N ρ1 → ρ1 = ρ := fun ρ1 h1 h2 => Inv_di hIj ρ1 ρ p (by omega) (by omega) (s8 ρ1 h1 p h2) hmem
        rcases f2 with z | z
        · rw [← g _ (by omega) z]; exact z
        · rw [← g _ (by omega) z]; exact z
      have h2l := two_len s5 (q := 8 + s) (by omega)
      have hIo := Inv_own (q := 8 + s) (s := 3) s5 hpρ (by omega) (by
        rcases hρ with e | e
        · exact Or.inr (Or.inl ⟨by omega, by omega, rfl, by omega⟩)
        · exact Or.inr (Or.inr (Or.inl ⟨by omega, by omega, rfl, by omega⟩))) (by omega) (by omega)
      obtain ⟨a3, w1, w2⟩ := makeWait_ok (p := p) (s := 3) (q := 8 + s) s3 (by omega) (by omega) (by omega) ((Inv_mw s5 (8 + s) (by omega)).2)
      obtain ⟨b3, v1, v2⟩ := rc_Wt (p := p) (s := 3) (w := 8 + s) s4 (by omega) (by omega) (by omega)
      refine ⟨0, a3, a3, b3, _, ?_, fw0, ?_, w2, rc_Mw v2, hIo, Sy_mono (Sy_wait hb0 (Qw_tr hQ0 (Qw_of s6)) (Or.inr rfl) hIo hJN) (by omega)⟩
      · have w1 : cO_makeWait p 3 (nI (8 + s)) a2 = some a3 := w1
        rw [eC, f1, if_pos (show nI 0 = (0 : Int32) from rfl), w1, Option.bind_some]; rfl
      · have hany : (rb N ρ).any (fun y => decide (y.1 = p)) = true := by
          rw [List.any_eq_true]
          exact ⟨(p, if ρ < 8 then m_K N p else m_A N p), List.mem_map.mpr ⟨p, hpρ, rfl⟩, decide_eq_true rfl⟩
        have v1 : cR_waits (nI p) 3 (nI (8 + s)) b2 = some b3 := v1
        rw [eR, hisIn, Option.bind_some, hany]
        dsimp only
        rw [if_pos rfl, if_neg (by decide), v1, Option.bind_some]
    · have hIN := Inv_out s5 f2
      refine ⟨0, a2, a2, b2, N, ?_, fw0, ?_, s3, s4, hIN, Sy_mono (Sy_Qt (k := 300) hb0 ?_ hIN) (by omega)⟩
      · rw [eC, f1, if_neg (by decide)]; rfl
      · have hany : (rb N ρ).any (fun y => decide (y.1 = p)) = false := by
          rw [List.any_eq_false]
          intro y hy
          obtain ⟨x, hx, e⟩ := List.mem_map.mp hy
          rw [← e]
          simp only [decide_eq_true_eq]
          exact fun z => f2 ρ (by omega) (z ▸ hx)
        rw [eR, hisIn, Option.bind_some, hany]
        rfl
      · have q3 := Qw_tr hQ0 (Qw_of s6)
        rw [Nat.zero_add] at q3
        refine ⟨q3.1, q3.2.1, q3.2.2, ?_, fun ρ1 h1 x hx => ?_⟩
        · rw [s6.2.2.2.1]
          simp only [p_mJn, p_mAmt]
          rw [up_n (by omega)]
        · have z := s8 ρ1 h1 x hx
          simp only [p_mJn, p_mAmt] at z
          by_cases c : ρ1 = ρ
          · rw [c, up_s] at z
            rcases mem_ins.mp z with y | y
            · rw [y] at hx; exact absurd hx (f2 ρ1 (by omega))
            · rw [c]; exact y
          · rw [up_n c] at z; exact z
  · exact bad (Or.inr c2)
