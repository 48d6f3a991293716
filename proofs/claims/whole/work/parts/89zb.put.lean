/-! INTO THE CALENDAR. -/
def mSt (M : Md) (p s : Nat) : Md := s_Zs (s_S M (up (m_S M) p s)) (up (m_Zs M) p (nI (m_tm M)))
def mPt (M : Md) (p : Nat) : Md := s_P (s_pa M (up (m_pa M) p (m_P M))) (m_P M + 1)
def mPut (M : Md) (p s : Nat) (t : Int32) : Md := mPt (mJn (mSt (mRem M p) p s) 28 p t) p
theorem gB_wBs {s : ts} {f i : Nat} {x : Int64} : gB (wB s f i x) f i = x := if_pos ⟨rfl, rfl⟩
theorem gJ_wJs {s : ts} {f i : Nat} {x : Int64} : gJ (wJ s f i x) f i = x := if_pos ⟨rfl, rfl⟩
theorem gB_wBn {s : ts} {f i j : Nat} {x : Int64} (h : ¬ j = i) : gB (wB s f i x) f j = gB s f j := if_neg (fun z => h z.2)
theorem gJ_wJn {s : ts} {f i j : Nat} {x : Int64} (h : ¬ j = i) : gJ (wJ s f i x) f j = gJ s f j := if_neg (fun z => h z.2)
theorem upI {a : ts} {f p y : Nat} {v : Int32} {g : Nat → Int32} (h : gI a f y = g y) : gI (wI a f p v) f y = up g p v y := by
  by_cases c : y = p
  · rw [c, gI_wIs, up_s]
  · rw [gI_wIi c, up_n c]; exact h
theorem upN {a : ts} {f p y v : Nat} {g : Nat → Nat} (h : gI a f y = nI (g y)) : gI (wI a f p (nI v)) f y = nI (up g p v y) := by
  by_cases c : y = p
  · rw [c, gI_wIs, up_s]
  · rw [gI_wIi c, up_n c]; exact h
theorem upA {a : ts} {f p y : Nat} {v : Int32} {g : Nat → Int32} (h : gA a f y = g y) : gA (wA a f p v) f y = up g p v y := by
  by_cases c : y = p
  · rw [c, gA_wAs, up_s]
  · rw [gA_wAn c, up_n c]; exact h
theorem upAN {a : ts} {f p y v : Nat} {g : Nat → Nat} (h : gA a f y = nI (g y)) : gA (wA a f p (nI v)) f y = nI (up g p v y) := by
  by_cases c : y = p
  · rw [c, gA_wAs, up_s]
  · rw [gA_wAn c, up_n c]; exact h
theorem cl_stat {rm : Nat → Nat} {a : ts} {M : Md} {p s : Nat} {w : Int32} (h : VA rm a M) (hs : s ≠ 2 ∧ s ≠ 3) : VA rm (wI (wI (wI a 502 p (nI s)) 510 p (nI (m_tm M))) 511 p w) (mSt M p s) := by
  generalize ha : wI (wI (wI a 502 p (nI s)) 510 p (nI (m_tm M))) 511 p w = a1
  have fa : fr [502, 510, 511] a a1 := by rw [← ha]; exact fr_wI (fr_wI (fr_wI fr_rf rfl) rfl) rfl
  unfold VA mSt
  simp only [k_S, k_Zs]
  refine ⟨(fa.1 800 rfl 0).trans (VA_tm h), (fa.1 801 rfl 0).trans (VA_sd h), fun i hi => (fa.2.1 36 rfl i).trans ((VA_nu h) i hi), (fa.1 1004 rfl 0).trans (VA_st h), (fa.1 1005 rfl 0).trans (VA_tn h), (fa.1 904 rfl 0).trans (VA_N h), (fa.1 905 rfl 0).trans (VA_en h), (fa.1 906 rfl 0).trans (VA_wg h), (fa.1 1008 rfl 0).trans (VA_tc h), fun k h1 h2 => ⟨(fa.2.1 85 rfl k).trans ((VA_tt h) k h1 h2).1, (fa.2.1 86 rfl k).trans ((VA_tt h) k h1 h2).2⟩, (fa.2.2.2.2.1 1003 rfl 0).trans (VA_am h), fun q hq => (fa.1 703 rfl q).trans ((VA_th h) q hq), fun q hq => (fa.1 704 rfl q).trans ((VA_rm h) q hq), fun q hq => (fa.1 705 rfl q).trans ((VA_sv h) q hq), fun q hq => (fa.1 706 rfl q).trans ((VA_lt h) q hq), fun q hq => (fa.1 707 rfl q).trans ((VA_mw h) q hq), fun q hq => (fa.2.2.2.1 708 rfl q).trans ((VA_s0 h) q hq), fun q hq => (fa.2.2.2.1 709 rfl q).trans ((VA_s1 h) q hq), fun q hq => (fa.2.2.2.1 710 rfl q).trans ((VA_s2 h) q hq), fun q hq => (fa.1 700 rfl q).trans ((VA_iS h) q hq), by rw [fa.2.2.2.2.2.2.2.1 rfl]; exact (VA_gm h), fun p hp => (fa.1 500 rfl p).trans ((VA_no h) p (by rw [fa.2.2.2.2.2.2.2.1 rfl] at hp; exact hp)), fun p hp => (fa.1 501 rfl p).trans ((VA_df h) p hp), ?_, fun p hp => (fa.1 503 rfl p).trans ((VA_at h) p hp), fun p hp => (fa.1 504 rfl p).trans ((VA_wr h) p hp), fun p hp => (fa.1 508 rfl p).trans ((VA_ke h) p hp), ?_, fun p hp => (fa.1 512 rfl p).trans ((VA_ao h) p hp), ?_, fun p hp i hi => (fa.2.2.2.2.2.1 rfl p i).trans ((VA_vl h) p hp i hi), fun p hp i hi => (fa.2.2.2.2.2.2.1 rfl p i).trans ((VA_un h) p hp i hi), fun ρ hρ => ln_congr (fa.2.2.2.2.1 600 rfl _) (fa.1 601 rfl _) (fun x _ => fa.2.2.2.2.1 509 rfl x) (fun x _ => fa.2.2.2.2.1 507 rfl x) (by rw [fa.2.2.2.2.2.2.2.1 rfl]; exact Nat.le_refl _) ((VA_li h) ρ hρ), fun p hp hn => (fa.2.2.2.2.1 507 rfl p).trans ((VA_nw h) p hp hn)⟩
  · intro p1 hp1
    rw [← ha]; exact upN (VA_ss h p1 hp1)
  · intro p1 hp1
    rw [← ha]; exact upI (VA_si h p1 hp1)
  · intro p1 hp1 hw
    by_cases c : p1 = p
    · rw [c, up_s] at hw; omega
    · rw [up_n c] at hw
      rw [← ha, gI_wIi c]; exact VA_wh h p1 hp1 hw
theorem cl_pt {rm : Nat → Nat} {a : ts} {M : Md} {p : Nat} (h : VA rm a M) : VA rm a (mPt M p) := by
  have fa : fr [] a a := fr_rf
  unfold VA mPt
  simp only [k_pa, k_P]
  exact ⟨(fa.1 800 rfl 0).trans (VA_tm h), (fa.1 801 rfl 0).trans (VA_sd h), fun i hi => (fa.2.1 36 rfl i).trans ((VA_nu h) i hi), (fa.1 1004 rfl 0).trans (VA_st h), (fa.1 1005 rfl 0).trans (VA_tn h), (fa.1 904 rfl 0).trans (VA_N h), (fa.1 905 rfl 0).trans (VA_en h), (fa.1 906 rfl 0).trans (VA_wg h), (fa.1 1008 rfl 0).trans (VA_tc h), fun k h1 h2 => ⟨(fa.2.1 85 rfl k).trans ((VA_tt h) k h1 h2).1, (fa.2.1 86 rfl k).trans ((VA_tt h) k h1 h2).2⟩, (fa.2.2.2.2.1 1003 rfl 0).trans (VA_am h), fun q hq => (fa.1 703 rfl q).trans ((VA_th h) q hq), fun q hq => (fa.1 704 rfl q).trans ((VA_rm h) q hq), fun q hq => (fa.1 705 rfl q).trans ((VA_sv h) q hq), fun q hq => (fa.1 706 rfl q).trans ((VA_lt h) q hq), fun q hq => (fa.1 707 rfl q).trans ((VA_mw h) q hq), fun q hq => (fa.2.2.2.1 708 rfl q).trans ((VA_s0 h) q hq), fun q hq => (fa.2.2.2.1 709 rfl q).trans ((VA_s1 h) q hq), fun q hq => (fa.2.2.2.1 710 rfl q).trans ((VA_s2 h) q hq), fun q hq => (fa.1 700 rfl q).trans ((VA_iS h) q hq), by rw [fa.2.2.2.2.2.2.2.1 rfl]; exact (VA_gm h), fun p hp => (fa.1 500 rfl p).trans ((VA_no h) p (by rw [fa.2.2.2.2.2.2.2.1 rfl] at hp; exact hp)), fun p hp => (fa.1 501 rfl p).trans ((VA_df h) p hp), fun p hp => (fa.1 502 rfl p).trans ((VA_ss h) p hp), fun p hp => (fa.1 503 rfl p).trans ((VA_at h) p hp), fun p hp => (fa.1 504 rfl p).trans ((VA_wr h) p hp), fun p hp => (fa.1 508 rfl p).trans ((VA_ke h) p hp), fun p hp => (fa.1 510 rfl p).trans ((VA_si h) p hp), fun p hp => (fa.1 512 rfl p).trans ((VA_ao h) p hp), fun p hp hs => (fa.1 511 rfl p).trans ((VA_wh h) p hp hs), fun p hp i hi => (fa.2.2.2.2.2.1 rfl p i).trans ((VA_vl h) p hp i hi), fun p hp i hi => (fa.2.2.2.2.2.2.1 rfl p i).trans ((VA_un h) p hp i hi), fun ρ hρ => ln_congr (fa.2.2.2.2.1 600 rfl _) (fa.1 601 rfl _) (fun x _ => fa.2.2.2.2.1 509 rfl x) (fun x _ => fa.2.2.2.2.1 507 rfl x) (by rw [fa.2.2.2.2.2.2.2.1 rfl]; exact Nat.le_refl _) ((VA_li h) ρ hρ), fun p hp hn => (fa.2.2.2.2.1 507 rfl p).trans ((VA_nw h) p hp hn)⟩
theorem Di_rem {M : Md} {p : Nat} (h : Di M) : Di (mRem M p) := by
  intro ρ ρ1 x h1 h2 h3 h4
  unfold mRem at h3 h4
  simp only [k_R] at h3 h4
  exact h ρ ρ1 x h1 h2 (mem_rem.mp h3).1 (mem_rem.mp h4).1
theorem Di_st {M : Md} {p s : Nat} (h : Di M) : Di (mSt M p s) := by
  intro ρ ρ1 x h1 h2 h3 h4
  unfold mSt at h3 h4
  simp only [k_S, k_Zs] at h3 h4
  exact h ρ ρ1 x h1 h2 h3 h4
theorem putCal_eq {p : Nat} {s t : Int32} {a : ts} : cO_putInCalendar p s t a = if p < gM a then (cl_lv p a).bind (fun a1 => cO_putInCalendar_17 p s t a1) else none := by
  unfold cO_putInCalendar cl_lv
  by_cases c : p < gM a
  · rw [if_pos c, if_pos c]
    cases gR a 507 p with
    | none => rfl
    | some r =>
      dsimp only
      by_cases c2 : r < 30
      · rw [if_pos c2, if_pos c2]
      · rw [if_neg c2, if_neg c2]; rfl
  · rw [if_neg c, if_neg c]
def Mm (M : Md) : Prop := ∀ ρ, ρ < 30 → ∀ p, p ∈ m_R M ρ → p < m_N M
theorem cl_put {rm : Nat → Nat} {a : ts} {M : Md} {p s : Nat} {t : Int32} (h : VA rm a M) (hd : Di M) (hm : Mm M) (hp : p < m_N M) (hs : s ≤ 1) : ∃ a1, cO_putInCalendar p (nI s) t a = some a1 ∧ VA rm a1 (mPut M p s t) := by
  obtain ⟨a1, y1, y2, y3, y4⟩ := cl_leave h hd hp
  have hpM : p < gM a := Nat.lt_of_lt_of_le hp (VA_gm h).1
  have hM1 : gM a1 = gM a := y3.2.2.2.2.2.2.2.1 rfl
  have z1 := cl_stat (p := p) (s := s) (w := -2) y2 (by omega)
  have hno : ∀ ρ, ρ < 30 → p ∉ m_R (mSt (mRem M p) p s) ρ := by
    intro ρ hρ z
    unfold mSt mRem at z
    simp only [k_S, k_Zs, k_R] at z
    exact (mem_rem.mp z).2 rfl
  have hN : m_N (mSt (mRem M p) p s) = m_N M := by unfold mSt mRem; simp only [k_S, k_Zs, k_R]
  have hm1 : ∀ x, x ∈ m_R (mSt (mRem M p) p s) 28 → x < m_N (mSt (mRem M p) p s) := by
    intro x hx
    rw [hN]
    unfold mSt mRem at hx
    simp only [k_S, k_Zs, k_R] at hx
    exact hm 28 (by omega) x (mem_rem.mp hx).1
  obtain ⟨a2, x1, x2, x3⟩ := cl_join (ρ := 28) (k := t) z1 (Di_st (Di_rem hd)) (by rw [hN]; exact hp) hno (by omega) hm1
  refine ⟨a2, ?_, cl_pt x2⟩
  have htm : gI (wI a1 502 p (nI s)) 800 0 = nI (m_tm (mRem M p)) := by rw [gI_wIn (by decide)]; exact VA_tm y2
  rw [putCal_eq, if_pos hpM, y1, Option.bind_some]
  unfold cO_putInCalendar_17
  rw [hM1, if_pos hpM, htm]
  have x1 : cN_join 28 p t (wI (wI (wI a1 502 p (nI s)) 510 p (nI (m_tm (mRem M p)))) 511 p (-2)) = some a2 := x1
  rw [x1, Option.bind_some]
-- the reference's side
theorem rc_R {rm : Nat → Nat} {b : ts} {M : Md} {R1 R2 : Nat → List Nat} (h : VB rm b (s_R M R1)) (he : ∀ ρ, ρ < 30 → R2 ρ = R1 ρ) : VB rm b (s_R M R2) := by
  have fa : fr [] b b := fr_rf
  unfold VB rb at h ⊢
  simp only [k_R] at h ⊢
  obtain ⟨g1, g2, g3, h1, h2, h3, h4, h5, h6, h7, h8, h9, h10, h11, h12, h13, h14, h15, h16, h17, h18, h19, h20, h21, h22, h23, h24, h25, h26, h27, h28, h29, h30, h31⟩ := h
  exact ⟨g1, g2, g3, h1, h2, h3, h4, h5, h6, h7, h8, h9, h10, h11, h12, h13, h14, h15, h16, h17, h18, h19, h20, h21, h22, h23, h24, h25, h26, h27, h28, h29, fun ρ hρ => by rw [he ρ (by omega)]; exact h30 ρ hρ, by rw [he 29 (by omega)]; exact h31⟩
theorem rc_self {rm : Nat → Nat} {b : ts} {M : Md} (h : VB rm b M) : VB rm b (s_R M (m_R M)) := by
  have fa : fr [] b b := fr_rf
  unfold VB rb
  simp only [k_R]
  exact ⟨⟨(fa.1 1110 rfl 0).trans (VB_nr h).1, (VB_nr h).2⟩, fun r hr => (fa.2.1 90 rfl r).trans (VB_r0 h r hr), fun s hs => (fa.2.1 93 rfl s).trans (VB_r1 h s hs), (fa.1 1152 rfl 0).trans (VB_tm h), (fa.1 1158 rfl 0).trans (VB_sd h), fun i hi => (fa.2.1 118 rfl i).trans ((VB_nu h) i hi), (fa.1 1153 rfl 0).trans (VB_st h), (fa.1 1154 rfl 0).trans (VB_tn h), (fa.1 1155 rfl 0).trans (VB_N h), (fa.1 1156 rfl 0).trans (VB_en h), (fa.1 1157 rfl 0).trans (VB_wg h), (fa.1 1161 rfl 0).trans (VB_tc h), fun k h1 h2 => ⟨(fa.2.1 116 rfl k).trans ((VB_tt h) k h1 h2).1, (fa.2.1 117 rfl k).trans ((VB_tt h) k h1 h2).2⟩, (fa.1 1159 rfl 0).trans (VB_am h), fun q hq => (fa.2.1 129 rfl q).trans ((VB_th h) q hq), fun q hq => (fa.2.1 130 rfl q).trans ((VB_sv h) q hq), fun q hq => (fa.2.1 131 rfl q).trans ((VB_lt h) q hq), fun q hq => (fa.2.1 132 rfl q).trans ((VB_mb h) q hq), fun q hq => (fa.2.2.1 133 rfl q).trans ((VB_s0 h) q hq), fun q hq => (fa.2.2.1 134 rfl q).trans ((VB_s1 h) q hq), fun q hq => (fa.2.2.1 135 rfl q).trans ((VB_s2 h) q hq), fun p hp => (fa.2.1 119 rfl p).trans ((VB_df h) p hp), fun p hp => (fa.2.1 120 rfl p).trans ((VB_ss h) p hp), fun p hp => (fa.2.1 121 rfl p).trans ((VB_at h) p hp), fun p hp hs => (fa.2.1 122 rfl p).trans ((VB_du h) p hp hs), fun p hp hs => (fa.2.2.1 123 rfl p).trans ((VB_pa h) p hp hs), (fa.2.2.2.1 1160 rfl 0).trans (VB_P h), fun p hp => (fa.2.1 124 rfl p).trans ((VB_si h) p hp), fun p hp hs => (fa.2.1 125 rfl p).trans ((VB_wh h) p hp hs), fun p hp => (fa.2.1 126 rfl p).trans ((VB_wr h) p hp), fun p hp i hi => (fa.2.1 127 rfl _).trans ((VB_vl h) p hp i hi), fun p hp i hi => (fa.2.1 128 rfl _).trans ((VB_un h) p hp i hi), fun ρ hρ => rw1_fr ((VB_ro h) ρ hρ) fa rfl rfl rfl, aw1_fr (VB_aw h) fa rfl rfl⟩
/-- nobody that the reference keeps in a row leaves -/
theorem rc_rem {rm : Nat → Nat} {b : ts} {M : Md} {p : Nat} (h : VB rm b M) (hr : ∀ ρ, ρ < 30 → ¬ ρ = 28 → p ∉ m_R M ρ) : VB rm b (mRem M p) := by
  have fa : fr [] b b := fr_rf
  unfold VB mRem rb
  simp only [k_R]
  exact ⟨⟨(fa.1 1110 rfl 0).trans (VB_nr h).1, (VB_nr h).2⟩, fun r hr => (fa.2.1 90 rfl r).trans (VB_r0 h r hr), fun s hs => (fa.2.1 93 rfl s).trans (VB_r1 h s hs), (fa.1 1152 rfl 0).trans (VB_tm h), (fa.1 1158 rfl 0).trans (VB_sd h), fun i hi => (fa.2.1 118 rfl i).trans ((VB_nu h) i hi), (fa.1 1153 rfl 0).trans (VB_st h), (fa.1 1154 rfl 0).trans (VB_tn h), (fa.1 1155 rfl 0).trans (VB_N h), (fa.1 1156 rfl 0).trans (VB_en h), (fa.1 1157 rfl 0).trans (VB_wg h), (fa.1 1161 rfl 0).trans (VB_tc h), fun k h1 h2 => ⟨(fa.2.1 116 rfl k).trans ((VB_tt h) k h1 h2).1, (fa.2.1 117 rfl k).trans ((VB_tt h) k h1 h2).2⟩, (fa.1 1159 rfl 0).trans (VB_am h), fun q hq => (fa.2.1 129 rfl q).trans ((VB_th h) q hq), fun q hq => (fa.2.1 130 rfl q).trans ((VB_sv h) q hq), fun q hq => (fa.2.1 131 rfl q).trans ((VB_lt h) q hq), fun q hq => (fa.2.1 132 rfl q).trans ((VB_mb h) q hq), fun q hq => (fa.2.2.1 133 rfl q).trans ((VB_s0 h) q hq), fun q hq => (fa.2.2.1 134 rfl q).trans ((VB_s1 h) q hq), fun q hq => (fa.2.2.1 135 rfl q).trans ((VB_s2 h) q hq), fun p hp => (fa.2.1 119 rfl p).trans ((VB_df h) p hp), fun p hp => (fa.2.1 120 rfl p).trans ((VB_ss h) p hp), fun p hp => (fa.2.1 121 rfl p).trans ((VB_at h) p hp), fun p hp hs => (fa.2.1 122 rfl p).trans ((VB_du h) p hp hs), fun p hp hs => (fa.2.2.1 123 rfl p).trans ((VB_pa h) p hp hs), (fa.2.2.2.1 1160 rfl 0).trans (VB_P h), fun p hp => (fa.2.1 124 rfl p).trans ((VB_si h) p hp), fun p hp hs => (fa.2.1 125 rfl p).trans ((VB_wh h) p hp hs), fun p hp => (fa.2.1 126 rfl p).trans ((VB_wr h) p hp), fun p hp i hi => (fa.2.1 127 rfl _).trans ((VB_vl h) p hp i hi), fun p hp i hi => (fa.2.1 128 rfl _).trans ((VB_un h) p hp i hi), fun ρ hρ => by rw [rem_out (hr ρ (by omega) (by omega))]; exact VB_ro h ρ hρ, by rw [rem_out (hr 29 (by omega) (by omega))]; exact VB_aw h⟩
theorem rc_cal {rm : Nat → Nat} {b : ts} {M : Md} {p s : Nat} {t : Int32} (h : VB rm b M) (hN : m_N M ≤ 300) (hp : p < m_N M) (hr : ∀ ρ, ρ < 28 → p ∉ m_R M ρ) (hs : s ≤ 1) : ∃ b1, cR_calendar (nI p) (nI s) t b = some b1 ∧ VB rm b1 (mPt (mJn (mSt M p s) 28 p t) p) := by
  have e1 : gJ b 1160 0 = Int64.ofNat (m_P M) := VB_P h
  have e2 : gI b 1152 0 = nI (m_tm M) := VB_tm h
  generalize hb : wA (wJ (wB (wA (wA b 120 p (nI s)) 122 p t) 123 p (Int64.ofNat (m_P M))) 1160 0 (Int64.ofNat (m_P M + 1))) 124 p (nI (m_tm M)) = b1
  have fa : fr [2120, 2122, 3123, 4160 + 1000, 2124] b b1 := by rw [← hb]; exact fr_wA (fr_wJ (fr_wB (fr_wA (fr_wA fr_rf rfl) rfl) rfl) rfl) rfl
  refine ⟨b1, ?_, ?_⟩
  · unfold cR_calendar
    rw [if_pos (nI_idx (by omega) (by decide)), nI_clamp (by omega), show gJ (wA (wA b 120 p (nI s)) 122 p t) 1160 0 = Int64.ofNat (m_P M) from e1, show gJ (wB (wA (wA b 120 p (nI s)) 122 p t) 123 p (Int64.ofNat (m_P M))) 1160 0 = Int64.ofNat (m_P M) from e1, show Int64.ofNat (m_P M) + 1 = Int64.ofNat (m_P M + 1) from (Int64.ofNat_add (m_P M) 1).symm, show gI (wJ (wB (wA (wA b 120 p (nI s)) 122 p t) 123 p (Int64.ofNat (m_P M))) 1160 0 (Int64.ofNat (m_P M + 1))) 1152 0 = nI (m_tm M) from e2, hb]
  · unfold VB mPt mJn mSt rb
    simp only [k_S, k_Zs, k_R, k_K, k_pa, k_P]
    refine ⟨⟨(fa.1 1110 rfl 0).trans (VB_nr h).1, (VB_nr h).2⟩, fun r hr => (fa.2.1 90 rfl r).trans (VB_r0 h r hr), fun s hs => (fa.2.1 93 rfl s).trans (VB_r1 h s hs), (fa.1 1152 rfl 0).trans (VB_tm h), (fa.1 1158 rfl 0).trans (VB_sd h), fun i hi => (fa.2.1 118 rfl i).trans ((VB_nu h) i hi), (fa.1 1153 rfl 0).trans (VB_st h), (fa.1 1154 rfl 0).trans (VB_tn h), (fa.1 1155 rfl 0).trans (VB_N h), (fa.1 1156 rfl 0).trans (VB_en h), (fa.1 1157 rfl 0).trans (VB_wg h), (fa.1 1161 rfl 0).trans (VB_tc h), fun k h1 h2 => ⟨(fa.2.1 116 rfl k).trans ((VB_tt h) k h1 h2).1, (fa.2.1 117 rfl k).trans ((VB_tt h) k h1 h2).2⟩, (fa.1 1159 rfl 0).trans (VB_am h), fun q hq => (fa.2.1 129 rfl q).trans ((VB_th h) q hq), fun q hq => (fa.2.1 130 rfl q).trans ((VB_sv h) q hq), fun q hq => (fa.2.1 131 rfl q).trans ((VB_lt h) q hq), fun q hq => (fa.2.1 132 rfl q).trans ((VB_mb h) q hq), fun q hq => (fa.2.2.1 133 rfl q).trans ((VB_s0 h) q hq), fun q hq => (fa.2.2.1 134 rfl q).trans ((VB_s1 h) q hq), fun q hq => (fa.2.2.1 135 rfl q).trans ((VB_s2 h) q hq), fun p hp => (fa.2.1 119 rfl p).trans ((VB_df h) p hp), ?_, fun p hp => (fa.2.1 121 rfl p).trans ((VB_at h) p hp), ?_, ?_, ?_, ?_, ?_, fun p hp => (fa.2.1 126 rfl p).trans ((VB_wr h) p hp), fun p hp i hi => (fa.2.1 127 rfl _).trans ((VB_vl h) p hp i hi), fun p hp i hi => (fa.2.1 128 rfl _).trans ((VB_un h) p hp i hi), ?_, ?_⟩
    · intro p1 hp1
      rw [← hb]; exact upAN (VB_ss h p1 hp1)
    · intro p1 hp1 h1
      rw [← hb]
      by_cases c : p1 = p
      · rw [c, up_s]; exact gA_wAs
      · rw [up_n c] at h1
        rw [up_n c]
        exact (gA_wAn c).trans (VB_du h p1 hp1 h1)
    · intro p1 hp1 h1
      rw [← hb]
      by_cases c : p1 = p
      · rw [c, up_s]; exact gB_wBs
      · rw [up_n c] at h1
        rw [up_n c]
        exact (show gB (wA (wJ (wB (wA (wA b 120 p (nI s)) 122 p t) 123 p (Int64.ofNat (m_P M))) 1160 0 (Int64.ofNat (m_P M + 1))) 124 p (nI (m_tm M))) 123 p1 = gB b 123 p1 from if_neg (fun z => c z.2)).trans (VB_pa h p1 hp1 h1)
    · rw [← hb, gJ_wA, gJ_wJs]
    · intro p1 hp1
      rw [← hb]; exact upA (VB_si h p1 hp1)
    · intro p1 hp1 hw
      by_cases c : p1 = p
      · rw [c, up_s] at hw; omega
      · rw [up_n c] at hw
        rw [← hb]; exact VB_wh h p1 hp1 hw
    · intro ρ hρ
      rw [up_n (by omega), List.map_congr_left (g := fun x => (x, if ρ < 8 then m_K M x else m_A M x)) (fun x hx => by rw [up_n (show ¬ x = p from fun z => hr ρ hρ (z ▸ hx))])]
      exact rw1_fr (VB_ro h ρ hρ) fa rfl rfl rfl
    · rw [up_n (by decide)]
      exact aw1_fr (VB_aw h) fa rfl rfl
theorem clt_so {K : Nat → Int32} {pa : Nat → Nat} {l : List Nat} (h : l.Pairwise (clt K pa)) : l.Pairwise (fun x y => ¬ K y < K x) :=
  h.imp (fun {x y} z => by
    rcases z with z | z
    · exact fun w => Int32.lt_irrefl (Int32.lt_trans z w)
    · rw [z.1]; exact Int32.lt_irrefl)
/-- what holds of the state holds when one has come into the calendar -/
theorem Inv_put {rm : Nat → Nat} {M : Md} {o : Option Nat} {p s t : Nat} (h : Inv rm M o) (hp : p < m_N M) (ho : ¬ o = some p) (hs : s ≤ 1) (ht : m_tm M ≤ t ∧ t ≤ 1000000000) : Inv rm (mPut M p s (nI t)) o := by
  have hca := Inv_ca h
  have hpw := (hca.1).sublist (rem_sub (R := m_R M) (p := p) (ρ := 28))
  have hpn : p ∉ rem (m_R M) p 28 := fun z => (mem_rem.mp z).2 rfl
  have hm28 : ∀ x, x ∈ ins (m_K M) (nI t) p (rem (m_R M) p 28) → x = p ∨ (x ∈ m_R M 28 ∧ ¬ x = p) := fun x hx => by
    rcases mem_ins.mp hx with z | z
    · exact Or.inl z
    · exact Or.inr (mem_rem.mp z)
  unfold Inv mPut mPt mJn mSt mRem
  simp only [k_S, k_Zs, k_R, k_K, k_pa, k_P]
  refine ⟨Inv_N h, ?_, ?_, ?_, ?_, ?_, ?_, ?_, ?_, ?_, ?_, ?_⟩
  · intro ρ hρ
    by_cases c : ρ = 28
    · rw [c, up_s]
      exact nodup_ins ((Inv_nd h 28 (by omega)).sublist rem_sub) hpn
    · rw [up_n c]; exact (Inv_nd h ρ hρ).sublist rem_sub
  · intro ρ hρ x hx
    by_cases c : ρ = 28
    · rw [c, up_s] at hx
      rcases hm28 x hx with z | ⟨z, z2⟩
      · rw [z, up_s, c]; exact ⟨hp, Or.inr (Or.inr (Or.inr (Or.inr (Or.inl ⟨rfl, hs⟩))))⟩
      · rw [up_n z2, c]; exact Inv_me h 28 (by omega) x z
    · rw [up_n c] at hx
      have z := mem_rem.mp hx
      rw [up_n z.2]; exact Inv_me h ρ hρ x z.1
  · intro ρ ρ1 x h1 h2 h3 h4
    by_cases c : ρ = 28
    · by_cases c1 : ρ1 = 28
      · rw [c, c1]
      · rw [c, up_s] at h3
        rw [up_n c1] at h4
        have z4 := mem_rem.mp h4
        rcases hm28 x h3 with z | z
        · exact absurd z z4.2
        · rw [c]; exact Inv_di h 28 ρ1 x (by omega) h2 z.1 z4.1
    · rw [up_n c] at h3
      have z3 := mem_rem.mp h3
      by_cases c1 : ρ1 = 28
      · rw [c1, up_s] at h4
        rcases hm28 x h4 with z | z
        · exact absurd z z3.2
        · rw [c1]; exact Inv_di h ρ 28 x h1 (by omega) z3.1 z.1
      · rw [up_n c1] at h4
        exact Inv_di h ρ ρ1 x h1 h2 z3.1 (mem_rem.mp h4).1
  · intro x hx
    by_cases c : x = p
    · rw [c, up_s]
      exact ⟨by omega, fun _ => ⟨28, by omega, by rw [up_s, mem_ins]; exact Or.inl rfl⟩⟩
    · rw [up_n c]
      have z := Inv_co h x hx
      refine ⟨z.1, fun z1 => ?_⟩
      obtain ⟨ρ, h1, h2⟩ := z.2 z1
      refine ⟨ρ, h1, ?_⟩
      by_cases c1 : ρ = 28
      · rw [c1, up_s, mem_ins]; rw [c1] at h2; exact Or.inr (mem_rem.mpr ⟨h2, c⟩)
      · rw [up_n c1]; exact mem_rem.mpr ⟨h2, c⟩
  · intro x hx
    have := Inv_ow h x hx
    rw [up_n (show ¬ x = p from fun z => ho (z ▸ hx))]; exact this
  · rw [up_s]
    refine ⟨?_, ?_⟩
    · refine ins_pw (clt_so hpw) (hpw.imp_of_mem (fun {x y} hx hy z => ?_)) (fun x hx z => ?_) (fun y hy z => ?_)
      · unfold clt
        rw [up_n (mem_rem.mp hx).2, up_n (mem_rem.mp hx).2, up_n (mem_rem.mp hy).2, up_n (mem_rem.mp hy).2]; exact z
      · have z1 := mem_rem.mp hx
        unfold clt
        rw [up_n z1.2, up_n z1.2, up_s, up_s]
        rcases Int32.lt_or_eq_of_le (Int32.not_lt.mp z) with w | w
        · exact Or.inl w
        · exact Or.inr ⟨w, (hca.2 x z1.1).1⟩
      · have z1 := mem_rem.mp hy
        unfold clt
        rw [up_n z1.2, up_s]
        exact Or.inl z
    · intro x hx
      rcases hm28 x hx with z | ⟨z, z2⟩
      · rw [z, up_s, up_s]; exact ⟨by omega, t, rfl, ht.1, ht.2⟩
      · rw [up_n z2, up_n z2]
        have := hca.2 x z
        exact ⟨by omega, this.2⟩
  · intro ρ hρ
    rw [up_n (by omega)]
    refine ((Inv_so h ρ hρ).sublist rem_sub).imp_of_mem (fun {x y} hx hy z => ?_)
    rw [up_n (mem_rem.mp hx).2, up_n (mem_rem.mp hy).2]; exact z
  · intro ρ h1 h2 h3 x hx
    rw [up_n h3] at hx
    have z := mem_rem.mp hx
    rw [up_n z.2]; exact Inv_k0 h ρ h1 h2 h3 x z.1
  · intro q hq
    have z := Inv_re h q hq
    refine ⟨z.1, z.2.1, fun hne => z.2.2 (fun e => hne ?_)⟩
    rw [up_n (by omega)]
    unfold rem
    rw [e]; rfl
  · intro q hq
    have z := Inv_mw h q hq
    rw [up_n (by omega), up_n (by omega)]
    have z1 := wl_sub (o := o) (rem_sub (R := m_R M) (p := p) (ρ := q))
    have z2 := wl_sub (o := o) (rem_sub (R := m_R M) (p := p) (ρ := 14 + q))
    exact ⟨by omega, z.2⟩
  · refine ⟨fun x hx hx7 => ?_, (Inv_am h).2⟩
    by_cases c : x = p
    · rw [c, up_s] at hx7; omega
    · rw [up_n c] at hx7; exact (Inv_am h).1 x hx hx7
