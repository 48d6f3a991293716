/-! SMALL CHANGES on both sides. -/
theorem tk_fr {s : ts} {l x : Nat} {r : List Nat} : fr [601, 6507, 6509, 6600] s (tk s l x r) := fr_wI (fr_wR (fr_wR (fr_wR fr_rf rfl) rfl) rfl) rfl
theorem rem_hd {M : Md} {ρ x : Nat} {r : List Nat} (e : m_R M ρ = x :: r) (hn : (m_R M ρ).Nodup) : rem (m_R M) x ρ = r := rem_mid (A := []) e hn
theorem cl_first {rm : Nat → Nat} {a : ts} {M : Md} {ρ x : Nat} {r : List Nat} (h : VA rm a M) (hd : Di M) (hρ : ρ < 30) (e : m_R M ρ = x :: r) : ∃ a1, cN_takeFirst (lno ρ) a = some (some x, a1) ∧ VA rm a1 (mRem M x) := by
  have h3 := VA_li h ρ hρ
  have hx : x ∈ m_R M ρ := by rw [e]; exact List.mem_cons_self
  have hr := rem_hd e h3.2.2.2.1
  rw [e] at h3
  have fa : fr [601, 6507, 6509, 6600] a (tk a (lno ρ) x r) := tk_fr
  refine ⟨_, takeFirst_ok (lno_lt hρ) h3, ?_⟩
  unfold VA mRem
  simp only [k_R]
  refine ⟨(fa.1 800 rfl 0).trans (VA_tm h), (fa.1 801 rfl 0).trans (VA_sd h), fun i hi => (fa.2.1 36 rfl i).trans ((VA_nu h) i hi), (fa.1 1004 rfl 0).trans (VA_st h), (fa.1 1005 rfl 0).trans (VA_tn h), (fa.1 904 rfl 0).trans (VA_N h), (fa.1 905 rfl 0).trans (VA_en h), (fa.1 906 rfl 0).trans (VA_wg h), (fa.1 1008 rfl 0).trans (VA_tc h), fun k h1 h2 => ⟨(fa.2.1 85 rfl k).trans ((VA_tt h) k h1 h2).1, (fa.2.1 86 rfl k).trans ((VA_tt h) k h1 h2).2⟩, (fa.2.2.2.2.1 1003 rfl 0).trans (VA_am h), fun q hq => (fa.1 703 rfl q).trans ((VA_th h) q hq), fun q hq => (fa.1 704 rfl q).trans ((VA_rm h) q hq), fun q hq => (fa.1 705 rfl q).trans ((VA_sv h) q hq), fun q hq => (fa.1 706 rfl q).trans ((VA_lt h) q hq), fun q hq => (fa.1 707 rfl q).trans ((VA_mw h) q hq), fun q hq => (fa.2.2.2.1 708 rfl q).trans ((VA_s0 h) q hq), fun q hq => (fa.2.2.2.1 709 rfl q).trans ((VA_s1 h) q hq), fun q hq => (fa.2.2.2.1 710 rfl q).trans ((VA_s2 h) q hq), fun q hq => (fa.1 700 rfl q).trans ((VA_iS h) q hq), by rw [fa.2.2.2.2.2.2.2.1 rfl]; exact (VA_gm h), fun p hp => (fa.1 500 rfl p).trans ((VA_no h) p (by rw [fa.2.2.2.2.2.2.2.1 rfl] at hp; exact hp)), fun p hp => (fa.1 501 rfl p).trans ((VA_df h) p hp), fun p hp => (fa.1 502 rfl p).trans ((VA_ss h) p hp), fun p hp => (fa.1 503 rfl p).trans ((VA_at h) p hp), fun p hp => (fa.1 504 rfl p).trans ((VA_wr h) p hp), fun p hp => (fa.1 508 rfl p).trans ((VA_ke h) p hp), fun p hp => (fa.1 510 rfl p).trans ((VA_si h) p hp), fun p hp => (fa.1 512 rfl p).trans ((VA_ao h) p hp), fun p hp hs => (fa.1 511 rfl p).trans ((VA_wh h) p hp hs), fun p hp i hi => (fa.2.2.2.2.2.1 rfl p i).trans ((VA_vl h) p hp i hi), fun p hp i hi => (fa.2.2.2.2.2.2.1 rfl p i).trans ((VA_un h) p hp i hi), ?_, ?_⟩
  · intro ρ1 hρ1
    by_cases c : ρ1 = ρ
    · rw [c, hr]; exact ln_tk h3
    · have ho : x ∉ m_R M ρ1 := fun z => c (hd ρ1 ρ x hρ1 hρ z hx)
      rw [rem_out ho]
      exact ln_tk_o (fun z => c (lno_inj hρ1 hρ z)) ho (VA_li h ρ1 hρ1)
  · intro p1 hp1 hn
    show gR (wR (wR (wR a 600 (lno ρ) r.head?) 509 x none) 507 x none) 507 p1 = none
    by_cases c : p1 = x
    · rw [c, gR_wRs]
    · rw [gR_wRi c]
      exact VA_nw h p1 hp1 (fun ρ1 hρ1 z => hn ρ1 hρ1 (mem_rem.mpr ⟨z, c⟩))
theorem rb_lt {M : Md} {ρ : Nat} (hN : m_N M ≤ 300) (hm : Mm M) (hρ : ρ < 30) : ∀ y, y ∈ rb M ρ → y.1 < 300 := by
  intro y hy
  unfold rb at hy
  obtain ⟨x, h1, h2⟩ := List.mem_map.mp hy
  rw [← h2]
  have := hm ρ hρ x h1
  show x < 300
  omega
theorem rc_row0 {rm : Nat → Nat} {b : ts} {M : Md} {ρ x : Nat} {r : List Nat} (h : VB rm b M) (hd : Di M) (hn : (m_R M ρ).Nodup) (hρ : ρ < 28) (e : m_R M ρ = x :: r) : ∃ b1, cR_drop (nI ρ) 0 b = some b1 ∧ VB rm b1 (mRem M x) := by
  have h3 := VB_ro h ρ hρ
  have hx : x ∈ m_R M ρ := by rw [e]; exact List.mem_cons_self
  have hr := rem_hd e hn
  unfold rb at h3
  rw [e, List.map_cons] at h3
  obtain ⟨b1, y1, fa, y3, y4⟩ := dropR_ok (A := []) hρ h3
  refine ⟨b1, y1, ?_⟩
  unfold VB mRem rb
  simp only [k_R]
  refine ⟨⟨(fa.1 1110 rfl 0).trans (VB_nr h).1, (VB_nr h).2⟩, fun r hr => (fa.2.1 90 rfl r).trans (VB_r0 h r hr), fun s hs => (fa.2.1 93 rfl s).trans (VB_r1 h s hs), (fa.1 1152 rfl 0).trans (VB_tm h), (fa.1 1158 rfl 0).trans (VB_sd h), fun i hi => (fa.2.1 118 rfl i).trans ((VB_nu h) i hi), (fa.1 1153 rfl 0).trans (VB_st h), (fa.1 1154 rfl 0).trans (VB_tn h), (fa.1 1155 rfl 0).trans (VB_N h), (fa.1 1156 rfl 0).trans (VB_en h), (fa.1 1157 rfl 0).trans (VB_wg h), (fa.1 1161 rfl 0).trans (VB_tc h), fun k h1 h2 => ⟨(fa.2.1 116 rfl k).trans ((VB_tt h) k h1 h2).1, (fa.2.1 117 rfl k).trans ((VB_tt h) k h1 h2).2⟩, (fa.1 1159 rfl 0).trans (VB_am h), fun q hq => (fa.2.1 129 rfl q).trans ((VB_th h) q hq), fun q hq => (fa.2.1 130 rfl q).trans ((VB_sv h) q hq), fun q hq => (fa.2.1 131 rfl q).trans ((VB_lt h) q hq), fun q hq => (fa.2.1 132 rfl q).trans ((VB_mb h) q hq), fun q hq => (fa.2.2.1 133 rfl q).trans ((VB_s0 h) q hq), fun q hq => (fa.2.2.1 134 rfl q).trans ((VB_s1 h) q hq), fun q hq => (fa.2.2.1 135 rfl q).trans ((VB_s2 h) q hq), fun p hp => (fa.2.1 119 rfl p).trans ((VB_df h) p hp), fun p hp => (fa.2.1 120 rfl p).trans ((VB_ss h) p hp), fun p hp => (fa.2.1 121 rfl p).trans ((VB_at h) p hp), fun p hp hs => (fa.2.1 122 rfl p).trans ((VB_du h) p hp hs), fun p hp hs => (fa.2.2.1 123 rfl p).trans ((VB_pa h) p hp hs), (fa.2.2.2.1 1160 rfl 0).trans (VB_P h), fun p hp => (fa.2.1 124 rfl p).trans ((VB_si h) p hp), fun p hp hs => (fa.2.1 125 rfl p).trans ((VB_wh h) p hp hs), fun p hp => (fa.2.1 126 rfl p).trans ((VB_wr h) p hp), fun p hp i hi => (fa.2.1 127 rfl _).trans ((VB_vl h) p hp i hi), fun p hp i hi => (fa.2.1 128 rfl _).trans ((VB_un h) p hp i hi), ?_, ?_⟩
  · intro ρ1 hρ1
    by_cases c : ρ1 = ρ
    · rw [c, hr]; exact y4
    · rw [rem_out (fun z => c (hd ρ1 ρ x (by omega) (by omega) z hx))]
      exact rw1_o (VB_ro h ρ1 hρ1) y3 c
  · rw [rem_out (fun z => absurd (hd 29 ρ x (by omega) (by omega) z hx) (by omega))]
    exact aw1_fr (VB_aw h) fa rfl rfl
theorem rb_filter {M : Md} {ρ p : Nat} : (rb M ρ).filter (fun y => decide (¬ y.1 = p)) = (rem (m_R M) p ρ).map (fun p => (p, if ρ < 8 then m_K M p else m_A M p)) := by
  unfold rb rem
  rw [List.filter_map]
  rfl
theorem rc_leave {rm : Nat → Nat} {b : ts} {M : Md} {ρ p : Nat} (h : VB rm b M) (hN : m_N M ≤ 300) (hm : Mm M) (hp : p < m_N M) (hρ : ρ < 28) : ∃ b1, cR_leaveRow (nI ρ) (nI p) b = some b1 ∧ VB rm b1 (s_R M (up (m_R M) ρ (rem (m_R M) p ρ))) ∧ gA b1 125 p = gA b 125 p := by
  obtain ⟨b1, y1, fa, y3, y4⟩ := leaveRow_ok hρ (show p < 300 by omega) (rb_lt hN hm (by omega)) (VB_ro h ρ hρ)
  refine ⟨b1, y1, ?_, fa.2.1 125 rfl p⟩
  unfold VB rb
  simp only [k_R]
  refine ⟨⟨(fa.1 1110 rfl 0).trans (VB_nr h).1, (VB_nr h).2⟩, fun r hr => (fa.2.1 90 rfl r).trans (VB_r0 h r hr), fun s hs => (fa.2.1 93 rfl s).trans (VB_r1 h s hs), (fa.1 1152 rfl 0).trans (VB_tm h), (fa.1 1158 rfl 0).trans (VB_sd h), fun i hi => (fa.2.1 118 rfl i).trans ((VB_nu h) i hi), (fa.1 1153 rfl 0).trans (VB_st h), (fa.1 1154 rfl 0).trans (VB_tn h), (fa.1 1155 rfl 0).trans (VB_N h), (fa.1 1156 rfl 0).trans (VB_en h), (fa.1 1157 rfl 0).trans (VB_wg h), (fa.1 1161 rfl 0).trans (VB_tc h), fun k h1 h2 => ⟨(fa.2.1 116 rfl k).trans ((VB_tt h) k h1 h2).1, (fa.2.1 117 rfl k).trans ((VB_tt h) k h1 h2).2⟩, (fa.1 1159 rfl 0).trans (VB_am h), fun q hq => (fa.2.1 129 rfl q).trans ((VB_th h) q hq), fun q hq => (fa.2.1 130 rfl q).trans ((VB_sv h) q hq), fun q hq => (fa.2.1 131 rfl q).trans ((VB_lt h) q hq), fun q hq => (fa.2.1 132 rfl q).trans ((VB_mb h) q hq), fun q hq => (fa.2.2.1 133 rfl q).trans ((VB_s0 h) q hq), fun q hq => (fa.2.2.1 134 rfl q).trans ((VB_s1 h) q hq), fun q hq => (fa.2.2.1 135 rfl q).trans ((VB_s2 h) q hq), fun p hp => (fa.2.1 119 rfl p).trans ((VB_df h) p hp), fun p hp => (fa.2.1 120 rfl p).trans ((VB_ss h) p hp), fun p hp => (fa.2.1 121 rfl p).trans ((VB_at h) p hp), fun p hp hs => (fa.2.1 122 rfl p).trans ((VB_du h) p hp hs), fun p hp hs => (fa.2.2.1 123 rfl p).trans ((VB_pa h) p hp hs), (fa.2.2.2.1 1160 rfl 0).trans (VB_P h), fun p hp => (fa.2.1 124 rfl p).trans ((VB_si h) p hp), fun p hp hs => (fa.2.1 125 rfl p).trans ((VB_wh h) p hp hs), fun p hp => (fa.2.1 126 rfl p).trans ((VB_wr h) p hp), fun p hp i hi => (fa.2.1 127 rfl _).trans ((VB_vl h) p hp i hi), fun p hp i hi => (fa.2.1 128 rfl _).trans ((VB_un h) p hp i hi), ?_, ?_⟩
  · intro ρ1 hρ1
    by_cases c : ρ1 = ρ
    · rw [c, up_s, ← rb_filter]; exact y4
    · rw [up_n c]
      exact rw1_o (VB_ro h ρ1 hρ1) y3 c
  · rw [up_n (by omega)]
    exact aw1_fr (VB_aw h) fa rfl rfl
theorem rc_leaveA {rm : Nat → Nat} {b : ts} {M : Md} {p : Nat} (h : VB rm b M) (hN : m_N M ≤ 300) (hm : Mm M) (hp : p < m_N M) (hr : ∀ ρ, ρ < 28 → p ∉ m_R M ρ) : ∃ b1, cR_leaveAwaits (nI p) b = some b1 ∧ VB rm b1 (mRem M p) := by
  obtain ⟨b1, y1, fa, y3⟩ := leaveA_ok (show p < 300 by omega) (fun y hy => by have := hm 29 (by omega) y hy; omega) (VB_aw h)
  refine ⟨b1, y1, ?_⟩
  unfold VB mRem rb
  simp only [k_R]
  refine ⟨⟨(fa.1 1110 rfl 0).trans (VB_nr h).1, (VB_nr h).2⟩, fun r hr => (fa.2.1 90 rfl r).trans (VB_r0 h r hr), fun s hs => (fa.2.1 93 rfl s).trans (VB_r1 h s hs), (fa.1 1152 rfl 0).trans (VB_tm h), (fa.1 1158 rfl 0).trans (VB_sd h), fun i hi => (fa.2.1 118 rfl i).trans ((VB_nu h) i hi), (fa.1 1153 rfl 0).trans (VB_st h), (fa.1 1154 rfl 0).trans (VB_tn h), (fa.1 1155 rfl 0).trans (VB_N h), (fa.1 1156 rfl 0).trans (VB_en h), (fa.1 1157 rfl 0).trans (VB_wg h), (fa.1 1161 rfl 0).trans (VB_tc h), fun k h1 h2 => ⟨(fa.2.1 116 rfl k).trans ((VB_tt h) k h1 h2).1, (fa.2.1 117 rfl k).trans ((VB_tt h) k h1 h2).2⟩, (fa.1 1159 rfl 0).trans (VB_am h), fun q hq => (fa.2.1 129 rfl q).trans ((VB_th h) q hq), fun q hq => (fa.2.1 130 rfl q).trans ((VB_sv h) q hq), fun q hq => (fa.2.1 131 rfl q).trans ((VB_lt h) q hq), fun q hq => (fa.2.1 132 rfl q).trans ((VB_mb h) q hq), fun q hq => (fa.2.2.1 133 rfl q).trans ((VB_s0 h) q hq), fun q hq => (fa.2.2.1 134 rfl q).trans ((VB_s1 h) q hq), fun q hq => (fa.2.2.1 135 rfl q).trans ((VB_s2 h) q hq), fun p hp => (fa.2.1 119 rfl p).trans ((VB_df h) p hp), fun p hp => (fa.2.1 120 rfl p).trans ((VB_ss h) p hp), fun p hp => (fa.2.1 121 rfl p).trans ((VB_at h) p hp), fun p hp hs => (fa.2.1 122 rfl p).trans ((VB_du h) p hp hs), fun p hp hs => (fa.2.2.1 123 rfl p).trans ((VB_pa h) p hp hs), (fa.2.2.2.1 1160 rfl 0).trans (VB_P h), fun p hp => (fa.2.1 124 rfl p).trans ((VB_si h) p hp), fun p hp hs => (fa.2.1 125 rfl p).trans ((VB_wh h) p hp hs), fun p hp => (fa.2.1 126 rfl p).trans ((VB_wr h) p hp), fun p hp i hi => (fa.2.1 127 rfl _).trans ((VB_vl h) p hp i hi), fun p hp i hi => (fa.2.1 128 rfl _).trans ((VB_un h) p hp i hi), ?_, ?_⟩
  · intro ρ1 hρ1
    rw [rem_out (hr ρ1 hρ1)]
    exact rw1_fr (VB_ro h ρ1 hρ1) fa rfl rfl rfl
  · exact y3
-- single writes
def mTh (M : Md) (q : Nat) (v : Int32) : Md := s_th M (up (m_th M) q v)
def mU (M : Md) (p r v : Nat) : Md := s_U M (up2 (m_U M) p r v)
def mServ (M : Md) (q : Nat) : Md := s_sv M (up (m_sv M) q (m_sv M q + 1))
def mLate (M : Md) (q : Nat) (z : Int64) : Md := s_s2 (s_lt (s_sv M (up (m_sv M) q (m_sv M q + 1))) (up (m_lt M) q (m_lt M q + 1))) (up (m_s2 M) q (m_s2 M q + z))
theorem cl_th {rm : Nat → Nat} {a : ts} {M : Md} {q : Nat} {v : Int32} (h : VA rm a M) : VA rm (wI a 703 q v) (mTh M q v) := by
  have fa : fr [703] a (wI a 703 q v) := fr_wI fr_rf rfl
  unfold VA mTh
  simp only [k_th]
  exact ⟨(fa.1 800 rfl 0).trans (VA_tm h), (fa.1 801 rfl 0).trans (VA_sd h), fun i hi => (fa.2.1 36 rfl i).trans ((VA_nu h) i hi), (fa.1 1004 rfl 0).trans (VA_st h), (fa.1 1005 rfl 0).trans (VA_tn h), (fa.1 904 rfl 0).trans (VA_N h), (fa.1 905 rfl 0).trans (VA_en h), (fa.1 906 rfl 0).trans (VA_wg h), (fa.1 1008 rfl 0).trans (VA_tc h), fun k h1 h2 => ⟨(fa.2.1 85 rfl k).trans ((VA_tt h) k h1 h2).1, (fa.2.1 86 rfl k).trans ((VA_tt h) k h1 h2).2⟩, (fa.2.2.2.2.1 1003 rfl 0).trans (VA_am h), fun q1 hq1 => upI (VA_th h q1 hq1), fun q hq => (fa.1 704 rfl q).trans ((VA_rm h) q hq), fun q hq => (fa.1 705 rfl q).trans ((VA_sv h) q hq), fun q hq => (fa.1 706 rfl q).trans ((VA_lt h) q hq), fun q hq => (fa.1 707 rfl q).trans ((VA_mw h) q hq), fun q hq => (fa.2.2.2.1 708 rfl q).trans ((VA_s0 h) q hq), fun q hq => (fa.2.2.2.1 709 rfl q).trans ((VA_s1 h) q hq), fun q hq => (fa.2.2.2.1 710 rfl q).trans ((VA_s2 h) q hq), fun q hq => (fa.1 700 rfl q).trans ((VA_iS h) q hq), by rw [fa.2.2.2.2.2.2.2.1 rfl]; exact (VA_gm h), fun p hp => (fa.1 500 rfl p).trans ((VA_no h) p (by rw [fa.2.2.2.2.2.2.2.1 rfl] at hp; exact hp)), fun p hp => (fa.1 501 rfl p).trans ((VA_df h) p hp), fun p hp => (fa.1 502 rfl p).trans ((VA_ss h) p hp), fun p hp => (fa.1 503 rfl p).trans ((VA_at h) p hp), fun p hp => (fa.1 504 rfl p).trans ((VA_wr h) p hp), fun p hp => (fa.1 508 rfl p).trans ((VA_ke h) p hp), fun p hp => (fa.1 510 rfl p).trans ((VA_si h) p hp), fun p hp => (fa.1 512 rfl p).trans ((VA_ao h) p hp), fun p hp hs => (fa.1 511 rfl p).trans ((VA_wh h) p hp hs), fun p hp i hi => (fa.2.2.2.2.2.1 rfl p i).trans ((VA_vl h) p hp i hi), fun p hp i hi => (fa.2.2.2.2.2.2.1 rfl p i).trans ((VA_un h) p hp i hi), fun ρ hρ => ln_congr (fa.2.2.2.2.1 600 rfl _) (fa.1 601 rfl _) (fun x _ => fa.2.2.2.2.1 509 rfl x) (fun x _ => fa.2.2.2.2.1 507 rfl x) (by rw [fa.2.2.2.2.2.2.2.1 rfl]; exact Nat.le_refl _) ((VA_li h) ρ hρ), fun p hp hn => (fa.2.2.2.2.1 507 rfl p).trans ((VA_nw h) p hp hn)⟩
theorem cl_U {rm : Nat → Nat} {a : ts} {M : Md} {p r v : Nat} (h : VA rm a M) : VA rm (wU a p r (nI v)) (mU M p r v) := by
  have fa : fr [9002] a (wU a p r (nI v)) := fr_wU fr_rf rfl
  unfold VA mU
  simp only [k_U]
  exact ⟨(fa.1 800 rfl 0).trans (VA_tm h), (fa.1 801 rfl 0).trans (VA_sd h), fun i hi => (fa.2.1 36 rfl i).trans ((VA_nu h) i hi), (fa.1 1004 rfl 0).trans (VA_st h), (fa.1 1005 rfl 0).trans (VA_tn h), (fa.1 904 rfl 0).trans (VA_N h), (fa.1 905 rfl 0).trans (VA_en h), (fa.1 906 rfl 0).trans (VA_wg h), (fa.1 1008 rfl 0).trans (VA_tc h), fun k h1 h2 => ⟨(fa.2.1 85 rfl k).trans ((VA_tt h) k h1 h2).1, (fa.2.1 86 rfl k).trans ((VA_tt h) k h1 h2).2⟩, (fa.2.2.2.2.1 1003 rfl 0).trans (VA_am h), fun q hq => (fa.1 703 rfl q).trans ((VA_th h) q hq), fun q hq => (fa.1 704 rfl q).trans ((VA_rm h) q hq), fun q hq => (fa.1 705 rfl q).trans ((VA_sv h) q hq), fun q hq => (fa.1 706 rfl q).trans ((VA_lt h) q hq), fun q hq => (fa.1 707 rfl q).trans ((VA_mw h) q hq), fun q hq => (fa.2.2.2.1 708 rfl q).trans ((VA_s0 h) q hq), fun q hq => (fa.2.2.2.1 709 rfl q).trans ((VA_s1 h) q hq), fun q hq => (fa.2.2.2.1 710 rfl q).trans ((VA_s2 h) q hq), fun q hq => (fa.1 700 rfl q).trans ((VA_iS h) q hq), by rw [fa.2.2.2.2.2.2.2.1 rfl]; exact (VA_gm h), fun p hp => (fa.1 500 rfl p).trans ((VA_no h) p (by rw [fa.2.2.2.2.2.2.2.1 rfl] at hp; exact hp)), fun p hp => (fa.1 501 rfl p).trans ((VA_df h) p hp), fun p hp => (fa.1 502 rfl p).trans ((VA_ss h) p hp), fun p hp => (fa.1 503 rfl p).trans ((VA_at h) p hp), fun p hp => (fa.1 504 rfl p).trans ((VA_wr h) p hp), fun p hp => (fa.1 508 rfl p).trans ((VA_ke h) p hp), fun p hp => (fa.1 510 rfl p).trans ((VA_si h) p hp), fun p hp => (fa.1 512 rfl p).trans ((VA_ao h) p hp), fun p hp hs => (fa.1 511 rfl p).trans ((VA_wh h) p hp hs), fun p hp i hi => (fa.2.2.2.2.2.1 rfl p i).trans ((VA_vl h) p hp i hi), fun p1 hp1 i hi => by
    rw [gU_wU]
    by_cases c : p1 = p ∧ i = r
    · rw [if_pos c, c.1, c.2, up2_s]
    · rw [if_neg c, up2_n c]; exact VA_un h p1 hp1 i hi, fun ρ hρ => ln_congr (fa.2.2.2.2.1 600 rfl _) (fa.1 601 rfl _) (fun x _ => fa.2.2.2.2.1 509 rfl x) (fun x _ => fa.2.2.2.2.1 507 rfl x) (by rw [fa.2.2.2.2.2.2.2.1 rfl]; exact Nat.le_refl _) ((VA_li h) ρ hρ), fun p hp hn => (fa.2.2.2.2.1 507 rfl p).trans ((VA_nw h) p hp hn)⟩
theorem cl_sv {rm : Nat → Nat} {a : ts} {M : Md} {q : Nat} (h : VA rm a M) (hq : q < 14) : VA rm (wI a 705 q (gI a 705 q + 1)) (mServ M q) := by
  have fa : fr [705] a (wI a 705 q (gI a 705 q + 1)) := fr_wI fr_rf rfl
  unfold VA mServ
  simp only [k_sv]
  exact ⟨(fa.1 800 rfl 0).trans (VA_tm h), (fa.1 801 rfl 0).trans (VA_sd h), fun i hi => (fa.2.1 36 rfl i).trans ((VA_nu h) i hi), (fa.1 1004 rfl 0).trans (VA_st h), (fa.1 1005 rfl 0).trans (VA_tn h), (fa.1 904 rfl 0).trans (VA_N h), (fa.1 905 rfl 0).trans (VA_en h), (fa.1 906 rfl 0).trans (VA_wg h), (fa.1 1008 rfl 0).trans (VA_tc h), fun k h1 h2 => ⟨(fa.2.1 85 rfl k).trans ((VA_tt h) k h1 h2).1, (fa.2.1 86 rfl k).trans ((VA_tt h) k h1 h2).2⟩, (fa.2.2.2.2.1 1003 rfl 0).trans (VA_am h), fun q hq => (fa.1 703 rfl q).trans ((VA_th h) q hq), fun q hq => (fa.1 704 rfl q).trans ((VA_rm h) q hq), fun q1 hq1 => by rw [VA_sv h q hq]; exact upI (VA_sv h q1 hq1), fun q hq => (fa.1 706 rfl q).trans ((VA_lt h) q hq), fun q hq => (fa.1 707 rfl q).trans ((VA_mw h) q hq), fun q hq => (fa.2.2.2.1 708 rfl q).trans ((VA_s0 h) q hq), fun q hq => (fa.2.2.2.1 709 rfl q).trans ((VA_s1 h) q hq), fun q hq => (fa.2.2.2.1 710 rfl q).trans ((VA_s2 h) q hq), fun q hq => (fa.1 700 rfl q).trans ((VA_iS h) q hq), by rw [fa.2.2.2.2.2.2.2.1 rfl]; exact (VA_gm h), fun p hp => (fa.1 500 rfl p).trans ((VA_no h) p (by rw [fa.2.2.2.2.2.2.2.1 rfl] at hp; exact hp)), fun p hp => (fa.1 501 rfl p).trans ((VA_df h) p hp), fun p hp => (fa.1 502 rfl p).trans ((VA_ss h) p hp), fun p hp => (fa.1 503 rfl p).trans ((VA_at h) p hp), fun p hp => (fa.1 504 rfl p).trans ((VA_wr h) p hp), fun p hp => (fa.1 508 rfl p).trans ((VA_ke h) p hp), fun p hp => (fa.1 510 rfl p).trans ((VA_si h) p hp), fun p hp => (fa.1 512 rfl p).trans ((VA_ao h) p hp), fun p hp hs => (fa.1 511 rfl p).trans ((VA_wh h) p hp hs), fun p hp i hi => (fa.2.2.2.2.2.1 rfl p i).trans ((VA_vl h) p hp i hi), fun p hp i hi => (fa.2.2.2.2.2.2.1 rfl p i).trans ((VA_un h) p hp i hi), fun ρ hρ => ln_congr (fa.2.2.2.2.1 600 rfl _) (fa.1 601 rfl _) (fun x _ => fa.2.2.2.2.1 509 rfl x) (fun x _ => fa.2.2.2.2.1 507 rfl x) (by rw [fa.2.2.2.2.2.2.2.1 rfl]; exact Nat.le_refl _) ((VA_li h) ρ hρ), fun p hp hn => (fa.2.2.2.2.1 507 rfl p).trans ((VA_nw h) p hp hn)⟩
theorem cl_late {rm : Nat → Nat} {a : ts} {M : Md} {q : Nat} {z : Int64} (h : VA rm a M) (hq : q < 14) : ∃ a1, cK_countLate q z a = some a1 ∧ VA rm a1 (mLate M q z) ∧ fr [705, 706, 4710] a a1 := by
  generalize ha : wJ (wI (wI a 705 q (m_sv M q + 1)) 706 q (m_lt M q + 1)) 710 q (m_s2 M q + z) = a1
  have fa : fr [705, 706, 4710] a a1 := by rw [← ha]; exact fr_wJ (fr_wI (fr_wI fr_rf rfl) rfl) rfl
  refine ⟨a1, ?_, ?_, fa⟩
  · unfold cK_countLate
    rw [if_pos hq, VA_sv h q hq, show gI (wI a 705 q (m_sv M q + 1)) 706 q = m_lt M q from VA_lt h q hq, show gJ (wI (wI a 705 q (m_sv M q + 1)) 706 q (m_lt M q + 1)) 710 q = m_s2 M q from VA_s2 h q hq, ha]
  unfold VA mLate
  simp only [k_sv, k_lt, k_s2]
  refine ⟨(fa.1 800 rfl 0).trans (VA_tm h), (fa.1 801 rfl 0).trans (VA_sd h), fun i hi => (fa.2.1 36 rfl i).trans ((VA_nu h) i hi), (fa.1 1004 rfl 0).trans (VA_st h), (fa.1 1005 rfl 0).trans (VA_tn h), (fa.1 904 rfl 0).trans (VA_N h), (fa.1 905 rfl 0).trans (VA_en h), (fa.1 906 rfl 0).trans (VA_wg h), (fa.1 1008 rfl 0).trans (VA_tc h), fun k h1 h2 => ⟨(fa.2.1 85 rfl k).trans ((VA_tt h) k h1 h2).1, (fa.2.1 86 rfl k).trans ((VA_tt h) k h1 h2).2⟩, (fa.2.2.2.2.1 1003 rfl 0).trans (VA_am h), fun q hq => (fa.1 703 rfl q).trans ((VA_th h) q hq), fun q hq => (fa.1 704 rfl q).trans ((VA_rm h) q hq), ?_, ?_, fun q hq => (fa.1 707 rfl q).trans ((VA_mw h) q hq), fun q hq => (fa.2.2.2.1 708 rfl q).trans ((VA_s0 h) q hq), fun q hq => (fa.2.2.2.1 709 rfl q).trans ((VA_s1 h) q hq), ?_, fun q hq => (fa.1 700 rfl q).trans ((VA_iS h) q hq), by rw [fa.2.2.2.2.2.2.2.1 rfl]; exact (VA_gm h), fun p hp => (fa.1 500 rfl p).trans ((VA_no h) p (by rw [fa.2.2.2.2.2.2.2.1 rfl] at hp; exact hp)), fun p hp => (fa.1 501 rfl p).trans ((VA_df h) p hp), fun p hp => (fa.1 502 rfl p).trans ((VA_ss h) p hp), fun p hp => (fa.1 503 rfl p).trans ((VA_at h) p hp), fun p hp => (fa.1 504 rfl p).trans ((VA_wr h) p hp), fun p hp => (fa.1 508 rfl p).trans ((VA_ke h) p hp), fun p hp => (fa.1 510 rfl p).trans ((VA_si h) p hp), fun p hp => (fa.1 512 rfl p).trans ((VA_ao h) p hp), fun p hp hs => (fa.1 511 rfl p).trans ((VA_wh h) p hp hs), fun p hp i hi => (fa.2.2.2.2.2.1 rfl p i).trans ((VA_vl h) p hp i hi), fun p hp i hi => (fa.2.2.2.2.2.2.1 rfl p i).trans ((VA_un h) p hp i hi), fun ρ hρ => ln_congr (fa.2.2.2.2.1 600 rfl _) (fa.1 601 rfl _) (fun x _ => fa.2.2.2.2.1 509 rfl x) (fun x _ => fa.2.2.2.2.1 507 rfl x) (by rw [fa.2.2.2.2.2.2.2.1 rfl]; exact Nat.le_refl _) ((VA_li h) ρ hρ), fun p hp hn => (fa.2.2.2.2.1 507 rfl p).trans ((VA_nw h) p hp hn)⟩
  · intro q1 hq1
    rw [← ha]; exact upI (VA_sv h q1 hq1)
  · intro q1 hq1
    rw [← ha]; exact upI (VA_lt h q1 hq1)
  · intro q1 hq1
    rw [← ha]
    by_cases c : q1 = q
    · rw [c, up_s]; exact gJ_wJs
    · rw [up_n c, gJ_wJn c]; exact VA_s2 h q1 hq1
theorem rc_th {rm : Nat → Nat} {b : ts} {M : Md} {q : Nat} {v : Int32} (h : VB rm b M) : VB rm (wA b 129 q v) (mTh M q v) := by
  have fa : fr [2129] b (wA b 129 q v) := fr_wA fr_rf rfl
  unfold VB mTh rb
  simp only [k_th]
  exact ⟨⟨(fa.1 1110 rfl 0).trans (VB_nr h).1, (VB_nr h).2⟩, fun r hr => (fa.2.1 90 rfl r).trans (VB_r0 h r hr), fun s hs => (fa.2.1 93 rfl s).trans (VB_r1 h s hs), (fa.1 1152 rfl 0).trans (VB_tm h), (fa.1 1158 rfl 0).trans (VB_sd h), fun i hi => (fa.2.1 118 rfl i).trans ((VB_nu h) i hi), (fa.1 1153 rfl 0).trans (VB_st h), (fa.1 1154 rfl 0).trans (VB_tn h), (fa.1 1155 rfl 0).trans (VB_N h), (fa.1 1156 rfl 0).trans (VB_en h), (fa.1 1157 rfl 0).trans (VB_wg h), (fa.1 1161 rfl 0).trans (VB_tc h), fun k h1 h2 => ⟨(fa.2.1 116 rfl k).trans ((VB_tt h) k h1 h2).1, (fa.2.1 117 rfl k).trans ((VB_tt h) k h1 h2).2⟩, (fa.1 1159 rfl 0).trans (VB_am h), fun q1 hq1 => upA (VB_th h q1 hq1), fun q hq => (fa.2.1 130 rfl q).trans ((VB_sv h) q hq), fun q hq => (fa.2.1 131 rfl q).trans ((VB_lt h) q hq), fun q hq => (fa.2.1 132 rfl q).trans ((VB_mb h) q hq), fun q hq => (fa.2.2.1 133 rfl q).trans ((VB_s0 h) q hq), fun q hq => (fa.2.2.1 134 rfl q).trans ((VB_s1 h) q hq), fun q hq => (fa.2.2.1 135 rfl q).trans ((VB_s2 h) q hq), fun p hp => (fa.2.1 119 rfl p).trans ((VB_df h) p hp), fun p hp => (fa.2.1 120 rfl p).trans ((VB_ss h) p hp), fun p hp => (fa.2.1 121 rfl p).trans ((VB_at h) p hp), fun p hp hs => (fa.2.1 122 rfl p).trans ((VB_du h) p hp hs), fun p hp hs => (fa.2.2.1 123 rfl p).trans ((VB_pa h) p hp hs), (fa.2.2.2.1 1160 rfl 0).trans (VB_P h), fun p hp => (fa.2.1 124 rfl p).trans ((VB_si h) p hp), fun p hp hs => (fa.2.1 125 rfl p).trans ((VB_wh h) p hp hs), fun p hp => (fa.2.1 126 rfl p).trans ((VB_wr h) p hp), fun p hp i hi => (fa.2.1 127 rfl _).trans ((VB_vl h) p hp i hi), fun p hp i hi => (fa.2.1 128 rfl _).trans ((VB_un h) p hp i hi), fun ρ hρ => rw1_fr ((VB_ro h) ρ hρ) fa rfl rfl rfl, aw1_fr (VB_aw h) fa rfl rfl⟩
theorem rc_U {rm : Nat → Nat} {b : ts} {M : Md} {p r v : Nat} (h : VB rm b M) (hr : r < 8) : VB rm (wA b 128 (8 * p + r) (nI v)) (mU M p r v) := by
  have fa : fr [2128] b (wA b 128 (8 * p + r) (nI v)) := fr_wA fr_rf rfl
  unfold VB mU rb
  simp only [k_U]
  exact ⟨⟨(fa.1 1110 rfl 0).trans (VB_nr h).1, (VB_nr h).2⟩, fun r hr => (fa.2.1 90 rfl r).trans (VB_r0 h r hr), fun s hs => (fa.2.1 93 rfl s).trans (VB_r1 h s hs), (fa.1 1152 rfl 0).trans (VB_tm h), (fa.1 1158 rfl 0).trans (VB_sd h), fun i hi => (fa.2.1 118 rfl i).trans ((VB_nu h) i hi), (fa.1 1153 rfl 0).trans (VB_st h), (fa.1 1154 rfl 0).trans (VB_tn h), (fa.1 1155 rfl 0).trans (VB_N h), (fa.1 1156 rfl 0).trans (VB_en h), (fa.1 1157 rfl 0).trans (VB_wg h), (fa.1 1161 rfl 0).trans (VB_tc h), fun k h1 h2 => ⟨(fa.2.1 116 rfl k).trans ((VB_tt h) k h1 h2).1, (fa.2.1 117 rfl k).trans ((VB_tt h) k h1 h2).2⟩, (fa.1 1159 rfl 0).trans (VB_am h), fun q hq => (fa.2.1 129 rfl q).trans ((VB_th h) q hq), fun q hq => (fa.2.1 130 rfl q).trans ((VB_sv h) q hq), fun q hq => (fa.2.1 131 rfl q).trans ((VB_lt h) q hq), fun q hq => (fa.2.1 132 rfl q).trans ((VB_mb h) q hq), fun q hq => (fa.2.2.1 133 rfl q).trans ((VB_s0 h) q hq), fun q hq => (fa.2.2.1 134 rfl q).trans ((VB_s1 h) q hq), fun q hq => (fa.2.2.1 135 rfl q).trans ((VB_s2 h) q hq), fun p hp => (fa.2.1 119 rfl p).trans ((VB_df h) p hp), fun p hp => (fa.2.1 120 rfl p).trans ((VB_ss h) p hp), fun p hp => (fa.2.1 121 rfl p).trans ((VB_at h) p hp), fun p hp hs => (fa.2.1 122 rfl p).trans ((VB_du h) p hp hs), fun p hp hs => (fa.2.2.1 123 rfl p).trans ((VB_pa h) p hp hs), (fa.2.2.2.1 1160 rfl 0).trans (VB_P h), fun p hp => (fa.2.1 124 rfl p).trans ((VB_si h) p hp), fun p hp hs => (fa.2.1 125 rfl p).trans ((VB_wh h) p hp hs), fun p hp => (fa.2.1 126 rfl p).trans ((VB_wr h) p hp), fun p hp i hi => (fa.2.1 127 rfl _).trans ((VB_vl h) p hp i hi), fun p1 hp1 i hi => by
    by_cases c : p1 = p ∧ i = r
    · rw [c.1, c.2, up2_s, gA_wAs]
    · rw [up2_n c, gA_wAn (by omega)]; exact VB_un h p1 hp1 i hi, fun ρ hρ => rw1_fr ((VB_ro h) ρ hρ) fa rfl rfl rfl, aw1_fr (VB_aw h) fa rfl rfl⟩
theorem rc_sv {rm : Nat → Nat} {b : ts} {M : Md} {q : Nat} (h : VB rm b M) (hq : q < 14) : VB rm (wA b 130 q (gA b 130 q + 1)) (mServ M q) := by
  have fa : fr [2130] b (wA b 130 q (gA b 130 q + 1)) := fr_wA fr_rf rfl
  unfold VB mServ rb
  simp only [k_sv]
  exact ⟨⟨(fa.1 1110 rfl 0).trans (VB_nr h).1, (VB_nr h).2⟩, fun r hr => (fa.2.1 90 rfl r).trans (VB_r0 h r hr), fun s hs => (fa.2.1 93 rfl s).trans (VB_r1 h s hs), (fa.1 1152 rfl 0).trans (VB_tm h), (fa.1 1158 rfl 0).trans (VB_sd h), fun i hi => (fa.2.1 118 rfl i).trans ((VB_nu h) i hi), (fa.1 1153 rfl 0).trans (VB_st h), (fa.1 1154 rfl 0).trans (VB_tn h), (fa.1 1155 rfl 0).trans (VB_N h), (fa.1 1156 rfl 0).trans (VB_en h), (fa.1 1157 rfl 0).trans (VB_wg h), (fa.1 1161 rfl 0).trans (VB_tc h), fun k h1 h2 => ⟨(fa.2.1 116 rfl k).trans ((VB_tt h) k h1 h2).1, (fa.2.1 117 rfl k).trans ((VB_tt h) k h1 h2).2⟩, (fa.1 1159 rfl 0).trans (VB_am h), fun q hq => (fa.2.1 129 rfl q).trans ((VB_th h) q hq), fun q1 hq1 => by rw [VB_sv h q hq]; exact upA (VB_sv h q1 hq1), fun q hq => (fa.2.1 131 rfl q).trans ((VB_lt h) q hq), fun q hq => (fa.2.1 132 rfl q).trans ((VB_mb h) q hq), fun q hq => (fa.2.2.1 133 rfl q).trans ((VB_s0 h) q hq), fun q hq => (fa.2.2.1 134 rfl q).trans ((VB_s1 h) q hq), fun q hq => (fa.2.2.1 135 rfl q).trans ((VB_s2 h) q hq), fun p hp => (fa.2.1 119 rfl p).trans ((VB_df h) p hp), fun p hp => (fa.2.1 120 rfl p).trans ((VB_ss h) p hp), fun p hp => (fa.2.1 121 rfl p).trans ((VB_at h) p hp), fun p hp hs => (fa.2.1 122 rfl p).trans ((VB_du h) p hp hs), fun p hp hs => (fa.2.2.1 123 rfl p).trans ((VB_pa h) p hp hs), (fa.2.2.2.1 1160 rfl 0).trans (VB_P h), fun p hp => (fa.2.1 124 rfl p).trans ((VB_si h) p hp), fun p hp hs => (fa.2.1 125 rfl p).trans ((VB_wh h) p hp hs), fun p hp => (fa.2.1 126 rfl p).trans ((VB_wr h) p hp), fun p hp i hi => (fa.2.1 127 rfl _).trans ((VB_vl h) p hp i hi), fun p hp i hi => (fa.2.1 128 rfl _).trans ((VB_un h) p hp i hi), fun ρ hρ => rw1_fr ((VB_ro h) ρ hρ) fa rfl rfl rfl, aw1_fr (VB_aw h) fa rfl rfl⟩
theorem rc_late {rm : Nat → Nat} {b : ts} {M : Md} {q : Nat} {z : Int64} (h : VB rm b M) (hq : q < 14) : VB rm (wB (wA (wA b 130 q (m_sv M q + 1)) 131 q (m_lt M q + 1)) 135 q (m_s2 M q + z)) (mLate M q z) := by
  generalize hb : wB (wA (wA b 130 q (m_sv M q + 1)) 131 q (m_lt M q + 1)) 135 q (m_s2 M q + z) = b1
  have fa : fr [2130, 2131, 3135] b b1 := by rw [← hb]; exact fr_wB (fr_wA (fr_wA fr_rf rfl) rfl) rfl
  unfold VB mLate rb
  simp only [k_sv, k_lt, k_s2]
  refine ⟨⟨(fa.1 1110 rfl 0).trans (VB_nr h).1, (VB_nr h).2⟩, fun r hr => (fa.2.1 90 rfl r).trans (VB_r0 h r hr), fun s hs => (fa.2.1 93 rfl s).trans (VB_r1 h s hs), (fa.1 1152 rfl 0).trans (VB_tm h), (fa.1 1158 rfl 0).trans (VB_sd h), fun i hi => (fa.2.1 118 rfl i).trans ((VB_nu h) i hi), (fa.1 1153 rfl 0).trans (VB_st h), (fa.1 1154 rfl 0).trans (VB_tn h), (fa.1 1155 rfl 0).trans (VB_N h), (fa.1 1156 rfl 0).trans (VB_en h), (fa.1 1157 rfl 0).trans (VB_wg h), (fa.1 1161 rfl 0).trans (VB_tc h), fun k h1 h2 => ⟨(fa.2.1 116 rfl k).trans ((VB_tt h) k h1 h2).1, (fa.2.1 117 rfl k).trans ((VB_tt h) k h1 h2).2⟩, (fa.1 1159 rfl 0).trans (VB_am h), fun q hq => (fa.2.1 129 rfl q).trans ((VB_th h) q hq), ?_, ?_, fun q hq => (fa.2.1 132 rfl q).trans ((VB_mb h) q hq), fun q hq => (fa.2.2.1 133 rfl q).trans ((VB_s0 h) q hq), fun q hq => (fa.2.2.1 134 rfl q).trans ((VB_s1 h) q hq), ?_, fun p hp => (fa.2.1 119 rfl p).trans ((VB_df h) p hp), fun p hp => (fa.2.1 120 rfl p).trans ((VB_ss h) p hp), fun p hp => (fa.2.1 121 rfl p).trans ((VB_at h) p hp), fun p hp hs => (fa.2.1 122 rfl p).trans ((VB_du h) p hp hs), fun p hp hs => (fa.2.2.1 123 rfl p).trans ((VB_pa h) p hp hs), (fa.2.2.2.1 1160 rfl 0).trans (VB_P h), fun p hp => (fa.2.1 124 rfl p).trans ((VB_si h) p hp), fun p hp hs => (fa.2.1 125 rfl p).trans ((VB_wh h) p hp hs), fun p hp => (fa.2.1 126 rfl p).trans ((VB_wr h) p hp), fun p hp i hi => (fa.2.1 127 rfl _).trans ((VB_vl h) p hp i hi), fun p hp i hi => (fa.2.1 128 rfl _).trans ((VB_un h) p hp i hi), fun ρ hρ => rw1_fr ((VB_ro h) ρ hρ) fa rfl rfl rfl, aw1_fr (VB_aw h) fa rfl rfl⟩
  · intro q1 hq1
    rw [← hb]; exact upA (VB_sv h q1 hq1)
  · intro q1 hq1
    rw [← hb]; exact upA (VB_lt h q1 hq1)
  · intro q1 hq1
    rw [← hb]
    by_cases c : q1 = q
    · rw [c, up_s]; exact gB_wBs
    · rw [up_n c, gB_wBn c]; exact VB_s2 h q1 hq1
/-- one that waited is counted, and is READY -/
theorem rc_count {rm : Nat → Nat} {b : ts} {M : Md} {q x : Nat} (h : VB rm b M) (hN : m_N M ≤ 300) (hx : x < m_N M) (hq : q < 14) (hl : ¬ (m_am M = some x ∧ m_S M x = 7)) (hs7 : m_S M x ≤ 7) (hr : ∀ ρ, ρ < 28 → x ∉ m_R M ρ) (ham : ∀ p, m_am M = some p → p < m_N M) : ∃ b1, cR_count (nI q) (nI x) b = some b1 ∧ VB rm b1 (mPt (mJn (mSt (mLate M q ((nI (m_tm M) - m_Zs M x).toInt64)) x 0) 28 x (nI (m_tm M))) x) := by
  have z1 := rc_late (z := (nI (m_tm M) - m_Zs M x).toInt64) h hq
  generalize hb : wB (wA (wA b 130 q (m_sv M q + 1)) 131 q (m_lt M q + 1)) 135 q (m_s2 M q + (nI (m_tm M) - m_Zs M x).toInt64) = b0 at z1
  have kN : m_N (mLate M q ((nI (m_tm M) - m_Zs M x).toInt64)) = m_N M := by unfold mLate; simp only [k_sv, k_lt, k_s2]
  have kR : m_R (mLate M q ((nI (m_tm M) - m_Zs M x).toInt64)) = m_R M := by unfold mLate; simp only [k_sv, k_lt, k_s2]
  have kT : gI b0 1152 0 = nI (m_tm M) := by have x0 := VB_tm h; rw [← hb]; exact x0
  obtain ⟨b1, y1, y2⟩ := rc_cal (s := 0) (t := nI (m_tm M)) z1 (by rw [kN]; exact hN) (p := x) (by rw [kN]; exact hx) (by rw [kR]; exact hr) (by omega)
  refine ⟨b1, ?_, y2⟩
  have e24 : cR_count (nI q) (nI x) b = cR_count_24 (nI q) (nI x) 1 b := by
    unfold cR_count
    rw [VB_am h]
    by_cases c : nI x = oi (-2) (m_am M)
    · have c1 : m_am M = some x := by
        cases hm : m_am M with
        | none => rw [hm] at c; exact absurd c (show ¬ nI x = (-2 : Int32) from nI_no2 (by omega))
        | some y => rw [hm] at c; have := ham y hm; rw [nI_inj (a := x) (b := y) (by omega) (by omega) c]
      rw [if_pos c, if_pos (nI_idx (by omega) (by decide)), nI_clamp (by omega), VB_ss h x hx, if_neg (show ¬ nI (m_S M x) = (7 : Int32) from fun z => hl ⟨c1, nI_inj (b := 7) (by omega) (by decide) z⟩)]
    · rw [if_neg c]
  have t1 := VB_tm h
  have t2 := VB_si h x hx
  have t3 := VB_s2 h q hq
  rw [e24]
  unfold cR_count_24
  rw [if_pos (nI_idx hq (by decide)), nI_clamp (by omega), if_neg (by decide), VB_sv h q hq]
  unfold cR_count_51
  rw [if_pos (nI_idx hq (by decide)), if_pos (nI_idx hq (by decide)), nI_clamp (by omega), if_neg (by decide), if_pos (nI_idx (by omega) (by decide)), show gA (wA b 130 q (m_sv M q + 1)) 131 q = m_lt M q from VB_lt h q hq]
  unfold cR_count_80
  rw [if_pos (nI_idx hq (by decide)), nI_clamp (by omega), nI_clamp (by omega), if_neg (by decide), show gI (wA (wA b 130 q (m_sv M q + 1)) 131 q (m_lt M q + 1)) 1152 0 = nI (m_tm M) from t1, show gA (wA (wA b 130 q (m_sv M q + 1)) 131 q (m_lt M q + 1)) 124 x = m_Zs M x from t2, show gB (wA (wA b 130 q (m_sv M q + 1)) 131 q (m_lt M q + 1)) 135 q = m_s2 M q from t3, hb, kT]
  have y1 : cR_calendar (nI x) 0 (nI (m_tm M)) b0 = some b1 := y1
  rw [y1, Option.bind_some]
