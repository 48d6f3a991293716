/-! A STORE SERVES: both sides' loops over those that wait at a store. -/
theorem mRem_id {M : Md} {x : Nat} (h : rem (m_R M) x = m_R M) : mRem M x = M := by
  unfold mRem
  rw [h]
  refine Md_ext ?_ ?_ ?_ ?_ ?_ ?_ ?_ ?_ ?_ ?_ ?_ ?_ ?_ ?_ ?_ ?_ ?_ ?_ ?_ ?_ ?_ ?_ ?_ ?_ ?_ ?_ ?_ ?_ ?_ ?_ ?_ ?_ ?_ ?_ <;> simp only [k_R]
theorem mRem_rem {M : Md} {x : Nat} : mRem (mRem M x) x = mRem M x := mRem_id (by unfold mRem; simp only [k_R]; exact rem_rem)
theorem late_rem {M : Md} {q x : Nat} {z : Int64} : mLate (mRem M x) q z = mRem (mLate M q z) x := by
  unfold mLate mRem
  refine Md_ext ?_ ?_ ?_ ?_ ?_ ?_ ?_ ?_ ?_ ?_ ?_ ?_ ?_ ?_ ?_ ?_ ?_ ?_ ?_ ?_ ?_ ?_ ?_ ?_ ?_ ?_ ?_ ?_ ?_ ?_ ?_ ?_ ?_ ?_ <;> simp only [k_sv, k_lt, k_s2, k_R]
theorem put_rem {M : Md} {x s : Nat} {t : Int32} : mPut (mRem M x) x s t = mPut M x s t := by
  unfold mPut
  rw [mRem_rem]
/-- the one in its own statement is counted, not late -/
theorem rc_own {rm : Nat → Nat} {b : ts} {M : Md} {q x : Nat} (h : VB rm b M) (hN : m_N M ≤ 300) (hx : x < m_N M) (hq : q < 14) (ham : m_am M = some x) (hS : m_S M x = 7) : ∃ b1, cR_count (nI q) (nI x) b = some b1 ∧ VB rm b1 (mServ M q) := by
  generalize hb : wB (wA (wA b 130 q (m_sv M q + 1)) 131 q (m_lt M q + 0)) 135 q (m_s2 M q + 0) = b1
  have fa : fr [2130, 2131, 3135] b b1 := by rw [← hb]; exact fr_wB (fr_wA (fr_wA fr_rf rfl) rfl) rfl
  refine ⟨b1, ?_, ?_⟩
  · have t3 := VB_s2 h q hq
    unfold cR_count
    rw [VB_am h, ham, if_pos (show nI x = oi (-2) (some x) from rfl), if_pos (nI_idx (by omega) (by decide)), nI_clamp (by omega), VB_ss h x hx, hS, if_pos (show nI 7 = (7 : Int32) from rfl)]
    unfold cR_count_24
    rw [if_pos (nI_idx hq (by decide)), nI_clamp (by omega), if_pos rfl, VB_sv h q hq]
    unfold cR_count_51
    rw [if_pos (nI_idx hq (by decide)), if_pos (nI_idx hq (by decide)), nI_clamp (by omega), if_pos rfl, show gA (wA b 130 q (m_sv M q + 1)) 131 q = m_lt M q from VB_lt h q hq]
    unfold cR_count_80
    rw [if_pos (nI_idx hq (by decide)), if_pos rfl, nI_clamp (by omega), show gB (wA (wA b 130 q (m_sv M q + 1)) 131 q (m_lt M q + 0)) 135 q = m_s2 M q from t3, hb]
  · unfold VB mServ rb
    simp only [k_sv]
    refine ⟨⟨(fa.1 1110 rfl 0).trans (VB_nr h).1, (VB_nr h).2⟩, fun r hr => (fa.2.1 90 rfl r).trans ((VB_r0 h) r hr), fun s hs => (fa.2.1 93 rfl s).trans ((VB_r1 h) s hs), (fa.1 1152 rfl 0).trans (VB_tm h), (fa.1 1158 rfl 0).trans (VB_sd h), fun i hi => (fa.2.1 118 rfl i).trans ((VB_nu h) i hi), (fa.1 1153 rfl 0).trans (VB_st h), (fa.1 1154 rfl 0).trans (VB_tn h), (fa.1 1155 rfl 0).trans (VB_N h), (fa.1 1156 rfl 0).trans (VB_en h), (fa.1 1157 rfl 0).trans (VB_wg h), (fa.1 1161 rfl 0).trans (VB_tc h), fun k h1 h2 => ⟨(fa.2.1 116 rfl k).trans ((VB_tt h) k h1 h2).1, (fa.2.1 117 rfl k).trans ((VB_tt h) k h1 h2).2⟩, (fa.1 1159 rfl 0).trans (VB_am h), fun q hq => (fa.2.1 129 rfl q).trans ((VB_th h) q hq), ?_, ?_, fun q hq => (fa.2.1 132 rfl q).trans ((VB_mb h) q hq), fun q hq => (fa.2.2.1 133 rfl q).trans ((VB_s0 h) q hq), fun q hq => (fa.2.2.1 134 rfl q).trans ((VB_s1 h) q hq), ?_, fun p hp => (fa.2.1 119 rfl p).trans ((VB_df h) p hp), fun p hp => (fa.2.1 120 rfl p).trans ((VB_ss h) p hp), fun p hp => (fa.2.1 121 rfl p).trans ((VB_at h) p hp), fun p hp hs => (fa.2.1 122 rfl p).trans ((VB_du h) p hp hs), fun p hp hs => (fa.2.2.1 123 rfl p).trans ((VB_pa h) p hp hs), (fa.2.2.2.1 1160 rfl 0).trans (VB_P h), fun p hp => (fa.2.1 124 rfl p).trans ((VB_si h) p hp), fun p hp hs => (fa.2.1 125 rfl p).trans ((VB_wh h) p hp hs), fun p hp => (fa.2.1 126 rfl p).trans ((VB_wr h) p hp), fun p hp i hi => (fa.2.1 127 rfl _).trans ((VB_vl h) p hp i hi), fun p hp i hi => (fa.2.1 128 rfl _).trans ((VB_un h) p hp i hi), fun ρ hρ => rw1_fr ((VB_ro h) ρ hρ) fa rfl rfl rfl, aw1_fr (VB_aw h) fa rfl rfl⟩
    · intro q1 hq1
      rw [← hb]; exact upA (VB_sv h q1 hq1)
    · intro q1 hq1
      rw [← hb]
      show gA (wA (wA b 130 q (m_sv M q + 1)) 131 q (m_lt M q + 0)) 131 q1 = m_lt M q1
      by_cases c : q1 = q
      · rw [c, Int32.add_zero]
        exact (upA (f := 131) (g := m_lt M) (y := q) (p := q) (v := m_lt M q) (a := wA b 130 q (m_sv M q + 1)) (VB_lt h q hq)).trans up_s
      · exact (upA (f := 131) (g := m_lt M) (y := q1) (p := q) (v := m_lt M q + 0) (a := wA b 130 q (m_sv M q + 1)) (VB_lt h q1 hq1)).trans (up_n c)
    · intro q1 hq1
      rw [← hb]
      by_cases c : q1 = q
      · rw [c, gB_wBs, Int64.add_zero]
      · rw [gB_wBn c]; exact VB_s2 h q1 hq1
theorem row_nil {rm : Nat → Nat} {b : ts} {M : Md} {ρ : Nat} (h : VB rm b M) (hρ : ρ < 28) (e : m_R M ρ = []) : gA b 136 ρ = 0 := by
  have h1 := (VB_ro h ρ hρ).1
  unfold rb at h1
  rw [e] at h1
  exact h1
theorem row_cons {rm : Nat → Nat} {b : ts} {M : Md} {ρ x : Nat} {t : List Nat} (h : VB rm b M) (hρ : ρ < 28) (e : m_R M ρ = x :: t) : gA b 136 ρ = nI (t.length + 1) ∧ t.length + 1 ≤ 300 ∧ gA b 137 (300 * ρ) = nI x ∧ gA b 138 (300 * ρ) = if ρ < 8 then m_K M x else m_A M x := by
  have h0 := VB_ro h ρ hρ
  unfold rb at h0
  rw [e] at h0
  have h1 := h0.1
  have h2 := h0.2.1
  have h3 := h0.2.2 0 (x, if ρ < 8 then m_K M x else m_A M x) rfl
  rw [List.length_map, List.length_cons] at h1 h2
  exact ⟨h1, h2, h3.1, h3.2⟩
theorem lno_a {q : Nat} (h : q < 14) : lno q = 2 * q := if_pos h
theorem lno_b {q : Nat} (h : q < 14) : lno (14 + q) = 2 * q + 1 := by
  unfold lno
  rw [if_neg (by omega), if_pos (by omega)]; omega
/-- what one turn of the two loops does: nobody is served, or x is -/
def Nx (rm : Nat → Nat) (M : Md) (q ρ : Nat) (a b : ts) (cl : Option (Option Nat × ts)) (rf : (Int32 → ts → Option ts) → Option ts) : Prop :=
  (cl = some (none, a) ∧ ∀ kk, rf kk = kk 0 b) ∨
  ∃ x v a1 b1, x ∈ m_R M ρ ∧ cl = some (some x, a1) ∧ VA rm a1 (mRem (mTh M q v) x) ∧ VB rm b1 (mRem (mTh M q v) x) ∧ ∀ kk, rf kk = (cR_count (nI q) (nI x) b1).bind (fun s => kk 1 s)
theorem Di_th {M : Md} {q : Nat} {v : Int32} (h : Di M) : Di (mTh M q v) := by
  unfold Di mTh
  simp only [k_th]
  exact h
theorem th_R {M : Md} {q : Nat} {v : Int32} : m_R (mTh M q v) = m_R M := by unfold mTh; simp only [k_th]
/-- x is taken from a row's head, and what is there changes -/
theorem take_ok {rm : Nat → Nat} {M : Md} {q ρ x : Nat} {t : List Nat} {v : Int32} {a b : ts} (hA : VA rm a M) (hB : VB rm b M) (hd : Di M) (hn : (m_R M ρ).Nodup) (hρ : ρ < 28) (e : m_R M ρ = x :: t) : ∃ a1 b1, cN_takeFirst (lno ρ) (wI a 703 q v) = some (some x, a1) ∧ VA rm a1 (mRem (mTh M q v) x) ∧ cR_drop (nI ρ) 0 (wA b 129 q v) = some b1 ∧ VB rm b1 (mRem (mTh M q v) x) := by
  obtain ⟨a1, h1, h2⟩ := cl_first (cl_th (q := q) (v := v) hA) (Di_th hd) (ρ := ρ) (x := x) (r := t) (by omega) (by rw [th_R]; exact e)
  obtain ⟨b1, h3, h4⟩ := rc_row0 (rc_th (q := q) (v := v) hB) (Di_th hd) (ρ := ρ) (x := x) (r := t) (by rw [th_R]; exact hn) hρ (by rw [th_R]; exact e)
  exact ⟨a1, b1, h1, h2, h3, h4⟩
theorem next44 {rm : Nat → Nat} {M : Md} {o : Option Nat} {s q : Nat} {a b : ts} (hq : q = 8 + s) (hs : s < 6) (hr : s < rm 15) (hA : VA rm a M) (hB : VB rm b M) (hI : Inv rm M o) : Nx rm M q (14 + q) a b (cK_serveNext_44 q a) (fun kk => cR_serveStore_94 (fun _ _ z s => kk z s) (nI s) (nI q) 1 ((300 : Int32) * ((14 : Int32) + nI q)) b) := by
  have hN := (Inv_N hI).1
  have e14 : (14 : Int32) + nI q = nI (14 + q) := nI_add 14 q
  have e300 : (300 : Int32) * nI (14 + q) = nI (300 * (14 + q)) := pk_mul 300 (14 + q)
  have hl := (VA_li hA (14 + q) (by omega)).1
  rw [lno_b (by omega)] at hl
  have hth := VA_th hA q (by omega)
  have hrm := VA_rm hA q (by omega)
  have hth2 := VB_th hB q (by omega)
  have hrm2 := VB_r1 hB s hr
  rw [← hq] at hrm2
  cases hR : m_R M (14 + q) with
  | nil =>
    refine Or.inl ⟨?_, fun kk => ?_⟩
    · unfold cK_serveNext_44
      rw [if_pos (by omega), hl, hR]; rfl
    · dsimp only
      unfold cR_serveStore_94
      rw [e14, e300, if_pos (nI_idx (by omega) (by decide)), nI_clamp (by omega), row_nil hB (by omega) hR, if_pos (by decide)]
  | cons x t =>
    obtain ⟨r1, r2, r3, r4⟩ := row_cons hB (ρ := 14 + q) (by omega) hR
    rw [if_neg (by omega)] at r4
    have hx : x ∈ m_R M (14 + q) := by rw [hR]; exact List.mem_cons_self
    have hxN := (Inv_me hI (14 + q) (by omega) x hx).1
    have hao := VA_ao hA x hxN
    have hxM : x < gM a := Nat.lt_of_lt_of_le hxN (VA_gm hA).1
    by_cases c : nI (rm q) - m_th M q < m_A M x
    · refine Or.inl ⟨?_, fun kk => ?_⟩
      · unfold cK_serveNext_44
        rw [if_pos (by omega), hl, hR]
        dsimp only [List.head?_cons]
        rw [if_pos hxM, hrm, hth, hao, if_pos c]
      · dsimp only
        unfold cR_serveStore_94
        rw [e14, e300, if_pos (nI_idx (by omega) (by decide)), nI_clamp (by omega), r1, if_neg (nI_nle (by omega) (by omega)), if_pos (nI_idx (by omega) (by decide)), if_pos (nI_idx (by omega) (by decide)), if_pos (nI_idx (by omega) (by decide)), nI_clamp (by omega), nI_clamp (by omega), nI_clamp (by omega), hrm2, hth2, r4, if_pos c]
    · obtain ⟨a1, b1, z1, z2, z3, z4⟩ := take_ok (q := q) (v := m_th M q + m_A M x) hA hB (Di_of hI) (Inv_nd hI (14 + q) (by omega)) (by omega) hR
      rw [lno_b (by omega)] at z1
      refine Or.inr ⟨x, m_th M q + m_A M x, a1, b1, hx, ?_, z2, z4, fun kk => ?_⟩
      · unfold cK_serveNext_44
        rw [if_pos (by omega), hl, hR]
        dsimp only [List.head?_cons]
        rw [if_pos hxM, hrm, hth, hao, if_neg c, z1]; rfl
      · dsimp only
        unfold cR_serveStore_94
        rw [e14, e300, if_pos (nI_idx (by omega) (by decide)), nI_clamp (by omega), r1, if_neg (nI_nle (by omega) (by omega)), if_pos (nI_idx (by omega) (by decide)), if_pos (nI_idx (by omega) (by decide)), if_pos (nI_idx (by omega) (by decide)), nI_clamp (by omega), nI_clamp (by omega), nI_clamp (by omega), hrm2, hth2, r4, if_neg c, r3, z3, Option.bind_some]
theorem nextS_ok {rm : Nat → Nat} {M : Md} {o : Option Nat} {s q : Nat} {a b : ts} (hq : q = 8 + s) (hs : s < 6) (hr : s < rm 15) (hA : VA rm a M) (hB : VB rm b M) (hI : Inv rm M o) : ∃ ρ, (ρ = q ∨ ρ = 14 + q) ∧ Nx rm M q ρ a b (cK_serveNext q a) (fun kk => cR_serveStore_7_b (fun _ _ z s => kk z s) (nI s) (nI q) 1 b) := by
  have hN := (Inv_N hI).1
  have e300 : (300 : Int32) * nI q = nI (300 * q) := pk_mul 300 q
  have hl := (VA_li hA q (by omega)).1
  rw [lno_a (by omega)] at hl
  have hth := VA_th hA q (by omega)
  have hth2 := VB_th hB q (by omega)
  have n4 := next44 hq hs hr hA hB hI
  cases hR : m_R M q with
  | nil =>
    refine ⟨14 + q, Or.inr rfl, ?_⟩
    have e1 : cK_serveNext q a = cK_serveNext_44 q a := by
      unfold cK_serveNext
      rw [if_pos (by omega), hl, hR]; rfl
    have e2 : (fun kk : Int32 → ts → Option ts => cR_serveStore_7_b (fun _ _ z s => kk z s) (nI s) (nI q) 1 b) = (fun kk => cR_serveStore_94 (fun _ _ z s => kk z s) (nI s) (nI q) 1 ((300 : Int32) * ((14 : Int32) + nI q)) b) := by
      funext kk
      unfold cR_serveStore_7_b
      rw [if_neg (by decide), if_pos (nI_idx (by omega) (by decide)), nI_clamp (by omega), row_nil hB (by omega) hR, if_pos (by decide)]
    rw [e1, e2]; exact n4
  | cons x t =>
    obtain ⟨r1, r2, r3, r4⟩ := row_cons hB (ρ := q) (by omega) hR
    rw [if_neg (by omega)] at r4
    have hx : x ∈ m_R M q := by rw [hR]; exact List.mem_cons_self
    have hxN := (Inv_me hI q (by omega) x hx).1
    have hao := VA_ao hA x hxN
    have hxM : x < gM a := Nat.lt_of_lt_of_le hxN (VA_gm hA).1
    by_cases c : m_th M q < m_A M x
    · refine ⟨14 + q, Or.inr rfl, ?_⟩
      have e1 : cK_serveNext q a = cK_serveNext_44 q a := by
        unfold cK_serveNext
        rw [if_pos (by omega), hl, hR]
        dsimp only [List.head?_cons]
        rw [if_pos hxM, hth, hao, if_pos c]
      have e2 : (fun kk : Int32 → ts → Option ts => cR_serveStore_7_b (fun _ _ z s => kk z s) (nI s) (nI q) 1 b) = (fun kk => cR_serveStore_94 (fun _ _ z s => kk z s) (nI s) (nI q) 1 ((300 : Int32) * ((14 : Int32) + nI q)) b) := by
        funext kk
        unfold cR_serveStore_7_b
        rw [if_neg (by decide), if_pos (nI_idx (by omega) (by decide)), nI_clamp (by omega), r1, if_neg (nI_nle (by omega) (by omega)), e300, if_pos (nI_idx (by omega) (by decide)), if_pos (nI_idx (by omega) (by decide)), nI_clamp (by omega), hth2, r4, if_pos c]
      rw [e1, e2]; exact n4
    · obtain ⟨a1, b1, z1, z2, z3, z4⟩ := take_ok (q := q) (v := m_th M q - m_A M x) hA hB (Di_of hI) (Inv_nd hI q (by omega)) (by omega) hR
      rw [lno_a (by omega)] at z1
      refine ⟨q, Or.inl rfl, Or.inr ⟨x, m_th M q - m_A M x, a1, b1, hx, ?_, z2, z4, fun kk => ?_⟩⟩
      · unfold cK_serveNext
        rw [if_pos (by omega), hl, hR]
        dsimp only [List.head?_cons]
        rw [if_pos hxM, hth, hao, if_neg c, z1]; rfl
      · dsimp only
        unfold cR_serveStore_7_b
        rw [if_neg (by decide), if_pos (nI_idx (by omega) (by decide)), nI_clamp (by omega), r1, if_neg (nI_nle (by omega) (by omega)), e300, if_pos (nI_idx (by omega) (by decide)), if_pos (nI_idx (by omega) (by decide)), nI_clamp (by omega), hth2, r4, if_neg c, r3, z3, Option.bind_some]
