/-! A STORE SERVES: the two loops side by side. -/
def sv_cl (F q : Nat) (o : Option Nat) (l3 l5 : Int32) (a : ts) : Option (Int32 × ts) := (cK_serveNext q a).bind (fun x => cO_serve_11 F q o l3 x.1 l5 x.2)
theorem serve_eq {q : Nat} {o : Option Nat} {a : ts} (hq : q < 14) : cO_serve q o a = sv_cl tm_N q o 0 0 a := by
  unfold cO_serve sv_cl
  cases o with
  | none =>
    dsimp only
    rw [if_pos hq]
    refine congrArg _ (funext fun x => ?_)
    obtain ⟨y, s⟩ := x
    cases y <;> rfl
  | some p =>
    dsimp only
    rw [if_pos hq]
    refine congrArg _ (funext fun x => ?_)
    obtain ⟨y, s⟩ := x
    cases y <;> rfl
theorem serve77_eq {F q : Nat} {o : Option Nat} {l3 l5 : Int32} {a : ts} (hq : q < 14) : cO_serve_77 (cO_serve_11 F) q o l3 l5 a = sv_cl F q o l3 (l5 + 1) a := by
  unfold cO_serve_77 sv_cl
  cases o with
  | none =>
    dsimp only
    rw [if_pos hq]
    refine congrArg _ (funext fun x => ?_)
    obtain ⟨y, s⟩ := x
    cases y <;> rfl
  | some p =>
    dsimp only
    rw [if_pos hq]
    refine congrArg _ (funext fun x => ?_)
    obtain ⟨y, s⟩ := x
    cases y <;> rfl
theorem sv_none {F q l : Nat} {o : Option Nat} {l5 : Int32} {s : ts} (hl : l ≤ 1) : cO_serve_11 (F + 1) q o (nI l) none l5 s = some (nI l, s) := by
  have h : (nI l = 0 ∨ nI l = 1) := by
    rcases Nat.le_one_iff_eq_zero_or_eq_one.mp hl with e | e
    · rw [e]; exact Or.inl rfl
    · rw [e]; exact Or.inr rfl
  show cO_serve_11_b (cO_serve_11 F) q o (nI l) none l5 s = _
  unfold cO_serve_11_b
  cases o <;> (dsimp only; rw [if_pos h]; exact ite_self _)
theorem sv_own {F q x i : Nat} {l3 : Int32} {s : ts} (hq : q < 14) (hi : i < 300) : cO_serve_11 (F + 1) q (some x) l3 (some x) (nI i) s = sv_cl F q (some x) 1 (nI (i + 1)) (wI s 705 q (gI s 705 q + 1)) := by
  show cO_serve_11_b (cO_serve_11 F) q (some x) l3 (some x) (nI i) s = _
  unfold cO_serve_11_b
  dsimp only
  rw [if_neg (show ¬ (300 : Int32) ≤ nI i from nI_ge (b := 300) hi (by decide)), if_pos rfl, if_pos hq, serve77_eq hq, nI_1]
theorem sv_oth {F q x i : Nat} {o : Option Nat} {l3 : Int32} {s : ts} (hq : q < 14) (hi : i < 300) (hx : x < gM s) (ho : ¬ o = some x) : cO_serve_11 (F + 1) q o l3 (some x) (nI i) s = (cK_countLate q (((gI s 800 0) - (gI s 510 x)).toInt64) s).bind (fun s8 => (cO_putInCalendar x 0 (gI s8 800 0) s8).bind (fun s11 => sv_cl F q o l3 (nI (i + 1)) s11)) := by
  show cO_serve_11_b (cO_serve_11 F) q o l3 (some x) (nI i) s = _
  unfold cO_serve_11_b
  cases o with
  | none =>
    dsimp only
    rw [if_neg (show ¬ (300 : Int32) ≤ nI i from nI_ge (b := 300) hi (by decide)), if_pos hx, if_pos hq]
    simp only [serve77_eq hq, nI_1]
  | some p =>
    dsimp only
    rw [if_neg (show ¬ (300 : Int32) ≤ nI i from nI_ge (b := 300) hi (by decide)), if_neg (show ¬ x = p from fun z => ho (by rw [z])), if_pos hx, if_pos hq]
    simp only [serve77_eq hq, nI_1]
theorem Inv_thS {rm : Nat → Nat} {M : Md} {o : Option Nat} {q : Nat} {v : Int32} (h : Inv rm M o) (hq : 8 ≤ q) : Inv rm (mTh M q v) o := by
  unfold Inv
  simp only [p_mTh]
  obtain ⟨h1, h2, h3, h4, h5, h6, h7, h8, h9, h10, h11, h12⟩ := h
  refine ⟨h1, h2, h3, h4, h5, h6, h7, h8, h9, fun q1 hq1 => ?_, h11, h12⟩
  rw [up_n (by omega)]; exact h10 q1 hq1
theorem Inv_rem7 {rm : Nat → Nat} {M : Md} {o : Option Nat} {x : Nat} (h : Inv rm M o) (h5 : 5 ≤ m_S M x) : Inv rm (mRem M x) o := by
  unfold Inv
  simp only [p_mRem]
  refine ⟨Inv_N h, fun ρ hρ => (Inv_nd h ρ hρ).sublist rem_sub, fun ρ hρ p hp => Inv_me h ρ hρ p (mem_rem.mp hp).1, fun ρ ρ1 p h1 h2 h3 h4 => Inv_di h ρ ρ1 p h1 h2 (mem_rem.mp h3).1 (mem_rem.mp h4).1, fun p hp => ⟨(Inv_co h p hp).1, fun h4 => ?_⟩, Inv_ow h, ⟨(Inv_ca h).1.sublist rem_sub, fun x hx => (Inv_ca h).2 x (mem_rem.mp hx).1⟩, fun ρ hρ => (Inv_so h ρ hρ).sublist rem_sub, fun ρ h1 h2 h3 p hp => Inv_k0 h ρ h1 h2 h3 p (mem_rem.mp hp).1, fun q hq => ⟨(Inv_re h q hq).1, (Inv_re h q hq).2.1, fun hne => (Inv_re h q hq).2.2 (fun e => hne (by unfold rem; rw [e]; rfl))⟩, fun q hq => ⟨Nat.le_trans (Nat.add_le_add (wl_sub rem_sub) (wl_sub rem_sub)) (Inv_mw h q hq).1, (Inv_mw h q hq).2⟩, Inv_am h⟩
  obtain ⟨ρ, h1, h2⟩ := (Inv_co h p hp).2 h4
  exact ⟨ρ, h1, mem_rem.mpr ⟨h2, fun e => by rw [e] at h4; omega⟩⟩
theorem Inv_out {rm : Nat → Nat} {M : Md} {p : Nat} (h : Inv rm M (some p)) (hn : ∀ ρ, ρ < 30 → p ∉ m_R M ρ) : Inv rm M none := by
  obtain ⟨h1, h2, h3, h4, h5, h6, h7, h8, h9, h10, h11, h12⟩ := h
  refine ⟨h1, h2, fun ρ hρ x hx => ⟨(h3 ρ hρ x hx).1, Or.inr ?_⟩, h4, h5, fun p h => (by cases h), h7, h8, h9, h10, fun q hq => ?_, h12⟩
  · rcases (h3 ρ hρ x hx).2 with z | z
    · cases z; exact absurd hx (hn ρ hρ)
    · exact z
  · have z := h11 q hq
    rw [wl_out (hn q (by omega)), wl_out (hn (14 + q) (by omega))] at z
    rw [wl_none, wl_none]; exact z
theorem Inv_in {rm : Nat → Nat} {M : Md} {p : Nat} (h : Inv rm M none) (hp : p < m_N M) (hS : m_S M p = 7) : Inv rm M (some p) := by
  obtain ⟨h1, h2, h3, h4, h5, h6, h7, h8, h9, h10, h11, h12⟩ := h
  refine ⟨h1, h2, fun ρ hρ x hx => ⟨(h3 ρ hρ x hx).1, Or.inr ?_⟩, h4, h5, fun p1 h => by cases h; exact ⟨hp, hS⟩, h7, h8, h9, h10, fun q hq => ?_, h12⟩
  · rcases (h3 ρ hρ x hx).2 with z | z
    · cases z
    · exact z
  · have z := h11 q hq
    rw [wl_none, wl_none] at z
    exact ⟨Nat.le_trans (Nat.add_le_add wl_le wl_le) z.1, z.2⟩
theorem Qt_mono {M M1 : Md} {k j : Nat} (h : Qt k M M1) (hk : k ≤ j) : Qt j M M1 := ⟨h.1, by have := h.2.1; omega, h.2.2⟩
theorem len_rem {R : Nat → List Nat} {x ρ : Nat} (h : x ∈ R ρ) (hn : (R ρ).Nodup) : (rem R x ρ).length + 1 = (R ρ).length := by
  obtain ⟨A, B, e⟩ := List.append_of_mem h
  rw [rem_mid e hn, e]
  simp only [List.length_append, List.length_cons]; omega
def SL (M : Md) (q : Nat) (o : Option Nat) (l : Nat) : Prop := l ≤ 1 ∧ ∀ p, o = some p → (l = 0 ∧ (p ∈ m_R M q ∨ p ∈ m_R M (14 + q))) ∨ (l = 1 ∧ ∀ ρ, ρ < 30 → p ∉ m_R M ρ)
theorem ss7_kk {kk : Int32 → Int32 → Int32 → ts → Option ts} {l1 l2 l3 : Int32} {b : ts} : cR_serveStore_7_b kk l1 l2 l3 b = cR_serveStore_7_b (fun _ _ z s => kk l1 l2 z s) l1 l2 l3 b := by
  unfold cR_serveStore_7_b cR_serveStore_94
  rfl
theorem ss7_eq {F : Nat} {l1 l2 l3 : Int32} {b : ts} : cR_serveStore_7 (F + 1) l1 l2 l3 b = (fun kk : Int32 → ts → Option ts => cR_serveStore_7_b (fun _ _ z s => kk z s) l1 l2 l3 b) (fun z s' => cR_serveStore_7 F l1 l2 z s') := by
  rw [cR_serveStore_7.eq_2, ss7_kk]
theorem serve_lp {rm : Nat → Nat} {s q : Nat} {o : Option Nat} (hq : q = 8 + s) (hs : s < 6) (hr : s < rm 15) : ∀ (n F F' i l3 : Nat) (M : Md) (a b : ts), (m_R M q).length + (m_R M (14 + q)).length = n → n + i ≤ 300 → n < F → n + 1 < F' → VA rm a M → VB rm b M → Inv rm M o → (∀ p, o = some p → m_am M = some p) → SL M q o l3 → ∃ l a1 b1 M1, sv_cl F q o (nI l3) (nI i) a = some (nI l, a1) ∧ cR_serveStore_7 F' (nI s) (nI q) 1 b = some b1 ∧ VA rm a1 M1 ∧ VB rm b1 M1 ∧ Inv rm M1 o ∧ Qt n M M1 ∧ SL M1 q o l ∧ ∀ ρ, ρ < 28 → ∀ x, x ∈ m_R M1 ρ → x ∈ m_R M ρ := by
  intro n
  induction n using Nat.strongRecOn with
  | ind n ih =>
  intro F F' i l3 M a b hlen hi hF hF' hA hB hI ham hSL
  obtain ⟨F0, rfl⟩ : ∃ F0, F = F0 + 1 := ⟨F - 1, by omega⟩
  obtain ⟨F1, rfl⟩ : ∃ F1, F' = F1 + 1 + 1 := ⟨F' - 2, by omega⟩
  have eR : cR_serveStore_7 (F1 + 1 + 1) (nI s) (nI q) 1 b = (fun kk : Int32 → ts → Option ts => cR_serveStore_7_b (fun _ _ z s => kk z s) (nI s) (nI q) 1 b) (fun z s' => cR_serveStore_7 (F1 + 1) (nI s) (nI q) z s') := ss7_eq
  obtain ⟨ρ, hρ, hNx⟩ := nextS_ok hq hs hr hA hB hI
  rcases hNx with ⟨c1, c2⟩ | ⟨x, v, a1, b1, hx, c1, zA, zB, c2⟩
  · refine ⟨l3, a, b, M, ?_, ?_, hA, hB, hI, Qt_rf, hSL, fun _ _ _ h => h⟩
    · unfold sv_cl
      rw [c1, Option.bind_some, sv_none hSL.1]
    · rw [eR, c2]
      show cR_serveStore_7 (F1 + 1) (nI s) (nI q) 0 b = some b
      rw [cR_serveStore_7.eq_2]
      unfold cR_serveStore_7_b
      rw [if_pos rfl]
  · have hN := (Inv_N hI).1
    have hρ28 : ρ < 28 := by omega
    have hxN := (Inv_me hI ρ (by omega) x hx).1
    have hx29 : x ∉ m_R M 29 := fun z => absurd (Inv_di hI ρ 29 x (by omega) (by omega) hx z) (by omega)
    have hlen' : (rem (m_R M) x q).length + (rem (m_R M) x (14 + q)).length + 1 = n := by
      rcases hρ with e | e
      · have h1 := len_rem (R := m_R M) (x := x) (ρ := q) (e ▸ hx) (Inv_nd hI q (by omega))
        rw [rem_out (ρ := 14 + q) (fun z => absurd (Inv_di hI q (14 + q) x (by omega) (by omega) (e ▸ hx) z) (by omega))]
        omega
      · have h1 := len_rem (R := m_R M) (x := x) (ρ := 14 + q) (e ▸ hx) (Inv_nd hI (14 + q) (by omega))
        rw [rem_out (ρ := q) (fun z => absurd (Inv_di hI q (14 + q) x (by omega) (by omega) z (e ▸ hx)) (by omega))]
        omega
    by_cases ho : o = some x
    · have hS7 := (Inv_ow hI x ho).2
      obtain ⟨b2, d1, d2⟩ := rc_own (q := q) (x := x) zB (by simp only [p_mRem, p_mTh]; exact hN) (by simp only [p_mRem, p_mTh]; exact hxN) (by omega) (by simp only [p_mRem, p_mTh]; exact ham x ho) (by simp only [p_mRem, p_mTh]; exact hS7)
      have d3 := cl_sv (q := q) zA (by omega)
      have hI1 : Inv rm (mServ (mRem (mTh M q v) x) q) o := Inv_serv (Inv_rem7 (Inv_thS hI (by omega)) (by simp only [p_mTh]; omega))
      obtain ⟨l, a3, b3, M3, e1, e2, e3, e4, e5, e6, e7, e8⟩ := ih ((rem (m_R M) x q).length + (rem (m_R M) x (14 + q)).length) (by omega) F0 (F1 + 1) (i + 1) 1 _ _ _ (by simp only [p_mServ, p_mRem, p_mTh]) (by omega) (by omega) (by omega) d3 d2 hI1 (fun p hp => by simp only [p_mServ, p_mRem, p_mTh]; exact ham p hp) ⟨Nat.le_refl _, fun p hp => Or.inr ⟨rfl, fun ρ1 _ z => by
        simp only [p_mServ, p_mRem, p_mTh] at z
        rw [ho] at hp; cases hp
        exact (mem_rem.mp z).2 rfl⟩⟩
      refine ⟨l, a3, b3, M3, ?_, ?_, e3, e4, e5, ?_, e7, fun ρ1 h1 y hy => ?_⟩
      · unfold sv_cl
        rw [c1, Option.bind_some, ho]
        dsimp only
        rw [sv_own (by omega) (by omega), ← ho]; exact e1
      · rw [eR, c2, d1, Option.bind_some]; exact e2
      · refine Qt_mono (Qt_tr (k := 0) ?_ e6) (by omega)
        unfold Qt
        simp only [p_mServ, p_mRem, p_mTh]
        exact ⟨⟨trivial, trivial, trivial, trivial, trivial, trivial, trivial, trivial, trivial⟩, Nat.le_add_right _ _, fun _ _ => Or.inl trivial, rem_out hx29, fun _ _ _ h => (mem_rem.mp h).1⟩
      · have := e8 ρ1 h1 y hy
        simp only [p_mServ, p_mRem, p_mTh] at this
        exact (mem_rem.mp this).1
    · have hS3 : m_S M x = 3 := by
        rcases (Inv_me hI ρ (by omega) x hx).2 with z | z
        · exact absurd z ho
        · unfold SP at z; omega
      obtain ⟨a2, y1, y2, _⟩ := cl_late (q := q) (z := ((nI (m_tm M) - m_Zs M x).toInt64)) zA (by omega)
      rw [late_rem] at y2
      have hIN : Inv rm (mLate (mTh M q v) q ((nI (m_tm M) - m_Zs M x).toInt64)) o := Inv_late (Inv_thS hI (by omega))
      generalize hNd : mLate (mTh M q v) q ((nI (m_tm M) - m_Zs M x).toInt64) = N at y2 hIN
      have kN : m_N N = m_N M := by rw [← hNd]; simp only [p_mLate, p_mTh]
      have kR : m_R N = m_R M := by rw [← hNd]; simp only [p_mLate, p_mTh]
      have kS : m_S N = m_S M := by rw [← hNd]; simp only [p_mLate, p_mTh]
      have ktm : m_tm N = m_tm M := by rw [← hNd]; simp only [p_mLate, p_mTh]
      have kam : m_am N = m_am M := by rw [← hNd]; simp only [p_mLate, p_mTh]
      obtain ⟨a3, w1, w2⟩ := cl_put (s := 0) (t := nI (m_tm M)) y2 (Di_rem (Di_of hIN)) (fun ρ1 h1 p1 h2 => by simp only [p_mRem] at h2 ⊢; exact (Inv_me hIN ρ1 h1 p1 (mem_rem.mp h2).1).1) (p := x) (by simp only [p_mRem]; rw [kN]; exact hxN) (by omega)
      rw [put_rem] at w2
      have hI2 := Inv_put (s := 0) (t := m_tm M) hIN (p := x) (by rw [kN]; exact hxN) ho (by omega) (by rw [ktm]; exact ⟨Nat.le_refl _, (Inv_N hI).2⟩)
      obtain ⟨b2, d1, d2⟩ := rc_count (q := q) (x := x) zB (by simp only [p_mRem, p_mTh]; exact hN) (by simp only [p_mRem, p_mTh]; exact hxN) (by omega) (by simp only [p_mRem, p_mTh]; omega) (by simp only [p_mRem, p_mTh]; omega) (fun ρ1 _ z => by simp only [p_mRem, p_mTh] at z; exact (mem_rem.mp z).2 rfl) (by simp only [p_mRem, p_mTh]; exact (Inv_am hI).2)
      rw [late_rem] at d2
      simp only [p_mRem, p_mTh] at d2
      rw [hNd] at d2
      have d2 : VB rm b2 (mPut N x 0 (nI (m_tm M))) := d2
      obtain ⟨l, a4, b4, M4, e1, e2, e3, e4, e5, e6, e7, e8⟩ := ih ((rem (m_R M) x q).length + (rem (m_R M) x (14 + q)).length) (by omega) F0 (F1 + 1) (i + 1) l3 _ _ _ (by simp only [p_mPut]; rw [kR, up_n (by omega), up_n (by omega)]) (by omega) (by omega) (by omega) w2 d2 hI2 (fun p hp => by simp only [p_mPut]; rw [kam]; exact ham p hp) ⟨hSL.1, fun p hp => by
        have hpx : ¬ p = x := fun z => ho (z ▸ hp)
        simp only [p_mPut]
        rw [kR]
        rcases hSL.2 p hp with ⟨f1, f2⟩ | ⟨f1, f2⟩
        · refine Or.inl ⟨f1, ?_⟩
          rw [up_n (by omega), up_n (by omega)]
          rcases f2 with f | f
          · exact Or.inl (mem_rem.mpr ⟨f, hpx⟩)
          · exact Or.inr (mem_rem.mpr ⟨f, hpx⟩)
        · refine Or.inr ⟨f1, fun ρ1 h1 z => ?_⟩
          by_cases c : ρ1 = 28
          · rw [c, up_s] at z
            rcases mem_ins.mp z with z | z
            · exact hpx z
            · exact f2 28 (by omega) (mem_rem.mp z).1
          · rw [up_n c] at z
            exact f2 ρ1 h1 (mem_rem.mp z).1⟩
      refine ⟨l, a4, b4, M4, ?_, ?_, e3, e4, e5, ?_, e7, fun ρ1 h1 y hy => ?_⟩
      · unfold sv_cl
        rw [c1, Option.bind_some]
        dsimp only
        have t1 : gI a1 800 0 = nI (m_tm M) := by have := VA_tm zA; simp only [p_mRem, p_mTh] at this; exact this
        have t2 : gI a1 510 x = m_Zs M x := by have := VA_si zA x (by simp only [p_mRem, p_mTh]; exact hxN); simp only [p_mRem, p_mTh] at this; exact this
        have t3 : gI a2 800 0 = nI (m_tm M) := by have := VA_tm y2; simp only [p_mRem] at this; rw [ktm] at this; exact this
        have t4 : x < gM a1 := by have := (VA_gm zA).1; simp only [p_mRem, p_mTh] at this; omega
        rw [sv_oth (by omega) (by omega) t4 ho, t1, t2, y1, Option.bind_some, t3]
        have w1 : cO_putInCalendar x 0 (nI (m_tm M)) a2 = some a3 := w1
        rw [w1, Option.bind_some]; exact e1
      · rw [eR, c2, d1, Option.bind_some]; exact e2
      · have z1 : Qt 0 M N := by
          rw [← hNd]
          unfold Qt
          simp only [p_mLate, p_mTh]
          exact ⟨⟨trivial, trivial, trivial, trivial, trivial, trivial, trivial, trivial, trivial⟩, Nat.le_add_right _ _, fun _ _ => Or.inl trivial, trivial, fun _ _ _ h => h⟩
        have z2 := Qt_put (M := N) (x := x) (t := nI (m_tm M)) (by rw [kS]; omega) (by rw [kR]; exact hx29)
        exact Qt_mono (Qt_tr (Qt_tr z1 z2) e6) (by omega)
      · have := e8 ρ1 h1 y hy
        simp only [p_mPut] at this
        rw [kR, up_n (by omega)] at this
        exact (mem_rem.mp this).1
theorem two_len {rm : Nat → Nat} {M : Md} {o : Option Nat} {q : Nat} (hI : Inv rm M o) (hq : q < 14) : (m_R M q).length + (m_R M (14 + q)).length ≤ 300 := by
  have h1 : (m_R M q ++ m_R M (14 + q)).Nodup := by
    rw [List.nodup_append]
    refine ⟨Inv_nd hI q (by omega), Inv_nd hI (14 + q) (by omega), fun x hx y hy e => ?_⟩
    rw [← e] at hy
    exact absurd (Inv_di hI q (14 + q) x (by omega) (by omega) hx hy) (by omega)
  have h2 := nodup_le (n := m_N M) h1 (fun x hx => by
    rcases List.mem_append.mp hx with z | z
    · exact (Inv_me hI q (by omega) x z).1
    · exact (Inv_me hI (14 + q) (by omega) x z).1)
  rw [List.length_append] at h2
  have := (Inv_N hI).1
  omega
/-- a store serves whom it can, on both sides -/
theorem serve_ok {rm : Nat → Nat} {s q : Nat} {o : Option Nat} {M : Md} {a b : ts} (hq : q = 8 + s) (hs : s < 6) (hr : s < rm 15) (hA : VA rm a M) (hB : VB rm b M) (hI : Inv rm M o) (ham : ∀ p, o = some p → m_am M = some p) (ho : ∀ p, o = some p → p ∈ m_R M q ∨ p ∈ m_R M (14 + q)) : ∃ l a1 b1 M1, cO_serve q o a = some (nI l, a1) ∧ cR_serveStore (nI s) b = some b1 ∧ VA rm a1 M1 ∧ VB rm b1 M1 ∧ Inv rm M1 o ∧ Qt 300 M M1 ∧ SL M1 q o l ∧ ∀ ρ, ρ < 28 → ∀ x, x ∈ m_R M1 ρ → x ∈ m_R M ρ := by
  have h2 := two_len hI (q := q) (by omega)
  obtain ⟨l, a1, b1, M1, e1, e2, e3, e4, e5, e6, e7, e8⟩ := serve_lp (o := o) hq hs hr _ tm_N tm_N 0 0 M a b rfl (by omega) (by unfold tm_N; omega) (by unfold tm_N; omega) hA hB hI ham ⟨by omega, fun p hp => Or.inl ⟨rfl, ho p hp⟩⟩
  refine ⟨l, a1, b1, M1, ?_, ?_, e3, e4, e5, Qt_mono e6 h2, e7, e8⟩
  · rw [serve_eq (by omega)]; exact e1
  · unfold cR_serveStore
    rw [show (8 : Int32) + nI s = nI q by rw [hq]; exact nI_add 8 s]; exact e2
