/-! A TURN BEGINS: who is next, and the time that goes by. -/
def mSx (M : Md) (p s : Nat) : Md := s_S M (up (m_S M) p s)
theorem p_mSx : (∀ (M : Md) (p s : Nat), m_N (mSx M p s) = m_N M) ∧ (∀ (M : Md) (p s : Nat), m_S (mSx M p s) = up (m_S M) p s) ∧ (∀ (M : Md) (p s : Nat), m_W (mSx M p s) = m_W M) ∧ (∀ (M : Md) (p s : Nat), m_T (mSx M p s) = m_T M) ∧ (∀ (M : Md) (p s : Nat), m_Lr (mSx M p s) = m_Lr M) ∧ (∀ (M : Md) (p s : Nat), m_D (mSx M p s) = m_D M) ∧ (∀ (M : Md) (p s : Nat), m_U (mSx M p s) = m_U M) ∧ (∀ (M : Md) (p s : Nat), m_R (mSx M p s) = m_R M) ∧ (∀ (M : Md) (p s : Nat), m_K (mSx M p s) = m_K M) ∧ (∀ (M : Md) (p s : Nat), m_A (mSx M p s) = m_A M) ∧ (∀ (M : Md) (p s : Nat), m_Zs (mSx M p s) = m_Zs M) ∧ (∀ (M : Md) (p s : Nat), m_Xw (mSx M p s) = m_Xw M) ∧ (∀ (M : Md) (p s : Nat), m_V (mSx M p s) = m_V M) ∧ (∀ (M : Md) (p s : Nat), m_nu (mSx M p s) = m_nu M) ∧ (∀ (M : Md) (p s : Nat), m_th (mSx M p s) = m_th M) ∧ (∀ (M : Md) (p s : Nat), m_sv (mSx M p s) = m_sv M) ∧ (∀ (M : Md) (p s : Nat), m_lt (mSx M p s) = m_lt M) ∧ (∀ (M : Md) (p s : Nat), m_mw (mSx M p s) = m_mw M) ∧ (∀ (M : Md) (p s : Nat), m_mb (mSx M p s) = m_mb M) ∧ (∀ (M : Md) (p s : Nat), m_s0 (mSx M p s) = m_s0 M) ∧ (∀ (M : Md) (p s : Nat), m_s1 (mSx M p s) = m_s1 M) ∧ (∀ (M : Md) (p s : Nat), m_s2 (mSx M p s) = m_s2 M) ∧ (∀ (M : Md) (p s : Nat), m_tm (mSx M p s) = m_tm M) ∧ (∀ (M : Md) (p s : Nat), m_tc (mSx M p s) = m_tc M) ∧ (∀ (M : Md) (p s : Nat), m_P (mSx M p s) = m_P M) ∧ (∀ (M : Md) (p s : Nat), m_pa (mSx M p s) = m_pa M) ∧ (∀ (M : Md) (p s : Nat), m_sd (mSx M p s) = m_sd M) ∧ (∀ (M : Md) (p s : Nat), m_st (mSx M p s) = m_st M) ∧ (∀ (M : Md) (p s : Nat), m_tn (mSx M p s) = m_tn M) ∧ (∀ (M : Md) (p s : Nat), m_en (mSx M p s) = m_en M) ∧ (∀ (M : Md) (p s : Nat), m_wg (mSx M p s) = m_wg M) ∧ (∀ (M : Md) (p s : Nat), m_tt (mSx M p s) = m_tt M) ∧ (∀ (M : Md) (p s : Nat), m_tv (mSx M p s) = m_tv M) ∧ (∀ (M : Md) (p s : Nat), m_am (mSx M p s) = m_am M) := by
  unfold mSx
  simp only [k_S, and_self, implies_true]
def mGo (M : Md) (t : Nat) (f g : Nat → Int64) : Md := s_tm (s_s1 (s_s0 M f) g) t
theorem p_mGo : (∀ (M : Md) (t : Nat) (f g : Nat → Int64), m_N (mGo M t f g) = m_N M) ∧ (∀ (M : Md) (t : Nat) (f g : Nat → Int64), m_S (mGo M t f g) = m_S M) ∧ (∀ (M : Md) (t : Nat) (f g : Nat → Int64), m_W (mGo M t f g) = m_W M) ∧ (∀ (M : Md) (t : Nat) (f g : Nat → Int64), m_T (mGo M t f g) = m_T M) ∧ (∀ (M : Md) (t : Nat) (f g : Nat → Int64), m_Lr (mGo M t f g) = m_Lr M) ∧ (∀ (M : Md) (t : Nat) (f g : Nat → Int64), m_D (mGo M t f g) = m_D M) ∧ (∀ (M : Md) (t : Nat) (f g : Nat → Int64), m_U (mGo M t f g) = m_U M) ∧ (∀ (M : Md) (t : Nat) (f g : Nat → Int64), m_R (mGo M t f g) = m_R M) ∧ (∀ (M : Md) (t : Nat) (f g : Nat → Int64), m_K (mGo M t f g) = m_K M) ∧ (∀ (M : Md) (t : Nat) (f g : Nat → Int64), m_A (mGo M t f g) = m_A M) ∧ (∀ (M : Md) (t : Nat) (f g : Nat → Int64), m_Zs (mGo M t f g) = m_Zs M) ∧ (∀ (M : Md) (t : Nat) (f g : Nat → Int64), m_Xw (mGo M t f g) = m_Xw M) ∧ (∀ (M : Md) (t : Nat) (f g : Nat → Int64), m_V (mGo M t f g) = m_V M) ∧ (∀ (M : Md) (t : Nat) (f g : Nat → Int64), m_nu (mGo M t f g) = m_nu M) ∧ (∀ (M : Md) (t : Nat) (f g : Nat → Int64), m_th (mGo M t f g) = m_th M) ∧ (∀ (M : Md) (t : Nat) (f g : Nat → Int64), m_sv (mGo M t f g) = m_sv M) ∧ (∀ (M : Md) (t : Nat) (f g : Nat → Int64), m_lt (mGo M t f g) = m_lt M) ∧ (∀ (M : Md) (t : Nat) (f g : Nat → Int64), m_mw (mGo M t f g) = m_mw M) ∧ (∀ (M : Md) (t : Nat) (f g : Nat → Int64), m_mb (mGo M t f g) = m_mb M) ∧ (∀ (M : Md) (t : Nat) (f g : Nat → Int64), m_s0 (mGo M t f g) = f) ∧ (∀ (M : Md) (t : Nat) (f g : Nat → Int64), m_s1 (mGo M t f g) = g) ∧ (∀ (M : Md) (t : Nat) (f g : Nat → Int64), m_s2 (mGo M t f g) = m_s2 M) ∧ (∀ (M : Md) (t : Nat) (f g : Nat → Int64), m_tm (mGo M t f g) = t) ∧ (∀ (M : Md) (t : Nat) (f g : Nat → Int64), m_tc (mGo M t f g) = m_tc M) ∧ (∀ (M : Md) (t : Nat) (f g : Nat → Int64), m_P (mGo M t f g) = m_P M) ∧ (∀ (M : Md) (t : Nat) (f g : Nat → Int64), m_pa (mGo M t f g) = m_pa M) ∧ (∀ (M : Md) (t : Nat) (f g : Nat → Int64), m_sd (mGo M t f g) = m_sd M) ∧ (∀ (M : Md) (t : Nat) (f g : Nat → Int64), m_st (mGo M t f g) = m_st M) ∧ (∀ (M : Md) (t : Nat) (f g : Nat → Int64), m_tn (mGo M t f g) = m_tn M) ∧ (∀ (M : Md) (t : Nat) (f g : Nat → Int64), m_en (mGo M t f g) = m_en M) ∧ (∀ (M : Md) (t : Nat) (f g : Nat → Int64), m_wg (mGo M t f g) = m_wg M) ∧ (∀ (M : Md) (t : Nat) (f g : Nat → Int64), m_tt (mGo M t f g) = m_tt M) ∧ (∀ (M : Md) (t : Nat) (f g : Nat → Int64), m_tv (mGo M t f g) = m_tv M) ∧ (∀ (M : Md) (t : Nat) (f g : Nat → Int64), m_am (mGo M t f g) = m_am M) := by
  unfold mGo
  simp only [k_tm, k_s0, k_s1, and_self, implies_true]
theorem pw_or {α : Type} {R : α → α → Prop} : ∀ {l : List α} {x y : α}, l.Pairwise R → x ∈ l → y ∈ l → ¬ x = y → R x y ∨ R y x
  | [], _, _, _, h, _, _ => by cases h
  | z :: l, x, y, hp, hx, hy, hne => by
    rw [List.pairwise_cons] at hp
    rcases List.mem_cons.mp hx with e | hx
    · rcases List.mem_cons.mp hy with e2 | hy
      · exact absurd (e.trans e2.symm) hne
      · rw [e]; exact Or.inl (hp.1 y hy)
    · rcases List.mem_cons.mp hy with e2 | hy
      · rw [e2]; exact Or.inr (hp.1 x hx)
      · exact pw_or hp.2 hx hy hne
theorem clt_tr {K : Nat → Int32} {pa : Nat → Nat} {x y z : Nat} (h : clt K pa x y) (g : clt K pa y z) : clt K pa x z := by
  unfold clt at *
  rcases h with h | ⟨h, h'⟩
  · rcases g with g | ⟨g, g'⟩
    · exact Or.inl (Int32.lt_trans h g)
    · rw [← g]; exact Or.inl h
  · rcases g with g | ⟨g, g'⟩
    · rw [h]; exact Or.inl g
    · exact Or.inr ⟨h.trans g, by omega⟩
theorem clt_as {K : Nat → Int32} {pa : Nat → Nat} {x y : Nat} (h : clt K pa x y) (g : clt K pa y x) : False := by
  unfold clt at *
  rcases h with h | ⟨h, h'⟩
  · rcases g with g | ⟨g, g'⟩
    · exact absurd (Int32.lt_trans h g) Int32.lt_irrefl
    · rw [g] at h; exact absurd h Int32.lt_irrefl
  · rcases g with g | ⟨g, g'⟩
    · rw [h] at g; exact absurd g Int32.lt_irrefl
    · omega
def Bst (M : Md) (q : Nat) (o : Option Nat) : Prop := match o with
  | none => ∀ y, y < q → 2 ≤ m_S M y
  | some x => x < q ∧ m_S M x ≤ 1 ∧ ∀ y, y < q → m_S M y ≤ 1 → y = x ∨ clt (m_K M) (m_pa M) x y
theorem in28 {rm : Nat → Nat} {M : Md} {y : Nat} (hI : Inv rm M none) (hy : y < m_N M) : m_S M y ≤ 1 ↔ y ∈ m_R M 28 := by
  constructor
  · intro h
    obtain ⟨ρ, h1, h2⟩ := (Inv_co hI y hy).2 (by omega)
    rcases (Inv_me hI ρ h1 y h2).2 with z | z
    · cases z
    · unfold SP at z
      have : ρ = 28 := by omega
      rw [← this]; exact h2
  · intro h
    rcases (Inv_me hI 28 (by omega) y h).2 with z | z
    · cases z
    · unfold SP at z; omega
theorem nextP_lp {rm : Nat → Nat} {b : ts} {M : Md} (hB : VB rm b M) (hI : Inv rm M none) (hP : m_P M < 2 ^ 62) : ∀ (k q F : Nat) (o : Option Nat), q + k = m_N M → k < F → Bst M q o → ∃ o1, cR_taken_5 F (oi (-2) o) (nI q) b = some (oi (-2) o1, b) ∧ Bst M (m_N M) o1 := by
  have hN := (Inv_N hI).1
  intro k
  induction k with
  | zero =>
    intro q F o hk hF ho
    obtain ⟨F0, rfl⟩ : ∃ F0, F = F0 + 1 := ⟨F - 1, by omega⟩
    have e : q = m_N M := by omega
    refine ⟨o, ?_, e ▸ ho⟩
    rw [cR_taken_5.eq_2]
    unfold cR_taken_5_b
    rw [VB_N hB, if_pos (nI_le (by omega) (by omega))]
  | succ k ih =>
    intro q F o hk hF ho
    obtain ⟨F0, rfl⟩ : ∃ F0, F = F0 + 1 := ⟨F - 1, by omega⟩
    have hq : q < m_N M := by omega
    have hS := VB_ss hB q hq
    have h7 := (Inv_co hI q hq).1
    have go : ∀ o', Bst M (q + 1) o' → cR_taken_5 (F0 + 1) (oi (-2) o) (nI q) b = cR_taken_5 F0 (oi (-2) o') (nI q + 1) b → ∃ o1, cR_taken_5 (F0 + 1) (oi (-2) o) (nI q) b = some (oi (-2) o1, b) ∧ Bst M (m_N M) o1 := fun o' h1 h2 => by
      obtain ⟨o1, h3, h4⟩ := ih (q + 1) F0 o' (by omega) (by omega) h1
      exact ⟨o1, by rw [h2, nI_1]; exact h3, h4⟩
    have e0 : cR_taken_5 (F0 + 1) (oi (-2) o) (nI q) b = (if ((2 : Int32)) ≤ nI (m_S M q) then cR_taken_5 F0 (oi (-2) o) (nI q + (1 : Int32)) b else (if oi (-2) o = ((-2 : Int32)) then cR_taken_5 F0 (nI q) (nI q + (1 : Int32)) b else (if am_idx (oi (-2) o) 300 = true then (if (gA b 122 q) < (gA b 122 (oi (-2) o).toNatClampNeg) then cR_taken_5 F0 (nI q) (nI q + (1 : Int32)) b else (if (gA b 122 q) = (gA b 122 (oi (-2) o).toNatClampNeg) then (if ((0 : Int32)) ≤ (lg_cmp (gB b 123 q) (gB b 123 (oi (-2) o).toNatClampNeg)) then cR_taken_5 F0 (oi (-2) o) (nI q + (1 : Int32)) b else cR_taken_5 F0 (nI q) (nI q + (1 : Int32)) b) else cR_taken_5 F0 (oi (-2) o) (nI q + (1 : Int32)) b)) else none))) := by
      rw [cR_taken_5.eq_2]
      unfold cR_taken_5_b
      rw [VB_N hB, if_neg (nI_ge hq (by omega)), if_pos (nI_idx (by omega) (by decide)), nI_clamp (by omega), hS]
    by_cases c : 2 ≤ m_S M q
    · refine go o ?_ (by rw [e0, if_pos (show (2 : Int32) ≤ nI (m_S M q) from nI_le (a := 2) c (by omega))])
      cases o with
      | none =>
        intro y hy
        by_cases cy : y = q
        · rw [cy]; exact c
        · exact ho y (by omega)
      | some x =>
        refine ⟨by have := ho.1; omega, ho.2.1, fun y hy hy1 => ?_⟩
        by_cases cy : y = q
        · rw [cy] at hy1; omega
        · exact ho.2.2 y (by omega) hy1
    · have hnc : ¬ (2 : Int32) ≤ nI (m_S M q) := nI_ge (b := 2) (by omega) (by decide)
      cases o with
      | none =>
        refine go (some q) ?_ (by rw [e0, if_neg hnc, if_pos (show oi (-2) none = (-2 : Int32) from rfl)]; rfl)
        refine ⟨by omega, by omega, fun y hy hy1 => ?_⟩
        by_cases cy : y = q
        · exact Or.inl cy
        · have := ho y (by omega); omega
      | some x =>
        have hxq := ho.1
        have hxN : x < m_N M := by omega
        have hcal := Inv_ca hI
        have hxm := (in28 hI hxN).mp ho.2.1
        have hqm := (in28 hI hq).mp (by omega)
        have px := (hcal.2 x hxm).1
        have pq := (hcal.2 q hqm).1
        have d1 : gA b 122 q = m_K M q := VB_du hB q hq (by omega)
        have d2 : gA b 122 x = m_K M x := VB_du hB x hxN ho.2.1
        have d3 : gB b 123 q = Int64.ofNat (m_pa M q) := VB_pa hB q hq (by omega)
        have d4 : gB b 123 x = Int64.ofNat (m_pa M x) := VB_pa hB x hxN ho.2.1
        have e1 : cR_taken_5 (F0 + 1) (oi (-2) (some x)) (nI q) b = (if m_K M q < m_K M x then cR_taken_5 F0 (nI q) (nI q + (1 : Int32)) b else (if m_K M q = m_K M x then (if ((0 : Int32)) ≤ (lg_cmp (Int64.ofNat (m_pa M q)) (Int64.ofNat (m_pa M x))) then cR_taken_5 F0 (nI x) (nI q + (1 : Int32)) b else cR_taken_5 F0 (nI q) (nI q + (1 : Int32)) b) else cR_taken_5 F0 (nI x) (nI q + (1 : Int32)) b)) := by
          rw [e0, if_neg hnc, show oi (-2) (some x) = nI x from rfl, if_neg (nI_no2 (by omega)), if_pos (nI_idx (by omega) (by decide)), nI_clamp (by omega), d1, d2, d3, d4]
        have hle : (0 : Int32) ≤ lg_cmp (Int64.ofNat (m_pa M q)) (Int64.ofNat (m_pa M x)) ↔ m_pa M x ≤ m_pa M q := by
          rw [lg_cmp_ge, Int64.le_iff_toInt_le, lg_ofNat_toInt (by omega), lg_ofNat_toInt (by omega)]
          omega
        have better : clt (m_K M) (m_pa M) q x → Bst M (q + 1) (some q) := fun hc => by
          refine ⟨by omega, by omega, fun y hy hy1 => ?_⟩
          by_cases cy : y = q
          · exact Or.inl cy
          · rcases ho.2.2 y (by omega) hy1 with z | z
            · rw [z]; exact Or.inr hc
            · exact Or.inr (clt_tr hc z)
        have worse : ¬ clt (m_K M) (m_pa M) q x → Bst M (q + 1) (some x) := fun hc => by
          refine ⟨by omega, ho.2.1, fun y hy hy1 => ?_⟩
          by_cases cy : y = q
          · rw [cy]
            rcases pw_or hcal.1 hqm hxm (by omega) with z | z
            · exact absurd z hc
            · exact Or.inr z
          · exact ho.2.2 y (by omega) hy1
        by_cases c1 : m_K M q < m_K M x
        · exact go (some q) (better (Or.inl c1)) (by rw [e1, if_pos c1]; rfl)
        · by_cases c2 : m_K M q = m_K M x
          · by_cases c3 : m_pa M x ≤ m_pa M q
            · refine go (some x) (worse (fun z => ?_)) (by rw [e1, if_neg c1, if_pos c2, if_pos (hle.mpr c3)]; rfl)
              rcases z with z | z
              · exact c1 z
              · omega
            · exact go (some q) (better (Or.inr ⟨c2, by omega⟩)) (by rw [e1, if_neg c1, if_pos c2, if_neg (fun z => c3 (hle.mp z))]; rfl)
          · refine go (some x) (worse (fun z => ?_)) (by rw [e1, if_neg c1, if_neg c2]; rfl)
            rcases z with z | z
            · exact c1 z
            · exact c2 z.1
theorem nextP_ok {rm : Nat → Nat} {b : ts} {M : Md} (hB : VB rm b M) (hI : Inv rm M none) (hP : m_P M < 2 ^ 62) : cR_taken b = some (oi (-2) (m_R M 28).head?, b) := by
  have hN := (Inv_N hI).1
  obtain ⟨o, h1, h2⟩ := nextP_lp hB hI hP (m_N M) 0 tm_N none (by omega) (by unfold tm_N; omega) (fun y hy => by omega)
  have h1 : cR_taken b = some (oi (-2) o, b) := h1
  rw [h1]
  have e : o = (m_R M 28).head? := by
    cases hR : m_R M 28 with
    | nil =>
      cases o with
      | none => rfl
      | some x =>
        have := (in28 hI h2.1).mp h2.2.1
        rw [hR] at this; cases this
    | cons h T =>
      have hh : h ∈ m_R M 28 := by rw [hR]; exact List.mem_cons_self
      have hhN := (Inv_me hI 28 (by omega) h hh).1
      have hh1 := (in28 hI hhN).mpr hh
      cases o with
      | none => have := h2 h hhN; omega
      | some x =>
        have hx := (in28 hI h2.1).mp h2.2.1
        rcases h2.2.2 h hhN hh1 with z | z
        · rw [z]; rfl
        · have pw := (Inv_ca hI).1
          rw [hR] at hx pw
          rcases List.mem_cons.mp hx with e | e
          · rw [e]; rfl
          · exact absurd ((List.pairwise_cons.mp pw).1 x e) (fun w => clt_as w z)
  rw [e]
