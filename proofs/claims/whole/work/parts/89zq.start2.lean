/-! START AT WORK: both sides; what the program's text gives. -/
theorem EVR_of {rm : Nat → Nat} {a b : ts} {M : Md} {p : Nat} (hA : VA rm a M) (hB : VB rm b M) (hp : p < m_N M) (hN : m_N M ≤ 300) : EVR p a b := by
  have hg := VA_gm hA
  refine ⟨(VA_tm hA).trans (VB_tm hB).symm, (VA_sd hA).trans (VB_sd hB).symm, fun i hi => (VA_nu hA i hi).trans (VB_nu hB i hi).symm, ⟨by omega, by omega, VA_no hA p (by omega)⟩, fun i hi => (VA_vl hA p hp i hi).trans (VB_vl hB p hp i hi).symm, fun q hq => (VA_th hA q hq).trans (VB_th hB q hq).symm, fun q hq => ?_⟩
  have e1 := (VA_li hA q (by omega)).2.1
  have e2 := (VA_li hA (14 + q) (by omega)).2.1
  rw [lno_a hq] at e1
  rw [lno_b hq] at e2
  have e3 := (VB_ro hB q (by omega)).1
  have e4 := (VB_ro hB (14 + q) (by omega)).1
  unfold rb at e3 e4
  rw [List.length_map] at e3 e4
  rw [e1, e2, e3, e4]
def Evp (a b : ts) (L : Nat → List Int64) (pm en vc un rm0 : Nat → Nat) (G : List Ln) (τ : Nat → Int32) (K K' : Nat) (rm : Nat → Nat) : Prop := PRA a L pm en vc un rm0 G τ K ∧ PRB b L pm en un rm0 G τ K' ∧ PRV L pm en vc un rm0 G τ ∧ RMk rm ∧ rm 14 = (L 0).length ∧ rm 15 = (L 1).length
def eva : List Nat := [214, 2016, 2017, 2018, 2019, 2020, 2021, 2022, 2023, 2024, 2025, 2026, 2027]
def evb : List Nat := [1125, 1110, 1113, 1117, 1119, 2099, 2100, 2101, 2103, 2104, 2105, 2107, 3106, 2110, 2111, 2096, 2097, 2090, 2092, 2093]
theorem PRA_fr {a a1 : ts} {L : Nat → List Int64} {pm en vc un rm0 : Nat → Nat} {G : List Ln} {τ : Nat → Int32} {K : Nat} {W : List Nat} (h : PRA a L pm en vc un rm0 G τ K) (hf : fr W a a1) (hd : dj eva W = true) : PRA a1 L pm en vc un rm0 G τ K := by
  obtain ⟨⟨h1, h2, h3⟩, h4, h5, h6, h7⟩ := h
  refine ⟨⟨(hf.1 214 (dj_m hd rfl) 0).trans h1, h2, h3⟩, fun q hq => ⟨(hf.2.1 16 (dj_m hd rfl) q).trans (h4 q hq).1, (h4 q hq).2⟩, fun l n hl => ?_, fun d hd2 => ?_, fun p hp => ?_⟩
  · refine LnA_mono (h5 l n hl) (hf.2.1 22 (dj_m hd rfl) l) ?_ (hf.2.1 24 (dj_m hd rfl) l) (hf.2.1 25 (dj_m hd rfl) l) (Nat.le_refl _) (fun j _ => ⟨hf.2.1 26 (dj_m hd rfl) j, hf.2.1 27 (dj_m hd rfl) j⟩)
    rw [hf.2.1 23 (dj_m hd rfl) l, (h5 l n hl).2.1]
    by_cases hj : isJ n.1 = true
    · rw [if_pos hj, if_pos hj]
    · rw [if_neg hj, if_neg hj]
  · rw [hf.2.1 19 (dj_m hd rfl), hf.2.1 20 (dj_m hd rfl), hf.2.1 21 (dj_m hd rfl)]; exact h6 d hd2
  · rw [hf.2.1 17 (dj_m hd rfl), hf.2.1 18 (dj_m hd rfl)]; exact h7 p hp
theorem PRB_fr {b b1 : ts} {L : Nat → List Int64} {pm en un rm0 : Nat → Nat} {G : List Ln} {τ : Nat → Int32} {K : Nat} {W : List Nat} (h : PRB b L pm en un rm0 G τ K) (hf : fr W b b1) (hd : dj evb W = true) : PRB b1 L pm en un rm0 G τ K := by
  obtain ⟨⟨h1, h2⟩, ⟨h3, h4, h5, h6⟩, h7, h8, h9, h10⟩ := h
  refine ⟨⟨(hf.1 1125 (dj_m hd rfl) 0).trans h1, h2⟩, ⟨(hf.1 1110 (dj_m hd rfl) 0).trans h3, (hf.1 1113 (dj_m hd rfl) 0).trans h4, (hf.1 1117 (dj_m hd rfl) 0).trans h5, (hf.1 1119 (dj_m hd rfl) 0).trans h6⟩, fun l n hl => ⟨?_, ?_, ?_⟩, fun d hd2 => ?_, fun r hr => ?_, fun s hs => ?_⟩
  · exact KB_mono (h7 l n hl).1 ⟨hf.2.1 99 (dj_m hd rfl) l, hf.2.1 100 (dj_m hd rfl) l, hf.2.1 101 (dj_m hd rfl) l, hf.2.1 105 (dj_m hd rfl) l, hf.2.1 107 (dj_m hd rfl) l, hf.2.2.1 106 (dj_m hd rfl) l, fun i _ => hf.2.1 104 (dj_m hd rfl) _⟩ (fun j _ => ⟨hf.2.1 110 (dj_m hd rfl) j, hf.2.1 111 (dj_m hd rfl) j⟩) (Nat.le_refl _) (Nat.le_refl _) (Nat.le_refl _)
  · rw [hf.2.1 103 (dj_m hd rfl)]; exact (h7 l n hl).2.1
  · rw [hf.2.1 100 (dj_m hd rfl)]; exact (h7 l n hl).2.2
  · rw [hf.2.1 96 (dj_m hd rfl), hf.2.1 97 (dj_m hd rfl)]; exact h8 d hd2
  · rw [hf.2.1 90 (dj_m hd rfl)]; exact h9 r hr
  · rw [hf.2.1 92 (dj_m hd rfl), hf.2.1 93 (dj_m hd rfl)]; exact h10 s hs
theorem Evp_fr {a b a1 b1 : ts} {L : Nat → List Int64} {pm en vc un rm0 : Nat → Nat} {G : List Ln} {τ : Nat → Int32} {K K' : Nat} {rm : Nat → Nat} {W W' : List Nat} (h : Evp a b L pm en vc un rm0 G τ K K' rm) (fa : fr W a a1) (fb : fr W' b b1) (ha : dj eva W = true) (hb : dj evb W' = true) : Evp a1 b1 L pm en vc un rm0 G τ K K' rm := ⟨PRA_fr h.1 fa ha, PRB_fr h.2.1 fb hb, h.2.2⟩
theorem actAt_ok {a : ts} {l g : Nat} (hg : gI a 214 0 = nI g) (hl : l < g) (h5 : g ≤ 512) : cG_actAt (nI l) a = some (gA a 22 l, a) ∧ cG_targetAt (nI l) a = some (gA a 23 l, a) := by
  unfold cG_actAt cG_targetAt
  rw [if_neg (nI_pos (by omega)), hg, if_neg (nI_ge hl (by omega)), if_pos (nI_idx (by omega) (by decide)), nI_clamp (by omega), if_neg (nI_pos (by omega)), if_neg (nI_ge hl (by omega)), if_pos (nI_idx (by omega) (by decide))]
  exact ⟨rfl, rfl⟩
/-- the program's step: reckon, perform, and where it goes wrong -/
def rp (p : Nat) (l : Int32) (a : ts) : Option ts := (cW_reckon l p a).bind (fun x4 => (if x4.1 = ((0 : Int32)) then (cW_result ((0 : Int32)) x4.2).bind (fun x7 => (cH_perform p l x7.1 x7.2).bind (fun x10 => fw p x10.1 x10.2)) else fw p x4.1 x4.2))
theorem Bs_Sd {rm : Nat → Nat} {G : List Ln} {l p : Nat} {v : Int32} {M : Md} (h : Bs rm G l p M) : Bs rm G l p (mSd M v) := by
  unfold Bs Inv Jv at h ⊢
  simp only [p_mSd]
  exact h
theorem Sy_Sd {rm : Nat → Nat} {G : List Ln} {nd k l p : Nat} {v : Int32} {M M1 : Md} (h : Sy rm G nd k l p (mSd M v) M1) : Sy rm G nd k l p M M1 := by
  unfold Sy at h ⊢
  simp only [p_mSd] at h
  exact h
theorem vals_p {M : Md} {q : Nat} {f : Nat → Int32} : ∀ n, m_N (vals M q f n) = m_N M ∧ m_tm (vals M q f n) = m_tm M ∧ m_tc (vals M q f n) = m_tc M ∧ m_am (vals M q f n) = m_am M ∧ m_P (vals M q f n) = m_P M ∧ m_D (vals M q f n) = m_D M ∧ m_T (vals M q f n) = m_T M ∧ m_Lr (vals M q f n) = m_Lr M ∧ m_S (vals M q f n) = m_S M ∧ m_R (vals M q f n) = m_R M ∧ m_mw (vals M q f n) = m_mw M ∧ m_mb (vals M q f n) = m_mb M
  | 0 => ⟨rfl, rfl, rfl, rfl, rfl, rfl, rfl, rfl, rfl, rfl, rfl, rfl⟩
  | n + 1 => by
    have h := vals_p (M := M) (q := q) (f := f) n
    unfold vals
    simp only [p_mVal]
    exact h
theorem Inv_V {rm : Nat → Nat} {M : Md} {o : Option Nat} {p i : Nat} {v : Int32} (h : Inv rm M o) : Inv rm (mVal M p i v) o := by
  unfold Inv at h ⊢
  simp only [p_mVal]
  exact h
theorem Inv_vals {rm : Nat → Nat} {M : Md} {o : Option Nat} {q : Nat} {f : Nat → Int32} (h : Inv rm M o) : ∀ n, Inv rm (vals M q f n) o
  | 0 => h
  | n + 1 => Inv_V (Inv_vals h n)
/-- the new process stands in the calendar, with its values -/
def mStart (M : Md) (d e n : Nat) (z t : Int32) (f : Nat → Int32) : Md := vals (mPut (mNew M d e 5 0 0 z) (m_N M) 0 t) (m_N M) f n
theorem start_p {M : Md} {d e n : Nat} {z t : Int32} {f : Nat → Int32} : m_N (mStart M d e n z t f) = m_N M + 1 ∧ m_tm (mStart M d e n z t f) = m_tm M ∧ m_tc (mStart M d e n z t f) = m_tc M ∧ m_am (mStart M d e n z t f) = m_am M ∧ m_P (mStart M d e n z t f) = m_P M + 1 ∧ m_D (mStart M d e n z t f) = up (m_D M) (m_N M) d ∧ m_T (mStart M d e n z t f) = up (m_T M) (m_N M) e ∧ m_Lr (mStart M d e n z t f) = up (m_Lr M) (m_N M) e ∧ m_S (mStart M d e n z t f) = up (m_S M) (m_N M) 0 ∧ (∀ ρ, ρ < 28 → ∀ x, x ∈ m_R (mStart M d e n z t f) ρ → x ∈ m_R M ρ) ∧ m_mw (mStart M d e n z t f) = m_mw M ∧ m_mb (mStart M d e n z t f) = m_mb M := by
  obtain ⟨h1, h2, h3, h4, h5, h6, h7, h8, h9, h10, h11, h12⟩ := vals_p (M := mPut (mNew M d e 5 0 0 z) (m_N M) 0 t) (q := m_N M) (f := f) n
  unfold mStart
  rw [h1, h2, h3, h4, h5, h6, h7, h8, h9, h10, h11, h12]
  simp only [p_mPut, p_mNew]
  refine ⟨trivial, trivial, trivial, trivial, trivial, trivial, trivial, trivial, up_up, fun ρ hρ x hx => ?_, trivial, trivial⟩
  rw [up_n (by omega)] at hx
  exact (mem_rem.mp hx).1
theorem Sy_start {rm : Nat → Nat} {G : List Ln} {nd l p d e n : Nat} {z t : Int32} {f : Nat → Int32} {M : Md} (hb : Bs rm G l p M) (hI : Inv rm (mStart M d e n z t f) none) (hd : d < nd) (he : e < G.length) : Sy rm G nd 1 l p M (mStart M d e n z t f) := by
  obtain ⟨b1, b2, b3, b4, b5, b6, b7, b8, b9⟩ := hb
  obtain ⟨h1, h2, h3, h4, h5, h6, h7, h8, h9, h10, h11, h12⟩ := start_p (M := M) (d := d) (e := e) (n := n) (z := z) (t := t) (f := f)
  refine ⟨⟨by omega, h2, by omega, h4, by omega, by rw [h6, up_n (by omega)]⟩, fun y hy hyp => ?_, fun y g1 g2 => ?_, Jv_rows b2 h10, mw_mb hI (fun q hq => by rw [h11, h12]; exact b3 q hq), Or.inr (Or.inr ?_)⟩
  · have c : ¬ y = m_N M := by omega
    rw [h6, h7, h8, h9, up_n c, up_n c, up_n c, up_n c]
    exact ⟨⟨rfl, rfl, rfl⟩, Or.inl rfl, fun _ => rfl⟩
  · have c : y = m_N M := by omega
    rw [h6, h7, h8, h9, c, up_s, up_s, up_s, up_s]
    exact ⟨rfl, rfl, he, hd⟩
  · have c : ¬ p = m_N M := by omega
    rw [h7, h8, h9, up_n c, up_n c, up_n c, b7, b8]
    exact ⟨by omega, rfl, b9⟩
