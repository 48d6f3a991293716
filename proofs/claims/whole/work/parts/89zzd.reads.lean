/-! THE READS: state, number, trace, sum. -/
theorem nd_sub : ∀ {l l' : List Nat}, l.Nodup → (∀ x, x ∈ l → x ∈ l') → l.length ≤ l'.length
  | [], _, _, _ => Nat.zero_le _
  | x :: t, l', hn, hs => by
    rw [List.nodup_cons] at hn
    obtain ⟨A, B, e⟩ := List.append_of_mem (hs x List.mem_cons_self)
    have h := nd_sub (l := t) (l' := A ++ B) hn.2 (fun y hy => by
      have := hs y (List.mem_cons_of_mem _ hy)
      rw [e] at this
      rcases List.mem_append.mp this with z | z
      · exact List.mem_append.mpr (Or.inl z)
      · rcases List.mem_cons.mp z with w | w
        · rw [w] at hy; exact absurd hy hn.1
        · exact List.mem_append.mpr (Or.inr w))
    rw [e]
    simp only [List.length_append, List.length_cons] at h ⊢
    omega
def cnt (f : Nat → Bool) : Nat → Nat
  | 0 => 0
  | k + 1 => cnt f k + (if f k = true then 1 else 0)
theorem cnt_len {f : Nat → Bool} : ∀ k, ((List.range k).filter f).length = cnt f k
  | 0 => rfl
  | k + 1 => by
    rw [List.range_succ, List.filter_append, List.length_append, cnt_len k]
    show _ = cnt f k + (if f k = true then 1 else 0)
    by_cases c : f k = true
    · rw [if_pos c, List.filter_cons_of_pos c]; rfl
    · rw [if_neg c, List.filter_cons_of_neg c]; rfl
theorem cnt_le {f : Nat → Bool} : ∀ k, cnt f k ≤ k
  | 0 => Nat.le_refl _
  | k + 1 => by
    have := cnt_le (f := f) k
    unfold cnt
    split <;> omega
theorem len_cnt {f : Nat → Bool} {l : List Nat} {N : Nat} (hn : l.Nodup) (h : ∀ x, x ∈ l ↔ x < N ∧ f x = true) : l.length = cnt f N := by
  rw [← cnt_len]
  refine Nat.le_antisymm (nd_sub hn (fun x hx => ?_)) (nd_sub (List.nodup_range.sublist List.filter_sublist) (fun x hx => ?_))
  · have := (h x).mp hx
    exact List.mem_filter.mpr ⟨List.mem_range.mpr this.1, this.2⟩
  · have := List.mem_filter.mp hx
    exact (h x).mpr ⟨List.mem_range.mp this.1, this.2⟩
def catR (R : Nat → List Nat) : Nat → List Nat
  | 0 => []
  | k + 1 => catR R k ++ (R k ++ R (14 + k))
theorem catR_mem {R : Nat → List Nat} {x : Nat} : ∀ {k : Nat}, x ∈ catR R k ↔ ∃ q, q < k ∧ (x ∈ R q ∨ x ∈ R (14 + q))
  | 0 => ⟨fun h => (by cases h), fun ⟨q, h, _⟩ => (by omega)⟩
  | k + 1 => by
    show x ∈ catR R k ++ (R k ++ R (14 + k)) ↔ _
    rw [List.mem_append, List.mem_append, catR_mem]
    constructor
    · rintro (⟨q, h1, h2⟩ | h)
      · exact ⟨q, by omega, h2⟩
      · exact ⟨k, by omega, h⟩
    · rintro ⟨q, h1, h2⟩
      by_cases c : q = k
      · rw [c] at h2; exact Or.inr h2
      · exact Or.inl ⟨q, by omega, h2⟩
theorem catR_nd {rm : Nat → Nat} {M : Md} (hI : Inv rm M none) : ∀ k, k ≤ 14 → (catR (m_R M) k).Nodup
  | 0, _ => List.nodup_nil
  | k + 1, h => by
    show (catR (m_R M) k ++ (m_R M k ++ m_R M (14 + k))).Nodup
    rw [List.nodup_append, List.nodup_append]
    refine ⟨catR_nd hI k (by omega), ⟨Inv_nd hI k (by omega), Inv_nd hI (14 + k) (by omega), fun x hx y hy e => ?_⟩, fun x hx y hy e => ?_⟩
    · rw [← e] at hy
      have := Inv_di hI k (14 + k) x (by omega) (by omega) hx hy
      omega
    · rw [← e] at hy
      obtain ⟨q, h1, h2⟩ := catR_mem.mp hx
      rcases List.mem_append.mp hy with z | z
      · rcases h2 with w | w
        · have := Inv_di hI q k x (by omega) (by omega) w z; omega
        · have := Inv_di hI (14 + q) k x (by omega) (by omega) w z; omega
      · rcases h2 with w | w
        · have := Inv_di hI q (14 + k) x (by omega) (by omega) w z; omega
        · have := Inv_di hI (14 + q) (14 + k) x (by omega) (by omega) w z; omega
theorem wait_lp {rm : Nat → Nat} {s : ts} {M : Md} (hA : VA rm s M) : ∀ (k q F : Nat), q + k = 14 → k < F → cW_waitingAtPlaces_4 F (nI (catR (m_R M) q).length) (nI q) s = some (nI (catR (m_R M) 14).length, s) := by
  intro k
  induction k with
  | zero =>
    intro q F hk hF
    obtain ⟨F0, rfl⟩ : ∃ F0, F = F0 + 1 := ⟨F - 1, by omega⟩
    have e : q = 14 := by omega
    subst e
    rw [cW_waitingAtPlaces_4.eq_2]
    unfold cW_waitingAtPlaces_4_b
    rw [if_pos (by decide)]
  | succ k ih =>
    intro q F hk hF
    obtain ⟨F0, rfl⟩ : ∃ F0, F = F0 + 1 := ⟨F - 1, by omega⟩
    have hq : q < 14 := by omega
    have e1 : gI s 601 (2 * q) = nI (m_R M q).length := by have := (VA_li hA q (by omega)).2.1; rw [lno_a hq] at this; exact this
    have e2 : gI s 601 (2 * q + 1) = nI (m_R M (14 + q)).length := by have := (VA_li hA (14 + q) (by omega)).2.1; rw [lno_b hq] at this; exact this
    have el : cW_look 535 (nI q) s = some (nI (lenq M q), s) := by
      unfold cW_look cK_waiting
      rw [placeAt_ok hq, Option.bind_some]
      dsimp only
      rw [if_neg (by decide), if_pos hq, if_pos hq, e1, e2, nI_add]; rfl
    rw [cW_waitingAtPlaces_4.eq_2]
    unfold cW_waitingAtPlaces_4_b
    rw [if_neg (show ¬ (14 : Int32) ≤ nI q from nI_ge (b := 14) hq (by decide)), el, Option.bind_some]
    dsimp only
    rw [nI_add, nI_1]
    have e3 : (catR (m_R M) q).length + lenq M q = (catR (m_R M) (q + 1)).length := by
      show _ = (catR (m_R M) q ++ (m_R M q ++ m_R M (14 + q))).length
      rw [List.length_append, List.length_append]; rfl
    rw [e3]
    exact ih (q + 1) F0 (by omega) (by omega)
theorem count_lp {rm : Nat → Nat} {s : ts} {M : Md} {u v : Nat} (hB : VB rm s M) (hI : Inv rm M none) (hu : u < 10) (hv : v < 10) : ∀ (k q F : Nat), q + k = m_N M → k < F → cR_countOf_5 F (nI u) (nI v) (nI (cnt (fun p => decide (u ≤ m_S M p ∧ m_S M p ≤ v)) q)) (nI q) s = some (nI (cnt (fun p => decide (u ≤ m_S M p ∧ m_S M p ≤ v)) (m_N M)), s) := by
  have hN := (Inv_N hI).1
  intro k
  induction k with
  | zero =>
    intro q F hk hF
    obtain ⟨F0, rfl⟩ : ∃ F0, F = F0 + 1 := ⟨F - 1, by omega⟩
    have e : q = m_N M := by omega
    rw [e, cR_countOf_5.eq_2]
    unfold cR_countOf_5_b
    rw [VB_N hB, if_pos (nI_le (Nat.le_refl _) (by omega))]
  | succ k ih =>
    intro q F hk hF
    obtain ⟨F0, rfl⟩ : ∃ F0, F = F0 + 1 := ⟨F - 1, by omega⟩
    have h7 := (Inv_co hI q (by omega)).1
    have hs : cnt (fun p => decide (u ≤ m_S M p ∧ m_S M p ≤ v)) (q + 1) = cnt (fun p => decide (u ≤ m_S M p ∧ m_S M p ≤ v)) q + (if u ≤ m_S M q ∧ m_S M q ≤ v then 1 else 0) := by
      show _ + (if decide (u ≤ m_S M q ∧ m_S M q ≤ v) = true then 1 else 0) = _
      by_cases c : u ≤ m_S M q ∧ m_S M q ≤ v
      · rw [if_pos c, if_pos (decide_eq_true c)]
      · rw [if_neg c, if_neg (by rw [decide_eq_true_eq]; exact c)]
    have ih' := ih (q + 1) F0 (by omega) (by omega)
    rw [cR_countOf_5.eq_2]
    unfold cR_countOf_5_b
    rw [VB_N hB, if_neg (nI_ge (by omega) (by omega)), if_pos (nI_idx (by omega) (by decide)), nI_clamp (by omega), VB_ss hB q (by omega), nI_1]
    by_cases c1 : m_S M q < u
    · rw [if_pos (nI_lt c1 (by omega)), Int32.add_zero]
      have hs' : cnt (fun p => decide (u ≤ m_S M p ∧ m_S M p ≤ v)) (q + 1) = cnt (fun p => decide (u ≤ m_S M p ∧ m_S M p ≤ v)) q := by rw [hs, if_neg (by omega)]; rfl
      rw [← hs']; exact ih'
    · rw [if_neg (nI_nlt (by omega) (by omega))]
      by_cases c2 : v < m_S M q
      · rw [if_pos (nI_lt c2 (by omega)), Int32.add_zero]
        have hs' : cnt (fun p => decide (u ≤ m_S M p ∧ m_S M p ≤ v)) (q + 1) = cnt (fun p => decide (u ≤ m_S M p ∧ m_S M p ≤ v)) q := by rw [hs, if_neg (by omega)]; rfl
        rw [← hs']; exact ih'
      · rw [if_neg (nI_nlt (by omega) (by omega)), nI_1]
        rw [if_pos (by omega)] at hs
        rw [← hs]; exact ih'
theorem count_ok {rm : Nat → Nat} {s : ts} {M : Md} {u v : Nat} (hB : VB rm s M) (hI : Inv rm M none) (hu : u < 10) (hv : v < 10) : cR_countOf (nI u) (nI v) s = some (nI (cnt (fun p => decide (u ≤ m_S M p ∧ m_S M p ≤ v)) (m_N M)), s) := by
  have hN := (Inv_N hI).1
  exact count_lp hB hI hu hv (m_N M) 0 tm_N (by omega) (by unfold tm_N; omega)
theorem cal_cnt {rm : Nat → Nat} {M : Md} (hI : Inv rm M none) : (m_R M 28).length = cnt (fun p => decide (0 ≤ m_S M p ∧ m_S M p ≤ 1)) (m_N M) := by
  refine len_cnt (Inv_nd hI 28 (by omega)) (fun x => ⟨fun h => ?_, fun h => ?_⟩)
  · have hx := (Inv_me hI 28 (by omega) x h).1
    exact ⟨hx, decide_eq_true ⟨Nat.zero_le _, (in28 hI hx).mpr h⟩⟩
  · exact (in28 hI h.1).mp (of_decide_eq_true h.2).2
theorem wait_cnt {rm : Nat → Nat} {M : Md} (hI : Inv rm M none) : (catR (m_R M) 14).length + (m_R M 29).length = cnt (fun p => decide (2 ≤ m_S M p ∧ m_S M p ≤ 4)) (m_N M) := by
  rw [← List.length_append]
  refine len_cnt ?_ (fun x => ⟨fun h => ?_, fun h => ?_⟩)
  · rw [List.nodup_append]
    refine ⟨catR_nd hI 14 (by omega), Inv_nd hI 29 (by omega), fun x hx y hy e => ?_⟩
    rw [← e] at hy
    obtain ⟨q, h1, h2⟩ := catR_mem.mp hx
    rcases h2 with w | w
    · have := Inv_di hI q 29 x (by omega) (by omega) w hy; omega
    · have := Inv_di hI (14 + q) 29 x (by omega) (by omega) w hy; omega
  · have key : ∀ ρ, ρ < 30 → ¬ ρ = 28 → x ∈ m_R M ρ → x < m_N M ∧ decide (2 ≤ m_S M x ∧ m_S M x ≤ 4) = true := fun ρ h1 h2 h3 => by
      have z := Inv_me hI ρ h1 x h3
      refine ⟨z.1, decide_eq_true ?_⟩
      rcases z.2 with w | w
      · cases w
      · unfold SP at w; omega
    rcases List.mem_append.mp h with z | z
    · obtain ⟨q, h1, h2⟩ := catR_mem.mp z
      rcases h2 with w | w
      · exact key q (by omega) (by omega) w
      · exact key (14 + q) (by omega) (by omega) w
    · exact key 29 (by omega) (by omega) z
  · have h2 := of_decide_eq_true h.2
    obtain ⟨ρ, h3, h4⟩ := (Inv_co hI x h.1).2 h2.2
    rcases (Inv_me hI ρ h3 x h4).2 with w | w
    · cases w
    · unfold SP at w
      by_cases c : ρ = 29
      · rw [c] at h4; exact List.mem_append.mpr (Or.inr h4)
      · refine List.mem_append.mpr (Or.inl (catR_mem.mpr ?_))
        by_cases c2 : ρ < 14
        · exact ⟨ρ, c2, Or.inl h4⟩
        · exact ⟨ρ - 14, by omega, Or.inr (by rw [show 14 + (ρ - 14) = ρ by omega]; exact h4)⟩
theorem state_ok {rm : Nat → Nat} {s : ts} {M : Md} (w : Int32) (hA : VA rm s M) (hB : VB rm s M) (hI : Inv rm M none) (h6 : gI s 6 0 = 1) (h1102 : gI s 1102 0 = 1) (hf : gI s 108 0 = gI s 1103 0) (hf2 : gI s 109 0 = gI s 1104 0) : ∃ v, cX_state w s = some (v, s) ∧ cR_state w s = some (v, s) := by
  have hN := (Inv_N hI).1
  unfold cX_state cR_state cR_state_12
  by_cases c11 : w = 11
  · rw [if_pos c11, if_pos c11, if_pos c11]; exact ⟨_, rfl, by rw [hf]⟩
  by_cases c12 : w = 12
  · rw [if_neg c11, if_pos c12, if_neg c11, if_pos c12, if_neg c11]; exact ⟨_, rfl, by rw [hf2]⟩
  rw [if_neg c11, if_neg c12, if_neg c11, if_neg c12, h6, if_neg (by decide), h1102, if_neg (by decide)]
  unfold cH_tellState
  by_cases c0 : w = 0
  · rw [if_pos c0, if_pos c0]; exact ⟨_, rfl, by rw [VA_tm hA, VB_tm hB]⟩
  by_cases c1 : w = 1
  · rw [if_neg c0, if_pos c1, if_neg c0, if_pos c1]; exact ⟨_, rfl, by rw [VA_st hA, VB_st hB]⟩
  by_cases c2 : w = 2
  · rw [if_neg c0, if_neg c1, if_pos c2, if_neg c0, if_neg c1, if_pos c2]; exact ⟨_, rfl, by rw [VA_tn hA, VB_tn hB]⟩
  by_cases c3 : w = 3
  · rw [if_neg c0, if_neg c1, if_neg c2, if_pos c3, if_neg c0, if_neg c1, if_neg c2, if_pos c3]; exact ⟨_, rfl, by rw [VA_N hA, VB_N hB]⟩
  by_cases c4 : w = 4
  · rw [if_neg c0, if_neg c1, if_neg c2, if_neg c3, if_pos c4, if_neg c0, if_neg c1, if_neg c2, if_neg c3, if_pos c4]
    have e1 : gI s 601 28 = nI (m_R M 28).length := (VA_li hA 28 (by omega)).2.1
    have e2 := count_ok (u := 0) (v := 1) hB hI (by omega) (by omega)
    have e2 : cR_countOf 0 1 s = _ := e2
    refine ⟨_, rfl, ?_⟩
    show (cR_countOf 0 1 s).bind _ = some (gI s 601 28, s)
    rw [e2, Option.bind_some, e1, cal_cnt hI]
  by_cases c5 : w = 5
  · rw [if_neg c0, if_neg c1, if_neg c2, if_neg c3, if_neg c4, if_pos c5, if_neg c0, if_neg c1, if_neg c2, if_neg c3, if_neg c4, if_pos c5]
    have e1 : gI s 601 29 = nI (m_R M 29).length := (VA_li hA 29 (by omega)).2.1
    have e2 := count_ok (u := 2) (v := 4) hB hI (by omega) (by omega)
    have e2 : cR_countOf 2 4 s = _ := e2
    have e3 : cW_waitingAtPlaces s = some (nI (catR (m_R M) 14).length, s) := wait_lp hA 14 0 tm_N (by omega) (by unfold tm_N; omega)
    refine ⟨nI (cnt (fun p => decide (2 ≤ m_S M p ∧ m_S M p ≤ 4)) (m_N M)), ?_, ?_⟩
    · rw [e3]
      show some (nI (catR (m_R M) 14).length + gI s 601 29, s) = _
      rw [e1, nI_add, wait_cnt hI]
    · rw [e2, Option.bind_some]
  by_cases c6 : w = 6
  · rw [if_neg c0, if_neg c1, if_neg c2, if_neg c3, if_neg c4, if_neg c5, if_pos c6, if_neg c0, if_neg c1, if_neg c2, if_neg c3, if_neg c4, if_neg c5, if_pos c6]; exact ⟨_, rfl, by rw [VA_en hA, VB_en hB]⟩
  by_cases c7 : w = 7
  · rw [if_neg c0, if_neg c1, if_neg c2, if_neg c3, if_neg c4, if_neg c5, if_neg c6, if_pos c7, if_neg c0, if_neg c1, if_neg c2, if_neg c3, if_neg c4, if_neg c5, if_neg c6, if_pos c7]; exact ⟨_, rfl, by rw [VA_wg hA, VB_wg hB]⟩
  by_cases c8 : w = 8
  · rw [if_neg c0, if_neg c1, if_neg c2, if_neg c3, if_neg c4, if_neg c5, if_neg c6, if_neg c7, if_pos c8, if_neg c0, if_neg c1, if_neg c2, if_neg c3, if_neg c4, if_neg c5, if_neg c6, if_neg c7, if_pos c8]; exact ⟨_, rfl, by rw [VA_tc hA, VB_tc hB]⟩
  by_cases c9 : w = 9
  · rw [if_neg c0, if_neg c1, if_neg c2, if_neg c3, if_neg c4, if_neg c5, if_neg c6, if_neg c7, if_neg c8, if_pos c9, if_neg c0, if_neg c1, if_neg c2, if_neg c3, if_neg c4, if_neg c5, if_neg c6, if_neg c7, if_neg c8, if_pos c9]; exact ⟨_, rfl, by rw [VA_sd hA, VB_sd hB]⟩
  by_cases c10 : w = 10
  · rw [if_neg c0, if_neg c1, if_neg c2, if_neg c3, if_neg c4, if_neg c5, if_neg c6, if_neg c7, if_neg c8, if_neg c9, if_pos c10, if_neg c0, if_neg c1, if_neg c2, if_neg c3, if_neg c4, if_neg c5, if_neg c6, if_neg c7, if_neg c8, if_neg c9, if_pos c10, VA_am hA, VB_am hB]
    cases hm : m_am M with
    | none => exact ⟨-2, rfl, rfl⟩
    | some p =>
      have hp := (Inv_am hI).2 p hm
      have hpM : p < gM s := Nat.lt_of_lt_of_le hp (VA_gm hA).1
      dsimp only
      rw [if_pos hpM, VA_no hA p hpM]
      exact ⟨nI p, rfl, rfl⟩
  · rw [if_neg c0, if_neg c1, if_neg c2, if_neg c3, if_neg c4, if_neg c5, if_neg c6, if_neg c7, if_neg c8, if_neg c9, if_neg c10, if_neg c0, if_neg c1, if_neg c2, if_neg c3, if_neg c4, if_neg c5, if_neg c6, if_neg c7, if_neg c8, if_neg c9, if_neg c10]; exact ⟨-1, rfl, rfl⟩
theorem number_ok {rm pm en vc un rm0 : Nat → Nat} {L : Nat → List Int64} {G : List Ln} {τ : Nat → Int32} {K K' : Nat} {s : ts} {M : Md} (w : Int32) (hE : Evp s s L pm en vc un rm0 G τ K K' rm) (hA : VA rm s M) (hB : VB rm s M) (h6 : gI s 6 0 = 1) (h1102 : gI s 1102 0 = 1) : ∃ v, cX_number w s = some (v, s) ∧ cR_number w s = some (v, s) := by
  have h16 : gA s 16 ((2 : Int32)).toNatClampNeg = nI (L 2).length := (hE.1.2.1 2 (by omega)).1
  have hl : (L 2).length ≤ 16 := (hE.1.2.1 2 (by omega)).2
  have h1117 : gI s 1117 0 = nI (L 2).length := hE.2.1.2.1.2.2.1
  unfold cX_number cR_number
  rw [h6, if_neg (show ¬ (1 : Int32) = 0 by decide), h1102, if_neg (show ¬ (1 : Int32) = 0 by decide), h16, h1117]
  by_cases c : w < 0
  · rw [if_pos c, if_pos c]; exact ⟨_, rfl, rfl⟩
  · obtain ⟨i, hi, e⟩ := nI_of c
    subst e
    rw [if_neg c, if_neg c]
    by_cases c2 : (L 2).length ≤ i
    · rw [if_pos (nI_le c2 hi), if_neg (nI_nlt c2 hi)]; exact ⟨_, rfl, rfl⟩
    · rw [if_neg (nI_ge (by omega) (by omega)), if_pos (nI_lt (by omega) (by omega)), if_pos (nI_idx (by omega) (by decide)), nI_clamp (by omega)]
      unfold cW_numberAt
      rw [if_neg c, if_neg (show ¬ (16 : Int32) ≤ nI i from nI_ge (b := 16) (by omega) (by decide)), if_pos (nI_idx (by omega) (by decide)), nI_clamp (by omega), VA_nu hA i (by omega), VB_nu hB i (by omega)]
      exact ⟨_, rfl, rfl⟩
theorem trace_ok {rm : Nat → Nat} {s : ts} {M : Md} (k w : Int32) (hA : VA rm s M) (hB : VB rm s M) (htc : m_tc M < 2000000000) (h6 : gI s 6 0 = 1) (h1102 : gI s 1102 0 = 1) : ∃ v, cX_trace k w s = some (v, s) ∧ cR_trace k w s = some (v, s) := by
  unfold cX_trace cR_trace cH_tellTrace
  rw [h6, if_neg (show ¬ (1 : Int32) = 0 by decide), h1102, if_neg (show ¬ (1 : Int32) = 0 by decide), VA_tc hA, VB_tc hB]
  by_cases c : k < 0
  · rw [if_pos c, if_pos c]; exact ⟨_, rfl, rfl⟩
  · obtain ⟨i, hi, e⟩ := nI_of c
    subst e
    rw [if_neg c, if_neg c]
    by_cases c2 : m_tc M ≤ i
    · rw [if_pos (nI_le c2 hi), if_pos (nI_le c2 hi)]; exact ⟨_, rfl, rfl⟩
    · rw [if_neg (nI_ge (by omega) (by omega)), if_neg (nI_ge (by omega) (by omega))]
      by_cases c3 : i < 1000
      · have ht := VA_tt hA i c3 (by omega)
        have hu := VB_tt hB i c3 (by omega)
        rw [if_pos (show nI i < (1000 : Int32) from nI_lt (b := 1000) c3 (by decide)), if_neg (show ¬ (1000 : Int32) ≤ nI i from nI_ge (b := 1000) c3 (by decide)), nI_clamp (by omega)]
        by_cases w0 : w = 0
        · subst w0
          refine ⟨m_tt M i, ?_, ?_⟩
          · rw [if_pos rfl, if_pos (nI_idx c3 (by decide)), ht.1]; rfl
          · rw [if_neg (by decide), if_pos (by decide), if_pos rfl, if_pos (nI_idx c3 (by decide)), hu.1]
        · rw [if_neg w0]
          by_cases w1 : w = 1
          · subst w1
            refine ⟨m_tv M i, ?_, ?_⟩
            · rw [if_pos rfl, if_pos (nI_idx c3 (by decide)), ht.2]; rfl
            · rw [if_neg (by decide), if_pos (by decide), if_neg (by decide), if_pos (nI_idx c3 (by decide)), hu.2]
          · rw [if_neg w1]
            by_cases wn : w < 0
            · rw [if_pos wn]; exact ⟨_, rfl, rfl⟩
            · obtain ⟨j, hj, e⟩ := nI_of wn
              subst e
              have hj2 : 2 ≤ j := by
                rcases Nat.lt_or_ge j 2 with z | z
                · have : j = 0 ∨ j = 1 := by omega
                  rcases this with z | z
                  · exact absurd (by rw [z]; rfl) w0
                  · exact absurd (by rw [z]; rfl) w1
                · exact z
              rw [if_neg wn, if_neg (show ¬ nI j ≤ (1 : Int32) from nI_ge (a := 1) (by omega) hj)]; exact ⟨_, rfl, rfl⟩
      · rw [if_neg (show ¬ nI i < (1000 : Int32) from nI_nlt (b := 1000) (by omega) hi), if_pos (show (1000 : Int32) ≤ nI i from nI_le (a := 1000) (by omega) hi)]; exact ⟨_, rfl, rfl⟩
/-- which place is meant, on both sides -/
theorem spot_ok {rm pm en vc un rm0 : Nat → Nat} {L : Nat → List Int64} {G : List Ln} {τ : Nat → Int32} {K K' : Nat} {s : ts} (r : Int32) (hE : Evp s s L pm en vc un rm0 G τ K K' rm) (h1102 : gI s 1102 0 = 1) : (cG_innerPlace r s = some (-2, s) ∧ cR_spot r s = some (-1, s)) ∨ ∃ q, q < 14 ∧ (q < rm 14 ∨ (8 ≤ q ∧ q < 8 + rm 15)) ∧ cG_innerPlace r s = some (nI q, s) ∧ cR_spot r s = some (nI q, s) := by
  have g0 : gA s 16 ((0 : Int32)).toNatClampNeg = nI (L 0).length := (hE.1.2.1 0 (by omega)).1
  have g1 : gA s 16 ((1 : Int32)).toNatClampNeg = nI (L 1).length := (hE.1.2.1 1 (by omega)).1
  have l0 : (L 0).length ≤ 8 := (hE.1.2.1 0 (by omega)).2
  have l1 : (L 1).length ≤ 6 := (hE.1.2.1 1 (by omega)).2
  have r0 : gI s 1110 0 = nI (L 0).length := hE.2.1.2.1.1
  have r1 : gI s 1113 0 = nI (L 1).length := hE.2.1.2.1.2.1
  have e14 := hE.2.2.2.2.1
  have e15 := hE.2.2.2.2.2
  unfold cG_innerPlace cR_spot
  rw [h1102, if_neg (show ¬ (1 : Int32) = 0 by decide), g0, g1, r0, r1, nI_add]
  by_cases c : r < 0
  · left; rw [if_pos c, if_pos c]; exact ⟨rfl, rfl⟩
  · obtain ⟨i, hi, e⟩ := nI_of c
    subst e
    rw [if_neg c, if_neg c]
    by_cases c2 : i < (L 0).length + (L 1).length
    · right
      rw [if_pos (nI_lt c2 (by omega)), if_pos (nI_lt c2 (by omega))]
      by_cases c3 : (L 0).length ≤ i
      · refine ⟨8 + i - (L 0).length, by omega, Or.inr ⟨by omega, by omega⟩, ?_, ?_⟩
        · rw [if_pos (nI_le c3 (by omega)), show (8 : Int32) + nI i = nI (8 + i) from nI_add 8 i, pk_sub (by omega)]
        · rw [if_pos (nI_le c3 (by omega)), show (8 : Int32) + nI i = nI (8 + i) from nI_add 8 i, pk_sub (by omega)]
      · refine ⟨i, by omega, Or.inl (by omega), ?_, ?_⟩
        · rw [if_neg (nI_ge (by omega) (by omega))]
        · rw [if_neg (nI_ge (by omega) (by omega))]
    · left
      rw [if_neg (nI_nlt (by omega) hi), if_neg (nI_nlt (by omega) hi)]; exact ⟨rfl, rfl⟩
theorem sum_ok {rm pm en vc un rm0 : Nat → Nat} {L : Nat → List Int64} {G : List Ln} {τ : Nat → Int32} {K K' : Nat} {s : ts} {M : Md} (r w : Int32) (hE : Evp s s L pm en vc un rm0 G τ K K' rm) (hA : VA rm s M) (hB : VB rm s M) (h6 : gI s 6 0 = 1) (h1102 : gI s 1102 0 = 1) : ∃ v, cX_sum r w s = some (v, s) ∧ cR_sum r w s = some (v, s) := by
  unfold cX_sum cR_sum
  rw [h6, if_neg (by decide)]
  rcases spot_ok r hE h1102 with ⟨e1, e2⟩ | ⟨q, hq, hq2, e1, e2⟩
  · rw [e1, Option.bind_some, e2, Option.bind_some]
    exact ⟨-1, rfl, rfl⟩
  · rw [e1, Option.bind_some, placeAt_ok hq, Option.bind_some, e2, Option.bind_some]
    dsimp only
    unfold cX_sum_29 cK_tellSum
    dsimp only
    rw [if_pos hq, if_neg (nI_no1 (by omega)), nI_clamp (by omega)]
    by_cases w0 : w = 0
    · rw [if_pos w0, if_pos hq, w0, if_neg (by decide), if_pos (by decide), if_pos rfl, if_pos (nI_idx hq (by decide)), VA_s0 hA q hq, VB_s0 hB q hq]; exact ⟨_, rfl, rfl⟩
    · rw [if_neg w0]
      by_cases w1 : w = 1
      · rw [if_pos w1, if_pos hq, w1, if_neg (by decide), if_pos (by decide), if_neg (by decide), if_pos rfl, if_pos (nI_idx hq (by decide)), VA_s1 hA q hq, VB_s1 hB q hq]; exact ⟨_, rfl, rfl⟩
      · rw [if_neg w1]
        by_cases w2 : w = 2
        · rw [if_pos w2, if_pos hq, w2, if_neg (by decide), if_pos (by decide), if_neg (by decide), if_neg (by decide), if_pos (nI_idx hq (by decide)), VA_s2 hA q hq, VB_s2 hB q hq]; exact ⟨_, rfl, rfl⟩
        · rw [if_neg w2]
          by_cases wn : w < 0
          · rw [if_pos wn]; exact ⟨_, rfl, rfl⟩
          · obtain ⟨j, hj, e⟩ := nI_of wn
            subst e
            have hj3 : 3 ≤ j := by
              rcases Nat.lt_or_ge j 3 with z | z
              · have : j = 0 ∨ j = 1 ∨ j = 2 := by omega
                rcases this with z | z | z
                · exact absurd (by rw [z]; rfl) w0
                · exact absurd (by rw [z]; rfl) w1
                · exact absurd (by rw [z]; rfl) w2
              · exact z
            rw [if_neg wn, if_neg (show ¬ nI j ≤ (2 : Int32) from nI_ge (a := 2) (by omega) hj)]; exact ⟨_, rfl, rfl⟩
