/-! ONE ENTERS A LINE to wait there. -/
theorem ins_cg {K K1 : Nat → Int32} {k : Int32} {p : Nat} {l : List Nat} (h : ∀ x, x ∈ l → K1 x = K x) : ins K1 k p l = ins K k p l := by
  unfold ins
  have := tW_congr (l := l) (f := fun x => decide (¬ k < K1 x)) (g := fun x => decide (¬ k < K x)) (fun x hx => by rw [h x hx])
  rw [this.1, this.2]
theorem Inv_jn {rm : Nat → Nat} {M : Md} {p ρ : Nat} {v : Int32} (h : Inv rm M (some p)) (hn : ∀ ρ, ρ < 30 → p ∉ m_R M ρ) (hρ : ρ < 30) (h28 : ¬ ρ = 28) (hv : 8 ≤ ρ → v = 0) (hr : ρ < 8 → su (m_U M) ρ (m_N M) = rm ρ) : Inv rm (mJn M ρ p v) (some p) := by
  have hnp : ∀ ρ1, ρ1 < 30 → ∀ x, x ∈ m_R M ρ1 → ¬ x = p := fun ρ1 h1 x hx z => hn ρ1 h1 (z ▸ hx)
  have hin : ∀ ρ1 x, ρ1 < 30 → x ∈ up (m_R M) ρ (ins (m_K M) v p (m_R M ρ)) ρ1 → (x = p ∧ ρ1 = ρ) ∨ (x ∈ m_R M ρ1 ∧ ¬ x = p) := fun ρ1 x h1 hx => by
    by_cases c : ρ1 = ρ
    · rw [c, up_s] at hx
      rcases mem_ins.mp hx with z | z
      · exact Or.inl ⟨z, c⟩
      · rw [c]; exact Or.inr ⟨z, hnp ρ hρ x z⟩
    · rw [up_n c] at hx; exact Or.inr ⟨hx, hnp ρ1 h1 x hx⟩
  unfold Inv
  simp only [p_mJn]
  refine ⟨Inv_N h, fun ρ1 h1 => ?_, fun ρ1 h1 x hx => ?_, fun ρ1 ρ2 x h1 h2 h3 h4 => ?_, fun x hx => ⟨(Inv_co h x hx).1, fun h4 => ?_⟩, Inv_ow h, ?_, fun ρ1 h1 => ?_, fun ρ1 h1 h2 h3 x hx => ?_, fun q hq => ⟨(Inv_re h q hq).1, (Inv_re h q hq).2.1, fun hne => ?_⟩, fun q hq => ⟨?_, (Inv_mw h q hq).2⟩, Inv_am h⟩
  · by_cases c : ρ1 = ρ
    · rw [c, up_s]; exact nodup_ins (Inv_nd h ρ hρ) (hn ρ hρ)
    · rw [up_n c]; exact Inv_nd h ρ1 h1
  · rcases hin ρ1 x h1 hx with ⟨z, _⟩ | ⟨z, _⟩
    · exact ⟨z ▸ (Inv_ow h p rfl).1, Or.inl (by rw [z])⟩
    · exact Inv_me h ρ1 h1 x z
  · rcases hin ρ1 x h1 h3 with ⟨z, e⟩ | ⟨z, e⟩
    · rcases hin ρ2 x h2 h4 with ⟨_, e2⟩ | ⟨_, e2⟩
      · rw [e, e2]
      · exact absurd z e2
    · rcases hin ρ2 x h2 h4 with ⟨z2, _⟩ | ⟨z2, _⟩
      · exact absurd z2 e
      · exact Inv_di h ρ1 ρ2 x h1 h2 z z2
  · obtain ⟨ρ1, h1, h2⟩ := (Inv_co h x hx).2 h4
    refine ⟨ρ1, h1, ?_⟩
    by_cases c : ρ1 = ρ
    · rw [c, up_s, mem_ins]; rw [c] at h2; exact Or.inr h2
    · rw [up_n c]; exact h2
  · rw [up_n (fun z => h28 z.symm)]
    refine ⟨(Inv_ca h).1.imp_of_mem (fun {x y} hx hy z => ?_), fun x hx => ?_⟩
    · unfold clt
      rw [up_n (hnp 28 (by omega) x hx), up_n (hnp 28 (by omega) y hy)]; exact z
    · rw [up_n (hnp 28 (by omega) x hx)]; exact (Inv_ca h).2 x hx
  · by_cases c : ρ1 = ρ
    · rw [c, up_s]
      have hs := Inv_so h ρ (by omega)
      refine ins_pw hs (hs.imp_of_mem (fun {x y} hx hy z => ?_)) (fun x hx z => ?_) (fun y hy z => ?_)
      · rw [up_n (hnp ρ hρ x hx), up_n (hnp ρ hρ y hy)]; exact z
      · rw [up_s, up_n (hnp ρ hρ x hx)]; exact z
      · rw [up_s, up_n (hnp ρ hρ y hy)]; exact Int32.lt_asymm z
    · rw [up_n c]
      refine (Inv_so h ρ1 h1).imp_of_mem (fun {x y} hx hy z => ?_)
      rw [up_n (hnp ρ1 (by omega) x hx), up_n (hnp ρ1 (by omega) y hy)]; exact z
  · rcases hin ρ1 x h2 hx with ⟨z, e⟩ | ⟨z, e⟩
    · rw [z, up_s]; exact hv (by omega)
    · rw [up_n e]; exact Inv_k0 h ρ1 h1 h2 h3 x z
  · by_cases c : q = ρ
    · rw [c]; exact hr (by omega)
    · rw [up_n c] at hne; exact (Inv_re h q hq).2.2 hne
  · have hw : ∀ ρ1, ρ1 < 30 → wl (some p) (up (m_R M) ρ (ins (m_K M) v p (m_R M ρ)) ρ1) = wl (some p) (m_R M ρ1) := fun ρ1 h1 => by
      by_cases c : ρ1 = ρ
      · rw [c, up_s]
        unfold wl ins
        rw [List.filter_append, List.filter_cons_of_neg (by simp), ← List.filter_append, List.takeWhile_append_dropWhile]
      · rw [up_n c]
    rw [hw q (by omega), hw (14 + q) (by omega)]; exact (Inv_mw h q hq).1
theorem Inv_own {rm : Nat → Nat} {M : Md} {p ρ s q : Nat} (h : Inv rm M (some p)) (hp : p ∈ m_R M ρ) (hρ : ρ < 30) (hsp : SP ρ s q) (hq : q < 14) (hρq : ρ = q ∨ ρ = 14 + q) : Inv rm (mMw (mWt M p s q) q (max (m_mw M q) ((m_R M q).length + (m_R M (14 + q)).length))) none := by
  have hpN := Inv_ow h p rfl
  have h2l := two_len h hq
  have hs4 : s ≤ 4 := by unfold SP at hsp; omega
  unfold Inv
  simp only [p_mMw, p_mWt]
  refine ⟨Inv_N h, Inv_nd h, fun ρ1 h1 x hx => ⟨(Inv_me h ρ1 h1 x hx).1, Or.inr ?_⟩, Inv_di h, fun x hx => ?_, fun _ z => (by cases z), Inv_ca h, Inv_so h, Inv_k0 h, Inv_re h, fun q1 hq1 => ?_, fun x hx h7 => ?_, (Inv_am h).2⟩
  · by_cases c : x = p
    · rw [c, up_s, up_s]
      rw [c] at hx
      rw [Inv_di h ρ1 ρ p h1 hρ hx hp]; exact hsp
    · rw [up_n c, up_n c]
      rcases (Inv_me h ρ1 h1 x hx).2 with z | z
      · cases z; exact absurd rfl c
      · exact z
  · by_cases c : x = p
    · rw [c, up_s]; exact ⟨by omega, fun _ => ⟨ρ, hρ, hp⟩⟩
    · rw [up_n c]; exact Inv_co h x hx
  · rw [wl_none, wl_none]
    by_cases c : q1 = q
    · rw [c, up_s]
      exact ⟨Nat.le_max_right _ _, by have := (Inv_mw h q hq).2; omega⟩
    · rw [up_n c]
      have z := Inv_mw h q1 hq1
      rw [wl_out (fun y => by have := Inv_di h q1 ρ p (by omega) hρ y hp; omega), wl_out (fun y => by have := Inv_di h (14 + q1) ρ p (by omega) hρ y hp; omega)] at z
      exact z
  · by_cases c : x = p
    · rw [c, up_s] at h7; omega
    · rw [up_n c] at h7; exact (Inv_am h).1 x hx h7
theorem Inv_own4 {rm : Nat → Nat} {M : Md} {p : Nat} (h : Inv rm M (some p)) (hp : p ∈ m_R M 29) : Inv rm (mSt M p 4) none := by
  unfold Inv
  simp only [p_mSt]
  refine ⟨Inv_N h, Inv_nd h, fun ρ1 h1 x hx => ⟨(Inv_me h ρ1 h1 x hx).1, Or.inr ?_⟩, Inv_di h, fun x hx => ?_, fun _ z => (by cases z), Inv_ca h, Inv_so h, Inv_k0 h, Inv_re h, fun q1 hq1 => ?_, fun x hx h7 => ?_, (Inv_am h).2⟩
  · by_cases c : x = p
    · rw [c, up_s]
      rw [c] at hx
      rw [Inv_di h ρ1 29 p h1 (by omega) hx hp]; exact Or.inr (Or.inr (Or.inr (Or.inr ⟨rfl, rfl⟩)))
    · rw [up_n c]
      rcases (Inv_me h ρ1 h1 x hx).2 with z | z
      · cases z; exact absurd rfl c
      · exact z
  · by_cases c : x = p
    · rw [c, up_s]; exact ⟨by omega, fun _ => ⟨29, by omega, hp⟩⟩
    · rw [up_n c]; exact Inv_co h x hx
  · rw [wl_none, wl_none]
    have z := Inv_mw h q1 hq1
    rw [wl_out (fun y => by have := Inv_di h q1 29 p (by omega) (by omega) y hp; omega), wl_out (fun y => by have := Inv_di h (14 + q1) 29 p (by omega) (by omega) y hp; omega)] at z
    exact z
  · by_cases c : x = p
    · rw [c, up_s] at h7; omega
    · rw [up_n c] at h7; exact (Inv_am h).1 x hx h7
/-- the reference's row -/
theorem rc_jn {rm : Nat → Nat} {b : ts} {M : Md} {p ρ : Nat} {k : Int32} (h : VB rm b M) (hn : ∀ ρ, ρ < 30 → p ∉ m_R M ρ) (hρ : ρ < 28) (hl : (m_R M ρ).length < 300) (hS : 2 ≤ m_S M p) : ∃ b1, cR_enter (nI ρ) (nI p) (if ρ < 8 then k else m_A M p) (nI ((m_R M ρ).takeWhile (fun x => decide (¬ k < m_K M x))).length) b = some b1 ∧ VB rm b1 (mJn M ρ p k) := by
  have h3 := VB_ro h ρ hρ
  have e3 : rb M ρ = ((m_R M ρ).takeWhile (fun x => decide (¬ k < m_K M x))).map (fun x => (x, if ρ < 8 then m_K M x else m_A M x)) ++ ((m_R M ρ).dropWhile (fun x => decide (¬ k < m_K M x))).map (fun x => (x, if ρ < 8 then m_K M x else m_A M x)) := by
    unfold rb
    rw [← List.map_append, List.takeWhile_append_dropWhile]
  rw [e3] at h3
  obtain ⟨b1, y1, fa, y3, y4⟩ := enter_ok (p := p) (v := if ρ < 8 then k else m_A M p) hρ h3 (by rw [← List.map_append, List.takeWhile_append_dropWhile, List.length_map]; exact hl)
  rw [List.length_map] at y1
  refine ⟨b1, y1, ?_⟩
  have hmap : ∀ ρ1, ρ1 < 28 → (m_R M ρ1).map (fun x => (x, if ρ1 < 8 then up (m_K M) p k x else m_A M x)) = rb M ρ1 := fun ρ1 h1 => by
    unfold rb
    refine List.map_congr_left (fun x hx => ?_)
    rw [up_n (show ¬ x = p from fun z => hn ρ1 (by omega) (z ▸ hx))]
  unfold VB rb
  simp only [p_mJn]
  refine ⟨⟨(fa.1 1110 rfl 0).trans (VB_nr h).1, (VB_nr h).2⟩, fun r hr => (fa.2.1 90 rfl r).trans ((VB_r0 h) r hr), fun s hs => (fa.2.1 93 rfl s).trans ((VB_r1 h) s hs), (fa.1 1152 rfl 0).trans (VB_tm h), (fa.1 1158 rfl 0).trans (VB_sd h), fun i hi => (fa.2.1 118 rfl i).trans ((VB_nu h) i hi), (fa.1 1153 rfl 0).trans (VB_st h), (fa.1 1154 rfl 0).trans (VB_tn h), (fa.1 1155 rfl 0).trans (VB_N h), (fa.1 1156 rfl 0).trans (VB_en h), (fa.1 1157 rfl 0).trans (VB_wg h), (fa.1 1161 rfl 0).trans (VB_tc h), fun k h1 h2 => ⟨(fa.2.1 116 rfl k).trans ((VB_tt h) k h1 h2).1, (fa.2.1 117 rfl k).trans ((VB_tt h) k h1 h2).2⟩, (fa.1 1159 rfl 0).trans (VB_am h), fun q hq => (fa.2.1 129 rfl q).trans ((VB_th h) q hq), fun q hq => (fa.2.1 130 rfl q).trans ((VB_sv h) q hq), fun q hq => (fa.2.1 131 rfl q).trans ((VB_lt h) q hq), fun q hq => (fa.2.1 132 rfl q).trans ((VB_mb h) q hq), fun q hq => (fa.2.2.1 133 rfl q).trans ((VB_s0 h) q hq), fun q hq => (fa.2.2.1 134 rfl q).trans ((VB_s1 h) q hq), fun q hq => (fa.2.2.1 135 rfl q).trans ((VB_s2 h) q hq), fun p hp => (fa.2.1 119 rfl p).trans ((VB_df h) p hp), fun p hp => (fa.2.1 120 rfl p).trans ((VB_ss h) p hp), fun p hp => (fa.2.1 121 rfl p).trans ((VB_at h) p hp), ?_, fun p hp hs => (fa.2.2.1 123 rfl p).trans ((VB_pa h) p hp hs), (fa.2.2.2.1 1160 rfl 0).trans (VB_P h), fun p hp => (fa.2.1 124 rfl p).trans ((VB_si h) p hp), fun p hp hs => (fa.2.1 125 rfl p).trans ((VB_wh h) p hp hs), fun p hp => (fa.2.1 126 rfl p).trans ((VB_wr h) p hp), fun p hp i hi => (fa.2.1 127 rfl _).trans ((VB_vl h) p hp i hi), fun p hp i hi => (fa.2.1 128 rfl _).trans ((VB_un h) p hp i hi), ?_, ?_⟩
  · intro p1 hp1 hs
    by_cases c : p1 = p
    · rw [c] at hs; omega
    · rw [up_n c]; exact (fa.2.1 122 rfl p1).trans (VB_du h p1 hp1 hs)
  · intro ρ1 hρ1
    by_cases c : ρ1 = ρ
    · rw [c, up_s]
      have e4 : (ins (m_K M) k p (m_R M ρ)).map (fun x => (x, if ρ < 8 then up (m_K M) p k x else m_A M x)) = ((m_R M ρ).takeWhile (fun x => decide (¬ k < m_K M x))).map (fun x => (x, if ρ < 8 then m_K M x else m_A M x)) ++ (p, if ρ < 8 then k else m_A M p) :: ((m_R M ρ).dropWhile (fun x => decide (¬ k < m_K M x))).map (fun x => (x, if ρ < 8 then m_K M x else m_A M x)) := by
        unfold ins
        rw [List.map_append, List.map_cons, up_s]
        congr 1
        · refine List.map_congr_left (fun x hx => ?_)
          rw [up_n (show ¬ x = p from fun z => hn ρ (by omega) (z ▸ (List.takeWhile_sublist _).mem hx))]
        · congr 1
          refine List.map_congr_left (fun x hx => ?_)
          rw [up_n (show ¬ x = p from fun z => hn ρ (by omega) (z ▸ (List.dropWhile_sublist _).mem hx))]
      rw [e4]; exact y4
    · rw [up_n c, hmap ρ1 hρ1]; exact rw1_o (VB_ro h ρ1 hρ1) y3 c
  · rw [up_n (by omega)]; exact aw1_fr (VB_aw h) fa rfl rfl
theorem none_in {rm : Nat → Nat} {M : Md} {p : Nat} (hI : Inv rm M none) (hS : 5 ≤ m_S M p) : ∀ ρ, ρ < 30 → p ∉ m_R M ρ := fun ρ h1 h2 => by
  rcases (Inv_me hI ρ h1 p h2).2 with y | y
  · cases y
  · unfold SP at y; omega
theorem row_short {rm : Nat → Nat} {M : Md} {o : Option Nat} {p ρ : Nat} (hI : Inv rm M o) (hp : p < m_N M) (hn : p ∉ m_R M ρ) (hρ : ρ < 30) : (m_R M ρ).length < 300 := by
  have h1 : (p :: m_R M ρ).Nodup := List.nodup_cons.mpr ⟨hn, Inv_nd hI ρ hρ⟩
  have h2 := nodup_le (n := m_N M) h1 (fun x hx => by
    rcases List.mem_cons.mp hx with z | z
    · rw [z]; exact hp
    · exact (Inv_me hI ρ hρ x z).1)
  rw [List.length_cons] at h2
  have := (Inv_N hI).1
  omega
