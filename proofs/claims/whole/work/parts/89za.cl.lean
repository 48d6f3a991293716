/-! THE PROGRAM'S LINES under the common state: leaving, joining. -/
theorem jn_fr {s : ts} {l p : Nat} {k : Int32} {A B : List Nat} : fr [508, 601, 6507, 6509, 6600] s (jn s l p k A B) := by
  have r := jn_rest (s := s) (l := l) (p := p) (k := k) (A := A) (B := B)
  refine ⟨fun f hf i => ?_, fun f _ i => by rw [r.2.1], fun f _ i => by rw [r.2.2.1], fun f _ i => by rw [r.1], fun f hf i => ?_, fun _ i k => by rw [r.2.2.2.1], fun _ i k => by rw [r.2.2.2.2.1], fun _ => r.2.2.2.2.2.1, fun f => by rw [r.2.2.2.2.2.2]⟩
  · rw [jn_I, if_neg (fun z => by rw [z.1] at hf; exact absurd hf (by decide)), if_neg (fun z => by rw [z.1] at hf; exact absurd hf (by decide))]
  · exact jn_R (fun z => by rw [z] at hf; exact absurd hf (by decide)) (fun z => by rw [z] at hf; exact absurd hf (by decide)) (fun z => by rw [z] at hf; exact absurd hf (by decide))
theorem dr_fr {s : ts} {l p : Nat} {A B : List Nat} : fr [601, 6507, 6509, 6600] s (dr s l p A B) := by
  have r := dr_rest (s := s) (l := l) (p := p) (A := A) (B := B)
  refine ⟨fun f hf i => ?_, fun f _ i => by rw [r.2.1], fun f _ i => by rw [r.2.2.1], fun f _ i => by rw [r.1], fun f hf i => ?_, fun _ i k => by rw [r.2.2.2.1], fun _ i k => by rw [r.2.2.2.2.1], fun _ => r.2.2.2.2.2.1, fun f => by rw [r.2.2.2.2.2.2]⟩
  · rw [dr_I, if_neg (fun z => by rw [z.1] at hf; exact absurd hf (by decide))]
  · exact dr_R (fun z => by rw [z] at hf; exact absurd hf (by decide)) (fun z => by rw [z] at hf; exact absurd hf (by decide)) (fun z => by rw [z] at hf; exact absurd hf (by decide))
def mRem (M : Md) (p : Nat) : Md := s_R M (rem (m_R M) p)
def mJn (M : Md) (ρ p : Nat) (k : Int32) : Md := s_K (s_R M (up (m_R M) ρ (ins (m_K M) k p (m_R M ρ)))) (up (m_K M) p k)
def Di (M : Md) : Prop := ∀ ρ ρ1 p, ρ < 30 → ρ1 < 30 → p ∈ m_R M ρ → p ∈ m_R M ρ1 → ρ = ρ1
theorem VA_len {rm : Nat → Nat} {a : ts} {M : Md} (h : VA rm a M) {ρ : Nat} (hρ : ρ < 30) : (m_R M ρ).length ≤ 300 := by
  have h1 := VA_li h ρ hρ
  have h2 := (VA_gm h).2
  have := nodup_le h1.2.2.2.1 (fun x hx => (h1.2.2.2.2 x hx).2)
  omega
/-- one leaves the line where it stands, if it does -/
def cl_lv (p : Nat) (a : ts) : Option ts := match gR a 507 p with
  | none => some a
  | some r => if r < 30 then cN_drop r p a else none
theorem cl_leave {rm : Nat → Nat} {a : ts} {M : Md} {p : Nat} (h : VA rm a M) (hd : Di M) (hp : p < m_N M) : ∃ a1, cl_lv p a = some a1 ∧ VA rm a1 (mRem M p) ∧ fr [601, 6507, 6509, 6600] a a1 ∧ gR a1 507 p = none := by
  by_cases hq : ∃ ρ, ρ < 30 ∧ p ∈ m_R M ρ
  · obtain ⟨ρ, h1, h2⟩ := hq
    have h3 := VA_li h ρ h1
    have h4 := (h3.2.2.2.2 p h2).1
    have h5 := VA_len h h1
    obtain ⟨A, B, e⟩ := List.append_of_mem h2
    rw [e] at h3 h5
    have fa : fr [601, 6507, 6509, 6600] a (dr a (lno ρ) p A B) := dr_fr
    refine ⟨dr a (lno ρ) p A B, ?_, ?_, fa, by rw [dr_507, if_pos rfl]⟩
    · unfold cl_lv
      rw [h4]
      dsimp only
      rw [if_pos (lno_lt h1)]
      exact drop_ok (lno_lt h1) h3 h5
    unfold VA mRem
    simp only [k_R]
    refine ⟨(fa.1 800 rfl 0).trans (VA_tm h), (fa.1 801 rfl 0).trans (VA_sd h), fun i hi => (fa.2.1 36 rfl i).trans ((VA_nu h) i hi), (fa.1 1004 rfl 0).trans (VA_st h), (fa.1 1005 rfl 0).trans (VA_tn h), (fa.1 904 rfl 0).trans (VA_N h), (fa.1 905 rfl 0).trans (VA_en h), (fa.1 906 rfl 0).trans (VA_wg h), (fa.1 1008 rfl 0).trans (VA_tc h), fun k h1 h2 => ⟨(fa.2.1 85 rfl k).trans ((VA_tt h) k h1 h2).1, (fa.2.1 86 rfl k).trans ((VA_tt h) k h1 h2).2⟩, (fa.2.2.2.2.1 1003 rfl 0).trans (VA_am h), fun q hq => (fa.1 703 rfl q).trans ((VA_th h) q hq), fun q hq => (fa.1 704 rfl q).trans ((VA_rm h) q hq), fun q hq => (fa.1 705 rfl q).trans ((VA_sv h) q hq), fun q hq => (fa.1 706 rfl q).trans ((VA_lt h) q hq), fun q hq => (fa.1 707 rfl q).trans ((VA_mw h) q hq), fun q hq => (fa.2.2.2.1 708 rfl q).trans ((VA_s0 h) q hq), fun q hq => (fa.2.2.2.1 709 rfl q).trans ((VA_s1 h) q hq), fun q hq => (fa.2.2.2.1 710 rfl q).trans ((VA_s2 h) q hq), fun q hq => (fa.1 700 rfl q).trans ((VA_iS h) q hq), by rw [fa.2.2.2.2.2.2.2.1 rfl]; exact (VA_gm h), fun p hp => (fa.1 500 rfl p).trans ((VA_no h) p (by rw [fa.2.2.2.2.2.2.2.1 rfl] at hp; exact hp)), fun p hp => (fa.1 501 rfl p).trans ((VA_df h) p hp), fun p hp => (fa.1 502 rfl p).trans ((VA_ss h) p hp), fun p hp => (fa.1 503 rfl p).trans ((VA_at h) p hp), fun p hp => (fa.1 504 rfl p).trans ((VA_wr h) p hp), fun p hp => (fa.1 508 rfl p).trans ((VA_ke h) p hp), fun p hp => (fa.1 510 rfl p).trans ((VA_si h) p hp), fun p hp => (fa.1 512 rfl p).trans ((VA_ao h) p hp), fun p hp hs => (fa.1 511 rfl p).trans ((VA_wh h) p hp hs), fun p hp i hi => (fa.2.2.2.2.2.1 rfl p i).trans ((VA_vl h) p hp i hi), fun p hp i hi => (fa.2.2.2.2.2.2.1 rfl p i).trans ((VA_un h) p hp i hi), ?_, ?_⟩
    · intro ρ1 hρ1
      by_cases c : ρ1 = ρ
      · rw [c, rem_mid e (by rw [e]; exact h3.2.2.2.1)]
        exact ln_dr h3
      · have ho : p ∉ m_R M ρ1 := fun z => c (hd ρ1 ρ p hρ1 h1 z h2)
        rw [rem_out ho]
        exact ln_dr_o (fun z => c (lno_inj hρ1 h1 z)) (fun x hx z => c (hd ρ1 ρ x hρ1 h1 z (by rw [e]; exact List.mem_append_left _ hx))) ho (VA_li h ρ1 hρ1)
    · intro p1 hp1 hn
      rw [dr_507]
      by_cases c : p1 = p
      · rw [if_pos c]
      · rw [if_neg c]
        exact VA_nw h p1 hp1 (fun ρ1 hρ1 z => hn ρ1 hρ1 (mem_rem.mpr ⟨z, c⟩))
  · have h1 : ∀ ρ, ρ < 30 → p ∉ m_R M ρ := fun ρ hρ z => hq ⟨ρ, hρ, z⟩
    have h2 := VA_nw h p hp h1
    have fa : fr [601, 6507, 6509, 6600] a a := fr_rf
    have fb : fr [] a a := fr_rf
    refine ⟨a, by unfold cl_lv; rw [h2], ?_, fa, h2⟩
    unfold VA mRem
    simp only [k_R]
    refine ⟨(fb.1 800 rfl 0).trans (VA_tm h), (fb.1 801 rfl 0).trans (VA_sd h), fun i hi => (fb.2.1 36 rfl i).trans ((VA_nu h) i hi), (fb.1 1004 rfl 0).trans (VA_st h), (fb.1 1005 rfl 0).trans (VA_tn h), (fb.1 904 rfl 0).trans (VA_N h), (fb.1 905 rfl 0).trans (VA_en h), (fb.1 906 rfl 0).trans (VA_wg h), (fb.1 1008 rfl 0).trans (VA_tc h), fun k h1 h2 => ⟨(fb.2.1 85 rfl k).trans ((VA_tt h) k h1 h2).1, (fb.2.1 86 rfl k).trans ((VA_tt h) k h1 h2).2⟩, (fb.2.2.2.2.1 1003 rfl 0).trans (VA_am h), fun q hq => (fb.1 703 rfl q).trans ((VA_th h) q hq), fun q hq => (fb.1 704 rfl q).trans ((VA_rm h) q hq), fun q hq => (fb.1 705 rfl q).trans ((VA_sv h) q hq), fun q hq => (fb.1 706 rfl q).trans ((VA_lt h) q hq), fun q hq => (fb.1 707 rfl q).trans ((VA_mw h) q hq), fun q hq => (fb.2.2.2.1 708 rfl q).trans ((VA_s0 h) q hq), fun q hq => (fb.2.2.2.1 709 rfl q).trans ((VA_s1 h) q hq), fun q hq => (fb.2.2.2.1 710 rfl q).trans ((VA_s2 h) q hq), fun q hq => (fb.1 700 rfl q).trans ((VA_iS h) q hq), by rw [fb.2.2.2.2.2.2.2.1 rfl]; exact (VA_gm h), fun p hp => (fb.1 500 rfl p).trans ((VA_no h) p (by rw [fb.2.2.2.2.2.2.2.1 rfl] at hp; exact hp)), fun p hp => (fb.1 501 rfl p).trans ((VA_df h) p hp), fun p hp => (fb.1 502 rfl p).trans ((VA_ss h) p hp), fun p hp => (fb.1 503 rfl p).trans ((VA_at h) p hp), fun p hp => (fb.1 504 rfl p).trans ((VA_wr h) p hp), fun p hp => (fb.1 508 rfl p).trans ((VA_ke h) p hp), fun p hp => (fb.1 510 rfl p).trans ((VA_si h) p hp), fun p hp => (fb.1 512 rfl p).trans ((VA_ao h) p hp), fun p hp hs => (fb.1 511 rfl p).trans ((VA_wh h) p hp hs), fun p hp i hi => (fb.2.2.2.2.2.1 rfl p i).trans ((VA_vl h) p hp i hi), fun p hp i hi => (fb.2.2.2.2.2.2.1 rfl p i).trans ((VA_un h) p hp i hi), ?_, ?_⟩
    · intro ρ1 hρ1
      rw [rem_out (h1 ρ1 hρ1)]
      exact VA_li h ρ1 hρ1
    · intro p1 hp1 hn
      by_cases c : p1 = p
      · rw [c]; exact h2
      · exact VA_nw h p1 hp1 (fun ρ1 hρ1 z => hn ρ1 hρ1 (mem_rem.mpr ⟨z, c⟩))
theorem cl_join {rm : Nat → Nat} {a : ts} {M : Md} {p ρ : Nat} {k : Int32} (h : VA rm a M) (hd : Di M) (hp : p < m_N M) (hno : ∀ ρ, ρ < 30 → p ∉ m_R M ρ) (hρ : ρ < 30) (hm : ∀ x, x ∈ m_R M ρ → x < m_N M) : ∃ a1, cN_join (lno ρ) p k a = some a1 ∧ VA rm a1 (mJn M ρ p k) ∧ fr [508, 601, 6507, 6509, 6600] a a1 := by
  have h3 := VA_li h ρ hρ
  have hpM : p < gM a := Nat.lt_of_lt_of_le hp (VA_gm h).1
  have hg := tW_congr (l := m_R M ρ) (f := kle a k) (g := fun x => decide (¬ k < m_K M x)) (fun x hx => by
    unfold kle
    rw [VA_ke h x (hm x hx)])
  have hj := join_ok (k := k) (lno_lt hρ) h3 hpM (VA_len h hρ)
  rw [hg.1, hg.2] at hj
  generalize hA : (m_R M ρ).takeWhile (fun x => decide (¬ k < m_K M x)) = A at hj
  generalize hB : (m_R M ρ).dropWhile (fun x => decide (¬ k < m_K M x)) = B at hj
  have hAB : A ++ B = m_R M ρ := by rw [← hA, ← hB]; exact List.takeWhile_append_dropWhile
  have hins : ins (m_K M) k p (m_R M ρ) = A ++ p :: B := by unfold ins; rw [hA, hB]
  have fa : fr [508, 601, 6507, 6509, 6600] a (jn a (lno ρ) p k A B) := jn_fr
  refine ⟨_, hj, ?_, fa⟩
  unfold VA mJn
  simp only [k_R, k_K]
  refine ⟨(fa.1 800 rfl 0).trans (VA_tm h), (fa.1 801 rfl 0).trans (VA_sd h), fun i hi => (fa.2.1 36 rfl i).trans ((VA_nu h) i hi), (fa.1 1004 rfl 0).trans (VA_st h), (fa.1 1005 rfl 0).trans (VA_tn h), (fa.1 904 rfl 0).trans (VA_N h), (fa.1 905 rfl 0).trans (VA_en h), (fa.1 906 rfl 0).trans (VA_wg h), (fa.1 1008 rfl 0).trans (VA_tc h), fun k h1 h2 => ⟨(fa.2.1 85 rfl k).trans ((VA_tt h) k h1 h2).1, (fa.2.1 86 rfl k).trans ((VA_tt h) k h1 h2).2⟩, (fa.2.2.2.2.1 1003 rfl 0).trans (VA_am h), fun q hq => (fa.1 703 rfl q).trans ((VA_th h) q hq), fun q hq => (fa.1 704 rfl q).trans ((VA_rm h) q hq), fun q hq => (fa.1 705 rfl q).trans ((VA_sv h) q hq), fun q hq => (fa.1 706 rfl q).trans ((VA_lt h) q hq), fun q hq => (fa.1 707 rfl q).trans ((VA_mw h) q hq), fun q hq => (fa.2.2.2.1 708 rfl q).trans ((VA_s0 h) q hq), fun q hq => (fa.2.2.2.1 709 rfl q).trans ((VA_s1 h) q hq), fun q hq => (fa.2.2.2.1 710 rfl q).trans ((VA_s2 h) q hq), fun q hq => (fa.1 700 rfl q).trans ((VA_iS h) q hq), by rw [fa.2.2.2.2.2.2.2.1 rfl]; exact (VA_gm h), fun p hp => (fa.1 500 rfl p).trans ((VA_no h) p (by rw [fa.2.2.2.2.2.2.2.1 rfl] at hp; exact hp)), fun p hp => (fa.1 501 rfl p).trans ((VA_df h) p hp), fun p hp => (fa.1 502 rfl p).trans ((VA_ss h) p hp), fun p hp => (fa.1 503 rfl p).trans ((VA_at h) p hp), fun p hp => (fa.1 504 rfl p).trans ((VA_wr h) p hp), ?_, fun p hp => (fa.1 510 rfl p).trans ((VA_si h) p hp), fun p hp => (fa.1 512 rfl p).trans ((VA_ao h) p hp), fun p hp hs => (fa.1 511 rfl p).trans ((VA_wh h) p hp hs), fun p hp i hi => (fa.2.2.2.2.2.1 rfl p i).trans ((VA_vl h) p hp i hi), fun p hp i hi => (fa.2.2.2.2.2.2.1 rfl p i).trans ((VA_un h) p hp i hi), ?_, ?_⟩
  · intro p1 hp1
    rw [jn_I, if_neg (fun z => absurd z.1 (by decide))]
    by_cases c : p1 = p
    · rw [if_pos ⟨rfl, c⟩, c, up_s]
    · rw [if_neg (fun z => c z.2), up_n c]; exact VA_ke h p1 hp1
  · intro ρ1 hρ1
    by_cases c : ρ1 = ρ
    · rw [c, up_s, hins]
      exact ln_jn (by rw [hAB]; exact h3) hpM (by rw [hAB]; exact hno ρ hρ)
    · rw [up_n c]
      exact ln_jn_o (fun z => c (lno_inj hρ1 hρ z)) (fun x hx z => c (hd ρ1 ρ x hρ1 hρ z (by rw [← hAB]; exact List.mem_append_left _ hx))) (hno ρ1 hρ1) (VA_li h ρ1 hρ1)
  · intro p1 hp1 hn
    rw [jn_507]
    by_cases c : p1 = p
    · exact absurd (by rw [up_s, mem_ins]; exact Or.inl c) (hn ρ hρ)
    · rw [if_neg c]
      refine VA_nw h p1 hp1 (fun ρ1 hρ1 z => hn ρ1 hρ1 ?_)
      by_cases c1 : ρ1 = ρ
      · rw [c1, up_s, mem_ins]; rw [c1] at z; exact Or.inr z
      · rw [up_n c1]; exact z
