/-! FROM THE FUNCTIONS to the law on the abstract machine. -/
theorem lw_Ev_of {L : Nat} {xs : Nat → Int32} (H : ∀ (fm : Nat) (h : am_H), in_sh h = true → Ok (cL_law_16 (in_s h (ov (.inl (.int, L, .inl xs)) (in_h fm)).2.2)) (fun r => r.1 = 1 ∧ gM r.2 ≤ 300)) : lw_Ev L xs := by
  intro fm hfm
  refine in_law (d := 279) hfm (fun h hs => ?_)
  have k := cL_law_16_ok (d := 34) _ _ (H fm h hs)
  refine (am_Ev.sub (L := [(0, .ref 0), (1, .ref 5), (2, .ref 87)]) ⟨rfl, rfl, rfl, trivial⟩ k).weak ?_
  intro v h' hv
  obtain ⟨x, s', rfl, rfl, h1, h2⟩ := hv
  have h1 : x = 1 := h1
  have h2 : gM s' ≤ 300 := h2
  refine ⟨by rw [h1], ?_, ?_⟩
  · show 143 + 3 * gM s' ≤ 600000; omega
  · show 113995 + 29 * gM s' ≤ 7302250; omega
