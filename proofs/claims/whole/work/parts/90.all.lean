/-! THE LAW HOLDS of every script. -/
theorem in_words {h : am_H} (hs : in_sh h = true) : ∀ k, k < 24 → in_AL (h.2.2 8) k = in_rw.getD k 0 := by
  unfold in_sh at hs
  rw [Bool.and_eq_true, Bool.and_eq_true, Bool.and_eq_true] at hs
  have z := hs.2.2.2
  intro k hk
  unfold in_AL
  split at z
  · rename_i e
    rw [e]
    have := List.all_eq_true.mp z k (List.mem_range.mpr hk)
    exact of_decide_eq_true this
  · cases z
theorem IV_0 {L fm : Nat} {xs : Nat → Int32} {h : am_H} (hs : in_sh h = true) : IV 0 (in_s h (ov (.inl (.int, L, .inl xs)) (in_h fm)).2.2) := by
  refine ⟨⟨0, by omega, rfl, rfl, fun k hk => by omega⟩, rfl, ⟨Nat.zero_le _, fun p hp => absurd hp (Nat.not_lt_zero p), fun q hq => ?_⟩, ⟨fun k hk => in_words hs k hk, rfl, rfl, rfl, rfl⟩, Or.inl ⟨rfl, rfl⟩⟩
  show in_I 700 q = _
  unfold in_I
  rw [if_neg (by decide), if_neg (by decide), if_pos rfl]
  by_cases c : q < 8
  · rw [if_pos c, if_neg (by omega)]
  · rw [if_neg c, if_pos (by omega)]
theorem lw_all (L : Nat) (xs : Nat → Int32) (hL : L ≤ 3072) : lw_Ev L xs := by
  refine lw_Ev_of (fun fm h hs => ?_)
  have e1 : gSok (in_s h (ov (.inl (.int, L, .inl xs)) (in_h fm)).2.2) = true := rfl
  have e2 : gSn (in_s h (ov (.inl (.int, L, .inl xs)) (in_h fm)).2.2) = L := rfl
  have ht : 4000 < tm_N := by unfold tm_N; omega
  exact lawx_loop IV (fun k s h => h.2.2.1.1) (fun k s h => IV_up h) (fun k _ => x_feed k) (fun k _ => x_end k) (fun k _ => x_load k) (fun k _ => x_seed k) (fun k _ => x_start k) x_run x_turn (fun k _ => x_state k) (fun k _ => x_number k) (fun k _ => x_process k) (fun k _ => x_place k) (fun k _ => x_sum k) x_trace tm_N 0 _ (IV_0 hs) e1 (by rw [e2]; exact hL) (by omega) (by rw [e2]; omega)
