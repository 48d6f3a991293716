/-! THE LAW'S LOOP, with an invariant that counts the calls. Printed by gen_lawx.py. -/
def sx_feed (I J : ts → Prop) : Prop := ∀ (a0 : Int32) (a1 : Int32) (a2 : Int32) (a3 : Int32) (a4 : Int32) (s : ts), I s → ∃ (v : Int32) (s1 s2 : ts), cX_feed a0 a1 a2 a3 a4 s = some (v, s1) ∧ cR_feed a0 a1 a2 a3 a4 s1 = some (v, s2) ∧ J s2
def sx_end (I J : ts → Prop) : Prop := ∀ (a0 : Int32) (s : ts), I s → ∃ (v : Int32) (s1 s2 : ts), cX_end a0 s = some (v, s1) ∧ cR_end a0 s1 = some (v, s2) ∧ J s2
def sx_load (I J : ts → Prop) : Prop := ∀ (s : ts), I s → ∃ (v : Int32) (s1 s2 : ts), cX_load s = some (v, s1) ∧ cR_load s1 = some (v, s2) ∧ J s2
def sx_seed (I J : ts → Prop) : Prop := ∀ (a0 : Int32) (s : ts), I s → ∃ (v : Int32) (s1 s2 : ts), cX_seed a0 s = some (v, s1) ∧ cR_seed a0 s1 = some (v, s2) ∧ J s2
def sx_start (I J : ts → Prop) : Prop := ∀ (a0 : Int32) (a1 : Int32) (a2 : Int32) (a3 : Int32) (a4 : Int32) (s : ts), I s → ∃ (v : Int32) (s1 s2 : ts), cX_start a0 a1 a2 a3 a4 s = some (v, s1) ∧ cR_start a0 a1 a2 a3 a4 s1 = some (v, s2) ∧ J s2
def sx_run (I J : ts → Prop) : Prop := ∀ (a0 : Int32) (s : ts), I s → ∃ (v : Int32) (s1 s2 : ts), cX_run a0 s = some (v, s1) ∧ cR_run a0 s1 = some (v, s2) ∧ J s2
def sx_turn (I J : ts → Prop) : Prop := ∀ (a0 : Int32) (s : ts), I s → ∃ (v : Int32) (s1 s2 : ts), cX_turn a0 s = some (v, s1) ∧ cR_turn a0 s1 = some (v, s2) ∧ J s2
def sx_state (I J : ts → Prop) : Prop := ∀ (a0 : Int32) (s : ts), I s → ∃ (v : Int32) (s1 s2 : ts), cX_state a0 s = some (v, s1) ∧ cR_state a0 s1 = some (v, s2) ∧ J s2
def sx_number (I J : ts → Prop) : Prop := ∀ (a0 : Int32) (s : ts), I s → ∃ (v : Int32) (s1 s2 : ts), cX_number a0 s = some (v, s1) ∧ cR_number a0 s1 = some (v, s2) ∧ J s2
def sx_process (I J : ts → Prop) : Prop := ∀ (a0 : Int32) (a1 : Int32) (s : ts), I s → ∃ (v : Int32) (s1 s2 : ts), cX_process a0 a1 s = some (v, s1) ∧ cR_process a0 a1 s1 = some (v, s2) ∧ J s2
def sx_place (I J : ts → Prop) : Prop := ∀ (a0 : Int32) (a1 : Int32) (s : ts), I s → ∃ (v : Int32) (s1 s2 : ts), cX_place a0 a1 s = some (v, s1) ∧ cR_place a0 a1 s1 = some (v, s2) ∧ J s2
def sx_sum (I J : ts → Prop) : Prop := ∀ (a0 : Int32) (a1 : Int32) (s : ts), I s → ∃ (v : Int64) (s1 s2 : ts), cX_sum a0 a1 s = some (v, s1) ∧ cR_sum a0 a1 s1 = some (v, s2) ∧ J s2
def sx_trace (I J : ts → Prop) : Prop := ∀ (a0 : Int32) (a1 : Int32) (s : ts), I s → ∃ (v : Int32) (s1 s2 : ts), cX_trace a0 a1 s = some (v, s1) ∧ cR_trace a0 a1 s1 = some (v, s2) ∧ J s2
theorem lawx_b {I J : ts → Prop} (hIJ : ∀ s, I s → J s) (h_feed : sx_feed I J) (h_end : sx_end I J) (h_load : sx_load I J) (h_seed : sx_seed I J) (h_start : sx_start I J) (h_run : sx_run I J) (h_turn : sx_turn I J) (h_state : sx_state I J) (h_number : sx_number I J) (h_process : sx_process I J) (h_place : sx_place I J) (h_sum : sx_sum I J) (h_trace : sx_trace I J) {P : Int32 × ts → Prop} {kf : Int32 → ts → Option (Int32 × ts)} {k : Nat} {s : ts} (hs : I s) (hok : gSok s = true) (hn : gSn s ≤ 3072) (hk0 : 6 * k ≤ gSn s + 6) (hend : P (1, s)) (kk : 6 * k + 6 ≤ gSn s → ∀ s2, J s2 → sO s s2 → Ok (kf (nI (6 * (k + 1))) s2) P) : Ok (cL_law_18_b kf (nI (6 * k)) s) P := by
  unfold cL_law_18_b
  refine Ok_T hok ?_
  by_cases hk : 6 * k + 6 ≤ gSn s
  · have kk := kk hk
    have e6 : nI (6 * (k + 1)) = nI (6 * k) + 6 := by rw [show 6 * (k + 1) = 6 * k + 6 by omega]; exact Int32.ofNat_add _ _
    rw [e6] at kk
    refine Ok_F ?_ ?_
    · show ¬ nI (gSn s) - nI 6 < nI (6 * k)
      rw [pk_sub (by omega)]
      exact nI_nlt (by omega) (by omega)
    have h0 := lw_ix (j := 0) hk hn (by decide)
    have z0 : nI (6 * k) + nI 0 = nI (6 * k) := (Int32.ofNat_add (6 * k) 0).symm
    rw [z0] at h0
    refine Ok_T h0 ?_
    refine Ok_C ?_ (fun _ => ?_)
    · intro _
      refine Ok_T (lw_ix (j := 1) hk hn (by decide)) ?_
      refine Ok_T (lw_ix (j := 2) hk hn (by decide)) ?_
      refine Ok_T (lw_ix (j := 3) hk hn (by decide)) ?_
      refine Ok_T (lw_ix (j := 4) hk hn (by decide)) ?_
      refine Ok_T (lw_ix (j := 5) hk hn (by decide)) ?_
      obtain ⟨v, s1, s2, e1, e2, hI⟩ := h_feed (gS s (nI (6 * k) + nI 1).toNatClampNeg) (gS s (nI (6 * k) + nI 2).toNatClampNeg) (gS s (nI (6 * k) + nI 3).toNatClampNeg) (gS s (nI (6 * k) + nI 4).toNatClampNeg) (gS s (nI (6 * k) + nI 5).toNatClampNeg) s hs
      have o1 := fr_O (cX_feed_fr (gS s (nI (6 * k) + nI 1).toNatClampNeg) (gS s (nI (6 * k) + nI 2).toNatClampNeg) (gS s (nI (6 * k) + nI 3).toNatClampNeg) (gS s (nI (6 * k) + nI 4).toNatClampNeg) (gS s (nI (6 * k) + nI 5).toNatClampNeg) _ _ e1)
      have o2 := fr_O (cR_feed_fr (gS s (nI (6 * k) + nI 1).toNatClampNeg) (gS s (nI (6 * k) + nI 2).toNatClampNeg) (gS s (nI (6 * k) + nI 3).toNatClampNeg) (gS s (nI (6 * k) + nI 4).toNatClampNeg) (gS s (nI (6 * k) + nI 5).toNatClampNeg) _ _ e2)
      obtain ⟨q1, q2, q3⟩ := sO_S o1
      refine Ok_B e1 ?_
      refine Ok_T (q1.trans hok) ?_
      dsimp only
      rw [q3, q2]
      refine Ok_T (lw_ix (j := 1) hk hn (by decide)) ?_
      refine Ok_T (lw_ix (j := 2) hk hn (by decide)) ?_
      refine Ok_T (lw_ix (j := 3) hk hn (by decide)) ?_
      refine Ok_T (lw_ix (j := 4) hk hn (by decide)) ?_
      refine Ok_T (lw_ix (j := 5) hk hn (by decide)) ?_
      refine Ok_B e2 (Ok_T rfl ?_)
      exact kk s2 hI (fun r => (o2 r).trans (o1 r))
    refine Ok_C ?_ (fun _ => ?_)
    · intro _
      refine Ok_T (lw_ix (j := 1) hk hn (by decide)) ?_
      obtain ⟨v, s1, s2, e1, e2, hI⟩ := h_end (gS s (nI (6 * k) + nI 1).toNatClampNeg) s hs
      have o1 := fr_O (cX_end_fr (gS s (nI (6 * k) + nI 1).toNatClampNeg) _ _ e1)
      have o2 := fr_O (cR_end_fr (gS s (nI (6 * k) + nI 1).toNatClampNeg) _ _ e2)
      obtain ⟨q1, q2, q3⟩ := sO_S o1
      refine Ok_B e1 ?_
      refine Ok_T (q1.trans hok) ?_
      dsimp only
      rw [q3, q2]
      refine Ok_T (lw_ix (j := 1) hk hn (by decide)) ?_
      refine Ok_B e2 (Ok_T rfl ?_)
      exact kk s2 hI (fun r => (o2 r).trans (o1 r))
    refine Ok_C ?_ (fun _ => ?_)
    · intro _
      obtain ⟨v, s1, s2, e1, e2, hI⟩ := h_load  s hs
      have o1 := fr_O (cX_load_fr  _ _ e1)
      have o2 := fr_O (cR_load_fr  _ _ e2)
      obtain ⟨q1, q2, q3⟩ := sO_S o1
      refine Ok_B e1 ?_
      refine Ok_B e2 (Ok_T rfl ?_)
      exact kk s2 hI (fun r => (o2 r).trans (o1 r))
    refine Ok_C ?_ (fun _ => ?_)
    · intro _
      refine Ok_T (lw_ix (j := 1) hk hn (by decide)) ?_
      obtain ⟨v, s1, s2, e1, e2, hI⟩ := h_seed (gS s (nI (6 * k) + nI 1).toNatClampNeg) s hs
      have o1 := fr_O (cX_seed_fr (gS s (nI (6 * k) + nI 1).toNatClampNeg) _ _ e1)
      have o2 := fr_O (cR_seed_fr (gS s (nI (6 * k) + nI 1).toNatClampNeg) _ _ e2)
      obtain ⟨q1, q2, q3⟩ := sO_S o1
      refine Ok_B e1 ?_
      refine Ok_T (q1.trans hok) ?_
      dsimp only
      rw [q3, q2]
      refine Ok_T (lw_ix (j := 1) hk hn (by decide)) ?_
      refine Ok_B e2 (Ok_T rfl ?_)
      exact kk s2 hI (fun r => (o2 r).trans (o1 r))
    refine Ok_C ?_ (fun _ => ?_)
    · intro _
      refine Ok_T (lw_ix (j := 1) hk hn (by decide)) ?_
      refine Ok_T (lw_ix (j := 2) hk hn (by decide)) ?_
      refine Ok_T (lw_ix (j := 3) hk hn (by decide)) ?_
      refine Ok_T (lw_ix (j := 4) hk hn (by decide)) ?_
      refine Ok_T (lw_ix (j := 5) hk hn (by decide)) ?_
      obtain ⟨v, s1, s2, e1, e2, hI⟩ := h_start (gS s (nI (6 * k) + nI 1).toNatClampNeg) (gS s (nI (6 * k) + nI 2).toNatClampNeg) (gS s (nI (6 * k) + nI 3).toNatClampNeg) (gS s (nI (6 * k) + nI 4).toNatClampNeg) (gS s (nI (6 * k) + nI 5).toNatClampNeg) s hs
      have o1 := fr_O (cX_start_fr (gS s (nI (6 * k) + nI 1).toNatClampNeg) (gS s (nI (6 * k) + nI 2).toNatClampNeg) (gS s (nI (6 * k) + nI 3).toNatClampNeg) (gS s (nI (6 * k) + nI 4).toNatClampNeg) (gS s (nI (6 * k) + nI 5).toNatClampNeg) _ _ e1)
      have o2 := fr_O (cR_start_fr (gS s (nI (6 * k) + nI 1).toNatClampNeg) (gS s (nI (6 * k) + nI 2).toNatClampNeg) (gS s (nI (6 * k) + nI 3).toNatClampNeg) (gS s (nI (6 * k) + nI 4).toNatClampNeg) (gS s (nI (6 * k) + nI 5).toNatClampNeg) _ _ e2)
      obtain ⟨q1, q2, q3⟩ := sO_S o1
      refine Ok_B e1 ?_
      refine Ok_T (q1.trans hok) ?_
      dsimp only
      rw [q3, q2]
      refine Ok_T (lw_ix (j := 1) hk hn (by decide)) ?_
      refine Ok_T (lw_ix (j := 2) hk hn (by decide)) ?_
      refine Ok_T (lw_ix (j := 3) hk hn (by decide)) ?_
      refine Ok_T (lw_ix (j := 4) hk hn (by decide)) ?_
      refine Ok_T (lw_ix (j := 5) hk hn (by decide)) ?_
      refine Ok_B e2 (Ok_T rfl ?_)
      exact kk s2 hI (fun r => (o2 r).trans (o1 r))
    refine Ok_C ?_ (fun _ => ?_)
    · intro _
      refine Ok_T (lw_ix (j := 1) hk hn (by decide)) ?_
      obtain ⟨v, s1, s2, e1, e2, hI⟩ := h_run (gS s (nI (6 * k) + nI 1).toNatClampNeg) s hs
      have o1 := fr_O (cX_run_fr (gS s (nI (6 * k) + nI 1).toNatClampNeg) _ _ e1)
      have o2 := fr_O (cR_run_fr (gS s (nI (6 * k) + nI 1).toNatClampNeg) _ _ e2)
      obtain ⟨q1, q2, q3⟩ := sO_S o1
      refine Ok_B e1 ?_
      refine Ok_T (q1.trans hok) ?_
      dsimp only
      rw [q3, q2]
      refine Ok_T (lw_ix (j := 1) hk hn (by decide)) ?_
      refine Ok_B e2 (Ok_T rfl ?_)
      exact kk s2 hI (fun r => (o2 r).trans (o1 r))
    refine Ok_C ?_ (fun _ => ?_)
    · intro _
      refine Ok_T (lw_ix (j := 1) hk hn (by decide)) ?_
      obtain ⟨v, s1, s2, e1, e2, hI⟩ := h_turn (gS s (nI (6 * k) + nI 1).toNatClampNeg) s hs
      have o1 := fr_O (cX_turn_fr (gS s (nI (6 * k) + nI 1).toNatClampNeg) _ _ e1)
      have o2 := fr_O (cR_turn_fr (gS s (nI (6 * k) + nI 1).toNatClampNeg) _ _ e2)
      obtain ⟨q1, q2, q3⟩ := sO_S o1
      refine Ok_B e1 ?_
      refine Ok_T (q1.trans hok) ?_
      dsimp only
      rw [q3, q2]
      refine Ok_T (lw_ix (j := 1) hk hn (by decide)) ?_
      refine Ok_B e2 (Ok_T rfl ?_)
      exact kk s2 hI (fun r => (o2 r).trans (o1 r))
    refine Ok_C ?_ (fun _ => ?_)
    · intro _
      refine Ok_T (lw_ix (j := 1) hk hn (by decide)) ?_
      obtain ⟨v, s1, s2, e1, e2, hI⟩ := h_state (gS s (nI (6 * k) + nI 1).toNatClampNeg) s hs
      have o1 := fr_O (cX_state_fr (gS s (nI (6 * k) + nI 1).toNatClampNeg) _ _ e1)
      have o2 := fr_O (cR_state_fr (gS s (nI (6 * k) + nI 1).toNatClampNeg) _ _ e2)
      obtain ⟨q1, q2, q3⟩ := sO_S o1
      refine Ok_B e1 ?_
      refine Ok_T (q1.trans hok) ?_
      dsimp only
      rw [q3, q2]
      refine Ok_T (lw_ix (j := 1) hk hn (by decide)) ?_
      refine Ok_B e2 (Ok_T rfl ?_)
      exact kk s2 hI (fun r => (o2 r).trans (o1 r))
    refine Ok_C ?_ (fun _ => ?_)
    · intro _
      refine Ok_T (lw_ix (j := 1) hk hn (by decide)) ?_
      obtain ⟨v, s1, s2, e1, e2, hI⟩ := h_number (gS s (nI (6 * k) + nI 1).toNatClampNeg) s hs
      have o1 := fr_O (cX_number_fr (gS s (nI (6 * k) + nI 1).toNatClampNeg) _ _ e1)
      have o2 := fr_O (cR_number_fr (gS s (nI (6 * k) + nI 1).toNatClampNeg) _ _ e2)
      obtain ⟨q1, q2, q3⟩ := sO_S o1
      refine Ok_B e1 ?_
      refine Ok_T (q1.trans hok) ?_
      dsimp only
      rw [q3, q2]
      refine Ok_T (lw_ix (j := 1) hk hn (by decide)) ?_
      refine Ok_B e2 (Ok_T rfl ?_)
      exact kk s2 hI (fun r => (o2 r).trans (o1 r))
    refine Ok_C ?_ (fun _ => ?_)
    · intro _
      refine Ok_T (lw_ix (j := 1) hk hn (by decide)) ?_
      refine Ok_T (lw_ix (j := 2) hk hn (by decide)) ?_
      obtain ⟨v, s1, s2, e1, e2, hI⟩ := h_process (gS s (nI (6 * k) + nI 1).toNatClampNeg) (gS s (nI (6 * k) + nI 2).toNatClampNeg) s hs
      have o1 := fr_O (cX_process_fr (gS s (nI (6 * k) + nI 1).toNatClampNeg) (gS s (nI (6 * k) + nI 2).toNatClampNeg) _ _ e1)
      have o2 := fr_O (cR_process_fr (gS s (nI (6 * k) + nI 1).toNatClampNeg) (gS s (nI (6 * k) + nI 2).toNatClampNeg) _ _ e2)
      obtain ⟨q1, q2, q3⟩ := sO_S o1
      refine Ok_B e1 ?_
      refine Ok_T (q1.trans hok) ?_
      dsimp only
      rw [q3, q2]
      refine Ok_T (lw_ix (j := 1) hk hn (by decide)) ?_
      refine Ok_T (lw_ix (j := 2) hk hn (by decide)) ?_
      refine Ok_B e2 (Ok_T rfl ?_)
      exact kk s2 hI (fun r => (o2 r).trans (o1 r))
    refine Ok_C ?_ (fun _ => ?_)
    · intro _
      refine Ok_T (lw_ix (j := 1) hk hn (by decide)) ?_
      refine Ok_T (lw_ix (j := 2) hk hn (by decide)) ?_
      obtain ⟨v, s1, s2, e1, e2, hI⟩ := h_place (gS s (nI (6 * k) + nI 1).toNatClampNeg) (gS s (nI (6 * k) + nI 2).toNatClampNeg) s hs
      have o1 := fr_O (cX_place_fr (gS s (nI (6 * k) + nI 1).toNatClampNeg) (gS s (nI (6 * k) + nI 2).toNatClampNeg) _ _ e1)
      have o2 := fr_O (cR_place_fr (gS s (nI (6 * k) + nI 1).toNatClampNeg) (gS s (nI (6 * k) + nI 2).toNatClampNeg) _ _ e2)
      obtain ⟨q1, q2, q3⟩ := sO_S o1
      refine Ok_B e1 ?_
      refine Ok_T (q1.trans hok) ?_
      dsimp only
      rw [q3, q2]
      refine Ok_T (lw_ix (j := 1) hk hn (by decide)) ?_
      refine Ok_T (lw_ix (j := 2) hk hn (by decide)) ?_
      refine Ok_B e2 (Ok_T rfl ?_)
      exact kk s2 hI (fun r => (o2 r).trans (o1 r))
    refine Ok_C ?_ (fun _ => ?_)
    · intro _
      refine Ok_T (lw_ix (j := 1) hk hn (by decide)) ?_
      refine Ok_T (lw_ix (j := 2) hk hn (by decide)) ?_
      obtain ⟨v, s1, s2, e1, e2, hI⟩ := h_sum (gS s (nI (6 * k) + nI 1).toNatClampNeg) (gS s (nI (6 * k) + nI 2).toNatClampNeg) s hs
      have o1 := fr_O (cX_sum_fr (gS s (nI (6 * k) + nI 1).toNatClampNeg) (gS s (nI (6 * k) + nI 2).toNatClampNeg) _ _ e1)
      have o2 := fr_O (cR_sum_fr (gS s (nI (6 * k) + nI 1).toNatClampNeg) (gS s (nI (6 * k) + nI 2).toNatClampNeg) _ _ e2)
      obtain ⟨q1, q2, q3⟩ := sO_S o1
      refine Ok_B e1 ?_
      refine Ok_T (q1.trans hok) ?_
      dsimp only
      rw [q3, q2]
      refine Ok_T (lw_ix (j := 1) hk hn (by decide)) ?_
      refine Ok_T (lw_ix (j := 2) hk hn (by decide)) ?_
      refine Ok_B e2 (Ok_T (lg_same v) ?_)
      exact kk s2 hI (fun r => (o2 r).trans (o1 r))
    refine Ok_C ?_ (fun _ => ?_)
    · intro _
      refine Ok_T (lw_ix (j := 1) hk hn (by decide)) ?_
      refine Ok_T (lw_ix (j := 2) hk hn (by decide)) ?_
      obtain ⟨v, s1, s2, e1, e2, hI⟩ := h_trace (gS s (nI (6 * k) + nI 1).toNatClampNeg) (gS s (nI (6 * k) + nI 2).toNatClampNeg) s hs
      have o1 := fr_O (cX_trace_fr (gS s (nI (6 * k) + nI 1).toNatClampNeg) (gS s (nI (6 * k) + nI 2).toNatClampNeg) _ _ e1)
      have o2 := fr_O (cR_trace_fr (gS s (nI (6 * k) + nI 1).toNatClampNeg) (gS s (nI (6 * k) + nI 2).toNatClampNeg) _ _ e2)
      obtain ⟨q1, q2, q3⟩ := sO_S o1
      refine Ok_B e1 ?_
      refine Ok_T (q1.trans hok) ?_
      dsimp only
      rw [q3, q2]
      refine Ok_T (lw_ix (j := 1) hk hn (by decide)) ?_
      refine Ok_T (lw_ix (j := 2) hk hn (by decide)) ?_
      refine Ok_B e2 (Ok_T rfl ?_)
      exact kk s2 hI (fun r => (o2 r).trans (o1 r))
    exact kk s (hIJ s hs) (fun _ => rfl)
  · refine Ok_T ?_ (Ok_S hend)
    show nI (gSn s) - nI 6 < nI (6 * k)
    rcases Nat.lt_or_ge (gSn s) 6 with h6 | h6
    · refine Int32.lt_of_lt_of_le (pk_sneg (by omega) h6) (nI_pos' (by omega))
    · rw [pk_sub h6]
      exact nI_lt (by omega) (by omega)
theorem lawx_loop (Iv : Nat → ts → Prop) (hM : ∀ k s, Iv k s → gM s ≤ 300) (hup : ∀ k s, Iv k s → Iv (k + 1) s) (h_feed : ∀ k, k ≤ 513 → sx_feed (Iv k) (Iv (k + 1))) (h_end : ∀ k, k ≤ 513 → sx_end (Iv k) (Iv (k + 1))) (h_load : ∀ k, k ≤ 513 → sx_load (Iv k) (Iv (k + 1))) (h_seed : ∀ k, k ≤ 513 → sx_seed (Iv k) (Iv (k + 1))) (h_start : ∀ k, k ≤ 513 → sx_start (Iv k) (Iv (k + 1))) (h_run : ∀ k, k ≤ 513 → sx_run (Iv k) (Iv (k + 1))) (h_turn : ∀ k, k ≤ 513 → sx_turn (Iv k) (Iv (k + 1))) (h_state : ∀ k, k ≤ 513 → sx_state (Iv k) (Iv (k + 1))) (h_number : ∀ k, k ≤ 513 → sx_number (Iv k) (Iv (k + 1))) (h_process : ∀ k, k ≤ 513 → sx_process (Iv k) (Iv (k + 1))) (h_place : ∀ k, k ≤ 513 → sx_place (Iv k) (Iv (k + 1))) (h_sum : ∀ k, k ≤ 513 → sx_sum (Iv k) (Iv (k + 1))) (h_trace : ∀ k, k ≤ 513 → sx_trace (Iv k) (Iv (k + 1))) : ∀ (j k : Nat) (s : ts), Iv k s → gSok s = true → gSn s ≤ 3072 → 6 * k ≤ gSn s + 6 → (gSn s + 6) - 6 * k < j → Ok (cL_law_18 j (nI (6 * k)) s) (fun r => r.1 = 1 ∧ gM r.2 ≤ 300) := by
  intro j
  induction j with
  | zero => intro k s _ _ _ _ h; omega
  | succ j ih =>
    intro k s hs hok hn hk hj
    rw [cL_law_18.eq_2]
    refine lawx_b (hup k) (h_feed k (by omega)) (h_end k (by omega)) (h_load k (by omega)) (h_seed k (by omega)) (h_start k (by omega)) (h_run k (by omega)) (h_turn k (by omega)) (h_state k (by omega)) (h_number k (by omega)) (h_process k (by omega)) (h_place k (by omega)) (h_sum k (by omega)) (h_trace k (by omega)) hs hok hn hk ⟨rfl, hM k s hs⟩ (fun h6 s2 hI ho => ?_)
    obtain ⟨q1, q2, q3⟩ := sO_S ho
    exact ih (k + 1) s2 hI (q1.trans hok) (by rw [q2]; exact hn) (by rw [q2]; omega) (by rw [q2]; omega)
