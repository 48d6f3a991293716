/-! THE LAW'S LOOP: if each call keeps an invariant and both sides answer alike, the law answers 1. -/
theorem Ok_T {α : Type} {c : Prop} {dc : Decidable c} {A B : Option α} {P : α → Prop} (hc : c) (h : Ok A P) : Ok (@ite _ c dc A B) P := by rwa [if_pos hc]
theorem Ok_F {α : Type} {c : Prop} {dc : Decidable c} {A B : Option α} {P : α → Prop} (hc : ¬ c) (h : Ok B P) : Ok (@ite _ c dc A B) P := by rwa [if_neg hc]
theorem Ok_C {α : Type} {c : Prop} {dc : Decidable c} {A B : Option α} {P : α → Prop} (ht : c → Ok A P) (hf : ¬ c → Ok B P) : Ok (@ite _ c dc A B) P := by
  by_cases hc : c
  · rw [if_pos hc]; exact ht hc
  · rw [if_neg hc]; exact hf hc
theorem Ok_B {α β : Type} {o : Option α} {f : α → Option β} {P : β → Prop} {a : α} (h : o = some a) (k : Ok (f a) P) : Ok (o.bind f) P := by rw [h]; exact k
theorem Ok_S {α : Type} {a : α} {P : α → Prop} (h : P a) : Ok (some a) P := ⟨a, rfl, h⟩
/-- what stands outside is the same -/
def sO (s s1 : ts) : Prop := ∀ r, gO s1 r = gO s r
theorem sO_S {s s1 : ts} (h : sO s s1) : gSok s1 = gSok s ∧ gSn s1 = gSn s ∧ gS s1 = gS s := by
  refine ⟨?_, ?_, ?_⟩
  · unfold gSok; rw [h 0]
  · unfold gSn; rw [h 0]
  · funext k; unfold gS; rw [h 0]
theorem sO_W {s s1 : ts} (h : sO s s1) : gWok s1 = gWok s ∧ gWn s1 = gWn s ∧ gW s1 = gW s := by
  refine ⟨?_, ?_, ?_⟩
  · unfold gWok; rw [h 3]
  · unfold gWn; rw [h 3]
  · funext k; unfold gW; rw [h 3]
theorem fr_O {W : List Nat} {s s1 : ts} (h : fr W s s1) : sO s s1 := h.2.2.2.2.2.2.2.2
theorem lw_ix {k n j : Nat} (h : 6 * k + 6 ≤ n) (hn : n ≤ 3072) (hj : j < 6) : am_idx (nI (6 * k) + nI j) n = true := by
  have e : nI (6 * k) + nI j = nI (6 * k + j) := (Int32.ofNat_add _ _).symm
  rw [e]
  exact decide_eq_true (nI_in (by omega) (by omega))
/-- one call of feed on both sides -/
def st_feed (Inv : ts → Prop) : Prop := ∀ (a0 : Int32) (a1 : Int32) (a2 : Int32) (a3 : Int32) (a4 : Int32) (s : ts), Inv s → ∃ (v : Int32) (s1 s2 : ts), cX_feed a0 a1 a2 a3 a4 s = some (v, s1) ∧ cR_feed a0 a1 a2 a3 a4 s1 = some (v, s2) ∧ Inv s2
/-- one call of end on both sides -/
def st_end (Inv : ts → Prop) : Prop := ∀ (a0 : Int32) (s : ts), Inv s → ∃ (v : Int32) (s1 s2 : ts), cX_end a0 s = some (v, s1) ∧ cR_end a0 s1 = some (v, s2) ∧ Inv s2
/-- one call of load on both sides -/
def st_load (Inv : ts → Prop) : Prop := ∀ (s : ts), Inv s → ∃ (v : Int32) (s1 s2 : ts), cX_load s = some (v, s1) ∧ cR_load s1 = some (v, s2) ∧ Inv s2
/-- one call of seed on both sides -/
def st_seed (Inv : ts → Prop) : Prop := ∀ (a0 : Int32) (s : ts), Inv s → ∃ (v : Int32) (s1 s2 : ts), cX_seed a0 s = some (v, s1) ∧ cR_seed a0 s1 = some (v, s2) ∧ Inv s2
/-- one call of start on both sides -/
def st_start (Inv : ts → Prop) : Prop := ∀ (a0 : Int32) (a1 : Int32) (a2 : Int32) (a3 : Int32) (a4 : Int32) (s : ts), Inv s → ∃ (v : Int32) (s1 s2 : ts), cX_start a0 a1 a2 a3 a4 s = some (v, s1) ∧ cR_start a0 a1 a2 a3 a4 s1 = some (v, s2) ∧ Inv s2
/-- one call of run on both sides -/
def st_run (Inv : ts → Prop) : Prop := ∀ (a0 : Int32) (s : ts), Inv s → ∃ (v : Int32) (s1 s2 : ts), cX_run a0 s = some (v, s1) ∧ cR_run a0 s1 = some (v, s2) ∧ Inv s2
/-- one call of turn on both sides -/
def st_turn (Inv : ts → Prop) : Prop := ∀ (a0 : Int32) (s : ts), Inv s → ∃ (v : Int32) (s1 s2 : ts), cX_turn a0 s = some (v, s1) ∧ cR_turn a0 s1 = some (v, s2) ∧ Inv s2
/-- one call of state on both sides -/
def st_state (Inv : ts → Prop) : Prop := ∀ (a0 : Int32) (s : ts), Inv s → ∃ (v : Int32) (s1 s2 : ts), cX_state a0 s = some (v, s1) ∧ cR_state a0 s1 = some (v, s2) ∧ Inv s2
/-- one call of number on both sides -/
def st_number (Inv : ts → Prop) : Prop := ∀ (a0 : Int32) (s : ts), Inv s → ∃ (v : Int32) (s1 s2 : ts), cX_number a0 s = some (v, s1) ∧ cR_number a0 s1 = some (v, s2) ∧ Inv s2
/-- one call of process on both sides -/
def st_process (Inv : ts → Prop) : Prop := ∀ (a0 : Int32) (a1 : Int32) (s : ts), Inv s → ∃ (v : Int32) (s1 s2 : ts), cX_process a0 a1 s = some (v, s1) ∧ cR_process a0 a1 s1 = some (v, s2) ∧ Inv s2
/-- one call of place on both sides -/
def st_place (Inv : ts → Prop) : Prop := ∀ (a0 : Int32) (a1 : Int32) (s : ts), Inv s → ∃ (v : Int32) (s1 s2 : ts), cX_place a0 a1 s = some (v, s1) ∧ cR_place a0 a1 s1 = some (v, s2) ∧ Inv s2
/-- one call of sum on both sides -/
def st_sum (Inv : ts → Prop) : Prop := ∀ (a0 : Int32) (a1 : Int32) (s : ts), Inv s → ∃ (v : Int64) (s1 s2 : ts), cX_sum a0 a1 s = some (v, s1) ∧ cR_sum a0 a1 s1 = some (v, s2) ∧ Inv s2
/-- one call of trace on both sides -/
def st_trace (Inv : ts → Prop) : Prop := ∀ (a0 : Int32) (a1 : Int32) (s : ts), Inv s → ∃ (v : Int32) (s1 s2 : ts), cX_trace a0 a1 s = some (v, s1) ∧ cR_trace a0 a1 s1 = some (v, s2) ∧ Inv s2
theorem lg_same (v : Int64) : lg_cmp v v = 0 := by unfold lg_cmp; simp
theorem law_b (Inv : ts → Prop) (h_feed : st_feed Inv) (h_end : st_end Inv) (h_load : st_load Inv) (h_seed : st_seed Inv) (h_start : st_start Inv) (h_run : st_run Inv) (h_turn : st_turn Inv) (h_state : st_state Inv) (h_number : st_number Inv) (h_process : st_process Inv) (h_place : st_place Inv) (h_sum : st_sum Inv) (h_trace : st_trace Inv) {P : Int32 × ts → Prop} {kf : Int32 → ts → Option (Int32 × ts)} {k : Nat} {s : ts} (hs : Inv s) (hok : gSok s = true) (hn : gSn s ≤ 3072) (hk0 : 6 * k ≤ gSn s + 6) (hend : P (1, s)) (kk : 6 * k + 6 ≤ gSn s → ∀ s2, Inv s2 → sO s s2 → Ok (kf (nI (6 * (k + 1))) s2) P) : Ok (cL_law_18_b kf (nI (6 * k)) s) P := by
  unfold cL_law_18_b
  refine Ok_T hok ?_
  by_cases hk : 6 * k + 6 ≤ gSn s
  · have kk := kk hk
    have e6 : nI (6 * (k + 1)) = nI (6 * k) + 6 := by rw [show 6 * (k + 1) = 6 * k + 6 by omega]; exact Int32.ofNat_add _ _
    rw [e6] at kk
    refine Ok_F ?_ ?_
    · show ¬ nI (gSn s) - nI 6 < nI (6 * k)
      rw [pk_sub (by omega)]
      exact nI_nlt (by omega) (by omega)
    have h0 := lw_ix (j := 0) hk hn (by decide)
    have z0 : nI (6 * k) + nI 0 = nI (6 * k) := (Int32.ofNat_add (6 * k) 0).symm
    rw [z0] at h0
    refine Ok_T h0 ?_
    refine Ok_C ?_ (fun _ => ?_)
    · intro _
      refine Ok_T (lw_ix (j := 1) hk hn (by decide)) ?_
      refine Ok_T (lw_ix (j := 2) hk hn (by decide)) ?_
      refine Ok_T (lw_ix (j := 3) hk hn (by decide)) ?_
      refine Ok_T (lw_ix (j := 4) hk hn (by decide)) ?_
      refine Ok_T (lw_ix (j := 5) hk hn (by decide)) ?_
      obtain ⟨v, s1, s2, e1, e2, hI⟩ := h_feed (gS s (nI (6 * k) + nI 1).toNatClampNeg) (gS s (nI (6 * k) + nI 2).toNatClampNeg) (gS s (nI (6 * k) + nI 3).toNatClampNeg) (gS s (nI (6 * k) + nI 4).toNatClampNeg) (gS s (nI (6 * k) + nI 5).toNatClampNeg) s hs
      have o1 := fr_O (cX_feed_fr (gS s (nI (6 * k) + nI 1).toNatClampNeg) (gS s (nI (6 * k) + nI 2).toNatClampNeg) (gS s (nI (6 * k) + nI 3).toNatClampNeg) (gS s (nI (6 * k) + nI 4).toNatClampNeg) (gS s (nI (6 * k) + nI 5).toNatClampNeg) _ _ e1)
      have o2 := fr_O (cR_feed_fr (gS s (nI (6 * k) + nI 1).toNatClampNeg) (gS s (nI (6 * k) + nI 2).toNatClampNeg) (gS s (nI (6 * k) + nI 3).toNatClampNeg) (gS s (nI (6 * k) + nI 4).toNatClampNeg) (gS s (nI (6 * k) + nI 5).toNatClampNeg) _ _ e2)
      obtain ⟨q1, q2, q3⟩ := sO_S o1
      refine Ok_B e1 ?_
      refine Ok_T (q1.trans hok) ?_
      dsimp only
      rw [q3, q2]
      refine Ok_T (lw_ix (j := 1) hk hn (by decide)) ?_
      refine Ok_T (lw_ix (j := 2) hk hn (by decide)) ?_
      refine Ok_T (lw_ix (j := 3) hk hn (by decide)) ?_
      refine Ok_T (lw_ix (j := 4) hk hn (by decide)) ?_
      refine Ok_T (lw_ix (j := 5) hk hn (by decide)) ?_
      refine Ok_B e2 (Ok_T rfl ?_)
      exact kk s2 hI (fun r => (o2 r).trans (o1 r))
    refine Ok_C ?_ (fun _ => ?_)
    · intro _
      refine Ok_T (lw_ix (j := 1) hk hn (by decide)) ?_
      obtain ⟨v, s1, s2, e1, e2, hI⟩ := h_end (gS s (nI (6 * k) + nI 1).toNatClampNeg) s hs
      have o1 := fr_O (cX_end_fr (gS s (nI (6 * k) + nI 1).toNatClampNeg) _ _ e1)
      have o2 := fr_O (cR_end_fr (gS s (nI (6 * k) + nI 1).toNatClampNeg) _ _ e2)
      obtain ⟨q1, q2, q3⟩ := sO_S o1
      refine Ok_B e1 ?_
      refine Ok_T (q1.trans hok) ?_
      dsimp only
      rw [q3, q2]
      refine Ok_T (lw_ix (j := 1) hk hn (by decide)) ?_
      refine Ok_B e2 (Ok_T rfl ?_)
      exact kk s2 hI (fun r => (o2 r).trans (o1 r))
    refine Ok_C ?_ (fun _ => ?_)
    · intro _
      obtain ⟨v, s1, s2, e1, e2, hI⟩ := h_load  s hs
      have o1 := fr_O (cX_load_fr  _ _ e1)
      have o2 := fr_O (cR_load_fr  _ _ e2)
      obtain ⟨q1, q2, q3⟩ := sO_S o1
      refine Ok_B e1 ?_
      refine Ok_B e2 (Ok_T rfl ?_)
      exact kk s2 hI (fun r => (o2 r).trans (o1 r))
    refine Ok_C ?_ (fun _ => ?_)
    · intro _
      refine Ok_T (lw_ix (j := 1) hk hn (by decide)) ?_
      obtain ⟨v, s1, s2, e1, e2, hI⟩ := h_seed (gS s (nI (6 * k) + nI 1).toNatClampNeg) s hs
      have o1 := fr_O (cX_seed_fr (gS s (nI (6 * k) + nI 1).toNatClampNeg) _ _ e1)
      have o2 := fr_O (cR_seed_fr (gS s (nI (6 * k) + nI 1).toNatClampNeg) _ _ e2)
      obtain ⟨q1, q2, q3⟩ := sO_S o1
      refine Ok_B e1 ?_
      refine Ok_T (q1.trans hok) ?_
      dsimp only
      rw [q3, q2]
      refine Ok_T (lw_ix (j := 1) hk hn (by decide)) ?_
      refine Ok_B e2 (Ok_T rfl ?_)
      exact kk s2 hI (fun r => (o2 r).trans (o1 r))
    refine Ok_C ?_ (fun _ => ?_)
    · intro _
      refine Ok_T (lw_ix (j := 1) hk hn (by decide)) ?_
      refine Ok_T (lw_ix (j := 2) hk hn (by decide)) ?_
      refine Ok_T (lw_ix (j := 3) hk hn (by decide)) ?_
      refine Ok_T (lw_ix (j := 4) hk hn (by decide)) ?_
      refine Ok_T (lw_ix (j := 5) hk hn (by decide)) ?_
      obtain ⟨v, s1, s2, e1, e2, hI⟩ := h_start (gS s (nI (6 * k) + nI 1).toNatClampNeg) (gS s (nI (6 * k) + nI 2).toNatClampNeg) (gS s (nI (6 * k) + nI 3).toNatClampNeg) (gS s (nI (6 * k) + nI 4).toNatClampNeg) (gS s (nI (6 * k) + nI 5).toNatClampNeg) s hs
      have o1 := fr_O (cX_start_fr (gS s (nI (6 * k) + nI 1).toNatClampNeg) (gS s (nI (6 * k) + nI 2).toNatClampNeg) (gS s (nI (6 * k) + nI 3).toNatClampNeg) (gS s (nI (6 * k) + nI 4).toNatClampNeg) (gS s (nI (6 * k) + nI 5).toNatClampNeg) _ _ e1)
      have o2 := fr_O (cR_start_fr (gS s (nI (6 * k) + nI 1).toNatClampNeg) (gS s (nI (6 * k) + nI 2).toNatClampNeg) (gS s (nI (6 * k) + nI 3).toNatClampNeg) (gS s (nI (6 * k) + nI 4).toNatClampNeg) (gS s (nI (6 * k) + nI 5).toNatClampNeg) _ _ e2)
      obtain ⟨q1, q2, q3⟩ := sO_S o1
      refine Ok_B e1 ?_
      refine Ok_T (q1.trans hok) ?_
      dsimp only
      rw [q3, q2]
      refine Ok_T (lw_ix (j := 1) hk hn (by decide)) ?_
      refine Ok_T (lw_ix (j := 2) hk hn (by decide)) ?_
      refine Ok_T (lw_ix (j := 3) hk hn (by decide)) ?_
      refine Ok_T (lw_ix (j := 4) hk hn (by decide)) ?_
      refine Ok_T (lw_ix (j := 5) hk hn (by decide)) ?_
      refine Ok_B e2 (Ok_T rfl ?_)
      exact kk s2 hI (fun r => (o2 r).trans (o1 r))
    refine Ok_C ?_ (fun _ => ?_)
    · intro _
      refine Ok_T (lw_ix (j := 1) hk hn (by decide)) ?_
      obtain ⟨v, s1, s2, e1, e2, hI⟩ := h_run (gS s (nI (6 * k) + nI 1).toNatClampNeg) s hs
      have o1 := fr_O (cX_run_fr (gS s (nI (6 * k) + nI 1).toNatClampNeg) _ _ e1)
      have o2 := fr_O (cR_run_fr (gS s (nI (6 * k) + nI 1).toNatClampNeg) _ _ e2)
      obtain ⟨q1, q2, q3⟩ := sO_S o1
      refine Ok_B e1 ?_
      refine Ok_T (q1.trans hok) ?_
      dsimp only
      rw [q3, q2]
      refine Ok_T (lw_ix (j := 1) hk hn (by decide)) ?_
      refine Ok_B e2 (Ok_T rfl ?_)
      exact kk s2 hI (fun r => (o2 r).trans (o1 r))
    refine Ok_C ?_ (fun _ => ?_)
    · intro _
      refine Ok_T (lw_ix (j := 1) hk hn (by decide)) ?_
      obtain ⟨v, s1, s2, e1, e2, hI⟩ := h_turn (gS s (nI (6 * k) + nI 1).toNatClampNeg) s hs
      have o1 := fr_O (cX_turn_fr (gS s (nI (6 * k) + nI 1).toNatClampNeg) _ _ e1)
      have o2 := fr_O (cR_turn_fr (gS s (nI (6 * k) + nI 1).toNatClampNeg) _ _ e2)
      obtain ⟨q1, q2, q3⟩ := sO_S o1
      refine Ok_B e1 ?_
      refine Ok_T (q1.trans hok) ?_
      dsimp only
      rw [q3, q2]
      refine Ok_T (lw_ix (j := 1) hk hn (by decide)) ?_
      refine Ok_B e2 (Ok_T rfl ?_)
      exact kk s2 hI (fun r => (o2 r).trans (o1 r))
    refine Ok_C ?_ (fun _ => ?_)
    · intro _
      refine Ok_T (lw_ix (j := 1) hk hn (by decide)) ?_
      obtain ⟨v, s1, s2, e1, e2, hI⟩ := h_state (gS s (nI (6 * k) + nI 1).toNatClampNeg) s hs
      have o1 := fr_O (cX_state_fr (gS s (nI (6 * k) + nI 1).toNatClampNeg) _ _ e1)
      have o2 := fr_O (cR_state_fr (gS s (nI (6 * k) + nI 1).toNatClampNeg) _ _ e2)
      obtain ⟨q1, q2, q3⟩ := sO_S o1
      refine Ok_B e1 ?_
      refine Ok_T (q1.trans hok) ?_
      dsimp only
      rw [q3, q2]
      refine Ok_T (lw_ix (j := 1) hk hn (by decide)) ?_
      refine Ok_B e2 (Ok_T rfl ?_)
      exact kk s2 hI (fun r => (o2 r).trans (o1 r))
    refine Ok_C ?_ (fun _ => ?_)
    · intro _
      refine Ok_T (lw_ix (j := 1) hk hn (by decide)) ?_
      obtain ⟨v, s1, s2, e1, e2, hI⟩ := h_number (gS s (nI (6 * k) + nI 1).toNatClampNeg) s hs
      have o1 := fr_O (cX_number_fr (gS s (nI (6 * k) + nI 1).toNatClampNeg) _ _ e1)
      have o2 := fr_O (cR_number_fr (gS s (nI (6 * k) + nI 1).toNatClampNeg) _ _ e2)
      obtain ⟨q1, q2, q3⟩ := sO_S o1
      refine Ok_B e1 ?_
      refine Ok_T (q1.trans hok) ?_
      dsimp only
      rw [q3, q2]
      refine Ok_T (lw_ix (j := 1) hk hn (by decide)) ?_
      refine Ok_B e2 (Ok_T rfl ?_)
      exact kk s2 hI (fun r => (o2 r).trans (o1 r))
    refine Ok_C ?_ (fun _ => ?_)
    · intro _
      refine Ok_T (lw_ix (j := 1) hk hn (by decide)) ?_
      refine Ok_T (lw_ix (j := 2) hk hn (by decide)) ?_
      obtain ⟨v, s1, s2, e1, e2, hI⟩ := h_process (gS s (nI (6 * k) + nI 1).toNatClampNeg) (gS s (nI (6 * k) + nI 2).toNatClampNeg) s hs
      have o1 := fr_O (cX_process_fr (gS s (nI (6 * k) + nI 1).toNatClampNeg) (gS s (nI (6 * k) + nI 2).toNatClampNeg) _ _ e1)
      have o2 := fr_O (cR_process_fr (gS s (nI (6 * k) + nI 1).toNatClampNeg) (gS s (nI (6 * k) + nI 2).toNatClampNeg) _ _ e2)
      obtain ⟨q1, q2, q3⟩ := sO_S o1
      refine Ok_B e1 ?_
      refine Ok_T (q1.trans hok) ?_
      dsimp only
      rw [q3, q2]
      refine Ok_T (lw_ix (j := 1) hk hn (by decide)) ?_
      refine Ok_T (lw_ix (j := 2) hk hn (by decide)) ?_
      refine Ok_B e2 (Ok_T rfl ?_)
      exact kk s2 hI (fun r => (o2 r).trans (o1 r))
    refine Ok_C ?_ (fun _ => ?_)
    · intro _
      refine Ok_T (lw_ix (j := 1) hk hn (by decide)) ?_
      refine Ok_T (lw_ix (j := 2) hk hn (by decide)) ?_
      obtain ⟨v, s1, s2, e1, e2, hI⟩ := h_place (gS s (nI (6 * k) + nI 1).toNatClampNeg) (gS s (nI (6 * k) + nI 2).toNatClampNeg) s hs
      have o1 := fr_O (cX_place_fr (gS s (nI (6 * k) + nI 1).toNatClampNeg) (gS s (nI (6 * k) + nI 2).toNatClampNeg) _ _ e1)
      have o2 := fr_O (cR_place_fr (gS s (nI (6 * k) + nI 1).toNatClampNeg) (gS s (nI (6 * k) + nI 2).toNatClampNeg) _ _ e2)
      obtain ⟨q1, q2, q3⟩ := sO_S o1
      refine Ok_B e1 ?_
      refine Ok_T (q1.trans hok) ?_
      dsimp only
      rw [q3, q2]
      refine Ok_T (lw_ix (j := 1) hk hn (by decide)) ?_
      refine Ok_T (lw_ix (j := 2) hk hn (by decide)) ?_
      refine Ok_B e2 (Ok_T rfl ?_)
      exact kk s2 hI (fun r => (o2 r).trans (o1 r))
    refine Ok_C ?_ (fun _ => ?_)
    · intro _
      refine Ok_T (lw_ix (j := 1) hk hn (by decide)) ?_
      refine Ok_T (lw_ix (j := 2) hk hn (by decide)) ?_
      obtain ⟨v, s1, s2, e1, e2, hI⟩ := h_sum (gS s (nI (6 * k) + nI 1).toNatClampNeg) (gS s (nI (6 * k) + nI 2).toNatClampNeg) s hs
      have o1 := fr_O (cX_sum_fr (gS s (nI (6 * k) + nI 1).toNatClampNeg) (gS s (nI (6 * k) + nI 2).toNatClampNeg) _ _ e1)
      have o2 := fr_O (cR_sum_fr (gS s (nI (6 * k) + nI 1).toNatClampNeg) (gS s (nI (6 * k) + nI 2).toNatClampNeg) _ _ e2)
      obtain ⟨q1, q2, q3⟩ := sO_S o1
      refine Ok_B e1 ?_
      refine Ok_T (q1.trans hok) ?_
      dsimp only
      rw [q3, q2]
      refine Ok_T (lw_ix (j := 1) hk hn (by decide)) ?_
      refine Ok_T (lw_ix (j := 2) hk hn (by decide)) ?_
      refine Ok_B e2 (Ok_T (lg_same v) ?_)
      exact kk s2 hI (fun r => (o2 r).trans (o1 r))
    refine Ok_C ?_ (fun _ => ?_)
    · intro _
      refine Ok_T (lw_ix (j := 1) hk hn (by decide)) ?_
      refine Ok_T (lw_ix (j := 2) hk hn (by decide)) ?_
      obtain ⟨v, s1, s2, e1, e2, hI⟩ := h_trace (gS s (nI (6 * k) + nI 1).toNatClampNeg) (gS s (nI (6 * k) + nI 2).toNatClampNeg) s hs
      have o1 := fr_O (cX_trace_fr (gS s (nI (6 * k) + nI 1).toNatClampNeg) (gS s (nI (6 * k) + nI 2).toNatClampNeg) _ _ e1)
      have o2 := fr_O (cR_trace_fr (gS s (nI (6 * k) + nI 1).toNatClampNeg) (gS s (nI (6 * k) + nI 2).toNatClampNeg) _ _ e2)
      obtain ⟨q1, q2, q3⟩ := sO_S o1
      refine Ok_B e1 ?_
      refine Ok_T (q1.trans hok) ?_
      dsimp only
      rw [q3, q2]
      refine Ok_T (lw_ix (j := 1) hk hn (by decide)) ?_
      refine Ok_T (lw_ix (j := 2) hk hn (by decide)) ?_
      refine Ok_B e2 (Ok_T rfl ?_)
      exact kk s2 hI (fun r => (o2 r).trans (o1 r))
    exact kk s hs (fun _ => rfl)
  · refine Ok_T ?_ (Ok_S hend)
    show nI (gSn s) - nI 6 < nI (6 * k)
    rcases Nat.lt_or_ge (gSn s) 6 with h6 | h6
    · refine Int32.lt_of_lt_of_le (pk_sneg (by omega) h6) (nI_pos' (by omega))
    · rw [pk_sub h6]
      exact nI_lt (by omega) (by omega)
theorem law_loop (Inv : ts → Prop) (hM : ∀ s, Inv s → gM s ≤ 300) (h_feed : st_feed Inv) (h_end : st_end Inv) (h_load : st_load Inv) (h_seed : st_seed Inv) (h_start : st_start Inv) (h_run : st_run Inv) (h_turn : st_turn Inv) (h_state : st_state Inv) (h_number : st_number Inv) (h_process : st_process Inv) (h_place : st_place Inv) (h_sum : st_sum Inv) (h_trace : st_trace Inv) : ∀ (j k : Nat) (s : ts), Inv s → gSok s = true → gSn s ≤ 3072 → 6 * k ≤ gSn s + 6 → (gSn s + 6) - 6 * k < j → Ok (cL_law_18 j (nI (6 * k)) s) (fun r => r.1 = 1 ∧ gM r.2 ≤ 300) := by
  intro j
  induction j with
  | zero => intro k s _ _ _ _ h; omega
  | succ j ih =>
    intro k s hs hok hn hk hj
    rw [cL_law_18.eq_2]
    refine law_b Inv h_feed h_end h_load h_seed h_start h_run h_turn h_state h_number h_process h_place h_sum h_trace hs hok hn hk ⟨rfl, hM s hs⟩ (fun h6 s2 hI ho => ?_)
    obtain ⟨q1, q2, q3⟩ := sO_S ho
    exact ih (k + 1) s2 hI (q1.trans hok) (by rw [q2]; exact hn) (by rw [q2]; omega) (by rw [q2]; omega)
