/-! MORE ROWS: branches by their conditions, answers, locals that nobody reads. -/
section EV2
variable {d mi pc pc' t e : Nat} {L L' : am_L} {S S' : List Value} {h h' : am_H} {Q : Option Value → am_H → Prop} {M : tb_M} {n : Int} {x y : Int32}
theorem ev_icmp_eq (hm : tb_m mi = some M) (hi : tb_ins mi pc = some (.if_icmp .eq n)) (ht : am_to pc n S = some (t, S)) (he : pc + 3 = e) (hb : x = y → am_Ev d mi (t, L, S) h Q) (hn : ¬ x = y → am_Ev d mi (e, L, S) h Q) : am_Ev d mi (pc, L, .int y :: .int x :: S) h Q := ev_icm hm hi ht he (fun z => hb (of_decide_eq_true z)) (fun z => hn (of_decide_eq_false z))
theorem ev_icmp_ne (hm : tb_m mi = some M) (hi : tb_ins mi pc = some (.if_icmp .ne n)) (ht : am_to pc n S = some (t, S)) (he : pc + 3 = e) (hb : ¬ x = y → am_Ev d mi (t, L, S) h Q) (hn : x = y → am_Ev d mi (e, L, S) h Q) : am_Ev d mi (pc, L, .int y :: .int x :: S) h Q := ev_icm hm hi ht he (fun z => hb (of_decide_eq_true z)) (fun z => hn (Decidable.of_not_not (of_decide_eq_false z)))
theorem ev_icmp_lt (hm : tb_m mi = some M) (hi : tb_ins mi pc = some (.if_icmp .lt n)) (ht : am_to pc n S = some (t, S)) (he : pc + 3 = e) (hb : x < y → am_Ev d mi (t, L, S) h Q) (hn : ¬ x < y → am_Ev d mi (e, L, S) h Q) : am_Ev d mi (pc, L, .int y :: .int x :: S) h Q := ev_icm hm hi ht he (fun z => hb (of_decide_eq_true z)) (fun z => hn (of_decide_eq_false z))
theorem ev_icmp_ge (hm : tb_m mi = some M) (hi : tb_ins mi pc = some (.if_icmp .ge n)) (ht : am_to pc n S = some (t, S)) (he : pc + 3 = e) (hb : y ≤ x → am_Ev d mi (t, L, S) h Q) (hn : ¬ y ≤ x → am_Ev d mi (e, L, S) h Q) : am_Ev d mi (pc, L, .int y :: .int x :: S) h Q := ev_icm hm hi ht he (fun z => hb (of_decide_eq_true z)) (fun z => hn (of_decide_eq_false z))
theorem ev_icmp_gt (hm : tb_m mi = some M) (hi : tb_ins mi pc = some (.if_icmp .gt n)) (ht : am_to pc n S = some (t, S)) (he : pc + 3 = e) (hb : y < x → am_Ev d mi (t, L, S) h Q) (hn : ¬ y < x → am_Ev d mi (e, L, S) h Q) : am_Ev d mi (pc, L, .int y :: .int x :: S) h Q := ev_icm hm hi ht he (fun z => hb (of_decide_eq_true z)) (fun z => hn (of_decide_eq_false z))
theorem ev_icmp_le (hm : tb_m mi = some M) (hi : tb_ins mi pc = some (.if_icmp .le n)) (ht : am_to pc n S = some (t, S)) (he : pc + 3 = e) (hb : x ≤ y → am_Ev d mi (t, L, S) h Q) (hn : ¬ x ≤ y → am_Ev d mi (e, L, S) h Q) : am_Ev d mi (pc, L, .int y :: .int x :: S) h Q := ev_icm hm hi ht he (fun z => hb (of_decide_eq_true z)) (fun z => hn (of_decide_eq_false z))
theorem ev_if_eq (hm : tb_m mi = some M) (hi : tb_ins mi pc = some (.ifCond .eq n)) (ht : am_to pc n S = some (t, S)) (he : pc + 3 = e) (hb : x = 0 → am_Ev d mi (t, L, S) h Q) (hn : ¬ x = 0 → am_Ev d mi (e, L, S) h Q) : am_Ev d mi (pc, L, .int x :: S) h Q := ev_ifc hm hi ht he (fun z => hb (of_decide_eq_true z)) (fun z => hn (of_decide_eq_false z))
theorem ev_if_ne (hm : tb_m mi = some M) (hi : tb_ins mi pc = some (.ifCond .ne n)) (ht : am_to pc n S = some (t, S)) (he : pc + 3 = e) (hb : ¬ x = 0 → am_Ev d mi (t, L, S) h Q) (hn : x = 0 → am_Ev d mi (e, L, S) h Q) : am_Ev d mi (pc, L, .int x :: S) h Q := ev_ifc hm hi ht he (fun z => hb (of_decide_eq_true z)) (fun z => hn (Decidable.of_not_not (of_decide_eq_false z)))
theorem ev_if_lt (hm : tb_m mi = some M) (hi : tb_ins mi pc = some (.ifCond .lt n)) (ht : am_to pc n S = some (t, S)) (he : pc + 3 = e) (hb : x < 0 → am_Ev d mi (t, L, S) h Q) (hn : ¬ x < 0 → am_Ev d mi (e, L, S) h Q) : am_Ev d mi (pc, L, .int x :: S) h Q := ev_ifc hm hi ht he (fun z => hb (of_decide_eq_true z)) (fun z => hn (of_decide_eq_false z))
theorem ev_if_ge (hm : tb_m mi = some M) (hi : tb_ins mi pc = some (.ifCond .ge n)) (ht : am_to pc n S = some (t, S)) (he : pc + 3 = e) (hb : 0 ≤ x → am_Ev d mi (t, L, S) h Q) (hn : ¬ 0 ≤ x → am_Ev d mi (e, L, S) h Q) : am_Ev d mi (pc, L, .int x :: S) h Q := ev_ifc hm hi ht he (fun z => hb (of_decide_eq_true z)) (fun z => hn (of_decide_eq_false z))
theorem ev_if_gt (hm : tb_m mi = some M) (hi : tb_ins mi pc = some (.ifCond .gt n)) (ht : am_to pc n S = some (t, S)) (he : pc + 3 = e) (hb : 0 < x → am_Ev d mi (t, L, S) h Q) (hn : ¬ 0 < x → am_Ev d mi (e, L, S) h Q) : am_Ev d mi (pc, L, .int x :: S) h Q := ev_ifc hm hi ht he (fun z => hb (of_decide_eq_true z)) (fun z => hn (of_decide_eq_false z))
theorem ev_if_le (hm : tb_m mi = some M) (hi : tb_ins mi pc = some (.ifCond .le n)) (ht : am_to pc n S = some (t, S)) (he : pc + 3 = e) (hb : x ≤ 0 → am_Ev d mi (t, L, S) h Q) (hn : ¬ x ≤ 0 → am_Ev d mi (e, L, S) h Q) : am_Ev d mi (pc, L, .int x :: S) h Q := ev_ifc hm hi ht he (fun z => hb (of_decide_eq_true z)) (fun z => hn (of_decide_eq_false z))
theorem tr_rqB {p : Nat} : am_rq (.ref (pB p)) = some (some (pB p)) := if_pos (by unfold pB; show (5 : Nat) ≤ _; omega)
theorem tr_rqN : am_rq .null = some none := rfl
theorem pB_inj {p q : Nat} (h : pB p = pB q) : p = q := by unfold pB at h; omega
theorem ev_acp_eq {p q : Nat} (hm : tb_m mi = some M) (hi : tb_ins mi pc = some (.if_acmp .eq n)) (ht : am_to pc n S = some (t, S)) (he : pc + 3 = e) (hb : p = q → am_Ev d mi (t, L, S) h Q) (hn : ¬ p = q → am_Ev d mi (e, L, S) h Q) : am_Ev d mi (pc, L, .ref (pB q) :: .ref (pB p) :: S) h Q := ev_acm hm hi tr_rqB tr_rqB ht he (fun z => hb (pB_inj (Option.some.inj (of_decide_eq_true z)))) (fun z => hn (fun w => of_decide_eq_false z (by rw [w])))
theorem ev_acp_ne {p q : Nat} (hm : tb_m mi = some M) (hi : tb_ins mi pc = some (.if_acmp .ne n)) (ht : am_to pc n S = some (t, S)) (he : pc + 3 = e) (hb : ¬ p = q → am_Ev d mi (t, L, S) h Q) (hn : p = q → am_Ev d mi (e, L, S) h Q) : am_Ev d mi (pc, L, .ref (pB q) :: .ref (pB p) :: S) h Q := ev_acm hm hi tr_rqB tr_rqB ht he (fun z => hb (fun w => of_decide_eq_true z (by rw [w]))) (fun z => hn (pB_inj (Option.some.inj (Decidable.of_not_not (of_decide_eq_false z)))))
theorem ev_aceqD {p q : Option Nat} {v w : Value} (hm : tb_m mi = some M) (hi : tb_ins mi pc = some (.if_acmp .eq n)) (hv : am_rq v = some p) (hw : am_rq w = some q) (ht : am_to pc n S = some (t, S)) (he : pc + 3 = e) (hne : p ≠ q) (kk : am_Ev d mi (e, L, S) h Q) : am_Ev d mi (pc, L, w :: v :: S) h Q := ev_acm hm hi hv hw ht he (fun z => absurd (of_decide_eq_true z) hne) (fun _ => kk)
theorem ev_acneD {p q : Option Nat} {v w : Value} (hm : tb_m mi = some M) (hi : tb_ins mi pc = some (.if_acmp .ne n)) (hv : am_rq v = some p) (hw : am_rq w = some q) (ht : am_to pc n S = some (t, S)) (he : pc + 3 = e) (hne : p ≠ q) (kk : am_Ev d mi (t, L, S) h Q) : am_Ev d mi (pc, L, w :: v :: S) h Q := ev_acm hm hi hv hw ht he (fun _ => kk) (fun z => absurd (Decidable.of_not_not (of_decide_eq_false z)) hne)
theorem ev_ldef {df : Int} {ps : Array (Int × Int)} (hs : (ps.toList.zip (ps.toList.drop 1)).all (fun (a, next) => a.1 < next.1) = true) (ho : Op.lookupswitch.offset ps.toList df x.toInt = df) (ht : am_to pc df S = some (t, S)) : am_jmp pc (.lookupswitch df ps) (.int x :: S) = some (t, S) := by
  show am_jl pc df ps (.int x :: S) = _
  unfold am_jl
  dsimp only
  rw [if_pos hs, ho]
  exact ht
theorem ts_nel {z : Int32} {k : Int} (h : ¬ x = z) (hk : z.toInt = k) : ¬ k = x.toInt := fun e => h (Int32.toInt_inj.mp (e.symm.trans hk.symm))
theorem ts_ne {z : Int32} (h : ¬ x = z) : x.toInt ≠ z.toInt := fun e => h (Int32.toInt_inj.mp e)
end EV2
section TR2
variable {d mi pc : Nat} {L : am_L} {s : ts} {M : tb_M}
theorem tr_rv {Q : ts → Prop} (hm : tb_m mi = some M) (hi : tb_ins mi pc = some .return_) (hr : M.2.2.2.2.2 = none) (hq : Q s) : am_Ev d mi (pc, L, []) (lay s) (tq_v Q) := ev_ret hm hi (by rw [hr]; rfl) ⟨s, rfl, rfl, hq⟩
theorem tr_ri {Q : Int32 × ts → Prop} {x : Int32} (hm : tb_m mi = some M) (hi : tb_ins mi pc = some .ireturn) (hr : M.2.2.2.2.2 = some .int) (hq : Q (x, s)) : am_Ev d mi (pc, L, [.int x]) (lay s) (tq_i Q) := ev_ret hm hi (by rw [hr]; rfl) ⟨x, s, rfl, rfl, hq⟩
theorem tr_rz {Q : Int32 × ts → Prop} {x : Int32} (hm : tb_m mi = some M) (hi : tb_ins mi pc = some .ireturn) (hr : M.2.2.2.2.2 = some .boolean) (hx : x = 0 ∨ x = 1) (hq : Q (x, s)) : am_Ev d mi (pc, L, [.int x]) (lay s) (tq_i Q) := by
  refine ev_ret hm hi (v := some (.int x)) ?_ ⟨x, s, rfl, rfl, hq⟩
  rw [hr]
  rcases hx with rfl | rfl <;> rfl
theorem tr_rj {Q : Int64 × ts → Prop} {x : Int64} (hm : tb_m mi = some M) (hi : tb_ins mi pc = some .lreturn) (hr : M.2.2.2.2.2 = some .long) (hq : Q (x, s)) : am_Ev d mi (pc, L, [.long x]) (lay s) (tq_j Q) := ev_ret hm hi (by rw [hr]; rfl) ⟨x, s, rfl, rfl, hq⟩
theorem tr_rn {Q : Option Nat × ts → Prop} {C : String} {g : Nat → Nat} (hm : tb_m mi = some M) (hi : tb_ins mi pc = some .areturn) (hr : M.2.2.2.2.2 = some (.object C)) (hq : Q (none, s)) : am_Ev d mi (pc, L, [.null]) (lay s) (tq_r g Q) := ev_ret hm hi (by rw [hr]; rfl) ⟨none, s, rfl, rfl, hq⟩
theorem tr_rr {Q : Option Nat × ts → Prop} {C : String} {g : Nat → Nat} {p : Nat} (hm : tb_m mi = some M) (hi : tb_ins mi pc = some .areturn) (hr : M.2.2.2.2.2 = some (.object C)) (hq : Q (some p, s)) : am_Ev d mi (pc, L, [.ref (g p)]) (lay s) (tq_r g Q) := ev_ret hm hi (by rw [hr]; rfl) ⟨some p, s, rfl, rfl, hq⟩
end TR2
-- the objects that are one of their kind
theorem ts_o {s : ts} (r ci : Nat) (h1 : Nat.ble 5 r = true) (h2 : Nat.ble r 142 = true) (h : ts_at r = some (ci, 0)) : ts_ob s r ci 0 := ⟨Nat.le_of_ble_eq_true h1, by have := Nat.le_of_ble_eq_true h2; omega, h⟩
theorem ts_o5 {s : ts} : ts_ob s 5 0 0 := ts_o 5 0 rfl rfl (by decide +kernel)
theorem ts_o7 {s : ts} : ts_ob s 7 1 0 := ts_o 7 1 rfl rfl (by decide +kernel)
theorem ts_o12 {s : ts} : ts_ob s 12 2 0 := ts_o 12 2 rfl rfl (by decide +kernel)
theorem ts_o33 {s : ts} : ts_ob s 33 3 0 := ts_o 33 3 rfl rfl (by decide +kernel)
theorem ts_o28 {s : ts} : ts_ob s 28 4 0 := ts_o 28 4 rfl rfl (by decide +kernel)
theorem ts_o35 {s : ts} : ts_ob s 35 8 0 := ts_o 35 8 rfl rfl (by decide +kernel)
theorem ts_o81 {s : ts} : ts_ob s 81 9 0 := ts_o 81 9 rfl rfl (by decide +kernel)
theorem ts_o34 {s : ts} : ts_ob s 34 10 0 := ts_o 34 10 rfl rfl (by decide +kernel)
theorem ts_o87 {s : ts} : ts_ob s 87 11 0 := ts_o 87 11 rfl rfl (by decide +kernel)
/-- how often a loop may go round: more than any does -/
def tm_N : Nat := 1000000000
-- fewer locals
def am_subs : am_L → am_L → Prop
  | [], _ => True
  | q :: r, L => am_lk L q.1 = some q.2 ∧ am_subs r L
def am_un : am_L → Prop
  | [] => True
  | q :: r => (∀ p ∈ r, p.1 ≠ q.1) ∧ am_un r
def am_leq (L L' : am_L) : Prop := ∀ i v, am_lk L i = some v → am_lk L' i = some v
theorem am_subs_leq {L L' : am_L} (h : am_subs L L') : am_leq L L' := by
  induction L with
  | nil => intro i v z; cases z
  | cons q r ih =>
    intro i v z
    unfold am_lk at z
    split at z
    · rename_i e
      cases z
      rw [← e]
      exact h.1
    · exact ih h.2 i v z
theorem am_lk_un {L : am_L} (hu : am_un L) {i : Nat} {v : Value} (h : (i, v) ∈ L) : am_lk L i = some v := by
  induction L with
  | nil => cases h
  | cons q r ih =>
    unfold am_lk
    rcases List.mem_cons.mp h with e | e
    · rw [← e, if_pos rfl]
    · rw [if_neg (fun z => hu.1 _ e z.symm)]
      exact ih hu.2 e
theorem am_un_filter {L : am_L} (hu : am_un L) (P : Nat × Value → Bool) : am_un (L.filter P) := by
  induction L with
  | nil => trivial
  | cons q r ih =>
    rw [List.filter_cons]
    split
    · exact ⟨fun p hp => hu.1 p (List.mem_filter.mp hp).1, ih hu.2⟩
    · exact ih hu.2
theorem am_un_st {L : am_L} (hu : am_un L) (i : Nat) (v : Value) : am_un (am_st L i v) := by
  refine ⟨fun p hp => ?_, am_un_filter hu _⟩
  have := (List.mem_filter.mp hp).2
  simp only [Bool.and_eq_true, Bool.not_eq_true', beq_eq_false_iff_ne] at this
  exact this.1
theorem am_un_st2 {L : am_L} (hu : am_un L) (i : Nat) (v : Value) : am_un (am_st2 L i v) := by
  refine ⟨fun p hp => ?_, am_un_filter hu _⟩
  have := (List.mem_filter.mp hp).2
  simp only [Bool.and_eq_true, Bool.not_eq_true', beq_eq_false_iff_ne] at this
  exact this.1
theorem am_leq_f {L L' : am_L} (hu : am_un L) (hu' : am_un L') (h : am_leq L L') (P : Nat × Value → Bool) (i : Nat) (v : Value) : am_leq ((i, v) :: L.filter P) ((i, v) :: L'.filter P) := by
  intro k w z
  unfold am_lk at z ⊢
  by_cases e : i = k
  · rw [if_pos e] at z ⊢; exact z
  · rw [if_neg e] at z ⊢
    have hm := List.mem_filter.mp (am_lk_mem z)
    have h1 := h k w (am_lk_un hu hm.1)
    exact am_lk_un (am_un_filter hu' P) (List.mem_filter.mpr ⟨am_lk_mem h1, hm.2⟩)
theorem am_loc_sub {n : Nat} {i : Instr} {L L' L1 : am_L} {S S' : List Value} (hu : am_un L) (hu' : am_un L') (h : am_leq L L') (z : am_loc n i L S = some (L1, S')) : ∃ L1', am_loc n i L' S = some (L1', S') ∧ am_un L1 ∧ am_un L1' ∧ am_leq L1 L1' := by
  have ldi : ∀ k, am_ldi L k S = some (L1, S') → ∃ L1', am_ldi L' k S = some (L1', S') ∧ am_un L1 ∧ am_un L1' ∧ am_leq L1 L1' := by
    intro k z
    obtain ⟨x, hx, rfl, rfl⟩ := am_ldi_inv z
    exact ⟨L', ev_ildi (h _ _ hx), hu, hu', h⟩
  have ldl : ∀ k, am_ldl L k S = some (L1, S') → ∃ L1', am_ldl L' k S = some (L1', S') ∧ am_un L1 ∧ am_un L1' ∧ am_leq L1 L1' := by
    intro k z
    obtain ⟨x, hx, rfl, rfl⟩ := am_ldl_inv z
    exact ⟨L', ev_ildl (h _ _ hx), hu, hu', h⟩
  have lda : ∀ k, am_lda L k S = some (L1, S') → ∃ L1', am_lda L' k S = some (L1', S') ∧ am_un L1 ∧ am_un L1' ∧ am_leq L1 L1' := by
    intro k z
    obtain ⟨rfl, z⟩ := am_lda_inv z
    rcases z with ⟨x, hx, rfl⟩ | ⟨hx, rfl⟩
    · exact ⟨L', ev_ilda (h _ _ hx), hu, hu', h⟩
    · exact ⟨L', ev_ildn (h _ _ hx), hu, hu', h⟩
  have sti : ∀ k, am_sti n L k S = some (L1, S') → ∃ L1', am_sti n L' k S = some (L1', S') ∧ am_un L1 ∧ am_un L1' ∧ am_leq L1 L1' := by
    intro k z
    obtain ⟨x, rfl, rfl, hn⟩ := am_sti_inv z
    exact ⟨_, if_pos hn, am_un_st hu _ _, am_un_st hu' _ _, am_leq_f hu hu' h _ _ _⟩
  have stl : ∀ k, am_stl n L k S = some (L1, S') → ∃ L1', am_stl n L' k S = some (L1', S') ∧ am_un L1 ∧ am_un L1' ∧ am_leq L1 L1' := by
    intro k z
    obtain ⟨x, rfl, rfl, hn⟩ := am_stl_inv z
    exact ⟨_, if_pos hn, am_un_st2 hu _ _, am_un_st2 hu' _ _, am_leq_f hu hu' h _ _ _⟩
  have sta : ∀ k, am_sta n L k S = some (L1, S') → ∃ L1', am_sta n L' k S = some (L1', S') ∧ am_un L1 ∧ am_un L1' ∧ am_leq L1 L1' := by
    intro k z
    obtain ⟨hn, z⟩ := am_sta_inv z
    rcases z with ⟨x, rfl, rfl⟩ | ⟨rfl, rfl⟩
    · exact ⟨_, if_pos hn, am_un_st hu _ _, am_un_st hu' _ _, am_leq_f hu hu' h _ _ _⟩
    · exact ⟨_, if_pos hn, am_un_st hu _ _, am_un_st hu' _ _, am_leq_f hu hu' h _ _ _⟩
  cases i <;> simp only [am_loc, reduceCtorEq] at z
  case iload k => exact ldi k z
  case iload_n k => exact ldi _ z
  case lload k => exact ldl k z
  case lload_n k => exact ldl _ z
  case aload k => exact lda k z
  case aload_n k => exact lda _ z
  case istore k => exact sti k z
  case istore_n k => exact sti _ z
  case lstore k => exact stl k z
  case lstore_n k => exact stl _ z
  case astore k => exact sta k z
  case astore_n k => exact sta _ z
  case iinc k q =>
    obtain ⟨x, hx, rfl, rfl, hn⟩ := am_inc_inv z
    refine ⟨am_st L' k (.int (x + Int32.ofInt q)), ?_, am_un_st hu _ _, am_un_st hu' _ _, am_leq_f hu hu' h _ _ _⟩
    show am_inc n L' k q S' = _
    unfold am_inc
    rw [h _ _ hx]
    exact if_pos hn
theorem am_step_sub {d mi pc : Nat} {L L' : am_L} {S : List Value} {h h1 : am_H} {f1 : am_F} (hu : am_un L) (hu' : am_un L') (hl : am_leq L L') (z : am_step d mi (pc, L, S) h = some (f1, h1)) : ∃ L1', am_step d mi (pc, L', S) h = some ((f1.1, L1', f1.2.2), h1) ∧ am_un f1.2.1 ∧ am_un L1' ∧ am_leq f1.2.1 L1' := by
  unfold am_step at z ⊢
  dsimp only at z ⊢
  split at z
  · rename_i M i hM hi
    try rw [hM, hi]
    try dsimp only
    split at z
    · rename_i S1 h2
      cases z
      try rw [h2]
      exact ⟨L', rfl, hu, hu', hl⟩
    · rename_i h2
      try rw [h2]
      try dsimp only
      split at z
      · rename_i q h3
        obtain ⟨q1, q2⟩ := q
        cases z
        obtain ⟨L1', a, b, c, e⟩ := am_loc_sub hu hu' hl h3
        try rw [a]
        exact ⟨L1', rfl, b, c, e⟩
      · rename_i h3
        split at z
        · rename_i q h4
          cases z
          try rw [am_loc_nj h4]
          try dsimp only
          try rw [h4]
          exact ⟨L', rfl, hu, hu', hl⟩
        · rename_i h4
          split at z
          · rename_i q h5
            cases z
            have e2 : am_loc M.2.2.2.2.1 i L' S = none := by cases i <;> first | rfl | (simp only [am_hp, reduceCtorEq] at h5)
            try rw [e2]
            try dsimp only
            try rw [h4]
            try dsimp only
            try rw [h5]
            exact ⟨L', rfl, hu, hu', hl⟩
          · rename_i h5
            split at z
            · rename_i S1 h6
              cases z
              have e2 : am_loc M.2.2.2.2.1 i L' S = none := by cases i <;> first | rfl | (simp only [am_pcl, am_cix, reduceCtorEq] at h6)
              try rw [e2]
              try dsimp only
              try rw [h4]
              try dsimp only
              try rw [h5]
              try dsimp only
              try rw [h6]
              exact ⟨L', rfl, hu, hu', hl⟩
            · cases z
  · cases z
theorem am_step_none {d mi pc : Nat} {L L' : am_L} {S : List Value} {h : am_H} (z : am_step d mi (pc, L, S) h = none) (hq : (∃ v, am_ends mi (pc, L, S) = some v) ∨ (∃ v, am_call mi (pc, L, S) h = some v)) : am_step d mi (pc, L', S) h = none := by
  unfold am_step at z ⊢
  dsimp only at z ⊢
  cases hM : tb_m mi with
  | none => rfl
  | some M =>
    cases hi : tb_ins mi pc with
    | none => rfl
    | some i =>
      rw [hM, hi] at z
      dsimp only at z ⊢
      have hloc : ∀ L9 : am_L, am_loc M.2.2.2.2.1 i L9 S = none := by
        intro L9
        rcases hq with ⟨v, hv⟩ | ⟨v, hv⟩
        · unfold am_ends at hv
          dsimp only at hv
          rw [hM, hi] at hv
          exact (am_ret_no (L := L9) (h := h) (pc := pc) (d := d) (n := M.2.2.2.2.1) (ini := true) (o := 0) hv).2.1
        · unfold am_call at hv
          dsimp only at hv
          rw [hM, hi] at hv
          dsimp only at hv
          split at hv
          · rename_i sk k hx
            exact (am_cix_no (L := L9) (h := h) (pc := pc) (n := M.2.2.2.2.1) (ini := true) (o := 0) hx).2.1
          · cases hv
      rw [hloc L] at z
      rw [hloc L']
      cases ha : am_alu i S with
      | some S1 => rw [ha] at z; cases z
      | none =>
        rw [ha] at z
        dsimp only at z ⊢
        cases hj : am_jmp pc i S with
        | some q => rw [hj] at z; cases z
        | none =>
          rw [hj] at z
          dsimp only at z ⊢
          cases hh : am_hp (M.2.1.name == "<init>") M.1 i S h with
          | some q => rw [hh] at z; cases z
          | none =>
            rw [hh] at z
            dsimp only at z ⊢
            cases hp : am_pcl d M.1 i S with
            | some q => rw [hp] at z; cases z
            | none => rfl
theorem am_run_sub : ∀ (n d mi pc : Nat) (L L' : am_L) (S : List Value) (h : am_H) (r : Option Value × am_H), am_un L → am_un L' → am_leq L L' → am_run n d mi (pc, L, S) h = some r → am_run n d mi (pc, L', S) h = some r := by
  intro n
  induction n with
  | zero => intro d mi pc L L' S h r _ _ _ z; cases z
  | succ n ih =>
    intro d mi pc L L' S h r hu hu' hl z
    unfold am_run at z ⊢
    split at z
    · rename_i q hq
      obtain ⟨f1, h1⟩ := q
      obtain ⟨L1', a, b, c, e⟩ := am_step_sub hu hu' hl hq
      try rw [a]
      exact ih _ _ _ _ _ _ _ _ b c e z
    · rename_i hq
      split at z
      · rename_i v hv
        try rw [am_step_none hq (Or.inl ⟨v, hv⟩)]
        try dsimp only
        have e : am_ends mi (pc, L', S) = some v := hv
        try rw [e]
        exact z
      · rename_i hv
        have e : am_ends mi (pc, L', S) = none := hv
        split at z
        · rename_i e' mj A q hc
          have hc' : am_call mi (pc, L', S) h = some (mj, A, q) := hc
          try rw [am_step_none hq (Or.inr ⟨_, hc⟩), e]
          try dsimp only
          try rw [hc']
          try dsimp only
          split at z
          · rename_i v h1 h2
            try rw [h2]
            exact ih _ _ _ _ _ _ _ _ hu hu' hl z
          · cases z
        · cases z
def am_unb : am_L → Bool
  | [] => true
  | q :: r => r.all (fun p => !(Nat.beq p.1 q.1)) && am_unb r
theorem am_unb_ok : ∀ {L : am_L}, am_unb L = true → am_un L
  | [], _ => trivial
  | q :: r, h => by
    unfold am_unb at h
    rw [Bool.and_eq_true] at h
    refine ⟨fun p hp e => ?_, am_unb_ok h.2⟩
    have := List.all_eq_true.mp h.1 p hp
    rw [e] at this
    simp at this
theorem am_Ev.sub {d mi pc : Nat} {L L' : am_L} {S : List Value} {h : am_H} {Q : Option Value → am_H → Prop} (hs : am_subs L L') (k : am_Ev d mi (pc, L, S) h Q) (hu : am_unb L = true := by rfl) (hu' : am_unb L' = true := by rfl) : am_Ev d mi (pc, L', S) h Q := by
  obtain ⟨n, v, h2, hr, hq⟩ := k
  exact ⟨n, v, h2, am_run_sub _ _ _ _ _ _ _ _ _ (am_unb_ok hu) (am_unb_ok hu') (am_subs_leq hs) hr, hq⟩
