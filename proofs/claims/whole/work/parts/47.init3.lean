/-! THE CONSTRUCTORS, third part: the state that they leave. -/
def in_AI (c : am_C) : Nat → Int32 := match c with
  | .inl (_, _, .inl f) => f
  | _ => fun _ => 0
def in_AL (c : am_C) : Nat → Int64 := match c with
  | .inl (_, _, .inr (.inl f)) => f
  | _ => fun _ => 0
def in_s (h : am_H) (ou : Nat → am_C) : ts := (in_I, fun _ _ => 0, fun _ _ => none, fun r => in_AI (h.2.2 r), fun r => in_AL (h.2.2 r), fun _ _ => 0, fun _ _ => 0, 0, ou)
theorem in_fs {h : am_H} {ou : Nat → am_C} {ci i : Nat} {fs : List Value} (hl : fs.length = ts_n ci) (ha : ∀ j, j < ts_n ci → in_f ci i j (fs.getD j .null) = true) : fs = ts_fs (in_s h ou) ci i := by
  apply List.ext_getElem?
  intro j
  unfold ts_fs
  by_cases hj : j < ts_n ci
  · rw [List.getElem?_map, List.getElem?_range hj, Option.map_some]
    have h1 := ha j hj
    rw [List.getD_eq_getElem?_getD, List.getElem?_eq_getElem (by omega)] at h1
    rw [List.getElem?_eq_getElem (by omega)]
    congr 1
    unfold in_f at h1
    unfold ts_f
    dsimp only [Option.getD_some] at h1
    generalize hty : tb_ty ci j = ty at h1
    cases ty
    case int => exact of_decide_eq_true h1
    case boolean => exact of_decide_eq_true h1
    case long => exact of_decide_eq_true h1
    all_goals (
      dsimp only at h1 ⊢
      cases hk : ts_k ci i j with
      | none => rw [hk] at h1; exact of_decide_eq_true h1
      | some r => rw [hk] at h1; exact of_decide_eq_true h1)
  · rw [List.getElem?_eq_none (by omega), List.getElem?_eq_none (by simp; omega)]
theorem in_cell {h : am_H} {ou : Nat → am_C} {r : Nat} {g : Nat → am_C} (hb : ov_b g h) (hc : in_c r (h.2.2 r) (ts_d r) = true) : h.2.2 r = ts_c (in_s h ou) r (ts_d r) := by
  generalize hd : ts_d r = q at hc
  unfold in_c at hc
  split at hc
  · rename_i ci i
    split at hc
    · rename_i c' fs e
      rw [Bool.and_eq_true, Bool.and_eq_true, beq_iff_eq, beq_iff_eq, List.all_eq_true] at hc
      rw [e, hc.1]
      show _ = (.inr (ci, ts_fs (in_s h ou) ci i) : am_C)
      rw [in_fs (h := h) (ou := ou) (i := i) hc.2.1 (fun j hj => hc.2.2 j (List.mem_range.mpr hj))]
    · cases hc
  · rename_i n
    split at hc
    · rename_i n' f e
      rw [beq_iff_eq] at hc
      show h.2.2 r = (.inl (.long, n, .inr (.inl (in_AL (h.2.2 r)))) : am_C)
      rw [e, hc]; rfl
    · cases hc
  · rename_i C n
    split at hc
    · rename_i C' n' f e
      rw [Bool.and_eq_true, Bool.and_eq_true, Bool.and_eq_true, decide_eq_true_eq, beq_iff_eq, List.all_eq_true] at hc
      obtain ⟨rfl, rfl, h3, h4⟩ := hc
      show h.2.2 r = (.inl (.object C', n', .inr (.inr (.inr (.inr (if r = 37 then ts_q else ts_m (in_s h ou)))))) : am_C)
      rw [e]
      have ef : f = if r = 37 then ts_q else ts_m (in_s h ou) := by
        funext k
        by_cases hk : k < n'
        · have h5 := of_decide_eq_true (h3 k (List.mem_range.mpr hk))
          by_cases h37 : r = 37
          · rw [if_pos h37] at h5 ⊢; exact h5
          · rw [if_neg h37] at h5 ⊢
            rw [h5]; rfl
        · have h5 := hb.2.2.1 r _ _ _ e k (by omega)
          rw [h5]
          by_cases h37 : r = 37
          · rw [if_pos h37] at h4 ⊢
            rw [beq_iff_eq] at h4
            unfold ts_q
            rw [if_neg (by omega)]
          · rw [if_neg h37]; rfl
      rw [ef]
    · cases hc
  · rename_i n
    split at hc
    · rename_i n' f e
      rw [beq_iff_eq] at hc
      show h.2.2 r = (.inl (.int, n, .inl (in_AI (h.2.2 r))) : am_C)
      rw [e, hc]; rfl
    · cases hc
  · rename_i n
    split at hc
    · rename_i n' f e
      rw [beq_iff_eq] at hc
      show h.2.2 r = (.inl (.byte, n, .inl (in_AI (h.2.2 r))) : am_C)
      rw [e, hc]; rfl
    · cases hc
  · rename_i n
    split at hc
    · rename_i n' f e
      rw [beq_iff_eq] at hc
      show h.2.2 r = (.inl (.boolean, n, .inl (in_AI (h.2.2 r))) : am_C)
      rw [e, hc]; rfl
    · cases hc
  · cases hc
theorem in_lay {h : am_H} {ou : Nat → am_C} {g : Nat → am_C} (hb : ov_b g h) (hs : in_sh h = true) : lay (in_s h ou) = (143, 113995, fun r => if r < 5 then ou r else h.2.2 r) := by
  unfold in_sh at hs
  rw [Bool.and_eq_true, Bool.and_eq_true, Bool.and_eq_true, beq_iff_eq, beq_iff_eq, List.all_eq_true] at hs
  obtain ⟨h1, h2, h3, h4⟩ := hs
  refine Prod.ext rfl (Prod.ext rfl (funext fun r => ?_))
  show (if r < 5 then ou r else if r < 143 then ts_c (in_s h ou) r (ts_d r) else ts_p (in_s h ou) r) = if r < 5 then ou r else h.2.2 r
  by_cases h5 : r < 5
  · rw [if_pos h5, if_pos h5]
  · rw [if_neg h5, if_neg h5]
    by_cases h143 : r < 143
    · rw [if_pos h143]
      have := h3 (r - 5) (List.mem_range.mpr (by omega))
      rw [show r - 5 + 5 = r by omega] at this
      exact (in_cell hb this).symm
    · rw [if_neg h143, hb.2.2.2.1 r (by omega)]
      unfold in_p
      rw [if_neg h143]
      rfl
theorem in_hb (fm : Nat) : ov_b (in_h fm).2.2 (in_h fm) := by
  refine ⟨Nat.le_refl _, rfl, ?_, ?_, fun r _ _ => rfl⟩
  · intro r C n f hq
    have hq : (if r = 0 then _ else if r = 1 then _ else if r = 2 then _ else if r = 3 then _ else if r = 4 then _ else in_p r) = _ := hq
    split at hq
    · cases hq
    · split at hq
      · cases hq
      · split at hq
        · cases hq
        · split at hq
          · cases hq
          · split at hq
            · cases hq
            · unfold in_p ts_p at hq
              split at hq
              · cases hq
              · split at hq
                · cases hq
                · split at hq <;> cases hq
  · intro r hr
    have hr : 5 ≤ r := hr
    show (if r = 0 then _ else if r = 1 then _ else if r = 2 then _ else if r = 3 then _ else if r = 4 then _ else in_p r) = _
    rw [if_neg (by omega), if_neg (by omega), if_neg (by omega), if_neg (by omega), if_neg (by omega)]
theorem m_X : tb_m 1 = some (1, ⟨"EventHall", "<init>", "()V"⟩, 0, prog_1_method_1_code, 1, none) := rfl
theorem m_Z : tb_m 172 = some (12, ⟨"EventHallModel", "<init>", "()V"⟩, 0, prog_13_method_1_code, 1, none) := rfl
theorem m_0' : tb_m 0 = some (0, ⟨"EventHallLaw", "law", "([I)Z"⟩, 1, code, 4, (some .boolean)) := rfl
/-- the law up to its loop: both objects are made; the state is in_s of a heap h whose shape is known -/
theorem in_law {d fm : Nat} {c0 : am_C} {Q : Option Value → am_H → Prop} (hfm : fm = 0 ∨ fm = 1) (kk : ∀ h : am_H, in_sh h = true → am_Ev (d + 21) 0 (16, [(2, .ref 87), (1, .ref 5), (0, .ref 0)], []) (lay (in_s h (ov c0 (in_h fm)).2.2)) Q) : am_Ev (d + 21) 0 (0, [(0, .ref 0)], []) (ov c0 (in_h fm)) Q := by
  have hok : in_ok fm = true := by
    rcases hfm with e | e
    · rw [e]; exact in_ok0
    · rw [e]; exact in_ok1
  unfold in_ok at hok
  split at hok
  · rename_i h1 e1
    rw [Bool.and_eq_true, beq_iff_eq] at hok
    obtain ⟨n1, hok⟩ := hok
    split at hok
    · rename_i h2 e2
      have hb0 := in_hb fm
      have hba : ov_b (in_h fm).2.2 (in_a fm) := ov_b_push hb0 (fun C n f q => by cases q)
      obtain ⟨r1, b1⟩ := ov_run (c0 := c0) _ _ _ _ _ _ _ hba e1
      have hbb : ov_b (in_h fm).2.2 (in_b h1) := ov_b_push b1 (fun C n f q => by cases q)
      obtain ⟨r2, b2⟩ := ov_run (c0 := c0) _ _ _ _ _ _ _ hbb e2
      have r1 := am_run_deep (k := d) _ _ _ _ _ _ r1
      have r2 := am_run_deep (k := d) _ _ _ _ _ _ r2
      rw [Nat.add_comm 20 d] at r1 r2
      refine ev_hp (pc' := 3) (S' := [.ref 5]) (h' := am_push (ov c0 (in_h fm)) (.inr (0, in_df 0 7)) 7) m_0' rfl rfl rfl rfl ?_
      rw [ov_push hb0.1]
      refine ev_dup (pc' := 4) m_0' rfl rfl rfl ?_
      refine ev_call (pc' := 7) m_0' rfl rfl rfl m_X rfl rfl (by decide) (by decide) rfl rfl ⟨_, _, _, r1, ?_⟩
      refine ev_astore_n (pc' := 8) m_0' rfl rfl rfl rfl ?_
      refine ev_hp (pc' := 11) (S' := [.ref 87]) (h' := am_push (ov c0 h1) (.inr (11, in_df 11 92)) 92) m_0' rfl rfl ?_ rfl ?_
      · show some ([Value.ref h1.1], _) = _
        rw [n1]
        rfl
      rw [ov_push b1.1]
      refine ev_dup (pc' := 12) m_0' rfl rfl rfl ?_
      refine ev_call (pc' := 15) m_0' rfl rfl rfl m_Z rfl rfl (by decide) (by decide) rfl rfl ⟨_, _, _, r2, ?_⟩
      refine ev_astore_n (pc' := 16) m_0' rfl rfl rfl rfl ?_
      have e : ov c0 h2 = lay (in_s h2 (ov c0 (in_h fm)).2.2) := by
        rw [in_lay b2 hok]
        unfold in_sh at hok
        rw [Bool.and_eq_true, Bool.and_eq_true, beq_iff_eq, beq_iff_eq] at hok
        refine Prod.ext hok.1 (Prod.ext hok.2.1 (funext fun r => ?_))
        show (if r = 0 then c0 else h2.2.2 r) = if r < 5 then (if r = 0 then c0 else (in_h fm).2.2 r) else h2.2.2 r
        by_cases z0 : r = 0
        · rw [if_pos z0, if_pos (by omega), if_pos z0]
        · rw [if_neg z0]
          by_cases z5 : r < 5
          · rw [if_pos z5, if_neg z0, b2.2.2.2.2 r z5 z0]
          · rw [if_neg z5]
      rw [e]
      exact kk h2 hok
    · cases hok
  · cases hok
