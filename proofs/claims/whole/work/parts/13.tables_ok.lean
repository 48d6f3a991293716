/-! WHAT THE TABLES SAY: from the checks of part 12 (tb_fldB_all, tb_calB_all, tb_newB_all, tb_anwB_all, tb_cstB_all, tb_cl_ok, tb_ck_all). -/
theorem tb_wd_in {w : Cond} (h : w ∈ tb_wd) : w ∈ lw_tbl := (List.mem_filter.mp h).1
theorem tb_wd_of {w : Cond} (h : w ∈ lw_tbl) (hg : tb_isg w = true) : w ∈ tb_wd := List.mem_filter.mpr ⟨h, hg⟩
theorem tb_ne_of {w : Cond} (h : w ∈ lw_tbl) (hg : tb_isn w = true) : w ∈ tb_ne := List.mem_filter.mpr ⟨h, hg⟩
theorem tb_good (w : Cond) (h : w ∈ tb_wd) : (w.onTables && w.keeps) = true ∨ ∃ ty, w = .arrayClass ty := by
  have hg := (List.mem_filter.mp h).2
  unfold tb_isg at hg
  rw [Bool.or_eq_true] at hg
  rcases hg with hg | hg
  · exact Or.inl hg
  · right
    split at hg
    · exact ⟨_, rfl⟩
    · cases hg
theorem tb_ne_tab (w : Cond) (h : w ∈ tb_ne) : w.onTables = true := by
  have hg := (List.mem_filter.mp h).2
  unfold tb_isn at hg
  split at hg
  · rfl
  · rfl
  · cases hg
theorem tb_ne_warm {w : Cond} {s U : State} (h : w ∈ tb_ne) (hW : s.WarmedH U.vm) (hZ : va_Nw w s) : va_Nw w U := by
  have hg := (List.mem_filter.mp h).2
  unfold tb_isn at hg
  split at hg
  · exact va_Nw.warmF hW hZ
  · exact va_Nw.warmM hW hZ
  · cases hg
theorem tb_lk_all {α : Type} {P : Nat × α → Bool} : ∀ {l : List (Nat × α)} {k : Nat} {v : α}, l.all P = true → tb_lk l k = some v → P (k, v) = true := by
  intro l
  induction l with
  | nil => intro k v _ h; cases h
  | cons q r ih =>
    intro k v ha h
    rw [List.all_cons, Bool.and_eq_true] at ha
    unfold tb_lk at h
    split at h
    · rename_i e
      cases h
      subst e
      exact ha.1
    · exact ih ha.2 h
theorem tb_all_ok {α : Type} {P : Nat → Nat × α → Bool} : ∀ {t : List (List (Nat × α))} {o n k : Nat} {v : α}, tb_all P o t = true → tb_lk (t.getD n []) k = some v → P (o + n) (k, v) = true := by
  intro t
  induction t with
  | nil => intro o n k v _ h; cases h
  | cons l r ih =>
    intro o n k v ha h
    unfold tb_all at ha
    rw [Bool.and_eq_true] at ha
    cases n with
    | zero => exact tb_lk_all ha.1 h
    | succ n =>
      have := ih ha.2 (n := n) h
      rw [show o + (n + 1) = o + 1 + n by omega]
      exact this
-- instructions
theorem tb_ck_ok {cc : ByteArray} : ∀ {l : List (Option Instr)} {p0 n : Nat} {i : Instr}, tb_ck cc p0 l = true → l[n]? = some (some i) → ∃ len, decode cc (p0 + n) = .ok (i, len) ∧ (am_isw i = true ∨ len = am_len i) := by
  intro l
  induction l with
  | nil => intro p0 n i _ h; cases h
  | cons x r ih =>
    intro p0 n i hc h
    cases n with
    | succ n =>
      have h' : r[n]? = some (some i) := h
      have hc' : tb_ck cc (p0 + 1) r = true := by
        cases x with
        | none => exact hc
        | some j =>
          unfold tb_ck at hc
          rw [Bool.and_eq_true] at hc
          exact hc.2
      obtain ⟨len, a, b⟩ := ih hc' h'
      exact ⟨len, by rw [← a]; congr 1; omega, b⟩
    | zero =>
      cases h
      unfold tb_ck at hc
      rw [Bool.and_eq_true] at hc
      have h1 := hc.1
      split at h1
      · rename_i j len hd
        rw [Bool.and_eq_true, Bool.or_eq_true] at h1
        have e := of_decide_eq_true h1.1
        subst e
        refine ⟨len, hd, ?_⟩
        rcases h1.2 with z | z
        · exact Or.inl z
        · exact Or.inr (of_decide_eq_true z)
      · cases h1
theorem tb_ins_ok {mi pc : Nat} {M : tb_M} {i : Instr} (hM : tb_m mi = some M) (hi : tb_ins mi pc = some i) : ∃ len, decode M.2.2.2.1 pc = .ok (i, len) ∧ (am_isw i = true ∨ len = am_len i) := by
  have hc := tb_ck_all mi M hM
  have h' : (tb_il mi)[pc]? = some (some i) := by
    unfold tb_ins at hi
    cases h : (tb_il mi)[pc]? with
    | none => rw [h] at hi; cases hi
    | some x => rw [h] at hi; cases x with
      | none => cases hi
      | some y => cases hi; rfl
  obtain ⟨len, a, b⟩ := tb_ck_ok hc h'
  rw [Nat.zero_add] at a
  exact ⟨len, a, b⟩
-- fields
theorem tb_cl_wd {ci : Nat} {C : String} {T : u_T} {N : Nat} (hcl : tb_cl[ci]? = some (C, T, N)) : ∀ w ∈ u_ws C T N, w ∈ tb_wd := fun w hw => by
  refine tb_wd_of ((tb_cl_ok ci (C, T, N) hcl).1 w hw) ?_
  obtain ⟨i, -, rfl⟩ := List.mem_map.mp hw
  unfold u_lay
  split <;> rfl
theorem tb_fld_ok {o k ci j kd : Nat} (h : tb_fld o k = some (ci, j, kd)) : ∃ (C : String) (T : u_T) (N : Nat), tb_cl[ci]? = some (C, T, N) ∧ j < N ∧ (∀ w ∈ u_ws C T N, w ∈ tb_wd) ∧ (∀ k, k < N → parseFieldDescriptor (T k).2.2.1 = some (tb_ty ci k)) ∧ (∀ a, a < N → ∀ b, b < N → a ≠ b → (T a).2.1 ≠ (T b).2.1) ∧ (kd % 2 = 0 → Cond.fieldLink (tb_own o) k (T j).1 (T j).2.1 (T j).2.2.1 ∈ tb_wd) ∧ (kd % 2 = 1 → ∃ host : String, Cond.fieldLinkNest (tb_own o) k (T j).1 (T j).2.1 (T j).2.2.1 host ∈ tb_ne) ∧ (T j).2.2.2 = decide (2 ≤ kd) ∧ (kd = 2 → (T j).1 = tb_own o) := by
  unfold tb_fld at h
  split at h
  · rename_i q hq
    obtain ⟨c1, j1, kd1, ix⟩ := q
    cases h
    have hB := tb_all_ok tb_fldB_all hq
    rw [Nat.zero_add] at hB
    unfold tb_fldB at hB
    dsimp only at hB
    split at hB
    · rename_i C T N hcl
      rw [Bool.and_eq_true, Bool.and_eq_true, Bool.and_eq_true] at hB
      obtain ⟨b1, b2, b3, b4⟩ := hB
      obtain ⟨g1, g2, g3⟩ := tb_cl_ok _ _ hcl
      refine ⟨C, T, N, hcl, of_decide_eq_true b1, tb_cl_wd hcl, g2, g3, fun e => ?_, fun e => ?_, of_decide_eq_true b3, of_decide_eq_true b4⟩
      · rw [if_pos e] at b2
        exact tb_wd_of (tb_at_mem b2) rfl
      · have e : kd1 % 2 = 1 := e
        rw [if_neg (show ¬ kd1 % 2 = 0 by omega)] at b2
        exact ⟨_, tb_ne_of (tb_at_mem b2) rfl⟩
    · cases hB
  · cases h
-- new
theorem tb_new_ok {o k ci : Nat} {C : String} {T : u_T} {N : Nat} (h : tb_new o k = some ci) (hcl : tb_cl[ci]? = some (C, T, N)) : (∀ w ∈ u_ws C T N, w ∈ tb_wd) ∧ (∀ k, k < N → parseFieldDescriptor (T k).2.2.1 = some (tb_ty ci k)) ∧ Cond.classLink (tb_own o) k C ∈ tb_wd ∧ Cond.instantiable C N ∈ tb_wd ∧ Cond.initialized C ∈ tb_wd := by
  unfold tb_new at h
  split at h
  · rename_i q hq
    obtain ⟨c1, i1, i2, i3⟩ := q
    cases h
    have hB := tb_all_ok tb_newB_all hq
    rw [Nat.zero_add] at hB
    unfold tb_newB at hB
    dsimp only at hB
    rw [hcl] at hB
    dsimp only at hB
    rw [Bool.and_eq_true, Bool.and_eq_true] at hB
    obtain ⟨b1, b2, b3⟩ := hB
    exact ⟨tb_cl_wd hcl, (tb_cl_ok _ _ hcl).2.1, tb_wd_of (tb_at_mem b1) rfl, tb_wd_of (tb_at_mem b2) rfl, tb_wd_of (tb_at_mem b3) rfl⟩
  · cases h
theorem tb_anw_ok {o k : Nat} {C : String} (h : tb_anw o k = some C) : Cond.classLink (tb_own o) k C ∈ tb_wd ∧ C ∈ tb_aos ∧ FieldType.object C ∈ tb_ats := by
  unfold tb_anw at h
  split at h
  · rename_i q hq
    obtain ⟨c1, i1⟩ := q
    cases h
    have hB := tb_all_ok tb_anwB_all hq
    rw [Nat.zero_add] at hB
    unfold tb_anwB at hB
    dsimp only at hB
    rw [Bool.and_eq_true, Bool.and_eq_true] at hB
    obtain ⟨b1, b2, b3⟩ := hB
    exact ⟨tb_wd_of (tb_at_mem b1) rfl, of_decide_eq_true b3, of_decide_eq_true b2⟩
  · cases h
-- constants
theorem tb_cst_int {o k : Nat} {x : Int32} (h : tb_cst o k = some (.int x)) : Cond.constant (tb_own o) k x ∈ tb_wd := by
  unfold tb_cst at h
  split at h
  · rename_i q hq
    obtain ⟨c1, i1⟩ := q
    cases h
    have hB := tb_all_ok tb_cstB_all hq
    rw [Nat.zero_add] at hB
    exact tb_wd_of (tb_at_mem hB) rfl
  · cases h
theorem tb_cst_long {o k : Nat} {x : Int64} (h : tb_cst o k = some (.long x)) : Cond.constantLong (tb_own o) k x ∈ tb_wd := by
  unfold tb_cst at h
  split at h
  · rename_i q hq
    obtain ⟨c1, i1⟩ := q
    cases h
    have hB := tb_all_ok tb_cstB_all hq
    rw [Nat.zero_add] at hB
    exact tb_wd_of (tb_at_mem hB) rfl
  · cases h
theorem tb_cst_ref {o k r : Nat} (h : tb_cst o k = some (.ref r)) : r = 1 ∧ tb_own o = tb_litO ∧ k = tb_litK := by
  unfold tb_cst at h
  split at h
  · rename_i q hq
    obtain ⟨c1, i1⟩ := q
    cases h
    have hB := tb_all_ok tb_cstB_all hq
    rw [Nat.zero_add] at hB
    exact of_decide_eq_true hB
  · cases h
-- statics, the literal's fields
theorem tb_sta_ok {o k z : Nat} (h : tb_sta o k = some z) : (z = 0 ∧ Cond.fieldLink (tb_own o) k "java/lang/String" "COMPACT_STRINGS" "Z" ∈ tb_wd) ∨ (z = 1 ∧ Cond.fieldLink (tb_own o) k "jdk/internal/util/Preconditions" "SIOOBE_FORMATTER" "Ljava/util/function/BiFunction;" ∈ tb_wd) ∨ (z = 2 ∧ Cond.fieldLink (tb_own o) k "EventHallModel" "WORDS" "[C" ∈ tb_wd) := by
  unfold tb_sta at h
  split at h
  · rename_i q hq
    obtain ⟨c1, i1⟩ := q
    cases h
    have hB := tb_all_ok tb_staB_all hq
    rw [Nat.zero_add] at hB
    unfold tb_staB at hB
    split at hB
    · rename_i e; exact Or.inl ⟨e, tb_wd_of (tb_at_mem hB) rfl⟩
    · rename_i e; exact Or.inr (Or.inl ⟨e, tb_wd_of (tb_at_mem hB) rfl⟩)
    · rename_i e; exact Or.inr (Or.inr ⟨e, tb_wd_of (tb_at_mem hB) rfl⟩)
    · cases hB
  · cases h
theorem tb_lf_ok {o k : Nat} {v : Value} (h : tb_lf o k = some v) : (v = .ref 2 ∧ Cond.fieldLink (tb_own o) k "java/lang/String" "value" "[B" ∈ tb_wd) ∨ (v = .int 0 ∧ Cond.fieldLink (tb_own o) k "java/lang/String" "coder" "B" ∈ tb_wd) := by
  unfold tb_lf at h
  split at h
  · rename_i q hq
    obtain ⟨c1, i1⟩ := q
    cases h
    have hB := tb_all_ok tb_lfB_all hq
    rw [Nat.zero_add] at hB
    unfold tb_lfB at hB
    dsimp only at hB
    split at hB
    · rw [Bool.and_eq_true] at hB
      exact Or.inl ⟨by rw [of_decide_eq_true hB.1], tb_wd_of (tb_at_mem hB.2) rfl⟩
    · rw [Bool.and_eq_true] at hB
      exact Or.inr ⟨by rw [of_decide_eq_true hB.1], tb_wd_of (tb_at_mem hB.2) rfl⟩
    · cases hB
  · cases h
-- calls
theorem tb_cal_row {o k mj kd ci : Nat} (h : tb_cal o k = some (mj, kd, ci)) : ∃ ix : Nat, tb_calB o (k, mj, kd, ci, ix) = true := by
  unfold tb_cal at h
  split at h
  · rename_i q hq
    obtain ⟨c1, j1, kd1, ix⟩ := q
    cases h
    have hB := tb_all_ok tb_calB_all hq
    rw [Nat.zero_add] at hB
    exact ⟨ix, hB⟩
  · cases h
theorem tb_cal_10 {o k a b : Nat} (h : tb_cal o k = some (a, 10, b)) : Cond.methodLink (tb_own o) k Lib.objectInit ∈ tb_wd ∧ Cond.instanceMethod Lib.objectInit ∈ tb_wd ∧ Cond.code Lib.objectInit ⟨#[0xb1]⟩ 1 none ∈ tb_wd := by
  obtain ⟨ix, hB⟩ := tb_cal_row h
  exact ⟨tb_wd_of (tb_at_mem hB) rfl, tb_wd_of tb_x10.1 rfl, tb_wd_of tb_x10.2 rfl⟩
theorem tb_cal_11 {o k a b : Nat} (h : tb_cal o k = some (a, 11, b)) : Cond.methodLink (tb_own o) k Lib.Math.max.name ∈ tb_wd ∧ Cond.static Lib.Math.max.name ∈ tb_wd ∧ Cond.initialized "java/lang/Math" ∈ tb_wd ∧ Cond.code Lib.Math.max.name Lib.Math.max.code 2 (some .int) ∈ tb_wd := by
  obtain ⟨ix, hB⟩ := tb_cal_row h
  exact ⟨tb_wd_of (tb_at_mem hB) rfl, tb_wd_of tb_x11.1 rfl, tb_wd_of tb_x11.2.1 rfl, tb_wd_of tb_x11.2.2 rfl⟩
theorem tb_cal_12 {o k a b : Nat} (h : tb_cal o k = some (a, 12, b)) : Cond.methodLink (tb_own o) k Lib.Math.min.name ∈ tb_wd ∧ Cond.static Lib.Math.min.name ∈ tb_wd ∧ Cond.initialized "java/lang/Math" ∈ tb_wd ∧ Cond.code Lib.Math.min.name Lib.Math.min.code 2 (some .int) ∈ tb_wd := by
  obtain ⟨ix, hB⟩ := tb_cal_row h
  exact ⟨tb_wd_of (tb_at_mem hB) rfl, tb_wd_of tb_x12.1 rfl, tb_wd_of tb_x12.2.1 rfl, tb_wd_of tb_x12.2.2 rfl⟩
theorem tb_cal_ok {o k mj kd ci : Nat} {M : tb_M} (h : tb_cal o k = some (mj, kd, ci)) (hk : kd < 6) (hM : tb_m mj = some M) :
    plainName M.2.1.cls = true ∧ M.2.1.cls = tb_own M.1 ∧ Cond.code M.2.1 M.2.2.2.1 M.2.2.2.2.1 M.2.2.2.2.2 ∈ tb_wd ∧ Cond.initialized M.2.1.cls ∈ tb_wd ∧ (M.2.1.cls ≠ "java/lang/invoke/MethodHandle" ∧ M.2.1.cls ≠ "java/lang/invoke/VarHandle") ∧ (parseMethodDescriptor M.2.1.desc).map (fun d => d.parameters.length) = some M.2.2.1 ∧ 8 + (M.2.2.2.2.1 + 11) ≤ tb_LK ∧
    (kd < 3 → Cond.methodLink (tb_own o) k M.2.1 ∈ tb_wd) ∧ (3 ≤ kd → ∃ host : String, Cond.methodLinkNest (tb_own o) k M.2.1 host ∈ tb_ne) ∧ (kd = 0 ∨ kd = 3 → ∃ C : String, tb_cn ci = some C ∧ Cond.instanceMethod M.2.1 ∈ tb_wd ∧ Cond.selects C M.2.1 M.2.1 ∈ tb_wd) ∧ (kd = 1 ∨ kd = 4 → Cond.static M.2.1 ∈ tb_wd) ∧ (kd = 2 ∨ kd = 5 → M.2.1.name = "<init>" ∧ Cond.instanceMethod M.2.1 ∈ tb_wd ∧ M.2.2.2.2.2 = none) := by
  obtain ⟨ix, hB⟩ := tb_cal_row h
  unfold tb_calB at hB
  dsimp only at hB
  rw [if_pos hk] at hB
  have hM' : tb_mL[mj]? = some M := hM
  rw [hM'] at hB
  split at hB
  · rename_i M1 x e1 hx
    cases e1
    rw [Bool.and_eq_true, Bool.and_eq_true, Bool.and_eq_true] at hB
    obtain ⟨m0, m1, m2, m3⟩ := hB
    have m0 := tb_mB_ok hM' hx (of_decide_eq_true m0)
    unfold tb_mB2 at m0
    simp only [Bool.and_eq_true] at m0
    obtain ⟨⟨⟨p1, p2, p3, p4⟩, ⟨p5, p6⟩, p7⟩, p8⟩ := m0
    have m1 := of_decide_eq_true m1
    have m3 := of_decide_eq_true m3
    refine ⟨p1, of_decide_eq_true p2, tb_wd_of (tb_atc_mem p3) rfl, tb_wd_of (tb_at_mem p4) rfl, of_decide_eq_true p5, of_decide_eq_true p6, of_decide_eq_true p7, fun e => ?_, fun e => ?_, fun e => ?_, fun e => ?_, fun e => ?_⟩
    · rw [if_pos e] at m2
      exact tb_wd_of (tb_at_mem m2) rfl
    · rw [if_neg (by omega)] at m2
      exact ⟨_, tb_ne_of (tb_at_mem m2) rfl⟩
    · rw [show x.1 = 0 by omega] at p8
      have p8 : (tb_at x.2.2.2.1 (.instanceMethod M.2.1) && tb_at x.2.2.2.2 (.selects M.2.1.cls M.2.1 M.2.1)) = true := p8
      rw [Bool.and_eq_true] at p8
      exact ⟨_, m3 (by omega), tb_wd_of (tb_at_mem p8.1) rfl, tb_wd_of (tb_at_mem p8.2) rfl⟩
    · rw [show x.1 = 1 by omega] at p8
      exact tb_wd_of (tb_at_mem p8) rfl
    · rw [show x.1 = 2 by omega] at p8
      have p8 : (tb_at x.2.2.2.1 (.instanceMethod M.2.1) && (decide (M.2.1.name = "<init>") && decide (M.2.2.2.2.2 = none))) = true := p8
      rw [Bool.and_eq_true, Bool.and_eq_true] at p8
      exact ⟨of_decide_eq_true p8.2.1, tb_wd_of (tb_at_mem p8.1) rfl, of_decide_eq_true p8.2.2⟩
  · cases hB
