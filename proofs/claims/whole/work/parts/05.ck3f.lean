/-! A method's own words; its bytes are compared in one pass. -/
def tb_bl : List UInt8 → List UInt8 → Bool
  | [], [] => true
  | x :: r, y :: q => Nat.beq x.toNat y.toNat && tb_bl r q
  | _, _ => false
theorem tb_bl_ok : ∀ {l m : List UInt8}, tb_bl l m = true → l = m
  | [], [], _ => rfl
  | x :: r, y :: q, h => by
    unfold tb_bl at h
    rw [Bool.and_eq_true] at h
    rw [UInt8.toNat_inj.mp (Nat.eq_of_beq_eq_true h.1), tb_bl_ok h.2]
  | [], _ :: _, h => by cases h
  | _ :: _, [], h => by cases h
def tb_be (a b : ByteArray) : Bool := tb_bl a.data.toList b.data.toList
theorem tb_be_ok {a b : ByteArray} (h : tb_be a b = true) : a = b := by
  have e := tb_bl_ok h
  cases a with
  | mk da => cases b with
    | mk db =>
      have : da = db := Array.toList_inj.mp e
      rw [this]
def tb_atc (ix : Nat) (M : tb_M) : Bool := match lw_tbl[ix]? with
  | some (.code y b ml r) => decide (y = M.2.1) && (tb_be b M.2.2.2.1 && (decide (ml = M.2.2.2.2.1) && decide (r = M.2.2.2.2.2)))
  | _ => false
theorem tb_atc_mem {ix : Nat} {M : tb_M} (h : tb_atc ix M = true) : Cond.code M.2.1 M.2.2.2.1 M.2.2.2.2.1 M.2.2.2.2.2 ∈ lw_tbl := by
  unfold tb_atc at h
  split at h
  · rename_i y b ml r e
    rw [Bool.and_eq_true, Bool.and_eq_true, Bool.and_eq_true] at h
    obtain ⟨a1, a2, a3, a4⟩ := h
    rw [← of_decide_eq_true a1, ← tb_be_ok a2, ← of_decide_eq_true a3, ← of_decide_eq_true a4]
    exact List.mem_of_getElem? e
  · cases h
def tb_mB2 (M : tb_M) (x : Nat × Nat × Nat × Nat × Nat) : Bool :=
  (plainName M.2.1.cls && (decide (M.2.1.cls = tb_own M.1) && (tb_atc x.2.1 M && tb_at x.2.2.1 (.initialized M.2.1.cls)))) &&
  ((decide (M.2.1.cls ≠ "java/lang/invoke/MethodHandle" ∧ M.2.1.cls ≠ "java/lang/invoke/VarHandle") && decide ((parseMethodDescriptor M.2.1.desc).map (fun d => d.parameters.length) = some M.2.2.1)) && decide (8 + (M.2.2.2.2.1 + 11) ≤ tb_LK)) &&
  (match x.1 with
    | 0 => tb_at x.2.2.2.1 (.instanceMethod M.2.1) && tb_at x.2.2.2.2 (.selects M.2.1.cls M.2.1 M.2.1)
    | 1 => tb_at x.2.2.2.1 (.static M.2.1)
    | 2 => tb_at x.2.2.2.1 (.instanceMethod M.2.1) && (decide (M.2.1.name = "<init>") && decide (M.2.2.2.2.2 = none))
    | _ => false)
def tb_mBq2 (q : tb_M × (Nat × Nat × Nat × Nat × Nat)) : Bool := tb_mB2 q.1 q.2
