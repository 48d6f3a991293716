/-! THE TABLES AS FUNCTIONS, and the checks that the kernel runs over their rows. -/
def am_isw (i : Instr) : Bool := match i with
  | .tableswitch _ _ _ _ => true
  | .lookupswitch _ _ => true
  | _ => false
def am_len (i : Instr) : Nat := match i with
  | .aload _ => 2
  | .iload _ => 2
  | .lload _ => 2
  | .astore _ => 2
  | .istore _ => 2
  | .lstore _ => 2
  | .bipush _ => 2
  | .ldc _ => 2
  | .newarray _ => 2
  | .sipush _ => 3
  | .ldc_w _ => 3
  | .ldc2_w _ => 3
  | .getstatic _ => 3
  | .iinc _ _ => 3
  | .goto _ => 3
  | .ifCond _ _ => 3
  | .if_icmp _ _ => 3
  | .if_acmp _ _ => 3
  | .ifnull _ => 3
  | .ifnonnull _ => 3
  | .getfield _ => 3
  | .putfield _ => 3
  | .new _ => 3
  | .anewarray _ => 3
  | .invokevirtual _ => 3
  | .invokestatic _ => 3
  | .invokespecial _ => 3
  | _ => 1
def tb_isg (w : Cond) : Bool := (w.onTables && w.keeps) || (match w with
  | .arrayClass _ => true
  | _ => false)
def tb_isn (w : Cond) : Bool := match w with
  | .fieldLinkNest _ _ _ _ _ _ => true
  | .methodLinkNest _ _ _ _ => true
  | _ => false
def tb_wd : List Cond := lw_tbl.filter tb_isg
def tb_ne : List Cond := lw_tbl.filter tb_isn
def tb_ck (cc : ByteArray) : Nat → List (Option Instr) → Bool
  | _, [] => true
  | p0, none :: r => tb_ck cc (p0 + 1) r
  | p0, some i :: r => (match decode cc p0 with
    | .ok (j, len) => decide (j = i) && (am_isw i || decide (len = am_len i))
    | _ => false) && tb_ck cc (p0 + 1) r
/-- a word at its place -/
def tb_at (ix : Nat) (w : Cond) : Bool := decide (lw_tbl[ix]? = some w)
theorem tb_at_mem {ix : Nat} {w : Cond} (h : tb_at ix w = true) : w ∈ lw_tbl := List.mem_of_getElem? (of_decide_eq_true h)
/-- ci, j, kd, the word's place -/
def tb_fldB (o : Nat) (q : Nat × Nat × Nat × Nat × Nat) : Bool := match tb_cl[q.2.1]? with
  | some (_, T, N) => decide (q.2.2.1 < N) && ((if q.2.2.2.1 % 2 = 0 then tb_at q.2.2.2.2 (.fieldLink (tb_own o) q.1 (T q.2.2.1).1 (T q.2.2.1).2.1 (T q.2.2.1).2.2.1) else tb_at q.2.2.2.2 (.fieldLinkNest (tb_own o) q.1 (T q.2.2.1).1 (T q.2.2.1).2.1 (T q.2.2.1).2.2.1 (tb_hst o))) && (decide ((T q.2.2.1).2.2.2 = decide (2 ≤ q.2.2.2.1)) && decide (q.2.2.2.1 = 2 → (T q.2.2.1).1 = tb_own o)))
  | none => false
/-- a class: its fields' words, their types, names apart -/
def tb_clP (ci : Nat) (q : vw_C) : Prop := (∀ w ∈ u_ws q.1 q.2.1 q.2.2, w ∈ lw_tbl) ∧ (∀ k, k < q.2.2 → parseFieldDescriptor (q.2.1 k).2.2.1 = some (tb_ty ci k)) ∧ (∀ a, a < q.2.2 → ∀ b, b < q.2.2 → a ≠ b → (q.2.1 a).2.1 ≠ (q.2.1 b).2.1)
/-- a method's own words: kind (0 instance, 1 static, 2 constructor), places of code, initialized, instanceMethod or static, selects -/
def tb_mB (M : tb_M) (x : Nat × Nat × Nat × Nat × Nat) : Bool :=
  (plainName M.2.1.cls && (decide (M.2.1.cls = tb_own M.1) && (tb_at x.2.1 (.code M.2.1 M.2.2.2.1 M.2.2.2.2.1 M.2.2.2.2.2) && tb_at x.2.2.1 (.initialized M.2.1.cls)))) &&
  ((decide (M.2.1.cls ≠ "java/lang/invoke/MethodHandle" ∧ M.2.1.cls ≠ "java/lang/invoke/VarHandle") && decide ((parseMethodDescriptor M.2.1.desc).map (fun d => d.parameters.length) = some M.2.2.1)) && decide (8 + (M.2.2.2.2.1 + 11) ≤ tb_LK)) &&
  (match x.1 with
    | 0 => tb_at x.2.2.2.1 (.instanceMethod M.2.1) && tb_at x.2.2.2.2 (.selects M.2.1.cls M.2.1 M.2.1)
    | 1 => tb_at x.2.2.2.1 (.static M.2.1)
    | 2 => tb_at x.2.2.2.1 (.instanceMethod M.2.1) && (decide (M.2.1.name = "<init>") && decide (M.2.2.2.2.2 = none))
    | _ => false)
/-- mj, kd, ci, the link's place -/
def tb_calB (o : Nat) (q : Nat × Nat × Nat × Nat × Nat) : Bool :=
  if q.2.2.1 < 6 then (match tb_mL[q.2.1]?, tb_mX[q.2.1]? with
    | some M, some x => decide (1 ≤ q.2.1) && (decide (x.1 = q.2.2.1 % 3) && ((if q.2.2.1 < 3 then tb_at q.2.2.2.2 (.methodLink (tb_own o) q.1 M.2.1) else tb_at q.2.2.2.2 (.methodLinkNest (tb_own o) q.1 M.2.1 (tb_hst o))) && decide (q.2.2.1 % 3 = 0 → tb_cn q.2.2.2.1 = some M.2.1.cls)))
    | _, _ => false)
  else match q.2.2.1 with
    | 10 => tb_at q.2.2.2.2 (.methodLink (tb_own o) q.1 Lib.objectInit)
    | 11 => tb_at q.2.2.2.2 (.methodLink (tb_own o) q.1 Lib.Math.max.name)
    | 12 => tb_at q.2.2.2.2 (.methodLink (tb_own o) q.1 Lib.Math.min.name)
    | _ => false
/-- class number, the places of classLink, instantiable, initialized -/
def tb_newB (o : Nat) (q : Nat × Nat × Nat × Nat × Nat) : Bool := match tb_cl[q.2.1]? with
  | some (C, _, N) => tb_at q.2.2.1 (.classLink (tb_own o) q.1 C) && (tb_at q.2.2.2.1 (.instantiable C N) && tb_at q.2.2.2.2 (.initialized C))
  | none => false
def tb_anwB (o : Nat) (q : Nat × String × Nat) : Bool := tb_at q.2.2 (.classLink (tb_own o) q.1 q.2.1) && (decide (FieldType.object q.2.1 ∈ tb_ats) && decide (q.2.1 ∈ tb_aos))
def tb_cstB (o : Nat) (q : Nat × Value × Nat) : Bool := match q.2.1 with
  | .int x => tb_at q.2.2 (.constant (tb_own o) q.1 x)
  | .long x => tb_at q.2.2 (.constantLong (tb_own o) q.1 x)
  | .ref r => decide (r = 1 ∧ tb_own o = tb_litO ∧ q.1 = tb_litK)
  | _ => false
def tb_staB (o : Nat) (q : Nat × Nat × Nat) : Bool := match q.2.1 with
  | 0 => tb_at q.2.2 (.fieldLink (tb_own o) q.1 "java/lang/String" "COMPACT_STRINGS" "Z")
  | 1 => tb_at q.2.2 (.fieldLink (tb_own o) q.1 "jdk/internal/util/Preconditions" "SIOOBE_FORMATTER" "Ljava/util/function/BiFunction;")
  | 2 => tb_at q.2.2 (.fieldLink (tb_own o) q.1 "EventHallModel" "WORDS" "[C")
  | _ => false
def tb_lfB (o : Nat) (q : Nat × Value × Nat) : Bool := match q.2.1 with
  | .ref r => decide (r = 2) && tb_at q.2.2 (.fieldLink (tb_own o) q.1 "java/lang/String" "value" "[B")
  | .int x => decide (x = 0) && tb_at q.2.2 (.fieldLink (tb_own o) q.1 "java/lang/String" "coder" "B")
  | _ => false
/-- rows of rows: number o first -/
def tb_all {α : Type} (P : Nat → Nat × α → Bool) : Nat → List (List (Nat × α)) → Bool
  | _, [] => true
  | o, l :: r => l.all (P o) && tb_all P (o + 1) r
/-- a method's instructions are its bytes -/
def tb_ckq (q : tb_M × List (Option Instr)) : Bool := tb_ck q.1.2.2.2.1 0 q.2
def tb_mBq (q : tb_M × (Nat × Nat × Nat × Nat × Nat)) : Bool := tb_mB q.1 q.2
