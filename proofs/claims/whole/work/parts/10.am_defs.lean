/-! AN ABSTRACT MACHINE over places instead of addresses: cells are numbered as they are made (refs below am_K stand outside: the script, literals). Pure and total. Part 11 and on: what it computes, the machine itself does. -/
abbrev am_C : Type := (FieldType × vp_A) ⊕ (Nat × List Value)
/-- the next place, how many slots were made, the cells -/
abbrev am_H : Type := Nat × Nat × (Nat → am_C)
abbrev am_L : Type := List (Nat × Value)
abbrev am_F : Type := Nat × am_L × List Value
def am_v (ad : Nat → Nat) (v : Value) : Value := match v with
  | .ref r => .ref (ad r)
  | w => w
-- stack alone
def am_ii (f : Int32 → Int32 → Int32) (S : List Value) : Option (List Value) := match S with
  | .int y :: .int x :: r => some (.int (f x y) :: r)
  | _ => none
def am_iz (f : Int32 → Int32 → Int32) (S : List Value) : Option (List Value) := match S with
  | .int y :: .int x :: r => if y = 0 then none else some (.int (f x y) :: r)
  | _ => none
def am_i1 (f : Int32 → Int32) (S : List Value) : Option (List Value) := match S with
  | .int x :: r => some (.int (f x) :: r)
  | _ => none
def am_ll (f : Int64 → Int64 → Int64) (S : List Value) : Option (List Value) := match S with
  | .long y :: .long x :: r => some (.long (f x y) :: r)
  | _ => none
def am_lz (f : Int64 → Int64 → Int64) (S : List Value) : Option (List Value) := match S with
  | .long y :: .long x :: r => if y = 0 then none else some (.long (f x y) :: r)
  | _ => none
def am_l1 (f : Int64 → Int64) (S : List Value) : Option (List Value) := match S with
  | .long x :: r => some (.long (f x) :: r)
  | _ => none
def am_li (f : Int64 → Int32 → Int64) (S : List Value) : Option (List Value) := match S with
  | .int y :: .long x :: r => some (.long (f x y) :: r)
  | _ => none
def am_lc (S : List Value) : Option (List Value) := match S with
  | .long y :: .long x :: r => some (.int (lg_cmp x y) :: r)
  | _ => none
def am_i2l (S : List Value) : Option (List Value) := match S with
  | .int x :: r => some (.long x.toInt64 :: r)
  | _ => none
def am_l2i (S : List Value) : Option (List Value) := match S with
  | .long x :: r => some (.int x.toInt32 :: r)
  | _ => none
def am_dup (S : List Value) : Option (List Value) := match S with
  | v :: r => if v.category = 1 then some (v :: v :: r) else none
  | _ => none
def am_pop (S : List Value) : Option (List Value) := match S with
  | v :: r => if v.category = 1 then some r else none
  | _ => none
def am_pop2 (S : List Value) : Option (List Value) := match S with
  | v :: r => if v.category = 2 then some r else none
  | _ => none
def am_dx1 (S : List Value) : Option (List Value) := match S with
  | v :: w :: r => if v.category = 1 ∧ w.category = 1 then some (v :: w :: v :: r) else none
  | _ => none
def am_dx2 (S : List Value) : Option (List Value) := match S with
  | v :: w :: z :: r => if v.category = 1 ∧ w.category = 1 ∧ z.category = 1 then some (v :: w :: z :: v :: r) else none
  | _ => none
def am_du2 (S : List Value) : Option (List Value) := match S with
  | v :: w :: r => if v.category = 1 ∧ w.category = 1 then some (v :: w :: v :: w :: r) else none
  | _ => none
def am_d2x1 (S : List Value) : Option (List Value) := match S with
  | v :: w :: r => if v.category = 2 ∧ w.category = 1 then some (v :: w :: v :: r) else none
  | _ => none
def am_alu (i : Instr) (S : List Value) : Option (List Value) := match i with
  | .aconst_null => some (.null :: S)
  | .iconst n => some (.int (Int32.ofInt n) :: S)
  | .bipush n => some (.int (Int8.ofInt n).toInt32 :: S)
  | .sipush n => some (.int (Int16.ofInt n).toInt32 :: S)
  | .lconst n => some (.long (Int64.ofNat (n : Nat)) :: S)
  | .iadd => am_ii (fun x y => x + y) S
  | .isub => am_ii (fun x y => x - y) S
  | .imul => am_ii (fun x y => x * y) S
  | .iand => am_ii (fun x y => x &&& y) S
  | .ior => am_ii (fun x y => x ||| y) S
  | .ixor => am_ii (fun x y => x ^^^ y) S
  | .ishl => am_ii (fun x y => x <<< (y &&& 31)) S
  | .ishr => am_ii (fun x y => x >>> (y &&& 31)) S
  | .iushr => am_ii (fun x y => (x.toUInt32 >>> (y.toUInt32 &&& Int32.toUInt32 31)).toInt32) S
  | .idiv => am_iz (fun x y => x / y) S
  | .irem => am_iz (fun x y => x - x / y * y) S
  | .ineg => am_i1 (fun x => -x) S
  | .i2b => am_i1 (fun x => x.toInt8.toInt32) S
  | .i2c => am_i1 (fun x => (x.toUInt32 % 65536).toInt32) S
  | .i2s => am_i1 (fun x => x.toInt16.toInt32) S
  | .ladd => am_ll (fun x y => x + y) S
  | .lsub => am_ll (fun x y => x - y) S
  | .lmul => am_ll (fun x y => x * y) S
  | .land => am_ll (fun x y => x &&& y) S
  | .lor => am_ll (fun x y => x ||| y) S
  | .lxor => am_ll (fun x y => x ^^^ y) S
  | .ldiv => am_lz (fun x y => x / y) S
  | .lrem => am_lz (fun x y => x - x / y * y) S
  | .lneg => am_l1 (fun x => -x) S
  | .lshl => am_li (fun x y => x <<< (y.toInt64 &&& 63)) S
  | .lshr => am_li (fun x y => x >>> (y.toInt64 &&& 63)) S
  | .lushr => am_li (fun x y => (x.toUInt64 >>> (y.toInt64.toUInt64 &&& Int64.toUInt64 63)).toInt64) S
  | .lcmp => am_lc S
  | .i2l => am_i2l S
  | .l2i => am_l2i S
  | .dup => am_dup S
  | .pop => am_pop S
  | .pop2 => am_pop2 S
  | .dup_x1 => am_dx1 S
  | .dup_x2 => am_dx2 S
  | .dup2 => am_du2 S
  | .dup2_x1 => am_d2x1 S
  | _ => none
-- locals
def am_lk : am_L → Nat → Option Value
  | [], _ => none
  | q :: r, i => if q.1 = i then some q.2 else am_lk r i
def am_st (L : am_L) (i : Nat) (v : Value) : am_L := (i, v) :: L.filter (fun q => !(q.1 == i) && !(q.1 + 1 == i && q.2.category == 2))
def am_st2 (L : am_L) (i : Nat) (v : Value) : am_L := (i, v) :: L.filter (fun q => !(q.1 == i) && (!(q.1 == i + 1) && !(q.1 + 1 == i && q.2.category == 2)))
def am_ldi (L : am_L) (i : Nat) (S : List Value) : Option (am_L × List Value) := match am_lk L i with
  | some (.int x) => some (L, .int x :: S)
  | _ => none
def am_ldl (L : am_L) (i : Nat) (S : List Value) : Option (am_L × List Value) := match am_lk L i with
  | some (.long x) => some (L, .long x :: S)
  | _ => none
def am_lda (L : am_L) (i : Nat) (S : List Value) : Option (am_L × List Value) := match am_lk L i with
  | some (.ref x) => some (L, .ref x :: S)
  | some .null => some (L, .null :: S)
  | _ => none
def am_sti (n : Nat) (L : am_L) (i : Nat) (S : List Value) : Option (am_L × List Value) := match S with
  | .int x :: r => if i < n then some (am_st L i (.int x), r) else none
  | _ => none
def am_stl (n : Nat) (L : am_L) (i : Nat) (S : List Value) : Option (am_L × List Value) := match S with
  | .long x :: r => if i + 1 < n then some (am_st2 L i (.long x), r) else none
  | _ => none
def am_sta (n : Nat) (L : am_L) (i : Nat) (S : List Value) : Option (am_L × List Value) := match S with
  | .ref x :: r => if i < n then some (am_st L i (.ref x), r) else none
  | .null :: r => if i < n then some (am_st L i .null, r) else none
  | _ => none
def am_inc (n : Nat) (L : am_L) (i : Nat) (k : Int) (S : List Value) : Option (am_L × List Value) := match am_lk L i with
  | some (.int x) => if i < n then some (am_st L i (.int (x + Int32.ofInt k)), S) else none
  | _ => none
def am_loc (n : Nat) (i : Instr) (L : am_L) (S : List Value) : Option (am_L × List Value) := match i with
  | .iload j => am_ldi L j S
  | .iload_n j => am_ldi L (j : Nat) S
  | .lload j => am_ldl L j S
  | .lload_n j => am_ldl L (j : Nat) S
  | .aload j => am_lda L j S
  | .aload_n j => am_lda L (j : Nat) S
  | .istore j => am_sti n L j S
  | .istore_n j => am_sti n L (j : Nat) S
  | .lstore j => am_stl n L j S
  | .lstore_n j => am_stl n L (j : Nat) S
  | .astore j => am_sta n L j S
  | .astore_n j => am_sta n L (j : Nat) S
  | .iinc j k => am_inc n L j k S
  | _ => none
-- jumps
def am_to (pc : Nat) (off : Int) (S : List Value) : Option (Nat × List Value) := if 0 ≤ (pc : Int) + off then some (((pc : Int) + off).toNat, S) else none
def am_cnd (c : Jvm.ClassFile.Cond) (x y : Int32) : Bool := match c with
  | .eq => decide (x = y)
  | .ne => decide (¬ x = y)
  | .lt => decide (x < y)
  | .ge => decide (y ≤ x)
  | .gt => decide (y < x)
  | .le => decide (x ≤ y)
def am_acn (c : ACond) (x y : Option Nat) : Bool := match c with
  | .eq => decide (x = y)
  | .ne => decide (¬ x = y)
/-- a reference as a place or none -/
def am_rq (v : Value) : Option (Option Nat) := match v with
  | .null => some none
  | .ref r => if am_K ≤ r then some (some r) else none
  | _ => none
def am_br (pc : Nat) (off : Int) (b : Bool) (S : List Value) : Option (Nat × List Value) := if 0 ≤ (pc : Int) + off then some (if b = true then ((pc : Int) + off).toNat else pc + 3, S) else none
def am_jz (pc : Nat) (c : Jvm.ClassFile.Cond) (off : Int) (S : List Value) : Option (Nat × List Value) := match S with
  | .int x :: r => am_br pc off (am_cnd c x 0) r
  | _ => none
def am_jc (pc : Nat) (c : Jvm.ClassFile.Cond) (off : Int) (S : List Value) : Option (Nat × List Value) := match S with
  | .int y :: .int x :: r => am_br pc off (am_cnd c x y) r
  | _ => none
def am_jn (pc : Nat) (off : Int) (S : List Value) : Option (Nat × List Value) := match S with
  | .null :: r => am_to pc off r
  | .ref _ :: r => some (pc + 3, r)
  | _ => none
def am_jq (pc : Nat) (off : Int) (S : List Value) : Option (Nat × List Value) := match S with
  | .null :: r => some (pc + 3, r)
  | .ref _ :: r => am_to pc off r
  | _ => none
def am_ja (pc : Nat) (c : ACond) (off : Int) (S : List Value) : Option (Nat × List Value) := match S with
  | y :: x :: r => match am_rq x, am_rq y with
    | some rx, some ry => am_br pc off (am_acn c rx ry) r
    | _, _ => none
  | _ => none
def am_jt (pc : Nat) (d lo hi : Int) (offs : Array Int) (S : List Value) : Option (Nat × List Value) := match S with
  | .int x :: r => if x.toInt < lo ∨ hi < x.toInt then am_to pc d r else match offs[(x.toInt - lo).toNat]? with
    | some o => am_to pc o r
    | none => none
  | _ => none
def am_jl (pc : Nat) (d : Int) (ps : Array (Int × Int)) (S : List Value) : Option (Nat × List Value) := match S with
  | .int x :: r => if (ps.toList.zip (ps.toList.drop 1)).all (fun (a, next) => a.1 < next.1) = true then am_to pc (Op.lookupswitch.offset ps.toList d x.toInt) r else none
  | _ => none
def am_jmp (pc : Nat) (i : Instr) (S : List Value) : Option (Nat × List Value) := match i with
  | .goto off => am_to pc off S
  | .ifCond c off => am_jz pc c off S
  | .if_icmp c off => am_jc pc c off S
  | .ifnull off => am_jn pc off S
  | .ifnonnull off => am_jq pc off S
  | .if_acmp c off => am_ja pc c off S
  | .tableswitch d lo hi offs => am_jt pc d lo hi offs S
  | .lookupswitch d ps => am_jl pc d ps S
  | _ => none
-- cells
def am_at (h : am_H) (r : Nat) : Option am_C := if am_K ≤ r ∧ r < h.1 then some (h.2.2 r) else none
def am_up (h : am_H) (r : Nat) (x : am_C) : am_H := (h.1, h.2.1, fun j => if j = r then x else h.2.2 j)
def am_push (h : am_H) (x : am_C) (n : Nat) : am_H := (h.1 + 1, h.2.1 + n, fun j => if j = h.1 then x else h.2.2 j)
def am_fit (ty : FieldType) (v : Value) : Bool := match ty, v with
  | .int, .int _ => true
  | .long, .long _ => true
  | .boolean, .int x => x == 0 || x == 1
  | .object _, .ref _ => true
  | .object _, .null => true
  | .array _, .ref _ => true
  | .array _, .null => true
  | _, _ => false
def am_idx (j : Int32) (n : Nat) : Bool := decide (¬ (j < 0 ∨ n ≤ j.toNatClampNeg))
def am_getf (o k : Nat) (S : List Value) (h : am_H) : Option (List Value × am_H) := match S with
  | .ref r :: q => if r = 1 then (match tb_lf o k with
      | some v => some (v :: q, h)
      | none => none)
    else match tb_fld o k, am_at h r with
    | some (ci, j, _), some (.inr (c, fs)) => if c = ci then match fs[j]? with
      | some v => some (v :: q, h)
      | none => none
      else none
    | _, _ => none
  | _ => none
/-- statics: 0 COMPACT_STRINGS, 1 a formatter (null or not: cell 4 says which), 2 the reference's words -/
def am_gets (o k : Nat) (S : List Value) (h : am_H) : Option (List Value × am_H) := match tb_sta o k with
  | some 0 => some (.int 1 :: S, h)
  | some 1 => match h.2.2 4 with
    | .inr (0, _) => some (.null :: S, h)
    | .inr (1, _) => some (.ref 4 :: S, h)
    | _ => none
  | some 2 => some (.ref 3 :: S, h)
  | _ => none
def am_putf (ini : Bool) (o k : Nat) (S : List Value) (h : am_H) : Option (List Value × am_H) := match S with
  | v :: .ref r :: q => match tb_fld o k, am_at h r with
    | some (ci, j, kd), some (.inr (c, fs)) => if c = ci ∧ j < fs.length ∧ am_fit (tb_ty ci j) v = true ∧ kd < 3 ∧ (kd = 2 → ini = true) then some (q, am_up h r (.inr (c, fs.set j v))) else none
    | _, _ => none
  | _ => none
/-- arrays that stand outside may be read too -/
def am_rd (h : am_H) (r : Nat) : Option am_C := if r = 0 ∨ r = 2 ∨ r = 3 then some (h.2.2 r) else am_at h r
def am_iald (S : List Value) (h : am_H) : Option (List Value × am_H) := match S with
  | .int j :: .ref r :: q => match am_rd h r with
    | some (.inl (.int, n, .inl f)) => if am_idx j n = true then some (.int (f j.toNatClampNeg) :: q, h) else none
    | _ => none
  | _ => none
def am_bald (S : List Value) (h : am_H) : Option (List Value × am_H) := match S with
  | .int j :: .ref r :: q => match am_rd h r with
    | some (.inl (.byte, n, .inl f)) => if am_idx j n = true then some (.int (f j.toNatClampNeg) :: q, h) else none
    | some (.inl (.boolean, n, .inl f)) => if am_idx j n = true then some (.int (f j.toNatClampNeg) :: q, h) else none
    | _ => none
  | _ => none
def am_cald (S : List Value) (h : am_H) : Option (List Value × am_H) := match S with
  | .int j :: .ref r :: q => if r = 3 then match h.2.2 3 with
    | .inl (.char, n, .inl f) => if am_idx j n = true then some (.int (f j.toNatClampNeg) :: q, h) else none
    | _ => none
    else none
  | _ => none
def am_lald (S : List Value) (h : am_H) : Option (List Value × am_H) := match S with
  | .int j :: .ref r :: q => match am_at h r with
    | some (.inl (.long, n, .inr (.inl f))) => if am_idx j n = true then some (.long (f j.toNatClampNeg) :: q, h) else none
    | _ => none
  | _ => none
def am_aald (S : List Value) (h : am_H) : Option (List Value × am_H) := match S with
  | .int j :: .ref r :: q => match am_at h r with
    | some (.inl (.object C, n, .inr (.inr (.inr (.inr f))))) => if am_idx j n = true ∧ FieldType.object C ∈ tb_ats then some (va_rf (f j.toNatClampNeg) :: q, h) else none
    | _ => none
  | _ => none
def am_alen (S : List Value) (h : am_H) : Option (List Value × am_H) := match S with
  | .ref r :: q => match am_rd h r with
    | some (.inl (ty, n, _)) => if ty ∈ tb_ats ∨ r = 3 then some (.int (Int32.ofNat n) :: q, h) else none
    | _ => none
  | _ => none
def am_iast (S : List Value) (h : am_H) : Option (List Value × am_H) := match S with
  | .int x :: .int j :: .ref r :: q => match am_at h r with
    | some (.inl (.int, n, .inl f)) => if am_idx j n = true then some (q, am_up h r (.inl (.int, n, .inl (upd f j.toNatClampNeg x)))) else none
    | _ => none
  | _ => none
def am_bast (S : List Value) (h : am_H) : Option (List Value × am_H) := match S with
  | .int x :: .int j :: .ref r :: q => match am_at h r with
    | some (.inl (.byte, n, .inl f)) => if am_idx j n = true then some (q, am_up h r (.inl (.byte, n, .inl (upd f j.toNatClampNeg (vp_nar .byte x))))) else none
    | some (.inl (.boolean, n, .inl f)) => if am_idx j n = true then some (q, am_up h r (.inl (.boolean, n, .inl (upd f j.toNatClampNeg (vp_nar .boolean x))))) else none
    | _ => none
  | _ => none
def am_last (S : List Value) (h : am_H) : Option (List Value × am_H) := match S with
  | .long x :: .int j :: .ref r :: q => match am_at h r with
    | some (.inl (.long, n, .inr (.inl f))) => if am_idx j n = true then some (q, am_up h r (.inl (.long, n, .inr (.inl (vp_updL f j.toNatClampNeg x))))) else none
    | _ => none
  | _ => none
/-- a reference may be stored: null, or an object of the array's own class -/
def am_may (C : String) (h : am_H) (v : Value) : Option (Option Nat) := match v with
  | .null => some none
  | .ref y => match am_at h y with
    | some (.inr (c, _)) => match tb_cl[c]? with
      | some q => if q.1 = C then some (some y) else none
      | none => none
    | _ => none
  | _ => none
def am_aast (S : List Value) (h : am_H) : Option (List Value × am_H) := match S with
  | v :: .int j :: .ref r :: q => match am_at h r with
    | some (.inl (.object C, n, .inr (.inr (.inr (.inr f))))) => match am_may C h v with
      | some y => if am_idx j n = true ∧ FieldType.object C ∈ tb_ats then some (q, am_up h r (.inl (.object C, n, .inr (.inr (.inr (.inr (va_up f j.toNatClampNeg y))))))) else none
      | none => none
    | _ => none
  | _ => none
def am_zero (t : ArrayType) (n : Nat) : Option am_C := match t with
  | .int => some (.inl (.int, n, .inl (fun _ => 0)))
  | .byte => some (.inl (.byte, n, .inl (fun _ => 0)))
  | .boolean => some (.inl (.boolean, n, .inl (fun _ => 0)))
  | .long => some (.inl (.long, n, .inr (.inl (fun _ => 0))))
  | _ => none
def am_newa (t : ArrayType) (S : List Value) (h : am_H) : Option (List Value × am_H) := match S with
  | .int n :: q => match am_zero t n.toNatClampNeg with
    | some x => if ¬ n < 0 ∧ n.toNatClampNeg ≤ 60000000 then some (.ref h.1 :: q, am_push h x n.toNatClampNeg) else none
    | none => none
  | _ => none
def am_newq (o k : Nat) (S : List Value) (h : am_H) : Option (List Value × am_H) := match S with
  | .int n :: q => match tb_anw o k with
    | some C => if ¬ n < 0 ∧ n.toNatClampNeg ≤ 60000000 then some (.ref h.1 :: q, am_push h (.inl (.object C, n.toNatClampNeg, .inr (.inr (.inr (.inr (fun _ => none)))))) n.toNatClampNeg) else none
    | none => none
  | _ => none
def am_new (o k : Nat) (S : List Value) (h : am_H) : Option (List Value × am_H) := match tb_new o k with
  | some ci => match tb_cl[ci]? with
    | some q => some (.ref h.1 :: S, am_push h (.inr (ci, (List.range q.2.2).map (fun j => defaultValue (tb_ty ci j)))) q.2.2)
    | none => none
  | none => none
def am_ldc (o k : Nat) (S : List Value) (h : am_H) : Option (List Value × am_H) := match tb_cst o k with
  | some (.int x) => some (.int x :: S, h)
  | some (.ref r) => some (.ref r :: S, h)
  | _ => none
def am_ldcw (o k : Nat) (S : List Value) (h : am_H) : Option (List Value × am_H) := match tb_cst o k with
  | some (.int x) => some (.int x :: S, h)
  | _ => none
def am_ldc2 (o k : Nat) (S : List Value) (h : am_H) : Option (List Value × am_H) := match tb_cst o k with
  | some (.long x) => some (.long x :: S, h)
  | _ => none
def am_hp (ini : Bool) (o : Nat) (i : Instr) (S : List Value) (h : am_H) : Option (List Value × am_H) := match i with
  | .getfield k => am_getf o k S h
  | .putfield k => am_putf ini o k S h
  | .getstatic k => am_gets o k S h
  | .iaload => am_iald S h
  | .caload => am_cald S h
  | .baload => am_bald S h
  | .laload => am_lald S h
  | .aaload => am_aald S h
  | .arraylength => am_alen S h
  | .iastore => am_iast S h
  | .bastore => am_bast S h
  | .lastore => am_last S h
  | .aastore => am_aast S h
  | .newarray t => am_newa t S h
  | .anewarray k => am_newq o k S h
  | .new k => am_new o k S h
  | .ldc k => am_ldc o k S h
  | .ldc_w k => am_ldcw o k S h
  | .ldc2_w k => am_ldc2 o k S h
  | _ => none
-- ends
/-- what a method of this type may give back as it stands -/
def am_nar (ty : FieldType) (x : Int32) : Bool := match ty with
  | .int => true
  | .boolean => x == 0 || x == 1
  | .byte => x == 0
  | .char => decide (0 ≤ x) && decide (x < 256)
  | _ => false
def am_ret (ret : Option FieldType) (i : Instr) (S : List Value) : Option (Option Value) := match i with
  | .return_ => match S, ret with
    | [], none => some none
    | _, _ => none
  | .ireturn => match S, ret with
    | [.int x], some ty => if am_nar ty x = true then some (some (.int x)) else none
    | _, _ => none
  | .lreturn => match S, ret with
    | [.long x], some .long => some (some (.long x))
    | _, _ => none
  | .areturn => match S, ret with
    | [.ref r], some (.object _) => some (some (.ref r))
    | [.null], some (.object _) => some (some .null)
    | _, _ => none
  | _ => none
-- calls: kinds 0 virtual, 1 static, 2 special; 3, 4, 5 the same of a nest mate; 10 Object()
def am_cix (i : Instr) : Option (Nat × Nat) := match i with
  | .invokevirtual k => some (0, k)
  | .invokestatic k => some (1, k)
  | .invokespecial k => some (2, k)
  | _ => none
/-- what a call takes: the receiver first -/
def am_arg (kd n : Nat) (S : List Value) : Option (List Value × List Value) :=
  if kd = 1 ∨ kd = 4 then (if n ≤ S.length then some ((S.take n).reverse, S.drop n) else none)
  else match S.drop n with
    | .ref b :: q => some (.ref b :: (S.take n).reverse, q)
    | _ => none
def am_low (S : List Value) : Nat := (S.map fun v => v.category).sum
/-- the class of the receiver is the one that the call names -/
def am_rcv (kd : Nat) (ci : Nat) (h : am_H) (A : List Value) : Bool := if kd = 0 ∨ kd = 3 then match A with
    | .ref b :: _ => if b = 1 then ci == tb_cS else match am_at h b with
      | some (.inr (c, _)) => c == ci && !(c == tb_cS)
      | _ => false
    | _ => false
  else true
/-- the library's calls: they want a frame; 10 Object(), 11 Math.max, 12 Math.min -/
def am_prm (kd : Nat) (S : List Value) : Option (List Value) := match kd with
  | 10 => match S with
    | .ref _ :: q => some q
    | _ => none
  | 11 => match S with
    | .int y :: .int x :: q => some (.int (if x < y then y else x) :: q)
    | _ => none
  | 12 => match S with
    | .int y :: .int x :: q => some (.int (if y < x then y else x) :: q)
    | _ => none
  | _ => none
def am_psk (kd : Nat) : Nat := if kd = 10 then 2 else 1
def am_pcl (d o : Nat) (i : Instr) (S : List Value) : Option (List Value) := match am_cix i with
  | some (sk, k) => match tb_cal o k with
    | some (_, kd, _) => match am_prm kd S with
      | some q => if am_psk kd = sk ∧ 1 ≤ d ∧ am_low q ≤ 8 then some q else none
      | none => none
    | none => none
  | none => none
/-- one instruction that is no call and no end -/
def am_step (d mi : Nat) (f : am_F) (h : am_H) : Option (am_F × am_H) := match tb_m mi, tb_ins mi f.1 with
  | some M, some i => match am_alu i f.2.2 with
    | some S => some ((f.1 + am_len i, f.2.1, S), h)
    | none => match am_loc M.2.2.2.2.1 i f.2.1 f.2.2 with
      | some q => some ((f.1 + am_len i, q.1, q.2), h)
      | none => match am_jmp f.1 i f.2.2 with
        | some q => some ((q.1, f.2.1, q.2), h)
        | none => match am_hp (M.2.1.name == "<init>") M.1 i f.2.2 h with
          | some q => some ((f.1 + am_len i, f.2.1, q.1), q.2)
          | none => match am_pcl d M.1 i f.2.2 with
            | some S => some ((f.1 + 3, f.2.1, S), h)
            | none => none
  | _, _ => none
def am_ends (mi : Nat) (f : am_F) : Option (Option Value) := match tb_m mi, tb_ins mi f.1 with
  | some M, some i => am_ret M.2.2.2.2.2 i f.2.2
  | _, _ => none
/-- a call: the method's number, what it takes, what stays on the stack -/
def am_call (mi : Nat) (f : am_F) (h : am_H) : Option (Nat × List Value × List Value) := match tb_m mi, tb_ins mi f.1 with
  | some M, some i => match am_cix i with
    | some (sk, k) => match tb_cal M.1 k with
      | some (mj, kd, ci) => match tb_m mj with
        | some M2 => match am_arg kd M2.2.2.1 f.2.2 with
          | some (A, q) => if kd < 6 ∧ kd % 3 = sk ∧ am_low q ≤ 8 ∧ am_rcv kd ci h A = true ∧ am_low A ≤ M2.2.2.2.2.1 then some (mj, A, q) else none
          | none => none
        | none => none
      | none => none
    | none => none
  | _, _ => none
/-- d: how deep calls may still go; n: how many instructions and calls -/
def am_run : Nat → Nat → Nat → am_F → am_H → Option (Option Value × am_H)
  | 0, _, _, _, _ => none
  | n + 1, d, mi, f, h => match am_step d mi f h with
    | some q => am_run n d mi q.1 q.2
    | none => match am_ends mi f with
      | some v => some (v, h)
      | none => match d, am_call mi f h with
        | e + 1, some (mj, A, q) => match am_run n e mj (0, lv_args 0 A, []) h with
          | some (v, h1) => am_run n (e + 1) mi (f.1 + 3, f.2.1, v.toList ++ q) h1
          | none => none
        | _, _ => none
