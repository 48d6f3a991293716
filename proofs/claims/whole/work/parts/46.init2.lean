/-! THE CONSTRUCTORS, second part: the kernel runs them; what they leave is the layout of a state. -/
def in_h (fm : Nat) : am_H := (5, 0, fun r => if r = 0 then .inr (98, []) else if r = 1 then .inr (99, []) else if r = 2 then .inl (.byte, tb_byt.length, .inl (fun j => tb_byt.getD j 0)) else if r = 3 then .inl (.char, tb_wrd.length, .inl (fun j => tb_wrd.getD j 0)) else if r = 4 then .inr (fm, []) else in_p r)
def in_df (ci n : Nat) : List Value := (List.range n).map (fun j => defaultValue (tb_ty ci j))
def in_a (fm : Nat) : am_H := am_push (in_h fm) (.inr (0, in_df 0 7)) 7
def in_x (fm : Nat) : Option (Option Value × am_H) := am_run 4000 20 1 (0, [(0, .ref 5)], []) (in_a fm)
def in_b (h : am_H) : am_H := am_push h (.inr (11, in_df 11 92)) 92
def in_y (h : am_H) : Option (Option Value × am_H) := am_run 4000 20 172 (0, [(0, .ref 87)], []) (in_b h)
def in_f (ci i j : Nat) (v : Value) : Bool := match tb_ty ci j with
  | .int => decide (v = .int (in_I (100 * ci + j) i))
  | .boolean => decide (v = .int (in_I (100 * ci + j) i))
  | .long => decide (v = .long 0)
  | _ => match ts_k ci i j with
    | some r => decide (v = .ref r)
    | none => decide (v = .null)
def in_c (r : Nat) (c : am_C) (q : (Nat × Nat) ⊕ (FieldType × Nat)) : Bool := match q with
  | .inl (ci, i) => match c with
    | .inr (c', fs) => c' == ci && (fs.length == ts_n ci && (List.range (ts_n ci)).all (fun j => in_f ci i j (fs.getD j .null)))
    | _ => false
  | .inr (.long, n) => match c with
    | .inl (.long, n', .inr (.inl _)) => n' == n
    | _ => false
  | .inr (.object C, n) => match c with
    | .inl (.object C', n', .inr (.inr (.inr (.inr f)))) => decide (C' = C) && (n' == n && ((List.range n).all (fun k => decide (f k = if r = 37 then ts_q k else none)) && (if r = 37 then n == 14 else true)))
    | _ => false
  | .inr (.int, n) => match c with
    | .inl (.int, n', .inl _) => n' == n
    | _ => false
  | .inr (.byte, n) => match c with
    | .inl (.byte, n', .inl _) => n' == n
    | _ => false
  | .inr (.boolean, n) => match c with
    | .inl (.boolean, n', .inl _) => n' == n
    | _ => false
  | _ => false
def in_rw : List Int64 := [8243121615520555877, 495874699877, 121450625394034, 31651020126122867, 7103860, 26982, 1701606245, 512852847717, 1752132708, 495622650469, 1718773093, 7370100, 6776180, 418614700404, 495873782388, 1937010544, 2002873189, 7561593, 6647396, 7237495, 28005, 1685217655, 504363578483, 487300887909]
def in_sh (h : am_H) : Bool := h.1 == 143 && (h.2.1 == 113995 && ((List.range 138).all (fun k => in_c (k + 5) (h.2.2 (k + 5)) (ts_d (k + 5))) && (match h.2.2 8 with
  | .inl (.long, _, .inr (.inl f)) => (List.range 24).all (fun k => decide (f k = in_rw.getD k 0))
  | _ => false)))
def in_ok (fm : Nat) : Bool := match in_x fm with
  | some (none, h) => h.1 == 87 && (match in_y h with
    | some (none, h2) => in_sh h2
    | _ => false)
  | _ => false
set_option maxRecDepth 100000 in
theorem in_ok0 : in_ok 0 = true := by decide +kernel
set_option maxRecDepth 100000 in
theorem in_ok1 : in_ok 1 = true := by decide +kernel
