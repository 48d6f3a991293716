/-! THE STATE WITHOUT ADDRESSES: fields by their number (100 * class + place) and the object's number in its class; arrays by their place; of processes values and units; how many processes were made; what stands outside. Printed by wip/tools/gen_ts.py. -/
abbrev ts : Type := (Nat → Nat → Int32) × (Nat → Nat → Int64) × (Nat → Nat → Option Nat) × (Nat → Nat → Int32) × (Nat → Nat → Int64) × (Nat → Nat → Int32) × (Nat → Nat → Int32) × Nat × (Nat → am_C)
def gI (s : ts) (f i : Nat) : Int32 := s.1 f i
def gJ (s : ts) (f i : Nat) : Int64 := s.2.1 f i
def gR (s : ts) (f i : Nat) : Option Nat := s.2.2.1 f i
def gA (s : ts) (r k : Nat) : Int32 := s.2.2.2.1 r k
def gB (s : ts) (r k : Nat) : Int64 := s.2.2.2.2.1 r k
def gV (s : ts) (p k : Nat) : Int32 := s.2.2.2.2.2.1 p k
def gU (s : ts) (p k : Nat) : Int32 := s.2.2.2.2.2.2.1 p k
def gM (s : ts) : Nat := s.2.2.2.2.2.2.2.1
def gO (s : ts) (r : Nat) : am_C := s.2.2.2.2.2.2.2.2 r
def gSok (s : ts) : Bool := match gO s 0 with
  | .inl (.int, _, .inl _) => true
  | _ => false
def gSn (s : ts) : Nat := match gO s 0 with
  | .inl (.int, n, .inl _) => n
  | _ => 0
def gS (s : ts) (k : Nat) : Int32 := match gO s 0 with
  | .inl (.int, _, .inl f) => f k
  | _ => 0
def gWok (s : ts) : Bool := match gO s 3 with
  | .inl (.char, _, .inl _) => true
  | _ => false
def gWn (s : ts) : Nat := match gO s 3 with
  | .inl (.char, n, .inl _) => n
  | _ => 0
def gW (s : ts) (k : Nat) : Int32 := match gO s 3 with
  | .inl (.char, _, .inl f) => f k
  | _ => 0
def u2 {α : Type} (g : Nat → Nat → α) (f i : Nat) (x : α) : Nat → Nat → α := fun a b => if a = f ∧ b = i then x else g a b
def wI (s : ts) (f i : Nat) (x : Int32) : ts := (u2 s.1 f i x, s.2)
def wJ (s : ts) (f i : Nat) (x : Int64) : ts := (s.1, u2 s.2.1 f i x, s.2.2)
def wR (s : ts) (f i : Nat) (x : Option Nat) : ts := (s.1, s.2.1, u2 s.2.2.1 f i x, s.2.2.2)
def wA (s : ts) (r k : Nat) (x : Int32) : ts := (s.1, s.2.1, s.2.2.1, u2 s.2.2.2.1 r k x, s.2.2.2.2)
def wB (s : ts) (r k : Nat) (x : Int64) : ts := (s.1, s.2.1, s.2.2.1, s.2.2.2.1, u2 s.2.2.2.2.1 r k x, s.2.2.2.2.2)
def wV (s : ts) (p k : Nat) (x : Int32) : ts := (s.1, s.2.1, s.2.2.1, s.2.2.2.1, s.2.2.2.2.1, u2 s.2.2.2.2.2.1 p k x, s.2.2.2.2.2.2)
def wU (s : ts) (p k : Nat) (x : Int32) : ts := (s.1, s.2.1, s.2.2.1, s.2.2.2.1, s.2.2.2.2.1, s.2.2.2.2.2.1, u2 s.2.2.2.2.2.2.1 p k x, s.2.2.2.2.2.2.2)
def pB (p : Nat) : Nat := 143 + 3 * p
def pV (p : Nat) : Nat := 144 + 3 * p
def pU (p : Nat) : Nat := 145 + 3 * p
def pQ (q : Nat) : Nat := 39 + 3 * q
def pL (l : Nat) : Nat := if l < 28 then 40 + 3 * (l / 2) + l % 2 else 55 + l
/-- the references that never change -/
def ts_kL : List (List (Option Nat)) := [[some 6, none, some 7, some 12, some 28, some 34, none],
  [some 8, some 9, some 10, some 11, none, none, none, none, none, none],
  [some 13, some 14, some 15, none, some 16, some 17, some 18, some 19, some 20, some 21, some 22, some 23, some 24, some 25, none, some 26, some 27, none],
  [some 7, some 12, none],
  [some 7, some 12, some 33, none, some 29, some 30, some 31, some 32, none],
  [none, none, none, none, none, none, none, none, none, none, none, none, none],
  [none, none],
  [none, none, none, none, none, none, none, none, none, none, none],
  [none, none, some 36, some 37, some 38, none],
  [some 35, some 82, some 83, some 84, none, none, none],
  [some 12, some 35, some 81, none, none, none, some 85, some 86, none],
  [some 88, none, none, none, none, none, none, none, none, none, none, some 89, some 90, none, some 91, some 92, some 93, none, some 94, none, some 95, some 96, some 97, none, some 98, none, none, some 99, some 100, some 101, some 102, some 103, some 104, some 105, some 106, some 107, some 108, some 109, none, none, some 110, some 111, none, some 112, some 113, some 114, some 115, none, none, none, none, none, none, none, none, none, none, none, none, none, none, none, some 116, some 117, some 118, some 119, some 120, some 121, some 122, some 123, some 124, some 125, some 126, some 127, some 128, some 129, some 130, some 131, some 132, some 133, some 134, some 135, some 136, some 137, some 138, none, some 139, some 140, none, some 141, some 142, none]]
def ts_k (ci i j : Nat) : Option Nat := if ci = 5 then (if j = 5 then some (pV i) else if j = 6 then some (pU i) else none) else if ci = 7 then (if j = 1 then some (pL (2 * i)) else if j = 2 then some (pL (2 * i + 1)) else none) else (ts_kL.getD ci []).getD j none
/-- whereto the others lead: to a line, or to a process -/
def ts_t (ci j : Nat) : Nat → Nat := if ci = 5 ∧ j = 7 then pL else pB
def ts_f (s : ts) (ci i j : Nat) : Value := match tb_ty ci j with
  | .int => .int (gI s (100 * ci + j) i)
  | .boolean => .int (gI s (100 * ci + j) i)
  | .long => .long (gJ s (100 * ci + j) i)
  | _ => match ts_k ci i j with
    | some r => .ref r
    | none => va_rf ((gR s (100 * ci + j) i).map (ts_t ci j))
def ts_D : List ((Nat × Nat) ⊕ (FieldType × Nat)) := [.inl (0, 0), .inr (.byte, 4000), .inl (1, 0), .inr (.long, 24), .inr (.int, 4001), .inr (.int, 4001), .inr (.long, 4001), .inl (2, 0), .inr (.long, 50), .inr (.int, 50), .inr (.int, 50), .inr (.int, 5), .inr (.int, 14), .inr (.int, 14), .inr (.int, 12), .inr (.int, 12), .inr (.int, 12), .inr (.int, 512), .inr (.int, 512), .inr (.int, 512), .inr (.int, 512), .inr (.int, 4000), .inr (.int, 4000), .inl (4, 0), .inr (.long, 250), .inr (.int, 250), .inr (.int, 250), .inr (.int, 250), .inl (3, 0), .inl (10, 0), .inl (8, 0), .inr (.int, 16), .inr (.object "EventHall$Place", 14), .inr (.int, 128), .inl (7, 0), .inl (6, 0), .inl (6, 1), .inl (7, 1), .inl (6, 2), .inl (6, 3), .inl (7, 2), .inl (6, 4), .inl (6, 5), .inl (7, 3), .inl (6, 6), .inl (6, 7), .inl (7, 4), .inl (6, 8), .inl (6, 9), .inl (7, 5), .inl (6, 10), .inl (6, 11), .inl (7, 6), .inl (6, 12), .inl (6, 13), .inl (7, 7), .inl (6, 14), .inl (6, 15), .inl (7, 8), .inl (6, 16), .inl (6, 17), .inl (7, 9), .inl (6, 18), .inl (6, 19), .inl (7, 10), .inl (6, 20), .inl (6, 21), .inl (7, 11), .inl (6, 22), .inl (6, 23), .inl (7, 12), .inl (6, 24), .inl (6, 25), .inl (7, 13), .inl (6, 26), .inl (6, 27), .inl (9, 0), .inr (.object "EventHall$Proc", 300), .inl (6, 28), .inl (6, 29), .inr (.int, 1000), .inr (.int, 1000), .inl (11, 0), .inr (.int, 4000), .inr (.long, 8), .inr (.int, 8), .inr (.long, 6), .inr (.int, 6), .inr (.int, 6), .inr (.long, 16), .inr (.long, 12), .inr (.int, 12), .inr (.int, 12), .inr (.long, 8), .inr (.int, 900), .inr (.int, 900), .inr (.int, 900), .inr (.int, 900), .inr (.int, 900), .inr (.int, 7200), .inr (.int, 900), .inr (.long, 900), .inr (.int, 900), .inr (.int, 12), .inr (.int, 12), .inr (.int, 9000), .inr (.int, 9000), .inr (.int, 4100), .inr (.int, 4100), .inr (.int, 4100), .inr (.boolean, 4100), .inr (.int, 1000), .inr (.int, 1000), .inr (.int, 16), .inr (.int, 300), .inr (.int, 300), .inr (.int, 300), .inr (.int, 300), .inr (.long, 300), .inr (.int, 300), .inr (.int, 300), .inr (.int, 300), .inr (.int, 2400), .inr (.int, 2400), .inr (.int, 14), .inr (.int, 14), .inr (.int, 14), .inr (.int, 14), .inr (.long, 14), .inr (.long, 14), .inr (.long, 14), .inr (.int, 28), .inr (.int, 8400), .inr (.int, 8400), .inr (.int, 300), .inr (.int, 4200), .inr (.int, 300), .inr (.int, 8)]
def ts_nL : List Nat := [7, 10, 18, 3, 9, 13, 2, 11, 6, 7, 9, 92]
def ts_n (ci : Nat) : Nat := ts_nL.getD ci 0
def ts_fs (s : ts) (ci i : Nat) : List Value := (List.range (ts_n ci)).map (ts_f s ci i)
def ts_q (k : Nat) : Option Nat := if k < 14 then some (pQ k) else none
def ts_m (s : ts) (k : Nat) : Option Nat := if k < gM s then some (pB k) else none
def ts_ar (s : ts) (r : Nat) (ty : FieldType) (n : Nat) : am_C := match ty with
  | .long => .inl (.long, n, .inr (.inl (gB s r)))
  | .object C => .inl (.object C, n, .inr (.inr (.inr (.inr (if r = 37 then ts_q else ts_m s)))))
  | t => .inl (t, n, .inl (gA s r))
def ts_c (s : ts) (r : Nat) (q : (Nat × Nat) ⊕ (FieldType × Nat)) : am_C := match q with
  | .inl (ci, i) => .inr (ci, ts_fs s ci i)
  | .inr (ty, n) => ts_ar s r ty n
def ts_p (s : ts) (r : Nat) : am_C := if (r - 143) % 3 = 0 then .inr (5, ts_fs s 5 ((r - 143) / 3)) else if (r - 143) % 3 = 1 then .inl (.int, 8, .inl (gV s ((r - 143) / 3))) else .inl (.int, 8, .inl (gU s ((r - 143) / 3)))
def ts_d (r : Nat) : (Nat × Nat) ⊕ (FieldType × Nat) := ts_D.getD (r - 5) (.inr (.int, 0))
def lay (s : ts) : am_H := (143 + 3 * gM s, 113995 + 29 * gM s, fun r => if r < 5 then gO s r else if r < 143 then ts_c s r (ts_d r) else ts_p s r)
