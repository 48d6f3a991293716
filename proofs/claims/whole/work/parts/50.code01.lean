/-! THE METHODS AS FUNCTIONS, printed by wip/tools/decomp.py; the machine does what they say. -/
def cG_clear_27_b (kk : Int32 → ts → Option (ts)) (l1 : Int32) (s : ts) : Option (ts) := (if ((14 : Int32)) ≤ l1 then some (wI (wI s 214 0 ((0 : Int32))) 217 0 ((0 : Int32))) else (if am_idx l1 14 = true then kk (l1 + (1 : Int32)) (wA (wA s 17 l1.toNatClampNeg ((0 : Int32))) 18 l1.toNatClampNeg ((0 : Int32))) else none))
def cG_clear_27 : Nat → Int32 → ts → Option (ts)
  | 0, _, _ => none
  | n + 1, l1, s => cG_clear_27_b (cG_clear_27 n) l1 s
set_option maxRecDepth 20000 in
theorem cG_clear_27_ok {d : Nat} : ∀ (n : Nat) (l1 : Int32) (s : ts) (Q : ts → Prop), Ok (cG_clear_27 n l1 s) Q → am_Ev (d + 0) 35 (27, [(0, .ref 12), (1, .int (l1))], []) (lay s) (tq_v Q) := by
  intro n
  induction n with
  | zero => intro l1 s Q h; exact Ok_n h
  | succ n ih =>
    intro l1 s Q h
    rw [cG_clear_27.eq_2] at h
    unfold cG_clear_27_b at h
    refine ev_iload_n (pc' := 28) m_35 rfl rfl rfl (ev_bipush (pc' := 30) (x := 14) m_35 rfl rfl rfl ?_)
    refine ev_icmp_ge (t := 53) (e := 33) m_35 rfl rfl rfl (fun c2 => ?_) (fun c2 => ?_)
    · replace h := Ok_t c2 h
      refine ev_aload_n (pc' := 54) m_35 rfl rfl rfl (ev_iconst (pc' := 55) (x := 0) m_35 rfl rfl rfl (tr_pI (pc' := 58) (f := 214) m_35 rfl rfl rfl ts_o12 rfl rfl rfl rfl (ev_aload_n (pc' := 59) m_35 rfl rfl rfl (ev_iconst (pc' := 60) (x := 0) m_35 rfl rfl rfl (tr_pI (pc' := 63) (f := 217) m_35 rfl rfl rfl ts_o12 rfl rfl rfl rfl ?_)))))
      exact tr_rv m_35 rfl rfl (Ok_s h)
    · replace h := Ok_f c2 h
      refine ev_aload_n (pc' := 34) m_35 rfl rfl rfl (tr_get (pc' := 37) (v := .ref 17) m_35 rfl rfl ts_o12 rfl rfl rfl (ev_iload_n (pc' := 38) m_35 rfl rfl rfl (ev_iconst (pc' := 39) (x := 0) m_35 rfl rfl rfl ?_)))
      obtain ⟨g1, h⟩ := Ok_g h
      refine tr_iast (pc' := 40) m_35 rfl rfl rfl g1 rfl (ev_aload_n (pc' := 41) m_35 rfl rfl rfl (tr_get (pc' := 44) (v := .ref 18) m_35 rfl rfl ts_o12 rfl rfl rfl (ev_iload_n (pc' := 45) m_35 rfl rfl rfl (ev_iconst (pc' := 46) (x := 0) m_35 rfl rfl rfl (tr_iast (pc' := 47) m_35 rfl rfl rfl g1 rfl (ev_iinc (pc' := 50) (z := 1) m_35 rfl rfl rfl rfl rfl rfl (ev_goto (pc' := 27) m_35 rfl rfl ?_)))))))
      exact am_Ev.sub (L := [(0, .ref 12), (1, .int (l1 + (1 : Int32)))]) ⟨rfl, rfl, trivial⟩ (ih (l1 + (1 : Int32)) _ _ h)
def cG_clear_7_b (kk : Int32 → ts → Option (ts)) (l1 : Int32) (s : ts) : Option (ts) := (if ((5 : Int32)) ≤ l1 then cG_clear_27 tm_N ((0 : Int32)) s else (if am_idx l1 5 = true then kk (l1 + (1 : Int32)) (wA s 16 l1.toNatClampNeg ((0 : Int32))) else none))
def cG_clear_7 : Nat → Int32 → ts → Option (ts)
  | 0, _, _ => none
  | n + 1, l1, s => cG_clear_7_b (cG_clear_7 n) l1 s
set_option maxRecDepth 20000 in
theorem cG_clear_7_ok {d : Nat} : ∀ (n : Nat) (l1 : Int32) (s : ts) (Q : ts → Prop), Ok (cG_clear_7 n l1 s) Q → am_Ev (d + 0) 35 (7, [(0, .ref 12), (1, .int (l1))], []) (lay s) (tq_v Q) := by
  intro n
  induction n with
  | zero => intro l1 s Q h; exact Ok_n h
  | succ n ih =>
    intro l1 s Q h
    rw [cG_clear_7.eq_2] at h
    unfold cG_clear_7_b at h
    refine ev_iload_n (pc' := 8) m_35 rfl rfl rfl (ev_iconst (pc' := 9) (x := 5) m_35 rfl rfl rfl ?_)
    refine ev_icmp_ge (t := 25) (e := 12) m_35 rfl rfl rfl (fun c2 => ?_) (fun c2 => ?_)
    · replace h := Ok_t c2 h
      refine ev_iconst (pc' := 26) (x := 0) m_35 rfl rfl rfl (ev_istore_n (pc' := 27) m_35 rfl rfl rfl rfl ?_)
      exact am_Ev.sub (L := [(0, .ref 12), (1, .int ((0 : Int32)))]) ⟨rfl, rfl, trivial⟩ (cG_clear_27_ok tm_N ((0 : Int32)) _ _ h)
    · replace h := Ok_f c2 h
      refine ev_aload_n (pc' := 13) m_35 rfl rfl rfl (tr_get (pc' := 16) (v := .ref 16) m_35 rfl rfl ts_o12 rfl rfl rfl (ev_iload_n (pc' := 17) m_35 rfl rfl rfl (ev_iconst (pc' := 18) (x := 0) m_35 rfl rfl rfl ?_)))
      obtain ⟨g1, h⟩ := Ok_g h
      refine tr_iast (pc' := 19) m_35 rfl rfl rfl g1 rfl (ev_iinc (pc' := 22) (z := 1) m_35 rfl rfl rfl rfl rfl rfl (ev_goto (pc' := 7) m_35 rfl rfl ?_))
      exact am_Ev.sub (L := [(0, .ref 12), (1, .int (l1 + (1 : Int32)))]) ⟨rfl, rfl, trivial⟩ (ih (l1 + (1 : Int32)) _ _ h)
def cG_clear (s : ts) : Option (ts) := cG_clear_7 tm_N ((0 : Int32)) (wI s 203 0 ((0 : Int32)))
set_option maxRecDepth 20000 in
theorem cG_clear_ok {d : Nat} (s : ts) (Q : ts → Prop) (h : Ok (cG_clear s) Q) : am_Ev (d + 0) 35 (0, [(0, .ref 12)], []) (lay s) (tq_v Q) := by
  unfold cG_clear at h
  refine ev_aload_n (pc' := 1) m_35 rfl rfl rfl (ev_iconst (pc' := 2) (x := 0) m_35 rfl rfl rfl (tr_pI (pc' := 5) (f := 203) m_35 rfl rfl rfl ts_o12 rfl rfl rfl rfl (ev_iconst (pc' := 6) (x := 0) m_35 rfl rfl rfl (ev_istore_n (pc' := 7) m_35 rfl rfl rfl rfl ?_))))
  exact am_Ev.sub (L := [(0, .ref 12), (1, .int ((0 : Int32)))]) ⟨rfl, rfl, trivial⟩ (cG_clear_7_ok tm_N ((0 : Int32)) _ _ h)
def cT_advance (s : ts) : Option (ts) := (if ((gI s 104 0) - ((1 : Int32))) ≤ (gI s 106 0) then some s else (if am_idx (gI (wI s 106 0 ((gI s 106 0) + ((1 : Int32)))) 106 0) 4001 = true then some (wI (wI s 106 0 ((gI s 106 0) + ((1 : Int32)))) 107 0 (gA (wI s 106 0 ((gI s 106 0) + ((1 : Int32)))) 9 (gI (wI s 106 0 ((gI s 106 0) + ((1 : Int32)))) 106 0).toNatClampNeg)) else none))
set_option maxRecDepth 20000 in
theorem cT_advance_ok {d : Nat} (s : ts) (Q : ts → Prop) (h : Ok (cT_advance s) Q) : am_Ev (d + 0) 37 (0, [(0, .ref 7)], []) (lay s) (tq_v Q) := by
  unfold cT_advance at h
  refine ev_aload_n (pc' := 1) m_37 rfl rfl rfl (tr_get (pc' := 4) (v := .int (gI _ 106 _)) m_37 rfl rfl ts_o7 rfl rfl rfl (ev_aload_n (pc' := 5) m_37 rfl rfl rfl (tr_get (pc' := 8) (v := .int (gI _ 104 _)) m_37 rfl rfl ts_o7 rfl rfl rfl (ev_iconst (pc' := 9) (x := 1) m_37 rfl rfl rfl (ev_isub (pc' := 10) m_37 rfl rfl ?_)))))
  refine ev_icmp_ge (t := 36) (e := 13) m_37 rfl rfl rfl (fun c2 => ?_) (fun c2 => ?_)
  · replace h := Ok_t c2 h
    exact tr_rv m_37 rfl rfl (Ok_s h)
  · replace h := Ok_f c2 h
    refine ev_aload_n (pc' := 14) m_37 rfl rfl rfl (ev_dup (pc' := 15) m_37 rfl rfl rfl (tr_get (pc' := 18) (v := .int (gI _ 106 _)) m_37 rfl rfl ts_o7 rfl rfl rfl (ev_iconst (pc' := 19) (x := 1) m_37 rfl rfl rfl (ev_iadd (pc' := 20) m_37 rfl rfl (tr_pI (pc' := 23) (f := 106) m_37 rfl rfl rfl ts_o7 rfl rfl rfl rfl (ev_aload_n (pc' := 24) m_37 rfl rfl rfl (ev_aload_n (pc' := 25) m_37 rfl rfl rfl ?_)))))))
    refine tr_get (pc' := 28) (v := .ref 9) m_37 rfl rfl ts_o7 rfl rfl rfl (ev_aload_n (pc' := 29) m_37 rfl rfl rfl (tr_get (pc' := 32) (v := .int (gI _ 106 _)) m_37 rfl rfl ts_o7 rfl rfl rfl ?_))
    obtain ⟨g1, h⟩ := Ok_g h
    refine tr_iald (pc' := 33) m_37 rfl rfl rfl g1 rfl (tr_pI (pc' := 36) (f := 107) m_37 rfl rfl rfl ts_o7 rfl rfl rfl rfl ?_)
    exact tr_rv m_37 rfl rfl (Ok_s h)
def cT_word (s : ts) : Option (Int64 × ts) := (if am_idx (gI s 106 0) 4001 = true then some (gB s 11 (gI s 106 0).toNatClampNeg, s) else none)
set_option maxRecDepth 20000 in
theorem cT_word_ok {d : Nat} (s : ts) (Q : Int64 × ts → Prop) (h : Ok (cT_word s) Q) : am_Ev (d + 0) 39 (0, [(0, .ref 7)], []) (lay s) (tq_j Q) := by
  unfold cT_word at h
  refine ev_aload_n (pc' := 1) m_39 rfl rfl rfl (tr_get (pc' := 4) (v := .ref 11) m_39 rfl rfl ts_o7 rfl rfl rfl (ev_aload_n (pc' := 5) m_39 rfl rfl rfl (tr_get (pc' := 8) (v := .int (gI _ 106 _)) m_39 rfl rfl ts_o7 rfl rfl rfl ?_)))
  obtain ⟨g1, h⟩ := Ok_g h
  refine tr_lald (pc' := 9) m_39 rfl rfl rfl g1 rfl ?_
  exact tr_rj m_39 rfl rfl (Ok_s h)
def cT_isAnyWord (s : ts) : Option (Int32 × ts) := (if (gI s 107 0) = ((2 : Int32)) then some ((1 : Int32), s) else (if (gI s 107 0) < ((512 : Int32)) then some ((0 : Int32), s) else some ((1 : Int32), s)))
set_option maxRecDepth 20000 in
theorem cT_isAnyWord_ok {d : Nat} (s : ts) (Q : Int32 × ts → Prop) (h : Ok (cT_isAnyWord s) Q) : am_Ev (d + 0) 41 (0, [(0, .ref 7)], []) (lay s) (tq_i Q) := by
  unfold cT_isAnyWord at h
  refine ev_aload_n (pc' := 1) m_41 rfl rfl rfl (tr_get (pc' := 4) (v := .int (gI _ 107 _)) m_41 rfl rfl ts_o7 rfl rfl rfl (ev_iconst (pc' := 5) (x := 2) m_41 rfl rfl rfl ?_))
  refine ev_icmp_eq (t := 18) (e := 8) m_41 rfl rfl rfl (fun c2 => ?_) (fun c2 => ?_)
  · replace h := Ok_t c2 h
    refine ev_iconst (pc' := 19) (x := 1) m_41 rfl rfl rfl (ev_goto (pc' := 23) m_41 rfl rfl ?_)
    exact tr_rz m_41 rfl rfl (Or.inr rfl) (Ok_s h)
  · replace h := Ok_f c2 h
    refine ev_aload_n (pc' := 9) m_41 rfl rfl rfl (tr_get (pc' := 12) (v := .int (gI _ 107 _)) m_41 rfl rfl ts_o7 rfl rfl rfl (ev_sipush (pc' := 15) (x := 512) m_41 rfl rfl rfl ?_))
    refine ev_icmp_lt (t := 22) (e := 18) m_41 rfl rfl rfl (fun c1 => ?_) (fun c1 => ?_)
    · replace h := Ok_t c1 h
      refine ev_iconst (pc' := 23) (x := 0) m_41 rfl rfl rfl ?_
      exact tr_rz m_41 rfl rfl (Or.inl rfl) (Ok_s h)
    · replace h := Ok_f c1 h
      refine ev_iconst (pc' := 19) (x := 1) m_41 rfl rfl rfl (ev_goto (pc' := 23) m_41 rfl rfl ?_)
      exact tr_rz m_41 rfl rfl (Or.inr rfl) (Ok_s h)
def cT_fail (l1 : Int32) (s : ts) : Option (Int32 × ts) := (if (gI s 107 0) = ((1 : Int32)) then (if am_idx (gI (wI s 108 0 ((1 : Int32))) 106 0) 4001 = true then some ((0 : Int32), wI (wI s 108 0 ((1 : Int32))) 109 0 (gA (wI s 108 0 ((1 : Int32))) 10 (gI (wI s 108 0 ((1 : Int32))) 106 0).toNatClampNeg)) else none) else (if am_idx (gI (wI s 108 0 l1) 106 0) 4001 = true then some ((0 : Int32), wI (wI s 108 0 l1) 109 0 (gA (wI s 108 0 l1) 10 (gI (wI s 108 0 l1) 106 0).toNatClampNeg)) else none))
set_option maxRecDepth 20000 in
theorem cT_fail_ok {d : Nat} (l1 : Int32) (s : ts) (Q : Int32 × ts → Prop) (h : Ok (cT_fail l1 s) Q) : am_Ev (d + 0) 42 (0, [(0, .ref 7), (1, .int (l1))], []) (lay s) (tq_i Q) := by
  unfold cT_fail at h
  refine ev_aload_n (pc' := 1) m_42 rfl rfl rfl (ev_aload_n (pc' := 2) m_42 rfl rfl rfl (tr_get (pc' := 5) (v := .int (gI _ 107 _)) m_42 rfl rfl ts_o7 rfl rfl rfl (ev_iconst (pc' := 6) (x := 1) m_42 rfl rfl rfl ?_)))
  refine ev_icmp_ne (t := 13) (e := 9) m_42 rfl rfl rfl (fun c3 => ?_) (fun c3 => ?_)
  · replace h := Ok_f c3 h
    refine ev_iload_n (pc' := 14) m_42 rfl rfl rfl (tr_pI (pc' := 17) (f := 108) m_42 rfl rfl rfl ts_o7 rfl rfl rfl rfl (ev_aload_n (pc' := 18) m_42 rfl rfl rfl (ev_aload_n (pc' := 19) m_42 rfl rfl rfl (tr_get (pc' := 22) (v := .ref 10) m_42 rfl rfl ts_o7 rfl rfl rfl (ev_aload_n (pc' := 23) m_42 rfl rfl rfl (tr_get (pc' := 26) (v := .int (gI _ 106 _)) m_42 rfl rfl ts_o7 rfl rfl rfl ?_))))))
    obtain ⟨g1, h⟩ := Ok_g h
    refine tr_iald (pc' := 27) m_42 rfl rfl rfl g1 rfl (tr_pI (pc' := 30) (f := 109) m_42 rfl rfl rfl ts_o7 rfl rfl rfl rfl (ev_iconst (pc' := 31) (x := 0) m_42 rfl rfl rfl ?_))
    exact tr_rz m_42 rfl rfl (Or.inl rfl) (Ok_s h)
  · replace h := Ok_t c3 h
    refine ev_iconst (pc' := 10) (x := 1) m_42 rfl rfl rfl (ev_goto (pc' := 14) m_42 rfl rfl (tr_pI (pc' := 17) (f := 108) m_42 rfl rfl rfl ts_o7 rfl rfl rfl rfl (ev_aload_n (pc' := 18) m_42 rfl rfl rfl (ev_aload_n (pc' := 19) m_42 rfl rfl rfl (tr_get (pc' := 22) (v := .ref 10) m_42 rfl rfl ts_o7 rfl rfl rfl (ev_aload_n (pc' := 23) m_42 rfl rfl rfl (tr_get (pc' := 26) (v := .int (gI _ 106 _)) m_42 rfl rfl ts_o7 rfl rfl rfl ?_)))))))
    obtain ⟨g2, h⟩ := Ok_g h
    refine tr_iald (pc' := 27) m_42 rfl rfl rfl g2 rfl (tr_pI (pc' := 30) (f := 109) m_42 rfl rfl rfl ts_o7 rfl rfl rfl rfl (ev_iconst (pc' := 31) (x := 0) m_42 rfl rfl rfl ?_))
    exact tr_rz m_42 rfl rfl (Or.inl rfl) (Ok_s h)
def cT_isReserved (s : ts) : Option (Int32 × ts) := (if (gI s 107 0) < ((512 : Int32)) then some ((0 : Int32), s) else some ((1 : Int32), s))
set_option maxRecDepth 20000 in
theorem cT_isReserved_ok {d : Nat} (s : ts) (Q : Int32 × ts → Prop) (h : Ok (cT_isReserved s) Q) : am_Ev (d + 0) 43 (0, [(0, .ref 7)], []) (lay s) (tq_i Q) := by
  unfold cT_isReserved at h
  refine ev_aload_n (pc' := 1) m_43 rfl rfl rfl (tr_get (pc' := 4) (v := .int (gI _ 107 _)) m_43 rfl rfl ts_o7 rfl rfl rfl (ev_sipush (pc' := 7) (x := 512) m_43 rfl rfl rfl ?_))
  refine ev_icmp_lt (t := 14) (e := 10) m_43 rfl rfl rfl (fun c1 => ?_) (fun c1 => ?_)
  · replace h := Ok_t c1 h
    refine ev_iconst (pc' := 15) (x := 0) m_43 rfl rfl rfl ?_
    exact tr_rz m_43 rfl rfl (Or.inl rfl) (Ok_s h)
  · replace h := Ok_f c1 h
    refine ev_iconst (pc' := 11) (x := 1) m_43 rfl rfl rfl (ev_goto (pc' := 15) m_43 rfl rfl ?_)
    exact tr_rz m_43 rfl rfl (Or.inr rfl) (Ok_s h)
def cG_isTaken_33 (k3 : Int64 → Int32 → Int32 → ts → Option (Int32 × ts)) (l1 : Int64) (l3 : Int32) (l4 : Int32) (t0 : Int32) (s : ts) : Option (Int32 × ts) := (if am_idx l4 50 = true then (if (lg_cmp (gB s 13 l4.toNatClampNeg) l1) = ((0 : Int32)) then (if t0 = ((0 : Int32)) then some ((1 : Int32), s) else k3 l1 l3 (l4 + (1 : Int32)) s) else k3 l1 l3 (l4 + (1 : Int32)) s) else none)
set_option maxRecDepth 20000 in
theorem cG_isTaken_33_ok {d : Nat} (k3 : Int64 → Int32 → Int32 → ts → Option (Int32 × ts)) (hk3 : ∀ (l1 : Int64) (l3 : Int32) (l4 : Int32) (s : ts) (Q : Int32 × ts → Prop), Ok (k3 l1 l3 l4 s) Q → am_Ev (d + 0) 44 (3, [(0, .ref 12), (1, .long (l1)), (3, .int (l3)), (4, .int (l4))], []) (lay s) (tq_i Q)) (l1 : Int64) (l3 : Int32) (l4 : Int32) (t0 : Int32) (s : ts) (Q : Int32 × ts → Prop) (h : Ok (cG_isTaken_33 k3 l1 l3 l4 t0 s) Q) : am_Ev (d + 0) 44 (33, [(0, .ref 12), (1, .long (l1)), (3, .int (l3)), (4, .int (l4))], [.int (t0)]) (lay s) (tq_i Q) := by
  unfold cG_isTaken_33 at h
  refine ev_istore (pc' := 35) m_44 rfl rfl rfl rfl (ev_aload_n (pc' := 36) m_44 rfl rfl rfl (tr_get (pc' := 39) (v := .ref 13) m_44 rfl rfl ts_o12 rfl rfl rfl (ev_iload (pc' := 41) m_44 rfl rfl rfl ?_)))
  obtain ⟨g1, h⟩ := Ok_g h
  refine tr_lald (pc' := 42) m_44 rfl rfl rfl g1 rfl (ev_lload_n (pc' := 43) m_44 rfl rfl rfl (ev_lcmp (pc' := 44) m_44 rfl rfl ?_))
  refine ev_if_ne (t := 54) (e := 47) m_44 rfl rfl rfl (fun c3 => ?_) (fun c3 => ?_)
  · replace h := Ok_f c3 h
    refine ev_iinc (pc' := 57) (z := 1) m_44 rfl rfl rfl rfl rfl rfl (ev_goto (pc' := 3) m_44 rfl rfl ?_)
    exact am_Ev.sub (L := [(0, .ref 12), (1, .long (l1)), (3, .int (l3)), (4, .int (l4 + (1 : Int32)))]) ⟨rfl, rfl, rfl, rfl, trivial⟩ (hk3 l1 l3 (l4 + (1 : Int32)) _ _ h)
  · replace h := Ok_t c3 h
    refine ev_iload (pc' := 49) m_44 rfl rfl rfl ?_
    refine ev_if_ne (t := 54) (e := 52) m_44 rfl rfl rfl (fun c2 => ?_) (fun c2 => ?_)
    · replace h := Ok_f c2 h
      refine ev_iinc (pc' := 57) (z := 1) m_44 rfl rfl rfl rfl rfl rfl (ev_goto (pc' := 3) m_44 rfl rfl ?_)
      exact am_Ev.sub (L := [(0, .ref 12), (1, .long (l1)), (3, .int (l3)), (4, .int (l4 + (1 : Int32)))]) ⟨rfl, rfl, rfl, rfl, trivial⟩ (hk3 l1 l3 (l4 + (1 : Int32)) _ _ h)
    · replace h := Ok_t c2 h
      refine ev_iconst (pc' := 53) (x := 1) m_44 rfl rfl rfl ?_
      exact tr_rz m_44 rfl rfl (Or.inr rfl) (Ok_s h)
def cG_isTaken_3_b (kk : Int64 → Int32 → Int32 → ts → Option (Int32 × ts)) (l1 : Int64) (l3 : Int32) (l4 : Int32) (s : ts) : Option (Int32 × ts) := (if (gI s 203 0) ≤ l4 then some ((0 : Int32), s) else (if l3 = ((4 : Int32)) then (if am_idx l4 50 = true then (if (gA s 14 l4.toNatClampNeg) = ((2 : Int32)) then cG_isTaken_33 kk l1 l3 l4 ((1 : Int32)) s else cG_isTaken_33 kk l1 l3 l4 ((0 : Int32)) s) else none) else cG_isTaken_33 kk l1 l3 l4 ((0 : Int32)) s))
def cG_isTaken_3 : Nat → Int64 → Int32 → Int32 → ts → Option (Int32 × ts)
  | 0, _, _, _, _ => none
  | n + 1, l1, l3, l4, s => cG_isTaken_3_b (cG_isTaken_3 n) l1 l3 l4 s
set_option maxRecDepth 20000 in
theorem cG_isTaken_3_ok {d : Nat} : ∀ (n : Nat) (l1 : Int64) (l3 : Int32) (l4 : Int32) (s : ts) (Q : Int32 × ts → Prop), Ok (cG_isTaken_3 n l1 l3 l4 s) Q → am_Ev (d + 0) 44 (3, [(0, .ref 12), (1, .long (l1)), (3, .int (l3)), (4, .int (l4))], []) (lay s) (tq_i Q) := by
  intro n
  induction n with
  | zero => intro l1 l3 l4 s Q h; exact Ok_n h
  | succ n ih =>
    intro l1 l3 l4 s Q h
    rw [cG_isTaken_3.eq_2] at h
    unfold cG_isTaken_3_b at h
    refine ev_iload (pc' := 5) m_44 rfl rfl rfl (ev_aload_n (pc' := 6) m_44 rfl rfl rfl (tr_get (pc' := 9) (v := .int (gI _ 203 _)) m_44 rfl rfl ts_o12 rfl rfl rfl ?_))
    refine ev_icmp_ge (t := 60) (e := 12) m_44 rfl rfl rfl (fun c4 => ?_) (fun c4 => ?_)
    · replace h := Ok_t c4 h
      refine ev_iconst (pc' := 61) (x := 0) m_44 rfl rfl rfl ?_
      exact tr_rz m_44 rfl rfl (Or.inl rfl) (Ok_s h)
    · replace h := Ok_f c4 h
      refine ev_iload_n (pc' := 13) m_44 rfl rfl rfl (ev_iconst (pc' := 14) (x := 4) m_44 rfl rfl rfl ?_)
      refine ev_icmp_ne (t := 32) (e := 17) m_44 rfl rfl rfl (fun c3 => ?_) (fun c3 => ?_)
      · replace h := Ok_f c3 h
        refine ev_iconst (pc' := 33) (x := 0) m_44 rfl rfl rfl ?_
        exact am_Ev.sub (L := [(0, .ref 12), (1, .long (l1)), (3, .int (l3)), (4, .int (l4))]) ⟨rfl, rfl, rfl, rfl, trivial⟩ (cG_isTaken_33_ok (cG_isTaken_3 n) ih l1 l3 l4 ((0 : Int32)) _ _ h)
      · replace h := Ok_t c3 h
        refine ev_aload_n (pc' := 18) m_44 rfl rfl rfl (tr_get (pc' := 21) (v := .ref 14) m_44 rfl rfl ts_o12 rfl rfl rfl (ev_iload (pc' := 23) m_44 rfl rfl rfl ?_))
        obtain ⟨g1, h⟩ := Ok_g h
        refine tr_iald (pc' := 24) m_44 rfl rfl rfl g1 rfl (ev_iconst (pc' := 25) (x := 2) m_44 rfl rfl rfl ?_)
        refine ev_icmp_ne (t := 32) (e := 28) m_44 rfl rfl rfl (fun c2 => ?_) (fun c2 => ?_)
        · replace h := Ok_f c2 h
          refine ev_iconst (pc' := 33) (x := 0) m_44 rfl rfl rfl ?_
          exact am_Ev.sub (L := [(0, .ref 12), (1, .long (l1)), (3, .int (l3)), (4, .int (l4))]) ⟨rfl, rfl, rfl, rfl, trivial⟩ (cG_isTaken_33_ok (cG_isTaken_3 n) ih l1 l3 l4 ((0 : Int32)) _ _ h)
        · replace h := Ok_t c2 h
          refine ev_iconst (pc' := 29) (x := 1) m_44 rfl rfl rfl (ev_goto (pc' := 33) m_44 rfl rfl ?_)
          exact am_Ev.sub (L := [(0, .ref 12), (1, .long (l1)), (3, .int (l3)), (4, .int (l4))]) ⟨rfl, rfl, rfl, rfl, trivial⟩ (cG_isTaken_33_ok (cG_isTaken_3 n) ih l1 l3 l4 ((1 : Int32)) _ _ h)
def cG_isTaken (l1 : Int64) (l3 : Int32) (s : ts) : Option (Int32 × ts) := cG_isTaken_3 tm_N l1 l3 ((0 : Int32)) s
set_option maxRecDepth 20000 in
theorem cG_isTaken_ok {d : Nat} (l1 : Int64) (l3 : Int32) (s : ts) (Q : Int32 × ts → Prop) (h : Ok (cG_isTaken l1 l3 s) Q) : am_Ev (d + 0) 44 (0, [(0, .ref 12), (1, .long (l1)), (3, .int (l3))], []) (lay s) (tq_i Q) := by
  unfold cG_isTaken at h
  refine ev_iconst (pc' := 1) (x := 0) m_44 rfl rfl rfl (ev_istore (pc' := 3) m_44 rfl rfl rfl rfl ?_)
  exact am_Ev.sub (L := [(0, .ref 12), (1, .long (l1)), (3, .int (l3)), (4, .int ((0 : Int32)))]) ⟨rfl, rfl, rfl, rfl, trivial⟩ (cG_isTaken_3_ok tm_N l1 l3 ((0 : Int32)) _ _ h)
def cD_checkNewWord_47 (s : ts) : Option (Int32 × ts) := (cT_fail ((3 : Int32)) s).bind (fun x3 => some (x3.1, x3.2))
set_option maxRecDepth 20000 in
theorem cD_checkNewWord_47_ok {d : Nat} (s : ts) (Q : Int32 × ts → Prop) (h : Ok (cD_checkNewWord_47 s) Q) : am_Ev (d + 1) 40 (47, [(0, .ref 28)], []) (lay s) (tq_i Q) := by
  unfold cD_checkNewWord_47 at h
  refine ev_aload_n (pc' := 48) m_40 rfl rfl rfl (tr_get (pc' := 51) (v := .ref 7) m_40 rfl rfl ts_o28 rfl rfl rfl (ev_iconst (pc' := 52) (x := 3) m_40 rfl rfl rfl ?_))
  refine tr_cz (pc' := 55) m_40 rfl rfl rfl m_42 rfl rfl rfl rfl rfl (tr_rcv ts_o7 rfl) rfl rfl (cT_fail_ok ((3 : Int32)) _ _ (Ok_b h)) (fun x3_ x3_s h1 h => ?_)
  exact tr_rz m_40 rfl rfl h1 (Ok_s h)
def cD_checkNewWord (l1 : Int32) (l2 : Int32) (s : ts) : Option (Int32 × ts) := (cT_isAnyWord s).bind (fun x3 => (if x3.1 = ((0 : Int32)) then (cT_fail ((2 : Int32)) x3.2).bind (fun x23 => some (x23.1, x23.2)) else (cT_isReserved x3.2).bind (fun x6 => (if x6.1 = ((0 : Int32)) then (cT_word x6.2).bind (fun x9 => (cG_isTaken x9.1 l1 x9.2).bind (fun x12 => (if x12.1 = ((0 : Int32)) then (if am_idx l1 5 = true then (if (gA x12.2 16 l1.toNatClampNeg) < l2 then some ((1 : Int32), x12.2) else (cT_fail ((5 : Int32)) x12.2).bind (fun x16 => (if x16.1 = ((0 : Int32)) then some ((0 : Int32), x16.2) else some ((1 : Int32), x16.2)))) else none) else cD_checkNewWord_47 x12.2))) else cD_checkNewWord_47 x6.2))))
set_option maxRecDepth 20000 in
theorem cD_checkNewWord_ok {d : Nat} (l1 : Int32) (l2 : Int32) (s : ts) (Q : Int32 × ts → Prop) (h : Ok (cD_checkNewWord l1 l2 s) Q) : am_Ev (d + 1) 40 (0, [(0, .ref 28), (1, .int (l1)), (2, .int (l2))], []) (lay s) (tq_i Q) := by
  unfold cD_checkNewWord at h
  refine ev_aload_n (pc' := 1) m_40 rfl rfl rfl (tr_get (pc' := 4) (v := .ref 7) m_40 rfl rfl ts_o28 rfl rfl rfl ?_)
  refine tr_cz (pc' := 7) m_40 rfl rfl rfl m_41 rfl rfl rfl rfl rfl (tr_rcv ts_o7 rfl) rfl rfl (cT_isAnyWord_ok _ _ (Ok_b h)) (fun x3_ x3_s h1 h => ?_)
  refine ev_if_ne (t := 19) (e := 10) m_40 rfl rfl rfl (fun c24 => ?_) (fun c24 => ?_)
  · replace h := Ok_f c24 h
    refine ev_aload_n (pc' := 20) m_40 rfl rfl rfl (tr_get (pc' := 23) (v := .ref 7) m_40 rfl rfl ts_o28 rfl rfl rfl ?_)
    refine tr_cz (pc' := 26) m_40 rfl rfl rfl m_43 rfl rfl rfl rfl rfl (tr_rcv ts_o7 rfl) rfl rfl (cT_isReserved_ok _ _ (Ok_b h)) (fun x6_ x6_s h4 h => ?_)
    refine ev_if_ne (t := 47) (e := 29) m_40 rfl rfl rfl (fun c20 => ?_) (fun c20 => ?_)
    · replace h := Ok_f c20 h
      exact am_Ev.sub (L := [(0, .ref 28)]) ⟨rfl, trivial⟩ (cD_checkNewWord_47_ok _ _ h)
    · replace h := Ok_t c20 h
      refine ev_aload_n (pc' := 30) m_40 rfl rfl rfl (tr_get (pc' := 33) (v := .ref 12) m_40 rfl rfl ts_o28 rfl rfl rfl (ev_aload_n (pc' := 34) m_40 rfl rfl rfl (tr_get (pc' := 37) (v := .ref 7) m_40 rfl rfl ts_o28 rfl rfl rfl ?_)))
      refine tr_cj (pc' := 40) m_40 rfl rfl rfl m_39 rfl rfl rfl rfl (tr_rcv ts_o7 rfl) rfl rfl (cT_word_ok _ _ (Ok_b h)) (fun x9_ x9_s h => ?_)
      refine ev_iload_n (pc' := 41) m_40 rfl rfl rfl ?_
      refine tr_cz (pc' := 44) m_40 rfl rfl rfl m_44 rfl rfl rfl rfl rfl (tr_rcv ts_o12 rfl) rfl rfl (cG_isTaken_ok x9_ l1 _ _ (Ok_b h)) (fun x12_ x12_s h10 h => ?_)
      refine ev_if_eq (t := 56) (e := 47) m_40 rfl rfl rfl (fun c19 => ?_) (fun c19 => ?_)
      · replace h := Ok_t c19 h
        refine ev_aload_n (pc' := 57) m_40 rfl rfl rfl (tr_get (pc' := 60) (v := .ref 12) m_40 rfl rfl ts_o28 rfl rfl rfl (tr_get (pc' := 63) (v := .ref 16) m_40 rfl rfl ts_o12 rfl rfl rfl (ev_iload_n (pc' := 64) m_40 rfl rfl rfl ?_)))
        obtain ⟨g13, h⟩ := Ok_g h
        refine tr_iald (pc' := 65) m_40 rfl rfl rfl g13 rfl (ev_iload_n (pc' := 66) m_40 rfl rfl rfl ?_)
        refine ev_icmp_lt (t := 80) (e := 69) m_40 rfl rfl rfl (fun c18 => ?_) (fun c18 => ?_)
        · replace h := Ok_t c18 h
          refine ev_iconst (pc' := 81) (x := 1) m_40 rfl rfl rfl (ev_goto (pc' := 85) m_40 rfl rfl ?_)
          exact tr_rz m_40 rfl rfl (Or.inr rfl) (Ok_s h)
        · replace h := Ok_f c18 h
          refine ev_aload_n (pc' := 70) m_40 rfl rfl rfl (tr_get (pc' := 73) (v := .ref 7) m_40 rfl rfl ts_o28 rfl rfl rfl (ev_iconst (pc' := 74) (x := 5) m_40 rfl rfl rfl ?_))
          refine tr_cz (pc' := 77) m_40 rfl rfl rfl m_42 rfl rfl rfl rfl rfl (tr_rcv ts_o7 rfl) rfl rfl (cT_fail_ok ((5 : Int32)) _ _ (Ok_b h)) (fun x16_ x16_s h14 h => ?_)
          refine ev_if_eq (t := 84) (e := 80) m_40 rfl rfl rfl (fun c17 => ?_) (fun c17 => ?_)
          · replace h := Ok_t c17 h
            refine ev_iconst (pc' := 85) (x := 0) m_40 rfl rfl rfl ?_
            exact tr_rz m_40 rfl rfl (Or.inl rfl) (Ok_s h)
          · replace h := Ok_f c17 h
            refine ev_iconst (pc' := 81) (x := 1) m_40 rfl rfl rfl (ev_goto (pc' := 85) m_40 rfl rfl ?_)
            exact tr_rz m_40 rfl rfl (Or.inr rfl) (Ok_s h)
      · replace h := Ok_f c19 h
        exact am_Ev.sub (L := [(0, .ref 28)]) ⟨rfl, trivial⟩ (cD_checkNewWord_47_ok _ _ h)
  · replace h := Ok_t c24 h
    refine ev_aload_n (pc' := 11) m_40 rfl rfl rfl (tr_get (pc' := 14) (v := .ref 7) m_40 rfl rfl ts_o28 rfl rfl rfl (ev_iconst (pc' := 15) (x := 2) m_40 rfl rfl rfl ?_))
    refine tr_cz (pc' := 18) m_40 rfl rfl rfl m_42 rfl rfl rfl rfl rfl (tr_rcv ts_o7 rfl) rfl rfl (cT_fail_ok ((2 : Int32)) _ _ (Ok_b h)) (fun x23_ x23_s h21 h => ?_)
    exact tr_rz m_40 rfl rfl h21 (Ok_s h)
def cG_addWord (l1 : Int64) (l3 : Int32) (s : ts) : Option (ts) := (if ((50 : Int32)) ≤ (gI s 203 0) then some s else (if l3 < ((0 : Int32)) then some s else (if ((5 : Int32)) ≤ l3 then some s else (if am_idx (gI s 203 0) 50 = true then (if am_idx (gI (wB s 13 (gI s 203 0).toNatClampNeg l1) 203 0) 50 = true then (if am_idx l3 5 = true then (if am_idx (gI (wA (wB s 13 (gI s 203 0).toNatClampNeg l1) 14 (gI (wB s 13 (gI s 203 0).toNatClampNeg l1) 203 0).toNatClampNeg l3) 203 0) 50 = true then some (wI (wA (wA (wA (wB s 13 (gI s 203 0).toNatClampNeg l1) 14 (gI (wB s 13 (gI s 203 0).toNatClampNeg l1) 203 0).toNatClampNeg l3) 15 (gI (wA (wB s 13 (gI s 203 0).toNatClampNeg l1) 14 (gI (wB s 13 (gI s 203 0).toNatClampNeg l1) 203 0).toNatClampNeg l3) 203 0).toNatClampNeg (gA (wA (wB s 13 (gI s 203 0).toNatClampNeg l1) 14 (gI (wB s 13 (gI s 203 0).toNatClampNeg l1) 203 0).toNatClampNeg l3) 16 l3.toNatClampNeg)) 16 l3.toNatClampNeg ((gA (wA (wA (wB s 13 (gI s 203 0).toNatClampNeg l1) 14 (gI (wB s 13 (gI s 203 0).toNatClampNeg l1) 203 0).toNatClampNeg l3) 15 (gI (wA (wB s 13 (gI s 203 0).toNatClampNeg l1) 14 (gI (wB s 13 (gI s 203 0).toNatClampNeg l1) 203 0).toNatClampNeg l3) 203 0).toNatClampNeg (gA (wA (wB s 13 (gI s 203 0).toNatClampNeg l1) 14 (gI (wB s 13 (gI s 203 0).toNatClampNeg l1) 203 0).toNatClampNeg l3) 16 l3.toNatClampNeg)) 16 l3.toNatClampNeg) + ((1 : Int32)))) 203 0 ((gI (wA (wA (wA (wB s 13 (gI s 203 0).toNatClampNeg l1) 14 (gI (wB s 13 (gI s 203 0).toNatClampNeg l1) 203 0).toNatClampNeg l3) 15 (gI (wA (wB s 13 (gI s 203 0).toNatClampNeg l1) 14 (gI (wB s 13 (gI s 203 0).toNatClampNeg l1) 203 0).toNatClampNeg l3) 203 0).toNatClampNeg (gA (wA (wB s 13 (gI s 203 0).toNatClampNeg l1) 14 (gI (wB s 13 (gI s 203 0).toNatClampNeg l1) 203 0).toNatClampNeg l3) 16 l3.toNatClampNeg)) 16 l3.toNatClampNeg ((gA (wA (wA (wB s 13 (gI s 203 0).toNatClampNeg l1) 14 (gI (wB s 13 (gI s 203 0).toNatClampNeg l1) 203 0).toNatClampNeg l3) 15 (gI (wA (wB s 13 (gI s 203 0).toNatClampNeg l1) 14 (gI (wB s 13 (gI s 203 0).toNatClampNeg l1) 203 0).toNatClampNeg l3) 203 0).toNatClampNeg (gA (wA (wB s 13 (gI s 203 0).toNatClampNeg l1) 14 (gI (wB s 13 (gI s 203 0).toNatClampNeg l1) 203 0).toNatClampNeg l3) 16 l3.toNatClampNeg)) 16 l3.toNatClampNeg) + ((1 : Int32)))) 203 0) + ((1 : Int32)))) else none) else none) else none) else none))))
set_option maxRecDepth 20000 in
theorem cG_addWord_ok {d : Nat} (l1 : Int64) (l3 : Int32) (s : ts) (Q : ts → Prop) (h : Ok (cG_addWord l1 l3 s) Q) : am_Ev (d + 0) 45 (0, [(0, .ref 12), (1, .long (l1)), (3, .int (l3))], []) (lay s) (tq_v Q) := by
  unfold cG_addWord at h
  refine ev_aload_n (pc' := 1) m_45 rfl rfl rfl (tr_get (pc' := 4) (v := .int (gI _ 203 _)) m_45 rfl rfl ts_o12 rfl rfl rfl (ev_bipush (pc' := 6) (x := 50) m_45 rfl rfl rfl ?_))
  refine ev_icmp_ge (t := 73) (e := 9) m_45 rfl rfl rfl (fun c7 => ?_) (fun c7 => ?_)
  · replace h := Ok_t c7 h
    exact tr_rv m_45 rfl rfl (Ok_s h)
  · replace h := Ok_f c7 h
    refine ev_iload_n (pc' := 10) m_45 rfl rfl rfl ?_
    refine ev_if_lt (t := 73) (e := 13) m_45 rfl rfl rfl (fun c6 => ?_) (fun c6 => ?_)
    · replace h := Ok_t c6 h
      exact tr_rv m_45 rfl rfl (Ok_s h)
    · replace h := Ok_f c6 h
      refine ev_iload_n (pc' := 14) m_45 rfl rfl rfl (ev_iconst (pc' := 15) (x := 5) m_45 rfl rfl rfl ?_)
      refine ev_icmp_ge (t := 73) (e := 18) m_45 rfl rfl rfl (fun c5 => ?_) (fun c5 => ?_)
      · replace h := Ok_t c5 h
        exact tr_rv m_45 rfl rfl (Ok_s h)
      · replace h := Ok_f c5 h
        refine ev_aload_n (pc' := 19) m_45 rfl rfl rfl (tr_get (pc' := 22) (v := .ref 13) m_45 rfl rfl ts_o12 rfl rfl rfl (ev_aload_n (pc' := 23) m_45 rfl rfl rfl (tr_get (pc' := 26) (v := .int (gI _ 203 _)) m_45 rfl rfl ts_o12 rfl rfl rfl (ev_lload_n (pc' := 27) m_45 rfl rfl rfl ?_))))
        obtain ⟨g1, h⟩ := Ok_g h
        refine tr_last (pc' := 28) m_45 rfl rfl rfl g1 rfl (ev_aload_n (pc' := 29) m_45 rfl rfl rfl (tr_get (pc' := 32) (v := .ref 14) m_45 rfl rfl ts_o12 rfl rfl rfl (ev_aload_n (pc' := 33) m_45 rfl rfl rfl (tr_get (pc' := 36) (v := .int (gI _ 203 _)) m_45 rfl rfl ts_o12 rfl rfl rfl (ev_iload_n (pc' := 37) m_45 rfl rfl rfl ?_)))))
        obtain ⟨g2, h⟩ := Ok_g h
        refine tr_iast (pc' := 38) m_45 rfl rfl rfl g2 rfl (ev_aload_n (pc' := 39) m_45 rfl rfl rfl (tr_get (pc' := 42) (v := .ref 15) m_45 rfl rfl ts_o12 rfl rfl rfl (ev_aload_n (pc' := 43) m_45 rfl rfl rfl (tr_get (pc' := 46) (v := .int (gI _ 203 _)) m_45 rfl rfl ts_o12 rfl rfl rfl (ev_aload_n (pc' := 47) m_45 rfl rfl rfl (tr_get (pc' := 50) (v := .ref 16) m_45 rfl rfl ts_o12 rfl rfl rfl (ev_iload_n (pc' := 51) m_45 rfl rfl rfl ?_)))))))
        obtain ⟨g3, h⟩ := Ok_g h
        refine tr_iald (pc' := 52) m_45 rfl rfl rfl g3 rfl ?_
        obtain ⟨g4, h⟩ := Ok_g h
        refine tr_iast (pc' := 53) m_45 rfl rfl rfl g4 rfl (ev_aload_n (pc' := 54) m_45 rfl rfl rfl (tr_get (pc' := 57) (v := .ref 16) m_45 rfl rfl ts_o12 rfl rfl rfl (ev_iload_n (pc' := 58) m_45 rfl rfl rfl (ev_dup2 (pc' := 59) m_45 rfl ⟨rfl, rfl⟩ rfl (tr_iald (pc' := 60) m_45 rfl rfl rfl g3 rfl (ev_iconst (pc' := 61) (x := 1) m_45 rfl rfl rfl (ev_iadd (pc' := 62) m_45 rfl rfl ?_)))))))
        refine tr_iast (pc' := 63) m_45 rfl rfl rfl g3 rfl (ev_aload_n (pc' := 64) m_45 rfl rfl rfl (ev_dup (pc' := 65) m_45 rfl rfl rfl (tr_get (pc' := 68) (v := .int (gI _ 203 _)) m_45 rfl rfl ts_o12 rfl rfl rfl (ev_iconst (pc' := 69) (x := 1) m_45 rfl rfl rfl (ev_iadd (pc' := 70) m_45 rfl rfl (tr_pI (pc' := 73) (f := 203) m_45 rfl rfl rfl ts_o12 rfl rfl rfl rfl ?_))))))
        exact tr_rv m_45 rfl rfl (Ok_s h)
def cD_tell (l1 : Int32) (l2 : Int32) (s : ts) : Option (Int32 × ts) := (cT_word s).bind (fun x3 => (cD_checkNewWord l1 l2 x3.2).bind (fun x6 => (if x6.1 = ((0 : Int32)) then some ((0 : Int32), x6.2) else (cG_addWord x3.1 l1 x6.2).bind (fun s8 => (cT_advance s8).bind (fun s11 => some ((1 : Int32), s11))))))
set_option maxRecDepth 20000 in
theorem cD_tell_ok {d : Nat} (l1 : Int32) (l2 : Int32) (s : ts) (Q : Int32 × ts → Prop) (h : Ok (cD_tell l1 l2 s) Q) : am_Ev (d + 2) 38 (0, [(0, .ref 28), (1, .int (l1)), (2, .int (l2))], []) (lay s) (tq_i Q) := by
  unfold cD_tell at h
  refine ev_aload_n (pc' := 1) m_38 rfl rfl rfl (tr_get (pc' := 4) (v := .ref 7) m_38 rfl rfl ts_o28 rfl rfl rfl ?_)
  refine tr_cj (pc' := 7) m_38 rfl rfl rfl m_39 rfl rfl rfl rfl (tr_rcv ts_o7 rfl) rfl rfl (cT_word_ok _ _ (Ok_b h)) (fun x3_ x3_s h => ?_)
  refine ev_lstore_n (pc' := 8) m_38 rfl rfl rfl rfl (ev_aload_n (pc' := 9) m_38 rfl rfl rfl (ev_iload_n (pc' := 10) m_38 rfl rfl rfl (ev_iload_n (pc' := 11) m_38 rfl rfl rfl ?_)))
  refine tr_cz (pc' := 14) m_38 rfl rfl rfl m_40 rfl rfl rfl rfl rfl (tr_rcv ts_o28 rfl) rfl rfl (cD_checkNewWord_ok l1 l2 _ _ (Ok_b h)) (fun x6_ x6_s h4 h => ?_)
  refine ev_if_ne (t := 19) (e := 17) m_38 rfl rfl rfl (fun c13 => ?_) (fun c13 => ?_)
  · replace h := Ok_f c13 h
    refine ev_aload_n (pc' := 20) m_38 rfl rfl rfl (tr_get (pc' := 23) (v := .ref 12) m_38 rfl rfl ts_o28 rfl rfl rfl (ev_lload_n (pc' := 24) m_38 rfl rfl rfl (ev_iload_n (pc' := 25) m_38 rfl rfl rfl ?_)))
    refine tr_cv (pc' := 28) m_38 rfl rfl rfl m_45 rfl rfl rfl rfl (tr_rcv ts_o12 rfl) rfl rfl (cG_addWord_ok x3_ l1 _ _ (Ok_b h)) (fun s8 h => ?_)
    refine ev_aload_n (pc' := 29) m_38 rfl rfl rfl (tr_get (pc' := 32) (v := .ref 7) m_38 rfl rfl ts_o28 rfl rfl rfl ?_)
    refine tr_cv (pc' := 35) m_38 rfl rfl rfl m_37 rfl rfl rfl rfl (tr_rcv ts_o7 rfl) rfl rfl (cT_advance_ok _ _ (Ok_b h)) (fun s11 h => ?_)
    refine ev_iconst (pc' := 36) (x := 1) m_38 rfl rfl rfl ?_
    exact tr_rz m_38 rfl rfl (Or.inr rfl) (Ok_s h)
  · replace h := Ok_t c13 h
    refine ev_iconst (pc' := 18) (x := 0) m_38 rfl rfl rfl ?_
    exact tr_rz m_38 rfl rfl (Or.inl rfl) (Ok_s h)
def cT_value (s : ts) : Option (Int32 × ts) := (if am_idx (gI s 106 0) 4001 = true then some ((gB s 11 (gI s 106 0).toNatClampNeg).toInt32, s) else none)
set_option maxRecDepth 20000 in
theorem cT_value_ok {d : Nat} (s : ts) (Q : Int32 × ts → Prop) (h : Ok (cT_value s) Q) : am_Ev (d + 0) 47 (0, [(0, .ref 7)], []) (lay s) (tq_i Q) := by
  unfold cT_value at h
  refine ev_aload_n (pc' := 1) m_47 rfl rfl rfl (tr_get (pc' := 4) (v := .ref 11) m_47 rfl rfl ts_o7 rfl rfl rfl (ev_aload_n (pc' := 5) m_47 rfl rfl rfl (tr_get (pc' := 8) (v := .int (gI _ 106 _)) m_47 rfl rfl ts_o7 rfl rfl rfl ?_)))
  obtain ⟨g1, h⟩ := Ok_g h
  refine tr_lald (pc' := 9) m_47 rfl rfl rfl g1 rfl (ev_l2i (pc' := 10) m_47 rfl rfl ?_)
  exact tr_ri m_47 rfl rfl (Ok_s h)
def cD_checkNumber_42 (s : ts) : Option (Int32 × ts) := (cT_fail ((5 : Int32)) s).bind (fun x3 => (if x3.1 = ((0 : Int32)) then some ((0 : Int32), x3.2) else some ((1 : Int32), x3.2)))
set_option maxRecDepth 20000 in
theorem cD_checkNumber_42_ok {d : Nat} (s : ts) (Q : Int32 × ts → Prop) (h : Ok (cD_checkNumber_42 s) Q) : am_Ev (d + 1) 46 (42, [(0, .ref 28)], []) (lay s) (tq_i Q) := by
  unfold cD_checkNumber_42 at h
  refine ev_aload_n (pc' := 43) m_46 rfl rfl rfl (tr_get (pc' := 46) (v := .ref 7) m_46 rfl rfl ts_o28 rfl rfl rfl (ev_iconst (pc' := 47) (x := 5) m_46 rfl rfl rfl ?_))
  refine tr_cz (pc' := 50) m_46 rfl rfl rfl m_42 rfl rfl rfl rfl rfl (tr_rcv ts_o7 rfl) rfl rfl (cT_fail_ok ((5 : Int32)) _ _ (Ok_b h)) (fun x3_ x3_s h1 h => ?_)
  refine ev_if_eq (t := 57) (e := 53) m_46 rfl rfl rfl (fun c4 => ?_) (fun c4 => ?_)
  · replace h := Ok_t c4 h
    refine ev_iconst (pc' := 58) (x := 0) m_46 rfl rfl rfl ?_
    exact tr_rz m_46 rfl rfl (Or.inl rfl) (Ok_s h)
  · replace h := Ok_f c4 h
    refine ev_iconst (pc' := 54) (x := 1) m_46 rfl rfl rfl (ev_goto (pc' := 58) m_46 rfl rfl ?_)
    exact tr_rz m_46 rfl rfl (Or.inr rfl) (Ok_s h)
def cD_checkNumber (l1 : Int32) (l2 : Int32) (s : ts) : Option (Int32 × ts) := (if (gI s 107 0) = ((3 : Int32)) then (cT_value s).bind (fun x3 => (if x3.1 < l1 then cD_checkNumber_42 x3.2 else (cT_value x3.2).bind (fun x6 => (if x6.1 ≤ l2 then some ((1 : Int32), x6.2) else cD_checkNumber_42 x6.2)))) else (cT_fail ((2 : Int32)) s).bind (fun x11 => some (x11.1, x11.2)))
set_option maxRecDepth 20000 in
theorem cD_checkNumber_ok {d : Nat} (l1 : Int32) (l2 : Int32) (s : ts) (Q : Int32 × ts → Prop) (h : Ok (cD_checkNumber l1 l2 s) Q) : am_Ev (d + 1) 46 (0, [(0, .ref 28), (1, .int (l1)), (2, .int (l2))], []) (lay s) (tq_i Q) := by
  unfold cD_checkNumber at h
  refine ev_aload_n (pc' := 1) m_46 rfl rfl rfl (tr_get (pc' := 4) (v := .ref 7) m_46 rfl rfl ts_o28 rfl rfl rfl (tr_get (pc' := 7) (v := .int (gI _ 107 _)) m_46 rfl rfl ts_o7 rfl rfl rfl (ev_iconst (pc' := 8) (x := 3) m_46 rfl rfl rfl ?_)))
  refine ev_icmp_eq (t := 20) (e := 11) m_46 rfl rfl rfl (fun c12 => ?_) (fun c12 => ?_)
  · replace h := Ok_t c12 h
    refine ev_aload_n (pc' := 21) m_46 rfl rfl rfl (tr_get (pc' := 24) (v := .ref 7) m_46 rfl rfl ts_o28 rfl rfl rfl ?_)
    refine tr_ci (pc' := 27) m_46 rfl rfl rfl m_47 rfl rfl rfl rfl (tr_rcv ts_o7 rfl) rfl rfl (cT_value_ok _ _ (Ok_b h)) (fun x3_ x3_s h => ?_)
    refine ev_iload_n (pc' := 28) m_46 rfl rfl rfl ?_
    refine ev_icmp_lt (t := 42) (e := 31) m_46 rfl rfl rfl (fun c8 => ?_) (fun c8 => ?_)
    · replace h := Ok_t c8 h
      exact am_Ev.sub (L := [(0, .ref 28)]) ⟨rfl, trivial⟩ (cD_checkNumber_42_ok _ _ h)
    · replace h := Ok_f c8 h
      refine ev_aload_n (pc' := 32) m_46 rfl rfl rfl (tr_get (pc' := 35) (v := .ref 7) m_46 rfl rfl ts_o28 rfl rfl rfl ?_)
      refine tr_ci (pc' := 38) m_46 rfl rfl rfl m_47 rfl rfl rfl rfl (tr_rcv ts_o7 rfl) rfl rfl (cT_value_ok _ _ (Ok_b h)) (fun x6_ x6_s h => ?_)
      refine ev_iload_n (pc' := 39) m_46 rfl rfl rfl ?_
      refine ev_icmp_le (t := 53) (e := 42) m_46 rfl rfl rfl (fun c7 => ?_) (fun c7 => ?_)
      · replace h := Ok_t c7 h
        refine ev_iconst (pc' := 54) (x := 1) m_46 rfl rfl rfl (ev_goto (pc' := 58) m_46 rfl rfl ?_)
        exact tr_rz m_46 rfl rfl (Or.inr rfl) (Ok_s h)
      · replace h := Ok_f c7 h
        exact am_Ev.sub (L := [(0, .ref 28)]) ⟨rfl, trivial⟩ (cD_checkNumber_42_ok _ _ h)
  · replace h := Ok_f c12 h
    refine ev_aload_n (pc' := 12) m_46 rfl rfl rfl (tr_get (pc' := 15) (v := .ref 7) m_46 rfl rfl ts_o28 rfl rfl rfl (ev_iconst (pc' := 16) (x := 2) m_46 rfl rfl rfl ?_))
    refine tr_cz (pc' := 19) m_46 rfl rfl rfl m_42 rfl rfl rfl rfl rfl (tr_rcv ts_o7 rfl) rfl rfl (cT_fail_ok ((2 : Int32)) _ _ (Ok_b h)) (fun x11_ x11_s h9 h => ?_)
    exact tr_rz m_46 rfl rfl h9 (Ok_s h)
def cD_setPlace (l1 : Int32) (l2 : Int32) (l3 : Int32) (s : ts) : Option (ts) := (if l1 < ((0 : Int32)) then some s else (if ((14 : Int32)) ≤ l1 then some s else (if am_idx l1 14 = true then some (wA (wA s 17 l1.toNatClampNeg l2) 18 l1.toNatClampNeg l3) else none)))
set_option maxRecDepth 20000 in
theorem cD_setPlace_ok {d : Nat} (l1 : Int32) (l2 : Int32) (l3 : Int32) (s : ts) (Q : ts → Prop) (h : Ok (cD_setPlace l1 l2 l3 s) Q) : am_Ev (d + 0) 48 (0, [(0, .ref 28), (1, .int (l1)), (2, .int (l2)), (3, .int (l3))], []) (lay s) (tq_v Q) := by
  unfold cD_setPlace at h
  refine ev_iload_n (pc' := 1) m_48 rfl rfl rfl ?_
  refine ev_if_lt (t := 30) (e := 4) m_48 rfl rfl rfl (fun c3 => ?_) (fun c3 => ?_)
  · replace h := Ok_t c3 h
    exact tr_rv m_48 rfl rfl (Ok_s h)
  · replace h := Ok_f c3 h
    refine ev_iload_n (pc' := 5) m_48 rfl rfl rfl (ev_bipush (pc' := 7) (x := 14) m_48 rfl rfl rfl ?_)
    refine ev_icmp_ge (t := 30) (e := 10) m_48 rfl rfl rfl (fun c2 => ?_) (fun c2 => ?_)
    · replace h := Ok_t c2 h
      exact tr_rv m_48 rfl rfl (Ok_s h)
    · replace h := Ok_f c2 h
      refine ev_aload_n (pc' := 11) m_48 rfl rfl rfl (tr_get (pc' := 14) (v := .ref 12) m_48 rfl rfl ts_o28 rfl rfl rfl (tr_get (pc' := 17) (v := .ref 17) m_48 rfl rfl ts_o12 rfl rfl rfl (ev_iload_n (pc' := 18) m_48 rfl rfl rfl (ev_iload_n (pc' := 19) m_48 rfl rfl rfl ?_))))
      obtain ⟨g1, h⟩ := Ok_g h
      refine tr_iast (pc' := 20) m_48 rfl rfl rfl g1 rfl (ev_aload_n (pc' := 21) m_48 rfl rfl rfl (tr_get (pc' := 24) (v := .ref 12) m_48 rfl rfl ts_o28 rfl rfl rfl (tr_get (pc' := 27) (v := .ref 18) m_48 rfl rfl ts_o12 rfl rfl rfl (ev_iload_n (pc' := 28) m_48 rfl rfl rfl (ev_iload_n (pc' := 29) m_48 rfl rfl rfl (tr_iast (pc' := 30) m_48 rfl rfl rfl g1 rfl ?_))))))
      exact tr_rv m_48 rfl rfl (Ok_s h)
def cT_need (l1 : Int32) (s : ts) : Option (Int32 × ts) := (if (gI s 107 0) = l1 then (cT_advance s).bind (fun s2 => some ((1 : Int32), s2)) else (cT_fail ((2 : Int32)) s).bind (fun x6 => some (x6.1, x6.2)))
set_option maxRecDepth 20000 in
theorem cT_need_ok {d : Nat} (l1 : Int32) (s : ts) (Q : Int32 × ts → Prop) (h : Ok (cT_need l1 s) Q) : am_Ev (d + 1) 49 (0, [(0, .ref 7), (1, .int (l1))], []) (lay s) (tq_i Q) := by
  unfold cT_need at h
  refine ev_aload_n (pc' := 1) m_49 rfl rfl rfl (tr_get (pc' := 4) (v := .int (gI _ 107 _)) m_49 rfl rfl ts_o7 rfl rfl rfl (ev_iload_n (pc' := 5) m_49 rfl rfl rfl ?_))
  refine ev_icmp_eq (t := 14) (e := 8) m_49 rfl rfl rfl (fun c7 => ?_) (fun c7 => ?_)
  · replace h := Ok_t c7 h
    refine ev_aload_n (pc' := 15) m_49 rfl rfl rfl ?_
    refine tr_cv (pc' := 18) m_49 rfl rfl rfl m_37 rfl rfl rfl rfl (tr_rcv ts_o7 rfl) rfl rfl (cT_advance_ok _ _ (Ok_b h)) (fun s2 h => ?_)
    refine ev_iconst (pc' := 19) (x := 1) m_49 rfl rfl rfl ?_
    exact tr_rz m_49 rfl rfl (Or.inr rfl) (Ok_s h)
  · replace h := Ok_f c7 h
    refine ev_aload_n (pc' := 9) m_49 rfl rfl rfl (ev_iconst (pc' := 10) (x := 2) m_49 rfl rfl rfl ?_)
    refine tr_cz (pc' := 13) m_49 rfl rfl rfl m_42 rfl rfl rfl rfl rfl (tr_rcv ts_o7 rfl) rfl rfl (cT_fail_ok ((2 : Int32)) _ _ (Ok_b h)) (fun x6_ x6_s h4 h => ?_)
    exact tr_rz m_49 rfl rfl h4 (Ok_s h)
def cD_readResource (s : ts) : Option (Int32 × ts) := (cT_advance s).bind (fun s2 => (cD_tell ((0 : Int32)) ((8 : Int32)) s2).bind (fun x6 => (if x6.1 = ((0 : Int32)) then some ((0 : Int32), x6.2) else (cD_checkNumber ((1 : Int32)) ((99 : Int32)) x6.2).bind (fun x9 => (if x9.1 = ((0 : Int32)) then some ((0 : Int32), x9.2) else (cT_value x9.2).bind (fun x12 => (cT_value x12.2).bind (fun x15 => (cD_setPlace (gA s2 16 ((0 : Int32)).toNatClampNeg) x12.1 x15.1 x15.2).bind (fun s17 => (cT_advance s17).bind (fun s20 => (cT_need ((59 : Int32)) s20).bind (fun x24 => some (x24.1, x24.2)))))))))))
set_option maxRecDepth 20000 in
theorem cD_readResource_ok {d : Nat} (s : ts) (Q : Int32 × ts → Prop) (h : Ok (cD_readResource s) Q) : am_Ev (d + 3) 36 (0, [(0, .ref 28)], []) (lay s) (tq_i Q) := by
  unfold cD_readResource at h
  refine ev_aload_n (pc' := 1) m_36 rfl rfl rfl (tr_get (pc' := 4) (v := .ref 7) m_36 rfl rfl ts_o28 rfl rfl rfl ?_)
  refine tr_cv (pc' := 7) m_36 rfl rfl rfl m_37 rfl rfl rfl rfl (tr_rcv ts_o7 rfl) rfl rfl (cT_advance_ok _ _ (Ok_b h)) (fun s2 h => ?_)
  refine ev_aload_n (pc' := 8) m_36 rfl rfl rfl (tr_get (pc' := 11) (v := .ref 12) m_36 rfl rfl ts_o28 rfl rfl rfl (tr_get (pc' := 14) (v := .ref 16) m_36 rfl rfl ts_o12 rfl rfl rfl (ev_iconst (pc' := 15) (x := 0) m_36 rfl rfl rfl (tr_iald (pc' := 16) m_36 rfl rfl rfl rfl rfl (ev_istore_n (pc' := 17) m_36 rfl rfl rfl rfl (ev_aload_n (pc' := 18) m_36 rfl rfl rfl (ev_iconst (pc' := 19) (x := 0) m_36 rfl rfl rfl ?_)))))))
  refine ev_bipush (pc' := 21) (x := 8) m_36 rfl rfl rfl ?_
  refine tr_cz (pc' := 24) m_36 rfl rfl rfl m_38 rfl rfl rfl rfl rfl (tr_rcv ts_o28 rfl) rfl rfl (cD_tell_ok ((0 : Int32)) ((8 : Int32)) _ _ (Ok_b h)) (fun x6_ x6_s h4 h => ?_)
  refine ev_if_eq (t := 37) (e := 27) m_36 rfl rfl rfl (fun c26 => ?_) (fun c26 => ?_)
  · replace h := Ok_t c26 h
    refine ev_iconst (pc' := 38) (x := 0) m_36 rfl rfl rfl ?_
    exact tr_rz m_36 rfl rfl (Or.inl rfl) (Ok_s h)
  · replace h := Ok_f c26 h
    refine ev_aload_n (pc' := 28) m_36 rfl rfl rfl (ev_iconst (pc' := 29) (x := 1) m_36 rfl rfl rfl (ev_bipush (pc' := 31) (x := 99) m_36 rfl rfl rfl ?_))
    refine tr_cz (pc' := 34) m_36 rfl rfl rfl m_46 rfl rfl rfl rfl rfl (tr_rcv ts_o28 rfl) rfl rfl (cD_checkNumber_ok ((1 : Int32)) ((99 : Int32)) _ _ (Ok_b h)) (fun x9_ x9_s h7 h => ?_)
    refine ev_if_ne (t := 39) (e := 37) m_36 rfl rfl rfl (fun c25 => ?_) (fun c25 => ?_)
    · replace h := Ok_f c25 h
      refine ev_aload_n (pc' := 40) m_36 rfl rfl rfl (ev_iload_n (pc' := 41) m_36 rfl rfl rfl (ev_aload_n (pc' := 42) m_36 rfl rfl rfl (tr_get (pc' := 45) (v := .ref 7) m_36 rfl rfl ts_o28 rfl rfl rfl ?_)))
      refine tr_ci (pc' := 48) m_36 rfl rfl rfl m_47 rfl rfl rfl rfl (tr_rcv ts_o7 rfl) rfl rfl (cT_value_ok _ _ (Ok_b h)) (fun x12_ x12_s h => ?_)
      refine ev_aload_n (pc' := 49) m_36 rfl rfl rfl (tr_get (pc' := 52) (v := .ref 7) m_36 rfl rfl ts_o28 rfl rfl rfl ?_)
      refine tr_ci (pc' := 55) m_36 rfl rfl rfl m_47 rfl rfl rfl rfl (tr_rcv ts_o7 rfl) rfl rfl (cT_value_ok _ _ (Ok_b h)) (fun x15_ x15_s h => ?_)
      refine tr_cv (pc' := 58) m_36 rfl rfl rfl m_48 rfl rfl rfl rfl (tr_rcv ts_o28 rfl) rfl rfl (cD_setPlace_ok (gA s2 16 ((0 : Int32)).toNatClampNeg) x12_ x15_ _ _ (Ok_b h)) (fun s17 h => ?_)
      refine ev_aload_n (pc' := 59) m_36 rfl rfl rfl (tr_get (pc' := 62) (v := .ref 7) m_36 rfl rfl ts_o28 rfl rfl rfl ?_)
      refine tr_cv (pc' := 65) m_36 rfl rfl rfl m_37 rfl rfl rfl rfl (tr_rcv ts_o7 rfl) rfl rfl (cT_advance_ok _ _ (Ok_b h)) (fun s20 h => ?_)
      refine ev_aload_n (pc' := 66) m_36 rfl rfl rfl (tr_get (pc' := 69) (v := .ref 7) m_36 rfl rfl ts_o28 rfl rfl rfl (ev_bipush (pc' := 71) (x := 59) m_36 rfl rfl rfl ?_))
      refine tr_cz (pc' := 74) m_36 rfl rfl rfl m_49 rfl rfl rfl rfl rfl (tr_rcv ts_o7 rfl) rfl rfl (cT_need_ok ((59 : Int32)) _ _ (Ok_b h)) (fun x24_ x24_s h22 h => ?_)
      exact tr_rz m_36 rfl rfl h22 (Ok_s h)
    · replace h := Ok_t c25 h
      refine ev_iconst (pc' := 38) (x := 0) m_36 rfl rfl rfl ?_
      exact tr_rz m_36 rfl rfl (Or.inl rfl) (Ok_s h)
def cD_readStore (s : ts) : Option (Int32 × ts) := (cT_advance s).bind (fun s2 => (cD_tell ((1 : Int32)) ((6 : Int32)) s2).bind (fun x6 => (if x6.1 = ((0 : Int32)) then some ((0 : Int32), x6.2) else (cD_checkNumber ((0 : Int32)) ((9999 : Int32)) x6.2).bind (fun x9 => (if x9.1 = ((0 : Int32)) then some ((0 : Int32), x9.2) else (cT_value x9.2).bind (fun x12 => (cT_advance x12.2).bind (fun s14 => (cD_checkNumber (if (1 : Int32) < x12.1 then x12.1 else (1 : Int32)) ((9999 : Int32)) s14).bind (fun x18 => (if x18.1 = ((0 : Int32)) then some ((0 : Int32), x18.2) else (cT_value x18.2).bind (fun x21 => (cD_setPlace (((8 : Int32)) + (gA s2 16 ((1 : Int32)).toNatClampNeg)) x12.1 x21.1 x21.2).bind (fun s23 => (cT_advance s23).bind (fun s26 => (cT_need ((59 : Int32)) s26).bind (fun x30 => some (x30.1, x30.2))))))))))))))
set_option maxRecDepth 20000 in
theorem cD_readStore_ok {d : Nat} (s : ts) (Q : Int32 × ts → Prop) (h : Ok (cD_readStore s) Q) : am_Ev (d + 3) 50 (0, [(0, .ref 28)], []) (lay s) (tq_i Q) := by
  unfold cD_readStore at h
  refine ev_aload_n (pc' := 1) m_50 rfl rfl rfl (tr_get (pc' := 4) (v := .ref 7) m_50 rfl rfl ts_o28 rfl rfl rfl ?_)
  refine tr_cv (pc' := 7) m_50 rfl rfl rfl m_37 rfl rfl rfl rfl (tr_rcv ts_o7 rfl) rfl rfl (cT_advance_ok _ _ (Ok_b h)) (fun s2 h => ?_)
  refine ev_bipush (pc' := 9) (x := 8) m_50 rfl rfl rfl (ev_aload_n (pc' := 10) m_50 rfl rfl rfl (tr_get (pc' := 13) (v := .ref 12) m_50 rfl rfl ts_o28 rfl rfl rfl (tr_get (pc' := 16) (v := .ref 16) m_50 rfl rfl ts_o12 rfl rfl rfl (ev_iconst (pc' := 17) (x := 1) m_50 rfl rfl rfl (tr_iald (pc' := 18) m_50 rfl rfl rfl rfl rfl (ev_iadd (pc' := 19) m_50 rfl rfl (ev_istore_n (pc' := 20) m_50 rfl rfl rfl rfl ?_)))))))
  refine ev_aload_n (pc' := 21) m_50 rfl rfl rfl (ev_iconst (pc' := 22) (x := 1) m_50 rfl rfl rfl (ev_bipush (pc' := 24) (x := 6) m_50 rfl rfl rfl ?_))
  refine tr_cz (pc' := 27) m_50 rfl rfl rfl m_38 rfl rfl rfl rfl rfl (tr_rcv ts_o28 rfl) rfl rfl (cD_tell_ok ((1 : Int32)) ((6 : Int32)) _ _ (Ok_b h)) (fun x6_ x6_s h4 h => ?_)
  refine ev_if_eq (t := 41) (e := 30) m_50 rfl rfl rfl (fun c33 => ?_) (fun c33 => ?_)
  · replace h := Ok_t c33 h
    refine ev_iconst (pc' := 42) (x := 0) m_50 rfl rfl rfl ?_
    exact tr_rz m_50 rfl rfl (Or.inl rfl) (Ok_s h)
  · replace h := Ok_f c33 h
    refine ev_aload_n (pc' := 31) m_50 rfl rfl rfl (ev_iconst (pc' := 32) (x := 0) m_50 rfl rfl rfl (ev_sipush (pc' := 35) (x := 9999) m_50 rfl rfl rfl ?_))
    refine tr_cz (pc' := 38) m_50 rfl rfl rfl m_46 rfl rfl rfl rfl rfl (tr_rcv ts_o28 rfl) rfl rfl (cD_checkNumber_ok ((0 : Int32)) ((9999 : Int32)) _ _ (Ok_b h)) (fun x9_ x9_s h7 h => ?_)
    refine ev_if_ne (t := 43) (e := 41) m_50 rfl rfl rfl (fun c32 => ?_) (fun c32 => ?_)
    · replace h := Ok_f c32 h
      refine ev_aload_n (pc' := 44) m_50 rfl rfl rfl (tr_get (pc' := 47) (v := .ref 7) m_50 rfl rfl ts_o28 rfl rfl rfl ?_)
      refine tr_ci (pc' := 50) m_50 rfl rfl rfl m_47 rfl rfl rfl rfl (tr_rcv ts_o7 rfl) rfl rfl (cT_value_ok _ _ (Ok_b h)) (fun x12_ x12_s h => ?_)
      refine ev_istore_n (pc' := 51) m_50 rfl rfl rfl rfl (ev_aload_n (pc' := 52) m_50 rfl rfl rfl (tr_get (pc' := 55) (v := .ref 7) m_50 rfl rfl ts_o28 rfl rfl rfl ?_))
      refine tr_cv (pc' := 58) m_50 rfl rfl rfl m_37 rfl rfl rfl rfl (tr_rcv ts_o7 rfl) rfl rfl (cT_advance_ok _ _ (Ok_b h)) (fun s14 h => ?_)
      refine ev_aload_n (pc' := 59) m_50 rfl rfl rfl (ev_iconst (pc' := 60) (x := 1) m_50 rfl rfl rfl (ev_iload_n (pc' := 61) m_50 rfl rfl rfl (ev_prm (pc' := 64) m_50 rfl rfl rfl rfl rfl rfl rfl (ev_sipush (pc' := 67) (x := 9999) m_50 rfl rfl rfl ?_))))
      refine tr_cz (pc' := 70) m_50 rfl rfl rfl m_46 rfl rfl rfl rfl rfl (tr_rcv ts_o28 rfl) rfl rfl (cD_checkNumber_ok (if (1 : Int32) < x12_ then x12_ else (1 : Int32)) ((9999 : Int32)) _ _ (Ok_b h)) (fun x18_ x18_s h16 h => ?_)
      refine ev_if_ne (t := 75) (e := 73) m_50 rfl rfl rfl (fun c31 => ?_) (fun c31 => ?_)
      · replace h := Ok_f c31 h
        refine ev_aload_n (pc' := 76) m_50 rfl rfl rfl (ev_iload_n (pc' := 77) m_50 rfl rfl rfl (ev_iload_n (pc' := 78) m_50 rfl rfl rfl (ev_aload_n (pc' := 79) m_50 rfl rfl rfl (tr_get (pc' := 82) (v := .ref 7) m_50 rfl rfl ts_o28 rfl rfl rfl ?_))))
        refine tr_ci (pc' := 85) m_50 rfl rfl rfl m_47 rfl rfl rfl rfl (tr_rcv ts_o7 rfl) rfl rfl (cT_value_ok _ _ (Ok_b h)) (fun x21_ x21_s h => ?_)
        refine tr_cv (pc' := 88) m_50 rfl rfl rfl m_48 rfl rfl rfl rfl (tr_rcv ts_o28 rfl) rfl rfl (cD_setPlace_ok (((8 : Int32)) + (gA s2 16 ((1 : Int32)).toNatClampNeg)) x12_ x21_ _ _ (Ok_b h)) (fun s23 h => ?_)
        refine ev_aload_n (pc' := 89) m_50 rfl rfl rfl (tr_get (pc' := 92) (v := .ref 7) m_50 rfl rfl ts_o28 rfl rfl rfl ?_)
        refine tr_cv (pc' := 95) m_50 rfl rfl rfl m_37 rfl rfl rfl rfl (tr_rcv ts_o7 rfl) rfl rfl (cT_advance_ok _ _ (Ok_b h)) (fun s26 h => ?_)
        refine ev_aload_n (pc' := 96) m_50 rfl rfl rfl (tr_get (pc' := 99) (v := .ref 7) m_50 rfl rfl ts_o28 rfl rfl rfl (ev_bipush (pc' := 101) (x := 59) m_50 rfl rfl rfl ?_))
        refine tr_cz (pc' := 104) m_50 rfl rfl rfl m_49 rfl rfl rfl rfl rfl (tr_rcv ts_o7 rfl) rfl rfl (cT_need_ok ((59 : Int32)) _ _ (Ok_b h)) (fun x30_ x30_s h28 h => ?_)
        exact tr_rz m_50 rfl rfl h28 (Ok_s h)
      · replace h := Ok_t c31 h
        refine ev_iconst (pc' := 74) (x := 0) m_50 rfl rfl rfl ?_
        exact tr_rz m_50 rfl rfl (Or.inl rfl) (Ok_s h)
    · replace h := Ok_t c32 h
      refine ev_iconst (pc' := 42) (x := 0) m_50 rfl rfl rfl ?_
      exact tr_rz m_50 rfl rfl (Or.inl rfl) (Ok_s h)
def cD_readWords_2_b (kk : Int32 → Int32 → Int32 → ts → Option (Int32 × ts)) (l1 : Int32) (l2 : Int32) (l3 : Int32) (s : ts) : Option (Int32 × ts) := (if ((4001 : Int32)) ≤ l3 then some ((0 : Int32), s) else (cD_tell l1 l2 s).bind (fun x3 => (if x3.1 = ((0 : Int32)) then some ((0 : Int32), x3.2) else (if (gI x3.2 107 0) = ((44 : Int32)) then (cT_advance x3.2).bind (fun s5 => kk l1 l2 (l3 + (1 : Int32)) s5) else some ((1 : Int32), x3.2)))))
def cD_readWords_2 : Nat → Int32 → Int32 → Int32 → ts → Option (Int32 × ts)
  | 0, _, _, _, _ => none
  | n + 1, l1, l2, l3, s => cD_readWords_2_b (cD_readWords_2 n) l1 l2 l3 s
set_option maxRecDepth 20000 in
theorem cD_readWords_2_ok {d : Nat} : ∀ (n : Nat) (l1 : Int32) (l2 : Int32) (l3 : Int32) (s : ts) (Q : Int32 × ts → Prop), Ok (cD_readWords_2 n l1 l2 l3 s) Q → am_Ev (d + 3) 52 (2, [(0, .ref 28), (1, .int (l1)), (2, .int (l2)), (3, .int (l3))], []) (lay s) (tq_i Q) := by
  intro n
  induction n with
  | zero => intro l1 l2 l3 s Q h; exact Ok_n h
  | succ n ih =>
    intro l1 l2 l3 s Q h
    rw [cD_readWords_2.eq_2] at h
    unfold cD_readWords_2_b at h
    refine ev_iload_n (pc' := 3) m_52 rfl rfl rfl (ev_sipush (pc' := 6) (x := 4001) m_52 rfl rfl rfl ?_)
    refine ev_icmp_ge (t := 47) (e := 9) m_52 rfl rfl rfl (fun c9 => ?_) (fun c9 => ?_)
    · replace h := Ok_t c9 h
      refine ev_iconst (pc' := 48) (x := 0) m_52 rfl rfl rfl ?_
      exact tr_rz m_52 rfl rfl (Or.inl rfl) (Ok_s h)
    · replace h := Ok_f c9 h
      refine ev_aload_n (pc' := 10) m_52 rfl rfl rfl (ev_iload_n (pc' := 11) m_52 rfl rfl rfl (ev_iload_n (pc' := 12) m_52 rfl rfl rfl ?_))
      refine tr_cz (pc' := 15) m_52 rfl rfl rfl m_38 rfl rfl rfl rfl rfl (tr_rcv ts_o28 rfl) rfl rfl (cD_tell_ok l1 l2 _ _ (Ok_b h)) (fun x3_ x3_s h1 h => ?_)
      refine ev_if_ne (t := 20) (e := 18) m_52 rfl rfl rfl (fun c8 => ?_) (fun c8 => ?_)
      · replace h := Ok_f c8 h
        refine ev_aload_n (pc' := 21) m_52 rfl rfl rfl (tr_get (pc' := 24) (v := .ref 7) m_52 rfl rfl ts_o28 rfl rfl rfl (tr_get (pc' := 27) (v := .int (gI _ 107 _)) m_52 rfl rfl ts_o7 rfl rfl rfl (ev_bipush (pc' := 29) (x := 44) m_52 rfl rfl rfl ?_)))
        refine ev_icmp_eq (t := 34) (e := 32) m_52 rfl rfl rfl (fun c7 => ?_) (fun c7 => ?_)
        · replace h := Ok_t c7 h
          refine ev_aload_n (pc' := 35) m_52 rfl rfl rfl (tr_get (pc' := 38) (v := .ref 7) m_52 rfl rfl ts_o28 rfl rfl rfl ?_)
          refine tr_cv (pc' := 41) m_52 rfl rfl rfl m_37 rfl rfl rfl rfl (tr_rcv ts_o7 rfl) rfl rfl (cT_advance_ok _ _ (Ok_b h)) (fun s5 h => ?_)
          refine ev_iinc (pc' := 44) (z := 1) m_52 rfl rfl rfl rfl rfl rfl (ev_goto (pc' := 2) m_52 rfl rfl ?_)
          exact am_Ev.sub (L := [(0, .ref 28), (1, .int (l1)), (2, .int (l2)), (3, .int (l3 + (1 : Int32)))]) ⟨rfl, rfl, rfl, rfl, trivial⟩ (ih l1 l2 (l3 + (1 : Int32)) _ _ h)
        · replace h := Ok_f c7 h
          refine ev_iconst (pc' := 33) (x := 1) m_52 rfl rfl rfl ?_
          exact tr_rz m_52 rfl rfl (Or.inr rfl) (Ok_s h)
      · replace h := Ok_t c8 h
        refine ev_iconst (pc' := 19) (x := 0) m_52 rfl rfl rfl ?_
        exact tr_rz m_52 rfl rfl (Or.inl rfl) (Ok_s h)
def cD_readWords (l1 : Int32) (l2 : Int32) (s : ts) : Option (Int32 × ts) := cD_readWords_2 tm_N l1 l2 ((0 : Int32)) s
set_option maxRecDepth 20000 in
theorem cD_readWords_ok {d : Nat} (l1 : Int32) (l2 : Int32) (s : ts) (Q : Int32 × ts → Prop) (h : Ok (cD_readWords l1 l2 s) Q) : am_Ev (d + 3) 52 (0, [(0, .ref 28), (1, .int (l1)), (2, .int (l2))], []) (lay s) (tq_i Q) := by
  unfold cD_readWords at h
  refine ev_iconst (pc' := 1) (x := 0) m_52 rfl rfl rfl (ev_istore_n (pc' := 2) m_52 rfl rfl rfl rfl ?_)
  exact am_Ev.sub (L := [(0, .ref 28), (1, .int (l1)), (2, .int (l2)), (3, .int ((0 : Int32)))]) ⟨rfl, rfl, rfl, rfl, trivial⟩ (cD_readWords_2_ok tm_N l1 l2 ((0 : Int32)) _ _ h)
def cD_readNumbers (s : ts) : Option (Int32 × ts) := (cT_advance s).bind (fun s2 => (cD_readWords ((2 : Int32)) ((16 : Int32)) s2).bind (fun x6 => (if x6.1 = ((0 : Int32)) then some ((0 : Int32), x6.2) else (cT_need ((59 : Int32)) x6.2).bind (fun x9 => (if x9.1 = ((0 : Int32)) then some ((0 : Int32), x9.2) else some ((1 : Int32), x9.2))))))
set_option maxRecDepth 20000 in
theorem cD_readNumbers_ok {d : Nat} (s : ts) (Q : Int32 × ts → Prop) (h : Ok (cD_readNumbers s) Q) : am_Ev (d + 4) 51 (0, [(0, .ref 28)], []) (lay s) (tq_i Q) := by
  unfold cD_readNumbers at h
  refine ev_aload_n (pc' := 1) m_51 rfl rfl rfl (tr_get (pc' := 4) (v := .ref 7) m_51 rfl rfl ts_o28 rfl rfl rfl ?_)
  refine tr_cv (pc' := 7) m_51 rfl rfl rfl m_37 rfl rfl rfl rfl (tr_rcv ts_o7 rfl) rfl rfl (cT_advance_ok _ _ (Ok_b h)) (fun s2 h => ?_)
  refine ev_aload_n (pc' := 8) m_51 rfl rfl rfl (ev_iconst (pc' := 9) (x := 2) m_51 rfl rfl rfl (ev_bipush (pc' := 11) (x := 16) m_51 rfl rfl rfl ?_))
  refine tr_cz (pc' := 14) m_51 rfl rfl rfl m_52 rfl rfl rfl rfl rfl (tr_rcv ts_o28 rfl) rfl rfl (cD_readWords_ok ((2 : Int32)) ((16 : Int32)) _ _ (Ok_b h)) (fun x6_ x6_s h4 h => ?_)
  refine ev_if_eq (t := 33) (e := 17) m_51 rfl rfl rfl (fun c11 => ?_) (fun c11 => ?_)
  · replace h := Ok_t c11 h
    refine ev_iconst (pc' := 34) (x := 0) m_51 rfl rfl rfl ?_
    exact tr_rz m_51 rfl rfl (Or.inl rfl) (Ok_s h)
  · replace h := Ok_f c11 h
    refine ev_aload_n (pc' := 18) m_51 rfl rfl rfl (tr_get (pc' := 21) (v := .ref 7) m_51 rfl rfl ts_o28 rfl rfl rfl (ev_bipush (pc' := 23) (x := 59) m_51 rfl rfl rfl ?_))
    refine tr_cz (pc' := 26) m_51 rfl rfl rfl m_49 rfl rfl rfl rfl rfl (tr_rcv ts_o7 rfl) rfl rfl (cT_need_ok ((59 : Int32)) _ _ (Ok_b h)) (fun x9_ x9_s h7 h => ?_)
    refine ev_if_eq (t := 33) (e := 29) m_51 rfl rfl rfl (fun c10 => ?_) (fun c10 => ?_)
    · replace h := Ok_t c10 h
      refine ev_iconst (pc' := 34) (x := 0) m_51 rfl rfl rfl ?_
      exact tr_rz m_51 rfl rfl (Or.inl rfl) (Ok_s h)
    · replace h := Ok_f c10 h
      refine ev_iconst (pc' := 30) (x := 1) m_51 rfl rfl rfl (ev_goto (pc' := 34) m_51 rfl rfl ?_)
      exact tr_rz m_51 rfl rfl (Or.inr rfl) (Ok_s h)
def cG_isDefinition (l1 : Int32) (s : ts) : Option (Int32 × ts) := (if l1 < ((0 : Int32)) then some ((0 : Int32), s) else (if (gA s 16 ((3 : Int32)).toNatClampNeg) ≤ l1 then some ((0 : Int32), s) else (if ((12 : Int32)) ≤ l1 then some ((0 : Int32), s) else some ((1 : Int32), s))))
set_option maxRecDepth 20000 in
theorem cG_isDefinition_ok {d : Nat} (l1 : Int32) (s : ts) (Q : Int32 × ts → Prop) (h : Ok (cG_isDefinition l1 s) Q) : am_Ev (d + 0) 54 (0, [(0, .ref 12), (1, .int (l1))], []) (lay s) (tq_i Q) := by
  unfold cG_isDefinition at h
  refine ev_iload_n (pc' := 1) m_54 rfl rfl rfl ?_
  refine ev_if_lt (t := 24) (e := 4) m_54 rfl rfl rfl (fun c3 => ?_) (fun c3 => ?_)
  · replace h := Ok_t c3 h
    refine ev_iconst (pc' := 25) (x := 0) m_54 rfl rfl rfl ?_
    exact tr_rz m_54 rfl rfl (Or.inl rfl) (Ok_s h)
  · replace h := Ok_f c3 h
    refine ev_iload_n (pc' := 5) m_54 rfl rfl rfl (ev_aload_n (pc' := 6) m_54 rfl rfl rfl (tr_get (pc' := 9) (v := .ref 16) m_54 rfl rfl ts_o12 rfl rfl rfl (ev_iconst (pc' := 10) (x := 3) m_54 rfl rfl rfl (tr_iald (pc' := 11) m_54 rfl rfl rfl rfl rfl ?_))))
    refine ev_icmp_ge (t := 24) (e := 14) m_54 rfl rfl rfl (fun c2 => ?_) (fun c2 => ?_)
    · replace h := Ok_t c2 h
      refine ev_iconst (pc' := 25) (x := 0) m_54 rfl rfl rfl ?_
      exact tr_rz m_54 rfl rfl (Or.inl rfl) (Ok_s h)
    · replace h := Ok_f c2 h
      refine ev_iload_n (pc' := 15) m_54 rfl rfl rfl (ev_bipush (pc' := 17) (x := 12) m_54 rfl rfl rfl ?_)
      refine ev_icmp_ge (t := 24) (e := 20) m_54 rfl rfl rfl (fun c1 => ?_) (fun c1 => ?_)
      · replace h := Ok_t c1 h
        refine ev_iconst (pc' := 25) (x := 0) m_54 rfl rfl rfl ?_
        exact tr_rz m_54 rfl rfl (Or.inl rfl) (Ok_s h)
      · replace h := Ok_f c1 h
        refine ev_iconst (pc' := 21) (x := 1) m_54 rfl rfl rfl (ev_goto (pc' := 25) m_54 rfl rfl ?_)
        exact tr_rz m_54 rfl rfl (Or.inr rfl) (Ok_s h)
def cG_findValue_39 (k7 : Int64 → Int32 → ts → Option (Int32 × ts)) (l1 : Int64) (l3 : Int32) (s : ts) : Option (Int32 × ts) := (if am_idx l3 50 = true then (if (lg_cmp (gB s 13 l3.toNatClampNeg) l1) = ((0 : Int32)) then (if (gA s 14 l3.toNatClampNeg) = ((2 : Int32)) then some (((8 : Int32)) + (gA s 15 l3.toNatClampNeg), s) else k7 l1 (l3 + (-1 : Int32)) s) else k7 l1 (l3 + (-1 : Int32)) s) else none)
set_option maxRecDepth 20000 in
theorem cG_findValue_39_ok {d : Nat} (k7 : Int64 → Int32 → ts → Option (Int32 × ts)) (hk7 : ∀ (l1 : Int64) (l3 : Int32) (s : ts) (Q : Int32 × ts → Prop), Ok (k7 l1 l3 s) Q → am_Ev (d + 0) 58 (7, [(0, .ref 12), (1, .long (l1)), (3, .int (l3))], []) (lay s) (tq_i Q)) (l1 : Int64) (l3 : Int32) (s : ts) (Q : Int32 × ts → Prop) (h : Ok (cG_findValue_39 k7 l1 l3 s) Q) : am_Ev (d + 0) 58 (39, [(0, .ref 12), (1, .long (l1)), (3, .int (l3))], []) (lay s) (tq_i Q) := by
  unfold cG_findValue_39 at h
  refine ev_aload_n (pc' := 40) m_58 rfl rfl rfl (tr_get (pc' := 43) (v := .ref 13) m_58 rfl rfl ts_o12 rfl rfl rfl (ev_iload_n (pc' := 44) m_58 rfl rfl rfl ?_))
  obtain ⟨g1, h⟩ := Ok_g h
  refine tr_lald (pc' := 45) m_58 rfl rfl rfl g1 rfl (ev_lload_n (pc' := 46) m_58 rfl rfl rfl (ev_lcmp (pc' := 47) m_58 rfl rfl ?_))
  refine ev_if_ne (t := 70) (e := 50) m_58 rfl rfl rfl (fun c3 => ?_) (fun c3 => ?_)
  · replace h := Ok_f c3 h
    refine ev_iinc (pc' := 73) (z := -1) m_58 rfl rfl rfl rfl rfl rfl (ev_goto (pc' := 7) m_58 rfl rfl ?_)
    exact am_Ev.sub (L := [(0, .ref 12), (1, .long (l1)), (3, .int (l3 + (-1 : Int32)))]) ⟨rfl, rfl, rfl, trivial⟩ (hk7 l1 (l3 + (-1 : Int32)) _ _ h)
  · replace h := Ok_t c3 h
    refine ev_aload_n (pc' := 51) m_58 rfl rfl rfl (tr_get (pc' := 54) (v := .ref 14) m_58 rfl rfl ts_o12 rfl rfl rfl (ev_iload_n (pc' := 55) m_58 rfl rfl rfl (tr_iald (pc' := 56) m_58 rfl rfl rfl g1 rfl (ev_iconst (pc' := 57) (x := 2) m_58 rfl rfl rfl ?_))))
    refine ev_icmp_ne (t := 70) (e := 60) m_58 rfl rfl rfl (fun c2 => ?_) (fun c2 => ?_)
    · replace h := Ok_f c2 h
      refine ev_iinc (pc' := 73) (z := -1) m_58 rfl rfl rfl rfl rfl rfl (ev_goto (pc' := 7) m_58 rfl rfl ?_)
      exact am_Ev.sub (L := [(0, .ref 12), (1, .long (l1)), (3, .int (l3 + (-1 : Int32)))]) ⟨rfl, rfl, rfl, trivial⟩ (hk7 l1 (l3 + (-1 : Int32)) _ _ h)
    · replace h := Ok_t c2 h
      refine ev_bipush (pc' := 62) (x := 8) m_58 rfl rfl rfl (ev_aload_n (pc' := 63) m_58 rfl rfl rfl (tr_get (pc' := 66) (v := .ref 15) m_58 rfl rfl ts_o12 rfl rfl rfl (ev_iload_n (pc' := 67) m_58 rfl rfl rfl (tr_iald (pc' := 68) m_58 rfl rfl rfl g1 rfl (ev_iadd (pc' := 69) m_58 rfl rfl ?_)))))
      exact tr_ri m_58 rfl rfl (Ok_s h)
def cG_findValue_7_b (kk : Int64 → Int32 → ts → Option (Int32 × ts)) (l1 : Int64) (l3 : Int32) (s : ts) : Option (Int32 × ts) := (if l3 < ((0 : Int32)) then some ((-2 : Int32), s) else (if am_idx l3 50 = true then (if (lg_cmp (gB s 13 l3.toNatClampNeg) l1) = ((0 : Int32)) then (if (gA s 14 l3.toNatClampNeg) = ((4 : Int32)) then some (gA s 15 l3.toNatClampNeg, s) else cG_findValue_39 kk l1 l3 s) else cG_findValue_39 kk l1 l3 s) else none))
def cG_findValue_7 : Nat → Int64 → Int32 → ts → Option (Int32 × ts)
  | 0, _, _, _ => none
  | n + 1, l1, l3, s => cG_findValue_7_b (cG_findValue_7 n) l1 l3 s
set_option maxRecDepth 20000 in
theorem cG_findValue_7_ok {d : Nat} : ∀ (n : Nat) (l1 : Int64) (l3 : Int32) (s : ts) (Q : Int32 × ts → Prop), Ok (cG_findValue_7 n l1 l3 s) Q → am_Ev (d + 0) 58 (7, [(0, .ref 12), (1, .long (l1)), (3, .int (l3))], []) (lay s) (tq_i Q) := by
  intro n
  induction n with
  | zero => intro l1 l3 s Q h; exact Ok_n h
  | succ n ih =>
    intro l1 l3 s Q h
    rw [cG_findValue_7.eq_2] at h
    unfold cG_findValue_7_b at h
    refine ev_iload_n (pc' := 8) m_58 rfl rfl rfl ?_
    refine ev_if_lt (t := 76) (e := 11) m_58 rfl rfl rfl (fun c4 => ?_) (fun c4 => ?_)
    · replace h := Ok_t c4 h
      refine ev_bipush (pc' := 78) (x := -2) m_58 rfl rfl rfl ?_
      exact tr_ri m_58 rfl rfl (Ok_s h)
    · replace h := Ok_f c4 h
      refine ev_aload_n (pc' := 12) m_58 rfl rfl rfl (tr_get (pc' := 15) (v := .ref 13) m_58 rfl rfl ts_o12 rfl rfl rfl (ev_iload_n (pc' := 16) m_58 rfl rfl rfl ?_))
      obtain ⟨g1, h⟩ := Ok_g h
      refine tr_lald (pc' := 17) m_58 rfl rfl rfl g1 rfl (ev_lload_n (pc' := 18) m_58 rfl rfl rfl (ev_lcmp (pc' := 19) m_58 rfl rfl ?_))
      refine ev_if_ne (t := 39) (e := 22) m_58 rfl rfl rfl (fun c3 => ?_) (fun c3 => ?_)
      · replace h := Ok_f c3 h
        exact am_Ev.sub (L := [(0, .ref 12), (1, .long (l1)), (3, .int (l3))]) ⟨rfl, rfl, rfl, trivial⟩ (cG_findValue_39_ok (cG_findValue_7 n) ih l1 l3 _ _ h)
      · replace h := Ok_t c3 h
        refine ev_aload_n (pc' := 23) m_58 rfl rfl rfl (tr_get (pc' := 26) (v := .ref 14) m_58 rfl rfl ts_o12 rfl rfl rfl (ev_iload_n (pc' := 27) m_58 rfl rfl rfl (tr_iald (pc' := 28) m_58 rfl rfl rfl g1 rfl (ev_iconst (pc' := 29) (x := 4) m_58 rfl rfl rfl ?_))))
        refine ev_icmp_ne (t := 39) (e := 32) m_58 rfl rfl rfl (fun c2 => ?_) (fun c2 => ?_)
        · replace h := Ok_f c2 h
          exact am_Ev.sub (L := [(0, .ref 12), (1, .long (l1)), (3, .int (l3))]) ⟨rfl, rfl, rfl, trivial⟩ (cG_findValue_39_ok (cG_findValue_7 n) ih l1 l3 _ _ h)
        · replace h := Ok_t c2 h
          refine ev_aload_n (pc' := 33) m_58 rfl rfl rfl (tr_get (pc' := 36) (v := .ref 15) m_58 rfl rfl ts_o12 rfl rfl rfl (ev_iload_n (pc' := 37) m_58 rfl rfl rfl (tr_iald (pc' := 38) m_58 rfl rfl rfl g1 rfl ?_)))
          exact tr_ri m_58 rfl rfl (Ok_s h)
def cG_findValue (l1 : Int64) (s : ts) : Option (Int32 × ts) := cG_findValue_7 tm_N l1 ((gI s 203 0) - ((1 : Int32))) s
set_option maxRecDepth 20000 in
theorem cG_findValue_ok {d : Nat} (l1 : Int64) (s : ts) (Q : Int32 × ts → Prop) (h : Ok (cG_findValue l1 s) Q) : am_Ev (d + 0) 58 (0, [(0, .ref 12), (1, .long (l1))], []) (lay s) (tq_i Q) := by
  unfold cG_findValue at h
  refine ev_aload_n (pc' := 1) m_58 rfl rfl rfl (tr_get (pc' := 4) (v := .int (gI _ 203 _)) m_58 rfl rfl ts_o12 rfl rfl rfl (ev_iconst (pc' := 5) (x := 1) m_58 rfl rfl rfl (ev_isub (pc' := 6) m_58 rfl rfl (ev_istore_n (pc' := 7) m_58 rfl rfl rfl rfl ?_))))
  exact am_Ev.sub (L := [(0, .ref 12), (1, .long (l1)), (3, .int ((gI s 203 0) - ((1 : Int32))))]) ⟨rfl, rfl, rfl, trivial⟩ (cG_findValue_7_ok tm_N l1 ((gI s 203 0) - ((1 : Int32))) _ _ h)
def cD_faultOfStatement (s : ts) : Option (Int32 × ts) := (if (gI s 107 0) = ((2 : Int32)) then (cT_word s).bind (fun x6 => (cG_findValue x6.1 x6.2).bind (fun x9 => (if x9.1 = ((-2 : Int32)) then some ((4 : Int32), x9.2) else some ((0 : Int32), x9.2)))) else (if (gI s 107 0) < ((516 : Int32)) then some ((2 : Int32), s) else (if ((530 : Int32)) < (gI s 107 0) then some ((2 : Int32), s) else (if (gI s 107 0) = ((518 : Int32)) then some ((2 : Int32), s) else some ((0 : Int32), s)))))
set_option maxRecDepth 20000 in
theorem cD_faultOfStatement_ok {d : Nat} (s : ts) (Q : Int32 × ts → Prop) (h : Ok (cD_faultOfStatement s) Q) : am_Ev (d + 1) 57 (0, [(0, .ref 28)], []) (lay s) (tq_i Q) := by
  unfold cD_faultOfStatement at h
  refine ev_aload_n (pc' := 1) m_57 rfl rfl rfl (tr_get (pc' := 4) (v := .ref 7) m_57 rfl rfl ts_o28 rfl rfl rfl (tr_get (pc' := 7) (v := .int (gI _ 107 _)) m_57 rfl rfl ts_o7 rfl rfl rfl (ev_istore_n (pc' := 8) m_57 rfl rfl rfl rfl (ev_iload_n (pc' := 9) m_57 rfl rfl rfl (ev_iconst (pc' := 10) (x := 2) m_57 rfl rfl rfl ?_)))))
  refine ev_icmp_ne (t := 38) (e := 13) m_57 rfl rfl rfl (fun c11 => ?_) (fun c11 => ?_)
  · replace h := Ok_f c11 h
    refine ev_iload_n (pc' := 39) m_57 rfl rfl rfl (ev_sipush (pc' := 42) (x := 516) m_57 rfl rfl rfl ?_)
    refine ev_icmp_lt (t := 61) (e := 45) m_57 rfl rfl rfl (fun c3 => ?_) (fun c3 => ?_)
    · replace h := Ok_t c3 h
      refine ev_iconst (pc' := 62) (x := 2) m_57 rfl rfl rfl ?_
      exact tr_ri m_57 rfl rfl (Ok_s h)
    · replace h := Ok_f c3 h
      refine ev_iload_n (pc' := 46) m_57 rfl rfl rfl (ev_sipush (pc' := 49) (x := 530) m_57 rfl rfl rfl ?_)
      refine ev_icmp_gt (t := 61) (e := 52) m_57 rfl rfl rfl (fun c2 => ?_) (fun c2 => ?_)
      · replace h := Ok_t c2 h
        refine ev_iconst (pc' := 62) (x := 2) m_57 rfl rfl rfl ?_
        exact tr_ri m_57 rfl rfl (Ok_s h)
      · replace h := Ok_f c2 h
        refine ev_iload_n (pc' := 53) m_57 rfl rfl rfl (ev_sipush (pc' := 56) (x := 518) m_57 rfl rfl rfl ?_)
        refine ev_icmp_eq (t := 61) (e := 59) m_57 rfl rfl rfl (fun c1 => ?_) (fun c1 => ?_)
        · replace h := Ok_t c1 h
          refine ev_iconst (pc' := 62) (x := 2) m_57 rfl rfl rfl ?_
          exact tr_ri m_57 rfl rfl (Ok_s h)
        · replace h := Ok_f c1 h
          refine ev_iconst (pc' := 60) (x := 0) m_57 rfl rfl rfl ?_
          exact tr_ri m_57 rfl rfl (Ok_s h)
  · replace h := Ok_t c11 h
    refine ev_aload_n (pc' := 14) m_57 rfl rfl rfl (tr_get (pc' := 17) (v := .ref 12) m_57 rfl rfl ts_o28 rfl rfl rfl (ev_aload_n (pc' := 18) m_57 rfl rfl rfl (tr_get (pc' := 21) (v := .ref 7) m_57 rfl rfl ts_o28 rfl rfl rfl ?_)))
    refine tr_cj (pc' := 24) m_57 rfl rfl rfl m_39 rfl rfl rfl rfl (tr_rcv ts_o7 rfl) rfl rfl (cT_word_ok _ _ (Ok_b h)) (fun x6_ x6_s h => ?_)
    refine tr_ci (pc' := 27) m_57 rfl rfl rfl m_58 rfl rfl rfl rfl (tr_rcv ts_o12 rfl) rfl rfl (cG_findValue_ok x6_ _ _ (Ok_b h)) (fun x9_ x9_s h => ?_)
    refine ev_bipush (pc' := 29) (x := -2) m_57 rfl rfl rfl ?_
    refine ev_icmp_ne (t := 36) (e := 32) m_57 rfl rfl rfl (fun c10 => ?_) (fun c10 => ?_)
    · replace h := Ok_f c10 h
      refine ev_iconst (pc' := 37) (x := 0) m_57 rfl rfl rfl ?_
      exact tr_ri m_57 rfl rfl (Ok_s h)
    · replace h := Ok_t c10 h
      refine ev_iconst (pc' := 33) (x := 4) m_57 rfl rfl rfl (ev_goto (pc' := 37) m_57 rfl rfl ?_)
      exact tr_ri m_57 rfl rfl (Ok_s h)
def cF_faultOfOne (s : ts) : Option (Int32 × ts) := (if (gI s 107 0) = (2 : Int32) then (cT_word s).bind (fun x3 => (cG_findValue x3.1 x3.2).bind (fun x6 => (if x6.1 = ((-2 : Int32)) then some ((4 : Int32), x6.2) else some ((0 : Int32), x6.2)))) else (if (gI s 107 0) = (3 : Int32) then some ((0 : Int32), s) else (if (gI s 107 0) = (33 : Int32) then some ((0 : Int32), s) else (if (gI s 107 0) = (40 : Int32) then some ((0 : Int32), s) else (if (gI s 107 0) = (45 : Int32) then some ((0 : Int32), s) else (if (gI s 107 0) = (531 : Int32) then some ((0 : Int32), s) else (if (gI s 107 0) = (532 : Int32) then some ((0 : Int32), s) else (if (gI s 107 0) = (533 : Int32) then (if (gI s 302 0) = ((0 : Int32)) then some ((0 : Int32), s) else some ((4 : Int32), s)) else (if (gI s 107 0) = (534 : Int32) then some ((0 : Int32), s) else (if (gI s 107 0) = (535 : Int32) then some ((0 : Int32), s) else some ((2 : Int32), s)))))))))))
set_option maxRecDepth 20000 in
theorem cF_faultOfOne_ok {d : Nat} (s : ts) (Q : Int32 × ts → Prop) (h : Ok (cF_faultOfOne s) Q) : am_Ev (d + 1) 64 (0, [(0, .ref 33)], []) (lay s) (tq_i Q) := by
  unfold cF_faultOfOne at h
  refine ev_aload_n (pc' := 1) m_64 rfl rfl rfl (tr_get (pc' := 4) (v := .ref 7) m_64 rfl rfl ts_o33 rfl rfl rfl (tr_get (pc' := 7) (v := .int (gI _ 107 _)) m_64 rfl rfl ts_o7 rfl rfl rfl ?_))
  by_cases c8 : (gI s 107 0) = (2 : Int32)
  · replace h := Ok_t c8 h
    refine ev_sw (pc' := 111) m_64 rfl (by rw [c8]; rfl) ?_
    refine ev_aload_n (pc' := 112) m_64 rfl rfl rfl (tr_get (pc' := 115) (v := .ref 12) m_64 rfl rfl ts_o33 rfl rfl rfl (ev_aload_n (pc' := 116) m_64 rfl rfl rfl (tr_get (pc' := 119) (v := .ref 7) m_64 rfl rfl ts_o33 rfl rfl rfl ?_)))
    refine tr_cj (pc' := 122) m_64 rfl rfl rfl m_39 rfl rfl rfl rfl (tr_rcv ts_o7 rfl) rfl rfl (cT_word_ok _ _ (Ok_b h)) (fun x3_ x3_s h => ?_)
    refine tr_ci (pc' := 125) m_64 rfl rfl rfl m_58 rfl rfl rfl rfl (tr_rcv ts_o12 rfl) rfl rfl (cG_findValue_ok x3_ _ _ (Ok_b h)) (fun x6_ x6_s h => ?_)
    refine ev_bipush (pc' := 127) (x := -2) m_64 rfl rfl rfl ?_
    refine ev_icmp_ne (t := 134) (e := 130) m_64 rfl rfl rfl (fun c7 => ?_) (fun c7 => ?_)
    · replace h := Ok_f c7 h
      refine ev_iconst (pc' := 135) (x := 0) m_64 rfl rfl rfl ?_
      exact tr_ri m_64 rfl rfl (Ok_s h)
    · replace h := Ok_t c7 h
      refine ev_iconst (pc' := 131) (x := 4) m_64 rfl rfl rfl (ev_goto (pc' := 135) m_64 rfl rfl ?_)
      exact tr_ri m_64 rfl rfl (Ok_s h)
  replace h := Ok_f c8 h
  by_cases c9 : (gI s 107 0) = (3 : Int32)
  · replace h := Ok_t c9 h
    refine ev_sw (pc' := 96) m_64 rfl (by rw [c9]; rfl) ?_
    refine ev_iconst (pc' := 97) (x := 0) m_64 rfl rfl rfl ?_
    exact tr_ri m_64 rfl rfl (Ok_s h)
  replace h := Ok_f c9 h
  by_cases c10 : (gI s 107 0) = (33 : Int32)
  · replace h := Ok_t c10 h
    refine ev_sw (pc' := 96) m_64 rfl (by rw [c10]; rfl) ?_
    refine ev_iconst (pc' := 97) (x := 0) m_64 rfl rfl rfl ?_
    exact tr_ri m_64 rfl rfl (Ok_s h)
  replace h := Ok_f c10 h
  by_cases c11 : (gI s 107 0) = (40 : Int32)
  · replace h := Ok_t c11 h
    refine ev_sw (pc' := 96) m_64 rfl (by rw [c11]; rfl) ?_
    refine ev_iconst (pc' := 97) (x := 0) m_64 rfl rfl rfl ?_
    exact tr_ri m_64 rfl rfl (Ok_s h)
  replace h := Ok_f c11 h
  by_cases c12 : (gI s 107 0) = (45 : Int32)
  · replace h := Ok_t c12 h
    refine ev_sw (pc' := 96) m_64 rfl (by rw [c12]; rfl) ?_
    refine ev_iconst (pc' := 97) (x := 0) m_64 rfl rfl rfl ?_
    exact tr_ri m_64 rfl rfl (Ok_s h)
  replace h := Ok_f c12 h
  by_cases c13 : (gI s 107 0) = (531 : Int32)
  · replace h := Ok_t c13 h
    refine ev_sw (pc' := 96) m_64 rfl (by rw [c13]; rfl) ?_
    refine ev_iconst (pc' := 97) (x := 0) m_64 rfl rfl rfl ?_
    exact tr_ri m_64 rfl rfl (Ok_s h)
  replace h := Ok_f c13 h
  by_cases c14 : (gI s 107 0) = (532 : Int32)
  · replace h := Ok_t c14 h
    refine ev_sw (pc' := 96) m_64 rfl (by rw [c14]; rfl) ?_
    refine ev_iconst (pc' := 97) (x := 0) m_64 rfl rfl rfl ?_
    exact tr_ri m_64 rfl rfl (Ok_s h)
  replace h := Ok_f c14 h
  by_cases c16 : (gI s 107 0) = (533 : Int32)
  · replace h := Ok_t c16 h
    refine ev_sw (pc' := 98) m_64 rfl (by rw [c16]; rfl) ?_
    refine ev_aload_n (pc' := 99) m_64 rfl rfl rfl (tr_get (pc' := 102) (v := .int (gI _ 302 _)) m_64 rfl rfl ts_o33 rfl rfl rfl ?_)
    refine ev_if_eq (t := 109) (e := 105) m_64 rfl rfl rfl (fun c15 => ?_) (fun c15 => ?_)
    · replace h := Ok_t c15 h
      refine ev_iconst (pc' := 110) (x := 0) m_64 rfl rfl rfl ?_
      exact tr_ri m_64 rfl rfl (Ok_s h)
    · replace h := Ok_f c15 h
      refine ev_iconst (pc' := 106) (x := 4) m_64 rfl rfl rfl (ev_goto (pc' := 110) m_64 rfl rfl ?_)
      exact tr_ri m_64 rfl rfl (Ok_s h)
  replace h := Ok_f c16 h
  by_cases c17 : (gI s 107 0) = (534 : Int32)
  · replace h := Ok_t c17 h
    refine ev_sw (pc' := 96) m_64 rfl (by rw [c17]; rfl) ?_
    refine ev_iconst (pc' := 97) (x := 0) m_64 rfl rfl rfl ?_
    exact tr_ri m_64 rfl rfl (Ok_s h)
  replace h := Ok_f c17 h
  by_cases c18 : (gI s 107 0) = (535 : Int32)
  · replace h := Ok_t c18 h
    refine ev_sw (pc' := 96) m_64 rfl (by rw [c18]; rfl) ?_
    refine ev_iconst (pc' := 97) (x := 0) m_64 rfl rfl rfl ?_
    exact tr_ri m_64 rfl rfl (Ok_s h)
  replace h := Ok_f c18 h
  refine ev_sw (pc' := 136) m_64 rfl (by exact ev_ldef rfl (by simp only [Op.lookupswitch.offset, List.find?]; rw [if_neg (ts_nel c8 (by decide)), if_neg (ts_nel c9 (by decide)), if_neg (ts_nel c10 (by decide)), if_neg (ts_nel c11 (by decide)), if_neg (ts_nel c12 (by decide)), if_neg (ts_nel c13 (by decide)), if_neg (ts_nel c14 (by decide)), if_neg (ts_nel c16 (by decide)), if_neg (ts_nel c17 (by decide)), if_neg (ts_nel c18 (by decide))]) rfl) ?_
  refine ev_iconst (pc' := 137) (x := 2) m_64 rfl rfl rfl ?_
  exact tr_ri m_64 rfl rfl (Ok_s h)
def cG_addOp (l1 : Int32) (l2 : Int32) (s : ts) : Option (Int32 × ts) := (if (gI s 217 0) < ((4000 : Int32)) then (if am_idx (gI s 217 0) 4000 = true then (if am_idx (gI (wA s 26 (gI s 217 0).toNatClampNeg l1) 217 0) 4000 = true then some ((gI (wI (wA (wA s 26 (gI s 217 0).toNatClampNeg l1) 27 (gI (wA s 26 (gI s 217 0).toNatClampNeg l1) 217 0).toNatClampNeg l2) 217 0 ((gI (wA (wA s 26 (gI s 217 0).toNatClampNeg l1) 27 (gI (wA s 26 (gI s 217 0).toNatClampNeg l1) 217 0).toNatClampNeg l2) 217 0) + ((1 : Int32)))) 217 0) - ((1 : Int32)), wI (wA (wA s 26 (gI s 217 0).toNatClampNeg l1) 27 (gI (wA s 26 (gI s 217 0).toNatClampNeg l1) 217 0).toNatClampNeg l2) 217 0 ((gI (wA (wA s 26 (gI s 217 0).toNatClampNeg l1) 27 (gI (wA s 26 (gI s 217 0).toNatClampNeg l1) 217 0).toNatClampNeg l2) 217 0) + ((1 : Int32)))) else none) else none) else some ((-2 : Int32), s))
set_option maxRecDepth 20000 in
theorem cG_addOp_ok {d : Nat} (l1 : Int32) (l2 : Int32) (s : ts) (Q : Int32 × ts → Prop) (h : Ok (cG_addOp l1 l2 s) Q) : am_Ev (d + 0) 65 (0, [(0, .ref 12), (1, .int (l1)), (2, .int (l2))], []) (lay s) (tq_i Q) := by
  unfold cG_addOp at h
  refine ev_aload_n (pc' := 1) m_65 rfl rfl rfl (tr_get (pc' := 4) (v := .int (gI _ 217 _)) m_65 rfl rfl ts_o12 rfl rfl rfl (ev_sipush (pc' := 7) (x := 4000) m_65 rfl rfl rfl ?_))
  refine ev_icmp_lt (t := 13) (e := 10) m_65 rfl rfl rfl (fun c3 => ?_) (fun c3 => ?_)
  · replace h := Ok_t c3 h
    refine ev_aload_n (pc' := 14) m_65 rfl rfl rfl (tr_get (pc' := 17) (v := .ref 26) m_65 rfl rfl ts_o12 rfl rfl rfl (ev_aload_n (pc' := 18) m_65 rfl rfl rfl (tr_get (pc' := 21) (v := .int (gI _ 217 _)) m_65 rfl rfl ts_o12 rfl rfl rfl (ev_iload_n (pc' := 22) m_65 rfl rfl rfl ?_))))
    obtain ⟨g1, h⟩ := Ok_g h
    refine tr_iast (pc' := 23) m_65 rfl rfl rfl g1 rfl (ev_aload_n (pc' := 24) m_65 rfl rfl rfl (tr_get (pc' := 27) (v := .ref 27) m_65 rfl rfl ts_o12 rfl rfl rfl (ev_aload_n (pc' := 28) m_65 rfl rfl rfl (tr_get (pc' := 31) (v := .int (gI _ 217 _)) m_65 rfl rfl ts_o12 rfl rfl rfl (ev_iload_n (pc' := 32) m_65 rfl rfl rfl ?_)))))
    obtain ⟨g2, h⟩ := Ok_g h
    refine tr_iast (pc' := 33) m_65 rfl rfl rfl g2 rfl (ev_aload_n (pc' := 34) m_65 rfl rfl rfl (ev_dup (pc' := 35) m_65 rfl rfl rfl (tr_get (pc' := 38) (v := .int (gI _ 217 _)) m_65 rfl rfl ts_o12 rfl rfl rfl (ev_iconst (pc' := 39) (x := 1) m_65 rfl rfl rfl (ev_iadd (pc' := 40) m_65 rfl rfl (tr_pI (pc' := 43) (f := 217) m_65 rfl rfl rfl ts_o12 rfl rfl rfl rfl (ev_aload_n (pc' := 44) m_65 rfl rfl rfl ?_)))))))
    refine tr_get (pc' := 47) (v := .int (gI _ 217 _)) m_65 rfl rfl ts_o12 rfl rfl rfl (ev_iconst (pc' := 48) (x := 1) m_65 rfl rfl rfl (ev_isub (pc' := 49) m_65 rfl rfl ?_))
    exact tr_ri m_65 rfl rfl (Ok_s h)
  · replace h := Ok_f c3 h
    refine ev_bipush (pc' := 12) (x := -2) m_65 rfl rfl rfl ?_
    exact tr_ri m_65 rfl rfl (Ok_s h)
def cG_findPlace_46 (k3 : Int64 → Int32 → Int32 → Int32 → ts → Option (Int32 × ts)) (l1 : Int64) (l3 : Int32) (l4 : Int32) (l5 : Int32) (s : ts) : Option (Int32 × ts) := (if am_idx l5 50 = true then (if (lg_cmp (gB s 13 l5.toNatClampNeg) l1) = ((0 : Int32)) then (if (gA s 14 l5.toNatClampNeg) = ((1 : Int32)) then (if l4 = ((0 : Int32)) then k3 l1 l3 l4 (l5 + (1 : Int32)) s else some (((8 : Int32)) + (gA s 15 l5.toNatClampNeg), s)) else k3 l1 l3 l4 (l5 + (1 : Int32)) s) else k3 l1 l3 l4 (l5 + (1 : Int32)) s) else none)
set_option maxRecDepth 20000 in
theorem cG_findPlace_46_ok {d : Nat} (k3 : Int64 → Int32 → Int32 → Int32 → ts → Option (Int32 × ts)) (hk3 : ∀ (l1 : Int64) (l3 : Int32) (l4 : Int32) (l5 : Int32) (s : ts) (Q : Int32 × ts → Prop), Ok (k3 l1 l3 l4 l5 s) Q → am_Ev (d + 0) 67 (3, [(0, .ref 12), (1, .long (l1)), (3, .int (l3)), (4, .int (l4)), (5, .int (l5))], []) (lay s) (tq_i Q)) (l1 : Int64) (l3 : Int32) (l4 : Int32) (l5 : Int32) (s : ts) (Q : Int32 × ts → Prop) (h : Ok (cG_findPlace_46 k3 l1 l3 l4 l5 s) Q) : am_Ev (d + 0) 67 (46, [(0, .ref 12), (1, .long (l1)), (3, .int (l3)), (4, .int (l4)), (5, .int (l5))], []) (lay s) (tq_i Q) := by
  unfold cG_findPlace_46 at h
  refine ev_aload_n (pc' := 47) m_67 rfl rfl rfl (tr_get (pc' := 50) (v := .ref 13) m_67 rfl rfl ts_o12 rfl rfl rfl (ev_iload (pc' := 52) m_67 rfl rfl rfl ?_))
  obtain ⟨g1, h⟩ := Ok_g h
  refine tr_lald (pc' := 53) m_67 rfl rfl rfl g1 rfl (ev_lload_n (pc' := 54) m_67 rfl rfl rfl (ev_lcmp (pc' := 55) m_67 rfl rfl ?_))
  refine ev_if_ne (t := 85) (e := 58) m_67 rfl rfl rfl (fun c4 => ?_) (fun c4 => ?_)
  · replace h := Ok_f c4 h
    refine ev_iinc (pc' := 88) (z := 1) m_67 rfl rfl rfl rfl rfl rfl (ev_goto (pc' := 3) m_67 rfl rfl ?_)
    exact am_Ev.sub (L := [(0, .ref 12), (1, .long (l1)), (3, .int (l3)), (4, .int (l4)), (5, .int (l5 + (1 : Int32)))]) ⟨rfl, rfl, rfl, rfl, rfl, trivial⟩ (hk3 l1 l3 l4 (l5 + (1 : Int32)) _ _ h)
  · replace h := Ok_t c4 h
    refine ev_aload_n (pc' := 59) m_67 rfl rfl rfl (tr_get (pc' := 62) (v := .ref 14) m_67 rfl rfl ts_o12 rfl rfl rfl (ev_iload (pc' := 64) m_67 rfl rfl rfl (tr_iald (pc' := 65) m_67 rfl rfl rfl g1 rfl (ev_iconst (pc' := 66) (x := 1) m_67 rfl rfl rfl ?_))))
    refine ev_icmp_ne (t := 85) (e := 69) m_67 rfl rfl rfl (fun c3 => ?_) (fun c3 => ?_)
    · replace h := Ok_f c3 h
      refine ev_iinc (pc' := 88) (z := 1) m_67 rfl rfl rfl rfl rfl rfl (ev_goto (pc' := 3) m_67 rfl rfl ?_)
      exact am_Ev.sub (L := [(0, .ref 12), (1, .long (l1)), (3, .int (l3)), (4, .int (l4)), (5, .int (l5 + (1 : Int32)))]) ⟨rfl, rfl, rfl, rfl, rfl, trivial⟩ (hk3 l1 l3 l4 (l5 + (1 : Int32)) _ _ h)
    · replace h := Ok_t c3 h
      refine ev_iload (pc' := 71) m_67 rfl rfl rfl ?_
      refine ev_if_eq (t := 85) (e := 74) m_67 rfl rfl rfl (fun c2 => ?_) (fun c2 => ?_)
      · replace h := Ok_t c2 h
        refine ev_iinc (pc' := 88) (z := 1) m_67 rfl rfl rfl rfl rfl rfl (ev_goto (pc' := 3) m_67 rfl rfl ?_)
        exact am_Ev.sub (L := [(0, .ref 12), (1, .long (l1)), (3, .int (l3)), (4, .int (l4)), (5, .int (l5 + (1 : Int32)))]) ⟨rfl, rfl, rfl, rfl, rfl, trivial⟩ (hk3 l1 l3 l4 (l5 + (1 : Int32)) _ _ h)
      · replace h := Ok_f c2 h
        refine ev_bipush (pc' := 76) (x := 8) m_67 rfl rfl rfl (ev_aload_n (pc' := 77) m_67 rfl rfl rfl (tr_get (pc' := 80) (v := .ref 15) m_67 rfl rfl ts_o12 rfl rfl rfl (ev_iload (pc' := 82) m_67 rfl rfl rfl (tr_iald (pc' := 83) m_67 rfl rfl rfl g1 rfl (ev_iadd (pc' := 84) m_67 rfl rfl ?_)))))
        exact tr_ri m_67 rfl rfl (Ok_s h)
def cG_findPlace_3_b (kk : Int64 → Int32 → Int32 → Int32 → ts → Option (Int32 × ts)) (l1 : Int64) (l3 : Int32) (l4 : Int32) (l5 : Int32) (s : ts) : Option (Int32 × ts) := (if (gI s 203 0) ≤ l5 then some ((-2 : Int32), s) else (if am_idx l5 50 = true then (if (lg_cmp (gB s 13 l5.toNatClampNeg) l1) = ((0 : Int32)) then (if (gA s 14 l5.toNatClampNeg) = ((0 : Int32)) then (if l3 = ((0 : Int32)) then cG_findPlace_46 kk l1 l3 l4 l5 s else some (gA s 15 l5.toNatClampNeg, s)) else cG_findPlace_46 kk l1 l3 l4 l5 s) else cG_findPlace_46 kk l1 l3 l4 l5 s) else none))
def cG_findPlace_3 : Nat → Int64 → Int32 → Int32 → Int32 → ts → Option (Int32 × ts)
  | 0, _, _, _, _, _ => none
  | n + 1, l1, l3, l4, l5, s => cG_findPlace_3_b (cG_findPlace_3 n) l1 l3 l4 l5 s
set_option maxRecDepth 20000 in
theorem cG_findPlace_3_ok {d : Nat} : ∀ (n : Nat) (l1 : Int64) (l3 : Int32) (l4 : Int32) (l5 : Int32) (s : ts) (Q : Int32 × ts → Prop), Ok (cG_findPlace_3 n l1 l3 l4 l5 s) Q → am_Ev (d + 0) 67 (3, [(0, .ref 12), (1, .long (l1)), (3, .int (l3)), (4, .int (l4)), (5, .int (l5))], []) (lay s) (tq_i Q) := by
  intro n
  induction n with
  | zero => intro l1 l3 l4 l5 s Q h; exact Ok_n h
  | succ n ih =>
    intro l1 l3 l4 l5 s Q h
    rw [cG_findPlace_3.eq_2] at h
    unfold cG_findPlace_3_b at h
    refine ev_iload (pc' := 5) m_67 rfl rfl rfl (ev_aload_n (pc' := 6) m_67 rfl rfl rfl (tr_get (pc' := 9) (v := .int (gI _ 203 _)) m_67 rfl rfl ts_o12 rfl rfl rfl ?_))
    refine ev_icmp_ge (t := 91) (e := 12) m_67 rfl rfl rfl (fun c5 => ?_) (fun c5 => ?_)
    · replace h := Ok_t c5 h
      refine ev_bipush (pc' := 93) (x := -2) m_67 rfl rfl rfl ?_
      exact tr_ri m_67 rfl rfl (Ok_s h)
    · replace h := Ok_f c5 h
      refine ev_aload_n (pc' := 13) m_67 rfl rfl rfl (tr_get (pc' := 16) (v := .ref 13) m_67 rfl rfl ts_o12 rfl rfl rfl (ev_iload (pc' := 18) m_67 rfl rfl rfl ?_))
      obtain ⟨g1, h⟩ := Ok_g h
      refine tr_lald (pc' := 19) m_67 rfl rfl rfl g1 rfl (ev_lload_n (pc' := 20) m_67 rfl rfl rfl (ev_lcmp (pc' := 21) m_67 rfl rfl ?_))
      refine ev_if_ne (t := 46) (e := 24) m_67 rfl rfl rfl (fun c4 => ?_) (fun c4 => ?_)
      · replace h := Ok_f c4 h
        exact am_Ev.sub (L := [(0, .ref 12), (1, .long (l1)), (3, .int (l3)), (4, .int (l4)), (5, .int (l5))]) ⟨rfl, rfl, rfl, rfl, rfl, trivial⟩ (cG_findPlace_46_ok (cG_findPlace_3 n) ih l1 l3 l4 l5 _ _ h)
      · replace h := Ok_t c4 h
        refine ev_aload_n (pc' := 25) m_67 rfl rfl rfl (tr_get (pc' := 28) (v := .ref 14) m_67 rfl rfl ts_o12 rfl rfl rfl (ev_iload (pc' := 30) m_67 rfl rfl rfl (tr_iald (pc' := 31) m_67 rfl rfl rfl g1 rfl ?_)))
        refine ev_if_ne (t := 46) (e := 34) m_67 rfl rfl rfl (fun c3 => ?_) (fun c3 => ?_)
        · replace h := Ok_f c3 h
          exact am_Ev.sub (L := [(0, .ref 12), (1, .long (l1)), (3, .int (l3)), (4, .int (l4)), (5, .int (l5))]) ⟨rfl, rfl, rfl, rfl, rfl, trivial⟩ (cG_findPlace_46_ok (cG_findPlace_3 n) ih l1 l3 l4 l5 _ _ h)
        · replace h := Ok_t c3 h
          refine ev_iload_n (pc' := 35) m_67 rfl rfl rfl ?_
          refine ev_if_eq (t := 46) (e := 38) m_67 rfl rfl rfl (fun c2 => ?_) (fun c2 => ?_)
          · replace h := Ok_t c2 h
            exact am_Ev.sub (L := [(0, .ref 12), (1, .long (l1)), (3, .int (l3)), (4, .int (l4)), (5, .int (l5))]) ⟨rfl, rfl, rfl, rfl, rfl, trivial⟩ (cG_findPlace_46_ok (cG_findPlace_3 n) ih l1 l3 l4 l5 _ _ h)
          · replace h := Ok_f c2 h
            refine ev_aload_n (pc' := 39) m_67 rfl rfl rfl (tr_get (pc' := 42) (v := .ref 15) m_67 rfl rfl ts_o12 rfl rfl rfl (ev_iload (pc' := 44) m_67 rfl rfl rfl (tr_iald (pc' := 45) m_67 rfl rfl rfl g1 rfl ?_)))
            exact tr_ri m_67 rfl rfl (Ok_s h)
def cG_findPlace (l1 : Int64) (l3 : Int32) (l4 : Int32) (s : ts) : Option (Int32 × ts) := cG_findPlace_3 tm_N l1 l3 l4 ((0 : Int32)) s
set_option maxRecDepth 20000 in
theorem cG_findPlace_ok {d : Nat} (l1 : Int64) (l3 : Int32) (l4 : Int32) (s : ts) (Q : Int32 × ts → Prop) (h : Ok (cG_findPlace l1 l3 l4 s) Q) : am_Ev (d + 0) 67 (0, [(0, .ref 12), (1, .long (l1)), (3, .int (l3)), (4, .int (l4))], []) (lay s) (tq_i Q) := by
  unfold cG_findPlace at h
  refine ev_iconst (pc' := 1) (x := 0) m_67 rfl rfl rfl (ev_istore (pc' := 3) m_67 rfl rfl rfl rfl ?_)
  exact am_Ev.sub (L := [(0, .ref 12), (1, .long (l1)), (3, .int (l3)), (4, .int (l4)), (5, .int ((0 : Int32)))]) ⟨rfl, rfl, rfl, rfl, rfl, trivial⟩ (cG_findPlace_3_ok tm_N l1 l3 l4 ((0 : Int32)) _ _ h)
def cF_readLook (l1 : Int32) (s : ts) : Option (Int32 × ts) := (cT_isAnyWord s).bind (fun x3 => (if x3.1 = ((0 : Int32)) then (cT_fail ((2 : Int32)) x3.2).bind (fun x22 => some (x22.1, x22.2)) else (cT_word x3.2).bind (fun x6 => (cG_findPlace x6.1 ((1 : Int32)) ((1 : Int32)) x6.2).bind (fun x9 => (if x9.1 = ((-2 : Int32)) then (cT_fail ((4 : Int32)) x9.2).bind (fun x18 => some (x18.1, x18.2)) else (cG_addOp l1 x9.1 x9.2).bind (fun x12 => (cT_advance x12.2).bind (fun s14 => some ((1 : Int32), s14))))))))
set_option maxRecDepth 20000 in
theorem cF_readLook_ok {d : Nat} (l1 : Int32) (s : ts) (Q : Int32 × ts → Prop) (h : Ok (cF_readLook l1 s) Q) : am_Ev (d + 1) 66 (0, [(0, .ref 33), (1, .int (l1))], []) (lay s) (tq_i Q) := by
  unfold cF_readLook at h
  refine ev_aload_n (pc' := 1) m_66 rfl rfl rfl (tr_get (pc' := 4) (v := .ref 7) m_66 rfl rfl ts_o33 rfl rfl rfl ?_)
  refine tr_cz (pc' := 7) m_66 rfl rfl rfl m_41 rfl rfl rfl rfl rfl (tr_rcv ts_o7 rfl) rfl rfl (cT_isAnyWord_ok _ _ (Ok_b h)) (fun x3_ x3_s h1 h => ?_)
  refine ev_if_ne (t := 19) (e := 10) m_66 rfl rfl rfl (fun c23 => ?_) (fun c23 => ?_)
  · replace h := Ok_f c23 h
    refine ev_aload_n (pc' := 20) m_66 rfl rfl rfl (tr_get (pc' := 23) (v := .ref 12) m_66 rfl rfl ts_o33 rfl rfl rfl (ev_aload_n (pc' := 24) m_66 rfl rfl rfl (tr_get (pc' := 27) (v := .ref 7) m_66 rfl rfl ts_o33 rfl rfl rfl ?_)))
    refine tr_cj (pc' := 30) m_66 rfl rfl rfl m_39 rfl rfl rfl rfl (tr_rcv ts_o7 rfl) rfl rfl (cT_word_ok _ _ (Ok_b h)) (fun x6_ x6_s h => ?_)
    refine ev_iconst (pc' := 31) (x := 1) m_66 rfl rfl rfl (ev_iconst (pc' := 32) (x := 1) m_66 rfl rfl rfl ?_)
    refine tr_ci (pc' := 35) m_66 rfl rfl rfl m_67 rfl rfl rfl rfl (tr_rcv ts_o12 rfl) rfl rfl (cG_findPlace_ok x6_ ((1 : Int32)) ((1 : Int32)) _ _ (Ok_b h)) (fun x9_ x9_s h => ?_)
    refine ev_istore_n (pc' := 36) m_66 rfl rfl rfl rfl (ev_iload_n (pc' := 37) m_66 rfl rfl rfl (ev_bipush (pc' := 39) (x := -2) m_66 rfl rfl rfl ?_))
    refine ev_icmp_ne (t := 51) (e := 42) m_66 rfl rfl rfl (fun c19 => ?_) (fun c19 => ?_)
    · replace h := Ok_f c19 h
      refine ev_aload_n (pc' := 52) m_66 rfl rfl rfl (tr_get (pc' := 55) (v := .ref 12) m_66 rfl rfl ts_o33 rfl rfl rfl (ev_iload_n (pc' := 56) m_66 rfl rfl rfl (ev_iload_n (pc' := 57) m_66 rfl rfl rfl ?_)))
      refine tr_ci (pc' := 60) m_66 rfl rfl rfl m_65 rfl rfl rfl rfl (tr_rcv ts_o12 rfl) rfl rfl (cG_addOp_ok l1 x9_ _ _ (Ok_b h)) (fun x12_ x12_s h => ?_)
      refine ev_pop (pc' := 61) m_66 rfl rfl rfl (ev_aload_n (pc' := 62) m_66 rfl rfl rfl (tr_get (pc' := 65) (v := .ref 7) m_66 rfl rfl ts_o33 rfl rfl rfl ?_))
      refine tr_cv (pc' := 68) m_66 rfl rfl rfl m_37 rfl rfl rfl rfl (tr_rcv ts_o7 rfl) rfl rfl (cT_advance_ok _ _ (Ok_b h)) (fun s14 h => ?_)
      refine ev_iconst (pc' := 69) (x := 1) m_66 rfl rfl rfl ?_
      exact tr_rz m_66 rfl rfl (Or.inr rfl) (Ok_s h)
    · replace h := Ok_t c19 h
      refine ev_aload_n (pc' := 43) m_66 rfl rfl rfl (tr_get (pc' := 46) (v := .ref 7) m_66 rfl rfl ts_o33 rfl rfl rfl (ev_iconst (pc' := 47) (x := 4) m_66 rfl rfl rfl ?_))
      refine tr_cz (pc' := 50) m_66 rfl rfl rfl m_42 rfl rfl rfl rfl rfl (tr_rcv ts_o7 rfl) rfl rfl (cT_fail_ok ((4 : Int32)) _ _ (Ok_b h)) (fun x18_ x18_s h16 h => ?_)
      exact tr_rz m_66 rfl rfl h16 (Ok_s h)
  · replace h := Ok_t c23 h
    refine ev_aload_n (pc' := 11) m_66 rfl rfl rfl (tr_get (pc' := 14) (v := .ref 7) m_66 rfl rfl ts_o33 rfl rfl rfl (ev_iconst (pc' := 15) (x := 2) m_66 rfl rfl rfl ?_))
    refine tr_cz (pc' := 18) m_66 rfl rfl rfl m_42 rfl rfl rfl rfl rfl (tr_rcv ts_o7 rfl) rfl rfl (cT_fail_ok ((2 : Int32)) _ _ (Ok_b h)) (fun x22_ x22_s h20 h => ?_)
    exact tr_rz m_66 rfl rfl h20 (Ok_s h)
def clF_m (w : Nat) : Nat := if w = 0 then 60 else if w = 1 then 61 else if w = 2 then 62 else if w = 3 then 63 else 68
def cF_readInner (rc : Nat → Int32 → ts → Option (Int32 × ts)) (l1 : Int32) (s : ts) : Option (Int32 × ts) := (rc 0 l1 s).bind (fun x3 => (if x3.1 = ((0 : Int32)) then some ((0 : Int32), x3.2) else (cT_need ((41 : Int32)) x3.2).bind (fun x6 => (if x6.1 = ((0 : Int32)) then some ((0 : Int32), x6.2) else some ((1 : Int32), x6.2)))))
set_option maxRecDepth 20000 in
theorem cF_readInner_ok {e : Nat} (rc : Nat → Int32 → ts → Option (Int32 × ts)) (hrc : ∀ (w : Nat) (a : Int32) (s : ts) (Q : Int32 × ts → Prop), Ok (rc w a s) Q → am_Ev (e + 1) (clF_m w) (0, [(0, .ref 33), (1, .int a)], []) (lay s) (tq_i Q)) (l1 : Int32) (s : ts) (Q : Int32 × ts → Prop) (h : Ok (cF_readInner rc l1 s) Q) : am_Ev (e + 1 + 1) 68 (0, [(0, .ref 33), (1, .int (l1))], []) (lay s) (tq_i Q) := by
  unfold cF_readInner at h
  refine ev_aload_n (pc' := 1) m_68 rfl rfl rfl (ev_iload_n (pc' := 2) m_68 rfl rfl rfl ?_)
  refine tr_cz (pc' := 5) m_68 rfl rfl rfl m_60 rfl rfl rfl rfl rfl (tr_rcv ts_o33 rfl) rfl rfl (hrc 0 l1 _ _ (Ok_b h)) (fun x3_ x3_s h1 h => ?_)
  refine ev_if_eq (t := 24) (e := 8) m_68 rfl rfl rfl (fun c8 => ?_) (fun c8 => ?_)
  · replace h := Ok_t c8 h
    refine ev_iconst (pc' := 25) (x := 0) m_68 rfl rfl rfl ?_
    exact tr_rz m_68 rfl rfl (Or.inl rfl) (Ok_s h)
  · replace h := Ok_f c8 h
    refine ev_aload_n (pc' := 9) m_68 rfl rfl rfl (tr_get (pc' := 12) (v := .ref 7) m_68 rfl rfl ts_o33 rfl rfl rfl (ev_bipush (pc' := 14) (x := 41) m_68 rfl rfl rfl ?_))
    refine tr_cz (pc' := 17) m_68 rfl rfl rfl m_49 rfl rfl rfl rfl rfl (tr_rcv ts_o7 rfl) rfl rfl (cT_need_ok ((41 : Int32)) _ _ (Ok_b h)) (fun x6_ x6_s h4 h => ?_)
    refine ev_if_eq (t := 24) (e := 20) m_68 rfl rfl rfl (fun c7 => ?_) (fun c7 => ?_)
    · replace h := Ok_t c7 h
      refine ev_iconst (pc' := 25) (x := 0) m_68 rfl rfl rfl ?_
      exact tr_rz m_68 rfl rfl (Or.inl rfl) (Ok_s h)
    · replace h := Ok_f c7 h
      refine ev_iconst (pc' := 21) (x := 1) m_68 rfl rfl rfl (ev_goto (pc' := 25) m_68 rfl rfl ?_)
      exact tr_rz m_68 rfl rfl (Or.inr rfl) (Ok_s h)
def cF_addRead (l1 : Int32) (s : ts) : Option (Int32 × ts) := (cG_addOp l1 ((0 : Int32)) s).bind (fun x3 => some ((1 : Int32), x3.2))
set_option maxRecDepth 20000 in
theorem cF_addRead_ok {d : Nat} (l1 : Int32) (s : ts) (Q : Int32 × ts → Prop) (h : Ok (cF_addRead l1 s) Q) : am_Ev (d + 1) 69 (0, [(0, .ref 33), (1, .int (l1))], []) (lay s) (tq_i Q) := by
  unfold cF_addRead at h
  refine ev_aload_n (pc' := 1) m_69 rfl rfl rfl (tr_get (pc' := 4) (v := .ref 12) m_69 rfl rfl ts_o33 rfl rfl rfl (ev_iload_n (pc' := 5) m_69 rfl rfl rfl (ev_iconst (pc' := 6) (x := 0) m_69 rfl rfl rfl ?_)))
  refine tr_ci (pc' := 9) m_69 rfl rfl rfl m_65 rfl rfl rfl rfl (tr_rcv ts_o12 rfl) rfl rfl (cG_addOp_ok l1 ((0 : Int32)) _ _ (Ok_b h)) (fun x3_ x3_s h => ?_)
  refine ev_pop (pc' := 10) m_69 rfl rfl rfl (ev_iconst (pc' := 11) (x := 1) m_69 rfl rfl rfl ?_)
  exact tr_rz m_69 rfl rfl (Or.inr rfl) (Ok_s h)
def cF_readOne_17 (rc : Nat → Int32 → ts → Option (Int32 × ts)) (l1 : Int32) (l2 : Int32) (s : ts) : Option (Int32 × ts) := (if l2 = ((0 : Int32)) then (cT_word s).bind (fun x3 => (cT_advance x3.2).bind (fun s5 => (if (gI s 107 0) = (2 : Int32) then (cG_findValue x3.1 s5).bind (fun x9 => (cG_addOp ((2 : Int32)) x9.1 x9.2).bind (fun x12 => some ((1 : Int32), x12.2))) else (if (gI s 107 0) = (3 : Int32) then (cG_addOp ((1 : Int32)) x3.1.toInt32 s5).bind (fun x16 => some ((1 : Int32), x16.2)) else (if (gI s 107 0) = (40 : Int32) then (rc 4 (l1 + ((1 : Int32))) s5).bind (fun x20 => some (x20.1, x20.2)) else (if (gI s 107 0) = (45 : Int32) then (rc 3 (l1 + ((1 : Int32))) s5).bind (fun x24 => (if x24.1 = ((0 : Int32)) then some ((0 : Int32), x24.2) else (cF_addRead ((3 : Int32)) x24.2).bind (fun x27 => (if x27.1 = ((0 : Int32)) then some ((0 : Int32), x27.2) else some ((1 : Int32), x27.2))))) else (if (gI s 107 0) = (531 : Int32) then (cG_addOp (gI s 107 0) ((0 : Int32)) s5).bind (fun x33 => some ((1 : Int32), x33.2)) else (if (gI s 107 0) = (532 : Int32) then (cG_addOp (gI s 107 0) ((0 : Int32)) s5).bind (fun x37 => some ((1 : Int32), x37.2)) else (if (gI s 107 0) = (533 : Int32) then (cT_need ((40 : Int32)) s5).bind (fun x41 => (if x41.1 = ((0 : Int32)) then some ((0 : Int32), x41.2) else (rc 4 (l1 + ((1 : Int32))) x41.2).bind (fun x44 => (if x44.1 = ((0 : Int32)) then some ((0 : Int32), x44.2) else (cF_addRead ((533 : Int32)) x44.2).bind (fun x47 => (if x47.1 = ((0 : Int32)) then some ((0 : Int32), x47.2) else some ((1 : Int32), x47.2))))))) else (if (gI s 107 0) = (534 : Int32) then (cF_readLook (gI s 107 0) s5).bind (fun x54 => some (x54.1, x54.2)) else (if (gI s 107 0) = (535 : Int32) then (cF_readLook (gI s 107 0) s5).bind (fun x58 => some (x58.1, x58.2)) else (rc 3 (l1 + ((1 : Int32))) s5).bind (fun x62 => (if x62.1 = ((0 : Int32)) then some ((0 : Int32), x62.2) else (cF_addRead ((33 : Int32)) x62.2).bind (fun x65 => (if x65.1 = ((0 : Int32)) then some ((0 : Int32), x65.2) else some ((1 : Int32), x65.2)))))))))))))))) else (cT_fail l2 s).bind (fun x70 => some (x70.1, x70.2)))
set_option maxRecDepth 20000 in
theorem cF_readOne_17_ok {e : Nat} (rc : Nat → Int32 → ts → Option (Int32 × ts)) (hrc : ∀ (w : Nat) (a : Int32) (s : ts) (Q : Int32 × ts → Prop), Ok (rc w a s) Q → am_Ev (e + 1) (clF_m w) (0, [(0, .ref 33), (1, .int a)], []) (lay s) (tq_i Q)) (l1 : Int32) (l2 : Int32) (s : ts) (Q : Int32 × ts → Prop) (h : Ok (cF_readOne_17 rc l1 l2 s) Q) : am_Ev (e + 1 + 1) 63 (17, [(0, .ref 33), (1, .int (l1)), (2, .int (l2))], []) (lay s) (tq_i Q) := by
  unfold cF_readOne_17 at h
  refine ev_iload_n (pc' := 18) m_63 rfl rfl rfl ?_
  refine ev_if_eq (t := 30) (e := 21) m_63 rfl rfl rfl (fun c71 => ?_) (fun c71 => ?_)
  · replace h := Ok_t c71 h
    refine ev_aload_n (pc' := 31) m_63 rfl rfl rfl (tr_get (pc' := 34) (v := .ref 7) m_63 rfl rfl ts_o33 rfl rfl rfl (tr_get (pc' := 37) (v := .int (gI _ 107 _)) m_63 rfl rfl ts_o7 rfl rfl rfl (ev_istore_n (pc' := 38) m_63 rfl rfl rfl rfl (ev_aload_n (pc' := 39) m_63 rfl rfl rfl (tr_get (pc' := 42) (v := .ref 7) m_63 rfl rfl ts_o33 rfl rfl rfl ?_)))))
    refine tr_cj (pc' := 45) m_63 rfl rfl rfl m_39 rfl rfl rfl rfl (tr_rcv ts_o7 rfl) rfl rfl (cT_word_ok _ _ (Ok_b h)) (fun x3_ x3_s h => ?_)
    refine ev_lstore (pc' := 47) m_63 rfl rfl rfl rfl (ev_aload_n (pc' := 48) m_63 rfl rfl rfl (tr_get (pc' := 51) (v := .ref 7) m_63 rfl rfl ts_o33 rfl rfl rfl ?_))
    refine tr_cv (pc' := 54) m_63 rfl rfl rfl m_37 rfl rfl rfl rfl (tr_rcv ts_o7 rfl) rfl rfl (cT_advance_ok _ _ (Ok_b h)) (fun s5 h => ?_)
    refine ev_iload_n (pc' := 55) m_63 rfl rfl rfl ?_
    by_cases c13 : (gI s 107 0) = (2 : Int32)
    · replace h := Ok_t c13 h
      refine ev_sw (pc' := 150) m_63 rfl (by rw [c13]; rfl) ?_
      refine ev_aload_n (pc' := 151) m_63 rfl rfl rfl (tr_get (pc' := 154) (v := .ref 12) m_63 rfl rfl ts_o33 rfl rfl rfl (ev_iconst (pc' := 155) (x := 2) m_63 rfl rfl rfl (ev_aload_n (pc' := 156) m_63 rfl rfl rfl (tr_get (pc' := 159) (v := .ref 12) m_63 rfl rfl ts_o33 rfl rfl rfl (ev_lload (pc' := 161) m_63 rfl rfl rfl ?_)))))
      refine tr_ci (pc' := 164) m_63 rfl rfl rfl m_58 rfl rfl rfl rfl (tr_rcv ts_o12 rfl) rfl rfl (cG_findValue_ok x3_ _ _ (Ok_b h)) (fun x9_ x9_s h => ?_)
      refine tr_ci (pc' := 167) m_63 rfl rfl rfl m_65 rfl rfl rfl rfl (tr_rcv ts_o12 rfl) rfl rfl (cG_addOp_ok ((2 : Int32)) x9_ _ _ (Ok_b h)) (fun x12_ x12_s h => ?_)
      refine ev_pop (pc' := 168) m_63 rfl rfl rfl (ev_iconst (pc' := 169) (x := 1) m_63 rfl rfl rfl ?_)
      exact tr_rz m_63 rfl rfl (Or.inr rfl) (Ok_s h)
    replace h := Ok_f c13 h
    by_cases c17 : (gI s 107 0) = (3 : Int32)
    · replace h := Ok_t c17 h
      refine ev_sw (pc' := 136) m_63 rfl (by rw [c17]; rfl) ?_
      refine ev_aload_n (pc' := 137) m_63 rfl rfl rfl (tr_get (pc' := 140) (v := .ref 12) m_63 rfl rfl ts_o33 rfl rfl rfl (ev_iconst (pc' := 141) (x := 1) m_63 rfl rfl rfl (ev_lload (pc' := 143) m_63 rfl rfl rfl (ev_l2i (pc' := 144) m_63 rfl rfl ?_))))
      refine tr_ci (pc' := 147) m_63 rfl rfl rfl m_65 rfl rfl rfl rfl (tr_rcv ts_o12 rfl) rfl rfl (cG_addOp_ok ((1 : Int32)) x3_.toInt32 _ _ (Ok_b h)) (fun x16_ x16_s h => ?_)
      refine ev_pop (pc' := 148) m_63 rfl rfl rfl (ev_iconst (pc' := 149) (x := 1) m_63 rfl rfl rfl ?_)
      exact tr_rz m_63 rfl rfl (Or.inr rfl) (Ok_s h)
    replace h := Ok_f c17 h
    by_cases c21 : (gI s 107 0) = (40 : Int32)
    · replace h := Ok_t c21 h
      refine ev_sw (pc' := 226) m_63 rfl (by rw [c21]; rfl) ?_
      refine ev_aload_n (pc' := 227) m_63 rfl rfl rfl (ev_iload_n (pc' := 228) m_63 rfl rfl rfl (ev_iconst (pc' := 229) (x := 1) m_63 rfl rfl rfl (ev_iadd (pc' := 230) m_63 rfl rfl ?_)))
      refine tr_cz (pc' := 233) m_63 rfl rfl rfl m_68 rfl rfl rfl rfl rfl (tr_rcv ts_o33 rfl) rfl rfl (hrc 4 (l1 + ((1 : Int32))) _ _ (Ok_b h)) (fun x20_ x20_s h18 h => ?_)
      exact tr_rz m_63 rfl rfl h18 (Ok_s h)
    replace h := Ok_f c21 h
    by_cases c30 : (gI s 107 0) = (45 : Int32)
    · replace h := Ok_t c30 h
      refine ev_sw (pc' := 234) m_63 rfl (by rw [c30]; rfl) ?_
      refine ev_aload_n (pc' := 235) m_63 rfl rfl rfl (ev_iload_n (pc' := 236) m_63 rfl rfl rfl (ev_iconst (pc' := 237) (x := 1) m_63 rfl rfl rfl (ev_iadd (pc' := 238) m_63 rfl rfl ?_)))
      refine tr_cz (pc' := 241) m_63 rfl rfl rfl m_63 rfl rfl rfl rfl rfl (tr_rcv ts_o33 rfl) rfl rfl (hrc 3 (l1 + ((1 : Int32))) _ _ (Ok_b h)) (fun x24_ x24_s h22 h => ?_)
      refine ev_if_eq (t := 256) (e := 244) m_63 rfl rfl rfl (fun c29 => ?_) (fun c29 => ?_)
      · replace h := Ok_t c29 h
        refine ev_iconst (pc' := 257) (x := 0) m_63 rfl rfl rfl ?_
        exact tr_rz m_63 rfl rfl (Or.inl rfl) (Ok_s h)
      · replace h := Ok_f c29 h
        refine ev_aload_n (pc' := 245) m_63 rfl rfl rfl (ev_iconst (pc' := 246) (x := 3) m_63 rfl rfl rfl ?_)
        refine tr_cz (pc' := 249) m_63 rfl rfl rfl m_69 rfl rfl rfl rfl rfl (tr_rcv ts_o33 rfl) rfl rfl (cF_addRead_ok ((3 : Int32)) _ _ (Ok_b h)) (fun x27_ x27_s h25 h => ?_)
        refine ev_if_eq (t := 256) (e := 252) m_63 rfl rfl rfl (fun c28 => ?_) (fun c28 => ?_)
        · replace h := Ok_t c28 h
          refine ev_iconst (pc' := 257) (x := 0) m_63 rfl rfl rfl ?_
          exact tr_rz m_63 rfl rfl (Or.inl rfl) (Ok_s h)
        · replace h := Ok_f c28 h
          refine ev_iconst (pc' := 253) (x := 1) m_63 rfl rfl rfl (ev_goto (pc' := 257) m_63 rfl rfl ?_)
          exact tr_rz m_63 rfl rfl (Or.inr rfl) (Ok_s h)
    replace h := Ok_f c30 h
    by_cases c34 : (gI s 107 0) = (531 : Int32)
    · replace h := Ok_t c34 h
      refine ev_sw (pc' := 170) m_63 rfl (by rw [c34]; rfl) ?_
      refine ev_aload_n (pc' := 171) m_63 rfl rfl rfl (tr_get (pc' := 174) (v := .ref 12) m_63 rfl rfl ts_o33 rfl rfl rfl (ev_iload_n (pc' := 175) m_63 rfl rfl rfl (ev_iconst (pc' := 176) (x := 0) m_63 rfl rfl rfl ?_)))
      refine tr_ci (pc' := 179) m_63 rfl rfl rfl m_65 rfl rfl rfl rfl (tr_rcv ts_o12 rfl) rfl rfl (cG_addOp_ok (gI s 107 0) ((0 : Int32)) _ _ (Ok_b h)) (fun x33_ x33_s h => ?_)
      refine ev_pop (pc' := 180) m_63 rfl rfl rfl (ev_iconst (pc' := 181) (x := 1) m_63 rfl rfl rfl ?_)
      exact tr_rz m_63 rfl rfl (Or.inr rfl) (Ok_s h)
    replace h := Ok_f c34 h
    by_cases c38 : (gI s 107 0) = (532 : Int32)
    · replace h := Ok_t c38 h
      refine ev_sw (pc' := 170) m_63 rfl (by rw [c38]; rfl) ?_
      refine ev_aload_n (pc' := 171) m_63 rfl rfl rfl (tr_get (pc' := 174) (v := .ref 12) m_63 rfl rfl ts_o33 rfl rfl rfl (ev_iload_n (pc' := 175) m_63 rfl rfl rfl (ev_iconst (pc' := 176) (x := 0) m_63 rfl rfl rfl ?_)))
      refine tr_ci (pc' := 179) m_63 rfl rfl rfl m_65 rfl rfl rfl rfl (tr_rcv ts_o12 rfl) rfl rfl (cG_addOp_ok (gI s 107 0) ((0 : Int32)) _ _ (Ok_b h)) (fun x37_ x37_s h => ?_)
      refine ev_pop (pc' := 180) m_63 rfl rfl rfl (ev_iconst (pc' := 181) (x := 1) m_63 rfl rfl rfl ?_)
      exact tr_rz m_63 rfl rfl (Or.inr rfl) (Ok_s h)
    replace h := Ok_f c38 h
    by_cases c51 : (gI s 107 0) = (533 : Int32)
    · replace h := Ok_t c51 h
      refine ev_sw (pc' := 188) m_63 rfl (by rw [c51]; rfl) ?_
      refine ev_aload_n (pc' := 189) m_63 rfl rfl rfl (tr_get (pc' := 192) (v := .ref 7) m_63 rfl rfl ts_o33 rfl rfl rfl (ev_bipush (pc' := 194) (x := 40) m_63 rfl rfl rfl ?_))
      refine tr_cz (pc' := 197) m_63 rfl rfl rfl m_49 rfl rfl rfl rfl rfl (tr_rcv ts_o7 rfl) rfl rfl (cT_need_ok ((40 : Int32)) _ _ (Ok_b h)) (fun x41_ x41_s h39 h => ?_)
      refine ev_if_eq (t := 224) (e := 200) m_63 rfl rfl rfl (fun c50 => ?_) (fun c50 => ?_)
      · replace h := Ok_t c50 h
        refine ev_iconst (pc' := 225) (x := 0) m_63 rfl rfl rfl ?_
        exact tr_rz m_63 rfl rfl (Or.inl rfl) (Ok_s h)
      · replace h := Ok_f c50 h
        refine ev_aload_n (pc' := 201) m_63 rfl rfl rfl (ev_iload_n (pc' := 202) m_63 rfl rfl rfl (ev_iconst (pc' := 203) (x := 1) m_63 rfl rfl rfl (ev_iadd (pc' := 204) m_63 rfl rfl ?_)))
        refine tr_cz (pc' := 207) m_63 rfl rfl rfl m_68 rfl rfl rfl rfl rfl (tr_rcv ts_o33 rfl) rfl rfl (hrc 4 (l1 + ((1 : Int32))) _ _ (Ok_b h)) (fun x44_ x44_s h42 h => ?_)
        refine ev_if_eq (t := 224) (e := 210) m_63 rfl rfl rfl (fun c49 => ?_) (fun c49 => ?_)
        · replace h := Ok_t c49 h
          refine ev_iconst (pc' := 225) (x := 0) m_63 rfl rfl rfl ?_
          exact tr_rz m_63 rfl rfl (Or.inl rfl) (Ok_s h)
        · replace h := Ok_f c49 h
          refine ev_aload_n (pc' := 211) m_63 rfl rfl rfl (ev_sipush (pc' := 214) (x := 533) m_63 rfl rfl rfl ?_)
          refine tr_cz (pc' := 217) m_63 rfl rfl rfl m_69 rfl rfl rfl rfl rfl (tr_rcv ts_o33 rfl) rfl rfl (cF_addRead_ok ((533 : Int32)) _ _ (Ok_b h)) (fun x47_ x47_s h45 h => ?_)
          refine ev_if_eq (t := 224) (e := 220) m_63 rfl rfl rfl (fun c48 => ?_) (fun c48 => ?_)
          · replace h := Ok_t c48 h
            refine ev_iconst (pc' := 225) (x := 0) m_63 rfl rfl rfl ?_
            exact tr_rz m_63 rfl rfl (Or.inl rfl) (Ok_s h)
          · replace h := Ok_f c48 h
            refine ev_iconst (pc' := 221) (x := 1) m_63 rfl rfl rfl (ev_goto (pc' := 225) m_63 rfl rfl ?_)
            exact tr_rz m_63 rfl rfl (Or.inr rfl) (Ok_s h)
    replace h := Ok_f c51 h
    by_cases c55 : (gI s 107 0) = (534 : Int32)
    · replace h := Ok_t c55 h
      refine ev_sw (pc' := 182) m_63 rfl (by rw [c55]; rfl) ?_
      refine ev_aload_n (pc' := 183) m_63 rfl rfl rfl (ev_iload_n (pc' := 184) m_63 rfl rfl rfl ?_)
      refine tr_cz (pc' := 187) m_63 rfl rfl rfl m_66 rfl rfl rfl rfl rfl (tr_rcv ts_o33 rfl) rfl rfl (cF_readLook_ok (gI s 107 0) _ _ (Ok_b h)) (fun x54_ x54_s h52 h => ?_)
      exact tr_rz m_63 rfl rfl h52 (Ok_s h)
    replace h := Ok_f c55 h
    by_cases c59 : (gI s 107 0) = (535 : Int32)
    · replace h := Ok_t c59 h
      refine ev_sw (pc' := 182) m_63 rfl (by rw [c59]; rfl) ?_
      refine ev_aload_n (pc' := 183) m_63 rfl rfl rfl (ev_iload_n (pc' := 184) m_63 rfl rfl rfl ?_)
      refine tr_cz (pc' := 187) m_63 rfl rfl rfl m_66 rfl rfl rfl rfl rfl (tr_rcv ts_o33 rfl) rfl rfl (cF_readLook_ok (gI s 107 0) _ _ (Ok_b h)) (fun x58_ x58_s h56 h => ?_)
      exact tr_rz m_63 rfl rfl h56 (Ok_s h)
    replace h := Ok_f c59 h
    refine ev_sw (pc' := 258) m_63 rfl (by exact ev_ldef rfl (by simp only [Op.lookupswitch.offset, List.find?]; rw [if_neg (ts_nel c13 (by decide)), if_neg (ts_nel c17 (by decide)), if_neg (ts_nel c21 (by decide)), if_neg (ts_nel c30 (by decide)), if_neg (ts_nel c34 (by decide)), if_neg (ts_nel c38 (by decide)), if_neg (ts_nel c51 (by decide)), if_neg (ts_nel c55 (by decide)), if_neg (ts_nel c59 (by decide))]) rfl) ?_
    refine ev_aload_n (pc' := 259) m_63 rfl rfl rfl (ev_iload_n (pc' := 260) m_63 rfl rfl rfl (ev_iconst (pc' := 261) (x := 1) m_63 rfl rfl rfl (ev_iadd (pc' := 262) m_63 rfl rfl ?_)))
    refine tr_cz (pc' := 265) m_63 rfl rfl rfl m_63 rfl rfl rfl rfl rfl (tr_rcv ts_o33 rfl) rfl rfl (hrc 3 (l1 + ((1 : Int32))) _ _ (Ok_b h)) (fun x62_ x62_s h60 h => ?_)
    refine ev_if_eq (t := 281) (e := 268) m_63 rfl rfl rfl (fun c67 => ?_) (fun c67 => ?_)
    · replace h := Ok_t c67 h
      refine ev_iconst (pc' := 282) (x := 0) m_63 rfl rfl rfl ?_
      exact tr_rz m_63 rfl rfl (Or.inl rfl) (Ok_s h)
    · replace h := Ok_f c67 h
      refine ev_aload_n (pc' := 269) m_63 rfl rfl rfl (ev_bipush (pc' := 271) (x := 33) m_63 rfl rfl rfl ?_)
      refine tr_cz (pc' := 274) m_63 rfl rfl rfl m_69 rfl rfl rfl rfl rfl (tr_rcv ts_o33 rfl) rfl rfl (cF_addRead_ok ((33 : Int32)) _ _ (Ok_b h)) (fun x65_ x65_s h63 h => ?_)
      refine ev_if_eq (t := 281) (e := 277) m_63 rfl rfl rfl (fun c66 => ?_) (fun c66 => ?_)
      · replace h := Ok_t c66 h
        refine ev_iconst (pc' := 282) (x := 0) m_63 rfl rfl rfl ?_
        exact tr_rz m_63 rfl rfl (Or.inl rfl) (Ok_s h)
      · replace h := Ok_f c66 h
        refine ev_iconst (pc' := 278) (x := 1) m_63 rfl rfl rfl (ev_goto (pc' := 282) m_63 rfl rfl ?_)
        exact tr_rz m_63 rfl rfl (Or.inr rfl) (Ok_s h)
  · replace h := Ok_f c71 h
    refine ev_aload_n (pc' := 22) m_63 rfl rfl rfl (tr_get (pc' := 25) (v := .ref 7) m_63 rfl rfl ts_o33 rfl rfl rfl (ev_iload_n (pc' := 26) m_63 rfl rfl rfl ?_))
    refine tr_cz (pc' := 29) m_63 rfl rfl rfl m_42 rfl rfl rfl rfl rfl (tr_rcv ts_o7 rfl) rfl rfl (cT_fail_ok l2 _ _ (Ok_b h)) (fun x70_ x70_s h68 h => ?_)
    exact tr_rz m_63 rfl rfl h68 (Ok_s h)
def cF_readOne (rc : Nat → Int32 → ts → Option (Int32 × ts)) (l1 : Int32) (s : ts) : Option (Int32 × ts) := (cF_faultOfOne s).bind (fun x3 => (if x3.1 = ((0 : Int32)) then (if l1 ≤ ((30 : Int32)) then cF_readOne_17 rc l1 x3.1 x3.2 else cF_readOne_17 rc l1 ((5 : Int32)) x3.2) else cF_readOne_17 rc l1 x3.1 x3.2))
set_option maxRecDepth 20000 in
theorem cF_readOne_ok {e : Nat} (rc : Nat → Int32 → ts → Option (Int32 × ts)) (hrc : ∀ (w : Nat) (a : Int32) (s : ts) (Q : Int32 × ts → Prop), Ok (rc w a s) Q → am_Ev (e + 1) (clF_m w) (0, [(0, .ref 33), (1, .int a)], []) (lay s) (tq_i Q)) (l1 : Int32) (s : ts) (Q : Int32 × ts → Prop) (h : Ok (cF_readOne rc l1 s) Q) : am_Ev (e + 1 + 1) 63 (0, [(0, .ref 33), (1, .int (l1))], []) (lay s) (tq_i Q) := by
  unfold cF_readOne at h
  refine ev_aload_n (pc' := 1) m_63 rfl rfl rfl ?_
  refine tr_ci (pc' := 4) m_63 rfl rfl rfl m_64 rfl rfl rfl rfl (tr_rcv ts_o33 rfl) rfl rfl (cF_faultOfOne_ok _ _ (Ok_b h)) (fun x3_ x3_s h => ?_)
  refine ev_istore_n (pc' := 5) m_63 rfl rfl rfl rfl (ev_iload_n (pc' := 6) m_63 rfl rfl rfl ?_)
  refine ev_if_ne (t := 17) (e := 9) m_63 rfl rfl rfl (fun c5 => ?_) (fun c5 => ?_)
  · replace h := Ok_f c5 h
    exact am_Ev.sub (L := [(0, .ref 33), (1, .int (l1)), (2, .int (x3_))]) ⟨rfl, rfl, rfl, trivial⟩ (cF_readOne_17_ok rc hrc l1 x3_ _ _ h)
  · replace h := Ok_t c5 h
    refine ev_iload_n (pc' := 10) m_63 rfl rfl rfl (ev_bipush (pc' := 12) (x := 30) m_63 rfl rfl rfl ?_)
    refine ev_icmp_le (t := 17) (e := 15) m_63 rfl rfl rfl (fun c4 => ?_) (fun c4 => ?_)
    · replace h := Ok_t c4 h
      exact am_Ev.sub (L := [(0, .ref 33), (1, .int (l1)), (2, .int (x3_))]) ⟨rfl, rfl, rfl, trivial⟩ (cF_readOne_17_ok rc hrc l1 x3_ _ _ h)
    · replace h := Ok_f c4 h
      refine ev_iconst (pc' := 16) (x := 5) m_63 rfl rfl rfl (ev_istore_n (pc' := 17) m_63 rfl rfl rfl rfl ?_)
      exact am_Ev.sub (L := [(0, .ref 33), (1, .int (l1)), (2, .int ((5 : Int32)))]) ⟨rfl, rfl, rfl, trivial⟩ (cF_readOne_17_ok rc hrc l1 ((5 : Int32)) _ _ h)
def cF_addSign (l1 : Int32) (s : ts) : Option (ts) := (if l1 = ((-2 : Int32)) then some s else (cG_addOp l1 ((0 : Int32)) s).bind (fun x3 => some x3.2))
set_option maxRecDepth 20000 in
theorem cF_addSign_ok {d : Nat} (l1 : Int32) (s : ts) (Q : ts → Prop) (h : Ok (cF_addSign l1 s) Q) : am_Ev (d + 1) 70 (0, [(0, .ref 33), (1, .int (l1))], []) (lay s) (tq_v Q) := by
  unfold cF_addSign at h
  refine ev_iload_n (pc' := 1) m_70 rfl rfl rfl (ev_bipush (pc' := 3) (x := -2) m_70 rfl rfl rfl ?_)
  refine ev_icmp_eq (t := 16) (e := 6) m_70 rfl rfl rfl (fun c4 => ?_) (fun c4 => ?_)
  · replace h := Ok_t c4 h
    exact tr_rv m_70 rfl rfl (Ok_s h)
  · replace h := Ok_f c4 h
    refine ev_aload_n (pc' := 7) m_70 rfl rfl rfl (tr_get (pc' := 10) (v := .ref 12) m_70 rfl rfl ts_o33 rfl rfl rfl (ev_iload_n (pc' := 11) m_70 rfl rfl rfl (ev_iconst (pc' := 12) (x := 0) m_70 rfl rfl rfl ?_)))
    refine tr_ci (pc' := 15) m_70 rfl rfl rfl m_65 rfl rfl rfl rfl (tr_rcv ts_o12 rfl) rfl rfl (cG_addOp_ok l1 ((0 : Int32)) _ _ (Ok_b h)) (fun x3_ x3_s h => ?_)
    refine ev_pop (pc' := 16) m_70 rfl rfl rfl ?_
    exact tr_rv m_70 rfl rfl (Ok_s h)
def cF_readSum_95 (rc : Nat → Int32 → ts → Option (Int32 × ts)) (k9 : Int32 → Int32 → Int32 → Int32 → ts → Option (Int32 × ts)) (l1 : Int32) (l2 : Int32) (l3 : Int32) (l4 : Int32) (s : ts) : Option (Int32 × ts) := (cT_advance s).bind (fun s2 => k9 l1 l2 l3 (l4 + (1 : Int32)) s2)
set_option maxRecDepth 20000 in
theorem cF_readSum_95_ok {e : Nat} (rc : Nat → Int32 → ts → Option (Int32 × ts)) (k9 : Int32 → Int32 → Int32 → Int32 → ts → Option (Int32 × ts)) (hrc : ∀ (w : Nat) (a : Int32) (s : ts) (Q : Int32 × ts → Prop), Ok (rc w a s) Q → am_Ev (e + 1) (clF_m w) (0, [(0, .ref 33), (1, .int a)], []) (lay s) (tq_i Q)) (hk9 : ∀ (l1 : Int32) (l2 : Int32) (l3 : Int32) (l4 : Int32) (s : ts) (Q : Int32 × ts → Prop), Ok (k9 l1 l2 l3 l4 s) Q → am_Ev (e + 1 + 1) 62 (9, [(0, .ref 33), (1, .int (l1)), (2, .int (l2)), (3, .int (l3)), (4, .int (l4))], []) (lay s) (tq_i Q)) (l1 : Int32) (l2 : Int32) (l3 : Int32) (l4 : Int32) (s : ts) (Q : Int32 × ts → Prop) (h : Ok (cF_readSum_95 rc k9 l1 l2 l3 l4 s) Q) : am_Ev (e + 1 + 1) 62 (95, [(0, .ref 33), (1, .int (l1)), (2, .int (l2)), (3, .int (l3)), (4, .int (l4))], []) (lay s) (tq_i Q) := by
  unfold cF_readSum_95 at h
  refine ev_aload_n (pc' := 96) m_62 rfl rfl rfl (tr_get (pc' := 99) (v := .ref 7) m_62 rfl rfl ts_o33 rfl rfl rfl ?_)
  refine tr_cv (pc' := 102) m_62 rfl rfl rfl m_37 rfl rfl rfl rfl (tr_rcv ts_o7 rfl) rfl rfl (cT_advance_ok _ _ (Ok_b h)) (fun s2 h => ?_)
  refine ev_iinc (pc' := 105) (z := 1) m_62 rfl rfl rfl rfl rfl rfl (ev_goto (pc' := 9) m_62 rfl rfl ?_)
  exact am_Ev.sub (L := [(0, .ref 33), (1, .int (l1)), (2, .int (l2)), (3, .int (l3)), (4, .int (l4 + (1 : Int32)))]) ⟨rfl, rfl, rfl, rfl, rfl, trivial⟩ (hk9 l1 l2 l3 (l4 + (1 : Int32)) _ _ h)
def cF_readSum_9_b (rc : Nat → Int32 → ts → Option (Int32 × ts)) (kk : Int32 → Int32 → Int32 → Int32 → ts → Option (Int32 × ts)) (l1 : Int32) (l2 : Int32) (l3 : Int32) (l4 : Int32) (s : ts) : Option (Int32 × ts) := (if ((4001 : Int32)) ≤ l4 then some ((0 : Int32), s) else (rc 3 l1 s).bind (fun x3 => (if x3.1 = ((0 : Int32)) then some ((0 : Int32), x3.2) else (cF_addSign l3 x3.2).bind (fun s5 => (if (gI s5 107 0) = ((42 : Int32)) then cF_readSum_95 rc kk l1 l2 (gI s5 107 0) l4 s5 else (if (gI s5 107 0) = ((47 : Int32)) then cF_readSum_95 rc kk l1 l2 (gI s5 107 0) l4 s5 else (if (gI s5 107 0) = ((37 : Int32)) then cF_readSum_95 rc kk l1 l2 (gI s5 107 0) l4 s5 else (cF_addSign l2 s5).bind (fun s8 => (if (gI s5 107 0) = ((43 : Int32)) then cF_readSum_95 rc kk l1 (gI s5 107 0) ((-2 : Int32)) l4 s8 else (if (gI s5 107 0) = ((45 : Int32)) then cF_readSum_95 rc kk l1 (gI s5 107 0) ((-2 : Int32)) l4 s8 else some ((1 : Int32), s8)))))))))))
def cF_readSum_9 (rc : Nat → Int32 → ts → Option (Int32 × ts)) : Nat → Int32 → Int32 → Int32 → Int32 → ts → Option (Int32 × ts)
  | 0, _, _, _, _, _ => none
  | n + 1, l1, l2, l3, l4, s => cF_readSum_9_b rc (cF_readSum_9 rc n) l1 l2 l3 l4 s
set_option maxRecDepth 20000 in
theorem cF_readSum_9_ok {e : Nat} (rc : Nat → Int32 → ts → Option (Int32 × ts)) (hrc : ∀ (w : Nat) (a : Int32) (s : ts) (Q : Int32 × ts → Prop), Ok (rc w a s) Q → am_Ev (e + 1) (clF_m w) (0, [(0, .ref 33), (1, .int a)], []) (lay s) (tq_i Q)) : ∀ (n : Nat) (l1 : Int32) (l2 : Int32) (l3 : Int32) (l4 : Int32) (s : ts) (Q : Int32 × ts → Prop), Ok (cF_readSum_9 rc n l1 l2 l3 l4 s) Q → am_Ev (e + 1 + 1) 62 (9, [(0, .ref 33), (1, .int (l1)), (2, .int (l2)), (3, .int (l3)), (4, .int (l4))], []) (lay s) (tq_i Q) := by
  intro n
  induction n with
  | zero => intro l1 l2 l3 l4 s Q h; exact Ok_n h
  | succ n ih =>
    intro l1 l2 l3 l4 s Q h
    rw [cF_readSum_9.eq_2] at h
    unfold cF_readSum_9_b at h
    refine ev_iload (pc' := 11) m_62 rfl rfl rfl (ev_sipush (pc' := 14) (x := 4001) m_62 rfl rfl rfl ?_)
    refine ev_icmp_ge (t := 108) (e := 17) m_62 rfl rfl rfl (fun c16 => ?_) (fun c16 => ?_)
    · replace h := Ok_t c16 h
      refine ev_iconst (pc' := 109) (x := 0) m_62 rfl rfl rfl ?_
      exact tr_rz m_62 rfl rfl (Or.inl rfl) (Ok_s h)
    · replace h := Ok_f c16 h
      refine ev_aload_n (pc' := 18) m_62 rfl rfl rfl (ev_iload_n (pc' := 19) m_62 rfl rfl rfl ?_)
      refine tr_cz (pc' := 22) m_62 rfl rfl rfl m_63 rfl rfl rfl rfl rfl (tr_rcv ts_o33 rfl) rfl rfl (hrc 3 l1 _ _ (Ok_b h)) (fun x3_ x3_s h1 h => ?_)
      refine ev_if_ne (t := 27) (e := 25) m_62 rfl rfl rfl (fun c15 => ?_) (fun c15 => ?_)
      · replace h := Ok_f c15 h
        refine ev_aload_n (pc' := 28) m_62 rfl rfl rfl (ev_iload_n (pc' := 29) m_62 rfl rfl rfl ?_)
        refine tr_cv (pc' := 32) m_62 rfl rfl rfl m_70 rfl rfl rfl rfl (tr_rcv ts_o33 rfl) rfl rfl (cF_addSign_ok l3 _ _ (Ok_b h)) (fun s5 h => ?_)
        refine ev_bipush (pc' := 34) (x := -2) m_62 rfl rfl rfl (ev_istore_n (pc' := 35) m_62 rfl rfl rfl rfl (ev_aload_n (pc' := 36) m_62 rfl rfl rfl (tr_get (pc' := 39) (v := .ref 7) m_62 rfl rfl ts_o33 rfl rfl rfl (tr_get (pc' := 42) (v := .int (gI _ 107 _)) m_62 rfl rfl ts_o7 rfl rfl rfl (ev_istore (pc' := 44) m_62 rfl rfl rfl rfl (ev_iload (pc' := 46) m_62 rfl rfl rfl (ev_bipush (pc' := 48) (x := 42) m_62 rfl rfl rfl ?_)))))))
        refine ev_icmp_eq (t := 65) (e := 51) m_62 rfl rfl rfl (fun c14 => ?_) (fun c14 => ?_)
        · replace h := Ok_t c14 h
          refine ev_iload (pc' := 67) m_62 rfl rfl rfl (ev_istore_n (pc' := 68) m_62 rfl rfl rfl rfl (ev_goto (pc' := 95) m_62 rfl rfl ?_))
          exact am_Ev.sub (L := [(0, .ref 33), (1, .int (l1)), (2, .int (l2)), (3, .int (gI s5 107 0)), (4, .int (l4))]) ⟨rfl, rfl, rfl, rfl, rfl, trivial⟩ (cF_readSum_95_ok rc (cF_readSum_9 rc n) hrc ih l1 l2 (gI s5 107 0) l4 _ _ h)
        · replace h := Ok_f c14 h
          refine ev_iload (pc' := 53) m_62 rfl rfl rfl (ev_bipush (pc' := 55) (x := 47) m_62 rfl rfl rfl ?_)
          refine ev_icmp_eq (t := 65) (e := 58) m_62 rfl rfl rfl (fun c13 => ?_) (fun c13 => ?_)
          · replace h := Ok_t c13 h
            refine ev_iload (pc' := 67) m_62 rfl rfl rfl (ev_istore_n (pc' := 68) m_62 rfl rfl rfl rfl (ev_goto (pc' := 95) m_62 rfl rfl ?_))
            exact am_Ev.sub (L := [(0, .ref 33), (1, .int (l1)), (2, .int (l2)), (3, .int (gI s5 107 0)), (4, .int (l4))]) ⟨rfl, rfl, rfl, rfl, rfl, trivial⟩ (cF_readSum_95_ok rc (cF_readSum_9 rc n) hrc ih l1 l2 (gI s5 107 0) l4 _ _ h)
          · replace h := Ok_f c13 h
            refine ev_iload (pc' := 60) m_62 rfl rfl rfl (ev_bipush (pc' := 62) (x := 37) m_62 rfl rfl rfl ?_)
            refine ev_icmp_ne (t := 71) (e := 65) m_62 rfl rfl rfl (fun c12 => ?_) (fun c12 => ?_)
            · replace h := Ok_f c12 h
              refine ev_aload_n (pc' := 72) m_62 rfl rfl rfl (ev_iload_n (pc' := 73) m_62 rfl rfl rfl ?_)
              refine tr_cv (pc' := 76) m_62 rfl rfl rfl m_70 rfl rfl rfl rfl (tr_rcv ts_o33 rfl) rfl rfl (cF_addSign_ok l2 _ _ (Ok_b h)) (fun s8 h => ?_)
              refine ev_iload (pc' := 78) m_62 rfl rfl rfl (ev_bipush (pc' := 80) (x := 43) m_62 rfl rfl rfl ?_)
              refine ev_icmp_eq (t := 92) (e := 83) m_62 rfl rfl rfl (fun c11 => ?_) (fun c11 => ?_)
              · replace h := Ok_t c11 h
                refine ev_iload (pc' := 94) m_62 rfl rfl rfl (ev_istore_n (pc' := 95) m_62 rfl rfl rfl rfl ?_)
                exact am_Ev.sub (L := [(0, .ref 33), (1, .int (l1)), (2, .int (gI s5 107 0)), (3, .int ((-2 : Int32))), (4, .int (l4))]) ⟨rfl, rfl, rfl, rfl, rfl, trivial⟩ (cF_readSum_95_ok rc (cF_readSum_9 rc n) hrc ih l1 (gI s5 107 0) ((-2 : Int32)) l4 _ _ h)
              · replace h := Ok_f c11 h
                refine ev_iload (pc' := 85) m_62 rfl rfl rfl (ev_bipush (pc' := 87) (x := 45) m_62 rfl rfl rfl ?_)
                refine ev_icmp_eq (t := 92) (e := 90) m_62 rfl rfl rfl (fun c10 => ?_) (fun c10 => ?_)
                · replace h := Ok_t c10 h
                  refine ev_iload (pc' := 94) m_62 rfl rfl rfl (ev_istore_n (pc' := 95) m_62 rfl rfl rfl rfl ?_)
                  exact am_Ev.sub (L := [(0, .ref 33), (1, .int (l1)), (2, .int (gI s5 107 0)), (3, .int ((-2 : Int32))), (4, .int (l4))]) ⟨rfl, rfl, rfl, rfl, rfl, trivial⟩ (cF_readSum_95_ok rc (cF_readSum_9 rc n) hrc ih l1 (gI s5 107 0) ((-2 : Int32)) l4 _ _ h)
                · replace h := Ok_f c10 h
                  refine ev_iconst (pc' := 91) (x := 1) m_62 rfl rfl rfl ?_
                  exact tr_rz m_62 rfl rfl (Or.inr rfl) (Ok_s h)
            · replace h := Ok_t c12 h
              refine ev_iload (pc' := 67) m_62 rfl rfl rfl (ev_istore_n (pc' := 68) m_62 rfl rfl rfl rfl (ev_goto (pc' := 95) m_62 rfl rfl ?_))
              exact am_Ev.sub (L := [(0, .ref 33), (1, .int (l1)), (2, .int (l2)), (3, .int (gI s5 107 0)), (4, .int (l4))]) ⟨rfl, rfl, rfl, rfl, rfl, trivial⟩ (cF_readSum_95_ok rc (cF_readSum_9 rc n) hrc ih l1 l2 (gI s5 107 0) l4 _ _ h)
      · replace h := Ok_t c15 h
        refine ev_iconst (pc' := 26) (x := 0) m_62 rfl rfl rfl ?_
        exact tr_rz m_62 rfl rfl (Or.inl rfl) (Ok_s h)
def cF_readSum (rc : Nat → Int32 → ts → Option (Int32 × ts)) (l1 : Int32) (s : ts) : Option (Int32 × ts) := cF_readSum_9 rc tm_N l1 ((-2 : Int32)) ((-2 : Int32)) ((0 : Int32)) s
set_option maxRecDepth 20000 in
theorem cF_readSum_ok {e : Nat} (rc : Nat → Int32 → ts → Option (Int32 × ts)) (hrc : ∀ (w : Nat) (a : Int32) (s : ts) (Q : Int32 × ts → Prop), Ok (rc w a s) Q → am_Ev (e + 1) (clF_m w) (0, [(0, .ref 33), (1, .int a)], []) (lay s) (tq_i Q)) (l1 : Int32) (s : ts) (Q : Int32 × ts → Prop) (h : Ok (cF_readSum rc l1 s) Q) : am_Ev (e + 1 + 1) 62 (0, [(0, .ref 33), (1, .int (l1))], []) (lay s) (tq_i Q) := by
  unfold cF_readSum at h
  refine ev_bipush (pc' := 2) (x := -2) m_62 rfl rfl rfl (ev_istore_n (pc' := 3) m_62 rfl rfl rfl rfl (ev_bipush (pc' := 5) (x := -2) m_62 rfl rfl rfl (ev_istore_n (pc' := 6) m_62 rfl rfl rfl rfl (ev_iconst (pc' := 7) (x := 0) m_62 rfl rfl rfl (ev_istore (pc' := 9) m_62 rfl rfl rfl rfl ?_)))))
  exact am_Ev.sub (L := [(0, .ref 33), (1, .int (l1)), (2, .int ((-2 : Int32))), (3, .int ((-2 : Int32))), (4, .int ((0 : Int32)))]) ⟨rfl, rfl, rfl, rfl, rfl, trivial⟩ (cF_readSum_9_ok rc hrc tm_N l1 ((-2 : Int32)) ((-2 : Int32)) ((0 : Int32)) _ _ h)
def cF_isRelation (l0 : Int32) (s : ts) : Option (Int32 × ts) := (if l0 = (60 : Int32) then some ((1 : Int32), s) else (if l0 = (62 : Int32) then some ((1 : Int32), s) else (if l0 = (289 : Int32) then some ((1 : Int32), s) else (if l0 = (316 : Int32) then some ((1 : Int32), s) else (if l0 = (317 : Int32) then some ((1 : Int32), s) else (if l0 = (318 : Int32) then some ((1 : Int32), s) else some ((0 : Int32), s)))))))
set_option maxRecDepth 20000 in
theorem cF_isRelation_ok {d : Nat} (l0 : Int32) (s : ts) (Q : Int32 × ts → Prop) (h : Ok (cF_isRelation l0 s) Q) : am_Ev (d + 0) 71 (0, [(0, .int (l0))], []) (lay s) (tq_i Q) := by
  unfold cF_isRelation at h
  refine ev_iload_n (pc' := 1) m_71 rfl rfl rfl ?_
  by_cases c1 : l0 = (60 : Int32)
  · replace h := Ok_t c1 h
    refine ev_sw (pc' := 60) m_71 rfl (by rw [c1]; rfl) ?_
    refine ev_iconst (pc' := 61) (x := 1) m_71 rfl rfl rfl ?_
    exact tr_rz m_71 rfl rfl (Or.inr rfl) (Ok_s h)
  replace h := Ok_f c1 h
  by_cases c2 : l0 = (62 : Int32)
  · replace h := Ok_t c2 h
    refine ev_sw (pc' := 60) m_71 rfl (by rw [c2]; rfl) ?_
    refine ev_iconst (pc' := 61) (x := 1) m_71 rfl rfl rfl ?_
    exact tr_rz m_71 rfl rfl (Or.inr rfl) (Ok_s h)
  replace h := Ok_f c2 h
  by_cases c3 : l0 = (289 : Int32)
  · replace h := Ok_t c3 h
    refine ev_sw (pc' := 60) m_71 rfl (by rw [c3]; rfl) ?_
    refine ev_iconst (pc' := 61) (x := 1) m_71 rfl rfl rfl ?_
    exact tr_rz m_71 rfl rfl (Or.inr rfl) (Ok_s h)
  replace h := Ok_f c3 h
  by_cases c4 : l0 = (316 : Int32)
  · replace h := Ok_t c4 h
    refine ev_sw (pc' := 60) m_71 rfl (by rw [c4]; rfl) ?_
    refine ev_iconst (pc' := 61) (x := 1) m_71 rfl rfl rfl ?_
    exact tr_rz m_71 rfl rfl (Or.inr rfl) (Ok_s h)
  replace h := Ok_f c4 h
  by_cases c5 : l0 = (317 : Int32)
  · replace h := Ok_t c5 h
    refine ev_sw (pc' := 60) m_71 rfl (by rw [c5]; rfl) ?_
    refine ev_iconst (pc' := 61) (x := 1) m_71 rfl rfl rfl ?_
    exact tr_rz m_71 rfl rfl (Or.inr rfl) (Ok_s h)
  replace h := Ok_f c5 h
  by_cases c6 : l0 = (318 : Int32)
  · replace h := Ok_t c6 h
    refine ev_sw (pc' := 60) m_71 rfl (by rw [c6]; rfl) ?_
    refine ev_iconst (pc' := 61) (x := 1) m_71 rfl rfl rfl ?_
    exact tr_rz m_71 rfl rfl (Or.inr rfl) (Ok_s h)
  replace h := Ok_f c6 h
  refine ev_sw (pc' := 62) m_71 rfl (by exact ev_ldef rfl (by simp only [Op.lookupswitch.offset, List.find?]; rw [if_neg (ts_nel c1 (by decide)), if_neg (ts_nel c2 (by decide)), if_neg (ts_nel c3 (by decide)), if_neg (ts_nel c4 (by decide)), if_neg (ts_nel c5 (by decide)), if_neg (ts_nel c6 (by decide))]) rfl) ?_
  refine ev_iconst (pc' := 63) (x := 0) m_71 rfl rfl rfl ?_
  exact tr_rz m_71 rfl rfl (Or.inl rfl) (Ok_s h)
def cF_readTest (rc : Nat → Int32 → ts → Option (Int32 × ts)) (l1 : Int32) (s : ts) : Option (Int32 × ts) := (rc 2 l1 s).bind (fun x3 => (if x3.1 = ((0 : Int32)) then some ((0 : Int32), x3.2) else (cF_isRelation (gI x3.2 107 0) x3.2).bind (fun x6 => (if x6.1 = ((0 : Int32)) then some ((1 : Int32), x6.2) else (cT_advance x6.2).bind (fun s8 => (rc 2 l1 s8).bind (fun x12 => (if x12.1 = ((0 : Int32)) then some ((0 : Int32), x12.2) else (cG_addOp (gI x3.2 107 0) ((0 : Int32)) x12.2).bind (fun x15 => some ((1 : Int32), x15.2)))))))))
set_option maxRecDepth 20000 in
theorem cF_readTest_ok {e : Nat} (rc : Nat → Int32 → ts → Option (Int32 × ts)) (hrc : ∀ (w : Nat) (a : Int32) (s : ts) (Q : Int32 × ts → Prop), Ok (rc w a s) Q → am_Ev (e + 1) (clF_m w) (0, [(0, .ref 33), (1, .int a)], []) (lay s) (tq_i Q)) (l1 : Int32) (s : ts) (Q : Int32 × ts → Prop) (h : Ok (cF_readTest rc l1 s) Q) : am_Ev (e + 1 + 1) 61 (0, [(0, .ref 33), (1, .int (l1))], []) (lay s) (tq_i Q) := by
  unfold cF_readTest at h
  refine ev_aload_n (pc' := 1) m_61 rfl rfl rfl (ev_iload_n (pc' := 2) m_61 rfl rfl rfl ?_)
  refine tr_cz (pc' := 5) m_61 rfl rfl rfl m_62 rfl rfl rfl rfl rfl (tr_rcv ts_o33 rfl) rfl rfl (hrc 2 l1 _ _ (Ok_b h)) (fun x3_ x3_s h1 h => ?_)
  refine ev_if_ne (t := 10) (e := 8) m_61 rfl rfl rfl (fun c18 => ?_) (fun c18 => ?_)
  · replace h := Ok_f c18 h
    refine ev_aload_n (pc' := 11) m_61 rfl rfl rfl (tr_get (pc' := 14) (v := .ref 7) m_61 rfl rfl ts_o33 rfl rfl rfl (tr_get (pc' := 17) (v := .int (gI _ 107 _)) m_61 rfl rfl ts_o7 rfl rfl rfl (ev_istore_n (pc' := 18) m_61 rfl rfl rfl rfl (ev_iload_n (pc' := 19) m_61 rfl rfl rfl ?_))))
    refine tr_cz (pc' := 22) m_61 rfl rfl rfl m_71 rfl rfl rfl rfl rfl rfl rfl rfl (cF_isRelation_ok (gI x3_s 107 0) _ _ (Ok_b h)) (fun x6_ x6_s h4 h => ?_)
    refine ev_if_ne (t := 27) (e := 25) m_61 rfl rfl rfl (fun c17 => ?_) (fun c17 => ?_)
    · replace h := Ok_f c17 h
      refine ev_aload_n (pc' := 28) m_61 rfl rfl rfl (tr_get (pc' := 31) (v := .ref 7) m_61 rfl rfl ts_o33 rfl rfl rfl ?_)
      refine tr_cv (pc' := 34) m_61 rfl rfl rfl m_37 rfl rfl rfl rfl (tr_rcv ts_o7 rfl) rfl rfl (cT_advance_ok _ _ (Ok_b h)) (fun s8 h => ?_)
      refine ev_aload_n (pc' := 35) m_61 rfl rfl rfl (ev_iload_n (pc' := 36) m_61 rfl rfl rfl ?_)
      refine tr_cz (pc' := 39) m_61 rfl rfl rfl m_62 rfl rfl rfl rfl rfl (tr_rcv ts_o33 rfl) rfl rfl (hrc 2 l1 _ _ (Ok_b h)) (fun x12_ x12_s h10 h => ?_)
      refine ev_if_ne (t := 44) (e := 42) m_61 rfl rfl rfl (fun c16 => ?_) (fun c16 => ?_)
      · replace h := Ok_f c16 h
        refine ev_aload_n (pc' := 45) m_61 rfl rfl rfl (tr_get (pc' := 48) (v := .ref 12) m_61 rfl rfl ts_o33 rfl rfl rfl (ev_iload_n (pc' := 49) m_61 rfl rfl rfl (ev_iconst (pc' := 50) (x := 0) m_61 rfl rfl rfl ?_)))
        refine tr_ci (pc' := 53) m_61 rfl rfl rfl m_65 rfl rfl rfl rfl (tr_rcv ts_o12 rfl) rfl rfl (cG_addOp_ok (gI x3_s 107 0) ((0 : Int32)) _ _ (Ok_b h)) (fun x15_ x15_s h => ?_)
        refine ev_pop (pc' := 54) m_61 rfl rfl rfl (ev_iconst (pc' := 55) (x := 1) m_61 rfl rfl rfl ?_)
        exact tr_rz m_61 rfl rfl (Or.inr rfl) (Ok_s h)
      · replace h := Ok_t c16 h
        refine ev_iconst (pc' := 43) (x := 0) m_61 rfl rfl rfl ?_
        exact tr_rz m_61 rfl rfl (Or.inl rfl) (Ok_s h)
    · replace h := Ok_t c17 h
      refine ev_iconst (pc' := 26) (x := 1) m_61 rfl rfl rfl ?_
      exact tr_rz m_61 rfl rfl (Or.inr rfl) (Ok_s h)
  · replace h := Ok_t c18 h
    refine ev_iconst (pc' := 9) (x := 0) m_61 rfl rfl rfl ?_
    exact tr_rz m_61 rfl rfl (Or.inl rfl) (Ok_s h)
def cG_closeSkip (l1 : Int32) (s : ts) : Option (ts) := (if l1 < ((0 : Int32)) then some s else (if (gI s 217 0) ≤ l1 then some s else (cG_addOp ((4 : Int32)) ((0 : Int32)) s).bind (fun x3 => (if am_idx l1 4000 = true then some (wA x3.2 27 l1.toNatClampNeg (gI x3.2 217 0)) else none))))
set_option maxRecDepth 20000 in
theorem cG_closeSkip_ok {d : Nat} (l1 : Int32) (s : ts) (Q : ts → Prop) (h : Ok (cG_closeSkip l1 s) Q) : am_Ev (d + 1) 72 (0, [(0, .ref 12), (1, .int (l1))], []) (lay s) (tq_v Q) := by
  unfold cG_closeSkip at h
  refine ev_iload_n (pc' := 1) m_72 rfl rfl rfl ?_
  refine ev_if_lt (t := 29) (e := 4) m_72 rfl rfl rfl (fun c6 => ?_) (fun c6 => ?_)
  · replace h := Ok_t c6 h
    exact tr_rv m_72 rfl rfl (Ok_s h)
  · replace h := Ok_f c6 h
    refine ev_iload_n (pc' := 5) m_72 rfl rfl rfl (ev_aload_n (pc' := 6) m_72 rfl rfl rfl (tr_get (pc' := 9) (v := .int (gI _ 217 _)) m_72 rfl rfl ts_o12 rfl rfl rfl ?_))
    refine ev_icmp_ge (t := 29) (e := 12) m_72 rfl rfl rfl (fun c5 => ?_) (fun c5 => ?_)
    · replace h := Ok_t c5 h
      exact tr_rv m_72 rfl rfl (Ok_s h)
    · replace h := Ok_f c5 h
      refine ev_aload_n (pc' := 13) m_72 rfl rfl rfl (ev_iconst (pc' := 14) (x := 4) m_72 rfl rfl rfl (ev_iconst (pc' := 15) (x := 0) m_72 rfl rfl rfl ?_))
      refine tr_ci (pc' := 18) m_72 rfl rfl rfl m_65 rfl rfl rfl rfl (tr_rcv ts_o12 rfl) rfl rfl (cG_addOp_ok ((4 : Int32)) ((0 : Int32)) _ _ (Ok_b h)) (fun x3_ x3_s h => ?_)
      refine ev_pop (pc' := 19) m_72 rfl rfl rfl (ev_aload_n (pc' := 20) m_72 rfl rfl rfl (tr_get (pc' := 23) (v := .ref 27) m_72 rfl rfl ts_o12 rfl rfl rfl (ev_iload_n (pc' := 24) m_72 rfl rfl rfl (ev_aload_n (pc' := 25) m_72 rfl rfl rfl (tr_get (pc' := 28) (v := .int (gI _ 217 _)) m_72 rfl rfl ts_o12 rfl rfl rfl ?_)))))
      obtain ⟨g4, h⟩ := Ok_g h
      refine tr_iast (pc' := 29) m_72 rfl rfl rfl g4 rfl ?_
      exact tr_rv m_72 rfl rfl (Ok_s h)
def cF_readExp_101 (rc : Nat → Int32 → ts → Option (Int32 × ts)) (k9 : Int32 → Int32 → Int32 → Int32 → ts → Option (Int32 × ts)) (l1 : Int32) (l2 : Int32) (l3 : Int32) (l4 : Int32) (s : ts) : Option (Int32 × ts) := (cT_advance s).bind (fun s2 => k9 l1 l2 l3 (l4 + (1 : Int32)) s2)
set_option maxRecDepth 20000 in
theorem cF_readExp_101_ok {e : Nat} (rc : Nat → Int32 → ts → Option (Int32 × ts)) (k9 : Int32 → Int32 → Int32 → Int32 → ts → Option (Int32 × ts)) (hrc : ∀ (w : Nat) (a : Int32) (s : ts) (Q : Int32 × ts → Prop), Ok (rc w a s) Q → am_Ev (e + 1) (clF_m w) (0, [(0, .ref 33), (1, .int a)], []) (lay s) (tq_i Q)) (hk9 : ∀ (l1 : Int32) (l2 : Int32) (l3 : Int32) (l4 : Int32) (s : ts) (Q : Int32 × ts → Prop), Ok (k9 l1 l2 l3 l4 s) Q → am_Ev (e + 1 + 1) 60 (9, [(0, .ref 33), (1, .int (l1)), (2, .int (l2)), (3, .int (l3)), (4, .int (l4))], []) (lay s) (tq_i Q)) (l1 : Int32) (l2 : Int32) (l3 : Int32) (l4 : Int32) (s : ts) (Q : Int32 × ts → Prop) (h : Ok (cF_readExp_101 rc k9 l1 l2 l3 l4 s) Q) : am_Ev (e + 1 + 1) 60 (101, [(0, .ref 33), (1, .int (l1)), (2, .int (l2)), (3, .int (l3)), (4, .int (l4))], []) (lay s) (tq_i Q) := by
  unfold cF_readExp_101 at h
  refine ev_aload_n (pc' := 102) m_60 rfl rfl rfl (tr_get (pc' := 105) (v := .ref 7) m_60 rfl rfl ts_o33 rfl rfl rfl ?_)
  refine tr_cv (pc' := 108) m_60 rfl rfl rfl m_37 rfl rfl rfl rfl (tr_rcv ts_o7 rfl) rfl rfl (cT_advance_ok _ _ (Ok_b h)) (fun s2 h => ?_)
  refine ev_iinc (pc' := 111) (z := 1) m_60 rfl rfl rfl rfl rfl rfl (ev_goto (pc' := 9) m_60 rfl rfl ?_)
  exact am_Ev.sub (L := [(0, .ref 33), (1, .int (l1)), (2, .int (l2)), (3, .int (l3)), (4, .int (l4 + (1 : Int32)))]) ⟨rfl, rfl, rfl, rfl, rfl, trivial⟩ (hk9 l1 l2 l3 (l4 + (1 : Int32)) _ _ h)
def cF_readExp_9_b (rc : Nat → Int32 → ts → Option (Int32 × ts)) (kk : Int32 → Int32 → Int32 → Int32 → ts → Option (Int32 × ts)) (l1 : Int32) (l2 : Int32) (l3 : Int32) (l4 : Int32) (s : ts) : Option (Int32 × ts) := (if ((4001 : Int32)) ≤ l4 then some ((0 : Int32), s) else (rc 1 l1 s).bind (fun x3 => (if x3.1 = ((0 : Int32)) then some ((0 : Int32), x3.2) else (cG_closeSkip l3 x3.2).bind (fun s5 => (if (gI s5 107 0) = ((294 : Int32)) then (cG_addOp ((294 : Int32)) ((0 : Int32)) s5).bind (fun x16 => cF_readExp_101 rc kk l1 l2 x16.1 l4 x16.2) else (cG_closeSkip l2 s5).bind (fun s8 => (if (gI s8 107 0) = ((380 : Int32)) then (cG_addOp ((380 : Int32)) ((0 : Int32)) s8).bind (fun x12 => cF_readExp_101 rc kk l1 x12.1 ((-2 : Int32)) l4 x12.2) else some ((1 : Int32), s8))))))))
def cF_readExp_9 (rc : Nat → Int32 → ts → Option (Int32 × ts)) : Nat → Int32 → Int32 → Int32 → Int32 → ts → Option (Int32 × ts)
  | 0, _, _, _, _, _ => none
  | n + 1, l1, l2, l3, l4, s => cF_readExp_9_b rc (cF_readExp_9 rc n) l1 l2 l3 l4 s
set_option maxRecDepth 20000 in
theorem cF_readExp_9_ok {e : Nat} (rc : Nat → Int32 → ts → Option (Int32 × ts)) (hrc : ∀ (w : Nat) (a : Int32) (s : ts) (Q : Int32 × ts → Prop), Ok (rc w a s) Q → am_Ev (e + 1) (clF_m w) (0, [(0, .ref 33), (1, .int a)], []) (lay s) (tq_i Q)) : ∀ (n : Nat) (l1 : Int32) (l2 : Int32) (l3 : Int32) (l4 : Int32) (s : ts) (Q : Int32 × ts → Prop), Ok (cF_readExp_9 rc n l1 l2 l3 l4 s) Q → am_Ev (e + 1 + 1) 60 (9, [(0, .ref 33), (1, .int (l1)), (2, .int (l2)), (3, .int (l3)), (4, .int (l4))], []) (lay s) (tq_i Q) := by
  intro n
  induction n with
  | zero => intro l1 l2 l3 l4 s Q h; exact Ok_n h
  | succ n ih =>
    intro l1 l2 l3 l4 s Q h
    rw [cF_readExp_9.eq_2] at h
    unfold cF_readExp_9_b at h
    refine ev_iload (pc' := 11) m_60 rfl rfl rfl (ev_sipush (pc' := 14) (x := 4001) m_60 rfl rfl rfl ?_)
    refine ev_icmp_ge (t := 114) (e := 17) m_60 rfl rfl rfl (fun c19 => ?_) (fun c19 => ?_)
    · replace h := Ok_t c19 h
      refine ev_iconst (pc' := 115) (x := 0) m_60 rfl rfl rfl ?_
      exact tr_rz m_60 rfl rfl (Or.inl rfl) (Ok_s h)
    · replace h := Ok_f c19 h
      refine ev_aload_n (pc' := 18) m_60 rfl rfl rfl (ev_iload_n (pc' := 19) m_60 rfl rfl rfl ?_)
      refine tr_cz (pc' := 22) m_60 rfl rfl rfl m_61 rfl rfl rfl rfl rfl (tr_rcv ts_o33 rfl) rfl rfl (hrc 1 l1 _ _ (Ok_b h)) (fun x3_ x3_s h1 h => ?_)
      refine ev_if_ne (t := 27) (e := 25) m_60 rfl rfl rfl (fun c18 => ?_) (fun c18 => ?_)
      · replace h := Ok_f c18 h
        refine ev_aload_n (pc' := 28) m_60 rfl rfl rfl (tr_get (pc' := 31) (v := .ref 12) m_60 rfl rfl ts_o33 rfl rfl rfl (ev_iload_n (pc' := 32) m_60 rfl rfl rfl ?_))
        refine tr_cv (pc' := 35) m_60 rfl rfl rfl m_72 rfl rfl rfl rfl (tr_rcv ts_o12 rfl) rfl rfl (cG_closeSkip_ok l3 _ _ (Ok_b h)) (fun s5 h => ?_)
        refine ev_bipush (pc' := 37) (x := -2) m_60 rfl rfl rfl (ev_istore_n (pc' := 38) m_60 rfl rfl rfl rfl (ev_aload_n (pc' := 39) m_60 rfl rfl rfl (tr_get (pc' := 42) (v := .ref 7) m_60 rfl rfl ts_o33 rfl rfl rfl (tr_get (pc' := 45) (v := .int (gI _ 107 _)) m_60 rfl rfl ts_o7 rfl rfl rfl (ev_sipush (pc' := 48) (x := 294) m_60 rfl rfl rfl ?_)))))
        refine ev_icmp_ne (t := 66) (e := 51) m_60 rfl rfl rfl (fun c17 => ?_) (fun c17 => ?_)
        · replace h := Ok_f c17 h
          refine ev_aload_n (pc' := 67) m_60 rfl rfl rfl (tr_get (pc' := 70) (v := .ref 12) m_60 rfl rfl ts_o33 rfl rfl rfl (ev_iload_n (pc' := 71) m_60 rfl rfl rfl ?_))
          refine tr_cv (pc' := 74) m_60 rfl rfl rfl m_72 rfl rfl rfl rfl (tr_rcv ts_o12 rfl) rfl rfl (cG_closeSkip_ok l2 _ _ (Ok_b h)) (fun s8 h => ?_)
          refine ev_aload_n (pc' := 75) m_60 rfl rfl rfl (tr_get (pc' := 78) (v := .ref 7) m_60 rfl rfl ts_o33 rfl rfl rfl (tr_get (pc' := 81) (v := .int (gI _ 107 _)) m_60 rfl rfl ts_o7 rfl rfl rfl (ev_sipush (pc' := 84) (x := 380) m_60 rfl rfl rfl ?_)))
          refine ev_icmp_eq (t := 89) (e := 87) m_60 rfl rfl rfl (fun c13 => ?_) (fun c13 => ?_)
          · replace h := Ok_t c13 h
            refine ev_aload_n (pc' := 90) m_60 rfl rfl rfl (tr_get (pc' := 93) (v := .ref 12) m_60 rfl rfl ts_o33 rfl rfl rfl (ev_sipush (pc' := 96) (x := 380) m_60 rfl rfl rfl (ev_iconst (pc' := 97) (x := 0) m_60 rfl rfl rfl ?_)))
            refine tr_ci (pc' := 100) m_60 rfl rfl rfl m_65 rfl rfl rfl rfl (tr_rcv ts_o12 rfl) rfl rfl (cG_addOp_ok ((380 : Int32)) ((0 : Int32)) _ _ (Ok_b h)) (fun x12_ x12_s h => ?_)
            refine ev_istore_n (pc' := 101) m_60 rfl rfl rfl rfl ?_
            exact am_Ev.sub (L := [(0, .ref 33), (1, .int (l1)), (2, .int (x12_)), (3, .int ((-2 : Int32))), (4, .int (l4))]) ⟨rfl, rfl, rfl, rfl, rfl, trivial⟩ (cF_readExp_101_ok rc (cF_readExp_9 rc n) hrc ih l1 x12_ ((-2 : Int32)) l4 _ _ h)
          · replace h := Ok_f c13 h
            refine ev_iconst (pc' := 88) (x := 1) m_60 rfl rfl rfl ?_
            exact tr_rz m_60 rfl rfl (Or.inr rfl) (Ok_s h)
        · replace h := Ok_t c17 h
          refine ev_aload_n (pc' := 52) m_60 rfl rfl rfl (tr_get (pc' := 55) (v := .ref 12) m_60 rfl rfl ts_o33 rfl rfl rfl (ev_sipush (pc' := 58) (x := 294) m_60 rfl rfl rfl (ev_iconst (pc' := 59) (x := 0) m_60 rfl rfl rfl ?_)))
          refine tr_ci (pc' := 62) m_60 rfl rfl rfl m_65 rfl rfl rfl rfl (tr_rcv ts_o12 rfl) rfl rfl (cG_addOp_ok ((294 : Int32)) ((0 : Int32)) _ _ (Ok_b h)) (fun x16_ x16_s h => ?_)
          refine ev_istore_n (pc' := 63) m_60 rfl rfl rfl rfl (ev_goto (pc' := 101) m_60 rfl rfl ?_)
          exact am_Ev.sub (L := [(0, .ref 33), (1, .int (l1)), (2, .int (l2)), (3, .int (x16_)), (4, .int (l4))]) ⟨rfl, rfl, rfl, rfl, rfl, trivial⟩ (cF_readExp_101_ok rc (cF_readExp_9 rc n) hrc ih l1 l2 x16_ l4 _ _ h)
      · replace h := Ok_t c18 h
        refine ev_iconst (pc' := 26) (x := 0) m_60 rfl rfl rfl ?_
        exact tr_rz m_60 rfl rfl (Or.inl rfl) (Ok_s h)
def cF_readExp (rc : Nat → Int32 → ts → Option (Int32 × ts)) (l1 : Int32) (s : ts) : Option (Int32 × ts) := cF_readExp_9 rc tm_N l1 ((-2 : Int32)) ((-2 : Int32)) ((0 : Int32)) s
set_option maxRecDepth 20000 in
theorem cF_readExp_ok {e : Nat} (rc : Nat → Int32 → ts → Option (Int32 × ts)) (hrc : ∀ (w : Nat) (a : Int32) (s : ts) (Q : Int32 × ts → Prop), Ok (rc w a s) Q → am_Ev (e + 1) (clF_m w) (0, [(0, .ref 33), (1, .int a)], []) (lay s) (tq_i Q)) (l1 : Int32) (s : ts) (Q : Int32 × ts → Prop) (h : Ok (cF_readExp rc l1 s) Q) : am_Ev (e + 1 + 1) 60 (0, [(0, .ref 33), (1, .int (l1))], []) (lay s) (tq_i Q) := by
  unfold cF_readExp at h
  refine ev_bipush (pc' := 2) (x := -2) m_60 rfl rfl rfl (ev_istore_n (pc' := 3) m_60 rfl rfl rfl rfl (ev_bipush (pc' := 5) (x := -2) m_60 rfl rfl rfl (ev_istore_n (pc' := 6) m_60 rfl rfl rfl rfl (ev_iconst (pc' := 7) (x := 0) m_60 rfl rfl rfl (ev_istore (pc' := 9) m_60 rfl rfl rfl rfl ?_)))))
  exact am_Ev.sub (L := [(0, .ref 33), (1, .int (l1)), (2, .int ((-2 : Int32))), (3, .int ((-2 : Int32))), (4, .int ((0 : Int32)))]) ⟨rfl, rfl, rfl, rfl, rfl, trivial⟩ (cF_readExp_9_ok rc hrc tm_N l1 ((-2 : Int32)) ((-2 : Int32)) ((0 : Int32)) _ _ h)
def clF : Nat → Nat → Int32 → ts → Option (Int32 × ts)
  | 0, _, _, _ => none
  | n + 1, w, a, s => if w = 0 then cF_readExp (clF n) a s else if w = 1 then cF_readTest (clF n) a s else if w = 2 then cF_readSum (clF n) a s else if w = 3 then cF_readOne (clF n) a s else if w = 4 then cF_readInner (clF n) a s else none
theorem clF_ok {d : Nat} : ∀ (n w : Nat) (a : Int32) (s : ts) (Q : Int32 × ts → Prop), Ok (clF n w a s) Q → am_Ev (d + n + 1) (clF_m w) (0, [(0, .ref 33), (1, .int a)], []) (lay s) (tq_i Q) := by
  intro n
  induction n with
  | zero => intro w a s Q h; exact Ok_n h
  | succ n ih =>
    intro w a s Q h
    rw [clF.eq_2] at h
    show am_Ev (d + n + 1 + 1) _ _ _ _
    by_cases c0 : w = 0
    · subst c0
      replace h := Ok_t rfl h
      exact cF_readExp_ok (e := d + n) (clF n) ih a s Q h
    replace h := Ok_f c0 h
    by_cases c1 : w = 1
    · subst c1
      replace h := Ok_t rfl h
      exact cF_readTest_ok (e := d + n) (clF n) ih a s Q h
    replace h := Ok_f c1 h
    by_cases c2 : w = 2
    · subst c2
      replace h := Ok_t rfl h
      exact cF_readSum_ok (e := d + n) (clF n) ih a s Q h
    replace h := Ok_f c2 h
    by_cases c3 : w = 3
    · subst c3
      replace h := Ok_t rfl h
      exact cF_readOne_ok (e := d + n) (clF n) ih a s Q h
    replace h := Ok_f c3 h
    by_cases c4 : w = 4
    · subst c4
      replace h := Ok_t rfl h
      exact cF_readInner_ok (e := d + n) (clF n) ih a s Q h
    replace h := Ok_f c4 h
    exact Ok_n h
def cG_addAct (l1 : Int32) (l2 : Int32) (l3 : Int32) (s : ts) : Option (Int32 × ts) := (if (gI s 214 0) < ((512 : Int32)) then (if am_idx (gI s 214 0) 512 = true then (if am_idx (gI (wA s 22 (gI s 214 0).toNatClampNeg l1) 214 0) 512 = true then (if am_idx (gI (wA (wA s 22 (gI s 214 0).toNatClampNeg l1) 23 (gI (wA s 22 (gI s 214 0).toNatClampNeg l1) 214 0).toNatClampNeg l2) 214 0) 512 = true then (if am_idx (gI (wA (wA (wA s 22 (gI s 214 0).toNatClampNeg l1) 23 (gI (wA s 22 (gI s 214 0).toNatClampNeg l1) 214 0).toNatClampNeg l2) 24 (gI (wA (wA s 22 (gI s 214 0).toNatClampNeg l1) 23 (gI (wA s 22 (gI s 214 0).toNatClampNeg l1) 214 0).toNatClampNeg l2) 214 0).toNatClampNeg l3) 214 0) 512 = true then some ((gI (wI (wA (wA (wA (wA s 22 (gI s 214 0).toNatClampNeg l1) 23 (gI (wA s 22 (gI s 214 0).toNatClampNeg l1) 214 0).toNatClampNeg l2) 24 (gI (wA (wA s 22 (gI s 214 0).toNatClampNeg l1) 23 (gI (wA s 22 (gI s 214 0).toNatClampNeg l1) 214 0).toNatClampNeg l2) 214 0).toNatClampNeg l3) 25 (gI (wA (wA (wA s 22 (gI s 214 0).toNatClampNeg l1) 23 (gI (wA s 22 (gI s 214 0).toNatClampNeg l1) 214 0).toNatClampNeg l2) 24 (gI (wA (wA s 22 (gI s 214 0).toNatClampNeg l1) 23 (gI (wA s 22 (gI s 214 0).toNatClampNeg l1) 214 0).toNatClampNeg l2) 214 0).toNatClampNeg l3) 214 0).toNatClampNeg (gI (wA (wA (wA s 22 (gI s 214 0).toNatClampNeg l1) 23 (gI (wA s 22 (gI s 214 0).toNatClampNeg l1) 214 0).toNatClampNeg l2) 24 (gI (wA (wA s 22 (gI s 214 0).toNatClampNeg l1) 23 (gI (wA s 22 (gI s 214 0).toNatClampNeg l1) 214 0).toNatClampNeg l2) 214 0).toNatClampNeg l3) 217 0)) 214 0 ((gI (wA (wA (wA (wA s 22 (gI s 214 0).toNatClampNeg l1) 23 (gI (wA s 22 (gI s 214 0).toNatClampNeg l1) 214 0).toNatClampNeg l2) 24 (gI (wA (wA s 22 (gI s 214 0).toNatClampNeg l1) 23 (gI (wA s 22 (gI s 214 0).toNatClampNeg l1) 214 0).toNatClampNeg l2) 214 0).toNatClampNeg l3) 25 (gI (wA (wA (wA s 22 (gI s 214 0).toNatClampNeg l1) 23 (gI (wA s 22 (gI s 214 0).toNatClampNeg l1) 214 0).toNatClampNeg l2) 24 (gI (wA (wA s 22 (gI s 214 0).toNatClampNeg l1) 23 (gI (wA s 22 (gI s 214 0).toNatClampNeg l1) 214 0).toNatClampNeg l2) 214 0).toNatClampNeg l3) 214 0).toNatClampNeg (gI (wA (wA (wA s 22 (gI s 214 0).toNatClampNeg l1) 23 (gI (wA s 22 (gI s 214 0).toNatClampNeg l1) 214 0).toNatClampNeg l2) 24 (gI (wA (wA s 22 (gI s 214 0).toNatClampNeg l1) 23 (gI (wA s 22 (gI s 214 0).toNatClampNeg l1) 214 0).toNatClampNeg l2) 214 0).toNatClampNeg l3) 217 0)) 214 0) + ((1 : Int32)))) 214 0) - ((1 : Int32)), wI (wA (wA (wA (wA s 22 (gI s 214 0).toNatClampNeg l1) 23 (gI (wA s 22 (gI s 214 0).toNatClampNeg l1) 214 0).toNatClampNeg l2) 24 (gI (wA (wA s 22 (gI s 214 0).toNatClampNeg l1) 23 (gI (wA s 22 (gI s 214 0).toNatClampNeg l1) 214 0).toNatClampNeg l2) 214 0).toNatClampNeg l3) 25 (gI (wA (wA (wA s 22 (gI s 214 0).toNatClampNeg l1) 23 (gI (wA s 22 (gI s 214 0).toNatClampNeg l1) 214 0).toNatClampNeg l2) 24 (gI (wA (wA s 22 (gI s 214 0).toNatClampNeg l1) 23 (gI (wA s 22 (gI s 214 0).toNatClampNeg l1) 214 0).toNatClampNeg l2) 214 0).toNatClampNeg l3) 214 0).toNatClampNeg (gI (wA (wA (wA s 22 (gI s 214 0).toNatClampNeg l1) 23 (gI (wA s 22 (gI s 214 0).toNatClampNeg l1) 214 0).toNatClampNeg l2) 24 (gI (wA (wA s 22 (gI s 214 0).toNatClampNeg l1) 23 (gI (wA s 22 (gI s 214 0).toNatClampNeg l1) 214 0).toNatClampNeg l2) 214 0).toNatClampNeg l3) 217 0)) 214 0 ((gI (wA (wA (wA (wA s 22 (gI s 214 0).toNatClampNeg l1) 23 (gI (wA s 22 (gI s 214 0).toNatClampNeg l1) 214 0).toNatClampNeg l2) 24 (gI (wA (wA s 22 (gI s 214 0).toNatClampNeg l1) 23 (gI (wA s 22 (gI s 214 0).toNatClampNeg l1) 214 0).toNatClampNeg l2) 214 0).toNatClampNeg l3) 25 (gI (wA (wA (wA s 22 (gI s 214 0).toNatClampNeg l1) 23 (gI (wA s 22 (gI s 214 0).toNatClampNeg l1) 214 0).toNatClampNeg l2) 24 (gI (wA (wA s 22 (gI s 214 0).toNatClampNeg l1) 23 (gI (wA s 22 (gI s 214 0).toNatClampNeg l1) 214 0).toNatClampNeg l2) 214 0).toNatClampNeg l3) 214 0).toNatClampNeg (gI (wA (wA (wA s 22 (gI s 214 0).toNatClampNeg l1) 23 (gI (wA s 22 (gI s 214 0).toNatClampNeg l1) 214 0).toNatClampNeg l2) 24 (gI (wA (wA s 22 (gI s 214 0).toNatClampNeg l1) 23 (gI (wA s 22 (gI s 214 0).toNatClampNeg l1) 214 0).toNatClampNeg l2) 214 0).toNatClampNeg l3) 217 0)) 214 0) + ((1 : Int32)))) else none) else none) else none) else none) else some ((-2 : Int32), s))
set_option maxRecDepth 20000 in
theorem cG_addAct_ok {d : Nat} (l1 : Int32) (l2 : Int32) (l3 : Int32) (s : ts) (Q : Int32 × ts → Prop) (h : Ok (cG_addAct l1 l2 l3 s) Q) : am_Ev (d + 0) 74 (0, [(0, .ref 12), (1, .int (l1)), (2, .int (l2)), (3, .int (l3))], []) (lay s) (tq_i Q) := by
  unfold cG_addAct at h
  refine ev_aload_n (pc' := 1) m_74 rfl rfl rfl (tr_get (pc' := 4) (v := .int (gI _ 214 _)) m_74 rfl rfl ts_o12 rfl rfl rfl (ev_sipush (pc' := 7) (x := 512) m_74 rfl rfl rfl ?_))
  refine ev_icmp_lt (t := 13) (e := 10) m_74 rfl rfl rfl (fun c5 => ?_) (fun c5 => ?_)
  · replace h := Ok_t c5 h
    refine ev_aload_n (pc' := 14) m_74 rfl rfl rfl (tr_get (pc' := 17) (v := .ref 22) m_74 rfl rfl ts_o12 rfl rfl rfl (ev_aload_n (pc' := 18) m_74 rfl rfl rfl (tr_get (pc' := 21) (v := .int (gI _ 214 _)) m_74 rfl rfl ts_o12 rfl rfl rfl (ev_iload_n (pc' := 22) m_74 rfl rfl rfl ?_))))
    obtain ⟨g1, h⟩ := Ok_g h
    refine tr_iast (pc' := 23) m_74 rfl rfl rfl g1 rfl (ev_aload_n (pc' := 24) m_74 rfl rfl rfl (tr_get (pc' := 27) (v := .ref 23) m_74 rfl rfl ts_o12 rfl rfl rfl (ev_aload_n (pc' := 28) m_74 rfl rfl rfl (tr_get (pc' := 31) (v := .int (gI _ 214 _)) m_74 rfl rfl ts_o12 rfl rfl rfl (ev_iload_n (pc' := 32) m_74 rfl rfl rfl ?_)))))
    obtain ⟨g2, h⟩ := Ok_g h
    refine tr_iast (pc' := 33) m_74 rfl rfl rfl g2 rfl (ev_aload_n (pc' := 34) m_74 rfl rfl rfl (tr_get (pc' := 37) (v := .ref 24) m_74 rfl rfl ts_o12 rfl rfl rfl (ev_aload_n (pc' := 38) m_74 rfl rfl rfl (tr_get (pc' := 41) (v := .int (gI _ 214 _)) m_74 rfl rfl ts_o12 rfl rfl rfl (ev_iload_n (pc' := 42) m_74 rfl rfl rfl ?_)))))
    obtain ⟨g3, h⟩ := Ok_g h
    refine tr_iast (pc' := 43) m_74 rfl rfl rfl g3 rfl (ev_aload_n (pc' := 44) m_74 rfl rfl rfl (tr_get (pc' := 47) (v := .ref 25) m_74 rfl rfl ts_o12 rfl rfl rfl (ev_aload_n (pc' := 48) m_74 rfl rfl rfl (tr_get (pc' := 51) (v := .int (gI _ 214 _)) m_74 rfl rfl ts_o12 rfl rfl rfl (ev_aload_n (pc' := 52) m_74 rfl rfl rfl (tr_get (pc' := 55) (v := .int (gI _ 217 _)) m_74 rfl rfl ts_o12 rfl rfl rfl ?_))))))
    obtain ⟨g4, h⟩ := Ok_g h
    refine tr_iast (pc' := 56) m_74 rfl rfl rfl g4 rfl (ev_aload_n (pc' := 57) m_74 rfl rfl rfl (ev_dup (pc' := 58) m_74 rfl rfl rfl (tr_get (pc' := 61) (v := .int (gI _ 214 _)) m_74 rfl rfl ts_o12 rfl rfl rfl (ev_iconst (pc' := 62) (x := 1) m_74 rfl rfl rfl (ev_iadd (pc' := 63) m_74 rfl rfl (tr_pI (pc' := 66) (f := 214) m_74 rfl rfl rfl ts_o12 rfl rfl rfl rfl (ev_aload_n (pc' := 67) m_74 rfl rfl rfl ?_)))))))
    refine tr_get (pc' := 70) (v := .int (gI _ 214 _)) m_74 rfl rfl ts_o12 rfl rfl rfl (ev_iconst (pc' := 71) (x := 1) m_74 rfl rfl rfl (ev_isub (pc' := 72) m_74 rfl rfl ?_))
    exact tr_ri m_74 rfl rfl (Ok_s h)
  · replace h := Ok_f c5 h
    refine ev_bipush (pc' := 12) (x := -2) m_74 rfl rfl rfl ?_
    exact tr_ri m_74 rfl rfl (Ok_s h)
def cD_closeStatement (l1 : Int32) (l2 : Int32) (l3 : Int32) (s : ts) : Option (Int32 × ts) := (cG_addAct l1 l2 l3 s).bind (fun x3 => (cT_need ((59 : Int32)) x3.2).bind (fun x6 => some (x6.1, x6.2)))
set_option maxRecDepth 20000 in
theorem cD_closeStatement_ok {d : Nat} (l1 : Int32) (l2 : Int32) (l3 : Int32) (s : ts) (Q : Int32 × ts → Prop) (h : Ok (cD_closeStatement l1 l2 l3 s) Q) : am_Ev (d + 2) 73 (0, [(0, .ref 28), (1, .int (l1)), (2, .int (l2)), (3, .int (l3))], []) (lay s) (tq_i Q) := by
  unfold cD_closeStatement at h
  refine ev_aload_n (pc' := 1) m_73 rfl rfl rfl (tr_get (pc' := 4) (v := .ref 12) m_73 rfl rfl ts_o28 rfl rfl rfl (ev_iload_n (pc' := 5) m_73 rfl rfl rfl (ev_iload_n (pc' := 6) m_73 rfl rfl rfl (ev_iload_n (pc' := 7) m_73 rfl rfl rfl ?_))))
  refine tr_ci (pc' := 10) m_73 rfl rfl rfl m_74 rfl rfl rfl rfl (tr_rcv ts_o12 rfl) rfl rfl (cG_addAct_ok l1 l2 l3 _ _ (Ok_b h)) (fun x3_ x3_s h => ?_)
  refine ev_pop (pc' := 11) m_73 rfl rfl rfl (ev_aload_n (pc' := 12) m_73 rfl rfl rfl (tr_get (pc' := 15) (v := .ref 7) m_73 rfl rfl ts_o28 rfl rfl rfl (ev_bipush (pc' := 17) (x := 59) m_73 rfl rfl rfl ?_)))
  refine tr_cz (pc' := 20) m_73 rfl rfl rfl m_49 rfl rfl rfl rfl rfl (tr_rcv ts_o7 rfl) rfl rfl (cT_need_ok ((59 : Int32)) _ _ (Ok_b h)) (fun x6_ x6_s h4 h => ?_)
  exact tr_rz m_73 rfl rfl h4 (Ok_s h)
