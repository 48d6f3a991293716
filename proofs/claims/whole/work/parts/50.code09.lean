/-! THE METHODS AS FUNCTIONS, printed by wip/tools/decomp.py; the machine does what they say. -/
def cR_exchange_15 (l1 : Int32) (s : ts) : Option (ts) := (cR_finish l1 ((4 : Int32)) s).bind (fun s2 => some s2)
set_option maxRecDepth 20000 in
theorem cR_exchange_15_ok {d : Nat} (l1 : Int32) (s : ts) (Q : ts → Prop) (h : Ok (cR_exchange_15 l1 s) Q) : am_Ev (d + 4) 245 (15, [(0, .ref 87), (1, .int (l1))], []) (lay s) (tq_v Q) := by
  unfold cR_exchange_15 at h
  refine ev_aload_n (pc' := 16) m_245 rfl rfl rfl (ev_iload_n (pc' := 17) m_245 rfl rfl rfl (ev_iconst (pc' := 18) (x := 4) m_245 rfl rfl rfl ?_))
  refine tr_cv (pc' := 21) m_245 rfl rfl rfl m_228 rfl rfl rfl rfl (tr_rcv ts_o87 rfl) rfl rfl (cR_finish_ok l1 ((4 : Int32)) _ _ (Ok_b h)) (fun s2 h => ?_)
  exact tr_rv m_245 rfl rfl (Ok_s h)
def cR_exchange_43 (l1 : Int32) (l2 : Int32) (l3 : Int32) (l5 : Int32) (t0 : Int32) (s : ts) : Option (ts) := (if am_idx t0 28 = true then (cR_enter t0 l1 l3 (gA s 136 t0.toNatClampNeg) s).bind (fun s3 => (cR_serveStore l2 s3).bind (fun s6 => (cR_isIn t0 l1 s6).bind (fun x10 => (if x10.1 = ((0 : Int32)) then some x10.2 else (cR_waits l1 ((3 : Int32)) l5 x10.2).bind (fun s12 => some s12))))) else none)
set_option maxRecDepth 20000 in
theorem cR_exchange_43_ok {d : Nat} (l1 : Int32) (l2 : Int32) (l3 : Int32) (l5 : Int32) (t0 : Int32) (s : ts) (Q : ts → Prop) (h : Ok (cR_exchange_43 l1 l2 l3 l5 t0 s) Q) : am_Ev (d + 4) 245 (43, [(0, .ref 87), (1, .int (l1)), (2, .int (l2)), (3, .int (l3)), (5, .int (l5))], [.int (t0)]) (lay s) (tq_v Q) := by
  unfold cR_exchange_43 at h
  refine ev_istore (pc' := 45) m_245 rfl rfl rfl rfl (ev_aload_n (pc' := 46) m_245 rfl rfl rfl (ev_iload (pc' := 48) m_245 rfl rfl rfl (ev_iload_n (pc' := 49) m_245 rfl rfl rfl (ev_iload_n (pc' := 50) m_245 rfl rfl rfl (ev_aload_n (pc' := 51) m_245 rfl rfl rfl (tr_get (pc' := 54) (v := .ref 136) m_245 rfl rfl ts_o87 rfl rfl rfl (ev_iload (pc' := 56) m_245 rfl rfl rfl ?_)))))))
  obtain ⟨g1, h⟩ := Ok_g h
  refine tr_iald (pc' := 57) m_245 rfl rfl rfl g1 rfl ?_
  refine tr_cv (pc' := 60) m_245 rfl rfl rfl m_242 rfl rfl rfl rfl (tr_rcv ts_o87 rfl) rfl rfl (cR_enter_ok t0 l1 l3 (gA s 136 t0.toNatClampNeg) _ _ (Ok_b h)) (fun s3 h => ?_)
  refine ev_aload_n (pc' := 61) m_245 rfl rfl rfl (ev_iload_n (pc' := 62) m_245 rfl rfl rfl ?_)
  refine tr_cv (pc' := 65) m_245 rfl rfl rfl m_231 rfl rfl rfl rfl (tr_rcv ts_o87 rfl) rfl rfl (cR_serveStore_ok l2 _ _ (Ok_b h)) (fun s6 h => ?_)
  refine ev_aload_n (pc' := 66) m_245 rfl rfl rfl (ev_iload (pc' := 68) m_245 rfl rfl rfl (ev_iload_n (pc' := 69) m_245 rfl rfl rfl ?_))
  refine tr_cz (pc' := 72) m_245 rfl rfl rfl m_246 rfl rfl rfl rfl rfl (tr_rcv ts_o87 rfl) rfl rfl (cR_isIn_ok t0 l1 _ _ (Ok_b h)) (fun x10_ x10_s h8 h => ?_)
  refine ev_if_eq (t := 83) (e := 75) m_245 rfl rfl rfl (fun c14 => ?_) (fun c14 => ?_)
  · replace h := Ok_t c14 h
    exact tr_rv m_245 rfl rfl (Ok_s h)
  · replace h := Ok_f c14 h
    refine ev_aload_n (pc' := 76) m_245 rfl rfl rfl (ev_iload_n (pc' := 77) m_245 rfl rfl rfl (ev_iconst (pc' := 78) (x := 3) m_245 rfl rfl rfl (ev_iload (pc' := 80) m_245 rfl rfl rfl ?_)))
    refine tr_cv (pc' := 83) m_245 rfl rfl rfl m_243 rfl rfl rfl rfl (tr_rcv ts_o87 rfl) rfl rfl (cR_waits_ok l1 ((3 : Int32)) l5 _ _ (Ok_b h)) (fun s12 h => ?_)
    exact tr_rv m_245 rfl rfl (Ok_s h)
def cR_exchange (l1 : Int32) (l2 : Int32) (l3 : Int32) (l4 : Int32) (s : ts) : Option (ts) := (if l3 < ((1 : Int32)) then cR_exchange_15 l1 s else (if am_idx l2 6 = true then (if l3 ≤ (gA s 93 l2.toNatClampNeg) then (if l4 = ((0 : Int32)) then cR_exchange_43 l1 l2 l3 (((8 : Int32)) + l2) (((8 : Int32)) + l2) s else cR_exchange_43 l1 l2 l3 (((8 : Int32)) + l2) (((14 : Int32)) + (((8 : Int32)) + l2)) s) else cR_exchange_15 l1 s) else none))
set_option maxRecDepth 20000 in
theorem cR_exchange_ok {d : Nat} (l1 : Int32) (l2 : Int32) (l3 : Int32) (l4 : Int32) (s : ts) (Q : ts → Prop) (h : Ok (cR_exchange l1 l2 l3 l4 s) Q) : am_Ev (d + 4) 245 (0, [(0, .ref 87), (1, .int (l1)), (2, .int (l2)), (3, .int (l3)), (4, .int (l4))], []) (lay s) (tq_v Q) := by
  unfold cR_exchange at h
  refine ev_iload_n (pc' := 1) m_245 rfl rfl rfl (ev_iconst (pc' := 2) (x := 1) m_245 rfl rfl rfl ?_)
  refine ev_icmp_lt (t := 15) (e := 5) m_245 rfl rfl rfl (fun c4 => ?_) (fun c4 => ?_)
  · replace h := Ok_t c4 h
    exact am_Ev.sub (L := [(0, .ref 87), (1, .int (l1))]) ⟨rfl, rfl, trivial⟩ (cR_exchange_15_ok l1 _ _ h)
  · replace h := Ok_f c4 h
    refine ev_iload_n (pc' := 6) m_245 rfl rfl rfl (ev_aload_n (pc' := 7) m_245 rfl rfl rfl (tr_get (pc' := 10) (v := .ref 93) m_245 rfl rfl ts_o87 rfl rfl rfl (ev_iload_n (pc' := 11) m_245 rfl rfl rfl ?_)))
    obtain ⟨g1, h⟩ := Ok_g h
    refine tr_iald (pc' := 12) m_245 rfl rfl rfl g1 rfl ?_
    refine ev_icmp_le (t := 22) (e := 15) m_245 rfl rfl rfl (fun c3 => ?_) (fun c3 => ?_)
    · replace h := Ok_t c3 h
      refine ev_bipush (pc' := 24) (x := 8) m_245 rfl rfl rfl (ev_iload_n (pc' := 25) m_245 rfl rfl rfl (ev_iadd (pc' := 26) m_245 rfl rfl (ev_istore (pc' := 28) m_245 rfl rfl rfl rfl (ev_iload (pc' := 30) m_245 rfl rfl rfl ?_))))
      refine ev_if_eq (t := 41) (e := 33) m_245 rfl rfl rfl (fun c2 => ?_) (fun c2 => ?_)
      · replace h := Ok_t c2 h
        refine ev_iload (pc' := 43) m_245 rfl rfl rfl ?_
        exact am_Ev.sub (L := [(0, .ref 87), (1, .int (l1)), (2, .int (l2)), (3, .int (l3)), (5, .int (((8 : Int32)) + l2))]) ⟨rfl, rfl, rfl, rfl, rfl, trivial⟩ (cR_exchange_43_ok l1 l2 l3 (((8 : Int32)) + l2) (((8 : Int32)) + l2) _ _ h)
      · replace h := Ok_f c2 h
        refine ev_bipush (pc' := 35) (x := 14) m_245 rfl rfl rfl (ev_iload (pc' := 37) m_245 rfl rfl rfl (ev_iadd (pc' := 38) m_245 rfl rfl (ev_goto (pc' := 43) m_245 rfl rfl ?_)))
        exact am_Ev.sub (L := [(0, .ref 87), (1, .int (l1)), (2, .int (l2)), (3, .int (l3)), (5, .int (((8 : Int32)) + l2))]) ⟨rfl, rfl, rfl, rfl, rfl, trivial⟩ (cR_exchange_43_ok l1 l2 l3 (((8 : Int32)) + l2) (((14 : Int32)) + (((8 : Int32)) + l2)) _ _ h)
    · replace h := Ok_f c3 h
      exact am_Ev.sub (L := [(0, .ref 87), (1, .int (l1))]) ⟨rfl, rfl, trivial⟩ (cR_exchange_15_ok l1 _ _ h)
def cR_startOne_131 (l1 : Int32) (s : ts) : Option (ts) := (cR_finish l1 ((2 : Int32)) s).bind (fun s2 => some s2)
set_option maxRecDepth 20000 in
theorem cR_startOne_131_ok {d : Nat} (l1 : Int32) (s : ts) (Q : ts → Prop) (h : Ok (cR_startOne_131 l1 s) Q) : am_Ev (d + 4) 247 (131, [(0, .ref 87), (1, .int (l1))], []) (lay s) (tq_v Q) := by
  unfold cR_startOne_131 at h
  refine ev_aload_n (pc' := 132) m_247 rfl rfl rfl (ev_iload_n (pc' := 133) m_247 rfl rfl rfl (ev_iconst (pc' := 134) (x := 2) m_247 rfl rfl rfl ?_))
  refine tr_cv (pc' := 137) m_247 rfl rfl rfl m_228 rfl rfl rfl rfl (tr_rcv ts_o87 rfl) rfl rfl (cR_finish_ok l1 ((2 : Int32)) _ _ (Ok_b h)) (fun s2 h => ?_)
  refine ev_goto (pc' := 217) m_247 rfl rfl ?_
  exact tr_rv m_247 rfl rfl (Ok_s h)
def cR_startOne_180_b (kk : Int32 → Int32 → Int32 → ts → Option (ts)) (l2 : Int32) (l4 : Int32) (l5 : Int32) (s : ts) : Option (ts) := (if am_idx l2 900 = true then (if (gA s 105 l2.toNatClampNeg) ≤ l5 then some s else (if am_idx l5 8 = true then (if am_idx ((((8 : Int32)) * l4) + l5) 2400 = true then kk l2 l4 (l5 + (1 : Int32)) (wA s 127 ((((8 : Int32)) * l4) + l5).toNatClampNeg (gA s 142 l5.toNatClampNeg)) else none) else none)) else none)
def cR_startOne_180 : Nat → Int32 → Int32 → Int32 → ts → Option (ts)
  | 0, _, _, _, _ => none
  | n + 1, l2, l4, l5, s => cR_startOne_180_b (cR_startOne_180 n) l2 l4 l5 s
set_option maxRecDepth 20000 in
theorem cR_startOne_180_ok {d : Nat} : ∀ (n : Nat) (l2 : Int32) (l4 : Int32) (l5 : Int32) (s : ts) (Q : ts → Prop), Ok (cR_startOne_180 n l2 l4 l5 s) Q → am_Ev (d + 4) 247 (180, [(0, .ref 87), (2, .int (l2)), (4, .int (l4)), (5, .int (l5))], []) (lay s) (tq_v Q) := by
  intro n
  induction n with
  | zero => intro l2 l4 l5 s Q h; exact Ok_n h
  | succ n ih =>
    intro l2 l4 l5 s Q h
    rw [cR_startOne_180.eq_2] at h
    unfold cR_startOne_180_b at h
    refine ev_iload (pc' := 182) m_247 rfl rfl rfl (ev_aload_n (pc' := 183) m_247 rfl rfl rfl (tr_get (pc' := 186) (v := .ref 105) m_247 rfl rfl ts_o87 rfl rfl rfl (ev_iload_n (pc' := 187) m_247 rfl rfl rfl ?_)))
    obtain ⟨g1, h⟩ := Ok_g h
    refine tr_iald (pc' := 188) m_247 rfl rfl rfl g1 rfl ?_
    refine ev_icmp_ge (t := 217) (e := 191) m_247 rfl rfl rfl (fun c4 => ?_) (fun c4 => ?_)
    · replace h := Ok_t c4 h
      exact tr_rv m_247 rfl rfl (Ok_s h)
    · replace h := Ok_f c4 h
      refine ev_aload_n (pc' := 192) m_247 rfl rfl rfl (tr_get (pc' := 195) (v := .ref 127) m_247 rfl rfl ts_o87 rfl rfl rfl (ev_bipush (pc' := 197) (x := 8) m_247 rfl rfl rfl (ev_iload (pc' := 199) m_247 rfl rfl rfl (ev_imul (pc' := 200) m_247 rfl rfl (ev_iload (pc' := 202) m_247 rfl rfl rfl (ev_iadd (pc' := 203) m_247 rfl rfl (ev_aload_n (pc' := 204) m_247 rfl rfl rfl ?_)))))))
      refine tr_get (pc' := 207) (v := .ref 142) m_247 rfl rfl ts_o87 rfl rfl rfl (ev_iload (pc' := 209) m_247 rfl rfl rfl ?_)
      obtain ⟨g2, h⟩ := Ok_g h
      refine tr_iald (pc' := 210) m_247 rfl rfl rfl g2 rfl ?_
      obtain ⟨g3, h⟩ := Ok_g h
      refine tr_iast (pc' := 211) m_247 rfl rfl rfl g3 rfl (ev_iinc (pc' := 214) (z := 1) m_247 rfl rfl rfl rfl rfl rfl (ev_goto (pc' := 180) m_247 rfl rfl ?_))
      exact am_Ev.sub (L := [(0, .ref 87), (2, .int (l2)), (4, .int (l4)), (5, .int (l5 + (1 : Int32)))]) ⟨rfl, rfl, rfl, rfl, trivial⟩ (ih l2 l4 (l5 + (1 : Int32)) _ _ h)
def cR_startOne_112 (l1 : Int32) (l2 : Int32) (l3 : Int32) (s : ts) : Option (ts) := (if l3 < ((0 : Int32)) then cR_startOne_131 l1 s else (if (lg_cmp (((gI s 1152 0).toInt64) + l3.toInt64) ((1000000000 : Int64))) ≤ ((0 : Int32)) then (if (gI s 1155 0) = ((300 : Int32)) then (cR_finish l1 ((5 : Int32)) s).bind (fun s6 => some s6) else (if am_idx l2 900 = true then (cR_fresh (gA s 100 l2.toNatClampNeg) ((gI s 1152 0) + l3) s).bind (fun x4 => cR_startOne_180 tm_N l2 x4.1 ((0 : Int32)) x4.2) else none)) else cR_startOne_131 l1 s))
set_option maxRecDepth 20000 in
theorem cR_startOne_112_ok {d : Nat} (l1 : Int32) (l2 : Int32) (l3 : Int32) (s : ts) (Q : ts → Prop) (h : Ok (cR_startOne_112 l1 l2 l3 s) Q) : am_Ev (d + 4) 247 (112, [(0, .ref 87), (1, .int (l1)), (2, .int (l2)), (3, .int (l3))], []) (lay s) (tq_v Q) := by
  unfold cR_startOne_112 at h
  refine ev_iload_n (pc' := 113) m_247 rfl rfl rfl ?_
  refine ev_if_lt (t := 131) (e := 116) m_247 rfl rfl rfl (fun c10 => ?_) (fun c10 => ?_)
  · replace h := Ok_t c10 h
    exact am_Ev.sub (L := [(0, .ref 87), (1, .int (l1))]) ⟨rfl, rfl, trivial⟩ (cR_startOne_131_ok l1 _ _ h)
  · replace h := Ok_f c10 h
    refine ev_aload_n (pc' := 117) m_247 rfl rfl rfl (tr_get (pc' := 120) (v := .int (gI _ 1152 _)) m_247 rfl rfl ts_o87 rfl rfl rfl (ev_i2l (pc' := 121) m_247 rfl rfl (ev_iload_n (pc' := 122) m_247 rfl rfl rfl (ev_i2l (pc' := 123) m_247 rfl rfl (ev_ladd (pc' := 124) m_247 rfl rfl (tr_ldc2 (pc' := 127) m_247 rfl rfl rfl (ev_lcmp (pc' := 128) m_247 rfl rfl ?_)))))))
    refine ev_if_le (t := 140) (e := 131) m_247 rfl rfl rfl (fun c9 => ?_) (fun c9 => ?_)
    · replace h := Ok_t c9 h
      refine ev_aload_n (pc' := 141) m_247 rfl rfl rfl (tr_get (pc' := 144) (v := .int (gI _ 1155 _)) m_247 rfl rfl ts_o87 rfl rfl rfl (ev_sipush (pc' := 147) (x := 300) m_247 rfl rfl rfl ?_))
      refine ev_icmp_ne (t := 159) (e := 150) m_247 rfl rfl rfl (fun c8 => ?_) (fun c8 => ?_)
      · replace h := Ok_f c8 h
        refine ev_aload_n (pc' := 160) m_247 rfl rfl rfl (ev_aload_n (pc' := 161) m_247 rfl rfl rfl (tr_get (pc' := 164) (v := .ref 100) m_247 rfl rfl ts_o87 rfl rfl rfl (ev_iload_n (pc' := 165) m_247 rfl rfl rfl ?_)))
        obtain ⟨g1, h⟩ := Ok_g h
        refine tr_iald (pc' := 166) m_247 rfl rfl rfl g1 rfl (ev_aload_n (pc' := 167) m_247 rfl rfl rfl (tr_get (pc' := 170) (v := .int (gI _ 1152 _)) m_247 rfl rfl ts_o87 rfl rfl rfl (ev_iload_n (pc' := 171) m_247 rfl rfl rfl (ev_iadd (pc' := 172) m_247 rfl rfl ?_))))
        refine tr_ci (pc' := 175) m_247 rfl rfl rfl m_220 rfl rfl rfl rfl (tr_rcv ts_o87 rfl) rfl rfl (cR_fresh_ok (gA s 100 l2.toNatClampNeg) ((gI s 1152 0) + l3) _ _ (Ok_b h)) (fun x4_ x4_s h => ?_)
        refine ev_istore (pc' := 177) m_247 rfl rfl rfl rfl (ev_iconst (pc' := 178) (x := 0) m_247 rfl rfl rfl (ev_istore (pc' := 180) m_247 rfl rfl rfl rfl ?_))
        exact am_Ev.sub (L := [(0, .ref 87), (2, .int (l2)), (4, .int (x4_)), (5, .int ((0 : Int32)))]) ⟨rfl, rfl, rfl, rfl, trivial⟩ (cR_startOne_180_ok tm_N l2 x4_ ((0 : Int32)) _ _ h)
      · replace h := Ok_t c8 h
        refine ev_aload_n (pc' := 151) m_247 rfl rfl rfl (ev_iload_n (pc' := 152) m_247 rfl rfl rfl (ev_iconst (pc' := 153) (x := 5) m_247 rfl rfl rfl ?_))
        refine tr_cv (pc' := 156) m_247 rfl rfl rfl m_228 rfl rfl rfl rfl (tr_rcv ts_o87 rfl) rfl rfl (cR_finish_ok l1 ((5 : Int32)) _ _ (Ok_b h)) (fun s6 h => ?_)
        refine ev_goto (pc' := 217) m_247 rfl rfl ?_
        exact tr_rv m_247 rfl rfl (Ok_s h)
    · replace h := Ok_f c9 h
      exact am_Ev.sub (L := [(0, .ref 87), (1, .int (l1))]) ⟨rfl, rfl, trivial⟩ (cR_startOne_131_ok l1 _ _ h)
def cR_startOne_82 (l1 : Int32) (l2 : Int32) (t0 : Int32) (s : ts) : Option (ts) := (if am_idx l2 900 = true then (if (gA s 101 l2.toNatClampNeg) = ((-1 : Int32)) then cR_startOne_112 l1 l2 t0 s else (if (gI s 1188 0) ≤ ((0 : Int32)) then cR_startOne_112 l1 l2 t0 s else (cR_finish l1 (gI s 1188 0) s).bind (fun s3 => some s3))) else none)
set_option maxRecDepth 20000 in
theorem cR_startOne_82_ok {d : Nat} (l1 : Int32) (l2 : Int32) (t0 : Int32) (s : ts) (Q : ts → Prop) (h : Ok (cR_startOne_82 l1 l2 t0 s) Q) : am_Ev (d + 4) 247 (82, [(0, .ref 87), (1, .int (l1)), (2, .int (l2))], [.int (t0)]) (lay s) (tq_v Q) := by
  unfold cR_startOne_82 at h
  refine ev_istore_n (pc' := 83) m_247 rfl rfl rfl rfl (ev_aload_n (pc' := 84) m_247 rfl rfl rfl (tr_get (pc' := 87) (v := .ref 101) m_247 rfl rfl ts_o87 rfl rfl rfl (ev_iload_n (pc' := 88) m_247 rfl rfl rfl ?_)))
  obtain ⟨g1, h⟩ := Ok_g h
  refine tr_iald (pc' := 89) m_247 rfl rfl rfl g1 rfl (ev_iconst (pc' := 90) (x := -1) m_247 rfl rfl rfl ?_)
  refine ev_icmp_eq (t := 112) (e := 93) m_247 rfl rfl rfl (fun c6 => ?_) (fun c6 => ?_)
  · replace h := Ok_t c6 h
    exact am_Ev.sub (L := [(0, .ref 87), (1, .int (l1)), (2, .int (l2)), (3, .int (t0))]) ⟨rfl, rfl, rfl, rfl, trivial⟩ (cR_startOne_112_ok l1 l2 t0 _ _ h)
  · replace h := Ok_f c6 h
    refine ev_aload_n (pc' := 94) m_247 rfl rfl rfl (tr_get (pc' := 97) (v := .int (gI _ 1188 _)) m_247 rfl rfl ts_o87 rfl rfl rfl ?_)
    refine ev_if_le (t := 112) (e := 100) m_247 rfl rfl rfl (fun c5 => ?_) (fun c5 => ?_)
    · replace h := Ok_t c5 h
      exact am_Ev.sub (L := [(0, .ref 87), (1, .int (l1)), (2, .int (l2)), (3, .int (t0))]) ⟨rfl, rfl, rfl, rfl, trivial⟩ (cR_startOne_112_ok l1 l2 t0 _ _ h)
    · replace h := Ok_f c5 h
      refine ev_aload_n (pc' := 101) m_247 rfl rfl rfl (ev_iload_n (pc' := 102) m_247 rfl rfl rfl (ev_aload_n (pc' := 103) m_247 rfl rfl rfl (tr_get (pc' := 106) (v := .int (gI _ 1188 _)) m_247 rfl rfl ts_o87 rfl rfl rfl ?_)))
      refine tr_cv (pc' := 109) m_247 rfl rfl rfl m_228 rfl rfl rfl rfl (tr_rcv ts_o87 rfl) rfl rfl (cR_finish_ok l1 (gI s 1188 0) _ _ (Ok_b h)) (fun s3 h => ?_)
      refine ev_goto (pc' := 217) m_247 rfl rfl ?_
      exact tr_rv m_247 rfl rfl (Ok_s h)
def cR_startOne_2_b (kk : Int32 → Int32 → Int32 → ts → Option (ts)) (l1 : Int32) (l2 : Int32) (l3 : Int32) (s : ts) : Option (ts) := (if am_idx l2 900 = true then (if (gA s 105 l2.toNatClampNeg) ≤ l3 then (if (gA s 101 l2.toNatClampNeg) = ((-1 : Int32)) then cR_startOne_82 l1 l2 ((0 : Int32)) s else (cR_reckon (gA s 101 l2.toNatClampNeg) l1 s).bind (fun x4 => cR_startOne_82 l1 l2 x4.1 x4.2)) else (if am_idx ((((8 : Int32)) * l2) + l3) 7200 = true then (cR_reckon (gA s 104 ((((8 : Int32)) * l2) + l3).toNatClampNeg) l1 s).bind (fun x9 => (if am_idx l3 8 = true then (if (gI (wA x9.2 142 l3.toNatClampNeg x9.1) 1188 0) ≤ ((0 : Int32)) then kk l1 l2 (l3 + (1 : Int32)) (wA x9.2 142 l3.toNatClampNeg x9.1) else (cR_finish l1 (gI (wA x9.2 142 l3.toNatClampNeg x9.1) 1188 0) (wA x9.2 142 l3.toNatClampNeg x9.1)).bind (fun s12 => some s12)) else none)) else none)) else none)
def cR_startOne_2 : Nat → Int32 → Int32 → Int32 → ts → Option (ts)
  | 0, _, _, _, _ => none
  | n + 1, l1, l2, l3, s => cR_startOne_2_b (cR_startOne_2 n) l1 l2 l3 s
set_option maxRecDepth 20000 in
theorem cR_startOne_2_ok {d : Nat} : ∀ (n : Nat) (l1 : Int32) (l2 : Int32) (l3 : Int32) (s : ts) (Q : ts → Prop), Ok (cR_startOne_2 n l1 l2 l3 s) Q → am_Ev (d + 4) 247 (2, [(0, .ref 87), (1, .int (l1)), (2, .int (l2)), (3, .int (l3))], []) (lay s) (tq_v Q) := by
  intro n
  induction n with
  | zero => intro l1 l2 l3 s Q h; exact Ok_n h
  | succ n ih =>
    intro l1 l2 l3 s Q h
    rw [cR_startOne_2.eq_2] at h
    unfold cR_startOne_2_b at h
    refine ev_iload_n (pc' := 3) m_247 rfl rfl rfl (ev_aload_n (pc' := 4) m_247 rfl rfl rfl (tr_get (pc' := 7) (v := .ref 105) m_247 rfl rfl ts_o87 rfl rfl rfl (ev_iload_n (pc' := 8) m_247 rfl rfl rfl ?_)))
    obtain ⟨g1, h⟩ := Ok_g h
    refine tr_iald (pc' := 9) m_247 rfl rfl rfl g1 rfl ?_
    refine ev_icmp_ge (t := 57) (e := 12) m_247 rfl rfl rfl (fun c15 => ?_) (fun c15 => ?_)
    · replace h := Ok_t c15 h
      refine ev_aload_n (pc' := 58) m_247 rfl rfl rfl (tr_get (pc' := 61) (v := .ref 101) m_247 rfl rfl ts_o87 rfl rfl rfl (ev_iload_n (pc' := 62) m_247 rfl rfl rfl (tr_iald (pc' := 63) m_247 rfl rfl rfl g1 rfl (ev_iconst (pc' := 64) (x := -1) m_247 rfl rfl rfl ?_))))
      refine ev_icmp_ne (t := 71) (e := 67) m_247 rfl rfl rfl (fun c5 => ?_) (fun c5 => ?_)
      · replace h := Ok_f c5 h
        refine ev_aload_n (pc' := 72) m_247 rfl rfl rfl (ev_aload_n (pc' := 73) m_247 rfl rfl rfl (tr_get (pc' := 76) (v := .ref 101) m_247 rfl rfl ts_o87 rfl rfl rfl (ev_iload_n (pc' := 77) m_247 rfl rfl rfl (tr_iald (pc' := 78) m_247 rfl rfl rfl g1 rfl (ev_iload_n (pc' := 79) m_247 rfl rfl rfl ?_)))))
        refine tr_ci (pc' := 82) m_247 rfl rfl rfl m_236 rfl rfl rfl rfl (tr_rcv ts_o87 rfl) rfl rfl (cR_reckon_ok (gA s 101 l2.toNatClampNeg) l1 _ _ (Ok_b h)) (fun x4_ x4_s h => ?_)
        exact am_Ev.sub (L := [(0, .ref 87), (1, .int (l1)), (2, .int (l2))]) ⟨rfl, rfl, rfl, trivial⟩ (cR_startOne_82_ok l1 l2 x4_ _ _ h)
      · replace h := Ok_t c5 h
        refine ev_iconst (pc' := 68) (x := 0) m_247 rfl rfl rfl (ev_goto (pc' := 82) m_247 rfl rfl ?_)
        exact am_Ev.sub (L := [(0, .ref 87), (1, .int (l1)), (2, .int (l2))]) ⟨rfl, rfl, rfl, trivial⟩ (cR_startOne_82_ok l1 l2 ((0 : Int32)) _ _ h)
    · replace h := Ok_f c15 h
      refine ev_aload_n (pc' := 13) m_247 rfl rfl rfl (tr_get (pc' := 16) (v := .ref 142) m_247 rfl rfl ts_o87 rfl rfl rfl (ev_iload_n (pc' := 17) m_247 rfl rfl rfl (ev_aload_n (pc' := 18) m_247 rfl rfl rfl (ev_aload_n (pc' := 19) m_247 rfl rfl rfl (tr_get (pc' := 22) (v := .ref 104) m_247 rfl rfl ts_o87 rfl rfl rfl (ev_bipush (pc' := 24) (x := 8) m_247 rfl rfl rfl (ev_iload_n (pc' := 25) m_247 rfl rfl rfl ?_)))))))
      refine ev_imul (pc' := 26) m_247 rfl rfl (ev_iload_n (pc' := 27) m_247 rfl rfl rfl (ev_iadd (pc' := 28) m_247 rfl rfl ?_))
      obtain ⟨g6, h⟩ := Ok_g h
      refine tr_iald (pc' := 29) m_247 rfl rfl rfl g6 rfl (ev_iload_n (pc' := 30) m_247 rfl rfl rfl ?_)
      refine tr_ci (pc' := 33) m_247 rfl rfl rfl m_236 rfl rfl rfl rfl (tr_rcv ts_o87 rfl) rfl rfl (cR_reckon_ok (gA s 104 ((((8 : Int32)) * l2) + l3).toNatClampNeg) l1 _ _ (Ok_b h)) (fun x9_ x9_s h => ?_)
      obtain ⟨g10, h⟩ := Ok_g h
      refine tr_iast (pc' := 34) m_247 rfl rfl rfl g10 rfl (ev_aload_n (pc' := 35) m_247 rfl rfl rfl (tr_get (pc' := 38) (v := .int (gI _ 1188 _)) m_247 rfl rfl ts_o87 rfl rfl rfl ?_))
      refine ev_if_le (t := 51) (e := 41) m_247 rfl rfl rfl (fun c14 => ?_) (fun c14 => ?_)
      · replace h := Ok_t c14 h
        refine ev_iinc (pc' := 54) (z := 1) m_247 rfl rfl rfl rfl rfl rfl (ev_goto (pc' := 2) m_247 rfl rfl ?_)
        exact am_Ev.sub (L := [(0, .ref 87), (1, .int (l1)), (2, .int (l2)), (3, .int (l3 + (1 : Int32)))]) ⟨rfl, rfl, rfl, rfl, trivial⟩ (ih l1 l2 (l3 + (1 : Int32)) _ _ h)
      · replace h := Ok_f c14 h
        refine ev_aload_n (pc' := 42) m_247 rfl rfl rfl (ev_iload_n (pc' := 43) m_247 rfl rfl rfl (ev_aload_n (pc' := 44) m_247 rfl rfl rfl (tr_get (pc' := 47) (v := .int (gI _ 1188 _)) m_247 rfl rfl ts_o87 rfl rfl rfl ?_)))
        refine tr_cv (pc' := 50) m_247 rfl rfl rfl m_228 rfl rfl rfl rfl (tr_rcv ts_o87 rfl) rfl rfl (cR_finish_ok l1 (gI (wA x9_s 142 l3.toNatClampNeg x9_) 1188 0) _ _ (Ok_b h)) (fun s12 h => ?_)
        exact tr_rv m_247 rfl rfl (Ok_s h)
def cR_startOne (l1 : Int32) (l2 : Int32) (s : ts) : Option (ts) := cR_startOne_2 tm_N l1 l2 ((0 : Int32)) s
set_option maxRecDepth 20000 in
theorem cR_startOne_ok {d : Nat} (l1 : Int32) (l2 : Int32) (s : ts) (Q : ts → Prop) (h : Ok (cR_startOne l1 l2 s) Q) : am_Ev (d + 4) 247 (0, [(0, .ref 87), (1, .int (l1)), (2, .int (l2))], []) (lay s) (tq_v Q) := by
  unfold cR_startOne at h
  refine ev_iconst (pc' := 1) (x := 0) m_247 rfl rfl rfl (ev_istore_n (pc' := 2) m_247 rfl rfl rfl rfl ?_)
  exact am_Ev.sub (L := [(0, .ref 87), (1, .int (l1)), (2, .int (l2)), (3, .int ((0 : Int32)))]) ⟨rfl, rfl, rfl, rfl, trivial⟩ (cR_startOne_2_ok tm_N l1 l2 ((0 : Int32)) _ _ h)
def cR_other_12 (l1 : Int32) (s : ts) : Option (ts) := (cR_finish l1 ((7 : Int32)) s).bind (fun s2 => some s2)
set_option maxRecDepth 20000 in
theorem cR_other_12_ok {d : Nat} (l1 : Int32) (s : ts) (Q : ts → Prop) (h : Ok (cR_other_12 l1 s) Q) : am_Ev (d + 4) 248 (12, [(0, .ref 87), (1, .int (l1))], []) (lay s) (tq_v Q) := by
  unfold cR_other_12 at h
  refine ev_aload_n (pc' := 13) m_248 rfl rfl rfl (ev_iload_n (pc' := 14) m_248 rfl rfl rfl (ev_bipush (pc' := 16) (x := 7) m_248 rfl rfl rfl ?_))
  refine tr_cv (pc' := 19) m_248 rfl rfl rfl m_228 rfl rfl rfl rfl (tr_rcv ts_o87 rfl) rfl rfl (cR_finish_ok l1 ((7 : Int32)) _ _ (Ok_b h)) (fun s2 h => ?_)
  refine ev_goto (pc' := 80) m_248 rfl rfl ?_
  exact tr_rv m_248 rfl rfl (Ok_s h)
def cR_other_56 (l2 : Int32) (l3 : Int32) (s : ts) : Option (ts) := (if l3 = ((0 : Int32)) then (if am_idx l2 300 = true then (if (gA s 120 l2.toNatClampNeg) = ((1 : Int32)) then (cR_calendar l2 ((0 : Int32)) (gI s 1152 0) s).bind (fun s3 => some s3) else some s) else none) else some s)
set_option maxRecDepth 20000 in
theorem cR_other_56_ok {d : Nat} (l2 : Int32) (l3 : Int32) (s : ts) (Q : ts → Prop) (h : Ok (cR_other_56 l2 l3 s) Q) : am_Ev (d + 4) 248 (56, [(0, .ref 87), (2, .int (l2)), (3, .int (l3))], []) (lay s) (tq_v Q) := by
  unfold cR_other_56 at h
  refine ev_iload_n (pc' := 57) m_248 rfl rfl rfl ?_
  refine ev_if_ne (t := 80) (e := 60) m_248 rfl rfl rfl (fun c6 => ?_) (fun c6 => ?_)
  · replace h := Ok_f c6 h
    exact tr_rv m_248 rfl rfl (Ok_s h)
  · replace h := Ok_t c6 h
    refine ev_aload_n (pc' := 61) m_248 rfl rfl rfl (tr_get (pc' := 64) (v := .ref 120) m_248 rfl rfl ts_o87 rfl rfl rfl (ev_iload_n (pc' := 65) m_248 rfl rfl rfl ?_))
    obtain ⟨g1, h⟩ := Ok_g h
    refine tr_iald (pc' := 66) m_248 rfl rfl rfl g1 rfl (ev_iconst (pc' := 67) (x := 1) m_248 rfl rfl rfl ?_)
    refine ev_icmp_ne (t := 80) (e := 70) m_248 rfl rfl rfl (fun c5 => ?_) (fun c5 => ?_)
    · replace h := Ok_f c5 h
      exact tr_rv m_248 rfl rfl (Ok_s h)
    · replace h := Ok_t c5 h
      refine ev_aload_n (pc' := 71) m_248 rfl rfl rfl (ev_iload_n (pc' := 72) m_248 rfl rfl rfl (ev_iconst (pc' := 73) (x := 0) m_248 rfl rfl rfl (ev_aload_n (pc' := 74) m_248 rfl rfl rfl (tr_get (pc' := 77) (v := .int (gI _ 1152 _)) m_248 rfl rfl ts_o87 rfl rfl rfl ?_))))
      refine tr_cv (pc' := 80) m_248 rfl rfl rfl m_221 rfl rfl rfl rfl (tr_rcv ts_o87 rfl) rfl rfl (cR_calendar_ok l2 ((0 : Int32)) (gI s 1152 0) _ _ (Ok_b h)) (fun s3 h => ?_)
      exact tr_rv m_248 rfl rfl (Ok_s h)
def cR_other (l1 : Int32) (l2 : Int32) (l3 : Int32) (s : ts) : Option (ts) := (if l2 < ((0 : Int32)) then cR_other_12 l1 s else (if l2 < (gI s 1155 0) then (if l3 = ((0 : Int32)) then cR_other_56 l2 l3 s else (if am_idx l2 300 = true then (if (gA s 120 l2.toNatClampNeg) = ((5 : Int32)) then cR_other_56 l2 l3 s else (if (gA s 120 l2.toNatClampNeg) = ((6 : Int32)) then cR_other_56 l2 l3 s else (cR_finish l2 ((0 : Int32)) s).bind (fun s3 => some s3))) else none)) else cR_other_12 l1 s))
set_option maxRecDepth 20000 in
theorem cR_other_ok {d : Nat} (l1 : Int32) (l2 : Int32) (l3 : Int32) (s : ts) (Q : ts → Prop) (h : Ok (cR_other l1 l2 l3 s) Q) : am_Ev (d + 4) 248 (0, [(0, .ref 87), (1, .int (l1)), (2, .int (l2)), (3, .int (l3))], []) (lay s) (tq_v Q) := by
  unfold cR_other at h
  refine ev_iload_n (pc' := 1) m_248 rfl rfl rfl ?_
  refine ev_if_lt (t := 12) (e := 4) m_248 rfl rfl rfl (fun c9 => ?_) (fun c9 => ?_)
  · replace h := Ok_t c9 h
    exact am_Ev.sub (L := [(0, .ref 87), (1, .int (l1))]) ⟨rfl, rfl, trivial⟩ (cR_other_12_ok l1 _ _ h)
  · replace h := Ok_f c9 h
    refine ev_iload_n (pc' := 5) m_248 rfl rfl rfl (ev_aload_n (pc' := 6) m_248 rfl rfl rfl (tr_get (pc' := 9) (v := .int (gI _ 1155 _)) m_248 rfl rfl ts_o87 rfl rfl rfl ?_))
    refine ev_icmp_lt (t := 22) (e := 12) m_248 rfl rfl rfl (fun c8 => ?_) (fun c8 => ?_)
    · replace h := Ok_t c8 h
      refine ev_iload_n (pc' := 23) m_248 rfl rfl rfl ?_
      refine ev_if_eq (t := 56) (e := 26) m_248 rfl rfl rfl (fun c7 => ?_) (fun c7 => ?_)
      · replace h := Ok_t c7 h
        exact am_Ev.sub (L := [(0, .ref 87), (2, .int (l2)), (3, .int (l3))]) ⟨rfl, rfl, rfl, trivial⟩ (cR_other_56_ok l2 l3 _ _ h)
      · replace h := Ok_f c7 h
        refine ev_aload_n (pc' := 27) m_248 rfl rfl rfl (tr_get (pc' := 30) (v := .ref 120) m_248 rfl rfl ts_o87 rfl rfl rfl (ev_iload_n (pc' := 31) m_248 rfl rfl rfl ?_))
        obtain ⟨g1, h⟩ := Ok_g h
        refine tr_iald (pc' := 32) m_248 rfl rfl rfl g1 rfl (ev_iconst (pc' := 33) (x := 5) m_248 rfl rfl rfl ?_)
        refine ev_icmp_eq (t := 56) (e := 36) m_248 rfl rfl rfl (fun c6 => ?_) (fun c6 => ?_)
        · replace h := Ok_t c6 h
          exact am_Ev.sub (L := [(0, .ref 87), (2, .int (l2)), (3, .int (l3))]) ⟨rfl, rfl, rfl, trivial⟩ (cR_other_56_ok l2 l3 _ _ h)
        · replace h := Ok_f c6 h
          refine ev_aload_n (pc' := 37) m_248 rfl rfl rfl (tr_get (pc' := 40) (v := .ref 120) m_248 rfl rfl ts_o87 rfl rfl rfl (ev_iload_n (pc' := 41) m_248 rfl rfl rfl (tr_iald (pc' := 42) m_248 rfl rfl rfl g1 rfl (ev_bipush (pc' := 44) (x := 6) m_248 rfl rfl rfl ?_))))
          refine ev_icmp_eq (t := 56) (e := 47) m_248 rfl rfl rfl (fun c5 => ?_) (fun c5 => ?_)
          · replace h := Ok_t c5 h
            exact am_Ev.sub (L := [(0, .ref 87), (2, .int (l2)), (3, .int (l3))]) ⟨rfl, rfl, rfl, trivial⟩ (cR_other_56_ok l2 l3 _ _ h)
          · replace h := Ok_f c5 h
            refine ev_aload_n (pc' := 48) m_248 rfl rfl rfl (ev_iload_n (pc' := 49) m_248 rfl rfl rfl (ev_iconst (pc' := 50) (x := 0) m_248 rfl rfl rfl ?_))
            refine tr_cv (pc' := 53) m_248 rfl rfl rfl m_228 rfl rfl rfl rfl (tr_rcv ts_o87 rfl) rfl rfl (cR_finish_ok l2 ((0 : Int32)) _ _ (Ok_b h)) (fun s3 h => ?_)
            refine ev_goto (pc' := 80) m_248 rfl rfl ?_
            exact tr_rv m_248 rfl rfl (Ok_s h)
    · replace h := Ok_f c8 h
      exact am_Ev.sub (L := [(0, .ref 87), (1, .int (l1))]) ⟨rfl, rfl, trivial⟩ (cR_other_12_ok l1 _ _ h)
def cR_perform_263 (l1 : Int32) (s : ts) : Option (ts) := (cR_finish l1 ((2 : Int32)) s).bind (fun s2 => some s2)
set_option maxRecDepth 20000 in
theorem cR_perform_263_ok {d : Nat} (l1 : Int32) (s : ts) (Q : ts → Prop) (h : Ok (cR_perform_263 l1 s) Q) : am_Ev (d + 5) 240 (263, [(0, .ref 87), (1, .int (l1))], []) (lay s) (tq_v Q) := by
  unfold cR_perform_263 at h
  refine ev_aload_n (pc' := 264) m_240 rfl rfl rfl (ev_iload_n (pc' := 265) m_240 rfl rfl rfl (ev_iconst (pc' := 266) (x := 2) m_240 rfl rfl rfl ?_))
  refine tr_cv (pc' := 269) m_240 rfl rfl rfl m_228 rfl rfl rfl rfl (tr_rcv ts_o87 rfl) rfl rfl (cR_finish_ok l1 ((2 : Int32)) _ _ (Ok_b h)) (fun s2 h => ?_)
  refine ev_goto (pc' := 518) m_240 rfl rfl ?_
  exact tr_rv m_240 rfl rfl (Ok_s h)
def cR_perform_341 (t1 : Int32) (t2 : Int32) (t3 : Int32) (t4 : Int32) (s : ts) : Option (ts) := (cR_exchange t1 t2 t3 t4 s).bind (fun s2 => some s2)
set_option maxRecDepth 20000 in
theorem cR_perform_341_ok {d : Nat} (t1 : Int32) (t2 : Int32) (t3 : Int32) (t4 : Int32) (s : ts) (Q : ts → Prop) (h : Ok (cR_perform_341 t1 t2 t3 t4 s) Q) : am_Ev (d + 5) 240 (341, [], [.int (t4), .int (t3), .int (t2), .int (t1), .ref 87]) (lay s) (tq_v Q) := by
  unfold cR_perform_341 at h
  refine tr_cv (pc' := 344) m_240 rfl rfl rfl m_245 rfl rfl rfl rfl (tr_rcv ts_o87 rfl) rfl rfl (cR_exchange_ok t1 t2 t3 t4 _ _ (Ok_b h)) (fun s2 h => ?_)
  refine ev_goto (pc' := 518) m_240 rfl rfl ?_
  exact tr_rv m_240 rfl rfl (Ok_s h)
def cR_perform_410 (t1 : Int32) (t2 : Int32) (t3 : Int32) (s : ts) : Option (ts) := (cR_other t1 t2 t3 s).bind (fun s2 => some s2)
set_option maxRecDepth 20000 in
theorem cR_perform_410_ok {d : Nat} (t1 : Int32) (t2 : Int32) (t3 : Int32) (s : ts) (Q : ts → Prop) (h : Ok (cR_perform_410 t1 t2 t3 s) Q) : am_Ev (d + 5) 240 (410, [], [.int (t3), .int (t2), .int (t1), .ref 87]) (lay s) (tq_v Q) := by
  unfold cR_perform_410 at h
  refine tr_cv (pc' := 413) m_240 rfl rfl rfl m_248 rfl rfl rfl rfl (tr_rcv ts_o87 rfl) rfl rfl (cR_other_ok t1 t2 t3 _ _ (Ok_b h)) (fun s2 h => ?_)
  refine ev_goto (pc' := 518) m_240 rfl rfl ?_
  exact tr_rv m_240 rfl rfl (Ok_s h)
def cR_perform_458 (l3 : Int32) (t1 : Int32) (t2 : Int32) (s : ts) : Option (ts) := (if am_idx t1 1000 = true then (if ((1000 : Int32)) ≤ (gI (wA s 116 t1.toNatClampNeg t2) 1161 0) then (if am_idx ((gI (wA s 116 t1.toNatClampNeg t2) 1161 0) - (gI (wA s 116 t1.toNatClampNeg t2) 1161 0) / ((1000 : Int32)) * ((1000 : Int32))) 1000 = true then some (wI (wA (wA s 116 t1.toNatClampNeg t2) 117 ((gI (wA s 116 t1.toNatClampNeg t2) 1161 0) - (gI (wA s 116 t1.toNatClampNeg t2) 1161 0) / ((1000 : Int32)) * ((1000 : Int32))).toNatClampNeg (gA (wA s 116 t1.toNatClampNeg t2) 117 ((gI (wA s 116 t1.toNatClampNeg t2) 1161 0) - (gI (wA s 116 t1.toNatClampNeg t2) 1161 0) / ((1000 : Int32)) * ((1000 : Int32))).toNatClampNeg)) 1161 0 ((gI (wA (wA s 116 t1.toNatClampNeg t2) 117 ((gI (wA s 116 t1.toNatClampNeg t2) 1161 0) - (gI (wA s 116 t1.toNatClampNeg t2) 1161 0) / ((1000 : Int32)) * ((1000 : Int32))).toNatClampNeg (gA (wA s 116 t1.toNatClampNeg t2) 117 ((gI (wA s 116 t1.toNatClampNeg t2) 1161 0) - (gI (wA s 116 t1.toNatClampNeg t2) 1161 0) / ((1000 : Int32)) * ((1000 : Int32))).toNatClampNeg)) 1161 0) + ((1 : Int32)))) else none) else (if am_idx ((gI (wA s 116 t1.toNatClampNeg t2) 1161 0) - (gI (wA s 116 t1.toNatClampNeg t2) 1161 0) / ((1000 : Int32)) * ((1000 : Int32))) 1000 = true then some (wI (wA (wA s 116 t1.toNatClampNeg t2) 117 ((gI (wA s 116 t1.toNatClampNeg t2) 1161 0) - (gI (wA s 116 t1.toNatClampNeg t2) 1161 0) / ((1000 : Int32)) * ((1000 : Int32))).toNatClampNeg l3) 1161 0 ((gI (wA (wA s 116 t1.toNatClampNeg t2) 117 ((gI (wA s 116 t1.toNatClampNeg t2) 1161 0) - (gI (wA s 116 t1.toNatClampNeg t2) 1161 0) / ((1000 : Int32)) * ((1000 : Int32))).toNatClampNeg l3) 1161 0) + ((1 : Int32)))) else none)) else none)
set_option maxRecDepth 20000 in
theorem cR_perform_458_ok {d : Nat} (l3 : Int32) (t1 : Int32) (t2 : Int32) (s : ts) (Q : ts → Prop) (h : Ok (cR_perform_458 l3 t1 t2 s) Q) : am_Ev (d + 5) 240 (458, [(0, .ref 87), (3, .int (l3))], [.int (t2), .int (t1), .ref 116]) (lay s) (tq_v Q) := by
  unfold cR_perform_458 at h
  obtain ⟨g1, h⟩ := Ok_g h
  refine tr_iast (pc' := 459) m_240 rfl rfl rfl g1 rfl (ev_aload_n (pc' := 460) m_240 rfl rfl rfl (tr_get (pc' := 463) (v := .ref 117) m_240 rfl rfl ts_o87 rfl rfl rfl (ev_aload_n (pc' := 464) m_240 rfl rfl rfl (tr_get (pc' := 467) (v := .int (gI _ 1161 _)) m_240 rfl rfl ts_o87 rfl rfl rfl (ev_sipush (pc' := 470) (x := 1000) m_240 rfl rfl rfl (ev_irem (pc' := 471) m_240 rfl (by decide) rfl (ev_aload_n (pc' := 472) m_240 rfl rfl rfl ?_)))))))
  refine tr_get (pc' := 475) (v := .int (gI _ 1161 _)) m_240 rfl rfl ts_o87 rfl rfl rfl (ev_sipush (pc' := 478) (x := 1000) m_240 rfl rfl rfl ?_)
  refine ev_icmp_ge (t := 485) (e := 481) m_240 rfl rfl rfl (fun c4 => ?_) (fun c4 => ?_)
  · replace h := Ok_t c4 h
    refine ev_aload_n (pc' := 486) m_240 rfl rfl rfl (tr_get (pc' := 489) (v := .ref 117) m_240 rfl rfl ts_o87 rfl rfl rfl (ev_aload_n (pc' := 490) m_240 rfl rfl rfl (tr_get (pc' := 493) (v := .int (gI _ 1161 _)) m_240 rfl rfl ts_o87 rfl rfl rfl (ev_sipush (pc' := 496) (x := 1000) m_240 rfl rfl rfl (ev_irem (pc' := 497) m_240 rfl (by decide) rfl ?_)))))
    obtain ⟨g2, h⟩ := Ok_g h
    refine tr_iald (pc' := 498) m_240 rfl rfl rfl g2 rfl (tr_iast (pc' := 499) m_240 rfl rfl rfl g2 rfl (ev_aload_n (pc' := 500) m_240 rfl rfl rfl (ev_dup (pc' := 501) m_240 rfl rfl rfl (tr_get (pc' := 504) (v := .int (gI _ 1161 _)) m_240 rfl rfl ts_o87 rfl rfl rfl (ev_iconst (pc' := 505) (x := 1) m_240 rfl rfl rfl (ev_iadd (pc' := 506) m_240 rfl rfl (tr_pI (pc' := 509) (f := 1161) m_240 rfl rfl rfl ts_o87 rfl rfl rfl rfl ?_)))))))
    refine ev_goto (pc' := 518) m_240 rfl rfl ?_
    exact tr_rv m_240 rfl rfl (Ok_s h)
  · replace h := Ok_f c4 h
    refine ev_iload_n (pc' := 482) m_240 rfl rfl rfl (ev_goto (pc' := 498) m_240 rfl rfl ?_)
    obtain ⟨g3, h⟩ := Ok_g h
    refine tr_iast (pc' := 499) m_240 rfl rfl rfl g3 rfl (ev_aload_n (pc' := 500) m_240 rfl rfl rfl (ev_dup (pc' := 501) m_240 rfl rfl rfl (tr_get (pc' := 504) (v := .int (gI _ 1161 _)) m_240 rfl rfl ts_o87 rfl rfl rfl (ev_iconst (pc' := 505) (x := 1) m_240 rfl rfl rfl (ev_iadd (pc' := 506) m_240 rfl rfl (tr_pI (pc' := 509) (f := 1161) m_240 rfl rfl rfl ts_o87 rfl rfl rfl rfl (ev_goto (pc' := 518) m_240 rfl rfl ?_)))))))
    exact tr_rv m_240 rfl rfl (Ok_s h)
def cR_perform_79 (l1 : Int32) (l2 : Int32) (l3 : Int32) (s : ts) : Option (ts) := (if am_idx l2 900 = true then (if (gA s 99 l2.toNatClampNeg) = (5 : Int32) then (if l3 = ((0 : Int32)) then (if am_idx l1 300 = true then some (wA s 121 l1.toNatClampNeg (gA s 103 l2.toNatClampNeg)) else none) else (if am_idx l1 300 = true then some (wA s 121 l1.toNatClampNeg (l2 + ((1 : Int32)))) else none)) else (if (gA s 99 l2.toNatClampNeg) = (6 : Int32) then (cR_finish l1 ((0 : Int32)) s).bind (fun s7 => some s7) else (if (gA s 99 l2.toNatClampNeg) = (7 : Int32) then (if l3 = ((0 : Int32)) then (if am_idx l1 300 = true then some (wA s 121 l1.toNatClampNeg (gA s 103 l2.toNatClampNeg)) else none) else (if am_idx l1 300 = true then some (wA s 121 l1.toNatClampNeg (l2 + ((1 : Int32)))) else none)) else (if (gA s 99 l2.toNatClampNeg) = (8 : Int32) then (if l3 < ((0 : Int32)) then cR_perform_263 l1 s else (if (lg_cmp (((gI s 1152 0).toInt64) + l3.toInt64) ((1000000000 : Int64))) ≤ ((0 : Int32)) then (cR_calendar l1 ((1 : Int32)) ((gI s 1152 0) + l3) s).bind (fun s15 => some s15) else cR_perform_263 l1 s)) else (if (gA s 99 l2.toNatClampNeg) = (9 : Int32) then (cR_seize l1 (gA s 100 l2.toNatClampNeg) l3 s).bind (fun s21 => some s21) else (if (gA s 99 l2.toNatClampNeg) = (10 : Int32) then (cR_free l1 (gA s 100 l2.toNatClampNeg) s).bind (fun s25 => some s25) else (if (gA s 99 l2.toNatClampNeg) = (11 : Int32) then (if (gA s 99 l2.toNatClampNeg) = ((11 : Int32)) then cR_perform_341 l1 (gA s 100 l2.toNatClampNeg) l3 ((1 : Int32)) s else cR_perform_341 l1 (gA s 100 l2.toNatClampNeg) l3 ((0 : Int32)) s) else (if (gA s 99 l2.toNatClampNeg) = (12 : Int32) then (if (gA s 99 l2.toNatClampNeg) = ((11 : Int32)) then cR_perform_341 l1 (gA s 100 l2.toNatClampNeg) l3 ((1 : Int32)) s else cR_perform_341 l1 (gA s 100 l2.toNatClampNeg) l3 ((0 : Int32)) s) else (if (gA s 99 l2.toNatClampNeg) = (13 : Int32) then (if l3 = ((0 : Int32)) then (cR_waits l1 ((4 : Int32)) ((-2 : Int32)) s).bind (fun s33 => (if am_idx (gI s33 1185 0) 300 = true then some (wI (wA s33 139 (gI s33 1185 0).toNatClampNeg l1) 1185 0 ((gI (wA s33 139 (gI s33 1185 0).toNatClampNeg l1) 1185 0) + ((1 : Int32)))) else none)) else some s) else (if (gA s 99 l2.toNatClampNeg) = (14 : Int32) then (cR_startOne l1 l2 s).bind (fun s39 => some s39) else (if (gA s 99 l2.toNatClampNeg) = (15 : Int32) then (if (gA s 99 l2.toNatClampNeg) = ((15 : Int32)) then cR_perform_410 l1 l3 ((1 : Int32)) s else cR_perform_410 l1 l3 ((0 : Int32)) s) else (if (gA s 99 l2.toNatClampNeg) = (16 : Int32) then (if (gA s 99 l2.toNatClampNeg) = ((15 : Int32)) then cR_perform_410 l1 l3 ((1 : Int32)) s else cR_perform_410 l1 l3 ((0 : Int32)) s) else (if (gA s 99 l2.toNatClampNeg) = (17 : Int32) then (if ((1000 : Int32)) ≤ (gI s 1161 0) then (if am_idx ((gI s 1161 0) - (gI s 1161 0) / ((1000 : Int32)) * ((1000 : Int32))) 1000 = true then cR_perform_458 l3 ((gI s 1161 0) - (gI s 1161 0) / ((1000 : Int32)) * ((1000 : Int32))) (gA s 116 ((gI s 1161 0) - (gI s 1161 0) / ((1000 : Int32)) * ((1000 : Int32))).toNatClampNeg) s else none) else cR_perform_458 l3 ((gI s 1161 0) - (gI s 1161 0) / ((1000 : Int32)) * ((1000 : Int32))) (gI s 1152 0) s) else (if (gA s 99 l2.toNatClampNeg) = (18 : Int32) then (cR_finish l1 ((0 : Int32)) s).bind (fun s50 => some s50) else (if (gA s 99 l2.toNatClampNeg) = (19 : Int32) then (cR_finish l1 ((0 : Int32)) s).bind (fun s54 => some s54) else (if (gA s 99 l2.toNatClampNeg) = (20 : Int32) then (cR_finish l1 ((0 : Int32)) s).bind (fun s58 => some s58) else (if (gA s 99 l2.toNatClampNeg) = (21 : Int32) then (cR_finish l1 ((0 : Int32)) s).bind (fun s62 => some s62) else (if (gA s 99 l2.toNatClampNeg) = (22 : Int32) then (cR_finish l1 ((0 : Int32)) s).bind (fun s66 => some s66) else (if (gA s 99 l2.toNatClampNeg) = (23 : Int32) then (cR_finish l1 ((0 : Int32)) s).bind (fun s70 => some s70) else (if (gA s 99 l2.toNatClampNeg) = (24 : Int32) then (if am_idx ((((8 : Int32)) * l1) + (gA s 100 l2.toNatClampNeg)) 2400 = true then some (wA s 127 ((((8 : Int32)) * l1) + (gA s 100 l2.toNatClampNeg)).toNatClampNeg l3) else none) else (if (gA s 99 l2.toNatClampNeg) = (25 : Int32) then (if am_idx (gA s 100 l2.toNatClampNeg) 16 = true then some (wA s 118 (gA s 100 l2.toNatClampNeg).toNatClampNeg l3) else none) else (cR_finish l1 ((0 : Int32)) s).bind (fun s78 => some s78)))))))))))))))))))))) else none)
set_option maxRecDepth 20000 in
theorem cR_perform_79_ok {d : Nat} (l1 : Int32) (l2 : Int32) (l3 : Int32) (s : ts) (Q : ts → Prop) (h : Ok (cR_perform_79 l1 l2 l3 s) Q) : am_Ev (d + 5) 240 (79, [(0, .ref 87), (1, .int (l1)), (2, .int (l2)), (3, .int (l3))], []) (lay s) (tq_v Q) := by
  unfold cR_perform_79 at h
  refine ev_aload_n (pc' := 80) m_240 rfl rfl rfl (tr_get (pc' := 83) (v := .ref 99) m_240 rfl rfl ts_o87 rfl rfl rfl (ev_iload_n (pc' := 84) m_240 rfl rfl rfl ?_))
  obtain ⟨g1, h⟩ := Ok_g h
  refine tr_iald (pc' := 85) m_240 rfl rfl rfl g1 rfl ?_
  by_cases c5 : (gA s 99 l2.toNatClampNeg) = (5 : Int32)
  · replace h := Ok_t c5 h
    refine ev_sw (pc' := 219) m_240 rfl (by rw [c5]; rfl) ?_
    refine ev_aload_n (pc' := 220) m_240 rfl rfl rfl (tr_get (pc' := 223) (v := .ref 121) m_240 rfl rfl ts_o87 rfl rfl rfl (ev_iload_n (pc' := 224) m_240 rfl rfl rfl (ev_iload_n (pc' := 225) m_240 rfl rfl rfl ?_)))
    refine ev_if_eq (t := 234) (e := 228) m_240 rfl rfl rfl (fun c4 => ?_) (fun c4 => ?_)
    · replace h := Ok_t c4 h
      refine ev_aload_n (pc' := 235) m_240 rfl rfl rfl (tr_get (pc' := 238) (v := .ref 103) m_240 rfl rfl ts_o87 rfl rfl rfl (ev_iload_n (pc' := 239) m_240 rfl rfl rfl (tr_iald (pc' := 240) m_240 rfl rfl rfl g1 rfl ?_)))
      obtain ⟨g2, h⟩ := Ok_g h
      refine tr_iast (pc' := 241) m_240 rfl rfl rfl g2 rfl (ev_goto (pc' := 518) m_240 rfl rfl ?_)
      exact tr_rv m_240 rfl rfl (Ok_s h)
    · replace h := Ok_f c4 h
      refine ev_iload_n (pc' := 229) m_240 rfl rfl rfl (ev_iconst (pc' := 230) (x := 1) m_240 rfl rfl rfl (ev_iadd (pc' := 231) m_240 rfl rfl (ev_goto (pc' := 240) m_240 rfl rfl ?_)))
      obtain ⟨g3, h⟩ := Ok_g h
      refine tr_iast (pc' := 241) m_240 rfl rfl rfl g3 rfl (ev_goto (pc' := 518) m_240 rfl rfl ?_)
      exact tr_rv m_240 rfl rfl (Ok_s h)
  replace h := Ok_f c5 h
  by_cases c9 : (gA s 99 l2.toNatClampNeg) = (6 : Int32)
  · replace h := Ok_t c9 h
    refine ev_sw (pc' := 512) m_240 rfl (by rw [c9]; rfl) ?_
    refine ev_aload_n (pc' := 513) m_240 rfl rfl rfl (ev_iload_n (pc' := 514) m_240 rfl rfl rfl (ev_iconst (pc' := 515) (x := 0) m_240 rfl rfl rfl ?_))
    refine tr_cv (pc' := 518) m_240 rfl rfl rfl m_228 rfl rfl rfl rfl (tr_rcv ts_o87 rfl) rfl rfl (cR_finish_ok l1 ((0 : Int32)) _ _ (Ok_b h)) (fun s7 h => ?_)
    exact tr_rv m_240 rfl rfl (Ok_s h)
  replace h := Ok_f c9 h
  by_cases c13 : (gA s 99 l2.toNatClampNeg) = (7 : Int32)
  · replace h := Ok_t c13 h
    refine ev_sw (pc' := 219) m_240 rfl (by rw [c13]; rfl) ?_
    refine ev_aload_n (pc' := 220) m_240 rfl rfl rfl (tr_get (pc' := 223) (v := .ref 121) m_240 rfl rfl ts_o87 rfl rfl rfl (ev_iload_n (pc' := 224) m_240 rfl rfl rfl (ev_iload_n (pc' := 225) m_240 rfl rfl rfl ?_)))
    refine ev_if_eq (t := 234) (e := 228) m_240 rfl rfl rfl (fun c12 => ?_) (fun c12 => ?_)
    · replace h := Ok_t c12 h
      refine ev_aload_n (pc' := 235) m_240 rfl rfl rfl (tr_get (pc' := 238) (v := .ref 103) m_240 rfl rfl ts_o87 rfl rfl rfl (ev_iload_n (pc' := 239) m_240 rfl rfl rfl (tr_iald (pc' := 240) m_240 rfl rfl rfl g1 rfl ?_)))
      obtain ⟨g10, h⟩ := Ok_g h
      refine tr_iast (pc' := 241) m_240 rfl rfl rfl g10 rfl (ev_goto (pc' := 518) m_240 rfl rfl ?_)
      exact tr_rv m_240 rfl rfl (Ok_s h)
    · replace h := Ok_f c12 h
      refine ev_iload_n (pc' := 229) m_240 rfl rfl rfl (ev_iconst (pc' := 230) (x := 1) m_240 rfl rfl rfl (ev_iadd (pc' := 231) m_240 rfl rfl (ev_goto (pc' := 240) m_240 rfl rfl ?_)))
      obtain ⟨g11, h⟩ := Ok_g h
      refine tr_iast (pc' := 241) m_240 rfl rfl rfl g11 rfl (ev_goto (pc' := 518) m_240 rfl rfl ?_)
      exact tr_rv m_240 rfl rfl (Ok_s h)
  replace h := Ok_f c13 h
  by_cases c19 : (gA s 99 l2.toNatClampNeg) = (8 : Int32)
  · replace h := Ok_t c19 h
    refine ev_sw (pc' := 244) m_240 rfl (by rw [c19]; rfl) ?_
    refine ev_iload_n (pc' := 245) m_240 rfl rfl rfl ?_
    refine ev_if_lt (t := 263) (e := 248) m_240 rfl rfl rfl (fun c18 => ?_) (fun c18 => ?_)
    · replace h := Ok_t c18 h
      exact am_Ev.sub (L := [(0, .ref 87), (1, .int (l1))]) ⟨rfl, rfl, trivial⟩ (cR_perform_263_ok l1 _ _ h)
    · replace h := Ok_f c18 h
      refine ev_aload_n (pc' := 249) m_240 rfl rfl rfl (tr_get (pc' := 252) (v := .int (gI _ 1152 _)) m_240 rfl rfl ts_o87 rfl rfl rfl (ev_i2l (pc' := 253) m_240 rfl rfl (ev_iload_n (pc' := 254) m_240 rfl rfl rfl (ev_i2l (pc' := 255) m_240 rfl rfl (ev_ladd (pc' := 256) m_240 rfl rfl (tr_ldc2 (pc' := 259) m_240 rfl rfl rfl (ev_lcmp (pc' := 260) m_240 rfl rfl ?_)))))))
      refine ev_if_le (t := 272) (e := 263) m_240 rfl rfl rfl (fun c17 => ?_) (fun c17 => ?_)
      · replace h := Ok_t c17 h
        refine ev_aload_n (pc' := 273) m_240 rfl rfl rfl (ev_iload_n (pc' := 274) m_240 rfl rfl rfl (ev_iconst (pc' := 275) (x := 1) m_240 rfl rfl rfl (ev_aload_n (pc' := 276) m_240 rfl rfl rfl (tr_get (pc' := 279) (v := .int (gI _ 1152 _)) m_240 rfl rfl ts_o87 rfl rfl rfl (ev_iload_n (pc' := 280) m_240 rfl rfl rfl (ev_iadd (pc' := 281) m_240 rfl rfl ?_))))))
        refine tr_cv (pc' := 284) m_240 rfl rfl rfl m_221 rfl rfl rfl rfl (tr_rcv ts_o87 rfl) rfl rfl (cR_calendar_ok l1 ((1 : Int32)) ((gI s 1152 0) + l3) _ _ (Ok_b h)) (fun s15 h => ?_)
        refine ev_goto (pc' := 518) m_240 rfl rfl ?_
        exact tr_rv m_240 rfl rfl (Ok_s h)
      · replace h := Ok_f c17 h
        exact am_Ev.sub (L := [(0, .ref 87), (1, .int (l1))]) ⟨rfl, rfl, trivial⟩ (cR_perform_263_ok l1 _ _ h)
  replace h := Ok_f c19 h
  by_cases c23 : (gA s 99 l2.toNatClampNeg) = (9 : Int32)
  · replace h := Ok_t c23 h
    refine ev_sw (pc' := 287) m_240 rfl (by rw [c23]; rfl) ?_
    refine ev_aload_n (pc' := 288) m_240 rfl rfl rfl (ev_iload_n (pc' := 289) m_240 rfl rfl rfl (ev_aload_n (pc' := 290) m_240 rfl rfl rfl (tr_get (pc' := 293) (v := .ref 100) m_240 rfl rfl ts_o87 rfl rfl rfl (ev_iload_n (pc' := 294) m_240 rfl rfl rfl (tr_iald (pc' := 295) m_240 rfl rfl rfl g1 rfl (ev_iload_n (pc' := 296) m_240 rfl rfl rfl ?_))))))
    refine tr_cv (pc' := 299) m_240 rfl rfl rfl m_241 rfl rfl rfl rfl (tr_rcv ts_o87 rfl) rfl rfl (cR_seize_ok l1 (gA s 100 l2.toNatClampNeg) l3 _ _ (Ok_b h)) (fun s21 h => ?_)
    refine ev_goto (pc' := 518) m_240 rfl rfl ?_
    exact tr_rv m_240 rfl rfl (Ok_s h)
  replace h := Ok_f c23 h
  by_cases c27 : (gA s 99 l2.toNatClampNeg) = (10 : Int32)
  · replace h := Ok_t c27 h
    refine ev_sw (pc' := 302) m_240 rfl (by rw [c27]; rfl) ?_
    refine ev_aload_n (pc' := 303) m_240 rfl rfl rfl (ev_iload_n (pc' := 304) m_240 rfl rfl rfl (ev_aload_n (pc' := 305) m_240 rfl rfl rfl (tr_get (pc' := 308) (v := .ref 100) m_240 rfl rfl ts_o87 rfl rfl rfl (ev_iload_n (pc' := 309) m_240 rfl rfl rfl (tr_iald (pc' := 310) m_240 rfl rfl rfl g1 rfl ?_)))))
    refine tr_cv (pc' := 313) m_240 rfl rfl rfl m_244 rfl rfl rfl rfl (tr_rcv ts_o87 rfl) rfl rfl (cR_free_ok l1 (gA s 100 l2.toNatClampNeg) _ _ (Ok_b h)) (fun s25 h => ?_)
    refine ev_goto (pc' := 518) m_240 rfl rfl ?_
    exact tr_rv m_240 rfl rfl (Ok_s h)
  replace h := Ok_f c27 h
  by_cases c29 : (gA s 99 l2.toNatClampNeg) = (11 : Int32)
  · replace h := Ok_t c29 h
    refine ev_sw (pc' := 316) m_240 rfl (by rw [c29]; rfl) ?_
    refine ev_aload_n (pc' := 317) m_240 rfl rfl rfl (ev_iload_n (pc' := 318) m_240 rfl rfl rfl (ev_aload_n (pc' := 319) m_240 rfl rfl rfl (tr_get (pc' := 322) (v := .ref 100) m_240 rfl rfl ts_o87 rfl rfl rfl (ev_iload_n (pc' := 323) m_240 rfl rfl rfl (tr_iald (pc' := 324) m_240 rfl rfl rfl g1 rfl (ev_iload_n (pc' := 325) m_240 rfl rfl rfl (ev_aload_n (pc' := 326) m_240 rfl rfl rfl ?_)))))))
    refine tr_get (pc' := 329) (v := .ref 99) m_240 rfl rfl ts_o87 rfl rfl rfl (ev_iload_n (pc' := 330) m_240 rfl rfl rfl (tr_iald (pc' := 331) m_240 rfl rfl rfl g1 rfl (ev_bipush (pc' := 333) (x := 11) m_240 rfl rfl rfl ?_)))
    refine ev_icmp_ne (t := 340) (e := 336) m_240 rfl rfl rfl (fun c28 => ?_) (fun c28 => ?_)
    · replace h := Ok_f c28 h
      refine ev_iconst (pc' := 341) (x := 0) m_240 rfl rfl rfl ?_
      exact am_Ev.sub (L := []) trivial (cR_perform_341_ok l1 (gA s 100 l2.toNatClampNeg) l3 ((0 : Int32)) _ _ h)
    · replace h := Ok_t c28 h
      refine ev_iconst (pc' := 337) (x := 1) m_240 rfl rfl rfl (ev_goto (pc' := 341) m_240 rfl rfl ?_)
      exact am_Ev.sub (L := []) trivial (cR_perform_341_ok l1 (gA s 100 l2.toNatClampNeg) l3 ((1 : Int32)) _ _ h)
  replace h := Ok_f c29 h
  by_cases c31 : (gA s 99 l2.toNatClampNeg) = (12 : Int32)
  · replace h := Ok_t c31 h
    refine ev_sw (pc' := 316) m_240 rfl (by rw [c31]; rfl) ?_
    refine ev_aload_n (pc' := 317) m_240 rfl rfl rfl (ev_iload_n (pc' := 318) m_240 rfl rfl rfl (ev_aload_n (pc' := 319) m_240 rfl rfl rfl (tr_get (pc' := 322) (v := .ref 100) m_240 rfl rfl ts_o87 rfl rfl rfl (ev_iload_n (pc' := 323) m_240 rfl rfl rfl (tr_iald (pc' := 324) m_240 rfl rfl rfl g1 rfl (ev_iload_n (pc' := 325) m_240 rfl rfl rfl (ev_aload_n (pc' := 326) m_240 rfl rfl rfl ?_)))))))
    refine tr_get (pc' := 329) (v := .ref 99) m_240 rfl rfl ts_o87 rfl rfl rfl (ev_iload_n (pc' := 330) m_240 rfl rfl rfl (tr_iald (pc' := 331) m_240 rfl rfl rfl g1 rfl (ev_bipush (pc' := 333) (x := 11) m_240 rfl rfl rfl ?_)))
    refine ev_icmp_ne (t := 340) (e := 336) m_240 rfl rfl rfl (fun c30 => ?_) (fun c30 => ?_)
    · replace h := Ok_f c30 h
      refine ev_iconst (pc' := 341) (x := 0) m_240 rfl rfl rfl ?_
      exact am_Ev.sub (L := []) trivial (cR_perform_341_ok l1 (gA s 100 l2.toNatClampNeg) l3 ((0 : Int32)) _ _ h)
    · replace h := Ok_t c30 h
      refine ev_iconst (pc' := 337) (x := 1) m_240 rfl rfl rfl (ev_goto (pc' := 341) m_240 rfl rfl ?_)
      exact am_Ev.sub (L := []) trivial (cR_perform_341_ok l1 (gA s 100 l2.toNatClampNeg) l3 ((1 : Int32)) _ _ h)
  replace h := Ok_f c31 h
  by_cases c37 : (gA s 99 l2.toNatClampNeg) = (13 : Int32)
  · replace h := Ok_t c37 h
    refine ev_sw (pc' := 347) m_240 rfl (by rw [c37]; rfl) ?_
    refine ev_iload_n (pc' := 348) m_240 rfl rfl rfl ?_
    refine ev_if_ne (t := 518) (e := 351) m_240 rfl rfl rfl (fun c36 => ?_) (fun c36 => ?_)
    · replace h := Ok_f c36 h
      exact tr_rv m_240 rfl rfl (Ok_s h)
    · replace h := Ok_t c36 h
      refine ev_aload_n (pc' := 352) m_240 rfl rfl rfl (ev_iload_n (pc' := 353) m_240 rfl rfl rfl (ev_iconst (pc' := 354) (x := 4) m_240 rfl rfl rfl (ev_bipush (pc' := 356) (x := -2) m_240 rfl rfl rfl ?_)))
      refine tr_cv (pc' := 359) m_240 rfl rfl rfl m_243 rfl rfl rfl rfl (tr_rcv ts_o87 rfl) rfl rfl (cR_waits_ok l1 ((4 : Int32)) ((-2 : Int32)) _ _ (Ok_b h)) (fun s33 h => ?_)
      refine ev_aload_n (pc' := 360) m_240 rfl rfl rfl (tr_get (pc' := 363) (v := .ref 139) m_240 rfl rfl ts_o87 rfl rfl rfl (ev_aload_n (pc' := 364) m_240 rfl rfl rfl (tr_get (pc' := 367) (v := .int (gI _ 1185 _)) m_240 rfl rfl ts_o87 rfl rfl rfl (ev_iload_n (pc' := 368) m_240 rfl rfl rfl ?_))))
      obtain ⟨g35, h⟩ := Ok_g h
      refine tr_iast (pc' := 369) m_240 rfl rfl rfl g35 rfl (ev_aload_n (pc' := 370) m_240 rfl rfl rfl (ev_dup (pc' := 371) m_240 rfl rfl rfl (tr_get (pc' := 374) (v := .int (gI _ 1185 _)) m_240 rfl rfl ts_o87 rfl rfl rfl (ev_iconst (pc' := 375) (x := 1) m_240 rfl rfl rfl (ev_iadd (pc' := 376) m_240 rfl rfl (tr_pI (pc' := 379) (f := 1185) m_240 rfl rfl rfl ts_o87 rfl rfl rfl rfl (ev_goto (pc' := 518) m_240 rfl rfl ?_)))))))
      exact tr_rv m_240 rfl rfl (Ok_s h)
  replace h := Ok_f c37 h
  by_cases c41 : (gA s 99 l2.toNatClampNeg) = (14 : Int32)
  · replace h := Ok_t c41 h
    refine ev_sw (pc' := 382) m_240 rfl (by rw [c41]; rfl) ?_
    refine ev_aload_n (pc' := 383) m_240 rfl rfl rfl (ev_iload_n (pc' := 384) m_240 rfl rfl rfl (ev_iload_n (pc' := 385) m_240 rfl rfl rfl ?_))
    refine tr_cv (pc' := 388) m_240 rfl rfl rfl m_247 rfl rfl rfl rfl (tr_rcv ts_o87 rfl) rfl rfl (cR_startOne_ok l1 l2 _ _ (Ok_b h)) (fun s39 h => ?_)
    refine ev_goto (pc' := 518) m_240 rfl rfl ?_
    exact tr_rv m_240 rfl rfl (Ok_s h)
  replace h := Ok_f c41 h
  by_cases c43 : (gA s 99 l2.toNatClampNeg) = (15 : Int32)
  · replace h := Ok_t c43 h
    refine ev_sw (pc' := 391) m_240 rfl (by rw [c43]; rfl) ?_
    refine ev_aload_n (pc' := 392) m_240 rfl rfl rfl (ev_iload_n (pc' := 393) m_240 rfl rfl rfl (ev_iload_n (pc' := 394) m_240 rfl rfl rfl (ev_aload_n (pc' := 395) m_240 rfl rfl rfl (tr_get (pc' := 398) (v := .ref 99) m_240 rfl rfl ts_o87 rfl rfl rfl (ev_iload_n (pc' := 399) m_240 rfl rfl rfl (tr_iald (pc' := 400) m_240 rfl rfl rfl g1 rfl (ev_bipush (pc' := 402) (x := 15) m_240 rfl rfl rfl ?_)))))))
    refine ev_icmp_ne (t := 409) (e := 405) m_240 rfl rfl rfl (fun c42 => ?_) (fun c42 => ?_)
    · replace h := Ok_f c42 h
      refine ev_iconst (pc' := 410) (x := 0) m_240 rfl rfl rfl ?_
      exact am_Ev.sub (L := []) trivial (cR_perform_410_ok l1 l3 ((0 : Int32)) _ _ h)
    · replace h := Ok_t c42 h
      refine ev_iconst (pc' := 406) (x := 1) m_240 rfl rfl rfl (ev_goto (pc' := 410) m_240 rfl rfl ?_)
      exact am_Ev.sub (L := []) trivial (cR_perform_410_ok l1 l3 ((1 : Int32)) _ _ h)
  replace h := Ok_f c43 h
  by_cases c45 : (gA s 99 l2.toNatClampNeg) = (16 : Int32)
  · replace h := Ok_t c45 h
    refine ev_sw (pc' := 391) m_240 rfl (by rw [c45]; rfl) ?_
    refine ev_aload_n (pc' := 392) m_240 rfl rfl rfl (ev_iload_n (pc' := 393) m_240 rfl rfl rfl (ev_iload_n (pc' := 394) m_240 rfl rfl rfl (ev_aload_n (pc' := 395) m_240 rfl rfl rfl (tr_get (pc' := 398) (v := .ref 99) m_240 rfl rfl ts_o87 rfl rfl rfl (ev_iload_n (pc' := 399) m_240 rfl rfl rfl (tr_iald (pc' := 400) m_240 rfl rfl rfl g1 rfl (ev_bipush (pc' := 402) (x := 15) m_240 rfl rfl rfl ?_)))))))
    refine ev_icmp_ne (t := 409) (e := 405) m_240 rfl rfl rfl (fun c44 => ?_) (fun c44 => ?_)
    · replace h := Ok_f c44 h
      refine ev_iconst (pc' := 410) (x := 0) m_240 rfl rfl rfl ?_
      exact am_Ev.sub (L := []) trivial (cR_perform_410_ok l1 l3 ((0 : Int32)) _ _ h)
    · replace h := Ok_t c44 h
      refine ev_iconst (pc' := 406) (x := 1) m_240 rfl rfl rfl (ev_goto (pc' := 410) m_240 rfl rfl ?_)
      exact am_Ev.sub (L := []) trivial (cR_perform_410_ok l1 l3 ((1 : Int32)) _ _ h)
  replace h := Ok_f c45 h
  by_cases c48 : (gA s 99 l2.toNatClampNeg) = (17 : Int32)
  · replace h := Ok_t c48 h
    refine ev_sw (pc' := 416) m_240 rfl (by rw [c48]; rfl) ?_
    refine ev_aload_n (pc' := 417) m_240 rfl rfl rfl (tr_get (pc' := 420) (v := .ref 116) m_240 rfl rfl ts_o87 rfl rfl rfl (ev_aload_n (pc' := 421) m_240 rfl rfl rfl (tr_get (pc' := 424) (v := .int (gI _ 1161 _)) m_240 rfl rfl ts_o87 rfl rfl rfl (ev_sipush (pc' := 427) (x := 1000) m_240 rfl rfl rfl (ev_irem (pc' := 428) m_240 rfl (by decide) rfl (ev_aload_n (pc' := 429) m_240 rfl rfl rfl (tr_get (pc' := 432) (v := .int (gI _ 1161 _)) m_240 rfl rfl ts_o87 rfl rfl rfl ?_)))))))
    refine ev_sipush (pc' := 435) (x := 1000) m_240 rfl rfl rfl ?_
    refine ev_icmp_ge (t := 445) (e := 438) m_240 rfl rfl rfl (fun c47 => ?_) (fun c47 => ?_)
    · replace h := Ok_t c47 h
      refine ev_aload_n (pc' := 446) m_240 rfl rfl rfl (tr_get (pc' := 449) (v := .ref 116) m_240 rfl rfl ts_o87 rfl rfl rfl (ev_aload_n (pc' := 450) m_240 rfl rfl rfl (tr_get (pc' := 453) (v := .int (gI _ 1161 _)) m_240 rfl rfl ts_o87 rfl rfl rfl (ev_sipush (pc' := 456) (x := 1000) m_240 rfl rfl rfl (ev_irem (pc' := 457) m_240 rfl (by decide) rfl ?_)))))
      obtain ⟨g46, h⟩ := Ok_g h
      refine tr_iald (pc' := 458) m_240 rfl rfl rfl g46 rfl ?_
      exact am_Ev.sub (L := [(0, .ref 87), (3, .int (l3))]) ⟨rfl, rfl, trivial⟩ (cR_perform_458_ok l3 ((gI s 1161 0) - (gI s 1161 0) / ((1000 : Int32)) * ((1000 : Int32))) (gA s 116 ((gI s 1161 0) - (gI s 1161 0) / ((1000 : Int32)) * ((1000 : Int32))).toNatClampNeg) _ _ h)
    · replace h := Ok_f c47 h
      refine ev_aload_n (pc' := 439) m_240 rfl rfl rfl (tr_get (pc' := 442) (v := .int (gI _ 1152 _)) m_240 rfl rfl ts_o87 rfl rfl rfl (ev_goto (pc' := 458) m_240 rfl rfl ?_))
      exact am_Ev.sub (L := [(0, .ref 87), (3, .int (l3))]) ⟨rfl, rfl, trivial⟩ (cR_perform_458_ok l3 ((gI s 1161 0) - (gI s 1161 0) / ((1000 : Int32)) * ((1000 : Int32))) (gI s 1152 0) _ _ h)
  replace h := Ok_f c48 h
  by_cases c52 : (gA s 99 l2.toNatClampNeg) = (18 : Int32)
  · replace h := Ok_t c52 h
    refine ev_sw (pc' := 512) m_240 rfl (by rw [c52]; rfl) ?_
    refine ev_aload_n (pc' := 513) m_240 rfl rfl rfl (ev_iload_n (pc' := 514) m_240 rfl rfl rfl (ev_iconst (pc' := 515) (x := 0) m_240 rfl rfl rfl ?_))
    refine tr_cv (pc' := 518) m_240 rfl rfl rfl m_228 rfl rfl rfl rfl (tr_rcv ts_o87 rfl) rfl rfl (cR_finish_ok l1 ((0 : Int32)) _ _ (Ok_b h)) (fun s50 h => ?_)
    exact tr_rv m_240 rfl rfl (Ok_s h)
  replace h := Ok_f c52 h
  by_cases c56 : (gA s 99 l2.toNatClampNeg) = (19 : Int32)
  · replace h := Ok_t c56 h
    refine ev_sw (pc' := 512) m_240 rfl (by rw [c56]; rfl) ?_
    refine ev_aload_n (pc' := 513) m_240 rfl rfl rfl (ev_iload_n (pc' := 514) m_240 rfl rfl rfl (ev_iconst (pc' := 515) (x := 0) m_240 rfl rfl rfl ?_))
    refine tr_cv (pc' := 518) m_240 rfl rfl rfl m_228 rfl rfl rfl rfl (tr_rcv ts_o87 rfl) rfl rfl (cR_finish_ok l1 ((0 : Int32)) _ _ (Ok_b h)) (fun s54 h => ?_)
    exact tr_rv m_240 rfl rfl (Ok_s h)
  replace h := Ok_f c56 h
  by_cases c60 : (gA s 99 l2.toNatClampNeg) = (20 : Int32)
  · replace h := Ok_t c60 h
    refine ev_sw (pc' := 512) m_240 rfl (by rw [c60]; rfl) ?_
    refine ev_aload_n (pc' := 513) m_240 rfl rfl rfl (ev_iload_n (pc' := 514) m_240 rfl rfl rfl (ev_iconst (pc' := 515) (x := 0) m_240 rfl rfl rfl ?_))
    refine tr_cv (pc' := 518) m_240 rfl rfl rfl m_228 rfl rfl rfl rfl (tr_rcv ts_o87 rfl) rfl rfl (cR_finish_ok l1 ((0 : Int32)) _ _ (Ok_b h)) (fun s58 h => ?_)
    exact tr_rv m_240 rfl rfl (Ok_s h)
  replace h := Ok_f c60 h
  by_cases c64 : (gA s 99 l2.toNatClampNeg) = (21 : Int32)
  · replace h := Ok_t c64 h
    refine ev_sw (pc' := 512) m_240 rfl (by rw [c64]; rfl) ?_
    refine ev_aload_n (pc' := 513) m_240 rfl rfl rfl (ev_iload_n (pc' := 514) m_240 rfl rfl rfl (ev_iconst (pc' := 515) (x := 0) m_240 rfl rfl rfl ?_))
    refine tr_cv (pc' := 518) m_240 rfl rfl rfl m_228 rfl rfl rfl rfl (tr_rcv ts_o87 rfl) rfl rfl (cR_finish_ok l1 ((0 : Int32)) _ _ (Ok_b h)) (fun s62 h => ?_)
    exact tr_rv m_240 rfl rfl (Ok_s h)
  replace h := Ok_f c64 h
  by_cases c68 : (gA s 99 l2.toNatClampNeg) = (22 : Int32)
  · replace h := Ok_t c68 h
    refine ev_sw (pc' := 512) m_240 rfl (by rw [c68]; rfl) ?_
    refine ev_aload_n (pc' := 513) m_240 rfl rfl rfl (ev_iload_n (pc' := 514) m_240 rfl rfl rfl (ev_iconst (pc' := 515) (x := 0) m_240 rfl rfl rfl ?_))
    refine tr_cv (pc' := 518) m_240 rfl rfl rfl m_228 rfl rfl rfl rfl (tr_rcv ts_o87 rfl) rfl rfl (cR_finish_ok l1 ((0 : Int32)) _ _ (Ok_b h)) (fun s66 h => ?_)
    exact tr_rv m_240 rfl rfl (Ok_s h)
  replace h := Ok_f c68 h
  by_cases c72 : (gA s 99 l2.toNatClampNeg) = (23 : Int32)
  · replace h := Ok_t c72 h
    refine ev_sw (pc' := 512) m_240 rfl (by rw [c72]; rfl) ?_
    refine ev_aload_n (pc' := 513) m_240 rfl rfl rfl (ev_iload_n (pc' := 514) m_240 rfl rfl rfl (ev_iconst (pc' := 515) (x := 0) m_240 rfl rfl rfl ?_))
    refine tr_cv (pc' := 518) m_240 rfl rfl rfl m_228 rfl rfl rfl rfl (tr_rcv ts_o87 rfl) rfl rfl (cR_finish_ok l1 ((0 : Int32)) _ _ (Ok_b h)) (fun s70 h => ?_)
    exact tr_rv m_240 rfl rfl (Ok_s h)
  replace h := Ok_f c72 h
  by_cases c74 : (gA s 99 l2.toNatClampNeg) = (24 : Int32)
  · replace h := Ok_t c74 h
    refine ev_sw (pc' := 184) m_240 rfl (by rw [c74]; rfl) ?_
    refine ev_aload_n (pc' := 185) m_240 rfl rfl rfl (tr_get (pc' := 188) (v := .ref 127) m_240 rfl rfl ts_o87 rfl rfl rfl (ev_bipush (pc' := 190) (x := 8) m_240 rfl rfl rfl (ev_iload_n (pc' := 191) m_240 rfl rfl rfl (ev_imul (pc' := 192) m_240 rfl rfl (ev_aload_n (pc' := 193) m_240 rfl rfl rfl (tr_get (pc' := 196) (v := .ref 100) m_240 rfl rfl ts_o87 rfl rfl rfl (ev_iload_n (pc' := 197) m_240 rfl rfl rfl ?_)))))))
    refine tr_iald (pc' := 198) m_240 rfl rfl rfl g1 rfl (ev_iadd (pc' := 199) m_240 rfl rfl (ev_iload_n (pc' := 200) m_240 rfl rfl rfl ?_))
    obtain ⟨g73, h⟩ := Ok_g h
    refine tr_iast (pc' := 201) m_240 rfl rfl rfl g73 rfl (ev_goto (pc' := 518) m_240 rfl rfl ?_)
    exact tr_rv m_240 rfl rfl (Ok_s h)
  replace h := Ok_f c74 h
  by_cases c76 : (gA s 99 l2.toNatClampNeg) = (25 : Int32)
  · replace h := Ok_t c76 h
    refine ev_sw (pc' := 204) m_240 rfl (by rw [c76]; rfl) ?_
    refine ev_aload_n (pc' := 205) m_240 rfl rfl rfl (tr_get (pc' := 208) (v := .ref 118) m_240 rfl rfl ts_o87 rfl rfl rfl (ev_aload_n (pc' := 209) m_240 rfl rfl rfl (tr_get (pc' := 212) (v := .ref 100) m_240 rfl rfl ts_o87 rfl rfl rfl (ev_iload_n (pc' := 213) m_240 rfl rfl rfl (tr_iald (pc' := 214) m_240 rfl rfl rfl g1 rfl (ev_iload_n (pc' := 215) m_240 rfl rfl rfl ?_))))))
    obtain ⟨g75, h⟩ := Ok_g h
    refine tr_iast (pc' := 216) m_240 rfl rfl rfl g75 rfl (ev_goto (pc' := 518) m_240 rfl rfl ?_)
    exact tr_rv m_240 rfl rfl (Ok_s h)
  replace h := Ok_f c76 h
  refine ev_tdef (t := 512) m_240 rfl (by have := ts_nel (k := 5) c5 (by decide); have := ts_nel (k := 6) c9 (by decide); have := ts_nel (k := 7) c13 (by decide); have := ts_nel (k := 8) c19 (by decide); have := ts_nel (k := 9) c23 (by decide); have := ts_nel (k := 10) c27 (by decide); have := ts_nel (k := 11) c29 (by decide); have := ts_nel (k := 12) c31 (by decide); have := ts_nel (k := 13) c37 (by decide); have := ts_nel (k := 14) c41 (by decide); have := ts_nel (k := 15) c43 (by decide); have := ts_nel (k := 16) c45 (by decide); have := ts_nel (k := 17) c48 (by decide); have := ts_nel (k := 18) c52 (by decide); have := ts_nel (k := 19) c56 (by decide); have := ts_nel (k := 20) c60 (by decide); have := ts_nel (k := 21) c64 (by decide); have := ts_nel (k := 22) c68 (by decide); have := ts_nel (k := 23) c72 (by decide); have := ts_nel (k := 24) c74 (by decide); have := ts_nel (k := 25) c76 (by decide); omega) rfl ?_
  refine ev_aload_n (pc' := 513) m_240 rfl rfl rfl (ev_iload_n (pc' := 514) m_240 rfl rfl rfl (ev_iconst (pc' := 515) (x := 0) m_240 rfl rfl rfl ?_))
  refine tr_cv (pc' := 518) m_240 rfl rfl rfl m_228 rfl rfl rfl rfl (tr_rcv ts_o87 rfl) rfl rfl (cR_finish_ok l1 ((0 : Int32)) _ _ (Ok_b h)) (fun s78 h => ?_)
  exact tr_rv m_240 rfl rfl (Ok_s h)
def cR_perform_40 (l1 : Int32) (l2 : Int32) (t0 : Int32) (s : ts) : Option (ts) := (if am_idx l2 900 = true then (if (gA s 101 l2.toNatClampNeg) = ((-1 : Int32)) then cR_perform_79 l1 l2 t0 s else (if (gA s 99 l2.toNatClampNeg) = ((14 : Int32)) then cR_perform_79 l1 l2 t0 s else (if (gI s 1188 0) ≤ ((0 : Int32)) then cR_perform_79 l1 l2 t0 s else (cR_finish l1 (gI s 1188 0) s).bind (fun s3 => some s3)))) else none)
set_option maxRecDepth 20000 in
theorem cR_perform_40_ok {d : Nat} (l1 : Int32) (l2 : Int32) (t0 : Int32) (s : ts) (Q : ts → Prop) (h : Ok (cR_perform_40 l1 l2 t0 s) Q) : am_Ev (d + 5) 240 (40, [(0, .ref 87), (1, .int (l1)), (2, .int (l2))], [.int (t0)]) (lay s) (tq_v Q) := by
  unfold cR_perform_40 at h
  refine ev_istore_n (pc' := 41) m_240 rfl rfl rfl rfl (ev_aload_n (pc' := 42) m_240 rfl rfl rfl (tr_get (pc' := 45) (v := .ref 101) m_240 rfl rfl ts_o87 rfl rfl rfl (ev_iload_n (pc' := 46) m_240 rfl rfl rfl ?_)))
  obtain ⟨g1, h⟩ := Ok_g h
  refine tr_iald (pc' := 47) m_240 rfl rfl rfl g1 rfl (ev_iconst (pc' := 48) (x := -1) m_240 rfl rfl rfl ?_)
  refine ev_icmp_eq (t := 79) (e := 51) m_240 rfl rfl rfl (fun c7 => ?_) (fun c7 => ?_)
  · replace h := Ok_t c7 h
    exact am_Ev.sub (L := [(0, .ref 87), (1, .int (l1)), (2, .int (l2)), (3, .int (t0))]) ⟨rfl, rfl, rfl, rfl, trivial⟩ (cR_perform_79_ok l1 l2 t0 _ _ h)
  · replace h := Ok_f c7 h
    refine ev_aload_n (pc' := 52) m_240 rfl rfl rfl (tr_get (pc' := 55) (v := .ref 99) m_240 rfl rfl ts_o87 rfl rfl rfl (ev_iload_n (pc' := 56) m_240 rfl rfl rfl (tr_iald (pc' := 57) m_240 rfl rfl rfl g1 rfl (ev_bipush (pc' := 59) (x := 14) m_240 rfl rfl rfl ?_))))
    refine ev_icmp_eq (t := 79) (e := 62) m_240 rfl rfl rfl (fun c6 => ?_) (fun c6 => ?_)
    · replace h := Ok_t c6 h
      exact am_Ev.sub (L := [(0, .ref 87), (1, .int (l1)), (2, .int (l2)), (3, .int (t0))]) ⟨rfl, rfl, rfl, rfl, trivial⟩ (cR_perform_79_ok l1 l2 t0 _ _ h)
    · replace h := Ok_f c6 h
      refine ev_aload_n (pc' := 63) m_240 rfl rfl rfl (tr_get (pc' := 66) (v := .int (gI _ 1188 _)) m_240 rfl rfl ts_o87 rfl rfl rfl ?_)
      refine ev_if_le (t := 79) (e := 69) m_240 rfl rfl rfl (fun c5 => ?_) (fun c5 => ?_)
      · replace h := Ok_t c5 h
        exact am_Ev.sub (L := [(0, .ref 87), (1, .int (l1)), (2, .int (l2)), (3, .int (t0))]) ⟨rfl, rfl, rfl, rfl, trivial⟩ (cR_perform_79_ok l1 l2 t0 _ _ h)
      · replace h := Ok_f c5 h
        refine ev_aload_n (pc' := 70) m_240 rfl rfl rfl (ev_iload_n (pc' := 71) m_240 rfl rfl rfl (ev_aload_n (pc' := 72) m_240 rfl rfl rfl (tr_get (pc' := 75) (v := .int (gI _ 1188 _)) m_240 rfl rfl ts_o87 rfl rfl rfl ?_)))
        refine tr_cv (pc' := 78) m_240 rfl rfl rfl m_228 rfl rfl rfl rfl (tr_rcv ts_o87 rfl) rfl rfl (cR_finish_ok l1 (gI s 1188 0) _ _ (Ok_b h)) (fun s3 h => ?_)
        exact tr_rv m_240 rfl rfl (Ok_s h)
def cR_perform (l1 : Int32) (l2 : Int32) (s : ts) : Option (ts) := (if am_idx l2 900 = true then (if (gA s 101 l2.toNatClampNeg) = ((-1 : Int32)) then cR_perform_40 l1 l2 ((0 : Int32)) s else (if (gA s 99 l2.toNatClampNeg) = ((14 : Int32)) then cR_perform_40 l1 l2 ((0 : Int32)) s else (cR_reckon (gA s 101 l2.toNatClampNeg) l1 s).bind (fun x4 => cR_perform_40 l1 l2 x4.1 x4.2))) else none)
set_option maxRecDepth 20000 in
theorem cR_perform_ok {d : Nat} (l1 : Int32) (l2 : Int32) (s : ts) (Q : ts → Prop) (h : Ok (cR_perform l1 l2 s) Q) : am_Ev (d + 5) 240 (0, [(0, .ref 87), (1, .int (l1)), (2, .int (l2))], []) (lay s) (tq_v Q) := by
  unfold cR_perform at h
  refine ev_aload_n (pc' := 1) m_240 rfl rfl rfl (tr_get (pc' := 4) (v := .ref 101) m_240 rfl rfl ts_o87 rfl rfl rfl (ev_iload_n (pc' := 5) m_240 rfl rfl rfl ?_))
  obtain ⟨g1, h⟩ := Ok_g h
  refine tr_iald (pc' := 6) m_240 rfl rfl rfl g1 rfl (ev_iconst (pc' := 7) (x := -1) m_240 rfl rfl rfl ?_)
  refine ev_icmp_ne (t := 14) (e := 10) m_240 rfl rfl rfl (fun c6 => ?_) (fun c6 => ?_)
  · replace h := Ok_f c6 h
    refine ev_aload_n (pc' := 15) m_240 rfl rfl rfl (tr_get (pc' := 18) (v := .ref 99) m_240 rfl rfl ts_o87 rfl rfl rfl (ev_iload_n (pc' := 19) m_240 rfl rfl rfl (tr_iald (pc' := 20) m_240 rfl rfl rfl g1 rfl (ev_bipush (pc' := 22) (x := 14) m_240 rfl rfl rfl ?_))))
    refine ev_icmp_ne (t := 29) (e := 25) m_240 rfl rfl rfl (fun c5 => ?_) (fun c5 => ?_)
    · replace h := Ok_f c5 h
      refine ev_aload_n (pc' := 30) m_240 rfl rfl rfl (ev_aload_n (pc' := 31) m_240 rfl rfl rfl (tr_get (pc' := 34) (v := .ref 101) m_240 rfl rfl ts_o87 rfl rfl rfl (ev_iload_n (pc' := 35) m_240 rfl rfl rfl (tr_iald (pc' := 36) m_240 rfl rfl rfl g1 rfl (ev_iload_n (pc' := 37) m_240 rfl rfl rfl ?_)))))
      refine tr_ci (pc' := 40) m_240 rfl rfl rfl m_236 rfl rfl rfl rfl (tr_rcv ts_o87 rfl) rfl rfl (cR_reckon_ok (gA s 101 l2.toNatClampNeg) l1 _ _ (Ok_b h)) (fun x4_ x4_s h => ?_)
      exact am_Ev.sub (L := [(0, .ref 87), (1, .int (l1)), (2, .int (l2))]) ⟨rfl, rfl, rfl, trivial⟩ (cR_perform_40_ok l1 l2 x4_ _ _ h)
    · replace h := Ok_t c5 h
      refine ev_iconst (pc' := 26) (x := 0) m_240 rfl rfl rfl (ev_goto (pc' := 40) m_240 rfl rfl ?_)
      exact am_Ev.sub (L := [(0, .ref 87), (1, .int (l1)), (2, .int (l2))]) ⟨rfl, rfl, rfl, trivial⟩ (cR_perform_40_ok l1 l2 ((0 : Int32)) _ _ h)
  · replace h := Ok_t c6 h
    refine ev_iconst (pc' := 11) (x := 0) m_240 rfl rfl rfl (ev_goto (pc' := 40) m_240 rfl rfl ?_)
    exact am_Ev.sub (L := [(0, .ref 87), (1, .int (l1)), (2, .int (l2))]) ⟨rfl, rfl, rfl, trivial⟩ (cR_perform_40_ok l1 l2 ((0 : Int32)) _ _ h)
def cR_step_119 (s : ts) : Option (ts) := (cR_endTurn s).bind (fun s2 => some s2)
set_option maxRecDepth 20000 in
theorem cR_step_119_ok {d : Nat} (s : ts) (Q : ts → Prop) (h : Ok (cR_step_119 s) Q) : am_Ev (d + 6) 239 (119, [(0, .ref 87)], []) (lay s) (tq_v Q) := by
  unfold cR_step_119 at h
  refine ev_aload_n (pc' := 120) m_239 rfl rfl rfl ?_
  refine tr_cv (pc' := 123) m_239 rfl rfl rfl m_235 rfl rfl rfl rfl (tr_rcv ts_o87 rfl) rfl rfl (cR_endTurn_ok _ _ (Ok_b h)) (fun s2 h => ?_)
  refine ev_goto (pc' := 131) m_239 rfl rfl ?_
  exact tr_rv m_239 rfl rfl (Ok_s h)
def cR_step_44_b (kk : Int32 → Int32 → Int32 → ts → Option (ts)) (l1 : Int32) (l2 : Int32) (l3 : Int32) (s : ts) : Option (ts) := (if ((14 : Int32)) ≤ l3 then (if am_idx l1 300 = true then (if (gA s 120 l1.toNatClampNeg) = ((7 : Int32)) then (cR_settleLine l1 s).bind (fun s3 => some s3) else (if (gA s 120 l1.toNatClampNeg) = ((4 : Int32)) then cR_step_119 (wA s 121 l1.toNatClampNeg l2) else cR_step_119 s)) else none) else (cR_waitingAt l3 s).bind (fun x9 => (if am_idx l3 14 = true then (if x9.1 ≤ (gA x9.2 132 l3.toNatClampNeg) then kk l1 l2 (l3 + (1 : Int32)) (wA x9.2 132 l3.toNatClampNeg (gA x9.2 132 l3.toNatClampNeg)) else kk l1 l2 (l3 + (1 : Int32)) (wA x9.2 132 l3.toNatClampNeg x9.1)) else none)))
def cR_step_44 : Nat → Int32 → Int32 → Int32 → ts → Option (ts)
  | 0, _, _, _, _ => none
  | n + 1, l1, l2, l3, s => cR_step_44_b (cR_step_44 n) l1 l2 l3 s
set_option maxRecDepth 20000 in
theorem cR_step_44_ok {d : Nat} : ∀ (n : Nat) (l1 : Int32) (l2 : Int32) (l3 : Int32) (s : ts) (Q : ts → Prop), Ok (cR_step_44 n l1 l2 l3 s) Q → am_Ev (d + 6) 239 (44, [(0, .ref 87), (1, .int (l1)), (2, .int (l2)), (3, .int (l3))], []) (lay s) (tq_v Q) := by
  intro n
  induction n with
  | zero => intro l1 l2 l3 s Q h; exact Ok_n h
  | succ n ih =>
    intro l1 l2 l3 s Q h
    rw [cR_step_44.eq_2] at h
    unfold cR_step_44_b at h
    refine ev_iload_n (pc' := 45) m_239 rfl rfl rfl (ev_bipush (pc' := 47) (x := 14) m_239 rfl rfl rfl ?_)
    refine ev_icmp_ge (t := 91) (e := 50) m_239 rfl rfl rfl (fun c12 => ?_) (fun c12 => ?_)
    · replace h := Ok_t c12 h
      refine ev_aload_n (pc' := 92) m_239 rfl rfl rfl (tr_get (pc' := 95) (v := .ref 120) m_239 rfl rfl ts_o87 rfl rfl rfl (ev_iload_n (pc' := 96) m_239 rfl rfl rfl ?_))
      obtain ⟨g1, h⟩ := Ok_g h
      refine tr_iald (pc' := 97) m_239 rfl rfl rfl g1 rfl (ev_bipush (pc' := 99) (x := 7) m_239 rfl rfl rfl ?_)
      refine ev_icmp_eq (t := 126) (e := 102) m_239 rfl rfl rfl (fun c6 => ?_) (fun c6 => ?_)
      · replace h := Ok_t c6 h
        refine ev_aload_n (pc' := 127) m_239 rfl rfl rfl (ev_iload_n (pc' := 128) m_239 rfl rfl rfl ?_)
        refine tr_cv (pc' := 131) m_239 rfl rfl rfl m_227 rfl rfl rfl rfl (tr_rcv ts_o87 rfl) rfl rfl (cR_settleLine_ok l1 _ _ (Ok_b h)) (fun s3 h => ?_)
        exact tr_rv m_239 rfl rfl (Ok_s h)
      · replace h := Ok_f c6 h
        refine ev_aload_n (pc' := 103) m_239 rfl rfl rfl (tr_get (pc' := 106) (v := .ref 120) m_239 rfl rfl ts_o87 rfl rfl rfl (ev_iload_n (pc' := 107) m_239 rfl rfl rfl (tr_iald (pc' := 108) m_239 rfl rfl rfl g1 rfl (ev_iconst (pc' := 109) (x := 4) m_239 rfl rfl rfl ?_))))
        refine ev_icmp_ne (t := 119) (e := 112) m_239 rfl rfl rfl (fun c5 => ?_) (fun c5 => ?_)
        · replace h := Ok_f c5 h
          exact am_Ev.sub (L := [(0, .ref 87)]) ⟨rfl, trivial⟩ (cR_step_119_ok _ _ h)
        · replace h := Ok_t c5 h
          refine ev_aload_n (pc' := 113) m_239 rfl rfl rfl (tr_get (pc' := 116) (v := .ref 121) m_239 rfl rfl ts_o87 rfl rfl rfl (ev_iload_n (pc' := 117) m_239 rfl rfl rfl (ev_iload_n (pc' := 118) m_239 rfl rfl rfl (tr_iast (pc' := 119) m_239 rfl rfl rfl g1 rfl ?_))))
          exact am_Ev.sub (L := [(0, .ref 87)]) ⟨rfl, trivial⟩ (cR_step_119_ok _ _ h)
    · replace h := Ok_f c12 h
      refine ev_aload_n (pc' := 51) m_239 rfl rfl rfl (ev_iload_n (pc' := 52) m_239 rfl rfl rfl ?_)
      refine tr_ci (pc' := 55) m_239 rfl rfl rfl m_226 rfl rfl rfl rfl (tr_rcv ts_o87 rfl) rfl rfl (cR_waitingAt_ok l3 _ _ (Ok_b h)) (fun x9_ x9_s h => ?_)
      refine ev_istore (pc' := 57) m_239 rfl rfl rfl rfl (ev_aload_n (pc' := 58) m_239 rfl rfl rfl (tr_get (pc' := 61) (v := .ref 132) m_239 rfl rfl ts_o87 rfl rfl rfl (ev_iload_n (pc' := 62) m_239 rfl rfl rfl (ev_iload (pc' := 64) m_239 rfl rfl rfl (ev_aload_n (pc' := 65) m_239 rfl rfl rfl (tr_get (pc' := 68) (v := .ref 132) m_239 rfl rfl ts_o87 rfl rfl rfl (ev_iload_n (pc' := 69) m_239 rfl rfl rfl ?_)))))))
      obtain ⟨g10, h⟩ := Ok_g h
      refine tr_iald (pc' := 70) m_239 rfl rfl rfl g10 rfl ?_
      refine ev_icmp_le (t := 78) (e := 73) m_239 rfl rfl rfl (fun c11 => ?_) (fun c11 => ?_)
      · replace h := Ok_t c11 h
        refine ev_aload_n (pc' := 79) m_239 rfl rfl rfl (tr_get (pc' := 82) (v := .ref 132) m_239 rfl rfl ts_o87 rfl rfl rfl (ev_iload_n (pc' := 83) m_239 rfl rfl rfl (tr_iald (pc' := 84) m_239 rfl rfl rfl g10 rfl (tr_iast (pc' := 85) m_239 rfl rfl rfl g10 rfl (ev_iinc (pc' := 88) (z := 1) m_239 rfl rfl rfl rfl rfl rfl (ev_goto (pc' := 44) m_239 rfl rfl ?_))))))
        exact am_Ev.sub (L := [(0, .ref 87), (1, .int (l1)), (2, .int (l2)), (3, .int (l3 + (1 : Int32)))]) ⟨rfl, rfl, rfl, rfl, trivial⟩ (ih l1 l2 (l3 + (1 : Int32)) _ _ h)
      · replace h := Ok_f c11 h
        refine ev_iload (pc' := 75) m_239 rfl rfl rfl (ev_goto (pc' := 84) m_239 rfl rfl (tr_iast (pc' := 85) m_239 rfl rfl rfl g10 rfl (ev_iinc (pc' := 88) (z := 1) m_239 rfl rfl rfl rfl rfl rfl (ev_goto (pc' := 44) m_239 rfl rfl ?_))))
        exact am_Ev.sub (L := [(0, .ref 87), (1, .int (l1)), (2, .int (l2)), (3, .int (l3 + (1 : Int32)))]) ⟨rfl, rfl, rfl, rfl, trivial⟩ (ih l1 l2 (l3 + (1 : Int32)) _ _ h)
def cR_step (s : ts) : Option (ts) := (if am_idx (gI s 1159 0) 300 = true then (cR_perform (gI s 1159 0) (gA s 121 (gI s 1159 0).toNatClampNeg) (wA (wI s 1153 0 (((gI s 1153 0) + ((1 : Int32))) &&& ((1073741823 : Int32)))) 121 (gI s 1159 0).toNatClampNeg ((gA (wI s 1153 0 (((gI s 1153 0) + ((1 : Int32))) &&& ((1073741823 : Int32)))) 121 (gI s 1159 0).toNatClampNeg) + ((1 : Int32))))).bind (fun s3 => cR_step_44 tm_N (gI s 1159 0) (gA s 121 (gI s 1159 0).toNatClampNeg) ((0 : Int32)) s3) else none)
set_option maxRecDepth 20000 in
theorem cR_step_ok {d : Nat} (s : ts) (Q : ts → Prop) (h : Ok (cR_step s) Q) : am_Ev (d + 6) 239 (0, [(0, .ref 87)], []) (lay s) (tq_v Q) := by
  unfold cR_step at h
  refine ev_aload_n (pc' := 1) m_239 rfl rfl rfl (tr_get (pc' := 4) (v := .int (gI _ 1159 _)) m_239 rfl rfl ts_o87 rfl rfl rfl (ev_istore_n (pc' := 5) m_239 rfl rfl rfl rfl (ev_aload_n (pc' := 6) m_239 rfl rfl rfl (tr_get (pc' := 9) (v := .ref 121) m_239 rfl rfl ts_o87 rfl rfl rfl (ev_iload_n (pc' := 10) m_239 rfl rfl rfl ?_)))))
  obtain ⟨g1, h⟩ := Ok_g h
  refine tr_iald (pc' := 11) m_239 rfl rfl rfl g1 rfl (ev_istore_n (pc' := 12) m_239 rfl rfl rfl rfl (ev_aload_n (pc' := 13) m_239 rfl rfl rfl (ev_aload_n (pc' := 14) m_239 rfl rfl rfl (tr_get (pc' := 17) (v := .int (gI _ 1153 _)) m_239 rfl rfl ts_o87 rfl rfl rfl (ev_iconst (pc' := 18) (x := 1) m_239 rfl rfl rfl (ev_iadd (pc' := 19) m_239 rfl rfl (tr_ldcw (pc' := 22) m_239 rfl rfl rfl ?_)))))))
  refine ev_iand (pc' := 23) m_239 rfl rfl (tr_pI (pc' := 26) (f := 1153) m_239 rfl rfl rfl ts_o87 rfl rfl rfl rfl (ev_aload_n (pc' := 27) m_239 rfl rfl rfl (tr_get (pc' := 30) (v := .ref 121) m_239 rfl rfl ts_o87 rfl rfl rfl (ev_iload_n (pc' := 31) m_239 rfl rfl rfl (ev_dup2 (pc' := 32) m_239 rfl ⟨rfl, rfl⟩ rfl (tr_iald (pc' := 33) m_239 rfl rfl rfl g1 rfl (ev_iconst (pc' := 34) (x := 1) m_239 rfl rfl rfl ?_)))))))
  refine ev_iadd (pc' := 35) m_239 rfl rfl (tr_iast (pc' := 36) m_239 rfl rfl rfl g1 rfl (ev_aload_n (pc' := 37) m_239 rfl rfl rfl (ev_iload_n (pc' := 38) m_239 rfl rfl rfl (ev_iload_n (pc' := 39) m_239 rfl rfl rfl ?_))))
  refine tr_cv (pc' := 42) m_239 rfl rfl rfl m_240 rfl rfl rfl rfl (tr_rcv ts_o87 rfl) rfl rfl (cR_perform_ok (gI s 1159 0) (gA s 121 (gI s 1159 0).toNatClampNeg) _ _ (Ok_b h)) (fun s3 h => ?_)
  refine ev_iconst (pc' := 43) (x := 0) m_239 rfl rfl rfl (ev_istore_n (pc' := 44) m_239 rfl rfl rfl rfl ?_)
  exact am_Ev.sub (L := [(0, .ref 87), (1, .int (gI s 1159 0)), (2, .int (gA s 121 (gI s 1159 0).toNatClampNeg)), (3, .int ((0 : Int32)))]) ⟨rfl, rfl, rfl, rfl, trivial⟩ (cR_step_44_ok tm_N (gI s 1159 0) (gA s 121 (gI s 1159 0).toNatClampNeg) ((0 : Int32)) _ _ h)
def cR_run_28_b (kk : Int32 → Int32 → ts → Option (Int32 × ts)) (l1 : Int32) (l2 : Int32) (s : ts) : Option (Int32 × ts) := (if l2 = ((0 : Int32)) then some (gI s 1191 0, s) else (if l1 ≤ (gI s 1191 0) then some (gI s 1191 0, s) else (if (gI s 1159 0) = ((-2 : Int32)) then (cR_begin s).bind (fun x6 => kk l1 x6.1 x6.2) else (cR_step s).bind (fun s2 => kk l1 l2 (wI s2 1191 0 ((gI s2 1191 0) + ((1 : Int32))))))))
def cR_run_28 : Nat → Int32 → Int32 → ts → Option (Int32 × ts)
  | 0, _, _, _ => none
  | n + 1, l1, l2, s => cR_run_28_b (cR_run_28 n) l1 l2 s
set_option maxRecDepth 20000 in
theorem cR_run_28_ok {d : Nat} : ∀ (n : Nat) (l1 : Int32) (l2 : Int32) (s : ts) (Q : Int32 × ts → Prop), Ok (cR_run_28 n l1 l2 s) Q → am_Ev (d + 7) 222 (28, [(0, .ref 87), (1, .int (l1)), (2, .int (l2))], []) (lay s) (tq_i Q) := by
  intro n
  induction n with
  | zero => intro l1 l2 s Q h; exact Ok_n h
  | succ n ih =>
    intro l1 l2 s Q h
    rw [cR_run_28.eq_2] at h
    unfold cR_run_28_b at h
    refine ev_iload_n (pc' := 29) m_222 rfl rfl rfl ?_
    refine ev_if_eq (t := 74) (e := 32) m_222 rfl rfl rfl (fun c9 => ?_) (fun c9 => ?_)
    · replace h := Ok_t c9 h
      refine ev_aload_n (pc' := 75) m_222 rfl rfl rfl (tr_get (pc' := 78) (v := .int (gI _ 1191 _)) m_222 rfl rfl ts_o87 rfl rfl rfl ?_)
      exact tr_ri m_222 rfl rfl (Ok_s h)
    · replace h := Ok_f c9 h
      refine ev_aload_n (pc' := 33) m_222 rfl rfl rfl (tr_get (pc' := 36) (v := .int (gI _ 1191 _)) m_222 rfl rfl ts_o87 rfl rfl rfl (ev_iload_n (pc' := 37) m_222 rfl rfl rfl ?_))
      refine ev_icmp_ge (t := 74) (e := 40) m_222 rfl rfl rfl (fun c8 => ?_) (fun c8 => ?_)
      · replace h := Ok_t c8 h
        refine ev_aload_n (pc' := 75) m_222 rfl rfl rfl (tr_get (pc' := 78) (v := .int (gI _ 1191 _)) m_222 rfl rfl ts_o87 rfl rfl rfl ?_)
        exact tr_ri m_222 rfl rfl (Ok_s h)
      · replace h := Ok_f c8 h
        refine ev_aload_n (pc' := 41) m_222 rfl rfl rfl (tr_get (pc' := 44) (v := .int (gI _ 1159 _)) m_222 rfl rfl ts_o87 rfl rfl rfl (ev_bipush (pc' := 46) (x := -2) m_222 rfl rfl rfl ?_))
        refine ev_icmp_ne (t := 57) (e := 49) m_222 rfl rfl rfl (fun c7 => ?_) (fun c7 => ?_)
        · replace h := Ok_f c7 h
          refine ev_aload_n (pc' := 58) m_222 rfl rfl rfl ?_
          refine tr_cv (pc' := 61) m_222 rfl rfl rfl m_239 rfl rfl rfl rfl (tr_rcv ts_o87 rfl) rfl rfl (cR_step_ok _ _ (Ok_b h)) (fun s2 h => ?_)
          refine ev_aload_n (pc' := 62) m_222 rfl rfl rfl (ev_dup (pc' := 63) m_222 rfl rfl rfl (tr_get (pc' := 66) (v := .int (gI _ 1191 _)) m_222 rfl rfl ts_o87 rfl rfl rfl (ev_iconst (pc' := 67) (x := 1) m_222 rfl rfl rfl (ev_iadd (pc' := 68) m_222 rfl rfl (tr_pI (pc' := 71) (f := 1191) m_222 rfl rfl rfl ts_o87 rfl rfl rfl rfl (ev_goto (pc' := 28) m_222 rfl rfl ?_))))))
          exact am_Ev.sub (L := [(0, .ref 87), (1, .int (l1)), (2, .int (l2))]) ⟨rfl, rfl, rfl, trivial⟩ (ih l1 l2 _ _ h)
        · replace h := Ok_t c7 h
          refine ev_aload_n (pc' := 50) m_222 rfl rfl rfl ?_
          refine tr_cz (pc' := 53) m_222 rfl rfl rfl m_223 rfl rfl rfl rfl rfl (tr_rcv ts_o87 rfl) rfl rfl (cR_begin_ok _ _ (Ok_b h)) (fun x6_ x6_s h4 h => ?_)
          refine ev_istore_n (pc' := 54) m_222 rfl rfl rfl rfl (ev_goto (pc' := 28) m_222 rfl rfl ?_)
          exact am_Ev.sub (L := [(0, .ref 87), (1, .int (l1)), (2, .int (x6_))]) ⟨rfl, rfl, rfl, trivial⟩ (ih l1 x6_ _ _ h)
def cR_run (l1 : Int32) (s : ts) : Option (Int32 × ts) := (if (gI s 1102 0) = ((0 : Int32)) then some ((-1 : Int32), s) else (if l1 < ((1 : Int32)) then some ((-1 : Int32), s) else (if l1 ≤ ((20000 : Int32)) then cR_run_28 tm_N l1 ((1 : Int32)) (wI s 1191 0 ((0 : Int32))) else some ((-1 : Int32), s))))
set_option maxRecDepth 20000 in
theorem cR_run_ok {d : Nat} (l1 : Int32) (s : ts) (Q : Int32 × ts → Prop) (h : Ok (cR_run l1 s) Q) : am_Ev (d + 7) 222 (0, [(0, .ref 87), (1, .int (l1))], []) (lay s) (tq_i Q) := by
  unfold cR_run at h
  refine ev_aload_n (pc' := 1) m_222 rfl rfl rfl (tr_get (pc' := 4) (v := .int (gI _ 1102 _)) m_222 rfl rfl ts_o87 rfl rfl rfl ?_)
  refine ev_if_eq (t := 19) (e := 7) m_222 rfl rfl rfl (fun c3 => ?_) (fun c3 => ?_)
  · replace h := Ok_t c3 h
    refine ev_iconst (pc' := 20) (x := -1) m_222 rfl rfl rfl ?_
    exact tr_ri m_222 rfl rfl (Ok_s h)
  · replace h := Ok_f c3 h
    refine ev_iload_n (pc' := 8) m_222 rfl rfl rfl (ev_iconst (pc' := 9) (x := 1) m_222 rfl rfl rfl ?_)
    refine ev_icmp_lt (t := 19) (e := 12) m_222 rfl rfl rfl (fun c2 => ?_) (fun c2 => ?_)
    · replace h := Ok_t c2 h
      refine ev_iconst (pc' := 20) (x := -1) m_222 rfl rfl rfl ?_
      exact tr_ri m_222 rfl rfl (Ok_s h)
    · replace h := Ok_f c2 h
      refine ev_iload_n (pc' := 13) m_222 rfl rfl rfl (ev_sipush (pc' := 16) (x := 20000) m_222 rfl rfl rfl ?_)
      refine ev_icmp_le (t := 21) (e := 19) m_222 rfl rfl rfl (fun c1 => ?_) (fun c1 => ?_)
      · replace h := Ok_t c1 h
        refine ev_aload_n (pc' := 22) m_222 rfl rfl rfl (ev_iconst (pc' := 23) (x := 0) m_222 rfl rfl rfl (tr_pI (pc' := 26) (f := 1191) m_222 rfl rfl rfl ts_o87 rfl rfl rfl rfl (ev_iconst (pc' := 27) (x := 1) m_222 rfl rfl rfl (ev_istore_n (pc' := 28) m_222 rfl rfl rfl rfl ?_))))
        exact am_Ev.sub (L := [(0, .ref 87), (1, .int (l1)), (2, .int ((1 : Int32)))]) ⟨rfl, rfl, rfl, trivial⟩ (cR_run_28_ok tm_N l1 ((1 : Int32)) _ _ h)
      · replace h := Ok_f c1 h
        refine ev_iconst (pc' := 20) (x := -1) m_222 rfl rfl rfl ?_
        exact tr_ri m_222 rfl rfl (Ok_s h)
def cH_doTurn_50 (l2 : Int32) (s : ts) : Option (Int32 × ts) := (match gR s 1003 0 with
  | none => some (l2, s)
  | some r1 => some (((-3 : Int32)) - l2, s))
set_option maxRecDepth 20000 in
theorem cH_doTurn_50_ok {d : Nat} (l2 : Int32) (s : ts) (Q : Int32 × ts → Prop) (h : Ok (cH_doTurn_50 l2 s) Q) : am_Ev (d + 8) 152 (50, [(0, .ref 34), (2, .int (l2))], []) (lay s) (tq_i Q) := by
  unfold cH_doTurn_50 at h
  refine ev_aload_n (pc' := 51) m_152 rfl rfl rfl ?_
  cases e2 : gR s 1003 0 with
  | none =>
    rw [e2] at h
    dsimp only at h
    refine tr_getN (pc' := 54) (f := 1003) (g := pB) m_152 rfl rfl ts_o34 rfl rfl e2 rfl ?_
    refine ev_nnlN (e := 57) m_152 rfl rfl (ev_iload_n (pc' := 58) m_152 rfl rfl rfl (ev_goto (pc' := 65) m_152 rfl rfl ?_))
    exact tr_ri m_152 rfl rfl (Ok_s h)
  | some r1 =>
    rw [e2] at h
    dsimp only at h
    refine tr_getS (pc' := 54) (f := 1003) (g := pB) m_152 rfl rfl ts_o34 rfl rfl e2 rfl ?_
    refine ev_nnlY (t := 61) m_152 rfl rfl (ev_bipush (pc' := 63) (x := -3) m_152 rfl rfl rfl (ev_iload_n (pc' := 64) m_152 rfl rfl rfl (ev_isub (pc' := 65) m_152 rfl rfl ?_)))
    exact tr_ri m_152 rfl rfl (Ok_s h)
def cH_doTurn_24_b (kk : Int32 → Int32 → Int32 → ts → Option (Int32 × ts)) (l1 : Int32) (l2 : Int32) (l3 : Int32) (s : ts) : Option (Int32 × ts) := (if l1 ≤ l3 then cH_doTurn_50 l2 s else (match gR s 1003 0 with
  | none => cH_doTurn_50 l2 s
  | some r1 => (cH_doStep r1 s).bind (fun s4 => kk l1 l2 (l3 + (1 : Int32)) s4)))
def cH_doTurn_24 : Nat → Int32 → Int32 → Int32 → ts → Option (Int32 × ts)
  | 0, _, _, _, _ => none
  | n + 1, l1, l2, l3, s => cH_doTurn_24_b (cH_doTurn_24 n) l1 l2 l3 s
set_option maxRecDepth 20000 in
theorem cH_doTurn_24_ok {d : Nat} : ∀ (n : Nat) (l1 : Int32) (l2 : Int32) (l3 : Int32) (s : ts) (Q : Int32 × ts → Prop), Ok (cH_doTurn_24 n l1 l2 l3 s) Q → am_Ev (d + 8) 152 (24, [(0, .ref 34), (1, .int (l1)), (2, .int (l2)), (3, .int (l3))], []) (lay s) (tq_i Q) := by
  intro n
  induction n with
  | zero => intro l1 l2 l3 s Q h; exact Ok_n h
  | succ n ih =>
    intro l1 l2 l3 s Q h
    rw [cH_doTurn_24.eq_2] at h
    unfold cH_doTurn_24_b at h
    refine ev_iload_n (pc' := 25) m_152 rfl rfl rfl (ev_iload_n (pc' := 26) m_152 rfl rfl rfl ?_)
    refine ev_icmp_ge (t := 50) (e := 29) m_152 rfl rfl rfl (fun c6 => ?_) (fun c6 => ?_)
    · replace h := Ok_t c6 h
      exact am_Ev.sub (L := [(0, .ref 34), (2, .int (l2))]) ⟨rfl, rfl, trivial⟩ (cH_doTurn_50_ok l2 _ _ h)
    · replace h := Ok_f c6 h
      refine ev_aload_n (pc' := 30) m_152 rfl rfl rfl ?_
      cases e2 : gR s 1003 0 with
      | none =>
        rw [e2] at h
        dsimp only at h
        refine tr_getN (pc' := 33) (f := 1003) (g := pB) m_152 rfl rfl ts_o34 rfl rfl e2 rfl ?_
        refine ev_nulY (t := 50) m_152 rfl rfl ?_
        exact am_Ev.sub (L := [(0, .ref 34), (2, .int (l2))]) ⟨rfl, rfl, trivial⟩ (cH_doTurn_50_ok l2 _ _ h)
      | some r1 =>
        rw [e2] at h
        dsimp only at h
        refine tr_getS (pc' := 33) (f := 1003) (g := pB) m_152 rfl rfl ts_o34 rfl rfl e2 rfl ?_
        refine ev_nulN (e := 36) m_152 rfl rfl (ev_aload_n (pc' := 37) m_152 rfl rfl rfl (ev_aload_n (pc' := 38) m_152 rfl rfl rfl (tr_getS (pc' := 41) (f := 1003) (g := pB) m_152 rfl rfl ts_o34 rfl rfl e2 rfl ?_)))
        refine tr_cv (pc' := 44) m_152 rfl rfl rfl m_108 rfl rfl rfl rfl (tr_rcv ts_o34 rfl) rfl rfl (cH_doStep_ok r1 _ _ (Ok_b h)) (fun s4 h => ?_)
        refine ev_iinc (pc' := 47) (z := 1) m_152 rfl rfl rfl rfl rfl rfl (ev_goto (pc' := 24) m_152 rfl rfl ?_)
        exact am_Ev.sub (L := [(0, .ref 34), (1, .int (l1)), (2, .int (l2)), (3, .int (l3 + (1 : Int32)))]) ⟨rfl, rfl, rfl, rfl, trivial⟩ (ih l1 l2 (l3 + (1 : Int32)) _ _ h)
def cH_doTurn (l1 : Int32) (s : ts) : Option (Int32 × ts) := (match gR s 1003 0 with
  | none => (cH_beginTurn s).bind (fun x5 => cH_doTurn_24 tm_N l1 x5.1 ((0 : Int32)) x5.2)
  | some r1 => (if r1 < gM s then cH_doTurn_24 tm_N l1 (gI s 500 r1) ((0 : Int32)) s else none))
set_option maxRecDepth 20000 in
theorem cH_doTurn_ok {d : Nat} (l1 : Int32) (s : ts) (Q : Int32 × ts → Prop) (h : Ok (cH_doTurn l1 s) Q) : am_Ev (d + 8) 152 (0, [(0, .ref 34), (1, .int (l1))], []) (lay s) (tq_i Q) := by
  unfold cH_doTurn at h
  refine ev_aload_n (pc' := 1) m_152 rfl rfl rfl ?_
  cases e2 : gR s 1003 0 with
  | none =>
    rw [e2] at h
    dsimp only at h
    refine tr_getN (pc' := 4) (f := 1003) (g := pB) m_152 rfl rfl ts_o34 rfl rfl e2 rfl ?_
    refine ev_nnlN (e := 7) m_152 rfl rfl (ev_aload_n (pc' := 8) m_152 rfl rfl rfl ?_)
    refine tr_ci (pc' := 11) m_152 rfl rfl rfl m_148 rfl rfl rfl rfl (tr_rcv ts_o34 rfl) rfl rfl (cH_beginTurn_ok _ _ (Ok_b h)) (fun x5_ x5_s h => ?_)
    refine ev_goto (pc' := 21) m_152 rfl rfl (ev_istore_n (pc' := 22) m_152 rfl rfl rfl rfl (ev_iconst (pc' := 23) (x := 0) m_152 rfl rfl rfl (ev_istore_n (pc' := 24) m_152 rfl rfl rfl rfl ?_)))
    exact am_Ev.sub (L := [(0, .ref 34), (1, .int (l1)), (2, .int (x5_)), (3, .int ((0 : Int32)))]) ⟨rfl, rfl, rfl, rfl, trivial⟩ (cH_doTurn_24_ok tm_N l1 x5_ ((0 : Int32)) _ _ h)
  | some r1 =>
    rw [e2] at h
    dsimp only at h
    refine tr_getS (pc' := 4) (f := 1003) (g := pB) m_152 rfl rfl ts_o34 rfl rfl e2 rfl ?_
    refine ev_nnlY (t := 14) m_152 rfl rfl (ev_aload_n (pc' := 15) m_152 rfl rfl rfl (tr_getS (pc' := 18) (f := 1003) (g := pB) m_152 rfl rfl ts_o34 rfl rfl e2 rfl ?_))
    obtain ⟨g6, h⟩ := Ok_g h
    refine tr_get (pc' := 21) (v := .int (gI _ 500 _)) m_152 rfl rfl (ts_obB g6) rfl rfl rfl (ev_istore_n (pc' := 22) m_152 rfl rfl rfl rfl (ev_iconst (pc' := 23) (x := 0) m_152 rfl rfl rfl (ev_istore_n (pc' := 24) m_152 rfl rfl rfl rfl ?_)))
    exact am_Ev.sub (L := [(0, .ref 34), (1, .int (l1)), (2, .int (gI s 500 r1)), (3, .int ((0 : Int32)))]) ⟨rfl, rfl, rfl, rfl, trivial⟩ (cH_doTurn_24_ok tm_N l1 (gI s 500 r1) ((0 : Int32)) _ _ h)
def cX_turn (l1 : Int32) (s : ts) : Option (Int32 × ts) := (if (gI s 6 0) = ((0 : Int32)) then some ((-1 : Int32), s) else (cX_isStepCount l1 s).bind (fun x3 => (if x3.1 = ((0 : Int32)) then some ((-1 : Int32), x3.2) else (cH_doTurn l1 x3.2).bind (fun x6 => some (x6.1, x6.2)))))
set_option maxRecDepth 20000 in
theorem cX_turn_ok {d : Nat} (l1 : Int32) (s : ts) (Q : Int32 × ts → Prop) (h : Ok (cX_turn l1 s) Q) : am_Ev (d + 9) 151 (0, [(0, .ref 5), (1, .int (l1))], []) (lay s) (tq_i Q) := by
  unfold cX_turn at h
  refine ev_aload_n (pc' := 1) m_151 rfl rfl rfl (tr_get (pc' := 4) (v := .int (gI _ 6 _)) m_151 rfl rfl ts_o5 rfl rfl rfl ?_)
  refine ev_if_eq (t := 25) (e := 7) m_151 rfl rfl rfl (fun c8 => ?_) (fun c8 => ?_)
  · replace h := Ok_t c8 h
    refine ev_iconst (pc' := 26) (x := -1) m_151 rfl rfl rfl ?_
    exact tr_ri m_151 rfl rfl (Ok_s h)
  · replace h := Ok_f c8 h
    refine ev_iload_n (pc' := 8) m_151 rfl rfl rfl ?_
    refine tr_cz (pc' := 11) m_151 rfl rfl rfl m_106 rfl rfl rfl rfl rfl rfl rfl rfl (cX_isStepCount_ok l1 _ _ (Ok_b h)) (fun x3_ x3_s h1 h => ?_)
    refine ev_if_eq (t := 25) (e := 14) m_151 rfl rfl rfl (fun c7 => ?_) (fun c7 => ?_)
    · replace h := Ok_t c7 h
      refine ev_iconst (pc' := 26) (x := -1) m_151 rfl rfl rfl ?_
      exact tr_ri m_151 rfl rfl (Ok_s h)
    · replace h := Ok_f c7 h
      refine ev_aload_n (pc' := 15) m_151 rfl rfl rfl (tr_get (pc' := 18) (v := .ref 34) m_151 rfl rfl ts_o5 rfl rfl rfl (ev_iload_n (pc' := 19) m_151 rfl rfl rfl ?_))
      refine tr_ci (pc' := 22) m_151 rfl rfl rfl m_152 rfl rfl rfl rfl (tr_rcv ts_o34 rfl) rfl rfl (cH_doTurn_ok l1 _ _ (Ok_b h)) (fun x6_ x6_s h => ?_)
      refine ev_goto (pc' := 26) m_151 rfl rfl ?_
      exact tr_ri m_151 rfl rfl (Ok_s h)
def cR_turn_68 (l2 : Int32) (s : ts) : Option (Int32 × ts) := (if l2 = ((-2 : Int32)) then some ((-2 : Int32), s) else (if (gI s 1159 0) = ((-2 : Int32)) then some (l2, s) else some (((-3 : Int32)) - l2, s)))
set_option maxRecDepth 20000 in
theorem cR_turn_68_ok {d : Nat} (l2 : Int32) (s : ts) (Q : Int32 × ts → Prop) (h : Ok (cR_turn_68 l2 s) Q) : am_Ev (d + 7) 249 (68, [(0, .ref 87), (2, .int (l2))], []) (lay s) (tq_i Q) := by
  unfold cR_turn_68 at h
  refine ev_iload_n (pc' := 69) m_249 rfl rfl rfl (ev_bipush (pc' := 71) (x := -2) m_249 rfl rfl rfl ?_)
  refine ev_icmp_ne (t := 79) (e := 74) m_249 rfl rfl rfl (fun c2 => ?_) (fun c2 => ?_)
  · replace h := Ok_f c2 h
    refine ev_aload_n (pc' := 80) m_249 rfl rfl rfl (tr_get (pc' := 83) (v := .int (gI _ 1159 _)) m_249 rfl rfl ts_o87 rfl rfl rfl (ev_bipush (pc' := 85) (x := -2) m_249 rfl rfl rfl ?_))
    refine ev_icmp_eq (t := 95) (e := 88) m_249 rfl rfl rfl (fun c1 => ?_) (fun c1 => ?_)
    · replace h := Ok_t c1 h
      refine ev_iload_n (pc' := 96) m_249 rfl rfl rfl ?_
      exact tr_ri m_249 rfl rfl (Ok_s h)
    · replace h := Ok_f c1 h
      refine ev_bipush (pc' := 90) (x := -3) m_249 rfl rfl rfl (ev_iload_n (pc' := 91) m_249 rfl rfl rfl (ev_isub (pc' := 92) m_249 rfl rfl (ev_goto (pc' := 96) m_249 rfl rfl ?_)))
      exact tr_ri m_249 rfl rfl (Ok_s h)
  · replace h := Ok_t c2 h
    refine ev_bipush (pc' := 76) (x := -2) m_249 rfl rfl rfl (ev_goto (pc' := 96) m_249 rfl rfl ?_)
    exact tr_ri m_249 rfl rfl (Ok_s h)
def cR_turn_44_b (kk : Int32 → Int32 → Int32 → ts → Option (Int32 × ts)) (l1 : Int32) (l2 : Int32) (l3 : Int32) (s : ts) : Option (Int32 × ts) := (if l1 ≤ l3 then cR_turn_68 l2 s else (if (gI s 1159 0) = ((-2 : Int32)) then cR_turn_68 l2 s else (cR_step s).bind (fun s2 => kk l1 l2 (l3 + (1 : Int32)) s2)))
def cR_turn_44 : Nat → Int32 → Int32 → Int32 → ts → Option (Int32 × ts)
  | 0, _, _, _, _ => none
  | n + 1, l1, l2, l3, s => cR_turn_44_b (cR_turn_44 n) l1 l2 l3 s
set_option maxRecDepth 20000 in
theorem cR_turn_44_ok {d : Nat} : ∀ (n : Nat) (l1 : Int32) (l2 : Int32) (l3 : Int32) (s : ts) (Q : Int32 × ts → Prop), Ok (cR_turn_44 n l1 l2 l3 s) Q → am_Ev (d + 7) 249 (44, [(0, .ref 87), (1, .int (l1)), (2, .int (l2)), (3, .int (l3))], []) (lay s) (tq_i Q) := by
  intro n
  induction n with
  | zero => intro l1 l2 l3 s Q h; exact Ok_n h
  | succ n ih =>
    intro l1 l2 l3 s Q h
    rw [cR_turn_44.eq_2] at h
    unfold cR_turn_44_b at h
    refine ev_iload_n (pc' := 45) m_249 rfl rfl rfl (ev_iload_n (pc' := 46) m_249 rfl rfl rfl ?_)
    refine ev_icmp_ge (t := 68) (e := 49) m_249 rfl rfl rfl (fun c5 => ?_) (fun c5 => ?_)
    · replace h := Ok_t c5 h
      exact am_Ev.sub (L := [(0, .ref 87), (2, .int (l2))]) ⟨rfl, rfl, trivial⟩ (cR_turn_68_ok l2 _ _ h)
    · replace h := Ok_f c5 h
      refine ev_aload_n (pc' := 50) m_249 rfl rfl rfl (tr_get (pc' := 53) (v := .int (gI _ 1159 _)) m_249 rfl rfl ts_o87 rfl rfl rfl (ev_bipush (pc' := 55) (x := -2) m_249 rfl rfl rfl ?_))
      refine ev_icmp_eq (t := 68) (e := 58) m_249 rfl rfl rfl (fun c4 => ?_) (fun c4 => ?_)
      · replace h := Ok_t c4 h
        exact am_Ev.sub (L := [(0, .ref 87), (2, .int (l2))]) ⟨rfl, rfl, trivial⟩ (cR_turn_68_ok l2 _ _ h)
      · replace h := Ok_f c4 h
        refine ev_aload_n (pc' := 59) m_249 rfl rfl rfl ?_
        refine tr_cv (pc' := 62) m_249 rfl rfl rfl m_239 rfl rfl rfl rfl (tr_rcv ts_o87 rfl) rfl rfl (cR_step_ok _ _ (Ok_b h)) (fun s2 h => ?_)
        refine ev_iinc (pc' := 65) (z := 1) m_249 rfl rfl rfl rfl rfl rfl (ev_goto (pc' := 44) m_249 rfl rfl ?_)
        exact am_Ev.sub (L := [(0, .ref 87), (1, .int (l1)), (2, .int (l2)), (3, .int (l3 + (1 : Int32)))]) ⟨rfl, rfl, rfl, rfl, trivial⟩ (ih l1 l2 (l3 + (1 : Int32)) _ _ h)
def cR_turn (l1 : Int32) (s : ts) : Option (Int32 × ts) := (if (gI s 1102 0) = ((0 : Int32)) then some ((-1 : Int32), s) else (if l1 < ((1 : Int32)) then some ((-1 : Int32), s) else (if l1 ≤ ((20000 : Int32)) then (if (gI s 1159 0) = ((-2 : Int32)) then (cR_taken s).bind (fun x3 => (cR_begin x3.2).bind (fun x6 => cR_turn_44 tm_N l1 x3.1 ((0 : Int32)) x6.2)) else cR_turn_44 tm_N l1 (gI s 1159 0) ((0 : Int32)) s) else some ((-1 : Int32), s))))
set_option maxRecDepth 20000 in
theorem cR_turn_ok {d : Nat} (l1 : Int32) (s : ts) (Q : Int32 × ts → Prop) (h : Ok (cR_turn l1 s) Q) : am_Ev (d + 7) 249 (0, [(0, .ref 87), (1, .int (l1))], []) (lay s) (tq_i Q) := by
  unfold cR_turn at h
  refine ev_aload_n (pc' := 1) m_249 rfl rfl rfl (tr_get (pc' := 4) (v := .int (gI _ 1102 _)) m_249 rfl rfl ts_o87 rfl rfl rfl ?_)
  refine ev_if_eq (t := 19) (e := 7) m_249 rfl rfl rfl (fun c10 => ?_) (fun c10 => ?_)
  · replace h := Ok_t c10 h
    refine ev_iconst (pc' := 20) (x := -1) m_249 rfl rfl rfl ?_
    exact tr_ri m_249 rfl rfl (Ok_s h)
  · replace h := Ok_f c10 h
    refine ev_iload_n (pc' := 8) m_249 rfl rfl rfl (ev_iconst (pc' := 9) (x := 1) m_249 rfl rfl rfl ?_)
    refine ev_icmp_lt (t := 19) (e := 12) m_249 rfl rfl rfl (fun c9 => ?_) (fun c9 => ?_)
    · replace h := Ok_t c9 h
      refine ev_iconst (pc' := 20) (x := -1) m_249 rfl rfl rfl ?_
      exact tr_ri m_249 rfl rfl (Ok_s h)
    · replace h := Ok_f c9 h
      refine ev_iload_n (pc' := 13) m_249 rfl rfl rfl (ev_sipush (pc' := 16) (x := 20000) m_249 rfl rfl rfl ?_)
      refine ev_icmp_le (t := 21) (e := 19) m_249 rfl rfl rfl (fun c8 => ?_) (fun c8 => ?_)
      · replace h := Ok_t c8 h
        refine ev_aload_n (pc' := 22) m_249 rfl rfl rfl (tr_get (pc' := 25) (v := .int (gI _ 1159 _)) m_249 rfl rfl ts_o87 rfl rfl rfl (ev_istore_n (pc' := 26) m_249 rfl rfl rfl rfl (ev_iload_n (pc' := 27) m_249 rfl rfl rfl (ev_bipush (pc' := 29) (x := -2) m_249 rfl rfl rfl ?_))))
        refine ev_icmp_ne (t := 42) (e := 32) m_249 rfl rfl rfl (fun c7 => ?_) (fun c7 => ?_)
        · replace h := Ok_f c7 h
          refine ev_iconst (pc' := 43) (x := 0) m_249 rfl rfl rfl (ev_istore_n (pc' := 44) m_249 rfl rfl rfl rfl ?_)
          exact am_Ev.sub (L := [(0, .ref 87), (1, .int (l1)), (2, .int (gI s 1159 0)), (3, .int ((0 : Int32)))]) ⟨rfl, rfl, rfl, rfl, trivial⟩ (cR_turn_44_ok tm_N l1 (gI s 1159 0) ((0 : Int32)) _ _ h)
        · replace h := Ok_t c7 h
          refine ev_aload_n (pc' := 33) m_249 rfl rfl rfl ?_
          refine tr_ci (pc' := 36) m_249 rfl rfl rfl m_224 rfl rfl rfl rfl (tr_rcv ts_o87 rfl) rfl rfl (cR_taken_ok _ _ (Ok_b h)) (fun x3_ x3_s h => ?_)
          refine ev_istore_n (pc' := 37) m_249 rfl rfl rfl rfl (ev_aload_n (pc' := 38) m_249 rfl rfl rfl ?_)
          refine tr_cz (pc' := 41) m_249 rfl rfl rfl m_223 rfl rfl rfl rfl rfl (tr_rcv ts_o87 rfl) rfl rfl (cR_begin_ok _ _ (Ok_b h)) (fun x6_ x6_s h4 h => ?_)
          refine ev_istore_n (pc' := 42) m_249 rfl rfl rfl rfl (ev_iconst (pc' := 43) (x := 0) m_249 rfl rfl rfl (ev_istore_n (pc' := 44) m_249 rfl rfl rfl rfl ?_))
          exact am_Ev.sub (L := [(0, .ref 87), (1, .int (l1)), (2, .int (x3_)), (3, .int ((0 : Int32)))]) ⟨rfl, rfl, rfl, rfl, trivial⟩ (cR_turn_44_ok tm_N l1 x3_ ((0 : Int32)) _ _ h)
      · replace h := Ok_f c8 h
        refine ev_iconst (pc' := 20) (x := -1) m_249 rfl rfl rfl ?_
        exact tr_ri m_249 rfl rfl (Ok_s h)
def cW_waitingAtPlaces_4_b (kk : Int32 → Int32 → ts → Option (Int32 × ts)) (l1 : Int32) (l2 : Int32) (s : ts) : Option (Int32 × ts) := (if ((14 : Int32)) ≤ l2 then some (l1, s) else (cW_look ((535 : Int32)) l2 s).bind (fun x3 => kk (l1 + x3.1) (l2 + (1 : Int32)) x3.2))
def cW_waitingAtPlaces_4 : Nat → Int32 → Int32 → ts → Option (Int32 × ts)
  | 0, _, _, _ => none
  | n + 1, l1, l2, s => cW_waitingAtPlaces_4_b (cW_waitingAtPlaces_4 n) l1 l2 s
set_option maxRecDepth 20000 in
theorem cW_waitingAtPlaces_4_ok {d : Nat} : ∀ (n : Nat) (l1 : Int32) (l2 : Int32) (s : ts) (Q : Int32 × ts → Prop), Ok (cW_waitingAtPlaces_4 n l1 l2 s) Q → am_Ev (d + 2) 155 (4, [(0, .ref 35), (1, .int (l1)), (2, .int (l2))], []) (lay s) (tq_i Q) := by
  intro n
  induction n with
  | zero => intro l1 l2 s Q h; exact Ok_n h
  | succ n ih =>
    intro l1 l2 s Q h
    rw [cW_waitingAtPlaces_4.eq_2] at h
    unfold cW_waitingAtPlaces_4_b at h
    refine ev_iload_n (pc' := 5) m_155 rfl rfl rfl (ev_bipush (pc' := 7) (x := 14) m_155 rfl rfl rfl ?_)
    refine ev_icmp_ge (t := 27) (e := 10) m_155 rfl rfl rfl (fun c4 => ?_) (fun c4 => ?_)
    · replace h := Ok_t c4 h
      refine ev_iload_n (pc' := 28) m_155 rfl rfl rfl ?_
      exact tr_ri m_155 rfl rfl (Ok_s h)
    · replace h := Ok_f c4 h
      refine ev_iload_n (pc' := 11) m_155 rfl rfl rfl (ev_aload_n (pc' := 12) m_155 rfl rfl rfl (ev_sipush (pc' := 15) (x := 535) m_155 rfl rfl rfl (ev_iload_n (pc' := 16) m_155 rfl rfl rfl ?_)))
      refine tr_ci (pc' := 19) m_155 rfl rfl rfl m_117 rfl rfl rfl rfl (tr_rcv ts_o35 rfl) rfl rfl (cW_look_ok ((535 : Int32)) l2 _ _ (Ok_b h)) (fun x3_ x3_s h => ?_)
      refine ev_iadd (pc' := 20) m_155 rfl rfl (ev_istore_n (pc' := 21) m_155 rfl rfl rfl rfl (ev_iinc (pc' := 24) (z := 1) m_155 rfl rfl rfl rfl rfl rfl (ev_goto (pc' := 4) m_155 rfl rfl ?_)))
      exact am_Ev.sub (L := [(0, .ref 35), (1, .int (l1 + x3_)), (2, .int (l2 + (1 : Int32)))]) ⟨rfl, rfl, rfl, trivial⟩ (ih (l1 + x3_) (l2 + (1 : Int32)) _ _ h)
def cW_waitingAtPlaces (s : ts) : Option (Int32 × ts) := cW_waitingAtPlaces_4 tm_N ((0 : Int32)) ((0 : Int32)) s
set_option maxRecDepth 20000 in
theorem cW_waitingAtPlaces_ok {d : Nat} (s : ts) (Q : Int32 × ts → Prop) (h : Ok (cW_waitingAtPlaces s) Q) : am_Ev (d + 2) 155 (0, [(0, .ref 35)], []) (lay s) (tq_i Q) := by
  unfold cW_waitingAtPlaces at h
  refine ev_iconst (pc' := 1) (x := 0) m_155 rfl rfl rfl (ev_istore_n (pc' := 2) m_155 rfl rfl rfl rfl (ev_iconst (pc' := 3) (x := 0) m_155 rfl rfl rfl (ev_istore_n (pc' := 4) m_155 rfl rfl rfl rfl ?_)))
  exact am_Ev.sub (L := [(0, .ref 35), (1, .int ((0 : Int32))), (2, .int ((0 : Int32)))]) ⟨rfl, rfl, rfl, trivial⟩ (cW_waitingAtPlaces_4_ok tm_N ((0 : Int32)) ((0 : Int32)) _ _ h)
def cH_tellState (l1 : Int32) (s : ts) : Option (Int32 × ts) := (if l1 = (0 : Int32) then some (gI s 800 0, s) else (if l1 = (1 : Int32) then some (gI s 1004 0, s) else (if l1 = (2 : Int32) then some (gI s 1005 0, s) else (if l1 = (3 : Int32) then some (gI s 904 0, s) else (if l1 = (4 : Int32) then some (gI s 601 28, s) else (if l1 = (5 : Int32) then (cW_waitingAtPlaces s).bind (fun x8 => some (x8.1 + (gI x8.2 601 29), x8.2)) else (if l1 = (6 : Int32) then some (gI s 905 0, s) else (if l1 = (7 : Int32) then some (gI s 906 0, s) else (if l1 = (8 : Int32) then some (gI s 1008 0, s) else (if l1 = (9 : Int32) then some (gI s 801 0, s) else (if l1 = (10 : Int32) then (match gR s 1003 0 with
  | none => some ((-2 : Int32), s)
  | some r14 => (if r14 < gM s then some (gI s 500 r14, s) else none)) else some ((-1 : Int32), s))))))))))))
set_option maxRecDepth 20000 in
theorem cH_tellState_ok {d : Nat} (l1 : Int32) (s : ts) (Q : Int32 × ts → Prop) (h : Ok (cH_tellState l1 s) Q) : am_Ev (d + 3) 154 (0, [(0, .ref 34), (1, .int (l1))], []) (lay s) (tq_i Q) := by
  unfold cH_tellState at h
  refine ev_iload_n (pc' := 1) m_154 rfl rfl rfl ?_
  by_cases c1 : l1 = (0 : Int32)
  · replace h := Ok_t c1 h
    refine ev_sw (pc' := 60) m_154 rfl (by rw [c1]; rfl) ?_
    refine ev_aload_n (pc' := 61) m_154 rfl rfl rfl (tr_get (pc' := 64) (v := .ref 35) m_154 rfl rfl ts_o34 rfl rfl rfl (tr_get (pc' := 67) (v := .int (gI _ 800 _)) m_154 rfl rfl ts_o35 rfl rfl rfl ?_))
    exact tr_ri m_154 rfl rfl (Ok_s h)
  replace h := Ok_f c1 h
  by_cases c2 : l1 = (1 : Int32)
  · replace h := Ok_t c2 h
    refine ev_sw (pc' := 68) m_154 rfl (by rw [c2]; rfl) ?_
    refine ev_aload_n (pc' := 69) m_154 rfl rfl rfl (tr_get (pc' := 72) (v := .int (gI _ 1004 _)) m_154 rfl rfl ts_o34 rfl rfl rfl ?_)
    exact tr_ri m_154 rfl rfl (Ok_s h)
  replace h := Ok_f c2 h
  by_cases c3 : l1 = (2 : Int32)
  · replace h := Ok_t c3 h
    refine ev_sw (pc' := 73) m_154 rfl (by rw [c3]; rfl) ?_
    refine ev_aload_n (pc' := 74) m_154 rfl rfl rfl (tr_get (pc' := 77) (v := .int (gI _ 1005 _)) m_154 rfl rfl ts_o34 rfl rfl rfl ?_)
    exact tr_ri m_154 rfl rfl (Ok_s h)
  replace h := Ok_f c3 h
  by_cases c4 : l1 = (3 : Int32)
  · replace h := Ok_t c4 h
    refine ev_sw (pc' := 78) m_154 rfl (by rw [c4]; rfl) ?_
    refine ev_aload_n (pc' := 79) m_154 rfl rfl rfl (tr_get (pc' := 82) (v := .ref 81) m_154 rfl rfl ts_o34 rfl rfl rfl (tr_get (pc' := 85) (v := .int (gI _ 904 _)) m_154 rfl rfl ts_o81 rfl rfl rfl ?_))
    exact tr_ri m_154 rfl rfl (Ok_s h)
  replace h := Ok_f c4 h
  by_cases c5 : l1 = (4 : Int32)
  · replace h := Ok_t c5 h
    refine ev_sw (pc' := 86) m_154 rfl (by rw [c5]; rfl) ?_
    refine ev_aload_n (pc' := 87) m_154 rfl rfl rfl (tr_get (pc' := 90) (v := .ref 81) m_154 rfl rfl ts_o34 rfl rfl rfl (tr_get (pc' := 93) (v := .ref (pL 28)) m_154 rfl rfl ts_o81 rfl rfl rfl (tr_get (pc' := 96) (v := .int (gI _ 601 _)) m_154 rfl rfl (ts_obL (by decide)) rfl rfl rfl ?_)))
    exact tr_ri m_154 rfl rfl (Ok_s h)
  replace h := Ok_f c5 h
  by_cases c9 : l1 = (5 : Int32)
  · replace h := Ok_t c9 h
    refine ev_sw (pc' := 97) m_154 rfl (by rw [c9]; rfl) ?_
    refine ev_aload_n (pc' := 98) m_154 rfl rfl rfl (tr_get (pc' := 101) (v := .ref 35) m_154 rfl rfl ts_o34 rfl rfl rfl ?_)
    refine tr_ci (pc' := 104) m_154 rfl rfl rfl m_155 rfl rfl rfl rfl (tr_rcv ts_o35 rfl) rfl rfl (cW_waitingAtPlaces_ok _ _ (Ok_b h)) (fun x8_ x8_s h => ?_)
    refine ev_aload_n (pc' := 105) m_154 rfl rfl rfl (tr_get (pc' := 108) (v := .ref 81) m_154 rfl rfl ts_o34 rfl rfl rfl (tr_get (pc' := 111) (v := .ref (pL 29)) m_154 rfl rfl ts_o81 rfl rfl rfl (tr_get (pc' := 114) (v := .int (gI _ 601 _)) m_154 rfl rfl (ts_obL (by decide)) rfl rfl rfl (ev_iadd (pc' := 115) m_154 rfl rfl ?_))))
    exact tr_ri m_154 rfl rfl (Ok_s h)
  replace h := Ok_f c9 h
  by_cases c10 : l1 = (6 : Int32)
  · replace h := Ok_t c10 h
    refine ev_sw (pc' := 116) m_154 rfl (by rw [c10]; rfl) ?_
    refine ev_aload_n (pc' := 117) m_154 rfl rfl rfl (tr_get (pc' := 120) (v := .ref 81) m_154 rfl rfl ts_o34 rfl rfl rfl (tr_get (pc' := 123) (v := .int (gI _ 905 _)) m_154 rfl rfl ts_o81 rfl rfl rfl ?_))
    exact tr_ri m_154 rfl rfl (Ok_s h)
  replace h := Ok_f c10 h
  by_cases c11 : l1 = (7 : Int32)
  · replace h := Ok_t c11 h
    refine ev_sw (pc' := 124) m_154 rfl (by rw [c11]; rfl) ?_
    refine ev_aload_n (pc' := 125) m_154 rfl rfl rfl (tr_get (pc' := 128) (v := .ref 81) m_154 rfl rfl ts_o34 rfl rfl rfl (tr_get (pc' := 131) (v := .int (gI _ 906 _)) m_154 rfl rfl ts_o81 rfl rfl rfl ?_))
    exact tr_ri m_154 rfl rfl (Ok_s h)
  replace h := Ok_f c11 h
  by_cases c12 : l1 = (8 : Int32)
  · replace h := Ok_t c12 h
    refine ev_sw (pc' := 132) m_154 rfl (by rw [c12]; rfl) ?_
    refine ev_aload_n (pc' := 133) m_154 rfl rfl rfl (tr_get (pc' := 136) (v := .int (gI _ 1008 _)) m_154 rfl rfl ts_o34 rfl rfl rfl ?_)
    exact tr_ri m_154 rfl rfl (Ok_s h)
  replace h := Ok_f c12 h
  by_cases c13 : l1 = (9 : Int32)
  · replace h := Ok_t c13 h
    refine ev_sw (pc' := 137) m_154 rfl (by rw [c13]; rfl) ?_
    refine ev_aload_n (pc' := 138) m_154 rfl rfl rfl (tr_get (pc' := 141) (v := .ref 35) m_154 rfl rfl ts_o34 rfl rfl rfl (tr_get (pc' := 144) (v := .int (gI _ 801 _)) m_154 rfl rfl ts_o35 rfl rfl rfl ?_))
    exact tr_ri m_154 rfl rfl (Ok_s h)
  replace h := Ok_f c13 h
  by_cases c17 : l1 = (10 : Int32)
  · replace h := Ok_t c17 h
    refine ev_sw (pc' := 145) m_154 rfl (by rw [c17]; rfl) ?_
    refine ev_aload_n (pc' := 146) m_154 rfl rfl rfl ?_
    cases e15 : gR s 1003 0 with
    | none =>
      rw [e15] at h
      dsimp only at h
      refine tr_getN (pc' := 149) (f := 1003) (g := pB) m_154 rfl rfl ts_o34 rfl rfl e15 rfl ?_
      refine ev_nnlN (e := 152) m_154 rfl rfl (ev_bipush (pc' := 154) (x := -2) m_154 rfl rfl rfl (ev_goto (pc' := 164) m_154 rfl rfl ?_))
      exact tr_ri m_154 rfl rfl (Ok_s h)
    | some r14 =>
      rw [e15] at h
      dsimp only at h
      refine tr_getS (pc' := 149) (f := 1003) (g := pB) m_154 rfl rfl ts_o34 rfl rfl e15 rfl ?_
      refine ev_nnlY (t := 157) m_154 rfl rfl (ev_aload_n (pc' := 158) m_154 rfl rfl rfl (tr_getS (pc' := 161) (f := 1003) (g := pB) m_154 rfl rfl ts_o34 rfl rfl e15 rfl ?_))
      obtain ⟨g16, h⟩ := Ok_g h
      refine tr_get (pc' := 164) (v := .int (gI _ 500 _)) m_154 rfl rfl (ts_obB g16) rfl rfl rfl ?_
      exact tr_ri m_154 rfl rfl (Ok_s h)
  replace h := Ok_f c17 h
  refine ev_tdef (t := 165) m_154 rfl (by have := ts_nel (k := 0) c1 (by decide); have := ts_nel (k := 1) c2 (by decide); have := ts_nel (k := 2) c3 (by decide); have := ts_nel (k := 3) c4 (by decide); have := ts_nel (k := 4) c5 (by decide); have := ts_nel (k := 5) c9 (by decide); have := ts_nel (k := 6) c10 (by decide); have := ts_nel (k := 7) c11 (by decide); have := ts_nel (k := 8) c12 (by decide); have := ts_nel (k := 9) c13 (by decide); have := ts_nel (k := 10) c17 (by decide); omega) rfl ?_
  refine ev_iconst (pc' := 166) (x := -1) m_154 rfl rfl rfl ?_
  exact tr_ri m_154 rfl rfl (Ok_s h)
def cX_state (l1 : Int32) (s : ts) : Option (Int32 × ts) := (if l1 = ((11 : Int32)) then some (gI s 108 0, s) else (if l1 = ((12 : Int32)) then some (gI s 109 0, s) else (if (gI s 6 0) = ((0 : Int32)) then some ((-1 : Int32), s) else (cH_tellState l1 s).bind (fun x3 => some (x3.1, x3.2)))))
set_option maxRecDepth 20000 in
theorem cX_state_ok {d : Nat} (l1 : Int32) (s : ts) (Q : Int32 × ts → Prop) (h : Ok (cX_state l1 s) Q) : am_Ev (d + 4) 153 (0, [(0, .ref 5), (1, .int (l1))], []) (lay s) (tq_i Q) := by
  unfold cX_state at h
  refine ev_iload_n (pc' := 1) m_153 rfl rfl rfl (ev_bipush (pc' := 3) (x := 11) m_153 rfl rfl rfl ?_)
  refine ev_icmp_ne (t := 14) (e := 6) m_153 rfl rfl rfl (fun c6 => ?_) (fun c6 => ?_)
  · replace h := Ok_f c6 h
    refine ev_iload_n (pc' := 15) m_153 rfl rfl rfl (ev_bipush (pc' := 17) (x := 12) m_153 rfl rfl rfl ?_)
    refine ev_icmp_ne (t := 28) (e := 20) m_153 rfl rfl rfl (fun c5 => ?_) (fun c5 => ?_)
    · replace h := Ok_f c5 h
      refine ev_aload_n (pc' := 29) m_153 rfl rfl rfl (tr_get (pc' := 32) (v := .int (gI _ 6 _)) m_153 rfl rfl ts_o5 rfl rfl rfl ?_)
      refine ev_if_eq (t := 46) (e := 35) m_153 rfl rfl rfl (fun c4 => ?_) (fun c4 => ?_)
      · replace h := Ok_t c4 h
        refine ev_iconst (pc' := 47) (x := -1) m_153 rfl rfl rfl ?_
        exact tr_ri m_153 rfl rfl (Ok_s h)
      · replace h := Ok_f c4 h
        refine ev_aload_n (pc' := 36) m_153 rfl rfl rfl (tr_get (pc' := 39) (v := .ref 34) m_153 rfl rfl ts_o5 rfl rfl rfl (ev_iload_n (pc' := 40) m_153 rfl rfl rfl ?_))
        refine tr_ci (pc' := 43) m_153 rfl rfl rfl m_154 rfl rfl rfl rfl (tr_rcv ts_o34 rfl) rfl rfl (cH_tellState_ok l1 _ _ (Ok_b h)) (fun x3_ x3_s h => ?_)
        refine ev_goto (pc' := 47) m_153 rfl rfl ?_
        exact tr_ri m_153 rfl rfl (Ok_s h)
    · replace h := Ok_t c5 h
      refine ev_aload_n (pc' := 21) m_153 rfl rfl rfl (tr_get (pc' := 24) (v := .ref 7) m_153 rfl rfl ts_o5 rfl rfl rfl (tr_get (pc' := 27) (v := .int (gI _ 109 _)) m_153 rfl rfl ts_o7 rfl rfl rfl ?_))
      exact tr_ri m_153 rfl rfl (Ok_s h)
  · replace h := Ok_t c6 h
    refine ev_aload_n (pc' := 7) m_153 rfl rfl rfl (tr_get (pc' := 10) (v := .ref 7) m_153 rfl rfl ts_o5 rfl rfl rfl (tr_get (pc' := 13) (v := .int (gI _ 108 _)) m_153 rfl rfl ts_o7 rfl rfl rfl ?_))
    exact tr_ri m_153 rfl rfl (Ok_s h)
def cR_countOf_5_b (kk : Int32 → Int32 → Int32 → Int32 → ts → Option (Int32 × ts)) (l1 : Int32) (l2 : Int32) (l3 : Int32) (l4 : Int32) (s : ts) : Option (Int32 × ts) := (if (gI s 1155 0) ≤ l4 then some (l3, s) else (if am_idx l4 300 = true then (if (gA s 120 l4.toNatClampNeg) < l1 then kk l1 l2 (l3 + ((0 : Int32))) (l4 + (1 : Int32)) s else (if l2 < (gA s 120 l4.toNatClampNeg) then kk l1 l2 (l3 + ((0 : Int32))) (l4 + (1 : Int32)) s else kk l1 l2 (l3 + ((1 : Int32))) (l4 + (1 : Int32)) s)) else none))
def cR_countOf_5 : Nat → Int32 → Int32 → Int32 → Int32 → ts → Option (Int32 × ts)
  | 0, _, _, _, _, _ => none
  | n + 1, l1, l2, l3, l4, s => cR_countOf_5_b (cR_countOf_5 n) l1 l2 l3 l4 s
set_option maxRecDepth 20000 in
theorem cR_countOf_5_ok {d : Nat} : ∀ (n : Nat) (l1 : Int32) (l2 : Int32) (l3 : Int32) (l4 : Int32) (s : ts) (Q : Int32 × ts → Prop), Ok (cR_countOf_5 n l1 l2 l3 l4 s) Q → am_Ev (d + 0) 251 (5, [(0, .ref 87), (1, .int (l1)), (2, .int (l2)), (3, .int (l3)), (4, .int (l4))], []) (lay s) (tq_i Q) := by
  intro n
  induction n with
  | zero => intro l1 l2 l3 l4 s Q h; exact Ok_n h
  | succ n ih =>
    intro l1 l2 l3 l4 s Q h
    rw [cR_countOf_5.eq_2] at h
    unfold cR_countOf_5_b at h
    refine ev_iload (pc' := 7) m_251 rfl rfl rfl (ev_aload_n (pc' := 8) m_251 rfl rfl rfl (tr_get (pc' := 11) (v := .int (gI _ 1155 _)) m_251 rfl rfl ts_o87 rfl rfl rfl ?_))
    refine ev_icmp_ge (t := 50) (e := 14) m_251 rfl rfl rfl (fun c4 => ?_) (fun c4 => ?_)
    · replace h := Ok_t c4 h
      refine ev_iload_n (pc' := 51) m_251 rfl rfl rfl ?_
      exact tr_ri m_251 rfl rfl (Ok_s h)
    · replace h := Ok_f c4 h
      refine ev_iload_n (pc' := 15) m_251 rfl rfl rfl (ev_aload_n (pc' := 16) m_251 rfl rfl rfl (tr_get (pc' := 19) (v := .ref 120) m_251 rfl rfl ts_o87 rfl rfl rfl (ev_iload (pc' := 21) m_251 rfl rfl rfl ?_)))
      obtain ⟨g1, h⟩ := Ok_g h
      refine tr_iald (pc' := 22) m_251 rfl rfl rfl g1 rfl (ev_iload_n (pc' := 23) m_251 rfl rfl rfl ?_)
      refine ev_icmp_lt (t := 41) (e := 26) m_251 rfl rfl rfl (fun c3 => ?_) (fun c3 => ?_)
      · replace h := Ok_t c3 h
        refine ev_iconst (pc' := 42) (x := 0) m_251 rfl rfl rfl (ev_iadd (pc' := 43) m_251 rfl rfl (ev_istore_n (pc' := 44) m_251 rfl rfl rfl rfl (ev_iinc (pc' := 47) (z := 1) m_251 rfl rfl rfl rfl rfl rfl (ev_goto (pc' := 5) m_251 rfl rfl ?_))))
        exact am_Ev.sub (L := [(0, .ref 87), (1, .int (l1)), (2, .int (l2)), (3, .int (l3 + ((0 : Int32)))), (4, .int (l4 + (1 : Int32)))]) ⟨rfl, rfl, rfl, rfl, rfl, trivial⟩ (ih l1 l2 (l3 + ((0 : Int32))) (l4 + (1 : Int32)) _ _ h)
      · replace h := Ok_f c3 h
        refine ev_aload_n (pc' := 27) m_251 rfl rfl rfl (tr_get (pc' := 30) (v := .ref 120) m_251 rfl rfl ts_o87 rfl rfl rfl (ev_iload (pc' := 32) m_251 rfl rfl rfl (tr_iald (pc' := 33) m_251 rfl rfl rfl g1 rfl (ev_iload_n (pc' := 34) m_251 rfl rfl rfl ?_))))
        refine ev_icmp_gt (t := 41) (e := 37) m_251 rfl rfl rfl (fun c2 => ?_) (fun c2 => ?_)
        · replace h := Ok_t c2 h
          refine ev_iconst (pc' := 42) (x := 0) m_251 rfl rfl rfl (ev_iadd (pc' := 43) m_251 rfl rfl (ev_istore_n (pc' := 44) m_251 rfl rfl rfl rfl (ev_iinc (pc' := 47) (z := 1) m_251 rfl rfl rfl rfl rfl rfl (ev_goto (pc' := 5) m_251 rfl rfl ?_))))
          exact am_Ev.sub (L := [(0, .ref 87), (1, .int (l1)), (2, .int (l2)), (3, .int (l3 + ((0 : Int32)))), (4, .int (l4 + (1 : Int32)))]) ⟨rfl, rfl, rfl, rfl, rfl, trivial⟩ (ih l1 l2 (l3 + ((0 : Int32))) (l4 + (1 : Int32)) _ _ h)
        · replace h := Ok_f c2 h
          refine ev_iconst (pc' := 38) (x := 1) m_251 rfl rfl rfl (ev_goto (pc' := 42) m_251 rfl rfl (ev_iadd (pc' := 43) m_251 rfl rfl (ev_istore_n (pc' := 44) m_251 rfl rfl rfl rfl (ev_iinc (pc' := 47) (z := 1) m_251 rfl rfl rfl rfl rfl rfl (ev_goto (pc' := 5) m_251 rfl rfl ?_)))))
          exact am_Ev.sub (L := [(0, .ref 87), (1, .int (l1)), (2, .int (l2)), (3, .int (l3 + ((1 : Int32)))), (4, .int (l4 + (1 : Int32)))]) ⟨rfl, rfl, rfl, rfl, rfl, trivial⟩ (ih l1 l2 (l3 + ((1 : Int32))) (l4 + (1 : Int32)) _ _ h)
def cR_countOf (l1 : Int32) (l2 : Int32) (s : ts) : Option (Int32 × ts) := cR_countOf_5 tm_N l1 l2 ((0 : Int32)) ((0 : Int32)) s
set_option maxRecDepth 20000 in
theorem cR_countOf_ok {d : Nat} (l1 : Int32) (l2 : Int32) (s : ts) (Q : Int32 × ts → Prop) (h : Ok (cR_countOf l1 l2 s) Q) : am_Ev (d + 0) 251 (0, [(0, .ref 87), (1, .int (l1)), (2, .int (l2))], []) (lay s) (tq_i Q) := by
  unfold cR_countOf at h
  refine ev_iconst (pc' := 1) (x := 0) m_251 rfl rfl rfl (ev_istore_n (pc' := 2) m_251 rfl rfl rfl rfl (ev_iconst (pc' := 3) (x := 0) m_251 rfl rfl rfl (ev_istore (pc' := 5) m_251 rfl rfl rfl rfl ?_)))
  exact am_Ev.sub (L := [(0, .ref 87), (1, .int (l1)), (2, .int (l2)), (3, .int ((0 : Int32))), (4, .int ((0 : Int32)))]) ⟨rfl, rfl, rfl, rfl, rfl, trivial⟩ (cR_countOf_5_ok tm_N l1 l2 ((0 : Int32)) ((0 : Int32)) _ _ h)
def cR_state_12 (l1 : Int32) (s : ts) : Option (Int32 × ts) := (if l1 = ((11 : Int32)) then some (gI s 1103 0, s) else some (gI s 1104 0, s))
set_option maxRecDepth 20000 in
theorem cR_state_12_ok {d : Nat} (l1 : Int32) (s : ts) (Q : Int32 × ts → Prop) (h : Ok (cR_state_12 l1 s) Q) : am_Ev (d + 1) 250 (12, [(0, .ref 87), (1, .int (l1))], []) (lay s) (tq_i Q) := by
  unfold cR_state_12 at h
  refine ev_iload_n (pc' := 13) m_250 rfl rfl rfl (ev_bipush (pc' := 15) (x := 11) m_250 rfl rfl rfl ?_)
  refine ev_icmp_ne (t := 25) (e := 18) m_250 rfl rfl rfl (fun c1 => ?_) (fun c1 => ?_)
  · replace h := Ok_f c1 h
    refine ev_aload_n (pc' := 26) m_250 rfl rfl rfl (tr_get (pc' := 29) (v := .int (gI _ 1104 _)) m_250 rfl rfl ts_o87 rfl rfl rfl ?_)
    exact tr_ri m_250 rfl rfl (Ok_s h)
  · replace h := Ok_t c1 h
    refine ev_aload_n (pc' := 19) m_250 rfl rfl rfl (tr_get (pc' := 22) (v := .int (gI _ 1103 _)) m_250 rfl rfl ts_o87 rfl rfl rfl (ev_goto (pc' := 29) m_250 rfl rfl ?_))
    exact tr_ri m_250 rfl rfl (Ok_s h)
def cR_state (l1 : Int32) (s : ts) : Option (Int32 × ts) := (if l1 = ((11 : Int32)) then cR_state_12 l1 s else (if l1 = ((12 : Int32)) then cR_state_12 l1 s else (if (gI s 1102 0) = ((0 : Int32)) then some ((-1 : Int32), s) else (if l1 = (0 : Int32) then some (gI s 1152 0, s) else (if l1 = (1 : Int32) then some (gI s 1153 0, s) else (if l1 = (2 : Int32) then some (gI s 1154 0, s) else (if l1 = (3 : Int32) then some (gI s 1155 0, s) else (if l1 = (4 : Int32) then (cR_countOf ((0 : Int32)) ((1 : Int32)) s).bind (fun x7 => some (x7.1, x7.2)) else (if l1 = (5 : Int32) then (cR_countOf ((2 : Int32)) ((4 : Int32)) s).bind (fun x11 => some (x11.1, x11.2)) else (if l1 = (6 : Int32) then some (gI s 1156 0, s) else (if l1 = (7 : Int32) then some (gI s 1157 0, s) else (if l1 = (8 : Int32) then some (gI s 1161 0, s) else (if l1 = (9 : Int32) then some (gI s 1158 0, s) else (if l1 = (10 : Int32) then some (gI s 1159 0, s) else some ((-1 : Int32), s)))))))))))))))
set_option maxRecDepth 20000 in
theorem cR_state_ok {d : Nat} (l1 : Int32) (s : ts) (Q : Int32 × ts → Prop) (h : Ok (cR_state l1 s) Q) : am_Ev (d + 1) 250 (0, [(0, .ref 87), (1, .int (l1))], []) (lay s) (tq_i Q) := by
  unfold cR_state at h
  refine ev_iload_n (pc' := 1) m_250 rfl rfl rfl (ev_bipush (pc' := 3) (x := 11) m_250 rfl rfl rfl ?_)
  refine ev_icmp_eq (t := 12) (e := 6) m_250 rfl rfl rfl (fun c20 => ?_) (fun c20 => ?_)
  · replace h := Ok_t c20 h
    exact am_Ev.sub (L := [(0, .ref 87), (1, .int (l1))]) ⟨rfl, rfl, trivial⟩ (cR_state_12_ok l1 _ _ h)
  · replace h := Ok_f c20 h
    refine ev_iload_n (pc' := 7) m_250 rfl rfl rfl (ev_bipush (pc' := 9) (x := 12) m_250 rfl rfl rfl ?_)
    refine ev_icmp_ne (t := 30) (e := 12) m_250 rfl rfl rfl (fun c19 => ?_) (fun c19 => ?_)
    · replace h := Ok_f c19 h
      refine ev_aload_n (pc' := 31) m_250 rfl rfl rfl (tr_get (pc' := 34) (v := .int (gI _ 1102 _)) m_250 rfl rfl ts_o87 rfl rfl rfl ?_)
      refine ev_if_ne (t := 39) (e := 37) m_250 rfl rfl rfl (fun c18 => ?_) (fun c18 => ?_)
      · replace h := Ok_f c18 h
        refine ev_iload_n (pc' := 40) m_250 rfl rfl rfl ?_
        by_cases c1 : l1 = (0 : Int32)
        · replace h := Ok_t c1 h
          refine ev_sw (pc' := 100) m_250 rfl (by rw [c1]; rfl) ?_
          refine ev_aload_n (pc' := 101) m_250 rfl rfl rfl (tr_get (pc' := 104) (v := .int (gI _ 1152 _)) m_250 rfl rfl ts_o87 rfl rfl rfl ?_)
          exact tr_ri m_250 rfl rfl (Ok_s h)
        replace h := Ok_f c1 h
        by_cases c2 : l1 = (1 : Int32)
        · replace h := Ok_t c2 h
          refine ev_sw (pc' := 105) m_250 rfl (by rw [c2]; rfl) ?_
          refine ev_aload_n (pc' := 106) m_250 rfl rfl rfl (tr_get (pc' := 109) (v := .int (gI _ 1153 _)) m_250 rfl rfl ts_o87 rfl rfl rfl ?_)
          exact tr_ri m_250 rfl rfl (Ok_s h)
        replace h := Ok_f c2 h
        by_cases c3 : l1 = (2 : Int32)
        · replace h := Ok_t c3 h
          refine ev_sw (pc' := 110) m_250 rfl (by rw [c3]; rfl) ?_
          refine ev_aload_n (pc' := 111) m_250 rfl rfl rfl (tr_get (pc' := 114) (v := .int (gI _ 1154 _)) m_250 rfl rfl ts_o87 rfl rfl rfl ?_)
          exact tr_ri m_250 rfl rfl (Ok_s h)
        replace h := Ok_f c3 h
        by_cases c4 : l1 = (3 : Int32)
        · replace h := Ok_t c4 h
          refine ev_sw (pc' := 115) m_250 rfl (by rw [c4]; rfl) ?_
          refine ev_aload_n (pc' := 116) m_250 rfl rfl rfl (tr_get (pc' := 119) (v := .int (gI _ 1155 _)) m_250 rfl rfl ts_o87 rfl rfl rfl ?_)
          exact tr_ri m_250 rfl rfl (Ok_s h)
        replace h := Ok_f c4 h
        by_cases c8 : l1 = (4 : Int32)
        · replace h := Ok_t c8 h
          refine ev_sw (pc' := 120) m_250 rfl (by rw [c8]; rfl) ?_
          refine ev_aload_n (pc' := 121) m_250 rfl rfl rfl (ev_iconst (pc' := 122) (x := 0) m_250 rfl rfl rfl (ev_iconst (pc' := 123) (x := 1) m_250 rfl rfl rfl ?_))
          refine tr_ci (pc' := 126) m_250 rfl rfl rfl m_251 rfl rfl rfl rfl (tr_rcv ts_o87 rfl) rfl rfl (cR_countOf_ok ((0 : Int32)) ((1 : Int32)) _ _ (Ok_b h)) (fun x7_ x7_s h => ?_)
          exact tr_ri m_250 rfl rfl (Ok_s h)
        replace h := Ok_f c8 h
        by_cases c12 : l1 = (5 : Int32)
        · replace h := Ok_t c12 h
          refine ev_sw (pc' := 127) m_250 rfl (by rw [c12]; rfl) ?_
          refine ev_aload_n (pc' := 128) m_250 rfl rfl rfl (ev_iconst (pc' := 129) (x := 2) m_250 rfl rfl rfl (ev_iconst (pc' := 130) (x := 4) m_250 rfl rfl rfl ?_))
          refine tr_ci (pc' := 133) m_250 rfl rfl rfl m_251 rfl rfl rfl rfl (tr_rcv ts_o87 rfl) rfl rfl (cR_countOf_ok ((2 : Int32)) ((4 : Int32)) _ _ (Ok_b h)) (fun x11_ x11_s h => ?_)
          exact tr_ri m_250 rfl rfl (Ok_s h)
        replace h := Ok_f c12 h
        by_cases c13 : l1 = (6 : Int32)
        · replace h := Ok_t c13 h
          refine ev_sw (pc' := 134) m_250 rfl (by rw [c13]; rfl) ?_
          refine ev_aload_n (pc' := 135) m_250 rfl rfl rfl (tr_get (pc' := 138) (v := .int (gI _ 1156 _)) m_250 rfl rfl ts_o87 rfl rfl rfl ?_)
          exact tr_ri m_250 rfl rfl (Ok_s h)
        replace h := Ok_f c13 h
        by_cases c14 : l1 = (7 : Int32)
        · replace h := Ok_t c14 h
          refine ev_sw (pc' := 139) m_250 rfl (by rw [c14]; rfl) ?_
          refine ev_aload_n (pc' := 140) m_250 rfl rfl rfl (tr_get (pc' := 143) (v := .int (gI _ 1157 _)) m_250 rfl rfl ts_o87 rfl rfl rfl ?_)
          exact tr_ri m_250 rfl rfl (Ok_s h)
        replace h := Ok_f c14 h
        by_cases c15 : l1 = (8 : Int32)
        · replace h := Ok_t c15 h
          refine ev_sw (pc' := 144) m_250 rfl (by rw [c15]; rfl) ?_
          refine ev_aload_n (pc' := 145) m_250 rfl rfl rfl (tr_get (pc' := 148) (v := .int (gI _ 1161 _)) m_250 rfl rfl ts_o87 rfl rfl rfl ?_)
          exact tr_ri m_250 rfl rfl (Ok_s h)
        replace h := Ok_f c15 h
        by_cases c16 : l1 = (9 : Int32)
        · replace h := Ok_t c16 h
          refine ev_sw (pc' := 149) m_250 rfl (by rw [c16]; rfl) ?_
          refine ev_aload_n (pc' := 150) m_250 rfl rfl rfl (tr_get (pc' := 153) (v := .int (gI _ 1158 _)) m_250 rfl rfl ts_o87 rfl rfl rfl ?_)
          exact tr_ri m_250 rfl rfl (Ok_s h)
        replace h := Ok_f c16 h
        by_cases c17 : l1 = (10 : Int32)
        · replace h := Ok_t c17 h
          refine ev_sw (pc' := 154) m_250 rfl (by rw [c17]; rfl) ?_
          refine ev_aload_n (pc' := 155) m_250 rfl rfl rfl (tr_get (pc' := 158) (v := .int (gI _ 1159 _)) m_250 rfl rfl ts_o87 rfl rfl rfl ?_)
          exact tr_ri m_250 rfl rfl (Ok_s h)
        replace h := Ok_f c17 h
        refine ev_tdef (t := 159) m_250 rfl (by have := ts_nel (k := 0) c1 (by decide); have := ts_nel (k := 1) c2 (by decide); have := ts_nel (k := 2) c3 (by decide); have := ts_nel (k := 3) c4 (by decide); have := ts_nel (k := 4) c8 (by decide); have := ts_nel (k := 5) c12 (by decide); have := ts_nel (k := 6) c13 (by decide); have := ts_nel (k := 7) c14 (by decide); have := ts_nel (k := 8) c15 (by decide); have := ts_nel (k := 9) c16 (by decide); have := ts_nel (k := 10) c17 (by decide); omega) rfl ?_
        refine ev_iconst (pc' := 160) (x := -1) m_250 rfl rfl rfl ?_
        exact tr_ri m_250 rfl rfl (Ok_s h)
      · replace h := Ok_t c18 h
        refine ev_iconst (pc' := 38) (x := -1) m_250 rfl rfl rfl ?_
        exact tr_ri m_250 rfl rfl (Ok_s h)
    · replace h := Ok_t c19 h
      exact am_Ev.sub (L := [(0, .ref 87), (1, .int (l1))]) ⟨rfl, rfl, trivial⟩ (cR_state_12_ok l1 _ _ h)
def cX_number (l1 : Int32) (s : ts) : Option (Int32 × ts) := (if (gI s 6 0) = ((0 : Int32)) then some ((-2000000000 : Int32), s) else (if l1 < ((0 : Int32)) then some ((-2000000000 : Int32), s) else (if (gA s 16 ((2 : Int32)).toNatClampNeg) ≤ l1 then some ((-2000000000 : Int32), s) else (cW_numberAt l1 s).bind (fun x3 => some (x3.1, x3.2)))))
set_option maxRecDepth 20000 in
theorem cX_number_ok {d : Nat} (l1 : Int32) (s : ts) (Q : Int32 × ts → Prop) (h : Ok (cX_number l1 s) Q) : am_Ev (d + 1) 156 (0, [(0, .ref 5), (1, .int (l1))], []) (lay s) (tq_i Q) := by
  unfold cX_number at h
  refine ev_aload_n (pc' := 1) m_156 rfl rfl rfl (tr_get (pc' := 4) (v := .int (gI _ 6 _)) m_156 rfl rfl ts_o5 rfl rfl rfl ?_)
  refine ev_if_eq (t := 38) (e := 7) m_156 rfl rfl rfl (fun c6 => ?_) (fun c6 => ?_)
  · replace h := Ok_t c6 h
    refine tr_ldc (pc' := 40) m_156 rfl rfl rfl ?_
    exact tr_ri m_156 rfl rfl (Ok_s h)
  · replace h := Ok_f c6 h
    refine ev_iload_n (pc' := 8) m_156 rfl rfl rfl ?_
    refine ev_if_lt (t := 38) (e := 11) m_156 rfl rfl rfl (fun c5 => ?_) (fun c5 => ?_)
    · replace h := Ok_t c5 h
      refine tr_ldc (pc' := 40) m_156 rfl rfl rfl ?_
      exact tr_ri m_156 rfl rfl (Ok_s h)
    · replace h := Ok_f c5 h
      refine ev_iload_n (pc' := 12) m_156 rfl rfl rfl (ev_aload_n (pc' := 13) m_156 rfl rfl rfl (tr_get (pc' := 16) (v := .ref 12) m_156 rfl rfl ts_o5 rfl rfl rfl (tr_get (pc' := 19) (v := .ref 16) m_156 rfl rfl ts_o12 rfl rfl rfl (ev_iconst (pc' := 20) (x := 2) m_156 rfl rfl rfl (tr_iald (pc' := 21) m_156 rfl rfl rfl rfl rfl ?_)))))
      refine ev_icmp_ge (t := 38) (e := 24) m_156 rfl rfl rfl (fun c4 => ?_) (fun c4 => ?_)
      · replace h := Ok_t c4 h
        refine tr_ldc (pc' := 40) m_156 rfl rfl rfl ?_
        exact tr_ri m_156 rfl rfl (Ok_s h)
      · replace h := Ok_f c4 h
        refine ev_aload_n (pc' := 25) m_156 rfl rfl rfl (tr_get (pc' := 28) (v := .ref 34) m_156 rfl rfl ts_o5 rfl rfl rfl (tr_get (pc' := 31) (v := .ref 35) m_156 rfl rfl ts_o34 rfl rfl rfl (ev_iload_n (pc' := 32) m_156 rfl rfl rfl ?_)))
        refine tr_ci (pc' := 35) m_156 rfl rfl rfl m_116 rfl rfl rfl rfl (tr_rcv ts_o35 rfl) rfl rfl (cW_numberAt_ok l1 _ _ (Ok_b h)) (fun x3_ x3_s h => ?_)
        refine ev_goto (pc' := 40) m_156 rfl rfl ?_
        exact tr_ri m_156 rfl rfl (Ok_s h)
def cR_number (l1 : Int32) (s : ts) : Option (Int32 × ts) := (if (gI s 1102 0) = ((0 : Int32)) then some ((-2000000000 : Int32), s) else (if l1 < ((0 : Int32)) then some ((-2000000000 : Int32), s) else (if l1 < (gI s 1117 0) then (if am_idx l1 16 = true then some (gA s 118 l1.toNatClampNeg, s) else none) else some ((-2000000000 : Int32), s))))
set_option maxRecDepth 20000 in
theorem cR_number_ok {d : Nat} (l1 : Int32) (s : ts) (Q : Int32 × ts → Prop) (h : Ok (cR_number l1 s) Q) : am_Ev (d + 0) 252 (0, [(0, .ref 87), (1, .int (l1))], []) (lay s) (tq_i Q) := by
  unfold cR_number at h
  refine ev_aload_n (pc' := 1) m_252 rfl rfl rfl (tr_get (pc' := 4) (v := .int (gI _ 1102 _)) m_252 rfl rfl ts_o87 rfl rfl rfl ?_)
  refine ev_if_eq (t := 19) (e := 7) m_252 rfl rfl rfl (fun c4 => ?_) (fun c4 => ?_)
  · replace h := Ok_t c4 h
    refine tr_ldcw (pc' := 22) m_252 rfl rfl rfl (ev_goto (pc' := 31) m_252 rfl rfl ?_)
    exact tr_ri m_252 rfl rfl (Ok_s h)
  · replace h := Ok_f c4 h
    refine ev_iload_n (pc' := 8) m_252 rfl rfl rfl ?_
    refine ev_if_lt (t := 19) (e := 11) m_252 rfl rfl rfl (fun c3 => ?_) (fun c3 => ?_)
    · replace h := Ok_t c3 h
      refine tr_ldcw (pc' := 22) m_252 rfl rfl rfl (ev_goto (pc' := 31) m_252 rfl rfl ?_)
      exact tr_ri m_252 rfl rfl (Ok_s h)
    · replace h := Ok_f c3 h
      refine ev_iload_n (pc' := 12) m_252 rfl rfl rfl (ev_aload_n (pc' := 13) m_252 rfl rfl rfl (tr_get (pc' := 16) (v := .int (gI _ 1117 _)) m_252 rfl rfl ts_o87 rfl rfl rfl ?_))
      refine ev_icmp_lt (t := 25) (e := 19) m_252 rfl rfl rfl (fun c2 => ?_) (fun c2 => ?_)
      · replace h := Ok_t c2 h
        refine ev_aload_n (pc' := 26) m_252 rfl rfl rfl (tr_get (pc' := 29) (v := .ref 118) m_252 rfl rfl ts_o87 rfl rfl rfl (ev_iload_n (pc' := 30) m_252 rfl rfl rfl ?_))
        obtain ⟨g1, h⟩ := Ok_g h
        refine tr_iald (pc' := 31) m_252 rfl rfl rfl g1 rfl ?_
        exact tr_ri m_252 rfl rfl (Ok_s h)
      · replace h := Ok_f c2 h
        refine tr_ldcw (pc' := 22) m_252 rfl rfl rfl (ev_goto (pc' := 31) m_252 rfl rfl ?_)
        exact tr_ri m_252 rfl rfl (Ok_s h)
def cP_isInCalendar (l0 : Nat) (s : ts) : Option (Int32 × ts) := (if l0 < gM s then (if (gI s 502 l0) = ((0 : Int32)) then some ((1 : Int32), s) else (if (gI s 502 l0) = ((1 : Int32)) then some ((1 : Int32), s) else some ((0 : Int32), s))) else none)
set_option maxRecDepth 20000 in
theorem cP_isInCalendar_ok {d : Nat} (l0 : Nat) (s : ts) (Q : Int32 × ts → Prop) (h : Ok (cP_isInCalendar l0 s) Q) : am_Ev (d + 0) 159 (0, [(0, .ref (pB l0))], []) (lay s) (tq_i Q) := by
  unfold cP_isInCalendar at h
  refine ev_aload_n (pc' := 1) m_159 rfl rfl rfl ?_
  obtain ⟨g1, h⟩ := Ok_g h
  refine tr_get (pc' := 4) (v := .int (gI _ 502 _)) m_159 rfl rfl (ts_obB g1) rfl rfl rfl ?_
  refine ev_if_eq (t := 15) (e := 7) m_159 rfl rfl rfl (fun c3 => ?_) (fun c3 => ?_)
  · replace h := Ok_t c3 h
    refine ev_iconst (pc' := 16) (x := 1) m_159 rfl rfl rfl (ev_goto (pc' := 20) m_159 rfl rfl ?_)
    exact tr_rz m_159 rfl rfl (Or.inr rfl) (Ok_s h)
  · replace h := Ok_f c3 h
    refine ev_aload_n (pc' := 8) m_159 rfl rfl rfl (tr_get (pc' := 11) (v := .int (gI _ 502 _)) m_159 rfl rfl (ts_obB g1) rfl rfl rfl (ev_iconst (pc' := 12) (x := 1) m_159 rfl rfl rfl ?_))
    refine ev_icmp_ne (t := 19) (e := 15) m_159 rfl rfl rfl (fun c2 => ?_) (fun c2 => ?_)
    · replace h := Ok_f c2 h
      refine ev_iconst (pc' := 20) (x := 0) m_159 rfl rfl rfl ?_
      exact tr_rz m_159 rfl rfl (Or.inl rfl) (Ok_s h)
    · replace h := Ok_t c2 h
      refine ev_iconst (pc' := 16) (x := 1) m_159 rfl rfl rfl (ev_goto (pc' := 20) m_159 rfl rfl ?_)
      exact tr_rz m_159 rfl rfl (Or.inr rfl) (Ok_s h)
def cG_outerPlace (l1 : Int32) (s : ts) : Option (Int32 × ts) := (if ((8 : Int32)) ≤ l1 then some (((gA s 16 ((0 : Int32)).toNatClampNeg) + l1) - ((8 : Int32)), s) else some (l1, s))
set_option maxRecDepth 20000 in
theorem cG_outerPlace_ok {d : Nat} (l1 : Int32) (s : ts) (Q : Int32 × ts → Prop) (h : Ok (cG_outerPlace l1 s) Q) : am_Ev (d + 0) 160 (0, [(0, .ref 12), (1, .int (l1))], []) (lay s) (tq_i Q) := by
  unfold cG_outerPlace at h
  refine ev_iload_n (pc' := 1) m_160 rfl rfl rfl (ev_bipush (pc' := 3) (x := 8) m_160 rfl rfl rfl ?_)
  refine ev_icmp_ge (t := 10) (e := 6) m_160 rfl rfl rfl (fun c1 => ?_) (fun c1 => ?_)
  · replace h := Ok_t c1 h
    refine ev_aload_n (pc' := 11) m_160 rfl rfl rfl (tr_get (pc' := 14) (v := .ref 16) m_160 rfl rfl ts_o12 rfl rfl rfl (ev_iconst (pc' := 15) (x := 0) m_160 rfl rfl rfl (tr_iald (pc' := 16) m_160 rfl rfl rfl rfl rfl (ev_iload_n (pc' := 17) m_160 rfl rfl rfl (ev_iadd (pc' := 18) m_160 rfl rfl (ev_bipush (pc' := 20) (x := 8) m_160 rfl rfl rfl (ev_isub (pc' := 21) m_160 rfl rfl ?_)))))))
    exact tr_ri m_160 rfl rfl (Ok_s h)
  · replace h := Ok_f c1 h
    refine ev_iload_n (pc' := 7) m_160 rfl rfl rfl (ev_goto (pc' := 21) m_160 rfl rfl ?_)
    exact tr_ri m_160 rfl rfl (Ok_s h)
def cP_unitsInAll_4_b (kk : Nat → Int32 → Int32 → ts → Option (Int32 × ts)) (l0 : Nat) (l1 : Int32) (l2 : Int32) (s : ts) : Option (Int32 × ts) := (if ((8 : Int32)) ≤ l2 then some (l1, s) else (if l0 < gM s then (if am_idx l2 8 = true then kk l0 (l1 + (gU s l0 l2.toNatClampNeg)) (l2 + (1 : Int32)) s else none) else none))
def cP_unitsInAll_4 : Nat → Nat → Int32 → Int32 → ts → Option (Int32 × ts)
  | 0, _, _, _, _ => none
  | n + 1, l0, l1, l2, s => cP_unitsInAll_4_b (cP_unitsInAll_4 n) l0 l1 l2 s
set_option maxRecDepth 20000 in
theorem cP_unitsInAll_4_ok {d : Nat} : ∀ (n : Nat) (l0 : Nat) (l1 : Int32) (l2 : Int32) (s : ts) (Q : Int32 × ts → Prop), Ok (cP_unitsInAll_4 n l0 l1 l2 s) Q → am_Ev (d + 0) 161 (4, [(0, .ref (pB l0)), (1, .int (l1)), (2, .int (l2))], []) (lay s) (tq_i Q) := by
  intro n
  induction n with
  | zero => intro l0 l1 l2 s Q h; exact Ok_n h
  | succ n ih =>
    intro l0 l1 l2 s Q h
    rw [cP_unitsInAll_4.eq_2] at h
    unfold cP_unitsInAll_4_b at h
    refine ev_iload_n (pc' := 5) m_161 rfl rfl rfl (ev_bipush (pc' := 7) (x := 8) m_161 rfl rfl rfl ?_)
    refine ev_icmp_ge (t := 25) (e := 10) m_161 rfl rfl rfl (fun c3 => ?_) (fun c3 => ?_)
    · replace h := Ok_t c3 h
      refine ev_iload_n (pc' := 26) m_161 rfl rfl rfl ?_
      exact tr_ri m_161 rfl rfl (Ok_s h)
    · replace h := Ok_f c3 h
      refine ev_iload_n (pc' := 11) m_161 rfl rfl rfl (ev_aload_n (pc' := 12) m_161 rfl rfl rfl ?_)
      obtain ⟨g1, h⟩ := Ok_g h
      refine tr_get (pc' := 15) (v := .ref (pU l0)) m_161 rfl rfl (ts_obB g1) rfl rfl rfl (ev_iload_n (pc' := 16) m_161 rfl rfl rfl ?_)
      obtain ⟨g2, h⟩ := Ok_g h
      refine tr_uald (pc' := 17) m_161 rfl g1 g2 rfl (ev_iadd (pc' := 18) m_161 rfl rfl (ev_istore_n (pc' := 19) m_161 rfl rfl rfl rfl (ev_iinc (pc' := 22) (z := 1) m_161 rfl rfl rfl rfl rfl rfl (ev_goto (pc' := 4) m_161 rfl rfl ?_))))
      exact am_Ev.sub (L := [(0, .ref (pB l0)), (1, .int (l1 + (gU s l0 l2.toNatClampNeg))), (2, .int (l2 + (1 : Int32)))]) ⟨rfl, rfl, rfl, trivial⟩ (ih l0 (l1 + (gU s l0 l2.toNatClampNeg)) (l2 + (1 : Int32)) _ _ h)
def cP_unitsInAll (l0 : Nat) (s : ts) : Option (Int32 × ts) := cP_unitsInAll_4 tm_N l0 ((0 : Int32)) ((0 : Int32)) s
set_option maxRecDepth 20000 in
theorem cP_unitsInAll_ok {d : Nat} (l0 : Nat) (s : ts) (Q : Int32 × ts → Prop) (h : Ok (cP_unitsInAll l0 s) Q) : am_Ev (d + 0) 161 (0, [(0, .ref (pB l0))], []) (lay s) (tq_i Q) := by
  unfold cP_unitsInAll at h
  refine ev_iconst (pc' := 1) (x := 0) m_161 rfl rfl rfl (ev_istore_n (pc' := 2) m_161 rfl rfl rfl rfl (ev_iconst (pc' := 3) (x := 0) m_161 rfl rfl rfl (ev_istore_n (pc' := 4) m_161 rfl rfl rfl rfl ?_)))
  exact am_Ev.sub (L := [(0, .ref (pB l0)), (1, .int ((0 : Int32))), (2, .int ((0 : Int32)))]) ⟨rfl, rfl, rfl, trivial⟩ (cP_unitsInAll_4_ok tm_N l0 ((0 : Int32)) ((0 : Int32)) _ _ h)
