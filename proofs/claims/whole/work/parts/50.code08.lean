/-! THE METHODS AS FUNCTIONS, printed by wip/tools/decomp.py; the machine does what they say. -/
def cR_taken_5_b (kk : Int32 → Int32 → ts → Option (Int32 × ts)) (l1 : Int32) (l2 : Int32) (s : ts) : Option (Int32 × ts) := (if (gI s 1155 0) ≤ l2 then some (l1, s) else (if am_idx l2 300 = true then (if ((2 : Int32)) ≤ (gA s 120 l2.toNatClampNeg) then kk l1 (l2 + (1 : Int32)) s else (if l1 = ((-2 : Int32)) then kk l2 (l2 + (1 : Int32)) s else (if am_idx l1 300 = true then (if (gA s 122 l2.toNatClampNeg) < (gA s 122 l1.toNatClampNeg) then kk l2 (l2 + (1 : Int32)) s else (if (gA s 122 l2.toNatClampNeg) = (gA s 122 l1.toNatClampNeg) then (if ((0 : Int32)) ≤ (lg_cmp (gB s 123 l2.toNatClampNeg) (gB s 123 l1.toNatClampNeg)) then kk l1 (l2 + (1 : Int32)) s else kk l2 (l2 + (1 : Int32)) s) else kk l1 (l2 + (1 : Int32)) s)) else none))) else none))
def cR_taken_5 : Nat → Int32 → Int32 → ts → Option (Int32 × ts)
  | 0, _, _, _ => none
  | n + 1, l1, l2, s => cR_taken_5_b (cR_taken_5 n) l1 l2 s
set_option maxRecDepth 20000 in
theorem cR_taken_5_ok {d : Nat} : ∀ (n : Nat) (l1 : Int32) (l2 : Int32) (s : ts) (Q : Int32 × ts → Prop), Ok (cR_taken_5 n l1 l2 s) Q → am_Ev (d + 0) 224 (5, [(0, .ref 87), (1, .int (l1)), (2, .int (l2))], []) (lay s) (tq_i Q) := by
  intro n
  induction n with
  | zero => intro l1 l2 s Q h; exact Ok_n h
  | succ n ih =>
    intro l1 l2 s Q h
    rw [cR_taken_5.eq_2] at h
    unfold cR_taken_5_b at h
    refine ev_iload_n (pc' := 6) m_224 rfl rfl rfl (ev_aload_n (pc' := 7) m_224 rfl rfl rfl (tr_get (pc' := 10) (v := .int (gI _ 1155 _)) m_224 rfl rfl ts_o87 rfl rfl rfl ?_))
    refine ev_icmp_ge (t := 83) (e := 13) m_224 rfl rfl rfl (fun c8 => ?_) (fun c8 => ?_)
    · replace h := Ok_t c8 h
      refine ev_iload_n (pc' := 84) m_224 rfl rfl rfl ?_
      exact tr_ri m_224 rfl rfl (Ok_s h)
    · replace h := Ok_f c8 h
      refine ev_aload_n (pc' := 14) m_224 rfl rfl rfl (tr_get (pc' := 17) (v := .ref 120) m_224 rfl rfl ts_o87 rfl rfl rfl (ev_iload_n (pc' := 18) m_224 rfl rfl rfl ?_))
      obtain ⟨g1, h⟩ := Ok_g h
      refine tr_iald (pc' := 19) m_224 rfl rfl rfl g1 rfl (ev_iconst (pc' := 20) (x := 2) m_224 rfl rfl rfl ?_)
      refine ev_icmp_ge (t := 77) (e := 23) m_224 rfl rfl rfl (fun c7 => ?_) (fun c7 => ?_)
      · replace h := Ok_t c7 h
        refine ev_iinc (pc' := 80) (z := 1) m_224 rfl rfl rfl rfl rfl rfl (ev_goto (pc' := 5) m_224 rfl rfl ?_)
        exact am_Ev.sub (L := [(0, .ref 87), (1, .int (l1)), (2, .int (l2 + (1 : Int32)))]) ⟨rfl, rfl, rfl, trivial⟩ (ih l1 (l2 + (1 : Int32)) _ _ h)
      · replace h := Ok_f c7 h
        refine ev_iload_n (pc' := 24) m_224 rfl rfl rfl (ev_bipush (pc' := 26) (x := -2) m_224 rfl rfl rfl ?_)
        refine ev_icmp_eq (t := 75) (e := 29) m_224 rfl rfl rfl (fun c6 => ?_) (fun c6 => ?_)
        · replace h := Ok_t c6 h
          refine ev_iload_n (pc' := 76) m_224 rfl rfl rfl (ev_istore_n (pc' := 77) m_224 rfl rfl rfl rfl (ev_iinc (pc' := 80) (z := 1) m_224 rfl rfl rfl rfl rfl rfl (ev_goto (pc' := 5) m_224 rfl rfl ?_)))
          exact am_Ev.sub (L := [(0, .ref 87), (1, .int (l2)), (2, .int (l2 + (1 : Int32)))]) ⟨rfl, rfl, rfl, trivial⟩ (ih l2 (l2 + (1 : Int32)) _ _ h)
        · replace h := Ok_f c6 h
          refine ev_aload_n (pc' := 30) m_224 rfl rfl rfl (tr_get (pc' := 33) (v := .ref 122) m_224 rfl rfl ts_o87 rfl rfl rfl (ev_iload_n (pc' := 34) m_224 rfl rfl rfl (tr_iald (pc' := 35) m_224 rfl rfl rfl g1 rfl (ev_aload_n (pc' := 36) m_224 rfl rfl rfl (tr_get (pc' := 39) (v := .ref 122) m_224 rfl rfl ts_o87 rfl rfl rfl (ev_iload_n (pc' := 40) m_224 rfl rfl rfl ?_))))))
          obtain ⟨g2, h⟩ := Ok_g h
          refine tr_iald (pc' := 41) m_224 rfl rfl rfl g2 rfl ?_
          refine ev_icmp_lt (t := 75) (e := 44) m_224 rfl rfl rfl (fun c5 => ?_) (fun c5 => ?_)
          · replace h := Ok_t c5 h
            refine ev_iload_n (pc' := 76) m_224 rfl rfl rfl (ev_istore_n (pc' := 77) m_224 rfl rfl rfl rfl (ev_iinc (pc' := 80) (z := 1) m_224 rfl rfl rfl rfl rfl rfl (ev_goto (pc' := 5) m_224 rfl rfl ?_)))
            exact am_Ev.sub (L := [(0, .ref 87), (1, .int (l2)), (2, .int (l2 + (1 : Int32)))]) ⟨rfl, rfl, rfl, trivial⟩ (ih l2 (l2 + (1 : Int32)) _ _ h)
          · replace h := Ok_f c5 h
            refine ev_aload_n (pc' := 45) m_224 rfl rfl rfl (tr_get (pc' := 48) (v := .ref 122) m_224 rfl rfl ts_o87 rfl rfl rfl (ev_iload_n (pc' := 49) m_224 rfl rfl rfl (tr_iald (pc' := 50) m_224 rfl rfl rfl g1 rfl (ev_aload_n (pc' := 51) m_224 rfl rfl rfl (tr_get (pc' := 54) (v := .ref 122) m_224 rfl rfl ts_o87 rfl rfl rfl (ev_iload_n (pc' := 55) m_224 rfl rfl rfl (tr_iald (pc' := 56) m_224 rfl rfl rfl g2 rfl ?_)))))))
            refine ev_icmp_ne (t := 77) (e := 59) m_224 rfl rfl rfl (fun c4 => ?_) (fun c4 => ?_)
            · replace h := Ok_f c4 h
              refine ev_iinc (pc' := 80) (z := 1) m_224 rfl rfl rfl rfl rfl rfl (ev_goto (pc' := 5) m_224 rfl rfl ?_)
              exact am_Ev.sub (L := [(0, .ref 87), (1, .int (l1)), (2, .int (l2 + (1 : Int32)))]) ⟨rfl, rfl, rfl, trivial⟩ (ih l1 (l2 + (1 : Int32)) _ _ h)
            · replace h := Ok_t c4 h
              refine ev_aload_n (pc' := 60) m_224 rfl rfl rfl (tr_get (pc' := 63) (v := .ref 123) m_224 rfl rfl ts_o87 rfl rfl rfl (ev_iload_n (pc' := 64) m_224 rfl rfl rfl (tr_lald (pc' := 65) m_224 rfl rfl rfl g1 rfl (ev_aload_n (pc' := 66) m_224 rfl rfl rfl (tr_get (pc' := 69) (v := .ref 123) m_224 rfl rfl ts_o87 rfl rfl rfl (ev_iload_n (pc' := 70) m_224 rfl rfl rfl (tr_lald (pc' := 71) m_224 rfl rfl rfl g2 rfl ?_)))))))
              refine ev_lcmp (pc' := 72) m_224 rfl rfl ?_
              refine ev_if_ge (t := 77) (e := 75) m_224 rfl rfl rfl (fun c3 => ?_) (fun c3 => ?_)
              · replace h := Ok_t c3 h
                refine ev_iinc (pc' := 80) (z := 1) m_224 rfl rfl rfl rfl rfl rfl (ev_goto (pc' := 5) m_224 rfl rfl ?_)
                exact am_Ev.sub (L := [(0, .ref 87), (1, .int (l1)), (2, .int (l2 + (1 : Int32)))]) ⟨rfl, rfl, rfl, trivial⟩ (ih l1 (l2 + (1 : Int32)) _ _ h)
              · replace h := Ok_f c3 h
                refine ev_iload_n (pc' := 76) m_224 rfl rfl rfl (ev_istore_n (pc' := 77) m_224 rfl rfl rfl rfl (ev_iinc (pc' := 80) (z := 1) m_224 rfl rfl rfl rfl rfl rfl (ev_goto (pc' := 5) m_224 rfl rfl ?_)))
                exact am_Ev.sub (L := [(0, .ref 87), (1, .int (l2)), (2, .int (l2 + (1 : Int32)))]) ⟨rfl, rfl, rfl, trivial⟩ (ih l2 (l2 + (1 : Int32)) _ _ h)
def cR_taken (s : ts) : Option (Int32 × ts) := cR_taken_5 tm_N ((-2 : Int32)) ((0 : Int32)) s
set_option maxRecDepth 20000 in
theorem cR_taken_ok {d : Nat} (s : ts) (Q : Int32 × ts → Prop) (h : Ok (cR_taken s) Q) : am_Ev (d + 0) 224 (0, [(0, .ref 87)], []) (lay s) (tq_i Q) := by
  unfold cR_taken at h
  refine ev_bipush (pc' := 2) (x := -2) m_224 rfl rfl rfl (ev_istore_n (pc' := 3) m_224 rfl rfl rfl rfl (ev_iconst (pc' := 4) (x := 0) m_224 rfl rfl rfl (ev_istore_n (pc' := 5) m_224 rfl rfl rfl rfl ?_)))
  exact am_Ev.sub (L := [(0, .ref 87), (1, .int ((-2 : Int32))), (2, .int ((0 : Int32)))]) ⟨rfl, rfl, rfl, trivial⟩ (cR_taken_5_ok tm_N ((-2 : Int32)) ((0 : Int32)) _ _ h)
def cR_waitingAt (l1 : Int32) (s : ts) : Option (Int32 × ts) := (if am_idx l1 28 = true then (if am_idx (((14 : Int32)) + l1) 28 = true then some ((gA s 136 l1.toNatClampNeg) + (gA s 136 (((14 : Int32)) + l1).toNatClampNeg), s) else none) else none)
set_option maxRecDepth 20000 in
theorem cR_waitingAt_ok {d : Nat} (l1 : Int32) (s : ts) (Q : Int32 × ts → Prop) (h : Ok (cR_waitingAt l1 s) Q) : am_Ev (d + 0) 226 (0, [(0, .ref 87), (1, .int (l1))], []) (lay s) (tq_i Q) := by
  unfold cR_waitingAt at h
  refine ev_aload_n (pc' := 1) m_226 rfl rfl rfl (tr_get (pc' := 4) (v := .ref 136) m_226 rfl rfl ts_o87 rfl rfl rfl (ev_iload_n (pc' := 5) m_226 rfl rfl rfl ?_))
  obtain ⟨g1, h⟩ := Ok_g h
  refine tr_iald (pc' := 6) m_226 rfl rfl rfl g1 rfl (ev_aload_n (pc' := 7) m_226 rfl rfl rfl (tr_get (pc' := 10) (v := .ref 136) m_226 rfl rfl ts_o87 rfl rfl rfl (ev_bipush (pc' := 12) (x := 14) m_226 rfl rfl rfl (ev_iload_n (pc' := 13) m_226 rfl rfl rfl (ev_iadd (pc' := 14) m_226 rfl rfl ?_)))))
  obtain ⟨g2, h⟩ := Ok_g h
  refine tr_iald (pc' := 15) m_226 rfl rfl rfl g2 rfl (ev_iadd (pc' := 16) m_226 rfl rfl ?_)
  exact tr_ri m_226 rfl rfl (Ok_s h)
def cR_goOn_64 (k2 : Int32 → Int32 → ts → Option (ts)) (l1 : Int32) (l2 : Int32) (l3 : Int64) (t1 : Int32) (t2 : Int64) (t3 : Int64) (t4 : Int32) (s : ts) : Option (ts) := (if am_idx t1 14 = true then (if am_idx l2 14 = true then (cR_waitingAt l2 (wB s 133 t1.toNatClampNeg (t2 + (t3 * t4.toInt64)))).bind (fun x5 => k2 l1 (l2 + (1 : Int32)) (wB x5.2 134 l2.toNatClampNeg ((gB (wB s 133 t1.toNatClampNeg (t2 + (t3 * t4.toInt64))) 134 l2.toNatClampNeg) + (l3 * x5.1.toInt64)))) else none) else none)
set_option maxRecDepth 20000 in
theorem cR_goOn_64_ok {d : Nat} (k2 : Int32 → Int32 → ts → Option (ts)) (hk2 : ∀ (l1 : Int32) (l2 : Int32) (s : ts) (Q : ts → Prop), Ok (k2 l1 l2 s) Q → am_Ev (d + 1) 225 (2, [(0, .ref 87), (1, .int (l1)), (2, .int (l2))], []) (lay s) (tq_v Q)) (l1 : Int32) (l2 : Int32) (l3 : Int64) (t1 : Int32) (t2 : Int64) (t3 : Int64) (t4 : Int32) (s : ts) (Q : ts → Prop) (h : Ok (cR_goOn_64 k2 l1 l2 l3 t1 t2 t3 t4 s) Q) : am_Ev (d + 1) 225 (64, [(0, .ref 87), (1, .int (l1)), (2, .int (l2)), (3, .long (l3))], [.int (t4), .long (t3), .long (t2), .int (t1), .ref 133]) (lay s) (tq_v Q) := by
  unfold cR_goOn_64 at h
  refine ev_i2l (pc' := 65) m_225 rfl rfl (ev_lmul (pc' := 66) m_225 rfl rfl (ev_ladd (pc' := 67) m_225 rfl rfl ?_))
  obtain ⟨g1, h⟩ := Ok_g h
  refine tr_last (pc' := 68) m_225 rfl rfl rfl g1 rfl (ev_aload_n (pc' := 69) m_225 rfl rfl rfl (tr_get (pc' := 72) (v := .ref 134) m_225 rfl rfl ts_o87 rfl rfl rfl (ev_iload_n (pc' := 73) m_225 rfl rfl rfl (ev_dup2 (pc' := 74) m_225 rfl ⟨rfl, rfl⟩ rfl ?_))))
  obtain ⟨g2, h⟩ := Ok_g h
  refine tr_lald (pc' := 75) m_225 rfl rfl rfl g2 rfl (ev_lload_n (pc' := 76) m_225 rfl rfl rfl (ev_aload_n (pc' := 77) m_225 rfl rfl rfl (ev_iload_n (pc' := 78) m_225 rfl rfl rfl ?_)))
  refine tr_ci (pc' := 81) m_225 rfl rfl rfl m_226 rfl rfl rfl rfl (tr_rcv ts_o87 rfl) rfl rfl (cR_waitingAt_ok l2 _ _ (Ok_b h)) (fun x5_ x5_s h => ?_)
  refine ev_i2l (pc' := 82) m_225 rfl rfl (ev_lmul (pc' := 83) m_225 rfl rfl (ev_ladd (pc' := 84) m_225 rfl rfl (tr_last (pc' := 85) m_225 rfl rfl rfl g2 rfl (ev_iinc (pc' := 88) (z := 1) m_225 rfl rfl rfl rfl rfl rfl (ev_goto (pc' := 2) m_225 rfl rfl ?_)))))
  exact am_Ev.sub (L := [(0, .ref 87), (1, .int (l1)), (2, .int (l2 + (1 : Int32)))]) ⟨rfl, rfl, rfl, trivial⟩ (hk2 l1 (l2 + (1 : Int32)) _ _ h)
def cR_goOn_2_b (kk : Int32 → Int32 → ts → Option (ts)) (l1 : Int32) (l2 : Int32) (s : ts) : Option (ts) := (if ((14 : Int32)) ≤ l2 then some (wI s 1152 0 l1) else (if am_idx l2 14 = true then (if ((8 : Int32)) ≤ l2 then cR_goOn_64 kk l1 l2 ((l1 - (gI s 1152 0)).toInt64) l2 (gB s 133 l2.toNatClampNeg) ((l1 - (gI s 1152 0)).toInt64) (gA s 129 l2.toNatClampNeg) s else (if (gI s 1110 0) ≤ l2 then cR_goOn_64 kk l1 l2 ((l1 - (gI s 1152 0)).toInt64) l2 (gB s 133 l2.toNatClampNeg) ((l1 - (gI s 1152 0)).toInt64) (((0 : Int32)) - (gA s 129 l2.toNatClampNeg)) s else (if am_idx l2 8 = true then cR_goOn_64 kk l1 l2 ((l1 - (gI s 1152 0)).toInt64) l2 (gB s 133 l2.toNatClampNeg) ((l1 - (gI s 1152 0)).toInt64) ((gA s 90 l2.toNatClampNeg) - (gA s 129 l2.toNatClampNeg)) s else none))) else none))
def cR_goOn_2 : Nat → Int32 → Int32 → ts → Option (ts)
  | 0, _, _, _ => none
  | n + 1, l1, l2, s => cR_goOn_2_b (cR_goOn_2 n) l1 l2 s
set_option maxRecDepth 20000 in
theorem cR_goOn_2_ok {d : Nat} : ∀ (n : Nat) (l1 : Int32) (l2 : Int32) (s : ts) (Q : ts → Prop), Ok (cR_goOn_2 n l1 l2 s) Q → am_Ev (d + 1) 225 (2, [(0, .ref 87), (1, .int (l1)), (2, .int (l2))], []) (lay s) (tq_v Q) := by
  intro n
  induction n with
  | zero => intro l1 l2 s Q h; exact Ok_n h
  | succ n ih =>
    intro l1 l2 s Q h
    rw [cR_goOn_2.eq_2] at h
    unfold cR_goOn_2_b at h
    refine ev_iload_n (pc' := 3) m_225 rfl rfl rfl (ev_bipush (pc' := 5) (x := 14) m_225 rfl rfl rfl ?_)
    refine ev_icmp_ge (t := 91) (e := 8) m_225 rfl rfl rfl (fun c5 => ?_) (fun c5 => ?_)
    · replace h := Ok_t c5 h
      refine ev_aload_n (pc' := 92) m_225 rfl rfl rfl (ev_iload_n (pc' := 93) m_225 rfl rfl rfl (tr_pI (pc' := 96) (f := 1152) m_225 rfl rfl rfl ts_o87 rfl rfl rfl rfl ?_))
      exact tr_rv m_225 rfl rfl (Ok_s h)
    · replace h := Ok_f c5 h
      refine ev_iload_n (pc' := 9) m_225 rfl rfl rfl (ev_aload_n (pc' := 10) m_225 rfl rfl rfl (tr_get (pc' := 13) (v := .int (gI _ 1152 _)) m_225 rfl rfl ts_o87 rfl rfl rfl (ev_isub (pc' := 14) m_225 rfl rfl (ev_i2l (pc' := 15) m_225 rfl rfl (ev_lstore_n (pc' := 16) m_225 rfl rfl rfl rfl (ev_aload_n (pc' := 17) m_225 rfl rfl rfl (tr_get (pc' := 20) (v := .ref 133) m_225 rfl rfl ts_o87 rfl rfl rfl ?_)))))))
      refine ev_iload_n (pc' := 21) m_225 rfl rfl rfl (ev_dup2 (pc' := 22) m_225 rfl ⟨rfl, rfl⟩ rfl ?_)
      obtain ⟨g1, h⟩ := Ok_g h
      refine tr_lald (pc' := 23) m_225 rfl rfl rfl g1 rfl (ev_lload_n (pc' := 24) m_225 rfl rfl rfl (ev_iload_n (pc' := 25) m_225 rfl rfl rfl (ev_bipush (pc' := 27) (x := 8) m_225 rfl rfl rfl ?_)))
      refine ev_icmp_ge (t := 58) (e := 30) m_225 rfl rfl rfl (fun c4 => ?_) (fun c4 => ?_)
      · replace h := Ok_t c4 h
        refine ev_aload_n (pc' := 59) m_225 rfl rfl rfl (tr_get (pc' := 62) (v := .ref 129) m_225 rfl rfl ts_o87 rfl rfl rfl (ev_iload_n (pc' := 63) m_225 rfl rfl rfl (tr_iald (pc' := 64) m_225 rfl rfl rfl g1 rfl ?_)))
        exact am_Ev.sub (L := [(0, .ref 87), (1, .int (l1)), (2, .int (l2)), (3, .long ((l1 - (gI s 1152 0)).toInt64))]) ⟨rfl, rfl, rfl, rfl, trivial⟩ (cR_goOn_64_ok (cR_goOn_2 n) ih l1 l2 ((l1 - (gI s 1152 0)).toInt64) l2 (gB s 133 l2.toNatClampNeg) ((l1 - (gI s 1152 0)).toInt64) (gA s 129 l2.toNatClampNeg) _ _ h)
      · replace h := Ok_f c4 h
        refine ev_iload_n (pc' := 31) m_225 rfl rfl rfl (ev_aload_n (pc' := 32) m_225 rfl rfl rfl (tr_get (pc' := 35) (v := .int (gI _ 1110 _)) m_225 rfl rfl ts_o87 rfl rfl rfl ?_))
        refine ev_icmp_ge (t := 47) (e := 38) m_225 rfl rfl rfl (fun c3 => ?_) (fun c3 => ?_)
        · replace h := Ok_t c3 h
          refine ev_iconst (pc' := 48) (x := 0) m_225 rfl rfl rfl (ev_aload_n (pc' := 49) m_225 rfl rfl rfl (tr_get (pc' := 52) (v := .ref 129) m_225 rfl rfl ts_o87 rfl rfl rfl (ev_iload_n (pc' := 53) m_225 rfl rfl rfl (tr_iald (pc' := 54) m_225 rfl rfl rfl g1 rfl (ev_isub (pc' := 55) m_225 rfl rfl (ev_goto (pc' := 64) m_225 rfl rfl ?_))))))
          exact am_Ev.sub (L := [(0, .ref 87), (1, .int (l1)), (2, .int (l2)), (3, .long ((l1 - (gI s 1152 0)).toInt64))]) ⟨rfl, rfl, rfl, rfl, trivial⟩ (cR_goOn_64_ok (cR_goOn_2 n) ih l1 l2 ((l1 - (gI s 1152 0)).toInt64) l2 (gB s 133 l2.toNatClampNeg) ((l1 - (gI s 1152 0)).toInt64) (((0 : Int32)) - (gA s 129 l2.toNatClampNeg)) _ _ h)
        · replace h := Ok_f c3 h
          refine ev_aload_n (pc' := 39) m_225 rfl rfl rfl (tr_get (pc' := 42) (v := .ref 90) m_225 rfl rfl ts_o87 rfl rfl rfl (ev_iload_n (pc' := 43) m_225 rfl rfl rfl ?_))
          obtain ⟨g2, h⟩ := Ok_g h
          refine tr_iald (pc' := 44) m_225 rfl rfl rfl g2 rfl (ev_goto (pc' := 48) m_225 rfl rfl (ev_aload_n (pc' := 49) m_225 rfl rfl rfl (tr_get (pc' := 52) (v := .ref 129) m_225 rfl rfl ts_o87 rfl rfl rfl (ev_iload_n (pc' := 53) m_225 rfl rfl rfl (tr_iald (pc' := 54) m_225 rfl rfl rfl g1 rfl (ev_isub (pc' := 55) m_225 rfl rfl (ev_goto (pc' := 64) m_225 rfl rfl ?_)))))))
          exact am_Ev.sub (L := [(0, .ref 87), (1, .int (l1)), (2, .int (l2)), (3, .long ((l1 - (gI s 1152 0)).toInt64))]) ⟨rfl, rfl, rfl, rfl, trivial⟩ (cR_goOn_64_ok (cR_goOn_2 n) ih l1 l2 ((l1 - (gI s 1152 0)).toInt64) l2 (gB s 133 l2.toNatClampNeg) ((l1 - (gI s 1152 0)).toInt64) ((gA s 90 l2.toNatClampNeg) - (gA s 129 l2.toNatClampNeg)) _ _ h)
def cR_goOn (l1 : Int32) (s : ts) : Option (ts) := cR_goOn_2 tm_N l1 ((0 : Int32)) s
set_option maxRecDepth 20000 in
theorem cR_goOn_ok {d : Nat} (l1 : Int32) (s : ts) (Q : ts → Prop) (h : Ok (cR_goOn l1 s) Q) : am_Ev (d + 1) 225 (0, [(0, .ref 87), (1, .int (l1))], []) (lay s) (tq_v Q) := by
  unfold cR_goOn at h
  refine ev_iconst (pc' := 1) (x := 0) m_225 rfl rfl rfl (ev_istore_n (pc' := 2) m_225 rfl rfl rfl rfl ?_)
  exact am_Ev.sub (L := [(0, .ref 87), (1, .int (l1)), (2, .int ((0 : Int32)))]) ⟨rfl, rfl, rfl, trivial⟩ (cR_goOn_2_ok tm_N l1 ((0 : Int32)) _ _ h)
def cR_drop_12_b (kk : Int32 → Int32 → ts → Option (ts)) (l1 : Int32) (l3 : Int32) (s : ts) : Option (ts) := (if am_idx l1 28 = true then (if (gA s 136 l1.toNatClampNeg) ≤ l3 then some s else (if am_idx (((((300 : Int32)) * l1) + l3) + ((1 : Int32))) 8400 = true then (if am_idx ((((300 : Int32)) * l1) + l3) 8400 = true then kk l1 (l3 + (1 : Int32)) (wA (wA s 137 ((((300 : Int32)) * l1) + l3).toNatClampNeg (gA s 137 (((((300 : Int32)) * l1) + l3) + ((1 : Int32))).toNatClampNeg)) 138 ((((300 : Int32)) * l1) + l3).toNatClampNeg (gA (wA s 137 ((((300 : Int32)) * l1) + l3).toNatClampNeg (gA s 137 (((((300 : Int32)) * l1) + l3) + ((1 : Int32))).toNatClampNeg)) 138 (((((300 : Int32)) * l1) + l3) + ((1 : Int32))).toNatClampNeg)) else none) else none)) else none)
def cR_drop_12 : Nat → Int32 → Int32 → ts → Option (ts)
  | 0, _, _, _ => none
  | n + 1, l1, l3, s => cR_drop_12_b (cR_drop_12 n) l1 l3 s
set_option maxRecDepth 20000 in
theorem cR_drop_12_ok {d : Nat} : ∀ (n : Nat) (l1 : Int32) (l3 : Int32) (s : ts) (Q : ts → Prop), Ok (cR_drop_12 n l1 l3 s) Q → am_Ev (d + 0) 230 (12, [(0, .ref 87), (1, .int (l1)), (3, .int (l3))], []) (lay s) (tq_v Q) := by
  intro n
  induction n with
  | zero => intro l1 l3 s Q h; exact Ok_n h
  | succ n ih =>
    intro l1 l3 s Q h
    rw [cR_drop_12.eq_2] at h
    unfold cR_drop_12_b at h
    refine ev_iload_n (pc' := 13) m_230 rfl rfl rfl (ev_aload_n (pc' := 14) m_230 rfl rfl rfl (tr_get (pc' := 17) (v := .ref 136) m_230 rfl rfl ts_o87 rfl rfl rfl (ev_iload_n (pc' := 18) m_230 rfl rfl rfl ?_)))
    obtain ⟨g1, h⟩ := Ok_g h
    refine tr_iald (pc' := 19) m_230 rfl rfl rfl g1 rfl ?_
    refine ev_icmp_ge (t := 80) (e := 22) m_230 rfl rfl rfl (fun c4 => ?_) (fun c4 => ?_)
    · replace h := Ok_t c4 h
      exact tr_rv m_230 rfl rfl (Ok_s h)
    · replace h := Ok_f c4 h
      refine ev_aload_n (pc' := 23) m_230 rfl rfl rfl (tr_get (pc' := 26) (v := .ref 137) m_230 rfl rfl ts_o87 rfl rfl rfl (ev_sipush (pc' := 29) (x := 300) m_230 rfl rfl rfl (ev_iload_n (pc' := 30) m_230 rfl rfl rfl (ev_imul (pc' := 31) m_230 rfl rfl (ev_iload_n (pc' := 32) m_230 rfl rfl rfl (ev_iadd (pc' := 33) m_230 rfl rfl (ev_aload_n (pc' := 34) m_230 rfl rfl rfl ?_)))))))
      refine tr_get (pc' := 37) (v := .ref 137) m_230 rfl rfl ts_o87 rfl rfl rfl (ev_sipush (pc' := 40) (x := 300) m_230 rfl rfl rfl (ev_iload_n (pc' := 41) m_230 rfl rfl rfl (ev_imul (pc' := 42) m_230 rfl rfl (ev_iload_n (pc' := 43) m_230 rfl rfl rfl (ev_iadd (pc' := 44) m_230 rfl rfl (ev_iconst (pc' := 45) (x := 1) m_230 rfl rfl rfl (ev_iadd (pc' := 46) m_230 rfl rfl ?_)))))))
      obtain ⟨g2, h⟩ := Ok_g h
      refine tr_iald (pc' := 47) m_230 rfl rfl rfl g2 rfl ?_
      obtain ⟨g3, h⟩ := Ok_g h
      refine tr_iast (pc' := 48) m_230 rfl rfl rfl g3 rfl (ev_aload_n (pc' := 49) m_230 rfl rfl rfl (tr_get (pc' := 52) (v := .ref 138) m_230 rfl rfl ts_o87 rfl rfl rfl (ev_sipush (pc' := 55) (x := 300) m_230 rfl rfl rfl (ev_iload_n (pc' := 56) m_230 rfl rfl rfl (ev_imul (pc' := 57) m_230 rfl rfl (ev_iload_n (pc' := 58) m_230 rfl rfl rfl (ev_iadd (pc' := 59) m_230 rfl rfl ?_)))))))
      refine ev_aload_n (pc' := 60) m_230 rfl rfl rfl (tr_get (pc' := 63) (v := .ref 138) m_230 rfl rfl ts_o87 rfl rfl rfl (ev_sipush (pc' := 66) (x := 300) m_230 rfl rfl rfl (ev_iload_n (pc' := 67) m_230 rfl rfl rfl (ev_imul (pc' := 68) m_230 rfl rfl (ev_iload_n (pc' := 69) m_230 rfl rfl rfl (ev_iadd (pc' := 70) m_230 rfl rfl (ev_iconst (pc' := 71) (x := 1) m_230 rfl rfl rfl ?_)))))))
      refine ev_iadd (pc' := 72) m_230 rfl rfl (tr_iald (pc' := 73) m_230 rfl rfl rfl g2 rfl (tr_iast (pc' := 74) m_230 rfl rfl rfl g3 rfl (ev_iinc (pc' := 77) (z := 1) m_230 rfl rfl rfl rfl rfl rfl (ev_goto (pc' := 12) m_230 rfl rfl ?_))))
      exact am_Ev.sub (L := [(0, .ref 87), (1, .int (l1)), (3, .int (l3 + (1 : Int32)))]) ⟨rfl, rfl, rfl, trivial⟩ (ih l1 (l3 + (1 : Int32)) _ _ h)
def cR_drop (l1 : Int32) (l2 : Int32) (s : ts) : Option (ts) := (if am_idx l1 28 = true then cR_drop_12 tm_N l1 l2 (wA s 136 l1.toNatClampNeg ((gA s 136 l1.toNatClampNeg) - ((1 : Int32)))) else none)
set_option maxRecDepth 20000 in
theorem cR_drop_ok {d : Nat} (l1 : Int32) (l2 : Int32) (s : ts) (Q : ts → Prop) (h : Ok (cR_drop l1 l2 s) Q) : am_Ev (d + 0) 230 (0, [(0, .ref 87), (1, .int (l1)), (2, .int (l2))], []) (lay s) (tq_v Q) := by
  unfold cR_drop at h
  refine ev_aload_n (pc' := 1) m_230 rfl rfl rfl (tr_get (pc' := 4) (v := .ref 136) m_230 rfl rfl ts_o87 rfl rfl rfl (ev_iload_n (pc' := 5) m_230 rfl rfl rfl (ev_dup2 (pc' := 6) m_230 rfl ⟨rfl, rfl⟩ rfl ?_)))
  obtain ⟨g1, h⟩ := Ok_g h
  refine tr_iald (pc' := 7) m_230 rfl rfl rfl g1 rfl (ev_iconst (pc' := 8) (x := 1) m_230 rfl rfl rfl (ev_isub (pc' := 9) m_230 rfl rfl (tr_iast (pc' := 10) m_230 rfl rfl rfl g1 rfl (ev_iload_n (pc' := 11) m_230 rfl rfl rfl (ev_istore_n (pc' := 12) m_230 rfl rfl rfl rfl ?_)))))
  exact am_Ev.sub (L := [(0, .ref 87), (1, .int (l1)), (3, .int (l2))]) ⟨rfl, rfl, rfl, trivial⟩ (cR_drop_12_ok tm_N l1 l2 _ _ h)
def cR_leaveRow_9_b (kk : Int32 → Int32 → Int32 → ts → Option (ts)) (l1 : Int32) (l2 : Int32) (l3 : Int32) (s : ts) : Option (ts) := (if l3 < ((0 : Int32)) then some s else (if am_idx ((((300 : Int32)) * l1) + l3) 8400 = true then (if (gA s 137 ((((300 : Int32)) * l1) + l3).toNatClampNeg) = l2 then (cR_drop l1 l3 s).bind (fun s3 => kk l1 l2 (l3 + (-1 : Int32)) s3) else kk l1 l2 (l3 + (-1 : Int32)) s) else none))
def cR_leaveRow_9 : Nat → Int32 → Int32 → Int32 → ts → Option (ts)
  | 0, _, _, _, _ => none
  | n + 1, l1, l2, l3, s => cR_leaveRow_9_b (cR_leaveRow_9 n) l1 l2 l3 s
set_option maxRecDepth 20000 in
theorem cR_leaveRow_9_ok {d : Nat} : ∀ (n : Nat) (l1 : Int32) (l2 : Int32) (l3 : Int32) (s : ts) (Q : ts → Prop), Ok (cR_leaveRow_9 n l1 l2 l3 s) Q → am_Ev (d + 1) 229 (9, [(0, .ref 87), (1, .int (l1)), (2, .int (l2)), (3, .int (l3))], []) (lay s) (tq_v Q) := by
  intro n
  induction n with
  | zero => intro l1 l2 l3 s Q h; exact Ok_n h
  | succ n ih =>
    intro l1 l2 l3 s Q h
    rw [cR_leaveRow_9.eq_2] at h
    unfold cR_leaveRow_9_b at h
    refine ev_iload_n (pc' := 10) m_229 rfl rfl rfl ?_
    refine ev_if_lt (t := 41) (e := 13) m_229 rfl rfl rfl (fun c6 => ?_) (fun c6 => ?_)
    · replace h := Ok_t c6 h
      exact tr_rv m_229 rfl rfl (Ok_s h)
    · replace h := Ok_f c6 h
      refine ev_aload_n (pc' := 14) m_229 rfl rfl rfl (tr_get (pc' := 17) (v := .ref 137) m_229 rfl rfl ts_o87 rfl rfl rfl (ev_sipush (pc' := 20) (x := 300) m_229 rfl rfl rfl (ev_iload_n (pc' := 21) m_229 rfl rfl rfl (ev_imul (pc' := 22) m_229 rfl rfl (ev_iload_n (pc' := 23) m_229 rfl rfl rfl (ev_iadd (pc' := 24) m_229 rfl rfl ?_))))))
      obtain ⟨g1, h⟩ := Ok_g h
      refine tr_iald (pc' := 25) m_229 rfl rfl rfl g1 rfl (ev_iload_n (pc' := 26) m_229 rfl rfl rfl ?_)
      refine ev_icmp_ne (t := 35) (e := 29) m_229 rfl rfl rfl (fun c5 => ?_) (fun c5 => ?_)
      · replace h := Ok_f c5 h
        refine ev_iinc (pc' := 38) (z := -1) m_229 rfl rfl rfl rfl rfl rfl (ev_goto (pc' := 9) m_229 rfl rfl ?_)
        exact am_Ev.sub (L := [(0, .ref 87), (1, .int (l1)), (2, .int (l2)), (3, .int (l3 + (-1 : Int32)))]) ⟨rfl, rfl, rfl, rfl, trivial⟩ (ih l1 l2 (l3 + (-1 : Int32)) _ _ h)
      · replace h := Ok_t c5 h
        refine ev_aload_n (pc' := 30) m_229 rfl rfl rfl (ev_iload_n (pc' := 31) m_229 rfl rfl rfl (ev_iload_n (pc' := 32) m_229 rfl rfl rfl ?_))
        refine tr_cv (pc' := 35) m_229 rfl rfl rfl m_230 rfl rfl rfl rfl (tr_rcv ts_o87 rfl) rfl rfl (cR_drop_ok l1 l3 _ _ (Ok_b h)) (fun s3 h => ?_)
        refine ev_iinc (pc' := 38) (z := -1) m_229 rfl rfl rfl rfl rfl rfl (ev_goto (pc' := 9) m_229 rfl rfl ?_)
        exact am_Ev.sub (L := [(0, .ref 87), (1, .int (l1)), (2, .int (l2)), (3, .int (l3 + (-1 : Int32)))]) ⟨rfl, rfl, rfl, rfl, trivial⟩ (ih l1 l2 (l3 + (-1 : Int32)) _ _ h)
def cR_leaveRow (l1 : Int32) (l2 : Int32) (s : ts) : Option (ts) := (if am_idx l1 28 = true then cR_leaveRow_9 tm_N l1 l2 ((gA s 136 l1.toNatClampNeg) - ((1 : Int32))) s else none)
set_option maxRecDepth 20000 in
theorem cR_leaveRow_ok {d : Nat} (l1 : Int32) (l2 : Int32) (s : ts) (Q : ts → Prop) (h : Ok (cR_leaveRow l1 l2 s) Q) : am_Ev (d + 1) 229 (0, [(0, .ref 87), (1, .int (l1)), (2, .int (l2))], []) (lay s) (tq_v Q) := by
  unfold cR_leaveRow at h
  refine ev_aload_n (pc' := 1) m_229 rfl rfl rfl (tr_get (pc' := 4) (v := .ref 136) m_229 rfl rfl ts_o87 rfl rfl rfl (ev_iload_n (pc' := 5) m_229 rfl rfl rfl ?_))
  obtain ⟨g1, h⟩ := Ok_g h
  refine tr_iald (pc' := 6) m_229 rfl rfl rfl g1 rfl (ev_iconst (pc' := 7) (x := 1) m_229 rfl rfl rfl (ev_isub (pc' := 8) m_229 rfl rfl (ev_istore_n (pc' := 9) m_229 rfl rfl rfl rfl ?_)))
  exact am_Ev.sub (L := [(0, .ref 87), (1, .int (l1)), (2, .int (l2)), (3, .int ((gA s 136 l1.toNatClampNeg) - ((1 : Int32))))]) ⟨rfl, rfl, rfl, rfl, trivial⟩ (cR_leaveRow_9_ok tm_N l1 l2 ((gA s 136 l1.toNatClampNeg) - ((1 : Int32))) _ _ h)
def cR_count_80 (l2 : Int32) (l3 : Int32) (t1 : Int32) (t2 : Int64) (t3 : Int64) (s : ts) : Option (ts) := (if am_idx t1 14 = true then (if l3 = ((0 : Int32)) then some (wB s 135 t1.toNatClampNeg (t2 + t3)) else (cR_calendar l2 ((0 : Int32)) (gI (wB s 135 t1.toNatClampNeg (t2 + t3)) 1152 0) (wB s 135 t1.toNatClampNeg (t2 + t3))).bind (fun s3 => some s3)) else none)
set_option maxRecDepth 20000 in
theorem cR_count_80_ok {d : Nat} (l2 : Int32) (l3 : Int32) (t1 : Int32) (t2 : Int64) (t3 : Int64) (s : ts) (Q : ts → Prop) (h : Ok (cR_count_80 l2 l3 t1 t2 t3 s) Q) : am_Ev (d + 1) 232 (80, [(0, .ref 87), (2, .int (l2)), (3, .int (l3))], [.long (t3), .long (t2), .int (t1), .ref 135]) (lay s) (tq_v Q) := by
  unfold cR_count_80 at h
  refine ev_ladd (pc' := 81) m_232 rfl rfl ?_
  obtain ⟨g1, h⟩ := Ok_g h
  refine tr_last (pc' := 82) m_232 rfl rfl rfl g1 rfl (ev_iload_n (pc' := 83) m_232 rfl rfl rfl ?_)
  refine ev_if_eq (t := 96) (e := 86) m_232 rfl rfl rfl (fun c5 => ?_) (fun c5 => ?_)
  · replace h := Ok_t c5 h
    exact tr_rv m_232 rfl rfl (Ok_s h)
  · replace h := Ok_f c5 h
    refine ev_aload_n (pc' := 87) m_232 rfl rfl rfl (ev_iload_n (pc' := 88) m_232 rfl rfl rfl (ev_iconst (pc' := 89) (x := 0) m_232 rfl rfl rfl (ev_aload_n (pc' := 90) m_232 rfl rfl rfl (tr_get (pc' := 93) (v := .int (gI _ 1152 _)) m_232 rfl rfl ts_o87 rfl rfl rfl ?_))))
    refine tr_cv (pc' := 96) m_232 rfl rfl rfl m_221 rfl rfl rfl rfl (tr_rcv ts_o87 rfl) rfl rfl (cR_calendar_ok l2 ((0 : Int32)) (gI (wB s 135 t1.toNatClampNeg (t2 + t3)) 1152 0) _ _ (Ok_b h)) (fun s3 h => ?_)
    exact tr_rv m_232 rfl rfl (Ok_s h)
def cR_count_51 (l1 : Int32) (l2 : Int32) (l3 : Int32) (t1 : Int32) (t2 : Int32) (t3 : Int32) (s : ts) : Option (ts) := (if am_idx t1 14 = true then (if am_idx l1 14 = true then (if l3 = ((0 : Int32)) then cR_count_80 l2 l3 l1 (gB (wA s 131 t1.toNatClampNeg (t2 + t3)) 135 l1.toNatClampNeg) ((0 : Int64)) (wA s 131 t1.toNatClampNeg (t2 + t3)) else (if am_idx l2 300 = true then cR_count_80 l2 l3 l1 (gB (wA s 131 t1.toNatClampNeg (t2 + t3)) 135 l1.toNatClampNeg) (((gI (wA s 131 t1.toNatClampNeg (t2 + t3)) 1152 0) - (gA (wA s 131 t1.toNatClampNeg (t2 + t3)) 124 l2.toNatClampNeg)).toInt64) (wA s 131 t1.toNatClampNeg (t2 + t3)) else none)) else none) else none)
set_option maxRecDepth 20000 in
theorem cR_count_51_ok {d : Nat} (l1 : Int32) (l2 : Int32) (l3 : Int32) (t1 : Int32) (t2 : Int32) (t3 : Int32) (s : ts) (Q : ts → Prop) (h : Ok (cR_count_51 l1 l2 l3 t1 t2 t3 s) Q) : am_Ev (d + 1) 232 (51, [(0, .ref 87), (1, .int (l1)), (2, .int (l2)), (3, .int (l3))], [.int (t3), .int (t2), .int (t1), .ref 131]) (lay s) (tq_v Q) := by
  unfold cR_count_51 at h
  refine ev_iadd (pc' := 52) m_232 rfl rfl ?_
  obtain ⟨g1, h⟩ := Ok_g h
  refine tr_iast (pc' := 53) m_232 rfl rfl rfl g1 rfl (ev_aload_n (pc' := 54) m_232 rfl rfl rfl (tr_get (pc' := 57) (v := .ref 135) m_232 rfl rfl ts_o87 rfl rfl rfl (ev_iload_n (pc' := 58) m_232 rfl rfl rfl (ev_dup2 (pc' := 59) m_232 rfl ⟨rfl, rfl⟩ rfl ?_))))
  obtain ⟨g2, h⟩ := Ok_g h
  refine tr_lald (pc' := 60) m_232 rfl rfl rfl g2 rfl (ev_iload_n (pc' := 61) m_232 rfl rfl rfl ?_)
  refine ev_if_eq (t := 79) (e := 64) m_232 rfl rfl rfl (fun c4 => ?_) (fun c4 => ?_)
  · replace h := Ok_t c4 h
    refine ev_lconst (pc' := 80) (u := 0) m_232 rfl rfl rfl ?_
    exact am_Ev.sub (L := [(0, .ref 87), (2, .int (l2)), (3, .int (l3))]) ⟨rfl, rfl, rfl, trivial⟩ (cR_count_80_ok l2 l3 l1 (gB (wA s 131 t1.toNatClampNeg (t2 + t3)) 135 l1.toNatClampNeg) ((0 : Int64)) _ _ h)
  · replace h := Ok_f c4 h
    refine ev_aload_n (pc' := 65) m_232 rfl rfl rfl (tr_get (pc' := 68) (v := .int (gI _ 1152 _)) m_232 rfl rfl ts_o87 rfl rfl rfl (ev_aload_n (pc' := 69) m_232 rfl rfl rfl (tr_get (pc' := 72) (v := .ref 124) m_232 rfl rfl ts_o87 rfl rfl rfl (ev_iload_n (pc' := 73) m_232 rfl rfl rfl ?_))))
    obtain ⟨g3, h⟩ := Ok_g h
    refine tr_iald (pc' := 74) m_232 rfl rfl rfl g3 rfl (ev_isub (pc' := 75) m_232 rfl rfl (ev_i2l (pc' := 76) m_232 rfl rfl (ev_goto (pc' := 80) m_232 rfl rfl ?_)))
    exact am_Ev.sub (L := [(0, .ref 87), (2, .int (l2)), (3, .int (l3))]) ⟨rfl, rfl, rfl, trivial⟩ (cR_count_80_ok l2 l3 l1 (gB (wA s 131 t1.toNatClampNeg (t2 + t3)) 135 l1.toNatClampNeg) (((gI (wA s 131 t1.toNatClampNeg (t2 + t3)) 1152 0) - (gA (wA s 131 t1.toNatClampNeg (t2 + t3)) 124 l2.toNatClampNeg)).toInt64) _ _ h)
def cR_count_24 (l1 : Int32) (l2 : Int32) (t0 : Int32) (s : ts) : Option (ts) := (if am_idx l1 14 = true then (if t0 = ((0 : Int32)) then cR_count_51 l1 l2 t0 l1 (gA (wA s 130 l1.toNatClampNeg ((gA s 130 l1.toNatClampNeg) + ((1 : Int32)))) 131 l1.toNatClampNeg) ((0 : Int32)) (wA s 130 l1.toNatClampNeg ((gA s 130 l1.toNatClampNeg) + ((1 : Int32)))) else cR_count_51 l1 l2 t0 l1 (gA (wA s 130 l1.toNatClampNeg ((gA s 130 l1.toNatClampNeg) + ((1 : Int32)))) 131 l1.toNatClampNeg) ((1 : Int32)) (wA s 130 l1.toNatClampNeg ((gA s 130 l1.toNatClampNeg) + ((1 : Int32))))) else none)
set_option maxRecDepth 20000 in
theorem cR_count_24_ok {d : Nat} (l1 : Int32) (l2 : Int32) (t0 : Int32) (s : ts) (Q : ts → Prop) (h : Ok (cR_count_24 l1 l2 t0 s) Q) : am_Ev (d + 1) 232 (24, [(0, .ref 87), (1, .int (l1)), (2, .int (l2))], [.int (t0)]) (lay s) (tq_v Q) := by
  unfold cR_count_24 at h
  refine ev_istore_n (pc' := 25) m_232 rfl rfl rfl rfl (ev_aload_n (pc' := 26) m_232 rfl rfl rfl (tr_get (pc' := 29) (v := .ref 130) m_232 rfl rfl ts_o87 rfl rfl rfl (ev_iload_n (pc' := 30) m_232 rfl rfl rfl (ev_dup2 (pc' := 31) m_232 rfl ⟨rfl, rfl⟩ rfl ?_))))
  obtain ⟨g1, h⟩ := Ok_g h
  refine tr_iald (pc' := 32) m_232 rfl rfl rfl g1 rfl (ev_iconst (pc' := 33) (x := 1) m_232 rfl rfl rfl (ev_iadd (pc' := 34) m_232 rfl rfl (tr_iast (pc' := 35) m_232 rfl rfl rfl g1 rfl (ev_aload_n (pc' := 36) m_232 rfl rfl rfl (tr_get (pc' := 39) (v := .ref 131) m_232 rfl rfl ts_o87 rfl rfl rfl (ev_iload_n (pc' := 40) m_232 rfl rfl rfl (ev_dup2 (pc' := 41) m_232 rfl ⟨rfl, rfl⟩ rfl ?_)))))))
  refine tr_iald (pc' := 42) m_232 rfl rfl rfl g1 rfl (ev_iload_n (pc' := 43) m_232 rfl rfl rfl ?_)
  refine ev_if_eq (t := 50) (e := 46) m_232 rfl rfl rfl (fun c2 => ?_) (fun c2 => ?_)
  · replace h := Ok_t c2 h
    refine ev_iconst (pc' := 51) (x := 0) m_232 rfl rfl rfl ?_
    exact am_Ev.sub (L := [(0, .ref 87), (1, .int (l1)), (2, .int (l2)), (3, .int (t0))]) ⟨rfl, rfl, rfl, rfl, trivial⟩ (cR_count_51_ok l1 l2 t0 l1 (gA (wA s 130 l1.toNatClampNeg ((gA s 130 l1.toNatClampNeg) + ((1 : Int32)))) 131 l1.toNatClampNeg) ((0 : Int32)) _ _ h)
  · replace h := Ok_f c2 h
    refine ev_iconst (pc' := 47) (x := 1) m_232 rfl rfl rfl (ev_goto (pc' := 51) m_232 rfl rfl ?_)
    exact am_Ev.sub (L := [(0, .ref 87), (1, .int (l1)), (2, .int (l2)), (3, .int (t0))]) ⟨rfl, rfl, rfl, rfl, trivial⟩ (cR_count_51_ok l1 l2 t0 l1 (gA (wA s 130 l1.toNatClampNeg ((gA s 130 l1.toNatClampNeg) + ((1 : Int32)))) 131 l1.toNatClampNeg) ((1 : Int32)) _ _ h)
def cR_count (l1 : Int32) (l2 : Int32) (s : ts) : Option (ts) := (if l2 = (gI s 1159 0) then (if am_idx l2 300 = true then (if (gA s 120 l2.toNatClampNeg) = ((7 : Int32)) then cR_count_24 l1 l2 ((0 : Int32)) s else cR_count_24 l1 l2 ((1 : Int32)) s) else none) else cR_count_24 l1 l2 ((1 : Int32)) s)
set_option maxRecDepth 20000 in
theorem cR_count_ok {d : Nat} (l1 : Int32) (l2 : Int32) (s : ts) (Q : ts → Prop) (h : Ok (cR_count l1 l2 s) Q) : am_Ev (d + 1) 232 (0, [(0, .ref 87), (1, .int (l1)), (2, .int (l2))], []) (lay s) (tq_v Q) := by
  unfold cR_count at h
  refine ev_iload_n (pc' := 1) m_232 rfl rfl rfl (ev_aload_n (pc' := 2) m_232 rfl rfl rfl (tr_get (pc' := 5) (v := .int (gI _ 1159 _)) m_232 rfl rfl ts_o87 rfl rfl rfl ?_))
  refine ev_icmp_ne (t := 19) (e := 8) m_232 rfl rfl rfl (fun c3 => ?_) (fun c3 => ?_)
  · replace h := Ok_f c3 h
    refine ev_iconst (pc' := 20) (x := 1) m_232 rfl rfl rfl (ev_goto (pc' := 24) m_232 rfl rfl ?_)
    exact am_Ev.sub (L := [(0, .ref 87), (1, .int (l1)), (2, .int (l2))]) ⟨rfl, rfl, rfl, trivial⟩ (cR_count_24_ok l1 l2 ((1 : Int32)) _ _ h)
  · replace h := Ok_t c3 h
    refine ev_aload_n (pc' := 9) m_232 rfl rfl rfl (tr_get (pc' := 12) (v := .ref 120) m_232 rfl rfl ts_o87 rfl rfl rfl (ev_iload_n (pc' := 13) m_232 rfl rfl rfl ?_))
    obtain ⟨g1, h⟩ := Ok_g h
    refine tr_iald (pc' := 14) m_232 rfl rfl rfl g1 rfl (ev_bipush (pc' := 16) (x := 7) m_232 rfl rfl rfl ?_)
    refine ev_icmp_eq (t := 23) (e := 19) m_232 rfl rfl rfl (fun c2 => ?_) (fun c2 => ?_)
    · replace h := Ok_t c2 h
      refine ev_iconst (pc' := 24) (x := 0) m_232 rfl rfl rfl ?_
      exact am_Ev.sub (L := [(0, .ref 87), (1, .int (l1)), (2, .int (l2))]) ⟨rfl, rfl, rfl, trivial⟩ (cR_count_24_ok l1 l2 ((0 : Int32)) _ _ h)
    · replace h := Ok_f c2 h
      refine ev_iconst (pc' := 20) (x := 1) m_232 rfl rfl rfl (ev_goto (pc' := 24) m_232 rfl rfl ?_)
      exact am_Ev.sub (L := [(0, .ref 87), (1, .int (l1)), (2, .int (l2))]) ⟨rfl, rfl, rfl, trivial⟩ (cR_count_24_ok l1 l2 ((1 : Int32)) _ _ h)
def cR_serveStore_94 (k7 : Int32 → Int32 → Int32 → ts → Option (ts)) (l1 : Int32) (l2 : Int32) (l3 : Int32) (l5 : Int32) (s : ts) : Option (ts) := (if am_idx (((14 : Int32)) + l2) 28 = true then (if (gA s 136 (((14 : Int32)) + l2).toNatClampNeg) ≤ ((0 : Int32)) then k7 l1 l2 ((0 : Int32)) s else (if am_idx l5 8400 = true then (if am_idx l1 6 = true then (if am_idx l2 14 = true then (if ((gA s 93 l1.toNatClampNeg) - (gA s 129 l2.toNatClampNeg)) < (gA s 138 l5.toNatClampNeg) then k7 l1 l2 ((0 : Int32)) s else (cR_drop (((14 : Int32)) + l2) ((0 : Int32)) (wA s 129 l2.toNatClampNeg ((gA s 129 l2.toNatClampNeg) + (gA s 138 l5.toNatClampNeg)))).bind (fun s6 => (cR_count l2 (gA s 137 l5.toNatClampNeg) s6).bind (fun s9 => k7 l1 l2 l3 s9))) else none) else none) else none)) else none)
set_option maxRecDepth 20000 in
theorem cR_serveStore_94_ok {d : Nat} (k7 : Int32 → Int32 → Int32 → ts → Option (ts)) (hk7 : ∀ (l1 : Int32) (l2 : Int32) (l3 : Int32) (s : ts) (Q : ts → Prop), Ok (k7 l1 l2 l3 s) Q → am_Ev (d + 2) 231 (7, [(0, .ref 87), (1, .int (l1)), (2, .int (l2)), (3, .int (l3))], []) (lay s) (tq_v Q)) (l1 : Int32) (l2 : Int32) (l3 : Int32) (l5 : Int32) (s : ts) (Q : ts → Prop) (h : Ok (cR_serveStore_94 k7 l1 l2 l3 l5 s) Q) : am_Ev (d + 2) 231 (94, [(0, .ref 87), (1, .int (l1)), (2, .int (l2)), (3, .int (l3)), (5, .int (l5))], []) (lay s) (tq_v Q) := by
  unfold cR_serveStore_94 at h
  refine ev_aload_n (pc' := 95) m_231 rfl rfl rfl (tr_get (pc' := 98) (v := .ref 136) m_231 rfl rfl ts_o87 rfl rfl rfl (ev_bipush (pc' := 100) (x := 14) m_231 rfl rfl rfl (ev_iload_n (pc' := 101) m_231 rfl rfl rfl (ev_iadd (pc' := 102) m_231 rfl rfl ?_))))
  obtain ⟨g1, h⟩ := Ok_g h
  refine tr_iald (pc' := 103) m_231 rfl rfl rfl g1 rfl ?_
  refine ev_if_le (t := 173) (e := 106) m_231 rfl rfl rfl (fun c12 => ?_) (fun c12 => ?_)
  · replace h := Ok_t c12 h
    refine ev_iconst (pc' := 174) (x := 0) m_231 rfl rfl rfl (ev_istore_n (pc' := 175) m_231 rfl rfl rfl rfl (ev_goto (pc' := 7) m_231 rfl rfl ?_))
    exact am_Ev.sub (L := [(0, .ref 87), (1, .int (l1)), (2, .int (l2)), (3, .int ((0 : Int32)))]) ⟨rfl, rfl, rfl, rfl, trivial⟩ (hk7 l1 l2 ((0 : Int32)) _ _ h)
  · replace h := Ok_f c12 h
    refine ev_aload_n (pc' := 107) m_231 rfl rfl rfl (tr_get (pc' := 110) (v := .ref 138) m_231 rfl rfl ts_o87 rfl rfl rfl (ev_iload (pc' := 112) m_231 rfl rfl rfl ?_))
    obtain ⟨g2, h⟩ := Ok_g h
    refine tr_iald (pc' := 113) m_231 rfl rfl rfl g2 rfl (ev_aload_n (pc' := 114) m_231 rfl rfl rfl (tr_get (pc' := 117) (v := .ref 93) m_231 rfl rfl ts_o87 rfl rfl rfl (ev_iload_n (pc' := 118) m_231 rfl rfl rfl ?_)))
    obtain ⟨g3, h⟩ := Ok_g h
    refine tr_iald (pc' := 119) m_231 rfl rfl rfl g3 rfl (ev_aload_n (pc' := 120) m_231 rfl rfl rfl (tr_get (pc' := 123) (v := .ref 129) m_231 rfl rfl ts_o87 rfl rfl rfl (ev_iload_n (pc' := 124) m_231 rfl rfl rfl ?_)))
    obtain ⟨g4, h⟩ := Ok_g h
    refine tr_iald (pc' := 125) m_231 rfl rfl rfl g4 rfl (ev_isub (pc' := 126) m_231 rfl rfl ?_)
    refine ev_icmp_gt (t := 173) (e := 129) m_231 rfl rfl rfl (fun c11 => ?_) (fun c11 => ?_)
    · replace h := Ok_t c11 h
      refine ev_iconst (pc' := 174) (x := 0) m_231 rfl rfl rfl (ev_istore_n (pc' := 175) m_231 rfl rfl rfl rfl (ev_goto (pc' := 7) m_231 rfl rfl ?_))
      exact am_Ev.sub (L := [(0, .ref 87), (1, .int (l1)), (2, .int (l2)), (3, .int ((0 : Int32)))]) ⟨rfl, rfl, rfl, rfl, trivial⟩ (hk7 l1 l2 ((0 : Int32)) _ _ h)
    · replace h := Ok_f c11 h
      refine ev_aload_n (pc' := 130) m_231 rfl rfl rfl (tr_get (pc' := 133) (v := .ref 137) m_231 rfl rfl ts_o87 rfl rfl rfl (ev_iload (pc' := 135) m_231 rfl rfl rfl (tr_iald (pc' := 136) m_231 rfl rfl rfl g2 rfl (ev_istore (pc' := 138) m_231 rfl rfl rfl rfl (ev_aload_n (pc' := 139) m_231 rfl rfl rfl (tr_get (pc' := 142) (v := .ref 129) m_231 rfl rfl ts_o87 rfl rfl rfl (ev_iload_n (pc' := 143) m_231 rfl rfl rfl ?_)))))))
      refine ev_dup2 (pc' := 144) m_231 rfl ⟨rfl, rfl⟩ rfl (tr_iald (pc' := 145) m_231 rfl rfl rfl g4 rfl (ev_aload_n (pc' := 146) m_231 rfl rfl rfl (tr_get (pc' := 149) (v := .ref 138) m_231 rfl rfl ts_o87 rfl rfl rfl (ev_iload (pc' := 151) m_231 rfl rfl rfl (tr_iald (pc' := 152) m_231 rfl rfl rfl g2 rfl (ev_iadd (pc' := 153) m_231 rfl rfl (tr_iast (pc' := 154) m_231 rfl rfl rfl g4 rfl ?_)))))))
      refine ev_aload_n (pc' := 155) m_231 rfl rfl rfl (ev_bipush (pc' := 157) (x := 14) m_231 rfl rfl rfl (ev_iload_n (pc' := 158) m_231 rfl rfl rfl (ev_iadd (pc' := 159) m_231 rfl rfl (ev_iconst (pc' := 160) (x := 0) m_231 rfl rfl rfl ?_))))
      refine tr_cv (pc' := 163) m_231 rfl rfl rfl m_230 rfl rfl rfl rfl (tr_rcv ts_o87 rfl) rfl rfl (cR_drop_ok (((14 : Int32)) + l2) ((0 : Int32)) _ _ (Ok_b h)) (fun s6 h => ?_)
      refine ev_aload_n (pc' := 164) m_231 rfl rfl rfl (ev_iload_n (pc' := 165) m_231 rfl rfl rfl (ev_iload (pc' := 167) m_231 rfl rfl rfl ?_))
      refine tr_cv (pc' := 170) m_231 rfl rfl rfl m_232 rfl rfl rfl rfl (tr_rcv ts_o87 rfl) rfl rfl (cR_count_ok l2 (gA s 137 l5.toNatClampNeg) _ _ (Ok_b h)) (fun s9 h => ?_)
      refine ev_goto (pc' := 175) m_231 rfl rfl (ev_goto (pc' := 7) m_231 rfl rfl ?_)
      exact am_Ev.sub (L := [(0, .ref 87), (1, .int (l1)), (2, .int (l2)), (3, .int (l3))]) ⟨rfl, rfl, rfl, rfl, trivial⟩ (hk7 l1 l2 l3 _ _ h)
def cR_serveStore_7_b (kk : Int32 → Int32 → Int32 → ts → Option (ts)) (l1 : Int32) (l2 : Int32) (l3 : Int32) (s : ts) : Option (ts) := (if l3 = ((0 : Int32)) then some s else (if am_idx l2 28 = true then (if (gA s 136 l2.toNatClampNeg) ≤ ((0 : Int32)) then cR_serveStore_94 kk l1 l2 l3 (((300 : Int32)) * (((14 : Int32)) + l2)) s else (if am_idx (((300 : Int32)) * l2) 8400 = true then (if am_idx l2 14 = true then (if (gA s 129 l2.toNatClampNeg) < (gA s 138 (((300 : Int32)) * l2).toNatClampNeg) then cR_serveStore_94 kk l1 l2 l3 (((300 : Int32)) * (((14 : Int32)) + l2)) s else (cR_drop l2 ((0 : Int32)) (wA s 129 l2.toNatClampNeg ((gA s 129 l2.toNatClampNeg) - (gA s 138 (((300 : Int32)) * l2).toNatClampNeg)))).bind (fun s5 => (cR_count l2 (gA s 137 (((300 : Int32)) * l2).toNatClampNeg) s5).bind (fun s8 => kk l1 l2 l3 s8))) else none) else none)) else none))
def cR_serveStore_7 : Nat → Int32 → Int32 → Int32 → ts → Option (ts)
  | 0, _, _, _, _ => none
  | n + 1, l1, l2, l3, s => cR_serveStore_7_b (cR_serveStore_7 n) l1 l2 l3 s
set_option maxRecDepth 20000 in
theorem cR_serveStore_7_ok {d : Nat} : ∀ (n : Nat) (l1 : Int32) (l2 : Int32) (l3 : Int32) (s : ts) (Q : ts → Prop), Ok (cR_serveStore_7 n l1 l2 l3 s) Q → am_Ev (d + 2) 231 (7, [(0, .ref 87), (1, .int (l1)), (2, .int (l2)), (3, .int (l3))], []) (lay s) (tq_v Q) := by
  intro n
  induction n with
  | zero => intro l1 l2 l3 s Q h; exact Ok_n h
  | succ n ih =>
    intro l1 l2 l3 s Q h
    rw [cR_serveStore_7.eq_2] at h
    unfold cR_serveStore_7_b at h
    refine ev_iload_n (pc' := 8) m_231 rfl rfl rfl ?_
    refine ev_if_eq (t := 178) (e := 11) m_231 rfl rfl rfl (fun c12 => ?_) (fun c12 => ?_)
    · replace h := Ok_t c12 h
      exact tr_rv m_231 rfl rfl (Ok_s h)
    · replace h := Ok_f c12 h
      refine ev_sipush (pc' := 14) (x := 300) m_231 rfl rfl rfl (ev_iload_n (pc' := 15) m_231 rfl rfl rfl (ev_imul (pc' := 16) m_231 rfl rfl (ev_istore (pc' := 18) m_231 rfl rfl rfl rfl (ev_sipush (pc' := 21) (x := 300) m_231 rfl rfl rfl (ev_bipush (pc' := 23) (x := 14) m_231 rfl rfl rfl (ev_iload_n (pc' := 24) m_231 rfl rfl rfl (ev_iadd (pc' := 25) m_231 rfl rfl ?_)))))))
      refine ev_imul (pc' := 26) m_231 rfl rfl (ev_istore (pc' := 28) m_231 rfl rfl rfl rfl (ev_aload_n (pc' := 29) m_231 rfl rfl rfl (tr_get (pc' := 32) (v := .ref 136) m_231 rfl rfl ts_o87 rfl rfl rfl (ev_iload_n (pc' := 33) m_231 rfl rfl rfl ?_))))
      obtain ⟨g1, h⟩ := Ok_g h
      refine tr_iald (pc' := 34) m_231 rfl rfl rfl g1 rfl ?_
      refine ev_if_le (t := 94) (e := 37) m_231 rfl rfl rfl (fun c11 => ?_) (fun c11 => ?_)
      · replace h := Ok_t c11 h
        exact am_Ev.sub (L := [(0, .ref 87), (1, .int (l1)), (2, .int (l2)), (3, .int (l3)), (5, .int (((300 : Int32)) * (((14 : Int32)) + l2)))]) ⟨rfl, rfl, rfl, rfl, rfl, trivial⟩ (cR_serveStore_94_ok (cR_serveStore_7 n) ih l1 l2 l3 (((300 : Int32)) * (((14 : Int32)) + l2)) _ _ h)
      · replace h := Ok_f c11 h
        refine ev_aload_n (pc' := 38) m_231 rfl rfl rfl (tr_get (pc' := 41) (v := .ref 138) m_231 rfl rfl ts_o87 rfl rfl rfl (ev_iload (pc' := 43) m_231 rfl rfl rfl ?_))
        obtain ⟨g2, h⟩ := Ok_g h
        refine tr_iald (pc' := 44) m_231 rfl rfl rfl g2 rfl (ev_aload_n (pc' := 45) m_231 rfl rfl rfl (tr_get (pc' := 48) (v := .ref 129) m_231 rfl rfl ts_o87 rfl rfl rfl (ev_iload_n (pc' := 49) m_231 rfl rfl rfl ?_)))
        obtain ⟨g3, h⟩ := Ok_g h
        refine tr_iald (pc' := 50) m_231 rfl rfl rfl g3 rfl ?_
        refine ev_icmp_gt (t := 94) (e := 53) m_231 rfl rfl rfl (fun c10 => ?_) (fun c10 => ?_)
        · replace h := Ok_t c10 h
          exact am_Ev.sub (L := [(0, .ref 87), (1, .int (l1)), (2, .int (l2)), (3, .int (l3)), (5, .int (((300 : Int32)) * (((14 : Int32)) + l2)))]) ⟨rfl, rfl, rfl, rfl, rfl, trivial⟩ (cR_serveStore_94_ok (cR_serveStore_7 n) ih l1 l2 l3 (((300 : Int32)) * (((14 : Int32)) + l2)) _ _ h)
        · replace h := Ok_f c10 h
          refine ev_aload_n (pc' := 54) m_231 rfl rfl rfl (tr_get (pc' := 57) (v := .ref 137) m_231 rfl rfl ts_o87 rfl rfl rfl (ev_iload (pc' := 59) m_231 rfl rfl rfl (tr_iald (pc' := 60) m_231 rfl rfl rfl g2 rfl (ev_istore (pc' := 62) m_231 rfl rfl rfl rfl (ev_aload_n (pc' := 63) m_231 rfl rfl rfl (tr_get (pc' := 66) (v := .ref 129) m_231 rfl rfl ts_o87 rfl rfl rfl (ev_iload_n (pc' := 67) m_231 rfl rfl rfl ?_)))))))
          refine ev_dup2 (pc' := 68) m_231 rfl ⟨rfl, rfl⟩ rfl (tr_iald (pc' := 69) m_231 rfl rfl rfl g3 rfl (ev_aload_n (pc' := 70) m_231 rfl rfl rfl (tr_get (pc' := 73) (v := .ref 138) m_231 rfl rfl ts_o87 rfl rfl rfl (ev_iload (pc' := 75) m_231 rfl rfl rfl (tr_iald (pc' := 76) m_231 rfl rfl rfl g2 rfl (ev_isub (pc' := 77) m_231 rfl rfl (tr_iast (pc' := 78) m_231 rfl rfl rfl g3 rfl ?_)))))))
          refine ev_aload_n (pc' := 79) m_231 rfl rfl rfl (ev_iload_n (pc' := 80) m_231 rfl rfl rfl (ev_iconst (pc' := 81) (x := 0) m_231 rfl rfl rfl ?_))
          refine tr_cv (pc' := 84) m_231 rfl rfl rfl m_230 rfl rfl rfl rfl (tr_rcv ts_o87 rfl) rfl rfl (cR_drop_ok l2 ((0 : Int32)) _ _ (Ok_b h)) (fun s5 h => ?_)
          refine ev_aload_n (pc' := 85) m_231 rfl rfl rfl (ev_iload_n (pc' := 86) m_231 rfl rfl rfl (ev_iload (pc' := 88) m_231 rfl rfl rfl ?_))
          refine tr_cv (pc' := 91) m_231 rfl rfl rfl m_232 rfl rfl rfl rfl (tr_rcv ts_o87 rfl) rfl rfl (cR_count_ok l2 (gA s 137 (((300 : Int32)) * l2).toNatClampNeg) _ _ (Ok_b h)) (fun s8 h => ?_)
          refine ev_goto (pc' := 175) m_231 rfl rfl (ev_goto (pc' := 7) m_231 rfl rfl ?_)
          exact am_Ev.sub (L := [(0, .ref 87), (1, .int (l1)), (2, .int (l2)), (3, .int (l3))]) ⟨rfl, rfl, rfl, rfl, trivial⟩ (ih l1 l2 l3 _ _ h)
def cR_serveStore (l1 : Int32) (s : ts) : Option (ts) := cR_serveStore_7 tm_N l1 (((8 : Int32)) + l1) ((1 : Int32)) s
set_option maxRecDepth 20000 in
theorem cR_serveStore_ok {d : Nat} (l1 : Int32) (s : ts) (Q : ts → Prop) (h : Ok (cR_serveStore l1 s) Q) : am_Ev (d + 2) 231 (0, [(0, .ref 87), (1, .int (l1))], []) (lay s) (tq_v Q) := by
  unfold cR_serveStore at h
  refine ev_bipush (pc' := 2) (x := 8) m_231 rfl rfl rfl (ev_iload_n (pc' := 3) m_231 rfl rfl rfl (ev_iadd (pc' := 4) m_231 rfl rfl (ev_istore_n (pc' := 5) m_231 rfl rfl rfl rfl (ev_iconst (pc' := 6) (x := 1) m_231 rfl rfl rfl (ev_istore_n (pc' := 7) m_231 rfl rfl rfl rfl ?_)))))
  exact am_Ev.sub (L := [(0, .ref 87), (1, .int (l1)), (2, .int (((8 : Int32)) + l1)), (3, .int ((1 : Int32)))]) ⟨rfl, rfl, rfl, rfl, trivial⟩ (cR_serveStore_7_ok tm_N l1 (((8 : Int32)) + l1) ((1 : Int32)) _ _ h)
def cR_leaveAwaits_4_b (kk : Int32 → Int32 → Int32 → ts → Option (ts)) (l1 : Int32) (l2 : Int32) (l3 : Int32) (s : ts) : Option (ts) := (if (gI s 1185 0) ≤ l3 then some (wI s 1185 0 l2) else (if am_idx l3 300 = true then (if (gA s 139 l3.toNatClampNeg) = l1 then kk l1 l2 (l3 + (1 : Int32)) s else (if am_idx l2 300 = true then kk l1 (l2 + (1 : Int32)) (l3 + (1 : Int32)) (wA s 139 l2.toNatClampNeg (gA s 139 l3.toNatClampNeg)) else none)) else none))
def cR_leaveAwaits_4 : Nat → Int32 → Int32 → Int32 → ts → Option (ts)
  | 0, _, _, _, _ => none
  | n + 1, l1, l2, l3, s => cR_leaveAwaits_4_b (cR_leaveAwaits_4 n) l1 l2 l3 s
set_option maxRecDepth 20000 in
theorem cR_leaveAwaits_4_ok {d : Nat} : ∀ (n : Nat) (l1 : Int32) (l2 : Int32) (l3 : Int32) (s : ts) (Q : ts → Prop), Ok (cR_leaveAwaits_4 n l1 l2 l3 s) Q → am_Ev (d + 0) 233 (4, [(0, .ref 87), (1, .int (l1)), (2, .int (l2)), (3, .int (l3))], []) (lay s) (tq_v Q) := by
  intro n
  induction n with
  | zero => intro l1 l2 l3 s Q h; exact Ok_n h
  | succ n ih =>
    intro l1 l2 l3 s Q h
    rw [cR_leaveAwaits_4.eq_2] at h
    unfold cR_leaveAwaits_4_b at h
    refine ev_iload_n (pc' := 5) m_233 rfl rfl rfl (ev_aload_n (pc' := 6) m_233 rfl rfl rfl (tr_get (pc' := 9) (v := .int (gI _ 1185 _)) m_233 rfl rfl ts_o87 rfl rfl rfl ?_))
    refine ev_icmp_ge (t := 43) (e := 12) m_233 rfl rfl rfl (fun c4 => ?_) (fun c4 => ?_)
    · replace h := Ok_t c4 h
      refine ev_aload_n (pc' := 44) m_233 rfl rfl rfl (ev_iload_n (pc' := 45) m_233 rfl rfl rfl (tr_pI (pc' := 48) (f := 1185) m_233 rfl rfl rfl ts_o87 rfl rfl rfl rfl ?_))
      exact tr_rv m_233 rfl rfl (Ok_s h)
    · replace h := Ok_f c4 h
      refine ev_aload_n (pc' := 13) m_233 rfl rfl rfl (tr_get (pc' := 16) (v := .ref 139) m_233 rfl rfl ts_o87 rfl rfl rfl (ev_iload_n (pc' := 17) m_233 rfl rfl rfl ?_))
      obtain ⟨g1, h⟩ := Ok_g h
      refine tr_iald (pc' := 18) m_233 rfl rfl rfl g1 rfl (ev_iload_n (pc' := 19) m_233 rfl rfl rfl ?_)
      refine ev_icmp_eq (t := 37) (e := 22) m_233 rfl rfl rfl (fun c3 => ?_) (fun c3 => ?_)
      · replace h := Ok_t c3 h
        refine ev_iinc (pc' := 40) (z := 1) m_233 rfl rfl rfl rfl rfl rfl (ev_goto (pc' := 4) m_233 rfl rfl ?_)
        exact am_Ev.sub (L := [(0, .ref 87), (1, .int (l1)), (2, .int (l2)), (3, .int (l3 + (1 : Int32)))]) ⟨rfl, rfl, rfl, rfl, trivial⟩ (ih l1 l2 (l3 + (1 : Int32)) _ _ h)
      · replace h := Ok_f c3 h
        refine ev_aload_n (pc' := 23) m_233 rfl rfl rfl (tr_get (pc' := 26) (v := .ref 139) m_233 rfl rfl ts_o87 rfl rfl rfl (ev_iload_n (pc' := 27) m_233 rfl rfl rfl (ev_aload_n (pc' := 28) m_233 rfl rfl rfl (tr_get (pc' := 31) (v := .ref 139) m_233 rfl rfl ts_o87 rfl rfl rfl (ev_iload_n (pc' := 32) m_233 rfl rfl rfl (tr_iald (pc' := 33) m_233 rfl rfl rfl g1 rfl ?_))))))
        obtain ⟨g2, h⟩ := Ok_g h
        refine tr_iast (pc' := 34) m_233 rfl rfl rfl g2 rfl (ev_iinc (pc' := 37) (z := 1) m_233 rfl rfl rfl rfl rfl rfl (ev_iinc (pc' := 40) (z := 1) m_233 rfl rfl rfl rfl rfl rfl (ev_goto (pc' := 4) m_233 rfl rfl ?_)))
        exact am_Ev.sub (L := [(0, .ref 87), (1, .int (l1)), (2, .int (l2 + (1 : Int32))), (3, .int (l3 + (1 : Int32)))]) ⟨rfl, rfl, rfl, rfl, trivial⟩ (ih l1 (l2 + (1 : Int32)) (l3 + (1 : Int32)) _ _ h)
def cR_leaveAwaits (l1 : Int32) (s : ts) : Option (ts) := cR_leaveAwaits_4 tm_N l1 ((0 : Int32)) ((0 : Int32)) s
set_option maxRecDepth 20000 in
theorem cR_leaveAwaits_ok {d : Nat} (l1 : Int32) (s : ts) (Q : ts → Prop) (h : Ok (cR_leaveAwaits l1 s) Q) : am_Ev (d + 0) 233 (0, [(0, .ref 87), (1, .int (l1))], []) (lay s) (tq_v Q) := by
  unfold cR_leaveAwaits at h
  refine ev_iconst (pc' := 1) (x := 0) m_233 rfl rfl rfl (ev_istore_n (pc' := 2) m_233 rfl rfl rfl rfl (ev_iconst (pc' := 3) (x := 0) m_233 rfl rfl rfl (ev_istore_n (pc' := 4) m_233 rfl rfl rfl rfl ?_)))
  exact am_Ev.sub (L := [(0, .ref 87), (1, .int (l1)), (2, .int ((0 : Int32))), (3, .int ((0 : Int32)))]) ⟨rfl, rfl, rfl, rfl, trivial⟩ (cR_leaveAwaits_4_ok tm_N l1 ((0 : Int32)) ((0 : Int32)) _ _ h)
def cR_serveResource_0_b (kk : Int32 → ts → Option (ts)) (l1 : Int32) (s : ts) : Option (ts) := (if am_idx l1 14 = true then (if (gA s 129 l1.toNatClampNeg) ≤ ((0 : Int32)) then some s else (if am_idx l1 28 = true then (if (gA s 136 l1.toNatClampNeg) ≤ ((0 : Int32)) then some s else (if am_idx (((300 : Int32)) * l1) 8400 = true then (cR_drop l1 ((0 : Int32)) s).bind (fun s5 => (if am_idx ((((8 : Int32)) * (gA s 137 (((300 : Int32)) * l1).toNatClampNeg)) + l1) 2400 = true then (cR_count l1 (gA s 137 (((300 : Int32)) * l1).toNatClampNeg) (wA (wA s5 129 l1.toNatClampNeg ((gA s5 129 l1.toNatClampNeg) - ((1 : Int32)))) 128 ((((8 : Int32)) * (gA s 137 (((300 : Int32)) * l1).toNatClampNeg)) + l1).toNatClampNeg ((gA (wA s5 129 l1.toNatClampNeg ((gA s5 129 l1.toNatClampNeg) - ((1 : Int32)))) 128 ((((8 : Int32)) * (gA s 137 (((300 : Int32)) * l1).toNatClampNeg)) + l1).toNatClampNeg) + ((1 : Int32))))).bind (fun s9 => kk l1 s9) else none)) else none)) else none)) else none)
def cR_serveResource_0 : Nat → Int32 → ts → Option (ts)
  | 0, _, _ => none
  | n + 1, l1, s => cR_serveResource_0_b (cR_serveResource_0 n) l1 s
set_option maxRecDepth 20000 in
theorem cR_serveResource_0_ok {d : Nat} : ∀ (n : Nat) (l1 : Int32) (s : ts) (Q : ts → Prop), Ok (cR_serveResource_0 n l1 s) Q → am_Ev (d + 2) 234 (0, [(0, .ref 87), (1, .int (l1))], []) (lay s) (tq_v Q) := by
  intro n
  induction n with
  | zero => intro l1 s Q h; exact Ok_n h
  | succ n ih =>
    intro l1 s Q h
    rw [cR_serveResource_0.eq_2] at h
    unfold cR_serveResource_0_b at h
    refine ev_aload_n (pc' := 1) m_234 rfl rfl rfl (tr_get (pc' := 4) (v := .ref 129) m_234 rfl rfl ts_o87 rfl rfl rfl (ev_iload_n (pc' := 5) m_234 rfl rfl rfl ?_))
    obtain ⟨g1, h⟩ := Ok_g h
    refine tr_iald (pc' := 6) m_234 rfl rfl rfl g1 rfl ?_
    refine ev_if_le (t := 69) (e := 9) m_234 rfl rfl rfl (fun c12 => ?_) (fun c12 => ?_)
    · replace h := Ok_t c12 h
      exact tr_rv m_234 rfl rfl (Ok_s h)
    · replace h := Ok_f c12 h
      refine ev_aload_n (pc' := 10) m_234 rfl rfl rfl (tr_get (pc' := 13) (v := .ref 136) m_234 rfl rfl ts_o87 rfl rfl rfl (ev_iload_n (pc' := 14) m_234 rfl rfl rfl ?_))
      obtain ⟨g2, h⟩ := Ok_g h
      refine tr_iald (pc' := 15) m_234 rfl rfl rfl g2 rfl ?_
      refine ev_if_le (t := 69) (e := 18) m_234 rfl rfl rfl (fun c11 => ?_) (fun c11 => ?_)
      · replace h := Ok_t c11 h
        exact tr_rv m_234 rfl rfl (Ok_s h)
      · replace h := Ok_f c11 h
        refine ev_aload_n (pc' := 19) m_234 rfl rfl rfl (tr_get (pc' := 22) (v := .ref 137) m_234 rfl rfl ts_o87 rfl rfl rfl (ev_sipush (pc' := 25) (x := 300) m_234 rfl rfl rfl (ev_iload_n (pc' := 26) m_234 rfl rfl rfl (ev_imul (pc' := 27) m_234 rfl rfl ?_))))
        obtain ⟨g3, h⟩ := Ok_g h
        refine tr_iald (pc' := 28) m_234 rfl rfl rfl g3 rfl (ev_istore_n (pc' := 29) m_234 rfl rfl rfl rfl (ev_aload_n (pc' := 30) m_234 rfl rfl rfl (ev_iload_n (pc' := 31) m_234 rfl rfl rfl (ev_iconst (pc' := 32) (x := 0) m_234 rfl rfl rfl ?_))))
        refine tr_cv (pc' := 35) m_234 rfl rfl rfl m_230 rfl rfl rfl rfl (tr_rcv ts_o87 rfl) rfl rfl (cR_drop_ok l1 ((0 : Int32)) _ _ (Ok_b h)) (fun s5 h => ?_)
        refine ev_aload_n (pc' := 36) m_234 rfl rfl rfl (tr_get (pc' := 39) (v := .ref 129) m_234 rfl rfl ts_o87 rfl rfl rfl (ev_iload_n (pc' := 40) m_234 rfl rfl rfl (ev_dup2 (pc' := 41) m_234 rfl ⟨rfl, rfl⟩ rfl (tr_iald (pc' := 42) m_234 rfl rfl rfl g1 rfl (ev_iconst (pc' := 43) (x := 1) m_234 rfl rfl rfl (ev_isub (pc' := 44) m_234 rfl rfl (tr_iast (pc' := 45) m_234 rfl rfl rfl g1 rfl ?_)))))))
        refine ev_aload_n (pc' := 46) m_234 rfl rfl rfl (tr_get (pc' := 49) (v := .ref 128) m_234 rfl rfl ts_o87 rfl rfl rfl (ev_bipush (pc' := 51) (x := 8) m_234 rfl rfl rfl (ev_iload_n (pc' := 52) m_234 rfl rfl rfl (ev_imul (pc' := 53) m_234 rfl rfl (ev_iload_n (pc' := 54) m_234 rfl rfl rfl (ev_iadd (pc' := 55) m_234 rfl rfl (ev_dup2 (pc' := 56) m_234 rfl ⟨rfl, rfl⟩ rfl ?_)))))))
        obtain ⟨g7, h⟩ := Ok_g h
        refine tr_iald (pc' := 57) m_234 rfl rfl rfl g7 rfl (ev_iconst (pc' := 58) (x := 1) m_234 rfl rfl rfl (ev_iadd (pc' := 59) m_234 rfl rfl (tr_iast (pc' := 60) m_234 rfl rfl rfl g7 rfl (ev_aload_n (pc' := 61) m_234 rfl rfl rfl (ev_iload_n (pc' := 62) m_234 rfl rfl rfl (ev_iload_n (pc' := 63) m_234 rfl rfl rfl ?_))))))
        refine tr_cv (pc' := 66) m_234 rfl rfl rfl m_232 rfl rfl rfl rfl (tr_rcv ts_o87 rfl) rfl rfl (cR_count_ok l1 (gA s 137 (((300 : Int32)) * l1).toNatClampNeg) _ _ (Ok_b h)) (fun s9 h => ?_)
        refine ev_goto (pc' := 0) m_234 rfl rfl ?_
        exact am_Ev.sub (L := [(0, .ref 87), (1, .int (l1))]) ⟨rfl, rfl, trivial⟩ (ih l1 _ _ h)
def cR_serveResource (l1 : Int32) (s : ts) : Option (ts) := cR_serveResource_0 tm_N l1 s
theorem cR_serveResource_ok {d : Nat} (l1 : Int32) (s : ts) (Q : ts → Prop) (h : Ok (cR_serveResource l1 s) Q) : am_Ev (d + 2) 234 (0, [(0, .ref 87), (1, .int (l1))], []) (lay s) (tq_v Q) := cR_serveResource_0_ok tm_N l1 s Q h
def cR_finish_153_b (k144 : Int32 → Int32 → ts → Option (ts)) (kk : Int32 → Int32 → ts → Option (ts)) (l1 : Int32) (l4 : Int32) (s : ts) : Option (ts) := (if am_idx ((((8 : Int32)) * l1) + l4) 2400 = true then (if (gA s 128 ((((8 : Int32)) * l1) + l4).toNatClampNeg) ≤ ((0 : Int32)) then k144 l1 (l4 + (1 : Int32)) s else (if am_idx l4 14 = true then (cR_serveResource l4 (wA (wA s 128 ((((8 : Int32)) * l1) + l4).toNatClampNeg ((gA s 128 ((((8 : Int32)) * l1) + l4).toNatClampNeg) - ((1 : Int32)))) 129 l4.toNatClampNeg ((gA (wA s 128 ((((8 : Int32)) * l1) + l4).toNatClampNeg ((gA s 128 ((((8 : Int32)) * l1) + l4).toNatClampNeg) - ((1 : Int32)))) 129 l4.toNatClampNeg) + ((1 : Int32))))).bind (fun s4 => kk l1 l4 s4) else none)) else none)
def cR_finish_153 (k144 : Int32 → Int32 → ts → Option (ts)) : Nat → Int32 → Int32 → ts → Option (ts)
  | 0, _, _, _ => none
  | n + 1, l1, l4, s => cR_finish_153_b k144 (cR_finish_153 k144 n) l1 l4 s
set_option maxRecDepth 20000 in
theorem cR_finish_153_ok {d : Nat} (k144 : Int32 → Int32 → ts → Option (ts)) (hk144 : ∀ (l1 : Int32) (l4 : Int32) (s : ts) (Q : ts → Prop), Ok (k144 l1 l4 s) Q → am_Ev (d + 3) 228 (144, [(0, .ref 87), (1, .int (l1)), (4, .int (l4))], []) (lay s) (tq_v Q)) : ∀ (n : Nat) (l1 : Int32) (l4 : Int32) (s : ts) (Q : ts → Prop), Ok (cR_finish_153 k144 n l1 l4 s) Q → am_Ev (d + 3) 228 (153, [(0, .ref 87), (1, .int (l1)), (4, .int (l4))], []) (lay s) (tq_v Q) := by
  intro n
  induction n with
  | zero => intro l1 l4 s Q h; exact Ok_n h
  | succ n ih =>
    intro l1 l4 s Q h
    rw [cR_finish_153.eq_2] at h
    unfold cR_finish_153_b at h
    refine ev_aload_n (pc' := 154) m_228 rfl rfl rfl (tr_get (pc' := 157) (v := .ref 128) m_228 rfl rfl ts_o87 rfl rfl rfl (ev_bipush (pc' := 159) (x := 8) m_228 rfl rfl rfl (ev_iload_n (pc' := 160) m_228 rfl rfl rfl (ev_imul (pc' := 161) m_228 rfl rfl (ev_iload (pc' := 163) m_228 rfl rfl rfl (ev_iadd (pc' := 164) m_228 rfl rfl ?_))))))
    obtain ⟨g1, h⟩ := Ok_g h
    refine tr_iald (pc' := 165) m_228 rfl rfl rfl g1 rfl ?_
    refine ev_if_le (t := 204) (e := 168) m_228 rfl rfl rfl (fun c6 => ?_) (fun c6 => ?_)
    · replace h := Ok_t c6 h
      refine ev_iinc (pc' := 207) (z := 1) m_228 rfl rfl rfl rfl rfl rfl (ev_goto (pc' := 144) m_228 rfl rfl ?_)
      exact am_Ev.sub (L := [(0, .ref 87), (1, .int (l1)), (4, .int (l4 + (1 : Int32)))]) ⟨rfl, rfl, rfl, trivial⟩ (hk144 l1 (l4 + (1 : Int32)) _ _ h)
    · replace h := Ok_f c6 h
      refine ev_aload_n (pc' := 169) m_228 rfl rfl rfl (tr_get (pc' := 172) (v := .ref 128) m_228 rfl rfl ts_o87 rfl rfl rfl (ev_bipush (pc' := 174) (x := 8) m_228 rfl rfl rfl (ev_iload_n (pc' := 175) m_228 rfl rfl rfl (ev_imul (pc' := 176) m_228 rfl rfl (ev_iload (pc' := 178) m_228 rfl rfl rfl (ev_iadd (pc' := 179) m_228 rfl rfl (ev_dup2 (pc' := 180) m_228 rfl ⟨rfl, rfl⟩ rfl ?_)))))))
      refine tr_iald (pc' := 181) m_228 rfl rfl rfl g1 rfl (ev_iconst (pc' := 182) (x := 1) m_228 rfl rfl rfl (ev_isub (pc' := 183) m_228 rfl rfl (tr_iast (pc' := 184) m_228 rfl rfl rfl g1 rfl (ev_aload_n (pc' := 185) m_228 rfl rfl rfl (tr_get (pc' := 188) (v := .ref 129) m_228 rfl rfl ts_o87 rfl rfl rfl (ev_iload (pc' := 190) m_228 rfl rfl rfl (ev_dup2 (pc' := 191) m_228 rfl ⟨rfl, rfl⟩ rfl ?_)))))))
      obtain ⟨g2, h⟩ := Ok_g h
      refine tr_iald (pc' := 192) m_228 rfl rfl rfl g2 rfl (ev_iconst (pc' := 193) (x := 1) m_228 rfl rfl rfl (ev_iadd (pc' := 194) m_228 rfl rfl (tr_iast (pc' := 195) m_228 rfl rfl rfl g2 rfl (ev_aload_n (pc' := 196) m_228 rfl rfl rfl (ev_iload (pc' := 198) m_228 rfl rfl rfl ?_)))))
      refine tr_cv (pc' := 201) m_228 rfl rfl rfl m_234 rfl rfl rfl rfl (tr_rcv ts_o87 rfl) rfl rfl (cR_serveResource_ok l4 _ _ (Ok_b h)) (fun s4 h => ?_)
      refine ev_goto (pc' := 153) m_228 rfl rfl ?_
      exact am_Ev.sub (L := [(0, .ref 87), (1, .int (l1)), (4, .int (l4))]) ⟨rfl, rfl, rfl, trivial⟩ (ih l1 l4 _ _ h)
def cR_finish_144_b (kk : Int32 → Int32 → ts → Option (ts)) (l1 : Int32) (l4 : Int32) (s : ts) : Option (ts) := (if (gI s 1110 0) ≤ l4 then some s else cR_finish_153 kk tm_N l1 l4 s)
def cR_finish_144 : Nat → Int32 → Int32 → ts → Option (ts)
  | 0, _, _, _ => none
  | n + 1, l1, l4, s => cR_finish_144_b (cR_finish_144 n) l1 l4 s
set_option maxRecDepth 20000 in
theorem cR_finish_144_ok {d : Nat} : ∀ (n : Nat) (l1 : Int32) (l4 : Int32) (s : ts) (Q : ts → Prop), Ok (cR_finish_144 n l1 l4 s) Q → am_Ev (d + 3) 228 (144, [(0, .ref 87), (1, .int (l1)), (4, .int (l4))], []) (lay s) (tq_v Q) := by
  intro n
  induction n with
  | zero => intro l1 l4 s Q h; exact Ok_n h
  | succ n ih =>
    intro l1 l4 s Q h
    rw [cR_finish_144.eq_2] at h
    unfold cR_finish_144_b at h
    refine ev_iload (pc' := 146) m_228 rfl rfl rfl (ev_aload_n (pc' := 147) m_228 rfl rfl rfl (tr_get (pc' := 150) (v := .int (gI _ 1110 _)) m_228 rfl rfl ts_o87 rfl rfl rfl ?_))
    refine ev_icmp_ge (t := 210) (e := 153) m_228 rfl rfl rfl (fun c1 => ?_) (fun c1 => ?_)
    · replace h := Ok_t c1 h
      exact tr_rv m_228 rfl rfl (Ok_s h)
    · replace h := Ok_f c1 h
      exact am_Ev.sub (L := [(0, .ref 87), (1, .int (l1)), (4, .int (l4))]) ⟨rfl, rfl, rfl, trivial⟩ (cR_finish_153_ok (cR_finish_144 n) ih tm_N l1 l4 _ _ h)
def cR_finish_62 (l1 : Int32) (l3 : Int32) (t1 : Int32) (t2 : Int32) (s : ts) : Option (ts) := (if l3 = ((2 : Int32)) then (if am_idx l1 300 = true then (cR_leaveRow (gA (wI s 1157 0 (t1 + t2)) 125 l1.toNatClampNeg) l1 (wI s 1157 0 (t1 + t2))).bind (fun s18 => cR_finish_144 tm_N l1 ((0 : Int32)) s18) else none) else (if l3 = ((3 : Int32)) then (if am_idx l1 300 = true then (cR_leaveRow (gA (wI s 1157 0 (t1 + t2)) 125 l1.toNatClampNeg) l1 (wI s 1157 0 (t1 + t2))).bind (fun s7 => (cR_leaveRow (((14 : Int32)) + (gA s7 125 l1.toNatClampNeg)) l1 s7).bind (fun s10 => (cR_serveStore ((gA s10 125 l1.toNatClampNeg) - ((8 : Int32))) s10).bind (fun s13 => cR_finish_144 tm_N l1 ((0 : Int32)) s13))) else none) else (if l3 = ((4 : Int32)) then (cR_leaveAwaits l1 (wI s 1157 0 (t1 + t2))).bind (fun s2 => cR_finish_144 tm_N l1 ((0 : Int32)) s2) else cR_finish_144 tm_N l1 ((0 : Int32)) (wI s 1157 0 (t1 + t2)))))
set_option maxRecDepth 20000 in
theorem cR_finish_62_ok {d : Nat} (l1 : Int32) (l3 : Int32) (t1 : Int32) (t2 : Int32) (s : ts) (Q : ts → Prop) (h : Ok (cR_finish_62 l1 l3 t1 t2 s) Q) : am_Ev (d + 3) 228 (62, [(0, .ref 87), (1, .int (l1)), (3, .int (l3))], [.int (t2), .int (t1), .ref 87]) (lay s) (tq_v Q) := by
  unfold cR_finish_62 at h
  refine ev_iadd (pc' := 63) m_228 rfl rfl (tr_pI (pc' := 66) (f := 1157) m_228 rfl rfl rfl ts_o87 rfl rfl rfl rfl (ev_iload_n (pc' := 67) m_228 rfl rfl rfl (ev_iconst (pc' := 68) (x := 2) m_228 rfl rfl rfl ?_)))
  refine ev_icmp_ne (t := 85) (e := 71) m_228 rfl rfl rfl (fun c20 => ?_) (fun c20 => ?_)
  · replace h := Ok_f c20 h
    refine ev_iload_n (pc' := 86) m_228 rfl rfl rfl (ev_iconst (pc' := 87) (x := 3) m_228 rfl rfl rfl ?_)
    refine ev_icmp_ne (t := 131) (e := 90) m_228 rfl rfl rfl (fun c15 => ?_) (fun c15 => ?_)
    · replace h := Ok_f c15 h
      refine ev_iload_n (pc' := 132) m_228 rfl rfl rfl (ev_iconst (pc' := 133) (x := 4) m_228 rfl rfl rfl ?_)
      refine ev_icmp_ne (t := 141) (e := 136) m_228 rfl rfl rfl (fun c4 => ?_) (fun c4 => ?_)
      · replace h := Ok_f c4 h
        refine ev_iconst (pc' := 142) (x := 0) m_228 rfl rfl rfl (ev_istore (pc' := 144) m_228 rfl rfl rfl rfl ?_)
        exact am_Ev.sub (L := [(0, .ref 87), (1, .int (l1)), (4, .int ((0 : Int32)))]) ⟨rfl, rfl, rfl, trivial⟩ (cR_finish_144_ok tm_N l1 ((0 : Int32)) _ _ h)
      · replace h := Ok_t c4 h
        refine ev_aload_n (pc' := 137) m_228 rfl rfl rfl (ev_iload_n (pc' := 138) m_228 rfl rfl rfl ?_)
        refine tr_cv (pc' := 141) m_228 rfl rfl rfl m_233 rfl rfl rfl rfl (tr_rcv ts_o87 rfl) rfl rfl (cR_leaveAwaits_ok l1 _ _ (Ok_b h)) (fun s2 h => ?_)
        refine ev_iconst (pc' := 142) (x := 0) m_228 rfl rfl rfl (ev_istore (pc' := 144) m_228 rfl rfl rfl rfl ?_)
        exact am_Ev.sub (L := [(0, .ref 87), (1, .int (l1)), (4, .int ((0 : Int32)))]) ⟨rfl, rfl, rfl, trivial⟩ (cR_finish_144_ok tm_N l1 ((0 : Int32)) _ _ h)
    · replace h := Ok_t c15 h
      refine ev_aload_n (pc' := 91) m_228 rfl rfl rfl (ev_aload_n (pc' := 92) m_228 rfl rfl rfl (tr_get (pc' := 95) (v := .ref 125) m_228 rfl rfl ts_o87 rfl rfl rfl (ev_iload_n (pc' := 96) m_228 rfl rfl rfl ?_)))
      obtain ⟨g5, h⟩ := Ok_g h
      refine tr_iald (pc' := 97) m_228 rfl rfl rfl g5 rfl (ev_iload_n (pc' := 98) m_228 rfl rfl rfl ?_)
      refine tr_cv (pc' := 101) m_228 rfl rfl rfl m_229 rfl rfl rfl rfl (tr_rcv ts_o87 rfl) rfl rfl (cR_leaveRow_ok (gA (wI s 1157 0 (t1 + t2)) 125 l1.toNatClampNeg) l1 _ _ (Ok_b h)) (fun s7 h => ?_)
      refine ev_aload_n (pc' := 102) m_228 rfl rfl rfl (ev_bipush (pc' := 104) (x := 14) m_228 rfl rfl rfl (ev_aload_n (pc' := 105) m_228 rfl rfl rfl (tr_get (pc' := 108) (v := .ref 125) m_228 rfl rfl ts_o87 rfl rfl rfl (ev_iload_n (pc' := 109) m_228 rfl rfl rfl (tr_iald (pc' := 110) m_228 rfl rfl rfl g5 rfl (ev_iadd (pc' := 111) m_228 rfl rfl (ev_iload_n (pc' := 112) m_228 rfl rfl rfl ?_)))))))
      refine tr_cv (pc' := 115) m_228 rfl rfl rfl m_229 rfl rfl rfl rfl (tr_rcv ts_o87 rfl) rfl rfl (cR_leaveRow_ok (((14 : Int32)) + (gA s7 125 l1.toNatClampNeg)) l1 _ _ (Ok_b h)) (fun s10 h => ?_)
      refine ev_aload_n (pc' := 116) m_228 rfl rfl rfl (ev_aload_n (pc' := 117) m_228 rfl rfl rfl (tr_get (pc' := 120) (v := .ref 125) m_228 rfl rfl ts_o87 rfl rfl rfl (ev_iload_n (pc' := 121) m_228 rfl rfl rfl (tr_iald (pc' := 122) m_228 rfl rfl rfl g5 rfl (ev_bipush (pc' := 124) (x := 8) m_228 rfl rfl rfl (ev_isub (pc' := 125) m_228 rfl rfl ?_))))))
      refine tr_cv (pc' := 128) m_228 rfl rfl rfl m_231 rfl rfl rfl rfl (tr_rcv ts_o87 rfl) rfl rfl (cR_serveStore_ok ((gA s10 125 l1.toNatClampNeg) - ((8 : Int32))) _ _ (Ok_b h)) (fun s13 h => ?_)
      refine ev_goto (pc' := 141) m_228 rfl rfl (ev_iconst (pc' := 142) (x := 0) m_228 rfl rfl rfl (ev_istore (pc' := 144) m_228 rfl rfl rfl rfl ?_))
      exact am_Ev.sub (L := [(0, .ref 87), (1, .int (l1)), (4, .int ((0 : Int32)))]) ⟨rfl, rfl, rfl, trivial⟩ (cR_finish_144_ok tm_N l1 ((0 : Int32)) _ _ h)
  · replace h := Ok_t c20 h
    refine ev_aload_n (pc' := 72) m_228 rfl rfl rfl (ev_aload_n (pc' := 73) m_228 rfl rfl rfl (tr_get (pc' := 76) (v := .ref 125) m_228 rfl rfl ts_o87 rfl rfl rfl (ev_iload_n (pc' := 77) m_228 rfl rfl rfl ?_)))
    obtain ⟨g16, h⟩ := Ok_g h
    refine tr_iald (pc' := 78) m_228 rfl rfl rfl g16 rfl (ev_iload_n (pc' := 79) m_228 rfl rfl rfl ?_)
    refine tr_cv (pc' := 82) m_228 rfl rfl rfl m_229 rfl rfl rfl rfl (tr_rcv ts_o87 rfl) rfl rfl (cR_leaveRow_ok (gA (wI s 1157 0 (t1 + t2)) 125 l1.toNatClampNeg) l1 _ _ (Ok_b h)) (fun s18 h => ?_)
    refine ev_goto (pc' := 141) m_228 rfl rfl (ev_iconst (pc' := 142) (x := 0) m_228 rfl rfl rfl (ev_istore (pc' := 144) m_228 rfl rfl rfl rfl ?_))
    exact am_Ev.sub (L := [(0, .ref 87), (1, .int (l1)), (4, .int ((0 : Int32)))]) ⟨rfl, rfl, rfl, trivial⟩ (cR_finish_144_ok tm_N l1 ((0 : Int32)) _ _ h)
def cR_finish_44 (l1 : Int32) (l2 : Int32) (l3 : Int32) (t1 : Int32) (t2 : Int32) (s : ts) : Option (ts) := (if l2 ≤ ((0 : Int32)) then cR_finish_62 l1 l3 (gI (wI s 1156 0 (t1 + t2)) 1157 0) ((0 : Int32)) (wI s 1156 0 (t1 + t2)) else cR_finish_62 l1 l3 (gI (wI s 1156 0 (t1 + t2)) 1157 0) ((1 : Int32)) (wI s 1156 0 (t1 + t2)))
set_option maxRecDepth 20000 in
theorem cR_finish_44_ok {d : Nat} (l1 : Int32) (l2 : Int32) (l3 : Int32) (t1 : Int32) (t2 : Int32) (s : ts) (Q : ts → Prop) (h : Ok (cR_finish_44 l1 l2 l3 t1 t2 s) Q) : am_Ev (d + 3) 228 (44, [(0, .ref 87), (1, .int (l1)), (2, .int (l2)), (3, .int (l3))], [.int (t2), .int (t1), .ref 87]) (lay s) (tq_v Q) := by
  unfold cR_finish_44 at h
  refine ev_iadd (pc' := 45) m_228 rfl rfl (tr_pI (pc' := 48) (f := 1156) m_228 rfl rfl rfl ts_o87 rfl rfl rfl rfl (ev_aload_n (pc' := 49) m_228 rfl rfl rfl (ev_dup (pc' := 50) m_228 rfl rfl rfl (tr_get (pc' := 53) (v := .int (gI _ 1157 _)) m_228 rfl rfl ts_o87 rfl rfl rfl (ev_iload_n (pc' := 54) m_228 rfl rfl rfl ?_)))))
  refine ev_if_le (t := 61) (e := 57) m_228 rfl rfl rfl (fun c1 => ?_) (fun c1 => ?_)
  · replace h := Ok_t c1 h
    refine ev_iconst (pc' := 62) (x := 0) m_228 rfl rfl rfl ?_
    exact am_Ev.sub (L := [(0, .ref 87), (1, .int (l1)), (3, .int (l3))]) ⟨rfl, rfl, rfl, trivial⟩ (cR_finish_62_ok l1 l3 (gI (wI s 1156 0 (t1 + t2)) 1157 0) ((0 : Int32)) _ _ h)
  · replace h := Ok_f c1 h
    refine ev_iconst (pc' := 58) (x := 1) m_228 rfl rfl rfl (ev_goto (pc' := 62) m_228 rfl rfl ?_)
    exact am_Ev.sub (L := [(0, .ref 87), (1, .int (l1)), (3, .int (l3))]) ⟨rfl, rfl, rfl, trivial⟩ (cR_finish_62_ok l1 l3 (gI (wI s 1156 0 (t1 + t2)) 1157 0) ((1 : Int32)) _ _ h)
def cR_finish_22 (l1 : Int32) (l2 : Int32) (l3 : Int32) (t1 : Int32) (t2 : Int32) (s : ts) : Option (ts) := (if am_idx t1 300 = true then (if am_idx l1 300 = true then (if l2 ≤ ((0 : Int32)) then cR_finish_44 l1 l2 l3 (gI (wA (wA s 120 t1.toNatClampNeg t2) 126 l1.toNatClampNeg l2) 1156 0) ((1 : Int32)) (wA (wA s 120 t1.toNatClampNeg t2) 126 l1.toNatClampNeg l2) else cR_finish_44 l1 l2 l3 (gI (wA (wA s 120 t1.toNatClampNeg t2) 126 l1.toNatClampNeg l2) 1156 0) ((0 : Int32)) (wA (wA s 120 t1.toNatClampNeg t2) 126 l1.toNatClampNeg l2)) else none) else none)
set_option maxRecDepth 20000 in
theorem cR_finish_22_ok {d : Nat} (l1 : Int32) (l2 : Int32) (l3 : Int32) (t1 : Int32) (t2 : Int32) (s : ts) (Q : ts → Prop) (h : Ok (cR_finish_22 l1 l2 l3 t1 t2 s) Q) : am_Ev (d + 3) 228 (22, [(0, .ref 87), (1, .int (l1)), (2, .int (l2)), (3, .int (l3))], [.int (t2), .int (t1), .ref 120]) (lay s) (tq_v Q) := by
  unfold cR_finish_22 at h
  obtain ⟨g1, h⟩ := Ok_g h
  refine tr_iast (pc' := 23) m_228 rfl rfl rfl g1 rfl (ev_aload_n (pc' := 24) m_228 rfl rfl rfl (tr_get (pc' := 27) (v := .ref 126) m_228 rfl rfl ts_o87 rfl rfl rfl (ev_iload_n (pc' := 28) m_228 rfl rfl rfl (ev_iload_n (pc' := 29) m_228 rfl rfl rfl ?_))))
  obtain ⟨g2, h⟩ := Ok_g h
  refine tr_iast (pc' := 30) m_228 rfl rfl rfl g2 rfl (ev_aload_n (pc' := 31) m_228 rfl rfl rfl (ev_dup (pc' := 32) m_228 rfl rfl rfl (tr_get (pc' := 35) (v := .int (gI _ 1156 _)) m_228 rfl rfl ts_o87 rfl rfl rfl (ev_iload_n (pc' := 36) m_228 rfl rfl rfl ?_))))
  refine ev_if_le (t := 43) (e := 39) m_228 rfl rfl rfl (fun c3 => ?_) (fun c3 => ?_)
  · replace h := Ok_t c3 h
    refine ev_iconst (pc' := 44) (x := 1) m_228 rfl rfl rfl ?_
    exact am_Ev.sub (L := [(0, .ref 87), (1, .int (l1)), (2, .int (l2)), (3, .int (l3))]) ⟨rfl, rfl, rfl, rfl, trivial⟩ (cR_finish_44_ok l1 l2 l3 (gI (wA (wA s 120 t1.toNatClampNeg t2) 126 l1.toNatClampNeg l2) 1156 0) ((1 : Int32)) _ _ h)
  · replace h := Ok_f c3 h
    refine ev_iconst (pc' := 40) (x := 0) m_228 rfl rfl rfl (ev_goto (pc' := 44) m_228 rfl rfl ?_)
    exact am_Ev.sub (L := [(0, .ref 87), (1, .int (l1)), (2, .int (l2)), (3, .int (l3))]) ⟨rfl, rfl, rfl, rfl, trivial⟩ (cR_finish_44_ok l1 l2 l3 (gI (wA (wA s 120 t1.toNatClampNeg t2) 126 l1.toNatClampNeg l2) 1156 0) ((0 : Int32)) _ _ h)
def cR_finish (l1 : Int32) (l2 : Int32) (s : ts) : Option (ts) := (if am_idx l1 300 = true then (if l2 ≤ ((0 : Int32)) then cR_finish_22 l1 l2 (gA s 120 l1.toNatClampNeg) l1 ((5 : Int32)) s else cR_finish_22 l1 l2 (gA s 120 l1.toNatClampNeg) l1 ((6 : Int32)) s) else none)
set_option maxRecDepth 20000 in
theorem cR_finish_ok {d : Nat} (l1 : Int32) (l2 : Int32) (s : ts) (Q : ts → Prop) (h : Ok (cR_finish l1 l2 s) Q) : am_Ev (d + 3) 228 (0, [(0, .ref 87), (1, .int (l1)), (2, .int (l2))], []) (lay s) (tq_v Q) := by
  unfold cR_finish at h
  refine ev_aload_n (pc' := 1) m_228 rfl rfl rfl (tr_get (pc' := 4) (v := .ref 120) m_228 rfl rfl ts_o87 rfl rfl rfl (ev_iload_n (pc' := 5) m_228 rfl rfl rfl ?_))
  obtain ⟨g1, h⟩ := Ok_g h
  refine tr_iald (pc' := 6) m_228 rfl rfl rfl g1 rfl (ev_istore_n (pc' := 7) m_228 rfl rfl rfl rfl (ev_aload_n (pc' := 8) m_228 rfl rfl rfl (tr_get (pc' := 11) (v := .ref 120) m_228 rfl rfl ts_o87 rfl rfl rfl (ev_iload_n (pc' := 12) m_228 rfl rfl rfl (ev_iload_n (pc' := 13) m_228 rfl rfl rfl ?_)))))
  refine ev_if_le (t := 21) (e := 16) m_228 rfl rfl rfl (fun c2 => ?_) (fun c2 => ?_)
  · replace h := Ok_t c2 h
    refine ev_iconst (pc' := 22) (x := 5) m_228 rfl rfl rfl ?_
    exact am_Ev.sub (L := [(0, .ref 87), (1, .int (l1)), (2, .int (l2)), (3, .int (gA s 120 l1.toNatClampNeg))]) ⟨rfl, rfl, rfl, rfl, trivial⟩ (cR_finish_22_ok l1 l2 (gA s 120 l1.toNatClampNeg) l1 ((5 : Int32)) _ _ h)
  · replace h := Ok_f c2 h
    refine ev_bipush (pc' := 18) (x := 6) m_228 rfl rfl rfl (ev_goto (pc' := 22) m_228 rfl rfl ?_)
    exact am_Ev.sub (L := [(0, .ref 87), (1, .int (l1)), (2, .int (l2)), (3, .int (gA s 120 l1.toNatClampNeg))]) ⟨rfl, rfl, rfl, rfl, trivial⟩ (cR_finish_22_ok l1 l2 (gA s 120 l1.toNatClampNeg) l1 ((6 : Int32)) _ _ h)
def cR_draw (l1 : Int32) (s : ts) : Option (Int32 × ts) := (if ((1 : Int32)) ≤ l1 then (if ¬ l1 = 0 then some (((gI (wI s 1158 0 ((((((1103515245 : Int64)) * ((gI s 1158 0).toInt64)) + ((12345 : Int64))) &&& ((2147483647 : Int64))).toInt32)) 1158 0) / ((256 : Int32))) - ((gI (wI s 1158 0 ((((((1103515245 : Int64)) * ((gI s 1158 0).toInt64)) + ((12345 : Int64))) &&& ((2147483647 : Int64))).toInt32)) 1158 0) / ((256 : Int32))) / l1 * l1, wI s 1158 0 ((((((1103515245 : Int64)) * ((gI s 1158 0).toInt64)) + ((12345 : Int64))) &&& ((2147483647 : Int64))).toInt32)) else none) else some ((0 : Int32), wI s 1188 0 ((6 : Int32))))
set_option maxRecDepth 20000 in
theorem cR_draw_ok {d : Nat} (l1 : Int32) (s : ts) (Q : Int32 × ts → Prop) (h : Ok (cR_draw l1 s) Q) : am_Ev (d + 0) 237 (0, [(0, .ref 87), (1, .int (l1))], []) (lay s) (tq_i Q) := by
  unfold cR_draw at h
  refine ev_iload_n (pc' := 1) m_237 rfl rfl rfl (ev_iconst (pc' := 2) (x := 1) m_237 rfl rfl rfl ?_)
  refine ev_icmp_ge (t := 13) (e := 5) m_237 rfl rfl rfl (fun c2 => ?_) (fun c2 => ?_)
  · replace h := Ok_t c2 h
    refine ev_aload_n (pc' := 14) m_237 rfl rfl rfl (tr_ldc2 (pc' := 17) m_237 rfl rfl rfl (ev_aload_n (pc' := 18) m_237 rfl rfl rfl (tr_get (pc' := 21) (v := .int (gI _ 1158 _)) m_237 rfl rfl ts_o87 rfl rfl rfl (ev_i2l (pc' := 22) m_237 rfl rfl (ev_lmul (pc' := 23) m_237 rfl rfl (tr_ldc2 (pc' := 26) m_237 rfl rfl rfl (ev_ladd (pc' := 27) m_237 rfl rfl ?_)))))))
    refine tr_ldc2 (pc' := 30) m_237 rfl rfl rfl (ev_land (pc' := 31) m_237 rfl rfl (ev_l2i (pc' := 32) m_237 rfl rfl (tr_pI (pc' := 35) (f := 1158) m_237 rfl rfl rfl ts_o87 rfl rfl rfl rfl (ev_aload_n (pc' := 36) m_237 rfl rfl rfl (tr_get (pc' := 39) (v := .int (gI _ 1158 _)) m_237 rfl rfl ts_o87 rfl rfl rfl (ev_sipush (pc' := 42) (x := 256) m_237 rfl rfl rfl (ev_idiv (pc' := 43) m_237 rfl (by decide) rfl ?_)))))))
    refine ev_iload_n (pc' := 44) m_237 rfl rfl rfl ?_
    obtain ⟨g1, h⟩ := Ok_g h
    refine ev_irem (pc' := 45) m_237 rfl g1 rfl ?_
    exact tr_ri m_237 rfl rfl (Ok_s h)
  · replace h := Ok_f c2 h
    refine ev_aload_n (pc' := 6) m_237 rfl rfl rfl (ev_bipush (pc' := 8) (x := 6) m_237 rfl rfl rfl (tr_pI (pc' := 11) (f := 1188) m_237 rfl rfl rfl ts_o87 rfl rfl rfl rfl (ev_iconst (pc' := 12) (x := 0) m_237 rfl rfl rfl ?_)))
    exact tr_ri m_237 rfl rfl (Ok_s h)
def cR_two_23 (l1 : Int32) (l2 : Int32) (l3 : Int32) (s : ts) : Option (Int32 × ts) := (if l1 = (37 : Int32) then (if ¬ l3 = 0 then some (l2 - l2 / l3 * l3, s) else none) else (if l1 = (42 : Int32) then some (l2 * l3, s) else (if l1 = (43 : Int32) then some (l2 + l3, s) else (if l1 = (45 : Int32) then some (l2 - l3, s) else (if l1 = (47 : Int32) then (if ¬ l3 = 0 then some (l2 / l3, s) else none) else (if l1 = (60 : Int32) then (if l3 ≤ l2 then some ((0 : Int32), s) else some ((1 : Int32), s)) else (if l1 = (62 : Int32) then (if l2 ≤ l3 then some ((0 : Int32), s) else some ((1 : Int32), s)) else (if l1 = (300 : Int32) then (if l2 = l3 then some ((1 : Int32), s) else some ((0 : Int32), s)) else (if l1 = (302 : Int32) then (if l3 < l2 then some ((0 : Int32), s) else some ((1 : Int32), s)) else (if l1 = (303 : Int32) then (if l2 < l3 then some ((0 : Int32), s) else some ((1 : Int32), s)) else (if l2 = l3 then some ((0 : Int32), s) else some ((1 : Int32), s))))))))))))
set_option maxRecDepth 20000 in
theorem cR_two_23_ok {d : Nat} (l1 : Int32) (l2 : Int32) (l3 : Int32) (s : ts) (Q : Int32 × ts → Prop) (h : Ok (cR_two_23 l1 l2 l3 s) Q) : am_Ev (d + 0) 238 (23, [(1, .int (l1)), (2, .int (l2)), (3, .int (l3))], []) (lay s) (tq_i Q) := by
  unfold cR_two_23 at h
  refine ev_iload_n (pc' := 24) m_238 rfl rfl rfl ?_
  by_cases c2 : l1 = (37 : Int32)
  · replace h := Ok_t c2 h
    refine ev_sw (pc' := 132) m_238 rfl (by rw [c2]; rfl) ?_
    refine ev_iload_n (pc' := 133) m_238 rfl rfl rfl (ev_iload_n (pc' := 134) m_238 rfl rfl rfl ?_)
    obtain ⟨g1, h⟩ := Ok_g h
    refine ev_irem (pc' := 135) m_238 rfl g1 rfl ?_
    exact tr_ri m_238 rfl rfl (Ok_s h)
  replace h := Ok_f c2 h
  by_cases c3 : l1 = (42 : Int32)
  · replace h := Ok_t c3 h
    refine ev_sw (pc' := 124) m_238 rfl (by rw [c3]; rfl) ?_
    refine ev_iload_n (pc' := 125) m_238 rfl rfl rfl (ev_iload_n (pc' := 126) m_238 rfl rfl rfl (ev_imul (pc' := 127) m_238 rfl rfl ?_))
    exact tr_ri m_238 rfl rfl (Ok_s h)
  replace h := Ok_f c3 h
  by_cases c4 : l1 = (43 : Int32)
  · replace h := Ok_t c4 h
    refine ev_sw (pc' := 116) m_238 rfl (by rw [c4]; rfl) ?_
    refine ev_iload_n (pc' := 117) m_238 rfl rfl rfl (ev_iload_n (pc' := 118) m_238 rfl rfl rfl (ev_iadd (pc' := 119) m_238 rfl rfl ?_))
    exact tr_ri m_238 rfl rfl (Ok_s h)
  replace h := Ok_f c4 h
  by_cases c5 : l1 = (45 : Int32)
  · replace h := Ok_t c5 h
    refine ev_sw (pc' := 120) m_238 rfl (by rw [c5]; rfl) ?_
    refine ev_iload_n (pc' := 121) m_238 rfl rfl rfl (ev_iload_n (pc' := 122) m_238 rfl rfl rfl (ev_isub (pc' := 123) m_238 rfl rfl ?_))
    exact tr_ri m_238 rfl rfl (Ok_s h)
  replace h := Ok_f c5 h
  by_cases c7 : l1 = (47 : Int32)
  · replace h := Ok_t c7 h
    refine ev_sw (pc' := 128) m_238 rfl (by rw [c7]; rfl) ?_
    refine ev_iload_n (pc' := 129) m_238 rfl rfl rfl (ev_iload_n (pc' := 130) m_238 rfl rfl rfl ?_)
    obtain ⟨g6, h⟩ := Ok_g h
    refine ev_idiv (pc' := 131) m_238 rfl g6 rfl ?_
    exact tr_ri m_238 rfl rfl (Ok_s h)
  replace h := Ok_f c7 h
  by_cases c9 : l1 = (60 : Int32)
  · replace h := Ok_t c9 h
    refine ev_sw (pc' := 136) m_238 rfl (by rw [c9]; rfl) ?_
    refine ev_iload_n (pc' := 137) m_238 rfl rfl rfl (ev_iload_n (pc' := 138) m_238 rfl rfl rfl ?_)
    refine ev_icmp_ge (t := 145) (e := 141) m_238 rfl rfl rfl (fun c8 => ?_) (fun c8 => ?_)
    · replace h := Ok_t c8 h
      refine ev_iconst (pc' := 146) (x := 0) m_238 rfl rfl rfl ?_
      exact tr_ri m_238 rfl rfl (Ok_s h)
    · replace h := Ok_f c8 h
      refine ev_iconst (pc' := 142) (x := 1) m_238 rfl rfl rfl (ev_goto (pc' := 146) m_238 rfl rfl ?_)
      exact tr_ri m_238 rfl rfl (Ok_s h)
  replace h := Ok_f c9 h
  by_cases c11 : l1 = (62 : Int32)
  · replace h := Ok_t c11 h
    refine ev_sw (pc' := 147) m_238 rfl (by rw [c11]; rfl) ?_
    refine ev_iload_n (pc' := 148) m_238 rfl rfl rfl (ev_iload_n (pc' := 149) m_238 rfl rfl rfl ?_)
    refine ev_icmp_le (t := 156) (e := 152) m_238 rfl rfl rfl (fun c10 => ?_) (fun c10 => ?_)
    · replace h := Ok_t c10 h
      refine ev_iconst (pc' := 157) (x := 0) m_238 rfl rfl rfl ?_
      exact tr_ri m_238 rfl rfl (Ok_s h)
    · replace h := Ok_f c10 h
      refine ev_iconst (pc' := 153) (x := 1) m_238 rfl rfl rfl (ev_goto (pc' := 157) m_238 rfl rfl ?_)
      exact tr_ri m_238 rfl rfl (Ok_s h)
  replace h := Ok_f c11 h
  by_cases c13 : l1 = (300 : Int32)
  · replace h := Ok_t c13 h
    refine ev_sw (pc' := 180) m_238 rfl (by rw [c13]; rfl) ?_
    refine ev_iload_n (pc' := 181) m_238 rfl rfl rfl (ev_iload_n (pc' := 182) m_238 rfl rfl rfl ?_)
    refine ev_icmp_ne (t := 189) (e := 185) m_238 rfl rfl rfl (fun c12 => ?_) (fun c12 => ?_)
    · replace h := Ok_f c12 h
      refine ev_iconst (pc' := 190) (x := 0) m_238 rfl rfl rfl ?_
      exact tr_ri m_238 rfl rfl (Ok_s h)
    · replace h := Ok_t c12 h
      refine ev_iconst (pc' := 186) (x := 1) m_238 rfl rfl rfl (ev_goto (pc' := 190) m_238 rfl rfl ?_)
      exact tr_ri m_238 rfl rfl (Ok_s h)
  replace h := Ok_f c13 h
  by_cases c15 : l1 = (302 : Int32)
  · replace h := Ok_t c15 h
    refine ev_sw (pc' := 158) m_238 rfl (by rw [c15]; rfl) ?_
    refine ev_iload_n (pc' := 159) m_238 rfl rfl rfl (ev_iload_n (pc' := 160) m_238 rfl rfl rfl ?_)
    refine ev_icmp_gt (t := 167) (e := 163) m_238 rfl rfl rfl (fun c14 => ?_) (fun c14 => ?_)
    · replace h := Ok_t c14 h
      refine ev_iconst (pc' := 168) (x := 0) m_238 rfl rfl rfl ?_
      exact tr_ri m_238 rfl rfl (Ok_s h)
    · replace h := Ok_f c14 h
      refine ev_iconst (pc' := 164) (x := 1) m_238 rfl rfl rfl (ev_goto (pc' := 168) m_238 rfl rfl ?_)
      exact tr_ri m_238 rfl rfl (Ok_s h)
  replace h := Ok_f c15 h
  by_cases c17 : l1 = (303 : Int32)
  · replace h := Ok_t c17 h
    refine ev_sw (pc' := 169) m_238 rfl (by rw [c17]; rfl) ?_
    refine ev_iload_n (pc' := 170) m_238 rfl rfl rfl (ev_iload_n (pc' := 171) m_238 rfl rfl rfl ?_)
    refine ev_icmp_lt (t := 178) (e := 174) m_238 rfl rfl rfl (fun c16 => ?_) (fun c16 => ?_)
    · replace h := Ok_t c16 h
      refine ev_iconst (pc' := 179) (x := 0) m_238 rfl rfl rfl ?_
      exact tr_ri m_238 rfl rfl (Ok_s h)
    · replace h := Ok_f c16 h
      refine ev_iconst (pc' := 175) (x := 1) m_238 rfl rfl rfl (ev_goto (pc' := 179) m_238 rfl rfl ?_)
      exact tr_ri m_238 rfl rfl (Ok_s h)
  replace h := Ok_f c17 h
  refine ev_sw (pc' := 191) m_238 rfl (by exact ev_ldef rfl (by simp only [Op.lookupswitch.offset, List.find?]; rw [if_neg (ts_nel c2 (by decide)), if_neg (ts_nel c3 (by decide)), if_neg (ts_nel c4 (by decide)), if_neg (ts_nel c5 (by decide)), if_neg (ts_nel c7 (by decide)), if_neg (ts_nel c9 (by decide)), if_neg (ts_nel c11 (by decide)), if_neg (ts_nel c13 (by decide)), if_neg (ts_nel c15 (by decide)), if_neg (ts_nel c17 (by decide))]) rfl) ?_
  refine ev_iload_n (pc' := 192) m_238 rfl rfl rfl (ev_iload_n (pc' := 193) m_238 rfl rfl rfl ?_)
  refine ev_icmp_eq (t := 200) (e := 196) m_238 rfl rfl rfl (fun c18 => ?_) (fun c18 => ?_)
  · replace h := Ok_t c18 h
    refine ev_iconst (pc' := 201) (x := 0) m_238 rfl rfl rfl ?_
    exact tr_ri m_238 rfl rfl (Ok_s h)
  · replace h := Ok_f c18 h
    refine ev_iconst (pc' := 197) (x := 1) m_238 rfl rfl rfl (ev_goto (pc' := 201) m_238 rfl rfl ?_)
    exact tr_ri m_238 rfl rfl (Ok_s h)
def cR_two_12 (l1 : Int32) (l2 : Int32) (l3 : Int32) (s : ts) : Option (Int32 × ts) := (if l3 = ((0 : Int32)) then some ((0 : Int32), wI s 1188 0 ((1 : Int32))) else cR_two_23 l1 l2 l3 s)
set_option maxRecDepth 20000 in
theorem cR_two_12_ok {d : Nat} (l1 : Int32) (l2 : Int32) (l3 : Int32) (s : ts) (Q : Int32 × ts → Prop) (h : Ok (cR_two_12 l1 l2 l3 s) Q) : am_Ev (d + 0) 238 (12, [(0, .ref 87), (1, .int (l1)), (2, .int (l2)), (3, .int (l3))], []) (lay s) (tq_i Q) := by
  unfold cR_two_12 at h
  refine ev_iload_n (pc' := 13) m_238 rfl rfl rfl ?_
  refine ev_if_ne (t := 23) (e := 16) m_238 rfl rfl rfl (fun c1 => ?_) (fun c1 => ?_)
  · replace h := Ok_f c1 h
    exact am_Ev.sub (L := [(1, .int (l1)), (2, .int (l2)), (3, .int (l3))]) ⟨rfl, rfl, rfl, trivial⟩ (cR_two_23_ok l1 l2 l3 _ _ h)
  · replace h := Ok_t c1 h
    refine ev_aload_n (pc' := 17) m_238 rfl rfl rfl (ev_iconst (pc' := 18) (x := 1) m_238 rfl rfl rfl (tr_pI (pc' := 21) (f := 1188) m_238 rfl rfl rfl ts_o87 rfl rfl rfl rfl (ev_iconst (pc' := 22) (x := 0) m_238 rfl rfl rfl ?_)))
    exact tr_ri m_238 rfl rfl (Ok_s h)
def cR_two (l1 : Int32) (l2 : Int32) (l3 : Int32) (s : ts) : Option (Int32 × ts) := (if l1 = ((47 : Int32)) then cR_two_12 l1 l2 l3 s else (if l1 = ((37 : Int32)) then cR_two_12 l1 l2 l3 s else cR_two_23 l1 l2 l3 s))
set_option maxRecDepth 20000 in
theorem cR_two_ok {d : Nat} (l1 : Int32) (l2 : Int32) (l3 : Int32) (s : ts) (Q : Int32 × ts → Prop) (h : Ok (cR_two l1 l2 l3 s) Q) : am_Ev (d + 0) 238 (0, [(0, .ref 87), (1, .int (l1)), (2, .int (l2)), (3, .int (l3))], []) (lay s) (tq_i Q) := by
  unfold cR_two at h
  refine ev_iload_n (pc' := 1) m_238 rfl rfl rfl (ev_bipush (pc' := 3) (x := 47) m_238 rfl rfl rfl ?_)
  refine ev_icmp_eq (t := 12) (e := 6) m_238 rfl rfl rfl (fun c2 => ?_) (fun c2 => ?_)
  · replace h := Ok_t c2 h
    exact am_Ev.sub (L := [(0, .ref 87), (1, .int (l1)), (2, .int (l2)), (3, .int (l3))]) ⟨rfl, rfl, rfl, rfl, trivial⟩ (cR_two_12_ok l1 l2 l3 _ _ h)
  · replace h := Ok_f c2 h
    refine ev_iload_n (pc' := 7) m_238 rfl rfl rfl (ev_bipush (pc' := 9) (x := 37) m_238 rfl rfl rfl ?_)
    refine ev_icmp_ne (t := 23) (e := 12) m_238 rfl rfl rfl (fun c1 => ?_) (fun c1 => ?_)
    · replace h := Ok_f c1 h
      exact am_Ev.sub (L := [(1, .int (l1)), (2, .int (l2)), (3, .int (l3))]) ⟨rfl, rfl, rfl, trivial⟩ (cR_two_23_ok l1 l2 l3 _ _ h)
    · replace h := Ok_t c1 h
      exact am_Ev.sub (L := [(0, .ref 87), (1, .int (l1)), (2, .int (l2)), (3, .int (l3))]) ⟨rfl, rfl, rfl, rfl, trivial⟩ (cR_two_12_ok l1 l2 l3 _ _ h)
def cR_reckon_68 (k10 : Int32 → Int32 → Int32 → ts → Option (Int32 × ts)) (l2 : Int32) (l3 : Int32) (l4 : Int32) (l5 : Int32) (l6 : Int32) (s : ts) : Option (Int32 × ts) := (if l5 = ((1 : Int32)) then (if am_idx l3 4200 = true then k10 l2 (l3 + (1 : Int32)) l4 (wA s 140 l3.toNatClampNeg l6) else none) else (if l5 = ((2 : Int32)) then (if am_idx ((((8 : Int32)) * l2) + l6) 2400 = true then (if am_idx l3 4200 = true then k10 l2 (l3 + (1 : Int32)) l4 (wA s 140 l3.toNatClampNeg (gA s 127 ((((8 : Int32)) * l2) + l6).toNatClampNeg)) else none) else none) else (if l5 = ((3 : Int32)) then (if am_idx l6 16 = true then (if am_idx l3 4200 = true then k10 l2 (l3 + (1 : Int32)) l4 (wA s 140 l3.toNatClampNeg (gA s 118 l6.toNatClampNeg)) else none) else none) else (if l5 = ((4 : Int32)) then (if am_idx l3 4200 = true then k10 l2 (l3 + (1 : Int32)) l4 (wA s 140 l3.toNatClampNeg (gI s 1152 0)) else none) else (if l5 = ((5 : Int32)) then (if am_idx l3 4200 = true then k10 l2 (l3 + (1 : Int32)) l4 (wA s 140 l3.toNatClampNeg l2) else none) else (if l5 = ((7 : Int32)) then (if am_idx l6 14 = true then (if am_idx l3 4200 = true then k10 l2 (l3 + (1 : Int32)) l4 (wA s 140 l3.toNatClampNeg (gA s 129 l6.toNatClampNeg)) else none) else none) else (cR_waitingAt l6 s).bind (fun x3 => (if am_idx l3 4200 = true then k10 l2 (l3 + (1 : Int32)) l4 (wA x3.2 140 l3.toNatClampNeg x3.1) else none))))))))
set_option maxRecDepth 20000 in
theorem cR_reckon_68_ok {d : Nat} (k10 : Int32 → Int32 → Int32 → ts → Option (Int32 × ts)) (hk10 : ∀ (l2 : Int32) (l3 : Int32) (l4 : Int32) (s : ts) (Q : Int32 × ts → Prop), Ok (k10 l2 l3 l4 s) Q → am_Ev (d + 1) 236 (10, [(0, .ref 87), (2, .int (l2)), (3, .int (l3)), (4, .int (l4))], []) (lay s) (tq_i Q)) (l2 : Int32) (l3 : Int32) (l4 : Int32) (l5 : Int32) (l6 : Int32) (s : ts) (Q : Int32 × ts → Prop) (h : Ok (cR_reckon_68 k10 l2 l3 l4 l5 l6 s) Q) : am_Ev (d + 1) 236 (68, [(0, .ref 87), (2, .int (l2)), (3, .int (l3)), (4, .int (l4)), (5, .int (l5)), (6, .int (l6))], []) (lay s) (tq_i Q) := by
  unfold cR_reckon_68 at h
  refine ev_aload_n (pc' := 69) m_236 rfl rfl rfl (tr_get (pc' := 72) (v := .ref 140) m_236 rfl rfl ts_o87 rfl rfl rfl (ev_iload_n (pc' := 73) m_236 rfl rfl rfl (ev_iload (pc' := 75) m_236 rfl rfl rfl (ev_iconst (pc' := 76) (x := 1) m_236 rfl rfl rfl ?_))))
  refine ev_icmp_ne (t := 84) (e := 79) m_236 rfl rfl rfl (fun c19 => ?_) (fun c19 => ?_)
  · replace h := Ok_f c19 h
    refine ev_iload (pc' := 86) m_236 rfl rfl rfl (ev_iconst (pc' := 87) (x := 2) m_236 rfl rfl rfl ?_)
    refine ev_icmp_ne (t := 105) (e := 90) m_236 rfl rfl rfl (fun c17 => ?_) (fun c17 => ?_)
    · replace h := Ok_f c17 h
      refine ev_iload (pc' := 107) m_236 rfl rfl rfl (ev_iconst (pc' := 108) (x := 3) m_236 rfl rfl rfl ?_)
      refine ev_icmp_ne (t := 121) (e := 111) m_236 rfl rfl rfl (fun c14 => ?_) (fun c14 => ?_)
      · replace h := Ok_f c14 h
        refine ev_iload (pc' := 123) m_236 rfl rfl rfl (ev_iconst (pc' := 124) (x := 4) m_236 rfl rfl rfl ?_)
        refine ev_icmp_ne (t := 134) (e := 127) m_236 rfl rfl rfl (fun c11 => ?_) (fun c11 => ?_)
        · replace h := Ok_f c11 h
          refine ev_iload (pc' := 136) m_236 rfl rfl rfl (ev_iconst (pc' := 137) (x := 5) m_236 rfl rfl rfl ?_)
          refine ev_icmp_ne (t := 144) (e := 140) m_236 rfl rfl rfl (fun c9 => ?_) (fun c9 => ?_)
          · replace h := Ok_f c9 h
            refine ev_iload (pc' := 146) m_236 rfl rfl rfl (ev_bipush (pc' := 148) (x := 7) m_236 rfl rfl rfl ?_)
            refine ev_icmp_ne (t := 161) (e := 151) m_236 rfl rfl rfl (fun c7 => ?_) (fun c7 => ?_)
            · replace h := Ok_f c7 h
              refine ev_aload_n (pc' := 162) m_236 rfl rfl rfl (ev_iload (pc' := 164) m_236 rfl rfl rfl ?_)
              refine tr_ci (pc' := 167) m_236 rfl rfl rfl m_226 rfl rfl rfl rfl (tr_rcv ts_o87 rfl) rfl rfl (cR_waitingAt_ok l6 _ _ (Ok_b h)) (fun x3_ x3_s h => ?_)
              obtain ⟨g4, h⟩ := Ok_g h
              refine tr_iast (pc' := 168) m_236 rfl rfl rfl g4 rfl (ev_iinc (pc' := 171) (z := 1) m_236 rfl rfl rfl rfl rfl rfl (ev_goto (pc' := 372) m_236 rfl rfl (ev_goto (pc' := 10) m_236 rfl rfl ?_)))
              exact am_Ev.sub (L := [(0, .ref 87), (2, .int (l2)), (3, .int (l3 + (1 : Int32))), (4, .int (l4))]) ⟨rfl, rfl, rfl, rfl, trivial⟩ (hk10 l2 (l3 + (1 : Int32)) l4 _ _ h)
            · replace h := Ok_t c7 h
              refine ev_aload_n (pc' := 152) m_236 rfl rfl rfl (tr_get (pc' := 155) (v := .ref 129) m_236 rfl rfl ts_o87 rfl rfl rfl (ev_iload (pc' := 157) m_236 rfl rfl rfl ?_))
              obtain ⟨g5, h⟩ := Ok_g h
              refine tr_iald (pc' := 158) m_236 rfl rfl rfl g5 rfl (ev_goto (pc' := 167) m_236 rfl rfl ?_)
              obtain ⟨g6, h⟩ := Ok_g h
              refine tr_iast (pc' := 168) m_236 rfl rfl rfl g6 rfl (ev_iinc (pc' := 171) (z := 1) m_236 rfl rfl rfl rfl rfl rfl (ev_goto (pc' := 372) m_236 rfl rfl (ev_goto (pc' := 10) m_236 rfl rfl ?_)))
              exact am_Ev.sub (L := [(0, .ref 87), (2, .int (l2)), (3, .int (l3 + (1 : Int32))), (4, .int (l4))]) ⟨rfl, rfl, rfl, rfl, trivial⟩ (hk10 l2 (l3 + (1 : Int32)) l4 _ _ h)
          · replace h := Ok_t c9 h
            refine ev_iload_n (pc' := 141) m_236 rfl rfl rfl (ev_goto (pc' := 167) m_236 rfl rfl ?_)
            obtain ⟨g8, h⟩ := Ok_g h
            refine tr_iast (pc' := 168) m_236 rfl rfl rfl g8 rfl (ev_iinc (pc' := 171) (z := 1) m_236 rfl rfl rfl rfl rfl rfl (ev_goto (pc' := 372) m_236 rfl rfl (ev_goto (pc' := 10) m_236 rfl rfl ?_)))
            exact am_Ev.sub (L := [(0, .ref 87), (2, .int (l2)), (3, .int (l3 + (1 : Int32))), (4, .int (l4))]) ⟨rfl, rfl, rfl, rfl, trivial⟩ (hk10 l2 (l3 + (1 : Int32)) l4 _ _ h)
        · replace h := Ok_t c11 h
          refine ev_aload_n (pc' := 128) m_236 rfl rfl rfl (tr_get (pc' := 131) (v := .int (gI _ 1152 _)) m_236 rfl rfl ts_o87 rfl rfl rfl (ev_goto (pc' := 167) m_236 rfl rfl ?_))
          obtain ⟨g10, h⟩ := Ok_g h
          refine tr_iast (pc' := 168) m_236 rfl rfl rfl g10 rfl (ev_iinc (pc' := 171) (z := 1) m_236 rfl rfl rfl rfl rfl rfl (ev_goto (pc' := 372) m_236 rfl rfl (ev_goto (pc' := 10) m_236 rfl rfl ?_)))
          exact am_Ev.sub (L := [(0, .ref 87), (2, .int (l2)), (3, .int (l3 + (1 : Int32))), (4, .int (l4))]) ⟨rfl, rfl, rfl, rfl, trivial⟩ (hk10 l2 (l3 + (1 : Int32)) l4 _ _ h)
      · replace h := Ok_t c14 h
        refine ev_aload_n (pc' := 112) m_236 rfl rfl rfl (tr_get (pc' := 115) (v := .ref 118) m_236 rfl rfl ts_o87 rfl rfl rfl (ev_iload (pc' := 117) m_236 rfl rfl rfl ?_))
        obtain ⟨g12, h⟩ := Ok_g h
        refine tr_iald (pc' := 118) m_236 rfl rfl rfl g12 rfl (ev_goto (pc' := 167) m_236 rfl rfl ?_)
        obtain ⟨g13, h⟩ := Ok_g h
        refine tr_iast (pc' := 168) m_236 rfl rfl rfl g13 rfl (ev_iinc (pc' := 171) (z := 1) m_236 rfl rfl rfl rfl rfl rfl (ev_goto (pc' := 372) m_236 rfl rfl (ev_goto (pc' := 10) m_236 rfl rfl ?_)))
        exact am_Ev.sub (L := [(0, .ref 87), (2, .int (l2)), (3, .int (l3 + (1 : Int32))), (4, .int (l4))]) ⟨rfl, rfl, rfl, rfl, trivial⟩ (hk10 l2 (l3 + (1 : Int32)) l4 _ _ h)
    · replace h := Ok_t c17 h
      refine ev_aload_n (pc' := 91) m_236 rfl rfl rfl (tr_get (pc' := 94) (v := .ref 127) m_236 rfl rfl ts_o87 rfl rfl rfl (ev_bipush (pc' := 96) (x := 8) m_236 rfl rfl rfl (ev_iload_n (pc' := 97) m_236 rfl rfl rfl (ev_imul (pc' := 98) m_236 rfl rfl (ev_iload (pc' := 100) m_236 rfl rfl rfl (ev_iadd (pc' := 101) m_236 rfl rfl ?_))))))
      obtain ⟨g15, h⟩ := Ok_g h
      refine tr_iald (pc' := 102) m_236 rfl rfl rfl g15 rfl (ev_goto (pc' := 167) m_236 rfl rfl ?_)
      obtain ⟨g16, h⟩ := Ok_g h
      refine tr_iast (pc' := 168) m_236 rfl rfl rfl g16 rfl (ev_iinc (pc' := 171) (z := 1) m_236 rfl rfl rfl rfl rfl rfl (ev_goto (pc' := 372) m_236 rfl rfl (ev_goto (pc' := 10) m_236 rfl rfl ?_)))
      exact am_Ev.sub (L := [(0, .ref 87), (2, .int (l2)), (3, .int (l3 + (1 : Int32))), (4, .int (l4))]) ⟨rfl, rfl, rfl, rfl, trivial⟩ (hk10 l2 (l3 + (1 : Int32)) l4 _ _ h)
  · replace h := Ok_t c19 h
    refine ev_iload (pc' := 81) m_236 rfl rfl rfl (ev_goto (pc' := 167) m_236 rfl rfl ?_)
    obtain ⟨g18, h⟩ := Ok_g h
    refine tr_iast (pc' := 168) m_236 rfl rfl rfl g18 rfl (ev_iinc (pc' := 171) (z := 1) m_236 rfl rfl rfl rfl rfl rfl (ev_goto (pc' := 372) m_236 rfl rfl (ev_goto (pc' := 10) m_236 rfl rfl ?_)))
    exact am_Ev.sub (L := [(0, .ref 87), (2, .int (l2)), (3, .int (l3 + (1 : Int32))), (4, .int (l4))]) ⟨rfl, rfl, rfl, rfl, trivial⟩ (hk10 l2 (l3 + (1 : Int32)) l4 _ _ h)
def cR_reckon_220 (k10 : Int32 → Int32 → Int32 → ts → Option (Int32 × ts)) (l2 : Int32) (l3 : Int32) (l4 : Int32) (l6 : Int32) (l7 : Int32) (t0 : Int32) (t1 : Int32) (s : ts) : Option (Int32 × ts) := (if t0 = t1 then (if l7 = ((0 : Int32)) then (if am_idx (l3 - ((1 : Int32))) 4200 = true then k10 l2 l3 l6 (wA s 140 (l3 - ((1 : Int32))).toNatClampNeg ((0 : Int32))) else none) else (if am_idx (l3 - ((1 : Int32))) 4200 = true then k10 l2 l3 l6 (wA s 140 (l3 - ((1 : Int32))).toNatClampNeg ((1 : Int32))) else none)) else k10 l2 (l3 + (-1 : Int32)) l4 s)
set_option maxRecDepth 20000 in
theorem cR_reckon_220_ok {d : Nat} (k10 : Int32 → Int32 → Int32 → ts → Option (Int32 × ts)) (hk10 : ∀ (l2 : Int32) (l3 : Int32) (l4 : Int32) (s : ts) (Q : Int32 × ts → Prop), Ok (k10 l2 l3 l4 s) Q → am_Ev (d + 1) 236 (10, [(0, .ref 87), (2, .int (l2)), (3, .int (l3)), (4, .int (l4))], []) (lay s) (tq_i Q)) (l2 : Int32) (l3 : Int32) (l4 : Int32) (l6 : Int32) (l7 : Int32) (t0 : Int32) (t1 : Int32) (s : ts) (Q : Int32 × ts → Prop) (h : Ok (cR_reckon_220 k10 l2 l3 l4 l6 l7 t0 t1 s) Q) : am_Ev (d + 1) 236 (220, [(0, .ref 87), (2, .int (l2)), (3, .int (l3)), (4, .int (l4)), (6, .int (l6)), (7, .int (l7))], [.int (t1), .int (t0)]) (lay s) (tq_i Q) := by
  unfold cR_reckon_220 at h
  refine ev_icmp_ne (t := 248) (e := 223) m_236 rfl rfl rfl (fun c4 => ?_) (fun c4 => ?_)
  · replace h := Ok_f c4 h
    refine ev_iinc (pc' := 251) (z := -1) m_236 rfl rfl rfl rfl rfl rfl (ev_goto (pc' := 372) m_236 rfl rfl (ev_goto (pc' := 10) m_236 rfl rfl ?_))
    exact am_Ev.sub (L := [(0, .ref 87), (2, .int (l2)), (3, .int (l3 + (-1 : Int32))), (4, .int (l4))]) ⟨rfl, rfl, rfl, rfl, trivial⟩ (hk10 l2 (l3 + (-1 : Int32)) l4 _ _ h)
  · replace h := Ok_t c4 h
    refine ev_aload_n (pc' := 224) m_236 rfl rfl rfl (tr_get (pc' := 227) (v := .ref 140) m_236 rfl rfl ts_o87 rfl rfl rfl (ev_iload_n (pc' := 228) m_236 rfl rfl rfl (ev_iconst (pc' := 229) (x := 1) m_236 rfl rfl rfl (ev_isub (pc' := 230) m_236 rfl rfl (ev_iload (pc' := 232) m_236 rfl rfl rfl ?_)))))
    refine ev_if_eq (t := 239) (e := 235) m_236 rfl rfl rfl (fun c3 => ?_) (fun c3 => ?_)
    · replace h := Ok_t c3 h
      refine ev_iconst (pc' := 240) (x := 0) m_236 rfl rfl rfl ?_
      obtain ⟨g1, h⟩ := Ok_g h
      refine tr_iast (pc' := 241) m_236 rfl rfl rfl g1 rfl (ev_iload (pc' := 243) m_236 rfl rfl rfl (ev_istore (pc' := 245) m_236 rfl rfl rfl rfl (ev_goto (pc' := 251) m_236 rfl rfl (ev_goto (pc' := 372) m_236 rfl rfl (ev_goto (pc' := 10) m_236 rfl rfl ?_)))))
      exact am_Ev.sub (L := [(0, .ref 87), (2, .int (l2)), (3, .int (l3)), (4, .int (l6))]) ⟨rfl, rfl, rfl, rfl, trivial⟩ (hk10 l2 l3 l6 _ _ h)
    · replace h := Ok_f c3 h
      refine ev_iconst (pc' := 236) (x := 1) m_236 rfl rfl rfl (ev_goto (pc' := 240) m_236 rfl rfl ?_)
      obtain ⟨g2, h⟩ := Ok_g h
      refine tr_iast (pc' := 241) m_236 rfl rfl rfl g2 rfl (ev_iload (pc' := 243) m_236 rfl rfl rfl (ev_istore (pc' := 245) m_236 rfl rfl rfl rfl (ev_goto (pc' := 251) m_236 rfl rfl (ev_goto (pc' := 372) m_236 rfl rfl (ev_goto (pc' := 10) m_236 rfl rfl ?_)))))
      exact am_Ev.sub (L := [(0, .ref 87), (2, .int (l2)), (3, .int (l3)), (4, .int (l6))]) ⟨rfl, rfl, rfl, rfl, trivial⟩ (hk10 l2 l3 l6 _ _ h)
def cR_reckon_204 (k10 : Int32 → Int32 → Int32 → ts → Option (Int32 × ts)) (l2 : Int32) (l3 : Int32) (l4 : Int32) (l5 : Int32) (l6 : Int32) (t0 : Int32) (s : ts) : Option (Int32 × ts) := (if l5 = ((12 : Int32)) then cR_reckon_220 k10 l2 l3 l4 l6 t0 t0 ((1 : Int32)) s else cR_reckon_220 k10 l2 l3 l4 l6 t0 t0 ((0 : Int32)) s)
set_option maxRecDepth 20000 in
theorem cR_reckon_204_ok {d : Nat} (k10 : Int32 → Int32 → Int32 → ts → Option (Int32 × ts)) (hk10 : ∀ (l2 : Int32) (l3 : Int32) (l4 : Int32) (s : ts) (Q : Int32 × ts → Prop), Ok (k10 l2 l3 l4 s) Q → am_Ev (d + 1) 236 (10, [(0, .ref 87), (2, .int (l2)), (3, .int (l3)), (4, .int (l4))], []) (lay s) (tq_i Q)) (l2 : Int32) (l3 : Int32) (l4 : Int32) (l5 : Int32) (l6 : Int32) (t0 : Int32) (s : ts) (Q : Int32 × ts → Prop) (h : Ok (cR_reckon_204 k10 l2 l3 l4 l5 l6 t0 s) Q) : am_Ev (d + 1) 236 (204, [(0, .ref 87), (2, .int (l2)), (3, .int (l3)), (4, .int (l4)), (5, .int (l5)), (6, .int (l6))], [.int (t0)]) (lay s) (tq_i Q) := by
  unfold cR_reckon_204 at h
  refine ev_istore (pc' := 206) m_236 rfl rfl rfl rfl (ev_iload (pc' := 208) m_236 rfl rfl rfl (ev_iload (pc' := 210) m_236 rfl rfl rfl (ev_bipush (pc' := 212) (x := 12) m_236 rfl rfl rfl ?_)))
  refine ev_icmp_ne (t := 219) (e := 215) m_236 rfl rfl rfl (fun c1 => ?_) (fun c1 => ?_)
  · replace h := Ok_f c1 h
    refine ev_iconst (pc' := 220) (x := 0) m_236 rfl rfl rfl ?_
    exact am_Ev.sub (L := [(0, .ref 87), (2, .int (l2)), (3, .int (l3)), (4, .int (l4)), (6, .int (l6)), (7, .int (t0))]) ⟨rfl, rfl, rfl, rfl, rfl, rfl, trivial⟩ (cR_reckon_220_ok k10 hk10 l2 l3 l4 l6 t0 t0 ((0 : Int32)) _ _ h)
  · replace h := Ok_t c1 h
    refine ev_iconst (pc' := 216) (x := 1) m_236 rfl rfl rfl (ev_goto (pc' := 220) m_236 rfl rfl ?_)
    exact am_Ev.sub (L := [(0, .ref 87), (2, .int (l2)), (3, .int (l3)), (4, .int (l4)), (6, .int (l6)), (7, .int (t0))]) ⟨rfl, rfl, rfl, rfl, rfl, rfl, trivial⟩ (cR_reckon_220_ok k10 hk10 l2 l3 l4 l6 t0 t0 ((1 : Int32)) _ _ h)
def cR_reckon_188 (k10 : Int32 → Int32 → Int32 → ts → Option (Int32 × ts)) (l2 : Int32) (l3 : Int32) (l4 : Int32) (l5 : Int32) (l6 : Int32) (s : ts) : Option (Int32 × ts) := (if am_idx (l3 - ((1 : Int32))) 4200 = true then (if (gA s 140 (l3 - ((1 : Int32))).toNatClampNeg) = ((0 : Int32)) then cR_reckon_204 k10 l2 l3 l4 l5 l6 ((0 : Int32)) s else cR_reckon_204 k10 l2 l3 l4 l5 l6 ((1 : Int32)) s) else none)
set_option maxRecDepth 20000 in
theorem cR_reckon_188_ok {d : Nat} (k10 : Int32 → Int32 → Int32 → ts → Option (Int32 × ts)) (hk10 : ∀ (l2 : Int32) (l3 : Int32) (l4 : Int32) (s : ts) (Q : Int32 × ts → Prop), Ok (k10 l2 l3 l4 s) Q → am_Ev (d + 1) 236 (10, [(0, .ref 87), (2, .int (l2)), (3, .int (l3)), (4, .int (l4))], []) (lay s) (tq_i Q)) (l2 : Int32) (l3 : Int32) (l4 : Int32) (l5 : Int32) (l6 : Int32) (s : ts) (Q : Int32 × ts → Prop) (h : Ok (cR_reckon_188 k10 l2 l3 l4 l5 l6 s) Q) : am_Ev (d + 1) 236 (188, [(0, .ref 87), (2, .int (l2)), (3, .int (l3)), (4, .int (l4)), (5, .int (l5)), (6, .int (l6))], []) (lay s) (tq_i Q) := by
  unfold cR_reckon_188 at h
  refine ev_aload_n (pc' := 189) m_236 rfl rfl rfl (tr_get (pc' := 192) (v := .ref 140) m_236 rfl rfl ts_o87 rfl rfl rfl (ev_iload_n (pc' := 193) m_236 rfl rfl rfl (ev_iconst (pc' := 194) (x := 1) m_236 rfl rfl rfl (ev_isub (pc' := 195) m_236 rfl rfl ?_))))
  obtain ⟨g1, h⟩ := Ok_g h
  refine tr_iald (pc' := 196) m_236 rfl rfl rfl g1 rfl ?_
  refine ev_if_eq (t := 203) (e := 199) m_236 rfl rfl rfl (fun c2 => ?_) (fun c2 => ?_)
  · replace h := Ok_t c2 h
    refine ev_iconst (pc' := 204) (x := 0) m_236 rfl rfl rfl ?_
    exact am_Ev.sub (L := [(0, .ref 87), (2, .int (l2)), (3, .int (l3)), (4, .int (l4)), (5, .int (l5)), (6, .int (l6))]) ⟨rfl, rfl, rfl, rfl, rfl, rfl, trivial⟩ (cR_reckon_204_ok k10 hk10 l2 l3 l4 l5 l6 ((0 : Int32)) _ _ h)
  · replace h := Ok_f c2 h
    refine ev_iconst (pc' := 200) (x := 1) m_236 rfl rfl rfl (ev_goto (pc' := 204) m_236 rfl rfl ?_)
    exact am_Ev.sub (L := [(0, .ref 87), (2, .int (l2)), (3, .int (l3)), (4, .int (l4)), (5, .int (l5)), (6, .int (l6))]) ⟨rfl, rfl, rfl, rfl, rfl, rfl, trivial⟩ (cR_reckon_204_ok k10 hk10 l2 l3 l4 l5 l6 ((1 : Int32)) _ _ h)
def cR_reckon_10_b (kk : Int32 → Int32 → Int32 → ts → Option (Int32 × ts)) (l2 : Int32) (l3 : Int32) (l4 : Int32) (s : ts) : Option (Int32 × ts) := (if am_idx l4 9000 = true then (if (gA s 110 l4.toNatClampNeg) = ((0 : Int32)) then some (gA s 140 ((0 : Int32)).toNatClampNeg, s) else (if (gI s 1188 0) = ((0 : Int32)) then (if (gA s 110 l4.toNatClampNeg) ≤ ((5 : Int32)) then cR_reckon_68 kk l2 l3 (l4 + (1 : Int32)) (gA s 110 l4.toNatClampNeg) (gA s 111 l4.toNatClampNeg) s else (if (gA s 110 l4.toNatClampNeg) = ((7 : Int32)) then cR_reckon_68 kk l2 l3 (l4 + (1 : Int32)) (gA s 110 l4.toNatClampNeg) (gA s 111 l4.toNatClampNeg) s else (if (gA s 110 l4.toNatClampNeg) = ((8 : Int32)) then cR_reckon_68 kk l2 l3 (l4 + (1 : Int32)) (gA s 110 l4.toNatClampNeg) (gA s 111 l4.toNatClampNeg) s else (if (gA s 110 l4.toNatClampNeg) = ((11 : Int32)) then cR_reckon_188 kk l2 l3 (l4 + (1 : Int32)) (gA s 110 l4.toNatClampNeg) (gA s 111 l4.toNatClampNeg) s else (if (gA s 110 l4.toNatClampNeg) = ((12 : Int32)) then cR_reckon_188 kk l2 l3 (l4 + (1 : Int32)) (gA s 110 l4.toNatClampNeg) (gA s 111 l4.toNatClampNeg) s else (if ((13 : Int32)) < (gA s 110 l4.toNatClampNeg) then (if am_idx ((l3 + (-1 : Int32)) - ((1 : Int32))) 4200 = true then (if am_idx (l3 + (-1 : Int32)) 4200 = true then (cR_two (gA s 110 l4.toNatClampNeg) (gA s 140 ((l3 + (-1 : Int32)) - ((1 : Int32))).toNatClampNeg) (gA s 140 (l3 + (-1 : Int32)).toNatClampNeg) s).bind (fun x6 => kk l2 (l3 + (-1 : Int32)) (l4 + (1 : Int32)) (wA x6.2 140 ((l3 + (-1 : Int32)) - ((1 : Int32))).toNatClampNeg x6.1)) else none) else none) else (if am_idx (l3 - ((1 : Int32))) 4200 = true then (if (gA s 110 l4.toNatClampNeg) = ((6 : Int32)) then (cR_draw (gA s 140 (l3 - ((1 : Int32))).toNatClampNeg) s).bind (fun x14 => kk l2 l3 (l4 + (1 : Int32)) (wA x14.2 140 (l3 - ((1 : Int32))).toNatClampNeg x14.1)) else (if (gA s 110 l4.toNatClampNeg) = ((9 : Int32)) then kk l2 l3 (l4 + (1 : Int32)) (wA s 140 (l3 - ((1 : Int32))).toNatClampNeg (-(gA s 140 (l3 - ((1 : Int32))).toNatClampNeg))) else (if (gA s 110 l4.toNatClampNeg) = ((10 : Int32)) then (if (gA s 140 (l3 - ((1 : Int32))).toNatClampNeg) = ((0 : Int32)) then kk l2 l3 (l4 + (1 : Int32)) (wA s 140 (l3 - ((1 : Int32))).toNatClampNeg ((1 : Int32))) else kk l2 l3 (l4 + (1 : Int32)) (wA s 140 (l3 - ((1 : Int32))).toNatClampNeg ((0 : Int32)))) else (if (gA s 140 (l3 - ((1 : Int32))).toNatClampNeg) = ((0 : Int32)) then kk l2 l3 (l4 + (1 : Int32)) (wA s 140 (l3 - ((1 : Int32))).toNatClampNeg ((0 : Int32))) else kk l2 l3 (l4 + (1 : Int32)) (wA s 140 (l3 - ((1 : Int32))).toNatClampNeg ((1 : Int32))))))) else none))))))) else some (gA s 140 ((0 : Int32)).toNatClampNeg, s))) else none)
def cR_reckon_10 : Nat → Int32 → Int32 → Int32 → ts → Option (Int32 × ts)
  | 0, _, _, _, _ => none
  | n + 1, l2, l3, l4, s => cR_reckon_10_b (cR_reckon_10 n) l2 l3 l4 s
set_option maxRecDepth 20000 in
theorem cR_reckon_10_ok {d : Nat} : ∀ (n : Nat) (l2 : Int32) (l3 : Int32) (l4 : Int32) (s : ts) (Q : Int32 × ts → Prop), Ok (cR_reckon_10 n l2 l3 l4 s) Q → am_Ev (d + 1) 236 (10, [(0, .ref 87), (2, .int (l2)), (3, .int (l3)), (4, .int (l4))], []) (lay s) (tq_i Q) := by
  intro n
  induction n with
  | zero => intro l2 l3 l4 s Q h; exact Ok_n h
  | succ n ih =>
    intro l2 l3 l4 s Q h
    rw [cR_reckon_10.eq_2] at h
    unfold cR_reckon_10_b at h
    refine ev_aload_n (pc' := 11) m_236 rfl rfl rfl (tr_get (pc' := 14) (v := .ref 110) m_236 rfl rfl ts_o87 rfl rfl rfl (ev_iload (pc' := 16) m_236 rfl rfl rfl ?_))
    obtain ⟨g1, h⟩ := Ok_g h
    refine tr_iald (pc' := 17) m_236 rfl rfl rfl g1 rfl ?_
    refine ev_if_eq (t := 375) (e := 20) m_236 rfl rfl rfl (fun c23 => ?_) (fun c23 => ?_)
    · replace h := Ok_t c23 h
      refine ev_aload_n (pc' := 376) m_236 rfl rfl rfl (tr_get (pc' := 379) (v := .ref 140) m_236 rfl rfl ts_o87 rfl rfl rfl (ev_iconst (pc' := 380) (x := 0) m_236 rfl rfl rfl (tr_iald (pc' := 381) m_236 rfl rfl rfl rfl rfl ?_)))
      exact tr_ri m_236 rfl rfl (Ok_s h)
    · replace h := Ok_f c23 h
      refine ev_aload_n (pc' := 21) m_236 rfl rfl rfl (tr_get (pc' := 24) (v := .int (gI _ 1188 _)) m_236 rfl rfl ts_o87 rfl rfl rfl ?_)
      refine ev_if_ne (t := 375) (e := 27) m_236 rfl rfl rfl (fun c22 => ?_) (fun c22 => ?_)
      · replace h := Ok_f c22 h
        refine ev_aload_n (pc' := 376) m_236 rfl rfl rfl (tr_get (pc' := 379) (v := .ref 140) m_236 rfl rfl ts_o87 rfl rfl rfl (ev_iconst (pc' := 380) (x := 0) m_236 rfl rfl rfl (tr_iald (pc' := 381) m_236 rfl rfl rfl rfl rfl ?_)))
        exact tr_ri m_236 rfl rfl (Ok_s h)
      · replace h := Ok_t c22 h
        refine ev_aload_n (pc' := 28) m_236 rfl rfl rfl (tr_get (pc' := 31) (v := .ref 110) m_236 rfl rfl ts_o87 rfl rfl rfl (ev_iload (pc' := 33) m_236 rfl rfl rfl (tr_iald (pc' := 34) m_236 rfl rfl rfl g1 rfl (ev_istore (pc' := 36) m_236 rfl rfl rfl rfl (ev_aload_n (pc' := 37) m_236 rfl rfl rfl (tr_get (pc' := 40) (v := .ref 111) m_236 rfl rfl ts_o87 rfl rfl rfl (ev_iload (pc' := 42) m_236 rfl rfl rfl ?_)))))))
        refine tr_iald (pc' := 43) m_236 rfl rfl rfl g1 rfl (ev_istore (pc' := 45) m_236 rfl rfl rfl rfl (ev_iinc (pc' := 48) (z := 1) m_236 rfl rfl rfl rfl rfl rfl (ev_iload (pc' := 50) m_236 rfl rfl rfl (ev_iconst (pc' := 51) (x := 5) m_236 rfl rfl rfl ?_))))
        refine ev_icmp_le (t := 68) (e := 54) m_236 rfl rfl rfl (fun c21 => ?_) (fun c21 => ?_)
        · replace h := Ok_t c21 h
          exact am_Ev.sub (L := [(0, .ref 87), (2, .int (l2)), (3, .int (l3)), (4, .int (l4 + (1 : Int32))), (5, .int (gA s 110 l4.toNatClampNeg)), (6, .int (gA s 111 l4.toNatClampNeg))]) ⟨rfl, rfl, rfl, rfl, rfl, rfl, trivial⟩ (cR_reckon_68_ok (cR_reckon_10 n) ih l2 l3 (l4 + (1 : Int32)) (gA s 110 l4.toNatClampNeg) (gA s 111 l4.toNatClampNeg) _ _ h)
        · replace h := Ok_f c21 h
          refine ev_iload (pc' := 56) m_236 rfl rfl rfl (ev_bipush (pc' := 58) (x := 7) m_236 rfl rfl rfl ?_)
          refine ev_icmp_eq (t := 68) (e := 61) m_236 rfl rfl rfl (fun c20 => ?_) (fun c20 => ?_)
          · replace h := Ok_t c20 h
            exact am_Ev.sub (L := [(0, .ref 87), (2, .int (l2)), (3, .int (l3)), (4, .int (l4 + (1 : Int32))), (5, .int (gA s 110 l4.toNatClampNeg)), (6, .int (gA s 111 l4.toNatClampNeg))]) ⟨rfl, rfl, rfl, rfl, rfl, rfl, trivial⟩ (cR_reckon_68_ok (cR_reckon_10 n) ih l2 l3 (l4 + (1 : Int32)) (gA s 110 l4.toNatClampNeg) (gA s 111 l4.toNatClampNeg) _ _ h)
          · replace h := Ok_f c20 h
            refine ev_iload (pc' := 63) m_236 rfl rfl rfl (ev_bipush (pc' := 65) (x := 8) m_236 rfl rfl rfl ?_)
            refine ev_icmp_ne (t := 174) (e := 68) m_236 rfl rfl rfl (fun c19 => ?_) (fun c19 => ?_)
            · replace h := Ok_f c19 h
              refine ev_iload (pc' := 176) m_236 rfl rfl rfl (ev_bipush (pc' := 178) (x := 11) m_236 rfl rfl rfl ?_)
              refine ev_icmp_eq (t := 188) (e := 181) m_236 rfl rfl rfl (fun c18 => ?_) (fun c18 => ?_)
              · replace h := Ok_t c18 h
                exact am_Ev.sub (L := [(0, .ref 87), (2, .int (l2)), (3, .int (l3)), (4, .int (l4 + (1 : Int32))), (5, .int (gA s 110 l4.toNatClampNeg)), (6, .int (gA s 111 l4.toNatClampNeg))]) ⟨rfl, rfl, rfl, rfl, rfl, rfl, trivial⟩ (cR_reckon_188_ok (cR_reckon_10 n) ih l2 l3 (l4 + (1 : Int32)) (gA s 110 l4.toNatClampNeg) (gA s 111 l4.toNatClampNeg) _ _ h)
              · replace h := Ok_f c18 h
                refine ev_iload (pc' := 183) m_236 rfl rfl rfl (ev_bipush (pc' := 185) (x := 12) m_236 rfl rfl rfl ?_)
                refine ev_icmp_ne (t := 254) (e := 188) m_236 rfl rfl rfl (fun c17 => ?_) (fun c17 => ?_)
                · replace h := Ok_f c17 h
                  refine ev_iload (pc' := 256) m_236 rfl rfl rfl (ev_bipush (pc' := 258) (x := 13) m_236 rfl rfl rfl ?_)
                  refine ev_icmp_gt (t := 341) (e := 261) m_236 rfl rfl rfl (fun c16 => ?_) (fun c16 => ?_)
                  · replace h := Ok_t c16 h
                    refine ev_iinc (pc' := 344) (z := -1) m_236 rfl rfl rfl rfl rfl rfl (ev_aload_n (pc' := 345) m_236 rfl rfl rfl (tr_get (pc' := 348) (v := .ref 140) m_236 rfl rfl ts_o87 rfl rfl rfl (ev_iload_n (pc' := 349) m_236 rfl rfl rfl (ev_iconst (pc' := 350) (x := 1) m_236 rfl rfl rfl (ev_isub (pc' := 351) m_236 rfl rfl (ev_aload_n (pc' := 352) m_236 rfl rfl rfl (ev_iload (pc' := 354) m_236 rfl rfl rfl ?_)))))))
                    refine ev_aload_n (pc' := 355) m_236 rfl rfl rfl (tr_get (pc' := 358) (v := .ref 140) m_236 rfl rfl ts_o87 rfl rfl rfl (ev_iload_n (pc' := 359) m_236 rfl rfl rfl (ev_iconst (pc' := 360) (x := 1) m_236 rfl rfl rfl (ev_isub (pc' := 361) m_236 rfl rfl ?_))))
                    obtain ⟨g2, h⟩ := Ok_g h
                    refine tr_iald (pc' := 362) m_236 rfl rfl rfl g2 rfl (ev_aload_n (pc' := 363) m_236 rfl rfl rfl (tr_get (pc' := 366) (v := .ref 140) m_236 rfl rfl ts_o87 rfl rfl rfl (ev_iload_n (pc' := 367) m_236 rfl rfl rfl ?_)))
                    obtain ⟨g3, h⟩ := Ok_g h
                    refine tr_iald (pc' := 368) m_236 rfl rfl rfl g3 rfl ?_
                    refine tr_ci (pc' := 371) m_236 rfl rfl rfl m_238 rfl rfl rfl rfl (tr_rcv ts_o87 rfl) rfl rfl (cR_two_ok (gA s 110 l4.toNatClampNeg) (gA s 140 ((l3 + (-1 : Int32)) - ((1 : Int32))).toNatClampNeg) (gA s 140 (l3 + (-1 : Int32)).toNatClampNeg) _ _ (Ok_b h)) (fun x6_ x6_s h => ?_)
                    refine tr_iast (pc' := 372) m_236 rfl rfl rfl g2 rfl (ev_goto (pc' := 10) m_236 rfl rfl ?_)
                    exact am_Ev.sub (L := [(0, .ref 87), (2, .int (l2)), (3, .int (l3 + (-1 : Int32))), (4, .int (l4 + (1 : Int32)))]) ⟨rfl, rfl, rfl, rfl, trivial⟩ (ih l2 (l3 + (-1 : Int32)) (l4 + (1 : Int32)) _ _ h)
                  · replace h := Ok_f c16 h
                    refine ev_aload_n (pc' := 262) m_236 rfl rfl rfl (tr_get (pc' := 265) (v := .ref 140) m_236 rfl rfl ts_o87 rfl rfl rfl (ev_iload_n (pc' := 266) m_236 rfl rfl rfl (ev_iconst (pc' := 267) (x := 1) m_236 rfl rfl rfl (ev_isub (pc' := 268) m_236 rfl rfl ?_))))
                    obtain ⟨g7, h⟩ := Ok_g h
                    refine tr_iald (pc' := 269) m_236 rfl rfl rfl g7 rfl (ev_istore (pc' := 271) m_236 rfl rfl rfl rfl (ev_aload_n (pc' := 272) m_236 rfl rfl rfl (tr_get (pc' := 275) (v := .ref 140) m_236 rfl rfl ts_o87 rfl rfl rfl (ev_iload_n (pc' := 276) m_236 rfl rfl rfl (ev_iconst (pc' := 277) (x := 1) m_236 rfl rfl rfl (ev_isub (pc' := 278) m_236 rfl rfl (ev_iload (pc' := 280) m_236 rfl rfl rfl ?_)))))))
                    refine ev_bipush (pc' := 282) (x := 6) m_236 rfl rfl rfl ?_
                    refine ev_icmp_ne (t := 294) (e := 285) m_236 rfl rfl rfl (fun c15 => ?_) (fun c15 => ?_)
                    · replace h := Ok_f c15 h
                      refine ev_iload (pc' := 296) m_236 rfl rfl rfl (ev_bipush (pc' := 298) (x := 9) m_236 rfl rfl rfl ?_)
                      refine ev_icmp_ne (t := 307) (e := 301) m_236 rfl rfl rfl (fun c11 => ?_) (fun c11 => ?_)
                      · replace h := Ok_f c11 h
                        refine ev_iload (pc' := 309) m_236 rfl rfl rfl (ev_bipush (pc' := 311) (x := 10) m_236 rfl rfl rfl ?_)
                        refine ev_icmp_ne (t := 327) (e := 314) m_236 rfl rfl rfl (fun c10 => ?_) (fun c10 => ?_)
                        · replace h := Ok_f c10 h
                          refine ev_iload (pc' := 329) m_236 rfl rfl rfl ?_
                          refine ev_if_eq (t := 336) (e := 332) m_236 rfl rfl rfl (fun c8 => ?_) (fun c8 => ?_)
                          · replace h := Ok_t c8 h
                            refine ev_iconst (pc' := 337) (x := 0) m_236 rfl rfl rfl (tr_iast (pc' := 338) m_236 rfl rfl rfl g7 rfl (ev_goto (pc' := 372) m_236 rfl rfl (ev_goto (pc' := 10) m_236 rfl rfl ?_)))
                            exact am_Ev.sub (L := [(0, .ref 87), (2, .int (l2)), (3, .int (l3)), (4, .int (l4 + (1 : Int32)))]) ⟨rfl, rfl, rfl, rfl, trivial⟩ (ih l2 l3 (l4 + (1 : Int32)) _ _ h)
                          · replace h := Ok_f c8 h
                            refine ev_iconst (pc' := 333) (x := 1) m_236 rfl rfl rfl (ev_goto (pc' := 337) m_236 rfl rfl (tr_iast (pc' := 338) m_236 rfl rfl rfl g7 rfl (ev_goto (pc' := 372) m_236 rfl rfl (ev_goto (pc' := 10) m_236 rfl rfl ?_))))
                            exact am_Ev.sub (L := [(0, .ref 87), (2, .int (l2)), (3, .int (l3)), (4, .int (l4 + (1 : Int32)))]) ⟨rfl, rfl, rfl, rfl, trivial⟩ (ih l2 l3 (l4 + (1 : Int32)) _ _ h)
                        · replace h := Ok_t c10 h
                          refine ev_iload (pc' := 316) m_236 rfl rfl rfl ?_
                          refine ev_if_ne (t := 323) (e := 319) m_236 rfl rfl rfl (fun c9 => ?_) (fun c9 => ?_)
                          · replace h := Ok_f c9 h
                            refine ev_iconst (pc' := 324) (x := 0) m_236 rfl rfl rfl (ev_goto (pc' := 337) m_236 rfl rfl (tr_iast (pc' := 338) m_236 rfl rfl rfl g7 rfl (ev_goto (pc' := 372) m_236 rfl rfl (ev_goto (pc' := 10) m_236 rfl rfl ?_))))
                            exact am_Ev.sub (L := [(0, .ref 87), (2, .int (l2)), (3, .int (l3)), (4, .int (l4 + (1 : Int32)))]) ⟨rfl, rfl, rfl, rfl, trivial⟩ (ih l2 l3 (l4 + (1 : Int32)) _ _ h)
                          · replace h := Ok_t c9 h
                            refine ev_iconst (pc' := 320) (x := 1) m_236 rfl rfl rfl (ev_goto (pc' := 337) m_236 rfl rfl (tr_iast (pc' := 338) m_236 rfl rfl rfl g7 rfl (ev_goto (pc' := 372) m_236 rfl rfl (ev_goto (pc' := 10) m_236 rfl rfl ?_))))
                            exact am_Ev.sub (L := [(0, .ref 87), (2, .int (l2)), (3, .int (l3)), (4, .int (l4 + (1 : Int32)))]) ⟨rfl, rfl, rfl, rfl, trivial⟩ (ih l2 l3 (l4 + (1 : Int32)) _ _ h)
                      · replace h := Ok_t c11 h
                        refine ev_iload (pc' := 303) m_236 rfl rfl rfl (ev_ineg (pc' := 304) m_236 rfl rfl (ev_goto (pc' := 337) m_236 rfl rfl (tr_iast (pc' := 338) m_236 rfl rfl rfl g7 rfl (ev_goto (pc' := 372) m_236 rfl rfl (ev_goto (pc' := 10) m_236 rfl rfl ?_)))))
                        exact am_Ev.sub (L := [(0, .ref 87), (2, .int (l2)), (3, .int (l3)), (4, .int (l4 + (1 : Int32)))]) ⟨rfl, rfl, rfl, rfl, trivial⟩ (ih l2 l3 (l4 + (1 : Int32)) _ _ h)
                    · replace h := Ok_t c15 h
                      refine ev_aload_n (pc' := 286) m_236 rfl rfl rfl (ev_iload (pc' := 288) m_236 rfl rfl rfl ?_)
                      refine tr_ci (pc' := 291) m_236 rfl rfl rfl m_237 rfl rfl rfl rfl (tr_rcv ts_o87 rfl) rfl rfl (cR_draw_ok (gA s 140 (l3 - ((1 : Int32))).toNatClampNeg) _ _ (Ok_b h)) (fun x14_ x14_s h => ?_)
                      refine ev_goto (pc' := 337) m_236 rfl rfl (tr_iast (pc' := 338) m_236 rfl rfl rfl g7 rfl (ev_goto (pc' := 372) m_236 rfl rfl (ev_goto (pc' := 10) m_236 rfl rfl ?_)))
                      exact am_Ev.sub (L := [(0, .ref 87), (2, .int (l2)), (3, .int (l3)), (4, .int (l4 + (1 : Int32)))]) ⟨rfl, rfl, rfl, rfl, trivial⟩ (ih l2 l3 (l4 + (1 : Int32)) _ _ h)
                · replace h := Ok_t c17 h
                  exact am_Ev.sub (L := [(0, .ref 87), (2, .int (l2)), (3, .int (l3)), (4, .int (l4 + (1 : Int32))), (5, .int (gA s 110 l4.toNatClampNeg)), (6, .int (gA s 111 l4.toNatClampNeg))]) ⟨rfl, rfl, rfl, rfl, rfl, rfl, trivial⟩ (cR_reckon_188_ok (cR_reckon_10 n) ih l2 l3 (l4 + (1 : Int32)) (gA s 110 l4.toNatClampNeg) (gA s 111 l4.toNatClampNeg) _ _ h)
            · replace h := Ok_t c19 h
              exact am_Ev.sub (L := [(0, .ref 87), (2, .int (l2)), (3, .int (l3)), (4, .int (l4 + (1 : Int32))), (5, .int (gA s 110 l4.toNatClampNeg)), (6, .int (gA s 111 l4.toNatClampNeg))]) ⟨rfl, rfl, rfl, rfl, rfl, rfl, trivial⟩ (cR_reckon_68_ok (cR_reckon_10 n) ih l2 l3 (l4 + (1 : Int32)) (gA s 110 l4.toNatClampNeg) (gA s 111 l4.toNatClampNeg) _ _ h)
def cR_reckon (l1 : Int32) (l2 : Int32) (s : ts) : Option (Int32 × ts) := cR_reckon_10 tm_N l2 ((0 : Int32)) l1 (wI s 1188 0 ((0 : Int32)))
set_option maxRecDepth 20000 in
theorem cR_reckon_ok {d : Nat} (l1 : Int32) (l2 : Int32) (s : ts) (Q : Int32 × ts → Prop) (h : Ok (cR_reckon l1 l2 s) Q) : am_Ev (d + 1) 236 (0, [(0, .ref 87), (1, .int (l1)), (2, .int (l2))], []) (lay s) (tq_i Q) := by
  unfold cR_reckon at h
  refine ev_iconst (pc' := 1) (x := 0) m_236 rfl rfl rfl (ev_istore_n (pc' := 2) m_236 rfl rfl rfl rfl (ev_aload_n (pc' := 3) m_236 rfl rfl rfl (ev_iconst (pc' := 4) (x := 0) m_236 rfl rfl rfl (tr_pI (pc' := 7) (f := 1188) m_236 rfl rfl rfl ts_o87 rfl rfl rfl rfl (ev_iload_n (pc' := 8) m_236 rfl rfl rfl (ev_istore (pc' := 10) m_236 rfl rfl rfl rfl ?_))))))
  exact am_Ev.sub (L := [(0, .ref 87), (2, .int (l2)), (3, .int ((0 : Int32))), (4, .int (l1))]) ⟨rfl, rfl, rfl, rfl, trivial⟩ (cR_reckon_10_ok tm_N l2 ((0 : Int32)) l1 _ _ h)
def cR_endTurn_121 (k48 : Int32 → Int32 → ts → Option (ts)) (l1 : Int32) (l2 : Int32) (l3 : Int32) (l4 : Int32) (s : ts) : Option (ts) := (if am_idx l3 300 = true then (if (gA s 120 l3.toNatClampNeg) = ((4 : Int32)) then (if l4 = ((0 : Int32)) then k48 l1 (l2 + (1 : Int32)) s else (cR_leaveAwaits l3 s).bind (fun s3 => (cR_calendar l3 ((0 : Int32)) (gI (wA s3 121 l3.toNatClampNeg ((gA s3 121 l3.toNatClampNeg) + ((1 : Int32)))) 1152 0) (wA s3 121 l3.toNatClampNeg ((gA s3 121 l3.toNatClampNeg) + ((1 : Int32))))).bind (fun s6 => k48 l1 (l2 + (1 : Int32)) s6))) else k48 l1 (l2 + (1 : Int32)) s) else none)
set_option maxRecDepth 20000 in
theorem cR_endTurn_121_ok {d : Nat} (k48 : Int32 → Int32 → ts → Option (ts)) (hk48 : ∀ (l1 : Int32) (l2 : Int32) (s : ts) (Q : ts → Prop), Ok (k48 l1 l2 s) Q → am_Ev (d + 4) 235 (48, [(0, .ref 87), (1, .int (l1)), (2, .int (l2))], []) (lay s) (tq_v Q)) (l1 : Int32) (l2 : Int32) (l3 : Int32) (l4 : Int32) (s : ts) (Q : ts → Prop) (h : Ok (cR_endTurn_121 k48 l1 l2 l3 l4 s) Q) : am_Ev (d + 4) 235 (121, [(0, .ref 87), (1, .int (l1)), (2, .int (l2)), (3, .int (l3)), (4, .int (l4))], []) (lay s) (tq_v Q) := by
  unfold cR_endTurn_121 at h
  refine ev_aload_n (pc' := 122) m_235 rfl rfl rfl (tr_get (pc' := 125) (v := .ref 120) m_235 rfl rfl ts_o87 rfl rfl rfl (ev_iload_n (pc' := 126) m_235 rfl rfl rfl ?_))
  obtain ⟨g1, h⟩ := Ok_g h
  refine tr_iald (pc' := 127) m_235 rfl rfl rfl g1 rfl (ev_iconst (pc' := 128) (x := 4) m_235 rfl rfl rfl ?_)
  refine ev_icmp_ne (t := 161) (e := 131) m_235 rfl rfl rfl (fun c9 => ?_) (fun c9 => ?_)
  · replace h := Ok_f c9 h
    refine ev_iinc (pc' := 164) (z := 1) m_235 rfl rfl rfl rfl rfl rfl (ev_goto (pc' := 48) m_235 rfl rfl ?_)
    exact am_Ev.sub (L := [(0, .ref 87), (1, .int (l1)), (2, .int (l2 + (1 : Int32)))]) ⟨rfl, rfl, rfl, trivial⟩ (hk48 l1 (l2 + (1 : Int32)) _ _ h)
  · replace h := Ok_t c9 h
    refine ev_iload (pc' := 133) m_235 rfl rfl rfl ?_
    refine ev_if_eq (t := 161) (e := 136) m_235 rfl rfl rfl (fun c8 => ?_) (fun c8 => ?_)
    · replace h := Ok_t c8 h
      refine ev_iinc (pc' := 164) (z := 1) m_235 rfl rfl rfl rfl rfl rfl (ev_goto (pc' := 48) m_235 rfl rfl ?_)
      exact am_Ev.sub (L := [(0, .ref 87), (1, .int (l1)), (2, .int (l2 + (1 : Int32)))]) ⟨rfl, rfl, rfl, trivial⟩ (hk48 l1 (l2 + (1 : Int32)) _ _ h)
    · replace h := Ok_f c8 h
      refine ev_aload_n (pc' := 137) m_235 rfl rfl rfl (ev_iload_n (pc' := 138) m_235 rfl rfl rfl ?_)
      refine tr_cv (pc' := 141) m_235 rfl rfl rfl m_233 rfl rfl rfl rfl (tr_rcv ts_o87 rfl) rfl rfl (cR_leaveAwaits_ok l3 _ _ (Ok_b h)) (fun s3 h => ?_)
      refine ev_aload_n (pc' := 142) m_235 rfl rfl rfl (tr_get (pc' := 145) (v := .ref 121) m_235 rfl rfl ts_o87 rfl rfl rfl (ev_iload_n (pc' := 146) m_235 rfl rfl rfl (ev_dup2 (pc' := 147) m_235 rfl ⟨rfl, rfl⟩ rfl (tr_iald (pc' := 148) m_235 rfl rfl rfl g1 rfl (ev_iconst (pc' := 149) (x := 1) m_235 rfl rfl rfl (ev_iadd (pc' := 150) m_235 rfl rfl (tr_iast (pc' := 151) m_235 rfl rfl rfl g1 rfl ?_)))))))
      refine ev_aload_n (pc' := 152) m_235 rfl rfl rfl (ev_iload_n (pc' := 153) m_235 rfl rfl rfl (ev_iconst (pc' := 154) (x := 0) m_235 rfl rfl rfl (ev_aload_n (pc' := 155) m_235 rfl rfl rfl (tr_get (pc' := 158) (v := .int (gI _ 1152 _)) m_235 rfl rfl ts_o87 rfl rfl rfl ?_))))
      refine tr_cv (pc' := 161) m_235 rfl rfl rfl m_221 rfl rfl rfl rfl (tr_rcv ts_o87 rfl) rfl rfl (cR_calendar_ok l3 ((0 : Int32)) (gI (wA s3 121 l3.toNatClampNeg ((gA s3 121 l3.toNatClampNeg) + ((1 : Int32)))) 1152 0) _ _ (Ok_b h)) (fun s6 h => ?_)
      refine ev_iinc (pc' := 164) (z := 1) m_235 rfl rfl rfl rfl rfl rfl (ev_goto (pc' := 48) m_235 rfl rfl ?_)
      exact am_Ev.sub (L := [(0, .ref 87), (1, .int (l1)), (2, .int (l2 + (1 : Int32)))]) ⟨rfl, rfl, rfl, trivial⟩ (hk48 l1 (l2 + (1 : Int32)) _ _ h)
def cR_endTurn_90 (k48 : Int32 → Int32 → ts → Option (ts)) (l1 : Int32) (l2 : Int32) (l3 : Int32) (t0 : Int32) (s : ts) : Option (ts) := (if am_idx l3 300 = true then (if (gA s 120 l3.toNatClampNeg) = ((4 : Int32)) then (if (gI s 1188 0) ≤ ((0 : Int32)) then cR_endTurn_121 k48 l1 l2 l3 t0 s else (cR_finish l3 (gI s 1188 0) s).bind (fun s3 => k48 l1 (l2 + (1 : Int32)) s3)) else cR_endTurn_121 k48 l1 l2 l3 t0 s) else none)
set_option maxRecDepth 20000 in
theorem cR_endTurn_90_ok {d : Nat} (k48 : Int32 → Int32 → ts → Option (ts)) (hk48 : ∀ (l1 : Int32) (l2 : Int32) (s : ts) (Q : ts → Prop), Ok (k48 l1 l2 s) Q → am_Ev (d + 4) 235 (48, [(0, .ref 87), (1, .int (l1)), (2, .int (l2))], []) (lay s) (tq_v Q)) (l1 : Int32) (l2 : Int32) (l3 : Int32) (t0 : Int32) (s : ts) (Q : ts → Prop) (h : Ok (cR_endTurn_90 k48 l1 l2 l3 t0 s) Q) : am_Ev (d + 4) 235 (90, [(0, .ref 87), (1, .int (l1)), (2, .int (l2)), (3, .int (l3))], [.int (t0)]) (lay s) (tq_v Q) := by
  unfold cR_endTurn_90 at h
  refine ev_istore (pc' := 92) m_235 rfl rfl rfl rfl (ev_aload_n (pc' := 93) m_235 rfl rfl rfl (tr_get (pc' := 96) (v := .ref 120) m_235 rfl rfl ts_o87 rfl rfl rfl (ev_iload_n (pc' := 97) m_235 rfl rfl rfl ?_)))
  obtain ⟨g1, h⟩ := Ok_g h
  refine tr_iald (pc' := 98) m_235 rfl rfl rfl g1 rfl (ev_iconst (pc' := 99) (x := 4) m_235 rfl rfl rfl ?_)
  refine ev_icmp_ne (t := 121) (e := 102) m_235 rfl rfl rfl (fun c6 => ?_) (fun c6 => ?_)
  · replace h := Ok_f c6 h
    exact am_Ev.sub (L := [(0, .ref 87), (1, .int (l1)), (2, .int (l2)), (3, .int (l3)), (4, .int (t0))]) ⟨rfl, rfl, rfl, rfl, rfl, trivial⟩ (cR_endTurn_121_ok k48 hk48 l1 l2 l3 t0 _ _ h)
  · replace h := Ok_t c6 h
    refine ev_aload_n (pc' := 103) m_235 rfl rfl rfl (tr_get (pc' := 106) (v := .int (gI _ 1188 _)) m_235 rfl rfl ts_o87 rfl rfl rfl ?_)
    refine ev_if_le (t := 121) (e := 109) m_235 rfl rfl rfl (fun c5 => ?_) (fun c5 => ?_)
    · replace h := Ok_t c5 h
      exact am_Ev.sub (L := [(0, .ref 87), (1, .int (l1)), (2, .int (l2)), (3, .int (l3)), (4, .int (t0))]) ⟨rfl, rfl, rfl, rfl, rfl, trivial⟩ (cR_endTurn_121_ok k48 hk48 l1 l2 l3 t0 _ _ h)
    · replace h := Ok_f c5 h
      refine ev_aload_n (pc' := 110) m_235 rfl rfl rfl (ev_iload_n (pc' := 111) m_235 rfl rfl rfl (ev_aload_n (pc' := 112) m_235 rfl rfl rfl (tr_get (pc' := 115) (v := .int (gI _ 1188 _)) m_235 rfl rfl ts_o87 rfl rfl rfl ?_)))
      refine tr_cv (pc' := 118) m_235 rfl rfl rfl m_228 rfl rfl rfl rfl (tr_rcv ts_o87 rfl) rfl rfl (cR_finish_ok l3 (gI s 1188 0) _ _ (Ok_b h)) (fun s3 h => ?_)
      refine ev_goto (pc' := 161) m_235 rfl rfl (ev_iinc (pc' := 164) (z := 1) m_235 rfl rfl rfl rfl rfl rfl (ev_goto (pc' := 48) m_235 rfl rfl ?_))
      exact am_Ev.sub (L := [(0, .ref 87), (1, .int (l1)), (2, .int (l2 + (1 : Int32)))]) ⟨rfl, rfl, rfl, trivial⟩ (hk48 l1 (l2 + (1 : Int32)) _ _ h)
def cR_endTurn_48_b (kk : Int32 → Int32 → ts → Option (ts)) (l1 : Int32) (l2 : Int32) (s : ts) : Option (ts) := (if l1 ≤ l2 then some s else (if am_idx l2 300 = true then (if am_idx (gA s 141 l2.toNatClampNeg) 300 = true then (if (gA s 120 (gA s 141 l2.toNatClampNeg).toNatClampNeg) = ((4 : Int32)) then (if am_idx (gA s 121 (gA s 141 l2.toNatClampNeg).toNatClampNeg) 900 = true then (cR_reckon (gA s 101 (gA s 121 (gA s 141 l2.toNatClampNeg).toNatClampNeg).toNatClampNeg) (gA s 141 l2.toNatClampNeg) s).bind (fun x6 => cR_endTurn_90 kk l1 l2 (gA s 141 l2.toNatClampNeg) x6.1 x6.2) else none) else cR_endTurn_90 kk l1 l2 (gA s 141 l2.toNatClampNeg) ((0 : Int32)) s) else none) else none))
def cR_endTurn_48 : Nat → Int32 → Int32 → ts → Option (ts)
  | 0, _, _, _ => none
  | n + 1, l1, l2, s => cR_endTurn_48_b (cR_endTurn_48 n) l1 l2 s
set_option maxRecDepth 20000 in
theorem cR_endTurn_48_ok {d : Nat} : ∀ (n : Nat) (l1 : Int32) (l2 : Int32) (s : ts) (Q : ts → Prop), Ok (cR_endTurn_48 n l1 l2 s) Q → am_Ev (d + 4) 235 (48, [(0, .ref 87), (1, .int (l1)), (2, .int (l2))], []) (lay s) (tq_v Q) := by
  intro n
  induction n with
  | zero => intro l1 l2 s Q h; exact Ok_n h
  | succ n ih =>
    intro l1 l2 s Q h
    rw [cR_endTurn_48.eq_2] at h
    unfold cR_endTurn_48_b at h
    refine ev_iload_n (pc' := 49) m_235 rfl rfl rfl (ev_iload_n (pc' := 50) m_235 rfl rfl rfl ?_)
    refine ev_icmp_ge (t := 167) (e := 53) m_235 rfl rfl rfl (fun c8 => ?_) (fun c8 => ?_)
    · replace h := Ok_t c8 h
      exact tr_rv m_235 rfl rfl (Ok_s h)
    · replace h := Ok_f c8 h
      refine ev_aload_n (pc' := 54) m_235 rfl rfl rfl (tr_get (pc' := 57) (v := .ref 141) m_235 rfl rfl ts_o87 rfl rfl rfl (ev_iload_n (pc' := 58) m_235 rfl rfl rfl ?_))
      obtain ⟨g1, h⟩ := Ok_g h
      refine tr_iald (pc' := 59) m_235 rfl rfl rfl g1 rfl (ev_istore_n (pc' := 60) m_235 rfl rfl rfl rfl (ev_aload_n (pc' := 61) m_235 rfl rfl rfl (tr_get (pc' := 64) (v := .ref 120) m_235 rfl rfl ts_o87 rfl rfl rfl (ev_iload_n (pc' := 65) m_235 rfl rfl rfl ?_))))
      obtain ⟨g2, h⟩ := Ok_g h
      refine tr_iald (pc' := 66) m_235 rfl rfl rfl g2 rfl (ev_iconst (pc' := 67) (x := 4) m_235 rfl rfl rfl ?_)
      refine ev_icmp_ne (t := 89) (e := 70) m_235 rfl rfl rfl (fun c7 => ?_) (fun c7 => ?_)
      · replace h := Ok_f c7 h
        refine ev_iconst (pc' := 90) (x := 0) m_235 rfl rfl rfl ?_
        exact am_Ev.sub (L := [(0, .ref 87), (1, .int (l1)), (2, .int (l2)), (3, .int (gA s 141 l2.toNatClampNeg))]) ⟨rfl, rfl, rfl, rfl, trivial⟩ (cR_endTurn_90_ok (cR_endTurn_48 n) ih l1 l2 (gA s 141 l2.toNatClampNeg) ((0 : Int32)) _ _ h)
      · replace h := Ok_t c7 h
        refine ev_aload_n (pc' := 71) m_235 rfl rfl rfl (ev_aload_n (pc' := 72) m_235 rfl rfl rfl (tr_get (pc' := 75) (v := .ref 101) m_235 rfl rfl ts_o87 rfl rfl rfl (ev_aload_n (pc' := 76) m_235 rfl rfl rfl (tr_get (pc' := 79) (v := .ref 121) m_235 rfl rfl ts_o87 rfl rfl rfl (ev_iload_n (pc' := 80) m_235 rfl rfl rfl (tr_iald (pc' := 81) m_235 rfl rfl rfl g2 rfl ?_))))))
        obtain ⟨g3, h⟩ := Ok_g h
        refine tr_iald (pc' := 82) m_235 rfl rfl rfl g3 rfl (ev_iload_n (pc' := 83) m_235 rfl rfl rfl ?_)
        refine tr_ci (pc' := 86) m_235 rfl rfl rfl m_236 rfl rfl rfl rfl (tr_rcv ts_o87 rfl) rfl rfl (cR_reckon_ok (gA s 101 (gA s 121 (gA s 141 l2.toNatClampNeg).toNatClampNeg).toNatClampNeg) (gA s 141 l2.toNatClampNeg) _ _ (Ok_b h)) (fun x6_ x6_s h => ?_)
        refine ev_goto (pc' := 90) m_235 rfl rfl ?_
        exact am_Ev.sub (L := [(0, .ref 87), (1, .int (l1)), (2, .int (l2)), (3, .int (gA s 141 l2.toNatClampNeg))]) ⟨rfl, rfl, rfl, rfl, trivial⟩ (cR_endTurn_90_ok (cR_endTurn_48 n) ih l1 l2 (gA s 141 l2.toNatClampNeg) x6_ _ _ h)
def cR_endTurn_23_b (kk : Int32 → Int32 → ts → Option (ts)) (l1 : Int32) (l2 : Int32) (s : ts) : Option (ts) := (if l1 ≤ l2 then cR_endTurn_48 tm_N l1 ((0 : Int32)) s else (if am_idx l2 300 = true then kk l1 (l2 + (1 : Int32)) (wA s 141 l2.toNatClampNeg (gA s 139 l2.toNatClampNeg)) else none))
def cR_endTurn_23 : Nat → Int32 → Int32 → ts → Option (ts)
  | 0, _, _, _ => none
  | n + 1, l1, l2, s => cR_endTurn_23_b (cR_endTurn_23 n) l1 l2 s
set_option maxRecDepth 20000 in
theorem cR_endTurn_23_ok {d : Nat} : ∀ (n : Nat) (l1 : Int32) (l2 : Int32) (s : ts) (Q : ts → Prop), Ok (cR_endTurn_23 n l1 l2 s) Q → am_Ev (d + 4) 235 (23, [(0, .ref 87), (1, .int (l1)), (2, .int (l2))], []) (lay s) (tq_v Q) := by
  intro n
  induction n with
  | zero => intro l1 l2 s Q h; exact Ok_n h
  | succ n ih =>
    intro l1 l2 s Q h
    rw [cR_endTurn_23.eq_2] at h
    unfold cR_endTurn_23_b at h
    refine ev_iload_n (pc' := 24) m_235 rfl rfl rfl (ev_iload_n (pc' := 25) m_235 rfl rfl rfl ?_)
    refine ev_icmp_ge (t := 46) (e := 28) m_235 rfl rfl rfl (fun c2 => ?_) (fun c2 => ?_)
    · replace h := Ok_t c2 h
      refine ev_iconst (pc' := 47) (x := 0) m_235 rfl rfl rfl (ev_istore_n (pc' := 48) m_235 rfl rfl rfl rfl ?_)
      exact am_Ev.sub (L := [(0, .ref 87), (1, .int (l1)), (2, .int ((0 : Int32)))]) ⟨rfl, rfl, rfl, trivial⟩ (cR_endTurn_48_ok tm_N l1 ((0 : Int32)) _ _ h)
    · replace h := Ok_f c2 h
      refine ev_aload_n (pc' := 29) m_235 rfl rfl rfl (tr_get (pc' := 32) (v := .ref 141) m_235 rfl rfl ts_o87 rfl rfl rfl (ev_iload_n (pc' := 33) m_235 rfl rfl rfl (ev_aload_n (pc' := 34) m_235 rfl rfl rfl (tr_get (pc' := 37) (v := .ref 139) m_235 rfl rfl ts_o87 rfl rfl rfl (ev_iload_n (pc' := 38) m_235 rfl rfl rfl ?_)))))
      obtain ⟨g1, h⟩ := Ok_g h
      refine tr_iald (pc' := 39) m_235 rfl rfl rfl g1 rfl (tr_iast (pc' := 40) m_235 rfl rfl rfl g1 rfl (ev_iinc (pc' := 43) (z := 1) m_235 rfl rfl rfl rfl rfl rfl (ev_goto (pc' := 23) m_235 rfl rfl ?_)))
      exact am_Ev.sub (L := [(0, .ref 87), (1, .int (l1)), (2, .int (l2 + (1 : Int32)))]) ⟨rfl, rfl, rfl, trivial⟩ (ih l1 (l2 + (1 : Int32)) _ _ h)
def cR_endTurn (s : ts) : Option (ts) := cR_endTurn_23 tm_N (gI (wI (wI s 1159 0 ((-2 : Int32))) 1154 0 ((gI (wI s 1159 0 ((-2 : Int32))) 1154 0) + ((1 : Int32)))) 1185 0) ((0 : Int32)) (wI (wI s 1159 0 ((-2 : Int32))) 1154 0 ((gI (wI s 1159 0 ((-2 : Int32))) 1154 0) + ((1 : Int32))))
set_option maxRecDepth 20000 in
theorem cR_endTurn_ok {d : Nat} (s : ts) (Q : ts → Prop) (h : Ok (cR_endTurn s) Q) : am_Ev (d + 4) 235 (0, [(0, .ref 87)], []) (lay s) (tq_v Q) := by
  unfold cR_endTurn at h
  refine ev_aload_n (pc' := 1) m_235 rfl rfl rfl (ev_bipush (pc' := 3) (x := -2) m_235 rfl rfl rfl (tr_pI (pc' := 6) (f := 1159) m_235 rfl rfl rfl ts_o87 rfl rfl rfl rfl (ev_aload_n (pc' := 7) m_235 rfl rfl rfl (ev_dup (pc' := 8) m_235 rfl rfl rfl (tr_get (pc' := 11) (v := .int (gI _ 1154 _)) m_235 rfl rfl ts_o87 rfl rfl rfl (ev_iconst (pc' := 12) (x := 1) m_235 rfl rfl rfl (ev_iadd (pc' := 13) m_235 rfl rfl ?_)))))))
  refine tr_pI (pc' := 16) (f := 1154) m_235 rfl rfl rfl ts_o87 rfl rfl rfl rfl (ev_aload_n (pc' := 17) m_235 rfl rfl rfl (tr_get (pc' := 20) (v := .int (gI _ 1185 _)) m_235 rfl rfl ts_o87 rfl rfl rfl (ev_istore_n (pc' := 21) m_235 rfl rfl rfl rfl (ev_iconst (pc' := 22) (x := 0) m_235 rfl rfl rfl (ev_istore_n (pc' := 23) m_235 rfl rfl rfl rfl ?_)))))
  exact am_Ev.sub (L := [(0, .ref 87), (1, .int (gI (wI (wI s 1159 0 ((-2 : Int32))) 1154 0 ((gI (wI s 1159 0 ((-2 : Int32))) 1154 0) + ((1 : Int32)))) 1185 0)), (2, .int ((0 : Int32)))]) ⟨rfl, rfl, rfl, trivial⟩ (cR_endTurn_23_ok tm_N (gI (wI (wI s 1159 0 ((-2 : Int32))) 1154 0 ((gI (wI s 1159 0 ((-2 : Int32))) 1154 0) + ((1 : Int32)))) 1185 0) ((0 : Int32)) _ _ h)
def cR_settleLine_69 (l1 : Int32) (s : ts) : Option (ts) := (if am_idx l1 300 = true then (if (gA s 120 l1.toNatClampNeg) = ((7 : Int32)) then some s else (cR_endTurn s).bind (fun s3 => some s3)) else none)
set_option maxRecDepth 20000 in
theorem cR_settleLine_69_ok {d : Nat} (l1 : Int32) (s : ts) (Q : ts → Prop) (h : Ok (cR_settleLine_69 l1 s) Q) : am_Ev (d + 5) 227 (69, [(0, .ref 87), (1, .int (l1))], []) (lay s) (tq_v Q) := by
  unfold cR_settleLine_69 at h
  refine ev_aload_n (pc' := 70) m_227 rfl rfl rfl (tr_get (pc' := 73) (v := .ref 120) m_227 rfl rfl ts_o87 rfl rfl rfl (ev_iload_n (pc' := 74) m_227 rfl rfl rfl ?_))
  obtain ⟨g1, h⟩ := Ok_g h
  refine tr_iald (pc' := 75) m_227 rfl rfl rfl g1 rfl (ev_bipush (pc' := 77) (x := 7) m_227 rfl rfl rfl ?_)
  refine ev_icmp_eq (t := 84) (e := 80) m_227 rfl rfl rfl (fun c5 => ?_) (fun c5 => ?_)
  · replace h := Ok_t c5 h
    exact tr_rv m_227 rfl rfl (Ok_s h)
  · replace h := Ok_f c5 h
    refine ev_aload_n (pc' := 81) m_227 rfl rfl rfl ?_
    refine tr_cv (pc' := 84) m_227 rfl rfl rfl m_235 rfl rfl rfl rfl (tr_rcv ts_o87 rfl) rfl rfl (cR_endTurn_ok _ _ (Ok_b h)) (fun s3 h => ?_)
    exact tr_rv m_227 rfl rfl (Ok_s h)
def cR_settleLine_0_b (kk : Int32 → ts → Option (ts)) (l1 : Int32) (s : ts) : Option (ts) := (if am_idx l1 300 = true then (if am_idx (gA s 121 l1.toNatClampNeg) 900 = true then (if (gA s 99 (gA s 121 l1.toNatClampNeg).toNatClampNeg) = ((26 : Int32)) then kk l1 (wA s 121 l1.toNatClampNeg (gA s 103 (gA s 121 l1.toNatClampNeg).toNatClampNeg)) else (if (gA s 99 (gA s 121 l1.toNatClampNeg).toNatClampNeg) = ((27 : Int32)) then (if (gA s 120 l1.toNatClampNeg) = ((7 : Int32)) then (cR_finish l1 ((0 : Int32)) s).bind (fun s4 => cR_settleLine_69 l1 s4) else cR_settleLine_69 l1 s) else cR_settleLine_69 l1 s)) else none) else none)
def cR_settleLine_0 : Nat → Int32 → ts → Option (ts)
  | 0, _, _ => none
  | n + 1, l1, s => cR_settleLine_0_b (cR_settleLine_0 n) l1 s
set_option maxRecDepth 20000 in
theorem cR_settleLine_0_ok {d : Nat} : ∀ (n : Nat) (l1 : Int32) (s : ts) (Q : ts → Prop), Ok (cR_settleLine_0 n l1 s) Q → am_Ev (d + 5) 227 (0, [(0, .ref 87), (1, .int (l1))], []) (lay s) (tq_v Q) := by
  intro n
  induction n with
  | zero => intro l1 s Q h; exact Ok_n h
  | succ n ih =>
    intro l1 s Q h
    rw [cR_settleLine_0.eq_2] at h
    unfold cR_settleLine_0_b at h
    refine ev_aload_n (pc' := 1) m_227 rfl rfl rfl (tr_get (pc' := 4) (v := .ref 99) m_227 rfl rfl ts_o87 rfl rfl rfl (ev_aload_n (pc' := 5) m_227 rfl rfl rfl (tr_get (pc' := 8) (v := .ref 121) m_227 rfl rfl ts_o87 rfl rfl rfl (ev_iload_n (pc' := 9) m_227 rfl rfl rfl ?_))))
    obtain ⟨g1, h⟩ := Ok_g h
    refine tr_iald (pc' := 10) m_227 rfl rfl rfl g1 rfl ?_
    obtain ⟨g2, h⟩ := Ok_g h
    refine tr_iald (pc' := 11) m_227 rfl rfl rfl g2 rfl (ev_bipush (pc' := 13) (x := 26) m_227 rfl rfl rfl ?_)
    refine ev_icmp_ne (t := 36) (e := 16) m_227 rfl rfl rfl (fun c8 => ?_) (fun c8 => ?_)
    · replace h := Ok_f c8 h
      refine ev_aload_n (pc' := 37) m_227 rfl rfl rfl (tr_get (pc' := 40) (v := .ref 99) m_227 rfl rfl ts_o87 rfl rfl rfl (ev_aload_n (pc' := 41) m_227 rfl rfl rfl (tr_get (pc' := 44) (v := .ref 121) m_227 rfl rfl ts_o87 rfl rfl rfl (ev_iload_n (pc' := 45) m_227 rfl rfl rfl (tr_iald (pc' := 46) m_227 rfl rfl rfl g1 rfl (tr_iald (pc' := 47) m_227 rfl rfl rfl g2 rfl (ev_bipush (pc' := 49) (x := 27) m_227 rfl rfl rfl ?_)))))))
      refine ev_icmp_ne (t := 69) (e := 52) m_227 rfl rfl rfl (fun c7 => ?_) (fun c7 => ?_)
      · replace h := Ok_f c7 h
        exact am_Ev.sub (L := [(0, .ref 87), (1, .int (l1))]) ⟨rfl, rfl, trivial⟩ (cR_settleLine_69_ok l1 _ _ h)
      · replace h := Ok_t c7 h
        refine ev_aload_n (pc' := 53) m_227 rfl rfl rfl (tr_get (pc' := 56) (v := .ref 120) m_227 rfl rfl ts_o87 rfl rfl rfl (ev_iload_n (pc' := 57) m_227 rfl rfl rfl (tr_iald (pc' := 58) m_227 rfl rfl rfl g1 rfl (ev_bipush (pc' := 60) (x := 7) m_227 rfl rfl rfl ?_))))
        refine ev_icmp_ne (t := 69) (e := 63) m_227 rfl rfl rfl (fun c6 => ?_) (fun c6 => ?_)
        · replace h := Ok_f c6 h
          exact am_Ev.sub (L := [(0, .ref 87), (1, .int (l1))]) ⟨rfl, rfl, trivial⟩ (cR_settleLine_69_ok l1 _ _ h)
        · replace h := Ok_t c6 h
          refine ev_aload_n (pc' := 64) m_227 rfl rfl rfl (ev_iload_n (pc' := 65) m_227 rfl rfl rfl (ev_iconst (pc' := 66) (x := 0) m_227 rfl rfl rfl ?_))
          refine tr_cv (pc' := 69) m_227 rfl rfl rfl m_228 rfl rfl rfl rfl (tr_rcv ts_o87 rfl) rfl rfl (cR_finish_ok l1 ((0 : Int32)) _ _ (Ok_b h)) (fun s4 h => ?_)
          exact am_Ev.sub (L := [(0, .ref 87), (1, .int (l1))]) ⟨rfl, rfl, trivial⟩ (cR_settleLine_69_ok l1 _ _ h)
    · replace h := Ok_t c8 h
      refine ev_aload_n (pc' := 17) m_227 rfl rfl rfl (tr_get (pc' := 20) (v := .ref 121) m_227 rfl rfl ts_o87 rfl rfl rfl (ev_iload_n (pc' := 21) m_227 rfl rfl rfl (ev_aload_n (pc' := 22) m_227 rfl rfl rfl (tr_get (pc' := 25) (v := .ref 103) m_227 rfl rfl ts_o87 rfl rfl rfl (ev_aload_n (pc' := 26) m_227 rfl rfl rfl (tr_get (pc' := 29) (v := .ref 121) m_227 rfl rfl ts_o87 rfl rfl rfl (ev_iload_n (pc' := 30) m_227 rfl rfl rfl ?_)))))))
      refine tr_iald (pc' := 31) m_227 rfl rfl rfl g1 rfl (tr_iald (pc' := 32) m_227 rfl rfl rfl g2 rfl (tr_iast (pc' := 33) m_227 rfl rfl rfl g1 rfl (ev_goto (pc' := 0) m_227 rfl rfl ?_)))
      exact am_Ev.sub (L := [(0, .ref 87), (1, .int (l1))]) ⟨rfl, rfl, trivial⟩ (ih l1 _ _ h)
def cR_settleLine (l1 : Int32) (s : ts) : Option (ts) := cR_settleLine_0 tm_N l1 s
theorem cR_settleLine_ok {d : Nat} (l1 : Int32) (s : ts) (Q : ts → Prop) (h : Ok (cR_settleLine l1 s) Q) : am_Ev (d + 5) 227 (0, [(0, .ref 87), (1, .int (l1))], []) (lay s) (tq_v Q) := cR_settleLine_0_ok tm_N l1 s Q h
def cR_begin (s : ts) : Option (Int32 × ts) := (cR_taken s).bind (fun x3 => (if x3.1 = ((-2 : Int32)) then some ((0 : Int32), x3.2) else (if am_idx x3.1 300 = true then (cR_goOn (gA x3.2 122 x3.1.toNatClampNeg) x3.2).bind (fun s6 => (cR_settleLine x3.1 (wA (wI s6 1159 0 x3.1) 120 x3.1.toNatClampNeg ((7 : Int32)))).bind (fun s9 => some ((1 : Int32), s9))) else none)))
set_option maxRecDepth 20000 in
theorem cR_begin_ok {d : Nat} (s : ts) (Q : Int32 × ts → Prop) (h : Ok (cR_begin s) Q) : am_Ev (d + 6) 223 (0, [(0, .ref 87)], []) (lay s) (tq_i Q) := by
  unfold cR_begin at h
  refine ev_aload_n (pc' := 1) m_223 rfl rfl rfl ?_
  refine tr_ci (pc' := 4) m_223 rfl rfl rfl m_224 rfl rfl rfl rfl (tr_rcv ts_o87 rfl) rfl rfl (cR_taken_ok _ _ (Ok_b h)) (fun x3_ x3_s h => ?_)
  refine ev_istore_n (pc' := 5) m_223 rfl rfl rfl rfl (ev_iload_n (pc' := 6) m_223 rfl rfl rfl (ev_bipush (pc' := 8) (x := -2) m_223 rfl rfl rfl ?_))
  refine ev_icmp_ne (t := 13) (e := 11) m_223 rfl rfl rfl (fun c11 => ?_) (fun c11 => ?_)
  · replace h := Ok_f c11 h
    refine ev_aload_n (pc' := 14) m_223 rfl rfl rfl (ev_aload_n (pc' := 15) m_223 rfl rfl rfl (tr_get (pc' := 18) (v := .ref 122) m_223 rfl rfl ts_o87 rfl rfl rfl (ev_iload_n (pc' := 19) m_223 rfl rfl rfl ?_)))
    obtain ⟨g4, h⟩ := Ok_g h
    refine tr_iald (pc' := 20) m_223 rfl rfl rfl g4 rfl ?_
    refine tr_cv (pc' := 23) m_223 rfl rfl rfl m_225 rfl rfl rfl rfl (tr_rcv ts_o87 rfl) rfl rfl (cR_goOn_ok (gA x3_s 122 x3_.toNatClampNeg) _ _ (Ok_b h)) (fun s6 h => ?_)
    refine ev_aload_n (pc' := 24) m_223 rfl rfl rfl (ev_iload_n (pc' := 25) m_223 rfl rfl rfl (tr_pI (pc' := 28) (f := 1159) m_223 rfl rfl rfl ts_o87 rfl rfl rfl rfl (ev_aload_n (pc' := 29) m_223 rfl rfl rfl (tr_get (pc' := 32) (v := .ref 120) m_223 rfl rfl ts_o87 rfl rfl rfl (ev_iload_n (pc' := 33) m_223 rfl rfl rfl (ev_bipush (pc' := 35) (x := 7) m_223 rfl rfl rfl (tr_iast (pc' := 36) m_223 rfl rfl rfl g4 rfl ?_)))))))
    refine ev_aload_n (pc' := 37) m_223 rfl rfl rfl (ev_iload_n (pc' := 38) m_223 rfl rfl rfl ?_)
    refine tr_cv (pc' := 41) m_223 rfl rfl rfl m_227 rfl rfl rfl rfl (tr_rcv ts_o87 rfl) rfl rfl (cR_settleLine_ok x3_ _ _ (Ok_b h)) (fun s9 h => ?_)
    refine ev_iconst (pc' := 42) (x := 1) m_223 rfl rfl rfl ?_
    exact tr_rz m_223 rfl rfl (Or.inr rfl) (Ok_s h)
  · replace h := Ok_t c11 h
    refine ev_iconst (pc' := 12) (x := 0) m_223 rfl rfl rfl ?_
    exact tr_rz m_223 rfl rfl (Or.inl rfl) (Ok_s h)
def cR_enter_8_b (kk : Int32 → Int32 → Int32 → Int32 → Int32 → ts → Option (ts)) (l1 : Int32) (l2 : Int32) (l3 : Int32) (l4 : Int32) (l5 : Int32) (s : ts) : Option (ts) := (if l5 ≤ l4 then (if am_idx ((((300 : Int32)) * l1) + l4) 8400 = true then (if am_idx l1 28 = true then some (wA (wA (wA s 137 ((((300 : Int32)) * l1) + l4).toNatClampNeg l2) 138 ((((300 : Int32)) * l1) + l4).toNatClampNeg l3) 136 l1.toNatClampNeg ((gA (wA (wA s 137 ((((300 : Int32)) * l1) + l4).toNatClampNeg l2) 138 ((((300 : Int32)) * l1) + l4).toNatClampNeg l3) 136 l1.toNatClampNeg) + ((1 : Int32)))) else none) else none) else (if am_idx (((((300 : Int32)) * l1) + l5) - ((1 : Int32))) 8400 = true then (if am_idx ((((300 : Int32)) * l1) + l5) 8400 = true then kk l1 l2 l3 l4 (l5 + (-1 : Int32)) (wA (wA s 137 ((((300 : Int32)) * l1) + l5).toNatClampNeg (gA s 137 (((((300 : Int32)) * l1) + l5) - ((1 : Int32))).toNatClampNeg)) 138 ((((300 : Int32)) * l1) + l5).toNatClampNeg (gA (wA s 137 ((((300 : Int32)) * l1) + l5).toNatClampNeg (gA s 137 (((((300 : Int32)) * l1) + l5) - ((1 : Int32))).toNatClampNeg)) 138 (((((300 : Int32)) * l1) + l5) - ((1 : Int32))).toNatClampNeg)) else none) else none))
def cR_enter_8 : Nat → Int32 → Int32 → Int32 → Int32 → Int32 → ts → Option (ts)
  | 0, _, _, _, _, _, _ => none
  | n + 1, l1, l2, l3, l4, l5, s => cR_enter_8_b (cR_enter_8 n) l1 l2 l3 l4 l5 s
set_option maxRecDepth 20000 in
theorem cR_enter_8_ok {d : Nat} : ∀ (n : Nat) (l1 : Int32) (l2 : Int32) (l3 : Int32) (l4 : Int32) (l5 : Int32) (s : ts) (Q : ts → Prop), Ok (cR_enter_8 n l1 l2 l3 l4 l5 s) Q → am_Ev (d + 0) 242 (8, [(0, .ref 87), (1, .int (l1)), (2, .int (l2)), (3, .int (l3)), (4, .int (l4)), (5, .int (l5))], []) (lay s) (tq_v Q) := by
  intro n
  induction n with
  | zero => intro l1 l2 l3 l4 l5 s Q h; exact Ok_n h
  | succ n ih =>
    intro l1 l2 l3 l4 l5 s Q h
    rw [cR_enter_8.eq_2] at h
    unfold cR_enter_8_b at h
    refine ev_iload (pc' := 10) m_242 rfl rfl rfl (ev_iload (pc' := 12) m_242 rfl rfl rfl ?_)
    refine ev_icmp_le (t := 77) (e := 15) m_242 rfl rfl rfl (fun c5 => ?_) (fun c5 => ?_)
    · replace h := Ok_t c5 h
      refine ev_aload_n (pc' := 78) m_242 rfl rfl rfl (tr_get (pc' := 81) (v := .ref 137) m_242 rfl rfl ts_o87 rfl rfl rfl (ev_sipush (pc' := 84) (x := 300) m_242 rfl rfl rfl (ev_iload_n (pc' := 85) m_242 rfl rfl rfl (ev_imul (pc' := 86) m_242 rfl rfl (ev_iload (pc' := 88) m_242 rfl rfl rfl (ev_iadd (pc' := 89) m_242 rfl rfl (ev_iload_n (pc' := 90) m_242 rfl rfl rfl ?_)))))))
      obtain ⟨g1, h⟩ := Ok_g h
      refine tr_iast (pc' := 91) m_242 rfl rfl rfl g1 rfl (ev_aload_n (pc' := 92) m_242 rfl rfl rfl (tr_get (pc' := 95) (v := .ref 138) m_242 rfl rfl ts_o87 rfl rfl rfl (ev_sipush (pc' := 98) (x := 300) m_242 rfl rfl rfl (ev_iload_n (pc' := 99) m_242 rfl rfl rfl (ev_imul (pc' := 100) m_242 rfl rfl (ev_iload (pc' := 102) m_242 rfl rfl rfl (ev_iadd (pc' := 103) m_242 rfl rfl ?_)))))))
      refine ev_iload_n (pc' := 104) m_242 rfl rfl rfl (tr_iast (pc' := 105) m_242 rfl rfl rfl g1 rfl (ev_aload_n (pc' := 106) m_242 rfl rfl rfl (tr_get (pc' := 109) (v := .ref 136) m_242 rfl rfl ts_o87 rfl rfl rfl (ev_iload_n (pc' := 110) m_242 rfl rfl rfl (ev_dup2 (pc' := 111) m_242 rfl ⟨rfl, rfl⟩ rfl ?_)))))
      obtain ⟨g2, h⟩ := Ok_g h
      refine tr_iald (pc' := 112) m_242 rfl rfl rfl g2 rfl (ev_iconst (pc' := 113) (x := 1) m_242 rfl rfl rfl (ev_iadd (pc' := 114) m_242 rfl rfl (tr_iast (pc' := 115) m_242 rfl rfl rfl g2 rfl ?_)))
      exact tr_rv m_242 rfl rfl (Ok_s h)
    · replace h := Ok_f c5 h
      refine ev_aload_n (pc' := 16) m_242 rfl rfl rfl (tr_get (pc' := 19) (v := .ref 137) m_242 rfl rfl ts_o87 rfl rfl rfl (ev_sipush (pc' := 22) (x := 300) m_242 rfl rfl rfl (ev_iload_n (pc' := 23) m_242 rfl rfl rfl (ev_imul (pc' := 24) m_242 rfl rfl (ev_iload (pc' := 26) m_242 rfl rfl rfl (ev_iadd (pc' := 27) m_242 rfl rfl (ev_aload_n (pc' := 28) m_242 rfl rfl rfl ?_)))))))
      refine tr_get (pc' := 31) (v := .ref 137) m_242 rfl rfl ts_o87 rfl rfl rfl (ev_sipush (pc' := 34) (x := 300) m_242 rfl rfl rfl (ev_iload_n (pc' := 35) m_242 rfl rfl rfl (ev_imul (pc' := 36) m_242 rfl rfl (ev_iload (pc' := 38) m_242 rfl rfl rfl (ev_iadd (pc' := 39) m_242 rfl rfl (ev_iconst (pc' := 40) (x := 1) m_242 rfl rfl rfl (ev_isub (pc' := 41) m_242 rfl rfl ?_)))))))
      obtain ⟨g3, h⟩ := Ok_g h
      refine tr_iald (pc' := 42) m_242 rfl rfl rfl g3 rfl ?_
      obtain ⟨g4, h⟩ := Ok_g h
      refine tr_iast (pc' := 43) m_242 rfl rfl rfl g4 rfl (ev_aload_n (pc' := 44) m_242 rfl rfl rfl (tr_get (pc' := 47) (v := .ref 138) m_242 rfl rfl ts_o87 rfl rfl rfl (ev_sipush (pc' := 50) (x := 300) m_242 rfl rfl rfl (ev_iload_n (pc' := 51) m_242 rfl rfl rfl (ev_imul (pc' := 52) m_242 rfl rfl (ev_iload (pc' := 54) m_242 rfl rfl rfl (ev_iadd (pc' := 55) m_242 rfl rfl ?_)))))))
      refine ev_aload_n (pc' := 56) m_242 rfl rfl rfl (tr_get (pc' := 59) (v := .ref 138) m_242 rfl rfl ts_o87 rfl rfl rfl (ev_sipush (pc' := 62) (x := 300) m_242 rfl rfl rfl (ev_iload_n (pc' := 63) m_242 rfl rfl rfl (ev_imul (pc' := 64) m_242 rfl rfl (ev_iload (pc' := 66) m_242 rfl rfl rfl (ev_iadd (pc' := 67) m_242 rfl rfl (ev_iconst (pc' := 68) (x := 1) m_242 rfl rfl rfl ?_)))))))
      refine ev_isub (pc' := 69) m_242 rfl rfl (tr_iald (pc' := 70) m_242 rfl rfl rfl g3 rfl (tr_iast (pc' := 71) m_242 rfl rfl rfl g4 rfl (ev_iinc (pc' := 74) (z := -1) m_242 rfl rfl rfl rfl rfl rfl (ev_goto (pc' := 8) m_242 rfl rfl ?_))))
      exact am_Ev.sub (L := [(0, .ref 87), (1, .int (l1)), (2, .int (l2)), (3, .int (l3)), (4, .int (l4)), (5, .int (l5 + (-1 : Int32)))]) ⟨rfl, rfl, rfl, rfl, rfl, rfl, trivial⟩ (ih l1 l2 l3 l4 (l5 + (-1 : Int32)) _ _ h)
def cR_enter (l1 : Int32) (l2 : Int32) (l3 : Int32) (l4 : Int32) (s : ts) : Option (ts) := (if am_idx l1 28 = true then cR_enter_8 tm_N l1 l2 l3 l4 (gA s 136 l1.toNatClampNeg) s else none)
set_option maxRecDepth 20000 in
theorem cR_enter_ok {d : Nat} (l1 : Int32) (l2 : Int32) (l3 : Int32) (l4 : Int32) (s : ts) (Q : ts → Prop) (h : Ok (cR_enter l1 l2 l3 l4 s) Q) : am_Ev (d + 0) 242 (0, [(0, .ref 87), (1, .int (l1)), (2, .int (l2)), (3, .int (l3)), (4, .int (l4))], []) (lay s) (tq_v Q) := by
  unfold cR_enter at h
  refine ev_aload_n (pc' := 1) m_242 rfl rfl rfl (tr_get (pc' := 4) (v := .ref 136) m_242 rfl rfl ts_o87 rfl rfl rfl (ev_iload_n (pc' := 5) m_242 rfl rfl rfl ?_))
  obtain ⟨g1, h⟩ := Ok_g h
  refine tr_iald (pc' := 6) m_242 rfl rfl rfl g1 rfl (ev_istore (pc' := 8) m_242 rfl rfl rfl rfl ?_)
  exact am_Ev.sub (L := [(0, .ref 87), (1, .int (l1)), (2, .int (l2)), (3, .int (l3)), (4, .int (l4)), (5, .int (gA s 136 l1.toNatClampNeg))]) ⟨rfl, rfl, rfl, rfl, rfl, rfl, trivial⟩ (cR_enter_8_ok tm_N l1 l2 l3 l4 (gA s 136 l1.toNatClampNeg) _ _ h)
def cR_waits (l1 : Int32) (l2 : Int32) (l3 : Int32) (s : ts) : Option (ts) := (if am_idx l1 300 = true then some (wA (wA (wA s 120 l1.toNatClampNeg l2) 125 l1.toNatClampNeg l3) 124 l1.toNatClampNeg (gI (wA (wA s 120 l1.toNatClampNeg l2) 125 l1.toNatClampNeg l3) 1152 0)) else none)
set_option maxRecDepth 20000 in
theorem cR_waits_ok {d : Nat} (l1 : Int32) (l2 : Int32) (l3 : Int32) (s : ts) (Q : ts → Prop) (h : Ok (cR_waits l1 l2 l3 s) Q) : am_Ev (d + 0) 243 (0, [(0, .ref 87), (1, .int (l1)), (2, .int (l2)), (3, .int (l3))], []) (lay s) (tq_v Q) := by
  unfold cR_waits at h
  refine ev_aload_n (pc' := 1) m_243 rfl rfl rfl (tr_get (pc' := 4) (v := .ref 120) m_243 rfl rfl ts_o87 rfl rfl rfl (ev_iload_n (pc' := 5) m_243 rfl rfl rfl (ev_iload_n (pc' := 6) m_243 rfl rfl rfl ?_)))
  obtain ⟨g1, h⟩ := Ok_g h
  refine tr_iast (pc' := 7) m_243 rfl rfl rfl g1 rfl (ev_aload_n (pc' := 8) m_243 rfl rfl rfl (tr_get (pc' := 11) (v := .ref 125) m_243 rfl rfl ts_o87 rfl rfl rfl (ev_iload_n (pc' := 12) m_243 rfl rfl rfl (ev_iload_n (pc' := 13) m_243 rfl rfl rfl (tr_iast (pc' := 14) m_243 rfl rfl rfl g1 rfl (ev_aload_n (pc' := 15) m_243 rfl rfl rfl (tr_get (pc' := 18) (v := .ref 124) m_243 rfl rfl ts_o87 rfl rfl rfl ?_)))))))
  refine ev_iload_n (pc' := 19) m_243 rfl rfl rfl (ev_aload_n (pc' := 20) m_243 rfl rfl rfl (tr_get (pc' := 23) (v := .int (gI _ 1152 _)) m_243 rfl rfl ts_o87 rfl rfl rfl (tr_iast (pc' := 24) m_243 rfl rfl rfl g1 rfl ?_)))
  exact tr_rv m_243 rfl rfl (Ok_s h)
def cR_seize_83 (l1 : Int32) (l2 : Int32) (l3 : Int32) (l4 : Int32) (s : ts) : Option (ts) := (cR_enter l2 l1 l3 l4 s).bind (fun s2 => (cR_waits l1 ((2 : Int32)) l2 s2).bind (fun s5 => some s5))
set_option maxRecDepth 20000 in
theorem cR_seize_83_ok {d : Nat} (l1 : Int32) (l2 : Int32) (l3 : Int32) (l4 : Int32) (s : ts) (Q : ts → Prop) (h : Ok (cR_seize_83 l1 l2 l3 l4 s) Q) : am_Ev (d + 1) 241 (83, [(0, .ref 87), (1, .int (l1)), (2, .int (l2)), (3, .int (l3)), (4, .int (l4))], []) (lay s) (tq_v Q) := by
  unfold cR_seize_83 at h
  refine ev_aload_n (pc' := 84) m_241 rfl rfl rfl (ev_iload_n (pc' := 85) m_241 rfl rfl rfl (ev_iload_n (pc' := 86) m_241 rfl rfl rfl (ev_iload_n (pc' := 87) m_241 rfl rfl rfl (ev_iload (pc' := 89) m_241 rfl rfl rfl ?_))))
  refine tr_cv (pc' := 92) m_241 rfl rfl rfl m_242 rfl rfl rfl rfl (tr_rcv ts_o87 rfl) rfl rfl (cR_enter_ok l2 l1 l3 l4 _ _ (Ok_b h)) (fun s2 h => ?_)
  refine ev_aload_n (pc' := 93) m_241 rfl rfl rfl (ev_iload_n (pc' := 94) m_241 rfl rfl rfl (ev_iconst (pc' := 95) (x := 2) m_241 rfl rfl rfl (ev_iload_n (pc' := 96) m_241 rfl rfl rfl ?_)))
  refine tr_cv (pc' := 99) m_241 rfl rfl rfl m_243 rfl rfl rfl rfl (tr_rcv ts_o87 rfl) rfl rfl (cR_waits_ok l1 ((2 : Int32)) l2 _ _ (Ok_b h)) (fun s5 h => ?_)
  exact tr_rv m_241 rfl rfl (Ok_s h)
def cR_seize_53_b (kk : Int32 → Int32 → Int32 → Int32 → ts → Option (ts)) (l1 : Int32) (l2 : Int32) (l3 : Int32) (l4 : Int32) (s : ts) : Option (ts) := (if l4 ≤ ((0 : Int32)) then cR_seize_83 l1 l2 l3 l4 s else (if am_idx (((((300 : Int32)) * l2) + l4) - ((1 : Int32))) 8400 = true then (if (gA s 138 (((((300 : Int32)) * l2) + l4) - ((1 : Int32))).toNatClampNeg) ≤ l3 then cR_seize_83 l1 l2 l3 l4 s else kk l1 l2 l3 (l4 + (-1 : Int32)) s) else none))
def cR_seize_53 : Nat → Int32 → Int32 → Int32 → Int32 → ts → Option (ts)
  | 0, _, _, _, _, _ => none
  | n + 1, l1, l2, l3, l4, s => cR_seize_53_b (cR_seize_53 n) l1 l2 l3 l4 s
set_option maxRecDepth 20000 in
theorem cR_seize_53_ok {d : Nat} : ∀ (n : Nat) (l1 : Int32) (l2 : Int32) (l3 : Int32) (l4 : Int32) (s : ts) (Q : ts → Prop), Ok (cR_seize_53 n l1 l2 l3 l4 s) Q → am_Ev (d + 1) 241 (53, [(0, .ref 87), (1, .int (l1)), (2, .int (l2)), (3, .int (l3)), (4, .int (l4))], []) (lay s) (tq_v Q) := by
  intro n
  induction n with
  | zero => intro l1 l2 l3 l4 s Q h; exact Ok_n h
  | succ n ih =>
    intro l1 l2 l3 l4 s Q h
    rw [cR_seize_53.eq_2] at h
    unfold cR_seize_53_b at h
    refine ev_iload (pc' := 55) m_241 rfl rfl rfl ?_
    refine ev_if_le (t := 83) (e := 58) m_241 rfl rfl rfl (fun c3 => ?_) (fun c3 => ?_)
    · replace h := Ok_t c3 h
      exact am_Ev.sub (L := [(0, .ref 87), (1, .int (l1)), (2, .int (l2)), (3, .int (l3)), (4, .int (l4))]) ⟨rfl, rfl, rfl, rfl, rfl, trivial⟩ (cR_seize_83_ok l1 l2 l3 l4 _ _ h)
    · replace h := Ok_f c3 h
      refine ev_aload_n (pc' := 59) m_241 rfl rfl rfl (tr_get (pc' := 62) (v := .ref 138) m_241 rfl rfl ts_o87 rfl rfl rfl (ev_sipush (pc' := 65) (x := 300) m_241 rfl rfl rfl (ev_iload_n (pc' := 66) m_241 rfl rfl rfl (ev_imul (pc' := 67) m_241 rfl rfl (ev_iload (pc' := 69) m_241 rfl rfl rfl (ev_iadd (pc' := 70) m_241 rfl rfl (ev_iconst (pc' := 71) (x := 1) m_241 rfl rfl rfl ?_)))))))
      refine ev_isub (pc' := 72) m_241 rfl rfl ?_
      obtain ⟨g1, h⟩ := Ok_g h
      refine tr_iald (pc' := 73) m_241 rfl rfl rfl g1 rfl (ev_iload_n (pc' := 74) m_241 rfl rfl rfl ?_)
      refine ev_icmp_le (t := 83) (e := 77) m_241 rfl rfl rfl (fun c2 => ?_) (fun c2 => ?_)
      · replace h := Ok_t c2 h
        exact am_Ev.sub (L := [(0, .ref 87), (1, .int (l1)), (2, .int (l2)), (3, .int (l3)), (4, .int (l4))]) ⟨rfl, rfl, rfl, rfl, rfl, trivial⟩ (cR_seize_83_ok l1 l2 l3 l4 _ _ h)
      · replace h := Ok_f c2 h
        refine ev_iinc (pc' := 80) (z := -1) m_241 rfl rfl rfl rfl rfl rfl (ev_goto (pc' := 53) m_241 rfl rfl ?_)
        exact am_Ev.sub (L := [(0, .ref 87), (1, .int (l1)), (2, .int (l2)), (3, .int (l3)), (4, .int (l4 + (-1 : Int32)))]) ⟨rfl, rfl, rfl, rfl, rfl, trivial⟩ (ih l1 l2 l3 (l4 + (-1 : Int32)) _ _ h)
def cR_seize (l1 : Int32) (l2 : Int32) (l3 : Int32) (s : ts) : Option (ts) := (if am_idx l2 14 = true then (if (gA s 129 l2.toNatClampNeg) ≤ ((0 : Int32)) then (if am_idx l2 28 = true then cR_seize_53 tm_N l1 l2 l3 (gA s 136 l2.toNatClampNeg) s else none) else (if am_idx ((((8 : Int32)) * l1) + l2) 2400 = true then some (wA (wA (wA s 129 l2.toNatClampNeg ((gA s 129 l2.toNatClampNeg) - ((1 : Int32)))) 128 ((((8 : Int32)) * l1) + l2).toNatClampNeg ((gA (wA s 129 l2.toNatClampNeg ((gA s 129 l2.toNatClampNeg) - ((1 : Int32)))) 128 ((((8 : Int32)) * l1) + l2).toNatClampNeg) + ((1 : Int32)))) 130 l2.toNatClampNeg ((gA (wA (wA s 129 l2.toNatClampNeg ((gA s 129 l2.toNatClampNeg) - ((1 : Int32)))) 128 ((((8 : Int32)) * l1) + l2).toNatClampNeg ((gA (wA s 129 l2.toNatClampNeg ((gA s 129 l2.toNatClampNeg) - ((1 : Int32)))) 128 ((((8 : Int32)) * l1) + l2).toNatClampNeg) + ((1 : Int32)))) 130 l2.toNatClampNeg) + ((1 : Int32)))) else none)) else none)
set_option maxRecDepth 20000 in
theorem cR_seize_ok {d : Nat} (l1 : Int32) (l2 : Int32) (l3 : Int32) (s : ts) (Q : ts → Prop) (h : Ok (cR_seize l1 l2 l3 s) Q) : am_Ev (d + 1) 241 (0, [(0, .ref 87), (1, .int (l1)), (2, .int (l2)), (3, .int (l3))], []) (lay s) (tq_v Q) := by
  unfold cR_seize at h
  refine ev_aload_n (pc' := 1) m_241 rfl rfl rfl (tr_get (pc' := 4) (v := .ref 129) m_241 rfl rfl ts_o87 rfl rfl rfl (ev_iload_n (pc' := 5) m_241 rfl rfl rfl ?_))
  obtain ⟨g1, h⟩ := Ok_g h
  refine tr_iald (pc' := 6) m_241 rfl rfl rfl g1 rfl ?_
  refine ev_if_le (t := 45) (e := 9) m_241 rfl rfl rfl (fun c4 => ?_) (fun c4 => ?_)
  · replace h := Ok_t c4 h
    refine ev_aload_n (pc' := 46) m_241 rfl rfl rfl (tr_get (pc' := 49) (v := .ref 136) m_241 rfl rfl ts_o87 rfl rfl rfl (ev_iload_n (pc' := 50) m_241 rfl rfl rfl ?_))
    obtain ⟨g2, h⟩ := Ok_g h
    refine tr_iald (pc' := 51) m_241 rfl rfl rfl g2 rfl (ev_istore (pc' := 53) m_241 rfl rfl rfl rfl ?_)
    exact am_Ev.sub (L := [(0, .ref 87), (1, .int (l1)), (2, .int (l2)), (3, .int (l3)), (4, .int (gA s 136 l2.toNatClampNeg))]) ⟨rfl, rfl, rfl, rfl, rfl, trivial⟩ (cR_seize_53_ok tm_N l1 l2 l3 (gA s 136 l2.toNatClampNeg) _ _ h)
  · replace h := Ok_f c4 h
    refine ev_aload_n (pc' := 10) m_241 rfl rfl rfl (tr_get (pc' := 13) (v := .ref 129) m_241 rfl rfl ts_o87 rfl rfl rfl (ev_iload_n (pc' := 14) m_241 rfl rfl rfl (ev_dup2 (pc' := 15) m_241 rfl ⟨rfl, rfl⟩ rfl (tr_iald (pc' := 16) m_241 rfl rfl rfl g1 rfl (ev_iconst (pc' := 17) (x := 1) m_241 rfl rfl rfl (ev_isub (pc' := 18) m_241 rfl rfl (tr_iast (pc' := 19) m_241 rfl rfl rfl g1 rfl ?_)))))))
    refine ev_aload_n (pc' := 20) m_241 rfl rfl rfl (tr_get (pc' := 23) (v := .ref 128) m_241 rfl rfl ts_o87 rfl rfl rfl (ev_bipush (pc' := 25) (x := 8) m_241 rfl rfl rfl (ev_iload_n (pc' := 26) m_241 rfl rfl rfl (ev_imul (pc' := 27) m_241 rfl rfl (ev_iload_n (pc' := 28) m_241 rfl rfl rfl (ev_iadd (pc' := 29) m_241 rfl rfl (ev_dup2 (pc' := 30) m_241 rfl ⟨rfl, rfl⟩ rfl ?_)))))))
    obtain ⟨g3, h⟩ := Ok_g h
    refine tr_iald (pc' := 31) m_241 rfl rfl rfl g3 rfl (ev_iconst (pc' := 32) (x := 1) m_241 rfl rfl rfl (ev_iadd (pc' := 33) m_241 rfl rfl (tr_iast (pc' := 34) m_241 rfl rfl rfl g3 rfl (ev_aload_n (pc' := 35) m_241 rfl rfl rfl (tr_get (pc' := 38) (v := .ref 130) m_241 rfl rfl ts_o87 rfl rfl rfl (ev_iload_n (pc' := 39) m_241 rfl rfl rfl (ev_dup2 (pc' := 40) m_241 rfl ⟨rfl, rfl⟩ rfl ?_)))))))
    refine tr_iald (pc' := 41) m_241 rfl rfl rfl g1 rfl (ev_iconst (pc' := 42) (x := 1) m_241 rfl rfl rfl (ev_iadd (pc' := 43) m_241 rfl rfl (tr_iast (pc' := 44) m_241 rfl rfl rfl g1 rfl ?_)))
    exact tr_rv m_241 rfl rfl (Ok_s h)
def cR_free (l1 : Int32) (l2 : Int32) (s : ts) : Option (ts) := (if am_idx ((((8 : Int32)) * l1) + l2) 2400 = true then (if (gA s 128 ((((8 : Int32)) * l1) + l2).toNatClampNeg) = ((0 : Int32)) then (cR_finish l1 ((3 : Int32)) s).bind (fun s7 => some s7) else (if am_idx l2 14 = true then (cR_serveResource l2 (wA (wA s 128 ((((8 : Int32)) * l1) + l2).toNatClampNeg ((gA s 128 ((((8 : Int32)) * l1) + l2).toNatClampNeg) - ((1 : Int32)))) 129 l2.toNatClampNeg ((gA (wA s 128 ((((8 : Int32)) * l1) + l2).toNatClampNeg ((gA s 128 ((((8 : Int32)) * l1) + l2).toNatClampNeg) - ((1 : Int32)))) 129 l2.toNatClampNeg) + ((1 : Int32))))).bind (fun s4 => some s4) else none)) else none)
set_option maxRecDepth 20000 in
theorem cR_free_ok {d : Nat} (l1 : Int32) (l2 : Int32) (s : ts) (Q : ts → Prop) (h : Ok (cR_free l1 l2 s) Q) : am_Ev (d + 4) 244 (0, [(0, .ref 87), (1, .int (l1)), (2, .int (l2))], []) (lay s) (tq_v Q) := by
  unfold cR_free at h
  refine ev_aload_n (pc' := 1) m_244 rfl rfl rfl (tr_get (pc' := 4) (v := .ref 128) m_244 rfl rfl ts_o87 rfl rfl rfl (ev_bipush (pc' := 6) (x := 8) m_244 rfl rfl rfl (ev_iload_n (pc' := 7) m_244 rfl rfl rfl (ev_imul (pc' := 8) m_244 rfl rfl (ev_iload_n (pc' := 9) m_244 rfl rfl rfl (ev_iadd (pc' := 10) m_244 rfl rfl ?_))))))
  obtain ⟨g1, h⟩ := Ok_g h
  refine tr_iald (pc' := 11) m_244 rfl rfl rfl g1 rfl ?_
  refine ev_if_ne (t := 21) (e := 14) m_244 rfl rfl rfl (fun c9 => ?_) (fun c9 => ?_)
  · replace h := Ok_f c9 h
    refine ev_aload_n (pc' := 22) m_244 rfl rfl rfl (tr_get (pc' := 25) (v := .ref 128) m_244 rfl rfl ts_o87 rfl rfl rfl (ev_bipush (pc' := 27) (x := 8) m_244 rfl rfl rfl (ev_iload_n (pc' := 28) m_244 rfl rfl rfl (ev_imul (pc' := 29) m_244 rfl rfl (ev_iload_n (pc' := 30) m_244 rfl rfl rfl (ev_iadd (pc' := 31) m_244 rfl rfl (ev_dup2 (pc' := 32) m_244 rfl ⟨rfl, rfl⟩ rfl ?_)))))))
    refine tr_iald (pc' := 33) m_244 rfl rfl rfl g1 rfl (ev_iconst (pc' := 34) (x := 1) m_244 rfl rfl rfl (ev_isub (pc' := 35) m_244 rfl rfl (tr_iast (pc' := 36) m_244 rfl rfl rfl g1 rfl (ev_aload_n (pc' := 37) m_244 rfl rfl rfl (tr_get (pc' := 40) (v := .ref 129) m_244 rfl rfl ts_o87 rfl rfl rfl (ev_iload_n (pc' := 41) m_244 rfl rfl rfl (ev_dup2 (pc' := 42) m_244 rfl ⟨rfl, rfl⟩ rfl ?_)))))))
    obtain ⟨g2, h⟩ := Ok_g h
    refine tr_iald (pc' := 43) m_244 rfl rfl rfl g2 rfl (ev_iconst (pc' := 44) (x := 1) m_244 rfl rfl rfl (ev_iadd (pc' := 45) m_244 rfl rfl (tr_iast (pc' := 46) m_244 rfl rfl rfl g2 rfl (ev_aload_n (pc' := 47) m_244 rfl rfl rfl (ev_iload_n (pc' := 48) m_244 rfl rfl rfl ?_)))))
    refine tr_cv (pc' := 51) m_244 rfl rfl rfl m_234 rfl rfl rfl rfl (tr_rcv ts_o87 rfl) rfl rfl (cR_serveResource_ok l2 _ _ (Ok_b h)) (fun s4 h => ?_)
    exact tr_rv m_244 rfl rfl (Ok_s h)
  · replace h := Ok_t c9 h
    refine ev_aload_n (pc' := 15) m_244 rfl rfl rfl (ev_iload_n (pc' := 16) m_244 rfl rfl rfl (ev_iconst (pc' := 17) (x := 3) m_244 rfl rfl rfl ?_))
    refine tr_cv (pc' := 20) m_244 rfl rfl rfl m_228 rfl rfl rfl rfl (tr_rcv ts_o87 rfl) rfl rfl (cR_finish_ok l1 ((3 : Int32)) _ _ (Ok_b h)) (fun s7 h => ?_)
    exact tr_rv m_244 rfl rfl (Ok_s h)
def cR_isIn_5_b (kk : Int32 → Int32 → Int32 → Int32 → ts → Option (Int32 × ts)) (l1 : Int32) (l2 : Int32) (l3 : Int32) (l4 : Int32) (s : ts) : Option (Int32 × ts) := (if am_idx l1 28 = true then (if (gA s 136 l1.toNatClampNeg) ≤ l4 then (if l3 = 0 ∨ l3 = 1 then some (l3, s) else none) else (if l3 = ((0 : Int32)) then (if am_idx ((((300 : Int32)) * l1) + l4) 8400 = true then (if (gA s 137 ((((300 : Int32)) * l1) + l4).toNatClampNeg) = l2 then kk l1 l2 ((1 : Int32)) (l4 + (1 : Int32)) s else kk l1 l2 ((0 : Int32)) (l4 + (1 : Int32)) s) else none) else kk l1 l2 ((1 : Int32)) (l4 + (1 : Int32)) s)) else none)
def cR_isIn_5 : Nat → Int32 → Int32 → Int32 → Int32 → ts → Option (Int32 × ts)
  | 0, _, _, _, _, _ => none
  | n + 1, l1, l2, l3, l4, s => cR_isIn_5_b (cR_isIn_5 n) l1 l2 l3 l4 s
set_option maxRecDepth 20000 in
theorem cR_isIn_5_ok {d : Nat} : ∀ (n : Nat) (l1 : Int32) (l2 : Int32) (l3 : Int32) (l4 : Int32) (s : ts) (Q : Int32 × ts → Prop), Ok (cR_isIn_5 n l1 l2 l3 l4 s) Q → am_Ev (d + 0) 246 (5, [(0, .ref 87), (1, .int (l1)), (2, .int (l2)), (3, .int (l3)), (4, .int (l4))], []) (lay s) (tq_i Q) := by
  intro n
  induction n with
  | zero => intro l1 l2 l3 l4 s Q h; exact Ok_n h
  | succ n ih =>
    intro l1 l2 l3 l4 s Q h
    rw [cR_isIn_5.eq_2] at h
    unfold cR_isIn_5_b at h
    refine ev_iload (pc' := 7) m_246 rfl rfl rfl (ev_aload_n (pc' := 8) m_246 rfl rfl rfl (tr_get (pc' := 11) (v := .ref 136) m_246 rfl rfl ts_o87 rfl rfl rfl (ev_iload_n (pc' := 12) m_246 rfl rfl rfl ?_)))
    obtain ⟨g1, h⟩ := Ok_g h
    refine tr_iald (pc' := 13) m_246 rfl rfl rfl g1 rfl ?_
    refine ev_icmp_ge (t := 49) (e := 16) m_246 rfl rfl rfl (fun c6 => ?_) (fun c6 => ?_)
    · replace h := Ok_t c6 h
      refine ev_iload_n (pc' := 50) m_246 rfl rfl rfl ?_
      obtain ⟨g2, h⟩ := Ok_g h
      exact tr_rz m_246 rfl rfl g2 (Ok_s h)
    · replace h := Ok_f c6 h
      refine ev_iload_n (pc' := 17) m_246 rfl rfl rfl ?_
      refine ev_if_ne (t := 37) (e := 20) m_246 rfl rfl rfl (fun c5 => ?_) (fun c5 => ?_)
      · replace h := Ok_f c5 h
        refine ev_iconst (pc' := 38) (x := 1) m_246 rfl rfl rfl (ev_goto (pc' := 42) m_246 rfl rfl (ev_istore_n (pc' := 43) m_246 rfl rfl rfl rfl (ev_iinc (pc' := 46) (z := 1) m_246 rfl rfl rfl rfl rfl rfl (ev_goto (pc' := 5) m_246 rfl rfl ?_))))
        exact am_Ev.sub (L := [(0, .ref 87), (1, .int (l1)), (2, .int (l2)), (3, .int ((1 : Int32))), (4, .int (l4 + (1 : Int32)))]) ⟨rfl, rfl, rfl, rfl, rfl, trivial⟩ (ih l1 l2 ((1 : Int32)) (l4 + (1 : Int32)) _ _ h)
      · replace h := Ok_t c5 h
        refine ev_aload_n (pc' := 21) m_246 rfl rfl rfl (tr_get (pc' := 24) (v := .ref 137) m_246 rfl rfl ts_o87 rfl rfl rfl (ev_sipush (pc' := 27) (x := 300) m_246 rfl rfl rfl (ev_iload_n (pc' := 28) m_246 rfl rfl rfl (ev_imul (pc' := 29) m_246 rfl rfl (ev_iload (pc' := 31) m_246 rfl rfl rfl (ev_iadd (pc' := 32) m_246 rfl rfl ?_))))))
        obtain ⟨g3, h⟩ := Ok_g h
        refine tr_iald (pc' := 33) m_246 rfl rfl rfl g3 rfl (ev_iload_n (pc' := 34) m_246 rfl rfl rfl ?_)
        refine ev_icmp_ne (t := 41) (e := 37) m_246 rfl rfl rfl (fun c4 => ?_) (fun c4 => ?_)
        · replace h := Ok_f c4 h
          refine ev_iconst (pc' := 42) (x := 0) m_246 rfl rfl rfl (ev_istore_n (pc' := 43) m_246 rfl rfl rfl rfl (ev_iinc (pc' := 46) (z := 1) m_246 rfl rfl rfl rfl rfl rfl (ev_goto (pc' := 5) m_246 rfl rfl ?_)))
          exact am_Ev.sub (L := [(0, .ref 87), (1, .int (l1)), (2, .int (l2)), (3, .int ((0 : Int32))), (4, .int (l4 + (1 : Int32)))]) ⟨rfl, rfl, rfl, rfl, rfl, trivial⟩ (ih l1 l2 ((0 : Int32)) (l4 + (1 : Int32)) _ _ h)
        · replace h := Ok_t c4 h
          refine ev_iconst (pc' := 38) (x := 1) m_246 rfl rfl rfl (ev_goto (pc' := 42) m_246 rfl rfl (ev_istore_n (pc' := 43) m_246 rfl rfl rfl rfl (ev_iinc (pc' := 46) (z := 1) m_246 rfl rfl rfl rfl rfl rfl (ev_goto (pc' := 5) m_246 rfl rfl ?_))))
          exact am_Ev.sub (L := [(0, .ref 87), (1, .int (l1)), (2, .int (l2)), (3, .int ((1 : Int32))), (4, .int (l4 + (1 : Int32)))]) ⟨rfl, rfl, rfl, rfl, rfl, trivial⟩ (ih l1 l2 ((1 : Int32)) (l4 + (1 : Int32)) _ _ h)
def cR_isIn (l1 : Int32) (l2 : Int32) (s : ts) : Option (Int32 × ts) := cR_isIn_5 tm_N l1 l2 ((0 : Int32)) ((0 : Int32)) s
set_option maxRecDepth 20000 in
theorem cR_isIn_ok {d : Nat} (l1 : Int32) (l2 : Int32) (s : ts) (Q : Int32 × ts → Prop) (h : Ok (cR_isIn l1 l2 s) Q) : am_Ev (d + 0) 246 (0, [(0, .ref 87), (1, .int (l1)), (2, .int (l2))], []) (lay s) (tq_i Q) := by
  unfold cR_isIn at h
  refine ev_iconst (pc' := 1) (x := 0) m_246 rfl rfl rfl (ev_istore_n (pc' := 2) m_246 rfl rfl rfl rfl (ev_iconst (pc' := 3) (x := 0) m_246 rfl rfl rfl (ev_istore (pc' := 5) m_246 rfl rfl rfl rfl ?_)))
  exact am_Ev.sub (L := [(0, .ref 87), (1, .int (l1)), (2, .int (l2)), (3, .int ((0 : Int32))), (4, .int ((0 : Int32)))]) ⟨rfl, rfl, rfl, rfl, rfl, trivial⟩ (cR_isIn_5_ok tm_N l1 l2 ((0 : Int32)) ((0 : Int32)) _ _ h)
