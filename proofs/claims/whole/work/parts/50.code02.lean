/-! THE METHODS AS FUNCTIONS, printed by wip/tools/decomp.py; the machine does what they say. -/
def cD_readPlain_24 (l1 : Int32) (l2 : Int32) (l3 : Int32) (t1 : Int32) (s : ts) : Option (Int32 × ts) := (if t1 = 0 ∨ t1 = 1 then (clF 200 0 ((0 : Int32)) (wI s 302 0 t1)).bind (fun x4 => (if x4.1 = ((0 : Int32)) then some ((0 : Int32), wI x4.2 302 0 ((0 : Int32))) else (cD_closeStatement l1 l2 l3 (wI x4.2 302 0 ((0 : Int32)))).bind (fun x7 => (if x7.1 = ((0 : Int32)) then some ((0 : Int32), x7.2) else some ((1 : Int32), x7.2))))) else none)
set_option maxRecDepth 20000 in
theorem cD_readPlain_24_ok {d : Nat} (l1 : Int32) (l2 : Int32) (l3 : Int32) (t1 : Int32) (s : ts) (Q : Int32 × ts → Prop) (h : Ok (cD_readPlain_24 l1 l2 l3 t1 s) Q) : am_Ev (d + 202) 59 (24, [(0, .ref 28), (1, .int (l1)), (2, .int (l2)), (3, .int (l3))], [.int (t1), .ref 33]) (lay s) (tq_i Q) := by
  unfold cD_readPlain_24 at h
  obtain ⟨g1, h⟩ := Ok_g h
  refine tr_pZ (pc' := 27) (f := 302) m_59 rfl rfl rfl ts_o33 rfl rfl g1 rfl rfl (ev_aload_n (pc' := 28) m_59 rfl rfl rfl (tr_get (pc' := 31) (v := .ref 33) m_59 rfl rfl ts_o28 rfl rfl rfl (ev_iconst (pc' := 32) (x := 0) m_59 rfl rfl rfl ?_)))
  refine tr_cz (pc' := 35) m_59 rfl rfl rfl m_60 rfl rfl rfl rfl rfl (tr_rcv ts_o33 rfl) rfl rfl (clF_ok 200 0 ((0 : Int32)) _ _ (Ok_b h)) (fun x4_ x4_s h2 h => ?_)
  refine ev_istore (pc' := 37) m_59 rfl rfl rfl rfl (ev_aload_n (pc' := 38) m_59 rfl rfl rfl (tr_get (pc' := 41) (v := .ref 33) m_59 rfl rfl ts_o28 rfl rfl rfl (ev_iconst (pc' := 42) (x := 0) m_59 rfl rfl rfl (tr_pZ (pc' := 45) (f := 302) m_59 rfl rfl rfl ts_o33 rfl rfl (Or.inl rfl) rfl rfl (ev_iload (pc' := 47) m_59 rfl rfl rfl ?_)))))
  refine ev_if_eq (t := 64) (e := 50) m_59 rfl rfl rfl (fun c9 => ?_) (fun c9 => ?_)
  · replace h := Ok_t c9 h
    refine ev_iconst (pc' := 65) (x := 0) m_59 rfl rfl rfl ?_
    exact tr_rz m_59 rfl rfl (Or.inl rfl) (Ok_s h)
  · replace h := Ok_f c9 h
    refine ev_aload_n (pc' := 51) m_59 rfl rfl rfl (ev_iload_n (pc' := 52) m_59 rfl rfl rfl (ev_iload_n (pc' := 53) m_59 rfl rfl rfl (ev_iload_n (pc' := 54) m_59 rfl rfl rfl ?_)))
    refine tr_cz (pc' := 57) m_59 rfl rfl rfl m_73 rfl rfl rfl rfl rfl (tr_rcv ts_o28 rfl) rfl rfl (cD_closeStatement_ok l1 l2 l3 _ _ (Ok_b h)) (fun x7_ x7_s h5 h => ?_)
    refine ev_if_eq (t := 64) (e := 60) m_59 rfl rfl rfl (fun c8 => ?_) (fun c8 => ?_)
    · replace h := Ok_t c8 h
      refine ev_iconst (pc' := 65) (x := 0) m_59 rfl rfl rfl ?_
      exact tr_rz m_59 rfl rfl (Or.inl rfl) (Ok_s h)
    · replace h := Ok_f c8 h
      refine ev_iconst (pc' := 61) (x := 1) m_59 rfl rfl rfl (ev_goto (pc' := 65) m_59 rfl rfl ?_)
      exact tr_rz m_59 rfl rfl (Or.inr rfl) (Ok_s h)
def cD_readPlain (l1 : Int32) (l2 : Int32) (s : ts) : Option (Int32 × ts) := (if l1 = ((525 : Int32)) then cD_readPlain_24 l1 l2 (gI s 217 0) ((1 : Int32)) s else cD_readPlain_24 l1 l2 (gI s 217 0) ((0 : Int32)) s)
set_option maxRecDepth 20000 in
theorem cD_readPlain_ok {d : Nat} (l1 : Int32) (l2 : Int32) (s : ts) (Q : Int32 × ts → Prop) (h : Ok (cD_readPlain l1 l2 s) Q) : am_Ev (d + 202) 59 (0, [(0, .ref 28), (1, .int (l1)), (2, .int (l2))], []) (lay s) (tq_i Q) := by
  unfold cD_readPlain at h
  refine ev_aload_n (pc' := 1) m_59 rfl rfl rfl (tr_get (pc' := 4) (v := .ref 12) m_59 rfl rfl ts_o28 rfl rfl rfl (tr_get (pc' := 7) (v := .int (gI _ 217 _)) m_59 rfl rfl ts_o12 rfl rfl rfl (ev_istore_n (pc' := 8) m_59 rfl rfl rfl rfl (ev_aload_n (pc' := 9) m_59 rfl rfl rfl (tr_get (pc' := 12) (v := .ref 33) m_59 rfl rfl ts_o28 rfl rfl rfl (ev_iload_n (pc' := 13) m_59 rfl rfl rfl (ev_sipush (pc' := 16) (x := 525) m_59 rfl rfl rfl ?_)))))))
  refine ev_icmp_ne (t := 23) (e := 19) m_59 rfl rfl rfl (fun c1 => ?_) (fun c1 => ?_)
  · replace h := Ok_f c1 h
    refine ev_iconst (pc' := 24) (x := 0) m_59 rfl rfl rfl ?_
    exact am_Ev.sub (L := [(0, .ref 28), (1, .int (l1)), (2, .int (l2)), (3, .int (gI s 217 0))]) ⟨rfl, rfl, rfl, rfl, trivial⟩ (cD_readPlain_24_ok l1 l2 (gI s 217 0) ((0 : Int32)) _ _ h)
  · replace h := Ok_t c1 h
    refine ev_iconst (pc' := 20) (x := 1) m_59 rfl rfl rfl (ev_goto (pc' := 24) m_59 rfl rfl ?_)
    exact am_Ev.sub (L := [(0, .ref 28), (1, .int (l1)), (2, .int (l2)), (3, .int (gI s 217 0))]) ⟨rfl, rfl, rfl, rfl, trivial⟩ (cD_readPlain_24_ok l1 l2 (gI s 217 0) ((1 : Int32)) _ _ h)
def cG_aim (l1 : Int32) (l2 : Int32) (s : ts) : Option (ts) := (if l1 < ((0 : Int32)) then some s else (if (gI s 214 0) ≤ l1 then some s else (if am_idx l1 512 = true then some (wA s 23 l1.toNatClampNeg l2) else none)))
set_option maxRecDepth 20000 in
theorem cG_aim_ok {d : Nat} (l1 : Int32) (l2 : Int32) (s : ts) (Q : ts → Prop) (h : Ok (cG_aim l1 l2 s) Q) : am_Ev (d + 0) 76 (0, [(0, .ref 12), (1, .int (l1)), (2, .int (l2))], []) (lay s) (tq_v Q) := by
  unfold cG_aim at h
  refine ev_iload_n (pc' := 1) m_76 rfl rfl rfl ?_
  refine ev_if_lt (t := 19) (e := 4) m_76 rfl rfl rfl (fun c3 => ?_) (fun c3 => ?_)
  · replace h := Ok_t c3 h
    exact tr_rv m_76 rfl rfl (Ok_s h)
  · replace h := Ok_f c3 h
    refine ev_iload_n (pc' := 5) m_76 rfl rfl rfl (ev_aload_n (pc' := 6) m_76 rfl rfl rfl (tr_get (pc' := 9) (v := .int (gI _ 214 _)) m_76 rfl rfl ts_o12 rfl rfl rfl ?_))
    refine ev_icmp_ge (t := 19) (e := 12) m_76 rfl rfl rfl (fun c2 => ?_) (fun c2 => ?_)
    · replace h := Ok_t c2 h
      exact tr_rv m_76 rfl rfl (Ok_s h)
    · replace h := Ok_f c2 h
      refine ev_aload_n (pc' := 13) m_76 rfl rfl rfl (tr_get (pc' := 16) (v := .ref 23) m_76 rfl rfl ts_o12 rfl rfl rfl (ev_iload_n (pc' := 17) m_76 rfl rfl rfl (ev_iload_n (pc' := 18) m_76 rfl rfl rfl ?_)))
      obtain ⟨g1, h⟩ := Ok_g h
      refine tr_iast (pc' := 19) m_76 rfl rfl rfl g1 rfl ?_
      exact tr_rv m_76 rfl rfl (Ok_s h)
def clT_m (w : Nat) : Nat := if w = 0 then 55 else if w = 1 then 56 else if w = 2 then 75 else if w = 3 then 77 else 77
def cD_readIf (rc : Nat → Int32 → ts → Option (Int32 × ts)) (l1 : Int32) (s : ts) : Option (Int32 × ts) := (clF 200 0 ((0 : Int32)) s).bind (fun x3 => (if x3.1 = ((0 : Int32)) then some ((0 : Int32), x3.2) else (cG_addAct ((517 : Int32)) ((-2 : Int32)) (gI s 217 0) x3.2).bind (fun x6 => (rc 0 (l1 + ((1 : Int32))) x6.2).bind (fun x9 => (if x9.1 = ((0 : Int32)) then some ((0 : Int32), x9.2) else (if (gI x9.2 107 0) = ((518 : Int32)) then (cT_advance x9.2).bind (fun s11 => (cG_addAct ((2 : Int32)) ((-2 : Int32)) (gI s11 217 0) s11).bind (fun x15 => (cG_aim x6.1 (gI x15.2 214 0) x15.2).bind (fun s17 => (rc 0 (l1 + ((1 : Int32))) s17).bind (fun x21 => (if x21.1 = ((0 : Int32)) then some ((0 : Int32), x21.2) else (cG_aim x15.1 (gI x21.2 214 0) x21.2).bind (fun s23 => some ((1 : Int32), s23))))))) else (cG_aim x6.1 (gI x9.2 214 0) x9.2).bind (fun s27 => some ((1 : Int32), s27))))))))
set_option maxRecDepth 20000 in
theorem cD_readIf_ok {e : Nat} (rc : Nat → Int32 → ts → Option (Int32 × ts)) (hrc : ∀ (w : Nat) (a : Int32) (s : ts) (Q : Int32 × ts → Prop), Ok (rc w a s) Q → am_Ev (e + 202) (clT_m w) (0, [(0, .ref 28), (1, .int a)], []) (lay s) (tq_i Q)) (l1 : Int32) (s : ts) (Q : Int32 × ts → Prop) (h : Ok (cD_readIf rc l1 s) Q) : am_Ev (e + 202 + 1) 75 (0, [(0, .ref 28), (1, .int (l1))], []) (lay s) (tq_i Q) := by
  unfold cD_readIf at h
  refine ev_aload_n (pc' := 1) m_75 rfl rfl rfl (tr_get (pc' := 4) (v := .ref 12) m_75 rfl rfl ts_o28 rfl rfl rfl (tr_get (pc' := 7) (v := .int (gI _ 217 _)) m_75 rfl rfl ts_o12 rfl rfl rfl (ev_istore_n (pc' := 8) m_75 rfl rfl rfl rfl (ev_aload_n (pc' := 9) m_75 rfl rfl rfl (tr_get (pc' := 12) (v := .ref 33) m_75 rfl rfl ts_o28 rfl rfl rfl (ev_iconst (pc' := 13) (x := 0) m_75 rfl rfl rfl ?_))))))
  refine tr_cz (pc' := 16) m_75 rfl rfl rfl m_60 rfl rfl rfl rfl rfl (tr_rcv ts_o33 rfl) rfl rfl (clF_ok 200 0 ((0 : Int32)) _ _ (Ok_b h)) (fun x3_ x3_s h1 h => ?_)
  refine ev_if_ne (t := 21) (e := 19) m_75 rfl rfl rfl (fun c31 => ?_) (fun c31 => ?_)
  · replace h := Ok_f c31 h
    refine ev_aload_n (pc' := 22) m_75 rfl rfl rfl (tr_get (pc' := 25) (v := .ref 12) m_75 rfl rfl ts_o28 rfl rfl rfl (ev_sipush (pc' := 28) (x := 517) m_75 rfl rfl rfl (ev_bipush (pc' := 30) (x := -2) m_75 rfl rfl rfl (ev_iload_n (pc' := 31) m_75 rfl rfl rfl ?_))))
    refine tr_ci (pc' := 34) m_75 rfl rfl rfl m_74 rfl rfl rfl rfl (tr_rcv ts_o12 rfl) rfl rfl (cG_addAct_ok ((517 : Int32)) ((-2 : Int32)) (gI s 217 0) _ _ (Ok_b h)) (fun x6_ x6_s h => ?_)
    refine ev_istore_n (pc' := 35) m_75 rfl rfl rfl rfl (ev_aload_n (pc' := 36) m_75 rfl rfl rfl (ev_iload_n (pc' := 37) m_75 rfl rfl rfl (ev_iconst (pc' := 38) (x := 1) m_75 rfl rfl rfl (ev_iadd (pc' := 39) m_75 rfl rfl ?_))))
    refine tr_cz (pc' := 42) m_75 rfl rfl rfl m_55 rfl rfl rfl rfl rfl (tr_rcv ts_o28 rfl) rfl rfl (hrc 0 (l1 + ((1 : Int32))) _ _ (Ok_b h)) (fun x9_ x9_s h7 h => ?_)
    refine ev_if_ne (t := 47) (e := 45) m_75 rfl rfl rfl (fun c30 => ?_) (fun c30 => ?_)
    · replace h := Ok_f c30 h
      refine ev_aload_n (pc' := 48) m_75 rfl rfl rfl (tr_get (pc' := 51) (v := .ref 7) m_75 rfl rfl ts_o28 rfl rfl rfl (tr_get (pc' := 54) (v := .int (gI _ 107 _)) m_75 rfl rfl ts_o7 rfl rfl rfl (ev_sipush (pc' := 57) (x := 518) m_75 rfl rfl rfl ?_)))
      refine ev_icmp_eq (t := 77) (e := 60) m_75 rfl rfl rfl (fun c29 => ?_) (fun c29 => ?_)
      · replace h := Ok_t c29 h
        refine ev_aload_n (pc' := 78) m_75 rfl rfl rfl (tr_get (pc' := 81) (v := .ref 7) m_75 rfl rfl ts_o28 rfl rfl rfl ?_)
        refine tr_cv (pc' := 84) m_75 rfl rfl rfl m_37 rfl rfl rfl rfl (tr_rcv ts_o7 rfl) rfl rfl (cT_advance_ok _ _ (Ok_b h)) (fun s11 h => ?_)
        refine ev_aload_n (pc' := 85) m_75 rfl rfl rfl (tr_get (pc' := 88) (v := .ref 12) m_75 rfl rfl ts_o28 rfl rfl rfl (ev_iconst (pc' := 89) (x := 2) m_75 rfl rfl rfl (ev_bipush (pc' := 91) (x := -2) m_75 rfl rfl rfl (ev_aload_n (pc' := 92) m_75 rfl rfl rfl (tr_get (pc' := 95) (v := .ref 12) m_75 rfl rfl ts_o28 rfl rfl rfl (tr_get (pc' := 98) (v := .int (gI _ 217 _)) m_75 rfl rfl ts_o12 rfl rfl rfl ?_))))))
        refine tr_ci (pc' := 101) m_75 rfl rfl rfl m_74 rfl rfl rfl rfl (tr_rcv ts_o12 rfl) rfl rfl (cG_addAct_ok ((2 : Int32)) ((-2 : Int32)) (gI s11 217 0) _ _ (Ok_b h)) (fun x15_ x15_s h => ?_)
        refine ev_istore (pc' := 103) m_75 rfl rfl rfl rfl (ev_aload_n (pc' := 104) m_75 rfl rfl rfl (tr_get (pc' := 107) (v := .ref 12) m_75 rfl rfl ts_o28 rfl rfl rfl (ev_iload_n (pc' := 108) m_75 rfl rfl rfl (ev_aload_n (pc' := 109) m_75 rfl rfl rfl (tr_get (pc' := 112) (v := .ref 12) m_75 rfl rfl ts_o28 rfl rfl rfl (tr_get (pc' := 115) (v := .int (gI _ 214 _)) m_75 rfl rfl ts_o12 rfl rfl rfl ?_))))))
        refine tr_cv (pc' := 118) m_75 rfl rfl rfl m_76 rfl rfl rfl rfl (tr_rcv ts_o12 rfl) rfl rfl (cG_aim_ok x6_ (gI x15_s 214 0) _ _ (Ok_b h)) (fun s17 h => ?_)
        refine ev_aload_n (pc' := 119) m_75 rfl rfl rfl (ev_iload_n (pc' := 120) m_75 rfl rfl rfl (ev_iconst (pc' := 121) (x := 1) m_75 rfl rfl rfl (ev_iadd (pc' := 122) m_75 rfl rfl ?_)))
        refine tr_cz (pc' := 125) m_75 rfl rfl rfl m_55 rfl rfl rfl rfl rfl (tr_rcv ts_o28 rfl) rfl rfl (hrc 0 (l1 + ((1 : Int32))) _ _ (Ok_b h)) (fun x21_ x21_s h19 h => ?_)
        refine ev_if_ne (t := 130) (e := 128) m_75 rfl rfl rfl (fun c25 => ?_) (fun c25 => ?_)
        · replace h := Ok_f c25 h
          refine ev_aload_n (pc' := 131) m_75 rfl rfl rfl (tr_get (pc' := 134) (v := .ref 12) m_75 rfl rfl ts_o28 rfl rfl rfl (ev_iload (pc' := 136) m_75 rfl rfl rfl (ev_aload_n (pc' := 137) m_75 rfl rfl rfl (tr_get (pc' := 140) (v := .ref 12) m_75 rfl rfl ts_o28 rfl rfl rfl (tr_get (pc' := 143) (v := .int (gI _ 214 _)) m_75 rfl rfl ts_o12 rfl rfl rfl ?_)))))
          refine tr_cv (pc' := 146) m_75 rfl rfl rfl m_76 rfl rfl rfl rfl (tr_rcv ts_o12 rfl) rfl rfl (cG_aim_ok x15_ (gI x21_s 214 0) _ _ (Ok_b h)) (fun s23 h => ?_)
          refine ev_iconst (pc' := 147) (x := 1) m_75 rfl rfl rfl ?_
          exact tr_rz m_75 rfl rfl (Or.inr rfl) (Ok_s h)
        · replace h := Ok_t c25 h
          refine ev_iconst (pc' := 129) (x := 0) m_75 rfl rfl rfl ?_
          exact tr_rz m_75 rfl rfl (Or.inl rfl) (Ok_s h)
      · replace h := Ok_f c29 h
        refine ev_aload_n (pc' := 61) m_75 rfl rfl rfl (tr_get (pc' := 64) (v := .ref 12) m_75 rfl rfl ts_o28 rfl rfl rfl (ev_iload_n (pc' := 65) m_75 rfl rfl rfl (ev_aload_n (pc' := 66) m_75 rfl rfl rfl (tr_get (pc' := 69) (v := .ref 12) m_75 rfl rfl ts_o28 rfl rfl rfl (tr_get (pc' := 72) (v := .int (gI _ 214 _)) m_75 rfl rfl ts_o12 rfl rfl rfl ?_)))))
        refine tr_cv (pc' := 75) m_75 rfl rfl rfl m_76 rfl rfl rfl rfl (tr_rcv ts_o12 rfl) rfl rfl (cG_aim_ok x6_ (gI x9_s 214 0) _ _ (Ok_b h)) (fun s27 h => ?_)
        refine ev_iconst (pc' := 76) (x := 1) m_75 rfl rfl rfl ?_
        exact tr_rz m_75 rfl rfl (Or.inr rfl) (Ok_s h)
    · replace h := Ok_t c30 h
      refine ev_iconst (pc' := 46) (x := 0) m_75 rfl rfl rfl ?_
      exact tr_rz m_75 rfl rfl (Or.inl rfl) (Ok_s h)
  · replace h := Ok_t c31 h
    refine ev_iconst (pc' := 20) (x := 0) m_75 rfl rfl rfl ?_
    exact tr_rz m_75 rfl rfl (Or.inl rfl) (Ok_s h)
def cD_readWhile (rc : Nat → Int32 → ts → Option (Int32 × ts)) (l1 : Int32) (s : ts) : Option (Int32 × ts) := (clF 200 0 ((0 : Int32)) s).bind (fun x3 => (if x3.1 = ((0 : Int32)) then some ((0 : Int32), x3.2) else (cG_addAct ((519 : Int32)) ((-2 : Int32)) (gI s 217 0) x3.2).bind (fun x6 => (rc 0 (l1 + ((1 : Int32))) x6.2).bind (fun x9 => (if x9.1 = ((0 : Int32)) then some ((0 : Int32), x9.2) else (cG_addAct ((2 : Int32)) x6.1 (gI x9.2 217 0) x9.2).bind (fun x12 => (cG_aim x6.1 (gI x12.2 214 0) x12.2).bind (fun s14 => some ((1 : Int32), s14))))))))
set_option maxRecDepth 20000 in
theorem cD_readWhile_ok {e : Nat} (rc : Nat → Int32 → ts → Option (Int32 × ts)) (hrc : ∀ (w : Nat) (a : Int32) (s : ts) (Q : Int32 × ts → Prop), Ok (rc w a s) Q → am_Ev (e + 202) (clT_m w) (0, [(0, .ref 28), (1, .int a)], []) (lay s) (tq_i Q)) (l1 : Int32) (s : ts) (Q : Int32 × ts → Prop) (h : Ok (cD_readWhile rc l1 s) Q) : am_Ev (e + 202 + 1) 77 (0, [(0, .ref 28), (1, .int (l1))], []) (lay s) (tq_i Q) := by
  unfold cD_readWhile at h
  refine ev_aload_n (pc' := 1) m_77 rfl rfl rfl (tr_get (pc' := 4) (v := .ref 12) m_77 rfl rfl ts_o28 rfl rfl rfl (tr_get (pc' := 7) (v := .int (gI _ 217 _)) m_77 rfl rfl ts_o12 rfl rfl rfl (ev_istore_n (pc' := 8) m_77 rfl rfl rfl rfl (ev_aload_n (pc' := 9) m_77 rfl rfl rfl (tr_get (pc' := 12) (v := .ref 33) m_77 rfl rfl ts_o28 rfl rfl rfl (ev_iconst (pc' := 13) (x := 0) m_77 rfl rfl rfl ?_))))))
  refine tr_cz (pc' := 16) m_77 rfl rfl rfl m_60 rfl rfl rfl rfl rfl (tr_rcv ts_o33 rfl) rfl rfl (clF_ok 200 0 ((0 : Int32)) _ _ (Ok_b h)) (fun x3_ x3_s h1 h => ?_)
  refine ev_if_ne (t := 21) (e := 19) m_77 rfl rfl rfl (fun c17 => ?_) (fun c17 => ?_)
  · replace h := Ok_f c17 h
    refine ev_aload_n (pc' := 22) m_77 rfl rfl rfl (tr_get (pc' := 25) (v := .ref 12) m_77 rfl rfl ts_o28 rfl rfl rfl (ev_sipush (pc' := 28) (x := 519) m_77 rfl rfl rfl (ev_bipush (pc' := 30) (x := -2) m_77 rfl rfl rfl (ev_iload_n (pc' := 31) m_77 rfl rfl rfl ?_))))
    refine tr_ci (pc' := 34) m_77 rfl rfl rfl m_74 rfl rfl rfl rfl (tr_rcv ts_o12 rfl) rfl rfl (cG_addAct_ok ((519 : Int32)) ((-2 : Int32)) (gI s 217 0) _ _ (Ok_b h)) (fun x6_ x6_s h => ?_)
    refine ev_istore_n (pc' := 35) m_77 rfl rfl rfl rfl (ev_aload_n (pc' := 36) m_77 rfl rfl rfl (ev_iload_n (pc' := 37) m_77 rfl rfl rfl (ev_iconst (pc' := 38) (x := 1) m_77 rfl rfl rfl (ev_iadd (pc' := 39) m_77 rfl rfl ?_))))
    refine tr_cz (pc' := 42) m_77 rfl rfl rfl m_55 rfl rfl rfl rfl rfl (tr_rcv ts_o28 rfl) rfl rfl (hrc 0 (l1 + ((1 : Int32))) _ _ (Ok_b h)) (fun x9_ x9_s h7 h => ?_)
    refine ev_if_ne (t := 47) (e := 45) m_77 rfl rfl rfl (fun c16 => ?_) (fun c16 => ?_)
    · replace h := Ok_f c16 h
      refine ev_aload_n (pc' := 48) m_77 rfl rfl rfl (tr_get (pc' := 51) (v := .ref 12) m_77 rfl rfl ts_o28 rfl rfl rfl (ev_iconst (pc' := 52) (x := 2) m_77 rfl rfl rfl (ev_iload_n (pc' := 53) m_77 rfl rfl rfl (ev_aload_n (pc' := 54) m_77 rfl rfl rfl (tr_get (pc' := 57) (v := .ref 12) m_77 rfl rfl ts_o28 rfl rfl rfl (tr_get (pc' := 60) (v := .int (gI _ 217 _)) m_77 rfl rfl ts_o12 rfl rfl rfl ?_))))))
      refine tr_ci (pc' := 63) m_77 rfl rfl rfl m_74 rfl rfl rfl rfl (tr_rcv ts_o12 rfl) rfl rfl (cG_addAct_ok ((2 : Int32)) x6_ (gI x9_s 217 0) _ _ (Ok_b h)) (fun x12_ x12_s h => ?_)
      refine ev_pop (pc' := 64) m_77 rfl rfl rfl (ev_aload_n (pc' := 65) m_77 rfl rfl rfl (tr_get (pc' := 68) (v := .ref 12) m_77 rfl rfl ts_o28 rfl rfl rfl (ev_iload_n (pc' := 69) m_77 rfl rfl rfl (ev_aload_n (pc' := 70) m_77 rfl rfl rfl (tr_get (pc' := 73) (v := .ref 12) m_77 rfl rfl ts_o28 rfl rfl rfl (tr_get (pc' := 76) (v := .int (gI _ 214 _)) m_77 rfl rfl ts_o12 rfl rfl rfl ?_))))))
      refine tr_cv (pc' := 79) m_77 rfl rfl rfl m_76 rfl rfl rfl rfl (tr_rcv ts_o12 rfl) rfl rfl (cG_aim_ok x6_ (gI x12_s 214 0) _ _ (Ok_b h)) (fun s14 h => ?_)
      refine ev_iconst (pc' := 80) (x := 1) m_77 rfl rfl rfl ?_
      exact tr_rz m_77 rfl rfl (Or.inr rfl) (Ok_s h)
    · replace h := Ok_t c16 h
      refine ev_iconst (pc' := 46) (x := 0) m_77 rfl rfl rfl ?_
      exact tr_rz m_77 rfl rfl (Or.inl rfl) (Ok_s h)
  · replace h := Ok_t c17 h
    refine ev_iconst (pc' := 20) (x := 0) m_77 rfl rfl rfl ?_
    exact tr_rz m_77 rfl rfl (Or.inl rfl) (Ok_s h)
def cD_readLet (s : ts) : Option (Int32 × ts) := (cT_word s).bind (fun x3 => (cD_checkNewWord ((4 : Int32)) ((8 : Int32)) x3.2).bind (fun x6 => (if x6.1 = ((0 : Int32)) then some ((0 : Int32), x6.2) else (cT_advance x6.2).bind (fun s8 => (cT_need ((61 : Int32)) s8).bind (fun x12 => (if x12.1 = ((0 : Int32)) then some ((0 : Int32), x12.2) else (clF 200 0 ((0 : Int32)) x12.2).bind (fun x15 => (if x15.1 = ((0 : Int32)) then some ((0 : Int32), x15.2) else (cG_addWord x3.1 ((4 : Int32)) x15.2).bind (fun s17 => (cD_closeStatement ((1 : Int32)) (gA x15.2 16 ((4 : Int32)).toNatClampNeg) (gI s8 217 0) s17).bind (fun x21 => some (x21.1, x21.2)))))))))))
set_option maxRecDepth 20000 in
theorem cD_readLet_ok {d : Nat} (s : ts) (Q : Int32 × ts → Prop) (h : Ok (cD_readLet s) Q) : am_Ev (d + 202) 78 (0, [(0, .ref 28)], []) (lay s) (tq_i Q) := by
  unfold cD_readLet at h
  refine ev_aload_n (pc' := 1) m_78 rfl rfl rfl (tr_get (pc' := 4) (v := .ref 7) m_78 rfl rfl ts_o28 rfl rfl rfl ?_)
  refine tr_cj (pc' := 7) m_78 rfl rfl rfl m_39 rfl rfl rfl rfl (tr_rcv ts_o7 rfl) rfl rfl (cT_word_ok _ _ (Ok_b h)) (fun x3_ x3_s h => ?_)
  refine ev_lstore_n (pc' := 8) m_78 rfl rfl rfl rfl (ev_aload_n (pc' := 9) m_78 rfl rfl rfl (ev_iconst (pc' := 10) (x := 4) m_78 rfl rfl rfl (ev_bipush (pc' := 12) (x := 8) m_78 rfl rfl rfl ?_)))
  refine tr_cz (pc' := 15) m_78 rfl rfl rfl m_40 rfl rfl rfl rfl rfl (tr_rcv ts_o28 rfl) rfl rfl (cD_checkNewWord_ok ((4 : Int32)) ((8 : Int32)) _ _ (Ok_b h)) (fun x6_ x6_s h4 h => ?_)
  refine ev_if_ne (t := 20) (e := 18) m_78 rfl rfl rfl (fun c24 => ?_) (fun c24 => ?_)
  · replace h := Ok_f c24 h
    refine ev_aload_n (pc' := 21) m_78 rfl rfl rfl (tr_get (pc' := 24) (v := .ref 7) m_78 rfl rfl ts_o28 rfl rfl rfl ?_)
    refine tr_cv (pc' := 27) m_78 rfl rfl rfl m_37 rfl rfl rfl rfl (tr_rcv ts_o7 rfl) rfl rfl (cT_advance_ok _ _ (Ok_b h)) (fun s8 h => ?_)
    refine ev_aload_n (pc' := 28) m_78 rfl rfl rfl (tr_get (pc' := 31) (v := .ref 12) m_78 rfl rfl ts_o28 rfl rfl rfl (tr_get (pc' := 34) (v := .int (gI _ 217 _)) m_78 rfl rfl ts_o12 rfl rfl rfl (ev_istore_n (pc' := 35) m_78 rfl rfl rfl rfl (ev_aload_n (pc' := 36) m_78 rfl rfl rfl (tr_get (pc' := 39) (v := .ref 7) m_78 rfl rfl ts_o28 rfl rfl rfl (ev_bipush (pc' := 41) (x := 61) m_78 rfl rfl rfl ?_))))))
    refine tr_cz (pc' := 44) m_78 rfl rfl rfl m_49 rfl rfl rfl rfl rfl (tr_rcv ts_o7 rfl) rfl rfl (cT_need_ok ((61 : Int32)) _ _ (Ok_b h)) (fun x12_ x12_s h10 h => ?_)
    refine ev_if_eq (t := 58) (e := 47) m_78 rfl rfl rfl (fun c23 => ?_) (fun c23 => ?_)
    · replace h := Ok_t c23 h
      refine ev_iconst (pc' := 59) (x := 0) m_78 rfl rfl rfl ?_
      exact tr_rz m_78 rfl rfl (Or.inl rfl) (Ok_s h)
    · replace h := Ok_f c23 h
      refine ev_aload_n (pc' := 48) m_78 rfl rfl rfl (tr_get (pc' := 51) (v := .ref 33) m_78 rfl rfl ts_o28 rfl rfl rfl (ev_iconst (pc' := 52) (x := 0) m_78 rfl rfl rfl ?_))
      refine tr_cz (pc' := 55) m_78 rfl rfl rfl m_60 rfl rfl rfl rfl rfl (tr_rcv ts_o33 rfl) rfl rfl (clF_ok 200 0 ((0 : Int32)) _ _ (Ok_b h)) (fun x15_ x15_s h13 h => ?_)
      refine ev_if_ne (t := 60) (e := 58) m_78 rfl rfl rfl (fun c22 => ?_) (fun c22 => ?_)
      · replace h := Ok_f c22 h
        refine ev_aload_n (pc' := 61) m_78 rfl rfl rfl (tr_get (pc' := 64) (v := .ref 12) m_78 rfl rfl ts_o28 rfl rfl rfl (tr_get (pc' := 67) (v := .ref 16) m_78 rfl rfl ts_o12 rfl rfl rfl (ev_iconst (pc' := 68) (x := 4) m_78 rfl rfl rfl (tr_iald (pc' := 69) m_78 rfl rfl rfl rfl rfl (ev_istore (pc' := 71) m_78 rfl rfl rfl rfl (ev_aload_n (pc' := 72) m_78 rfl rfl rfl (tr_get (pc' := 75) (v := .ref 12) m_78 rfl rfl ts_o28 rfl rfl rfl ?_)))))))
        refine ev_lload_n (pc' := 76) m_78 rfl rfl rfl (ev_iconst (pc' := 77) (x := 4) m_78 rfl rfl rfl ?_)
        refine tr_cv (pc' := 80) m_78 rfl rfl rfl m_45 rfl rfl rfl rfl (tr_rcv ts_o12 rfl) rfl rfl (cG_addWord_ok x3_ ((4 : Int32)) _ _ (Ok_b h)) (fun s17 h => ?_)
        refine ev_aload_n (pc' := 81) m_78 rfl rfl rfl (ev_iconst (pc' := 82) (x := 1) m_78 rfl rfl rfl (ev_iload (pc' := 84) m_78 rfl rfl rfl (ev_iload_n (pc' := 85) m_78 rfl rfl rfl ?_)))
        refine tr_cz (pc' := 88) m_78 rfl rfl rfl m_73 rfl rfl rfl rfl rfl (tr_rcv ts_o28 rfl) rfl rfl (cD_closeStatement_ok ((1 : Int32)) (gA x15_s 16 ((4 : Int32)).toNatClampNeg) (gI s8 217 0) _ _ (Ok_b h)) (fun x21_ x21_s h19 h => ?_)
        exact tr_rz m_78 rfl rfl h19 (Ok_s h)
      · replace h := Ok_t c22 h
        refine ev_iconst (pc' := 59) (x := 0) m_78 rfl rfl rfl ?_
        exact tr_rz m_78 rfl rfl (Or.inl rfl) (Ok_s h)
  · replace h := Ok_t c24 h
    refine ev_iconst (pc' := 19) (x := 0) m_78 rfl rfl rfl ?_
    exact tr_rz m_78 rfl rfl (Or.inl rfl) (Ok_s h)
def cT_currentPlace (s : ts) : Option (Int32 × ts) := (if am_idx (gI s 106 0) 4001 = true then some (gA s 10 (gI s 106 0).toNatClampNeg, s) else none)
set_option maxRecDepth 20000 in
theorem cT_currentPlace_ok {d : Nat} (s : ts) (Q : Int32 × ts → Prop) (h : Ok (cT_currentPlace s) Q) : am_Ev (d + 0) 80 (0, [(0, .ref 7)], []) (lay s) (tq_i Q) := by
  unfold cT_currentPlace at h
  refine ev_aload_n (pc' := 1) m_80 rfl rfl rfl (tr_get (pc' := 4) (v := .ref 10) m_80 rfl rfl ts_o7 rfl rfl rfl (ev_aload_n (pc' := 5) m_80 rfl rfl rfl (tr_get (pc' := 8) (v := .int (gI _ 106 _)) m_80 rfl rfl ts_o7 rfl rfl rfl ?_)))
  obtain ⟨g1, h⟩ := Ok_g h
  refine tr_iald (pc' := 9) m_80 rfl rfl rfl g1 rfl ?_
  exact tr_ri m_80 rfl rfl (Ok_s h)
def cG_find_3_b (kk : Int64 → Int32 → Int32 → ts → Option (Int32 × ts)) (l1 : Int64) (l3 : Int32) (l4 : Int32) (s : ts) : Option (Int32 × ts) := (if (gI s 203 0) ≤ l4 then some ((-2 : Int32), s) else (if am_idx l4 50 = true then (if (lg_cmp (gB s 13 l4.toNatClampNeg) l1) = ((0 : Int32)) then (if (gA s 14 l4.toNatClampNeg) = l3 then some (gA s 15 l4.toNatClampNeg, s) else kk l1 l3 (l4 + (1 : Int32)) s) else kk l1 l3 (l4 + (1 : Int32)) s) else none))
def cG_find_3 : Nat → Int64 → Int32 → Int32 → ts → Option (Int32 × ts)
  | 0, _, _, _, _ => none
  | n + 1, l1, l3, l4, s => cG_find_3_b (cG_find_3 n) l1 l3 l4 s
set_option maxRecDepth 20000 in
theorem cG_find_3_ok {d : Nat} : ∀ (n : Nat) (l1 : Int64) (l3 : Int32) (l4 : Int32) (s : ts) (Q : Int32 × ts → Prop), Ok (cG_find_3 n l1 l3 l4 s) Q → am_Ev (d + 0) 81 (3, [(0, .ref 12), (1, .long (l1)), (3, .int (l3)), (4, .int (l4))], []) (lay s) (tq_i Q) := by
  intro n
  induction n with
  | zero => intro l1 l3 l4 s Q h; exact Ok_n h
  | succ n ih =>
    intro l1 l3 l4 s Q h
    rw [cG_find_3.eq_2] at h
    unfold cG_find_3_b at h
    refine ev_iload (pc' := 5) m_81 rfl rfl rfl (ev_aload_n (pc' := 6) m_81 rfl rfl rfl (tr_get (pc' := 9) (v := .int (gI _ 203 _)) m_81 rfl rfl ts_o12 rfl rfl rfl ?_))
    refine ev_icmp_ge (t := 49) (e := 12) m_81 rfl rfl rfl (fun c4 => ?_) (fun c4 => ?_)
    · replace h := Ok_t c4 h
      refine ev_bipush (pc' := 51) (x := -2) m_81 rfl rfl rfl ?_
      exact tr_ri m_81 rfl rfl (Ok_s h)
    · replace h := Ok_f c4 h
      refine ev_aload_n (pc' := 13) m_81 rfl rfl rfl (tr_get (pc' := 16) (v := .ref 13) m_81 rfl rfl ts_o12 rfl rfl rfl (ev_iload (pc' := 18) m_81 rfl rfl rfl ?_))
      obtain ⟨g1, h⟩ := Ok_g h
      refine tr_lald (pc' := 19) m_81 rfl rfl rfl g1 rfl (ev_lload_n (pc' := 20) m_81 rfl rfl rfl (ev_lcmp (pc' := 21) m_81 rfl rfl ?_))
      refine ev_if_ne (t := 43) (e := 24) m_81 rfl rfl rfl (fun c3 => ?_) (fun c3 => ?_)
      · replace h := Ok_f c3 h
        refine ev_iinc (pc' := 46) (z := 1) m_81 rfl rfl rfl rfl rfl rfl (ev_goto (pc' := 3) m_81 rfl rfl ?_)
        exact am_Ev.sub (L := [(0, .ref 12), (1, .long (l1)), (3, .int (l3)), (4, .int (l4 + (1 : Int32)))]) ⟨rfl, rfl, rfl, rfl, trivial⟩ (ih l1 l3 (l4 + (1 : Int32)) _ _ h)
      · replace h := Ok_t c3 h
        refine ev_aload_n (pc' := 25) m_81 rfl rfl rfl (tr_get (pc' := 28) (v := .ref 14) m_81 rfl rfl ts_o12 rfl rfl rfl (ev_iload (pc' := 30) m_81 rfl rfl rfl (tr_iald (pc' := 31) m_81 rfl rfl rfl g1 rfl (ev_iload_n (pc' := 32) m_81 rfl rfl rfl ?_))))
        refine ev_icmp_ne (t := 43) (e := 35) m_81 rfl rfl rfl (fun c2 => ?_) (fun c2 => ?_)
        · replace h := Ok_f c2 h
          refine ev_iinc (pc' := 46) (z := 1) m_81 rfl rfl rfl rfl rfl rfl (ev_goto (pc' := 3) m_81 rfl rfl ?_)
          exact am_Ev.sub (L := [(0, .ref 12), (1, .long (l1)), (3, .int (l3)), (4, .int (l4 + (1 : Int32)))]) ⟨rfl, rfl, rfl, rfl, trivial⟩ (ih l1 l3 (l4 + (1 : Int32)) _ _ h)
        · replace h := Ok_t c2 h
          refine ev_aload_n (pc' := 36) m_81 rfl rfl rfl (tr_get (pc' := 39) (v := .ref 15) m_81 rfl rfl ts_o12 rfl rfl rfl (ev_iload (pc' := 41) m_81 rfl rfl rfl (tr_iald (pc' := 42) m_81 rfl rfl rfl g1 rfl ?_)))
          exact tr_ri m_81 rfl rfl (Ok_s h)
def cG_find (l1 : Int64) (l3 : Int32) (s : ts) : Option (Int32 × ts) := cG_find_3 tm_N l1 l3 ((0 : Int32)) s
set_option maxRecDepth 20000 in
theorem cG_find_ok {d : Nat} (l1 : Int64) (l3 : Int32) (s : ts) (Q : Int32 × ts → Prop) (h : Ok (cG_find l1 l3 s) Q) : am_Ev (d + 0) 81 (0, [(0, .ref 12), (1, .long (l1)), (3, .int (l3))], []) (lay s) (tq_i Q) := by
  unfold cG_find at h
  refine ev_iconst (pc' := 1) (x := 0) m_81 rfl rfl rfl (ev_istore (pc' := 3) m_81 rfl rfl rfl rfl ?_)
  exact am_Ev.sub (L := [(0, .ref 12), (1, .long (l1)), (3, .int (l3)), (4, .int ((0 : Int32)))]) ⟨rfl, rfl, rfl, rfl, trivial⟩ (cG_find_3_ok tm_N l1 l3 ((0 : Int32)) _ _ h)
def cD_keepOpen (l1 : Int64) (l3 : Int32) (l4 : Int32) (s : ts) : Option (ts) := (if ((250 : Int32)) ≤ (gI s 408 0) then some s else (if am_idx (gI s 408 0) 250 = true then (if am_idx (gI (wB s 29 (gI s 408 0).toNatClampNeg l1) 408 0) 250 = true then (if am_idx (gI (wA (wB s 29 (gI s 408 0).toNatClampNeg l1) 30 (gI (wB s 29 (gI s 408 0).toNatClampNeg l1) 408 0).toNatClampNeg l3) 408 0) 250 = true then (if am_idx (gI (wA (wA (wB s 29 (gI s 408 0).toNatClampNeg l1) 30 (gI (wB s 29 (gI s 408 0).toNatClampNeg l1) 408 0).toNatClampNeg l3) 31 (gI (wA (wB s 29 (gI s 408 0).toNatClampNeg l1) 30 (gI (wB s 29 (gI s 408 0).toNatClampNeg l1) 408 0).toNatClampNeg l3) 408 0).toNatClampNeg l4) 408 0) 250 = true then some (wI (wA (wA (wA (wB s 29 (gI s 408 0).toNatClampNeg l1) 30 (gI (wB s 29 (gI s 408 0).toNatClampNeg l1) 408 0).toNatClampNeg l3) 31 (gI (wA (wB s 29 (gI s 408 0).toNatClampNeg l1) 30 (gI (wB s 29 (gI s 408 0).toNatClampNeg l1) 408 0).toNatClampNeg l3) 408 0).toNatClampNeg l4) 32 (gI (wA (wA (wB s 29 (gI s 408 0).toNatClampNeg l1) 30 (gI (wB s 29 (gI s 408 0).toNatClampNeg l1) 408 0).toNatClampNeg l3) 31 (gI (wA (wB s 29 (gI s 408 0).toNatClampNeg l1) 30 (gI (wB s 29 (gI s 408 0).toNatClampNeg l1) 408 0).toNatClampNeg l3) 408 0).toNatClampNeg l4) 408 0).toNatClampNeg (gI (wA (wA (wB s 29 (gI s 408 0).toNatClampNeg l1) 30 (gI (wB s 29 (gI s 408 0).toNatClampNeg l1) 408 0).toNatClampNeg l3) 31 (gI (wA (wB s 29 (gI s 408 0).toNatClampNeg l1) 30 (gI (wB s 29 (gI s 408 0).toNatClampNeg l1) 408 0).toNatClampNeg l3) 408 0).toNatClampNeg l4) 214 0)) 408 0 ((gI (wA (wA (wA (wB s 29 (gI s 408 0).toNatClampNeg l1) 30 (gI (wB s 29 (gI s 408 0).toNatClampNeg l1) 408 0).toNatClampNeg l3) 31 (gI (wA (wB s 29 (gI s 408 0).toNatClampNeg l1) 30 (gI (wB s 29 (gI s 408 0).toNatClampNeg l1) 408 0).toNatClampNeg l3) 408 0).toNatClampNeg l4) 32 (gI (wA (wA (wB s 29 (gI s 408 0).toNatClampNeg l1) 30 (gI (wB s 29 (gI s 408 0).toNatClampNeg l1) 408 0).toNatClampNeg l3) 31 (gI (wA (wB s 29 (gI s 408 0).toNatClampNeg l1) 30 (gI (wB s 29 (gI s 408 0).toNatClampNeg l1) 408 0).toNatClampNeg l3) 408 0).toNatClampNeg l4) 408 0).toNatClampNeg (gI (wA (wA (wB s 29 (gI s 408 0).toNatClampNeg l1) 30 (gI (wB s 29 (gI s 408 0).toNatClampNeg l1) 408 0).toNatClampNeg l3) 31 (gI (wA (wB s 29 (gI s 408 0).toNatClampNeg l1) 30 (gI (wB s 29 (gI s 408 0).toNatClampNeg l1) 408 0).toNatClampNeg l3) 408 0).toNatClampNeg l4) 214 0)) 408 0) + ((1 : Int32)))) else none) else none) else none) else none))
set_option maxRecDepth 20000 in
theorem cD_keepOpen_ok {d : Nat} (l1 : Int64) (l3 : Int32) (l4 : Int32) (s : ts) (Q : ts → Prop) (h : Ok (cD_keepOpen l1 l3 l4 s) Q) : am_Ev (d + 0) 82 (0, [(0, .ref 28), (1, .long (l1)), (3, .int (l3)), (4, .int (l4))], []) (lay s) (tq_v Q) := by
  unfold cD_keepOpen at h
  refine ev_aload_n (pc' := 1) m_82 rfl rfl rfl (tr_get (pc' := 4) (v := .int (gI _ 408 _)) m_82 rfl rfl ts_o28 rfl rfl rfl (ev_sipush (pc' := 7) (x := 250) m_82 rfl rfl rfl ?_))
  refine ev_icmp_ge (t := 67) (e := 10) m_82 rfl rfl rfl (fun c5 => ?_) (fun c5 => ?_)
  · replace h := Ok_t c5 h
    exact tr_rv m_82 rfl rfl (Ok_s h)
  · replace h := Ok_f c5 h
    refine ev_aload_n (pc' := 11) m_82 rfl rfl rfl (tr_get (pc' := 14) (v := .ref 29) m_82 rfl rfl ts_o28 rfl rfl rfl (ev_aload_n (pc' := 15) m_82 rfl rfl rfl (tr_get (pc' := 18) (v := .int (gI _ 408 _)) m_82 rfl rfl ts_o28 rfl rfl rfl (ev_lload_n (pc' := 19) m_82 rfl rfl rfl ?_))))
    obtain ⟨g1, h⟩ := Ok_g h
    refine tr_last (pc' := 20) m_82 rfl rfl rfl g1 rfl (ev_aload_n (pc' := 21) m_82 rfl rfl rfl (tr_get (pc' := 24) (v := .ref 30) m_82 rfl rfl ts_o28 rfl rfl rfl (ev_aload_n (pc' := 25) m_82 rfl rfl rfl (tr_get (pc' := 28) (v := .int (gI _ 408 _)) m_82 rfl rfl ts_o28 rfl rfl rfl (ev_iload_n (pc' := 29) m_82 rfl rfl rfl ?_)))))
    obtain ⟨g2, h⟩ := Ok_g h
    refine tr_iast (pc' := 30) m_82 rfl rfl rfl g2 rfl (ev_aload_n (pc' := 31) m_82 rfl rfl rfl (tr_get (pc' := 34) (v := .ref 31) m_82 rfl rfl ts_o28 rfl rfl rfl (ev_aload_n (pc' := 35) m_82 rfl rfl rfl (tr_get (pc' := 38) (v := .int (gI _ 408 _)) m_82 rfl rfl ts_o28 rfl rfl rfl (ev_iload (pc' := 40) m_82 rfl rfl rfl ?_)))))
    obtain ⟨g3, h⟩ := Ok_g h
    refine tr_iast (pc' := 41) m_82 rfl rfl rfl g3 rfl (ev_aload_n (pc' := 42) m_82 rfl rfl rfl (tr_get (pc' := 45) (v := .ref 32) m_82 rfl rfl ts_o28 rfl rfl rfl (ev_aload_n (pc' := 46) m_82 rfl rfl rfl (tr_get (pc' := 49) (v := .int (gI _ 408 _)) m_82 rfl rfl ts_o28 rfl rfl rfl (ev_aload_n (pc' := 50) m_82 rfl rfl rfl (tr_get (pc' := 53) (v := .ref 12) m_82 rfl rfl ts_o28 rfl rfl rfl (tr_get (pc' := 56) (v := .int (gI _ 214 _)) m_82 rfl rfl ts_o12 rfl rfl rfl ?_)))))))
    obtain ⟨g4, h⟩ := Ok_g h
    refine tr_iast (pc' := 57) m_82 rfl rfl rfl g4 rfl (ev_aload_n (pc' := 58) m_82 rfl rfl rfl (ev_dup (pc' := 59) m_82 rfl rfl rfl (tr_get (pc' := 62) (v := .int (gI _ 408 _)) m_82 rfl rfl ts_o28 rfl rfl rfl (ev_iconst (pc' := 63) (x := 1) m_82 rfl rfl rfl (ev_iadd (pc' := 64) m_82 rfl rfl (tr_pI (pc' := 67) (f := 408) m_82 rfl rfl rfl ts_o28 rfl rfl rfl rfl ?_))))))
    exact tr_rv m_82 rfl rfl (Ok_s h)
def cD_readStart_238 (l4 : Int32) (l6 : Int32) (s : ts) : Option (Int32 × ts) := (cD_closeStatement ((526 : Int32)) l6 l4 s).bind (fun x3 => some (x3.1, x3.2))
set_option maxRecDepth 20000 in
theorem cD_readStart_238_ok {d : Nat} (l4 : Int32) (l6 : Int32) (s : ts) (Q : Int32 × ts → Prop) (h : Ok (cD_readStart_238 l4 l6 s) Q) : am_Ev (d + 202) 79 (238, [(0, .ref 28), (4, .int (l4)), (6, .int (l6))], []) (lay s) (tq_i Q) := by
  unfold cD_readStart_238 at h
  refine ev_aload_n (pc' := 239) m_79 rfl rfl rfl (ev_sipush (pc' := 242) (x := 526) m_79 rfl rfl rfl (ev_iload (pc' := 244) m_79 rfl rfl rfl (ev_iload (pc' := 246) m_79 rfl rfl rfl ?_)))
  refine tr_cz (pc' := 249) m_79 rfl rfl rfl m_73 rfl rfl rfl rfl rfl (tr_rcv ts_o28 rfl) rfl rfl (cD_closeStatement_ok ((526 : Int32)) l6 l4 _ _ (Ok_b h)) (fun x3_ x3_s h1 h => ?_)
  exact tr_rz m_79 rfl rfl h1 (Ok_s h)
def cD_readStart_223 (l1 : Int64) (l3 : Int32) (l4 : Int32) (l5 : Int32) (l6 : Int32) (s : ts) : Option (Int32 × ts) := (if l6 = ((-2 : Int32)) then (cD_keepOpen l1 l3 l5 s).bind (fun s2 => cD_readStart_238 l4 l6 s2) else cD_readStart_238 l4 l6 s)
set_option maxRecDepth 20000 in
theorem cD_readStart_223_ok {d : Nat} (l1 : Int64) (l3 : Int32) (l4 : Int32) (l5 : Int32) (l6 : Int32) (s : ts) (Q : Int32 × ts → Prop) (h : Ok (cD_readStart_223 l1 l3 l4 l5 l6 s) Q) : am_Ev (d + 202) 79 (223, [(0, .ref 28), (1, .long (l1)), (3, .int (l3)), (4, .int (l4)), (5, .int (l5)), (6, .int (l6))], []) (lay s) (tq_i Q) := by
  unfold cD_readStart_223 at h
  refine ev_iload (pc' := 225) m_79 rfl rfl rfl (ev_bipush (pc' := 227) (x := -2) m_79 rfl rfl rfl ?_)
  refine ev_icmp_ne (t := 238) (e := 230) m_79 rfl rfl rfl (fun c4 => ?_) (fun c4 => ?_)
  · replace h := Ok_f c4 h
    exact am_Ev.sub (L := [(0, .ref 28), (4, .int (l4)), (6, .int (l6))]) ⟨rfl, rfl, rfl, trivial⟩ (cD_readStart_238_ok l4 l6 _ _ h)
  · replace h := Ok_t c4 h
    refine ev_aload_n (pc' := 231) m_79 rfl rfl rfl (ev_lload_n (pc' := 232) m_79 rfl rfl rfl (ev_iload_n (pc' := 233) m_79 rfl rfl rfl (ev_iload (pc' := 235) m_79 rfl rfl rfl ?_)))
    refine tr_cv (pc' := 238) m_79 rfl rfl rfl m_82 rfl rfl rfl rfl (tr_rcv ts_o28 rfl) rfl rfl (cD_keepOpen_ok l1 l3 l5 _ _ (Ok_b h)) (fun s2 h => ?_)
    exact am_Ev.sub (L := [(0, .ref 28), (4, .int (l4)), (6, .int (l6))]) ⟨rfl, rfl, rfl, trivial⟩ (cD_readStart_238_ok l4 l6 _ _ h)
def cD_readStart_178 (l1 : Int64) (l3 : Int32) (l4 : Int32) (l5 : Int32) (l6 : Int32) (s : ts) : Option (Int32 × ts) := (cT_advance s).bind (fun s2 => (if (gI s2 107 0) = ((59 : Int32)) then (cG_addOp ((1 : Int32)) ((0 : Int32)) s2).bind (fun x10 => cD_readStart_223 l1 l3 l4 l5 l6 x10.2) else (clF 200 0 ((0 : Int32)) s2).bind (fun x6 => (if x6.1 = ((0 : Int32)) then some ((0 : Int32), x6.2) else cD_readStart_223 l1 l3 l4 l5 l6 x6.2))))
set_option maxRecDepth 20000 in
theorem cD_readStart_178_ok {d : Nat} (l1 : Int64) (l3 : Int32) (l4 : Int32) (l5 : Int32) (l6 : Int32) (s : ts) (Q : Int32 × ts → Prop) (h : Ok (cD_readStart_178 l1 l3 l4 l5 l6 s) Q) : am_Ev (d + 202) 79 (178, [(0, .ref 28), (1, .long (l1)), (3, .int (l3)), (4, .int (l4)), (5, .int (l5)), (6, .int (l6))], []) (lay s) (tq_i Q) := by
  unfold cD_readStart_178 at h
  refine ev_aload_n (pc' := 179) m_79 rfl rfl rfl (tr_get (pc' := 182) (v := .ref 7) m_79 rfl rfl ts_o28 rfl rfl rfl ?_)
  refine tr_cv (pc' := 185) m_79 rfl rfl rfl m_37 rfl rfl rfl rfl (tr_rcv ts_o7 rfl) rfl rfl (cT_advance_ok _ _ (Ok_b h)) (fun s2 h => ?_)
  refine ev_aload_n (pc' := 186) m_79 rfl rfl rfl (tr_get (pc' := 189) (v := .ref 7) m_79 rfl rfl ts_o28 rfl rfl rfl (tr_get (pc' := 192) (v := .int (gI _ 107 _)) m_79 rfl rfl ts_o7 rfl rfl rfl (ev_bipush (pc' := 194) (x := 59) m_79 rfl rfl rfl ?_)))
  refine ev_icmp_ne (t := 210) (e := 197) m_79 rfl rfl rfl (fun c11 => ?_) (fun c11 => ?_)
  · replace h := Ok_f c11 h
    refine ev_aload_n (pc' := 211) m_79 rfl rfl rfl (tr_get (pc' := 214) (v := .ref 33) m_79 rfl rfl ts_o28 rfl rfl rfl (ev_iconst (pc' := 215) (x := 0) m_79 rfl rfl rfl ?_))
    refine tr_cz (pc' := 218) m_79 rfl rfl rfl m_60 rfl rfl rfl rfl rfl (tr_rcv ts_o33 rfl) rfl rfl (clF_ok 200 0 ((0 : Int32)) _ _ (Ok_b h)) (fun x6_ x6_s h4 h => ?_)
    refine ev_if_ne (t := 223) (e := 221) m_79 rfl rfl rfl (fun c7 => ?_) (fun c7 => ?_)
    · replace h := Ok_f c7 h
      exact am_Ev.sub (L := [(0, .ref 28), (1, .long (l1)), (3, .int (l3)), (4, .int (l4)), (5, .int (l5)), (6, .int (l6))]) ⟨rfl, rfl, rfl, rfl, rfl, rfl, trivial⟩ (cD_readStart_223_ok l1 l3 l4 l5 l6 _ _ h)
    · replace h := Ok_t c7 h
      refine ev_iconst (pc' := 222) (x := 0) m_79 rfl rfl rfl ?_
      exact tr_rz m_79 rfl rfl (Or.inl rfl) (Ok_s h)
  · replace h := Ok_t c11 h
    refine ev_aload_n (pc' := 198) m_79 rfl rfl rfl (tr_get (pc' := 201) (v := .ref 12) m_79 rfl rfl ts_o28 rfl rfl rfl (ev_iconst (pc' := 202) (x := 1) m_79 rfl rfl rfl (ev_iconst (pc' := 203) (x := 0) m_79 rfl rfl rfl ?_)))
    refine tr_ci (pc' := 206) m_79 rfl rfl rfl m_65 rfl rfl rfl rfl (tr_rcv ts_o12 rfl) rfl rfl (cG_addOp_ok ((1 : Int32)) ((0 : Int32)) _ _ (Ok_b h)) (fun x10_ x10_s h => ?_)
    refine ev_pop (pc' := 207) m_79 rfl rfl rfl (ev_goto (pc' := 223) m_79 rfl rfl ?_)
    exact am_Ev.sub (L := [(0, .ref 28), (1, .long (l1)), (3, .int (l3)), (4, .int (l4)), (5, .int (l5)), (6, .int (l6))]) ⟨rfl, rfl, rfl, rfl, rfl, rfl, trivial⟩ (cD_readStart_223_ok l1 l3 l4 l5 l6 _ _ h)
def cD_readStart_130 (l1 : Int64) (l3 : Int32) (l4 : Int32) (l5 : Int32) (s : ts) : Option (Int32 × ts) := (cG_find l1 ((3 : Int32)) s).bind (fun x3 => (cG_isDefinition x3.1 x3.2).bind (fun x6 => (if x6.1 = ((0 : Int32)) then cD_readStart_178 l1 l3 l4 l5 x3.1 x6.2 else (if am_idx x3.1 12 = true then (if (gA x6.2 19 x3.1.toNatClampNeg) = l5 then cD_readStart_178 l1 l3 l4 l5 x3.1 x6.2 else (cT_fail ((6 : Int32)) x6.2).bind (fun x10 => some (x10.1, x10.2))) else none))))
set_option maxRecDepth 20000 in
theorem cD_readStart_130_ok {d : Nat} (l1 : Int64) (l3 : Int32) (l4 : Int32) (l5 : Int32) (s : ts) (Q : Int32 × ts → Prop) (h : Ok (cD_readStart_130 l1 l3 l4 l5 s) Q) : am_Ev (d + 202) 79 (130, [(0, .ref 28), (1, .long (l1)), (3, .int (l3)), (4, .int (l4)), (5, .int (l5))], []) (lay s) (tq_i Q) := by
  unfold cD_readStart_130 at h
  refine ev_aload_n (pc' := 131) m_79 rfl rfl rfl (tr_get (pc' := 134) (v := .ref 12) m_79 rfl rfl ts_o28 rfl rfl rfl (ev_lload_n (pc' := 135) m_79 rfl rfl rfl (ev_iconst (pc' := 136) (x := 3) m_79 rfl rfl rfl ?_)))
  refine tr_ci (pc' := 139) m_79 rfl rfl rfl m_81 rfl rfl rfl rfl (tr_rcv ts_o12 rfl) rfl rfl (cG_find_ok l1 ((3 : Int32)) _ _ (Ok_b h)) (fun x3_ x3_s h => ?_)
  refine ev_istore (pc' := 141) m_79 rfl rfl rfl rfl (ev_aload_n (pc' := 142) m_79 rfl rfl rfl (tr_get (pc' := 145) (v := .ref 12) m_79 rfl rfl ts_o28 rfl rfl rfl (ev_iload (pc' := 147) m_79 rfl rfl rfl ?_)))
  refine tr_cz (pc' := 150) m_79 rfl rfl rfl m_54 rfl rfl rfl rfl rfl (tr_rcv ts_o12 rfl) rfl rfl (cG_isDefinition_ok x3_ _ _ (Ok_b h)) (fun x6_ x6_s h4 h => ?_)
  refine ev_if_eq (t := 178) (e := 153) m_79 rfl rfl rfl (fun c12 => ?_) (fun c12 => ?_)
  · replace h := Ok_t c12 h
    exact am_Ev.sub (L := [(0, .ref 28), (1, .long (l1)), (3, .int (l3)), (4, .int (l4)), (5, .int (l5)), (6, .int (x3_))]) ⟨rfl, rfl, rfl, rfl, rfl, rfl, trivial⟩ (cD_readStart_178_ok l1 l3 l4 l5 x3_ _ _ h)
  · replace h := Ok_f c12 h
    refine ev_aload_n (pc' := 154) m_79 rfl rfl rfl (tr_get (pc' := 157) (v := .ref 12) m_79 rfl rfl ts_o28 rfl rfl rfl (tr_get (pc' := 160) (v := .ref 19) m_79 rfl rfl ts_o12 rfl rfl rfl (ev_iload (pc' := 162) m_79 rfl rfl rfl ?_)))
    obtain ⟨g7, h⟩ := Ok_g h
    refine tr_iald (pc' := 163) m_79 rfl rfl rfl g7 rfl (ev_iload (pc' := 165) m_79 rfl rfl rfl ?_)
    refine ev_icmp_eq (t := 178) (e := 168) m_79 rfl rfl rfl (fun c11 => ?_) (fun c11 => ?_)
    · replace h := Ok_t c11 h
      exact am_Ev.sub (L := [(0, .ref 28), (1, .long (l1)), (3, .int (l3)), (4, .int (l4)), (5, .int (l5)), (6, .int (x3_))]) ⟨rfl, rfl, rfl, rfl, rfl, rfl, trivial⟩ (cD_readStart_178_ok l1 l3 l4 l5 x3_ _ _ h)
    · replace h := Ok_f c11 h
      refine ev_aload_n (pc' := 169) m_79 rfl rfl rfl (tr_get (pc' := 172) (v := .ref 7) m_79 rfl rfl ts_o28 rfl rfl rfl (ev_bipush (pc' := 174) (x := 6) m_79 rfl rfl rfl ?_))
      refine tr_cz (pc' := 177) m_79 rfl rfl rfl m_42 rfl rfl rfl rfl rfl (tr_rcv ts_o7 rfl) rfl rfl (cT_fail_ok ((6 : Int32)) _ _ (Ok_b h)) (fun x10_ x10_s h8 h => ?_)
      exact tr_rz m_79 rfl rfl h8 (Ok_s h)
def cD_readStart_108 (k71 : Int64 → Int32 → Int32 → Int32 → Int32 → ts → Option (Int32 × ts)) (l1 : Int64) (l3 : Int32) (l4 : Int32) (l5 : Int32) (l6 : Int32) (s : ts) : Option (Int32 × ts) := (clF 200 0 ((0 : Int32)) s).bind (fun x3 => (if x3.1 = ((0 : Int32)) then some ((0 : Int32), x3.2) else k71 l1 l3 l4 (l5 + (1 : Int32)) (l6 + (1 : Int32)) x3.2))
set_option maxRecDepth 20000 in
theorem cD_readStart_108_ok {d : Nat} (k71 : Int64 → Int32 → Int32 → Int32 → Int32 → ts → Option (Int32 × ts)) (hk71 : ∀ (l1 : Int64) (l3 : Int32) (l4 : Int32) (l5 : Int32) (l6 : Int32) (s : ts) (Q : Int32 × ts → Prop), Ok (k71 l1 l3 l4 l5 l6 s) Q → am_Ev (d + 202) 79 (71, [(0, .ref 28), (1, .long (l1)), (3, .int (l3)), (4, .int (l4)), (5, .int (l5)), (6, .int (l6))], []) (lay s) (tq_i Q)) (l1 : Int64) (l3 : Int32) (l4 : Int32) (l5 : Int32) (l6 : Int32) (s : ts) (Q : Int32 × ts → Prop) (h : Ok (cD_readStart_108 k71 l1 l3 l4 l5 l6 s) Q) : am_Ev (d + 202) 79 (108, [(0, .ref 28), (1, .long (l1)), (3, .int (l3)), (4, .int (l4)), (5, .int (l5)), (6, .int (l6))], []) (lay s) (tq_i Q) := by
  unfold cD_readStart_108 at h
  refine ev_aload_n (pc' := 109) m_79 rfl rfl rfl (tr_get (pc' := 112) (v := .ref 33) m_79 rfl rfl ts_o28 rfl rfl rfl (ev_iconst (pc' := 113) (x := 0) m_79 rfl rfl rfl ?_))
  refine tr_cz (pc' := 116) m_79 rfl rfl rfl m_60 rfl rfl rfl rfl rfl (tr_rcv ts_o33 rfl) rfl rfl (clF_ok 200 0 ((0 : Int32)) _ _ (Ok_b h)) (fun x3_ x3_s h1 h => ?_)
  refine ev_if_ne (t := 121) (e := 119) m_79 rfl rfl rfl (fun c4 => ?_) (fun c4 => ?_)
  · replace h := Ok_f c4 h
    refine ev_iinc (pc' := 124) (z := 1) m_79 rfl rfl rfl rfl rfl rfl (ev_iinc (pc' := 127) (z := 1) m_79 rfl rfl rfl rfl rfl rfl (ev_goto (pc' := 71) m_79 rfl rfl ?_))
    exact am_Ev.sub (L := [(0, .ref 28), (1, .long (l1)), (3, .int (l3)), (4, .int (l4)), (5, .int (l5 + (1 : Int32))), (6, .int (l6 + (1 : Int32)))]) ⟨rfl, rfl, rfl, rfl, rfl, rfl, trivial⟩ (hk71 l1 l3 l4 (l5 + (1 : Int32)) (l6 + (1 : Int32)) _ _ h)
  · replace h := Ok_t c4 h
    refine ev_iconst (pc' := 120) (x := 0) m_79 rfl rfl rfl ?_
    exact tr_rz m_79 rfl rfl (Or.inl rfl) (Ok_s h)
def cD_readStart_71_b (kk : Int64 → Int32 → Int32 → Int32 → Int32 → ts → Option (Int32 × ts)) (l1 : Int64) (l3 : Int32) (l4 : Int32) (l5 : Int32) (l6 : Int32) (s : ts) : Option (Int32 × ts) := (if ((4001 : Int32)) ≤ l6 then cD_readStart_130 l1 l3 l4 l5 s else (if (gI s 107 0) = ((41 : Int32)) then cD_readStart_130 l1 l3 l4 l5 s else (if l5 ≤ ((0 : Int32)) then cD_readStart_108 kk l1 l3 l4 l5 l6 s else (cT_need ((44 : Int32)) s).bind (fun x3 => (if x3.1 = ((0 : Int32)) then some ((0 : Int32), x3.2) else cD_readStart_108 kk l1 l3 l4 l5 l6 x3.2)))))
def cD_readStart_71 : Nat → Int64 → Int32 → Int32 → Int32 → Int32 → ts → Option (Int32 × ts)
  | 0, _, _, _, _, _, _ => none
  | n + 1, l1, l3, l4, l5, l6, s => cD_readStart_71_b (cD_readStart_71 n) l1 l3 l4 l5 l6 s
set_option maxRecDepth 20000 in
theorem cD_readStart_71_ok {d : Nat} : ∀ (n : Nat) (l1 : Int64) (l3 : Int32) (l4 : Int32) (l5 : Int32) (l6 : Int32) (s : ts) (Q : Int32 × ts → Prop), Ok (cD_readStart_71 n l1 l3 l4 l5 l6 s) Q → am_Ev (d + 202) 79 (71, [(0, .ref 28), (1, .long (l1)), (3, .int (l3)), (4, .int (l4)), (5, .int (l5)), (6, .int (l6))], []) (lay s) (tq_i Q) := by
  intro n
  induction n with
  | zero => intro l1 l3 l4 l5 l6 s Q h; exact Ok_n h
  | succ n ih =>
    intro l1 l3 l4 l5 l6 s Q h
    rw [cD_readStart_71.eq_2] at h
    unfold cD_readStart_71_b at h
    refine ev_iload (pc' := 73) m_79 rfl rfl rfl (ev_sipush (pc' := 76) (x := 4001) m_79 rfl rfl rfl ?_)
    refine ev_icmp_ge (t := 130) (e := 79) m_79 rfl rfl rfl (fun c7 => ?_) (fun c7 => ?_)
    · replace h := Ok_t c7 h
      exact am_Ev.sub (L := [(0, .ref 28), (1, .long (l1)), (3, .int (l3)), (4, .int (l4)), (5, .int (l5))]) ⟨rfl, rfl, rfl, rfl, rfl, trivial⟩ (cD_readStart_130_ok l1 l3 l4 l5 _ _ h)
    · replace h := Ok_f c7 h
      refine ev_aload_n (pc' := 80) m_79 rfl rfl rfl (tr_get (pc' := 83) (v := .ref 7) m_79 rfl rfl ts_o28 rfl rfl rfl (tr_get (pc' := 86) (v := .int (gI _ 107 _)) m_79 rfl rfl ts_o7 rfl rfl rfl (ev_bipush (pc' := 88) (x := 41) m_79 rfl rfl rfl ?_)))
      refine ev_icmp_eq (t := 130) (e := 91) m_79 rfl rfl rfl (fun c6 => ?_) (fun c6 => ?_)
      · replace h := Ok_t c6 h
        exact am_Ev.sub (L := [(0, .ref 28), (1, .long (l1)), (3, .int (l3)), (4, .int (l4)), (5, .int (l5))]) ⟨rfl, rfl, rfl, rfl, rfl, trivial⟩ (cD_readStart_130_ok l1 l3 l4 l5 _ _ h)
      · replace h := Ok_f c6 h
        refine ev_iload (pc' := 93) m_79 rfl rfl rfl ?_
        refine ev_if_le (t := 108) (e := 96) m_79 rfl rfl rfl (fun c5 => ?_) (fun c5 => ?_)
        · replace h := Ok_t c5 h
          exact am_Ev.sub (L := [(0, .ref 28), (1, .long (l1)), (3, .int (l3)), (4, .int (l4)), (5, .int (l5)), (6, .int (l6))]) ⟨rfl, rfl, rfl, rfl, rfl, rfl, trivial⟩ (cD_readStart_108_ok (cD_readStart_71 n) ih l1 l3 l4 l5 l6 _ _ h)
        · replace h := Ok_f c5 h
          refine ev_aload_n (pc' := 97) m_79 rfl rfl rfl (tr_get (pc' := 100) (v := .ref 7) m_79 rfl rfl ts_o28 rfl rfl rfl (ev_bipush (pc' := 102) (x := 44) m_79 rfl rfl rfl ?_))
          refine tr_cz (pc' := 105) m_79 rfl rfl rfl m_49 rfl rfl rfl rfl rfl (tr_rcv ts_o7 rfl) rfl rfl (cT_need_ok ((44 : Int32)) _ _ (Ok_b h)) (fun x3_ x3_s h1 h => ?_)
          refine ev_if_eq (t := 119) (e := 108) m_79 rfl rfl rfl (fun c4 => ?_) (fun c4 => ?_)
          · replace h := Ok_t c4 h
            refine ev_iconst (pc' := 120) (x := 0) m_79 rfl rfl rfl ?_
            exact tr_rz m_79 rfl rfl (Or.inl rfl) (Ok_s h)
          · replace h := Ok_f c4 h
            exact am_Ev.sub (L := [(0, .ref 28), (1, .long (l1)), (3, .int (l3)), (4, .int (l4)), (5, .int (l5)), (6, .int (l6))]) ⟨rfl, rfl, rfl, rfl, rfl, rfl, trivial⟩ (cD_readStart_108_ok (cD_readStart_71 n) ih l1 l3 l4 l5 l6 _ _ h)
def cD_readStart (s : ts) : Option (Int32 × ts) := (cT_isAnyWord s).bind (fun x3 => (if x3.1 = ((0 : Int32)) then (cT_fail ((2 : Int32)) x3.2).bind (fun x19 => some (x19.1, x19.2)) else (cT_word x3.2).bind (fun x6 => (cT_currentPlace x6.2).bind (fun x9 => (cT_advance x9.2).bind (fun s11 => (cT_need ((40 : Int32)) s11).bind (fun x15 => (if x15.1 = ((0 : Int32)) then some ((0 : Int32), x15.2) else cD_readStart_71 tm_N x6.1 x9.1 (gI x9.2 217 0) ((0 : Int32)) ((0 : Int32)) x15.2)))))))
set_option maxRecDepth 20000 in
theorem cD_readStart_ok {d : Nat} (s : ts) (Q : Int32 × ts → Prop) (h : Ok (cD_readStart s) Q) : am_Ev (d + 202) 79 (0, [(0, .ref 28)], []) (lay s) (tq_i Q) := by
  unfold cD_readStart at h
  refine ev_aload_n (pc' := 1) m_79 rfl rfl rfl (tr_get (pc' := 4) (v := .ref 7) m_79 rfl rfl ts_o28 rfl rfl rfl ?_)
  refine tr_cz (pc' := 7) m_79 rfl rfl rfl m_41 rfl rfl rfl rfl rfl (tr_rcv ts_o7 rfl) rfl rfl (cT_isAnyWord_ok _ _ (Ok_b h)) (fun x3_ x3_s h1 h => ?_)
  refine ev_if_ne (t := 19) (e := 10) m_79 rfl rfl rfl (fun c20 => ?_) (fun c20 => ?_)
  · replace h := Ok_f c20 h
    refine ev_aload_n (pc' := 20) m_79 rfl rfl rfl (tr_get (pc' := 23) (v := .ref 7) m_79 rfl rfl ts_o28 rfl rfl rfl ?_)
    refine tr_cj (pc' := 26) m_79 rfl rfl rfl m_39 rfl rfl rfl rfl (tr_rcv ts_o7 rfl) rfl rfl (cT_word_ok _ _ (Ok_b h)) (fun x6_ x6_s h => ?_)
    refine ev_lstore_n (pc' := 27) m_79 rfl rfl rfl rfl (ev_aload_n (pc' := 28) m_79 rfl rfl rfl (tr_get (pc' := 31) (v := .ref 7) m_79 rfl rfl ts_o28 rfl rfl rfl ?_))
    refine tr_ci (pc' := 34) m_79 rfl rfl rfl m_80 rfl rfl rfl rfl (tr_rcv ts_o7 rfl) rfl rfl (cT_currentPlace_ok _ _ (Ok_b h)) (fun x9_ x9_s h => ?_)
    refine ev_istore_n (pc' := 35) m_79 rfl rfl rfl rfl (ev_aload_n (pc' := 36) m_79 rfl rfl rfl (tr_get (pc' := 39) (v := .ref 12) m_79 rfl rfl ts_o28 rfl rfl rfl (tr_get (pc' := 42) (v := .int (gI _ 217 _)) m_79 rfl rfl ts_o12 rfl rfl rfl (ev_istore (pc' := 44) m_79 rfl rfl rfl rfl (ev_aload_n (pc' := 45) m_79 rfl rfl rfl (tr_get (pc' := 48) (v := .ref 7) m_79 rfl rfl ts_o28 rfl rfl rfl ?_))))))
    refine tr_cv (pc' := 51) m_79 rfl rfl rfl m_37 rfl rfl rfl rfl (tr_rcv ts_o7 rfl) rfl rfl (cT_advance_ok _ _ (Ok_b h)) (fun s11 h => ?_)
    refine ev_aload_n (pc' := 52) m_79 rfl rfl rfl (tr_get (pc' := 55) (v := .ref 7) m_79 rfl rfl ts_o28 rfl rfl rfl (ev_bipush (pc' := 57) (x := 40) m_79 rfl rfl rfl ?_))
    refine tr_cz (pc' := 60) m_79 rfl rfl rfl m_49 rfl rfl rfl rfl rfl (tr_rcv ts_o7 rfl) rfl rfl (cT_need_ok ((40 : Int32)) _ _ (Ok_b h)) (fun x15_ x15_s h13 h => ?_)
    refine ev_if_ne (t := 65) (e := 63) m_79 rfl rfl rfl (fun c16 => ?_) (fun c16 => ?_)
    · replace h := Ok_f c16 h
      refine ev_iconst (pc' := 66) (x := 0) m_79 rfl rfl rfl (ev_istore (pc' := 68) m_79 rfl rfl rfl rfl (ev_iconst (pc' := 69) (x := 0) m_79 rfl rfl rfl (ev_istore (pc' := 71) m_79 rfl rfl rfl rfl ?_)))
      exact am_Ev.sub (L := [(0, .ref 28), (1, .long (x6_)), (3, .int (x9_)), (4, .int (gI x9_s 217 0)), (5, .int ((0 : Int32))), (6, .int ((0 : Int32)))]) ⟨rfl, rfl, rfl, rfl, rfl, rfl, trivial⟩ (cD_readStart_71_ok tm_N x6_ x9_ (gI x9_s 217 0) ((0 : Int32)) ((0 : Int32)) _ _ h)
    · replace h := Ok_t c16 h
      refine ev_iconst (pc' := 64) (x := 0) m_79 rfl rfl rfl ?_
      exact tr_rz m_79 rfl rfl (Or.inl rfl) (Ok_s h)
  · replace h := Ok_t c20 h
    refine ev_aload_n (pc' := 11) m_79 rfl rfl rfl (tr_get (pc' := 14) (v := .ref 7) m_79 rfl rfl ts_o28 rfl rfl rfl (ev_iconst (pc' := 15) (x := 2) m_79 rfl rfl rfl ?_))
    refine tr_cz (pc' := 18) m_79 rfl rfl rfl m_42 rfl rfl rfl rfl rfl (tr_rcv ts_o7 rfl) rfl rfl (cT_fail_ok ((2 : Int32)) _ _ (Ok_b h)) (fun x19_ x19_s h17 h => ?_)
    exact tr_rz m_79 rfl rfl h17 (Ok_s h)
def cD_readUse_127 (l1 : Int32) (l3 : Int32) (l4 : Int32) (s : ts) : Option (Int32 × ts) := (cD_closeStatement l1 l3 l4 s).bind (fun x3 => some (x3.1, x3.2))
set_option maxRecDepth 20000 in
theorem cD_readUse_127_ok {d : Nat} (l1 : Int32) (l3 : Int32) (l4 : Int32) (s : ts) (Q : Int32 × ts → Prop) (h : Ok (cD_readUse_127 l1 l3 l4 s) Q) : am_Ev (d + 202) 83 (127, [(0, .ref 28), (1, .int (l1)), (3, .int (l3)), (4, .int (l4))], []) (lay s) (tq_i Q) := by
  unfold cD_readUse_127 at h
  refine ev_aload_n (pc' := 128) m_83 rfl rfl rfl (ev_iload_n (pc' := 129) m_83 rfl rfl rfl (ev_iload_n (pc' := 130) m_83 rfl rfl rfl (ev_iload (pc' := 132) m_83 rfl rfl rfl ?_)))
  refine tr_cz (pc' := 135) m_83 rfl rfl rfl m_73 rfl rfl rfl rfl rfl (tr_rcv ts_o28 rfl) rfl rfl (cD_closeStatement_ok l1 l3 l4 _ _ (Ok_b h)) (fun x3_ x3_s h1 h => ?_)
  exact tr_rz m_83 rfl rfl h1 (Ok_s h)
def cD_readUse_107 (l1 : Int32) (l3 : Int32) (l4 : Int32) (s : ts) : Option (Int32 × ts) := (if l1 = ((522 : Int32)) then cD_readUse_127 l1 l3 l4 s else (clF 200 0 ((0 : Int32)) s).bind (fun x3 => (if x3.1 = ((0 : Int32)) then some ((0 : Int32), x3.2) else cD_readUse_127 l1 l3 l4 x3.2)))
set_option maxRecDepth 20000 in
theorem cD_readUse_107_ok {d : Nat} (l1 : Int32) (l3 : Int32) (l4 : Int32) (s : ts) (Q : Int32 × ts → Prop) (h : Ok (cD_readUse_107 l1 l3 l4 s) Q) : am_Ev (d + 202) 83 (107, [(0, .ref 28), (1, .int (l1)), (3, .int (l3)), (4, .int (l4))], []) (lay s) (tq_i Q) := by
  unfold cD_readUse_107 at h
  refine ev_iload_n (pc' := 108) m_83 rfl rfl rfl (ev_sipush (pc' := 111) (x := 522) m_83 rfl rfl rfl ?_)
  refine ev_icmp_eq (t := 127) (e := 114) m_83 rfl rfl rfl (fun c5 => ?_) (fun c5 => ?_)
  · replace h := Ok_t c5 h
    exact am_Ev.sub (L := [(0, .ref 28), (1, .int (l1)), (3, .int (l3)), (4, .int (l4))]) ⟨rfl, rfl, rfl, rfl, trivial⟩ (cD_readUse_127_ok l1 l3 l4 _ _ h)
  · replace h := Ok_f c5 h
    refine ev_aload_n (pc' := 115) m_83 rfl rfl rfl (tr_get (pc' := 118) (v := .ref 33) m_83 rfl rfl ts_o28 rfl rfl rfl (ev_iconst (pc' := 119) (x := 0) m_83 rfl rfl rfl ?_))
    refine tr_cz (pc' := 122) m_83 rfl rfl rfl m_60 rfl rfl rfl rfl rfl (tr_rcv ts_o33 rfl) rfl rfl (clF_ok 200 0 ((0 : Int32)) _ _ (Ok_b h)) (fun x3_ x3_s h1 h => ?_)
    refine ev_if_ne (t := 127) (e := 125) m_83 rfl rfl rfl (fun c4 => ?_) (fun c4 => ?_)
    · replace h := Ok_f c4 h
      exact am_Ev.sub (L := [(0, .ref 28), (1, .int (l1)), (3, .int (l3)), (4, .int (l4))]) ⟨rfl, rfl, rfl, rfl, trivial⟩ (cD_readUse_127_ok l1 l3 l4 _ _ h)
    · replace h := Ok_t c4 h
      refine ev_iconst (pc' := 126) (x := 0) m_83 rfl rfl rfl ?_
      exact tr_rz m_83 rfl rfl (Or.inl rfl) (Ok_s h)
def cD_readUse_40 (l1 : Int32) (t1 : Int64) (t2 : Int32) (t3 : Int32) (s : ts) : Option (Int32 × ts) := (cG_findPlace t1 t2 t3 s).bind (fun x3 => (if x3.1 = ((-2 : Int32)) then (cT_fail ((4 : Int32)) x3.2).bind (fun x14 => some (x14.1, x14.2)) else (cT_advance x3.2).bind (fun s5 => (if l1 = ((521 : Int32)) then (if (gI s5 107 0) = ((59 : Int32)) then (cG_addOp ((1 : Int32)) ((0 : Int32)) s5).bind (fun x9 => cD_readUse_127 l1 x3.1 (gI s5 217 0) x9.2) else cD_readUse_107 l1 x3.1 (gI s5 217 0) s5) else cD_readUse_107 l1 x3.1 (gI s5 217 0) s5))))
set_option maxRecDepth 20000 in
theorem cD_readUse_40_ok {d : Nat} (l1 : Int32) (t1 : Int64) (t2 : Int32) (t3 : Int32) (s : ts) (Q : Int32 × ts → Prop) (h : Ok (cD_readUse_40 l1 t1 t2 t3 s) Q) : am_Ev (d + 202) 83 (40, [(0, .ref 28), (1, .int (l1))], [.int (t3), .int (t2), .long (t1), .ref 12]) (lay s) (tq_i Q) := by
  unfold cD_readUse_40 at h
  refine tr_ci (pc' := 43) m_83 rfl rfl rfl m_67 rfl rfl rfl rfl (tr_rcv ts_o12 rfl) rfl rfl (cG_findPlace_ok t1 t2 t3 _ _ (Ok_b h)) (fun x3_ x3_s h => ?_)
  refine ev_istore_n (pc' := 44) m_83 rfl rfl rfl rfl (ev_iload_n (pc' := 45) m_83 rfl rfl rfl (ev_bipush (pc' := 47) (x := -2) m_83 rfl rfl rfl ?_))
  refine ev_icmp_ne (t := 59) (e := 50) m_83 rfl rfl rfl (fun c15 => ?_) (fun c15 => ?_)
  · replace h := Ok_f c15 h
    refine ev_aload_n (pc' := 60) m_83 rfl rfl rfl (tr_get (pc' := 63) (v := .ref 7) m_83 rfl rfl ts_o28 rfl rfl rfl ?_)
    refine tr_cv (pc' := 66) m_83 rfl rfl rfl m_37 rfl rfl rfl rfl (tr_rcv ts_o7 rfl) rfl rfl (cT_advance_ok _ _ (Ok_b h)) (fun s5 h => ?_)
    refine ev_aload_n (pc' := 67) m_83 rfl rfl rfl (tr_get (pc' := 70) (v := .ref 12) m_83 rfl rfl ts_o28 rfl rfl rfl (tr_get (pc' := 73) (v := .int (gI _ 217 _)) m_83 rfl rfl ts_o12 rfl rfl rfl (ev_istore (pc' := 75) m_83 rfl rfl rfl rfl (ev_iload_n (pc' := 76) m_83 rfl rfl rfl (ev_sipush (pc' := 79) (x := 521) m_83 rfl rfl rfl ?_)))))
    refine ev_icmp_ne (t := 107) (e := 82) m_83 rfl rfl rfl (fun c11 => ?_) (fun c11 => ?_)
    · replace h := Ok_f c11 h
      exact am_Ev.sub (L := [(0, .ref 28), (1, .int (l1)), (3, .int (x3_)), (4, .int (gI s5 217 0))]) ⟨rfl, rfl, rfl, rfl, trivial⟩ (cD_readUse_107_ok l1 x3_ (gI s5 217 0) _ _ h)
    · replace h := Ok_t c11 h
      refine ev_aload_n (pc' := 83) m_83 rfl rfl rfl (tr_get (pc' := 86) (v := .ref 7) m_83 rfl rfl ts_o28 rfl rfl rfl (tr_get (pc' := 89) (v := .int (gI _ 107 _)) m_83 rfl rfl ts_o7 rfl rfl rfl (ev_bipush (pc' := 91) (x := 59) m_83 rfl rfl rfl ?_)))
      refine ev_icmp_ne (t := 107) (e := 94) m_83 rfl rfl rfl (fun c10 => ?_) (fun c10 => ?_)
      · replace h := Ok_f c10 h
        exact am_Ev.sub (L := [(0, .ref 28), (1, .int (l1)), (3, .int (x3_)), (4, .int (gI s5 217 0))]) ⟨rfl, rfl, rfl, rfl, trivial⟩ (cD_readUse_107_ok l1 x3_ (gI s5 217 0) _ _ h)
      · replace h := Ok_t c10 h
        refine ev_aload_n (pc' := 95) m_83 rfl rfl rfl (tr_get (pc' := 98) (v := .ref 12) m_83 rfl rfl ts_o28 rfl rfl rfl (ev_iconst (pc' := 99) (x := 1) m_83 rfl rfl rfl (ev_iconst (pc' := 100) (x := 0) m_83 rfl rfl rfl ?_)))
        refine tr_ci (pc' := 103) m_83 rfl rfl rfl m_65 rfl rfl rfl rfl (tr_rcv ts_o12 rfl) rfl rfl (cG_addOp_ok ((1 : Int32)) ((0 : Int32)) _ _ (Ok_b h)) (fun x9_ x9_s h => ?_)
        refine ev_pop (pc' := 104) m_83 rfl rfl rfl (ev_goto (pc' := 127) m_83 rfl rfl ?_)
        exact am_Ev.sub (L := [(0, .ref 28), (1, .int (l1)), (3, .int (x3_)), (4, .int (gI s5 217 0))]) ⟨rfl, rfl, rfl, rfl, trivial⟩ (cD_readUse_127_ok l1 x3_ (gI s5 217 0) _ _ h)
  · replace h := Ok_t c15 h
    refine ev_aload_n (pc' := 51) m_83 rfl rfl rfl (tr_get (pc' := 54) (v := .ref 7) m_83 rfl rfl ts_o28 rfl rfl rfl (ev_iconst (pc' := 55) (x := 4) m_83 rfl rfl rfl ?_))
    refine tr_cz (pc' := 58) m_83 rfl rfl rfl m_42 rfl rfl rfl rfl rfl (tr_rcv ts_o7 rfl) rfl rfl (cT_fail_ok ((4 : Int32)) _ _ (Ok_b h)) (fun x14_ x14_s h12 h => ?_)
    exact tr_rz m_83 rfl rfl h12 (Ok_s h)
def cD_readUse (l1 : Int32) (l2 : Int32) (s : ts) : Option (Int32 × ts) := (cT_isAnyWord s).bind (fun x3 => (if x3.1 = ((0 : Int32)) then (cT_fail ((2 : Int32)) x3.2).bind (fun x10 => some (x10.1, x10.2)) else (cT_word x3.2).bind (fun x6 => (if l2 = ((0 : Int32)) then cD_readUse_40 l1 x6.1 l2 ((1 : Int32)) x6.2 else cD_readUse_40 l1 x6.1 l2 ((0 : Int32)) x6.2))))
set_option maxRecDepth 20000 in
theorem cD_readUse_ok {d : Nat} (l1 : Int32) (l2 : Int32) (s : ts) (Q : Int32 × ts → Prop) (h : Ok (cD_readUse l1 l2 s) Q) : am_Ev (d + 202) 83 (0, [(0, .ref 28), (1, .int (l1)), (2, .int (l2))], []) (lay s) (tq_i Q) := by
  unfold cD_readUse at h
  refine ev_aload_n (pc' := 1) m_83 rfl rfl rfl (tr_get (pc' := 4) (v := .ref 7) m_83 rfl rfl ts_o28 rfl rfl rfl ?_)
  refine tr_cz (pc' := 7) m_83 rfl rfl rfl m_41 rfl rfl rfl rfl rfl (tr_rcv ts_o7 rfl) rfl rfl (cT_isAnyWord_ok _ _ (Ok_b h)) (fun x3_ x3_s h1 h => ?_)
  refine ev_if_ne (t := 19) (e := 10) m_83 rfl rfl rfl (fun c11 => ?_) (fun c11 => ?_)
  · replace h := Ok_f c11 h
    refine ev_aload_n (pc' := 20) m_83 rfl rfl rfl (tr_get (pc' := 23) (v := .ref 12) m_83 rfl rfl ts_o28 rfl rfl rfl (ev_aload_n (pc' := 24) m_83 rfl rfl rfl (tr_get (pc' := 27) (v := .ref 7) m_83 rfl rfl ts_o28 rfl rfl rfl ?_)))
    refine tr_cj (pc' := 30) m_83 rfl rfl rfl m_39 rfl rfl rfl rfl (tr_rcv ts_o7 rfl) rfl rfl (cT_word_ok _ _ (Ok_b h)) (fun x6_ x6_s h => ?_)
    refine ev_iload_n (pc' := 31) m_83 rfl rfl rfl (ev_iload_n (pc' := 32) m_83 rfl rfl rfl ?_)
    refine ev_if_ne (t := 39) (e := 35) m_83 rfl rfl rfl (fun c7 => ?_) (fun c7 => ?_)
    · replace h := Ok_f c7 h
      refine ev_iconst (pc' := 40) (x := 0) m_83 rfl rfl rfl ?_
      exact am_Ev.sub (L := [(0, .ref 28), (1, .int (l1))]) ⟨rfl, rfl, trivial⟩ (cD_readUse_40_ok l1 x6_ l2 ((0 : Int32)) _ _ h)
    · replace h := Ok_t c7 h
      refine ev_iconst (pc' := 36) (x := 1) m_83 rfl rfl rfl (ev_goto (pc' := 40) m_83 rfl rfl ?_)
      exact am_Ev.sub (L := [(0, .ref 28), (1, .int (l1))]) ⟨rfl, rfl, trivial⟩ (cD_readUse_40_ok l1 x6_ l2 ((1 : Int32)) _ _ h)
  · replace h := Ok_t c11 h
    refine ev_aload_n (pc' := 11) m_83 rfl rfl rfl (tr_get (pc' := 14) (v := .ref 7) m_83 rfl rfl ts_o28 rfl rfl rfl (ev_iconst (pc' := 15) (x := 2) m_83 rfl rfl rfl ?_))
    refine tr_cz (pc' := 18) m_83 rfl rfl rfl m_42 rfl rfl rfl rfl rfl (tr_rcv ts_o7 rfl) rfl rfl (cT_fail_ok ((2 : Int32)) _ _ (Ok_b h)) (fun x10_ x10_s h8 h => ?_)
    exact tr_rz m_83 rfl rfl h8 (Ok_s h)
def cD_readStatement_21 (rc : Nat → Int32 → ts → Option (Int32 × ts)) (l1 : Int32) (l2 : Int32) (s : ts) : Option (Int32 × ts) := (if l2 = ((0 : Int32)) then (cT_word (wI s 403 0 ((gI s 403 0) + ((1 : Int32))))).bind (fun x3 => (cT_advance x3.2).bind (fun s5 => (if (gI (wI s 403 0 ((gI s 403 0) + ((1 : Int32)))) 107 0) = (2 : Int32) then (cT_need ((61 : Int32)) s5).bind (fun x9 => (if x9.1 = ((0 : Int32)) then some ((0 : Int32), x9.2) else (cG_findValue x3.1 x9.2).bind (fun x12 => (cD_readPlain ((1 : Int32)) x12.1 x12.2).bind (fun x15 => (if x15.1 = ((0 : Int32)) then some ((0 : Int32), x15.2) else some ((1 : Int32), x15.2)))))) else (if (gI (wI s 403 0 ((gI s 403 0) + ((1 : Int32)))) 107 0) = (516 : Int32) then (cD_readLet s5).bind (fun x21 => some (x21.1, x21.2)) else (if (gI (wI s 403 0 ((gI s 403 0) + ((1 : Int32)))) 107 0) = (517 : Int32) then (rc 2 l1 s5).bind (fun x25 => some (x25.1, x25.2)) else (if (gI (wI s 403 0 ((gI s 403 0) + ((1 : Int32)))) 107 0) = (519 : Int32) then (rc 3 l1 s5).bind (fun x29 => some (x29.1, x29.2)) else (if (gI (wI s 403 0 ((gI s 403 0) + ((1 : Int32)))) 107 0) = (521 : Int32) then (cD_readUse (gI (wI s 403 0 ((gI s 403 0) + ((1 : Int32)))) 107 0) ((1 : Int32)) s5).bind (fun x33 => some (x33.1, x33.2)) else (if (gI (wI s 403 0 ((gI s 403 0) + ((1 : Int32)))) 107 0) = (522 : Int32) then (cD_readUse (gI (wI s 403 0 ((gI s 403 0) + ((1 : Int32)))) 107 0) ((1 : Int32)) s5).bind (fun x37 => some (x37.1, x37.2)) else (if (gI (wI s 403 0 ((gI s 403 0) + ((1 : Int32)))) 107 0) = (523 : Int32) then (cD_readUse (gI (wI s 403 0 ((gI s 403 0) + ((1 : Int32)))) 107 0) ((0 : Int32)) s5).bind (fun x41 => some (x41.1, x41.2)) else (if (gI (wI s 403 0 ((gI s 403 0) + ((1 : Int32)))) 107 0) = (524 : Int32) then (cD_readUse (gI (wI s 403 0 ((gI s 403 0) + ((1 : Int32)))) 107 0) ((0 : Int32)) s5).bind (fun x45 => some (x45.1, x45.2)) else (if (gI (wI s 403 0 ((gI s 403 0) + ((1 : Int32)))) 107 0) = (526 : Int32) then (cD_readStart s5).bind (fun x49 => some (x49.1, x49.2)) else (if (gI (wI s 403 0 ((gI s 403 0) + ((1 : Int32)))) 107 0) = (530 : Int32) then (cD_closeStatement (gI (wI s 403 0 ((gI s 403 0) + ((1 : Int32)))) 107 0) ((-2 : Int32)) (gI s5 217 0) s5).bind (fun x53 => some (x53.1, x53.2)) else (cD_readPlain (gI (wI s 403 0 ((gI s 403 0) + ((1 : Int32)))) 107 0) ((-2 : Int32)) s5).bind (fun x57 => some (x57.1, x57.2)))))))))))))) else (cT_fail l2 s).bind (fun x60 => some (x60.1, x60.2)))
set_option maxRecDepth 20000 in
theorem cD_readStatement_21_ok {e : Nat} (rc : Nat → Int32 → ts → Option (Int32 × ts)) (hrc : ∀ (w : Nat) (a : Int32) (s : ts) (Q : Int32 × ts → Prop), Ok (rc w a s) Q → am_Ev (e + 202) (clT_m w) (0, [(0, .ref 28), (1, .int a)], []) (lay s) (tq_i Q)) (l1 : Int32) (l2 : Int32) (s : ts) (Q : Int32 × ts → Prop) (h : Ok (cD_readStatement_21 rc l1 l2 s) Q) : am_Ev (e + 202 + 1) 56 (21, [(0, .ref 28), (1, .int (l1)), (2, .int (l2))], []) (lay s) (tq_i Q) := by
  unfold cD_readStatement_21 at h
  refine ev_iload_n (pc' := 22) m_56 rfl rfl rfl ?_
  refine ev_if_eq (t := 34) (e := 25) m_56 rfl rfl rfl (fun c61 => ?_) (fun c61 => ?_)
  · replace h := Ok_t c61 h
    refine ev_aload_n (pc' := 35) m_56 rfl rfl rfl (ev_dup (pc' := 36) m_56 rfl rfl rfl (tr_get (pc' := 39) (v := .int (gI _ 403 _)) m_56 rfl rfl ts_o28 rfl rfl rfl (ev_iconst (pc' := 40) (x := 1) m_56 rfl rfl rfl (ev_iadd (pc' := 41) m_56 rfl rfl (tr_pI (pc' := 44) (f := 403) m_56 rfl rfl rfl ts_o28 rfl rfl rfl rfl (ev_aload_n (pc' := 45) m_56 rfl rfl rfl (tr_get (pc' := 48) (v := .ref 7) m_56 rfl rfl ts_o28 rfl rfl rfl ?_)))))))
    refine tr_get (pc' := 51) (v := .int (gI _ 107 _)) m_56 rfl rfl ts_o7 rfl rfl rfl (ev_istore_n (pc' := 52) m_56 rfl rfl rfl rfl (ev_aload_n (pc' := 53) m_56 rfl rfl rfl (tr_get (pc' := 56) (v := .ref 7) m_56 rfl rfl ts_o28 rfl rfl rfl ?_)))
    refine tr_cj (pc' := 59) m_56 rfl rfl rfl m_39 rfl rfl rfl rfl (tr_rcv ts_o7 rfl) rfl rfl (cT_word_ok _ _ (Ok_b h)) (fun x3_ x3_s h => ?_)
    refine ev_lstore (pc' := 61) m_56 rfl rfl rfl rfl (ev_aload_n (pc' := 62) m_56 rfl rfl rfl (tr_get (pc' := 65) (v := .ref 7) m_56 rfl rfl ts_o28 rfl rfl rfl ?_))
    refine tr_cv (pc' := 68) m_56 rfl rfl rfl m_37 rfl rfl rfl rfl (tr_rcv ts_o7 rfl) rfl rfl (cT_advance_ok _ _ (Ok_b h)) (fun s5 h => ?_)
    refine ev_iload_n (pc' := 69) m_56 rfl rfl rfl ?_
    by_cases c18 : (gI (wI s 403 0 ((gI s 403 0) + ((1 : Int32)))) 107 0) = (2 : Int32)
    · replace h := Ok_t c18 h
      refine ev_sw (pc' := 160) m_56 rfl (by rw [c18]; rfl) ?_
      refine ev_aload_n (pc' := 161) m_56 rfl rfl rfl (tr_get (pc' := 164) (v := .ref 7) m_56 rfl rfl ts_o28 rfl rfl rfl (ev_bipush (pc' := 166) (x := 61) m_56 rfl rfl rfl ?_))
      refine tr_cz (pc' := 169) m_56 rfl rfl rfl m_49 rfl rfl rfl rfl rfl (tr_rcv ts_o7 rfl) rfl rfl (cT_need_ok ((61 : Int32)) _ _ (Ok_b h)) (fun x9_ x9_s h7 h => ?_)
      refine ev_if_eq (t := 193) (e := 172) m_56 rfl rfl rfl (fun c17 => ?_) (fun c17 => ?_)
      · replace h := Ok_t c17 h
        refine ev_iconst (pc' := 194) (x := 0) m_56 rfl rfl rfl ?_
        exact tr_rz m_56 rfl rfl (Or.inl rfl) (Ok_s h)
      · replace h := Ok_f c17 h
        refine ev_aload_n (pc' := 173) m_56 rfl rfl rfl (ev_iconst (pc' := 174) (x := 1) m_56 rfl rfl rfl (ev_aload_n (pc' := 175) m_56 rfl rfl rfl (tr_get (pc' := 178) (v := .ref 12) m_56 rfl rfl ts_o28 rfl rfl rfl (ev_lload (pc' := 180) m_56 rfl rfl rfl ?_))))
        refine tr_ci (pc' := 183) m_56 rfl rfl rfl m_58 rfl rfl rfl rfl (tr_rcv ts_o12 rfl) rfl rfl (cG_findValue_ok x3_ _ _ (Ok_b h)) (fun x12_ x12_s h => ?_)
        refine tr_cz (pc' := 186) m_56 rfl rfl rfl m_59 rfl rfl rfl rfl rfl (tr_rcv ts_o28 rfl) rfl rfl (cD_readPlain_ok ((1 : Int32)) x12_ _ _ (Ok_b h)) (fun x15_ x15_s h13 h => ?_)
        refine ev_if_eq (t := 193) (e := 189) m_56 rfl rfl rfl (fun c16 => ?_) (fun c16 => ?_)
        · replace h := Ok_t c16 h
          refine ev_iconst (pc' := 194) (x := 0) m_56 rfl rfl rfl ?_
          exact tr_rz m_56 rfl rfl (Or.inl rfl) (Ok_s h)
        · replace h := Ok_f c16 h
          refine ev_iconst (pc' := 190) (x := 1) m_56 rfl rfl rfl (ev_goto (pc' := 194) m_56 rfl rfl ?_)
          exact tr_rz m_56 rfl rfl (Or.inr rfl) (Ok_s h)
    replace h := Ok_f c18 h
    by_cases c22 : (gI (wI s 403 0 ((gI s 403 0) + ((1 : Int32)))) 107 0) = (516 : Int32)
    · replace h := Ok_t c22 h
      refine ev_sw (pc' := 207) m_56 rfl (by rw [c22]; rfl) ?_
      refine ev_aload_n (pc' := 208) m_56 rfl rfl rfl ?_
      refine tr_cz (pc' := 211) m_56 rfl rfl rfl m_78 rfl rfl rfl rfl rfl (tr_rcv ts_o28 rfl) rfl rfl (cD_readLet_ok _ _ (Ok_b h)) (fun x21_ x21_s h19 h => ?_)
      exact tr_rz m_56 rfl rfl h19 (Ok_s h)
    replace h := Ok_f c22 h
    by_cases c26 : (gI (wI s 403 0 ((gI s 403 0) + ((1 : Int32)))) 107 0) = (517 : Int32)
    · replace h := Ok_t c26 h
      refine ev_sw (pc' := 195) m_56 rfl (by rw [c26]; rfl) ?_
      refine ev_aload_n (pc' := 196) m_56 rfl rfl rfl (ev_iload_n (pc' := 197) m_56 rfl rfl rfl ?_)
      refine tr_cz (pc' := 200) m_56 rfl rfl rfl m_75 rfl rfl rfl rfl rfl (tr_rcv ts_o28 rfl) rfl rfl (hrc 2 l1 _ _ (Ok_b h)) (fun x25_ x25_s h23 h => ?_)
      exact tr_rz m_56 rfl rfl h23 (Ok_s h)
    replace h := Ok_f c26 h
    by_cases c30 : (gI (wI s 403 0 ((gI s 403 0) + ((1 : Int32)))) 107 0) = (519 : Int32)
    · replace h := Ok_t c30 h
      refine ev_sw (pc' := 201) m_56 rfl (by rw [c30]; rfl) ?_
      refine ev_aload_n (pc' := 202) m_56 rfl rfl rfl (ev_iload_n (pc' := 203) m_56 rfl rfl rfl ?_)
      refine tr_cz (pc' := 206) m_56 rfl rfl rfl m_77 rfl rfl rfl rfl rfl (tr_rcv ts_o28 rfl) rfl rfl (hrc 3 l1 _ _ (Ok_b h)) (fun x29_ x29_s h27 h => ?_)
      exact tr_rz m_56 rfl rfl h27 (Ok_s h)
    replace h := Ok_f c30 h
    by_cases c34 : (gI (wI s 403 0 ((gI s 403 0) + ((1 : Int32)))) 107 0) = (521 : Int32)
    · replace h := Ok_t c34 h
      refine ev_sw (pc' := 217) m_56 rfl (by rw [c34]; rfl) ?_
      refine ev_aload_n (pc' := 218) m_56 rfl rfl rfl (ev_iload_n (pc' := 219) m_56 rfl rfl rfl (ev_iconst (pc' := 220) (x := 1) m_56 rfl rfl rfl ?_))
      refine tr_cz (pc' := 223) m_56 rfl rfl rfl m_83 rfl rfl rfl rfl rfl (tr_rcv ts_o28 rfl) rfl rfl (cD_readUse_ok (gI (wI s 403 0 ((gI s 403 0) + ((1 : Int32)))) 107 0) ((1 : Int32)) _ _ (Ok_b h)) (fun x33_ x33_s h31 h => ?_)
      exact tr_rz m_56 rfl rfl h31 (Ok_s h)
    replace h := Ok_f c34 h
    by_cases c38 : (gI (wI s 403 0 ((gI s 403 0) + ((1 : Int32)))) 107 0) = (522 : Int32)
    · replace h := Ok_t c38 h
      refine ev_sw (pc' := 217) m_56 rfl (by rw [c38]; rfl) ?_
      refine ev_aload_n (pc' := 218) m_56 rfl rfl rfl (ev_iload_n (pc' := 219) m_56 rfl rfl rfl (ev_iconst (pc' := 220) (x := 1) m_56 rfl rfl rfl ?_))
      refine tr_cz (pc' := 223) m_56 rfl rfl rfl m_83 rfl rfl rfl rfl rfl (tr_rcv ts_o28 rfl) rfl rfl (cD_readUse_ok (gI (wI s 403 0 ((gI s 403 0) + ((1 : Int32)))) 107 0) ((1 : Int32)) _ _ (Ok_b h)) (fun x37_ x37_s h35 h => ?_)
      exact tr_rz m_56 rfl rfl h35 (Ok_s h)
    replace h := Ok_f c38 h
    by_cases c42 : (gI (wI s 403 0 ((gI s 403 0) + ((1 : Int32)))) 107 0) = (523 : Int32)
    · replace h := Ok_t c42 h
      refine ev_sw (pc' := 224) m_56 rfl (by rw [c42]; rfl) ?_
      refine ev_aload_n (pc' := 225) m_56 rfl rfl rfl (ev_iload_n (pc' := 226) m_56 rfl rfl rfl (ev_iconst (pc' := 227) (x := 0) m_56 rfl rfl rfl ?_))
      refine tr_cz (pc' := 230) m_56 rfl rfl rfl m_83 rfl rfl rfl rfl rfl (tr_rcv ts_o28 rfl) rfl rfl (cD_readUse_ok (gI (wI s 403 0 ((gI s 403 0) + ((1 : Int32)))) 107 0) ((0 : Int32)) _ _ (Ok_b h)) (fun x41_ x41_s h39 h => ?_)
      exact tr_rz m_56 rfl rfl h39 (Ok_s h)
    replace h := Ok_f c42 h
    by_cases c46 : (gI (wI s 403 0 ((gI s 403 0) + ((1 : Int32)))) 107 0) = (524 : Int32)
    · replace h := Ok_t c46 h
      refine ev_sw (pc' := 224) m_56 rfl (by rw [c46]; rfl) ?_
      refine ev_aload_n (pc' := 225) m_56 rfl rfl rfl (ev_iload_n (pc' := 226) m_56 rfl rfl rfl (ev_iconst (pc' := 227) (x := 0) m_56 rfl rfl rfl ?_))
      refine tr_cz (pc' := 230) m_56 rfl rfl rfl m_83 rfl rfl rfl rfl rfl (tr_rcv ts_o28 rfl) rfl rfl (cD_readUse_ok (gI (wI s 403 0 ((gI s 403 0) + ((1 : Int32)))) 107 0) ((0 : Int32)) _ _ (Ok_b h)) (fun x45_ x45_s h43 h => ?_)
      exact tr_rz m_56 rfl rfl h43 (Ok_s h)
    replace h := Ok_f c46 h
    by_cases c50 : (gI (wI s 403 0 ((gI s 403 0) + ((1 : Int32)))) 107 0) = (526 : Int32)
    · replace h := Ok_t c50 h
      refine ev_sw (pc' := 212) m_56 rfl (by rw [c50]; rfl) ?_
      refine ev_aload_n (pc' := 213) m_56 rfl rfl rfl ?_
      refine tr_cz (pc' := 216) m_56 rfl rfl rfl m_79 rfl rfl rfl rfl rfl (tr_rcv ts_o28 rfl) rfl rfl (cD_readStart_ok _ _ (Ok_b h)) (fun x49_ x49_s h47 h => ?_)
      exact tr_rz m_56 rfl rfl h47 (Ok_s h)
    replace h := Ok_f c50 h
    by_cases c54 : (gI (wI s 403 0 ((gI s 403 0) + ((1 : Int32)))) 107 0) = (530 : Int32)
    · replace h := Ok_t c54 h
      refine ev_sw (pc' := 231) m_56 rfl (by rw [c54]; rfl) ?_
      refine ev_aload_n (pc' := 232) m_56 rfl rfl rfl (ev_iload_n (pc' := 233) m_56 rfl rfl rfl (ev_bipush (pc' := 235) (x := -2) m_56 rfl rfl rfl (ev_aload_n (pc' := 236) m_56 rfl rfl rfl (tr_get (pc' := 239) (v := .ref 12) m_56 rfl rfl ts_o28 rfl rfl rfl (tr_get (pc' := 242) (v := .int (gI _ 217 _)) m_56 rfl rfl ts_o12 rfl rfl rfl ?_)))))
      refine tr_cz (pc' := 245) m_56 rfl rfl rfl m_73 rfl rfl rfl rfl rfl (tr_rcv ts_o28 rfl) rfl rfl (cD_closeStatement_ok (gI (wI s 403 0 ((gI s 403 0) + ((1 : Int32)))) 107 0) ((-2 : Int32)) (gI s5 217 0) _ _ (Ok_b h)) (fun x53_ x53_s h51 h => ?_)
      exact tr_rz m_56 rfl rfl h51 (Ok_s h)
    replace h := Ok_f c54 h
    refine ev_sw (pc' := 246) m_56 rfl (by exact ev_ldef rfl (by simp only [Op.lookupswitch.offset, List.find?]; rw [if_neg (ts_nel c18 (by decide)), if_neg (ts_nel c22 (by decide)), if_neg (ts_nel c26 (by decide)), if_neg (ts_nel c30 (by decide)), if_neg (ts_nel c34 (by decide)), if_neg (ts_nel c38 (by decide)), if_neg (ts_nel c42 (by decide)), if_neg (ts_nel c46 (by decide)), if_neg (ts_nel c50 (by decide)), if_neg (ts_nel c54 (by decide))]) rfl) ?_
    refine ev_aload_n (pc' := 247) m_56 rfl rfl rfl (ev_iload_n (pc' := 248) m_56 rfl rfl rfl (ev_bipush (pc' := 250) (x := -2) m_56 rfl rfl rfl ?_))
    refine tr_cz (pc' := 253) m_56 rfl rfl rfl m_59 rfl rfl rfl rfl rfl (tr_rcv ts_o28 rfl) rfl rfl (cD_readPlain_ok (gI (wI s 403 0 ((gI s 403 0) + ((1 : Int32)))) 107 0) ((-2 : Int32)) _ _ (Ok_b h)) (fun x57_ x57_s h55 h => ?_)
    exact tr_rz m_56 rfl rfl h55 (Ok_s h)
  · replace h := Ok_f c61 h
    refine ev_aload_n (pc' := 26) m_56 rfl rfl rfl (tr_get (pc' := 29) (v := .ref 7) m_56 rfl rfl ts_o28 rfl rfl rfl (ev_iload_n (pc' := 30) m_56 rfl rfl rfl ?_))
    refine tr_cz (pc' := 33) m_56 rfl rfl rfl m_42 rfl rfl rfl rfl rfl (tr_rcv ts_o7 rfl) rfl rfl (cT_fail_ok l2 _ _ (Ok_b h)) (fun x60_ x60_s h58 h => ?_)
    exact tr_rz m_56 rfl rfl h58 (Ok_s h)
def cD_readStatement (rc : Nat → Int32 → ts → Option (Int32 × ts)) (l1 : Int32) (s : ts) : Option (Int32 × ts) := (cD_faultOfStatement s).bind (fun x3 => (if x3.1 = ((0 : Int32)) then (if (gI x3.2 403 0) < ((250 : Int32)) then cD_readStatement_21 rc l1 x3.1 x3.2 else cD_readStatement_21 rc l1 ((5 : Int32)) x3.2) else cD_readStatement_21 rc l1 x3.1 x3.2))
set_option maxRecDepth 20000 in
theorem cD_readStatement_ok {e : Nat} (rc : Nat → Int32 → ts → Option (Int32 × ts)) (hrc : ∀ (w : Nat) (a : Int32) (s : ts) (Q : Int32 × ts → Prop), Ok (rc w a s) Q → am_Ev (e + 202) (clT_m w) (0, [(0, .ref 28), (1, .int a)], []) (lay s) (tq_i Q)) (l1 : Int32) (s : ts) (Q : Int32 × ts → Prop) (h : Ok (cD_readStatement rc l1 s) Q) : am_Ev (e + 202 + 1) 56 (0, [(0, .ref 28), (1, .int (l1))], []) (lay s) (tq_i Q) := by
  unfold cD_readStatement at h
  refine ev_aload_n (pc' := 1) m_56 rfl rfl rfl ?_
  refine tr_ci (pc' := 4) m_56 rfl rfl rfl m_57 rfl rfl rfl rfl (tr_rcv ts_o28 rfl) rfl rfl (cD_faultOfStatement_ok _ _ (Ok_b h)) (fun x3_ x3_s h => ?_)
  refine ev_istore_n (pc' := 5) m_56 rfl rfl rfl rfl (ev_iload_n (pc' := 6) m_56 rfl rfl rfl ?_)
  refine ev_if_ne (t := 21) (e := 9) m_56 rfl rfl rfl (fun c5 => ?_) (fun c5 => ?_)
  · replace h := Ok_f c5 h
    exact am_Ev.sub (L := [(0, .ref 28), (1, .int (l1)), (2, .int (x3_))]) ⟨rfl, rfl, rfl, trivial⟩ (cD_readStatement_21_ok rc hrc l1 x3_ _ _ h)
  · replace h := Ok_t c5 h
    refine ev_aload_n (pc' := 10) m_56 rfl rfl rfl (tr_get (pc' := 13) (v := .int (gI _ 403 _)) m_56 rfl rfl ts_o28 rfl rfl rfl (ev_sipush (pc' := 16) (x := 250) m_56 rfl rfl rfl ?_))
    refine ev_icmp_lt (t := 21) (e := 19) m_56 rfl rfl rfl (fun c4 => ?_) (fun c4 => ?_)
    · replace h := Ok_t c4 h
      exact am_Ev.sub (L := [(0, .ref 28), (1, .int (l1)), (2, .int (x3_))]) ⟨rfl, rfl, rfl, trivial⟩ (cD_readStatement_21_ok rc hrc l1 x3_ _ _ h)
    · replace h := Ok_f c4 h
      refine ev_iconst (pc' := 20) (x := 5) m_56 rfl rfl rfl (ev_istore_n (pc' := 21) m_56 rfl rfl rfl rfl ?_)
      exact am_Ev.sub (L := [(0, .ref 28), (1, .int (l1)), (2, .int ((5 : Int32)))]) ⟨rfl, rfl, rfl, trivial⟩ (cD_readStatement_21_ok rc hrc l1 ((5 : Int32)) _ _ h)
def cD_readBlock_78 (rc : Nat → Int32 → ts → Option (Int32 × ts)) (s : ts) : Option (Int32 × ts) := (cT_need ((125 : Int32)) s).bind (fun x3 => some (x3.1, x3.2))
set_option maxRecDepth 20000 in
theorem cD_readBlock_78_ok {e : Nat} (rc : Nat → Int32 → ts → Option (Int32 × ts)) (hrc : ∀ (w : Nat) (a : Int32) (s : ts) (Q : Int32 × ts → Prop), Ok (rc w a s) Q → am_Ev (e + 202) (clT_m w) (0, [(0, .ref 28), (1, .int a)], []) (lay s) (tq_i Q)) (s : ts) (Q : Int32 × ts → Prop) (h : Ok (cD_readBlock_78 rc s) Q) : am_Ev (e + 202 + 1) 55 (78, [(0, .ref 28)], []) (lay s) (tq_i Q) := by
  unfold cD_readBlock_78 at h
  refine ev_aload_n (pc' := 79) m_55 rfl rfl rfl (tr_get (pc' := 82) (v := .ref 7) m_55 rfl rfl ts_o28 rfl rfl rfl (ev_bipush (pc' := 84) (x := 125) m_55 rfl rfl rfl ?_))
  refine tr_cz (pc' := 87) m_55 rfl rfl rfl m_49 rfl rfl rfl rfl rfl (tr_rcv ts_o7 rfl) rfl rfl (cT_need_ok ((125 : Int32)) _ _ (Ok_b h)) (fun x3_ x3_s h1 h => ?_)
  exact tr_rz m_55 rfl rfl h1 (Ok_s h)
def cD_readBlock_43_b (rc : Nat → Int32 → ts → Option (Int32 × ts)) (kk : Int32 → Int32 → ts → Option (Int32 × ts)) (l1 : Int32) (l2 : Int32) (s : ts) : Option (Int32 × ts) := (if ((4001 : Int32)) ≤ l2 then cD_readBlock_78 rc s else (if (gI s 107 0) = ((125 : Int32)) then cD_readBlock_78 rc s else (rc 1 l1 s).bind (fun x3 => (if x3.1 = ((0 : Int32)) then some ((0 : Int32), x3.2) else kk l1 (l2 + (1 : Int32)) x3.2))))
def cD_readBlock_43 (rc : Nat → Int32 → ts → Option (Int32 × ts)) : Nat → Int32 → Int32 → ts → Option (Int32 × ts)
  | 0, _, _, _ => none
  | n + 1, l1, l2, s => cD_readBlock_43_b rc (cD_readBlock_43 rc n) l1 l2 s
set_option maxRecDepth 20000 in
theorem cD_readBlock_43_ok {e : Nat} (rc : Nat → Int32 → ts → Option (Int32 × ts)) (hrc : ∀ (w : Nat) (a : Int32) (s : ts) (Q : Int32 × ts → Prop), Ok (rc w a s) Q → am_Ev (e + 202) (clT_m w) (0, [(0, .ref 28), (1, .int a)], []) (lay s) (tq_i Q)) : ∀ (n : Nat) (l1 : Int32) (l2 : Int32) (s : ts) (Q : Int32 × ts → Prop), Ok (cD_readBlock_43 rc n l1 l2 s) Q → am_Ev (e + 202 + 1) 55 (43, [(0, .ref 28), (1, .int (l1)), (2, .int (l2))], []) (lay s) (tq_i Q) := by
  intro n
  induction n with
  | zero => intro l1 l2 s Q h; exact Ok_n h
  | succ n ih =>
    intro l1 l2 s Q h
    rw [cD_readBlock_43.eq_2] at h
    unfold cD_readBlock_43_b at h
    refine ev_iload_n (pc' := 44) m_55 rfl rfl rfl (ev_sipush (pc' := 47) (x := 4001) m_55 rfl rfl rfl ?_)
    refine ev_icmp_ge (t := 78) (e := 50) m_55 rfl rfl rfl (fun c6 => ?_) (fun c6 => ?_)
    · replace h := Ok_t c6 h
      exact am_Ev.sub (L := [(0, .ref 28)]) ⟨rfl, trivial⟩ (cD_readBlock_78_ok rc hrc _ _ h)
    · replace h := Ok_f c6 h
      refine ev_aload_n (pc' := 51) m_55 rfl rfl rfl (tr_get (pc' := 54) (v := .ref 7) m_55 rfl rfl ts_o28 rfl rfl rfl (tr_get (pc' := 57) (v := .int (gI _ 107 _)) m_55 rfl rfl ts_o7 rfl rfl rfl (ev_bipush (pc' := 59) (x := 125) m_55 rfl rfl rfl ?_)))
      refine ev_icmp_eq (t := 78) (e := 62) m_55 rfl rfl rfl (fun c5 => ?_) (fun c5 => ?_)
      · replace h := Ok_t c5 h
        exact am_Ev.sub (L := [(0, .ref 28)]) ⟨rfl, trivial⟩ (cD_readBlock_78_ok rc hrc _ _ h)
      · replace h := Ok_f c5 h
        refine ev_aload_n (pc' := 63) m_55 rfl rfl rfl (ev_iload_n (pc' := 64) m_55 rfl rfl rfl ?_)
        refine tr_cz (pc' := 67) m_55 rfl rfl rfl m_56 rfl rfl rfl rfl rfl (tr_rcv ts_o28 rfl) rfl rfl (hrc 1 l1 _ _ (Ok_b h)) (fun x3_ x3_s h1 h => ?_)
        refine ev_if_ne (t := 72) (e := 70) m_55 rfl rfl rfl (fun c4 => ?_) (fun c4 => ?_)
        · replace h := Ok_f c4 h
          refine ev_iinc (pc' := 75) (z := 1) m_55 rfl rfl rfl rfl rfl rfl (ev_goto (pc' := 43) m_55 rfl rfl ?_)
          exact am_Ev.sub (L := [(0, .ref 28), (1, .int (l1)), (2, .int (l2 + (1 : Int32)))]) ⟨rfl, rfl, rfl, trivial⟩ (ih l1 (l2 + (1 : Int32)) _ _ h)
        · replace h := Ok_t c4 h
          refine ev_iconst (pc' := 71) (x := 0) m_55 rfl rfl rfl ?_
          exact tr_rz m_55 rfl rfl (Or.inl rfl) (Ok_s h)
def cD_readBlock_27 (rc : Nat → Int32 → ts → Option (Int32 × ts)) (l1 : Int32) (s : ts) : Option (Int32 × ts) := (cT_need ((123 : Int32)) s).bind (fun x3 => (if x3.1 = ((0 : Int32)) then some ((0 : Int32), x3.2) else cD_readBlock_43 rc tm_N l1 ((0 : Int32)) x3.2))
set_option maxRecDepth 20000 in
theorem cD_readBlock_27_ok {e : Nat} (rc : Nat → Int32 → ts → Option (Int32 × ts)) (hrc : ∀ (w : Nat) (a : Int32) (s : ts) (Q : Int32 × ts → Prop), Ok (rc w a s) Q → am_Ev (e + 202) (clT_m w) (0, [(0, .ref 28), (1, .int a)], []) (lay s) (tq_i Q)) (l1 : Int32) (s : ts) (Q : Int32 × ts → Prop) (h : Ok (cD_readBlock_27 rc l1 s) Q) : am_Ev (e + 202 + 1) 55 (27, [(0, .ref 28), (1, .int (l1))], []) (lay s) (tq_i Q) := by
  unfold cD_readBlock_27 at h
  refine ev_aload_n (pc' := 28) m_55 rfl rfl rfl (tr_get (pc' := 31) (v := .ref 7) m_55 rfl rfl ts_o28 rfl rfl rfl (ev_bipush (pc' := 33) (x := 123) m_55 rfl rfl rfl ?_))
  refine tr_cz (pc' := 36) m_55 rfl rfl rfl m_49 rfl rfl rfl rfl rfl (tr_rcv ts_o7 rfl) rfl rfl (cT_need_ok ((123 : Int32)) _ _ (Ok_b h)) (fun x3_ x3_s h1 h => ?_)
  refine ev_if_ne (t := 41) (e := 39) m_55 rfl rfl rfl (fun c4 => ?_) (fun c4 => ?_)
  · replace h := Ok_f c4 h
    refine ev_iconst (pc' := 42) (x := 0) m_55 rfl rfl rfl (ev_istore_n (pc' := 43) m_55 rfl rfl rfl rfl ?_)
    exact am_Ev.sub (L := [(0, .ref 28), (1, .int (l1)), (2, .int ((0 : Int32)))]) ⟨rfl, rfl, rfl, trivial⟩ (cD_readBlock_43_ok rc hrc tm_N l1 ((0 : Int32)) _ _ h)
  · replace h := Ok_t c4 h
    refine ev_iconst (pc' := 40) (x := 0) m_55 rfl rfl rfl ?_
    exact tr_rz m_55 rfl rfl (Or.inl rfl) (Ok_s h)
def cD_readBlock (rc : Nat → Int32 → ts → Option (Int32 × ts)) (l1 : Int32) (s : ts) : Option (Int32 × ts) := (if (gI s 107 0) = ((123 : Int32)) then (if l1 ≤ ((9 : Int32)) then cD_readBlock_27 rc l1 s else (cT_fail ((5 : Int32)) s).bind (fun x3 => some (x3.1, x3.2))) else cD_readBlock_27 rc l1 s)
set_option maxRecDepth 20000 in
theorem cD_readBlock_ok {e : Nat} (rc : Nat → Int32 → ts → Option (Int32 × ts)) (hrc : ∀ (w : Nat) (a : Int32) (s : ts) (Q : Int32 × ts → Prop), Ok (rc w a s) Q → am_Ev (e + 202) (clT_m w) (0, [(0, .ref 28), (1, .int a)], []) (lay s) (tq_i Q)) (l1 : Int32) (s : ts) (Q : Int32 × ts → Prop) (h : Ok (cD_readBlock rc l1 s) Q) : am_Ev (e + 202 + 1) 55 (0, [(0, .ref 28), (1, .int (l1))], []) (lay s) (tq_i Q) := by
  unfold cD_readBlock at h
  refine ev_aload_n (pc' := 1) m_55 rfl rfl rfl (tr_get (pc' := 4) (v := .ref 7) m_55 rfl rfl ts_o28 rfl rfl rfl (tr_get (pc' := 7) (v := .int (gI _ 107 _)) m_55 rfl rfl ts_o7 rfl rfl rfl (ev_bipush (pc' := 9) (x := 123) m_55 rfl rfl rfl ?_)))
  refine ev_icmp_ne (t := 27) (e := 12) m_55 rfl rfl rfl (fun c5 => ?_) (fun c5 => ?_)
  · replace h := Ok_f c5 h
    exact am_Ev.sub (L := [(0, .ref 28), (1, .int (l1))]) ⟨rfl, rfl, trivial⟩ (cD_readBlock_27_ok rc hrc l1 _ _ h)
  · replace h := Ok_t c5 h
    refine ev_iload_n (pc' := 13) m_55 rfl rfl rfl (ev_bipush (pc' := 15) (x := 9) m_55 rfl rfl rfl ?_)
    refine ev_icmp_le (t := 27) (e := 18) m_55 rfl rfl rfl (fun c4 => ?_) (fun c4 => ?_)
    · replace h := Ok_t c4 h
      exact am_Ev.sub (L := [(0, .ref 28), (1, .int (l1))]) ⟨rfl, rfl, trivial⟩ (cD_readBlock_27_ok rc hrc l1 _ _ h)
    · replace h := Ok_f c4 h
      refine ev_aload_n (pc' := 19) m_55 rfl rfl rfl (tr_get (pc' := 22) (v := .ref 7) m_55 rfl rfl ts_o28 rfl rfl rfl (ev_iconst (pc' := 23) (x := 5) m_55 rfl rfl rfl ?_))
      refine tr_cz (pc' := 26) m_55 rfl rfl rfl m_42 rfl rfl rfl rfl rfl (tr_rcv ts_o7 rfl) rfl rfl (cT_fail_ok ((5 : Int32)) _ _ (Ok_b h)) (fun x3_ x3_s h1 h => ?_)
      exact tr_rz m_55 rfl rfl h1 (Ok_s h)
def clT : Nat → Nat → Int32 → ts → Option (Int32 × ts)
  | 0, _, _, _ => none
  | n + 1, w, a, s => if w = 0 then cD_readBlock (clT n) a s else if w = 1 then cD_readStatement (clT n) a s else if w = 2 then cD_readIf (clT n) a s else if w = 3 then cD_readWhile (clT n) a s else none
theorem clT_ok {d : Nat} : ∀ (n w : Nat) (a : Int32) (s : ts) (Q : Int32 × ts → Prop), Ok (clT n w a s) Q → am_Ev (d + n + 202) (clT_m w) (0, [(0, .ref 28), (1, .int a)], []) (lay s) (tq_i Q) := by
  intro n
  induction n with
  | zero => intro w a s Q h; exact Ok_n h
  | succ n ih =>
    intro w a s Q h
    rw [clT.eq_2] at h
    show am_Ev (d + n + 202 + 1) _ _ _ _
    by_cases c0 : w = 0
    · subst c0
      replace h := Ok_t rfl h
      exact cD_readBlock_ok (e := d + n) (clT n) ih a s Q h
    replace h := Ok_f c0 h
    by_cases c1 : w = 1
    · subst c1
      replace h := Ok_t rfl h
      exact cD_readStatement_ok (e := d + n) (clT n) ih a s Q h
    replace h := Ok_f c1 h
    by_cases c2 : w = 2
    · subst c2
      replace h := Ok_t rfl h
      exact cD_readIf_ok (e := d + n) (clT n) ih a s Q h
    replace h := Ok_f c2 h
    by_cases c3 : w = 3
    · subst c3
      replace h := Ok_t rfl h
      exact cD_readWhile_ok (e := d + n) (clT n) ih a s Q h
    replace h := Ok_f c3 h
    exact Ok_n h
def cG_dropVariables (s : ts) : Option (ts) := some (wA (wI s 203 0 ((gI s 203 0) - (gA s 16 ((4 : Int32)).toNatClampNeg))) 16 ((4 : Int32)).toNatClampNeg ((0 : Int32)))
set_option maxRecDepth 20000 in
theorem cG_dropVariables_ok {d : Nat} (s : ts) (Q : ts → Prop) (h : Ok (cG_dropVariables s) Q) : am_Ev (d + 0) 84 (0, [(0, .ref 12)], []) (lay s) (tq_v Q) := by
  unfold cG_dropVariables at h
  refine ev_aload_n (pc' := 1) m_84 rfl rfl rfl (ev_dup (pc' := 2) m_84 rfl rfl rfl (tr_get (pc' := 5) (v := .int (gI _ 203 _)) m_84 rfl rfl ts_o12 rfl rfl rfl (ev_aload_n (pc' := 6) m_84 rfl rfl rfl (tr_get (pc' := 9) (v := .ref 16) m_84 rfl rfl ts_o12 rfl rfl rfl (ev_iconst (pc' := 10) (x := 4) m_84 rfl rfl rfl (tr_iald (pc' := 11) m_84 rfl rfl rfl rfl rfl (ev_isub (pc' := 12) m_84 rfl rfl ?_)))))))
  refine tr_pI (pc' := 15) (f := 203) m_84 rfl rfl rfl ts_o12 rfl rfl rfl rfl (ev_aload_n (pc' := 16) m_84 rfl rfl rfl (tr_get (pc' := 19) (v := .ref 16) m_84 rfl rfl ts_o12 rfl rfl rfl (ev_iconst (pc' := 20) (x := 4) m_84 rfl rfl rfl (ev_iconst (pc' := 21) (x := 0) m_84 rfl rfl rfl (tr_iast (pc' := 22) m_84 rfl rfl rfl rfl rfl ?_)))))
  exact tr_rv m_84 rfl rfl (Ok_s h)
def cD_readProcess_78 (l1 : Int32) (s : ts) : Option (Int32 × ts) := (if am_idx l1 12 = true then (cT_need ((41 : Int32)) (wA (wA s 19 l1.toNatClampNeg (gA s 16 ((4 : Int32)).toNatClampNeg)) 21 l1.toNatClampNeg (gI (wA s 19 l1.toNatClampNeg (gA s 16 ((4 : Int32)).toNatClampNeg)) 214 0))).bind (fun x4 => (if x4.1 = ((0 : Int32)) then some ((0 : Int32), x4.2) else (clT 60 0 ((0 : Int32)) x4.2).bind (fun x7 => (if x7.1 = ((0 : Int32)) then some ((0 : Int32), x7.2) else (cG_dropVariables (wA x7.2 20 l1.toNatClampNeg (gA x7.2 16 ((4 : Int32)).toNatClampNeg))).bind (fun s9 => (cG_addAct ((3 : Int32)) ((-2 : Int32)) (gI s9 217 0) s9).bind (fun x13 => some ((1 : Int32), x13.2))))))) else none)
set_option maxRecDepth 20000 in
theorem cD_readProcess_78_ok {d : Nat} (l1 : Int32) (s : ts) (Q : Int32 × ts → Prop) (h : Ok (cD_readProcess_78 l1 s) Q) : am_Ev (d + 263) 53 (78, [(0, .ref 28), (1, .int (l1))], []) (lay s) (tq_i Q) := by
  unfold cD_readProcess_78 at h
  refine ev_aload_n (pc' := 79) m_53 rfl rfl rfl (tr_get (pc' := 82) (v := .ref 12) m_53 rfl rfl ts_o28 rfl rfl rfl (tr_get (pc' := 85) (v := .ref 19) m_53 rfl rfl ts_o12 rfl rfl rfl (ev_iload_n (pc' := 86) m_53 rfl rfl rfl (ev_aload_n (pc' := 87) m_53 rfl rfl rfl (tr_get (pc' := 90) (v := .ref 12) m_53 rfl rfl ts_o28 rfl rfl rfl (tr_get (pc' := 93) (v := .ref 16) m_53 rfl rfl ts_o12 rfl rfl rfl (ev_iconst (pc' := 94) (x := 4) m_53 rfl rfl rfl ?_)))))))
  refine tr_iald (pc' := 95) m_53 rfl rfl rfl rfl rfl ?_
  obtain ⟨g1, h⟩ := Ok_g h
  refine tr_iast (pc' := 96) m_53 rfl rfl rfl g1 rfl (ev_aload_n (pc' := 97) m_53 rfl rfl rfl (tr_get (pc' := 100) (v := .ref 12) m_53 rfl rfl ts_o28 rfl rfl rfl (tr_get (pc' := 103) (v := .ref 21) m_53 rfl rfl ts_o12 rfl rfl rfl (ev_iload_n (pc' := 104) m_53 rfl rfl rfl (ev_aload_n (pc' := 105) m_53 rfl rfl rfl (tr_get (pc' := 108) (v := .ref 12) m_53 rfl rfl ts_o28 rfl rfl rfl (tr_get (pc' := 111) (v := .int (gI _ 214 _)) m_53 rfl rfl ts_o12 rfl rfl rfl ?_)))))))
  refine tr_iast (pc' := 112) m_53 rfl rfl rfl g1 rfl (ev_aload_n (pc' := 113) m_53 rfl rfl rfl (tr_get (pc' := 116) (v := .ref 7) m_53 rfl rfl ts_o28 rfl rfl rfl (ev_bipush (pc' := 118) (x := 41) m_53 rfl rfl rfl ?_)))
  refine tr_cz (pc' := 121) m_53 rfl rfl rfl m_49 rfl rfl rfl rfl rfl (tr_rcv ts_o7 rfl) rfl rfl (cT_need_ok ((41 : Int32)) _ _ (Ok_b h)) (fun x4_ x4_s h2 h => ?_)
  refine ev_if_eq (t := 132) (e := 124) m_53 rfl rfl rfl (fun c15 => ?_) (fun c15 => ?_)
  · replace h := Ok_t c15 h
    refine ev_iconst (pc' := 133) (x := 0) m_53 rfl rfl rfl ?_
    exact tr_rz m_53 rfl rfl (Or.inl rfl) (Ok_s h)
  · replace h := Ok_f c15 h
    refine ev_aload_n (pc' := 125) m_53 rfl rfl rfl (ev_iconst (pc' := 126) (x := 0) m_53 rfl rfl rfl ?_)
    refine tr_cz (pc' := 129) m_53 rfl rfl rfl m_55 rfl rfl rfl rfl rfl (tr_rcv ts_o28 rfl) rfl rfl (clT_ok 60 0 ((0 : Int32)) _ _ (Ok_b h)) (fun x7_ x7_s h5 h => ?_)
    refine ev_if_ne (t := 134) (e := 132) m_53 rfl rfl rfl (fun c14 => ?_) (fun c14 => ?_)
    · replace h := Ok_f c14 h
      refine ev_aload_n (pc' := 135) m_53 rfl rfl rfl (tr_get (pc' := 138) (v := .ref 12) m_53 rfl rfl ts_o28 rfl rfl rfl (tr_get (pc' := 141) (v := .ref 20) m_53 rfl rfl ts_o12 rfl rfl rfl (ev_iload_n (pc' := 142) m_53 rfl rfl rfl (ev_aload_n (pc' := 143) m_53 rfl rfl rfl (tr_get (pc' := 146) (v := .ref 12) m_53 rfl rfl ts_o28 rfl rfl rfl (tr_get (pc' := 149) (v := .ref 16) m_53 rfl rfl ts_o12 rfl rfl rfl (ev_iconst (pc' := 150) (x := 4) m_53 rfl rfl rfl ?_)))))))
      refine tr_iald (pc' := 151) m_53 rfl rfl rfl rfl rfl (tr_iast (pc' := 152) m_53 rfl rfl rfl g1 rfl (ev_aload_n (pc' := 153) m_53 rfl rfl rfl (tr_get (pc' := 156) (v := .ref 12) m_53 rfl rfl ts_o28 rfl rfl rfl ?_)))
      refine tr_cv (pc' := 159) m_53 rfl rfl rfl m_84 rfl rfl rfl rfl (tr_rcv ts_o12 rfl) rfl rfl (cG_dropVariables_ok _ _ (Ok_b h)) (fun s9 h => ?_)
      refine ev_aload_n (pc' := 160) m_53 rfl rfl rfl (tr_get (pc' := 163) (v := .ref 12) m_53 rfl rfl ts_o28 rfl rfl rfl (ev_iconst (pc' := 164) (x := 3) m_53 rfl rfl rfl (ev_bipush (pc' := 166) (x := -2) m_53 rfl rfl rfl (ev_aload_n (pc' := 167) m_53 rfl rfl rfl (tr_get (pc' := 170) (v := .ref 12) m_53 rfl rfl ts_o28 rfl rfl rfl (tr_get (pc' := 173) (v := .int (gI _ 217 _)) m_53 rfl rfl ts_o12 rfl rfl rfl ?_))))))
      refine tr_ci (pc' := 176) m_53 rfl rfl rfl m_74 rfl rfl rfl rfl (tr_rcv ts_o12 rfl) rfl rfl (cG_addAct_ok ((3 : Int32)) ((-2 : Int32)) (gI s9 217 0) _ _ (Ok_b h)) (fun x13_ x13_s h => ?_)
      refine ev_pop (pc' := 177) m_53 rfl rfl rfl (ev_iconst (pc' := 178) (x := 1) m_53 rfl rfl rfl ?_)
      exact tr_rz m_53 rfl rfl (Or.inr rfl) (Ok_s h)
    · replace h := Ok_t c14 h
      refine ev_iconst (pc' := 133) (x := 0) m_53 rfl rfl rfl ?_
      exact tr_rz m_53 rfl rfl (Or.inl rfl) (Ok_s h)
def cD_readProcess (s : ts) : Option (Int32 × ts) := (cT_advance s).bind (fun s2 => (cD_tell ((3 : Int32)) ((12 : Int32)) s2).bind (fun x6 => (if x6.1 = ((0 : Int32)) then some ((0 : Int32), x6.2) else (cG_isDefinition (gA s2 16 ((3 : Int32)).toNatClampNeg) x6.2).bind (fun x9 => (if x9.1 = ((0 : Int32)) then some ((0 : Int32), x9.2) else (cT_need ((40 : Int32)) x9.2).bind (fun x12 => (if x12.1 = ((0 : Int32)) then some ((0 : Int32), x12.2) else (if (gI x12.2 107 0) = ((41 : Int32)) then cD_readProcess_78 (gA s2 16 ((3 : Int32)).toNatClampNeg) x12.2 else (cD_readWords ((4 : Int32)) ((8 : Int32)) x12.2).bind (fun x15 => (if x15.1 = ((0 : Int32)) then some ((0 : Int32), x15.2) else cD_readProcess_78 (gA s2 16 ((3 : Int32)).toNatClampNeg) x15.2))))))))))
set_option maxRecDepth 20000 in
theorem cD_readProcess_ok {d : Nat} (s : ts) (Q : Int32 × ts → Prop) (h : Ok (cD_readProcess s) Q) : am_Ev (d + 263) 53 (0, [(0, .ref 28)], []) (lay s) (tq_i Q) := by
  unfold cD_readProcess at h
  refine ev_aload_n (pc' := 1) m_53 rfl rfl rfl (tr_get (pc' := 4) (v := .ref 7) m_53 rfl rfl ts_o28 rfl rfl rfl ?_)
  refine tr_cv (pc' := 7) m_53 rfl rfl rfl m_37 rfl rfl rfl rfl (tr_rcv ts_o7 rfl) rfl rfl (cT_advance_ok _ _ (Ok_b h)) (fun s2 h => ?_)
  refine ev_aload_n (pc' := 8) m_53 rfl rfl rfl (tr_get (pc' := 11) (v := .ref 12) m_53 rfl rfl ts_o28 rfl rfl rfl (tr_get (pc' := 14) (v := .ref 16) m_53 rfl rfl ts_o12 rfl rfl rfl (ev_iconst (pc' := 15) (x := 3) m_53 rfl rfl rfl (tr_iald (pc' := 16) m_53 rfl rfl rfl rfl rfl (ev_istore_n (pc' := 17) m_53 rfl rfl rfl rfl (ev_aload_n (pc' := 18) m_53 rfl rfl rfl (ev_iconst (pc' := 19) (x := 3) m_53 rfl rfl rfl ?_)))))))
  refine ev_bipush (pc' := 21) (x := 12) m_53 rfl rfl rfl ?_
  refine tr_cz (pc' := 24) m_53 rfl rfl rfl m_38 rfl rfl rfl rfl rfl (tr_rcv ts_o28 rfl) rfl rfl (cD_tell_ok ((3 : Int32)) ((12 : Int32)) _ _ (Ok_b h)) (fun x6_ x6_s h4 h => ?_)
  refine ev_if_eq (t := 38) (e := 27) m_53 rfl rfl rfl (fun c20 => ?_) (fun c20 => ?_)
  · replace h := Ok_t c20 h
    refine ev_iconst (pc' := 39) (x := 0) m_53 rfl rfl rfl ?_
    exact tr_rz m_53 rfl rfl (Or.inl rfl) (Ok_s h)
  · replace h := Ok_f c20 h
    refine ev_aload_n (pc' := 28) m_53 rfl rfl rfl (tr_get (pc' := 31) (v := .ref 12) m_53 rfl rfl ts_o28 rfl rfl rfl (ev_iload_n (pc' := 32) m_53 rfl rfl rfl ?_))
    refine tr_cz (pc' := 35) m_53 rfl rfl rfl m_54 rfl rfl rfl rfl rfl (tr_rcv ts_o12 rfl) rfl rfl (cG_isDefinition_ok (gA s2 16 ((3 : Int32)).toNatClampNeg) _ _ (Ok_b h)) (fun x9_ x9_s h7 h => ?_)
    refine ev_if_ne (t := 40) (e := 38) m_53 rfl rfl rfl (fun c19 => ?_) (fun c19 => ?_)
    · replace h := Ok_f c19 h
      refine ev_aload_n (pc' := 41) m_53 rfl rfl rfl (tr_get (pc' := 44) (v := .ref 7) m_53 rfl rfl ts_o28 rfl rfl rfl (ev_bipush (pc' := 46) (x := 40) m_53 rfl rfl rfl ?_))
      refine tr_cz (pc' := 49) m_53 rfl rfl rfl m_49 rfl rfl rfl rfl rfl (tr_rcv ts_o7 rfl) rfl rfl (cT_need_ok ((40 : Int32)) _ _ (Ok_b h)) (fun x12_ x12_s h10 h => ?_)
      refine ev_if_ne (t := 54) (e := 52) m_53 rfl rfl rfl (fun c18 => ?_) (fun c18 => ?_)
      · replace h := Ok_f c18 h
        refine ev_aload_n (pc' := 55) m_53 rfl rfl rfl (tr_get (pc' := 58) (v := .ref 7) m_53 rfl rfl ts_o28 rfl rfl rfl (tr_get (pc' := 61) (v := .int (gI _ 107 _)) m_53 rfl rfl ts_o7 rfl rfl rfl (ev_bipush (pc' := 63) (x := 41) m_53 rfl rfl rfl ?_)))
        refine ev_icmp_eq (t := 78) (e := 66) m_53 rfl rfl rfl (fun c17 => ?_) (fun c17 => ?_)
        · replace h := Ok_t c17 h
          exact am_Ev.sub (L := [(0, .ref 28), (1, .int (gA s2 16 ((3 : Int32)).toNatClampNeg))]) ⟨rfl, rfl, trivial⟩ (cD_readProcess_78_ok (gA s2 16 ((3 : Int32)).toNatClampNeg) _ _ h)
        · replace h := Ok_f c17 h
          refine ev_aload_n (pc' := 67) m_53 rfl rfl rfl (ev_iconst (pc' := 68) (x := 4) m_53 rfl rfl rfl (ev_bipush (pc' := 70) (x := 8) m_53 rfl rfl rfl ?_))
          refine tr_cz (pc' := 73) m_53 rfl rfl rfl m_52 rfl rfl rfl rfl rfl (tr_rcv ts_o28 rfl) rfl rfl (cD_readWords_ok ((4 : Int32)) ((8 : Int32)) _ _ (Ok_b h)) (fun x15_ x15_s h13 h => ?_)
          refine ev_if_ne (t := 78) (e := 76) m_53 rfl rfl rfl (fun c16 => ?_) (fun c16 => ?_)
          · replace h := Ok_f c16 h
            exact am_Ev.sub (L := [(0, .ref 28), (1, .int (gA s2 16 ((3 : Int32)).toNatClampNeg))]) ⟨rfl, rfl, trivial⟩ (cD_readProcess_78_ok (gA s2 16 ((3 : Int32)).toNatClampNeg) _ _ h)
          · replace h := Ok_t c16 h
            refine ev_iconst (pc' := 77) (x := 0) m_53 rfl rfl rfl ?_
            exact tr_rz m_53 rfl rfl (Or.inl rfl) (Ok_s h)
      · replace h := Ok_t c18 h
        refine ev_iconst (pc' := 53) (x := 0) m_53 rfl rfl rfl ?_
        exact tr_rz m_53 rfl rfl (Or.inl rfl) (Ok_s h)
    · replace h := Ok_t c19 h
      refine ev_iconst (pc' := 39) (x := 0) m_53 rfl rfl rfl ?_
      exact tr_rz m_53 rfl rfl (Or.inl rfl) (Ok_s h)
def cT_failAt (l1 : Int32) (l2 : Int32) (s : ts) : Option (Int32 × ts) := some ((0 : Int32), wI (wI s 108 0 l1) 109 0 l2)
set_option maxRecDepth 20000 in
theorem cT_failAt_ok {d : Nat} (l1 : Int32) (l2 : Int32) (s : ts) (Q : Int32 × ts → Prop) (h : Ok (cT_failAt l1 l2 s) Q) : am_Ev (d + 0) 86 (0, [(0, .ref 7), (1, .int (l1)), (2, .int (l2))], []) (lay s) (tq_i Q) := by
  unfold cT_failAt at h
  refine ev_aload_n (pc' := 1) m_86 rfl rfl rfl (ev_iload_n (pc' := 2) m_86 rfl rfl rfl (tr_pI (pc' := 5) (f := 108) m_86 rfl rfl rfl ts_o7 rfl rfl rfl rfl (ev_aload_n (pc' := 6) m_86 rfl rfl rfl (ev_iload_n (pc' := 7) m_86 rfl rfl rfl (tr_pI (pc' := 10) (f := 109) m_86 rfl rfl rfl ts_o7 rfl rfl rfl rfl (ev_iconst (pc' := 11) (x := 0) m_86 rfl rfl rfl ?_))))))
  exact tr_rz m_86 rfl rfl (Or.inl rfl) (Ok_s h)
def cD_closeStarts_59 (k2 : Int32 → ts → Option (Int32 × ts)) (l1 : Int32) (l2 : Int32) (t0 : Int32) (s : ts) : Option (Int32 × ts) := (if t0 = ((0 : Int32)) then (if am_idx l1 250 = true then (cT_failAt ((6 : Int32)) (gA s 30 l1.toNatClampNeg) s).bind (fun x8 => some (x8.1, x8.2)) else none) else (if am_idx l1 250 = true then (cG_aim (gA s 32 l1.toNatClampNeg) l2 s).bind (fun s3 => k2 (l1 + (1 : Int32)) s3) else none))
set_option maxRecDepth 20000 in
theorem cD_closeStarts_59_ok {d : Nat} (k2 : Int32 → ts → Option (Int32 × ts)) (hk2 : ∀ (l1 : Int32) (s : ts) (Q : Int32 × ts → Prop), Ok (k2 l1 s) Q → am_Ev (d + 1) 85 (2, [(0, .ref 28), (1, .int (l1))], []) (lay s) (tq_i Q)) (l1 : Int32) (l2 : Int32) (t0 : Int32) (s : ts) (Q : Int32 × ts → Prop) (h : Ok (cD_closeStarts_59 k2 l1 l2 t0 s) Q) : am_Ev (d + 1) 85 (59, [(0, .ref 28), (1, .int (l1)), (2, .int (l2))], [.int (t0)]) (lay s) (tq_i Q) := by
  unfold cD_closeStarts_59 at h
  refine ev_istore_n (pc' := 60) m_85 rfl rfl rfl rfl (ev_iload_n (pc' := 61) m_85 rfl rfl rfl ?_)
  refine ev_if_ne (t := 80) (e := 64) m_85 rfl rfl rfl (fun c9 => ?_) (fun c9 => ?_)
  · replace h := Ok_f c9 h
    refine ev_aload_n (pc' := 81) m_85 rfl rfl rfl (tr_get (pc' := 84) (v := .ref 12) m_85 rfl rfl ts_o28 rfl rfl rfl (ev_aload_n (pc' := 85) m_85 rfl rfl rfl (tr_get (pc' := 88) (v := .ref 32) m_85 rfl rfl ts_o28 rfl rfl rfl (ev_iload_n (pc' := 89) m_85 rfl rfl rfl ?_))))
    obtain ⟨g1, h⟩ := Ok_g h
    refine tr_iald (pc' := 90) m_85 rfl rfl rfl g1 rfl (ev_iload_n (pc' := 91) m_85 rfl rfl rfl ?_)
    refine tr_cv (pc' := 94) m_85 rfl rfl rfl m_76 rfl rfl rfl rfl (tr_rcv ts_o12 rfl) rfl rfl (cG_aim_ok (gA s 32 l1.toNatClampNeg) l2 _ _ (Ok_b h)) (fun s3 h => ?_)
    refine ev_iinc (pc' := 97) (z := 1) m_85 rfl rfl rfl rfl rfl rfl (ev_goto (pc' := 2) m_85 rfl rfl ?_)
    exact am_Ev.sub (L := [(0, .ref 28), (1, .int (l1 + (1 : Int32)))]) ⟨rfl, rfl, trivial⟩ (hk2 (l1 + (1 : Int32)) _ _ h)
  · replace h := Ok_t c9 h
    refine ev_aload_n (pc' := 65) m_85 rfl rfl rfl (tr_get (pc' := 68) (v := .ref 7) m_85 rfl rfl ts_o28 rfl rfl rfl (ev_bipush (pc' := 70) (x := 6) m_85 rfl rfl rfl (ev_aload_n (pc' := 71) m_85 rfl rfl rfl (tr_get (pc' := 74) (v := .ref 30) m_85 rfl rfl ts_o28 rfl rfl rfl (ev_iload_n (pc' := 75) m_85 rfl rfl rfl ?_)))))
    obtain ⟨g5, h⟩ := Ok_g h
    refine tr_iald (pc' := 76) m_85 rfl rfl rfl g5 rfl ?_
    refine tr_cz (pc' := 79) m_85 rfl rfl rfl m_86 rfl rfl rfl rfl rfl (tr_rcv ts_o7 rfl) rfl rfl (cT_failAt_ok ((6 : Int32)) (gA s 30 l1.toNatClampNeg) _ _ (Ok_b h)) (fun x8_ x8_s h6 h => ?_)
    exact tr_rz m_85 rfl rfl h6 (Ok_s h)
def cD_closeStarts_2_b (kk : Int32 → ts → Option (Int32 × ts)) (l1 : Int32) (s : ts) : Option (Int32 × ts) := (if (gI s 408 0) ≤ l1 then some ((1 : Int32), s) else (if am_idx l1 250 = true then (cG_find (gB s 29 l1.toNatClampNeg) ((3 : Int32)) s).bind (fun x4 => (cG_isDefinition x4.1 x4.2).bind (fun x7 => (if x7.1 = ((0 : Int32)) then cD_closeStarts_59 kk l1 x4.1 ((0 : Int32)) x7.2 else (if am_idx x4.1 12 = true then (if (gA x7.2 19 x4.1.toNatClampNeg) = (gA x7.2 31 l1.toNatClampNeg) then cD_closeStarts_59 kk l1 x4.1 ((1 : Int32)) x7.2 else cD_closeStarts_59 kk l1 x4.1 ((0 : Int32)) x7.2) else none)))) else none))
def cD_closeStarts_2 : Nat → Int32 → ts → Option (Int32 × ts)
  | 0, _, _ => none
  | n + 1, l1, s => cD_closeStarts_2_b (cD_closeStarts_2 n) l1 s
set_option maxRecDepth 20000 in
theorem cD_closeStarts_2_ok {d : Nat} : ∀ (n : Nat) (l1 : Int32) (s : ts) (Q : Int32 × ts → Prop), Ok (cD_closeStarts_2 n l1 s) Q → am_Ev (d + 1) 85 (2, [(0, .ref 28), (1, .int (l1))], []) (lay s) (tq_i Q) := by
  intro n
  induction n with
  | zero => intro l1 s Q h; exact Ok_n h
  | succ n ih =>
    intro l1 s Q h
    rw [cD_closeStarts_2.eq_2] at h
    unfold cD_closeStarts_2_b at h
    refine ev_iload_n (pc' := 3) m_85 rfl rfl rfl (ev_aload_n (pc' := 4) m_85 rfl rfl rfl (tr_get (pc' := 7) (v := .int (gI _ 408 _)) m_85 rfl rfl ts_o28 rfl rfl rfl ?_))
    refine ev_icmp_ge (t := 100) (e := 10) m_85 rfl rfl rfl (fun c11 => ?_) (fun c11 => ?_)
    · replace h := Ok_t c11 h
      refine ev_iconst (pc' := 101) (x := 1) m_85 rfl rfl rfl ?_
      exact tr_rz m_85 rfl rfl (Or.inr rfl) (Ok_s h)
    · replace h := Ok_f c11 h
      refine ev_aload_n (pc' := 11) m_85 rfl rfl rfl (tr_get (pc' := 14) (v := .ref 12) m_85 rfl rfl ts_o28 rfl rfl rfl (ev_aload_n (pc' := 15) m_85 rfl rfl rfl (tr_get (pc' := 18) (v := .ref 29) m_85 rfl rfl ts_o28 rfl rfl rfl (ev_iload_n (pc' := 19) m_85 rfl rfl rfl ?_))))
      obtain ⟨g1, h⟩ := Ok_g h
      refine tr_lald (pc' := 20) m_85 rfl rfl rfl g1 rfl (ev_iconst (pc' := 21) (x := 3) m_85 rfl rfl rfl ?_)
      refine tr_ci (pc' := 24) m_85 rfl rfl rfl m_81 rfl rfl rfl rfl (tr_rcv ts_o12 rfl) rfl rfl (cG_find_ok (gB s 29 l1.toNatClampNeg) ((3 : Int32)) _ _ (Ok_b h)) (fun x4_ x4_s h => ?_)
      refine ev_istore_n (pc' := 25) m_85 rfl rfl rfl rfl (ev_aload_n (pc' := 26) m_85 rfl rfl rfl (tr_get (pc' := 29) (v := .ref 12) m_85 rfl rfl ts_o28 rfl rfl rfl (ev_iload_n (pc' := 30) m_85 rfl rfl rfl ?_)))
      refine tr_cz (pc' := 33) m_85 rfl rfl rfl m_54 rfl rfl rfl rfl rfl (tr_rcv ts_o12 rfl) rfl rfl (cG_isDefinition_ok x4_ _ _ (Ok_b h)) (fun x7_ x7_s h5 h => ?_)
      refine ev_if_eq (t := 58) (e := 36) m_85 rfl rfl rfl (fun c10 => ?_) (fun c10 => ?_)
      · replace h := Ok_t c10 h
        refine ev_iconst (pc' := 59) (x := 0) m_85 rfl rfl rfl ?_
        exact am_Ev.sub (L := [(0, .ref 28), (1, .int (l1)), (2, .int (x4_))]) ⟨rfl, rfl, rfl, trivial⟩ (cD_closeStarts_59_ok (cD_closeStarts_2 n) ih l1 x4_ ((0 : Int32)) _ _ h)
      · replace h := Ok_f c10 h
        refine ev_aload_n (pc' := 37) m_85 rfl rfl rfl (tr_get (pc' := 40) (v := .ref 12) m_85 rfl rfl ts_o28 rfl rfl rfl (tr_get (pc' := 43) (v := .ref 19) m_85 rfl rfl ts_o12 rfl rfl rfl (ev_iload_n (pc' := 44) m_85 rfl rfl rfl ?_)))
        obtain ⟨g8, h⟩ := Ok_g h
        refine tr_iald (pc' := 45) m_85 rfl rfl rfl g8 rfl (ev_aload_n (pc' := 46) m_85 rfl rfl rfl (tr_get (pc' := 49) (v := .ref 31) m_85 rfl rfl ts_o28 rfl rfl rfl (ev_iload_n (pc' := 50) m_85 rfl rfl rfl (tr_iald (pc' := 51) m_85 rfl rfl rfl g1 rfl ?_))))
        refine ev_icmp_ne (t := 58) (e := 54) m_85 rfl rfl rfl (fun c9 => ?_) (fun c9 => ?_)
        · replace h := Ok_f c9 h
          refine ev_iconst (pc' := 59) (x := 0) m_85 rfl rfl rfl ?_
          exact am_Ev.sub (L := [(0, .ref 28), (1, .int (l1)), (2, .int (x4_))]) ⟨rfl, rfl, rfl, trivial⟩ (cD_closeStarts_59_ok (cD_closeStarts_2 n) ih l1 x4_ ((0 : Int32)) _ _ h)
        · replace h := Ok_t c9 h
          refine ev_iconst (pc' := 55) (x := 1) m_85 rfl rfl rfl (ev_goto (pc' := 59) m_85 rfl rfl ?_)
          exact am_Ev.sub (L := [(0, .ref 28), (1, .int (l1)), (2, .int (x4_))]) ⟨rfl, rfl, rfl, trivial⟩ (cD_closeStarts_59_ok (cD_closeStarts_2 n) ih l1 x4_ ((1 : Int32)) _ _ h)
def cD_closeStarts (s : ts) : Option (Int32 × ts) := cD_closeStarts_2 tm_N ((0 : Int32)) s
set_option maxRecDepth 20000 in
theorem cD_closeStarts_ok {d : Nat} (s : ts) (Q : Int32 × ts → Prop) (h : Ok (cD_closeStarts s) Q) : am_Ev (d + 1) 85 (0, [(0, .ref 28)], []) (lay s) (tq_i Q) := by
  unfold cD_closeStarts at h
  refine ev_iconst (pc' := 1) (x := 0) m_85 rfl rfl rfl (ev_istore_n (pc' := 2) m_85 rfl rfl rfl rfl ?_)
  exact am_Ev.sub (L := [(0, .ref 28), (1, .int ((0 : Int32)))]) ⟨rfl, rfl, trivial⟩ (cD_closeStarts_2_ok tm_N ((0 : Int32)) _ _ h)
def cD_readText_127 (l1 : Int32) (s : ts) : Option (Int32 × ts) := (if l1 = ((0 : Int32)) then some ((0 : Int32), s) else (cD_closeStarts s).bind (fun x3 => (if x3.1 = ((0 : Int32)) then some ((0 : Int32), x3.2) else some ((1 : Int32), x3.2))))
set_option maxRecDepth 20000 in
theorem cD_readText_127_ok {d : Nat} (l1 : Int32) (s : ts) (Q : Int32 × ts → Prop) (h : Ok (cD_readText_127 l1 s) Q) : am_Ev (d + 264) 34 (127, [(0, .ref 28), (1, .int (l1))], []) (lay s) (tq_i Q) := by
  unfold cD_readText_127 at h
  refine ev_iload_n (pc' := 128) m_34 rfl rfl rfl ?_
  refine ev_if_eq (t := 142) (e := 131) m_34 rfl rfl rfl (fun c5 => ?_) (fun c5 => ?_)
  · replace h := Ok_t c5 h
    refine ev_iconst (pc' := 143) (x := 0) m_34 rfl rfl rfl ?_
    exact tr_rz m_34 rfl rfl (Or.inl rfl) (Ok_s h)
  · replace h := Ok_f c5 h
    refine ev_aload_n (pc' := 132) m_34 rfl rfl rfl ?_
    refine tr_cz (pc' := 135) m_34 rfl rfl rfl m_85 rfl rfl rfl rfl rfl (tr_rcv ts_o28 rfl) rfl rfl (cD_closeStarts_ok _ _ (Ok_b h)) (fun x3_ x3_s h1 h => ?_)
    refine ev_if_eq (t := 142) (e := 138) m_34 rfl rfl rfl (fun c4 => ?_) (fun c4 => ?_)
    · replace h := Ok_t c4 h
      refine ev_iconst (pc' := 143) (x := 0) m_34 rfl rfl rfl ?_
      exact tr_rz m_34 rfl rfl (Or.inl rfl) (Ok_s h)
    · replace h := Ok_f c4 h
      refine ev_iconst (pc' := 139) (x := 1) m_34 rfl rfl rfl (ev_goto (pc' := 143) m_34 rfl rfl ?_)
      exact tr_rz m_34 rfl rfl (Or.inr rfl) (Ok_s h)
def cD_readText_21_b (kk : Int32 → Int32 → ts → Option (Int32 × ts)) (l1 : Int32) (l2 : Int32) (s : ts) : Option (Int32 × ts) := (if ((4001 : Int32)) ≤ l2 then cD_readText_127 l1 s else (if l1 = ((0 : Int32)) then cD_readText_127 l1 s else (if (gI s 107 0) = ((0 : Int32)) then cD_readText_127 l1 s else (if (gI s 107 0) = (512 : Int32) then (cD_readResource s).bind (fun x3 => kk x3.1 (l2 + (1 : Int32)) x3.2) else (if (gI s 107 0) = (513 : Int32) then (cD_readStore s).bind (fun x7 => kk x7.1 (l2 + (1 : Int32)) x7.2) else (if (gI s 107 0) = (514 : Int32) then (cD_readNumbers s).bind (fun x11 => kk x11.1 (l2 + (1 : Int32)) x11.2) else (if (gI s 107 0) = (515 : Int32) then (cD_readProcess s).bind (fun x15 => kk x15.1 (l2 + (1 : Int32)) x15.2) else (cT_fail ((2 : Int32)) s).bind (fun x19 => kk x19.1 (l2 + (1 : Int32)) x19.2))))))))
def cD_readText_21 : Nat → Int32 → Int32 → ts → Option (Int32 × ts)
  | 0, _, _, _ => none
  | n + 1, l1, l2, s => cD_readText_21_b (cD_readText_21 n) l1 l2 s
set_option maxRecDepth 20000 in
theorem cD_readText_21_ok {d : Nat} : ∀ (n : Nat) (l1 : Int32) (l2 : Int32) (s : ts) (Q : Int32 × ts → Prop), Ok (cD_readText_21 n l1 l2 s) Q → am_Ev (d + 264) 34 (21, [(0, .ref 28), (1, .int (l1)), (2, .int (l2))], []) (lay s) (tq_i Q) := by
  intro n
  induction n with
  | zero => intro l1 l2 s Q h; exact Ok_n h
  | succ n ih =>
    intro l1 l2 s Q h
    rw [cD_readText_21.eq_2] at h
    unfold cD_readText_21_b at h
    refine ev_iload_n (pc' := 22) m_34 rfl rfl rfl (ev_sipush (pc' := 25) (x := 4001) m_34 rfl rfl rfl ?_)
    refine ev_icmp_ge (t := 127) (e := 28) m_34 rfl rfl rfl (fun c22 => ?_) (fun c22 => ?_)
    · replace h := Ok_t c22 h
      exact am_Ev.sub (L := [(0, .ref 28), (1, .int (l1))]) ⟨rfl, rfl, trivial⟩ (cD_readText_127_ok l1 _ _ h)
    · replace h := Ok_f c22 h
      refine ev_iload_n (pc' := 29) m_34 rfl rfl rfl ?_
      refine ev_if_eq (t := 127) (e := 32) m_34 rfl rfl rfl (fun c21 => ?_) (fun c21 => ?_)
      · replace h := Ok_t c21 h
        exact am_Ev.sub (L := [(0, .ref 28), (1, .int (l1))]) ⟨rfl, rfl, trivial⟩ (cD_readText_127_ok l1 _ _ h)
      · replace h := Ok_f c21 h
        refine ev_aload_n (pc' := 33) m_34 rfl rfl rfl (tr_get (pc' := 36) (v := .ref 7) m_34 rfl rfl ts_o28 rfl rfl rfl (tr_get (pc' := 39) (v := .int (gI _ 107 _)) m_34 rfl rfl ts_o7 rfl rfl rfl ?_))
        refine ev_if_eq (t := 127) (e := 42) m_34 rfl rfl rfl (fun c20 => ?_) (fun c20 => ?_)
        · replace h := Ok_t c20 h
          exact am_Ev.sub (L := [(0, .ref 28), (1, .int (l1))]) ⟨rfl, rfl, trivial⟩ (cD_readText_127_ok l1 _ _ h)
        · replace h := Ok_f c20 h
          refine ev_aload_n (pc' := 43) m_34 rfl rfl rfl (tr_get (pc' := 46) (v := .ref 7) m_34 rfl rfl ts_o28 rfl rfl rfl (tr_get (pc' := 49) (v := .int (gI _ 107 _)) m_34 rfl rfl ts_o7 rfl rfl rfl ?_))
          by_cases c4 : (gI s 107 0) = (512 : Int32)
          · replace h := Ok_t c4 h
            refine ev_sw (pc' := 80) m_34 rfl (by rw [c4]; rfl) ?_
            refine ev_aload_n (pc' := 81) m_34 rfl rfl rfl ?_
            refine tr_cz (pc' := 84) m_34 rfl rfl rfl m_36 rfl rfl rfl rfl rfl (tr_rcv ts_o28 rfl) rfl rfl (cD_readResource_ok _ _ (Ok_b h)) (fun x3_ x3_s h1 h => ?_)
            refine ev_istore_n (pc' := 85) m_34 rfl rfl rfl rfl (ev_goto (pc' := 121) m_34 rfl rfl (ev_iinc (pc' := 124) (z := 1) m_34 rfl rfl rfl rfl rfl rfl (ev_goto (pc' := 21) m_34 rfl rfl ?_)))
            exact am_Ev.sub (L := [(0, .ref 28), (1, .int (x3_)), (2, .int (l2 + (1 : Int32)))]) ⟨rfl, rfl, rfl, trivial⟩ (ih x3_ (l2 + (1 : Int32)) _ _ h)
          replace h := Ok_f c4 h
          by_cases c8 : (gI s 107 0) = (513 : Int32)
          · replace h := Ok_t c8 h
            refine ev_sw (pc' := 88) m_34 rfl (by rw [c8]; rfl) ?_
            refine ev_aload_n (pc' := 89) m_34 rfl rfl rfl ?_
            refine tr_cz (pc' := 92) m_34 rfl rfl rfl m_50 rfl rfl rfl rfl rfl (tr_rcv ts_o28 rfl) rfl rfl (cD_readStore_ok _ _ (Ok_b h)) (fun x7_ x7_s h5 h => ?_)
            refine ev_istore_n (pc' := 93) m_34 rfl rfl rfl rfl (ev_goto (pc' := 121) m_34 rfl rfl (ev_iinc (pc' := 124) (z := 1) m_34 rfl rfl rfl rfl rfl rfl (ev_goto (pc' := 21) m_34 rfl rfl ?_)))
            exact am_Ev.sub (L := [(0, .ref 28), (1, .int (x7_)), (2, .int (l2 + (1 : Int32)))]) ⟨rfl, rfl, rfl, trivial⟩ (ih x7_ (l2 + (1 : Int32)) _ _ h)
          replace h := Ok_f c8 h
          by_cases c12 : (gI s 107 0) = (514 : Int32)
          · replace h := Ok_t c12 h
            refine ev_sw (pc' := 96) m_34 rfl (by rw [c12]; rfl) ?_
            refine ev_aload_n (pc' := 97) m_34 rfl rfl rfl ?_
            refine tr_cz (pc' := 100) m_34 rfl rfl rfl m_51 rfl rfl rfl rfl rfl (tr_rcv ts_o28 rfl) rfl rfl (cD_readNumbers_ok _ _ (Ok_b h)) (fun x11_ x11_s h9 h => ?_)
            refine ev_istore_n (pc' := 101) m_34 rfl rfl rfl rfl (ev_goto (pc' := 121) m_34 rfl rfl (ev_iinc (pc' := 124) (z := 1) m_34 rfl rfl rfl rfl rfl rfl (ev_goto (pc' := 21) m_34 rfl rfl ?_)))
            exact am_Ev.sub (L := [(0, .ref 28), (1, .int (x11_)), (2, .int (l2 + (1 : Int32)))]) ⟨rfl, rfl, rfl, trivial⟩ (ih x11_ (l2 + (1 : Int32)) _ _ h)
          replace h := Ok_f c12 h
          by_cases c16 : (gI s 107 0) = (515 : Int32)
          · replace h := Ok_t c16 h
            refine ev_sw (pc' := 104) m_34 rfl (by rw [c16]; rfl) ?_
            refine ev_aload_n (pc' := 105) m_34 rfl rfl rfl ?_
            refine tr_cz (pc' := 108) m_34 rfl rfl rfl m_53 rfl rfl rfl rfl rfl (tr_rcv ts_o28 rfl) rfl rfl (cD_readProcess_ok _ _ (Ok_b h)) (fun x15_ x15_s h13 h => ?_)
            refine ev_istore_n (pc' := 109) m_34 rfl rfl rfl rfl (ev_goto (pc' := 121) m_34 rfl rfl (ev_iinc (pc' := 124) (z := 1) m_34 rfl rfl rfl rfl rfl rfl (ev_goto (pc' := 21) m_34 rfl rfl ?_)))
            exact am_Ev.sub (L := [(0, .ref 28), (1, .int (x15_)), (2, .int (l2 + (1 : Int32)))]) ⟨rfl, rfl, rfl, trivial⟩ (ih x15_ (l2 + (1 : Int32)) _ _ h)
          replace h := Ok_f c16 h
          refine ev_tdef (t := 112) m_34 rfl (by have := ts_nel (k := 512) c4 (by decide); have := ts_nel (k := 513) c8 (by decide); have := ts_nel (k := 514) c12 (by decide); have := ts_nel (k := 515) c16 (by decide); omega) rfl ?_
          refine ev_aload_n (pc' := 113) m_34 rfl rfl rfl (tr_get (pc' := 116) (v := .ref 7) m_34 rfl rfl ts_o28 rfl rfl rfl (ev_iconst (pc' := 117) (x := 2) m_34 rfl rfl rfl ?_))
          refine tr_cz (pc' := 120) m_34 rfl rfl rfl m_42 rfl rfl rfl rfl rfl (tr_rcv ts_o7 rfl) rfl rfl (cT_fail_ok ((2 : Int32)) _ _ (Ok_b h)) (fun x19_ x19_s h17 h => ?_)
          refine ev_istore_n (pc' := 121) m_34 rfl rfl rfl rfl (ev_iinc (pc' := 124) (z := 1) m_34 rfl rfl rfl rfl rfl rfl (ev_goto (pc' := 21) m_34 rfl rfl ?_))
          exact am_Ev.sub (L := [(0, .ref 28), (1, .int (x19_)), (2, .int (l2 + (1 : Int32)))]) ⟨rfl, rfl, rfl, trivial⟩ (ih x19_ (l2 + (1 : Int32)) _ _ h)
def cD_readText (s : ts) : Option (Int32 × ts) := (cG_clear s).bind (fun s2 => cD_readText_21 tm_N ((1 : Int32)) ((0 : Int32)) (wI (wI s2 403 0 ((0 : Int32))) 408 0 ((0 : Int32))))
set_option maxRecDepth 20000 in
theorem cD_readText_ok {d : Nat} (s : ts) (Q : Int32 × ts → Prop) (h : Ok (cD_readText s) Q) : am_Ev (d + 264) 34 (0, [(0, .ref 28)], []) (lay s) (tq_i Q) := by
  unfold cD_readText at h
  refine ev_aload_n (pc' := 1) m_34 rfl rfl rfl (tr_get (pc' := 4) (v := .ref 12) m_34 rfl rfl ts_o28 rfl rfl rfl ?_)
  refine tr_cv (pc' := 7) m_34 rfl rfl rfl m_35 rfl rfl rfl rfl (tr_rcv ts_o12 rfl) rfl rfl (cG_clear_ok _ _ (Ok_b h)) (fun s2 h => ?_)
  refine ev_aload_n (pc' := 8) m_34 rfl rfl rfl (ev_iconst (pc' := 9) (x := 0) m_34 rfl rfl rfl (tr_pI (pc' := 12) (f := 403) m_34 rfl rfl rfl ts_o28 rfl rfl rfl rfl (ev_aload_n (pc' := 13) m_34 rfl rfl rfl (ev_iconst (pc' := 14) (x := 0) m_34 rfl rfl rfl (tr_pI (pc' := 17) (f := 408) m_34 rfl rfl rfl ts_o28 rfl rfl rfl rfl (ev_iconst (pc' := 18) (x := 1) m_34 rfl rfl rfl (ev_istore_n (pc' := 19) m_34 rfl rfl rfl rfl ?_)))))))
  refine ev_iconst (pc' := 20) (x := 0) m_34 rfl rfl rfl (ev_istore_n (pc' := 21) m_34 rfl rfl rfl rfl ?_)
  exact am_Ev.sub (L := [(0, .ref 28), (1, .int ((1 : Int32))), (2, .int ((0 : Int32)))]) ⟨rfl, rfl, rfl, trivial⟩ (cD_readText_21_ok tm_N ((1 : Int32)) ((0 : Int32)) _ _ h)
def cN_clear (l0 : Nat) (s : ts) : Option (ts) := (if l0 < 30 then some (wI (wR s 600 l0 none) 601 l0 ((0 : Int32))) else none)
set_option maxRecDepth 20000 in
theorem cN_clear_ok {d : Nat} (l0 : Nat) (s : ts) (Q : ts → Prop) (h : Ok (cN_clear l0 s) Q) : am_Ev (d + 0) 90 (0, [(0, .ref (pL l0))], []) (lay s) (tq_v Q) := by
  unfold cN_clear at h
  refine ev_aload_n (pc' := 1) m_90 rfl rfl rfl (ev_null (pc' := 2) m_90 rfl rfl ?_)
  obtain ⟨g1, h⟩ := Ok_g h
  refine tr_pN (pc' := 5) (f := 600) m_90 rfl rfl rfl (ts_obL g1) rfl rfl rfl rfl rfl (ev_aload_n (pc' := 6) m_90 rfl rfl rfl (ev_iconst (pc' := 7) (x := 0) m_90 rfl rfl rfl (tr_pI (pc' := 10) (f := 601) m_90 rfl rfl rfl (ts_obL g1) rfl rfl rfl rfl ?_)))
  exact tr_rv m_90 rfl rfl (Ok_s h)
def cK_open (l0 : Nat) (l1 : Int32) (l2 : Int32) (s : ts) : Option (ts) := (if l0 < 14 then (cN_clear (2 * l0) s).bind (fun s3 => (cN_clear (2 * l0 + 1) s3).bind (fun s6 => some (wJ (wJ (wJ (wI (wI (wI (wI (wI s6 703 l0 l1) 704 l0 l2) 705 l0 ((0 : Int32))) 706 l0 ((0 : Int32))) 707 l0 ((0 : Int32))) 708 l0 ((0 : Int64))) 709 l0 ((0 : Int64))) 710 l0 ((0 : Int64))))) else none)
set_option maxRecDepth 20000 in
theorem cK_open_ok {d : Nat} (l0 : Nat) (l1 : Int32) (l2 : Int32) (s : ts) (Q : ts → Prop) (h : Ok (cK_open l0 l1 l2 s) Q) : am_Ev (d + 1) 89 (0, [(0, .ref (pQ l0)), (1, .int (l1)), (2, .int (l2))], []) (lay s) (tq_v Q) := by
  unfold cK_open at h
  refine ev_aload_n (pc' := 1) m_89 rfl rfl rfl ?_
  obtain ⟨g1, h⟩ := Ok_g h
  refine tr_get (pc' := 4) (v := .ref (pL (2 * l0))) m_89 rfl rfl (ts_obQ g1) rfl rfl rfl ?_
  refine tr_cv (pc' := 7) m_89 rfl rfl rfl m_90 rfl rfl rfl rfl (tr_rcv (ts_obL (by have := g1; omega)) rfl) rfl rfl (cN_clear_ok (2 * l0) _ _ (Ok_b h)) (fun s3 h => ?_)
  refine ev_aload_n (pc' := 8) m_89 rfl rfl rfl (tr_get (pc' := 11) (v := .ref (pL (2 * l0 + 1))) m_89 rfl rfl (ts_obQ g1) rfl rfl rfl ?_)
  refine tr_cv (pc' := 14) m_89 rfl rfl rfl m_90 rfl rfl rfl rfl (tr_rcv (ts_obL (by have := g1; omega)) rfl) rfl rfl (cN_clear_ok (2 * l0 + 1) _ _ (Ok_b h)) (fun s6 h => ?_)
  refine ev_aload_n (pc' := 15) m_89 rfl rfl rfl (ev_iload_n (pc' := 16) m_89 rfl rfl rfl (tr_pI (pc' := 19) (f := 703) m_89 rfl rfl rfl (ts_obQ g1) rfl rfl rfl rfl (ev_aload_n (pc' := 20) m_89 rfl rfl rfl (ev_iload_n (pc' := 21) m_89 rfl rfl rfl (tr_pI (pc' := 24) (f := 704) m_89 rfl rfl rfl (ts_obQ g1) rfl rfl rfl rfl (ev_aload_n (pc' := 25) m_89 rfl rfl rfl (ev_iconst (pc' := 26) (x := 0) m_89 rfl rfl rfl ?_)))))))
  refine tr_pI (pc' := 29) (f := 705) m_89 rfl rfl rfl (ts_obQ g1) rfl rfl rfl rfl (ev_aload_n (pc' := 30) m_89 rfl rfl rfl (ev_iconst (pc' := 31) (x := 0) m_89 rfl rfl rfl (tr_pI (pc' := 34) (f := 706) m_89 rfl rfl rfl (ts_obQ g1) rfl rfl rfl rfl (ev_aload_n (pc' := 35) m_89 rfl rfl rfl (ev_iconst (pc' := 36) (x := 0) m_89 rfl rfl rfl (tr_pI (pc' := 39) (f := 707) m_89 rfl rfl rfl (ts_obQ g1) rfl rfl rfl rfl (ev_aload_n (pc' := 40) m_89 rfl rfl rfl ?_)))))))
  refine ev_lconst (pc' := 41) (u := 0) m_89 rfl rfl rfl (tr_pJ (pc' := 44) (f := 708) m_89 rfl rfl rfl (ts_obQ g1) rfl rfl rfl rfl (ev_aload_n (pc' := 45) m_89 rfl rfl rfl (ev_lconst (pc' := 46) (u := 0) m_89 rfl rfl rfl (tr_pJ (pc' := 49) (f := 709) m_89 rfl rfl rfl (ts_obQ g1) rfl rfl rfl rfl (ev_aload_n (pc' := 50) m_89 rfl rfl rfl (ev_lconst (pc' := 51) (u := 0) m_89 rfl rfl rfl (tr_pJ (pc' := 54) (f := 710) m_89 rfl rfl rfl (ts_obQ g1) rfl rfl rfl rfl ?_)))))))
  exact tr_rv m_89 rfl rfl (Ok_s h)
def cW_open_28_b (kk : Int32 → ts → Option (ts)) (l2 : Int32) (s : ts) : Option (ts) := (if ((14 : Int32)) ≤ l2 then some s else (if am_idx l2 14 = true then (cK_open l2.toNatClampNeg (gA s 17 l2.toNatClampNeg) (gA s 18 l2.toNatClampNeg) s).bind (fun s3 => kk (l2 + (1 : Int32)) s3) else none))
def cW_open_28 : Nat → Int32 → ts → Option (ts)
  | 0, _, _ => none
  | n + 1, l2, s => cW_open_28_b (cW_open_28 n) l2 s
set_option maxRecDepth 20000 in
theorem cW_open_28_ok {d : Nat} : ∀ (n : Nat) (l2 : Int32) (s : ts) (Q : ts → Prop), Ok (cW_open_28 n l2 s) Q → am_Ev (d + 2) 88 (28, [(0, .ref 35), (1, .ref 12), (2, .int (l2))], []) (lay s) (tq_v Q) := by
  intro n
  induction n with
  | zero => intro l2 s Q h; exact Ok_n h
  | succ n ih =>
    intro l2 s Q h
    rw [cW_open_28.eq_2] at h
    unfold cW_open_28_b at h
    refine ev_iload_n (pc' := 29) m_88 rfl rfl rfl (ev_bipush (pc' := 31) (x := 14) m_88 rfl rfl rfl ?_)
    refine ev_icmp_ge (t := 67) (e := 34) m_88 rfl rfl rfl (fun c5 => ?_) (fun c5 => ?_)
    · replace h := Ok_t c5 h
      exact tr_rv m_88 rfl rfl (Ok_s h)
    · replace h := Ok_f c5 h
      refine ev_aload_n (pc' := 35) m_88 rfl rfl rfl (tr_get (pc' := 38) (v := .ref 37) m_88 rfl rfl ts_o35 rfl rfl rfl (ev_iload_n (pc' := 39) m_88 rfl rfl rfl ?_))
      obtain ⟨g1, h⟩ := Ok_g h
      refine tr_qald (pc' := 40) m_88 rfl g1 rfl (ev_astore_n (pc' := 41) m_88 rfl rfl rfl rfl (ev_aload_n (pc' := 42) m_88 rfl rfl rfl (ev_nulN (e := 45) m_88 rfl rfl (ev_aload_n (pc' := 46) m_88 rfl rfl rfl (ev_aload_n (pc' := 47) m_88 rfl rfl rfl (tr_get (pc' := 50) (v := .ref 17) m_88 rfl rfl ts_o12 rfl rfl rfl (ev_iload_n (pc' := 51) m_88 rfl rfl rfl ?_)))))))
      refine tr_iald (pc' := 52) m_88 rfl rfl rfl g1 rfl (ev_aload_n (pc' := 53) m_88 rfl rfl rfl (tr_get (pc' := 56) (v := .ref 18) m_88 rfl rfl ts_o12 rfl rfl rfl (ev_iload_n (pc' := 57) m_88 rfl rfl rfl (tr_iald (pc' := 58) m_88 rfl rfl rfl g1 rfl ?_))))
      refine tr_cv (pc' := 61) m_88 rfl rfl rfl m_89 rfl rfl rfl rfl (tr_rcv (ts_obQ (am_idx_lt g1)) rfl) rfl rfl (cK_open_ok l2.toNatClampNeg (gA s 17 l2.toNatClampNeg) (gA s 18 l2.toNatClampNeg) _ _ (Ok_b h)) (fun s3 h => ?_)
      refine ev_iinc (pc' := 64) (z := 1) m_88 rfl rfl rfl rfl rfl rfl (ev_goto (pc' := 28) m_88 rfl rfl ?_)
      exact am_Ev.sub (L := [(0, .ref 35), (1, .ref 12), (2, .int (l2 + (1 : Int32)))]) ⟨rfl, rfl, rfl, trivial⟩ (ih (l2 + (1 : Int32)) _ _ h)
def cW_open_7_b (kk : Int32 → ts → Option (ts)) (l2 : Int32) (s : ts) : Option (ts) := (if ((16 : Int32)) ≤ l2 then cW_open_28 tm_N ((0 : Int32)) s else (if am_idx l2 16 = true then kk (l2 + (1 : Int32)) (wA s 36 l2.toNatClampNeg ((0 : Int32))) else none))
def cW_open_7 : Nat → Int32 → ts → Option (ts)
  | 0, _, _ => none
  | n + 1, l2, s => cW_open_7_b (cW_open_7 n) l2 s
set_option maxRecDepth 20000 in
theorem cW_open_7_ok {d : Nat} : ∀ (n : Nat) (l2 : Int32) (s : ts) (Q : ts → Prop), Ok (cW_open_7 n l2 s) Q → am_Ev (d + 2) 88 (7, [(0, .ref 35), (1, .ref 12), (2, .int (l2))], []) (lay s) (tq_v Q) := by
  intro n
  induction n with
  | zero => intro l2 s Q h; exact Ok_n h
  | succ n ih =>
    intro l2 s Q h
    rw [cW_open_7.eq_2] at h
    unfold cW_open_7_b at h
    refine ev_iload_n (pc' := 8) m_88 rfl rfl rfl (ev_bipush (pc' := 10) (x := 16) m_88 rfl rfl rfl ?_)
    refine ev_icmp_ge (t := 26) (e := 13) m_88 rfl rfl rfl (fun c2 => ?_) (fun c2 => ?_)
    · replace h := Ok_t c2 h
      refine ev_iconst (pc' := 27) (x := 0) m_88 rfl rfl rfl (ev_istore_n (pc' := 28) m_88 rfl rfl rfl rfl ?_)
      exact am_Ev.sub (L := [(0, .ref 35), (1, .ref 12), (2, .int ((0 : Int32)))]) ⟨rfl, rfl, rfl, trivial⟩ (cW_open_28_ok tm_N ((0 : Int32)) _ _ h)
    · replace h := Ok_f c2 h
      refine ev_aload_n (pc' := 14) m_88 rfl rfl rfl (tr_get (pc' := 17) (v := .ref 36) m_88 rfl rfl ts_o35 rfl rfl rfl (ev_iload_n (pc' := 18) m_88 rfl rfl rfl (ev_iconst (pc' := 19) (x := 0) m_88 rfl rfl rfl ?_)))
      obtain ⟨g1, h⟩ := Ok_g h
      refine tr_iast (pc' := 20) m_88 rfl rfl rfl g1 rfl (ev_iinc (pc' := 23) (z := 1) m_88 rfl rfl rfl rfl rfl rfl (ev_goto (pc' := 7) m_88 rfl rfl ?_))
      exact am_Ev.sub (L := [(0, .ref 35), (1, .ref 12), (2, .int (l2 + (1 : Int32)))]) ⟨rfl, rfl, rfl, trivial⟩ (ih (l2 + (1 : Int32)) _ _ h)
def cW_open (s : ts) : Option (ts) := cW_open_7 tm_N ((0 : Int32)) (wI s 800 0 ((0 : Int32)))
set_option maxRecDepth 20000 in
theorem cW_open_ok {d : Nat} (s : ts) (Q : ts → Prop) (h : Ok (cW_open s) Q) : am_Ev (d + 2) 88 (0, [(0, .ref 35), (1, .ref 12)], []) (lay s) (tq_v Q) := by
  unfold cW_open at h
  refine ev_aload_n (pc' := 1) m_88 rfl rfl rfl (ev_iconst (pc' := 2) (x := 0) m_88 rfl rfl rfl (tr_pI (pc' := 5) (f := 800) m_88 rfl rfl rfl ts_o35 rfl rfl rfl rfl (ev_iconst (pc' := 6) (x := 0) m_88 rfl rfl rfl (ev_istore_n (pc' := 7) m_88 rfl rfl rfl rfl ?_))))
  exact am_Ev.sub (L := [(0, .ref 35), (1, .ref 12), (2, .int ((0 : Int32)))]) ⟨rfl, rfl, rfl, trivial⟩ (cW_open_7_ok tm_N ((0 : Int32)) _ _ h)
def cO_clear (s : ts) : Option (ts) := (cN_clear 28 s).bind (fun s2 => (cN_clear 29 s2).bind (fun s5 => some (wI (wI (wI s5 904 0 ((0 : Int32))) 905 0 ((0 : Int32))) 906 0 ((0 : Int32)))))
set_option maxRecDepth 20000 in
theorem cO_clear_ok {d : Nat} (s : ts) (Q : ts → Prop) (h : Ok (cO_clear s) Q) : am_Ev (d + 1) 91 (0, [(0, .ref 81)], []) (lay s) (tq_v Q) := by
  unfold cO_clear at h
  refine ev_aload_n (pc' := 1) m_91 rfl rfl rfl (tr_get (pc' := 4) (v := .ref (pL 28)) m_91 rfl rfl ts_o81 rfl rfl rfl ?_)
  refine tr_cv (pc' := 7) m_91 rfl rfl rfl m_90 rfl rfl rfl rfl (tr_rcv (ts_obL (by decide)) rfl) rfl rfl (cN_clear_ok 28 _ _ (Ok_b h)) (fun s2 h => ?_)
  refine ev_aload_n (pc' := 8) m_91 rfl rfl rfl (tr_get (pc' := 11) (v := .ref (pL 29)) m_91 rfl rfl ts_o81 rfl rfl rfl ?_)
  refine tr_cv (pc' := 14) m_91 rfl rfl rfl m_90 rfl rfl rfl rfl (tr_rcv (ts_obL (by decide)) rfl) rfl rfl (cN_clear_ok 29 _ _ (Ok_b h)) (fun s5 h => ?_)
  refine ev_aload_n (pc' := 15) m_91 rfl rfl rfl (ev_iconst (pc' := 16) (x := 0) m_91 rfl rfl rfl (tr_pI (pc' := 19) (f := 904) m_91 rfl rfl rfl ts_o81 rfl rfl rfl rfl (ev_aload_n (pc' := 20) m_91 rfl rfl rfl (ev_iconst (pc' := 21) (x := 0) m_91 rfl rfl rfl (tr_pI (pc' := 24) (f := 905) m_91 rfl rfl rfl ts_o81 rfl rfl rfl rfl (ev_aload_n (pc' := 25) m_91 rfl rfl rfl (ev_iconst (pc' := 26) (x := 0) m_91 rfl rfl rfl ?_)))))))
  refine tr_pI (pc' := 29) (f := 906) m_91 rfl rfl rfl ts_o81 rfl rfl rfl rfl ?_
  exact tr_rv m_91 rfl rfl (Ok_s h)
def cH_open (s : ts) : Option (ts) := (cW_open s).bind (fun s2 => (cO_clear s2).bind (fun s5 => some (wI (wI (wI (wR s5 1003 0 none) 1004 0 ((0 : Int32))) 1005 0 ((0 : Int32))) 1008 0 ((0 : Int32)))))
set_option maxRecDepth 20000 in
theorem cH_open_ok {d : Nat} (s : ts) (Q : ts → Prop) (h : Ok (cH_open s) Q) : am_Ev (d + 3) 87 (0, [(0, .ref 34)], []) (lay s) (tq_v Q) := by
  unfold cH_open at h
  refine ev_aload_n (pc' := 1) m_87 rfl rfl rfl (tr_get (pc' := 4) (v := .ref 35) m_87 rfl rfl ts_o34 rfl rfl rfl (ev_aload_n (pc' := 5) m_87 rfl rfl rfl (tr_get (pc' := 8) (v := .ref 12) m_87 rfl rfl ts_o34 rfl rfl rfl ?_)))
  refine tr_cv (pc' := 11) m_87 rfl rfl rfl m_88 rfl rfl rfl rfl (tr_rcv ts_o35 rfl) rfl rfl (cW_open_ok _ _ (Ok_b h)) (fun s2 h => ?_)
  refine ev_aload_n (pc' := 12) m_87 rfl rfl rfl (tr_get (pc' := 15) (v := .ref 81) m_87 rfl rfl ts_o34 rfl rfl rfl ?_)
  refine tr_cv (pc' := 18) m_87 rfl rfl rfl m_91 rfl rfl rfl rfl (tr_rcv ts_o81 rfl) rfl rfl (cO_clear_ok _ _ (Ok_b h)) (fun s5 h => ?_)
  refine ev_aload_n (pc' := 19) m_87 rfl rfl rfl (ev_null (pc' := 20) m_87 rfl rfl (tr_pN (pc' := 23) (f := 1003) m_87 rfl rfl rfl ts_o34 rfl rfl rfl rfl rfl (ev_aload_n (pc' := 24) m_87 rfl rfl rfl (ev_iconst (pc' := 25) (x := 0) m_87 rfl rfl rfl (tr_pI (pc' := 28) (f := 1004) m_87 rfl rfl rfl ts_o34 rfl rfl rfl rfl (ev_aload_n (pc' := 29) m_87 rfl rfl rfl (ev_iconst (pc' := 30) (x := 0) m_87 rfl rfl rfl ?_)))))))
  refine tr_pI (pc' := 33) (f := 1005) m_87 rfl rfl rfl ts_o34 rfl rfl rfl rfl (ev_aload_n (pc' := 34) m_87 rfl rfl rfl (ev_iconst (pc' := 35) (x := 0) m_87 rfl rfl rfl (tr_pI (pc' := 38) (f := 1008) m_87 rfl rfl rfl ts_o34 rfl rfl rfl rfl ?_)))
  exact tr_rv m_87 rfl rfl (Ok_s h)
def cX_load (s : ts) : Option (Int32 × ts) := (cT_part (gI s 1 0) s).bind (fun s2 => (cD_readText (wI s2 1 0 ((0 : Int32)))).bind (fun x6 => (if (gI (wI x6.2 6 0 x6.1) 6 0) = ((0 : Int32)) then some (gI (wI x6.2 6 0 x6.1) 108 0, wI x6.2 6 0 x6.1) else (cH_open (wI x6.2 6 0 x6.1)).bind (fun s8 => some (gI s8 108 0, s8)))))
set_option maxRecDepth 20000 in
theorem cX_load_ok {d : Nat} (s : ts) (Q : Int32 × ts → Prop) (h : Ok (cX_load s) Q) : am_Ev (d + 265) 21 (0, [(0, .ref 5)], []) (lay s) (tq_i Q) := by
  unfold cX_load at h
  refine ev_aload_n (pc' := 1) m_21 rfl rfl rfl (tr_get (pc' := 4) (v := .ref 7) m_21 rfl rfl ts_o5 rfl rfl rfl (ev_aload_n (pc' := 5) m_21 rfl rfl rfl (tr_get (pc' := 8) (v := .ref 6) m_21 rfl rfl ts_o5 rfl rfl rfl (ev_aload_n (pc' := 9) m_21 rfl rfl rfl (tr_get (pc' := 12) (v := .int (gI _ 1 _)) m_21 rfl rfl ts_o5 rfl rfl rfl ?_)))))
  refine tr_cv (pc' := 15) m_21 rfl rfl rfl m_22 rfl rfl rfl rfl (tr_rcv ts_o7 rfl) rfl rfl (cT_part_ok (gI s 1 0) _ _ (Ok_b h)) (fun s2 h => ?_)
  refine ev_aload_n (pc' := 16) m_21 rfl rfl rfl (ev_iconst (pc' := 17) (x := 0) m_21 rfl rfl rfl (tr_pI (pc' := 20) (f := 1) m_21 rfl rfl rfl ts_o5 rfl rfl rfl rfl (ev_aload_n (pc' := 21) m_21 rfl rfl rfl (ev_aload_n (pc' := 22) m_21 rfl rfl rfl (tr_get (pc' := 25) (v := .ref 28) m_21 rfl rfl ts_o5 rfl rfl rfl ?_)))))
  refine tr_cz (pc' := 28) m_21 rfl rfl rfl m_34 rfl rfl rfl rfl rfl (tr_rcv ts_o28 rfl) rfl rfl (cD_readText_ok _ _ (Ok_b h)) (fun x6_ x6_s h4 h => ?_)
  refine tr_pZ (pc' := 31) (f := 6) m_21 rfl rfl rfl ts_o5 rfl rfl h4 rfl rfl (ev_aload_n (pc' := 32) m_21 rfl rfl rfl (tr_get (pc' := 35) (v := .int (gI _ 6 _)) m_21 rfl rfl ts_o5 rfl rfl rfl ?_))
  refine ev_if_eq (t := 45) (e := 38) m_21 rfl rfl rfl (fun c10 => ?_) (fun c10 => ?_)
  · replace h := Ok_t c10 h
    refine ev_aload_n (pc' := 46) m_21 rfl rfl rfl (tr_get (pc' := 49) (v := .ref 7) m_21 rfl rfl ts_o5 rfl rfl rfl (tr_get (pc' := 52) (v := .int (gI _ 108 _)) m_21 rfl rfl ts_o7 rfl rfl rfl ?_))
    exact tr_ri m_21 rfl rfl (Ok_s h)
  · replace h := Ok_f c10 h
    refine ev_aload_n (pc' := 39) m_21 rfl rfl rfl (tr_get (pc' := 42) (v := .ref 34) m_21 rfl rfl ts_o5 rfl rfl rfl ?_)
    refine tr_cv (pc' := 45) m_21 rfl rfl rfl m_87 rfl rfl rfl rfl (tr_rcv ts_o34 rfl) rfl rfl (cH_open_ok _ _ (Ok_b h)) (fun s8 h => ?_)
    refine ev_aload_n (pc' := 46) m_21 rfl rfl rfl (tr_get (pc' := 49) (v := .ref 7) m_21 rfl rfl ts_o5 rfl rfl rfl (tr_get (pc' := 52) (v := .int (gI _ 108 _)) m_21 rfl rfl ts_o7 rfl rfl rfl ?_))
    exact tr_ri m_21 rfl rfl (Ok_s h)
def cR_good (s : ts) : Option (Int32 × ts) := (if (gI s 1103 0) = ((0 : Int32)) then some ((1 : Int32), s) else some ((0 : Int32), s))
set_option maxRecDepth 20000 in
theorem cR_good_ok {d : Nat} (s : ts) (Q : Int32 × ts → Prop) (h : Ok (cR_good s) Q) : am_Ev (d + 0) 177 (0, [(0, .ref 87)], []) (lay s) (tq_i Q) := by
  unfold cR_good at h
  refine ev_aload_n (pc' := 1) m_177 rfl rfl rfl (tr_get (pc' := 4) (v := .int (gI _ 1103 _)) m_177 rfl rfl ts_o87 rfl rfl rfl ?_)
  refine ev_if_ne (t := 11) (e := 7) m_177 rfl rfl rfl (fun c1 => ?_) (fun c1 => ?_)
  · replace h := Ok_f c1 h
    refine ev_iconst (pc' := 12) (x := 0) m_177 rfl rfl rfl ?_
    exact tr_rz m_177 rfl rfl (Or.inl rfl) (Ok_s h)
  · replace h := Ok_t c1 h
    refine ev_iconst (pc' := 8) (x := 1) m_177 rfl rfl rfl (ev_goto (pc' := 12) m_177 rfl rfl ?_)
    exact tr_rz m_177 rfl rfl (Or.inr rfl) (Ok_s h)
def cR_peek (s : ts) : Option (Int32 × ts) := (if (gI s 1101 0) ≤ (gI s 1105 0) then some ((-1 : Int32), s) else (if am_idx (gI s 1105 0) 4000 = true then some (gA s 88 (gI s 1105 0).toNatClampNeg, s) else none))
set_option maxRecDepth 20000 in
theorem cR_peek_ok {d : Nat} (s : ts) (Q : Int32 × ts → Prop) (h : Ok (cR_peek s) Q) : am_Ev (d + 0) 178 (0, [(0, .ref 87)], []) (lay s) (tq_i Q) := by
  unfold cR_peek at h
  refine ev_aload_n (pc' := 1) m_178 rfl rfl rfl (tr_get (pc' := 4) (v := .int (gI _ 1105 _)) m_178 rfl rfl ts_o87 rfl rfl rfl (ev_aload_n (pc' := 5) m_178 rfl rfl rfl (tr_get (pc' := 8) (v := .int (gI _ 1101 _)) m_178 rfl rfl ts_o87 rfl rfl rfl ?_)))
  refine ev_icmp_ge (t := 23) (e := 11) m_178 rfl rfl rfl (fun c2 => ?_) (fun c2 => ?_)
  · replace h := Ok_t c2 h
    refine ev_iconst (pc' := 24) (x := -1) m_178 rfl rfl rfl ?_
    exact tr_ri m_178 rfl rfl (Ok_s h)
  · replace h := Ok_f c2 h
    refine ev_aload_n (pc' := 12) m_178 rfl rfl rfl (tr_get (pc' := 15) (v := .ref 88) m_178 rfl rfl ts_o87 rfl rfl rfl (ev_aload_n (pc' := 16) m_178 rfl rfl rfl (tr_get (pc' := 19) (v := .int (gI _ 1105 _)) m_178 rfl rfl ts_o87 rfl rfl rfl ?_)))
    obtain ⟨g1, h⟩ := Ok_g h
    refine tr_iald (pc' := 20) m_178 rfl rfl rfl g1 rfl (ev_goto (pc' := 24) m_178 rfl rfl ?_)
    exact tr_ri m_178 rfl rfl (Ok_s h)
def cR_isLetter_12 (l0 : Int32) (s : ts) : Option (Int32 × ts) := (if l0 < ((65 : Int32)) then some ((0 : Int32), s) else (if ((90 : Int32)) < l0 then some ((0 : Int32), s) else some ((1 : Int32), s)))
set_option maxRecDepth 20000 in
theorem cR_isLetter_12_ok {d : Nat} (l0 : Int32) (s : ts) (Q : Int32 × ts → Prop) (h : Ok (cR_isLetter_12 l0 s) Q) : am_Ev (d + 0) 179 (12, [(0, .int (l0))], []) (lay s) (tq_i Q) := by
  unfold cR_isLetter_12 at h
  refine ev_iload_n (pc' := 13) m_179 rfl rfl rfl (ev_bipush (pc' := 15) (x := 65) m_179 rfl rfl rfl ?_)
  refine ev_icmp_lt (t := 28) (e := 18) m_179 rfl rfl rfl (fun c2 => ?_) (fun c2 => ?_)
  · replace h := Ok_t c2 h
    refine ev_iconst (pc' := 29) (x := 0) m_179 rfl rfl rfl ?_
    exact tr_rz m_179 rfl rfl (Or.inl rfl) (Ok_s h)
  · replace h := Ok_f c2 h
    refine ev_iload_n (pc' := 19) m_179 rfl rfl rfl (ev_bipush (pc' := 21) (x := 90) m_179 rfl rfl rfl ?_)
    refine ev_icmp_gt (t := 28) (e := 24) m_179 rfl rfl rfl (fun c1 => ?_) (fun c1 => ?_)
    · replace h := Ok_t c1 h
      refine ev_iconst (pc' := 29) (x := 0) m_179 rfl rfl rfl ?_
      exact tr_rz m_179 rfl rfl (Or.inl rfl) (Ok_s h)
    · replace h := Ok_f c1 h
      refine ev_iconst (pc' := 25) (x := 1) m_179 rfl rfl rfl (ev_goto (pc' := 29) m_179 rfl rfl ?_)
      exact tr_rz m_179 rfl rfl (Or.inr rfl) (Ok_s h)
def cR_isLetter (l0 : Int32) (s : ts) : Option (Int32 × ts) := (if l0 < ((97 : Int32)) then cR_isLetter_12 l0 s else (if l0 ≤ ((122 : Int32)) then some ((1 : Int32), s) else cR_isLetter_12 l0 s))
set_option maxRecDepth 20000 in
theorem cR_isLetter_ok {d : Nat} (l0 : Int32) (s : ts) (Q : Int32 × ts → Prop) (h : Ok (cR_isLetter l0 s) Q) : am_Ev (d + 0) 179 (0, [(0, .int (l0))], []) (lay s) (tq_i Q) := by
  unfold cR_isLetter at h
  refine ev_iload_n (pc' := 1) m_179 rfl rfl rfl (ev_bipush (pc' := 3) (x := 97) m_179 rfl rfl rfl ?_)
  refine ev_icmp_lt (t := 12) (e := 6) m_179 rfl rfl rfl (fun c2 => ?_) (fun c2 => ?_)
  · replace h := Ok_t c2 h
    exact am_Ev.sub (L := [(0, .int (l0))]) ⟨rfl, trivial⟩ (cR_isLetter_12_ok l0 _ _ h)
  · replace h := Ok_f c2 h
    refine ev_iload_n (pc' := 7) m_179 rfl rfl rfl (ev_bipush (pc' := 9) (x := 122) m_179 rfl rfl rfl ?_)
    refine ev_icmp_le (t := 24) (e := 12) m_179 rfl rfl rfl (fun c1 => ?_) (fun c1 => ?_)
    · replace h := Ok_t c1 h
      refine ev_iconst (pc' := 25) (x := 1) m_179 rfl rfl rfl (ev_goto (pc' := 29) m_179 rfl rfl ?_)
      exact tr_rz m_179 rfl rfl (Or.inr rfl) (Ok_s h)
    · replace h := Ok_f c1 h
      exact am_Ev.sub (L := [(0, .int (l0))]) ⟨rfl, trivial⟩ (cR_isLetter_12_ok l0 _ _ h)
def cR_fail (l1 : Int32) (l2 : Int32) (s : ts) : Option (ts) := (if (gI s 1103 0) = ((0 : Int32)) then some (wI (wI s 1103 0 l1) 1104 0 l2) else some s)
set_option maxRecDepth 20000 in
theorem cR_fail_ok {d : Nat} (l1 : Int32) (l2 : Int32) (s : ts) (Q : ts → Prop) (h : Ok (cR_fail l1 l2 s) Q) : am_Ev (d + 0) 180 (0, [(0, .ref 87), (1, .int (l1)), (2, .int (l2))], []) (lay s) (tq_v Q) := by
  unfold cR_fail at h
  refine ev_aload_n (pc' := 1) m_180 rfl rfl rfl (tr_get (pc' := 4) (v := .int (gI _ 1103 _)) m_180 rfl rfl ts_o87 rfl rfl rfl ?_)
  refine ev_if_ne (t := 17) (e := 7) m_180 rfl rfl rfl (fun c1 => ?_) (fun c1 => ?_)
  · replace h := Ok_f c1 h
    exact tr_rv m_180 rfl rfl (Ok_s h)
  · replace h := Ok_t c1 h
    refine ev_aload_n (pc' := 8) m_180 rfl rfl rfl (ev_iload_n (pc' := 9) m_180 rfl rfl rfl (tr_pI (pc' := 12) (f := 1103) m_180 rfl rfl rfl ts_o87 rfl rfl rfl rfl (ev_aload_n (pc' := 13) m_180 rfl rfl rfl (ev_iload_n (pc' := 14) m_180 rfl rfl rfl (tr_pI (pc' := 17) (f := 1104) m_180 rfl rfl rfl ts_o87 rfl rfl rfl rfl ?_)))))
    exact tr_rv m_180 rfl rfl (Ok_s h)
def cR_skip_53_b (k2 : Int32 → ts → Option (ts)) (kk : Int32 → ts → Option (ts)) (l1 : Int32) (s : ts) : Option (ts) := (cR_peek s).bind (fun x3 => (if x3.1 = ((10 : Int32)) then k2 l1 x3.2 else (cR_peek x3.2).bind (fun x6 => (if x6.1 = ((-1 : Int32)) then k2 l1 x6.2 else kk l1 (wI x6.2 1105 0 ((gI x6.2 1105 0) + ((1 : Int32))))))))
def cR_skip_53 (k2 : Int32 → ts → Option (ts)) : Nat → Int32 → ts → Option (ts)
  | 0, _, _ => none
  | n + 1, l1, s => cR_skip_53_b k2 (cR_skip_53 k2 n) l1 s
set_option maxRecDepth 20000 in
theorem cR_skip_53_ok {d : Nat} (k2 : Int32 → ts → Option (ts)) (hk2 : ∀ (l1 : Int32) (s : ts) (Q : ts → Prop), Ok (k2 l1 s) Q → am_Ev (d + 1) 181 (2, [(0, .ref 87), (1, .int (l1))], []) (lay s) (tq_v Q)) : ∀ (n : Nat) (l1 : Int32) (s : ts) (Q : ts → Prop), Ok (cR_skip_53 k2 n l1 s) Q → am_Ev (d + 1) 181 (53, [(0, .ref 87), (1, .int (l1))], []) (lay s) (tq_v Q) := by
  intro n
  induction n with
  | zero => intro l1 s Q h; exact Ok_n h
  | succ n ih =>
    intro l1 s Q h
    rw [cR_skip_53.eq_2] at h
    unfold cR_skip_53_b at h
    refine ev_aload_n (pc' := 54) m_181 rfl rfl rfl ?_
    refine tr_ci (pc' := 57) m_181 rfl rfl rfl m_178 rfl rfl rfl rfl (tr_rcv ts_o87 rfl) rfl rfl (cR_peek_ok _ _ (Ok_b h)) (fun x3_ x3_s h => ?_)
    refine ev_bipush (pc' := 59) (x := 10) m_181 rfl rfl rfl ?_
    refine ev_icmp_eq (t := 97) (e := 62) m_181 rfl rfl rfl (fun c8 => ?_) (fun c8 => ?_)
    · replace h := Ok_t c8 h
      refine ev_goto (pc' := 2) m_181 rfl rfl ?_
      exact am_Ev.sub (L := [(0, .ref 87), (1, .int (l1))]) ⟨rfl, rfl, trivial⟩ (hk2 l1 _ _ h)
    · replace h := Ok_f c8 h
      refine ev_aload_n (pc' := 63) m_181 rfl rfl rfl ?_
      refine tr_ci (pc' := 66) m_181 rfl rfl rfl m_178 rfl rfl rfl rfl (tr_rcv ts_o87 rfl) rfl rfl (cR_peek_ok _ _ (Ok_b h)) (fun x6_ x6_s h => ?_)
      refine ev_iconst (pc' := 67) (x := -1) m_181 rfl rfl rfl ?_
      refine ev_icmp_eq (t := 97) (e := 70) m_181 rfl rfl rfl (fun c7 => ?_) (fun c7 => ?_)
      · replace h := Ok_t c7 h
        refine ev_goto (pc' := 2) m_181 rfl rfl ?_
        exact am_Ev.sub (L := [(0, .ref 87), (1, .int (l1))]) ⟨rfl, rfl, trivial⟩ (hk2 l1 _ _ h)
      · replace h := Ok_f c7 h
        refine ev_aload_n (pc' := 71) m_181 rfl rfl rfl (ev_dup (pc' := 72) m_181 rfl rfl rfl (tr_get (pc' := 75) (v := .int (gI _ 1105 _)) m_181 rfl rfl ts_o87 rfl rfl rfl (ev_iconst (pc' := 76) (x := 1) m_181 rfl rfl rfl (ev_iadd (pc' := 77) m_181 rfl rfl (tr_pI (pc' := 80) (f := 1105) m_181 rfl rfl rfl ts_o87 rfl rfl rfl rfl (ev_goto (pc' := 53) m_181 rfl rfl ?_))))))
        exact am_Ev.sub (L := [(0, .ref 87), (1, .int (l1))]) ⟨rfl, rfl, trivial⟩ (ih l1 _ _ h)
def cR_skip_46 (k2 : Int32 → ts → Option (ts)) (l2 : Int32) (t0 : Int32) (s : ts) : Option (ts) := (if l2 = ((35 : Int32)) then cR_skip_53 k2 tm_N t0 s else (if t0 = ((0 : Int32)) then k2 t0 s else k2 t0 (wI s 1105 0 ((gI s 1105 0) + ((1 : Int32))))))
set_option maxRecDepth 20000 in
theorem cR_skip_46_ok {d : Nat} (k2 : Int32 → ts → Option (ts)) (hk2 : ∀ (l1 : Int32) (s : ts) (Q : ts → Prop), Ok (k2 l1 s) Q → am_Ev (d + 1) 181 (2, [(0, .ref 87), (1, .int (l1))], []) (lay s) (tq_v Q)) (l2 : Int32) (t0 : Int32) (s : ts) (Q : ts → Prop) (h : Ok (cR_skip_46 k2 l2 t0 s) Q) : am_Ev (d + 1) 181 (46, [(0, .ref 87), (2, .int (l2))], [.int (t0)]) (lay s) (tq_v Q) := by
  unfold cR_skip_46 at h
  refine ev_istore_n (pc' := 47) m_181 rfl rfl rfl rfl (ev_iload_n (pc' := 48) m_181 rfl rfl rfl (ev_bipush (pc' := 50) (x := 35) m_181 rfl rfl rfl ?_))
  refine ev_icmp_ne (t := 83) (e := 53) m_181 rfl rfl rfl (fun c2 => ?_) (fun c2 => ?_)
  · replace h := Ok_f c2 h
    refine ev_iload_n (pc' := 84) m_181 rfl rfl rfl ?_
    refine ev_if_eq (t := 97) (e := 87) m_181 rfl rfl rfl (fun c1 => ?_) (fun c1 => ?_)
    · replace h := Ok_t c1 h
      refine ev_goto (pc' := 2) m_181 rfl rfl ?_
      exact am_Ev.sub (L := [(0, .ref 87), (1, .int (t0))]) ⟨rfl, rfl, trivial⟩ (hk2 t0 _ _ h)
    · replace h := Ok_f c1 h
      refine ev_aload_n (pc' := 88) m_181 rfl rfl rfl (ev_dup (pc' := 89) m_181 rfl rfl rfl (tr_get (pc' := 92) (v := .int (gI _ 1105 _)) m_181 rfl rfl ts_o87 rfl rfl rfl (ev_iconst (pc' := 93) (x := 1) m_181 rfl rfl rfl (ev_iadd (pc' := 94) m_181 rfl rfl (tr_pI (pc' := 97) (f := 1105) m_181 rfl rfl rfl ts_o87 rfl rfl rfl rfl (ev_goto (pc' := 2) m_181 rfl rfl ?_))))))
      exact am_Ev.sub (L := [(0, .ref 87), (1, .int (t0))]) ⟨rfl, rfl, trivial⟩ (hk2 t0 _ _ h)
  · replace h := Ok_t c2 h
    exact am_Ev.sub (L := [(0, .ref 87), (1, .int (t0))]) ⟨rfl, rfl, trivial⟩ (cR_skip_53_ok k2 hk2 tm_N t0 _ _ h)
def cR_skip_2_b (kk : Int32 → ts → Option (ts)) (l1 : Int32) (s : ts) : Option (ts) := (if l1 = ((0 : Int32)) then some s else (cR_peek s).bind (fun x3 => (if x3.1 = ((9 : Int32)) then cR_skip_46 kk x3.1 ((1 : Int32)) x3.2 else (if x3.1 = ((10 : Int32)) then cR_skip_46 kk x3.1 ((1 : Int32)) x3.2 else (if x3.1 = ((13 : Int32)) then cR_skip_46 kk x3.1 ((1 : Int32)) x3.2 else (if x3.1 = ((32 : Int32)) then cR_skip_46 kk x3.1 ((1 : Int32)) x3.2 else (if x3.1 = ((35 : Int32)) then cR_skip_46 kk x3.1 ((1 : Int32)) x3.2 else cR_skip_46 kk x3.1 ((0 : Int32)) x3.2)))))))
def cR_skip_2 : Nat → Int32 → ts → Option (ts)
  | 0, _, _ => none
  | n + 1, l1, s => cR_skip_2_b (cR_skip_2 n) l1 s
set_option maxRecDepth 20000 in
theorem cR_skip_2_ok {d : Nat} : ∀ (n : Nat) (l1 : Int32) (s : ts) (Q : ts → Prop), Ok (cR_skip_2 n l1 s) Q → am_Ev (d + 1) 181 (2, [(0, .ref 87), (1, .int (l1))], []) (lay s) (tq_v Q) := by
  intro n
  induction n with
  | zero => intro l1 s Q h; exact Ok_n h
  | succ n ih =>
    intro l1 s Q h
    rw [cR_skip_2.eq_2] at h
    unfold cR_skip_2_b at h
    refine ev_iload_n (pc' := 3) m_181 rfl rfl rfl ?_
    refine ev_if_eq (t := 100) (e := 6) m_181 rfl rfl rfl (fun c9 => ?_) (fun c9 => ?_)
    · replace h := Ok_t c9 h
      exact tr_rv m_181 rfl rfl (Ok_s h)
    · replace h := Ok_f c9 h
      refine ev_aload_n (pc' := 7) m_181 rfl rfl rfl ?_
      refine tr_ci (pc' := 10) m_181 rfl rfl rfl m_178 rfl rfl rfl rfl (tr_rcv ts_o87 rfl) rfl rfl (cR_peek_ok _ _ (Ok_b h)) (fun x3_ x3_s h => ?_)
      refine ev_istore_n (pc' := 11) m_181 rfl rfl rfl rfl (ev_iload_n (pc' := 12) m_181 rfl rfl rfl (ev_bipush (pc' := 14) (x := 9) m_181 rfl rfl rfl ?_))
      refine ev_icmp_eq (t := 41) (e := 17) m_181 rfl rfl rfl (fun c8 => ?_) (fun c8 => ?_)
      · replace h := Ok_t c8 h
        refine ev_iconst (pc' := 42) (x := 1) m_181 rfl rfl rfl (ev_goto (pc' := 46) m_181 rfl rfl ?_)
        exact am_Ev.sub (L := [(0, .ref 87), (2, .int (x3_))]) ⟨rfl, rfl, trivial⟩ (cR_skip_46_ok (cR_skip_2 n) ih x3_ ((1 : Int32)) _ _ h)
      · replace h := Ok_f c8 h
        refine ev_iload_n (pc' := 18) m_181 rfl rfl rfl (ev_bipush (pc' := 20) (x := 10) m_181 rfl rfl rfl ?_)
        refine ev_icmp_eq (t := 41) (e := 23) m_181 rfl rfl rfl (fun c7 => ?_) (fun c7 => ?_)
        · replace h := Ok_t c7 h
          refine ev_iconst (pc' := 42) (x := 1) m_181 rfl rfl rfl (ev_goto (pc' := 46) m_181 rfl rfl ?_)
          exact am_Ev.sub (L := [(0, .ref 87), (2, .int (x3_))]) ⟨rfl, rfl, trivial⟩ (cR_skip_46_ok (cR_skip_2 n) ih x3_ ((1 : Int32)) _ _ h)
        · replace h := Ok_f c7 h
          refine ev_iload_n (pc' := 24) m_181 rfl rfl rfl (ev_bipush (pc' := 26) (x := 13) m_181 rfl rfl rfl ?_)
          refine ev_icmp_eq (t := 41) (e := 29) m_181 rfl rfl rfl (fun c6 => ?_) (fun c6 => ?_)
          · replace h := Ok_t c6 h
            refine ev_iconst (pc' := 42) (x := 1) m_181 rfl rfl rfl (ev_goto (pc' := 46) m_181 rfl rfl ?_)
            exact am_Ev.sub (L := [(0, .ref 87), (2, .int (x3_))]) ⟨rfl, rfl, trivial⟩ (cR_skip_46_ok (cR_skip_2 n) ih x3_ ((1 : Int32)) _ _ h)
          · replace h := Ok_f c6 h
            refine ev_iload_n (pc' := 30) m_181 rfl rfl rfl (ev_bipush (pc' := 32) (x := 32) m_181 rfl rfl rfl ?_)
            refine ev_icmp_eq (t := 41) (e := 35) m_181 rfl rfl rfl (fun c5 => ?_) (fun c5 => ?_)
            · replace h := Ok_t c5 h
              refine ev_iconst (pc' := 42) (x := 1) m_181 rfl rfl rfl (ev_goto (pc' := 46) m_181 rfl rfl ?_)
              exact am_Ev.sub (L := [(0, .ref 87), (2, .int (x3_))]) ⟨rfl, rfl, trivial⟩ (cR_skip_46_ok (cR_skip_2 n) ih x3_ ((1 : Int32)) _ _ h)
            · replace h := Ok_f c5 h
              refine ev_iload_n (pc' := 36) m_181 rfl rfl rfl (ev_bipush (pc' := 38) (x := 35) m_181 rfl rfl rfl ?_)
              refine ev_icmp_ne (t := 45) (e := 41) m_181 rfl rfl rfl (fun c4 => ?_) (fun c4 => ?_)
              · replace h := Ok_f c4 h
                refine ev_iconst (pc' := 46) (x := 0) m_181 rfl rfl rfl ?_
                exact am_Ev.sub (L := [(0, .ref 87), (2, .int (x3_))]) ⟨rfl, rfl, trivial⟩ (cR_skip_46_ok (cR_skip_2 n) ih x3_ ((0 : Int32)) _ _ h)
              · replace h := Ok_t c4 h
                refine ev_iconst (pc' := 42) (x := 1) m_181 rfl rfl rfl (ev_goto (pc' := 46) m_181 rfl rfl ?_)
                exact am_Ev.sub (L := [(0, .ref 87), (2, .int (x3_))]) ⟨rfl, rfl, trivial⟩ (cR_skip_46_ok (cR_skip_2 n) ih x3_ ((1 : Int32)) _ _ h)
def cR_skip (s : ts) : Option (ts) := cR_skip_2 tm_N ((1 : Int32)) s
set_option maxRecDepth 20000 in
theorem cR_skip_ok {d : Nat} (s : ts) (Q : ts → Prop) (h : Ok (cR_skip s) Q) : am_Ev (d + 1) 181 (0, [(0, .ref 87)], []) (lay s) (tq_v Q) := by
  unfold cR_skip at h
  refine ev_iconst (pc' := 1) (x := 1) m_181 rfl rfl rfl (ev_istore_n (pc' := 2) m_181 rfl rfl rfl rfl ?_)
  exact am_Ev.sub (L := [(0, .ref 87), (1, .int ((1 : Int32)))]) ⟨rfl, rfl, trivial⟩ (cR_skip_2_ok tm_N ((1 : Int32)) _ _ h)
def cR_isDigit (l0 : Int32) (s : ts) : Option (Int32 × ts) := (if l0 < ((48 : Int32)) then some ((0 : Int32), s) else (if ((57 : Int32)) < l0 then some ((0 : Int32), s) else some ((1 : Int32), s)))
set_option maxRecDepth 20000 in
theorem cR_isDigit_ok {d : Nat} (l0 : Int32) (s : ts) (Q : Int32 × ts → Prop) (h : Ok (cR_isDigit l0 s) Q) : am_Ev (d + 0) 182 (0, [(0, .int (l0))], []) (lay s) (tq_i Q) := by
  unfold cR_isDigit at h
  refine ev_iload_n (pc' := 1) m_182 rfl rfl rfl (ev_bipush (pc' := 3) (x := 48) m_182 rfl rfl rfl ?_)
  refine ev_icmp_lt (t := 16) (e := 6) m_182 rfl rfl rfl (fun c2 => ?_) (fun c2 => ?_)
  · replace h := Ok_t c2 h
    refine ev_iconst (pc' := 17) (x := 0) m_182 rfl rfl rfl ?_
    exact tr_rz m_182 rfl rfl (Or.inl rfl) (Ok_s h)
  · replace h := Ok_f c2 h
    refine ev_iload_n (pc' := 7) m_182 rfl rfl rfl (ev_bipush (pc' := 9) (x := 57) m_182 rfl rfl rfl ?_)
    refine ev_icmp_gt (t := 16) (e := 12) m_182 rfl rfl rfl (fun c1 => ?_) (fun c1 => ?_)
    · replace h := Ok_t c1 h
      refine ev_iconst (pc' := 17) (x := 0) m_182 rfl rfl rfl ?_
      exact tr_rz m_182 rfl rfl (Or.inl rfl) (Ok_s h)
    · replace h := Ok_f c1 h
      refine ev_iconst (pc' := 13) (x := 1) m_182 rfl rfl rfl (ev_goto (pc' := 17) m_182 rfl rfl ?_)
      exact tr_rz m_182 rfl rfl (Or.inr rfl) (Ok_s h)
def cR_need (l1 : Int32) (l2 : Int32) (s : ts) : Option (ts) := (if l1 = ((0 : Int32)) then (cR_fail l2 (gI s 1107 0) s).bind (fun s2 => some s2) else some s)
set_option maxRecDepth 20000 in
theorem cR_need_ok {d : Nat} (l1 : Int32) (l2 : Int32) (s : ts) (Q : ts → Prop) (h : Ok (cR_need l1 l2 s) Q) : am_Ev (d + 1) 183 (0, [(0, .ref 87), (1, .int (l1)), (2, .int (l2))], []) (lay s) (tq_v Q) := by
  unfold cR_need at h
  refine ev_iload_n (pc' := 1) m_183 rfl rfl rfl ?_
  refine ev_if_ne (t := 13) (e := 4) m_183 rfl rfl rfl (fun c4 => ?_) (fun c4 => ?_)
  · replace h := Ok_f c4 h
    exact tr_rv m_183 rfl rfl (Ok_s h)
  · replace h := Ok_t c4 h
    refine ev_aload_n (pc' := 5) m_183 rfl rfl rfl (ev_iload_n (pc' := 6) m_183 rfl rfl rfl (ev_aload_n (pc' := 7) m_183 rfl rfl rfl (tr_get (pc' := 10) (v := .int (gI _ 1107 _)) m_183 rfl rfl ts_o87 rfl rfl rfl ?_)))
    refine tr_cv (pc' := 13) m_183 rfl rfl rfl m_180 rfl rfl rfl rfl (tr_rcv ts_o87 rfl) rfl rfl (cR_fail_ok l2 (gI s 1107 0) _ _ (Ok_b h)) (fun s2 h => ?_)
    exact tr_rv m_183 rfl rfl (Ok_s h)
