/-! THE METHODS AS FUNCTIONS, printed by wip/tools/decomp.py; the machine does what they say. -/
def cR_takePlain_47 (t1 : Int32) (s : ts) : Option (ts) := (cR_add t1 ((0 : Int32)) s).bind (fun x3 => some x3.2)
set_option maxRecDepth 20000 in
theorem cR_takePlain_47_ok {d : Nat} (t1 : Int32) (s : ts) (Q : ts → Prop) (h : Ok (cR_takePlain_47 t1 s) Q) : am_Ev (d + 4) 208 (47, [], [.int (t1), .ref 87]) (lay s) (tq_v Q) := by
  unfold cR_takePlain_47 at h
  refine ev_iconst (pc' := 48) (x := 0) m_208 rfl rfl rfl ?_
  refine tr_ci (pc' := 51) m_208 rfl rfl rfl m_209 rfl rfl rfl rfl (tr_rcv ts_o87 rfl) rfl rfl (cR_add_ok t1 ((0 : Int32)) _ _ (Ok_b h)) (fun x3_ x3_s h => ?_)
  refine ev_istore_n (pc' := 52) m_208 rfl rfl rfl rfl (ev_goto (pc' := 219) m_208 rfl rfl ?_)
  exact tr_rv m_208 rfl rfl (Ok_s h)
def cR_takePlain_35 (l1 : Int32) (s : ts) : Option (ts) := (if l1 = ((19 : Int32)) then cR_takePlain_47 ((4 : Int32)) s else cR_takePlain_47 ((5 : Int32)) s)
set_option maxRecDepth 20000 in
theorem cR_takePlain_35_ok {d : Nat} (l1 : Int32) (s : ts) (Q : ts → Prop) (h : Ok (cR_takePlain_35 l1 s) Q) : am_Ev (d + 4) 208 (35, [(0, .ref 87), (1, .int (l1))], []) (lay s) (tq_v Q) := by
  unfold cR_takePlain_35 at h
  refine ev_aload_n (pc' := 36) m_208 rfl rfl rfl (ev_iload_n (pc' := 37) m_208 rfl rfl rfl (ev_bipush (pc' := 39) (x := 19) m_208 rfl rfl rfl ?_))
  refine ev_icmp_ne (t := 46) (e := 42) m_208 rfl rfl rfl (fun c1 => ?_) (fun c1 => ?_)
  · replace h := Ok_f c1 h
    refine ev_iconst (pc' := 47) (x := 5) m_208 rfl rfl rfl ?_
    exact am_Ev.sub (L := []) trivial (cR_takePlain_47_ok ((5 : Int32)) _ _ h)
  · replace h := Ok_t c1 h
    refine ev_iconst (pc' := 43) (x := 4) m_208 rfl rfl rfl (ev_goto (pc' := 47) m_208 rfl rfl ?_)
    exact am_Ev.sub (L := []) trivial (cR_takePlain_47_ok ((4 : Int32)) _ _ h)
def cR_takePlain_171 (t1 : Int32) (t2 : Int32) (s : ts) : Option (ts) := (cR_add t1 t2 s).bind (fun x3 => some x3.2)
set_option maxRecDepth 20000 in
theorem cR_takePlain_171_ok {d : Nat} (t1 : Int32) (t2 : Int32) (s : ts) (Q : ts → Prop) (h : Ok (cR_takePlain_171 t1 t2 s) Q) : am_Ev (d + 4) 208 (171, [], [.int (t2), .int (t1), .ref 87]) (lay s) (tq_v Q) := by
  unfold cR_takePlain_171 at h
  refine tr_ci (pc' := 174) m_208 rfl rfl rfl m_209 rfl rfl rfl rfl (tr_rcv ts_o87 rfl) rfl rfl (cR_add_ok t1 t2 _ _ (Ok_b h)) (fun x3_ x3_s h => ?_)
  refine ev_istore_n (pc' := 175) m_208 rfl rfl rfl rfl (ev_goto (pc' := 219) m_208 rfl rfl ?_)
  exact tr_rv m_208 rfl rfl (Ok_s h)
def cR_takePlain_157 (l3 : Int32) (l4 : Int32) (t1 : Int32) (s : ts) : Option (ts) := (if l3 = ((-1 : Int32)) then cR_takePlain_171 t1 (((8 : Int32)) + l4) s else cR_takePlain_171 t1 l3 s)
set_option maxRecDepth 20000 in
theorem cR_takePlain_157_ok {d : Nat} (l3 : Int32) (l4 : Int32) (t1 : Int32) (s : ts) (Q : ts → Prop) (h : Ok (cR_takePlain_157 l3 l4 t1 s) Q) : am_Ev (d + 4) 208 (157, [(3, .int (l3)), (4, .int (l4))], [.int (t1), .ref 87]) (lay s) (tq_v Q) := by
  unfold cR_takePlain_157 at h
  refine ev_iload_n (pc' := 158) m_208 rfl rfl rfl (ev_iconst (pc' := 159) (x := -1) m_208 rfl rfl rfl ?_)
  refine ev_icmp_eq (t := 166) (e := 162) m_208 rfl rfl rfl (fun c1 => ?_) (fun c1 => ?_)
  · replace h := Ok_t c1 h
    refine ev_bipush (pc' := 168) (x := 8) m_208 rfl rfl rfl (ev_iload (pc' := 170) m_208 rfl rfl rfl (ev_iadd (pc' := 171) m_208 rfl rfl ?_))
    exact am_Ev.sub (L := []) trivial (cR_takePlain_171_ok t1 (((8 : Int32)) + l4) _ _ h)
  · replace h := Ok_f c1 h
    refine ev_iload_n (pc' := 163) m_208 rfl rfl rfl (ev_goto (pc' := 171) m_208 rfl rfl ?_)
    exact am_Ev.sub (L := []) trivial (cR_takePlain_171_ok t1 l3 _ _ h)
def cR_takePlain_143 (l1 : Int32) (l3 : Int32) (l4 : Int32) (s : ts) : Option (ts) := (if l1 = ((22 : Int32)) then cR_takePlain_157 l3 l4 ((7 : Int32)) s else cR_takePlain_157 l3 l4 ((8 : Int32)) s)
set_option maxRecDepth 20000 in
theorem cR_takePlain_143_ok {d : Nat} (l1 : Int32) (l3 : Int32) (l4 : Int32) (s : ts) (Q : ts → Prop) (h : Ok (cR_takePlain_143 l1 l3 l4 s) Q) : am_Ev (d + 4) 208 (143, [(0, .ref 87), (1, .int (l1)), (3, .int (l3)), (4, .int (l4))], []) (lay s) (tq_v Q) := by
  unfold cR_takePlain_143 at h
  refine ev_aload_n (pc' := 144) m_208 rfl rfl rfl (ev_iload_n (pc' := 145) m_208 rfl rfl rfl (ev_bipush (pc' := 147) (x := 22) m_208 rfl rfl rfl ?_))
  refine ev_icmp_ne (t := 155) (e := 150) m_208 rfl rfl rfl (fun c1 => ?_) (fun c1 => ?_)
  · replace h := Ok_f c1 h
    refine ev_bipush (pc' := 157) (x := 8) m_208 rfl rfl rfl ?_
    exact am_Ev.sub (L := [(3, .int (l3)), (4, .int (l4))]) ⟨rfl, rfl, trivial⟩ (cR_takePlain_157_ok l3 l4 ((8 : Int32)) _ _ h)
  · replace h := Ok_t c1 h
    refine ev_bipush (pc' := 152) (x := 7) m_208 rfl rfl rfl (ev_goto (pc' := 157) m_208 rfl rfl ?_)
    exact am_Ev.sub (L := [(3, .int (l3)), (4, .int (l4))]) ⟨rfl, rfl, trivial⟩ (cR_takePlain_157_ok l3 l4 ((7 : Int32)) _ _ h)
def cR_takePlain_139 (l1 : Int32) (l3 : Int32) (l4 : Int32) (t1 : Int32) (s : ts) : Option (ts) := (cR_need t1 ((4 : Int32)) s).bind (fun s2 => cR_takePlain_143 l1 l3 l4 s2)
set_option maxRecDepth 20000 in
theorem cR_takePlain_139_ok {d : Nat} (l1 : Int32) (l3 : Int32) (l4 : Int32) (t1 : Int32) (s : ts) (Q : ts → Prop) (h : Ok (cR_takePlain_139 l1 l3 l4 t1 s) Q) : am_Ev (d + 4) 208 (139, [(0, .ref 87), (1, .int (l1)), (3, .int (l3)), (4, .int (l4))], [.int (t1), .ref 87]) (lay s) (tq_v Q) := by
  unfold cR_takePlain_139 at h
  refine ev_iconst (pc' := 140) (x := 4) m_208 rfl rfl rfl ?_
  refine tr_cv (pc' := 143) m_208 rfl rfl rfl m_183 rfl rfl rfl rfl (tr_rcv ts_o87 rfl) rfl rfl (cR_need_ok t1 ((4 : Int32)) _ _ (Ok_b h)) (fun s2 h => ?_)
  exact am_Ev.sub (L := [(0, .ref 87), (1, .int (l1)), (3, .int (l3)), (4, .int (l4))]) ⟨rfl, rfl, rfl, rfl, trivial⟩ (cR_takePlain_143_ok l1 l3 l4 _ _ h)
def cR_takePlain_96 (l1 : Int32) (s : ts) : Option (ts) := (cR_findResource (gJ s 1108 0) s).bind (fun x3 => (cR_findStore (gJ x3.2 1108 0) x3.2).bind (fun x6 => (cR_good x6.2).bind (fun x9 => (if x9.1 = ((0 : Int32)) then cR_takePlain_143 l1 x3.1 x6.1 x9.2 else (if x3.1 = ((-1 : Int32)) then (if x6.1 = ((-1 : Int32)) then cR_takePlain_139 l1 x3.1 x6.1 ((0 : Int32)) x9.2 else cR_takePlain_139 l1 x3.1 x6.1 ((1 : Int32)) x9.2) else cR_takePlain_139 l1 x3.1 x6.1 ((1 : Int32)) x9.2)))))
set_option maxRecDepth 20000 in
theorem cR_takePlain_96_ok {d : Nat} (l1 : Int32) (s : ts) (Q : ts → Prop) (h : Ok (cR_takePlain_96 l1 s) Q) : am_Ev (d + 4) 208 (96, [(0, .ref 87), (1, .int (l1))], []) (lay s) (tq_v Q) := by
  unfold cR_takePlain_96 at h
  refine ev_aload_n (pc' := 97) m_208 rfl rfl rfl (ev_aload_n (pc' := 98) m_208 rfl rfl rfl (tr_get (pc' := 101) (v := .long (gJ _ 1108 _)) m_208 rfl rfl ts_o87 rfl rfl rfl ?_))
  refine tr_ci (pc' := 104) m_208 rfl rfl rfl m_188 rfl rfl rfl rfl (tr_rcv ts_o87 rfl) rfl rfl (cR_findResource_ok (gJ s 1108 0) _ _ (Ok_b h)) (fun x3_ x3_s h => ?_)
  refine ev_istore_n (pc' := 105) m_208 rfl rfl rfl rfl (ev_aload_n (pc' := 106) m_208 rfl rfl rfl (ev_aload_n (pc' := 107) m_208 rfl rfl rfl (tr_get (pc' := 110) (v := .long (gJ _ 1108 _)) m_208 rfl rfl ts_o87 rfl rfl rfl ?_)))
  refine tr_ci (pc' := 113) m_208 rfl rfl rfl m_189 rfl rfl rfl rfl (tr_rcv ts_o87 rfl) rfl rfl (cR_findStore_ok (gJ x3_s 1108 0) _ _ (Ok_b h)) (fun x6_ x6_s h => ?_)
  refine ev_istore (pc' := 115) m_208 rfl rfl rfl rfl (ev_aload_n (pc' := 116) m_208 rfl rfl rfl ?_)
  refine tr_cz (pc' := 119) m_208 rfl rfl rfl m_177 rfl rfl rfl rfl rfl (tr_rcv ts_o87 rfl) rfl rfl (cR_good_ok _ _ (Ok_b h)) (fun x9_ x9_s h7 h => ?_)
  refine ev_if_eq (t := 143) (e := 122) m_208 rfl rfl rfl (fun c12 => ?_) (fun c12 => ?_)
  · replace h := Ok_t c12 h
    exact am_Ev.sub (L := [(0, .ref 87), (1, .int (l1)), (3, .int (x3_)), (4, .int (x6_))]) ⟨rfl, rfl, rfl, rfl, trivial⟩ (cR_takePlain_143_ok l1 x3_ x6_ _ _ h)
  · replace h := Ok_f c12 h
    refine ev_aload_n (pc' := 123) m_208 rfl rfl rfl (ev_iload_n (pc' := 124) m_208 rfl rfl rfl (ev_iconst (pc' := 125) (x := -1) m_208 rfl rfl rfl ?_))
    refine ev_icmp_ne (t := 134) (e := 128) m_208 rfl rfl rfl (fun c11 => ?_) (fun c11 => ?_)
    · replace h := Ok_f c11 h
      refine ev_iconst (pc' := 135) (x := 1) m_208 rfl rfl rfl (ev_goto (pc' := 139) m_208 rfl rfl ?_)
      exact am_Ev.sub (L := [(0, .ref 87), (1, .int (l1)), (3, .int (x3_)), (4, .int (x6_))]) ⟨rfl, rfl, rfl, rfl, trivial⟩ (cR_takePlain_139_ok l1 x3_ x6_ ((1 : Int32)) _ _ h)
    · replace h := Ok_t c11 h
      refine ev_iload (pc' := 130) m_208 rfl rfl rfl (ev_iconst (pc' := 131) (x := -1) m_208 rfl rfl rfl ?_)
      refine ev_icmp_eq (t := 138) (e := 134) m_208 rfl rfl rfl (fun c10 => ?_) (fun c10 => ?_)
      · replace h := Ok_t c10 h
        refine ev_iconst (pc' := 139) (x := 0) m_208 rfl rfl rfl ?_
        exact am_Ev.sub (L := [(0, .ref 87), (1, .int (l1)), (3, .int (x3_)), (4, .int (x6_))]) ⟨rfl, rfl, rfl, rfl, trivial⟩ (cR_takePlain_139_ok l1 x3_ x6_ ((0 : Int32)) _ _ h)
      · replace h := Ok_f c10 h
        refine ev_iconst (pc' := 135) (x := 1) m_208 rfl rfl rfl (ev_goto (pc' := 139) m_208 rfl rfl ?_)
        exact am_Ev.sub (L := [(0, .ref 87), (1, .int (l1)), (3, .int (x3_)), (4, .int (x6_))]) ⟨rfl, rfl, rfl, rfl, trivial⟩ (cR_takePlain_139_ok l1 x3_ x6_ ((1 : Int32)) _ _ h)
def cR_takePlain_92 (l1 : Int32) (t1 : Int32) (s : ts) : Option (ts) := (cR_need t1 ((2 : Int32)) s).bind (fun s2 => cR_takePlain_96 l1 s2)
set_option maxRecDepth 20000 in
theorem cR_takePlain_92_ok {d : Nat} (l1 : Int32) (t1 : Int32) (s : ts) (Q : ts → Prop) (h : Ok (cR_takePlain_92 l1 t1 s) Q) : am_Ev (d + 4) 208 (92, [(0, .ref 87), (1, .int (l1))], [.int (t1), .ref 87]) (lay s) (tq_v Q) := by
  unfold cR_takePlain_92 at h
  refine ev_iconst (pc' := 93) (x := 2) m_208 rfl rfl rfl ?_
  refine tr_cv (pc' := 96) m_208 rfl rfl rfl m_183 rfl rfl rfl rfl (tr_rcv ts_o87 rfl) rfl rfl (cR_need_ok t1 ((2 : Int32)) _ _ (Ok_b h)) (fun s2 h => ?_)
  exact am_Ev.sub (L := [(0, .ref 87), (1, .int (l1))]) ⟨rfl, rfl, trivial⟩ (cR_takePlain_96_ok l1 _ _ h)
def cR_takePlain_67 (l1 : Int32) (s : ts) : Option (ts) := (cR_next s).bind (fun s2 => (cR_good s2).bind (fun x6 => (if x6.1 = ((0 : Int32)) then cR_takePlain_96 l1 x6.2 else (if (gI x6.2 1106 0) = ((1 : Int32)) then cR_takePlain_92 l1 ((1 : Int32)) x6.2 else cR_takePlain_92 l1 ((0 : Int32)) x6.2))))
set_option maxRecDepth 20000 in
theorem cR_takePlain_67_ok {d : Nat} (l1 : Int32) (s : ts) (Q : ts → Prop) (h : Ok (cR_takePlain_67 l1 s) Q) : am_Ev (d + 4) 208 (67, [(0, .ref 87), (1, .int (l1))], []) (lay s) (tq_v Q) := by
  unfold cR_takePlain_67 at h
  refine ev_aload_n (pc' := 68) m_208 rfl rfl rfl ?_
  refine tr_cv (pc' := 71) m_208 rfl rfl rfl m_176 rfl rfl rfl rfl (tr_rcv ts_o87 rfl) rfl rfl (cR_next_ok _ _ (Ok_b h)) (fun s2 h => ?_)
  refine ev_aload_n (pc' := 72) m_208 rfl rfl rfl ?_
  refine tr_cz (pc' := 75) m_208 rfl rfl rfl m_177 rfl rfl rfl rfl rfl (tr_rcv ts_o87 rfl) rfl rfl (cR_good_ok _ _ (Ok_b h)) (fun x6_ x6_s h4 h => ?_)
  refine ev_if_eq (t := 96) (e := 78) m_208 rfl rfl rfl (fun c8 => ?_) (fun c8 => ?_)
  · replace h := Ok_t c8 h
    exact am_Ev.sub (L := [(0, .ref 87), (1, .int (l1))]) ⟨rfl, rfl, trivial⟩ (cR_takePlain_96_ok l1 _ _ h)
  · replace h := Ok_f c8 h
    refine ev_aload_n (pc' := 79) m_208 rfl rfl rfl (ev_aload_n (pc' := 80) m_208 rfl rfl rfl (tr_get (pc' := 83) (v := .int (gI _ 1106 _)) m_208 rfl rfl ts_o87 rfl rfl rfl (ev_iconst (pc' := 84) (x := 1) m_208 rfl rfl rfl ?_)))
    refine ev_icmp_ne (t := 91) (e := 87) m_208 rfl rfl rfl (fun c7 => ?_) (fun c7 => ?_)
    · replace h := Ok_f c7 h
      refine ev_iconst (pc' := 92) (x := 0) m_208 rfl rfl rfl ?_
      exact am_Ev.sub (L := [(0, .ref 87), (1, .int (l1))]) ⟨rfl, rfl, trivial⟩ (cR_takePlain_92_ok l1 ((0 : Int32)) _ _ h)
    · replace h := Ok_t c7 h
      refine ev_iconst (pc' := 88) (x := 1) m_208 rfl rfl rfl (ev_goto (pc' := 92) m_208 rfl rfl ?_)
      exact am_Ev.sub (L := [(0, .ref 87), (1, .int (l1))]) ⟨rfl, rfl, trivial⟩ (cR_takePlain_92_ok l1 ((1 : Int32)) _ _ h)
def cR_takePlain_215 (t1 : Int32) (t2 : Int32) (s : ts) : Option (ts) := (cR_add t1 t2 s).bind (fun x3 => some x3.2)
set_option maxRecDepth 20000 in
theorem cR_takePlain_215_ok {d : Nat} (t1 : Int32) (t2 : Int32) (s : ts) (Q : ts → Prop) (h : Ok (cR_takePlain_215 t1 t2 s) Q) : am_Ev (d + 4) 208 (215, [], [.int (t2), .int (t1), .ref 87]) (lay s) (tq_v Q) := by
  unfold cR_takePlain_215 at h
  refine tr_ci (pc' := 218) m_208 rfl rfl rfl m_209 rfl rfl rfl rfl (tr_rcv ts_o87 rfl) rfl rfl (cR_add_ok t1 t2 _ _ (Ok_b h)) (fun x3_ x3_s h => ?_)
  refine ev_istore_n (pc' := 219) m_208 rfl rfl rfl rfl ?_
  exact tr_rv m_208 rfl rfl (Ok_s h)
def cR_takePlain_198 (l3 : Int32) (t1 : Int32) (s : ts) : Option (ts) := (if l3 = ((-1 : Int32)) then (cR_findNumber (gJ s 1108 0) s).bind (fun x3 => cR_takePlain_215 t1 x3.1 x3.2) else cR_takePlain_215 t1 l3 s)
set_option maxRecDepth 20000 in
theorem cR_takePlain_198_ok {d : Nat} (l3 : Int32) (t1 : Int32) (s : ts) (Q : ts → Prop) (h : Ok (cR_takePlain_198 l3 t1 s) Q) : am_Ev (d + 4) 208 (198, [(0, .ref 87), (3, .int (l3))], [.int (t1), .ref 87]) (lay s) (tq_v Q) := by
  unfold cR_takePlain_198 at h
  refine ev_iload_n (pc' := 199) m_208 rfl rfl rfl (ev_iconst (pc' := 200) (x := -1) m_208 rfl rfl rfl ?_)
  refine ev_icmp_eq (t := 207) (e := 203) m_208 rfl rfl rfl (fun c4 => ?_) (fun c4 => ?_)
  · replace h := Ok_t c4 h
    refine ev_aload_n (pc' := 208) m_208 rfl rfl rfl (ev_aload_n (pc' := 209) m_208 rfl rfl rfl (tr_get (pc' := 212) (v := .long (gJ _ 1108 _)) m_208 rfl rfl ts_o87 rfl rfl rfl ?_))
    refine tr_ci (pc' := 215) m_208 rfl rfl rfl m_192 rfl rfl rfl rfl (tr_rcv ts_o87 rfl) rfl rfl (cR_findNumber_ok (gJ s 1108 0) _ _ (Ok_b h)) (fun x3_ x3_s h => ?_)
    exact am_Ev.sub (L := []) trivial (cR_takePlain_215_ok t1 x3_ _ _ h)
  · replace h := Ok_f c4 h
    refine ev_iload_n (pc' := 204) m_208 rfl rfl rfl (ev_goto (pc' := 215) m_208 rfl rfl ?_)
    exact am_Ev.sub (L := []) trivial (cR_takePlain_215_ok t1 l3 _ _ h)
def cR_takePlain (l1 : Int32) (s : ts) : Option (ts) := (if (gI s 1106 0) = ((2 : Int32)) then (cR_add ((1 : Int32)) (gI s 1109 0) s).bind (fun x11 => some x11.2) else (if l1 = ((19 : Int32)) then cR_takePlain_35 l1 s else (if l1 = ((20 : Int32)) then cR_takePlain_35 l1 s else (if l1 = ((22 : Int32)) then cR_takePlain_67 l1 s else (if l1 = ((23 : Int32)) then cR_takePlain_67 l1 s else (cR_findLocal (gJ s 1108 0) s).bind (fun x3 => (if x3.1 = ((-1 : Int32)) then cR_takePlain_198 x3.1 ((3 : Int32)) x3.2 else cR_takePlain_198 x3.1 ((2 : Int32)) x3.2)))))))
set_option maxRecDepth 20000 in
theorem cR_takePlain_ok {d : Nat} (l1 : Int32) (s : ts) (Q : ts → Prop) (h : Ok (cR_takePlain l1 s) Q) : am_Ev (d + 4) 208 (0, [(0, .ref 87), (1, .int (l1))], []) (lay s) (tq_v Q) := by
  unfold cR_takePlain at h
  refine ev_iconst (pc' := 1) (x := 0) m_208 rfl rfl rfl (ev_istore_n (pc' := 2) m_208 rfl rfl rfl rfl (ev_aload_n (pc' := 3) m_208 rfl rfl rfl (tr_get (pc' := 6) (v := .int (gI _ 1106 _)) m_208 rfl rfl ts_o87 rfl rfl rfl (ev_iconst (pc' := 7) (x := 2) m_208 rfl rfl rfl ?_))))
  refine ev_icmp_ne (t := 23) (e := 10) m_208 rfl rfl rfl (fun c12 => ?_) (fun c12 => ?_)
  · replace h := Ok_f c12 h
    refine ev_iload_n (pc' := 24) m_208 rfl rfl rfl (ev_bipush (pc' := 26) (x := 19) m_208 rfl rfl rfl ?_)
    refine ev_icmp_eq (t := 35) (e := 29) m_208 rfl rfl rfl (fun c8 => ?_) (fun c8 => ?_)
    · replace h := Ok_t c8 h
      exact am_Ev.sub (L := [(0, .ref 87), (1, .int (l1))]) ⟨rfl, rfl, trivial⟩ (cR_takePlain_35_ok l1 _ _ h)
    · replace h := Ok_f c8 h
      refine ev_iload_n (pc' := 30) m_208 rfl rfl rfl (ev_bipush (pc' := 32) (x := 20) m_208 rfl rfl rfl ?_)
      refine ev_icmp_ne (t := 55) (e := 35) m_208 rfl rfl rfl (fun c7 => ?_) (fun c7 => ?_)
      · replace h := Ok_f c7 h
        refine ev_iload_n (pc' := 56) m_208 rfl rfl rfl (ev_bipush (pc' := 58) (x := 22) m_208 rfl rfl rfl ?_)
        refine ev_icmp_eq (t := 67) (e := 61) m_208 rfl rfl rfl (fun c6 => ?_) (fun c6 => ?_)
        · replace h := Ok_t c6 h
          exact am_Ev.sub (L := [(0, .ref 87), (1, .int (l1))]) ⟨rfl, rfl, trivial⟩ (cR_takePlain_67_ok l1 _ _ h)
        · replace h := Ok_f c6 h
          refine ev_iload_n (pc' := 62) m_208 rfl rfl rfl (ev_bipush (pc' := 64) (x := 23) m_208 rfl rfl rfl ?_)
          refine ev_icmp_ne (t := 178) (e := 67) m_208 rfl rfl rfl (fun c5 => ?_) (fun c5 => ?_)
          · replace h := Ok_f c5 h
            refine ev_aload_n (pc' := 179) m_208 rfl rfl rfl (ev_aload_n (pc' := 180) m_208 rfl rfl rfl (tr_get (pc' := 183) (v := .long (gJ _ 1108 _)) m_208 rfl rfl ts_o87 rfl rfl rfl ?_))
            refine tr_ci (pc' := 186) m_208 rfl rfl rfl m_191 rfl rfl rfl rfl (tr_rcv ts_o87 rfl) rfl rfl (cR_findLocal_ok (gJ s 1108 0) _ _ (Ok_b h)) (fun x3_ x3_s h => ?_)
            refine ev_istore_n (pc' := 187) m_208 rfl rfl rfl rfl (ev_aload_n (pc' := 188) m_208 rfl rfl rfl (ev_iload_n (pc' := 189) m_208 rfl rfl rfl (ev_iconst (pc' := 190) (x := -1) m_208 rfl rfl rfl ?_)))
            refine ev_icmp_eq (t := 197) (e := 193) m_208 rfl rfl rfl (fun c4 => ?_) (fun c4 => ?_)
            · replace h := Ok_t c4 h
              refine ev_iconst (pc' := 198) (x := 3) m_208 rfl rfl rfl ?_
              exact am_Ev.sub (L := [(0, .ref 87), (3, .int (x3_))]) ⟨rfl, rfl, trivial⟩ (cR_takePlain_198_ok x3_ ((3 : Int32)) _ _ h)
            · replace h := Ok_f c4 h
              refine ev_iconst (pc' := 194) (x := 2) m_208 rfl rfl rfl (ev_goto (pc' := 198) m_208 rfl rfl ?_)
              exact am_Ev.sub (L := [(0, .ref 87), (3, .int (x3_))]) ⟨rfl, rfl, trivial⟩ (cR_takePlain_198_ok x3_ ((2 : Int32)) _ _ h)
          · replace h := Ok_t c5 h
            exact am_Ev.sub (L := [(0, .ref 87), (1, .int (l1))]) ⟨rfl, rfl, trivial⟩ (cR_takePlain_67_ok l1 _ _ h)
      · replace h := Ok_t c7 h
        exact am_Ev.sub (L := [(0, .ref 87), (1, .int (l1))]) ⟨rfl, rfl, trivial⟩ (cR_takePlain_35_ok l1 _ _ h)
  · replace h := Ok_t c12 h
    refine ev_aload_n (pc' := 11) m_208 rfl rfl rfl (ev_iconst (pc' := 12) (x := 1) m_208 rfl rfl rfl (ev_aload_n (pc' := 13) m_208 rfl rfl rfl (tr_get (pc' := 16) (v := .int (gI _ 1109 _)) m_208 rfl rfl ts_o87 rfl rfl rfl ?_)))
    refine tr_ci (pc' := 19) m_208 rfl rfl rfl m_209 rfl rfl rfl rfl (tr_rcv ts_o87 rfl) rfl rfl (cR_add_ok ((1 : Int32)) (gI s 1109 0) _ _ (Ok_b h)) (fun x11_ x11_s h => ?_)
    refine ev_istore_n (pc' := 20) m_208 rfl rfl rfl rfl (ev_goto (pc' := 219) m_208 rfl rfl ?_)
    exact tr_rv m_208 rfl rfl (Ok_s h)
def cR_settle_82 (s : ts) : Option (ts) := (if am_idx (gI s 1142 0) 4100 = true then (if (gA s 113 (gI s 1142 0).toNatClampNeg) = ((9 : Int32)) then some (wI s 1148 0 ((gI s 1148 0) - ((1 : Int32)))) else some (wI s 1148 0 ((gI s 1148 0) - ((0 : Int32))))) else none)
set_option maxRecDepth 20000 in
theorem cR_settle_82_ok {d : Nat} (s : ts) (Q : ts → Prop) (h : Ok (cR_settle_82 s) Q) : am_Ev (d + 1) 212 (82, [(0, .ref 87)], []) (lay s) (tq_v Q) := by
  unfold cR_settle_82 at h
  refine ev_aload_n (pc' := 83) m_212 rfl rfl rfl (ev_dup (pc' := 84) m_212 rfl rfl rfl (tr_get (pc' := 87) (v := .int (gI _ 1148 _)) m_212 rfl rfl ts_o87 rfl rfl rfl (ev_aload_n (pc' := 88) m_212 rfl rfl rfl (tr_get (pc' := 91) (v := .ref 113) m_212 rfl rfl ts_o87 rfl rfl rfl (ev_aload_n (pc' := 92) m_212 rfl rfl rfl (tr_get (pc' := 95) (v := .int (gI _ 1142 _)) m_212 rfl rfl ts_o87 rfl rfl rfl ?_))))))
  obtain ⟨g1, h⟩ := Ok_g h
  refine tr_iald (pc' := 96) m_212 rfl rfl rfl g1 rfl (ev_bipush (pc' := 98) (x := 9) m_212 rfl rfl rfl ?_)
  refine ev_icmp_ne (t := 105) (e := 101) m_212 rfl rfl rfl (fun c2 => ?_) (fun c2 => ?_)
  · replace h := Ok_f c2 h
    refine ev_iconst (pc' := 106) (x := 0) m_212 rfl rfl rfl (ev_isub (pc' := 107) m_212 rfl rfl (tr_pI (pc' := 110) (f := 1148) m_212 rfl rfl rfl ts_o87 rfl rfl rfl rfl ?_))
    exact tr_rv m_212 rfl rfl (Ok_s h)
  · replace h := Ok_t c2 h
    refine ev_iconst (pc' := 102) (x := 1) m_212 rfl rfl rfl (ev_goto (pc' := 106) m_212 rfl rfl (ev_isub (pc' := 107) m_212 rfl rfl (tr_pI (pc' := 110) (f := 1148) m_212 rfl rfl rfl ts_o87 rfl rfl rfl rfl ?_)))
    exact tr_rv m_212 rfl rfl (Ok_s h)
def cR_settle_46 (s : ts) : Option (ts) := (cR_add ((13 : Int32)) ((0 : Int32)) s).bind (fun x3 => (if am_idx (gI x3.2 1142 0) 4100 = true then (if am_idx (gA x3.2 114 (gI x3.2 1142 0).toNatClampNeg) 9000 = true then cR_settle_82 (wA x3.2 111 (gA x3.2 114 (gI x3.2 1142 0).toNatClampNeg).toNatClampNeg (gI x3.2 1139 0)) else none) else none))
set_option maxRecDepth 20000 in
theorem cR_settle_46_ok {d : Nat} (s : ts) (Q : ts → Prop) (h : Ok (cR_settle_46 s) Q) : am_Ev (d + 1) 212 (46, [(0, .ref 87)], []) (lay s) (tq_v Q) := by
  unfold cR_settle_46 at h
  refine ev_aload_n (pc' := 47) m_212 rfl rfl rfl (ev_bipush (pc' := 49) (x := 13) m_212 rfl rfl rfl (ev_iconst (pc' := 50) (x := 0) m_212 rfl rfl rfl ?_))
  refine tr_ci (pc' := 53) m_212 rfl rfl rfl m_209 rfl rfl rfl rfl (tr_rcv ts_o87 rfl) rfl rfl (cR_add_ok ((13 : Int32)) ((0 : Int32)) _ _ (Ok_b h)) (fun x3_ x3_s h => ?_)
  refine ev_istore_n (pc' := 54) m_212 rfl rfl rfl rfl (ev_aload_n (pc' := 55) m_212 rfl rfl rfl (tr_get (pc' := 58) (v := .ref 111) m_212 rfl rfl ts_o87 rfl rfl rfl (ev_aload_n (pc' := 59) m_212 rfl rfl rfl (tr_get (pc' := 62) (v := .ref 114) m_212 rfl rfl ts_o87 rfl rfl rfl (ev_aload_n (pc' := 63) m_212 rfl rfl rfl (tr_get (pc' := 66) (v := .int (gI _ 1142 _)) m_212 rfl rfl ts_o87 rfl rfl rfl ?_))))))
  obtain ⟨g4, h⟩ := Ok_g h
  refine tr_iald (pc' := 67) m_212 rfl rfl rfl g4 rfl (ev_aload_n (pc' := 68) m_212 rfl rfl rfl (tr_get (pc' := 71) (v := .int (gI _ 1139 _)) m_212 rfl rfl ts_o87 rfl rfl rfl ?_))
  obtain ⟨g5, h⟩ := Ok_g h
  refine tr_iast (pc' := 72) m_212 rfl rfl rfl g5 rfl (ev_goto (pc' := 82) m_212 rfl rfl ?_)
  exact am_Ev.sub (L := [(0, .ref 87)]) ⟨rfl, trivial⟩ (cR_settle_82_ok _ _ h)
def cR_settle (s : ts) : Option (ts) := (if am_idx (gI (wI s 1142 0 ((gI s 1142 0) - ((1 : Int32)))) 1142 0) 4100 = true then (if (gA (wI s 1142 0 ((gI s 1142 0) - ((1 : Int32)))) 113 (gI (wI s 1142 0 ((gI s 1142 0) - ((1 : Int32)))) 1142 0).toNatClampNeg) = ((1 : Int32)) then cR_settle_46 (wI s 1142 0 ((gI s 1142 0) - ((1 : Int32)))) else (if (gA (wI s 1142 0 ((gI s 1142 0) - ((1 : Int32)))) 113 (gI (wI s 1142 0 ((gI s 1142 0) - ((1 : Int32)))) 1142 0).toNatClampNeg) = ((2 : Int32)) then cR_settle_46 (wI s 1142 0 ((gI s 1142 0) - ((1 : Int32)))) else (cR_add (gA (wI s 1142 0 ((gI s 1142 0) - ((1 : Int32)))) 112 (gI (wI s 1142 0 ((gI s 1142 0) - ((1 : Int32)))) 1142 0).toNatClampNeg) ((0 : Int32)) (wI s 1142 0 ((gI s 1142 0) - ((1 : Int32))))).bind (fun x4 => cR_settle_82 x4.2))) else none)
set_option maxRecDepth 20000 in
theorem cR_settle_ok {d : Nat} (s : ts) (Q : ts → Prop) (h : Ok (cR_settle s) Q) : am_Ev (d + 1) 212 (0, [(0, .ref 87)], []) (lay s) (tq_v Q) := by
  unfold cR_settle at h
  refine ev_aload_n (pc' := 1) m_212 rfl rfl rfl (ev_dup (pc' := 2) m_212 rfl rfl rfl (tr_get (pc' := 5) (v := .int (gI _ 1142 _)) m_212 rfl rfl ts_o87 rfl rfl rfl (ev_iconst (pc' := 6) (x := 1) m_212 rfl rfl rfl (ev_isub (pc' := 7) m_212 rfl rfl (tr_pI (pc' := 10) (f := 1142) m_212 rfl rfl rfl ts_o87 rfl rfl rfl rfl (ev_aload_n (pc' := 11) m_212 rfl rfl rfl (tr_get (pc' := 14) (v := .ref 112) m_212 rfl rfl ts_o87 rfl rfl rfl ?_)))))))
  refine ev_aload_n (pc' := 15) m_212 rfl rfl rfl (tr_get (pc' := 18) (v := .int (gI _ 1142 _)) m_212 rfl rfl ts_o87 rfl rfl rfl ?_)
  obtain ⟨g1, h⟩ := Ok_g h
  refine tr_iald (pc' := 19) m_212 rfl rfl rfl g1 rfl (ev_istore_n (pc' := 20) m_212 rfl rfl rfl rfl (ev_aload_n (pc' := 21) m_212 rfl rfl rfl (tr_get (pc' := 24) (v := .ref 113) m_212 rfl rfl ts_o87 rfl rfl rfl (ev_aload_n (pc' := 25) m_212 rfl rfl rfl (tr_get (pc' := 28) (v := .int (gI _ 1142 _)) m_212 rfl rfl ts_o87 rfl rfl rfl (tr_iald (pc' := 29) m_212 rfl rfl rfl g1 rfl (ev_iconst (pc' := 30) (x := 1) m_212 rfl rfl rfl ?_)))))))
  refine ev_icmp_eq (t := 46) (e := 33) m_212 rfl rfl rfl (fun c6 => ?_) (fun c6 => ?_)
  · replace h := Ok_t c6 h
    exact am_Ev.sub (L := [(0, .ref 87)]) ⟨rfl, trivial⟩ (cR_settle_46_ok _ _ h)
  · replace h := Ok_f c6 h
    refine ev_aload_n (pc' := 34) m_212 rfl rfl rfl (tr_get (pc' := 37) (v := .ref 113) m_212 rfl rfl ts_o87 rfl rfl rfl (ev_aload_n (pc' := 38) m_212 rfl rfl rfl (tr_get (pc' := 41) (v := .int (gI _ 1142 _)) m_212 rfl rfl ts_o87 rfl rfl rfl (tr_iald (pc' := 42) m_212 rfl rfl rfl g1 rfl (ev_iconst (pc' := 43) (x := 2) m_212 rfl rfl rfl ?_)))))
    refine ev_icmp_ne (t := 75) (e := 46) m_212 rfl rfl rfl (fun c5 => ?_) (fun c5 => ?_)
    · replace h := Ok_f c5 h
      refine ev_aload_n (pc' := 76) m_212 rfl rfl rfl (ev_iload_n (pc' := 77) m_212 rfl rfl rfl (ev_iconst (pc' := 78) (x := 0) m_212 rfl rfl rfl ?_))
      refine tr_ci (pc' := 81) m_212 rfl rfl rfl m_209 rfl rfl rfl rfl (tr_rcv ts_o87 rfl) rfl rfl (cR_add_ok (gA (wI s 1142 0 ((gI s 1142 0) - ((1 : Int32)))) 112 (gI (wI s 1142 0 ((gI s 1142 0) - ((1 : Int32)))) 1142 0).toNatClampNeg) ((0 : Int32)) _ _ (Ok_b h)) (fun x4_ x4_s h => ?_)
      refine ev_istore_n (pc' := 82) m_212 rfl rfl rfl rfl ?_
      exact am_Ev.sub (L := [(0, .ref 87)]) ⟨rfl, trivial⟩ (cR_settle_82_ok _ _ h)
    · replace h := Ok_t c5 h
      exact am_Ev.sub (L := [(0, .ref 87)]) ⟨rfl, trivial⟩ (cR_settle_46_ok _ _ h)
def cR_settleTo_0_b (kk : Int32 → ts → Option (ts)) (l1 : Int32) (s : ts) : Option (ts) := (if (gI s 1142 0) ≤ (gI s 1147 0) then some s else (if am_idx ((gI s 1142 0) - ((1 : Int32))) 4100 = true then (if (gA s 113 ((gI s 1142 0) - ((1 : Int32))).toNatClampNeg) < l1 then some s else (if (gA s 112 ((gI s 1142 0) - ((1 : Int32))).toNatClampNeg) = ((14 : Int32)) then some s else (if (gA s 112 ((gI s 1142 0) - ((1 : Int32))).toNatClampNeg) = ((6 : Int32)) then some s else (cR_settle s).bind (fun s3 => kk l1 s3)))) else none))
def cR_settleTo_0 : Nat → Int32 → ts → Option (ts)
  | 0, _, _ => none
  | n + 1, l1, s => cR_settleTo_0_b (cR_settleTo_0 n) l1 s
set_option maxRecDepth 20000 in
theorem cR_settleTo_0_ok {d : Nat} : ∀ (n : Nat) (l1 : Int32) (s : ts) (Q : ts → Prop), Ok (cR_settleTo_0 n l1 s) Q → am_Ev (d + 2) 211 (0, [(0, .ref 87), (1, .int (l1))], []) (lay s) (tq_v Q) := by
  intro n
  induction n with
  | zero => intro l1 s Q h; exact Ok_n h
  | succ n ih =>
    intro l1 s Q h
    rw [cR_settleTo_0.eq_2] at h
    unfold cR_settleTo_0_b at h
    refine ev_aload_n (pc' := 1) m_211 rfl rfl rfl (tr_get (pc' := 4) (v := .int (gI _ 1142 _)) m_211 rfl rfl ts_o87 rfl rfl rfl (ev_aload_n (pc' := 5) m_211 rfl rfl rfl (tr_get (pc' := 8) (v := .int (gI _ 1147 _)) m_211 rfl rfl ts_o87 rfl rfl rfl ?_)))
    refine ev_icmp_le (t := 65) (e := 11) m_211 rfl rfl rfl (fun c8 => ?_) (fun c8 => ?_)
    · replace h := Ok_t c8 h
      exact tr_rv m_211 rfl rfl (Ok_s h)
    · replace h := Ok_f c8 h
      refine ev_aload_n (pc' := 12) m_211 rfl rfl rfl (tr_get (pc' := 15) (v := .ref 113) m_211 rfl rfl ts_o87 rfl rfl rfl (ev_aload_n (pc' := 16) m_211 rfl rfl rfl (tr_get (pc' := 19) (v := .int (gI _ 1142 _)) m_211 rfl rfl ts_o87 rfl rfl rfl (ev_iconst (pc' := 20) (x := 1) m_211 rfl rfl rfl (ev_isub (pc' := 21) m_211 rfl rfl ?_)))))
      obtain ⟨g1, h⟩ := Ok_g h
      refine tr_iald (pc' := 22) m_211 rfl rfl rfl g1 rfl (ev_iload_n (pc' := 23) m_211 rfl rfl rfl ?_)
      refine ev_icmp_lt (t := 65) (e := 26) m_211 rfl rfl rfl (fun c7 => ?_) (fun c7 => ?_)
      · replace h := Ok_t c7 h
        exact tr_rv m_211 rfl rfl (Ok_s h)
      · replace h := Ok_f c7 h
        refine ev_aload_n (pc' := 27) m_211 rfl rfl rfl (tr_get (pc' := 30) (v := .ref 112) m_211 rfl rfl ts_o87 rfl rfl rfl (ev_aload_n (pc' := 31) m_211 rfl rfl rfl (tr_get (pc' := 34) (v := .int (gI _ 1142 _)) m_211 rfl rfl ts_o87 rfl rfl rfl (ev_iconst (pc' := 35) (x := 1) m_211 rfl rfl rfl (ev_isub (pc' := 36) m_211 rfl rfl (tr_iald (pc' := 37) m_211 rfl rfl rfl g1 rfl (ev_bipush (pc' := 39) (x := 14) m_211 rfl rfl rfl ?_)))))))
        refine ev_icmp_eq (t := 65) (e := 42) m_211 rfl rfl rfl (fun c6 => ?_) (fun c6 => ?_)
        · replace h := Ok_t c6 h
          exact tr_rv m_211 rfl rfl (Ok_s h)
        · replace h := Ok_f c6 h
          refine ev_aload_n (pc' := 43) m_211 rfl rfl rfl (tr_get (pc' := 46) (v := .ref 112) m_211 rfl rfl ts_o87 rfl rfl rfl (ev_aload_n (pc' := 47) m_211 rfl rfl rfl (tr_get (pc' := 50) (v := .int (gI _ 1142 _)) m_211 rfl rfl ts_o87 rfl rfl rfl (ev_iconst (pc' := 51) (x := 1) m_211 rfl rfl rfl (ev_isub (pc' := 52) m_211 rfl rfl (tr_iald (pc' := 53) m_211 rfl rfl rfl g1 rfl (ev_bipush (pc' := 55) (x := 6) m_211 rfl rfl rfl ?_)))))))
          refine ev_icmp_eq (t := 65) (e := 58) m_211 rfl rfl rfl (fun c5 => ?_) (fun c5 => ?_)
          · replace h := Ok_t c5 h
            exact tr_rv m_211 rfl rfl (Ok_s h)
          · replace h := Ok_f c5 h
            refine ev_aload_n (pc' := 59) m_211 rfl rfl rfl ?_
            refine tr_cv (pc' := 62) m_211 rfl rfl rfl m_212 rfl rfl rfl rfl (tr_rcv ts_o87 rfl) rfl rfl (cR_settle_ok _ _ (Ok_b h)) (fun s3 h => ?_)
            refine ev_goto (pc' := 0) m_211 rfl rfl ?_
            exact am_Ev.sub (L := [(0, .ref 87), (1, .int (l1))]) ⟨rfl, rfl, trivial⟩ (ih l1 _ _ h)
def cR_settleTo (l1 : Int32) (s : ts) : Option (ts) := cR_settleTo_0 tm_N l1 s
theorem cR_settleTo_ok {d : Nat} (l1 : Int32) (s : ts) (Q : ts → Prop) (h : Ok (cR_settleTo l1 s) Q) : am_Ev (d + 2) 211 (0, [(0, .ref 87), (1, .int (l1))], []) (lay s) (tq_v Q) := cR_settleTo_0_ok tm_N l1 s Q h
def cR_endOne (s : ts) : Option (ts) := (cR_settleTo ((9 : Int32)) (wI s 1150 0 ((0 : Int32)))).bind (fun s2 => some s2)
set_option maxRecDepth 20000 in
theorem cR_endOne_ok {d : Nat} (s : ts) (Q : ts → Prop) (h : Ok (cR_endOne s) Q) : am_Ev (d + 3) 210 (0, [(0, .ref 87)], []) (lay s) (tq_v Q) := by
  unfold cR_endOne at h
  refine ev_aload_n (pc' := 1) m_210 rfl rfl rfl (ev_iconst (pc' := 2) (x := 0) m_210 rfl rfl rfl (tr_pZ (pc' := 5) (f := 1150) m_210 rfl rfl rfl ts_o87 rfl rfl (Or.inl rfl) rfl rfl (ev_aload_n (pc' := 6) m_210 rfl rfl rfl (ev_bipush (pc' := 8) (x := 9) m_210 rfl rfl rfl ?_))))
  refine tr_cv (pc' := 11) m_210 rfl rfl rfl m_211 rfl rfl rfl rfl (tr_rcv ts_o87 rfl) rfl rfl (cR_settleTo_ok ((9 : Int32)) _ _ (Ok_b h)) (fun s2 h => ?_)
  exact tr_rv m_210 rfl rfl (Ok_s h)
def cR_takeOne_242 (t1 : Int32) (s : ts) : Option (ts) := (cR_wait1 t1 ((9 : Int32)) s).bind (fun s2 => (cR_next (wI s2 1148 0 ((gI s2 1148 0) + ((1 : Int32))))).bind (fun s5 => some s5))
set_option maxRecDepth 20000 in
theorem cR_takeOne_242_ok {d : Nat} (t1 : Int32) (s : ts) (Q : ts → Prop) (h : Ok (cR_takeOne_242 t1 s) Q) : am_Ev (d + 5) 205 (242, [(0, .ref 87)], [.int (t1), .ref 87]) (lay s) (tq_v Q) := by
  unfold cR_takeOne_242 at h
  refine ev_bipush (pc' := 244) (x := 9) m_205 rfl rfl rfl ?_
  refine tr_cv (pc' := 247) m_205 rfl rfl rfl m_206 rfl rfl rfl rfl (tr_rcv ts_o87 rfl) rfl rfl (cR_wait1_ok t1 ((9 : Int32)) _ _ (Ok_b h)) (fun s2 h => ?_)
  refine ev_aload_n (pc' := 248) m_205 rfl rfl rfl (ev_dup (pc' := 249) m_205 rfl rfl rfl (tr_get (pc' := 252) (v := .int (gI _ 1148 _)) m_205 rfl rfl ts_o87 rfl rfl rfl (ev_iconst (pc' := 253) (x := 1) m_205 rfl rfl rfl (ev_iadd (pc' := 254) m_205 rfl rfl (tr_pI (pc' := 257) (f := 1148) m_205 rfl rfl rfl ts_o87 rfl rfl rfl rfl (ev_aload_n (pc' := 258) m_205 rfl rfl rfl ?_))))))
  refine tr_cv (pc' := 261) m_205 rfl rfl rfl m_176 rfl rfl rfl rfl (tr_rcv ts_o87 rfl) rfl rfl (cR_next_ok _ _ (Ok_b h)) (fun s5 h => ?_)
  refine ev_goto (pc' := 331) m_205 rfl rfl ?_
  exact tr_rv m_205 rfl rfl (Ok_s h)
def cR_takeOne_225 (s : ts) : Option (ts) := (if (gI s 1106 0) = ((45 : Int32)) then cR_takeOne_242 ((9 : Int32)) s else cR_takeOne_242 ((10 : Int32)) s)
set_option maxRecDepth 20000 in
theorem cR_takeOne_225_ok {d : Nat} (s : ts) (Q : ts → Prop) (h : Ok (cR_takeOne_225 s) Q) : am_Ev (d + 5) 205 (225, [(0, .ref 87)], []) (lay s) (tq_v Q) := by
  unfold cR_takeOne_225 at h
  refine ev_aload_n (pc' := 226) m_205 rfl rfl rfl (ev_aload_n (pc' := 227) m_205 rfl rfl rfl (tr_get (pc' := 230) (v := .int (gI _ 1106 _)) m_205 rfl rfl ts_o87 rfl rfl rfl (ev_bipush (pc' := 232) (x := 45) m_205 rfl rfl rfl ?_)))
  refine ev_icmp_ne (t := 240) (e := 235) m_205 rfl rfl rfl (fun c1 => ?_) (fun c1 => ?_)
  · replace h := Ok_f c1 h
    refine ev_bipush (pc' := 242) (x := 10) m_205 rfl rfl rfl ?_
    exact am_Ev.sub (L := [(0, .ref 87)]) ⟨rfl, trivial⟩ (cR_takeOne_242_ok ((10 : Int32)) _ _ h)
  · replace h := Ok_t c1 h
    refine ev_bipush (pc' := 237) (x := 9) m_205 rfl rfl rfl (ev_goto (pc' := 242) m_205 rfl rfl ?_)
    exact am_Ev.sub (L := [(0, .ref 87)]) ⟨rfl, trivial⟩ (cR_takeOne_242_ok ((9 : Int32)) _ _ h)
def cR_takeOne_196 (l2 : Int32) (t1 : Int32) (s : ts) : Option (ts) := (cR_limit t1 s).bind (fun s2 => (cR_good s2).bind (fun x6 => (if x6.1 = ((0 : Int32)) then some x6.2 else (if (gI x6.2 1106 0) = ((45 : Int32)) then cR_takeOne_225 x6.2 else (if (gI x6.2 1106 0) = ((33 : Int32)) then cR_takeOne_225 x6.2 else (if (gI x6.2 1106 0) = ((40 : Int32)) then (cR_open ((14 : Int32)) x6.2).bind (fun s31 => (cR_next s31).bind (fun s34 => some s34)) else (if l2 = ((21 : Int32)) then (cR_next x6.2).bind (fun s21 => (cR_open ((6 : Int32)) s21).bind (fun s24 => (cR_must ((40 : Int32)) s24).bind (fun s27 => some s27))) else (cR_takePlain l2 x6.2).bind (fun s8 => (cR_next s8).bind (fun s11 => (cR_good s11).bind (fun x15 => (if x15.1 = ((0 : Int32)) then some x15.2 else (cR_endOne x15.2).bind (fun s17 => some s17))))))))))))
set_option maxRecDepth 20000 in
theorem cR_takeOne_196_ok {d : Nat} (l2 : Int32) (t1 : Int32) (s : ts) (Q : ts → Prop) (h : Ok (cR_takeOne_196 l2 t1 s) Q) : am_Ev (d + 5) 205 (196, [(0, .ref 87), (2, .int (l2))], [.int (t1), .ref 87]) (lay s) (tq_v Q) := by
  unfold cR_takeOne_196 at h
  refine tr_cv (pc' := 199) m_205 rfl rfl rfl m_193 rfl rfl rfl rfl (tr_rcv ts_o87 rfl) rfl rfl (cR_limit_ok t1 _ _ (Ok_b h)) (fun s2 h => ?_)
  refine ev_aload_n (pc' := 200) m_205 rfl rfl rfl ?_
  refine tr_cz (pc' := 203) m_205 rfl rfl rfl m_177 rfl rfl rfl rfl rfl (tr_rcv ts_o87 rfl) rfl rfl (cR_good_ok _ _ (Ok_b h)) (fun x6_ x6_s h4 h => ?_)
  refine ev_if_ne (t := 207) (e := 206) m_205 rfl rfl rfl (fun c39 => ?_) (fun c39 => ?_)
  · replace h := Ok_f c39 h
    refine ev_aload_n (pc' := 208) m_205 rfl rfl rfl (tr_get (pc' := 211) (v := .int (gI _ 1106 _)) m_205 rfl rfl ts_o87 rfl rfl rfl (ev_bipush (pc' := 213) (x := 45) m_205 rfl rfl rfl ?_))
    refine ev_icmp_eq (t := 225) (e := 216) m_205 rfl rfl rfl (fun c38 => ?_) (fun c38 => ?_)
    · replace h := Ok_t c38 h
      exact am_Ev.sub (L := [(0, .ref 87)]) ⟨rfl, trivial⟩ (cR_takeOne_225_ok _ _ h)
    · replace h := Ok_f c38 h
      refine ev_aload_n (pc' := 217) m_205 rfl rfl rfl (tr_get (pc' := 220) (v := .int (gI _ 1106 _)) m_205 rfl rfl ts_o87 rfl rfl rfl (ev_bipush (pc' := 222) (x := 33) m_205 rfl rfl rfl ?_))
      refine ev_icmp_ne (t := 264) (e := 225) m_205 rfl rfl rfl (fun c37 => ?_) (fun c37 => ?_)
      · replace h := Ok_f c37 h
        refine ev_aload_n (pc' := 265) m_205 rfl rfl rfl (tr_get (pc' := 268) (v := .int (gI _ 1106 _)) m_205 rfl rfl ts_o87 rfl rfl rfl (ev_bipush (pc' := 270) (x := 40) m_205 rfl rfl rfl ?_))
        refine ev_icmp_ne (t := 286) (e := 273) m_205 rfl rfl rfl (fun c36 => ?_) (fun c36 => ?_)
        · replace h := Ok_f c36 h
          refine ev_iload_n (pc' := 287) m_205 rfl rfl rfl (ev_bipush (pc' := 289) (x := 21) m_205 rfl rfl rfl ?_)
          refine ev_icmp_ne (t := 311) (e := 292) m_205 rfl rfl rfl (fun c29 => ?_) (fun c29 => ?_)
          · replace h := Ok_f c29 h
            refine ev_aload_n (pc' := 312) m_205 rfl rfl rfl (ev_iload_n (pc' := 313) m_205 rfl rfl rfl ?_)
            refine tr_cv (pc' := 316) m_205 rfl rfl rfl m_208 rfl rfl rfl rfl (tr_rcv ts_o87 rfl) rfl rfl (cR_takePlain_ok l2 _ _ (Ok_b h)) (fun s8 h => ?_)
            refine ev_aload_n (pc' := 317) m_205 rfl rfl rfl ?_
            refine tr_cv (pc' := 320) m_205 rfl rfl rfl m_176 rfl rfl rfl rfl (tr_rcv ts_o87 rfl) rfl rfl (cR_next_ok _ _ (Ok_b h)) (fun s11 h => ?_)
            refine ev_aload_n (pc' := 321) m_205 rfl rfl rfl ?_
            refine tr_cz (pc' := 324) m_205 rfl rfl rfl m_177 rfl rfl rfl rfl rfl (tr_rcv ts_o87 rfl) rfl rfl (cR_good_ok _ _ (Ok_b h)) (fun x15_ x15_s h13 h => ?_)
            refine ev_if_eq (t := 331) (e := 327) m_205 rfl rfl rfl (fun c19 => ?_) (fun c19 => ?_)
            · replace h := Ok_t c19 h
              exact tr_rv m_205 rfl rfl (Ok_s h)
            · replace h := Ok_f c19 h
              refine ev_aload_n (pc' := 328) m_205 rfl rfl rfl ?_
              refine tr_cv (pc' := 331) m_205 rfl rfl rfl m_210 rfl rfl rfl rfl (tr_rcv ts_o87 rfl) rfl rfl (cR_endOne_ok _ _ (Ok_b h)) (fun s17 h => ?_)
              exact tr_rv m_205 rfl rfl (Ok_s h)
          · replace h := Ok_t c29 h
            refine ev_aload_n (pc' := 293) m_205 rfl rfl rfl ?_
            refine tr_cv (pc' := 296) m_205 rfl rfl rfl m_176 rfl rfl rfl rfl (tr_rcv ts_o87 rfl) rfl rfl (cR_next_ok _ _ (Ok_b h)) (fun s21 h => ?_)
            refine ev_aload_n (pc' := 297) m_205 rfl rfl rfl (ev_bipush (pc' := 299) (x := 6) m_205 rfl rfl rfl ?_)
            refine tr_cv (pc' := 302) m_205 rfl rfl rfl m_207 rfl rfl rfl rfl (tr_rcv ts_o87 rfl) rfl rfl (cR_open_ok ((6 : Int32)) _ _ (Ok_b h)) (fun s24 h => ?_)
            refine ev_aload_n (pc' := 303) m_205 rfl rfl rfl (ev_bipush (pc' := 305) (x := 40) m_205 rfl rfl rfl ?_)
            refine tr_cv (pc' := 308) m_205 rfl rfl rfl m_194 rfl rfl rfl rfl (tr_rcv ts_o87 rfl) rfl rfl (cR_must_ok ((40 : Int32)) _ _ (Ok_b h)) (fun s27 h => ?_)
            refine ev_goto (pc' := 331) m_205 rfl rfl ?_
            exact tr_rv m_205 rfl rfl (Ok_s h)
        · replace h := Ok_t c36 h
          refine ev_aload_n (pc' := 274) m_205 rfl rfl rfl (ev_bipush (pc' := 276) (x := 14) m_205 rfl rfl rfl ?_)
          refine tr_cv (pc' := 279) m_205 rfl rfl rfl m_207 rfl rfl rfl rfl (tr_rcv ts_o87 rfl) rfl rfl (cR_open_ok ((14 : Int32)) _ _ (Ok_b h)) (fun s31 h => ?_)
          refine ev_aload_n (pc' := 280) m_205 rfl rfl rfl ?_
          refine tr_cv (pc' := 283) m_205 rfl rfl rfl m_176 rfl rfl rfl rfl (tr_rcv ts_o87 rfl) rfl rfl (cR_next_ok _ _ (Ok_b h)) (fun s34 h => ?_)
          refine ev_goto (pc' := 331) m_205 rfl rfl ?_
          exact tr_rv m_205 rfl rfl (Ok_s h)
      · replace h := Ok_t c37 h
        exact am_Ev.sub (L := [(0, .ref 87)]) ⟨rfl, trivial⟩ (cR_takeOne_225_ok _ _ h)
  · replace h := Ok_t c39 h
    exact tr_rv m_205 rfl rfl (Ok_s h)
def cR_takeOne_181 (l2 : Int32) (s : ts) : Option (ts) := (if ((30 : Int32)) < (gI s 1148 0) then cR_takeOne_196 l2 ((0 : Int32)) s else cR_takeOne_196 l2 ((1 : Int32)) s)
set_option maxRecDepth 20000 in
theorem cR_takeOne_181_ok {d : Nat} (l2 : Int32) (s : ts) (Q : ts → Prop) (h : Ok (cR_takeOne_181 l2 s) Q) : am_Ev (d + 5) 205 (181, [(0, .ref 87), (2, .int (l2))], []) (lay s) (tq_v Q) := by
  unfold cR_takeOne_181 at h
  refine ev_aload_n (pc' := 182) m_205 rfl rfl rfl (ev_aload_n (pc' := 183) m_205 rfl rfl rfl (tr_get (pc' := 186) (v := .int (gI _ 1148 _)) m_205 rfl rfl ts_o87 rfl rfl rfl (ev_bipush (pc' := 188) (x := 30) m_205 rfl rfl rfl ?_)))
  refine ev_icmp_gt (t := 195) (e := 191) m_205 rfl rfl rfl (fun c1 => ?_) (fun c1 => ?_)
  · replace h := Ok_t c1 h
    refine ev_iconst (pc' := 196) (x := 0) m_205 rfl rfl rfl ?_
    exact am_Ev.sub (L := [(0, .ref 87), (2, .int (l2))]) ⟨rfl, rfl, trivial⟩ (cR_takeOne_196_ok l2 ((0 : Int32)) _ _ h)
  · replace h := Ok_f c1 h
    refine ev_iconst (pc' := 192) (x := 1) m_205 rfl rfl rfl (ev_goto (pc' := 196) m_205 rfl rfl ?_)
    exact am_Ev.sub (L := [(0, .ref 87), (2, .int (l2))]) ⟨rfl, rfl, trivial⟩ (cR_takeOne_196_ok l2 ((1 : Int32)) _ _ h)
def cR_takeOne_177 (l2 : Int32) (t1 : Int32) (s : ts) : Option (ts) := (cR_need t1 ((4 : Int32)) s).bind (fun s2 => cR_takeOne_181 l2 s2)
set_option maxRecDepth 20000 in
theorem cR_takeOne_177_ok {d : Nat} (l2 : Int32) (t1 : Int32) (s : ts) (Q : ts → Prop) (h : Ok (cR_takeOne_177 l2 t1 s) Q) : am_Ev (d + 5) 205 (177, [(0, .ref 87), (2, .int (l2))], [.int (t1), .ref 87]) (lay s) (tq_v Q) := by
  unfold cR_takeOne_177 at h
  refine ev_iconst (pc' := 178) (x := 4) m_205 rfl rfl rfl ?_
  refine tr_cv (pc' := 181) m_205 rfl rfl rfl m_183 rfl rfl rfl rfl (tr_rcv ts_o87 rfl) rfl rfl (cR_need_ok t1 ((4 : Int32)) _ _ (Ok_b h)) (fun s2 h => ?_)
  exact am_Ev.sub (L := [(0, .ref 87), (2, .int (l2))]) ⟨rfl, rfl, trivial⟩ (cR_takeOne_181_ok l2 _ _ h)
def cR_takeOne_154 (l1 : Int32) (l2 : Int32) (s : ts) : Option (ts) := (cR_good s).bind (fun x3 => (if x3.1 = ((0 : Int32)) then cR_takeOne_181 l2 x3.2 else (if l2 = ((21 : Int32)) then (if l1 = ((0 : Int32)) then cR_takeOne_177 l2 ((1 : Int32)) x3.2 else cR_takeOne_177 l2 ((0 : Int32)) x3.2) else cR_takeOne_181 l2 x3.2)))
set_option maxRecDepth 20000 in
theorem cR_takeOne_154_ok {d : Nat} (l1 : Int32) (l2 : Int32) (s : ts) (Q : ts → Prop) (h : Ok (cR_takeOne_154 l1 l2 s) Q) : am_Ev (d + 5) 205 (154, [(0, .ref 87), (1, .int (l1)), (2, .int (l2))], []) (lay s) (tq_v Q) := by
  unfold cR_takeOne_154 at h
  refine ev_aload_n (pc' := 155) m_205 rfl rfl rfl ?_
  refine tr_cz (pc' := 158) m_205 rfl rfl rfl m_177 rfl rfl rfl rfl rfl (tr_rcv ts_o87 rfl) rfl rfl (cR_good_ok _ _ (Ok_b h)) (fun x3_ x3_s h1 h => ?_)
  refine ev_if_eq (t := 181) (e := 161) m_205 rfl rfl rfl (fun c6 => ?_) (fun c6 => ?_)
  · replace h := Ok_t c6 h
    exact am_Ev.sub (L := [(0, .ref 87), (2, .int (l2))]) ⟨rfl, rfl, trivial⟩ (cR_takeOne_181_ok l2 _ _ h)
  · replace h := Ok_f c6 h
    refine ev_iload_n (pc' := 162) m_205 rfl rfl rfl (ev_bipush (pc' := 164) (x := 21) m_205 rfl rfl rfl ?_)
    refine ev_icmp_ne (t := 181) (e := 167) m_205 rfl rfl rfl (fun c5 => ?_) (fun c5 => ?_)
    · replace h := Ok_f c5 h
      exact am_Ev.sub (L := [(0, .ref 87), (2, .int (l2))]) ⟨rfl, rfl, trivial⟩ (cR_takeOne_181_ok l2 _ _ h)
    · replace h := Ok_t c5 h
      refine ev_aload_n (pc' := 168) m_205 rfl rfl rfl (ev_iload_n (pc' := 169) m_205 rfl rfl rfl ?_)
      refine ev_if_ne (t := 176) (e := 172) m_205 rfl rfl rfl (fun c4 => ?_) (fun c4 => ?_)
      · replace h := Ok_f c4 h
        refine ev_iconst (pc' := 177) (x := 0) m_205 rfl rfl rfl ?_
        exact am_Ev.sub (L := [(0, .ref 87), (2, .int (l2))]) ⟨rfl, rfl, trivial⟩ (cR_takeOne_177_ok l2 ((0 : Int32)) _ _ h)
      · replace h := Ok_t c4 h
        refine ev_iconst (pc' := 173) (x := 1) m_205 rfl rfl rfl (ev_goto (pc' := 177) m_205 rfl rfl ?_)
        exact am_Ev.sub (L := [(0, .ref 87), (2, .int (l2))]) ⟨rfl, rfl, trivial⟩ (cR_takeOne_177_ok l2 ((1 : Int32)) _ _ h)
def cR_takeOne_150 (l1 : Int32) (l2 : Int32) (t1 : Int32) (s : ts) : Option (ts) := (cR_need t1 ((4 : Int32)) s).bind (fun s2 => cR_takeOne_154 l1 l2 s2)
set_option maxRecDepth 20000 in
theorem cR_takeOne_150_ok {d : Nat} (l1 : Int32) (l2 : Int32) (t1 : Int32) (s : ts) (Q : ts → Prop) (h : Ok (cR_takeOne_150 l1 l2 t1 s) Q) : am_Ev (d + 5) 205 (150, [(0, .ref 87), (1, .int (l1)), (2, .int (l2))], [.int (t1), .ref 87]) (lay s) (tq_v Q) := by
  unfold cR_takeOne_150 at h
  refine ev_iconst (pc' := 151) (x := 4) m_205 rfl rfl rfl ?_
  refine tr_cv (pc' := 154) m_205 rfl rfl rfl m_183 rfl rfl rfl rfl (tr_rcv ts_o87 rfl) rfl rfl (cR_need_ok t1 ((4 : Int32)) _ _ (Ok_b h)) (fun s2 h => ?_)
  exact am_Ev.sub (L := [(0, .ref 87), (1, .int (l1)), (2, .int (l2))]) ⟨rfl, rfl, rfl, trivial⟩ (cR_takeOne_154_ok l1 l2 _ _ h)
def cR_takeOne_100 (l1 : Int32) (l2 : Int32) (s : ts) : Option (ts) := (cR_good s).bind (fun x3 => (if x3.1 = ((0 : Int32)) then cR_takeOne_154 l1 l2 x3.2 else (if (gI x3.2 1106 0) = ((1 : Int32)) then (if l2 = ((-1 : Int32)) then (cR_findLocal (gJ x3.2 1108 0) x3.2).bind (fun x6 => (if x6.1 = ((-1 : Int32)) then (cR_findNumber (gJ x6.2 1108 0) x6.2).bind (fun x9 => (if x9.1 = ((-1 : Int32)) then cR_takeOne_150 l1 l2 ((0 : Int32)) x9.2 else cR_takeOne_150 l1 l2 ((1 : Int32)) x9.2)) else cR_takeOne_150 l1 l2 ((1 : Int32)) x6.2)) else cR_takeOne_154 l1 l2 x3.2) else cR_takeOne_154 l1 l2 x3.2)))
set_option maxRecDepth 20000 in
theorem cR_takeOne_100_ok {d : Nat} (l1 : Int32) (l2 : Int32) (s : ts) (Q : ts → Prop) (h : Ok (cR_takeOne_100 l1 l2 s) Q) : am_Ev (d + 5) 205 (100, [(0, .ref 87), (1, .int (l1)), (2, .int (l2))], []) (lay s) (tq_v Q) := by
  unfold cR_takeOne_100 at h
  refine ev_aload_n (pc' := 101) m_205 rfl rfl rfl ?_
  refine tr_cz (pc' := 104) m_205 rfl rfl rfl m_177 rfl rfl rfl rfl rfl (tr_rcv ts_o87 rfl) rfl rfl (cR_good_ok _ _ (Ok_b h)) (fun x3_ x3_s h1 h => ?_)
  refine ev_if_eq (t := 154) (e := 107) m_205 rfl rfl rfl (fun c14 => ?_) (fun c14 => ?_)
  · replace h := Ok_t c14 h
    exact am_Ev.sub (L := [(0, .ref 87), (1, .int (l1)), (2, .int (l2))]) ⟨rfl, rfl, rfl, trivial⟩ (cR_takeOne_154_ok l1 l2 _ _ h)
  · replace h := Ok_f c14 h
    refine ev_aload_n (pc' := 108) m_205 rfl rfl rfl (tr_get (pc' := 111) (v := .int (gI _ 1106 _)) m_205 rfl rfl ts_o87 rfl rfl rfl (ev_iconst (pc' := 112) (x := 1) m_205 rfl rfl rfl ?_))
    refine ev_icmp_ne (t := 154) (e := 115) m_205 rfl rfl rfl (fun c13 => ?_) (fun c13 => ?_)
    · replace h := Ok_f c13 h
      exact am_Ev.sub (L := [(0, .ref 87), (1, .int (l1)), (2, .int (l2))]) ⟨rfl, rfl, rfl, trivial⟩ (cR_takeOne_154_ok l1 l2 _ _ h)
    · replace h := Ok_t c13 h
      refine ev_iload_n (pc' := 116) m_205 rfl rfl rfl (ev_iconst (pc' := 117) (x := -1) m_205 rfl rfl rfl ?_)
      refine ev_icmp_ne (t := 154) (e := 120) m_205 rfl rfl rfl (fun c12 => ?_) (fun c12 => ?_)
      · replace h := Ok_f c12 h
        exact am_Ev.sub (L := [(0, .ref 87), (1, .int (l1)), (2, .int (l2))]) ⟨rfl, rfl, rfl, trivial⟩ (cR_takeOne_154_ok l1 l2 _ _ h)
      · replace h := Ok_t c12 h
        refine ev_aload_n (pc' := 121) m_205 rfl rfl rfl (ev_aload_n (pc' := 122) m_205 rfl rfl rfl (ev_aload_n (pc' := 123) m_205 rfl rfl rfl (tr_get (pc' := 126) (v := .long (gJ _ 1108 _)) m_205 rfl rfl ts_o87 rfl rfl rfl ?_)))
        refine tr_ci (pc' := 129) m_205 rfl rfl rfl m_191 rfl rfl rfl rfl (tr_rcv ts_o87 rfl) rfl rfl (cR_findLocal_ok (gJ x3_s 1108 0) _ _ (Ok_b h)) (fun x6_ x6_s h => ?_)
        refine ev_iconst (pc' := 130) (x := -1) m_205 rfl rfl rfl ?_
        refine ev_icmp_ne (t := 145) (e := 133) m_205 rfl rfl rfl (fun c11 => ?_) (fun c11 => ?_)
        · replace h := Ok_f c11 h
          refine ev_iconst (pc' := 146) (x := 1) m_205 rfl rfl rfl (ev_goto (pc' := 150) m_205 rfl rfl ?_)
          exact am_Ev.sub (L := [(0, .ref 87), (1, .int (l1)), (2, .int (l2))]) ⟨rfl, rfl, rfl, trivial⟩ (cR_takeOne_150_ok l1 l2 ((1 : Int32)) _ _ h)
        · replace h := Ok_t c11 h
          refine ev_aload_n (pc' := 134) m_205 rfl rfl rfl (ev_aload_n (pc' := 135) m_205 rfl rfl rfl (tr_get (pc' := 138) (v := .long (gJ _ 1108 _)) m_205 rfl rfl ts_o87 rfl rfl rfl ?_))
          refine tr_ci (pc' := 141) m_205 rfl rfl rfl m_192 rfl rfl rfl rfl (tr_rcv ts_o87 rfl) rfl rfl (cR_findNumber_ok (gJ x6_s 1108 0) _ _ (Ok_b h)) (fun x9_ x9_s h => ?_)
          refine ev_iconst (pc' := 142) (x := -1) m_205 rfl rfl rfl ?_
          refine ev_icmp_eq (t := 149) (e := 145) m_205 rfl rfl rfl (fun c10 => ?_) (fun c10 => ?_)
          · replace h := Ok_t c10 h
            refine ev_iconst (pc' := 150) (x := 0) m_205 rfl rfl rfl ?_
            exact am_Ev.sub (L := [(0, .ref 87), (1, .int (l1)), (2, .int (l2))]) ⟨rfl, rfl, rfl, trivial⟩ (cR_takeOne_150_ok l1 l2 ((0 : Int32)) _ _ h)
          · replace h := Ok_f c10 h
            refine ev_iconst (pc' := 146) (x := 1) m_205 rfl rfl rfl (ev_goto (pc' := 150) m_205 rfl rfl ?_)
            exact am_Ev.sub (L := [(0, .ref 87), (1, .int (l1)), (2, .int (l2))]) ⟨rfl, rfl, rfl, trivial⟩ (cR_takeOne_150_ok l1 l2 ((1 : Int32)) _ _ h)
def cR_takeOne_96 (l1 : Int32) (l2 : Int32) (t1 : Int32) (s : ts) : Option (ts) := (cR_need t1 ((2 : Int32)) s).bind (fun s2 => cR_takeOne_100 l1 l2 s2)
set_option maxRecDepth 20000 in
theorem cR_takeOne_96_ok {d : Nat} (l1 : Int32) (l2 : Int32) (t1 : Int32) (s : ts) (Q : ts → Prop) (h : Ok (cR_takeOne_96 l1 l2 t1 s) Q) : am_Ev (d + 5) 205 (96, [(0, .ref 87), (1, .int (l1)), (2, .int (l2))], [.int (t1), .ref 87]) (lay s) (tq_v Q) := by
  unfold cR_takeOne_96 at h
  refine ev_iconst (pc' := 97) (x := 2) m_205 rfl rfl rfl ?_
  refine tr_cv (pc' := 100) m_205 rfl rfl rfl m_183 rfl rfl rfl rfl (tr_rcv ts_o87 rfl) rfl rfl (cR_need_ok t1 ((2 : Int32)) _ _ (Ok_b h)) (fun s2 h => ?_)
  exact am_Ev.sub (L := [(0, .ref 87), (1, .int (l1)), (2, .int (l2))]) ⟨rfl, rfl, rfl, trivial⟩ (cR_takeOne_100_ok l1 l2 _ _ h)
def cR_takeOne_49 (l1 : Int32) (t1 : Int32) (s : ts) : Option (ts) := (cR_need t1 ((2 : Int32)) s).bind (fun s2 => (cR_reserved s2).bind (fun x6 => (cR_good x6.2).bind (fun x9 => (if x9.1 = ((0 : Int32)) then cR_takeOne_100 l1 x6.1 x9.2 else (if (gI x9.2 1106 0) = ((1 : Int32)) then (if x6.1 = ((-1 : Int32)) then cR_takeOne_96 l1 x6.1 ((1 : Int32)) x9.2 else (if x6.1 < ((19 : Int32)) then cR_takeOne_96 l1 x6.1 ((0 : Int32)) x9.2 else (if ((23 : Int32)) < x6.1 then cR_takeOne_96 l1 x6.1 ((0 : Int32)) x9.2 else cR_takeOne_96 l1 x6.1 ((1 : Int32)) x9.2))) else cR_takeOne_100 l1 x6.1 x9.2)))))
set_option maxRecDepth 20000 in
theorem cR_takeOne_49_ok {d : Nat} (l1 : Int32) (t1 : Int32) (s : ts) (Q : ts → Prop) (h : Ok (cR_takeOne_49 l1 t1 s) Q) : am_Ev (d + 5) 205 (49, [(0, .ref 87), (1, .int (l1))], [.int (t1), .ref 87]) (lay s) (tq_v Q) := by
  unfold cR_takeOne_49 at h
  refine ev_iconst (pc' := 50) (x := 2) m_205 rfl rfl rfl ?_
  refine tr_cv (pc' := 53) m_205 rfl rfl rfl m_183 rfl rfl rfl rfl (tr_rcv ts_o87 rfl) rfl rfl (cR_need_ok t1 ((2 : Int32)) _ _ (Ok_b h)) (fun s2 h => ?_)
  refine ev_aload_n (pc' := 54) m_205 rfl rfl rfl ?_
  refine tr_ci (pc' := 57) m_205 rfl rfl rfl m_185 rfl rfl rfl rfl (tr_rcv ts_o87 rfl) rfl rfl (cR_reserved_ok _ _ (Ok_b h)) (fun x6_ x6_s h => ?_)
  refine ev_istore_n (pc' := 58) m_205 rfl rfl rfl rfl (ev_aload_n (pc' := 59) m_205 rfl rfl rfl ?_)
  refine tr_cz (pc' := 62) m_205 rfl rfl rfl m_177 rfl rfl rfl rfl rfl (tr_rcv ts_o87 rfl) rfl rfl (cR_good_ok _ _ (Ok_b h)) (fun x9_ x9_s h7 h => ?_)
  refine ev_if_eq (t := 100) (e := 65) m_205 rfl rfl rfl (fun c14 => ?_) (fun c14 => ?_)
  · replace h := Ok_t c14 h
    exact am_Ev.sub (L := [(0, .ref 87), (1, .int (l1)), (2, .int (x6_))]) ⟨rfl, rfl, rfl, trivial⟩ (cR_takeOne_100_ok l1 x6_ _ _ h)
  · replace h := Ok_f c14 h
    refine ev_aload_n (pc' := 66) m_205 rfl rfl rfl (tr_get (pc' := 69) (v := .int (gI _ 1106 _)) m_205 rfl rfl ts_o87 rfl rfl rfl (ev_iconst (pc' := 70) (x := 1) m_205 rfl rfl rfl ?_))
    refine ev_icmp_ne (t := 100) (e := 73) m_205 rfl rfl rfl (fun c13 => ?_) (fun c13 => ?_)
    · replace h := Ok_f c13 h
      exact am_Ev.sub (L := [(0, .ref 87), (1, .int (l1)), (2, .int (x6_))]) ⟨rfl, rfl, rfl, trivial⟩ (cR_takeOne_100_ok l1 x6_ _ _ h)
    · replace h := Ok_t c13 h
      refine ev_aload_n (pc' := 74) m_205 rfl rfl rfl (ev_iload_n (pc' := 75) m_205 rfl rfl rfl (ev_iconst (pc' := 76) (x := -1) m_205 rfl rfl rfl ?_))
      refine ev_icmp_eq (t := 91) (e := 79) m_205 rfl rfl rfl (fun c12 => ?_) (fun c12 => ?_)
      · replace h := Ok_t c12 h
        refine ev_iconst (pc' := 92) (x := 1) m_205 rfl rfl rfl (ev_goto (pc' := 96) m_205 rfl rfl ?_)
        exact am_Ev.sub (L := [(0, .ref 87), (1, .int (l1)), (2, .int (x6_))]) ⟨rfl, rfl, rfl, trivial⟩ (cR_takeOne_96_ok l1 x6_ ((1 : Int32)) _ _ h)
      · replace h := Ok_f c12 h
        refine ev_iload_n (pc' := 80) m_205 rfl rfl rfl (ev_bipush (pc' := 82) (x := 19) m_205 rfl rfl rfl ?_)
        refine ev_icmp_lt (t := 95) (e := 85) m_205 rfl rfl rfl (fun c11 => ?_) (fun c11 => ?_)
        · replace h := Ok_t c11 h
          refine ev_iconst (pc' := 96) (x := 0) m_205 rfl rfl rfl ?_
          exact am_Ev.sub (L := [(0, .ref 87), (1, .int (l1)), (2, .int (x6_))]) ⟨rfl, rfl, rfl, trivial⟩ (cR_takeOne_96_ok l1 x6_ ((0 : Int32)) _ _ h)
        · replace h := Ok_f c11 h
          refine ev_iload_n (pc' := 86) m_205 rfl rfl rfl (ev_bipush (pc' := 88) (x := 23) m_205 rfl rfl rfl ?_)
          refine ev_icmp_gt (t := 95) (e := 91) m_205 rfl rfl rfl (fun c10 => ?_) (fun c10 => ?_)
          · replace h := Ok_t c10 h
            refine ev_iconst (pc' := 96) (x := 0) m_205 rfl rfl rfl ?_
            exact am_Ev.sub (L := [(0, .ref 87), (1, .int (l1)), (2, .int (x6_))]) ⟨rfl, rfl, rfl, trivial⟩ (cR_takeOne_96_ok l1 x6_ ((0 : Int32)) _ _ h)
          · replace h := Ok_f c10 h
            refine ev_iconst (pc' := 92) (x := 1) m_205 rfl rfl rfl (ev_goto (pc' := 96) m_205 rfl rfl ?_)
            exact am_Ev.sub (L := [(0, .ref 87), (1, .int (l1)), (2, .int (x6_))]) ⟨rfl, rfl, rfl, trivial⟩ (cR_takeOne_96_ok l1 x6_ ((1 : Int32)) _ _ h)
def cR_takeOne (l1 : Int32) (s : ts) : Option (ts) := (if (gI s 1106 0) = ((1 : Int32)) then cR_takeOne_49 l1 ((1 : Int32)) s else (if (gI s 1106 0) = ((2 : Int32)) then cR_takeOne_49 l1 ((1 : Int32)) s else (if (gI s 1106 0) = ((45 : Int32)) then cR_takeOne_49 l1 ((1 : Int32)) s else (if (gI s 1106 0) = ((33 : Int32)) then cR_takeOne_49 l1 ((1 : Int32)) s else (if (gI s 1106 0) = ((40 : Int32)) then cR_takeOne_49 l1 ((1 : Int32)) s else cR_takeOne_49 l1 ((0 : Int32)) s)))))
set_option maxRecDepth 20000 in
theorem cR_takeOne_ok {d : Nat} (l1 : Int32) (s : ts) (Q : ts → Prop) (h : Ok (cR_takeOne l1 s) Q) : am_Ev (d + 5) 205 (0, [(0, .ref 87), (1, .int (l1))], []) (lay s) (tq_v Q) := by
  unfold cR_takeOne at h
  refine ev_aload_n (pc' := 1) m_205 rfl rfl rfl (ev_aload_n (pc' := 2) m_205 rfl rfl rfl (tr_get (pc' := 5) (v := .int (gI _ 1106 _)) m_205 rfl rfl ts_o87 rfl rfl rfl (ev_iconst (pc' := 6) (x := 1) m_205 rfl rfl rfl ?_)))
  refine ev_icmp_eq (t := 44) (e := 9) m_205 rfl rfl rfl (fun c5 => ?_) (fun c5 => ?_)
  · replace h := Ok_t c5 h
    refine ev_iconst (pc' := 45) (x := 1) m_205 rfl rfl rfl (ev_goto (pc' := 49) m_205 rfl rfl ?_)
    exact am_Ev.sub (L := [(0, .ref 87), (1, .int (l1))]) ⟨rfl, rfl, trivial⟩ (cR_takeOne_49_ok l1 ((1 : Int32)) _ _ h)
  · replace h := Ok_f c5 h
    refine ev_aload_n (pc' := 10) m_205 rfl rfl rfl (tr_get (pc' := 13) (v := .int (gI _ 1106 _)) m_205 rfl rfl ts_o87 rfl rfl rfl (ev_iconst (pc' := 14) (x := 2) m_205 rfl rfl rfl ?_))
    refine ev_icmp_eq (t := 44) (e := 17) m_205 rfl rfl rfl (fun c4 => ?_) (fun c4 => ?_)
    · replace h := Ok_t c4 h
      refine ev_iconst (pc' := 45) (x := 1) m_205 rfl rfl rfl (ev_goto (pc' := 49) m_205 rfl rfl ?_)
      exact am_Ev.sub (L := [(0, .ref 87), (1, .int (l1))]) ⟨rfl, rfl, trivial⟩ (cR_takeOne_49_ok l1 ((1 : Int32)) _ _ h)
    · replace h := Ok_f c4 h
      refine ev_aload_n (pc' := 18) m_205 rfl rfl rfl (tr_get (pc' := 21) (v := .int (gI _ 1106 _)) m_205 rfl rfl ts_o87 rfl rfl rfl (ev_bipush (pc' := 23) (x := 45) m_205 rfl rfl rfl ?_))
      refine ev_icmp_eq (t := 44) (e := 26) m_205 rfl rfl rfl (fun c3 => ?_) (fun c3 => ?_)
      · replace h := Ok_t c3 h
        refine ev_iconst (pc' := 45) (x := 1) m_205 rfl rfl rfl (ev_goto (pc' := 49) m_205 rfl rfl ?_)
        exact am_Ev.sub (L := [(0, .ref 87), (1, .int (l1))]) ⟨rfl, rfl, trivial⟩ (cR_takeOne_49_ok l1 ((1 : Int32)) _ _ h)
      · replace h := Ok_f c3 h
        refine ev_aload_n (pc' := 27) m_205 rfl rfl rfl (tr_get (pc' := 30) (v := .int (gI _ 1106 _)) m_205 rfl rfl ts_o87 rfl rfl rfl (ev_bipush (pc' := 32) (x := 33) m_205 rfl rfl rfl ?_))
        refine ev_icmp_eq (t := 44) (e := 35) m_205 rfl rfl rfl (fun c2 => ?_) (fun c2 => ?_)
        · replace h := Ok_t c2 h
          refine ev_iconst (pc' := 45) (x := 1) m_205 rfl rfl rfl (ev_goto (pc' := 49) m_205 rfl rfl ?_)
          exact am_Ev.sub (L := [(0, .ref 87), (1, .int (l1))]) ⟨rfl, rfl, trivial⟩ (cR_takeOne_49_ok l1 ((1 : Int32)) _ _ h)
        · replace h := Ok_f c2 h
          refine ev_aload_n (pc' := 36) m_205 rfl rfl rfl (tr_get (pc' := 39) (v := .int (gI _ 1106 _)) m_205 rfl rfl ts_o87 rfl rfl rfl (ev_bipush (pc' := 41) (x := 40) m_205 rfl rfl rfl ?_))
          refine ev_icmp_ne (t := 48) (e := 44) m_205 rfl rfl rfl (fun c1 => ?_) (fun c1 => ?_)
          · replace h := Ok_f c1 h
            refine ev_iconst (pc' := 49) (x := 0) m_205 rfl rfl rfl ?_
            exact am_Ev.sub (L := [(0, .ref 87), (1, .int (l1))]) ⟨rfl, rfl, trivial⟩ (cR_takeOne_49_ok l1 ((0 : Int32)) _ _ h)
          · replace h := Ok_t c1 h
            refine ev_iconst (pc' := 45) (x := 1) m_205 rfl rfl rfl (ev_goto (pc' := 49) m_205 rfl rfl ?_)
            exact am_Ev.sub (L := [(0, .ref 87), (1, .int (l1))]) ⟨rfl, rfl, trivial⟩ (cR_takeOne_49_ok l1 ((1 : Int32)) _ _ h)
def cR_rankOf (l0 : Int32) (s : ts) : Option (Int32 × ts) := (if l0 = ((305 : Int32)) then some ((1 : Int32), s) else (if l0 = ((304 : Int32)) then some ((2 : Int32), s) else (if l0 = ((60 : Int32)) then some ((3 : Int32), s) else (if l0 = ((62 : Int32)) then some ((3 : Int32), s) else (if l0 = ((302 : Int32)) then some ((3 : Int32), s) else (if l0 = ((303 : Int32)) then some ((3 : Int32), s) else (if l0 = ((300 : Int32)) then some ((3 : Int32), s) else (if l0 = ((301 : Int32)) then some ((3 : Int32), s) else (if l0 = ((43 : Int32)) then some ((4 : Int32), s) else (if l0 = ((45 : Int32)) then some ((4 : Int32), s) else (if l0 = ((42 : Int32)) then some ((5 : Int32), s) else (if l0 = ((47 : Int32)) then some ((5 : Int32), s) else (if l0 = ((37 : Int32)) then some ((5 : Int32), s) else some ((0 : Int32), s))))))))))))))
set_option maxRecDepth 20000 in
theorem cR_rankOf_ok {d : Nat} (l0 : Int32) (s : ts) (Q : Int32 × ts → Prop) (h : Ok (cR_rankOf l0 s) Q) : am_Ev (d + 0) 214 (0, [(0, .int (l0))], []) (lay s) (tq_i Q) := by
  unfold cR_rankOf at h
  refine ev_iload_n (pc' := 1) m_214 rfl rfl rfl (ev_sipush (pc' := 4) (x := 305) m_214 rfl rfl rfl ?_)
  refine ev_icmp_ne (t := 11) (e := 7) m_214 rfl rfl rfl (fun c13 => ?_) (fun c13 => ?_)
  · replace h := Ok_f c13 h
    refine ev_iload_n (pc' := 12) m_214 rfl rfl rfl (ev_sipush (pc' := 15) (x := 304) m_214 rfl rfl rfl ?_)
    refine ev_icmp_ne (t := 22) (e := 18) m_214 rfl rfl rfl (fun c12 => ?_) (fun c12 => ?_)
    · replace h := Ok_f c12 h
      refine ev_iload_n (pc' := 23) m_214 rfl rfl rfl (ev_bipush (pc' := 25) (x := 60) m_214 rfl rfl rfl ?_)
      refine ev_icmp_eq (t := 62) (e := 28) m_214 rfl rfl rfl (fun c11 => ?_) (fun c11 => ?_)
      · replace h := Ok_t c11 h
        refine ev_iconst (pc' := 63) (x := 3) m_214 rfl rfl rfl (ev_goto (pc' := 105) m_214 rfl rfl ?_)
        exact tr_ri m_214 rfl rfl (Ok_s h)
      · replace h := Ok_f c11 h
        refine ev_iload_n (pc' := 29) m_214 rfl rfl rfl (ev_bipush (pc' := 31) (x := 62) m_214 rfl rfl rfl ?_)
        refine ev_icmp_eq (t := 62) (e := 34) m_214 rfl rfl rfl (fun c10 => ?_) (fun c10 => ?_)
        · replace h := Ok_t c10 h
          refine ev_iconst (pc' := 63) (x := 3) m_214 rfl rfl rfl (ev_goto (pc' := 105) m_214 rfl rfl ?_)
          exact tr_ri m_214 rfl rfl (Ok_s h)
        · replace h := Ok_f c10 h
          refine ev_iload_n (pc' := 35) m_214 rfl rfl rfl (ev_sipush (pc' := 38) (x := 302) m_214 rfl rfl rfl ?_)
          refine ev_icmp_eq (t := 62) (e := 41) m_214 rfl rfl rfl (fun c9 => ?_) (fun c9 => ?_)
          · replace h := Ok_t c9 h
            refine ev_iconst (pc' := 63) (x := 3) m_214 rfl rfl rfl (ev_goto (pc' := 105) m_214 rfl rfl ?_)
            exact tr_ri m_214 rfl rfl (Ok_s h)
          · replace h := Ok_f c9 h
            refine ev_iload_n (pc' := 42) m_214 rfl rfl rfl (ev_sipush (pc' := 45) (x := 303) m_214 rfl rfl rfl ?_)
            refine ev_icmp_eq (t := 62) (e := 48) m_214 rfl rfl rfl (fun c8 => ?_) (fun c8 => ?_)
            · replace h := Ok_t c8 h
              refine ev_iconst (pc' := 63) (x := 3) m_214 rfl rfl rfl (ev_goto (pc' := 105) m_214 rfl rfl ?_)
              exact tr_ri m_214 rfl rfl (Ok_s h)
            · replace h := Ok_f c8 h
              refine ev_iload_n (pc' := 49) m_214 rfl rfl rfl (ev_sipush (pc' := 52) (x := 300) m_214 rfl rfl rfl ?_)
              refine ev_icmp_eq (t := 62) (e := 55) m_214 rfl rfl rfl (fun c7 => ?_) (fun c7 => ?_)
              · replace h := Ok_t c7 h
                refine ev_iconst (pc' := 63) (x := 3) m_214 rfl rfl rfl (ev_goto (pc' := 105) m_214 rfl rfl ?_)
                exact tr_ri m_214 rfl rfl (Ok_s h)
              · replace h := Ok_f c7 h
                refine ev_iload_n (pc' := 56) m_214 rfl rfl rfl (ev_sipush (pc' := 59) (x := 301) m_214 rfl rfl rfl ?_)
                refine ev_icmp_ne (t := 66) (e := 62) m_214 rfl rfl rfl (fun c6 => ?_) (fun c6 => ?_)
                · replace h := Ok_f c6 h
                  refine ev_iload_n (pc' := 67) m_214 rfl rfl rfl (ev_bipush (pc' := 69) (x := 43) m_214 rfl rfl rfl ?_)
                  refine ev_icmp_eq (t := 78) (e := 72) m_214 rfl rfl rfl (fun c5 => ?_) (fun c5 => ?_)
                  · replace h := Ok_t c5 h
                    refine ev_iconst (pc' := 79) (x := 4) m_214 rfl rfl rfl (ev_goto (pc' := 105) m_214 rfl rfl ?_)
                    exact tr_ri m_214 rfl rfl (Ok_s h)
                  · replace h := Ok_f c5 h
                    refine ev_iload_n (pc' := 73) m_214 rfl rfl rfl (ev_bipush (pc' := 75) (x := 45) m_214 rfl rfl rfl ?_)
                    refine ev_icmp_ne (t := 82) (e := 78) m_214 rfl rfl rfl (fun c4 => ?_) (fun c4 => ?_)
                    · replace h := Ok_f c4 h
                      refine ev_iload_n (pc' := 83) m_214 rfl rfl rfl (ev_bipush (pc' := 85) (x := 42) m_214 rfl rfl rfl ?_)
                      refine ev_icmp_eq (t := 100) (e := 88) m_214 rfl rfl rfl (fun c3 => ?_) (fun c3 => ?_)
                      · replace h := Ok_t c3 h
                        refine ev_iconst (pc' := 101) (x := 5) m_214 rfl rfl rfl (ev_goto (pc' := 105) m_214 rfl rfl ?_)
                        exact tr_ri m_214 rfl rfl (Ok_s h)
                      · replace h := Ok_f c3 h
                        refine ev_iload_n (pc' := 89) m_214 rfl rfl rfl (ev_bipush (pc' := 91) (x := 47) m_214 rfl rfl rfl ?_)
                        refine ev_icmp_eq (t := 100) (e := 94) m_214 rfl rfl rfl (fun c2 => ?_) (fun c2 => ?_)
                        · replace h := Ok_t c2 h
                          refine ev_iconst (pc' := 101) (x := 5) m_214 rfl rfl rfl (ev_goto (pc' := 105) m_214 rfl rfl ?_)
                          exact tr_ri m_214 rfl rfl (Ok_s h)
                        · replace h := Ok_f c2 h
                          refine ev_iload_n (pc' := 95) m_214 rfl rfl rfl (ev_bipush (pc' := 97) (x := 37) m_214 rfl rfl rfl ?_)
                          refine ev_icmp_ne (t := 104) (e := 100) m_214 rfl rfl rfl (fun c1 => ?_) (fun c1 => ?_)
                          · replace h := Ok_f c1 h
                            refine ev_iconst (pc' := 105) (x := 0) m_214 rfl rfl rfl ?_
                            exact tr_ri m_214 rfl rfl (Ok_s h)
                          · replace h := Ok_t c1 h
                            refine ev_iconst (pc' := 101) (x := 5) m_214 rfl rfl rfl (ev_goto (pc' := 105) m_214 rfl rfl ?_)
                            exact tr_ri m_214 rfl rfl (Ok_s h)
                    · replace h := Ok_t c4 h
                      refine ev_iconst (pc' := 79) (x := 4) m_214 rfl rfl rfl (ev_goto (pc' := 105) m_214 rfl rfl ?_)
                      exact tr_ri m_214 rfl rfl (Ok_s h)
                · replace h := Ok_t c6 h
                  refine ev_iconst (pc' := 63) (x := 3) m_214 rfl rfl rfl (ev_goto (pc' := 105) m_214 rfl rfl ?_)
                  exact tr_ri m_214 rfl rfl (Ok_s h)
    · replace h := Ok_t c12 h
      refine ev_iconst (pc' := 19) (x := 2) m_214 rfl rfl rfl (ev_goto (pc' := 105) m_214 rfl rfl ?_)
      exact tr_ri m_214 rfl rfl (Ok_s h)
  · replace h := Ok_t c13 h
    refine ev_iconst (pc' := 8) (x := 1) m_214 rfl rfl rfl (ev_goto (pc' := 105) m_214 rfl rfl ?_)
    exact tr_ri m_214 rfl rfl (Ok_s h)
def cR_takeSign_222 (s : ts) : Option (ts) := (cR_next s).bind (fun s2 => (cR_endOne s2).bind (fun s5 => some s5))
set_option maxRecDepth 20000 in
theorem cR_takeSign_222_ok {d : Nat} (s : ts) (Q : ts → Prop) (h : Ok (cR_takeSign_222 s) Q) : am_Ev (d + 4) 213 (222, [(0, .ref 87)], []) (lay s) (tq_v Q) := by
  unfold cR_takeSign_222 at h
  refine ev_aload_n (pc' := 223) m_213 rfl rfl rfl ?_
  refine tr_cv (pc' := 226) m_213 rfl rfl rfl m_176 rfl rfl rfl rfl (tr_rcv ts_o87 rfl) rfl rfl (cR_next_ok _ _ (Ok_b h)) (fun s2 h => ?_)
  refine ev_aload_n (pc' := 227) m_213 rfl rfl rfl ?_
  refine tr_cv (pc' := 230) m_213 rfl rfl rfl m_210 rfl rfl rfl rfl (tr_rcv ts_o87 rfl) rfl rfl (cR_endOne_ok _ _ (Ok_b h)) (fun s5 h => ?_)
  exact tr_rv m_213 rfl rfl (Ok_s h)
def cR_takeSign_156 (t1 : Int32) (s : ts) : Option (ts) := (cR_need t1 ((2 : Int32)) s).bind (fun s2 => (cR_good s2).bind (fun x6 => (if x6.1 = ((0 : Int32)) then some x6.2 else (if am_idx (gI (wI (wI x6.2 1142 0 ((gI x6.2 1142 0) - ((1 : Int32)))) 1148 0 ((gI (wI x6.2 1142 0 ((gI x6.2 1142 0) - ((1 : Int32)))) 1148 0) - ((1 : Int32)))) 1142 0) 4100 = true then (if (gA (wI (wI x6.2 1142 0 ((gI x6.2 1142 0) - ((1 : Int32)))) 1148 0 ((gI (wI x6.2 1142 0 ((gI x6.2 1142 0) - ((1 : Int32)))) 1148 0) - ((1 : Int32)))) 115 (gI (wI (wI x6.2 1142 0 ((gI x6.2 1142 0) - ((1 : Int32)))) 1148 0 ((gI (wI x6.2 1142 0 ((gI x6.2 1142 0) - ((1 : Int32)))) 1148 0) - ((1 : Int32)))) 1142 0).toNatClampNeg) = 0 ∨ (gA (wI (wI x6.2 1142 0 ((gI x6.2 1142 0) - ((1 : Int32)))) 1148 0 ((gI (wI x6.2 1142 0 ((gI x6.2 1142 0) - ((1 : Int32)))) 1148 0) - ((1 : Int32)))) 115 (gI (wI (wI x6.2 1142 0 ((gI x6.2 1142 0) - ((1 : Int32)))) 1148 0 ((gI (wI x6.2 1142 0 ((gI x6.2 1142 0) - ((1 : Int32)))) 1148 0) - ((1 : Int32)))) 1142 0).toNatClampNeg) = 1 then (if am_idx (gI (wI (wI (wI x6.2 1142 0 ((gI x6.2 1142 0) - ((1 : Int32)))) 1148 0 ((gI (wI x6.2 1142 0 ((gI x6.2 1142 0) - ((1 : Int32)))) 1148 0) - ((1 : Int32)))) 1149 0 (gA (wI (wI x6.2 1142 0 ((gI x6.2 1142 0) - ((1 : Int32)))) 1148 0 ((gI (wI x6.2 1142 0 ((gI x6.2 1142 0) - ((1 : Int32)))) 1148 0) - ((1 : Int32)))) 115 (gI (wI (wI x6.2 1142 0 ((gI x6.2 1142 0) - ((1 : Int32)))) 1148 0 ((gI (wI x6.2 1142 0 ((gI x6.2 1142 0) - ((1 : Int32)))) 1148 0) - ((1 : Int32)))) 1142 0).toNatClampNeg)) 1142 0) 4100 = true then (if (gA (wI (wI (wI x6.2 1142 0 ((gI x6.2 1142 0) - ((1 : Int32)))) 1148 0 ((gI (wI x6.2 1142 0 ((gI x6.2 1142 0) - ((1 : Int32)))) 1148 0) - ((1 : Int32)))) 1149 0 (gA (wI (wI x6.2 1142 0 ((gI x6.2 1142 0) - ((1 : Int32)))) 1148 0 ((gI (wI x6.2 1142 0 ((gI x6.2 1142 0) - ((1 : Int32)))) 1148 0) - ((1 : Int32)))) 115 (gI (wI (wI x6.2 1142 0 ((gI x6.2 1142 0) - ((1 : Int32)))) 1148 0 ((gI (wI x6.2 1142 0 ((gI x6.2 1142 0) - ((1 : Int32)))) 1148 0) - ((1 : Int32)))) 1142 0).toNatClampNeg)) 112 (gI (wI (wI (wI x6.2 1142 0 ((gI x6.2 1142 0) - ((1 : Int32)))) 1148 0 ((gI (wI x6.2 1142 0 ((gI x6.2 1142 0) - ((1 : Int32)))) 1148 0) - ((1 : Int32)))) 1149 0 (gA (wI (wI x6.2 1142 0 ((gI x6.2 1142 0) - ((1 : Int32)))) 1148 0 ((gI (wI x6.2 1142 0 ((gI x6.2 1142 0) - ((1 : Int32)))) 1148 0) - ((1 : Int32)))) 115 (gI (wI (wI x6.2 1142 0 ((gI x6.2 1142 0) - ((1 : Int32)))) 1148 0 ((gI (wI x6.2 1142 0 ((gI x6.2 1142 0) - ((1 : Int32)))) 1148 0) - ((1 : Int32)))) 1142 0).toNatClampNeg)) 1142 0).toNatClampNeg) = ((6 : Int32)) then (cR_add ((6 : Int32)) ((0 : Int32)) (wI (wI (wI x6.2 1142 0 ((gI x6.2 1142 0) - ((1 : Int32)))) 1148 0 ((gI (wI x6.2 1142 0 ((gI x6.2 1142 0) - ((1 : Int32)))) 1148 0) - ((1 : Int32)))) 1149 0 (gA (wI (wI x6.2 1142 0 ((gI x6.2 1142 0) - ((1 : Int32)))) 1148 0 ((gI (wI x6.2 1142 0 ((gI x6.2 1142 0) - ((1 : Int32)))) 1148 0) - ((1 : Int32)))) 115 (gI (wI (wI x6.2 1142 0 ((gI x6.2 1142 0) - ((1 : Int32)))) 1148 0 ((gI (wI x6.2 1142 0 ((gI x6.2 1142 0) - ((1 : Int32)))) 1148 0) - ((1 : Int32)))) 1142 0).toNatClampNeg))).bind (fun x12 => cR_takeSign_222 x12.2) else cR_takeSign_222 (wI (wI (wI x6.2 1142 0 ((gI x6.2 1142 0) - ((1 : Int32)))) 1148 0 ((gI (wI x6.2 1142 0 ((gI x6.2 1142 0) - ((1 : Int32)))) 1148 0) - ((1 : Int32)))) 1149 0 (gA (wI (wI x6.2 1142 0 ((gI x6.2 1142 0) - ((1 : Int32)))) 1148 0 ((gI (wI x6.2 1142 0 ((gI x6.2 1142 0) - ((1 : Int32)))) 1148 0) - ((1 : Int32)))) 115 (gI (wI (wI x6.2 1142 0 ((gI x6.2 1142 0) - ((1 : Int32)))) 1148 0 ((gI (wI x6.2 1142 0 ((gI x6.2 1142 0) - ((1 : Int32)))) 1148 0) - ((1 : Int32)))) 1142 0).toNatClampNeg))) else none) else none) else none))))
set_option maxRecDepth 20000 in
theorem cR_takeSign_156_ok {d : Nat} (t1 : Int32) (s : ts) (Q : ts → Prop) (h : Ok (cR_takeSign_156 t1 s) Q) : am_Ev (d + 4) 213 (156, [(0, .ref 87)], [.int (t1), .ref 87]) (lay s) (tq_v Q) := by
  unfold cR_takeSign_156 at h
  refine ev_iconst (pc' := 157) (x := 2) m_213 rfl rfl rfl ?_
  refine tr_cv (pc' := 160) m_213 rfl rfl rfl m_183 rfl rfl rfl rfl (tr_rcv ts_o87 rfl) rfl rfl (cR_need_ok t1 ((2 : Int32)) _ _ (Ok_b h)) (fun s2 h => ?_)
  refine ev_aload_n (pc' := 161) m_213 rfl rfl rfl ?_
  refine tr_cz (pc' := 164) m_213 rfl rfl rfl m_177 rfl rfl rfl rfl rfl (tr_rcv ts_o87 rfl) rfl rfl (cR_good_ok _ _ (Ok_b h)) (fun x6_ x6_s h4 h => ?_)
  refine ev_if_eq (t := 230) (e := 167) m_213 rfl rfl rfl (fun c14 => ?_) (fun c14 => ?_)
  · replace h := Ok_t c14 h
    exact tr_rv m_213 rfl rfl (Ok_s h)
  · replace h := Ok_f c14 h
    refine ev_aload_n (pc' := 168) m_213 rfl rfl rfl (ev_dup (pc' := 169) m_213 rfl rfl rfl (tr_get (pc' := 172) (v := .int (gI _ 1142 _)) m_213 rfl rfl ts_o87 rfl rfl rfl (ev_iconst (pc' := 173) (x := 1) m_213 rfl rfl rfl (ev_isub (pc' := 174) m_213 rfl rfl (tr_pI (pc' := 177) (f := 1142) m_213 rfl rfl rfl ts_o87 rfl rfl rfl rfl (ev_aload_n (pc' := 178) m_213 rfl rfl rfl (ev_dup (pc' := 179) m_213 rfl rfl rfl ?_)))))))
    refine tr_get (pc' := 182) (v := .int (gI _ 1148 _)) m_213 rfl rfl ts_o87 rfl rfl rfl (ev_iconst (pc' := 183) (x := 1) m_213 rfl rfl rfl (ev_isub (pc' := 184) m_213 rfl rfl (tr_pI (pc' := 187) (f := 1148) m_213 rfl rfl rfl ts_o87 rfl rfl rfl rfl (ev_aload_n (pc' := 188) m_213 rfl rfl rfl (ev_aload_n (pc' := 189) m_213 rfl rfl rfl (tr_get (pc' := 192) (v := .ref 115) m_213 rfl rfl ts_o87 rfl rfl rfl (ev_aload_n (pc' := 193) m_213 rfl rfl rfl ?_)))))))
    refine tr_get (pc' := 196) (v := .int (gI _ 1142 _)) m_213 rfl rfl ts_o87 rfl rfl rfl ?_
    obtain ⟨g7, h⟩ := Ok_g h
    refine tr_zald (pc' := 197) m_213 rfl rfl rfl g7 rfl ?_
    obtain ⟨g8, h⟩ := Ok_g h
    refine tr_pZ (pc' := 200) (f := 1149) m_213 rfl rfl rfl ts_o87 rfl rfl g8 rfl rfl (ev_aload_n (pc' := 201) m_213 rfl rfl rfl (tr_get (pc' := 204) (v := .ref 112) m_213 rfl rfl ts_o87 rfl rfl rfl (ev_aload_n (pc' := 205) m_213 rfl rfl rfl (tr_get (pc' := 208) (v := .int (gI _ 1142 _)) m_213 rfl rfl ts_o87 rfl rfl rfl ?_))))
    obtain ⟨g9, h⟩ := Ok_g h
    refine tr_iald (pc' := 209) m_213 rfl rfl rfl g9 rfl (ev_bipush (pc' := 211) (x := 6) m_213 rfl rfl rfl ?_)
    refine ev_icmp_ne (t := 222) (e := 214) m_213 rfl rfl rfl (fun c13 => ?_) (fun c13 => ?_)
    · replace h := Ok_f c13 h
      exact am_Ev.sub (L := [(0, .ref 87)]) ⟨rfl, trivial⟩ (cR_takeSign_222_ok _ _ h)
    · replace h := Ok_t c13 h
      refine ev_aload_n (pc' := 215) m_213 rfl rfl rfl (ev_bipush (pc' := 217) (x := 6) m_213 rfl rfl rfl (ev_iconst (pc' := 218) (x := 0) m_213 rfl rfl rfl ?_))
      refine tr_ci (pc' := 221) m_213 rfl rfl rfl m_209 rfl rfl rfl rfl (tr_rcv ts_o87 rfl) rfl rfl (cR_add_ok ((6 : Int32)) ((0 : Int32)) _ _ (Ok_b h)) (fun x12_ x12_s h => ?_)
      refine ev_istore_n (pc' := 222) m_213 rfl rfl rfl rfl ?_
      exact am_Ev.sub (L := [(0, .ref 87)]) ⟨rfl, trivial⟩ (cR_takeSign_222_ok _ _ h)
def cR_takeSign_130 (t0 : Int32) (s : ts) : Option (ts) := (if t0 = ((0 : Int32)) then some (wI s 1151 0 ((1 : Int32))) else (if (gI s 1106 0) = ((41 : Int32)) then cR_takeSign_156 ((1 : Int32)) s else cR_takeSign_156 ((0 : Int32)) s))
set_option maxRecDepth 20000 in
theorem cR_takeSign_130_ok {d : Nat} (t0 : Int32) (s : ts) (Q : ts → Prop) (h : Ok (cR_takeSign_130 t0 s) Q) : am_Ev (d + 4) 213 (130, [(0, .ref 87)], [.int (t0)]) (lay s) (tq_v Q) := by
  unfold cR_takeSign_130 at h
  refine ev_istore_n (pc' := 131) m_213 rfl rfl rfl rfl (ev_iload_n (pc' := 132) m_213 rfl rfl rfl ?_)
  refine ev_if_ne (t := 141) (e := 135) m_213 rfl rfl rfl (fun c2 => ?_) (fun c2 => ?_)
  · replace h := Ok_f c2 h
    refine ev_aload_n (pc' := 142) m_213 rfl rfl rfl (ev_aload_n (pc' := 143) m_213 rfl rfl rfl (tr_get (pc' := 146) (v := .int (gI _ 1106 _)) m_213 rfl rfl ts_o87 rfl rfl rfl (ev_bipush (pc' := 148) (x := 41) m_213 rfl rfl rfl ?_)))
    refine ev_icmp_ne (t := 155) (e := 151) m_213 rfl rfl rfl (fun c1 => ?_) (fun c1 => ?_)
    · replace h := Ok_f c1 h
      refine ev_iconst (pc' := 156) (x := 0) m_213 rfl rfl rfl ?_
      exact am_Ev.sub (L := [(0, .ref 87)]) ⟨rfl, trivial⟩ (cR_takeSign_156_ok ((0 : Int32)) _ _ h)
    · replace h := Ok_t c1 h
      refine ev_iconst (pc' := 152) (x := 1) m_213 rfl rfl rfl (ev_goto (pc' := 156) m_213 rfl rfl ?_)
      exact am_Ev.sub (L := [(0, .ref 87)]) ⟨rfl, trivial⟩ (cR_takeSign_156_ok ((1 : Int32)) _ _ h)
  · replace h := Ok_t c2 h
    refine ev_aload_n (pc' := 136) m_213 rfl rfl rfl (ev_iconst (pc' := 137) (x := 1) m_213 rfl rfl rfl (tr_pZ (pc' := 140) (f := 1151) m_213 rfl rfl rfl ts_o87 rfl rfl (Or.inr rfl) rfl rfl ?_))
    exact tr_rv m_213 rfl rfl (Ok_s h)
def cR_takeSign_96 (t1 : Int32) (s : ts) : Option (ts) := (if t1 = 0 ∨ t1 = 1 then (cR_next (wI (wI s 1149 0 t1) 1150 0 ((1 : Int32)))).bind (fun s3 => some s3) else none)
set_option maxRecDepth 20000 in
theorem cR_takeSign_96_ok {d : Nat} (t1 : Int32) (s : ts) (Q : ts → Prop) (h : Ok (cR_takeSign_96 t1 s) Q) : am_Ev (d + 4) 213 (96, [(0, .ref 87)], [.int (t1), .ref 87]) (lay s) (tq_v Q) := by
  unfold cR_takeSign_96 at h
  obtain ⟨g1, h⟩ := Ok_g h
  refine tr_pZ (pc' := 99) (f := 1149) m_213 rfl rfl rfl ts_o87 rfl rfl g1 rfl rfl (ev_aload_n (pc' := 100) m_213 rfl rfl rfl (ev_iconst (pc' := 101) (x := 1) m_213 rfl rfl rfl (tr_pZ (pc' := 104) (f := 1150) m_213 rfl rfl rfl ts_o87 rfl rfl (Or.inr rfl) rfl rfl (ev_aload_n (pc' := 105) m_213 rfl rfl rfl ?_))))
  refine tr_cv (pc' := 108) m_213 rfl rfl rfl m_176 rfl rfl rfl rfl (tr_rcv ts_o87 rfl) rfl rfl (cR_next_ok _ _ (Ok_b h)) (fun s3 h => ?_)
  exact tr_rv m_213 rfl rfl (Ok_s h)
def cR_takeSign_78 (l1 : Int32) (s : ts) : Option (ts) := (if (gI s 1149 0) = ((0 : Int32)) then (if l1 = ((3 : Int32)) then cR_takeSign_96 ((1 : Int32)) s else cR_takeSign_96 ((0 : Int32)) s) else cR_takeSign_96 ((1 : Int32)) s)
set_option maxRecDepth 20000 in
theorem cR_takeSign_78_ok {d : Nat} (l1 : Int32) (s : ts) (Q : ts → Prop) (h : Ok (cR_takeSign_78 l1 s) Q) : am_Ev (d + 4) 213 (78, [(0, .ref 87), (1, .int (l1))], []) (lay s) (tq_v Q) := by
  unfold cR_takeSign_78 at h
  refine ev_aload_n (pc' := 79) m_213 rfl rfl rfl (ev_aload_n (pc' := 80) m_213 rfl rfl rfl (tr_get (pc' := 83) (v := .int (gI _ 1149 _)) m_213 rfl rfl ts_o87 rfl rfl rfl ?_))
  refine ev_if_ne (t := 91) (e := 86) m_213 rfl rfl rfl (fun c2 => ?_) (fun c2 => ?_)
  · replace h := Ok_f c2 h
    refine ev_iconst (pc' := 92) (x := 1) m_213 rfl rfl rfl (ev_goto (pc' := 96) m_213 rfl rfl ?_)
    exact am_Ev.sub (L := [(0, .ref 87)]) ⟨rfl, trivial⟩ (cR_takeSign_96_ok ((1 : Int32)) _ _ h)
  · replace h := Ok_t c2 h
    refine ev_iload_n (pc' := 87) m_213 rfl rfl rfl (ev_iconst (pc' := 88) (x := 3) m_213 rfl rfl rfl ?_)
    refine ev_icmp_ne (t := 95) (e := 91) m_213 rfl rfl rfl (fun c1 => ?_) (fun c1 => ?_)
    · replace h := Ok_f c1 h
      refine ev_iconst (pc' := 96) (x := 0) m_213 rfl rfl rfl ?_
      exact am_Ev.sub (L := [(0, .ref 87)]) ⟨rfl, trivial⟩ (cR_takeSign_96_ok ((0 : Int32)) _ _ h)
    · replace h := Ok_t c1 h
      refine ev_iconst (pc' := 92) (x := 1) m_213 rfl rfl rfl (ev_goto (pc' := 96) m_213 rfl rfl ?_)
      exact am_Ev.sub (L := [(0, .ref 87)]) ⟨rfl, trivial⟩ (cR_takeSign_96_ok ((1 : Int32)) _ _ h)
def cR_takeSign_68 (l1 : Int32) (t1 : Int32) (t3 : Int32) (s : ts) : Option (ts) := (cR_add t3 ((0 : Int32)) s).bind (fun x3 => (if am_idx t1 4100 = true then cR_takeSign_78 l1 (wI (wA x3.2 114 t1.toNatClampNeg x3.1) 1149 0 ((0 : Int32))) else none))
set_option maxRecDepth 20000 in
theorem cR_takeSign_68_ok {d : Nat} (l1 : Int32) (t1 : Int32) (t3 : Int32) (s : ts) (Q : ts → Prop) (h : Ok (cR_takeSign_68 l1 t1 t3 s) Q) : am_Ev (d + 4) 213 (68, [(0, .ref 87), (1, .int (l1))], [.int (t3), .ref 87, .int (t1), .ref 114]) (lay s) (tq_v Q) := by
  unfold cR_takeSign_68 at h
  refine ev_iconst (pc' := 69) (x := 0) m_213 rfl rfl rfl ?_
  refine tr_ci (pc' := 72) m_213 rfl rfl rfl m_209 rfl rfl rfl rfl (tr_rcv ts_o87 rfl) rfl rfl (cR_add_ok t3 ((0 : Int32)) _ _ (Ok_b h)) (fun x3_ x3_s h => ?_)
  obtain ⟨g4, h⟩ := Ok_g h
  refine tr_iast (pc' := 73) m_213 rfl rfl rfl g4 rfl (ev_aload_n (pc' := 74) m_213 rfl rfl rfl (ev_iconst (pc' := 75) (x := 0) m_213 rfl rfl rfl (tr_pZ (pc' := 78) (f := 1149) m_213 rfl rfl rfl ts_o87 rfl rfl (Or.inl rfl) rfl rfl ?_)))
  exact am_Ev.sub (L := [(0, .ref 87), (1, .int (l1))]) ⟨rfl, rfl, trivial⟩ (cR_takeSign_78_ok l1 _ _ h)
def cR_takeSign_22 (l1 : Int32) (s : ts) : Option (ts) := (if l1 ≤ ((0 : Int32)) then (cR_settleTo ((1 : Int32)) s).bind (fun s2 => (if (gI s2 1142 0) ≤ (gI s2 1147 0) then cR_takeSign_130 ((0 : Int32)) s2 else cR_takeSign_130 ((1 : Int32)) s2)) else (cR_settleTo l1 s).bind (fun s6 => (cR_wait1 (gI s6 1106 0) l1 s6).bind (fun s9 => (if ((3 : Int32)) ≤ l1 then cR_takeSign_78 l1 s9 else (if l1 = ((1 : Int32)) then cR_takeSign_68 l1 ((gI s9 1142 0) - ((1 : Int32))) ((12 : Int32)) s9 else cR_takeSign_68 l1 ((gI s9 1142 0) - ((1 : Int32))) ((11 : Int32)) s9)))))
set_option maxRecDepth 20000 in
theorem cR_takeSign_22_ok {d : Nat} (l1 : Int32) (s : ts) (Q : ts → Prop) (h : Ok (cR_takeSign_22 l1 s) Q) : am_Ev (d + 4) 213 (22, [(0, .ref 87), (1, .int (l1))], []) (lay s) (tq_v Q) := by
  unfold cR_takeSign_22 at h
  refine ev_iload_n (pc' := 23) m_213 rfl rfl rfl ?_
  refine ev_if_le (t := 109) (e := 26) m_213 rfl rfl rfl (fun c13 => ?_) (fun c13 => ?_)
  · replace h := Ok_t c13 h
    refine ev_aload_n (pc' := 110) m_213 rfl rfl rfl (ev_iconst (pc' := 111) (x := 1) m_213 rfl rfl rfl ?_)
    refine tr_cv (pc' := 114) m_213 rfl rfl rfl m_211 rfl rfl rfl rfl (tr_rcv ts_o87 rfl) rfl rfl (cR_settleTo_ok ((1 : Int32)) _ _ (Ok_b h)) (fun s2 h => ?_)
    refine ev_aload_n (pc' := 115) m_213 rfl rfl rfl (tr_get (pc' := 118) (v := .int (gI _ 1142 _)) m_213 rfl rfl ts_o87 rfl rfl rfl (ev_aload_n (pc' := 119) m_213 rfl rfl rfl (tr_get (pc' := 122) (v := .int (gI _ 1147 _)) m_213 rfl rfl ts_o87 rfl rfl rfl ?_)))
    refine ev_icmp_le (t := 129) (e := 125) m_213 rfl rfl rfl (fun c4 => ?_) (fun c4 => ?_)
    · replace h := Ok_t c4 h
      refine ev_iconst (pc' := 130) (x := 0) m_213 rfl rfl rfl ?_
      exact am_Ev.sub (L := [(0, .ref 87)]) ⟨rfl, trivial⟩ (cR_takeSign_130_ok ((0 : Int32)) _ _ h)
    · replace h := Ok_f c4 h
      refine ev_iconst (pc' := 126) (x := 1) m_213 rfl rfl rfl (ev_goto (pc' := 130) m_213 rfl rfl ?_)
      exact am_Ev.sub (L := [(0, .ref 87)]) ⟨rfl, trivial⟩ (cR_takeSign_130_ok ((1 : Int32)) _ _ h)
  · replace h := Ok_f c13 h
    refine ev_aload_n (pc' := 27) m_213 rfl rfl rfl (ev_iload_n (pc' := 28) m_213 rfl rfl rfl ?_)
    refine tr_cv (pc' := 31) m_213 rfl rfl rfl m_211 rfl rfl rfl rfl (tr_rcv ts_o87 rfl) rfl rfl (cR_settleTo_ok l1 _ _ (Ok_b h)) (fun s6 h => ?_)
    refine ev_aload_n (pc' := 32) m_213 rfl rfl rfl (ev_aload_n (pc' := 33) m_213 rfl rfl rfl (tr_get (pc' := 36) (v := .int (gI _ 1106 _)) m_213 rfl rfl ts_o87 rfl rfl rfl (ev_iload_n (pc' := 37) m_213 rfl rfl rfl ?_)))
    refine tr_cv (pc' := 40) m_213 rfl rfl rfl m_206 rfl rfl rfl rfl (tr_rcv ts_o87 rfl) rfl rfl (cR_wait1_ok (gI s6 1106 0) l1 _ _ (Ok_b h)) (fun s9 h => ?_)
    refine ev_iload_n (pc' := 41) m_213 rfl rfl rfl (ev_iconst (pc' := 42) (x := 3) m_213 rfl rfl rfl ?_)
    refine ev_icmp_ge (t := 78) (e := 45) m_213 rfl rfl rfl (fun c12 => ?_) (fun c12 => ?_)
    · replace h := Ok_t c12 h
      exact am_Ev.sub (L := [(0, .ref 87), (1, .int (l1))]) ⟨rfl, rfl, trivial⟩ (cR_takeSign_78_ok l1 _ _ h)
    · replace h := Ok_f c12 h
      refine ev_aload_n (pc' := 46) m_213 rfl rfl rfl (tr_get (pc' := 49) (v := .ref 114) m_213 rfl rfl ts_o87 rfl rfl rfl (ev_aload_n (pc' := 50) m_213 rfl rfl rfl (tr_get (pc' := 53) (v := .int (gI _ 1142 _)) m_213 rfl rfl ts_o87 rfl rfl rfl (ev_iconst (pc' := 54) (x := 1) m_213 rfl rfl rfl (ev_isub (pc' := 55) m_213 rfl rfl (ev_aload_n (pc' := 56) m_213 rfl rfl rfl (ev_iload_n (pc' := 57) m_213 rfl rfl rfl ?_)))))))
      refine ev_iconst (pc' := 58) (x := 1) m_213 rfl rfl rfl ?_
      refine ev_icmp_ne (t := 66) (e := 61) m_213 rfl rfl rfl (fun c11 => ?_) (fun c11 => ?_)
      · replace h := Ok_f c11 h
        refine ev_bipush (pc' := 68) (x := 11) m_213 rfl rfl rfl ?_
        exact am_Ev.sub (L := [(0, .ref 87), (1, .int (l1))]) ⟨rfl, rfl, trivial⟩ (cR_takeSign_68_ok l1 ((gI s9 1142 0) - ((1 : Int32))) ((11 : Int32)) _ _ h)
      · replace h := Ok_t c11 h
        refine ev_bipush (pc' := 63) (x := 12) m_213 rfl rfl rfl (ev_goto (pc' := 68) m_213 rfl rfl ?_)
        exact am_Ev.sub (L := [(0, .ref 87), (1, .int (l1))]) ⟨rfl, rfl, trivial⟩ (cR_takeSign_68_ok l1 ((gI s9 1142 0) - ((1 : Int32))) ((12 : Int32)) _ _ h)
def cR_takeSign (s : ts) : Option (ts) := (cR_rankOf (gI s 1106 0) s).bind (fun x3 => (if x3.1 = ((3 : Int32)) then (if (gI x3.2 1149 0) = ((0 : Int32)) then cR_takeSign_22 x3.1 x3.2 else cR_takeSign_22 ((0 : Int32)) x3.2) else cR_takeSign_22 x3.1 x3.2))
set_option maxRecDepth 20000 in
theorem cR_takeSign_ok {d : Nat} (s : ts) (Q : ts → Prop) (h : Ok (cR_takeSign s) Q) : am_Ev (d + 4) 213 (0, [(0, .ref 87)], []) (lay s) (tq_v Q) := by
  unfold cR_takeSign at h
  refine ev_aload_n (pc' := 1) m_213 rfl rfl rfl (tr_get (pc' := 4) (v := .int (gI _ 1106 _)) m_213 rfl rfl ts_o87 rfl rfl rfl ?_)
  refine tr_ci (pc' := 7) m_213 rfl rfl rfl m_214 rfl rfl rfl rfl rfl rfl rfl (cR_rankOf_ok (gI s 1106 0) _ _ (Ok_b h)) (fun x3_ x3_s h => ?_)
  refine ev_istore_n (pc' := 8) m_213 rfl rfl rfl rfl (ev_iload_n (pc' := 9) m_213 rfl rfl rfl (ev_iconst (pc' := 10) (x := 3) m_213 rfl rfl rfl ?_))
  refine ev_icmp_ne (t := 22) (e := 13) m_213 rfl rfl rfl (fun c5 => ?_) (fun c5 => ?_)
  · replace h := Ok_f c5 h
    exact am_Ev.sub (L := [(0, .ref 87), (1, .int (x3_))]) ⟨rfl, rfl, trivial⟩ (cR_takeSign_22_ok x3_ _ _ h)
  · replace h := Ok_t c5 h
    refine ev_aload_n (pc' := 14) m_213 rfl rfl rfl (tr_get (pc' := 17) (v := .int (gI _ 1149 _)) m_213 rfl rfl ts_o87 rfl rfl rfl ?_)
    refine ev_if_eq (t := 22) (e := 20) m_213 rfl rfl rfl (fun c4 => ?_) (fun c4 => ?_)
    · replace h := Ok_t c4 h
      exact am_Ev.sub (L := [(0, .ref 87), (1, .int (x3_))]) ⟨rfl, rfl, trivial⟩ (cR_takeSign_22_ok x3_ _ _ h)
    · replace h := Ok_f c4 h
      refine ev_iconst (pc' := 21) (x := 0) m_213 rfl rfl rfl (ev_istore_n (pc' := 22) m_213 rfl rfl rfl rfl ?_)
      exact am_Ev.sub (L := [(0, .ref 87), (1, .int ((0 : Int32)))]) ⟨rfl, rfl, trivial⟩ (cR_takeSign_22_ok ((0 : Int32)) _ _ h)
def cR_takeExp_69 (l2 : Int32) (s : ts) : Option (Int32 × ts) := (cR_add ((0 : Int32)) ((0 : Int32)) (wI s 1142 0 (gI s 1147 0))).bind (fun x3 => some (l2, x3.2))
set_option maxRecDepth 20000 in
theorem cR_takeExp_69_ok {d : Nat} (l2 : Int32) (s : ts) (Q : Int32 × ts → Prop) (h : Ok (cR_takeExp_69 l2 s) Q) : am_Ev (d + 6) 204 (69, [(0, .ref 87), (2, .int (l2))], []) (lay s) (tq_i Q) := by
  unfold cR_takeExp_69 at h
  refine ev_aload_n (pc' := 70) m_204 rfl rfl rfl (ev_aload_n (pc' := 71) m_204 rfl rfl rfl (tr_get (pc' := 74) (v := .int (gI _ 1147 _)) m_204 rfl rfl ts_o87 rfl rfl rfl (tr_pI (pc' := 77) (f := 1142) m_204 rfl rfl rfl ts_o87 rfl rfl rfl rfl (ev_aload_n (pc' := 78) m_204 rfl rfl rfl (ev_iconst (pc' := 79) (x := 0) m_204 rfl rfl rfl (ev_iconst (pc' := 80) (x := 0) m_204 rfl rfl rfl ?_))))))
  refine tr_ci (pc' := 83) m_204 rfl rfl rfl m_209 rfl rfl rfl rfl (tr_rcv ts_o87 rfl) rfl rfl (cR_add_ok ((0 : Int32)) ((0 : Int32)) _ _ (Ok_b h)) (fun x3_ x3_s h => ?_)
  refine ev_istore_n (pc' := 84) m_204 rfl rfl rfl rfl (ev_iload_n (pc' := 85) m_204 rfl rfl rfl ?_)
  exact tr_ri m_204 rfl rfl (Ok_s h)
def cR_takeExp_33_b (kk : Int32 → Int32 → ts → Option (Int32 × ts)) (l1 : Int32) (l2 : Int32) (s : ts) : Option (Int32 × ts) := (if (gI s 1151 0) = ((0 : Int32)) then (cR_good s).bind (fun x3 => (if x3.1 = ((0 : Int32)) then cR_takeExp_69 l2 x3.2 else (if (gI x3.2 1150 0) = ((0 : Int32)) then (cR_takeSign x3.2).bind (fun s5 => kk l1 l2 s5) else (cR_takeOne l1 x3.2).bind (fun s8 => kk l1 l2 s8)))) else cR_takeExp_69 l2 s)
def cR_takeExp_33 : Nat → Int32 → Int32 → ts → Option (Int32 × ts)
  | 0, _, _, _ => none
  | n + 1, l1, l2, s => cR_takeExp_33_b (cR_takeExp_33 n) l1 l2 s
set_option maxRecDepth 20000 in
theorem cR_takeExp_33_ok {d : Nat} : ∀ (n : Nat) (l1 : Int32) (l2 : Int32) (s : ts) (Q : Int32 × ts → Prop), Ok (cR_takeExp_33 n l1 l2 s) Q → am_Ev (d + 6) 204 (33, [(0, .ref 87), (1, .int (l1)), (2, .int (l2))], []) (lay s) (tq_i Q) := by
  intro n
  induction n with
  | zero => intro l1 l2 s Q h; exact Ok_n h
  | succ n ih =>
    intro l1 l2 s Q h
    rw [cR_takeExp_33.eq_2] at h
    unfold cR_takeExp_33_b at h
    refine ev_aload_n (pc' := 34) m_204 rfl rfl rfl (tr_get (pc' := 37) (v := .int (gI _ 1151 _)) m_204 rfl rfl ts_o87 rfl rfl rfl ?_)
    refine ev_if_ne (t := 69) (e := 40) m_204 rfl rfl rfl (fun c12 => ?_) (fun c12 => ?_)
    · replace h := Ok_f c12 h
      exact am_Ev.sub (L := [(0, .ref 87), (2, .int (l2))]) ⟨rfl, rfl, trivial⟩ (cR_takeExp_69_ok l2 _ _ h)
    · replace h := Ok_t c12 h
      refine ev_aload_n (pc' := 41) m_204 rfl rfl rfl ?_
      refine tr_cz (pc' := 44) m_204 rfl rfl rfl m_177 rfl rfl rfl rfl rfl (tr_rcv ts_o87 rfl) rfl rfl (cR_good_ok _ _ (Ok_b h)) (fun x3_ x3_s h1 h => ?_)
      refine ev_if_eq (t := 69) (e := 47) m_204 rfl rfl rfl (fun c11 => ?_) (fun c11 => ?_)
      · replace h := Ok_t c11 h
        exact am_Ev.sub (L := [(0, .ref 87), (2, .int (l2))]) ⟨rfl, rfl, trivial⟩ (cR_takeExp_69_ok l2 _ _ h)
      · replace h := Ok_f c11 h
        refine ev_aload_n (pc' := 48) m_204 rfl rfl rfl (tr_get (pc' := 51) (v := .int (gI _ 1150 _)) m_204 rfl rfl ts_o87 rfl rfl rfl ?_)
        refine ev_if_eq (t := 62) (e := 54) m_204 rfl rfl rfl (fun c10 => ?_) (fun c10 => ?_)
        · replace h := Ok_t c10 h
          refine ev_aload_n (pc' := 63) m_204 rfl rfl rfl ?_
          refine tr_cv (pc' := 66) m_204 rfl rfl rfl m_213 rfl rfl rfl rfl (tr_rcv ts_o87 rfl) rfl rfl (cR_takeSign_ok _ _ (Ok_b h)) (fun s5 h => ?_)
          refine ev_goto (pc' := 33) m_204 rfl rfl ?_
          exact am_Ev.sub (L := [(0, .ref 87), (1, .int (l1)), (2, .int (l2))]) ⟨rfl, rfl, rfl, trivial⟩ (ih l1 l2 _ _ h)
        · replace h := Ok_f c10 h
          refine ev_aload_n (pc' := 55) m_204 rfl rfl rfl (ev_iload_n (pc' := 56) m_204 rfl rfl rfl ?_)
          refine tr_cv (pc' := 59) m_204 rfl rfl rfl m_205 rfl rfl rfl rfl (tr_rcv ts_o87 rfl) rfl rfl (cR_takeOne_ok l1 _ _ (Ok_b h)) (fun s8 h => ?_)
          refine ev_goto (pc' := 33) m_204 rfl rfl ?_
          exact am_Ev.sub (L := [(0, .ref 87), (1, .int (l1)), (2, .int (l2))]) ⟨rfl, rfl, rfl, trivial⟩ (ih l1 l2 _ _ h)
def cR_takeExp (l1 : Int32) (s : ts) : Option (Int32 × ts) := cR_takeExp_33 tm_N l1 (gI s 1139 0) (wI (wI (wI (wI (wI s 1147 0 (gI s 1142 0)) 1148 0 ((0 : Int32))) 1149 0 ((0 : Int32))) 1150 0 ((1 : Int32))) 1151 0 ((0 : Int32)))
set_option maxRecDepth 20000 in
theorem cR_takeExp_ok {d : Nat} (l1 : Int32) (s : ts) (Q : Int32 × ts → Prop) (h : Ok (cR_takeExp l1 s) Q) : am_Ev (d + 6) 204 (0, [(0, .ref 87), (1, .int (l1))], []) (lay s) (tq_i Q) := by
  unfold cR_takeExp at h
  refine ev_aload_n (pc' := 1) m_204 rfl rfl rfl (tr_get (pc' := 4) (v := .int (gI _ 1139 _)) m_204 rfl rfl ts_o87 rfl rfl rfl (ev_istore_n (pc' := 5) m_204 rfl rfl rfl rfl (ev_aload_n (pc' := 6) m_204 rfl rfl rfl (ev_aload_n (pc' := 7) m_204 rfl rfl rfl (tr_get (pc' := 10) (v := .int (gI _ 1142 _)) m_204 rfl rfl ts_o87 rfl rfl rfl (tr_pI (pc' := 13) (f := 1147) m_204 rfl rfl rfl ts_o87 rfl rfl rfl rfl (ev_aload_n (pc' := 14) m_204 rfl rfl rfl ?_)))))))
  refine ev_iconst (pc' := 15) (x := 0) m_204 rfl rfl rfl (tr_pI (pc' := 18) (f := 1148) m_204 rfl rfl rfl ts_o87 rfl rfl rfl rfl (ev_aload_n (pc' := 19) m_204 rfl rfl rfl (ev_iconst (pc' := 20) (x := 0) m_204 rfl rfl rfl (tr_pZ (pc' := 23) (f := 1149) m_204 rfl rfl rfl ts_o87 rfl rfl (Or.inl rfl) rfl rfl (ev_aload_n (pc' := 24) m_204 rfl rfl rfl (ev_iconst (pc' := 25) (x := 1) m_204 rfl rfl rfl (tr_pZ (pc' := 28) (f := 1150) m_204 rfl rfl rfl ts_o87 rfl rfl (Or.inr rfl) rfl rfl ?_)))))))
  refine ev_aload_n (pc' := 29) m_204 rfl rfl rfl (ev_iconst (pc' := 30) (x := 0) m_204 rfl rfl rfl (tr_pZ (pc' := 33) (f := 1151) m_204 rfl rfl rfl ts_o87 rfl rfl (Or.inl rfl) rfl rfl ?_))
  exact am_Ev.sub (L := [(0, .ref 87), (1, .int (l1)), (2, .int (gI s 1139 0))]) ⟨rfl, rfl, rfl, trivial⟩ (cR_takeExp_33_ok tm_N l1 (gI s 1139 0) _ _ h)
def cR_takeStart_279 (t1 : Int32) (t2 : Int32) (s : ts) : Option (ts) := (if am_idx t1 900 = true then (cR_must ((59 : Int32)) (wA s 101 t1.toNatClampNeg t2)).bind (fun s3 => some s3) else none)
set_option maxRecDepth 20000 in
theorem cR_takeStart_279_ok {d : Nat} (t1 : Int32) (t2 : Int32) (s : ts) (Q : ts → Prop) (h : Ok (cR_takeStart_279 t1 t2 s) Q) : am_Ev (d + 7) 216 (279, [(0, .ref 87)], [.int (t2), .int (t1), .ref 101]) (lay s) (tq_v Q) := by
  unfold cR_takeStart_279 at h
  obtain ⟨g1, h⟩ := Ok_g h
  refine tr_iast (pc' := 280) m_216 rfl rfl rfl g1 rfl (ev_aload_n (pc' := 281) m_216 rfl rfl rfl (ev_bipush (pc' := 283) (x := 59) m_216 rfl rfl rfl ?_))
  refine tr_cv (pc' := 286) m_216 rfl rfl rfl m_194 rfl rfl rfl rfl (tr_rcv ts_o87 rfl) rfl rfl (cR_must_ok ((59 : Int32)) _ _ (Ok_b h)) (fun s3 h => ?_)
  exact tr_rv m_216 rfl rfl (Ok_s h)
def cR_takeStart_243 (l1 : Int32) (s : ts) : Option (ts) := (cR_must ((41 : Int32)) s).bind (fun s2 => (cR_good s2).bind (fun x6 => (if x6.1 = ((0 : Int32)) then cR_takeStart_279 l1 ((-1 : Int32)) x6.2 else (if (gI x6.2 1106 0) = ((59 : Int32)) then cR_takeStart_279 l1 ((-1 : Int32)) x6.2 else (cR_takeExp ((0 : Int32)) x6.2).bind (fun x9 => cR_takeStart_279 l1 x9.1 x9.2)))))
set_option maxRecDepth 20000 in
theorem cR_takeStart_243_ok {d : Nat} (l1 : Int32) (s : ts) (Q : ts → Prop) (h : Ok (cR_takeStart_243 l1 s) Q) : am_Ev (d + 7) 216 (243, [(0, .ref 87), (1, .int (l1))], []) (lay s) (tq_v Q) := by
  unfold cR_takeStart_243 at h
  refine ev_aload_n (pc' := 244) m_216 rfl rfl rfl (ev_bipush (pc' := 246) (x := 41) m_216 rfl rfl rfl ?_)
  refine tr_cv (pc' := 249) m_216 rfl rfl rfl m_194 rfl rfl rfl rfl (tr_rcv ts_o87 rfl) rfl rfl (cR_must_ok ((41 : Int32)) _ _ (Ok_b h)) (fun s2 h => ?_)
  refine ev_aload_n (pc' := 250) m_216 rfl rfl rfl (tr_get (pc' := 253) (v := .ref 101) m_216 rfl rfl ts_o87 rfl rfl rfl (ev_iload_n (pc' := 254) m_216 rfl rfl rfl (ev_aload_n (pc' := 255) m_216 rfl rfl rfl ?_)))
  refine tr_cz (pc' := 258) m_216 rfl rfl rfl m_177 rfl rfl rfl rfl rfl (tr_rcv ts_o87 rfl) rfl rfl (cR_good_ok _ _ (Ok_b h)) (fun x6_ x6_s h4 h => ?_)
  refine ev_if_eq (t := 278) (e := 261) m_216 rfl rfl rfl (fun c11 => ?_) (fun c11 => ?_)
  · replace h := Ok_t c11 h
    refine ev_iconst (pc' := 279) (x := -1) m_216 rfl rfl rfl ?_
    exact am_Ev.sub (L := [(0, .ref 87)]) ⟨rfl, trivial⟩ (cR_takeStart_279_ok l1 ((-1 : Int32)) _ _ h)
  · replace h := Ok_f c11 h
    refine ev_aload_n (pc' := 262) m_216 rfl rfl rfl (tr_get (pc' := 265) (v := .int (gI _ 1106 _)) m_216 rfl rfl ts_o87 rfl rfl rfl (ev_bipush (pc' := 267) (x := 59) m_216 rfl rfl rfl ?_))
    refine ev_icmp_eq (t := 278) (e := 270) m_216 rfl rfl rfl (fun c10 => ?_) (fun c10 => ?_)
    · replace h := Ok_t c10 h
      refine ev_iconst (pc' := 279) (x := -1) m_216 rfl rfl rfl ?_
      exact am_Ev.sub (L := [(0, .ref 87)]) ⟨rfl, trivial⟩ (cR_takeStart_279_ok l1 ((-1 : Int32)) _ _ h)
    · replace h := Ok_f c10 h
      refine ev_aload_n (pc' := 271) m_216 rfl rfl rfl (ev_iconst (pc' := 272) (x := 0) m_216 rfl rfl rfl ?_)
      refine tr_ci (pc' := 275) m_216 rfl rfl rfl m_204 rfl rfl rfl rfl (tr_rcv ts_o87 rfl) rfl rfl (cR_takeExp_ok ((0 : Int32)) _ _ (Ok_b h)) (fun x9_ x9_s h => ?_)
      refine ev_goto (pc' := 279) m_216 rfl rfl ?_
      exact am_Ev.sub (L := [(0, .ref 87)]) ⟨rfl, trivial⟩ (cR_takeStart_279_ok l1 x9_ _ _ h)
def cR_takeStart_238 (l1 : Int32) (t1 : Int32) (s : ts) : Option (ts) := (cR_need t1 ((6 : Int32)) s).bind (fun s2 => cR_takeStart_243 l1 s2)
set_option maxRecDepth 20000 in
theorem cR_takeStart_238_ok {d : Nat} (l1 : Int32) (t1 : Int32) (s : ts) (Q : ts → Prop) (h : Ok (cR_takeStart_238 l1 t1 s) Q) : am_Ev (d + 7) 216 (238, [(0, .ref 87), (1, .int (l1))], [.int (t1), .ref 87]) (lay s) (tq_v Q) := by
  unfold cR_takeStart_238 at h
  refine ev_bipush (pc' := 240) (x := 6) m_216 rfl rfl rfl ?_
  refine tr_cv (pc' := 243) m_216 rfl rfl rfl m_183 rfl rfl rfl rfl (tr_rcv ts_o87 rfl) rfl rfl (cR_need_ok t1 ((6 : Int32)) _ _ (Ok_b h)) (fun s2 h => ?_)
  exact am_Ev.sub (L := [(0, .ref 87), (1, .int (l1))]) ⟨rfl, rfl, trivial⟩ (cR_takeStart_243_ok l1 _ _ h)
def cR_takeStart_180 (l1 : Int32) (l3 : Int32) (s : ts) : Option (ts) := (if am_idx l1 900 = true then (cR_findDefinition (gB (wA s 105 l1.toNatClampNeg l3) 106 l1.toNatClampNeg) (wA s 105 l1.toNatClampNeg l3)).bind (fun x4 => (cR_good x4.2).bind (fun x7 => (if x7.1 = ((0 : Int32)) then cR_takeStart_243 l1 x7.2 else (if (gI x7.2 1106 0) = ((41 : Int32)) then (if x4.1 = ((-1 : Int32)) then cR_takeStart_243 l1 x7.2 else (if am_idx x4.1 12 = true then (if (gA x7.2 96 x4.1.toNatClampNeg) = l3 then cR_takeStart_238 l1 ((1 : Int32)) x7.2 else cR_takeStart_238 l1 ((0 : Int32)) x7.2) else none)) else cR_takeStart_243 l1 x7.2)))) else none)
set_option maxRecDepth 20000 in
theorem cR_takeStart_180_ok {d : Nat} (l1 : Int32) (l3 : Int32) (s : ts) (Q : ts → Prop) (h : Ok (cR_takeStart_180 l1 l3 s) Q) : am_Ev (d + 7) 216 (180, [(0, .ref 87), (1, .int (l1)), (3, .int (l3))], []) (lay s) (tq_v Q) := by
  unfold cR_takeStart_180 at h
  refine ev_aload_n (pc' := 181) m_216 rfl rfl rfl (tr_get (pc' := 184) (v := .ref 105) m_216 rfl rfl ts_o87 rfl rfl rfl (ev_iload_n (pc' := 185) m_216 rfl rfl rfl (ev_iload_n (pc' := 186) m_216 rfl rfl rfl ?_)))
  obtain ⟨g1, h⟩ := Ok_g h
  refine tr_iast (pc' := 187) m_216 rfl rfl rfl g1 rfl (ev_aload_n (pc' := 188) m_216 rfl rfl rfl (ev_aload_n (pc' := 189) m_216 rfl rfl rfl (tr_get (pc' := 192) (v := .ref 106) m_216 rfl rfl ts_o87 rfl rfl rfl (ev_iload_n (pc' := 193) m_216 rfl rfl rfl (tr_lald (pc' := 194) m_216 rfl rfl rfl g1 rfl ?_)))))
  refine tr_ci (pc' := 197) m_216 rfl rfl rfl m_190 rfl rfl rfl rfl (tr_rcv ts_o87 rfl) rfl rfl (cR_findDefinition_ok (gB (wA s 105 l1.toNatClampNeg l3) 106 l1.toNatClampNeg) _ _ (Ok_b h)) (fun x4_ x4_s h => ?_)
  refine ev_istore (pc' := 199) m_216 rfl rfl rfl rfl (ev_aload_n (pc' := 200) m_216 rfl rfl rfl ?_)
  refine tr_cz (pc' := 203) m_216 rfl rfl rfl m_177 rfl rfl rfl rfl rfl (tr_rcv ts_o87 rfl) rfl rfl (cR_good_ok _ _ (Ok_b h)) (fun x7_ x7_s h5 h => ?_)
  refine ev_if_eq (t := 243) (e := 206) m_216 rfl rfl rfl (fun c12 => ?_) (fun c12 => ?_)
  · replace h := Ok_t c12 h
    exact am_Ev.sub (L := [(0, .ref 87), (1, .int (l1))]) ⟨rfl, rfl, trivial⟩ (cR_takeStart_243_ok l1 _ _ h)
  · replace h := Ok_f c12 h
    refine ev_aload_n (pc' := 207) m_216 rfl rfl rfl (tr_get (pc' := 210) (v := .int (gI _ 1106 _)) m_216 rfl rfl ts_o87 rfl rfl rfl (ev_bipush (pc' := 212) (x := 41) m_216 rfl rfl rfl ?_))
    refine ev_icmp_ne (t := 243) (e := 215) m_216 rfl rfl rfl (fun c11 => ?_) (fun c11 => ?_)
    · replace h := Ok_f c11 h
      exact am_Ev.sub (L := [(0, .ref 87), (1, .int (l1))]) ⟨rfl, rfl, trivial⟩ (cR_takeStart_243_ok l1 _ _ h)
    · replace h := Ok_t c11 h
      refine ev_iload (pc' := 217) m_216 rfl rfl rfl (ev_iconst (pc' := 218) (x := -1) m_216 rfl rfl rfl ?_)
      refine ev_icmp_eq (t := 243) (e := 221) m_216 rfl rfl rfl (fun c10 => ?_) (fun c10 => ?_)
      · replace h := Ok_t c10 h
        exact am_Ev.sub (L := [(0, .ref 87), (1, .int (l1))]) ⟨rfl, rfl, trivial⟩ (cR_takeStart_243_ok l1 _ _ h)
      · replace h := Ok_f c10 h
        refine ev_aload_n (pc' := 222) m_216 rfl rfl rfl (ev_aload_n (pc' := 223) m_216 rfl rfl rfl (tr_get (pc' := 226) (v := .ref 96) m_216 rfl rfl ts_o87 rfl rfl rfl (ev_iload (pc' := 228) m_216 rfl rfl rfl ?_)))
        obtain ⟨g8, h⟩ := Ok_g h
        refine tr_iald (pc' := 229) m_216 rfl rfl rfl g8 rfl (ev_iload_n (pc' := 230) m_216 rfl rfl rfl ?_)
        refine ev_icmp_ne (t := 237) (e := 233) m_216 rfl rfl rfl (fun c9 => ?_) (fun c9 => ?_)
        · replace h := Ok_f c9 h
          refine ev_iconst (pc' := 238) (x := 0) m_216 rfl rfl rfl ?_
          exact am_Ev.sub (L := [(0, .ref 87), (1, .int (l1))]) ⟨rfl, rfl, trivial⟩ (cR_takeStart_238_ok l1 ((0 : Int32)) _ _ h)
        · replace h := Ok_t c9 h
          refine ev_iconst (pc' := 234) (x := 1) m_216 rfl rfl rfl (ev_goto (pc' := 238) m_216 rfl rfl ?_)
          exact am_Ev.sub (L := [(0, .ref 87), (1, .int (l1))]) ⟨rfl, rfl, trivial⟩ (cR_takeStart_238_ok l1 ((1 : Int32)) _ _ h)
def cR_takeStart_168 (k79 : Int32 → Int32 → Int32 → ts → Option (ts)) (l1 : Int32) (l3 : Int32) (t0 : Int32) (s : ts) : Option (ts) := (if t0 = ((0 : Int32)) then k79 l1 t0 l3 s else (cR_next s).bind (fun s2 => k79 l1 t0 l3 s2))
set_option maxRecDepth 20000 in
theorem cR_takeStart_168_ok {d : Nat} (k79 : Int32 → Int32 → Int32 → ts → Option (ts)) (hk79 : ∀ (l1 : Int32) (l2 : Int32) (l3 : Int32) (s : ts) (Q : ts → Prop), Ok (k79 l1 l2 l3 s) Q → am_Ev (d + 7) 216 (79, [(0, .ref 87), (1, .int (l1)), (2, .int (l2)), (3, .int (l3))], []) (lay s) (tq_v Q)) (l1 : Int32) (l3 : Int32) (t0 : Int32) (s : ts) (Q : ts → Prop) (h : Ok (cR_takeStart_168 k79 l1 l3 t0 s) Q) : am_Ev (d + 7) 216 (168, [(0, .ref 87), (1, .int (l1)), (3, .int (l3))], [.int (t0)]) (lay s) (tq_v Q) := by
  unfold cR_takeStart_168 at h
  refine ev_istore_n (pc' := 169) m_216 rfl rfl rfl rfl (ev_iload_n (pc' := 170) m_216 rfl rfl rfl ?_)
  refine ev_if_eq (t := 177) (e := 173) m_216 rfl rfl rfl (fun c4 => ?_) (fun c4 => ?_)
  · replace h := Ok_t c4 h
    refine ev_goto (pc' := 79) m_216 rfl rfl ?_
    exact am_Ev.sub (L := [(0, .ref 87), (1, .int (l1)), (2, .int (t0)), (3, .int (l3))]) ⟨rfl, rfl, rfl, rfl, trivial⟩ (hk79 l1 t0 l3 _ _ h)
  · replace h := Ok_f c4 h
    refine ev_aload_n (pc' := 174) m_216 rfl rfl rfl ?_
    refine tr_cv (pc' := 177) m_216 rfl rfl rfl m_176 rfl rfl rfl rfl (tr_rcv ts_o87 rfl) rfl rfl (cR_next_ok _ _ (Ok_b h)) (fun s2 h => ?_)
    refine ev_goto (pc' := 79) m_216 rfl rfl ?_
    exact am_Ev.sub (L := [(0, .ref 87), (1, .int (l1)), (2, .int (t0)), (3, .int (l3))]) ⟨rfl, rfl, rfl, rfl, trivial⟩ (hk79 l1 t0 l3 _ _ h)
def cR_takeStart_154 (k79 : Int32 → Int32 → Int32 → ts → Option (ts)) (l1 : Int32) (l3 : Int32) (s : ts) : Option (ts) := (if (gI s 1106 0) = ((44 : Int32)) then cR_takeStart_168 k79 l1 l3 ((1 : Int32)) s else cR_takeStart_168 k79 l1 l3 ((0 : Int32)) s)
set_option maxRecDepth 20000 in
theorem cR_takeStart_154_ok {d : Nat} (k79 : Int32 → Int32 → Int32 → ts → Option (ts)) (hk79 : ∀ (l1 : Int32) (l2 : Int32) (l3 : Int32) (s : ts) (Q : ts → Prop), Ok (k79 l1 l2 l3 s) Q → am_Ev (d + 7) 216 (79, [(0, .ref 87), (1, .int (l1)), (2, .int (l2)), (3, .int (l3))], []) (lay s) (tq_v Q)) (l1 : Int32) (l3 : Int32) (s : ts) (Q : ts → Prop) (h : Ok (cR_takeStart_154 k79 l1 l3 s) Q) : am_Ev (d + 7) 216 (154, [(0, .ref 87), (1, .int (l1)), (3, .int (l3))], []) (lay s) (tq_v Q) := by
  unfold cR_takeStart_154 at h
  refine ev_aload_n (pc' := 155) m_216 rfl rfl rfl (tr_get (pc' := 158) (v := .int (gI _ 1106 _)) m_216 rfl rfl ts_o87 rfl rfl rfl (ev_bipush (pc' := 160) (x := 44) m_216 rfl rfl rfl ?_))
  refine ev_icmp_ne (t := 167) (e := 163) m_216 rfl rfl rfl (fun c1 => ?_) (fun c1 => ?_)
  · replace h := Ok_f c1 h
    refine ev_iconst (pc' := 168) (x := 0) m_216 rfl rfl rfl ?_
    exact am_Ev.sub (L := [(0, .ref 87), (1, .int (l1)), (3, .int (l3))]) ⟨rfl, rfl, rfl, trivial⟩ (cR_takeStart_168_ok k79 hk79 l1 l3 ((0 : Int32)) _ _ h)
  · replace h := Ok_t c1 h
    refine ev_iconst (pc' := 164) (x := 1) m_216 rfl rfl rfl (ev_goto (pc' := 168) m_216 rfl rfl ?_)
    exact am_Ev.sub (L := [(0, .ref 87), (1, .int (l1)), (3, .int (l3))]) ⟨rfl, rfl, rfl, trivial⟩ (cR_takeStart_168_ok k79 hk79 l1 l3 ((1 : Int32)) _ _ h)
def cR_takeStart_150 (k79 : Int32 → Int32 → Int32 → ts → Option (ts)) (l1 : Int32) (l3 : Int32) (t1 : Int32) (s : ts) : Option (ts) := (cR_need t1 ((2 : Int32)) s).bind (fun s2 => cR_takeStart_154 k79 l1 l3 s2)
set_option maxRecDepth 20000 in
theorem cR_takeStart_150_ok {d : Nat} (k79 : Int32 → Int32 → Int32 → ts → Option (ts)) (hk79 : ∀ (l1 : Int32) (l2 : Int32) (l3 : Int32) (s : ts) (Q : ts → Prop), Ok (k79 l1 l2 l3 s) Q → am_Ev (d + 7) 216 (79, [(0, .ref 87), (1, .int (l1)), (2, .int (l2)), (3, .int (l3))], []) (lay s) (tq_v Q)) (l1 : Int32) (l3 : Int32) (t1 : Int32) (s : ts) (Q : ts → Prop) (h : Ok (cR_takeStart_150 k79 l1 l3 t1 s) Q) : am_Ev (d + 7) 216 (150, [(0, .ref 87), (1, .int (l1)), (3, .int (l3))], [.int (t1), .ref 87]) (lay s) (tq_v Q) := by
  unfold cR_takeStart_150 at h
  refine ev_iconst (pc' := 151) (x := 2) m_216 rfl rfl rfl ?_
  refine tr_cv (pc' := 154) m_216 rfl rfl rfl m_183 rfl rfl rfl rfl (tr_rcv ts_o87 rfl) rfl rfl (cR_need_ok t1 ((2 : Int32)) _ _ (Ok_b h)) (fun s2 h => ?_)
  exact am_Ev.sub (L := [(0, .ref 87), (1, .int (l1)), (3, .int (l3))]) ⟨rfl, rfl, rfl, trivial⟩ (cR_takeStart_154_ok k79 hk79 l1 l3 _ _ h)
def cR_takeStart_116 (k79 : Int32 → Int32 → Int32 → ts → Option (ts)) (l1 : Int32) (l3 : Int32) (s : ts) : Option (ts) := (cR_good s).bind (fun x3 => (if x3.1 = ((0 : Int32)) then cR_takeStart_154 k79 l1 (l3 + (1 : Int32)) x3.2 else (if (gI x3.2 1106 0) = ((44 : Int32)) then cR_takeStart_150 k79 l1 (l3 + (1 : Int32)) ((1 : Int32)) x3.2 else (if (gI x3.2 1106 0) = ((41 : Int32)) then cR_takeStart_150 k79 l1 (l3 + (1 : Int32)) ((1 : Int32)) x3.2 else cR_takeStart_150 k79 l1 (l3 + (1 : Int32)) ((0 : Int32)) x3.2))))
set_option maxRecDepth 20000 in
theorem cR_takeStart_116_ok {d : Nat} (k79 : Int32 → Int32 → Int32 → ts → Option (ts)) (hk79 : ∀ (l1 : Int32) (l2 : Int32) (l3 : Int32) (s : ts) (Q : ts → Prop), Ok (k79 l1 l2 l3 s) Q → am_Ev (d + 7) 216 (79, [(0, .ref 87), (1, .int (l1)), (2, .int (l2)), (3, .int (l3))], []) (lay s) (tq_v Q)) (l1 : Int32) (l3 : Int32) (s : ts) (Q : ts → Prop) (h : Ok (cR_takeStart_116 k79 l1 l3 s) Q) : am_Ev (d + 7) 216 (116, [(0, .ref 87), (1, .int (l1)), (3, .int (l3))], []) (lay s) (tq_v Q) := by
  unfold cR_takeStart_116 at h
  refine ev_iinc (pc' := 119) (z := 1) m_216 rfl rfl rfl rfl rfl rfl (ev_aload_n (pc' := 120) m_216 rfl rfl rfl ?_)
  refine tr_cz (pc' := 123) m_216 rfl rfl rfl m_177 rfl rfl rfl rfl rfl (tr_rcv ts_o87 rfl) rfl rfl (cR_good_ok _ _ (Ok_b h)) (fun x3_ x3_s h1 h => ?_)
  refine ev_if_eq (t := 154) (e := 126) m_216 rfl rfl rfl (fun c6 => ?_) (fun c6 => ?_)
  · replace h := Ok_t c6 h
    exact am_Ev.sub (L := [(0, .ref 87), (1, .int (l1)), (3, .int (l3 + (1 : Int32)))]) ⟨rfl, rfl, rfl, trivial⟩ (cR_takeStart_154_ok k79 hk79 l1 (l3 + (1 : Int32)) _ _ h)
  · replace h := Ok_f c6 h
    refine ev_aload_n (pc' := 127) m_216 rfl rfl rfl (ev_aload_n (pc' := 128) m_216 rfl rfl rfl (tr_get (pc' := 131) (v := .int (gI _ 1106 _)) m_216 rfl rfl ts_o87 rfl rfl rfl (ev_bipush (pc' := 133) (x := 44) m_216 rfl rfl rfl ?_)))
    refine ev_icmp_eq (t := 145) (e := 136) m_216 rfl rfl rfl (fun c5 => ?_) (fun c5 => ?_)
    · replace h := Ok_t c5 h
      refine ev_iconst (pc' := 146) (x := 1) m_216 rfl rfl rfl (ev_goto (pc' := 150) m_216 rfl rfl ?_)
      exact am_Ev.sub (L := [(0, .ref 87), (1, .int (l1)), (3, .int (l3 + (1 : Int32)))]) ⟨rfl, rfl, rfl, trivial⟩ (cR_takeStart_150_ok k79 hk79 l1 (l3 + (1 : Int32)) ((1 : Int32)) _ _ h)
    · replace h := Ok_f c5 h
      refine ev_aload_n (pc' := 137) m_216 rfl rfl rfl (tr_get (pc' := 140) (v := .int (gI _ 1106 _)) m_216 rfl rfl ts_o87 rfl rfl rfl (ev_bipush (pc' := 142) (x := 41) m_216 rfl rfl rfl ?_))
      refine ev_icmp_ne (t := 149) (e := 145) m_216 rfl rfl rfl (fun c4 => ?_) (fun c4 => ?_)
      · replace h := Ok_f c4 h
        refine ev_iconst (pc' := 150) (x := 0) m_216 rfl rfl rfl ?_
        exact am_Ev.sub (L := [(0, .ref 87), (1, .int (l1)), (3, .int (l3 + (1 : Int32)))]) ⟨rfl, rfl, rfl, trivial⟩ (cR_takeStart_150_ok k79 hk79 l1 (l3 + (1 : Int32)) ((0 : Int32)) _ _ h)
      · replace h := Ok_t c4 h
        refine ev_iconst (pc' := 146) (x := 1) m_216 rfl rfl rfl (ev_goto (pc' := 150) m_216 rfl rfl ?_)
        exact am_Ev.sub (L := [(0, .ref 87), (1, .int (l1)), (3, .int (l3 + (1 : Int32)))]) ⟨rfl, rfl, rfl, trivial⟩ (cR_takeStart_150_ok k79 hk79 l1 (l3 + (1 : Int32)) ((1 : Int32)) _ _ h)
def cR_takeStart_79_b (kk : Int32 → Int32 → Int32 → ts → Option (ts)) (l1 : Int32) (l2 : Int32) (l3 : Int32) (s : ts) : Option (ts) := (if l2 = ((0 : Int32)) then cR_takeStart_180 l1 l3 s else (cR_good s).bind (fun x3 => (if x3.1 = ((0 : Int32)) then cR_takeStart_180 l1 l3 x3.2 else (cR_takeExp ((0 : Int32)) x3.2).bind (fun x6 => (if ((8 : Int32)) ≤ l3 then cR_takeStart_116 kk l1 l3 x6.2 else (if am_idx ((((8 : Int32)) * l1) + l3) 7200 = true then cR_takeStart_116 kk l1 l3 (wA x6.2 104 ((((8 : Int32)) * l1) + l3).toNatClampNeg x6.1) else none))))))
def cR_takeStart_79 : Nat → Int32 → Int32 → Int32 → ts → Option (ts)
  | 0, _, _, _, _ => none
  | n + 1, l1, l2, l3, s => cR_takeStart_79_b (cR_takeStart_79 n) l1 l2 l3 s
set_option maxRecDepth 20000 in
theorem cR_takeStart_79_ok {d : Nat} : ∀ (n : Nat) (l1 : Int32) (l2 : Int32) (l3 : Int32) (s : ts) (Q : ts → Prop), Ok (cR_takeStart_79 n l1 l2 l3 s) Q → am_Ev (d + 7) 216 (79, [(0, .ref 87), (1, .int (l1)), (2, .int (l2)), (3, .int (l3))], []) (lay s) (tq_v Q) := by
  intro n
  induction n with
  | zero => intro l1 l2 l3 s Q h; exact Ok_n h
  | succ n ih =>
    intro l1 l2 l3 s Q h
    rw [cR_takeStart_79.eq_2] at h
    unfold cR_takeStart_79_b at h
    refine ev_iload_n (pc' := 80) m_216 rfl rfl rfl ?_
    refine ev_if_eq (t := 180) (e := 83) m_216 rfl rfl rfl (fun c10 => ?_) (fun c10 => ?_)
    · replace h := Ok_t c10 h
      exact am_Ev.sub (L := [(0, .ref 87), (1, .int (l1)), (3, .int (l3))]) ⟨rfl, rfl, rfl, trivial⟩ (cR_takeStart_180_ok l1 l3 _ _ h)
    · replace h := Ok_f c10 h
      refine ev_aload_n (pc' := 84) m_216 rfl rfl rfl ?_
      refine tr_cz (pc' := 87) m_216 rfl rfl rfl m_177 rfl rfl rfl rfl rfl (tr_rcv ts_o87 rfl) rfl rfl (cR_good_ok _ _ (Ok_b h)) (fun x3_ x3_s h1 h => ?_)
      refine ev_if_eq (t := 180) (e := 90) m_216 rfl rfl rfl (fun c9 => ?_) (fun c9 => ?_)
      · replace h := Ok_t c9 h
        exact am_Ev.sub (L := [(0, .ref 87), (1, .int (l1)), (3, .int (l3))]) ⟨rfl, rfl, rfl, trivial⟩ (cR_takeStart_180_ok l1 l3 _ _ h)
      · replace h := Ok_f c9 h
        refine ev_aload_n (pc' := 91) m_216 rfl rfl rfl (ev_iconst (pc' := 92) (x := 0) m_216 rfl rfl rfl ?_)
        refine tr_ci (pc' := 95) m_216 rfl rfl rfl m_204 rfl rfl rfl rfl (tr_rcv ts_o87 rfl) rfl rfl (cR_takeExp_ok ((0 : Int32)) _ _ (Ok_b h)) (fun x6_ x6_s h => ?_)
        refine ev_istore (pc' := 97) m_216 rfl rfl rfl rfl (ev_iload_n (pc' := 98) m_216 rfl rfl rfl (ev_bipush (pc' := 100) (x := 8) m_216 rfl rfl rfl ?_))
        refine ev_icmp_ge (t := 116) (e := 103) m_216 rfl rfl rfl (fun c8 => ?_) (fun c8 => ?_)
        · replace h := Ok_t c8 h
          exact am_Ev.sub (L := [(0, .ref 87), (1, .int (l1)), (3, .int (l3))]) ⟨rfl, rfl, rfl, trivial⟩ (cR_takeStart_116_ok (cR_takeStart_79 n) ih l1 l3 _ _ h)
        · replace h := Ok_f c8 h
          refine ev_aload_n (pc' := 104) m_216 rfl rfl rfl (tr_get (pc' := 107) (v := .ref 104) m_216 rfl rfl ts_o87 rfl rfl rfl (ev_bipush (pc' := 109) (x := 8) m_216 rfl rfl rfl (ev_iload_n (pc' := 110) m_216 rfl rfl rfl (ev_imul (pc' := 111) m_216 rfl rfl (ev_iload_n (pc' := 112) m_216 rfl rfl rfl (ev_iadd (pc' := 113) m_216 rfl rfl (ev_iload (pc' := 115) m_216 rfl rfl rfl ?_)))))))
          obtain ⟨g7, h⟩ := Ok_g h
          refine tr_iast (pc' := 116) m_216 rfl rfl rfl g7 rfl ?_
          exact am_Ev.sub (L := [(0, .ref 87), (1, .int (l1)), (3, .int (l3))]) ⟨rfl, rfl, rfl, trivial⟩ (cR_takeStart_116_ok (cR_takeStart_79 n) ih l1 l3 _ _ h)
def cR_takeStart_25 (l1 : Int32) (s : ts) : Option (ts) := (if am_idx l1 900 = true then (cR_next (wA (wB s 106 l1.toNatClampNeg (gJ s 1108 0)) 107 l1.toNatClampNeg (gI (wB s 106 l1.toNatClampNeg (gJ s 1108 0)) 1107 0))).bind (fun s3 => (cR_must ((40 : Int32)) s3).bind (fun s6 => (cR_good s6).bind (fun x10 => (if x10.1 = ((0 : Int32)) then cR_takeStart_79 tm_N l1 ((0 : Int32)) ((0 : Int32)) x10.2 else (if (gI x10.2 1106 0) = ((41 : Int32)) then cR_takeStart_79 tm_N l1 ((0 : Int32)) ((0 : Int32)) x10.2 else cR_takeStart_79 tm_N l1 ((1 : Int32)) ((0 : Int32)) x10.2))))) else none)
set_option maxRecDepth 20000 in
theorem cR_takeStart_25_ok {d : Nat} (l1 : Int32) (s : ts) (Q : ts → Prop) (h : Ok (cR_takeStart_25 l1 s) Q) : am_Ev (d + 7) 216 (25, [(0, .ref 87), (1, .int (l1))], []) (lay s) (tq_v Q) := by
  unfold cR_takeStart_25 at h
  refine ev_aload_n (pc' := 26) m_216 rfl rfl rfl (tr_get (pc' := 29) (v := .ref 106) m_216 rfl rfl ts_o87 rfl rfl rfl (ev_iload_n (pc' := 30) m_216 rfl rfl rfl (ev_aload_n (pc' := 31) m_216 rfl rfl rfl (tr_get (pc' := 34) (v := .long (gJ _ 1108 _)) m_216 rfl rfl ts_o87 rfl rfl rfl ?_))))
  obtain ⟨g1, h⟩ := Ok_g h
  refine tr_last (pc' := 35) m_216 rfl rfl rfl g1 rfl (ev_aload_n (pc' := 36) m_216 rfl rfl rfl (tr_get (pc' := 39) (v := .ref 107) m_216 rfl rfl ts_o87 rfl rfl rfl (ev_iload_n (pc' := 40) m_216 rfl rfl rfl (ev_aload_n (pc' := 41) m_216 rfl rfl rfl (tr_get (pc' := 44) (v := .int (gI _ 1107 _)) m_216 rfl rfl ts_o87 rfl rfl rfl (tr_iast (pc' := 45) m_216 rfl rfl rfl g1 rfl (ev_aload_n (pc' := 46) m_216 rfl rfl rfl ?_)))))))
  refine tr_cv (pc' := 49) m_216 rfl rfl rfl m_176 rfl rfl rfl rfl (tr_rcv ts_o87 rfl) rfl rfl (cR_next_ok _ _ (Ok_b h)) (fun s3 h => ?_)
  refine ev_aload_n (pc' := 50) m_216 rfl rfl rfl (ev_bipush (pc' := 52) (x := 40) m_216 rfl rfl rfl ?_)
  refine tr_cv (pc' := 55) m_216 rfl rfl rfl m_194 rfl rfl rfl rfl (tr_rcv ts_o87 rfl) rfl rfl (cR_must_ok ((40 : Int32)) _ _ (Ok_b h)) (fun s6 h => ?_)
  refine ev_aload_n (pc' := 56) m_216 rfl rfl rfl ?_
  refine tr_cz (pc' := 59) m_216 rfl rfl rfl m_177 rfl rfl rfl rfl rfl (tr_rcv ts_o87 rfl) rfl rfl (cR_good_ok _ _ (Ok_b h)) (fun x10_ x10_s h8 h => ?_)
  refine ev_if_eq (t := 75) (e := 62) m_216 rfl rfl rfl (fun c12 => ?_) (fun c12 => ?_)
  · replace h := Ok_t c12 h
    refine ev_iconst (pc' := 76) (x := 0) m_216 rfl rfl rfl (ev_istore_n (pc' := 77) m_216 rfl rfl rfl rfl (ev_iconst (pc' := 78) (x := 0) m_216 rfl rfl rfl (ev_istore_n (pc' := 79) m_216 rfl rfl rfl rfl ?_)))
    exact am_Ev.sub (L := [(0, .ref 87), (1, .int (l1)), (2, .int ((0 : Int32))), (3, .int ((0 : Int32)))]) ⟨rfl, rfl, rfl, rfl, trivial⟩ (cR_takeStart_79_ok tm_N l1 ((0 : Int32)) ((0 : Int32)) _ _ h)
  · replace h := Ok_f c12 h
    refine ev_aload_n (pc' := 63) m_216 rfl rfl rfl (tr_get (pc' := 66) (v := .int (gI _ 1106 _)) m_216 rfl rfl ts_o87 rfl rfl rfl (ev_bipush (pc' := 68) (x := 41) m_216 rfl rfl rfl ?_))
    refine ev_icmp_eq (t := 75) (e := 71) m_216 rfl rfl rfl (fun c11 => ?_) (fun c11 => ?_)
    · replace h := Ok_t c11 h
      refine ev_iconst (pc' := 76) (x := 0) m_216 rfl rfl rfl (ev_istore_n (pc' := 77) m_216 rfl rfl rfl rfl (ev_iconst (pc' := 78) (x := 0) m_216 rfl rfl rfl (ev_istore_n (pc' := 79) m_216 rfl rfl rfl rfl ?_)))
      exact am_Ev.sub (L := [(0, .ref 87), (1, .int (l1)), (2, .int ((0 : Int32))), (3, .int ((0 : Int32)))]) ⟨rfl, rfl, rfl, rfl, trivial⟩ (cR_takeStart_79_ok tm_N l1 ((0 : Int32)) ((0 : Int32)) _ _ h)
    · replace h := Ok_f c11 h
      refine ev_iconst (pc' := 72) (x := 1) m_216 rfl rfl rfl (ev_goto (pc' := 76) m_216 rfl rfl (ev_istore_n (pc' := 77) m_216 rfl rfl rfl rfl (ev_iconst (pc' := 78) (x := 0) m_216 rfl rfl rfl (ev_istore_n (pc' := 79) m_216 rfl rfl rfl rfl ?_))))
      exact am_Ev.sub (L := [(0, .ref 87), (1, .int (l1)), (2, .int ((1 : Int32))), (3, .int ((0 : Int32)))]) ⟨rfl, rfl, rfl, rfl, trivial⟩ (cR_takeStart_79_ok tm_N l1 ((1 : Int32)) ((0 : Int32)) _ _ h)
def cR_takeStart_21 (l1 : Int32) (t1 : Int32) (s : ts) : Option (ts) := (cR_need t1 ((2 : Int32)) s).bind (fun s2 => cR_takeStart_25 l1 s2)
set_option maxRecDepth 20000 in
theorem cR_takeStart_21_ok {d : Nat} (l1 : Int32) (t1 : Int32) (s : ts) (Q : ts → Prop) (h : Ok (cR_takeStart_21 l1 t1 s) Q) : am_Ev (d + 7) 216 (21, [(0, .ref 87), (1, .int (l1))], [.int (t1), .ref 87]) (lay s) (tq_v Q) := by
  unfold cR_takeStart_21 at h
  refine ev_iconst (pc' := 22) (x := 2) m_216 rfl rfl rfl ?_
  refine tr_cv (pc' := 25) m_216 rfl rfl rfl m_183 rfl rfl rfl rfl (tr_rcv ts_o87 rfl) rfl rfl (cR_need_ok t1 ((2 : Int32)) _ _ (Ok_b h)) (fun s2 h => ?_)
  exact am_Ev.sub (L := [(0, .ref 87), (1, .int (l1))]) ⟨rfl, rfl, trivial⟩ (cR_takeStart_25_ok l1 _ _ h)
def cR_takeStart (l1 : Int32) (s : ts) : Option (ts) := (cR_good s).bind (fun x3 => (if x3.1 = ((0 : Int32)) then cR_takeStart_25 l1 x3.2 else (if (gI x3.2 1106 0) = ((1 : Int32)) then cR_takeStart_21 l1 ((1 : Int32)) x3.2 else cR_takeStart_21 l1 ((0 : Int32)) x3.2)))
set_option maxRecDepth 20000 in
theorem cR_takeStart_ok {d : Nat} (l1 : Int32) (s : ts) (Q : ts → Prop) (h : Ok (cR_takeStart l1 s) Q) : am_Ev (d + 7) 216 (0, [(0, .ref 87), (1, .int (l1))], []) (lay s) (tq_v Q) := by
  unfold cR_takeStart at h
  refine ev_aload_n (pc' := 1) m_216 rfl rfl rfl ?_
  refine tr_cz (pc' := 4) m_216 rfl rfl rfl m_177 rfl rfl rfl rfl rfl (tr_rcv ts_o87 rfl) rfl rfl (cR_good_ok _ _ (Ok_b h)) (fun x3_ x3_s h1 h => ?_)
  refine ev_if_eq (t := 25) (e := 7) m_216 rfl rfl rfl (fun c5 => ?_) (fun c5 => ?_)
  · replace h := Ok_t c5 h
    exact am_Ev.sub (L := [(0, .ref 87), (1, .int (l1))]) ⟨rfl, rfl, trivial⟩ (cR_takeStart_25_ok l1 _ _ h)
  · replace h := Ok_f c5 h
    refine ev_aload_n (pc' := 8) m_216 rfl rfl rfl (ev_aload_n (pc' := 9) m_216 rfl rfl rfl (tr_get (pc' := 12) (v := .int (gI _ 1106 _)) m_216 rfl rfl ts_o87 rfl rfl rfl (ev_iconst (pc' := 13) (x := 1) m_216 rfl rfl rfl ?_)))
    refine ev_icmp_ne (t := 20) (e := 16) m_216 rfl rfl rfl (fun c4 => ?_) (fun c4 => ?_)
    · replace h := Ok_f c4 h
      refine ev_iconst (pc' := 21) (x := 0) m_216 rfl rfl rfl ?_
      exact am_Ev.sub (L := [(0, .ref 87), (1, .int (l1))]) ⟨rfl, rfl, trivial⟩ (cR_takeStart_21_ok l1 ((0 : Int32)) _ _ h)
    · replace h := Ok_t c4 h
      refine ev_iconst (pc' := 17) (x := 1) m_216 rfl rfl rfl (ev_goto (pc' := 21) m_216 rfl rfl ?_)
      exact am_Ev.sub (L := [(0, .ref 87), (1, .int (l1))]) ⟨rfl, rfl, trivial⟩ (cR_takeStart_21_ok l1 ((1 : Int32)) _ _ h)
