/-! THE METHODS AS FUNCTIONS, printed by wip/tools/decomp.py; the machine does what they say. -/
def cR_takeRest_398 (t1 : Int32) (t3 : Int32) (s : ts) : Option (ts) := (cR_takeExp t3 s).bind (fun x3 => (if am_idx t1 900 = true then (cR_must ((59 : Int32)) (wA x3.2 101 t1.toNatClampNeg x3.1)).bind (fun s6 => some s6) else none))
set_option maxRecDepth 20000 in
theorem cR_takeRest_398_ok {d : Nat} (t1 : Int32) (t3 : Int32) (s : ts) (Q : ts → Prop) (h : Ok (cR_takeRest_398 t1 t3 s) Q) : am_Ev (d + 8) 215 (398, [(0, .ref 87)], [.int (t3), .ref 87, .int (t1), .ref 101]) (lay s) (tq_v Q) := by
  unfold cR_takeRest_398 at h
  refine tr_ci (pc' := 401) m_215 rfl rfl rfl m_204 rfl rfl rfl rfl (tr_rcv ts_o87 rfl) rfl rfl (cR_takeExp_ok t3 _ _ (Ok_b h)) (fun x3_ x3_s h => ?_)
  obtain ⟨g4, h⟩ := Ok_g h
  refine tr_iast (pc' := 402) m_215 rfl rfl rfl g4 rfl (ev_aload_n (pc' := 403) m_215 rfl rfl rfl (ev_bipush (pc' := 405) (x := 59) m_215 rfl rfl rfl ?_))
  refine tr_cv (pc' := 408) m_215 rfl rfl rfl m_194 rfl rfl rfl rfl (tr_rcv ts_o87 rfl) rfl rfl (cR_must_ok ((59 : Int32)) _ _ (Ok_b h)) (fun s6 h => ?_)
  exact tr_rv m_215 rfl rfl (Ok_s h)
def cR_takeRest_264 (t1 : Int32) (t2 : Int32) (s : ts) : Option (ts) := (if am_idx t1 900 = true then (cR_must ((59 : Int32)) (wA s 101 t1.toNatClampNeg t2)).bind (fun s3 => some s3) else none)
set_option maxRecDepth 20000 in
theorem cR_takeRest_264_ok {d : Nat} (t1 : Int32) (t2 : Int32) (s : ts) (Q : ts → Prop) (h : Ok (cR_takeRest_264 t1 t2 s) Q) : am_Ev (d + 8) 215 (264, [(0, .ref 87)], [.int (t2), .int (t1), .ref 101]) (lay s) (tq_v Q) := by
  unfold cR_takeRest_264 at h
  obtain ⟨g1, h⟩ := Ok_g h
  refine tr_iast (pc' := 265) m_215 rfl rfl rfl g1 rfl (ev_aload_n (pc' := 266) m_215 rfl rfl rfl (ev_bipush (pc' := 268) (x := 59) m_215 rfl rfl rfl ?_))
  refine tr_cv (pc' := 271) m_215 rfl rfl rfl m_194 rfl rfl rfl rfl (tr_rcv ts_o87 rfl) rfl rfl (cR_must_ok ((59 : Int32)) _ _ (Ok_b h)) (fun s3 h => ?_)
  refine ev_goto (pc' := 408) m_215 rfl rfl ?_
  exact tr_rv m_215 rfl rfl (Ok_s h)
def cR_takeRest_224 (l1 : Int32) (l2 : Int32) (s : ts) : Option (ts) := (cR_next s).bind (fun s2 => (if l2 = ((9 : Int32)) then (cR_good s2).bind (fun x6 => (if x6.1 = ((0 : Int32)) then cR_takeRest_264 l1 ((-1 : Int32)) x6.2 else (if (gI x6.2 1106 0) = ((59 : Int32)) then cR_takeRest_264 l1 ((-1 : Int32)) x6.2 else (cR_takeExp ((0 : Int32)) x6.2).bind (fun x9 => cR_takeRest_264 l1 x9.1 x9.2)))) else cR_takeRest_264 l1 ((-1 : Int32)) s2))
set_option maxRecDepth 20000 in
theorem cR_takeRest_224_ok {d : Nat} (l1 : Int32) (l2 : Int32) (s : ts) (Q : ts → Prop) (h : Ok (cR_takeRest_224 l1 l2 s) Q) : am_Ev (d + 8) 215 (224, [(0, .ref 87), (1, .int (l1)), (2, .int (l2))], []) (lay s) (tq_v Q) := by
  unfold cR_takeRest_224 at h
  refine ev_aload_n (pc' := 225) m_215 rfl rfl rfl ?_
  refine tr_cv (pc' := 228) m_215 rfl rfl rfl m_176 rfl rfl rfl rfl (tr_rcv ts_o87 rfl) rfl rfl (cR_next_ok _ _ (Ok_b h)) (fun s2 h => ?_)
  refine ev_aload_n (pc' := 229) m_215 rfl rfl rfl (tr_get (pc' := 232) (v := .ref 101) m_215 rfl rfl ts_o87 rfl rfl rfl (ev_iload_n (pc' := 233) m_215 rfl rfl rfl (ev_iload_n (pc' := 234) m_215 rfl rfl rfl (ev_bipush (pc' := 236) (x := 9) m_215 rfl rfl rfl ?_))))
  refine ev_icmp_ne (t := 263) (e := 239) m_215 rfl rfl rfl (fun c12 => ?_) (fun c12 => ?_)
  · replace h := Ok_f c12 h
    refine ev_iconst (pc' := 264) (x := -1) m_215 rfl rfl rfl ?_
    exact am_Ev.sub (L := [(0, .ref 87)]) ⟨rfl, trivial⟩ (cR_takeRest_264_ok l1 ((-1 : Int32)) _ _ h)
  · replace h := Ok_t c12 h
    refine ev_aload_n (pc' := 240) m_215 rfl rfl rfl ?_
    refine tr_cz (pc' := 243) m_215 rfl rfl rfl m_177 rfl rfl rfl rfl rfl (tr_rcv ts_o87 rfl) rfl rfl (cR_good_ok _ _ (Ok_b h)) (fun x6_ x6_s h4 h => ?_)
    refine ev_if_eq (t := 263) (e := 246) m_215 rfl rfl rfl (fun c11 => ?_) (fun c11 => ?_)
    · replace h := Ok_t c11 h
      refine ev_iconst (pc' := 264) (x := -1) m_215 rfl rfl rfl ?_
      exact am_Ev.sub (L := [(0, .ref 87)]) ⟨rfl, trivial⟩ (cR_takeRest_264_ok l1 ((-1 : Int32)) _ _ h)
    · replace h := Ok_f c11 h
      refine ev_aload_n (pc' := 247) m_215 rfl rfl rfl (tr_get (pc' := 250) (v := .int (gI _ 1106 _)) m_215 rfl rfl ts_o87 rfl rfl rfl (ev_bipush (pc' := 252) (x := 59) m_215 rfl rfl rfl ?_))
      refine ev_icmp_eq (t := 263) (e := 255) m_215 rfl rfl rfl (fun c10 => ?_) (fun c10 => ?_)
      · replace h := Ok_t c10 h
        refine ev_iconst (pc' := 264) (x := -1) m_215 rfl rfl rfl ?_
        exact am_Ev.sub (L := [(0, .ref 87)]) ⟨rfl, trivial⟩ (cR_takeRest_264_ok l1 ((-1 : Int32)) _ _ h)
      · replace h := Ok_f c10 h
        refine ev_aload_n (pc' := 256) m_215 rfl rfl rfl (ev_iconst (pc' := 257) (x := 0) m_215 rfl rfl rfl ?_)
        refine tr_ci (pc' := 260) m_215 rfl rfl rfl m_204 rfl rfl rfl rfl (tr_rcv ts_o87 rfl) rfl rfl (cR_takeExp_ok ((0 : Int32)) _ _ (Ok_b h)) (fun x9_ x9_s h => ?_)
        refine ev_goto (pc' := 264) m_215 rfl rfl ?_
        exact am_Ev.sub (L := [(0, .ref 87)]) ⟨rfl, trivial⟩ (cR_takeRest_264_ok l1 x9_ _ _ h)
def cR_takeRest_220 (l1 : Int32) (l2 : Int32) (t1 : Int32) (s : ts) : Option (ts) := (cR_need t1 ((4 : Int32)) s).bind (fun s2 => cR_takeRest_224 l1 l2 s2)
set_option maxRecDepth 20000 in
theorem cR_takeRest_220_ok {d : Nat} (l1 : Int32) (l2 : Int32) (t1 : Int32) (s : ts) (Q : ts → Prop) (h : Ok (cR_takeRest_220 l1 l2 t1 s) Q) : am_Ev (d + 8) 215 (220, [(0, .ref 87), (1, .int (l1)), (2, .int (l2))], [.int (t1), .ref 87]) (lay s) (tq_v Q) := by
  unfold cR_takeRest_220 at h
  refine ev_iconst (pc' := 221) (x := 4) m_215 rfl rfl rfl ?_
  refine tr_cv (pc' := 224) m_215 rfl rfl rfl m_183 rfl rfl rfl rfl (tr_rcv ts_o87 rfl) rfl rfl (cR_need_ok t1 ((4 : Int32)) _ _ (Ok_b h)) (fun s2 h => ?_)
  exact am_Ev.sub (L := [(0, .ref 87), (1, .int (l1)), (2, .int (l2))]) ⟨rfl, rfl, rfl, trivial⟩ (cR_takeRest_224_ok l1 l2 _ _ h)
def cR_takeRest_183 (l1 : Int32) (l2 : Int32) (s : ts) : Option (ts) := (cR_findResource (gJ s 1108 0) s).bind (fun x3 => (if am_idx l1 900 = true then (cR_good (wA x3.2 100 l1.toNatClampNeg x3.1)).bind (fun x7 => (if x7.1 = ((0 : Int32)) then cR_takeRest_224 l1 l2 x7.2 else (if (gA x7.2 100 l1.toNatClampNeg) = ((-1 : Int32)) then cR_takeRest_220 l1 l2 ((0 : Int32)) x7.2 else cR_takeRest_220 l1 l2 ((1 : Int32)) x7.2))) else none))
set_option maxRecDepth 20000 in
theorem cR_takeRest_183_ok {d : Nat} (l1 : Int32) (l2 : Int32) (s : ts) (Q : ts → Prop) (h : Ok (cR_takeRest_183 l1 l2 s) Q) : am_Ev (d + 8) 215 (183, [(0, .ref 87), (1, .int (l1)), (2, .int (l2))], []) (lay s) (tq_v Q) := by
  unfold cR_takeRest_183 at h
  refine ev_aload_n (pc' := 184) m_215 rfl rfl rfl (tr_get (pc' := 187) (v := .ref 100) m_215 rfl rfl ts_o87 rfl rfl rfl (ev_iload_n (pc' := 188) m_215 rfl rfl rfl (ev_aload_n (pc' := 189) m_215 rfl rfl rfl (ev_aload_n (pc' := 190) m_215 rfl rfl rfl (tr_get (pc' := 193) (v := .long (gJ _ 1108 _)) m_215 rfl rfl ts_o87 rfl rfl rfl ?_)))))
  refine tr_ci (pc' := 196) m_215 rfl rfl rfl m_188 rfl rfl rfl rfl (tr_rcv ts_o87 rfl) rfl rfl (cR_findResource_ok (gJ s 1108 0) _ _ (Ok_b h)) (fun x3_ x3_s h => ?_)
  obtain ⟨g4, h⟩ := Ok_g h
  refine tr_iast (pc' := 197) m_215 rfl rfl rfl g4 rfl (ev_aload_n (pc' := 198) m_215 rfl rfl rfl ?_)
  refine tr_cz (pc' := 201) m_215 rfl rfl rfl m_177 rfl rfl rfl rfl rfl (tr_rcv ts_o87 rfl) rfl rfl (cR_good_ok _ _ (Ok_b h)) (fun x7_ x7_s h5 h => ?_)
  refine ev_if_eq (t := 224) (e := 204) m_215 rfl rfl rfl (fun c9 => ?_) (fun c9 => ?_)
  · replace h := Ok_t c9 h
    exact am_Ev.sub (L := [(0, .ref 87), (1, .int (l1)), (2, .int (l2))]) ⟨rfl, rfl, rfl, trivial⟩ (cR_takeRest_224_ok l1 l2 _ _ h)
  · replace h := Ok_f c9 h
    refine ev_aload_n (pc' := 205) m_215 rfl rfl rfl (ev_aload_n (pc' := 206) m_215 rfl rfl rfl (tr_get (pc' := 209) (v := .ref 100) m_215 rfl rfl ts_o87 rfl rfl rfl (ev_iload_n (pc' := 210) m_215 rfl rfl rfl (tr_iald (pc' := 211) m_215 rfl rfl rfl g4 rfl (ev_iconst (pc' := 212) (x := -1) m_215 rfl rfl rfl ?_)))))
    refine ev_icmp_eq (t := 219) (e := 215) m_215 rfl rfl rfl (fun c8 => ?_) (fun c8 => ?_)
    · replace h := Ok_t c8 h
      refine ev_iconst (pc' := 220) (x := 0) m_215 rfl rfl rfl ?_
      exact am_Ev.sub (L := [(0, .ref 87), (1, .int (l1)), (2, .int (l2))]) ⟨rfl, rfl, rfl, trivial⟩ (cR_takeRest_220_ok l1 l2 ((0 : Int32)) _ _ h)
    · replace h := Ok_f c8 h
      refine ev_iconst (pc' := 216) (x := 1) m_215 rfl rfl rfl (ev_goto (pc' := 220) m_215 rfl rfl ?_)
      exact am_Ev.sub (L := [(0, .ref 87), (1, .int (l1)), (2, .int (l2))]) ⟨rfl, rfl, rfl, trivial⟩ (cR_takeRest_220_ok l1 l2 ((1 : Int32)) _ _ h)
def cR_takeRest_179 (l1 : Int32) (l2 : Int32) (t1 : Int32) (s : ts) : Option (ts) := (cR_need t1 ((2 : Int32)) s).bind (fun s2 => cR_takeRest_183 l1 l2 s2)
set_option maxRecDepth 20000 in
theorem cR_takeRest_179_ok {d : Nat} (l1 : Int32) (l2 : Int32) (t1 : Int32) (s : ts) (Q : ts → Prop) (h : Ok (cR_takeRest_179 l1 l2 t1 s) Q) : am_Ev (d + 8) 215 (179, [(0, .ref 87), (1, .int (l1)), (2, .int (l2))], [.int (t1), .ref 87]) (lay s) (tq_v Q) := by
  unfold cR_takeRest_179 at h
  refine ev_iconst (pc' := 180) (x := 2) m_215 rfl rfl rfl ?_
  refine tr_cv (pc' := 183) m_215 rfl rfl rfl m_183 rfl rfl rfl rfl (tr_rcv ts_o87 rfl) rfl rfl (cR_need_ok t1 ((2 : Int32)) _ _ (Ok_b h)) (fun s2 h => ?_)
  exact am_Ev.sub (L := [(0, .ref 87), (1, .int (l1)), (2, .int (l2))]) ⟨rfl, rfl, rfl, trivial⟩ (cR_takeRest_183_ok l1 l2 _ _ h)
def cR_takeRest_340 (l1 : Int32) (s : ts) : Option (ts) := (cR_next s).bind (fun s2 => (cR_takeExp ((0 : Int32)) s2).bind (fun x6 => (if am_idx l1 900 = true then (cR_must ((59 : Int32)) (wA x6.2 101 l1.toNatClampNeg x6.1)).bind (fun s9 => some s9) else none)))
set_option maxRecDepth 20000 in
theorem cR_takeRest_340_ok {d : Nat} (l1 : Int32) (s : ts) (Q : ts → Prop) (h : Ok (cR_takeRest_340 l1 s) Q) : am_Ev (d + 8) 215 (340, [(0, .ref 87), (1, .int (l1))], []) (lay s) (tq_v Q) := by
  unfold cR_takeRest_340 at h
  refine ev_aload_n (pc' := 341) m_215 rfl rfl rfl ?_
  refine tr_cv (pc' := 344) m_215 rfl rfl rfl m_176 rfl rfl rfl rfl (tr_rcv ts_o87 rfl) rfl rfl (cR_next_ok _ _ (Ok_b h)) (fun s2 h => ?_)
  refine ev_aload_n (pc' := 345) m_215 rfl rfl rfl (tr_get (pc' := 348) (v := .ref 101) m_215 rfl rfl ts_o87 rfl rfl rfl (ev_iload_n (pc' := 349) m_215 rfl rfl rfl (ev_aload_n (pc' := 350) m_215 rfl rfl rfl (ev_iconst (pc' := 351) (x := 0) m_215 rfl rfl rfl ?_))))
  refine tr_ci (pc' := 354) m_215 rfl rfl rfl m_204 rfl rfl rfl rfl (tr_rcv ts_o87 rfl) rfl rfl (cR_takeExp_ok ((0 : Int32)) _ _ (Ok_b h)) (fun x6_ x6_s h => ?_)
  obtain ⟨g7, h⟩ := Ok_g h
  refine tr_iast (pc' := 355) m_215 rfl rfl rfl g7 rfl (ev_aload_n (pc' := 356) m_215 rfl rfl rfl (ev_bipush (pc' := 358) (x := 59) m_215 rfl rfl rfl ?_))
  refine tr_cv (pc' := 361) m_215 rfl rfl rfl m_194 rfl rfl rfl rfl (tr_rcv ts_o87 rfl) rfl rfl (cR_must_ok ((59 : Int32)) _ _ (Ok_b h)) (fun s9 h => ?_)
  refine ev_goto (pc' := 408) m_215 rfl rfl ?_
  exact tr_rv m_215 rfl rfl (Ok_s h)
def cR_takeRest_336 (l1 : Int32) (t1 : Int32) (s : ts) : Option (ts) := (cR_need t1 ((4 : Int32)) s).bind (fun s2 => cR_takeRest_340 l1 s2)
set_option maxRecDepth 20000 in
theorem cR_takeRest_336_ok {d : Nat} (l1 : Int32) (t1 : Int32) (s : ts) (Q : ts → Prop) (h : Ok (cR_takeRest_336 l1 t1 s) Q) : am_Ev (d + 8) 215 (336, [(0, .ref 87), (1, .int (l1))], [.int (t1), .ref 87]) (lay s) (tq_v Q) := by
  unfold cR_takeRest_336 at h
  refine ev_iconst (pc' := 337) (x := 4) m_215 rfl rfl rfl ?_
  refine tr_cv (pc' := 340) m_215 rfl rfl rfl m_183 rfl rfl rfl rfl (tr_rcv ts_o87 rfl) rfl rfl (cR_need_ok t1 ((4 : Int32)) _ _ (Ok_b h)) (fun s2 h => ?_)
  exact am_Ev.sub (L := [(0, .ref 87), (1, .int (l1))]) ⟨rfl, rfl, trivial⟩ (cR_takeRest_340_ok l1 _ _ h)
def cR_takeRest_299 (l1 : Int32) (s : ts) : Option (ts) := (cR_findStore (gJ s 1108 0) s).bind (fun x3 => (if am_idx l1 900 = true then (cR_good (wA x3.2 100 l1.toNatClampNeg x3.1)).bind (fun x7 => (if x7.1 = ((0 : Int32)) then cR_takeRest_340 l1 x7.2 else (if (gA x7.2 100 l1.toNatClampNeg) = ((-1 : Int32)) then cR_takeRest_336 l1 ((0 : Int32)) x7.2 else cR_takeRest_336 l1 ((1 : Int32)) x7.2))) else none))
set_option maxRecDepth 20000 in
theorem cR_takeRest_299_ok {d : Nat} (l1 : Int32) (s : ts) (Q : ts → Prop) (h : Ok (cR_takeRest_299 l1 s) Q) : am_Ev (d + 8) 215 (299, [(0, .ref 87), (1, .int (l1))], []) (lay s) (tq_v Q) := by
  unfold cR_takeRest_299 at h
  refine ev_aload_n (pc' := 300) m_215 rfl rfl rfl (tr_get (pc' := 303) (v := .ref 100) m_215 rfl rfl ts_o87 rfl rfl rfl (ev_iload_n (pc' := 304) m_215 rfl rfl rfl (ev_aload_n (pc' := 305) m_215 rfl rfl rfl (ev_aload_n (pc' := 306) m_215 rfl rfl rfl (tr_get (pc' := 309) (v := .long (gJ _ 1108 _)) m_215 rfl rfl ts_o87 rfl rfl rfl ?_)))))
  refine tr_ci (pc' := 312) m_215 rfl rfl rfl m_189 rfl rfl rfl rfl (tr_rcv ts_o87 rfl) rfl rfl (cR_findStore_ok (gJ s 1108 0) _ _ (Ok_b h)) (fun x3_ x3_s h => ?_)
  obtain ⟨g4, h⟩ := Ok_g h
  refine tr_iast (pc' := 313) m_215 rfl rfl rfl g4 rfl (ev_aload_n (pc' := 314) m_215 rfl rfl rfl ?_)
  refine tr_cz (pc' := 317) m_215 rfl rfl rfl m_177 rfl rfl rfl rfl rfl (tr_rcv ts_o87 rfl) rfl rfl (cR_good_ok _ _ (Ok_b h)) (fun x7_ x7_s h5 h => ?_)
  refine ev_if_eq (t := 340) (e := 320) m_215 rfl rfl rfl (fun c9 => ?_) (fun c9 => ?_)
  · replace h := Ok_t c9 h
    exact am_Ev.sub (L := [(0, .ref 87), (1, .int (l1))]) ⟨rfl, rfl, trivial⟩ (cR_takeRest_340_ok l1 _ _ h)
  · replace h := Ok_f c9 h
    refine ev_aload_n (pc' := 321) m_215 rfl rfl rfl (ev_aload_n (pc' := 322) m_215 rfl rfl rfl (tr_get (pc' := 325) (v := .ref 100) m_215 rfl rfl ts_o87 rfl rfl rfl (ev_iload_n (pc' := 326) m_215 rfl rfl rfl (tr_iald (pc' := 327) m_215 rfl rfl rfl g4 rfl (ev_iconst (pc' := 328) (x := -1) m_215 rfl rfl rfl ?_)))))
    refine ev_icmp_eq (t := 335) (e := 331) m_215 rfl rfl rfl (fun c8 => ?_) (fun c8 => ?_)
    · replace h := Ok_t c8 h
      refine ev_iconst (pc' := 336) (x := 0) m_215 rfl rfl rfl ?_
      exact am_Ev.sub (L := [(0, .ref 87), (1, .int (l1))]) ⟨rfl, rfl, trivial⟩ (cR_takeRest_336_ok l1 ((0 : Int32)) _ _ h)
    · replace h := Ok_f c8 h
      refine ev_iconst (pc' := 332) (x := 1) m_215 rfl rfl rfl (ev_goto (pc' := 336) m_215 rfl rfl ?_)
      exact am_Ev.sub (L := [(0, .ref 87), (1, .int (l1))]) ⟨rfl, rfl, trivial⟩ (cR_takeRest_336_ok l1 ((1 : Int32)) _ _ h)
def cR_takeRest_295 (l1 : Int32) (t1 : Int32) (s : ts) : Option (ts) := (cR_need t1 ((2 : Int32)) s).bind (fun s2 => cR_takeRest_299 l1 s2)
set_option maxRecDepth 20000 in
theorem cR_takeRest_295_ok {d : Nat} (l1 : Int32) (t1 : Int32) (s : ts) (Q : ts → Prop) (h : Ok (cR_takeRest_295 l1 t1 s) Q) : am_Ev (d + 8) 215 (295, [(0, .ref 87), (1, .int (l1))], [.int (t1), .ref 87]) (lay s) (tq_v Q) := by
  unfold cR_takeRest_295 at h
  refine ev_iconst (pc' := 296) (x := 2) m_215 rfl rfl rfl ?_
  refine tr_cv (pc' := 299) m_215 rfl rfl rfl m_183 rfl rfl rfl rfl (tr_rcv ts_o87 rfl) rfl rfl (cR_need_ok t1 ((2 : Int32)) _ _ (Ok_b h)) (fun s2 h => ?_)
  exact am_Ev.sub (L := [(0, .ref 87), (1, .int (l1))]) ⟨rfl, rfl, trivial⟩ (cR_takeRest_299_ok l1 _ _ h)
def cR_takeRest (l1 : Int32) (l2 : Int32) (s : ts) : Option (ts) := (if l2 = (4 : Int32) then (cR_takeLocal s).bind (fun s2 => (cR_next s2).bind (fun s5 => (cR_must ((61 : Int32)) s5).bind (fun s8 => (cR_takeExp ((0 : Int32)) s8).bind (fun x12 => (if am_idx l1 900 = true then (cR_addLocal (gJ s2 1108 0) (wA (wA (wA x12.2 101 l1.toNatClampNeg x12.1) 100 l1.toNatClampNeg (gI (wA x12.2 101 l1.toNatClampNeg x12.1) 1123 0)) 99 l1.toNatClampNeg ((24 : Int32)))).bind (fun s15 => (cR_must ((59 : Int32)) s15).bind (fun s18 => some s18)) else none))))) else (if l2 = (5 : Int32) then (cR_takeExp ((0 : Int32)) s).bind (fun x23 => (if am_idx l1 900 = true then (cR_beginBlock l2 l1 (wA x23.2 101 l1.toNatClampNeg x23.1)).bind (fun s26 => some s26) else none)) else (if l2 = (6 : Int32) then (if l2 = ((13 : Int32)) then cR_takeRest_398 l1 ((1 : Int32)) s else cR_takeRest_398 l1 ((0 : Int32)) s) else (if l2 = (7 : Int32) then (cR_takeExp ((0 : Int32)) s).bind (fun x33 => (if am_idx l1 900 = true then (cR_beginBlock l2 l1 (wA x33.2 101 l1.toNatClampNeg x33.1)).bind (fun s36 => some s36) else none)) else (if l2 = (8 : Int32) then (if l2 = ((13 : Int32)) then cR_takeRest_398 l1 ((1 : Int32)) s else cR_takeRest_398 l1 ((0 : Int32)) s) else (if l2 = (9 : Int32) then (cR_good s).bind (fun x43 => (if x43.1 = ((0 : Int32)) then cR_takeRest_183 l1 l2 x43.2 else (if (gI x43.2 1106 0) = ((1 : Int32)) then cR_takeRest_179 l1 l2 ((1 : Int32)) x43.2 else cR_takeRest_179 l1 l2 ((0 : Int32)) x43.2))) else (if l2 = (10 : Int32) then (cR_good s).bind (fun x49 => (if x49.1 = ((0 : Int32)) then cR_takeRest_183 l1 l2 x49.2 else (if (gI x49.2 1106 0) = ((1 : Int32)) then cR_takeRest_179 l1 l2 ((1 : Int32)) x49.2 else cR_takeRest_179 l1 l2 ((0 : Int32)) x49.2))) else (if l2 = (11 : Int32) then (cR_good s).bind (fun x55 => (if x55.1 = ((0 : Int32)) then cR_takeRest_299 l1 x55.2 else (if (gI x55.2 1106 0) = ((1 : Int32)) then cR_takeRest_295 l1 ((1 : Int32)) x55.2 else cR_takeRest_295 l1 ((0 : Int32)) x55.2))) else (if l2 = (12 : Int32) then (cR_good s).bind (fun x61 => (if x61.1 = ((0 : Int32)) then cR_takeRest_299 l1 x61.2 else (if (gI x61.2 1106 0) = ((1 : Int32)) then cR_takeRest_295 l1 ((1 : Int32)) x61.2 else cR_takeRest_295 l1 ((0 : Int32)) x61.2))) else (if l2 = (13 : Int32) then (if l2 = ((13 : Int32)) then cR_takeRest_398 l1 ((1 : Int32)) s else cR_takeRest_398 l1 ((0 : Int32)) s) else (if l2 = (14 : Int32) then (cR_takeStart l1 s).bind (fun s68 => some s68) else (if l2 = (15 : Int32) then (if l2 = ((13 : Int32)) then cR_takeRest_398 l1 ((1 : Int32)) s else cR_takeRest_398 l1 ((0 : Int32)) s) else (if l2 = (16 : Int32) then (if l2 = ((13 : Int32)) then cR_takeRest_398 l1 ((1 : Int32)) s else cR_takeRest_398 l1 ((0 : Int32)) s) else (if l2 = (17 : Int32) then (if l2 = ((13 : Int32)) then cR_takeRest_398 l1 ((1 : Int32)) s else cR_takeRest_398 l1 ((0 : Int32)) s) else (if l2 = (18 : Int32) then (cR_must ((59 : Int32)) s).bind (fun s78 => some s78) else (if l2 = ((13 : Int32)) then cR_takeRest_398 l1 ((1 : Int32)) s else cR_takeRest_398 l1 ((0 : Int32)) s))))))))))))))))
set_option maxRecDepth 20000 in
theorem cR_takeRest_ok {d : Nat} (l1 : Int32) (l2 : Int32) (s : ts) (Q : ts → Prop) (h : Ok (cR_takeRest l1 l2 s) Q) : am_Ev (d + 8) 215 (0, [(0, .ref 87), (1, .int (l1)), (2, .int (l2))], []) (lay s) (tq_v Q) := by
  unfold cR_takeRest at h
  refine ev_iload_n (pc' := 1) m_215 rfl rfl rfl ?_
  by_cases c20 : l2 = (4 : Int32)
  · replace h := Ok_t c20 h
    refine ev_sw (pc' := 76) m_215 rfl (by rw [c20]; rfl) ?_
    refine ev_aload_n (pc' := 77) m_215 rfl rfl rfl ?_
    refine tr_cv (pc' := 80) m_215 rfl rfl rfl m_198 rfl rfl rfl rfl (tr_rcv ts_o87 rfl) rfl rfl (cR_takeLocal_ok _ _ (Ok_b h)) (fun s2 h => ?_)
    refine ev_aload_n (pc' := 81) m_215 rfl rfl rfl (tr_get (pc' := 84) (v := .long (gJ _ 1108 _)) m_215 rfl rfl ts_o87 rfl rfl rfl (ev_lstore_n (pc' := 85) m_215 rfl rfl rfl rfl (ev_aload_n (pc' := 86) m_215 rfl rfl rfl ?_)))
    refine tr_cv (pc' := 89) m_215 rfl rfl rfl m_176 rfl rfl rfl rfl (tr_rcv ts_o87 rfl) rfl rfl (cR_next_ok _ _ (Ok_b h)) (fun s5 h => ?_)
    refine ev_aload_n (pc' := 90) m_215 rfl rfl rfl (ev_bipush (pc' := 92) (x := 61) m_215 rfl rfl rfl ?_)
    refine tr_cv (pc' := 95) m_215 rfl rfl rfl m_194 rfl rfl rfl rfl (tr_rcv ts_o87 rfl) rfl rfl (cR_must_ok ((61 : Int32)) _ _ (Ok_b h)) (fun s8 h => ?_)
    refine ev_aload_n (pc' := 96) m_215 rfl rfl rfl (tr_get (pc' := 99) (v := .ref 101) m_215 rfl rfl ts_o87 rfl rfl rfl (ev_iload_n (pc' := 100) m_215 rfl rfl rfl (ev_aload_n (pc' := 101) m_215 rfl rfl rfl (ev_iconst (pc' := 102) (x := 0) m_215 rfl rfl rfl ?_))))
    refine tr_ci (pc' := 105) m_215 rfl rfl rfl m_204 rfl rfl rfl rfl (tr_rcv ts_o87 rfl) rfl rfl (cR_takeExp_ok ((0 : Int32)) _ _ (Ok_b h)) (fun x12_ x12_s h => ?_)
    obtain ⟨g13, h⟩ := Ok_g h
    refine tr_iast (pc' := 106) m_215 rfl rfl rfl g13 rfl (ev_aload_n (pc' := 107) m_215 rfl rfl rfl (tr_get (pc' := 110) (v := .ref 100) m_215 rfl rfl ts_o87 rfl rfl rfl (ev_iload_n (pc' := 111) m_215 rfl rfl rfl (ev_aload_n (pc' := 112) m_215 rfl rfl rfl (tr_get (pc' := 115) (v := .int (gI _ 1123 _)) m_215 rfl rfl ts_o87 rfl rfl rfl (tr_iast (pc' := 116) m_215 rfl rfl rfl g13 rfl (ev_aload_n (pc' := 117) m_215 rfl rfl rfl ?_)))))))
    refine tr_get (pc' := 120) (v := .ref 99) m_215 rfl rfl ts_o87 rfl rfl rfl (ev_iload_n (pc' := 121) m_215 rfl rfl rfl (ev_bipush (pc' := 123) (x := 24) m_215 rfl rfl rfl (tr_iast (pc' := 124) m_215 rfl rfl rfl g13 rfl (ev_aload_n (pc' := 125) m_215 rfl rfl rfl (ev_lload_n (pc' := 126) m_215 rfl rfl rfl ?_)))))
    refine tr_cv (pc' := 129) m_215 rfl rfl rfl m_199 rfl rfl rfl rfl (tr_rcv ts_o87 rfl) rfl rfl (cR_addLocal_ok (gJ s2 1108 0) _ _ (Ok_b h)) (fun s15 h => ?_)
    refine ev_aload_n (pc' := 130) m_215 rfl rfl rfl (ev_bipush (pc' := 132) (x := 59) m_215 rfl rfl rfl ?_)
    refine tr_cv (pc' := 135) m_215 rfl rfl rfl m_194 rfl rfl rfl rfl (tr_rcv ts_o87 rfl) rfl rfl (cR_must_ok ((59 : Int32)) _ _ (Ok_b h)) (fun s18 h => ?_)
    refine ev_goto (pc' := 408) m_215 rfl rfl ?_
    exact tr_rv m_215 rfl rfl (Ok_s h)
  replace h := Ok_f c20 h
  by_cases c28 : l2 = (5 : Int32)
  · replace h := Ok_t c28 h
    refine ev_sw (pc' := 138) m_215 rfl (by rw [c28]; rfl) ?_
    refine ev_aload_n (pc' := 139) m_215 rfl rfl rfl (tr_get (pc' := 142) (v := .ref 101) m_215 rfl rfl ts_o87 rfl rfl rfl (ev_iload_n (pc' := 143) m_215 rfl rfl rfl (ev_aload_n (pc' := 144) m_215 rfl rfl rfl (ev_iconst (pc' := 145) (x := 0) m_215 rfl rfl rfl ?_))))
    refine tr_ci (pc' := 148) m_215 rfl rfl rfl m_204 rfl rfl rfl rfl (tr_rcv ts_o87 rfl) rfl rfl (cR_takeExp_ok ((0 : Int32)) _ _ (Ok_b h)) (fun x23_ x23_s h => ?_)
    obtain ⟨g24, h⟩ := Ok_g h
    refine tr_iast (pc' := 149) m_215 rfl rfl rfl g24 rfl (ev_aload_n (pc' := 150) m_215 rfl rfl rfl (ev_iload_n (pc' := 151) m_215 rfl rfl rfl (ev_iload_n (pc' := 152) m_215 rfl rfl rfl ?_)))
    refine tr_cv (pc' := 155) m_215 rfl rfl rfl m_200 rfl rfl rfl rfl (tr_rcv ts_o87 rfl) rfl rfl (cR_beginBlock_ok l2 l1 _ _ (Ok_b h)) (fun s26 h => ?_)
    refine ev_goto (pc' := 408) m_215 rfl rfl ?_
    exact tr_rv m_215 rfl rfl (Ok_s h)
  replace h := Ok_f c28 h
  by_cases c30 : l2 = (6 : Int32)
  · replace h := Ok_t c30 h
    refine ev_sw (pc' := 381) m_215 rfl (by rw [c30]; rfl) ?_
    refine ev_aload_n (pc' := 382) m_215 rfl rfl rfl (tr_get (pc' := 385) (v := .ref 101) m_215 rfl rfl ts_o87 rfl rfl rfl (ev_iload_n (pc' := 386) m_215 rfl rfl rfl (ev_aload_n (pc' := 387) m_215 rfl rfl rfl (ev_iload_n (pc' := 388) m_215 rfl rfl rfl (ev_bipush (pc' := 390) (x := 13) m_215 rfl rfl rfl ?_)))))
    refine ev_icmp_ne (t := 397) (e := 393) m_215 rfl rfl rfl (fun c29 => ?_) (fun c29 => ?_)
    · replace h := Ok_f c29 h
      refine ev_iconst (pc' := 398) (x := 0) m_215 rfl rfl rfl ?_
      exact am_Ev.sub (L := [(0, .ref 87)]) ⟨rfl, trivial⟩ (cR_takeRest_398_ok l1 ((0 : Int32)) _ _ h)
    · replace h := Ok_t c29 h
      refine ev_iconst (pc' := 394) (x := 1) m_215 rfl rfl rfl (ev_goto (pc' := 398) m_215 rfl rfl ?_)
      exact am_Ev.sub (L := [(0, .ref 87)]) ⟨rfl, trivial⟩ (cR_takeRest_398_ok l1 ((1 : Int32)) _ _ h)
  replace h := Ok_f c30 h
  by_cases c38 : l2 = (7 : Int32)
  · replace h := Ok_t c38 h
    refine ev_sw (pc' := 138) m_215 rfl (by rw [c38]; rfl) ?_
    refine ev_aload_n (pc' := 139) m_215 rfl rfl rfl (tr_get (pc' := 142) (v := .ref 101) m_215 rfl rfl ts_o87 rfl rfl rfl (ev_iload_n (pc' := 143) m_215 rfl rfl rfl (ev_aload_n (pc' := 144) m_215 rfl rfl rfl (ev_iconst (pc' := 145) (x := 0) m_215 rfl rfl rfl ?_))))
    refine tr_ci (pc' := 148) m_215 rfl rfl rfl m_204 rfl rfl rfl rfl (tr_rcv ts_o87 rfl) rfl rfl (cR_takeExp_ok ((0 : Int32)) _ _ (Ok_b h)) (fun x33_ x33_s h => ?_)
    obtain ⟨g34, h⟩ := Ok_g h
    refine tr_iast (pc' := 149) m_215 rfl rfl rfl g34 rfl (ev_aload_n (pc' := 150) m_215 rfl rfl rfl (ev_iload_n (pc' := 151) m_215 rfl rfl rfl (ev_iload_n (pc' := 152) m_215 rfl rfl rfl ?_)))
    refine tr_cv (pc' := 155) m_215 rfl rfl rfl m_200 rfl rfl rfl rfl (tr_rcv ts_o87 rfl) rfl rfl (cR_beginBlock_ok l2 l1 _ _ (Ok_b h)) (fun s36 h => ?_)
    refine ev_goto (pc' := 408) m_215 rfl rfl ?_
    exact tr_rv m_215 rfl rfl (Ok_s h)
  replace h := Ok_f c38 h
  by_cases c40 : l2 = (8 : Int32)
  · replace h := Ok_t c40 h
    refine ev_sw (pc' := 381) m_215 rfl (by rw [c40]; rfl) ?_
    refine ev_aload_n (pc' := 382) m_215 rfl rfl rfl (tr_get (pc' := 385) (v := .ref 101) m_215 rfl rfl ts_o87 rfl rfl rfl (ev_iload_n (pc' := 386) m_215 rfl rfl rfl (ev_aload_n (pc' := 387) m_215 rfl rfl rfl (ev_iload_n (pc' := 388) m_215 rfl rfl rfl (ev_bipush (pc' := 390) (x := 13) m_215 rfl rfl rfl ?_)))))
    refine ev_icmp_ne (t := 397) (e := 393) m_215 rfl rfl rfl (fun c39 => ?_) (fun c39 => ?_)
    · replace h := Ok_f c39 h
      refine ev_iconst (pc' := 398) (x := 0) m_215 rfl rfl rfl ?_
      exact am_Ev.sub (L := [(0, .ref 87)]) ⟨rfl, trivial⟩ (cR_takeRest_398_ok l1 ((0 : Int32)) _ _ h)
    · replace h := Ok_t c39 h
      refine ev_iconst (pc' := 394) (x := 1) m_215 rfl rfl rfl (ev_goto (pc' := 398) m_215 rfl rfl ?_)
      exact am_Ev.sub (L := [(0, .ref 87)]) ⟨rfl, trivial⟩ (cR_takeRest_398_ok l1 ((1 : Int32)) _ _ h)
  replace h := Ok_f c40 h
  by_cases c46 : l2 = (9 : Int32)
  · replace h := Ok_t c46 h
    refine ev_sw (pc' := 158) m_215 rfl (by rw [c46]; rfl) ?_
    refine ev_aload_n (pc' := 159) m_215 rfl rfl rfl ?_
    refine tr_cz (pc' := 162) m_215 rfl rfl rfl m_177 rfl rfl rfl rfl rfl (tr_rcv ts_o87 rfl) rfl rfl (cR_good_ok _ _ (Ok_b h)) (fun x43_ x43_s h41 h => ?_)
    refine ev_if_eq (t := 183) (e := 165) m_215 rfl rfl rfl (fun c45 => ?_) (fun c45 => ?_)
    · replace h := Ok_t c45 h
      exact am_Ev.sub (L := [(0, .ref 87), (1, .int (l1)), (2, .int (l2))]) ⟨rfl, rfl, rfl, trivial⟩ (cR_takeRest_183_ok l1 l2 _ _ h)
    · replace h := Ok_f c45 h
      refine ev_aload_n (pc' := 166) m_215 rfl rfl rfl (ev_aload_n (pc' := 167) m_215 rfl rfl rfl (tr_get (pc' := 170) (v := .int (gI _ 1106 _)) m_215 rfl rfl ts_o87 rfl rfl rfl (ev_iconst (pc' := 171) (x := 1) m_215 rfl rfl rfl ?_)))
      refine ev_icmp_ne (t := 178) (e := 174) m_215 rfl rfl rfl (fun c44 => ?_) (fun c44 => ?_)
      · replace h := Ok_f c44 h
        refine ev_iconst (pc' := 179) (x := 0) m_215 rfl rfl rfl ?_
        exact am_Ev.sub (L := [(0, .ref 87), (1, .int (l1)), (2, .int (l2))]) ⟨rfl, rfl, rfl, trivial⟩ (cR_takeRest_179_ok l1 l2 ((0 : Int32)) _ _ h)
      · replace h := Ok_t c44 h
        refine ev_iconst (pc' := 175) (x := 1) m_215 rfl rfl rfl (ev_goto (pc' := 179) m_215 rfl rfl ?_)
        exact am_Ev.sub (L := [(0, .ref 87), (1, .int (l1)), (2, .int (l2))]) ⟨rfl, rfl, rfl, trivial⟩ (cR_takeRest_179_ok l1 l2 ((1 : Int32)) _ _ h)
  replace h := Ok_f c46 h
  by_cases c52 : l2 = (10 : Int32)
  · replace h := Ok_t c52 h
    refine ev_sw (pc' := 158) m_215 rfl (by rw [c52]; rfl) ?_
    refine ev_aload_n (pc' := 159) m_215 rfl rfl rfl ?_
    refine tr_cz (pc' := 162) m_215 rfl rfl rfl m_177 rfl rfl rfl rfl rfl (tr_rcv ts_o87 rfl) rfl rfl (cR_good_ok _ _ (Ok_b h)) (fun x49_ x49_s h47 h => ?_)
    refine ev_if_eq (t := 183) (e := 165) m_215 rfl rfl rfl (fun c51 => ?_) (fun c51 => ?_)
    · replace h := Ok_t c51 h
      exact am_Ev.sub (L := [(0, .ref 87), (1, .int (l1)), (2, .int (l2))]) ⟨rfl, rfl, rfl, trivial⟩ (cR_takeRest_183_ok l1 l2 _ _ h)
    · replace h := Ok_f c51 h
      refine ev_aload_n (pc' := 166) m_215 rfl rfl rfl (ev_aload_n (pc' := 167) m_215 rfl rfl rfl (tr_get (pc' := 170) (v := .int (gI _ 1106 _)) m_215 rfl rfl ts_o87 rfl rfl rfl (ev_iconst (pc' := 171) (x := 1) m_215 rfl rfl rfl ?_)))
      refine ev_icmp_ne (t := 178) (e := 174) m_215 rfl rfl rfl (fun c50 => ?_) (fun c50 => ?_)
      · replace h := Ok_f c50 h
        refine ev_iconst (pc' := 179) (x := 0) m_215 rfl rfl rfl ?_
        exact am_Ev.sub (L := [(0, .ref 87), (1, .int (l1)), (2, .int (l2))]) ⟨rfl, rfl, rfl, trivial⟩ (cR_takeRest_179_ok l1 l2 ((0 : Int32)) _ _ h)
      · replace h := Ok_t c50 h
        refine ev_iconst (pc' := 175) (x := 1) m_215 rfl rfl rfl (ev_goto (pc' := 179) m_215 rfl rfl ?_)
        exact am_Ev.sub (L := [(0, .ref 87), (1, .int (l1)), (2, .int (l2))]) ⟨rfl, rfl, rfl, trivial⟩ (cR_takeRest_179_ok l1 l2 ((1 : Int32)) _ _ h)
  replace h := Ok_f c52 h
  by_cases c58 : l2 = (11 : Int32)
  · replace h := Ok_t c58 h
    refine ev_sw (pc' := 274) m_215 rfl (by rw [c58]; rfl) ?_
    refine ev_aload_n (pc' := 275) m_215 rfl rfl rfl ?_
    refine tr_cz (pc' := 278) m_215 rfl rfl rfl m_177 rfl rfl rfl rfl rfl (tr_rcv ts_o87 rfl) rfl rfl (cR_good_ok _ _ (Ok_b h)) (fun x55_ x55_s h53 h => ?_)
    refine ev_if_eq (t := 299) (e := 281) m_215 rfl rfl rfl (fun c57 => ?_) (fun c57 => ?_)
    · replace h := Ok_t c57 h
      exact am_Ev.sub (L := [(0, .ref 87), (1, .int (l1))]) ⟨rfl, rfl, trivial⟩ (cR_takeRest_299_ok l1 _ _ h)
    · replace h := Ok_f c57 h
      refine ev_aload_n (pc' := 282) m_215 rfl rfl rfl (ev_aload_n (pc' := 283) m_215 rfl rfl rfl (tr_get (pc' := 286) (v := .int (gI _ 1106 _)) m_215 rfl rfl ts_o87 rfl rfl rfl (ev_iconst (pc' := 287) (x := 1) m_215 rfl rfl rfl ?_)))
      refine ev_icmp_ne (t := 294) (e := 290) m_215 rfl rfl rfl (fun c56 => ?_) (fun c56 => ?_)
      · replace h := Ok_f c56 h
        refine ev_iconst (pc' := 295) (x := 0) m_215 rfl rfl rfl ?_
        exact am_Ev.sub (L := [(0, .ref 87), (1, .int (l1))]) ⟨rfl, rfl, trivial⟩ (cR_takeRest_295_ok l1 ((0 : Int32)) _ _ h)
      · replace h := Ok_t c56 h
        refine ev_iconst (pc' := 291) (x := 1) m_215 rfl rfl rfl (ev_goto (pc' := 295) m_215 rfl rfl ?_)
        exact am_Ev.sub (L := [(0, .ref 87), (1, .int (l1))]) ⟨rfl, rfl, trivial⟩ (cR_takeRest_295_ok l1 ((1 : Int32)) _ _ h)
  replace h := Ok_f c58 h
  by_cases c64 : l2 = (12 : Int32)
  · replace h := Ok_t c64 h
    refine ev_sw (pc' := 274) m_215 rfl (by rw [c64]; rfl) ?_
    refine ev_aload_n (pc' := 275) m_215 rfl rfl rfl ?_
    refine tr_cz (pc' := 278) m_215 rfl rfl rfl m_177 rfl rfl rfl rfl rfl (tr_rcv ts_o87 rfl) rfl rfl (cR_good_ok _ _ (Ok_b h)) (fun x61_ x61_s h59 h => ?_)
    refine ev_if_eq (t := 299) (e := 281) m_215 rfl rfl rfl (fun c63 => ?_) (fun c63 => ?_)
    · replace h := Ok_t c63 h
      exact am_Ev.sub (L := [(0, .ref 87), (1, .int (l1))]) ⟨rfl, rfl, trivial⟩ (cR_takeRest_299_ok l1 _ _ h)
    · replace h := Ok_f c63 h
      refine ev_aload_n (pc' := 282) m_215 rfl rfl rfl (ev_aload_n (pc' := 283) m_215 rfl rfl rfl (tr_get (pc' := 286) (v := .int (gI _ 1106 _)) m_215 rfl rfl ts_o87 rfl rfl rfl (ev_iconst (pc' := 287) (x := 1) m_215 rfl rfl rfl ?_)))
      refine ev_icmp_ne (t := 294) (e := 290) m_215 rfl rfl rfl (fun c62 => ?_) (fun c62 => ?_)
      · replace h := Ok_f c62 h
        refine ev_iconst (pc' := 295) (x := 0) m_215 rfl rfl rfl ?_
        exact am_Ev.sub (L := [(0, .ref 87), (1, .int (l1))]) ⟨rfl, rfl, trivial⟩ (cR_takeRest_295_ok l1 ((0 : Int32)) _ _ h)
      · replace h := Ok_t c62 h
        refine ev_iconst (pc' := 291) (x := 1) m_215 rfl rfl rfl (ev_goto (pc' := 295) m_215 rfl rfl ?_)
        exact am_Ev.sub (L := [(0, .ref 87), (1, .int (l1))]) ⟨rfl, rfl, trivial⟩ (cR_takeRest_295_ok l1 ((1 : Int32)) _ _ h)
  replace h := Ok_f c64 h
  by_cases c66 : l2 = (13 : Int32)
  · replace h := Ok_t c66 h
    refine ev_sw (pc' := 381) m_215 rfl (by rw [c66]; rfl) ?_
    refine ev_aload_n (pc' := 382) m_215 rfl rfl rfl (tr_get (pc' := 385) (v := .ref 101) m_215 rfl rfl ts_o87 rfl rfl rfl (ev_iload_n (pc' := 386) m_215 rfl rfl rfl (ev_aload_n (pc' := 387) m_215 rfl rfl rfl (ev_iload_n (pc' := 388) m_215 rfl rfl rfl (ev_bipush (pc' := 390) (x := 13) m_215 rfl rfl rfl ?_)))))
    refine ev_icmp_ne (t := 397) (e := 393) m_215 rfl rfl rfl (fun c65 => ?_) (fun c65 => ?_)
    · replace h := Ok_f c65 h
      refine ev_iconst (pc' := 398) (x := 0) m_215 rfl rfl rfl ?_
      exact am_Ev.sub (L := [(0, .ref 87)]) ⟨rfl, trivial⟩ (cR_takeRest_398_ok l1 ((0 : Int32)) _ _ h)
    · replace h := Ok_t c65 h
      refine ev_iconst (pc' := 394) (x := 1) m_215 rfl rfl rfl (ev_goto (pc' := 398) m_215 rfl rfl ?_)
      exact am_Ev.sub (L := [(0, .ref 87)]) ⟨rfl, trivial⟩ (cR_takeRest_398_ok l1 ((1 : Int32)) _ _ h)
  replace h := Ok_f c66 h
  by_cases c70 : l2 = (14 : Int32)
  · replace h := Ok_t c70 h
    refine ev_sw (pc' := 364) m_215 rfl (by rw [c70]; rfl) ?_
    refine ev_aload_n (pc' := 365) m_215 rfl rfl rfl (ev_iload_n (pc' := 366) m_215 rfl rfl rfl ?_)
    refine tr_cv (pc' := 369) m_215 rfl rfl rfl m_216 rfl rfl rfl rfl (tr_rcv ts_o87 rfl) rfl rfl (cR_takeStart_ok l1 _ _ (Ok_b h)) (fun s68 h => ?_)
    refine ev_goto (pc' := 408) m_215 rfl rfl ?_
    exact tr_rv m_215 rfl rfl (Ok_s h)
  replace h := Ok_f c70 h
  by_cases c72 : l2 = (15 : Int32)
  · replace h := Ok_t c72 h
    refine ev_sw (pc' := 381) m_215 rfl (by rw [c72]; rfl) ?_
    refine ev_aload_n (pc' := 382) m_215 rfl rfl rfl (tr_get (pc' := 385) (v := .ref 101) m_215 rfl rfl ts_o87 rfl rfl rfl (ev_iload_n (pc' := 386) m_215 rfl rfl rfl (ev_aload_n (pc' := 387) m_215 rfl rfl rfl (ev_iload_n (pc' := 388) m_215 rfl rfl rfl (ev_bipush (pc' := 390) (x := 13) m_215 rfl rfl rfl ?_)))))
    refine ev_icmp_ne (t := 397) (e := 393) m_215 rfl rfl rfl (fun c71 => ?_) (fun c71 => ?_)
    · replace h := Ok_f c71 h
      refine ev_iconst (pc' := 398) (x := 0) m_215 rfl rfl rfl ?_
      exact am_Ev.sub (L := [(0, .ref 87)]) ⟨rfl, trivial⟩ (cR_takeRest_398_ok l1 ((0 : Int32)) _ _ h)
    · replace h := Ok_t c71 h
      refine ev_iconst (pc' := 394) (x := 1) m_215 rfl rfl rfl (ev_goto (pc' := 398) m_215 rfl rfl ?_)
      exact am_Ev.sub (L := [(0, .ref 87)]) ⟨rfl, trivial⟩ (cR_takeRest_398_ok l1 ((1 : Int32)) _ _ h)
  replace h := Ok_f c72 h
  by_cases c74 : l2 = (16 : Int32)
  · replace h := Ok_t c74 h
    refine ev_sw (pc' := 381) m_215 rfl (by rw [c74]; rfl) ?_
    refine ev_aload_n (pc' := 382) m_215 rfl rfl rfl (tr_get (pc' := 385) (v := .ref 101) m_215 rfl rfl ts_o87 rfl rfl rfl (ev_iload_n (pc' := 386) m_215 rfl rfl rfl (ev_aload_n (pc' := 387) m_215 rfl rfl rfl (ev_iload_n (pc' := 388) m_215 rfl rfl rfl (ev_bipush (pc' := 390) (x := 13) m_215 rfl rfl rfl ?_)))))
    refine ev_icmp_ne (t := 397) (e := 393) m_215 rfl rfl rfl (fun c73 => ?_) (fun c73 => ?_)
    · replace h := Ok_f c73 h
      refine ev_iconst (pc' := 398) (x := 0) m_215 rfl rfl rfl ?_
      exact am_Ev.sub (L := [(0, .ref 87)]) ⟨rfl, trivial⟩ (cR_takeRest_398_ok l1 ((0 : Int32)) _ _ h)
    · replace h := Ok_t c73 h
      refine ev_iconst (pc' := 394) (x := 1) m_215 rfl rfl rfl (ev_goto (pc' := 398) m_215 rfl rfl ?_)
      exact am_Ev.sub (L := [(0, .ref 87)]) ⟨rfl, trivial⟩ (cR_takeRest_398_ok l1 ((1 : Int32)) _ _ h)
  replace h := Ok_f c74 h
  by_cases c76 : l2 = (17 : Int32)
  · replace h := Ok_t c76 h
    refine ev_sw (pc' := 381) m_215 rfl (by rw [c76]; rfl) ?_
    refine ev_aload_n (pc' := 382) m_215 rfl rfl rfl (tr_get (pc' := 385) (v := .ref 101) m_215 rfl rfl ts_o87 rfl rfl rfl (ev_iload_n (pc' := 386) m_215 rfl rfl rfl (ev_aload_n (pc' := 387) m_215 rfl rfl rfl (ev_iload_n (pc' := 388) m_215 rfl rfl rfl (ev_bipush (pc' := 390) (x := 13) m_215 rfl rfl rfl ?_)))))
    refine ev_icmp_ne (t := 397) (e := 393) m_215 rfl rfl rfl (fun c75 => ?_) (fun c75 => ?_)
    · replace h := Ok_f c75 h
      refine ev_iconst (pc' := 398) (x := 0) m_215 rfl rfl rfl ?_
      exact am_Ev.sub (L := [(0, .ref 87)]) ⟨rfl, trivial⟩ (cR_takeRest_398_ok l1 ((0 : Int32)) _ _ h)
    · replace h := Ok_t c75 h
      refine ev_iconst (pc' := 394) (x := 1) m_215 rfl rfl rfl (ev_goto (pc' := 398) m_215 rfl rfl ?_)
      exact am_Ev.sub (L := [(0, .ref 87)]) ⟨rfl, trivial⟩ (cR_takeRest_398_ok l1 ((1 : Int32)) _ _ h)
  replace h := Ok_f c76 h
  by_cases c80 : l2 = (18 : Int32)
  · replace h := Ok_t c80 h
    refine ev_sw (pc' := 372) m_215 rfl (by rw [c80]; rfl) ?_
    refine ev_aload_n (pc' := 373) m_215 rfl rfl rfl (ev_bipush (pc' := 375) (x := 59) m_215 rfl rfl rfl ?_)
    refine tr_cv (pc' := 378) m_215 rfl rfl rfl m_194 rfl rfl rfl rfl (tr_rcv ts_o87 rfl) rfl rfl (cR_must_ok ((59 : Int32)) _ _ (Ok_b h)) (fun s78 h => ?_)
    refine ev_goto (pc' := 408) m_215 rfl rfl ?_
    exact tr_rv m_215 rfl rfl (Ok_s h)
  replace h := Ok_f c80 h
  refine ev_tdef (t := 381) m_215 rfl (by have := ts_nel (k := 4) c20 (by decide); have := ts_nel (k := 5) c28 (by decide); have := ts_nel (k := 6) c30 (by decide); have := ts_nel (k := 7) c38 (by decide); have := ts_nel (k := 8) c40 (by decide); have := ts_nel (k := 9) c46 (by decide); have := ts_nel (k := 10) c52 (by decide); have := ts_nel (k := 11) c58 (by decide); have := ts_nel (k := 12) c64 (by decide); have := ts_nel (k := 13) c66 (by decide); have := ts_nel (k := 14) c70 (by decide); have := ts_nel (k := 15) c72 (by decide); have := ts_nel (k := 16) c74 (by decide); have := ts_nel (k := 17) c76 (by decide); have := ts_nel (k := 18) c80 (by decide); omega) rfl ?_
  refine ev_aload_n (pc' := 382) m_215 rfl rfl rfl (tr_get (pc' := 385) (v := .ref 101) m_215 rfl rfl ts_o87 rfl rfl rfl (ev_iload_n (pc' := 386) m_215 rfl rfl rfl (ev_aload_n (pc' := 387) m_215 rfl rfl rfl (ev_iload_n (pc' := 388) m_215 rfl rfl rfl (ev_bipush (pc' := 390) (x := 13) m_215 rfl rfl rfl ?_)))))
  refine ev_icmp_ne (t := 397) (e := 393) m_215 rfl rfl rfl (fun c81 => ?_) (fun c81 => ?_)
  · replace h := Ok_f c81 h
    refine ev_iconst (pc' := 398) (x := 0) m_215 rfl rfl rfl ?_
    exact am_Ev.sub (L := [(0, .ref 87)]) ⟨rfl, trivial⟩ (cR_takeRest_398_ok l1 ((0 : Int32)) _ _ h)
  · replace h := Ok_t c81 h
    refine ev_iconst (pc' := 394) (x := 1) m_215 rfl rfl rfl (ev_goto (pc' := 398) m_215 rfl rfl ?_)
    exact am_Ev.sub (L := [(0, .ref 87)]) ⟨rfl, trivial⟩ (cR_takeRest_398_ok l1 ((1 : Int32)) _ _ h)
def cR_takeStatement_191 (l4 : Int32) (t1 : Int32) (t2 : Int32) (s : ts) : Option (ts) := (if am_idx t1 900 = true then (cR_next (wA s 100 t1.toNatClampNeg t2)).bind (fun s3 => (cR_must ((61 : Int32)) s3).bind (fun s6 => (cR_takeExp ((0 : Int32)) s6).bind (fun x10 => (if am_idx l4 900 = true then (cR_must ((59 : Int32)) (wA x10.2 101 l4.toNatClampNeg x10.1)).bind (fun s13 => some s13) else none)))) else none)
set_option maxRecDepth 20000 in
theorem cR_takeStatement_191_ok {d : Nat} (l4 : Int32) (t1 : Int32) (t2 : Int32) (s : ts) (Q : ts → Prop) (h : Ok (cR_takeStatement_191 l4 t1 t2 s) Q) : am_Ev (d + 9) 203 (191, [(0, .ref 87), (4, .int (l4))], [.int (t2), .int (t1), .ref 100]) (lay s) (tq_v Q) := by
  unfold cR_takeStatement_191 at h
  obtain ⟨g1, h⟩ := Ok_g h
  refine tr_iast (pc' := 192) m_203 rfl rfl rfl g1 rfl (ev_aload_n (pc' := 193) m_203 rfl rfl rfl ?_)
  refine tr_cv (pc' := 196) m_203 rfl rfl rfl m_176 rfl rfl rfl rfl (tr_rcv ts_o87 rfl) rfl rfl (cR_next_ok _ _ (Ok_b h)) (fun s3 h => ?_)
  refine ev_aload_n (pc' := 197) m_203 rfl rfl rfl (ev_bipush (pc' := 199) (x := 61) m_203 rfl rfl rfl ?_)
  refine tr_cv (pc' := 202) m_203 rfl rfl rfl m_194 rfl rfl rfl rfl (tr_rcv ts_o87 rfl) rfl rfl (cR_must_ok ((61 : Int32)) _ _ (Ok_b h)) (fun s6 h => ?_)
  refine ev_aload_n (pc' := 203) m_203 rfl rfl rfl (tr_get (pc' := 206) (v := .ref 101) m_203 rfl rfl ts_o87 rfl rfl rfl (ev_iload (pc' := 208) m_203 rfl rfl rfl (ev_aload_n (pc' := 209) m_203 rfl rfl rfl (ev_iconst (pc' := 210) (x := 0) m_203 rfl rfl rfl ?_))))
  refine tr_ci (pc' := 213) m_203 rfl rfl rfl m_204 rfl rfl rfl rfl (tr_rcv ts_o87 rfl) rfl rfl (cR_takeExp_ok ((0 : Int32)) _ _ (Ok_b h)) (fun x10_ x10_s h => ?_)
  obtain ⟨g11, h⟩ := Ok_g h
  refine tr_iast (pc' := 214) m_203 rfl rfl rfl g11 rfl (ev_aload_n (pc' := 215) m_203 rfl rfl rfl (ev_bipush (pc' := 217) (x := 59) m_203 rfl rfl rfl ?_))
  refine tr_cv (pc' := 220) m_203 rfl rfl rfl m_194 rfl rfl rfl rfl (tr_rcv ts_o87 rfl) rfl rfl (cR_must_ok ((59 : Int32)) _ _ (Ok_b h)) (fun s13 h => ?_)
  exact tr_rv m_203 rfl rfl (Ok_s h)
def cR_takeStatement_163 (l3 : Int32) (t1 : Int32) (s : ts) : Option (ts) := (cR_line t1 s).bind (fun x3 => (if l3 = ((-1 : Int32)) then (cR_findNumber (gJ x3.2 1108 0) x3.2).bind (fun x6 => cR_takeStatement_191 x3.1 x3.1 x6.1 x6.2) else cR_takeStatement_191 x3.1 x3.1 l3 x3.2))
set_option maxRecDepth 20000 in
theorem cR_takeStatement_163_ok {d : Nat} (l3 : Int32) (t1 : Int32) (s : ts) (Q : ts → Prop) (h : Ok (cR_takeStatement_163 l3 t1 s) Q) : am_Ev (d + 9) 203 (163, [(0, .ref 87), (3, .int (l3))], [.int (t1), .ref 87]) (lay s) (tq_v Q) := by
  unfold cR_takeStatement_163 at h
  refine tr_ci (pc' := 166) m_203 rfl rfl rfl m_202 rfl rfl rfl rfl (tr_rcv ts_o87 rfl) rfl rfl (cR_line_ok t1 _ _ (Ok_b h)) (fun x3_ x3_s h => ?_)
  refine ev_istore (pc' := 168) m_203 rfl rfl rfl rfl (ev_aload_n (pc' := 169) m_203 rfl rfl rfl (tr_get (pc' := 172) (v := .ref 100) m_203 rfl rfl ts_o87 rfl rfl rfl (ev_iload (pc' := 174) m_203 rfl rfl rfl (ev_iload_n (pc' := 175) m_203 rfl rfl rfl (ev_iconst (pc' := 176) (x := -1) m_203 rfl rfl rfl ?_)))))
  refine ev_icmp_eq (t := 183) (e := 179) m_203 rfl rfl rfl (fun c7 => ?_) (fun c7 => ?_)
  · replace h := Ok_t c7 h
    refine ev_aload_n (pc' := 184) m_203 rfl rfl rfl (ev_aload_n (pc' := 185) m_203 rfl rfl rfl (tr_get (pc' := 188) (v := .long (gJ _ 1108 _)) m_203 rfl rfl ts_o87 rfl rfl rfl ?_))
    refine tr_ci (pc' := 191) m_203 rfl rfl rfl m_192 rfl rfl rfl rfl (tr_rcv ts_o87 rfl) rfl rfl (cR_findNumber_ok (gJ x3_s 1108 0) _ _ (Ok_b h)) (fun x6_ x6_s h => ?_)
    exact am_Ev.sub (L := [(0, .ref 87), (4, .int (x3_))]) ⟨rfl, rfl, trivial⟩ (cR_takeStatement_191_ok x3_ x3_ x6_ _ _ h)
  · replace h := Ok_f c7 h
    refine ev_iload_n (pc' := 180) m_203 rfl rfl rfl (ev_goto (pc' := 191) m_203 rfl rfl ?_)
    exact am_Ev.sub (L := [(0, .ref 87), (4, .int (x3_))]) ⟨rfl, rfl, trivial⟩ (cR_takeStatement_191_ok x3_ x3_ l3 _ _ h)
def cR_takeStatement_116 (l1 : Int32) (l2 : Int32) (t1 : Int32) (s : ts) : Option (ts) := (cR_limit t1 s).bind (fun s2 => (cR_good s2).bind (fun x6 => (if x6.1 = ((0 : Int32)) then some x6.2 else (if l2 = ((0 : Int32)) then (cR_line l1 (wI x6.2 1126 0 ((gI x6.2 1126 0) + ((1 : Int32))))).bind (fun x9 => (cR_next x9.2).bind (fun s11 => (cR_takeRest x9.1 l1 s11).bind (fun s14 => some s14))) else (cR_findLocal (gJ (wI x6.2 1126 0 ((gI x6.2 1126 0) + ((1 : Int32)))) 1108 0) (wI x6.2 1126 0 ((gI x6.2 1126 0) + ((1 : Int32))))).bind (fun x18 => (if x18.1 = ((-1 : Int32)) then cR_takeStatement_163 x18.1 ((25 : Int32)) x18.2 else cR_takeStatement_163 x18.1 ((24 : Int32)) x18.2))))))
set_option maxRecDepth 20000 in
theorem cR_takeStatement_116_ok {d : Nat} (l1 : Int32) (l2 : Int32) (t1 : Int32) (s : ts) (Q : ts → Prop) (h : Ok (cR_takeStatement_116 l1 l2 t1 s) Q) : am_Ev (d + 9) 203 (116, [(0, .ref 87), (1, .int (l1)), (2, .int (l2))], [.int (t1), .ref 87]) (lay s) (tq_v Q) := by
  unfold cR_takeStatement_116 at h
  refine tr_cv (pc' := 119) m_203 rfl rfl rfl m_193 rfl rfl rfl rfl (tr_rcv ts_o87 rfl) rfl rfl (cR_limit_ok t1 _ _ (Ok_b h)) (fun s2 h => ?_)
  refine ev_aload_n (pc' := 120) m_203 rfl rfl rfl ?_
  refine tr_cz (pc' := 123) m_203 rfl rfl rfl m_177 rfl rfl rfl rfl rfl (tr_rcv ts_o87 rfl) rfl rfl (cR_good_ok _ _ (Ok_b h)) (fun x6_ x6_s h4 h => ?_)
  refine ev_if_ne (t := 127) (e := 126) m_203 rfl rfl rfl (fun c21 => ?_) (fun c21 => ?_)
  · replace h := Ok_f c21 h
    refine ev_aload_n (pc' := 128) m_203 rfl rfl rfl (ev_dup (pc' := 129) m_203 rfl rfl rfl (tr_get (pc' := 132) (v := .int (gI _ 1126 _)) m_203 rfl rfl ts_o87 rfl rfl rfl (ev_iconst (pc' := 133) (x := 1) m_203 rfl rfl rfl (ev_iadd (pc' := 134) m_203 rfl rfl (tr_pI (pc' := 137) (f := 1126) m_203 rfl rfl rfl ts_o87 rfl rfl rfl rfl (ev_iload_n (pc' := 138) m_203 rfl rfl rfl ?_))))))
    refine ev_if_eq (t := 221) (e := 141) m_203 rfl rfl rfl (fun c20 => ?_) (fun c20 => ?_)
    · replace h := Ok_t c20 h
      refine ev_aload_n (pc' := 222) m_203 rfl rfl rfl (ev_iload_n (pc' := 223) m_203 rfl rfl rfl ?_)
      refine tr_ci (pc' := 226) m_203 rfl rfl rfl m_202 rfl rfl rfl rfl (tr_rcv ts_o87 rfl) rfl rfl (cR_line_ok l1 _ _ (Ok_b h)) (fun x9_ x9_s h => ?_)
      refine ev_istore_n (pc' := 227) m_203 rfl rfl rfl rfl (ev_aload_n (pc' := 228) m_203 rfl rfl rfl ?_)
      refine tr_cv (pc' := 231) m_203 rfl rfl rfl m_176 rfl rfl rfl rfl (tr_rcv ts_o87 rfl) rfl rfl (cR_next_ok _ _ (Ok_b h)) (fun s11 h => ?_)
      refine ev_aload_n (pc' := 232) m_203 rfl rfl rfl (ev_iload_n (pc' := 233) m_203 rfl rfl rfl (ev_iload_n (pc' := 234) m_203 rfl rfl rfl ?_))
      refine tr_cv (pc' := 237) m_203 rfl rfl rfl m_215 rfl rfl rfl rfl (tr_rcv ts_o87 rfl) rfl rfl (cR_takeRest_ok x9_ l1 _ _ (Ok_b h)) (fun s14 h => ?_)
      exact tr_rv m_203 rfl rfl (Ok_s h)
    · replace h := Ok_f c20 h
      refine ev_aload_n (pc' := 142) m_203 rfl rfl rfl (ev_aload_n (pc' := 143) m_203 rfl rfl rfl (tr_get (pc' := 146) (v := .long (gJ _ 1108 _)) m_203 rfl rfl ts_o87 rfl rfl rfl ?_))
      refine tr_ci (pc' := 149) m_203 rfl rfl rfl m_191 rfl rfl rfl rfl (tr_rcv ts_o87 rfl) rfl rfl (cR_findLocal_ok (gJ (wI x6_s 1126 0 ((gI x6_s 1126 0) + ((1 : Int32)))) 1108 0) _ _ (Ok_b h)) (fun x18_ x18_s h => ?_)
      refine ev_istore_n (pc' := 150) m_203 rfl rfl rfl rfl (ev_aload_n (pc' := 151) m_203 rfl rfl rfl (ev_iload_n (pc' := 152) m_203 rfl rfl rfl (ev_iconst (pc' := 153) (x := -1) m_203 rfl rfl rfl ?_)))
      refine ev_icmp_eq (t := 161) (e := 156) m_203 rfl rfl rfl (fun c19 => ?_) (fun c19 => ?_)
      · replace h := Ok_t c19 h
        refine ev_bipush (pc' := 163) (x := 25) m_203 rfl rfl rfl ?_
        exact am_Ev.sub (L := [(0, .ref 87), (3, .int (x18_))]) ⟨rfl, rfl, trivial⟩ (cR_takeStatement_163_ok x18_ ((25 : Int32)) _ _ h)
      · replace h := Ok_f c19 h
        refine ev_bipush (pc' := 158) (x := 24) m_203 rfl rfl rfl (ev_goto (pc' := 163) m_203 rfl rfl ?_)
        exact am_Ev.sub (L := [(0, .ref 87), (3, .int (x18_))]) ⟨rfl, rfl, trivial⟩ (cR_takeStatement_163_ok x18_ ((24 : Int32)) _ _ h)
  · replace h := Ok_t c21 h
    exact tr_rv m_203 rfl rfl (Ok_s h)
def cR_takeStatement_100 (l1 : Int32) (l2 : Int32) (s : ts) : Option (ts) := (if ((250 : Int32)) ≤ (gI s 1126 0) then cR_takeStatement_116 l1 l2 ((0 : Int32)) s else cR_takeStatement_116 l1 l2 ((1 : Int32)) s)
set_option maxRecDepth 20000 in
theorem cR_takeStatement_100_ok {d : Nat} (l1 : Int32) (l2 : Int32) (s : ts) (Q : ts → Prop) (h : Ok (cR_takeStatement_100 l1 l2 s) Q) : am_Ev (d + 9) 203 (100, [(0, .ref 87), (1, .int (l1)), (2, .int (l2))], []) (lay s) (tq_v Q) := by
  unfold cR_takeStatement_100 at h
  refine ev_aload_n (pc' := 101) m_203 rfl rfl rfl (ev_aload_n (pc' := 102) m_203 rfl rfl rfl (tr_get (pc' := 105) (v := .int (gI _ 1126 _)) m_203 rfl rfl ts_o87 rfl rfl rfl (ev_sipush (pc' := 108) (x := 250) m_203 rfl rfl rfl ?_)))
  refine ev_icmp_ge (t := 115) (e := 111) m_203 rfl rfl rfl (fun c1 => ?_) (fun c1 => ?_)
  · replace h := Ok_t c1 h
    refine ev_iconst (pc' := 116) (x := 0) m_203 rfl rfl rfl ?_
    exact am_Ev.sub (L := [(0, .ref 87), (1, .int (l1)), (2, .int (l2))]) ⟨rfl, rfl, rfl, trivial⟩ (cR_takeStatement_116_ok l1 l2 ((0 : Int32)) _ _ h)
  · replace h := Ok_f c1 h
    refine ev_iconst (pc' := 112) (x := 1) m_203 rfl rfl rfl (ev_goto (pc' := 116) m_203 rfl rfl ?_)
    exact am_Ev.sub (L := [(0, .ref 87), (1, .int (l1)), (2, .int (l2))]) ⟨rfl, rfl, rfl, trivial⟩ (cR_takeStatement_116_ok l1 l2 ((1 : Int32)) _ _ h)
def cR_takeStatement_96 (l1 : Int32) (l2 : Int32) (t1 : Int32) (s : ts) : Option (ts) := (cR_need t1 ((4 : Int32)) s).bind (fun s2 => cR_takeStatement_100 l1 l2 s2)
set_option maxRecDepth 20000 in
theorem cR_takeStatement_96_ok {d : Nat} (l1 : Int32) (l2 : Int32) (t1 : Int32) (s : ts) (Q : ts → Prop) (h : Ok (cR_takeStatement_96 l1 l2 t1 s) Q) : am_Ev (d + 9) 203 (96, [(0, .ref 87), (1, .int (l1)), (2, .int (l2))], [.int (t1), .ref 87]) (lay s) (tq_v Q) := by
  unfold cR_takeStatement_96 at h
  refine ev_iconst (pc' := 97) (x := 4) m_203 rfl rfl rfl ?_
  refine tr_cv (pc' := 100) m_203 rfl rfl rfl m_183 rfl rfl rfl rfl (tr_rcv ts_o87 rfl) rfl rfl (cR_need_ok t1 ((4 : Int32)) _ _ (Ok_b h)) (fun s2 h => ?_)
  exact am_Ev.sub (L := [(0, .ref 87), (1, .int (l1)), (2, .int (l2))]) ⟨rfl, rfl, rfl, trivial⟩ (cR_takeStatement_100_ok l1 l2 _ _ h)
def cR_takeStatement_51 (l1 : Int32) (l2 : Int32) (t1 : Int32) (s : ts) : Option (ts) := (cR_need t1 ((2 : Int32)) s).bind (fun s2 => (cR_good s2).bind (fun x6 => (if x6.1 = ((0 : Int32)) then cR_takeStatement_100 l1 l2 x6.2 else (if l2 = ((0 : Int32)) then cR_takeStatement_100 l1 l2 x6.2 else (cR_findLocal (gJ x6.2 1108 0) x6.2).bind (fun x9 => (if x9.1 = ((-1 : Int32)) then (cR_findNumber (gJ x9.2 1108 0) x9.2).bind (fun x12 => (if x12.1 = ((-1 : Int32)) then cR_takeStatement_96 l1 l2 ((0 : Int32)) x12.2 else cR_takeStatement_96 l1 l2 ((1 : Int32)) x12.2)) else cR_takeStatement_96 l1 l2 ((1 : Int32)) x9.2))))))
set_option maxRecDepth 20000 in
theorem cR_takeStatement_51_ok {d : Nat} (l1 : Int32) (l2 : Int32) (t1 : Int32) (s : ts) (Q : ts → Prop) (h : Ok (cR_takeStatement_51 l1 l2 t1 s) Q) : am_Ev (d + 9) 203 (51, [(0, .ref 87), (1, .int (l1)), (2, .int (l2))], [.int (t1), .ref 87]) (lay s) (tq_v Q) := by
  unfold cR_takeStatement_51 at h
  refine ev_iconst (pc' := 52) (x := 2) m_203 rfl rfl rfl ?_
  refine tr_cv (pc' := 55) m_203 rfl rfl rfl m_183 rfl rfl rfl rfl (tr_rcv ts_o87 rfl) rfl rfl (cR_need_ok t1 ((2 : Int32)) _ _ (Ok_b h)) (fun s2 h => ?_)
  refine ev_aload_n (pc' := 56) m_203 rfl rfl rfl ?_
  refine tr_cz (pc' := 59) m_203 rfl rfl rfl m_177 rfl rfl rfl rfl rfl (tr_rcv ts_o87 rfl) rfl rfl (cR_good_ok _ _ (Ok_b h)) (fun x6_ x6_s h4 h => ?_)
  refine ev_if_eq (t := 100) (e := 62) m_203 rfl rfl rfl (fun c16 => ?_) (fun c16 => ?_)
  · replace h := Ok_t c16 h
    exact am_Ev.sub (L := [(0, .ref 87), (1, .int (l1)), (2, .int (l2))]) ⟨rfl, rfl, rfl, trivial⟩ (cR_takeStatement_100_ok l1 l2 _ _ h)
  · replace h := Ok_f c16 h
    refine ev_iload_n (pc' := 63) m_203 rfl rfl rfl ?_
    refine ev_if_eq (t := 100) (e := 66) m_203 rfl rfl rfl (fun c15 => ?_) (fun c15 => ?_)
    · replace h := Ok_t c15 h
      exact am_Ev.sub (L := [(0, .ref 87), (1, .int (l1)), (2, .int (l2))]) ⟨rfl, rfl, rfl, trivial⟩ (cR_takeStatement_100_ok l1 l2 _ _ h)
    · replace h := Ok_f c15 h
      refine ev_aload_n (pc' := 67) m_203 rfl rfl rfl (ev_aload_n (pc' := 68) m_203 rfl rfl rfl (ev_aload_n (pc' := 69) m_203 rfl rfl rfl (tr_get (pc' := 72) (v := .long (gJ _ 1108 _)) m_203 rfl rfl ts_o87 rfl rfl rfl ?_)))
      refine tr_ci (pc' := 75) m_203 rfl rfl rfl m_191 rfl rfl rfl rfl (tr_rcv ts_o87 rfl) rfl rfl (cR_findLocal_ok (gJ x6_s 1108 0) _ _ (Ok_b h)) (fun x9_ x9_s h => ?_)
      refine ev_iconst (pc' := 76) (x := -1) m_203 rfl rfl rfl ?_
      refine ev_icmp_ne (t := 91) (e := 79) m_203 rfl rfl rfl (fun c14 => ?_) (fun c14 => ?_)
      · replace h := Ok_f c14 h
        refine ev_iconst (pc' := 92) (x := 1) m_203 rfl rfl rfl (ev_goto (pc' := 96) m_203 rfl rfl ?_)
        exact am_Ev.sub (L := [(0, .ref 87), (1, .int (l1)), (2, .int (l2))]) ⟨rfl, rfl, rfl, trivial⟩ (cR_takeStatement_96_ok l1 l2 ((1 : Int32)) _ _ h)
      · replace h := Ok_t c14 h
        refine ev_aload_n (pc' := 80) m_203 rfl rfl rfl (ev_aload_n (pc' := 81) m_203 rfl rfl rfl (tr_get (pc' := 84) (v := .long (gJ _ 1108 _)) m_203 rfl rfl ts_o87 rfl rfl rfl ?_))
        refine tr_ci (pc' := 87) m_203 rfl rfl rfl m_192 rfl rfl rfl rfl (tr_rcv ts_o87 rfl) rfl rfl (cR_findNumber_ok (gJ x9_s 1108 0) _ _ (Ok_b h)) (fun x12_ x12_s h => ?_)
        refine ev_iconst (pc' := 88) (x := -1) m_203 rfl rfl rfl ?_
        refine ev_icmp_eq (t := 95) (e := 91) m_203 rfl rfl rfl (fun c13 => ?_) (fun c13 => ?_)
        · replace h := Ok_t c13 h
          refine ev_iconst (pc' := 96) (x := 0) m_203 rfl rfl rfl ?_
          exact am_Ev.sub (L := [(0, .ref 87), (1, .int (l1)), (2, .int (l2))]) ⟨rfl, rfl, rfl, trivial⟩ (cR_takeStatement_96_ok l1 l2 ((0 : Int32)) _ _ h)
        · replace h := Ok_f c13 h
          refine ev_iconst (pc' := 92) (x := 1) m_203 rfl rfl rfl (ev_goto (pc' := 96) m_203 rfl rfl ?_)
          exact am_Ev.sub (L := [(0, .ref 87), (1, .int (l1)), (2, .int (l2))]) ⟨rfl, rfl, rfl, trivial⟩ (cR_takeStatement_96_ok l1 l2 ((1 : Int32)) _ _ h)
def cR_takeStatement_23 (l1 : Int32) (t0 : Int32) (s : ts) : Option (ts) := (if t0 = ((0 : Int32)) then (if l1 < ((4 : Int32)) then cR_takeStatement_51 l1 t0 ((0 : Int32)) s else (if ((18 : Int32)) < l1 then cR_takeStatement_51 l1 t0 ((0 : Int32)) s else (if l1 = ((6 : Int32)) then cR_takeStatement_51 l1 t0 ((0 : Int32)) s else cR_takeStatement_51 l1 t0 ((1 : Int32)) s))) else cR_takeStatement_51 l1 t0 ((1 : Int32)) s)
set_option maxRecDepth 20000 in
theorem cR_takeStatement_23_ok {d : Nat} (l1 : Int32) (t0 : Int32) (s : ts) (Q : ts → Prop) (h : Ok (cR_takeStatement_23 l1 t0 s) Q) : am_Ev (d + 9) 203 (23, [(0, .ref 87), (1, .int (l1))], [.int (t0)]) (lay s) (tq_v Q) := by
  unfold cR_takeStatement_23 at h
  refine ev_istore_n (pc' := 24) m_203 rfl rfl rfl rfl (ev_aload_n (pc' := 25) m_203 rfl rfl rfl (ev_iload_n (pc' := 26) m_203 rfl rfl rfl ?_))
  refine ev_if_ne (t := 46) (e := 29) m_203 rfl rfl rfl (fun c4 => ?_) (fun c4 => ?_)
  · replace h := Ok_f c4 h
    refine ev_iconst (pc' := 47) (x := 1) m_203 rfl rfl rfl (ev_goto (pc' := 51) m_203 rfl rfl ?_)
    exact am_Ev.sub (L := [(0, .ref 87), (1, .int (l1)), (2, .int (t0))]) ⟨rfl, rfl, rfl, trivial⟩ (cR_takeStatement_51_ok l1 t0 ((1 : Int32)) _ _ h)
  · replace h := Ok_t c4 h
    refine ev_iload_n (pc' := 30) m_203 rfl rfl rfl (ev_iconst (pc' := 31) (x := 4) m_203 rfl rfl rfl ?_)
    refine ev_icmp_lt (t := 50) (e := 34) m_203 rfl rfl rfl (fun c3 => ?_) (fun c3 => ?_)
    · replace h := Ok_t c3 h
      refine ev_iconst (pc' := 51) (x := 0) m_203 rfl rfl rfl ?_
      exact am_Ev.sub (L := [(0, .ref 87), (1, .int (l1)), (2, .int (t0))]) ⟨rfl, rfl, rfl, trivial⟩ (cR_takeStatement_51_ok l1 t0 ((0 : Int32)) _ _ h)
    · replace h := Ok_f c3 h
      refine ev_iload_n (pc' := 35) m_203 rfl rfl rfl (ev_bipush (pc' := 37) (x := 18) m_203 rfl rfl rfl ?_)
      refine ev_icmp_gt (t := 50) (e := 40) m_203 rfl rfl rfl (fun c2 => ?_) (fun c2 => ?_)
      · replace h := Ok_t c2 h
        refine ev_iconst (pc' := 51) (x := 0) m_203 rfl rfl rfl ?_
        exact am_Ev.sub (L := [(0, .ref 87), (1, .int (l1)), (2, .int (t0))]) ⟨rfl, rfl, rfl, trivial⟩ (cR_takeStatement_51_ok l1 t0 ((0 : Int32)) _ _ h)
      · replace h := Ok_f c2 h
        refine ev_iload_n (pc' := 41) m_203 rfl rfl rfl (ev_bipush (pc' := 43) (x := 6) m_203 rfl rfl rfl ?_)
        refine ev_icmp_eq (t := 50) (e := 46) m_203 rfl rfl rfl (fun c1 => ?_) (fun c1 => ?_)
        · replace h := Ok_t c1 h
          refine ev_iconst (pc' := 51) (x := 0) m_203 rfl rfl rfl ?_
          exact am_Ev.sub (L := [(0, .ref 87), (1, .int (l1)), (2, .int (t0))]) ⟨rfl, rfl, rfl, trivial⟩ (cR_takeStatement_51_ok l1 t0 ((0 : Int32)) _ _ h)
        · replace h := Ok_f c1 h
          refine ev_iconst (pc' := 47) (x := 1) m_203 rfl rfl rfl (ev_goto (pc' := 51) m_203 rfl rfl ?_)
          exact am_Ev.sub (L := [(0, .ref 87), (1, .int (l1)), (2, .int (t0))]) ⟨rfl, rfl, rfl, trivial⟩ (cR_takeStatement_51_ok l1 t0 ((1 : Int32)) _ _ h)
def cR_takeStatement (s : ts) : Option (ts) := (cR_reserved s).bind (fun x3 => (if (gI x3.2 1106 0) = ((1 : Int32)) then (if x3.1 = ((-1 : Int32)) then cR_takeStatement_23 x3.1 ((1 : Int32)) x3.2 else cR_takeStatement_23 x3.1 ((0 : Int32)) x3.2) else cR_takeStatement_23 x3.1 ((0 : Int32)) x3.2))
set_option maxRecDepth 20000 in
theorem cR_takeStatement_ok {d : Nat} (s : ts) (Q : ts → Prop) (h : Ok (cR_takeStatement s) Q) : am_Ev (d + 9) 203 (0, [(0, .ref 87)], []) (lay s) (tq_v Q) := by
  unfold cR_takeStatement at h
  refine ev_aload_n (pc' := 1) m_203 rfl rfl rfl ?_
  refine tr_ci (pc' := 4) m_203 rfl rfl rfl m_185 rfl rfl rfl rfl (tr_rcv ts_o87 rfl) rfl rfl (cR_reserved_ok _ _ (Ok_b h)) (fun x3_ x3_s h => ?_)
  refine ev_istore_n (pc' := 5) m_203 rfl rfl rfl rfl (ev_aload_n (pc' := 6) m_203 rfl rfl rfl (tr_get (pc' := 9) (v := .int (gI _ 1106 _)) m_203 rfl rfl ts_o87 rfl rfl rfl (ev_iconst (pc' := 10) (x := 1) m_203 rfl rfl rfl ?_)))
  refine ev_icmp_ne (t := 22) (e := 13) m_203 rfl rfl rfl (fun c5 => ?_) (fun c5 => ?_)
  · replace h := Ok_f c5 h
    refine ev_iconst (pc' := 23) (x := 0) m_203 rfl rfl rfl ?_
    exact am_Ev.sub (L := [(0, .ref 87), (1, .int (x3_))]) ⟨rfl, rfl, trivial⟩ (cR_takeStatement_23_ok x3_ ((0 : Int32)) _ _ h)
  · replace h := Ok_t c5 h
    refine ev_iload_n (pc' := 14) m_203 rfl rfl rfl (ev_iconst (pc' := 15) (x := -1) m_203 rfl rfl rfl ?_)
    refine ev_icmp_ne (t := 22) (e := 18) m_203 rfl rfl rfl (fun c4 => ?_) (fun c4 => ?_)
    · replace h := Ok_f c4 h
      refine ev_iconst (pc' := 23) (x := 0) m_203 rfl rfl rfl ?_
      exact am_Ev.sub (L := [(0, .ref 87), (1, .int (x3_))]) ⟨rfl, rfl, trivial⟩ (cR_takeStatement_23_ok x3_ ((0 : Int32)) _ _ h)
    · replace h := Ok_t c4 h
      refine ev_iconst (pc' := 19) (x := 1) m_203 rfl rfl rfl (ev_goto (pc' := 23) m_203 rfl rfl ?_)
      exact am_Ev.sub (L := [(0, .ref 87), (1, .int (x3_))]) ⟨rfl, rfl, trivial⟩ (cR_takeStatement_23_ok x3_ ((1 : Int32)) _ _ h)
def cR_takeProcess_224 (s : ts) : Option (ts) := (cR_line ((27 : Int32)) s).bind (fun x3 => some x3.2)
set_option maxRecDepth 20000 in
theorem cR_takeProcess_224_ok {d : Nat} (s : ts) (Q : ts → Prop) (h : Ok (cR_takeProcess_224 s) Q) : am_Ev (d + 10) 197 (224, [(0, .ref 87)], []) (lay s) (tq_v Q) := by
  unfold cR_takeProcess_224 at h
  refine ev_aload_n (pc' := 225) m_197 rfl rfl rfl (ev_bipush (pc' := 227) (x := 27) m_197 rfl rfl rfl ?_)
  refine tr_ci (pc' := 230) m_197 rfl rfl rfl m_202 rfl rfl rfl rfl (tr_rcv ts_o87 rfl) rfl rfl (cR_line_ok ((27 : Int32)) _ _ (Ok_b h)) (fun x3_ x3_s h => ?_)
  refine ev_istore_n (pc' := 231) m_197 rfl rfl rfl rfl ?_
  exact tr_rv m_197 rfl rfl (Ok_s h)
def cR_takeProcess_187_b (kk : ts → Option (ts)) (s : ts) : Option (ts) := (cR_good s).bind (fun x3 => (if x3.1 = ((0 : Int32)) then cR_takeProcess_224 x3.2 else (if (gI x3.2 1138 0) ≤ ((0 : Int32)) then cR_takeProcess_224 x3.2 else (if (gI x3.2 1106 0) = ((125 : Int32)) then (cR_endBlock x3.2).bind (fun s8 => kk s8) else (cR_takeStatement x3.2).bind (fun s5 => kk s5)))))
def cR_takeProcess_187 : Nat → ts → Option (ts)
  | 0, _ => none
  | n + 1, s => cR_takeProcess_187_b (cR_takeProcess_187 n) s
set_option maxRecDepth 20000 in
theorem cR_takeProcess_187_ok {d : Nat} : ∀ (n : Nat) (s : ts) (Q : ts → Prop), Ok (cR_takeProcess_187 n s) Q → am_Ev (d + 10) 197 (187, [(0, .ref 87)], []) (lay s) (tq_v Q) := by
  intro n
  induction n with
  | zero => intro s Q h; exact Ok_n h
  | succ n ih =>
    intro s Q h
    rw [cR_takeProcess_187.eq_2] at h
    unfold cR_takeProcess_187_b at h
    refine ev_aload_n (pc' := 188) m_197 rfl rfl rfl ?_
    refine tr_cz (pc' := 191) m_197 rfl rfl rfl m_177 rfl rfl rfl rfl rfl (tr_rcv ts_o87 rfl) rfl rfl (cR_good_ok _ _ (Ok_b h)) (fun x3_ x3_s h1 h => ?_)
    refine ev_if_eq (t := 224) (e := 194) m_197 rfl rfl rfl (fun c12 => ?_) (fun c12 => ?_)
    · replace h := Ok_t c12 h
      exact am_Ev.sub (L := [(0, .ref 87)]) ⟨rfl, trivial⟩ (cR_takeProcess_224_ok _ _ h)
    · replace h := Ok_f c12 h
      refine ev_aload_n (pc' := 195) m_197 rfl rfl rfl (tr_get (pc' := 198) (v := .int (gI _ 1138 _)) m_197 rfl rfl ts_o87 rfl rfl rfl ?_)
      refine ev_if_le (t := 224) (e := 201) m_197 rfl rfl rfl (fun c11 => ?_) (fun c11 => ?_)
      · replace h := Ok_t c11 h
        exact am_Ev.sub (L := [(0, .ref 87)]) ⟨rfl, trivial⟩ (cR_takeProcess_224_ok _ _ h)
      · replace h := Ok_f c11 h
        refine ev_aload_n (pc' := 202) m_197 rfl rfl rfl (tr_get (pc' := 205) (v := .int (gI _ 1106 _)) m_197 rfl rfl ts_o87 rfl rfl rfl (ev_bipush (pc' := 207) (x := 125) m_197 rfl rfl rfl ?_))
        refine ev_icmp_ne (t := 217) (e := 210) m_197 rfl rfl rfl (fun c10 => ?_) (fun c10 => ?_)
        · replace h := Ok_f c10 h
          refine ev_aload_n (pc' := 218) m_197 rfl rfl rfl ?_
          refine tr_cv (pc' := 221) m_197 rfl rfl rfl m_203 rfl rfl rfl rfl (tr_rcv ts_o87 rfl) rfl rfl (cR_takeStatement_ok _ _ (Ok_b h)) (fun s5 h => ?_)
          refine ev_goto (pc' := 187) m_197 rfl rfl ?_
          exact am_Ev.sub (L := [(0, .ref 87)]) ⟨rfl, trivial⟩ (ih _ _ h)
        · replace h := Ok_t c10 h
          refine ev_aload_n (pc' := 211) m_197 rfl rfl rfl ?_
          refine tr_cv (pc' := 214) m_197 rfl rfl rfl m_201 rfl rfl rfl rfl (tr_rcv ts_o87 rfl) rfl rfl (cR_endBlock_ok _ _ (Ok_b h)) (fun s8 h => ?_)
          refine ev_goto (pc' := 187) m_197 rfl rfl ?_
          exact am_Ev.sub (L := [(0, .ref 87)]) ⟨rfl, trivial⟩ (ih _ _ h)
def cR_takeProcess_150 (l1 : Int32) (s : ts) : Option (ts) := (if am_idx l1 12 = true then (cR_must ((41 : Int32)) (wA s 96 l1.toNatClampNeg (gI s 1123 0))).bind (fun s3 => (cR_beginBlock ((3 : Int32)) ((0 : Int32)) (wI (wA s3 97 l1.toNatClampNeg (gI s3 1125 0)) 1138 0 ((0 : Int32)))).bind (fun s6 => cR_takeProcess_187 tm_N s6)) else none)
set_option maxRecDepth 20000 in
theorem cR_takeProcess_150_ok {d : Nat} (l1 : Int32) (s : ts) (Q : ts → Prop) (h : Ok (cR_takeProcess_150 l1 s) Q) : am_Ev (d + 10) 197 (150, [(0, .ref 87), (1, .int (l1))], []) (lay s) (tq_v Q) := by
  unfold cR_takeProcess_150 at h
  refine ev_aload_n (pc' := 151) m_197 rfl rfl rfl (tr_get (pc' := 154) (v := .ref 96) m_197 rfl rfl ts_o87 rfl rfl rfl (ev_iload_n (pc' := 155) m_197 rfl rfl rfl (ev_aload_n (pc' := 156) m_197 rfl rfl rfl (tr_get (pc' := 159) (v := .int (gI _ 1123 _)) m_197 rfl rfl ts_o87 rfl rfl rfl ?_))))
  obtain ⟨g1, h⟩ := Ok_g h
  refine tr_iast (pc' := 160) m_197 rfl rfl rfl g1 rfl (ev_aload_n (pc' := 161) m_197 rfl rfl rfl (ev_bipush (pc' := 163) (x := 41) m_197 rfl rfl rfl ?_))
  refine tr_cv (pc' := 166) m_197 rfl rfl rfl m_194 rfl rfl rfl rfl (tr_rcv ts_o87 rfl) rfl rfl (cR_must_ok ((41 : Int32)) _ _ (Ok_b h)) (fun s3 h => ?_)
  refine ev_aload_n (pc' := 167) m_197 rfl rfl rfl (tr_get (pc' := 170) (v := .ref 97) m_197 rfl rfl ts_o87 rfl rfl rfl (ev_iload_n (pc' := 171) m_197 rfl rfl rfl (ev_aload_n (pc' := 172) m_197 rfl rfl rfl (tr_get (pc' := 175) (v := .int (gI _ 1125 _)) m_197 rfl rfl ts_o87 rfl rfl rfl (tr_iast (pc' := 176) m_197 rfl rfl rfl g1 rfl (ev_aload_n (pc' := 177) m_197 rfl rfl rfl (ev_iconst (pc' := 178) (x := 0) m_197 rfl rfl rfl ?_)))))))
  refine tr_pI (pc' := 181) (f := 1138) m_197 rfl rfl rfl ts_o87 rfl rfl rfl rfl (ev_aload_n (pc' := 182) m_197 rfl rfl rfl (ev_iconst (pc' := 183) (x := 3) m_197 rfl rfl rfl (ev_iconst (pc' := 184) (x := 0) m_197 rfl rfl rfl ?_)))
  refine tr_cv (pc' := 187) m_197 rfl rfl rfl m_200 rfl rfl rfl rfl (tr_rcv ts_o87 rfl) rfl rfl (cR_beginBlock_ok ((3 : Int32)) ((0 : Int32)) _ _ (Ok_b h)) (fun s6 h => ?_)
  exact am_Ev.sub (L := [(0, .ref 87)]) ⟨rfl, trivial⟩ (cR_takeProcess_187_ok tm_N _ _ h)
def cR_takeProcess_138 (k97 : Int32 → Int32 → ts → Option (ts)) (l1 : Int32) (t0 : Int32) (s : ts) : Option (ts) := (if t0 = ((0 : Int32)) then k97 l1 t0 s else (cR_next s).bind (fun s2 => k97 l1 t0 s2))
set_option maxRecDepth 20000 in
theorem cR_takeProcess_138_ok {d : Nat} (k97 : Int32 → Int32 → ts → Option (ts)) (hk97 : ∀ (l1 : Int32) (l2 : Int32) (s : ts) (Q : ts → Prop), Ok (k97 l1 l2 s) Q → am_Ev (d + 10) 197 (97, [(0, .ref 87), (1, .int (l1)), (2, .int (l2))], []) (lay s) (tq_v Q)) (l1 : Int32) (t0 : Int32) (s : ts) (Q : ts → Prop) (h : Ok (cR_takeProcess_138 k97 l1 t0 s) Q) : am_Ev (d + 10) 197 (138, [(0, .ref 87), (1, .int (l1))], [.int (t0)]) (lay s) (tq_v Q) := by
  unfold cR_takeProcess_138 at h
  refine ev_istore_n (pc' := 139) m_197 rfl rfl rfl rfl (ev_iload_n (pc' := 140) m_197 rfl rfl rfl ?_)
  refine ev_if_eq (t := 97) (e := 143) m_197 rfl rfl rfl (fun c4 => ?_) (fun c4 => ?_)
  · replace h := Ok_t c4 h
    exact am_Ev.sub (L := [(0, .ref 87), (1, .int (l1)), (2, .int (t0))]) ⟨rfl, rfl, rfl, trivial⟩ (hk97 l1 t0 _ _ h)
  · replace h := Ok_f c4 h
    refine ev_aload_n (pc' := 144) m_197 rfl rfl rfl ?_
    refine tr_cv (pc' := 147) m_197 rfl rfl rfl m_176 rfl rfl rfl rfl (tr_rcv ts_o87 rfl) rfl rfl (cR_next_ok _ _ (Ok_b h)) (fun s2 h => ?_)
    refine ev_goto (pc' := 97) m_197 rfl rfl ?_
    exact am_Ev.sub (L := [(0, .ref 87), (1, .int (l1)), (2, .int (t0))]) ⟨rfl, rfl, rfl, trivial⟩ (hk97 l1 t0 _ _ h)
def cR_takeProcess_97_b (kk : Int32 → Int32 → ts → Option (ts)) (l1 : Int32) (l2 : Int32) (s : ts) : Option (ts) := (if l2 = ((0 : Int32)) then cR_takeProcess_150 l1 s else (cR_good s).bind (fun x3 => (if x3.1 = ((0 : Int32)) then cR_takeProcess_150 l1 x3.2 else (cR_takeLocal x3.2).bind (fun s5 => (cR_addLocal (gJ s5 1108 0) s5).bind (fun s8 => (cR_next s8).bind (fun s11 => (if (gI s11 1106 0) = ((44 : Int32)) then cR_takeProcess_138 kk l1 ((1 : Int32)) s11 else cR_takeProcess_138 kk l1 ((0 : Int32)) s11)))))))
def cR_takeProcess_97 : Nat → Int32 → Int32 → ts → Option (ts)
  | 0, _, _, _ => none
  | n + 1, l1, l2, s => cR_takeProcess_97_b (cR_takeProcess_97 n) l1 l2 s
set_option maxRecDepth 20000 in
theorem cR_takeProcess_97_ok {d : Nat} : ∀ (n : Nat) (l1 : Int32) (l2 : Int32) (s : ts) (Q : ts → Prop), Ok (cR_takeProcess_97 n l1 l2 s) Q → am_Ev (d + 10) 197 (97, [(0, .ref 87), (1, .int (l1)), (2, .int (l2))], []) (lay s) (tq_v Q) := by
  intro n
  induction n with
  | zero => intro l1 l2 s Q h; exact Ok_n h
  | succ n ih =>
    intro l1 l2 s Q h
    rw [cR_takeProcess_97.eq_2] at h
    unfold cR_takeProcess_97_b at h
    refine ev_iload_n (pc' := 98) m_197 rfl rfl rfl ?_
    refine ev_if_eq (t := 150) (e := 101) m_197 rfl rfl rfl (fun c15 => ?_) (fun c15 => ?_)
    · replace h := Ok_t c15 h
      exact am_Ev.sub (L := [(0, .ref 87), (1, .int (l1))]) ⟨rfl, rfl, trivial⟩ (cR_takeProcess_150_ok l1 _ _ h)
    · replace h := Ok_f c15 h
      refine ev_aload_n (pc' := 102) m_197 rfl rfl rfl ?_
      refine tr_cz (pc' := 105) m_197 rfl rfl rfl m_177 rfl rfl rfl rfl rfl (tr_rcv ts_o87 rfl) rfl rfl (cR_good_ok _ _ (Ok_b h)) (fun x3_ x3_s h1 h => ?_)
      refine ev_if_eq (t := 150) (e := 108) m_197 rfl rfl rfl (fun c14 => ?_) (fun c14 => ?_)
      · replace h := Ok_t c14 h
        exact am_Ev.sub (L := [(0, .ref 87), (1, .int (l1))]) ⟨rfl, rfl, trivial⟩ (cR_takeProcess_150_ok l1 _ _ h)
      · replace h := Ok_f c14 h
        refine ev_aload_n (pc' := 109) m_197 rfl rfl rfl ?_
        refine tr_cv (pc' := 112) m_197 rfl rfl rfl m_198 rfl rfl rfl rfl (tr_rcv ts_o87 rfl) rfl rfl (cR_takeLocal_ok _ _ (Ok_b h)) (fun s5 h => ?_)
        refine ev_aload_n (pc' := 113) m_197 rfl rfl rfl (ev_aload_n (pc' := 114) m_197 rfl rfl rfl (tr_get (pc' := 117) (v := .long (gJ _ 1108 _)) m_197 rfl rfl ts_o87 rfl rfl rfl ?_))
        refine tr_cv (pc' := 120) m_197 rfl rfl rfl m_199 rfl rfl rfl rfl (tr_rcv ts_o87 rfl) rfl rfl (cR_addLocal_ok (gJ s5 1108 0) _ _ (Ok_b h)) (fun s8 h => ?_)
        refine ev_aload_n (pc' := 121) m_197 rfl rfl rfl ?_
        refine tr_cv (pc' := 124) m_197 rfl rfl rfl m_176 rfl rfl rfl rfl (tr_rcv ts_o87 rfl) rfl rfl (cR_next_ok _ _ (Ok_b h)) (fun s11 h => ?_)
        refine ev_aload_n (pc' := 125) m_197 rfl rfl rfl (tr_get (pc' := 128) (v := .int (gI _ 1106 _)) m_197 rfl rfl ts_o87 rfl rfl rfl (ev_bipush (pc' := 130) (x := 44) m_197 rfl rfl rfl ?_))
        refine ev_icmp_ne (t := 137) (e := 133) m_197 rfl rfl rfl (fun c13 => ?_) (fun c13 => ?_)
        · replace h := Ok_f c13 h
          refine ev_iconst (pc' := 138) (x := 0) m_197 rfl rfl rfl ?_
          exact am_Ev.sub (L := [(0, .ref 87), (1, .int (l1))]) ⟨rfl, rfl, trivial⟩ (cR_takeProcess_138_ok (cR_takeProcess_97 n) ih l1 ((0 : Int32)) _ _ h)
        · replace h := Ok_t c13 h
          refine ev_iconst (pc' := 134) (x := 1) m_197 rfl rfl rfl (ev_goto (pc' := 138) m_197 rfl rfl ?_)
          exact am_Ev.sub (L := [(0, .ref 87), (1, .int (l1))]) ⟨rfl, rfl, trivial⟩ (cR_takeProcess_138_ok (cR_takeProcess_97 n) ih l1 ((1 : Int32)) _ _ h)
def cR_takeProcess_24 (t1 : Int32) (s : ts) : Option (ts) := (cR_limit t1 s).bind (fun s2 => (cR_good s2).bind (fun x6 => (if x6.1 = ((0 : Int32)) then some x6.2 else (if am_idx (gI x6.2 1119 0) 12 = true then (cR_next (wI (wI (wB x6.2 95 (gI x6.2 1119 0).toNatClampNeg (gJ x6.2 1108 0)) 1119 0 ((gI (wB x6.2 95 (gI x6.2 1119 0).toNatClampNeg (gJ x6.2 1108 0)) 1119 0) + ((1 : Int32)))) 1123 0 ((0 : Int32)))).bind (fun s9 => (cR_must ((40 : Int32)) s9).bind (fun s12 => (cR_good s12).bind (fun x16 => (if x16.1 = ((0 : Int32)) then cR_takeProcess_97 tm_N (gI x6.2 1119 0) ((0 : Int32)) x16.2 else (if (gI x16.2 1106 0) = ((41 : Int32)) then cR_takeProcess_97 tm_N (gI x6.2 1119 0) ((0 : Int32)) x16.2 else cR_takeProcess_97 tm_N (gI x6.2 1119 0) ((1 : Int32)) x16.2))))) else none))))
set_option maxRecDepth 20000 in
theorem cR_takeProcess_24_ok {d : Nat} (t1 : Int32) (s : ts) (Q : ts → Prop) (h : Ok (cR_takeProcess_24 t1 s) Q) : am_Ev (d + 10) 197 (24, [(0, .ref 87)], [.int (t1), .ref 87]) (lay s) (tq_v Q) := by
  unfold cR_takeProcess_24 at h
  refine tr_cv (pc' := 27) m_197 rfl rfl rfl m_193 rfl rfl rfl rfl (tr_rcv ts_o87 rfl) rfl rfl (cR_limit_ok t1 _ _ (Ok_b h)) (fun s2 h => ?_)
  refine ev_aload_n (pc' := 28) m_197 rfl rfl rfl ?_
  refine tr_cz (pc' := 31) m_197 rfl rfl rfl m_177 rfl rfl rfl rfl rfl (tr_rcv ts_o87 rfl) rfl rfl (cR_good_ok _ _ (Ok_b h)) (fun x6_ x6_s h4 h => ?_)
  refine ev_if_ne (t := 35) (e := 34) m_197 rfl rfl rfl (fun c19 => ?_) (fun c19 => ?_)
  · replace h := Ok_f c19 h
    refine ev_aload_n (pc' := 36) m_197 rfl rfl rfl (tr_get (pc' := 39) (v := .int (gI _ 1119 _)) m_197 rfl rfl ts_o87 rfl rfl rfl (ev_istore_n (pc' := 40) m_197 rfl rfl rfl rfl (ev_aload_n (pc' := 41) m_197 rfl rfl rfl (tr_get (pc' := 44) (v := .ref 95) m_197 rfl rfl ts_o87 rfl rfl rfl (ev_iload_n (pc' := 45) m_197 rfl rfl rfl (ev_aload_n (pc' := 46) m_197 rfl rfl rfl (tr_get (pc' := 49) (v := .long (gJ _ 1108 _)) m_197 rfl rfl ts_o87 rfl rfl rfl ?_)))))))
    obtain ⟨g7, h⟩ := Ok_g h
    refine tr_last (pc' := 50) m_197 rfl rfl rfl g7 rfl (ev_aload_n (pc' := 51) m_197 rfl rfl rfl (ev_dup (pc' := 52) m_197 rfl rfl rfl (tr_get (pc' := 55) (v := .int (gI _ 1119 _)) m_197 rfl rfl ts_o87 rfl rfl rfl (ev_iconst (pc' := 56) (x := 1) m_197 rfl rfl rfl (ev_iadd (pc' := 57) m_197 rfl rfl (tr_pI (pc' := 60) (f := 1119) m_197 rfl rfl rfl ts_o87 rfl rfl rfl rfl (ev_aload_n (pc' := 61) m_197 rfl rfl rfl ?_)))))))
    refine ev_iconst (pc' := 62) (x := 0) m_197 rfl rfl rfl (tr_pI (pc' := 65) (f := 1123) m_197 rfl rfl rfl ts_o87 rfl rfl rfl rfl (ev_aload_n (pc' := 66) m_197 rfl rfl rfl ?_))
    refine tr_cv (pc' := 69) m_197 rfl rfl rfl m_176 rfl rfl rfl rfl (tr_rcv ts_o87 rfl) rfl rfl (cR_next_ok _ _ (Ok_b h)) (fun s9 h => ?_)
    refine ev_aload_n (pc' := 70) m_197 rfl rfl rfl (ev_bipush (pc' := 72) (x := 40) m_197 rfl rfl rfl ?_)
    refine tr_cv (pc' := 75) m_197 rfl rfl rfl m_194 rfl rfl rfl rfl (tr_rcv ts_o87 rfl) rfl rfl (cR_must_ok ((40 : Int32)) _ _ (Ok_b h)) (fun s12 h => ?_)
    refine ev_aload_n (pc' := 76) m_197 rfl rfl rfl ?_
    refine tr_cz (pc' := 79) m_197 rfl rfl rfl m_177 rfl rfl rfl rfl rfl (tr_rcv ts_o87 rfl) rfl rfl (cR_good_ok _ _ (Ok_b h)) (fun x16_ x16_s h14 h => ?_)
    refine ev_if_eq (t := 95) (e := 82) m_197 rfl rfl rfl (fun c18 => ?_) (fun c18 => ?_)
    · replace h := Ok_t c18 h
      refine ev_iconst (pc' := 96) (x := 0) m_197 rfl rfl rfl (ev_istore_n (pc' := 97) m_197 rfl rfl rfl rfl ?_)
      exact am_Ev.sub (L := [(0, .ref 87), (1, .int (gI x6_s 1119 0)), (2, .int ((0 : Int32)))]) ⟨rfl, rfl, rfl, trivial⟩ (cR_takeProcess_97_ok tm_N (gI x6_s 1119 0) ((0 : Int32)) _ _ h)
    · replace h := Ok_f c18 h
      refine ev_aload_n (pc' := 83) m_197 rfl rfl rfl (tr_get (pc' := 86) (v := .int (gI _ 1106 _)) m_197 rfl rfl ts_o87 rfl rfl rfl (ev_bipush (pc' := 88) (x := 41) m_197 rfl rfl rfl ?_))
      refine ev_icmp_eq (t := 95) (e := 91) m_197 rfl rfl rfl (fun c17 => ?_) (fun c17 => ?_)
      · replace h := Ok_t c17 h
        refine ev_iconst (pc' := 96) (x := 0) m_197 rfl rfl rfl (ev_istore_n (pc' := 97) m_197 rfl rfl rfl rfl ?_)
        exact am_Ev.sub (L := [(0, .ref 87), (1, .int (gI x6_s 1119 0)), (2, .int ((0 : Int32)))]) ⟨rfl, rfl, rfl, trivial⟩ (cR_takeProcess_97_ok tm_N (gI x6_s 1119 0) ((0 : Int32)) _ _ h)
      · replace h := Ok_f c17 h
        refine ev_iconst (pc' := 92) (x := 1) m_197 rfl rfl rfl (ev_goto (pc' := 96) m_197 rfl rfl (ev_istore_n (pc' := 97) m_197 rfl rfl rfl rfl ?_))
        exact am_Ev.sub (L := [(0, .ref 87), (1, .int (gI x6_s 1119 0)), (2, .int ((1 : Int32)))]) ⟨rfl, rfl, rfl, trivial⟩ (cR_takeProcess_97_ok tm_N (gI x6_s 1119 0) ((1 : Int32)) _ _ h)
  · replace h := Ok_t c19 h
    exact tr_rv m_197 rfl rfl (Ok_s h)
def cR_takeProcess (s : ts) : Option (ts) := (cR_next s).bind (fun s2 => (cR_freshName ((0 : Int32)) s2).bind (fun s5 => (if ((12 : Int32)) ≤ (gI s5 1119 0) then cR_takeProcess_24 ((0 : Int32)) s5 else cR_takeProcess_24 ((1 : Int32)) s5)))
set_option maxRecDepth 20000 in
theorem cR_takeProcess_ok {d : Nat} (s : ts) (Q : ts → Prop) (h : Ok (cR_takeProcess s) Q) : am_Ev (d + 10) 197 (0, [(0, .ref 87)], []) (lay s) (tq_v Q) := by
  unfold cR_takeProcess at h
  refine ev_aload_n (pc' := 1) m_197 rfl rfl rfl ?_
  refine tr_cv (pc' := 4) m_197 rfl rfl rfl m_176 rfl rfl rfl rfl (tr_rcv ts_o87 rfl) rfl rfl (cR_next_ok _ _ (Ok_b h)) (fun s2 h => ?_)
  refine ev_aload_n (pc' := 5) m_197 rfl rfl rfl (ev_iconst (pc' := 6) (x := 0) m_197 rfl rfl rfl ?_)
  refine tr_cv (pc' := 9) m_197 rfl rfl rfl m_187 rfl rfl rfl rfl (tr_rcv ts_o87 rfl) rfl rfl (cR_freshName_ok ((0 : Int32)) _ _ (Ok_b h)) (fun s5 h => ?_)
  refine ev_aload_n (pc' := 10) m_197 rfl rfl rfl (ev_aload_n (pc' := 11) m_197 rfl rfl rfl (tr_get (pc' := 14) (v := .int (gI _ 1119 _)) m_197 rfl rfl ts_o87 rfl rfl rfl (ev_bipush (pc' := 16) (x := 12) m_197 rfl rfl rfl ?_)))
  refine ev_icmp_ge (t := 23) (e := 19) m_197 rfl rfl rfl (fun c7 => ?_) (fun c7 => ?_)
  · replace h := Ok_t c7 h
    refine ev_iconst (pc' := 24) (x := 0) m_197 rfl rfl rfl ?_
    exact am_Ev.sub (L := [(0, .ref 87)]) ⟨rfl, trivial⟩ (cR_takeProcess_24_ok ((0 : Int32)) _ _ h)
  · replace h := Ok_f c7 h
    refine ev_iconst (pc' := 20) (x := 1) m_197 rfl rfl rfl (ev_goto (pc' := 24) m_197 rfl rfl ?_)
    exact am_Ev.sub (L := [(0, .ref 87)]) ⟨rfl, trivial⟩ (cR_takeProcess_24_ok ((1 : Int32)) _ _ h)
def cR_beginAll_132 (k74 : Int32 → ts → Option (ts)) (l1 : Int32) (t1 : Int32) (t2 : Int32) (s : ts) : Option (ts) := (if am_idx t1 14 = true then (if am_idx l1 14 = true then (if am_idx l1 28 = true then (if am_idx (((14 : Int32)) + l1) 28 = true then k74 (l1 + (1 : Int32)) (wA (wA (wB (wB (wB (wA (wA (wA (wA s 129 t1.toNatClampNeg t2) 130 l1.toNatClampNeg ((0 : Int32))) 131 l1.toNatClampNeg ((0 : Int32))) 132 l1.toNatClampNeg ((0 : Int32))) 133 l1.toNatClampNeg ((0 : Int64))) 134 l1.toNatClampNeg ((0 : Int64))) 135 l1.toNatClampNeg ((0 : Int64))) 136 l1.toNatClampNeg ((0 : Int32))) 136 (((14 : Int32)) + l1).toNatClampNeg ((0 : Int32))) else none) else none) else none) else none)
set_option maxRecDepth 20000 in
theorem cR_beginAll_132_ok {d : Nat} (k74 : Int32 → ts → Option (ts)) (hk74 : ∀ (l1 : Int32) (s : ts) (Q : ts → Prop), Ok (k74 l1 s) Q → am_Ev (d + 0) 217 (74, [(0, .ref 87), (1, .int (l1))], []) (lay s) (tq_v Q)) (l1 : Int32) (t1 : Int32) (t2 : Int32) (s : ts) (Q : ts → Prop) (h : Ok (cR_beginAll_132 k74 l1 t1 t2 s) Q) : am_Ev (d + 0) 217 (132, [(0, .ref 87), (1, .int (l1))], [.int (t2), .int (t1), .ref 129]) (lay s) (tq_v Q) := by
  unfold cR_beginAll_132 at h
  obtain ⟨g1, h⟩ := Ok_g h
  refine tr_iast (pc' := 133) m_217 rfl rfl rfl g1 rfl (ev_aload_n (pc' := 134) m_217 rfl rfl rfl (tr_get (pc' := 137) (v := .ref 130) m_217 rfl rfl ts_o87 rfl rfl rfl (ev_iload_n (pc' := 138) m_217 rfl rfl rfl (ev_iconst (pc' := 139) (x := 0) m_217 rfl rfl rfl ?_))))
  obtain ⟨g2, h⟩ := Ok_g h
  refine tr_iast (pc' := 140) m_217 rfl rfl rfl g2 rfl (ev_aload_n (pc' := 141) m_217 rfl rfl rfl (tr_get (pc' := 144) (v := .ref 131) m_217 rfl rfl ts_o87 rfl rfl rfl (ev_iload_n (pc' := 145) m_217 rfl rfl rfl (ev_iconst (pc' := 146) (x := 0) m_217 rfl rfl rfl (tr_iast (pc' := 147) m_217 rfl rfl rfl g2 rfl (ev_aload_n (pc' := 148) m_217 rfl rfl rfl (tr_get (pc' := 151) (v := .ref 132) m_217 rfl rfl ts_o87 rfl rfl rfl ?_)))))))
  refine ev_iload_n (pc' := 152) m_217 rfl rfl rfl (ev_iconst (pc' := 153) (x := 0) m_217 rfl rfl rfl (tr_iast (pc' := 154) m_217 rfl rfl rfl g2 rfl (ev_aload_n (pc' := 155) m_217 rfl rfl rfl (tr_get (pc' := 158) (v := .ref 133) m_217 rfl rfl ts_o87 rfl rfl rfl (ev_iload_n (pc' := 159) m_217 rfl rfl rfl (ev_lconst (pc' := 160) (u := 0) m_217 rfl rfl rfl (tr_last (pc' := 161) m_217 rfl rfl rfl g2 rfl ?_)))))))
  refine ev_aload_n (pc' := 162) m_217 rfl rfl rfl (tr_get (pc' := 165) (v := .ref 134) m_217 rfl rfl ts_o87 rfl rfl rfl (ev_iload_n (pc' := 166) m_217 rfl rfl rfl (ev_lconst (pc' := 167) (u := 0) m_217 rfl rfl rfl (tr_last (pc' := 168) m_217 rfl rfl rfl g2 rfl (ev_aload_n (pc' := 169) m_217 rfl rfl rfl (tr_get (pc' := 172) (v := .ref 135) m_217 rfl rfl ts_o87 rfl rfl rfl (ev_iload_n (pc' := 173) m_217 rfl rfl rfl ?_)))))))
  refine ev_lconst (pc' := 174) (u := 0) m_217 rfl rfl rfl (tr_last (pc' := 175) m_217 rfl rfl rfl g2 rfl (ev_aload_n (pc' := 176) m_217 rfl rfl rfl (tr_get (pc' := 179) (v := .ref 136) m_217 rfl rfl ts_o87 rfl rfl rfl (ev_iload_n (pc' := 180) m_217 rfl rfl rfl (ev_iconst (pc' := 181) (x := 0) m_217 rfl rfl rfl ?_)))))
  obtain ⟨g3, h⟩ := Ok_g h
  refine tr_iast (pc' := 182) m_217 rfl rfl rfl g3 rfl (ev_aload_n (pc' := 183) m_217 rfl rfl rfl (tr_get (pc' := 186) (v := .ref 136) m_217 rfl rfl ts_o87 rfl rfl rfl (ev_bipush (pc' := 188) (x := 14) m_217 rfl rfl rfl (ev_iload_n (pc' := 189) m_217 rfl rfl rfl (ev_iadd (pc' := 190) m_217 rfl rfl (ev_iconst (pc' := 191) (x := 0) m_217 rfl rfl rfl ?_))))))
  obtain ⟨g4, h⟩ := Ok_g h
  refine tr_iast (pc' := 192) m_217 rfl rfl rfl g4 rfl (ev_iinc (pc' := 195) (z := 1) m_217 rfl rfl rfl rfl rfl rfl (ev_goto (pc' := 74) m_217 rfl rfl ?_))
  exact am_Ev.sub (L := [(0, .ref 87), (1, .int (l1 + (1 : Int32)))]) ⟨rfl, rfl, trivial⟩ (hk74 (l1 + (1 : Int32)) _ _ h)
def cR_beginAll_74_b (kk : Int32 → ts → Option (ts)) (l1 : Int32) (s : ts) : Option (ts) := (if ((14 : Int32)) ≤ l1 then some s else (if (gI s 1110 0) ≤ l1 then (if l1 < ((8 : Int32)) then cR_beginAll_132 kk l1 l1 ((0 : Int32)) s else (if (gI s 1113 0) ≤ (l1 - ((8 : Int32))) then cR_beginAll_132 kk l1 l1 ((0 : Int32)) s else (if am_idx (l1 - ((8 : Int32))) 6 = true then cR_beginAll_132 kk l1 l1 (gA s 92 (l1 - ((8 : Int32))).toNatClampNeg) s else none))) else (if am_idx l1 8 = true then cR_beginAll_132 kk l1 l1 (gA s 90 l1.toNatClampNeg) s else none)))
def cR_beginAll_74 : Nat → Int32 → ts → Option (ts)
  | 0, _, _ => none
  | n + 1, l1, s => cR_beginAll_74_b (cR_beginAll_74 n) l1 s
set_option maxRecDepth 20000 in
theorem cR_beginAll_74_ok {d : Nat} : ∀ (n : Nat) (l1 : Int32) (s : ts) (Q : ts → Prop), Ok (cR_beginAll_74 n l1 s) Q → am_Ev (d + 0) 217 (74, [(0, .ref 87), (1, .int (l1))], []) (lay s) (tq_v Q) := by
  intro n
  induction n with
  | zero => intro l1 s Q h; exact Ok_n h
  | succ n ih =>
    intro l1 s Q h
    rw [cR_beginAll_74.eq_2] at h
    unfold cR_beginAll_74_b at h
    refine ev_iload_n (pc' := 75) m_217 rfl rfl rfl (ev_bipush (pc' := 77) (x := 14) m_217 rfl rfl rfl ?_)
    refine ev_icmp_ge (t := 198) (e := 80) m_217 rfl rfl rfl (fun c6 => ?_) (fun c6 => ?_)
    · replace h := Ok_t c6 h
      exact tr_rv m_217 rfl rfl (Ok_s h)
    · replace h := Ok_f c6 h
      refine ev_aload_n (pc' := 81) m_217 rfl rfl rfl (tr_get (pc' := 84) (v := .ref 129) m_217 rfl rfl ts_o87 rfl rfl rfl (ev_iload_n (pc' := 85) m_217 rfl rfl rfl (ev_iload_n (pc' := 86) m_217 rfl rfl rfl (ev_aload_n (pc' := 87) m_217 rfl rfl rfl (tr_get (pc' := 90) (v := .int (gI _ 1110 _)) m_217 rfl rfl ts_o87 rfl rfl rfl ?_)))))
      refine ev_icmp_ge (t := 102) (e := 93) m_217 rfl rfl rfl (fun c5 => ?_) (fun c5 => ?_)
      · replace h := Ok_t c5 h
        refine ev_iload_n (pc' := 103) m_217 rfl rfl rfl (ev_bipush (pc' := 105) (x := 8) m_217 rfl rfl rfl ?_)
        refine ev_icmp_lt (t := 131) (e := 108) m_217 rfl rfl rfl (fun c3 => ?_) (fun c3 => ?_)
        · replace h := Ok_t c3 h
          refine ev_iconst (pc' := 132) (x := 0) m_217 rfl rfl rfl ?_
          exact am_Ev.sub (L := [(0, .ref 87), (1, .int (l1))]) ⟨rfl, rfl, trivial⟩ (cR_beginAll_132_ok (cR_beginAll_74 n) ih l1 l1 ((0 : Int32)) _ _ h)
        · replace h := Ok_f c3 h
          refine ev_iload_n (pc' := 109) m_217 rfl rfl rfl (ev_bipush (pc' := 111) (x := 8) m_217 rfl rfl rfl (ev_isub (pc' := 112) m_217 rfl rfl (ev_aload_n (pc' := 113) m_217 rfl rfl rfl (tr_get (pc' := 116) (v := .int (gI _ 1113 _)) m_217 rfl rfl ts_o87 rfl rfl rfl ?_))))
          refine ev_icmp_ge (t := 131) (e := 119) m_217 rfl rfl rfl (fun c2 => ?_) (fun c2 => ?_)
          · replace h := Ok_t c2 h
            refine ev_iconst (pc' := 132) (x := 0) m_217 rfl rfl rfl ?_
            exact am_Ev.sub (L := [(0, .ref 87), (1, .int (l1))]) ⟨rfl, rfl, trivial⟩ (cR_beginAll_132_ok (cR_beginAll_74 n) ih l1 l1 ((0 : Int32)) _ _ h)
          · replace h := Ok_f c2 h
            refine ev_aload_n (pc' := 120) m_217 rfl rfl rfl (tr_get (pc' := 123) (v := .ref 92) m_217 rfl rfl ts_o87 rfl rfl rfl (ev_iload_n (pc' := 124) m_217 rfl rfl rfl (ev_bipush (pc' := 126) (x := 8) m_217 rfl rfl rfl (ev_isub (pc' := 127) m_217 rfl rfl ?_))))
            obtain ⟨g1, h⟩ := Ok_g h
            refine tr_iald (pc' := 128) m_217 rfl rfl rfl g1 rfl (ev_goto (pc' := 132) m_217 rfl rfl ?_)
            exact am_Ev.sub (L := [(0, .ref 87), (1, .int (l1))]) ⟨rfl, rfl, trivial⟩ (cR_beginAll_132_ok (cR_beginAll_74 n) ih l1 l1 (gA s 92 (l1 - ((8 : Int32))).toNatClampNeg) _ _ h)
      · replace h := Ok_f c5 h
        refine ev_aload_n (pc' := 94) m_217 rfl rfl rfl (tr_get (pc' := 97) (v := .ref 90) m_217 rfl rfl ts_o87 rfl rfl rfl (ev_iload_n (pc' := 98) m_217 rfl rfl rfl ?_))
        obtain ⟨g4, h⟩ := Ok_g h
        refine tr_iald (pc' := 99) m_217 rfl rfl rfl g4 rfl (ev_goto (pc' := 132) m_217 rfl rfl ?_)
        exact am_Ev.sub (L := [(0, .ref 87), (1, .int (l1))]) ⟨rfl, rfl, trivial⟩ (cR_beginAll_132_ok (cR_beginAll_74 n) ih l1 l1 (gA s 90 l1.toNatClampNeg) _ _ h)
def cR_beginAll_53_b (kk : Int32 → ts → Option (ts)) (l1 : Int32) (s : ts) : Option (ts) := (if ((16 : Int32)) ≤ l1 then cR_beginAll_74 tm_N ((0 : Int32)) s else (if am_idx l1 16 = true then kk (l1 + (1 : Int32)) (wA s 118 l1.toNatClampNeg ((0 : Int32))) else none))
def cR_beginAll_53 : Nat → Int32 → ts → Option (ts)
  | 0, _, _ => none
  | n + 1, l1, s => cR_beginAll_53_b (cR_beginAll_53 n) l1 s
set_option maxRecDepth 20000 in
theorem cR_beginAll_53_ok {d : Nat} : ∀ (n : Nat) (l1 : Int32) (s : ts) (Q : ts → Prop), Ok (cR_beginAll_53 n l1 s) Q → am_Ev (d + 0) 217 (53, [(0, .ref 87), (1, .int (l1))], []) (lay s) (tq_v Q) := by
  intro n
  induction n with
  | zero => intro l1 s Q h; exact Ok_n h
  | succ n ih =>
    intro l1 s Q h
    rw [cR_beginAll_53.eq_2] at h
    unfold cR_beginAll_53_b at h
    refine ev_iload_n (pc' := 54) m_217 rfl rfl rfl (ev_bipush (pc' := 56) (x := 16) m_217 rfl rfl rfl ?_)
    refine ev_icmp_ge (t := 72) (e := 59) m_217 rfl rfl rfl (fun c2 => ?_) (fun c2 => ?_)
    · replace h := Ok_t c2 h
      refine ev_iconst (pc' := 73) (x := 0) m_217 rfl rfl rfl (ev_istore_n (pc' := 74) m_217 rfl rfl rfl rfl ?_)
      exact am_Ev.sub (L := [(0, .ref 87), (1, .int ((0 : Int32)))]) ⟨rfl, rfl, trivial⟩ (cR_beginAll_74_ok tm_N ((0 : Int32)) _ _ h)
    · replace h := Ok_f c2 h
      refine ev_aload_n (pc' := 60) m_217 rfl rfl rfl (tr_get (pc' := 63) (v := .ref 118) m_217 rfl rfl ts_o87 rfl rfl rfl (ev_iload_n (pc' := 64) m_217 rfl rfl rfl (ev_iconst (pc' := 65) (x := 0) m_217 rfl rfl rfl ?_)))
      obtain ⟨g1, h⟩ := Ok_g h
      refine tr_iast (pc' := 66) m_217 rfl rfl rfl g1 rfl (ev_iinc (pc' := 69) (z := 1) m_217 rfl rfl rfl rfl rfl rfl (ev_goto (pc' := 53) m_217 rfl rfl ?_))
      exact am_Ev.sub (L := [(0, .ref 87), (1, .int (l1 + (1 : Int32)))]) ⟨rfl, rfl, trivial⟩ (ih (l1 + (1 : Int32)) _ _ h)
def cR_beginAll (s : ts) : Option (ts) := cR_beginAll_53 tm_N ((0 : Int32)) (wI (wI (wJ (wI (wI (wI (wI (wI (wI (wI s 1152 0 ((0 : Int32))) 1153 0 ((0 : Int32))) 1154 0 ((0 : Int32))) 1155 0 ((0 : Int32))) 1156 0 ((0 : Int32))) 1157 0 ((0 : Int32))) 1159 0 ((-2 : Int32))) 1160 0 ((0 : Int64))) 1161 0 ((0 : Int32))) 1185 0 ((0 : Int32)))
set_option maxRecDepth 20000 in
theorem cR_beginAll_ok {d : Nat} (s : ts) (Q : ts → Prop) (h : Ok (cR_beginAll s) Q) : am_Ev (d + 0) 217 (0, [(0, .ref 87)], []) (lay s) (tq_v Q) := by
  unfold cR_beginAll at h
  refine ev_aload_n (pc' := 1) m_217 rfl rfl rfl (ev_iconst (pc' := 2) (x := 0) m_217 rfl rfl rfl (tr_pI (pc' := 5) (f := 1152) m_217 rfl rfl rfl ts_o87 rfl rfl rfl rfl (ev_aload_n (pc' := 6) m_217 rfl rfl rfl (ev_iconst (pc' := 7) (x := 0) m_217 rfl rfl rfl (tr_pI (pc' := 10) (f := 1153) m_217 rfl rfl rfl ts_o87 rfl rfl rfl rfl (ev_aload_n (pc' := 11) m_217 rfl rfl rfl (ev_iconst (pc' := 12) (x := 0) m_217 rfl rfl rfl ?_)))))))
  refine tr_pI (pc' := 15) (f := 1154) m_217 rfl rfl rfl ts_o87 rfl rfl rfl rfl (ev_aload_n (pc' := 16) m_217 rfl rfl rfl (ev_iconst (pc' := 17) (x := 0) m_217 rfl rfl rfl (tr_pI (pc' := 20) (f := 1155) m_217 rfl rfl rfl ts_o87 rfl rfl rfl rfl (ev_aload_n (pc' := 21) m_217 rfl rfl rfl (ev_iconst (pc' := 22) (x := 0) m_217 rfl rfl rfl (tr_pI (pc' := 25) (f := 1156) m_217 rfl rfl rfl ts_o87 rfl rfl rfl rfl (ev_aload_n (pc' := 26) m_217 rfl rfl rfl ?_)))))))
  refine ev_iconst (pc' := 27) (x := 0) m_217 rfl rfl rfl (tr_pI (pc' := 30) (f := 1157) m_217 rfl rfl rfl ts_o87 rfl rfl rfl rfl (ev_aload_n (pc' := 31) m_217 rfl rfl rfl (ev_bipush (pc' := 33) (x := -2) m_217 rfl rfl rfl (tr_pI (pc' := 36) (f := 1159) m_217 rfl rfl rfl ts_o87 rfl rfl rfl rfl (ev_aload_n (pc' := 37) m_217 rfl rfl rfl (ev_lconst (pc' := 38) (u := 0) m_217 rfl rfl rfl (tr_pJ (pc' := 41) (f := 1160) m_217 rfl rfl rfl ts_o87 rfl rfl rfl rfl ?_)))))))
  refine ev_aload_n (pc' := 42) m_217 rfl rfl rfl (ev_iconst (pc' := 43) (x := 0) m_217 rfl rfl rfl (tr_pI (pc' := 46) (f := 1161) m_217 rfl rfl rfl ts_o87 rfl rfl rfl rfl (ev_aload_n (pc' := 47) m_217 rfl rfl rfl (ev_iconst (pc' := 48) (x := 0) m_217 rfl rfl rfl (tr_pI (pc' := 51) (f := 1185) m_217 rfl rfl rfl ts_o87 rfl rfl rfl rfl (ev_iconst (pc' := 52) (x := 0) m_217 rfl rfl rfl (ev_istore_n (pc' := 53) m_217 rfl rfl rfl rfl ?_)))))))
  exact am_Ev.sub (L := [(0, .ref 87), (1, .int ((0 : Int32)))]) ⟨rfl, rfl, trivial⟩ (cR_beginAll_53_ok tm_N ((0 : Int32)) _ _ h)
def cR_load_245 (s : ts) : Option (Int32 × ts) := (cR_good (wI s 1101 0 ((0 : Int32)))).bind (fun x3 => (if x3.1 = ((0 : Int32)) then some (gI x3.2 1103 0, x3.2) else (cR_beginAll (wI x3.2 1102 0 ((1 : Int32)))).bind (fun s5 => some ((0 : Int32), s5))))
set_option maxRecDepth 20000 in
theorem cR_load_245_ok {d : Nat} (s : ts) (Q : Int32 × ts → Prop) (h : Ok (cR_load_245 s) Q) : am_Ev (d + 11) 175 (245, [(0, .ref 87)], []) (lay s) (tq_i Q) := by
  unfold cR_load_245 at h
  refine ev_aload_n (pc' := 246) m_175 rfl rfl rfl (ev_iconst (pc' := 247) (x := 0) m_175 rfl rfl rfl (tr_pI (pc' := 250) (f := 1101) m_175 rfl rfl rfl ts_o87 rfl rfl rfl rfl (ev_aload_n (pc' := 251) m_175 rfl rfl rfl ?_)))
  refine tr_cz (pc' := 254) m_175 rfl rfl rfl m_177 rfl rfl rfl rfl rfl (tr_rcv ts_o87 rfl) rfl rfl (cR_good_ok _ _ (Ok_b h)) (fun x3_ x3_s h1 h => ?_)
  refine ev_if_ne (t := 262) (e := 257) m_175 rfl rfl rfl (fun c7 => ?_) (fun c7 => ?_)
  · replace h := Ok_f c7 h
    refine ev_aload_n (pc' := 263) m_175 rfl rfl rfl (ev_iconst (pc' := 264) (x := 1) m_175 rfl rfl rfl (tr_pZ (pc' := 267) (f := 1102) m_175 rfl rfl rfl ts_o87 rfl rfl (Or.inr rfl) rfl rfl (ev_aload_n (pc' := 268) m_175 rfl rfl rfl ?_)))
    refine tr_cv (pc' := 271) m_175 rfl rfl rfl m_217 rfl rfl rfl rfl (tr_rcv ts_o87 rfl) rfl rfl (cR_beginAll_ok _ _ (Ok_b h)) (fun s5 h => ?_)
    refine ev_iconst (pc' := 272) (x := 0) m_175 rfl rfl rfl ?_
    exact tr_ri m_175 rfl rfl (Ok_s h)
  · replace h := Ok_t c7 h
    refine ev_aload_n (pc' := 258) m_175 rfl rfl rfl (tr_get (pc' := 261) (v := .int (gI _ 1103 _)) m_175 rfl rfl ts_o87 rfl rfl rfl ?_)
    exact tr_ri m_175 rfl rfl (Ok_s h)
def cR_load_220 (k163 : Int32 → ts → Option (Int32 × ts)) (l1 : Int32) (l2 : Int32) (s : ts) : Option (Int32 × ts) := (if am_idx l1 900 = true then (cR_fail ((6 : Int32)) (gA s 107 l1.toNatClampNeg) s).bind (fun s3 => k163 (l1 + (1 : Int32)) (wA s3 100 l1.toNatClampNeg l2)) else none)
set_option maxRecDepth 20000 in
theorem cR_load_220_ok {d : Nat} (k163 : Int32 → ts → Option (Int32 × ts)) (hk163 : ∀ (l1 : Int32) (s : ts) (Q : Int32 × ts → Prop), Ok (k163 l1 s) Q → am_Ev (d + 11) 175 (163, [(0, .ref 87), (1, .int (l1))], []) (lay s) (tq_i Q)) (l1 : Int32) (l2 : Int32) (s : ts) (Q : Int32 × ts → Prop) (h : Ok (cR_load_220 k163 l1 l2 s) Q) : am_Ev (d + 11) 175 (220, [(0, .ref 87), (1, .int (l1)), (2, .int (l2))], []) (lay s) (tq_i Q) := by
  unfold cR_load_220 at h
  refine ev_aload_n (pc' := 221) m_175 rfl rfl rfl (ev_bipush (pc' := 223) (x := 6) m_175 rfl rfl rfl (ev_aload_n (pc' := 224) m_175 rfl rfl rfl (tr_get (pc' := 227) (v := .ref 107) m_175 rfl rfl ts_o87 rfl rfl rfl (ev_iload_n (pc' := 228) m_175 rfl rfl rfl ?_))))
  obtain ⟨g1, h⟩ := Ok_g h
  refine tr_iald (pc' := 229) m_175 rfl rfl rfl g1 rfl ?_
  refine tr_cv (pc' := 232) m_175 rfl rfl rfl m_180 rfl rfl rfl rfl (tr_rcv ts_o87 rfl) rfl rfl (cR_fail_ok ((6 : Int32)) (gA s 107 l1.toNatClampNeg) _ _ (Ok_b h)) (fun s3 h => ?_)
  refine ev_aload_n (pc' := 233) m_175 rfl rfl rfl (tr_get (pc' := 236) (v := .ref 100) m_175 rfl rfl ts_o87 rfl rfl rfl (ev_iload_n (pc' := 237) m_175 rfl rfl rfl (ev_iload_n (pc' := 238) m_175 rfl rfl rfl (tr_iast (pc' := 239) m_175 rfl rfl rfl g1 rfl (ev_iinc (pc' := 242) (z := 1) m_175 rfl rfl rfl rfl rfl rfl (ev_goto (pc' := 163) m_175 rfl rfl ?_))))))
  exact am_Ev.sub (L := [(0, .ref 87), (1, .int (l1 + (1 : Int32)))]) ⟨rfl, rfl, trivial⟩ (hk163 (l1 + (1 : Int32)) _ _ h)
def cR_load_163_b (kk : Int32 → ts → Option (Int32 × ts)) (l1 : Int32) (s : ts) : Option (Int32 × ts) := (if (gI s 1125 0) ≤ l1 then cR_load_245 s else (cR_good s).bind (fun x3 => (if x3.1 = ((0 : Int32)) then cR_load_245 x3.2 else (if am_idx l1 900 = true then (if (gA x3.2 99 l1.toNatClampNeg) = ((14 : Int32)) then (cR_findDefinition (gB x3.2 106 l1.toNatClampNeg) x3.2).bind (fun x7 => (if x7.1 = ((-1 : Int32)) then cR_load_220 kk l1 x7.1 x7.2 else (if am_idx x7.1 12 = true then (if (gA x7.2 96 x7.1.toNatClampNeg) = (gA x7.2 105 l1.toNatClampNeg) then kk (l1 + (1 : Int32)) (wA x7.2 100 l1.toNatClampNeg x7.1) else cR_load_220 kk l1 x7.1 x7.2) else none))) else kk (l1 + (1 : Int32)) x3.2) else none))))
def cR_load_163 : Nat → Int32 → ts → Option (Int32 × ts)
  | 0, _, _ => none
  | n + 1, l1, s => cR_load_163_b (cR_load_163 n) l1 s
set_option maxRecDepth 20000 in
theorem cR_load_163_ok {d : Nat} : ∀ (n : Nat) (l1 : Int32) (s : ts) (Q : Int32 × ts → Prop), Ok (cR_load_163 n l1 s) Q → am_Ev (d + 11) 175 (163, [(0, .ref 87), (1, .int (l1))], []) (lay s) (tq_i Q) := by
  intro n
  induction n with
  | zero => intro l1 s Q h; exact Ok_n h
  | succ n ih =>
    intro l1 s Q h
    rw [cR_load_163.eq_2] at h
    unfold cR_load_163_b at h
    refine ev_iload_n (pc' := 164) m_175 rfl rfl rfl (ev_aload_n (pc' := 165) m_175 rfl rfl rfl (tr_get (pc' := 168) (v := .int (gI _ 1125 _)) m_175 rfl rfl ts_o87 rfl rfl rfl ?_))
    refine ev_icmp_ge (t := 245) (e := 171) m_175 rfl rfl rfl (fun c13 => ?_) (fun c13 => ?_)
    · replace h := Ok_t c13 h
      exact am_Ev.sub (L := [(0, .ref 87)]) ⟨rfl, trivial⟩ (cR_load_245_ok _ _ h)
    · replace h := Ok_f c13 h
      refine ev_aload_n (pc' := 172) m_175 rfl rfl rfl ?_
      refine tr_cz (pc' := 175) m_175 rfl rfl rfl m_177 rfl rfl rfl rfl rfl (tr_rcv ts_o87 rfl) rfl rfl (cR_good_ok _ _ (Ok_b h)) (fun x3_ x3_s h1 h => ?_)
      refine ev_if_eq (t := 245) (e := 178) m_175 rfl rfl rfl (fun c12 => ?_) (fun c12 => ?_)
      · replace h := Ok_t c12 h
        exact am_Ev.sub (L := [(0, .ref 87)]) ⟨rfl, trivial⟩ (cR_load_245_ok _ _ h)
      · replace h := Ok_f c12 h
        refine ev_aload_n (pc' := 179) m_175 rfl rfl rfl (tr_get (pc' := 182) (v := .ref 99) m_175 rfl rfl ts_o87 rfl rfl rfl (ev_iload_n (pc' := 183) m_175 rfl rfl rfl ?_))
        obtain ⟨g4, h⟩ := Ok_g h
        refine tr_iald (pc' := 184) m_175 rfl rfl rfl g4 rfl (ev_bipush (pc' := 186) (x := 14) m_175 rfl rfl rfl ?_)
        refine ev_icmp_ne (t := 239) (e := 189) m_175 rfl rfl rfl (fun c11 => ?_) (fun c11 => ?_)
        · replace h := Ok_f c11 h
          refine ev_iinc (pc' := 242) (z := 1) m_175 rfl rfl rfl rfl rfl rfl (ev_goto (pc' := 163) m_175 rfl rfl ?_)
          exact am_Ev.sub (L := [(0, .ref 87), (1, .int (l1 + (1 : Int32)))]) ⟨rfl, rfl, trivial⟩ (ih (l1 + (1 : Int32)) _ _ h)
        · replace h := Ok_t c11 h
          refine ev_aload_n (pc' := 190) m_175 rfl rfl rfl (ev_aload_n (pc' := 191) m_175 rfl rfl rfl (tr_get (pc' := 194) (v := .ref 106) m_175 rfl rfl ts_o87 rfl rfl rfl (ev_iload_n (pc' := 195) m_175 rfl rfl rfl (tr_lald (pc' := 196) m_175 rfl rfl rfl g4 rfl ?_))))
          refine tr_ci (pc' := 199) m_175 rfl rfl rfl m_190 rfl rfl rfl rfl (tr_rcv ts_o87 rfl) rfl rfl (cR_findDefinition_ok (gB x3_s 106 l1.toNatClampNeg) _ _ (Ok_b h)) (fun x7_ x7_s h => ?_)
          refine ev_istore_n (pc' := 200) m_175 rfl rfl rfl rfl (ev_iload_n (pc' := 201) m_175 rfl rfl rfl (ev_iconst (pc' := 202) (x := -1) m_175 rfl rfl rfl ?_))
          refine ev_icmp_eq (t := 220) (e := 205) m_175 rfl rfl rfl (fun c10 => ?_) (fun c10 => ?_)
          · replace h := Ok_t c10 h
            exact am_Ev.sub (L := [(0, .ref 87), (1, .int (l1)), (2, .int (x7_))]) ⟨rfl, rfl, rfl, trivial⟩ (cR_load_220_ok (cR_load_163 n) ih l1 x7_ _ _ h)
          · replace h := Ok_f c10 h
            refine ev_aload_n (pc' := 206) m_175 rfl rfl rfl (tr_get (pc' := 209) (v := .ref 96) m_175 rfl rfl ts_o87 rfl rfl rfl (ev_iload_n (pc' := 210) m_175 rfl rfl rfl ?_))
            obtain ⟨g8, h⟩ := Ok_g h
            refine tr_iald (pc' := 211) m_175 rfl rfl rfl g8 rfl (ev_aload_n (pc' := 212) m_175 rfl rfl rfl (tr_get (pc' := 215) (v := .ref 105) m_175 rfl rfl ts_o87 rfl rfl rfl (ev_iload_n (pc' := 216) m_175 rfl rfl rfl (tr_iald (pc' := 217) m_175 rfl rfl rfl g4 rfl ?_))))
            refine ev_icmp_eq (t := 232) (e := 220) m_175 rfl rfl rfl (fun c9 => ?_) (fun c9 => ?_)
            · replace h := Ok_t c9 h
              refine ev_aload_n (pc' := 233) m_175 rfl rfl rfl (tr_get (pc' := 236) (v := .ref 100) m_175 rfl rfl ts_o87 rfl rfl rfl (ev_iload_n (pc' := 237) m_175 rfl rfl rfl (ev_iload_n (pc' := 238) m_175 rfl rfl rfl (tr_iast (pc' := 239) m_175 rfl rfl rfl g4 rfl (ev_iinc (pc' := 242) (z := 1) m_175 rfl rfl rfl rfl rfl rfl (ev_goto (pc' := 163) m_175 rfl rfl ?_))))))
              exact am_Ev.sub (L := [(0, .ref 87), (1, .int (l1 + (1 : Int32)))]) ⟨rfl, rfl, trivial⟩ (ih (l1 + (1 : Int32)) _ _ h)
            · replace h := Ok_f c9 h
              exact am_Ev.sub (L := [(0, .ref 87), (1, .int (l1)), (2, .int (x7_))]) ⟨rfl, rfl, rfl, trivial⟩ (cR_load_220_ok (cR_load_163 n) ih l1 x7_ _ _ h)
def cR_load_108 (k74 : ts → Option (Int32 × ts)) (l1 : Int32) (t1 : Int32) (s : ts) : Option (Int32 × ts) := (cR_need t1 ((2 : Int32)) s).bind (fun s2 => (if l1 = ((0 : Int32)) then (cR_takeResource s2).bind (fun s20 => k74 s20) else (if l1 = ((1 : Int32)) then (cR_takeStore s2).bind (fun s16 => k74 s16) else (if l1 = ((2 : Int32)) then (cR_takeNumbers s2).bind (fun s12 => k74 s12) else (cR_good s2).bind (fun x6 => (if x6.1 = ((0 : Int32)) then k74 x6.2 else (cR_takeProcess x6.2).bind (fun s8 => k74 s8)))))))
set_option maxRecDepth 20000 in
theorem cR_load_108_ok {d : Nat} (k74 : ts → Option (Int32 × ts)) (hk74 : ∀ (s : ts) (Q : Int32 × ts → Prop), Ok (k74 s) Q → am_Ev (d + 11) 175 (74, [(0, .ref 87)], []) (lay s) (tq_i Q)) (l1 : Int32) (t1 : Int32) (s : ts) (Q : Int32 × ts → Prop) (h : Ok (cR_load_108 k74 l1 t1 s) Q) : am_Ev (d + 11) 175 (108, [(0, .ref 87), (1, .int (l1))], [.int (t1), .ref 87]) (lay s) (tq_i Q) := by
  unfold cR_load_108 at h
  refine ev_iconst (pc' := 109) (x := 2) m_175 rfl rfl rfl ?_
  refine tr_cv (pc' := 112) m_175 rfl rfl rfl m_183 rfl rfl rfl rfl (tr_rcv ts_o87 rfl) rfl rfl (cR_need_ok t1 ((2 : Int32)) _ _ (Ok_b h)) (fun s2 h => ?_)
  refine ev_iload_n (pc' := 113) m_175 rfl rfl rfl ?_
  refine ev_if_ne (t := 123) (e := 116) m_175 rfl rfl rfl (fun c22 => ?_) (fun c22 => ?_)
  · replace h := Ok_f c22 h
    refine ev_iload_n (pc' := 124) m_175 rfl rfl rfl (ev_iconst (pc' := 125) (x := 1) m_175 rfl rfl rfl ?_)
    refine ev_icmp_ne (t := 135) (e := 128) m_175 rfl rfl rfl (fun c18 => ?_) (fun c18 => ?_)
    · replace h := Ok_f c18 h
      refine ev_iload_n (pc' := 136) m_175 rfl rfl rfl (ev_iconst (pc' := 137) (x := 2) m_175 rfl rfl rfl ?_)
      refine ev_icmp_ne (t := 147) (e := 140) m_175 rfl rfl rfl (fun c14 => ?_) (fun c14 => ?_)
      · replace h := Ok_f c14 h
        refine ev_aload_n (pc' := 148) m_175 rfl rfl rfl ?_
        refine tr_cz (pc' := 151) m_175 rfl rfl rfl m_177 rfl rfl rfl rfl rfl (tr_rcv ts_o87 rfl) rfl rfl (cR_good_ok _ _ (Ok_b h)) (fun x6_ x6_s h4 h => ?_)
        refine ev_if_eq (t := 158) (e := 154) m_175 rfl rfl rfl (fun c10 => ?_) (fun c10 => ?_)
        · replace h := Ok_t c10 h
          refine ev_goto (pc' := 74) m_175 rfl rfl ?_
          exact am_Ev.sub (L := [(0, .ref 87)]) ⟨rfl, trivial⟩ (hk74 _ _ h)
        · replace h := Ok_f c10 h
          refine ev_aload_n (pc' := 155) m_175 rfl rfl rfl ?_
          refine tr_cv (pc' := 158) m_175 rfl rfl rfl m_197 rfl rfl rfl rfl (tr_rcv ts_o87 rfl) rfl rfl (cR_takeProcess_ok _ _ (Ok_b h)) (fun s8 h => ?_)
          refine ev_goto (pc' := 74) m_175 rfl rfl ?_
          exact am_Ev.sub (L := [(0, .ref 87)]) ⟨rfl, trivial⟩ (hk74 _ _ h)
      · replace h := Ok_t c14 h
        refine ev_aload_n (pc' := 141) m_175 rfl rfl rfl ?_
        refine tr_cv (pc' := 144) m_175 rfl rfl rfl m_196 rfl rfl rfl rfl (tr_rcv ts_o87 rfl) rfl rfl (cR_takeNumbers_ok _ _ (Ok_b h)) (fun s12 h => ?_)
        refine ev_goto (pc' := 158) m_175 rfl rfl (ev_goto (pc' := 74) m_175 rfl rfl ?_)
        exact am_Ev.sub (L := [(0, .ref 87)]) ⟨rfl, trivial⟩ (hk74 _ _ h)
    · replace h := Ok_t c18 h
      refine ev_aload_n (pc' := 129) m_175 rfl rfl rfl ?_
      refine tr_cv (pc' := 132) m_175 rfl rfl rfl m_195 rfl rfl rfl rfl (tr_rcv ts_o87 rfl) rfl rfl (cR_takeStore_ok _ _ (Ok_b h)) (fun s16 h => ?_)
      refine ev_goto (pc' := 158) m_175 rfl rfl (ev_goto (pc' := 74) m_175 rfl rfl ?_)
      exact am_Ev.sub (L := [(0, .ref 87)]) ⟨rfl, trivial⟩ (hk74 _ _ h)
  · replace h := Ok_t c22 h
    refine ev_aload_n (pc' := 117) m_175 rfl rfl rfl ?_
    refine tr_cv (pc' := 120) m_175 rfl rfl rfl m_186 rfl rfl rfl rfl (tr_rcv ts_o87 rfl) rfl rfl (cR_takeResource_ok _ _ (Ok_b h)) (fun s20 h => ?_)
    refine ev_goto (pc' := 158) m_175 rfl rfl (ev_goto (pc' := 74) m_175 rfl rfl ?_)
    exact am_Ev.sub (L := [(0, .ref 87)]) ⟨rfl, trivial⟩ (hk74 _ _ h)
def cR_load_74_b (kk : ts → Option (Int32 × ts)) (s : ts) : Option (Int32 × ts) := (cR_good s).bind (fun x3 => (if x3.1 = ((0 : Int32)) then cR_load_163 tm_N ((0 : Int32)) x3.2 else (if (gI x3.2 1106 0) = ((0 : Int32)) then cR_load_163 tm_N ((0 : Int32)) x3.2 else (cR_reserved x3.2).bind (fun x6 => (if x6.1 < ((0 : Int32)) then cR_load_108 kk x6.1 ((0 : Int32)) x6.2 else (if ((3 : Int32)) < x6.1 then cR_load_108 kk x6.1 ((0 : Int32)) x6.2 else cR_load_108 kk x6.1 ((1 : Int32)) x6.2))))))
def cR_load_74 : Nat → ts → Option (Int32 × ts)
  | 0, _ => none
  | n + 1, s => cR_load_74_b (cR_load_74 n) s
set_option maxRecDepth 20000 in
theorem cR_load_74_ok {d : Nat} : ∀ (n : Nat) (s : ts) (Q : Int32 × ts → Prop), Ok (cR_load_74 n s) Q → am_Ev (d + 11) 175 (74, [(0, .ref 87)], []) (lay s) (tq_i Q) := by
  intro n
  induction n with
  | zero => intro s Q h; exact Ok_n h
  | succ n ih =>
    intro s Q h
    rw [cR_load_74.eq_2] at h
    unfold cR_load_74_b at h
    refine ev_aload_n (pc' := 75) m_175 rfl rfl rfl ?_
    refine tr_cz (pc' := 78) m_175 rfl rfl rfl m_177 rfl rfl rfl rfl rfl (tr_rcv ts_o87 rfl) rfl rfl (cR_good_ok _ _ (Ok_b h)) (fun x3_ x3_s h1 h => ?_)
    refine ev_if_eq (t := 161) (e := 81) m_175 rfl rfl rfl (fun c10 => ?_) (fun c10 => ?_)
    · replace h := Ok_t c10 h
      refine ev_iconst (pc' := 162) (x := 0) m_175 rfl rfl rfl (ev_istore_n (pc' := 163) m_175 rfl rfl rfl rfl ?_)
      exact am_Ev.sub (L := [(0, .ref 87), (1, .int ((0 : Int32)))]) ⟨rfl, rfl, trivial⟩ (cR_load_163_ok tm_N ((0 : Int32)) _ _ h)
    · replace h := Ok_f c10 h
      refine ev_aload_n (pc' := 82) m_175 rfl rfl rfl (tr_get (pc' := 85) (v := .int (gI _ 1106 _)) m_175 rfl rfl ts_o87 rfl rfl rfl ?_)
      refine ev_if_eq (t := 161) (e := 88) m_175 rfl rfl rfl (fun c9 => ?_) (fun c9 => ?_)
      · replace h := Ok_t c9 h
        refine ev_iconst (pc' := 162) (x := 0) m_175 rfl rfl rfl (ev_istore_n (pc' := 163) m_175 rfl rfl rfl rfl ?_)
        exact am_Ev.sub (L := [(0, .ref 87), (1, .int ((0 : Int32)))]) ⟨rfl, rfl, trivial⟩ (cR_load_163_ok tm_N ((0 : Int32)) _ _ h)
      · replace h := Ok_f c9 h
        refine ev_aload_n (pc' := 89) m_175 rfl rfl rfl ?_
        refine tr_ci (pc' := 92) m_175 rfl rfl rfl m_185 rfl rfl rfl rfl (tr_rcv ts_o87 rfl) rfl rfl (cR_reserved_ok _ _ (Ok_b h)) (fun x6_ x6_s h => ?_)
        refine ev_istore_n (pc' := 93) m_175 rfl rfl rfl rfl (ev_aload_n (pc' := 94) m_175 rfl rfl rfl (ev_iload_n (pc' := 95) m_175 rfl rfl rfl ?_))
        refine ev_if_lt (t := 107) (e := 98) m_175 rfl rfl rfl (fun c8 => ?_) (fun c8 => ?_)
        · replace h := Ok_t c8 h
          refine ev_iconst (pc' := 108) (x := 0) m_175 rfl rfl rfl ?_
          exact am_Ev.sub (L := [(0, .ref 87), (1, .int (x6_))]) ⟨rfl, rfl, trivial⟩ (cR_load_108_ok (cR_load_74 n) ih x6_ ((0 : Int32)) _ _ h)
        · replace h := Ok_f c8 h
          refine ev_iload_n (pc' := 99) m_175 rfl rfl rfl (ev_iconst (pc' := 100) (x := 3) m_175 rfl rfl rfl ?_)
          refine ev_icmp_gt (t := 107) (e := 103) m_175 rfl rfl rfl (fun c7 => ?_) (fun c7 => ?_)
          · replace h := Ok_t c7 h
            refine ev_iconst (pc' := 108) (x := 0) m_175 rfl rfl rfl ?_
            exact am_Ev.sub (L := [(0, .ref 87), (1, .int (x6_))]) ⟨rfl, rfl, trivial⟩ (cR_load_108_ok (cR_load_74 n) ih x6_ ((0 : Int32)) _ _ h)
          · replace h := Ok_f c7 h
            refine ev_iconst (pc' := 104) (x := 1) m_175 rfl rfl rfl (ev_goto (pc' := 108) m_175 rfl rfl ?_)
            exact am_Ev.sub (L := [(0, .ref 87), (1, .int (x6_))]) ⟨rfl, rfl, trivial⟩ (cR_load_108_ok (cR_load_74 n) ih x6_ ((1 : Int32)) _ _ h)
def cR_load (s : ts) : Option (Int32 × ts) := (cR_next (wI (wI (wI (wI (wI (wI (wI (wI (wI (wI (wI (wI (wI (wI s 1110 0 ((0 : Int32))) 1113 0 ((0 : Int32))) 1117 0 ((0 : Int32))) 1119 0 ((0 : Int32))) 1125 0 ((0 : Int32))) 1126 0 ((0 : Int32))) 1139 0 ((0 : Int32))) 1142 0 ((0 : Int32))) 1123 0 ((0 : Int32))) 1103 0 ((0 : Int32))) 1104 0 ((-1 : Int32))) 1102 0 ((0 : Int32))) 1105 0 ((0 : Int32))) 1106 0 ((0 : Int32)))).bind (fun s2 => cR_load_74 tm_N s2)
set_option maxRecDepth 20000 in
theorem cR_load_ok {d : Nat} (s : ts) (Q : Int32 × ts → Prop) (h : Ok (cR_load s) Q) : am_Ev (d + 11) 175 (0, [(0, .ref 87)], []) (lay s) (tq_i Q) := by
  unfold cR_load at h
  refine ev_aload_n (pc' := 1) m_175 rfl rfl rfl (ev_iconst (pc' := 2) (x := 0) m_175 rfl rfl rfl (tr_pI (pc' := 5) (f := 1110) m_175 rfl rfl rfl ts_o87 rfl rfl rfl rfl (ev_aload_n (pc' := 6) m_175 rfl rfl rfl (ev_iconst (pc' := 7) (x := 0) m_175 rfl rfl rfl (tr_pI (pc' := 10) (f := 1113) m_175 rfl rfl rfl ts_o87 rfl rfl rfl rfl (ev_aload_n (pc' := 11) m_175 rfl rfl rfl (ev_iconst (pc' := 12) (x := 0) m_175 rfl rfl rfl ?_)))))))
  refine tr_pI (pc' := 15) (f := 1117) m_175 rfl rfl rfl ts_o87 rfl rfl rfl rfl (ev_aload_n (pc' := 16) m_175 rfl rfl rfl (ev_iconst (pc' := 17) (x := 0) m_175 rfl rfl rfl (tr_pI (pc' := 20) (f := 1119) m_175 rfl rfl rfl ts_o87 rfl rfl rfl rfl (ev_aload_n (pc' := 21) m_175 rfl rfl rfl (ev_iconst (pc' := 22) (x := 0) m_175 rfl rfl rfl (tr_pI (pc' := 25) (f := 1125) m_175 rfl rfl rfl ts_o87 rfl rfl rfl rfl (ev_aload_n (pc' := 26) m_175 rfl rfl rfl ?_)))))))
  refine ev_iconst (pc' := 27) (x := 0) m_175 rfl rfl rfl (tr_pI (pc' := 30) (f := 1126) m_175 rfl rfl rfl ts_o87 rfl rfl rfl rfl (ev_aload_n (pc' := 31) m_175 rfl rfl rfl (ev_iconst (pc' := 32) (x := 0) m_175 rfl rfl rfl (tr_pI (pc' := 35) (f := 1139) m_175 rfl rfl rfl ts_o87 rfl rfl rfl rfl (ev_aload_n (pc' := 36) m_175 rfl rfl rfl (ev_iconst (pc' := 37) (x := 0) m_175 rfl rfl rfl (tr_pI (pc' := 40) (f := 1142) m_175 rfl rfl rfl ts_o87 rfl rfl rfl rfl ?_)))))))
  refine ev_aload_n (pc' := 41) m_175 rfl rfl rfl (ev_iconst (pc' := 42) (x := 0) m_175 rfl rfl rfl (tr_pI (pc' := 45) (f := 1123) m_175 rfl rfl rfl ts_o87 rfl rfl rfl rfl (ev_aload_n (pc' := 46) m_175 rfl rfl rfl (ev_iconst (pc' := 47) (x := 0) m_175 rfl rfl rfl (tr_pI (pc' := 50) (f := 1103) m_175 rfl rfl rfl ts_o87 rfl rfl rfl rfl (ev_aload_n (pc' := 51) m_175 rfl rfl rfl (ev_iconst (pc' := 52) (x := -1) m_175 rfl rfl rfl ?_)))))))
  refine tr_pI (pc' := 55) (f := 1104) m_175 rfl rfl rfl ts_o87 rfl rfl rfl rfl (ev_aload_n (pc' := 56) m_175 rfl rfl rfl (ev_iconst (pc' := 57) (x := 0) m_175 rfl rfl rfl (tr_pZ (pc' := 60) (f := 1102) m_175 rfl rfl rfl ts_o87 rfl rfl (Or.inl rfl) rfl rfl (ev_aload_n (pc' := 61) m_175 rfl rfl rfl (ev_iconst (pc' := 62) (x := 0) m_175 rfl rfl rfl (tr_pI (pc' := 65) (f := 1105) m_175 rfl rfl rfl ts_o87 rfl rfl rfl rfl (ev_aload_n (pc' := 66) m_175 rfl rfl rfl ?_)))))))
  refine ev_iconst (pc' := 67) (x := 0) m_175 rfl rfl rfl (tr_pI (pc' := 70) (f := 1106) m_175 rfl rfl rfl ts_o87 rfl rfl rfl rfl (ev_aload_n (pc' := 71) m_175 rfl rfl rfl ?_))
  refine tr_cv (pc' := 74) m_175 rfl rfl rfl m_176 rfl rfl rfl rfl (tr_rcv ts_o87 rfl) rfl rfl (cR_next_ok _ _ (Ok_b h)) (fun s2 h => ?_)
  exact am_Ev.sub (L := [(0, .ref 87)]) ⟨rfl, trivial⟩ (cR_load_74_ok tm_N _ _ h)
def cW_changeSeed (l1 : Int32) (s : ts) : Option (Int32 × ts) := some (gI s 801 0, wI s 801 0 l1)
set_option maxRecDepth 20000 in
theorem cW_changeSeed_ok {d : Nat} (l1 : Int32) (s : ts) (Q : Int32 × ts → Prop) (h : Ok (cW_changeSeed l1 s) Q) : am_Ev (d + 0) 93 (0, [(0, .ref 35), (1, .int (l1))], []) (lay s) (tq_i Q) := by
  unfold cW_changeSeed at h
  refine ev_aload_n (pc' := 1) m_93 rfl rfl rfl (tr_get (pc' := 4) (v := .int (gI _ 801 _)) m_93 rfl rfl ts_o35 rfl rfl rfl (ev_istore_n (pc' := 5) m_93 rfl rfl rfl rfl (ev_aload_n (pc' := 6) m_93 rfl rfl rfl (ev_iload_n (pc' := 7) m_93 rfl rfl rfl (tr_pI (pc' := 10) (f := 801) m_93 rfl rfl rfl ts_o35 rfl rfl rfl rfl (ev_iload_n (pc' := 11) m_93 rfl rfl rfl ?_))))))
  exact tr_ri m_93 rfl rfl (Ok_s h)
def cX_seed (l1 : Int32) (s : ts) : Option (Int32 × ts) := (if ((0 : Int32)) ≤ l1 then (cW_changeSeed l1 s).bind (fun x3 => some (x3.1, x3.2)) else some ((-1 : Int32), s))
set_option maxRecDepth 20000 in
theorem cX_seed_ok {d : Nat} (l1 : Int32) (s : ts) (Q : Int32 × ts → Prop) (h : Ok (cX_seed l1 s) Q) : am_Ev (d + 1) 92 (0, [(0, .ref 5), (1, .int (l1))], []) (lay s) (tq_i Q) := by
  unfold cX_seed at h
  refine ev_iload_n (pc' := 1) m_92 rfl rfl rfl ?_
  refine ev_if_ge (t := 8) (e := 4) m_92 rfl rfl rfl (fun c4 => ?_) (fun c4 => ?_)
  · replace h := Ok_t c4 h
    refine ev_aload_n (pc' := 9) m_92 rfl rfl rfl (tr_get (pc' := 12) (v := .ref 34) m_92 rfl rfl ts_o5 rfl rfl rfl (tr_get (pc' := 15) (v := .ref 35) m_92 rfl rfl ts_o34 rfl rfl rfl (ev_iload_n (pc' := 16) m_92 rfl rfl rfl ?_)))
    refine tr_ci (pc' := 19) m_92 rfl rfl rfl m_93 rfl rfl rfl rfl (tr_rcv ts_o35 rfl) rfl rfl (cW_changeSeed_ok l1 _ _ (Ok_b h)) (fun x3_ x3_s h => ?_)
    exact tr_ri m_92 rfl rfl (Ok_s h)
  · replace h := Ok_f c4 h
    refine ev_iconst (pc' := 5) (x := -1) m_92 rfl rfl rfl (ev_goto (pc' := 19) m_92 rfl rfl ?_)
    exact tr_ri m_92 rfl rfl (Ok_s h)
def cR_seed (l1 : Int32) (s : ts) : Option (Int32 × ts) := (if ((0 : Int32)) ≤ l1 then some (gI s 1158 0, wI s 1158 0 l1) else some ((-1 : Int32), s))
set_option maxRecDepth 20000 in
theorem cR_seed_ok {d : Nat} (l1 : Int32) (s : ts) (Q : Int32 × ts → Prop) (h : Ok (cR_seed l1 s) Q) : am_Ev (d + 0) 218 (0, [(0, .ref 87), (1, .int (l1))], []) (lay s) (tq_i Q) := by
  unfold cR_seed at h
  refine ev_iload_n (pc' := 1) m_218 rfl rfl rfl ?_
  refine ev_if_ge (t := 6) (e := 4) m_218 rfl rfl rfl (fun c1 => ?_) (fun c1 => ?_)
  · replace h := Ok_t c1 h
    refine ev_aload_n (pc' := 7) m_218 rfl rfl rfl (tr_get (pc' := 10) (v := .int (gI _ 1158 _)) m_218 rfl rfl ts_o87 rfl rfl rfl (ev_istore_n (pc' := 11) m_218 rfl rfl rfl rfl (ev_aload_n (pc' := 12) m_218 rfl rfl rfl (ev_iload_n (pc' := 13) m_218 rfl rfl rfl (tr_pI (pc' := 16) (f := 1158) m_218 rfl rfl rfl ts_o87 rfl rfl rfl rfl (ev_iload_n (pc' := 17) m_218 rfl rfl rfl ?_))))))
    exact tr_ri m_218 rfl rfl (Ok_s h)
  · replace h := Ok_f c1 h
    refine ev_iconst (pc' := 5) (x := -1) m_218 rfl rfl rfl ?_
    exact tr_ri m_218 rfl rfl (Ok_s h)
def cO_isFull (s : ts) : Option (Int32 × ts) := (if (gI s 904 0) < ((300 : Int32)) then some ((0 : Int32), s) else some ((1 : Int32), s))
set_option maxRecDepth 20000 in
theorem cO_isFull_ok {d : Nat} (s : ts) (Q : Int32 × ts → Prop) (h : Ok (cO_isFull s) Q) : am_Ev (d + 0) 96 (0, [(0, .ref 81)], []) (lay s) (tq_i Q) := by
  unfold cO_isFull at h
  refine ev_aload_n (pc' := 1) m_96 rfl rfl rfl (tr_get (pc' := 4) (v := .int (gI _ 904 _)) m_96 rfl rfl ts_o81 rfl rfl rfl (ev_sipush (pc' := 7) (x := 300) m_96 rfl rfl rfl ?_))
  refine ev_icmp_lt (t := 14) (e := 10) m_96 rfl rfl rfl (fun c1 => ?_) (fun c1 => ?_)
  · replace h := Ok_t c1 h
    refine ev_iconst (pc' := 15) (x := 0) m_96 rfl rfl rfl ?_
    exact tr_rz m_96 rfl rfl (Or.inl rfl) (Ok_s h)
  · replace h := Ok_f c1 h
    refine ev_iconst (pc' := 11) (x := 1) m_96 rfl rfl rfl (ev_goto (pc' := 15) m_96 rfl rfl ?_)
    exact tr_rz m_96 rfl rfl (Or.inr rfl) (Ok_s h)
def cH_admits (l1 : Int32) (s : ts) : Option (Int32 × ts) := (match gR s 1003 0 with
  | none => (cG_isDefinition l1 s).bind (fun x5 => (if x5.1 = ((0 : Int32)) then some ((0 : Int32), x5.2) else (cO_isFull x5.2).bind (fun x8 => (if x8.1 = ((0 : Int32)) then some ((1 : Int32), x8.2) else some ((0 : Int32), x8.2)))))
  | some r1 => some ((0 : Int32), s))
set_option maxRecDepth 20000 in
theorem cH_admits_ok {d : Nat} (l1 : Int32) (s : ts) (Q : Int32 × ts → Prop) (h : Ok (cH_admits l1 s) Q) : am_Ev (d + 1) 95 (0, [(0, .ref 34), (1, .int (l1))], []) (lay s) (tq_i Q) := by
  unfold cH_admits at h
  refine ev_aload_n (pc' := 1) m_95 rfl rfl rfl ?_
  cases e2 : gR s 1003 0 with
  | none =>
    rw [e2] at h
    dsimp only at h
    refine tr_getN (pc' := 4) (f := 1003) (g := pB) m_95 rfl rfl ts_o34 rfl rfl e2 rfl ?_
    refine ev_nnlN (e := 7) m_95 rfl rfl (ev_aload_n (pc' := 8) m_95 rfl rfl rfl (tr_get (pc' := 11) (v := .ref 12) m_95 rfl rfl ts_o34 rfl rfl rfl (ev_iload_n (pc' := 12) m_95 rfl rfl rfl ?_)))
    refine tr_cz (pc' := 15) m_95 rfl rfl rfl m_54 rfl rfl rfl rfl rfl (tr_rcv ts_o12 rfl) rfl rfl (cG_isDefinition_ok l1 _ _ (Ok_b h)) (fun x5_ x5_s h3 h => ?_)
    refine ev_if_eq (t := 32) (e := 18) m_95 rfl rfl rfl (fun c10 => ?_) (fun c10 => ?_)
    · replace h := Ok_t c10 h
      refine ev_iconst (pc' := 33) (x := 0) m_95 rfl rfl rfl ?_
      exact tr_rz m_95 rfl rfl (Or.inl rfl) (Ok_s h)
    · replace h := Ok_f c10 h
      refine ev_aload_n (pc' := 19) m_95 rfl rfl rfl (tr_get (pc' := 22) (v := .ref 81) m_95 rfl rfl ts_o34 rfl rfl rfl ?_)
      refine tr_cz (pc' := 25) m_95 rfl rfl rfl m_96 rfl rfl rfl rfl rfl (tr_rcv ts_o81 rfl) rfl rfl (cO_isFull_ok _ _ (Ok_b h)) (fun x8_ x8_s h6 h => ?_)
      refine ev_if_ne (t := 32) (e := 28) m_95 rfl rfl rfl (fun c9 => ?_) (fun c9 => ?_)
      · replace h := Ok_f c9 h
        refine ev_iconst (pc' := 33) (x := 0) m_95 rfl rfl rfl ?_
        exact tr_rz m_95 rfl rfl (Or.inl rfl) (Ok_s h)
      · replace h := Ok_t c9 h
        refine ev_iconst (pc' := 29) (x := 1) m_95 rfl rfl rfl (ev_goto (pc' := 33) m_95 rfl rfl ?_)
        exact tr_rz m_95 rfl rfl (Or.inr rfl) (Ok_s h)
  | some r1 =>
    rw [e2] at h
    dsimp only at h
    refine tr_getS (pc' := 4) (f := 1003) (g := pB) m_95 rfl rfl ts_o34 rfl rfl e2 rfl ?_
    refine ev_nnlY (t := 32) m_95 rfl rfl (ev_iconst (pc' := 33) (x := 0) m_95 rfl rfl rfl ?_)
    exact tr_rz m_95 rfl rfl (Or.inl rfl) (Ok_s h)
def cP_begin_44_b (kk : Nat → Int32 → ts → Option (ts)) (l0 : Nat) (l3 : Int32) (s : ts) : Option (ts) := (if ((8 : Int32)) ≤ l3 then (if l0 < gM s then some (wI (wR (wR s 507 l0 none) 509 l0 none) 511 l0 ((-2 : Int32))) else none) else (if l0 < gM s then (if am_idx l3 8 = true then kk l0 (l3 + (1 : Int32)) (wU s l0 l3.toNatClampNeg ((0 : Int32))) else none) else none))
def cP_begin_44 : Nat → Nat → Int32 → ts → Option (ts)
  | 0, _, _, _ => none
  | n + 1, l0, l3, s => cP_begin_44_b (cP_begin_44 n) l0 l3 s
set_option maxRecDepth 20000 in
theorem cP_begin_44_ok {d : Nat} : ∀ (n : Nat) (l0 : Nat) (l3 : Int32) (s : ts) (Q : ts → Prop), Ok (cP_begin_44 n l0 l3 s) Q → am_Ev (d + 0) 101 (44, [(0, .ref (pB l0)), (3, .int (l3))], []) (lay s) (tq_v Q) := by
  intro n
  induction n with
  | zero => intro l0 l3 s Q h; exact Ok_n h
  | succ n ih =>
    intro l0 l3 s Q h
    rw [cP_begin_44.eq_2] at h
    unfold cP_begin_44_b at h
    refine ev_iload_n (pc' := 45) m_101 rfl rfl rfl (ev_bipush (pc' := 47) (x := 8) m_101 rfl rfl rfl ?_)
    refine ev_icmp_ge (t := 63) (e := 50) m_101 rfl rfl rfl (fun c4 => ?_) (fun c4 => ?_)
    · replace h := Ok_t c4 h
      refine ev_aload_n (pc' := 64) m_101 rfl rfl rfl (ev_null (pc' := 65) m_101 rfl rfl ?_)
      obtain ⟨g1, h⟩ := Ok_g h
      refine tr_pN (pc' := 68) (f := 507) m_101 rfl rfl rfl (ts_obB g1) rfl rfl rfl rfl rfl (ev_aload_n (pc' := 69) m_101 rfl rfl rfl (ev_null (pc' := 70) m_101 rfl rfl (tr_pN (pc' := 73) (f := 509) m_101 rfl rfl rfl (ts_obB g1) rfl rfl rfl rfl rfl (ev_aload_n (pc' := 74) m_101 rfl rfl rfl (ev_bipush (pc' := 76) (x := -2) m_101 rfl rfl rfl (tr_pI (pc' := 79) (f := 511) m_101 rfl rfl rfl (ts_obB g1) rfl rfl rfl rfl ?_))))))
      exact tr_rv m_101 rfl rfl (Ok_s h)
    · replace h := Ok_f c4 h
      refine ev_aload_n (pc' := 51) m_101 rfl rfl rfl ?_
      obtain ⟨g2, h⟩ := Ok_g h
      refine tr_get (pc' := 54) (v := .ref (pU l0)) m_101 rfl rfl (ts_obB g2) rfl rfl rfl (ev_iload_n (pc' := 55) m_101 rfl rfl rfl (ev_iconst (pc' := 56) (x := 0) m_101 rfl rfl rfl ?_))
      obtain ⟨g3, h⟩ := Ok_g h
      refine tr_uast (pc' := 57) m_101 rfl g2 g3 rfl (ev_iinc (pc' := 60) (z := 1) m_101 rfl rfl rfl rfl rfl rfl (ev_goto (pc' := 44) m_101 rfl rfl ?_))
      exact am_Ev.sub (L := [(0, .ref (pB l0)), (3, .int (l3 + (1 : Int32)))]) ⟨rfl, rfl, trivial⟩ (ih l0 (l3 + (1 : Int32)) _ _ h)
def cP_begin_23_b (kk : Nat → Int32 → ts → Option (ts)) (l0 : Nat) (l3 : Int32) (s : ts) : Option (ts) := (if ((8 : Int32)) ≤ l3 then cP_begin_44 tm_N l0 ((0 : Int32)) s else (if l0 < gM s then (if am_idx l3 8 = true then kk l0 (l3 + (1 : Int32)) (wV s l0 l3.toNatClampNeg ((0 : Int32))) else none) else none))
def cP_begin_23 : Nat → Nat → Int32 → ts → Option (ts)
  | 0, _, _, _ => none
  | n + 1, l0, l3, s => cP_begin_23_b (cP_begin_23 n) l0 l3 s
set_option maxRecDepth 20000 in
theorem cP_begin_23_ok {d : Nat} : ∀ (n : Nat) (l0 : Nat) (l3 : Int32) (s : ts) (Q : ts → Prop), Ok (cP_begin_23 n l0 l3 s) Q → am_Ev (d + 0) 101 (23, [(0, .ref (pB l0)), (3, .int (l3))], []) (lay s) (tq_v Q) := by
  intro n
  induction n with
  | zero => intro l0 l3 s Q h; exact Ok_n h
  | succ n ih =>
    intro l0 l3 s Q h
    rw [cP_begin_23.eq_2] at h
    unfold cP_begin_23_b at h
    refine ev_iload_n (pc' := 24) m_101 rfl rfl rfl (ev_bipush (pc' := 26) (x := 8) m_101 rfl rfl rfl ?_)
    refine ev_icmp_ge (t := 42) (e := 29) m_101 rfl rfl rfl (fun c3 => ?_) (fun c3 => ?_)
    · replace h := Ok_t c3 h
      refine ev_iconst (pc' := 43) (x := 0) m_101 rfl rfl rfl (ev_istore_n (pc' := 44) m_101 rfl rfl rfl rfl ?_)
      exact am_Ev.sub (L := [(0, .ref (pB l0)), (3, .int ((0 : Int32)))]) ⟨rfl, rfl, trivial⟩ (cP_begin_44_ok tm_N l0 ((0 : Int32)) _ _ h)
    · replace h := Ok_f c3 h
      refine ev_aload_n (pc' := 30) m_101 rfl rfl rfl ?_
      obtain ⟨g1, h⟩ := Ok_g h
      refine tr_get (pc' := 33) (v := .ref (pV l0)) m_101 rfl rfl (ts_obB g1) rfl rfl rfl (ev_iload_n (pc' := 34) m_101 rfl rfl rfl (ev_iconst (pc' := 35) (x := 0) m_101 rfl rfl rfl ?_))
      obtain ⟨g2, h⟩ := Ok_g h
      refine tr_vast (pc' := 36) m_101 rfl g1 g2 rfl (ev_iinc (pc' := 39) (z := 1) m_101 rfl rfl rfl rfl rfl rfl (ev_goto (pc' := 23) m_101 rfl rfl ?_))
      exact am_Ev.sub (L := [(0, .ref (pB l0)), (3, .int (l3 + (1 : Int32)))]) ⟨rfl, rfl, trivial⟩ (ih l0 (l3 + (1 : Int32)) _ _ h)
def cP_begin (l0 : Nat) (l1 : Int32) (l2 : Int32) (s : ts) : Option (ts) := (if l0 < gM s then cP_begin_23 tm_N l0 ((0 : Int32)) (wI (wI (wI (wI s 501 l0 l1) 502 l0 ((7 : Int32))) 503 l0 l2) 504 l0 ((0 : Int32))) else none)
set_option maxRecDepth 20000 in
theorem cP_begin_ok {d : Nat} (l0 : Nat) (l1 : Int32) (l2 : Int32) (s : ts) (Q : ts → Prop) (h : Ok (cP_begin l0 l1 l2 s) Q) : am_Ev (d + 0) 101 (0, [(0, .ref (pB l0)), (1, .int (l1)), (2, .int (l2))], []) (lay s) (tq_v Q) := by
  unfold cP_begin at h
  refine ev_aload_n (pc' := 1) m_101 rfl rfl rfl (ev_iload_n (pc' := 2) m_101 rfl rfl rfl ?_)
  obtain ⟨g1, h⟩ := Ok_g h
  refine tr_pI (pc' := 5) (f := 501) m_101 rfl rfl rfl (ts_obB g1) rfl rfl rfl rfl (ev_aload_n (pc' := 6) m_101 rfl rfl rfl (ev_bipush (pc' := 8) (x := 7) m_101 rfl rfl rfl (tr_pI (pc' := 11) (f := 502) m_101 rfl rfl rfl (ts_obB g1) rfl rfl rfl rfl (ev_aload_n (pc' := 12) m_101 rfl rfl rfl (ev_iload_n (pc' := 13) m_101 rfl rfl rfl (tr_pI (pc' := 16) (f := 503) m_101 rfl rfl rfl (ts_obB g1) rfl rfl rfl rfl (ev_aload_n (pc' := 17) m_101 rfl rfl rfl ?_)))))))
  refine ev_iconst (pc' := 18) (x := 0) m_101 rfl rfl rfl (tr_pI (pc' := 21) (f := 504) m_101 rfl rfl rfl (ts_obB g1) rfl rfl rfl rfl (ev_iconst (pc' := 22) (x := 0) m_101 rfl rfl rfl (ev_istore_n (pc' := 23) m_101 rfl rfl rfl rfl ?_)))
  exact am_Ev.sub (L := [(0, .ref (pB l0)), (3, .int ((0 : Int32)))]) ⟨rfl, rfl, trivial⟩ (cP_begin_23_ok tm_N l0 ((0 : Int32)) _ _ h)
def cO_add_45 (l1 : Int32) (l2 : Int32) (l3 : Nat) (s : ts) : Option (Option Nat × ts) := (if l3 < gM s then (cP_begin l3 l1 l2 s).bind (fun s3 => some (some l3, wI s3 904 0 ((gI s3 904 0) + ((1 : Int32))))) else none)
set_option maxRecDepth 20000 in
theorem cO_add_45_ok {d : Nat} (l1 : Int32) (l2 : Int32) (l3 : Nat) (s : ts) (Q : Option Nat × ts → Prop) (h : Ok (cO_add_45 l1 l2 l3 s) Q) : am_Ev (d + 3) 99 (45, [(0, .ref 81), (1, .int (l1)), (2, .int (l2)), (3, .ref (pB l3))], []) (lay s) (tq_r pB Q) := by
  unfold cO_add_45 at h
  refine ev_aload_n (pc' := 46) m_99 rfl rfl rfl (ev_iload_n (pc' := 47) m_99 rfl rfl rfl (ev_iload_n (pc' := 48) m_99 rfl rfl rfl ?_))
  obtain ⟨g1, h⟩ := Ok_g h
  refine tr_cv (pc' := 51) m_99 rfl rfl rfl m_101 rfl rfl rfl rfl (tr_rcv (ts_obB g1) rfl) rfl rfl (cP_begin_ok l3 l1 l2 _ _ (Ok_b h)) (fun s3 h => ?_)
  refine ev_aload_n (pc' := 52) m_99 rfl rfl rfl (ev_dup (pc' := 53) m_99 rfl rfl rfl (tr_get (pc' := 56) (v := .int (gI _ 904 _)) m_99 rfl rfl ts_o81 rfl rfl rfl (ev_iconst (pc' := 57) (x := 1) m_99 rfl rfl rfl (ev_iadd (pc' := 58) m_99 rfl rfl (tr_pI (pc' := 61) (f := 904) m_99 rfl rfl rfl ts_o81 rfl rfl rfl rfl (ev_aload_n (pc' := 62) m_99 rfl rfl rfl ?_))))))
  exact tr_rr m_99 rfl rfl (Ok_s h)
def cO_add (l1 : Int32) (l2 : Int32) (s : ts) : Option (Option Nat × ts) := (cO_isFull s).bind (fun x3 => (if x3.1 = ((0 : Int32)) then (if am_idx (gI x3.2 904 0) 300 = true then (if (gI x3.2 904 0).toNatClampNeg < gM x3.2 then cO_add_45 l1 l2 ((gI x3.2 904 0).toNatClampNeg) x3.2 else (if am_idx (gI x3.2 904 0) 300 = true ∧ (gI x3.2 904 0).toNatClampNeg = gM x3.2 then cO_add_45 l1 l2 (gM x3.2) (ts_mk x3.2) else none)) else none) else some (none, x3.2)))
set_option maxRecDepth 20000 in
theorem cO_add_ok {d : Nat} (l1 : Int32) (l2 : Int32) (s : ts) (Q : Option Nat × ts → Prop) (h : Ok (cO_add l1 l2 s) Q) : am_Ev (d + 3) 99 (0, [(0, .ref 81), (1, .int (l1)), (2, .int (l2))], []) (lay s) (tq_r pB Q) := by
  unfold cO_add at h
  refine ev_aload_n (pc' := 1) m_99 rfl rfl rfl ?_
  refine tr_cz (pc' := 4) m_99 rfl rfl rfl m_96 rfl rfl rfl rfl rfl (tr_rcv ts_o81 rfl) rfl rfl (cO_isFull_ok _ _ (Ok_b h)) (fun x3_ x3_s h1 h => ?_)
  refine ev_if_eq (t := 9) (e := 7) m_99 rfl rfl rfl (fun c8 => ?_) (fun c8 => ?_)
  · replace h := Ok_t c8 h
    refine ev_aload_n (pc' := 10) m_99 rfl rfl rfl (tr_get (pc' := 13) (v := .ref 82) m_99 rfl rfl ts_o81 rfl rfl rfl (ev_aload_n (pc' := 14) m_99 rfl rfl rfl (tr_get (pc' := 17) (v := .int (gI _ 904 _)) m_99 rfl rfl ts_o81 rfl rfl rfl ?_)))
    obtain ⟨g4, h⟩ := Ok_g h
    by_cases g5 : (gI x3_s 904 0).toNatClampNeg < gM x3_s
    · replace h := Ok_t g5 h
      refine tr_paldS (pc' := 18) m_99 rfl g4 g5 rfl ?_
      refine ev_astore_n (pc' := 19) m_99 rfl rfl rfl rfl (ev_aload_n (pc' := 20) m_99 rfl rfl rfl (ev_nnlY (t := 45) m_99 rfl rfl ?_))
      exact am_Ev.sub (L := [(0, .ref 81), (1, .int (l1)), (2, .int (l2)), (3, .ref (pB ((gI x3_s 904 0).toNatClampNeg)))]) ⟨rfl, rfl, rfl, rfl, trivial⟩ (cO_add_45_ok l1 l2 ((gI x3_s 904 0).toNatClampNeg) _ _ h)
    · replace h := Ok_f g5 h
      refine tr_paldN (pc' := 18) m_99 rfl g4 g5 rfl ?_
      refine ev_astore_nN (pc' := 19) m_99 rfl rfl rfl rfl (ev_aload_nN (pc' := 20) m_99 rfl rfl rfl (ev_nnlN (e := 23) m_99 rfl rfl ?_))
      obtain ⟨g6, h⟩ := Ok_g h
      refine tr_mk g6.1 g6.2 ?_
      have g7 : gM x3_s < gM (ts_mk x3_s) := ts_mk_lt
      exact am_Ev.sub (L := [(0, .ref 81), (1, .int (l1)), (2, .int (l2)), (3, .ref (pB (gM x3_s)))]) ⟨rfl, rfl, rfl, rfl, trivial⟩ (cO_add_45_ok l1 l2 (gM x3_s) _ _ h)
  · replace h := Ok_f c8 h
    refine ev_null (pc' := 8) m_99 rfl rfl ?_
    exact tr_rn m_99 rfl rfl (Ok_s h)
def cH_add (l1 : Int32) (s : ts) : Option (Option Nat × ts) := (cG_isDefinition l1 s).bind (fun x3 => (if x3.1 = ((0 : Int32)) then some (none, x3.2) else (if am_idx l1 12 = true then (cO_add l1 (gA x3.2 21 l1.toNatClampNeg) x3.2).bind (fun x7 => match x7.1 with
  | none => some (none, x7.2)
  | some q8 => some (some q8, x7.2)) else none)))
set_option maxRecDepth 20000 in
theorem cH_add_ok {d : Nat} (l1 : Int32) (s : ts) (Q : Option Nat × ts → Prop) (h : Ok (cH_add l1 s) Q) : am_Ev (d + 4) 98 (0, [(0, .ref 34), (1, .int (l1))], []) (lay s) (tq_r pB Q) := by
  unfold cH_add at h
  refine ev_aload_n (pc' := 1) m_98 rfl rfl rfl (tr_get (pc' := 4) (v := .ref 12) m_98 rfl rfl ts_o34 rfl rfl rfl (ev_iload_n (pc' := 5) m_98 rfl rfl rfl ?_))
  refine tr_cz (pc' := 8) m_98 rfl rfl rfl m_54 rfl rfl rfl rfl rfl (tr_rcv ts_o12 rfl) rfl rfl (cG_isDefinition_ok l1 _ _ (Ok_b h)) (fun x3_ x3_s h1 h => ?_)
  refine ev_if_eq (t := 31) (e := 11) m_98 rfl rfl rfl (fun c9 => ?_) (fun c9 => ?_)
  · replace h := Ok_t c9 h
    refine ev_null (pc' := 32) m_98 rfl rfl ?_
    exact tr_rn m_98 rfl rfl (Ok_s h)
  · replace h := Ok_f c9 h
    refine ev_aload_n (pc' := 12) m_98 rfl rfl rfl (tr_get (pc' := 15) (v := .ref 81) m_98 rfl rfl ts_o34 rfl rfl rfl (ev_iload_n (pc' := 16) m_98 rfl rfl rfl (ev_aload_n (pc' := 17) m_98 rfl rfl rfl (tr_get (pc' := 20) (v := .ref 12) m_98 rfl rfl ts_o34 rfl rfl rfl (tr_get (pc' := 23) (v := .ref 21) m_98 rfl rfl ts_o12 rfl rfl rfl (ev_iload_n (pc' := 24) m_98 rfl rfl rfl ?_))))))
    obtain ⟨g4, h⟩ := Ok_g h
    refine tr_iald (pc' := 25) m_98 rfl rfl rfl g4 rfl ?_
    refine tr_cr (pc' := 28) m_98 rfl rfl rfl m_99 rfl rfl rfl rfl (tr_rcv ts_o81 rfl) rfl rfl (cO_add_ok l1 (gA x3_s 21 l1.toNatClampNeg) _ _ (Ok_b h)) (fun x7_s h => ?_) (fun q8 x7_s h => ?_)
    · dsimp only at h
      refine ev_goto (pc' := 32) m_98 rfl rfl ?_
      exact tr_rn m_98 rfl rfl (Ok_s h)
    · dsimp only at h
      refine ev_goto (pc' := 32) m_98 rfl rfl ?_
      exact tr_rr m_98 rfl rfl (Ok_s h)
def cN_drop_49 (l0 : Nat) (l1 : Nat) (s : ts) : Option (ts) := (if l1 < gM s then (if l0 < 30 then some (wI (wR (wR s 509 l1 none) 507 l1 none) 601 l0 ((gI (wR (wR s 509 l1 none) 507 l1 none) 601 l0) - ((1 : Int32)))) else none) else none)
set_option maxRecDepth 20000 in
theorem cN_drop_49_ok {d : Nat} (l0 : Nat) (l1 : Nat) (s : ts) (Q : ts → Prop) (h : Ok (cN_drop_49 l0 l1 s) Q) : am_Ev (d + 0) 103 (49, [(0, .ref (pL l0)), (1, .ref (pB l1))], []) (lay s) (tq_v Q) := by
  unfold cN_drop_49 at h
  refine ev_aload_n (pc' := 50) m_103 rfl rfl rfl (ev_null (pc' := 51) m_103 rfl rfl ?_)
  obtain ⟨g1, h⟩ := Ok_g h
  refine tr_pN (pc' := 54) (f := 509) m_103 rfl rfl rfl (ts_obB g1) rfl rfl rfl rfl rfl (ev_aload_n (pc' := 55) m_103 rfl rfl rfl (ev_null (pc' := 56) m_103 rfl rfl (tr_pN (pc' := 59) (f := 507) m_103 rfl rfl rfl (ts_obB g1) rfl rfl rfl rfl rfl (ev_aload_n (pc' := 60) m_103 rfl rfl rfl (ev_dup (pc' := 61) m_103 rfl rfl rfl ?_)))))
  obtain ⟨g2, h⟩ := Ok_g h
  refine tr_get (pc' := 64) (v := .int (gI _ 601 _)) m_103 rfl rfl (ts_obL g2) rfl rfl rfl (ev_iconst (pc' := 65) (x := 1) m_103 rfl rfl rfl (ev_isub (pc' := 66) m_103 rfl rfl (tr_pI (pc' := 69) (f := 601) m_103 rfl rfl rfl (ts_obL g2) rfl rfl rfl rfl ?_)))
  exact tr_rv m_103 rfl rfl (Ok_s h)
def cN_drop_26 (l0 : Nat) (l1 : Nat) (l2 : Option Nat) (s : ts) : Option (ts) := (match l2 with
  | none => (if l1 < gM s then (match gR s 509 l1 with
  | none => (if l0 < 30 then cN_drop_49 l0 l1 (wR s 600 l0 none) else none)
  | some r2 => (if l0 < 30 then cN_drop_49 l0 l1 (wR s 600 l0 (some r2)) else none)) else none)
  | some l2 => (if l1 < gM s then (match gR s 509 l1 with
  | none => (if l2 < gM s then cN_drop_49 l0 l1 (wR s 509 l2 none) else none)
  | some r7 => (if l2 < gM s then cN_drop_49 l0 l1 (wR s 509 l2 (some r7)) else none)) else none))
set_option maxRecDepth 20000 in
theorem cN_drop_26_ok {d : Nat} (l0 : Nat) (l1 : Nat) (l2 : Option Nat) (s : ts) (Q : ts → Prop) (h : Ok (cN_drop_26 l0 l1 l2 s) Q) : am_Ev (d + 0) 103 (26, [(0, .ref (pL l0)), (1, .ref (pB l1)), (2, va_rf (l2.map pB))], []) (lay s) (tq_v Q) := by
  unfold cN_drop_26 at h
  cases l2 with
  | none =>
    dsimp only at h
    refine ev_aload_nN (pc' := 27) m_103 rfl rfl rfl (ev_nnlN (e := 30) m_103 rfl rfl (ev_aload_n (pc' := 31) m_103 rfl rfl rfl (ev_aload_n (pc' := 32) m_103 rfl rfl rfl ?_)))
    obtain ⟨g1, h⟩ := Ok_g h
    cases e3 : gR s 509 l1 with
    | none =>
      rw [e3] at h
      dsimp only at h
      refine tr_getN (pc' := 35) (f := 509) (g := pB) m_103 rfl rfl (ts_obB g1) rfl rfl e3 rfl ?_
      obtain ⟨g4, h⟩ := Ok_g h
      refine tr_pN (pc' := 38) (f := 600) m_103 rfl rfl rfl (ts_obL g4) rfl rfl rfl rfl rfl (ev_goto (pc' := 49) m_103 rfl rfl ?_)
      exact am_Ev.sub (L := [(0, .ref (pL l0)), (1, .ref (pB l1))]) ⟨rfl, rfl, trivial⟩ (cN_drop_49_ok l0 l1 _ _ h)
    | some r2 =>
      rw [e3] at h
      dsimp only at h
      refine tr_getS (pc' := 35) (f := 509) (g := pB) m_103 rfl rfl (ts_obB g1) rfl rfl e3 rfl ?_
      obtain ⟨g5, h⟩ := Ok_g h
      refine tr_pR (pc' := 38) (f := 600) (p := r2) m_103 rfl rfl rfl (ts_obL g5) rfl rfl rfl rfl rfl rfl (ev_goto (pc' := 49) m_103 rfl rfl ?_)
      exact am_Ev.sub (L := [(0, .ref (pL l0)), (1, .ref (pB l1))]) ⟨rfl, rfl, trivial⟩ (cN_drop_49_ok l0 l1 _ _ h)
  | some l2 =>
    dsimp only at h
    refine ev_aload_n (pc' := 27) m_103 rfl rfl rfl (ev_nnlY (t := 41) m_103 rfl rfl (ev_aload_n (pc' := 42) m_103 rfl rfl rfl (ev_aload_n (pc' := 43) m_103 rfl rfl rfl ?_)))
    obtain ⟨g6, h⟩ := Ok_g h
    cases e8 : gR s 509 l1 with
    | none =>
      rw [e8] at h
      dsimp only at h
      refine tr_getN (pc' := 46) (f := 509) (g := pB) m_103 rfl rfl (ts_obB g6) rfl rfl e8 rfl ?_
      obtain ⟨g9, h⟩ := Ok_g h
      refine tr_pN (pc' := 49) (f := 509) m_103 rfl rfl rfl (ts_obB g9) rfl rfl rfl rfl rfl ?_
      exact am_Ev.sub (L := [(0, .ref (pL l0)), (1, .ref (pB l1))]) ⟨rfl, rfl, trivial⟩ (cN_drop_49_ok l0 l1 _ _ h)
    | some r7 =>
      rw [e8] at h
      dsimp only at h
      refine tr_getS (pc' := 46) (f := 509) (g := pB) m_103 rfl rfl (ts_obB g6) rfl rfl e8 rfl ?_
      obtain ⟨g10, h⟩ := Ok_g h
      refine tr_pR (pc' := 49) (f := 509) (p := r7) m_103 rfl rfl rfl (ts_obB g10) rfl rfl rfl rfl rfl rfl ?_
      exact am_Ev.sub (L := [(0, .ref (pL l0)), (1, .ref (pB l1))]) ⟨rfl, rfl, trivial⟩ (cN_drop_49_ok l0 l1 _ _ h)
def cN_drop_7_b (kk : Nat → Nat → Option Nat → Option Nat → ts → Option (ts)) (l0 : Nat) (l1 : Nat) (l2 : Option Nat) (l3 : Option Nat) (s : ts) : Option (ts) := (match l2 with
  | none => (match l3 with
  | none => cN_drop_26 l0 l1 none s
  | some l3 => (if l3 = l1 then cN_drop_26 l0 l1 none s else (if l3 < gM s then (match gR s 509 l3 with
  | none => kk l0 l1 (some l3) none s
  | some r3 => kk l0 l1 (some l3) (some r3) s) else none)))
  | some l2 => (match l3 with
  | none => cN_drop_26 l0 l1 (some l2) s
  | some l3 => (if l3 = l1 then cN_drop_26 l0 l1 (some l2) s else (if l3 < gM s then (match gR s 509 l3 with
  | none => kk l0 l1 (some l3) none s
  | some r7 => kk l0 l1 (some l3) (some r7) s) else none))))
def cN_drop_7 : Nat → Nat → Nat → Option Nat → Option Nat → ts → Option (ts)
  | 0, _, _, _, _, _ => none
  | n + 1, l0, l1, l2, l3, s => cN_drop_7_b (cN_drop_7 n) l0 l1 l2 l3 s
set_option maxRecDepth 20000 in
theorem cN_drop_7_ok {d : Nat} : ∀ (n : Nat) (l0 : Nat) (l1 : Nat) (l2 : Option Nat) (l3 : Option Nat) (s : ts) (Q : ts → Prop), Ok (cN_drop_7 n l0 l1 l2 l3 s) Q → am_Ev (d + 0) 103 (7, [(0, .ref (pL l0)), (1, .ref (pB l1)), (2, va_rf (l2.map pB)), (3, va_rf (l3.map pB))], []) (lay s) (tq_v Q) := by
  intro n
  induction n with
  | zero => intro l0 l1 l2 l3 s Q h; exact Ok_n h
  | succ n ih =>
    intro l0 l1 l2 l3 s Q h
    rw [cN_drop_7.eq_2] at h
    unfold cN_drop_7_b at h
    cases l2 with
    | none =>
      dsimp only at h
      cases l3 with
      | none =>
        dsimp only at h
        refine ev_aload_nN (pc' := 8) m_103 rfl rfl rfl (ev_nulY (t := 26) m_103 rfl rfl ?_)
        exact am_Ev.sub (L := [(0, .ref (pL l0)), (1, .ref (pB l1)), (2, .null)]) ⟨rfl, rfl, rfl, trivial⟩ (cN_drop_26_ok l0 l1 none _ _ h)
      | some l3 =>
        dsimp only at h
        refine ev_aload_n (pc' := 8) m_103 rfl rfl rfl (ev_nulN (e := 11) m_103 rfl rfl (ev_aload_n (pc' := 12) m_103 rfl rfl rfl (ev_aload_n (pc' := 13) m_103 rfl rfl rfl ?_)))
        refine ev_acp_eq (t := 26) (e := 16) m_103 rfl rfl rfl (fun c1 => ?_) (fun c1 => ?_)
        · replace h := Ok_t c1 h
          exact am_Ev.sub (L := [(0, .ref (pL l0)), (1, .ref (pB l1)), (2, .null)]) ⟨rfl, rfl, rfl, trivial⟩ (cN_drop_26_ok l0 l1 none _ _ h)
        · replace h := Ok_f c1 h
          refine ev_aload_n (pc' := 17) m_103 rfl rfl rfl (ev_astore_n (pc' := 18) m_103 rfl rfl rfl rfl (ev_aload_n (pc' := 19) m_103 rfl rfl rfl ?_))
          obtain ⟨g2, h⟩ := Ok_g h
          cases e4 : gR s 509 l3 with
          | none =>
            rw [e4] at h
            dsimp only at h
            refine tr_getN (pc' := 22) (f := 509) (g := pB) m_103 rfl rfl (ts_obB g2) rfl rfl e4 rfl ?_
            refine ev_astore_nN (pc' := 23) m_103 rfl rfl rfl rfl (ev_goto (pc' := 7) m_103 rfl rfl ?_)
            exact am_Ev.sub (L := [(0, .ref (pL l0)), (1, .ref (pB l1)), (2, .ref (pB l3)), (3, .null)]) ⟨rfl, rfl, rfl, rfl, trivial⟩ (ih l0 l1 (some l3) none _ _ h)
          | some r3 =>
            rw [e4] at h
            dsimp only at h
            refine tr_getS (pc' := 22) (f := 509) (g := pB) m_103 rfl rfl (ts_obB g2) rfl rfl e4 rfl ?_
            refine ev_astore_n (pc' := 23) m_103 rfl rfl rfl rfl (ev_goto (pc' := 7) m_103 rfl rfl ?_)
            exact am_Ev.sub (L := [(0, .ref (pL l0)), (1, .ref (pB l1)), (2, .ref (pB l3)), (3, .ref (pB r3))]) ⟨rfl, rfl, rfl, rfl, trivial⟩ (ih l0 l1 (some l3) (some r3) _ _ h)
    | some l2 =>
      dsimp only at h
      cases l3 with
      | none =>
        dsimp only at h
        refine ev_aload_nN (pc' := 8) m_103 rfl rfl rfl (ev_nulY (t := 26) m_103 rfl rfl ?_)
        exact am_Ev.sub (L := [(0, .ref (pL l0)), (1, .ref (pB l1)), (2, .ref (pB l2))]) ⟨rfl, rfl, rfl, trivial⟩ (cN_drop_26_ok l0 l1 (some l2) _ _ h)
      | some l3 =>
        dsimp only at h
        refine ev_aload_n (pc' := 8) m_103 rfl rfl rfl (ev_nulN (e := 11) m_103 rfl rfl (ev_aload_n (pc' := 12) m_103 rfl rfl rfl (ev_aload_n (pc' := 13) m_103 rfl rfl rfl ?_)))
        refine ev_acp_eq (t := 26) (e := 16) m_103 rfl rfl rfl (fun c5 => ?_) (fun c5 => ?_)
        · replace h := Ok_t c5 h
          exact am_Ev.sub (L := [(0, .ref (pL l0)), (1, .ref (pB l1)), (2, .ref (pB l2))]) ⟨rfl, rfl, rfl, trivial⟩ (cN_drop_26_ok l0 l1 (some l2) _ _ h)
        · replace h := Ok_f c5 h
          refine ev_aload_n (pc' := 17) m_103 rfl rfl rfl (ev_astore_n (pc' := 18) m_103 rfl rfl rfl rfl (ev_aload_n (pc' := 19) m_103 rfl rfl rfl ?_))
          obtain ⟨g6, h⟩ := Ok_g h
          cases e8 : gR s 509 l3 with
          | none =>
            rw [e8] at h
            dsimp only at h
            refine tr_getN (pc' := 22) (f := 509) (g := pB) m_103 rfl rfl (ts_obB g6) rfl rfl e8 rfl ?_
            refine ev_astore_nN (pc' := 23) m_103 rfl rfl rfl rfl (ev_goto (pc' := 7) m_103 rfl rfl ?_)
            exact am_Ev.sub (L := [(0, .ref (pL l0)), (1, .ref (pB l1)), (2, .ref (pB l3)), (3, .null)]) ⟨rfl, rfl, rfl, rfl, trivial⟩ (ih l0 l1 (some l3) none _ _ h)
          | some r7 =>
            rw [e8] at h
            dsimp only at h
            refine tr_getS (pc' := 22) (f := 509) (g := pB) m_103 rfl rfl (ts_obB g6) rfl rfl e8 rfl ?_
            refine ev_astore_n (pc' := 23) m_103 rfl rfl rfl rfl (ev_goto (pc' := 7) m_103 rfl rfl ?_)
            exact am_Ev.sub (L := [(0, .ref (pL l0)), (1, .ref (pB l1)), (2, .ref (pB l3)), (3, .ref (pB r7))]) ⟨rfl, rfl, rfl, rfl, trivial⟩ (ih l0 l1 (some l3) (some r7) _ _ h)
def cN_drop (l0 : Nat) (l1 : Nat) (s : ts) : Option (ts) := (if l0 < 30 then (match gR s 600 l0 with
  | none => cN_drop_7 tm_N l0 l1 none none s
  | some r2 => cN_drop_7 tm_N l0 l1 none (some r2) s) else none)
set_option maxRecDepth 20000 in
theorem cN_drop_ok {d : Nat} (l0 : Nat) (l1 : Nat) (s : ts) (Q : ts → Prop) (h : Ok (cN_drop l0 l1 s) Q) : am_Ev (d + 0) 103 (0, [(0, .ref (pL l0)), (1, .ref (pB l1))], []) (lay s) (tq_v Q) := by
  unfold cN_drop at h
  refine ev_null (pc' := 1) m_103 rfl rfl (ev_astore_nN (pc' := 2) m_103 rfl rfl rfl rfl (ev_aload_n (pc' := 3) m_103 rfl rfl rfl ?_))
  obtain ⟨g1, h⟩ := Ok_g h
  cases e3 : gR s 600 l0 with
  | none =>
    rw [e3] at h
    dsimp only at h
    refine tr_getN (pc' := 6) (f := 600) (g := pB) m_103 rfl rfl (ts_obL g1) rfl rfl e3 rfl ?_
    refine ev_astore_nN (pc' := 7) m_103 rfl rfl rfl rfl ?_
    exact am_Ev.sub (L := [(0, .ref (pL l0)), (1, .ref (pB l1)), (2, .null), (3, .null)]) ⟨rfl, rfl, rfl, rfl, trivial⟩ (cN_drop_7_ok tm_N l0 l1 none none _ _ h)
  | some r2 =>
    rw [e3] at h
    dsimp only at h
    refine tr_getS (pc' := 6) (f := 600) (g := pB) m_103 rfl rfl (ts_obL g1) rfl rfl e3 rfl ?_
    refine ev_astore_n (pc' := 7) m_103 rfl rfl rfl rfl ?_
    exact am_Ev.sub (L := [(0, .ref (pL l0)), (1, .ref (pB l1)), (2, .null), (3, .ref (pB r2))]) ⟨rfl, rfl, rfl, rfl, trivial⟩ (cN_drop_7_ok tm_N l0 l1 none (some r2) _ _ h)
