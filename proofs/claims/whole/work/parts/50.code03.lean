/-! THE METHODS AS FUNCTIONS, printed by wip/tools/decomp.py; the machine does what they say. -/
def cR_sign_84 (l1 : Int32) (s : ts) : Option (ts) := (if l1 = ((61 : Int32)) then some (wI (wI s 1105 0 ((gI s 1105 0) + ((1 : Int32)))) 1106 0 ((300 : Int32))) else (if l1 = ((33 : Int32)) then some (wI (wI s 1105 0 ((gI s 1105 0) + ((1 : Int32)))) 1106 0 ((301 : Int32))) else (if l1 = ((60 : Int32)) then some (wI (wI s 1105 0 ((gI s 1105 0) + ((1 : Int32)))) 1106 0 ((302 : Int32))) else (if l1 = ((62 : Int32)) then some (wI (wI s 1105 0 ((gI s 1105 0) + ((1 : Int32)))) 1106 0 ((303 : Int32))) else (if l1 = ((38 : Int32)) then some (wI (wI s 1105 0 ((gI s 1105 0) + ((1 : Int32)))) 1106 0 ((304 : Int32))) else some (wI (wI s 1105 0 ((gI s 1105 0) + ((1 : Int32)))) 1106 0 ((305 : Int32))))))))
set_option maxRecDepth 20000 in
theorem cR_sign_84_ok {d : Nat} (l1 : Int32) (s : ts) (Q : ts → Prop) (h : Ok (cR_sign_84 l1 s) Q) : am_Ev (d + 2) 184 (84, [(0, .ref 87), (1, .int (l1))], []) (lay s) (tq_v Q) := by
  unfold cR_sign_84 at h
  refine ev_aload_n (pc' := 85) m_184 rfl rfl rfl (ev_dup (pc' := 86) m_184 rfl rfl rfl (tr_get (pc' := 89) (v := .int (gI _ 1105 _)) m_184 rfl rfl ts_o87 rfl rfl rfl (ev_iconst (pc' := 90) (x := 1) m_184 rfl rfl rfl (ev_iadd (pc' := 91) m_184 rfl rfl (tr_pI (pc' := 94) (f := 1105) m_184 rfl rfl rfl ts_o87 rfl rfl rfl rfl (ev_aload_n (pc' := 95) m_184 rfl rfl rfl (ev_iload_n (pc' := 96) m_184 rfl rfl rfl ?_)))))))
  refine ev_bipush (pc' := 98) (x := 61) m_184 rfl rfl rfl ?_
  refine ev_icmp_ne (t := 107) (e := 101) m_184 rfl rfl rfl (fun c5 => ?_) (fun c5 => ?_)
  · replace h := Ok_f c5 h
    refine ev_iload_n (pc' := 108) m_184 rfl rfl rfl (ev_bipush (pc' := 110) (x := 33) m_184 rfl rfl rfl ?_)
    refine ev_icmp_ne (t := 119) (e := 113) m_184 rfl rfl rfl (fun c4 => ?_) (fun c4 => ?_)
    · replace h := Ok_f c4 h
      refine ev_iload_n (pc' := 120) m_184 rfl rfl rfl (ev_bipush (pc' := 122) (x := 60) m_184 rfl rfl rfl ?_)
      refine ev_icmp_ne (t := 131) (e := 125) m_184 rfl rfl rfl (fun c3 => ?_) (fun c3 => ?_)
      · replace h := Ok_f c3 h
        refine ev_iload_n (pc' := 132) m_184 rfl rfl rfl (ev_bipush (pc' := 134) (x := 62) m_184 rfl rfl rfl ?_)
        refine ev_icmp_ne (t := 143) (e := 137) m_184 rfl rfl rfl (fun c2 => ?_) (fun c2 => ?_)
        · replace h := Ok_f c2 h
          refine ev_iload_n (pc' := 144) m_184 rfl rfl rfl (ev_bipush (pc' := 146) (x := 38) m_184 rfl rfl rfl ?_)
          refine ev_icmp_ne (t := 155) (e := 149) m_184 rfl rfl rfl (fun c1 => ?_) (fun c1 => ?_)
          · replace h := Ok_f c1 h
            refine ev_sipush (pc' := 158) (x := 305) m_184 rfl rfl rfl (tr_pI (pc' := 161) (f := 1106) m_184 rfl rfl rfl ts_o87 rfl rfl rfl rfl (ev_goto (pc' := 269) m_184 rfl rfl ?_))
            exact tr_rv m_184 rfl rfl (Ok_s h)
          · replace h := Ok_t c1 h
            refine ev_sipush (pc' := 152) (x := 304) m_184 rfl rfl rfl (ev_goto (pc' := 158) m_184 rfl rfl (tr_pI (pc' := 161) (f := 1106) m_184 rfl rfl rfl ts_o87 rfl rfl rfl rfl (ev_goto (pc' := 269) m_184 rfl rfl ?_)))
            exact tr_rv m_184 rfl rfl (Ok_s h)
        · replace h := Ok_t c2 h
          refine ev_sipush (pc' := 140) (x := 303) m_184 rfl rfl rfl (ev_goto (pc' := 158) m_184 rfl rfl (tr_pI (pc' := 161) (f := 1106) m_184 rfl rfl rfl ts_o87 rfl rfl rfl rfl (ev_goto (pc' := 269) m_184 rfl rfl ?_)))
          exact tr_rv m_184 rfl rfl (Ok_s h)
      · replace h := Ok_t c3 h
        refine ev_sipush (pc' := 128) (x := 302) m_184 rfl rfl rfl (ev_goto (pc' := 158) m_184 rfl rfl (tr_pI (pc' := 161) (f := 1106) m_184 rfl rfl rfl ts_o87 rfl rfl rfl rfl (ev_goto (pc' := 269) m_184 rfl rfl ?_)))
        exact tr_rv m_184 rfl rfl (Ok_s h)
    · replace h := Ok_t c4 h
      refine ev_sipush (pc' := 116) (x := 301) m_184 rfl rfl rfl (ev_goto (pc' := 158) m_184 rfl rfl (tr_pI (pc' := 161) (f := 1106) m_184 rfl rfl rfl ts_o87 rfl rfl rfl rfl (ev_goto (pc' := 269) m_184 rfl rfl ?_)))
      exact tr_rv m_184 rfl rfl (Ok_s h)
  · replace h := Ok_t c5 h
    refine ev_sipush (pc' := 104) (x := 300) m_184 rfl rfl rfl (ev_goto (pc' := 158) m_184 rfl rfl (tr_pI (pc' := 161) (f := 1106) m_184 rfl rfl rfl ts_o87 rfl rfl rfl rfl (ev_goto (pc' := 269) m_184 rfl rfl ?_)))
    exact tr_rv m_184 rfl rfl (Ok_s h)
def cR_sign_265 (t1 : Int32) (s : ts) : Option (ts) := (cR_need t1 ((1 : Int32)) s).bind (fun s2 => some s2)
set_option maxRecDepth 20000 in
theorem cR_sign_265_ok {d : Nat} (t1 : Int32) (s : ts) (Q : ts → Prop) (h : Ok (cR_sign_265 t1 s) Q) : am_Ev (d + 2) 184 (265, [], [.int (t1), .ref 87]) (lay s) (tq_v Q) := by
  unfold cR_sign_265 at h
  refine ev_iconst (pc' := 266) (x := 1) m_184 rfl rfl rfl ?_
  refine tr_cv (pc' := 269) m_184 rfl rfl rfl m_183 rfl rfl rfl rfl (tr_rcv ts_o87 rfl) rfl rfl (cR_need_ok t1 ((1 : Int32)) _ _ (Ok_b h)) (fun s2 h => ?_)
  exact tr_rv m_184 rfl rfl (Ok_s h)
def cR_sign_73 (l1 : Int32) (l3 : Int32) (t0 : Int32) (s : ts) : Option (ts) := (if l3 = ((0 : Int32)) then (if t0 = ((0 : Int32)) then (if l1 = ((40 : Int32)) then cR_sign_265 ((1 : Int32)) (wI s 1106 0 l1) else (if l1 = ((41 : Int32)) then cR_sign_265 ((1 : Int32)) (wI s 1106 0 l1) else (if l1 = ((123 : Int32)) then cR_sign_265 ((1 : Int32)) (wI s 1106 0 l1) else (if l1 = ((125 : Int32)) then cR_sign_265 ((1 : Int32)) (wI s 1106 0 l1) else (if l1 = ((44 : Int32)) then cR_sign_265 ((1 : Int32)) (wI s 1106 0 l1) else (if l1 = ((59 : Int32)) then cR_sign_265 ((1 : Int32)) (wI s 1106 0 l1) else (if l1 = ((61 : Int32)) then cR_sign_265 ((1 : Int32)) (wI s 1106 0 l1) else (if l1 = ((43 : Int32)) then cR_sign_265 ((1 : Int32)) (wI s 1106 0 l1) else (if l1 = ((45 : Int32)) then cR_sign_265 ((1 : Int32)) (wI s 1106 0 l1) else (if l1 = ((42 : Int32)) then cR_sign_265 ((1 : Int32)) (wI s 1106 0 l1) else (if l1 = ((47 : Int32)) then cR_sign_265 ((1 : Int32)) (wI s 1106 0 l1) else (if l1 = ((37 : Int32)) then cR_sign_265 ((1 : Int32)) (wI s 1106 0 l1) else (if l1 = ((60 : Int32)) then cR_sign_265 ((1 : Int32)) (wI s 1106 0 l1) else (if l1 = ((62 : Int32)) then cR_sign_265 ((1 : Int32)) (wI s 1106 0 l1) else (if l1 = ((33 : Int32)) then cR_sign_265 ((1 : Int32)) (wI s 1106 0 l1) else cR_sign_265 ((0 : Int32)) (wI s 1106 0 l1)))))))))))))))) else cR_sign_84 l1 s) else cR_sign_84 l1 s)
set_option maxRecDepth 20000 in
theorem cR_sign_73_ok {d : Nat} (l1 : Int32) (l3 : Int32) (t0 : Int32) (s : ts) (Q : ts → Prop) (h : Ok (cR_sign_73 l1 l3 t0 s) Q) : am_Ev (d + 2) 184 (73, [(0, .ref 87), (1, .int (l1)), (3, .int (l3))], [.int (t0)]) (lay s) (tq_v Q) := by
  unfold cR_sign_73 at h
  refine ev_istore (pc' := 75) m_184 rfl rfl rfl rfl (ev_iload_n (pc' := 76) m_184 rfl rfl rfl ?_)
  refine ev_if_ne (t := 84) (e := 79) m_184 rfl rfl rfl (fun c17 => ?_) (fun c17 => ?_)
  · replace h := Ok_f c17 h
    exact am_Ev.sub (L := [(0, .ref 87), (1, .int (l1))]) ⟨rfl, rfl, trivial⟩ (cR_sign_84_ok l1 _ _ h)
  · replace h := Ok_t c17 h
    refine ev_iload (pc' := 81) m_184 rfl rfl rfl ?_
    refine ev_if_eq (t := 164) (e := 84) m_184 rfl rfl rfl (fun c16 => ?_) (fun c16 => ?_)
    · replace h := Ok_t c16 h
      refine ev_aload_n (pc' := 165) m_184 rfl rfl rfl (ev_iload_n (pc' := 166) m_184 rfl rfl rfl (tr_pI (pc' := 169) (f := 1106) m_184 rfl rfl rfl ts_o87 rfl rfl rfl rfl (ev_aload_n (pc' := 170) m_184 rfl rfl rfl (ev_iload_n (pc' := 171) m_184 rfl rfl rfl (ev_bipush (pc' := 173) (x := 40) m_184 rfl rfl rfl ?_)))))
      refine ev_icmp_eq (t := 260) (e := 176) m_184 rfl rfl rfl (fun c15 => ?_) (fun c15 => ?_)
      · replace h := Ok_t c15 h
        refine ev_iconst (pc' := 261) (x := 1) m_184 rfl rfl rfl (ev_goto (pc' := 265) m_184 rfl rfl ?_)
        exact am_Ev.sub (L := []) trivial (cR_sign_265_ok ((1 : Int32)) _ _ h)
      · replace h := Ok_f c15 h
        refine ev_iload_n (pc' := 177) m_184 rfl rfl rfl (ev_bipush (pc' := 179) (x := 41) m_184 rfl rfl rfl ?_)
        refine ev_icmp_eq (t := 260) (e := 182) m_184 rfl rfl rfl (fun c14 => ?_) (fun c14 => ?_)
        · replace h := Ok_t c14 h
          refine ev_iconst (pc' := 261) (x := 1) m_184 rfl rfl rfl (ev_goto (pc' := 265) m_184 rfl rfl ?_)
          exact am_Ev.sub (L := []) trivial (cR_sign_265_ok ((1 : Int32)) _ _ h)
        · replace h := Ok_f c14 h
          refine ev_iload_n (pc' := 183) m_184 rfl rfl rfl (ev_bipush (pc' := 185) (x := 123) m_184 rfl rfl rfl ?_)
          refine ev_icmp_eq (t := 260) (e := 188) m_184 rfl rfl rfl (fun c13 => ?_) (fun c13 => ?_)
          · replace h := Ok_t c13 h
            refine ev_iconst (pc' := 261) (x := 1) m_184 rfl rfl rfl (ev_goto (pc' := 265) m_184 rfl rfl ?_)
            exact am_Ev.sub (L := []) trivial (cR_sign_265_ok ((1 : Int32)) _ _ h)
          · replace h := Ok_f c13 h
            refine ev_iload_n (pc' := 189) m_184 rfl rfl rfl (ev_bipush (pc' := 191) (x := 125) m_184 rfl rfl rfl ?_)
            refine ev_icmp_eq (t := 260) (e := 194) m_184 rfl rfl rfl (fun c12 => ?_) (fun c12 => ?_)
            · replace h := Ok_t c12 h
              refine ev_iconst (pc' := 261) (x := 1) m_184 rfl rfl rfl (ev_goto (pc' := 265) m_184 rfl rfl ?_)
              exact am_Ev.sub (L := []) trivial (cR_sign_265_ok ((1 : Int32)) _ _ h)
            · replace h := Ok_f c12 h
              refine ev_iload_n (pc' := 195) m_184 rfl rfl rfl (ev_bipush (pc' := 197) (x := 44) m_184 rfl rfl rfl ?_)
              refine ev_icmp_eq (t := 260) (e := 200) m_184 rfl rfl rfl (fun c11 => ?_) (fun c11 => ?_)
              · replace h := Ok_t c11 h
                refine ev_iconst (pc' := 261) (x := 1) m_184 rfl rfl rfl (ev_goto (pc' := 265) m_184 rfl rfl ?_)
                exact am_Ev.sub (L := []) trivial (cR_sign_265_ok ((1 : Int32)) _ _ h)
              · replace h := Ok_f c11 h
                refine ev_iload_n (pc' := 201) m_184 rfl rfl rfl (ev_bipush (pc' := 203) (x := 59) m_184 rfl rfl rfl ?_)
                refine ev_icmp_eq (t := 260) (e := 206) m_184 rfl rfl rfl (fun c10 => ?_) (fun c10 => ?_)
                · replace h := Ok_t c10 h
                  refine ev_iconst (pc' := 261) (x := 1) m_184 rfl rfl rfl (ev_goto (pc' := 265) m_184 rfl rfl ?_)
                  exact am_Ev.sub (L := []) trivial (cR_sign_265_ok ((1 : Int32)) _ _ h)
                · replace h := Ok_f c10 h
                  refine ev_iload_n (pc' := 207) m_184 rfl rfl rfl (ev_bipush (pc' := 209) (x := 61) m_184 rfl rfl rfl ?_)
                  refine ev_icmp_eq (t := 260) (e := 212) m_184 rfl rfl rfl (fun c9 => ?_) (fun c9 => ?_)
                  · replace h := Ok_t c9 h
                    refine ev_iconst (pc' := 261) (x := 1) m_184 rfl rfl rfl (ev_goto (pc' := 265) m_184 rfl rfl ?_)
                    exact am_Ev.sub (L := []) trivial (cR_sign_265_ok ((1 : Int32)) _ _ h)
                  · replace h := Ok_f c9 h
                    refine ev_iload_n (pc' := 213) m_184 rfl rfl rfl (ev_bipush (pc' := 215) (x := 43) m_184 rfl rfl rfl ?_)
                    refine ev_icmp_eq (t := 260) (e := 218) m_184 rfl rfl rfl (fun c8 => ?_) (fun c8 => ?_)
                    · replace h := Ok_t c8 h
                      refine ev_iconst (pc' := 261) (x := 1) m_184 rfl rfl rfl (ev_goto (pc' := 265) m_184 rfl rfl ?_)
                      exact am_Ev.sub (L := []) trivial (cR_sign_265_ok ((1 : Int32)) _ _ h)
                    · replace h := Ok_f c8 h
                      refine ev_iload_n (pc' := 219) m_184 rfl rfl rfl (ev_bipush (pc' := 221) (x := 45) m_184 rfl rfl rfl ?_)
                      refine ev_icmp_eq (t := 260) (e := 224) m_184 rfl rfl rfl (fun c7 => ?_) (fun c7 => ?_)
                      · replace h := Ok_t c7 h
                        refine ev_iconst (pc' := 261) (x := 1) m_184 rfl rfl rfl (ev_goto (pc' := 265) m_184 rfl rfl ?_)
                        exact am_Ev.sub (L := []) trivial (cR_sign_265_ok ((1 : Int32)) _ _ h)
                      · replace h := Ok_f c7 h
                        refine ev_iload_n (pc' := 225) m_184 rfl rfl rfl (ev_bipush (pc' := 227) (x := 42) m_184 rfl rfl rfl ?_)
                        refine ev_icmp_eq (t := 260) (e := 230) m_184 rfl rfl rfl (fun c6 => ?_) (fun c6 => ?_)
                        · replace h := Ok_t c6 h
                          refine ev_iconst (pc' := 261) (x := 1) m_184 rfl rfl rfl (ev_goto (pc' := 265) m_184 rfl rfl ?_)
                          exact am_Ev.sub (L := []) trivial (cR_sign_265_ok ((1 : Int32)) _ _ h)
                        · replace h := Ok_f c6 h
                          refine ev_iload_n (pc' := 231) m_184 rfl rfl rfl (ev_bipush (pc' := 233) (x := 47) m_184 rfl rfl rfl ?_)
                          refine ev_icmp_eq (t := 260) (e := 236) m_184 rfl rfl rfl (fun c5 => ?_) (fun c5 => ?_)
                          · replace h := Ok_t c5 h
                            refine ev_iconst (pc' := 261) (x := 1) m_184 rfl rfl rfl (ev_goto (pc' := 265) m_184 rfl rfl ?_)
                            exact am_Ev.sub (L := []) trivial (cR_sign_265_ok ((1 : Int32)) _ _ h)
                          · replace h := Ok_f c5 h
                            refine ev_iload_n (pc' := 237) m_184 rfl rfl rfl (ev_bipush (pc' := 239) (x := 37) m_184 rfl rfl rfl ?_)
                            refine ev_icmp_eq (t := 260) (e := 242) m_184 rfl rfl rfl (fun c4 => ?_) (fun c4 => ?_)
                            · replace h := Ok_t c4 h
                              refine ev_iconst (pc' := 261) (x := 1) m_184 rfl rfl rfl (ev_goto (pc' := 265) m_184 rfl rfl ?_)
                              exact am_Ev.sub (L := []) trivial (cR_sign_265_ok ((1 : Int32)) _ _ h)
                            · replace h := Ok_f c4 h
                              refine ev_iload_n (pc' := 243) m_184 rfl rfl rfl (ev_bipush (pc' := 245) (x := 60) m_184 rfl rfl rfl ?_)
                              refine ev_icmp_eq (t := 260) (e := 248) m_184 rfl rfl rfl (fun c3 => ?_) (fun c3 => ?_)
                              · replace h := Ok_t c3 h
                                refine ev_iconst (pc' := 261) (x := 1) m_184 rfl rfl rfl (ev_goto (pc' := 265) m_184 rfl rfl ?_)
                                exact am_Ev.sub (L := []) trivial (cR_sign_265_ok ((1 : Int32)) _ _ h)
                              · replace h := Ok_f c3 h
                                refine ev_iload_n (pc' := 249) m_184 rfl rfl rfl (ev_bipush (pc' := 251) (x := 62) m_184 rfl rfl rfl ?_)
                                refine ev_icmp_eq (t := 260) (e := 254) m_184 rfl rfl rfl (fun c2 => ?_) (fun c2 => ?_)
                                · replace h := Ok_t c2 h
                                  refine ev_iconst (pc' := 261) (x := 1) m_184 rfl rfl rfl (ev_goto (pc' := 265) m_184 rfl rfl ?_)
                                  exact am_Ev.sub (L := []) trivial (cR_sign_265_ok ((1 : Int32)) _ _ h)
                                · replace h := Ok_f c2 h
                                  refine ev_iload_n (pc' := 255) m_184 rfl rfl rfl (ev_bipush (pc' := 257) (x := 33) m_184 rfl rfl rfl ?_)
                                  refine ev_icmp_ne (t := 264) (e := 260) m_184 rfl rfl rfl (fun c1 => ?_) (fun c1 => ?_)
                                  · replace h := Ok_f c1 h
                                    refine ev_iconst (pc' := 265) (x := 0) m_184 rfl rfl rfl ?_
                                    exact am_Ev.sub (L := []) trivial (cR_sign_265_ok ((0 : Int32)) _ _ h)
                                  · replace h := Ok_t c1 h
                                    refine ev_iconst (pc' := 261) (x := 1) m_184 rfl rfl rfl (ev_goto (pc' := 265) m_184 rfl rfl ?_)
                                    exact am_Ev.sub (L := []) trivial (cR_sign_265_ok ((1 : Int32)) _ _ h)
    · replace h := Ok_f c16 h
      exact am_Ev.sub (L := [(0, .ref 87), (1, .int (l1))]) ⟨rfl, rfl, trivial⟩ (cR_sign_84_ok l1 _ _ h)
def cR_sign_50 (l1 : Int32) (l2 : Int32) (t0 : Int32) (s : ts) : Option (ts) := (if l2 = l1 then (if l1 = ((38 : Int32)) then cR_sign_73 l1 t0 ((1 : Int32)) s else (if l1 = ((124 : Int32)) then cR_sign_73 l1 t0 ((1 : Int32)) s else cR_sign_73 l1 t0 ((0 : Int32)) s)) else cR_sign_73 l1 t0 ((0 : Int32)) s)
set_option maxRecDepth 20000 in
theorem cR_sign_50_ok {d : Nat} (l1 : Int32) (l2 : Int32) (t0 : Int32) (s : ts) (Q : ts → Prop) (h : Ok (cR_sign_50 l1 l2 t0 s) Q) : am_Ev (d + 2) 184 (50, [(0, .ref 87), (1, .int (l1)), (2, .int (l2))], [.int (t0)]) (lay s) (tq_v Q) := by
  unfold cR_sign_50 at h
  refine ev_istore_n (pc' := 51) m_184 rfl rfl rfl rfl (ev_iload_n (pc' := 52) m_184 rfl rfl rfl (ev_iload_n (pc' := 53) m_184 rfl rfl rfl ?_))
  refine ev_icmp_ne (t := 72) (e := 56) m_184 rfl rfl rfl (fun c3 => ?_) (fun c3 => ?_)
  · replace h := Ok_f c3 h
    refine ev_iconst (pc' := 73) (x := 0) m_184 rfl rfl rfl ?_
    exact am_Ev.sub (L := [(0, .ref 87), (1, .int (l1)), (3, .int (t0))]) ⟨rfl, rfl, rfl, trivial⟩ (cR_sign_73_ok l1 t0 ((0 : Int32)) _ _ h)
  · replace h := Ok_t c3 h
    refine ev_iload_n (pc' := 57) m_184 rfl rfl rfl (ev_bipush (pc' := 59) (x := 38) m_184 rfl rfl rfl ?_)
    refine ev_icmp_eq (t := 68) (e := 62) m_184 rfl rfl rfl (fun c2 => ?_) (fun c2 => ?_)
    · replace h := Ok_t c2 h
      refine ev_iconst (pc' := 69) (x := 1) m_184 rfl rfl rfl (ev_goto (pc' := 73) m_184 rfl rfl ?_)
      exact am_Ev.sub (L := [(0, .ref 87), (1, .int (l1)), (3, .int (t0))]) ⟨rfl, rfl, rfl, trivial⟩ (cR_sign_73_ok l1 t0 ((1 : Int32)) _ _ h)
    · replace h := Ok_f c2 h
      refine ev_iload_n (pc' := 63) m_184 rfl rfl rfl (ev_bipush (pc' := 65) (x := 124) m_184 rfl rfl rfl ?_)
      refine ev_icmp_ne (t := 72) (e := 68) m_184 rfl rfl rfl (fun c1 => ?_) (fun c1 => ?_)
      · replace h := Ok_f c1 h
        refine ev_iconst (pc' := 73) (x := 0) m_184 rfl rfl rfl ?_
        exact am_Ev.sub (L := [(0, .ref 87), (1, .int (l1)), (3, .int (t0))]) ⟨rfl, rfl, rfl, trivial⟩ (cR_sign_73_ok l1 t0 ((0 : Int32)) _ _ h)
      · replace h := Ok_t c1 h
        refine ev_iconst (pc' := 69) (x := 1) m_184 rfl rfl rfl (ev_goto (pc' := 73) m_184 rfl rfl ?_)
        exact am_Ev.sub (L := [(0, .ref 87), (1, .int (l1)), (3, .int (t0))]) ⟨rfl, rfl, rfl, trivial⟩ (cR_sign_73_ok l1 t0 ((1 : Int32)) _ _ h)
def cR_sign (l1 : Int32) (s : ts) : Option (ts) := (cR_peek (wI s 1105 0 ((gI s 1105 0) + ((1 : Int32))))).bind (fun x3 => (if x3.1 = ((61 : Int32)) then (if l1 = ((61 : Int32)) then cR_sign_50 l1 x3.1 ((1 : Int32)) x3.2 else (if l1 = ((33 : Int32)) then cR_sign_50 l1 x3.1 ((1 : Int32)) x3.2 else (if l1 = ((60 : Int32)) then cR_sign_50 l1 x3.1 ((1 : Int32)) x3.2 else (if l1 = ((62 : Int32)) then cR_sign_50 l1 x3.1 ((1 : Int32)) x3.2 else cR_sign_50 l1 x3.1 ((0 : Int32)) x3.2)))) else cR_sign_50 l1 x3.1 ((0 : Int32)) x3.2))
set_option maxRecDepth 20000 in
theorem cR_sign_ok {d : Nat} (l1 : Int32) (s : ts) (Q : ts → Prop) (h : Ok (cR_sign l1 s) Q) : am_Ev (d + 2) 184 (0, [(0, .ref 87), (1, .int (l1))], []) (lay s) (tq_v Q) := by
  unfold cR_sign at h
  refine ev_aload_n (pc' := 1) m_184 rfl rfl rfl (ev_dup (pc' := 2) m_184 rfl rfl rfl (tr_get (pc' := 5) (v := .int (gI _ 1105 _)) m_184 rfl rfl ts_o87 rfl rfl rfl (ev_iconst (pc' := 6) (x := 1) m_184 rfl rfl rfl (ev_iadd (pc' := 7) m_184 rfl rfl (tr_pI (pc' := 10) (f := 1105) m_184 rfl rfl rfl ts_o87 rfl rfl rfl rfl (ev_aload_n (pc' := 11) m_184 rfl rfl rfl ?_))))))
  refine tr_ci (pc' := 14) m_184 rfl rfl rfl m_178 rfl rfl rfl rfl (tr_rcv ts_o87 rfl) rfl rfl (cR_peek_ok _ _ (Ok_b h)) (fun x3_ x3_s h => ?_)
  refine ev_istore_n (pc' := 15) m_184 rfl rfl rfl rfl (ev_iload_n (pc' := 16) m_184 rfl rfl rfl (ev_bipush (pc' := 18) (x := 61) m_184 rfl rfl rfl ?_))
  refine ev_icmp_ne (t := 49) (e := 21) m_184 rfl rfl rfl (fun c8 => ?_) (fun c8 => ?_)
  · replace h := Ok_f c8 h
    refine ev_iconst (pc' := 50) (x := 0) m_184 rfl rfl rfl ?_
    exact am_Ev.sub (L := [(0, .ref 87), (1, .int (l1)), (2, .int (x3_))]) ⟨rfl, rfl, rfl, trivial⟩ (cR_sign_50_ok l1 x3_ ((0 : Int32)) _ _ h)
  · replace h := Ok_t c8 h
    refine ev_iload_n (pc' := 22) m_184 rfl rfl rfl (ev_bipush (pc' := 24) (x := 61) m_184 rfl rfl rfl ?_)
    refine ev_icmp_eq (t := 45) (e := 27) m_184 rfl rfl rfl (fun c7 => ?_) (fun c7 => ?_)
    · replace h := Ok_t c7 h
      refine ev_iconst (pc' := 46) (x := 1) m_184 rfl rfl rfl (ev_goto (pc' := 50) m_184 rfl rfl ?_)
      exact am_Ev.sub (L := [(0, .ref 87), (1, .int (l1)), (2, .int (x3_))]) ⟨rfl, rfl, rfl, trivial⟩ (cR_sign_50_ok l1 x3_ ((1 : Int32)) _ _ h)
    · replace h := Ok_f c7 h
      refine ev_iload_n (pc' := 28) m_184 rfl rfl rfl (ev_bipush (pc' := 30) (x := 33) m_184 rfl rfl rfl ?_)
      refine ev_icmp_eq (t := 45) (e := 33) m_184 rfl rfl rfl (fun c6 => ?_) (fun c6 => ?_)
      · replace h := Ok_t c6 h
        refine ev_iconst (pc' := 46) (x := 1) m_184 rfl rfl rfl (ev_goto (pc' := 50) m_184 rfl rfl ?_)
        exact am_Ev.sub (L := [(0, .ref 87), (1, .int (l1)), (2, .int (x3_))]) ⟨rfl, rfl, rfl, trivial⟩ (cR_sign_50_ok l1 x3_ ((1 : Int32)) _ _ h)
      · replace h := Ok_f c6 h
        refine ev_iload_n (pc' := 34) m_184 rfl rfl rfl (ev_bipush (pc' := 36) (x := 60) m_184 rfl rfl rfl ?_)
        refine ev_icmp_eq (t := 45) (e := 39) m_184 rfl rfl rfl (fun c5 => ?_) (fun c5 => ?_)
        · replace h := Ok_t c5 h
          refine ev_iconst (pc' := 46) (x := 1) m_184 rfl rfl rfl (ev_goto (pc' := 50) m_184 rfl rfl ?_)
          exact am_Ev.sub (L := [(0, .ref 87), (1, .int (l1)), (2, .int (x3_))]) ⟨rfl, rfl, rfl, trivial⟩ (cR_sign_50_ok l1 x3_ ((1 : Int32)) _ _ h)
        · replace h := Ok_f c5 h
          refine ev_iload_n (pc' := 40) m_184 rfl rfl rfl (ev_bipush (pc' := 42) (x := 62) m_184 rfl rfl rfl ?_)
          refine ev_icmp_ne (t := 49) (e := 45) m_184 rfl rfl rfl (fun c4 => ?_) (fun c4 => ?_)
          · replace h := Ok_f c4 h
            refine ev_iconst (pc' := 50) (x := 0) m_184 rfl rfl rfl ?_
            exact am_Ev.sub (L := [(0, .ref 87), (1, .int (l1)), (2, .int (x3_))]) ⟨rfl, rfl, rfl, trivial⟩ (cR_sign_50_ok l1 x3_ ((0 : Int32)) _ _ h)
          · replace h := Ok_t c4 h
            refine ev_iconst (pc' := 46) (x := 1) m_184 rfl rfl rfl (ev_goto (pc' := 50) m_184 rfl rfl ?_)
            exact am_Ev.sub (L := [(0, .ref 87), (1, .int (l1)), (2, .int (x3_))]) ⟨rfl, rfl, rfl, trivial⟩ (cR_sign_50_ok l1 x3_ ((1 : Int32)) _ _ h)
def cR_next_244 (t1 : Int32) (s : ts) : Option (ts) := (cR_need t1 ((1 : Int32)) s).bind (fun s2 => some s2)
set_option maxRecDepth 20000 in
theorem cR_next_244_ok {d : Nat} (t1 : Int32) (s : ts) (Q : ts → Prop) (h : Ok (cR_next_244 t1 s) Q) : am_Ev (d + 3) 176 (244, [], [.int (t1), .ref 87]) (lay s) (tq_v Q) := by
  unfold cR_next_244 at h
  refine ev_iconst (pc' := 245) (x := 1) m_176 rfl rfl rfl ?_
  refine tr_cv (pc' := 248) m_176 rfl rfl rfl m_183 rfl rfl rfl rfl (tr_rcv ts_o87 rfl) rfl rfl (cR_need_ok t1 ((1 : Int32)) _ _ (Ok_b h)) (fun s2 h => ?_)
  refine ev_goto (pc' := 256) m_176 rfl rfl ?_
  exact tr_rv m_176 rfl rfl (Ok_s h)
def cR_next_169_b (kk : Int32 → ts → Option (ts)) (l2 : Int32) (s : ts) : Option (ts) := (cR_peek s).bind (fun x3 => (cR_isDigit x3.1 x3.2).bind (fun x6 => (if x6.1 = ((0 : Int32)) then (if ((10 : Int32)) ≤ l2 then cR_next_244 ((0 : Int32)) (wI x6.2 1106 0 ((2 : Int32))) else cR_next_244 ((1 : Int32)) (wI x6.2 1106 0 ((2 : Int32)))) else (if ((10 : Int32)) ≤ (l2 + (1 : Int32)) then kk (l2 + (1 : Int32)) (wI (wI x6.2 1109 0 (gI x6.2 1109 0)) 1105 0 ((gI (wI x6.2 1109 0 (gI x6.2 1109 0)) 1105 0) + ((1 : Int32)))) else (cR_peek x6.2).bind (fun x10 => kk (l2 + (1 : Int32)) (wI (wI x10.2 1109 0 (((((10 : Int32)) * (gI x6.2 1109 0)) + x10.1) - ((48 : Int32)))) 1105 0 ((gI (wI x10.2 1109 0 (((((10 : Int32)) * (gI x6.2 1109 0)) + x10.1) - ((48 : Int32)))) 1105 0) + ((1 : Int32)))))))))
def cR_next_169 : Nat → Int32 → ts → Option (ts)
  | 0, _, _ => none
  | n + 1, l2, s => cR_next_169_b (cR_next_169 n) l2 s
set_option maxRecDepth 20000 in
theorem cR_next_169_ok {d : Nat} : ∀ (n : Nat) (l2 : Int32) (s : ts) (Q : ts → Prop), Ok (cR_next_169 n l2 s) Q → am_Ev (d + 3) 176 (169, [(0, .ref 87), (2, .int (l2))], []) (lay s) (tq_v Q) := by
  intro n
  induction n with
  | zero => intro l2 s Q h; exact Ok_n h
  | succ n ih =>
    intro l2 s Q h
    rw [cR_next_169.eq_2] at h
    unfold cR_next_169_b at h
    refine ev_aload_n (pc' := 170) m_176 rfl rfl rfl ?_
    refine tr_ci (pc' := 173) m_176 rfl rfl rfl m_178 rfl rfl rfl rfl (tr_rcv ts_o87 rfl) rfl rfl (cR_peek_ok _ _ (Ok_b h)) (fun x3_ x3_s h => ?_)
    refine tr_cz (pc' := 176) m_176 rfl rfl rfl m_182 rfl rfl rfl rfl rfl rfl rfl rfl (cR_isDigit_ok x3_ _ _ (Ok_b h)) (fun x6_ x6_s h4 h => ?_)
    refine ev_if_eq (t := 227) (e := 179) m_176 rfl rfl rfl (fun c12 => ?_) (fun c12 => ?_)
    · replace h := Ok_t c12 h
      refine ev_aload_n (pc' := 228) m_176 rfl rfl rfl (ev_iconst (pc' := 229) (x := 2) m_176 rfl rfl rfl (tr_pI (pc' := 232) (f := 1106) m_176 rfl rfl rfl ts_o87 rfl rfl rfl rfl (ev_aload_n (pc' := 233) m_176 rfl rfl rfl (ev_iload_n (pc' := 234) m_176 rfl rfl rfl (ev_bipush (pc' := 236) (x := 10) m_176 rfl rfl rfl ?_)))))
      refine ev_icmp_ge (t := 243) (e := 239) m_176 rfl rfl rfl (fun c7 => ?_) (fun c7 => ?_)
      · replace h := Ok_t c7 h
        refine ev_iconst (pc' := 244) (x := 0) m_176 rfl rfl rfl ?_
        exact am_Ev.sub (L := []) trivial (cR_next_244_ok ((0 : Int32)) _ _ h)
      · replace h := Ok_f c7 h
        refine ev_iconst (pc' := 240) (x := 1) m_176 rfl rfl rfl (ev_goto (pc' := 244) m_176 rfl rfl ?_)
        exact am_Ev.sub (L := []) trivial (cR_next_244_ok ((1 : Int32)) _ _ h)
    · replace h := Ok_f c12 h
      refine ev_iinc (pc' := 182) (z := 1) m_176 rfl rfl rfl rfl rfl rfl (ev_aload_n (pc' := 183) m_176 rfl rfl rfl (ev_iload_n (pc' := 184) m_176 rfl rfl rfl (ev_bipush (pc' := 186) (x := 10) m_176 rfl rfl rfl ?_)))
      refine ev_icmp_ge (t := 207) (e := 189) m_176 rfl rfl rfl (fun c11 => ?_) (fun c11 => ?_)
      · replace h := Ok_t c11 h
        refine ev_aload_n (pc' := 208) m_176 rfl rfl rfl (tr_get (pc' := 211) (v := .int (gI _ 1109 _)) m_176 rfl rfl ts_o87 rfl rfl rfl (tr_pI (pc' := 214) (f := 1109) m_176 rfl rfl rfl ts_o87 rfl rfl rfl rfl (ev_aload_n (pc' := 215) m_176 rfl rfl rfl (ev_dup (pc' := 216) m_176 rfl rfl rfl (tr_get (pc' := 219) (v := .int (gI _ 1105 _)) m_176 rfl rfl ts_o87 rfl rfl rfl (ev_iconst (pc' := 220) (x := 1) m_176 rfl rfl rfl (ev_iadd (pc' := 221) m_176 rfl rfl ?_)))))))
        refine tr_pI (pc' := 224) (f := 1105) m_176 rfl rfl rfl ts_o87 rfl rfl rfl rfl (ev_goto (pc' := 169) m_176 rfl rfl ?_)
        exact am_Ev.sub (L := [(0, .ref 87), (2, .int (l2 + (1 : Int32)))]) ⟨rfl, rfl, trivial⟩ (ih (l2 + (1 : Int32)) _ _ h)
      · replace h := Ok_f c11 h
        refine ev_bipush (pc' := 191) (x := 10) m_176 rfl rfl rfl (ev_aload_n (pc' := 192) m_176 rfl rfl rfl (tr_get (pc' := 195) (v := .int (gI _ 1109 _)) m_176 rfl rfl ts_o87 rfl rfl rfl (ev_imul (pc' := 196) m_176 rfl rfl (ev_aload_n (pc' := 197) m_176 rfl rfl rfl ?_))))
        refine tr_ci (pc' := 200) m_176 rfl rfl rfl m_178 rfl rfl rfl rfl (tr_rcv ts_o87 rfl) rfl rfl (cR_peek_ok _ _ (Ok_b h)) (fun x10_ x10_s h => ?_)
        refine ev_iadd (pc' := 201) m_176 rfl rfl (ev_bipush (pc' := 203) (x := 48) m_176 rfl rfl rfl (ev_isub (pc' := 204) m_176 rfl rfl (ev_goto (pc' := 211) m_176 rfl rfl (tr_pI (pc' := 214) (f := 1109) m_176 rfl rfl rfl ts_o87 rfl rfl rfl rfl (ev_aload_n (pc' := 215) m_176 rfl rfl rfl (ev_dup (pc' := 216) m_176 rfl rfl rfl (tr_get (pc' := 219) (v := .int (gI _ 1105 _)) m_176 rfl rfl ts_o87 rfl rfl rfl ?_)))))))
        refine ev_iconst (pc' := 220) (x := 1) m_176 rfl rfl rfl (ev_iadd (pc' := 221) m_176 rfl rfl (tr_pI (pc' := 224) (f := 1105) m_176 rfl rfl rfl ts_o87 rfl rfl rfl rfl (ev_goto (pc' := 169) m_176 rfl rfl ?_)))
        exact am_Ev.sub (L := [(0, .ref 87), (2, .int (l2 + (1 : Int32)))]) ⟨rfl, rfl, trivial⟩ (ih (l2 + (1 : Int32)) _ _ h)
def cR_next_100 (k80 : Int32 → ts → Option (ts)) (l2 : Int32) (s : ts) : Option (ts) := (cR_peek s).bind (fun x3 => k80 (l2 + (1 : Int32)) (wI (wJ x3.2 1108 0 (((gJ s 1108 0) <<< (((8 : Int32)).toInt64 &&& 63)) ||| x3.1.toInt64)) 1105 0 ((gI (wJ x3.2 1108 0 (((gJ s 1108 0) <<< (((8 : Int32)).toInt64 &&& 63)) ||| x3.1.toInt64)) 1105 0) + ((1 : Int32)))))
set_option maxRecDepth 20000 in
theorem cR_next_100_ok {d : Nat} (k80 : Int32 → ts → Option (ts)) (hk80 : ∀ (l2 : Int32) (s : ts) (Q : ts → Prop), Ok (k80 l2 s) Q → am_Ev (d + 3) 176 (80, [(0, .ref 87), (2, .int (l2))], []) (lay s) (tq_v Q)) (l2 : Int32) (s : ts) (Q : ts → Prop) (h : Ok (cR_next_100 k80 l2 s) Q) : am_Ev (d + 3) 176 (100, [(0, .ref 87), (2, .int (l2))], []) (lay s) (tq_v Q) := by
  unfold cR_next_100 at h
  refine ev_iinc (pc' := 103) (z := 1) m_176 rfl rfl rfl rfl rfl rfl (ev_aload_n (pc' := 104) m_176 rfl rfl rfl (ev_aload_n (pc' := 105) m_176 rfl rfl rfl (tr_get (pc' := 108) (v := .long (gJ _ 1108 _)) m_176 rfl rfl ts_o87 rfl rfl rfl (ev_bipush (pc' := 110) (x := 8) m_176 rfl rfl rfl (ev_lshl (pc' := 111) m_176 rfl rfl (ev_aload_n (pc' := 112) m_176 rfl rfl rfl ?_))))))
  refine tr_ci (pc' := 115) m_176 rfl rfl rfl m_178 rfl rfl rfl rfl (tr_rcv ts_o87 rfl) rfl rfl (cR_peek_ok _ _ (Ok_b h)) (fun x3_ x3_s h => ?_)
  refine ev_i2l (pc' := 116) m_176 rfl rfl (ev_lor (pc' := 117) m_176 rfl rfl (tr_pJ (pc' := 120) (f := 1108) m_176 rfl rfl rfl ts_o87 rfl rfl rfl rfl (ev_aload_n (pc' := 121) m_176 rfl rfl rfl (ev_dup (pc' := 122) m_176 rfl rfl rfl (tr_get (pc' := 125) (v := .int (gI _ 1105 _)) m_176 rfl rfl ts_o87 rfl rfl rfl (ev_iconst (pc' := 126) (x := 1) m_176 rfl rfl rfl (ev_iadd (pc' := 127) m_176 rfl rfl ?_)))))))
  refine tr_pI (pc' := 130) (f := 1105) m_176 rfl rfl rfl ts_o87 rfl rfl rfl rfl (ev_goto (pc' := 80) m_176 rfl rfl ?_)
  exact am_Ev.sub (L := [(0, .ref 87), (2, .int (l2 + (1 : Int32)))]) ⟨rfl, rfl, trivial⟩ (hk80 (l2 + (1 : Int32)) _ _ h)
def cR_next_150 (t1 : Int32) (s : ts) : Option (ts) := (cR_need t1 ((1 : Int32)) s).bind (fun s2 => some s2)
set_option maxRecDepth 20000 in
theorem cR_next_150_ok {d : Nat} (t1 : Int32) (s : ts) (Q : ts → Prop) (h : Ok (cR_next_150 t1 s) Q) : am_Ev (d + 3) 176 (150, [], [.int (t1), .ref 87]) (lay s) (tq_v Q) := by
  unfold cR_next_150 at h
  refine ev_iconst (pc' := 151) (x := 1) m_176 rfl rfl rfl ?_
  refine tr_cv (pc' := 154) m_176 rfl rfl rfl m_183 rfl rfl rfl rfl (tr_rcv ts_o87 rfl) rfl rfl (cR_need_ok t1 ((1 : Int32)) _ _ (Ok_b h)) (fun s2 h => ?_)
  refine ev_goto (pc' := 256) m_176 rfl rfl ?_
  exact tr_rv m_176 rfl rfl (Ok_s h)
def cR_next_80_b (kk : Int32 → ts → Option (ts)) (l2 : Int32) (s : ts) : Option (ts) := (cR_peek s).bind (fun x3 => (cR_isLetter x3.1 x3.2).bind (fun x6 => (if x6.1 = ((0 : Int32)) then (cR_peek x6.2).bind (fun x9 => (cR_isDigit x9.1 x9.2).bind (fun x12 => (if x12.1 = ((0 : Int32)) then (if ((9 : Int32)) ≤ l2 then cR_next_150 ((0 : Int32)) (wI x12.2 1106 0 ((1 : Int32))) else cR_next_150 ((1 : Int32)) (wI x12.2 1106 0 ((1 : Int32)))) else cR_next_100 kk l2 x12.2))) else cR_next_100 kk l2 x6.2)))
def cR_next_80 : Nat → Int32 → ts → Option (ts)
  | 0, _, _ => none
  | n + 1, l2, s => cR_next_80_b (cR_next_80 n) l2 s
set_option maxRecDepth 20000 in
theorem cR_next_80_ok {d : Nat} : ∀ (n : Nat) (l2 : Int32) (s : ts) (Q : ts → Prop), Ok (cR_next_80 n l2 s) Q → am_Ev (d + 3) 176 (80, [(0, .ref 87), (2, .int (l2))], []) (lay s) (tq_v Q) := by
  intro n
  induction n with
  | zero => intro l2 s Q h; exact Ok_n h
  | succ n ih =>
    intro l2 s Q h
    rw [cR_next_80.eq_2] at h
    unfold cR_next_80_b at h
    refine ev_aload_n (pc' := 81) m_176 rfl rfl rfl ?_
    refine tr_ci (pc' := 84) m_176 rfl rfl rfl m_178 rfl rfl rfl rfl (tr_rcv ts_o87 rfl) rfl rfl (cR_peek_ok _ _ (Ok_b h)) (fun x3_ x3_s h => ?_)
    refine tr_cz (pc' := 87) m_176 rfl rfl rfl m_179 rfl rfl rfl rfl rfl rfl rfl rfl (cR_isLetter_ok x3_ _ _ (Ok_b h)) (fun x6_ x6_s h4 h => ?_)
    refine ev_if_ne (t := 100) (e := 90) m_176 rfl rfl rfl (fun c15 => ?_) (fun c15 => ?_)
    · replace h := Ok_f c15 h
      exact am_Ev.sub (L := [(0, .ref 87), (2, .int (l2))]) ⟨rfl, rfl, trivial⟩ (cR_next_100_ok (cR_next_80 n) ih l2 _ _ h)
    · replace h := Ok_t c15 h
      refine ev_aload_n (pc' := 91) m_176 rfl rfl rfl ?_
      refine tr_ci (pc' := 94) m_176 rfl rfl rfl m_178 rfl rfl rfl rfl (tr_rcv ts_o87 rfl) rfl rfl (cR_peek_ok _ _ (Ok_b h)) (fun x9_ x9_s h => ?_)
      refine tr_cz (pc' := 97) m_176 rfl rfl rfl m_182 rfl rfl rfl rfl rfl rfl rfl rfl (cR_isDigit_ok x9_ _ _ (Ok_b h)) (fun x12_ x12_s h10 h => ?_)
      refine ev_if_eq (t := 133) (e := 100) m_176 rfl rfl rfl (fun c14 => ?_) (fun c14 => ?_)
      · replace h := Ok_t c14 h
        refine ev_aload_n (pc' := 134) m_176 rfl rfl rfl (ev_iconst (pc' := 135) (x := 1) m_176 rfl rfl rfl (tr_pI (pc' := 138) (f := 1106) m_176 rfl rfl rfl ts_o87 rfl rfl rfl rfl (ev_aload_n (pc' := 139) m_176 rfl rfl rfl (ev_iload_n (pc' := 140) m_176 rfl rfl rfl (ev_bipush (pc' := 142) (x := 9) m_176 rfl rfl rfl ?_)))))
        refine ev_icmp_ge (t := 149) (e := 145) m_176 rfl rfl rfl (fun c13 => ?_) (fun c13 => ?_)
        · replace h := Ok_t c13 h
          refine ev_iconst (pc' := 150) (x := 0) m_176 rfl rfl rfl ?_
          exact am_Ev.sub (L := []) trivial (cR_next_150_ok ((0 : Int32)) _ _ h)
        · replace h := Ok_f c13 h
          refine ev_iconst (pc' := 146) (x := 1) m_176 rfl rfl rfl (ev_goto (pc' := 150) m_176 rfl rfl ?_)
          exact am_Ev.sub (L := []) trivial (cR_next_150_ok ((1 : Int32)) _ _ h)
      · replace h := Ok_f c14 h
        exact am_Ev.sub (L := [(0, .ref 87), (2, .int (l2))]) ⟨rfl, rfl, trivial⟩ (cR_next_100_ok (cR_next_80 n) ih l2 _ _ h)
def cR_next_36 (s : ts) : Option (ts) := (cR_skip s).bind (fun s2 => (cR_peek (wI s2 1107 0 (gI s2 1105 0))).bind (fun x6 => (if x6.1 = ((-1 : Int32)) then some (wI x6.2 1106 0 ((0 : Int32))) else (cR_isLetter x6.1 x6.2).bind (fun x9 => (if x9.1 = ((0 : Int32)) then (cR_isDigit x6.1 x9.2).bind (fun x12 => (if x12.1 = ((0 : Int32)) then (cR_sign x6.1 x12.2).bind (fun s14 => some s14) else cR_next_169 tm_N ((0 : Int32)) (wI x12.2 1109 0 ((0 : Int32))))) else cR_next_80 tm_N ((0 : Int32)) (wJ x9.2 1108 0 ((0 : Int64))))))))
set_option maxRecDepth 20000 in
theorem cR_next_36_ok {d : Nat} (s : ts) (Q : ts → Prop) (h : Ok (cR_next_36 s) Q) : am_Ev (d + 3) 176 (36, [(0, .ref 87)], []) (lay s) (tq_v Q) := by
  unfold cR_next_36 at h
  refine ev_aload_n (pc' := 37) m_176 rfl rfl rfl ?_
  refine tr_cv (pc' := 40) m_176 rfl rfl rfl m_181 rfl rfl rfl rfl (tr_rcv ts_o87 rfl) rfl rfl (cR_skip_ok _ _ (Ok_b h)) (fun s2 h => ?_)
  refine ev_aload_n (pc' := 41) m_176 rfl rfl rfl (ev_aload_n (pc' := 42) m_176 rfl rfl rfl (tr_get (pc' := 45) (v := .int (gI _ 1105 _)) m_176 rfl rfl ts_o87 rfl rfl rfl (tr_pI (pc' := 48) (f := 1107) m_176 rfl rfl rfl ts_o87 rfl rfl rfl rfl (ev_aload_n (pc' := 49) m_176 rfl rfl rfl ?_))))
  refine tr_ci (pc' := 52) m_176 rfl rfl rfl m_178 rfl rfl rfl rfl (tr_rcv ts_o87 rfl) rfl rfl (cR_peek_ok _ _ (Ok_b h)) (fun x6_ x6_s h => ?_)
  refine ev_istore_n (pc' := 53) m_176 rfl rfl rfl rfl (ev_iconst (pc' := 54) (x := 0) m_176 rfl rfl rfl (ev_istore_n (pc' := 55) m_176 rfl rfl rfl rfl (ev_iload_n (pc' := 56) m_176 rfl rfl rfl (ev_iconst (pc' := 57) (x := -1) m_176 rfl rfl rfl ?_))))
  refine ev_icmp_ne (t := 68) (e := 60) m_176 rfl rfl rfl (fun c18 => ?_) (fun c18 => ?_)
  · replace h := Ok_f c18 h
    refine ev_iload_n (pc' := 69) m_176 rfl rfl rfl ?_
    refine tr_cz (pc' := 72) m_176 rfl rfl rfl m_179 rfl rfl rfl rfl rfl rfl rfl rfl (cR_isLetter_ok x6_ _ _ (Ok_b h)) (fun x9_ x9_s h7 h => ?_)
    refine ev_if_eq (t := 157) (e := 75) m_176 rfl rfl rfl (fun c17 => ?_) (fun c17 => ?_)
    · replace h := Ok_t c17 h
      refine ev_iload_n (pc' := 158) m_176 rfl rfl rfl ?_
      refine tr_cz (pc' := 161) m_176 rfl rfl rfl m_182 rfl rfl rfl rfl rfl rfl rfl rfl (cR_isDigit_ok x6_ _ _ (Ok_b h)) (fun x12_ x12_s h10 h => ?_)
      refine ev_if_eq (t := 251) (e := 164) m_176 rfl rfl rfl (fun c16 => ?_) (fun c16 => ?_)
      · replace h := Ok_t c16 h
        refine ev_aload_n (pc' := 252) m_176 rfl rfl rfl (ev_iload_n (pc' := 253) m_176 rfl rfl rfl ?_)
        refine tr_cv (pc' := 256) m_176 rfl rfl rfl m_184 rfl rfl rfl rfl (tr_rcv ts_o87 rfl) rfl rfl (cR_sign_ok x6_ _ _ (Ok_b h)) (fun s14 h => ?_)
        exact tr_rv m_176 rfl rfl (Ok_s h)
      · replace h := Ok_f c16 h
        refine ev_aload_n (pc' := 165) m_176 rfl rfl rfl (ev_iconst (pc' := 166) (x := 0) m_176 rfl rfl rfl (tr_pI (pc' := 169) (f := 1109) m_176 rfl rfl rfl ts_o87 rfl rfl rfl rfl ?_))
        exact am_Ev.sub (L := [(0, .ref 87), (2, .int ((0 : Int32)))]) ⟨rfl, rfl, trivial⟩ (cR_next_169_ok tm_N ((0 : Int32)) _ _ h)
    · replace h := Ok_f c17 h
      refine ev_aload_n (pc' := 76) m_176 rfl rfl rfl (ev_lconst (pc' := 77) (u := 0) m_176 rfl rfl rfl (tr_pJ (pc' := 80) (f := 1108) m_176 rfl rfl rfl ts_o87 rfl rfl rfl rfl ?_))
      exact am_Ev.sub (L := [(0, .ref 87), (2, .int ((0 : Int32)))]) ⟨rfl, rfl, trivial⟩ (cR_next_80_ok tm_N ((0 : Int32)) _ _ h)
  · replace h := Ok_t c18 h
    refine ev_aload_n (pc' := 61) m_176 rfl rfl rfl (ev_iconst (pc' := 62) (x := 0) m_176 rfl rfl rfl (tr_pI (pc' := 65) (f := 1106) m_176 rfl rfl rfl ts_o87 rfl rfl rfl rfl (ev_goto (pc' := 256) m_176 rfl rfl ?_)))
    exact tr_rv m_176 rfl rfl (Ok_s h)
def cR_next (s : ts) : Option (ts) := (cR_good s).bind (fun x3 => (if x3.1 = ((0 : Int32)) then some x3.2 else (if (gI x3.2 1106 0) = ((2 : Int32)) then (cR_peek x3.2).bind (fun x6 => (cR_isLetter x6.1 x6.2).bind (fun x9 => (if x9.1 = ((0 : Int32)) then cR_next_36 x9.2 else (cR_fail ((1 : Int32)) (gI x9.2 1105 0) x9.2).bind (fun s11 => some s11)))) else cR_next_36 x3.2)))
set_option maxRecDepth 20000 in
theorem cR_next_ok {d : Nat} (s : ts) (Q : ts → Prop) (h : Ok (cR_next s) Q) : am_Ev (d + 3) 176 (0, [(0, .ref 87)], []) (lay s) (tq_v Q) := by
  unfold cR_next at h
  refine ev_aload_n (pc' := 1) m_176 rfl rfl rfl ?_
  refine tr_cz (pc' := 4) m_176 rfl rfl rfl m_177 rfl rfl rfl rfl rfl (tr_rcv ts_o87 rfl) rfl rfl (cR_good_ok _ _ (Ok_b h)) (fun x3_ x3_s h1 h => ?_)
  refine ev_if_ne (t := 8) (e := 7) m_176 rfl rfl rfl (fun c15 => ?_) (fun c15 => ?_)
  · replace h := Ok_f c15 h
    refine ev_aload_n (pc' := 9) m_176 rfl rfl rfl (tr_get (pc' := 12) (v := .int (gI _ 1106 _)) m_176 rfl rfl ts_o87 rfl rfl rfl (ev_iconst (pc' := 13) (x := 2) m_176 rfl rfl rfl ?_))
    refine ev_icmp_ne (t := 36) (e := 16) m_176 rfl rfl rfl (fun c14 => ?_) (fun c14 => ?_)
    · replace h := Ok_f c14 h
      exact am_Ev.sub (L := [(0, .ref 87)]) ⟨rfl, trivial⟩ (cR_next_36_ok _ _ h)
    · replace h := Ok_t c14 h
      refine ev_aload_n (pc' := 17) m_176 rfl rfl rfl ?_
      refine tr_ci (pc' := 20) m_176 rfl rfl rfl m_178 rfl rfl rfl rfl (tr_rcv ts_o87 rfl) rfl rfl (cR_peek_ok _ _ (Ok_b h)) (fun x6_ x6_s h => ?_)
      refine tr_cz (pc' := 23) m_176 rfl rfl rfl m_179 rfl rfl rfl rfl rfl rfl rfl rfl (cR_isLetter_ok x6_ _ _ (Ok_b h)) (fun x9_ x9_s h7 h => ?_)
      refine ev_if_eq (t := 36) (e := 26) m_176 rfl rfl rfl (fun c13 => ?_) (fun c13 => ?_)
      · replace h := Ok_t c13 h
        exact am_Ev.sub (L := [(0, .ref 87)]) ⟨rfl, trivial⟩ (cR_next_36_ok _ _ h)
      · replace h := Ok_f c13 h
        refine ev_aload_n (pc' := 27) m_176 rfl rfl rfl (ev_iconst (pc' := 28) (x := 1) m_176 rfl rfl rfl (ev_aload_n (pc' := 29) m_176 rfl rfl rfl (tr_get (pc' := 32) (v := .int (gI _ 1105 _)) m_176 rfl rfl ts_o87 rfl rfl rfl ?_)))
        refine tr_cv (pc' := 35) m_176 rfl rfl rfl m_180 rfl rfl rfl rfl (tr_rcv ts_o87 rfl) rfl rfl (cR_fail_ok ((1 : Int32)) (gI x9_s 1105 0) _ _ (Ok_b h)) (fun s11 h => ?_)
        exact tr_rv m_176 rfl rfl (Ok_s h)
  · replace h := Ok_t c15 h
    exact tr_rv m_176 rfl rfl (Ok_s h)
def cR_reserved_17_b (kk : Int64 → Int32 → Int32 → ts → Option (Int32 × ts)) (l1 : Int64) (l3 : Int32) (l4 : Int32) (s : ts) : Option (Int32 × ts) := (if gWok s = true then (if (Int32.ofNat (gWn s)) ≤ l4 then some ((-1 : Int32), s) else (if am_idx l4 (gWn s) = true then (if (gW s l4.toNatClampNeg) = ((32 : Int32)) then (if (lg_cmp l1 (gJ s 1108 0)) = ((0 : Int32)) then some (l3, s) else kk ((0 : Int64)) (l3 + (1 : Int32)) (l4 + (1 : Int32)) s) else kk ((l1 <<< (((8 : Int32)).toInt64 &&& 63)) ||| ((gW s l4.toNatClampNeg).toInt64)) l3 (l4 + (1 : Int32)) s) else none)) else none)
def cR_reserved_17 : Nat → Int64 → Int32 → Int32 → ts → Option (Int32 × ts)
  | 0, _, _, _, _ => none
  | n + 1, l1, l3, l4, s => cR_reserved_17_b (cR_reserved_17 n) l1 l3 l4 s
set_option maxRecDepth 20000 in
theorem cR_reserved_17_ok {d : Nat} : ∀ (n : Nat) (l1 : Int64) (l3 : Int32) (l4 : Int32) (s : ts) (Q : Int32 × ts → Prop), Ok (cR_reserved_17 n l1 l3 l4 s) Q → am_Ev (d + 0) 185 (17, [(0, .ref 87), (1, .long (l1)), (3, .int (l3)), (4, .int (l4))], []) (lay s) (tq_i Q) := by
  intro n
  induction n with
  | zero => intro l1 l3 l4 s Q h; exact Ok_n h
  | succ n ih =>
    intro l1 l3 l4 s Q h
    rw [cR_reserved_17.eq_2] at h
    unfold cR_reserved_17_b at h
    refine ev_iload (pc' := 19) m_185 rfl rfl rfl (tr_wst (pc' := 22) m_185 rfl rfl rfl ?_)
    obtain ⟨g1, h⟩ := Ok_g h
    refine tr_wlen (pc' := 23) m_185 rfl g1 rfl ?_
    refine ev_icmp_ge (t := 75) (e := 26) m_185 rfl rfl rfl (fun c5 => ?_) (fun c5 => ?_)
    · replace h := Ok_t c5 h
      refine ev_iconst (pc' := 76) (x := -1) m_185 rfl rfl rfl ?_
      exact tr_ri m_185 rfl rfl (Ok_s h)
    · replace h := Ok_f c5 h
      refine tr_wst (pc' := 29) m_185 rfl rfl rfl (ev_iload (pc' := 31) m_185 rfl rfl rfl ?_)
      obtain ⟨g2, h⟩ := Ok_g h
      refine tr_wld (pc' := 32) m_185 rfl g1 g2 rfl ?_
      refine ev_bipush (pc' := 34) (x := 32) m_185 rfl rfl rfl ?_
      refine ev_icmp_ne (t := 56) (e := 37) m_185 rfl rfl rfl (fun c4 => ?_) (fun c4 => ?_)
      · replace h := Ok_f c4 h
        refine ev_lload_n (pc' := 57) m_185 rfl rfl rfl (ev_bipush (pc' := 59) (x := 8) m_185 rfl rfl rfl (ev_lshl (pc' := 60) m_185 rfl rfl (tr_wst (pc' := 63) m_185 rfl rfl rfl (ev_iload (pc' := 65) m_185 rfl rfl rfl ?_))))
        refine tr_wld (pc' := 66) m_185 rfl g1 g2 rfl ?_
        refine ev_i2l (pc' := 67) m_185 rfl rfl (ev_lor (pc' := 68) m_185 rfl rfl (ev_lstore_n (pc' := 69) m_185 rfl rfl rfl rfl (ev_iinc (pc' := 72) (z := 1) m_185 rfl rfl rfl rfl rfl rfl (ev_goto (pc' := 17) m_185 rfl rfl ?_))))
        exact am_Ev.sub (L := [(0, .ref 87), (1, .long ((l1 <<< (((8 : Int32)).toInt64 &&& 63)) ||| ((gW s l4.toNatClampNeg).toInt64))), (3, .int (l3)), (4, .int (l4 + (1 : Int32)))]) ⟨rfl, rfl, rfl, rfl, trivial⟩ (ih ((l1 <<< (((8 : Int32)).toInt64 &&& 63)) ||| ((gW s l4.toNatClampNeg).toInt64)) l3 (l4 + (1 : Int32)) _ _ h)
      · replace h := Ok_t c4 h
        refine ev_lload_n (pc' := 38) m_185 rfl rfl rfl (ev_aload_n (pc' := 39) m_185 rfl rfl rfl (tr_get (pc' := 42) (v := .long (gJ _ 1108 _)) m_185 rfl rfl ts_o87 rfl rfl rfl (ev_lcmp (pc' := 43) m_185 rfl rfl ?_)))
        refine ev_if_ne (t := 48) (e := 46) m_185 rfl rfl rfl (fun c3 => ?_) (fun c3 => ?_)
        · replace h := Ok_f c3 h
          refine ev_iinc (pc' := 51) (z := 1) m_185 rfl rfl rfl rfl rfl rfl (ev_lconst (pc' := 52) (u := 0) m_185 rfl rfl rfl (ev_lstore_n (pc' := 53) m_185 rfl rfl rfl rfl (ev_goto (pc' := 69) m_185 rfl rfl (ev_iinc (pc' := 72) (z := 1) m_185 rfl rfl rfl rfl rfl rfl (ev_goto (pc' := 17) m_185 rfl rfl ?_)))))
          exact am_Ev.sub (L := [(0, .ref 87), (1, .long ((0 : Int64))), (3, .int (l3 + (1 : Int32))), (4, .int (l4 + (1 : Int32)))]) ⟨rfl, rfl, rfl, rfl, trivial⟩ (ih ((0 : Int64)) (l3 + (1 : Int32)) (l4 + (1 : Int32)) _ _ h)
        · replace h := Ok_t c3 h
          refine ev_iload_n (pc' := 47) m_185 rfl rfl rfl ?_
          exact tr_ri m_185 rfl rfl (Ok_s h)
def cR_reserved (s : ts) : Option (Int32 × ts) := (if (gI s 1106 0) = ((1 : Int32)) then cR_reserved_17 tm_N ((0 : Int64)) ((0 : Int32)) ((0 : Int32)) s else some ((-1 : Int32), s))
set_option maxRecDepth 20000 in
theorem cR_reserved_ok {d : Nat} (s : ts) (Q : Int32 × ts → Prop) (h : Ok (cR_reserved s) Q) : am_Ev (d + 0) 185 (0, [(0, .ref 87)], []) (lay s) (tq_i Q) := by
  unfold cR_reserved at h
  refine ev_aload_n (pc' := 1) m_185 rfl rfl rfl (tr_get (pc' := 4) (v := .int (gI _ 1106 _)) m_185 rfl rfl ts_o87 rfl rfl rfl (ev_iconst (pc' := 5) (x := 1) m_185 rfl rfl rfl ?_))
  refine ev_icmp_eq (t := 10) (e := 8) m_185 rfl rfl rfl (fun c1 => ?_) (fun c1 => ?_)
  · replace h := Ok_t c1 h
    refine ev_lconst (pc' := 11) (u := 0) m_185 rfl rfl rfl (ev_lstore_n (pc' := 12) m_185 rfl rfl rfl rfl (ev_iconst (pc' := 13) (x := 0) m_185 rfl rfl rfl (ev_istore_n (pc' := 14) m_185 rfl rfl rfl rfl (ev_iconst (pc' := 15) (x := 0) m_185 rfl rfl rfl (ev_istore (pc' := 17) m_185 rfl rfl rfl rfl ?_)))))
    exact am_Ev.sub (L := [(0, .ref 87), (1, .long ((0 : Int64))), (3, .int ((0 : Int32))), (4, .int ((0 : Int32)))]) ⟨rfl, rfl, rfl, rfl, trivial⟩ (cR_reserved_17_ok tm_N ((0 : Int64)) ((0 : Int32)) ((0 : Int32)) _ _ h)
  · replace h := Ok_f c1 h
    refine ev_iconst (pc' := 9) (x := -1) m_185 rfl rfl rfl ?_
    exact tr_ri m_185 rfl rfl (Ok_s h)
def cR_findResource_2_b (kk : Int64 → Int32 → ts → Option (Int32 × ts)) (l1 : Int64) (l3 : Int32) (s : ts) : Option (Int32 × ts) := (if (gI s 1110 0) ≤ l3 then some ((-1 : Int32), s) else (if am_idx l3 8 = true then (if (lg_cmp (gB s 89 l3.toNatClampNeg) l1) = ((0 : Int32)) then some (l3, s) else kk l1 (l3 + (1 : Int32)) s) else none))
def cR_findResource_2 : Nat → Int64 → Int32 → ts → Option (Int32 × ts)
  | 0, _, _, _ => none
  | n + 1, l1, l3, s => cR_findResource_2_b (cR_findResource_2 n) l1 l3 s
set_option maxRecDepth 20000 in
theorem cR_findResource_2_ok {d : Nat} : ∀ (n : Nat) (l1 : Int64) (l3 : Int32) (s : ts) (Q : Int32 × ts → Prop), Ok (cR_findResource_2 n l1 l3 s) Q → am_Ev (d + 0) 188 (2, [(0, .ref 87), (1, .long (l1)), (3, .int (l3))], []) (lay s) (tq_i Q) := by
  intro n
  induction n with
  | zero => intro l1 l3 s Q h; exact Ok_n h
  | succ n ih =>
    intro l1 l3 s Q h
    rw [cR_findResource_2.eq_2] at h
    unfold cR_findResource_2_b at h
    refine ev_iload_n (pc' := 3) m_188 rfl rfl rfl (ev_aload_n (pc' := 4) m_188 rfl rfl rfl (tr_get (pc' := 7) (v := .int (gI _ 1110 _)) m_188 rfl rfl ts_o87 rfl rfl rfl ?_))
    refine ev_icmp_ge (t := 29) (e := 10) m_188 rfl rfl rfl (fun c3 => ?_) (fun c3 => ?_)
    · replace h := Ok_t c3 h
      refine ev_iconst (pc' := 30) (x := -1) m_188 rfl rfl rfl ?_
      exact tr_ri m_188 rfl rfl (Ok_s h)
    · replace h := Ok_f c3 h
      refine ev_aload_n (pc' := 11) m_188 rfl rfl rfl (tr_get (pc' := 14) (v := .ref 89) m_188 rfl rfl ts_o87 rfl rfl rfl (ev_iload_n (pc' := 15) m_188 rfl rfl rfl ?_))
      obtain ⟨g1, h⟩ := Ok_g h
      refine tr_lald (pc' := 16) m_188 rfl rfl rfl g1 rfl (ev_lload_n (pc' := 17) m_188 rfl rfl rfl (ev_lcmp (pc' := 18) m_188 rfl rfl ?_))
      refine ev_if_ne (t := 23) (e := 21) m_188 rfl rfl rfl (fun c2 => ?_) (fun c2 => ?_)
      · replace h := Ok_f c2 h
        refine ev_iinc (pc' := 26) (z := 1) m_188 rfl rfl rfl rfl rfl rfl (ev_goto (pc' := 2) m_188 rfl rfl ?_)
        exact am_Ev.sub (L := [(0, .ref 87), (1, .long (l1)), (3, .int (l3 + (1 : Int32)))]) ⟨rfl, rfl, rfl, trivial⟩ (ih l1 (l3 + (1 : Int32)) _ _ h)
      · replace h := Ok_t c2 h
        refine ev_iload_n (pc' := 22) m_188 rfl rfl rfl ?_
        exact tr_ri m_188 rfl rfl (Ok_s h)
def cR_findResource (l1 : Int64) (s : ts) : Option (Int32 × ts) := cR_findResource_2 tm_N l1 ((0 : Int32)) s
set_option maxRecDepth 20000 in
theorem cR_findResource_ok {d : Nat} (l1 : Int64) (s : ts) (Q : Int32 × ts → Prop) (h : Ok (cR_findResource l1 s) Q) : am_Ev (d + 0) 188 (0, [(0, .ref 87), (1, .long (l1))], []) (lay s) (tq_i Q) := by
  unfold cR_findResource at h
  refine ev_iconst (pc' := 1) (x := 0) m_188 rfl rfl rfl (ev_istore_n (pc' := 2) m_188 rfl rfl rfl rfl ?_)
  exact am_Ev.sub (L := [(0, .ref 87), (1, .long (l1)), (3, .int ((0 : Int32)))]) ⟨rfl, rfl, rfl, trivial⟩ (cR_findResource_2_ok tm_N l1 ((0 : Int32)) _ _ h)
def cR_findStore_2_b (kk : Int64 → Int32 → ts → Option (Int32 × ts)) (l1 : Int64) (l3 : Int32) (s : ts) : Option (Int32 × ts) := (if (gI s 1113 0) ≤ l3 then some ((-1 : Int32), s) else (if am_idx l3 6 = true then (if (lg_cmp (gB s 91 l3.toNatClampNeg) l1) = ((0 : Int32)) then some (l3, s) else kk l1 (l3 + (1 : Int32)) s) else none))
def cR_findStore_2 : Nat → Int64 → Int32 → ts → Option (Int32 × ts)
  | 0, _, _, _ => none
  | n + 1, l1, l3, s => cR_findStore_2_b (cR_findStore_2 n) l1 l3 s
set_option maxRecDepth 20000 in
theorem cR_findStore_2_ok {d : Nat} : ∀ (n : Nat) (l1 : Int64) (l3 : Int32) (s : ts) (Q : Int32 × ts → Prop), Ok (cR_findStore_2 n l1 l3 s) Q → am_Ev (d + 0) 189 (2, [(0, .ref 87), (1, .long (l1)), (3, .int (l3))], []) (lay s) (tq_i Q) := by
  intro n
  induction n with
  | zero => intro l1 l3 s Q h; exact Ok_n h
  | succ n ih =>
    intro l1 l3 s Q h
    rw [cR_findStore_2.eq_2] at h
    unfold cR_findStore_2_b at h
    refine ev_iload_n (pc' := 3) m_189 rfl rfl rfl (ev_aload_n (pc' := 4) m_189 rfl rfl rfl (tr_get (pc' := 7) (v := .int (gI _ 1113 _)) m_189 rfl rfl ts_o87 rfl rfl rfl ?_))
    refine ev_icmp_ge (t := 29) (e := 10) m_189 rfl rfl rfl (fun c3 => ?_) (fun c3 => ?_)
    · replace h := Ok_t c3 h
      refine ev_iconst (pc' := 30) (x := -1) m_189 rfl rfl rfl ?_
      exact tr_ri m_189 rfl rfl (Ok_s h)
    · replace h := Ok_f c3 h
      refine ev_aload_n (pc' := 11) m_189 rfl rfl rfl (tr_get (pc' := 14) (v := .ref 91) m_189 rfl rfl ts_o87 rfl rfl rfl (ev_iload_n (pc' := 15) m_189 rfl rfl rfl ?_))
      obtain ⟨g1, h⟩ := Ok_g h
      refine tr_lald (pc' := 16) m_189 rfl rfl rfl g1 rfl (ev_lload_n (pc' := 17) m_189 rfl rfl rfl (ev_lcmp (pc' := 18) m_189 rfl rfl ?_))
      refine ev_if_ne (t := 23) (e := 21) m_189 rfl rfl rfl (fun c2 => ?_) (fun c2 => ?_)
      · replace h := Ok_f c2 h
        refine ev_iinc (pc' := 26) (z := 1) m_189 rfl rfl rfl rfl rfl rfl (ev_goto (pc' := 2) m_189 rfl rfl ?_)
        exact am_Ev.sub (L := [(0, .ref 87), (1, .long (l1)), (3, .int (l3 + (1 : Int32)))]) ⟨rfl, rfl, rfl, trivial⟩ (ih l1 (l3 + (1 : Int32)) _ _ h)
      · replace h := Ok_t c2 h
        refine ev_iload_n (pc' := 22) m_189 rfl rfl rfl ?_
        exact tr_ri m_189 rfl rfl (Ok_s h)
def cR_findStore (l1 : Int64) (s : ts) : Option (Int32 × ts) := cR_findStore_2 tm_N l1 ((0 : Int32)) s
set_option maxRecDepth 20000 in
theorem cR_findStore_ok {d : Nat} (l1 : Int64) (s : ts) (Q : Int32 × ts → Prop) (h : Ok (cR_findStore l1 s) Q) : am_Ev (d + 0) 189 (0, [(0, .ref 87), (1, .long (l1))], []) (lay s) (tq_i Q) := by
  unfold cR_findStore at h
  refine ev_iconst (pc' := 1) (x := 0) m_189 rfl rfl rfl (ev_istore_n (pc' := 2) m_189 rfl rfl rfl rfl ?_)
  exact am_Ev.sub (L := [(0, .ref 87), (1, .long (l1)), (3, .int ((0 : Int32)))]) ⟨rfl, rfl, rfl, trivial⟩ (cR_findStore_2_ok tm_N l1 ((0 : Int32)) _ _ h)
def cR_findDefinition_2_b (kk : Int64 → Int32 → ts → Option (Int32 × ts)) (l1 : Int64) (l3 : Int32) (s : ts) : Option (Int32 × ts) := (if (gI s 1119 0) ≤ l3 then some ((-1 : Int32), s) else (if am_idx l3 12 = true then (if (lg_cmp (gB s 95 l3.toNatClampNeg) l1) = ((0 : Int32)) then some (l3, s) else kk l1 (l3 + (1 : Int32)) s) else none))
def cR_findDefinition_2 : Nat → Int64 → Int32 → ts → Option (Int32 × ts)
  | 0, _, _, _ => none
  | n + 1, l1, l3, s => cR_findDefinition_2_b (cR_findDefinition_2 n) l1 l3 s
set_option maxRecDepth 20000 in
theorem cR_findDefinition_2_ok {d : Nat} : ∀ (n : Nat) (l1 : Int64) (l3 : Int32) (s : ts) (Q : Int32 × ts → Prop), Ok (cR_findDefinition_2 n l1 l3 s) Q → am_Ev (d + 0) 190 (2, [(0, .ref 87), (1, .long (l1)), (3, .int (l3))], []) (lay s) (tq_i Q) := by
  intro n
  induction n with
  | zero => intro l1 l3 s Q h; exact Ok_n h
  | succ n ih =>
    intro l1 l3 s Q h
    rw [cR_findDefinition_2.eq_2] at h
    unfold cR_findDefinition_2_b at h
    refine ev_iload_n (pc' := 3) m_190 rfl rfl rfl (ev_aload_n (pc' := 4) m_190 rfl rfl rfl (tr_get (pc' := 7) (v := .int (gI _ 1119 _)) m_190 rfl rfl ts_o87 rfl rfl rfl ?_))
    refine ev_icmp_ge (t := 29) (e := 10) m_190 rfl rfl rfl (fun c3 => ?_) (fun c3 => ?_)
    · replace h := Ok_t c3 h
      refine ev_iconst (pc' := 30) (x := -1) m_190 rfl rfl rfl ?_
      exact tr_ri m_190 rfl rfl (Ok_s h)
    · replace h := Ok_f c3 h
      refine ev_aload_n (pc' := 11) m_190 rfl rfl rfl (tr_get (pc' := 14) (v := .ref 95) m_190 rfl rfl ts_o87 rfl rfl rfl (ev_iload_n (pc' := 15) m_190 rfl rfl rfl ?_))
      obtain ⟨g1, h⟩ := Ok_g h
      refine tr_lald (pc' := 16) m_190 rfl rfl rfl g1 rfl (ev_lload_n (pc' := 17) m_190 rfl rfl rfl (ev_lcmp (pc' := 18) m_190 rfl rfl ?_))
      refine ev_if_ne (t := 23) (e := 21) m_190 rfl rfl rfl (fun c2 => ?_) (fun c2 => ?_)
      · replace h := Ok_f c2 h
        refine ev_iinc (pc' := 26) (z := 1) m_190 rfl rfl rfl rfl rfl rfl (ev_goto (pc' := 2) m_190 rfl rfl ?_)
        exact am_Ev.sub (L := [(0, .ref 87), (1, .long (l1)), (3, .int (l3 + (1 : Int32)))]) ⟨rfl, rfl, rfl, trivial⟩ (ih l1 (l3 + (1 : Int32)) _ _ h)
      · replace h := Ok_t c2 h
        refine ev_iload_n (pc' := 22) m_190 rfl rfl rfl ?_
        exact tr_ri m_190 rfl rfl (Ok_s h)
def cR_findDefinition (l1 : Int64) (s : ts) : Option (Int32 × ts) := cR_findDefinition_2 tm_N l1 ((0 : Int32)) s
set_option maxRecDepth 20000 in
theorem cR_findDefinition_ok {d : Nat} (l1 : Int64) (s : ts) (Q : Int32 × ts → Prop) (h : Ok (cR_findDefinition l1 s) Q) : am_Ev (d + 0) 190 (0, [(0, .ref 87), (1, .long (l1))], []) (lay s) (tq_i Q) := by
  unfold cR_findDefinition at h
  refine ev_iconst (pc' := 1) (x := 0) m_190 rfl rfl rfl (ev_istore_n (pc' := 2) m_190 rfl rfl rfl rfl ?_)
  exact am_Ev.sub (L := [(0, .ref 87), (1, .long (l1)), (3, .int ((0 : Int32)))]) ⟨rfl, rfl, rfl, trivial⟩ (cR_findDefinition_2_ok tm_N l1 ((0 : Int32)) _ _ h)
def cR_findLocal_2_b (kk : Int64 → Int32 → ts → Option (Int32 × ts)) (l1 : Int64) (l3 : Int32) (s : ts) : Option (Int32 × ts) := (if (gI s 1123 0) ≤ l3 then some ((-1 : Int32), s) else (if am_idx l3 8 = true then (if (lg_cmp (gB s 98 l3.toNatClampNeg) l1) = ((0 : Int32)) then some (l3, s) else kk l1 (l3 + (1 : Int32)) s) else none))
def cR_findLocal_2 : Nat → Int64 → Int32 → ts → Option (Int32 × ts)
  | 0, _, _, _ => none
  | n + 1, l1, l3, s => cR_findLocal_2_b (cR_findLocal_2 n) l1 l3 s
set_option maxRecDepth 20000 in
theorem cR_findLocal_2_ok {d : Nat} : ∀ (n : Nat) (l1 : Int64) (l3 : Int32) (s : ts) (Q : Int32 × ts → Prop), Ok (cR_findLocal_2 n l1 l3 s) Q → am_Ev (d + 0) 191 (2, [(0, .ref 87), (1, .long (l1)), (3, .int (l3))], []) (lay s) (tq_i Q) := by
  intro n
  induction n with
  | zero => intro l1 l3 s Q h; exact Ok_n h
  | succ n ih =>
    intro l1 l3 s Q h
    rw [cR_findLocal_2.eq_2] at h
    unfold cR_findLocal_2_b at h
    refine ev_iload_n (pc' := 3) m_191 rfl rfl rfl (ev_aload_n (pc' := 4) m_191 rfl rfl rfl (tr_get (pc' := 7) (v := .int (gI _ 1123 _)) m_191 rfl rfl ts_o87 rfl rfl rfl ?_))
    refine ev_icmp_ge (t := 29) (e := 10) m_191 rfl rfl rfl (fun c3 => ?_) (fun c3 => ?_)
    · replace h := Ok_t c3 h
      refine ev_iconst (pc' := 30) (x := -1) m_191 rfl rfl rfl ?_
      exact tr_ri m_191 rfl rfl (Ok_s h)
    · replace h := Ok_f c3 h
      refine ev_aload_n (pc' := 11) m_191 rfl rfl rfl (tr_get (pc' := 14) (v := .ref 98) m_191 rfl rfl ts_o87 rfl rfl rfl (ev_iload_n (pc' := 15) m_191 rfl rfl rfl ?_))
      obtain ⟨g1, h⟩ := Ok_g h
      refine tr_lald (pc' := 16) m_191 rfl rfl rfl g1 rfl (ev_lload_n (pc' := 17) m_191 rfl rfl rfl (ev_lcmp (pc' := 18) m_191 rfl rfl ?_))
      refine ev_if_ne (t := 23) (e := 21) m_191 rfl rfl rfl (fun c2 => ?_) (fun c2 => ?_)
      · replace h := Ok_f c2 h
        refine ev_iinc (pc' := 26) (z := 1) m_191 rfl rfl rfl rfl rfl rfl (ev_goto (pc' := 2) m_191 rfl rfl ?_)
        exact am_Ev.sub (L := [(0, .ref 87), (1, .long (l1)), (3, .int (l3 + (1 : Int32)))]) ⟨rfl, rfl, rfl, trivial⟩ (ih l1 (l3 + (1 : Int32)) _ _ h)
      · replace h := Ok_t c2 h
        refine ev_iload_n (pc' := 22) m_191 rfl rfl rfl ?_
        exact tr_ri m_191 rfl rfl (Ok_s h)
def cR_findLocal (l1 : Int64) (s : ts) : Option (Int32 × ts) := cR_findLocal_2 tm_N l1 ((0 : Int32)) s
set_option maxRecDepth 20000 in
theorem cR_findLocal_ok {d : Nat} (l1 : Int64) (s : ts) (Q : Int32 × ts → Prop) (h : Ok (cR_findLocal l1 s) Q) : am_Ev (d + 0) 191 (0, [(0, .ref 87), (1, .long (l1))], []) (lay s) (tq_i Q) := by
  unfold cR_findLocal at h
  refine ev_iconst (pc' := 1) (x := 0) m_191 rfl rfl rfl (ev_istore_n (pc' := 2) m_191 rfl rfl rfl rfl ?_)
  exact am_Ev.sub (L := [(0, .ref 87), (1, .long (l1)), (3, .int ((0 : Int32)))]) ⟨rfl, rfl, rfl, trivial⟩ (cR_findLocal_2_ok tm_N l1 ((0 : Int32)) _ _ h)
def cR_findNumber_2_b (kk : Int64 → Int32 → ts → Option (Int32 × ts)) (l1 : Int64) (l3 : Int32) (s : ts) : Option (Int32 × ts) := (if (gI s 1117 0) ≤ l3 then some ((-1 : Int32), s) else (if am_idx l3 16 = true then (if (lg_cmp (gB s 94 l3.toNatClampNeg) l1) = ((0 : Int32)) then some (l3, s) else kk l1 (l3 + (1 : Int32)) s) else none))
def cR_findNumber_2 : Nat → Int64 → Int32 → ts → Option (Int32 × ts)
  | 0, _, _, _ => none
  | n + 1, l1, l3, s => cR_findNumber_2_b (cR_findNumber_2 n) l1 l3 s
set_option maxRecDepth 20000 in
theorem cR_findNumber_2_ok {d : Nat} : ∀ (n : Nat) (l1 : Int64) (l3 : Int32) (s : ts) (Q : Int32 × ts → Prop), Ok (cR_findNumber_2 n l1 l3 s) Q → am_Ev (d + 0) 192 (2, [(0, .ref 87), (1, .long (l1)), (3, .int (l3))], []) (lay s) (tq_i Q) := by
  intro n
  induction n with
  | zero => intro l1 l3 s Q h; exact Ok_n h
  | succ n ih =>
    intro l1 l3 s Q h
    rw [cR_findNumber_2.eq_2] at h
    unfold cR_findNumber_2_b at h
    refine ev_iload_n (pc' := 3) m_192 rfl rfl rfl (ev_aload_n (pc' := 4) m_192 rfl rfl rfl (tr_get (pc' := 7) (v := .int (gI _ 1117 _)) m_192 rfl rfl ts_o87 rfl rfl rfl ?_))
    refine ev_icmp_ge (t := 29) (e := 10) m_192 rfl rfl rfl (fun c3 => ?_) (fun c3 => ?_)
    · replace h := Ok_t c3 h
      refine ev_iconst (pc' := 30) (x := -1) m_192 rfl rfl rfl ?_
      exact tr_ri m_192 rfl rfl (Ok_s h)
    · replace h := Ok_f c3 h
      refine ev_aload_n (pc' := 11) m_192 rfl rfl rfl (tr_get (pc' := 14) (v := .ref 94) m_192 rfl rfl ts_o87 rfl rfl rfl (ev_iload_n (pc' := 15) m_192 rfl rfl rfl ?_))
      obtain ⟨g1, h⟩ := Ok_g h
      refine tr_lald (pc' := 16) m_192 rfl rfl rfl g1 rfl (ev_lload_n (pc' := 17) m_192 rfl rfl rfl (ev_lcmp (pc' := 18) m_192 rfl rfl ?_))
      refine ev_if_ne (t := 23) (e := 21) m_192 rfl rfl rfl (fun c2 => ?_) (fun c2 => ?_)
      · replace h := Ok_f c2 h
        refine ev_iinc (pc' := 26) (z := 1) m_192 rfl rfl rfl rfl rfl rfl (ev_goto (pc' := 2) m_192 rfl rfl ?_)
        exact am_Ev.sub (L := [(0, .ref 87), (1, .long (l1)), (3, .int (l3 + (1 : Int32)))]) ⟨rfl, rfl, rfl, trivial⟩ (ih l1 (l3 + (1 : Int32)) _ _ h)
      · replace h := Ok_t c2 h
        refine ev_iload_n (pc' := 22) m_192 rfl rfl rfl ?_
        exact tr_ri m_192 rfl rfl (Ok_s h)
def cR_findNumber (l1 : Int64) (s : ts) : Option (Int32 × ts) := cR_findNumber_2 tm_N l1 ((0 : Int32)) s
set_option maxRecDepth 20000 in
theorem cR_findNumber_ok {d : Nat} (l1 : Int64) (s : ts) (Q : Int32 × ts → Prop) (h : Ok (cR_findNumber l1 s) Q) : am_Ev (d + 0) 192 (0, [(0, .ref 87), (1, .long (l1))], []) (lay s) (tq_i Q) := by
  unfold cR_findNumber at h
  refine ev_iconst (pc' := 1) (x := 0) m_192 rfl rfl rfl (ev_istore_n (pc' := 2) m_192 rfl rfl rfl rfl ?_)
  exact am_Ev.sub (L := [(0, .ref 87), (1, .long (l1)), (3, .int ((0 : Int32)))]) ⟨rfl, rfl, rfl, trivial⟩ (cR_findNumber_2_ok tm_N l1 ((0 : Int32)) _ _ h)
def cR_freshName_123 (t1 : Int32) (s : ts) : Option (ts) := (cR_need t1 ((3 : Int32)) s).bind (fun s2 => some s2)
set_option maxRecDepth 20000 in
theorem cR_freshName_123_ok {d : Nat} (t1 : Int32) (s : ts) (Q : ts → Prop) (h : Ok (cR_freshName_123 t1 s) Q) : am_Ev (d + 2) 187 (123, [], [.int (t1), .ref 87]) (lay s) (tq_v Q) := by
  unfold cR_freshName_123 at h
  refine ev_iconst (pc' := 124) (x := 3) m_187 rfl rfl rfl ?_
  refine tr_cv (pc' := 127) m_187 rfl rfl rfl m_183 rfl rfl rfl rfl (tr_rcv ts_o87 rfl) rfl rfl (cR_need_ok t1 ((3 : Int32)) _ _ (Ok_b h)) (fun s2 h => ?_)
  exact tr_rv m_187 rfl rfl (Ok_s h)
def cR_freshName_104 (t0 : Int32) (s : ts) : Option (ts) := (cR_reserved s).bind (fun x3 => (if x3.1 = ((-1 : Int32)) then (if t0 = ((0 : Int32)) then cR_freshName_123 ((1 : Int32)) x3.2 else cR_freshName_123 ((0 : Int32)) x3.2) else cR_freshName_123 ((0 : Int32)) x3.2))
set_option maxRecDepth 20000 in
theorem cR_freshName_104_ok {d : Nat} (t0 : Int32) (s : ts) (Q : ts → Prop) (h : Ok (cR_freshName_104 t0 s) Q) : am_Ev (d + 2) 187 (104, [(0, .ref 87)], [.int (t0)]) (lay s) (tq_v Q) := by
  unfold cR_freshName_104 at h
  refine ev_istore_n (pc' := 105) m_187 rfl rfl rfl rfl (ev_aload_n (pc' := 106) m_187 rfl rfl rfl (ev_aload_n (pc' := 107) m_187 rfl rfl rfl ?_))
  refine tr_ci (pc' := 110) m_187 rfl rfl rfl m_185 rfl rfl rfl rfl (tr_rcv ts_o87 rfl) rfl rfl (cR_reserved_ok _ _ (Ok_b h)) (fun x3_ x3_s h => ?_)
  refine ev_iconst (pc' := 111) (x := -1) m_187 rfl rfl rfl ?_
  refine ev_icmp_ne (t := 122) (e := 114) m_187 rfl rfl rfl (fun c5 => ?_) (fun c5 => ?_)
  · replace h := Ok_f c5 h
    refine ev_iconst (pc' := 123) (x := 0) m_187 rfl rfl rfl ?_
    exact am_Ev.sub (L := []) trivial (cR_freshName_123_ok ((0 : Int32)) _ _ h)
  · replace h := Ok_t c5 h
    refine ev_iload_n (pc' := 115) m_187 rfl rfl rfl ?_
    refine ev_if_ne (t := 122) (e := 118) m_187 rfl rfl rfl (fun c4 => ?_) (fun c4 => ?_)
    · replace h := Ok_f c4 h
      refine ev_iconst (pc' := 123) (x := 0) m_187 rfl rfl rfl ?_
      exact am_Ev.sub (L := []) trivial (cR_freshName_123_ok ((0 : Int32)) _ _ h)
    · replace h := Ok_t c4 h
      refine ev_iconst (pc' := 119) (x := 1) m_187 rfl rfl rfl (ev_goto (pc' := 123) m_187 rfl rfl ?_)
      exact am_Ev.sub (L := []) trivial (cR_freshName_123_ok ((1 : Int32)) _ _ h)
def cR_freshName_25 (l1 : Int32) (s : ts) : Option (ts) := (cR_good s).bind (fun x3 => (if x3.1 = ((0 : Int32)) then some x3.2 else (cR_findResource (gJ x3.2 1108 0) x3.2).bind (fun x6 => (if x6.1 = ((-1 : Int32)) then (cR_findStore (gJ x6.2 1108 0) x6.2).bind (fun x9 => (if x9.1 = ((-1 : Int32)) then (cR_findDefinition (gJ x9.2 1108 0) x9.2).bind (fun x12 => (if x12.1 = ((-1 : Int32)) then (if l1 = ((0 : Int32)) then (cR_findNumber (gJ x12.2 1108 0) x12.2).bind (fun x15 => (if x15.1 = ((-1 : Int32)) then cR_freshName_104 ((0 : Int32)) x15.2 else cR_freshName_104 ((1 : Int32)) x15.2)) else (cR_findLocal (gJ x12.2 1108 0) x12.2).bind (fun x19 => (if x19.1 = ((-1 : Int32)) then cR_freshName_104 ((0 : Int32)) x19.2 else cR_freshName_104 ((1 : Int32)) x19.2))) else cR_freshName_104 ((1 : Int32)) x12.2)) else cR_freshName_104 ((1 : Int32)) x9.2)) else cR_freshName_104 ((1 : Int32)) x6.2))))
set_option maxRecDepth 20000 in
theorem cR_freshName_25_ok {d : Nat} (l1 : Int32) (s : ts) (Q : ts → Prop) (h : Ok (cR_freshName_25 l1 s) Q) : am_Ev (d + 2) 187 (25, [(0, .ref 87), (1, .int (l1))], []) (lay s) (tq_v Q) := by
  unfold cR_freshName_25 at h
  refine ev_aload_n (pc' := 26) m_187 rfl rfl rfl ?_
  refine tr_cz (pc' := 29) m_187 rfl rfl rfl m_177 rfl rfl rfl rfl rfl (tr_rcv ts_o87 rfl) rfl rfl (cR_good_ok _ _ (Ok_b h)) (fun x3_ x3_s h1 h => ?_)
  refine ev_if_eq (t := 127) (e := 32) m_187 rfl rfl rfl (fun c25 => ?_) (fun c25 => ?_)
  · replace h := Ok_t c25 h
    exact tr_rv m_187 rfl rfl (Ok_s h)
  · replace h := Ok_f c25 h
    refine ev_aload_n (pc' := 33) m_187 rfl rfl rfl (ev_aload_n (pc' := 34) m_187 rfl rfl rfl (tr_get (pc' := 37) (v := .long (gJ _ 1108 _)) m_187 rfl rfl ts_o87 rfl rfl rfl ?_))
    refine tr_ci (pc' := 40) m_187 rfl rfl rfl m_188 rfl rfl rfl rfl (tr_rcv ts_o87 rfl) rfl rfl (cR_findResource_ok (gJ x3_s 1108 0) _ _ (Ok_b h)) (fun x6_ x6_s h => ?_)
    refine ev_iconst (pc' := 41) (x := -1) m_187 rfl rfl rfl ?_
    refine ev_icmp_ne (t := 99) (e := 44) m_187 rfl rfl rfl (fun c24 => ?_) (fun c24 => ?_)
    · replace h := Ok_f c24 h
      refine ev_iconst (pc' := 100) (x := 1) m_187 rfl rfl rfl (ev_goto (pc' := 104) m_187 rfl rfl ?_)
      exact am_Ev.sub (L := [(0, .ref 87)]) ⟨rfl, trivial⟩ (cR_freshName_104_ok ((1 : Int32)) _ _ h)
    · replace h := Ok_t c24 h
      refine ev_aload_n (pc' := 45) m_187 rfl rfl rfl (ev_aload_n (pc' := 46) m_187 rfl rfl rfl (tr_get (pc' := 49) (v := .long (gJ _ 1108 _)) m_187 rfl rfl ts_o87 rfl rfl rfl ?_))
      refine tr_ci (pc' := 52) m_187 rfl rfl rfl m_189 rfl rfl rfl rfl (tr_rcv ts_o87 rfl) rfl rfl (cR_findStore_ok (gJ x6_s 1108 0) _ _ (Ok_b h)) (fun x9_ x9_s h => ?_)
      refine ev_iconst (pc' := 53) (x := -1) m_187 rfl rfl rfl ?_
      refine ev_icmp_ne (t := 99) (e := 56) m_187 rfl rfl rfl (fun c23 => ?_) (fun c23 => ?_)
      · replace h := Ok_f c23 h
        refine ev_iconst (pc' := 100) (x := 1) m_187 rfl rfl rfl (ev_goto (pc' := 104) m_187 rfl rfl ?_)
        exact am_Ev.sub (L := [(0, .ref 87)]) ⟨rfl, trivial⟩ (cR_freshName_104_ok ((1 : Int32)) _ _ h)
      · replace h := Ok_t c23 h
        refine ev_aload_n (pc' := 57) m_187 rfl rfl rfl (ev_aload_n (pc' := 58) m_187 rfl rfl rfl (tr_get (pc' := 61) (v := .long (gJ _ 1108 _)) m_187 rfl rfl ts_o87 rfl rfl rfl ?_))
        refine tr_ci (pc' := 64) m_187 rfl rfl rfl m_190 rfl rfl rfl rfl (tr_rcv ts_o87 rfl) rfl rfl (cR_findDefinition_ok (gJ x9_s 1108 0) _ _ (Ok_b h)) (fun x12_ x12_s h => ?_)
        refine ev_iconst (pc' := 65) (x := -1) m_187 rfl rfl rfl ?_
        refine ev_icmp_ne (t := 99) (e := 68) m_187 rfl rfl rfl (fun c22 => ?_) (fun c22 => ?_)
        · replace h := Ok_f c22 h
          refine ev_iconst (pc' := 100) (x := 1) m_187 rfl rfl rfl (ev_goto (pc' := 104) m_187 rfl rfl ?_)
          exact am_Ev.sub (L := [(0, .ref 87)]) ⟨rfl, trivial⟩ (cR_freshName_104_ok ((1 : Int32)) _ _ h)
        · replace h := Ok_t c22 h
          refine ev_iload_n (pc' := 69) m_187 rfl rfl rfl ?_
          refine ev_if_eq (t := 87) (e := 72) m_187 rfl rfl rfl (fun c21 => ?_) (fun c21 => ?_)
          · replace h := Ok_t c21 h
            refine ev_aload_n (pc' := 88) m_187 rfl rfl rfl (ev_aload_n (pc' := 89) m_187 rfl rfl rfl (tr_get (pc' := 92) (v := .long (gJ _ 1108 _)) m_187 rfl rfl ts_o87 rfl rfl rfl ?_))
            refine tr_ci (pc' := 95) m_187 rfl rfl rfl m_192 rfl rfl rfl rfl (tr_rcv ts_o87 rfl) rfl rfl (cR_findNumber_ok (gJ x12_s 1108 0) _ _ (Ok_b h)) (fun x15_ x15_s h => ?_)
            refine ev_iconst (pc' := 96) (x := -1) m_187 rfl rfl rfl ?_
            refine ev_icmp_eq (t := 103) (e := 99) m_187 rfl rfl rfl (fun c16 => ?_) (fun c16 => ?_)
            · replace h := Ok_t c16 h
              refine ev_iconst (pc' := 104) (x := 0) m_187 rfl rfl rfl ?_
              exact am_Ev.sub (L := [(0, .ref 87)]) ⟨rfl, trivial⟩ (cR_freshName_104_ok ((0 : Int32)) _ _ h)
            · replace h := Ok_f c16 h
              refine ev_iconst (pc' := 100) (x := 1) m_187 rfl rfl rfl (ev_goto (pc' := 104) m_187 rfl rfl ?_)
              exact am_Ev.sub (L := [(0, .ref 87)]) ⟨rfl, trivial⟩ (cR_freshName_104_ok ((1 : Int32)) _ _ h)
          · replace h := Ok_f c21 h
            refine ev_aload_n (pc' := 73) m_187 rfl rfl rfl (ev_aload_n (pc' := 74) m_187 rfl rfl rfl (tr_get (pc' := 77) (v := .long (gJ _ 1108 _)) m_187 rfl rfl ts_o87 rfl rfl rfl ?_))
            refine tr_ci (pc' := 80) m_187 rfl rfl rfl m_191 rfl rfl rfl rfl (tr_rcv ts_o87 rfl) rfl rfl (cR_findLocal_ok (gJ x12_s 1108 0) _ _ (Ok_b h)) (fun x19_ x19_s h => ?_)
            refine ev_iconst (pc' := 81) (x := -1) m_187 rfl rfl rfl ?_
            refine ev_icmp_eq (t := 103) (e := 84) m_187 rfl rfl rfl (fun c20 => ?_) (fun c20 => ?_)
            · replace h := Ok_t c20 h
              refine ev_iconst (pc' := 104) (x := 0) m_187 rfl rfl rfl ?_
              exact am_Ev.sub (L := [(0, .ref 87)]) ⟨rfl, trivial⟩ (cR_freshName_104_ok ((0 : Int32)) _ _ h)
            · replace h := Ok_f c20 h
              refine ev_goto (pc' := 99) m_187 rfl rfl (ev_iconst (pc' := 100) (x := 1) m_187 rfl rfl rfl (ev_goto (pc' := 104) m_187 rfl rfl ?_))
              exact am_Ev.sub (L := [(0, .ref 87)]) ⟨rfl, trivial⟩ (cR_freshName_104_ok ((1 : Int32)) _ _ h)
def cR_freshName_21 (l1 : Int32) (t1 : Int32) (s : ts) : Option (ts) := (cR_need t1 ((2 : Int32)) s).bind (fun s2 => cR_freshName_25 l1 s2)
set_option maxRecDepth 20000 in
theorem cR_freshName_21_ok {d : Nat} (l1 : Int32) (t1 : Int32) (s : ts) (Q : ts → Prop) (h : Ok (cR_freshName_21 l1 t1 s) Q) : am_Ev (d + 2) 187 (21, [(0, .ref 87), (1, .int (l1))], [.int (t1), .ref 87]) (lay s) (tq_v Q) := by
  unfold cR_freshName_21 at h
  refine ev_iconst (pc' := 22) (x := 2) m_187 rfl rfl rfl ?_
  refine tr_cv (pc' := 25) m_187 rfl rfl rfl m_183 rfl rfl rfl rfl (tr_rcv ts_o87 rfl) rfl rfl (cR_need_ok t1 ((2 : Int32)) _ _ (Ok_b h)) (fun s2 h => ?_)
  exact am_Ev.sub (L := [(0, .ref 87), (1, .int (l1))]) ⟨rfl, rfl, trivial⟩ (cR_freshName_25_ok l1 _ _ h)
def cR_freshName (l1 : Int32) (s : ts) : Option (ts) := (cR_good s).bind (fun x3 => (if x3.1 = ((0 : Int32)) then cR_freshName_25 l1 x3.2 else (if (gI x3.2 1106 0) = ((1 : Int32)) then cR_freshName_21 l1 ((1 : Int32)) x3.2 else cR_freshName_21 l1 ((0 : Int32)) x3.2)))
set_option maxRecDepth 20000 in
theorem cR_freshName_ok {d : Nat} (l1 : Int32) (s : ts) (Q : ts → Prop) (h : Ok (cR_freshName l1 s) Q) : am_Ev (d + 2) 187 (0, [(0, .ref 87), (1, .int (l1))], []) (lay s) (tq_v Q) := by
  unfold cR_freshName at h
  refine ev_aload_n (pc' := 1) m_187 rfl rfl rfl ?_
  refine tr_cz (pc' := 4) m_187 rfl rfl rfl m_177 rfl rfl rfl rfl rfl (tr_rcv ts_o87 rfl) rfl rfl (cR_good_ok _ _ (Ok_b h)) (fun x3_ x3_s h1 h => ?_)
  refine ev_if_eq (t := 25) (e := 7) m_187 rfl rfl rfl (fun c5 => ?_) (fun c5 => ?_)
  · replace h := Ok_t c5 h
    exact am_Ev.sub (L := [(0, .ref 87), (1, .int (l1))]) ⟨rfl, rfl, trivial⟩ (cR_freshName_25_ok l1 _ _ h)
  · replace h := Ok_f c5 h
    refine ev_aload_n (pc' := 8) m_187 rfl rfl rfl (ev_aload_n (pc' := 9) m_187 rfl rfl rfl (tr_get (pc' := 12) (v := .int (gI _ 1106 _)) m_187 rfl rfl ts_o87 rfl rfl rfl (ev_iconst (pc' := 13) (x := 1) m_187 rfl rfl rfl ?_)))
    refine ev_icmp_ne (t := 20) (e := 16) m_187 rfl rfl rfl (fun c4 => ?_) (fun c4 => ?_)
    · replace h := Ok_f c4 h
      refine ev_iconst (pc' := 21) (x := 0) m_187 rfl rfl rfl ?_
      exact am_Ev.sub (L := [(0, .ref 87), (1, .int (l1))]) ⟨rfl, rfl, trivial⟩ (cR_freshName_21_ok l1 ((0 : Int32)) _ _ h)
    · replace h := Ok_t c4 h
      refine ev_iconst (pc' := 17) (x := 1) m_187 rfl rfl rfl (ev_goto (pc' := 21) m_187 rfl rfl ?_)
      exact am_Ev.sub (L := [(0, .ref 87), (1, .int (l1))]) ⟨rfl, rfl, trivial⟩ (cR_freshName_21_ok l1 ((1 : Int32)) _ _ h)
def cR_limit (l1 : Int32) (s : ts) : Option (ts) := (cR_good s).bind (fun x3 => (if x3.1 = ((0 : Int32)) then some x3.2 else (cR_need l1 ((5 : Int32)) x3.2).bind (fun s5 => some s5)))
set_option maxRecDepth 20000 in
theorem cR_limit_ok {d : Nat} (l1 : Int32) (s : ts) (Q : ts → Prop) (h : Ok (cR_limit l1 s) Q) : am_Ev (d + 2) 193 (0, [(0, .ref 87), (1, .int (l1))], []) (lay s) (tq_v Q) := by
  unfold cR_limit at h
  refine ev_aload_n (pc' := 1) m_193 rfl rfl rfl ?_
  refine tr_cz (pc' := 4) m_193 rfl rfl rfl m_177 rfl rfl rfl rfl rfl (tr_rcv ts_o87 rfl) rfl rfl (cR_good_ok _ _ (Ok_b h)) (fun x3_ x3_s h1 h => ?_)
  refine ev_if_eq (t := 13) (e := 7) m_193 rfl rfl rfl (fun c7 => ?_) (fun c7 => ?_)
  · replace h := Ok_t c7 h
    exact tr_rv m_193 rfl rfl (Ok_s h)
  · replace h := Ok_f c7 h
    refine ev_aload_n (pc' := 8) m_193 rfl rfl rfl (ev_iload_n (pc' := 9) m_193 rfl rfl rfl (ev_iconst (pc' := 10) (x := 5) m_193 rfl rfl rfl ?_))
    refine tr_cv (pc' := 13) m_193 rfl rfl rfl m_183 rfl rfl rfl rfl (tr_rcv ts_o87 rfl) rfl rfl (cR_need_ok l1 ((5 : Int32)) _ _ (Ok_b h)) (fun s5 h => ?_)
    exact tr_rv m_193 rfl rfl (Ok_s h)
def cR_must_25 (s : ts) : Option (ts) := (cR_next s).bind (fun s2 => some s2)
set_option maxRecDepth 20000 in
theorem cR_must_25_ok {d : Nat} (s : ts) (Q : ts → Prop) (h : Ok (cR_must_25 s) Q) : am_Ev (d + 4) 194 (25, [(0, .ref 87)], []) (lay s) (tq_v Q) := by
  unfold cR_must_25 at h
  refine ev_aload_n (pc' := 26) m_194 rfl rfl rfl ?_
  refine tr_cv (pc' := 29) m_194 rfl rfl rfl m_176 rfl rfl rfl rfl (tr_rcv ts_o87 rfl) rfl rfl (cR_next_ok _ _ (Ok_b h)) (fun s2 h => ?_)
  exact tr_rv m_194 rfl rfl (Ok_s h)
def cR_must_21 (t1 : Int32) (s : ts) : Option (ts) := (cR_need t1 ((2 : Int32)) s).bind (fun s2 => cR_must_25 s2)
set_option maxRecDepth 20000 in
theorem cR_must_21_ok {d : Nat} (t1 : Int32) (s : ts) (Q : ts → Prop) (h : Ok (cR_must_21 t1 s) Q) : am_Ev (d + 4) 194 (21, [(0, .ref 87)], [.int (t1), .ref 87]) (lay s) (tq_v Q) := by
  unfold cR_must_21 at h
  refine ev_iconst (pc' := 22) (x := 2) m_194 rfl rfl rfl ?_
  refine tr_cv (pc' := 25) m_194 rfl rfl rfl m_183 rfl rfl rfl rfl (tr_rcv ts_o87 rfl) rfl rfl (cR_need_ok t1 ((2 : Int32)) _ _ (Ok_b h)) (fun s2 h => ?_)
  exact am_Ev.sub (L := [(0, .ref 87)]) ⟨rfl, trivial⟩ (cR_must_25_ok _ _ h)
def cR_must (l1 : Int32) (s : ts) : Option (ts) := (cR_good s).bind (fun x3 => (if x3.1 = ((0 : Int32)) then cR_must_25 x3.2 else (if (gI x3.2 1106 0) = l1 then cR_must_21 ((1 : Int32)) x3.2 else cR_must_21 ((0 : Int32)) x3.2)))
set_option maxRecDepth 20000 in
theorem cR_must_ok {d : Nat} (l1 : Int32) (s : ts) (Q : ts → Prop) (h : Ok (cR_must l1 s) Q) : am_Ev (d + 4) 194 (0, [(0, .ref 87), (1, .int (l1))], []) (lay s) (tq_v Q) := by
  unfold cR_must at h
  refine ev_aload_n (pc' := 1) m_194 rfl rfl rfl ?_
  refine tr_cz (pc' := 4) m_194 rfl rfl rfl m_177 rfl rfl rfl rfl rfl (tr_rcv ts_o87 rfl) rfl rfl (cR_good_ok _ _ (Ok_b h)) (fun x3_ x3_s h1 h => ?_)
  refine ev_if_eq (t := 25) (e := 7) m_194 rfl rfl rfl (fun c5 => ?_) (fun c5 => ?_)
  · replace h := Ok_t c5 h
    exact am_Ev.sub (L := [(0, .ref 87)]) ⟨rfl, trivial⟩ (cR_must_25_ok _ _ h)
  · replace h := Ok_f c5 h
    refine ev_aload_n (pc' := 8) m_194 rfl rfl rfl (ev_aload_n (pc' := 9) m_194 rfl rfl rfl (tr_get (pc' := 12) (v := .int (gI _ 1106 _)) m_194 rfl rfl ts_o87 rfl rfl rfl (ev_iload_n (pc' := 13) m_194 rfl rfl rfl ?_)))
    refine ev_icmp_ne (t := 20) (e := 16) m_194 rfl rfl rfl (fun c4 => ?_) (fun c4 => ?_)
    · replace h := Ok_f c4 h
      refine ev_iconst (pc' := 21) (x := 0) m_194 rfl rfl rfl ?_
      exact am_Ev.sub (L := [(0, .ref 87)]) ⟨rfl, trivial⟩ (cR_must_21_ok ((0 : Int32)) _ _ h)
    · replace h := Ok_t c4 h
      refine ev_iconst (pc' := 17) (x := 1) m_194 rfl rfl rfl (ev_goto (pc' := 21) m_194 rfl rfl ?_)
      exact am_Ev.sub (L := [(0, .ref 87)]) ⟨rfl, trivial⟩ (cR_must_21_ok ((1 : Int32)) _ _ h)
def cR_takeResource_127 (s : ts) : Option (ts) := (cR_next s).bind (fun s2 => (cR_must ((59 : Int32)) s2).bind (fun s5 => some s5))
set_option maxRecDepth 20000 in
theorem cR_takeResource_127_ok {d : Nat} (s : ts) (Q : ts → Prop) (h : Ok (cR_takeResource_127 s) Q) : am_Ev (d + 5) 186 (127, [(0, .ref 87)], []) (lay s) (tq_v Q) := by
  unfold cR_takeResource_127 at h
  refine ev_aload_n (pc' := 128) m_186 rfl rfl rfl ?_
  refine tr_cv (pc' := 131) m_186 rfl rfl rfl m_176 rfl rfl rfl rfl (tr_rcv ts_o87 rfl) rfl rfl (cR_next_ok _ _ (Ok_b h)) (fun s2 h => ?_)
  refine ev_aload_n (pc' := 132) m_186 rfl rfl rfl (ev_bipush (pc' := 134) (x := 59) m_186 rfl rfl rfl ?_)
  refine tr_cv (pc' := 137) m_186 rfl rfl rfl m_194 rfl rfl rfl rfl (tr_rcv ts_o87 rfl) rfl rfl (cR_must_ok ((59 : Int32)) _ _ (Ok_b h)) (fun s5 h => ?_)
  exact tr_rv m_186 rfl rfl (Ok_s h)
def cR_takeResource_84 (l1 : Int64) (t1 : Int32) (s : ts) : Option (ts) := (cR_limit t1 s).bind (fun s2 => (cR_good s2).bind (fun x6 => (if x6.1 = ((0 : Int32)) then cR_takeResource_127 x6.2 else (if am_idx (gI x6.2 1110 0) 8 = true then (if am_idx (gI (wB x6.2 89 (gI x6.2 1110 0).toNatClampNeg l1) 1110 0) 8 = true then cR_takeResource_127 (wI (wA (wB x6.2 89 (gI x6.2 1110 0).toNatClampNeg l1) 90 (gI (wB x6.2 89 (gI x6.2 1110 0).toNatClampNeg l1) 1110 0).toNatClampNeg (gI (wB x6.2 89 (gI x6.2 1110 0).toNatClampNeg l1) 1109 0)) 1110 0 ((gI (wA (wB x6.2 89 (gI x6.2 1110 0).toNatClampNeg l1) 90 (gI (wB x6.2 89 (gI x6.2 1110 0).toNatClampNeg l1) 1110 0).toNatClampNeg (gI (wB x6.2 89 (gI x6.2 1110 0).toNatClampNeg l1) 1109 0)) 1110 0) + ((1 : Int32)))) else none) else none))))
set_option maxRecDepth 20000 in
theorem cR_takeResource_84_ok {d : Nat} (l1 : Int64) (t1 : Int32) (s : ts) (Q : ts → Prop) (h : Ok (cR_takeResource_84 l1 t1 s) Q) : am_Ev (d + 5) 186 (84, [(0, .ref 87), (1, .long (l1))], [.int (t1), .ref 87]) (lay s) (tq_v Q) := by
  unfold cR_takeResource_84 at h
  refine tr_cv (pc' := 87) m_186 rfl rfl rfl m_193 rfl rfl rfl rfl (tr_rcv ts_o87 rfl) rfl rfl (cR_limit_ok t1 _ _ (Ok_b h)) (fun s2 h => ?_)
  refine ev_aload_n (pc' := 88) m_186 rfl rfl rfl ?_
  refine tr_cz (pc' := 91) m_186 rfl rfl rfl m_177 rfl rfl rfl rfl rfl (tr_rcv ts_o87 rfl) rfl rfl (cR_good_ok _ _ (Ok_b h)) (fun x6_ x6_s h4 h => ?_)
  refine ev_if_eq (t := 127) (e := 94) m_186 rfl rfl rfl (fun c9 => ?_) (fun c9 => ?_)
  · replace h := Ok_t c9 h
    exact am_Ev.sub (L := [(0, .ref 87)]) ⟨rfl, trivial⟩ (cR_takeResource_127_ok _ _ h)
  · replace h := Ok_f c9 h
    refine ev_aload_n (pc' := 95) m_186 rfl rfl rfl (tr_get (pc' := 98) (v := .ref 89) m_186 rfl rfl ts_o87 rfl rfl rfl (ev_aload_n (pc' := 99) m_186 rfl rfl rfl (tr_get (pc' := 102) (v := .int (gI _ 1110 _)) m_186 rfl rfl ts_o87 rfl rfl rfl (ev_lload_n (pc' := 103) m_186 rfl rfl rfl ?_))))
    obtain ⟨g7, h⟩ := Ok_g h
    refine tr_last (pc' := 104) m_186 rfl rfl rfl g7 rfl (ev_aload_n (pc' := 105) m_186 rfl rfl rfl (tr_get (pc' := 108) (v := .ref 90) m_186 rfl rfl ts_o87 rfl rfl rfl (ev_aload_n (pc' := 109) m_186 rfl rfl rfl (tr_get (pc' := 112) (v := .int (gI _ 1110 _)) m_186 rfl rfl ts_o87 rfl rfl rfl (ev_aload_n (pc' := 113) m_186 rfl rfl rfl (tr_get (pc' := 116) (v := .int (gI _ 1109 _)) m_186 rfl rfl ts_o87 rfl rfl rfl ?_))))))
    obtain ⟨g8, h⟩ := Ok_g h
    refine tr_iast (pc' := 117) m_186 rfl rfl rfl g8 rfl (ev_aload_n (pc' := 118) m_186 rfl rfl rfl (ev_dup (pc' := 119) m_186 rfl rfl rfl (tr_get (pc' := 122) (v := .int (gI _ 1110 _)) m_186 rfl rfl ts_o87 rfl rfl rfl (ev_iconst (pc' := 123) (x := 1) m_186 rfl rfl rfl (ev_iadd (pc' := 124) m_186 rfl rfl (tr_pI (pc' := 127) (f := 1110) m_186 rfl rfl rfl ts_o87 rfl rfl rfl rfl ?_))))))
    exact am_Ev.sub (L := [(0, .ref 87)]) ⟨rfl, trivial⟩ (cR_takeResource_127_ok _ _ h)
def cR_takeResource_61 (l1 : Int64) (s : ts) : Option (ts) := (if (gI s 1109 0) < ((1 : Int32)) then cR_takeResource_84 l1 ((0 : Int32)) s else (if ((99 : Int32)) < (gI s 1109 0) then cR_takeResource_84 l1 ((0 : Int32)) s else cR_takeResource_84 l1 ((1 : Int32)) s))
set_option maxRecDepth 20000 in
theorem cR_takeResource_61_ok {d : Nat} (l1 : Int64) (s : ts) (Q : ts → Prop) (h : Ok (cR_takeResource_61 l1 s) Q) : am_Ev (d + 5) 186 (61, [(0, .ref 87), (1, .long (l1))], []) (lay s) (tq_v Q) := by
  unfold cR_takeResource_61 at h
  refine ev_aload_n (pc' := 62) m_186 rfl rfl rfl (ev_aload_n (pc' := 63) m_186 rfl rfl rfl (tr_get (pc' := 66) (v := .int (gI _ 1109 _)) m_186 rfl rfl ts_o87 rfl rfl rfl (ev_iconst (pc' := 67) (x := 1) m_186 rfl rfl rfl ?_)))
  refine ev_icmp_lt (t := 83) (e := 70) m_186 rfl rfl rfl (fun c2 => ?_) (fun c2 => ?_)
  · replace h := Ok_t c2 h
    refine ev_iconst (pc' := 84) (x := 0) m_186 rfl rfl rfl ?_
    exact am_Ev.sub (L := [(0, .ref 87), (1, .long (l1))]) ⟨rfl, rfl, trivial⟩ (cR_takeResource_84_ok l1 ((0 : Int32)) _ _ h)
  · replace h := Ok_f c2 h
    refine ev_aload_n (pc' := 71) m_186 rfl rfl rfl (tr_get (pc' := 74) (v := .int (gI _ 1109 _)) m_186 rfl rfl ts_o87 rfl rfl rfl (ev_bipush (pc' := 76) (x := 99) m_186 rfl rfl rfl ?_))
    refine ev_icmp_gt (t := 83) (e := 79) m_186 rfl rfl rfl (fun c1 => ?_) (fun c1 => ?_)
    · replace h := Ok_t c1 h
      refine ev_iconst (pc' := 84) (x := 0) m_186 rfl rfl rfl ?_
      exact am_Ev.sub (L := [(0, .ref 87), (1, .long (l1))]) ⟨rfl, rfl, trivial⟩ (cR_takeResource_84_ok l1 ((0 : Int32)) _ _ h)
    · replace h := Ok_f c1 h
      refine ev_iconst (pc' := 80) (x := 1) m_186 rfl rfl rfl (ev_goto (pc' := 84) m_186 rfl rfl ?_)
      exact am_Ev.sub (L := [(0, .ref 87), (1, .long (l1))]) ⟨rfl, rfl, trivial⟩ (cR_takeResource_84_ok l1 ((1 : Int32)) _ _ h)
def cR_takeResource_57 (l1 : Int64) (t1 : Int32) (s : ts) : Option (ts) := (cR_need t1 ((2 : Int32)) s).bind (fun s2 => cR_takeResource_61 l1 s2)
set_option maxRecDepth 20000 in
theorem cR_takeResource_57_ok {d : Nat} (l1 : Int64) (t1 : Int32) (s : ts) (Q : ts → Prop) (h : Ok (cR_takeResource_57 l1 t1 s) Q) : am_Ev (d + 5) 186 (57, [(0, .ref 87), (1, .long (l1))], [.int (t1), .ref 87]) (lay s) (tq_v Q) := by
  unfold cR_takeResource_57 at h
  refine ev_iconst (pc' := 58) (x := 2) m_186 rfl rfl rfl ?_
  refine tr_cv (pc' := 61) m_186 rfl rfl rfl m_183 rfl rfl rfl rfl (tr_rcv ts_o87 rfl) rfl rfl (cR_need_ok t1 ((2 : Int32)) _ _ (Ok_b h)) (fun s2 h => ?_)
  exact am_Ev.sub (L := [(0, .ref 87), (1, .long (l1))]) ⟨rfl, rfl, trivial⟩ (cR_takeResource_61_ok l1 _ _ h)
def cR_takeResource_24 (t1 : Int32) (s : ts) : Option (ts) := (cR_limit t1 s).bind (fun s2 => (cR_next s2).bind (fun s5 => (cR_good s5).bind (fun x9 => (if x9.1 = ((0 : Int32)) then cR_takeResource_61 (gJ s2 1108 0) x9.2 else (if (gI x9.2 1106 0) = ((2 : Int32)) then cR_takeResource_57 (gJ s2 1108 0) ((1 : Int32)) x9.2 else cR_takeResource_57 (gJ s2 1108 0) ((0 : Int32)) x9.2)))))
set_option maxRecDepth 20000 in
theorem cR_takeResource_24_ok {d : Nat} (t1 : Int32) (s : ts) (Q : ts → Prop) (h : Ok (cR_takeResource_24 t1 s) Q) : am_Ev (d + 5) 186 (24, [(0, .ref 87)], [.int (t1), .ref 87]) (lay s) (tq_v Q) := by
  unfold cR_takeResource_24 at h
  refine tr_cv (pc' := 27) m_186 rfl rfl rfl m_193 rfl rfl rfl rfl (tr_rcv ts_o87 rfl) rfl rfl (cR_limit_ok t1 _ _ (Ok_b h)) (fun s2 h => ?_)
  refine ev_aload_n (pc' := 28) m_186 rfl rfl rfl (tr_get (pc' := 31) (v := .long (gJ _ 1108 _)) m_186 rfl rfl ts_o87 rfl rfl rfl (ev_lstore_n (pc' := 32) m_186 rfl rfl rfl rfl (ev_aload_n (pc' := 33) m_186 rfl rfl rfl ?_)))
  refine tr_cv (pc' := 36) m_186 rfl rfl rfl m_176 rfl rfl rfl rfl (tr_rcv ts_o87 rfl) rfl rfl (cR_next_ok _ _ (Ok_b h)) (fun s5 h => ?_)
  refine ev_aload_n (pc' := 37) m_186 rfl rfl rfl ?_
  refine tr_cz (pc' := 40) m_186 rfl rfl rfl m_177 rfl rfl rfl rfl rfl (tr_rcv ts_o87 rfl) rfl rfl (cR_good_ok _ _ (Ok_b h)) (fun x9_ x9_s h7 h => ?_)
  refine ev_if_eq (t := 61) (e := 43) m_186 rfl rfl rfl (fun c11 => ?_) (fun c11 => ?_)
  · replace h := Ok_t c11 h
    exact am_Ev.sub (L := [(0, .ref 87), (1, .long (gJ s2 1108 0))]) ⟨rfl, rfl, trivial⟩ (cR_takeResource_61_ok (gJ s2 1108 0) _ _ h)
  · replace h := Ok_f c11 h
    refine ev_aload_n (pc' := 44) m_186 rfl rfl rfl (ev_aload_n (pc' := 45) m_186 rfl rfl rfl (tr_get (pc' := 48) (v := .int (gI _ 1106 _)) m_186 rfl rfl ts_o87 rfl rfl rfl (ev_iconst (pc' := 49) (x := 2) m_186 rfl rfl rfl ?_)))
    refine ev_icmp_ne (t := 56) (e := 52) m_186 rfl rfl rfl (fun c10 => ?_) (fun c10 => ?_)
    · replace h := Ok_f c10 h
      refine ev_iconst (pc' := 57) (x := 0) m_186 rfl rfl rfl ?_
      exact am_Ev.sub (L := [(0, .ref 87), (1, .long (gJ s2 1108 0))]) ⟨rfl, rfl, trivial⟩ (cR_takeResource_57_ok (gJ s2 1108 0) ((0 : Int32)) _ _ h)
    · replace h := Ok_t c10 h
      refine ev_iconst (pc' := 53) (x := 1) m_186 rfl rfl rfl (ev_goto (pc' := 57) m_186 rfl rfl ?_)
      exact am_Ev.sub (L := [(0, .ref 87), (1, .long (gJ s2 1108 0))]) ⟨rfl, rfl, trivial⟩ (cR_takeResource_57_ok (gJ s2 1108 0) ((1 : Int32)) _ _ h)
def cR_takeResource (s : ts) : Option (ts) := (cR_next s).bind (fun s2 => (cR_freshName ((0 : Int32)) s2).bind (fun s5 => (if ((8 : Int32)) ≤ (gI s5 1110 0) then cR_takeResource_24 ((0 : Int32)) s5 else cR_takeResource_24 ((1 : Int32)) s5)))
set_option maxRecDepth 20000 in
theorem cR_takeResource_ok {d : Nat} (s : ts) (Q : ts → Prop) (h : Ok (cR_takeResource s) Q) : am_Ev (d + 5) 186 (0, [(0, .ref 87)], []) (lay s) (tq_v Q) := by
  unfold cR_takeResource at h
  refine ev_aload_n (pc' := 1) m_186 rfl rfl rfl ?_
  refine tr_cv (pc' := 4) m_186 rfl rfl rfl m_176 rfl rfl rfl rfl (tr_rcv ts_o87 rfl) rfl rfl (cR_next_ok _ _ (Ok_b h)) (fun s2 h => ?_)
  refine ev_aload_n (pc' := 5) m_186 rfl rfl rfl (ev_iconst (pc' := 6) (x := 0) m_186 rfl rfl rfl ?_)
  refine tr_cv (pc' := 9) m_186 rfl rfl rfl m_187 rfl rfl rfl rfl (tr_rcv ts_o87 rfl) rfl rfl (cR_freshName_ok ((0 : Int32)) _ _ (Ok_b h)) (fun s5 h => ?_)
  refine ev_aload_n (pc' := 10) m_186 rfl rfl rfl (ev_aload_n (pc' := 11) m_186 rfl rfl rfl (tr_get (pc' := 14) (v := .int (gI _ 1110 _)) m_186 rfl rfl ts_o87 rfl rfl rfl (ev_bipush (pc' := 16) (x := 8) m_186 rfl rfl rfl ?_)))
  refine ev_icmp_ge (t := 23) (e := 19) m_186 rfl rfl rfl (fun c7 => ?_) (fun c7 => ?_)
  · replace h := Ok_t c7 h
    refine ev_iconst (pc' := 24) (x := 0) m_186 rfl rfl rfl ?_
    exact am_Ev.sub (L := [(0, .ref 87)]) ⟨rfl, trivial⟩ (cR_takeResource_24_ok ((0 : Int32)) _ _ h)
  · replace h := Ok_f c7 h
    refine ev_iconst (pc' := 20) (x := 1) m_186 rfl rfl rfl (ev_goto (pc' := 24) m_186 rfl rfl ?_)
    exact am_Ev.sub (L := [(0, .ref 87)]) ⟨rfl, trivial⟩ (cR_takeResource_24_ok ((1 : Int32)) _ _ h)
def cR_takeStore_198 (s : ts) : Option (ts) := (cR_next s).bind (fun s2 => (cR_must ((59 : Int32)) s2).bind (fun s5 => some s5))
set_option maxRecDepth 20000 in
theorem cR_takeStore_198_ok {d : Nat} (s : ts) (Q : ts → Prop) (h : Ok (cR_takeStore_198 s) Q) : am_Ev (d + 5) 195 (198, [(0, .ref 87)], []) (lay s) (tq_v Q) := by
  unfold cR_takeStore_198 at h
  refine ev_aload_n (pc' := 199) m_195 rfl rfl rfl ?_
  refine tr_cv (pc' := 202) m_195 rfl rfl rfl m_176 rfl rfl rfl rfl (tr_rcv ts_o87 rfl) rfl rfl (cR_next_ok _ _ (Ok_b h)) (fun s2 h => ?_)
  refine ev_aload_n (pc' := 203) m_195 rfl rfl rfl (ev_bipush (pc' := 205) (x := 59) m_195 rfl rfl rfl ?_)
  refine tr_cv (pc' := 208) m_195 rfl rfl rfl m_194 rfl rfl rfl rfl (tr_rcv ts_o87 rfl) rfl rfl (cR_must_ok ((59 : Int32)) _ _ (Ok_b h)) (fun s5 h => ?_)
  exact tr_rv m_195 rfl rfl (Ok_s h)
def cR_takeStore_145 (l1 : Int64) (l3 : Int32) (t1 : Int32) (s : ts) : Option (ts) := (cR_limit t1 s).bind (fun s2 => (cR_good s2).bind (fun x6 => (if x6.1 = ((0 : Int32)) then cR_takeStore_198 x6.2 else (if am_idx (gI x6.2 1113 0) 6 = true then (if am_idx (gI (wB x6.2 91 (gI x6.2 1113 0).toNatClampNeg l1) 1113 0) 6 = true then (if am_idx (gI (wA (wB x6.2 91 (gI x6.2 1113 0).toNatClampNeg l1) 92 (gI (wB x6.2 91 (gI x6.2 1113 0).toNatClampNeg l1) 1113 0).toNatClampNeg l3) 1113 0) 6 = true then cR_takeStore_198 (wI (wA (wA (wB x6.2 91 (gI x6.2 1113 0).toNatClampNeg l1) 92 (gI (wB x6.2 91 (gI x6.2 1113 0).toNatClampNeg l1) 1113 0).toNatClampNeg l3) 93 (gI (wA (wB x6.2 91 (gI x6.2 1113 0).toNatClampNeg l1) 92 (gI (wB x6.2 91 (gI x6.2 1113 0).toNatClampNeg l1) 1113 0).toNatClampNeg l3) 1113 0).toNatClampNeg (gI (wA (wB x6.2 91 (gI x6.2 1113 0).toNatClampNeg l1) 92 (gI (wB x6.2 91 (gI x6.2 1113 0).toNatClampNeg l1) 1113 0).toNatClampNeg l3) 1109 0)) 1113 0 ((gI (wA (wA (wB x6.2 91 (gI x6.2 1113 0).toNatClampNeg l1) 92 (gI (wB x6.2 91 (gI x6.2 1113 0).toNatClampNeg l1) 1113 0).toNatClampNeg l3) 93 (gI (wA (wB x6.2 91 (gI x6.2 1113 0).toNatClampNeg l1) 92 (gI (wB x6.2 91 (gI x6.2 1113 0).toNatClampNeg l1) 1113 0).toNatClampNeg l3) 1113 0).toNatClampNeg (gI (wA (wB x6.2 91 (gI x6.2 1113 0).toNatClampNeg l1) 92 (gI (wB x6.2 91 (gI x6.2 1113 0).toNatClampNeg l1) 1113 0).toNatClampNeg l3) 1109 0)) 1113 0) + ((1 : Int32)))) else none) else none) else none))))
set_option maxRecDepth 20000 in
theorem cR_takeStore_145_ok {d : Nat} (l1 : Int64) (l3 : Int32) (t1 : Int32) (s : ts) (Q : ts → Prop) (h : Ok (cR_takeStore_145 l1 l3 t1 s) Q) : am_Ev (d + 5) 195 (145, [(0, .ref 87), (1, .long (l1)), (3, .int (l3))], [.int (t1), .ref 87]) (lay s) (tq_v Q) := by
  unfold cR_takeStore_145 at h
  refine tr_cv (pc' := 148) m_195 rfl rfl rfl m_193 rfl rfl rfl rfl (tr_rcv ts_o87 rfl) rfl rfl (cR_limit_ok t1 _ _ (Ok_b h)) (fun s2 h => ?_)
  refine ev_aload_n (pc' := 149) m_195 rfl rfl rfl ?_
  refine tr_cz (pc' := 152) m_195 rfl rfl rfl m_177 rfl rfl rfl rfl rfl (tr_rcv ts_o87 rfl) rfl rfl (cR_good_ok _ _ (Ok_b h)) (fun x6_ x6_s h4 h => ?_)
  refine ev_if_eq (t := 198) (e := 155) m_195 rfl rfl rfl (fun c10 => ?_) (fun c10 => ?_)
  · replace h := Ok_t c10 h
    exact am_Ev.sub (L := [(0, .ref 87)]) ⟨rfl, trivial⟩ (cR_takeStore_198_ok _ _ h)
  · replace h := Ok_f c10 h
    refine ev_aload_n (pc' := 156) m_195 rfl rfl rfl (tr_get (pc' := 159) (v := .ref 91) m_195 rfl rfl ts_o87 rfl rfl rfl (ev_aload_n (pc' := 160) m_195 rfl rfl rfl (tr_get (pc' := 163) (v := .int (gI _ 1113 _)) m_195 rfl rfl ts_o87 rfl rfl rfl (ev_lload_n (pc' := 164) m_195 rfl rfl rfl ?_))))
    obtain ⟨g7, h⟩ := Ok_g h
    refine tr_last (pc' := 165) m_195 rfl rfl rfl g7 rfl (ev_aload_n (pc' := 166) m_195 rfl rfl rfl (tr_get (pc' := 169) (v := .ref 92) m_195 rfl rfl ts_o87 rfl rfl rfl (ev_aload_n (pc' := 170) m_195 rfl rfl rfl (tr_get (pc' := 173) (v := .int (gI _ 1113 _)) m_195 rfl rfl ts_o87 rfl rfl rfl (ev_iload_n (pc' := 174) m_195 rfl rfl rfl ?_)))))
    obtain ⟨g8, h⟩ := Ok_g h
    refine tr_iast (pc' := 175) m_195 rfl rfl rfl g8 rfl (ev_aload_n (pc' := 176) m_195 rfl rfl rfl (tr_get (pc' := 179) (v := .ref 93) m_195 rfl rfl ts_o87 rfl rfl rfl (ev_aload_n (pc' := 180) m_195 rfl rfl rfl (tr_get (pc' := 183) (v := .int (gI _ 1113 _)) m_195 rfl rfl ts_o87 rfl rfl rfl (ev_aload_n (pc' := 184) m_195 rfl rfl rfl (tr_get (pc' := 187) (v := .int (gI _ 1109 _)) m_195 rfl rfl ts_o87 rfl rfl rfl ?_))))))
    obtain ⟨g9, h⟩ := Ok_g h
    refine tr_iast (pc' := 188) m_195 rfl rfl rfl g9 rfl (ev_aload_n (pc' := 189) m_195 rfl rfl rfl (ev_dup (pc' := 190) m_195 rfl rfl rfl (tr_get (pc' := 193) (v := .int (gI _ 1113 _)) m_195 rfl rfl ts_o87 rfl rfl rfl (ev_iconst (pc' := 194) (x := 1) m_195 rfl rfl rfl (ev_iadd (pc' := 195) m_195 rfl rfl (tr_pI (pc' := 198) (f := 1113) m_195 rfl rfl rfl ts_o87 rfl rfl rfl rfl ?_))))))
    exact am_Ev.sub (L := [(0, .ref 87)]) ⟨rfl, trivial⟩ (cR_takeStore_198_ok _ _ h)
def cR_takeStore_114 (l1 : Int64) (l3 : Int32) (s : ts) : Option (ts) := (if ((9999 : Int32)) < (gI s 1109 0) then cR_takeStore_145 l1 l3 ((0 : Int32)) s else (if (gI s 1109 0) ≤ ((0 : Int32)) then cR_takeStore_145 l1 l3 ((0 : Int32)) s else (if (gI s 1109 0) < l3 then cR_takeStore_145 l1 l3 ((0 : Int32)) s else cR_takeStore_145 l1 l3 ((1 : Int32)) s)))
set_option maxRecDepth 20000 in
theorem cR_takeStore_114_ok {d : Nat} (l1 : Int64) (l3 : Int32) (s : ts) (Q : ts → Prop) (h : Ok (cR_takeStore_114 l1 l3 s) Q) : am_Ev (d + 5) 195 (114, [(0, .ref 87), (1, .long (l1)), (3, .int (l3))], []) (lay s) (tq_v Q) := by
  unfold cR_takeStore_114 at h
  refine ev_aload_n (pc' := 115) m_195 rfl rfl rfl (ev_aload_n (pc' := 116) m_195 rfl rfl rfl (tr_get (pc' := 119) (v := .int (gI _ 1109 _)) m_195 rfl rfl ts_o87 rfl rfl rfl (ev_sipush (pc' := 122) (x := 9999) m_195 rfl rfl rfl ?_)))
  refine ev_icmp_gt (t := 144) (e := 125) m_195 rfl rfl rfl (fun c3 => ?_) (fun c3 => ?_)
  · replace h := Ok_t c3 h
    refine ev_iconst (pc' := 145) (x := 0) m_195 rfl rfl rfl ?_
    exact am_Ev.sub (L := [(0, .ref 87), (1, .long (l1)), (3, .int (l3))]) ⟨rfl, rfl, rfl, trivial⟩ (cR_takeStore_145_ok l1 l3 ((0 : Int32)) _ _ h)
  · replace h := Ok_f c3 h
    refine ev_aload_n (pc' := 126) m_195 rfl rfl rfl (tr_get (pc' := 129) (v := .int (gI _ 1109 _)) m_195 rfl rfl ts_o87 rfl rfl rfl ?_)
    refine ev_if_le (t := 144) (e := 132) m_195 rfl rfl rfl (fun c2 => ?_) (fun c2 => ?_)
    · replace h := Ok_t c2 h
      refine ev_iconst (pc' := 145) (x := 0) m_195 rfl rfl rfl ?_
      exact am_Ev.sub (L := [(0, .ref 87), (1, .long (l1)), (3, .int (l3))]) ⟨rfl, rfl, rfl, trivial⟩ (cR_takeStore_145_ok l1 l3 ((0 : Int32)) _ _ h)
    · replace h := Ok_f c2 h
      refine ev_aload_n (pc' := 133) m_195 rfl rfl rfl (tr_get (pc' := 136) (v := .int (gI _ 1109 _)) m_195 rfl rfl ts_o87 rfl rfl rfl (ev_iload_n (pc' := 137) m_195 rfl rfl rfl ?_))
      refine ev_icmp_lt (t := 144) (e := 140) m_195 rfl rfl rfl (fun c1 => ?_) (fun c1 => ?_)
      · replace h := Ok_t c1 h
        refine ev_iconst (pc' := 145) (x := 0) m_195 rfl rfl rfl ?_
        exact am_Ev.sub (L := [(0, .ref 87), (1, .long (l1)), (3, .int (l3))]) ⟨rfl, rfl, rfl, trivial⟩ (cR_takeStore_145_ok l1 l3 ((0 : Int32)) _ _ h)
      · replace h := Ok_f c1 h
        refine ev_iconst (pc' := 141) (x := 1) m_195 rfl rfl rfl (ev_goto (pc' := 145) m_195 rfl rfl ?_)
        exact am_Ev.sub (L := [(0, .ref 87), (1, .long (l1)), (3, .int (l3))]) ⟨rfl, rfl, rfl, trivial⟩ (cR_takeStore_145_ok l1 l3 ((1 : Int32)) _ _ h)
def cR_takeStore_110 (l1 : Int64) (l3 : Int32) (t1 : Int32) (s : ts) : Option (ts) := (cR_need t1 ((2 : Int32)) s).bind (fun s2 => cR_takeStore_114 l1 l3 s2)
set_option maxRecDepth 20000 in
theorem cR_takeStore_110_ok {d : Nat} (l1 : Int64) (l3 : Int32) (t1 : Int32) (s : ts) (Q : ts → Prop) (h : Ok (cR_takeStore_110 l1 l3 t1 s) Q) : am_Ev (d + 5) 195 (110, [(0, .ref 87), (1, .long (l1)), (3, .int (l3))], [.int (t1), .ref 87]) (lay s) (tq_v Q) := by
  unfold cR_takeStore_110 at h
  refine ev_iconst (pc' := 111) (x := 2) m_195 rfl rfl rfl ?_
  refine tr_cv (pc' := 114) m_195 rfl rfl rfl m_183 rfl rfl rfl rfl (tr_rcv ts_o87 rfl) rfl rfl (cR_need_ok t1 ((2 : Int32)) _ _ (Ok_b h)) (fun s2 h => ?_)
  exact am_Ev.sub (L := [(0, .ref 87), (1, .long (l1)), (3, .int (l3))]) ⟨rfl, rfl, rfl, trivial⟩ (cR_takeStore_114_ok l1 l3 _ _ h)
def cR_takeStore_77 (l1 : Int64) (t1 : Int32) (s : ts) : Option (ts) := (cR_limit t1 s).bind (fun s2 => (cR_next s2).bind (fun s5 => (cR_good s5).bind (fun x9 => (if x9.1 = ((0 : Int32)) then cR_takeStore_114 l1 (gI s2 1109 0) x9.2 else (if (gI x9.2 1106 0) = ((2 : Int32)) then cR_takeStore_110 l1 (gI s2 1109 0) ((1 : Int32)) x9.2 else cR_takeStore_110 l1 (gI s2 1109 0) ((0 : Int32)) x9.2)))))
set_option maxRecDepth 20000 in
theorem cR_takeStore_77_ok {d : Nat} (l1 : Int64) (t1 : Int32) (s : ts) (Q : ts → Prop) (h : Ok (cR_takeStore_77 l1 t1 s) Q) : am_Ev (d + 5) 195 (77, [(0, .ref 87), (1, .long (l1))], [.int (t1), .ref 87]) (lay s) (tq_v Q) := by
  unfold cR_takeStore_77 at h
  refine tr_cv (pc' := 80) m_195 rfl rfl rfl m_193 rfl rfl rfl rfl (tr_rcv ts_o87 rfl) rfl rfl (cR_limit_ok t1 _ _ (Ok_b h)) (fun s2 h => ?_)
  refine ev_aload_n (pc' := 81) m_195 rfl rfl rfl (tr_get (pc' := 84) (v := .int (gI _ 1109 _)) m_195 rfl rfl ts_o87 rfl rfl rfl (ev_istore_n (pc' := 85) m_195 rfl rfl rfl rfl (ev_aload_n (pc' := 86) m_195 rfl rfl rfl ?_)))
  refine tr_cv (pc' := 89) m_195 rfl rfl rfl m_176 rfl rfl rfl rfl (tr_rcv ts_o87 rfl) rfl rfl (cR_next_ok _ _ (Ok_b h)) (fun s5 h => ?_)
  refine ev_aload_n (pc' := 90) m_195 rfl rfl rfl ?_
  refine tr_cz (pc' := 93) m_195 rfl rfl rfl m_177 rfl rfl rfl rfl rfl (tr_rcv ts_o87 rfl) rfl rfl (cR_good_ok _ _ (Ok_b h)) (fun x9_ x9_s h7 h => ?_)
  refine ev_if_eq (t := 114) (e := 96) m_195 rfl rfl rfl (fun c11 => ?_) (fun c11 => ?_)
  · replace h := Ok_t c11 h
    exact am_Ev.sub (L := [(0, .ref 87), (1, .long (l1)), (3, .int (gI s2 1109 0))]) ⟨rfl, rfl, rfl, trivial⟩ (cR_takeStore_114_ok l1 (gI s2 1109 0) _ _ h)
  · replace h := Ok_f c11 h
    refine ev_aload_n (pc' := 97) m_195 rfl rfl rfl (ev_aload_n (pc' := 98) m_195 rfl rfl rfl (tr_get (pc' := 101) (v := .int (gI _ 1106 _)) m_195 rfl rfl ts_o87 rfl rfl rfl (ev_iconst (pc' := 102) (x := 2) m_195 rfl rfl rfl ?_)))
    refine ev_icmp_ne (t := 109) (e := 105) m_195 rfl rfl rfl (fun c10 => ?_) (fun c10 => ?_)
    · replace h := Ok_f c10 h
      refine ev_iconst (pc' := 110) (x := 0) m_195 rfl rfl rfl ?_
      exact am_Ev.sub (L := [(0, .ref 87), (1, .long (l1)), (3, .int (gI s2 1109 0))]) ⟨rfl, rfl, rfl, trivial⟩ (cR_takeStore_110_ok l1 (gI s2 1109 0) ((0 : Int32)) _ _ h)
    · replace h := Ok_t c10 h
      refine ev_iconst (pc' := 106) (x := 1) m_195 rfl rfl rfl (ev_goto (pc' := 110) m_195 rfl rfl ?_)
      exact am_Ev.sub (L := [(0, .ref 87), (1, .long (l1)), (3, .int (gI s2 1109 0))]) ⟨rfl, rfl, rfl, trivial⟩ (cR_takeStore_110_ok l1 (gI s2 1109 0) ((1 : Int32)) _ _ h)
def cR_takeStore_61 (l1 : Int64) (s : ts) : Option (ts) := (if ((9999 : Int32)) < (gI s 1109 0) then cR_takeStore_77 l1 ((0 : Int32)) s else cR_takeStore_77 l1 ((1 : Int32)) s)
set_option maxRecDepth 20000 in
theorem cR_takeStore_61_ok {d : Nat} (l1 : Int64) (s : ts) (Q : ts → Prop) (h : Ok (cR_takeStore_61 l1 s) Q) : am_Ev (d + 5) 195 (61, [(0, .ref 87), (1, .long (l1))], []) (lay s) (tq_v Q) := by
  unfold cR_takeStore_61 at h
  refine ev_aload_n (pc' := 62) m_195 rfl rfl rfl (ev_aload_n (pc' := 63) m_195 rfl rfl rfl (tr_get (pc' := 66) (v := .int (gI _ 1109 _)) m_195 rfl rfl ts_o87 rfl rfl rfl (ev_sipush (pc' := 69) (x := 9999) m_195 rfl rfl rfl ?_)))
  refine ev_icmp_gt (t := 76) (e := 72) m_195 rfl rfl rfl (fun c1 => ?_) (fun c1 => ?_)
  · replace h := Ok_t c1 h
    refine ev_iconst (pc' := 77) (x := 0) m_195 rfl rfl rfl ?_
    exact am_Ev.sub (L := [(0, .ref 87), (1, .long (l1))]) ⟨rfl, rfl, trivial⟩ (cR_takeStore_77_ok l1 ((0 : Int32)) _ _ h)
  · replace h := Ok_f c1 h
    refine ev_iconst (pc' := 73) (x := 1) m_195 rfl rfl rfl (ev_goto (pc' := 77) m_195 rfl rfl ?_)
    exact am_Ev.sub (L := [(0, .ref 87), (1, .long (l1))]) ⟨rfl, rfl, trivial⟩ (cR_takeStore_77_ok l1 ((1 : Int32)) _ _ h)
def cR_takeStore_57 (l1 : Int64) (t1 : Int32) (s : ts) : Option (ts) := (cR_need t1 ((2 : Int32)) s).bind (fun s2 => cR_takeStore_61 l1 s2)
set_option maxRecDepth 20000 in
theorem cR_takeStore_57_ok {d : Nat} (l1 : Int64) (t1 : Int32) (s : ts) (Q : ts → Prop) (h : Ok (cR_takeStore_57 l1 t1 s) Q) : am_Ev (d + 5) 195 (57, [(0, .ref 87), (1, .long (l1))], [.int (t1), .ref 87]) (lay s) (tq_v Q) := by
  unfold cR_takeStore_57 at h
  refine ev_iconst (pc' := 58) (x := 2) m_195 rfl rfl rfl ?_
  refine tr_cv (pc' := 61) m_195 rfl rfl rfl m_183 rfl rfl rfl rfl (tr_rcv ts_o87 rfl) rfl rfl (cR_need_ok t1 ((2 : Int32)) _ _ (Ok_b h)) (fun s2 h => ?_)
  exact am_Ev.sub (L := [(0, .ref 87), (1, .long (l1))]) ⟨rfl, rfl, trivial⟩ (cR_takeStore_61_ok l1 _ _ h)
def cR_takeStore_24 (t1 : Int32) (s : ts) : Option (ts) := (cR_limit t1 s).bind (fun s2 => (cR_next s2).bind (fun s5 => (cR_good s5).bind (fun x9 => (if x9.1 = ((0 : Int32)) then cR_takeStore_61 (gJ s2 1108 0) x9.2 else (if (gI x9.2 1106 0) = ((2 : Int32)) then cR_takeStore_57 (gJ s2 1108 0) ((1 : Int32)) x9.2 else cR_takeStore_57 (gJ s2 1108 0) ((0 : Int32)) x9.2)))))
set_option maxRecDepth 20000 in
theorem cR_takeStore_24_ok {d : Nat} (t1 : Int32) (s : ts) (Q : ts → Prop) (h : Ok (cR_takeStore_24 t1 s) Q) : am_Ev (d + 5) 195 (24, [(0, .ref 87)], [.int (t1), .ref 87]) (lay s) (tq_v Q) := by
  unfold cR_takeStore_24 at h
  refine tr_cv (pc' := 27) m_195 rfl rfl rfl m_193 rfl rfl rfl rfl (tr_rcv ts_o87 rfl) rfl rfl (cR_limit_ok t1 _ _ (Ok_b h)) (fun s2 h => ?_)
  refine ev_aload_n (pc' := 28) m_195 rfl rfl rfl (tr_get (pc' := 31) (v := .long (gJ _ 1108 _)) m_195 rfl rfl ts_o87 rfl rfl rfl (ev_lstore_n (pc' := 32) m_195 rfl rfl rfl rfl (ev_aload_n (pc' := 33) m_195 rfl rfl rfl ?_)))
  refine tr_cv (pc' := 36) m_195 rfl rfl rfl m_176 rfl rfl rfl rfl (tr_rcv ts_o87 rfl) rfl rfl (cR_next_ok _ _ (Ok_b h)) (fun s5 h => ?_)
  refine ev_aload_n (pc' := 37) m_195 rfl rfl rfl ?_
  refine tr_cz (pc' := 40) m_195 rfl rfl rfl m_177 rfl rfl rfl rfl rfl (tr_rcv ts_o87 rfl) rfl rfl (cR_good_ok _ _ (Ok_b h)) (fun x9_ x9_s h7 h => ?_)
  refine ev_if_eq (t := 61) (e := 43) m_195 rfl rfl rfl (fun c11 => ?_) (fun c11 => ?_)
  · replace h := Ok_t c11 h
    exact am_Ev.sub (L := [(0, .ref 87), (1, .long (gJ s2 1108 0))]) ⟨rfl, rfl, trivial⟩ (cR_takeStore_61_ok (gJ s2 1108 0) _ _ h)
  · replace h := Ok_f c11 h
    refine ev_aload_n (pc' := 44) m_195 rfl rfl rfl (ev_aload_n (pc' := 45) m_195 rfl rfl rfl (tr_get (pc' := 48) (v := .int (gI _ 1106 _)) m_195 rfl rfl ts_o87 rfl rfl rfl (ev_iconst (pc' := 49) (x := 2) m_195 rfl rfl rfl ?_)))
    refine ev_icmp_ne (t := 56) (e := 52) m_195 rfl rfl rfl (fun c10 => ?_) (fun c10 => ?_)
    · replace h := Ok_f c10 h
      refine ev_iconst (pc' := 57) (x := 0) m_195 rfl rfl rfl ?_
      exact am_Ev.sub (L := [(0, .ref 87), (1, .long (gJ s2 1108 0))]) ⟨rfl, rfl, trivial⟩ (cR_takeStore_57_ok (gJ s2 1108 0) ((0 : Int32)) _ _ h)
    · replace h := Ok_t c10 h
      refine ev_iconst (pc' := 53) (x := 1) m_195 rfl rfl rfl (ev_goto (pc' := 57) m_195 rfl rfl ?_)
      exact am_Ev.sub (L := [(0, .ref 87), (1, .long (gJ s2 1108 0))]) ⟨rfl, rfl, trivial⟩ (cR_takeStore_57_ok (gJ s2 1108 0) ((1 : Int32)) _ _ h)
def cR_takeStore (s : ts) : Option (ts) := (cR_next s).bind (fun s2 => (cR_freshName ((0 : Int32)) s2).bind (fun s5 => (if ((6 : Int32)) ≤ (gI s5 1113 0) then cR_takeStore_24 ((0 : Int32)) s5 else cR_takeStore_24 ((1 : Int32)) s5)))
set_option maxRecDepth 20000 in
theorem cR_takeStore_ok {d : Nat} (s : ts) (Q : ts → Prop) (h : Ok (cR_takeStore s) Q) : am_Ev (d + 5) 195 (0, [(0, .ref 87)], []) (lay s) (tq_v Q) := by
  unfold cR_takeStore at h
  refine ev_aload_n (pc' := 1) m_195 rfl rfl rfl ?_
  refine tr_cv (pc' := 4) m_195 rfl rfl rfl m_176 rfl rfl rfl rfl (tr_rcv ts_o87 rfl) rfl rfl (cR_next_ok _ _ (Ok_b h)) (fun s2 h => ?_)
  refine ev_aload_n (pc' := 5) m_195 rfl rfl rfl (ev_iconst (pc' := 6) (x := 0) m_195 rfl rfl rfl ?_)
  refine tr_cv (pc' := 9) m_195 rfl rfl rfl m_187 rfl rfl rfl rfl (tr_rcv ts_o87 rfl) rfl rfl (cR_freshName_ok ((0 : Int32)) _ _ (Ok_b h)) (fun s5 h => ?_)
  refine ev_aload_n (pc' := 10) m_195 rfl rfl rfl (ev_aload_n (pc' := 11) m_195 rfl rfl rfl (tr_get (pc' := 14) (v := .int (gI _ 1113 _)) m_195 rfl rfl ts_o87 rfl rfl rfl (ev_bipush (pc' := 16) (x := 6) m_195 rfl rfl rfl ?_)))
  refine ev_icmp_ge (t := 23) (e := 19) m_195 rfl rfl rfl (fun c7 => ?_) (fun c7 => ?_)
  · replace h := Ok_t c7 h
    refine ev_iconst (pc' := 24) (x := 0) m_195 rfl rfl rfl ?_
    exact am_Ev.sub (L := [(0, .ref 87)]) ⟨rfl, trivial⟩ (cR_takeStore_24_ok ((0 : Int32)) _ _ h)
  · replace h := Ok_f c7 h
    refine ev_iconst (pc' := 20) (x := 1) m_195 rfl rfl rfl (ev_goto (pc' := 24) m_195 rfl rfl ?_)
    exact am_Ev.sub (L := [(0, .ref 87)]) ⟨rfl, trivial⟩ (cR_takeStore_24_ok ((1 : Int32)) _ _ h)
def cR_takeNumbers_100 (s : ts) : Option (ts) := (cR_must ((59 : Int32)) s).bind (fun s2 => some s2)
set_option maxRecDepth 20000 in
theorem cR_takeNumbers_100_ok {d : Nat} (s : ts) (Q : ts → Prop) (h : Ok (cR_takeNumbers_100 s) Q) : am_Ev (d + 5) 196 (100, [(0, .ref 87)], []) (lay s) (tq_v Q) := by
  unfold cR_takeNumbers_100 at h
  refine ev_aload_n (pc' := 101) m_196 rfl rfl rfl (ev_bipush (pc' := 103) (x := 59) m_196 rfl rfl rfl ?_)
  refine tr_cv (pc' := 106) m_196 rfl rfl rfl m_194 rfl rfl rfl rfl (tr_rcv ts_o87 rfl) rfl rfl (cR_must_ok ((59 : Int32)) _ _ (Ok_b h)) (fun s2 h => ?_)
  exact tr_rv m_196 rfl rfl (Ok_s h)
def cR_takeNumbers_88 (k6 : Int32 → ts → Option (ts)) (t0 : Int32) (s : ts) : Option (ts) := (if t0 = ((0 : Int32)) then k6 t0 s else (cR_next s).bind (fun s2 => k6 t0 s2))
set_option maxRecDepth 20000 in
theorem cR_takeNumbers_88_ok {d : Nat} (k6 : Int32 → ts → Option (ts)) (hk6 : ∀ (l1 : Int32) (s : ts) (Q : ts → Prop), Ok (k6 l1 s) Q → am_Ev (d + 5) 196 (6, [(0, .ref 87), (1, .int (l1))], []) (lay s) (tq_v Q)) (t0 : Int32) (s : ts) (Q : ts → Prop) (h : Ok (cR_takeNumbers_88 k6 t0 s) Q) : am_Ev (d + 5) 196 (88, [(0, .ref 87)], [.int (t0)]) (lay s) (tq_v Q) := by
  unfold cR_takeNumbers_88 at h
  refine ev_istore_n (pc' := 89) m_196 rfl rfl rfl rfl (ev_iload_n (pc' := 90) m_196 rfl rfl rfl ?_)
  refine ev_if_eq (t := 6) (e := 93) m_196 rfl rfl rfl (fun c4 => ?_) (fun c4 => ?_)
  · replace h := Ok_t c4 h
    exact am_Ev.sub (L := [(0, .ref 87), (1, .int (t0))]) ⟨rfl, rfl, trivial⟩ (hk6 t0 _ _ h)
  · replace h := Ok_f c4 h
    refine ev_aload_n (pc' := 94) m_196 rfl rfl rfl ?_
    refine tr_cv (pc' := 97) m_196 rfl rfl rfl m_176 rfl rfl rfl rfl (tr_rcv ts_o87 rfl) rfl rfl (cR_next_ok _ _ (Ok_b h)) (fun s2 h => ?_)
    refine ev_goto (pc' := 6) m_196 rfl rfl ?_
    exact am_Ev.sub (L := [(0, .ref 87), (1, .int (t0))]) ⟨rfl, rfl, trivial⟩ (hk6 t0 _ _ h)
def cR_takeNumbers_70 (k6 : Int32 → ts → Option (ts)) (s : ts) : Option (ts) := (cR_next s).bind (fun s2 => (if (gI s2 1106 0) = ((44 : Int32)) then cR_takeNumbers_88 k6 ((1 : Int32)) s2 else cR_takeNumbers_88 k6 ((0 : Int32)) s2))
set_option maxRecDepth 20000 in
theorem cR_takeNumbers_70_ok {d : Nat} (k6 : Int32 → ts → Option (ts)) (hk6 : ∀ (l1 : Int32) (s : ts) (Q : ts → Prop), Ok (k6 l1 s) Q → am_Ev (d + 5) 196 (6, [(0, .ref 87), (1, .int (l1))], []) (lay s) (tq_v Q)) (s : ts) (Q : ts → Prop) (h : Ok (cR_takeNumbers_70 k6 s) Q) : am_Ev (d + 5) 196 (70, [(0, .ref 87)], []) (lay s) (tq_v Q) := by
  unfold cR_takeNumbers_70 at h
  refine ev_aload_n (pc' := 71) m_196 rfl rfl rfl ?_
  refine tr_cv (pc' := 74) m_196 rfl rfl rfl m_176 rfl rfl rfl rfl (tr_rcv ts_o87 rfl) rfl rfl (cR_next_ok _ _ (Ok_b h)) (fun s2 h => ?_)
  refine ev_aload_n (pc' := 75) m_196 rfl rfl rfl (tr_get (pc' := 78) (v := .int (gI _ 1106 _)) m_196 rfl rfl ts_o87 rfl rfl rfl (ev_bipush (pc' := 80) (x := 44) m_196 rfl rfl rfl ?_))
  refine ev_icmp_ne (t := 87) (e := 83) m_196 rfl rfl rfl (fun c4 => ?_) (fun c4 => ?_)
  · replace h := Ok_f c4 h
    refine ev_iconst (pc' := 88) (x := 0) m_196 rfl rfl rfl ?_
    exact am_Ev.sub (L := [(0, .ref 87)]) ⟨rfl, trivial⟩ (cR_takeNumbers_88_ok k6 hk6 ((0 : Int32)) _ _ h)
  · replace h := Ok_t c4 h
    refine ev_iconst (pc' := 84) (x := 1) m_196 rfl rfl rfl (ev_goto (pc' := 88) m_196 rfl rfl ?_)
    exact am_Ev.sub (L := [(0, .ref 87)]) ⟨rfl, trivial⟩ (cR_takeNumbers_88_ok k6 hk6 ((1 : Int32)) _ _ h)
def cR_takeNumbers_37 (k6 : Int32 → ts → Option (ts)) (t1 : Int32) (s : ts) : Option (ts) := (cR_limit t1 s).bind (fun s2 => (cR_good s2).bind (fun x6 => (if x6.1 = ((0 : Int32)) then cR_takeNumbers_70 k6 x6.2 else (if am_idx (gI x6.2 1117 0) 16 = true then cR_takeNumbers_70 k6 (wI (wB x6.2 94 (gI x6.2 1117 0).toNatClampNeg (gJ x6.2 1108 0)) 1117 0 ((gI (wB x6.2 94 (gI x6.2 1117 0).toNatClampNeg (gJ x6.2 1108 0)) 1117 0) + ((1 : Int32)))) else none))))
set_option maxRecDepth 20000 in
theorem cR_takeNumbers_37_ok {d : Nat} (k6 : Int32 → ts → Option (ts)) (hk6 : ∀ (l1 : Int32) (s : ts) (Q : ts → Prop), Ok (k6 l1 s) Q → am_Ev (d + 5) 196 (6, [(0, .ref 87), (1, .int (l1))], []) (lay s) (tq_v Q)) (t1 : Int32) (s : ts) (Q : ts → Prop) (h : Ok (cR_takeNumbers_37 k6 t1 s) Q) : am_Ev (d + 5) 196 (37, [(0, .ref 87)], [.int (t1), .ref 87]) (lay s) (tq_v Q) := by
  unfold cR_takeNumbers_37 at h
  refine tr_cv (pc' := 40) m_196 rfl rfl rfl m_193 rfl rfl rfl rfl (tr_rcv ts_o87 rfl) rfl rfl (cR_limit_ok t1 _ _ (Ok_b h)) (fun s2 h => ?_)
  refine ev_aload_n (pc' := 41) m_196 rfl rfl rfl ?_
  refine tr_cz (pc' := 44) m_196 rfl rfl rfl m_177 rfl rfl rfl rfl rfl (tr_rcv ts_o87 rfl) rfl rfl (cR_good_ok _ _ (Ok_b h)) (fun x6_ x6_s h4 h => ?_)
  refine ev_if_eq (t := 70) (e := 47) m_196 rfl rfl rfl (fun c8 => ?_) (fun c8 => ?_)
  · replace h := Ok_t c8 h
    exact am_Ev.sub (L := [(0, .ref 87)]) ⟨rfl, trivial⟩ (cR_takeNumbers_70_ok k6 hk6 _ _ h)
  · replace h := Ok_f c8 h
    refine ev_aload_n (pc' := 48) m_196 rfl rfl rfl (tr_get (pc' := 51) (v := .ref 94) m_196 rfl rfl ts_o87 rfl rfl rfl (ev_aload_n (pc' := 52) m_196 rfl rfl rfl (tr_get (pc' := 55) (v := .int (gI _ 1117 _)) m_196 rfl rfl ts_o87 rfl rfl rfl (ev_aload_n (pc' := 56) m_196 rfl rfl rfl (tr_get (pc' := 59) (v := .long (gJ _ 1108 _)) m_196 rfl rfl ts_o87 rfl rfl rfl ?_)))))
    obtain ⟨g7, h⟩ := Ok_g h
    refine tr_last (pc' := 60) m_196 rfl rfl rfl g7 rfl (ev_aload_n (pc' := 61) m_196 rfl rfl rfl (ev_dup (pc' := 62) m_196 rfl rfl rfl (tr_get (pc' := 65) (v := .int (gI _ 1117 _)) m_196 rfl rfl ts_o87 rfl rfl rfl (ev_iconst (pc' := 66) (x := 1) m_196 rfl rfl rfl (ev_iadd (pc' := 67) m_196 rfl rfl (tr_pI (pc' := 70) (f := 1117) m_196 rfl rfl rfl ts_o87 rfl rfl rfl rfl ?_))))))
    exact am_Ev.sub (L := [(0, .ref 87)]) ⟨rfl, trivial⟩ (cR_takeNumbers_70_ok k6 hk6 _ _ h)
def cR_takeNumbers_6_b (kk : Int32 → ts → Option (ts)) (l1 : Int32) (s : ts) : Option (ts) := (if l1 = ((0 : Int32)) then cR_takeNumbers_100 s else (cR_good s).bind (fun x3 => (if x3.1 = ((0 : Int32)) then cR_takeNumbers_100 x3.2 else (cR_freshName ((0 : Int32)) x3.2).bind (fun s5 => (if ((16 : Int32)) ≤ (gI s5 1117 0) then cR_takeNumbers_37 kk ((0 : Int32)) s5 else cR_takeNumbers_37 kk ((1 : Int32)) s5)))))
def cR_takeNumbers_6 : Nat → Int32 → ts → Option (ts)
  | 0, _, _ => none
  | n + 1, l1, s => cR_takeNumbers_6_b (cR_takeNumbers_6 n) l1 s
set_option maxRecDepth 20000 in
theorem cR_takeNumbers_6_ok {d : Nat} : ∀ (n : Nat) (l1 : Int32) (s : ts) (Q : ts → Prop), Ok (cR_takeNumbers_6 n l1 s) Q → am_Ev (d + 5) 196 (6, [(0, .ref 87), (1, .int (l1))], []) (lay s) (tq_v Q) := by
  intro n
  induction n with
  | zero => intro l1 s Q h; exact Ok_n h
  | succ n ih =>
    intro l1 s Q h
    rw [cR_takeNumbers_6.eq_2] at h
    unfold cR_takeNumbers_6_b at h
    refine ev_iload_n (pc' := 7) m_196 rfl rfl rfl ?_
    refine ev_if_eq (t := 100) (e := 10) m_196 rfl rfl rfl (fun c9 => ?_) (fun c9 => ?_)
    · replace h := Ok_t c9 h
      exact am_Ev.sub (L := [(0, .ref 87)]) ⟨rfl, trivial⟩ (cR_takeNumbers_100_ok _ _ h)
    · replace h := Ok_f c9 h
      refine ev_aload_n (pc' := 11) m_196 rfl rfl rfl ?_
      refine tr_cz (pc' := 14) m_196 rfl rfl rfl m_177 rfl rfl rfl rfl rfl (tr_rcv ts_o87 rfl) rfl rfl (cR_good_ok _ _ (Ok_b h)) (fun x3_ x3_s h1 h => ?_)
      refine ev_if_eq (t := 100) (e := 17) m_196 rfl rfl rfl (fun c8 => ?_) (fun c8 => ?_)
      · replace h := Ok_t c8 h
        exact am_Ev.sub (L := [(0, .ref 87)]) ⟨rfl, trivial⟩ (cR_takeNumbers_100_ok _ _ h)
      · replace h := Ok_f c8 h
        refine ev_aload_n (pc' := 18) m_196 rfl rfl rfl (ev_iconst (pc' := 19) (x := 0) m_196 rfl rfl rfl ?_)
        refine tr_cv (pc' := 22) m_196 rfl rfl rfl m_187 rfl rfl rfl rfl (tr_rcv ts_o87 rfl) rfl rfl (cR_freshName_ok ((0 : Int32)) _ _ (Ok_b h)) (fun s5 h => ?_)
        refine ev_aload_n (pc' := 23) m_196 rfl rfl rfl (ev_aload_n (pc' := 24) m_196 rfl rfl rfl (tr_get (pc' := 27) (v := .int (gI _ 1117 _)) m_196 rfl rfl ts_o87 rfl rfl rfl (ev_bipush (pc' := 29) (x := 16) m_196 rfl rfl rfl ?_)))
        refine ev_icmp_ge (t := 36) (e := 32) m_196 rfl rfl rfl (fun c7 => ?_) (fun c7 => ?_)
        · replace h := Ok_t c7 h
          refine ev_iconst (pc' := 37) (x := 0) m_196 rfl rfl rfl ?_
          exact am_Ev.sub (L := [(0, .ref 87)]) ⟨rfl, trivial⟩ (cR_takeNumbers_37_ok (cR_takeNumbers_6 n) ih ((0 : Int32)) _ _ h)
        · replace h := Ok_f c7 h
          refine ev_iconst (pc' := 33) (x := 1) m_196 rfl rfl rfl (ev_goto (pc' := 37) m_196 rfl rfl ?_)
          exact am_Ev.sub (L := [(0, .ref 87)]) ⟨rfl, trivial⟩ (cR_takeNumbers_37_ok (cR_takeNumbers_6 n) ih ((1 : Int32)) _ _ h)
def cR_takeNumbers (s : ts) : Option (ts) := (cR_next s).bind (fun s2 => cR_takeNumbers_6 tm_N ((1 : Int32)) s2)
set_option maxRecDepth 20000 in
theorem cR_takeNumbers_ok {d : Nat} (s : ts) (Q : ts → Prop) (h : Ok (cR_takeNumbers s) Q) : am_Ev (d + 5) 196 (0, [(0, .ref 87)], []) (lay s) (tq_v Q) := by
  unfold cR_takeNumbers at h
  refine ev_aload_n (pc' := 1) m_196 rfl rfl rfl ?_
  refine tr_cv (pc' := 4) m_196 rfl rfl rfl m_176 rfl rfl rfl rfl (tr_rcv ts_o87 rfl) rfl rfl (cR_next_ok _ _ (Ok_b h)) (fun s2 h => ?_)
  refine ev_iconst (pc' := 5) (x := 1) m_196 rfl rfl rfl (ev_istore_n (pc' := 6) m_196 rfl rfl rfl rfl ?_)
  exact am_Ev.sub (L := [(0, .ref 87), (1, .int ((1 : Int32)))]) ⟨rfl, rfl, trivial⟩ (cR_takeNumbers_6_ok tm_N ((1 : Int32)) _ _ h)
def cR_takeLocal_20 (t1 : Int32) (s : ts) : Option (ts) := (cR_limit t1 s).bind (fun s2 => some s2)
set_option maxRecDepth 20000 in
theorem cR_takeLocal_20_ok {d : Nat} (t1 : Int32) (s : ts) (Q : ts → Prop) (h : Ok (cR_takeLocal_20 t1 s) Q) : am_Ev (d + 3) 198 (20, [], [.int (t1), .ref 87]) (lay s) (tq_v Q) := by
  unfold cR_takeLocal_20 at h
  refine tr_cv (pc' := 23) m_198 rfl rfl rfl m_193 rfl rfl rfl rfl (tr_rcv ts_o87 rfl) rfl rfl (cR_limit_ok t1 _ _ (Ok_b h)) (fun s2 h => ?_)
  exact tr_rv m_198 rfl rfl (Ok_s h)
def cR_takeLocal (s : ts) : Option (ts) := (cR_freshName ((1 : Int32)) s).bind (fun s2 => (if ((8 : Int32)) ≤ (gI s2 1123 0) then cR_takeLocal_20 ((0 : Int32)) s2 else cR_takeLocal_20 ((1 : Int32)) s2))
set_option maxRecDepth 20000 in
theorem cR_takeLocal_ok {d : Nat} (s : ts) (Q : ts → Prop) (h : Ok (cR_takeLocal s) Q) : am_Ev (d + 3) 198 (0, [(0, .ref 87)], []) (lay s) (tq_v Q) := by
  unfold cR_takeLocal at h
  refine ev_aload_n (pc' := 1) m_198 rfl rfl rfl (ev_iconst (pc' := 2) (x := 1) m_198 rfl rfl rfl ?_)
  refine tr_cv (pc' := 5) m_198 rfl rfl rfl m_187 rfl rfl rfl rfl (tr_rcv ts_o87 rfl) rfl rfl (cR_freshName_ok ((1 : Int32)) _ _ (Ok_b h)) (fun s2 h => ?_)
  refine ev_aload_n (pc' := 6) m_198 rfl rfl rfl (ev_aload_n (pc' := 7) m_198 rfl rfl rfl (tr_get (pc' := 10) (v := .int (gI _ 1123 _)) m_198 rfl rfl ts_o87 rfl rfl rfl (ev_bipush (pc' := 12) (x := 8) m_198 rfl rfl rfl ?_)))
  refine ev_icmp_ge (t := 19) (e := 15) m_198 rfl rfl rfl (fun c4 => ?_) (fun c4 => ?_)
  · replace h := Ok_t c4 h
    refine ev_iconst (pc' := 20) (x := 0) m_198 rfl rfl rfl ?_
    exact am_Ev.sub (L := []) trivial (cR_takeLocal_20_ok ((0 : Int32)) _ _ h)
  · replace h := Ok_f c4 h
    refine ev_iconst (pc' := 16) (x := 1) m_198 rfl rfl rfl (ev_goto (pc' := 20) m_198 rfl rfl ?_)
    exact am_Ev.sub (L := []) trivial (cR_takeLocal_20_ok ((1 : Int32)) _ _ h)
def cR_addLocal (l1 : Int64) (s : ts) : Option (ts) := (cR_good s).bind (fun x3 => (if x3.1 = ((0 : Int32)) then some x3.2 else (if am_idx (gI x3.2 1123 0) 8 = true then some (wI (wB x3.2 98 (gI x3.2 1123 0).toNatClampNeg l1) 1123 0 ((gI (wB x3.2 98 (gI x3.2 1123 0).toNatClampNeg l1) 1123 0) + ((1 : Int32)))) else none)))
set_option maxRecDepth 20000 in
theorem cR_addLocal_ok {d : Nat} (l1 : Int64) (s : ts) (Q : ts → Prop) (h : Ok (cR_addLocal l1 s) Q) : am_Ev (d + 1) 199 (0, [(0, .ref 87), (1, .long (l1))], []) (lay s) (tq_v Q) := by
  unfold cR_addLocal at h
  refine ev_aload_n (pc' := 1) m_199 rfl rfl rfl ?_
  refine tr_cz (pc' := 4) m_199 rfl rfl rfl m_177 rfl rfl rfl rfl rfl (tr_rcv ts_o87 rfl) rfl rfl (cR_good_ok _ _ (Ok_b h)) (fun x3_ x3_s h1 h => ?_)
  refine ev_if_eq (t := 27) (e := 7) m_199 rfl rfl rfl (fun c5 => ?_) (fun c5 => ?_)
  · replace h := Ok_t c5 h
    exact tr_rv m_199 rfl rfl (Ok_s h)
  · replace h := Ok_f c5 h
    refine ev_aload_n (pc' := 8) m_199 rfl rfl rfl (tr_get (pc' := 11) (v := .ref 98) m_199 rfl rfl ts_o87 rfl rfl rfl (ev_aload_n (pc' := 12) m_199 rfl rfl rfl (tr_get (pc' := 15) (v := .int (gI _ 1123 _)) m_199 rfl rfl ts_o87 rfl rfl rfl (ev_lload_n (pc' := 16) m_199 rfl rfl rfl ?_))))
    obtain ⟨g4, h⟩ := Ok_g h
    refine tr_last (pc' := 17) m_199 rfl rfl rfl g4 rfl (ev_aload_n (pc' := 18) m_199 rfl rfl rfl (ev_dup (pc' := 19) m_199 rfl rfl rfl (tr_get (pc' := 22) (v := .int (gI _ 1123 _)) m_199 rfl rfl ts_o87 rfl rfl rfl (ev_iconst (pc' := 23) (x := 1) m_199 rfl rfl rfl (ev_iadd (pc' := 24) m_199 rfl rfl (tr_pI (pc' := 27) (f := 1123) m_199 rfl rfl rfl ts_o87 rfl rfl rfl rfl ?_))))))
    exact tr_rv m_199 rfl rfl (Ok_s h)
def cR_beginBlock_41 (l1 : Int32) (l2 : Int32) (t1 : Int32) (s : ts) : Option (ts) := (cR_limit t1 s).bind (fun s2 => (cR_good s2).bind (fun x6 => (if x6.1 = ((0 : Int32)) then some x6.2 else (if am_idx (gI x6.2 1138 0) 12 = true then (if am_idx (gI (wA x6.2 109 (gI x6.2 1138 0).toNatClampNeg l1) 1138 0) 12 = true then (cR_next (wI (wA (wA x6.2 109 (gI x6.2 1138 0).toNatClampNeg l1) 108 (gI (wA x6.2 109 (gI x6.2 1138 0).toNatClampNeg l1) 1138 0).toNatClampNeg l2) 1138 0 ((gI (wA (wA x6.2 109 (gI x6.2 1138 0).toNatClampNeg l1) 108 (gI (wA x6.2 109 (gI x6.2 1138 0).toNatClampNeg l1) 1138 0).toNatClampNeg l2) 1138 0) + ((1 : Int32))))).bind (fun s10 => some s10) else none) else none))))
set_option maxRecDepth 20000 in
theorem cR_beginBlock_41_ok {d : Nat} (l1 : Int32) (l2 : Int32) (t1 : Int32) (s : ts) (Q : ts → Prop) (h : Ok (cR_beginBlock_41 l1 l2 t1 s) Q) : am_Ev (d + 4) 200 (41, [(0, .ref 87), (1, .int (l1)), (2, .int (l2))], [.int (t1), .ref 87]) (lay s) (tq_v Q) := by
  unfold cR_beginBlock_41 at h
  refine tr_cv (pc' := 44) m_200 rfl rfl rfl m_193 rfl rfl rfl rfl (tr_rcv ts_o87 rfl) rfl rfl (cR_limit_ok t1 _ _ (Ok_b h)) (fun s2 h => ?_)
  refine ev_aload_n (pc' := 45) m_200 rfl rfl rfl ?_
  refine tr_cz (pc' := 48) m_200 rfl rfl rfl m_177 rfl rfl rfl rfl rfl (tr_rcv ts_o87 rfl) rfl rfl (cR_good_ok _ _ (Ok_b h)) (fun x6_ x6_s h4 h => ?_)
  refine ev_if_eq (t := 85) (e := 51) m_200 rfl rfl rfl (fun c12 => ?_) (fun c12 => ?_)
  · replace h := Ok_t c12 h
    exact tr_rv m_200 rfl rfl (Ok_s h)
  · replace h := Ok_f c12 h
    refine ev_aload_n (pc' := 52) m_200 rfl rfl rfl (tr_get (pc' := 55) (v := .ref 109) m_200 rfl rfl ts_o87 rfl rfl rfl (ev_aload_n (pc' := 56) m_200 rfl rfl rfl (tr_get (pc' := 59) (v := .int (gI _ 1138 _)) m_200 rfl rfl ts_o87 rfl rfl rfl (ev_iload_n (pc' := 60) m_200 rfl rfl rfl ?_))))
    obtain ⟨g7, h⟩ := Ok_g h
    refine tr_iast (pc' := 61) m_200 rfl rfl rfl g7 rfl (ev_aload_n (pc' := 62) m_200 rfl rfl rfl (tr_get (pc' := 65) (v := .ref 108) m_200 rfl rfl ts_o87 rfl rfl rfl (ev_aload_n (pc' := 66) m_200 rfl rfl rfl (tr_get (pc' := 69) (v := .int (gI _ 1138 _)) m_200 rfl rfl ts_o87 rfl rfl rfl (ev_iload_n (pc' := 70) m_200 rfl rfl rfl ?_)))))
    obtain ⟨g8, h⟩ := Ok_g h
    refine tr_iast (pc' := 71) m_200 rfl rfl rfl g8 rfl (ev_aload_n (pc' := 72) m_200 rfl rfl rfl (ev_dup (pc' := 73) m_200 rfl rfl rfl (tr_get (pc' := 76) (v := .int (gI _ 1138 _)) m_200 rfl rfl ts_o87 rfl rfl rfl (ev_iconst (pc' := 77) (x := 1) m_200 rfl rfl rfl (ev_iadd (pc' := 78) m_200 rfl rfl (tr_pI (pc' := 81) (f := 1138) m_200 rfl rfl rfl ts_o87 rfl rfl rfl rfl (ev_aload_n (pc' := 82) m_200 rfl rfl rfl ?_)))))))
    refine tr_cv (pc' := 85) m_200 rfl rfl rfl m_176 rfl rfl rfl rfl (tr_rcv ts_o87 rfl) rfl rfl (cR_next_ok _ _ (Ok_b h)) (fun s10 h => ?_)
    exact tr_rv m_200 rfl rfl (Ok_s h)
def cR_beginBlock_26 (l1 : Int32) (l2 : Int32) (s : ts) : Option (ts) := (if ((9 : Int32)) < (gI s 1138 0) then cR_beginBlock_41 l1 l2 ((0 : Int32)) s else cR_beginBlock_41 l1 l2 ((1 : Int32)) s)
set_option maxRecDepth 20000 in
theorem cR_beginBlock_26_ok {d : Nat} (l1 : Int32) (l2 : Int32) (s : ts) (Q : ts → Prop) (h : Ok (cR_beginBlock_26 l1 l2 s) Q) : am_Ev (d + 4) 200 (26, [(0, .ref 87), (1, .int (l1)), (2, .int (l2))], []) (lay s) (tq_v Q) := by
  unfold cR_beginBlock_26 at h
  refine ev_aload_n (pc' := 27) m_200 rfl rfl rfl (ev_aload_n (pc' := 28) m_200 rfl rfl rfl (tr_get (pc' := 31) (v := .int (gI _ 1138 _)) m_200 rfl rfl ts_o87 rfl rfl rfl (ev_bipush (pc' := 33) (x := 9) m_200 rfl rfl rfl ?_)))
  refine ev_icmp_gt (t := 40) (e := 36) m_200 rfl rfl rfl (fun c1 => ?_) (fun c1 => ?_)
  · replace h := Ok_t c1 h
    refine ev_iconst (pc' := 41) (x := 0) m_200 rfl rfl rfl ?_
    exact am_Ev.sub (L := [(0, .ref 87), (1, .int (l1)), (2, .int (l2))]) ⟨rfl, rfl, rfl, trivial⟩ (cR_beginBlock_41_ok l1 l2 ((0 : Int32)) _ _ h)
  · replace h := Ok_f c1 h
    refine ev_iconst (pc' := 37) (x := 1) m_200 rfl rfl rfl (ev_goto (pc' := 41) m_200 rfl rfl ?_)
    exact am_Ev.sub (L := [(0, .ref 87), (1, .int (l1)), (2, .int (l2))]) ⟨rfl, rfl, rfl, trivial⟩ (cR_beginBlock_41_ok l1 l2 ((1 : Int32)) _ _ h)
def cR_beginBlock_22 (l1 : Int32) (l2 : Int32) (t1 : Int32) (s : ts) : Option (ts) := (cR_need t1 ((2 : Int32)) s).bind (fun s2 => cR_beginBlock_26 l1 l2 s2)
set_option maxRecDepth 20000 in
theorem cR_beginBlock_22_ok {d : Nat} (l1 : Int32) (l2 : Int32) (t1 : Int32) (s : ts) (Q : ts → Prop) (h : Ok (cR_beginBlock_22 l1 l2 t1 s) Q) : am_Ev (d + 4) 200 (22, [(0, .ref 87), (1, .int (l1)), (2, .int (l2))], [.int (t1), .ref 87]) (lay s) (tq_v Q) := by
  unfold cR_beginBlock_22 at h
  refine ev_iconst (pc' := 23) (x := 2) m_200 rfl rfl rfl ?_
  refine tr_cv (pc' := 26) m_200 rfl rfl rfl m_183 rfl rfl rfl rfl (tr_rcv ts_o87 rfl) rfl rfl (cR_need_ok t1 ((2 : Int32)) _ _ (Ok_b h)) (fun s2 h => ?_)
  exact am_Ev.sub (L := [(0, .ref 87), (1, .int (l1)), (2, .int (l2))]) ⟨rfl, rfl, rfl, trivial⟩ (cR_beginBlock_26_ok l1 l2 _ _ h)
def cR_beginBlock (l1 : Int32) (l2 : Int32) (s : ts) : Option (ts) := (cR_good s).bind (fun x3 => (if x3.1 = ((0 : Int32)) then cR_beginBlock_26 l1 l2 x3.2 else (if (gI x3.2 1106 0) = ((123 : Int32)) then cR_beginBlock_22 l1 l2 ((1 : Int32)) x3.2 else cR_beginBlock_22 l1 l2 ((0 : Int32)) x3.2)))
set_option maxRecDepth 20000 in
theorem cR_beginBlock_ok {d : Nat} (l1 : Int32) (l2 : Int32) (s : ts) (Q : ts → Prop) (h : Ok (cR_beginBlock l1 l2 s) Q) : am_Ev (d + 4) 200 (0, [(0, .ref 87), (1, .int (l1)), (2, .int (l2))], []) (lay s) (tq_v Q) := by
  unfold cR_beginBlock at h
  refine ev_aload_n (pc' := 1) m_200 rfl rfl rfl ?_
  refine tr_cz (pc' := 4) m_200 rfl rfl rfl m_177 rfl rfl rfl rfl rfl (tr_rcv ts_o87 rfl) rfl rfl (cR_good_ok _ _ (Ok_b h)) (fun x3_ x3_s h1 h => ?_)
  refine ev_if_eq (t := 26) (e := 7) m_200 rfl rfl rfl (fun c5 => ?_) (fun c5 => ?_)
  · replace h := Ok_t c5 h
    exact am_Ev.sub (L := [(0, .ref 87), (1, .int (l1)), (2, .int (l2))]) ⟨rfl, rfl, rfl, trivial⟩ (cR_beginBlock_26_ok l1 l2 _ _ h)
  · replace h := Ok_f c5 h
    refine ev_aload_n (pc' := 8) m_200 rfl rfl rfl (ev_aload_n (pc' := 9) m_200 rfl rfl rfl (tr_get (pc' := 12) (v := .int (gI _ 1106 _)) m_200 rfl rfl ts_o87 rfl rfl rfl (ev_bipush (pc' := 14) (x := 123) m_200 rfl rfl rfl ?_)))
    refine ev_icmp_ne (t := 21) (e := 17) m_200 rfl rfl rfl (fun c4 => ?_) (fun c4 => ?_)
    · replace h := Ok_f c4 h
      refine ev_iconst (pc' := 22) (x := 0) m_200 rfl rfl rfl ?_
      exact am_Ev.sub (L := [(0, .ref 87), (1, .int (l1)), (2, .int (l2))]) ⟨rfl, rfl, rfl, trivial⟩ (cR_beginBlock_22_ok l1 l2 ((0 : Int32)) _ _ h)
    · replace h := Ok_t c4 h
      refine ev_iconst (pc' := 18) (x := 1) m_200 rfl rfl rfl (ev_goto (pc' := 22) m_200 rfl rfl ?_)
      exact am_Ev.sub (L := [(0, .ref 87), (1, .int (l1)), (2, .int (l2))]) ⟨rfl, rfl, rfl, trivial⟩ (cR_beginBlock_22_ok l1 l2 ((1 : Int32)) _ _ h)
def cR_line (l1 : Int32) (s : ts) : Option (Int32 × ts) := (if am_idx (gI s 1125 0) 900 = true then some (gI s 1125 0, wA (wA (wA (wA (wI s 1125 0 ((gI s 1125 0) + ((1 : Int32)))) 99 (gI s 1125 0).toNatClampNeg l1) 101 (gI s 1125 0).toNatClampNeg ((-1 : Int32))) 102 (gI s 1125 0).toNatClampNeg ((-1 : Int32))) 105 (gI s 1125 0).toNatClampNeg ((0 : Int32))) else none)
set_option maxRecDepth 20000 in
theorem cR_line_ok {d : Nat} (l1 : Int32) (s : ts) (Q : Int32 × ts → Prop) (h : Ok (cR_line l1 s) Q) : am_Ev (d + 0) 202 (0, [(0, .ref 87), (1, .int (l1))], []) (lay s) (tq_i Q) := by
  unfold cR_line at h
  refine ev_aload_n (pc' := 1) m_202 rfl rfl rfl (tr_get (pc' := 4) (v := .int (gI _ 1125 _)) m_202 rfl rfl ts_o87 rfl rfl rfl (ev_istore_n (pc' := 5) m_202 rfl rfl rfl rfl (ev_aload_n (pc' := 6) m_202 rfl rfl rfl (ev_dup (pc' := 7) m_202 rfl rfl rfl (tr_get (pc' := 10) (v := .int (gI _ 1125 _)) m_202 rfl rfl ts_o87 rfl rfl rfl (ev_iconst (pc' := 11) (x := 1) m_202 rfl rfl rfl (ev_iadd (pc' := 12) m_202 rfl rfl ?_)))))))
  refine tr_pI (pc' := 15) (f := 1125) m_202 rfl rfl rfl ts_o87 rfl rfl rfl rfl (ev_aload_n (pc' := 16) m_202 rfl rfl rfl (tr_get (pc' := 19) (v := .ref 99) m_202 rfl rfl ts_o87 rfl rfl rfl (ev_iload_n (pc' := 20) m_202 rfl rfl rfl (ev_iload_n (pc' := 21) m_202 rfl rfl rfl ?_))))
  obtain ⟨g1, h⟩ := Ok_g h
  refine tr_iast (pc' := 22) m_202 rfl rfl rfl g1 rfl (ev_aload_n (pc' := 23) m_202 rfl rfl rfl (tr_get (pc' := 26) (v := .ref 101) m_202 rfl rfl ts_o87 rfl rfl rfl (ev_iload_n (pc' := 27) m_202 rfl rfl rfl (ev_iconst (pc' := 28) (x := -1) m_202 rfl rfl rfl (tr_iast (pc' := 29) m_202 rfl rfl rfl g1 rfl (ev_aload_n (pc' := 30) m_202 rfl rfl rfl (tr_get (pc' := 33) (v := .ref 102) m_202 rfl rfl ts_o87 rfl rfl rfl ?_)))))))
  refine ev_iload_n (pc' := 34) m_202 rfl rfl rfl (ev_iconst (pc' := 35) (x := -1) m_202 rfl rfl rfl (tr_iast (pc' := 36) m_202 rfl rfl rfl g1 rfl (ev_aload_n (pc' := 37) m_202 rfl rfl rfl (tr_get (pc' := 40) (v := .ref 105) m_202 rfl rfl ts_o87 rfl rfl rfl (ev_iload_n (pc' := 41) m_202 rfl rfl rfl (ev_iconst (pc' := 42) (x := 0) m_202 rfl rfl rfl (tr_iast (pc' := 43) m_202 rfl rfl rfl g1 rfl ?_)))))))
  refine ev_iload_n (pc' := 44) m_202 rfl rfl rfl ?_
  exact tr_ri m_202 rfl rfl (Ok_s h)
def cR_endBlock_131 (l1 : Int32) (l2 : Int32) (s : ts) : Option (ts) := (if l2 = ((5 : Int32)) then (if am_idx l1 900 = true then some (wA s 103 l1.toNatClampNeg (gI s 1125 0)) else none) else some s)
set_option maxRecDepth 20000 in
theorem cR_endBlock_131_ok {d : Nat} (l1 : Int32) (l2 : Int32) (s : ts) (Q : ts → Prop) (h : Ok (cR_endBlock_131 l1 l2 s) Q) : am_Ev (d + 5) 201 (131, [(0, .ref 87), (1, .int (l1)), (2, .int (l2))], []) (lay s) (tq_v Q) := by
  unfold cR_endBlock_131 at h
  refine ev_iload_n (pc' := 132) m_201 rfl rfl rfl (ev_iconst (pc' := 133) (x := 5) m_201 rfl rfl rfl ?_)
  refine ev_icmp_ne (t := 146) (e := 136) m_201 rfl rfl rfl (fun c2 => ?_) (fun c2 => ?_)
  · replace h := Ok_f c2 h
    exact tr_rv m_201 rfl rfl (Ok_s h)
  · replace h := Ok_t c2 h
    refine ev_aload_n (pc' := 137) m_201 rfl rfl rfl (tr_get (pc' := 140) (v := .ref 103) m_201 rfl rfl ts_o87 rfl rfl rfl (ev_iload_n (pc' := 141) m_201 rfl rfl rfl (ev_aload_n (pc' := 142) m_201 rfl rfl rfl (tr_get (pc' := 145) (v := .int (gI _ 1125 _)) m_201 rfl rfl ts_o87 rfl rfl rfl ?_))))
    obtain ⟨g1, h⟩ := Ok_g h
    refine tr_iast (pc' := 146) m_201 rfl rfl rfl g1 rfl ?_
    exact tr_rv m_201 rfl rfl (Ok_s h)
def cR_endBlock (s : ts) : Option (ts) := (cR_next s).bind (fun s2 => (if am_idx (gI (wI s2 1138 0 ((gI s2 1138 0) - ((1 : Int32)))) 1138 0) 12 = true then (if (gA (wI s2 1138 0 ((gI s2 1138 0) - ((1 : Int32)))) 109 (gI (wI s2 1138 0 ((gI s2 1138 0) - ((1 : Int32)))) 1138 0).toNatClampNeg) = ((7 : Int32)) then (cR_line ((26 : Int32)) (wI s2 1138 0 ((gI s2 1138 0) - ((1 : Int32))))).bind (fun x24 => (if am_idx x24.1 900 = true then (if am_idx (gA (wI s2 1138 0 ((gI s2 1138 0) - ((1 : Int32)))) 108 (gI (wI s2 1138 0 ((gI s2 1138 0) - ((1 : Int32)))) 1138 0).toNatClampNeg) 900 = true then some (wA (wA x24.2 103 x24.1.toNatClampNeg (gA (wI s2 1138 0 ((gI s2 1138 0) - ((1 : Int32)))) 108 (gI (wI s2 1138 0 ((gI s2 1138 0) - ((1 : Int32)))) 1138 0).toNatClampNeg)) 103 (gA (wI s2 1138 0 ((gI s2 1138 0) - ((1 : Int32)))) 108 (gI (wI s2 1138 0 ((gI s2 1138 0) - ((1 : Int32)))) 1138 0).toNatClampNeg).toNatClampNeg (gI (wA x24.2 103 x24.1.toNatClampNeg (gA (wI s2 1138 0 ((gI s2 1138 0) - ((1 : Int32)))) 108 (gI (wI s2 1138 0 ((gI s2 1138 0) - ((1 : Int32)))) 1138 0).toNatClampNeg)) 1125 0)) else none) else none)) else (if (gA (wI s2 1138 0 ((gI s2 1138 0) - ((1 : Int32)))) 109 (gI (wI s2 1138 0 ((gI s2 1138 0) - ((1 : Int32)))) 1138 0).toNatClampNeg) = ((6 : Int32)) then (if am_idx (gA (wI s2 1138 0 ((gI s2 1138 0) - ((1 : Int32)))) 108 (gI (wI s2 1138 0 ((gI s2 1138 0) - ((1 : Int32)))) 1138 0).toNatClampNeg) 900 = true then some (wA (wI s2 1138 0 ((gI s2 1138 0) - ((1 : Int32)))) 103 (gA (wI s2 1138 0 ((gI s2 1138 0) - ((1 : Int32)))) 108 (gI (wI s2 1138 0 ((gI s2 1138 0) - ((1 : Int32)))) 1138 0).toNatClampNeg).toNatClampNeg (gI (wI s2 1138 0 ((gI s2 1138 0) - ((1 : Int32)))) 1125 0)) else none) else (if (gA (wI s2 1138 0 ((gI s2 1138 0) - ((1 : Int32)))) 109 (gI (wI s2 1138 0 ((gI s2 1138 0) - ((1 : Int32)))) 1138 0).toNatClampNeg) = ((5 : Int32)) then (cR_reserved (wI s2 1138 0 ((gI s2 1138 0) - ((1 : Int32))))).bind (fun x7 => (if x7.1 = ((6 : Int32)) then (cR_line ((26 : Int32)) x7.2).bind (fun x10 => (if am_idx (gA (wI s2 1138 0 ((gI s2 1138 0) - ((1 : Int32)))) 108 (gI (wI s2 1138 0 ((gI s2 1138 0) - ((1 : Int32)))) 1138 0).toNatClampNeg) 900 = true then (cR_next (wA x10.2 103 (gA (wI s2 1138 0 ((gI s2 1138 0) - ((1 : Int32)))) 108 (gI (wI s2 1138 0 ((gI s2 1138 0) - ((1 : Int32)))) 1138 0).toNatClampNeg).toNatClampNeg (gI x10.2 1125 0))).bind (fun s13 => (cR_beginBlock ((6 : Int32)) x10.1 s13).bind (fun s16 => some s16)) else none)) else cR_endBlock_131 (gA (wI s2 1138 0 ((gI s2 1138 0) - ((1 : Int32)))) 108 (gI (wI s2 1138 0 ((gI s2 1138 0) - ((1 : Int32)))) 1138 0).toNatClampNeg) (gA (wI s2 1138 0 ((gI s2 1138 0) - ((1 : Int32)))) 109 (gI (wI s2 1138 0 ((gI s2 1138 0) - ((1 : Int32)))) 1138 0).toNatClampNeg) x7.2)) else cR_endBlock_131 (gA (wI s2 1138 0 ((gI s2 1138 0) - ((1 : Int32)))) 108 (gI (wI s2 1138 0 ((gI s2 1138 0) - ((1 : Int32)))) 1138 0).toNatClampNeg) (gA (wI s2 1138 0 ((gI s2 1138 0) - ((1 : Int32)))) 109 (gI (wI s2 1138 0 ((gI s2 1138 0) - ((1 : Int32)))) 1138 0).toNatClampNeg) (wI s2 1138 0 ((gI s2 1138 0) - ((1 : Int32))))))) else none))
set_option maxRecDepth 20000 in
theorem cR_endBlock_ok {d : Nat} (s : ts) (Q : ts → Prop) (h : Ok (cR_endBlock s) Q) : am_Ev (d + 5) 201 (0, [(0, .ref 87)], []) (lay s) (tq_v Q) := by
  unfold cR_endBlock at h
  refine ev_aload_n (pc' := 1) m_201 rfl rfl rfl ?_
  refine tr_cv (pc' := 4) m_201 rfl rfl rfl m_176 rfl rfl rfl rfl (tr_rcv ts_o87 rfl) rfl rfl (cR_next_ok _ _ (Ok_b h)) (fun s2 h => ?_)
  refine ev_aload_n (pc' := 5) m_201 rfl rfl rfl (ev_dup (pc' := 6) m_201 rfl rfl rfl (tr_get (pc' := 9) (v := .int (gI _ 1138 _)) m_201 rfl rfl ts_o87 rfl rfl rfl (ev_iconst (pc' := 10) (x := 1) m_201 rfl rfl rfl (ev_isub (pc' := 11) m_201 rfl rfl (tr_pI (pc' := 14) (f := 1138) m_201 rfl rfl rfl ts_o87 rfl rfl rfl rfl (ev_aload_n (pc' := 15) m_201 rfl rfl rfl (tr_get (pc' := 18) (v := .ref 108) m_201 rfl rfl ts_o87 rfl rfl rfl ?_)))))))
  refine ev_aload_n (pc' := 19) m_201 rfl rfl rfl (tr_get (pc' := 22) (v := .int (gI _ 1138 _)) m_201 rfl rfl ts_o87 rfl rfl rfl ?_)
  obtain ⟨g4, h⟩ := Ok_g h
  refine tr_iald (pc' := 23) m_201 rfl rfl rfl g4 rfl (ev_istore_n (pc' := 24) m_201 rfl rfl rfl rfl (ev_aload_n (pc' := 25) m_201 rfl rfl rfl (tr_get (pc' := 28) (v := .ref 109) m_201 rfl rfl ts_o87 rfl rfl rfl (ev_aload_n (pc' := 29) m_201 rfl rfl rfl (tr_get (pc' := 32) (v := .int (gI _ 1138 _)) m_201 rfl rfl ts_o87 rfl rfl rfl (tr_iald (pc' := 33) m_201 rfl rfl rfl g4 rfl (ev_istore_n (pc' := 34) m_201 rfl rfl rfl rfl ?_)))))))
  refine ev_iload_n (pc' := 35) m_201 rfl rfl rfl (ev_bipush (pc' := 37) (x := 7) m_201 rfl rfl rfl ?_)
  refine ev_icmp_ne (t := 67) (e := 40) m_201 rfl rfl rfl (fun c27 => ?_) (fun c27 => ?_)
  · replace h := Ok_f c27 h
    refine ev_iload_n (pc' := 68) m_201 rfl rfl rfl (ev_bipush (pc' := 70) (x := 6) m_201 rfl rfl rfl ?_)
    refine ev_icmp_ne (t := 86) (e := 73) m_201 rfl rfl rfl (fun c21 => ?_) (fun c21 => ?_)
    · replace h := Ok_f c21 h
      refine ev_iload_n (pc' := 87) m_201 rfl rfl rfl (ev_iconst (pc' := 88) (x := 5) m_201 rfl rfl rfl ?_)
      refine ev_icmp_ne (t := 131) (e := 91) m_201 rfl rfl rfl (fun c19 => ?_) (fun c19 => ?_)
      · replace h := Ok_f c19 h
        exact am_Ev.sub (L := [(0, .ref 87), (1, .int (gA (wI s2 1138 0 ((gI s2 1138 0) - ((1 : Int32)))) 108 (gI (wI s2 1138 0 ((gI s2 1138 0) - ((1 : Int32)))) 1138 0).toNatClampNeg)), (2, .int (gA (wI s2 1138 0 ((gI s2 1138 0) - ((1 : Int32)))) 109 (gI (wI s2 1138 0 ((gI s2 1138 0) - ((1 : Int32)))) 1138 0).toNatClampNeg))]) ⟨rfl, rfl, rfl, trivial⟩ (cR_endBlock_131_ok (gA (wI s2 1138 0 ((gI s2 1138 0) - ((1 : Int32)))) 108 (gI (wI s2 1138 0 ((gI s2 1138 0) - ((1 : Int32)))) 1138 0).toNatClampNeg) (gA (wI s2 1138 0 ((gI s2 1138 0) - ((1 : Int32)))) 109 (gI (wI s2 1138 0 ((gI s2 1138 0) - ((1 : Int32)))) 1138 0).toNatClampNeg) _ _ h)
      · replace h := Ok_t c19 h
        refine ev_aload_n (pc' := 92) m_201 rfl rfl rfl ?_
        refine tr_ci (pc' := 95) m_201 rfl rfl rfl m_185 rfl rfl rfl rfl (tr_rcv ts_o87 rfl) rfl rfl (cR_reserved_ok _ _ (Ok_b h)) (fun x7_ x7_s h => ?_)
        refine ev_bipush (pc' := 97) (x := 6) m_201 rfl rfl rfl ?_
        refine ev_icmp_ne (t := 131) (e := 100) m_201 rfl rfl rfl (fun c18 => ?_) (fun c18 => ?_)
        · replace h := Ok_f c18 h
          exact am_Ev.sub (L := [(0, .ref 87), (1, .int (gA (wI s2 1138 0 ((gI s2 1138 0) - ((1 : Int32)))) 108 (gI (wI s2 1138 0 ((gI s2 1138 0) - ((1 : Int32)))) 1138 0).toNatClampNeg)), (2, .int (gA (wI s2 1138 0 ((gI s2 1138 0) - ((1 : Int32)))) 109 (gI (wI s2 1138 0 ((gI s2 1138 0) - ((1 : Int32)))) 1138 0).toNatClampNeg))]) ⟨rfl, rfl, rfl, trivial⟩ (cR_endBlock_131_ok (gA (wI s2 1138 0 ((gI s2 1138 0) - ((1 : Int32)))) 108 (gI (wI s2 1138 0 ((gI s2 1138 0) - ((1 : Int32)))) 1138 0).toNatClampNeg) (gA (wI s2 1138 0 ((gI s2 1138 0) - ((1 : Int32)))) 109 (gI (wI s2 1138 0 ((gI s2 1138 0) - ((1 : Int32)))) 1138 0).toNatClampNeg) _ _ h)
        · replace h := Ok_t c18 h
          refine ev_aload_n (pc' := 101) m_201 rfl rfl rfl (ev_bipush (pc' := 103) (x := 26) m_201 rfl rfl rfl ?_)
          refine tr_ci (pc' := 106) m_201 rfl rfl rfl m_202 rfl rfl rfl rfl (tr_rcv ts_o87 rfl) rfl rfl (cR_line_ok ((26 : Int32)) _ _ (Ok_b h)) (fun x10_ x10_s h => ?_)
          refine ev_istore_n (pc' := 107) m_201 rfl rfl rfl rfl (ev_aload_n (pc' := 108) m_201 rfl rfl rfl (tr_get (pc' := 111) (v := .ref 103) m_201 rfl rfl ts_o87 rfl rfl rfl (ev_iload_n (pc' := 112) m_201 rfl rfl rfl (ev_aload_n (pc' := 113) m_201 rfl rfl rfl (tr_get (pc' := 116) (v := .int (gI _ 1125 _)) m_201 rfl rfl ts_o87 rfl rfl rfl ?_)))))
          obtain ⟨g11, h⟩ := Ok_g h
          refine tr_iast (pc' := 117) m_201 rfl rfl rfl g11 rfl (ev_aload_n (pc' := 118) m_201 rfl rfl rfl ?_)
          refine tr_cv (pc' := 121) m_201 rfl rfl rfl m_176 rfl rfl rfl rfl (tr_rcv ts_o87 rfl) rfl rfl (cR_next_ok _ _ (Ok_b h)) (fun s13 h => ?_)
          refine ev_aload_n (pc' := 122) m_201 rfl rfl rfl (ev_bipush (pc' := 124) (x := 6) m_201 rfl rfl rfl (ev_iload_n (pc' := 125) m_201 rfl rfl rfl ?_))
          refine tr_cv (pc' := 128) m_201 rfl rfl rfl m_200 rfl rfl rfl rfl (tr_rcv ts_o87 rfl) rfl rfl (cR_beginBlock_ok ((6 : Int32)) x10_ _ _ (Ok_b h)) (fun s16 h => ?_)
          refine ev_goto (pc' := 146) m_201 rfl rfl ?_
          exact tr_rv m_201 rfl rfl (Ok_s h)
    · replace h := Ok_t c21 h
      refine ev_aload_n (pc' := 74) m_201 rfl rfl rfl (tr_get (pc' := 77) (v := .ref 103) m_201 rfl rfl ts_o87 rfl rfl rfl (ev_iload_n (pc' := 78) m_201 rfl rfl rfl (ev_aload_n (pc' := 79) m_201 rfl rfl rfl (tr_get (pc' := 82) (v := .int (gI _ 1125 _)) m_201 rfl rfl ts_o87 rfl rfl rfl ?_))))
      obtain ⟨g20, h⟩ := Ok_g h
      refine tr_iast (pc' := 83) m_201 rfl rfl rfl g20 rfl (ev_goto (pc' := 146) m_201 rfl rfl ?_)
      exact tr_rv m_201 rfl rfl (Ok_s h)
  · replace h := Ok_t c27 h
    refine ev_aload_n (pc' := 41) m_201 rfl rfl rfl (ev_bipush (pc' := 43) (x := 26) m_201 rfl rfl rfl ?_)
    refine tr_ci (pc' := 46) m_201 rfl rfl rfl m_202 rfl rfl rfl rfl (tr_rcv ts_o87 rfl) rfl rfl (cR_line_ok ((26 : Int32)) _ _ (Ok_b h)) (fun x24_ x24_s h => ?_)
    refine ev_istore_n (pc' := 47) m_201 rfl rfl rfl rfl (ev_aload_n (pc' := 48) m_201 rfl rfl rfl (tr_get (pc' := 51) (v := .ref 103) m_201 rfl rfl ts_o87 rfl rfl rfl (ev_iload_n (pc' := 52) m_201 rfl rfl rfl (ev_iload_n (pc' := 53) m_201 rfl rfl rfl ?_))))
    obtain ⟨g25, h⟩ := Ok_g h
    refine tr_iast (pc' := 54) m_201 rfl rfl rfl g25 rfl (ev_aload_n (pc' := 55) m_201 rfl rfl rfl (tr_get (pc' := 58) (v := .ref 103) m_201 rfl rfl ts_o87 rfl rfl rfl (ev_iload_n (pc' := 59) m_201 rfl rfl rfl (ev_aload_n (pc' := 60) m_201 rfl rfl rfl (tr_get (pc' := 63) (v := .int (gI _ 1125 _)) m_201 rfl rfl ts_o87 rfl rfl rfl ?_)))))
    obtain ⟨g26, h⟩ := Ok_g h
    refine tr_iast (pc' := 64) m_201 rfl rfl rfl g26 rfl (ev_goto (pc' := 146) m_201 rfl rfl ?_)
    exact tr_rv m_201 rfl rfl (Ok_s h)
def cR_wait1 (l1 : Int32) (l2 : Int32) (s : ts) : Option (ts) := (if am_idx (gI s 1142 0) 4100 = true then (if am_idx (gI (wA s 112 (gI s 1142 0).toNatClampNeg l1) 1142 0) 4100 = true then (if am_idx (gI (wA (wA s 112 (gI s 1142 0).toNatClampNeg l1) 113 (gI (wA s 112 (gI s 1142 0).toNatClampNeg l1) 1142 0).toNatClampNeg l2) 1142 0) 4100 = true then (if am_idx (gI (wA (wA (wA s 112 (gI s 1142 0).toNatClampNeg l1) 113 (gI (wA s 112 (gI s 1142 0).toNatClampNeg l1) 1142 0).toNatClampNeg l2) 114 (gI (wA (wA s 112 (gI s 1142 0).toNatClampNeg l1) 113 (gI (wA s 112 (gI s 1142 0).toNatClampNeg l1) 1142 0).toNatClampNeg l2) 1142 0).toNatClampNeg ((-1 : Int32))) 1142 0) 4100 = true then some (wI (wA (wA (wA (wA s 112 (gI s 1142 0).toNatClampNeg l1) 113 (gI (wA s 112 (gI s 1142 0).toNatClampNeg l1) 1142 0).toNatClampNeg l2) 114 (gI (wA (wA s 112 (gI s 1142 0).toNatClampNeg l1) 113 (gI (wA s 112 (gI s 1142 0).toNatClampNeg l1) 1142 0).toNatClampNeg l2) 1142 0).toNatClampNeg ((-1 : Int32))) 115 (gI (wA (wA (wA s 112 (gI s 1142 0).toNatClampNeg l1) 113 (gI (wA s 112 (gI s 1142 0).toNatClampNeg l1) 1142 0).toNatClampNeg l2) 114 (gI (wA (wA s 112 (gI s 1142 0).toNatClampNeg l1) 113 (gI (wA s 112 (gI s 1142 0).toNatClampNeg l1) 1142 0).toNatClampNeg l2) 1142 0).toNatClampNeg ((-1 : Int32))) 1142 0).toNatClampNeg (vp_nar .boolean (gI (wA (wA (wA s 112 (gI s 1142 0).toNatClampNeg l1) 113 (gI (wA s 112 (gI s 1142 0).toNatClampNeg l1) 1142 0).toNatClampNeg l2) 114 (gI (wA (wA s 112 (gI s 1142 0).toNatClampNeg l1) 113 (gI (wA s 112 (gI s 1142 0).toNatClampNeg l1) 1142 0).toNatClampNeg l2) 1142 0).toNatClampNeg ((-1 : Int32))) 1149 0))) 1142 0 ((gI (wA (wA (wA (wA s 112 (gI s 1142 0).toNatClampNeg l1) 113 (gI (wA s 112 (gI s 1142 0).toNatClampNeg l1) 1142 0).toNatClampNeg l2) 114 (gI (wA (wA s 112 (gI s 1142 0).toNatClampNeg l1) 113 (gI (wA s 112 (gI s 1142 0).toNatClampNeg l1) 1142 0).toNatClampNeg l2) 1142 0).toNatClampNeg ((-1 : Int32))) 115 (gI (wA (wA (wA s 112 (gI s 1142 0).toNatClampNeg l1) 113 (gI (wA s 112 (gI s 1142 0).toNatClampNeg l1) 1142 0).toNatClampNeg l2) 114 (gI (wA (wA s 112 (gI s 1142 0).toNatClampNeg l1) 113 (gI (wA s 112 (gI s 1142 0).toNatClampNeg l1) 1142 0).toNatClampNeg l2) 1142 0).toNatClampNeg ((-1 : Int32))) 1142 0).toNatClampNeg (vp_nar .boolean (gI (wA (wA (wA s 112 (gI s 1142 0).toNatClampNeg l1) 113 (gI (wA s 112 (gI s 1142 0).toNatClampNeg l1) 1142 0).toNatClampNeg l2) 114 (gI (wA (wA s 112 (gI s 1142 0).toNatClampNeg l1) 113 (gI (wA s 112 (gI s 1142 0).toNatClampNeg l1) 1142 0).toNatClampNeg l2) 1142 0).toNatClampNeg ((-1 : Int32))) 1149 0))) 1142 0) + ((1 : Int32)))) else none) else none) else none) else none)
set_option maxRecDepth 20000 in
theorem cR_wait1_ok {d : Nat} (l1 : Int32) (l2 : Int32) (s : ts) (Q : ts → Prop) (h : Ok (cR_wait1 l1 l2 s) Q) : am_Ev (d + 0) 206 (0, [(0, .ref 87), (1, .int (l1)), (2, .int (l2))], []) (lay s) (tq_v Q) := by
  unfold cR_wait1 at h
  refine ev_aload_n (pc' := 1) m_206 rfl rfl rfl (tr_get (pc' := 4) (v := .ref 112) m_206 rfl rfl ts_o87 rfl rfl rfl (ev_aload_n (pc' := 5) m_206 rfl rfl rfl (tr_get (pc' := 8) (v := .int (gI _ 1142 _)) m_206 rfl rfl ts_o87 rfl rfl rfl (ev_iload_n (pc' := 9) m_206 rfl rfl rfl ?_))))
  obtain ⟨g1, h⟩ := Ok_g h
  refine tr_iast (pc' := 10) m_206 rfl rfl rfl g1 rfl (ev_aload_n (pc' := 11) m_206 rfl rfl rfl (tr_get (pc' := 14) (v := .ref 113) m_206 rfl rfl ts_o87 rfl rfl rfl (ev_aload_n (pc' := 15) m_206 rfl rfl rfl (tr_get (pc' := 18) (v := .int (gI _ 1142 _)) m_206 rfl rfl ts_o87 rfl rfl rfl (ev_iload_n (pc' := 19) m_206 rfl rfl rfl ?_)))))
  obtain ⟨g2, h⟩ := Ok_g h
  refine tr_iast (pc' := 20) m_206 rfl rfl rfl g2 rfl (ev_aload_n (pc' := 21) m_206 rfl rfl rfl (tr_get (pc' := 24) (v := .ref 114) m_206 rfl rfl ts_o87 rfl rfl rfl (ev_aload_n (pc' := 25) m_206 rfl rfl rfl (tr_get (pc' := 28) (v := .int (gI _ 1142 _)) m_206 rfl rfl ts_o87 rfl rfl rfl (ev_iconst (pc' := 29) (x := -1) m_206 rfl rfl rfl ?_)))))
  obtain ⟨g3, h⟩ := Ok_g h
  refine tr_iast (pc' := 30) m_206 rfl rfl rfl g3 rfl (ev_aload_n (pc' := 31) m_206 rfl rfl rfl (tr_get (pc' := 34) (v := .ref 115) m_206 rfl rfl ts_o87 rfl rfl rfl (ev_aload_n (pc' := 35) m_206 rfl rfl rfl (tr_get (pc' := 38) (v := .int (gI _ 1142 _)) m_206 rfl rfl ts_o87 rfl rfl rfl (ev_aload_n (pc' := 39) m_206 rfl rfl rfl (tr_get (pc' := 42) (v := .int (gI _ 1149 _)) m_206 rfl rfl ts_o87 rfl rfl rfl ?_))))))
  obtain ⟨g4, h⟩ := Ok_g h
  refine tr_zast (pc' := 43) m_206 rfl rfl rfl g4 rfl (ev_aload_n (pc' := 44) m_206 rfl rfl rfl (ev_dup (pc' := 45) m_206 rfl rfl rfl (tr_get (pc' := 48) (v := .int (gI _ 1142 _)) m_206 rfl rfl ts_o87 rfl rfl rfl (ev_iconst (pc' := 49) (x := 1) m_206 rfl rfl rfl (ev_iadd (pc' := 50) m_206 rfl rfl (tr_pI (pc' := 53) (f := 1142) m_206 rfl rfl rfl ts_o87 rfl rfl rfl rfl ?_))))))
  exact tr_rv m_206 rfl rfl (Ok_s h)
def cR_open (l1 : Int32) (s : ts) : Option (ts) := (cR_wait1 l1 ((0 : Int32)) s).bind (fun s2 => some (wI (wI s2 1149 0 ((0 : Int32))) 1148 0 ((gI (wI s2 1149 0 ((0 : Int32))) 1148 0) + ((1 : Int32)))))
set_option maxRecDepth 20000 in
theorem cR_open_ok {d : Nat} (l1 : Int32) (s : ts) (Q : ts → Prop) (h : Ok (cR_open l1 s) Q) : am_Ev (d + 1) 207 (0, [(0, .ref 87), (1, .int (l1))], []) (lay s) (tq_v Q) := by
  unfold cR_open at h
  refine ev_aload_n (pc' := 1) m_207 rfl rfl rfl (ev_iload_n (pc' := 2) m_207 rfl rfl rfl (ev_iconst (pc' := 3) (x := 0) m_207 rfl rfl rfl ?_))
  refine tr_cv (pc' := 6) m_207 rfl rfl rfl m_206 rfl rfl rfl rfl (tr_rcv ts_o87 rfl) rfl rfl (cR_wait1_ok l1 ((0 : Int32)) _ _ (Ok_b h)) (fun s2 h => ?_)
  refine ev_aload_n (pc' := 7) m_207 rfl rfl rfl (ev_iconst (pc' := 8) (x := 0) m_207 rfl rfl rfl (tr_pZ (pc' := 11) (f := 1149) m_207 rfl rfl rfl ts_o87 rfl rfl (Or.inl rfl) rfl rfl (ev_aload_n (pc' := 12) m_207 rfl rfl rfl (ev_dup (pc' := 13) m_207 rfl rfl rfl (tr_get (pc' := 16) (v := .int (gI _ 1148 _)) m_207 rfl rfl ts_o87 rfl rfl rfl (ev_iconst (pc' := 17) (x := 1) m_207 rfl rfl rfl (ev_iadd (pc' := 18) m_207 rfl rfl ?_)))))))
  refine tr_pI (pc' := 21) (f := 1148) m_207 rfl rfl rfl ts_o87 rfl rfl rfl rfl ?_
  exact tr_rv m_207 rfl rfl (Ok_s h)
def cR_add (l1 : Int32) (l2 : Int32) (s : ts) : Option (Int32 × ts) := (if am_idx (gI s 1139 0) 9000 = true then some (gI s 1139 0, wI (wA (wA s 110 (gI s 1139 0).toNatClampNeg l1) 111 (gI s 1139 0).toNatClampNeg l2) 1139 0 ((gI (wA (wA s 110 (gI s 1139 0).toNatClampNeg l1) 111 (gI s 1139 0).toNatClampNeg l2) 1139 0) + ((1 : Int32)))) else none)
set_option maxRecDepth 20000 in
theorem cR_add_ok {d : Nat} (l1 : Int32) (l2 : Int32) (s : ts) (Q : Int32 × ts → Prop) (h : Ok (cR_add l1 l2 s) Q) : am_Ev (d + 0) 209 (0, [(0, .ref 87), (1, .int (l1)), (2, .int (l2))], []) (lay s) (tq_i Q) := by
  unfold cR_add at h
  refine ev_aload_n (pc' := 1) m_209 rfl rfl rfl (tr_get (pc' := 4) (v := .int (gI _ 1139 _)) m_209 rfl rfl ts_o87 rfl rfl rfl (ev_istore_n (pc' := 5) m_209 rfl rfl rfl rfl (ev_aload_n (pc' := 6) m_209 rfl rfl rfl (tr_get (pc' := 9) (v := .ref 110) m_209 rfl rfl ts_o87 rfl rfl rfl (ev_iload_n (pc' := 10) m_209 rfl rfl rfl (ev_iload_n (pc' := 11) m_209 rfl rfl rfl ?_))))))
  obtain ⟨g1, h⟩ := Ok_g h
  refine tr_iast (pc' := 12) m_209 rfl rfl rfl g1 rfl (ev_aload_n (pc' := 13) m_209 rfl rfl rfl (tr_get (pc' := 16) (v := .ref 111) m_209 rfl rfl ts_o87 rfl rfl rfl (ev_iload_n (pc' := 17) m_209 rfl rfl rfl (ev_iload_n (pc' := 18) m_209 rfl rfl rfl (tr_iast (pc' := 19) m_209 rfl rfl rfl g1 rfl (ev_aload_n (pc' := 20) m_209 rfl rfl rfl (ev_dup (pc' := 21) m_209 rfl rfl rfl ?_)))))))
  refine tr_get (pc' := 24) (v := .int (gI _ 1139 _)) m_209 rfl rfl ts_o87 rfl rfl rfl (ev_iconst (pc' := 25) (x := 1) m_209 rfl rfl rfl (ev_iadd (pc' := 26) m_209 rfl rfl (tr_pI (pc' := 29) (f := 1139) m_209 rfl rfl rfl ts_o87 rfl rfl rfl rfl (ev_iload_n (pc' := 30) m_209 rfl rfl rfl ?_))))
  exact tr_ri m_209 rfl rfl (Ok_s h)
