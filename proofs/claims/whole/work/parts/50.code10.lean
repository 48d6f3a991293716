/-! THE METHODS AS FUNCTIONS, printed by wip/tools/decomp.py; the machine does what they say. -/
def cH_tellVariable_45 (l1 : Nat) (l2 : Int32) (t0 : Int32) (s : ts) : Option (Int32 × ts) := (if t0 = ((0 : Int32)) then some ((-2000000000 : Int32), s) else (if l1 < gM s then (if am_idx l2 8 = true then some (gV s l1 l2.toNatClampNeg, s) else none) else none))
set_option maxRecDepth 20000 in
theorem cH_tellVariable_45_ok {d : Nat} (l1 : Nat) (l2 : Int32) (t0 : Int32) (s : ts) (Q : Int32 × ts → Prop) (h : Ok (cH_tellVariable_45 l1 l2 t0 s) Q) : am_Ev (d + 1) 162 (45, [(1, .ref (pB l1)), (2, .int (l2))], [.int (t0)]) (lay s) (tq_i Q) := by
  unfold cH_tellVariable_45 at h
  refine ev_istore_n (pc' := 46) m_162 rfl rfl rfl rfl (ev_iload_n (pc' := 47) m_162 rfl rfl rfl ?_)
  refine ev_if_eq (t := 59) (e := 50) m_162 rfl rfl rfl (fun c3 => ?_) (fun c3 => ?_)
  · replace h := Ok_t c3 h
    refine tr_ldc (pc' := 61) m_162 rfl rfl rfl ?_
    exact tr_ri m_162 rfl rfl (Ok_s h)
  · replace h := Ok_f c3 h
    refine ev_aload_n (pc' := 51) m_162 rfl rfl rfl ?_
    obtain ⟨g1, h⟩ := Ok_g h
    refine tr_get (pc' := 54) (v := .ref (pV l1)) m_162 rfl rfl (ts_obB g1) rfl rfl rfl (ev_iload_n (pc' := 55) m_162 rfl rfl rfl ?_)
    obtain ⟨g2, h⟩ := Ok_g h
    refine tr_vald (pc' := 56) m_162 rfl g1 g2 rfl (ev_goto (pc' := 61) m_162 rfl rfl ?_)
    exact tr_ri m_162 rfl rfl (Ok_s h)
def cH_tellVariable (l1 : Nat) (l2 : Int32) (s : ts) : Option (Int32 × ts) := (if l1 < gM s then (cG_isDefinition (gI s 501 l1) s).bind (fun x4 => (if x4.1 = ((0 : Int32)) then cH_tellVariable_45 l1 l2 ((0 : Int32)) x4.2 else (if l2 < ((0 : Int32)) then cH_tellVariable_45 l1 l2 ((0 : Int32)) x4.2 else (if ((8 : Int32)) ≤ l2 then cH_tellVariable_45 l1 l2 ((0 : Int32)) x4.2 else (if l1 < gM x4.2 then (if am_idx (gI x4.2 501 l1) 12 = true then (if (gA x4.2 20 (gI x4.2 501 l1).toNatClampNeg) ≤ l2 then cH_tellVariable_45 l1 l2 ((0 : Int32)) x4.2 else cH_tellVariable_45 l1 l2 ((1 : Int32)) x4.2) else none) else none))))) else none)
set_option maxRecDepth 20000 in
theorem cH_tellVariable_ok {d : Nat} (l1 : Nat) (l2 : Int32) (s : ts) (Q : Int32 × ts → Prop) (h : Ok (cH_tellVariable l1 l2 s) Q) : am_Ev (d + 1) 162 (0, [(0, .ref 34), (1, .ref (pB l1)), (2, .int (l2))], []) (lay s) (tq_i Q) := by
  unfold cH_tellVariable at h
  refine ev_aload_n (pc' := 1) m_162 rfl rfl rfl (tr_get (pc' := 4) (v := .ref 12) m_162 rfl rfl ts_o34 rfl rfl rfl (ev_aload_n (pc' := 5) m_162 rfl rfl rfl ?_))
  obtain ⟨g1, h⟩ := Ok_g h
  refine tr_get (pc' := 8) (v := .int (gI _ 501 _)) m_162 rfl rfl (ts_obB g1) rfl rfl rfl ?_
  refine tr_cz (pc' := 11) m_162 rfl rfl rfl m_54 rfl rfl rfl rfl rfl (tr_rcv ts_o12 rfl) rfl rfl (cG_isDefinition_ok (gI s 501 l1) _ _ (Ok_b h)) (fun x4_ x4_s h2 h => ?_)
  refine ev_if_eq (t := 44) (e := 14) m_162 rfl rfl rfl (fun c10 => ?_) (fun c10 => ?_)
  · replace h := Ok_t c10 h
    refine ev_iconst (pc' := 45) (x := 0) m_162 rfl rfl rfl ?_
    exact am_Ev.sub (L := [(1, .ref (pB l1)), (2, .int (l2))]) ⟨rfl, rfl, trivial⟩ (cH_tellVariable_45_ok l1 l2 ((0 : Int32)) _ _ h)
  · replace h := Ok_f c10 h
    refine ev_iload_n (pc' := 15) m_162 rfl rfl rfl ?_
    refine ev_if_lt (t := 44) (e := 18) m_162 rfl rfl rfl (fun c9 => ?_) (fun c9 => ?_)
    · replace h := Ok_t c9 h
      refine ev_iconst (pc' := 45) (x := 0) m_162 rfl rfl rfl ?_
      exact am_Ev.sub (L := [(1, .ref (pB l1)), (2, .int (l2))]) ⟨rfl, rfl, trivial⟩ (cH_tellVariable_45_ok l1 l2 ((0 : Int32)) _ _ h)
    · replace h := Ok_f c9 h
      refine ev_iload_n (pc' := 19) m_162 rfl rfl rfl (ev_bipush (pc' := 21) (x := 8) m_162 rfl rfl rfl ?_)
      refine ev_icmp_ge (t := 44) (e := 24) m_162 rfl rfl rfl (fun c8 => ?_) (fun c8 => ?_)
      · replace h := Ok_t c8 h
        refine ev_iconst (pc' := 45) (x := 0) m_162 rfl rfl rfl ?_
        exact am_Ev.sub (L := [(1, .ref (pB l1)), (2, .int (l2))]) ⟨rfl, rfl, trivial⟩ (cH_tellVariable_45_ok l1 l2 ((0 : Int32)) _ _ h)
      · replace h := Ok_f c8 h
        refine ev_iload_n (pc' := 25) m_162 rfl rfl rfl (ev_aload_n (pc' := 26) m_162 rfl rfl rfl (tr_get (pc' := 29) (v := .ref 12) m_162 rfl rfl ts_o34 rfl rfl rfl (tr_get (pc' := 32) (v := .ref 20) m_162 rfl rfl ts_o12 rfl rfl rfl (ev_aload_n (pc' := 33) m_162 rfl rfl rfl ?_))))
        obtain ⟨g5, h⟩ := Ok_g h
        refine tr_get (pc' := 36) (v := .int (gI _ 501 _)) m_162 rfl rfl (ts_obB g5) rfl rfl rfl ?_
        obtain ⟨g6, h⟩ := Ok_g h
        refine tr_iald (pc' := 37) m_162 rfl rfl rfl g6 rfl ?_
        refine ev_icmp_ge (t := 44) (e := 40) m_162 rfl rfl rfl (fun c7 => ?_) (fun c7 => ?_)
        · replace h := Ok_t c7 h
          refine ev_iconst (pc' := 45) (x := 0) m_162 rfl rfl rfl ?_
          exact am_Ev.sub (L := [(1, .ref (pB l1)), (2, .int (l2))]) ⟨rfl, rfl, trivial⟩ (cH_tellVariable_45_ok l1 l2 ((0 : Int32)) _ _ h)
        · replace h := Ok_f c7 h
          refine ev_iconst (pc' := 41) (x := 1) m_162 rfl rfl rfl (ev_goto (pc' := 45) m_162 rfl rfl ?_)
          exact am_Ev.sub (L := [(1, .ref (pB l1)), (2, .int (l2))]) ⟨rfl, rfl, trivial⟩ (cH_tellVariable_45_ok l1 l2 ((1 : Int32)) _ _ h)
def cH_tellProcess_92 (l1 : Nat) (t0 : Int32) (s : ts) : Option (Int32 × ts) := (if t0 = ((0 : Int32)) then some ((-2 : Int32), s) else (if l1 < gM s then (cG_outerPlace (gI s 511 l1) s).bind (fun x4 => some (x4.1, x4.2)) else none))
set_option maxRecDepth 20000 in
theorem cH_tellProcess_92_ok {d : Nat} (l1 : Nat) (t0 : Int32) (s : ts) (Q : Int32 × ts → Prop) (h : Ok (cH_tellProcess_92 l1 t0 s) Q) : am_Ev (d + 2) 158 (92, [(0, .ref 34), (1, .ref (pB l1))], [.int (t0)]) (lay s) (tq_i Q) := by
  unfold cH_tellProcess_92 at h
  refine ev_istore_n (pc' := 93) m_158 rfl rfl rfl rfl (ev_iload_n (pc' := 94) m_158 rfl rfl rfl ?_)
  refine ev_if_eq (t := 111) (e := 97) m_158 rfl rfl rfl (fun c5 => ?_) (fun c5 => ?_)
  · replace h := Ok_t c5 h
    refine ev_bipush (pc' := 113) (x := -2) m_158 rfl rfl rfl ?_
    exact tr_ri m_158 rfl rfl (Ok_s h)
  · replace h := Ok_f c5 h
    refine ev_aload_n (pc' := 98) m_158 rfl rfl rfl (tr_get (pc' := 101) (v := .ref 12) m_158 rfl rfl ts_o34 rfl rfl rfl (ev_aload_n (pc' := 102) m_158 rfl rfl rfl ?_))
    obtain ⟨g1, h⟩ := Ok_g h
    refine tr_get (pc' := 105) (v := .int (gI _ 511 _)) m_158 rfl rfl (ts_obB g1) rfl rfl rfl ?_
    refine tr_ci (pc' := 108) m_158 rfl rfl rfl m_160 rfl rfl rfl rfl (tr_rcv ts_o12 rfl) rfl rfl (cG_outerPlace_ok (gI s 511 l1) _ _ (Ok_b h)) (fun x4_ x4_s h => ?_)
    refine ev_goto (pc' := 113) m_158 rfl rfl ?_
    exact tr_ri m_158 rfl rfl (Ok_s h)
def cH_tellProcess (l1 : Nat) (l2 : Int32) (s : ts) : Option (Int32 × ts) := (if l2 = (0 : Int32) then (if l1 < gM s then some (gI s 501 l1, s) else none) else (if l2 = (1 : Int32) then (if l1 < gM s then some (gI s 502 l1, s) else none) else (if l2 = (2 : Int32) then (if l1 < gM s then (cP_isInCalendar l1 s).bind (fun x8 => (if x8.1 = ((0 : Int32)) then some ((-2 : Int32), x8.2) else (if l1 < gM x8.2 then some (gI x8.2 508 l1, x8.2) else none))) else none) else (if l2 = (3 : Int32) then (if l1 < gM s then (if (gI s 502 l1) = ((2 : Int32)) then cH_tellProcess_92 l1 ((1 : Int32)) s else (if (gI s 502 l1) = ((3 : Int32)) then cH_tellProcess_92 l1 ((1 : Int32)) s else cH_tellProcess_92 l1 ((0 : Int32)) s)) else none) else (if l2 = (4 : Int32) then (if l1 < gM s then (cP_unitsInAll l1 s).bind (fun x19 => some (x19.1, x19.2)) else none) else (if l2 = (5 : Int32) then (if l1 < gM s then some (gI s 504 l1, s) else none) else (if l2 = (6 : Int32) then (if l1 < gM s then (if ((5 : Int32)) ≤ (gI s 502 l1) then some ((-2 : Int32), s) else some (gI s 510 l1, s)) else none) else (cH_tellVariable l1 (l2 - ((10 : Int32))) s).bind (fun x28 => some (x28.1, x28.2)))))))))
set_option maxRecDepth 20000 in
theorem cH_tellProcess_ok {d : Nat} (l1 : Nat) (l2 : Int32) (s : ts) (Q : Int32 × ts → Prop) (h : Ok (cH_tellProcess l1 l2 s) Q) : am_Ev (d + 2) 158 (0, [(0, .ref 34), (1, .ref (pB l1)), (2, .int (l2))], []) (lay s) (tq_i Q) := by
  unfold cH_tellProcess at h
  refine ev_iload_n (pc' := 1) m_158 rfl rfl rfl ?_
  by_cases c2 : l2 = (0 : Int32)
  · replace h := Ok_t c2 h
    refine ev_sw (pc' := 44) m_158 rfl (by rw [c2]; rfl) ?_
    refine ev_aload_n (pc' := 45) m_158 rfl rfl rfl ?_
    obtain ⟨g1, h⟩ := Ok_g h
    refine tr_get (pc' := 48) (v := .int (gI _ 501 _)) m_158 rfl rfl (ts_obB g1) rfl rfl rfl ?_
    exact tr_ri m_158 rfl rfl (Ok_s h)
  replace h := Ok_f c2 h
  by_cases c4 : l2 = (1 : Int32)
  · replace h := Ok_t c4 h
    refine ev_sw (pc' := 49) m_158 rfl (by rw [c4]; rfl) ?_
    refine ev_aload_n (pc' := 50) m_158 rfl rfl rfl ?_
    obtain ⟨g3, h⟩ := Ok_g h
    refine tr_get (pc' := 53) (v := .int (gI _ 502 _)) m_158 rfl rfl (ts_obB g3) rfl rfl rfl ?_
    exact tr_ri m_158 rfl rfl (Ok_s h)
  replace h := Ok_f c4 h
  by_cases c11 : l2 = (2 : Int32)
  · replace h := Ok_t c11 h
    refine ev_sw (pc' := 54) m_158 rfl (by rw [c11]; rfl) ?_
    refine ev_aload_n (pc' := 55) m_158 rfl rfl rfl ?_
    obtain ⟨g5, h⟩ := Ok_g h
    refine tr_cz (pc' := 58) m_158 rfl rfl rfl m_159 rfl rfl rfl rfl rfl (tr_rcv (ts_obB g5) rfl) rfl rfl (cP_isInCalendar_ok l1 _ _ (Ok_b h)) (fun x8_ x8_s h6 h => ?_)
    refine ev_if_eq (t := 68) (e := 61) m_158 rfl rfl rfl (fun c10 => ?_) (fun c10 => ?_)
    · replace h := Ok_t c10 h
      refine ev_bipush (pc' := 70) (x := -2) m_158 rfl rfl rfl ?_
      exact tr_ri m_158 rfl rfl (Ok_s h)
    · replace h := Ok_f c10 h
      refine ev_aload_n (pc' := 62) m_158 rfl rfl rfl ?_
      obtain ⟨g9, h⟩ := Ok_g h
      refine tr_get (pc' := 65) (v := .int (gI _ 508 _)) m_158 rfl rfl (ts_obB g9) rfl rfl rfl (ev_goto (pc' := 70) m_158 rfl rfl ?_)
      exact tr_ri m_158 rfl rfl (Ok_s h)
  replace h := Ok_f c11 h
  by_cases c15 : l2 = (3 : Int32)
  · replace h := Ok_t c15 h
    refine ev_sw (pc' := 71) m_158 rfl (by rw [c15]; rfl) ?_
    refine ev_aload_n (pc' := 72) m_158 rfl rfl rfl ?_
    obtain ⟨g12, h⟩ := Ok_g h
    refine tr_get (pc' := 75) (v := .int (gI _ 502 _)) m_158 rfl rfl (ts_obB g12) rfl rfl rfl (ev_iconst (pc' := 76) (x := 2) m_158 rfl rfl rfl ?_)
    refine ev_icmp_eq (t := 87) (e := 79) m_158 rfl rfl rfl (fun c14 => ?_) (fun c14 => ?_)
    · replace h := Ok_t c14 h
      refine ev_iconst (pc' := 88) (x := 1) m_158 rfl rfl rfl (ev_goto (pc' := 92) m_158 rfl rfl ?_)
      exact am_Ev.sub (L := [(0, .ref 34), (1, .ref (pB l1))]) ⟨rfl, rfl, trivial⟩ (cH_tellProcess_92_ok l1 ((1 : Int32)) _ _ h)
    · replace h := Ok_f c14 h
      refine ev_aload_n (pc' := 80) m_158 rfl rfl rfl (tr_get (pc' := 83) (v := .int (gI _ 502 _)) m_158 rfl rfl (ts_obB g12) rfl rfl rfl (ev_iconst (pc' := 84) (x := 3) m_158 rfl rfl rfl ?_))
      refine ev_icmp_ne (t := 91) (e := 87) m_158 rfl rfl rfl (fun c13 => ?_) (fun c13 => ?_)
      · replace h := Ok_f c13 h
        refine ev_iconst (pc' := 92) (x := 0) m_158 rfl rfl rfl ?_
        exact am_Ev.sub (L := [(0, .ref 34), (1, .ref (pB l1))]) ⟨rfl, rfl, trivial⟩ (cH_tellProcess_92_ok l1 ((0 : Int32)) _ _ h)
      · replace h := Ok_t c13 h
        refine ev_iconst (pc' := 88) (x := 1) m_158 rfl rfl rfl (ev_goto (pc' := 92) m_158 rfl rfl ?_)
        exact am_Ev.sub (L := [(0, .ref 34), (1, .ref (pB l1))]) ⟨rfl, rfl, trivial⟩ (cH_tellProcess_92_ok l1 ((1 : Int32)) _ _ h)
  replace h := Ok_f c15 h
  by_cases c20 : l2 = (4 : Int32)
  · replace h := Ok_t c20 h
    refine ev_sw (pc' := 114) m_158 rfl (by rw [c20]; rfl) ?_
    refine ev_aload_n (pc' := 115) m_158 rfl rfl rfl ?_
    obtain ⟨g16, h⟩ := Ok_g h
    refine tr_ci (pc' := 118) m_158 rfl rfl rfl m_161 rfl rfl rfl rfl (tr_rcv (ts_obB g16) rfl) rfl rfl (cP_unitsInAll_ok l1 _ _ (Ok_b h)) (fun x19_ x19_s h => ?_)
    exact tr_ri m_158 rfl rfl (Ok_s h)
  replace h := Ok_f c20 h
  by_cases c22 : l2 = (5 : Int32)
  · replace h := Ok_t c22 h
    refine ev_sw (pc' := 119) m_158 rfl (by rw [c22]; rfl) ?_
    refine ev_aload_n (pc' := 120) m_158 rfl rfl rfl ?_
    obtain ⟨g21, h⟩ := Ok_g h
    refine tr_get (pc' := 123) (v := .int (gI _ 504 _)) m_158 rfl rfl (ts_obB g21) rfl rfl rfl ?_
    exact tr_ri m_158 rfl rfl (Ok_s h)
  replace h := Ok_f c22 h
  by_cases c25 : l2 = (6 : Int32)
  · replace h := Ok_t c25 h
    refine ev_sw (pc' := 124) m_158 rfl (by rw [c25]; rfl) ?_
    refine ev_aload_n (pc' := 125) m_158 rfl rfl rfl ?_
    obtain ⟨g23, h⟩ := Ok_g h
    refine tr_get (pc' := 128) (v := .int (gI _ 502 _)) m_158 rfl rfl (ts_obB g23) rfl rfl rfl (ev_iconst (pc' := 129) (x := 5) m_158 rfl rfl rfl ?_)
    refine ev_icmp_ge (t := 139) (e := 132) m_158 rfl rfl rfl (fun c24 => ?_) (fun c24 => ?_)
    · replace h := Ok_t c24 h
      refine ev_bipush (pc' := 141) (x := -2) m_158 rfl rfl rfl ?_
      exact tr_ri m_158 rfl rfl (Ok_s h)
    · replace h := Ok_f c24 h
      refine ev_aload_n (pc' := 133) m_158 rfl rfl rfl (tr_get (pc' := 136) (v := .int (gI _ 510 _)) m_158 rfl rfl (ts_obB g23) rfl rfl rfl (ev_goto (pc' := 141) m_158 rfl rfl ?_))
      exact tr_ri m_158 rfl rfl (Ok_s h)
  replace h := Ok_f c25 h
  refine ev_tdef (t := 142) m_158 rfl (by have := ts_nel (k := 0) c2 (by decide); have := ts_nel (k := 1) c4 (by decide); have := ts_nel (k := 2) c11 (by decide); have := ts_nel (k := 3) c15 (by decide); have := ts_nel (k := 4) c20 (by decide); have := ts_nel (k := 5) c22 (by decide); have := ts_nel (k := 6) c25 (by decide); omega) rfl ?_
  refine ev_aload_n (pc' := 143) m_158 rfl rfl rfl (ev_aload_n (pc' := 144) m_158 rfl rfl rfl (ev_iload_n (pc' := 145) m_158 rfl rfl rfl (ev_bipush (pc' := 147) (x := 10) m_158 rfl rfl rfl (ev_isub (pc' := 148) m_158 rfl rfl ?_))))
  refine tr_ci (pc' := 151) m_158 rfl rfl rfl m_162 rfl rfl rfl rfl (tr_rcv ts_o34 rfl) rfl rfl (cH_tellVariable_ok l1 (l2 - ((10 : Int32))) _ _ (Ok_b h)) (fun x28_ x28_s h => ?_)
  exact tr_ri m_158 rfl rfl (Ok_s h)
def cX_process_22 (l2 : Int32) (t0 : Option Nat) (s : ts) : Option (Int32 × ts) := (match t0 with
  | none => some ((-2000000000 : Int32), s)
  | some t0 => (cH_tellProcess t0 l2 s).bind (fun x3 => some (x3.1, x3.2)))
set_option maxRecDepth 20000 in
theorem cX_process_22_ok {d : Nat} (l2 : Int32) (t0 : Option Nat) (s : ts) (Q : Int32 × ts → Prop) (h : Ok (cX_process_22 l2 t0 s) Q) : am_Ev (d + 3) 157 (22, [(0, .ref 5), (2, .int (l2))], [va_rf (t0.map pB)]) (lay s) (tq_i Q) := by
  unfold cX_process_22 at h
  cases t0 with
  | none =>
    dsimp only at h
    refine ev_astore_nN (pc' := 23) m_157 rfl rfl rfl rfl (ev_aload_nN (pc' := 24) m_157 rfl rfl rfl (ev_nnlN (e := 27) m_157 rfl rfl (tr_ldc (pc' := 29) m_157 rfl rfl rfl (ev_goto (pc' := 41) m_157 rfl rfl ?_))))
    exact tr_ri m_157 rfl rfl (Ok_s h)
  | some t0 =>
    dsimp only at h
    refine ev_astore_n (pc' := 23) m_157 rfl rfl rfl rfl (ev_aload_n (pc' := 24) m_157 rfl rfl rfl (ev_nnlY (t := 32) m_157 rfl rfl (ev_aload_n (pc' := 33) m_157 rfl rfl rfl (tr_get (pc' := 36) (v := .ref 34) m_157 rfl rfl ts_o5 rfl rfl rfl (ev_aload_n (pc' := 37) m_157 rfl rfl rfl (ev_iload_n (pc' := 38) m_157 rfl rfl rfl ?_))))))
    refine tr_ci (pc' := 41) m_157 rfl rfl rfl m_158 rfl rfl rfl rfl (tr_rcv ts_o34 rfl) rfl rfl (cH_tellProcess_ok t0 l2 _ _ (Ok_b h)) (fun x3_ x3_s h => ?_)
    exact tr_ri m_157 rfl rfl (Ok_s h)
def cX_process (l1 : Int32) (l2 : Int32) (s : ts) : Option (Int32 × ts) := (if (gI s 6 0) = ((0 : Int32)) then cX_process_22 l2 none s else (cO_find l1 s).bind (fun x3 => match x3.1 with
  | none => cX_process_22 l2 none x3.2
  | some q4 => cX_process_22 l2 (some q4) x3.2))
set_option maxRecDepth 20000 in
theorem cX_process_ok {d : Nat} (l1 : Int32) (l2 : Int32) (s : ts) (Q : Int32 × ts → Prop) (h : Ok (cX_process l1 l2 s) Q) : am_Ev (d + 3) 157 (0, [(0, .ref 5), (1, .int (l1)), (2, .int (l2))], []) (lay s) (tq_i Q) := by
  unfold cX_process at h
  refine ev_aload_n (pc' := 1) m_157 rfl rfl rfl (tr_get (pc' := 4) (v := .int (gI _ 6 _)) m_157 rfl rfl ts_o5 rfl rfl rfl ?_)
  refine ev_if_eq (t := 21) (e := 7) m_157 rfl rfl rfl (fun c5 => ?_) (fun c5 => ?_)
  · replace h := Ok_t c5 h
    refine ev_null (pc' := 22) m_157 rfl rfl ?_
    exact am_Ev.sub (L := [(0, .ref 5), (2, .int (l2))]) ⟨rfl, rfl, trivial⟩ (cX_process_22_ok l2 none _ _ h)
  · replace h := Ok_f c5 h
    refine ev_aload_n (pc' := 8) m_157 rfl rfl rfl (tr_get (pc' := 11) (v := .ref 34) m_157 rfl rfl ts_o5 rfl rfl rfl (tr_get (pc' := 14) (v := .ref 81) m_157 rfl rfl ts_o34 rfl rfl rfl (ev_iload_n (pc' := 15) m_157 rfl rfl rfl ?_)))
    refine tr_cr (pc' := 18) m_157 rfl rfl rfl m_141 rfl rfl rfl rfl (tr_rcv ts_o81 rfl) rfl rfl (cO_find_ok l1 _ _ (Ok_b h)) (fun x3_s h => ?_) (fun q4 x3_s h => ?_)
    · dsimp only at h
      refine ev_goto (pc' := 22) m_157 rfl rfl ?_
      exact am_Ev.sub (L := [(0, .ref 5), (2, .int (l2))]) ⟨rfl, rfl, trivial⟩ (cX_process_22_ok l2 none _ _ h)
    · dsimp only at h
      refine ev_goto (pc' := 22) m_157 rfl rfl ?_
      exact am_Ev.sub (L := [(0, .ref 5), (2, .int (l2))]) ⟨rfl, rfl, trivial⟩ (cX_process_22_ok l2 (some q4) _ _ h)
def cR_localsOf_14_b (kk : Int32 → Int32 → ts → Option (Int32 × ts)) (l2 : Int32) (l3 : Int32) (s : ts) : Option (Int32 × ts) := (if am_idx l3 900 = true then (if (gA s 99 l3.toNatClampNeg) = ((27 : Int32)) then some (l2, s) else (if (gA s 99 l3.toNatClampNeg) = ((24 : Int32)) then (if ((gA s 100 l3.toNatClampNeg) + ((1 : Int32))) ≤ l2 then kk l2 (l3 + (1 : Int32)) s else kk ((gA s 100 l3.toNatClampNeg) + ((1 : Int32))) (l3 + (1 : Int32)) s) else kk l2 (l3 + (1 : Int32)) s)) else none)
def cR_localsOf_14 : Nat → Int32 → Int32 → ts → Option (Int32 × ts)
  | 0, _, _, _ => none
  | n + 1, l2, l3, s => cR_localsOf_14_b (cR_localsOf_14 n) l2 l3 s
set_option maxRecDepth 20000 in
theorem cR_localsOf_14_ok {d : Nat} : ∀ (n : Nat) (l2 : Int32) (l3 : Int32) (s : ts) (Q : Int32 × ts → Prop), Ok (cR_localsOf_14 n l2 l3 s) Q → am_Ev (d + 0) 254 (14, [(0, .ref 87), (2, .int (l2)), (3, .int (l3))], []) (lay s) (tq_i Q) := by
  intro n
  induction n with
  | zero => intro l2 l3 s Q h; exact Ok_n h
  | succ n ih =>
    intro l2 l3 s Q h
    rw [cR_localsOf_14.eq_2] at h
    unfold cR_localsOf_14_b at h
    refine ev_aload_n (pc' := 15) m_254 rfl rfl rfl (tr_get (pc' := 18) (v := .ref 99) m_254 rfl rfl ts_o87 rfl rfl rfl (ev_iload_n (pc' := 19) m_254 rfl rfl rfl ?_))
    obtain ⟨g1, h⟩ := Ok_g h
    refine tr_iald (pc' := 20) m_254 rfl rfl rfl g1 rfl (ev_bipush (pc' := 22) (x := 27) m_254 rfl rfl rfl ?_)
    refine ev_icmp_eq (t := 67) (e := 25) m_254 rfl rfl rfl (fun c4 => ?_) (fun c4 => ?_)
    · replace h := Ok_t c4 h
      refine ev_iload_n (pc' := 68) m_254 rfl rfl rfl ?_
      exact tr_ri m_254 rfl rfl (Ok_s h)
    · replace h := Ok_f c4 h
      refine ev_aload_n (pc' := 26) m_254 rfl rfl rfl (tr_get (pc' := 29) (v := .ref 99) m_254 rfl rfl ts_o87 rfl rfl rfl (ev_iload_n (pc' := 30) m_254 rfl rfl rfl (tr_iald (pc' := 31) m_254 rfl rfl rfl g1 rfl (ev_bipush (pc' := 33) (x := 24) m_254 rfl rfl rfl ?_))))
      refine ev_icmp_ne (t := 59) (e := 36) m_254 rfl rfl rfl (fun c3 => ?_) (fun c3 => ?_)
      · replace h := Ok_f c3 h
        refine ev_iload_n (pc' := 60) m_254 rfl rfl rfl (ev_istore_n (pc' := 61) m_254 rfl rfl rfl rfl (ev_iinc (pc' := 64) (z := 1) m_254 rfl rfl rfl rfl rfl rfl (ev_goto (pc' := 14) m_254 rfl rfl ?_)))
        exact am_Ev.sub (L := [(0, .ref 87), (2, .int (l2)), (3, .int (l3 + (1 : Int32)))]) ⟨rfl, rfl, rfl, trivial⟩ (ih l2 (l3 + (1 : Int32)) _ _ h)
      · replace h := Ok_t c3 h
        refine ev_aload_n (pc' := 37) m_254 rfl rfl rfl (tr_get (pc' := 40) (v := .ref 100) m_254 rfl rfl ts_o87 rfl rfl rfl (ev_iload_n (pc' := 41) m_254 rfl rfl rfl (tr_iald (pc' := 42) m_254 rfl rfl rfl g1 rfl (ev_iconst (pc' := 43) (x := 1) m_254 rfl rfl rfl (ev_iadd (pc' := 44) m_254 rfl rfl (ev_iload_n (pc' := 45) m_254 rfl rfl rfl ?_))))))
        refine ev_icmp_le (t := 59) (e := 48) m_254 rfl rfl rfl (fun c2 => ?_) (fun c2 => ?_)
        · replace h := Ok_t c2 h
          refine ev_iload_n (pc' := 60) m_254 rfl rfl rfl (ev_istore_n (pc' := 61) m_254 rfl rfl rfl rfl (ev_iinc (pc' := 64) (z := 1) m_254 rfl rfl rfl rfl rfl rfl (ev_goto (pc' := 14) m_254 rfl rfl ?_)))
          exact am_Ev.sub (L := [(0, .ref 87), (2, .int (l2)), (3, .int (l3 + (1 : Int32)))]) ⟨rfl, rfl, rfl, trivial⟩ (ih l2 (l3 + (1 : Int32)) _ _ h)
        · replace h := Ok_f c2 h
          refine ev_aload_n (pc' := 49) m_254 rfl rfl rfl (tr_get (pc' := 52) (v := .ref 100) m_254 rfl rfl ts_o87 rfl rfl rfl (ev_iload_n (pc' := 53) m_254 rfl rfl rfl (tr_iald (pc' := 54) m_254 rfl rfl rfl g1 rfl (ev_iconst (pc' := 55) (x := 1) m_254 rfl rfl rfl (ev_iadd (pc' := 56) m_254 rfl rfl (ev_goto (pc' := 60) m_254 rfl rfl (ev_istore_n (pc' := 61) m_254 rfl rfl rfl rfl ?_)))))))
          refine ev_iinc (pc' := 64) (z := 1) m_254 rfl rfl rfl rfl rfl rfl (ev_goto (pc' := 14) m_254 rfl rfl ?_)
          exact am_Ev.sub (L := [(0, .ref 87), (2, .int ((gA s 100 l3.toNatClampNeg) + ((1 : Int32)))), (3, .int (l3 + (1 : Int32)))]) ⟨rfl, rfl, rfl, trivial⟩ (ih ((gA s 100 l3.toNatClampNeg) + ((1 : Int32))) (l3 + (1 : Int32)) _ _ h)
def cR_localsOf (l1 : Int32) (s : ts) : Option (Int32 × ts) := (if am_idx l1 12 = true then cR_localsOf_14 tm_N (gA s 96 l1.toNatClampNeg) (gA s 97 l1.toNatClampNeg) s else none)
set_option maxRecDepth 20000 in
theorem cR_localsOf_ok {d : Nat} (l1 : Int32) (s : ts) (Q : Int32 × ts → Prop) (h : Ok (cR_localsOf l1 s) Q) : am_Ev (d + 0) 254 (0, [(0, .ref 87), (1, .int (l1))], []) (lay s) (tq_i Q) := by
  unfold cR_localsOf at h
  refine ev_aload_n (pc' := 1) m_254 rfl rfl rfl (tr_get (pc' := 4) (v := .ref 96) m_254 rfl rfl ts_o87 rfl rfl rfl (ev_iload_n (pc' := 5) m_254 rfl rfl rfl ?_))
  obtain ⟨g1, h⟩ := Ok_g h
  refine tr_iald (pc' := 6) m_254 rfl rfl rfl g1 rfl (ev_istore_n (pc' := 7) m_254 rfl rfl rfl rfl (ev_aload_n (pc' := 8) m_254 rfl rfl rfl (tr_get (pc' := 11) (v := .ref 97) m_254 rfl rfl ts_o87 rfl rfl rfl (ev_iload_n (pc' := 12) m_254 rfl rfl rfl (tr_iald (pc' := 13) m_254 rfl rfl rfl g1 rfl (ev_istore_n (pc' := 14) m_254 rfl rfl rfl rfl ?_))))))
  exact am_Ev.sub (L := [(0, .ref 87), (2, .int (gA s 96 l1.toNatClampNeg)), (3, .int (gA s 97 l1.toNatClampNeg))]) ⟨rfl, rfl, rfl, trivial⟩ (cR_localsOf_14_ok tm_N (gA s 96 l1.toNatClampNeg) (gA s 97 l1.toNatClampNeg) _ _ h)
def cR_process_66_b (kk : Int32 → Int32 → Int32 → Int32 → ts → Option (Int32 × ts)) (l1 : Int32) (l2 : Int32) (l3 : Int32) (l4 : Int32) (s : ts) : Option (Int32 × ts) := (if ((8 : Int32)) ≤ l4 then (if l2 = (0 : Int32) then (if am_idx l1 300 = true then some (gA s 119 l1.toNatClampNeg, s) else none) else (if l2 = (1 : Int32) then (if am_idx l1 300 = true then some (gA s 120 l1.toNatClampNeg, s) else none) else (if l2 = (2 : Int32) then (if am_idx l1 300 = true then (if ((2 : Int32)) ≤ (gA s 120 l1.toNatClampNeg) then some ((-2 : Int32), s) else some (gA s 122 l1.toNatClampNeg, s)) else none) else (if l2 = (3 : Int32) then (if am_idx l1 300 = true then (if (gA s 120 l1.toNatClampNeg) = ((2 : Int32)) then some (gA s 125 l1.toNatClampNeg, s) else (if (gA s 120 l1.toNatClampNeg) = ((3 : Int32)) then some (((gI s 1110 0) + (gA s 125 l1.toNatClampNeg)) - ((8 : Int32)), s) else some ((-2 : Int32), s))) else none) else (if l2 = (4 : Int32) then some (l3, s) else (if l2 = (5 : Int32) then (if am_idx l1 300 = true then some (gA s 126 l1.toNatClampNeg, s) else none) else (if l2 = (6 : Int32) then (if am_idx l1 300 = true then (if ((5 : Int32)) ≤ (gA s 120 l1.toNatClampNeg) then some ((-2 : Int32), s) else some (gA s 124 l1.toNatClampNeg, s)) else none) else some ((-2000000000 : Int32), s)))))))) else (if am_idx ((((8 : Int32)) * l1) + l4) 2400 = true then kk l1 l2 (l3 + (gA s 128 ((((8 : Int32)) * l1) + l4).toNatClampNeg)) (l4 + (1 : Int32)) s else none))
def cR_process_66 : Nat → Int32 → Int32 → Int32 → Int32 → ts → Option (Int32 × ts)
  | 0, _, _, _, _, _ => none
  | n + 1, l1, l2, l3, l4, s => cR_process_66_b (cR_process_66 n) l1 l2 l3 l4 s
set_option maxRecDepth 20000 in
theorem cR_process_66_ok {d : Nat} : ∀ (n : Nat) (l1 : Int32) (l2 : Int32) (l3 : Int32) (l4 : Int32) (s : ts) (Q : Int32 × ts → Prop), Ok (cR_process_66 n l1 l2 l3 l4 s) Q → am_Ev (d + 1) 253 (66, [(0, .ref 87), (1, .int (l1)), (2, .int (l2)), (3, .int (l3)), (4, .int (l4))], []) (lay s) (tq_i Q) := by
  intro n
  induction n with
  | zero => intro l1 l2 l3 l4 s Q h; exact Ok_n h
  | succ n ih =>
    intro l1 l2 l3 l4 s Q h
    rw [cR_process_66.eq_2] at h
    unfold cR_process_66_b at h
    refine ev_iload (pc' := 68) m_253 rfl rfl rfl (ev_bipush (pc' := 70) (x := 8) m_253 rfl rfl rfl ?_)
    refine ev_icmp_ge (t := 94) (e := 73) m_253 rfl rfl rfl (fun c19 => ?_) (fun c19 => ?_)
    · replace h := Ok_t c19 h
      refine ev_iload_n (pc' := 95) m_253 rfl rfl rfl ?_
      by_cases c2 : l2 = (0 : Int32)
      · replace h := Ok_t c2 h
        refine ev_sw (pc' := 136) m_253 rfl (by rw [c2]; rfl) ?_
        refine ev_aload_n (pc' := 137) m_253 rfl rfl rfl (tr_get (pc' := 140) (v := .ref 119) m_253 rfl rfl ts_o87 rfl rfl rfl (ev_iload_n (pc' := 141) m_253 rfl rfl rfl ?_))
        obtain ⟨g1, h⟩ := Ok_g h
        refine tr_iald (pc' := 142) m_253 rfl rfl rfl g1 rfl ?_
        exact tr_ri m_253 rfl rfl (Ok_s h)
      replace h := Ok_f c2 h
      by_cases c4 : l2 = (1 : Int32)
      · replace h := Ok_t c4 h
        refine ev_sw (pc' := 143) m_253 rfl (by rw [c4]; rfl) ?_
        refine ev_aload_n (pc' := 144) m_253 rfl rfl rfl (tr_get (pc' := 147) (v := .ref 120) m_253 rfl rfl ts_o87 rfl rfl rfl (ev_iload_n (pc' := 148) m_253 rfl rfl rfl ?_))
        obtain ⟨g3, h⟩ := Ok_g h
        refine tr_iald (pc' := 149) m_253 rfl rfl rfl g3 rfl ?_
        exact tr_ri m_253 rfl rfl (Ok_s h)
      replace h := Ok_f c4 h
      by_cases c7 : l2 = (2 : Int32)
      · replace h := Ok_t c7 h
        refine ev_sw (pc' := 150) m_253 rfl (by rw [c7]; rfl) ?_
        refine ev_aload_n (pc' := 151) m_253 rfl rfl rfl (tr_get (pc' := 154) (v := .ref 120) m_253 rfl rfl ts_o87 rfl rfl rfl (ev_iload_n (pc' := 155) m_253 rfl rfl rfl ?_))
        obtain ⟨g5, h⟩ := Ok_g h
        refine tr_iald (pc' := 156) m_253 rfl rfl rfl g5 rfl (ev_iconst (pc' := 157) (x := 2) m_253 rfl rfl rfl ?_)
        refine ev_icmp_ge (t := 169) (e := 160) m_253 rfl rfl rfl (fun c6 => ?_) (fun c6 => ?_)
        · replace h := Ok_t c6 h
          refine ev_bipush (pc' := 171) (x := -2) m_253 rfl rfl rfl ?_
          exact tr_ri m_253 rfl rfl (Ok_s h)
        · replace h := Ok_f c6 h
          refine ev_aload_n (pc' := 161) m_253 rfl rfl rfl (tr_get (pc' := 164) (v := .ref 122) m_253 rfl rfl ts_o87 rfl rfl rfl (ev_iload_n (pc' := 165) m_253 rfl rfl rfl (tr_iald (pc' := 166) m_253 rfl rfl rfl g5 rfl (ev_goto (pc' := 171) m_253 rfl rfl ?_))))
          exact tr_ri m_253 rfl rfl (Ok_s h)
      replace h := Ok_f c7 h
      by_cases c11 : l2 = (3 : Int32)
      · replace h := Ok_t c11 h
        refine ev_sw (pc' := 172) m_253 rfl (by rw [c11]; rfl) ?_
        refine ev_aload_n (pc' := 173) m_253 rfl rfl rfl (tr_get (pc' := 176) (v := .ref 120) m_253 rfl rfl ts_o87 rfl rfl rfl (ev_iload_n (pc' := 177) m_253 rfl rfl rfl ?_))
        obtain ⟨g8, h⟩ := Ok_g h
        refine tr_iald (pc' := 178) m_253 rfl rfl rfl g8 rfl (ev_iconst (pc' := 179) (x := 2) m_253 rfl rfl rfl ?_)
        refine ev_icmp_ne (t := 191) (e := 182) m_253 rfl rfl rfl (fun c10 => ?_) (fun c10 => ?_)
        · replace h := Ok_f c10 h
          refine ev_aload_n (pc' := 192) m_253 rfl rfl rfl (tr_get (pc' := 195) (v := .ref 120) m_253 rfl rfl ts_o87 rfl rfl rfl (ev_iload_n (pc' := 196) m_253 rfl rfl rfl (tr_iald (pc' := 197) m_253 rfl rfl rfl g8 rfl (ev_iconst (pc' := 198) (x := 3) m_253 rfl rfl rfl ?_))))
          refine ev_icmp_ne (t := 218) (e := 201) m_253 rfl rfl rfl (fun c9 => ?_) (fun c9 => ?_)
          · replace h := Ok_f c9 h
            refine ev_bipush (pc' := 220) (x := -2) m_253 rfl rfl rfl ?_
            exact tr_ri m_253 rfl rfl (Ok_s h)
          · replace h := Ok_t c9 h
            refine ev_aload_n (pc' := 202) m_253 rfl rfl rfl (tr_get (pc' := 205) (v := .int (gI _ 1110 _)) m_253 rfl rfl ts_o87 rfl rfl rfl (ev_aload_n (pc' := 206) m_253 rfl rfl rfl (tr_get (pc' := 209) (v := .ref 125) m_253 rfl rfl ts_o87 rfl rfl rfl (ev_iload_n (pc' := 210) m_253 rfl rfl rfl (tr_iald (pc' := 211) m_253 rfl rfl rfl g8 rfl (ev_iadd (pc' := 212) m_253 rfl rfl (ev_bipush (pc' := 214) (x := 8) m_253 rfl rfl rfl ?_)))))))
            refine ev_isub (pc' := 215) m_253 rfl rfl (ev_goto (pc' := 220) m_253 rfl rfl ?_)
            exact tr_ri m_253 rfl rfl (Ok_s h)
        · replace h := Ok_t c10 h
          refine ev_aload_n (pc' := 183) m_253 rfl rfl rfl (tr_get (pc' := 186) (v := .ref 125) m_253 rfl rfl ts_o87 rfl rfl rfl (ev_iload_n (pc' := 187) m_253 rfl rfl rfl (tr_iald (pc' := 188) m_253 rfl rfl rfl g8 rfl (ev_goto (pc' := 220) m_253 rfl rfl ?_))))
          exact tr_ri m_253 rfl rfl (Ok_s h)
      replace h := Ok_f c11 h
      by_cases c12 : l2 = (4 : Int32)
      · replace h := Ok_t c12 h
        refine ev_sw (pc' := 221) m_253 rfl (by rw [c12]; rfl) ?_
        refine ev_iload_n (pc' := 222) m_253 rfl rfl rfl ?_
        exact tr_ri m_253 rfl rfl (Ok_s h)
      replace h := Ok_f c12 h
      by_cases c14 : l2 = (5 : Int32)
      · replace h := Ok_t c14 h
        refine ev_sw (pc' := 223) m_253 rfl (by rw [c14]; rfl) ?_
        refine ev_aload_n (pc' := 224) m_253 rfl rfl rfl (tr_get (pc' := 227) (v := .ref 126) m_253 rfl rfl ts_o87 rfl rfl rfl (ev_iload_n (pc' := 228) m_253 rfl rfl rfl ?_))
        obtain ⟨g13, h⟩ := Ok_g h
        refine tr_iald (pc' := 229) m_253 rfl rfl rfl g13 rfl ?_
        exact tr_ri m_253 rfl rfl (Ok_s h)
      replace h := Ok_f c14 h
      by_cases c17 : l2 = (6 : Int32)
      · replace h := Ok_t c17 h
        refine ev_sw (pc' := 230) m_253 rfl (by rw [c17]; rfl) ?_
        refine ev_aload_n (pc' := 231) m_253 rfl rfl rfl (tr_get (pc' := 234) (v := .ref 120) m_253 rfl rfl ts_o87 rfl rfl rfl (ev_iload_n (pc' := 235) m_253 rfl rfl rfl ?_))
        obtain ⟨g15, h⟩ := Ok_g h
        refine tr_iald (pc' := 236) m_253 rfl rfl rfl g15 rfl (ev_iconst (pc' := 237) (x := 5) m_253 rfl rfl rfl ?_)
        refine ev_icmp_ge (t := 249) (e := 240) m_253 rfl rfl rfl (fun c16 => ?_) (fun c16 => ?_)
        · replace h := Ok_t c16 h
          refine ev_bipush (pc' := 251) (x := -2) m_253 rfl rfl rfl ?_
          exact tr_ri m_253 rfl rfl (Ok_s h)
        · replace h := Ok_f c16 h
          refine ev_aload_n (pc' := 241) m_253 rfl rfl rfl (tr_get (pc' := 244) (v := .ref 124) m_253 rfl rfl ts_o87 rfl rfl rfl (ev_iload_n (pc' := 245) m_253 rfl rfl rfl (tr_iald (pc' := 246) m_253 rfl rfl rfl g15 rfl (ev_goto (pc' := 251) m_253 rfl rfl ?_))))
          exact tr_ri m_253 rfl rfl (Ok_s h)
      replace h := Ok_f c17 h
      refine ev_tdef (t := 252) m_253 rfl (by have := ts_nel (k := 0) c2 (by decide); have := ts_nel (k := 1) c4 (by decide); have := ts_nel (k := 2) c7 (by decide); have := ts_nel (k := 3) c11 (by decide); have := ts_nel (k := 4) c12 (by decide); have := ts_nel (k := 5) c14 (by decide); have := ts_nel (k := 6) c17 (by decide); omega) rfl ?_
      refine tr_ldcw (pc' := 255) m_253 rfl rfl rfl ?_
      exact tr_ri m_253 rfl rfl (Ok_s h)
    · replace h := Ok_f c19 h
      refine ev_iload_n (pc' := 74) m_253 rfl rfl rfl (ev_aload_n (pc' := 75) m_253 rfl rfl rfl (tr_get (pc' := 78) (v := .ref 128) m_253 rfl rfl ts_o87 rfl rfl rfl (ev_bipush (pc' := 80) (x := 8) m_253 rfl rfl rfl (ev_iload_n (pc' := 81) m_253 rfl rfl rfl (ev_imul (pc' := 82) m_253 rfl rfl (ev_iload (pc' := 84) m_253 rfl rfl rfl (ev_iadd (pc' := 85) m_253 rfl rfl ?_)))))))
      obtain ⟨g18, h⟩ := Ok_g h
      refine tr_iald (pc' := 86) m_253 rfl rfl rfl g18 rfl (ev_iadd (pc' := 87) m_253 rfl rfl (ev_istore_n (pc' := 88) m_253 rfl rfl rfl rfl (ev_iinc (pc' := 91) (z := 1) m_253 rfl rfl rfl rfl rfl rfl (ev_goto (pc' := 66) m_253 rfl rfl ?_))))
      exact am_Ev.sub (L := [(0, .ref 87), (1, .int (l1)), (2, .int (l2)), (3, .int (l3 + (gA s 128 ((((8 : Int32)) * l1) + l4).toNatClampNeg))), (4, .int (l4 + (1 : Int32)))]) ⟨rfl, rfl, rfl, rfl, rfl, trivial⟩ (ih l1 l2 (l3 + (gA s 128 ((((8 : Int32)) * l1) + l4).toNatClampNeg)) (l4 + (1 : Int32)) _ _ h)
def cR_process (l1 : Int32) (l2 : Int32) (s : ts) : Option (Int32 × ts) := (if (gI s 1102 0) = ((0 : Int32)) then some ((-2000000000 : Int32), s) else (if l1 < ((0 : Int32)) then some ((-2000000000 : Int32), s) else (if l1 < (gI s 1155 0) then (if l2 < ((10 : Int32)) then cR_process_66 tm_N l1 l2 ((0 : Int32)) ((0 : Int32)) s else (if am_idx l1 300 = true then (cR_localsOf (gA s 119 l1.toNatClampNeg) s).bind (fun x4 => (if x4.1 ≤ (l2 - ((10 : Int32))) then cR_process_66 tm_N l1 l2 ((0 : Int32)) ((0 : Int32)) x4.2 else (if am_idx (((((8 : Int32)) * l1) + l2) - ((10 : Int32))) 2400 = true then some (gA x4.2 127 (((((8 : Int32)) * l1) + l2) - ((10 : Int32))).toNatClampNeg, x4.2) else none))) else none)) else some ((-2000000000 : Int32), s))))
set_option maxRecDepth 20000 in
theorem cR_process_ok {d : Nat} (l1 : Int32) (l2 : Int32) (s : ts) (Q : Int32 × ts → Prop) (h : Ok (cR_process l1 l2 s) Q) : am_Ev (d + 1) 253 (0, [(0, .ref 87), (1, .int (l1)), (2, .int (l2))], []) (lay s) (tq_i Q) := by
  unfold cR_process at h
  refine ev_aload_n (pc' := 1) m_253 rfl rfl rfl (tr_get (pc' := 4) (v := .int (gI _ 1102 _)) m_253 rfl rfl ts_o87 rfl rfl rfl ?_)
  refine ev_if_eq (t := 19) (e := 7) m_253 rfl rfl rfl (fun c10 => ?_) (fun c10 => ?_)
  · replace h := Ok_t c10 h
    refine tr_ldcw (pc' := 22) m_253 rfl rfl rfl ?_
    exact tr_ri m_253 rfl rfl (Ok_s h)
  · replace h := Ok_f c10 h
    refine ev_iload_n (pc' := 8) m_253 rfl rfl rfl ?_
    refine ev_if_lt (t := 19) (e := 11) m_253 rfl rfl rfl (fun c9 => ?_) (fun c9 => ?_)
    · replace h := Ok_t c9 h
      refine tr_ldcw (pc' := 22) m_253 rfl rfl rfl ?_
      exact tr_ri m_253 rfl rfl (Ok_s h)
    · replace h := Ok_f c9 h
      refine ev_iload_n (pc' := 12) m_253 rfl rfl rfl (ev_aload_n (pc' := 13) m_253 rfl rfl rfl (tr_get (pc' := 16) (v := .int (gI _ 1155 _)) m_253 rfl rfl ts_o87 rfl rfl rfl ?_))
      refine ev_icmp_lt (t := 23) (e := 19) m_253 rfl rfl rfl (fun c8 => ?_) (fun c8 => ?_)
      · replace h := Ok_t c8 h
        refine ev_iload_n (pc' := 24) m_253 rfl rfl rfl (ev_bipush (pc' := 26) (x := 10) m_253 rfl rfl rfl ?_)
        refine ev_icmp_lt (t := 61) (e := 29) m_253 rfl rfl rfl (fun c7 => ?_) (fun c7 => ?_)
        · replace h := Ok_t c7 h
          refine ev_iconst (pc' := 62) (x := 0) m_253 rfl rfl rfl (ev_istore_n (pc' := 63) m_253 rfl rfl rfl rfl (ev_iconst (pc' := 64) (x := 0) m_253 rfl rfl rfl (ev_istore (pc' := 66) m_253 rfl rfl rfl rfl ?_)))
          exact am_Ev.sub (L := [(0, .ref 87), (1, .int (l1)), (2, .int (l2)), (3, .int ((0 : Int32))), (4, .int ((0 : Int32)))]) ⟨rfl, rfl, rfl, rfl, rfl, trivial⟩ (cR_process_66_ok tm_N l1 l2 ((0 : Int32)) ((0 : Int32)) _ _ h)
        · replace h := Ok_f c7 h
          refine ev_iload_n (pc' := 30) m_253 rfl rfl rfl (ev_bipush (pc' := 32) (x := 10) m_253 rfl rfl rfl (ev_isub (pc' := 33) m_253 rfl rfl (ev_aload_n (pc' := 34) m_253 rfl rfl rfl (ev_aload_n (pc' := 35) m_253 rfl rfl rfl (tr_get (pc' := 38) (v := .ref 119) m_253 rfl rfl ts_o87 rfl rfl rfl (ev_iload_n (pc' := 39) m_253 rfl rfl rfl ?_))))))
          obtain ⟨g1, h⟩ := Ok_g h
          refine tr_iald (pc' := 40) m_253 rfl rfl rfl g1 rfl ?_
          refine tr_ci (pc' := 43) m_253 rfl rfl rfl m_254 rfl rfl rfl rfl (tr_rcv ts_o87 rfl) rfl rfl (cR_localsOf_ok (gA s 119 l1.toNatClampNeg) _ _ (Ok_b h)) (fun x4_ x4_s h => ?_)
          refine ev_icmp_ge (t := 61) (e := 46) m_253 rfl rfl rfl (fun c6 => ?_) (fun c6 => ?_)
          · replace h := Ok_t c6 h
            refine ev_iconst (pc' := 62) (x := 0) m_253 rfl rfl rfl (ev_istore_n (pc' := 63) m_253 rfl rfl rfl rfl (ev_iconst (pc' := 64) (x := 0) m_253 rfl rfl rfl (ev_istore (pc' := 66) m_253 rfl rfl rfl rfl ?_)))
            exact am_Ev.sub (L := [(0, .ref 87), (1, .int (l1)), (2, .int (l2)), (3, .int ((0 : Int32))), (4, .int ((0 : Int32)))]) ⟨rfl, rfl, rfl, rfl, rfl, trivial⟩ (cR_process_66_ok tm_N l1 l2 ((0 : Int32)) ((0 : Int32)) _ _ h)
          · replace h := Ok_f c6 h
            refine ev_aload_n (pc' := 47) m_253 rfl rfl rfl (tr_get (pc' := 50) (v := .ref 127) m_253 rfl rfl ts_o87 rfl rfl rfl (ev_bipush (pc' := 52) (x := 8) m_253 rfl rfl rfl (ev_iload_n (pc' := 53) m_253 rfl rfl rfl (ev_imul (pc' := 54) m_253 rfl rfl (ev_iload_n (pc' := 55) m_253 rfl rfl rfl (ev_iadd (pc' := 56) m_253 rfl rfl (ev_bipush (pc' := 58) (x := 10) m_253 rfl rfl rfl ?_)))))))
            refine ev_isub (pc' := 59) m_253 rfl rfl ?_
            obtain ⟨g5, h⟩ := Ok_g h
            refine tr_iald (pc' := 60) m_253 rfl rfl rfl g5 rfl ?_
            exact tr_ri m_253 rfl rfl (Ok_s h)
      · replace h := Ok_f c8 h
        refine tr_ldcw (pc' := 22) m_253 rfl rfl rfl ?_
        exact tr_ri m_253 rfl rfl (Ok_s h)
def cG_innerPlace (l1 : Int32) (s : ts) : Option (Int32 × ts) := (if l1 < ((0 : Int32)) then some ((-2 : Int32), s) else (if l1 < ((gA s 16 ((0 : Int32)).toNatClampNeg) + (gA s 16 ((1 : Int32)).toNatClampNeg)) then (if (gA s 16 ((0 : Int32)).toNatClampNeg) ≤ l1 then some ((((8 : Int32)) + l1) - (gA s 16 ((0 : Int32)).toNatClampNeg), s) else some (l1, s)) else some ((-2 : Int32), s)))
set_option maxRecDepth 20000 in
theorem cG_innerPlace_ok {d : Nat} (l1 : Int32) (s : ts) (Q : Int32 × ts → Prop) (h : Ok (cG_innerPlace l1 s) Q) : am_Ev (d + 0) 164 (0, [(0, .ref 12), (1, .int (l1))], []) (lay s) (tq_i Q) := by
  unfold cG_innerPlace at h
  refine ev_aload_n (pc' := 1) m_164 rfl rfl rfl (tr_get (pc' := 4) (v := .ref 16) m_164 rfl rfl ts_o12 rfl rfl rfl (ev_iconst (pc' := 5) (x := 0) m_164 rfl rfl rfl (tr_iald (pc' := 6) m_164 rfl rfl rfl rfl rfl (ev_istore_n (pc' := 7) m_164 rfl rfl rfl rfl (ev_iload_n (pc' := 8) m_164 rfl rfl rfl ?_)))))
  refine ev_if_lt (t := 23) (e := 11) m_164 rfl rfl rfl (fun c3 => ?_) (fun c3 => ?_)
  · replace h := Ok_t c3 h
    refine ev_bipush (pc' := 25) (x := -2) m_164 rfl rfl rfl ?_
    exact tr_ri m_164 rfl rfl (Ok_s h)
  · replace h := Ok_f c3 h
    refine ev_iload_n (pc' := 12) m_164 rfl rfl rfl (ev_iload_n (pc' := 13) m_164 rfl rfl rfl (ev_aload_n (pc' := 14) m_164 rfl rfl rfl (tr_get (pc' := 17) (v := .ref 16) m_164 rfl rfl ts_o12 rfl rfl rfl (ev_iconst (pc' := 18) (x := 1) m_164 rfl rfl rfl (tr_iald (pc' := 19) m_164 rfl rfl rfl rfl rfl (ev_iadd (pc' := 20) m_164 rfl rfl ?_))))))
    refine ev_icmp_lt (t := 26) (e := 23) m_164 rfl rfl rfl (fun c2 => ?_) (fun c2 => ?_)
    · replace h := Ok_t c2 h
      refine ev_iload_n (pc' := 27) m_164 rfl rfl rfl (ev_iload_n (pc' := 28) m_164 rfl rfl rfl ?_)
      refine ev_icmp_ge (t := 35) (e := 31) m_164 rfl rfl rfl (fun c1 => ?_) (fun c1 => ?_)
      · replace h := Ok_t c1 h
        refine ev_bipush (pc' := 37) (x := 8) m_164 rfl rfl rfl (ev_iload_n (pc' := 38) m_164 rfl rfl rfl (ev_iadd (pc' := 39) m_164 rfl rfl (ev_iload_n (pc' := 40) m_164 rfl rfl rfl (ev_isub (pc' := 41) m_164 rfl rfl ?_))))
        exact tr_ri m_164 rfl rfl (Ok_s h)
      · replace h := Ok_f c1 h
        refine ev_iload_n (pc' := 32) m_164 rfl rfl rfl (ev_goto (pc' := 41) m_164 rfl rfl ?_)
        exact tr_ri m_164 rfl rfl (Ok_s h)
    · replace h := Ok_f c2 h
      refine ev_bipush (pc' := 25) (x := -2) m_164 rfl rfl rfl ?_
      exact tr_ri m_164 rfl rfl (Ok_s h)
def cN_find_7_b (kk : Int32 → Option Nat → Int32 → ts → Option (Option Nat × ts)) (l1 : Int32) (l2 : Option Nat) (l3 : Int32) (s : ts) : Option (Option Nat × ts) := (match l2 with
  | none => (if l1 ≤ l3 then some (none, s) else some (none, s))
  | some l2 => (if l1 ≤ l3 then some (some l2, s) else (if l2 < gM s then (match gR s 509 l2 with
  | none => kk l1 none (l3 + (1 : Int32)) s
  | some r3 => kk l1 (some r3) (l3 + (1 : Int32)) s) else none)))
def cN_find_7 : Nat → Int32 → Option Nat → Int32 → ts → Option (Option Nat × ts)
  | 0, _, _, _, _ => none
  | n + 1, l1, l2, l3, s => cN_find_7_b (cN_find_7 n) l1 l2 l3 s
set_option maxRecDepth 20000 in
theorem cN_find_7_ok {d : Nat} : ∀ (n : Nat) (l1 : Int32) (l2 : Option Nat) (l3 : Int32) (s : ts) (Q : Option Nat × ts → Prop), Ok (cN_find_7 n l1 l2 l3 s) Q → am_Ev (d + 0) 167 (7, [(1, .int (l1)), (2, va_rf (l2.map pB)), (3, .int (l3))], []) (lay s) (tq_r pB Q) := by
  intro n
  induction n with
  | zero => intro l1 l2 l3 s Q h; exact Ok_n h
  | succ n ih =>
    intro l1 l2 l3 s Q h
    rw [cN_find_7.eq_2] at h
    unfold cN_find_7_b at h
    cases l2 with
    | none =>
      dsimp only at h
      refine ev_iload_n (pc' := 8) m_167 rfl rfl rfl (ev_iload_n (pc' := 9) m_167 rfl rfl rfl ?_)
      refine ev_icmp_ge (t := 27) (e := 12) m_167 rfl rfl rfl (fun c1 => ?_) (fun c1 => ?_)
      · replace h := Ok_t c1 h
        refine ev_aload_nN (pc' := 28) m_167 rfl rfl rfl ?_
        exact tr_rn m_167 rfl rfl (Ok_s h)
      · replace h := Ok_f c1 h
        refine ev_aload_nN (pc' := 13) m_167 rfl rfl rfl (ev_nulY (t := 27) m_167 rfl rfl (ev_aload_nN (pc' := 28) m_167 rfl rfl rfl ?_))
        exact tr_rn m_167 rfl rfl (Ok_s h)
    | some l2 =>
      dsimp only at h
      refine ev_iload_n (pc' := 8) m_167 rfl rfl rfl (ev_iload_n (pc' := 9) m_167 rfl rfl rfl ?_)
      refine ev_icmp_ge (t := 27) (e := 12) m_167 rfl rfl rfl (fun c5 => ?_) (fun c5 => ?_)
      · replace h := Ok_t c5 h
        refine ev_aload_n (pc' := 28) m_167 rfl rfl rfl ?_
        exact tr_rr m_167 rfl rfl (Ok_s h)
      · replace h := Ok_f c5 h
        refine ev_aload_n (pc' := 13) m_167 rfl rfl rfl (ev_nulN (e := 16) m_167 rfl rfl (ev_aload_n (pc' := 17) m_167 rfl rfl rfl ?_))
        obtain ⟨g2, h⟩ := Ok_g h
        cases e4 : gR s 509 l2 with
        | none =>
          rw [e4] at h
          dsimp only at h
          refine tr_getN (pc' := 20) (f := 509) (g := pB) m_167 rfl rfl (ts_obB g2) rfl rfl e4 rfl ?_
          refine ev_astore_nN (pc' := 21) m_167 rfl rfl rfl rfl (ev_iinc (pc' := 24) (z := 1) m_167 rfl rfl rfl rfl rfl rfl (ev_goto (pc' := 7) m_167 rfl rfl ?_))
          exact am_Ev.sub (L := [(1, .int (l1)), (2, .null), (3, .int (l3 + (1 : Int32)))]) ⟨rfl, rfl, rfl, trivial⟩ (ih l1 none (l3 + (1 : Int32)) _ _ h)
        | some r3 =>
          rw [e4] at h
          dsimp only at h
          refine tr_getS (pc' := 20) (f := 509) (g := pB) m_167 rfl rfl (ts_obB g2) rfl rfl e4 rfl ?_
          refine ev_astore_n (pc' := 21) m_167 rfl rfl rfl rfl (ev_iinc (pc' := 24) (z := 1) m_167 rfl rfl rfl rfl rfl rfl (ev_goto (pc' := 7) m_167 rfl rfl ?_))
          exact am_Ev.sub (L := [(1, .int (l1)), (2, .ref (pB r3)), (3, .int (l3 + (1 : Int32)))]) ⟨rfl, rfl, rfl, trivial⟩ (ih l1 (some r3) (l3 + (1 : Int32)) _ _ h)
def cN_find (l0 : Nat) (l1 : Int32) (s : ts) : Option (Option Nat × ts) := (if l0 < 30 then (match gR s 600 l0 with
  | none => cN_find_7 tm_N l1 none ((0 : Int32)) s
  | some r2 => cN_find_7 tm_N l1 (some r2) ((0 : Int32)) s) else none)
set_option maxRecDepth 20000 in
theorem cN_find_ok {d : Nat} (l0 : Nat) (l1 : Int32) (s : ts) (Q : Option Nat × ts → Prop) (h : Ok (cN_find l0 l1 s) Q) : am_Ev (d + 0) 167 (0, [(0, .ref (pL l0)), (1, .int (l1))], []) (lay s) (tq_r pB Q) := by
  unfold cN_find at h
  refine ev_aload_n (pc' := 1) m_167 rfl rfl rfl ?_
  obtain ⟨g1, h⟩ := Ok_g h
  cases e3 : gR s 600 l0 with
  | none =>
    rw [e3] at h
    dsimp only at h
    refine tr_getN (pc' := 4) (f := 600) (g := pB) m_167 rfl rfl (ts_obL g1) rfl rfl e3 rfl ?_
    refine ev_astore_nN (pc' := 5) m_167 rfl rfl rfl rfl (ev_iconst (pc' := 6) (x := 0) m_167 rfl rfl rfl (ev_istore_n (pc' := 7) m_167 rfl rfl rfl rfl ?_))
    exact am_Ev.sub (L := [(1, .int (l1)), (2, .null), (3, .int ((0 : Int32)))]) ⟨rfl, rfl, rfl, trivial⟩ (cN_find_7_ok tm_N l1 none ((0 : Int32)) _ _ h)
  | some r2 =>
    rw [e3] at h
    dsimp only at h
    refine tr_getS (pc' := 4) (f := 600) (g := pB) m_167 rfl rfl (ts_obL g1) rfl rfl e3 rfl ?_
    refine ev_astore_n (pc' := 5) m_167 rfl rfl rfl rfl (ev_iconst (pc' := 6) (x := 0) m_167 rfl rfl rfl (ev_istore_n (pc' := 7) m_167 rfl rfl rfl rfl ?_))
    exact am_Ev.sub (L := [(1, .int (l1)), (2, .ref (pB r2)), (3, .int ((0 : Int32)))]) ⟨rfl, rfl, rfl, trivial⟩ (cN_find_7_ok tm_N l1 (some r2) ((0 : Int32)) _ _ h)
def cK_tellWaiting_38 (t0 : Option Nat) (s : ts) : Option (Int32 × ts) := (match t0 with
  | none => some ((-2 : Int32), s)
  | some t0 => (if t0 < gM s then some (gI s 500 t0, s) else none))
set_option maxRecDepth 20000 in
theorem cK_tellWaiting_38_ok {d : Nat} (t0 : Option Nat) (s : ts) (Q : Int32 × ts → Prop) (h : Ok (cK_tellWaiting_38 t0 s) Q) : am_Ev (d + 1) 166 (38, [], [va_rf (t0.map pB)]) (lay s) (tq_i Q) := by
  unfold cK_tellWaiting_38 at h
  cases t0 with
  | none =>
    dsimp only at h
    refine ev_astore_nN (pc' := 39) m_166 rfl rfl rfl rfl (ev_aload_nN (pc' := 40) m_166 rfl rfl rfl (ev_nnlN (e := 43) m_166 rfl rfl (ev_bipush (pc' := 45) (x := -2) m_166 rfl rfl rfl (ev_goto (pc' := 52) m_166 rfl rfl ?_))))
    exact tr_ri m_166 rfl rfl (Ok_s h)
  | some t0 =>
    dsimp only at h
    refine ev_astore_n (pc' := 39) m_166 rfl rfl rfl rfl (ev_aload_n (pc' := 40) m_166 rfl rfl rfl (ev_nnlY (t := 48) m_166 rfl rfl (ev_aload_n (pc' := 49) m_166 rfl rfl rfl ?_)))
    obtain ⟨g1, h⟩ := Ok_g h
    refine tr_get (pc' := 52) (v := .int (gI _ 500 _)) m_166 rfl rfl (ts_obB g1) rfl rfl rfl ?_
    exact tr_ri m_166 rfl rfl (Ok_s h)
def cK_tellWaiting (l0 : Nat) (l1 : Int32) (s : ts) : Option (Int32 × ts) := (if l0 < 14 then (if (gI s 601 (2 * l0)) ≤ l1 then (cN_find (2 * l0 + 1) (l1 - (gI s 601 (2 * l0))) s).bind (fun x4 => match x4.1 with
  | none => cK_tellWaiting_38 none x4.2
  | some q5 => cK_tellWaiting_38 (some q5) x4.2) else (cN_find (2 * l0) l1 s).bind (fun x8 => match x8.1 with
  | none => cK_tellWaiting_38 none x8.2
  | some q9 => cK_tellWaiting_38 (some q9) x8.2)) else none)
set_option maxRecDepth 20000 in
theorem cK_tellWaiting_ok {d : Nat} (l0 : Nat) (l1 : Int32) (s : ts) (Q : Int32 × ts → Prop) (h : Ok (cK_tellWaiting l0 l1 s) Q) : am_Ev (d + 1) 166 (0, [(0, .ref (pQ l0)), (1, .int (l1))], []) (lay s) (tq_i Q) := by
  unfold cK_tellWaiting at h
  refine ev_iload_n (pc' := 1) m_166 rfl rfl rfl (ev_aload_n (pc' := 2) m_166 rfl rfl rfl ?_)
  obtain ⟨g1, h⟩ := Ok_g h
  refine tr_get (pc' := 5) (v := .ref (pL (2 * l0))) m_166 rfl rfl (ts_obQ g1) rfl rfl rfl (tr_get (pc' := 8) (v := .int (gI _ 601 _)) m_166 rfl rfl (ts_obL (by have := g1; omega)) rfl rfl rfl ?_)
  refine ev_icmp_ge (t := 22) (e := 11) m_166 rfl rfl rfl (fun c10 => ?_) (fun c10 => ?_)
  · replace h := Ok_t c10 h
    refine ev_aload_n (pc' := 23) m_166 rfl rfl rfl (tr_get (pc' := 26) (v := .ref (pL (2 * l0 + 1))) m_166 rfl rfl (ts_obQ g1) rfl rfl rfl (ev_iload_n (pc' := 27) m_166 rfl rfl rfl (ev_aload_n (pc' := 28) m_166 rfl rfl rfl (tr_get (pc' := 31) (v := .ref (pL (2 * l0))) m_166 rfl rfl (ts_obQ g1) rfl rfl rfl (tr_get (pc' := 34) (v := .int (gI _ 601 _)) m_166 rfl rfl (ts_obL (by have := g1; omega)) rfl rfl rfl (ev_isub (pc' := 35) m_166 rfl rfl ?_))))))
    refine tr_cr (pc' := 38) m_166 rfl rfl rfl m_167 rfl rfl rfl rfl (tr_rcv (ts_obL (by have := g1; omega)) rfl) rfl rfl (cN_find_ok (2 * l0 + 1) (l1 - (gI s 601 (2 * l0))) _ _ (Ok_b h)) (fun x4_s h => ?_) (fun q5 x4_s h => ?_)
    · dsimp only at h
      exact am_Ev.sub (L := []) trivial (cK_tellWaiting_38_ok none _ _ h)
    · dsimp only at h
      exact am_Ev.sub (L := []) trivial (cK_tellWaiting_38_ok (some q5) _ _ h)
  · replace h := Ok_f c10 h
    refine ev_aload_n (pc' := 12) m_166 rfl rfl rfl (tr_get (pc' := 15) (v := .ref (pL (2 * l0))) m_166 rfl rfl (ts_obQ g1) rfl rfl rfl (ev_iload_n (pc' := 16) m_166 rfl rfl rfl ?_))
    refine tr_cr (pc' := 19) m_166 rfl rfl rfl m_167 rfl rfl rfl rfl (tr_rcv (ts_obL (by have := g1; omega)) rfl) rfl rfl (cN_find_ok (2 * l0) l1 _ _ (Ok_b h)) (fun x8_s h => ?_) (fun q9 x8_s h => ?_)
    · dsimp only at h
      refine ev_goto (pc' := 38) m_166 rfl rfl ?_
      exact am_Ev.sub (L := []) trivial (cK_tellWaiting_38_ok none _ _ h)
    · dsimp only at h
      refine ev_goto (pc' := 38) m_166 rfl rfl ?_
      exact am_Ev.sub (L := []) trivial (cK_tellWaiting_38_ok (some q9) _ _ h)
def cK_tell (l0 : Nat) (l1 : Int32) (s : ts) : Option (Int32 × ts) := (if l1 = (0 : Int32) then (if l0 < 14 then some (gI s 703 l0, s) else none) else (if l1 = (1 : Int32) then (if l0 < 14 then (cK_waiting l0 s).bind (fun x6 => some (x6.1, x6.2)) else none) else (if l1 = (2 : Int32) then (if l0 < 14 then some (gI s 704 l0, s) else none) else (if l1 = (3 : Int32) then (if l0 < 14 then some (gI s 705 l0, s) else none) else (if l1 = (4 : Int32) then (if l0 < 14 then some (gI s 706 l0, s) else none) else (if l1 = (5 : Int32) then (if l0 < 14 then some (gI s 707 l0, s) else none) else (if ((10 : Int32)) ≤ l1 then (if l0 < 14 then (cK_tellWaiting l0 (l1 - ((10 : Int32))) s).bind (fun x19 => some (x19.1, x19.2)) else none) else some ((-2 : Int32), s))))))))
set_option maxRecDepth 20000 in
theorem cK_tell_ok {d : Nat} (l0 : Nat) (l1 : Int32) (s : ts) (Q : Int32 × ts → Prop) (h : Ok (cK_tell l0 l1 s) Q) : am_Ev (d + 2) 165 (0, [(0, .ref (pQ l0)), (1, .int (l1))], []) (lay s) (tq_i Q) := by
  unfold cK_tell at h
  refine ev_iload_n (pc' := 1) m_165 rfl rfl rfl ?_
  by_cases c2 : l1 = (0 : Int32)
  · replace h := Ok_t c2 h
    refine ev_sw (pc' := 40) m_165 rfl (by rw [c2]; rfl) ?_
    refine ev_aload_n (pc' := 41) m_165 rfl rfl rfl ?_
    obtain ⟨g1, h⟩ := Ok_g h
    refine tr_get (pc' := 44) (v := .int (gI _ 703 _)) m_165 rfl rfl (ts_obQ g1) rfl rfl rfl ?_
    exact tr_ri m_165 rfl rfl (Ok_s h)
  replace h := Ok_f c2 h
  by_cases c7 : l1 = (1 : Int32)
  · replace h := Ok_t c7 h
    refine ev_sw (pc' := 45) m_165 rfl (by rw [c7]; rfl) ?_
    refine ev_aload_n (pc' := 46) m_165 rfl rfl rfl ?_
    obtain ⟨g3, h⟩ := Ok_g h
    refine tr_ci (pc' := 49) m_165 rfl rfl rfl m_119 rfl rfl rfl rfl (tr_rcv (ts_obQ g3) rfl) rfl rfl (cK_waiting_ok l0 _ _ (Ok_b h)) (fun x6_ x6_s h => ?_)
    exact tr_ri m_165 rfl rfl (Ok_s h)
  replace h := Ok_f c7 h
  by_cases c9 : l1 = (2 : Int32)
  · replace h := Ok_t c9 h
    refine ev_sw (pc' := 50) m_165 rfl (by rw [c9]; rfl) ?_
    refine ev_aload_n (pc' := 51) m_165 rfl rfl rfl ?_
    obtain ⟨g8, h⟩ := Ok_g h
    refine tr_get (pc' := 54) (v := .int (gI _ 704 _)) m_165 rfl rfl (ts_obQ g8) rfl rfl rfl ?_
    exact tr_ri m_165 rfl rfl (Ok_s h)
  replace h := Ok_f c9 h
  by_cases c11 : l1 = (3 : Int32)
  · replace h := Ok_t c11 h
    refine ev_sw (pc' := 55) m_165 rfl (by rw [c11]; rfl) ?_
    refine ev_aload_n (pc' := 56) m_165 rfl rfl rfl ?_
    obtain ⟨g10, h⟩ := Ok_g h
    refine tr_get (pc' := 59) (v := .int (gI _ 705 _)) m_165 rfl rfl (ts_obQ g10) rfl rfl rfl ?_
    exact tr_ri m_165 rfl rfl (Ok_s h)
  replace h := Ok_f c11 h
  by_cases c13 : l1 = (4 : Int32)
  · replace h := Ok_t c13 h
    refine ev_sw (pc' := 60) m_165 rfl (by rw [c13]; rfl) ?_
    refine ev_aload_n (pc' := 61) m_165 rfl rfl rfl ?_
    obtain ⟨g12, h⟩ := Ok_g h
    refine tr_get (pc' := 64) (v := .int (gI _ 706 _)) m_165 rfl rfl (ts_obQ g12) rfl rfl rfl ?_
    exact tr_ri m_165 rfl rfl (Ok_s h)
  replace h := Ok_f c13 h
  by_cases c15 : l1 = (5 : Int32)
  · replace h := Ok_t c15 h
    refine ev_sw (pc' := 65) m_165 rfl (by rw [c15]; rfl) ?_
    refine ev_aload_n (pc' := 66) m_165 rfl rfl rfl ?_
    obtain ⟨g14, h⟩ := Ok_g h
    refine tr_get (pc' := 69) (v := .int (gI _ 707 _)) m_165 rfl rfl (ts_obQ g14) rfl rfl rfl ?_
    exact tr_ri m_165 rfl rfl (Ok_s h)
  replace h := Ok_f c15 h
  refine ev_tdef (t := 70) m_165 rfl (by have := ts_nel (k := 0) c2 (by decide); have := ts_nel (k := 1) c7 (by decide); have := ts_nel (k := 2) c9 (by decide); have := ts_nel (k := 3) c11 (by decide); have := ts_nel (k := 4) c13 (by decide); have := ts_nel (k := 5) c15 (by decide); omega) rfl ?_
  refine ev_iload_n (pc' := 71) m_165 rfl rfl rfl (ev_bipush (pc' := 73) (x := 10) m_165 rfl rfl rfl ?_)
  refine ev_icmp_ge (t := 81) (e := 76) m_165 rfl rfl rfl (fun c20 => ?_) (fun c20 => ?_)
  · replace h := Ok_t c20 h
    refine ev_aload_n (pc' := 82) m_165 rfl rfl rfl (ev_iload_n (pc' := 83) m_165 rfl rfl rfl (ev_bipush (pc' := 85) (x := 10) m_165 rfl rfl rfl (ev_isub (pc' := 86) m_165 rfl rfl ?_)))
    obtain ⟨g16, h⟩ := Ok_g h
    refine tr_ci (pc' := 89) m_165 rfl rfl rfl m_166 rfl rfl rfl rfl (tr_rcv (ts_obQ g16) rfl) rfl rfl (cK_tellWaiting_ok l0 (l1 - ((10 : Int32))) _ _ (Ok_b h)) (fun x19_ x19_s h => ?_)
    exact tr_ri m_165 rfl rfl (Ok_s h)
  · replace h := Ok_f c20 h
    refine ev_bipush (pc' := 78) (x := -2) m_165 rfl rfl rfl (ev_goto (pc' := 89) m_165 rfl rfl ?_)
    exact tr_ri m_165 rfl rfl (Ok_s h)
def cX_place_29 (l2 : Int32) (t0 : Option Nat) (s : ts) : Option (Int32 × ts) := (match t0 with
  | none => some ((-2 : Int32), s)
  | some t0 => (if t0 < 14 then (cK_tell t0 l2 s).bind (fun x4 => some (x4.1, x4.2)) else none))
set_option maxRecDepth 20000 in
theorem cX_place_29_ok {d : Nat} (l2 : Int32) (t0 : Option Nat) (s : ts) (Q : Int32 × ts → Prop) (h : Ok (cX_place_29 l2 t0 s) Q) : am_Ev (d + 3) 163 (29, [(2, .int (l2))], [va_rf (t0.map pQ)]) (lay s) (tq_i Q) := by
  unfold cX_place_29 at h
  cases t0 with
  | none =>
    dsimp only at h
    refine ev_astore_nN (pc' := 30) m_163 rfl rfl rfl rfl (ev_aload_nN (pc' := 31) m_163 rfl rfl rfl (ev_nnlN (e := 34) m_163 rfl rfl (ev_bipush (pc' := 36) (x := -2) m_163 rfl rfl rfl (ev_goto (pc' := 44) m_163 rfl rfl ?_))))
    exact tr_ri m_163 rfl rfl (Ok_s h)
  | some t0 =>
    dsimp only at h
    refine ev_astore_n (pc' := 30) m_163 rfl rfl rfl rfl (ev_aload_n (pc' := 31) m_163 rfl rfl rfl (ev_nnlY (t := 39) m_163 rfl rfl (ev_aload_n (pc' := 40) m_163 rfl rfl rfl (ev_iload_n (pc' := 41) m_163 rfl rfl rfl ?_))))
    obtain ⟨g1, h⟩ := Ok_g h
    refine tr_ci (pc' := 44) m_163 rfl rfl rfl m_165 rfl rfl rfl rfl (tr_rcv (ts_obQ g1) rfl) rfl rfl (cK_tell_ok t0 l2 _ _ (Ok_b h)) (fun x4_ x4_s h => ?_)
    exact tr_ri m_163 rfl rfl (Ok_s h)
def cX_place (l1 : Int32) (l2 : Int32) (s : ts) : Option (Int32 × ts) := (if (gI s 6 0) = ((0 : Int32)) then cX_place_29 l2 none s else (cG_innerPlace l1 s).bind (fun x3 => (cW_placeAt x3.1 x3.2).bind (fun x6 => match x6.1 with
  | none => cX_place_29 l2 none x6.2
  | some q7 => cX_place_29 l2 (some q7) x6.2)))
set_option maxRecDepth 20000 in
theorem cX_place_ok {d : Nat} (l1 : Int32) (l2 : Int32) (s : ts) (Q : Int32 × ts → Prop) (h : Ok (cX_place l1 l2 s) Q) : am_Ev (d + 3) 163 (0, [(0, .ref 5), (1, .int (l1)), (2, .int (l2))], []) (lay s) (tq_i Q) := by
  unfold cX_place at h
  refine ev_aload_n (pc' := 1) m_163 rfl rfl rfl (tr_get (pc' := 4) (v := .int (gI _ 6 _)) m_163 rfl rfl ts_o5 rfl rfl rfl ?_)
  refine ev_if_eq (t := 28) (e := 7) m_163 rfl rfl rfl (fun c8 => ?_) (fun c8 => ?_)
  · replace h := Ok_t c8 h
    refine ev_null (pc' := 29) m_163 rfl rfl ?_
    exact am_Ev.sub (L := [(2, .int (l2))]) ⟨rfl, trivial⟩ (cX_place_29_ok l2 none _ _ h)
  · replace h := Ok_f c8 h
    refine ev_aload_n (pc' := 8) m_163 rfl rfl rfl (tr_get (pc' := 11) (v := .ref 34) m_163 rfl rfl ts_o5 rfl rfl rfl (tr_get (pc' := 14) (v := .ref 35) m_163 rfl rfl ts_o34 rfl rfl rfl (ev_aload_n (pc' := 15) m_163 rfl rfl rfl (tr_get (pc' := 18) (v := .ref 12) m_163 rfl rfl ts_o5 rfl rfl rfl (ev_iload_n (pc' := 19) m_163 rfl rfl rfl ?_)))))
    refine tr_ci (pc' := 22) m_163 rfl rfl rfl m_164 rfl rfl rfl rfl (tr_rcv ts_o12 rfl) rfl rfl (cG_innerPlace_ok l1 _ _ (Ok_b h)) (fun x3_ x3_s h => ?_)
    refine tr_cr (pc' := 25) m_163 rfl rfl rfl m_118 rfl rfl rfl rfl (tr_rcv ts_o35 rfl) rfl rfl (cW_placeAt_ok x3_ _ _ (Ok_b h)) (fun x6_s h => ?_) (fun q7 x6_s h => ?_)
    · dsimp only at h
      refine ev_goto (pc' := 29) m_163 rfl rfl ?_
      exact am_Ev.sub (L := [(2, .int (l2))]) ⟨rfl, trivial⟩ (cX_place_29_ok l2 none _ _ h)
    · dsimp only at h
      refine ev_goto (pc' := 29) m_163 rfl rfl ?_
      exact am_Ev.sub (L := [(2, .int (l2))]) ⟨rfl, trivial⟩ (cX_place_29_ok l2 (some q7) _ _ h)
def cR_spot (l1 : Int32) (s : ts) : Option (Int32 × ts) := (if (gI s 1102 0) = ((0 : Int32)) then some ((-1 : Int32), s) else (if l1 < ((0 : Int32)) then some ((-1 : Int32), s) else (if l1 < ((gI s 1110 0) + (gI s 1113 0)) then (if (gI s 1110 0) ≤ l1 then some ((((8 : Int32)) + l1) - (gI s 1110 0), s) else some (l1, s)) else some ((-1 : Int32), s))))
set_option maxRecDepth 20000 in
theorem cR_spot_ok {d : Nat} (l1 : Int32) (s : ts) (Q : Int32 × ts → Prop) (h : Ok (cR_spot l1 s) Q) : am_Ev (d + 0) 256 (0, [(0, .ref 87), (1, .int (l1))], []) (lay s) (tq_i Q) := by
  unfold cR_spot at h
  refine ev_aload_n (pc' := 1) m_256 rfl rfl rfl (tr_get (pc' := 4) (v := .int (gI _ 1102 _)) m_256 rfl rfl ts_o87 rfl rfl rfl ?_)
  refine ev_if_eq (t := 24) (e := 7) m_256 rfl rfl rfl (fun c4 => ?_) (fun c4 => ?_)
  · replace h := Ok_t c4 h
    refine ev_iconst (pc' := 25) (x := -1) m_256 rfl rfl rfl (ev_goto (pc' := 49) m_256 rfl rfl ?_)
    exact tr_ri m_256 rfl rfl (Ok_s h)
  · replace h := Ok_f c4 h
    refine ev_iload_n (pc' := 8) m_256 rfl rfl rfl ?_
    refine ev_if_lt (t := 24) (e := 11) m_256 rfl rfl rfl (fun c3 => ?_) (fun c3 => ?_)
    · replace h := Ok_t c3 h
      refine ev_iconst (pc' := 25) (x := -1) m_256 rfl rfl rfl (ev_goto (pc' := 49) m_256 rfl rfl ?_)
      exact tr_ri m_256 rfl rfl (Ok_s h)
    · replace h := Ok_f c3 h
      refine ev_iload_n (pc' := 12) m_256 rfl rfl rfl (ev_aload_n (pc' := 13) m_256 rfl rfl rfl (tr_get (pc' := 16) (v := .int (gI _ 1110 _)) m_256 rfl rfl ts_o87 rfl rfl rfl (ev_aload_n (pc' := 17) m_256 rfl rfl rfl (tr_get (pc' := 20) (v := .int (gI _ 1113 _)) m_256 rfl rfl ts_o87 rfl rfl rfl (ev_iadd (pc' := 21) m_256 rfl rfl ?_)))))
      refine ev_icmp_lt (t := 28) (e := 24) m_256 rfl rfl rfl (fun c2 => ?_) (fun c2 => ?_)
      · replace h := Ok_t c2 h
        refine ev_iload_n (pc' := 29) m_256 rfl rfl rfl (ev_aload_n (pc' := 30) m_256 rfl rfl rfl (tr_get (pc' := 33) (v := .int (gI _ 1110 _)) m_256 rfl rfl ts_o87 rfl rfl rfl ?_))
        refine ev_icmp_ge (t := 40) (e := 36) m_256 rfl rfl rfl (fun c1 => ?_) (fun c1 => ?_)
        · replace h := Ok_t c1 h
          refine ev_bipush (pc' := 42) (x := 8) m_256 rfl rfl rfl (ev_iload_n (pc' := 43) m_256 rfl rfl rfl (ev_iadd (pc' := 44) m_256 rfl rfl (ev_aload_n (pc' := 45) m_256 rfl rfl rfl (tr_get (pc' := 48) (v := .int (gI _ 1110 _)) m_256 rfl rfl ts_o87 rfl rfl rfl (ev_isub (pc' := 49) m_256 rfl rfl ?_)))))
          exact tr_ri m_256 rfl rfl (Ok_s h)
        · replace h := Ok_f c1 h
          refine ev_iload_n (pc' := 37) m_256 rfl rfl rfl (ev_goto (pc' := 49) m_256 rfl rfl ?_)
          exact tr_ri m_256 rfl rfl (Ok_s h)
      · replace h := Ok_f c2 h
        refine ev_iconst (pc' := 25) (x := -1) m_256 rfl rfl rfl (ev_goto (pc' := 49) m_256 rfl rfl ?_)
        exact tr_ri m_256 rfl rfl (Ok_s h)
def cR_place_93 (l2 : Int32) (l3 : Int32) (l4 : Int32) (s : ts) : Option (Int32 × ts) := (if l2 = (0 : Int32) then (if am_idx l3 14 = true then some (gA s 129 l3.toNatClampNeg, s) else none) else (if l2 = (1 : Int32) then some (l4, s) else (if l2 = (2 : Int32) then (if ((8 : Int32)) ≤ l3 then (if am_idx (l3 - ((8 : Int32))) 6 = true then some (gA s 93 (l3 - ((8 : Int32))).toNatClampNeg, s) else none) else (if am_idx l3 8 = true then some (gA s 90 l3.toNatClampNeg, s) else none)) else (if l2 = (3 : Int32) then (if am_idx l3 14 = true then some (gA s 130 l3.toNatClampNeg, s) else none) else (if l2 = (4 : Int32) then (if am_idx l3 14 = true then some (gA s 131 l3.toNatClampNeg, s) else none) else (if l2 = (5 : Int32) then (if am_idx l3 14 = true then some (gA s 132 l3.toNatClampNeg, s) else none) else some ((-2 : Int32), s)))))))
set_option maxRecDepth 20000 in
theorem cR_place_93_ok {d : Nat} (l2 : Int32) (l3 : Int32) (l4 : Int32) (s : ts) (Q : Int32 × ts → Prop) (h : Ok (cR_place_93 l2 l3 l4 s) Q) : am_Ev (d + 1) 255 (93, [(0, .ref 87), (2, .int (l2)), (3, .int (l3)), (4, .int (l4))], []) (lay s) (tq_i Q) := by
  unfold cR_place_93 at h
  refine ev_iload_n (pc' := 94) m_255 rfl rfl rfl ?_
  by_cases c2 : l2 = (0 : Int32)
  · replace h := Ok_t c2 h
    refine ev_sw (pc' := 132) m_255 rfl (by rw [c2]; rfl) ?_
    refine ev_aload_n (pc' := 133) m_255 rfl rfl rfl (tr_get (pc' := 136) (v := .ref 129) m_255 rfl rfl ts_o87 rfl rfl rfl (ev_iload_n (pc' := 137) m_255 rfl rfl rfl ?_))
    obtain ⟨g1, h⟩ := Ok_g h
    refine tr_iald (pc' := 138) m_255 rfl rfl rfl g1 rfl ?_
    exact tr_ri m_255 rfl rfl (Ok_s h)
  replace h := Ok_f c2 h
  by_cases c3 : l2 = (1 : Int32)
  · replace h := Ok_t c3 h
    refine ev_sw (pc' := 139) m_255 rfl (by rw [c3]; rfl) ?_
    refine ev_iload (pc' := 141) m_255 rfl rfl rfl ?_
    exact tr_ri m_255 rfl rfl (Ok_s h)
  replace h := Ok_f c3 h
  by_cases c7 : l2 = (2 : Int32)
  · replace h := Ok_t c7 h
    refine ev_sw (pc' := 142) m_255 rfl (by rw [c7]; rfl) ?_
    refine ev_iload_n (pc' := 143) m_255 rfl rfl rfl (ev_bipush (pc' := 145) (x := 8) m_255 rfl rfl rfl ?_)
    refine ev_icmp_ge (t := 157) (e := 148) m_255 rfl rfl rfl (fun c6 => ?_) (fun c6 => ?_)
    · replace h := Ok_t c6 h
      refine ev_aload_n (pc' := 158) m_255 rfl rfl rfl (tr_get (pc' := 161) (v := .ref 93) m_255 rfl rfl ts_o87 rfl rfl rfl (ev_iload_n (pc' := 162) m_255 rfl rfl rfl (ev_bipush (pc' := 164) (x := 8) m_255 rfl rfl rfl (ev_isub (pc' := 165) m_255 rfl rfl ?_))))
      obtain ⟨g4, h⟩ := Ok_g h
      refine tr_iald (pc' := 166) m_255 rfl rfl rfl g4 rfl ?_
      exact tr_ri m_255 rfl rfl (Ok_s h)
    · replace h := Ok_f c6 h
      refine ev_aload_n (pc' := 149) m_255 rfl rfl rfl (tr_get (pc' := 152) (v := .ref 90) m_255 rfl rfl ts_o87 rfl rfl rfl (ev_iload_n (pc' := 153) m_255 rfl rfl rfl ?_))
      obtain ⟨g5, h⟩ := Ok_g h
      refine tr_iald (pc' := 154) m_255 rfl rfl rfl g5 rfl (ev_goto (pc' := 166) m_255 rfl rfl ?_)
      exact tr_ri m_255 rfl rfl (Ok_s h)
  replace h := Ok_f c7 h
  by_cases c9 : l2 = (3 : Int32)
  · replace h := Ok_t c9 h
    refine ev_sw (pc' := 167) m_255 rfl (by rw [c9]; rfl) ?_
    refine ev_aload_n (pc' := 168) m_255 rfl rfl rfl (tr_get (pc' := 171) (v := .ref 130) m_255 rfl rfl ts_o87 rfl rfl rfl (ev_iload_n (pc' := 172) m_255 rfl rfl rfl ?_))
    obtain ⟨g8, h⟩ := Ok_g h
    refine tr_iald (pc' := 173) m_255 rfl rfl rfl g8 rfl ?_
    exact tr_ri m_255 rfl rfl (Ok_s h)
  replace h := Ok_f c9 h
  by_cases c11 : l2 = (4 : Int32)
  · replace h := Ok_t c11 h
    refine ev_sw (pc' := 174) m_255 rfl (by rw [c11]; rfl) ?_
    refine ev_aload_n (pc' := 175) m_255 rfl rfl rfl (tr_get (pc' := 178) (v := .ref 131) m_255 rfl rfl ts_o87 rfl rfl rfl (ev_iload_n (pc' := 179) m_255 rfl rfl rfl ?_))
    obtain ⟨g10, h⟩ := Ok_g h
    refine tr_iald (pc' := 180) m_255 rfl rfl rfl g10 rfl ?_
    exact tr_ri m_255 rfl rfl (Ok_s h)
  replace h := Ok_f c11 h
  by_cases c13 : l2 = (5 : Int32)
  · replace h := Ok_t c13 h
    refine ev_sw (pc' := 181) m_255 rfl (by rw [c13]; rfl) ?_
    refine ev_aload_n (pc' := 182) m_255 rfl rfl rfl (tr_get (pc' := 185) (v := .ref 132) m_255 rfl rfl ts_o87 rfl rfl rfl (ev_iload_n (pc' := 186) m_255 rfl rfl rfl ?_))
    obtain ⟨g12, h⟩ := Ok_g h
    refine tr_iald (pc' := 187) m_255 rfl rfl rfl g12 rfl ?_
    exact tr_ri m_255 rfl rfl (Ok_s h)
  replace h := Ok_f c13 h
  refine ev_tdef (t := 188) m_255 rfl (by have := ts_nel (k := 0) c2 (by decide); have := ts_nel (k := 1) c3 (by decide); have := ts_nel (k := 2) c7 (by decide); have := ts_nel (k := 3) c9 (by decide); have := ts_nel (k := 4) c11 (by decide); have := ts_nel (k := 5) c13 (by decide); omega) rfl ?_
  refine ev_bipush (pc' := 190) (x := -2) m_255 rfl rfl rfl ?_
  exact tr_ri m_255 rfl rfl (Ok_s h)
def cR_place (l1 : Int32) (l2 : Int32) (s : ts) : Option (Int32 × ts) := (cR_spot l1 s).bind (fun x3 => (if x3.1 = ((-1 : Int32)) then some ((-2 : Int32), x3.2) else (cR_waitingAt x3.1 x3.2).bind (fun x6 => (if l2 < ((10 : Int32)) then cR_place_93 l2 x3.1 x6.1 x6.2 else (if x6.1 ≤ (l2 - ((10 : Int32))) then cR_place_93 l2 x3.1 x6.1 x6.2 else (if am_idx x3.1 28 = true then (if (gA x6.2 136 x3.1.toNatClampNeg) ≤ (l2 - ((10 : Int32))) then (if am_idx (((((300 : Int32)) * (((14 : Int32)) + x3.1)) + (l2 - ((10 : Int32)))) - (gA x6.2 136 x3.1.toNatClampNeg)) 8400 = true then some (gA x6.2 137 (((((300 : Int32)) * (((14 : Int32)) + x3.1)) + (l2 - ((10 : Int32)))) - (gA x6.2 136 x3.1.toNatClampNeg)).toNatClampNeg, x6.2) else none) else (if am_idx ((((300 : Int32)) * x3.1) + (l2 - ((10 : Int32)))) 8400 = true then some (gA x6.2 137 ((((300 : Int32)) * x3.1) + (l2 - ((10 : Int32)))).toNatClampNeg, x6.2) else none)) else none))))))
set_option maxRecDepth 20000 in
theorem cR_place_ok {d : Nat} (l1 : Int32) (l2 : Int32) (s : ts) (Q : Int32 × ts → Prop) (h : Ok (cR_place l1 l2 s) Q) : am_Ev (d + 1) 255 (0, [(0, .ref 87), (1, .int (l1)), (2, .int (l2))], []) (lay s) (tq_i Q) := by
  unfold cR_place at h
  refine ev_aload_n (pc' := 1) m_255 rfl rfl rfl (ev_iload_n (pc' := 2) m_255 rfl rfl rfl ?_)
  refine tr_ci (pc' := 5) m_255 rfl rfl rfl m_256 rfl rfl rfl rfl (tr_rcv ts_o87 rfl) rfl rfl (cR_spot_ok l1 _ _ (Ok_b h)) (fun x3_ x3_s h => ?_)
  refine ev_istore_n (pc' := 6) m_255 rfl rfl rfl rfl (ev_iload_n (pc' := 7) m_255 rfl rfl rfl (ev_iconst (pc' := 8) (x := -1) m_255 rfl rfl rfl ?_))
  refine ev_icmp_ne (t := 14) (e := 11) m_255 rfl rfl rfl (fun c13 => ?_) (fun c13 => ?_)
  · replace h := Ok_f c13 h
    refine ev_aload_n (pc' := 15) m_255 rfl rfl rfl (ev_iload_n (pc' := 16) m_255 rfl rfl rfl ?_)
    refine tr_ci (pc' := 19) m_255 rfl rfl rfl m_226 rfl rfl rfl rfl (tr_rcv ts_o87 rfl) rfl rfl (cR_waitingAt_ok x3_ _ _ (Ok_b h)) (fun x6_ x6_s h => ?_)
    refine ev_istore (pc' := 21) m_255 rfl rfl rfl rfl (ev_iload_n (pc' := 22) m_255 rfl rfl rfl (ev_bipush (pc' := 24) (x := 10) m_255 rfl rfl rfl ?_))
    refine ev_icmp_lt (t := 93) (e := 27) m_255 rfl rfl rfl (fun c12 => ?_) (fun c12 => ?_)
    · replace h := Ok_t c12 h
      exact am_Ev.sub (L := [(0, .ref 87), (2, .int (l2)), (3, .int (x3_)), (4, .int (x6_))]) ⟨rfl, rfl, rfl, rfl, trivial⟩ (cR_place_93_ok l2 x3_ x6_ _ _ h)
    · replace h := Ok_f c12 h
      refine ev_iload_n (pc' := 28) m_255 rfl rfl rfl (ev_bipush (pc' := 30) (x := 10) m_255 rfl rfl rfl (ev_isub (pc' := 31) m_255 rfl rfl (ev_iload (pc' := 33) m_255 rfl rfl rfl ?_)))
      refine ev_icmp_ge (t := 93) (e := 36) m_255 rfl rfl rfl (fun c11 => ?_) (fun c11 => ?_)
      · replace h := Ok_t c11 h
        exact am_Ev.sub (L := [(0, .ref 87), (2, .int (l2)), (3, .int (x3_)), (4, .int (x6_))]) ⟨rfl, rfl, rfl, rfl, trivial⟩ (cR_place_93_ok l2 x3_ x6_ _ _ h)
      · replace h := Ok_f c11 h
        refine ev_iload_n (pc' := 37) m_255 rfl rfl rfl (ev_bipush (pc' := 39) (x := 10) m_255 rfl rfl rfl (ev_isub (pc' := 40) m_255 rfl rfl (ev_istore (pc' := 42) m_255 rfl rfl rfl rfl (ev_iload (pc' := 44) m_255 rfl rfl rfl (ev_aload_n (pc' := 45) m_255 rfl rfl rfl (tr_get (pc' := 48) (v := .ref 136) m_255 rfl rfl ts_o87 rfl rfl rfl (ev_iload_n (pc' := 49) m_255 rfl rfl rfl ?_)))))))
        obtain ⟨g7, h⟩ := Ok_g h
        refine tr_iald (pc' := 50) m_255 rfl rfl rfl g7 rfl ?_
        refine ev_icmp_ge (t := 69) (e := 53) m_255 rfl rfl rfl (fun c10 => ?_) (fun c10 => ?_)
        · replace h := Ok_t c10 h
          refine ev_aload_n (pc' := 70) m_255 rfl rfl rfl (tr_get (pc' := 73) (v := .ref 137) m_255 rfl rfl ts_o87 rfl rfl rfl (ev_sipush (pc' := 76) (x := 300) m_255 rfl rfl rfl (ev_bipush (pc' := 78) (x := 14) m_255 rfl rfl rfl (ev_iload_n (pc' := 79) m_255 rfl rfl rfl (ev_iadd (pc' := 80) m_255 rfl rfl (ev_imul (pc' := 81) m_255 rfl rfl (ev_iload (pc' := 83) m_255 rfl rfl rfl ?_)))))))
          refine ev_iadd (pc' := 84) m_255 rfl rfl (ev_aload_n (pc' := 85) m_255 rfl rfl rfl (tr_get (pc' := 88) (v := .ref 136) m_255 rfl rfl ts_o87 rfl rfl rfl (ev_iload_n (pc' := 89) m_255 rfl rfl rfl (tr_iald (pc' := 90) m_255 rfl rfl rfl g7 rfl (ev_isub (pc' := 91) m_255 rfl rfl ?_)))))
          obtain ⟨g8, h⟩ := Ok_g h
          refine tr_iald (pc' := 92) m_255 rfl rfl rfl g8 rfl ?_
          exact tr_ri m_255 rfl rfl (Ok_s h)
        · replace h := Ok_f c10 h
          refine ev_aload_n (pc' := 54) m_255 rfl rfl rfl (tr_get (pc' := 57) (v := .ref 137) m_255 rfl rfl ts_o87 rfl rfl rfl (ev_sipush (pc' := 60) (x := 300) m_255 rfl rfl rfl (ev_iload_n (pc' := 61) m_255 rfl rfl rfl (ev_imul (pc' := 62) m_255 rfl rfl (ev_iload (pc' := 64) m_255 rfl rfl rfl (ev_iadd (pc' := 65) m_255 rfl rfl ?_))))))
          obtain ⟨g9, h⟩ := Ok_g h
          refine tr_iald (pc' := 66) m_255 rfl rfl rfl g9 rfl (ev_goto (pc' := 92) m_255 rfl rfl ?_)
          exact tr_ri m_255 rfl rfl (Ok_s h)
  · replace h := Ok_t c13 h
    refine ev_bipush (pc' := 13) (x := -2) m_255 rfl rfl rfl ?_
    exact tr_ri m_255 rfl rfl (Ok_s h)
def cK_tellSum (l0 : Nat) (l1 : Int32) (s : ts) : Option (Int64 × ts) := (if l1 = (0 : Int32) then (if l0 < 14 then some (gJ s 708 l0, s) else none) else (if l1 = (1 : Int32) then (if l0 < 14 then some (gJ s 709 l0, s) else none) else (if l1 = (2 : Int32) then (if l0 < 14 then some (gJ s 710 l0, s) else none) else some ((-1 : Int64), s))))
set_option maxRecDepth 20000 in
theorem cK_tellSum_ok {d : Nat} (l0 : Nat) (l1 : Int32) (s : ts) (Q : Int64 × ts → Prop) (h : Ok (cK_tellSum l0 l1 s) Q) : am_Ev (d + 0) 169 (0, [(0, .ref (pQ l0)), (1, .int (l1))], []) (lay s) (tq_j Q) := by
  unfold cK_tellSum at h
  refine ev_iload_n (pc' := 1) m_169 rfl rfl rfl ?_
  by_cases c2 : l1 = (0 : Int32)
  · replace h := Ok_t c2 h
    refine ev_sw (pc' := 28) m_169 rfl (by rw [c2]; rfl) ?_
    refine ev_aload_n (pc' := 29) m_169 rfl rfl rfl ?_
    obtain ⟨g1, h⟩ := Ok_g h
    refine tr_get (pc' := 32) (v := .long (gJ _ 708 _)) m_169 rfl rfl (ts_obQ g1) rfl rfl rfl ?_
    exact tr_rj m_169 rfl rfl (Ok_s h)
  replace h := Ok_f c2 h
  by_cases c4 : l1 = (1 : Int32)
  · replace h := Ok_t c4 h
    refine ev_sw (pc' := 33) m_169 rfl (by rw [c4]; rfl) ?_
    refine ev_aload_n (pc' := 34) m_169 rfl rfl rfl ?_
    obtain ⟨g3, h⟩ := Ok_g h
    refine tr_get (pc' := 37) (v := .long (gJ _ 709 _)) m_169 rfl rfl (ts_obQ g3) rfl rfl rfl ?_
    exact tr_rj m_169 rfl rfl (Ok_s h)
  replace h := Ok_f c4 h
  by_cases c6 : l1 = (2 : Int32)
  · replace h := Ok_t c6 h
    refine ev_sw (pc' := 38) m_169 rfl (by rw [c6]; rfl) ?_
    refine ev_aload_n (pc' := 39) m_169 rfl rfl rfl ?_
    obtain ⟨g5, h⟩ := Ok_g h
    refine tr_get (pc' := 42) (v := .long (gJ _ 710 _)) m_169 rfl rfl (ts_obQ g5) rfl rfl rfl ?_
    exact tr_rj m_169 rfl rfl (Ok_s h)
  replace h := Ok_f c6 h
  refine ev_tdef (t := 43) m_169 rfl (by have := ts_nel (k := 0) c2 (by decide); have := ts_nel (k := 1) c4 (by decide); have := ts_nel (k := 2) c6 (by decide); omega) rfl ?_
  refine tr_ldc2 (pc' := 46) m_169 rfl rfl rfl ?_
  exact tr_rj m_169 rfl rfl (Ok_s h)
def cX_sum_29 (l2 : Int32) (t0 : Option Nat) (s : ts) : Option (Int64 × ts) := (match t0 with
  | none => some ((-1 : Int64), s)
  | some t0 => (if t0 < 14 then (cK_tellSum t0 l2 s).bind (fun x4 => some (x4.1, x4.2)) else none))
set_option maxRecDepth 20000 in
theorem cX_sum_29_ok {d : Nat} (l2 : Int32) (t0 : Option Nat) (s : ts) (Q : Int64 × ts → Prop) (h : Ok (cX_sum_29 l2 t0 s) Q) : am_Ev (d + 1) 168 (29, [(2, .int (l2))], [va_rf (t0.map pQ)]) (lay s) (tq_j Q) := by
  unfold cX_sum_29 at h
  cases t0 with
  | none =>
    dsimp only at h
    refine ev_astore_nN (pc' := 30) m_168 rfl rfl rfl rfl (ev_aload_nN (pc' := 31) m_168 rfl rfl rfl (ev_nnlN (e := 34) m_168 rfl rfl (tr_ldc2 (pc' := 37) m_168 rfl rfl rfl (ev_goto (pc' := 45) m_168 rfl rfl ?_))))
    exact tr_rj m_168 rfl rfl (Ok_s h)
  | some t0 =>
    dsimp only at h
    refine ev_astore_n (pc' := 30) m_168 rfl rfl rfl rfl (ev_aload_n (pc' := 31) m_168 rfl rfl rfl (ev_nnlY (t := 40) m_168 rfl rfl (ev_aload_n (pc' := 41) m_168 rfl rfl rfl (ev_iload_n (pc' := 42) m_168 rfl rfl rfl ?_))))
    obtain ⟨g1, h⟩ := Ok_g h
    refine tr_cj (pc' := 45) m_168 rfl rfl rfl m_169 rfl rfl rfl rfl (tr_rcv (ts_obQ g1) rfl) rfl rfl (cK_tellSum_ok t0 l2 _ _ (Ok_b h)) (fun x4_ x4_s h => ?_)
    exact tr_rj m_168 rfl rfl (Ok_s h)
def cX_sum (l1 : Int32) (l2 : Int32) (s : ts) : Option (Int64 × ts) := (if (gI s 6 0) = ((0 : Int32)) then cX_sum_29 l2 none s else (cG_innerPlace l1 s).bind (fun x3 => (cW_placeAt x3.1 x3.2).bind (fun x6 => match x6.1 with
  | none => cX_sum_29 l2 none x6.2
  | some q7 => cX_sum_29 l2 (some q7) x6.2)))
set_option maxRecDepth 20000 in
theorem cX_sum_ok {d : Nat} (l1 : Int32) (l2 : Int32) (s : ts) (Q : Int64 × ts → Prop) (h : Ok (cX_sum l1 l2 s) Q) : am_Ev (d + 1) 168 (0, [(0, .ref 5), (1, .int (l1)), (2, .int (l2))], []) (lay s) (tq_j Q) := by
  unfold cX_sum at h
  refine ev_aload_n (pc' := 1) m_168 rfl rfl rfl (tr_get (pc' := 4) (v := .int (gI _ 6 _)) m_168 rfl rfl ts_o5 rfl rfl rfl ?_)
  refine ev_if_eq (t := 28) (e := 7) m_168 rfl rfl rfl (fun c8 => ?_) (fun c8 => ?_)
  · replace h := Ok_t c8 h
    refine ev_null (pc' := 29) m_168 rfl rfl ?_
    exact am_Ev.sub (L := [(2, .int (l2))]) ⟨rfl, trivial⟩ (cX_sum_29_ok l2 none _ _ h)
  · replace h := Ok_f c8 h
    refine ev_aload_n (pc' := 8) m_168 rfl rfl rfl (tr_get (pc' := 11) (v := .ref 34) m_168 rfl rfl ts_o5 rfl rfl rfl (tr_get (pc' := 14) (v := .ref 35) m_168 rfl rfl ts_o34 rfl rfl rfl (ev_aload_n (pc' := 15) m_168 rfl rfl rfl (tr_get (pc' := 18) (v := .ref 12) m_168 rfl rfl ts_o5 rfl rfl rfl (ev_iload_n (pc' := 19) m_168 rfl rfl rfl ?_)))))
    refine tr_ci (pc' := 22) m_168 rfl rfl rfl m_164 rfl rfl rfl rfl (tr_rcv ts_o12 rfl) rfl rfl (cG_innerPlace_ok l1 _ _ (Ok_b h)) (fun x3_ x3_s h => ?_)
    refine tr_cr (pc' := 25) m_168 rfl rfl rfl m_118 rfl rfl rfl rfl (tr_rcv ts_o35 rfl) rfl rfl (cW_placeAt_ok x3_ _ _ (Ok_b h)) (fun x6_s h => ?_) (fun q7 x6_s h => ?_)
    · dsimp only at h
      refine ev_goto (pc' := 29) m_168 rfl rfl ?_
      exact am_Ev.sub (L := [(2, .int (l2))]) ⟨rfl, trivial⟩ (cX_sum_29_ok l2 none _ _ h)
    · dsimp only at h
      refine ev_goto (pc' := 29) m_168 rfl rfl ?_
      exact am_Ev.sub (L := [(2, .int (l2))]) ⟨rfl, trivial⟩ (cX_sum_29_ok l2 (some q7) _ _ h)
def cR_sum (l1 : Int32) (l2 : Int32) (s : ts) : Option (Int64 × ts) := (cR_spot l1 s).bind (fun x3 => (if x3.1 = ((-1 : Int32)) then some ((-1 : Int64), x3.2) else (if l2 < ((0 : Int32)) then some ((-1 : Int64), x3.2) else (if l2 ≤ ((2 : Int32)) then (if l2 = ((0 : Int32)) then (if am_idx x3.1 14 = true then some (gB x3.2 133 x3.1.toNatClampNeg, x3.2) else none) else (if l2 = ((1 : Int32)) then (if am_idx x3.1 14 = true then some (gB x3.2 134 x3.1.toNatClampNeg, x3.2) else none) else (if am_idx x3.1 14 = true then some (gB x3.2 135 x3.1.toNatClampNeg, x3.2) else none))) else some ((-1 : Int64), x3.2)))))
set_option maxRecDepth 20000 in
theorem cR_sum_ok {d : Nat} (l1 : Int32) (l2 : Int32) (s : ts) (Q : Int64 × ts → Prop) (h : Ok (cR_sum l1 l2 s) Q) : am_Ev (d + 1) 257 (0, [(0, .ref 87), (1, .int (l1)), (2, .int (l2))], []) (lay s) (tq_j Q) := by
  unfold cR_sum at h
  refine ev_aload_n (pc' := 1) m_257 rfl rfl rfl (ev_iload_n (pc' := 2) m_257 rfl rfl rfl ?_)
  refine tr_ci (pc' := 5) m_257 rfl rfl rfl m_256 rfl rfl rfl rfl (tr_rcv ts_o87 rfl) rfl rfl (cR_spot_ok l1 _ _ (Ok_b h)) (fun x3_ x3_s h => ?_)
  refine ev_istore_n (pc' := 6) m_257 rfl rfl rfl rfl (ev_iload_n (pc' := 7) m_257 rfl rfl rfl (ev_iconst (pc' := 8) (x := -1) m_257 rfl rfl rfl ?_))
  refine ev_icmp_eq (t := 20) (e := 11) m_257 rfl rfl rfl (fun c11 => ?_) (fun c11 => ?_)
  · replace h := Ok_t c11 h
    refine tr_ldc2 (pc' := 23) m_257 rfl rfl rfl (ev_goto (pc' := 59) m_257 rfl rfl ?_)
    exact tr_rj m_257 rfl rfl (Ok_s h)
  · replace h := Ok_f c11 h
    refine ev_iload_n (pc' := 12) m_257 rfl rfl rfl ?_
    refine ev_if_lt (t := 20) (e := 15) m_257 rfl rfl rfl (fun c10 => ?_) (fun c10 => ?_)
    · replace h := Ok_t c10 h
      refine tr_ldc2 (pc' := 23) m_257 rfl rfl rfl (ev_goto (pc' := 59) m_257 rfl rfl ?_)
      exact tr_rj m_257 rfl rfl (Ok_s h)
    · replace h := Ok_f c10 h
      refine ev_iload_n (pc' := 16) m_257 rfl rfl rfl (ev_iconst (pc' := 17) (x := 2) m_257 rfl rfl rfl ?_)
      refine ev_icmp_le (t := 26) (e := 20) m_257 rfl rfl rfl (fun c9 => ?_) (fun c9 => ?_)
      · replace h := Ok_t c9 h
        refine ev_iload_n (pc' := 27) m_257 rfl rfl rfl ?_
        refine ev_if_ne (t := 39) (e := 30) m_257 rfl rfl rfl (fun c8 => ?_) (fun c8 => ?_)
        · replace h := Ok_f c8 h
          refine ev_iload_n (pc' := 40) m_257 rfl rfl rfl (ev_iconst (pc' := 41) (x := 1) m_257 rfl rfl rfl ?_)
          refine ev_icmp_ne (t := 53) (e := 44) m_257 rfl rfl rfl (fun c6 => ?_) (fun c6 => ?_)
          · replace h := Ok_f c6 h
            refine ev_aload_n (pc' := 54) m_257 rfl rfl rfl (tr_get (pc' := 57) (v := .ref 135) m_257 rfl rfl ts_o87 rfl rfl rfl (ev_iload_n (pc' := 58) m_257 rfl rfl rfl ?_))
            obtain ⟨g4, h⟩ := Ok_g h
            refine tr_lald (pc' := 59) m_257 rfl rfl rfl g4 rfl ?_
            exact tr_rj m_257 rfl rfl (Ok_s h)
          · replace h := Ok_t c6 h
            refine ev_aload_n (pc' := 45) m_257 rfl rfl rfl (tr_get (pc' := 48) (v := .ref 134) m_257 rfl rfl ts_o87 rfl rfl rfl (ev_iload_n (pc' := 49) m_257 rfl rfl rfl ?_))
            obtain ⟨g5, h⟩ := Ok_g h
            refine tr_lald (pc' := 50) m_257 rfl rfl rfl g5 rfl (ev_goto (pc' := 59) m_257 rfl rfl ?_)
            exact tr_rj m_257 rfl rfl (Ok_s h)
        · replace h := Ok_t c8 h
          refine ev_aload_n (pc' := 31) m_257 rfl rfl rfl (tr_get (pc' := 34) (v := .ref 133) m_257 rfl rfl ts_o87 rfl rfl rfl (ev_iload_n (pc' := 35) m_257 rfl rfl rfl ?_))
          obtain ⟨g7, h⟩ := Ok_g h
          refine tr_lald (pc' := 36) m_257 rfl rfl rfl g7 rfl (ev_goto (pc' := 59) m_257 rfl rfl ?_)
          exact tr_rj m_257 rfl rfl (Ok_s h)
      · replace h := Ok_f c9 h
        refine tr_ldc2 (pc' := 23) m_257 rfl rfl rfl (ev_goto (pc' := 59) m_257 rfl rfl ?_)
        exact tr_rj m_257 rfl rfl (Ok_s h)
def cH_tellTrace (l1 : Int32) (l2 : Int32) (s : ts) : Option (Int32 × ts) := (if l1 < ((0 : Int32)) then some ((-2000000000 : Int32), s) else (if (gI s 1008 0) ≤ l1 then some ((-2000000000 : Int32), s) else (if l1 < ((1000 : Int32)) then (if l2 = (0 : Int32) then (if am_idx l1 1000 = true then some (gA s 85 l1.toNatClampNeg, s) else none) else (if l2 = (1 : Int32) then (if am_idx l1 1000 = true then some (gA s 86 l1.toNatClampNeg, s) else none) else some ((-2000000000 : Int32), s))) else some ((-2000000000 : Int32), s))))
set_option maxRecDepth 20000 in
theorem cH_tellTrace_ok {d : Nat} (l1 : Int32) (l2 : Int32) (s : ts) (Q : Int32 × ts → Prop) (h : Ok (cH_tellTrace l1 l2 s) Q) : am_Ev (d + 0) 171 (0, [(0, .ref 34), (1, .int (l1)), (2, .int (l2))], []) (lay s) (tq_i Q) := by
  unfold cH_tellTrace at h
  refine ev_iload_n (pc' := 1) m_171 rfl rfl rfl ?_
  refine ev_if_lt (t := 19) (e := 4) m_171 rfl rfl rfl (fun c7 => ?_) (fun c7 => ?_)
  · replace h := Ok_t c7 h
    refine tr_ldc (pc' := 21) m_171 rfl rfl rfl ?_
    exact tr_ri m_171 rfl rfl (Ok_s h)
  · replace h := Ok_f c7 h
    refine ev_iload_n (pc' := 5) m_171 rfl rfl rfl (ev_aload_n (pc' := 6) m_171 rfl rfl rfl (tr_get (pc' := 9) (v := .int (gI _ 1008 _)) m_171 rfl rfl ts_o34 rfl rfl rfl ?_))
    refine ev_icmp_ge (t := 19) (e := 12) m_171 rfl rfl rfl (fun c6 => ?_) (fun c6 => ?_)
    · replace h := Ok_t c6 h
      refine tr_ldc (pc' := 21) m_171 rfl rfl rfl ?_
      exact tr_ri m_171 rfl rfl (Ok_s h)
    · replace h := Ok_f c6 h
      refine ev_iload_n (pc' := 13) m_171 rfl rfl rfl (ev_sipush (pc' := 16) (x := 1000) m_171 rfl rfl rfl ?_)
      refine ev_icmp_lt (t := 22) (e := 19) m_171 rfl rfl rfl (fun c5 => ?_) (fun c5 => ?_)
      · replace h := Ok_t c5 h
        refine ev_iload_n (pc' := 23) m_171 rfl rfl rfl ?_
        by_cases c2 : l2 = (0 : Int32)
        · replace h := Ok_t c2 h
          refine ev_sw (pc' := 48) m_171 rfl (by rw [c2]; rfl) ?_
          refine ev_aload_n (pc' := 49) m_171 rfl rfl rfl (tr_get (pc' := 52) (v := .ref 85) m_171 rfl rfl ts_o34 rfl rfl rfl (ev_iload_n (pc' := 53) m_171 rfl rfl rfl ?_))
          obtain ⟨g1, h⟩ := Ok_g h
          refine tr_iald (pc' := 54) m_171 rfl rfl rfl g1 rfl ?_
          exact tr_ri m_171 rfl rfl (Ok_s h)
        replace h := Ok_f c2 h
        by_cases c4 : l2 = (1 : Int32)
        · replace h := Ok_t c4 h
          refine ev_sw (pc' := 55) m_171 rfl (by rw [c4]; rfl) ?_
          refine ev_aload_n (pc' := 56) m_171 rfl rfl rfl (tr_get (pc' := 59) (v := .ref 86) m_171 rfl rfl ts_o34 rfl rfl rfl (ev_iload_n (pc' := 60) m_171 rfl rfl rfl ?_))
          obtain ⟨g3, h⟩ := Ok_g h
          refine tr_iald (pc' := 61) m_171 rfl rfl rfl g3 rfl ?_
          exact tr_ri m_171 rfl rfl (Ok_s h)
        replace h := Ok_f c4 h
        refine ev_sw (pc' := 62) m_171 rfl (by exact ev_ldef rfl (by simp only [Op.lookupswitch.offset, List.find?]; rw [if_neg (ts_nel c2 (by decide)), if_neg (ts_nel c4 (by decide))]) rfl) ?_
        refine tr_ldc (pc' := 64) m_171 rfl rfl rfl ?_
        exact tr_ri m_171 rfl rfl (Ok_s h)
      · replace h := Ok_f c5 h
        refine tr_ldc (pc' := 21) m_171 rfl rfl rfl ?_
        exact tr_ri m_171 rfl rfl (Ok_s h)
def cX_trace (l1 : Int32) (l2 : Int32) (s : ts) : Option (Int32 × ts) := (if (gI s 6 0) = ((0 : Int32)) then some ((-2000000000 : Int32), s) else (cH_tellTrace l1 l2 s).bind (fun x3 => some (x3.1, x3.2)))
set_option maxRecDepth 20000 in
theorem cX_trace_ok {d : Nat} (l1 : Int32) (l2 : Int32) (s : ts) (Q : Int32 × ts → Prop) (h : Ok (cX_trace l1 l2 s) Q) : am_Ev (d + 1) 170 (0, [(0, .ref 5), (1, .int (l1)), (2, .int (l2))], []) (lay s) (tq_i Q) := by
  unfold cX_trace at h
  refine ev_aload_n (pc' := 1) m_170 rfl rfl rfl (tr_get (pc' := 4) (v := .int (gI _ 6 _)) m_170 rfl rfl ts_o5 rfl rfl rfl ?_)
  refine ev_if_eq (t := 19) (e := 7) m_170 rfl rfl rfl (fun c4 => ?_) (fun c4 => ?_)
  · replace h := Ok_t c4 h
    refine tr_ldc (pc' := 21) m_170 rfl rfl rfl ?_
    exact tr_ri m_170 rfl rfl (Ok_s h)
  · replace h := Ok_f c4 h
    refine ev_aload_n (pc' := 8) m_170 rfl rfl rfl (tr_get (pc' := 11) (v := .ref 34) m_170 rfl rfl ts_o5 rfl rfl rfl (ev_iload_n (pc' := 12) m_170 rfl rfl rfl (ev_iload_n (pc' := 13) m_170 rfl rfl rfl ?_)))
    refine tr_ci (pc' := 16) m_170 rfl rfl rfl m_171 rfl rfl rfl rfl (tr_rcv ts_o34 rfl) rfl rfl (cH_tellTrace_ok l1 l2 _ _ (Ok_b h)) (fun x3_ x3_s h => ?_)
    refine ev_goto (pc' := 21) m_170 rfl rfl ?_
    exact tr_ri m_170 rfl rfl (Ok_s h)
def cR_trace (l1 : Int32) (l2 : Int32) (s : ts) : Option (Int32 × ts) := (if (gI s 1102 0) = ((0 : Int32)) then some ((-2000000000 : Int32), s) else (if l1 < ((0 : Int32)) then some ((-2000000000 : Int32), s) else (if (gI s 1161 0) ≤ l1 then some ((-2000000000 : Int32), s) else (if ((1000 : Int32)) ≤ l1 then some ((-2000000000 : Int32), s) else (if l2 < ((0 : Int32)) then some ((-2000000000 : Int32), s) else (if l2 ≤ ((1 : Int32)) then (if l2 = ((0 : Int32)) then (if am_idx l1 1000 = true then some (gA s 116 l1.toNatClampNeg, s) else none) else (if am_idx l1 1000 = true then some (gA s 117 l1.toNatClampNeg, s) else none)) else some ((-2000000000 : Int32), s)))))))
set_option maxRecDepth 20000 in
theorem cR_trace_ok {d : Nat} (l1 : Int32) (l2 : Int32) (s : ts) (Q : Int32 × ts → Prop) (h : Ok (cR_trace l1 l2 s) Q) : am_Ev (d + 0) 258 (0, [(0, .ref 87), (1, .int (l1)), (2, .int (l2))], []) (lay s) (tq_i Q) := by
  unfold cR_trace at h
  refine ev_aload_n (pc' := 1) m_258 rfl rfl rfl (tr_get (pc' := 4) (v := .int (gI _ 1102 _)) m_258 rfl rfl ts_o87 rfl rfl rfl ?_)
  refine ev_if_eq (t := 35) (e := 7) m_258 rfl rfl rfl (fun c9 => ?_) (fun c9 => ?_)
  · replace h := Ok_t c9 h
    refine tr_ldcw (pc' := 38) m_258 rfl rfl rfl (ev_goto (pc' := 60) m_258 rfl rfl ?_)
    exact tr_ri m_258 rfl rfl (Ok_s h)
  · replace h := Ok_f c9 h
    refine ev_iload_n (pc' := 8) m_258 rfl rfl rfl ?_
    refine ev_if_lt (t := 35) (e := 11) m_258 rfl rfl rfl (fun c8 => ?_) (fun c8 => ?_)
    · replace h := Ok_t c8 h
      refine tr_ldcw (pc' := 38) m_258 rfl rfl rfl (ev_goto (pc' := 60) m_258 rfl rfl ?_)
      exact tr_ri m_258 rfl rfl (Ok_s h)
    · replace h := Ok_f c8 h
      refine ev_iload_n (pc' := 12) m_258 rfl rfl rfl (ev_aload_n (pc' := 13) m_258 rfl rfl rfl (tr_get (pc' := 16) (v := .int (gI _ 1161 _)) m_258 rfl rfl ts_o87 rfl rfl rfl ?_))
      refine ev_icmp_ge (t := 35) (e := 19) m_258 rfl rfl rfl (fun c7 => ?_) (fun c7 => ?_)
      · replace h := Ok_t c7 h
        refine tr_ldcw (pc' := 38) m_258 rfl rfl rfl (ev_goto (pc' := 60) m_258 rfl rfl ?_)
        exact tr_ri m_258 rfl rfl (Ok_s h)
      · replace h := Ok_f c7 h
        refine ev_iload_n (pc' := 20) m_258 rfl rfl rfl (ev_sipush (pc' := 23) (x := 1000) m_258 rfl rfl rfl ?_)
        refine ev_icmp_ge (t := 35) (e := 26) m_258 rfl rfl rfl (fun c6 => ?_) (fun c6 => ?_)
        · replace h := Ok_t c6 h
          refine tr_ldcw (pc' := 38) m_258 rfl rfl rfl (ev_goto (pc' := 60) m_258 rfl rfl ?_)
          exact tr_ri m_258 rfl rfl (Ok_s h)
        · replace h := Ok_f c6 h
          refine ev_iload_n (pc' := 27) m_258 rfl rfl rfl ?_
          refine ev_if_lt (t := 35) (e := 30) m_258 rfl rfl rfl (fun c5 => ?_) (fun c5 => ?_)
          · replace h := Ok_t c5 h
            refine tr_ldcw (pc' := 38) m_258 rfl rfl rfl (ev_goto (pc' := 60) m_258 rfl rfl ?_)
            exact tr_ri m_258 rfl rfl (Ok_s h)
          · replace h := Ok_f c5 h
            refine ev_iload_n (pc' := 31) m_258 rfl rfl rfl (ev_iconst (pc' := 32) (x := 1) m_258 rfl rfl rfl ?_)
            refine ev_icmp_le (t := 41) (e := 35) m_258 rfl rfl rfl (fun c4 => ?_) (fun c4 => ?_)
            · replace h := Ok_t c4 h
              refine ev_iload_n (pc' := 42) m_258 rfl rfl rfl ?_
              refine ev_if_ne (t := 54) (e := 45) m_258 rfl rfl rfl (fun c3 => ?_) (fun c3 => ?_)
              · replace h := Ok_f c3 h
                refine ev_aload_n (pc' := 55) m_258 rfl rfl rfl (tr_get (pc' := 58) (v := .ref 117) m_258 rfl rfl ts_o87 rfl rfl rfl (ev_iload_n (pc' := 59) m_258 rfl rfl rfl ?_))
                obtain ⟨g1, h⟩ := Ok_g h
                refine tr_iald (pc' := 60) m_258 rfl rfl rfl g1 rfl ?_
                exact tr_ri m_258 rfl rfl (Ok_s h)
              · replace h := Ok_t c3 h
                refine ev_aload_n (pc' := 46) m_258 rfl rfl rfl (tr_get (pc' := 49) (v := .ref 116) m_258 rfl rfl ts_o87 rfl rfl rfl (ev_iload_n (pc' := 50) m_258 rfl rfl rfl ?_))
                obtain ⟨g2, h⟩ := Ok_g h
                refine tr_iald (pc' := 51) m_258 rfl rfl rfl g2 rfl (ev_goto (pc' := 60) m_258 rfl rfl ?_)
                exact tr_ri m_258 rfl rfl (Ok_s h)
            · replace h := Ok_f c4 h
              refine tr_ldcw (pc' := 38) m_258 rfl rfl rfl (ev_goto (pc' := 60) m_258 rfl rfl ?_)
              exact tr_ri m_258 rfl rfl (Ok_s h)
