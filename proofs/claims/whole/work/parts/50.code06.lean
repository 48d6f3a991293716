/-! THE METHODS AS FUNCTIONS, printed by wip/tools/decomp.py; the machine does what they say. -/
def cN_join_68 (l0 : Nat) (l1 : Nat) (l2 : Int32) (s : ts) : Option (ts) := (if l1 < gM s then (if l0 < 30 then some (wI (wR (wI s 508 l1 l2) 507 l1 (some l0)) 601 l0 ((gI (wR (wI s 508 l1 l2) 507 l1 (some l0)) 601 l0) + ((1 : Int32)))) else none) else none)
set_option maxRecDepth 20000 in
theorem cN_join_68_ok {d : Nat} (l0 : Nat) (l1 : Nat) (l2 : Int32) (s : ts) (Q : ts → Prop) (h : Ok (cN_join_68 l0 l1 l2 s) Q) : am_Ev (d + 0) 104 (68, [(0, .ref (pL l0)), (1, .ref (pB l1)), (2, .int (l2))], []) (lay s) (tq_v Q) := by
  unfold cN_join_68 at h
  refine ev_aload_n (pc' := 69) m_104 rfl rfl rfl (ev_iload_n (pc' := 70) m_104 rfl rfl rfl ?_)
  obtain ⟨g1, h⟩ := Ok_g h
  refine tr_pI (pc' := 73) (f := 508) m_104 rfl rfl rfl (ts_obB g1) rfl rfl rfl rfl (ev_aload_n (pc' := 74) m_104 rfl rfl rfl (ev_aload_n (pc' := 75) m_104 rfl rfl rfl (tr_pR (pc' := 78) (f := 507) (p := l0) m_104 rfl rfl rfl (ts_obB g1) rfl rfl rfl rfl rfl rfl (ev_aload_n (pc' := 79) m_104 rfl rfl rfl (ev_dup (pc' := 80) m_104 rfl rfl rfl ?_)))))
  obtain ⟨g2, h⟩ := Ok_g h
  refine tr_get (pc' := 83) (v := .int (gI _ 601 _)) m_104 rfl rfl (ts_obL g2) rfl rfl rfl (ev_iconst (pc' := 84) (x := 1) m_104 rfl rfl rfl (ev_iadd (pc' := 85) m_104 rfl rfl (tr_pI (pc' := 88) (f := 601) m_104 rfl rfl rfl (ts_obL g2) rfl rfl rfl rfl ?_)))
  exact tr_rv m_104 rfl rfl (Ok_s h)
def cN_join_35 (l0 : Nat) (l1 : Nat) (l2 : Int32) (l3 : Option Nat) (s : ts) : Option (ts) := (match l3 with
  | none => (if l0 < 30 then (match gR s 600 l0 with
  | none => (if l1 < gM s then cN_join_68 l0 l1 l2 (wR (wR s 509 l1 none) 600 l0 (some l1)) else none)
  | some r2 => (if l1 < gM s then cN_join_68 l0 l1 l2 (wR (wR s 509 l1 (some r2)) 600 l0 (some l1)) else none)) else none)
  | some l3 => (if l3 < gM s then (match gR s 509 l3 with
  | none => (if l1 < gM s then cN_join_68 l0 l1 l2 (wR (wR s 509 l1 none) 509 l3 (some l1)) else none)
  | some r7 => (if l1 < gM s then cN_join_68 l0 l1 l2 (wR (wR s 509 l1 (some r7)) 509 l3 (some l1)) else none)) else none))
set_option maxRecDepth 20000 in
theorem cN_join_35_ok {d : Nat} (l0 : Nat) (l1 : Nat) (l2 : Int32) (l3 : Option Nat) (s : ts) (Q : ts → Prop) (h : Ok (cN_join_35 l0 l1 l2 l3 s) Q) : am_Ev (d + 0) 104 (35, [(0, .ref (pL l0)), (1, .ref (pB l1)), (2, .int (l2)), (3, va_rf (l3.map pB))], []) (lay s) (tq_v Q) := by
  unfold cN_join_35 at h
  cases l3 with
  | none =>
    dsimp only at h
    refine ev_aload_nN (pc' := 36) m_104 rfl rfl rfl (ev_nnlN (e := 39) m_104 rfl rfl (ev_aload_n (pc' := 40) m_104 rfl rfl rfl (ev_aload_n (pc' := 41) m_104 rfl rfl rfl ?_)))
    obtain ⟨g1, h⟩ := Ok_g h
    cases e3 : gR s 600 l0 with
    | none =>
      rw [e3] at h
      dsimp only at h
      refine tr_getN (pc' := 44) (f := 600) (g := pB) m_104 rfl rfl (ts_obL g1) rfl rfl e3 rfl ?_
      obtain ⟨g4, h⟩ := Ok_g h
      refine tr_pN (pc' := 47) (f := 509) m_104 rfl rfl rfl (ts_obB g4) rfl rfl rfl rfl rfl (ev_aload_n (pc' := 48) m_104 rfl rfl rfl (ev_aload_n (pc' := 49) m_104 rfl rfl rfl (tr_pR (pc' := 52) (f := 600) (p := l1) m_104 rfl rfl rfl (ts_obL g1) rfl rfl rfl rfl rfl rfl (ev_goto (pc' := 68) m_104 rfl rfl ?_))))
      exact am_Ev.sub (L := [(0, .ref (pL l0)), (1, .ref (pB l1)), (2, .int (l2))]) ⟨rfl, rfl, rfl, trivial⟩ (cN_join_68_ok l0 l1 l2 _ _ h)
    | some r2 =>
      rw [e3] at h
      dsimp only at h
      refine tr_getS (pc' := 44) (f := 600) (g := pB) m_104 rfl rfl (ts_obL g1) rfl rfl e3 rfl ?_
      obtain ⟨g5, h⟩ := Ok_g h
      refine tr_pR (pc' := 47) (f := 509) (p := r2) m_104 rfl rfl rfl (ts_obB g5) rfl rfl rfl rfl rfl rfl (ev_aload_n (pc' := 48) m_104 rfl rfl rfl (ev_aload_n (pc' := 49) m_104 rfl rfl rfl (tr_pR (pc' := 52) (f := 600) (p := l1) m_104 rfl rfl rfl (ts_obL g1) rfl rfl rfl rfl rfl rfl (ev_goto (pc' := 68) m_104 rfl rfl ?_))))
      exact am_Ev.sub (L := [(0, .ref (pL l0)), (1, .ref (pB l1)), (2, .int (l2))]) ⟨rfl, rfl, rfl, trivial⟩ (cN_join_68_ok l0 l1 l2 _ _ h)
  | some l3 =>
    dsimp only at h
    refine ev_aload_n (pc' := 36) m_104 rfl rfl rfl (ev_nnlY (t := 55) m_104 rfl rfl (ev_aload_n (pc' := 56) m_104 rfl rfl rfl (ev_aload_n (pc' := 57) m_104 rfl rfl rfl ?_)))
    obtain ⟨g6, h⟩ := Ok_g h
    cases e8 : gR s 509 l3 with
    | none =>
      rw [e8] at h
      dsimp only at h
      refine tr_getN (pc' := 60) (f := 509) (g := pB) m_104 rfl rfl (ts_obB g6) rfl rfl e8 rfl ?_
      obtain ⟨g9, h⟩ := Ok_g h
      refine tr_pN (pc' := 63) (f := 509) m_104 rfl rfl rfl (ts_obB g9) rfl rfl rfl rfl rfl (ev_aload_n (pc' := 64) m_104 rfl rfl rfl (ev_aload_n (pc' := 65) m_104 rfl rfl rfl (tr_pR (pc' := 68) (f := 509) (p := l1) m_104 rfl rfl rfl (ts_obB g6) rfl rfl rfl rfl rfl rfl ?_)))
      exact am_Ev.sub (L := [(0, .ref (pL l0)), (1, .ref (pB l1)), (2, .int (l2))]) ⟨rfl, rfl, rfl, trivial⟩ (cN_join_68_ok l0 l1 l2 _ _ h)
    | some r7 =>
      rw [e8] at h
      dsimp only at h
      refine tr_getS (pc' := 60) (f := 509) (g := pB) m_104 rfl rfl (ts_obB g6) rfl rfl e8 rfl ?_
      obtain ⟨g10, h⟩ := Ok_g h
      refine tr_pR (pc' := 63) (f := 509) (p := r7) m_104 rfl rfl rfl (ts_obB g10) rfl rfl rfl rfl rfl rfl (ev_aload_n (pc' := 64) m_104 rfl rfl rfl (ev_aload_n (pc' := 65) m_104 rfl rfl rfl (tr_pR (pc' := 68) (f := 509) (p := l1) m_104 rfl rfl rfl (ts_obB g6) rfl rfl rfl rfl rfl rfl ?_)))
      exact am_Ev.sub (L := [(0, .ref (pL l0)), (1, .ref (pB l1)), (2, .int (l2))]) ⟨rfl, rfl, rfl, trivial⟩ (cN_join_68_ok l0 l1 l2 _ _ h)
def cN_join_8_b (kk : Nat → Nat → Int32 → Option Nat → Option Nat → ts → Option (ts)) (l0 : Nat) (l1 : Nat) (l2 : Int32) (l3 : Option Nat) (l4 : Option Nat) (s : ts) : Option (ts) := (match l3 with
  | none => (match l4 with
  | none => cN_join_35 l0 l1 l2 none s
  | some l4 => (if l4 < gM s then (if l2 < (gI s 508 l4) then cN_join_35 l0 l1 l2 none s else (match gR s 509 l4 with
  | none => kk l0 l1 l2 (some l4) none s
  | some r2 => kk l0 l1 l2 (some l4) (some r2) s)) else none))
  | some l3 => (match l4 with
  | none => cN_join_35 l0 l1 l2 (some l3) s
  | some l4 => (if l4 < gM s then (if l2 < (gI s 508 l4) then cN_join_35 l0 l1 l2 (some l3) s else (match gR s 509 l4 with
  | none => kk l0 l1 l2 (some l4) none s
  | some r6 => kk l0 l1 l2 (some l4) (some r6) s)) else none)))
def cN_join_8 : Nat → Nat → Nat → Int32 → Option Nat → Option Nat → ts → Option (ts)
  | 0, _, _, _, _, _, _ => none
  | n + 1, l0, l1, l2, l3, l4, s => cN_join_8_b (cN_join_8 n) l0 l1 l2 l3 l4 s
set_option maxRecDepth 20000 in
theorem cN_join_8_ok {d : Nat} : ∀ (n : Nat) (l0 : Nat) (l1 : Nat) (l2 : Int32) (l3 : Option Nat) (l4 : Option Nat) (s : ts) (Q : ts → Prop), Ok (cN_join_8 n l0 l1 l2 l3 l4 s) Q → am_Ev (d + 0) 104 (8, [(0, .ref (pL l0)), (1, .ref (pB l1)), (2, .int (l2)), (3, va_rf (l3.map pB)), (4, va_rf (l4.map pB))], []) (lay s) (tq_v Q) := by
  intro n
  induction n with
  | zero => intro l0 l1 l2 l3 l4 s Q h; exact Ok_n h
  | succ n ih =>
    intro l0 l1 l2 l3 l4 s Q h
    rw [cN_join_8.eq_2] at h
    unfold cN_join_8_b at h
    cases l3 with
    | none =>
      dsimp only at h
      cases l4 with
      | none =>
        dsimp only at h
        refine ev_aloadN (pc' := 10) m_104 rfl rfl rfl (ev_nulY (t := 35) m_104 rfl rfl ?_)
        exact am_Ev.sub (L := [(0, .ref (pL l0)), (1, .ref (pB l1)), (2, .int (l2)), (3, .null)]) ⟨rfl, rfl, rfl, rfl, trivial⟩ (cN_join_35_ok l0 l1 l2 none _ _ h)
      | some l4 =>
        dsimp only at h
        refine ev_aload (pc' := 10) m_104 rfl rfl rfl (ev_nulN (e := 13) m_104 rfl rfl (ev_aload (pc' := 15) m_104 rfl rfl rfl ?_))
        obtain ⟨g1, h⟩ := Ok_g h
        refine tr_get (pc' := 18) (v := .int (gI _ 508 _)) m_104 rfl rfl (ts_obB g1) rfl rfl rfl (ev_iload_n (pc' := 19) m_104 rfl rfl rfl ?_)
        refine ev_icmp_gt (t := 35) (e := 22) m_104 rfl rfl rfl (fun c4 => ?_) (fun c4 => ?_)
        · replace h := Ok_t c4 h
          exact am_Ev.sub (L := [(0, .ref (pL l0)), (1, .ref (pB l1)), (2, .int (l2)), (3, .null)]) ⟨rfl, rfl, rfl, rfl, trivial⟩ (cN_join_35_ok l0 l1 l2 none _ _ h)
        · replace h := Ok_f c4 h
          refine ev_aload (pc' := 24) m_104 rfl rfl rfl (ev_astore_n (pc' := 25) m_104 rfl rfl rfl rfl (ev_aload (pc' := 27) m_104 rfl rfl rfl ?_))
          cases e3 : gR s 509 l4 with
          | none =>
            rw [e3] at h
            dsimp only at h
            refine tr_getN (pc' := 30) (f := 509) (g := pB) m_104 rfl rfl (ts_obB g1) rfl rfl e3 rfl ?_
            refine ev_astoreN (pc' := 32) m_104 rfl rfl rfl rfl (ev_goto (pc' := 8) m_104 rfl rfl ?_)
            exact am_Ev.sub (L := [(0, .ref (pL l0)), (1, .ref (pB l1)), (2, .int (l2)), (3, .ref (pB l4)), (4, .null)]) ⟨rfl, rfl, rfl, rfl, rfl, trivial⟩ (ih l0 l1 l2 (some l4) none _ _ h)
          | some r2 =>
            rw [e3] at h
            dsimp only at h
            refine tr_getS (pc' := 30) (f := 509) (g := pB) m_104 rfl rfl (ts_obB g1) rfl rfl e3 rfl ?_
            refine ev_astore (pc' := 32) m_104 rfl rfl rfl rfl (ev_goto (pc' := 8) m_104 rfl rfl ?_)
            exact am_Ev.sub (L := [(0, .ref (pL l0)), (1, .ref (pB l1)), (2, .int (l2)), (3, .ref (pB l4)), (4, .ref (pB r2))]) ⟨rfl, rfl, rfl, rfl, rfl, trivial⟩ (ih l0 l1 l2 (some l4) (some r2) _ _ h)
    | some l3 =>
      dsimp only at h
      cases l4 with
      | none =>
        dsimp only at h
        refine ev_aloadN (pc' := 10) m_104 rfl rfl rfl (ev_nulY (t := 35) m_104 rfl rfl ?_)
        exact am_Ev.sub (L := [(0, .ref (pL l0)), (1, .ref (pB l1)), (2, .int (l2)), (3, .ref (pB l3))]) ⟨rfl, rfl, rfl, rfl, trivial⟩ (cN_join_35_ok l0 l1 l2 (some l3) _ _ h)
      | some l4 =>
        dsimp only at h
        refine ev_aload (pc' := 10) m_104 rfl rfl rfl (ev_nulN (e := 13) m_104 rfl rfl (ev_aload (pc' := 15) m_104 rfl rfl rfl ?_))
        obtain ⟨g5, h⟩ := Ok_g h
        refine tr_get (pc' := 18) (v := .int (gI _ 508 _)) m_104 rfl rfl (ts_obB g5) rfl rfl rfl (ev_iload_n (pc' := 19) m_104 rfl rfl rfl ?_)
        refine ev_icmp_gt (t := 35) (e := 22) m_104 rfl rfl rfl (fun c8 => ?_) (fun c8 => ?_)
        · replace h := Ok_t c8 h
          exact am_Ev.sub (L := [(0, .ref (pL l0)), (1, .ref (pB l1)), (2, .int (l2)), (3, .ref (pB l3))]) ⟨rfl, rfl, rfl, rfl, trivial⟩ (cN_join_35_ok l0 l1 l2 (some l3) _ _ h)
        · replace h := Ok_f c8 h
          refine ev_aload (pc' := 24) m_104 rfl rfl rfl (ev_astore_n (pc' := 25) m_104 rfl rfl rfl rfl (ev_aload (pc' := 27) m_104 rfl rfl rfl ?_))
          cases e7 : gR s 509 l4 with
          | none =>
            rw [e7] at h
            dsimp only at h
            refine tr_getN (pc' := 30) (f := 509) (g := pB) m_104 rfl rfl (ts_obB g5) rfl rfl e7 rfl ?_
            refine ev_astoreN (pc' := 32) m_104 rfl rfl rfl rfl (ev_goto (pc' := 8) m_104 rfl rfl ?_)
            exact am_Ev.sub (L := [(0, .ref (pL l0)), (1, .ref (pB l1)), (2, .int (l2)), (3, .ref (pB l4)), (4, .null)]) ⟨rfl, rfl, rfl, rfl, rfl, trivial⟩ (ih l0 l1 l2 (some l4) none _ _ h)
          | some r6 =>
            rw [e7] at h
            dsimp only at h
            refine tr_getS (pc' := 30) (f := 509) (g := pB) m_104 rfl rfl (ts_obB g5) rfl rfl e7 rfl ?_
            refine ev_astore (pc' := 32) m_104 rfl rfl rfl rfl (ev_goto (pc' := 8) m_104 rfl rfl ?_)
            exact am_Ev.sub (L := [(0, .ref (pL l0)), (1, .ref (pB l1)), (2, .int (l2)), (3, .ref (pB l4)), (4, .ref (pB r6))]) ⟨rfl, rfl, rfl, rfl, rfl, trivial⟩ (ih l0 l1 l2 (some l4) (some r6) _ _ h)
def cN_join (l0 : Nat) (l1 : Nat) (l2 : Int32) (s : ts) : Option (ts) := (if l0 < 30 then (match gR s 600 l0 with
  | none => cN_join_8 tm_N l0 l1 l2 none none s
  | some r2 => cN_join_8 tm_N l0 l1 l2 none (some r2) s) else none)
set_option maxRecDepth 20000 in
theorem cN_join_ok {d : Nat} (l0 : Nat) (l1 : Nat) (l2 : Int32) (s : ts) (Q : ts → Prop) (h : Ok (cN_join l0 l1 l2 s) Q) : am_Ev (d + 0) 104 (0, [(0, .ref (pL l0)), (1, .ref (pB l1)), (2, .int (l2))], []) (lay s) (tq_v Q) := by
  unfold cN_join at h
  refine ev_null (pc' := 1) m_104 rfl rfl (ev_astore_nN (pc' := 2) m_104 rfl rfl rfl rfl (ev_aload_n (pc' := 3) m_104 rfl rfl rfl ?_))
  obtain ⟨g1, h⟩ := Ok_g h
  cases e3 : gR s 600 l0 with
  | none =>
    rw [e3] at h
    dsimp only at h
    refine tr_getN (pc' := 6) (f := 600) (g := pB) m_104 rfl rfl (ts_obL g1) rfl rfl e3 rfl ?_
    refine ev_astoreN (pc' := 8) m_104 rfl rfl rfl rfl ?_
    exact am_Ev.sub (L := [(0, .ref (pL l0)), (1, .ref (pB l1)), (2, .int (l2)), (3, .null), (4, .null)]) ⟨rfl, rfl, rfl, rfl, rfl, trivial⟩ (cN_join_8_ok tm_N l0 l1 l2 none none _ _ h)
  | some r2 =>
    rw [e3] at h
    dsimp only at h
    refine tr_getS (pc' := 6) (f := 600) (g := pB) m_104 rfl rfl (ts_obL g1) rfl rfl e3 rfl ?_
    refine ev_astore (pc' := 8) m_104 rfl rfl rfl rfl ?_
    exact am_Ev.sub (L := [(0, .ref (pL l0)), (1, .ref (pB l1)), (2, .int (l2)), (3, .null), (4, .ref (pB r2))]) ⟨rfl, rfl, rfl, rfl, rfl, trivial⟩ (cN_join_8_ok tm_N l0 l1 l2 none (some r2) _ _ h)
def cO_putInCalendar_17 (l1 : Nat) (l2 : Int32) (l3 : Int32) (s : ts) : Option (ts) := (if l1 < gM s then (cN_join 28 l1 l3 (wI (wI (wI s 502 l1 l2) 510 l1 (gI (wI s 502 l1 l2) 800 0)) 511 l1 ((-2 : Int32)))).bind (fun s3 => some s3) else none)
set_option maxRecDepth 20000 in
theorem cO_putInCalendar_17_ok {d : Nat} (l1 : Nat) (l2 : Int32) (l3 : Int32) (s : ts) (Q : ts → Prop) (h : Ok (cO_putInCalendar_17 l1 l2 l3 s) Q) : am_Ev (d + 1) 102 (17, [(0, .ref 81), (1, .ref (pB l1)), (2, .int (l2)), (3, .int (l3))], []) (lay s) (tq_v Q) := by
  unfold cO_putInCalendar_17 at h
  refine ev_aload_n (pc' := 18) m_102 rfl rfl rfl (ev_iload_n (pc' := 19) m_102 rfl rfl rfl ?_)
  obtain ⟨g1, h⟩ := Ok_g h
  refine tr_pI (pc' := 22) (f := 502) m_102 rfl rfl rfl (ts_obB g1) rfl rfl rfl rfl (ev_aload_n (pc' := 23) m_102 rfl rfl rfl (ev_aload_n (pc' := 24) m_102 rfl rfl rfl (tr_get (pc' := 27) (v := .ref 35) m_102 rfl rfl ts_o81 rfl rfl rfl (tr_get (pc' := 30) (v := .int (gI _ 800 _)) m_102 rfl rfl ts_o35 rfl rfl rfl (tr_pI (pc' := 33) (f := 510) m_102 rfl rfl rfl (ts_obB g1) rfl rfl rfl rfl (ev_aload_n (pc' := 34) m_102 rfl rfl rfl (ev_bipush (pc' := 36) (x := -2) m_102 rfl rfl rfl ?_)))))))
  refine tr_pI (pc' := 39) (f := 511) m_102 rfl rfl rfl (ts_obB g1) rfl rfl rfl rfl (ev_aload_n (pc' := 40) m_102 rfl rfl rfl (tr_get (pc' := 43) (v := .ref (pL 28)) m_102 rfl rfl ts_o81 rfl rfl rfl (ev_aload_n (pc' := 44) m_102 rfl rfl rfl (ev_iload_n (pc' := 45) m_102 rfl rfl rfl ?_))))
  refine tr_cv (pc' := 48) m_102 rfl rfl rfl m_104 rfl rfl rfl rfl (tr_rcv (ts_obL (by decide)) rfl) rfl rfl (cN_join_ok 28 l1 l3 _ _ (Ok_b h)) (fun s3 h => ?_)
  exact tr_rv m_102 rfl rfl (Ok_s h)
def cO_putInCalendar (l1 : Nat) (l2 : Int32) (l3 : Int32) (s : ts) : Option (ts) := (if l1 < gM s then (match gR s 507 l1 with
  | none => cO_putInCalendar_17 l1 l2 l3 s
  | some r2 => (if r2 < 30 then (cN_drop r2 l1 s).bind (fun s6 => cO_putInCalendar_17 l1 l2 l3 s6) else none)) else none)
set_option maxRecDepth 20000 in
theorem cO_putInCalendar_ok {d : Nat} (l1 : Nat) (l2 : Int32) (l3 : Int32) (s : ts) (Q : ts → Prop) (h : Ok (cO_putInCalendar l1 l2 l3 s) Q) : am_Ev (d + 1) 102 (0, [(0, .ref 81), (1, .ref (pB l1)), (2, .int (l2)), (3, .int (l3))], []) (lay s) (tq_v Q) := by
  unfold cO_putInCalendar at h
  refine ev_aload_n (pc' := 1) m_102 rfl rfl rfl ?_
  obtain ⟨g1, h⟩ := Ok_g h
  cases e3 : gR s 507 l1 with
  | none =>
    rw [e3] at h
    dsimp only at h
    refine tr_getN (pc' := 4) (f := 507) (g := pL) m_102 rfl rfl (ts_obB g1) rfl rfl e3 rfl ?_
    refine ev_astoreN (pc' := 6) m_102 rfl rfl rfl rfl (ev_aloadN (pc' := 8) m_102 rfl rfl rfl (ev_nulY (t := 17) m_102 rfl rfl ?_))
    exact am_Ev.sub (L := [(0, .ref 81), (1, .ref (pB l1)), (2, .int (l2)), (3, .int (l3))]) ⟨rfl, rfl, rfl, rfl, trivial⟩ (cO_putInCalendar_17_ok l1 l2 l3 _ _ h)
  | some r2 =>
    rw [e3] at h
    dsimp only at h
    refine tr_getS (pc' := 4) (f := 507) (g := pL) m_102 rfl rfl (ts_obB g1) rfl rfl e3 rfl ?_
    refine ev_astore (pc' := 6) m_102 rfl rfl rfl rfl (ev_aload (pc' := 8) m_102 rfl rfl rfl (ev_nulN (e := 11) m_102 rfl rfl (ev_aload (pc' := 13) m_102 rfl rfl rfl (ev_aload_n (pc' := 14) m_102 rfl rfl rfl ?_))))
    obtain ⟨g4, h⟩ := Ok_g h
    refine tr_cv (pc' := 17) m_102 rfl rfl rfl m_103 rfl rfl rfl rfl (tr_rcv (ts_obL g4) rfl) rfl rfl (cN_drop_ok r2 l1 _ _ (Ok_b h)) (fun s6 h => ?_)
    exact am_Ev.sub (L := [(0, .ref 81), (1, .ref (pB l1)), (2, .int (l2)), (3, .int (l3))]) ⟨rfl, rfl, rfl, rfl, trivial⟩ (cO_putInCalendar_17_ok l1 l2 l3 _ _ h)
def cH_admit_97 (l6 : Nat) (t0 : Nat) (t1 : Int32) (t2 : Int32) (s : ts) : Option (Int32 × ts) := (if t0 < gM s then (if am_idx t1 8 = true then (cO_putInCalendar l6 ((0 : Int32)) (gI (wV s t0 t1.toNatClampNeg t2) 800 0) (wV s t0 t1.toNatClampNeg t2)).bind (fun s4 => (if l6 < gM s4 then some (gI s4 500 l6, s4) else none)) else none) else none)
set_option maxRecDepth 20000 in
theorem cH_admit_97_ok {d : Nat} (l6 : Nat) (t0 : Nat) (t1 : Int32) (t2 : Int32) (s : ts) (Q : Int32 × ts → Prop) (h : Ok (cH_admit_97 l6 t0 t1 t2 s) Q) : am_Ev (d + 5) 97 (97, [(0, .ref 34), (6, .ref (pB l6))], [.int (t2), .int (t1), .ref (pV t0)]) (lay s) (tq_i Q) := by
  unfold cH_admit_97 at h
  obtain ⟨g1, h⟩ := Ok_g h
  obtain ⟨g2, h⟩ := Ok_g h
  refine tr_vast (pc' := 98) m_97 rfl g1 g2 rfl (ev_aload_n (pc' := 99) m_97 rfl rfl rfl (tr_get (pc' := 102) (v := .ref 81) m_97 rfl rfl ts_o34 rfl rfl rfl (ev_aload (pc' := 104) m_97 rfl rfl rfl (ev_iconst (pc' := 105) (x := 0) m_97 rfl rfl rfl (ev_aload_n (pc' := 106) m_97 rfl rfl rfl (tr_get (pc' := 109) (v := .ref 35) m_97 rfl rfl ts_o34 rfl rfl rfl (tr_get (pc' := 112) (v := .int (gI _ 800 _)) m_97 rfl rfl ts_o35 rfl rfl rfl ?_)))))))
  refine tr_cv (pc' := 115) m_97 rfl rfl rfl m_102 rfl rfl rfl rfl (tr_rcv ts_o81 rfl) rfl rfl (cO_putInCalendar_ok l6 ((0 : Int32)) (gI (wV s t0 t1.toNatClampNeg t2) 800 0) _ _ (Ok_b h)) (fun s4 h => ?_)
  refine ev_aload (pc' := 117) m_97 rfl rfl rfl ?_
  obtain ⟨g6, h⟩ := Ok_g h
  refine tr_get (pc' := 120) (v := .int (gI _ 500 _)) m_97 rfl rfl (ts_obB g6) rfl rfl rfl ?_
  exact tr_ri m_97 rfl rfl (Ok_s h)
def cH_admit_78 (l5 : Int32) (l6 : Nat) (l7 : Int32) (t0 : Nat) (t1 : Int32) (t2 : Int32) (s : ts) : Option (Int32 × ts) := (if t0 < gM s then (if am_idx t1 8 = true then (if l6 < gM s then (if l7 ≤ ((3 : Int32)) then cH_admit_97 l6 l6 ((3 : Int32)) ((0 : Int32)) (wV s t0 t1.toNatClampNeg t2) else cH_admit_97 l6 l6 ((3 : Int32)) l5 (wV s t0 t1.toNatClampNeg t2)) else none) else none) else none)
set_option maxRecDepth 20000 in
theorem cH_admit_78_ok {d : Nat} (l5 : Int32) (l6 : Nat) (l7 : Int32) (t0 : Nat) (t1 : Int32) (t2 : Int32) (s : ts) (Q : Int32 × ts → Prop) (h : Ok (cH_admit_78 l5 l6 l7 t0 t1 t2 s) Q) : am_Ev (d + 5) 97 (78, [(0, .ref 34), (5, .int (l5)), (6, .ref (pB l6)), (7, .int (l7))], [.int (t2), .int (t1), .ref (pV t0)]) (lay s) (tq_i Q) := by
  unfold cH_admit_78 at h
  obtain ⟨g1, h⟩ := Ok_g h
  obtain ⟨g2, h⟩ := Ok_g h
  refine tr_vast (pc' := 79) m_97 rfl g1 g2 rfl (ev_aload (pc' := 81) m_97 rfl rfl rfl ?_)
  obtain ⟨g3, h⟩ := Ok_g h
  refine tr_get (pc' := 84) (v := .ref (pV l6)) m_97 rfl rfl (ts_obB g3) rfl rfl rfl (ev_iconst (pc' := 85) (x := 3) m_97 rfl rfl rfl (ev_iload (pc' := 87) m_97 rfl rfl rfl (ev_iconst (pc' := 88) (x := 3) m_97 rfl rfl rfl ?_)))
  refine ev_icmp_le (t := 96) (e := 91) m_97 rfl rfl rfl (fun c4 => ?_) (fun c4 => ?_)
  · replace h := Ok_t c4 h
    refine ev_iconst (pc' := 97) (x := 0) m_97 rfl rfl rfl ?_
    exact am_Ev.sub (L := [(0, .ref 34), (6, .ref (pB l6))]) ⟨rfl, rfl, trivial⟩ (cH_admit_97_ok l6 l6 ((3 : Int32)) ((0 : Int32)) _ _ h)
  · replace h := Ok_f c4 h
    refine ev_iload (pc' := 93) m_97 rfl rfl rfl (ev_goto (pc' := 97) m_97 rfl rfl ?_)
    exact am_Ev.sub (L := [(0, .ref 34), (6, .ref (pB l6))]) ⟨rfl, rfl, trivial⟩ (cH_admit_97_ok l6 l6 ((3 : Int32)) l5 _ _ h)
def cH_admit_59 (l4 : Int32) (l5 : Int32) (l6 : Nat) (l7 : Int32) (t0 : Nat) (t1 : Int32) (t2 : Int32) (s : ts) : Option (Int32 × ts) := (if t0 < gM s then (if am_idx t1 8 = true then (if l6 < gM s then (if l7 ≤ ((2 : Int32)) then cH_admit_78 l5 l6 l7 l6 ((2 : Int32)) ((0 : Int32)) (wV s t0 t1.toNatClampNeg t2) else cH_admit_78 l5 l6 l7 l6 ((2 : Int32)) l4 (wV s t0 t1.toNatClampNeg t2)) else none) else none) else none)
set_option maxRecDepth 20000 in
theorem cH_admit_59_ok {d : Nat} (l4 : Int32) (l5 : Int32) (l6 : Nat) (l7 : Int32) (t0 : Nat) (t1 : Int32) (t2 : Int32) (s : ts) (Q : Int32 × ts → Prop) (h : Ok (cH_admit_59 l4 l5 l6 l7 t0 t1 t2 s) Q) : am_Ev (d + 5) 97 (59, [(0, .ref 34), (4, .int (l4)), (5, .int (l5)), (6, .ref (pB l6)), (7, .int (l7))], [.int (t2), .int (t1), .ref (pV t0)]) (lay s) (tq_i Q) := by
  unfold cH_admit_59 at h
  obtain ⟨g1, h⟩ := Ok_g h
  obtain ⟨g2, h⟩ := Ok_g h
  refine tr_vast (pc' := 60) m_97 rfl g1 g2 rfl (ev_aload (pc' := 62) m_97 rfl rfl rfl ?_)
  obtain ⟨g3, h⟩ := Ok_g h
  refine tr_get (pc' := 65) (v := .ref (pV l6)) m_97 rfl rfl (ts_obB g3) rfl rfl rfl (ev_iconst (pc' := 66) (x := 2) m_97 rfl rfl rfl (ev_iload (pc' := 68) m_97 rfl rfl rfl (ev_iconst (pc' := 69) (x := 2) m_97 rfl rfl rfl ?_)))
  refine ev_icmp_le (t := 77) (e := 72) m_97 rfl rfl rfl (fun c4 => ?_) (fun c4 => ?_)
  · replace h := Ok_t c4 h
    refine ev_iconst (pc' := 78) (x := 0) m_97 rfl rfl rfl ?_
    exact am_Ev.sub (L := [(0, .ref 34), (5, .int (l5)), (6, .ref (pB l6)), (7, .int (l7))]) ⟨rfl, rfl, rfl, rfl, trivial⟩ (cH_admit_78_ok l5 l6 l7 l6 ((2 : Int32)) ((0 : Int32)) _ _ h)
  · replace h := Ok_f c4 h
    refine ev_iload (pc' := 74) m_97 rfl rfl rfl (ev_goto (pc' := 78) m_97 rfl rfl ?_)
    exact am_Ev.sub (L := [(0, .ref 34), (5, .int (l5)), (6, .ref (pB l6)), (7, .int (l7))]) ⟨rfl, rfl, rfl, rfl, trivial⟩ (cH_admit_78_ok l5 l6 l7 l6 ((2 : Int32)) l4 _ _ h)
def cH_admit_41 (l3 : Int32) (l4 : Int32) (l5 : Int32) (l6 : Nat) (l7 : Int32) (t0 : Nat) (t1 : Int32) (t2 : Int32) (s : ts) : Option (Int32 × ts) := (if t0 < gM s then (if am_idx t1 8 = true then (if l6 < gM s then (if l7 ≤ ((1 : Int32)) then cH_admit_59 l4 l5 l6 l7 l6 ((1 : Int32)) ((0 : Int32)) (wV s t0 t1.toNatClampNeg t2) else cH_admit_59 l4 l5 l6 l7 l6 ((1 : Int32)) l3 (wV s t0 t1.toNatClampNeg t2)) else none) else none) else none)
set_option maxRecDepth 20000 in
theorem cH_admit_41_ok {d : Nat} (l3 : Int32) (l4 : Int32) (l5 : Int32) (l6 : Nat) (l7 : Int32) (t0 : Nat) (t1 : Int32) (t2 : Int32) (s : ts) (Q : Int32 × ts → Prop) (h : Ok (cH_admit_41 l3 l4 l5 l6 l7 t0 t1 t2 s) Q) : am_Ev (d + 5) 97 (41, [(0, .ref 34), (3, .int (l3)), (4, .int (l4)), (5, .int (l5)), (6, .ref (pB l6)), (7, .int (l7))], [.int (t2), .int (t1), .ref (pV t0)]) (lay s) (tq_i Q) := by
  unfold cH_admit_41 at h
  obtain ⟨g1, h⟩ := Ok_g h
  obtain ⟨g2, h⟩ := Ok_g h
  refine tr_vast (pc' := 42) m_97 rfl g1 g2 rfl (ev_aload (pc' := 44) m_97 rfl rfl rfl ?_)
  obtain ⟨g3, h⟩ := Ok_g h
  refine tr_get (pc' := 47) (v := .ref (pV l6)) m_97 rfl rfl (ts_obB g3) rfl rfl rfl (ev_iconst (pc' := 48) (x := 1) m_97 rfl rfl rfl (ev_iload (pc' := 50) m_97 rfl rfl rfl (ev_iconst (pc' := 51) (x := 1) m_97 rfl rfl rfl ?_)))
  refine ev_icmp_le (t := 58) (e := 54) m_97 rfl rfl rfl (fun c4 => ?_) (fun c4 => ?_)
  · replace h := Ok_t c4 h
    refine ev_iconst (pc' := 59) (x := 0) m_97 rfl rfl rfl ?_
    exact am_Ev.sub (L := [(0, .ref 34), (4, .int (l4)), (5, .int (l5)), (6, .ref (pB l6)), (7, .int (l7))]) ⟨rfl, rfl, rfl, rfl, rfl, trivial⟩ (cH_admit_59_ok l4 l5 l6 l7 l6 ((1 : Int32)) ((0 : Int32)) _ _ h)
  · replace h := Ok_f c4 h
    refine ev_iload_n (pc' := 55) m_97 rfl rfl rfl (ev_goto (pc' := 59) m_97 rfl rfl ?_)
    exact am_Ev.sub (L := [(0, .ref 34), (4, .int (l4)), (5, .int (l5)), (6, .ref (pB l6)), (7, .int (l7))]) ⟨rfl, rfl, rfl, rfl, rfl, trivial⟩ (cH_admit_59_ok l4 l5 l6 l7 l6 ((1 : Int32)) l3 _ _ h)
def cH_admit (l1 : Int32) (l2 : Int32) (l3 : Int32) (l4 : Int32) (l5 : Int32) (s : ts) : Option (Int32 × ts) := (cH_add l1 s).bind (fun x3 => match x3.1 with
  | none => some ((-1 : Int32), x3.2)
  | some q4 => (if am_idx l1 12 = true then (if q4 < gM x3.2 then (if (gA x3.2 19 l1.toNatClampNeg) ≤ ((0 : Int32)) then cH_admit_41 l3 l4 l5 q4 (gA x3.2 19 l1.toNatClampNeg) q4 ((0 : Int32)) ((0 : Int32)) x3.2 else cH_admit_41 l3 l4 l5 q4 (gA x3.2 19 l1.toNatClampNeg) q4 ((0 : Int32)) l2 x3.2) else none) else none))
set_option maxRecDepth 20000 in
theorem cH_admit_ok {d : Nat} (l1 : Int32) (l2 : Int32) (l3 : Int32) (l4 : Int32) (l5 : Int32) (s : ts) (Q : Int32 × ts → Prop) (h : Ok (cH_admit l1 l2 l3 l4 l5 s) Q) : am_Ev (d + 5) 97 (0, [(0, .ref 34), (1, .int (l1)), (2, .int (l2)), (3, .int (l3)), (4, .int (l4)), (5, .int (l5))], []) (lay s) (tq_i Q) := by
  unfold cH_admit at h
  refine ev_aload_n (pc' := 1) m_97 rfl rfl rfl (ev_iload_n (pc' := 2) m_97 rfl rfl rfl ?_)
  refine tr_cr (pc' := 5) m_97 rfl rfl rfl m_98 rfl rfl rfl rfl (tr_rcv ts_o34 rfl) rfl rfl (cH_add_ok l1 _ _ (Ok_b h)) (fun x3_s h => ?_) (fun q4 x3_s h => ?_)
  · dsimp only at h
    refine ev_astoreN (pc' := 7) m_97 rfl rfl rfl rfl (ev_aloadN (pc' := 9) m_97 rfl rfl rfl (ev_nnlN (e := 12) m_97 rfl rfl (ev_iconst (pc' := 13) (x := -1) m_97 rfl rfl rfl ?_)))
    exact tr_ri m_97 rfl rfl (Ok_s h)
  · dsimp only at h
    refine ev_astore (pc' := 7) m_97 rfl rfl rfl rfl (ev_aload (pc' := 9) m_97 rfl rfl rfl (ev_nnlY (t := 14) m_97 rfl rfl (ev_aload_n (pc' := 15) m_97 rfl rfl rfl (tr_get (pc' := 18) (v := .ref 12) m_97 rfl rfl ts_o34 rfl rfl rfl (tr_get (pc' := 21) (v := .ref 19) m_97 rfl rfl ts_o12 rfl rfl rfl (ev_iload_n (pc' := 22) m_97 rfl rfl rfl ?_))))))
    obtain ⟨g5, h⟩ := Ok_g h
    refine tr_iald (pc' := 23) m_97 rfl rfl rfl g5 rfl (ev_istore (pc' := 25) m_97 rfl rfl rfl rfl (ev_aload (pc' := 27) m_97 rfl rfl rfl ?_))
    obtain ⟨g6, h⟩ := Ok_g h
    refine tr_get (pc' := 30) (v := .ref (pV q4)) m_97 rfl rfl (ts_obB g6) rfl rfl rfl (ev_iconst (pc' := 31) (x := 0) m_97 rfl rfl rfl (ev_iload (pc' := 33) m_97 rfl rfl rfl ?_))
    refine ev_if_le (t := 40) (e := 36) m_97 rfl rfl rfl (fun c7 => ?_) (fun c7 => ?_)
    · replace h := Ok_t c7 h
      refine ev_iconst (pc' := 41) (x := 0) m_97 rfl rfl rfl ?_
      exact am_Ev.sub (L := [(0, .ref 34), (3, .int (l3)), (4, .int (l4)), (5, .int (l5)), (6, .ref (pB q4)), (7, .int (gA x3_s 19 l1.toNatClampNeg))]) ⟨rfl, rfl, rfl, rfl, rfl, rfl, trivial⟩ (cH_admit_41_ok l3 l4 l5 q4 (gA x3_s 19 l1.toNatClampNeg) q4 ((0 : Int32)) ((0 : Int32)) _ _ h)
    · replace h := Ok_f c7 h
      refine ev_iload_n (pc' := 37) m_97 rfl rfl rfl (ev_goto (pc' := 41) m_97 rfl rfl ?_)
      exact am_Ev.sub (L := [(0, .ref 34), (3, .int (l3)), (4, .int (l4)), (5, .int (l5)), (6, .ref (pB q4)), (7, .int (gA x3_s 19 l1.toNatClampNeg))]) ⟨rfl, rfl, rfl, rfl, rfl, rfl, trivial⟩ (cH_admit_41_ok l3 l4 l5 q4 (gA x3_s 19 l1.toNatClampNeg) q4 ((0 : Int32)) l2 _ _ h)
def cX_start (l1 : Int32) (l2 : Int32) (l3 : Int32) (l4 : Int32) (l5 : Int32) (s : ts) : Option (Int32 × ts) := (if (gI s 6 0) = ((0 : Int32)) then some ((-1 : Int32), s) else (cH_admits l1 s).bind (fun x3 => (if x3.1 = ((0 : Int32)) then some ((-1 : Int32), x3.2) else (cH_admit l1 l2 l3 l4 l5 x3.2).bind (fun x6 => some (x6.1, x6.2)))))
set_option maxRecDepth 20000 in
theorem cX_start_ok {d : Nat} (l1 : Int32) (l2 : Int32) (l3 : Int32) (l4 : Int32) (l5 : Int32) (s : ts) (Q : Int32 × ts → Prop) (h : Ok (cX_start l1 l2 l3 l4 l5 s) Q) : am_Ev (d + 6) 94 (0, [(0, .ref 5), (1, .int (l1)), (2, .int (l2)), (3, .int (l3)), (4, .int (l4)), (5, .int (l5))], []) (lay s) (tq_i Q) := by
  unfold cX_start at h
  refine ev_aload_n (pc' := 1) m_94 rfl rfl rfl (tr_get (pc' := 4) (v := .int (gI _ 6 _)) m_94 rfl rfl ts_o5 rfl rfl rfl ?_)
  refine ev_if_eq (t := 35) (e := 7) m_94 rfl rfl rfl (fun c8 => ?_) (fun c8 => ?_)
  · replace h := Ok_t c8 h
    refine ev_iconst (pc' := 36) (x := -1) m_94 rfl rfl rfl ?_
    exact tr_ri m_94 rfl rfl (Ok_s h)
  · replace h := Ok_f c8 h
    refine ev_aload_n (pc' := 8) m_94 rfl rfl rfl (tr_get (pc' := 11) (v := .ref 34) m_94 rfl rfl ts_o5 rfl rfl rfl (ev_iload_n (pc' := 12) m_94 rfl rfl rfl ?_))
    refine tr_cz (pc' := 15) m_94 rfl rfl rfl m_95 rfl rfl rfl rfl rfl (tr_rcv ts_o34 rfl) rfl rfl (cH_admits_ok l1 _ _ (Ok_b h)) (fun x3_ x3_s h1 h => ?_)
    refine ev_if_eq (t := 35) (e := 18) m_94 rfl rfl rfl (fun c7 => ?_) (fun c7 => ?_)
    · replace h := Ok_t c7 h
      refine ev_iconst (pc' := 36) (x := -1) m_94 rfl rfl rfl ?_
      exact tr_ri m_94 rfl rfl (Ok_s h)
    · replace h := Ok_f c7 h
      refine ev_aload_n (pc' := 19) m_94 rfl rfl rfl (tr_get (pc' := 22) (v := .ref 34) m_94 rfl rfl ts_o5 rfl rfl rfl (ev_iload_n (pc' := 23) m_94 rfl rfl rfl (ev_iload_n (pc' := 24) m_94 rfl rfl rfl (ev_iload_n (pc' := 25) m_94 rfl rfl rfl (ev_iload (pc' := 27) m_94 rfl rfl rfl (ev_iload (pc' := 29) m_94 rfl rfl rfl ?_))))))
      refine tr_ci (pc' := 32) m_94 rfl rfl rfl m_97 rfl rfl rfl rfl (tr_rcv ts_o34 rfl) rfl rfl (cH_admit_ok l1 l2 l3 l4 l5 _ _ (Ok_b h)) (fun x6_ x6_s h => ?_)
      refine ev_goto (pc' := 36) m_94 rfl rfl ?_
      exact tr_ri m_94 rfl rfl (Ok_s h)
def cR_calendar (l1 : Int32) (l2 : Int32) (l3 : Int32) (s : ts) : Option (ts) := (if am_idx l1 300 = true then some (wA (wJ (wB (wA (wA s 120 l1.toNatClampNeg l2) 122 l1.toNatClampNeg l3) 123 l1.toNatClampNeg (gJ (wA (wA s 120 l1.toNatClampNeg l2) 122 l1.toNatClampNeg l3) 1160 0)) 1160 0 ((gJ (wB (wA (wA s 120 l1.toNatClampNeg l2) 122 l1.toNatClampNeg l3) 123 l1.toNatClampNeg (gJ (wA (wA s 120 l1.toNatClampNeg l2) 122 l1.toNatClampNeg l3) 1160 0)) 1160 0) + ((1 : Int64)))) 124 l1.toNatClampNeg (gI (wJ (wB (wA (wA s 120 l1.toNatClampNeg l2) 122 l1.toNatClampNeg l3) 123 l1.toNatClampNeg (gJ (wA (wA s 120 l1.toNatClampNeg l2) 122 l1.toNatClampNeg l3) 1160 0)) 1160 0 ((gJ (wB (wA (wA s 120 l1.toNatClampNeg l2) 122 l1.toNatClampNeg l3) 123 l1.toNatClampNeg (gJ (wA (wA s 120 l1.toNatClampNeg l2) 122 l1.toNatClampNeg l3) 1160 0)) 1160 0) + ((1 : Int64)))) 1152 0)) else none)
set_option maxRecDepth 20000 in
theorem cR_calendar_ok {d : Nat} (l1 : Int32) (l2 : Int32) (l3 : Int32) (s : ts) (Q : ts → Prop) (h : Ok (cR_calendar l1 l2 l3 s) Q) : am_Ev (d + 0) 221 (0, [(0, .ref 87), (1, .int (l1)), (2, .int (l2)), (3, .int (l3))], []) (lay s) (tq_v Q) := by
  unfold cR_calendar at h
  refine ev_aload_n (pc' := 1) m_221 rfl rfl rfl (tr_get (pc' := 4) (v := .ref 120) m_221 rfl rfl ts_o87 rfl rfl rfl (ev_iload_n (pc' := 5) m_221 rfl rfl rfl (ev_iload_n (pc' := 6) m_221 rfl rfl rfl ?_)))
  obtain ⟨g1, h⟩ := Ok_g h
  refine tr_iast (pc' := 7) m_221 rfl rfl rfl g1 rfl (ev_aload_n (pc' := 8) m_221 rfl rfl rfl (tr_get (pc' := 11) (v := .ref 122) m_221 rfl rfl ts_o87 rfl rfl rfl (ev_iload_n (pc' := 12) m_221 rfl rfl rfl (ev_iload_n (pc' := 13) m_221 rfl rfl rfl (tr_iast (pc' := 14) m_221 rfl rfl rfl g1 rfl (ev_aload_n (pc' := 15) m_221 rfl rfl rfl (tr_get (pc' := 18) (v := .ref 123) m_221 rfl rfl ts_o87 rfl rfl rfl ?_)))))))
  refine ev_iload_n (pc' := 19) m_221 rfl rfl rfl (ev_aload_n (pc' := 20) m_221 rfl rfl rfl (tr_get (pc' := 23) (v := .long (gJ _ 1160 _)) m_221 rfl rfl ts_o87 rfl rfl rfl (tr_last (pc' := 24) m_221 rfl rfl rfl g1 rfl (ev_aload_n (pc' := 25) m_221 rfl rfl rfl (ev_dup (pc' := 26) m_221 rfl rfl rfl (tr_get (pc' := 29) (v := .long (gJ _ 1160 _)) m_221 rfl rfl ts_o87 rfl rfl rfl (ev_lconst (pc' := 30) (u := 1) m_221 rfl rfl rfl ?_)))))))
  refine ev_ladd (pc' := 31) m_221 rfl rfl (tr_pJ (pc' := 34) (f := 1160) m_221 rfl rfl rfl ts_o87 rfl rfl rfl rfl (ev_aload_n (pc' := 35) m_221 rfl rfl rfl (tr_get (pc' := 38) (v := .ref 124) m_221 rfl rfl ts_o87 rfl rfl rfl (ev_iload_n (pc' := 39) m_221 rfl rfl rfl (ev_aload_n (pc' := 40) m_221 rfl rfl rfl (tr_get (pc' := 43) (v := .int (gI _ 1152 _)) m_221 rfl rfl ts_o87 rfl rfl rfl (tr_iast (pc' := 44) m_221 rfl rfl rfl g1 rfl ?_)))))))
  exact tr_rv m_221 rfl rfl (Ok_s h)
def cR_fresh_52_b (kk : Int32 → Int32 → Int32 → ts → Option (Int32 × ts)) (l2 : Int32) (l3 : Int32) (l4 : Int32) (s : ts) : Option (Int32 × ts) := (if ((8 : Int32)) ≤ l4 then (cR_calendar l3 ((0 : Int32)) l2 s).bind (fun s2 => some (l3, s2)) else (if am_idx ((((8 : Int32)) * l3) + l4) 2400 = true then kk l2 l3 (l4 + (1 : Int32)) (wA (wA s 127 ((((8 : Int32)) * l3) + l4).toNatClampNeg ((0 : Int32))) 128 ((((8 : Int32)) * l3) + l4).toNatClampNeg ((0 : Int32))) else none))
def cR_fresh_52 : Nat → Int32 → Int32 → Int32 → ts → Option (Int32 × ts)
  | 0, _, _, _, _ => none
  | n + 1, l2, l3, l4, s => cR_fresh_52_b (cR_fresh_52 n) l2 l3 l4 s
set_option maxRecDepth 20000 in
theorem cR_fresh_52_ok {d : Nat} : ∀ (n : Nat) (l2 : Int32) (l3 : Int32) (l4 : Int32) (s : ts) (Q : Int32 × ts → Prop), Ok (cR_fresh_52 n l2 l3 l4 s) Q → am_Ev (d + 1) 220 (52, [(0, .ref 87), (2, .int (l2)), (3, .int (l3)), (4, .int (l4))], []) (lay s) (tq_i Q) := by
  intro n
  induction n with
  | zero => intro l2 l3 l4 s Q h; exact Ok_n h
  | succ n ih =>
    intro l2 l3 l4 s Q h
    rw [cR_fresh_52.eq_2] at h
    unfold cR_fresh_52_b at h
    refine ev_iload (pc' := 54) m_220 rfl rfl rfl (ev_bipush (pc' := 56) (x := 8) m_220 rfl rfl rfl ?_)
    refine ev_icmp_ge (t := 91) (e := 59) m_220 rfl rfl rfl (fun c5 => ?_) (fun c5 => ?_)
    · replace h := Ok_t c5 h
      refine ev_aload_n (pc' := 92) m_220 rfl rfl rfl (ev_iload_n (pc' := 93) m_220 rfl rfl rfl (ev_iconst (pc' := 94) (x := 0) m_220 rfl rfl rfl (ev_iload_n (pc' := 95) m_220 rfl rfl rfl ?_)))
      refine tr_cv (pc' := 98) m_220 rfl rfl rfl m_221 rfl rfl rfl rfl (tr_rcv ts_o87 rfl) rfl rfl (cR_calendar_ok l3 ((0 : Int32)) l2 _ _ (Ok_b h)) (fun s2 h => ?_)
      refine ev_iload_n (pc' := 99) m_220 rfl rfl rfl ?_
      exact tr_ri m_220 rfl rfl (Ok_s h)
    · replace h := Ok_f c5 h
      refine ev_aload_n (pc' := 60) m_220 rfl rfl rfl (tr_get (pc' := 63) (v := .ref 127) m_220 rfl rfl ts_o87 rfl rfl rfl (ev_bipush (pc' := 65) (x := 8) m_220 rfl rfl rfl (ev_iload_n (pc' := 66) m_220 rfl rfl rfl (ev_imul (pc' := 67) m_220 rfl rfl (ev_iload (pc' := 69) m_220 rfl rfl rfl (ev_iadd (pc' := 70) m_220 rfl rfl (ev_iconst (pc' := 71) (x := 0) m_220 rfl rfl rfl ?_)))))))
      obtain ⟨g4, h⟩ := Ok_g h
      refine tr_iast (pc' := 72) m_220 rfl rfl rfl g4 rfl (ev_aload_n (pc' := 73) m_220 rfl rfl rfl (tr_get (pc' := 76) (v := .ref 128) m_220 rfl rfl ts_o87 rfl rfl rfl (ev_bipush (pc' := 78) (x := 8) m_220 rfl rfl rfl (ev_iload_n (pc' := 79) m_220 rfl rfl rfl (ev_imul (pc' := 80) m_220 rfl rfl (ev_iload (pc' := 82) m_220 rfl rfl rfl (ev_iadd (pc' := 83) m_220 rfl rfl ?_)))))))
      refine ev_iconst (pc' := 84) (x := 0) m_220 rfl rfl rfl (tr_iast (pc' := 85) m_220 rfl rfl rfl g4 rfl (ev_iinc (pc' := 88) (z := 1) m_220 rfl rfl rfl rfl rfl rfl (ev_goto (pc' := 52) m_220 rfl rfl ?_)))
      exact am_Ev.sub (L := [(0, .ref 87), (2, .int (l2)), (3, .int (l3)), (4, .int (l4 + (1 : Int32)))]) ⟨rfl, rfl, rfl, rfl, trivial⟩ (ih l2 l3 (l4 + (1 : Int32)) _ _ h)
def cR_fresh (l1 : Int32) (l2 : Int32) (s : ts) : Option (Int32 × ts) := (if am_idx (gI s 1155 0) 300 = true then (if am_idx l1 12 = true then cR_fresh_52 tm_N l2 (gI s 1155 0) ((0 : Int32)) (wA (wA (wA (wA (wI s 1155 0 ((gI s 1155 0) + ((1 : Int32)))) 119 (gI s 1155 0).toNatClampNeg l1) 121 (gI s 1155 0).toNatClampNeg (gA (wA (wI s 1155 0 ((gI s 1155 0) + ((1 : Int32)))) 119 (gI s 1155 0).toNatClampNeg l1) 97 l1.toNatClampNeg)) 126 (gI s 1155 0).toNatClampNeg ((0 : Int32))) 125 (gI s 1155 0).toNatClampNeg ((-2 : Int32))) else none) else none)
set_option maxRecDepth 20000 in
theorem cR_fresh_ok {d : Nat} (l1 : Int32) (l2 : Int32) (s : ts) (Q : Int32 × ts → Prop) (h : Ok (cR_fresh l1 l2 s) Q) : am_Ev (d + 1) 220 (0, [(0, .ref 87), (1, .int (l1)), (2, .int (l2))], []) (lay s) (tq_i Q) := by
  unfold cR_fresh at h
  refine ev_aload_n (pc' := 1) m_220 rfl rfl rfl (tr_get (pc' := 4) (v := .int (gI _ 1155 _)) m_220 rfl rfl ts_o87 rfl rfl rfl (ev_istore_n (pc' := 5) m_220 rfl rfl rfl rfl (ev_aload_n (pc' := 6) m_220 rfl rfl rfl (ev_dup (pc' := 7) m_220 rfl rfl rfl (tr_get (pc' := 10) (v := .int (gI _ 1155 _)) m_220 rfl rfl ts_o87 rfl rfl rfl (ev_iconst (pc' := 11) (x := 1) m_220 rfl rfl rfl (ev_iadd (pc' := 12) m_220 rfl rfl ?_)))))))
  refine tr_pI (pc' := 15) (f := 1155) m_220 rfl rfl rfl ts_o87 rfl rfl rfl rfl (ev_aload_n (pc' := 16) m_220 rfl rfl rfl (tr_get (pc' := 19) (v := .ref 119) m_220 rfl rfl ts_o87 rfl rfl rfl (ev_iload_n (pc' := 20) m_220 rfl rfl rfl (ev_iload_n (pc' := 21) m_220 rfl rfl rfl ?_))))
  obtain ⟨g1, h⟩ := Ok_g h
  refine tr_iast (pc' := 22) m_220 rfl rfl rfl g1 rfl (ev_aload_n (pc' := 23) m_220 rfl rfl rfl (tr_get (pc' := 26) (v := .ref 121) m_220 rfl rfl ts_o87 rfl rfl rfl (ev_iload_n (pc' := 27) m_220 rfl rfl rfl (ev_aload_n (pc' := 28) m_220 rfl rfl rfl (tr_get (pc' := 31) (v := .ref 97) m_220 rfl rfl ts_o87 rfl rfl rfl (ev_iload_n (pc' := 32) m_220 rfl rfl rfl ?_))))))
  obtain ⟨g2, h⟩ := Ok_g h
  refine tr_iald (pc' := 33) m_220 rfl rfl rfl g2 rfl (tr_iast (pc' := 34) m_220 rfl rfl rfl g1 rfl (ev_aload_n (pc' := 35) m_220 rfl rfl rfl (tr_get (pc' := 38) (v := .ref 126) m_220 rfl rfl ts_o87 rfl rfl rfl (ev_iload_n (pc' := 39) m_220 rfl rfl rfl (ev_iconst (pc' := 40) (x := 0) m_220 rfl rfl rfl (tr_iast (pc' := 41) m_220 rfl rfl rfl g1 rfl (ev_aload_n (pc' := 42) m_220 rfl rfl rfl ?_)))))))
  refine tr_get (pc' := 45) (v := .ref 125) m_220 rfl rfl ts_o87 rfl rfl rfl (ev_iload_n (pc' := 46) m_220 rfl rfl rfl (ev_bipush (pc' := 48) (x := -2) m_220 rfl rfl rfl (tr_iast (pc' := 49) m_220 rfl rfl rfl g1 rfl (ev_iconst (pc' := 50) (x := 0) m_220 rfl rfl rfl (ev_istore (pc' := 52) m_220 rfl rfl rfl rfl ?_)))))
  exact am_Ev.sub (L := [(0, .ref 87), (2, .int (l2)), (3, .int (gI s 1155 0)), (4, .int ((0 : Int32)))]) ⟨rfl, rfl, rfl, rfl, trivial⟩ (cR_fresh_52_ok tm_N l2 (gI s 1155 0) ((0 : Int32)) _ _ h)
def cR_start_54_b (kk : Int32 → Int32 → Int32 → Int32 → Int32 → Int32 → Int32 → ts → Option (Int32 × ts)) (l1 : Int32) (l2 : Int32) (l3 : Int32) (l4 : Int32) (l5 : Int32) (l6 : Int32) (l7 : Int32) (s : ts) : Option (Int32 × ts) := (if am_idx l1 12 = true then (if (gA s 96 l1.toNatClampNeg) ≤ l7 then some (l6, s) else (if ((4 : Int32)) ≤ l7 then some (l6, s) else (if l7 = ((0 : Int32)) then (if am_idx ((((8 : Int32)) * l6) + l7) 2400 = true then kk l1 l2 l3 l4 l5 l6 (l7 + (1 : Int32)) (wA s 127 ((((8 : Int32)) * l6) + l7).toNatClampNeg l2) else none) else (if l7 = ((1 : Int32)) then (if am_idx ((((8 : Int32)) * l6) + l7) 2400 = true then kk l1 l2 l3 l4 l5 l6 (l7 + (1 : Int32)) (wA s 127 ((((8 : Int32)) * l6) + l7).toNatClampNeg l3) else none) else (if l7 = ((2 : Int32)) then (if am_idx ((((8 : Int32)) * l6) + l7) 2400 = true then kk l1 l2 l3 l4 l5 l6 (l7 + (1 : Int32)) (wA s 127 ((((8 : Int32)) * l6) + l7).toNatClampNeg l4) else none) else (if am_idx ((((8 : Int32)) * l6) + l7) 2400 = true then kk l1 l2 l3 l4 l5 l6 (l7 + (1 : Int32)) (wA s 127 ((((8 : Int32)) * l6) + l7).toNatClampNeg l5) else none)))))) else none)
def cR_start_54 : Nat → Int32 → Int32 → Int32 → Int32 → Int32 → Int32 → Int32 → ts → Option (Int32 × ts)
  | 0, _, _, _, _, _, _, _, _ => none
  | n + 1, l1, l2, l3, l4, l5, l6, l7, s => cR_start_54_b (cR_start_54 n) l1 l2 l3 l4 l5 l6 l7 s
set_option maxRecDepth 20000 in
theorem cR_start_54_ok {d : Nat} : ∀ (n : Nat) (l1 : Int32) (l2 : Int32) (l3 : Int32) (l4 : Int32) (l5 : Int32) (l6 : Int32) (l7 : Int32) (s : ts) (Q : Int32 × ts → Prop), Ok (cR_start_54 n l1 l2 l3 l4 l5 l6 l7 s) Q → am_Ev (d + 2) 219 (54, [(0, .ref 87), (1, .int (l1)), (2, .int (l2)), (3, .int (l3)), (4, .int (l4)), (5, .int (l5)), (6, .int (l6)), (7, .int (l7))], []) (lay s) (tq_i Q) := by
  intro n
  induction n with
  | zero => intro l1 l2 l3 l4 l5 l6 l7 s Q h; exact Ok_n h
  | succ n ih =>
    intro l1 l2 l3 l4 l5 l6 l7 s Q h
    rw [cR_start_54.eq_2] at h
    unfold cR_start_54_b at h
    refine ev_iload (pc' := 56) m_219 rfl rfl rfl (ev_aload_n (pc' := 57) m_219 rfl rfl rfl (tr_get (pc' := 60) (v := .ref 96) m_219 rfl rfl ts_o87 rfl rfl rfl (ev_iload_n (pc' := 61) m_219 rfl rfl rfl ?_)))
    obtain ⟨g1, h⟩ := Ok_g h
    refine tr_iald (pc' := 62) m_219 rfl rfl rfl g1 rfl ?_
    refine ev_icmp_ge (t := 122) (e := 65) m_219 rfl rfl rfl (fun c10 => ?_) (fun c10 => ?_)
    · replace h := Ok_t c10 h
      refine ev_iload (pc' := 124) m_219 rfl rfl rfl ?_
      exact tr_ri m_219 rfl rfl (Ok_s h)
    · replace h := Ok_f c10 h
      refine ev_iload (pc' := 67) m_219 rfl rfl rfl (ev_iconst (pc' := 68) (x := 4) m_219 rfl rfl rfl ?_)
      refine ev_icmp_ge (t := 122) (e := 71) m_219 rfl rfl rfl (fun c9 => ?_) (fun c9 => ?_)
      · replace h := Ok_t c9 h
        refine ev_iload (pc' := 124) m_219 rfl rfl rfl ?_
        exact tr_ri m_219 rfl rfl (Ok_s h)
      · replace h := Ok_f c9 h
        refine ev_aload_n (pc' := 72) m_219 rfl rfl rfl (tr_get (pc' := 75) (v := .ref 127) m_219 rfl rfl ts_o87 rfl rfl rfl (ev_bipush (pc' := 77) (x := 8) m_219 rfl rfl rfl (ev_iload (pc' := 79) m_219 rfl rfl rfl (ev_imul (pc' := 80) m_219 rfl rfl (ev_iload (pc' := 82) m_219 rfl rfl rfl (ev_iadd (pc' := 83) m_219 rfl rfl (ev_iload (pc' := 85) m_219 rfl rfl rfl ?_)))))))
        refine ev_if_ne (t := 92) (e := 88) m_219 rfl rfl rfl (fun c8 => ?_) (fun c8 => ?_)
        · replace h := Ok_f c8 h
          refine ev_iload (pc' := 94) m_219 rfl rfl rfl (ev_iconst (pc' := 95) (x := 1) m_219 rfl rfl rfl ?_)
          refine ev_icmp_ne (t := 102) (e := 98) m_219 rfl rfl rfl (fun c6 => ?_) (fun c6 => ?_)
          · replace h := Ok_f c6 h
            refine ev_iload (pc' := 104) m_219 rfl rfl rfl (ev_iconst (pc' := 105) (x := 2) m_219 rfl rfl rfl ?_)
            refine ev_icmp_ne (t := 113) (e := 108) m_219 rfl rfl rfl (fun c4 => ?_) (fun c4 => ?_)
            · replace h := Ok_f c4 h
              refine ev_iload (pc' := 115) m_219 rfl rfl rfl ?_
              obtain ⟨g2, h⟩ := Ok_g h
              refine tr_iast (pc' := 116) m_219 rfl rfl rfl g2 rfl (ev_iinc (pc' := 119) (z := 1) m_219 rfl rfl rfl rfl rfl rfl (ev_goto (pc' := 54) m_219 rfl rfl ?_))
              exact am_Ev.sub (L := [(0, .ref 87), (1, .int (l1)), (2, .int (l2)), (3, .int (l3)), (4, .int (l4)), (5, .int (l5)), (6, .int (l6)), (7, .int (l7 + (1 : Int32)))]) ⟨rfl, rfl, rfl, rfl, rfl, rfl, rfl, rfl, trivial⟩ (ih l1 l2 l3 l4 l5 l6 (l7 + (1 : Int32)) _ _ h)
            · replace h := Ok_t c4 h
              refine ev_iload (pc' := 110) m_219 rfl rfl rfl (ev_goto (pc' := 115) m_219 rfl rfl ?_)
              obtain ⟨g3, h⟩ := Ok_g h
              refine tr_iast (pc' := 116) m_219 rfl rfl rfl g3 rfl (ev_iinc (pc' := 119) (z := 1) m_219 rfl rfl rfl rfl rfl rfl (ev_goto (pc' := 54) m_219 rfl rfl ?_))
              exact am_Ev.sub (L := [(0, .ref 87), (1, .int (l1)), (2, .int (l2)), (3, .int (l3)), (4, .int (l4)), (5, .int (l5)), (6, .int (l6)), (7, .int (l7 + (1 : Int32)))]) ⟨rfl, rfl, rfl, rfl, rfl, rfl, rfl, rfl, trivial⟩ (ih l1 l2 l3 l4 l5 l6 (l7 + (1 : Int32)) _ _ h)
          · replace h := Ok_t c6 h
            refine ev_iload_n (pc' := 99) m_219 rfl rfl rfl (ev_goto (pc' := 115) m_219 rfl rfl ?_)
            obtain ⟨g5, h⟩ := Ok_g h
            refine tr_iast (pc' := 116) m_219 rfl rfl rfl g5 rfl (ev_iinc (pc' := 119) (z := 1) m_219 rfl rfl rfl rfl rfl rfl (ev_goto (pc' := 54) m_219 rfl rfl ?_))
            exact am_Ev.sub (L := [(0, .ref 87), (1, .int (l1)), (2, .int (l2)), (3, .int (l3)), (4, .int (l4)), (5, .int (l5)), (6, .int (l6)), (7, .int (l7 + (1 : Int32)))]) ⟨rfl, rfl, rfl, rfl, rfl, rfl, rfl, rfl, trivial⟩ (ih l1 l2 l3 l4 l5 l6 (l7 + (1 : Int32)) _ _ h)
        · replace h := Ok_t c8 h
          refine ev_iload_n (pc' := 89) m_219 rfl rfl rfl (ev_goto (pc' := 115) m_219 rfl rfl ?_)
          obtain ⟨g7, h⟩ := Ok_g h
          refine tr_iast (pc' := 116) m_219 rfl rfl rfl g7 rfl (ev_iinc (pc' := 119) (z := 1) m_219 rfl rfl rfl rfl rfl rfl (ev_goto (pc' := 54) m_219 rfl rfl ?_))
          exact am_Ev.sub (L := [(0, .ref 87), (1, .int (l1)), (2, .int (l2)), (3, .int (l3)), (4, .int (l4)), (5, .int (l5)), (6, .int (l6)), (7, .int (l7 + (1 : Int32)))]) ⟨rfl, rfl, rfl, rfl, rfl, rfl, rfl, rfl, trivial⟩ (ih l1 l2 l3 l4 l5 l6 (l7 + (1 : Int32)) _ _ h)
def cR_start (l1 : Int32) (l2 : Int32) (l3 : Int32) (l4 : Int32) (l5 : Int32) (s : ts) : Option (Int32 × ts) := (if (gI s 1102 0) = ((0 : Int32)) then some ((-1 : Int32), s) else (if l1 < ((0 : Int32)) then some ((-1 : Int32), s) else (if (gI s 1119 0) ≤ l1 then some ((-1 : Int32), s) else (if (gI s 1155 0) = ((300 : Int32)) then some ((-1 : Int32), s) else (if (gI s 1159 0) = ((-2 : Int32)) then (cR_fresh l1 (gI s 1152 0) s).bind (fun x3 => cR_start_54 tm_N l1 l2 l3 l4 l5 x3.1 ((0 : Int32)) x3.2) else some ((-1 : Int32), s))))))
set_option maxRecDepth 20000 in
theorem cR_start_ok {d : Nat} (l1 : Int32) (l2 : Int32) (l3 : Int32) (l4 : Int32) (l5 : Int32) (s : ts) (Q : Int32 × ts → Prop) (h : Ok (cR_start l1 l2 l3 l4 l5 s) Q) : am_Ev (d + 2) 219 (0, [(0, .ref 87), (1, .int (l1)), (2, .int (l2)), (3, .int (l3)), (4, .int (l4)), (5, .int (l5))], []) (lay s) (tq_i Q) := by
  unfold cR_start at h
  refine ev_aload_n (pc' := 1) m_219 rfl rfl rfl (tr_get (pc' := 4) (v := .int (gI _ 1102 _)) m_219 rfl rfl ts_o87 rfl rfl rfl ?_)
  refine ev_if_eq (t := 38) (e := 7) m_219 rfl rfl rfl (fun c8 => ?_) (fun c8 => ?_)
  · replace h := Ok_t c8 h
    refine ev_iconst (pc' := 39) (x := -1) m_219 rfl rfl rfl ?_
    exact tr_ri m_219 rfl rfl (Ok_s h)
  · replace h := Ok_f c8 h
    refine ev_iload_n (pc' := 8) m_219 rfl rfl rfl ?_
    refine ev_if_lt (t := 38) (e := 11) m_219 rfl rfl rfl (fun c7 => ?_) (fun c7 => ?_)
    · replace h := Ok_t c7 h
      refine ev_iconst (pc' := 39) (x := -1) m_219 rfl rfl rfl ?_
      exact tr_ri m_219 rfl rfl (Ok_s h)
    · replace h := Ok_f c7 h
      refine ev_iload_n (pc' := 12) m_219 rfl rfl rfl (ev_aload_n (pc' := 13) m_219 rfl rfl rfl (tr_get (pc' := 16) (v := .int (gI _ 1119 _)) m_219 rfl rfl ts_o87 rfl rfl rfl ?_))
      refine ev_icmp_ge (t := 38) (e := 19) m_219 rfl rfl rfl (fun c6 => ?_) (fun c6 => ?_)
      · replace h := Ok_t c6 h
        refine ev_iconst (pc' := 39) (x := -1) m_219 rfl rfl rfl ?_
        exact tr_ri m_219 rfl rfl (Ok_s h)
      · replace h := Ok_f c6 h
        refine ev_aload_n (pc' := 20) m_219 rfl rfl rfl (tr_get (pc' := 23) (v := .int (gI _ 1155 _)) m_219 rfl rfl ts_o87 rfl rfl rfl (ev_sipush (pc' := 26) (x := 300) m_219 rfl rfl rfl ?_))
        refine ev_icmp_eq (t := 38) (e := 29) m_219 rfl rfl rfl (fun c5 => ?_) (fun c5 => ?_)
        · replace h := Ok_t c5 h
          refine ev_iconst (pc' := 39) (x := -1) m_219 rfl rfl rfl ?_
          exact tr_ri m_219 rfl rfl (Ok_s h)
        · replace h := Ok_f c5 h
          refine ev_aload_n (pc' := 30) m_219 rfl rfl rfl (tr_get (pc' := 33) (v := .int (gI _ 1159 _)) m_219 rfl rfl ts_o87 rfl rfl rfl (ev_bipush (pc' := 35) (x := -2) m_219 rfl rfl rfl ?_))
          refine ev_icmp_eq (t := 40) (e := 38) m_219 rfl rfl rfl (fun c4 => ?_) (fun c4 => ?_)
          · replace h := Ok_t c4 h
            refine ev_aload_n (pc' := 41) m_219 rfl rfl rfl (ev_iload_n (pc' := 42) m_219 rfl rfl rfl (ev_aload_n (pc' := 43) m_219 rfl rfl rfl (tr_get (pc' := 46) (v := .int (gI _ 1152 _)) m_219 rfl rfl ts_o87 rfl rfl rfl ?_)))
            refine tr_ci (pc' := 49) m_219 rfl rfl rfl m_220 rfl rfl rfl rfl (tr_rcv ts_o87 rfl) rfl rfl (cR_fresh_ok l1 (gI s 1152 0) _ _ (Ok_b h)) (fun x3_ x3_s h => ?_)
            refine ev_istore (pc' := 51) m_219 rfl rfl rfl rfl (ev_iconst (pc' := 52) (x := 0) m_219 rfl rfl rfl (ev_istore (pc' := 54) m_219 rfl rfl rfl rfl ?_))
            exact am_Ev.sub (L := [(0, .ref 87), (1, .int (l1)), (2, .int (l2)), (3, .int (l3)), (4, .int (l4)), (5, .int (l5)), (6, .int (x3_)), (7, .int ((0 : Int32)))]) ⟨rfl, rfl, rfl, rfl, rfl, rfl, rfl, rfl, trivial⟩ (cR_start_54_ok tm_N l1 l2 l3 l4 l5 x3_ ((0 : Int32)) _ _ h)
          · replace h := Ok_f c4 h
            refine ev_iconst (pc' := 39) (x := -1) m_219 rfl rfl rfl ?_
            exact tr_ri m_219 rfl rfl (Ok_s h)
def cX_isStepCount (l0 : Int32) (s : ts) : Option (Int32 × ts) := (if l0 < ((1 : Int32)) then some ((0 : Int32), s) else (if ((20000 : Int32)) < l0 then some ((0 : Int32), s) else some ((1 : Int32), s)))
set_option maxRecDepth 20000 in
theorem cX_isStepCount_ok {d : Nat} (l0 : Int32) (s : ts) (Q : Int32 × ts → Prop) (h : Ok (cX_isStepCount l0 s) Q) : am_Ev (d + 0) 106 (0, [(0, .int (l0))], []) (lay s) (tq_i Q) := by
  unfold cX_isStepCount at h
  refine ev_iload_n (pc' := 1) m_106 rfl rfl rfl (ev_iconst (pc' := 2) (x := 1) m_106 rfl rfl rfl ?_)
  refine ev_icmp_lt (t := 16) (e := 5) m_106 rfl rfl rfl (fun c2 => ?_) (fun c2 => ?_)
  · replace h := Ok_t c2 h
    refine ev_iconst (pc' := 17) (x := 0) m_106 rfl rfl rfl ?_
    exact tr_rz m_106 rfl rfl (Or.inl rfl) (Ok_s h)
  · replace h := Ok_f c2 h
    refine ev_iload_n (pc' := 6) m_106 rfl rfl rfl (ev_sipush (pc' := 9) (x := 20000) m_106 rfl rfl rfl ?_)
    refine ev_icmp_gt (t := 16) (e := 12) m_106 rfl rfl rfl (fun c1 => ?_) (fun c1 => ?_)
    · replace h := Ok_t c1 h
      refine ev_iconst (pc' := 17) (x := 0) m_106 rfl rfl rfl ?_
      exact tr_rz m_106 rfl rfl (Or.inl rfl) (Ok_s h)
    · replace h := Ok_f c1 h
      refine ev_iconst (pc' := 13) (x := 1) m_106 rfl rfl rfl (ev_goto (pc' := 17) m_106 rfl rfl ?_)
      exact tr_rz m_106 rfl rfl (Or.inr rfl) (Ok_s h)
def cW_pop (s : ts) : Option (Int32 × ts) := (if (gI s 805 0) ≤ ((0 : Int32)) then some ((0 : Int32), s) else (if (gI s 805 0) ≤ ((128 : Int32)) then (if am_idx (gI (wI s 805 0 ((gI s 805 0) - ((1 : Int32)))) 805 0) 128 = true then some (gA (wI s 805 0 ((gI s 805 0) - ((1 : Int32)))) 38 (gI (wI s 805 0 ((gI s 805 0) - ((1 : Int32)))) 805 0).toNatClampNeg, wI s 805 0 ((gI s 805 0) - ((1 : Int32)))) else none) else some ((0 : Int32), s)))
set_option maxRecDepth 20000 in
theorem cW_pop_ok {d : Nat} (s : ts) (Q : Int32 × ts → Prop) (h : Ok (cW_pop s) Q) : am_Ev (d + 0) 111 (0, [(0, .ref 35)], []) (lay s) (tq_i Q) := by
  unfold cW_pop at h
  refine ev_aload_n (pc' := 1) m_111 rfl rfl rfl (tr_get (pc' := 4) (v := .int (gI _ 805 _)) m_111 rfl rfl ts_o35 rfl rfl rfl ?_)
  refine ev_if_le (t := 17) (e := 7) m_111 rfl rfl rfl (fun c3 => ?_) (fun c3 => ?_)
  · replace h := Ok_t c3 h
    refine ev_iconst (pc' := 18) (x := 0) m_111 rfl rfl rfl ?_
    exact tr_ri m_111 rfl rfl (Ok_s h)
  · replace h := Ok_f c3 h
    refine ev_aload_n (pc' := 8) m_111 rfl rfl rfl (tr_get (pc' := 11) (v := .int (gI _ 805 _)) m_111 rfl rfl ts_o35 rfl rfl rfl (ev_sipush (pc' := 14) (x := 128) m_111 rfl rfl rfl ?_))
    refine ev_icmp_le (t := 19) (e := 17) m_111 rfl rfl rfl (fun c2 => ?_) (fun c2 => ?_)
    · replace h := Ok_t c2 h
      refine ev_aload_n (pc' := 20) m_111 rfl rfl rfl (ev_dup (pc' := 21) m_111 rfl rfl rfl (tr_get (pc' := 24) (v := .int (gI _ 805 _)) m_111 rfl rfl ts_o35 rfl rfl rfl (ev_iconst (pc' := 25) (x := 1) m_111 rfl rfl rfl (ev_isub (pc' := 26) m_111 rfl rfl (tr_pI (pc' := 29) (f := 805) m_111 rfl rfl rfl ts_o35 rfl rfl rfl rfl (ev_aload_n (pc' := 30) m_111 rfl rfl rfl (tr_get (pc' := 33) (v := .ref 38) m_111 rfl rfl ts_o35 rfl rfl rfl ?_)))))))
      refine ev_aload_n (pc' := 34) m_111 rfl rfl rfl (tr_get (pc' := 37) (v := .int (gI _ 805 _)) m_111 rfl rfl ts_o35 rfl rfl rfl ?_)
      obtain ⟨g1, h⟩ := Ok_g h
      refine tr_iald (pc' := 38) m_111 rfl rfl rfl g1 rfl ?_
      exact tr_ri m_111 rfl rfl (Ok_s h)
    · replace h := Ok_f c2 h
      refine ev_iconst (pc' := 18) (x := 0) m_111 rfl rfl rfl ?_
      exact tr_ri m_111 rfl rfl (Ok_s h)
def cW_truth (l0 : Int32) (s : ts) : Option (Int32 × ts) := (if l0 = ((0 : Int32)) then some ((0 : Int32), s) else some ((1 : Int32), s))
set_option maxRecDepth 20000 in
theorem cW_truth_ok {d : Nat} (l0 : Int32) (s : ts) (Q : Int32 × ts → Prop) (h : Ok (cW_truth l0 s) Q) : am_Ev (d + 0) 112 (0, [(0, .int (l0))], []) (lay s) (tq_i Q) := by
  unfold cW_truth at h
  refine ev_iload_n (pc' := 1) m_112 rfl rfl rfl ?_
  refine ev_if_eq (t := 8) (e := 4) m_112 rfl rfl rfl (fun c1 => ?_) (fun c1 => ?_)
  · replace h := Ok_t c1 h
    refine ev_iconst (pc' := 9) (x := 0) m_112 rfl rfl rfl ?_
    exact tr_ri m_112 rfl rfl (Ok_s h)
  · replace h := Ok_f c1 h
    refine ev_iconst (pc' := 5) (x := 1) m_112 rfl rfl rfl (ev_goto (pc' := 9) m_112 rfl rfl ?_)
    exact tr_ri m_112 rfl rfl (Ok_s h)
def cW_push (l1 : Int32) (s : ts) : Option (ts) := (if (gI s 805 0) < ((0 : Int32)) then some s else (if ((128 : Int32)) ≤ (gI s 805 0) then some s else (if am_idx (gI s 805 0) 128 = true then some (wI (wA s 38 (gI s 805 0).toNatClampNeg l1) 805 0 ((gI (wA s 38 (gI s 805 0).toNatClampNeg l1) 805 0) + ((1 : Int32)))) else none)))
set_option maxRecDepth 20000 in
theorem cW_push_ok {d : Nat} (l1 : Int32) (s : ts) (Q : ts → Prop) (h : Ok (cW_push l1 s) Q) : am_Ev (d + 0) 113 (0, [(0, .ref 35), (1, .int (l1))], []) (lay s) (tq_v Q) := by
  unfold cW_push at h
  refine ev_aload_n (pc' := 1) m_113 rfl rfl rfl (tr_get (pc' := 4) (v := .int (gI _ 805 _)) m_113 rfl rfl ts_o35 rfl rfl rfl ?_)
  refine ev_if_lt (t := 37) (e := 7) m_113 rfl rfl rfl (fun c3 => ?_) (fun c3 => ?_)
  · replace h := Ok_t c3 h
    exact tr_rv m_113 rfl rfl (Ok_s h)
  · replace h := Ok_f c3 h
    refine ev_aload_n (pc' := 8) m_113 rfl rfl rfl (tr_get (pc' := 11) (v := .int (gI _ 805 _)) m_113 rfl rfl ts_o35 rfl rfl rfl (ev_sipush (pc' := 14) (x := 128) m_113 rfl rfl rfl ?_))
    refine ev_icmp_ge (t := 37) (e := 17) m_113 rfl rfl rfl (fun c2 => ?_) (fun c2 => ?_)
    · replace h := Ok_t c2 h
      exact tr_rv m_113 rfl rfl (Ok_s h)
    · replace h := Ok_f c2 h
      refine ev_aload_n (pc' := 18) m_113 rfl rfl rfl (tr_get (pc' := 21) (v := .ref 38) m_113 rfl rfl ts_o35 rfl rfl rfl (ev_aload_n (pc' := 22) m_113 rfl rfl rfl (tr_get (pc' := 25) (v := .int (gI _ 805 _)) m_113 rfl rfl ts_o35 rfl rfl rfl (ev_iload_n (pc' := 26) m_113 rfl rfl rfl ?_))))
      obtain ⟨g1, h⟩ := Ok_g h
      refine tr_iast (pc' := 27) m_113 rfl rfl rfl g1 rfl (ev_aload_n (pc' := 28) m_113 rfl rfl rfl (ev_dup (pc' := 29) m_113 rfl rfl rfl (tr_get (pc' := 32) (v := .int (gI _ 805 _)) m_113 rfl rfl ts_o35 rfl rfl rfl (ev_iconst (pc' := 33) (x := 1) m_113 rfl rfl rfl (ev_iadd (pc' := 34) m_113 rfl rfl (tr_pI (pc' := 37) (f := 805) m_113 rfl rfl rfl ts_o35 rfl rfl rfl rfl ?_))))))
      exact tr_rv m_113 rfl rfl (Ok_s h)
def cW_skips_34 (l2 : Int32) (t0 : Int32) (s : ts) : Option (Int32 × ts) := (if t0 = ((0 : Int32)) then (if t0 = 0 ∨ t0 = 1 then some (t0, s) else none) else (cW_truth l2 s).bind (fun x4 => (cW_push x4.1 x4.2).bind (fun s6 => (if t0 = 0 ∨ t0 = 1 then some (t0, s6) else none))))
set_option maxRecDepth 20000 in
theorem cW_skips_34_ok {d : Nat} (l2 : Int32) (t0 : Int32) (s : ts) (Q : Int32 × ts → Prop) (h : Ok (cW_skips_34 l2 t0 s) Q) : am_Ev (d + 1) 110 (34, [(0, .ref 35), (2, .int (l2))], [.int (t0)]) (lay s) (tq_i Q) := by
  unfold cW_skips_34 at h
  refine ev_istore_n (pc' := 35) m_110 rfl rfl rfl rfl (ev_iload_n (pc' := 36) m_110 rfl rfl rfl ?_)
  refine ev_if_eq (t := 47) (e := 39) m_110 rfl rfl rfl (fun c9 => ?_) (fun c9 => ?_)
  · replace h := Ok_t c9 h
    refine ev_iload_n (pc' := 48) m_110 rfl rfl rfl ?_
    obtain ⟨g1, h⟩ := Ok_g h
    exact tr_rz m_110 rfl rfl g1 (Ok_s h)
  · replace h := Ok_f c9 h
    refine ev_aload_n (pc' := 40) m_110 rfl rfl rfl (ev_iload_n (pc' := 41) m_110 rfl rfl rfl ?_)
    refine tr_ci (pc' := 44) m_110 rfl rfl rfl m_112 rfl rfl rfl rfl rfl rfl rfl (cW_truth_ok l2 _ _ (Ok_b h)) (fun x4_ x4_s h => ?_)
    refine tr_cv (pc' := 47) m_110 rfl rfl rfl m_113 rfl rfl rfl rfl (tr_rcv ts_o35 rfl) rfl rfl (cW_push_ok x4_ _ _ (Ok_b h)) (fun s6 h => ?_)
    refine ev_iload_n (pc' := 48) m_110 rfl rfl rfl ?_
    obtain ⟨g8, h⟩ := Ok_g h
    exact tr_rz m_110 rfl rfl g8 (Ok_s h)
def cW_skips_26 (l2 : Int32) (t0 : Int32) (t1 : Int32) (s : ts) : Option (Int32 × ts) := (if t0 = t1 then cW_skips_34 l2 ((1 : Int32)) s else cW_skips_34 l2 ((0 : Int32)) s)
set_option maxRecDepth 20000 in
theorem cW_skips_26_ok {d : Nat} (l2 : Int32) (t0 : Int32) (t1 : Int32) (s : ts) (Q : Int32 × ts → Prop) (h : Ok (cW_skips_26 l2 t0 t1 s) Q) : am_Ev (d + 1) 110 (26, [(0, .ref 35), (2, .int (l2))], [.int (t1), .int (t0)]) (lay s) (tq_i Q) := by
  unfold cW_skips_26 at h
  refine ev_icmp_ne (t := 33) (e := 29) m_110 rfl rfl rfl (fun c1 => ?_) (fun c1 => ?_)
  · replace h := Ok_f c1 h
    refine ev_iconst (pc' := 34) (x := 0) m_110 rfl rfl rfl ?_
    exact am_Ev.sub (L := [(0, .ref 35), (2, .int (l2))]) ⟨rfl, rfl, trivial⟩ (cW_skips_34_ok l2 ((0 : Int32)) _ _ h)
  · replace h := Ok_t c1 h
    refine ev_iconst (pc' := 30) (x := 1) m_110 rfl rfl rfl (ev_goto (pc' := 34) m_110 rfl rfl ?_)
    exact am_Ev.sub (L := [(0, .ref 35), (2, .int (l2))]) ⟨rfl, rfl, trivial⟩ (cW_skips_34_ok l2 ((1 : Int32)) _ _ h)
def cW_skips_12 (l1 : Int32) (t0 : Int32) (s : ts) : Option (Int32 × ts) := (if l1 = ((380 : Int32)) then cW_skips_26 t0 t0 ((1 : Int32)) s else cW_skips_26 t0 t0 ((0 : Int32)) s)
set_option maxRecDepth 20000 in
theorem cW_skips_12_ok {d : Nat} (l1 : Int32) (t0 : Int32) (s : ts) (Q : Int32 × ts → Prop) (h : Ok (cW_skips_12 l1 t0 s) Q) : am_Ev (d + 1) 110 (12, [(0, .ref 35), (1, .int (l1))], [.int (t0)]) (lay s) (tq_i Q) := by
  unfold cW_skips_12 at h
  refine ev_istore_n (pc' := 13) m_110 rfl rfl rfl rfl (ev_iload_n (pc' := 14) m_110 rfl rfl rfl (ev_iload_n (pc' := 15) m_110 rfl rfl rfl (ev_sipush (pc' := 18) (x := 380) m_110 rfl rfl rfl ?_)))
  refine ev_icmp_ne (t := 25) (e := 21) m_110 rfl rfl rfl (fun c1 => ?_) (fun c1 => ?_)
  · replace h := Ok_f c1 h
    refine ev_iconst (pc' := 26) (x := 0) m_110 rfl rfl rfl ?_
    exact am_Ev.sub (L := [(0, .ref 35), (2, .int (t0))]) ⟨rfl, rfl, trivial⟩ (cW_skips_26_ok t0 t0 ((0 : Int32)) _ _ h)
  · replace h := Ok_t c1 h
    refine ev_iconst (pc' := 22) (x := 1) m_110 rfl rfl rfl (ev_goto (pc' := 26) m_110 rfl rfl ?_)
    exact am_Ev.sub (L := [(0, .ref 35), (2, .int (t0))]) ⟨rfl, rfl, trivial⟩ (cW_skips_26_ok t0 t0 ((1 : Int32)) _ _ h)
def cW_skips (l1 : Int32) (s : ts) : Option (Int32 × ts) := (cW_pop s).bind (fun x3 => (if x3.1 = ((0 : Int32)) then cW_skips_12 l1 ((0 : Int32)) x3.2 else cW_skips_12 l1 ((1 : Int32)) x3.2))
set_option maxRecDepth 20000 in
theorem cW_skips_ok {d : Nat} (l1 : Int32) (s : ts) (Q : Int32 × ts → Prop) (h : Ok (cW_skips l1 s) Q) : am_Ev (d + 1) 110 (0, [(0, .ref 35), (1, .int (l1))], []) (lay s) (tq_i Q) := by
  unfold cW_skips at h
  refine ev_aload_n (pc' := 1) m_110 rfl rfl rfl ?_
  refine tr_ci (pc' := 4) m_110 rfl rfl rfl m_111 rfl rfl rfl rfl (tr_rcv ts_o35 rfl) rfl rfl (cW_pop_ok _ _ (Ok_b h)) (fun x3_ x3_s h => ?_)
  refine ev_if_eq (t := 11) (e := 7) m_110 rfl rfl rfl (fun c4 => ?_) (fun c4 => ?_)
  · replace h := Ok_t c4 h
    refine ev_iconst (pc' := 12) (x := 0) m_110 rfl rfl rfl ?_
    exact am_Ev.sub (L := [(0, .ref 35), (1, .int (l1))]) ⟨rfl, rfl, trivial⟩ (cW_skips_12_ok l1 ((0 : Int32)) _ _ h)
  · replace h := Ok_f c4 h
    refine ev_iconst (pc' := 8) (x := 1) m_110 rfl rfl rfl (ev_goto (pc' := 12) m_110 rfl rfl ?_)
    exact am_Ev.sub (L := [(0, .ref 35), (1, .int (l1))]) ⟨rfl, rfl, trivial⟩ (cW_skips_12_ok l1 ((1 : Int32)) _ _ h)
def cW_numberAt (l1 : Int32) (s : ts) : Option (Int32 × ts) := (if l1 < ((0 : Int32)) then some ((-2000000000 : Int32), s) else (if ((16 : Int32)) ≤ l1 then some ((-2000000000 : Int32), s) else (if am_idx l1 16 = true then some (gA s 36 l1.toNatClampNeg, s) else none)))
set_option maxRecDepth 20000 in
theorem cW_numberAt_ok {d : Nat} (l1 : Int32) (s : ts) (Q : Int32 × ts → Prop) (h : Ok (cW_numberAt l1 s) Q) : am_Ev (d + 0) 116 (0, [(0, .ref 35), (1, .int (l1))], []) (lay s) (tq_i Q) := by
  unfold cW_numberAt at h
  refine ev_iload_n (pc' := 1) m_116 rfl rfl rfl ?_
  refine ev_if_lt (t := 19) (e := 4) m_116 rfl rfl rfl (fun c3 => ?_) (fun c3 => ?_)
  · replace h := Ok_t c3 h
    refine tr_ldc (pc' := 21) m_116 rfl rfl rfl ?_
    exact tr_ri m_116 rfl rfl (Ok_s h)
  · replace h := Ok_f c3 h
    refine ev_iload_n (pc' := 5) m_116 rfl rfl rfl (ev_bipush (pc' := 7) (x := 16) m_116 rfl rfl rfl ?_)
    refine ev_icmp_ge (t := 19) (e := 10) m_116 rfl rfl rfl (fun c2 => ?_) (fun c2 => ?_)
    · replace h := Ok_t c2 h
      refine tr_ldc (pc' := 21) m_116 rfl rfl rfl ?_
      exact tr_ri m_116 rfl rfl (Ok_s h)
    · replace h := Ok_f c2 h
      refine ev_aload_n (pc' := 11) m_116 rfl rfl rfl (tr_get (pc' := 14) (v := .ref 36) m_116 rfl rfl ts_o35 rfl rfl rfl (ev_iload_n (pc' := 15) m_116 rfl rfl rfl ?_))
      obtain ⟨g1, h⟩ := Ok_g h
      refine tr_iald (pc' := 16) m_116 rfl rfl rfl g1 rfl (ev_goto (pc' := 21) m_116 rfl rfl ?_)
      exact tr_ri m_116 rfl rfl (Ok_s h)
def cW_valueOf_17 (l2 : Int32) (s : ts) : Option (Int32 × ts) := (cW_numberAt (l2 - ((8 : Int32))) s).bind (fun x3 => some (x3.1, x3.2))
set_option maxRecDepth 20000 in
theorem cW_valueOf_17_ok {d : Nat} (l2 : Int32) (s : ts) (Q : Int32 × ts → Prop) (h : Ok (cW_valueOf_17 l2 s) Q) : am_Ev (d + 1) 115 (17, [(0, .ref 35), (2, .int (l2))], []) (lay s) (tq_i Q) := by
  unfold cW_valueOf_17 at h
  refine ev_aload_n (pc' := 18) m_115 rfl rfl rfl (ev_iload_n (pc' := 19) m_115 rfl rfl rfl (ev_bipush (pc' := 21) (x := 8) m_115 rfl rfl rfl (ev_isub (pc' := 22) m_115 rfl rfl ?_)))
  refine tr_ci (pc' := 25) m_115 rfl rfl rfl m_116 rfl rfl rfl rfl (tr_rcv ts_o35 rfl) rfl rfl (cW_numberAt_ok (l2 - ((8 : Int32))) _ _ (Ok_b h)) (fun x3_ x3_s h => ?_)
  exact tr_ri m_115 rfl rfl (Ok_s h)
def cW_valueOf (l1 : Nat) (l2 : Int32) (s : ts) : Option (Int32 × ts) := (if l2 < ((0 : Int32)) then cW_valueOf_17 l2 s else (if ((8 : Int32)) ≤ l2 then cW_valueOf_17 l2 s else (if l1 < gM s then (if am_idx l2 8 = true then some (gV s l1 l2.toNatClampNeg, s) else none) else none)))
set_option maxRecDepth 20000 in
theorem cW_valueOf_ok {d : Nat} (l1 : Nat) (l2 : Int32) (s : ts) (Q : Int32 × ts → Prop) (h : Ok (cW_valueOf l1 l2 s) Q) : am_Ev (d + 1) 115 (0, [(0, .ref 35), (1, .ref (pB l1)), (2, .int (l2))], []) (lay s) (tq_i Q) := by
  unfold cW_valueOf at h
  refine ev_iload_n (pc' := 1) m_115 rfl rfl rfl ?_
  refine ev_if_lt (t := 17) (e := 4) m_115 rfl rfl rfl (fun c4 => ?_) (fun c4 => ?_)
  · replace h := Ok_t c4 h
    exact am_Ev.sub (L := [(0, .ref 35), (2, .int (l2))]) ⟨rfl, rfl, trivial⟩ (cW_valueOf_17_ok l2 _ _ h)
  · replace h := Ok_f c4 h
    refine ev_iload_n (pc' := 5) m_115 rfl rfl rfl (ev_bipush (pc' := 7) (x := 8) m_115 rfl rfl rfl ?_)
    refine ev_icmp_ge (t := 17) (e := 10) m_115 rfl rfl rfl (fun c3 => ?_) (fun c3 => ?_)
    · replace h := Ok_t c3 h
      exact am_Ev.sub (L := [(0, .ref 35), (2, .int (l2))]) ⟨rfl, rfl, trivial⟩ (cW_valueOf_17_ok l2 _ _ h)
    · replace h := Ok_f c3 h
      refine ev_aload_n (pc' := 11) m_115 rfl rfl rfl ?_
      obtain ⟨g1, h⟩ := Ok_g h
      refine tr_get (pc' := 14) (v := .ref (pV l1)) m_115 rfl rfl (ts_obB g1) rfl rfl rfl (ev_iload_n (pc' := 15) m_115 rfl rfl rfl ?_)
      obtain ⟨g2, h⟩ := Ok_g h
      refine tr_vald (pc' := 16) m_115 rfl g1 g2 rfl ?_
      exact tr_ri m_115 rfl rfl (Ok_s h)
def cW_placeAt (l1 : Int32) (s : ts) : Option (Option Nat × ts) := (if l1 < ((0 : Int32)) then some (none, s) else (if ((14 : Int32)) ≤ l1 then some (none, s) else (if am_idx l1 14 = true then some (some l1.toNatClampNeg, s) else none)))
set_option maxRecDepth 20000 in
theorem cW_placeAt_ok {d : Nat} (l1 : Int32) (s : ts) (Q : Option Nat × ts → Prop) (h : Ok (cW_placeAt l1 s) Q) : am_Ev (d + 0) 118 (0, [(0, .ref 35), (1, .int (l1))], []) (lay s) (tq_r pQ Q) := by
  unfold cW_placeAt at h
  refine ev_iload_n (pc' := 1) m_118 rfl rfl rfl ?_
  refine ev_if_lt (t := 19) (e := 4) m_118 rfl rfl rfl (fun c3 => ?_) (fun c3 => ?_)
  · replace h := Ok_t c3 h
    refine ev_null (pc' := 20) m_118 rfl rfl ?_
    exact tr_rn m_118 rfl rfl (Ok_s h)
  · replace h := Ok_f c3 h
    refine ev_iload_n (pc' := 5) m_118 rfl rfl rfl (ev_bipush (pc' := 7) (x := 14) m_118 rfl rfl rfl ?_)
    refine ev_icmp_ge (t := 19) (e := 10) m_118 rfl rfl rfl (fun c2 => ?_) (fun c2 => ?_)
    · replace h := Ok_t c2 h
      refine ev_null (pc' := 20) m_118 rfl rfl ?_
      exact tr_rn m_118 rfl rfl (Ok_s h)
    · replace h := Ok_f c2 h
      refine ev_aload_n (pc' := 11) m_118 rfl rfl rfl (tr_get (pc' := 14) (v := .ref 37) m_118 rfl rfl ts_o35 rfl rfl rfl (ev_iload_n (pc' := 15) m_118 rfl rfl rfl ?_))
      obtain ⟨g1, h⟩ := Ok_g h
      refine tr_qald (pc' := 16) m_118 rfl g1 rfl (ev_goto (pc' := 20) m_118 rfl rfl ?_)
      exact tr_rr m_118 rfl rfl (Ok_s h)
def cK_waiting (l0 : Nat) (s : ts) : Option (Int32 × ts) := (if l0 < 14 then some ((gI s 601 (2 * l0)) + (gI s 601 (2 * l0 + 1)), s) else none)
set_option maxRecDepth 20000 in
theorem cK_waiting_ok {d : Nat} (l0 : Nat) (s : ts) (Q : Int32 × ts → Prop) (h : Ok (cK_waiting l0 s) Q) : am_Ev (d + 0) 119 (0, [(0, .ref (pQ l0))], []) (lay s) (tq_i Q) := by
  unfold cK_waiting at h
  refine ev_aload_n (pc' := 1) m_119 rfl rfl rfl ?_
  obtain ⟨g1, h⟩ := Ok_g h
  refine tr_get (pc' := 4) (v := .ref (pL (2 * l0))) m_119 rfl rfl (ts_obQ g1) rfl rfl rfl (tr_get (pc' := 7) (v := .int (gI _ 601 _)) m_119 rfl rfl (ts_obL (by have := g1; omega)) rfl rfl rfl (ev_aload_n (pc' := 8) m_119 rfl rfl rfl (tr_get (pc' := 11) (v := .ref (pL (2 * l0 + 1))) m_119 rfl rfl (ts_obQ g1) rfl rfl rfl (tr_get (pc' := 14) (v := .int (gI _ 601 _)) m_119 rfl rfl (ts_obL (by have := g1; omega)) rfl rfl rfl (ev_iadd (pc' := 15) m_119 rfl rfl ?_)))))
  exact tr_ri m_119 rfl rfl (Ok_s h)
def cW_look (l1 : Int32) (l2 : Int32) (s : ts) : Option (Int32 × ts) := (cW_placeAt l2 s).bind (fun x3 => match x3.1 with
  | none => some ((0 : Int32), x3.2)
  | some q4 => (if l1 = ((534 : Int32)) then (if q4 < 14 then some (gI x3.2 703 q4, x3.2) else none) else (if q4 < 14 then (cK_waiting q4 x3.2).bind (fun x8 => some (x8.1, x8.2)) else none)))
set_option maxRecDepth 20000 in
theorem cW_look_ok {d : Nat} (l1 : Int32) (l2 : Int32) (s : ts) (Q : Int32 × ts → Prop) (h : Ok (cW_look l1 l2 s) Q) : am_Ev (d + 1) 117 (0, [(0, .ref 35), (1, .int (l1)), (2, .int (l2))], []) (lay s) (tq_i Q) := by
  unfold cW_look at h
  refine ev_aload_n (pc' := 1) m_117 rfl rfl rfl (ev_iload_n (pc' := 2) m_117 rfl rfl rfl ?_)
  refine tr_cr (pc' := 5) m_117 rfl rfl rfl m_118 rfl rfl rfl rfl (tr_rcv ts_o35 rfl) rfl rfl (cW_placeAt_ok l2 _ _ (Ok_b h)) (fun x3_s h => ?_) (fun q4 x3_s h => ?_)
  · dsimp only at h
    refine ev_astore_nN (pc' := 6) m_117 rfl rfl rfl rfl (ev_aload_nN (pc' := 7) m_117 rfl rfl rfl (ev_nnlN (e := 10) m_117 rfl rfl (ev_iconst (pc' := 11) (x := 0) m_117 rfl rfl rfl ?_)))
    exact tr_ri m_117 rfl rfl (Ok_s h)
  · dsimp only at h
    refine ev_astore_n (pc' := 6) m_117 rfl rfl rfl rfl (ev_aload_n (pc' := 7) m_117 rfl rfl rfl (ev_nnlY (t := 12) m_117 rfl rfl (ev_iload_n (pc' := 13) m_117 rfl rfl rfl (ev_sipush (pc' := 16) (x := 534) m_117 rfl rfl rfl ?_))))
    refine ev_icmp_ne (t := 26) (e := 19) m_117 rfl rfl rfl (fun c10 => ?_) (fun c10 => ?_)
    · replace h := Ok_f c10 h
      refine ev_aload_n (pc' := 27) m_117 rfl rfl rfl ?_
      obtain ⟨g5, h⟩ := Ok_g h
      refine tr_ci (pc' := 30) m_117 rfl rfl rfl m_119 rfl rfl rfl rfl (tr_rcv (ts_obQ g5) rfl) rfl rfl (cK_waiting_ok q4 _ _ (Ok_b h)) (fun x8_ x8_s h => ?_)
      exact tr_ri m_117 rfl rfl (Ok_s h)
    · replace h := Ok_t c10 h
      refine ev_aload_n (pc' := 20) m_117 rfl rfl rfl ?_
      obtain ⟨g9, h⟩ := Ok_g h
      refine tr_get (pc' := 23) (v := .int (gI _ 703 _)) m_117 rfl rfl (ts_obQ g9) rfl rfl rfl (ev_goto (pc' := 30) m_117 rfl rfl ?_)
      exact tr_ri m_117 rfl rfl (Ok_s h)
def cW_draw (l1 : Int32) (s : ts) : Option (Int32 × ts) := (if ((1 : Int32)) ≤ l1 then (if ¬ l1 = 0 then (cW_push (((gI (wI s 801 0 ((((((1103515245 : Int64)) * ((gI s 801 0).toInt64)) + ((12345 : Int64))) &&& ((2147483647 : Int64))).toInt32)) 801 0) >>> (((8 : Int32)) &&& 31)) - ((gI (wI s 801 0 ((((((1103515245 : Int64)) * ((gI s 801 0).toInt64)) + ((12345 : Int64))) &&& ((2147483647 : Int64))).toInt32)) 801 0) >>> (((8 : Int32)) &&& 31)) / l1 * l1) (wI s 801 0 ((((((1103515245 : Int64)) * ((gI s 801 0).toInt64)) + ((12345 : Int64))) &&& ((2147483647 : Int64))).toInt32))).bind (fun s3 => some ((0 : Int32), s3)) else none) else some ((6 : Int32), s))
set_option maxRecDepth 20000 in
theorem cW_draw_ok {d : Nat} (l1 : Int32) (s : ts) (Q : Int32 × ts → Prop) (h : Ok (cW_draw l1 s) Q) : am_Ev (d + 1) 120 (0, [(0, .ref 35), (1, .int (l1))], []) (lay s) (tq_i Q) := by
  unfold cW_draw at h
  refine ev_iload_n (pc' := 1) m_120 rfl rfl rfl (ev_iconst (pc' := 2) (x := 1) m_120 rfl rfl rfl ?_)
  refine ev_icmp_ge (t := 8) (e := 5) m_120 rfl rfl rfl (fun c5 => ?_) (fun c5 => ?_)
  · replace h := Ok_t c5 h
    refine ev_aload_n (pc' := 9) m_120 rfl rfl rfl (tr_ldc2 (pc' := 12) m_120 rfl rfl rfl (ev_aload_n (pc' := 13) m_120 rfl rfl rfl (tr_get (pc' := 16) (v := .int (gI _ 801 _)) m_120 rfl rfl ts_o35 rfl rfl rfl (ev_i2l (pc' := 17) m_120 rfl rfl (ev_lmul (pc' := 18) m_120 rfl rfl (tr_ldc2 (pc' := 21) m_120 rfl rfl rfl (ev_ladd (pc' := 22) m_120 rfl rfl ?_)))))))
    refine tr_ldc2 (pc' := 25) m_120 rfl rfl rfl (ev_land (pc' := 26) m_120 rfl rfl (ev_l2i (pc' := 27) m_120 rfl rfl (tr_pI (pc' := 30) (f := 801) m_120 rfl rfl rfl ts_o35 rfl rfl rfl rfl (ev_aload_n (pc' := 31) m_120 rfl rfl rfl (ev_aload_n (pc' := 32) m_120 rfl rfl rfl (tr_get (pc' := 35) (v := .int (gI _ 801 _)) m_120 rfl rfl ts_o35 rfl rfl rfl (ev_bipush (pc' := 37) (x := 8) m_120 rfl rfl rfl ?_)))))))
    refine ev_ishr (pc' := 38) m_120 rfl rfl (ev_iload_n (pc' := 39) m_120 rfl rfl rfl ?_)
    obtain ⟨g1, h⟩ := Ok_g h
    refine ev_irem (pc' := 40) m_120 rfl g1 rfl ?_
    refine tr_cv (pc' := 43) m_120 rfl rfl rfl m_113 rfl rfl rfl rfl (tr_rcv ts_o35 rfl) rfl rfl (cW_push_ok (((gI (wI s 801 0 ((((((1103515245 : Int64)) * ((gI s 801 0).toInt64)) + ((12345 : Int64))) &&& ((2147483647 : Int64))).toInt32)) 801 0) >>> (((8 : Int32)) &&& 31)) - ((gI (wI s 801 0 ((((((1103515245 : Int64)) * ((gI s 801 0).toInt64)) + ((12345 : Int64))) &&& ((2147483647 : Int64))).toInt32)) 801 0) >>> (((8 : Int32)) &&& 31)) / l1 * l1) _ _ (Ok_b h)) (fun s3 h => ?_)
    refine ev_iconst (pc' := 44) (x := 0) m_120 rfl rfl rfl ?_
    exact tr_ri m_120 rfl rfl (Ok_s h)
  · replace h := Ok_f c5 h
    refine ev_bipush (pc' := 7) (x := 6) m_120 rfl rfl rfl ?_
    exact tr_ri m_120 rfl rfl (Ok_s h)
def cW_combine (l0 : Int32) (l1 : Int32) (l2 : Int32) (s : ts) : Option (Int32 × ts) := (if l0 = (43 : Int32) then some (l1 + l2, s) else (if l0 = (45 : Int32) then some (l1 - l2, s) else some (l1 * l2, s)))
set_option maxRecDepth 20000 in
theorem cW_combine_ok {d : Nat} (l0 : Int32) (l1 : Int32) (l2 : Int32) (s : ts) (Q : Int32 × ts → Prop) (h : Ok (cW_combine l0 l1 l2 s) Q) : am_Ev (d + 0) 122 (0, [(0, .int (l0)), (1, .int (l1)), (2, .int (l2))], []) (lay s) (tq_i Q) := by
  unfold cW_combine at h
  refine ev_iload_n (pc' := 1) m_122 rfl rfl rfl ?_
  by_cases c1 : l0 = (43 : Int32)
  · replace h := Ok_t c1 h
    refine ev_sw (pc' := 28) m_122 rfl (by rw [c1]; rfl) ?_
    refine ev_iload_n (pc' := 29) m_122 rfl rfl rfl (ev_iload_n (pc' := 30) m_122 rfl rfl rfl (ev_iadd (pc' := 31) m_122 rfl rfl ?_))
    exact tr_ri m_122 rfl rfl (Ok_s h)
  replace h := Ok_f c1 h
  by_cases c2 : l0 = (45 : Int32)
  · replace h := Ok_t c2 h
    refine ev_sw (pc' := 32) m_122 rfl (by rw [c2]; rfl) ?_
    refine ev_iload_n (pc' := 33) m_122 rfl rfl rfl (ev_iload_n (pc' := 34) m_122 rfl rfl rfl (ev_isub (pc' := 35) m_122 rfl rfl ?_))
    exact tr_ri m_122 rfl rfl (Ok_s h)
  replace h := Ok_f c2 h
  refine ev_sw (pc' := 36) m_122 rfl (by exact ev_ldef rfl (by simp only [Op.lookupswitch.offset, List.find?]; rw [if_neg (ts_nel c1 (by decide)), if_neg (ts_nel c2 (by decide))]) rfl) ?_
  refine ev_iload_n (pc' := 37) m_122 rfl rfl rfl (ev_iload_n (pc' := 38) m_122 rfl rfl rfl (ev_imul (pc' := 39) m_122 rfl rfl ?_))
  exact tr_ri m_122 rfl rfl (Ok_s h)
def cW_holds (l0 : Int32) (l1 : Int32) (l2 : Int32) (s : ts) : Option (Int32 × ts) := (if l0 = (60 : Int32) then (if l2 ≤ l1 then some ((0 : Int32), s) else some ((1 : Int32), s)) else (if l0 = (62 : Int32) then (if l1 ≤ l2 then some ((0 : Int32), s) else some ((1 : Int32), s)) else (if l0 = (316 : Int32) then (if l2 < l1 then some ((0 : Int32), s) else some ((1 : Int32), s)) else (if l0 = (317 : Int32) then (if l1 = l2 then some ((1 : Int32), s) else some ((0 : Int32), s)) else (if l0 = (318 : Int32) then (if l1 < l2 then some ((0 : Int32), s) else some ((1 : Int32), s)) else (if l1 = l2 then some ((0 : Int32), s) else some ((1 : Int32), s)))))))
set_option maxRecDepth 20000 in
theorem cW_holds_ok {d : Nat} (l0 : Int32) (l1 : Int32) (l2 : Int32) (s : ts) (Q : Int32 × ts → Prop) (h : Ok (cW_holds l0 l1 l2 s) Q) : am_Ev (d + 0) 123 (0, [(0, .int (l0)), (1, .int (l1)), (2, .int (l2))], []) (lay s) (tq_i Q) := by
  unfold cW_holds at h
  refine ev_iload_n (pc' := 1) m_123 rfl rfl rfl ?_
  by_cases c2 : l0 = (60 : Int32)
  · replace h := Ok_t c2 h
    refine ev_sw (pc' := 52) m_123 rfl (by rw [c2]; rfl) ?_
    refine ev_iload_n (pc' := 53) m_123 rfl rfl rfl (ev_iload_n (pc' := 54) m_123 rfl rfl rfl ?_)
    refine ev_icmp_ge (t := 61) (e := 57) m_123 rfl rfl rfl (fun c1 => ?_) (fun c1 => ?_)
    · replace h := Ok_t c1 h
      refine ev_iconst (pc' := 62) (x := 0) m_123 rfl rfl rfl ?_
      exact tr_rz m_123 rfl rfl (Or.inl rfl) (Ok_s h)
    · replace h := Ok_f c1 h
      refine ev_iconst (pc' := 58) (x := 1) m_123 rfl rfl rfl (ev_goto (pc' := 62) m_123 rfl rfl ?_)
      exact tr_rz m_123 rfl rfl (Or.inr rfl) (Ok_s h)
  replace h := Ok_f c2 h
  by_cases c4 : l0 = (62 : Int32)
  · replace h := Ok_t c4 h
    refine ev_sw (pc' := 63) m_123 rfl (by rw [c4]; rfl) ?_
    refine ev_iload_n (pc' := 64) m_123 rfl rfl rfl (ev_iload_n (pc' := 65) m_123 rfl rfl rfl ?_)
    refine ev_icmp_le (t := 72) (e := 68) m_123 rfl rfl rfl (fun c3 => ?_) (fun c3 => ?_)
    · replace h := Ok_t c3 h
      refine ev_iconst (pc' := 73) (x := 0) m_123 rfl rfl rfl ?_
      exact tr_rz m_123 rfl rfl (Or.inl rfl) (Ok_s h)
    · replace h := Ok_f c3 h
      refine ev_iconst (pc' := 69) (x := 1) m_123 rfl rfl rfl (ev_goto (pc' := 73) m_123 rfl rfl ?_)
      exact tr_rz m_123 rfl rfl (Or.inr rfl) (Ok_s h)
  replace h := Ok_f c4 h
  by_cases c6 : l0 = (316 : Int32)
  · replace h := Ok_t c6 h
    refine ev_sw (pc' := 74) m_123 rfl (by rw [c6]; rfl) ?_
    refine ev_iload_n (pc' := 75) m_123 rfl rfl rfl (ev_iload_n (pc' := 76) m_123 rfl rfl rfl ?_)
    refine ev_icmp_gt (t := 83) (e := 79) m_123 rfl rfl rfl (fun c5 => ?_) (fun c5 => ?_)
    · replace h := Ok_t c5 h
      refine ev_iconst (pc' := 84) (x := 0) m_123 rfl rfl rfl ?_
      exact tr_rz m_123 rfl rfl (Or.inl rfl) (Ok_s h)
    · replace h := Ok_f c5 h
      refine ev_iconst (pc' := 80) (x := 1) m_123 rfl rfl rfl (ev_goto (pc' := 84) m_123 rfl rfl ?_)
      exact tr_rz m_123 rfl rfl (Or.inr rfl) (Ok_s h)
  replace h := Ok_f c6 h
  by_cases c8 : l0 = (317 : Int32)
  · replace h := Ok_t c8 h
    refine ev_sw (pc' := 96) m_123 rfl (by rw [c8]; rfl) ?_
    refine ev_iload_n (pc' := 97) m_123 rfl rfl rfl (ev_iload_n (pc' := 98) m_123 rfl rfl rfl ?_)
    refine ev_icmp_ne (t := 105) (e := 101) m_123 rfl rfl rfl (fun c7 => ?_) (fun c7 => ?_)
    · replace h := Ok_f c7 h
      refine ev_iconst (pc' := 106) (x := 0) m_123 rfl rfl rfl ?_
      exact tr_rz m_123 rfl rfl (Or.inl rfl) (Ok_s h)
    · replace h := Ok_t c7 h
      refine ev_iconst (pc' := 102) (x := 1) m_123 rfl rfl rfl (ev_goto (pc' := 106) m_123 rfl rfl ?_)
      exact tr_rz m_123 rfl rfl (Or.inr rfl) (Ok_s h)
  replace h := Ok_f c8 h
  by_cases c10 : l0 = (318 : Int32)
  · replace h := Ok_t c10 h
    refine ev_sw (pc' := 85) m_123 rfl (by rw [c10]; rfl) ?_
    refine ev_iload_n (pc' := 86) m_123 rfl rfl rfl (ev_iload_n (pc' := 87) m_123 rfl rfl rfl ?_)
    refine ev_icmp_lt (t := 94) (e := 90) m_123 rfl rfl rfl (fun c9 => ?_) (fun c9 => ?_)
    · replace h := Ok_t c9 h
      refine ev_iconst (pc' := 95) (x := 0) m_123 rfl rfl rfl ?_
      exact tr_rz m_123 rfl rfl (Or.inl rfl) (Ok_s h)
    · replace h := Ok_f c9 h
      refine ev_iconst (pc' := 91) (x := 1) m_123 rfl rfl rfl (ev_goto (pc' := 95) m_123 rfl rfl ?_)
      exact tr_rz m_123 rfl rfl (Or.inr rfl) (Ok_s h)
  replace h := Ok_f c10 h
  refine ev_sw (pc' := 107) m_123 rfl (by exact ev_ldef rfl (by simp only [Op.lookupswitch.offset, List.find?]; rw [if_neg (ts_nel c2 (by decide)), if_neg (ts_nel c4 (by decide)), if_neg (ts_nel c6 (by decide)), if_neg (ts_nel c8 (by decide)), if_neg (ts_nel c10 (by decide))]) rfl) ?_
  refine ev_iload_n (pc' := 108) m_123 rfl rfl rfl (ev_iload_n (pc' := 109) m_123 rfl rfl rfl ?_)
  refine ev_icmp_eq (t := 116) (e := 112) m_123 rfl rfl rfl (fun c11 => ?_) (fun c11 => ?_)
  · replace h := Ok_t c11 h
    refine ev_iconst (pc' := 117) (x := 0) m_123 rfl rfl rfl ?_
    exact tr_rz m_123 rfl rfl (Or.inl rfl) (Ok_s h)
  · replace h := Ok_f c11 h
    refine ev_iconst (pc' := 113) (x := 1) m_123 rfl rfl rfl (ev_goto (pc' := 117) m_123 rfl rfl ?_)
    exact tr_rz m_123 rfl rfl (Or.inr rfl) (Ok_s h)
def cW_applyToTwo_44 (t1 : Int32) (s : ts) : Option (Int32 × ts) := (cW_push t1 s).bind (fun s2 => some ((0 : Int32), s2))
set_option maxRecDepth 20000 in
theorem cW_applyToTwo_44_ok {d : Nat} (t1 : Int32) (s : ts) (Q : Int32 × ts → Prop) (h : Ok (cW_applyToTwo_44 t1 s) Q) : am_Ev (d + 1) 121 (44, [], [.int (t1), .ref 35]) (lay s) (tq_i Q) := by
  unfold cW_applyToTwo_44 at h
  refine tr_cv (pc' := 47) m_121 rfl rfl rfl m_113 rfl rfl rfl rfl (tr_rcv ts_o35 rfl) rfl rfl (cW_push_ok t1 _ _ (Ok_b h)) (fun s2 h => ?_)
  refine ev_iconst (pc' := 48) (x := 0) m_121 rfl rfl rfl ?_
  exact tr_ri m_121 rfl rfl (Ok_s h)
def cW_applyToTwo_22 (l1 : Int32) (l2 : Int32) (l3 : Int32) (s : ts) : Option (Int32 × ts) := (if l2 = ((0 : Int32)) then some ((1 : Int32), s) else (if l1 = ((47 : Int32)) then (if ¬ l2 = 0 then cW_applyToTwo_44 (l3 / l2) s else none) else (if ¬ l2 = 0 then cW_applyToTwo_44 (l3 - l3 / l2 * l2) s else none)))
set_option maxRecDepth 20000 in
theorem cW_applyToTwo_22_ok {d : Nat} (l1 : Int32) (l2 : Int32) (l3 : Int32) (s : ts) (Q : Int32 × ts → Prop) (h : Ok (cW_applyToTwo_22 l1 l2 l3 s) Q) : am_Ev (d + 1) 121 (22, [(0, .ref 35), (1, .int (l1)), (2, .int (l2)), (3, .int (l3))], []) (lay s) (tq_i Q) := by
  unfold cW_applyToTwo_22 at h
  refine ev_iload_n (pc' := 23) m_121 rfl rfl rfl ?_
  refine ev_if_ne (t := 28) (e := 26) m_121 rfl rfl rfl (fun c4 => ?_) (fun c4 => ?_)
  · replace h := Ok_f c4 h
    refine ev_aload_n (pc' := 29) m_121 rfl rfl rfl (ev_iload_n (pc' := 30) m_121 rfl rfl rfl (ev_bipush (pc' := 32) (x := 47) m_121 rfl rfl rfl ?_))
    refine ev_icmp_ne (t := 41) (e := 35) m_121 rfl rfl rfl (fun c3 => ?_) (fun c3 => ?_)
    · replace h := Ok_f c3 h
      refine ev_iload_n (pc' := 42) m_121 rfl rfl rfl (ev_iload_n (pc' := 43) m_121 rfl rfl rfl ?_)
      obtain ⟨g1, h⟩ := Ok_g h
      refine ev_irem (pc' := 44) m_121 rfl g1 rfl ?_
      exact am_Ev.sub (L := []) trivial (cW_applyToTwo_44_ok (l3 - l3 / l2 * l2) _ _ h)
    · replace h := Ok_t c3 h
      refine ev_iload_n (pc' := 36) m_121 rfl rfl rfl (ev_iload_n (pc' := 37) m_121 rfl rfl rfl ?_)
      obtain ⟨g2, h⟩ := Ok_g h
      refine ev_idiv (pc' := 38) m_121 rfl g2 rfl (ev_goto (pc' := 44) m_121 rfl rfl ?_)
      exact am_Ev.sub (L := []) trivial (cW_applyToTwo_44_ok (l3 / l2) _ _ h)
  · replace h := Ok_t c4 h
    refine ev_iconst (pc' := 27) (x := 1) m_121 rfl rfl rfl ?_
    exact tr_ri m_121 rfl rfl (Ok_s h)
def cW_applyToTwo_67 (l1 : Int32) (l2 : Int32) (l3 : Int32) (s : ts) : Option (Int32 × ts) := (cW_combine l1 l3 l2 s).bind (fun x3 => (cW_push x3.1 x3.2).bind (fun s5 => some ((0 : Int32), s5)))
set_option maxRecDepth 20000 in
theorem cW_applyToTwo_67_ok {d : Nat} (l1 : Int32) (l2 : Int32) (l3 : Int32) (s : ts) (Q : Int32 × ts → Prop) (h : Ok (cW_applyToTwo_67 l1 l2 l3 s) Q) : am_Ev (d + 1) 121 (67, [(0, .ref 35), (1, .int (l1)), (2, .int (l2)), (3, .int (l3))], []) (lay s) (tq_i Q) := by
  unfold cW_applyToTwo_67 at h
  refine ev_aload_n (pc' := 68) m_121 rfl rfl rfl (ev_iload_n (pc' := 69) m_121 rfl rfl rfl (ev_iload_n (pc' := 70) m_121 rfl rfl rfl (ev_iload_n (pc' := 71) m_121 rfl rfl rfl ?_)))
  refine tr_ci (pc' := 74) m_121 rfl rfl rfl m_122 rfl rfl rfl rfl rfl rfl rfl (cW_combine_ok l1 l3 l2 _ _ (Ok_b h)) (fun x3_ x3_s h => ?_)
  refine tr_cv (pc' := 77) m_121 rfl rfl rfl m_113 rfl rfl rfl rfl (tr_rcv ts_o35 rfl) rfl rfl (cW_push_ok x3_ _ _ (Ok_b h)) (fun s5 h => ?_)
  refine ev_goto (pc' := 93) m_121 rfl rfl (ev_iconst (pc' := 94) (x := 0) m_121 rfl rfl rfl ?_)
  exact tr_ri m_121 rfl rfl (Ok_s h)
def cW_applyToTwo (l1 : Int32) (s : ts) : Option (Int32 × ts) := (cW_pop s).bind (fun x3 => (cW_pop x3.2).bind (fun x6 => (if l1 = ((47 : Int32)) then cW_applyToTwo_22 l1 x3.1 x6.1 x6.2 else (if l1 = ((37 : Int32)) then cW_applyToTwo_22 l1 x3.1 x6.1 x6.2 else (if l1 = ((43 : Int32)) then cW_applyToTwo_67 l1 x3.1 x6.1 x6.2 else (if l1 = ((45 : Int32)) then cW_applyToTwo_67 l1 x3.1 x6.1 x6.2 else (if l1 = ((42 : Int32)) then cW_applyToTwo_67 l1 x3.1 x6.1 x6.2 else (cW_holds l1 x6.1 x3.1 x6.2).bind (fun x9 => (cW_truth x9.1 x9.2).bind (fun x12 => (cW_push x12.1 x12.2).bind (fun s14 => some ((0 : Int32), s14)))))))))))
set_option maxRecDepth 20000 in
theorem cW_applyToTwo_ok {d : Nat} (l1 : Int32) (s : ts) (Q : Int32 × ts → Prop) (h : Ok (cW_applyToTwo l1 s) Q) : am_Ev (d + 1) 121 (0, [(0, .ref 35), (1, .int (l1))], []) (lay s) (tq_i Q) := by
  unfold cW_applyToTwo at h
  refine ev_aload_n (pc' := 1) m_121 rfl rfl rfl ?_
  refine tr_ci (pc' := 4) m_121 rfl rfl rfl m_111 rfl rfl rfl rfl (tr_rcv ts_o35 rfl) rfl rfl (cW_pop_ok _ _ (Ok_b h)) (fun x3_ x3_s h => ?_)
  refine ev_istore_n (pc' := 5) m_121 rfl rfl rfl rfl (ev_aload_n (pc' := 6) m_121 rfl rfl rfl ?_)
  refine tr_ci (pc' := 9) m_121 rfl rfl rfl m_111 rfl rfl rfl rfl (tr_rcv ts_o35 rfl) rfl rfl (cW_pop_ok _ _ (Ok_b h)) (fun x6_ x6_s h => ?_)
  refine ev_istore_n (pc' := 10) m_121 rfl rfl rfl rfl (ev_iload_n (pc' := 11) m_121 rfl rfl rfl (ev_bipush (pc' := 13) (x := 47) m_121 rfl rfl rfl ?_))
  refine ev_icmp_eq (t := 22) (e := 16) m_121 rfl rfl rfl (fun c20 => ?_) (fun c20 => ?_)
  · replace h := Ok_t c20 h
    exact am_Ev.sub (L := [(0, .ref 35), (1, .int (l1)), (2, .int (x3_)), (3, .int (x6_))]) ⟨rfl, rfl, rfl, rfl, trivial⟩ (cW_applyToTwo_22_ok l1 x3_ x6_ _ _ h)
  · replace h := Ok_f c20 h
    refine ev_iload_n (pc' := 17) m_121 rfl rfl rfl (ev_bipush (pc' := 19) (x := 37) m_121 rfl rfl rfl ?_)
    refine ev_icmp_ne (t := 49) (e := 22) m_121 rfl rfl rfl (fun c19 => ?_) (fun c19 => ?_)
    · replace h := Ok_f c19 h
      refine ev_iload_n (pc' := 50) m_121 rfl rfl rfl (ev_bipush (pc' := 52) (x := 43) m_121 rfl rfl rfl ?_)
      refine ev_icmp_eq (t := 67) (e := 55) m_121 rfl rfl rfl (fun c18 => ?_) (fun c18 => ?_)
      · replace h := Ok_t c18 h
        exact am_Ev.sub (L := [(0, .ref 35), (1, .int (l1)), (2, .int (x3_)), (3, .int (x6_))]) ⟨rfl, rfl, rfl, rfl, trivial⟩ (cW_applyToTwo_67_ok l1 x3_ x6_ _ _ h)
      · replace h := Ok_f c18 h
        refine ev_iload_n (pc' := 56) m_121 rfl rfl rfl (ev_bipush (pc' := 58) (x := 45) m_121 rfl rfl rfl ?_)
        refine ev_icmp_eq (t := 67) (e := 61) m_121 rfl rfl rfl (fun c17 => ?_) (fun c17 => ?_)
        · replace h := Ok_t c17 h
          exact am_Ev.sub (L := [(0, .ref 35), (1, .int (l1)), (2, .int (x3_)), (3, .int (x6_))]) ⟨rfl, rfl, rfl, rfl, trivial⟩ (cW_applyToTwo_67_ok l1 x3_ x6_ _ _ h)
        · replace h := Ok_f c17 h
          refine ev_iload_n (pc' := 62) m_121 rfl rfl rfl (ev_bipush (pc' := 64) (x := 42) m_121 rfl rfl rfl ?_)
          refine ev_icmp_ne (t := 80) (e := 67) m_121 rfl rfl rfl (fun c16 => ?_) (fun c16 => ?_)
          · replace h := Ok_f c16 h
            refine ev_aload_n (pc' := 81) m_121 rfl rfl rfl (ev_iload_n (pc' := 82) m_121 rfl rfl rfl (ev_iload_n (pc' := 83) m_121 rfl rfl rfl (ev_iload_n (pc' := 84) m_121 rfl rfl rfl ?_)))
            refine tr_cz (pc' := 87) m_121 rfl rfl rfl m_123 rfl rfl rfl rfl rfl rfl rfl rfl (cW_holds_ok l1 x6_ x3_ _ _ (Ok_b h)) (fun x9_ x9_s h7 h => ?_)
            refine tr_ci (pc' := 90) m_121 rfl rfl rfl m_112 rfl rfl rfl rfl rfl rfl rfl (cW_truth_ok x9_ _ _ (Ok_b h)) (fun x12_ x12_s h => ?_)
            refine tr_cv (pc' := 93) m_121 rfl rfl rfl m_113 rfl rfl rfl rfl (tr_rcv ts_o35 rfl) rfl rfl (cW_push_ok x12_ _ _ (Ok_b h)) (fun s14 h => ?_)
            refine ev_iconst (pc' := 94) (x := 0) m_121 rfl rfl rfl ?_
            exact tr_ri m_121 rfl rfl (Ok_s h)
          · replace h := Ok_t c16 h
            exact am_Ev.sub (L := [(0, .ref 35), (1, .int (l1)), (2, .int (x3_)), (3, .int (x6_))]) ⟨rfl, rfl, rfl, rfl, trivial⟩ (cW_applyToTwo_67_ok l1 x3_ x6_ _ _ h)
    · replace h := Ok_t c19 h
      exact am_Ev.sub (L := [(0, .ref 35), (1, .int (l1)), (2, .int (x3_)), (3, .int (x6_))]) ⟨rfl, rfl, rfl, rfl, trivial⟩ (cW_applyToTwo_22_ok l1 x3_ x6_ _ _ h)
def cW_apply_176 (t1 : Int32) (s : ts) : Option (Int32 × ts) := (cW_truth t1 s).bind (fun x3 => (cW_push x3.1 x3.2).bind (fun s5 => some ((0 : Int32), s5)))
set_option maxRecDepth 20000 in
theorem cW_apply_176_ok {d : Nat} (t1 : Int32) (s : ts) (Q : Int32 × ts → Prop) (h : Ok (cW_apply_176 t1 s) Q) : am_Ev (d + 2) 114 (176, [], [.int (t1), .ref 35]) (lay s) (tq_i Q) := by
  unfold cW_apply_176 at h
  refine tr_ci (pc' := 179) m_114 rfl rfl rfl m_112 rfl rfl rfl rfl rfl rfl rfl (cW_truth_ok t1 _ _ (Ok_b h)) (fun x3_ x3_s h => ?_)
  refine tr_cv (pc' := 182) m_114 rfl rfl rfl m_113 rfl rfl rfl rfl (tr_rcv ts_o35 rfl) rfl rfl (cW_push_ok x3_ _ _ (Ok_b h)) (fun s5 h => ?_)
  refine ev_iconst (pc' := 183) (x := 0) m_114 rfl rfl rfl ?_
  exact tr_ri m_114 rfl rfl (Ok_s h)
def cW_apply_197 (t1 : Int32) (s : ts) : Option (Int32 × ts) := (cW_truth t1 s).bind (fun x3 => (cW_push x3.1 x3.2).bind (fun s5 => some ((0 : Int32), s5)))
set_option maxRecDepth 20000 in
theorem cW_apply_197_ok {d : Nat} (t1 : Int32) (s : ts) (Q : Int32 × ts → Prop) (h : Ok (cW_apply_197 t1 s) Q) : am_Ev (d + 2) 114 (197, [], [.int (t1), .ref 35]) (lay s) (tq_i Q) := by
  unfold cW_apply_197 at h
  refine tr_ci (pc' := 200) m_114 rfl rfl rfl m_112 rfl rfl rfl rfl rfl rfl rfl (cW_truth_ok t1 _ _ (Ok_b h)) (fun x3_ x3_s h => ?_)
  refine tr_cv (pc' := 203) m_114 rfl rfl rfl m_113 rfl rfl rfl rfl (tr_rcv ts_o35 rfl) rfl rfl (cW_push_ok x3_ _ _ (Ok_b h)) (fun s5 h => ?_)
  refine ev_iconst (pc' := 204) (x := 0) m_114 rfl rfl rfl ?_
  exact tr_ri m_114 rfl rfl (Ok_s h)
def cW_apply (l1 : Int32) (l2 : Int32) (l3 : Nat) (s : ts) : Option (Int32 × ts) := (if l1 = (1 : Int32) then (cW_push l2 s).bind (fun s2 => some ((0 : Int32), s2)) else (if l1 = (2 : Int32) then (cW_valueOf l3 l2 s).bind (fun x7 => (cW_push x7.1 x7.2).bind (fun s9 => some ((0 : Int32), s9))) else (if l1 = (3 : Int32) then (cW_pop s).bind (fun x14 => (cW_push (-x14.1) x14.2).bind (fun s16 => some ((0 : Int32), s16))) else (if l1 = (4 : Int32) then (cW_pop s).bind (fun x21 => (if x21.1 = ((0 : Int32)) then cW_apply_176 ((0 : Int32)) x21.2 else cW_apply_176 ((1 : Int32)) x21.2)) else (if l1 = (33 : Int32) then (cW_pop s).bind (fun x26 => (if x26.1 = ((0 : Int32)) then cW_apply_197 ((1 : Int32)) x26.2 else cW_apply_197 ((0 : Int32)) x26.2)) else (if l1 = (531 : Int32) then (cW_push (gI s 800 0) s).bind (fun s30 => some ((0 : Int32), s30)) else (if l1 = (532 : Int32) then (if l3 < gM s then (cW_push (gI s 500 l3) s).bind (fun s35 => some ((0 : Int32), s35)) else none) else (if l1 = (533 : Int32) then (cW_pop s).bind (fun x40 => (cW_draw x40.1 x40.2).bind (fun x43 => some (x43.1, x43.2))) else (if l1 = (534 : Int32) then (cW_look l1 l2 s).bind (fun x47 => (cW_push x47.1 x47.2).bind (fun s49 => some ((0 : Int32), s49))) else (if l1 = (535 : Int32) then (cW_look l1 l2 s).bind (fun x54 => (cW_push x54.1 x54.2).bind (fun s56 => some ((0 : Int32), s56))) else (cW_applyToTwo l1 s).bind (fun x61 => some (x61.1, x61.2))))))))))))
set_option maxRecDepth 20000 in
theorem cW_apply_ok {d : Nat} (l1 : Int32) (l2 : Int32) (l3 : Nat) (s : ts) (Q : Int32 × ts → Prop) (h : Ok (cW_apply l1 l2 l3 s) Q) : am_Ev (d + 2) 114 (0, [(0, .ref 35), (1, .int (l1)), (2, .int (l2)), (3, .ref (pB l3))], []) (lay s) (tq_i Q) := by
  unfold cW_apply at h
  refine ev_iload_n (pc' := 1) m_114 rfl rfl rfl ?_
  by_cases c4 : l1 = (1 : Int32)
  · replace h := Ok_t c4 h
    refine ev_sw (pc' := 92) m_114 rfl (by rw [c4]; rfl) ?_
    refine ev_aload_n (pc' := 93) m_114 rfl rfl rfl (ev_iload_n (pc' := 94) m_114 rfl rfl rfl ?_)
    refine tr_cv (pc' := 97) m_114 rfl rfl rfl m_113 rfl rfl rfl rfl (tr_rcv ts_o35 rfl) rfl rfl (cW_push_ok l2 _ _ (Ok_b h)) (fun s2 h => ?_)
    refine ev_iconst (pc' := 98) (x := 0) m_114 rfl rfl rfl ?_
    exact tr_ri m_114 rfl rfl (Ok_s h)
  replace h := Ok_f c4 h
  by_cases c11 : l1 = (2 : Int32)
  · replace h := Ok_t c11 h
    refine ev_sw (pc' := 99) m_114 rfl (by rw [c11]; rfl) ?_
    refine ev_aload_n (pc' := 100) m_114 rfl rfl rfl (ev_aload_n (pc' := 101) m_114 rfl rfl rfl (ev_aload_n (pc' := 102) m_114 rfl rfl rfl (ev_iload_n (pc' := 103) m_114 rfl rfl rfl ?_)))
    refine tr_ci (pc' := 106) m_114 rfl rfl rfl m_115 rfl rfl rfl rfl (tr_rcv ts_o35 rfl) rfl rfl (cW_valueOf_ok l3 l2 _ _ (Ok_b h)) (fun x7_ x7_s h => ?_)
    refine tr_cv (pc' := 109) m_114 rfl rfl rfl m_113 rfl rfl rfl rfl (tr_rcv ts_o35 rfl) rfl rfl (cW_push_ok x7_ _ _ (Ok_b h)) (fun s9 h => ?_)
    refine ev_iconst (pc' := 110) (x := 0) m_114 rfl rfl rfl ?_
    exact tr_ri m_114 rfl rfl (Ok_s h)
  replace h := Ok_f c11 h
  by_cases c18 : l1 = (3 : Int32)
  · replace h := Ok_t c18 h
    refine ev_sw (pc' := 152) m_114 rfl (by rw [c18]; rfl) ?_
    refine ev_aload_n (pc' := 153) m_114 rfl rfl rfl (ev_aload_n (pc' := 154) m_114 rfl rfl rfl ?_)
    refine tr_ci (pc' := 157) m_114 rfl rfl rfl m_111 rfl rfl rfl rfl (tr_rcv ts_o35 rfl) rfl rfl (cW_pop_ok _ _ (Ok_b h)) (fun x14_ x14_s h => ?_)
    refine ev_ineg (pc' := 158) m_114 rfl rfl ?_
    refine tr_cv (pc' := 161) m_114 rfl rfl rfl m_113 rfl rfl rfl rfl (tr_rcv ts_o35 rfl) rfl rfl (cW_push_ok (-x14_) _ _ (Ok_b h)) (fun s16 h => ?_)
    refine ev_iconst (pc' := 162) (x := 0) m_114 rfl rfl rfl ?_
    exact tr_ri m_114 rfl rfl (Ok_s h)
  replace h := Ok_f c18 h
  by_cases c23 : l1 = (4 : Int32)
  · replace h := Ok_t c23 h
    refine ev_sw (pc' := 163) m_114 rfl (by rw [c23]; rfl) ?_
    refine ev_aload_n (pc' := 164) m_114 rfl rfl rfl (ev_aload_n (pc' := 165) m_114 rfl rfl rfl ?_)
    refine tr_ci (pc' := 168) m_114 rfl rfl rfl m_111 rfl rfl rfl rfl (tr_rcv ts_o35 rfl) rfl rfl (cW_pop_ok _ _ (Ok_b h)) (fun x21_ x21_s h => ?_)
    refine ev_if_eq (t := 175) (e := 171) m_114 rfl rfl rfl (fun c22 => ?_) (fun c22 => ?_)
    · replace h := Ok_t c22 h
      refine ev_iconst (pc' := 176) (x := 0) m_114 rfl rfl rfl ?_
      exact am_Ev.sub (L := []) trivial (cW_apply_176_ok ((0 : Int32)) _ _ h)
    · replace h := Ok_f c22 h
      refine ev_iconst (pc' := 172) (x := 1) m_114 rfl rfl rfl (ev_goto (pc' := 176) m_114 rfl rfl ?_)
      exact am_Ev.sub (L := []) trivial (cW_apply_176_ok ((1 : Int32)) _ _ h)
  replace h := Ok_f c23 h
  by_cases c28 : l1 = (33 : Int32)
  · replace h := Ok_t c28 h
    refine ev_sw (pc' := 184) m_114 rfl (by rw [c28]; rfl) ?_
    refine ev_aload_n (pc' := 185) m_114 rfl rfl rfl (ev_aload_n (pc' := 186) m_114 rfl rfl rfl ?_)
    refine tr_ci (pc' := 189) m_114 rfl rfl rfl m_111 rfl rfl rfl rfl (tr_rcv ts_o35 rfl) rfl rfl (cW_pop_ok _ _ (Ok_b h)) (fun x26_ x26_s h => ?_)
    refine ev_if_ne (t := 196) (e := 192) m_114 rfl rfl rfl (fun c27 => ?_) (fun c27 => ?_)
    · replace h := Ok_f c27 h
      refine ev_iconst (pc' := 197) (x := 0) m_114 rfl rfl rfl ?_
      exact am_Ev.sub (L := []) trivial (cW_apply_197_ok ((0 : Int32)) _ _ h)
    · replace h := Ok_t c27 h
      refine ev_iconst (pc' := 193) (x := 1) m_114 rfl rfl rfl (ev_goto (pc' := 197) m_114 rfl rfl ?_)
      exact am_Ev.sub (L := []) trivial (cW_apply_197_ok ((1 : Int32)) _ _ h)
  replace h := Ok_f c28 h
  by_cases c32 : l1 = (531 : Int32)
  · replace h := Ok_t c32 h
    refine ev_sw (pc' := 111) m_114 rfl (by rw [c32]; rfl) ?_
    refine ev_aload_n (pc' := 112) m_114 rfl rfl rfl (ev_aload_n (pc' := 113) m_114 rfl rfl rfl (tr_get (pc' := 116) (v := .int (gI _ 800 _)) m_114 rfl rfl ts_o35 rfl rfl rfl ?_))
    refine tr_cv (pc' := 119) m_114 rfl rfl rfl m_113 rfl rfl rfl rfl (tr_rcv ts_o35 rfl) rfl rfl (cW_push_ok (gI s 800 0) _ _ (Ok_b h)) (fun s30 h => ?_)
    refine ev_iconst (pc' := 120) (x := 0) m_114 rfl rfl rfl ?_
    exact tr_ri m_114 rfl rfl (Ok_s h)
  replace h := Ok_f c32 h
  by_cases c37 : l1 = (532 : Int32)
  · replace h := Ok_t c37 h
    refine ev_sw (pc' := 121) m_114 rfl (by rw [c37]; rfl) ?_
    refine ev_aload_n (pc' := 122) m_114 rfl rfl rfl (ev_aload_n (pc' := 123) m_114 rfl rfl rfl ?_)
    obtain ⟨g33, h⟩ := Ok_g h
    refine tr_get (pc' := 126) (v := .int (gI _ 500 _)) m_114 rfl rfl (ts_obB g33) rfl rfl rfl ?_
    refine tr_cv (pc' := 129) m_114 rfl rfl rfl m_113 rfl rfl rfl rfl (tr_rcv ts_o35 rfl) rfl rfl (cW_push_ok (gI s 500 l3) _ _ (Ok_b h)) (fun s35 h => ?_)
    refine ev_iconst (pc' := 130) (x := 0) m_114 rfl rfl rfl ?_
    exact tr_ri m_114 rfl rfl (Ok_s h)
  replace h := Ok_f c37 h
  by_cases c44 : l1 = (533 : Int32)
  · replace h := Ok_t c44 h
    refine ev_sw (pc' := 143) m_114 rfl (by rw [c44]; rfl) ?_
    refine ev_aload_n (pc' := 144) m_114 rfl rfl rfl (ev_aload_n (pc' := 145) m_114 rfl rfl rfl ?_)
    refine tr_ci (pc' := 148) m_114 rfl rfl rfl m_111 rfl rfl rfl rfl (tr_rcv ts_o35 rfl) rfl rfl (cW_pop_ok _ _ (Ok_b h)) (fun x40_ x40_s h => ?_)
    refine tr_ci (pc' := 151) m_114 rfl rfl rfl m_120 rfl rfl rfl rfl (tr_rcv ts_o35 rfl) rfl rfl (cW_draw_ok x40_ _ _ (Ok_b h)) (fun x43_ x43_s h => ?_)
    exact tr_ri m_114 rfl rfl (Ok_s h)
  replace h := Ok_f c44 h
  by_cases c51 : l1 = (534 : Int32)
  · replace h := Ok_t c51 h
    refine ev_sw (pc' := 131) m_114 rfl (by rw [c51]; rfl) ?_
    refine ev_aload_n (pc' := 132) m_114 rfl rfl rfl (ev_aload_n (pc' := 133) m_114 rfl rfl rfl (ev_iload_n (pc' := 134) m_114 rfl rfl rfl (ev_iload_n (pc' := 135) m_114 rfl rfl rfl ?_)))
    refine tr_ci (pc' := 138) m_114 rfl rfl rfl m_117 rfl rfl rfl rfl (tr_rcv ts_o35 rfl) rfl rfl (cW_look_ok l1 l2 _ _ (Ok_b h)) (fun x47_ x47_s h => ?_)
    refine tr_cv (pc' := 141) m_114 rfl rfl rfl m_113 rfl rfl rfl rfl (tr_rcv ts_o35 rfl) rfl rfl (cW_push_ok x47_ _ _ (Ok_b h)) (fun s49 h => ?_)
    refine ev_iconst (pc' := 142) (x := 0) m_114 rfl rfl rfl ?_
    exact tr_ri m_114 rfl rfl (Ok_s h)
  replace h := Ok_f c51 h
  by_cases c58 : l1 = (535 : Int32)
  · replace h := Ok_t c58 h
    refine ev_sw (pc' := 131) m_114 rfl (by rw [c58]; rfl) ?_
    refine ev_aload_n (pc' := 132) m_114 rfl rfl rfl (ev_aload_n (pc' := 133) m_114 rfl rfl rfl (ev_iload_n (pc' := 134) m_114 rfl rfl rfl (ev_iload_n (pc' := 135) m_114 rfl rfl rfl ?_)))
    refine tr_ci (pc' := 138) m_114 rfl rfl rfl m_117 rfl rfl rfl rfl (tr_rcv ts_o35 rfl) rfl rfl (cW_look_ok l1 l2 _ _ (Ok_b h)) (fun x54_ x54_s h => ?_)
    refine tr_cv (pc' := 141) m_114 rfl rfl rfl m_113 rfl rfl rfl rfl (tr_rcv ts_o35 rfl) rfl rfl (cW_push_ok x54_ _ _ (Ok_b h)) (fun s56 h => ?_)
    refine ev_iconst (pc' := 142) (x := 0) m_114 rfl rfl rfl ?_
    exact tr_ri m_114 rfl rfl (Ok_s h)
  replace h := Ok_f c58 h
  refine ev_sw (pc' := 205) m_114 rfl (by exact ev_ldef rfl (by simp only [Op.lookupswitch.offset, List.find?]; rw [if_neg (ts_nel c4 (by decide)), if_neg (ts_nel c11 (by decide)), if_neg (ts_nel c18 (by decide)), if_neg (ts_nel c23 (by decide)), if_neg (ts_nel c28 (by decide)), if_neg (ts_nel c32 (by decide)), if_neg (ts_nel c37 (by decide)), if_neg (ts_nel c44 (by decide)), if_neg (ts_nel c51 (by decide)), if_neg (ts_nel c58 (by decide))]) rfl) ?_
  refine ev_aload_n (pc' := 206) m_114 rfl rfl rfl (ev_iload_n (pc' := 207) m_114 rfl rfl rfl ?_)
  refine tr_ci (pc' := 210) m_114 rfl rfl rfl m_121 rfl rfl rfl rfl (tr_rcv ts_o35 rfl) rfl rfl (cW_applyToTwo_ok l1 _ _ (Ok_b h)) (fun x61_ x61_s h => ?_)
  exact tr_ri m_114 rfl rfl (Ok_s h)
def cW_reckon_77 (k45 : Nat → Int32 → Int32 → ts → Option (Int32 × ts)) (l3 : Nat) (l4 : Int32) (l5 : Int32) (l6 : Int32) (s : ts) : Option (Int32 × ts) := (cW_skips l6 s).bind (fun x3 => (if x3.1 = ((0 : Int32)) then k45 l3 l4 (l5 + (1 : Int32)) x3.2 else (if am_idx l5 4000 = true then k45 l3 l4 ((if l5 < (gA x3.2 27 l5.toNatClampNeg) - ((1 : Int32)) then (gA x3.2 27 l5.toNatClampNeg) - ((1 : Int32)) else l5) + (1 : Int32)) x3.2 else none)))
set_option maxRecDepth 20000 in
theorem cW_reckon_77_ok {d : Nat} (k45 : Nat → Int32 → Int32 → ts → Option (Int32 × ts)) (hk45 : ∀ (l3 : Nat) (l4 : Int32) (l5 : Int32) (s : ts) (Q : Int32 × ts → Prop), Ok (k45 l3 l4 l5 s) Q → am_Ev (d + 3) 109 (45, [(0, .ref 35), (1, .ref 12), (3, .ref (pB l3)), (4, .int (l4)), (5, .int (l5))], []) (lay s) (tq_i Q)) (l3 : Nat) (l4 : Int32) (l5 : Int32) (l6 : Int32) (s : ts) (Q : Int32 × ts → Prop) (h : Ok (cW_reckon_77 k45 l3 l4 l5 l6 s) Q) : am_Ev (d + 3) 109 (77, [(0, .ref 35), (1, .ref 12), (3, .ref (pB l3)), (4, .int (l4)), (5, .int (l5)), (6, .int (l6))], []) (lay s) (tq_i Q) := by
  unfold cW_reckon_77 at h
  refine ev_aload_n (pc' := 78) m_109 rfl rfl rfl (ev_iload (pc' := 80) m_109 rfl rfl rfl ?_)
  refine tr_cz (pc' := 83) m_109 rfl rfl rfl m_110 rfl rfl rfl rfl rfl (tr_rcv ts_o35 rfl) rfl rfl (cW_skips_ok l6 _ _ (Ok_b h)) (fun x3_ x3_s h1 h => ?_)
  refine ev_if_eq (t := 103) (e := 86) m_109 rfl rfl rfl (fun c5 => ?_) (fun c5 => ?_)
  · replace h := Ok_t c5 h
    refine ev_iload (pc' := 105) m_109 rfl rfl rfl (ev_istore (pc' := 107) m_109 rfl rfl rfl rfl (ev_goto (pc' := 134) m_109 rfl rfl (ev_iinc (pc' := 137) (z := 1) m_109 rfl rfl rfl rfl rfl rfl (ev_goto (pc' := 45) m_109 rfl rfl ?_))))
    exact am_Ev.sub (L := [(0, .ref 35), (1, .ref 12), (3, .ref (pB l3)), (4, .int (l4)), (5, .int (l5 + (1 : Int32)))]) ⟨rfl, rfl, rfl, rfl, rfl, trivial⟩ (hk45 l3 l4 (l5 + (1 : Int32)) _ _ h)
  · replace h := Ok_f c5 h
    refine ev_iload (pc' := 88) m_109 rfl rfl rfl (ev_aload_n (pc' := 89) m_109 rfl rfl rfl (tr_get (pc' := 92) (v := .ref 27) m_109 rfl rfl ts_o12 rfl rfl rfl (ev_iload (pc' := 94) m_109 rfl rfl rfl ?_)))
    obtain ⟨g4, h⟩ := Ok_g h
    refine tr_iald (pc' := 95) m_109 rfl rfl rfl g4 rfl (ev_iconst (pc' := 96) (x := 1) m_109 rfl rfl rfl (ev_isub (pc' := 97) m_109 rfl rfl (ev_prm (pc' := 100) m_109 rfl rfl rfl rfl rfl rfl rfl (ev_goto (pc' := 105) m_109 rfl rfl (ev_istore (pc' := 107) m_109 rfl rfl rfl rfl (ev_goto (pc' := 134) m_109 rfl rfl (ev_iinc (pc' := 137) (z := 1) m_109 rfl rfl rfl rfl rfl rfl ?_)))))))
    refine ev_goto (pc' := 45) m_109 rfl rfl ?_
    exact am_Ev.sub (L := [(0, .ref 35), (1, .ref 12), (3, .ref (pB l3)), (4, .int (l4)), (5, .int ((if l5 < (gA x3_s 27 l5.toNatClampNeg) - ((1 : Int32)) then (gA x3_s 27 l5.toNatClampNeg) - ((1 : Int32)) else l5) + (1 : Int32)))]) ⟨rfl, rfl, rfl, rfl, rfl, trivial⟩ (hk45 l3 l4 ((if l5 < (gA x3_s 27 l5.toNatClampNeg) - ((1 : Int32)) then (gA x3_s 27 l5.toNatClampNeg) - ((1 : Int32)) else l5) + (1 : Int32)) _ _ h)
def cW_reckon_45_b (kk : Nat → Int32 → Int32 → ts → Option (Int32 × ts)) (l3 : Nat) (l4 : Int32) (l5 : Int32) (s : ts) : Option (Int32 × ts) := (if l4 ≤ l5 then some ((0 : Int32), s) else (if am_idx l5 4000 = true then (if (gA s 26 l5.toNatClampNeg) = ((294 : Int32)) then cW_reckon_77 kk l3 l4 l5 (gA s 26 l5.toNatClampNeg) s else (if (gA s 26 l5.toNatClampNeg) = ((380 : Int32)) then cW_reckon_77 kk l3 l4 l5 (gA s 26 l5.toNatClampNeg) s else (cW_apply (gA s 26 l5.toNatClampNeg) (gA s 27 l5.toNatClampNeg) l3 s).bind (fun x4 => (if x4.1 = ((0 : Int32)) then kk l3 l4 (l5 + (1 : Int32)) x4.2 else some (x4.1, x4.2))))) else none))
def cW_reckon_45 : Nat → Nat → Int32 → Int32 → ts → Option (Int32 × ts)
  | 0, _, _, _, _ => none
  | n + 1, l3, l4, l5, s => cW_reckon_45_b (cW_reckon_45 n) l3 l4 l5 s
set_option maxRecDepth 20000 in
theorem cW_reckon_45_ok {d : Nat} : ∀ (n : Nat) (l3 : Nat) (l4 : Int32) (l5 : Int32) (s : ts) (Q : Int32 × ts → Prop), Ok (cW_reckon_45 n l3 l4 l5 s) Q → am_Ev (d + 3) 109 (45, [(0, .ref 35), (1, .ref 12), (3, .ref (pB l3)), (4, .int (l4)), (5, .int (l5))], []) (lay s) (tq_i Q) := by
  intro n
  induction n with
  | zero => intro l3 l4 l5 s Q h; exact Ok_n h
  | succ n ih =>
    intro l3 l4 l5 s Q h
    rw [cW_reckon_45.eq_2] at h
    unfold cW_reckon_45_b at h
    refine ev_iload (pc' := 47) m_109 rfl rfl rfl (ev_iload (pc' := 49) m_109 rfl rfl rfl ?_)
    refine ev_icmp_ge (t := 140) (e := 52) m_109 rfl rfl rfl (fun c8 => ?_) (fun c8 => ?_)
    · replace h := Ok_t c8 h
      refine ev_iconst (pc' := 141) (x := 0) m_109 rfl rfl rfl ?_
      exact tr_ri m_109 rfl rfl (Ok_s h)
    · replace h := Ok_f c8 h
      refine ev_aload_n (pc' := 53) m_109 rfl rfl rfl (tr_get (pc' := 56) (v := .ref 26) m_109 rfl rfl ts_o12 rfl rfl rfl (ev_iload (pc' := 58) m_109 rfl rfl rfl ?_))
      obtain ⟨g1, h⟩ := Ok_g h
      refine tr_iald (pc' := 59) m_109 rfl rfl rfl g1 rfl (ev_istore (pc' := 61) m_109 rfl rfl rfl rfl (ev_iload (pc' := 63) m_109 rfl rfl rfl (ev_sipush (pc' := 66) (x := 294) m_109 rfl rfl rfl ?_)))
      refine ev_icmp_eq (t := 77) (e := 69) m_109 rfl rfl rfl (fun c7 => ?_) (fun c7 => ?_)
      · replace h := Ok_t c7 h
        exact am_Ev.sub (L := [(0, .ref 35), (1, .ref 12), (3, .ref (pB l3)), (4, .int (l4)), (5, .int (l5)), (6, .int (gA s 26 l5.toNatClampNeg))]) ⟨rfl, rfl, rfl, rfl, rfl, rfl, trivial⟩ (cW_reckon_77_ok (cW_reckon_45 n) ih l3 l4 l5 (gA s 26 l5.toNatClampNeg) _ _ h)
      · replace h := Ok_f c7 h
        refine ev_iload (pc' := 71) m_109 rfl rfl rfl (ev_sipush (pc' := 74) (x := 380) m_109 rfl rfl rfl ?_)
        refine ev_icmp_ne (t := 110) (e := 77) m_109 rfl rfl rfl (fun c6 => ?_) (fun c6 => ?_)
        · replace h := Ok_f c6 h
          refine ev_aload_n (pc' := 111) m_109 rfl rfl rfl (ev_iload (pc' := 113) m_109 rfl rfl rfl (ev_aload_n (pc' := 114) m_109 rfl rfl rfl (tr_get (pc' := 117) (v := .ref 27) m_109 rfl rfl ts_o12 rfl rfl rfl (ev_iload (pc' := 119) m_109 rfl rfl rfl (tr_iald (pc' := 120) m_109 rfl rfl rfl g1 rfl (ev_aload_n (pc' := 121) m_109 rfl rfl rfl ?_))))))
          refine tr_ci (pc' := 124) m_109 rfl rfl rfl m_114 rfl rfl rfl rfl (tr_rcv ts_o35 rfl) rfl rfl (cW_apply_ok (gA s 26 l5.toNatClampNeg) (gA s 27 l5.toNatClampNeg) l3 _ _ (Ok_b h)) (fun x4_ x4_s h => ?_)
          refine ev_istore (pc' := 126) m_109 rfl rfl rfl rfl (ev_iload (pc' := 128) m_109 rfl rfl rfl ?_)
          refine ev_if_eq (t := 134) (e := 131) m_109 rfl rfl rfl (fun c5 => ?_) (fun c5 => ?_)
          · replace h := Ok_t c5 h
            refine ev_iinc (pc' := 137) (z := 1) m_109 rfl rfl rfl rfl rfl rfl (ev_goto (pc' := 45) m_109 rfl rfl ?_)
            exact am_Ev.sub (L := [(0, .ref 35), (1, .ref 12), (3, .ref (pB l3)), (4, .int (l4)), (5, .int (l5 + (1 : Int32)))]) ⟨rfl, rfl, rfl, rfl, rfl, trivial⟩ (ih l3 l4 (l5 + (1 : Int32)) _ _ h)
          · replace h := Ok_f c5 h
            refine ev_iload (pc' := 133) m_109 rfl rfl rfl ?_
            exact tr_ri m_109 rfl rfl (Ok_s h)
        · replace h := Ok_t c6 h
          exact am_Ev.sub (L := [(0, .ref 35), (1, .ref 12), (3, .ref (pB l3)), (4, .int (l4)), (5, .int (l5)), (6, .int (gA s 26 l5.toNatClampNeg))]) ⟨rfl, rfl, rfl, rfl, rfl, rfl, trivial⟩ (cW_reckon_77_ok (cW_reckon_45 n) ih l3 l4 l5 (gA s 26 l5.toNatClampNeg) _ _ h)
def cW_reckon (l2 : Int32) (l3 : Nat) (s : ts) : Option (Int32 × ts) := (if l2 < ((0 : Int32)) then some ((0 : Int32), wI s 805 0 ((0 : Int32))) else (if l2 < (gI (wI s 805 0 ((0 : Int32))) 214 0) then (if am_idx l2 512 = true then cW_reckon_45 tm_N l3 (if (4000 : Int32) < gA (wI s 805 0 ((0 : Int32))) 25 l2.toNatClampNeg then (4000 : Int32) else gA (wI s 805 0 ((0 : Int32))) 25 l2.toNatClampNeg) (if (0 : Int32) < gA (wI s 805 0 ((0 : Int32))) 24 l2.toNatClampNeg then gA (wI s 805 0 ((0 : Int32))) 24 l2.toNatClampNeg else (0 : Int32)) (wI s 805 0 ((0 : Int32))) else none) else some ((0 : Int32), wI s 805 0 ((0 : Int32)))))
set_option maxRecDepth 20000 in
theorem cW_reckon_ok {d : Nat} (l2 : Int32) (l3 : Nat) (s : ts) (Q : Int32 × ts → Prop) (h : Ok (cW_reckon l2 l3 s) Q) : am_Ev (d + 3) 109 (0, [(0, .ref 35), (1, .ref 12), (2, .int (l2)), (3, .ref (pB l3))], []) (lay s) (tq_i Q) := by
  unfold cW_reckon at h
  refine ev_aload_n (pc' := 1) m_109 rfl rfl rfl (ev_iconst (pc' := 2) (x := 0) m_109 rfl rfl rfl (tr_pI (pc' := 5) (f := 805) m_109 rfl rfl rfl ts_o35 rfl rfl rfl rfl (ev_iload_n (pc' := 6) m_109 rfl rfl rfl ?_)))
  refine ev_if_lt (t := 17) (e := 9) m_109 rfl rfl rfl (fun c3 => ?_) (fun c3 => ?_)
  · replace h := Ok_t c3 h
    refine ev_iconst (pc' := 18) (x := 0) m_109 rfl rfl rfl ?_
    exact tr_ri m_109 rfl rfl (Ok_s h)
  · replace h := Ok_f c3 h
    refine ev_iload_n (pc' := 10) m_109 rfl rfl rfl (ev_aload_n (pc' := 11) m_109 rfl rfl rfl (tr_get (pc' := 14) (v := .int (gI _ 214 _)) m_109 rfl rfl ts_o12 rfl rfl rfl ?_))
    refine ev_icmp_lt (t := 19) (e := 17) m_109 rfl rfl rfl (fun c2 => ?_) (fun c2 => ?_)
    · replace h := Ok_t c2 h
      refine ev_aload_n (pc' := 20) m_109 rfl rfl rfl (tr_get (pc' := 23) (v := .ref 25) m_109 rfl rfl ts_o12 rfl rfl rfl (ev_iload_n (pc' := 24) m_109 rfl rfl rfl ?_))
      obtain ⟨g1, h⟩ := Ok_g h
      refine tr_iald (pc' := 25) m_109 rfl rfl rfl g1 rfl (ev_sipush (pc' := 28) (x := 4000) m_109 rfl rfl rfl (ev_prm (pc' := 31) m_109 rfl rfl rfl rfl rfl rfl rfl (ev_istore (pc' := 33) m_109 rfl rfl rfl rfl (ev_iconst (pc' := 34) (x := 0) m_109 rfl rfl rfl (ev_aload_n (pc' := 35) m_109 rfl rfl rfl (tr_get (pc' := 38) (v := .ref 24) m_109 rfl rfl ts_o12 rfl rfl rfl (ev_iload_n (pc' := 39) m_109 rfl rfl rfl ?_)))))))
      refine tr_iald (pc' := 40) m_109 rfl rfl rfl g1 rfl (ev_prm (pc' := 43) m_109 rfl rfl rfl rfl rfl rfl rfl (ev_istore (pc' := 45) m_109 rfl rfl rfl rfl ?_))
      exact am_Ev.sub (L := [(0, .ref 35), (1, .ref 12), (3, .ref (pB l3)), (4, .int (if (4000 : Int32) < gA (wI s 805 0 ((0 : Int32))) 25 l2.toNatClampNeg then (4000 : Int32) else gA (wI s 805 0 ((0 : Int32))) 25 l2.toNatClampNeg)), (5, .int (if (0 : Int32) < gA (wI s 805 0 ((0 : Int32))) 24 l2.toNatClampNeg then gA (wI s 805 0 ((0 : Int32))) 24 l2.toNatClampNeg else (0 : Int32)))]) ⟨rfl, rfl, rfl, rfl, rfl, trivial⟩ (cW_reckon_45_ok tm_N l3 (if (4000 : Int32) < gA (wI s 805 0 ((0 : Int32))) 25 l2.toNatClampNeg then (4000 : Int32) else gA (wI s 805 0 ((0 : Int32))) 25 l2.toNatClampNeg) (if (0 : Int32) < gA (wI s 805 0 ((0 : Int32))) 24 l2.toNatClampNeg then gA (wI s 805 0 ((0 : Int32))) 24 l2.toNatClampNeg else (0 : Int32)) _ _ h)
    · replace h := Ok_f c2 h
      refine ev_iconst (pc' := 18) (x := 0) m_109 rfl rfl rfl ?_
      exact tr_ri m_109 rfl rfl (Ok_s h)
def cW_result (l1 : Int32) (s : ts) : Option (Int32 × ts) := (if l1 < ((0 : Int32)) then some ((0 : Int32), s) else (if (gI s 805 0) ≤ l1 then some ((0 : Int32), s) else (if ((128 : Int32)) ≤ l1 then some ((0 : Int32), s) else (if am_idx l1 128 = true then some (gA s 38 l1.toNatClampNeg, s) else none))))
set_option maxRecDepth 20000 in
theorem cW_result_ok {d : Nat} (l1 : Int32) (s : ts) (Q : Int32 × ts → Prop) (h : Ok (cW_result l1 s) Q) : am_Ev (d + 0) 124 (0, [(0, .ref 35), (1, .int (l1))], []) (lay s) (tq_i Q) := by
  unfold cW_result at h
  refine ev_iload_n (pc' := 1) m_124 rfl rfl rfl ?_
  refine ev_if_lt (t := 28) (e := 4) m_124 rfl rfl rfl (fun c4 => ?_) (fun c4 => ?_)
  · replace h := Ok_t c4 h
    refine ev_iconst (pc' := 29) (x := 0) m_124 rfl rfl rfl ?_
    exact tr_ri m_124 rfl rfl (Ok_s h)
  · replace h := Ok_f c4 h
    refine ev_iload_n (pc' := 5) m_124 rfl rfl rfl (ev_aload_n (pc' := 6) m_124 rfl rfl rfl (tr_get (pc' := 9) (v := .int (gI _ 805 _)) m_124 rfl rfl ts_o35 rfl rfl rfl ?_))
    refine ev_icmp_ge (t := 28) (e := 12) m_124 rfl rfl rfl (fun c3 => ?_) (fun c3 => ?_)
    · replace h := Ok_t c3 h
      refine ev_iconst (pc' := 29) (x := 0) m_124 rfl rfl rfl ?_
      exact tr_ri m_124 rfl rfl (Ok_s h)
    · replace h := Ok_f c3 h
      refine ev_iload_n (pc' := 13) m_124 rfl rfl rfl (ev_sipush (pc' := 16) (x := 128) m_124 rfl rfl rfl ?_)
      refine ev_icmp_ge (t := 28) (e := 19) m_124 rfl rfl rfl (fun c2 => ?_) (fun c2 => ?_)
      · replace h := Ok_t c2 h
        refine ev_iconst (pc' := 29) (x := 0) m_124 rfl rfl rfl ?_
        exact tr_ri m_124 rfl rfl (Ok_s h)
      · replace h := Ok_f c2 h
        refine ev_aload_n (pc' := 20) m_124 rfl rfl rfl (tr_get (pc' := 23) (v := .ref 38) m_124 rfl rfl ts_o35 rfl rfl rfl (ev_iload_n (pc' := 24) m_124 rfl rfl rfl ?_))
        obtain ⟨g1, h⟩ := Ok_g h
        refine tr_iald (pc' := 25) m_124 rfl rfl rfl g1 rfl (ev_goto (pc' := 29) m_124 rfl rfl ?_)
        exact tr_ri m_124 rfl rfl (Ok_s h)
def cG_targetAt (l1 : Int32) (s : ts) : Option (Int32 × ts) := (if l1 < ((0 : Int32)) then some ((-2 : Int32), s) else (if (gI s 214 0) ≤ l1 then some ((-2 : Int32), s) else (if am_idx l1 512 = true then some (gA s 23 l1.toNatClampNeg, s) else none)))
set_option maxRecDepth 20000 in
theorem cG_targetAt_ok {d : Nat} (l1 : Int32) (s : ts) (Q : Int32 × ts → Prop) (h : Ok (cG_targetAt l1 s) Q) : am_Ev (d + 0) 126 (0, [(0, .ref 12), (1, .int (l1))], []) (lay s) (tq_i Q) := by
  unfold cG_targetAt at h
  refine ev_iload_n (pc' := 1) m_126 rfl rfl rfl ?_
  refine ev_if_lt (t := 21) (e := 4) m_126 rfl rfl rfl (fun c3 => ?_) (fun c3 => ?_)
  · replace h := Ok_t c3 h
    refine ev_bipush (pc' := 23) (x := -2) m_126 rfl rfl rfl ?_
    exact tr_ri m_126 rfl rfl (Ok_s h)
  · replace h := Ok_f c3 h
    refine ev_iload_n (pc' := 5) m_126 rfl rfl rfl (ev_aload_n (pc' := 6) m_126 rfl rfl rfl (tr_get (pc' := 9) (v := .int (gI _ 214 _)) m_126 rfl rfl ts_o12 rfl rfl rfl ?_))
    refine ev_icmp_ge (t := 21) (e := 12) m_126 rfl rfl rfl (fun c2 => ?_) (fun c2 => ?_)
    · replace h := Ok_t c2 h
      refine ev_bipush (pc' := 23) (x := -2) m_126 rfl rfl rfl ?_
      exact tr_ri m_126 rfl rfl (Ok_s h)
    · replace h := Ok_f c2 h
      refine ev_aload_n (pc' := 13) m_126 rfl rfl rfl (tr_get (pc' := 16) (v := .ref 23) m_126 rfl rfl ts_o12 rfl rfl rfl (ev_iload_n (pc' := 17) m_126 rfl rfl rfl ?_))
      obtain ⟨g1, h⟩ := Ok_g h
      refine tr_iald (pc' := 18) m_126 rfl rfl rfl g1 rfl (ev_goto (pc' := 23) m_126 rfl rfl ?_)
      exact tr_ri m_126 rfl rfl (Ok_s h)
def cG_actAt (l1 : Int32) (s : ts) : Option (Int32 × ts) := (if l1 < ((0 : Int32)) then some ((3 : Int32), s) else (if (gI s 214 0) ≤ l1 then some ((3 : Int32), s) else (if am_idx l1 512 = true then some (gA s 22 l1.toNatClampNeg, s) else none)))
set_option maxRecDepth 20000 in
theorem cG_actAt_ok {d : Nat} (l1 : Int32) (s : ts) (Q : Int32 × ts → Prop) (h : Ok (cG_actAt l1 s) Q) : am_Ev (d + 0) 127 (0, [(0, .ref 12), (1, .int (l1))], []) (lay s) (tq_i Q) := by
  unfold cG_actAt at h
  refine ev_iload_n (pc' := 1) m_127 rfl rfl rfl ?_
  refine ev_if_lt (t := 21) (e := 4) m_127 rfl rfl rfl (fun c3 => ?_) (fun c3 => ?_)
  · replace h := Ok_t c3 h
    refine ev_iconst (pc' := 22) (x := 3) m_127 rfl rfl rfl ?_
    exact tr_ri m_127 rfl rfl (Ok_s h)
  · replace h := Ok_f c3 h
    refine ev_iload_n (pc' := 5) m_127 rfl rfl rfl (ev_aload_n (pc' := 6) m_127 rfl rfl rfl (tr_get (pc' := 9) (v := .int (gI _ 214 _)) m_127 rfl rfl ts_o12 rfl rfl rfl ?_))
    refine ev_icmp_ge (t := 21) (e := 12) m_127 rfl rfl rfl (fun c2 => ?_) (fun c2 => ?_)
    · replace h := Ok_t c2 h
      refine ev_iconst (pc' := 22) (x := 3) m_127 rfl rfl rfl ?_
      exact tr_ri m_127 rfl rfl (Ok_s h)
    · replace h := Ok_f c2 h
      refine ev_aload_n (pc' := 13) m_127 rfl rfl rfl (tr_get (pc' := 16) (v := .ref 22) m_127 rfl rfl ts_o12 rfl rfl rfl (ev_iload_n (pc' := 17) m_127 rfl rfl rfl ?_))
      obtain ⟨g1, h⟩ := Ok_g h
      refine tr_iald (pc' := 18) m_127 rfl rfl rfl g1 rfl (ev_goto (pc' := 22) m_127 rfl rfl ?_)
      exact tr_ri m_127 rfl rfl (Ok_s h)
def cW_assign_20 (l2 : Int32) (l3 : Int32) (s : ts) : Option (ts) := (if l2 < ((8 : Int32)) then some s else (if ((24 : Int32)) ≤ l2 then some s else (if am_idx (l2 - ((8 : Int32))) 16 = true then some (wA s 36 (l2 - ((8 : Int32))).toNatClampNeg l3) else none)))
set_option maxRecDepth 20000 in
theorem cW_assign_20_ok {d : Nat} (l2 : Int32) (l3 : Int32) (s : ts) (Q : ts → Prop) (h : Ok (cW_assign_20 l2 l3 s) Q) : am_Ev (d + 0) 128 (20, [(0, .ref 35), (2, .int (l2)), (3, .int (l3))], []) (lay s) (tq_v Q) := by
  unfold cW_assign_20 at h
  refine ev_iload_n (pc' := 21) m_128 rfl rfl rfl (ev_bipush (pc' := 23) (x := 8) m_128 rfl rfl rfl ?_)
  refine ev_icmp_lt (t := 42) (e := 26) m_128 rfl rfl rfl (fun c3 => ?_) (fun c3 => ?_)
  · replace h := Ok_t c3 h
    exact tr_rv m_128 rfl rfl (Ok_s h)
  · replace h := Ok_f c3 h
    refine ev_iload_n (pc' := 27) m_128 rfl rfl rfl (ev_bipush (pc' := 29) (x := 24) m_128 rfl rfl rfl ?_)
    refine ev_icmp_ge (t := 42) (e := 32) m_128 rfl rfl rfl (fun c2 => ?_) (fun c2 => ?_)
    · replace h := Ok_t c2 h
      exact tr_rv m_128 rfl rfl (Ok_s h)
    · replace h := Ok_f c2 h
      refine ev_aload_n (pc' := 33) m_128 rfl rfl rfl (tr_get (pc' := 36) (v := .ref 36) m_128 rfl rfl ts_o35 rfl rfl rfl (ev_iload_n (pc' := 37) m_128 rfl rfl rfl (ev_bipush (pc' := 39) (x := 8) m_128 rfl rfl rfl (ev_isub (pc' := 40) m_128 rfl rfl (ev_iload_n (pc' := 41) m_128 rfl rfl rfl ?_)))))
      obtain ⟨g1, h⟩ := Ok_g h
      refine tr_iast (pc' := 42) m_128 rfl rfl rfl g1 rfl ?_
      exact tr_rv m_128 rfl rfl (Ok_s h)
def cW_assign (l1 : Nat) (l2 : Int32) (l3 : Int32) (s : ts) : Option (ts) := (if l2 < ((0 : Int32)) then cW_assign_20 l2 l3 s else (if ((8 : Int32)) ≤ l2 then cW_assign_20 l2 l3 s else (if l1 < gM s then (if am_idx l2 8 = true then some (wV s l1 l2.toNatClampNeg l3) else none) else none)))
set_option maxRecDepth 20000 in
theorem cW_assign_ok {d : Nat} (l1 : Nat) (l2 : Int32) (l3 : Int32) (s : ts) (Q : ts → Prop) (h : Ok (cW_assign l1 l2 l3 s) Q) : am_Ev (d + 0) 128 (0, [(0, .ref 35), (1, .ref (pB l1)), (2, .int (l2)), (3, .int (l3))], []) (lay s) (tq_v Q) := by
  unfold cW_assign at h
  refine ev_iload_n (pc' := 1) m_128 rfl rfl rfl ?_
  refine ev_if_lt (t := 20) (e := 4) m_128 rfl rfl rfl (fun c4 => ?_) (fun c4 => ?_)
  · replace h := Ok_t c4 h
    exact am_Ev.sub (L := [(0, .ref 35), (2, .int (l2)), (3, .int (l3))]) ⟨rfl, rfl, rfl, trivial⟩ (cW_assign_20_ok l2 l3 _ _ h)
  · replace h := Ok_f c4 h
    refine ev_iload_n (pc' := 5) m_128 rfl rfl rfl (ev_bipush (pc' := 7) (x := 8) m_128 rfl rfl rfl ?_)
    refine ev_icmp_ge (t := 20) (e := 10) m_128 rfl rfl rfl (fun c3 => ?_) (fun c3 => ?_)
    · replace h := Ok_t c3 h
      exact am_Ev.sub (L := [(0, .ref 35), (2, .int (l2)), (3, .int (l3))]) ⟨rfl, rfl, rfl, trivial⟩ (cW_assign_20_ok l2 l3 _ _ h)
    · replace h := Ok_f c3 h
      refine ev_aload_n (pc' := 11) m_128 rfl rfl rfl ?_
      obtain ⟨g1, h⟩ := Ok_g h
      refine tr_get (pc' := 14) (v := .ref (pV l1)) m_128 rfl rfl (ts_obB g1) rfl rfl rfl (ev_iload_n (pc' := 15) m_128 rfl rfl rfl (ev_iload_n (pc' := 16) m_128 rfl rfl rfl ?_))
      obtain ⟨g2, h⟩ := Ok_g h
      refine tr_vast (pc' := 17) m_128 rfl g1 g2 rfl (ev_goto (pc' := 42) m_128 rfl rfl ?_)
      exact tr_rv m_128 rfl rfl (Ok_s h)
def cH_isTimeAhead (l1 : Int32) (s : ts) : Option (Int32 × ts) := (if l1 < ((0 : Int32)) then some ((0 : Int32), s) else (if ((0 : Int32)) < (lg_cmp (((gI s 800 0).toInt64) + l1.toInt64) ((1000000000 : Int64))) then some ((0 : Int32), s) else some ((1 : Int32), s)))
set_option maxRecDepth 20000 in
theorem cH_isTimeAhead_ok {d : Nat} (l1 : Int32) (s : ts) (Q : Int32 × ts → Prop) (h : Ok (cH_isTimeAhead l1 s) Q) : am_Ev (d + 0) 130 (0, [(0, .ref 34), (1, .int (l1))], []) (lay s) (tq_i Q) := by
  unfold cH_isTimeAhead at h
  refine ev_iload_n (pc' := 1) m_130 rfl rfl rfl ?_
  refine ev_if_lt (t := 26) (e := 4) m_130 rfl rfl rfl (fun c2 => ?_) (fun c2 => ?_)
  · replace h := Ok_t c2 h
    refine ev_iconst (pc' := 27) (x := 0) m_130 rfl rfl rfl ?_
    exact tr_rz m_130 rfl rfl (Or.inl rfl) (Ok_s h)
  · replace h := Ok_f c2 h
    refine ev_aload_n (pc' := 5) m_130 rfl rfl rfl (tr_get (pc' := 8) (v := .ref 35) m_130 rfl rfl ts_o34 rfl rfl rfl (tr_get (pc' := 11) (v := .int (gI _ 800 _)) m_130 rfl rfl ts_o35 rfl rfl rfl (ev_i2l (pc' := 12) m_130 rfl rfl (ev_iload_n (pc' := 13) m_130 rfl rfl rfl (ev_i2l (pc' := 14) m_130 rfl rfl (ev_ladd (pc' := 15) m_130 rfl rfl (tr_ldc2 (pc' := 18) m_130 rfl rfl rfl ?_)))))))
    refine ev_lcmp (pc' := 19) m_130 rfl rfl ?_
    refine ev_if_gt (t := 26) (e := 22) m_130 rfl rfl rfl (fun c1 => ?_) (fun c1 => ?_)
    · replace h := Ok_t c1 h
      refine ev_iconst (pc' := 27) (x := 0) m_130 rfl rfl rfl ?_
      exact tr_rz m_130 rfl rfl (Or.inl rfl) (Ok_s h)
    · replace h := Ok_f c1 h
      refine ev_iconst (pc' := 23) (x := 1) m_130 rfl rfl rfl (ev_goto (pc' := 27) m_130 rfl rfl ?_)
      exact tr_rz m_130 rfl rfl (Or.inr rfl) (Ok_s h)
def cH_hold (l1 : Nat) (l2 : Int32) (s : ts) : Option (Int32 × ts) := (cH_isTimeAhead l2 s).bind (fun x3 => (if x3.1 = ((0 : Int32)) then some ((2 : Int32), x3.2) else (cO_putInCalendar l1 ((1 : Int32)) ((gI x3.2 800 0) + l2) x3.2).bind (fun s5 => some ((0 : Int32), s5))))
set_option maxRecDepth 20000 in
theorem cH_hold_ok {d : Nat} (l1 : Nat) (l2 : Int32) (s : ts) (Q : Int32 × ts → Prop) (h : Ok (cH_hold l1 l2 s) Q) : am_Ev (d + 2) 129 (0, [(0, .ref 34), (1, .ref (pB l1)), (2, .int (l2))], []) (lay s) (tq_i Q) := by
  unfold cH_hold at h
  refine ev_aload_n (pc' := 1) m_129 rfl rfl rfl (ev_iload_n (pc' := 2) m_129 rfl rfl rfl ?_)
  refine tr_cz (pc' := 5) m_129 rfl rfl rfl m_130 rfl rfl rfl rfl rfl (tr_rcv ts_o34 rfl) rfl rfl (cH_isTimeAhead_ok l2 _ _ (Ok_b h)) (fun x3_ x3_s h1 h => ?_)
  refine ev_if_ne (t := 10) (e := 8) m_129 rfl rfl rfl (fun c7 => ?_) (fun c7 => ?_)
  · replace h := Ok_f c7 h
    refine ev_aload_n (pc' := 11) m_129 rfl rfl rfl (tr_get (pc' := 14) (v := .ref 81) m_129 rfl rfl ts_o34 rfl rfl rfl (ev_aload_n (pc' := 15) m_129 rfl rfl rfl (ev_iconst (pc' := 16) (x := 1) m_129 rfl rfl rfl (ev_aload_n (pc' := 17) m_129 rfl rfl rfl (tr_get (pc' := 20) (v := .ref 35) m_129 rfl rfl ts_o34 rfl rfl rfl (tr_get (pc' := 23) (v := .int (gI _ 800 _)) m_129 rfl rfl ts_o35 rfl rfl rfl (ev_iload_n (pc' := 24) m_129 rfl rfl rfl ?_)))))))
    refine ev_iadd (pc' := 25) m_129 rfl rfl ?_
    refine tr_cv (pc' := 28) m_129 rfl rfl rfl m_102 rfl rfl rfl rfl (tr_rcv ts_o81 rfl) rfl rfl (cO_putInCalendar_ok l1 ((1 : Int32)) ((gI x3_s 800 0) + l2) _ _ (Ok_b h)) (fun s5 h => ?_)
    refine ev_iconst (pc' := 29) (x := 0) m_129 rfl rfl rfl ?_
    exact tr_ri m_129 rfl rfl (Ok_s h)
  · replace h := Ok_t c7 h
    refine ev_iconst (pc' := 9) (x := 2) m_129 rfl rfl rfl ?_
    exact tr_ri m_129 rfl rfl (Ok_s h)
def cO_makeWait (l1 : Nat) (l2 : Int32) (l3 : Int32) (s : ts) : Option (ts) := (if l1 < gM s then (cW_placeAt l3 (wI (wI (wI s 502 l1 l2) 510 l1 (gI (wI s 502 l1 l2) 800 0)) 511 l1 l3)).bind (fun x4 => match x4.1 with
  | none => some x4.2
  | some q5 => (if q5 < 14 then (cK_waiting q5 x4.2).bind (fun x9 => some (wI x9.2 707 q5 (if gI x4.2 707 q5 < x9.1 then x9.1 else gI x4.2 707 q5))) else none)) else none)
set_option maxRecDepth 20000 in
theorem cO_makeWait_ok {d : Nat} (l1 : Nat) (l2 : Int32) (l3 : Int32) (s : ts) (Q : ts → Prop) (h : Ok (cO_makeWait l1 l2 l3 s) Q) : am_Ev (d + 1) 132 (0, [(0, .ref 81), (1, .ref (pB l1)), (2, .int (l2)), (3, .int (l3))], []) (lay s) (tq_v Q) := by
  unfold cO_makeWait at h
  refine ev_aload_n (pc' := 1) m_132 rfl rfl rfl (ev_iload_n (pc' := 2) m_132 rfl rfl rfl ?_)
  obtain ⟨g1, h⟩ := Ok_g h
  refine tr_pI (pc' := 5) (f := 502) m_132 rfl rfl rfl (ts_obB g1) rfl rfl rfl rfl (ev_aload_n (pc' := 6) m_132 rfl rfl rfl (ev_aload_n (pc' := 7) m_132 rfl rfl rfl (tr_get (pc' := 10) (v := .ref 35) m_132 rfl rfl ts_o81 rfl rfl rfl (tr_get (pc' := 13) (v := .int (gI _ 800 _)) m_132 rfl rfl ts_o35 rfl rfl rfl (tr_pI (pc' := 16) (f := 510) m_132 rfl rfl rfl (ts_obB g1) rfl rfl rfl rfl (ev_aload_n (pc' := 17) m_132 rfl rfl rfl (ev_iload_n (pc' := 18) m_132 rfl rfl rfl ?_)))))))
  refine tr_pI (pc' := 21) (f := 511) m_132 rfl rfl rfl (ts_obB g1) rfl rfl rfl rfl (ev_aload_n (pc' := 22) m_132 rfl rfl rfl (tr_get (pc' := 25) (v := .ref 35) m_132 rfl rfl ts_o81 rfl rfl rfl (ev_iload_n (pc' := 26) m_132 rfl rfl rfl ?_)))
  refine tr_cr (pc' := 29) m_132 rfl rfl rfl m_118 rfl rfl rfl rfl (tr_rcv ts_o35 rfl) rfl rfl (cW_placeAt_ok l3 _ _ (Ok_b h)) (fun x4_s h => ?_) (fun q5 x4_s h => ?_)
  · dsimp only at h
    refine ev_astoreN (pc' := 31) m_132 rfl rfl rfl rfl (ev_aloadN (pc' := 33) m_132 rfl rfl rfl (ev_nulY (t := 54) m_132 rfl rfl ?_))
    exact tr_rv m_132 rfl rfl (Ok_s h)
  · dsimp only at h
    refine ev_astore (pc' := 31) m_132 rfl rfl rfl rfl (ev_aload (pc' := 33) m_132 rfl rfl rfl (ev_nulN (e := 36) m_132 rfl rfl (ev_aload (pc' := 38) m_132 rfl rfl rfl (ev_aload (pc' := 40) m_132 rfl rfl rfl ?_))))
    obtain ⟨g6, h⟩ := Ok_g h
    refine tr_get (pc' := 43) (v := .int (gI _ 707 _)) m_132 rfl rfl (ts_obQ g6) rfl rfl rfl (ev_aload (pc' := 45) m_132 rfl rfl rfl ?_)
    refine tr_ci (pc' := 48) m_132 rfl rfl rfl m_119 rfl rfl rfl rfl (tr_rcv (ts_obQ g6) rfl) rfl rfl (cK_waiting_ok q5 _ _ (Ok_b h)) (fun x9_ x9_s h => ?_)
    refine ev_prm (pc' := 51) m_132 rfl rfl rfl rfl rfl rfl rfl (tr_pI (pc' := 54) (f := 707) m_132 rfl rfl rfl (ts_obQ g6) rfl rfl rfl rfl ?_)
    exact tr_rv m_132 rfl rfl (Ok_s h)
def cO_seize (l1 : Nat) (l2 : Int32) (l3 : Int32) (s : ts) : Option (ts) := (cW_placeAt l2 s).bind (fun x3 => match x3.1 with
  | none => some x3.2
  | some q4 => (if l2 < ((8 : Int32)) then (if q4 < 14 then (if (gI x3.2 703 q4) ≤ ((0 : Int32)) then (cN_join (2 * q4) l1 l3 x3.2).bind (fun s7 => (cO_makeWait l1 ((2 : Int32)) l2 s7).bind (fun s10 => some s10)) else (if l1 < gM x3.2 then (if am_idx l2 8 = true then some (wI (wU (wI x3.2 703 q4 ((gI x3.2 703 q4) - ((1 : Int32)))) l1 l2.toNatClampNeg ((gU (wI x3.2 703 q4 ((gI x3.2 703 q4) - ((1 : Int32)))) l1 l2.toNatClampNeg) + ((1 : Int32)))) 705 q4 ((gI (wU (wI x3.2 703 q4 ((gI x3.2 703 q4) - ((1 : Int32)))) l1 l2.toNatClampNeg ((gU (wI x3.2 703 q4 ((gI x3.2 703 q4) - ((1 : Int32)))) l1 l2.toNatClampNeg) + ((1 : Int32)))) 705 q4) + ((1 : Int32)))) else none) else none)) else none) else some x3.2))
set_option maxRecDepth 20000 in
theorem cO_seize_ok {d : Nat} (l1 : Nat) (l2 : Int32) (l3 : Int32) (s : ts) (Q : ts → Prop) (h : Ok (cO_seize l1 l2 l3 s) Q) : am_Ev (d + 2) 131 (0, [(0, .ref 81), (1, .ref (pB l1)), (2, .int (l2)), (3, .int (l3))], []) (lay s) (tq_v Q) := by
  unfold cO_seize at h
  refine ev_aload_n (pc' := 1) m_131 rfl rfl rfl (tr_get (pc' := 4) (v := .ref 35) m_131 rfl rfl ts_o81 rfl rfl rfl (ev_iload_n (pc' := 5) m_131 rfl rfl rfl ?_))
  refine tr_cr (pc' := 8) m_131 rfl rfl rfl m_118 rfl rfl rfl rfl (tr_rcv ts_o35 rfl) rfl rfl (cW_placeAt_ok l2 _ _ (Ok_b h)) (fun x3_s h => ?_) (fun q4 x3_s h => ?_)
  · dsimp only at h
    refine ev_astoreN (pc' := 10) m_131 rfl rfl rfl rfl (ev_aloadN (pc' := 12) m_131 rfl rfl rfl (ev_nulY (t := 21) m_131 rfl rfl ?_))
    exact tr_rv m_131 rfl rfl (Ok_s h)
  · dsimp only at h
    refine ev_astore (pc' := 10) m_131 rfl rfl rfl rfl (ev_aload (pc' := 12) m_131 rfl rfl rfl (ev_nulN (e := 15) m_131 rfl rfl (ev_iload_n (pc' := 16) m_131 rfl rfl rfl (ev_bipush (pc' := 18) (x := 8) m_131 rfl rfl rfl ?_))))
    refine ev_icmp_lt (t := 22) (e := 21) m_131 rfl rfl rfl (fun c15 => ?_) (fun c15 => ?_)
    · replace h := Ok_t c15 h
      refine ev_aload (pc' := 24) m_131 rfl rfl rfl ?_
      obtain ⟨g5, h⟩ := Ok_g h
      refine tr_get (pc' := 27) (v := .int (gI _ 703 _)) m_131 rfl rfl (ts_obQ g5) rfl rfl rfl ?_
      refine ev_if_le (t := 63) (e := 30) m_131 rfl rfl rfl (fun c14 => ?_) (fun c14 => ?_)
      · replace h := Ok_t c14 h
        refine ev_aload (pc' := 65) m_131 rfl rfl rfl (tr_get (pc' := 68) (v := .ref (pL (2 * q4))) m_131 rfl rfl (ts_obQ g5) rfl rfl rfl (ev_aload_n (pc' := 69) m_131 rfl rfl rfl (ev_iload_n (pc' := 70) m_131 rfl rfl rfl ?_)))
        refine tr_cv (pc' := 73) m_131 rfl rfl rfl m_104 rfl rfl rfl rfl (tr_rcv (ts_obL (by have := g5; omega)) rfl) rfl rfl (cN_join_ok (2 * q4) l1 l3 _ _ (Ok_b h)) (fun s7 h => ?_)
        refine ev_aload_n (pc' := 74) m_131 rfl rfl rfl (ev_aload_n (pc' := 75) m_131 rfl rfl rfl (ev_iconst (pc' := 76) (x := 2) m_131 rfl rfl rfl (ev_iload_n (pc' := 77) m_131 rfl rfl rfl ?_)))
        refine tr_cv (pc' := 80) m_131 rfl rfl rfl m_132 rfl rfl rfl rfl (tr_rcv ts_o81 rfl) rfl rfl (cO_makeWait_ok l1 ((2 : Int32)) l2 _ _ (Ok_b h)) (fun s10 h => ?_)
        exact tr_rv m_131 rfl rfl (Ok_s h)
      · replace h := Ok_f c14 h
        refine ev_aload (pc' := 32) m_131 rfl rfl rfl (ev_dup (pc' := 33) m_131 rfl rfl rfl (tr_get (pc' := 36) (v := .int (gI _ 703 _)) m_131 rfl rfl (ts_obQ g5) rfl rfl rfl (ev_iconst (pc' := 37) (x := 1) m_131 rfl rfl rfl (ev_isub (pc' := 38) m_131 rfl rfl (tr_pI (pc' := 41) (f := 703) m_131 rfl rfl rfl (ts_obQ g5) rfl rfl rfl rfl (ev_aload_n (pc' := 42) m_131 rfl rfl rfl ?_))))))
        obtain ⟨g12, h⟩ := Ok_g h
        refine tr_get (pc' := 45) (v := .ref (pU l1)) m_131 rfl rfl (ts_obB g12) rfl rfl rfl (ev_iload_n (pc' := 46) m_131 rfl rfl rfl (ev_dup2 (pc' := 47) m_131 rfl ⟨rfl, rfl⟩ rfl ?_))
        obtain ⟨g13, h⟩ := Ok_g h
        refine tr_uald (pc' := 48) m_131 rfl g12 g13 rfl (ev_iconst (pc' := 49) (x := 1) m_131 rfl rfl rfl (ev_iadd (pc' := 50) m_131 rfl rfl (tr_uast (pc' := 51) m_131 rfl g12 g13 rfl (ev_aload (pc' := 53) m_131 rfl rfl rfl (ev_dup (pc' := 54) m_131 rfl rfl rfl (tr_get (pc' := 57) (v := .int (gI _ 705 _)) m_131 rfl rfl (ts_obQ g5) rfl rfl rfl (ev_iconst (pc' := 58) (x := 1) m_131 rfl rfl rfl ?_)))))))
        refine ev_iadd (pc' := 59) m_131 rfl rfl (tr_pI (pc' := 62) (f := 705) m_131 rfl rfl rfl (ts_obQ g5) rfl rfl rfl rfl ?_)
        exact tr_rv m_131 rfl rfl (Ok_s h)
    · replace h := Ok_f c15 h
      exact tr_rv m_131 rfl rfl (Ok_s h)
def cK_countLate (l0 : Nat) (l1 : Int64) (s : ts) : Option (ts) := (if l0 < 14 then some (wJ (wI (wI s 705 l0 ((gI s 705 l0) + ((1 : Int32)))) 706 l0 ((gI (wI s 705 l0 ((gI s 705 l0) + ((1 : Int32)))) 706 l0) + ((1 : Int32)))) 710 l0 ((gJ (wI (wI s 705 l0 ((gI s 705 l0) + ((1 : Int32)))) 706 l0 ((gI (wI s 705 l0 ((gI s 705 l0) + ((1 : Int32)))) 706 l0) + ((1 : Int32)))) 710 l0) + l1)) else none)
set_option maxRecDepth 20000 in
theorem cK_countLate_ok {d : Nat} (l0 : Nat) (l1 : Int64) (s : ts) (Q : ts → Prop) (h : Ok (cK_countLate l0 l1 s) Q) : am_Ev (d + 0) 134 (0, [(0, .ref (pQ l0)), (1, .long (l1))], []) (lay s) (tq_v Q) := by
  unfold cK_countLate at h
  refine ev_aload_n (pc' := 1) m_134 rfl rfl rfl (ev_dup (pc' := 2) m_134 rfl rfl rfl ?_)
  obtain ⟨g1, h⟩ := Ok_g h
  refine tr_get (pc' := 5) (v := .int (gI _ 705 _)) m_134 rfl rfl (ts_obQ g1) rfl rfl rfl (ev_iconst (pc' := 6) (x := 1) m_134 rfl rfl rfl (ev_iadd (pc' := 7) m_134 rfl rfl (tr_pI (pc' := 10) (f := 705) m_134 rfl rfl rfl (ts_obQ g1) rfl rfl rfl rfl (ev_aload_n (pc' := 11) m_134 rfl rfl rfl (ev_dup (pc' := 12) m_134 rfl rfl rfl (tr_get (pc' := 15) (v := .int (gI _ 706 _)) m_134 rfl rfl (ts_obQ g1) rfl rfl rfl (ev_iconst (pc' := 16) (x := 1) m_134 rfl rfl rfl ?_)))))))
  refine ev_iadd (pc' := 17) m_134 rfl rfl (tr_pI (pc' := 20) (f := 706) m_134 rfl rfl rfl (ts_obQ g1) rfl rfl rfl rfl (ev_aload_n (pc' := 21) m_134 rfl rfl rfl (ev_dup (pc' := 22) m_134 rfl rfl rfl (tr_get (pc' := 25) (v := .long (gJ _ 710 _)) m_134 rfl rfl (ts_obQ g1) rfl rfl rfl (ev_lload_n (pc' := 26) m_134 rfl rfl rfl (ev_ladd (pc' := 27) m_134 rfl rfl (tr_pJ (pc' := 30) (f := 710) m_134 rfl rfl rfl (ts_obQ g1) rfl rfl rfl rfl ?_)))))))
  exact tr_rv m_134 rfl rfl (Ok_s h)
def cO_giveBack (l1 : Nat) (l2 : Int32) (s : ts) : Option (Int32 × ts) := (cW_placeAt l2 s).bind (fun x3 => match x3.1 with
  | none => some ((0 : Int32), x3.2)
  | some q4 => (if ((8 : Int32)) ≤ l2 then some ((0 : Int32), x3.2) else (if l1 < gM x3.2 then (if am_idx l2 8 = true then (if ((0 : Int32)) < (gU x3.2 l1 l2.toNatClampNeg) then (if q4 < 14 then (match gR (wU x3.2 l1 l2.toNatClampNeg ((gU x3.2 l1 l2.toNatClampNeg) - ((1 : Int32)))) 600 (2 * q4) with
  | none => some ((1 : Int32), wI (wU x3.2 l1 l2.toNatClampNeg ((gU x3.2 l1 l2.toNatClampNeg) - ((1 : Int32)))) 703 q4 ((gI (wU x3.2 l1 l2.toNatClampNeg ((gU x3.2 l1 l2.toNatClampNeg) - ((1 : Int32)))) 703 q4) + ((1 : Int32))))
  | some r8 => (if r8 < gM x3.2 then (cK_countLate q4 (((gI (wU (wU x3.2 l1 l2.toNatClampNeg ((gU x3.2 l1 l2.toNatClampNeg) - ((1 : Int32)))) r8 l2.toNatClampNeg ((gU (wU x3.2 l1 l2.toNatClampNeg ((gU x3.2 l1 l2.toNatClampNeg) - ((1 : Int32)))) r8 l2.toNatClampNeg) + ((1 : Int32)))) 800 0) - (gI (wU (wU x3.2 l1 l2.toNatClampNeg ((gU x3.2 l1 l2.toNatClampNeg) - ((1 : Int32)))) r8 l2.toNatClampNeg ((gU (wU x3.2 l1 l2.toNatClampNeg ((gU x3.2 l1 l2.toNatClampNeg) - ((1 : Int32)))) r8 l2.toNatClampNeg) + ((1 : Int32)))) 510 r8)).toInt64) (wU (wU x3.2 l1 l2.toNatClampNeg ((gU x3.2 l1 l2.toNatClampNeg) - ((1 : Int32)))) r8 l2.toNatClampNeg ((gU (wU x3.2 l1 l2.toNatClampNeg ((gU x3.2 l1 l2.toNatClampNeg) - ((1 : Int32)))) r8 l2.toNatClampNeg) + ((1 : Int32))))).bind (fun s12 => (cO_putInCalendar r8 ((0 : Int32)) (gI s12 800 0) s12).bind (fun s15 => some ((1 : Int32), s15))) else none)) else none) else some ((0 : Int32), x3.2)) else none) else none)))
set_option maxRecDepth 20000 in
theorem cO_giveBack_ok {d : Nat} (l1 : Nat) (l2 : Int32) (s : ts) (Q : Int32 × ts → Prop) (h : Ok (cO_giveBack l1 l2 s) Q) : am_Ev (d + 2) 133 (0, [(0, .ref 81), (1, .ref (pB l1)), (2, .int (l2))], []) (lay s) (tq_i Q) := by
  unfold cO_giveBack at h
  refine ev_aload_n (pc' := 1) m_133 rfl rfl rfl (tr_get (pc' := 4) (v := .ref 35) m_133 rfl rfl ts_o81 rfl rfl rfl (ev_iload_n (pc' := 5) m_133 rfl rfl rfl ?_))
  refine tr_cr (pc' := 8) m_133 rfl rfl rfl m_118 rfl rfl rfl rfl (tr_rcv ts_o35 rfl) rfl rfl (cW_placeAt_ok l2 _ _ (Ok_b h)) (fun x3_s h => ?_) (fun q4 x3_s h => ?_)
  · dsimp only at h
    refine ev_astore_nN (pc' := 9) m_133 rfl rfl rfl rfl (ev_aload_nN (pc' := 10) m_133 rfl rfl rfl (ev_nulY (t := 28) m_133 rfl rfl (ev_iconst (pc' := 29) (x := 0) m_133 rfl rfl rfl ?_)))
    exact tr_rz m_133 rfl rfl (Or.inl rfl) (Ok_s h)
  · dsimp only at h
    refine ev_astore_n (pc' := 9) m_133 rfl rfl rfl rfl (ev_aload_n (pc' := 10) m_133 rfl rfl rfl (ev_nulN (e := 13) m_133 rfl rfl (ev_iload_n (pc' := 14) m_133 rfl rfl rfl (ev_bipush (pc' := 16) (x := 8) m_133 rfl rfl rfl ?_))))
    refine ev_icmp_ge (t := 28) (e := 19) m_133 rfl rfl rfl (fun c18 => ?_) (fun c18 => ?_)
    · replace h := Ok_t c18 h
      refine ev_iconst (pc' := 29) (x := 0) m_133 rfl rfl rfl ?_
      exact tr_rz m_133 rfl rfl (Or.inl rfl) (Ok_s h)
    · replace h := Ok_f c18 h
      refine ev_aload_n (pc' := 20) m_133 rfl rfl rfl ?_
      obtain ⟨g5, h⟩ := Ok_g h
      refine tr_get (pc' := 23) (v := .ref (pU l1)) m_133 rfl rfl (ts_obB g5) rfl rfl rfl (ev_iload_n (pc' := 24) m_133 rfl rfl rfl ?_)
      obtain ⟨g6, h⟩ := Ok_g h
      refine tr_uald (pc' := 25) m_133 rfl g5 g6 rfl ?_
      refine ev_if_gt (t := 30) (e := 28) m_133 rfl rfl rfl (fun c17 => ?_) (fun c17 => ?_)
      · replace h := Ok_t c17 h
        refine ev_aload_n (pc' := 31) m_133 rfl rfl rfl (tr_get (pc' := 34) (v := .ref (pU l1)) m_133 rfl rfl (ts_obB g5) rfl rfl rfl (ev_iload_n (pc' := 35) m_133 rfl rfl rfl (ev_dup2 (pc' := 36) m_133 rfl ⟨rfl, rfl⟩ rfl (tr_uald (pc' := 37) m_133 rfl g5 g6 rfl (ev_iconst (pc' := 38) (x := 1) m_133 rfl rfl rfl (ev_isub (pc' := 39) m_133 rfl rfl (tr_uast (pc' := 40) m_133 rfl g5 g6 rfl ?_)))))))
        refine ev_aload_n (pc' := 41) m_133 rfl rfl rfl ?_
        obtain ⟨g7, h⟩ := Ok_g h
        refine tr_get (pc' := 44) (v := .ref (pL (2 * q4))) m_133 rfl rfl (ts_obQ g7) rfl rfl rfl ?_
        cases e9 : gR (wU x3_s l1 l2.toNatClampNeg ((gU x3_s l1 l2.toNatClampNeg) - ((1 : Int32)))) 600 (2 * q4) with
        | none =>
          rw [e9] at h
          dsimp only at h
          refine tr_getN (pc' := 47) (f := 600) (g := pB) m_133 rfl rfl (ts_obL (by have := g7; omega)) rfl rfl e9 rfl ?_
          refine ev_astoreN (pc' := 49) m_133 rfl rfl rfl rfl (ev_aloadN (pc' := 51) m_133 rfl rfl rfl (ev_nnlN (e := 54) m_133 rfl rfl (ev_aload_n (pc' := 55) m_133 rfl rfl rfl (ev_dup (pc' := 56) m_133 rfl rfl rfl (tr_get (pc' := 59) (v := .int (gI _ 703 _)) m_133 rfl rfl (ts_obQ g7) rfl rfl rfl (ev_iconst (pc' := 60) (x := 1) m_133 rfl rfl rfl (ev_iadd (pc' := 61) m_133 rfl rfl ?_)))))))
          refine tr_pI (pc' := 64) (f := 703) m_133 rfl rfl rfl (ts_obQ g7) rfl rfl rfl rfl (ev_iconst (pc' := 65) (x := 1) m_133 rfl rfl rfl ?_)
          exact tr_rz m_133 rfl rfl (Or.inr rfl) (Ok_s h)
        | some r8 =>
          rw [e9] at h
          dsimp only at h
          refine tr_getS (pc' := 47) (f := 600) (g := pB) m_133 rfl rfl (ts_obL (by have := g7; omega)) rfl rfl e9 rfl ?_
          refine ev_astore (pc' := 49) m_133 rfl rfl rfl rfl (ev_aload (pc' := 51) m_133 rfl rfl rfl (ev_nnlY (t := 66) m_133 rfl rfl (ev_aload (pc' := 68) m_133 rfl rfl rfl ?_)))
          obtain ⟨g10, h⟩ := Ok_g h
          refine tr_get (pc' := 71) (v := .ref (pU r8)) m_133 rfl rfl (ts_obB g10) rfl rfl rfl (ev_iload_n (pc' := 72) m_133 rfl rfl rfl (ev_dup2 (pc' := 73) m_133 rfl ⟨rfl, rfl⟩ rfl (tr_uald (pc' := 74) m_133 rfl g10 g6 rfl (ev_iconst (pc' := 75) (x := 1) m_133 rfl rfl rfl (ev_iadd (pc' := 76) m_133 rfl rfl (tr_uast (pc' := 77) m_133 rfl g10 g6 rfl (ev_aload_n (pc' := 78) m_133 rfl rfl rfl ?_)))))))
          refine ev_aload_n (pc' := 79) m_133 rfl rfl rfl (tr_get (pc' := 82) (v := .ref 35) m_133 rfl rfl ts_o81 rfl rfl rfl (tr_get (pc' := 85) (v := .int (gI _ 800 _)) m_133 rfl rfl ts_o35 rfl rfl rfl (ev_aload (pc' := 87) m_133 rfl rfl rfl (tr_get (pc' := 90) (v := .int (gI _ 510 _)) m_133 rfl rfl (ts_obB g10) rfl rfl rfl (ev_isub (pc' := 91) m_133 rfl rfl (ev_i2l (pc' := 92) m_133 rfl rfl ?_))))))
          refine tr_cv (pc' := 95) m_133 rfl rfl rfl m_134 rfl rfl rfl rfl (tr_rcv (ts_obQ g7) rfl) rfl rfl (cK_countLate_ok q4 (((gI (wU (wU x3_s l1 l2.toNatClampNeg ((gU x3_s l1 l2.toNatClampNeg) - ((1 : Int32)))) r8 l2.toNatClampNeg ((gU (wU x3_s l1 l2.toNatClampNeg ((gU x3_s l1 l2.toNatClampNeg) - ((1 : Int32)))) r8 l2.toNatClampNeg) + ((1 : Int32)))) 800 0) - (gI (wU (wU x3_s l1 l2.toNatClampNeg ((gU x3_s l1 l2.toNatClampNeg) - ((1 : Int32)))) r8 l2.toNatClampNeg ((gU (wU x3_s l1 l2.toNatClampNeg ((gU x3_s l1 l2.toNatClampNeg) - ((1 : Int32)))) r8 l2.toNatClampNeg) + ((1 : Int32)))) 510 r8)).toInt64) _ _ (Ok_b h)) (fun s12 h => ?_)
          refine ev_aload_n (pc' := 96) m_133 rfl rfl rfl (ev_aload (pc' := 98) m_133 rfl rfl rfl (ev_iconst (pc' := 99) (x := 0) m_133 rfl rfl rfl (ev_aload_n (pc' := 100) m_133 rfl rfl rfl (tr_get (pc' := 103) (v := .ref 35) m_133 rfl rfl ts_o81 rfl rfl rfl (tr_get (pc' := 106) (v := .int (gI _ 800 _)) m_133 rfl rfl ts_o35 rfl rfl rfl ?_)))))
          refine tr_cv (pc' := 109) m_133 rfl rfl rfl m_102 rfl rfl rfl rfl (tr_rcv ts_o81 rfl) rfl rfl (cO_putInCalendar_ok r8 ((0 : Int32)) (gI s12 800 0) _ _ (Ok_b h)) (fun s15 h => ?_)
          refine ev_iconst (pc' := 110) (x := 1) m_133 rfl rfl rfl ?_
          exact tr_rz m_133 rfl rfl (Or.inr rfl) (Ok_s h)
      · replace h := Ok_f c17 h
        refine ev_iconst (pc' := 29) (x := 0) m_133 rfl rfl rfl ?_
        exact tr_rz m_133 rfl rfl (Or.inl rfl) (Ok_s h)
