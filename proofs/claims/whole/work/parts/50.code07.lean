/-! THE METHODS AS FUNCTIONS, printed by wip/tools/decomp.py; the machine does what they say. -/
def cN_takeFirst (l0 : Nat) (s : ts) : Option (Option Nat × ts) := (if l0 < 30 then (match gR s 600 l0 with
  | none => some (none, s)
  | some r2 => (if r2 < gM s then (match gR s 509 r2 with
  | none => some (some r2, wI (wR (wR (wR s 600 l0 none) 509 r2 none) 507 r2 none) 601 l0 ((gI (wR (wR (wR s 600 l0 none) 509 r2 none) 507 r2 none) 601 l0) - ((1 : Int32))))
  | some r5 => some (some r2, wI (wR (wR (wR s 600 l0 (some r5)) 509 r2 none) 507 r2 none) 601 l0 ((gI (wR (wR (wR s 600 l0 (some r5)) 509 r2 none) 507 r2 none) 601 l0) - ((1 : Int32))))) else none)) else none)
set_option maxRecDepth 20000 in
theorem cN_takeFirst_ok {d : Nat} (l0 : Nat) (s : ts) (Q : Option Nat × ts → Prop) (h : Ok (cN_takeFirst l0 s) Q) : am_Ev (d + 0) 138 (0, [(0, .ref (pL l0))], []) (lay s) (tq_r pB Q) := by
  unfold cN_takeFirst at h
  refine ev_aload_n (pc' := 1) m_138 rfl rfl rfl ?_
  obtain ⟨g1, h⟩ := Ok_g h
  cases e3 : gR s 600 l0 with
  | none =>
    rw [e3] at h
    dsimp only at h
    refine tr_getN (pc' := 4) (f := 600) (g := pB) m_138 rfl rfl (ts_obL g1) rfl rfl e3 rfl ?_
    refine ev_astore_nN (pc' := 5) m_138 rfl rfl rfl rfl (ev_aload_nN (pc' := 6) m_138 rfl rfl rfl (ev_nulY (t := 37) m_138 rfl rfl (ev_aload_nN (pc' := 38) m_138 rfl rfl rfl ?_)))
    exact tr_rn m_138 rfl rfl (Ok_s h)
  | some r2 =>
    rw [e3] at h
    dsimp only at h
    refine tr_getS (pc' := 4) (f := 600) (g := pB) m_138 rfl rfl (ts_obL g1) rfl rfl e3 rfl ?_
    refine ev_astore_n (pc' := 5) m_138 rfl rfl rfl rfl (ev_aload_n (pc' := 6) m_138 rfl rfl rfl (ev_nulN (e := 9) m_138 rfl rfl (ev_aload_n (pc' := 10) m_138 rfl rfl rfl (ev_aload_n (pc' := 11) m_138 rfl rfl rfl ?_))))
    obtain ⟨g4, h⟩ := Ok_g h
    cases e6 : gR s 509 r2 with
    | none =>
      rw [e6] at h
      dsimp only at h
      refine tr_getN (pc' := 14) (f := 509) (g := pB) m_138 rfl rfl (ts_obB g4) rfl rfl e6 rfl ?_
      refine tr_pN (pc' := 17) (f := 600) m_138 rfl rfl rfl (ts_obL g1) rfl rfl rfl rfl rfl (ev_aload_n (pc' := 18) m_138 rfl rfl rfl (ev_null (pc' := 19) m_138 rfl rfl (tr_pN (pc' := 22) (f := 509) m_138 rfl rfl rfl (ts_obB g4) rfl rfl rfl rfl rfl (ev_aload_n (pc' := 23) m_138 rfl rfl rfl (ev_null (pc' := 24) m_138 rfl rfl (tr_pN (pc' := 27) (f := 507) m_138 rfl rfl rfl (ts_obB g4) rfl rfl rfl rfl rfl (ev_aload_n (pc' := 28) m_138 rfl rfl rfl ?_)))))))
      refine ev_dup (pc' := 29) m_138 rfl rfl rfl (tr_get (pc' := 32) (v := .int (gI _ 601 _)) m_138 rfl rfl (ts_obL g1) rfl rfl rfl (ev_iconst (pc' := 33) (x := 1) m_138 rfl rfl rfl (ev_isub (pc' := 34) m_138 rfl rfl (tr_pI (pc' := 37) (f := 601) m_138 rfl rfl rfl (ts_obL g1) rfl rfl rfl rfl (ev_aload_n (pc' := 38) m_138 rfl rfl rfl ?_)))))
      exact tr_rr m_138 rfl rfl (Ok_s h)
    | some r5 =>
      rw [e6] at h
      dsimp only at h
      refine tr_getS (pc' := 14) (f := 509) (g := pB) m_138 rfl rfl (ts_obB g4) rfl rfl e6 rfl ?_
      refine tr_pR (pc' := 17) (f := 600) (p := r5) m_138 rfl rfl rfl (ts_obL g1) rfl rfl rfl rfl rfl rfl (ev_aload_n (pc' := 18) m_138 rfl rfl rfl (ev_null (pc' := 19) m_138 rfl rfl (tr_pN (pc' := 22) (f := 509) m_138 rfl rfl rfl (ts_obB g4) rfl rfl rfl rfl rfl (ev_aload_n (pc' := 23) m_138 rfl rfl rfl (ev_null (pc' := 24) m_138 rfl rfl (tr_pN (pc' := 27) (f := 507) m_138 rfl rfl rfl (ts_obB g4) rfl rfl rfl rfl rfl (ev_aload_n (pc' := 28) m_138 rfl rfl rfl ?_)))))))
      refine ev_dup (pc' := 29) m_138 rfl rfl rfl (tr_get (pc' := 32) (v := .int (gI _ 601 _)) m_138 rfl rfl (ts_obL g1) rfl rfl rfl (ev_iconst (pc' := 33) (x := 1) m_138 rfl rfl rfl (ev_isub (pc' := 34) m_138 rfl rfl (tr_pI (pc' := 37) (f := 601) m_138 rfl rfl rfl (ts_obL g1) rfl rfl rfl rfl (ev_aload_n (pc' := 38) m_138 rfl rfl rfl ?_)))))
      exact tr_rr m_138 rfl rfl (Ok_s h)
def cK_serveNext_44 (l0 : Nat) (s : ts) : Option (Option Nat × ts) := (if l0 < 14 then (match gR s 600 (2 * l0 + 1) with
  | none => some (none, s)
  | some r2 => (if r2 < gM s then (if ((gI s 704 l0) - (gI s 703 l0)) < (gI s 512 r2) then some (none, s) else (cN_takeFirst (2 * l0 + 1) (wI s 703 l0 ((gI s 703 l0) + (gI s 512 r2)))).bind (fun x7 => match x7.1 with
  | none => some (none, x7.2)
  | some q8 => some (some q8, x7.2))) else none)) else none)
set_option maxRecDepth 20000 in
theorem cK_serveNext_44_ok {d : Nat} (l0 : Nat) (s : ts) (Q : Option Nat × ts → Prop) (h : Ok (cK_serveNext_44 l0 s) Q) : am_Ev (d + 1) 137 (44, [(0, .ref (pQ l0))], []) (lay s) (tq_r pB Q) := by
  unfold cK_serveNext_44 at h
  refine ev_aload_n (pc' := 45) m_137 rfl rfl rfl ?_
  obtain ⟨g1, h⟩ := Ok_g h
  refine tr_get (pc' := 48) (v := .ref (pL (2 * l0 + 1))) m_137 rfl rfl (ts_obQ g1) rfl rfl rfl ?_
  cases e3 : gR s 600 (2 * l0 + 1) with
  | none =>
    rw [e3] at h
    dsimp only at h
    refine tr_getN (pc' := 51) (f := 600) (g := pB) m_137 rfl rfl (ts_obL (by have := g1; omega)) rfl rfl e3 rfl ?_
    refine ev_astore_nN (pc' := 52) m_137 rfl rfl rfl rfl (ev_aload_nN (pc' := 53) m_137 rfl rfl rfl (ev_nulY (t := 93) m_137 rfl rfl (ev_null (pc' := 94) m_137 rfl rfl ?_)))
    exact tr_rn m_137 rfl rfl (Ok_s h)
  | some r2 =>
    rw [e3] at h
    dsimp only at h
    refine tr_getS (pc' := 51) (f := 600) (g := pB) m_137 rfl rfl (ts_obL (by have := g1; omega)) rfl rfl e3 rfl ?_
    refine ev_astore_n (pc' := 52) m_137 rfl rfl rfl rfl (ev_aload_n (pc' := 53) m_137 rfl rfl rfl (ev_nulN (e := 56) m_137 rfl rfl (ev_aload_n (pc' := 57) m_137 rfl rfl rfl ?_)))
    obtain ⟨g4, h⟩ := Ok_g h
    refine tr_get (pc' := 60) (v := .int (gI _ 512 _)) m_137 rfl rfl (ts_obB g4) rfl rfl rfl (ev_aload_n (pc' := 61) m_137 rfl rfl rfl (tr_get (pc' := 64) (v := .int (gI _ 704 _)) m_137 rfl rfl (ts_obQ g1) rfl rfl rfl (ev_aload_n (pc' := 65) m_137 rfl rfl rfl (tr_get (pc' := 68) (v := .int (gI _ 703 _)) m_137 rfl rfl (ts_obQ g1) rfl rfl rfl (ev_isub (pc' := 69) m_137 rfl rfl ?_)))))
    refine ev_icmp_gt (t := 93) (e := 72) m_137 rfl rfl rfl (fun c9 => ?_) (fun c9 => ?_)
    · replace h := Ok_t c9 h
      refine ev_null (pc' := 94) m_137 rfl rfl ?_
      exact tr_rn m_137 rfl rfl (Ok_s h)
    · replace h := Ok_f c9 h
      refine ev_aload_n (pc' := 73) m_137 rfl rfl rfl (ev_dup (pc' := 74) m_137 rfl rfl rfl (tr_get (pc' := 77) (v := .int (gI _ 703 _)) m_137 rfl rfl (ts_obQ g1) rfl rfl rfl (ev_aload_n (pc' := 78) m_137 rfl rfl rfl (tr_get (pc' := 81) (v := .int (gI _ 512 _)) m_137 rfl rfl (ts_obB g4) rfl rfl rfl (ev_iadd (pc' := 82) m_137 rfl rfl (tr_pI (pc' := 85) (f := 703) m_137 rfl rfl rfl (ts_obQ g1) rfl rfl rfl rfl (ev_aload_n (pc' := 86) m_137 rfl rfl rfl ?_)))))))
      refine tr_get (pc' := 89) (v := .ref (pL (2 * l0 + 1))) m_137 rfl rfl (ts_obQ g1) rfl rfl rfl ?_
      refine tr_cr (pc' := 92) m_137 rfl rfl rfl m_138 rfl rfl rfl rfl (tr_rcv (ts_obL (by have := g1; omega)) rfl) rfl rfl (cN_takeFirst_ok (2 * l0 + 1) _ _ (Ok_b h)) (fun x7_s h => ?_) (fun q8 x7_s h => ?_)
      · dsimp only at h
        exact tr_rn m_137 rfl rfl (Ok_s h)
      · dsimp only at h
        exact tr_rr m_137 rfl rfl (Ok_s h)
def cK_serveNext (l0 : Nat) (s : ts) : Option (Option Nat × ts) := (if l0 < 14 then (match gR s 600 (2 * l0) with
  | none => cK_serveNext_44 l0 s
  | some r2 => (if r2 < gM s then (if (gI s 703 l0) < (gI s 512 r2) then cK_serveNext_44 l0 s else (cN_takeFirst (2 * l0) (wI s 703 l0 ((gI s 703 l0) - (gI s 512 r2)))).bind (fun x7 => match x7.1 with
  | none => some (none, x7.2)
  | some q8 => some (some q8, x7.2))) else none)) else none)
set_option maxRecDepth 20000 in
theorem cK_serveNext_ok {d : Nat} (l0 : Nat) (s : ts) (Q : Option Nat × ts → Prop) (h : Ok (cK_serveNext l0 s) Q) : am_Ev (d + 1) 137 (0, [(0, .ref (pQ l0))], []) (lay s) (tq_r pB Q) := by
  unfold cK_serveNext at h
  refine ev_aload_n (pc' := 1) m_137 rfl rfl rfl ?_
  obtain ⟨g1, h⟩ := Ok_g h
  refine tr_get (pc' := 4) (v := .ref (pL (2 * l0))) m_137 rfl rfl (ts_obQ g1) rfl rfl rfl ?_
  cases e3 : gR s 600 (2 * l0) with
  | none =>
    rw [e3] at h
    dsimp only at h
    refine tr_getN (pc' := 7) (f := 600) (g := pB) m_137 rfl rfl (ts_obL (by have := g1; omega)) rfl rfl e3 rfl ?_
    refine ev_astore_nN (pc' := 8) m_137 rfl rfl rfl rfl (ev_aload_nN (pc' := 9) m_137 rfl rfl rfl (ev_nulY (t := 44) m_137 rfl rfl ?_))
    exact am_Ev.sub (L := [(0, .ref (pQ l0))]) ⟨rfl, trivial⟩ (cK_serveNext_44_ok l0 _ _ h)
  | some r2 =>
    rw [e3] at h
    dsimp only at h
    refine tr_getS (pc' := 7) (f := 600) (g := pB) m_137 rfl rfl (ts_obL (by have := g1; omega)) rfl rfl e3 rfl ?_
    refine ev_astore_n (pc' := 8) m_137 rfl rfl rfl rfl (ev_aload_n (pc' := 9) m_137 rfl rfl rfl (ev_nulN (e := 12) m_137 rfl rfl (ev_aload_n (pc' := 13) m_137 rfl rfl rfl ?_)))
    obtain ⟨g4, h⟩ := Ok_g h
    refine tr_get (pc' := 16) (v := .int (gI _ 512 _)) m_137 rfl rfl (ts_obB g4) rfl rfl rfl (ev_aload_n (pc' := 17) m_137 rfl rfl rfl (tr_get (pc' := 20) (v := .int (gI _ 703 _)) m_137 rfl rfl (ts_obQ g1) rfl rfl rfl ?_))
    refine ev_icmp_gt (t := 44) (e := 23) m_137 rfl rfl rfl (fun c9 => ?_) (fun c9 => ?_)
    · replace h := Ok_t c9 h
      exact am_Ev.sub (L := [(0, .ref (pQ l0))]) ⟨rfl, trivial⟩ (cK_serveNext_44_ok l0 _ _ h)
    · replace h := Ok_f c9 h
      refine ev_aload_n (pc' := 24) m_137 rfl rfl rfl (ev_dup (pc' := 25) m_137 rfl rfl rfl (tr_get (pc' := 28) (v := .int (gI _ 703 _)) m_137 rfl rfl (ts_obQ g1) rfl rfl rfl (ev_aload_n (pc' := 29) m_137 rfl rfl rfl (tr_get (pc' := 32) (v := .int (gI _ 512 _)) m_137 rfl rfl (ts_obB g4) rfl rfl rfl (ev_isub (pc' := 33) m_137 rfl rfl (tr_pI (pc' := 36) (f := 703) m_137 rfl rfl rfl (ts_obQ g1) rfl rfl rfl rfl (ev_aload_n (pc' := 37) m_137 rfl rfl rfl ?_)))))))
      refine tr_get (pc' := 40) (v := .ref (pL (2 * l0))) m_137 rfl rfl (ts_obQ g1) rfl rfl rfl ?_
      refine tr_cr (pc' := 43) m_137 rfl rfl rfl m_138 rfl rfl rfl rfl (tr_rcv (ts_obL (by have := g1; omega)) rfl) rfl rfl (cN_takeFirst_ok (2 * l0) _ _ (Ok_b h)) (fun x7_s h => ?_) (fun q8 x7_s h => ?_)
      · dsimp only at h
        exact tr_rn m_137 rfl rfl (Ok_s h)
      · dsimp only at h
        exact tr_rr m_137 rfl rfl (Ok_s h)
def cO_serve_77 (k11 : Nat → Option Nat → Int32 → Option Nat → Int32 → ts → Option (Int32 × ts)) (l1 : Nat) (l2 : Option Nat) (l3 : Int32) (l5 : Int32) (s : ts) : Option (Int32 × ts) := (match l2 with
  | none => (if l1 < 14 then (cK_serveNext l1 s).bind (fun x4 => match x4.1 with
  | none => k11 l1 none l3 none (l5 + (1 : Int32)) x4.2
  | some q5 => k11 l1 none l3 (some q5) (l5 + (1 : Int32)) x4.2) else none)
  | some l2 => (if l1 < 14 then (cK_serveNext l1 s).bind (fun x9 => match x9.1 with
  | none => k11 l1 (some l2) l3 none (l5 + (1 : Int32)) x9.2
  | some q10 => k11 l1 (some l2) l3 (some q10) (l5 + (1 : Int32)) x9.2) else none))
set_option maxRecDepth 20000 in
theorem cO_serve_77_ok {d : Nat} (k11 : Nat → Option Nat → Int32 → Option Nat → Int32 → ts → Option (Int32 × ts)) (hk11 : ∀ (l1 : Nat) (l2 : Option Nat) (l3 : Int32) (l4 : Option Nat) (l5 : Int32) (s : ts) (Q : Int32 × ts → Prop), Ok (k11 l1 l2 l3 l4 l5 s) Q → am_Ev (d + 2) 136 (11, [(0, .ref 81), (1, .ref (pQ l1)), (2, va_rf (l2.map pB)), (3, .int (l3)), (4, va_rf (l4.map pB)), (5, .int (l5))], []) (lay s) (tq_i Q)) (l1 : Nat) (l2 : Option Nat) (l3 : Int32) (l5 : Int32) (s : ts) (Q : Int32 × ts → Prop) (h : Ok (cO_serve_77 k11 l1 l2 l3 l5 s) Q) : am_Ev (d + 2) 136 (77, [(0, .ref 81), (1, .ref (pQ l1)), (2, va_rf (l2.map pB)), (3, .int (l3)), (5, .int (l5))], []) (lay s) (tq_i Q) := by
  unfold cO_serve_77 at h
  cases l2 with
  | none =>
    dsimp only at h
    refine ev_aload_n (pc' := 78) m_136 rfl rfl rfl ?_
    obtain ⟨g1, h⟩ := Ok_g h
    refine tr_cr (pc' := 81) m_136 rfl rfl rfl m_137 rfl rfl rfl rfl (tr_rcv (ts_obQ g1) rfl) rfl rfl (cK_serveNext_ok l1 _ _ (Ok_b h)) (fun x4_s h => ?_) (fun q5 x4_s h => ?_)
    · dsimp only at h
      refine ev_astoreN (pc' := 83) m_136 rfl rfl rfl rfl (ev_iinc (pc' := 86) (z := 1) m_136 rfl rfl rfl rfl rfl rfl (ev_goto (pc' := 11) m_136 rfl rfl ?_))
      exact am_Ev.sub (L := [(0, .ref 81), (1, .ref (pQ l1)), (2, .null), (3, .int (l3)), (4, .null), (5, .int (l5 + (1 : Int32)))]) ⟨rfl, rfl, rfl, rfl, rfl, rfl, trivial⟩ (hk11 l1 none l3 none (l5 + (1 : Int32)) _ _ h)
    · dsimp only at h
      refine ev_astore (pc' := 83) m_136 rfl rfl rfl rfl (ev_iinc (pc' := 86) (z := 1) m_136 rfl rfl rfl rfl rfl rfl (ev_goto (pc' := 11) m_136 rfl rfl ?_))
      exact am_Ev.sub (L := [(0, .ref 81), (1, .ref (pQ l1)), (2, .null), (3, .int (l3)), (4, .ref (pB q5)), (5, .int (l5 + (1 : Int32)))]) ⟨rfl, rfl, rfl, rfl, rfl, rfl, trivial⟩ (hk11 l1 none l3 (some q5) (l5 + (1 : Int32)) _ _ h)
  | some l2 =>
    dsimp only at h
    refine ev_aload_n (pc' := 78) m_136 rfl rfl rfl ?_
    obtain ⟨g6, h⟩ := Ok_g h
    refine tr_cr (pc' := 81) m_136 rfl rfl rfl m_137 rfl rfl rfl rfl (tr_rcv (ts_obQ g6) rfl) rfl rfl (cK_serveNext_ok l1 _ _ (Ok_b h)) (fun x9_s h => ?_) (fun q10 x9_s h => ?_)
    · dsimp only at h
      refine ev_astoreN (pc' := 83) m_136 rfl rfl rfl rfl (ev_iinc (pc' := 86) (z := 1) m_136 rfl rfl rfl rfl rfl rfl (ev_goto (pc' := 11) m_136 rfl rfl ?_))
      exact am_Ev.sub (L := [(0, .ref 81), (1, .ref (pQ l1)), (2, .ref (pB l2)), (3, .int (l3)), (4, .null), (5, .int (l5 + (1 : Int32)))]) ⟨rfl, rfl, rfl, rfl, rfl, rfl, trivial⟩ (hk11 l1 (some l2) l3 none (l5 + (1 : Int32)) _ _ h)
    · dsimp only at h
      refine ev_astore (pc' := 83) m_136 rfl rfl rfl rfl (ev_iinc (pc' := 86) (z := 1) m_136 rfl rfl rfl rfl rfl rfl (ev_goto (pc' := 11) m_136 rfl rfl ?_))
      exact am_Ev.sub (L := [(0, .ref 81), (1, .ref (pQ l1)), (2, .ref (pB l2)), (3, .int (l3)), (4, .ref (pB q10)), (5, .int (l5 + (1 : Int32)))]) ⟨rfl, rfl, rfl, rfl, rfl, rfl, trivial⟩ (hk11 l1 (some l2) l3 (some q10) (l5 + (1 : Int32)) _ _ h)
def cO_serve_11_b (kk : Nat → Option Nat → Int32 → Option Nat → Int32 → ts → Option (Int32 × ts)) (l1 : Nat) (l2 : Option Nat) (l3 : Int32) (l4 : Option Nat) (l5 : Int32) (s : ts) : Option (Int32 × ts) := (match l2 with
  | none => (match l4 with
  | none => (if ((300 : Int32)) ≤ l5 then (if l3 = 0 ∨ l3 = 1 then some (l3, s) else none) else (if l3 = 0 ∨ l3 = 1 then some (l3, s) else none))
  | some l4 => (if ((300 : Int32)) ≤ l5 then (if l3 = 0 ∨ l3 = 1 then some (l3, s) else none) else (if l4 < gM s then (if l1 < 14 then (cK_countLate l1 (((gI s 800 0) - (gI s 510 l4)).toInt64) s).bind (fun s8 => (cO_putInCalendar l4 ((0 : Int32)) (gI s8 800 0) s8).bind (fun s11 => cO_serve_77 kk l1 none l3 l5 s11)) else none) else none)))
  | some l2 => (match l4 with
  | none => (if ((300 : Int32)) ≤ l5 then (if l3 = 0 ∨ l3 = 1 then some (l3, s) else none) else (if l3 = 0 ∨ l3 = 1 then some (l3, s) else none))
  | some l4 => (if ((300 : Int32)) ≤ l5 then (if l3 = 0 ∨ l3 = 1 then some (l3, s) else none) else (if l4 = l2 then (if l1 < 14 then cO_serve_77 kk l1 (some l2) ((1 : Int32)) l5 (wI s 705 l1 ((gI s 705 l1) + ((1 : Int32)))) else none) else (if l4 < gM s then (if l1 < 14 then (cK_countLate l1 (((gI s 800 0) - (gI s 510 l4)).toInt64) s).bind (fun s22 => (cO_putInCalendar l4 ((0 : Int32)) (gI s22 800 0) s22).bind (fun s25 => cO_serve_77 kk l1 (some l2) l3 l5 s25)) else none) else none)))))
def cO_serve_11 : Nat → Nat → Option Nat → Int32 → Option Nat → Int32 → ts → Option (Int32 × ts)
  | 0, _, _, _, _, _, _ => none
  | n + 1, l1, l2, l3, l4, l5, s => cO_serve_11_b (cO_serve_11 n) l1 l2 l3 l4 l5 s
set_option maxRecDepth 20000 in
theorem cO_serve_11_ok {d : Nat} : ∀ (n : Nat) (l1 : Nat) (l2 : Option Nat) (l3 : Int32) (l4 : Option Nat) (l5 : Int32) (s : ts) (Q : Int32 × ts → Prop), Ok (cO_serve_11 n l1 l2 l3 l4 l5 s) Q → am_Ev (d + 2) 136 (11, [(0, .ref 81), (1, .ref (pQ l1)), (2, va_rf (l2.map pB)), (3, .int (l3)), (4, va_rf (l4.map pB)), (5, .int (l5))], []) (lay s) (tq_i Q) := by
  intro n
  induction n with
  | zero => intro l1 l2 l3 l4 l5 s Q h; exact Ok_n h
  | succ n ih =>
    intro l1 l2 l3 l4 l5 s Q h
    rw [cO_serve_11.eq_2] at h
    unfold cO_serve_11_b at h
    cases l2 with
    | none =>
      dsimp only at h
      cases l4 with
      | none =>
        dsimp only at h
        refine ev_iload (pc' := 13) m_136 rfl rfl rfl (ev_sipush (pc' := 16) (x := 300) m_136 rfl rfl rfl ?_)
        refine ev_icmp_ge (t := 89) (e := 19) m_136 rfl rfl rfl (fun c3 => ?_) (fun c3 => ?_)
        · replace h := Ok_t c3 h
          refine ev_iload_n (pc' := 90) m_136 rfl rfl rfl ?_
          obtain ⟨g1, h⟩ := Ok_g h
          exact tr_rz m_136 rfl rfl g1 (Ok_s h)
        · replace h := Ok_f c3 h
          refine ev_aloadN (pc' := 21) m_136 rfl rfl rfl (ev_nulY (t := 89) m_136 rfl rfl (ev_iload_n (pc' := 90) m_136 rfl rfl rfl ?_))
          obtain ⟨g2, h⟩ := Ok_g h
          exact tr_rz m_136 rfl rfl g2 (Ok_s h)
      | some l4 =>
        dsimp only at h
        refine ev_iload (pc' := 13) m_136 rfl rfl rfl (ev_sipush (pc' := 16) (x := 300) m_136 rfl rfl rfl ?_)
        refine ev_icmp_ge (t := 89) (e := 19) m_136 rfl rfl rfl (fun c13 => ?_) (fun c13 => ?_)
        · replace h := Ok_t c13 h
          refine ev_iload_n (pc' := 90) m_136 rfl rfl rfl ?_
          obtain ⟨g4, h⟩ := Ok_g h
          exact tr_rz m_136 rfl rfl g4 (Ok_s h)
        · replace h := Ok_f c13 h
          refine ev_aload (pc' := 21) m_136 rfl rfl rfl (ev_nulN (e := 24) m_136 rfl rfl (ev_aload (pc' := 26) m_136 rfl rfl rfl (ev_aload_nN (pc' := 27) m_136 rfl rfl rfl ?_)))
          refine ev_acneD (t := 45) (e := 30) m_136 rfl tr_rqB tr_rqN rfl rfl (by simp) ?_
          refine ev_aload_n (pc' := 46) m_136 rfl rfl rfl (ev_aload_n (pc' := 47) m_136 rfl rfl rfl (tr_get (pc' := 50) (v := .ref 35) m_136 rfl rfl ts_o81 rfl rfl rfl (tr_get (pc' := 53) (v := .int (gI _ 800 _)) m_136 rfl rfl ts_o35 rfl rfl rfl (ev_aload (pc' := 55) m_136 rfl rfl rfl ?_))))
          obtain ⟨g5, h⟩ := Ok_g h
          refine tr_get (pc' := 58) (v := .int (gI _ 510 _)) m_136 rfl rfl (ts_obB g5) rfl rfl rfl (ev_isub (pc' := 59) m_136 rfl rfl (ev_i2l (pc' := 60) m_136 rfl rfl ?_))
          obtain ⟨g6, h⟩ := Ok_g h
          refine tr_cv (pc' := 63) m_136 rfl rfl rfl m_134 rfl rfl rfl rfl (tr_rcv (ts_obQ g6) rfl) rfl rfl (cK_countLate_ok l1 (((gI s 800 0) - (gI s 510 l4)).toInt64) _ _ (Ok_b h)) (fun s8 h => ?_)
          refine ev_aload_n (pc' := 64) m_136 rfl rfl rfl (ev_aload (pc' := 66) m_136 rfl rfl rfl (ev_iconst (pc' := 67) (x := 0) m_136 rfl rfl rfl (ev_aload_n (pc' := 68) m_136 rfl rfl rfl (tr_get (pc' := 71) (v := .ref 35) m_136 rfl rfl ts_o81 rfl rfl rfl (tr_get (pc' := 74) (v := .int (gI _ 800 _)) m_136 rfl rfl ts_o35 rfl rfl rfl ?_)))))
          refine tr_cv (pc' := 77) m_136 rfl rfl rfl m_102 rfl rfl rfl rfl (tr_rcv ts_o81 rfl) rfl rfl (cO_putInCalendar_ok l4 ((0 : Int32)) (gI s8 800 0) _ _ (Ok_b h)) (fun s11 h => ?_)
          exact am_Ev.sub (L := [(0, .ref 81), (1, .ref (pQ l1)), (2, .null), (3, .int (l3)), (5, .int (l5))]) ⟨rfl, rfl, rfl, rfl, rfl, trivial⟩ (cO_serve_77_ok (cO_serve_11 n) ih l1 none l3 l5 _ _ h)
    | some l2 =>
      dsimp only at h
      cases l4 with
      | none =>
        dsimp only at h
        refine ev_iload (pc' := 13) m_136 rfl rfl rfl (ev_sipush (pc' := 16) (x := 300) m_136 rfl rfl rfl ?_)
        refine ev_icmp_ge (t := 89) (e := 19) m_136 rfl rfl rfl (fun c16 => ?_) (fun c16 => ?_)
        · replace h := Ok_t c16 h
          refine ev_iload_n (pc' := 90) m_136 rfl rfl rfl ?_
          obtain ⟨g14, h⟩ := Ok_g h
          exact tr_rz m_136 rfl rfl g14 (Ok_s h)
        · replace h := Ok_f c16 h
          refine ev_aloadN (pc' := 21) m_136 rfl rfl rfl (ev_nulY (t := 89) m_136 rfl rfl (ev_iload_n (pc' := 90) m_136 rfl rfl rfl ?_))
          obtain ⟨g15, h⟩ := Ok_g h
          exact tr_rz m_136 rfl rfl g15 (Ok_s h)
      | some l4 =>
        dsimp only at h
        refine ev_iload (pc' := 13) m_136 rfl rfl rfl (ev_sipush (pc' := 16) (x := 300) m_136 rfl rfl rfl ?_)
        refine ev_icmp_ge (t := 89) (e := 19) m_136 rfl rfl rfl (fun c28 => ?_) (fun c28 => ?_)
        · replace h := Ok_t c28 h
          refine ev_iload_n (pc' := 90) m_136 rfl rfl rfl ?_
          obtain ⟨g17, h⟩ := Ok_g h
          exact tr_rz m_136 rfl rfl g17 (Ok_s h)
        · replace h := Ok_f c28 h
          refine ev_aload (pc' := 21) m_136 rfl rfl rfl (ev_nulN (e := 24) m_136 rfl rfl (ev_aload (pc' := 26) m_136 rfl rfl rfl (ev_aload_n (pc' := 27) m_136 rfl rfl rfl ?_)))
          refine ev_acp_ne (t := 45) (e := 30) m_136 rfl rfl rfl (fun c18 => ?_) (fun c18 => ?_)
          · replace h := Ok_f c18 h
            refine ev_aload_n (pc' := 46) m_136 rfl rfl rfl (ev_aload_n (pc' := 47) m_136 rfl rfl rfl (tr_get (pc' := 50) (v := .ref 35) m_136 rfl rfl ts_o81 rfl rfl rfl (tr_get (pc' := 53) (v := .int (gI _ 800 _)) m_136 rfl rfl ts_o35 rfl rfl rfl (ev_aload (pc' := 55) m_136 rfl rfl rfl ?_))))
            obtain ⟨g19, h⟩ := Ok_g h
            refine tr_get (pc' := 58) (v := .int (gI _ 510 _)) m_136 rfl rfl (ts_obB g19) rfl rfl rfl (ev_isub (pc' := 59) m_136 rfl rfl (ev_i2l (pc' := 60) m_136 rfl rfl ?_))
            obtain ⟨g20, h⟩ := Ok_g h
            refine tr_cv (pc' := 63) m_136 rfl rfl rfl m_134 rfl rfl rfl rfl (tr_rcv (ts_obQ g20) rfl) rfl rfl (cK_countLate_ok l1 (((gI s 800 0) - (gI s 510 l4)).toInt64) _ _ (Ok_b h)) (fun s22 h => ?_)
            refine ev_aload_n (pc' := 64) m_136 rfl rfl rfl (ev_aload (pc' := 66) m_136 rfl rfl rfl (ev_iconst (pc' := 67) (x := 0) m_136 rfl rfl rfl (ev_aload_n (pc' := 68) m_136 rfl rfl rfl (tr_get (pc' := 71) (v := .ref 35) m_136 rfl rfl ts_o81 rfl rfl rfl (tr_get (pc' := 74) (v := .int (gI _ 800 _)) m_136 rfl rfl ts_o35 rfl rfl rfl ?_)))))
            refine tr_cv (pc' := 77) m_136 rfl rfl rfl m_102 rfl rfl rfl rfl (tr_rcv ts_o81 rfl) rfl rfl (cO_putInCalendar_ok l4 ((0 : Int32)) (gI s22 800 0) _ _ (Ok_b h)) (fun s25 h => ?_)
            exact am_Ev.sub (L := [(0, .ref 81), (1, .ref (pQ l1)), (2, .ref (pB l2)), (3, .int (l3)), (5, .int (l5))]) ⟨rfl, rfl, rfl, rfl, rfl, trivial⟩ (cO_serve_77_ok (cO_serve_11 n) ih l1 (some l2) l3 l5 _ _ h)
          · replace h := Ok_t c18 h
            refine ev_iconst (pc' := 31) (x := 1) m_136 rfl rfl rfl (ev_istore_n (pc' := 32) m_136 rfl rfl rfl rfl (ev_aload_n (pc' := 33) m_136 rfl rfl rfl (ev_dup (pc' := 34) m_136 rfl rfl rfl ?_)))
            obtain ⟨g27, h⟩ := Ok_g h
            refine tr_get (pc' := 37) (v := .int (gI _ 705 _)) m_136 rfl rfl (ts_obQ g27) rfl rfl rfl (ev_iconst (pc' := 38) (x := 1) m_136 rfl rfl rfl (ev_iadd (pc' := 39) m_136 rfl rfl (tr_pI (pc' := 42) (f := 705) m_136 rfl rfl rfl (ts_obQ g27) rfl rfl rfl rfl (ev_goto (pc' := 77) m_136 rfl rfl ?_))))
            exact am_Ev.sub (L := [(0, .ref 81), (1, .ref (pQ l1)), (2, .ref (pB l2)), (3, .int ((1 : Int32))), (5, .int (l5))]) ⟨rfl, rfl, rfl, rfl, rfl, trivial⟩ (cO_serve_77_ok (cO_serve_11 n) ih l1 (some l2) ((1 : Int32)) l5 _ _ h)
def cO_serve (l1 : Nat) (l2 : Option Nat) (s : ts) : Option (Int32 × ts) := (match l2 with
  | none => (if l1 < 14 then (cK_serveNext l1 s).bind (fun x4 => match x4.1 with
  | none => cO_serve_11 tm_N l1 none ((0 : Int32)) none ((0 : Int32)) x4.2
  | some q5 => cO_serve_11 tm_N l1 none ((0 : Int32)) (some q5) ((0 : Int32)) x4.2) else none)
  | some l2 => (if l1 < 14 then (cK_serveNext l1 s).bind (fun x9 => match x9.1 with
  | none => cO_serve_11 tm_N l1 (some l2) ((0 : Int32)) none ((0 : Int32)) x9.2
  | some q10 => cO_serve_11 tm_N l1 (some l2) ((0 : Int32)) (some q10) ((0 : Int32)) x9.2) else none))
set_option maxRecDepth 20000 in
theorem cO_serve_ok {d : Nat} (l1 : Nat) (l2 : Option Nat) (s : ts) (Q : Int32 × ts → Prop) (h : Ok (cO_serve l1 l2 s) Q) : am_Ev (d + 2) 136 (0, [(0, .ref 81), (1, .ref (pQ l1)), (2, va_rf (l2.map pB))], []) (lay s) (tq_i Q) := by
  unfold cO_serve at h
  cases l2 with
  | none =>
    dsimp only at h
    refine ev_iconst (pc' := 1) (x := 0) m_136 rfl rfl rfl (ev_istore_n (pc' := 2) m_136 rfl rfl rfl rfl (ev_aload_n (pc' := 3) m_136 rfl rfl rfl ?_))
    obtain ⟨g1, h⟩ := Ok_g h
    refine tr_cr (pc' := 6) m_136 rfl rfl rfl m_137 rfl rfl rfl rfl (tr_rcv (ts_obQ g1) rfl) rfl rfl (cK_serveNext_ok l1 _ _ (Ok_b h)) (fun x4_s h => ?_) (fun q5 x4_s h => ?_)
    · dsimp only at h
      refine ev_astoreN (pc' := 8) m_136 rfl rfl rfl rfl (ev_iconst (pc' := 9) (x := 0) m_136 rfl rfl rfl (ev_istore (pc' := 11) m_136 rfl rfl rfl rfl ?_))
      exact am_Ev.sub (L := [(0, .ref 81), (1, .ref (pQ l1)), (2, .null), (3, .int ((0 : Int32))), (4, .null), (5, .int ((0 : Int32)))]) ⟨rfl, rfl, rfl, rfl, rfl, rfl, trivial⟩ (cO_serve_11_ok tm_N l1 none ((0 : Int32)) none ((0 : Int32)) _ _ h)
    · dsimp only at h
      refine ev_astore (pc' := 8) m_136 rfl rfl rfl rfl (ev_iconst (pc' := 9) (x := 0) m_136 rfl rfl rfl (ev_istore (pc' := 11) m_136 rfl rfl rfl rfl ?_))
      exact am_Ev.sub (L := [(0, .ref 81), (1, .ref (pQ l1)), (2, .null), (3, .int ((0 : Int32))), (4, .ref (pB q5)), (5, .int ((0 : Int32)))]) ⟨rfl, rfl, rfl, rfl, rfl, rfl, trivial⟩ (cO_serve_11_ok tm_N l1 none ((0 : Int32)) (some q5) ((0 : Int32)) _ _ h)
  | some l2 =>
    dsimp only at h
    refine ev_iconst (pc' := 1) (x := 0) m_136 rfl rfl rfl (ev_istore_n (pc' := 2) m_136 rfl rfl rfl rfl (ev_aload_n (pc' := 3) m_136 rfl rfl rfl ?_))
    obtain ⟨g6, h⟩ := Ok_g h
    refine tr_cr (pc' := 6) m_136 rfl rfl rfl m_137 rfl rfl rfl rfl (tr_rcv (ts_obQ g6) rfl) rfl rfl (cK_serveNext_ok l1 _ _ (Ok_b h)) (fun x9_s h => ?_) (fun q10 x9_s h => ?_)
    · dsimp only at h
      refine ev_astoreN (pc' := 8) m_136 rfl rfl rfl rfl (ev_iconst (pc' := 9) (x := 0) m_136 rfl rfl rfl (ev_istore (pc' := 11) m_136 rfl rfl rfl rfl ?_))
      exact am_Ev.sub (L := [(0, .ref 81), (1, .ref (pQ l1)), (2, .ref (pB l2)), (3, .int ((0 : Int32))), (4, .null), (5, .int ((0 : Int32)))]) ⟨rfl, rfl, rfl, rfl, rfl, rfl, trivial⟩ (cO_serve_11_ok tm_N l1 (some l2) ((0 : Int32)) none ((0 : Int32)) _ _ h)
    · dsimp only at h
      refine ev_astore (pc' := 8) m_136 rfl rfl rfl rfl (ev_iconst (pc' := 9) (x := 0) m_136 rfl rfl rfl (ev_istore (pc' := 11) m_136 rfl rfl rfl rfl ?_))
      exact am_Ev.sub (L := [(0, .ref 81), (1, .ref (pQ l1)), (2, .ref (pB l2)), (3, .int ((0 : Int32))), (4, .ref (pB q10)), (5, .int ((0 : Int32)))]) ⟨rfl, rfl, rfl, rfl, rfl, rfl, trivial⟩ (cO_serve_11_ok tm_N l1 (some l2) ((0 : Int32)) (some q10) ((0 : Int32)) _ _ h)
def cO_trade_54 (l1 : Nat) (l2 : Int32) (l5 : Nat) (t0 : Nat) (s : ts) : Option (Int32 × ts) := (if t0 < 30 then (cN_join t0 l1 ((0 : Int32)) s).bind (fun s3 => (cO_serve l5 (some l1) s3).bind (fun x7 => (if x7.1 = ((0 : Int32)) then (cO_makeWait l1 ((3 : Int32)) l2 x7.2).bind (fun s9 => some ((0 : Int32), s9)) else some ((0 : Int32), x7.2)))) else none)
set_option maxRecDepth 20000 in
theorem cO_trade_54_ok {d : Nat} (l1 : Nat) (l2 : Int32) (l5 : Nat) (t0 : Nat) (s : ts) (Q : Int32 × ts → Prop) (h : Ok (cO_trade_54 l1 l2 l5 t0 s) Q) : am_Ev (d + 3) 135 (54, [(0, .ref 81), (1, .ref (pB l1)), (2, .int (l2)), (5, .ref (pQ l5))], [.ref (pL t0)]) (lay s) (tq_i Q) := by
  unfold cO_trade_54 at h
  refine ev_astore (pc' := 56) m_135 rfl rfl rfl rfl (ev_aload (pc' := 58) m_135 rfl rfl rfl (ev_aload_n (pc' := 59) m_135 rfl rfl rfl (ev_iconst (pc' := 60) (x := 0) m_135 rfl rfl rfl ?_)))
  obtain ⟨g1, h⟩ := Ok_g h
  refine tr_cv (pc' := 63) m_135 rfl rfl rfl m_104 rfl rfl rfl rfl (tr_rcv (ts_obL g1) rfl) rfl rfl (cN_join_ok t0 l1 ((0 : Int32)) _ _ (Ok_b h)) (fun s3 h => ?_)
  refine ev_aload_n (pc' := 64) m_135 rfl rfl rfl (ev_aload (pc' := 66) m_135 rfl rfl rfl (ev_aload_n (pc' := 67) m_135 rfl rfl rfl ?_))
  refine tr_cz (pc' := 70) m_135 rfl rfl rfl m_136 rfl rfl rfl rfl rfl (tr_rcv ts_o81 rfl) rfl rfl (cO_serve_ok l5 (some l1) _ _ (Ok_b h)) (fun x7_ x7_s h5 h => ?_)
  refine ev_if_ne (t := 80) (e := 73) m_135 rfl rfl rfl (fun c11 => ?_) (fun c11 => ?_)
  · replace h := Ok_f c11 h
    refine ev_iconst (pc' := 81) (x := 0) m_135 rfl rfl rfl ?_
    exact tr_ri m_135 rfl rfl (Ok_s h)
  · replace h := Ok_t c11 h
    refine ev_aload_n (pc' := 74) m_135 rfl rfl rfl (ev_aload_n (pc' := 75) m_135 rfl rfl rfl (ev_iconst (pc' := 76) (x := 3) m_135 rfl rfl rfl (ev_iload_n (pc' := 77) m_135 rfl rfl rfl ?_)))
    refine tr_cv (pc' := 80) m_135 rfl rfl rfl m_132 rfl rfl rfl rfl (tr_rcv ts_o81 rfl) rfl rfl (cO_makeWait_ok l1 ((3 : Int32)) l2 _ _ (Ok_b h)) (fun s9 h => ?_)
    refine ev_iconst (pc' := 81) (x := 0) m_135 rfl rfl rfl ?_
    exact tr_ri m_135 rfl rfl (Ok_s h)
def cO_trade (l1 : Nat) (l2 : Int32) (l3 : Int32) (l4 : Int32) (s : ts) : Option (Int32 × ts) := (cW_placeAt l2 s).bind (fun x3 => match x3.1 with
  | none => some ((4 : Int32), x3.2)
  | some q4 => (if l3 < ((1 : Int32)) then some ((4 : Int32), x3.2) else (if q4 < 14 then (if l3 ≤ (gI x3.2 704 q4) then (if l1 < gM x3.2 then (if l4 = ((0 : Int32)) then cO_trade_54 l1 l2 q4 (2 * q4) (wI x3.2 512 l1 l3) else cO_trade_54 l1 l2 q4 (2 * q4 + 1) (wI x3.2 512 l1 l3)) else none) else some ((4 : Int32), x3.2)) else none)))
set_option maxRecDepth 20000 in
theorem cO_trade_ok {d : Nat} (l1 : Nat) (l2 : Int32) (l3 : Int32) (l4 : Int32) (s : ts) (Q : Int32 × ts → Prop) (h : Ok (cO_trade l1 l2 l3 l4 s) Q) : am_Ev (d + 3) 135 (0, [(0, .ref 81), (1, .ref (pB l1)), (2, .int (l2)), (3, .int (l3)), (4, .int (l4))], []) (lay s) (tq_i Q) := by
  unfold cO_trade at h
  refine ev_aload_n (pc' := 1) m_135 rfl rfl rfl (tr_get (pc' := 4) (v := .ref 35) m_135 rfl rfl ts_o81 rfl rfl rfl (ev_iload_n (pc' := 5) m_135 rfl rfl rfl ?_))
  refine tr_cr (pc' := 8) m_135 rfl rfl rfl m_118 rfl rfl rfl rfl (tr_rcv ts_o35 rfl) rfl rfl (cW_placeAt_ok l2 _ _ (Ok_b h)) (fun x3_s h => ?_) (fun q4 x3_s h => ?_)
  · dsimp only at h
    refine ev_astoreN (pc' := 10) m_135 rfl rfl rfl rfl (ev_aloadN (pc' := 12) m_135 rfl rfl rfl (ev_nulY (t := 29) m_135 rfl rfl (ev_iconst (pc' := 30) (x := 4) m_135 rfl rfl rfl ?_)))
    exact tr_ri m_135 rfl rfl (Ok_s h)
  · dsimp only at h
    refine ev_astore (pc' := 10) m_135 rfl rfl rfl rfl (ev_aload (pc' := 12) m_135 rfl rfl rfl (ev_nulN (e := 15) m_135 rfl rfl (ev_iload_n (pc' := 16) m_135 rfl rfl rfl (ev_iconst (pc' := 17) (x := 1) m_135 rfl rfl rfl ?_))))
    refine ev_icmp_lt (t := 29) (e := 20) m_135 rfl rfl rfl (fun c9 => ?_) (fun c9 => ?_)
    · replace h := Ok_t c9 h
      refine ev_iconst (pc' := 30) (x := 4) m_135 rfl rfl rfl ?_
      exact tr_ri m_135 rfl rfl (Ok_s h)
    · replace h := Ok_f c9 h
      refine ev_iload_n (pc' := 21) m_135 rfl rfl rfl (ev_aload (pc' := 23) m_135 rfl rfl rfl ?_)
      obtain ⟨g5, h⟩ := Ok_g h
      refine tr_get (pc' := 26) (v := .int (gI _ 704 _)) m_135 rfl rfl (ts_obQ g5) rfl rfl rfl ?_
      refine ev_icmp_le (t := 31) (e := 29) m_135 rfl rfl rfl (fun c8 => ?_) (fun c8 => ?_)
      · replace h := Ok_t c8 h
        refine ev_aload_n (pc' := 32) m_135 rfl rfl rfl (ev_iload_n (pc' := 33) m_135 rfl rfl rfl ?_)
        obtain ⟨g6, h⟩ := Ok_g h
        refine tr_pI (pc' := 36) (f := 512) m_135 rfl rfl rfl (ts_obB g6) rfl rfl rfl rfl (ev_iload (pc' := 38) m_135 rfl rfl rfl ?_)
        refine ev_if_eq (t := 49) (e := 41) m_135 rfl rfl rfl (fun c7 => ?_) (fun c7 => ?_)
        · replace h := Ok_t c7 h
          refine ev_aload (pc' := 51) m_135 rfl rfl rfl (tr_get (pc' := 54) (v := .ref (pL (2 * q4))) m_135 rfl rfl (ts_obQ g5) rfl rfl rfl ?_)
          exact am_Ev.sub (L := [(0, .ref 81), (1, .ref (pB l1)), (2, .int (l2)), (5, .ref (pQ q4))]) ⟨rfl, rfl, rfl, rfl, trivial⟩ (cO_trade_54_ok l1 l2 q4 (2 * q4) _ _ h)
        · replace h := Ok_f c7 h
          refine ev_aload (pc' := 43) m_135 rfl rfl rfl (tr_get (pc' := 46) (v := .ref (pL (2 * q4 + 1))) m_135 rfl rfl (ts_obQ g5) rfl rfl rfl (ev_goto (pc' := 54) m_135 rfl rfl ?_))
          exact am_Ev.sub (L := [(0, .ref 81), (1, .ref (pB l1)), (2, .int (l2)), (5, .ref (pQ q4))]) ⟨rfl, rfl, rfl, rfl, trivial⟩ (cO_trade_54_ok l1 l2 q4 (2 * q4 + 1) _ _ h)
      · replace h := Ok_f c8 h
        refine ev_iconst (pc' := 30) (x := 4) m_135 rfl rfl rfl ?_
        exact tr_ri m_135 rfl rfl (Ok_s h)
def cO_makeAwait (l1 : Nat) (s : ts) : Option (ts) := (if l1 < gM s then (cN_join 29 l1 ((0 : Int32)) (wI (wI s 502 l1 ((4 : Int32))) 510 l1 (gI (wI s 502 l1 ((4 : Int32))) 800 0))).bind (fun s3 => some s3) else none)
set_option maxRecDepth 20000 in
theorem cO_makeAwait_ok {d : Nat} (l1 : Nat) (s : ts) (Q : ts → Prop) (h : Ok (cO_makeAwait l1 s) Q) : am_Ev (d + 1) 139 (0, [(0, .ref 81), (1, .ref (pB l1))], []) (lay s) (tq_v Q) := by
  unfold cO_makeAwait at h
  refine ev_aload_n (pc' := 1) m_139 rfl rfl rfl (ev_iconst (pc' := 2) (x := 4) m_139 rfl rfl rfl ?_)
  obtain ⟨g1, h⟩ := Ok_g h
  refine tr_pI (pc' := 5) (f := 502) m_139 rfl rfl rfl (ts_obB g1) rfl rfl rfl rfl (ev_aload_n (pc' := 6) m_139 rfl rfl rfl (ev_aload_n (pc' := 7) m_139 rfl rfl rfl (tr_get (pc' := 10) (v := .ref 35) m_139 rfl rfl ts_o81 rfl rfl rfl (tr_get (pc' := 13) (v := .int (gI _ 800 _)) m_139 rfl rfl ts_o35 rfl rfl rfl (tr_pI (pc' := 16) (f := 510) m_139 rfl rfl rfl (ts_obB g1) rfl rfl rfl rfl (ev_aload_n (pc' := 17) m_139 rfl rfl rfl (tr_get (pc' := 20) (v := .ref (pL 29)) m_139 rfl rfl ts_o81 rfl rfl rfl ?_)))))))
  refine ev_aload_n (pc' := 21) m_139 rfl rfl rfl (ev_iconst (pc' := 22) (x := 0) m_139 rfl rfl rfl ?_)
  refine tr_cv (pc' := 25) m_139 rfl rfl rfl m_104 rfl rfl rfl rfl (tr_rcv (ts_obL (by decide)) rfl) rfl rfl (cN_join_ok 29 l1 ((0 : Int32)) _ _ (Ok_b h)) (fun s3 h => ?_)
  exact tr_rv m_139 rfl rfl (Ok_s h)
def cH_startAnother_97 (l3 : Int32) (l4 : Nat) (s : ts) : Option (Int32 × ts) := (cO_putInCalendar l4 ((0 : Int32)) ((gI s 800 0) + l3) s).bind (fun s2 => some ((0 : Int32), s2))
set_option maxRecDepth 20000 in
theorem cH_startAnother_97_ok {d : Nat} (l3 : Int32) (l4 : Nat) (s : ts) (Q : Int32 × ts → Prop) (h : Ok (cH_startAnother_97 l3 l4 s) Q) : am_Ev (d + 5) 140 (97, [(0, .ref 34), (3, .int (l3)), (4, .ref (pB l4))], []) (lay s) (tq_i Q) := by
  unfold cH_startAnother_97 at h
  refine ev_aload_n (pc' := 98) m_140 rfl rfl rfl (tr_get (pc' := 101) (v := .ref 81) m_140 rfl rfl ts_o34 rfl rfl rfl (ev_aload (pc' := 103) m_140 rfl rfl rfl (ev_iconst (pc' := 104) (x := 0) m_140 rfl rfl rfl (ev_aload_n (pc' := 105) m_140 rfl rfl rfl (tr_get (pc' := 108) (v := .ref 35) m_140 rfl rfl ts_o34 rfl rfl rfl (tr_get (pc' := 111) (v := .int (gI _ 800 _)) m_140 rfl rfl ts_o35 rfl rfl rfl (ev_iload_n (pc' := 112) m_140 rfl rfl rfl ?_)))))))
  refine ev_iadd (pc' := 113) m_140 rfl rfl ?_
  refine tr_cv (pc' := 116) m_140 rfl rfl rfl m_102 rfl rfl rfl rfl (tr_rcv ts_o81 rfl) rfl rfl (cO_putInCalendar_ok l4 ((0 : Int32)) ((gI s 800 0) + l3) _ _ (Ok_b h)) (fun s2 h => ?_)
  refine ev_iconst (pc' := 117) (x := 0) m_140 rfl rfl rfl ?_
  exact tr_ri m_140 rfl rfl (Ok_s h)
def cH_startAnother_61_b (kk : Int32 → Int32 → Nat → Int32 → ts → Option (Int32 × ts)) (l2 : Int32) (l3 : Int32) (l4 : Nat) (l5 : Int32) (s : ts) : Option (Int32 × ts) := (if l2 ≤ l5 then cH_startAnother_97 l3 l4 s else (if ((8 : Int32)) ≤ l5 then cH_startAnother_97 l3 l4 s else (if l4 < gM s then (cW_result l5 s).bind (fun x4 => (if l4 < gM x4.2 then (if am_idx l5 8 = true then kk l2 l3 l4 (l5 + (1 : Int32)) (wV x4.2 l4 l5.toNatClampNeg x4.1) else none) else none)) else none)))
def cH_startAnother_61 : Nat → Int32 → Int32 → Nat → Int32 → ts → Option (Int32 × ts)
  | 0, _, _, _, _, _ => none
  | n + 1, l2, l3, l4, l5, s => cH_startAnother_61_b (cH_startAnother_61 n) l2 l3 l4 l5 s
set_option maxRecDepth 20000 in
theorem cH_startAnother_61_ok {d : Nat} : ∀ (n : Nat) (l2 : Int32) (l3 : Int32) (l4 : Nat) (l5 : Int32) (s : ts) (Q : Int32 × ts → Prop), Ok (cH_startAnother_61 n l2 l3 l4 l5 s) Q → am_Ev (d + 5) 140 (61, [(0, .ref 34), (2, .int (l2)), (3, .int (l3)), (4, .ref (pB l4)), (5, .int (l5))], []) (lay s) (tq_i Q) := by
  intro n
  induction n with
  | zero => intro l2 l3 l4 l5 s Q h; exact Ok_n h
  | succ n ih =>
    intro l2 l3 l4 l5 s Q h
    rw [cH_startAnother_61.eq_2] at h
    unfold cH_startAnother_61_b at h
    refine ev_iload (pc' := 63) m_140 rfl rfl rfl (ev_iload_n (pc' := 64) m_140 rfl rfl rfl ?_)
    refine ev_icmp_ge (t := 97) (e := 67) m_140 rfl rfl rfl (fun c8 => ?_) (fun c8 => ?_)
    · replace h := Ok_t c8 h
      exact am_Ev.sub (L := [(0, .ref 34), (3, .int (l3)), (4, .ref (pB l4))]) ⟨rfl, rfl, rfl, trivial⟩ (cH_startAnother_97_ok l3 l4 _ _ h)
    · replace h := Ok_f c8 h
      refine ev_iload (pc' := 69) m_140 rfl rfl rfl (ev_bipush (pc' := 71) (x := 8) m_140 rfl rfl rfl ?_)
      refine ev_icmp_ge (t := 97) (e := 74) m_140 rfl rfl rfl (fun c7 => ?_) (fun c7 => ?_)
      · replace h := Ok_t c7 h
        exact am_Ev.sub (L := [(0, .ref 34), (3, .int (l3)), (4, .ref (pB l4))]) ⟨rfl, rfl, rfl, trivial⟩ (cH_startAnother_97_ok l3 l4 _ _ h)
      · replace h := Ok_f c7 h
        refine ev_aload (pc' := 76) m_140 rfl rfl rfl ?_
        obtain ⟨g1, h⟩ := Ok_g h
        refine tr_get (pc' := 79) (v := .ref (pV l4)) m_140 rfl rfl (ts_obB g1) rfl rfl rfl (ev_iload (pc' := 81) m_140 rfl rfl rfl (ev_aload_n (pc' := 82) m_140 rfl rfl rfl (tr_get (pc' := 85) (v := .ref 35) m_140 rfl rfl ts_o34 rfl rfl rfl (ev_iload (pc' := 87) m_140 rfl rfl rfl ?_))))
        refine tr_ci (pc' := 90) m_140 rfl rfl rfl m_124 rfl rfl rfl rfl (tr_rcv ts_o35 rfl) rfl rfl (cW_result_ok l5 _ _ (Ok_b h)) (fun x4_ x4_s h => ?_)
        obtain ⟨g5, h⟩ := Ok_g h
        obtain ⟨g6, h⟩ := Ok_g h
        refine tr_vast (pc' := 91) m_140 rfl g5 g6 rfl (ev_iinc (pc' := 94) (z := 1) m_140 rfl rfl rfl rfl rfl rfl (ev_goto (pc' := 61) m_140 rfl rfl ?_))
        exact am_Ev.sub (L := [(0, .ref 34), (2, .int (l2)), (3, .int (l3)), (4, .ref (pB l4)), (5, .int (l5 + (1 : Int32)))]) ⟨rfl, rfl, rfl, rfl, rfl, trivial⟩ (ih l2 l3 l4 (l5 + (1 : Int32)) _ _ h)
def cH_startAnother_24 (l1 : Int32) (t0 : Int32) (s : ts) : Option (Int32 × ts) := (cW_result t0 s).bind (fun x3 => (cH_isTimeAhead x3.1 x3.2).bind (fun x6 => (if x6.1 = ((0 : Int32)) then some ((2 : Int32), x6.2) else (cH_add l1 x6.2).bind (fun x9 => match x9.1 with
  | none => some ((5 : Int32), x9.2)
  | some q10 => cH_startAnother_61 tm_N t0 x3.1 q10 ((0 : Int32)) x9.2))))
set_option maxRecDepth 20000 in
theorem cH_startAnother_24_ok {d : Nat} (l1 : Int32) (t0 : Int32) (s : ts) (Q : Int32 × ts → Prop) (h : Ok (cH_startAnother_24 l1 t0 s) Q) : am_Ev (d + 5) 140 (24, [(0, .ref 34), (1, .int (l1))], [.int (t0)]) (lay s) (tq_i Q) := by
  unfold cH_startAnother_24 at h
  refine ev_istore_n (pc' := 25) m_140 rfl rfl rfl rfl (ev_aload_n (pc' := 26) m_140 rfl rfl rfl (tr_get (pc' := 29) (v := .ref 35) m_140 rfl rfl ts_o34 rfl rfl rfl (ev_iload_n (pc' := 30) m_140 rfl rfl rfl ?_)))
  refine tr_ci (pc' := 33) m_140 rfl rfl rfl m_124 rfl rfl rfl rfl (tr_rcv ts_o35 rfl) rfl rfl (cW_result_ok t0 _ _ (Ok_b h)) (fun x3_ x3_s h => ?_)
  refine ev_istore_n (pc' := 34) m_140 rfl rfl rfl rfl (ev_aload_n (pc' := 35) m_140 rfl rfl rfl (ev_iload_n (pc' := 36) m_140 rfl rfl rfl ?_))
  refine tr_cz (pc' := 39) m_140 rfl rfl rfl m_130 rfl rfl rfl rfl rfl (tr_rcv ts_o34 rfl) rfl rfl (cH_isTimeAhead_ok x3_ _ _ (Ok_b h)) (fun x6_ x6_s h4 h => ?_)
  refine ev_if_ne (t := 44) (e := 42) m_140 rfl rfl rfl (fun c11 => ?_) (fun c11 => ?_)
  · replace h := Ok_f c11 h
    refine ev_aload_n (pc' := 45) m_140 rfl rfl rfl (ev_iload_n (pc' := 46) m_140 rfl rfl rfl ?_)
    refine tr_cr (pc' := 49) m_140 rfl rfl rfl m_98 rfl rfl rfl rfl (tr_rcv ts_o34 rfl) rfl rfl (cH_add_ok l1 _ _ (Ok_b h)) (fun x9_s h => ?_) (fun q10 x9_s h => ?_)
    · dsimp only at h
      refine ev_astoreN (pc' := 51) m_140 rfl rfl rfl rfl (ev_aloadN (pc' := 53) m_140 rfl rfl rfl (ev_nnlN (e := 56) m_140 rfl rfl (ev_iconst (pc' := 57) (x := 5) m_140 rfl rfl rfl ?_)))
      exact tr_ri m_140 rfl rfl (Ok_s h)
    · dsimp only at h
      refine ev_astore (pc' := 51) m_140 rfl rfl rfl rfl (ev_aload (pc' := 53) m_140 rfl rfl rfl (ev_nnlY (t := 58) m_140 rfl rfl (ev_iconst (pc' := 59) (x := 0) m_140 rfl rfl rfl (ev_istore (pc' := 61) m_140 rfl rfl rfl rfl ?_))))
      exact am_Ev.sub (L := [(0, .ref 34), (2, .int (t0)), (3, .int (x3_)), (4, .ref (pB q10)), (5, .int ((0 : Int32)))]) ⟨rfl, rfl, rfl, rfl, rfl, trivial⟩ (cH_startAnother_61_ok tm_N t0 x3_ q10 ((0 : Int32)) _ _ h)
  · replace h := Ok_t c11 h
    refine ev_iconst (pc' := 43) (x := 2) m_140 rfl rfl rfl ?_
    exact tr_ri m_140 rfl rfl (Ok_s h)
def cH_startAnother (l1 : Int32) (s : ts) : Option (Int32 × ts) := (cG_isDefinition l1 s).bind (fun x3 => (if x3.1 = ((0 : Int32)) then cH_startAnother_24 l1 ((0 : Int32)) x3.2 else (if am_idx l1 12 = true then cH_startAnother_24 l1 (gA x3.2 19 l1.toNatClampNeg) x3.2 else none)))
set_option maxRecDepth 20000 in
theorem cH_startAnother_ok {d : Nat} (l1 : Int32) (s : ts) (Q : Int32 × ts → Prop) (h : Ok (cH_startAnother l1 s) Q) : am_Ev (d + 5) 140 (0, [(0, .ref 34), (1, .int (l1))], []) (lay s) (tq_i Q) := by
  unfold cH_startAnother at h
  refine ev_aload_n (pc' := 1) m_140 rfl rfl rfl (tr_get (pc' := 4) (v := .ref 12) m_140 rfl rfl ts_o34 rfl rfl rfl (ev_iload_n (pc' := 5) m_140 rfl rfl rfl ?_))
  refine tr_cz (pc' := 8) m_140 rfl rfl rfl m_54 rfl rfl rfl rfl rfl (tr_rcv ts_o12 rfl) rfl rfl (cG_isDefinition_ok l1 _ _ (Ok_b h)) (fun x3_ x3_s h1 h => ?_)
  refine ev_if_eq (t := 23) (e := 11) m_140 rfl rfl rfl (fun c5 => ?_) (fun c5 => ?_)
  · replace h := Ok_t c5 h
    refine ev_iconst (pc' := 24) (x := 0) m_140 rfl rfl rfl ?_
    exact am_Ev.sub (L := [(0, .ref 34), (1, .int (l1))]) ⟨rfl, rfl, trivial⟩ (cH_startAnother_24_ok l1 ((0 : Int32)) _ _ h)
  · replace h := Ok_f c5 h
    refine ev_aload_n (pc' := 12) m_140 rfl rfl rfl (tr_get (pc' := 15) (v := .ref 12) m_140 rfl rfl ts_o34 rfl rfl rfl (tr_get (pc' := 18) (v := .ref 19) m_140 rfl rfl ts_o12 rfl rfl rfl (ev_iload_n (pc' := 19) m_140 rfl rfl rfl ?_)))
    obtain ⟨g4, h⟩ := Ok_g h
    refine tr_iald (pc' := 20) m_140 rfl rfl rfl g4 rfl (ev_goto (pc' := 24) m_140 rfl rfl ?_)
    exact am_Ev.sub (L := [(0, .ref 34), (1, .int (l1))]) ⟨rfl, rfl, trivial⟩ (cH_startAnother_24_ok l1 (gA x3_s 19 l1.toNatClampNeg) _ _ h)
def cO_find (l1 : Int32) (s : ts) : Option (Option Nat × ts) := (if l1 < ((0 : Int32)) then some (none, s) else (if (gI s 904 0) ≤ l1 then some (none, s) else (if ((300 : Int32)) ≤ l1 then some (none, s) else (if am_idx l1 300 = true then (if l1.toNatClampNeg < gM s then some (some l1.toNatClampNeg, s) else some (none, s)) else none))))
set_option maxRecDepth 20000 in
theorem cO_find_ok {d : Nat} (l1 : Int32) (s : ts) (Q : Option Nat × ts → Prop) (h : Ok (cO_find l1 s) Q) : am_Ev (d + 0) 141 (0, [(0, .ref 81), (1, .int (l1))], []) (lay s) (tq_r pB Q) := by
  unfold cO_find at h
  refine ev_iload_n (pc' := 1) m_141 rfl rfl rfl ?_
  refine ev_if_lt (t := 28) (e := 4) m_141 rfl rfl rfl (fun c5 => ?_) (fun c5 => ?_)
  · replace h := Ok_t c5 h
    refine ev_null (pc' := 29) m_141 rfl rfl ?_
    exact tr_rn m_141 rfl rfl (Ok_s h)
  · replace h := Ok_f c5 h
    refine ev_iload_n (pc' := 5) m_141 rfl rfl rfl (ev_aload_n (pc' := 6) m_141 rfl rfl rfl (tr_get (pc' := 9) (v := .int (gI _ 904 _)) m_141 rfl rfl ts_o81 rfl rfl rfl ?_))
    refine ev_icmp_ge (t := 28) (e := 12) m_141 rfl rfl rfl (fun c4 => ?_) (fun c4 => ?_)
    · replace h := Ok_t c4 h
      refine ev_null (pc' := 29) m_141 rfl rfl ?_
      exact tr_rn m_141 rfl rfl (Ok_s h)
    · replace h := Ok_f c4 h
      refine ev_iload_n (pc' := 13) m_141 rfl rfl rfl (ev_sipush (pc' := 16) (x := 300) m_141 rfl rfl rfl ?_)
      refine ev_icmp_ge (t := 28) (e := 19) m_141 rfl rfl rfl (fun c3 => ?_) (fun c3 => ?_)
      · replace h := Ok_t c3 h
        refine ev_null (pc' := 29) m_141 rfl rfl ?_
        exact tr_rn m_141 rfl rfl (Ok_s h)
      · replace h := Ok_f c3 h
        refine ev_aload_n (pc' := 20) m_141 rfl rfl rfl (tr_get (pc' := 23) (v := .ref 82) m_141 rfl rfl ts_o81 rfl rfl rfl (ev_iload_n (pc' := 24) m_141 rfl rfl rfl ?_))
        obtain ⟨g1, h⟩ := Ok_g h
        by_cases g2 : l1.toNatClampNeg < gM s
        · replace h := Ok_t g2 h
          refine tr_paldS (pc' := 25) m_141 rfl g1 g2 rfl ?_
          refine ev_goto (pc' := 29) m_141 rfl rfl ?_
          exact tr_rr m_141 rfl rfl (Ok_s h)
        · replace h := Ok_f g2 h
          refine tr_paldN (pc' := 25) m_141 rfl g1 g2 rfl ?_
          refine ev_goto (pc' := 29) m_141 rfl rfl ?_
          exact tr_rn m_141 rfl rfl (Ok_s h)
def cP_isOver (l0 : Nat) (s : ts) : Option (Int32 × ts) := (if l0 < gM s then (if (gI s 502 l0) = ((5 : Int32)) then some ((1 : Int32), s) else (if (gI s 502 l0) = ((6 : Int32)) then some ((1 : Int32), s) else some ((0 : Int32), s))) else none)
set_option maxRecDepth 20000 in
theorem cP_isOver_ok {d : Nat} (l0 : Nat) (s : ts) (Q : Int32 × ts → Prop) (h : Ok (cP_isOver l0 s) Q) : am_Ev (d + 0) 143 (0, [(0, .ref (pB l0))], []) (lay s) (tq_i Q) := by
  unfold cP_isOver at h
  refine ev_aload_n (pc' := 1) m_143 rfl rfl rfl ?_
  obtain ⟨g1, h⟩ := Ok_g h
  refine tr_get (pc' := 4) (v := .int (gI _ 502 _)) m_143 rfl rfl (ts_obB g1) rfl rfl rfl (ev_iconst (pc' := 5) (x := 5) m_143 rfl rfl rfl ?_)
  refine ev_icmp_eq (t := 17) (e := 8) m_143 rfl rfl rfl (fun c3 => ?_) (fun c3 => ?_)
  · replace h := Ok_t c3 h
    refine ev_iconst (pc' := 18) (x := 1) m_143 rfl rfl rfl (ev_goto (pc' := 22) m_143 rfl rfl ?_)
    exact tr_rz m_143 rfl rfl (Or.inr rfl) (Ok_s h)
  · replace h := Ok_f c3 h
    refine ev_aload_n (pc' := 9) m_143 rfl rfl rfl (tr_get (pc' := 12) (v := .int (gI _ 502 _)) m_143 rfl rfl (ts_obB g1) rfl rfl rfl (ev_bipush (pc' := 14) (x := 6) m_143 rfl rfl rfl ?_))
    refine ev_icmp_ne (t := 21) (e := 17) m_143 rfl rfl rfl (fun c2 => ?_) (fun c2 => ?_)
    · replace h := Ok_f c2 h
      refine ev_iconst (pc' := 22) (x := 0) m_143 rfl rfl rfl ?_
      exact tr_rz m_143 rfl rfl (Or.inl rfl) (Ok_s h)
    · replace h := Ok_t c2 h
      refine ev_iconst (pc' := 18) (x := 1) m_143 rfl rfl rfl (ev_goto (pc' := 22) m_143 rfl rfl ?_)
      exact tr_rz m_143 rfl rfl (Or.inr rfl) (Ok_s h)
def cO_finish_138_b (k122 : Nat → Int32 → ts → Option (ts)) (kk : Nat → Int32 → Int32 → ts → Option (ts)) (l1 : Nat) (l5 : Int32) (l6 : Int32) (s : ts) : Option (ts) := (if l6 ≤ ((0 : Int32)) then k122 l1 (l5 + (1 : Int32)) s else (cO_giveBack l1 l5 s).bind (fun x3 => kk l1 l5 (l6 + (-1 : Int32)) x3.2))
def cO_finish_138 (k122 : Nat → Int32 → ts → Option (ts)) : Nat → Nat → Int32 → Int32 → ts → Option (ts)
  | 0, _, _, _, _ => none
  | n + 1, l1, l5, l6, s => cO_finish_138_b k122 (cO_finish_138 k122 n) l1 l5 l6 s
set_option maxRecDepth 20000 in
theorem cO_finish_138_ok {d : Nat} (k122 : Nat → Int32 → ts → Option (ts)) (hk122 : ∀ (l1 : Nat) (l5 : Int32) (s : ts) (Q : ts → Prop), Ok (k122 l1 l5 s) Q → am_Ev (d + 3) 142 (122, [(0, .ref 81), (1, .ref (pB l1)), (5, .int (l5))], []) (lay s) (tq_v Q)) : ∀ (n : Nat) (l1 : Nat) (l5 : Int32) (l6 : Int32) (s : ts) (Q : ts → Prop), Ok (cO_finish_138 k122 n l1 l5 l6 s) Q → am_Ev (d + 3) 142 (138, [(0, .ref 81), (1, .ref (pB l1)), (5, .int (l5)), (6, .int (l6))], []) (lay s) (tq_v Q) := by
  intro n
  induction n with
  | zero => intro l1 l5 l6 s Q h; exact Ok_n h
  | succ n ih =>
    intro l1 l5 l6 s Q h
    rw [cO_finish_138.eq_2] at h
    unfold cO_finish_138_b at h
    refine ev_iload (pc' := 140) m_142 rfl rfl rfl ?_
    refine ev_if_le (t := 157) (e := 143) m_142 rfl rfl rfl (fun c4 => ?_) (fun c4 => ?_)
    · replace h := Ok_t c4 h
      refine ev_iinc (pc' := 160) (z := 1) m_142 rfl rfl rfl rfl rfl rfl (ev_goto (pc' := 122) m_142 rfl rfl ?_)
      exact am_Ev.sub (L := [(0, .ref 81), (1, .ref (pB l1)), (5, .int (l5 + (1 : Int32)))]) ⟨rfl, rfl, rfl, trivial⟩ (hk122 l1 (l5 + (1 : Int32)) _ _ h)
    · replace h := Ok_f c4 h
      refine ev_aload_n (pc' := 144) m_142 rfl rfl rfl (ev_aload_n (pc' := 145) m_142 rfl rfl rfl (ev_iload (pc' := 147) m_142 rfl rfl rfl ?_))
      refine tr_cz (pc' := 150) m_142 rfl rfl rfl m_133 rfl rfl rfl rfl rfl (tr_rcv ts_o81 rfl) rfl rfl (cO_giveBack_ok l1 l5 _ _ (Ok_b h)) (fun x3_ x3_s h1 h => ?_)
      refine ev_pop (pc' := 151) m_142 rfl rfl rfl (ev_iinc (pc' := 154) (z := -1) m_142 rfl rfl rfl rfl rfl rfl (ev_goto (pc' := 138) m_142 rfl rfl ?_))
      exact am_Ev.sub (L := [(0, .ref 81), (1, .ref (pB l1)), (5, .int (l5)), (6, .int (l6 + (-1 : Int32)))]) ⟨rfl, rfl, rfl, rfl, trivial⟩ (ih l1 l5 (l6 + (-1 : Int32)) _ _ h)
def cO_finish_122_b (kk : Nat → Int32 → ts → Option (ts)) (l1 : Nat) (l5 : Int32) (s : ts) : Option (ts) := (if ((8 : Int32)) ≤ l5 then some s else (if l1 < gM s then (if am_idx l5 8 = true then cO_finish_138 kk tm_N l1 l5 (gU s l1 l5.toNatClampNeg) s else none) else none))
def cO_finish_122 : Nat → Nat → Int32 → ts → Option (ts)
  | 0, _, _, _ => none
  | n + 1, l1, l5, s => cO_finish_122_b (cO_finish_122 n) l1 l5 s
set_option maxRecDepth 20000 in
theorem cO_finish_122_ok {d : Nat} : ∀ (n : Nat) (l1 : Nat) (l5 : Int32) (s : ts) (Q : ts → Prop), Ok (cO_finish_122 n l1 l5 s) Q → am_Ev (d + 3) 142 (122, [(0, .ref 81), (1, .ref (pB l1)), (5, .int (l5))], []) (lay s) (tq_v Q) := by
  intro n
  induction n with
  | zero => intro l1 l5 s Q h; exact Ok_n h
  | succ n ih =>
    intro l1 l5 s Q h
    rw [cO_finish_122.eq_2] at h
    unfold cO_finish_122_b at h
    refine ev_iload (pc' := 124) m_142 rfl rfl rfl (ev_bipush (pc' := 126) (x := 8) m_142 rfl rfl rfl ?_)
    refine ev_icmp_ge (t := 163) (e := 129) m_142 rfl rfl rfl (fun c3 => ?_) (fun c3 => ?_)
    · replace h := Ok_t c3 h
      exact tr_rv m_142 rfl rfl (Ok_s h)
    · replace h := Ok_f c3 h
      refine ev_aload_n (pc' := 130) m_142 rfl rfl rfl ?_
      obtain ⟨g1, h⟩ := Ok_g h
      refine tr_get (pc' := 133) (v := .ref (pU l1)) m_142 rfl rfl (ts_obB g1) rfl rfl rfl (ev_iload (pc' := 135) m_142 rfl rfl rfl ?_)
      obtain ⟨g2, h⟩ := Ok_g h
      refine tr_uald (pc' := 136) m_142 rfl g1 g2 rfl (ev_istore (pc' := 138) m_142 rfl rfl rfl rfl ?_)
      exact am_Ev.sub (L := [(0, .ref 81), (1, .ref (pB l1)), (5, .int (l5)), (6, .int (gU s l1 l5.toNatClampNeg))]) ⟨rfl, rfl, rfl, rfl, trivial⟩ (cO_finish_138_ok (cO_finish_122 n) ih tm_N l1 l5 (gU s l1 l5.toNatClampNeg) _ _ h)
def cO_finish_102 (l1 : Nat) (l4 : Option Nat) (t1 : Int32) (t2 : Int32) (s : ts) : Option (ts) := (match l4 with
  | none => cO_finish_122 tm_N l1 ((0 : Int32)) (wI s 906 0 (t1 + t2))
  | some l4 => (cO_serve l4 none (wI s 906 0 (t1 + t2))).bind (fun x3 => cO_finish_122 tm_N l1 ((0 : Int32)) x3.2))
set_option maxRecDepth 20000 in
theorem cO_finish_102_ok {d : Nat} (l1 : Nat) (l4 : Option Nat) (t1 : Int32) (t2 : Int32) (s : ts) (Q : ts → Prop) (h : Ok (cO_finish_102 l1 l4 t1 t2 s) Q) : am_Ev (d + 3) 142 (102, [(0, .ref 81), (1, .ref (pB l1)), (4, va_rf (l4.map pQ))], [.int (t2), .int (t1), .ref 81]) (lay s) (tq_v Q) := by
  unfold cO_finish_102 at h
  cases l4 with
  | none =>
    dsimp only at h
    refine ev_iadd (pc' := 103) m_142 rfl rfl (tr_pI (pc' := 106) (f := 906) m_142 rfl rfl rfl ts_o81 rfl rfl rfl rfl (ev_aloadN (pc' := 108) m_142 rfl rfl rfl (ev_nulY (t := 119) m_142 rfl rfl (ev_iconst (pc' := 120) (x := 0) m_142 rfl rfl rfl (ev_istore (pc' := 122) m_142 rfl rfl rfl rfl ?_)))))
    exact am_Ev.sub (L := [(0, .ref 81), (1, .ref (pB l1)), (5, .int ((0 : Int32)))]) ⟨rfl, rfl, rfl, trivial⟩ (cO_finish_122_ok tm_N l1 ((0 : Int32)) _ _ h)
  | some l4 =>
    dsimp only at h
    refine ev_iadd (pc' := 103) m_142 rfl rfl (tr_pI (pc' := 106) (f := 906) m_142 rfl rfl rfl ts_o81 rfl rfl rfl rfl (ev_aload (pc' := 108) m_142 rfl rfl rfl (ev_nulN (e := 111) m_142 rfl rfl (ev_aload_n (pc' := 112) m_142 rfl rfl rfl (ev_aload (pc' := 114) m_142 rfl rfl rfl (ev_null (pc' := 115) m_142 rfl rfl ?_))))))
    refine tr_cz (pc' := 118) m_142 rfl rfl rfl m_136 rfl rfl rfl rfl rfl (tr_rcv ts_o81 rfl) rfl rfl (cO_serve_ok l4 none _ _ (Ok_b h)) (fun x3_ x3_s h1 h => ?_)
    refine ev_pop (pc' := 119) m_142 rfl rfl rfl (ev_iconst (pc' := 120) (x := 0) m_142 rfl rfl rfl (ev_istore (pc' := 122) m_142 rfl rfl rfl rfl ?_))
    exact am_Ev.sub (L := [(0, .ref 81), (1, .ref (pB l1)), (5, .int ((0 : Int32)))]) ⟨rfl, rfl, rfl, trivial⟩ (cO_finish_122_ok tm_N l1 ((0 : Int32)) _ _ h)
def cO_finish_84 (l1 : Nat) (l2 : Int32) (l4 : Option Nat) (t1 : Int32) (t2 : Int32) (s : ts) : Option (ts) := (match l4 with
  | none => (if l2 = ((0 : Int32)) then cO_finish_102 l1 none (gI (wI s 905 0 (t1 + t2)) 906 0) ((0 : Int32)) (wI s 905 0 (t1 + t2)) else cO_finish_102 l1 none (gI (wI s 905 0 (t1 + t2)) 906 0) ((1 : Int32)) (wI s 905 0 (t1 + t2)))
  | some l4 => (if l2 = ((0 : Int32)) then cO_finish_102 l1 (some l4) (gI (wI s 905 0 (t1 + t2)) 906 0) ((0 : Int32)) (wI s 905 0 (t1 + t2)) else cO_finish_102 l1 (some l4) (gI (wI s 905 0 (t1 + t2)) 906 0) ((1 : Int32)) (wI s 905 0 (t1 + t2))))
set_option maxRecDepth 20000 in
theorem cO_finish_84_ok {d : Nat} (l1 : Nat) (l2 : Int32) (l4 : Option Nat) (t1 : Int32) (t2 : Int32) (s : ts) (Q : ts → Prop) (h : Ok (cO_finish_84 l1 l2 l4 t1 t2 s) Q) : am_Ev (d + 3) 142 (84, [(0, .ref 81), (1, .ref (pB l1)), (2, .int (l2)), (4, va_rf (l4.map pQ))], [.int (t2), .int (t1), .ref 81]) (lay s) (tq_v Q) := by
  unfold cO_finish_84 at h
  cases l4 with
  | none =>
    dsimp only at h
    refine ev_iadd (pc' := 85) m_142 rfl rfl (tr_pI (pc' := 88) (f := 905) m_142 rfl rfl rfl ts_o81 rfl rfl rfl rfl (ev_aload_n (pc' := 89) m_142 rfl rfl rfl (ev_dup (pc' := 90) m_142 rfl rfl rfl (tr_get (pc' := 93) (v := .int (gI _ 906 _)) m_142 rfl rfl ts_o81 rfl rfl rfl (ev_iload_n (pc' := 94) m_142 rfl rfl rfl ?_)))))
    refine ev_if_ne (t := 101) (e := 97) m_142 rfl rfl rfl (fun c1 => ?_) (fun c1 => ?_)
    · replace h := Ok_f c1 h
      refine ev_iconst (pc' := 102) (x := 1) m_142 rfl rfl rfl ?_
      exact am_Ev.sub (L := [(0, .ref 81), (1, .ref (pB l1)), (4, .null)]) ⟨rfl, rfl, rfl, trivial⟩ (cO_finish_102_ok l1 none (gI (wI s 905 0 (t1 + t2)) 906 0) ((1 : Int32)) _ _ h)
    · replace h := Ok_t c1 h
      refine ev_iconst (pc' := 98) (x := 0) m_142 rfl rfl rfl (ev_goto (pc' := 102) m_142 rfl rfl ?_)
      exact am_Ev.sub (L := [(0, .ref 81), (1, .ref (pB l1)), (4, .null)]) ⟨rfl, rfl, rfl, trivial⟩ (cO_finish_102_ok l1 none (gI (wI s 905 0 (t1 + t2)) 906 0) ((0 : Int32)) _ _ h)
  | some l4 =>
    dsimp only at h
    refine ev_iadd (pc' := 85) m_142 rfl rfl (tr_pI (pc' := 88) (f := 905) m_142 rfl rfl rfl ts_o81 rfl rfl rfl rfl (ev_aload_n (pc' := 89) m_142 rfl rfl rfl (ev_dup (pc' := 90) m_142 rfl rfl rfl (tr_get (pc' := 93) (v := .int (gI _ 906 _)) m_142 rfl rfl ts_o81 rfl rfl rfl (ev_iload_n (pc' := 94) m_142 rfl rfl rfl ?_)))))
    refine ev_if_ne (t := 101) (e := 97) m_142 rfl rfl rfl (fun c2 => ?_) (fun c2 => ?_)
    · replace h := Ok_f c2 h
      refine ev_iconst (pc' := 102) (x := 1) m_142 rfl rfl rfl ?_
      exact am_Ev.sub (L := [(0, .ref 81), (1, .ref (pB l1)), (4, .ref (pQ l4))]) ⟨rfl, rfl, rfl, trivial⟩ (cO_finish_102_ok l1 (some l4) (gI (wI s 905 0 (t1 + t2)) 906 0) ((1 : Int32)) _ _ h)
    · replace h := Ok_t c2 h
      refine ev_iconst (pc' := 98) (x := 0) m_142 rfl rfl rfl (ev_goto (pc' := 102) m_142 rfl rfl ?_)
      exact am_Ev.sub (L := [(0, .ref 81), (1, .ref (pB l1)), (4, .ref (pQ l4))]) ⟨rfl, rfl, rfl, trivial⟩ (cO_finish_102_ok l1 (some l4) (gI (wI s 905 0 (t1 + t2)) 906 0) ((0 : Int32)) _ _ h)
def cO_finish_62 (l1 : Nat) (l2 : Int32) (l4 : Option Nat) (t0 : Nat) (t1 : Int32) (s : ts) : Option (ts) := (match l4 with
  | none => (if t0 < gM s then (if l1 < gM s then (if l2 = ((0 : Int32)) then cO_finish_84 l1 l2 none (gI (wI (wI s 502 t0 t1) 504 l1 l2) 905 0) ((1 : Int32)) (wI (wI s 502 t0 t1) 504 l1 l2) else cO_finish_84 l1 l2 none (gI (wI (wI s 502 t0 t1) 504 l1 l2) 905 0) ((0 : Int32)) (wI (wI s 502 t0 t1) 504 l1 l2)) else none) else none)
  | some l4 => (if t0 < gM s then (if l1 < gM s then (if l2 = ((0 : Int32)) then cO_finish_84 l1 l2 (some l4) (gI (wI (wI s 502 t0 t1) 504 l1 l2) 905 0) ((1 : Int32)) (wI (wI s 502 t0 t1) 504 l1 l2) else cO_finish_84 l1 l2 (some l4) (gI (wI (wI s 502 t0 t1) 504 l1 l2) 905 0) ((0 : Int32)) (wI (wI s 502 t0 t1) 504 l1 l2)) else none) else none))
set_option maxRecDepth 20000 in
theorem cO_finish_62_ok {d : Nat} (l1 : Nat) (l2 : Int32) (l4 : Option Nat) (t0 : Nat) (t1 : Int32) (s : ts) (Q : ts → Prop) (h : Ok (cO_finish_62 l1 l2 l4 t0 t1 s) Q) : am_Ev (d + 3) 142 (62, [(0, .ref 81), (1, .ref (pB l1)), (2, .int (l2)), (4, va_rf (l4.map pQ))], [.int (t1), .ref (pB t0)]) (lay s) (tq_v Q) := by
  unfold cO_finish_62 at h
  cases l4 with
  | none =>
    dsimp only at h
    obtain ⟨g1, h⟩ := Ok_g h
    refine tr_pI (pc' := 65) (f := 502) m_142 rfl rfl rfl (ts_obB g1) rfl rfl rfl rfl (ev_aload_n (pc' := 66) m_142 rfl rfl rfl (ev_iload_n (pc' := 67) m_142 rfl rfl rfl ?_))
    obtain ⟨g2, h⟩ := Ok_g h
    refine tr_pI (pc' := 70) (f := 504) m_142 rfl rfl rfl (ts_obB g2) rfl rfl rfl rfl (ev_aload_n (pc' := 71) m_142 rfl rfl rfl (ev_dup (pc' := 72) m_142 rfl rfl rfl (tr_get (pc' := 75) (v := .int (gI _ 905 _)) m_142 rfl rfl ts_o81 rfl rfl rfl (ev_iload_n (pc' := 76) m_142 rfl rfl rfl ?_))))
    refine ev_if_ne (t := 83) (e := 79) m_142 rfl rfl rfl (fun c3 => ?_) (fun c3 => ?_)
    · replace h := Ok_f c3 h
      refine ev_iconst (pc' := 84) (x := 0) m_142 rfl rfl rfl ?_
      exact am_Ev.sub (L := [(0, .ref 81), (1, .ref (pB l1)), (2, .int (l2)), (4, .null)]) ⟨rfl, rfl, rfl, rfl, trivial⟩ (cO_finish_84_ok l1 l2 none (gI (wI (wI s 502 t0 t1) 504 l1 l2) 905 0) ((0 : Int32)) _ _ h)
    · replace h := Ok_t c3 h
      refine ev_iconst (pc' := 80) (x := 1) m_142 rfl rfl rfl (ev_goto (pc' := 84) m_142 rfl rfl ?_)
      exact am_Ev.sub (L := [(0, .ref 81), (1, .ref (pB l1)), (2, .int (l2)), (4, .null)]) ⟨rfl, rfl, rfl, rfl, trivial⟩ (cO_finish_84_ok l1 l2 none (gI (wI (wI s 502 t0 t1) 504 l1 l2) 905 0) ((1 : Int32)) _ _ h)
  | some l4 =>
    dsimp only at h
    obtain ⟨g4, h⟩ := Ok_g h
    refine tr_pI (pc' := 65) (f := 502) m_142 rfl rfl rfl (ts_obB g4) rfl rfl rfl rfl (ev_aload_n (pc' := 66) m_142 rfl rfl rfl (ev_iload_n (pc' := 67) m_142 rfl rfl rfl ?_))
    obtain ⟨g5, h⟩ := Ok_g h
    refine tr_pI (pc' := 70) (f := 504) m_142 rfl rfl rfl (ts_obB g5) rfl rfl rfl rfl (ev_aload_n (pc' := 71) m_142 rfl rfl rfl (ev_dup (pc' := 72) m_142 rfl rfl rfl (tr_get (pc' := 75) (v := .int (gI _ 905 _)) m_142 rfl rfl ts_o81 rfl rfl rfl (ev_iload_n (pc' := 76) m_142 rfl rfl rfl ?_))))
    refine ev_if_ne (t := 83) (e := 79) m_142 rfl rfl rfl (fun c6 => ?_) (fun c6 => ?_)
    · replace h := Ok_f c6 h
      refine ev_iconst (pc' := 84) (x := 0) m_142 rfl rfl rfl ?_
      exact am_Ev.sub (L := [(0, .ref 81), (1, .ref (pB l1)), (2, .int (l2)), (4, .ref (pQ l4))]) ⟨rfl, rfl, rfl, rfl, trivial⟩ (cO_finish_84_ok l1 l2 (some l4) (gI (wI (wI s 502 t0 t1) 504 l1 l2) 905 0) ((0 : Int32)) _ _ h)
    · replace h := Ok_t c6 h
      refine ev_iconst (pc' := 80) (x := 1) m_142 rfl rfl rfl (ev_goto (pc' := 84) m_142 rfl rfl ?_)
      exact am_Ev.sub (L := [(0, .ref 81), (1, .ref (pB l1)), (2, .int (l2)), (4, .ref (pQ l4))]) ⟨rfl, rfl, rfl, rfl, trivial⟩ (cO_finish_84_ok l1 l2 (some l4) (gI (wI (wI s 502 t0 t1) 504 l1 l2) 905 0) ((1 : Int32)) _ _ h)
def cO_finish_49 (l1 : Nat) (l2 : Int32) (t0 : Option Nat) (s : ts) : Option (ts) := (match t0 with
  | none => (if l2 = ((0 : Int32)) then cO_finish_62 l1 l2 none l1 ((5 : Int32)) s else cO_finish_62 l1 l2 none l1 ((6 : Int32)) s)
  | some t0 => (if l2 = ((0 : Int32)) then cO_finish_62 l1 l2 (some t0) l1 ((5 : Int32)) s else cO_finish_62 l1 l2 (some t0) l1 ((6 : Int32)) s))
set_option maxRecDepth 20000 in
theorem cO_finish_49_ok {d : Nat} (l1 : Nat) (l2 : Int32) (t0 : Option Nat) (s : ts) (Q : ts → Prop) (h : Ok (cO_finish_49 l1 l2 t0 s) Q) : am_Ev (d + 3) 142 (49, [(0, .ref 81), (1, .ref (pB l1)), (2, .int (l2))], [va_rf (t0.map pQ)]) (lay s) (tq_v Q) := by
  unfold cO_finish_49 at h
  cases t0 with
  | none =>
    dsimp only at h
    refine ev_astoreN (pc' := 51) m_142 rfl rfl rfl rfl (ev_aload_n (pc' := 52) m_142 rfl rfl rfl (ev_iload_n (pc' := 53) m_142 rfl rfl rfl ?_))
    refine ev_if_ne (t := 60) (e := 56) m_142 rfl rfl rfl (fun c1 => ?_) (fun c1 => ?_)
    · replace h := Ok_f c1 h
      refine ev_bipush (pc' := 62) (x := 6) m_142 rfl rfl rfl ?_
      exact am_Ev.sub (L := [(0, .ref 81), (1, .ref (pB l1)), (2, .int (l2)), (4, .null)]) ⟨rfl, rfl, rfl, rfl, trivial⟩ (cO_finish_62_ok l1 l2 none l1 ((6 : Int32)) _ _ h)
    · replace h := Ok_t c1 h
      refine ev_iconst (pc' := 57) (x := 5) m_142 rfl rfl rfl (ev_goto (pc' := 62) m_142 rfl rfl ?_)
      exact am_Ev.sub (L := [(0, .ref 81), (1, .ref (pB l1)), (2, .int (l2)), (4, .null)]) ⟨rfl, rfl, rfl, rfl, trivial⟩ (cO_finish_62_ok l1 l2 none l1 ((5 : Int32)) _ _ h)
  | some t0 =>
    dsimp only at h
    refine ev_astore (pc' := 51) m_142 rfl rfl rfl rfl (ev_aload_n (pc' := 52) m_142 rfl rfl rfl (ev_iload_n (pc' := 53) m_142 rfl rfl rfl ?_))
    refine ev_if_ne (t := 60) (e := 56) m_142 rfl rfl rfl (fun c2 => ?_) (fun c2 => ?_)
    · replace h := Ok_f c2 h
      refine ev_bipush (pc' := 62) (x := 6) m_142 rfl rfl rfl ?_
      exact am_Ev.sub (L := [(0, .ref 81), (1, .ref (pB l1)), (2, .int (l2)), (4, .ref (pQ t0))]) ⟨rfl, rfl, rfl, rfl, trivial⟩ (cO_finish_62_ok l1 l2 (some t0) l1 ((6 : Int32)) _ _ h)
    · replace h := Ok_t c2 h
      refine ev_iconst (pc' := 57) (x := 5) m_142 rfl rfl rfl (ev_goto (pc' := 62) m_142 rfl rfl ?_)
      exact am_Ev.sub (L := [(0, .ref 81), (1, .ref (pB l1)), (2, .int (l2)), (4, .ref (pQ t0))]) ⟨rfl, rfl, rfl, rfl, trivial⟩ (cO_finish_62_ok l1 l2 (some t0) l1 ((5 : Int32)) _ _ h)
def cO_finish_26 (l1 : Nat) (l2 : Int32) (s : ts) : Option (ts) := (if l1 < gM s then (if (gI s 502 l1) = ((3 : Int32)) then (cW_placeAt (gI s 511 l1) s).bind (fun x4 => match x4.1 with
  | none => cO_finish_49 l1 l2 none x4.2
  | some q5 => cO_finish_49 l1 l2 (some q5) x4.2) else cO_finish_49 l1 l2 none s) else none)
set_option maxRecDepth 20000 in
theorem cO_finish_26_ok {d : Nat} (l1 : Nat) (l2 : Int32) (s : ts) (Q : ts → Prop) (h : Ok (cO_finish_26 l1 l2 s) Q) : am_Ev (d + 3) 142 (26, [(0, .ref 81), (1, .ref (pB l1)), (2, .int (l2))], []) (lay s) (tq_v Q) := by
  unfold cO_finish_26 at h
  refine ev_aload_n (pc' := 27) m_142 rfl rfl rfl ?_
  obtain ⟨g1, h⟩ := Ok_g h
  refine tr_get (pc' := 30) (v := .int (gI _ 502 _)) m_142 rfl rfl (ts_obB g1) rfl rfl rfl (ev_iconst (pc' := 31) (x := 3) m_142 rfl rfl rfl ?_)
  refine ev_icmp_ne (t := 48) (e := 34) m_142 rfl rfl rfl (fun c6 => ?_) (fun c6 => ?_)
  · replace h := Ok_f c6 h
    refine ev_null (pc' := 49) m_142 rfl rfl ?_
    exact am_Ev.sub (L := [(0, .ref 81), (1, .ref (pB l1)), (2, .int (l2))]) ⟨rfl, rfl, rfl, trivial⟩ (cO_finish_49_ok l1 l2 none _ _ h)
  · replace h := Ok_t c6 h
    refine ev_aload_n (pc' := 35) m_142 rfl rfl rfl (tr_get (pc' := 38) (v := .ref 35) m_142 rfl rfl ts_o81 rfl rfl rfl (ev_aload_n (pc' := 39) m_142 rfl rfl rfl (tr_get (pc' := 42) (v := .int (gI _ 511 _)) m_142 rfl rfl (ts_obB g1) rfl rfl rfl ?_)))
    refine tr_cr (pc' := 45) m_142 rfl rfl rfl m_118 rfl rfl rfl rfl (tr_rcv ts_o35 rfl) rfl rfl (cW_placeAt_ok (gI s 511 l1) _ _ (Ok_b h)) (fun x4_s h => ?_) (fun q5 x4_s h => ?_)
    · dsimp only at h
      refine ev_goto (pc' := 49) m_142 rfl rfl ?_
      exact am_Ev.sub (L := [(0, .ref 81), (1, .ref (pB l1)), (2, .int (l2))]) ⟨rfl, rfl, rfl, trivial⟩ (cO_finish_49_ok l1 l2 none _ _ h)
    · dsimp only at h
      refine ev_goto (pc' := 49) m_142 rfl rfl ?_
      exact am_Ev.sub (L := [(0, .ref 81), (1, .ref (pB l1)), (2, .int (l2))]) ⟨rfl, rfl, rfl, trivial⟩ (cO_finish_49_ok l1 l2 (some q5) _ _ h)
def cO_finish (l1 : Option Nat) (l2 : Int32) (s : ts) : Option (ts) := (match l1 with
  | none => some s
  | some l1 => (if l1 < gM s then (cP_isOver l1 s).bind (fun x4 => (if x4.1 = ((0 : Int32)) then (if l1 < gM x4.2 then (match gR x4.2 507 l1 with
  | none => cO_finish_26 l1 l2 x4.2
  | some r6 => (if r6 < 30 then (cN_drop r6 l1 x4.2).bind (fun s10 => cO_finish_26 l1 l2 s10) else none)) else none) else some x4.2)) else none))
set_option maxRecDepth 20000 in
theorem cO_finish_ok {d : Nat} (l1 : Option Nat) (l2 : Int32) (s : ts) (Q : ts → Prop) (h : Ok (cO_finish l1 l2 s) Q) : am_Ev (d + 3) 142 (0, [(0, .ref 81), (1, va_rf (l1.map pB)), (2, .int (l2))], []) (lay s) (tq_v Q) := by
  unfold cO_finish at h
  cases l1 with
  | none =>
    dsimp only at h
    refine ev_aload_nN (pc' := 1) m_142 rfl rfl rfl (ev_nulY (t := 11) m_142 rfl rfl ?_)
    exact tr_rv m_142 rfl rfl (Ok_s h)
  | some l1 =>
    dsimp only at h
    refine ev_aload_n (pc' := 1) m_142 rfl rfl rfl (ev_nulN (e := 4) m_142 rfl rfl (ev_aload_n (pc' := 5) m_142 rfl rfl rfl ?_))
    obtain ⟨g1, h⟩ := Ok_g h
    refine tr_cz (pc' := 8) m_142 rfl rfl rfl m_143 rfl rfl rfl rfl rfl (tr_rcv (ts_obB g1) rfl) rfl rfl (cP_isOver_ok l1 _ _ (Ok_b h)) (fun x4_ x4_s h2 h => ?_)
    refine ev_if_eq (t := 12) (e := 11) m_142 rfl rfl rfl (fun c12 => ?_) (fun c12 => ?_)
    · replace h := Ok_t c12 h
      refine ev_aload_n (pc' := 13) m_142 rfl rfl rfl ?_
      obtain ⟨g5, h⟩ := Ok_g h
      cases e7 : gR x4_s 507 l1 with
      | none =>
        rw [e7] at h
        dsimp only at h
        refine tr_getN (pc' := 16) (f := 507) (g := pL) m_142 rfl rfl (ts_obB g5) rfl rfl e7 rfl ?_
        refine ev_astore_nN (pc' := 17) m_142 rfl rfl rfl rfl (ev_aload_nN (pc' := 18) m_142 rfl rfl rfl (ev_nulY (t := 26) m_142 rfl rfl ?_))
        exact am_Ev.sub (L := [(0, .ref 81), (1, .ref (pB l1)), (2, .int (l2))]) ⟨rfl, rfl, rfl, trivial⟩ (cO_finish_26_ok l1 l2 _ _ h)
      | some r6 =>
        rw [e7] at h
        dsimp only at h
        refine tr_getS (pc' := 16) (f := 507) (g := pL) m_142 rfl rfl (ts_obB g5) rfl rfl e7 rfl ?_
        refine ev_astore_n (pc' := 17) m_142 rfl rfl rfl rfl (ev_aload_n (pc' := 18) m_142 rfl rfl rfl (ev_nulN (e := 21) m_142 rfl rfl (ev_aload_n (pc' := 22) m_142 rfl rfl rfl (ev_aload_n (pc' := 23) m_142 rfl rfl rfl ?_))))
        obtain ⟨g8, h⟩ := Ok_g h
        refine tr_cv (pc' := 26) m_142 rfl rfl rfl m_103 rfl rfl rfl rfl (tr_rcv (ts_obL g8) rfl) rfl rfl (cN_drop_ok r6 l1 _ _ (Ok_b h)) (fun s10 h => ?_)
        exact am_Ev.sub (L := [(0, .ref 81), (1, .ref (pB l1)), (2, .int (l2))]) ⟨rfl, rfl, rfl, trivial⟩ (cO_finish_26_ok l1 l2 _ _ h)
    · replace h := Ok_f c12 h
      exact tr_rv m_142 rfl rfl (Ok_s h)
def cO_wake (l1 : Option Nat) (s : ts) : Option (ts) := (match l1 with
  | none => some s
  | some l1 => (if l1 < gM s then (if (gI s 502 l1) = ((1 : Int32)) then (cO_putInCalendar l1 ((0 : Int32)) (gI s 800 0) s).bind (fun s3 => some s3) else some s) else none))
set_option maxRecDepth 20000 in
theorem cO_wake_ok {d : Nat} (l1 : Option Nat) (s : ts) (Q : ts → Prop) (h : Ok (cO_wake l1 s) Q) : am_Ev (d + 2) 144 (0, [(0, .ref 81), (1, va_rf (l1.map pB))], []) (lay s) (tq_v Q) := by
  unfold cO_wake at h
  cases l1 with
  | none =>
    dsimp only at h
    refine ev_aload_nN (pc' := 1) m_144 rfl rfl rfl (ev_nulY (t := 25) m_144 rfl rfl ?_)
    exact tr_rv m_144 rfl rfl (Ok_s h)
  | some l1 =>
    dsimp only at h
    refine ev_aload_n (pc' := 1) m_144 rfl rfl rfl (ev_nulN (e := 4) m_144 rfl rfl (ev_aload_n (pc' := 5) m_144 rfl rfl rfl ?_))
    obtain ⟨g1, h⟩ := Ok_g h
    refine tr_get (pc' := 8) (v := .int (gI _ 502 _)) m_144 rfl rfl (ts_obB g1) rfl rfl rfl (ev_iconst (pc' := 9) (x := 1) m_144 rfl rfl rfl ?_)
    refine ev_icmp_ne (t := 25) (e := 12) m_144 rfl rfl rfl (fun c5 => ?_) (fun c5 => ?_)
    · replace h := Ok_f c5 h
      exact tr_rv m_144 rfl rfl (Ok_s h)
    · replace h := Ok_t c5 h
      refine ev_aload_n (pc' := 13) m_144 rfl rfl rfl (ev_aload_n (pc' := 14) m_144 rfl rfl rfl (ev_iconst (pc' := 15) (x := 0) m_144 rfl rfl rfl (ev_aload_n (pc' := 16) m_144 rfl rfl rfl (tr_get (pc' := 19) (v := .ref 35) m_144 rfl rfl ts_o81 rfl rfl rfl (tr_get (pc' := 22) (v := .int (gI _ 800 _)) m_144 rfl rfl ts_o35 rfl rfl rfl ?_)))))
      refine tr_cv (pc' := 25) m_144 rfl rfl rfl m_102 rfl rfl rfl rfl (tr_rcv ts_o81 rfl) rfl rfl (cO_putInCalendar_ok l1 ((0 : Int32)) (gI s 800 0) _ _ (Ok_b h)) (fun s3 h => ?_)
      exact tr_rv m_144 rfl rfl (Ok_s h)
def cH_say (l1 : Int32) (s : ts) : Option (ts) := (if ((1000 : Int32)) ≤ (gI s 1008 0) then some (wI s 1008 0 ((gI s 1008 0) + ((1 : Int32)))) else (if am_idx (gI s 1008 0) 1000 = true then (if am_idx (gI (wA s 85 (gI s 1008 0).toNatClampNeg (gI s 800 0)) 1008 0) 1000 = true then some (wI (wA (wA s 85 (gI s 1008 0).toNatClampNeg (gI s 800 0)) 86 (gI (wA s 85 (gI s 1008 0).toNatClampNeg (gI s 800 0)) 1008 0).toNatClampNeg l1) 1008 0 ((gI (wA (wA s 85 (gI s 1008 0).toNatClampNeg (gI s 800 0)) 86 (gI (wA s 85 (gI s 1008 0).toNatClampNeg (gI s 800 0)) 1008 0).toNatClampNeg l1) 1008 0) + ((1 : Int32)))) else none) else none))
set_option maxRecDepth 20000 in
theorem cH_say_ok {d : Nat} (l1 : Int32) (s : ts) (Q : ts → Prop) (h : Ok (cH_say l1 s) Q) : am_Ev (d + 0) 145 (0, [(0, .ref 34), (1, .int (l1))], []) (lay s) (tq_v Q) := by
  unfold cH_say at h
  refine ev_aload_n (pc' := 1) m_145 rfl rfl rfl (tr_get (pc' := 4) (v := .int (gI _ 1008 _)) m_145 rfl rfl ts_o34 rfl rfl rfl (ev_sipush (pc' := 7) (x := 1000) m_145 rfl rfl rfl ?_))
  refine ev_icmp_ge (t := 36) (e := 10) m_145 rfl rfl rfl (fun c3 => ?_) (fun c3 => ?_)
  · replace h := Ok_t c3 h
    refine ev_aload_n (pc' := 37) m_145 rfl rfl rfl (ev_dup (pc' := 38) m_145 rfl rfl rfl (tr_get (pc' := 41) (v := .int (gI _ 1008 _)) m_145 rfl rfl ts_o34 rfl rfl rfl (ev_iconst (pc' := 42) (x := 1) m_145 rfl rfl rfl (ev_iadd (pc' := 43) m_145 rfl rfl (tr_pI (pc' := 46) (f := 1008) m_145 rfl rfl rfl ts_o34 rfl rfl rfl rfl ?_)))))
    exact tr_rv m_145 rfl rfl (Ok_s h)
  · replace h := Ok_f c3 h
    refine ev_aload_n (pc' := 11) m_145 rfl rfl rfl (tr_get (pc' := 14) (v := .ref 85) m_145 rfl rfl ts_o34 rfl rfl rfl (ev_aload_n (pc' := 15) m_145 rfl rfl rfl (tr_get (pc' := 18) (v := .int (gI _ 1008 _)) m_145 rfl rfl ts_o34 rfl rfl rfl (ev_aload_n (pc' := 19) m_145 rfl rfl rfl (tr_get (pc' := 22) (v := .ref 35) m_145 rfl rfl ts_o34 rfl rfl rfl (tr_get (pc' := 25) (v := .int (gI _ 800 _)) m_145 rfl rfl ts_o35 rfl rfl rfl ?_))))))
    obtain ⟨g1, h⟩ := Ok_g h
    refine tr_iast (pc' := 26) m_145 rfl rfl rfl g1 rfl (ev_aload_n (pc' := 27) m_145 rfl rfl rfl (tr_get (pc' := 30) (v := .ref 86) m_145 rfl rfl ts_o34 rfl rfl rfl (ev_aload_n (pc' := 31) m_145 rfl rfl rfl (tr_get (pc' := 34) (v := .int (gI _ 1008 _)) m_145 rfl rfl ts_o34 rfl rfl rfl (ev_iload_n (pc' := 35) m_145 rfl rfl rfl ?_)))))
    obtain ⟨g2, h⟩ := Ok_g h
    refine tr_iast (pc' := 36) m_145 rfl rfl rfl g2 rfl (ev_aload_n (pc' := 37) m_145 rfl rfl rfl (ev_dup (pc' := 38) m_145 rfl rfl rfl (tr_get (pc' := 41) (v := .int (gI _ 1008 _)) m_145 rfl rfl ts_o34 rfl rfl rfl (ev_iconst (pc' := 42) (x := 1) m_145 rfl rfl rfl (ev_iadd (pc' := 43) m_145 rfl rfl (tr_pI (pc' := 46) (f := 1008) m_145 rfl rfl rfl ts_o34 rfl rfl rfl rfl ?_))))))
    exact tr_rv m_145 rfl rfl (Ok_s h)
def cH_perform (l1 : Nat) (l2 : Int32) (l3 : Int32) (s : ts) : Option (Int32 × ts) := (cG_targetAt l2 s).bind (fun x3 => (cG_actAt l2 x3.2).bind (fun x6 => (if x6.1 = (1 : Int32) then (cW_assign l1 x3.1 l3 x6.2).bind (fun s8 => some ((0 : Int32), s8)) else (if x6.1 = (517 : Int32) then (if l3 = ((0 : Int32)) then (if l1 < gM x6.2 then some ((0 : Int32), wI x6.2 503 l1 x3.1) else none) else (if l1 < gM x6.2 then some ((0 : Int32), wI x6.2 503 l1 (gI x6.2 503 l1)) else none)) else (if x6.1 = (519 : Int32) then (if l3 = ((0 : Int32)) then (if l1 < gM x6.2 then some ((0 : Int32), wI x6.2 503 l1 x3.1) else none) else (if l1 < gM x6.2 then some ((0 : Int32), wI x6.2 503 l1 (gI x6.2 503 l1)) else none)) else (if x6.1 = (520 : Int32) then (cH_hold l1 l3 x6.2).bind (fun x21 => some (x21.1, x21.2)) else (if x6.1 = (521 : Int32) then (cO_seize l1 x3.1 l3 x6.2).bind (fun s24 => some ((0 : Int32), s24)) else (if x6.1 = (522 : Int32) then (cO_giveBack l1 x3.1 x6.2).bind (fun x29 => (if x29.1 = ((0 : Int32)) then some ((3 : Int32), x29.2) else some ((0 : Int32), x29.2))) else (if x6.1 = (523 : Int32) then (cO_trade l1 x3.1 l3 ((1 : Int32)) x6.2).bind (fun x34 => some (x34.1, x34.2)) else (if x6.1 = (524 : Int32) then (cO_trade l1 x3.1 l3 ((0 : Int32)) x6.2).bind (fun x38 => some (x38.1, x38.2)) else (if x6.1 = (525 : Int32) then (if l3 = ((0 : Int32)) then (cO_makeAwait l1 x6.2).bind (fun s41 => some ((0 : Int32), s41)) else some ((0 : Int32), x6.2)) else (if x6.1 = (526 : Int32) then (cH_startAnother x3.1 x6.2).bind (fun x47 => some (x47.1, x47.2)) else (if x6.1 = (527 : Int32) then (cO_find l3 x6.2).bind (fun x51 => match x51.1 with
  | none => (cO_finish none ((0 : Int32)) x51.2).bind (fun s53 => (cO_find l3 s53).bind (fun x57 => match x57.1 with
  | none => some ((7 : Int32), x57.2)
  | some q58 => some ((0 : Int32), x57.2)))
  | some q59 => (cO_finish (some q59) ((0 : Int32)) x51.2).bind (fun s61 => (cO_find l3 s61).bind (fun x65 => match x65.1 with
  | none => some ((7 : Int32), x65.2)
  | some q66 => some ((0 : Int32), x65.2)))) else (if x6.1 = (528 : Int32) then (cO_find l3 x6.2).bind (fun x70 => match x70.1 with
  | none => (cO_wake none x70.2).bind (fun s72 => (cO_find l3 s72).bind (fun x76 => match x76.1 with
  | none => some ((7 : Int32), x76.2)
  | some q77 => some ((0 : Int32), x76.2)))
  | some q78 => (cO_wake (some q78) x70.2).bind (fun s80 => (cO_find l3 s80).bind (fun x84 => match x84.1 with
  | none => some ((7 : Int32), x84.2)
  | some q85 => some ((0 : Int32), x84.2)))) else (if x6.1 = (529 : Int32) then (cH_say l3 x6.2).bind (fun s88 => some ((0 : Int32), s88)) else (cO_finish (some l1) ((0 : Int32)) x6.2).bind (fun s92 => some ((0 : Int32), s92)))))))))))))))))
set_option maxRecDepth 20000 in
theorem cH_perform_ok {d : Nat} (l1 : Nat) (l2 : Int32) (l3 : Int32) (s : ts) (Q : Int32 × ts → Prop) (h : Ok (cH_perform l1 l2 l3 s) Q) : am_Ev (d + 6) 125 (0, [(0, .ref 34), (1, .ref (pB l1)), (2, .int (l2)), (3, .int (l3))], []) (lay s) (tq_i Q) := by
  unfold cH_perform at h
  refine ev_aload_n (pc' := 1) m_125 rfl rfl rfl (tr_get (pc' := 4) (v := .ref 12) m_125 rfl rfl ts_o34 rfl rfl rfl (ev_iload_n (pc' := 5) m_125 rfl rfl rfl ?_))
  refine tr_ci (pc' := 8) m_125 rfl rfl rfl m_126 rfl rfl rfl rfl (tr_rcv ts_o12 rfl) rfl rfl (cG_targetAt_ok l2 _ _ (Ok_b h)) (fun x3_ x3_s h => ?_)
  refine ev_istore (pc' := 10) m_125 rfl rfl rfl rfl (ev_aload_n (pc' := 11) m_125 rfl rfl rfl (tr_get (pc' := 14) (v := .ref 12) m_125 rfl rfl ts_o34 rfl rfl rfl (ev_iload_n (pc' := 15) m_125 rfl rfl rfl ?_)))
  refine tr_ci (pc' := 18) m_125 rfl rfl rfl m_127 rfl rfl rfl rfl (tr_rcv ts_o12 rfl) rfl rfl (cG_actAt_ok l2 _ _ (Ok_b h)) (fun x6_ x6_s h => ?_)
  by_cases c10 : x6_ = (1 : Int32)
  · replace h := Ok_t c10 h
    refine ev_sw (pc' := 132) m_125 rfl (by rw [c10]; rfl) ?_
    refine ev_aload_n (pc' := 133) m_125 rfl rfl rfl (tr_get (pc' := 136) (v := .ref 35) m_125 rfl rfl ts_o34 rfl rfl rfl (ev_aload_n (pc' := 137) m_125 rfl rfl rfl (ev_iload (pc' := 139) m_125 rfl rfl rfl (ev_iload_n (pc' := 140) m_125 rfl rfl rfl ?_))))
    refine tr_cv (pc' := 143) m_125 rfl rfl rfl m_128 rfl rfl rfl rfl (tr_rcv ts_o35 rfl) rfl rfl (cW_assign_ok l1 x3_ l3 _ _ (Ok_b h)) (fun s8 h => ?_)
    refine ev_iconst (pc' := 144) (x := 0) m_125 rfl rfl rfl ?_
    exact tr_ri m_125 rfl rfl (Ok_s h)
  replace h := Ok_f c10 h
  by_cases c14 : x6_ = (517 : Int32)
  · replace h := Ok_t c14 h
    refine ev_sw (pc' := 145) m_125 rfl (by rw [c14]; rfl) ?_
    refine ev_aload_n (pc' := 146) m_125 rfl rfl rfl (ev_iload_n (pc' := 147) m_125 rfl rfl rfl ?_)
    refine ev_if_ne (t := 155) (e := 150) m_125 rfl rfl rfl (fun c13 => ?_) (fun c13 => ?_)
    · replace h := Ok_f c13 h
      refine ev_aload_n (pc' := 156) m_125 rfl rfl rfl ?_
      obtain ⟨g11, h⟩ := Ok_g h
      refine tr_get (pc' := 159) (v := .int (gI _ 503 _)) m_125 rfl rfl (ts_obB g11) rfl rfl rfl (tr_pI (pc' := 162) (f := 503) m_125 rfl rfl rfl (ts_obB g11) rfl rfl rfl rfl (ev_iconst (pc' := 163) (x := 0) m_125 rfl rfl rfl ?_))
      exact tr_ri m_125 rfl rfl (Ok_s h)
    · replace h := Ok_t c13 h
      refine ev_iload (pc' := 152) m_125 rfl rfl rfl (ev_goto (pc' := 159) m_125 rfl rfl ?_)
      obtain ⟨g12, h⟩ := Ok_g h
      refine tr_pI (pc' := 162) (f := 503) m_125 rfl rfl rfl (ts_obB g12) rfl rfl rfl rfl (ev_iconst (pc' := 163) (x := 0) m_125 rfl rfl rfl ?_)
      exact tr_ri m_125 rfl rfl (Ok_s h)
  replace h := Ok_f c14 h
  by_cases c18 : x6_ = (519 : Int32)
  · replace h := Ok_t c18 h
    refine ev_sw (pc' := 145) m_125 rfl (by rw [c18]; rfl) ?_
    refine ev_aload_n (pc' := 146) m_125 rfl rfl rfl (ev_iload_n (pc' := 147) m_125 rfl rfl rfl ?_)
    refine ev_if_ne (t := 155) (e := 150) m_125 rfl rfl rfl (fun c17 => ?_) (fun c17 => ?_)
    · replace h := Ok_f c17 h
      refine ev_aload_n (pc' := 156) m_125 rfl rfl rfl ?_
      obtain ⟨g15, h⟩ := Ok_g h
      refine tr_get (pc' := 159) (v := .int (gI _ 503 _)) m_125 rfl rfl (ts_obB g15) rfl rfl rfl (tr_pI (pc' := 162) (f := 503) m_125 rfl rfl rfl (ts_obB g15) rfl rfl rfl rfl (ev_iconst (pc' := 163) (x := 0) m_125 rfl rfl rfl ?_))
      exact tr_ri m_125 rfl rfl (Ok_s h)
    · replace h := Ok_t c17 h
      refine ev_iload (pc' := 152) m_125 rfl rfl rfl (ev_goto (pc' := 159) m_125 rfl rfl ?_)
      obtain ⟨g16, h⟩ := Ok_g h
      refine tr_pI (pc' := 162) (f := 503) m_125 rfl rfl rfl (ts_obB g16) rfl rfl rfl rfl (ev_iconst (pc' := 163) (x := 0) m_125 rfl rfl rfl ?_)
      exact tr_ri m_125 rfl rfl (Ok_s h)
  replace h := Ok_f c18 h
  by_cases c22 : x6_ = (520 : Int32)
  · replace h := Ok_t c22 h
    refine ev_sw (pc' := 164) m_125 rfl (by rw [c22]; rfl) ?_
    refine ev_aload_n (pc' := 165) m_125 rfl rfl rfl (ev_aload_n (pc' := 166) m_125 rfl rfl rfl (ev_iload_n (pc' := 167) m_125 rfl rfl rfl ?_))
    refine tr_ci (pc' := 170) m_125 rfl rfl rfl m_129 rfl rfl rfl rfl (tr_rcv ts_o34 rfl) rfl rfl (cH_hold_ok l1 l3 _ _ (Ok_b h)) (fun x21_ x21_s h => ?_)
    exact tr_ri m_125 rfl rfl (Ok_s h)
  replace h := Ok_f c22 h
  by_cases c26 : x6_ = (521 : Int32)
  · replace h := Ok_t c26 h
    refine ev_sw (pc' := 171) m_125 rfl (by rw [c26]; rfl) ?_
    refine ev_aload_n (pc' := 172) m_125 rfl rfl rfl (tr_get (pc' := 175) (v := .ref 81) m_125 rfl rfl ts_o34 rfl rfl rfl (ev_aload_n (pc' := 176) m_125 rfl rfl rfl (ev_iload (pc' := 178) m_125 rfl rfl rfl (ev_iload_n (pc' := 179) m_125 rfl rfl rfl ?_))))
    refine tr_cv (pc' := 182) m_125 rfl rfl rfl m_131 rfl rfl rfl rfl (tr_rcv ts_o81 rfl) rfl rfl (cO_seize_ok l1 x3_ l3 _ _ (Ok_b h)) (fun s24 h => ?_)
    refine ev_iconst (pc' := 183) (x := 0) m_125 rfl rfl rfl ?_
    exact tr_ri m_125 rfl rfl (Ok_s h)
  replace h := Ok_f c26 h
  by_cases c31 : x6_ = (522 : Int32)
  · replace h := Ok_t c31 h
    refine ev_sw (pc' := 184) m_125 rfl (by rw [c31]; rfl) ?_
    refine ev_aload_n (pc' := 185) m_125 rfl rfl rfl (tr_get (pc' := 188) (v := .ref 81) m_125 rfl rfl ts_o34 rfl rfl rfl (ev_aload_n (pc' := 189) m_125 rfl rfl rfl (ev_iload (pc' := 191) m_125 rfl rfl rfl ?_)))
    refine tr_cz (pc' := 194) m_125 rfl rfl rfl m_133 rfl rfl rfl rfl rfl (tr_rcv ts_o81 rfl) rfl rfl (cO_giveBack_ok l1 x3_ _ _ (Ok_b h)) (fun x29_ x29_s h27 h => ?_)
    refine ev_if_eq (t := 201) (e := 197) m_125 rfl rfl rfl (fun c30 => ?_) (fun c30 => ?_)
    · replace h := Ok_t c30 h
      refine ev_iconst (pc' := 202) (x := 3) m_125 rfl rfl rfl ?_
      exact tr_ri m_125 rfl rfl (Ok_s h)
    · replace h := Ok_f c30 h
      refine ev_iconst (pc' := 198) (x := 0) m_125 rfl rfl rfl (ev_goto (pc' := 202) m_125 rfl rfl ?_)
      exact tr_ri m_125 rfl rfl (Ok_s h)
  replace h := Ok_f c31 h
  by_cases c35 : x6_ = (523 : Int32)
  · replace h := Ok_t c35 h
    refine ev_sw (pc' := 203) m_125 rfl (by rw [c35]; rfl) ?_
    refine ev_aload_n (pc' := 204) m_125 rfl rfl rfl (tr_get (pc' := 207) (v := .ref 81) m_125 rfl rfl ts_o34 rfl rfl rfl (ev_aload_n (pc' := 208) m_125 rfl rfl rfl (ev_iload (pc' := 210) m_125 rfl rfl rfl (ev_iload_n (pc' := 211) m_125 rfl rfl rfl (ev_iconst (pc' := 212) (x := 1) m_125 rfl rfl rfl ?_)))))
    refine tr_ci (pc' := 215) m_125 rfl rfl rfl m_135 rfl rfl rfl rfl (tr_rcv ts_o81 rfl) rfl rfl (cO_trade_ok l1 x3_ l3 ((1 : Int32)) _ _ (Ok_b h)) (fun x34_ x34_s h => ?_)
    exact tr_ri m_125 rfl rfl (Ok_s h)
  replace h := Ok_f c35 h
  by_cases c39 : x6_ = (524 : Int32)
  · replace h := Ok_t c39 h
    refine ev_sw (pc' := 216) m_125 rfl (by rw [c39]; rfl) ?_
    refine ev_aload_n (pc' := 217) m_125 rfl rfl rfl (tr_get (pc' := 220) (v := .ref 81) m_125 rfl rfl ts_o34 rfl rfl rfl (ev_aload_n (pc' := 221) m_125 rfl rfl rfl (ev_iload (pc' := 223) m_125 rfl rfl rfl (ev_iload_n (pc' := 224) m_125 rfl rfl rfl (ev_iconst (pc' := 225) (x := 0) m_125 rfl rfl rfl ?_)))))
    refine tr_ci (pc' := 228) m_125 rfl rfl rfl m_135 rfl rfl rfl rfl (tr_rcv ts_o81 rfl) rfl rfl (cO_trade_ok l1 x3_ l3 ((0 : Int32)) _ _ (Ok_b h)) (fun x38_ x38_s h => ?_)
    exact tr_ri m_125 rfl rfl (Ok_s h)
  replace h := Ok_f c39 h
  by_cases c44 : x6_ = (525 : Int32)
  · replace h := Ok_t c44 h
    refine ev_sw (pc' := 229) m_125 rfl (by rw [c44]; rfl) ?_
    refine ev_iload_n (pc' := 230) m_125 rfl rfl rfl ?_
    refine ev_if_ne (t := 241) (e := 233) m_125 rfl rfl rfl (fun c43 => ?_) (fun c43 => ?_)
    · replace h := Ok_f c43 h
      refine ev_iconst (pc' := 242) (x := 0) m_125 rfl rfl rfl ?_
      exact tr_ri m_125 rfl rfl (Ok_s h)
    · replace h := Ok_t c43 h
      refine ev_aload_n (pc' := 234) m_125 rfl rfl rfl (tr_get (pc' := 237) (v := .ref 81) m_125 rfl rfl ts_o34 rfl rfl rfl (ev_aload_n (pc' := 238) m_125 rfl rfl rfl ?_))
      refine tr_cv (pc' := 241) m_125 rfl rfl rfl m_139 rfl rfl rfl rfl (tr_rcv ts_o81 rfl) rfl rfl (cO_makeAwait_ok l1 _ _ (Ok_b h)) (fun s41 h => ?_)
      refine ev_iconst (pc' := 242) (x := 0) m_125 rfl rfl rfl ?_
      exact tr_ri m_125 rfl rfl (Ok_s h)
  replace h := Ok_f c44 h
  by_cases c48 : x6_ = (526 : Int32)
  · replace h := Ok_t c48 h
    refine ev_sw (pc' := 243) m_125 rfl (by rw [c48]; rfl) ?_
    refine ev_aload_n (pc' := 244) m_125 rfl rfl rfl (ev_iload (pc' := 246) m_125 rfl rfl rfl ?_)
    refine tr_ci (pc' := 249) m_125 rfl rfl rfl m_140 rfl rfl rfl rfl (tr_rcv ts_o34 rfl) rfl rfl (cH_startAnother_ok x3_ _ _ (Ok_b h)) (fun x47_ x47_s h => ?_)
    exact tr_ri m_125 rfl rfl (Ok_s h)
  replace h := Ok_f c48 h
  by_cases c67 : x6_ = (527 : Int32)
  · replace h := Ok_t c67 h
    refine ev_sw (pc' := 250) m_125 rfl (by rw [c67]; rfl) ?_
    refine ev_aload_n (pc' := 251) m_125 rfl rfl rfl (tr_get (pc' := 254) (v := .ref 81) m_125 rfl rfl ts_o34 rfl rfl rfl (ev_aload_n (pc' := 255) m_125 rfl rfl rfl (tr_get (pc' := 258) (v := .ref 81) m_125 rfl rfl ts_o34 rfl rfl rfl (ev_iload_n (pc' := 259) m_125 rfl rfl rfl ?_))))
    refine tr_cr (pc' := 262) m_125 rfl rfl rfl m_141 rfl rfl rfl rfl (tr_rcv ts_o81 rfl) rfl rfl (cO_find_ok l3 _ _ (Ok_b h)) (fun x51_s h => ?_) (fun q59 x51_s h => ?_)
    · dsimp only at h
      refine ev_iconst (pc' := 263) (x := 0) m_125 rfl rfl rfl ?_
      refine tr_cv (pc' := 266) m_125 rfl rfl rfl m_142 rfl rfl rfl rfl (tr_rcv ts_o81 rfl) rfl rfl (cO_finish_ok none ((0 : Int32)) _ _ (Ok_b h)) (fun s53 h => ?_)
      refine ev_aload_n (pc' := 267) m_125 rfl rfl rfl (tr_get (pc' := 270) (v := .ref 81) m_125 rfl rfl ts_o34 rfl rfl rfl (ev_iload_n (pc' := 271) m_125 rfl rfl rfl ?_))
      refine tr_cr (pc' := 274) m_125 rfl rfl rfl m_141 rfl rfl rfl rfl (tr_rcv ts_o81 rfl) rfl rfl (cO_find_ok l3 _ _ (Ok_b h)) (fun x57_s h => ?_) (fun q58 x57_s h => ?_)
      · dsimp only at h
        refine ev_nnlN (e := 277) m_125 rfl rfl (ev_bipush (pc' := 279) (x := 7) m_125 rfl rfl rfl (ev_goto (pc' := 283) m_125 rfl rfl ?_))
        exact tr_ri m_125 rfl rfl (Ok_s h)
      · dsimp only at h
        refine ev_nnlY (t := 282) m_125 rfl rfl (ev_iconst (pc' := 283) (x := 0) m_125 rfl rfl rfl ?_)
        exact tr_ri m_125 rfl rfl (Ok_s h)
    · dsimp only at h
      refine ev_iconst (pc' := 263) (x := 0) m_125 rfl rfl rfl ?_
      refine tr_cv (pc' := 266) m_125 rfl rfl rfl m_142 rfl rfl rfl rfl (tr_rcv ts_o81 rfl) rfl rfl (cO_finish_ok (some q59) ((0 : Int32)) _ _ (Ok_b h)) (fun s61 h => ?_)
      refine ev_aload_n (pc' := 267) m_125 rfl rfl rfl (tr_get (pc' := 270) (v := .ref 81) m_125 rfl rfl ts_o34 rfl rfl rfl (ev_iload_n (pc' := 271) m_125 rfl rfl rfl ?_))
      refine tr_cr (pc' := 274) m_125 rfl rfl rfl m_141 rfl rfl rfl rfl (tr_rcv ts_o81 rfl) rfl rfl (cO_find_ok l3 _ _ (Ok_b h)) (fun x65_s h => ?_) (fun q66 x65_s h => ?_)
      · dsimp only at h
        refine ev_nnlN (e := 277) m_125 rfl rfl (ev_bipush (pc' := 279) (x := 7) m_125 rfl rfl rfl (ev_goto (pc' := 283) m_125 rfl rfl ?_))
        exact tr_ri m_125 rfl rfl (Ok_s h)
      · dsimp only at h
        refine ev_nnlY (t := 282) m_125 rfl rfl (ev_iconst (pc' := 283) (x := 0) m_125 rfl rfl rfl ?_)
        exact tr_ri m_125 rfl rfl (Ok_s h)
  replace h := Ok_f c67 h
  by_cases c86 : x6_ = (528 : Int32)
  · replace h := Ok_t c86 h
    refine ev_sw (pc' := 284) m_125 rfl (by rw [c86]; rfl) ?_
    refine ev_aload_n (pc' := 285) m_125 rfl rfl rfl (tr_get (pc' := 288) (v := .ref 81) m_125 rfl rfl ts_o34 rfl rfl rfl (ev_aload_n (pc' := 289) m_125 rfl rfl rfl (tr_get (pc' := 292) (v := .ref 81) m_125 rfl rfl ts_o34 rfl rfl rfl (ev_iload_n (pc' := 293) m_125 rfl rfl rfl ?_))))
    refine tr_cr (pc' := 296) m_125 rfl rfl rfl m_141 rfl rfl rfl rfl (tr_rcv ts_o81 rfl) rfl rfl (cO_find_ok l3 _ _ (Ok_b h)) (fun x70_s h => ?_) (fun q78 x70_s h => ?_)
    · dsimp only at h
      refine tr_cv (pc' := 299) m_125 rfl rfl rfl m_144 rfl rfl rfl rfl (tr_rcv ts_o81 rfl) rfl rfl (cO_wake_ok none _ _ (Ok_b h)) (fun s72 h => ?_)
      refine ev_aload_n (pc' := 300) m_125 rfl rfl rfl (tr_get (pc' := 303) (v := .ref 81) m_125 rfl rfl ts_o34 rfl rfl rfl (ev_iload_n (pc' := 304) m_125 rfl rfl rfl ?_))
      refine tr_cr (pc' := 307) m_125 rfl rfl rfl m_141 rfl rfl rfl rfl (tr_rcv ts_o81 rfl) rfl rfl (cO_find_ok l3 _ _ (Ok_b h)) (fun x76_s h => ?_) (fun q77 x76_s h => ?_)
      · dsimp only at h
        refine ev_nnlN (e := 310) m_125 rfl rfl (ev_bipush (pc' := 312) (x := 7) m_125 rfl rfl rfl (ev_goto (pc' := 316) m_125 rfl rfl ?_))
        exact tr_ri m_125 rfl rfl (Ok_s h)
      · dsimp only at h
        refine ev_nnlY (t := 315) m_125 rfl rfl (ev_iconst (pc' := 316) (x := 0) m_125 rfl rfl rfl ?_)
        exact tr_ri m_125 rfl rfl (Ok_s h)
    · dsimp only at h
      refine tr_cv (pc' := 299) m_125 rfl rfl rfl m_144 rfl rfl rfl rfl (tr_rcv ts_o81 rfl) rfl rfl (cO_wake_ok (some q78) _ _ (Ok_b h)) (fun s80 h => ?_)
      refine ev_aload_n (pc' := 300) m_125 rfl rfl rfl (tr_get (pc' := 303) (v := .ref 81) m_125 rfl rfl ts_o34 rfl rfl rfl (ev_iload_n (pc' := 304) m_125 rfl rfl rfl ?_))
      refine tr_cr (pc' := 307) m_125 rfl rfl rfl m_141 rfl rfl rfl rfl (tr_rcv ts_o81 rfl) rfl rfl (cO_find_ok l3 _ _ (Ok_b h)) (fun x84_s h => ?_) (fun q85 x84_s h => ?_)
      · dsimp only at h
        refine ev_nnlN (e := 310) m_125 rfl rfl (ev_bipush (pc' := 312) (x := 7) m_125 rfl rfl rfl (ev_goto (pc' := 316) m_125 rfl rfl ?_))
        exact tr_ri m_125 rfl rfl (Ok_s h)
      · dsimp only at h
        refine ev_nnlY (t := 315) m_125 rfl rfl (ev_iconst (pc' := 316) (x := 0) m_125 rfl rfl rfl ?_)
        exact tr_ri m_125 rfl rfl (Ok_s h)
  replace h := Ok_f c86 h
  by_cases c90 : x6_ = (529 : Int32)
  · replace h := Ok_t c90 h
    refine ev_sw (pc' := 317) m_125 rfl (by rw [c90]; rfl) ?_
    refine ev_aload_n (pc' := 318) m_125 rfl rfl rfl (ev_iload_n (pc' := 319) m_125 rfl rfl rfl ?_)
    refine tr_cv (pc' := 322) m_125 rfl rfl rfl m_145 rfl rfl rfl rfl (tr_rcv ts_o34 rfl) rfl rfl (cH_say_ok l3 _ _ (Ok_b h)) (fun s88 h => ?_)
    refine ev_iconst (pc' := 323) (x := 0) m_125 rfl rfl rfl ?_
    exact tr_ri m_125 rfl rfl (Ok_s h)
  replace h := Ok_f c90 h
  refine ev_sw (pc' := 324) m_125 rfl (by exact ev_ldef rfl (by simp only [Op.lookupswitch.offset, List.find?]; rw [if_neg (ts_nel c10 (by decide)), if_neg (ts_nel c14 (by decide)), if_neg (ts_nel c18 (by decide)), if_neg (ts_nel c22 (by decide)), if_neg (ts_nel c26 (by decide)), if_neg (ts_nel c31 (by decide)), if_neg (ts_nel c35 (by decide)), if_neg (ts_nel c39 (by decide)), if_neg (ts_nel c44 (by decide)), if_neg (ts_nel c48 (by decide)), if_neg (ts_nel c67 (by decide)), if_neg (ts_nel c86 (by decide)), if_neg (ts_nel c90 (by decide))]) rfl) ?_
  refine ev_aload_n (pc' := 325) m_125 rfl rfl rfl (tr_get (pc' := 328) (v := .ref 81) m_125 rfl rfl ts_o34 rfl rfl rfl (ev_aload_n (pc' := 329) m_125 rfl rfl rfl (ev_iconst (pc' := 330) (x := 0) m_125 rfl rfl rfl ?_)))
  refine tr_cv (pc' := 333) m_125 rfl rfl rfl m_142 rfl rfl rfl rfl (tr_rcv ts_o81 rfl) rfl rfl (cO_finish_ok (some l1) ((0 : Int32)) _ _ (Ok_b h)) (fun s92 h => ?_)
  refine ev_iconst (pc' := 334) (x := 0) m_125 rfl rfl rfl ?_
  exact tr_ri m_125 rfl rfl (Ok_s h)
def cH_goToStatement_55 (l1 : Nat) (s : ts) : Option (ts) := (if l1 < gM s then (cG_actAt (gI s 503 l1) s).bind (fun x4 => (if x4.1 = ((3 : Int32)) then (cO_finish (some l1) ((0 : Int32)) x4.2).bind (fun s6 => some s6) else some x4.2)) else none)
set_option maxRecDepth 20000 in
theorem cH_goToStatement_55_ok {d : Nat} (l1 : Nat) (s : ts) (Q : ts → Prop) (h : Ok (cH_goToStatement_55 l1 s) Q) : am_Ev (d + 4) 146 (55, [(0, .ref 34), (1, .ref (pB l1))], []) (lay s) (tq_v Q) := by
  unfold cH_goToStatement_55 at h
  refine ev_aload_n (pc' := 56) m_146 rfl rfl rfl (tr_get (pc' := 59) (v := .ref 12) m_146 rfl rfl ts_o34 rfl rfl rfl (ev_aload_n (pc' := 60) m_146 rfl rfl rfl ?_))
  obtain ⟨g1, h⟩ := Ok_g h
  refine tr_get (pc' := 63) (v := .int (gI _ 503 _)) m_146 rfl rfl (ts_obB g1) rfl rfl rfl ?_
  refine tr_ci (pc' := 66) m_146 rfl rfl rfl m_127 rfl rfl rfl rfl (tr_rcv ts_o12 rfl) rfl rfl (cG_actAt_ok (gI s 503 l1) _ _ (Ok_b h)) (fun x4_ x4_s h => ?_)
  refine ev_iconst (pc' := 67) (x := 3) m_146 rfl rfl rfl ?_
  refine ev_icmp_ne (t := 79) (e := 70) m_146 rfl rfl rfl (fun c8 => ?_) (fun c8 => ?_)
  · replace h := Ok_f c8 h
    exact tr_rv m_146 rfl rfl (Ok_s h)
  · replace h := Ok_t c8 h
    refine ev_aload_n (pc' := 71) m_146 rfl rfl rfl (tr_get (pc' := 74) (v := .ref 81) m_146 rfl rfl ts_o34 rfl rfl rfl (ev_aload_n (pc' := 75) m_146 rfl rfl rfl (ev_iconst (pc' := 76) (x := 0) m_146 rfl rfl rfl ?_)))
    refine tr_cv (pc' := 79) m_146 rfl rfl rfl m_142 rfl rfl rfl rfl (tr_rcv ts_o81 rfl) rfl rfl (cO_finish_ok (some l1) ((0 : Int32)) _ _ (Ok_b h)) (fun s6 h => ?_)
    exact tr_rv m_146 rfl rfl (Ok_s h)
def cH_goToStatement_12_b (kk : Nat → Int32 → ts → Option (ts)) (l1 : Nat) (l2 : Int32) (s : ts) : Option (ts) := (if ((512 : Int32)) ≤ l2 then cH_goToStatement_55 l1 s else (if l1 < gM s then (cG_actAt (gI s 503 l1) s).bind (fun x4 => (if x4.1 = ((2 : Int32)) then (if l1 < gM x4.2 then (cG_targetAt (gI x4.2 503 l1) x4.2).bind (fun x8 => (if l1 < gM x8.2 then kk l1 (l2 + (1 : Int32)) (wI x8.2 503 l1 x8.1) else none)) else none) else cH_goToStatement_55 l1 x4.2)) else none))
def cH_goToStatement_12 : Nat → Nat → Int32 → ts → Option (ts)
  | 0, _, _, _ => none
  | n + 1, l1, l2, s => cH_goToStatement_12_b (cH_goToStatement_12 n) l1 l2 s
set_option maxRecDepth 20000 in
theorem cH_goToStatement_12_ok {d : Nat} : ∀ (n : Nat) (l1 : Nat) (l2 : Int32) (s : ts) (Q : ts → Prop), Ok (cH_goToStatement_12 n l1 l2 s) Q → am_Ev (d + 4) 146 (12, [(0, .ref 34), (1, .ref (pB l1)), (2, .int (l2))], []) (lay s) (tq_v Q) := by
  intro n
  induction n with
  | zero => intro l1 l2 s Q h; exact Ok_n h
  | succ n ih =>
    intro l1 l2 s Q h
    rw [cH_goToStatement_12.eq_2] at h
    unfold cH_goToStatement_12_b at h
    refine ev_iload_n (pc' := 13) m_146 rfl rfl rfl (ev_sipush (pc' := 16) (x := 512) m_146 rfl rfl rfl ?_)
    refine ev_icmp_ge (t := 55) (e := 19) m_146 rfl rfl rfl (fun c11 => ?_) (fun c11 => ?_)
    · replace h := Ok_t c11 h
      exact am_Ev.sub (L := [(0, .ref 34), (1, .ref (pB l1))]) ⟨rfl, rfl, trivial⟩ (cH_goToStatement_55_ok l1 _ _ h)
    · replace h := Ok_f c11 h
      refine ev_aload_n (pc' := 20) m_146 rfl rfl rfl (tr_get (pc' := 23) (v := .ref 12) m_146 rfl rfl ts_o34 rfl rfl rfl (ev_aload_n (pc' := 24) m_146 rfl rfl rfl ?_))
      obtain ⟨g1, h⟩ := Ok_g h
      refine tr_get (pc' := 27) (v := .int (gI _ 503 _)) m_146 rfl rfl (ts_obB g1) rfl rfl rfl ?_
      refine tr_ci (pc' := 30) m_146 rfl rfl rfl m_127 rfl rfl rfl rfl (tr_rcv ts_o12 rfl) rfl rfl (cG_actAt_ok (gI s 503 l1) _ _ (Ok_b h)) (fun x4_ x4_s h => ?_)
      refine ev_iconst (pc' := 31) (x := 2) m_146 rfl rfl rfl ?_
      refine ev_icmp_ne (t := 55) (e := 34) m_146 rfl rfl rfl (fun c10 => ?_) (fun c10 => ?_)
      · replace h := Ok_f c10 h
        exact am_Ev.sub (L := [(0, .ref 34), (1, .ref (pB l1))]) ⟨rfl, rfl, trivial⟩ (cH_goToStatement_55_ok l1 _ _ h)
      · replace h := Ok_t c10 h
        refine ev_aload_n (pc' := 35) m_146 rfl rfl rfl (ev_aload_n (pc' := 36) m_146 rfl rfl rfl (tr_get (pc' := 39) (v := .ref 12) m_146 rfl rfl ts_o34 rfl rfl rfl (ev_aload_n (pc' := 40) m_146 rfl rfl rfl ?_)))
        obtain ⟨g5, h⟩ := Ok_g h
        refine tr_get (pc' := 43) (v := .int (gI _ 503 _)) m_146 rfl rfl (ts_obB g5) rfl rfl rfl ?_
        refine tr_ci (pc' := 46) m_146 rfl rfl rfl m_126 rfl rfl rfl rfl (tr_rcv ts_o12 rfl) rfl rfl (cG_targetAt_ok (gI x4_s 503 l1) _ _ (Ok_b h)) (fun x8_ x8_s h => ?_)
        obtain ⟨g9, h⟩ := Ok_g h
        refine tr_pI (pc' := 49) (f := 503) m_146 rfl rfl rfl (ts_obB g9) rfl rfl rfl rfl (ev_iinc (pc' := 52) (z := 1) m_146 rfl rfl rfl rfl rfl rfl (ev_goto (pc' := 12) m_146 rfl rfl ?_))
        exact am_Ev.sub (L := [(0, .ref 34), (1, .ref (pB l1)), (2, .int (l2 + (1 : Int32)))]) ⟨rfl, rfl, rfl, trivial⟩ (ih l1 (l2 + (1 : Int32)) _ _ h)
def cH_goToStatement (l1 : Nat) (s : ts) : Option (ts) := (if l1 < gM s then (if (gI s 502 l1) = ((7 : Int32)) then cH_goToStatement_12 tm_N l1 ((0 : Int32)) s else some s) else none)
set_option maxRecDepth 20000 in
theorem cH_goToStatement_ok {d : Nat} (l1 : Nat) (s : ts) (Q : ts → Prop) (h : Ok (cH_goToStatement l1 s) Q) : am_Ev (d + 4) 146 (0, [(0, .ref 34), (1, .ref (pB l1))], []) (lay s) (tq_v Q) := by
  unfold cH_goToStatement at h
  refine ev_aload_n (pc' := 1) m_146 rfl rfl rfl ?_
  obtain ⟨g1, h⟩ := Ok_g h
  refine tr_get (pc' := 4) (v := .int (gI _ 502 _)) m_146 rfl rfl (ts_obB g1) rfl rfl rfl (ev_bipush (pc' := 6) (x := 7) m_146 rfl rfl rfl ?_)
  refine ev_icmp_eq (t := 10) (e := 9) m_146 rfl rfl rfl (fun c2 => ?_) (fun c2 => ?_)
  · replace h := Ok_t c2 h
    refine ev_iconst (pc' := 11) (x := 0) m_146 rfl rfl rfl (ev_istore_n (pc' := 12) m_146 rfl rfl rfl rfl ?_)
    exact am_Ev.sub (L := [(0, .ref 34), (1, .ref (pB l1)), (2, .int ((0 : Int32)))]) ⟨rfl, rfl, rfl, trivial⟩ (cH_goToStatement_12_ok tm_N l1 ((0 : Int32)) _ _ h)
  · replace h := Ok_f c2 h
    exact tr_rv m_146 rfl rfl (Ok_s h)
def cH_closeTurn_26_b (kk : Option Nat → ts → Option (ts)) (l1 : Option Nat) (s : ts) : Option (ts) := (match l1 with
  | none => some s
  | some l1 => (if l1 < gM s then (match gR s 509 l1 with
  | none => (cW_reckon ((gI s 503 l1) - ((1 : Int32))) l1 s).bind (fun x6 => (if x6.1 = ((0 : Int32)) then (cW_result ((0 : Int32)) x6.2).bind (fun x9 => (if x9.1 = ((0 : Int32)) then kk none x9.2 else (cO_putInCalendar l1 ((0 : Int32)) (gI x9.2 800 0) x9.2).bind (fun s11 => kk none s11))) else (cO_finish (some l1) x6.1 x6.2).bind (fun s15 => kk none s15)))
  | some r2 => (cW_reckon ((gI s 503 l1) - ((1 : Int32))) l1 s).bind (fun x20 => (if x20.1 = ((0 : Int32)) then (cW_result ((0 : Int32)) x20.2).bind (fun x23 => (if x23.1 = ((0 : Int32)) then kk (some r2) x23.2 else (cO_putInCalendar l1 ((0 : Int32)) (gI x23.2 800 0) x23.2).bind (fun s25 => kk (some r2) s25))) else (cO_finish (some l1) x20.1 x20.2).bind (fun s29 => kk (some r2) s29)))) else none))
def cH_closeTurn_26 : Nat → Option Nat → ts → Option (ts)
  | 0, _, _ => none
  | n + 1, l1, s => cH_closeTurn_26_b (cH_closeTurn_26 n) l1 s
set_option maxRecDepth 20000 in
theorem cH_closeTurn_26_ok {d : Nat} : ∀ (n : Nat) (l1 : Option Nat) (s : ts) (Q : ts → Prop), Ok (cH_closeTurn_26 n l1 s) Q → am_Ev (d + 4) 147 (26, [(0, .ref 34), (1, va_rf (l1.map pB))], []) (lay s) (tq_v Q) := by
  intro n
  induction n with
  | zero => intro l1 s Q h; exact Ok_n h
  | succ n ih =>
    intro l1 s Q h
    rw [cH_closeTurn_26.eq_2] at h
    unfold cH_closeTurn_26_b at h
    cases l1 with
    | none =>
      dsimp only at h
      refine ev_aload_nN (pc' := 27) m_147 rfl rfl rfl (ev_nulY (t := 102) m_147 rfl rfl ?_)
      exact tr_rv m_147 rfl rfl (Ok_s h)
    | some l1 =>
      dsimp only at h
      refine ev_aload_n (pc' := 27) m_147 rfl rfl rfl (ev_nulN (e := 30) m_147 rfl rfl (ev_aload_n (pc' := 31) m_147 rfl rfl rfl ?_))
      obtain ⟨g1, h⟩ := Ok_g h
      cases e3 : gR s 509 l1 with
      | none =>
        rw [e3] at h
        dsimp only at h
        refine tr_getN (pc' := 34) (f := 509) (g := pB) m_147 rfl rfl (ts_obB g1) rfl rfl e3 rfl ?_
        refine ev_astore_nN (pc' := 35) m_147 rfl rfl rfl rfl (ev_aload_n (pc' := 36) m_147 rfl rfl rfl (tr_get (pc' := 39) (v := .ref 35) m_147 rfl rfl ts_o34 rfl rfl rfl (ev_aload_n (pc' := 40) m_147 rfl rfl rfl (tr_get (pc' := 43) (v := .ref 12) m_147 rfl rfl ts_o34 rfl rfl rfl (ev_aload_n (pc' := 44) m_147 rfl rfl rfl (tr_get (pc' := 47) (v := .int (gI _ 503 _)) m_147 rfl rfl (ts_obB g1) rfl rfl rfl (ev_iconst (pc' := 48) (x := 1) m_147 rfl rfl rfl ?_)))))))
        refine ev_isub (pc' := 49) m_147 rfl rfl (ev_aload_n (pc' := 50) m_147 rfl rfl rfl ?_)
        refine tr_ci (pc' := 53) m_147 rfl rfl rfl m_109 rfl rfl rfl rfl (tr_rcv ts_o35 rfl) rfl rfl (cW_reckon_ok ((gI s 503 l1) - ((1 : Int32))) l1 _ _ (Ok_b h)) (fun x6_ x6_s h => ?_)
        refine ev_istore_n (pc' := 54) m_147 rfl rfl rfl rfl (ev_iload_n (pc' := 55) m_147 rfl rfl rfl ?_)
        refine ev_if_eq (t := 70) (e := 58) m_147 rfl rfl rfl (fun c17 => ?_) (fun c17 => ?_)
        · replace h := Ok_t c17 h
          refine ev_aload_n (pc' := 71) m_147 rfl rfl rfl (tr_get (pc' := 74) (v := .ref 35) m_147 rfl rfl ts_o34 rfl rfl rfl (ev_iconst (pc' := 75) (x := 0) m_147 rfl rfl rfl ?_))
          refine tr_ci (pc' := 78) m_147 rfl rfl rfl m_124 rfl rfl rfl rfl (tr_rcv ts_o35 rfl) rfl rfl (cW_result_ok ((0 : Int32)) _ _ (Ok_b h)) (fun x9_ x9_s h => ?_)
          refine ev_if_eq (t := 97) (e := 81) m_147 rfl rfl rfl (fun c13 => ?_) (fun c13 => ?_)
          · replace h := Ok_t c13 h
            refine ev_aload_nN (pc' := 98) m_147 rfl rfl rfl (ev_astore_nN (pc' := 99) m_147 rfl rfl rfl rfl (ev_goto (pc' := 26) m_147 rfl rfl ?_))
            exact am_Ev.sub (L := [(0, .ref 34), (1, .null)]) ⟨rfl, rfl, trivial⟩ (ih none _ _ h)
          · replace h := Ok_f c13 h
            refine ev_aload_n (pc' := 82) m_147 rfl rfl rfl (tr_get (pc' := 85) (v := .ref 81) m_147 rfl rfl ts_o34 rfl rfl rfl (ev_aload_n (pc' := 86) m_147 rfl rfl rfl (ev_iconst (pc' := 87) (x := 0) m_147 rfl rfl rfl (ev_aload_n (pc' := 88) m_147 rfl rfl rfl (tr_get (pc' := 91) (v := .ref 35) m_147 rfl rfl ts_o34 rfl rfl rfl (tr_get (pc' := 94) (v := .int (gI _ 800 _)) m_147 rfl rfl ts_o35 rfl rfl rfl ?_))))))
            refine tr_cv (pc' := 97) m_147 rfl rfl rfl m_102 rfl rfl rfl rfl (tr_rcv ts_o81 rfl) rfl rfl (cO_putInCalendar_ok l1 ((0 : Int32)) (gI x9_s 800 0) _ _ (Ok_b h)) (fun s11 h => ?_)
            refine ev_aload_nN (pc' := 98) m_147 rfl rfl rfl (ev_astore_nN (pc' := 99) m_147 rfl rfl rfl rfl (ev_goto (pc' := 26) m_147 rfl rfl ?_))
            exact am_Ev.sub (L := [(0, .ref 34), (1, .null)]) ⟨rfl, rfl, trivial⟩ (ih none _ _ h)
        · replace h := Ok_f c17 h
          refine ev_aload_n (pc' := 59) m_147 rfl rfl rfl (tr_get (pc' := 62) (v := .ref 81) m_147 rfl rfl ts_o34 rfl rfl rfl (ev_aload_n (pc' := 63) m_147 rfl rfl rfl (ev_iload_n (pc' := 64) m_147 rfl rfl rfl ?_)))
          refine tr_cv (pc' := 67) m_147 rfl rfl rfl m_142 rfl rfl rfl rfl (tr_rcv ts_o81 rfl) rfl rfl (cO_finish_ok (some l1) x6_ _ _ (Ok_b h)) (fun s15 h => ?_)
          refine ev_goto (pc' := 97) m_147 rfl rfl (ev_aload_nN (pc' := 98) m_147 rfl rfl rfl (ev_astore_nN (pc' := 99) m_147 rfl rfl rfl rfl (ev_goto (pc' := 26) m_147 rfl rfl ?_)))
          exact am_Ev.sub (L := [(0, .ref 34), (1, .null)]) ⟨rfl, rfl, trivial⟩ (ih none _ _ h)
      | some r2 =>
        rw [e3] at h
        dsimp only at h
        refine tr_getS (pc' := 34) (f := 509) (g := pB) m_147 rfl rfl (ts_obB g1) rfl rfl e3 rfl ?_
        refine ev_astore_n (pc' := 35) m_147 rfl rfl rfl rfl (ev_aload_n (pc' := 36) m_147 rfl rfl rfl (tr_get (pc' := 39) (v := .ref 35) m_147 rfl rfl ts_o34 rfl rfl rfl (ev_aload_n (pc' := 40) m_147 rfl rfl rfl (tr_get (pc' := 43) (v := .ref 12) m_147 rfl rfl ts_o34 rfl rfl rfl (ev_aload_n (pc' := 44) m_147 rfl rfl rfl (tr_get (pc' := 47) (v := .int (gI _ 503 _)) m_147 rfl rfl (ts_obB g1) rfl rfl rfl (ev_iconst (pc' := 48) (x := 1) m_147 rfl rfl rfl ?_)))))))
        refine ev_isub (pc' := 49) m_147 rfl rfl (ev_aload_n (pc' := 50) m_147 rfl rfl rfl ?_)
        refine tr_ci (pc' := 53) m_147 rfl rfl rfl m_109 rfl rfl rfl rfl (tr_rcv ts_o35 rfl) rfl rfl (cW_reckon_ok ((gI s 503 l1) - ((1 : Int32))) l1 _ _ (Ok_b h)) (fun x20_ x20_s h => ?_)
        refine ev_istore_n (pc' := 54) m_147 rfl rfl rfl rfl (ev_iload_n (pc' := 55) m_147 rfl rfl rfl ?_)
        refine ev_if_eq (t := 70) (e := 58) m_147 rfl rfl rfl (fun c31 => ?_) (fun c31 => ?_)
        · replace h := Ok_t c31 h
          refine ev_aload_n (pc' := 71) m_147 rfl rfl rfl (tr_get (pc' := 74) (v := .ref 35) m_147 rfl rfl ts_o34 rfl rfl rfl (ev_iconst (pc' := 75) (x := 0) m_147 rfl rfl rfl ?_))
          refine tr_ci (pc' := 78) m_147 rfl rfl rfl m_124 rfl rfl rfl rfl (tr_rcv ts_o35 rfl) rfl rfl (cW_result_ok ((0 : Int32)) _ _ (Ok_b h)) (fun x23_ x23_s h => ?_)
          refine ev_if_eq (t := 97) (e := 81) m_147 rfl rfl rfl (fun c27 => ?_) (fun c27 => ?_)
          · replace h := Ok_t c27 h
            refine ev_aload_n (pc' := 98) m_147 rfl rfl rfl (ev_astore_n (pc' := 99) m_147 rfl rfl rfl rfl (ev_goto (pc' := 26) m_147 rfl rfl ?_))
            exact am_Ev.sub (L := [(0, .ref 34), (1, .ref (pB r2))]) ⟨rfl, rfl, trivial⟩ (ih (some r2) _ _ h)
          · replace h := Ok_f c27 h
            refine ev_aload_n (pc' := 82) m_147 rfl rfl rfl (tr_get (pc' := 85) (v := .ref 81) m_147 rfl rfl ts_o34 rfl rfl rfl (ev_aload_n (pc' := 86) m_147 rfl rfl rfl (ev_iconst (pc' := 87) (x := 0) m_147 rfl rfl rfl (ev_aload_n (pc' := 88) m_147 rfl rfl rfl (tr_get (pc' := 91) (v := .ref 35) m_147 rfl rfl ts_o34 rfl rfl rfl (tr_get (pc' := 94) (v := .int (gI _ 800 _)) m_147 rfl rfl ts_o35 rfl rfl rfl ?_))))))
            refine tr_cv (pc' := 97) m_147 rfl rfl rfl m_102 rfl rfl rfl rfl (tr_rcv ts_o81 rfl) rfl rfl (cO_putInCalendar_ok l1 ((0 : Int32)) (gI x23_s 800 0) _ _ (Ok_b h)) (fun s25 h => ?_)
            refine ev_aload_n (pc' := 98) m_147 rfl rfl rfl (ev_astore_n (pc' := 99) m_147 rfl rfl rfl rfl (ev_goto (pc' := 26) m_147 rfl rfl ?_))
            exact am_Ev.sub (L := [(0, .ref 34), (1, .ref (pB r2))]) ⟨rfl, rfl, trivial⟩ (ih (some r2) _ _ h)
        · replace h := Ok_f c31 h
          refine ev_aload_n (pc' := 59) m_147 rfl rfl rfl (tr_get (pc' := 62) (v := .ref 81) m_147 rfl rfl ts_o34 rfl rfl rfl (ev_aload_n (pc' := 63) m_147 rfl rfl rfl (ev_iload_n (pc' := 64) m_147 rfl rfl rfl ?_)))
          refine tr_cv (pc' := 67) m_147 rfl rfl rfl m_142 rfl rfl rfl rfl (tr_rcv ts_o81 rfl) rfl rfl (cO_finish_ok (some l1) x20_ _ _ (Ok_b h)) (fun s29 h => ?_)
          refine ev_goto (pc' := 97) m_147 rfl rfl (ev_aload_n (pc' := 98) m_147 rfl rfl rfl (ev_astore_n (pc' := 99) m_147 rfl rfl rfl rfl (ev_goto (pc' := 26) m_147 rfl rfl ?_)))
          exact am_Ev.sub (L := [(0, .ref 34), (1, .ref (pB r2))]) ⟨rfl, rfl, trivial⟩ (ih (some r2) _ _ h)
def cH_closeTurn (s : ts) : Option (ts) := (match gR (wI (wR s 1003 0 none) 1005 0 ((gI (wR s 1003 0 none) 1005 0) + ((1 : Int32)))) 600 29 with
  | none => cH_closeTurn_26 tm_N none (wI (wR s 1003 0 none) 1005 0 ((gI (wR s 1003 0 none) 1005 0) + ((1 : Int32))))
  | some r1 => cH_closeTurn_26 tm_N (some r1) (wI (wR s 1003 0 none) 1005 0 ((gI (wR s 1003 0 none) 1005 0) + ((1 : Int32)))))
set_option maxRecDepth 20000 in
theorem cH_closeTurn_ok {d : Nat} (s : ts) (Q : ts → Prop) (h : Ok (cH_closeTurn s) Q) : am_Ev (d + 4) 147 (0, [(0, .ref 34)], []) (lay s) (tq_v Q) := by
  unfold cH_closeTurn at h
  refine ev_aload_n (pc' := 1) m_147 rfl rfl rfl (ev_null (pc' := 2) m_147 rfl rfl (tr_pN (pc' := 5) (f := 1003) m_147 rfl rfl rfl ts_o34 rfl rfl rfl rfl rfl (ev_aload_n (pc' := 6) m_147 rfl rfl rfl (ev_dup (pc' := 7) m_147 rfl rfl rfl (tr_get (pc' := 10) (v := .int (gI _ 1005 _)) m_147 rfl rfl ts_o34 rfl rfl rfl (ev_iconst (pc' := 11) (x := 1) m_147 rfl rfl rfl (ev_iadd (pc' := 12) m_147 rfl rfl ?_)))))))
  refine tr_pI (pc' := 15) (f := 1005) m_147 rfl rfl rfl ts_o34 rfl rfl rfl rfl (ev_aload_n (pc' := 16) m_147 rfl rfl rfl (tr_get (pc' := 19) (v := .ref 81) m_147 rfl rfl ts_o34 rfl rfl rfl (tr_get (pc' := 22) (v := .ref (pL 29)) m_147 rfl rfl ts_o81 rfl rfl rfl ?_)))
  cases e2 : gR (wI (wR s 1003 0 none) 1005 0 ((gI (wR s 1003 0 none) 1005 0) + ((1 : Int32)))) 600 29 with
  | none =>
    rw [e2] at h
    dsimp only at h
    refine tr_getN (pc' := 25) (f := 600) (g := pB) m_147 rfl rfl (ts_obL (by decide)) rfl rfl e2 rfl ?_
    refine ev_astore_nN (pc' := 26) m_147 rfl rfl rfl rfl ?_
    exact am_Ev.sub (L := [(0, .ref 34), (1, .null)]) ⟨rfl, rfl, trivial⟩ (cH_closeTurn_26_ok tm_N none _ _ h)
  | some r1 =>
    rw [e2] at h
    dsimp only at h
    refine tr_getS (pc' := 25) (f := 600) (g := pB) m_147 rfl rfl (ts_obL (by decide)) rfl rfl e2 rfl ?_
    refine ev_astore_n (pc' := 26) m_147 rfl rfl rfl rfl ?_
    exact am_Ev.sub (L := [(0, .ref 34), (1, .ref (pB r1))]) ⟨rfl, rfl, trivial⟩ (cH_closeTurn_26_ok tm_N (some r1) _ _ h)
def cH_doStep_71 (l1 : Nat) (s : ts) : Option (ts) := (cH_goToStatement l1 s).bind (fun s2 => (if l1 < gM s2 then (if (gI s2 502 l1) = ((7 : Int32)) then some s2 else (cH_closeTurn s2).bind (fun s6 => some s6)) else none))
set_option maxRecDepth 20000 in
theorem cH_doStep_71_ok {d : Nat} (l1 : Nat) (s : ts) (Q : ts → Prop) (h : Ok (cH_doStep_71 l1 s) Q) : am_Ev (d + 7) 108 (71, [(0, .ref 34), (1, .ref (pB l1))], []) (lay s) (tq_v Q) := by
  unfold cH_doStep_71 at h
  refine ev_aload_n (pc' := 72) m_108 rfl rfl rfl (ev_aload_n (pc' := 73) m_108 rfl rfl rfl ?_)
  refine tr_cv (pc' := 76) m_108 rfl rfl rfl m_146 rfl rfl rfl rfl (tr_rcv ts_o34 rfl) rfl rfl (cH_goToStatement_ok l1 _ _ (Ok_b h)) (fun s2 h => ?_)
  refine ev_aload_n (pc' := 77) m_108 rfl rfl rfl ?_
  obtain ⟨g4, h⟩ := Ok_g h
  refine tr_get (pc' := 80) (v := .int (gI _ 502 _)) m_108 rfl rfl (ts_obB g4) rfl rfl rfl (ev_bipush (pc' := 82) (x := 7) m_108 rfl rfl rfl ?_)
  refine ev_icmp_eq (t := 89) (e := 85) m_108 rfl rfl rfl (fun c8 => ?_) (fun c8 => ?_)
  · replace h := Ok_t c8 h
    exact tr_rv m_108 rfl rfl (Ok_s h)
  · replace h := Ok_f c8 h
    refine ev_aload_n (pc' := 86) m_108 rfl rfl rfl ?_
    refine tr_cv (pc' := 89) m_108 rfl rfl rfl m_147 rfl rfl rfl rfl (tr_rcv ts_o34 rfl) rfl rfl (cH_closeTurn_ok _ _ (Ok_b h)) (fun s6 h => ?_)
    exact tr_rv m_108 rfl rfl (Ok_s h)
def cH_doStep_58 (l1 : Nat) (l3 : Int32) (s : ts) : Option (ts) := (if l3 = ((0 : Int32)) then cH_doStep_71 l1 s else (cO_finish (some l1) l3 s).bind (fun s2 => cH_doStep_71 l1 s2))
set_option maxRecDepth 20000 in
theorem cH_doStep_58_ok {d : Nat} (l1 : Nat) (l3 : Int32) (s : ts) (Q : ts → Prop) (h : Ok (cH_doStep_58 l1 l3 s) Q) : am_Ev (d + 7) 108 (58, [(0, .ref 34), (1, .ref (pB l1)), (3, .int (l3))], []) (lay s) (tq_v Q) := by
  unfold cH_doStep_58 at h
  refine ev_iload_n (pc' := 59) m_108 rfl rfl rfl ?_
  refine ev_if_eq (t := 71) (e := 62) m_108 rfl rfl rfl (fun c4 => ?_) (fun c4 => ?_)
  · replace h := Ok_t c4 h
    exact am_Ev.sub (L := [(0, .ref 34), (1, .ref (pB l1))]) ⟨rfl, rfl, trivial⟩ (cH_doStep_71_ok l1 _ _ h)
  · replace h := Ok_f c4 h
    refine ev_aload_n (pc' := 63) m_108 rfl rfl rfl (tr_get (pc' := 66) (v := .ref 81) m_108 rfl rfl ts_o34 rfl rfl rfl (ev_aload_n (pc' := 67) m_108 rfl rfl rfl (ev_iload_n (pc' := 68) m_108 rfl rfl rfl ?_)))
    refine tr_cv (pc' := 71) m_108 rfl rfl rfl m_142 rfl rfl rfl rfl (tr_rcv ts_o81 rfl) rfl rfl (cO_finish_ok (some l1) l3 _ _ (Ok_b h)) (fun s2 h => ?_)
    exact am_Ev.sub (L := [(0, .ref 34), (1, .ref (pB l1))]) ⟨rfl, rfl, trivial⟩ (cH_doStep_71_ok l1 _ _ h)
def cH_doStep (l1 : Nat) (s : ts) : Option (ts) := (if l1 < gM s then (cW_reckon (gI (wI s 1004 0 (((gI s 1004 0) + ((1 : Int32))) &&& ((1073741823 : Int32)))) 503 l1) l1 (wI (wI s 1004 0 (((gI s 1004 0) + ((1 : Int32))) &&& ((1073741823 : Int32)))) 503 l1 ((gI (wI s 1004 0 (((gI s 1004 0) + ((1 : Int32))) &&& ((1073741823 : Int32)))) 503 l1) + ((1 : Int32))))).bind (fun x4 => (if x4.1 = ((0 : Int32)) then (cW_result ((0 : Int32)) x4.2).bind (fun x7 => (cH_perform l1 (gI (wI s 1004 0 (((gI s 1004 0) + ((1 : Int32))) &&& ((1073741823 : Int32)))) 503 l1) x7.1 x7.2).bind (fun x10 => cH_doStep_58 l1 x10.1 x10.2)) else cH_doStep_58 l1 x4.1 x4.2)) else none)
set_option maxRecDepth 20000 in
theorem cH_doStep_ok {d : Nat} (l1 : Nat) (s : ts) (Q : ts → Prop) (h : Ok (cH_doStep l1 s) Q) : am_Ev (d + 7) 108 (0, [(0, .ref 34), (1, .ref (pB l1))], []) (lay s) (tq_v Q) := by
  unfold cH_doStep at h
  refine ev_aload_n (pc' := 1) m_108 rfl rfl rfl (ev_aload_n (pc' := 2) m_108 rfl rfl rfl (tr_get (pc' := 5) (v := .int (gI _ 1004 _)) m_108 rfl rfl ts_o34 rfl rfl rfl (ev_iconst (pc' := 6) (x := 1) m_108 rfl rfl rfl (ev_iadd (pc' := 7) m_108 rfl rfl (tr_ldc (pc' := 9) m_108 rfl rfl rfl (ev_iand (pc' := 10) m_108 rfl rfl (tr_pI (pc' := 13) (f := 1004) m_108 rfl rfl rfl ts_o34 rfl rfl rfl rfl ?_)))))))
  refine ev_aload_n (pc' := 14) m_108 rfl rfl rfl ?_
  obtain ⟨g1, h⟩ := Ok_g h
  refine tr_get (pc' := 17) (v := .int (gI _ 503 _)) m_108 rfl rfl (ts_obB g1) rfl rfl rfl (ev_istore_n (pc' := 18) m_108 rfl rfl rfl rfl (ev_aload_n (pc' := 19) m_108 rfl rfl rfl (ev_iload_n (pc' := 20) m_108 rfl rfl rfl (ev_iconst (pc' := 21) (x := 1) m_108 rfl rfl rfl (ev_iadd (pc' := 22) m_108 rfl rfl (tr_pI (pc' := 25) (f := 503) m_108 rfl rfl rfl (ts_obB g1) rfl rfl rfl rfl (ev_aload_n (pc' := 26) m_108 rfl rfl rfl ?_)))))))
  refine tr_get (pc' := 29) (v := .ref 35) m_108 rfl rfl ts_o34 rfl rfl rfl (ev_aload_n (pc' := 30) m_108 rfl rfl rfl (tr_get (pc' := 33) (v := .ref 12) m_108 rfl rfl ts_o34 rfl rfl rfl (ev_iload_n (pc' := 34) m_108 rfl rfl rfl (ev_aload_n (pc' := 35) m_108 rfl rfl rfl ?_))))
  refine tr_ci (pc' := 38) m_108 rfl rfl rfl m_109 rfl rfl rfl rfl (tr_rcv ts_o35 rfl) rfl rfl (cW_reckon_ok (gI (wI s 1004 0 (((gI s 1004 0) + ((1 : Int32))) &&& ((1073741823 : Int32)))) 503 l1) l1 _ _ (Ok_b h)) (fun x4_ x4_s h => ?_)
  refine ev_istore_n (pc' := 39) m_108 rfl rfl rfl rfl (ev_iload_n (pc' := 40) m_108 rfl rfl rfl ?_)
  refine ev_if_ne (t := 58) (e := 43) m_108 rfl rfl rfl (fun c11 => ?_) (fun c11 => ?_)
  · replace h := Ok_f c11 h
    exact am_Ev.sub (L := [(0, .ref 34), (1, .ref (pB l1)), (3, .int (x4_))]) ⟨rfl, rfl, rfl, trivial⟩ (cH_doStep_58_ok l1 x4_ _ _ h)
  · replace h := Ok_t c11 h
    refine ev_aload_n (pc' := 44) m_108 rfl rfl rfl (ev_aload_n (pc' := 45) m_108 rfl rfl rfl (ev_iload_n (pc' := 46) m_108 rfl rfl rfl (ev_aload_n (pc' := 47) m_108 rfl rfl rfl (tr_get (pc' := 50) (v := .ref 35) m_108 rfl rfl ts_o34 rfl rfl rfl (ev_iconst (pc' := 51) (x := 0) m_108 rfl rfl rfl ?_)))))
    refine tr_ci (pc' := 54) m_108 rfl rfl rfl m_124 rfl rfl rfl rfl (tr_rcv ts_o35 rfl) rfl rfl (cW_result_ok ((0 : Int32)) _ _ (Ok_b h)) (fun x7_ x7_s h => ?_)
    refine tr_ci (pc' := 57) m_108 rfl rfl rfl m_125 rfl rfl rfl rfl (tr_rcv ts_o34 rfl) rfl rfl (cH_perform_ok l1 (gI (wI s 1004 0 (((gI s 1004 0) + ((1 : Int32))) &&& ((1073741823 : Int32)))) 503 l1) x7_ _ _ (Ok_b h)) (fun x10_ x10_s h => ?_)
    refine ev_istore_n (pc' := 58) m_108 rfl rfl rfl rfl ?_
    exact am_Ev.sub (L := [(0, .ref 34), (1, .ref (pB l1)), (3, .int (x10_))]) ⟨rfl, rfl, rfl, trivial⟩ (cH_doStep_58_ok l1 x10_ _ _ h)
def cK_pass_29 (l0 : Nat) (l1 : Int64) (t0 : Nat) (t1 : Int64) (t2 : Int64) (t3 : Int32) (s : ts) : Option (ts) := (if t0 < 14 then (if l0 < 14 then (cK_waiting l0 (wJ s 708 t0 (t1 + (t2 * t3.toInt64)))).bind (fun x5 => some (wJ x5.2 709 l0 ((gJ (wJ s 708 t0 (t1 + (t2 * t3.toInt64))) 709 l0) + (l1 * x5.1.toInt64)))) else none) else none)
set_option maxRecDepth 20000 in
theorem cK_pass_29_ok {d : Nat} (l0 : Nat) (l1 : Int64) (t0 : Nat) (t1 : Int64) (t2 : Int64) (t3 : Int32) (s : ts) (Q : ts → Prop) (h : Ok (cK_pass_29 l0 l1 t0 t1 t2 t3 s) Q) : am_Ev (d + 1) 150 (29, [(0, .ref (pQ l0)), (1, .long (l1))], [.int (t3), .long (t2), .long (t1), .ref (pQ t0)]) (lay s) (tq_v Q) := by
  unfold cK_pass_29 at h
  refine ev_i2l (pc' := 30) m_150 rfl rfl (ev_lmul (pc' := 31) m_150 rfl rfl (ev_ladd (pc' := 32) m_150 rfl rfl ?_))
  obtain ⟨g1, h⟩ := Ok_g h
  refine tr_pJ (pc' := 35) (f := 708) m_150 rfl rfl rfl (ts_obQ g1) rfl rfl rfl rfl (ev_aload_n (pc' := 36) m_150 rfl rfl rfl (ev_dup (pc' := 37) m_150 rfl rfl rfl ?_))
  obtain ⟨g2, h⟩ := Ok_g h
  refine tr_get (pc' := 40) (v := .long (gJ _ 709 _)) m_150 rfl rfl (ts_obQ g2) rfl rfl rfl (ev_lload_n (pc' := 41) m_150 rfl rfl rfl (ev_aload_n (pc' := 42) m_150 rfl rfl rfl ?_))
  refine tr_ci (pc' := 45) m_150 rfl rfl rfl m_119 rfl rfl rfl rfl (tr_rcv (ts_obQ g2) rfl) rfl rfl (cK_waiting_ok l0 _ _ (Ok_b h)) (fun x5_ x5_s h => ?_)
  refine ev_i2l (pc' := 46) m_150 rfl rfl (ev_lmul (pc' := 47) m_150 rfl rfl (ev_ladd (pc' := 48) m_150 rfl rfl (tr_pJ (pc' := 51) (f := 709) m_150 rfl rfl rfl (ts_obQ g2) rfl rfl rfl rfl ?_)))
  exact tr_rv m_150 rfl rfl (Ok_s h)
def cK_pass (l0 : Nat) (l1 : Int64) (s : ts) : Option (ts) := (if l0 < 14 then (if (gI s 700 l0) = ((0 : Int32)) then cK_pass_29 l0 l1 l0 (gJ s 708 l0) l1 ((gI s 704 l0) - (gI s 703 l0)) s else cK_pass_29 l0 l1 l0 (gJ s 708 l0) l1 (gI s 703 l0) s) else none)
set_option maxRecDepth 20000 in
theorem cK_pass_ok {d : Nat} (l0 : Nat) (l1 : Int64) (s : ts) (Q : ts → Prop) (h : Ok (cK_pass l0 l1 s) Q) : am_Ev (d + 1) 150 (0, [(0, .ref (pQ l0)), (1, .long (l1))], []) (lay s) (tq_v Q) := by
  unfold cK_pass at h
  refine ev_aload_n (pc' := 1) m_150 rfl rfl rfl (ev_dup (pc' := 2) m_150 rfl rfl rfl ?_)
  obtain ⟨g1, h⟩ := Ok_g h
  refine tr_get (pc' := 5) (v := .long (gJ _ 708 _)) m_150 rfl rfl (ts_obQ g1) rfl rfl rfl (ev_lload_n (pc' := 6) m_150 rfl rfl rfl (ev_aload_n (pc' := 7) m_150 rfl rfl rfl (tr_get (pc' := 10) (v := .int (gI _ 700 _)) m_150 rfl rfl (ts_obQ g1) rfl rfl rfl ?_)))
  refine ev_if_eq (t := 20) (e := 13) m_150 rfl rfl rfl (fun c2 => ?_) (fun c2 => ?_)
  · replace h := Ok_t c2 h
    refine ev_aload_n (pc' := 21) m_150 rfl rfl rfl (tr_get (pc' := 24) (v := .int (gI _ 704 _)) m_150 rfl rfl (ts_obQ g1) rfl rfl rfl (ev_aload_n (pc' := 25) m_150 rfl rfl rfl (tr_get (pc' := 28) (v := .int (gI _ 703 _)) m_150 rfl rfl (ts_obQ g1) rfl rfl rfl (ev_isub (pc' := 29) m_150 rfl rfl ?_))))
    exact am_Ev.sub (L := [(0, .ref (pQ l0)), (1, .long (l1))]) ⟨rfl, rfl, trivial⟩ (cK_pass_29_ok l0 l1 l0 (gJ s 708 l0) l1 ((gI s 704 l0) - (gI s 703 l0)) _ _ h)
  · replace h := Ok_f c2 h
    refine ev_aload_n (pc' := 14) m_150 rfl rfl rfl (tr_get (pc' := 17) (v := .int (gI _ 703 _)) m_150 rfl rfl (ts_obQ g1) rfl rfl rfl (ev_goto (pc' := 29) m_150 rfl rfl ?_))
    exact am_Ev.sub (L := [(0, .ref (pQ l0)), (1, .long (l1))]) ⟨rfl, rfl, trivial⟩ (cK_pass_29_ok l0 l1 l0 (gJ s 708 l0) l1 (gI s 703 l0) _ _ h)
def cW_goTo_12_b (kk : Int32 → Int64 → Int32 → ts → Option (ts)) (l1 : Int32) (l2 : Int64) (l4 : Int32) (s : ts) : Option (ts) := (if ((14 : Int32)) ≤ l4 then some (wI s 800 0 l1) else (if (lg_cmp l2 ((0 : Int64))) ≤ ((0 : Int32)) then some (wI s 800 0 l1) else (if am_idx l4 14 = true then (cK_pass l4.toNatClampNeg l2 s).bind (fun s3 => kk l1 l2 (l4 + (1 : Int32)) s3) else none)))
def cW_goTo_12 : Nat → Int32 → Int64 → Int32 → ts → Option (ts)
  | 0, _, _, _, _ => none
  | n + 1, l1, l2, l4, s => cW_goTo_12_b (cW_goTo_12 n) l1 l2 l4 s
set_option maxRecDepth 20000 in
theorem cW_goTo_12_ok {d : Nat} : ∀ (n : Nat) (l1 : Int32) (l2 : Int64) (l4 : Int32) (s : ts) (Q : ts → Prop), Ok (cW_goTo_12 n l1 l2 l4 s) Q → am_Ev (d + 2) 149 (12, [(0, .ref 35), (1, .int (l1)), (2, .long (l2)), (4, .int (l4))], []) (lay s) (tq_v Q) := by
  intro n
  induction n with
  | zero => intro l1 l2 l4 s Q h; exact Ok_n h
  | succ n ih =>
    intro l1 l2 l4 s Q h
    rw [cW_goTo_12.eq_2] at h
    unfold cW_goTo_12_b at h
    refine ev_iload (pc' := 14) m_149 rfl rfl rfl (ev_bipush (pc' := 16) (x := 14) m_149 rfl rfl rfl ?_)
    refine ev_icmp_ge (t := 51) (e := 19) m_149 rfl rfl rfl (fun c6 => ?_) (fun c6 => ?_)
    · replace h := Ok_t c6 h
      refine ev_aload_n (pc' := 52) m_149 rfl rfl rfl (ev_iload_n (pc' := 53) m_149 rfl rfl rfl (tr_pI (pc' := 56) (f := 800) m_149 rfl rfl rfl ts_o35 rfl rfl rfl rfl ?_))
      exact tr_rv m_149 rfl rfl (Ok_s h)
    · replace h := Ok_f c6 h
      refine ev_lload_n (pc' := 20) m_149 rfl rfl rfl (ev_lconst (pc' := 21) (u := 0) m_149 rfl rfl rfl (ev_lcmp (pc' := 22) m_149 rfl rfl ?_))
      refine ev_if_le (t := 51) (e := 25) m_149 rfl rfl rfl (fun c5 => ?_) (fun c5 => ?_)
      · replace h := Ok_t c5 h
        refine ev_aload_n (pc' := 52) m_149 rfl rfl rfl (ev_iload_n (pc' := 53) m_149 rfl rfl rfl (tr_pI (pc' := 56) (f := 800) m_149 rfl rfl rfl ts_o35 rfl rfl rfl rfl ?_))
        exact tr_rv m_149 rfl rfl (Ok_s h)
      · replace h := Ok_f c5 h
        refine ev_aload_n (pc' := 26) m_149 rfl rfl rfl (tr_get (pc' := 29) (v := .ref 37) m_149 rfl rfl ts_o35 rfl rfl rfl (ev_iload (pc' := 31) m_149 rfl rfl rfl ?_))
        obtain ⟨g1, h⟩ := Ok_g h
        refine tr_qald (pc' := 32) m_149 rfl g1 rfl (ev_astore (pc' := 34) m_149 rfl rfl rfl rfl (ev_aload (pc' := 36) m_149 rfl rfl rfl (ev_nulN (e := 39) m_149 rfl rfl (ev_aload (pc' := 41) m_149 rfl rfl rfl (ev_lload_n (pc' := 42) m_149 rfl rfl rfl ?_)))))
        refine tr_cv (pc' := 45) m_149 rfl rfl rfl m_150 rfl rfl rfl rfl (tr_rcv (ts_obQ (am_idx_lt g1)) rfl) rfl rfl (cK_pass_ok l4.toNatClampNeg l2 _ _ (Ok_b h)) (fun s3 h => ?_)
        refine ev_iinc (pc' := 48) (z := 1) m_149 rfl rfl rfl rfl rfl rfl (ev_goto (pc' := 12) m_149 rfl rfl ?_)
        exact am_Ev.sub (L := [(0, .ref 35), (1, .int (l1)), (2, .long (l2)), (4, .int (l4 + (1 : Int32)))]) ⟨rfl, rfl, rfl, rfl, trivial⟩ (ih l1 l2 (l4 + (1 : Int32)) _ _ h)
def cW_goTo (l1 : Int32) (s : ts) : Option (ts) := cW_goTo_12 tm_N l1 (l1.toInt64 - ((gI s 800 0).toInt64)) ((0 : Int32)) s
set_option maxRecDepth 20000 in
theorem cW_goTo_ok {d : Nat} (l1 : Int32) (s : ts) (Q : ts → Prop) (h : Ok (cW_goTo l1 s) Q) : am_Ev (d + 2) 149 (0, [(0, .ref 35), (1, .int (l1))], []) (lay s) (tq_v Q) := by
  unfold cW_goTo at h
  refine ev_iload_n (pc' := 1) m_149 rfl rfl rfl (ev_i2l (pc' := 2) m_149 rfl rfl (ev_aload_n (pc' := 3) m_149 rfl rfl rfl (tr_get (pc' := 6) (v := .int (gI _ 800 _)) m_149 rfl rfl ts_o35 rfl rfl rfl (ev_i2l (pc' := 7) m_149 rfl rfl (ev_lsub (pc' := 8) m_149 rfl rfl (ev_lstore_n (pc' := 9) m_149 rfl rfl rfl rfl (ev_iconst (pc' := 10) (x := 0) m_149 rfl rfl rfl ?_)))))))
  refine ev_istore (pc' := 12) m_149 rfl rfl rfl rfl ?_
  exact am_Ev.sub (L := [(0, .ref 35), (1, .int (l1)), (2, .long (l1.toInt64 - ((gI s 800 0).toInt64))), (4, .int ((0 : Int32)))]) ⟨rfl, rfl, rfl, rfl, trivial⟩ (cW_goTo_12_ok tm_N l1 (l1.toInt64 - ((gI s 800 0).toInt64)) ((0 : Int32)) _ _ h)
def cH_beginTurn (s : ts) : Option (Int32 × ts) := (cN_takeFirst 28 s).bind (fun x3 => match x3.1 with
  | none => some ((-2 : Int32), x3.2)
  | some q4 => (if q4 < gM x3.2 then (cW_goTo (gI x3.2 508 q4) x3.2).bind (fun s7 => (if q4 < gM s7 then (cH_goToStatement q4 (wR (wI s7 502 q4 ((7 : Int32))) 1003 0 (some q4))).bind (fun s11 => (if q4 < gM s11 then (if (gI s11 502 q4) = ((7 : Int32)) then some (gI s11 500 q4, s11) else (cH_closeTurn s11).bind (fun s15 => (if q4 < gM s15 then some (gI s15 500 q4, s15) else none))) else none)) else none)) else none))
set_option maxRecDepth 20000 in
theorem cH_beginTurn_ok {d : Nat} (s : ts) (Q : Int32 × ts → Prop) (h : Ok (cH_beginTurn s) Q) : am_Ev (d + 5) 148 (0, [(0, .ref 34)], []) (lay s) (tq_i Q) := by
  unfold cH_beginTurn at h
  refine ev_aload_n (pc' := 1) m_148 rfl rfl rfl (tr_get (pc' := 4) (v := .ref 81) m_148 rfl rfl ts_o34 rfl rfl rfl (tr_get (pc' := 7) (v := .ref (pL 28)) m_148 rfl rfl ts_o81 rfl rfl rfl ?_))
  refine tr_cr (pc' := 10) m_148 rfl rfl rfl m_138 rfl rfl rfl rfl (tr_rcv (ts_obL (by decide)) rfl) rfl rfl (cN_takeFirst_ok 28 _ _ (Ok_b h)) (fun x3_s h => ?_) (fun q4 x3_s h => ?_)
  · dsimp only at h
    refine ev_astore_nN (pc' := 11) m_148 rfl rfl rfl rfl (ev_aload_nN (pc' := 12) m_148 rfl rfl rfl (ev_nnlN (e := 15) m_148 rfl rfl (ev_bipush (pc' := 17) (x := -2) m_148 rfl rfl rfl ?_)))
    exact tr_ri m_148 rfl rfl (Ok_s h)
  · dsimp only at h
    refine ev_astore_n (pc' := 11) m_148 rfl rfl rfl rfl (ev_aload_n (pc' := 12) m_148 rfl rfl rfl (ev_nnlY (t := 18) m_148 rfl rfl (ev_aload_n (pc' := 19) m_148 rfl rfl rfl (tr_get (pc' := 22) (v := .ref 35) m_148 rfl rfl ts_o34 rfl rfl rfl (ev_aload_n (pc' := 23) m_148 rfl rfl rfl ?_)))))
    obtain ⟨g5, h⟩ := Ok_g h
    refine tr_get (pc' := 26) (v := .int (gI _ 508 _)) m_148 rfl rfl (ts_obB g5) rfl rfl rfl ?_
    refine tr_cv (pc' := 29) m_148 rfl rfl rfl m_149 rfl rfl rfl rfl (tr_rcv ts_o35 rfl) rfl rfl (cW_goTo_ok (gI x3_s 508 q4) _ _ (Ok_b h)) (fun s7 h => ?_)
    refine ev_aload_n (pc' := 30) m_148 rfl rfl rfl (ev_bipush (pc' := 32) (x := 7) m_148 rfl rfl rfl ?_)
    obtain ⟨g9, h⟩ := Ok_g h
    refine tr_pI (pc' := 35) (f := 502) m_148 rfl rfl rfl (ts_obB g9) rfl rfl rfl rfl (ev_aload_n (pc' := 36) m_148 rfl rfl rfl (ev_aload_n (pc' := 37) m_148 rfl rfl rfl (tr_pR (pc' := 40) (f := 1003) (p := q4) m_148 rfl rfl rfl ts_o34 rfl rfl rfl rfl rfl rfl (ev_aload_n (pc' := 41) m_148 rfl rfl rfl (ev_aload_n (pc' := 42) m_148 rfl rfl rfl ?_)))))
    refine tr_cv (pc' := 45) m_148 rfl rfl rfl m_146 rfl rfl rfl rfl (tr_rcv ts_o34 rfl) rfl rfl (cH_goToStatement_ok q4 _ _ (Ok_b h)) (fun s11 h => ?_)
    refine ev_aload_n (pc' := 46) m_148 rfl rfl rfl ?_
    obtain ⟨g13, h⟩ := Ok_g h
    refine tr_get (pc' := 49) (v := .int (gI _ 502 _)) m_148 rfl rfl (ts_obB g13) rfl rfl rfl (ev_bipush (pc' := 51) (x := 7) m_148 rfl rfl rfl ?_)
    refine ev_icmp_eq (t := 58) (e := 54) m_148 rfl rfl rfl (fun c18 => ?_) (fun c18 => ?_)
    · replace h := Ok_t c18 h
      refine ev_aload_n (pc' := 59) m_148 rfl rfl rfl (tr_get (pc' := 62) (v := .int (gI _ 500 _)) m_148 rfl rfl (ts_obB g13) rfl rfl rfl ?_)
      exact tr_ri m_148 rfl rfl (Ok_s h)
    · replace h := Ok_f c18 h
      refine ev_aload_n (pc' := 55) m_148 rfl rfl rfl ?_
      refine tr_cv (pc' := 58) m_148 rfl rfl rfl m_147 rfl rfl rfl rfl (tr_rcv ts_o34 rfl) rfl rfl (cH_closeTurn_ok _ _ (Ok_b h)) (fun s15 h => ?_)
      refine ev_aload_n (pc' := 59) m_148 rfl rfl rfl ?_
      obtain ⟨g17, h⟩ := Ok_g h
      refine tr_get (pc' := 62) (v := .int (gI _ 500 _)) m_148 rfl rfl (ts_obB g17) rfl rfl rfl ?_
      exact tr_ri m_148 rfl rfl (Ok_s h)
def cH_doSteps_4_b (kk : Int32 → Int32 → Int32 → ts → Option (Int32 × ts)) (l1 : Int32) (l2 : Int32) (l3 : Int32) (s : ts) : Option (Int32 × ts) := (if (((2 : Int32)) * (l1 + ((300 : Int32)))) ≤ l3 then some (l2, s) else (if l1 ≤ l2 then some (l2, s) else (match gR s 1003 0 with
  | none => (cH_beginTurn s).bind (fun x5 => (if x5.1 = ((-2 : Int32)) then some (l2, x5.2) else kk l1 l2 (l3 + (1 : Int32)) x5.2))
  | some r1 => (cH_doStep r1 s).bind (fun s8 => kk l1 (l2 + (1 : Int32)) (l3 + (1 : Int32)) s8))))
def cH_doSteps_4 : Nat → Int32 → Int32 → Int32 → ts → Option (Int32 × ts)
  | 0, _, _, _, _ => none
  | n + 1, l1, l2, l3, s => cH_doSteps_4_b (cH_doSteps_4 n) l1 l2 l3 s
set_option maxRecDepth 20000 in
theorem cH_doSteps_4_ok {d : Nat} : ∀ (n : Nat) (l1 : Int32) (l2 : Int32) (l3 : Int32) (s : ts) (Q : Int32 × ts → Prop), Ok (cH_doSteps_4 n l1 l2 l3 s) Q → am_Ev (d + 8) 107 (4, [(0, .ref 34), (1, .int (l1)), (2, .int (l2)), (3, .int (l3))], []) (lay s) (tq_i Q) := by
  intro n
  induction n with
  | zero => intro l1 l2 l3 s Q h; exact Ok_n h
  | succ n ih =>
    intro l1 l2 l3 s Q h
    rw [cH_doSteps_4.eq_2] at h
    unfold cH_doSteps_4_b at h
    refine ev_iload_n (pc' := 5) m_107 rfl rfl rfl (ev_iconst (pc' := 6) (x := 2) m_107 rfl rfl rfl (ev_iload_n (pc' := 7) m_107 rfl rfl rfl (ev_sipush (pc' := 10) (x := 300) m_107 rfl rfl rfl (ev_iadd (pc' := 11) m_107 rfl rfl (ev_imul (pc' := 12) m_107 rfl rfl ?_)))))
    refine ev_icmp_ge (t := 58) (e := 15) m_107 rfl rfl rfl (fun c11 => ?_) (fun c11 => ?_)
    · replace h := Ok_t c11 h
      refine ev_iload_n (pc' := 59) m_107 rfl rfl rfl ?_
      exact tr_ri m_107 rfl rfl (Ok_s h)
    · replace h := Ok_f c11 h
      refine ev_iload_n (pc' := 16) m_107 rfl rfl rfl (ev_iload_n (pc' := 17) m_107 rfl rfl rfl ?_)
      refine ev_icmp_ge (t := 58) (e := 20) m_107 rfl rfl rfl (fun c10 => ?_) (fun c10 => ?_)
      · replace h := Ok_t c10 h
        refine ev_iload_n (pc' := 59) m_107 rfl rfl rfl ?_
        exact tr_ri m_107 rfl rfl (Ok_s h)
      · replace h := Ok_f c10 h
        refine ev_aload_n (pc' := 21) m_107 rfl rfl rfl ?_
        cases e2 : gR s 1003 0 with
        | none =>
          rw [e2] at h
          dsimp only at h
          refine tr_getN (pc' := 24) (f := 1003) (g := pB) m_107 rfl rfl ts_o34 rfl rfl e2 rfl ?_
          refine ev_nulY (t := 41) m_107 rfl rfl (ev_aload_n (pc' := 42) m_107 rfl rfl rfl ?_)
          refine tr_ci (pc' := 45) m_107 rfl rfl rfl m_148 rfl rfl rfl rfl (tr_rcv ts_o34 rfl) rfl rfl (cH_beginTurn_ok _ _ (Ok_b h)) (fun x5_ x5_s h => ?_)
          refine ev_bipush (pc' := 47) (x := -2) m_107 rfl rfl rfl ?_
          refine ev_icmp_ne (t := 52) (e := 50) m_107 rfl rfl rfl (fun c6 => ?_) (fun c6 => ?_)
          · replace h := Ok_f c6 h
            refine ev_iinc (pc' := 55) (z := 1) m_107 rfl rfl rfl rfl rfl rfl (ev_goto (pc' := 4) m_107 rfl rfl ?_)
            exact am_Ev.sub (L := [(0, .ref 34), (1, .int (l1)), (2, .int (l2)), (3, .int (l3 + (1 : Int32)))]) ⟨rfl, rfl, rfl, rfl, trivial⟩ (ih l1 l2 (l3 + (1 : Int32)) _ _ h)
          · replace h := Ok_t c6 h
            refine ev_iload_n (pc' := 51) m_107 rfl rfl rfl ?_
            exact tr_ri m_107 rfl rfl (Ok_s h)
        | some r1 =>
          rw [e2] at h
          dsimp only at h
          refine tr_getS (pc' := 24) (f := 1003) (g := pB) m_107 rfl rfl ts_o34 rfl rfl e2 rfl ?_
          refine ev_nulN (e := 27) m_107 rfl rfl (ev_aload_n (pc' := 28) m_107 rfl rfl rfl (ev_aload_n (pc' := 29) m_107 rfl rfl rfl (tr_getS (pc' := 32) (f := 1003) (g := pB) m_107 rfl rfl ts_o34 rfl rfl e2 rfl ?_)))
          refine tr_cv (pc' := 35) m_107 rfl rfl rfl m_108 rfl rfl rfl rfl (tr_rcv ts_o34 rfl) rfl rfl (cH_doStep_ok r1 _ _ (Ok_b h)) (fun s8 h => ?_)
          refine ev_iinc (pc' := 38) (z := 1) m_107 rfl rfl rfl rfl rfl rfl (ev_goto (pc' := 52) m_107 rfl rfl (ev_iinc (pc' := 55) (z := 1) m_107 rfl rfl rfl rfl rfl rfl (ev_goto (pc' := 4) m_107 rfl rfl ?_)))
          exact am_Ev.sub (L := [(0, .ref 34), (1, .int (l1)), (2, .int (l2 + (1 : Int32))), (3, .int (l3 + (1 : Int32)))]) ⟨rfl, rfl, rfl, rfl, trivial⟩ (ih l1 (l2 + (1 : Int32)) (l3 + (1 : Int32)) _ _ h)
def cH_doSteps (l1 : Int32) (s : ts) : Option (Int32 × ts) := cH_doSteps_4 tm_N l1 ((0 : Int32)) ((0 : Int32)) s
set_option maxRecDepth 20000 in
theorem cH_doSteps_ok {d : Nat} (l1 : Int32) (s : ts) (Q : Int32 × ts → Prop) (h : Ok (cH_doSteps l1 s) Q) : am_Ev (d + 8) 107 (0, [(0, .ref 34), (1, .int (l1))], []) (lay s) (tq_i Q) := by
  unfold cH_doSteps at h
  refine ev_iconst (pc' := 1) (x := 0) m_107 rfl rfl rfl (ev_istore_n (pc' := 2) m_107 rfl rfl rfl rfl (ev_iconst (pc' := 3) (x := 0) m_107 rfl rfl rfl (ev_istore_n (pc' := 4) m_107 rfl rfl rfl rfl ?_)))
  exact am_Ev.sub (L := [(0, .ref 34), (1, .int (l1)), (2, .int ((0 : Int32))), (3, .int ((0 : Int32)))]) ⟨rfl, rfl, rfl, rfl, trivial⟩ (cH_doSteps_4_ok tm_N l1 ((0 : Int32)) ((0 : Int32)) _ _ h)
def cX_run (l1 : Int32) (s : ts) : Option (Int32 × ts) := (if (gI s 6 0) = ((0 : Int32)) then some ((-1 : Int32), s) else (cX_isStepCount l1 s).bind (fun x3 => (if x3.1 = ((0 : Int32)) then some ((-1 : Int32), x3.2) else (cH_doSteps l1 x3.2).bind (fun x6 => some (x6.1, x6.2)))))
set_option maxRecDepth 20000 in
theorem cX_run_ok {d : Nat} (l1 : Int32) (s : ts) (Q : Int32 × ts → Prop) (h : Ok (cX_run l1 s) Q) : am_Ev (d + 9) 105 (0, [(0, .ref 5), (1, .int (l1))], []) (lay s) (tq_i Q) := by
  unfold cX_run at h
  refine ev_aload_n (pc' := 1) m_105 rfl rfl rfl (tr_get (pc' := 4) (v := .int (gI _ 6 _)) m_105 rfl rfl ts_o5 rfl rfl rfl ?_)
  refine ev_if_eq (t := 25) (e := 7) m_105 rfl rfl rfl (fun c8 => ?_) (fun c8 => ?_)
  · replace h := Ok_t c8 h
    refine ev_iconst (pc' := 26) (x := -1) m_105 rfl rfl rfl ?_
    exact tr_ri m_105 rfl rfl (Ok_s h)
  · replace h := Ok_f c8 h
    refine ev_iload_n (pc' := 8) m_105 rfl rfl rfl ?_
    refine tr_cz (pc' := 11) m_105 rfl rfl rfl m_106 rfl rfl rfl rfl rfl rfl rfl rfl (cX_isStepCount_ok l1 _ _ (Ok_b h)) (fun x3_ x3_s h1 h => ?_)
    refine ev_if_eq (t := 25) (e := 14) m_105 rfl rfl rfl (fun c7 => ?_) (fun c7 => ?_)
    · replace h := Ok_t c7 h
      refine ev_iconst (pc' := 26) (x := -1) m_105 rfl rfl rfl ?_
      exact tr_ri m_105 rfl rfl (Ok_s h)
    · replace h := Ok_f c7 h
      refine ev_aload_n (pc' := 15) m_105 rfl rfl rfl (tr_get (pc' := 18) (v := .ref 34) m_105 rfl rfl ts_o5 rfl rfl rfl (ev_iload_n (pc' := 19) m_105 rfl rfl rfl ?_))
      refine tr_ci (pc' := 22) m_105 rfl rfl rfl m_107 rfl rfl rfl rfl (tr_rcv ts_o34 rfl) rfl rfl (cH_doSteps_ok l1 _ _ (Ok_b h)) (fun x6_ x6_s h => ?_)
      refine ev_goto (pc' := 26) m_105 rfl rfl ?_
      exact tr_ri m_105 rfl rfl (Ok_s h)
