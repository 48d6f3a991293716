/-! THE METHODS AS FUNCTIONS, printed by wip/tools/decomp.py; the machine does what they say. -/
def cL_law_18_b (kk : Int32 → ts → Option (Int32 × ts)) (l3 : Int32) (s : ts) : Option (Int32 × ts) := (if gSok s = true then (if ((Int32.ofNat (gSn s)) - ((6 : Int32))) < l3 then some ((1 : Int32), s) else (if am_idx l3 (gSn s) = true then (if ((gS s l3.toNatClampNeg) &&& ((15 : Int32))) = (0 : Int32) then (if am_idx (l3 + ((1 : Int32))) (gSn s) = true then (if am_idx (l3 + ((2 : Int32))) (gSn s) = true then (if am_idx (l3 + ((3 : Int32))) (gSn s) = true then (if am_idx (l3 + ((4 : Int32))) (gSn s) = true then (if am_idx (l3 + ((5 : Int32))) (gSn s) = true then (cX_feed (gS s (l3 + ((1 : Int32))).toNatClampNeg) (gS s (l3 + ((2 : Int32))).toNatClampNeg) (gS s (l3 + ((3 : Int32))).toNatClampNeg) (gS s (l3 + ((4 : Int32))).toNatClampNeg) (gS s (l3 + ((5 : Int32))).toNatClampNeg) s).bind (fun x10 => (if gSok x10.2 = true then (if am_idx (l3 + ((1 : Int32))) (gSn x10.2) = true then (if am_idx (l3 + ((2 : Int32))) (gSn x10.2) = true then (if am_idx (l3 + ((3 : Int32))) (gSn x10.2) = true then (if am_idx (l3 + ((4 : Int32))) (gSn x10.2) = true then (if am_idx (l3 + ((5 : Int32))) (gSn x10.2) = true then (cR_feed (gS x10.2 (l3 + ((1 : Int32))).toNatClampNeg) (gS x10.2 (l3 + ((2 : Int32))).toNatClampNeg) (gS x10.2 (l3 + ((3 : Int32))).toNatClampNeg) (gS x10.2 (l3 + ((4 : Int32))).toNatClampNeg) (gS x10.2 (l3 + ((5 : Int32))).toNatClampNeg) x10.2).bind (fun x19 => (if x10.1 = x19.1 then kk (l3 + (6 : Int32)) x19.2 else some ((0 : Int32), x19.2))) else none) else none) else none) else none) else none) else none)) else none) else none) else none) else none) else none) else (if ((gS s l3.toNatClampNeg) &&& ((15 : Int32))) = (1 : Int32) then (if am_idx (l3 + ((1 : Int32))) (gSn s) = true then (cX_end (gS s (l3 + ((1 : Int32))).toNatClampNeg) s).bind (fun x25 => (if gSok x25.2 = true then (if am_idx (l3 + ((1 : Int32))) (gSn x25.2) = true then (cR_end (gS x25.2 (l3 + ((1 : Int32))).toNatClampNeg) x25.2).bind (fun x30 => (if x25.1 = x30.1 then kk (l3 + (6 : Int32)) x30.2 else some ((0 : Int32), x30.2))) else none) else none)) else none) else (if ((gS s l3.toNatClampNeg) &&& ((15 : Int32))) = (2 : Int32) then (cX_load s).bind (fun x35 => (cR_load x35.2).bind (fun x38 => (if x35.1 = x38.1 then kk (l3 + (6 : Int32)) x38.2 else some ((0 : Int32), x38.2)))) else (if ((gS s l3.toNatClampNeg) &&& ((15 : Int32))) = (3 : Int32) then (if am_idx (l3 + ((1 : Int32))) (gSn s) = true then (cX_seed (gS s (l3 + ((1 : Int32))).toNatClampNeg) s).bind (fun x44 => (if gSok x44.2 = true then (if am_idx (l3 + ((1 : Int32))) (gSn x44.2) = true then (cR_seed (gS x44.2 (l3 + ((1 : Int32))).toNatClampNeg) x44.2).bind (fun x49 => (if x44.1 = x49.1 then kk (l3 + (6 : Int32)) x49.2 else some ((0 : Int32), x49.2))) else none) else none)) else none) else (if ((gS s l3.toNatClampNeg) &&& ((15 : Int32))) = (4 : Int32) then (if am_idx (l3 + ((1 : Int32))) (gSn s) = true then (if am_idx (l3 + ((2 : Int32))) (gSn s) = true then (if am_idx (l3 + ((3 : Int32))) (gSn s) = true then (if am_idx (l3 + ((4 : Int32))) (gSn s) = true then (if am_idx (l3 + ((5 : Int32))) (gSn s) = true then (cX_start (gS s (l3 + ((1 : Int32))).toNatClampNeg) (gS s (l3 + ((2 : Int32))).toNatClampNeg) (gS s (l3 + ((3 : Int32))).toNatClampNeg) (gS s (l3 + ((4 : Int32))).toNatClampNeg) (gS s (l3 + ((5 : Int32))).toNatClampNeg) s).bind (fun x59 => (if gSok x59.2 = true then (if am_idx (l3 + ((1 : Int32))) (gSn x59.2) = true then (if am_idx (l3 + ((2 : Int32))) (gSn x59.2) = true then (if am_idx (l3 + ((3 : Int32))) (gSn x59.2) = true then (if am_idx (l3 + ((4 : Int32))) (gSn x59.2) = true then (if am_idx (l3 + ((5 : Int32))) (gSn x59.2) = true then (cR_start (gS x59.2 (l3 + ((1 : Int32))).toNatClampNeg) (gS x59.2 (l3 + ((2 : Int32))).toNatClampNeg) (gS x59.2 (l3 + ((3 : Int32))).toNatClampNeg) (gS x59.2 (l3 + ((4 : Int32))).toNatClampNeg) (gS x59.2 (l3 + ((5 : Int32))).toNatClampNeg) x59.2).bind (fun x68 => (if x59.1 = x68.1 then kk (l3 + (6 : Int32)) x68.2 else some ((0 : Int32), x68.2))) else none) else none) else none) else none) else none) else none)) else none) else none) else none) else none) else none) else (if ((gS s l3.toNatClampNeg) &&& ((15 : Int32))) = (5 : Int32) then (if am_idx (l3 + ((1 : Int32))) (gSn s) = true then (cX_run (gS s (l3 + ((1 : Int32))).toNatClampNeg) s).bind (fun x74 => (if gSok x74.2 = true then (if am_idx (l3 + ((1 : Int32))) (gSn x74.2) = true then (cR_run (gS x74.2 (l3 + ((1 : Int32))).toNatClampNeg) x74.2).bind (fun x79 => (if x74.1 = x79.1 then kk (l3 + (6 : Int32)) x79.2 else some ((0 : Int32), x79.2))) else none) else none)) else none) else (if ((gS s l3.toNatClampNeg) &&& ((15 : Int32))) = (6 : Int32) then (if am_idx (l3 + ((1 : Int32))) (gSn s) = true then (cX_turn (gS s (l3 + ((1 : Int32))).toNatClampNeg) s).bind (fun x85 => (if gSok x85.2 = true then (if am_idx (l3 + ((1 : Int32))) (gSn x85.2) = true then (cR_turn (gS x85.2 (l3 + ((1 : Int32))).toNatClampNeg) x85.2).bind (fun x90 => (if x85.1 = x90.1 then kk (l3 + (6 : Int32)) x90.2 else some ((0 : Int32), x90.2))) else none) else none)) else none) else (if ((gS s l3.toNatClampNeg) &&& ((15 : Int32))) = (7 : Int32) then (if am_idx (l3 + ((1 : Int32))) (gSn s) = true then (cX_state (gS s (l3 + ((1 : Int32))).toNatClampNeg) s).bind (fun x96 => (if gSok x96.2 = true then (if am_idx (l3 + ((1 : Int32))) (gSn x96.2) = true then (cR_state (gS x96.2 (l3 + ((1 : Int32))).toNatClampNeg) x96.2).bind (fun x101 => (if x96.1 = x101.1 then kk (l3 + (6 : Int32)) x101.2 else some ((0 : Int32), x101.2))) else none) else none)) else none) else (if ((gS s l3.toNatClampNeg) &&& ((15 : Int32))) = (8 : Int32) then (if am_idx (l3 + ((1 : Int32))) (gSn s) = true then (cX_number (gS s (l3 + ((1 : Int32))).toNatClampNeg) s).bind (fun x107 => (if gSok x107.2 = true then (if am_idx (l3 + ((1 : Int32))) (gSn x107.2) = true then (cR_number (gS x107.2 (l3 + ((1 : Int32))).toNatClampNeg) x107.2).bind (fun x112 => (if x107.1 = x112.1 then kk (l3 + (6 : Int32)) x112.2 else some ((0 : Int32), x112.2))) else none) else none)) else none) else (if ((gS s l3.toNatClampNeg) &&& ((15 : Int32))) = (9 : Int32) then (if am_idx (l3 + ((1 : Int32))) (gSn s) = true then (if am_idx (l3 + ((2 : Int32))) (gSn s) = true then (cX_process (gS s (l3 + ((1 : Int32))).toNatClampNeg) (gS s (l3 + ((2 : Int32))).toNatClampNeg) s).bind (fun x119 => (if gSok x119.2 = true then (if am_idx (l3 + ((1 : Int32))) (gSn x119.2) = true then (if am_idx (l3 + ((2 : Int32))) (gSn x119.2) = true then (cR_process (gS x119.2 (l3 + ((1 : Int32))).toNatClampNeg) (gS x119.2 (l3 + ((2 : Int32))).toNatClampNeg) x119.2).bind (fun x125 => (if x119.1 = x125.1 then kk (l3 + (6 : Int32)) x125.2 else some ((0 : Int32), x125.2))) else none) else none) else none)) else none) else none) else (if ((gS s l3.toNatClampNeg) &&& ((15 : Int32))) = (10 : Int32) then (if am_idx (l3 + ((1 : Int32))) (gSn s) = true then (if am_idx (l3 + ((2 : Int32))) (gSn s) = true then (cX_place (gS s (l3 + ((1 : Int32))).toNatClampNeg) (gS s (l3 + ((2 : Int32))).toNatClampNeg) s).bind (fun x132 => (if gSok x132.2 = true then (if am_idx (l3 + ((1 : Int32))) (gSn x132.2) = true then (if am_idx (l3 + ((2 : Int32))) (gSn x132.2) = true then (cR_place (gS x132.2 (l3 + ((1 : Int32))).toNatClampNeg) (gS x132.2 (l3 + ((2 : Int32))).toNatClampNeg) x132.2).bind (fun x138 => (if x132.1 = x138.1 then kk (l3 + (6 : Int32)) x138.2 else some ((0 : Int32), x138.2))) else none) else none) else none)) else none) else none) else (if ((gS s l3.toNatClampNeg) &&& ((15 : Int32))) = (11 : Int32) then (if am_idx (l3 + ((1 : Int32))) (gSn s) = true then (if am_idx (l3 + ((2 : Int32))) (gSn s) = true then (cX_sum (gS s (l3 + ((1 : Int32))).toNatClampNeg) (gS s (l3 + ((2 : Int32))).toNatClampNeg) s).bind (fun x145 => (if gSok x145.2 = true then (if am_idx (l3 + ((1 : Int32))) (gSn x145.2) = true then (if am_idx (l3 + ((2 : Int32))) (gSn x145.2) = true then (cR_sum (gS x145.2 (l3 + ((1 : Int32))).toNatClampNeg) (gS x145.2 (l3 + ((2 : Int32))).toNatClampNeg) x145.2).bind (fun x151 => (if (lg_cmp x145.1 x151.1) = ((0 : Int32)) then kk (l3 + (6 : Int32)) x151.2 else some ((0 : Int32), x151.2))) else none) else none) else none)) else none) else none) else (if ((gS s l3.toNatClampNeg) &&& ((15 : Int32))) = (12 : Int32) then (if am_idx (l3 + ((1 : Int32))) (gSn s) = true then (if am_idx (l3 + ((2 : Int32))) (gSn s) = true then (cX_trace (gS s (l3 + ((1 : Int32))).toNatClampNeg) (gS s (l3 + ((2 : Int32))).toNatClampNeg) s).bind (fun x158 => (if gSok x158.2 = true then (if am_idx (l3 + ((1 : Int32))) (gSn x158.2) = true then (if am_idx (l3 + ((2 : Int32))) (gSn x158.2) = true then (cR_trace (gS x158.2 (l3 + ((1 : Int32))).toNatClampNeg) (gS x158.2 (l3 + ((2 : Int32))).toNatClampNeg) x158.2).bind (fun x164 => (if x158.1 = x164.1 then kk (l3 + (6 : Int32)) x164.2 else some ((0 : Int32), x164.2))) else none) else none) else none)) else none) else none) else kk (l3 + (6 : Int32)) s))))))))))))) else none)) else none)
def cL_law_18 : Nat → Int32 → ts → Option (Int32 × ts)
  | 0, _, _ => none
  | n + 1, l3, s => cL_law_18_b (cL_law_18 n) l3 s
set_option maxRecDepth 20000 in
theorem cL_law_18_ok {d : Nat} : ∀ (n : Nat) (l3 : Int32) (s : ts) (Q : Int32 × ts → Prop), Ok (cL_law_18 n l3 s) Q → am_Ev (d + 266) 0 (18, [(0, .ref 0), (1, .ref 5), (2, .ref 87), (3, .int (l3))], []) (lay s) (tq_i Q) := by
  intro n
  induction n with
  | zero => intro l3 s Q h; exact Ok_n h
  | succ n ih =>
    intro l3 s Q h
    rw [cL_law_18.eq_2] at h
    unfold cL_law_18_b at h
    refine ev_iload_n (pc' := 19) m_0 rfl rfl rfl (ev_aload_n (pc' := 20) m_0 rfl rfl rfl ?_)
    obtain ⟨g1, h⟩ := Ok_g h
    refine tr_slen (pc' := 21) m_0 rfl g1 rfl ?_
    refine ev_bipush (pc' := 23) (x := 6) m_0 rfl rfl rfl (ev_isub (pc' := 24) m_0 rfl rfl ?_)
    refine ev_icmp_gt (t := 516) (e := 27) m_0 rfl rfl rfl (fun c167 => ?_) (fun c167 => ?_)
    · replace h := Ok_t c167 h
      refine ev_iconst (pc' := 517) (x := 1) m_0 rfl rfl rfl ?_
      exact tr_rz m_0 rfl rfl (Or.inr rfl) (Ok_s h)
    · replace h := Ok_f c167 h
      refine ev_aload_n (pc' := 28) m_0 rfl rfl rfl (ev_iload_n (pc' := 29) m_0 rfl rfl rfl ?_)
      obtain ⟨g2, h⟩ := Ok_g h
      refine tr_sld (pc' := 30) m_0 rfl g1 g2 rfl ?_
      refine ev_bipush (pc' := 32) (x := 15) m_0 rfl rfl rfl (ev_iand (pc' := 33) m_0 rfl rfl ?_)
      by_cases c21 : ((gS s l3.toNatClampNeg) &&& ((15 : Int32))) = (0 : Int32)
      · replace h := Ok_t c21 h
        refine ev_sw (pc' := 100) m_0 rfl (by rw [c21]; rfl) ?_
        refine ev_aload_n (pc' := 101) m_0 rfl rfl rfl (ev_aload_n (pc' := 102) m_0 rfl rfl rfl (ev_iload_n (pc' := 103) m_0 rfl rfl rfl (ev_iconst (pc' := 104) (x := 1) m_0 rfl rfl rfl (ev_iadd (pc' := 105) m_0 rfl rfl ?_))))
        obtain ⟨g3, h⟩ := Ok_g h
        refine tr_sld (pc' := 106) m_0 rfl g1 g3 rfl ?_
        refine ev_aload_n (pc' := 107) m_0 rfl rfl rfl (ev_iload_n (pc' := 108) m_0 rfl rfl rfl (ev_iconst (pc' := 109) (x := 2) m_0 rfl rfl rfl (ev_iadd (pc' := 110) m_0 rfl rfl ?_)))
        obtain ⟨g4, h⟩ := Ok_g h
        refine tr_sld (pc' := 111) m_0 rfl g1 g4 rfl ?_
        refine ev_aload_n (pc' := 112) m_0 rfl rfl rfl (ev_iload_n (pc' := 113) m_0 rfl rfl rfl (ev_iconst (pc' := 114) (x := 3) m_0 rfl rfl rfl (ev_iadd (pc' := 115) m_0 rfl rfl ?_)))
        obtain ⟨g5, h⟩ := Ok_g h
        refine tr_sld (pc' := 116) m_0 rfl g1 g5 rfl ?_
        refine ev_aload_n (pc' := 117) m_0 rfl rfl rfl (ev_iload_n (pc' := 118) m_0 rfl rfl rfl (ev_iconst (pc' := 119) (x := 4) m_0 rfl rfl rfl (ev_iadd (pc' := 120) m_0 rfl rfl ?_)))
        obtain ⟨g6, h⟩ := Ok_g h
        refine tr_sld (pc' := 121) m_0 rfl g1 g6 rfl ?_
        refine ev_aload_n (pc' := 122) m_0 rfl rfl rfl (ev_iload_n (pc' := 123) m_0 rfl rfl rfl (ev_iconst (pc' := 124) (x := 5) m_0 rfl rfl rfl (ev_iadd (pc' := 125) m_0 rfl rfl ?_)))
        obtain ⟨g7, h⟩ := Ok_g h
        refine tr_sld (pc' := 126) m_0 rfl g1 g7 rfl ?_
        refine tr_ci (pc' := 129) m_0 rfl rfl rfl m_18 rfl rfl rfl rfl (tr_rcv ts_o5 rfl) rfl rfl (cX_feed_ok (gS s (l3 + ((1 : Int32))).toNatClampNeg) (gS s (l3 + ((2 : Int32))).toNatClampNeg) (gS s (l3 + ((3 : Int32))).toNatClampNeg) (gS s (l3 + ((4 : Int32))).toNatClampNeg) (gS s (l3 + ((5 : Int32))).toNatClampNeg) _ _ (Ok_b h)) (fun x10_ x10_s h => ?_)
        refine ev_aload_n (pc' := 130) m_0 rfl rfl rfl (ev_aload_n (pc' := 131) m_0 rfl rfl rfl (ev_iload_n (pc' := 132) m_0 rfl rfl rfl (ev_iconst (pc' := 133) (x := 1) m_0 rfl rfl rfl (ev_iadd (pc' := 134) m_0 rfl rfl ?_))))
        obtain ⟨g11, h⟩ := Ok_g h
        obtain ⟨g12, h⟩ := Ok_g h
        refine tr_sld (pc' := 135) m_0 rfl g11 g12 rfl ?_
        refine ev_aload_n (pc' := 136) m_0 rfl rfl rfl (ev_iload_n (pc' := 137) m_0 rfl rfl rfl (ev_iconst (pc' := 138) (x := 2) m_0 rfl rfl rfl (ev_iadd (pc' := 139) m_0 rfl rfl ?_)))
        obtain ⟨g13, h⟩ := Ok_g h
        refine tr_sld (pc' := 140) m_0 rfl g11 g13 rfl ?_
        refine ev_aload_n (pc' := 141) m_0 rfl rfl rfl (ev_iload_n (pc' := 142) m_0 rfl rfl rfl (ev_iconst (pc' := 143) (x := 3) m_0 rfl rfl rfl (ev_iadd (pc' := 144) m_0 rfl rfl ?_)))
        obtain ⟨g14, h⟩ := Ok_g h
        refine tr_sld (pc' := 145) m_0 rfl g11 g14 rfl ?_
        refine ev_aload_n (pc' := 146) m_0 rfl rfl rfl (ev_iload_n (pc' := 147) m_0 rfl rfl rfl (ev_iconst (pc' := 148) (x := 4) m_0 rfl rfl rfl (ev_iadd (pc' := 149) m_0 rfl rfl ?_)))
        obtain ⟨g15, h⟩ := Ok_g h
        refine tr_sld (pc' := 150) m_0 rfl g11 g15 rfl ?_
        refine ev_aload_n (pc' := 151) m_0 rfl rfl rfl (ev_iload_n (pc' := 152) m_0 rfl rfl rfl (ev_iconst (pc' := 153) (x := 5) m_0 rfl rfl rfl (ev_iadd (pc' := 154) m_0 rfl rfl ?_)))
        obtain ⟨g16, h⟩ := Ok_g h
        refine tr_sld (pc' := 155) m_0 rfl g11 g16 rfl ?_
        refine tr_ci (pc' := 158) m_0 rfl rfl rfl m_173 rfl rfl rfl rfl (tr_rcv ts_o87 rfl) rfl rfl (cR_feed_ok (gS x10_s (l3 + ((1 : Int32))).toNatClampNeg) (gS x10_s (l3 + ((2 : Int32))).toNatClampNeg) (gS x10_s (l3 + ((3 : Int32))).toNatClampNeg) (gS x10_s (l3 + ((4 : Int32))).toNatClampNeg) (gS x10_s (l3 + ((5 : Int32))).toNatClampNeg) _ _ (Ok_b h)) (fun x19_ x19_s h => ?_)
        refine ev_icmp_eq (t := 510) (e := 161) m_0 rfl rfl rfl (fun c20 => ?_) (fun c20 => ?_)
        · replace h := Ok_t c20 h
          refine ev_iinc (pc' := 513) (z := 6) m_0 rfl rfl rfl rfl rfl rfl (ev_goto (pc' := 18) m_0 rfl rfl ?_)
          exact am_Ev.sub (L := [(0, .ref 0), (1, .ref 5), (2, .ref 87), (3, .int (l3 + (6 : Int32)))]) ⟨rfl, rfl, rfl, rfl, trivial⟩ (ih (l3 + (6 : Int32)) _ _ h)
        · replace h := Ok_f c20 h
          refine ev_iconst (pc' := 162) (x := 0) m_0 rfl rfl rfl ?_
          exact tr_rz m_0 rfl rfl (Or.inl rfl) (Ok_s h)
      replace h := Ok_f c21 h
      by_cases c32 : ((gS s l3.toNatClampNeg) &&& ((15 : Int32))) = (1 : Int32)
      · replace h := Ok_t c32 h
        refine ev_sw (pc' := 163) m_0 rfl (by rw [c32]; rfl) ?_
        refine ev_aload_n (pc' := 164) m_0 rfl rfl rfl (ev_aload_n (pc' := 165) m_0 rfl rfl rfl (ev_iload_n (pc' := 166) m_0 rfl rfl rfl (ev_iconst (pc' := 167) (x := 1) m_0 rfl rfl rfl (ev_iadd (pc' := 168) m_0 rfl rfl ?_))))
        obtain ⟨g22, h⟩ := Ok_g h
        refine tr_sld (pc' := 169) m_0 rfl g1 g22 rfl ?_
        refine tr_ci (pc' := 172) m_0 rfl rfl rfl m_20 rfl rfl rfl rfl (tr_rcv ts_o5 rfl) rfl rfl (cX_end_ok (gS s (l3 + ((1 : Int32))).toNatClampNeg) _ _ (Ok_b h)) (fun x25_ x25_s h => ?_)
        refine ev_aload_n (pc' := 173) m_0 rfl rfl rfl (ev_aload_n (pc' := 174) m_0 rfl rfl rfl (ev_iload_n (pc' := 175) m_0 rfl rfl rfl (ev_iconst (pc' := 176) (x := 1) m_0 rfl rfl rfl (ev_iadd (pc' := 177) m_0 rfl rfl ?_))))
        obtain ⟨g26, h⟩ := Ok_g h
        obtain ⟨g27, h⟩ := Ok_g h
        refine tr_sld (pc' := 178) m_0 rfl g26 g27 rfl ?_
        refine tr_ci (pc' := 181) m_0 rfl rfl rfl m_174 rfl rfl rfl rfl (tr_rcv ts_o87 rfl) rfl rfl (cR_end_ok (gS x25_s (l3 + ((1 : Int32))).toNatClampNeg) _ _ (Ok_b h)) (fun x30_ x30_s h => ?_)
        refine ev_icmp_eq (t := 510) (e := 184) m_0 rfl rfl rfl (fun c31 => ?_) (fun c31 => ?_)
        · replace h := Ok_t c31 h
          refine ev_iinc (pc' := 513) (z := 6) m_0 rfl rfl rfl rfl rfl rfl (ev_goto (pc' := 18) m_0 rfl rfl ?_)
          exact am_Ev.sub (L := [(0, .ref 0), (1, .ref 5), (2, .ref 87), (3, .int (l3 + (6 : Int32)))]) ⟨rfl, rfl, rfl, rfl, trivial⟩ (ih (l3 + (6 : Int32)) _ _ h)
        · replace h := Ok_f c31 h
          refine ev_iconst (pc' := 185) (x := 0) m_0 rfl rfl rfl ?_
          exact tr_rz m_0 rfl rfl (Or.inl rfl) (Ok_s h)
      replace h := Ok_f c32 h
      by_cases c40 : ((gS s l3.toNatClampNeg) &&& ((15 : Int32))) = (2 : Int32)
      · replace h := Ok_t c40 h
        refine ev_sw (pc' := 186) m_0 rfl (by rw [c40]; rfl) ?_
        refine ev_aload_n (pc' := 187) m_0 rfl rfl rfl ?_
        refine tr_ci (pc' := 190) m_0 rfl rfl rfl m_21 rfl rfl rfl rfl (tr_rcv ts_o5 rfl) rfl rfl (cX_load_ok _ _ (Ok_b h)) (fun x35_ x35_s h => ?_)
        refine ev_aload_n (pc' := 191) m_0 rfl rfl rfl ?_
        refine tr_ci (pc' := 194) m_0 rfl rfl rfl m_175 rfl rfl rfl rfl (tr_rcv ts_o87 rfl) rfl rfl (cR_load_ok _ _ (Ok_b h)) (fun x38_ x38_s h => ?_)
        refine ev_icmp_eq (t := 510) (e := 197) m_0 rfl rfl rfl (fun c39 => ?_) (fun c39 => ?_)
        · replace h := Ok_t c39 h
          refine ev_iinc (pc' := 513) (z := 6) m_0 rfl rfl rfl rfl rfl rfl (ev_goto (pc' := 18) m_0 rfl rfl ?_)
          exact am_Ev.sub (L := [(0, .ref 0), (1, .ref 5), (2, .ref 87), (3, .int (l3 + (6 : Int32)))]) ⟨rfl, rfl, rfl, rfl, trivial⟩ (ih (l3 + (6 : Int32)) _ _ h)
        · replace h := Ok_f c39 h
          refine ev_iconst (pc' := 198) (x := 0) m_0 rfl rfl rfl ?_
          exact tr_rz m_0 rfl rfl (Or.inl rfl) (Ok_s h)
      replace h := Ok_f c40 h
      by_cases c51 : ((gS s l3.toNatClampNeg) &&& ((15 : Int32))) = (3 : Int32)
      · replace h := Ok_t c51 h
        refine ev_sw (pc' := 199) m_0 rfl (by rw [c51]; rfl) ?_
        refine ev_aload_n (pc' := 200) m_0 rfl rfl rfl (ev_aload_n (pc' := 201) m_0 rfl rfl rfl (ev_iload_n (pc' := 202) m_0 rfl rfl rfl (ev_iconst (pc' := 203) (x := 1) m_0 rfl rfl rfl (ev_iadd (pc' := 204) m_0 rfl rfl ?_))))
        obtain ⟨g41, h⟩ := Ok_g h
        refine tr_sld (pc' := 205) m_0 rfl g1 g41 rfl ?_
        refine tr_ci (pc' := 208) m_0 rfl rfl rfl m_92 rfl rfl rfl rfl (tr_rcv ts_o5 rfl) rfl rfl (cX_seed_ok (gS s (l3 + ((1 : Int32))).toNatClampNeg) _ _ (Ok_b h)) (fun x44_ x44_s h => ?_)
        refine ev_aload_n (pc' := 209) m_0 rfl rfl rfl (ev_aload_n (pc' := 210) m_0 rfl rfl rfl (ev_iload_n (pc' := 211) m_0 rfl rfl rfl (ev_iconst (pc' := 212) (x := 1) m_0 rfl rfl rfl (ev_iadd (pc' := 213) m_0 rfl rfl ?_))))
        obtain ⟨g45, h⟩ := Ok_g h
        obtain ⟨g46, h⟩ := Ok_g h
        refine tr_sld (pc' := 214) m_0 rfl g45 g46 rfl ?_
        refine tr_ci (pc' := 217) m_0 rfl rfl rfl m_218 rfl rfl rfl rfl (tr_rcv ts_o87 rfl) rfl rfl (cR_seed_ok (gS x44_s (l3 + ((1 : Int32))).toNatClampNeg) _ _ (Ok_b h)) (fun x49_ x49_s h => ?_)
        refine ev_icmp_eq (t := 510) (e := 220) m_0 rfl rfl rfl (fun c50 => ?_) (fun c50 => ?_)
        · replace h := Ok_t c50 h
          refine ev_iinc (pc' := 513) (z := 6) m_0 rfl rfl rfl rfl rfl rfl (ev_goto (pc' := 18) m_0 rfl rfl ?_)
          exact am_Ev.sub (L := [(0, .ref 0), (1, .ref 5), (2, .ref 87), (3, .int (l3 + (6 : Int32)))]) ⟨rfl, rfl, rfl, rfl, trivial⟩ (ih (l3 + (6 : Int32)) _ _ h)
        · replace h := Ok_f c50 h
          refine ev_iconst (pc' := 221) (x := 0) m_0 rfl rfl rfl ?_
          exact tr_rz m_0 rfl rfl (Or.inl rfl) (Ok_s h)
      replace h := Ok_f c51 h
      by_cases c70 : ((gS s l3.toNatClampNeg) &&& ((15 : Int32))) = (4 : Int32)
      · replace h := Ok_t c70 h
        refine ev_sw (pc' := 222) m_0 rfl (by rw [c70]; rfl) ?_
        refine ev_aload_n (pc' := 223) m_0 rfl rfl rfl (ev_aload_n (pc' := 224) m_0 rfl rfl rfl (ev_iload_n (pc' := 225) m_0 rfl rfl rfl (ev_iconst (pc' := 226) (x := 1) m_0 rfl rfl rfl (ev_iadd (pc' := 227) m_0 rfl rfl ?_))))
        obtain ⟨g52, h⟩ := Ok_g h
        refine tr_sld (pc' := 228) m_0 rfl g1 g52 rfl ?_
        refine ev_aload_n (pc' := 229) m_0 rfl rfl rfl (ev_iload_n (pc' := 230) m_0 rfl rfl rfl (ev_iconst (pc' := 231) (x := 2) m_0 rfl rfl rfl (ev_iadd (pc' := 232) m_0 rfl rfl ?_)))
        obtain ⟨g53, h⟩ := Ok_g h
        refine tr_sld (pc' := 233) m_0 rfl g1 g53 rfl ?_
        refine ev_aload_n (pc' := 234) m_0 rfl rfl rfl (ev_iload_n (pc' := 235) m_0 rfl rfl rfl (ev_iconst (pc' := 236) (x := 3) m_0 rfl rfl rfl (ev_iadd (pc' := 237) m_0 rfl rfl ?_)))
        obtain ⟨g54, h⟩ := Ok_g h
        refine tr_sld (pc' := 238) m_0 rfl g1 g54 rfl ?_
        refine ev_aload_n (pc' := 239) m_0 rfl rfl rfl (ev_iload_n (pc' := 240) m_0 rfl rfl rfl (ev_iconst (pc' := 241) (x := 4) m_0 rfl rfl rfl (ev_iadd (pc' := 242) m_0 rfl rfl ?_)))
        obtain ⟨g55, h⟩ := Ok_g h
        refine tr_sld (pc' := 243) m_0 rfl g1 g55 rfl ?_
        refine ev_aload_n (pc' := 244) m_0 rfl rfl rfl (ev_iload_n (pc' := 245) m_0 rfl rfl rfl (ev_iconst (pc' := 246) (x := 5) m_0 rfl rfl rfl (ev_iadd (pc' := 247) m_0 rfl rfl ?_)))
        obtain ⟨g56, h⟩ := Ok_g h
        refine tr_sld (pc' := 248) m_0 rfl g1 g56 rfl ?_
        refine tr_ci (pc' := 251) m_0 rfl rfl rfl m_94 rfl rfl rfl rfl (tr_rcv ts_o5 rfl) rfl rfl (cX_start_ok (gS s (l3 + ((1 : Int32))).toNatClampNeg) (gS s (l3 + ((2 : Int32))).toNatClampNeg) (gS s (l3 + ((3 : Int32))).toNatClampNeg) (gS s (l3 + ((4 : Int32))).toNatClampNeg) (gS s (l3 + ((5 : Int32))).toNatClampNeg) _ _ (Ok_b h)) (fun x59_ x59_s h => ?_)
        refine ev_aload_n (pc' := 252) m_0 rfl rfl rfl (ev_aload_n (pc' := 253) m_0 rfl rfl rfl (ev_iload_n (pc' := 254) m_0 rfl rfl rfl (ev_iconst (pc' := 255) (x := 1) m_0 rfl rfl rfl (ev_iadd (pc' := 256) m_0 rfl rfl ?_))))
        obtain ⟨g60, h⟩ := Ok_g h
        obtain ⟨g61, h⟩ := Ok_g h
        refine tr_sld (pc' := 257) m_0 rfl g60 g61 rfl ?_
        refine ev_aload_n (pc' := 258) m_0 rfl rfl rfl (ev_iload_n (pc' := 259) m_0 rfl rfl rfl (ev_iconst (pc' := 260) (x := 2) m_0 rfl rfl rfl (ev_iadd (pc' := 261) m_0 rfl rfl ?_)))
        obtain ⟨g62, h⟩ := Ok_g h
        refine tr_sld (pc' := 262) m_0 rfl g60 g62 rfl ?_
        refine ev_aload_n (pc' := 263) m_0 rfl rfl rfl (ev_iload_n (pc' := 264) m_0 rfl rfl rfl (ev_iconst (pc' := 265) (x := 3) m_0 rfl rfl rfl (ev_iadd (pc' := 266) m_0 rfl rfl ?_)))
        obtain ⟨g63, h⟩ := Ok_g h
        refine tr_sld (pc' := 267) m_0 rfl g60 g63 rfl ?_
        refine ev_aload_n (pc' := 268) m_0 rfl rfl rfl (ev_iload_n (pc' := 269) m_0 rfl rfl rfl (ev_iconst (pc' := 270) (x := 4) m_0 rfl rfl rfl (ev_iadd (pc' := 271) m_0 rfl rfl ?_)))
        obtain ⟨g64, h⟩ := Ok_g h
        refine tr_sld (pc' := 272) m_0 rfl g60 g64 rfl ?_
        refine ev_aload_n (pc' := 273) m_0 rfl rfl rfl (ev_iload_n (pc' := 274) m_0 rfl rfl rfl (ev_iconst (pc' := 275) (x := 5) m_0 rfl rfl rfl (ev_iadd (pc' := 276) m_0 rfl rfl ?_)))
        obtain ⟨g65, h⟩ := Ok_g h
        refine tr_sld (pc' := 277) m_0 rfl g60 g65 rfl ?_
        refine tr_ci (pc' := 280) m_0 rfl rfl rfl m_219 rfl rfl rfl rfl (tr_rcv ts_o87 rfl) rfl rfl (cR_start_ok (gS x59_s (l3 + ((1 : Int32))).toNatClampNeg) (gS x59_s (l3 + ((2 : Int32))).toNatClampNeg) (gS x59_s (l3 + ((3 : Int32))).toNatClampNeg) (gS x59_s (l3 + ((4 : Int32))).toNatClampNeg) (gS x59_s (l3 + ((5 : Int32))).toNatClampNeg) _ _ (Ok_b h)) (fun x68_ x68_s h => ?_)
        refine ev_icmp_eq (t := 510) (e := 283) m_0 rfl rfl rfl (fun c69 => ?_) (fun c69 => ?_)
        · replace h := Ok_t c69 h
          refine ev_iinc (pc' := 513) (z := 6) m_0 rfl rfl rfl rfl rfl rfl (ev_goto (pc' := 18) m_0 rfl rfl ?_)
          exact am_Ev.sub (L := [(0, .ref 0), (1, .ref 5), (2, .ref 87), (3, .int (l3 + (6 : Int32)))]) ⟨rfl, rfl, rfl, rfl, trivial⟩ (ih (l3 + (6 : Int32)) _ _ h)
        · replace h := Ok_f c69 h
          refine ev_iconst (pc' := 284) (x := 0) m_0 rfl rfl rfl ?_
          exact tr_rz m_0 rfl rfl (Or.inl rfl) (Ok_s h)
      replace h := Ok_f c70 h
      by_cases c81 : ((gS s l3.toNatClampNeg) &&& ((15 : Int32))) = (5 : Int32)
      · replace h := Ok_t c81 h
        refine ev_sw (pc' := 285) m_0 rfl (by rw [c81]; rfl) ?_
        refine ev_aload_n (pc' := 286) m_0 rfl rfl rfl (ev_aload_n (pc' := 287) m_0 rfl rfl rfl (ev_iload_n (pc' := 288) m_0 rfl rfl rfl (ev_iconst (pc' := 289) (x := 1) m_0 rfl rfl rfl (ev_iadd (pc' := 290) m_0 rfl rfl ?_))))
        obtain ⟨g71, h⟩ := Ok_g h
        refine tr_sld (pc' := 291) m_0 rfl g1 g71 rfl ?_
        refine tr_ci (pc' := 294) m_0 rfl rfl rfl m_105 rfl rfl rfl rfl (tr_rcv ts_o5 rfl) rfl rfl (cX_run_ok (gS s (l3 + ((1 : Int32))).toNatClampNeg) _ _ (Ok_b h)) (fun x74_ x74_s h => ?_)
        refine ev_aload_n (pc' := 295) m_0 rfl rfl rfl (ev_aload_n (pc' := 296) m_0 rfl rfl rfl (ev_iload_n (pc' := 297) m_0 rfl rfl rfl (ev_iconst (pc' := 298) (x := 1) m_0 rfl rfl rfl (ev_iadd (pc' := 299) m_0 rfl rfl ?_))))
        obtain ⟨g75, h⟩ := Ok_g h
        obtain ⟨g76, h⟩ := Ok_g h
        refine tr_sld (pc' := 300) m_0 rfl g75 g76 rfl ?_
        refine tr_ci (pc' := 303) m_0 rfl rfl rfl m_222 rfl rfl rfl rfl (tr_rcv ts_o87 rfl) rfl rfl (cR_run_ok (gS x74_s (l3 + ((1 : Int32))).toNatClampNeg) _ _ (Ok_b h)) (fun x79_ x79_s h => ?_)
        refine ev_icmp_eq (t := 510) (e := 306) m_0 rfl rfl rfl (fun c80 => ?_) (fun c80 => ?_)
        · replace h := Ok_t c80 h
          refine ev_iinc (pc' := 513) (z := 6) m_0 rfl rfl rfl rfl rfl rfl (ev_goto (pc' := 18) m_0 rfl rfl ?_)
          exact am_Ev.sub (L := [(0, .ref 0), (1, .ref 5), (2, .ref 87), (3, .int (l3 + (6 : Int32)))]) ⟨rfl, rfl, rfl, rfl, trivial⟩ (ih (l3 + (6 : Int32)) _ _ h)
        · replace h := Ok_f c80 h
          refine ev_iconst (pc' := 307) (x := 0) m_0 rfl rfl rfl ?_
          exact tr_rz m_0 rfl rfl (Or.inl rfl) (Ok_s h)
      replace h := Ok_f c81 h
      by_cases c92 : ((gS s l3.toNatClampNeg) &&& ((15 : Int32))) = (6 : Int32)
      · replace h := Ok_t c92 h
        refine ev_sw (pc' := 308) m_0 rfl (by rw [c92]; rfl) ?_
        refine ev_aload_n (pc' := 309) m_0 rfl rfl rfl (ev_aload_n (pc' := 310) m_0 rfl rfl rfl (ev_iload_n (pc' := 311) m_0 rfl rfl rfl (ev_iconst (pc' := 312) (x := 1) m_0 rfl rfl rfl (ev_iadd (pc' := 313) m_0 rfl rfl ?_))))
        obtain ⟨g82, h⟩ := Ok_g h
        refine tr_sld (pc' := 314) m_0 rfl g1 g82 rfl ?_
        refine tr_ci (pc' := 317) m_0 rfl rfl rfl m_151 rfl rfl rfl rfl (tr_rcv ts_o5 rfl) rfl rfl (cX_turn_ok (gS s (l3 + ((1 : Int32))).toNatClampNeg) _ _ (Ok_b h)) (fun x85_ x85_s h => ?_)
        refine ev_aload_n (pc' := 318) m_0 rfl rfl rfl (ev_aload_n (pc' := 319) m_0 rfl rfl rfl (ev_iload_n (pc' := 320) m_0 rfl rfl rfl (ev_iconst (pc' := 321) (x := 1) m_0 rfl rfl rfl (ev_iadd (pc' := 322) m_0 rfl rfl ?_))))
        obtain ⟨g86, h⟩ := Ok_g h
        obtain ⟨g87, h⟩ := Ok_g h
        refine tr_sld (pc' := 323) m_0 rfl g86 g87 rfl ?_
        refine tr_ci (pc' := 326) m_0 rfl rfl rfl m_249 rfl rfl rfl rfl (tr_rcv ts_o87 rfl) rfl rfl (cR_turn_ok (gS x85_s (l3 + ((1 : Int32))).toNatClampNeg) _ _ (Ok_b h)) (fun x90_ x90_s h => ?_)
        refine ev_icmp_eq (t := 510) (e := 329) m_0 rfl rfl rfl (fun c91 => ?_) (fun c91 => ?_)
        · replace h := Ok_t c91 h
          refine ev_iinc (pc' := 513) (z := 6) m_0 rfl rfl rfl rfl rfl rfl (ev_goto (pc' := 18) m_0 rfl rfl ?_)
          exact am_Ev.sub (L := [(0, .ref 0), (1, .ref 5), (2, .ref 87), (3, .int (l3 + (6 : Int32)))]) ⟨rfl, rfl, rfl, rfl, trivial⟩ (ih (l3 + (6 : Int32)) _ _ h)
        · replace h := Ok_f c91 h
          refine ev_iconst (pc' := 330) (x := 0) m_0 rfl rfl rfl ?_
          exact tr_rz m_0 rfl rfl (Or.inl rfl) (Ok_s h)
      replace h := Ok_f c92 h
      by_cases c103 : ((gS s l3.toNatClampNeg) &&& ((15 : Int32))) = (7 : Int32)
      · replace h := Ok_t c103 h
        refine ev_sw (pc' := 331) m_0 rfl (by rw [c103]; rfl) ?_
        refine ev_aload_n (pc' := 332) m_0 rfl rfl rfl (ev_aload_n (pc' := 333) m_0 rfl rfl rfl (ev_iload_n (pc' := 334) m_0 rfl rfl rfl (ev_iconst (pc' := 335) (x := 1) m_0 rfl rfl rfl (ev_iadd (pc' := 336) m_0 rfl rfl ?_))))
        obtain ⟨g93, h⟩ := Ok_g h
        refine tr_sld (pc' := 337) m_0 rfl g1 g93 rfl ?_
        refine tr_ci (pc' := 340) m_0 rfl rfl rfl m_153 rfl rfl rfl rfl (tr_rcv ts_o5 rfl) rfl rfl (cX_state_ok (gS s (l3 + ((1 : Int32))).toNatClampNeg) _ _ (Ok_b h)) (fun x96_ x96_s h => ?_)
        refine ev_aload_n (pc' := 341) m_0 rfl rfl rfl (ev_aload_n (pc' := 342) m_0 rfl rfl rfl (ev_iload_n (pc' := 343) m_0 rfl rfl rfl (ev_iconst (pc' := 344) (x := 1) m_0 rfl rfl rfl (ev_iadd (pc' := 345) m_0 rfl rfl ?_))))
        obtain ⟨g97, h⟩ := Ok_g h
        obtain ⟨g98, h⟩ := Ok_g h
        refine tr_sld (pc' := 346) m_0 rfl g97 g98 rfl ?_
        refine tr_ci (pc' := 349) m_0 rfl rfl rfl m_250 rfl rfl rfl rfl (tr_rcv ts_o87 rfl) rfl rfl (cR_state_ok (gS x96_s (l3 + ((1 : Int32))).toNatClampNeg) _ _ (Ok_b h)) (fun x101_ x101_s h => ?_)
        refine ev_icmp_eq (t := 510) (e := 352) m_0 rfl rfl rfl (fun c102 => ?_) (fun c102 => ?_)
        · replace h := Ok_t c102 h
          refine ev_iinc (pc' := 513) (z := 6) m_0 rfl rfl rfl rfl rfl rfl (ev_goto (pc' := 18) m_0 rfl rfl ?_)
          exact am_Ev.sub (L := [(0, .ref 0), (1, .ref 5), (2, .ref 87), (3, .int (l3 + (6 : Int32)))]) ⟨rfl, rfl, rfl, rfl, trivial⟩ (ih (l3 + (6 : Int32)) _ _ h)
        · replace h := Ok_f c102 h
          refine ev_iconst (pc' := 353) (x := 0) m_0 rfl rfl rfl ?_
          exact tr_rz m_0 rfl rfl (Or.inl rfl) (Ok_s h)
      replace h := Ok_f c103 h
      by_cases c114 : ((gS s l3.toNatClampNeg) &&& ((15 : Int32))) = (8 : Int32)
      · replace h := Ok_t c114 h
        refine ev_sw (pc' := 354) m_0 rfl (by rw [c114]; rfl) ?_
        refine ev_aload_n (pc' := 355) m_0 rfl rfl rfl (ev_aload_n (pc' := 356) m_0 rfl rfl rfl (ev_iload_n (pc' := 357) m_0 rfl rfl rfl (ev_iconst (pc' := 358) (x := 1) m_0 rfl rfl rfl (ev_iadd (pc' := 359) m_0 rfl rfl ?_))))
        obtain ⟨g104, h⟩ := Ok_g h
        refine tr_sld (pc' := 360) m_0 rfl g1 g104 rfl ?_
        refine tr_ci (pc' := 363) m_0 rfl rfl rfl m_156 rfl rfl rfl rfl (tr_rcv ts_o5 rfl) rfl rfl (cX_number_ok (gS s (l3 + ((1 : Int32))).toNatClampNeg) _ _ (Ok_b h)) (fun x107_ x107_s h => ?_)
        refine ev_aload_n (pc' := 364) m_0 rfl rfl rfl (ev_aload_n (pc' := 365) m_0 rfl rfl rfl (ev_iload_n (pc' := 366) m_0 rfl rfl rfl (ev_iconst (pc' := 367) (x := 1) m_0 rfl rfl rfl (ev_iadd (pc' := 368) m_0 rfl rfl ?_))))
        obtain ⟨g108, h⟩ := Ok_g h
        obtain ⟨g109, h⟩ := Ok_g h
        refine tr_sld (pc' := 369) m_0 rfl g108 g109 rfl ?_
        refine tr_ci (pc' := 372) m_0 rfl rfl rfl m_252 rfl rfl rfl rfl (tr_rcv ts_o87 rfl) rfl rfl (cR_number_ok (gS x107_s (l3 + ((1 : Int32))).toNatClampNeg) _ _ (Ok_b h)) (fun x112_ x112_s h => ?_)
        refine ev_icmp_eq (t := 510) (e := 375) m_0 rfl rfl rfl (fun c113 => ?_) (fun c113 => ?_)
        · replace h := Ok_t c113 h
          refine ev_iinc (pc' := 513) (z := 6) m_0 rfl rfl rfl rfl rfl rfl (ev_goto (pc' := 18) m_0 rfl rfl ?_)
          exact am_Ev.sub (L := [(0, .ref 0), (1, .ref 5), (2, .ref 87), (3, .int (l3 + (6 : Int32)))]) ⟨rfl, rfl, rfl, rfl, trivial⟩ (ih (l3 + (6 : Int32)) _ _ h)
        · replace h := Ok_f c113 h
          refine ev_iconst (pc' := 376) (x := 0) m_0 rfl rfl rfl ?_
          exact tr_rz m_0 rfl rfl (Or.inl rfl) (Ok_s h)
      replace h := Ok_f c114 h
      by_cases c127 : ((gS s l3.toNatClampNeg) &&& ((15 : Int32))) = (9 : Int32)
      · replace h := Ok_t c127 h
        refine ev_sw (pc' := 377) m_0 rfl (by rw [c127]; rfl) ?_
        refine ev_aload_n (pc' := 378) m_0 rfl rfl rfl (ev_aload_n (pc' := 379) m_0 rfl rfl rfl (ev_iload_n (pc' := 380) m_0 rfl rfl rfl (ev_iconst (pc' := 381) (x := 1) m_0 rfl rfl rfl (ev_iadd (pc' := 382) m_0 rfl rfl ?_))))
        obtain ⟨g115, h⟩ := Ok_g h
        refine tr_sld (pc' := 383) m_0 rfl g1 g115 rfl ?_
        refine ev_aload_n (pc' := 384) m_0 rfl rfl rfl (ev_iload_n (pc' := 385) m_0 rfl rfl rfl (ev_iconst (pc' := 386) (x := 2) m_0 rfl rfl rfl (ev_iadd (pc' := 387) m_0 rfl rfl ?_)))
        obtain ⟨g116, h⟩ := Ok_g h
        refine tr_sld (pc' := 388) m_0 rfl g1 g116 rfl ?_
        refine tr_ci (pc' := 391) m_0 rfl rfl rfl m_157 rfl rfl rfl rfl (tr_rcv ts_o5 rfl) rfl rfl (cX_process_ok (gS s (l3 + ((1 : Int32))).toNatClampNeg) (gS s (l3 + ((2 : Int32))).toNatClampNeg) _ _ (Ok_b h)) (fun x119_ x119_s h => ?_)
        refine ev_aload_n (pc' := 392) m_0 rfl rfl rfl (ev_aload_n (pc' := 393) m_0 rfl rfl rfl (ev_iload_n (pc' := 394) m_0 rfl rfl rfl (ev_iconst (pc' := 395) (x := 1) m_0 rfl rfl rfl (ev_iadd (pc' := 396) m_0 rfl rfl ?_))))
        obtain ⟨g120, h⟩ := Ok_g h
        obtain ⟨g121, h⟩ := Ok_g h
        refine tr_sld (pc' := 397) m_0 rfl g120 g121 rfl ?_
        refine ev_aload_n (pc' := 398) m_0 rfl rfl rfl (ev_iload_n (pc' := 399) m_0 rfl rfl rfl (ev_iconst (pc' := 400) (x := 2) m_0 rfl rfl rfl (ev_iadd (pc' := 401) m_0 rfl rfl ?_)))
        obtain ⟨g122, h⟩ := Ok_g h
        refine tr_sld (pc' := 402) m_0 rfl g120 g122 rfl ?_
        refine tr_ci (pc' := 405) m_0 rfl rfl rfl m_253 rfl rfl rfl rfl (tr_rcv ts_o87 rfl) rfl rfl (cR_process_ok (gS x119_s (l3 + ((1 : Int32))).toNatClampNeg) (gS x119_s (l3 + ((2 : Int32))).toNatClampNeg) _ _ (Ok_b h)) (fun x125_ x125_s h => ?_)
        refine ev_icmp_eq (t := 510) (e := 408) m_0 rfl rfl rfl (fun c126 => ?_) (fun c126 => ?_)
        · replace h := Ok_t c126 h
          refine ev_iinc (pc' := 513) (z := 6) m_0 rfl rfl rfl rfl rfl rfl (ev_goto (pc' := 18) m_0 rfl rfl ?_)
          exact am_Ev.sub (L := [(0, .ref 0), (1, .ref 5), (2, .ref 87), (3, .int (l3 + (6 : Int32)))]) ⟨rfl, rfl, rfl, rfl, trivial⟩ (ih (l3 + (6 : Int32)) _ _ h)
        · replace h := Ok_f c126 h
          refine ev_iconst (pc' := 409) (x := 0) m_0 rfl rfl rfl ?_
          exact tr_rz m_0 rfl rfl (Or.inl rfl) (Ok_s h)
      replace h := Ok_f c127 h
      by_cases c140 : ((gS s l3.toNatClampNeg) &&& ((15 : Int32))) = (10 : Int32)
      · replace h := Ok_t c140 h
        refine ev_sw (pc' := 410) m_0 rfl (by rw [c140]; rfl) ?_
        refine ev_aload_n (pc' := 411) m_0 rfl rfl rfl (ev_aload_n (pc' := 412) m_0 rfl rfl rfl (ev_iload_n (pc' := 413) m_0 rfl rfl rfl (ev_iconst (pc' := 414) (x := 1) m_0 rfl rfl rfl (ev_iadd (pc' := 415) m_0 rfl rfl ?_))))
        obtain ⟨g128, h⟩ := Ok_g h
        refine tr_sld (pc' := 416) m_0 rfl g1 g128 rfl ?_
        refine ev_aload_n (pc' := 417) m_0 rfl rfl rfl (ev_iload_n (pc' := 418) m_0 rfl rfl rfl (ev_iconst (pc' := 419) (x := 2) m_0 rfl rfl rfl (ev_iadd (pc' := 420) m_0 rfl rfl ?_)))
        obtain ⟨g129, h⟩ := Ok_g h
        refine tr_sld (pc' := 421) m_0 rfl g1 g129 rfl ?_
        refine tr_ci (pc' := 424) m_0 rfl rfl rfl m_163 rfl rfl rfl rfl (tr_rcv ts_o5 rfl) rfl rfl (cX_place_ok (gS s (l3 + ((1 : Int32))).toNatClampNeg) (gS s (l3 + ((2 : Int32))).toNatClampNeg) _ _ (Ok_b h)) (fun x132_ x132_s h => ?_)
        refine ev_aload_n (pc' := 425) m_0 rfl rfl rfl (ev_aload_n (pc' := 426) m_0 rfl rfl rfl (ev_iload_n (pc' := 427) m_0 rfl rfl rfl (ev_iconst (pc' := 428) (x := 1) m_0 rfl rfl rfl (ev_iadd (pc' := 429) m_0 rfl rfl ?_))))
        obtain ⟨g133, h⟩ := Ok_g h
        obtain ⟨g134, h⟩ := Ok_g h
        refine tr_sld (pc' := 430) m_0 rfl g133 g134 rfl ?_
        refine ev_aload_n (pc' := 431) m_0 rfl rfl rfl (ev_iload_n (pc' := 432) m_0 rfl rfl rfl (ev_iconst (pc' := 433) (x := 2) m_0 rfl rfl rfl (ev_iadd (pc' := 434) m_0 rfl rfl ?_)))
        obtain ⟨g135, h⟩ := Ok_g h
        refine tr_sld (pc' := 435) m_0 rfl g133 g135 rfl ?_
        refine tr_ci (pc' := 438) m_0 rfl rfl rfl m_255 rfl rfl rfl rfl (tr_rcv ts_o87 rfl) rfl rfl (cR_place_ok (gS x132_s (l3 + ((1 : Int32))).toNatClampNeg) (gS x132_s (l3 + ((2 : Int32))).toNatClampNeg) _ _ (Ok_b h)) (fun x138_ x138_s h => ?_)
        refine ev_icmp_eq (t := 510) (e := 441) m_0 rfl rfl rfl (fun c139 => ?_) (fun c139 => ?_)
        · replace h := Ok_t c139 h
          refine ev_iinc (pc' := 513) (z := 6) m_0 rfl rfl rfl rfl rfl rfl (ev_goto (pc' := 18) m_0 rfl rfl ?_)
          exact am_Ev.sub (L := [(0, .ref 0), (1, .ref 5), (2, .ref 87), (3, .int (l3 + (6 : Int32)))]) ⟨rfl, rfl, rfl, rfl, trivial⟩ (ih (l3 + (6 : Int32)) _ _ h)
        · replace h := Ok_f c139 h
          refine ev_iconst (pc' := 442) (x := 0) m_0 rfl rfl rfl ?_
          exact tr_rz m_0 rfl rfl (Or.inl rfl) (Ok_s h)
      replace h := Ok_f c140 h
      by_cases c153 : ((gS s l3.toNatClampNeg) &&& ((15 : Int32))) = (11 : Int32)
      · replace h := Ok_t c153 h
        refine ev_sw (pc' := 443) m_0 rfl (by rw [c153]; rfl) ?_
        refine ev_aload_n (pc' := 444) m_0 rfl rfl rfl (ev_aload_n (pc' := 445) m_0 rfl rfl rfl (ev_iload_n (pc' := 446) m_0 rfl rfl rfl (ev_iconst (pc' := 447) (x := 1) m_0 rfl rfl rfl (ev_iadd (pc' := 448) m_0 rfl rfl ?_))))
        obtain ⟨g141, h⟩ := Ok_g h
        refine tr_sld (pc' := 449) m_0 rfl g1 g141 rfl ?_
        refine ev_aload_n (pc' := 450) m_0 rfl rfl rfl (ev_iload_n (pc' := 451) m_0 rfl rfl rfl (ev_iconst (pc' := 452) (x := 2) m_0 rfl rfl rfl (ev_iadd (pc' := 453) m_0 rfl rfl ?_)))
        obtain ⟨g142, h⟩ := Ok_g h
        refine tr_sld (pc' := 454) m_0 rfl g1 g142 rfl ?_
        refine tr_cj (pc' := 457) m_0 rfl rfl rfl m_168 rfl rfl rfl rfl (tr_rcv ts_o5 rfl) rfl rfl (cX_sum_ok (gS s (l3 + ((1 : Int32))).toNatClampNeg) (gS s (l3 + ((2 : Int32))).toNatClampNeg) _ _ (Ok_b h)) (fun x145_ x145_s h => ?_)
        refine ev_aload_n (pc' := 458) m_0 rfl rfl rfl (ev_aload_n (pc' := 459) m_0 rfl rfl rfl (ev_iload_n (pc' := 460) m_0 rfl rfl rfl (ev_iconst (pc' := 461) (x := 1) m_0 rfl rfl rfl (ev_iadd (pc' := 462) m_0 rfl rfl ?_))))
        obtain ⟨g146, h⟩ := Ok_g h
        obtain ⟨g147, h⟩ := Ok_g h
        refine tr_sld (pc' := 463) m_0 rfl g146 g147 rfl ?_
        refine ev_aload_n (pc' := 464) m_0 rfl rfl rfl (ev_iload_n (pc' := 465) m_0 rfl rfl rfl (ev_iconst (pc' := 466) (x := 2) m_0 rfl rfl rfl (ev_iadd (pc' := 467) m_0 rfl rfl ?_)))
        obtain ⟨g148, h⟩ := Ok_g h
        refine tr_sld (pc' := 468) m_0 rfl g146 g148 rfl ?_
        refine tr_cj (pc' := 471) m_0 rfl rfl rfl m_257 rfl rfl rfl rfl (tr_rcv ts_o87 rfl) rfl rfl (cR_sum_ok (gS x145_s (l3 + ((1 : Int32))).toNatClampNeg) (gS x145_s (l3 + ((2 : Int32))).toNatClampNeg) _ _ (Ok_b h)) (fun x151_ x151_s h => ?_)
        refine ev_lcmp (pc' := 472) m_0 rfl rfl ?_
        refine ev_if_eq (t := 510) (e := 475) m_0 rfl rfl rfl (fun c152 => ?_) (fun c152 => ?_)
        · replace h := Ok_t c152 h
          refine ev_iinc (pc' := 513) (z := 6) m_0 rfl rfl rfl rfl rfl rfl (ev_goto (pc' := 18) m_0 rfl rfl ?_)
          exact am_Ev.sub (L := [(0, .ref 0), (1, .ref 5), (2, .ref 87), (3, .int (l3 + (6 : Int32)))]) ⟨rfl, rfl, rfl, rfl, trivial⟩ (ih (l3 + (6 : Int32)) _ _ h)
        · replace h := Ok_f c152 h
          refine ev_iconst (pc' := 476) (x := 0) m_0 rfl rfl rfl ?_
          exact tr_rz m_0 rfl rfl (Or.inl rfl) (Ok_s h)
      replace h := Ok_f c153 h
      by_cases c166 : ((gS s l3.toNatClampNeg) &&& ((15 : Int32))) = (12 : Int32)
      · replace h := Ok_t c166 h
        refine ev_sw (pc' := 477) m_0 rfl (by rw [c166]; rfl) ?_
        refine ev_aload_n (pc' := 478) m_0 rfl rfl rfl (ev_aload_n (pc' := 479) m_0 rfl rfl rfl (ev_iload_n (pc' := 480) m_0 rfl rfl rfl (ev_iconst (pc' := 481) (x := 1) m_0 rfl rfl rfl (ev_iadd (pc' := 482) m_0 rfl rfl ?_))))
        obtain ⟨g154, h⟩ := Ok_g h
        refine tr_sld (pc' := 483) m_0 rfl g1 g154 rfl ?_
        refine ev_aload_n (pc' := 484) m_0 rfl rfl rfl (ev_iload_n (pc' := 485) m_0 rfl rfl rfl (ev_iconst (pc' := 486) (x := 2) m_0 rfl rfl rfl (ev_iadd (pc' := 487) m_0 rfl rfl ?_)))
        obtain ⟨g155, h⟩ := Ok_g h
        refine tr_sld (pc' := 488) m_0 rfl g1 g155 rfl ?_
        refine tr_ci (pc' := 491) m_0 rfl rfl rfl m_170 rfl rfl rfl rfl (tr_rcv ts_o5 rfl) rfl rfl (cX_trace_ok (gS s (l3 + ((1 : Int32))).toNatClampNeg) (gS s (l3 + ((2 : Int32))).toNatClampNeg) _ _ (Ok_b h)) (fun x158_ x158_s h => ?_)
        refine ev_aload_n (pc' := 492) m_0 rfl rfl rfl (ev_aload_n (pc' := 493) m_0 rfl rfl rfl (ev_iload_n (pc' := 494) m_0 rfl rfl rfl (ev_iconst (pc' := 495) (x := 1) m_0 rfl rfl rfl (ev_iadd (pc' := 496) m_0 rfl rfl ?_))))
        obtain ⟨g159, h⟩ := Ok_g h
        obtain ⟨g160, h⟩ := Ok_g h
        refine tr_sld (pc' := 497) m_0 rfl g159 g160 rfl ?_
        refine ev_aload_n (pc' := 498) m_0 rfl rfl rfl (ev_iload_n (pc' := 499) m_0 rfl rfl rfl (ev_iconst (pc' := 500) (x := 2) m_0 rfl rfl rfl (ev_iadd (pc' := 501) m_0 rfl rfl ?_)))
        obtain ⟨g161, h⟩ := Ok_g h
        refine tr_sld (pc' := 502) m_0 rfl g159 g161 rfl ?_
        refine tr_ci (pc' := 505) m_0 rfl rfl rfl m_258 rfl rfl rfl rfl (tr_rcv ts_o87 rfl) rfl rfl (cR_trace_ok (gS x158_s (l3 + ((1 : Int32))).toNatClampNeg) (gS x158_s (l3 + ((2 : Int32))).toNatClampNeg) _ _ (Ok_b h)) (fun x164_ x164_s h => ?_)
        refine ev_icmp_eq (t := 510) (e := 508) m_0 rfl rfl rfl (fun c165 => ?_) (fun c165 => ?_)
        · replace h := Ok_t c165 h
          refine ev_iinc (pc' := 513) (z := 6) m_0 rfl rfl rfl rfl rfl rfl (ev_goto (pc' := 18) m_0 rfl rfl ?_)
          exact am_Ev.sub (L := [(0, .ref 0), (1, .ref 5), (2, .ref 87), (3, .int (l3 + (6 : Int32)))]) ⟨rfl, rfl, rfl, rfl, trivial⟩ (ih (l3 + (6 : Int32)) _ _ h)
        · replace h := Ok_f c165 h
          refine ev_iconst (pc' := 509) (x := 0) m_0 rfl rfl rfl ?_
          exact tr_rz m_0 rfl rfl (Or.inl rfl) (Ok_s h)
      replace h := Ok_f c166 h
      refine ev_tdef (t := 510) m_0 rfl (by have := ts_nel (k := 0) c21 (by decide); have := ts_nel (k := 1) c32 (by decide); have := ts_nel (k := 2) c40 (by decide); have := ts_nel (k := 3) c51 (by decide); have := ts_nel (k := 4) c70 (by decide); have := ts_nel (k := 5) c81 (by decide); have := ts_nel (k := 6) c92 (by decide); have := ts_nel (k := 7) c103 (by decide); have := ts_nel (k := 8) c114 (by decide); have := ts_nel (k := 9) c127 (by decide); have := ts_nel (k := 10) c140 (by decide); have := ts_nel (k := 11) c153 (by decide); have := ts_nel (k := 12) c166 (by decide); omega) rfl ?_
      refine ev_iinc (pc' := 513) (z := 6) m_0 rfl rfl rfl rfl rfl rfl (ev_goto (pc' := 18) m_0 rfl rfl ?_)
      exact am_Ev.sub (L := [(0, .ref 0), (1, .ref 5), (2, .ref 87), (3, .int (l3 + (6 : Int32)))]) ⟨rfl, rfl, rfl, rfl, trivial⟩ (ih (l3 + (6 : Int32)) _ _ h)
def cL_law_16 (s : ts) : Option (Int32 × ts) := cL_law_18 tm_N ((0 : Int32)) s
set_option maxRecDepth 20000 in
theorem cL_law_16_ok {d : Nat} (s : ts) (Q : Int32 × ts → Prop) (h : Ok (cL_law_16 s) Q) : am_Ev (d + 266) 0 (16, [(0, .ref 0), (1, .ref 5), (2, .ref 87)], []) (lay s) (tq_i Q) := by
  unfold cL_law_16 at h
  refine ev_iconst (pc' := 17) (x := 0) m_0 rfl rfl rfl (ev_istore_n (pc' := 18) m_0 rfl rfl rfl rfl ?_)
  exact am_Ev.sub (L := [(0, .ref 0), (1, .ref 5), (2, .ref 87), (3, .int ((0 : Int32)))]) ⟨rfl, rfl, rfl, rfl, trivial⟩ (cL_law_18_ok tm_N ((0 : Int32)) _ _ h)
