/-! A NEW PROCESS: the one place where something is made while the law's loop runs. -/
theorem at_push {h : am_H} {r n : Nat} {c x : am_C} (q : am_at h r = some c) : am_at (am_push h x n) r = some c := by
  obtain ⟨a, b, e⟩ := am_at_inv q
  unfold am_at am_push
  dsimp only
  rw [if_pos ⟨a, by omega⟩, if_neg (by omega), e]
theorem at_new {h : am_H} {n : Nat} {x : am_C} (hK : am_K ≤ h.1) : am_at (am_push h x n) h.1 = some x := by
  unfold am_at am_push
  dsimp only
  rw [if_pos ⟨hK, by omega⟩, if_pos rfl]
theorem at_up {h : am_H} {r : Nat} {c x : am_C} (q : am_at h r = some c) : am_at (am_up h r x) r = some x := by
  obtain ⟨a, b, e⟩ := am_at_inv q
  unfold am_at am_up
  dsimp only
  rw [if_pos ⟨a, b⟩, if_pos rfl]
theorem at_up_ne {h : am_H} {r r' : Nat} {c x : am_C} (q : am_at h r' = some c) (hne : r' ≠ r) : am_at (am_up h r x) r' = some c := by
  obtain ⟨a, b, e⟩ := am_at_inv q
  unfold am_at am_up
  dsimp only
  rw [if_pos ⟨a, b⟩, if_neg hne, e]
section EV3
variable {d mi pc pc' : Nat} {L L' : am_L} {S S' : List Value} {h h' : am_H} {Q : Option Value → am_H → Prop} {M : tb_M}
theorem ev_getf {k ci j kd r : Nat} {fs : List Value} {v : Value} (hm : tb_m mi = some M) (hi : tb_ins mi pc = some (.getfield k)) (hf : tb_fld M.1 k = some (ci, j, kd)) (hc : am_at h r = some (.inr (ci, fs))) (hv : fs[j]? = some v) (hp : pc + 3 = pc') (kk : am_Ev d mi (pc', L, v :: S) h Q) : am_Ev d mi (pc, L, .ref r :: S) h Q := by
  refine ev_hp hm hi rfl ?_ hp kk
  show am_getf M.1 k (.ref r :: S) h = _
  unfold am_getf
  dsimp only
  have h1 : am_K ≤ r := (am_at_inv hc).1
  have h2 : (2 : Nat) ≤ r := Nat.le_trans (by decide) h1
  rw [if_neg (show ¬ r = 1 by omega), hf, hc]
  dsimp only
  rw [if_pos rfl, hv]
theorem ev_putf {k ci j kd r : Nat} {fs : List Value} {v : Value} (hm : tb_m mi = some M) (hi : tb_ins mi pc = some (.putfield k)) (hf : tb_fld M.1 k = some (ci, j, kd)) (hk : kd < 3 ∧ (kd = 2 → (M.2.1.name == "<init>") = true)) (hc : am_at h r = some (.inr (ci, fs))) (hl : j < fs.length) (hv : am_fit (tb_ty ci j) v = true) (hp : pc + 3 = pc') (kk : am_Ev d mi (pc', L, S) (am_up h r (.inr (ci, fs.set j v))) Q) : am_Ev d mi (pc, L, v :: .ref r :: S) h Q := by
  refine ev_hp hm hi rfl ?_ hp kk
  show am_putf (M.2.1.name == "<init>") M.1 k (v :: .ref r :: S) h = _
  unfold am_putf
  dsimp only
  rw [hf, hc]
  dsimp only
  rw [if_pos ⟨rfl, hl, hv, hk.1, hk.2⟩]
end EV3
def ts_mk (s : ts) : ts := (fun f i => if i = gM s ∧ 500 ≤ f ∧ f < 513 then (if f = 500 then gI s 904 0 else 0) else s.1 f i, s.2.1, fun f i => if i = gM s ∧ (f = 507 ∨ f = 509) then none else s.2.2.1 f i, s.2.2.2.1, s.2.2.2.2.1, fun q k => if q = gM s then 0 else s.2.2.2.2.2.1 q k, fun q k => if q = gM s then 0 else s.2.2.2.2.2.2.1 q k, gM s + 1, s.2.2.2.2.2.2.2.2)
theorem ts_mk_lt {s : ts} : gM s < gM (ts_mk s) := Nat.lt_succ_self _
theorem ts_fs_mk {s : ts} {ci i : Nat} (hne : ¬ (ci = 5 ∧ i = gM s)) : ts_fs (ts_mk s) ci i = ts_fs s ci i := by
  unfold ts_fs
  apply List.map_congr_left
  intro j hj
  have h1 := List.mem_range.mp hj
  have h2 := ts_n_lt ci
  have e1 : gI (ts_mk s) (100 * ci + j) i = gI s (100 * ci + j) i := by
    show (if _ then _ else _) = _
    rw [if_neg (by omega)]; rfl
  have e2 : gR (ts_mk s) (100 * ci + j) i = gR s (100 * ci + j) i := by
    show (if _ then _ else _) = _
    rw [if_neg (by omega)]; rfl
  unfold ts_f
  rw [e1, e2]
  rfl
def mk_ds : List Value := [.int 0, .int 0, .int 0, .int 0, .int 0, .null, .null, .null, .int 0, .null, .int 0, .int 0, .int 0]
theorem ts_fs_new {s : ts} : ts_fs (ts_mk s) 5 (gM s) = [.int (gI s 904 0), .int 0, .int 0, .int 0, .int 0, .ref (pV (gM s)), .ref (pU (gM s)), .null, .int 0, .null, .int 0, .int 0, .int 0] := by
  have eI : ∀ f, 500 < f → f < 513 → gI (ts_mk s) f (gM s) = 0 := by
    intro f h1 h2
    show (if _ then (if _ then _ else _) else _) = _
    rw [if_pos ⟨rfl, by omega, h2⟩, if_neg (by omega)]
  have e0 : gI (ts_mk s) 500 (gM s) = gI s 904 0 := by
    show (if _ then (if _ then _ else _) else _) = _
    rw [if_pos ⟨rfl, by omega, by omega⟩, if_pos rfl]
  have eR : ∀ f, (f = 507 ∨ f = 509) → gR (ts_mk s) f (gM s) = none := by
    intro f h1
    show (if _ then _ else _) = _
    rw [if_pos ⟨rfl, h1⟩]
  have h : ts_fs (ts_mk s) 5 (gM s) = [.int (gI (ts_mk s) 500 (gM s)), .int (gI (ts_mk s) 501 (gM s)), .int (gI (ts_mk s) 502 (gM s)), .int (gI (ts_mk s) 503 (gM s)), .int (gI (ts_mk s) 504 (gM s)), .ref (pV (gM s)), .ref (pU (gM s)), va_rf ((gR (ts_mk s) 507 (gM s)).map pL), .int (gI (ts_mk s) 508 (gM s)), va_rf ((gR (ts_mk s) 509 (gM s)).map pB), .int (gI (ts_mk s) 510 (gM s)), .int (gI (ts_mk s) 511 (gM s)), .int (gI (ts_mk s) 512 (gM s))] := rfl
  rw [h, e0, eI 501 (by omega) (by omega), eI 502 (by omega) (by omega), eI 503 (by omega) (by omega), eI 504 (by omega) (by omega), eI 508 (by omega) (by omega), eI 510 (by omega) (by omega), eI 511 (by omega) (by omega), eI 512 (by omega) (by omega), eR 507 (by omega), eR 509 (by omega)]
  rfl
theorem m_ADD : tb_m 99 = some (10, ⟨"EventHall$Floor", "add", "(II)LEventHall$Proc;"⟩, 2, prog_2_method_5_code, 4, (some (.object "EventHall$Proc"))) := rfl
theorem m_PIN : tb_m 100 = some (6, ⟨"EventHall$Proc", "<init>", "(I)V"⟩, 1, prog_7_method_1_code, 2, none) := rfl
def mk_h (s : ts) : am_H := am_up (am_up (am_push (am_up (am_push (am_push (lay s) (.inr (5, mk_ds)) 13) (.inl (.int, 8, .inl (fun _ => 0))) 8) (pB (gM s)) (.inr (5, mk_ds.set 5 (.ref (pV (gM s)))))) (.inl (.int, 8, .inl (fun _ => 0))) 8) (pB (gM s)) (.inr (5, (mk_ds.set 5 (.ref (pV (gM s)))).set 6 (.ref (pU (gM s)))))) (pB (gM s)) (.inr (5, ((mk_ds.set 5 (.ref (pV (gM s)))).set 6 (.ref (pU (gM s)))).set 0 (.int (gI s 904 0))))
theorem mk_init {d : Nat} {s : ts} {Q : Option Value → am_H → Prop} (kk : Q none (mk_h s)) : am_Ev (d + 1) 100 (0, [(0, .ref (pB (gM s))), (1, .int (gI s 904 0))], []) (am_push (lay s) (.inr (5, mk_ds)) 13) Q := by
  have hK : am_K ≤ (lay s).1 := by show (5 : Nat) ≤ 143 + 3 * gM s; omega
  have a1 : am_at (am_push (lay s) (.inr (5, mk_ds)) 13) (pB (gM s)) = some (.inr (5, mk_ds)) := at_new (h := lay s) hK
  refine ev_aload_n (pc' := 1) m_PIN rfl rfl rfl (ev_prm (pc' := 4) m_PIN rfl rfl rfl rfl rfl rfl rfl (ev_aload_n (pc' := 5) m_PIN rfl rfl rfl (ev_bipush (pc' := 7) (x := 8) m_PIN rfl rfl rfl ?_)))
  refine ev_hp (pc' := 9) (S' := [.ref (pV (gM s)), .ref (pB (gM s))]) (h' := am_push (am_push (lay s) (.inr (5, mk_ds)) 13) (.inl (.int, 8, .inl (fun _ => 0))) 8) m_PIN rfl rfl ?_ rfl ?_
  · show some ([Value.ref (143 + 3 * gM s + 1), .ref (pB (gM s))], _) = _
    rw [show 143 + 3 * gM s + 1 = pV (gM s) by unfold pV; omega]
    rfl
  have a2 := at_push (n := 8) (x := .inl (.int, 8, .inl (fun _ => 0))) a1
  refine ev_putf (pc' := 12) m_PIN rfl rfl ⟨by decide, fun _ => by decide +kernel⟩ a2 (by decide) rfl rfl ?_
  have a3 := at_up (x := .inr (5, mk_ds.set 5 (.ref (pV (gM s))))) a2
  refine ev_aload_n (pc' := 13) m_PIN rfl rfl rfl (ev_bipush (pc' := 15) (x := 8) m_PIN rfl rfl rfl ?_)
  refine ev_hp (pc' := 17) (S' := [.ref (pU (gM s)), .ref (pB (gM s))]) (h' := am_push (am_up (am_push (am_push (lay s) (.inr (5, mk_ds)) 13) (.inl (.int, 8, .inl (fun _ => 0))) 8) (pB (gM s)) (.inr (5, mk_ds.set 5 (.ref (pV (gM s)))))) (.inl (.int, 8, .inl (fun _ => 0))) 8) m_PIN rfl rfl ?_ rfl ?_
  · show some ([Value.ref (143 + 3 * gM s + 1 + 1), .ref (pB (gM s))], _) = _
    rw [show 143 + 3 * gM s + 1 + 1 = pU (gM s) by unfold pU; omega]
    rfl
  have a4 := at_push (n := 8) (x := .inl (.int, 8, .inl (fun _ => 0))) a3
  refine ev_putf (pc' := 20) m_PIN rfl rfl ⟨by decide, fun _ => by decide +kernel⟩ a4 (Nat.le_of_ble_eq_true rfl) rfl rfl ?_
  have a5 := at_up (x := .inr (5, (mk_ds.set 5 (.ref (pV (gM s)))).set 6 (.ref (pU (gM s))))) a4
  refine ev_aload_n (pc' := 21) m_PIN rfl rfl rfl (ev_iload_n (pc' := 22) m_PIN rfl rfl rfl ?_)
  refine ev_putf (pc' := 25) m_PIN rfl rfl ⟨by decide, fun _ => by decide +kernel⟩ a5 (Nat.le_of_ble_eq_true rfl) rfl rfl ?_
  exact ev_ret m_PIN rfl rfl kk
theorem mk_at {s : ts} {r : Nat} {c : am_C} (q : am_at (lay s) r = some c) : am_at (mk_h s) r = some c := by
  have hne : r ≠ pB (gM s) := by
    have := (am_at_inv q).2.1
    have e : (lay s).1 = pB (gM s) := rfl
    omega
  exact at_up_ne (at_up_ne (at_push (at_up_ne (at_push (at_push q)) hne)) hne) hne
theorem mk_new {s : ts} : am_at (mk_h s) (pB (gM s)) = some (.inr (5, ((mk_ds.set 5 (.ref (pV (gM s)))).set 6 (.ref (pU (gM s)))).set 0 (.int (gI s 904 0)))) := by
  have hK : am_K ≤ (lay s).1 := by show (5 : Nat) ≤ 143 + 3 * gM s; omega
  exact at_up (at_up (at_push (at_up (at_push (at_new (h := lay s) hK)))))
theorem mk_lay {s : ts} (hq : (gI s 904 0).toNatClampNeg = gM s) : am_up (mk_h s) 82 (.inl (.object "EventHall$Proc", 300, .inr (.inr (.inr (.inr (va_up (ts_m s) (gI s 904 0).toNatClampNeg (some (pB (gM s)))))))) ) = lay (ts_mk s) := by
  have hc : ∀ r, (am_up (mk_h s) 82 (.inl (.object "EventHall$Proc", 300, .inr (.inr (.inr (.inr (va_up (ts_m s) (gI s 904 0).toNatClampNeg (some (pB (gM s)))))))) )).2.2 r = (lay (ts_mk s)).2.2 r := by
    intro r
    show (if r = 82 then _ else (mk_h s).2.2 r) = _
    by_cases h82 : r = 82
    · subst h82
      rw [if_pos rfl]
      show _ = (.inl (.object "EventHall$Proc", 300, .inr (.inr (.inr (.inr (ts_m (ts_mk s)))))) : am_C)
      have e : va_up (ts_m s) (gI s 904 0).toNatClampNeg (some (pB (gM s))) = ts_m (ts_mk s) := by
        funext k
        rw [hq]
        unfold va_up ts_m
        show (if k = gM s then some (pB (gM s)) else if k < gM s then some (pB k) else none) = if k < gM s + 1 then some (pB k) else none
        by_cases e1 : k = gM s
        · rw [if_pos e1, if_pos (by omega), e1]
        · rw [if_neg e1]
          by_cases e2 : k < gM s
          · rw [if_pos e2, if_pos (by omega)]
          · rw [if_neg e2, if_neg (by omega)]
      rw [e]
    · rw [if_neg h82]
      have hcell : (mk_h s).2.2 r = if r = pB (gM s) then .inr (5, ((mk_ds.set 5 (.ref (pV (gM s)))).set 6 (.ref (pU (gM s)))).set 0 (.int (gI s 904 0))) else if r = 143 + 3 * gM s + 1 + 1 then .inl (.int, 8, .inl (fun _ => 0)) else if r = 143 + 3 * gM s + 1 then .inl (.int, 8, .inl (fun _ => 0)) else (lay s).2.2 r := by
        unfold mk_h am_up am_push
        dsimp only
        by_cases e1 : r = pB (gM s)
        · rw [if_pos e1, if_pos e1]
        · rw [if_neg e1, if_neg e1, if_neg e1, if_neg e1]
          have e2 : ¬ r = 143 + 3 * gM s := e1
          show (if r = 143 + 3 * gM s + 1 + 1 then _ else if r = 143 + 3 * gM s + 1 then _ else if r = 143 + 3 * gM s then _ else _) = _
          rw [if_neg e2]
      rw [hcell]
      by_cases e1 : r = pB (gM s)
      · rw [if_pos e1, e1]
        have := ts_cell (s := ts_mk s) (r := pB (gM s)) (ci := 5) (i := gM s) (by unfold pB; omega) (ts_obB (s := ts_mk s) ts_mk_lt).2.2
        rw [this, ts_fs_new]
        rfl
      · rw [if_neg e1]
        by_cases e2 : r = 143 + 3 * gM s + 1 + 1
        · rw [if_pos e2]
          have e3 : r = pU (gM s) := by unfold pU; omega
          rw [e3, lay_pU]
          have e4 : gU (ts_mk s) (gM s) = fun _ => 0 := by
            funext k
            show (if gM s = gM s then (0 : Int32) else _) = 0
            rw [if_pos rfl]
          rw [e4]
        · rw [if_neg e2]
          by_cases e3 : r = 143 + 3 * gM s + 1
          · rw [if_pos e3]
            have e4 : r = pV (gM s) := by unfold pV; omega
            rw [e4, lay_pV]
            have e5 : gV (ts_mk s) (gM s) = fun _ => 0 := by
              funext k
              show (if gM s = gM s then (0 : Int32) else _) = 0
              rw [if_pos rfl]
            rw [e5]
          · rw [if_neg e3]
            have e1' : ¬ r = 143 + 3 * gM s := e1
            show (if r < 5 then gO s r else if r < 143 then ts_c s r (ts_d r) else ts_p s r) = (if r < 5 then gO (ts_mk s) r else if r < 143 then ts_c (ts_mk s) r (ts_d r) else ts_p (ts_mk s) r)
            by_cases h5 : r < 5
            · rw [if_pos h5, if_pos h5]; rfl
            · rw [if_neg h5, if_neg h5]
              by_cases h143 : r < 143
              · rw [if_pos h143, if_pos h143]
                unfold ts_c
                split
                · rename_i q c' i' hq9
                  have hat : ts_at r = some (c', i') := by
                    unfold ts_at
                    rw [if_pos h143, hq9]
                  rw [ts_fs_mk (fun z => ts_at_st r h143 _ hat z.1)]
                · rename_i q ty n hq9
                  have h37 : ∀ C, ty = .object C → r = 37 := by
                    have key : ∀ r, r < 143 → 5 ≤ r → r ≠ 82 → (match ts_d r with | .inr (.object _, _) => r == 37 | _ => true) = true := by decide +kernel
                    intro C hC
                    have := key r h143 (by omega) h82
                    rw [hq9, hC] at this
                    simpa using this
                  unfold ts_ar
                  split
                  · rfl
                  · rename_i C
                    rw [if_pos (h37 C rfl), if_pos (h37 C rfl)]
                  · rfl
              · rw [if_neg h143, if_neg h143]
                unfold ts_p
                by_cases hz : (r - 143) % 3 = 0
                · rw [if_pos hz, if_pos hz, ts_fs_mk (fun z => by omega)]
                · rw [if_neg hz, if_neg hz]
                  have eV : gV (ts_mk s) ((r - 143) / 3) = gV s ((r - 143) / 3) := by
                    funext k
                    show (if (r - 143) / 3 = gM s then (0 : Int32) else _) = _
                    rw [if_neg (by omega)]; rfl
                  have eU : gU (ts_mk s) ((r - 143) / 3) = gU s ((r - 143) / 3) := by
                    funext k
                    show (if (r - 143) / 3 = gM s then (0 : Int32) else _) = _
                    rw [if_neg (by omega)]; rfl
                  rw [eV, eU]
  have h1 : 143 + 3 * gM s + 1 + 1 + 1 = 143 + 3 * (gM s + 1) := by omega
  have h2 : 113995 + 29 * gM s + 13 + 8 + 8 = 113995 + 29 * (gM s + 1) := by omega
  exact Prod.ext h1 (Prod.ext h2 (funext hc))
theorem tr_mk {d : Nat} {s : ts} {a b : Int32} {Q : Option Value → am_H → Prop} (hj : am_idx (gI s 904 0) 300 = true) (hq : (gI s 904 0).toNatClampNeg = gM s) (kk : am_Ev (d + 2) 99 (45, [(3, .ref (pB (gM s))), (0, .ref 81), (1, .int a), (2, .int b)], []) (lay (ts_mk s)) Q) : am_Ev (d + 2) 99 (23, [(3, .null), (0, .ref 81), (1, .int a), (2, .int b)], []) (lay s) Q := by
  have c81 : am_at (lay s) 81 = some (.inr (9, ts_fs s 9 0)) := ts_ob_at ts_o81
  have c82 : am_at (lay s) 82 = some (.inl (.object "EventHall$Proc", 300, .inr (.inr (.inr (.inr (ts_m s)))))) := (ts_arr (s := s) (r := 82) (n := 300) (ty := .object "EventHall$Proc") rfl rfl).1
  refine ev_hp (pc' := 26) (S' := [.ref (pB (gM s))]) (h' := am_push (lay s) (.inr (5, mk_ds)) 13) m_ADD rfl rfl rfl rfl ?_
  refine ev_dup (pc' := 27) m_ADD rfl rfl rfl (ev_aload_n (pc' := 28) m_ADD rfl rfl rfl (ev_getf (pc' := 31) (v := .int (gI s 904 0)) m_ADD rfl rfl (at_push c81) rfl rfl ?_))
  refine ev_call (pc' := 34) m_ADD rfl rfl rfl m_PIN rfl rfl (Nat.le_of_ble_eq_true rfl) (Nat.le_of_ble_eq_true rfl) rfl rfl (mk_init ?_)
  refine ev_astore_n (pc' := 35) m_ADD rfl rfl rfl rfl (ev_aload_n (pc' := 36) m_ADD rfl rfl rfl (ev_getf (pc' := 39) (v := .ref 82) m_ADD rfl rfl (mk_at c81) rfl rfl (ev_aload_n (pc' := 40) m_ADD rfl rfl rfl (ev_getf (pc' := 43) (v := .int (gI s 904 0)) m_ADD rfl rfl (mk_at c81) rfl rfl (ev_aload_n (pc' := 44) m_ADD rfl rfl rfl ?_)))))
  refine ev_hp (pc' := 45) (S' := []) (h' := lay (ts_mk s)) m_ADD rfl rfl ?_ rfl kk
  show am_aast [.ref (pB (gM s)), .int (gI s 904 0), .ref 82] (mk_h s) = _
  unfold am_aast
  dsimp only
  rw [mk_at c82]
  dsimp only
  have hmay : am_may "EventHall$Proc" (mk_h s) (.ref (pB (gM s))) = some (some (pB (gM s))) := by
    unfold am_may
    dsimp only
    rw [mk_new]
    rfl
  rw [hmay]
  dsimp only
  rw [if_pos ⟨hj, by decide +kernel⟩, mk_lay hq]
