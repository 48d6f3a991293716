/-! ROWS over the state without addresses. -/
theorem lay_wA {s : ts} {r n k : Nat} {ty : FieldType} {x : Int32} (h5 : 5 ≤ r) (h6 : r < 143) (hd : ts_d r = .inr (ty, n)) (hty : ty = .int ∨ ty = .byte ∨ ty = .boolean) : am_up (lay s) r (.inl (ty, n, .inl (upd (gA s r) k x))) = lay (wA s r k x) := by
  unfold am_up lay
  refine congrArg (fun z => ((143 + 3 * gM s, 113995 + 29 * gM s, z) : am_H)) ?_
  funext q
  dsimp only
  by_cases hk : q = r
  · subst hk
    rw [if_pos rfl, if_neg (by omega), if_pos h6, hd]
    have e : gA (wA s q k x) q = upd (gA s q) k x := by
      funext z
      show (if q = q ∧ z = k then x else gA s q z) = if z = k then x else gA s q z
      by_cases hz : z = k
      · rw [if_pos ⟨rfl, hz⟩, if_pos hz]
      · rw [if_neg (fun w => hz w.2), if_neg hz]
    rcases hty with rfl | rfl | rfl <;> (show _ = Sum.inl _; rw [e])
  · rw [if_neg hk]
    by_cases h9 : q < 5
    · rw [if_pos h9, if_pos h9]; rfl
    · rw [if_neg h9, if_neg h9]
      by_cases h143 : q < 143
      · rw [if_pos h143, if_pos h143]
        have e : gA (wA s r k x) q = gA s q := by
          funext z
          show (if q = r ∧ z = k then x else gA s q z) = _
          rw [if_neg (fun w => hk w.1)]
        unfold ts_c
        split
        · rfl
        · unfold ts_ar
          rw [e]
          rfl
      · rw [if_neg h143, if_neg h143]; rfl
theorem lay_wB {s : ts} {r n k : Nat} {x : Int64} (h5 : 5 ≤ r) (h6 : r < 143) (hd : ts_d r = .inr (.long, n)) : am_up (lay s) r (.inl (.long, n, .inr (.inl (vp_updL (gB s r) k x)))) = lay (wB s r k x) := by
  unfold am_up lay
  refine congrArg (fun z => ((143 + 3 * gM s, 113995 + 29 * gM s, z) : am_H)) ?_
  funext q
  dsimp only
  by_cases hk : q = r
  · subst hk
    rw [if_pos rfl, if_neg (by omega), if_pos h6, hd]
    have e : gB (wB s q k x) q = vp_updL (gB s q) k x := by
      funext z
      show (if q = q ∧ z = k then x else gB s q z) = if z = k then x else gB s q z
      by_cases hz : z = k
      · rw [if_pos ⟨rfl, hz⟩, if_pos hz]
      · rw [if_neg (fun w => hz w.2), if_neg hz]
    show _ = Sum.inl _
    rw [e]
  · rw [if_neg hk]
    by_cases h9 : q < 5
    · rw [if_pos h9, if_pos h9]; rfl
    · rw [if_neg h9, if_neg h9]
      by_cases h143 : q < 143
      · rw [if_pos h143, if_pos h143]
        have e : gB (wB s r k x) q = gB s q := by
          funext z
          show (if q = r ∧ z = k then x else gB s q z) = _
          rw [if_neg (fun w => hk w.1)]
        unfold ts_c
        split
        · rfl
        · unfold ts_ar
          rw [e]
          rfl
      · rw [if_neg h143, if_neg h143]; rfl
theorem lay_pV {s : ts} {p : Nat} : (lay s).2.2 (pV p) = .inl (.int, 8, .inl (gV s p)) := by
  show (if pV p < 5 then _ else if pV p < 143 then _ else ts_p s (pV p)) = _
  unfold pV
  rw [if_neg (by omega), if_neg (by omega)]
  unfold ts_p
  rw [if_neg (by omega), if_pos (by omega), show (144 + 3 * p - 143) / 3 = p by omega]
theorem lay_pU {s : ts} {p : Nat} : (lay s).2.2 (pU p) = .inl (.int, 8, .inl (gU s p)) := by
  show (if pU p < 5 then _ else if pU p < 143 then _ else ts_p s (pU p)) = _
  unfold pU
  rw [if_neg (by omega), if_neg (by omega)]
  unfold ts_p
  rw [if_neg (by omega), if_neg (by omega), show (145 + 3 * p - 143) / 3 = p by omega]
theorem lay_wV {s : ts} {p k : Nat} {x : Int32} : am_up (lay s) (pV p) (.inl (.int, 8, .inl (upd (gV s p) k x))) = lay (wV s p k x) := by
  have hh : ∀ q, (if q = pV p then (.inl (.int, 8, .inl (upd (gV s p) k x)) : am_C) else (lay s).2.2 q) = (lay (wV s p k x)).2.2 q := by
    intro q
    by_cases hk : q = pV p
    · subst hk
      rw [if_pos rfl, lay_pV]
      have e : gV (wV s p k x) p = upd (gV s p) k x := by
        funext z
        show (if p = p ∧ z = k then x else gV s p z) = if z = k then x else gV s p z
        by_cases hz : z = k
        · rw [if_pos ⟨rfl, hz⟩, if_pos hz]
        · rw [if_neg (fun w => hz w.2), if_neg hz]
      rw [e]
    · rw [if_neg hk]
      show (if q < 5 then gO s q else if q < 143 then ts_c s q (ts_d q) else ts_p s q) = (if q < 5 then gO (wV s p k x) q else if q < 143 then ts_c (wV s p k x) q (ts_d q) else ts_p (wV s p k x) q)
      by_cases h9 : q < 5
      · rw [if_pos h9, if_pos h9]; rfl
      · rw [if_neg h9, if_neg h9]
        by_cases h143 : q < 143
        · rw [if_pos h143, if_pos h143]; rfl
        · rw [if_neg h143, if_neg h143]
          unfold ts_p
          by_cases h1 : (q - 143) % 3 = 0
          · rw [if_pos h1, if_pos h1]; rfl
          · rw [if_neg h1, if_neg h1]
            by_cases h2 : (q - 143) % 3 = 1
            · rw [if_pos h2, if_pos h2]
              have e : gV (wV s p k x) ((q - 143) / 3) = gV s ((q - 143) / 3) := by
                funext z
                show (if (q - 143) / 3 = p ∧ z = k then x else gV s ((q - 143) / 3) z) = _
                rw [if_neg (fun w => hk (by unfold pV; omega))]
              rw [e]
            · rw [if_neg h2, if_neg h2]; rfl
  exact congrArg (fun z => ((143 + 3 * gM s, 113995 + 29 * gM s, z) : am_H)) (funext hh)
theorem lay_wU {s : ts} {p k : Nat} {x : Int32} : am_up (lay s) (pU p) (.inl (.int, 8, .inl (upd (gU s p) k x))) = lay (wU s p k x) := by
  have hh : ∀ q, (if q = pU p then (.inl (.int, 8, .inl (upd (gU s p) k x)) : am_C) else (lay s).2.2 q) = (lay (wU s p k x)).2.2 q := by
    intro q
    by_cases hk : q = pU p
    · subst hk
      rw [if_pos rfl, lay_pU]
      have e : gU (wU s p k x) p = upd (gU s p) k x := by
        funext z
        show (if p = p ∧ z = k then x else gU s p z) = if z = k then x else gU s p z
        by_cases hz : z = k
        · rw [if_pos ⟨rfl, hz⟩, if_pos hz]
        · rw [if_neg (fun w => hz w.2), if_neg hz]
      rw [e]
    · rw [if_neg hk]
      show (if q < 5 then gO s q else if q < 143 then ts_c s q (ts_d q) else ts_p s q) = (if q < 5 then gO (wU s p k x) q else if q < 143 then ts_c (wU s p k x) q (ts_d q) else ts_p (wU s p k x) q)
      by_cases h9 : q < 5
      · rw [if_pos h9, if_pos h9]; rfl
      · rw [if_neg h9, if_neg h9]
        by_cases h143 : q < 143
        · rw [if_pos h143, if_pos h143]; rfl
        · rw [if_neg h143, if_neg h143]
          unfold ts_p
          by_cases h1 : (q - 143) % 3 = 0
          · rw [if_pos h1, if_pos h1]; rfl
          · rw [if_neg h1, if_neg h1]
            by_cases h2 : (q - 143) % 3 = 1
            · rw [if_pos h2, if_pos h2]; rfl
            · rw [if_neg h2, if_neg h2]
              have e : gU (wU s p k x) ((q - 143) / 3) = gU s ((q - 143) / 3) := by
                funext z
                show (if (q - 143) / 3 = p ∧ z = k then x else gU s ((q - 143) / 3) z) = _
                rw [if_neg (fun w => hk (by unfold pU; omega))]
              rw [e]
  exact congrArg (fun z => ((143 + 3 * gM s, 113995 + 29 * gM s, z) : am_H)) (funext hh)
def ts_in (r : Nat) : Bool := Nat.ble 5 r && Nat.ble r 142
theorem ts_in_ok {r : Nat} (h : ts_in r = true) : 5 ≤ r ∧ r < 143 := by
  unfold ts_in at h
  rw [Bool.and_eq_true] at h
  have a := Nat.le_of_ble_eq_true h.1
  have b := Nat.le_of_ble_eq_true h.2
  omega
theorem ts_arr {s : ts} {r n : Nat} {ty : FieldType} (hr : ts_in r = true) (hd : ts_d r = .inr (ty, n)) : am_at (lay s) r = some (ts_ar s r ty n) ∧ am_rd (lay s) r = some (ts_ar s r ty n) := by
  obtain ⟨a, b⟩ := ts_in_ok hr
  have e : (lay s).2.2 r = ts_ar s r ty n := by
    show (if r < 5 then _ else if r < 143 then ts_c s r (ts_d r) else _) = _
    rw [if_neg (by omega), if_pos b, hd]; rfl
  have h1 : am_at (lay s) r = some (ts_ar s r ty n) := by
    unfold am_at
    rw [if_pos ⟨a, by show r < 143 + 3 * gM s; omega⟩, e]
  refine ⟨h1, ?_⟩
  unfold am_rd
  rw [if_neg (by omega)]
  exact h1
theorem gSok_of {s : ts} (h : gSok s = true) : ∃ (n : Nat) (f : Nat → Int32), gO s 0 = .inl (.int, n, .inl f) ∧ gSn s = n ∧ gS s = f := by
  unfold gSok at h
  split at h
  · rename_i n f e
    exact ⟨n, f, e, by unfold gSn; rw [e], by funext k; unfold gS; rw [e]⟩
  · cases h
theorem gWok_of {s : ts} (h : gWok s = true) : ∃ (n : Nat) (f : Nat → Int32), gO s 3 = .inl (.char, n, .inl f) ∧ gWn s = n ∧ gW s = f := by
  unfold gWok at h
  split at h
  · rename_i n f e
    exact ⟨n, f, e, by unfold gWn; rw [e], by funext k; unfold gW; rw [e]⟩
  · cases h
section TR
variable {d mi pc pc' : Nat} {L L' : am_L} {S S' : List Value} {s : ts} {Q : Option Value → am_H → Prop} {M : tb_M} {i : Instr}
theorem tr_get {k ci j kd r o : Nat} {v : Value} (hm : tb_m mi = some M) (hi : tb_ins mi pc = some (.getfield k)) (hf : tb_fld M.1 k = some (ci, j, kd)) (ho : ts_ob s r ci o) (hj : (ts_n ci).ble j = false) (hv : ts_f s ci o j = v) (hp : pc + 3 = pc') (kk : am_Ev d mi (pc', L, v :: S) (lay s) Q) : am_Ev d mi (pc, L, .ref r :: S) (lay s) Q := by
  refine ev_hp hm hi rfl ?_ hp kk
  show am_getf M.1 k (.ref r :: S) (lay s) = _
  unfold am_getf
  dsimp only
  have := ho.1
  rw [if_neg (show ¬ r = 1 by omega), hf, ts_ob_at ho]
  dsimp only
  rw [if_pos rfl]
  have e : (ts_fs s ci o)[j]? = some v := by
    unfold ts_fs
    rw [List.getElem?_map, List.getElem?_range (ev_blt hj), ← hv]; rfl
  rw [e]
theorem tr_getN {k ci j kd r o f : Nat} {g : Nat → Nat} (hm : tb_m mi = some M) (hi : tb_ins mi pc = some (.getfield k)) (hf : tb_fld M.1 k = some (ci, j, kd)) (ho : ts_ob s r ci o) (hj : (ts_n ci).ble j = false) (hv : ts_f s ci o j = va_rf ((gR s f o).map g)) (hR : gR s f o = none) (hp : pc + 3 = pc') (kk : am_Ev d mi (pc', L, .null :: S) (lay s) Q) : am_Ev d mi (pc, L, .ref r :: S) (lay s) Q := tr_get hm hi hf ho hj (by rw [hv, hR]; rfl) hp kk
theorem tr_getS {k ci j kd r o f p : Nat} {g : Nat → Nat} (hm : tb_m mi = some M) (hi : tb_ins mi pc = some (.getfield k)) (hf : tb_fld M.1 k = some (ci, j, kd)) (ho : ts_ob s r ci o) (hj : (ts_n ci).ble j = false) (hv : ts_f s ci o j = va_rf ((gR s f o).map g)) (hR : gR s f o = some p) (hp : pc + 3 = pc') (kk : am_Ev d mi (pc', L, .ref (g p) :: S) (lay s) Q) : am_Ev d mi (pc, L, .ref r :: S) (lay s) Q := tr_get hm hi hf ho hj (by rw [hv, hR]; rfl) hp kk
theorem tr_put {k ci j kd r o : Nat} {v : Value} {s' : ts} (hm : tb_m mi = some M) (hi : tb_ins mi pc = some (.putfield k)) (hf : tb_fld M.1 k = some (ci, j, kd)) (hk : Nat.ble kd 1 = true) (ho : ts_ob s r ci o) (hj : (ts_n ci).ble j = false) (hv : am_fit (tb_ty ci j) v = true) (hw : am_up (lay s) r (.inr (ci, (ts_fs s ci o).set j v)) = lay s') (hp : pc + 3 = pc') (kk : am_Ev d mi (pc', L, S) (lay s') Q) : am_Ev d mi (pc, L, v :: .ref r :: S) (lay s) Q := by
  have hk := Nat.le_of_ble_eq_true hk
  have hl : j < (ts_fs s ci o).length := by unfold ts_fs; rw [List.length_map, List.length_range]; exact ev_blt hj
  rw [← hw] at kk
  refine ev_hp hm hi rfl ?_ hp kk
  show am_putf (M.2.1.name == "<init>") M.1 k (v :: .ref r :: S) (lay s) = _
  unfold am_putf
  dsimp only
  rw [hf, ts_ob_at ho]
  dsimp only
  rw [if_pos ⟨rfl, hl, hv, by omega, fun z => absurd z (by omega)⟩]
theorem ts_j100 {ci j : Nat} (hj : (ts_n ci).ble j = false) : j < 100 := by
  have := ev_blt hj
  have := ts_n_lt ci
  omega
theorem tr_pI {k ci j kd r o f : Nat} {x : Int32} (hm : tb_m mi = some M) (hi : tb_ins mi pc = some (.putfield k)) (hf : tb_fld M.1 k = some (ci, j, kd)) (hk : Nat.ble kd 1 = true) (ho : ts_ob s r ci o) (hj : (ts_n ci).ble j = false) (ht : tb_ty ci j = .int) (hfe : 100 * ci + j = f) (hp : pc + 3 = pc') (kk : am_Ev d mi (pc', L, S) (lay (wI s f o x)) Q) : am_Ev d mi (pc, L, .int x :: .ref r :: S) (lay s) Q := by
  subst hfe
  exact tr_put hm hi hf hk ho hj (by rw [ht]; rfl) (lay_wI ho (ts_j100 hj) (Or.inl ht)) hp kk
theorem tr_pZ {k ci j kd r o f : Nat} {x : Int32} (hm : tb_m mi = some M) (hi : tb_ins mi pc = some (.putfield k)) (hf : tb_fld M.1 k = some (ci, j, kd)) (hk : Nat.ble kd 1 = true) (ho : ts_ob s r ci o) (hj : (ts_n ci).ble j = false) (ht : tb_ty ci j = .boolean) (hx : x = 0 ∨ x = 1) (hfe : 100 * ci + j = f) (hp : pc + 3 = pc') (kk : am_Ev d mi (pc', L, S) (lay (wI s f o x)) Q) : am_Ev d mi (pc, L, .int x :: .ref r :: S) (lay s) Q := by
  subst hfe
  exact tr_put hm hi hf hk ho hj (by rw [ht]; rcases hx with rfl | rfl <;> rfl) (lay_wI ho (ts_j100 hj) (Or.inr ht)) hp kk
theorem tr_pJ {k ci j kd r o f : Nat} {x : Int64} (hm : tb_m mi = some M) (hi : tb_ins mi pc = some (.putfield k)) (hf : tb_fld M.1 k = some (ci, j, kd)) (hk : Nat.ble kd 1 = true) (ho : ts_ob s r ci o) (hj : (ts_n ci).ble j = false) (ht : tb_ty ci j = .long) (hfe : 100 * ci + j = f) (hp : pc + 3 = pc') (kk : am_Ev d mi (pc', L, S) (lay (wJ s f o x)) Q) : am_Ev d mi (pc, L, .long x :: .ref r :: S) (lay s) Q := by
  subst hfe
  exact tr_put hm hi hf hk ho hj (by rw [ht]; rfl) (lay_wJ ho (ts_j100 hj) ht) hp kk
theorem tr_pN {k ci j kd r o f : Nat} {C : String} (hm : tb_m mi = some M) (hi : tb_ins mi pc = some (.putfield k)) (hf : tb_fld M.1 k = some (ci, j, kd)) (hk : Nat.ble kd 1 = true) (ho : ts_ob s r ci o) (hj : (ts_n ci).ble j = false) (ht : tb_ty ci j = .object C) (hn : ts_k ci o j = none) (hfe : 100 * ci + j = f) (hp : pc + 3 = pc') (kk : am_Ev d mi (pc', L, S) (lay (wR s f o none)) Q) : am_Ev d mi (pc, L, .null :: .ref r :: S) (lay s) Q := by
  subst hfe
  exact tr_put hm hi hf hk ho hj (by rw [ht]; rfl) (lay_wR (x := none) ho (ts_j100 hj) ht hn) hp kk
theorem tr_pR {k ci j kd r o f p b : Nat} {C : String} (hm : tb_m mi = some M) (hi : tb_ins mi pc = some (.putfield k)) (hf : tb_fld M.1 k = some (ci, j, kd)) (hk : Nat.ble kd 1 = true) (ho : ts_ob s r ci o) (hj : (ts_n ci).ble j = false) (ht : tb_ty ci j = .object C) (hn : ts_k ci o j = none) (hb : ts_t ci j p = b) (hfe : 100 * ci + j = f) (hp : pc + 3 = pc') (kk : am_Ev d mi (pc', L, S) (lay (wR s f o (some p))) Q) : am_Ev d mi (pc, L, .ref b :: .ref r :: S) (lay s) Q := by
  subst hfe
  subst hb
  exact tr_put hm hi hf hk ho hj (by rw [ht]; rfl) (lay_wR (x := some p) ho (ts_j100 hj) ht hn) hp kk
-- arrays
theorem tr_iald {r n : Nat} {j : Int32} (hm : tb_m mi = some M) (hi : tb_ins mi pc = some .iaload) (hr : ts_in r = true) (hd : ts_d r = .inr (.int, n)) (hj : am_idx j n = true) (hp : pc + 1 = pc') (kk : am_Ev d mi (pc', L, .int (gA s r j.toNatClampNeg) :: S) (lay s) Q) : am_Ev d mi (pc, L, .int j :: .ref r :: S) (lay s) Q := by
  refine ev_hp hm hi rfl ?_ hp kk
  show am_iald (.int j :: .ref r :: S) (lay s) = _
  unfold am_iald
  dsimp only
  rw [(ts_arr hr hd).2]
  exact if_pos hj
theorem tr_bald {r n : Nat} {j : Int32} (hm : tb_m mi = some M) (hi : tb_ins mi pc = some .baload) (hr : ts_in r = true) (hd : ts_d r = .inr (.byte, n)) (hj : am_idx j n = true) (hp : pc + 1 = pc') (kk : am_Ev d mi (pc', L, .int (gA s r j.toNatClampNeg) :: S) (lay s) Q) : am_Ev d mi (pc, L, .int j :: .ref r :: S) (lay s) Q := by
  refine ev_hp hm hi rfl ?_ hp kk
  show am_bald (.int j :: .ref r :: S) (lay s) = _
  unfold am_bald
  dsimp only
  rw [(ts_arr hr hd).2]
  exact if_pos hj
theorem tr_zald {r n : Nat} {j : Int32} (hm : tb_m mi = some M) (hi : tb_ins mi pc = some .baload) (hr : ts_in r = true) (hd : ts_d r = .inr (.boolean, n)) (hj : am_idx j n = true) (hp : pc + 1 = pc') (kk : am_Ev d mi (pc', L, .int (gA s r j.toNatClampNeg) :: S) (lay s) Q) : am_Ev d mi (pc, L, .int j :: .ref r :: S) (lay s) Q := by
  refine ev_hp hm hi rfl ?_ hp kk
  show am_bald (.int j :: .ref r :: S) (lay s) = _
  unfold am_bald
  dsimp only
  rw [(ts_arr hr hd).2]
  exact if_pos hj
theorem tr_lald {r n : Nat} {j : Int32} (hm : tb_m mi = some M) (hi : tb_ins mi pc = some .laload) (hr : ts_in r = true) (hd : ts_d r = .inr (.long, n)) (hj : am_idx j n = true) (hp : pc + 1 = pc') (kk : am_Ev d mi (pc', L, .long (gB s r j.toNatClampNeg) :: S) (lay s) Q) : am_Ev d mi (pc, L, .int j :: .ref r :: S) (lay s) Q := by
  refine ev_hp hm hi rfl ?_ hp kk
  show am_lald (.int j :: .ref r :: S) (lay s) = _
  unfold am_lald
  dsimp only
  rw [(ts_arr hr hd).1]
  exact if_pos hj
theorem tr_iast {r n : Nat} {j x : Int32} (hm : tb_m mi = some M) (hi : tb_ins mi pc = some .iastore) (hr : ts_in r = true) (hd : ts_d r = .inr (.int, n)) (hj : am_idx j n = true) (hp : pc + 1 = pc') (kk : am_Ev d mi (pc', L, S) (lay (wA s r j.toNatClampNeg x)) Q) : am_Ev d mi (pc, L, .int x :: .int j :: .ref r :: S) (lay s) Q := by
  obtain ⟨a, b⟩ := ts_in_ok hr
  rw [← lay_wA a b hd (Or.inl rfl)] at kk
  refine ev_hp hm hi rfl ?_ hp kk
  show am_iast (.int x :: .int j :: .ref r :: S) (lay s) = _
  unfold am_iast
  dsimp only
  rw [(ts_arr hr hd).1]
  exact if_pos hj
theorem tr_bast {r n : Nat} {j x : Int32} (hm : tb_m mi = some M) (hi : tb_ins mi pc = some .bastore) (hr : ts_in r = true) (hd : ts_d r = .inr (.byte, n)) (hj : am_idx j n = true) (hp : pc + 1 = pc') (kk : am_Ev d mi (pc', L, S) (lay (wA s r j.toNatClampNeg (vp_nar .byte x))) Q) : am_Ev d mi (pc, L, .int x :: .int j :: .ref r :: S) (lay s) Q := by
  obtain ⟨a, b⟩ := ts_in_ok hr
  rw [← lay_wA a b hd (Or.inr (Or.inl rfl))] at kk
  refine ev_hp hm hi rfl ?_ hp kk
  show am_bast (.int x :: .int j :: .ref r :: S) (lay s) = _
  unfold am_bast
  dsimp only
  rw [(ts_arr hr hd).1]
  exact if_pos hj
theorem tr_zast {r n : Nat} {j x : Int32} (hm : tb_m mi = some M) (hi : tb_ins mi pc = some .bastore) (hr : ts_in r = true) (hd : ts_d r = .inr (.boolean, n)) (hj : am_idx j n = true) (hp : pc + 1 = pc') (kk : am_Ev d mi (pc', L, S) (lay (wA s r j.toNatClampNeg (vp_nar .boolean x))) Q) : am_Ev d mi (pc, L, .int x :: .int j :: .ref r :: S) (lay s) Q := by
  obtain ⟨a, b⟩ := ts_in_ok hr
  rw [← lay_wA a b hd (Or.inr (Or.inr rfl))] at kk
  refine ev_hp hm hi rfl ?_ hp kk
  show am_bast (.int x :: .int j :: .ref r :: S) (lay s) = _
  unfold am_bast
  dsimp only
  rw [(ts_arr hr hd).1]
  exact if_pos hj
theorem tr_last {r n : Nat} {j : Int32} {x : Int64} (hm : tb_m mi = some M) (hi : tb_ins mi pc = some .lastore) (hr : ts_in r = true) (hd : ts_d r = .inr (.long, n)) (hj : am_idx j n = true) (hp : pc + 1 = pc') (kk : am_Ev d mi (pc', L, S) (lay (wB s r j.toNatClampNeg x)) Q) : am_Ev d mi (pc, L, .long x :: .int j :: .ref r :: S) (lay s) Q := by
  obtain ⟨a, b⟩ := ts_in_ok hr
  rw [← lay_wB a b hd] at kk
  refine ev_hp hm hi rfl ?_ hp kk
  show am_last (.long x :: .int j :: .ref r :: S) (lay s) = _
  unfold am_last
  dsimp only
  rw [(ts_arr hr hd).1]
  exact if_pos hj
theorem ts_atV {p : Nat} (hp : p < gM s) : am_at (lay s) (pV p) = some (.inl (.int, 8, .inl (gV s p))) ∧ am_rd (lay s) (pV p) = some (.inl (.int, 8, .inl (gV s p))) := by
  have h1 : am_at (lay s) (pV p) = some (.inl (.int, 8, .inl (gV s p))) := by
    unfold am_at
    rw [if_pos ⟨by unfold pV; show (5 : Nat) ≤ _; omega, by unfold pV; show _ < 143 + 3 * gM s; omega⟩, lay_pV]
  refine ⟨h1, ?_⟩
  unfold am_rd
  rw [if_neg (by unfold pV; omega)]
  exact h1
theorem ts_atU {p : Nat} (hp : p < gM s) : am_at (lay s) (pU p) = some (.inl (.int, 8, .inl (gU s p))) ∧ am_rd (lay s) (pU p) = some (.inl (.int, 8, .inl (gU s p))) := by
  have h1 : am_at (lay s) (pU p) = some (.inl (.int, 8, .inl (gU s p))) := by
    unfold am_at
    rw [if_pos ⟨by unfold pU; show (5 : Nat) ≤ _; omega, by unfold pU; show _ < 143 + 3 * gM s; omega⟩, lay_pU]
  refine ⟨h1, ?_⟩
  unfold am_rd
  rw [if_neg (by unfold pU; omega)]
  exact h1
theorem tr_vald {p : Nat} {j : Int32} (hm : tb_m mi = some M) (hi : tb_ins mi pc = some .iaload) (hq : p < gM s) (hj : am_idx j 8 = true) (hp : pc + 1 = pc') (kk : am_Ev d mi (pc', L, .int (gV s p j.toNatClampNeg) :: S) (lay s) Q) : am_Ev d mi (pc, L, .int j :: .ref (pV p) :: S) (lay s) Q := by
  refine ev_hp hm hi rfl ?_ hp kk
  show am_iald (.int j :: .ref (pV p) :: S) (lay s) = _
  unfold am_iald
  dsimp only
  rw [(ts_atV hq).2]
  exact if_pos hj
theorem tr_uald {p : Nat} {j : Int32} (hm : tb_m mi = some M) (hi : tb_ins mi pc = some .iaload) (hq : p < gM s) (hj : am_idx j 8 = true) (hp : pc + 1 = pc') (kk : am_Ev d mi (pc', L, .int (gU s p j.toNatClampNeg) :: S) (lay s) Q) : am_Ev d mi (pc, L, .int j :: .ref (pU p) :: S) (lay s) Q := by
  refine ev_hp hm hi rfl ?_ hp kk
  show am_iald (.int j :: .ref (pU p) :: S) (lay s) = _
  unfold am_iald
  dsimp only
  rw [(ts_atU hq).2]
  exact if_pos hj
theorem tr_vast {p : Nat} {j x : Int32} (hm : tb_m mi = some M) (hi : tb_ins mi pc = some .iastore) (hq : p < gM s) (hj : am_idx j 8 = true) (hp : pc + 1 = pc') (kk : am_Ev d mi (pc', L, S) (lay (wV s p j.toNatClampNeg x)) Q) : am_Ev d mi (pc, L, .int x :: .int j :: .ref (pV p) :: S) (lay s) Q := by
  rw [← lay_wV] at kk
  refine ev_hp hm hi rfl ?_ hp kk
  show am_iast (.int x :: .int j :: .ref (pV p) :: S) (lay s) = _
  unfold am_iast
  dsimp only
  rw [(ts_atV hq).1]
  exact if_pos hj
theorem tr_uast {p : Nat} {j x : Int32} (hm : tb_m mi = some M) (hi : tb_ins mi pc = some .iastore) (hq : p < gM s) (hj : am_idx j 8 = true) (hp : pc + 1 = pc') (kk : am_Ev d mi (pc', L, S) (lay (wU s p j.toNatClampNeg x)) Q) : am_Ev d mi (pc, L, .int x :: .int j :: .ref (pU p) :: S) (lay s) Q := by
  rw [← lay_wU] at kk
  refine ev_hp hm hi rfl ?_ hp kk
  show am_iast (.int x :: .int j :: .ref (pU p) :: S) (lay s) = _
  unfold am_iast
  dsimp only
  rw [(ts_atU hq).1]
  exact if_pos hj
theorem am_idx_lt {j : Int32} {n : Nat} (h : am_idx j n = true) : j.toNatClampNeg < n := by
  have := of_decide_eq_true h
  exact Nat.not_le.mp (fun z => this (Or.inr z))
theorem tr_qald {j : Int32} (hm : tb_m mi = some M) (hi : tb_ins mi pc = some .aaload) (hj : am_idx j 14 = true) (hp : pc + 1 = pc') (kk : am_Ev d mi (pc', L, .ref (pQ j.toNatClampNeg) :: S) (lay s) Q) : am_Ev d mi (pc, L, .int j :: .ref 37 :: S) (lay s) Q := by
  refine ev_hp hm hi rfl ?_ hp kk
  show am_aald (.int j :: .ref 37 :: S) (lay s) = _
  unfold am_aald
  dsimp only
  rw [(ts_arr (s := s) (r := 37) (n := 14) (ty := .object "EventHall$Place") rfl rfl).1]
  have e : ts_q j.toNatClampNeg = some (pQ j.toNatClampNeg) := if_pos (am_idx_lt hj)
  refine Eq.trans (if_pos ⟨hj, by decide +kernel⟩) ?_
  show some (va_rf (ts_q j.toNatClampNeg) :: S, lay s) = _
  rw [e]; rfl
theorem tr_paldS {j : Int32} (hm : tb_m mi = some M) (hi : tb_ins mi pc = some .aaload) (hj : am_idx j 300 = true) (hq : j.toNatClampNeg < gM s) (hp : pc + 1 = pc') (kk : am_Ev d mi (pc', L, .ref (pB j.toNatClampNeg) :: S) (lay s) Q) : am_Ev d mi (pc, L, .int j :: .ref 82 :: S) (lay s) Q := by
  refine ev_hp hm hi rfl ?_ hp kk
  show am_aald (.int j :: .ref 82 :: S) (lay s) = _
  unfold am_aald
  dsimp only
  rw [(ts_arr (s := s) (r := 82) (n := 300) (ty := .object "EventHall$Proc") rfl rfl).1]
  have e : ts_m s j.toNatClampNeg = some (pB j.toNatClampNeg) := if_pos hq
  refine Eq.trans (if_pos ⟨hj, by decide +kernel⟩) ?_
  show some (va_rf (ts_m s j.toNatClampNeg) :: S, lay s) = _
  rw [e]; rfl
theorem tr_paldN {j : Int32} (hm : tb_m mi = some M) (hi : tb_ins mi pc = some .aaload) (hj : am_idx j 300 = true) (hq : ¬ j.toNatClampNeg < gM s) (hp : pc + 1 = pc') (kk : am_Ev d mi (pc', L, .null :: S) (lay s) Q) : am_Ev d mi (pc, L, .int j :: .ref 82 :: S) (lay s) Q := by
  refine ev_hp hm hi rfl ?_ hp kk
  show am_aald (.int j :: .ref 82 :: S) (lay s) = _
  unfold am_aald
  dsimp only
  rw [(ts_arr (s := s) (r := 82) (n := 300) (ty := .object "EventHall$Proc") rfl rfl).1]
  have e : ts_m s j.toNatClampNeg = none := if_neg hq
  refine Eq.trans (if_pos ⟨hj, by decide +kernel⟩) ?_
  show some (va_rf (ts_m s j.toNatClampNeg) :: S, lay s) = _
  rw [e]; rfl
theorem tr_alen {r n : Nat} {ty : FieldType} {x : Int32} (hm : tb_m mi = some M) (hi : tb_ins mi pc = some .arraylength) (hr : ts_in r = true) (hd : ts_d r = .inr (ty, n)) (ht : ty = .byte) (hx : Int32.ofNat n = x) (hp : pc + 1 = pc') (kk : am_Ev d mi (pc', L, .int x :: S) (lay s) Q) : am_Ev d mi (pc, L, .ref r :: S) (lay s) Q := by
  subst ht
  subst hx
  refine ev_hp hm hi rfl ?_ hp kk
  show am_alen (.ref r :: S) (lay s) = _
  unfold am_alen
  dsimp only
  rw [(ts_arr hr hd).2]
  exact if_pos (Or.inl (by decide +kernel))
-- outside
theorem ts_out {r : Nat} (h : r < 5) : (lay s).2.2 r = gO s r := if_pos h
theorem tr_slen (hm : tb_m mi = some M) (hi : tb_ins mi pc = some .arraylength) (hO : gSok s = true) (hp : pc + 1 = pc') (kk : am_Ev d mi (pc', L, .int (Int32.ofNat (gSn s)) :: S) (lay s) Q) : am_Ev d mi (pc, L, .ref 0 :: S) (lay s) Q := by
  refine ev_hp hm hi rfl ?_ hp kk
  show am_alen (.ref 0 :: S) (lay s) = _
  obtain ⟨n, f, e0, e1, e2⟩ := gSok_of hO
  unfold am_alen
  dsimp only
  have e : am_rd (lay s) 0 = some (.inl (.int, n, .inl f)) := by
    unfold am_rd
    rw [if_pos (Or.inl rfl), ts_out (by omega), e0]
  rw [e, e1]
  exact if_pos (Or.inl (by decide +kernel))
theorem tr_sld {j : Int32} (hm : tb_m mi = some M) (hi : tb_ins mi pc = some .iaload) (hO : gSok s = true) (hj : am_idx j (gSn s) = true) (hp : pc + 1 = pc') (kk : am_Ev d mi (pc', L, .int (gS s j.toNatClampNeg) :: S) (lay s) Q) : am_Ev d mi (pc, L, .int j :: .ref 0 :: S) (lay s) Q := by
  refine ev_hp hm hi rfl ?_ hp kk
  show am_iald (.int j :: .ref 0 :: S) (lay s) = _
  obtain ⟨n, f, e0, e1, e2⟩ := gSok_of hO
  rw [e1] at hj
  unfold am_iald
  dsimp only
  have e : am_rd (lay s) 0 = some (.inl (.int, n, .inl f)) := by
    unfold am_rd
    rw [if_pos (Or.inl rfl), ts_out (by omega), e0]
  rw [e, e2]
  exact if_pos hj
theorem tr_wst {k : Nat} (hm : tb_m mi = some M) (hi : tb_ins mi pc = some (.getstatic k)) (hs : tb_sta M.1 k = some 2) (hp : pc + 3 = pc') (kk : am_Ev d mi (pc', L, .ref 3 :: S) (lay s) Q) : am_Ev d mi (pc, L, S) (lay s) Q := by
  refine ev_hp hm hi rfl ?_ hp kk
  show am_gets M.1 k S (lay s) = _
  unfold am_gets
  rw [hs]
  rfl
theorem tr_wlen (hm : tb_m mi = some M) (hi : tb_ins mi pc = some .arraylength) (hO : gWok s = true) (hp : pc + 1 = pc') (kk : am_Ev d mi (pc', L, .int (Int32.ofNat (gWn s)) :: S) (lay s) Q) : am_Ev d mi (pc, L, .ref 3 :: S) (lay s) Q := by
  refine ev_hp hm hi rfl ?_ hp kk
  show am_alen (.ref 3 :: S) (lay s) = _
  obtain ⟨n, f, e0, e1, e2⟩ := gWok_of hO
  unfold am_alen
  dsimp only
  have e : am_rd (lay s) 3 = some (.inl (.char, n, .inl f)) := by
    unfold am_rd
    rw [if_pos (Or.inr (Or.inr rfl)), ts_out (by omega), e0]
  rw [e, e1]
  exact if_pos (Or.inr rfl)
theorem tr_wld {j : Int32} (hm : tb_m mi = some M) (hi : tb_ins mi pc = some .caload) (hO : gWok s = true) (hj : am_idx j (gWn s) = true) (hp : pc + 1 = pc') (kk : am_Ev d mi (pc', L, .int (gW s j.toNatClampNeg) :: S) (lay s) Q) : am_Ev d mi (pc, L, .int j :: .ref 3 :: S) (lay s) Q := by
  refine ev_hp hm hi rfl ?_ hp kk
  show am_cald (.int j :: .ref 3 :: S) (lay s) = _
  obtain ⟨n, f, e0, e1, e2⟩ := gWok_of hO
  rw [e1] at hj
  unfold am_cald
  dsimp only
  rw [if_pos rfl, ts_out (by omega), e0, e2]
  exact if_pos hj
-- constants
theorem tr_ldc {k : Nat} {x : Int32} (hm : tb_m mi = some M) (hi : tb_ins mi pc = some (.ldc k)) (hc : tb_cst M.1 k = some (.int x)) (hp : pc + 2 = pc') (kk : am_Ev d mi (pc', L, .int x :: S) (lay s) Q) : am_Ev d mi (pc, L, S) (lay s) Q := by
  refine ev_hp hm hi rfl ?_ hp kk
  show am_ldc M.1 k S (lay s) = _
  unfold am_ldc
  rw [hc]
theorem tr_ldcw {k : Nat} {x : Int32} (hm : tb_m mi = some M) (hi : tb_ins mi pc = some (.ldc_w k)) (hc : tb_cst M.1 k = some (.int x)) (hp : pc + 3 = pc') (kk : am_Ev d mi (pc', L, .int x :: S) (lay s) Q) : am_Ev d mi (pc, L, S) (lay s) Q := by
  refine ev_hp hm hi rfl ?_ hp kk
  show am_ldcw M.1 k S (lay s) = _
  unfold am_ldcw
  rw [hc]
theorem tr_ldc2 {k : Nat} {x : Int64} (hm : tb_m mi = some M) (hi : tb_ins mi pc = some (.ldc2_w k)) (hc : tb_cst M.1 k = some (.long x)) (hp : pc + 3 = pc') (kk : am_Ev d mi (pc', L, .long x :: S) (lay s) Q) : am_Ev d mi (pc, L, S) (lay s) Q := by
  refine ev_hp hm hi rfl ?_ hp kk
  show am_ldc2 M.1 k S (lay s) = _
  unfold am_ldc2
  rw [hc]
theorem tr_rcv {kd ci r o : Nat} {As : List Value} (ho : ts_ob s r ci o) (hne : (ci == tb_cS) = false) : am_rcv kd ci (lay s) (.ref r :: As) = true := by
  unfold am_rcv
  by_cases hk : kd = 0 ∨ kd = 3
  · rw [if_pos hk]
    dsimp only
    have := ho.1
    rw [if_neg (show ¬ r = 1 by omega), ts_ob_at ho]
    dsimp only
    rw [hne]
    simp
  · rw [if_neg hk]
end TR
-- answers
def tq_v (Q : ts → Prop) : Option Value → am_H → Prop := fun v h => ∃ s' : ts, v = none ∧ h = lay s' ∧ Q s'
def tq_i (Q : Int32 × ts → Prop) : Option Value → am_H → Prop := fun v h => ∃ (x : Int32) (s' : ts), v = some (.int x) ∧ h = lay s' ∧ Q (x, s')
def tq_j (Q : Int64 × ts → Prop) : Option Value → am_H → Prop := fun v h => ∃ (x : Int64) (s' : ts), v = some (.long x) ∧ h = lay s' ∧ Q (x, s')
def tq_r (g : Nat → Nat) (Q : Option Nat × ts → Prop) : Option Value → am_H → Prop := fun v h => ∃ (x : Option Nat) (s' : ts), v = some (va_rf (x.map g)) ∧ h = lay s' ∧ Q (x, s')
/-- it comes to something, and that is so -/
def Ok {α : Type} (o : Option α) (P : α → Prop) : Prop := ∃ a, o = some a ∧ P a
theorem Ok_s {α : Type} {a : α} {P : α → Prop} (h : Ok (some a) P) : P a := by
  obtain ⟨b, e, hb⟩ := h
  cases e
  exact hb
theorem Ok_n {α : Type} {P : α → Prop} {G : Prop} (h : Ok (none : Option α) P) : G := by
  obtain ⟨b, e, hb⟩ := h
  cases e
theorem Ok_t {α : Type} {c : Prop} {dc : Decidable c} {A B : Option α} {P : α → Prop} (hc : c) (h : Ok (@ite _ c dc A B) P) : Ok A P := by rwa [if_pos hc] at h
theorem Ok_f {α : Type} {c : Prop} {dc : Decidable c} {A B : Option α} {P : α → Prop} (hc : ¬ c) (h : Ok (@ite _ c dc A B) P) : Ok B P := by rwa [if_neg hc] at h
theorem Ok_g {α : Type} {c : Prop} {dc : Decidable c} {A : Option α} {P : α → Prop} (h : Ok (@ite _ c dc A none) P) : c ∧ Ok A P := by
  by_cases hc : c
  · exact ⟨hc, by rwa [if_pos hc] at h⟩
  · rw [if_neg hc] at h; exact Ok_n h
theorem Ok_b {α β : Type} {o : Option α} {f : α → Option β} {P : β → Prop} (h : Ok (o.bind f) P) : Ok o (fun a => Ok (f a) P) := by
  obtain ⟨b, e, hb⟩ := h
  cases o with
  | none => cases e
  | some a => exact ⟨a, rfl, b, e, hb⟩
theorem Ok_w {α : Type} {o : Option α} {P P' : α → Prop} (h : Ok o P) (hp : ∀ a, P a → P' a) : Ok o P' := by
  obtain ⟨a, e, ha⟩ := h
  exact ⟨a, e, hp a ha⟩
section TC
variable {d mi pc pc' : Nat} {L L' : am_L} {S : List Value} {s : ts} {Q : Option Value → am_H → Prop} {M : tb_M} {i : Instr}
variable {sk k mj kd ci : Nat} {M2 : tb_M} {A q : List Value} {A' : am_L}
theorem tr_cv {Q' : ts → Prop} (hm : tb_m mi = some M) (hi : tb_ins mi pc = some i) (hx : am_cix i = some (sk, k)) (hc : tb_cal M.1 k = some (mj, kd, ci)) (hm2 : tb_m mj = some M2) (ha : am_arg kd M2.2.2.1 S = some (A, q)) (hk : (decide (kd < 6) && (kd % 3 == sk)) = true) (hq : (am_low q).ble 8 = true) (hA : (am_low A).ble M2.2.2.2.2.1 = true) (hr : am_rcv kd ci (lay s) A = true) (hp : pc + 3 = pc') (hl : lv_args 0 A = A') (hc2 : am_Ev d mj (0, A', []) (lay s) (tq_v Q')) (kk : ∀ s' : ts, Q' s' → am_Ev (d + 1) mi (pc', L, q) (lay s') Q) : am_Ev (d + 1) mi (pc, L, S) (lay s) Q := by
  subst hl
  refine ev_call hm hi hx hc hm2 ha hk (Nat.le_of_ble_eq_true hq) (Nat.le_of_ble_eq_true hA) hr hp (hc2.weak ?_)
  intro v h' hv
  obtain ⟨s', rfl, rfl, hz⟩ := hv
  exact kk s' hz
theorem tr_ci {Q' : Int32 × ts → Prop} (hm : tb_m mi = some M) (hi : tb_ins mi pc = some i) (hx : am_cix i = some (sk, k)) (hc : tb_cal M.1 k = some (mj, kd, ci)) (hm2 : tb_m mj = some M2) (ha : am_arg kd M2.2.2.1 S = some (A, q)) (hk : (decide (kd < 6) && (kd % 3 == sk)) = true) (hq : (am_low q).ble 8 = true) (hA : (am_low A).ble M2.2.2.2.2.1 = true) (hr : am_rcv kd ci (lay s) A = true) (hp : pc + 3 = pc') (hl : lv_args 0 A = A') (hc2 : am_Ev d mj (0, A', []) (lay s) (tq_i Q')) (kk : ∀ (x : Int32) (s' : ts), Q' (x, s') → am_Ev (d + 1) mi (pc', L, .int x :: q) (lay s') Q) : am_Ev (d + 1) mi (pc, L, S) (lay s) Q := by
  subst hl
  refine ev_call hm hi hx hc hm2 ha hk (Nat.le_of_ble_eq_true hq) (Nat.le_of_ble_eq_true hA) hr hp (hc2.weak ?_)
  intro v h' hv
  obtain ⟨x, s', rfl, rfl, hz⟩ := hv
  exact kk x s' hz
theorem tr_cz {Q' : Int32 × ts → Prop} (hm : tb_m mi = some M) (hi : tb_ins mi pc = some i) (hx : am_cix i = some (sk, k)) (hc : tb_cal M.1 k = some (mj, kd, ci)) (hm2 : tb_m mj = some M2) (hb : M2.2.2.2.2.2 = some .boolean) (ha : am_arg kd M2.2.2.1 S = some (A, q)) (hk : (decide (kd < 6) && (kd % 3 == sk)) = true) (hq : (am_low q).ble 8 = true) (hA : (am_low A).ble M2.2.2.2.2.1 = true) (hr : am_rcv kd ci (lay s) A = true) (hp : pc + 3 = pc') (hl : lv_args 0 A = A') (hc2 : am_Ev d mj (0, A', []) (lay s) (tq_i Q')) (kk : ∀ (x : Int32) (s' : ts), (x = 0 ∨ x = 1) → Q' (x, s') → am_Ev (d + 1) mi (pc', L, .int x :: q) (lay s') Q) : am_Ev (d + 1) mi (pc, L, S) (lay s) Q := by
  subst hl
  obtain ⟨n, v, h', hr2, x, s', rfl, rfl, hz⟩ := hc2
  have h01 := am_run_bool n d mj _ _ _ _ M2 hm2 hb hr2
  have hx01 : x = 0 ∨ x = 1 := by
    rcases h01 with z | z <;> cases z
    · exact Or.inl rfl
    · exact Or.inr rfl
  exact ev_call hm hi hx hc hm2 ha hk (Nat.le_of_ble_eq_true hq) (Nat.le_of_ble_eq_true hA) hr hp ⟨n, _, _, hr2, kk x s' hx01 hz⟩
theorem tr_cj {Q' : Int64 × ts → Prop} (hm : tb_m mi = some M) (hi : tb_ins mi pc = some i) (hx : am_cix i = some (sk, k)) (hc : tb_cal M.1 k = some (mj, kd, ci)) (hm2 : tb_m mj = some M2) (ha : am_arg kd M2.2.2.1 S = some (A, q)) (hk : (decide (kd < 6) && (kd % 3 == sk)) = true) (hq : (am_low q).ble 8 = true) (hA : (am_low A).ble M2.2.2.2.2.1 = true) (hr : am_rcv kd ci (lay s) A = true) (hp : pc + 3 = pc') (hl : lv_args 0 A = A') (hc2 : am_Ev d mj (0, A', []) (lay s) (tq_j Q')) (kk : ∀ (x : Int64) (s' : ts), Q' (x, s') → am_Ev (d + 1) mi (pc', L, .long x :: q) (lay s') Q) : am_Ev (d + 1) mi (pc, L, S) (lay s) Q := by
  subst hl
  refine ev_call hm hi hx hc hm2 ha hk (Nat.le_of_ble_eq_true hq) (Nat.le_of_ble_eq_true hA) hr hp (hc2.weak ?_)
  intro v h' hv
  obtain ⟨x, s', rfl, rfl, hz⟩ := hv
  exact kk x s' hz
theorem tr_cr {g : Nat → Nat} {Q' : Option Nat × ts → Prop} (hm : tb_m mi = some M) (hi : tb_ins mi pc = some i) (hx : am_cix i = some (sk, k)) (hc : tb_cal M.1 k = some (mj, kd, ci)) (hm2 : tb_m mj = some M2) (ha : am_arg kd M2.2.2.1 S = some (A, q)) (hk : (decide (kd < 6) && (kd % 3 == sk)) = true) (hq : (am_low q).ble 8 = true) (hA : (am_low A).ble M2.2.2.2.2.1 = true) (hr : am_rcv kd ci (lay s) A = true) (hp : pc + 3 = pc') (hl : lv_args 0 A = A') (hc2 : am_Ev d mj (0, A', []) (lay s) (tq_r g Q')) (kn : ∀ s' : ts, Q' (none, s') → am_Ev (d + 1) mi (pc', L, .null :: q) (lay s') Q) (ks : ∀ (p : Nat) (s' : ts), Q' (some p, s') → am_Ev (d + 1) mi (pc', L, .ref (g p) :: q) (lay s') Q) : am_Ev (d + 1) mi (pc, L, S) (lay s) Q := by
  subst hl
  refine ev_call hm hi hx hc hm2 ha hk (Nat.le_of_ble_eq_true hq) (Nat.le_of_ble_eq_true hA) hr hp (hc2.weak ?_)
  intro v h' hv
  obtain ⟨x, s', rfl, rfl, hz⟩ := hv
  cases x with
  | none => exact kn s' hz
  | some p => exact ks p s' hz
end TC
