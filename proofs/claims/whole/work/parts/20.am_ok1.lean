theorem am_v_cat {ad : Nat → Nat} (v : Value) : (am_v ad v).category = v.category := by cases v <;> rfl
theorem am_ii_inv {f : Int32 → Int32 → Int32} {S S' : List Value} (h : am_ii f S = some S') : ∃ (x y : Int32) (r : List Value), S = .int y :: .int x :: r ∧ S' = .int (f x y) :: r := by
  unfold am_ii at h
  split at h
  · cases h; exact ⟨_, _, _, rfl, rfl⟩
  · cases h
theorem am_iz_inv {f : Int32 → Int32 → Int32} {S S' : List Value} (h : am_iz f S = some S') : ∃ (x y : Int32) (r : List Value), S = .int y :: .int x :: r ∧ S' = .int (f x y) :: r ∧ ¬ y = 0 := by
  unfold am_iz at h
  split at h
  · split at h
    · cases h
    · cases h; exact ⟨_, _, _, rfl, rfl, by assumption⟩
  · cases h
theorem am_i1_inv {f : Int32 → Int32} {S S' : List Value} (h : am_i1 f S = some S') : ∃ (x : Int32) (r : List Value), S = .int x :: r ∧ S' = .int (f x) :: r := by
  unfold am_i1 at h
  split at h
  · cases h; exact ⟨_, _, rfl, rfl⟩
  · cases h
theorem am_ll_inv {f : Int64 → Int64 → Int64} {S S' : List Value} (h : am_ll f S = some S') : ∃ (x y : Int64) (r : List Value), S = .long y :: .long x :: r ∧ S' = .long (f x y) :: r := by
  unfold am_ll at h
  split at h
  · cases h; exact ⟨_, _, _, rfl, rfl⟩
  · cases h
theorem am_lz_inv {f : Int64 → Int64 → Int64} {S S' : List Value} (h : am_lz f S = some S') : ∃ (x y : Int64) (r : List Value), S = .long y :: .long x :: r ∧ S' = .long (f x y) :: r ∧ ¬ y = 0 := by
  unfold am_lz at h
  split at h
  · split at h
    · cases h
    · cases h; exact ⟨_, _, _, rfl, rfl, by assumption⟩
  · cases h
theorem am_l1_inv {f : Int64 → Int64} {S S' : List Value} (h : am_l1 f S = some S') : ∃ (x : Int64) (r : List Value), S = .long x :: r ∧ S' = .long (f x) :: r := by
  unfold am_l1 at h
  split at h
  · cases h; exact ⟨_, _, rfl, rfl⟩
  · cases h
theorem am_li_inv {f : Int64 → Int32 → Int64} {S S' : List Value} (h : am_li f S = some S') : ∃ (x : Int64) (y : Int32) (r : List Value), S = .int y :: .long x :: r ∧ S' = .long (f x y) :: r := by
  unfold am_li at h
  split at h
  · cases h; exact ⟨_, _, _, rfl, rfl⟩
  · cases h
theorem am_lc_inv {S S' : List Value} (h : am_lc S = some S') : ∃ (x y : Int64) (r : List Value), S = .long y :: .long x :: r ∧ S' = .int (lg_cmp x y) :: r := by
  unfold am_lc at h
  split at h
  · cases h; exact ⟨_, _, _, rfl, rfl⟩
  · cases h
theorem am_i2l_inv {S S' : List Value} (h : am_i2l S = some S') : ∃ (x : Int32) (r : List Value), S = .int x :: r ∧ S' = .long x.toInt64 :: r := by
  unfold am_i2l at h
  split at h
  · cases h; exact ⟨_, _, rfl, rfl⟩
  · cases h
theorem am_l2i_inv {S S' : List Value} (h : am_l2i S = some S') : ∃ (x : Int64) (r : List Value), S = .long x :: r ∧ S' = .int x.toInt32 :: r := by
  unfold am_l2i at h
  split at h
  · cases h; exact ⟨_, _, rfl, rfl⟩
  · cases h
theorem am_dup_inv {S S' : List Value} (h : am_dup S = some S') : ∃ (v : Value) (r : List Value), S = v :: r ∧ S' = v :: v :: r ∧ v.category = 1 := by
  unfold am_dup at h
  split at h
  · split at h
    · cases h; exact ⟨_, _, rfl, rfl, by assumption⟩
    · cases h
  · cases h
theorem am_pop_inv {S S' : List Value} (h : am_pop S = some S') : ∃ (v : Value), S = v :: S' ∧ v.category = 1 := by
  unfold am_pop at h
  split at h
  · split at h
    · cases h; exact ⟨_, rfl, by assumption⟩
    · cases h
  · cases h
theorem am_pop2_inv {S S' : List Value} (h : am_pop2 S = some S') : ∃ (v : Value), S = v :: S' ∧ v.category = 2 := by
  unfold am_pop2 at h
  split at h
  · split at h
    · cases h; exact ⟨_, rfl, by assumption⟩
    · cases h
  · cases h
theorem am_dx1_inv {S S' : List Value} (h : am_dx1 S = some S') : ∃ (v w : Value) (r : List Value), S = v :: w :: r ∧ S' = v :: w :: v :: r ∧ v.category = 1 ∧ w.category = 1 := by
  unfold am_dx1 at h
  split at h
  · split at h
    · cases h; exact ⟨_, _, _, rfl, rfl, by assumption⟩
    · cases h
  · cases h
theorem am_dx2_inv {S S' : List Value} (h : am_dx2 S = some S') : ∃ (v w z : Value) (r : List Value), S = v :: w :: z :: r ∧ S' = v :: w :: z :: v :: r ∧ v.category = 1 ∧ w.category = 1 ∧ z.category = 1 := by
  unfold am_dx2 at h
  split at h
  · split at h
    · cases h; exact ⟨_, _, _, _, rfl, rfl, by assumption⟩
    · cases h
  · cases h
theorem am_du2_inv {S S' : List Value} (h : am_du2 S = some S') : ∃ (v w : Value) (r : List Value), S = v :: w :: r ∧ S' = v :: w :: v :: w :: r ∧ v.category = 1 ∧ w.category = 1 := by
  unfold am_du2 at h
  split at h
  · split at h
    · cases h; exact ⟨_, _, _, rfl, rfl, by assumption⟩
    · cases h
  · cases h
theorem am_d2x1_inv {S S' : List Value} (h : am_d2x1 S = some S') : ∃ (v w : Value) (r : List Value), S = v :: w :: r ∧ S' = v :: w :: v :: r ∧ v.category = 2 ∧ w.category = 1 := by
  unfold am_d2x1 at h
  split at h
  · split at h
    · cases h; exact ⟨_, _, _, rfl, rfl, by assumption⟩
    · cases h
  · cases h
/-- the locals, moved -/
def am_lm (ad : Nat → Nat) (L : am_L) : am_L := L.map (fun q => (q.1, am_v ad q.2))
theorem am_lk_mem {L : am_L} {i : Nat} {v : Value} (h : am_lk L i = some v) : (i, v) ∈ L := by
  induction L with
  | nil => cases h
  | cons q r ih =>
    unfold am_lk at h
    split at h
    · cases h
      rename_i e
      rw [← e]
      exact List.mem_cons_self
    · exact List.mem_cons_of_mem _ (ih h)
theorem am_lm_mem {ad : Nat → Nat} {L : am_L} {i : Nat} {v : Value} (h : am_lk L i = some v) : (i, am_v ad v) ∈ am_lm ad L := List.mem_map.mpr ⟨(i, v), am_lk_mem h, rfl⟩
theorem am_lm_at {ad : Nat → Nat} {ls : Array Slot} {nL : Nat} {L : am_L} {i : Nat} {v : Value} (hl : lv_has ls nL (am_lm ad L)) (h : am_lk L i = some v) : ls[i]? = some (.val (am_v ad v)) := hl.2.2 (i, am_v ad v) (am_lm_mem h)
theorem am_lm_st {ad : Nat → Nat} {L : am_L} {i : Nat} {v : Value} : (i, am_v ad v) :: (am_lm ad L).filter (fun q => !(q.1 == i) && !(q.1 + 1 == i && q.2.category == 2)) = am_lm ad (am_st L i v) := by
  simp [am_lm, am_st, List.filter_map, Function.comp_def, am_v_cat]
theorem am_lm_st2 {ad : Nat → Nat} {L : am_L} {i : Nat} {v : Value} : (i, am_v ad v) :: (am_lm ad L).filter (fun q => !(q.1 == i) && (!(q.1 == i + 1) && !(q.1 + 1 == i && q.2.category == 2))) = am_lm ad (am_st2 L i v) := by
  simp [am_lm, am_st2, List.filter_map, Function.comp_def, am_v_cat]
section AM1
variable {p : Program} {l : Launch} {e : Env} {R : Room} {s : State} {m : MethodId} {args : Array Value} {below : List Frame} {meth : Method} {c : Code} {H : Heap} {locs : List Loc} {cells slots : Nat} {Q : State → Prop}
variable {cc : ByteArray} {pc : Nat} {ls : Array Slot} {ad : Nat → Nat}
set_option maxHeartbeats 4000000 in
theorem am_alu_ok (hx : p.tables.exec = Jvm.exec) (hb : c.code = cc) {i : Instr} {S S' : List Value} (h : am_alu i S = some S') (hd : decode cc pc = .ok (i, am_len i)) (k : W p l e R s m args below meth c H locs cells slots Q (F0 m (pc + am_len i) ls (S'.map (am_v ad)))) : W p l e R s m args below meth c H locs cells slots Q (F0 m pc ls (S.map (am_v ad))) := by
  cases i <;> simp only [am_alu, reduceCtorEq] at h
  case aconst_null => cases h; exact lv_null hx hb hd k
  case iconst n => cases h; exact lv_iconst hx hb hd rfl k
  case bipush n => cases h; exact lv_bipush hx hb hd rfl k
  case sipush n => cases h; exact lv_sipush hx hb hd rfl k
  case lconst n => cases h; exact lv_lconst hx hb hd rfl k
  case iadd => obtain ⟨x, y, r, rfl, rfl⟩ := am_ii_inv h; exact lv_iadd hx hb hd k
  case isub => obtain ⟨x, y, r, rfl, rfl⟩ := am_ii_inv h; exact lv_isub hx hb hd k
  case imul => obtain ⟨x, y, r, rfl, rfl⟩ := am_ii_inv h; exact lv_imul hx hb hd k
  case iand => obtain ⟨x, y, r, rfl, rfl⟩ := am_ii_inv h; exact lv_iand hx hb hd k
  case ior => obtain ⟨x, y, r, rfl, rfl⟩ := am_ii_inv h; exact lv_ior hx hb hd k
  case ixor => obtain ⟨x, y, r, rfl, rfl⟩ := am_ii_inv h; exact lv_ixor hx hb hd k
  case ishl => obtain ⟨x, y, r, rfl, rfl⟩ := am_ii_inv h; exact lv_ishl hx hb hd k
  case ishr => obtain ⟨x, y, r, rfl, rfl⟩ := am_ii_inv h; exact lv_ishr hx hb hd k
  case iushr => obtain ⟨x, y, r, rfl, rfl⟩ := am_ii_inv h; exact lv_iushr hx hb hd rfl k
  case idiv => obtain ⟨x, y, r, rfl, rfl, hz⟩ := am_iz_inv h; exact lv_idiv hx hb hd hz k
  case irem => obtain ⟨x, y, r, rfl, rfl, hz⟩ := am_iz_inv h; exact lv_irem hx hb hd hz k
  case ineg => obtain ⟨x, r, rfl, rfl⟩ := am_i1_inv h; exact lv_ineg hx hb hd k
  case i2b => obtain ⟨x, r, rfl, rfl⟩ := am_i1_inv h; exact lv_i2b hx hb hd rfl k
  case i2c => obtain ⟨x, r, rfl, rfl⟩ := am_i1_inv h; exact lv_i2c hx hb hd rfl k
  case i2s => obtain ⟨x, r, rfl, rfl⟩ := am_i1_inv h; exact lv_i2s hx hb hd rfl k
  case ladd => obtain ⟨x, y, r, rfl, rfl⟩ := am_ll_inv h; exact lv_ladd hx hb hd k
  case lsub => obtain ⟨x, y, r, rfl, rfl⟩ := am_ll_inv h; exact lv_lsub hx hb hd k
  case lmul => obtain ⟨x, y, r, rfl, rfl⟩ := am_ll_inv h; exact lv_lmul hx hb hd k
  case land => obtain ⟨x, y, r, rfl, rfl⟩ := am_ll_inv h; exact lv_land hx hb hd k
  case lor => obtain ⟨x, y, r, rfl, rfl⟩ := am_ll_inv h; exact lv_lor hx hb hd k
  case lxor => obtain ⟨x, y, r, rfl, rfl⟩ := am_ll_inv h; exact lv_lxor hx hb hd k
  case ldiv => obtain ⟨x, y, r, rfl, rfl, hz⟩ := am_lz_inv h; exact lv_ldiv hx hb hd hz k
  case lrem => obtain ⟨x, y, r, rfl, rfl, hz⟩ := am_lz_inv h; exact lv_lrem hx hb hd hz k
  case lneg => obtain ⟨x, r, rfl, rfl⟩ := am_l1_inv h; exact lv_lneg hx hb hd k
  case lshl => obtain ⟨x, y, r, rfl, rfl⟩ := am_li_inv h; exact lv_lshl hx hb hd rfl k
  case lshr => obtain ⟨x, y, r, rfl, rfl⟩ := am_li_inv h; exact lv_lshr hx hb hd rfl k
  case lushr => obtain ⟨x, y, r, rfl, rfl⟩ := am_li_inv h; exact lv_lushr hx hb hd rfl k
  case lcmp => obtain ⟨x, y, r, rfl, rfl⟩ := am_lc_inv h; exact W.lcmp hx hb hd k
  case i2l => obtain ⟨x, r, rfl, rfl⟩ := am_i2l_inv h; exact lv_i2l hx hb hd rfl k
  case l2i => obtain ⟨x, r, rfl, rfl⟩ := am_l2i_inv h; exact lv_l2i hx hb hd rfl k
  case dup => obtain ⟨v, r, rfl, rfl, hv⟩ := am_dup_inv h; exact lv_dup hx hb hd ((am_v_cat v).trans hv) k
  case pop => obtain ⟨v, rfl, hv⟩ := am_pop_inv h; exact lv_pop hx hb hd ((am_v_cat v).trans hv) k
  case pop2 => obtain ⟨v, rfl, hv⟩ := am_pop2_inv h; exact lv_pop2_2 hx hb hd ((am_v_cat v).trans hv) k
  case dup_x1 => obtain ⟨v, w, r, rfl, rfl, hv, hw⟩ := am_dx1_inv h; exact lv_dup_x1 hx hb hd ((am_v_cat v).trans hv) ((am_v_cat w).trans hw) k
  case dup_x2 => obtain ⟨v, w, z, r, rfl, rfl, hv, hw, hz⟩ := am_dx2_inv h; exact lv_dup_x2 hx hb hd ((am_v_cat v).trans hv) ((am_v_cat w).trans hw) ((am_v_cat z).trans hz) k
  case dup2 => obtain ⟨v, w, r, rfl, rfl, hv, hw⟩ := am_du2_inv h; exact lv_dup2_11 hx hb hd ((am_v_cat v).trans hv) ((am_v_cat w).trans hw) k
  case dup2_x1 => obtain ⟨v, w, r, rfl, rfl, hv, hw⟩ := am_d2x1_inv h; exact lv_dup2_x1_2 hx hb hd ((am_v_cat v).trans hv) ((am_v_cat w).trans hw) k
theorem am_ldi_inv {L L' : am_L} {i : Nat} {S S' : List Value} (h : am_ldi L i S = some (L', S')) : ∃ x : Int32, am_lk L i = some (.int x) ∧ L' = L ∧ S' = .int x :: S := by
  unfold am_ldi at h
  split at h
  · rename_i x hx; cases h; exact ⟨x, hx, rfl, rfl⟩
  · cases h
theorem am_ldl_inv {L L' : am_L} {i : Nat} {S S' : List Value} (h : am_ldl L i S = some (L', S')) : ∃ x : Int64, am_lk L i = some (.long x) ∧ L' = L ∧ S' = .long x :: S := by
  unfold am_ldl at h
  split at h
  · rename_i x hx; cases h; exact ⟨x, hx, rfl, rfl⟩
  · cases h
theorem am_lda_inv {L L' : am_L} {i : Nat} {S S' : List Value} (h : am_lda L i S = some (L', S')) : L' = L ∧ ((∃ x : Nat, am_lk L i = some (.ref x) ∧ S' = .ref x :: S) ∨ (am_lk L i = some .null ∧ S' = .null :: S)) := by
  unfold am_lda at h
  split at h
  · rename_i x hx; cases h; exact ⟨rfl, Or.inl ⟨x, hx, rfl⟩⟩
  · rename_i hx; cases h; exact ⟨rfl, Or.inr ⟨hx, rfl⟩⟩
  · cases h
theorem am_sti_inv {n : Nat} {L L' : am_L} {i : Nat} {S S' : List Value} (h : am_sti n L i S = some (L', S')) : ∃ x : Int32, S = .int x :: S' ∧ L' = am_st L i (.int x) ∧ i < n := by
  unfold am_sti at h
  split at h
  · split at h
    · cases h; exact ⟨_, rfl, rfl, by assumption⟩
    · cases h
  · cases h
theorem am_stl_inv {n : Nat} {L L' : am_L} {i : Nat} {S S' : List Value} (h : am_stl n L i S = some (L', S')) : ∃ x : Int64, S = .long x :: S' ∧ L' = am_st2 L i (.long x) ∧ i + 1 < n := by
  unfold am_stl at h
  split at h
  · split at h
    · cases h; exact ⟨_, rfl, rfl, by assumption⟩
    · cases h
  · cases h
theorem am_sta_inv {n : Nat} {L L' : am_L} {i : Nat} {S S' : List Value} (h : am_sta n L i S = some (L', S')) : i < n ∧ ((∃ x : Nat, S = .ref x :: S' ∧ L' = am_st L i (.ref x)) ∨ (S = .null :: S' ∧ L' = am_st L i .null)) := by
  unfold am_sta at h
  split at h
  · split at h
    · cases h; exact ⟨by assumption, Or.inl ⟨_, rfl, rfl⟩⟩
    · cases h
  · split at h
    · cases h; exact ⟨by assumption, Or.inr ⟨rfl, rfl⟩⟩
    · cases h
  · cases h
theorem am_inc_inv {n : Nat} {L L' : am_L} {i : Nat} {k : Int} {S S' : List Value} (h : am_inc n L i k S = some (L', S')) : ∃ x : Int32, am_lk L i = some (.int x) ∧ S' = S ∧ L' = am_st L i (.int (x + Int32.ofInt k)) ∧ i < n := by
  unfold am_inc at h
  split at h
  · rename_i x hx
    split at h
    · cases h; exact ⟨x, hx, rfl, rfl, by assumption⟩
    · cases h
  · cases h
set_option maxHeartbeats 4000000 in
theorem am_loc_ok (hx : p.tables.exec = Jvm.exec) (hb : c.code = cc) {nL : Nat} {i : Instr} {L L' : am_L} {S S' : List Value} (h : am_loc nL i L S = some (L', S')) (hd : decode cc pc = .ok (i, am_len i)) (hl : lv_has ls nL (am_lm ad L)) (k : ∀ ls' : Array Slot, lv_has ls' nL (am_lm ad L') → W p l e R s m args below meth c H locs cells slots Q (F0 m (pc + am_len i) ls' (S'.map (am_v ad)))) : W p l e R s m args below meth c H locs cells slots Q (F0 m pc ls (S.map (am_v ad))) := by
  cases i <;> simp only [am_loc, reduceCtorEq] at h
  case iload j => obtain ⟨x, hx1, rfl, rfl⟩ := am_ldi_inv h; exact lv_iload hx hb hd (am_lm_at hl hx1) (k ls hl)
  case iload_n j => obtain ⟨x, hx1, rfl, rfl⟩ := am_ldi_inv h; exact lv_iload_n hx hb hd rfl (am_lm_at hl hx1) (k ls hl)
  case lload j => obtain ⟨x, hx1, rfl, rfl⟩ := am_ldl_inv h; exact lv_lload hx hb hd (am_lm_at hl hx1) (k ls hl)
  case lload_n j => obtain ⟨x, hx1, rfl, rfl⟩ := am_ldl_inv h; exact lv_lload_n hx hb hd rfl (am_lm_at hl hx1) (k ls hl)
  case aload j =>
    obtain ⟨rfl, h⟩ := am_lda_inv h
    rcases h with ⟨x, hx1, rfl⟩ | ⟨hx1, rfl⟩
    · exact lv_aload hx hb hd (am_lm_at hl hx1) (k ls hl)
    · exact lv_aloadN hx hb hd (am_lm_at hl hx1) (k ls hl)
  case aload_n j =>
    obtain ⟨rfl, h⟩ := am_lda_inv h
    rcases h with ⟨x, hx1, rfl⟩ | ⟨hx1, rfl⟩
    · exact lv_aload_n hx hb hd rfl (am_lm_at hl hx1) (k ls hl)
    · exact lv_aload_nN hx hb hd rfl (am_lm_at hl hx1) (k ls hl)
  case istore j => obtain ⟨x, rfl, rfl, hn⟩ := am_sti_inv h; exact lv_istore hx hb hd hl hn (am_lm_st (ad := ad) (v := .int x)) k
  case istore_n j => obtain ⟨x, rfl, rfl, hn⟩ := am_sti_inv h; exact lv_istore_n hx hb hd rfl hl hn (am_lm_st (ad := ad) (v := .int x)) k
  case lstore j => obtain ⟨x, rfl, rfl, hn⟩ := am_stl_inv h; exact lv_lstore hx hb hd hl hn (am_lm_st2 (ad := ad) (v := .long x)) k
  case lstore_n j => obtain ⟨x, rfl, rfl, hn⟩ := am_stl_inv h; exact lv_lstore_n hx hb hd rfl hl hn (am_lm_st2 (ad := ad) (v := .long x)) k
  case astore j =>
    obtain ⟨hn, h⟩ := am_sta_inv h
    rcases h with ⟨x, rfl, rfl⟩ | ⟨rfl, rfl⟩
    · exact lv_astore hx hb hd hl hn (am_lm_st (ad := ad) (v := .ref x)) k
    · exact lv_astoreN hx hb hd hl hn (am_lm_st (ad := ad) (v := .null)) k
  case astore_n j =>
    obtain ⟨hn, h⟩ := am_sta_inv h
    rcases h with ⟨x, rfl, rfl⟩ | ⟨rfl, rfl⟩
    · exact lv_astore_n hx hb hd rfl hl hn (am_lm_st (ad := ad) (v := .ref x)) k
    · exact lv_astore_nN hx hb hd rfl hl hn (am_lm_st (ad := ad) (v := .null)) k
  case iinc j q =>
    obtain ⟨x, hx1, rfl, rfl, hn⟩ := am_inc_inv h
    obtain ⟨kk, hkk⟩ := List.getElem?_of_mem (am_lm_mem (ad := ad) hx1)
    exact lv_iinc hx hb hd hl hkk rfl hn (am_lm_st (ad := ad) (v := .int (x + Int32.ofInt q))) k
theorem am_to_inv {off : Int} {S S' : List Value} {t : Nat} (h : am_to pc off S = some (t, S')) : (pc : Int) + off = (t : Int) ∧ S' = S := by
  unfold am_to at h
  split at h
  · cases h
    exact ⟨by omega, rfl⟩
  · cases h
theorem am_rq_map {v : Value} {r : Option Nat} (h : am_rq v = some r) : am_v ad v = va_rf (r.map ad) ∧ ∀ x, r = some x → am_K ≤ x := by
  cases v <;> simp only [am_rq, reduceCtorEq] at h
  case null => cases h; exact ⟨rfl, fun x z => by cases z⟩
  case ref a =>
    split at h
    · rename_i hk
      cases h
      exact ⟨rfl, fun x z => by cases z; exact hk⟩
    · cases h
theorem am_inj (hI : ∀ a b : Nat, am_K ≤ a → am_K ≤ b → ad a = ad b → a = b) (x y : Option Nat) (hx : ∀ z, x = some z → am_K ≤ z) (hy : ∀ z, y = some z → am_K ≤ z) : x.map ad = y.map ad ↔ x = y := by
  cases x <;> cases y <;> simp
  exact ⟨fun h => hI _ _ (hx _ rfl) (hy _ rfl) h, fun h => by rw [h]⟩
theorem am_br_inv {off : Int} {b : Bool} {S S' : List Value} {t : Nat} (h : am_br pc off b S = some (t, S')) : ∃ tgt : Nat, (pc : Int) + off = (tgt : Int) ∧ S' = S ∧ t = if b = true then tgt else pc + 3 := by
  unfold am_br at h
  split at h
  · cases h
    exact ⟨((pc : Int) + off).toNat, by omega, rfl, rfl⟩
  · cases h
set_option maxHeartbeats 4000000 in
theorem am_jmp_ok (hx : p.tables.exec = Jvm.exec) (hb : c.code = cc) (hI : ∀ a b : Nat, am_K ≤ a → am_K ≤ b → ad a = ad b → a = b) {i : Instr} {S S' : List Value} {t len : Nat} (h : am_jmp pc i S = some (t, S')) (hd : decode cc pc = .ok (i, len)) (hlen : am_isw i = true ∨ len = am_len i) (k : W p l e R s m args below meth c H locs cells slots Q (F0 m t ls (S'.map (am_v ad)))) : W p l e R s m args below meth c H locs cells slots Q (F0 m pc ls (S.map (am_v ad))) := by
  cases i <;> simp only [am_jmp, reduceCtorEq] at h
  case goto off =>
    simp only [am_isw, am_len, Bool.false_eq_true, false_or] at hlen; subst hlen
    obtain ⟨h1, rfl⟩ := am_to_inv h; exact lv_goto hx hb hd h1 k
  case ifCond cn off =>
    simp only [am_isw, am_len, Bool.false_eq_true, false_or] at hlen; subst hlen
    unfold am_jz at h
    split at h
    · rename_i x r
      obtain ⟨tgt, h1, rfl, rfl⟩ := am_br_inv h
      cases cn <;> simp only [am_cnd, decide_eq_true_eq] at k
      case eq => exact lv_if_eq hx hb hd h1 (fun z => by rwa [if_pos z] at k) (fun z => by rwa [if_neg z] at k)
      case ne => exact lv_if_ne hx hb hd h1 (fun z => by rwa [if_pos z] at k) (fun z => by rwa [if_neg (fun q => q z)] at k)
      case lt => exact lv_if_lt hx hb hd h1 (fun z => by rwa [if_pos z] at k) (fun z => by rwa [if_neg z] at k)
      case ge => exact lv_if_ge hx hb hd h1 (fun z => by rwa [if_pos z] at k) (fun z => by rwa [if_neg z] at k)
      case gt => exact lv_if_gt hx hb hd h1 (fun z => by rwa [if_pos z] at k) (fun z => by rwa [if_neg z] at k)
      case le => exact lv_if_le hx hb hd h1 (fun z => by rwa [if_pos z] at k) (fun z => by rwa [if_neg z] at k)
    · cases h
  case if_icmp cn off =>
    simp only [am_isw, am_len, Bool.false_eq_true, false_or] at hlen; subst hlen
    unfold am_jc at h
    split at h
    · rename_i y x r
      obtain ⟨tgt, h1, rfl, rfl⟩ := am_br_inv h
      cases cn <;> simp only [am_cnd, decide_eq_true_eq] at k
      case eq => exact lv_icmp_eq hx hb hd h1 (fun z => by rwa [if_pos z] at k) (fun z => by rwa [if_neg z] at k)
      case ne => exact lv_icmp_ne hx hb hd h1 (fun z => by rwa [if_pos z] at k) (fun z => by rwa [if_neg (fun q => q z)] at k)
      case lt => exact lv_icmp_lt hx hb hd h1 (fun z => by rwa [if_pos z] at k) (fun z => by rwa [if_neg z] at k)
      case ge => exact lv_icmp_ge hx hb hd h1 (fun z => by rwa [if_pos z] at k) (fun z => by rwa [if_neg z] at k)
      case gt => exact lv_icmp_gt hx hb hd h1 (fun z => by rwa [if_pos z] at k) (fun z => by rwa [if_neg z] at k)
      case le => exact lv_icmp_le hx hb hd h1 (fun z => by rwa [if_pos z] at k) (fun z => by rwa [if_neg z] at k)
    · cases h
  case ifnull off =>
    simp only [am_isw, am_len, Bool.false_eq_true, false_or] at hlen; subst hlen
    unfold am_jn at h
    split at h
    · obtain ⟨h1, rfl⟩ := am_to_inv h; exact lv_ifnullN hx hb hd h1 k
    · cases h; exact lv_ifnull hx hb hd k
    · cases h
  case ifnonnull off =>
    simp only [am_isw, am_len, Bool.false_eq_true, false_or] at hlen; subst hlen
    unfold am_jq at h
    split at h
    · cases h; exact lv_ifnonnullN hx hb hd k
    · obtain ⟨h1, rfl⟩ := am_to_inv h; exact lv_ifnonnull hx hb hd h1 k
    · cases h
  case if_acmp cn off =>
    simp only [am_isw, am_len, Bool.false_eq_true, false_or] at hlen; subst hlen
    unfold am_ja at h
    split at h
    · rename_i y x r
      split at h
      · rename_i rx ry h3 h4
        obtain ⟨tgt, h1, rfl, rfl⟩ := am_br_inv h
        obtain ⟨e3, k3⟩ := am_rq_map (ad := ad) h3
        obtain ⟨e4, k4⟩ := am_rq_map (ad := ad) h4
        rw [List.map_cons, List.map_cons, e3, e4]
        cases cn <;> simp only [am_acn, decide_eq_true_eq] at k
        case eq => exact lv_acmp_eq hx hb hd h1 (fun z => by rwa [if_pos ((am_inj hI _ _ k3 k4).mp z)] at k) (fun z => by rwa [if_neg (fun q => z ((am_inj hI _ _ k3 k4).mpr q))] at k)
        case ne => exact lv_acmp_ne hx hb hd h1 (fun z => by rwa [if_pos (fun q => z ((am_inj hI _ _ k3 k4).mpr q))] at k) (fun z => by rwa [if_neg (fun q => q ((am_inj hI _ _ k3 k4).mp z))] at k)
      · cases h
    · cases h
  case tableswitch df lo hi offs =>
    unfold am_jt at h
    split at h
    · rename_i x r
      split at h
      · rename_i hc
        obtain ⟨h1, rfl⟩ := am_to_inv h
        exact lv_tableOut hx hb hd hc h1 k
      · rename_i hc
        split at h
        · rename_i o ho
          obtain ⟨h1, rfl⟩ := am_to_inv h
          exact lv_tableIn hx hb hd (fun z => hc (Or.inl z)) (fun z => hc (Or.inr z)) ho h1 k
        · cases h
    · cases h
  case lookupswitch df ps =>
    unfold am_jl at h
    split at h
    · rename_i x r
      split at h
      · rename_i hc
        obtain ⟨h1, rfl⟩ := am_to_inv h
        exact lv_lookup hx hb hd hc rfl h1 k
      · cases h
    · cases h
end AM1
