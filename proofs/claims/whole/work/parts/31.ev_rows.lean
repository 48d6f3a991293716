/-! ROWS for runs of the abstract machine: an instruction a row. hm: the method's own row of the table. -/
def am_ish (i : Instr) : Bool := match i with
  | .getfield _ => true
  | .putfield _ => true
  | .getstatic _ => true
  | .iaload => true
  | .baload => true
  | .caload => true
  | .laload => true
  | .aaload => true
  | .arraylength => true
  | .iastore => true
  | .bastore => true
  | .lastore => true
  | .aastore => true
  | .newarray _ => true
  | .anewarray _ => true
  | .new _ => true
  | .ldc _ => true
  | .ldc_w _ => true
  | .ldc2_w _ => true
  | _ => false
theorem ev_blt {n k : Nat} (h : n.ble k = false) : k < n := by
  rcases Nat.lt_or_ge k n with z | z
  · exact z
  · rw [Nat.ble_eq_true_of_le z] at h; cases h
section EV
variable {d mi pc pc' : Nat} {L L' : am_L} {S S' : List Value} {h h' : am_H} {Q : Option Value → am_H → Prop} {M : tb_M} {i : Instr}
theorem ev_alu (hm : tb_m mi = some M) (hi : tb_ins mi pc = some i) (ha : am_alu i S = some S') (hp : pc + am_len i = pc') (kk : am_Ev d mi (pc', L, S') h Q) : am_Ev d mi (pc, L, S) h Q := by
  subst hp
  refine am_Ev.step ?_ kk
  unfold am_step
  rw [hm, hi]
  dsimp only
  rw [ha]
theorem am_alu_no {j : Instr} {n : Nat} {q : am_L × List Value} (hl : am_loc n j L S = some q) : am_alu j S = none := by
  cases j <;> first | rfl | (simp only [am_loc, reduceCtorEq] at hl)
theorem am_alu_nj {j : Instr} {q : Nat × List Value} (hl : am_jmp pc j S = some q) : am_alu j S = none := by
  cases j <;> first | rfl | (simp only [am_jmp, reduceCtorEq] at hl)
theorem am_loc_nj {j : Instr} {n : Nat} {q : Nat × List Value} (hl : am_jmp pc j S = some q) : am_loc n j L S = none := by
  cases j <;> first | rfl | (simp only [am_jmp, reduceCtorEq] at hl)
theorem ev_loc (hm : tb_m mi = some M) (hi : tb_ins mi pc = some i) (ha : am_loc M.2.2.2.2.1 i L S = some (L', S')) (hp : pc + am_len i = pc') (kk : am_Ev d mi (pc', L', S') h Q) : am_Ev d mi (pc, L, S) h Q := by
  subst hp
  refine am_Ev.step ?_ kk
  unfold am_step
  rw [hm, hi]
  dsimp only
  rw [am_alu_no ha, ha]
theorem ev_jmp (hm : tb_m mi = some M) (hi : tb_ins mi pc = some i) (ha : am_jmp pc i S = some (pc', S')) (kk : am_Ev d mi (pc', L, S') h Q) : am_Ev d mi (pc, L, S) h Q := by
  refine am_Ev.step ?_ kk
  unfold am_step
  rw [hm, hi]
  dsimp only
  rw [am_alu_nj ha, am_loc_nj ha, ha]
theorem ev_hp (hm : tb_m mi = some M) (hi : tb_ins mi pc = some i) (hk : am_ish i = true) (hq : am_hp (M.2.1.name == "<init>") M.1 i S h = some (S', h')) (hp : pc + am_len i = pc') (kk : am_Ev d mi (pc', L, S') h' Q) : am_Ev d mi (pc, L, S) h Q := by
  subst hp
  refine am_Ev.step ?_ kk
  unfold am_step
  rw [hm, hi]
  dsimp only
  have e1 : am_alu i S = none := by cases i <;> first | rfl | (simp only [am_ish, Bool.false_eq_true] at hk)
  have e2 : am_loc M.2.2.2.2.1 i L S = none := by cases i <;> first | rfl | (simp only [am_ish, Bool.false_eq_true] at hk)
  have e3 : am_jmp pc i S = none := by cases i <;> first | rfl | (simp only [am_ish, Bool.false_eq_true] at hk)
  rw [e1, e2, e3, hq]
-- numbers
section
variable {x y : Int32} {u w : Int64} {n : Int}
theorem ev_null (hm : tb_m mi = some M) (hi : tb_ins mi pc = some .aconst_null) (hp : pc + 1 = pc') (kk : am_Ev d mi (pc', L, .null :: S) h Q) : am_Ev d mi (pc, L, S) h Q := ev_alu hm hi rfl hp kk
theorem ev_iconst (hm : tb_m mi = some M) (hi : tb_ins mi pc = some (.iconst n)) (hx : Int32.ofInt n = x) (hp : pc + 1 = pc') (kk : am_Ev d mi (pc', L, .int x :: S) h Q) : am_Ev d mi (pc, L, S) h Q := by subst hx; exact ev_alu hm hi rfl hp kk
theorem ev_bipush (hm : tb_m mi = some M) (hi : tb_ins mi pc = some (.bipush n)) (hx : (Int8.ofInt n).toInt32 = x) (hp : pc + 2 = pc') (kk : am_Ev d mi (pc', L, .int x :: S) h Q) : am_Ev d mi (pc, L, S) h Q := by subst hx; exact ev_alu hm hi rfl hp kk
theorem ev_sipush (hm : tb_m mi = some M) (hi : tb_ins mi pc = some (.sipush n)) (hx : (Int16.ofInt n).toInt32 = x) (hp : pc + 3 = pc') (kk : am_Ev d mi (pc', L, .int x :: S) h Q) : am_Ev d mi (pc, L, S) h Q := by subst hx; exact ev_alu hm hi rfl hp kk
theorem ev_lconst {k : Fin 2} (hm : tb_m mi = some M) (hi : tb_ins mi pc = some (.lconst k)) (hx : Int64.ofNat (k : Nat) = u) (hp : pc + 1 = pc') (kk : am_Ev d mi (pc', L, .long u :: S) h Q) : am_Ev d mi (pc, L, S) h Q := by subst hx; exact ev_alu hm hi rfl hp kk
theorem ev_iadd (hm : tb_m mi = some M) (hi : tb_ins mi pc = some .iadd) (hp : pc + 1 = pc') (kk : am_Ev d mi (pc', L, .int (x + y) :: S) h Q) : am_Ev d mi (pc, L, .int y :: .int x :: S) h Q := ev_alu hm hi rfl hp kk
theorem ev_isub (hm : tb_m mi = some M) (hi : tb_ins mi pc = some .isub) (hp : pc + 1 = pc') (kk : am_Ev d mi (pc', L, .int (x - y) :: S) h Q) : am_Ev d mi (pc, L, .int y :: .int x :: S) h Q := ev_alu hm hi rfl hp kk
theorem ev_imul (hm : tb_m mi = some M) (hi : tb_ins mi pc = some .imul) (hp : pc + 1 = pc') (kk : am_Ev d mi (pc', L, .int (x * y) :: S) h Q) : am_Ev d mi (pc, L, .int y :: .int x :: S) h Q := ev_alu hm hi rfl hp kk
theorem ev_iand (hm : tb_m mi = some M) (hi : tb_ins mi pc = some .iand) (hp : pc + 1 = pc') (kk : am_Ev d mi (pc', L, .int (x &&& y) :: S) h Q) : am_Ev d mi (pc, L, .int y :: .int x :: S) h Q := ev_alu hm hi rfl hp kk
theorem ev_ishr (hm : tb_m mi = some M) (hi : tb_ins mi pc = some .ishr) (hp : pc + 1 = pc') (kk : am_Ev d mi (pc', L, .int (x >>> (y &&& 31)) :: S) h Q) : am_Ev d mi (pc, L, .int y :: .int x :: S) h Q := ev_alu hm hi rfl hp kk
theorem ev_idiv (hm : tb_m mi = some M) (hi : tb_ins mi pc = some .idiv) (hy : ¬ y = 0) (hp : pc + 1 = pc') (kk : am_Ev d mi (pc', L, .int (x / y) :: S) h Q) : am_Ev d mi (pc, L, .int y :: .int x :: S) h Q := ev_alu hm hi (if_neg hy) hp kk
theorem ev_irem (hm : tb_m mi = some M) (hi : tb_ins mi pc = some .irem) (hy : ¬ y = 0) (hp : pc + 1 = pc') (kk : am_Ev d mi (pc', L, .int (x - x / y * y) :: S) h Q) : am_Ev d mi (pc, L, .int y :: .int x :: S) h Q := ev_alu hm hi (if_neg hy) hp kk
theorem ev_ineg (hm : tb_m mi = some M) (hi : tb_ins mi pc = some .ineg) (hp : pc + 1 = pc') (kk : am_Ev d mi (pc', L, .int (-x) :: S) h Q) : am_Ev d mi (pc, L, .int x :: S) h Q := ev_alu hm hi rfl hp kk
theorem ev_i2b (hm : tb_m mi = some M) (hi : tb_ins mi pc = some .i2b) (hp : pc + 1 = pc') (kk : am_Ev d mi (pc', L, .int x.toInt8.toInt32 :: S) h Q) : am_Ev d mi (pc, L, .int x :: S) h Q := ev_alu hm hi rfl hp kk
theorem ev_i2l (hm : tb_m mi = some M) (hi : tb_ins mi pc = some .i2l) (hp : pc + 1 = pc') (kk : am_Ev d mi (pc', L, .long x.toInt64 :: S) h Q) : am_Ev d mi (pc, L, .int x :: S) h Q := ev_alu hm hi rfl hp kk
theorem ev_l2i (hm : tb_m mi = some M) (hi : tb_ins mi pc = some .l2i) (hp : pc + 1 = pc') (kk : am_Ev d mi (pc', L, .int u.toInt32 :: S) h Q) : am_Ev d mi (pc, L, .long u :: S) h Q := ev_alu hm hi rfl hp kk
theorem ev_ladd (hm : tb_m mi = some M) (hi : tb_ins mi pc = some .ladd) (hp : pc + 1 = pc') (kk : am_Ev d mi (pc', L, .long (u + w) :: S) h Q) : am_Ev d mi (pc, L, .long w :: .long u :: S) h Q := ev_alu hm hi rfl hp kk
theorem ev_lsub (hm : tb_m mi = some M) (hi : tb_ins mi pc = some .lsub) (hp : pc + 1 = pc') (kk : am_Ev d mi (pc', L, .long (u - w) :: S) h Q) : am_Ev d mi (pc, L, .long w :: .long u :: S) h Q := ev_alu hm hi rfl hp kk
theorem ev_lmul (hm : tb_m mi = some M) (hi : tb_ins mi pc = some .lmul) (hp : pc + 1 = pc') (kk : am_Ev d mi (pc', L, .long (u * w) :: S) h Q) : am_Ev d mi (pc, L, .long w :: .long u :: S) h Q := ev_alu hm hi rfl hp kk
theorem ev_land (hm : tb_m mi = some M) (hi : tb_ins mi pc = some .land) (hp : pc + 1 = pc') (kk : am_Ev d mi (pc', L, .long (u &&& w) :: S) h Q) : am_Ev d mi (pc, L, .long w :: .long u :: S) h Q := ev_alu hm hi rfl hp kk
theorem ev_lor (hm : tb_m mi = some M) (hi : tb_ins mi pc = some .lor) (hp : pc + 1 = pc') (kk : am_Ev d mi (pc', L, .long (u ||| w) :: S) h Q) : am_Ev d mi (pc, L, .long w :: .long u :: S) h Q := ev_alu hm hi rfl hp kk
theorem ev_lshl (hm : tb_m mi = some M) (hi : tb_ins mi pc = some .lshl) (hp : pc + 1 = pc') (kk : am_Ev d mi (pc', L, .long (u <<< (y.toInt64 &&& 63)) :: S) h Q) : am_Ev d mi (pc, L, .int y :: .long u :: S) h Q := ev_alu hm hi rfl hp kk
theorem ev_lcmp (hm : tb_m mi = some M) (hi : tb_ins mi pc = some .lcmp) (hp : pc + 1 = pc') (kk : am_Ev d mi (pc', L, .int (lg_cmp u w) :: S) h Q) : am_Ev d mi (pc, L, .long w :: .long u :: S) h Q := ev_alu hm hi rfl hp kk
theorem ev_dup {v : Value} (hm : tb_m mi = some M) (hi : tb_ins mi pc = some .dup) (hv : v.category = 1) (hp : pc + 1 = pc') (kk : am_Ev d mi (pc', L, v :: v :: S) h Q) : am_Ev d mi (pc, L, v :: S) h Q := ev_alu hm hi (if_pos hv) hp kk
theorem ev_dup2 {v z : Value} (hm : tb_m mi = some M) (hi : tb_ins mi pc = some .dup2) (hv : v.category = 1 ∧ z.category = 1) (hp : pc + 1 = pc') (kk : am_Ev d mi (pc', L, v :: z :: v :: z :: S) h Q) : am_Ev d mi (pc, L, v :: z :: S) h Q := ev_alu hm hi (if_pos hv) hp kk
theorem ev_pop {v : Value} (hm : tb_m mi = some M) (hi : tb_ins mi pc = some .pop) (hv : v.category = 1) (hp : pc + 1 = pc') (kk : am_Ev d mi (pc', L, S) h Q) : am_Ev d mi (pc, L, v :: S) h Q := ev_alu hm hi (if_pos hv) hp kk
-- locals: k the slot, v what it holds
theorem ev_ildi {k : Nat} (hl : am_lk L k = some (.int x)) : am_ldi L k S = some (L, .int x :: S) := by unfold am_ldi; rw [hl]
theorem ev_ildl {k : Nat} (hl : am_lk L k = some (.long u)) : am_ldl L k S = some (L, .long u :: S) := by unfold am_ldl; rw [hl]
theorem ev_ilda {k r : Nat} (hl : am_lk L k = some (.ref r)) : am_lda L k S = some (L, .ref r :: S) := by unfold am_lda; rw [hl]
theorem ev_ildn {k : Nat} (hl : am_lk L k = some .null) : am_lda L k S = some (L, .null :: S) := by unfold am_lda; rw [hl]
theorem ev_iload {k : Nat} (hm : tb_m mi = some M) (hi : tb_ins mi pc = some (.iload k)) (hl : am_lk L k = some (.int x)) (hp : pc + 2 = pc') (kk : am_Ev d mi (pc', L, .int x :: S) h Q) : am_Ev d mi (pc, L, S) h Q := ev_loc hm hi (ev_ildi hl) hp kk
theorem ev_iload_n {k : Fin 4} (hm : tb_m mi = some M) (hi : tb_ins mi pc = some (.iload_n k)) (hl : am_lk L (k : Nat) = some (.int x)) (hp : pc + 1 = pc') (kk : am_Ev d mi (pc', L, .int x :: S) h Q) : am_Ev d mi (pc, L, S) h Q := ev_loc hm hi (ev_ildi hl) hp kk
theorem ev_lload {k : Nat} (hm : tb_m mi = some M) (hi : tb_ins mi pc = some (.lload k)) (hl : am_lk L k = some (.long u)) (hp : pc + 2 = pc') (kk : am_Ev d mi (pc', L, .long u :: S) h Q) : am_Ev d mi (pc, L, S) h Q := ev_loc hm hi (ev_ildl hl) hp kk
theorem ev_lload_n {k : Fin 4} (hm : tb_m mi = some M) (hi : tb_ins mi pc = some (.lload_n k)) (hl : am_lk L (k : Nat) = some (.long u)) (hp : pc + 1 = pc') (kk : am_Ev d mi (pc', L, .long u :: S) h Q) : am_Ev d mi (pc, L, S) h Q := ev_loc hm hi (ev_ildl hl) hp kk
theorem ev_aload {k r : Nat} (hm : tb_m mi = some M) (hi : tb_ins mi pc = some (.aload k)) (hl : am_lk L k = some (.ref r)) (hp : pc + 2 = pc') (kk : am_Ev d mi (pc', L, .ref r :: S) h Q) : am_Ev d mi (pc, L, S) h Q := ev_loc hm hi (ev_ilda hl) hp kk
theorem ev_aload_n {k : Fin 4} {r : Nat} (hm : tb_m mi = some M) (hi : tb_ins mi pc = some (.aload_n k)) (hl : am_lk L (k : Nat) = some (.ref r)) (hp : pc + 1 = pc') (kk : am_Ev d mi (pc', L, .ref r :: S) h Q) : am_Ev d mi (pc, L, S) h Q := ev_loc hm hi (ev_ilda hl) hp kk
theorem ev_aloadN {k : Nat} (hm : tb_m mi = some M) (hi : tb_ins mi pc = some (.aload k)) (hl : am_lk L k = some .null) (hp : pc + 2 = pc') (kk : am_Ev d mi (pc', L, .null :: S) h Q) : am_Ev d mi (pc, L, S) h Q := ev_loc hm hi (ev_ildn hl) hp kk
theorem ev_aload_nN {k : Fin 4} (hm : tb_m mi = some M) (hi : tb_ins mi pc = some (.aload_n k)) (hl : am_lk L (k : Nat) = some .null) (hp : pc + 1 = pc') (kk : am_Ev d mi (pc', L, .null :: S) h Q) : am_Ev d mi (pc, L, S) h Q := ev_loc hm hi (ev_ildn hl) hp kk
theorem ev_istore {k : Nat} (hm : tb_m mi = some M) (hi : tb_ins mi pc = some (.istore k)) (hk : (M.2.2.2.2.1.ble k) = false) (hl : am_st L k (.int x) = L') (hp : pc + 2 = pc') (kk : am_Ev d mi (pc', L', S) h Q) : am_Ev d mi (pc, L, .int x :: S) h Q := by subst hl; exact ev_loc hm hi (if_pos (ev_blt hk)) hp kk
theorem ev_istore_n {k : Fin 4} (hm : tb_m mi = some M) (hi : tb_ins mi pc = some (.istore_n k)) (hk : (M.2.2.2.2.1.ble (k : Nat)) = false) (hl : am_st L (k : Nat) (.int x) = L') (hp : pc + 1 = pc') (kk : am_Ev d mi (pc', L', S) h Q) : am_Ev d mi (pc, L, .int x :: S) h Q := by subst hl; exact ev_loc hm hi (if_pos (ev_blt hk)) hp kk
theorem ev_lstore {k : Nat} (hm : tb_m mi = some M) (hi : tb_ins mi pc = some (.lstore k)) (hk : (M.2.2.2.2.1.ble (k + 1)) = false) (hl : am_st2 L k (.long u) = L') (hp : pc + 2 = pc') (kk : am_Ev d mi (pc', L', S) h Q) : am_Ev d mi (pc, L, .long u :: S) h Q := by subst hl; exact ev_loc hm hi (if_pos (ev_blt hk)) hp kk
theorem ev_lstore_n {k : Fin 4} (hm : tb_m mi = some M) (hi : tb_ins mi pc = some (.lstore_n k)) (hk : (M.2.2.2.2.1.ble ((k : Nat) + 1)) = false) (hl : am_st2 L (k : Nat) (.long u) = L') (hp : pc + 1 = pc') (kk : am_Ev d mi (pc', L', S) h Q) : am_Ev d mi (pc, L, .long u :: S) h Q := by subst hl; exact ev_loc hm hi (if_pos (ev_blt hk)) hp kk
theorem ev_astore {k r : Nat} (hm : tb_m mi = some M) (hi : tb_ins mi pc = some (.astore k)) (hk : (M.2.2.2.2.1.ble k) = false) (hl : am_st L k (.ref r) = L') (hp : pc + 2 = pc') (kk : am_Ev d mi (pc', L', S) h Q) : am_Ev d mi (pc, L, .ref r :: S) h Q := by subst hl; exact ev_loc hm hi (if_pos (ev_blt hk)) hp kk
theorem ev_astore_n {k : Fin 4} {r : Nat} (hm : tb_m mi = some M) (hi : tb_ins mi pc = some (.astore_n k)) (hk : (M.2.2.2.2.1.ble (k : Nat)) = false) (hl : am_st L (k : Nat) (.ref r) = L') (hp : pc + 1 = pc') (kk : am_Ev d mi (pc', L', S) h Q) : am_Ev d mi (pc, L, .ref r :: S) h Q := by subst hl; exact ev_loc hm hi (if_pos (ev_blt hk)) hp kk
theorem ev_astoreN {k : Nat} (hm : tb_m mi = some M) (hi : tb_ins mi pc = some (.astore k)) (hk : (M.2.2.2.2.1.ble k) = false) (hl : am_st L k .null = L') (hp : pc + 2 = pc') (kk : am_Ev d mi (pc', L', S) h Q) : am_Ev d mi (pc, L, .null :: S) h Q := by subst hl; exact ev_loc hm hi (if_pos (ev_blt hk)) hp kk
theorem ev_astore_nN {k : Fin 4} (hm : tb_m mi = some M) (hi : tb_ins mi pc = some (.astore_n k)) (hk : (M.2.2.2.2.1.ble (k : Nat)) = false) (hl : am_st L (k : Nat) .null = L') (hp : pc + 1 = pc') (kk : am_Ev d mi (pc', L', S) h Q) : am_Ev d mi (pc, L, .null :: S) h Q := by subst hl; exact ev_loc hm hi (if_pos (ev_blt hk)) hp kk
theorem ev_iinc {k : Nat} {z : Int32} (hm : tb_m mi = some M) (hi : tb_ins mi pc = some (.iinc k n)) (hl0 : am_lk L k = some (.int x)) (hk : (M.2.2.2.2.1.ble k) = false) (hz : Int32.ofInt n = z) (hl : am_st L k (.int (x + z)) = L') (hp : pc + 3 = pc') (kk : am_Ev d mi (pc', L', S) h Q) : am_Ev d mi (pc, L, S) h Q := by
  subst hl; subst hz
  refine ev_loc hm hi ?_ hp kk
  show am_inc M.2.2.2.2.1 L k n S = _
  unfold am_inc
  rw [hl0]
  exact if_pos (ev_blt hk)
end
-- jumps
theorem ev_goto {n : Int} (hm : tb_m mi = some M) (hi : tb_ins mi pc = some (.goto n)) (hp : am_to pc n S = some (pc', S)) (kk : am_Ev d mi (pc', L, S) h Q) : am_Ev d mi (pc, L, S) h Q := ev_jmp hm hi hp kk
theorem ev_br {n : Int} {b : Bool} {t e : Nat} (ht : am_to pc n S = some (t, S)) (he : pc + 3 = e) (hb : b = true → am_Ev d mi (t, L, S) h Q) (hn : b = false → am_Ev d mi (e, L, S) h Q) : ∃ p1, am_br pc n b S = some (p1, S) ∧ am_Ev d mi (p1, L, S) h Q := by
  unfold am_to at ht
  split at ht
  · rename_i h0
    cases ht
    subst he
    unfold am_br
    rw [if_pos h0]
    cases b
    · exact ⟨_, rfl, hn rfl⟩
    · exact ⟨_, rfl, hb rfl⟩
  · cases ht
theorem ev_ifc {c : Jvm.ClassFile.Cond} {n : Int} {x : Int32} {t e : Nat} (hm : tb_m mi = some M) (hi : tb_ins mi pc = some (.ifCond c n)) (ht : am_to pc n S = some (t, S)) (he : pc + 3 = e) (hb : am_cnd c x 0 = true → am_Ev d mi (t, L, S) h Q) (hn : am_cnd c x 0 = false → am_Ev d mi (e, L, S) h Q) : am_Ev d mi (pc, L, .int x :: S) h Q := by
  obtain ⟨p1, a, b⟩ := ev_br ht he hb hn
  exact ev_jmp hm hi a b
theorem ev_icm {c : Jvm.ClassFile.Cond} {n : Int} {x y : Int32} {t e : Nat} (hm : tb_m mi = some M) (hi : tb_ins mi pc = some (.if_icmp c n)) (ht : am_to pc n S = some (t, S)) (he : pc + 3 = e) (hb : am_cnd c x y = true → am_Ev d mi (t, L, S) h Q) (hn : am_cnd c x y = false → am_Ev d mi (e, L, S) h Q) : am_Ev d mi (pc, L, .int y :: .int x :: S) h Q := by
  obtain ⟨p1, a, b⟩ := ev_br ht he hb hn
  exact ev_jmp hm hi a b
theorem ev_nulY {n : Int} {t : Nat} (hm : tb_m mi = some M) (hi : tb_ins mi pc = some (.ifnull n)) (ht : am_to pc n S = some (t, S)) (kk : am_Ev d mi (t, L, S) h Q) : am_Ev d mi (pc, L, .null :: S) h Q := ev_jmp hm hi ht kk
theorem ev_nulN {n : Int} {r e : Nat} (hm : tb_m mi = some M) (hi : tb_ins mi pc = some (.ifnull n)) (he : pc + 3 = e) (kk : am_Ev d mi (e, L, S) h Q) : am_Ev d mi (pc, L, .ref r :: S) h Q := by subst he; exact ev_jmp hm hi rfl kk
theorem ev_nnlY {n : Int} {r t : Nat} (hm : tb_m mi = some M) (hi : tb_ins mi pc = some (.ifnonnull n)) (ht : am_to pc n S = some (t, S)) (kk : am_Ev d mi (t, L, S) h Q) : am_Ev d mi (pc, L, .ref r :: S) h Q := ev_jmp hm hi ht kk
theorem ev_nnlN {n : Int} {e : Nat} (hm : tb_m mi = some M) (hi : tb_ins mi pc = some (.ifnonnull n)) (he : pc + 3 = e) (kk : am_Ev d mi (e, L, S) h Q) : am_Ev d mi (pc, L, .null :: S) h Q := by subst he; exact ev_jmp hm hi rfl kk
theorem ev_acm {c : ACond} {n : Int} {v z : Value} {x y : Option Nat} {t e : Nat} (hm : tb_m mi = some M) (hi : tb_ins mi pc = some (.if_acmp c n)) (hx : am_rq v = some x) (hy : am_rq z = some y) (ht : am_to pc n S = some (t, S)) (he : pc + 3 = e) (hb : am_acn c x y = true → am_Ev d mi (t, L, S) h Q) (hn : am_acn c x y = false → am_Ev d mi (e, L, S) h Q) : am_Ev d mi (pc, L, z :: v :: S) h Q := by
  obtain ⟨p1, a, b⟩ := ev_br ht he hb hn
  refine ev_jmp hm hi ?_ b
  show am_ja pc c n (z :: v :: S) = _
  unfold am_ja
  dsimp only
  rw [hx, hy]
  exact a
theorem ev_sw {x : Int32} (hm : tb_m mi = some M) (hi : tb_ins mi pc = some i) (ha : am_jmp pc i (.int x :: S) = some (pc', S)) (kk : am_Ev d mi (pc', L, S) h Q) : am_Ev d mi (pc, L, .int x :: S) h Q := ev_jmp hm hi ha kk
theorem ev_tdef {df lo hi : Int} {offs : Array Int} {x : Int32} {t : Nat} (hm : tb_m mi = some M) (hi' : tb_ins mi pc = some (.tableswitch df lo hi offs)) (hx : x.toInt < lo ∨ hi < x.toInt) (ht : am_to pc df S = some (t, S)) (kk : am_Ev d mi (t, L, S) h Q) : am_Ev d mi (pc, L, .int x :: S) h Q := by
  refine ev_jmp hm hi' ?_ kk
  show am_jt pc df lo hi offs (.int x :: S) = _
  unfold am_jt
  dsimp only
  rw [if_pos hx]
  exact ht
-- calls and ends
theorem am_cix_no {j : Instr} {q : Nat × Nat} {n : Nat} {ini : Bool} {o : Nat} (hl : am_cix j = some q) : am_alu j S = none ∧ am_loc n j L S = none ∧ am_jmp pc j S = none ∧ am_hp ini o j S h = none := by
  cases j <;> first | exact ⟨rfl, rfl, rfl, rfl⟩ | (simp only [am_cix, reduceCtorEq] at hl)
theorem am_cix_ne {j : Instr} {q : Nat × Nat} {ret : Option FieldType} (hl : am_cix j = some q) : am_ret ret j S = none := by
  cases j <;> first | rfl | (simp only [am_cix, reduceCtorEq] at hl)
theorem ev_call {sk k mj kd ci : Nat} {M2 : tb_M} {A q : List Value} (hm : tb_m mi = some M) (hi : tb_ins mi pc = some i) (hx : am_cix i = some (sk, k)) (hc : tb_cal M.1 k = some (mj, kd, ci)) (hm2 : tb_m mj = some M2) (ha : am_arg kd M2.2.2.1 S = some (A, q)) (hk : (decide (kd < 6) && (kd % 3 == sk)) = true) (hq : am_low q ≤ 8) (hA : am_low A ≤ M2.2.2.2.2.1) (hr : am_rcv kd ci h A = true) (hp : pc + 3 = pc') (kk : am_Ev d mj (0, lv_args 0 A, []) h (fun v h1 => am_Ev (d + 1) mi (pc', L, v.toList ++ q) h1 Q)) : am_Ev (d + 1) mi (pc, L, S) h Q := by
  subst hp
  rw [Bool.and_eq_true, decide_eq_true_eq, beq_iff_eq] at hk
  obtain ⟨e1, e2, e3, e4⟩ := am_cix_no (L := L) (S := S) (h := h) (pc := pc) (n := M.2.2.2.2.1) (ini := (M.2.1.name == "<init>")) (o := M.1) hx
  have e5 : am_pcl (d + 1) M.1 i S = none := by
    unfold am_pcl
    rw [hx]
    dsimp only
    rw [hc]
    dsimp only
    have e9 : am_prm kd S = none := by
      unfold am_prm
      split
      · exact absurd hk.1 (by decide)
      · exact absurd hk.1 (by decide)
      · exact absurd hk.1 (by decide)
      · rfl
    rw [e9]
  refine am_Ev.call (mj := mj) (A := A) (q := q) ?_ ?_ ?_ kk
  · unfold am_step
    rw [hm, hi]
    dsimp only
    rw [e1, e2, e3, e4, e5]
  · unfold am_ends
    rw [hm, hi]
    exact am_cix_ne hx
  · unfold am_call
    rw [hm, hi]
    dsimp only
    rw [hx]
    dsimp only
    rw [hc]
    dsimp only
    rw [hm2]
    dsimp only
    rw [ha]
    dsimp only
    rw [if_pos ⟨hk.1, hk.2, hq, hr, hA⟩]
theorem am_ret_no {j : Instr} {n o : Nat} {ini : Bool} {ret : Option FieldType} {v : Option Value} (hl : am_ret ret j S = some v) : am_alu j S = none ∧ am_loc n j L S = none ∧ am_jmp pc j S = none ∧ am_hp ini o j S h = none ∧ am_pcl d o j S = none := by
  cases j <;> first | exact ⟨rfl, rfl, rfl, rfl, rfl⟩ | (simp only [am_ret, reduceCtorEq] at hl)
theorem ev_prm {sk k a kd b : Nat} (hm : tb_m mi = some M) (hi : tb_ins mi pc = some i) (hx : am_cix i = some (sk, k)) (hc : tb_cal M.1 k = some (a, kd, b)) (hp2 : am_prm kd S = some S') (hk : (am_psk kd == sk) = true) (hq : (am_low S').ble 8 = true) (hp : pc + 3 = pc') (kk : am_Ev (d + 1) mi (pc', L, S') h Q) : am_Ev (d + 1) mi (pc, L, S) h Q := by
  subst hp
  obtain ⟨e1, e2, e3, e4⟩ := am_cix_no (L := L) (S := S) (h := h) (pc := pc) (n := M.2.2.2.2.1) (ini := (M.2.1.name == "<init>")) (o := M.1) hx
  refine am_Ev.step ?_ kk
  unfold am_step
  rw [hm, hi]
  dsimp only
  rw [e1, e2, e3, e4]
  dsimp only
  have e5 : am_pcl (d + 1) M.1 i S = some S' := by
    unfold am_pcl
    rw [hx]
    dsimp only
    rw [hc]
    dsimp only
    rw [hp2]
    exact if_pos ⟨by simpa using hk, Nat.succ_le_succ (Nat.zero_le _), Nat.le_of_ble_eq_true hq⟩
  rw [e5]
theorem ev_ret {v : Option Value} (hm : tb_m mi = some M) (hi : tb_ins mi pc = some i) (hr : am_ret M.2.2.2.2.2 i S = some v) (kk : Q v h) : am_Ev d mi (pc, L, S) h Q := by
  obtain ⟨e1, e2, e3, e4, e5⟩ := am_ret_no (L := L) (S := S) (h := h) (pc := pc) (d := d) (n := M.2.2.2.2.1) (ini := (M.2.1.name == "<init>")) (o := M.1) hr
  refine am_Ev.ret ?_ ?_ kk
  · unfold am_step
    rw [hm, hi]
    dsimp only
    rw [e1, e2, e3, e4, e5]
  · unfold am_ends
    rw [hm, hi]
    exact hr
end EV
/-- a method that answers a boolean answers 0 or 1 -/
theorem am_run_bool : ∀ (n d mi : Nat) (f : am_F) (h : am_H) (v : Option Value) (h' : am_H) (M : tb_M), tb_m mi = some M → M.2.2.2.2.2 = some .boolean → am_run n d mi f h = some (v, h') → v = some (.int 0) ∨ v = some (.int 1) := by
  intro n
  induction n with
  | zero => intro d mi f h v h' M _ _ z; cases z
  | succ n ih =>
    intro d mi f h v h' M hM hR z
    unfold am_run at z
    split at z
    · exact ih _ _ _ _ _ _ M hM hR z
    · split at z
      · rename_i w hw
        cases z
        unfold am_ends at hw
        rw [hM] at hw
        split at hw
        · rename_i M1 i1 e1 e2
          cases e1
          rw [hR] at hw
          cases i1 <;> simp only [am_ret, reduceCtorEq] at hw
          all_goals (split at hw)
          all_goals first | (cases hw; done) | skip
          all_goals (rename_i e9)
          all_goals first | (cases e9; done) | skip
          all_goals (cases e9)
          all_goals (split at hw)
          all_goals first | (cases hw; done) | skip
          all_goals (rename_i hb; cases hw; simp only [am_nar, Bool.or_eq_true, beq_iff_eq] at hb; rcases hb with rfl | rfl)
          all_goals first | exact Or.inl rfl | exact Or.inr rfl
        · cases hw
      · split at z
        · split at z
          · exact ih _ _ _ _ _ _ M hM hR z
          · cases z
        · cases z
