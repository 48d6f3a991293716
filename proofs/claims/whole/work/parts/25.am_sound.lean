theorem am_low_map {ad : Nat → Nat} (A : List Value) : ((A.map (am_v ad)).map fun v => v.category).sum = am_low A := by
  simp [am_low, Function.comp_def, am_v_cat]
theorem am_lgsl (A : List Value) : (lg_sl A).length = am_low A := by
  induction A with
  | nil => rfl
  | cons v r ih =>
    have e : (lg_sl (v :: r)).length = (if v.category = 2 then 2 else 1) + (lg_sl r).length := by
      simp only [lg_sl, List.flatMap_cons, List.length_append]
      congr 1
      split <;> rfl
    rw [e, ih]
    show _ = ((v :: r).map fun v => v.category).sum
    rw [List.map_cons, List.sum_cons]
    show _ + am_low r = v.category + am_low r
    rcases lv_cat v with h | h <;> simp [h]
theorem am_args_map {ad : Nat → Nat} (A : List Value) : ∀ i : Nat, lv_args i (A.map (am_v ad)) = am_lm ad (lv_args i A) := by
  induction A with
  | nil => intro i; rfl
  | cons v r ih =>
    intro i
    show (i, am_v ad v) :: lv_args (if (am_v ad v).category = 2 then i + 2 else i + 1) (r.map (am_v ad)) = (i, am_v ad v) :: am_lm ad (lv_args (if v.category = 2 then i + 2 else i + 1) r)
    rw [am_v_cat, ih]
theorem am_arg_inv {kd n : Nat} {S A q : List Value} (z : am_arg kd n S = some (A, q)) : ((kd = 1 ∨ kd = 4) ∧ A.length = n ∧ S = A.reverse ++ q) ∨ (¬ (kd = 1 ∨ kd = 4) ∧ ∃ (b : Nat) (As : List Value), A = .ref b :: As ∧ As.length = n ∧ S = As.reverse ++ .ref b :: q) := by
  unfold am_arg at z
  split at z
  · rename_i hk
    split at z
    · rename_i hl
      cases z
      exact Or.inl ⟨hk, by simp; omega, by simp⟩
    · cases z
  · rename_i hk
    split at z
    · rename_i b w hd
      cases z
      refine Or.inr ⟨hk, b, _, rfl, ?_, ?_⟩
      · have : n < S.length := by
          rcases Nat.lt_or_ge n S.length with h | h
          · exact h
          · rw [List.drop_eq_nil_of_le h] at hd; cases hd
        simp; omega
      · rw [List.reverse_reverse, ← hd]; simp
    · cases z
theorem am_rcv_inv {kd ci b : Nat} {h : am_H} {As : List Value} (hk : kd = 0 ∨ kd = 3) (z : am_rcv kd ci h (.ref b :: As) = true) : (b = 1 ∧ ci = tb_cS) ∨ ∃ fs : List Value, am_K ≤ b ∧ b < h.1 ∧ h.2.2 b = .inr (ci, fs) ∧ ¬ ci = tb_cS := by
  unfold am_rcv at z
  rw [if_pos hk] at z
  dsimp only at z
  split at z
  · rename_i hb1
    exact Or.inl ⟨hb1, by simpa using z⟩
  right
  split at z
  · rename_i c9 fs h9
    obtain ⟨a1, a2, a3⟩ := am_at_inv h9
    simp only [Bool.and_eq_true, beq_iff_eq, Bool.not_eq_true', beq_eq_false_iff_ne] at z
    obtain ⟨rfl, z2⟩ := z
    exact ⟨fs, a1, a2, a3, z2⟩
  · cases z
section AM5
variable {p : Program} {l : Launch} {e : Env} {R : Room} {s : State} {m : MethodId} {args : Array Value} {below : List Frame} {meth : Method} {c : Code} {H : Heap} {locs : List Loc} {cells slots : Nat} {Q : State → Prop}
variable {cc : ByteArray} {pc : Nat} {ls : Array Slot} {ad : Nat → Nat} {D : va_G} {cA : FieldType → ClassId} {b0 n0 s0 : Nat} {ou : Nat → am_C} {h h' : am_H} {o : Nat} {S S' : List Value}
def am_Pc (D : va_G) (cA : FieldType → ClassId) (ad : Nat → Nat) (b0 : Nat) (ou : Nat → am_C) (h : am_H) (A : List Value) : Array Value → State → Prop := va_Pc (A.map (am_v ad)) (fun U => am_P D cA ad b0 ou h U.heap ∧ am_Fr D cA ad b0 ou U h.1)
def am_Qc (D : va_G) (cA : FieldType → ClassId) (ad : Nat → Nat) (b0 : Nat) (ou : Nat → am_C) (h1 : am_H) (rv : Option Value) : Array Value → State → Outcome → State → Prop := fun _ st oc t => (oc = .returned (rv.map (am_v ad)) ∧ am_P D cA ad b0 ou h1 t.heap) ∧ va_F (am_A b0) st t
theorem am_blind {A : List Value} : FrameBlind (am_Pc D cA ad b0 ou h A) := by
  intro a U g mk hp
  obtain ⟨e1, hP, hF⟩ := hp
  exact ⟨e1, hP, va_K.moved (u := U) (U := U.calling g mk a) (Vm.Alike.refl U.vm) hF.1, fun w hw => va_Nw.same (u := U) (U := U.calling g mk a) (tb_ne_tab w hw) rfl (hF.2.1 w hw), trivial, hF.2.2.2.1, ⟨hF.2.2.2.2.1.1, am_Sx_same (u := U) (U := U.calling g mk a) rfl rfl hF.2.2.2.2.1.2⟩, hF.2.2.2.2.2⟩
theorem am_pre {A : List Value} (hF : am_Fr D cA ad b0 ou s n0) (hP : am_P D cA ad b0 ou h H) (hS : va_S (am_A b0) s.heap H locs) : ∀ U : State, U.heap = H → s.WarmedH U.vm → am_Pc D cA ad b0 ou h A (A.map (am_v ad)).toArray U := by
  intro U hU hW
  exact ⟨rfl, by rw [hU]; exact hP, va_K.moved hW.alike hF.1, fun w hw => tb_ne_warm hw hW (hF.2.1 w hw), trivial, by rw [hU]; exact hP.2.1, ⟨hP.2.2.1, am_Sx_warm hW (by rw [hU]; exact hS) hF.2.2.2.2.1.2⟩, hF.2.2.2.2.2⟩
theorem am_callk {mc ms : Nat} {st0 rest : List Value} {a : Array Value} {rv : Option Value} {h1 : am_H} (hr : va_Run p l e R s m args below meth c H locs cells slots mc ms (F0 m pc ls st0) rest (am_Qc D cA ad b0 ou h1 rv a) (am_A b0)) (hS : va_S (am_A b0) s.heap H locs)
    (kk : ∀ (H1 : Heap) (locs1 : List Loc), am_P D cA ad b0 ou h1 H1 → va_S (am_A b0) s.heap H1 locs1 → W p l e R s m args below meth c H1 locs1 (cells + mc) (slots + ms) Q (F0 m (pc + 3) ls ((rv.map (am_v ad)).toList ++ rest))) : W p l e R s m args below meth c H locs cells slots Q (F0 m pc ls st0) := by
  intro T hT X
  obtain ⟨v, st₀, t, T', L9, h0, X', hL, e1, e2, ⟨⟨hv, hP1⟩, hz, hk⟩, st⟩ := hr T hT X
  cases hv
  rw [h0] at hz hk
  obtain ⟨t2, a1, b1⟩ := kk T'.heap (locs ++ L9) (by rw [e1]; exact hP1) ⟨Nat.le_trans hS.1 (by rw [e1]; exact hz), fun q h1 h2 => by rw [e1, hk q (Nat.lt_of_lt_of_le h1 hS.1) h2]; exact hS.2.1 q h1 h2, fun q hq => by
      rcases List.mem_append.mp hq with h | h
      · exact hS.2.2 q h
      · exact hL q h⟩ T' rfl X'
  exact ⟨t2, st t2 a1, b1⟩
/-- what the abstract machine does within N, the machine does -/
def am_Snd (l : Launch) (D : va_G) (cA : FieldType → ClassId) (ad : Nat → Nat) (b0 : Nat) (ou : Nat → am_C) (N : Nat) : Prop :=
  ∀ (d mi : Nat) (f : am_F) (h h' : am_H) (rv : Option Value) (M : tb_M), am_run N d mi f h = some (rv, h') → tb_m mi = some M →
  ∀ (p : Program) (e : Env) (R : Room) (s : State) (m : MethodId) (args : Array Value) (below : List Frame) (meth : Method) (c : Code) (H : Heap) (locs : List Loc) (cells slots : Nat) (Q : State → Prop) (n0 s0 : Nat) (ls : Array Slot),
  p.tables.exec = Jvm.exec → c.code = M.2.2.2.1 → c.maxLocals = M.2.2.2.2.1 → s.vm.findClass (tb_own M.1) = some m.cls → (M.2.1.name = "<init>" → meth.name = "<init>") → (∀ w ∈ tb_wd, w.before args s = true) →
  am_Fr D cA ad b0 ou s n0 → am_P D cA ad b0 ou h H → va_S (am_A b0) s.heap H locs → n0 + cells = h.1 → s0 + slots = h.2.1 → h'.1 ≤ n0 + R.cells → h'.2.1 ≤ s0 + R.slots → d ≤ R.frames → d * tb_LK ≤ R.locals → lv_has ls M.2.2.2.2.1 (am_lm ad f.2.1) →
  (∀ (pc : Nat) (ls : Array Slot) (S1 : List Value) (i : Instr), tb_ins mi pc = some i → am_ret M.2.2.2.2.2 i S1 = some rv → am_kont p l e R s m args below meth c Q D cA ad b0 n0 s0 ou h' (F0 m pc ls (S1.map (am_v ad)))) →
  W p l e R s m args below meth c H locs cells slots Q (F0 m f.1 ls (f.2.2.map (am_v ad)))
theorem am_nar_ok {ty : FieldType} {x : Int32} (h : am_nar ty x = true) : narrow ty (.int x) = .int x := by
  cases ty <;> simp only [am_nar, Bool.false_eq_true] at h
  case int => rfl
  case boolean =>
    simp only [Bool.or_eq_true, beq_iff_eq] at h
    rcases h with rfl | rfl <;> rfl
  case byte =>
    simp only [beq_iff_eq] at h
    subst h; rfl
  case char =>
    simp only [Bool.and_eq_true, decide_eq_true_eq] at h
    obtain ⟨j, hj, hx, -⟩ := pk_mu (x := x) (L := 256) (fun z => Int32.not_le.mpr z h.1) (fun z => Int32.not_le.mpr h.2 z) (by decide)
    have key : ∀ j, j < 256 → narrow .char (.int (nI j)) = .int (nI j) := by decide +kernel
    rw [hx]
    exact key j hj
theorem am_ret_ok {i : Instr} {ret : Option FieldType} {rv : Option Value} {len : Nat} (hx : p.tables.exec = Jvm.exec) (hb : c.code = cc) (hr : meth.sig.returnType = ret) (hlocks : meth.locks = false) (q : am_ret ret i S = some rv) (hd : decode cc pc = .ok (i, len)) (hlen : am_isw i = true ∨ len = am_len i) (hP : am_P D cA ad b0 ou h H) (hS : va_S (am_A b0) s.heap H locs) : W p l e R s m args below meth c H locs cells slots (MQ below (am_Qc D cA ad b0 ou h rv) args s cells slots (am_A b0)) (F0 m pc ls (S.map (am_v ad))) := by
  have fin : ∀ v : Option Value, ∀ t : State, t.heap = H → s.WarmedH t.vm → v = rv.map (am_v ad) → am_Qc D cA ad b0 ou h rv args s (.returned v) t := fun v t ht hW hv => ⟨⟨by rw [hv], by rw [ht]; exact hP⟩, hS.F ht⟩
  cases i <;> simp only [am_ret, reduceCtorEq] at q <;> (simp only [am_isw, am_len, Bool.false_eq_true, false_or] at hlen; subst hlen)
  case return_ =>
    split at q
    · cases q
      exact W.vret hx hb hr (fun t ht hW => fin _ t ht hW rfl) hS.2.2 hd hlocks
    · cases q
  case ireturn =>
    split at q
    · split at q
      · cases q
        rename_i hn
        exact W.zret hx hb hr (am_nar_ok hn) (fun t ht hW => fin _ t ht hW rfl) hS.2.2 hd hlocks
      · cases q
    · cases q
  case lreturn =>
    split at q
    · cases q
      exact W.lret hx hb hr (fun t ht hW => fin _ t ht hW rfl) hS.2.2 hd hlocks
    · cases q
  case areturn =>
    split at q
    · cases q
      exact W.aret hx hb hr (Or.inl ⟨_, rfl⟩) (Or.inr ⟨_, rfl⟩) (fun t ht hW => fin _ t ht hW rfl) hS.2.2 hd hlocks
    · cases q
      exact W.aret hx hb hr (Or.inl ⟨_, rfl⟩) (Or.inl rfl) (fun t ht hW => fin _ t ht hW rfl) hS.2.2 hd hlocks
    · cases q
theorem am_met {N e' mj : Nat} {h1 : am_H} {rv : Option Value} {A : List Value} {M2 : tb_M} (ih : am_Snd l D cA ad b0 ou N) (hrun : am_run N e' mj (0, lv_args 0 A, []) h = some (rv, h1)) (hM2 : tb_m mj = some M2) (hlow : am_low A ≤ M2.2.2.2.2.1) (hpl : plainName M2.2.1.cls = true) (hcls : M2.2.1.cls = tb_own M2.1) :
    Met l M2.2.1 (Cond.code M2.2.1 M2.2.2.2.1 M2.2.2.2.2.1 M2.2.2.2.2.2 :: tb_wd) ({ frames := e', cells := h1.1 - h.1, slots := h1.2.1 - h.2.1, locals := e' * tb_LK }) (am_Pc D cA ad b0 ou h A) (am_Qc D cA ad b0 ou h1 rv) (h1.1 - h.1) (h1.2.1 - h.2.1) (am_A b0) := by
  have hmono := am_run_mono _ _ _ _ _ _ _ hrun
  refine Met.ofW (cc := M2.2.2.2.1) (maxL := M2.2.2.2.2.1) (ret := M2.2.2.2.2.2) hpl rfl ?_
  intro p e s m args below meth c s₁ B hml hv
  obtain ⟨rfl, hP, hF⟩ := hv
  have hts := atoms_spec (ws := Cond.code M2.2.1 M2.2.2.2.1 M2.2.2.2.2.1 M2.2.2.2.2.2 :: tb_wd) B.pre
  have hown : s.vm.findClass (tb_own M2.1) = some m.cls := by rw [← hcls]; exact findClass_of_methodNamed B.named
  have hl := lv_entry (A.map (am_v ad)) (n := M2.2.2.2.2.1) (by rw [am_lgsl]; show ((A.map (am_v ad)).map fun v => v.category).sum ≤ _; rw [am_low_map]; exact hlow)
  rw [lg_entry_eq]
  rw [am_args_map] at hl
  generalize (lg_sl (A.map (am_v ad)) ++ List.replicate (M2.2.2.2.2.1 - (lg_sl (A.map (am_v ad))).length) Slot.unset).toArray = ls at hl ⊢
  refine ih e' mj (0, lv_args 0 A, []) h h1 rv M2 hrun hM2 p e _ s m _ below meth c s.heap [] 0 0 _ h.1 h.2.1 ls B.exec B.bytes hml hown (fun hq => by rw [(name_of_methodNamed B.named B.method).1]; exact hq) (fun w hw => hts w (List.mem_cons_of_mem _ hw)) hF hP va_S.rf rfl rfl ?_ ?_ (Nat.le_refl _) (Nat.le_refl _) hl ?_
  · show h1.1 ≤ h.1 + (h1.1 - h.1)
    omega
  · show h1.2.1 ≤ h.2.1 + (h1.2.1 - h.2.1)
    omega
  · intro pc ls1 S1 i hi hr H1 locs1 cells1 slots1 hP1 hS1 hc1 hs1
    obtain ⟨len, hd, hlen⟩ := tb_ins_ok hM2 hi
    have e1 : h1.1 - h.1 = cells1 := by omega
    have e2 : h1.2.1 - h.2.1 = slots1 := by omega
    rw [e1, e2]
    exact am_ret_ok B.exec B.bytes B.returns B.notSynchronized hr hd hlen hP1 hS1
end AM5
