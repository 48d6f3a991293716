theorem am_cA_has {D : va_G} {cA : FieldType → ClassId} {s : State} {c' : ClassId} {ty : FieldType} (hK : va_K D tb_cl (am_tys cA) s) (hK' : va_K D tb_cl (am_tys cA ++ [(c', ty)]) s) (hm : ty ∈ tb_ats) : va_RA s (cA ty) ty ∧ va_RA s c' ty := by
  obtain ⟨t0, ht⟩ := am_tys_at (cA := cA) hm
  exact ⟨(hK.2 t0 _ ht).2, (hK'.2 (am_tys cA).length (c', ty) (by simp)).2⟩
theorem am_cA_obj {D : va_G} {cA : FieldType → ClassId} {s : State} {c' : ClassId} {C : String} (hK : va_K D tb_cl (am_tys cA) s) (hK' : va_K D tb_cl (am_tys cA ++ [(c', .object C)]) s) (hm : FieldType.object C ∈ tb_ats) : c' = cA (.object C) := by
  obtain ⟨⟨_, _, _, _, _, h1⟩, ⟨_, _, _, _, _, h2⟩⟩ := am_cA_has hK hK' hm
  exact Option.some.inj (h2.symm.trans h1)
theorem am_v_dflt {ad : Nat → Nat} (ty : FieldType) : am_v ad (defaultValue ty) = defaultValue ty := by cases ty <;> rfl
section AM4
variable {p : Program} {l : Launch} {e : Env} {R : Room} {s : State} {m : MethodId} {args : Array Value} {below : List Frame} {meth : Method} {c : Code} {H : Heap} {locs : List Loc} {cells slots : Nat} {Q : State → Prop}
variable {cc : ByteArray} {pc : Nat} {ls : Array Slot} {ad : Nat → Nat} {D : va_G} {cA : FieldType → ClassId} {b0 n0 s0 : Nat} {ou : Nat → am_C} {h h' : am_H} {o : Nat} {S S' : List Value}
theorem am_hA (hP : am_P D cA ad b0 ou h H) : ∀ q, H.size ≤ q → am_A b0 q := fun q hq => by
  show b0 ≤ q
  have := hP.2.1
  omega
theorem am_newa_ok (hx : p.tables.exec = Jvm.exec) (hb : c.code = cc) (hts : ∀ w ∈ tb_wd, w.before args s = true) (hF : am_Fr D cA ad b0 ou s n0) (hP : am_P D cA ad b0 ou h H) (hS : va_S (am_A b0) s.heap H locs) (hc : n0 + cells = h.1) (hs : s0 + slots = h.2.1) {t : ArrayType} (q : am_newa t S h = some (S', h')) (hRc : h'.1 ≤ n0 + R.cells) (hRs : h'.2.1 ≤ s0 + R.slots) (hd : decode cc pc = .ok (.newarray t, 2)) (kk : am_kont p l e R s m args below meth c Q D cA ad b0 n0 s0 ou h' (F0 m (pc + 2) ls (S'.map (am_v ad)))) : W p l e R s m args below meth c H locs cells slots Q (F0 m pc ls (S.map (am_v ad))) := by
  unfold am_newa at q
  split at q
  · rename_i n rest
    split at q
    · rename_i x hx0
      split at q
      · rename_i hn
        cases q
        obtain ⟨hn1, hn2⟩ := hn
        have r1 : h.1 + 1 ≤ n0 + R.cells := hRc
        have r2 : h.2.1 + n.toNatClampNeg ≤ s0 + R.slots := hRs
        have e1 : cells + 1 ≤ R.cells := by omega
        have e2 : slots + n.toNatClampNeg ≤ R.slots := by omega
        have fin : ∀ (q : Nat) (e9 : va_E) (H1 : Heap), e9 = am_c cA ad x → va_P D tb_cl (am_ws cA ad h ++ [(q, e9)]) H1 → va_D (am_A b0) (am_ws cA ad h ++ [(q, e9)]) → va_S (am_A b0) H H1 locs → W p l e R s m args below meth c H1 locs (cells + 1) (slots + n.toNatClampNeg) Q (F0 m (pc + 2) ls (.ref q :: rest.map (am_v ad))) := by
          intro q e9 H1 he p1 d1 s1
          exact am_nw (x := x) (n := n.toNatClampNeg) hP hF hS hc p1 d1 s1 he (fun p2 s2 => kk H1 locs (cells + 1) (slots + n.toNatClampNeg) p2 s2 (by show n0 + (cells + 1) = h.1 + 1; omega) (by show s0 + (slots + _) = h.2.1 + _; omega))
        cases t <;> simp only [am_zero, reduceCtorEq] at hx0
        case int =>
          cases hx0
          refine va_newa (atype := .int) (ty := .int) (a0 := (n.toNatClampNeg, .inl (fun _ => 0))) hx hb (hts _ tb_ar_int) rfl hF.1 hP.1 (am_wsD hF.2.2.2.2.2) (am_S_here hS) (am_hA hP) (fun _ => rfl) hn1 rfl (by show n.toNatClampNeg * 4 ≤ _; omega) e1 e2 hd (fun q c' H1 hK' p1 d1 s1 => fin q _ H1 ?_ p1 d1 s1)
          obtain ⟨g1, g2⟩ := am_cA_has hF.1 hK' tb_at_int
          have ec : c' = cA .int := Option.some.inj (Eq.trans (Eq.symm g2) g1)
          rw [ec]; rfl
        case byte =>
          cases hx0
          refine va_newa (atype := .byte) (ty := .byte) (a0 := (n.toNatClampNeg, .inl (fun _ => 0))) hx hb (hts _ tb_ar_byte) rfl hF.1 hP.1 (am_wsD hF.2.2.2.2.2) (am_S_here hS) (am_hA hP) (fun _ => rfl) hn1 rfl (by show n.toNatClampNeg * 1 ≤ _; omega) e1 e2 hd (fun q c' H1 hK' p1 d1 s1 => fin q _ H1 ?_ p1 d1 s1)
          obtain ⟨g1, g2⟩ := am_cA_has hF.1 hK' tb_at_byte
          have ec : c' = cA .byte := Option.some.inj (Eq.trans (Eq.symm g2) g1)
          rw [ec]; rfl
        case boolean =>
          cases hx0
          refine va_newa (atype := .boolean) (ty := .boolean) (a0 := (n.toNatClampNeg, .inl (fun _ => 0))) hx hb (hts _ tb_ar_bool) rfl hF.1 hP.1 (am_wsD hF.2.2.2.2.2) (am_S_here hS) (am_hA hP) (fun _ => rfl) hn1 rfl (by show n.toNatClampNeg * 1 ≤ _; omega) e1 e2 hd (fun q c' H1 hK' p1 d1 s1 => fin q _ H1 ?_ p1 d1 s1)
          obtain ⟨g1, g2⟩ := am_cA_has hF.1 hK' tb_at_bool
          have ec : c' = cA .boolean := Option.some.inj (Eq.trans (Eq.symm g2) g1)
          rw [ec]; rfl
        case long =>
          cases hx0
          refine va_newa (atype := .long) (ty := .long) (a0 := (n.toNatClampNeg, .inr (.inl (fun _ => 0)))) hx hb (hts _ tb_ar_long) rfl hF.1 hP.1 (am_wsD hF.2.2.2.2.2) (am_S_here hS) (am_hA hP) (fun _ => rfl) hn1 rfl (by show n.toNatClampNeg * 8 ≤ _; omega) e1 e2 hd (fun q c' H1 hK' p1 d1 s1 => fin q _ H1 ?_ p1 d1 s1)
          obtain ⟨g1, g2⟩ := am_cA_has hF.1 hK' tb_at_long
          have ec : c' = cA .long := Option.some.inj (Eq.trans (Eq.symm g2) g1)
          rw [ec]; rfl
      · cases q
    · cases q
  · cases q
theorem am_newq_ok (hx : p.tables.exec = Jvm.exec) (hb : c.code = cc) (hts : ∀ w ∈ tb_wd, w.before args s = true) (hown : s.vm.findClass (tb_own o) = some m.cls) (hF : am_Fr D cA ad b0 ou s n0) (hP : am_P D cA ad b0 ou h H) (hS : va_S (am_A b0) s.heap H locs) (hc : n0 + cells = h.1) (hs : s0 + slots = h.2.1) {k : Nat} (q : am_newq o k S h = some (S', h')) (hRc : h'.1 ≤ n0 + R.cells) (hRs : h'.2.1 ≤ s0 + R.slots) (hd : decode cc pc = .ok (.anewarray k, 3)) (kk : am_kont p l e R s m args below meth c Q D cA ad b0 n0 s0 ou h' (F0 m (pc + 3) ls (S'.map (am_v ad)))) : W p l e R s m args below meth c H locs cells slots Q (F0 m pc ls (S.map (am_v ad))) := by
  unfold am_newq at q
  split at q
  · rename_i n rest
    split at q
    · rename_i C hC
      split at q
      · rename_i hn
        cases q
        obtain ⟨hn1, hn2⟩ := hn
        obtain ⟨t1, t2, t3⟩ := tb_anw_ok hC
        have r1 : h.1 + 1 ≤ n0 + R.cells := hRc
        have r2 : h.2.1 + n.toNatClampNeg ≤ s0 + R.slots := hRs
        refine va_newq hx hb hown (hts _ t1) (hF.2.2.2.2.1.2.1 C t2) hF.1 hP.1 (am_wsD hF.2.2.2.2.2) (am_S_here hS) (am_hA hP) hn1 rfl (by omega) (by omega) (by omega) hd (fun q c' H1 hK' p1 d1 s1 => ?_)
        exact am_nw (x := .inl (.object C, n.toNatClampNeg, .inr (.inr (.inr (.inr (fun _ => none)))))) (n := n.toNatClampNeg) hP hF hS hc p1 d1 s1 (by rw [am_cA_obj hF.1 hK' t3]; rfl) (fun p2 s2 => kk H1 locs (cells + 1) (slots + n.toNatClampNeg) p2 s2 (by show n0 + (cells + 1) = h.1 + 1; omega) (by show s0 + (slots + _) = h.2.1 + _; omega))
      · cases q
    · cases q
  · cases q
theorem am_new_ok (hx : p.tables.exec = Jvm.exec) (hb : c.code = cc) (hts : ∀ w ∈ tb_wd, w.before args s = true) (hown : s.vm.findClass (tb_own o) = some m.cls) (hF : am_Fr D cA ad b0 ou s n0) (hP : am_P D cA ad b0 ou h H) (hS : va_S (am_A b0) s.heap H locs) (hc : n0 + cells = h.1) (hs : s0 + slots = h.2.1) {k : Nat} (q : am_new o k S h = some (S', h')) (hRc : h'.1 ≤ n0 + R.cells) (hRs : h'.2.1 ≤ s0 + R.slots) (hd : decode cc pc = .ok (.new k, 3)) (kk : am_kont p l e R s m args below meth c Q D cA ad b0 n0 s0 ou h' (F0 m (pc + 3) ls (S'.map (am_v ad)))) : W p l e R s m args below meth c H locs cells slots Q (F0 m pc ls (S.map (am_v ad))) := by
  unfold am_new at q
  split at q
  · rename_i ci hC
    split at q
    · rename_i r9 hr9
      cases q
      obtain ⟨C, T, N⟩ := r9
      obtain ⟨t1, t2, t3, t4, t5⟩ := tb_new_ok hC hr9
      have r1 : h.1 + 1 ≤ n0 + R.cells := hRc
      have r2 : h.2.1 + N ≤ s0 + R.slots := hRs
      refine va_new (ci := ci) (fs := ((List.range N).map (fun j => defaultValue (tb_ty ci j))).map (am_v ad)) hx hb hts t1 (tb_ty ci) t2 hown (hts _ t3) (hts _ t4) (hts _ t5) hF.1 hP.1 (am_wsD hF.2.2.2.2.2) (am_S_here hS) (am_hA hP) hr9 (fun j hj => ?_) (by omega) (by omega) hd (fun q H1 p1 d1 s1 => ?_)
      · simp [vp_V, List.getD_eq_getElem?_getD, hj, am_v_dflt]
      · exact am_nw (x := .inr (ci, (List.range N).map (fun j => defaultValue (tb_ty ci j)))) (n := N) hP hF hS hc p1 d1 s1 rfl (fun p2 s2 => kk H1 locs (cells + 1) (slots + N) p2 s2 (by show n0 + (cells + 1) = h.1 + 1; omega) (by show s0 + (slots + N) = h.2.1 + N; omega))
    · cases q
  · cases q
theorem am_ldc_ok (hx : p.tables.exec = Jvm.exec) (hb : c.code = cc) (hts : ∀ w ∈ tb_wd, w.before args s = true) (hown : s.vm.findClass (tb_own o) = some m.cls) (hF : am_Fr D cA ad b0 ou s n0) (hP : am_P D cA ad b0 ou h H) (hS : va_S (am_A b0) s.heap H locs) (hc : n0 + cells = h.1) (hs : s0 + slots = h.2.1) {k : Nat} (q : am_ldc o k S h = some (S', h')) (hd : decode cc pc = .ok (.ldc k, 2)) (kk : am_kont p l e R s m args below meth c Q D cA ad b0 n0 s0 ou h' (F0 m (pc + 2) ls (S'.map (am_v ad)))) : W p l e R s m args below meth c H locs cells slots Q (F0 m pc ls (S.map (am_v ad))) := by
  unfold am_ldc at q
  split at q
  · rename_i x hC
    cases q
    exact lv_ldc hx hb hown (hts _ (tb_cst_int hC)) hd (kk H locs cells slots hP hS hc hs)
  · rename_i r hC
    cases q
    obtain ⟨rfl, e1, e2⟩ := tb_cst_ref hC
    obtain ⟨-, hZ, -⟩ := hF.2.2.2.2.1.2.2
    rw [← e1, ← e2] at hZ
    exact va_ldcS hx hb hown hZ hd (kk H locs cells slots hP hS hc hs)
  · cases q
theorem am_ldcw_ok (hx : p.tables.exec = Jvm.exec) (hb : c.code = cc) (hts : ∀ w ∈ tb_wd, w.before args s = true) (hown : s.vm.findClass (tb_own o) = some m.cls) (hP : am_P D cA ad b0 ou h H) (hS : va_S (am_A b0) s.heap H locs) (hc : n0 + cells = h.1) (hs : s0 + slots = h.2.1) {k : Nat} (q : am_ldcw o k S h = some (S', h')) (hd : decode cc pc = .ok (.ldc_w k, 3)) (kk : am_kont p l e R s m args below meth c Q D cA ad b0 n0 s0 ou h' (F0 m (pc + 3) ls (S'.map (am_v ad)))) : W p l e R s m args below meth c H locs cells slots Q (F0 m pc ls (S.map (am_v ad))) := by
  unfold am_ldcw at q
  split at q
  · rename_i x hC
    cases q
    exact lv_ldcw hx hb hown (hts _ (tb_cst_int hC)) hd (kk H locs cells slots hP hS hc hs)
  · cases q
theorem am_ldc2_ok (hx : p.tables.exec = Jvm.exec) (hb : c.code = cc) (hts : ∀ w ∈ tb_wd, w.before args s = true) (hown : s.vm.findClass (tb_own o) = some m.cls) (hP : am_P D cA ad b0 ou h H) (hS : va_S (am_A b0) s.heap H locs) (hc : n0 + cells = h.1) (hs : s0 + slots = h.2.1) {k : Nat} (q : am_ldc2 o k S h = some (S', h')) (hd : decode cc pc = .ok (.ldc2_w k, 3)) (kk : am_kont p l e R s m args below meth c Q D cA ad b0 n0 s0 ou h' (F0 m (pc + 3) ls (S'.map (am_v ad)))) : W p l e R s m args below meth c H locs cells slots Q (F0 m pc ls (S.map (am_v ad))) := by
  unfold am_ldc2 at q
  split at q
  · rename_i x hC
    cases q
    exact lv_ldc2 hx hb hown (hts _ (tb_cst_long hC)) hd (kk H locs cells slots hP hS hc hs)
  · cases q
set_option maxHeartbeats 4000000 in
theorem am_hp_ok {ini : Bool} (hini : ini = true → meth.name = "<init>") (hx : p.tables.exec = Jvm.exec) (hb : c.code = cc) (hts : ∀ w ∈ tb_wd, w.before args s = true) (hown : s.vm.findClass (tb_own o) = some m.cls) (hF : am_Fr D cA ad b0 ou s n0) (hP : am_P D cA ad b0 ou h H) (hS : va_S (am_A b0) s.heap H locs) (hc : n0 + cells = h.1) (hs : s0 + slots = h.2.1) {i : Instr} (q : am_hp ini o i S h = some (S', h')) (hRc : h'.1 ≤ n0 + R.cells) (hRs : h'.2.1 ≤ s0 + R.slots) (hd : decode cc pc = .ok (i, am_len i)) (kk : am_kont p l e R s m args below meth c Q D cA ad b0 n0 s0 ou h' (F0 m (pc + am_len i) ls (S'.map (am_v ad)))) : W p l e R s m args below meth c H locs cells slots Q (F0 m pc ls (S.map (am_v ad))) := by
  cases i <;> simp only [am_hp, reduceCtorEq] at q
  case getfield k => exact am_getf_ok hx hb hts hown hF hP hS hc hs q hd kk
  case putfield k => exact am_putf_ok hini hx hb hts hown hF hP hS hc hs q hd kk
  case iaload => exact am_iald_ok hx hb hF hP hS hc hs q hd kk
  case baload => exact am_bald_ok hx hb hF hP hS hc hs q hd kk
  case laload => exact am_lald_ok hx hb hF hP hS hc hs q hd kk
  case aaload => exact am_aald_ok hx hb hF hP hS hc hs q hd kk
  case arraylength => exact am_alen_ok hx hb hF hP hS hc hs q hd kk
  case iastore => exact am_iast_ok hx hb hF hP hS hc hs q hd kk
  case bastore => exact am_bast_ok hx hb hF hP hS hc hs q hd kk
  case lastore => exact am_last_ok hx hb hF hP hS hc hs q hd kk
  case aastore => exact am_aast_ok hx hb hF hP hS hc hs q hd kk
  case newarray t => exact am_newa_ok hx hb hts hF hP hS hc hs q hRc hRs hd kk
  case anewarray k => exact am_newq_ok hx hb hts hown hF hP hS hc hs q hRc hRs hd kk
  case new k => exact am_new_ok hx hb hts hown hF hP hS hc hs q hRc hRs hd kk
  case ldc k => exact am_ldc_ok hx hb hts hown hF hP hS hc hs q hd kk
  case ldc2_w k => exact am_ldc2_ok hx hb hts hown hP hS hc hs q hd kk
  case ldc_w k => exact am_ldcw_ok hx hb hts hown hP hS hc hs q hd kk
  case caload => exact am_cald_ok hx hb hF hP hS hc hs q hd kk
  case getstatic k => exact am_gets_ok hx hb hts hown hF hP hS hc hs q hd kk
end AM4
-- nothing is ever taken back
theorem am_hp_mono {ini : Bool} {o : Nat} {i : Instr} {S S' : List Value} {h h' : am_H} (q : am_hp ini o i S h = some (S', h')) : h.1 ≤ h'.1 ∧ h.2.1 ≤ h'.2.1 := by
  cases i <;> simp only [am_hp, reduceCtorEq] at q
  case getfield k => unfold am_getf at q; (repeat' (split at q)) <;> cases q <;> exact ⟨Nat.le_refl _, Nat.le_refl _⟩
  case putfield k => unfold am_putf at q; (repeat' (split at q)) <;> cases q <;> exact ⟨Nat.le_refl _, Nat.le_refl _⟩
  case iaload => unfold am_iald at q; (repeat' (split at q)) <;> cases q <;> exact ⟨Nat.le_refl _, Nat.le_refl _⟩
  case baload => unfold am_bald at q; (repeat' (split at q)) <;> cases q <;> exact ⟨Nat.le_refl _, Nat.le_refl _⟩
  case laload => unfold am_lald at q; (repeat' (split at q)) <;> cases q <;> exact ⟨Nat.le_refl _, Nat.le_refl _⟩
  case aaload => unfold am_aald at q; (repeat' (split at q)) <;> cases q <;> exact ⟨Nat.le_refl _, Nat.le_refl _⟩
  case arraylength => unfold am_alen at q; (repeat' (split at q)) <;> cases q <;> exact ⟨Nat.le_refl _, Nat.le_refl _⟩
  case iastore => unfold am_iast at q; (repeat' (split at q)) <;> cases q <;> exact ⟨Nat.le_refl _, Nat.le_refl _⟩
  case bastore => unfold am_bast at q; (repeat' (split at q)) <;> cases q <;> exact ⟨Nat.le_refl _, Nat.le_refl _⟩
  case lastore => unfold am_last at q; (repeat' (split at q)) <;> cases q <;> exact ⟨Nat.le_refl _, Nat.le_refl _⟩
  case aastore => unfold am_aast at q; (repeat' (split at q)) <;> cases q <;> exact ⟨Nat.le_refl _, Nat.le_refl _⟩
  case newarray t => unfold am_newa at q; (repeat' (split at q)) <;> cases q <;> exact ⟨Nat.le_succ _, Nat.le_add_right _ _⟩
  case anewarray k => unfold am_newq at q; (repeat' (split at q)) <;> cases q <;> exact ⟨Nat.le_succ _, Nat.le_add_right _ _⟩
  case new k => unfold am_new at q; (repeat' (split at q)) <;> cases q <;> exact ⟨Nat.le_succ _, Nat.le_add_right _ _⟩
  case ldc k => unfold am_ldc at q; (repeat' (split at q)) <;> cases q <;> exact ⟨Nat.le_refl _, Nat.le_refl _⟩
  case ldc_w k => unfold am_ldcw at q; (repeat' (split at q)) <;> cases q <;> exact ⟨Nat.le_refl _, Nat.le_refl _⟩
  case caload => unfold am_cald at q; (repeat' (split at q)) <;> cases q <;> exact ⟨Nat.le_refl _, Nat.le_refl _⟩
  case getstatic k => unfold am_gets at q; (repeat' (split at q)) <;> cases q <;> exact ⟨Nat.le_refl _, Nat.le_refl _⟩
  case ldc2_w k => unfold am_ldc2 at q; (repeat' (split at q)) <;> cases q <;> exact ⟨Nat.le_refl _, Nat.le_refl _⟩
theorem am_step_mono {d mi : Nat} {f : am_F} {h : am_H} {q : am_F × am_H} (z : am_step d mi f h = some q) : h.1 ≤ q.2.1 ∧ h.2.1 ≤ q.2.2.1 := by
  unfold am_step at z
  split at z
  · split at z
    · cases z; exact ⟨Nat.le_refl _, Nat.le_refl _⟩
    · split at z
      · cases z; exact ⟨Nat.le_refl _, Nat.le_refl _⟩
      · split at z
        · cases z; exact ⟨Nat.le_refl _, Nat.le_refl _⟩
        · split at z
          · rename_i w hw
            cases z
            exact am_hp_mono hw
          · split at z
            · cases z; exact ⟨Nat.le_refl _, Nat.le_refl _⟩
            · cases z
  · cases z
theorem am_run_mono : ∀ (n d mi : Nat) (f : am_F) (h h' : am_H) (v : Option Value), am_run n d mi f h = some (v, h') → h.1 ≤ h'.1 ∧ h.2.1 ≤ h'.2.1 := by
  intro n
  induction n with
  | zero => intro d mi f h h' v z; cases z
  | succ n ih =>
    intro d mi f h h' v z
    unfold am_run at z
    split at z
    · rename_i q hq
      have a := am_step_mono hq
      have b := ih _ _ _ _ _ _ z
      exact ⟨Nat.le_trans a.1 b.1, Nat.le_trans a.2 b.2⟩
    · split at z
      · cases z; exact ⟨Nat.le_refl _, Nat.le_refl _⟩
      · split at z
        · split at z
          · rename_i h1 hr
            have a := ih _ _ _ _ _ _ hr
            have b := ih _ _ _ _ _ _ z
            exact ⟨Nat.le_trans a.1 b.1, Nat.le_trans a.2 b.2⟩
          · cases z
        · cases z
