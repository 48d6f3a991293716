section AM3
variable {p : Program} {l : Launch} {e : Env} {R : Room} {s : State} {m : MethodId} {args : Array Value} {below : List Frame} {meth : Method} {c : Code} {H : Heap} {locs : List Loc} {cells slots : Nat} {Q : State → Prop}
variable {cc : ByteArray} {pc : Nat} {ls : Array Slot} {ad : Nat → Nat} {D : va_G} {cA : FieldType → ClassId} {b0 n0 s0 : Nat} {ou : Nat → am_C} {h h' : am_H} {o : Nat} {S S' : List Value}
abbrev am_kont (p : Program) (l : Launch) (e : Env) (R : Room) (s : State) (m : MethodId) (args : Array Value) (below : List Frame) (meth : Method) (c : Code) (Q : State → Prop) (D : va_G) (cA : FieldType → ClassId) (ad : Nat → Nat) (b0 n0 s0 : Nat) (ou : Nat → am_C) (h : am_H) (g : JFrame) : Prop :=
  ∀ (H1 : Heap) (locs1 : List Loc) (cells1 slots1 : Nat), am_P D cA ad b0 ou h H1 → va_S (am_A b0) s.heap H1 locs1 → n0 + cells1 = h.1 → s0 + slots1 = h.2.1 → W p l e R s m args below meth c H1 locs1 cells1 slots1 Q g
theorem am_getf_ok (hx : p.tables.exec = Jvm.exec) (hb : c.code = cc) (hts : ∀ w ∈ tb_wd, w.before args s = true) (hown : s.vm.findClass (tb_own o) = some m.cls) (hF : am_Fr D cA ad b0 ou s n0) (hP : am_P D cA ad b0 ou h H) (hS : va_S (am_A b0) s.heap H locs) (hc : n0 + cells = h.1) (hs : s0 + slots = h.2.1) {k : Nat} (q : am_getf o k S h = some (S', h')) (hd : decode cc pc = .ok (.getfield k, 3)) (kk : am_kont p l e R s m args below meth c Q D cA ad b0 n0 s0 ou h' (F0 m (pc + 3) ls (S'.map (am_v ad)))) : W p l e R s m args below meth c H locs cells slots Q (F0 m pc ls (S.map (am_v ad))) := by
  unfold am_getf at q
  split at q
  · rename_i r rest
    split at q
    · rename_i hr1
      subst hr1
      split at q
      · rename_i v hv
        cases q
        have hSt := hF.2.2.2.2.1.2.2.2.2.1.1.1 0 (by decide)
        rcases tb_lf_ok hv with ⟨rfl, hw⟩ | ⟨rfl, hw⟩
        · exact vk_getf hx hb hSt.2.2.1 hS hown (hts _ hw) (fun _ z => z) hd (kk H locs cells slots hP hS hc hs)
        · exact vk_getf hx hb hSt.2.1 hS hown (hts _ hw) (fun _ z => z) hd (kk H locs cells slots hP hS hc hs)
      · cases q
    split at q
    · rename_i ci j kd c' fs h1 h2
      split at q
      · rename_i hcc
        subst hcc
        split at q
        · rename_i v hv
          cases q
          obtain ⟨a1, a2, a3⟩ := am_at_inv h2
          have he := am_ws_get (cA := cA) (ad := ad) a1 a2
          rw [a3] at he
          have he : (am_ws cA ad h)[r - am_K]? = some (ad r, .inr (c', fs.map (am_v ad))) := he
          obtain ⟨C, T, N, t1, t2, t3, -, -, t6, t7, -, -⟩ := tb_fld_ok h1
          have hv' : (fs.map (am_v ad))[j]? = some (am_v ad v) := by rw [List.getElem?_map, hv]; rfl
          by_cases hk : kd % 2 = 0
          · exact va_get hx hb hts t3 hown hF.1 hP.1 _ he t1 j t2 (hts _ (t6 hk)) (fun _ z => z) hv' hd (kk H locs cells slots hP hS hc hs)
          · obtain ⟨host, hh⟩ := t7 (by omega)
            exact va_getN (host := host) hx hb hts t3 hown hF.1 hP.1 _ he t1 j t2 (va_Nw.use rfl (hF.2.1 _ hh)) (fun _ z => z) hv' hd (kk H locs cells slots hP hS hc hs)
        · cases q
      · cases q
    · cases q
  · cases q
theorem am_putf_ok {ini : Bool} (hini : ini = true → meth.name = "<init>") (hx : p.tables.exec = Jvm.exec) (hb : c.code = cc) (hts : ∀ w ∈ tb_wd, w.before args s = true) (hown : s.vm.findClass (tb_own o) = some m.cls) (hF : am_Fr D cA ad b0 ou s n0) (hP : am_P D cA ad b0 ou h H) (hS : va_S (am_A b0) s.heap H locs) (hc : n0 + cells = h.1) (hs : s0 + slots = h.2.1) {k : Nat} (q : am_putf ini o k S h = some (S', h')) (hd : decode cc pc = .ok (.putfield k, 3)) (kk : am_kont p l e R s m args below meth c Q D cA ad b0 n0 s0 ou h' (F0 m (pc + 3) ls (S'.map (am_v ad)))) : W p l e R s m args below meth c H locs cells slots Q (F0 m pc ls (S.map (am_v ad))) := by
  unfold am_putf at q
  split at q
  · rename_i v r rest
    split at q
    · rename_i ci j kd c' fs h1 h2
      split at q
      · rename_i hcc
        obtain ⟨rfl, hl, hfit, hkd, hi2⟩ := hcc
        cases q
        obtain ⟨a1, a2, a3⟩ := am_at_inv h2
        have he := am_ws_get (cA := cA) (ad := ad) a1 a2
        rw [a3] at he
        have he : (am_ws cA ad h)[r - am_K]? = some (ad r, .inr (c', fs.map (am_v ad))) := he
        obtain ⟨C, T, N, t1, t2, t3, t4, t5, t6, t7, t8, t9⟩ := tb_fld_ok h1
        obtain ⟨f1, f2⟩ := am_fit_ok (ad := ad) hfit
        have hl' : j < (fs.map (am_v ad)).length := by rw [List.length_map]; exact hl
        have hD := am_wsD (cA := cA) (h := h) hF.2.2.2.2.2
        have fin : ∀ (H1 : Heap) (locs1 : List Loc), va_P D tb_cl ((am_ws cA ad h).set (r - am_K) (ad r, .inr (c', (fs.map (am_v ad)).set j (am_v ad v)))) H1 → va_D (am_A b0) ((am_ws cA ad h).set (r - am_K) (ad r, .inr (c', (fs.map (am_v ad)).set j (am_v ad v)))) → va_S (am_A b0) H H1 locs1 → W p l e R s m args below meth c H1 locs1 cells slots Q (F0 m (pc + 3) ls (S'.map (am_v ad))) := by
          intro H1 locs1 p1 _ s1
          refine am_wr (x := .inr (c', fs.set j v)) hP hF hS hc a1 ?_ s1 (fun p2 s2 => kk H1 locs1 cells slots p2 s2 hc hs)
          show va_P D tb_cl ((am_ws cA ad h).set (r - am_K) (ad r, .inr (c', (fs.set j v).map (am_v ad)))) H1
          rw [List.map_set]
          exact p1
        rcases (show kd = 0 ∨ kd = 1 ∨ kd = 2 by omega) with rfl | rfl | rfl
        · exact va_put hx hb hts t3 (tb_ty c') t4 t5 hown hF.1 hP.1 hD (am_S_here hS) _ he t1 j t2 (hts _ (t6 rfl)) (fun _ z => z) t8 (t4 j t2) f1 f2 hl' hd fin
        · obtain ⟨host, hh⟩ := t7 rfl
          exact va_putN (host := host) hx hb hts t3 (tb_ty c') t4 t5 hown hF.1 hP.1 hD (am_S_here hS) _ he t1 j t2 (va_Nw.use rfl (hF.2.1 _ hh)) (fun _ z => z) t8 (t4 j t2) f1 f2 hl' hd fin
        · exact va_putF hx hb hts t3 (tb_ty c') t4 t5 hown hF.1 hP.1 hD (am_S_here hS) _ he t1 j t2 (hts _ (t6 rfl)) (fun _ z => z) t8 (hini (hi2 rfl)) (t9 rfl) (t4 j t2) f1 f2 hl' hd fin
      · cases q
    · cases q
  · cases q
theorem am_iald_ok (hx : p.tables.exec = Jvm.exec) (hb : c.code = cc) (hF : am_Fr D cA ad b0 ou s n0) (hP : am_P D cA ad b0 ou h H) (hS : va_S (am_A b0) s.heap H locs) (hc : n0 + cells = h.1) (hs : s0 + slots = h.2.1) (q : am_iald S h = some (S', h')) (hd : decode cc pc = .ok (.iaload, 1)) (kk : am_kont p l e R s m args below meth c Q D cA ad b0 n0 s0 ou h' (F0 m (pc + 1) ls (S'.map (am_v ad)))) : W p l e R s m args below meth c H locs cells slots Q (F0 m pc ls (S.map (am_v ad))) := by
  unfold am_iald at q
  split at q
  · rename_i j r rest
    split at q
    · rename_i n f h2
      split at q
      · rename_i hi
        cases q
        unfold am_rd at h2
        split at h2
        · rename_i hr
          obtain ⟨⟨L, xs, o1, o2, o3, o4⟩, -, ⟨-, p2⟩, -, ⟨-, -, p3⟩, -⟩ := hF.2.2.2.2.1.2.2
          rcases hr with rfl | rfl | rfl
          · have e1 := ((Option.some.inj h2).symm.trans (hP.2.2.2 0 (by decide))).trans o1
            cases e1
            exact va_sld hx hb o2 (by omega) (by show ¬ b0 ≤ ad 0; omega) hS (am_idx_in hi) hd (kk H locs cells slots hP hS hc hs)
          · have e1 := ((Option.some.inj h2).symm.trans (hP.2.2.2 2 (by decide))).trans p2
            cases e1
          · have e1 := ((Option.some.inj h2).symm.trans (hP.2.2.2 3 (by decide))).trans p3
            cases e1
        · obtain ⟨a1, a2, a3⟩ := am_at_inv h2
          have he := am_ws_get (cA := cA) (ad := ad) a1 a2
          rw [a3] at he
          obtain ⟨t0, ht⟩ := am_tys_at (cA := cA) tb_at_int
          exact va_iald hx hb hF.1 hP.1 _ t0 he ht (am_idx_in hi) hd (kk H locs cells slots hP hS hc hs)
      · cases q
    · cases q
  · cases q
theorem am_bald_ok (hx : p.tables.exec = Jvm.exec) (hb : c.code = cc) (hF : am_Fr D cA ad b0 ou s n0) (hP : am_P D cA ad b0 ou h H) (hS : va_S (am_A b0) s.heap H locs) (hc : n0 + cells = h.1) (hs : s0 + slots = h.2.1) (q : am_bald S h = some (S', h')) (hd : decode cc pc = .ok (.baload, 1)) (kk : am_kont p l e R s m args below meth c Q D cA ad b0 n0 s0 ou h' (F0 m (pc + 1) ls (S'.map (am_v ad)))) : W p l e R s m args below meth c H locs cells slots Q (F0 m pc ls (S.map (am_v ad))) := by
  unfold am_bald at q
  split at q
  · rename_i j r rest
    split at q
    · rename_i n f h2
      split at q
      · rename_i hi
        cases q
        unfold am_rd at h2
        split at h2
        · rename_i hr
          obtain ⟨⟨L, xs, o1, o2, o3, o4⟩, -, ⟨p1, p2⟩, -, ⟨-, -, p3⟩, -⟩ := hF.2.2.2.2.1.2.2
          rcases hr with rfl | rfl | rfl
          · have e1 := ((Option.some.inj h2).symm.trans (hP.2.2.2 0 (by decide))).trans o1
            cases e1
          · have e1 := ((Option.some.inj h2).symm.trans (hP.2.2.2 2 (by decide))).trans p2
            cases e1
            exact va_tb hx hb (p1.1 0 (by decide)).2.2.2 hS (am_idx_in hi) rfl hd (kk H locs cells slots hP hS hc hs)
          · have e1 := ((Option.some.inj h2).symm.trans (hP.2.2.2 3 (by decide))).trans p3
            cases e1
        obtain ⟨a1, a2, a3⟩ := am_at_inv h2
        have he := am_ws_get (cA := cA) (ad := ad) a1 a2
        rw [a3] at he
        obtain ⟨t0, ht⟩ := am_tys_at (cA := cA) tb_at_byte
        exact va_bald hx hb hF.1 hP.1 _ t0 he ht (am_idx_in hi) hd (kk H locs cells slots hP hS hc hs)
      · cases q
    · rename_i n f h2
      split at q
      · rename_i hi
        cases q
        unfold am_rd at h2
        split at h2
        · rename_i hr
          obtain ⟨⟨L, xs, o1, o2, o3, o4⟩, -, ⟨p1, p2⟩, -, ⟨-, -, p3⟩, -⟩ := hF.2.2.2.2.1.2.2
          rcases hr with rfl | rfl | rfl
          · have e1 := ((Option.some.inj h2).symm.trans (hP.2.2.2 0 (by decide))).trans o1
            cases e1
          · have e1 := ((Option.some.inj h2).symm.trans (hP.2.2.2 2 (by decide))).trans p2
            cases e1
          · have e1 := ((Option.some.inj h2).symm.trans (hP.2.2.2 3 (by decide))).trans p3
            cases e1
        obtain ⟨a1, a2, a3⟩ := am_at_inv h2
        have he := am_ws_get (cA := cA) (ad := ad) a1 a2
        rw [a3] at he
        obtain ⟨t0, ht⟩ := am_tys_at (cA := cA) tb_at_bool
        exact va_zald hx hb hF.1 hP.1 _ t0 he ht (am_idx_in hi) hd (kk H locs cells slots hP hS hc hs)
      · cases q
    · cases q
  · cases q
theorem am_cald_ok (hx : p.tables.exec = Jvm.exec) (hb : c.code = cc) (hF : am_Fr D cA ad b0 ou s n0) (hP : am_P D cA ad b0 ou h H) (hS : va_S (am_A b0) s.heap H locs) (hc : n0 + cells = h.1) (hs : s0 + slots = h.2.1) (q : am_cald S h = some (S', h')) (hd : decode cc pc = .ok (.caload, 1)) (kk : am_kont p l e R s m args below meth c Q D cA ad b0 n0 s0 ou h' (F0 m (pc + 1) ls (S'.map (am_v ad)))) : W p l e R s m args below meth c H locs cells slots Q (F0 m pc ls (S.map (am_v ad))) := by
  unfold am_cald at q
  split at q
  · rename_i j r rest
    split at q
    · rename_i hr
      subst hr
      split at q
      · rename_i n f h2
        split at q
        · rename_i hi
          cases q
          obtain ⟨-, -, -, -, ⟨-, p3, p4⟩, -⟩ := hF.2.2.2.2.1.2.2
          have e1 := (h2.symm.trans (hP.2.2.2 3 (by decide))).trans p4
          cases e1
          exact va_tc hx hb p3 hS (am_idx_in hi) rfl hd (kk H locs cells slots hP hS hc hs)
        · cases q
      · cases q
    · cases q
  · cases q
theorem am_gets_ok (hx : p.tables.exec = Jvm.exec) (hb : c.code = cc) (hts : ∀ w ∈ tb_wd, w.before args s = true) (hown : s.vm.findClass (tb_own o) = some m.cls) (hF : am_Fr D cA ad b0 ou s n0) (hP : am_P D cA ad b0 ou h H) (hS : va_S (am_A b0) s.heap H locs) (hc : n0 + cells = h.1) (hs : s0 + slots = h.2.1) {k : Nat} (q : am_gets o k S h = some (S', h')) (hd : decode cc pc = .ok (.getstatic k, 3)) (kk : am_kont p l e R s m args below meth c Q D cA ad b0 n0 s0 ou h' (F0 m (pc + 3) ls (S'.map (am_v ad)))) : W p l e R s m args below meth c H locs cells slots Q (F0 m pc ls (S.map (am_v ad))) := by
  obtain ⟨-, -, -, z1, ⟨z2, -, -⟩, z3⟩ := hF.2.2.2.2.1.2.2
  have h4 := hP.2.2.2 4 (by decide)
  unfold am_gets at q
  split at q
  · rename_i hz
    cases q
    rcases tb_sta_ok hz with ⟨-, hw⟩ | ⟨e, -⟩ | ⟨e, -⟩
    · exact va_gets hx hb z1 hS hown (hts _ hw) (fun _ z => z) hd (kk H locs cells slots hP hS hc hs)
    · cases e
    · cases e
  · rename_i hz
    have hw : Cond.fieldLink (tb_own o) k "jdk/internal/util/Preconditions" "SIOOBE_FORMATTER" "Ljava/util/function/BiFunction;" ∈ tb_wd := by
      rcases tb_sta_ok hz with ⟨e, -⟩ | ⟨-, hw⟩ | ⟨e, -⟩
      · cases e
      · exact hw
      · cases e
    split at q
    · rename_i w hc4
      cases q
      rcases z3 with ⟨e, z3⟩ | ⟨e, z3⟩
      · exact va_gets hx hb z3 hS hown (hts _ hw) (fun _ z => z) hd (kk H locs cells slots hP hS hc hs)
      · have e1 := (hc4.symm.trans h4).trans e
        cases e1
    · rename_i w hc4
      cases q
      rcases z3 with ⟨e, z3⟩ | ⟨e, z3⟩
      · have e1 := (hc4.symm.trans h4).trans e
        cases e1
      · exact va_gets hx hb z3 hS hown (hts _ hw) (fun _ z => z) hd (kk H locs cells slots hP hS hc hs)
    · cases q
  · rename_i hz
    cases q
    rcases tb_sta_ok hz with ⟨e, -⟩ | ⟨e, -⟩ | ⟨-, hw⟩
    · cases e
    · cases e
    · exact va_gets hx hb z2 hS hown (hts _ hw) (fun _ z => z) hd (kk H locs cells slots hP hS hc hs)
  · cases q
theorem am_lald_ok (hx : p.tables.exec = Jvm.exec) (hb : c.code = cc) (hF : am_Fr D cA ad b0 ou s n0) (hP : am_P D cA ad b0 ou h H) (hS : va_S (am_A b0) s.heap H locs) (hc : n0 + cells = h.1) (hs : s0 + slots = h.2.1) (q : am_lald S h = some (S', h')) (hd : decode cc pc = .ok (.laload, 1)) (kk : am_kont p l e R s m args below meth c Q D cA ad b0 n0 s0 ou h' (F0 m (pc + 1) ls (S'.map (am_v ad)))) : W p l e R s m args below meth c H locs cells slots Q (F0 m pc ls (S.map (am_v ad))) := by
  unfold am_lald at q
  split at q
  · rename_i j r rest
    split at q
    · rename_i n f h2
      split at q
      · rename_i hi
        cases q
        obtain ⟨a1, a2, a3⟩ := am_at_inv h2
        have he := am_ws_get (cA := cA) (ad := ad) a1 a2
        rw [a3] at he
        obtain ⟨t0, ht⟩ := am_tys_at (cA := cA) tb_at_long
        exact va_lald hx hb hF.1 hP.1 _ t0 he ht (am_idx_in hi) hd (kk H locs cells slots hP hS hc hs)
      · cases q
    · cases q
  · cases q
theorem am_v_rf (x : Option Nat) : am_v ad (va_rf x) = va_rf (x.map ad) := by cases x <;> rfl
theorem am_aald_ok (hx : p.tables.exec = Jvm.exec) (hb : c.code = cc) (hF : am_Fr D cA ad b0 ou s n0) (hP : am_P D cA ad b0 ou h H) (hS : va_S (am_A b0) s.heap H locs) (hc : n0 + cells = h.1) (hs : s0 + slots = h.2.1) (q : am_aald S h = some (S', h')) (hd : decode cc pc = .ok (.aaload, 1)) (kk : am_kont p l e R s m args below meth c Q D cA ad b0 n0 s0 ou h' (F0 m (pc + 1) ls (S'.map (am_v ad)))) : W p l e R s m args below meth c H locs cells slots Q (F0 m pc ls (S.map (am_v ad))) := by
  unfold am_aald at q
  split at q
  · rename_i j r rest
    split at q
    · rename_i C n f h2
      split at q
      · rename_i hi
        cases q
        obtain ⟨a1, a2, a3⟩ := am_at_inv h2
        have he := am_ws_get (cA := cA) (ad := ad) a1 a2
        rw [a3] at he
        obtain ⟨hi, hC⟩ := hi
        obtain ⟨t0, ht⟩ := am_tys_at (cA := cA) hC
        have k1 := kk H locs cells slots hP hS hc hs
        rw [List.map_cons, am_v_rf] at k1
        exact va_aldq (f := fun j => (f j).map ad) hx hb hF.1 hP.1 _ t0 he ht (am_idx_in hi) hd k1
      · cases q
    · cases q
  · cases q
theorem am_alen_ok (hx : p.tables.exec = Jvm.exec) (hb : c.code = cc) (hF : am_Fr D cA ad b0 ou s n0) (hP : am_P D cA ad b0 ou h H) (hS : va_S (am_A b0) s.heap H locs) (hc : n0 + cells = h.1) (hs : s0 + slots = h.2.1) (q : am_alen S h = some (S', h')) (hd : decode cc pc = .ok (.arraylength, 1)) (kk : am_kont p l e R s m args below meth c Q D cA ad b0 n0 s0 ou h' (F0 m (pc + 1) ls (S'.map (am_v ad)))) : W p l e R s m args below meth c H locs cells slots Q (F0 m pc ls (S.map (am_v ad))) := by
  unfold am_alen at q
  split at q
  · rename_i r rest
    split at q
    · rename_i ty n a h2
      split at q
      · rename_i hty
        cases q
        unfold am_rd at h2
        split at h2
        · rename_i hr
          obtain ⟨⟨L, xs, o1, o2, o3, o4⟩, -, ⟨p1, p2⟩, -, ⟨-, p4, p3⟩, -⟩ := hF.2.2.2.2.1.2.2
          rcases hr with rfl | rfl | rfl
          · have e1 := ((Option.some.inj h2).symm.trans (hP.2.2.2 0 (by decide))).trans o1
            cases e1
            exact va_slen hx hb o2 (by omega) (by show ¬ b0 ≤ ad 0; omega) hS hd (kk H locs cells slots hP hS hc hs)
          · have e1 := ((Option.some.inj h2).symm.trans (hP.2.2.2 2 (by decide))).trans p2
            cases e1
            exact va_tlen hx hb (p1.1 0 (by decide)).2.2.2 hS rfl hd (kk H locs cells slots hP hS hc hs)
          · have e1 := ((Option.some.inj h2).symm.trans (hP.2.2.2 3 (by decide))).trans p3
            cases e1
            exact va_tlen hx hb p4 hS rfl hd (kk H locs cells slots hP hS hc hs)
        · obtain ⟨a1, a2, a3⟩ := am_at_inv h2
          have he := am_ws_get (cA := cA) (ad := ad) a1 a2
          rw [a3] at he
          rename_i hr
          have hty : ty ∈ tb_ats := hty.elim id (fun e => absurd (Or.inr (Or.inr e)) hr)
          obtain ⟨t0, ht⟩ := am_tys_at (cA := cA) hty
          rcases a with f | f | f | f | f <;> exact va_alen hx hb hF.1 hP.1 _ t0 he ht rfl hd (kk H locs cells slots hP hS hc hs)
      · cases q
    · cases q
  · cases q
theorem am_iast_ok (hx : p.tables.exec = Jvm.exec) (hb : c.code = cc) (hF : am_Fr D cA ad b0 ou s n0) (hP : am_P D cA ad b0 ou h H) (hS : va_S (am_A b0) s.heap H locs) (hc : n0 + cells = h.1) (hs : s0 + slots = h.2.1) (q : am_iast S h = some (S', h')) (hd : decode cc pc = .ok (.iastore, 1)) (kk : am_kont p l e R s m args below meth c Q D cA ad b0 n0 s0 ou h' (F0 m (pc + 1) ls (S'.map (am_v ad)))) : W p l e R s m args below meth c H locs cells slots Q (F0 m pc ls (S.map (am_v ad))) := by
  unfold am_iast at q
  split at q
  · rename_i x j r rest
    split at q
    · rename_i n f h2
      split at q
      · rename_i hi
        cases q
        obtain ⟨a1, a2, a3⟩ := am_at_inv h2
        have he := am_ws_get (cA := cA) (ad := ad) a1 a2
        rw [a3] at he
        obtain ⟨t0, ht⟩ := am_tys_at (cA := cA) tb_at_int
        exact va_iast hx hb hF.1 hP.1 (am_wsD hF.2.2.2.2.2) (am_S_here hS) _ t0 he ht (am_idx_in hi) hd (fun H1 locs1 p1 _ s1 => am_wr (x := .inl (.int, n, .inl (upd f j.toNatClampNeg x))) hP hF hS hc a1 p1 s1 (fun p2 s2 => kk H1 locs1 cells slots p2 s2 hc hs))
      · cases q
    · cases q
  · cases q
theorem am_bast_ok (hx : p.tables.exec = Jvm.exec) (hb : c.code = cc) (hF : am_Fr D cA ad b0 ou s n0) (hP : am_P D cA ad b0 ou h H) (hS : va_S (am_A b0) s.heap H locs) (hc : n0 + cells = h.1) (hs : s0 + slots = h.2.1) (q : am_bast S h = some (S', h')) (hd : decode cc pc = .ok (.bastore, 1)) (kk : am_kont p l e R s m args below meth c Q D cA ad b0 n0 s0 ou h' (F0 m (pc + 1) ls (S'.map (am_v ad)))) : W p l e R s m args below meth c H locs cells slots Q (F0 m pc ls (S.map (am_v ad))) := by
  unfold am_bast at q
  split at q
  · rename_i x j r rest
    split at q
    · rename_i n f h2
      split at q
      · rename_i hi
        cases q
        obtain ⟨a1, a2, a3⟩ := am_at_inv h2
        have he := am_ws_get (cA := cA) (ad := ad) a1 a2
        rw [a3] at he
        obtain ⟨t0, ht⟩ := am_tys_at (cA := cA) tb_at_byte
        exact va_bast hx hb hF.1 hP.1 (am_wsD hF.2.2.2.2.2) (am_S_here hS) _ t0 he ht (am_idx_in hi) hd (fun H1 locs1 p1 _ s1 => am_wr (x := .inl (.byte, n, .inl (upd f j.toNatClampNeg (vp_nar .byte x)))) hP hF hS hc a1 p1 s1 (fun p2 s2 => kk H1 locs1 cells slots p2 s2 hc hs))
      · cases q
    · rename_i n f h2
      split at q
      · rename_i hi
        cases q
        obtain ⟨a1, a2, a3⟩ := am_at_inv h2
        have he := am_ws_get (cA := cA) (ad := ad) a1 a2
        rw [a3] at he
        obtain ⟨t0, ht⟩ := am_tys_at (cA := cA) tb_at_bool
        exact va_zast hx hb hF.1 hP.1 (am_wsD hF.2.2.2.2.2) (am_S_here hS) _ t0 he ht (am_idx_in hi) hd (fun H1 locs1 p1 _ s1 => am_wr (x := .inl (.boolean, n, .inl (upd f j.toNatClampNeg (vp_nar .boolean x)))) hP hF hS hc a1 p1 s1 (fun p2 s2 => kk H1 locs1 cells slots p2 s2 hc hs))
      · cases q
    · cases q
  · cases q
theorem am_last_ok (hx : p.tables.exec = Jvm.exec) (hb : c.code = cc) (hF : am_Fr D cA ad b0 ou s n0) (hP : am_P D cA ad b0 ou h H) (hS : va_S (am_A b0) s.heap H locs) (hc : n0 + cells = h.1) (hs : s0 + slots = h.2.1) (q : am_last S h = some (S', h')) (hd : decode cc pc = .ok (.lastore, 1)) (kk : am_kont p l e R s m args below meth c Q D cA ad b0 n0 s0 ou h' (F0 m (pc + 1) ls (S'.map (am_v ad)))) : W p l e R s m args below meth c H locs cells slots Q (F0 m pc ls (S.map (am_v ad))) := by
  unfold am_last at q
  split at q
  · rename_i x j r rest
    split at q
    · rename_i n f h2
      split at q
      · rename_i hi
        cases q
        obtain ⟨a1, a2, a3⟩ := am_at_inv h2
        have he := am_ws_get (cA := cA) (ad := ad) a1 a2
        rw [a3] at he
        obtain ⟨t0, ht⟩ := am_tys_at (cA := cA) tb_at_long
        exact va_last hx hb hF.1 hP.1 (am_wsD hF.2.2.2.2.2) (am_S_here hS) _ t0 he ht (am_idx_in hi) hd (fun H1 locs1 p1 _ s1 => am_wr (x := .inl (.long, n, .inr (.inl (vp_updL f j.toNatClampNeg x)))) hP hF hS hc a1 p1 s1 (fun p2 s2 => kk H1 locs1 cells slots p2 s2 hc hs))
      · cases q
    · cases q
  · cases q
theorem am_up_map {f : Nat → Option Nat} {j : Nat} {y : Option Nat} : va_up (fun i => (f i).map ad) j (y.map ad) = fun i => (va_up f j y i).map ad := by
  funext i
  unfold va_up
  split <;> rfl
theorem am_aast_ok (hx : p.tables.exec = Jvm.exec) (hb : c.code = cc) (hF : am_Fr D cA ad b0 ou s n0) (hP : am_P D cA ad b0 ou h H) (hS : va_S (am_A b0) s.heap H locs) (hc : n0 + cells = h.1) (hs : s0 + slots = h.2.1) (q : am_aast S h = some (S', h')) (hd : decode cc pc = .ok (.aastore, 1)) (kk : am_kont p l e R s m args below meth c Q D cA ad b0 n0 s0 ou h' (F0 m (pc + 1) ls (S'.map (am_v ad)))) : W p l e R s m args below meth c H locs cells slots Q (F0 m pc ls (S.map (am_v ad))) := by
  unfold am_aast at q
  split at q
  · rename_i v j r rest
    split at q
    · rename_i C n f h2
      split at q
      · rename_i y hy
        split at q
        · rename_i hi
          cases q
          obtain ⟨hi, hC⟩ := hi
          obtain ⟨a1, a2, a3⟩ := am_at_inv h2
          have he := am_ws_get (cA := cA) (ad := ad) a1 a2
          rw [a3] at he
          have he : (am_ws cA ad h)[r - am_K]? = some (ad r, .inl (cA (.object C), n, .inr (.inr (.inr (.inr (fun j => (f j).map ad)))))) := he
          obtain ⟨t0, ht⟩ := am_tys_at (cA := cA) hC
          have fin : ∀ (H1 : Heap) (locs1 : List Loc), va_P D tb_cl ((am_ws cA ad h).set (r - am_K) (ad r, .inl (cA (.object C), n, .inr (.inr (.inr (.inr (va_up (fun i => (f i).map ad) j.toNatClampNeg (y.map ad)))))))) H1 → va_D (am_A b0) ((am_ws cA ad h).set (r - am_K) (ad r, .inl (cA (.object C), n, .inr (.inr (.inr (.inr (va_up (fun i => (f i).map ad) j.toNatClampNeg (y.map ad)))))))) → va_S (am_A b0) H H1 locs1 → W p l e R s m args below meth c H1 locs1 cells slots Q (F0 m (pc + 1) ls (S'.map (am_v ad))) := by
            intro H1 locs1 p1 _ s1
            rw [am_up_map] at p1
            exact am_wr (x := .inl (.object C, n, .inr (.inr (.inr (.inr (va_up f j.toNatClampNeg y)))))) hP hF hS hc a1 p1 s1 (fun p2 s2 => kk H1 locs1 cells slots p2 s2 hc hs)
          unfold am_may at hy
          split at hy
          · cases hy
            exact va_astqN hx hb hF.1 hP.1 (am_wsD hF.2.2.2.2.2) (am_S_here hS) _ t0 he ht (am_idx_in hi) hd fin
          · rename_i z
            split at hy
            · rename_i c' vs h5
              split at hy
              · rename_i r9 h6
                split at hy
                · rename_i h7
                  cases hy
                  subst h7
                  obtain ⟨b1, b2, b3⟩ := am_at_inv h5
                  have hz := am_ws_get (cA := cA) (ad := ad) b1 b2
                  rw [b3] at hz
                  exact va_astq hx hb hF.1 hP.1 (am_wsD hF.2.2.2.2.2) (am_S_here hS) _ t0 _ c' he ht hz h6 (am_idx_in hi) hd fin
                · cases hy
              · cases hy
            · cases hy
          · cases hy
        · cases q
      · cases q
    · cases q
  · cases q
end AM3
