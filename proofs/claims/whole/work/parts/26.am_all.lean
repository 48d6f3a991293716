theorem am_alu_sw {i : Instr} {S S' : List Value} (h : am_alu i S = some S') : am_isw i = false := by
  cases i <;> first | rfl | (simp only [am_alu, reduceCtorEq] at h)
theorem am_loc_sw {n : Nat} {i : Instr} {L : am_L} {S : List Value} {q : am_L × List Value} (h : am_loc n i L S = some q) : am_isw i = false := by
  cases i <;> first | rfl | (simp only [am_loc, reduceCtorEq] at h)
theorem am_hp_sw {ini : Bool} {o : Nat} {i : Instr} {S : List Value} {h : am_H} {q : List Value × am_H} (z : am_hp ini o i S h = some q) : am_isw i = false := by
  cases i <;> first | rfl | (simp only [am_hp, reduceCtorEq] at z)
theorem am_cix_inv {i : Instr} {sk k : Nat} (h : am_cix i = some (sk, k)) : (sk = 0 ∧ i = .invokevirtual k) ∨ (sk = 1 ∧ i = .invokestatic k) ∨ (sk = 2 ∧ i = .invokespecial k) := by
  cases i <;> simp only [am_cix, reduceCtorEq, Option.some.injEq, Prod.mk.injEq] at h
  case invokevirtual j => obtain ⟨rfl, rfl⟩ := h; exact Or.inl ⟨rfl, rfl⟩
  case invokestatic j => obtain ⟨rfl, rfl⟩ := h; exact Or.inr (Or.inl ⟨rfl, rfl⟩)
  case invokespecial j => obtain ⟨rfl, rfl⟩ := h; exact Or.inr (Or.inr ⟨rfl, rfl⟩)
theorem am_cix_sw {i : Instr} {q : Nat × Nat} (h : am_cix i = some q) : am_isw i = false ∧ am_len i = 3 := by
  obtain ⟨sk, k⟩ := q
  rcases am_cix_inv h with ⟨-, rfl⟩ | ⟨-, rfl⟩ | ⟨-, rfl⟩ <;> exact ⟨rfl, rfl⟩
section AM6
variable {p : Program} {l : Launch} {e : Env} {R : Room} {s : State} {m : MethodId} {args : Array Value} {below : List Frame} {meth : Method} {c : Code} {H : Heap} {locs : List Loc} {cells slots : Nat} {Q : State → Prop}
variable {cc : ByteArray} {pc : Nat} {ls : Array Slot} {ad : Nat → Nat} {D : va_G} {cA : FieldType → ClassId} {b0 n0 s0 : Nat} {ou : Nat → am_C} {h h' : am_H} {o : Nat} {S S' : List Value}
theorem am_low_cons {x : Int32} {S : List Value} {n : Nat} (h : am_low (.int x :: S) ≤ n) : 1 + am_low S ≤ n := by
  have e : am_low (.int x :: S) = 1 + am_low S := by simp [am_low, Value.category]
  rw [← e]
  exact h
theorem am_pcl_ok {d : Nat} {i : Instr} (hx : p.tables.exec = Jvm.exec) (hb : c.code = cc) (hml : c.maxLocals = ls.size) (hts : ∀ w ∈ tb_wd, w.before args s = true) (hown : s.vm.findClass (tb_own o) = some m.cls) (hcc : cells ≤ R.cells) (hss : slots ≤ R.slots) (hfr : d ≤ R.frames) (hlo : d * tb_LK ≤ R.locals) (q : am_pcl d o i S = some S') (hd : decode cc pc = .ok (i, 3)) (kk : W p l e R s m args below meth c H locs cells slots Q (F0 m (pc + 3) ls (S'.map (am_v ad)))) : W p l e R s m args below meth c H locs cells slots Q (F0 m pc ls (S.map (am_v ad))) := by
  have hLK := tb_LK_big
  unfold am_pcl at q
  split at q
  · rename_i sk k hi
    split at q
    · rename_i a1 kd a2 htc
      split at q
      · rename_i S2 hpr
        split at q
        · rename_i hk
          cases q
          obtain ⟨hk2, hk3, hlow⟩ := hk
          have hl2 : tb_LK ≤ R.locals := Nat.le_trans (by rw [Nat.mul_comm]; exact Nat.le_mul_of_pos_right _ hk3) hlo
          unfold am_prm at hpr
          split at hpr
          · split at hpr
            · cases hpr
              obtain ⟨t1, t2, t3⟩ := tb_cal_10 htc
              rcases am_cix_inv hi with ⟨rfl, rfl⟩ | ⟨rfl, rfl⟩ | ⟨rfl, rfl⟩
              · exact absurd hk2 (by decide)
              · exact absurd hk2 (by decide)
              · refine W.objInit hx hb hown (hts _ t1) (hts _ t2) (hts _ t3) rfl hml.symm rfl hd (by omega) ?_ kk
                exact Nat.le_trans (Nat.add_le_add_right (lv_room (st := S'.map (am_v ad)) (by rw [am_low_map]; exact hlow)) 12) (by omega)
            · cases hpr
          · split at hpr
            · cases hpr
              obtain ⟨t1, t2, t3, t4⟩ := tb_cal_11 htc
              rcases am_cix_inv hi with ⟨rfl, rfl⟩ | ⟨rfl, rfl⟩ | ⟨rfl, rfl⟩
              · exact absurd hk2 (by decide)
              · refine va_mmax hx hb hml hown (hts _ t1) (hts _ t2) (hts _ t3) (hts _ t4) (by omega) ?_ hcc hss hd kk
                have h9 := am_low_cons hlow
                rw [am_low_map]
                omega
              · exact absurd hk2 (by decide)
            · cases hpr
          · split at hpr
            · cases hpr
              obtain ⟨t1, t2, t3, t4⟩ := tb_cal_12 htc
              rcases am_cix_inv hi with ⟨rfl, rfl⟩ | ⟨rfl, rfl⟩ | ⟨rfl, rfl⟩
              · exact absurd hk2 (by decide)
              · refine va_mmin hx hb hml hown (hts _ t1) (hts _ t2) (hts _ t3) (hts _ t4) (by omega) ?_ hcc hss hd kk
                have h9 := am_low_cons hlow
                rw [am_low_map]
                omega
              · exact absurd hk2 (by decide)
            · cases hpr
          · cases hpr
        · cases q
      · cases q
    · cases q
  · cases q
theorem am_rcvr {kd ci b : Nat} {As : List Value} {C : String} (hF : am_Fr D cA ad b0 ou s n0) (hP : am_P D cA ad b0 ou h H) (hS : va_S (am_A b0) s.heap H locs) (hk : kd = 0 ∨ kd = 3) (z : am_rcv kd ci h (.ref b :: As) = true) (hC : tb_cn ci = some C) : ∃ cell : Cell, H[ad b]? = some cell ∧ cell.vm.isStatics = false ∧ s.vm.findClass C = some cell.cls := by
  rcases am_rcv_inv hk z with ⟨rfl, rfl⟩ | ⟨fs, hb1, hb2, hb3, hb4⟩
  · have e : C = "java/lang/String" := (Option.some.inj hC).symm
    subst e
    obtain ⟨-, -, ⟨p1, -⟩, -⟩ := hF.2.2.2.2.1.2.2
    exact vk_recv p1 (i := 0) (by decide) hS
  · have he := am_ws_get (cA := cA) (ad := ad) hb1 hb2
    rw [hb3] at he
    unfold tb_cn at hC
    split at hC
    · rename_i z9; exact absurd z9 hb4
    · cases hq : tb_cl[ci]? with
      | none => rw [hq] at hC; cases hC
      | some r =>
        obtain ⟨C', T, N⟩ := r
        rw [hq] at hC
        cases hC
        exact va_recv hF.1 hP.1 hq he
theorem am_call_ok {N e' mi mj : Nat} {f : am_F} {h1 : am_H} {v : Option Value} {A q : List Value} {M : tb_M} (ih : am_Snd l D cA ad b0 ou N) (hM : tb_m mi = some M) (hcall : am_call mi f h = some (mj, A, q)) (hrun : am_run N e' mj (0, lv_args 0 A, []) h = some (v, h1))
    (hx : p.tables.exec = Jvm.exec) (hb : c.code = M.2.2.2.1) (hml : c.maxLocals = M.2.2.2.2.1) (hown : s.vm.findClass (tb_own M.1) = some m.cls) (hts : ∀ w ∈ tb_wd, w.before args s = true) (hF : am_Fr D cA ad b0 ou s n0) (hP : am_P D cA ad b0 ou h H) (hS : va_S (am_A b0) s.heap H locs) (hc : n0 + cells = h.1) (hs : s0 + slots = h.2.1) (hRc : h1.1 ≤ n0 + R.cells) (hRs : h1.2.1 ≤ s0 + R.slots) (hfr : e' + 1 ≤ R.frames) (hlo : (e' + 1) * tb_LK ≤ R.locals) {nL : am_L} (hl : lv_has ls M.2.2.2.2.1 (am_lm ad nL))
    (kk : ∀ (H1 : Heap) (locs1 : List Loc), am_P D cA ad b0 ou h1 H1 → va_S (am_A b0) s.heap H1 locs1 → W p l e R s m args below meth c H1 locs1 (cells + (h1.1 - h.1)) (slots + (h1.2.1 - h.2.1)) Q (F0 m (f.1 + 3) ls ((v.toList ++ q).map (am_v ad)))) : W p l e R s m args below meth c H locs cells slots Q (F0 m f.1 ls (f.2.2.map (am_v ad))) := by
  have hmono := am_run_mono _ _ _ _ _ _ _ hrun
  unfold am_call at hcall
  cases hi : tb_ins mi f.1 with
  | none => rw [hM, hi] at hcall; cases hcall
  | some i =>
    rw [hM, hi] at hcall
    dsimp only at hcall
    obtain ⟨len, hd, hlen⟩ := tb_ins_ok hM hi
    split at hcall
    · rename_i sk k hix
      split at hcall
      · rename_i mj' kd ci htc
        split at hcall
        · rename_i M2 hM2
          split at hcall
          · rename_i A' q' harg
            split at hcall
            · rename_i hcond
              cases hcall
              obtain ⟨hk6, hksk, hlowq, hrcv, hlowA⟩ := hcond
              obtain ⟨hsw, hl3⟩ := am_cix_sw hix
              have hd : decode M.2.2.2.1 f.1 = .ok (i, 3) := by
                rcases hlen with z | z
                · rw [hsw] at z; cases z
                · rw [z, hl3] at hd; exact hd
              obtain ⟨c1, c2, c3, c4, c5, c6, c7, c8, c8n, c9, c10, c11⟩ := tb_cal_ok htc hk6 hM2
              have hMet := am_met (l := l) (D := D) (cA := cA) (ad := ad) (b0 := b0) (ou := ou) (h := h) ih hrun hM2 hlowA c1 c2
              have hwarm : ∀ w ∈ Cond.code M2.2.1 M2.2.2.2.1 M2.2.2.2.2.1 M2.2.2.2.2.2 :: tb_wd, ∀ (a' : Array Value) (U : State), s.WarmedH U.vm → w.before a' U = true := by
                intro w hw a' U hW
                have hw' : w ∈ tb_wd := by
                  rcases List.mem_cons.mp hw with z | z
                  · rw [z]; exact c3
                  · exact z
                exact word_at hW (tb_good w hw') (hts w hw')
              have hpar : ∀ sig, parseMethodDescriptor M2.2.1.desc = some sig → M2.2.2.1 = sig.parameters.length := by
                intro sig hsig
                rw [hsig] at c6
                exact (Option.some.inj c6).symm
              have hloc : 8 + (M2.2.2.2.2.1 + 11) + e' * tb_LK ≤ R.locals := by
                rw [Nat.succ_mul] at hlo
                generalize e' * tb_LK = z at hlo ⊢
                omega
              have hroom : cells + (h1.1 - h.1) ≤ R.cells ∧ slots + (h1.2.1 - h.2.1) ≤ R.slots := by omega
              have hW8 : 2 * (F0 m f.1 ls (f.2.2.map (am_v ad))).monitorRoom + ((q.map (am_v ad)).map fun v => v.category).sum ≤ 8 := lv_room (by rw [am_low_map]; exact hlowq)
              have hret : (v.map (am_v ad)).toList ++ q.map (am_v ad) = (v.toList ++ q).map (am_v ad) := by cases v <;> simp
              have hK : ∀ (H1 : Heap) (locs1 : List Loc), am_P D cA ad b0 ou h1 H1 → va_S (am_A b0) s.heap H1 locs1 → W p l e R s m args below meth c H1 locs1 (cells + (h1.1 - h.1)) (slots + (h1.2.1 - h.2.1)) Q (F0 m (f.1 + 3) ls ((v.map (am_v ad)).toList ++ q.map (am_v ad))) := by
                intro H1 locs1 a b
                rw [hret]
                exact kk H1 locs1 a b
              rcases am_arg_inv harg with ⟨hst, hlen2, hSe⟩ | ⟨hst, b, As, rfl, hlen2, hSe⟩
              · -- static
                have hsk : sk = 1 := by omega
                rcases am_cix_inv hix with ⟨z, -⟩ | ⟨-, rfl⟩ | ⟨z, -⟩
                · omega
                · have hpre : PreS s H (am_Pc D cA ad b0 ou h A) (A.map (am_v ad)) := ⟨am_blind, am_pre hF hP hS⟩
                  have hstk : (F0 m f.1 ls (f.2.2.map (am_v ad))).stack = (A.map (am_v ad)).reverse ++ q.map (am_v ad) := by
                    show f.2.2.map (am_v ad) = _
                    rw [hSe]; simp
                  rcases (show kd = 1 ∨ kd = 4 by omega) with hk | hk
                  · exact am_callk (va_runS (Ts := tb_wd) ⟨hx, hb, hml, hown, hts⟩ hMet ⟨⟨rfl, rfl, hfr, hloc, hwarm, List.mem_cons_self, hts _ c3, hts _ c4, c5, hpar, hts _ (c8 (by omega))⟩, hts _ (c10 (Or.inl hk))⟩ hpre rfl (by simpa using hlen2) hl.1 hstk hW8 hd hroom) hS hK
                  · obtain ⟨host, hh⟩ := c8n (by omega)
                    exact am_callk (va_runSN (host := host) (Ts := tb_wd) ⟨hx, hb, hml, hown, hts⟩ hMet ⟨⟨⟨rfl, rfl, hfr, hloc, hwarm, List.mem_cons_self⟩, hts _ c3, hts _ c4, c5, hpar, va_Nw.use rfl (hF.2.1 _ hh)⟩, hts _ (c10 (Or.inr hk)), trivial⟩ hpre rfl (by simpa using hlen2) hl.1 hstk hW8 hd hroom) hS hK
                · omega
              · have hstk : (F0 m f.1 ls (f.2.2.map (am_v ad))).stack = (As.map (am_v ad)).reverse ++ .ref (ad b) :: q.map (am_v ad) := by
                  show f.2.2.map (am_v ad) = _
                  rw [hSe]; simp; rfl
                rcases (show kd = 0 ∨ kd = 2 ∨ kd = 3 ∨ kd = 5 by omega) with hk | hk | hk | hk
                · -- virtual
                  subst hk
                  obtain ⟨C, g1, g2, g3⟩ := c9 (Or.inl rfl)
                  rcases am_cix_inv hix with ⟨-, rfl⟩ | ⟨z, -⟩ | ⟨z, -⟩
                  · have hrc := am_rcvr hF hP hS (Or.inl rfl) hrcv g1
                    exact am_callk (va_runV (Ts := tb_wd) ⟨hx, hb, hml, hown, hts⟩ hMet ⟨⟨rfl, rfl, hfr, hloc, hwarm, List.mem_cons_self, hts _ c3, hts _ c4, c5, hpar, hts _ (c8 (by omega))⟩, hts _ g2, hts _ g3⟩ ⟨am_blind, hrc, am_pre hF hP hS⟩ rfl (by simpa using hlen2) hl.1 hstk hW8 hd hroom) hS hK
                  · omega
                  · omega
                · -- special
                  subst hk
                  obtain ⟨g1, g2, g3⟩ := c11 (Or.inl rfl)
                  rcases am_cix_inv hix with ⟨z, -⟩ | ⟨z, -⟩ | ⟨-, rfl⟩
                  · omega
                  · omega
                  · rw [g3] at hMet hwarm c3
                    exact am_callk (va_runI (Ts := tb_wd) ⟨hx, hb, hml, hown, hts⟩ hMet ⟨⟨rfl, rfl, hfr, hloc, hwarm, List.mem_cons_self, hts _ c3, hts _ c4, c5, hpar, hts _ (c8 (by omega))⟩, g1, hts _ g2⟩ ⟨am_blind, am_pre hF hP hS⟩ rfl (by simpa using hlen2) hl.1 hstk hW8 hd hroom) hS hK
                · subst hk
                  obtain ⟨C, g1, g2, g3⟩ := c9 (Or.inr rfl)
                  obtain ⟨host, hh⟩ := c8n (by omega)
                  rcases am_cix_inv hix with ⟨-, rfl⟩ | ⟨z, -⟩ | ⟨z, -⟩
                  · have hrc := am_rcvr hF hP hS (Or.inr rfl) hrcv g1
                    exact am_callk (va_runVN (host := host) (Ts := tb_wd) ⟨hx, hb, hml, hown, hts⟩ hMet ⟨⟨⟨rfl, rfl, hfr, hloc, hwarm, List.mem_cons_self⟩, hts _ c3, hts _ c4, c5, hpar, va_Nw.use rfl (hF.2.1 _ hh)⟩, hts _ g2, hts _ g3⟩ ⟨am_blind, hrc, am_pre hF hP hS⟩ rfl (by simpa using hlen2) hl.1 hstk hW8 hd hroom) hS hK
                  · omega
                  · omega
                · subst hk
                  obtain ⟨g1, g2, g3⟩ := c11 (Or.inr rfl)
                  obtain ⟨host, hh⟩ := c8n (by omega)
                  rcases am_cix_inv hix with ⟨z, -⟩ | ⟨z, -⟩ | ⟨-, rfl⟩
                  · omega
                  · omega
                  · rw [g3] at hMet hwarm c3
                    exact am_callk (va_runIN (host := host) (Ts := tb_wd) ⟨hx, hb, hml, hown, hts⟩ hMet ⟨⟨⟨rfl, rfl, hfr, hloc, hwarm, List.mem_cons_self⟩, hts _ c3, hts _ c4, c5, hpar, va_Nw.use rfl (hF.2.1 _ hh)⟩, g1, hts _ g2⟩ ⟨am_blind, am_pre hF hP hS⟩ rfl (by simpa using hlen2) hl.1 hstk hW8 hd hroom) hS hK
            · cases hcall
          · cases hcall
        · cases hcall
      · cases hcall
    · cases hcall
set_option maxHeartbeats 4000000 in
theorem am_sound : ∀ N : Nat, am_Snd l D cA ad b0 ou N := by
  intro N
  induction N with
  | zero => intro d mi f h h' rv M hrun; cases hrun
  | succ N ih =>
    intro d mi f h h' rv M hrun hM p e R s m args below meth c H locs cells slots Q n0 s0 ls hx hb hml hown hini hts hF hP hS hc hs hRc hRs hfr hlo hl hend
    unfold am_run at hrun
    split at hrun
    · rename_i q hq
      obtain ⟨f2, h2⟩ := q
      have mono := am_run_mono _ _ _ _ _ _ _ hrun
      have smono := am_step_mono hq
      dsimp only at mono smono hrun
      have K : ∀ (ls2 : Array Slot) (H1 : Heap) (locs1 : List Loc) (cells1 slots1 : Nat), lv_has ls2 M.2.2.2.2.1 (am_lm ad f2.2.1) → am_P D cA ad b0 ou h2 H1 → va_S (am_A b0) s.heap H1 locs1 → n0 + cells1 = h2.1 → s0 + slots1 = h2.2.1 → W p l e R s m args below meth c H1 locs1 cells1 slots1 Q (F0 m f2.1 ls2 (f2.2.2.map (am_v ad))) :=
        fun ls2 H1 locs1 cells1 slots1 hl2 hP1 hS1 hc1 hs1 => ih d mi f2 h2 h' rv M hrun hM p e R s m args below meth c H1 locs1 cells1 slots1 Q n0 s0 ls2 hx hb hml hown hini hts hF hP1 hS1 hc1 hs1 hRc hRs hfr hlo hl2 hend
      unfold am_step at hq
      cases hi : tb_ins mi f.1 with
      | none => rw [hM, hi] at hq; cases hq
      | some i =>
        rw [hM, hi] at hq
        dsimp only at hq
        obtain ⟨len, hd, hlen⟩ := tb_ins_ok hM hi
        have hd' : am_isw i = false → decode M.2.2.2.1 f.1 = .ok (i, am_len i) := by
          intro z
          rcases hlen with y | y
          · rw [z] at y; cases y
          · rw [y] at hd; exact hd
        split at hq
        · rename_i S1 h1
          cases hq
          exact am_alu_ok hx hb h1 (hd' (am_alu_sw h1)) (K ls H locs cells slots hl hP hS hc hs)
        · split at hq
          · rename_i w h1
            obtain ⟨w1, w2⟩ := w
            cases hq
            exact am_loc_ok hx hb h1 (hd' (am_loc_sw h1)) hl (fun ls' hl' => K ls' H locs cells slots hl' hP hS hc hs)
          · split at hq
            · rename_i w h1
              obtain ⟨w1, w2⟩ := w
              cases hq
              exact am_jmp_ok hx hb (am_AD_inj hF.2.2.2.2.2) h1 hd hlen (K ls H locs cells slots hl hP hS hc hs)
            · split at hq
              · rename_i w h1
                obtain ⟨w1, w2⟩ := w
                cases hq
                exact am_hp_ok (fun z => hini (by simpa using z)) hx hb hts hown hF hP hS hc hs h1 (by have h9 : w2.1 ≤ h'.1 := mono.1; omega) (by have h9 : w2.2.1 ≤ h'.2.1 := mono.2; omega) (hd' (am_hp_sw h1)) (fun H1 locs1 cells1 slots1 a b c1 d1 => K ls H1 locs1 cells1 slots1 hl a b c1 d1)
              · split at hq
                · rename_i S1 h1
                  cases hq
                  have hcx : ∃ w, am_cix i = some w := by
                    unfold am_pcl at h1
                    split at h1
                    · rename_i sk k z; exact ⟨_, z⟩
                    · cases h1
                  obtain ⟨w, hw⟩ := hcx
                  obtain ⟨z1, z2⟩ := am_cix_sw hw
                  have hd3 := hd' z1
                  rw [z2] at hd3
                  exact am_pcl_ok hx hb (hml.trans hl.1.symm) hts hown (by omega) (by omega) hfr hlo h1 hd3 (K ls H locs cells slots hl hP hS hc hs)
                · cases hq
    · split at hrun
      · rename_i v hv
        cases hrun
        unfold am_ends at hv
        cases hi : tb_ins mi f.1 with
        | none => rw [hM, hi] at hv; cases hv
        | some i =>
          rw [hM, hi] at hv
          exact hend f.1 ls f.2.2 i hi hv H locs cells slots hP hS hc hs
      · split at hrun
        · rename_i e' mj A q hcall _
          split at hrun
          · rename_i v h1 hr1
            have mono1 := am_run_mono _ _ _ _ _ _ _ hr1
            have mono2 := am_run_mono _ _ _ _ _ _ _ hrun
            refine am_call_ok ih hM hcall hr1 hx hb hml hown hts hF hP hS hc hs (by omega) (by omega) hfr hlo hl (fun H1 locs1 a b => ?_)
            exact ih (e' + 1) mi (f.1 + 3, f.2.1, v.toList ++ q) h1 h' rv M hrun hM p e R s m args below meth c H1 locs1 _ _ Q n0 s0 ls hx hb hml hown hini hts hF a b (by omega) (by omega) hRc hRs hfr hlo hl hend
          · cases hrun
        · cases hrun
end AM6
