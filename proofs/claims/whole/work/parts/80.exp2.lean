theorem rk_12 : ∀ k, k < 600 → (rk k = 1 ↔ k = 380) ∧ (rk k = 2 ↔ k = 294) := by decide +kernel
theorem readExp_lp {x : Cx} (hx : x.Ok) {L : Nat → List Int64} {T : List (Nat × Nat)} {aw : Bool} {rc : Nat → Int32 → ts → Option (Int32 × ts)} (hfr : ∀ w i s r, rc w i s = some r → fr wf_clF s r.2) {dp : Nat} (hdp : dp ≤ 31) (pt : PT x L T aw (rc 1) dp) (bd : BD x (rc 1) dp) : ∀ (d F i : Nat) (a b : ts) (c k k' : Nat) (P Q P' Q' : Nat → Int32) (E0 A B : List Op1) (W Vo Va : List Ent) (lo la : Int32), x.m + 1 - c ≤ d → d < F → i ≤ c → PreE x L T aw a b c k k' P Q P' Q' (E0 ++ (A ++ B)) (W ++ Vo ++ Va) dp false → (∀ t, W.getLast? = some t → t.2.1 = 0) → GP E0 W → Pq 1 380 (103 - 3 * dp) k E0.length lo Vo A → Pq 2 294 (103 - 3 * dp) k (E0 ++ A).length la Va B → ∃ r a1, cF_readExp_9 rc F (nI dp) lo la (nI i) a = some (r, a1) ∧ OutE x aw b c k k' P Q P' Q' E0 W dp (103 - 3 * dp) r a1 := by
  intro d
  induction d with
  | zero =>
    intro F i a b c k k' P Q P' Q' E0 A B W Vo Va lo la hm hF hi pre
    have := pre.rx.sa.l
    omega
  | succ d ih =>
    intro F i a b c k k' P Q P' Q' E0 A B W Vo Va lo la hm hF hi pre hW hgp hA hB
    obtain ⟨F, rfl⟩ : ∃ G, F = G + 1 := ⟨F - 1, by omega⟩
    have hpn := hx.pn c
    have hn := hx.n
    have hxm := hx.m
    have hcl := pre.rx.sa.l
    have vtA := Pq_vt hA (by omega)
    have vtB := Pq_vt hB (by omega)
    rw [cF_readExp_9.eq_2]
    unfold cF_readExp_9_b
    rw [if_neg (show ¬ (4001 : Int32) ≤ nI i from nI_ge (b := 4001) (by omega) (by decide))]
    obtain ⟨r, a1, i1, j, b1, i2, i3, i4, i5⟩ := pt a b c k k' P Q P' Q' (E0 ++ (A ++ B)) (W ++ Vo ++ Va) pre (Pq_last hB 3 (by omega) (Pq_last hA 3 (by omega) (fun t ht => by rw [hW t ht]; omega)))
    rw [i1, Option.bind_some]
    dsimp only
    rcases i5 with ⟨z1, z2, z3⟩ | ⟨z1, c1, F1, z2, z3, z4, z5, z6, z7, z8, z9, z10⟩
    · rw [z1, if_pos rfl]
      exact ⟨0, a1, rfl, j, b1, i2, i3, i4, Or.inl ⟨rfl, z2, z3⟩⟩
    · rw [z1, if_neg (by decide)]
      have hpn1 := hx.pn c1
      have hf1 := hfr _ _ _ _ i1
      have z6 : EA a1 k P Q ((E0 ++ A) ++ (B ++ F1)) := by simpa [List.append_assoc] using z6
      have hl1 : ((E0 ++ A) ++ (B ++ F1)).length = (E0 ++ (A ++ B) ++ F1).length := by simp
      obtain ⟨a2, B1, s1, s2, s3, s4, s5, s6⟩ := close_ok (E0 := E0 ++ A) hB (by omega) z6 z7 (by rw [hl1]; simp at z8 ⊢; omega)
      rw [s1, Option.bind_some]
      have hlt1 := hx.lt c1
      have hki : gI a2 107 0 = nI (x.kd c1) := by rw [s5.1 107 rfl]; exact z4.ki
      have hsa2 : SA x a2 c1 := SA_fr s5 rfl z4
      have hf2 : fr wf_clF a a2 := fr_tr hf1 (fr_mono (by decide +kernel) s5)
      have s4' : flush (E0 ++ (A ++ B) ++ F1) Va = E0 ++ (A ++ B1) := by rw [← List.append_assoc E0 A B1, ← s4]; congr 1; simp [List.append_assoc]
      have s2' : EA a2 k P Q (E0 ++ (A ++ B1)) := by rw [← List.append_assoc]; exact s2
      have hlB : (E0 ++ (A ++ B1)).length = (E0 ++ (A ++ B) ++ F1).length + Va.length := by rw [← s4', flush_len]
      -- how it goes on behind a sign
      have cont : ∀ (a3 b2 : ts) (A' B' : List Op1) (Vo' Va' : List Ent) (lo' la' : Int32), 256 ≤ x.kd c1 → x.kd c1 < 512 → SA x a3 c1 → fr wf_clF a a3 → EA a3 k P Q (E0 ++ (A' ++ B')) → RE aw (j + 1) b b2 → fr wf_cR_takeExp b b2 → SB x b2 (c1 + 1) → EC b2 k' P' Q' (E0 ++ (A' ++ B')) → EW b2 k' (W ++ Vo' ++ Va') dp false → gI b2 1150 0 = 1 → Pq 1 380 (103 - 3 * dp) k E0.length lo' Vo' A' → Pq 2 294 (103 - 3 * dp) k (E0 ++ A').length la' Va' B' → (E0 ++ (A' ++ B')).length + (W ++ Vo' ++ Va').length ≤ (E0 ++ (A ++ B) ++ F1).length + (W ++ Vo ++ Va).length + 2 → ∃ r a1, cF_readExp_101 rc (cF_readExp_9 rc F) (nI dp) lo' la' (nI i) a3 = some (r, a1) ∧ OutE x aw b c k k' P Q P' Q' E0 W dp (103 - 3 * dp) r a1 := by
        intro a3 b2 A' B' Vo' Va' lo' la' g1 g1' g2 g3 g4 g5 g6 g7 g8 g9 g10 g11 g12 g15
        obtain ⟨v1, v2⟩ := adv_ok hx g2 (hx.lm g2.l (by omega))
        have hp1 := hx.p2 g1 g1'
        have hvl := v2.l
        have hpn2 := hx.pn (c1 + 1)
        obtain ⟨F, rfl⟩ : ∃ G, F = G + 1 := ⟨F - 1, by omega⟩
        unfold cF_readExp_101
        rw [v1, Option.bind_some, show nI i + (1 : Int32) = nI (i + 1) from nI_add _ 1]
        by_cases hb1 : x.kd (c1 + 1) = 1
        · obtain ⟨a4, d1, d2⟩ := bd _ _ v2 hb1
          refine ⟨0, a4, ?_, j + 1, b2, g5, g6, ⟨_, ?_, g8.n, g9.f⟩, Or.inl ⟨rfl, d2 _ g7, by omega⟩⟩
          · rw [cF_readExp_9.eq_2]
            unfold cF_readExp_9_b
            rw [if_neg (show ¬ (4001 : Int32) ≤ nI (i + 1) from nI_ge (b := 4001) (by omega) (by decide)), d1]; rfl
          · omega
        · have hgp2 : GP (E0 ++ (A' ++ B')) (W ++ Vo' ++ Va') := by
            refine GP_two (GP_two (GP_app hgp) (Pq_gp g11 (by omega))) ?_
            have := Pq_gp (G := []) g12 (by omega)
            rw [List.append_nil, List.append_assoc] at this
            exact this
          obtain ⟨r, a4, y1, y2⟩ := ih (F + 1) (i + 1) (av x a3 (c1 + 1)) b2 (c1 + 1) k k' P Q P' Q' E0 A' B' W Vo' Va' lo' la' (by omega) (by omega) (by omega) ⟨RX_fr (V := wf_clF) (W := wf_cR_takeExp) pre.rx (fr_tr g3 (fr_mono (by decide +kernel) fr_av)) g6 rfl rfl v2 g7, hb1, EA_fr fr_av rfl g4, g8, g9, g10, by omega, by omega, hgp2⟩ hW hgp g11 g12
          exact ⟨r, a4, y1, OutE_pre y2 g5 g6 (by omega)⟩
      rw [hki]
      by_cases h2 : x.kd c1 = 294
      · -- and
        have hk1 : x.kd c1 ≠ 1 := by omega
        have hrk : rk (x.kd c1) = 2 := by rw [h2]; rfl
        obtain ⟨E1, V, cp1, w1, w2, w3, w4, w5, ⟨G, w6⟩, w7⟩ := z10 hk1
        have hE1 : E1.length + V.length = (E0 ++ (A ++ B) ++ F1).length := by rw [← w5, flush_len]
        have hgV : GP E1 (Va ++ V) := by
          refine GP_two ?_ (GP_3 w4 (Nat.le_refl _))
          rw [w6]
          have := Pq_gp (G := []) hB (by omega)
          rw [List.append_nil, List.append_assoc] at this
          exact GP_app this
        obtain ⟨b2, t1, t2, t3, t4, t5, t6⟩ := takeSign_op (W0 := W ++ Vo) (V := Va ++ V) hx z5 hk1 (by omega) (fun z => by omega) w1 (by rw [← List.append_assoc]; exact w2) (by rw [hrk]; exact Pq_last hA 2 (by omega) (fun t ht => by rw [hW t ht]; omega)) (by
          intro t ht
          rw [hrk]
          rcases List.mem_append.mp ht with zz | zz
          · exact ⟨(vtB t zz).1, by rw [(vtB t zz).2]; omega⟩
          · exact ⟨(w4 t zz).1, by have := (w4 t zz).2.1; omega⟩) (by simp at hE1 z8 ⊢; omega) (by simp at hE1 z9 ⊢; omega) hgV (by rw [n9s_two, n9s_0 w4, n9s_r (fun t ht => by rw [(vtB t ht).2]; omega)])
        rw [flush_app2, w5, s4', hrk, if_pos (by omega)] at t3
        rw [flush_app2, w5, s4', hrk, if_pos (by omega)] at t4
        have hre := RE_tr i2 (RE_sign (aw := aw) (by have := w2.v; exact this) (z5.g hk1) w3 t1)
        have hfb : fr wf_cR_takeExp b b2 := fr_tr i3 (fr_mono (by decide +kernel) t6)
        have hp2 := hx.p2 (c := c1) (by omega) (by omega)
        have hpn2 := hx.pn (c1 + 1)
        obtain ⟨g1, g2⟩ := addOp_ok (o := 294) (v := 0) s2' (by rw [hlB]; simp at z8 ⊢; omega) (fun _ => rfl)
        have hll : (E0 ++ (A ++ B1)).length = (E0 ++ A).length + B1.length := by simp; omega
        rw [h2] at t3 t4
        have go := cont (opW a2 (k + (E0 ++ (A ++ B1)).length) 294 0) b2 A (B1 ++ [(294, 0)]) Vo [(294, 2, (E0 ++ A).length + B1.length, cp1)] lo (nI (k + (E0 ++ (A ++ B1)).length)) (by omega) (by omega) (SA_fr fr_opW rfl hsa2) (fr_tr hf2 (fr_mono (by decide +kernel) fr_opW)) (by have := g2; rwa [List.append_assoc E0 (A ++ B1), List.append_assoc A B1] at this) hre hfb t2 (by have := t3; rwa [List.append_assoc E0 (A ++ B1), List.append_assoc A B1] at this) (by rw [← hll]; exact t4) t5 hA (Or.inr ⟨B1, cp1, by rw [hll], rfl, rfl, s3⟩) (by simp at hlB ⊢; omega)
        rw [h2, if_pos (by decide)]
        have g1 : cG_addOp 294 0 a2 = _ := g1
        rw [g1, Option.bind_some]
        exact go
      · rw [if_neg (show ¬ nI (x.kd c1) = (294 : Int32) from fun z => h2 (nI_inj (a := x.kd c1) (b := 294) (by omega) (by decide) z))]
        obtain ⟨a3, A1, q1, q2, q3, q4, q5, q6⟩ := close_ok (E0 := E0) hA (by omega) s2' s3 (by rw [hlB]; simp at z8 ⊢; omega)
        rw [q1, Option.bind_some]
        have hki3 : gI a3 107 0 = nI (x.kd c1) := by rw [q5.1 107 rfl]; exact hki
        have hsa3 : SA x a3 c1 := SA_fr q5 rfl hsa2
        have hf3 : fr wf_clF a a3 := fr_tr hf2 (fr_mono (by decide +kernel) q5)
        have hlA : (E0 ++ A1).length = (E0 ++ (A ++ B) ++ F1).length + Va.length + Vo.length := by rw [← q4, flush_len, hlB]
        rw [hki3]
        -- what both sides share behind it
        have share : x.kd c1 ≠ 1 → ∃ E1 V cp1, EC b1 k' P' Q' E1 ∧ EW b1 k' (W ++ (Vo ++ (Va ++ V))) dp cp1 ∧ gI b1 1150 0 = 0 ∧ (∀ t, t ∈ Vo ++ (Va ++ V) → VT t ∧ 1 ≤ t.2.1) ∧ flush E1 (Vo ++ (Va ++ V)) = E0 ++ A1 ∧ GP E1 (Vo ++ (Va ++ V)) ∧ n9s (Vo ++ (Va ++ V)) = 0 ∧ E1.length + V.length = (E0 ++ (A ++ B) ++ F1).length ∧ (rk (x.kd c1) < 3 ∨ (rk (x.kd c1) = 3 ∧ cp1 = true)) := by
          intro hk1
          obtain ⟨E1, V, cp1, w1, w2, w3, w4, w5, ⟨G, w6⟩, w7⟩ := z10 hk1
          refine ⟨E1, V, cp1, w1, ?_, w3, ?_, ?_, ?_, ?_, by rw [← w5, flush_len], w7⟩
          · rw [← List.append_assoc, ← List.append_assoc]; exact w2
          · intro t ht
            rcases List.mem_append.mp ht with zz | zz
            · exact ⟨(vtA t zz).1, by rw [(vtA t zz).2]; omega⟩
            · rcases List.mem_append.mp zz with zz | zz
              · exact ⟨(vtB t zz).1, by rw [(vtB t zz).2]; omega⟩
              · exact ⟨(w4 t zz).1, by have := (w4 t zz).2.1; omega⟩
          · rw [flush_app2, flush_app2, w5, s4', q4]
          · rw [w6]
            refine GP_two (GP_app (Pq_gp hA (by omega))) (GP_two ?_ (GP_3 w4 (Nat.le_refl _)))
            have := Pq_gp (G := []) hB (by omega)
            rw [List.append_nil, List.append_assoc] at this
            exact GP_app this
          · rw [n9s_two, n9s_two, n9s_0 w4, n9s_r (V := Va) (fun t ht => by rw [(vtB t ht).2]; omega), n9s_r (V := Vo) (fun t ht => by rw [(vtA t ht).2]; omega)]
        by_cases h1 : x.kd c1 = 380
        · -- or
          have hk1 : x.kd c1 ≠ 1 := by omega
          have hrk : rk (x.kd c1) = 1 := by rw [h1]; rfl
          obtain ⟨E1, V, cp1, w1, w2, w3, w4, w5, w6, w7, w8, w9⟩ := share hk1
          obtain ⟨b2, t1, t2, t3, t4, t5, t6⟩ := takeSign_op (W0 := W) (V := Vo ++ (Va ++ V)) hx z5 hk1 (by omega) (fun z => by omega) w1 w2 (by rw [hrk]; exact fun t ht => by rw [hW t ht]; omega) (fun t ht => ⟨(w4 t ht).1, by rw [hrk]; exact (w4 t ht).2⟩) (by simp at w8 z8 ⊢; omega) (by simp at w8 z9 ⊢; omega) w6 w7
          rw [w5, hrk, if_pos (by omega), h1] at t3
          rw [w5, hrk, if_pos (by omega), h1] at t4
          have hre := RE_tr i2 (RE_sign (aw := aw) (by have := w2.v; exact this) (z5.g hk1) w3 t1)
          have hfb : fr wf_cR_takeExp b b2 := fr_tr i3 (fr_mono (by decide +kernel) t6)
          have hp2 := hx.p2 (c := c1) (by omega) (by omega)
          have hpn2 := hx.pn (c1 + 1)
          obtain ⟨g1, g2⟩ := addOp_ok (o := 380) (v := 0) q2 (by rw [hlA]; simp at z8 ⊢; omega) (fun _ => rfl)
          have hll : (E0 ++ A1).length = E0.length + A1.length := by simp
          have go := cont (opW a3 (k + (E0 ++ A1).length) 380 0) b2 (A1 ++ [(380, 0)]) [] [(380, 1, E0.length + A1.length, cp1)] [] (nI (k + (E0 ++ A1).length)) (-2) (by omega) (by omega) (SA_fr fr_opW rfl hsa3) (fr_tr hf3 (fr_mono (by decide +kernel) fr_opW)) (by rw [List.append_nil, ← List.append_assoc E0]; exact g2) hre hfb t2 (by rw [List.append_nil, ← List.append_assoc E0]; exact t3) (by rw [List.append_nil, ← hll]; exact t4) t5 (Or.inr ⟨A1, cp1, by rw [hll], rfl, rfl, q3⟩) (Or.inl ⟨rfl, rfl, rfl⟩) (by simp at hlA ⊢; omega)
          rw [h1, if_pos (by decide)]
          have g1 : cG_addOp 380 0 a3 = _ := g1
          rw [g1, Option.bind_some]
          exact go
        · rw [if_neg (show ¬ nI (x.kd c1) = (380 : Int32) from fun z => h1 (nI_inj (a := x.kd c1) (b := 380) (by omega) (by decide) z))]
          refine ⟨1, a3, rfl, j, b1, i2, i3, i4, Or.inr ⟨rfl, c1, A1, z2, z3, hsa3, z5, q2, q3, ?_, ?_, fun hh => ?_⟩⟩
          · rw [hlA]; simp at z8 ⊢; omega
          · rw [hlA]; simp at z9 ⊢; omega
          · obtain ⟨E1, V, cp1, w1, w2, w3, w4, w5, w6, w7, w8, w9⟩ := share hh
            have r12 := rk_12 _ hlt1
            have hr0 : rk (x.kd c1) = 0 ∨ (rk (x.kd c1) = 3 ∧ cp1 = true) := by
              rcases w9 with z | z
              · left
                have n1 : ¬ rk (x.kd c1) = 1 := fun y => h1 (r12.1.mp y)
                have n2 : ¬ rk (x.kd c1) = 2 := fun y => h2 (r12.2.mp y)
                omega
              · exact Or.inr z
            obtain ⟨b2, t1, t2, t3, t4, t5⟩ := takeSign_no (W0 := W) (V := Vo ++ (Va ++ V)) hx z5 hh hr0 w1 w2 hW (fun t ht => (w4 t ht).1) (by simp at w8 z8 ⊢; omega) (by simp at w8 z9 ⊢; omega) w6 w7
            rw [w5] at t3
            exact ⟨b2, cp1, w3, w2.v, t1, t2, t3, t4, t5⟩
theorem readExp_pe {x : Cx} (hx : x.Ok) {L : Nat → List Int64} {T : List (Nat × Nat)} {aw : Bool} {rc : Nat → Int32 → ts → Option (Int32 × ts)} (hfr : ∀ w i s r, rc w i s = some r → fr wf_clF s r.2) {dp : Nat} (hdp : dp ≤ 31) (pt : PT x L T aw (rc 1) dp) (bd : BD x (rc 1) dp) : PE x L T aw (cF_readExp rc) dp := by
  intro a b c k k' P Q P' Q' E W pre hW
  have := hx.n
  have := hx.m
  exact readExp_lp hx hfr hdp pt bd (x.m + 1) tm_N 0 a b c k k' P Q P' Q' E [] [] W [] [] (-2) (-2) (by omega) (by unfold tm_N; omega) (by omega) (by simpa using pre) hW pre.gp (Or.inl ⟨rfl, rfl, rfl⟩) (Or.inl ⟨rfl, rfl, rfl⟩)
theorem readExp_bd {x : Cx} {rc : Nat → Int32 → ts → Option (Int32 × ts)} {dp : Nat} (bd : BD x (rc 1) dp) : BD x (cF_readExp rc) dp := by
  intro a c ha h1
  obtain ⟨a1, d1, d2⟩ := bd a c ha h1
  refine ⟨a1, ?_, d2⟩
  unfold cF_readExp
  rw [show tm_N = 999999999 + 1 from rfl, cF_readExp_9.eq_2]
  unfold cF_readExp_9_b
  rw [if_neg (by decide), d1]; rfl
