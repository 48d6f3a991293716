/-! SUMS, side by side. -/
theorem rk_cases (k : Nat) (_ : k < 600) : rk k < 4 ∨ (k = 42 ∨ k = 47 ∨ k = 37 ∨ k = 43 ∨ k = 45) := by
  by_cases h : 1 ≤ rk k
  · rcases rk_k2 h with h | h | h | h | h | h
    · left; omega
    · left; omega
    · left; omega
    · right; omega
    · right; omega
    · exfalso
      rcases h.2 with e | e
      · rw [e] at h; exact absurd h.1 (by decide)
      · rw [e] at h; exact absurd h.1 (by decide)
  · left; omega
def BV (r : Nat) (V : List Ent) : Prop := ∀ t, t ∈ V → VT t ∧ r ≤ t.2.1 ∧ t.2.1 < 9
theorem n9s_0 {r : Nat} {V : List Ent} (h : BV r V) : n9s V = 0 := by
  induction V with
  | nil => rfl
  | cons t s ih =>
    show n9 t + n9s s = 0
    rw [ih (fun u hu => h u (List.mem_cons_of_mem _ hu))]
    unfold n9
    have := (h t List.mem_cons_self).2.2
    rw [if_neg (by omega)]
theorem GP_3 {E : List Op1} {V : List Ent} {r : Nat} (h : BV r V) (hr : 3 ≤ r) : GP E V := fun t ht z => by have := (h t ht).2.1; omega
/-- behind a piece of an expression: what waits in the reference is settled in the program -/
def OutV (x : Cx) (aw : Bool) (b : ts) (c k k' : Nat) (P Q P' Q' : Nat → Int32) (E : List Op1) (W : List Ent) (dp : Nat) (g lo : Nat) (C : Nat → Bool → Prop) (r : Int32) (a1 : ts) : Prop :=
  ∃ j b1, RE aw j b b1 ∧ fr wf_cR_takeExp b b1 ∧ CB b1 ∧
   ((r = 0 ∧ FL a1 b1 ∧ j + c ≤ x.m + 1) ∨
    (r = 1 ∧ ∃ c1 F, c < c1 ∧ j + c ≤ c1 ∧ SA x a1 c1 ∧ SB x b1 c1 ∧ EA a1 k P Q (E ++ F) ∧ Wt g F ∧ k + (E ++ F).length + W.length ≤ x.ps c1 ∧ k' + (E ++ F).length + W.length ≤ 2 * x.ps c1 ∧ (x.kd c1 ≠ 1 → ∃ E1 V cp1, EC b1 k' P' Q' E1 ∧ EW b1 k' (W ++ V) dp cp1 ∧ gI b1 1150 0 = 0 ∧ BV lo V ∧ flush E1 V = E ++ F ∧ (∃ G, E1 = E ++ G) ∧ C (x.kd c1) cp1)))
theorem OutV_pre {x : Cx} {aw : Bool} {b b0 : ts} {c c0 k k' : Nat} {P Q P' Q' : Nat → Int32} {E : List Op1} {W : List Ent} {dp g lo j0 : Nat} {C : Nat → Bool → Prop} {r : Int32} {a1 : ts} (h : OutV x aw b c k k' P Q P' Q' E W dp g lo C r a1) (hr : RE aw j0 b0 b) (hf : fr wf_cR_takeExp b0 b) (hc : j0 + c0 ≤ c) : OutV x aw b0 c0 k k' P Q P' Q' E W dp g lo C r a1 := by
  obtain ⟨j, b1, h1, h2, h3, h4⟩ := h
  refine ⟨j0 + j, b1, RE_tr hr h1, fr_tr hf h2, h3, ?_⟩
  rcases h4 with ⟨z1, z2, z3⟩ | ⟨z1, c1, F, z2, z3, z4⟩
  · exact Or.inl ⟨z1, z2, by omega⟩
  · exact Or.inr ⟨z1, c1, F, by omega, by omega, z4⟩
def PS (x : Cx) (L : Nat → List Int64) (T : List (Nat × Nat)) (aw : Bool) (f : Int32 → ts → Option (Int32 × ts)) (dp : Nat) : Prop :=
  ∀ (a b : ts) (c k k' : Nat) (P Q P' Q' : Nat → Int32) (E : List Op1) (W : List Ent) (cp : Bool), PreE x L T aw a b c k k' P Q P' Q' E W dp cp → (∀ t, W.getLast? = some t → t.2.1 < 4) → ∃ r a1, f (nI dp) a = some (r, a1) ∧ OutV x aw b c k k' P Q P' Q' E W dp (102 - 3 * dp) 4 (fun q p => rk q < 4 ∧ p = cp) r a1
/-- a sign that waits, or none: the program's variable, the reference's entry, the left side -/
def Pd (r g : Nat) (cp : Bool) (l : Int32) (V : List Ent) (A : List Op1) : Prop := (l = -2 ∧ V = [] ∧ A = []) ∨ ∃ q p, rk q = r ∧ q < 600 ∧ l = nI q ∧ V = [(q, r, p, cp)] ∧ Wt g A
theorem Pd_bv {r g : Nat} {cp : Bool} {l : Int32} {V : List Ent} {A : List Op1} (h : Pd r g cp l V A) (hr : 3 ≤ r) : BV r V := by
  rcases h with ⟨_, rfl, _⟩ | ⟨q, p, h1, h2, _, rfl, _⟩
  · intro t ht; cases ht
  · intro t ht
    rw [List.mem_singleton.mp ht]
    have h6 := (rk_k q h2 (by omega)).2.1
    have hv := VT_rk (a := p) (p := cp) h2 (by omega)
    rw [h1] at hv
    exact ⟨hv, Nat.le_refl _, by dsimp only; omega⟩
theorem Pd_last {r g : Nat} {cp : Bool} {l : Int32} {W V : List Ent} {A : List Op1} (h : Pd r g cp l V A) (n : Nat) (hr : r < n) (hW : ∀ t, W.getLast? = some t → t.2.1 < n) : ∀ t, (W ++ V).getLast? = some t → t.2.1 < n := by
  rcases h with ⟨_, rfl, _⟩ | ⟨q, p, h1, h2, _, rfl, _⟩
  · rw [List.append_nil]; exact hW
  · intro t ht
    rw [List.getLast?_append] at ht
    have : (q, r, p, cp) = t := Option.some.inj ht
    rw [← this]; exact hr
/-- the program adds the sign that waits -/
theorem addSign_ok {a : ts} {k r g e : Nat} {P Q : Nat → Int32} {E0 A B : List Op1} {cp : Bool} {l : Int32} {V : List Ent} (hp : Pd r g cp l V A) (hr : 3 ≤ r) (hE : EA a k P Q (E0 ++ (A ++ B))) (hB : Wt e B) (he : e + 1 ≤ g) (hk : k + (E0 ++ (A ++ B)).length + V.length ≤ 4000) : ∃ a1 A1, cF_addSign l a = some a1 ∧ EA a1 k P Q (E0 ++ A1) ∧ Wt g A1 ∧ flush (E0 ++ (A ++ B)) V = E0 ++ A1 ∧ fr [217, 2026, 2027] a a1 ∧ ∃ G : List Op1, A1 = A ++ (B ++ G) ∧ G.length = V.length := by
  rcases hp with ⟨rfl, rfl, rfl⟩ | ⟨q, p, h1, h2, rfl, rfl, h3⟩
  · refine ⟨a, B, ?_, hE, hB.mono (by omega), rfl, fr_rf, [], by simp, rfl⟩
    unfold cF_addSign
    rw [if_pos rfl]
  · have hq := (rk_k q h2 (by omega)).2.2
    have hs : isSk q = false := by
      unfold isSk
      rw [beq_n (by omega), beq_n (by omega)]; rfl
    obtain ⟨g1, g2⟩ := addOp_ok (o := q) (v := 0) hE (by simp at hk ⊢; omega) (fun _ => rfl)
    refine ⟨opW a (k + (E0 ++ (A ++ B)).length) q 0, A ++ B ++ [(q, 0)], ?_, ?_, Wt.bin (by omega) h2 h3 hB he, ?_, fr_opW, [(q, 0)], by simp, rfl⟩
    · unfold cF_addSign
      rw [if_neg (show ¬ nI q = (-2 : Int32) from fun z => (n2_n (a := q) (by omega)).mp z), g1]; rfl
    · have := g2; rwa [List.append_assoc E0 (A ++ B)] at this
    · show st1 (E0 ++ (A ++ B)) (q, r, p, cp) = _
      unfold st1
      rw [if_neg (by dsimp only; omega), List.append_assoc E0 (A ++ B)]
theorem GP_ext {E G : List Op1} {W W' : List Ent} (h : GP E W) (hw : ∀ t, t ∈ W' → t ∈ W ∨ t.2.1 = 0 ∨ 3 ≤ t.2.1) : GP (E ++ G) W' := by
  intro t ht hr
  rcases hw t ht with z | z
  · exact GP_app h t z hr
  · omega
theorem readSum_lp {x : Cx} (hx : x.Ok) {L : Nat → List Int64} {T : List (Nat × Nat)} {aw : Bool} {rc : Nat → Int32 → ts → Option (Int32 × ts)} (hfr : ∀ w i s r, rc w i s = some r → fr wf_clF s r.2) {dp : Nat} (hdp : dp ≤ 31) (po : PO x L T aw (rc 3) dp) (bd : BD x (rc 3) dp) : ∀ (d F i : Nat) (a b : ts) (c k k' : Nat) (P Q P' Q' : Nat → Int32) (E0 A B : List Op1) (W Va Vs : List Ent) (cp : Bool) (la ls : Int32), x.m + 1 - c ≤ d → d < F → i ≤ c → PreE x L T aw a b c k k' P Q P' Q' (E0 ++ (A ++ B)) (W ++ Va ++ Vs) dp cp → (∀ t, W.getLast? = some t → t.2.1 < 4) → Pd 4 (102 - 3 * dp) cp la Va A → Pd 5 (101 - 3 * dp) cp ls Vs B → ∃ r a1, cF_readSum_9 rc F (nI dp) la ls (nI i) a = some (r, a1) ∧ OutV x aw b c k k' P Q P' Q' E0 W dp (102 - 3 * dp) 4 (fun q p => rk q < 4 ∧ p = cp) r a1 := by
  intro d
  induction d with
  | zero =>
    intro F i a b c k k' P Q P' Q' E0 A B W Va Vs cp la ls hm hF hi pre
    have := pre.rx.sa.l
    omega
  | succ d ih =>
    intro F i a b c k k' P Q P' Q' E0 A B W Va Vs cp la ls hm hF hi pre hW hA hB
    obtain ⟨F, rfl⟩ : ∃ G, F = G + 1 := ⟨F - 1, by omega⟩
    have hpn := hx.pn c
    have hn := hx.n
    have hxm := hx.m
    have hcl := pre.rx.sa.l
    have hlk := pre.lk
    have hlc := pre.lc
    have bvA := Pd_bv hA (by omega)
    have bvB := Pd_bv hB (by omega)
    rw [cF_readSum_9.eq_2]
    unfold cF_readSum_9_b
    rw [if_neg (show ¬ (4001 : Int32) ≤ nI i from nI_ge (b := 4001) (by omega) (by decide))]
    obtain ⟨r, a1, i1, j, b1, i2, i3, i4, i5⟩ := po a b c k k' P Q P' Q' (E0 ++ (A ++ B)) (W ++ Va ++ Vs) [] cp (by rw [List.append_nil]; exact pre) (fun t ht => by cases ht) (Pd_last hB 9 (by omega) (Pd_last hA 9 (by omega) (fun t ht => by have := hW t ht; omega))) (by simp)
    rw [i1, Option.bind_some]
    dsimp only
    rcases i5 with ⟨z1, z2, z3⟩ | ⟨z1, c1, F1, z2, z3, z4, z5, z6, z7, z8, z9, z10⟩
    · rw [z1, if_pos rfl]
      exact ⟨0, a1, rfl, j, b1, i2, i3, i4, Or.inl ⟨rfl, z2, z3⟩⟩
    · rw [z1, if_neg (by decide)]
      have hpn1 := hx.pn c1
      have hf1 := hfr _ _ _ _ i1
      rw [List.append_nil] at z8 z9
      have z6 : EA a1 k P Q ((E0 ++ A) ++ (B ++ F1)) := by simpa [List.append_assoc] using z6
      obtain ⟨a2, B1, s1, s2, s3, s4, s5, G, s6, s7⟩ := addSign_ok (E0 := E0 ++ A) (g := 101 - 3 * dp) hB (by omega) z6 z7 (by omega) (by simp at z8 ⊢; omega)
      rw [s1, Option.bind_some]
      have hki : gI a2 107 0 = nI (x.kd c1) := by rw [s5.1 107 rfl]; exact z4.ki
      have hlt1 := hx.lt c1
      have hsa2 : SA x a2 c1 := SA_fr s5 rfl z4
      have s4' : flush (E0 ++ (A ++ B) ++ F1) Vs = E0 ++ (A ++ B1) := by rw [← List.append_assoc E0 A B1, ← s4]; congr 1; simp [List.append_assoc]
      have hB1 : E0 ++ (A ++ B1) = (E0 ++ (A ++ B)) ++ (F1 ++ G) := by rw [s6]; simp [List.append_assoc]
      have s2' : EA a2 k P Q (E0 ++ (A ++ B1)) := by rw [← List.append_assoc]; exact s2
      have hf2 : fr wf_clF a a2 := fr_tr hf1 (fr_mono (by decide +kernel) s5)
      have hlen1 : (E0 ++ (A ++ B1)).length = (E0 ++ (A ++ B) ++ F1).length + Vs.length := by rw [hB1]; simp; omega
      have ne : ∀ q : Nat, q < 600 → x.kd c1 ≠ q → ¬ nI (x.kd c1) = nI q := fun q hq hne z => hne (nI_inj (by omega) (by omega) z)
      rw [hki]
      -- how it goes on behind a sign
      have cont : ∀ (a3 b2 : ts) (A' B' : List Op1) (Va' Vs' : List Ent) (la' ls' : Int32), 2 ≤ x.kd c1 → SA x a3 c1 → fr wf_clF a a3 → EA a3 k P Q (E0 ++ (A' ++ B')) → RE aw (j + 1) b b2 → fr wf_cR_takeExp b b2 → SB x b2 (c1 + 1) → EC b2 k' P' Q' (E0 ++ (A' ++ B')) → EW b2 k' (W ++ Va' ++ Vs') dp cp → gI b2 1150 0 = 1 → Pd 4 (102 - 3 * dp) cp la' Va' A' → Pd 5 (101 - 3 * dp) cp ls' Vs' B' → (∃ G, E0 ++ (A' ++ B') = (E0 ++ (A ++ B)) ++ G) → (∀ t, t ∈ W ++ Va' ++ Vs' → t ∈ W ++ Va ++ Vs ∨ t.2.1 = 0 ∨ 3 ≤ t.2.1) → (E0 ++ (A' ++ B')).length + (W ++ Va' ++ Vs').length ≤ (E0 ++ (A ++ B) ++ F1).length + (W ++ Va ++ Vs).length + 1 → ∃ r a1, cF_readSum_95 rc (cF_readSum_9 rc F) (nI dp) la' ls' (nI i) a3 = some (r, a1) ∧ OutV x aw b c k k' P Q P' Q' E0 W dp (102 - 3 * dp) 4 (fun q p => rk q < 4 ∧ p = cp) r a1 := by
        intro a3 b2 A' B' Va' Vs' la' ls' g1 g2 g3 g4 g5 g6 g7 g8 g9 g10 g11 g12 g13 g14 g15
        obtain ⟨v1, v2⟩ := adv_ok hx g2 (hx.lm g2.l g1)
        have hp1 := hx.p1 g1
        have hvl := v2.l
        have hpn2 := hx.pn (c1 + 1)
        obtain ⟨F, rfl⟩ : ∃ G, F = G + 1 := ⟨F - 1, by omega⟩
        unfold cF_readSum_95
        rw [v1, Option.bind_some, show nI i + (1 : Int32) = nI (i + 1) from nI_add _ 1]
        by_cases hb1 : x.kd (c1 + 1) = 1
        · obtain ⟨a4, d1, d2⟩ := bd _ _ v2 hb1
          refine ⟨0, a4, ?_, j + 1, b2, g5, g6, ⟨_, ?_, g8.n, g9.f⟩, Or.inl ⟨rfl, d2 _ g7, by omega⟩⟩
          · rw [cF_readSum_9.eq_2]
            unfold cF_readSum_9_b
            rw [if_neg (show ¬ (4001 : Int32) ≤ nI (i + 1) from nI_ge (b := 4001) (by omega) (by decide)), d1]; rfl
          · omega
        · obtain ⟨r, a4, y1, y2⟩ := ih (F + 1) (i + 1) (av x a3 (c1 + 1)) b2 (c1 + 1) k k' P Q P' Q' E0 A' B' W Va' Vs' cp la' ls' (by omega) (by omega) (by omega) ⟨RX_fr (V := wf_clF) (W := wf_cR_takeExp) pre.rx (fr_tr g3 (fr_mono (by decide +kernel) fr_av)) g6 rfl rfl v2 g7, hb1, EA_fr fr_av rfl g4, g8, g9, g10, by omega, by omega, by
              obtain ⟨G, hG⟩ := g13
              rw [hG]
              exact GP_ext pre.gp g14⟩ hW g11 g12
          exact ⟨r, a4, y1, OutV_pre y2 g5 g6 (by omega)⟩
      by_cases h5 : x.kd c1 = 42 ∨ x.kd c1 = 47 ∨ x.kd c1 = 37
      · -- a product goes on
        have hk1 : x.kd c1 ≠ 1 := by omega
        have hrk : rk (x.kd c1) = 5 := by rcases h5 with e | e | e <;> rw [e] <;> rfl
        obtain ⟨w1, w2, w3⟩ := z10 hk1
        have w1 : EC b1 k' P' Q' (E0 ++ (A ++ B) ++ F1) := w1
        have w2 : EW b1 k' (W ++ Va ++ Vs) dp cp := w2
        obtain ⟨b2, t1, t2, t3, t4, t5, t6⟩ := takeSign_op (W0 := W ++ Va) (V := Vs) hx z5 hk1 (by omega) (fun z => by omega) w1 w2 (by rw [hrk]; exact Pd_last hA 5 (by omega) (fun t ht => by have := hW t ht; omega)) (fun t ht => ⟨(bvB t ht).1, by rw [hrk]; exact (bvB t ht).2.1⟩) (by omega) (by simp at z9 ⊢; omega) (GP_3 bvB (by omega)) (n9s_0 bvB)
        rw [hrk, if_neg (by omega), List.append_nil, s4'] at t3
        rw [hrk, if_neg (by omega), s4', show (cp || Nat.beq 5 3) = cp by cases cp <;> rfl] at t4
        have hre := RE_tr i2 (RE_sign (by have := w2.v; exact this) (z5.g hk1) w3 t1)
        have hfb : fr wf_cR_takeExp b b2 := fr_tr i3 (fr_mono (by decide +kernel) t6)
        have go := cont a2 b2 A B1 Va [(x.kd c1, 5, (E0 ++ (A ++ B1)).length, cp)] la (nI (x.kd c1)) (by omega) hsa2 hf2 s2' hre hfb t2 t3 t4 t5 hA (Or.inr ⟨x.kd c1, _, hrk, hlt1, rfl, rfl, s3⟩) ⟨_, hB1⟩ (by
          intro t ht
          rcases List.mem_append.mp ht with zz | zz
          · exact Or.inl (List.mem_append_left _ zz)
          · rw [List.mem_singleton.mp zz]; right; right; show 3 ≤ 5; omega) (by rw [hlen1]; simp; omega)
        rcases h5 with e | e | e
        · rw [e] at go ⊢; rw [if_pos (by decide)]; exact go
        · rw [e] at go ⊢; rw [if_neg (by decide), if_pos (by decide)]; exact go
        · rw [e] at go ⊢; rw [if_neg (by decide), if_neg (by decide), if_pos (by decide)]; exact go
      · rw [if_neg (show ¬ nI (x.kd c1) = (42 : Int32) from ne 42 (by omega) (by omega)), if_neg (show ¬ nI (x.kd c1) = (47 : Int32) from ne 47 (by omega) (by omega)), if_neg (show ¬ nI (x.kd c1) = (37 : Int32) from ne 37 (by omega) (by omega))]
        obtain ⟨a3, A1, q1, q2, q3, q4, q5, G2, q6, q7⟩ := addSign_ok (E0 := E0) (g := 102 - 3 * dp) hA (by omega) s2' s3 (by omega) (by rw [hlen1]; simp at z8 ⊢; omega)
        rw [q1, Option.bind_some]
        have hsa3 : SA x a3 c1 := SA_fr q5 rfl hsa2
        have hf3 : fr wf_clF a a3 := fr_tr hf2 (fr_mono (by decide +kernel) q5)
        have hA1 : E0 ++ A1 = (E0 ++ (A ++ B)) ++ (F1 ++ G ++ G2) := by rw [q6, s6]; simp [List.append_assoc]
        have hlen2 : (E0 ++ A1).length = (E0 ++ (A ++ B) ++ F1).length + Vs.length + Va.length := by rw [hA1]; simp; omega
        have bvV : BV 4 (Va ++ Vs) := by
          intro t ht
          rcases List.mem_append.mp ht with zz | zz
          · exact bvA t zz
          · have := bvB t zz; exact ⟨this.1, by omega, this.2.2⟩
        have hfl : flush (E0 ++ (A ++ B) ++ F1) (Va ++ Vs) = E0 ++ A1 := by
          rw [show flush (E0 ++ (A ++ B) ++ F1) (Va ++ Vs) = flush (flush (E0 ++ (A ++ B) ++ F1) Vs) Va from List.foldr_append .., s4', q4]
        by_cases h4 : x.kd c1 = 43 ∨ x.kd c1 = 45
        · -- a sum goes on
          have hk1 : x.kd c1 ≠ 1 := by omega
          have hrk : rk (x.kd c1) = 4 := by rcases h4 with e | e <;> rw [e] <;> rfl
          obtain ⟨w1, w2, w3⟩ := z10 hk1
          have w1 : EC b1 k' P' Q' (E0 ++ (A ++ B) ++ F1) := w1
          have w2 : EW b1 k' (W ++ Va ++ Vs) dp cp := w2
          obtain ⟨b2, t1, t2, t3, t4, t5, t6⟩ := takeSign_op (W0 := W) (V := Va ++ Vs) hx z5 hk1 (by omega) (fun z => by omega) w1 (by rw [← List.append_assoc]; exact w2) (by rw [hrk]; exact hW) (fun t ht => ⟨(bvV t ht).1, by rw [hrk]; exact (bvV t ht).2.1⟩) (by rw [← List.append_assoc]; omega) (by simp at z9 ⊢; omega) (GP_3 (r := 4) bvV (by omega)) (n9s_0 bvV)
          rw [hrk, if_neg (by omega), List.append_nil, hfl] at t3
          rw [hrk, if_neg (by omega), hfl, show (cp || Nat.beq 4 3) = cp by cases cp <;> rfl] at t4
          have hre := RE_tr i2 (RE_sign (by have := w2.v; exact this) (z5.g hk1) w3 t1)
          have hfb : fr wf_cR_takeExp b b2 := fr_tr i3 (fr_mono (by decide +kernel) t6)
          have go := cont a3 b2 A1 [] [(x.kd c1, 4, (E0 ++ A1).length, cp)] [] (nI (x.kd c1)) (-2) (by omega) hsa3 hf3 (by rw [List.append_nil]; exact q2) hre hfb t2 (by rw [List.append_nil]; exact t3) (by rw [List.append_nil]; exact t4) t5 (Or.inr ⟨x.kd c1, _, hrk, hlt1, rfl, rfl, q3⟩) (Or.inl ⟨rfl, rfl, rfl⟩) ⟨_, by rw [List.append_nil]; exact hA1⟩ (by
            intro t ht
            rw [List.append_nil] at ht
            rcases List.mem_append.mp ht with zz | zz
            · exact Or.inl (List.mem_append_left _ (List.mem_append_left _ zz))
            · rw [List.mem_singleton.mp zz]; right; right; show 3 ≤ 4; omega) (by rw [List.append_nil, hlen2]; simp; omega)
          rcases h4 with e | e
          · rw [e] at go ⊢; rw [if_pos (by decide)]; exact go
          · rw [e] at go ⊢; rw [if_neg (by decide), if_pos (by decide)]; exact go
        · -- the sum ends
          rw [if_neg (show ¬ nI (x.kd c1) = (43 : Int32) from ne 43 (by omega) (by omega)), if_neg (show ¬ nI (x.kd c1) = (45 : Int32) from ne 45 (by omega) (by omega))]
          refine ⟨1, a3, rfl, j, b1, i2, i3, i4, Or.inr ⟨rfl, c1, A1, z2, z3, hsa3, z5, q2, q3, ?_, ?_, fun hh => ?_⟩⟩
          · rw [hlen2]; simp at z8 ⊢; omega
          · rw [hlen2]; simp at z9 ⊢; omega
          · obtain ⟨w1, w2, w3⟩ := z10 hh
            refine ⟨E0 ++ (A ++ B) ++ F1, Va ++ Vs, cp, w1, by rw [← List.append_assoc]; exact w2, w3, bvV, hfl, ⟨A ++ B ++ F1, by simp [List.append_assoc]⟩, ?_, rfl⟩
            rcases rk_cases (x.kd c1) hlt1 with z | z
            · exact z
            · omega
theorem readSum_ps {x : Cx} (hx : x.Ok) {L : Nat → List Int64} {T : List (Nat × Nat)} {aw : Bool} {rc : Nat → Int32 → ts → Option (Int32 × ts)} (hfr : ∀ w i s r, rc w i s = some r → fr wf_clF s r.2) {dp : Nat} (hdp : dp ≤ 31) (po : PO x L T aw (rc 3) dp) (bd : BD x (rc 3) dp) : PS x L T aw (cF_readSum rc) dp := by
  intro a b c k k' P Q P' Q' E W cp pre hW
  have := hx.n
  have := hx.m
  exact readSum_lp hx hfr hdp po bd (x.m + 1) tm_N 0 a b c k k' P Q P' Q' E [] [] W [] [] cp (-2) (-2) (by omega) (by unfold tm_N; omega) (by omega) (by simpa using pre) hW (Or.inl ⟨rfl, rfl, rfl⟩) (Or.inl ⟨rfl, rfl, rfl⟩)
theorem readSum_bd {x : Cx} {rc : Nat → Int32 → ts → Option (Int32 × ts)} {dp : Nat} (bd : BD x (rc 3) dp) : BD x (cF_readSum rc) dp := by
  intro a c ha h1
  obtain ⟨a1, d1, d2⟩ := bd a c ha h1
  refine ⟨a1, ?_, d2⟩
  unfold cF_readSum
  rw [show tm_N = 999999999 + 1 from rfl, cF_readSum_9.eq_2]
  unfold cF_readSum_9_b
  rw [if_neg (by decide), d1]; rfl
