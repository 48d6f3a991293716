/-! The whole text: the loop over its items. -/
theorem bad74 {b : ts} {F : Nat} (h : ¬ gI b 1103 0 = 0) : cR_load_74 (F + 1) b = cR_load_163 tm_N 0 b := by
  rw [cR_load_74.eq_2]
  unfold cR_load_74_b
  rw [good_f h, Option.bind_some]
  dsimp only
  rw [if_pos rfl]
theorem text_lp {x : Cx} (hx : x.Ok) : ∀ (dd F F' : Nat) (a b : ts) (c i : Nat) (L : Nat → List Int64) (T : List (Nat × Nat)) (pm en vc un rm : Nat → Nat) (G : List Ln) (τ : Nat → Int32) (q K K' : Nat), x.m + 1 - c ≤ dd → dd < F → dd < F' → i ≤ c → IXA x L T pm en vc un rm G τ a c q K → IXB x L pm en un rm G τ b c q K' → IXP L pm en vc un rm G τ → ∃ a1 b1, cR_load_74 (F' + 1) b = cR_load_163 tm_N 0 b1 ∧ ((cD_readText_21 (F + 1) 1 (nI i) a = some (0, a1) ∧ FL a1 b1) ∨ (cD_readText_21 (F + 1) 1 (nI i) a = cD_readText_127 1 a1 ∧ ∃ L T pm en vc un rm G τ c1 q K K', x.kd c1 = 0 ∧ IXA x L T pm en vc un rm G τ a1 c1 q K ∧ IXB x L pm en un rm G τ b1 c1 q K' ∧ IXP L pm en vc un rm G τ)) := by
  intro dd
  induction dd with
  | zero =>
    intro F F' a b c i L T pm en vc un rm G τ q K K' h1 h2 h3 h4 hA
    exact absurd hA.1.1.l (by omega)
  | succ dd ih =>
    intro F F' a b c i L T pm en vc un rm G τ q K K' h1 h2 h3 h4 hA hB hP
    have hcl := hA.1.1.l
    have hmn := hx.m
    have hn4 := hx.n
    have hlt := hx.lt c
    have hF0 : ∃ F0, F = F0 + 1 := ⟨F - 1, by omega⟩
    obtain ⟨F0, hF0⟩ := hF0
    have hF1 : ∃ F1, F' = F1 + 1 := ⟨F' - 1, by omega⟩
    obtain ⟨F1, hF1⟩ := hF1
    have ei : nI i + (1 : Int32) = nI (i + 1) := nI_add i 1
    have stop : ∀ (s : ts) (k : Nat), cD_readText_21 F 0 (nI k) s = some (0, s) := by
      intro s k
      rw [hF0, cD_readText_21.eq_2]
      unfold cD_readText_21_b cD_readText_127
      rw [if_pos (show (0 : Int32) = 0 from rfl)]
      split
      · rfl
      · rw [if_pos (show (0 : Int32) = 0 from rfl)]
    have eT : cD_readText_21 (F + 1) 1 (nI i) a = (if x.kd c = 0 then cD_readText_127 1 a else if x.kd c = 512 then (cD_readResource a).bind (fun x3 => cD_readText_21 F x3.1 (nI (i + 1)) x3.2) else if x.kd c = 513 then (cD_readStore a).bind (fun x3 => cD_readText_21 F x3.1 (nI (i + 1)) x3.2) else if x.kd c = 514 then (cD_readNumbers a).bind (fun x3 => cD_readText_21 F x3.1 (nI (i + 1)) x3.2) else if x.kd c = 515 then (cD_readProcess a).bind (fun x3 => cD_readText_21 F x3.1 (nI (i + 1)) x3.2) else (cT_fail 2 a).bind (fun x3 => cD_readText_21 F x3.1 (nI (i + 1)) x3.2)) := by
      rw [cD_readText_21.eq_2]
      unfold cD_readText_21_b
      have e0 : (nI (x.kd c) = (0 : Int32)) = (x.kd c = 0) := kI hlt 0 (by omega)
      have e512 : (nI (x.kd c) = (512 : Int32)) = (x.kd c = 512) := kI hlt 512 (by omega)
      have e513 : (nI (x.kd c) = (513 : Int32)) = (x.kd c = 513) := kI hlt 513 (by omega)
      have e514 : (nI (x.kd c) = (514 : Int32)) = (x.kd c = 514) := kI hlt 514 (by omega)
      have e515 : (nI (x.kd c) = (515 : Int32)) = (x.kd c = 515) := kI hlt 515 (by omega)
      rw [if_neg (show ¬ (4001 : Int32) ≤ nI i from nI_ge (b := 4001) (by omega) (by decide)), if_neg (show ¬ (1 : Int32) = 0 by decide), hA.1.1.ki, ei]
      simp only [e0, e512, e513, e514, e515]
    rw [eT]
    by_cases hk1 : x.kd c = 1
    · obtain ⟨a1, y1, y2, y3⟩ := fail_tok hx hA.1.1 hB.1.1 hk1 2
      refine ⟨a1, b, bad74 (hB.1.1.nb hk1), Or.inl ⟨?_, y2⟩⟩
      rw [if_neg (by omega), if_neg (by omega), if_neg (by omega), if_neg (by omega), if_neg (by omega), y1, Option.bind_some]
      exact stop a1 (i + 1)
    have hg := hB.1.1.g hk1
    have hres : cR_reserved b = some (rvI (x.kd c), b) := reserved_ok hB.1.1.w hx.r hB.1.1.nx hk1
    have x2 : gI b 1106 0 = nI (rt (x.kd c)) := (hB.1.1.nx.2 hk1).2.1
    by_cases hk0 : x.kd c = 0
    · refine ⟨a, b, ?_, Or.inr ⟨by rw [if_pos hk0], L, T, pm, en, vc, un, rm, G, τ, c, q, K, K', hk0, hA, hB, hP⟩⟩
      rw [cR_load_74.eq_2]
      unfold cR_load_74_b
      rw [good_t hg, Option.bind_some]
      dsimp only
      rw [if_neg (show ¬ (1 : Int32) = 0 by decide), if_pos (by rw [x2, hk0]; rfl)]
    rw [if_neg hk0]
    have hk2 : 2 ≤ x.kd c := by omega
    have hrt0 : ¬ gI b 1106 0 = 0 := by
      intro z
      rw [x2] at z
      have hrl := (rt_tab _ hlt (x.kv c) hk1).2.2.2.2.2
      have := nI_inj (a := rt (x.kd c)) (b := 0) (by omega) (by decide) z
      unfold rt at this
      split at this
      · omega
      · split at this
        · omega
        · split at this
          · omega
          · split at this
            · omega
            · split at this
              · omega
              · split at this
                · omega
                · split at this
                  · omega
                  · split at this
                    · omega
                    · omega
    have e74 : cR_load_74 (F' + 1) b = (if rvI (x.kd c) < ((0 : Int32)) then cR_load_108 (cR_load_74 F') (rvI (x.kd c)) ((0 : Int32)) b else (if ((3 : Int32)) < rvI (x.kd c) then cR_load_108 (cR_load_74 F') (rvI (x.kd c)) ((0 : Int32)) b else cR_load_108 (cR_load_74 F') (rvI (x.kd c)) ((1 : Int32)) b)) := by
      rw [cR_load_74.eq_2]
      unfold cR_load_74_b
      rw [good_t hg, Option.bind_some]
      dsimp only
      rw [if_neg (show ¬ (1 : Int32) = 0 by decide), if_neg hrt0, hres, Option.bind_some]
    rw [e74]
    -- behind an item
    have item : ∀ (fa : ts → Option (Int32 × ts)) (fb : ts → Option ts), (∃ r a1 b1, fa a = some (r, a1) ∧ fb b = some b1 ∧ OutI x c r a1 b1) → ∃ a1 b1, (fb b).bind (fun s => cR_load_74 F' s) = cR_load_163 tm_N 0 b1 ∧ (((fa a).bind (fun x3 => cD_readText_21 F x3.1 (nI (i + 1)) x3.2) = some (0, a1) ∧ FL a1 b1) ∨ ((fa a).bind (fun x3 => cD_readText_21 F x3.1 (nI (i + 1)) x3.2) = cD_readText_127 1 a1 ∧ ∃ L T pm en vc un rm G τ c1 q K K', x.kd c1 = 0 ∧ IXA x L T pm en vc un rm G τ a1 c1 q K ∧ IXB x L pm en un rm G τ b1 c1 q K' ∧ IXP L pm en vc un rm G τ)) := by
      intro fa fb ⟨r, a1, b1, y1, y2, y3, y4⟩
      rw [y1, y2, Option.bind_some, Option.bind_some]
      dsimp only
      rcases y4 with ⟨z1, z2⟩ | ⟨z1, L1, T1, pm1, en1, vc1, un1, rm1, G1, τ1, c1, q1, K1, K1', z2, z3, z4, z5⟩
      · refine ⟨a1, b1, by rw [hF1]; exact bad74 z2.2.2, Or.inl ⟨?_, z2⟩⟩
        rw [z1]; exact stop a1 (i + 1)
      · rw [z1, hF1, hF0]
        exact ih F0 F1 a1 b1 c1 (i + 1) L1 T1 pm1 en1 vc1 un1 rm1 G1 τ1 q1 K1 K1' (by omega) (by omega) (by omega) (by omega) z3 z4 z5
    have e108 : ∀ k : Nat, x.kd c = 512 + k → k ≤ 3 → (if rvI (x.kd c) < ((0 : Int32)) then cR_load_108 (cR_load_74 F') (rvI (x.kd c)) ((0 : Int32)) b else (if ((3 : Int32)) < rvI (x.kd c) then cR_load_108 (cR_load_74 F') (rvI (x.kd c)) ((0 : Int32)) b else cR_load_108 (cR_load_74 F') (rvI (x.kd c)) ((1 : Int32)) b)) = cR_load_108 (cR_load_74 F') (nI k) 1 b := by
      intro k hk hk3
      have hrv : rvI (x.kd c) = nI k := by
        unfold rvI
        rw [if_pos (by omega), hk, show 512 + k - 512 = k by omega]
      rw [hrv, if_neg (nI_pos (by omega)), if_neg (show ¬ (3 : Int32) < nI k from nI_nlt (a := 3) hk3 (by decide))]
    by_cases c0 : x.kd c = 512
    · rw [if_pos c0, e108 0 (by omega) (by omega)]
      have e : cR_load_108 (cR_load_74 F') (nI 0) 1 b = (cR_takeResource b).bind (fun s => cR_load_74 F' s) := by
        unfold cR_load_108
        rw [need_t, Option.bind_some, if_pos (by decide)]
      rw [e]
      exact item _ _ (readResource_ok hx hA hB hP c0)
    rw [if_neg c0]
    by_cases c1 : x.kd c = 513
    · rw [if_pos c1, e108 1 (by omega) (by omega)]
      have e : cR_load_108 (cR_load_74 F') (nI 1) 1 b = (cR_takeStore b).bind (fun s => cR_load_74 F' s) := by
        unfold cR_load_108
        rw [need_t, Option.bind_some, if_neg (by decide), if_pos (by decide)]
      rw [e]
      exact item _ _ (readStore_ok hx hA hB hP c1)
    rw [if_neg c1]
    by_cases c2 : x.kd c = 514
    · rw [if_pos c2, e108 2 (by omega) (by omega)]
      have e : cR_load_108 (cR_load_74 F') (nI 2) 1 b = (cR_takeNumbers b).bind (fun s => cR_load_74 F' s) := by
        unfold cR_load_108
        rw [need_t, Option.bind_some, if_neg (by decide), if_neg (by decide), if_pos (by decide)]
      rw [e]
      exact item _ _ (readNumbers_ok hx hA hB hP c2)
    rw [if_neg c2]
    by_cases c3 : x.kd c = 515
    · rw [if_pos c3, e108 3 (by omega) (by omega)]
      have e : cR_load_108 (cR_load_74 F') (nI 3) 1 b = (cR_takeProcess b).bind (fun s => cR_load_74 F' s) := by
        unfold cR_load_108
        rw [need_t, Option.bind_some, if_neg (by decide), if_neg (by decide), if_neg (by decide), good_t hg, Option.bind_some]
        dsimp only
        rw [if_neg (by decide)]
      rw [e]
      exact item _ _ (readProcess_ok hx hA hB hP c3)
    rw [if_neg c3]
    obtain ⟨a1, bf, y1, y2, y3, y4, y5⟩ := fail_both hx hA.1.1 hB.1.1 hk1 2 (by decide)
    refine ⟨a1, bf, ?_, Or.inl ⟨?_, y3⟩⟩
    · have e : ∀ l : Int32, ¬ l = 0 → ¬ l = 1 → ¬ l = 2 → cR_load_108 (cR_load_74 F') l 0 b = cR_load_163 tm_N 0 bf := by
        intro l l0 l1 l2
        unfold cR_load_108
        rw [y2, Option.bind_some, if_neg l0, if_neg l1, if_neg l2, good_f y3.2.2, Option.bind_some]
        dsimp only
        rw [if_pos rfl, hF1]; exact bad74 y3.2.2
      by_cases h5 : 512 ≤ x.kd c
      · have hrv : rvI (x.kd c) = nI (x.kd c - 512) := if_pos h5
        have hne : ∀ m : Nat, m ≤ 3 → ¬ nI (x.kd c - 512) = nI m := fun m hm z => by
          have := nI_inj (by omega) (by omega) z
          omega
        rw [hrv, if_neg (nI_pos (by omega)), if_pos (show (3 : Int32) < nI (x.kd c - 512) from nI_lt (a := 3) (by omega) (by omega))]
        exact e _ (hne 0 (by omega)) (hne 1 (by omega)) (hne 2 (by omega))
      · have hrv : rvI (x.kd c) = -1 := if_neg h5
        rw [hrv, if_pos (by decide)]
        exact e _ (by decide) (by decide) (by decide)
    · rw [y1, Option.bind_some]
      exact stop a1 (i + 1)
