/-! RESERVED WORDS: the reference finds the same one that the program's kind tells. -/
def WD (s : ts) : Prop := gO s 3 = .inl (.char, tb_wrd.length, .inl (fun j => tb_wrd.getD j 0))
theorem WD_ok {s : ts} (h : WD s) : gWok s = true := by unfold gWok; rw [h]
theorem WD_n {s : ts} (h : WD s) : gWn s = tb_wrd.length := by unfold gWn; rw [h]
theorem WD_c {s : ts} (h : WD s) (k : Nat) : gW s k = tb_wrd.getD k 0 := by unfold gW; rw [h]
def rwL : List Nat := [8, 5, 6, 7, 3, 2, 4, 5, 4, 5, 4, 3, 3, 5, 5, 4, 4, 3, 3, 3, 2, 4, 5, 5]
def rwP : Nat → Nat
  | 0 => 0
  | k + 1 => rwP k + rwL.getD k 0 + 1
/-- the letters from p on, behind l -/
def rwF (p : Nat) : Nat → Int64 → Int64
  | 0, l => l
  | m + 1, l => rwF (p + 1) m ((l <<< ((nI 8).toInt64 &&& 63)) ||| (tb_wrd.getD p 0).toInt64)
theorem rw_tab : (List.range 24).all (fun k => decide (tb_wrd.getD (rwP k + rwL.getD k 0) 0 = 32) && (decide (rwF (rwP k) (rwL.getD k 0) 0 = in_rw.getD k 0) && (List.range (rwL.getD k 0)).all (fun i => decide (¬ tb_wrd.getD (rwP k + i) 0 = 32)))) = true := by decide +kernel
theorem rw_len : tb_wrd.length = rwP 24 := by decide +kernel
theorem rw_le : ∀ k, k < 24 → rwP k + rwL.getD k 0 < rwP 24 ∧ rwL.getD k 0 ≤ 8 := by decide +kernel
theorem rw_seg {s : ts} (h : WD s) {k : Nat} : ∀ (m p F : Nat) (l : Int64), p + m < tb_wrd.length → (∀ i, i < m → ¬ tb_wrd.getD (p + i) 0 = 32) → cR_reserved_17 (F + m) l (nI k) (nI p) s = cR_reserved_17 F (rwF p m l) (nI k) (nI (p + m)) s := by
  intro m
  induction m with
  | zero => intro p F l _ _; rfl
  | succ m ih =>
    intro p F l hp hne
    have hl : tb_wrd.length = rwP 24 := rw_len
    have hl2 : rwP 24 < 1000 := by decide +kernel
    rw [show F + (m + 1) = F + m + 1 by omega, cR_reserved_17.eq_2]
    unfold cR_reserved_17_b
    rw [if_pos (WD_ok h), WD_n h, if_neg (show ¬ Int32.ofNat tb_wrd.length ≤ nI p from nI_ge (by omega) (by omega)), if_pos (nI_idx (by omega) (by omega)), nI_clamp (by omega), WD_c h, if_neg (show ¬ tb_wrd.getD p 0 = 32 from hne 0 (by omega))]
    rw [show nI p + (1 : Int32) = nI (p + 1) from nI_add p 1]
    have := ih (p + 1) F ((l <<< ((nI 8).toInt64 &&& 63)) ||| (tb_wrd.getD p 0).toInt64) (by omega) (fun i hi => by rw [show p + 1 + i = p + (i + 1) by omega]; exact hne (i + 1) (by omega))
    rw [show p + 1 + m = p + (m + 1) by omega] at this
    exact this
theorem rw_all {s : ts} (h : WD s) {R : Nat → Int64} (hR : ∀ k, k < 24 → R k = in_rw.getD k 0) : ∀ (f k F : Nat), k + f = 24 → 9 * f < F → cR_reserved_17 F 0 (nI k) (nI (rwP k)) s = some (if wk R (gJ s 1108 0) f k = 2 then -1 else nI (wk R (gJ s 1108 0) f k - 512), s) := by
  intro f
  induction f with
  | zero =>
    intro k F hk hF
    obtain ⟨F, rfl⟩ : ∃ G, F = G + 1 := ⟨F - 1, by omega⟩
    have hk : k = 24 := by omega
    subst hk
    rw [cR_reserved_17.eq_2]
    unfold cR_reserved_17_b
    rw [if_pos (WD_ok h), WD_n h, if_pos (show Int32.ofNat tb_wrd.length ≤ nI (rwP 24) by rw [rw_len]; exact Int32.le_refl _)]
    rfl
  | succ f ih =>
    intro k F hk hF
    have ht := List.all_eq_true.mp rw_tab k (List.mem_range.mpr (by omega))
    rw [Bool.and_eq_true, Bool.and_eq_true] at ht
    obtain ⟨t1, t2, t3⟩ := ht
    have t1 := of_decide_eq_true t1
    have t2 := of_decide_eq_true t2
    have t3 : ∀ i, i < rwL.getD k 0 → ¬ tb_wrd.getD (rwP k + i) 0 = 32 := fun i hi => of_decide_eq_true (List.all_eq_true.mp t3 i (List.mem_range.mpr hi))
    obtain ⟨l1, l2⟩ := rw_le k (by omega)
    have hl2 : rwP 24 < 1000 := by decide +kernel
    have hl : tb_wrd.length = rwP 24 := rw_len
    obtain ⟨G, rfl⟩ : ∃ G, F = G + 1 + rwL.getD k 0 := ⟨F - 1 - rwL.getD k 0, by omega⟩
    rw [rw_seg h _ _ _ _ (by omega) t3, t2, cR_reserved_17.eq_2]
    unfold cR_reserved_17_b
    rw [if_pos (WD_ok h), WD_n h, if_neg (show ¬ Int32.ofNat tb_wrd.length ≤ nI (rwP k + rwL.getD k 0) from nI_ge (by omega) (by omega)), if_pos (nI_idx (by omega) (by omega)), nI_clamp (by omega), WD_c h, if_pos t1]
    simp only [show (lg_cmp (in_rw.getD k 0) (gJ s 1108 0) = (0 : Int32)) = (in_rw.getD k 0 = gJ s 1108 0) from cmp_eq]
    have hw : wk R (gJ s 1108 0) (f + 1) k = if R k = gJ s 1108 0 then 512 + k else wk R (gJ s 1108 0) f (k + 1) := rfl
    rw [hw, hR k (by omega)]
    by_cases e : in_rw.getD k 0 = gJ s 1108 0
    · rw [if_pos e, if_pos e, if_neg (by omega), show 512 + k - 512 = k by omega]
    · rw [if_neg e, if_neg e]
      have := ih (k + 1) G (by omega) (by omega)
      rw [show nI k + (1 : Int32) = nI (k + 1) from nI_add k 1, show nI (rwP k + rwL.getD k 0) + (1 : Int32) = nI (rwP (k + 1)) from nI_add _ 1]
      exact this
theorem isP_lt {c d : Nat} (hp : isP c d = true) : c < 128 := by
  unfold isP at hp
  by_cases h1 : c = 38 ∨ c = 124
  · omega
  · rw [if_neg h1] at hp
    by_cases h2 : c = 61 ∨ c = 33 ∨ c = 60 ∨ c = 62
    · omega
    · rw [if_neg h2] at hp; cases hp
theorem isS_lt {c : Nat} (hp : isS c = true) : c < 128 := by
  unfold isS at hp
  split at hp
  · omega
  · cases hp
theorem tok1_w {b : Nat → Nat} {n j : Nat} {R : Nat → Int64} : (tok1 b n R j).1 = 2 ∨ 512 ≤ (tok1 b n R j).1 → (tok1 b n R j).1 = wk R (tok1 b n R j).2.2.1 24 0 := by
  unfold tok1
  by_cases h0 : n ≤ j
  · rw [if_pos h0]; intro z; dsimp only at z; omega
  · rw [if_neg h0]
    by_cases h1 : isL (b j) = true
    · rw [if_pos h1]
      by_cases h2 : 8 < rn isW b (n - j) j - j
      · rw [if_pos h2]; intro z; dsimp only at z; omega
      · rw [if_neg h2]; intro _; rfl
    · rw [if_neg h1]
      by_cases h2 : isD (b j) = true
      · rw [if_pos h2]
        by_cases h3 : 9 < rn isD b (n - j) j - j
        · rw [if_pos h3]; intro z; dsimp only at z; omega
        · rw [if_neg h3]; intro z; dsimp only at z; omega
      · rw [if_neg h2]
        by_cases h3 : isP (b j) (if j + 1 < n then b (j + 1) else 256) = true
        · rw [if_pos h3]; intro z; dsimp only at z; have := isP_lt h3; omega
        · rw [if_neg h3]
          by_cases h4 : isS (b j) = true
          · rw [if_pos h4]; intro z; dsimp only at z; have := isS_ge h4; have := isS_lt h4; omega
          · rw [if_neg h4]; intro z; dsimp only at z; omega
theorem tok_w {b : Nat → Nat} {n i : Nat} {an : Bool} {R : Nat → Int64} : (tok b n R an i).1 = 2 ∨ 512 ≤ (tok b n R an i).1 → (tok b n R an i).1 = wk R (tok b n R an i).2.2.1 24 0 := by
  unfold tok
  by_cases h : an = true ∧ i < n ∧ isL (b i) = true
  · rw [if_pos h]; intro z; dsimp only at z; omega
  · rw [if_neg h]; exact tok1_w
/-- reserved(): the program's kind less 512, or none -/
def rvI (k : Nat) : Int32 := if 512 ≤ k then nI (k - 512) else -1
theorem reserved_ok {s : ts} {b : Nat → Nat} {n i : Nat} {an : Bool} {R : Nat → Int64} (h : WD s) (hR : ∀ k, k < 24 → R k = in_rw.getD k 0) (hx : NX s (tok b n R an i)) (h1 : (tok b n R an i).1 ≠ 1) : cR_reserved s = some (rvI (tok b n R an i).1, s) := by
  obtain ⟨x1, x2, x3, x4, x5, x6⟩ := hx.2 h1
  unfold cR_reserved
  have key := tok_w (b := b) (n := n) (R := R) (an := an) (i := i)
  by_cases hw : (tok b n R an i).1 = 2 ∨ 512 ≤ (tok b n R an i).1
  · have e1 : gI s 1106 0 = 1 := by rw [x2, rt_w hw]; rfl
    have := rw_all h hR 24 0 tm_N (by omega) (by unfold tm_N; omega)
    rw [x5 hw, ← key hw] at this
    rw [if_pos e1]
    unfold rvI
    rcases hw with e | e
    · rw [if_pos e] at this; rw [if_neg (by omega)]; exact this
    · rw [if_neg (by omega)] at this; rw [if_pos e]; exact this
  · have e1 : ¬ gI s 1106 0 = 1 := by
      rw [x2]
      intro z
      have hrt : ∀ k, rt k < 2 ^ 31 ∧ rt k = 1 → (k = 2 ∨ 512 ≤ k) ∨ k = 1 := by
        intro k hk
        unfold rt at hk
        split at hk
        · omega
        · repeat (split at hk; omega)
          omega
      have hlt : rt (tok b n R an i).1 < 2 ^ 31 := by
        unfold rt
        repeat (split; omega)
        omega
      have := hrt _ ⟨hlt, nI_inj hlt (by decide) z⟩
      omega
    rw [if_neg e1]
    unfold rvI
    rw [if_neg (by omega)]
