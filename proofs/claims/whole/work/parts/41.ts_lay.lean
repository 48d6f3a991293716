/-- which object lies at a place: its class, its number there -/
def ts_at (r : Nat) : Option (Nat × Nat) := if r < 143 then (match ts_d r with
    | .inl q => some q
    | .inr _ => none)
  else if (r - 143) % 3 = 0 then some (5, (r - 143) / 3) else none
def ts_ob (s : ts) (r ci i : Nat) : Prop := 5 ≤ r ∧ r < 143 + 3 * gM s ∧ ts_at r = some (ci, i)
def ts_injB : Bool := (List.range 143).all fun r => (List.range 143).all fun q => !(Nat.ble 5 r && (Nat.ble 5 q && ((ts_at r).isSome && decide (ts_at r = ts_at q)))) || Nat.beq r q
theorem ts_injB_ok : ts_injB = true := by decide +kernel
theorem ts_at_inj1 (r : Nat) (hr : r < 143) (q : Nat) (hq : q < 143) (hr5 : 5 ≤ r) (hq5 : 5 ≤ q) (he : ts_at r = ts_at q) (hs : (ts_at r).isSome = true) : r = q := by
  have h := List.all_eq_true.mp (List.all_eq_true.mp ts_injB_ok r (List.mem_range.mpr hr)) q (List.mem_range.mpr hq)
  rw [hs, Nat.ble_eq_true_of_le hr5, Nat.ble_eq_true_of_le hq5, decide_eq_true he] at h
  exact Nat.eq_of_beq_eq_true (by simpa using h)
theorem ts_at_st : ∀ r, r < 143 → ∀ p, ts_at r = some p → p.1 ≠ 5 := by
  have h : ∀ r, r < 143 → (match ts_at r with | some p => p.1 != 5 | none => true) = true := by decide +kernel
  intro r hr p hp
  have := h r hr
  rw [hp] at this
  simpa using this
theorem ts_at_inj {r q : Nat} {p : Nat × Nat} (hr5 : 5 ≤ r) (hq5 : 5 ≤ q) (h1 : ts_at r = some p) (h2 : ts_at q = some p) : r = q := by
  by_cases hr : r < 143
  · by_cases hq : q < 143
    · exact ts_at_inj1 r hr q hq hr5 hq5 (h1.trans h2.symm) (by rw [h1]; rfl)
    · have a := ts_at_st r hr p h1
      unfold ts_at at h2
      rw [if_neg hq] at h2
      split at h2
      · cases h2; exact absurd rfl a
      · cases h2
  · by_cases hq : q < 143
    · have a := ts_at_st q hq p h2
      unfold ts_at at h1
      rw [if_neg hr] at h1
      split at h1
      · cases h1; exact absurd rfl a
      · cases h1
    · unfold ts_at at h1 h2
      rw [if_neg hr] at h1
      rw [if_neg hq] at h2
      split at h1
      · split at h2
        · rename_i e1 e2
          have e := Option.some.inj (h1.trans h2.symm)
          have e3 : (r - 143) / 3 = (q - 143) / 3 := congrArg (fun z => z.2) e
          omega
        · cases h2
      · cases h1
theorem ts_cell {s : ts} {r ci i : Nat} (h5 : 5 ≤ r) (h : ts_at r = some (ci, i)) : (lay s).2.2 r = .inr (ci, ts_fs s ci i) := by
  show (if r < 5 then gO s r else if r < 143 then ts_c s r (ts_d r) else ts_p s r) = _
  rw [if_neg (by omega)]
  unfold ts_at at h
  split at h
  · rename_i hr
    rw [if_pos hr]
    split at h
    · rename_i q hq
      cases h
      rw [hq]; rfl
    · cases h
  · rename_i hr
    rw [if_neg hr]
    split at h
    · rename_i hz
      cases h
      unfold ts_p
      rw [if_pos hz]
    · cases h
theorem ts_ob_at {s : ts} {r ci i : Nat} (h : ts_ob s r ci i) : am_at (lay s) r = some (.inr (ci, ts_fs s ci i)) := by
  unfold am_at
  rw [if_pos ⟨h.1, h.2.1⟩, ts_cell h.1 h.2.2]
theorem ts_obQ {s : ts} {q : Nat} (hq : q < 14) : ts_ob s (pQ q) 7 q := by
  have h : ∀ q, q < 14 → ts_at (pQ q) = some (7, q) := by decide +kernel
  refine ⟨?_, ?_, h q hq⟩
  · unfold pQ; omega
  · unfold pQ; omega
theorem ts_obL {s : ts} {l : Nat} (hl : l < 30) : ts_ob s (pL l) 6 l := by
  have h : ∀ q, q < 30 → ts_at (pL q) = some (6, q) := by decide +kernel
  have h2 : ∀ q, q < 30 → 5 ≤ pL q ∧ pL q < 143 := by decide +kernel
  exact ⟨(h2 l hl).1, by have := (h2 l hl).2; omega, h l hl⟩
theorem ts_obB {s : ts} {p : Nat} (hp : p < gM s) : ts_ob s (pB p) 5 p := by
  refine ⟨?_, ?_, ?_⟩
  · unfold pB; omega
  · unfold pB; omega
  · unfold ts_at pB
    rw [if_neg (by omega), if_pos (by omega)]
    congr 2
    omega
theorem ts_n_lt (ci : Nat) : ts_n ci ≤ 92 := by
  have h : ∀ c, c < 12 → ts_n c ≤ 92 := by decide +kernel
  by_cases hc : ci < 12
  · exact h ci hc
  · unfold ts_n
    rw [List.getD_eq_getElem?_getD, List.getElem?_eq_none (by show (12 : Nat) ≤ ci; omega)]
    decide
/-- fields change only where they are written -/
theorem ts_f_I {s : ts} {ci i j c' i' j' : Nat} {x : Int32} (hj : j < 100) (hj' : j' < 100) (hne : ¬ (c' = ci ∧ i' = i ∧ j' = j)) : ts_f (wI s (100 * ci + j) i x) c' i' j' = ts_f s c' i' j' := by
  have e : gI (wI s (100 * ci + j) i x) (100 * c' + j') i' = gI s (100 * c' + j') i' := by
    show (if _ then _ else _) = _
    rw [if_neg (by omega)]; rfl
  unfold ts_f
  rw [e]
  rfl
theorem ts_f_J {s : ts} {ci i j c' i' j' : Nat} {x : Int64} (hj : j < 100) (hj' : j' < 100) (hne : ¬ (c' = ci ∧ i' = i ∧ j' = j)) : ts_f (wJ s (100 * ci + j) i x) c' i' j' = ts_f s c' i' j' := by
  have e : gJ (wJ s (100 * ci + j) i x) (100 * c' + j') i' = gJ s (100 * c' + j') i' := by
    show (if _ then _ else _) = _
    rw [if_neg (by omega)]; rfl
  unfold ts_f
  rw [e]
  rfl
theorem ts_f_R {s : ts} {ci i j c' i' j' : Nat} {x : Option Nat} (hj : j < 100) (hj' : j' < 100) (hne : ¬ (c' = ci ∧ i' = i ∧ j' = j)) : ts_f (wR s (100 * ci + j) i x) c' i' j' = ts_f s c' i' j' := by
  have e : gR (wR s (100 * ci + j) i x) (100 * c' + j') i' = gR s (100 * c' + j') i' := by
    show (if _ then _ else _) = _
    rw [if_neg (by omega)]; rfl
  unfold ts_f
  rw [e]
  rfl
theorem ts_fs_set {s s' : ts} {ci i j : Nat} {v : Value} (hv : ts_f s' ci i j = v) (ho : ∀ j', j' < ts_n ci → j' ≠ j → ts_f s' ci i j' = ts_f s ci i j') : (ts_fs s ci i).set j v = ts_fs s' ci i := by
  apply List.ext_getElem?
  intro k
  unfold ts_fs
  rw [List.getElem?_set]
  simp only [List.length_map, List.length_range, List.getElem?_map]
  by_cases e : j = k
  · subst e
    rw [if_pos rfl]
    by_cases hl : j < ts_n ci
    · rw [if_pos hl, List.getElem?_range hl, Option.map_some, hv]
    · rw [if_neg hl, List.getElem?_eq_none (by simp; omega)]; rfl
  · rw [if_neg e]
    by_cases hl : k < ts_n ci
    · rw [List.getElem?_range hl, Option.map_some, Option.map_some, ho k hl (fun z => e z.symm)]
    · rw [List.getElem?_eq_none (by simp; omega)]; rfl
/-- a write to a field: the layout of the state written -/
theorem lay_w {s s' : ts} {r ci i j : Nat} {v : Value} (h : ts_ob s r ci i) (hM : gM s' = gM s) (hO : ∀ r, gO s' r = gO s r) (hA : gA s' = gA s) (hB : gB s' = gB s) (hV : gV s' = gV s) (hU : gU s' = gU s) (hv : ts_f s' ci i j = v) (ho : ∀ c' i' j', j' < 100 → ¬ (c' = ci ∧ i' = i ∧ j' = j) → ts_f s' c' i' j' = ts_f s c' i' j') : am_up (lay s) r (.inr (ci, (ts_fs s ci i).set j v)) = lay s' := by
  have hfs : ∀ c' i', ¬ (c' = ci ∧ i' = i) → ts_fs s' c' i' = ts_fs s c' i' := by
    intro c' i' hne
    unfold ts_fs
    apply List.map_congr_left
    intro j' hj'
    have := List.mem_range.mp hj'
    have := ts_n_lt c'
    exact ho c' i' j' (by omega) (fun z => hne ⟨z.1, z.2.1⟩)
  have hset : (ts_fs s ci i).set j v = ts_fs s' ci i := ts_fs_set hv (fun j' hj' hne => ho ci i j' (by have := ts_n_lt ci; omega) (fun z => hne z.2.2))
  unfold am_up lay
  rw [hM]
  refine congrArg (fun z => ((143 + 3 * gM s, 113995 + 29 * gM s, z) : am_H)) ?_
  funext k
  dsimp only
  by_cases hk : k = r
  · subst hk
    rw [if_pos rfl, hset]
    have := ts_cell (s := s') h.1 h.2.2
    exact this.symm
  · rw [if_neg hk]
    by_cases h5 : k < 5
    · rw [if_pos h5, if_pos h5, hO]
    · rw [if_neg h5, if_neg h5]
      by_cases h143 : k < 143
      · rw [if_pos h143, if_pos h143]
        unfold ts_c
        split
        · rename_i q c' i' hq
          have hat : ts_at k = some (c', i') := by
            unfold ts_at
            rw [if_pos h143, hq]
          rw [hfs c' i' (fun z => hk (ts_at_inj (by omega) h.1 hat (by rw [z.1, z.2]; exact h.2.2)))]
        · rename_i q ty n hq
          unfold ts_ar
          rw [hB, hA]
          have : ts_m s' = ts_m s := by unfold ts_m; rw [hM]
          rw [this]
      · rw [if_neg h143, if_neg h143]
        unfold ts_p
        rw [hV, hU]
        by_cases hz : (k - 143) % 3 = 0
        · rw [if_pos hz, if_pos hz]
          have hat : ts_at k = some (5, (k - 143) / 3) := by
            unfold ts_at
            rw [if_neg h143, if_pos hz]
          rw [hfs 5 _ (fun z => hk (ts_at_inj (by omega) h.1 hat (by rw [z.1, z.2]; exact h.2.2)))]
        · rw [if_neg hz, if_neg hz]
theorem lay_wI {s : ts} {r ci i j : Nat} {x : Int32} (h : ts_ob s r ci i) (hj : j < 100) (ht : tb_ty ci j = .int ∨ tb_ty ci j = .boolean) : am_up (lay s) r (.inr (ci, (ts_fs s ci i).set j (.int x))) = lay (wI s (100 * ci + j) i x) := by
  refine lay_w h rfl (fun _ => rfl) rfl rfl rfl rfl ?_ (fun c' i' j' hj' hne => ts_f_I hj hj' hne)
  have e : gI (wI s (100 * ci + j) i x) (100 * ci + j) i = x := if_pos ⟨rfl, rfl⟩
  unfold ts_f
  rcases ht with ht | ht <;> rw [ht] <;> (dsimp only; rw [e])
theorem lay_wJ {s : ts} {r ci i j : Nat} {x : Int64} (h : ts_ob s r ci i) (hj : j < 100) (ht : tb_ty ci j = .long) : am_up (lay s) r (.inr (ci, (ts_fs s ci i).set j (.long x))) = lay (wJ s (100 * ci + j) i x) := by
  refine lay_w h rfl (fun _ => rfl) rfl rfl rfl rfl ?_ (fun c' i' j' hj' hne => ts_f_J hj hj' hne)
  have e : gJ (wJ s (100 * ci + j) i x) (100 * ci + j) i = x := if_pos ⟨rfl, rfl⟩
  unfold ts_f
  rw [ht]
  dsimp only
  rw [e]
theorem lay_wR {s : ts} {r ci i j : Nat} {x : Option Nat} {C : String} (h : ts_ob s r ci i) (hj : j < 100) (ht : tb_ty ci j = .object C) (hk : ts_k ci i j = none) : am_up (lay s) r (.inr (ci, (ts_fs s ci i).set j (va_rf (x.map (ts_t ci j))))) = lay (wR s (100 * ci + j) i x) := by
  refine lay_w h rfl (fun _ => rfl) rfl rfl rfl rfl ?_ (fun c' i' j' hj' hne => ts_f_R hj hj' hne)
  have e : gR (wR s (100 * ci + j) i x) (100 * ci + j) i = x := if_pos ⟨rfl, rfl⟩
  unfold ts_f
  rw [ht]
  dsimp only
  rw [hk]
  dsimp only
  rw [e]
