/-- a cell, its references moved -/
def am_c (cA : FieldType → ClassId) (ad : Nat → Nat) (x : am_C) : va_E := match x with
  | .inl (ty, n, .inl f) => .inl (cA ty, n, .inl f)
  | .inl (ty, n, .inr (.inl f)) => .inl (cA ty, n, .inr (.inl f))
  | .inl (ty, n, .inr (.inr (.inl f))) => .inl (cA ty, n, .inr (.inr (.inl f)))
  | .inl (ty, n, .inr (.inr (.inr (.inl f)))) => .inl (cA ty, n, .inr (.inr (.inr (.inl f))))
  | .inl (ty, n, .inr (.inr (.inr (.inr f)))) => .inl (cA ty, n, .inr (.inr (.inr (.inr (fun j => (f j).map ad)))))
  | .inr (ci, fs) => .inr (ci, fs.map (am_v ad))
def am_ws (cA : FieldType → ClassId) (ad : Nat → Nat) (h : am_H) : va_W := (List.range (h.1 - am_K)).map (fun i => (ad (am_K + i), am_c cA ad (h.2.2 (am_K + i))))
/-- places and addresses: new cells lie from b0 on, one behind another -/
def am_AD (ad : Nat → Nat) (b0 : Nat) : Prop := ∀ r, am_K ≤ r → ad r = b0 + (r - am_K)
theorem am_AD_inj {ad : Nat → Nat} {b0 : Nat} (h : am_AD ad b0) (a b : Nat) (ha : am_K ≤ a) (hb : am_K ≤ b) (e : ad a = ad b) : a = b := by
  rw [h a ha, h b hb] at e
  omega
abbrev am_A (b0 : Nat) : Nat → Prop := fun q => b0 ≤ q
/-- the heap holds the abstract one -/
def am_P (D : va_G) (cA : FieldType → ClassId) (ad : Nat → Nat) (b0 : Nat) (ou : Nat → am_C) (h : am_H) (H : Heap) : Prop := va_P D tb_cl (am_ws cA ad h) H ∧ H.size = b0 + (h.1 - am_K) ∧ am_K ≤ h.1 ∧ ∀ r, r < am_K → h.2.2 r = ou r
def am_tys (cA : FieldType → ClassId) : List (ClassId × FieldType) := tb_ats.map (fun ty => (cA ty, ty))
/-- what stands still while a frame runs -/
def am_Fr (D : va_G) (cA : FieldType → ClassId) (ad : Nat → Nat) (b0 : Nat) (ou : Nat → am_C) (s : State) (n0 : Nat) : Prop := va_K D tb_cl (am_tys cA) s ∧ (∀ w ∈ tb_ne, va_Nw w s) ∧ True ∧ s.heap.size = b0 + (n0 - am_K) ∧ (am_K ≤ n0 ∧ am_Sx ad b0 ou s) ∧ am_AD ad b0
theorem am_at_inv {h : am_H} {r : Nat} {x : am_C} (q : am_at h r = some x) : am_K ≤ r ∧ r < h.1 ∧ h.2.2 r = x := by
  unfold am_at at q
  split at q
  · rename_i z; cases q; exact ⟨z.1, z.2, rfl⟩
  · cases q
theorem am_ws_get {cA : FieldType → ClassId} {ad : Nat → Nat} {h : am_H} {r : Nat} (h1 : am_K ≤ r) (h2 : r < h.1) : (am_ws cA ad h)[r - am_K]? = some (ad r, am_c cA ad (h.2.2 r)) := by
  have e : am_K + (r - am_K) = r := by omega
  simp only [am_ws, List.getElem?_map, List.getElem?_range (show r - am_K < h.1 - am_K by omega), Option.map_some, e]
theorem am_ws_len {cA : FieldType → ClassId} {ad : Nat → Nat} {h : am_H} : (am_ws cA ad h).length = h.1 - am_K := by simp [am_ws]
theorem am_ws_set {cA : FieldType → ClassId} {ad : Nat → Nat} {h : am_H} {r : Nat} {x : am_C} (h1 : am_K ≤ r) : (am_ws cA ad h).set (r - am_K) (ad r, am_c cA ad x) = am_ws cA ad (am_up h r x) := by
  apply List.ext_getElem?
  intro i
  simp only [am_ws, am_up, List.getElem?_set, List.getElem?_map, List.length_map, List.length_range]
  by_cases e : r - am_K = i
  · subst e
    rw [if_pos rfl]
    by_cases hl : r - am_K < h.1 - am_K
    · rw [if_pos hl, List.getElem?_range hl]
      simp [show am_K + (r - am_K) = r by omega]
    · rw [if_neg hl, List.getElem?_eq_none (by simp; omega)]
      rfl
  · rw [if_neg e]
    by_cases hl : i < h.1 - am_K
    · rw [List.getElem?_range hl]
      simp [show ¬ am_K + i = r by omega]
    · rw [List.getElem?_eq_none (by simp; omega)]
      rfl
theorem am_ws_push {cA : FieldType → ClassId} {ad : Nat → Nat} {h : am_H} {x : am_C} {n : Nat} (hK : am_K ≤ h.1) : am_ws cA ad (am_push h x n) = am_ws cA ad h ++ [(ad h.1, am_c cA ad x)] := by
  have e : h.1 + 1 - am_K = (h.1 - am_K) + 1 := by omega
  simp only [am_ws, am_push, e, List.range_succ, List.map_append, List.map_cons, List.map_nil]
  congr 1
  · apply List.map_congr_left
    intro i hi
    have := List.mem_range.mp hi
    rw [if_neg (by omega)]
  · rw [show am_K + (h.1 - am_K) = h.1 by omega]
    simp
theorem am_wsD {cA : FieldType → ClassId} {ad : Nat → Nat} {b0 : Nat} {h : am_H} (hA : am_AD ad b0) : va_D (am_A b0) (am_ws cA ad h) := by
  have key : ∀ (k : Nat) (q : Nat × va_E), (am_ws cA ad h)[k]? = some q → k < h.1 - am_K ∧ q.1 = ad (am_K + k) := by
    intro k q hk
    have hl := (List.getElem?_eq_some_iff.mp hk).1
    rw [am_ws_len] at hl
    simp only [am_ws, List.getElem?_map, List.getElem?_range hl, Option.map_some, Option.some.injEq] at hk
    exact ⟨hl, by rw [← hk]⟩
  refine ⟨fun i j x y hi hj e => ?_, fun k q hk => ?_⟩
  · obtain ⟨i1, i2⟩ := key i x hi
    obtain ⟨j1, j2⟩ := key j y hj
    have := am_AD_inj hA _ _ (by omega) (by omega) (i2.symm.trans (e.trans j2))
    omega
  · obtain ⟨k1, k2⟩ := key k q hk
    show b0 ≤ q.1
    rw [k2, hA _ (by omega)]
    omega
theorem am_S_trans {A : Nat → Prop} {H0 H H1 : Heap} {locs locs1 : List Loc} (h1 : va_S A H0 H locs) (h2 : va_S A H H1 locs1) : va_S A H0 H1 locs1 := ⟨Nat.le_trans h1.1 h2.1, fun q a b => (h2.2.1 q (Nat.lt_of_lt_of_le a h1.1) b).trans (h1.2.1 q a b), h2.2.2⟩
theorem am_S_here {A : Nat → Prop} {H0 H : Heap} {locs : List Loc} (h1 : va_S A H0 H locs) : va_S A H H locs := ⟨Nat.le_refl _, fun _ _ _ => rfl, h1.2.2⟩
theorem am_tys_at {cA : FieldType → ClassId} {ty : FieldType} (h : ty ∈ tb_ats) : ∃ t0 : Nat, (am_tys cA)[t0]? = some (cA ty, ty) := List.getElem?_of_mem (List.mem_map.mpr ⟨ty, h, rfl⟩)
theorem am_idx_in {j : Int32} {n : Nat} (h : am_idx j n = true) : vp_in j n := (of_decide_eq_true h : ¬ (j < 0 ∨ n ≤ j.toNatClampNeg))
theorem am_fit_ok {ty : FieldType} {v : Value} {ad : Nat → Nat} (h : am_fit ty v = true) : narrow ty (am_v ad v) = am_v ad v ∧ fits ty (am_v ad v) = true := by
  cases ty <;> cases v <;> simp only [am_fit, Bool.false_eq_true] at h <;> try exact ⟨rfl, rfl⟩
  rename_i x
  simp only [Bool.or_eq_true, beq_iff_eq] at h
  rcases h with rfl | rfl <;> exact ⟨rfl, rfl⟩
section AM2
variable {p : Program} {l : Launch} {e : Env} {R : Room} {s : State} {m : MethodId} {args : Array Value} {below : List Frame} {meth : Method} {c : Code} {H : Heap} {locs : List Loc} {cells slots : Nat} {Q : State → Prop}
variable {cc : ByteArray} {pc : Nat} {ls : Array Slot} {ad : Nat → Nat} {D : va_G} {cA : FieldType → ClassId} {b0 n0 s0 : Nat} {ou : Nat → am_C} {h : am_H}
theorem am_size {H1 : Heap} {locs1 : List Loc} {g : JFrame} (hle : H.size ≤ H1.size) (hz : H.size = s.heap.size + cells) (k : H1.size = H.size → W p l e R s m args below meth c H1 locs1 cells slots Q g) : W p l e R s m args below meth c H1 locs1 cells slots Q g := fun T hT X => k (by have := X.heapSize; rw [hT] at this; omega) T hT X
theorem am_wr {r : Nat} {x : am_C} {H1 : Heap} {locs1 : List Loc} {g : JFrame} (hP : am_P D cA ad b0 ou h H) (hF : am_Fr D cA ad b0 ou s n0) (hS : va_S (am_A b0) s.heap H locs) (hc : n0 + cells = h.1) (hr1 : am_K ≤ r) (hP1 : va_P D tb_cl ((am_ws cA ad h).set (r - am_K) (ad r, am_c cA ad x)) H1) (hS1 : va_S (am_A b0) H H1 locs1)
    (k : am_P D cA ad b0 ou (am_up h r x) H1 → va_S (am_A b0) s.heap H1 locs1 → W p l e R s m args below meth c H1 locs1 cells slots Q g) : W p l e R s m args below meth c H1 locs1 cells slots Q g := by
  have hz := hP.2.1
  have hs := hF.2.2.2.1
  have hn := hF.2.2.2.2.1.1
  have hp := am_K_pos
  refine am_size (H := H) hS1.1 (by omega) (fun hz1 => k ⟨by rw [← am_ws_set hr1]; exact hP1, by rw [hz1]; exact hz, hP.2.2.1, ?_⟩ (am_S_trans hS hS1))
  intro r' hr'
  show (if r' = r then x else h.2.2 r') = _
  rw [if_neg (by omega)]
  exact hP.2.2.2 r' hr'
theorem am_nw {q pc' n sl : Nat} {x : am_C} {H1 : Heap} {rest : List Value} {e9 : va_E} (hP : am_P D cA ad b0 ou h H) (hF : am_Fr D cA ad b0 ou s n0) (hS : va_S (am_A b0) s.heap H locs) (hc : n0 + cells = h.1) (hP1 : va_P D tb_cl (am_ws cA ad h ++ [(q, e9)]) H1) (hD1 : va_D (am_A b0) (am_ws cA ad h ++ [(q, e9)])) (hS1 : va_S (am_A b0) H H1 locs) (he : e9 = am_c cA ad x)
    (k : am_P D cA ad b0 ou (am_push h x n) H1 → va_S (am_A b0) s.heap H1 locs → W p l e R s m args below meth c H1 locs (cells + 1) sl Q (F0 m pc' ls (.ref (ad h.1) :: rest))) : W p l e R s m args below meth c H1 locs (cells + 1) sl Q (F0 m pc' ls (.ref q :: rest)) := by
  intro T hT X
  have hz := hP.2.1
  have hs := hF.2.2.2.1
  have hn := hF.2.2.2.2.1.1
  have hA := hF.2.2.2.2.2
  have hp := am_K_pos
  have hKh := hP.2.2.1
  have hb := X.heapSize
  rw [hT] at hb
  have hq : (am_ws cA ad h ++ [(q, e9)])[h.1 - am_K]? = some (q, e9) := by
    rw [← am_ws_len (cA := cA) (ad := ad) (h := h)]
    simp
  have hlt : q < H1.size := (hP1 _ _ hq).lt
  have hbq : b0 ≤ q := hD1.2 _ _ hq
  have hne : ¬ q < H.size := by
    intro z
    have h1 : am_K ≤ am_K + (q - b0) := by omega
    have h2 : am_K + (q - b0) < h.1 := by omega
    have hi := am_ws_get (cA := cA) (ad := ad) h1 h2
    have hi2 : (am_ws cA ad h ++ [(q, e9)])[am_K + (q - b0) - am_K]? = some (ad (am_K + (q - b0)), am_c cA ad (h.2.2 (am_K + (q - b0)))) := by
      rw [List.getElem?_append_left (by rw [am_ws_len]; omega)]
      exact hi
    have := hD1.1 _ _ _ _ hi2 hq (by show ad _ = q; rw [hA _ h1]; omega)
    omega
  have hsz : H1.size = H.size + 1 := by omega
  have e1 : q = ad h.1 := by rw [hA _ hKh]; omega
  subst e1
  refine k ⟨?_, ?_, ?_, ?_⟩ (am_S_trans hS hS1) T hT X
  · rw [am_ws_push hKh, ← he]; exact hP1
  · show H1.size = b0 + (h.1 + 1 - am_K)
    omega
  · show am_K ≤ h.1 + 1
    omega
  · intro r' hr'
    show (if r' = h.1 then x else h.2.2 r') = _
    rw [if_neg (by omega)]
    exact hP.2.2.2 r' hr'
end AM2
