theorem tb_ck_zip : ∀ q ∈ tb_mL.zip tb_ilL, tb_ckq q = true := by
  have key : ∀ j, j < 26 → (((tb_mL.zip tb_ilL).drop (10 * j)).take 10).all tb_ckq = true := by
    intro j hj
    match j, hj with
    | 0, _ => exact tb_cz0
    | 1, _ => exact tb_cz1
    | 2, _ => exact tb_cz2
    | 3, _ => exact tb_cz3
    | 4, _ => exact tb_cz4
    | 5, _ => exact tb_cz5
    | 6, _ => exact tb_cz6
    | 7, _ => exact tb_cz7
    | 8, _ => exact tb_cz8
    | 9, _ => exact tb_cz9
    | 10, _ => exact tb_cz10
    | 11, _ => exact tb_cz11
    | 12, _ => exact tb_cz12
    | 13, _ => exact tb_cz13
    | 14, _ => exact tb_cz14
    | 15, _ => exact tb_cz15
    | 16, _ => exact tb_cz16
    | 17, _ => exact tb_cz17
    | 18, _ => exact tb_cz18
    | 19, _ => exact tb_cz19
    | 20, _ => exact tb_cz20
    | 21, _ => exact tb_cz21
    | 22, _ => exact tb_cz22
    | 23, _ => exact tb_cz23
    | 24, _ => exact tb_cz24
    | 25, _ => exact tb_cz25
    | n + 26, h => exact absurd h (by omega)
  have hl : (tb_mL.zip tb_ilL).length = 259 := by decide +kernel
  intro q hq
  obtain ⟨i, hi⟩ := List.getElem?_of_mem hq
  have hlt := (List.getElem?_eq_some_iff.mp hi).1
  have h := key (i / 10) (by omega)
  refine List.all_eq_true.mp h q ?_
  refine List.mem_of_getElem? (i := i % 10) ?_
  rw [List.getElem?_take_of_lt (Nat.mod_lt _ (by decide)), List.getElem?_drop, Nat.div_add_mod]
  exact hi
theorem tb_il_get {mi : Nat} {M : tb_M} (h : tb_m mi = some M) : (M, tb_il mi) ∈ tb_mL.zip tb_ilL := by
  have hl : tb_mL.length = tb_ilL.length := by decide +kernel
  have hlt := (List.getElem?_eq_some_iff.mp (show tb_mL[mi]? = some M from h)).1
  have h2 : tb_ilL[mi]? = some (tb_il mi) := by
    rw [List.getElem?_eq_getElem (by omega)]
    unfold tb_il
    rw [List.getD_eq_getElem?_getD, List.getElem?_eq_getElem (by omega)]
    rfl
  exact List.mem_of_getElem? (i := mi) (by rw [List.getElem?_zip_eq_some]; exact ⟨h, h2⟩)
theorem tb_ck_all (mi : Nat) (M : tb_M) (h : tb_m mi = some M) : tb_ck M.2.2.2.1 0 (tb_il mi) = true := tb_ck_zip _ (tb_il_get h)
theorem tb_mB_ok {mi : Nat} {M : tb_M} {x : Nat × Nat × Nat × Nat × Nat} (hM : tb_mL[mi]? = some M) (hX : tb_mX[mi]? = some x) (h1 : 1 ≤ mi) : tb_mB2 M x = true := by
  have key : ∀ j, j < 6 → (((tb_mL.zip tb_mX).drop (1 + 20 * j)).take 20).all tb_mBq2 = true := by
    intro j hj
    match j, hj with
    | 0, _ => exact tb_mz0
    | 1, _ => exact tb_mz1
    | 2, _ => exact tb_mz2
    | 3, _ => exact tb_mz3
    | 4, _ => exact tb_mz4
    | 5, _ => exact tb_mz5
    | n + 6, h => exact absurd h (by omega)
  have key2 : ∀ j, j < 14 → (((tb_mL.zip tb_mX).drop (121 + 10 * j)).take 10).all tb_mBq2 = true := by
    intro j hj
    match j, hj with
    | 0, _ => exact tb_my0
    | 1, _ => exact tb_my1
    | 2, _ => exact tb_my2
    | 3, _ => exact tb_my3
    | 4, _ => exact tb_my4
    | 5, _ => exact tb_my5
    | 6, _ => exact tb_my6
    | 7, _ => exact tb_my7
    | 8, _ => exact tb_my8
    | 9, _ => exact tb_my9
    | 10, _ => exact tb_my10
    | 11, _ => exact tb_my11
    | 12, _ => exact tb_my12
    | 13, _ => exact tb_my13
    | n + 14, h => exact absurd h (by omega)
  have hl : (tb_mL.zip tb_mX).length = 259 := by decide +kernel
  have hz : (tb_mL.zip tb_mX)[mi]? = some (M, x) := by rw [List.getElem?_zip_eq_some]; exact ⟨hM, hX⟩
  have hlt := (List.getElem?_eq_some_iff.mp hz).1
  by_cases hs : mi < 121
  · have h := key ((mi - 1) / 20) (by omega)
    refine List.all_eq_true.mp h (M, x) ?_
    refine List.mem_of_getElem? (i := (mi - 1) % 20) ?_
    rw [List.getElem?_take_of_lt (Nat.mod_lt _ (by decide)), List.getElem?_drop, show 1 + 20 * ((mi - 1) / 20) + (mi - 1) % 20 = mi by omega]
    exact hz
  · have h := key2 ((mi - 121) / 10) (by omega)
    refine List.all_eq_true.mp h (M, x) ?_
    refine List.mem_of_getElem? (i := (mi - 121) % 10) ?_
    rw [List.getElem?_take_of_lt (Nat.mod_lt _ (by decide)), List.getElem?_drop, show 121 + 10 * ((mi - 121) / 10) + (mi - 121) % 10 = mi by omega]
    exact hz
