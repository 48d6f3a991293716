theorem tb_ck_zip : ∀ q ∈ tb_mL.zip tb_ilL, tb_ckq q = true := by
  have key : ∀ j, j < 14 → (((tb_mL.zip tb_ilL).drop (20 * j)).take 20).all tb_ckq = true := by
    intro j hj
    match j, hj with
    | 0, _ => exact tb_cz0
    | 1, _ => exact tb_cz1
    | 2, _ => exact tb_cz2
    | 3, _ => exact tb_cz3
    | 4, _ => exact tb_cz4
    | 5, _ => exact tb_cz5
    | 6, _ => exact tb_cz6
    | 7, _ => exact tb_cz7
    | 8, _ => exact tb_cz8
    | 9, _ => exact tb_cz9
    | 10, _ => exact tb_cz10
    | 11, _ => exact tb_cz11
    | 12, _ => exact tb_cz12
    | 13, _ => exact tb_cz13
  have hl : (tb_mL.zip tb_ilL).length = 261 := by decide +kernel
  intro q hq
  obtain ⟨i, hi⟩ := List.getElem?_of_mem hq
  have hlt := (List.getElem?_eq_some_iff.mp hi).1
  have h := key (i / 20) (by omega)
  refine List.all_eq_true.mp h q ?_
  refine List.mem_of_getElem? (i := i % 20) ?_
  rw [List.getElem?_take_of_lt (Nat.mod_lt _ (by decide)), List.getElem?_drop, Nat.div_add_mod]
  exact hi
theorem tb_il_get {mi : Nat} {M : tb_M} (h : tb_m mi = some M) : (M, tb_il mi) ∈ tb_mL.zip tb_ilL := by
  have hl : tb_mL.length = tb_ilL.length := by decide +kernel
  have hlt := (List.getElem?_eq_some_iff.mp (show tb_mL[mi]? = some M from h)).1
  have h2 : tb_ilL[mi]? = some (tb_il mi) := by
    rw [List.getElem?_eq_getElem (by omega)]
    unfold tb_il
    rw [List.getD_eq_getElem?_getD, List.getElem?_eq_getElem (by omega)]
    rfl
  exact List.mem_of_getElem? (i := mi) (by rw [List.getElem?_zip_eq_some]; exact ⟨h, h2⟩)
theorem tb_ck_all (mi : Nat) (M : tb_M) (h : tb_m mi = some M) : tb_ck M.2.2.2.1 0 (tb_il mi) = true := tb_ck_zip _ (tb_il_get h)
