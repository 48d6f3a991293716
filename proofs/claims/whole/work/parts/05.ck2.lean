/-! THE CHECKS of words. -/
theorem tb_fldB_all : tb_all tb_fldB 0 tb_fldL = true := by decide +kernel
theorem tb_newB_all : tb_all tb_newB 0 tb_newL = true := by decide +kernel
theorem tb_anwB_all : tb_all tb_anwB 0 tb_anwL = true := by decide +kernel
theorem tb_cstB_all : tb_all tb_cstB 0 tb_cstL = true := by decide +kernel
theorem tb_staB_all : tb_all tb_staB 0 tb_staL = true := by decide +kernel
theorem tb_lfB_all : tb_all tb_lfB 0 tb_lfL = true := by decide +kernel
theorem tb_x10 : Cond.instanceMethod Lib.objectInit ∈ lw_tbl ∧ Cond.code Lib.objectInit ⟨#[0xb1]⟩ 1 none ∈ lw_tbl := by decide +kernel
theorem tb_at_int : FieldType.int ∈ tb_ats := by decide +kernel
theorem tb_ar_int : Cond.arrayClass .int ∈ tb_wd := by decide +kernel
theorem tb_at_byte : FieldType.byte ∈ tb_ats := by decide +kernel
theorem tb_ar_byte : Cond.arrayClass .byte ∈ tb_wd := by decide +kernel
theorem tb_at_long : FieldType.long ∈ tb_ats := by decide +kernel
theorem tb_ar_long : Cond.arrayClass .long ∈ tb_wd := by decide +kernel
theorem tb_at_bool : FieldType.boolean ∈ tb_ats := by decide +kernel
theorem tb_ar_bool : Cond.arrayClass .boolean ∈ tb_wd := by decide +kernel
theorem tb_LK_big : 20 ≤ tb_LK := by decide
theorem am_K_pos : 0 < am_K := by decide
theorem tb_cl_ok0 : tb_clP 0 (tb_cl.getD 0 ("", tb_T0, 0)) := ⟨by decide +kernel, by decide +kernel, by decide +kernel⟩
theorem tb_cl_ok1 : tb_clP 1 (tb_cl.getD 1 ("", tb_T0, 0)) := ⟨by decide +kernel, by decide +kernel, by decide +kernel⟩
theorem tb_cl_ok2 : tb_clP 2 (tb_cl.getD 2 ("", tb_T0, 0)) := ⟨by decide +kernel, by decide +kernel, by decide +kernel⟩
theorem tb_cl_ok3 : tb_clP 3 (tb_cl.getD 3 ("", tb_T0, 0)) := ⟨by decide +kernel, by decide +kernel, by decide +kernel⟩
theorem tb_cl_ok4 : tb_clP 4 (tb_cl.getD 4 ("", tb_T0, 0)) := ⟨by decide +kernel, by decide +kernel, by decide +kernel⟩
theorem tb_cl_ok5 : tb_clP 5 (tb_cl.getD 5 ("", tb_T0, 0)) := ⟨by decide +kernel, by decide +kernel, by decide +kernel⟩
theorem tb_cl_ok6 : tb_clP 6 (tb_cl.getD 6 ("", tb_T0, 0)) := ⟨by decide +kernel, by decide +kernel, by decide +kernel⟩
theorem tb_cl_ok7 : tb_clP 7 (tb_cl.getD 7 ("", tb_T0, 0)) := ⟨by decide +kernel, by decide +kernel, by decide +kernel⟩
theorem tb_cl_ok8 : tb_clP 8 (tb_cl.getD 8 ("", tb_T0, 0)) := ⟨by decide +kernel, by decide +kernel, by decide +kernel⟩
theorem tb_cl_ok9 : tb_clP 9 (tb_cl.getD 9 ("", tb_T0, 0)) := ⟨by decide +kernel, by decide +kernel, by decide +kernel⟩
theorem tb_cl_ok10 : tb_clP 10 (tb_cl.getD 10 ("", tb_T0, 0)) := ⟨by decide +kernel, by decide +kernel, by decide +kernel⟩
theorem tb_cl_ok11 : tb_clP 11 (tb_cl.getD 11 ("", tb_T0, 0)) := ⟨by decide +kernel, by decide +kernel, by decide +kernel⟩
theorem tb_cl_len : tb_cl.length = 12 := by decide +kernel
theorem tb_cl_ok (ci : Nat) (q : vw_C) (h : tb_cl[ci]? = some q) : tb_clP ci q := by
  have hl : ci < 12 := by rw [← tb_cl_len]; exact (List.getElem?_eq_some_iff.mp h).1
  have e : q = tb_cl.getD ci ("", tb_T0, 0) := by rw [List.getD_eq_getElem?_getD, h]; rfl
  subst e
  match ci, hl with
  | 0, _ => exact tb_cl_ok0
  | 1, _ => exact tb_cl_ok1
  | 2, _ => exact tb_cl_ok2
  | 3, _ => exact tb_cl_ok3
  | 4, _ => exact tb_cl_ok4
  | 5, _ => exact tb_cl_ok5
  | 6, _ => exact tb_cl_ok6
  | 7, _ => exact tb_cl_ok7
  | 8, _ => exact tb_cl_ok8
  | 9, _ => exact tb_cl_ok9
  | 10, _ => exact tb_cl_ok10
  | 11, _ => exact tb_cl_ok11
theorem tb_x11 : Cond.static Lib.Math.max.name ∈ lw_tbl ∧ Cond.initialized "java/lang/Math" ∈ lw_tbl ∧ Cond.code Lib.Math.max.name Lib.Math.max.code 2 (some .int) ∈ lw_tbl := by decide +kernel
theorem tb_x12 : Cond.static Lib.Math.min.name ∈ lw_tbl ∧ Cond.initialized "java/lang/Math" ∈ lw_tbl ∧ Cond.code Lib.Math.min.name Lib.Math.min.code 2 (some .int) ∈ lw_tbl := by decide +kernel
