/-! THE CHECKS of calls. -/
theorem tb_kz0_0 : (((tb_calL.getD 0 []).drop 0).take 60).all (tb_calB 0) = true := by decide +kernel
theorem tb_kz1_0 : (((tb_calL.getD 1 []).drop 0).take 60).all (tb_calB 1) = true := by decide +kernel
theorem tb_kz2_0 : (((tb_calL.getD 2 []).drop 0).take 60).all (tb_calB 2) = true := by decide +kernel
theorem tb_kz3_0 : (((tb_calL.getD 3 []).drop 0).take 60).all (tb_calB 3) = true := by decide +kernel
theorem tb_kz4_0 : (((tb_calL.getD 4 []).drop 0).take 60).all (tb_calB 4) = true := by decide +kernel
theorem tb_kz5_0 : (((tb_calL.getD 5 []).drop 0).take 60).all (tb_calB 5) = true := by decide +kernel
theorem tb_kz6_0 : (((tb_calL.getD 6 []).drop 0).take 60).all (tb_calB 6) = true := by decide +kernel
theorem tb_kz7_0 : (((tb_calL.getD 7 []).drop 0).take 60).all (tb_calB 7) = true := by decide +kernel
theorem tb_kz8_0 : (((tb_calL.getD 8 []).drop 0).take 60).all (tb_calB 8) = true := by decide +kernel
theorem tb_kz9_0 : (((tb_calL.getD 9 []).drop 0).take 60).all (tb_calB 9) = true := by decide +kernel
theorem tb_kz10_0 : (((tb_calL.getD 10 []).drop 0).take 60).all (tb_calB 10) = true := by decide +kernel
theorem tb_kz11_0 : (((tb_calL.getD 11 []).drop 0).take 60).all (tb_calB 11) = true := by decide +kernel
theorem tb_kz12_0 : (((tb_calL.getD 12 []).drop 0).take 60).all (tb_calB 12) = true := by decide +kernel
theorem tb_kz12_1 : (((tb_calL.getD 12 []).drop 60).take 60).all (tb_calB 12) = true := by decide +kernel
theorem tb_kz13_0 : (((tb_calL.getD 13 []).drop 0).take 60).all (tb_calB 13) = true := by decide +kernel
theorem tb_kz14_0 : (((tb_calL.getD 14 []).drop 0).take 60).all (tb_calB 14) = true := by decide +kernel
theorem tb_kz15_0 : (((tb_calL.getD 15 []).drop 0).take 60).all (tb_calB 15) = true := by decide +kernel
theorem tb_allc {α : Type} {P : α → Bool} : ∀ (l : List α) (a : Nat), (l.take a).all P = true → (l.drop a).all P = true → l.all P = true := by
  intro l a h1 h2
  rw [← List.take_append_drop a l, List.all_append, h1, h2]; rfl
theorem tb_ko0 : (tb_calL.getD 0 []).all (tb_calB 0) = true := tb_allc _ 60 tb_kz0_0 (by decide +kernel)
theorem tb_ko1 : (tb_calL.getD 1 []).all (tb_calB 1) = true := tb_allc _ 60 tb_kz1_0 (by decide +kernel)
theorem tb_ko2 : (tb_calL.getD 2 []).all (tb_calB 2) = true := tb_allc _ 60 tb_kz2_0 (by decide +kernel)
theorem tb_ko3 : (tb_calL.getD 3 []).all (tb_calB 3) = true := tb_allc _ 60 tb_kz3_0 (by decide +kernel)
theorem tb_ko4 : (tb_calL.getD 4 []).all (tb_calB 4) = true := tb_allc _ 60 tb_kz4_0 (by decide +kernel)
theorem tb_ko5 : (tb_calL.getD 5 []).all (tb_calB 5) = true := tb_allc _ 60 tb_kz5_0 (by decide +kernel)
theorem tb_ko6 : (tb_calL.getD 6 []).all (tb_calB 6) = true := tb_allc _ 60 tb_kz6_0 (by decide +kernel)
theorem tb_ko7 : (tb_calL.getD 7 []).all (tb_calB 7) = true := tb_allc _ 60 tb_kz7_0 (by decide +kernel)
theorem tb_ko8 : (tb_calL.getD 8 []).all (tb_calB 8) = true := tb_allc _ 60 tb_kz8_0 (by decide +kernel)
theorem tb_ko9 : (tb_calL.getD 9 []).all (tb_calB 9) = true := tb_allc _ 60 tb_kz9_0 (by decide +kernel)
theorem tb_ko10 : (tb_calL.getD 10 []).all (tb_calB 10) = true := tb_allc _ 60 tb_kz10_0 (by decide +kernel)
theorem tb_ko11 : (tb_calL.getD 11 []).all (tb_calB 11) = true := tb_allc _ 60 tb_kz11_0 (by decide +kernel)
-- owner 12: 74 rows
theorem tb_ko12 : (tb_calL.getD 12 []).all (tb_calB 12) = true := by
  have hl : (tb_calL.getD 12 []).length ≤ 120 := by decide +kernel
  refine tb_allc _ 60 tb_kz12_0 ?_
  refine tb_allc _ 60 (by rw [List.all_eq_true]; exact List.all_eq_true.mp tb_kz12_1) ?_
  rw [List.drop_drop]
  rw [List.drop_eq_nil_of_le (by omega)]; rfl
theorem tb_ko13 : (tb_calL.getD 13 []).all (tb_calB 13) = true := tb_allc _ 60 tb_kz13_0 (by decide +kernel)
theorem tb_ko14 : (tb_calL.getD 14 []).all (tb_calB 14) = true := tb_allc _ 60 tb_kz14_0 (by decide +kernel)
theorem tb_ko15 : (tb_calL.getD 15 []).all (tb_calB 15) = true := tb_allc _ 60 tb_kz15_0 (by decide +kernel)
theorem tb_calB_all : tb_all tb_calB 0 tb_calL = true := by
  have e : tb_calL = [tb_calL.getD 0 [], tb_calL.getD 1 [], tb_calL.getD 2 [], tb_calL.getD 3 [], tb_calL.getD 4 [], tb_calL.getD 5 [], tb_calL.getD 6 [], tb_calL.getD 7 [], tb_calL.getD 8 [], tb_calL.getD 9 [], tb_calL.getD 10 [], tb_calL.getD 11 [], tb_calL.getD 12 [], tb_calL.getD 13 [], tb_calL.getD 14 [], tb_calL.getD 15 []] := rfl
  rw [e]
  simp only [tb_all, Bool.and_eq_true]
  exact ⟨tb_ko0, tb_ko1, tb_ko2, tb_ko3, tb_ko4, tb_ko5, tb_ko6, tb_ko7, tb_ko8, tb_ko9, tb_ko10, tb_ko11, tb_ko12, tb_ko13, tb_ko14, tb_ko15, trivial⟩
