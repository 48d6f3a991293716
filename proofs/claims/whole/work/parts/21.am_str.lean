/-! WHAT STANDS OUTSIDE: the script (0), the literal (1) and its bytes (2), the reference's words (3), a formatter (4); array classes of references. -/
def am_St (ad : Nat → Nat) (b0 : Nat) (ou : Nat → am_C) (s : State) : Prop :=
  (∃ (L : Nat) (xs : Nat → Int32), ou 0 = .inl (.int, L, .inl xs) ∧ va_X (ad 0) L xs s s.heap ∧ ad 0 < b0 ∧ b0 ≤ s.heap.size) ∧
  vk_R tb_litO tb_litK tb_litT (ad 1) s ∧
  (vk_S 1 [tb_byt.length] [tb_byt] (fun _ => ad 1) (fun _ => ad 2) (fun q => b0 ≤ q) s s.heap ∧ ou 2 = .inl (.byte, tb_byt.length, .inl (fun j => tb_byt.getD j 0))) ∧
  va_Z "java/lang/String" "COMPACT_STRINGS" "Z" (.int 1) (fun q => b0 ≤ q) s s.heap ∧
  (va_Z "EventHallModel" "WORDS" "[C" (.ref (ad 3)) (fun q => b0 ≤ q) s s.heap ∧ va_T .char (ad 3) tb_wrd.length (fun j => .int (tb_wrd.getD j 0)) (fun q => b0 ≤ q) s s.heap ∧ ou 3 = .inl (.char, tb_wrd.length, .inl (fun j => tb_wrd.getD j 0))) ∧
  ((ou 4 = .inr (0, []) ∧ va_Z "jdk/internal/util/Preconditions" "SIOOBE_FORMATTER" "Ljava/util/function/BiFunction;" .null (fun q => b0 ≤ q) s s.heap) ∨ (ou 4 = .inr (1, []) ∧ va_Z "jdk/internal/util/Preconditions" "SIOOBE_FORMATTER" "Ljava/util/function/BiFunction;" (.ref (ad 4)) (fun q => b0 ≤ q) s s.heap))
def am_Sx (ad : Nat → Nat) (b0 : Nat) (ou : Nat → am_C) (s : State) : Prop := (∀ C ∈ tb_aos, va_AO C s) ∧ am_St ad b0 ou s
theorem am_Sx_same {ad : Nat → Nat} {b0 : Nat} {ou : Nat → am_C} {u U : State} (hv : U.vm = u.vm) (hh : U.heap = u.heap) (h : am_Sx ad b0 ou u) : am_Sx ad b0 ou U := by
  have hA : u.vm.Alike U.vm := by rw [hv]; exact Vm.Alike.refl _
  obtain ⟨h1, ⟨L, xs, a1, a2, a3, a4⟩, h3, ⟨h4, h4'⟩, h5, ⟨h6, h7, h8⟩, h9⟩ := h
  refine ⟨fun C hC => va_AO.moved hA (h1 C hC), ⟨L, xs, a1, ?_, a3, by rw [hh]; exact a4⟩, vk_R.same hv h3, ⟨?_, h4'⟩, ?_, ⟨?_, ?_, h8⟩, ?_⟩
  · rw [hh]; exact va_X.moved hA a2
  · rw [hh]; exact vk_S.moved hA h4
  · rw [hh]; exact va_Z.moved hA h5
  · rw [hh]; exact va_Z.moved hA h6
  · rw [hh]; exact va_T.moved hA h7
  · rw [hh]
    rcases h9 with ⟨e, h9⟩ | ⟨e, h9⟩
    · exact Or.inl ⟨e, va_Z.moved hA h9⟩
    · exact Or.inr ⟨e, va_Z.moved hA h9⟩
theorem am_Sx_warm {ad : Nat → Nat} {b0 : Nat} {ou : Nat → am_C} {s U : State} {locs : List Loc} (hW : s.WarmedH U.vm) (hS : va_S (fun q => b0 ≤ q) s.heap U.heap locs) (h : am_Sx ad b0 ou s) : am_Sx ad b0 ou U := by
  obtain ⟨h1, ⟨L, xs, a1, a2, a3, a4⟩, h3, ⟨h4, h4'⟩, h5, ⟨h6, h7, h8⟩, h9⟩ := h
  refine ⟨fun C hC => va_AO.moved hW.alike (h1 C hC), ⟨L, xs, a1, ?_, a3, Nat.le_trans a4 hS.1⟩, vk_R.warm hW h3, ⟨(vk_S.moved hW.alike h4).kept hS.2.1, h4'⟩, (va_Z.moved hW.alike h5).kept hS.2.1, ⟨(va_Z.moved hW.alike h6).kept hS.2.1, (va_T.moved hW.alike h7).kept hS.2.1, h8⟩, ?_⟩
  · exact va_X.moved hW.alike (a2.kept (hS.2.1 (ad 0) (by omega) (by show ¬ b0 ≤ ad 0; omega)))
  · rcases h9 with ⟨e, h9⟩ | ⟨e, h9⟩
    · exact Or.inl ⟨e, (va_Z.moved hW.alike h9).kept hS.2.1⟩
    · exact Or.inr ⟨e, (va_Z.moved hW.alike h9).kept hS.2.1⟩
