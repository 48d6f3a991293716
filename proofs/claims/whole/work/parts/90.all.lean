/-! WHAT IS STILL OWED. -/
theorem lw_all (L : Nat) (xs : Nat → Int32) (hL : L ≤ 3072) : lw_Ev L xs := by
  sorry
