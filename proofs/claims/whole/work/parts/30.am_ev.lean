/-! RUNS: it ends, and what holds then. -/
theorem am_run_more : ∀ (n d mi : Nat) (f : am_F) (h : am_H) (r : Option Value × am_H), am_run n d mi f h = some r → ∀ k : Nat, am_run (n + k) d mi f h = some r := by
  intro n
  induction n with
  | zero => intro d mi f h r z; cases z
  | succ n ih =>
    intro d mi f h r z k
    rw [show n + 1 + k = (n + k) + 1 by omega]
    unfold am_run at z ⊢
    split at z
    · rename_i q hq
      try rw [hq]
      exact ih _ _ _ _ _ z k
    · rename_i hq
      try rw [hq]
      try dsimp only
      split at z
      · rename_i v hv
        try rw [hv]
        exact z
      · rename_i hv
        try rw [hv]
        try dsimp only
        split at z
        · rename_i e mj A q hc
          try rw [hc]
          try dsimp only
          split at z
          · rename_i v h1 h2
            rw [ih _ _ _ _ _ h2 k]
            exact ih _ _ _ _ _ z k
          · cases z
        · cases z
def am_Ev (d mi : Nat) (f : am_F) (h : am_H) (Q : Option Value → am_H → Prop) : Prop := ∃ (n : Nat) (v : Option Value) (h' : am_H), am_run n d mi f h = some (v, h') ∧ Q v h'
theorem am_Ev.step {d mi : Nat} {f f' : am_F} {h h' : am_H} {Q : Option Value → am_H → Prop} (hs : am_step d mi f h = some (f', h')) (k : am_Ev d mi f' h' Q) : am_Ev d mi f h Q := by
  obtain ⟨n, v, h2, hr, hq⟩ := k
  exact ⟨n + 1, v, h2, by unfold am_run; rw [hs]; exact hr, hq⟩
theorem am_Ev.ret {d mi : Nat} {f : am_F} {h : am_H} {v : Option Value} {Q : Option Value → am_H → Prop} (hs : am_step d mi f h = none) (he : am_ends mi f = some v) (hq : Q v h) : am_Ev d mi f h Q :=
  ⟨1, v, h, by unfold am_run; rw [hs]; dsimp only; rw [he], hq⟩
theorem am_Ev.call {d mi mj : Nat} {f : am_F} {h : am_H} {A q : List Value} {Q : Option Value → am_H → Prop} (hs : am_step (d + 1) mi f h = none) (he : am_ends mi f = none) (hc : am_call mi f h = some (mj, A, q)) (k : am_Ev d mj (0, lv_args 0 A, []) h (fun v h1 => am_Ev (d + 1) mi (f.1 + 3, f.2.1, v.toList ++ q) h1 Q)) : am_Ev (d + 1) mi f h Q := by
  obtain ⟨n, v, h1, hr, n2, v2, h2, hr2, hq⟩ := k
  refine ⟨n + n2 + 1, v2, h2, ?_, hq⟩
  unfold am_run
  rw [hs]
  dsimp only
  rw [he]
  dsimp only
  rw [hc]
  dsimp only
  rw [am_run_more _ _ _ _ _ _ hr n2]
  dsimp only
  rw [Nat.add_comm n n2]
  exact am_run_more _ _ _ _ _ _ hr2 n
theorem am_Ev.weak {d mi : Nat} {f : am_F} {h : am_H} {Q Q' : Option Value → am_H → Prop} (k : am_Ev d mi f h Q) (hq : ∀ v h', Q v h' → Q' v h') : am_Ev d mi f h Q' := by
  obtain ⟨n, v, h2, hr, z⟩ := k
  exact ⟨n, v, h2, hr, hq _ _ z⟩
/-- some instructions in a row -/
def am_steps : Nat → Nat → Nat → am_F → am_H → Option (am_F × am_H)
  | 0, _, _, f, h => some (f, h)
  | n + 1, d, mi, f, h => match am_step d mi f h with
    | some q => am_steps n d mi q.1 q.2
    | none => none
theorem am_Ev.steps {n d mi : Nat} {f f' : am_F} {h h' : am_H} {Q : Option Value → am_H → Prop} (hs : am_steps n d mi f h = some (f', h')) (k : am_Ev d mi f' h' Q) : am_Ev d mi f h Q := by
  induction n generalizing f h with
  | zero => cases hs; exact k
  | succ n ih =>
    unfold am_steps at hs
    split at hs
    · rename_i q hq
      exact am_Ev.step (f' := q.1) (h' := q.2) hq (ih hs)
    · cases hs
