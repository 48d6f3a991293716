/-! THE CONSTRUCTORS, first part: a run that never looks at the script does the same whatever the script is. -/
def in_I (f i : Nat) : Int32 := if f = 109 then -1 else if f = 801 then 1 else if f = 700 then (if 8 ≤ i then 1 else 0) else if f = 1104 then -1 else if f = 1158 then 1 else if f = 1159 then -2 else 0
def in_s0 : ts := (in_I, fun _ _ => 0, fun _ _ => none, fun _ _ => 0, fun _ _ => 0, fun _ _ => 0, fun _ _ => 0, 0, fun _ => .inr (0, []))
def in_p (r : Nat) : am_C := if r < 143 then .inr (0, []) else ts_p in_s0 r
def ov (c0 : am_C) (h : am_H) : am_H := (h.1, h.2.1, fun r => if r = 0 then c0 else h.2.2 r)
def ov_b (g : Nat → am_C) (h : am_H) : Prop := 5 ≤ h.1 ∧ h.2.2 0 = .inr (98, []) ∧ (∀ (r : Nat) (C : String) (n : Nat) (f : Nat → Option Nat), h.2.2 r = .inl (.object C, n, .inr (.inr (.inr (.inr f)))) → ∀ k, n ≤ k → f k = none) ∧ (∀ r, h.1 ≤ r → h.2.2 r = in_p r) ∧ ∀ r, r < 5 → r ≠ 0 → h.2.2 r = g r
section OV
variable {g : Nat → am_C} {c0 : am_C} {h h' : am_H} {r n : Nat} {x : am_C} {S S' : List Value}
theorem ov_at : am_at (ov c0 h) r = am_at h r := by
  unfold am_at ov
  dsimp only
  split
  · rename_i z
    have : (5 : Nat) ≤ r := z.1
    rw [if_neg (by omega)]
  · rfl
theorem ov_rd (hr : r ≠ 0) : am_rd (ov c0 h) r = am_rd h r := by
  unfold am_rd
  rw [ov_at]
  by_cases z : r = 0 ∨ r = 2 ∨ r = 3
  · rw [if_pos z, if_pos z]
    show some (if r = 0 then c0 else h.2.2 r) = _
    rw [if_neg hr]
  · rw [if_neg z, if_neg z]
theorem ov_up (hr : 5 ≤ r) : am_up (ov c0 h) r x = ov c0 (am_up h r x) := by
  refine Prod.ext rfl (Prod.ext rfl (funext fun q => ?_))
  show (if q = r then x else if q = 0 then c0 else h.2.2 q) = if q = 0 then c0 else if q = r then x else h.2.2 q
  by_cases e : q = r
  · rw [if_pos e, if_neg (by omega), if_pos e]
  · rw [if_neg e, if_neg e]
theorem ov_push (hb : 5 ≤ h.1) : am_push (ov c0 h) x n = ov c0 (am_push h x n) := by
  refine Prod.ext rfl (Prod.ext rfl (funext fun q => ?_))
  show (if q = h.1 then x else if q = 0 then c0 else h.2.2 q) = if q = 0 then c0 else if q = h.1 then x else h.2.2 q
  by_cases e : q = h.1
  · rw [if_pos e, if_neg (by omega), if_pos e]
  · rw [if_neg e, if_neg e]
/-- what may be laid down: no row of references with something behind its end -/
def ov_c (x : am_C) : Prop := ∀ (C : String) (n : Nat) (f : Nat → Option Nat), x = .inl (.object C, n, .inr (.inr (.inr (.inr f)))) → ∀ k, n ≤ k → f k = none
theorem ov_b_up {c : am_C} (hb : ov_b g h) (hr : am_at h r = some c) (hx : ov_c x) : ov_b g (am_up h r x) := by
  obtain ⟨a, b, e⟩ := am_at_inv hr
  have a : (5 : Nat) ≤ r := a
  refine ⟨hb.1, ?_, ?_, ?_, ?_⟩
  · show (if 0 = r then x else h.2.2 0) = _
    rw [if_neg (by omega)]; exact hb.2.1
  · intro q C n f hq
    have hq : (if q = r then x else h.2.2 q) = _ := hq
    by_cases z : q = r
    · rw [if_pos z] at hq; exact hx C n f hq
    · rw [if_neg z] at hq; exact hb.2.2.1 q C n f hq
  · intro q hq
    show (if q = r then x else h.2.2 q) = _
    have hq : h.1 ≤ q := hq
    rw [if_neg (by omega)]
    exact hb.2.2.2.1 q hq
  · intro q hq hq0
    show (if q = r then x else h.2.2 q) = _
    rw [if_neg (by omega)]
    exact hb.2.2.2.2 q hq hq0
theorem ov_b_push (hb : ov_b g h) (hx : ov_c x) : ov_b g (am_push h x n) := by
  have h1 := hb.1
  refine ⟨by show 5 ≤ h.1 + 1; omega, ?_, ?_, ?_, ?_⟩
  · show (if 0 = h.1 then x else h.2.2 0) = _
    rw [if_neg (by omega)]; exact hb.2.1
  · intro q C n f hq
    have hq : (if q = h.1 then x else h.2.2 q) = _ := hq
    by_cases z : q = h.1
    · rw [if_pos z] at hq; exact hx C n f hq
    · rw [if_neg z] at hq; exact hb.2.2.1 q C n f hq
  · intro q hq
    have hq : h.1 + 1 ≤ q := hq
    show (if q = h.1 then x else h.2.2 q) = _
    rw [if_neg (by omega)]
    exact hb.2.2.2.1 q (by omega)
  · intro q hq hq0
    show (if q = h.1 then x else h.2.2 q) = _
    rw [if_neg (by omega)]
    exact hb.2.2.2.2 q hq hq0
theorem ov_hp {ini : Bool} {o : Nat} {i : Instr} (hb : ov_b g h) (z : am_hp ini o i S h = some (S', h')) : am_hp ini o i S (ov c0 h) = some (S', ov c0 h') ∧ ov_b g h' := by
  cases i <;> simp only [am_hp, reduceCtorEq] at z ⊢
  case getfield k =>
    unfold am_getf at z ⊢
    split at z
    · try dsimp only
      split at z
      · rename_i e
        try rw [if_pos e]
        split at z
        · rename_i v hv
          cases z
          try rw [hv]
          exact ⟨rfl, hb⟩
        · cases z
      · rename_i e
        try rw [if_neg e, ov_at]
        split at z
        · rename_i e1 e2
          try rw [e1, e2]
          try dsimp only
          split at z
          · rename_i e3
            try rw [if_pos e3]
            split at z
            · rename_i v hv
              cases z
              try rw [hv]
              exact ⟨rfl, hb⟩
            · cases z
          · cases z
        · cases z
    · cases z
  case putfield k =>
    unfold am_putf at z ⊢
    split at z
    · try dsimp only
      try rw [ov_at]
      split at z
      · rename_i e1 e2
        try rw [e1, e2]
        try dsimp only
        split at z
        · rename_i e3
          cases z
          try rw [if_pos e3, ov_up (am_at_inv e2).1]
          exact ⟨rfl, ov_b_up hb e2 (fun C n f q => by cases q)⟩
        · cases z
      · cases z
    · cases z
  case getstatic k =>
    unfold am_gets at z ⊢
    split at z
    · rename_i e
      cases z
      try rw [e]
      exact ⟨rfl, hb⟩
    · rename_i e
      try rw [e]
      try dsimp only
      show (match (if (4 : Nat) = 0 then c0 else h.2.2 4) with | .inr (0, _) => _ | .inr (1, _) => _ | _ => _) = _ ∧ _
      try rw [if_neg (by decide)]
      split at z
      · rename_i e2
        cases z
        try rw [e2]
        exact ⟨rfl, hb⟩
      · rename_i e2
        cases z
        try rw [e2]
        exact ⟨rfl, hb⟩
      · cases z
    · rename_i e
      cases z
      try rw [e]
      exact ⟨rfl, hb⟩
    · cases z
  case iaload =>
    unfold am_iald at z ⊢
    split at z
    · rename_i j r q
      try dsimp only
      have hr : r ≠ 0 := by
        intro e
        subst e
        unfold am_rd at z
        try rw [if_pos (Or.inl rfl), hb.2.1] at z
        cases z
      try rw [ov_rd hr]
      split at z
      · rename_i e1
        try rw [e1]
        try dsimp only
        split at z
        · rename_i e2
          cases z
          try rw [if_pos e2]
          exact ⟨rfl, hb⟩
        · cases z
      · cases z
    · cases z
  case baload =>
    unfold am_bald at z ⊢
    split at z
    · rename_i j r q
      try dsimp only
      have hr : r ≠ 0 := by
        intro e
        subst e
        unfold am_rd at z
        try rw [if_pos (Or.inl rfl), hb.2.1] at z
        cases z
      try rw [ov_rd hr]
      split at z
      · rename_i e1
        try rw [e1]
        try dsimp only
        split at z
        · rename_i e2
          cases z
          try rw [if_pos e2]
          exact ⟨rfl, hb⟩
        · cases z
      · rename_i e1
        try rw [e1]
        try dsimp only
        split at z
        · rename_i e2
          cases z
          try rw [if_pos e2]
          exact ⟨rfl, hb⟩
        · cases z
      · cases z
    · cases z
  case caload =>
    unfold am_cald at z ⊢
    split at z
    · try dsimp only
      split at z
      · rename_i e0
        try rw [if_pos e0]
        show (match (if (3 : Nat) = 0 then c0 else h.2.2 3) with | .inl (.char, n, .inl f) => _ | _ => _) = _ ∧ _
        try rw [if_neg (by decide)]
        split at z
        · rename_i e1
          try rw [e1]
          try dsimp only
          split at z
          · rename_i e2
            cases z
            try rw [if_pos e2]
            exact ⟨rfl, hb⟩
          · cases z
        · cases z
      · cases z
    · cases z
  case laload =>
    unfold am_lald at z ⊢
    split at z
    · try dsimp only
      try rw [ov_at]
      split at z
      · rename_i e1
        try rw [e1]
        try dsimp only
        split at z
        · rename_i e2
          cases z
          try rw [if_pos e2]
          exact ⟨rfl, hb⟩
        · cases z
      · cases z
    · cases z
  case aaload =>
    unfold am_aald at z ⊢
    split at z
    · try dsimp only
      try rw [ov_at]
      split at z
      · rename_i e1
        try rw [e1]
        try dsimp only
        split at z
        · rename_i e2
          cases z
          try rw [if_pos e2]
          exact ⟨rfl, hb⟩
        · cases z
      · cases z
    · cases z
  case arraylength =>
    unfold am_alen at z ⊢
    split at z
    · rename_i r q
      try dsimp only
      have hr : r ≠ 0 := by
        intro e
        subst e
        unfold am_rd at z
        try rw [if_pos (Or.inl rfl), hb.2.1] at z
        cases z
      try rw [ov_rd hr]
      split at z
      · rename_i e1
        try rw [e1]
        try dsimp only
        split at z
        · rename_i e2
          cases z
          try rw [if_pos e2]
          exact ⟨rfl, hb⟩
        · cases z
      · cases z
    · cases z
  case iastore =>
    unfold am_iast at z ⊢
    split at z
    · try dsimp only
      try rw [ov_at]
      split at z
      · rename_i e1
        try rw [e1]
        try dsimp only
        split at z
        · rename_i e2
          cases z
          try rw [if_pos e2, ov_up (am_at_inv e1).1]
          exact ⟨rfl, ov_b_up hb e1 (fun C n f q => by cases q)⟩
        · cases z
      · cases z
    · cases z
  case bastore =>
    unfold am_bast at z ⊢
    split at z
    · try dsimp only
      try rw [ov_at]
      split at z
      · rename_i e1
        try rw [e1]
        try dsimp only
        split at z
        · rename_i e2
          cases z
          try rw [if_pos e2, ov_up (am_at_inv e1).1]
          exact ⟨rfl, ov_b_up hb e1 (fun C n f q => by cases q)⟩
        · cases z
      · rename_i e1
        try rw [e1]
        try dsimp only
        split at z
        · rename_i e2
          cases z
          try rw [if_pos e2, ov_up (am_at_inv e1).1]
          exact ⟨rfl, ov_b_up hb e1 (fun C n f q => by cases q)⟩
        · cases z
      · cases z
    · cases z
  case lastore =>
    unfold am_last at z ⊢
    split at z
    · try dsimp only
      try rw [ov_at]
      split at z
      · rename_i e1
        try rw [e1]
        try dsimp only
        split at z
        · rename_i e2
          cases z
          try rw [if_pos e2, ov_up (am_at_inv e1).1]
          exact ⟨rfl, ov_b_up hb e1 (fun C n f q => by cases q)⟩
        · cases z
      · cases z
    · cases z
  case aastore =>
    unfold am_aast at z ⊢
    split at z
    · rename_i v j r q
      try dsimp only
      have em : ∀ C, am_may C (ov c0 h) v = am_may C h v := by
        intro C
        unfold am_may
        split
        · rfl
        · try rw [ov_at]
        · rfl
      try rw [ov_at]
      split at z
      · rename_i C n f e1
        try rw [e1]
        try dsimp only
        try rw [em]
        split at z
        · rename_i y e3
          try rw [e3]
          try dsimp only
          split at z
          · rename_i e2
            cases z
            try rw [if_pos e2, ov_up (am_at_inv e1).1]
            refine ⟨rfl, ov_b_up hb e1 ?_⟩
            intro C' n' f' q' k hk
            cases q'
            have h3 := hb.2.2.1 r _ _ _ (am_at_inv e1).2.2 k hk
            have h4 : j.toNatClampNeg < n := by
              have := of_decide_eq_true e2.1
              exact Nat.not_le.mp (fun w => this (Or.inr w))
            unfold va_up
            try rw [if_neg (by omega)]
            exact h3
          · cases z
        · cases z
      · cases z
    · cases z
  case newarray t =>
    unfold am_newa at z ⊢
    split at z
    · try dsimp only
      split at z
      · rename_i y e1
        try rw [e1]
        try dsimp only
        split at z
        · rename_i e2
          cases z
          try rw [if_pos e2, ov_push hb.1]
          refine ⟨rfl, ov_b_push hb ?_⟩
          intro C n f q
          cases t <;> simp only [am_zero, reduceCtorEq, Option.some.injEq] at e1 <;> (rw [← e1] at q; cases q)
        · cases z
      · cases z
    · cases z
  case anewarray k =>
    unfold am_newq at z ⊢
    split at z
    · try dsimp only
      split at z
      · rename_i C e1
        try rw [e1]
        try dsimp only
        split at z
        · rename_i e2
          cases z
          try rw [if_pos e2, ov_push hb.1]
          refine ⟨rfl, ov_b_push hb ?_⟩
          intro C' n' f' q' k hk
          cases q'
          rfl
        · cases z
      · cases z
    · cases z
  case new k =>
    unfold am_new at z ⊢
    split at z
    · rename_i ci e1
      try rw [e1]
      try dsimp only
      split at z
      · rename_i q e2
        cases z
        try rw [e2]
        try dsimp only
        try rw [ov_push hb.1]
        exact ⟨rfl, ov_b_push hb (fun C n f q => by cases q)⟩
      · cases z
    · cases z
  case ldc k =>
    unfold am_ldc at z ⊢
    split at z
    · rename_i e1
      cases z
      try rw [e1]
      exact ⟨rfl, hb⟩
    · rename_i e1
      cases z
      try rw [e1]
      exact ⟨rfl, hb⟩
    · cases z
  case ldc_w k =>
    unfold am_ldcw at z ⊢
    split at z
    · rename_i e1
      cases z
      try rw [e1]
      exact ⟨rfl, hb⟩
    · cases z
  case ldc2_w k =>
    unfold am_ldc2 at z ⊢
    split at z
    · rename_i e1
      cases z
      try rw [e1]
      exact ⟨rfl, hb⟩
    · cases z
theorem am_hp_none {ini : Bool} {o : Nat} {i : Instr} (z : am_ish i = false) : am_hp ini o i S h = none := by
  cases i <;> first | rfl | (simp only [am_ish, Bool.true_eq_false] at z)
theorem ov_step {d mi : Nat} {f f' : am_F} (hb : ov_b g h) (z : am_step d mi f h = some (f', h')) : am_step d mi f (ov c0 h) = some (f', ov c0 h') ∧ ov_b g h' := by
  unfold am_step at z ⊢
  split at z
  · rename_i M i hM hi
    try rw [hM, hi]
    try dsimp only
    split at z
    · rename_i S1 h2
      cases z
      try rw [h2]
      exact ⟨rfl, hb⟩
    · rename_i h2
      try rw [h2]
      try dsimp only
      split at z
      · rename_i q h3
        cases z
        try rw [h3]
        exact ⟨rfl, hb⟩
      · rename_i h3
        try rw [h3]
        try dsimp only
        split at z
        · rename_i q h4
          cases z
          try rw [h4]
          exact ⟨rfl, hb⟩
        · rename_i h4
          try rw [h4]
          try dsimp only
          split at z
          · rename_i q h5
            obtain ⟨q1, q2⟩ := q
            cases z
            obtain ⟨a, b⟩ := ov_hp (c0 := c0) hb h5
            try rw [a]
            exact ⟨rfl, b⟩
          · split at z
            · rename_i S1 h6
              cases z
              have e : am_hp (M.2.1.name == "<init>") M.1 i f.2.2 (ov c0 h) = none := am_hp_none (by
                unfold am_pcl am_cix at h6
                cases i <;> first | rfl | (simp only [reduceCtorEq] at h6))
              try rw [e]
              try dsimp only
              try rw [h6]
              exact ⟨rfl, hb⟩
            · cases z
  · cases z
theorem ov_none {d mi : Nat} {f : am_F} (z : am_step d mi f h = none) (hq : (∃ v, am_ends mi f = some v) ∨ (∃ v, am_call mi f h = some v)) : am_step d mi f (ov c0 h) = none := by
  unfold am_step at z ⊢
  cases hM : tb_m mi with
  | none => rfl
  | some M =>
    cases hi : tb_ins mi f.1 with
    | none => rfl
    | some i =>
      rw [hM, hi] at z
      dsimp only at z ⊢
      have hhp : ∀ h9 : am_H, am_hp (M.2.1.name == "<init>") M.1 i f.2.2 h9 = none := by
        intro h9
        rcases hq with ⟨v, hv⟩ | ⟨v, hv⟩
        · unfold am_ends at hv
          rw [hM, hi] at hv
          exact (am_ret_no (L := f.2.1) (h := h9) (pc := f.1) (d := d) (n := M.2.2.2.2.1) (ini := (M.2.1.name == "<init>")) (o := M.1) hv).2.2.2.1
        · unfold am_call at hv
          rw [hM, hi] at hv
          dsimp only at hv
          split at hv
          · rename_i sk k hx
            exact (am_cix_no (L := f.2.1) (h := h9) (pc := f.1) (n := M.2.2.2.2.1) (ini := (M.2.1.name == "<init>")) (o := M.1) hx).2.2.2
          · cases hv
      rw [hhp h] at z
      rw [hhp (ov c0 h)]
      cases ha : am_alu i f.2.2 with
      | some S1 => rw [ha] at z; cases z
      | none =>
        rw [ha] at z
        dsimp only at z ⊢
        cases hl : am_loc M.2.2.2.2.1 i f.2.1 f.2.2 with
        | some q => rw [hl] at z; cases z
        | none =>
          rw [hl] at z
          dsimp only at z ⊢
          cases hj : am_jmp f.1 i f.2.2 with
          | some q => rw [hj] at z; cases z
          | none =>
            rw [hj] at z
            dsimp only at z ⊢
            cases hp : am_pcl d M.1 i f.2.2 with
            | some q => rw [hp] at z; cases z
            | none => rfl
theorem ov_call {mi : Nat} {f : am_F} {w : Nat × List Value × List Value} (z : am_call mi f h = some w) : am_call mi f (ov c0 h) = some w := by
  have e : ∀ kd ci A, am_rcv kd ci (ov c0 h) A = am_rcv kd ci h A := by
    intro kd ci A
    unfold am_rcv
    split
    · split
      · try rw [ov_at]
      · rfl
    · rfl
  unfold am_call at z ⊢
  split at z
  · rename_i hM hi
    try rw [hM, hi]
    try dsimp only
    split at z
    · rename_i hx
      try rw [hx]
      try dsimp only
      split at z
      · rename_i hc
        try rw [hc]
        try dsimp only
        split at z
        · rename_i hm2
          try rw [hm2]
          try dsimp only
          split at z
          · rename_i ha
            try rw [ha]
            try dsimp only
            try rw [e]
            exact z
          · cases z
        · cases z
      · cases z
    · cases z
  · cases z
end OV
theorem ov_run {g : Nat → am_C} {c0 : am_C} : ∀ (n d mi : Nat) (f : am_F) (h h' : am_H) (v : Option Value), ov_b g h → am_run n d mi f h = some (v, h') → am_run n d mi f (ov c0 h) = some (v, ov c0 h') ∧ ov_b g h' := by
  intro n
  induction n with
  | zero => intro d mi f h h' v _ z; cases z
  | succ n ih =>
    intro d mi f h h' v hb z
    unfold am_run at z ⊢
    split at z
    · rename_i q hq
      obtain ⟨q1, q2⟩ := q
      obtain ⟨a, b⟩ := ov_step (c0 := c0) hb hq
      try rw [a]
      exact ih _ _ _ _ _ _ b z
    · rename_i hq
      split at z
      · rename_i w hw
        cases z
        try rw [ov_none hq (Or.inl ⟨_, hw⟩)]
        try dsimp only
        try rw [hw]
        exact ⟨rfl, hb⟩
      · rename_i hw
        split at z
        · rename_i e' mj A q hc
          try rw [ov_none hq (Or.inr ⟨_, hc⟩)]
          try dsimp only
          try rw [hw]
          try dsimp only
          try rw [ov_call hc]
          try dsimp only
          split at z
          · rename_i w h1 h2
            obtain ⟨a, b⟩ := ih _ _ _ _ _ _ hb h2
            try rw [a]
            exact ih _ _ _ _ _ _ b z
          · cases z
        · cases z
/-- more depth does no harm -/
theorem am_step_deep {d k mi : Nat} {f : am_F} {h : am_H} {q : am_F × am_H} (z : am_step d mi f h = some q) : am_step (d + k) mi f h = some q := by
  unfold am_step at z ⊢
  split at z
  · rename_i M i hM hi
    try rw [hM, hi]
    try dsimp only
    split at z
    · rename_i S1 h2
      try rw [h2]
      exact z
    · rename_i h2
      try rw [h2]
      try dsimp only
      split at z
      · rename_i w h3
        try rw [h3]
        exact z
      · rename_i h3
        try rw [h3]
        try dsimp only
        split at z
        · rename_i w h4
          try rw [h4]
          exact z
        · rename_i h4
          try rw [h4]
          try dsimp only
          split at z
          · rename_i w h5
            try rw [h5]
            exact z
          · rename_i h5
            try rw [h5]
            try dsimp only
            split at z
            · rename_i S1 h6
              have e : am_pcl (d + k) M.1 i f.2.2 = some S1 := by
                unfold am_pcl at h6 ⊢
                split at h6
                · rename_i e1
                  try rw [e1]
                  try dsimp only
                  split at h6
                  · rename_i e2
                    try rw [e2]
                    try dsimp only
                    split at h6
                    · rename_i e3
                      try rw [e3]
                      try dsimp only
                      split at h6
                      · rename_i e4
                        try rw [if_pos ⟨e4.1, by omega, e4.2.2⟩]
                        exact h6
                      · cases h6
                    · cases h6
                  · cases h6
                · cases h6
              try rw [e]
              exact z
            · cases z
  · cases z
theorem am_step_shal {d k mi : Nat} {f : am_F} {h : am_H} (z : am_step d mi f h = none) (hq : (∃ v, am_ends mi f = some v) ∨ (∃ v, am_call mi f h = some v)) : am_step (d + k) mi f h = none := by
  unfold am_step at z ⊢
  cases hM : tb_m mi with
  | none => rfl
  | some M =>
    cases hi : tb_ins mi f.1 with
    | none => rfl
    | some i =>
      rw [hM, hi] at z
      dsimp only at z ⊢
      have hp : ∀ d9, am_pcl d9 M.1 i f.2.2 = none := by
        intro d9
        rcases hq with ⟨v, hv⟩ | ⟨v, hv⟩
        · unfold am_ends at hv
          rw [hM, hi] at hv
          exact (am_ret_no (L := f.2.1) (h := h) (pc := f.1) (d := d9) (n := M.2.2.2.2.1) (ini := (M.2.1.name == "<init>")) (o := M.1) hv).2.2.2.2
        · unfold am_call at hv
          rw [hM, hi] at hv
          dsimp only at hv
          unfold am_pcl
          split at hv
          · rename_i sk k hx
            try rw [hx]
            try dsimp only
            split at hv
            · rename_i mj kd ci hc
              try rw [hc]
              try dsimp only
              split at hv
              · split at hv
                · split at hv
                  · rename_i hk
                    have e9 : am_prm kd f.2.2 = none := by
                      have h6 := hk.1
                      unfold am_prm
                      split
                      · omega
                      · omega
                      · omega
                      · rfl
                    rw [e9]
                  · cases hv
                · cases hv
              · cases hv
            · cases hv
          · cases hv
      rw [hp] at z ⊢
      exact z
theorem am_run_deep {k : Nat} : ∀ (n d mi : Nat) (f : am_F) (h : am_H) (r : Option Value × am_H), am_run n d mi f h = some r → am_run n (d + k) mi f h = some r := by
  intro n
  induction n with
  | zero => intro d mi f h r z; cases z
  | succ n ih =>
    intro d mi f h r z
    unfold am_run at z ⊢
    split at z
    · rename_i q hq
      try rw [am_step_deep hq]
      exact ih _ _ _ _ _ z
    · rename_i hq
      split at z
      · rename_i v hv
        try rw [am_step_shal hq (Or.inl ⟨_, hv⟩)]
        try dsimp only
        try rw [hv]
        exact z
      · rename_i hv
        split at z
        · rename_i e' mj A q hc
          try rw [am_step_shal hq (Or.inr ⟨_, hc⟩)]
          try dsimp only
          try rw [hv]
          try dsimp only
          try rw [hc]
          try rw [show e' + 1 + k = (e' + k) + 1 by omega]
          try dsimp only
          split at z
          · rename_i v h1 h2
            try rw [ih _ _ _ _ _ h2]
            try dsimp only
            have := ih _ _ _ _ _ z
            try rw [show e' + 1 + k = (e' + k) + 1 by omega] at this
            exact this
          · cases z
        · cases z
