/-! LINES OF PROCESSES: the class's linked lists are lists. -/
theorem gR_wR {s : ts} {f i a b : Nat} {x : Option Nat} : gR (wR s f i x) a b = if a = f ∧ b = i then x else gR s a b := rfl
theorem gR_wRs {s : ts} {f i : Nat} {x : Option Nat} : gR (wR s f i x) f i = x := if_pos ⟨rfl, rfl⟩
theorem gR_wRf {s : ts} {f i a b : Nat} {x : Option Nat} (h : ¬ a = f) : gR (wR s f i x) a b = gR s a b := if_neg (fun z => h z.1)
theorem gR_wRi {s : ts} {f i b : Nat} {x : Option Nat} (h : ¬ b = i) : gR (wR s f i x) f b = gR s f b := if_neg (fun z => h z.2)
theorem gI_wIi {s : ts} {f i b : Nat} {x : Int32} (h : ¬ b = i) : gI (wI s f i x) f b = gI s f b := if_neg (fun z => h z.2)
/-- who is behind whom -/
def ch (s : ts) : List Nat → Prop
  | [] => True
  | x :: r => gR s 509 x = r.head? ∧ ch s r
/-- a line's processes, in their order -/
def ln (s : ts) (l : Nat) (xs : List Nat) : Prop := gR s 600 l = xs.head? ∧ gI s 601 l = nI xs.length ∧ ch s xs ∧ xs.Nodup ∧ ∀ x ∈ xs, gR s 507 x = some l ∧ x < gM s
theorem ch_congr {s s1 : ts} : ∀ {xs : List Nat}, (∀ x ∈ xs, gR s1 509 x = gR s 509 x) → ch s xs → ch s1 xs
  | [], _, _ => trivial
  | x :: r, h, hc => ⟨(h x List.mem_cons_self).trans hc.1, ch_congr (fun y hy => h y (List.mem_cons_of_mem _ hy)) hc.2⟩
theorem ch_at {s : ts} {x : Nat} {B : List Nat} : ∀ {A : List Nat}, ch s (A ++ x :: B) → gR s 509 x = B.head? ∧ ch s B
  | [], h => h
  | _ :: r, h => ch_at (A := r) h.2
theorem ch_app {s : ts} {B : List Nat} : ∀ {A : List Nat}, ch s (A ++ B) → ch s B
  | [], h => h
  | _ :: r, h => ch_app (A := r) h.2
/-- two rows put together: the last of the first looks at the head of the second -/
theorem ch_mk {s : ts} {B : List Nat} (hB : ch s B) : ∀ {A : List Nat}, (∀ C a D, A = C ++ a :: D → gR s 509 a = (D ++ B).head?) → ch s (A ++ B)
  | [], _ => hB
  | x :: r, h => ⟨h [] x r rfl, ch_mk hB (fun C a D e => h (x :: C) a D (by rw [e]; rfl))⟩
theorem ch_get {s : ts} {A B C D : List Nat} {a : Nat} (h : ch s (A ++ B)) (e : A = C ++ a :: D) : gR s 509 a = (D ++ B).head? := by
  rw [e, List.append_assoc] at h
  exact (ch_at h).1
theorem ln_congr {s s1 : ts} {l : Nat} {xs : List Nat} (h0 : gR s1 600 l = gR s 600 l) (h1 : gI s1 601 l = gI s 601 l) (h2 : ∀ x ∈ xs, gR s1 509 x = gR s 509 x) (h3 : ∀ x ∈ xs, gR s1 507 x = gR s 507 x) (h4 : gM s ≤ gM s1) (h : ln s l xs) : ln s1 l xs :=
  ⟨h0.trans h.1, h1.trans h.2.1, ch_congr h2 h.2.2.1, h.2.2.2.1, fun x hx => ⟨(h3 x hx).trans (h.2.2.2.2 x hx).1, Nat.lt_of_lt_of_le (h.2.2.2.2 x hx).2 h4⟩⟩
-- the first one leaves
def tk (s : ts) (l x : Nat) (r : List Nat) : ts := wI (wR (wR (wR s 600 l r.head?) 509 x none) 507 x none) 601 l (nI r.length)
theorem takeFirst_ok {s : ts} {l x : Nat} {r : List Nat} (hl : l < 30) (h : ln s l (x :: r)) : cN_takeFirst l s = some (some x, tk s l x r) := by
  obtain ⟨h1, h2, h3, h4, h5⟩ := h
  have hx := (h5 x List.mem_cons_self).2
  unfold cN_takeFirst
  rw [if_pos hl, h1]
  dsimp only [List.head?_cons]
  rw [if_pos hx, h3.1]
  have e : ∀ o : Option Nat, gI (wR (wR (wR s 600 l o) 509 x none) 507 x none) 601 l - 1 = nI r.length := by
    intro o
    show gI s 601 l - 1 = _
    rw [h2]
    show nI (r.length + 1) - nI 1 = _
    rw [pk_sub (by omega)]
    rfl
  cases hr : r.head? with
  | none => dsimp only; rw [e none]; unfold tk; rw [hr]
  | some y => dsimp only; rw [e (some y)]; unfold tk; rw [hr]
theorem takeFirst_nil {s : ts} {l : Nat} (hl : l < 30) (h : ln s l []) : cN_takeFirst l s = some (none, s) := by
  unfold cN_takeFirst
  rw [if_pos hl, h.1]
  rfl
theorem ln_tk {s : ts} {l x : Nat} {r : List Nat} (h : ln s l (x :: r)) : ln (tk s l x r) l r := by
  obtain ⟨h1, h2, h3, h4, h5⟩ := h
  obtain ⟨n1, n2⟩ := List.nodup_cons.mp h4
  refine ⟨?_, gI_wIs, ch_congr ?_ h3.2, n2, ?_⟩
  · show gR (wR (wR (wR s 600 l r.head?) 509 x none) 507 x none) 600 l = _
    rw [gR_wRf (by decide), gR_wRf (by decide), gR_wRs]
  · intro y hy
    show gR (wR (wR (wR s 600 l r.head?) 509 x none) 507 x none) 509 y = _
    rw [gR_wRf (by decide), gR_wRi (fun e => n1 (e ▸ hy)), gR_wRf (by decide)]
  · intro y hy
    refine ⟨?_, (h5 y (List.mem_cons_of_mem _ hy)).2⟩
    show gR (wR (wR (wR s 600 l r.head?) 509 x none) 507 x none) 507 y = _
    rw [gR_wRi (fun e => n1 (e ▸ hy)), gR_wRf (by decide), gR_wRf (by decide)]
    exact (h5 y (List.mem_cons_of_mem _ hy)).1
theorem ln_tk_o {s : ts} {l l' x : Nat} {r ys : List Nat} (hne : l' ≠ l) (hx : x ∉ ys) (h : ln s l' ys) : ln (tk s l x r) l' ys := by
  refine ln_congr ?_ ?_ ?_ ?_ (Nat.le_refl _) h
  · show gR (wR (wR (wR s 600 l r.head?) 509 x none) 507 x none) 600 l' = _
    rw [gR_wRf (by decide), gR_wRf (by decide), gR_wRi hne]
  · show gI (wI _ 601 l _) 601 l' = _
    rw [gI_wIi hne]; rfl
  · intro y hy
    show gR (wR (wR (wR s 600 l r.head?) 509 x none) 507 x none) 509 y = _
    rw [gR_wRf (by decide), gR_wRi (fun e => hx (e ▸ hy)), gR_wRf (by decide)]
  · intro y hy
    show gR (wR (wR (wR s 600 l r.head?) 509 x none) 507 x none) 507 y = _
    rw [gR_wRi (fun e => hx (e ▸ hy)), gR_wRf (by decide), gR_wRf (by decide)]
-- one joins, behind all with the same or a lesser key
theorem join_b {kk : Nat → Nat → Int32 → Option Nat → Option Nat → ts → Option ts} {l p b : Nat} {k : Int32} {bf : Option Nat} {s : ts} (hb : b < gM s) : cN_join_8_b kk l p k bf (some b) s = if k < gI s 508 b then cN_join_35 l p k bf s else kk l p k (some b) (gR s 509 b) s := by
  unfold cN_join_8_b
  cases bf with
  | none =>
    dsimp only
    rw [if_pos hb]
    cases gR s 509 b <;> rfl
  | some a =>
    dsimp only
    rw [if_pos hb]
    cases gR s 509 b <;> rfl
theorem join_e {kk : Nat → Nat → Int32 → Option Nat → Option Nat → ts → Option ts} {l p : Nat} {k : Int32} {bf : Option Nat} {s : ts} : cN_join_8_b kk l p k bf none s = cN_join_35 l p k bf s := by
  unfold cN_join_8_b
  cases bf <;> rfl
def kle (s : ts) (k : Int32) (x : Nat) : Bool := decide (¬ k < gI s 508 x)
theorem join_lp {s : ts} {l p : Nat} {k : Int32} : ∀ (B A : List Nat) (F : Nat), ch s (A ++ B) → (∀ x ∈ A ++ B, x < gM s) → B.length < F → cN_join_8 F l p k A.getLast? B.head? s = cN_join_35 l p k (A ++ B.takeWhile (kle s k)).getLast? s := by
  intro B
  induction B with
  | nil =>
    intro A F hc hx hF
    obtain ⟨F, rfl⟩ : ∃ G, F = G + 1 := ⟨F - 1, by omega⟩
    rw [cN_join_8.eq_2]
    show cN_join_8_b _ l p k A.getLast? none s = _
    rw [join_e, List.takeWhile_nil, List.append_nil]
  | cons b B ih =>
    intro A F hc hx hF
    obtain ⟨F, rfl⟩ : ∃ G, F = G + 1 := ⟨F - 1, by omega⟩
    have hb : b < gM s := hx b (by simp)
    rw [cN_join_8.eq_2]
    show cN_join_8_b _ l p k A.getLast? (some b) s = _
    rw [join_b hb]
    by_cases hk : k < gI s 508 b
    · rw [if_pos hk, List.takeWhile_cons_of_neg (by simp [kle, hk]), List.append_nil]
    · rw [if_neg hk, List.takeWhile_cons_of_pos (by simp [kle, hk]), (ch_at hc).1]
      have e : A ++ b :: B = (A ++ [b]) ++ B := by simp
      have := ih (A ++ [b]) F (by rw [← e]; exact hc) (by rw [← e]; exact hx) (by simp at hF; omega)
      rw [List.getLast?_concat] at this
      rw [this]
      congr 1
      simp
/-- the line when p has joined between A and B -/
def jn (s : ts) (l p : Nat) (k : Int32) (A B : List Nat) : ts := wI (wR (wI (match A.getLast? with
  | none => wR (wR s 509 p B.head?) 600 l (some p)
  | some a => wR (wR s 509 p B.head?) 509 a (some p)) 508 p k) 507 p (some l)) 601 l (nI (A.length + B.length + 1))
theorem join_ok {s : ts} {l p : Nat} {k : Int32} {xs : List Nat} (hl : l < 30) (h : ln s l xs) (hp : p < gM s) (hn : xs.length ≤ 300) : cN_join l p k s = some (jn s l p k (xs.takeWhile (kle s k)) (xs.dropWhile (kle s k))) := by
  obtain ⟨h1, h2, h3, h4, h5⟩ := h
  have hx : ∀ x ∈ ([] : List Nat) ++ xs, x < gM s := fun x hx => (h5 x hx).2
  have e0 : cN_join l p k s = cN_join_8 tm_N l p k ([] : List Nat).getLast? xs.head? s := by
    unfold cN_join
    rw [if_pos hl, h1]
    cases xs.head? <;> rfl
  rw [e0, join_lp xs [] tm_N h3 hx (by unfold tm_N; omega)]
  generalize hA : xs.takeWhile (kle s k) = A
  generalize hB : xs.dropWhile (kle s k) = B
  have hAB : A ++ B = xs := by rw [← hA, ← hB]; exact List.takeWhile_append_dropWhile
  have hlen : A.length + B.length = xs.length := by rw [← hAB, List.length_append]
  have h68 : ∀ s1 : ts, gM s1 = gM s → gI s1 601 l = gI s 601 l → cN_join_68 l p k s1 = some (wI (wR (wI s1 508 p k) 507 p (some l)) 601 l (nI (A.length + B.length + 1))) := by
    intro s1 e1 e2
    unfold cN_join_68
    rw [e1, if_pos hp, if_pos hl]
    have e3 : gI (wR (wI s1 508 p k) 507 p (some l)) 601 l + 1 = nI (A.length + B.length + 1) := by
      show gI (wI s1 508 p k) 601 l + 1 = _
      rw [gI_wIn (by decide), e2, h2, hlen]
      exact (nI_succ _).symm
    rw [e3]
  rw [List.nil_append]
  unfold cN_join_35 jn
  cases hg : A.getLast? with
  | none =>
    have hA0 : A = [] := List.getLast?_eq_none_iff.mp hg
    have hx0 : xs.head? = B.head? := by rw [← hAB, hA0]; rfl
    dsimp only
    rw [if_pos hl, h1, hx0]
    cases hb : B.head? with
    | none => dsimp only; rw [if_pos hp, h68 _ rfl rfl]
    | some b => dsimp only; rw [if_pos hp, h68 _ rfl rfl]
  | some a =>
    dsimp only
    obtain ⟨C, hC⟩ : ∃ C, A = C ++ [a] := List.getLast?_eq_some_iff.mp hg
    have hb0 : gR s 509 a = B.head? := by
      have := ch_get (A := A) (B := B) (C := C) (D := []) (a := a) (by rw [hAB]; exact h3) (by rw [hC])
      simpa using this
    have ha : a < gM s := (h5 a (by rw [← hAB, hC]; simp)).2
    rw [if_pos ha, hb0]
    cases hb : B.head? with
    | none => dsimp only; rw [if_pos hp, h68 _ rfl rfl]
    | some b => dsimp only; rw [if_pos hp, h68 _ rfl rfl]
