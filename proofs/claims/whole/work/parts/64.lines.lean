/-! LINES OF PROCESSES: the class's linked lists are lists. -/
theorem gR_wR {s : ts} {f i a b : Nat} {x : Option Nat} : gR (wR s f i x) a b = if a = f ∧ b = i then x else gR s a b := rfl
theorem gR_wRs {s : ts} {f i : Nat} {x : Option Nat} : gR (wR s f i x) f i = x := if_pos ⟨rfl, rfl⟩
theorem gR_wRf {s : ts} {f i a b : Nat} {x : Option Nat} (h : ¬ a = f) : gR (wR s f i x) a b = gR s a b := if_neg (fun z => h z.1)
theorem gR_wRi {s : ts} {f i b : Nat} {x : Option Nat} (h : ¬ b = i) : gR (wR s f i x) f b = gR s f b := if_neg (fun z => h z.2)
theorem gI_wIi {s : ts} {f i b : Nat} {x : Int32} (h : ¬ b = i) : gI (wI s f i x) f b = gI s f b := if_neg (fun z => h z.2)
/-- who is behind whom -/
def ch (s : ts) : List Nat → Prop
  | [] => True
  | x :: r => gR s 509 x = r.head? ∧ ch s r
/-- a line's processes, in their order -/
def ln (s : ts) (l : Nat) (xs : List Nat) : Prop := gR s 600 l = xs.head? ∧ gI s 601 l = nI xs.length ∧ ch s xs ∧ xs.Nodup ∧ ∀ x ∈ xs, gR s 507 x = some l ∧ x < gM s
theorem ch_congr {s s1 : ts} : ∀ {xs : List Nat}, (∀ x ∈ xs, gR s1 509 x = gR s 509 x) → ch s xs → ch s1 xs
  | [], _, _ => trivial
  | x :: r, h, hc => ⟨(h x List.mem_cons_self).trans hc.1, ch_congr (fun y hy => h y (List.mem_cons_of_mem _ hy)) hc.2⟩
theorem ch_at {s : ts} {x : Nat} {B : List Nat} : ∀ {A : List Nat}, ch s (A ++ x :: B) → gR s 509 x = B.head? ∧ ch s B
  | [], h => h
  | _ :: r, h => ch_at (A := r) h.2
theorem ch_app {s : ts} {B : List Nat} : ∀ {A : List Nat}, ch s (A ++ B) → ch s B
  | [], h => h
  | _ :: r, h => ch_app (A := r) h.2
/-- two rows put together: the last of the first looks at the head of the second -/
theorem ch_mk {s : ts} {B : List Nat} (hB : ch s B) : ∀ {A : List Nat}, (∀ C a D, A = C ++ a :: D → gR s 509 a = (D ++ B).head?) → ch s (A ++ B)
  | [], _ => hB
  | x :: r, h => ⟨h [] x r rfl, ch_mk hB (fun C a D e => h (x :: C) a D (by rw [e]; rfl))⟩
theorem ch_get {s : ts} {A B C D : List Nat} {a : Nat} (h : ch s (A ++ B)) (e : A = C ++ a :: D) : gR s 509 a = (D ++ B).head? := by
  rw [e, List.append_assoc] at h
  exact (ch_at h).1
theorem ln_congr {s s1 : ts} {l : Nat} {xs : List Nat} (h0 : gR s1 600 l = gR s 600 l) (h1 : gI s1 601 l = gI s 601 l) (h2 : ∀ x ∈ xs, gR s1 509 x = gR s 509 x) (h3 : ∀ x ∈ xs, gR s1 507 x = gR s 507 x) (h4 : gM s ≤ gM s1) (h : ln s l xs) : ln s1 l xs :=
  ⟨h0.trans h.1, h1.trans h.2.1, ch_congr h2 h.2.2.1, h.2.2.2.1, fun x hx => ⟨(h3 x hx).trans (h.2.2.2.2 x hx).1, Nat.lt_of_lt_of_le (h.2.2.2.2 x hx).2 h4⟩⟩
-- the first one leaves
def tk (s : ts) (l x : Nat) (r : List Nat) : ts := wI (wR (wR (wR s 600 l r.head?) 509 x none) 507 x none) 601 l (nI r.length)
theorem takeFirst_ok {s : ts} {l x : Nat} {r : List Nat} (hl : l < 30) (h : ln s l (x :: r)) : cN_takeFirst l s = some (some x, tk s l x r) := by
  obtain ⟨h1, h2, h3, h4, h5⟩ := h
  have hx := (h5 x List.mem_cons_self).2
  unfold cN_takeFirst
  rw [if_pos hl, h1]
  dsimp only [List.head?_cons]
  rw [if_pos hx, h3.1]
  have e : ∀ o : Option Nat, gI (wR (wR (wR s 600 l o) 509 x none) 507 x none) 601 l - 1 = nI r.length := by
    intro o
    show gI s 601 l - 1 = _
    rw [h2]
    show nI (r.length + 1) - nI 1 = _
    rw [pk_sub (by omega)]
    rfl
  cases hr : r.head? with
  | none => dsimp only; rw [e none]; unfold tk; rw [hr]
  | some y => dsimp only; rw [e (some y)]; unfold tk; rw [hr]
theorem takeFirst_nil {s : ts} {l : Nat} (hl : l < 30) (h : ln s l []) : cN_takeFirst l s = some (none, s) := by
  unfold cN_takeFirst
  rw [if_pos hl, h.1]
  rfl
theorem ln_tk {s : ts} {l x : Nat} {r : List Nat} (h : ln s l (x :: r)) : ln (tk s l x r) l r := by
  obtain ⟨h1, h2, h3, h4, h5⟩ := h
  obtain ⟨n1, n2⟩ := List.nodup_cons.mp h4
  refine ⟨?_, gI_wIs, ch_congr ?_ h3.2, n2, ?_⟩
  · show gR (wR (wR (wR s 600 l r.head?) 509 x none) 507 x none) 600 l = _
    rw [gR_wRf (by decide), gR_wRf (by decide), gR_wRs]
  · intro y hy
    show gR (wR (wR (wR s 600 l r.head?) 509 x none) 507 x none) 509 y = _
    rw [gR_wRf (by decide), gR_wRi (show ¬ y = x from fun e => n1 (e ▸ hy)), gR_wRf (by decide)]
  · intro y hy
    refine ⟨?_, (h5 y (List.mem_cons_of_mem _ hy)).2⟩
    show gR (wR (wR (wR s 600 l r.head?) 509 x none) 507 x none) 507 y = _
    rw [gR_wRi (show ¬ y = x from fun e => n1 (e ▸ hy)), gR_wRf (by decide), gR_wRf (by decide)]
    exact (h5 y (List.mem_cons_of_mem _ hy)).1
theorem ln_tk_o {s : ts} {l l' x : Nat} {r ys : List Nat} (hne : l' ≠ l) (hx : x ∉ ys) (h : ln s l' ys) : ln (tk s l x r) l' ys := by
  refine ln_congr (s := s) ?_ ?_ ?_ ?_ (Nat.le_refl _) h
  · show gR (wR (wR (wR s 600 l r.head?) 509 x none) 507 x none) 600 l' = _
    rw [gR_wRf (by decide), gR_wRf (by decide), gR_wRi hne]
  · show gI (wI _ 601 l _) 601 l' = _
    rw [gI_wIi hne]; rfl
  · intro y hy
    show gR (wR (wR (wR s 600 l r.head?) 509 x none) 507 x none) 509 y = _
    rw [gR_wRf (by decide), gR_wRi (show ¬ y = x from fun e => hx (e ▸ hy)), gR_wRf (by decide)]
  · intro y hy
    show gR (wR (wR (wR s 600 l r.head?) 509 x none) 507 x none) 507 y = _
    rw [gR_wRi (show ¬ y = x from fun e => hx (e ▸ hy)), gR_wRf (by decide), gR_wRf (by decide)]
-- one joins, behind all with the same or a lesser key
theorem join_b {kk : Nat → Nat → Int32 → Option Nat → Option Nat → ts → Option ts} {l p b : Nat} {k : Int32} {bf : Option Nat} {s : ts} (hb : b < gM s) : cN_join_8_b kk l p k bf (some b) s = if k < gI s 508 b then cN_join_35 l p k bf s else kk l p k (some b) (gR s 509 b) s := by
  unfold cN_join_8_b
  cases bf with
  | none =>
    dsimp only
    rw [if_pos hb]
    cases gR s 509 b <;> rfl
  | some a =>
    dsimp only
    rw [if_pos hb]
    cases gR s 509 b <;> rfl
theorem join_e {kk : Nat → Nat → Int32 → Option Nat → Option Nat → ts → Option ts} {l p : Nat} {k : Int32} {bf : Option Nat} {s : ts} : cN_join_8_b kk l p k bf none s = cN_join_35 l p k bf s := by
  unfold cN_join_8_b
  cases bf <;> rfl
def kle (s : ts) (k : Int32) (x : Nat) : Bool := decide (¬ k < gI s 508 x)
theorem join_lp {s : ts} {l p : Nat} {k : Int32} : ∀ (B A : List Nat) (F : Nat), ch s (A ++ B) → (∀ x ∈ A ++ B, x < gM s) → B.length < F → cN_join_8 F l p k A.getLast? B.head? s = cN_join_35 l p k (A ++ B.takeWhile (kle s k)).getLast? s := by
  intro B
  induction B with
  | nil =>
    intro A F hc hx hF
    obtain ⟨F, rfl⟩ : ∃ G, F = G + 1 := ⟨F - 1, by omega⟩
    rw [cN_join_8.eq_2]
    show cN_join_8_b _ l p k A.getLast? none s = _
    rw [join_e, List.takeWhile_nil, List.append_nil]
  | cons b B ih =>
    intro A F hc hx hF
    obtain ⟨F, rfl⟩ : ∃ G, F = G + 1 := ⟨F - 1, by omega⟩
    have hb : b < gM s := hx b (by simp)
    rw [cN_join_8.eq_2]
    show cN_join_8_b _ l p k A.getLast? (some b) s = _
    rw [join_b hb]
    by_cases hk : k < gI s 508 b
    · rw [if_pos hk, List.takeWhile_cons_of_neg (by simp [kle, hk]), List.append_nil]
    · rw [if_neg hk, List.takeWhile_cons_of_pos (by simp [kle, hk]), (ch_at hc).1]
      have e : A ++ b :: B = (A ++ [b]) ++ B := by simp
      have := ih (A ++ [b]) F (by rw [← e]; exact hc) (by rw [← e]; exact hx) (by simp at hF; omega)
      rw [List.getLast?_concat] at this
      rw [this]
      congr 1
      simp
/-- the line when p has joined between A and B -/
def jn (s : ts) (l p : Nat) (k : Int32) (A B : List Nat) : ts := wI (wR (wI (match A.getLast? with
  | none => wR (wR s 509 p B.head?) 600 l (some p)
  | some a => wR (wR s 509 p B.head?) 509 a (some p)) 508 p k) 507 p (some l)) 601 l (nI (A.length + B.length + 1))
theorem join_ok {s : ts} {l p : Nat} {k : Int32} {xs : List Nat} (hl : l < 30) (h : ln s l xs) (hp : p < gM s) (hn : xs.length ≤ 300) : cN_join l p k s = some (jn s l p k (xs.takeWhile (kle s k)) (xs.dropWhile (kle s k))) := by
  obtain ⟨h1, h2, h3, h4, h5⟩ := h
  have hx : ∀ x ∈ ([] : List Nat) ++ xs, x < gM s := fun x hx => (h5 x hx).2
  have e0 : cN_join l p k s = cN_join_8 tm_N l p k ([] : List Nat).getLast? xs.head? s := by
    unfold cN_join
    rw [if_pos hl, h1]
    cases xs.head? <;> rfl
  rw [e0, join_lp xs [] tm_N h3 hx (by unfold tm_N; omega)]
  generalize hA : xs.takeWhile (kle s k) = A
  generalize hB : xs.dropWhile (kle s k) = B
  have hAB : A ++ B = xs := by rw [← hA, ← hB]; exact List.takeWhile_append_dropWhile
  have hlen : A.length + B.length = xs.length := by rw [← hAB, List.length_append]
  have h68 : ∀ s1 : ts, gM s1 = gM s → gI s1 601 l = gI s 601 l → cN_join_68 l p k s1 = some (wI (wR (wI s1 508 p k) 507 p (some l)) 601 l (nI (A.length + B.length + 1))) := by
    intro s1 e1 e2
    unfold cN_join_68
    rw [e1, if_pos hp, if_pos hl]
    have e3 : gI (wR (wI s1 508 p k) 507 p (some l)) 601 l + 1 = nI (A.length + B.length + 1) := by
      show gI (wI s1 508 p k) 601 l + 1 = _
      rw [gI_wIn (by decide), e2, h2, hlen]
      exact (nI_succ _).symm
    rw [e3]
  rw [List.nil_append]
  unfold cN_join_35 jn
  cases hg : A.getLast? with
  | none =>
    have hA0 : A = [] := List.getLast?_eq_none_iff.mp hg
    have hx0 : xs.head? = B.head? := by rw [← hAB, hA0]; rfl
    dsimp only
    rw [if_pos hl, h1, hx0]
    cases hb : B.head? with
    | none => dsimp only; rw [if_pos hp]; exact h68 _ rfl rfl
    | some b => dsimp only; rw [if_pos hp]; exact h68 _ rfl rfl
  | some a =>
    dsimp only
    obtain ⟨C, hC⟩ : ∃ C, A = C ++ [a] := List.getLast?_eq_some_iff.mp hg
    have hb0 : gR s 509 a = B.head? := by
      have := ch_get (A := A) (B := B) (C := C) (D := []) (a := a) (by rw [hAB]; exact h3) (by rw [hC])
      simpa using this
    have ha : a < gM s := (h5 a (by rw [← hAB, hC]; simp)).2
    rw [if_pos ha, hb0]
    cases hb : B.head? with
    | none => dsimp only; rw [if_pos hp]; exact h68 _ rfl rfl
    | some b => dsimp only; rw [if_pos hp]; exact h68 _ rfl rfl
theorem jn_509 {s : ts} {l p y : Nat} {k : Int32} {A B : List Nat} : gR (jn s l p k A B) 509 y = if A.getLast? = some y then some p else if y = p then B.head? else gR s 509 y := by
  unfold jn
  cases hg : A.getLast? with
  | none =>
    show gR (wR (wR s 509 p B.head?) 600 l (some p)) 509 y = _
    rw [gR_wRf (by decide), gR_wR, if_neg (show ¬ none = some y by simp)]
    by_cases e : y = p
    · rw [if_pos ⟨rfl, e⟩, if_pos e]
    · rw [if_neg (fun z => e z.2), if_neg e]
  | some a =>
    show gR (wR (wR s 509 p B.head?) 509 a (some p)) 509 y = _
    rw [gR_wR]
    by_cases e : y = a
    · rw [if_pos ⟨rfl, e⟩, if_pos (by rw [e])]
    · rw [if_neg (fun z => e z.2), if_neg (fun z => e (Option.some.inj z).symm), gR_wR]
      by_cases e2 : y = p
      · rw [if_pos ⟨rfl, e2⟩, if_pos e2]
      · rw [if_neg (fun z => e2 z.2), if_neg e2]
theorem jn_600 {s : ts} {l p m : Nat} {k : Int32} {A B : List Nat} : gR (jn s l p k A B) 600 m = if A = [] ∧ m = l then some p else gR s 600 m := by
  unfold jn
  cases hg : A.getLast? with
  | none =>
    have hA : A = [] := List.getLast?_eq_none_iff.mp hg
    show gR (wR (wR s 509 p B.head?) 600 l (some p)) 600 m = _
    rw [gR_wR]
    by_cases e : m = l
    · rw [if_pos ⟨rfl, e⟩, if_pos ⟨hA, e⟩]
    · rw [if_neg (fun z => e z.2), if_neg (fun z => e z.2), gR_wRf (by decide)]
  | some a =>
    have hA : A ≠ [] := by intro e; rw [e] at hg; cases hg
    show gR (wR (wR s 509 p B.head?) 509 a (some p)) 600 m = _
    rw [gR_wRf (by decide), gR_wRf (by decide), if_neg (fun z => hA z.1)]
theorem jn_507 {s : ts} {l p y : Nat} {k : Int32} {A B : List Nat} : gR (jn s l p k A B) 507 y = if y = p then some l else gR s 507 y := by
  unfold jn
  show gR (wR (wI _ 508 p k) 507 p (some l)) 507 y = _
  rw [gR_wR]
  by_cases e : y = p
  · rw [if_pos ⟨rfl, e⟩, if_pos e]
  · rw [if_neg (fun z => e z.2), if_neg e]
    cases A.getLast? with
    | none => show gR (wR (wR s 509 p B.head?) 600 l (some p)) 507 y = _; rw [gR_wRf (by decide), gR_wRf (by decide)]
    | some a => show gR (wR (wR s 509 p B.head?) 509 a (some p)) 507 y = _; rw [gR_wRf (by decide), gR_wRf (by decide)]
theorem jn_R {s : ts} {l p f y : Nat} {k : Int32} {A B : List Nat} (h1 : ¬ f = 509) (h2 : ¬ f = 600) (h3 : ¬ f = 507) : gR (jn s l p k A B) f y = gR s f y := by
  unfold jn
  show gR (wR (wI _ 508 p k) 507 p (some l)) f y = _
  rw [gR_wRf h3]
  cases A.getLast? with
  | none => show gR (wR (wR s 509 p B.head?) 600 l (some p)) f y = _; rw [gR_wRf h2, gR_wRf h1]
  | some a => show gR (wR (wR s 509 p B.head?) 509 a (some p)) f y = _; rw [gR_wRf h1, gR_wRf h1]
theorem jn_I {s : ts} {l p f y : Nat} {k : Int32} {A B : List Nat} : gI (jn s l p k A B) f y = if f = 601 ∧ y = l then nI (A.length + B.length + 1) else if f = 508 ∧ y = p then k else gI s f y := by
  unfold jn
  rw [gI_wI]
  by_cases e : f = 601 ∧ y = l
  · rw [if_pos e, if_pos e]
  · rw [if_neg e, if_neg e]
    show gI (wI _ 508 p k) f y = _
    rw [gI_wI]
    by_cases e2 : f = 508 ∧ y = p
    · rw [if_pos e2, if_pos e2]
    · rw [if_neg e2, if_neg e2]
      cases A.getLast? <;> rfl
/-- the rest of the state stays -/
theorem jn_rest {s : ts} {l p : Nat} {k : Int32} {A B : List Nat} : gJ (jn s l p k A B) = gJ s ∧ gA (jn s l p k A B) = gA s ∧ gB (jn s l p k A B) = gB s ∧ gV (jn s l p k A B) = gV s ∧ gU (jn s l p k A B) = gU s ∧ gM (jn s l p k A B) = gM s ∧ gO (jn s l p k A B) = gO s := by
  unfold jn
  cases A.getLast? <;> exact ⟨rfl, rfl, rfl, rfl, rfl, rfl, rfl⟩
theorem last_ne {A C D : List Nat} {a d : Nat} (hn : A.Nodup) (e : A = C ++ a :: d :: D) : A.getLast? ≠ some a := by
  intro h
  obtain ⟨E, hE⟩ := List.getLast?_eq_some_iff.mp h
  have h1 : a ∈ d :: D := by
    have h2 : A.getLast? = (d :: D).getLast? := by
      rw [e, show C ++ a :: d :: D = (C ++ [a]) ++ (d :: D) by simp, List.getLast?_append]
      cases hq : (d :: D).getLast? with
      | none => exact absurd (List.getLast?_eq_none_iff.mp hq) (by simp)
      | some z => rfl
    rw [h2] at h
    exact List.mem_of_getLast? h
  rw [e] at hn
  have h3 := (List.nodup_append.mp hn).2.1
  exact (List.nodup_cons.mp h3).1 h1
theorem ln_jn {s : ts} {l p : Nat} {k : Int32} {A B : List Nat} (h : ln s l (A ++ B)) (hp : p < gM s) (hx : p ∉ A ++ B) : ln (jn s l p k A B) l (A ++ p :: B) := by
  obtain ⟨h1, h2, h3, h4, h5⟩ := h
  have nA : A.Nodup := (List.nodup_append.mp h4).1
  have dis : ∀ a ∈ A, a ∉ B := fun a ha hb => (List.nodup_append.mp h4).2.2 a ha a hb rfl
  have pA : p ∉ A := fun z => hx (List.mem_append_left _ z)
  have pB : p ∉ B := fun z => hx (List.mem_append_right _ z)
  refine ⟨?_, ?_, ?_, ?_, ?_⟩
  · rw [jn_600]
    cases A with
    | nil => rw [if_pos ⟨rfl, rfl⟩]; rfl
    | cons a r => rw [if_neg (fun z => by cases z.1), h1]; rfl
  · rw [jn_I, if_pos ⟨rfl, rfl⟩, List.length_append, List.length_cons]
    rfl
  · have hB2 : ch (jn s l p k A B) (p :: B) := by
      refine And.intro ?_ (ch_congr (s := s) (fun y hy => ?_) (ch_app h3))
      · rw [jn_509, if_neg (fun z => pA (List.mem_of_getLast? z)), if_pos rfl]
      · rw [jn_509, if_neg (fun z => dis y (List.mem_of_getLast? z) hy), if_neg (show ¬ y = p from fun z => pB (z ▸ hy))]
    refine ch_mk hB2 ?_
    · intro C a D e
      have aA : a ∈ A := by rw [e]; simp
      cases D with
      | nil =>
        have : A.getLast? = some a := by rw [e]; simp
        rw [jn_509, if_pos this]; rfl
      | cons d D =>
        rw [jn_509, if_neg (last_ne nA e), if_neg (show ¬ a = p from fun z => pA (z ▸ aA)), ch_get h3 e]; rfl
  · rw [List.nodup_append]
    refine ⟨nA, List.nodup_cons.mpr ⟨pB, (List.nodup_append.mp h4).2.1⟩, ?_⟩
    intro a ha b hb e
    subst e
    rcases List.mem_cons.mp hb with z | z
    · exact pA (z ▸ ha)
    · exact dis a ha z
  · intro y hy
    rw [jn_507]
    have hM : gM (jn s l p k A B) = gM s := jn_rest.2.2.2.2.2.1
    rw [hM]
    by_cases e : y = p
    · rw [if_pos e, e]; exact ⟨rfl, hp⟩
    · rw [if_neg e]
      refine h5 y ?_
      rcases List.mem_append.mp hy with z | z
      · exact List.mem_append_left _ z
      · rcases List.mem_cons.mp z with w | w
        · exact absurd w e
        · exact List.mem_append_right _ w
theorem ln_jn_o {s : ts} {l l' p : Nat} {k : Int32} {A B ys : List Nat} (hne : l' ≠ l) (hA : ∀ a ∈ A, a ∉ ys) (hx : p ∉ ys) (h : ln s l' ys) : ln (jn s l p k A B) l' ys := by
  refine ln_congr (s := s) ?_ ?_ ?_ ?_ (by rw [jn_rest.2.2.2.2.2.1]; exact Nat.le_refl _) h
  · rw [jn_600, if_neg (fun z => hne z.2)]
  · rw [jn_I, if_neg (fun z => hne z.2), if_neg (fun z => by cases z.1)]
  · intro y hy
    rw [jn_509, if_neg (fun z => hA y (List.mem_of_getLast? z) hy), if_neg (show ¬ y = p from fun z => hx (z ▸ hy))]
  · intro y hy
    rw [jn_507, if_neg (show ¬ y = p from fun z => hx (z ▸ hy))]
-- one is dropped
def dr (s : ts) (l p : Nat) (A B : List Nat) : ts := wI (wR (wR (match A.getLast? with
  | none => wR s 600 l B.head?
  | some a => wR s 509 a B.head?) 509 p none) 507 p none) 601 l (nI (A.length + B.length))
theorem drop_b {kk : Nat → Nat → Option Nat → Option Nat → ts → Option ts} {l p b : Nat} {bf : Option Nat} {s : ts} (hb : b < gM s) : cN_drop_7_b kk l p bf (some b) s = if b = p then cN_drop_26 l p bf s else kk l p (some b) (gR s 509 b) s := by
  unfold cN_drop_7_b
  cases bf with
  | none =>
    dsimp only
    by_cases e : b = p
    · rw [if_pos e, if_pos e]
    · rw [if_neg e, if_neg e, if_pos hb]
      cases gR s 509 b <;> rfl
  | some a =>
    dsimp only
    by_cases e : b = p
    · rw [if_pos e, if_pos e]
    · rw [if_neg e, if_neg e, if_pos hb]
      cases gR s 509 b <;> rfl
theorem drop_lp {s : ts} {l p : Nat} {B : List Nat} : ∀ (D A : List Nat) (F : Nat), ch s (A ++ (D ++ p :: B)) → (∀ x ∈ A ++ (D ++ p :: B), x < gM s) → p ∉ D → D.length < F → cN_drop_7 F l p A.getLast? (D ++ p :: B).head? s = cN_drop_26 l p (A ++ D).getLast? s := by
  intro D
  induction D with
  | nil =>
    intro A F hc hx hp hF
    obtain ⟨F, rfl⟩ : ∃ G, F = G + 1 := ⟨F - 1, by omega⟩
    have hb : p < gM s := hx p (by simp)
    rw [cN_drop_7.eq_2]
    show cN_drop_7_b _ l p A.getLast? (some p) s = _
    rw [drop_b hb, if_pos rfl, List.append_nil]
  | cons d D ih =>
    intro A F hc hx hp hF
    obtain ⟨F, rfl⟩ : ∃ G, F = G + 1 := ⟨F - 1, by omega⟩
    have hb : d < gM s := hx d (by simp)
    have hdp : ¬ d = p := fun e => hp (by rw [← e]; exact List.mem_cons_self)
    rw [cN_drop_7.eq_2]
    show cN_drop_7_b _ l p A.getLast? (some d) s = _
    rw [drop_b hb, if_neg hdp]
    have hc' : ch s (A ++ d :: (D ++ p :: B)) := hc
    rw [(ch_at hc').1]
    have e : A ++ d :: (D ++ p :: B) = (A ++ [d]) ++ (D ++ p :: B) := by simp
    have := ih (A ++ [d]) F (by rw [← e]; exact hc) (by rw [← e]; exact hx) (fun z => hp (List.mem_cons_of_mem _ z)) (by simp at hF; omega)
    rw [List.getLast?_concat] at this
    rw [this]
    congr 1
    simp
theorem drop_ok {s : ts} {l p : Nat} {A B : List Nat} (hl : l < 30) (h : ln s l (A ++ p :: B)) (hn : (A ++ p :: B).length ≤ 300) : cN_drop l p s = some (dr s l p A B) := by
  obtain ⟨h1, h2, h3, h4, h5⟩ := h
  have hp : p < gM s := (h5 p (by simp)).2
  have pA : p ∉ A := fun z => (List.nodup_append.mp h4).2.2 p z p List.mem_cons_self rfl
  have e0 : cN_drop l p s = cN_drop_7 tm_N l p ([] : List Nat).getLast? (A ++ p :: B).head? s := by
    unfold cN_drop
    rw [if_pos hl, h1]
    cases (A ++ p :: B).head? <;> rfl
  rw [e0, drop_lp A [] tm_N h3 (fun x hx => (h5 x hx).2) pA (by unfold tm_N; simp at hn; omega), List.nil_append]
  have hpn : gR s 509 p = B.head? := (ch_at h3).1
  have h49 : ∀ s1 : ts, gM s1 = gM s → gI s1 601 l = gI s 601 l → cN_drop_49 l p s1 = some (wI (wR (wR s1 509 p none) 507 p none) 601 l (nI (A.length + B.length))) := by
    intro s1 e1 e2
    unfold cN_drop_49
    rw [e1, if_pos hp, if_pos hl]
    have e3 : gI (wR (wR s1 509 p none) 507 p none) 601 l - 1 = nI (A.length + B.length) := by
      show gI s1 601 l - 1 = _
      rw [e2, h2]
      show nI (A ++ p :: B).length - nI 1 = _
      rw [pk_sub (by simp; omega)]
      congr 1
      simp
    rw [e3]
  unfold cN_drop_26 dr
  cases hg : A.getLast? with
  | none =>
    dsimp only
    rw [if_pos hp, hpn]
    cases hb : B.head? with
    | none => dsimp only; rw [if_pos hl]; exact h49 _ rfl rfl
    | some b => dsimp only; rw [if_pos hl]; exact h49 _ rfl rfl
  | some a =>
    dsimp only
    have ha : a < gM s := (h5 a (List.mem_append_left _ (List.mem_of_getLast? hg))).2
    rw [if_pos hp, hpn]
    cases hb : B.head? with
    | none => dsimp only; rw [if_pos ha]; exact h49 _ rfl rfl
    | some b => dsimp only; rw [if_pos ha]; exact h49 _ rfl rfl
theorem dr_509 {s : ts} {l p y : Nat} {A B : List Nat} : gR (dr s l p A B) 509 y = if y = p then none else if A.getLast? = some y then B.head? else gR s 509 y := by
  unfold dr
  show gR (wR (wR _ 509 p none) 507 p none) 509 y = _
  rw [gR_wRf (by decide), gR_wR]
  by_cases e : y = p
  · rw [if_pos ⟨rfl, e⟩, if_pos e]
  · rw [if_neg (fun z => e z.2), if_neg e]
    cases hg : A.getLast? with
    | none =>
      show gR (wR s 600 l B.head?) 509 y = _
      rw [gR_wRf (by decide), if_neg (show ¬ none = some y by simp)]
    | some a =>
      show gR (wR s 509 a B.head?) 509 y = _
      rw [gR_wR]
      by_cases e2 : y = a
      · rw [if_pos ⟨rfl, e2⟩, if_pos (by rw [e2])]
      · rw [if_neg (fun z => e2 z.2), if_neg (fun z => e2 (Option.some.inj z).symm)]
theorem dr_600 {s : ts} {l p m : Nat} {A B : List Nat} : gR (dr s l p A B) 600 m = if A = [] ∧ m = l then B.head? else gR s 600 m := by
  unfold dr
  cases hg : A.getLast? with
  | none =>
    have hA : A = [] := List.getLast?_eq_none_iff.mp hg
    show gR (wR (wR (wR s 600 l B.head?) 509 p none) 507 p none) 600 m = _
    rw [gR_wRf (by decide), gR_wRf (by decide), gR_wR]
    by_cases e : m = l
    · rw [if_pos ⟨rfl, e⟩, if_pos ⟨hA, e⟩]
    · rw [if_neg (fun z => e z.2), if_neg (fun z => e z.2)]
  | some a =>
    have hA : A ≠ [] := by intro e; rw [e] at hg; cases hg
    show gR (wR (wR (wR s 509 a B.head?) 509 p none) 507 p none) 600 m = _
    rw [gR_wRf (by decide), gR_wRf (by decide), gR_wRf (by decide), if_neg (fun z => hA z.1)]
theorem dr_507 {s : ts} {l p y : Nat} {A B : List Nat} : gR (dr s l p A B) 507 y = if y = p then none else gR s 507 y := by
  unfold dr
  show gR (wR (wR _ 509 p none) 507 p none) 507 y = _
  rw [gR_wR]
  by_cases e : y = p
  · rw [if_pos ⟨rfl, e⟩, if_pos e]
  · rw [if_neg (fun z => e z.2), if_neg e, gR_wRf (by decide)]
    cases A.getLast? with
    | none => show gR (wR s 600 l B.head?) 507 y = _; rw [gR_wRf (by decide)]
    | some a => show gR (wR s 509 a B.head?) 507 y = _; rw [gR_wRf (by decide)]
theorem dr_R {s : ts} {l p f y : Nat} {A B : List Nat} (h1 : ¬ f = 509) (h2 : ¬ f = 600) (h3 : ¬ f = 507) : gR (dr s l p A B) f y = gR s f y := by
  unfold dr
  show gR (wR (wR _ 509 p none) 507 p none) f y = _
  rw [gR_wRf h3, gR_wRf h1]
  cases A.getLast? with
  | none => show gR (wR s 600 l B.head?) f y = _; rw [gR_wRf h2]
  | some a => show gR (wR s 509 a B.head?) f y = _; rw [gR_wRf h1]
theorem dr_I {s : ts} {l p f y : Nat} {A B : List Nat} : gI (dr s l p A B) f y = if f = 601 ∧ y = l then nI (A.length + B.length) else gI s f y := by
  unfold dr
  rw [gI_wI]
  by_cases e : f = 601 ∧ y = l
  · rw [if_pos e, if_pos e]
  · rw [if_neg e, if_neg e]
    cases A.getLast? <;> rfl
theorem dr_rest {s : ts} {l p : Nat} {A B : List Nat} : gJ (dr s l p A B) = gJ s ∧ gA (dr s l p A B) = gA s ∧ gB (dr s l p A B) = gB s ∧ gV (dr s l p A B) = gV s ∧ gU (dr s l p A B) = gU s ∧ gM (dr s l p A B) = gM s ∧ gO (dr s l p A B) = gO s := by
  unfold dr
  cases A.getLast? <;> exact ⟨rfl, rfl, rfl, rfl, rfl, rfl, rfl⟩
theorem ln_dr {s : ts} {l p : Nat} {A B : List Nat} (h : ln s l (A ++ p :: B)) : ln (dr s l p A B) l (A ++ B) := by
  obtain ⟨h1, h2, h3, h4, h5⟩ := h
  have nA : A.Nodup := (List.nodup_append.mp h4).1
  have nB := (List.nodup_append.mp h4).2.1
  have pB : p ∉ B := (List.nodup_cons.mp nB).1
  have dis : ∀ a ∈ A, a ∉ B := fun a ha hb => (List.nodup_append.mp h4).2.2 a ha a (List.mem_cons_of_mem _ hb) rfl
  have pA : p ∉ A := fun z => (List.nodup_append.mp h4).2.2 p z p List.mem_cons_self rfl
  refine ⟨?_, ?_, ?_, ?_, ?_⟩
  · rw [dr_600]
    cases A with
    | nil => rw [if_pos ⟨rfl, rfl⟩]; rfl
    | cons a r => rw [if_neg (fun z => by cases z.1), h1]; rfl
  · rw [dr_I, if_pos ⟨rfl, rfl⟩, List.length_append]
  · have hB2 : ch (dr s l p A B) B := by
      refine ch_congr (s := s) (fun y hy => ?_) (ch_at h3).2
      rw [dr_509, if_neg (show ¬ y = p from fun z => pB (z ▸ hy)), if_neg (fun z => dis y (List.mem_of_getLast? z) hy)]
    refine ch_mk hB2 ?_
    intro C a D e
    have aA : a ∈ A := by rw [e]; simp
    cases D with
    | nil =>
      have : A.getLast? = some a := by rw [e]; simp
      rw [dr_509, if_neg (show ¬ a = p from fun z => pA (z ▸ aA)), if_pos this]; rfl
    | cons d D =>
      rw [dr_509, if_neg (show ¬ a = p from fun z => pA (z ▸ aA)), if_neg (last_ne nA e), ch_get h3 e]; rfl
  · rw [List.nodup_append]
    exact ⟨nA, (List.nodup_cons.mp nB).2, fun a ha b hb e => dis a ha (e ▸ hb)⟩
  · intro y hy
    have hyp : ¬ y = p := by
      intro e
      subst e
      rcases List.mem_append.mp hy with z | z
      · exact pA z
      · exact pB z
    have hM : gM (dr s l p A B) = gM s := dr_rest.2.2.2.2.2.1
    rw [dr_507, if_neg hyp, hM]
    refine h5 y ?_
    rcases List.mem_append.mp hy with z | z
    · exact List.mem_append_left _ z
    · exact List.mem_append_right _ (List.mem_cons_of_mem _ z)
theorem ln_dr_o {s : ts} {l l' p : Nat} {A B ys : List Nat} (hne : l' ≠ l) (hA : ∀ a ∈ A, a ∉ ys) (hx : p ∉ ys) (h : ln s l' ys) : ln (dr s l p A B) l' ys := by
  refine ln_congr (s := s) ?_ ?_ ?_ ?_ (by rw [dr_rest.2.2.2.2.2.1]; exact Nat.le_refl _) h
  · rw [dr_600, if_neg (fun z => hne z.2)]
  · rw [dr_I, if_neg (fun z => hne z.2)]
  · intro y hy
    rw [dr_509, if_neg (show ¬ y = p from fun z => hx (z ▸ hy)), if_neg (fun z => hA y (List.mem_of_getLast? z) hy)]
  · intro y hy
    rw [dr_507, if_neg (show ¬ y = p from fun z => hx (z ▸ hy))]
-- the k-th one
theorem find_b {kk : Int32 → Option Nat → Int32 → ts → Option (Option Nat × ts)} {k i : Int32} {b : Nat} {s : ts} (hb : b < gM s) : cN_find_7_b kk k (some b) i s = if k ≤ i then some (some b, s) else kk k (gR s 509 b) (i + 1) s := by
  unfold cN_find_7_b
  dsimp only
  rw [if_pos hb]
  cases gR s 509 b <;> rfl
theorem find_lp {s : ts} {k : Nat} (hk : k < 2 ^ 31) : ∀ (B : List Nat) (i F : Nat), ch s B → (∀ x ∈ B, x < gM s) → i ≤ k → B.length < F → cN_find_7 F (nI k) B.head? (nI i) s = some (B[k - i]?, s) := by
  intro B
  induction B with
  | nil =>
    intro i F hc hx hi hF
    obtain ⟨F, rfl⟩ : ∃ G, F = G + 1 := ⟨F - 1, by omega⟩
    rw [cN_find_7.eq_2]
    unfold cN_find_7_b
    dsimp only [List.head?_nil]
    split <;> rfl
  | cons b B ih =>
    intro i F hc hx hi hF
    obtain ⟨F, rfl⟩ : ∃ G, F = G + 1 := ⟨F - 1, by omega⟩
    rw [cN_find_7.eq_2]
    show cN_find_7_b _ (nI k) (some b) (nI i) s = _
    rw [find_b (hx b List.mem_cons_self)]
    by_cases e : k = i
    · subst e
      rw [if_pos (nI_le (Nat.le_refl _) hk), Nat.sub_self]
      rfl
    · rw [if_neg (nI_ge (by omega) hk), hc.1]
      have e2 : nI i + 1 = nI (i + 1) := (nI_succ i).symm
      rw [e2, ih (i + 1) F hc.2 (fun x hx2 => hx x (List.mem_cons_of_mem _ hx2)) (by omega) (by simp at hF; omega)]
      rw [show k - i = (k - (i + 1)) + 1 by omega]
      rfl
theorem find_ok {s : ts} {l k : Nat} {xs : List Nat} (hl : l < 30) (h : ln s l xs) (hn : xs.length ≤ 300) (hk : k < 2 ^ 31) : cN_find l (nI k) s = some (xs[k]?, s) := by
  have e0 : cN_find l (nI k) s = cN_find_7 tm_N (nI k) xs.head? (nI 0) s := by
    unfold cN_find
    rw [if_pos hl, h.1]
    cases xs.head? <;> rfl
  rw [e0, find_lp hk xs 0 tm_N h.2.2.1 (fun x hx => (h.2.2.2.2 x hx).2) (Nat.zero_le _) (by unfold tm_N; omega)]
  rfl
theorem clear_ok {s : ts} {l : Nat} (hl : l < 30) : cN_clear l s = some (wI (wR s 600 l none) 601 l 0) ∧ ln (wI (wR s 600 l none) 601 l 0) l [] := by
  refine ⟨?_, ?_, gI_wIs, trivial, List.nodup_nil, fun x hx => by cases hx⟩
  · unfold cN_clear; rw [if_pos hl]
  · show gR (wR s 600 l none) 600 l = _
    rw [gR_wRs]; rfl
