/-! WHAT HOLDS of the state, whoever looks at it. -/
def SP (ρ s w : Nat) : Prop := (ρ < 8 ∧ s = 2 ∧ w = ρ) ∨ (8 ≤ ρ ∧ ρ < 14 ∧ s = 3 ∧ w = ρ) ∨ (22 ≤ ρ ∧ ρ < 28 ∧ s = 3 ∧ w + 14 = ρ) ∨ (ρ = 28 ∧ s ≤ 1) ∨ (ρ = 29 ∧ s = 4)
def su (U : Nat → Nat → Nat) (q : Nat) : Nat → Nat
  | 0 => 0
  | n + 1 => su U q n + U n q
def wl (o : Option Nat) (l : List Nat) : Nat := (l.filter (fun x => decide (¬ o = some x))).length
def clt (K : Nat → Int32) (pa : Nat → Nat) (x y : Nat) : Prop := K x < K y ∨ (K x = K y ∧ pa x < pa y)
def Inv (rm : Nat → Nat) (M : Md) (o : Option Nat) : Prop :=
  (m_N M ≤ 300 ∧ m_tm M ≤ 1000000000)
  ∧ (∀ ρ, ρ < 30 → (m_R M ρ).Nodup)
  ∧ (∀ ρ, ρ < 30 → ∀ p, p ∈ m_R M ρ → p < m_N M ∧ (o = some p ∨ SP ρ (m_S M p) (m_W M p)))
  ∧ (∀ ρ ρ1 p, ρ < 30 → ρ1 < 30 → p ∈ m_R M ρ → p ∈ m_R M ρ1 → ρ = ρ1)
  ∧ (∀ p, p < m_N M → m_S M p ≤ 7 ∧ (m_S M p ≤ 4 → ∃ ρ, ρ < 30 ∧ p ∈ m_R M ρ))
  ∧ (∀ p, o = some p → p < m_N M ∧ m_S M p = 7)
  ∧ ((m_R M 28).Pairwise (clt (m_K M) (m_pa M)) ∧ ∀ x, x ∈ m_R M 28 → m_pa M x < m_P M ∧ ∃ t, m_K M x = nI t ∧ m_tm M ≤ t ∧ t ≤ 1000000000)
  ∧ (∀ ρ, ρ < 8 → (m_R M ρ).Pairwise (fun x y => ¬ m_K M y < m_K M x))
  ∧ (∀ ρ, 8 ≤ ρ → ρ < 30 → ¬ ρ = 28 → ∀ p, p ∈ m_R M ρ → m_K M p = 0)
  ∧ (∀ q, q < 8 → su (m_U M) q (m_N M) ≤ rm q ∧ m_th M q = nI (rm q - su (m_U M) q (m_N M)) ∧ (m_R M q ≠ [] → su (m_U M) q (m_N M) = rm q))
  ∧ (∀ q, q < 14 → wl o (m_R M q) + wl o (m_R M (14 + q)) ≤ m_mw M q ∧ m_mw M q ≤ 600)
  ∧ ((∀ p, p < m_N M → m_S M p = 7 → m_am M = some p) ∧ ∀ p, m_am M = some p → p < m_N M)
theorem Inv_N {rm : Nat → Nat} {M : Md} {o : Option Nat} (h : Inv rm M o) : m_N M ≤ 300 ∧ m_tm M ≤ 1000000000 := h.1
theorem Inv_nd {rm : Nat → Nat} {M : Md} {o : Option Nat} (h : Inv rm M o) : ∀ ρ, ρ < 30 → (m_R M ρ).Nodup := h.2.1
theorem Inv_me {rm : Nat → Nat} {M : Md} {o : Option Nat} (h : Inv rm M o) : ∀ ρ, ρ < 30 → ∀ p, p ∈ m_R M ρ → p < m_N M ∧ (o = some p ∨ SP ρ (m_S M p) (m_W M p)) := h.2.2.1
theorem Inv_di {rm : Nat → Nat} {M : Md} {o : Option Nat} (h : Inv rm M o) : ∀ ρ ρ1 p, ρ < 30 → ρ1 < 30 → p ∈ m_R M ρ → p ∈ m_R M ρ1 → ρ = ρ1 := h.2.2.2.1
theorem Inv_co {rm : Nat → Nat} {M : Md} {o : Option Nat} (h : Inv rm M o) : ∀ p, p < m_N M → m_S M p ≤ 7 ∧ (m_S M p ≤ 4 → ∃ ρ, ρ < 30 ∧ p ∈ m_R M ρ) := h.2.2.2.2.1
theorem Inv_ow {rm : Nat → Nat} {M : Md} {o : Option Nat} (h : Inv rm M o) : ∀ p, o = some p → p < m_N M ∧ m_S M p = 7 := h.2.2.2.2.2.1
theorem Inv_ca {rm : Nat → Nat} {M : Md} {o : Option Nat} (h : Inv rm M o) : (m_R M 28).Pairwise (clt (m_K M) (m_pa M)) ∧ ∀ x, x ∈ m_R M 28 → m_pa M x < m_P M ∧ ∃ t, m_K M x = nI t ∧ m_tm M ≤ t ∧ t ≤ 1000000000 := h.2.2.2.2.2.2.1
theorem Inv_so {rm : Nat → Nat} {M : Md} {o : Option Nat} (h : Inv rm M o) : ∀ ρ, ρ < 8 → (m_R M ρ).Pairwise (fun x y => ¬ m_K M y < m_K M x) := h.2.2.2.2.2.2.2.1
theorem Inv_k0 {rm : Nat → Nat} {M : Md} {o : Option Nat} (h : Inv rm M o) : ∀ ρ, 8 ≤ ρ → ρ < 30 → ¬ ρ = 28 → ∀ p, p ∈ m_R M ρ → m_K M p = 0 := h.2.2.2.2.2.2.2.2.1
theorem Inv_re {rm : Nat → Nat} {M : Md} {o : Option Nat} (h : Inv rm M o) : ∀ q, q < 8 → su (m_U M) q (m_N M) ≤ rm q ∧ m_th M q = nI (rm q - su (m_U M) q (m_N M)) ∧ (m_R M q ≠ [] → su (m_U M) q (m_N M) = rm q) := h.2.2.2.2.2.2.2.2.2.1
theorem Inv_mw {rm : Nat → Nat} {M : Md} {o : Option Nat} (h : Inv rm M o) : ∀ q, q < 14 → wl o (m_R M q) + wl o (m_R M (14 + q)) ≤ m_mw M q ∧ m_mw M q ≤ 600 := h.2.2.2.2.2.2.2.2.2.2.1
theorem Inv_am {rm : Nat → Nat} {M : Md} {o : Option Nat} (h : Inv rm M o) : (∀ p, p < m_N M → m_S M p = 7 → m_am M = some p) ∧ ∀ p, m_am M = some p → p < m_N M := h.2.2.2.2.2.2.2.2.2.2.2
-- a list that one has left
def rem (R : Nat → List Nat) (p : Nat) : Nat → List Nat := fun ρ => (R ρ).filter (fun x => decide (¬ x = p))
theorem mem_rem {R : Nat → List Nat} {p ρ x : Nat} : x ∈ rem R p ρ ↔ x ∈ R ρ ∧ ¬ x = p := by
  unfold rem
  rw [List.mem_filter, decide_eq_true_iff]
theorem rem_out {R : Nat → List Nat} {p ρ : Nat} (h : p ∉ R ρ) : rem R p ρ = R ρ := by
  unfold rem
  rw [List.filter_eq_self]
  intro x hx
  rw [decide_eq_true_iff]
  exact fun e => h (e ▸ hx)
theorem rem_sub {R : Nat → List Nat} {p ρ : Nat} : List.Sublist (rem R p ρ) (R ρ) := List.filter_sublist
theorem rem_mid {R : Nat → List Nat} {p ρ : Nat} {A B : List Nat} (h : R ρ = A ++ p :: B) (hn : (R ρ).Nodup) : rem R p ρ = A ++ B := by
  unfold rem
  rw [h] at hn ⊢
  have h1 := List.nodup_append.mp hn
  have h2 := List.nodup_cons.mp h1.2.1
  rw [List.filter_append, List.filter_cons_of_neg (by simp), List.filter_eq_self.mpr, List.filter_eq_self.mpr]
  · intro x hx; rw [decide_eq_true_iff]; exact fun e => h2.1 (e ▸ hx)
  · intro x hx; rw [decide_eq_true_iff]; exact fun e => h1.2.2 x hx p List.mem_cons_self e
theorem nodup_le {n : Nat} : ∀ {l : List Nat}, l.Nodup → (∀ x, x ∈ l → x < n) → l.length ≤ n := by
  induction n with
  | zero =>
    intro l _ h
    cases l with
    | nil => exact Nat.le_refl _
    | cons x r => exact absurd (h x List.mem_cons_self) (by omega)
  | succ n ih =>
    intro l hn h
    by_cases c : n ∈ l
    · obtain ⟨A, B, e⟩ := List.append_of_mem c
      subst e
      have h1 := List.nodup_append.mp hn
      have h2 := List.nodup_cons.mp h1.2.1
      have := ih (l := A ++ B) (List.nodup_append.mpr ⟨h1.1, h2.2, fun x hx y hy => h1.2.2 x hx y (List.mem_cons_of_mem _ hy)⟩) (fun x hx => by
        rcases List.mem_append.mp hx with z | z
        · have := h x (List.mem_append_left _ z)
          have : x ≠ n := fun e => h1.2.2 x z n List.mem_cons_self e
          omega
        · have := h x (List.mem_append_right _ (List.mem_cons_of_mem _ z))
          have : x ≠ n := fun e => h2.1 (e ▸ z)
          omega)
      rw [List.length_append] at this ⊢
      rw [List.length_cons]; omega
    · have := ih hn (fun x hx => by
        have := h x hx
        have : x ≠ n := fun e => c (e ▸ hx)
        omega)
      omega
-- a list that one has joined, by its key
def ins (K : Nat → Int32) (k : Int32) (p : Nat) (l : List Nat) : List Nat := l.takeWhile (fun x => decide (¬ k < K x)) ++ p :: l.dropWhile (fun x => decide (¬ k < K x))
theorem mem_ins {K : Nat → Int32} {k : Int32} {p x : Nat} {l : List Nat} : x ∈ ins K k p l ↔ x = p ∨ x ∈ l := by
  unfold ins
  rw [List.mem_append, List.mem_cons]
  have : x ∈ l ↔ x ∈ l.takeWhile (fun x => decide (¬ k < K x)) ∨ x ∈ l.dropWhile (fun x => decide (¬ k < K x)) := by
    rw [← List.mem_append, List.takeWhile_append_dropWhile]
  rw [this]
  constructor
  · rintro (z | z | z)
    · exact Or.inr (Or.inl z)
    · exact Or.inl z
    · exact Or.inr (Or.inr z)
  · rintro (z | z | z)
    · exact Or.inr (Or.inl z)
    · exact Or.inl z
    · exact Or.inr (Or.inr z)
theorem ins_len {K : Nat → Int32} {k : Int32} {p : Nat} {l : List Nat} : (ins K k p l).length = l.length + 1 := by
  have h : (l.takeWhile (fun x => decide (¬ k < K x)) ++ l.dropWhile (fun x => decide (¬ k < K x))).length = l.length := by rw [List.takeWhile_append_dropWhile]
  unfold ins
  rw [List.length_append] at h ⊢
  rw [List.length_cons]; omega
theorem nodup_ins {K : Nat → Int32} {k : Int32} {p : Nat} {l : List Nat} (hn : l.Nodup) (hp : p ∉ l) : (ins K k p l).Nodup := by
  have h : (l.takeWhile (fun x => decide (¬ k < K x)) ++ l.dropWhile (fun x => decide (¬ k < K x))).Nodup := by rw [List.takeWhile_append_dropWhile]; exact hn
  have hp' : p ∉ l.takeWhile (fun x => decide (¬ k < K x)) ++ l.dropWhile (fun x => decide (¬ k < K x)) := by rw [List.takeWhile_append_dropWhile]; exact hp
  unfold ins
  rw [List.mem_append] at hp'
  have h1 := List.nodup_append.mp h
  refine List.nodup_append.mpr ⟨h1.1, List.nodup_cons.mpr ⟨fun z => hp' (Or.inr z), h1.2.1⟩, fun a ha b hb => ?_⟩
  rcases List.mem_cons.mp hb with z | z
  · rw [z]; exact fun e => hp' (Or.inl (e ▸ ha))
  · exact h1.2.2 a ha b z
theorem tW_all {l : List Nat} {f : Nat → Bool} (h : ∀ x, x ∈ l → f x = true) : l.takeWhile f = l ∧ l.dropWhile f = [] := by
  induction l with
  | nil => exact ⟨rfl, rfl⟩
  | cons x r ih =>
    have h1 := h x List.mem_cons_self
    have h2 := ih (fun y hy => h y (List.mem_cons_of_mem _ hy))
    rw [List.takeWhile_cons_of_pos h1, List.dropWhile_cons_of_pos h1, h2.1, h2.2]
    exact ⟨rfl, rfl⟩
theorem tW_congr {l : List Nat} {f g : Nat → Bool} (h : ∀ x, x ∈ l → f x = g x) : l.takeWhile f = l.takeWhile g ∧ l.dropWhile f = l.dropWhile g := by
  induction l with
  | nil => exact ⟨rfl, rfl⟩
  | cons x r ih =>
    have h1 := h x List.mem_cons_self
    have h2 := ih (fun y hy => h y (List.mem_cons_of_mem _ hy))
    by_cases c : f x = true
    · rw [List.takeWhile_cons_of_pos c, List.dropWhile_cons_of_pos c, List.takeWhile_cons_of_pos (h1 ▸ c), List.dropWhile_cons_of_pos (h1 ▸ c), h2.1, h2.2]
      exact ⟨rfl, rfl⟩
    · rw [List.takeWhile_cons_of_neg c, List.dropWhile_cons_of_neg c, List.takeWhile_cons_of_neg (h1 ▸ c), List.dropWhile_cons_of_neg (h1 ▸ c)]
      exact ⟨rfl, rfl⟩
theorem ins_last {K : Nat → Int32} {p : Nat} {l : List Nat} (h : ∀ x, x ∈ l → K x = 0) : ins K 0 p l = l ++ [p] := by
  have := tW_all (l := l) (f := fun x => decide (¬ (0 : Int32) < K x)) (fun x hx => by rw [h x hx]; decide)
  unfold ins
  rw [this.1, this.2]
theorem dW_ge {K : Nat → Int32} {k : Int32} : ∀ {l : List Nat}, l.Pairwise (fun x y => ¬ K y < K x) → ∀ y, y ∈ l.dropWhile (fun x => decide (¬ k < K x)) → k < K y := by
  intro l
  induction l with
  | nil => intro _ y hy; cases hy
  | cons x r ih =>
    intro h y hy
    have h1 := List.pairwise_cons.mp h
    by_cases c : k < K x
    · rw [List.dropWhile_cons_of_neg (by simp [c])] at hy
      rcases List.mem_cons.mp hy with z | z
      · rw [z]; exact c
      · exact Int32.lt_of_lt_of_le c (Int32.not_lt.mp (h1.1 y z))
    · rw [List.dropWhile_cons_of_pos (by simp [c])] at hy
      exact ih h1.2 y hy
theorem tW_le {K : Nat → Int32} {k : Int32} : ∀ {l : List Nat} {y : Nat}, y ∈ l.takeWhile (fun x => decide (¬ k < K x)) → ¬ k < K y := by
  intro l
  induction l with
  | nil => intro y hy; cases hy
  | cons x r ih =>
    intro y hy
    by_cases c : k < K x
    · rw [List.takeWhile_cons_of_neg (by simp [c])] at hy; cases hy
    · rw [List.takeWhile_cons_of_pos (by simp [c])] at hy
      rcases List.mem_cons.mp hy with z | z
      · rw [z]; exact c
      · exact ih z
/-- a sorted row stays sorted -/
theorem ins_pw {K : Nat → Int32} {k : Int32} {p : Nat} {l : List Nat} {Q : Nat → Nat → Prop} (hs : l.Pairwise (fun x y => ¬ K y < K x)) (hQ : l.Pairwise Q) (h1 : ∀ x, x ∈ l → ¬ k < K x → Q x p) (h2 : ∀ y, y ∈ l → k < K y → Q p y) : (ins K k p l).Pairwise Q := by
  have hQ' : (l.takeWhile (fun x => decide (¬ k < K x)) ++ l.dropWhile (fun x => decide (¬ k < K x))).Pairwise Q := by rw [List.takeWhile_append_dropWhile]; exact hQ
  have hm : ∀ x, x ∈ l.takeWhile (fun x => decide (¬ k < K x)) ∨ x ∈ l.dropWhile (fun x => decide (¬ k < K x)) → x ∈ l := fun x hx => by
    rw [← List.mem_append, List.takeWhile_append_dropWhile] at hx; exact hx
  have h3 := List.pairwise_append.mp hQ'
  unfold ins
  refine List.pairwise_append.mpr ⟨h3.1, List.pairwise_cons.mpr ⟨fun y hy => h2 y (hm y (Or.inr hy)) (dW_ge hs y hy), h3.2.1⟩, fun x hx y hy => ?_⟩
  rcases List.mem_cons.mp hy with z | z
  · rw [z]; exact h1 x (hm x (Or.inl hx)) (tW_le hx)
  · exact h3.2.2 x hx y z
-- units of all
theorem su_congr {U U1 : Nat → Nat → Nat} {q : Nat} : ∀ {n : Nat}, (∀ p, p < n → U1 p q = U p q) → su U1 q n = su U q n := by
  intro n
  induction n with
  | zero => intro _; rfl
  | succ n ih =>
    intro h
    show su U1 q n + U1 n q = su U q n + U n q
    rw [ih (fun p hp => h p (by omega)), h n (by omega)]
theorem su_up {U : Nat → Nat → Nat} {q p v : Nat} : ∀ {n : Nat}, p < n → su (up2 U p q v) q n + U p q = su U q n + v := by
  intro n
  induction n with
  | zero => intro h; omega
  | succ n ih =>
    intro h
    show su (up2 U p q v) q n + up2 U p q v n q + U p q = su U q n + U n q + v
    by_cases c : p = n
    · subst c
      rw [up2_s, su_congr (U := U) (fun x hx => up2_n (fun z => by omega))]; omega
    · rw [up2_n (fun z => c z.1.symm)]
      have := ih (by omega)
      omega
theorem su_o {U : Nat → Nat → Nat} {q q1 p v n : Nat} (h : ¬ q = q1) : su (up2 U p q1 v) q n = su U q n := su_congr (fun _ _ => up2_n (fun z => h z.2))
theorem su_le {U : Nat → Nat → Nat} {q p : Nat} : ∀ {n : Nat}, p < n → U p q ≤ su U q n := by
  intro n
  induction n with
  | zero => intro h; omega
  | succ n ih =>
    intro h
    show U p q ≤ su U q n + U n q
    by_cases c : p = n
    · subst c; omega
    · have := ih (by omega); omega
theorem wl_sub {o : Option Nat} {l l1 : List Nat} (h : List.Sublist l l1) : wl o l ≤ wl o l1 := (h.filter _).length_le
theorem wl_none {l : List Nat} : wl none l = l.length := by
  unfold wl
  rw [List.filter_eq_self.mpr]
  intro x _
  exact decide_eq_true (fun z => by cases z)
theorem wl_out {p : Nat} {l : List Nat} (h : p ∉ l) : wl (some p) l = l.length := by
  unfold wl
  rw [List.filter_eq_self.mpr]
  intro x hx
  exact decide_eq_true (fun z => h (Option.some.inj z ▸ hx))
theorem wl_le {o : Option Nat} {l : List Nat} : wl o l ≤ l.length := List.length_filter_le ..
