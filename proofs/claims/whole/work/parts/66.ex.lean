/-! A SMALL EXECUTOR: simp that reads behind writes and decides conditions by omega. -/
theorem lit (n : Nat) : (OfNat.ofNat n : Int32) = nI (OfNat.ofNat n) := rfl
theorem idxI {a N : Nat} (h : a < N) (hN : N < 2 ^ 31) : (am_idx (nI a) N = true) = True := eq_true (nI_idx h hN)
theorem gJ_wJ {s : ts} {f i a b : Nat} {x : Int64} : gJ (wJ s f i x) a b = if a = f ∧ b = i then x else gJ s a b := rfl
theorem gB_wB {s : ts} {f i a b : Nat} {x : Int64} : gB (wB s f i x) a b = if a = f ∧ b = i then x else gB s a b := rfl
theorem gV_wV {s : ts} {f i a b : Nat} {x : Int32} : gV (wV s f i x) a b = if a = f ∧ b = i then x else gV s a b := rfl
theorem gU_wU {s : ts} {f i a b : Nat} {x : Int32} : gU (wU s f i x) a b = if a = f ∧ b = i then x else gU s a b := rfl
theorem gI_wJ {s : ts} {f i a b : Nat} {x : Int64} : gI (wJ s f i x) a b = gI s a b := rfl
theorem gI_wR {s : ts} {f i a b : Nat} {x : Option Nat} : gI (wR s f i x) a b = gI s a b := rfl
theorem gI_wB {s : ts} {f i a b : Nat} {x : Int64} : gI (wB s f i x) a b = gI s a b := rfl
theorem gI_wV {s : ts} {f i a b : Nat} {x : Int32} : gI (wV s f i x) a b = gI s a b := rfl
theorem gI_wU {s : ts} {f i a b : Nat} {x : Int32} : gI (wU s f i x) a b = gI s a b := rfl
theorem gJ_wI {s : ts} {f i a b : Nat} {x : Int32} : gJ (wI s f i x) a b = gJ s a b := rfl
theorem gJ_wR {s : ts} {f i a b : Nat} {x : Option Nat} : gJ (wR s f i x) a b = gJ s a b := rfl
theorem gJ_wA {s : ts} {f i a b : Nat} {x : Int32} : gJ (wA s f i x) a b = gJ s a b := rfl
theorem gJ_wB {s : ts} {f i a b : Nat} {x : Int64} : gJ (wB s f i x) a b = gJ s a b := rfl
theorem gJ_wV {s : ts} {f i a b : Nat} {x : Int32} : gJ (wV s f i x) a b = gJ s a b := rfl
theorem gJ_wU {s : ts} {f i a b : Nat} {x : Int32} : gJ (wU s f i x) a b = gJ s a b := rfl
theorem gR_wI {s : ts} {f i a b : Nat} {x : Int32} : gR (wI s f i x) a b = gR s a b := rfl
theorem gR_wJ {s : ts} {f i a b : Nat} {x : Int64} : gR (wJ s f i x) a b = gR s a b := rfl
theorem gR_wA {s : ts} {f i a b : Nat} {x : Int32} : gR (wA s f i x) a b = gR s a b := rfl
theorem gR_wB {s : ts} {f i a b : Nat} {x : Int64} : gR (wB s f i x) a b = gR s a b := rfl
theorem gR_wV {s : ts} {f i a b : Nat} {x : Int32} : gR (wV s f i x) a b = gR s a b := rfl
theorem gR_wU {s : ts} {f i a b : Nat} {x : Int32} : gR (wU s f i x) a b = gR s a b := rfl
theorem gA_wJ {s : ts} {f i a b : Nat} {x : Int64} : gA (wJ s f i x) a b = gA s a b := rfl
theorem gA_wR {s : ts} {f i a b : Nat} {x : Option Nat} : gA (wR s f i x) a b = gA s a b := rfl
theorem gA_wB {s : ts} {f i a b : Nat} {x : Int64} : gA (wB s f i x) a b = gA s a b := rfl
theorem gA_wV {s : ts} {f i a b : Nat} {x : Int32} : gA (wV s f i x) a b = gA s a b := rfl
theorem gA_wU {s : ts} {f i a b : Nat} {x : Int32} : gA (wU s f i x) a b = gA s a b := rfl
theorem gB_wI {s : ts} {f i a b : Nat} {x : Int32} : gB (wI s f i x) a b = gB s a b := rfl
theorem gB_wJ {s : ts} {f i a b : Nat} {x : Int64} : gB (wJ s f i x) a b = gB s a b := rfl
theorem gB_wR {s : ts} {f i a b : Nat} {x : Option Nat} : gB (wR s f i x) a b = gB s a b := rfl
theorem gB_wA {s : ts} {f i a b : Nat} {x : Int32} : gB (wA s f i x) a b = gB s a b := rfl
theorem gB_wV {s : ts} {f i a b : Nat} {x : Int32} : gB (wV s f i x) a b = gB s a b := rfl
theorem gB_wU {s : ts} {f i a b : Nat} {x : Int32} : gB (wU s f i x) a b = gB s a b := rfl
theorem gV_wI {s : ts} {f i a b : Nat} {x : Int32} : gV (wI s f i x) a b = gV s a b := rfl
theorem gV_wJ {s : ts} {f i a b : Nat} {x : Int64} : gV (wJ s f i x) a b = gV s a b := rfl
theorem gV_wR {s : ts} {f i a b : Nat} {x : Option Nat} : gV (wR s f i x) a b = gV s a b := rfl
theorem gV_wA {s : ts} {f i a b : Nat} {x : Int32} : gV (wA s f i x) a b = gV s a b := rfl
theorem gV_wB {s : ts} {f i a b : Nat} {x : Int64} : gV (wB s f i x) a b = gV s a b := rfl
theorem gV_wU {s : ts} {f i a b : Nat} {x : Int32} : gV (wU s f i x) a b = gV s a b := rfl
theorem gU_wI {s : ts} {f i a b : Nat} {x : Int32} : gU (wI s f i x) a b = gU s a b := rfl
theorem gU_wJ {s : ts} {f i a b : Nat} {x : Int64} : gU (wJ s f i x) a b = gU s a b := rfl
theorem gU_wR {s : ts} {f i a b : Nat} {x : Option Nat} : gU (wR s f i x) a b = gU s a b := rfl
theorem gU_wA {s : ts} {f i a b : Nat} {x : Int32} : gU (wA s f i x) a b = gU s a b := rfl
theorem gU_wB {s : ts} {f i a b : Nat} {x : Int64} : gU (wB s f i x) a b = gU s a b := rfl
theorem gU_wV {s : ts} {f i a b : Nat} {x : Int32} : gU (wV s f i x) a b = gU s a b := rfl
theorem gM_wI {s : ts} {f i : Nat} {x : Int32} : gM (wI s f i x) = gM s := rfl
theorem gM_wJ {s : ts} {f i : Nat} {x : Int64} : gM (wJ s f i x) = gM s := rfl
theorem gM_wR {s : ts} {f i : Nat} {x : Option Nat} : gM (wR s f i x) = gM s := rfl
theorem gM_wA {s : ts} {f i : Nat} {x : Int32} : gM (wA s f i x) = gM s := rfl
theorem gM_wB {s : ts} {f i : Nat} {x : Int64} : gM (wB s f i x) = gM s := rfl
theorem gM_wV {s : ts} {f i : Nat} {x : Int32} : gM (wV s f i x) = gM s := rfl
theorem gM_wU {s : ts} {f i : Nat} {x : Int32} : gM (wU s f i x) = gM s := rfl
theorem n1_n {a : Nat} (h : a < 2 ^ 31) : (nI a = -nI 1) = False := eq_false (fun z => by have := nI_pos' (n := a) h; rw [z] at this; exact absurd this (by decide))
theorem n2_n {a : Nat} (h : a < 2 ^ 31) : (nI a = -nI 2) = False := eq_false (fun z => by have := nI_pos' (n := a) h; rw [z] at this; exact absurd this (by decide))
theorem n1_m {a : Nat} (h : a < 2 ^ 31) : (-nI 1 = nI a) = False := eq_false (fun z => by have := nI_pos' (n := a) h; rw [← z] at this; exact absurd this (by decide))
theorem n2_m {a : Nat} (h : a < 2 ^ 31) : (-nI 2 = nI a) = False := eq_false (fun z => by have := nI_pos' (n := a) h; rw [← z] at this; exact absurd this (by decide))
theorem n1_2 : (-nI 1 = -nI 2) = False := eq_false (by decide)
theorem n2_1 : (-nI 2 = -nI 1) = False := eq_false (by decide)
theorem n1_lt {a : Nat} (h : a < 2 ^ 31) : (-nI 1 < nI a) = True := eq_true (Int32.lt_of_lt_of_le (by decide) (nI_pos' h))
theorem n2_lt {a : Nat} (h : a < 2 ^ 31) : (-nI 2 < nI a) = True := eq_true (Int32.lt_of_lt_of_le (by decide) (nI_pos' h))
theorem n1_le {a : Nat} (h : a < 2 ^ 31) : (-nI 1 ≤ nI a) = True := eq_true (Int32.le_trans (by decide) (nI_pos' h))
theorem n2_le {a : Nat} (h : a < 2 ^ 31) : (-nI 2 ≤ nI a) = True := eq_true (Int32.le_trans (by decide) (nI_pos' h))
theorem n1_nlt {a : Nat} (h : a < 2 ^ 31) : (nI a < -nI 1) = False := eq_false (fun z => absurd (Int32.lt_of_le_of_lt (nI_pos' h) z) (by decide))
theorem n2_nlt {a : Nat} (h : a < 2 ^ 31) : (nI a < -nI 2) = False := eq_false (fun z => absurd (Int32.lt_of_le_of_lt (nI_pos' h) z) (by decide))
theorem n1_nle {a : Nat} (h : a < 2 ^ 31) : (nI a ≤ -nI 1) = False := eq_false (fun z => absurd (Int32.le_trans (nI_pos' h) z) (by decide))
theorem n2_nle {a : Nat} (h : a < 2 ^ 31) : (nI a ≤ -nI 2) = False := eq_false (fun z => absurd (Int32.le_trans (nI_pos' h) z) (by decide))
theorem cmp_eq {a b : Int64} : (lg_cmp a b = nI 0) = (a = b) := by
  apply propext
  constructor
  · intro h
    unfold lg_cmp at h
    split at h
    · exact absurd h (by decide)
    · split at h
      · assumption
      · exact absurd h (by decide)
  · intro h; rw [h]; exact lg_same b
theorem bnd {α β : Type} {a : α} {f : α → Option β} : (some a).bind f = f a := rfl
/-- what the executor knows -/
theorem sx : (∀ (n : Nat), (OfNat.ofNat n : Int32) = nI (OfNat.ofNat n)) ∧ (∀ {s : ts} {f i a b : Nat} {x : Int64}, gJ (wJ s f i x) a b = if a = f ∧ b = i then x else gJ s a b) ∧ (∀ {s : ts} {f i a b : Nat} {x : Int64}, gB (wB s f i x) a b = if a = f ∧ b = i then x else gB s a b) ∧ (∀ {s : ts} {f i a b : Nat} {x : Int32}, gV (wV s f i x) a b = if a = f ∧ b = i then x else gV s a b) ∧ (∀ {s : ts} {f i a b : Nat} {x : Int32}, gU (wU s f i x) a b = if a = f ∧ b = i then x else gU s a b) ∧ (∀ {s : ts} {f i a b : Nat} {x : Int64}, gI (wJ s f i x) a b = gI s a b) ∧ (∀ {s : ts} {f i a b : Nat} {x : Option Nat}, gI (wR s f i x) a b = gI s a b) ∧ (∀ {s : ts} {f i a b : Nat} {x : Int64}, gI (wB s f i x) a b = gI s a b) ∧ (∀ {s : ts} {f i a b : Nat} {x : Int32}, gI (wV s f i x) a b = gI s a b) ∧ (∀ {s : ts} {f i a b : Nat} {x : Int32}, gI (wU s f i x) a b = gI s a b) ∧ (∀ {s : ts} {f i a b : Nat} {x : Int32}, gJ (wI s f i x) a b = gJ s a b) ∧ (∀ {s : ts} {f i a b : Nat} {x : Option Nat}, gJ (wR s f i x) a b = gJ s a b) ∧ (∀ {s : ts} {f i a b : Nat} {x : Int32}, gJ (wA s f i x) a b = gJ s a b) ∧ (∀ {s : ts} {f i a b : Nat} {x : Int64}, gJ (wB s f i x) a b = gJ s a b) ∧ (∀ {s : ts} {f i a b : Nat} {x : Int32}, gJ (wV s f i x) a b = gJ s a b) ∧ (∀ {s : ts} {f i a b : Nat} {x : Int32}, gJ (wU s f i x) a b = gJ s a b) ∧ (∀ {s : ts} {f i a b : Nat} {x : Int32}, gR (wI s f i x) a b = gR s a b) ∧ (∀ {s : ts} {f i a b : Nat} {x : Int64}, gR (wJ s f i x) a b = gR s a b) ∧ (∀ {s : ts} {f i a b : Nat} {x : Int32}, gR (wA s f i x) a b = gR s a b) ∧ (∀ {s : ts} {f i a b : Nat} {x : Int64}, gR (wB s f i x) a b = gR s a b) ∧ (∀ {s : ts} {f i a b : Nat} {x : Int32}, gR (wV s f i x) a b = gR s a b) ∧ (∀ {s : ts} {f i a b : Nat} {x : Int32}, gR (wU s f i x) a b = gR s a b) ∧ (∀ {s : ts} {f i a b : Nat} {x : Int64}, gA (wJ s f i x) a b = gA s a b) ∧ (∀ {s : ts} {f i a b : Nat} {x : Option Nat}, gA (wR s f i x) a b = gA s a b) ∧ (∀ {s : ts} {f i a b : Nat} {x : Int64}, gA (wB s f i x) a b = gA s a b) ∧ (∀ {s : ts} {f i a b : Nat} {x : Int32}, gA (wV s f i x) a b = gA s a b) ∧ (∀ {s : ts} {f i a b : Nat} {x : Int32}, gA (wU s f i x) a b = gA s a b) ∧ (∀ {s : ts} {f i a b : Nat} {x : Int32}, gB (wI s f i x) a b = gB s a b) ∧ (∀ {s : ts} {f i a b : Nat} {x : Int64}, gB (wJ s f i x) a b = gB s a b) ∧ (∀ {s : ts} {f i a b : Nat} {x : Option Nat}, gB (wR s f i x) a b = gB s a b) ∧ (∀ {s : ts} {f i a b : Nat} {x : Int32}, gB (wA s f i x) a b = gB s a b) ∧ (∀ {s : ts} {f i a b : Nat} {x : Int32}, gB (wV s f i x) a b = gB s a b) ∧ (∀ {s : ts} {f i a b : Nat} {x : Int32}, gB (wU s f i x) a b = gB s a b) ∧ (∀ {s : ts} {f i a b : Nat} {x : Int32}, gV (wI s f i x) a b = gV s a b) ∧ (∀ {s : ts} {f i a b : Nat} {x : Int64}, gV (wJ s f i x) a b = gV s a b) ∧ (∀ {s : ts} {f i a b : Nat} {x : Option Nat}, gV (wR s f i x) a b = gV s a b) ∧ (∀ {s : ts} {f i a b : Nat} {x : Int32}, gV (wA s f i x) a b = gV s a b) ∧ (∀ {s : ts} {f i a b : Nat} {x : Int64}, gV (wB s f i x) a b = gV s a b) ∧ (∀ {s : ts} {f i a b : Nat} {x : Int32}, gV (wU s f i x) a b = gV s a b) ∧ (∀ {s : ts} {f i a b : Nat} {x : Int32}, gU (wI s f i x) a b = gU s a b) ∧ (∀ {s : ts} {f i a b : Nat} {x : Int64}, gU (wJ s f i x) a b = gU s a b) ∧ (∀ {s : ts} {f i a b : Nat} {x : Option Nat}, gU (wR s f i x) a b = gU s a b) ∧ (∀ {s : ts} {f i a b : Nat} {x : Int32}, gU (wA s f i x) a b = gU s a b) ∧ (∀ {s : ts} {f i a b : Nat} {x : Int64}, gU (wB s f i x) a b = gU s a b) ∧ (∀ {s : ts} {f i a b : Nat} {x : Int32}, gU (wV s f i x) a b = gU s a b) ∧ (∀ {s : ts} {f i : Nat} {x : Int32}, gM (wI s f i x) = gM s) ∧ (∀ {s : ts} {f i : Nat} {x : Int64}, gM (wJ s f i x) = gM s) ∧ (∀ {s : ts} {f i : Nat} {x : Option Nat}, gM (wR s f i x) = gM s) ∧ (∀ {s : ts} {f i : Nat} {x : Int32}, gM (wA s f i x) = gM s) ∧ (∀ {s : ts} {f i : Nat} {x : Int64}, gM (wB s f i x) = gM s) ∧ (∀ {s : ts} {f i : Nat} {x : Int32}, gM (wV s f i x) = gM s) ∧ (∀ {s : ts} {f i : Nat} {x : Int32}, gM (wU s f i x) = gM s) ∧ (∀ {a N : Nat} (h : a < N) (hN : N < 2 ^ 31), (am_idx (nI a) N = true) = True) ∧ (∀ {a : Nat} (h : a < 2 ^ 31), (nI a = -nI 1) = False) ∧ (∀ {a : Nat} (h : a < 2 ^ 31), (nI a = -nI 2) = False) ∧ (∀ {a : Nat} (h : a < 2 ^ 31), (-nI 1 = nI a) = False) ∧ (∀ {a : Nat} (h : a < 2 ^ 31), (-nI 2 = nI a) = False) ∧ ((-nI 1 = -nI 2) = False) ∧ ((-nI 2 = -nI 1) = False) ∧ (∀ {a : Nat} (h : a < 2 ^ 31), (-nI 1 < nI a) = True) ∧ (∀ {a : Nat} (h : a < 2 ^ 31), (-nI 2 < nI a) = True) ∧ (∀ {a : Nat} (h : a < 2 ^ 31), (-nI 1 ≤ nI a) = True) ∧ (∀ {a : Nat} (h : a < 2 ^ 31), (-nI 2 ≤ nI a) = True) ∧ (∀ {a : Nat} (h : a < 2 ^ 31), (nI a < -nI 1) = False) ∧ (∀ {a : Nat} (h : a < 2 ^ 31), (nI a < -nI 2) = False) ∧ (∀ {a : Nat} (h : a < 2 ^ 31), (nI a ≤ -nI 1) = False) ∧ (∀ {a : Nat} (h : a < 2 ^ 31), (nI a ≤ -nI 2) = False) ∧ (∀ {a b : Int64}, (lg_cmp a b = nI 0) = (a = b)) ∧ (∀ {s : ts} {f i a b : Nat} {x : Int32}, gI (wI s f i x) a b = if a = f ∧ b = i then x else gI s a b) ∧ (∀ {s : ts} {f i a b : Nat} {x : Int32}, gA (wA s f i x) a b = if a = f ∧ b = i then x else gA s a b) ∧ (∀ {s : ts} {f i a b : Nat} {x : Option Nat}, gR (wR s f i x) a b = if a = f ∧ b = i then x else gR s a b) ∧ (∀ {s : ts} {f i a b : Nat} {x : Int32}, gI (wA s f i x) a b = gI s a b) ∧ (∀ {s : ts} {f i a b : Nat} {x : Int32}, gA (wI s f i x) a b = gA s a b) ∧ (∀ {a b : Nat}, a < 2 ^ 31 → b < 2 ^ 31 → (nI a < nI b ↔ a < b)) ∧ (∀ {a b : Nat}, a < 2 ^ 31 → b < 2 ^ 31 → (nI a ≤ nI b ↔ a ≤ b)) ∧ (∀ {a b : Nat}, a < 2 ^ 31 → b < 2 ^ 31 → (nI a = nI b ↔ a = b)) ∧ (∀ {n : Nat}, n < 2 ^ 31 → (nI n).toNatClampNeg = n) ∧ (∀ a b : Nat, nI a + nI b = nI (a + b)) ∧ (∀ {a b : Nat}, b ≤ a → nI a - nI b = nI (a - b)) ∧ (∀ a b : Nat, nI a * nI b = nI (a * b)) := ⟨@lit, @gJ_wJ, @gB_wB, @gV_wV, @gU_wU, @gI_wJ, @gI_wR, @gI_wB, @gI_wV, @gI_wU, @gJ_wI, @gJ_wR, @gJ_wA, @gJ_wB, @gJ_wV, @gJ_wU, @gR_wI, @gR_wJ, @gR_wA, @gR_wB, @gR_wV, @gR_wU, @gA_wJ, @gA_wR, @gA_wB, @gA_wV, @gA_wU, @gB_wI, @gB_wJ, @gB_wR, @gB_wA, @gB_wV, @gB_wU, @gV_wI, @gV_wJ, @gV_wR, @gV_wA, @gV_wB, @gV_wU, @gU_wI, @gU_wJ, @gU_wR, @gU_wA, @gU_wB, @gU_wV, @gM_wI, @gM_wJ, @gM_wR, @gM_wA, @gM_wB, @gM_wV, @gM_wU, @idxI, @n1_n, @n2_n, @n1_m, @n2_m, n1_2, n2_1, @n1_lt, @n2_lt, @n1_le, @n2_le, @n1_nlt, @n2_nlt, @n1_nle, @n2_nle, @cmp_eq, @gI_wI, @gA_wA, @gR_wR, @gI_wA, @gA_wI, (fun h1 h2 => nI_ltI h1 h2), (fun h1 h2 => nI_leI h1 h2), (fun h1 h2 => nI_eq h1 h2), (fun h => nI_clamp h), nI_add, (fun h => pk_sub h), pk_mul⟩
