/-! THE TEXT: feed and end on both sides. -/
theorem gI_wI {s : ts} {f i a b : Nat} {x : Int32} : gI (wI s f i x) a b = if a = f ∧ b = i then x else gI s a b := rfl
theorem gI_wIs {s : ts} {f i : Nat} {x : Int32} : gI (wI s f i x) f i = x := if_pos ⟨rfl, rfl⟩
theorem gI_wIn {s : ts} {f i a b : Nat} {x : Int32} (h : ¬ a = f) : gI (wI s f i x) a b = gI s a b := if_neg (fun z => h z.1)
theorem gA_wA {s : ts} {f i a b : Nat} {x : Int32} : gA (wA s f i x) a b = if a = f ∧ b = i then x else gA s a b := rfl
theorem gA_wAs {s : ts} {f i : Nat} {x : Int32} : gA (wA s f i x) f i = x := if_pos ⟨rfl, rfl⟩
theorem gA_wAn {s : ts} {f i b : Nat} {x : Int32} (h : ¬ b = i) : gA (wA s f i x) f b = gA s f b := if_neg (fun z => h z.2)
theorem gI_wA {s : ts} {f i a b : Nat} {x : Int32} : gI (wA s f i x) a b = gI s a b := rfl
theorem gA_wI {s : ts} {f i a b : Nat} {x : Int32} : gA (wI s f i x) a b = gA s a b := rfl
theorem nI_ad (a b : Nat) : nI a + nI b = nI (a + b) := (Int32.ofNat_add a b).symm
theorem nI_inj {a b : Nat} (ha : a < 2 ^ 31) (hb : b < 2 ^ 31) (h : nI a = nI b) : a = b := by
  have := congrArg Int32.toNatClampNeg h
  rwa [nI_clamp ha, nI_clamp hb] at this
theorem nI_idx {c N : Nat} (h : c < N) (hN : N < 2 ^ 31) : am_idx (nI c) N = true := decide_eq_true (nI_in h hN)
/-- the text, as both hold it -/
def iv_t (s : ts) : Prop := ∃ n, n ≤ 4000 ∧ gI s 1 0 = nI n ∧ gI s 1101 0 = nI n ∧ ∀ k, k < n → ∃ b, b < 256 ∧ gA s 88 k = nI b ∧ gA s 6 k &&& 255 = nI b
theorem byte_and (x : Int32) : x.toInt8.toInt32 &&& 255 = x &&& 255 := by
  apply Int32.toBitVec_inj.mp
  apply BitVec.eq_of_getLsbD_eq
  intro i hi
  simp only [Int32.toBitVec_and, Int8.toBitVec_toInt32, Int32.toBitVec_toInt8, BitVec.getLsbD_and, BitVec.getLsbD_signExtend, BitVec.getLsbD_setWidth]
  by_cases h8 : i < 8
  · simp [h8, hi]
  · have key : ∀ i, i < 32 → ¬ i < 8 → (Int32.toBitVec 255).getLsbD i = false := by decide
    rw [key i hi h8, Bool.and_false, Bool.and_false]
theorem byte_nI (x : Int32) : ∃ b, b < 256 ∧ x &&& 255 = nI b := pk_andE x (m := 255) 8 (by decide)
-- the class: four bytes
def ap1 (s : ts) (m : Nat) (x : Int32) : ts := wI (wA s 6 m x.toInt8.toInt32) 1 0 (nI (m + 1))
theorem ap_step {kk : Int32 → Int32 → ts → Option ts} {a sh : Int32} {s : ts} {m : Nat} (hm : m < 4000) (hl : gI s 1 0 = nI m) (hsh : ¬ sh < 0) : cX_append_3_b kk a sh s = kk a (sh + (-8)) (ap1 s m (a >>> (sh &&& 31))) := by
  unfold cX_append_3_b
  rw [if_neg hsh, hl]
  rw [if_neg (show ¬ (4000 : Int32) ≤ nI m from nI_ge (b := 4000) (a := m) hm (by decide))]
  rw [if_pos (nI_idx hm (by decide)), nI_clamp (by omega), pk_vb]
  have e : gI (wA s 6 m ((a >>> (sh &&& 31)).toInt8.toInt32)) 1 0 = nI m := hl
  rw [e]
  have e2 : nI m + 1 = nI (m + 1) := (nI_succ m).symm
  rw [e2]
  rfl
theorem ap_end {kk : Int32 → Int32 → ts → Option ts} {a sh : Int32} {s : ts} (hsh : sh < 0) : cX_append_3_b kk a sh s = some s := by
  unfold cX_append_3_b
  rw [if_pos hsh]
theorem ap_ap1 {s : ts} {m : Nat} {x : Int32} : gI (ap1 s m x) 1 0 = nI (m + 1) := gI_wIs
def ap4 (s : ts) (m : Nat) (a : Int32) : ts := ap1 (ap1 (ap1 (ap1 s m (a >>> (24 &&& 31))) (m + 1) (a >>> (16 &&& 31))) (m + 2) (a >>> (8 &&& 31))) (m + 3) (a >>> (0 &&& 31))
theorem append_ok {a : Int32} {s : ts} {m : Nat} (hm : m + 4 ≤ 4000) (hl : gI s 1 0 = nI m) : cX_append a s = some (ap4 s m a) := by
  unfold cX_append
  rw [show tm_N = 999999995 + 1 + 1 + 1 + 1 + 1 from rfl]
  rw [cX_append_3.eq_2, ap_step (m := m) (by omega) hl (by decide)]
  rw [cX_append_3.eq_2, ap_step (m := m + 1) (by omega) ap_ap1 (by decide)]
  rw [cX_append_3.eq_2, ap_step (m := m + 2) (by omega) ap_ap1 (by decide)]
  rw [cX_append_3.eq_2, ap_step (m := m + 3) (by omega) ap_ap1 (by decide)]
  rw [cX_append_3.eq_2, ap_end (by decide)]
  rfl
theorem ap1_fr {s : ts} {m : Nat} {x : Int32} : fr [1, 2006] s (ap1 s m x) := fr_wI (fr_wA fr_rf rfl) rfl
theorem ap4_fr {s : ts} {m : Nat} {a : Int32} : fr [1, 2006] s (ap4 s m a) := fr_tr (fr_tr (fr_tr ap1_fr ap1_fr) ap1_fr) ap1_fr
theorem ap1_s {s : ts} {m : Nat} {x : Int32} : gA (ap1 s m x) 6 m = x.toInt8.toInt32 := gA_wAs
theorem ap1_n {s : ts} {m k : Nat} {x : Int32} (h : ¬ k = m) : gA (ap1 s m x) 6 k = gA s 6 k := gA_wAn h
/-- the j-th byte of a word -/
def bt (a : Int32) (j : Nat) : Int32 := a >>> (nI (24 - 8 * j) &&& 31)
theorem ap4_old {s : ts} {m k : Nat} {a : Int32} (h : k < m ∨ m + 4 ≤ k) : gA (ap4 s m a) 6 k = gA s 6 k := by
  unfold ap4
  rw [ap1_n (by omega), ap1_n (by omega), ap1_n (by omega), ap1_n (by omega)]
theorem ap4_new {s : ts} {m j : Nat} {a : Int32} (h : j < 4) : gA (ap4 s m a) 6 (m + j) = (bt a j).toInt8.toInt32 := by
  unfold ap4
  rcases (show j = 0 ∨ j = 1 ∨ j = 2 ∨ j = 3 by omega) with rfl | rfl | rfl | rfl
  · rw [ap1_n (by omega), ap1_n (by omega), ap1_n (by omega), Nat.add_zero, ap1_s]; rfl
  · rw [ap1_n (by omega), ap1_n (by omega), ap1_s]; rfl
  · rw [ap1_n (by omega), ap1_s]; rfl
  · rw [ap1_s]; rfl
theorem ap4_len {s : ts} {m : Nat} {a : Int32} : gI (ap4 s m a) 1 0 = nI (m + 4) := ap_ap1
/-- the word that a byte of twenty is of -/
def wd (a b c d e : Int32) (j : Nat) : Int32 := if j < 4 then a else if j < 8 then b else if j < 12 then c else if j < 16 then d else e
theorem feedX_ok {a b c d e : Int32} {s : ts} {n : Nat} (hn : n + 20 ≤ 4000) (hl : gI s 1 0 = nI n) : ∃ s1, cX_feed a b c d e s = some (nI (n + 20), s1) ∧ fr [1, 2006] s s1 ∧ gI s1 1 0 = nI (n + 20) ∧ (∀ k, k < n → gA s1 6 k = gA s 6 k) ∧ ∀ j, j < 20 → gA s1 6 (n + j) = (bt (wd a b c d e j) (j % 4)).toInt8.toInt32 := by
  have h0 := append_ok (a := a) (by omega : n + 4 ≤ 4000) hl
  have h1 := append_ok (a := b) (by omega : n + 4 + 4 ≤ 4000) (ap4_len (s := s) (m := n) (a := a))
  have h2 := append_ok (a := c) (by omega : n + 4 + 4 + 4 ≤ 4000) (ap4_len (s := ap4 s n a) (m := n + 4) (a := b))
  have h3 := append_ok (a := d) (by omega : n + 4 + 4 + 4 + 4 ≤ 4000) (ap4_len (s := ap4 (ap4 s n a) (n + 4) b) (m := n + 4 + 4) (a := c))
  have h4 := append_ok (a := e) (by omega : n + 4 + 4 + 4 + 4 + 4 ≤ 4000) (ap4_len (s := ap4 (ap4 (ap4 s n a) (n + 4) b) (n + 4 + 4) c) (m := n + 4 + 4 + 4) (a := d))
  refine ⟨ap4 (ap4 (ap4 (ap4 (ap4 s n a) (n + 4) b) (n + 4 + 4) c) (n + 4 + 4 + 4) d) (n + 4 + 4 + 4 + 4) e, ?_, fr_tr (fr_tr (fr_tr (fr_tr ap4_fr ap4_fr) ap4_fr) ap4_fr) ap4_fr, ap4_len, ?_, ?_⟩
  · unfold cX_feed
    rw [hl]
    rw [if_pos (show nI n + (20 : Int32) ≤ (4000 : Int32) from show nI n + nI 20 ≤ nI 4000 by rw [nI_ad]; exact nI_le (by omega) (by decide))]
    rw [h0, Option.bind_some, h1, Option.bind_some, h2, Option.bind_some, h3, Option.bind_some, h4, Option.bind_some, ap4_len]
  · intro k hk
    rw [ap4_old (by omega), ap4_old (by omega), ap4_old (by omega), ap4_old (by omega), ap4_old (by omega)]
  · intro j hj
    unfold wd
    by_cases g1 : j < 4
    · rw [if_pos g1, ap4_old (by omega), ap4_old (by omega), ap4_old (by omega), ap4_old (by omega), ap4_new g1, show j % 4 = j by omega]
    · rw [if_neg g1]
      by_cases g2 : j < 8
      · rw [if_pos g2, ap4_old (by omega), ap4_old (by omega), ap4_old (by omega), show n + j = n + 4 + j % 4 by omega, ap4_new (by omega)]
      · rw [if_neg g2]
        by_cases g3 : j < 12
        · rw [if_pos g3, ap4_old (by omega), ap4_old (by omega), show n + j = n + 4 + 4 + j % 4 by omega, ap4_new (by omega)]
        · rw [if_neg g3]
          by_cases g4 : j < 16
          · rw [if_pos g4, ap4_old (by omega), show n + j = n + 4 + 4 + 4 + j % 4 by omega, ap4_new (by omega)]
          · rw [if_neg g4, show n + j = n + 4 + 4 + 4 + 4 + j % 4 by omega, ap4_new (by omega)]
-- the reference: byte by byte
theorem feedR_71 {kk : Int32 → Int32 → Int32 → Int32 → Int32 → Int32 → ts → Option (Int32 × ts)} {a b c d e t : Int32} {s : ts} {n j : Nat} (hn : n + j < 4000) (hj : j < 20) (hl : gI s 1101 0 = nI (n + j)) : cR_feed_71 kk a b c d e (nI j) t s = kk a b c d e (nI (j + 1)) (wI (wA s 88 (n + j) (bt t (j % 4) &&& 255)) 1101 0 (nI (n + j + 1))) := by
  unfold cR_feed_71
  rw [hl, if_pos (nI_idx hn (by decide)), nI_clamp (by omega)]
  have e1 : nI j - nI j / nI 4 * nI 4 = nI (j % 4) := pk_rem (by omega) (by decide) (by decide)
  have e2 : (24 : Int32) - 8 * (nI j - nI j / 4 * 4) = nI (24 - 8 * (j % 4)) := by
    show nI 24 - nI 8 * (nI j - nI j / nI 4 * nI 4) = _
    rw [e1, pk_mul, pk_sub (by omega)]
  rw [e2]
  have e3 : nI j + 1 = nI (j + 1) := (nI_succ j).symm
  rw [e3]
  have e4 : gI (wA s 88 (n + j) (t >>> (nI (24 - 8 * (j % 4)) &&& 31) &&& 255)) 1101 0 = nI (n + j) := hl
  rw [e4]
  have e5 : nI (n + j) + 1 = nI (n + j + 1) := (nI_succ _).symm
  rw [e5]
  rfl
theorem feedR_b {kk : Int32 → Int32 → Int32 → Int32 → Int32 → Int32 → ts → Option (Int32 × ts)} {a b c d e : Int32} {s : ts} {j : Nat} (hj : j < 20) : cR_feed_18_b kk a b c d e (nI j) s = cR_feed_71 kk a b c d e (nI j) (wd a b c d e j) s := by
  unfold cR_feed_18_b wd
  rw [if_neg (show ¬ (20 : Int32) ≤ nI j from nI_ge (b := 20) (a := j) hj (by decide))]
  by_cases g1 : j < 4
  · rw [if_neg (show ¬ (4 : Int32) ≤ nI j from nI_ge (b := 4) (a := j) g1 (by decide)), if_pos g1]
  · rw [if_pos (show (4 : Int32) ≤ nI j from nI_le (a := 4) (b := j) (by omega) (by omega)), if_neg g1]
    by_cases g2 : j < 8
    · rw [if_neg (show ¬ (8 : Int32) ≤ nI j from nI_ge (b := 8) (a := j) g2 (by decide)), if_pos g2]
    · rw [if_pos (show (8 : Int32) ≤ nI j from nI_le (a := 8) (b := j) (by omega) (by omega)), if_neg g2]
      by_cases g3 : j < 12
      · rw [if_neg (show ¬ (12 : Int32) ≤ nI j from nI_ge (b := 12) (a := j) g3 (by decide)), if_pos g3]
      · rw [if_pos (show (12 : Int32) ≤ nI j from nI_le (a := 12) (b := j) (by omega) (by omega)), if_neg g3]
        by_cases g4 : j < 16
        · rw [if_neg (show ¬ (16 : Int32) ≤ nI j from nI_ge (b := 16) (a := j) g4 (by decide)), if_pos g4]
        · rw [if_pos (show (16 : Int32) ≤ nI j from nI_le (a := 16) (b := j) (by omega) (by omega)), if_neg g4]
theorem feedR_lp {a b c d e : Int32} {n : Nat} (hn : n + 20 ≤ 4000) : ∀ (m j : Nat) (s : ts), j + m = 20 → gI s 1101 0 = nI (n + j) → ∀ F, m < F → ∃ s1, cR_feed_18 F a b c d e (nI j) s = some (nI (n + 20), s1) ∧ fr [1101, 2088] s s1 ∧ gI s1 1101 0 = nI (n + 20) ∧ (∀ k, k < n + j → gA s1 88 k = gA s 88 k) ∧ ∀ i, j ≤ i → i < 20 → gA s1 88 (n + i) = bt (wd a b c d e i) (i % 4) &&& 255 := by
  intro m
  induction m with
  | zero =>
    intro j s hj hl F hF
    obtain ⟨F, rfl⟩ : ∃ G, F = G + 1 := ⟨F - 1, by omega⟩
    have hj : j = 20 := by omega
    subst hj
    rw [cR_feed_18.eq_2]
    unfold cR_feed_18_b
    rw [if_pos (show (20 : Int32) ≤ nI 20 from nI_le (a := 20) (b := 20) (by omega) (by decide)), hl]
    exact ⟨s, rfl, fr_rf, hl, fun _ _ => rfl, fun i h1 h2 => by omega⟩
  | succ m ih =>
    intro j s hj hl F hF
    obtain ⟨F, rfl⟩ : ∃ G, F = G + 1 := ⟨F - 1, by omega⟩
    rw [cR_feed_18.eq_2, feedR_b (by omega), feedR_71 (n := n) (by omega) (by omega) hl]
    obtain ⟨s1, h1, h2, h3, h4, h5⟩ := ih (j + 1) (wI (wA s 88 (n + j) (bt (wd a b c d e j) (j % 4) &&& 255)) 1101 0 (nI (n + j + 1))) (by omega) gI_wIs F (by omega)
    refine ⟨s1, h1, fr_tr (fr_wI (fr_wA fr_rf rfl) rfl) h2, h3, ?_, ?_⟩
    · intro k hk
      rw [h4 k (by omega), gA_wI, gA_wAn (by omega)]
    · intro i hi1 hi2
      by_cases e : i = j
      · subst e
        rw [h4 (n + i) (by omega), gA_wI, gA_wAs]
      · exact h5 i (by omega) hi2
theorem feed_ok {X : ts → Prop} (hX : ∀ s s1, fr [1, 1101, 2006, 2088] s s1 → X s → X s1) : st_feed (fun s => iv_t s ∧ X s) := by
  intro a b c d e s hs
  obtain ⟨⟨n, hn, h1, h2, h3⟩, hx⟩ := hs
  by_cases hg : n + 20 ≤ 4000
  · obtain ⟨s1, f1, f2, f3, f4, f5⟩ := feedX_ok (a := a) (b := b) (c := c) (d := d) (e := e) hg h1
    have hl : gI s1 1101 0 = nI (n + 0) := (f2.1 1101 (by decide) 0).trans h2
    obtain ⟨s2, g1, g2, g3, g4, g5⟩ := feedR_lp (a := a) (b := b) (c := c) (d := d) (e := e) hg 20 0 s1 (by omega) hl tm_N (by decide)
    refine ⟨nI (n + 20), s1, s2, f1, ?_, ⟨n + 20, by omega, ?_, g3, ?_⟩, hX s s2 (fr_tr (fr_mono (by decide) f2) (fr_mono (by decide) g2)) hx⟩
    · unfold cR_feed
      rw [hl]
      rw [if_pos (show nI (n + 0) + (20 : Int32) ≤ (4000 : Int32) from show nI (n + 0) + nI 20 ≤ nI 4000 by rw [nI_ad]; exact nI_le (by omega) (by decide))]
      exact g1
    · rw [g2.1 1 (by decide) 0]; exact f3
    · intro k hk
      by_cases hkn : k < n
      · obtain ⟨b, hb, e1, e2⟩ := h3 k hkn
        refine ⟨b, hb, ?_, ?_⟩
        · rw [g4 k (by omega), f2.2.1 88 (by decide) k]; exact e1
        · rw [g2.2.1 6 (by decide) k, f4 k hkn]; exact e2
      · obtain ⟨j, rfl⟩ : ∃ j, k = n + j := ⟨k - n, by omega⟩
        obtain ⟨b, hb, e1⟩ := byte_nI (bt (wd a b c d e j) (j % 4))
        refine ⟨b, hb, ?_, ?_⟩
        · rw [g5 j (by omega) (by omega)]; exact e1
        · rw [g2.2.1 6 (by decide) _, f5 j (by omega), byte_and]; exact e1
  · refine ⟨-1, s, s, ?_, ?_, ⟨n, hn, h1, h2, h3⟩, hx⟩
    · unfold cX_feed
      rw [h1, if_neg (show ¬ nI n + (20 : Int32) ≤ (4000 : Int32) from show ¬ nI n + nI 20 ≤ nI 4000 by rw [nI_ad]; exact nI_ge (by omega) (by omega))]
    · unfold cR_feed
      rw [h2, if_neg (show ¬ nI n + (20 : Int32) ≤ (4000 : Int32) from show ¬ nI n + nI 20 ≤ nI 4000 by rw [nI_ad]; exact nI_ge (by omega) (by omega))]
theorem end_ok {X : ts → Prop} (hX : ∀ s s1, fr [1, 1101, 2006, 2088] s s1 → X s → X s1) : st_end (fun s => iv_t s ∧ X s) := by
  intro a s hs
  obtain ⟨⟨n, hn, h1, h2, h3⟩, hx⟩ := hs
  have bad : ∀ (c : Prop), True := fun _ => trivial
  by_cases ha : a < 0
  · exact ⟨-1, s, s, by unfold cX_end; rw [if_pos ha], by unfold cR_end; rw [if_pos ha], ⟨n, hn, h1, h2, h3⟩, hx⟩
  · by_cases hb : (20 : Int32) < a
    · exact ⟨-1, s, s, by unfold cX_end; rw [if_neg ha, if_pos hb], by unfold cR_end; rw [if_neg ha, if_pos hb], ⟨n, hn, h1, h2, h3⟩, hx⟩
    · obtain ⟨j, hj, rfl, -⟩ := pk_mu (x := a) (L := 21) ha (fun z => hb (Int32.lt_of_lt_of_le (by decide) z)) (by decide)
      by_cases hg : 20 ≤ n
      · have e1 : nI n - 20 + nI j = nI (n - 20 + j) := by
          show nI n - nI 20 + nI j = _
          rw [pk_sub hg, nI_ad]
        have e2 : nI n + (nI j - 20) = nI (n - 20 + j) := by
          rw [← e1]
          show nI n + (nI j - nI 20) = nI n - nI 20 + nI j
          rw [Int32.sub_eq_add_neg, Int32.sub_eq_add_neg, Int32.add_assoc, Int32.add_comm (nI j)]
        refine ⟨nI (n - 20 + j), wI s 1 0 (nI (n - 20 + j)), wI (wI s 1 0 (nI (n - 20 + j))) 1101 0 (nI (n - 20 + j)), ?_, ?_, ⟨n - 20 + j, by omega, ?_, gI_wIs, ?_⟩, hX s _ (fr_wI (fr_wI fr_rf rfl) rfl) hx⟩
        · unfold cX_end
          rw [if_neg ha, if_neg hb, h1, if_pos (show (20 : Int32) ≤ nI n from nI_le hg (by omega)), e1, gI_wIs]
        · unfold cR_end
          rw [gI_wIn (by decide), if_neg ha, if_neg hb, h2, if_pos (show (20 : Int32) ≤ nI n from nI_le hg (by omega)), e2, gI_wIs]
        · rw [gI_wIn (by decide), gI_wIs]
        · intro k hk
          exact h3 k (by omega)
      · refine ⟨-1, s, s, ?_, ?_, ⟨n, hn, h1, h2, h3⟩, hx⟩
        · unfold cX_end
          rw [if_neg ha, if_neg hb, h1, if_neg (show ¬ (20 : Int32) ≤ nI n from nI_ge (b := 20) (a := n) (by omega) (by decide))]
        · unfold cR_end
          rw [if_neg ha, if_neg hb, h2, if_neg (show ¬ (20 : Int32) ≤ nI n from nI_ge (b := 20) (a := n) (by omega) (by decide))]
/-- the seed, as both hold it -/
def iv_s (s : ts) : Prop := gI s 801 0 = gI s 1158 0 ∧ 0 ≤ gI s 801 0
theorem seed_ok {X : ts → Prop} (hX : ∀ s s1, fr [801, 1158] s s1 → X s → X s1) : st_seed (fun s => iv_s s ∧ X s) := by
  intro a s hs
  obtain ⟨⟨h1, h2⟩, hx⟩ := hs
  by_cases ha : 0 ≤ a
  · refine ⟨gI s 801 0, wI s 801 0 a, wI (wI s 801 0 a) 1158 0 a, ?_, ?_, ⟨?_, ?_⟩, hX s _ (fr_wI (fr_wI fr_rf rfl) rfl) hx⟩
    · unfold cX_seed cW_changeSeed
      rw [if_pos ha]; rfl
    · unfold cR_seed
      rw [if_pos ha, gI_wIn (by decide), ← h1]
    · rw [gI_wIn (by decide), gI_wIs, gI_wIs]
    · rw [gI_wIn (by decide), gI_wIs]; exact ha
  · refine ⟨-1, s, s, ?_, ?_, ⟨h1, h2⟩, hx⟩
    · unfold cX_seed; rw [if_neg ha]
    · unfold cR_seed; rw [if_neg ha]
