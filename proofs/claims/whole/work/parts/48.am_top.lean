/-! FROM THE STATEMENT'S START to the abstract machine's: what stands outside, classes, array classes. -/
theorem am_arrT {s : State} {c : ClassId} {k : Class} {comp : ClassId} {ty : FieldType} (h1 : s.vm.classes[c]? = some k) (h2 : k.kind = .array comp ty) : ArrOfT s c ty := by
  intro n z
  refine ⟨fun q h => ?_, k, h1, comp, h2⟩
  cases h
theorem am_classes {s : State} {b : Nat} (hts : ∀ w ∈ lw_tbl, w.before #[Value.ref b] s = true) : ∃ D : va_G, ∀ (k : Nat) (q : vw_C), tb_cl[k]? = some q → u_Kn s q.1 q.2.1 q.2.2 (D.1 k) (D.2 k) := by
  have hi : ∀ k, k < 12 → ∃ n, Cond.instantiable (tb_cl.getD k ("", tb_T0, 0)).1 n ∈ lw_tbl := by
    intro k hk
    match k, hk with
    | 0, _ => exact ⟨7, by decide +kernel⟩
    | 1, _ => exact ⟨10, by decide +kernel⟩
    | 2, _ => exact ⟨18, by decide +kernel⟩
    | 3, _ => exact ⟨3, by decide +kernel⟩
    | 4, _ => exact ⟨9, by decide +kernel⟩
    | 5, _ => exact ⟨13, by decide +kernel⟩
    | 6, _ => exact ⟨2, by decide +kernel⟩
    | 7, _ => exact ⟨11, by decide +kernel⟩
    | 8, _ => exact ⟨6, by decide +kernel⟩
    | 9, _ => exact ⟨7, by decide +kernel⟩
    | 10, _ => exact ⟨9, by decide +kernel⟩
    | 11, _ => exact ⟨92, by decide +kernel⟩
  have h0 : ∀ k : Nat, ∃ z : ClassId × (Nat → Nat), ∀ q : vw_C, tb_cl[k]? = some q → u_Kn s q.1 q.2.1 q.2.2 z.1 z.2 := by
    intro k
    cases hq : tb_cl[k]? with
    | none => exact ⟨(0, fun _ => 0), fun q h => by cases h⟩
    | some q =>
      have hk : k < 12 := by rw [← tb_cl_len]; exact (List.getElem?_eq_some_iff.mp hq).1
      obtain ⟨n, hn⟩ := hi k hk
      rw [List.getD_eq_getElem?_getD, hq] at hn
      obtain ⟨cC, iS, hK⟩ := u_known (C := q.1) (T := q.2.1) (N := q.2.2) (n := n) hts (tb_cl_ok k q hq).1 (hts _ hn)
      exact ⟨(cC, iS), fun q' h => by cases h; exact hK⟩
  obtain ⟨D, hD⟩ := Classical.axiomOfChoice h0
  exact ⟨(fun k => (D k).1, fun k => (D k).2), fun k q h => hD k q h⟩
theorem am_arrays {s : State} {b : Nat} (hts : ∀ w ∈ lw_tbl, w.before #[Value.ref b] s = true) : ∃ cA : FieldType → ClassId, ∀ ty ∈ tb_ats, ArrOfT s (cA ty) ty ∧ va_RA s (cA ty) ty := by
  have h0 : ∀ ty : FieldType, ∃ c : ClassId, ty ∈ tb_ats → ArrOfT s c ty ∧ va_RA s c ty := by
    intro ty
    by_cases hm : ty ∈ tb_ats
    · have prim : ∀ t : FieldType, (∀ C, t ≠ .object C) → Cond.arrayClass t ∈ lw_tbl → ∃ c : ClassId, ArrOfT s c t ∧ va_RA s c t := by
        intro t ht hw
        obtain ⟨c, k, comp, h1, h2, h3⟩ := Cond.arrayClass_spec (hts _ hw)
        refine ⟨c, am_arrT h2 h3, ?_⟩
        cases t
        case object C => exact absurd rfl (ht C)
        all_goals exact h1
      have obj : ∀ C : String, Cond.arrayOver (.object C) ∈ lw_tbl → ∃ c : ClassId, ArrOfT s c (.object C) ∧ va_RA s c (.object C) := by
        intro C hw
        obtain ⟨comp, c, k, h1, h2, h3, h4, h5⟩ := Cond.arrayOver_spec (hts _ hw)
        exact ⟨c, am_arrT h3 h4, k, comp, h3, h4, h1, h5⟩
      simp only [tb_ats, List.mem_cons, List.not_mem_nil, or_false] at hm
      rcases hm with rfl | rfl | rfl | rfl | rfl | rfl
      · obtain ⟨c, h⟩ := prim .int (fun C e => by cases e) (by decide +kernel); exact ⟨c, fun _ => h⟩
      · obtain ⟨c, h⟩ := prim .byte (fun C e => by cases e) (by decide +kernel); exact ⟨c, fun _ => h⟩
      · obtain ⟨c, h⟩ := prim .long (fun C e => by cases e) (by decide +kernel); exact ⟨c, fun _ => h⟩
      · obtain ⟨c, h⟩ := prim .boolean (fun C e => by cases e) (by decide +kernel); exact ⟨c, fun _ => h⟩
      · obtain ⟨c, h⟩ := obj "EventHall$Place" (by decide +kernel); exact ⟨c, fun _ => h⟩
      · obtain ⟨c, h⟩ := obj "EventHall$Proc" (by decide +kernel); exact ⟨c, fun _ => h⟩
    · exact ⟨0, fun h => absurd h hm⟩
  obtain ⟨cA, hA⟩ := Classical.axiomOfChoice h0
  exact ⟨cA, hA⟩
/-! THE CLAIM OUT OF ONE WALK OF THE LAW'S BODY (kit/laws/SKELETON.whole): names and its end. -/
def R_law : String := "EventHallLaw"
def lw_P (b : Addr) (xs : List Int32) (args : Array Value) (s : State) : Prop := args = #[.ref b] ∧ s.IntsAt b xs ∧ xs.length ≤ 3072 ∧ (Jvm.Cond.and given_1 narrow_1).before args s = true
def lw_Q (_ : Array Value) (s : State) (o : Outcome) (t : State) : Prop := o = .returned (some (.int 1)) ∧ Framed s o t [] 600000 7302250
def lw_Z (below : List Frame) (a : Array Value) (s : State) : State → Prop := fun t => ∃ o, t.status = .running ∧ Ended t below o ∧ lw_Q a s o t
theorem lw_ret {p : Program} {l : Launch} {e : Env} {s : State} {m : MethodId} {below : List Frame} {meth : Method} {c : Code} {b : Nat} (hx : p.tables.exec = Jvm.exec) (hb : c.code = code) (hr : meth.sig.returnType = ret) (hlocks : meth.locks = false) {pc : Nat} {H : Heap} {ls : Array Slot} (hdg : decode code pc = .ok (.ireturn, 1)) : W p l e room_1 s m #[Value.ref b] below meth c H [] 600000 7302250 (lw_Z below #[Value.ref b] s) (F0 m pc ls [.int 1]) := by
  intro T hT X
  obtain ⟨fs, hret, hrun, hended, hW, hframe⟩ := X.leave (v := some (.int 1)) (hlocks := hlocks) (fun h => by rw [hr] at h; cases h)
  have hmeth' : T.vm.method? m = some meth := X.method'
  refine ⟨T.setFrames fs, ?_, .returned (some (.int 1)), hrun, hended, rfl, ⟨_, rfl⟩, hW, hframe⟩
  jvm_step X.here [X.here.top, hx, hb, hdg, hmeth', hr, ret, narrow_b1]
  (try refine ⟨rfl, ?_⟩); (try refine ⟨rfl, ?_⟩)
  first | (intro acts; rw [hret _ acts rfl rfl rfl]) | rw [hret _ _ rfl rfl rfl]
  exact Steps.refl _
def lw_At (p : Program) (s : State) (m : MethodId) (meth : Method) (c : Code) (b L : Nat) (xs : Nat → Int32) : Prop :=
  p.tables.exec = Jvm.exec ∧ c.code = code ∧ meth.sig.returnType = ret ∧ c.maxLocals = 4 ∧ s.vm.findClass R_law = some m.cls ∧ (∀ w ∈ lw_tbl, w.before #[Value.ref b] s = true) ∧ va_X b L xs s s.heap ∧ b < s.heap.size ∧ meth.locks = false ∧ (Jvm.Cond.and given_1 narrow_1).before #[Value.ref b] s = true
/-- the whole law on the abstract machine -/
def lw_Ev (L : Nat) (xs : Nat → Int32) : Prop := ∀ fm : Nat, fm = 0 ∨ fm = 1 → am_Ev 300 0 (0, [(0, .ref 0)], []) (ov (.inl (.int, L, .inl xs)) (in_h fm)) (fun v h => v = some (.int 1) ∧ h.1 ≤ 600000 ∧ h.2.1 ≤ 7302250)
def lw_eS (j : Nat) : Cond := .eq (.elem (.field (Term.string tb_litO tb_litK) "java/lang/String" "value" "[B") (.int (Int32.ofNat j))) (.int (tb_byt.getD j 0))
def lw_eW (j : Nat) : Cond := .eq (.elem (Term.static "EventHallModel" "WORDS" "[C") (.int (Int32.ofNat j))) (.int (tb_wrd.getD j 0))
theorem lw_flS : ((flatC (Jvm.Cond.and given_1 narrow_1)).drop 142).take 126 = (List.range 126).map lw_eS := by decide +kernel
theorem lw_flW : ((flatC (Jvm.Cond.and given_1 narrow_1)).drop 12).take 126 = (List.range 126).map lw_eW := by decide +kernel
theorem lw_in {f : Nat → Cond} {F : List Cond} (k : Nat) (h : (F.drop k).take 126 = (List.range 126).map f) (j : Nat) (hj : j < 126) : f j ∈ F := by
  have h1 : f j ∈ (List.range 126).map f := List.mem_map.mpr ⟨j, List.mem_range.mpr hj, rfl⟩
  rw [← h] at h1
  exact List.mem_of_mem_drop (List.mem_of_mem_take h1)
theorem lw_str {s : State} {b : Nat} (hgv : (Jvm.Cond.and given_1 narrow_1).before #[Value.ref b] s = true) : ∃ adK adV : Nat → Nat, vk_S 1 [tb_byt.length] [tb_byt] adK adV (fun q => s.heap.size ≤ q) s s.heap ∧ ∀ i : Nat, i < 1 → (Term.string tb_litO tb_litK).eval #[Value.ref b] s none [] s = some (.ref (adK i)) := by
  have hf := flat_of_before _ hgv
  refine vk_Sof (tm := fun _ => Term.string tb_litO tb_litK) ?_ ?_ ?_ ?_ ?_ ?_ ?_ ?_
  · intro i hi; rw [show i = 0 by omega]; decide +kernel
  · intro i hi; exact hf _ (by decide +kernel)
  · intro i hi; exact hf _ (by decide +kernel)
  · intro i hi; exact hf _ (by decide +kernel)
  · intro i hi; rw [show i = 0 by omega]; exact hf _ (by decide +kernel)
  · intro i hi; rw [show i = 0 by omega]
    intro j hj
    exact hf _ (lw_in 142 lw_flS j hj)
  · intro i j hi hj hne; omega
  · intro a ha h; exact absurd ha (Nat.not_lt.mpr h)
theorem lw_wrd {s : State} {b : Nat} (hgv : (Jvm.Cond.and given_1 narrow_1).before #[Value.ref b] s = true) : ∃ t : Nat, (Term.static "EventHallModel" "WORDS" "[C").eval #[Value.ref b] s none [] s = some (.ref t) ∧ va_T .char t tb_wrd.length (fun j => .int (tb_wrd.getD j 0)) (fun q => s.heap.size ≤ q) s s.heap := by
  have hf := flat_of_before _ hgv
  refine va_Tof (by decide +kernel) (hf _ (by decide +kernel)) (va_eqt (hf _ (by decide +kernel))) ?_ ?_
  · intro j hj
    exact va_eqt (hf _ (lw_in 12 lw_flW j hj))
  · intro a ha h; exact absurd ha (Nat.not_lt.mpr h)
set_option maxHeartbeats 4000000 in
/-- what is owed of the machine, out of the abstract one -/
theorem lw_start {p : Program} {e : Env} {s : State} {m : MethodId} {below : List Frame} {meth : Method} {c : Code} (l : Launch) {b L : Nat} {xs : Nat → Int32} (hE : lw_Ev L xs) (C0 : lw_At p s m meth c b L xs) : W p l e room_1 s m #[Value.ref b] below meth c s.heap [] 0 0 (lw_Z below #[Value.ref b] s) (entryFrame m ([Value.ref b] : List Value).toArray 4) := by
  obtain ⟨hx, hb, hr, hml, hown, hts, hX, hbl, hlocks, hgv⟩ := id C0
  have hf := flat_of_before _ hgv
  have hA : ∀ a : Nat, a < s.heap.size → ¬ (fun q : Nat => s.heap.size ≤ q) a := fun a ha h => absurd ha (Nat.not_lt.mpr h)
  obtain ⟨D, hKc⟩ := am_classes hts
  obtain ⟨cA, hKa⟩ := am_arrays hts
  obtain ⟨adK, adV, hS1, hS2⟩ := lw_str hgv
  obtain ⟨t3, hW1, hW2⟩ := lw_wrd hgv
  have hZ1 := va_Zof (A := fun q : Nat => s.heap.size ≤ q) (hts (.laysStatic "java/lang/String" "COMPACT_STRINGS" "Z") (by decide +kernel)) (hts (.initialized "java/lang/String") (by decide +kernel)) (va_eqi (z := 1) (hf _ (by decide +kernel))) hA
  have hZ3 := va_Zof (A := fun q : Nat => s.heap.size ≤ q) (hts (.laysStatic "EventHallModel" "WORDS" "[C") (by decide +kernel)) (hts (.initialized "EventHallModel") (by decide +kernel)) hW1 hA
  have hZ4 := va_Zqof (A := fun q : Nat => s.heap.size ≤ q) (hts (.laysStatic "jdk/internal/util/Preconditions" "SIOOBE_FORMATTER" "Ljava/util/function/BiFunction;") (by decide +kernel)) (hts (.initialized "jdk/internal/util/Preconditions") (by decide +kernel)) (hf _ (by decide +kernel)) hA
  have hR1 : vk_R tb_litO tb_litK tb_litT (adK 0) s := vk_R.of (hts (.stringRef tb_litO tb_litK tb_litT) (by decide +kernel)) (hS2 0 (by decide))
  have main : ∀ fm t4 : Nat, (fm = 0 ∨ fm = 1) → ((fm = 0 ∧ va_Z "jdk/internal/util/Preconditions" "SIOOBE_FORMATTER" "Ljava/util/function/BiFunction;" .null (fun q : Nat => s.heap.size ≤ q) s s.heap) ∨ (fm = 1 ∧ va_Z "jdk/internal/util/Preconditions" "SIOOBE_FORMATTER" "Ljava/util/function/BiFunction;" (.ref t4) (fun q : Nat => s.heap.size ≤ q) s s.heap)) → W p l e room_1 s m #[Value.ref b] below meth c s.heap [] 0 0 (lw_Z below #[Value.ref b] s) (entryFrame m ([Value.ref b] : List Value).toArray 4) := by
    intro fm t4 hfm hz
    obtain ⟨n, v, h', hrun, rfl, hc1, hs1⟩ := hE fm hfm
    let ad : Nat → Nat := fun r => if r = 0 then b else if r = 1 then adK 0 else if r = 2 then adV 0 else if r = 3 then t3 else if r = 4 then t4 else s.heap.size + (r - 5)
    have hAD : am_AD ad s.heap.size := by
      intro r hr5
      have hr5 : (5 : Nat) ≤ r := hr5
      show (if r = 0 then b else if r = 1 then adK 0 else if r = 2 then adV 0 else if r = 3 then t3 else if r = 4 then t4 else s.heap.size + (r - 5)) = _
      rw [if_neg (by omega), if_neg (by omega), if_neg (by omega), if_neg (by omega), if_neg (by omega)]
      rfl
    have hSx : am_Sx ad s.heap.size (ov (.inl (.int, L, .inl xs)) (in_h fm)).2.2 s := by
      refine ⟨?_, ⟨L, xs, rfl, hX, hbl, Nat.le_refl _⟩, hR1, ⟨⟨fun i hi => ?_, fun i j hi hj _ => by omega⟩, rfl⟩, hZ1, ⟨hZ3, hW2, rfl⟩, ?_⟩
      · intro C hC
        simp only [tb_aos, List.mem_cons, List.not_mem_nil, or_false] at hC
        rcases hC with rfl | rfl
        · exact va_AO.of (hts _ (by decide +kernel))
        · exact va_AO.of (hts _ (by decide +kernel))
      · have := hS1.1 i hi
        rw [show i = 0 by omega] at this ⊢
        exact this
      · rcases hz with ⟨rfl, hz⟩ | ⟨rfl, hz⟩
        · exact Or.inl ⟨rfl, hz⟩
        · exact Or.inr ⟨rfl, hz⟩
    have hFr : am_Fr D cA ad s.heap.size (ov (.inl (.int, L, .inl xs)) (in_h fm)).2.2 s 5 := by
      refine ⟨⟨hKc, fun k q hq => ?_⟩, fun w hw => va_Nw.of (tb_ne_tab w hw) (hts w (List.mem_filter.mp hw).1), trivial, rfl, ⟨Nat.le_refl _, hSx⟩, hAD⟩
      obtain ⟨ty, hty, rfl⟩ := List.mem_map.mp (List.mem_of_getElem? hq)
      exact hKa ty hty
    have hPm : am_P D cA ad s.heap.size (ov (.inl (.int, L, .inl xs)) (in_h fm)).2.2 (ov (.inl (.int, L, .inl xs)) (in_h fm)) s.heap := ⟨(fun k q hq => by rw [show am_ws cA ad (ov (.inl (.int, L, .inl xs)) (in_h fm)) = [] from rfl] at hq; cases hq), rfl, Nat.le_refl _, fun r _ => rfl⟩
    have hl := lv_entry ([.ref b]) (n := 4) (Nat.le_of_ble_eq_true rfl)
    rw [lg_entry_eq]
    generalize (lg_sl ([.ref b]) ++ List.replicate (4 - (lg_sl ([.ref b])).length) Slot.unset).toArray = ls at hl ⊢
    have hl : lv_has ls 4 (am_lm ad [(0, .ref 0)]) := hl
    refine am_sound n 300 0 (0, [(0, .ref 0)], []) _ h' (some (.int 1)) _ hrun m_0' p e room_1 s m #[Value.ref b] below meth c s.heap [] 0 0 _ 5 0 ls hx hb hml hown (fun z => absurd (show "law" = "<init>" from z) (by decide)) (fun w hw => hts w (tb_wd_in hw)) hFr hPm va_S.rf rfl rfl ?_ ?_ (by decide) (by decide) hl ?_
    · show h'.1 ≤ 5 + 600000; omega
    · show h'.2.1 ≤ 0 + 7302250; omega
    · intro pc ls1 S1 i hi hret H1 locs1 cells1 slots1 hP1 hS3 hc2 hs2
      obtain ⟨len, hd, hlen⟩ := tb_ins_ok m_0' hi
      have hS : S1 = [.int 1] ∧ i = .ireturn := by
        cases i <;> simp only [am_ret, reduceCtorEq] at hret
        all_goals (split at hret)
        all_goals first | (cases hret; done) | skip
        all_goals (rename_i e9)
        all_goals first | (cases e9; done) | skip
        all_goals (cases e9)
        all_goals (split at hret)
        all_goals first | (cases hret; done) | skip
        all_goals (cases hret; exact ⟨rfl, rfl⟩)
      obtain ⟨rfl, rfl⟩ := hS
      have e1 : len = 1 := by
        rcases hlen with z | z
        · cases z
        · exact z
      subst e1
      refine W.widen (k := 600000) (n := 7302250) (by omega) (by omega) (va_forget (fun q hq => hS3.2.2 q hq) ?_)
      exact lw_ret hx hb hr hlocks hd
  rcases hZ4 with hz | ⟨t4, hz⟩
  · exact main 0 0 (Or.inl rfl) (Or.inl ⟨rfl, hz⟩)
  · exact main 1 t4 (Or.inr rfl) (Or.inr ⟨rfl, hz⟩)
