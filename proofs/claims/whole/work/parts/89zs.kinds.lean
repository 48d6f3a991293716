/-! WHAT PERFORM DOES, a line of each kind. Printed by a program. -/
theorem pA_1 {a : ts} {p l : Nat} {v t : Int32} (h1 : cG_targetAt (nI l) a = some (t, a)) (h2 : cG_actAt (nI l) a = some (nI 1, a)) : cH_perform p (nI l) v a = (cW_assign p t v a).bind (fun s8 => some ((0 : Int32), s8)) := by
    unfold cH_perform
    rw [h1, Option.bind_some]
    dsimp only
    rw [h2, Option.bind_some]
    dsimp only
    rw [if_pos (by decide)]
theorem pA_517 {a : ts} {p l : Nat} {v t : Int32} (h1 : cG_targetAt (nI l) a = some (t, a)) (h2 : cG_actAt (nI l) a = some (nI 517, a)) : cH_perform p (nI l) v a = (if v = ((0 : Int32)) then (if p < gM a then some ((0 : Int32), wI a 503 p t) else none) else (if p < gM a then some ((0 : Int32), wI a 503 p (gI a 503 p)) else none)) := by
    unfold cH_perform
    rw [h1, Option.bind_some]
    dsimp only
    rw [h2, Option.bind_some]
    dsimp only
    rw [if_neg (by decide), if_pos (by decide)]
theorem pA_519 {a : ts} {p l : Nat} {v t : Int32} (h1 : cG_targetAt (nI l) a = some (t, a)) (h2 : cG_actAt (nI l) a = some (nI 519, a)) : cH_perform p (nI l) v a = (if v = ((0 : Int32)) then (if p < gM a then some ((0 : Int32), wI a 503 p t) else none) else (if p < gM a then some ((0 : Int32), wI a 503 p (gI a 503 p)) else none)) := by
    unfold cH_perform
    rw [h1, Option.bind_some]
    dsimp only
    rw [h2, Option.bind_some]
    dsimp only
    rw [if_neg (by decide), if_neg (by decide), if_pos (by decide)]
theorem pA_520 {a : ts} {p l : Nat} {v t : Int32} (h1 : cG_targetAt (nI l) a = some (t, a)) (h2 : cG_actAt (nI l) a = some (nI 520, a)) : cH_perform p (nI l) v a = (cH_hold p v a).bind (fun x21 => some (x21.1, x21.2)) := by
    unfold cH_perform
    rw [h1, Option.bind_some]
    dsimp only
    rw [h2, Option.bind_some]
    dsimp only
    rw [if_neg (by decide), if_neg (by decide), if_neg (by decide), if_pos (by decide)]
theorem pA_521 {a : ts} {p l : Nat} {v t : Int32} (h1 : cG_targetAt (nI l) a = some (t, a)) (h2 : cG_actAt (nI l) a = some (nI 521, a)) : cH_perform p (nI l) v a = (cO_seize p t v a).bind (fun s24 => some ((0 : Int32), s24)) := by
    unfold cH_perform
    rw [h1, Option.bind_some]
    dsimp only
    rw [h2, Option.bind_some]
    dsimp only
    rw [if_neg (by decide), if_neg (by decide), if_neg (by decide), if_neg (by decide), if_pos (by decide)]
theorem pA_522 {a : ts} {p l : Nat} {v t : Int32} (h1 : cG_targetAt (nI l) a = some (t, a)) (h2 : cG_actAt (nI l) a = some (nI 522, a)) : cH_perform p (nI l) v a = (cO_giveBack p t a).bind (fun x29 => (if x29.1 = ((0 : Int32)) then some ((3 : Int32), x29.2) else some ((0 : Int32), x29.2))) := by
    unfold cH_perform
    rw [h1, Option.bind_some]
    dsimp only
    rw [h2, Option.bind_some]
    dsimp only
    rw [if_neg (by decide), if_neg (by decide), if_neg (by decide), if_neg (by decide), if_neg (by decide), if_pos (by decide)]
theorem pA_523 {a : ts} {p l : Nat} {v t : Int32} (h1 : cG_targetAt (nI l) a = some (t, a)) (h2 : cG_actAt (nI l) a = some (nI 523, a)) : cH_perform p (nI l) v a = (cO_trade p t v ((1 : Int32)) a).bind (fun x34 => some (x34.1, x34.2)) := by
    unfold cH_perform
    rw [h1, Option.bind_some]
    dsimp only
    rw [h2, Option.bind_some]
    dsimp only
    rw [if_neg (by decide), if_neg (by decide), if_neg (by decide), if_neg (by decide), if_neg (by decide), if_neg (by decide), if_pos (by decide)]
theorem pA_524 {a : ts} {p l : Nat} {v t : Int32} (h1 : cG_targetAt (nI l) a = some (t, a)) (h2 : cG_actAt (nI l) a = some (nI 524, a)) : cH_perform p (nI l) v a = (cO_trade p t v ((0 : Int32)) a).bind (fun x38 => some (x38.1, x38.2)) := by
    unfold cH_perform
    rw [h1, Option.bind_some]
    dsimp only
    rw [h2, Option.bind_some]
    dsimp only
    rw [if_neg (by decide), if_neg (by decide), if_neg (by decide), if_neg (by decide), if_neg (by decide), if_neg (by decide), if_neg (by decide), if_pos (by decide)]
theorem pA_525 {a : ts} {p l : Nat} {v t : Int32} (h1 : cG_targetAt (nI l) a = some (t, a)) (h2 : cG_actAt (nI l) a = some (nI 525, a)) : cH_perform p (nI l) v a = (if v = ((0 : Int32)) then (cO_makeAwait p a).bind (fun s41 => some ((0 : Int32), s41)) else some ((0 : Int32), a)) := by
    unfold cH_perform
    rw [h1, Option.bind_some]
    dsimp only
    rw [h2, Option.bind_some]
    dsimp only
    rw [if_neg (by decide), if_neg (by decide), if_neg (by decide), if_neg (by decide), if_neg (by decide), if_neg (by decide), if_neg (by decide), if_neg (by decide), if_pos (by decide)]
theorem pA_527 {a : ts} {p l : Nat} {v t : Int32} (h1 : cG_targetAt (nI l) a = some (t, a)) (h2 : cG_actAt (nI l) a = some (nI 527, a)) : cH_perform p (nI l) v a = ow_cl 1 v a := by
    unfold cH_perform
    rw [h1, Option.bind_some]
    dsimp only
    rw [h2, Option.bind_some]
    dsimp only
    rw [if_neg (by decide), if_neg (by decide), if_neg (by decide), if_neg (by decide), if_neg (by decide), if_neg (by decide), if_neg (by decide), if_neg (by decide), if_neg (by decide), if_neg (by decide), if_pos (by decide)]
    unfold ow_cl
    refine congrArg _ (funext fun x => ?_)
    obtain ⟨x1, x2⟩ := x
    cases x1 <;> (dsimp only; rw [if_pos rfl]; refine congrArg _ (funext fun s => congrArg _ (funext fun y => ?_)); obtain ⟨y1, y2⟩ := y; cases y1 <;> rfl)
theorem pA_528 {a : ts} {p l : Nat} {v t : Int32} (h1 : cG_targetAt (nI l) a = some (t, a)) (h2 : cG_actAt (nI l) a = some (nI 528, a)) : cH_perform p (nI l) v a = ow_cl 0 v a := by
    unfold cH_perform
    rw [h1, Option.bind_some]
    dsimp only
    rw [h2, Option.bind_some]
    dsimp only
    rw [if_neg (by decide), if_neg (by decide), if_neg (by decide), if_neg (by decide), if_neg (by decide), if_neg (by decide), if_neg (by decide), if_neg (by decide), if_neg (by decide), if_neg (by decide), if_neg (by decide), if_pos (by decide)]
    unfold ow_cl
    refine congrArg _ (funext fun x => ?_)
    obtain ⟨x1, x2⟩ := x
    cases x1 <;> (dsimp only; rw [if_neg (by decide)]; refine congrArg _ (funext fun s => congrArg _ (funext fun y => ?_)); obtain ⟨y1, y2⟩ := y; cases y1 <;> rfl)
theorem pA_529 {a : ts} {p l : Nat} {v t : Int32} (h1 : cG_targetAt (nI l) a = some (t, a)) (h2 : cG_actAt (nI l) a = some (nI 529, a)) : cH_perform p (nI l) v a = (cH_say v a).bind (fun s88 => some ((0 : Int32), s88)) := by
    unfold cH_perform
    rw [h1, Option.bind_some]
    dsimp only
    rw [h2, Option.bind_some]
    dsimp only
    rw [if_neg (by decide), if_neg (by decide), if_neg (by decide), if_neg (by decide), if_neg (by decide), if_neg (by decide), if_neg (by decide), if_neg (by decide), if_neg (by decide), if_neg (by decide), if_neg (by decide), if_neg (by decide), if_pos (by decide)]
theorem pA_530 {a : ts} {p l : Nat} {v t : Int32} (h1 : cG_targetAt (nI l) a = some (t, a)) (h2 : cG_actAt (nI l) a = some (nI 530, a)) : cH_perform p (nI l) v a = (cO_finish (some p) ((0 : Int32)) a).bind (fun s92 => some ((0 : Int32), s92)) := by
    unfold cH_perform
    rw [h1, Option.bind_some]
    dsimp only
    rw [h2, Option.bind_some]
    dsimp only
    rw [if_neg (by decide), if_neg (by decide), if_neg (by decide), if_neg (by decide), if_neg (by decide), if_neg (by decide), if_neg (by decide), if_neg (by decide), if_neg (by decide), if_neg (by decide), if_neg (by decide), if_neg (by decide), if_neg (by decide)]
theorem pB_5 {b : ts} {p l : Nat} {v : Int32} (hl : l < 900) (h99 : gA b 99 l = nI 5) : cR_perform_79 (nI p) (nI l) v b = (if v = ((0 : Int32)) then (if am_idx (nI p) 300 = true then some (wA b 121 (nI p).toNatClampNeg (gA b 103 l)) else none) else (if am_idx (nI p) 300 = true then some (wA b 121 (nI p).toNatClampNeg (nI l + ((1 : Int32)))) else none)) := by
    unfold cR_perform_79
    rw [if_pos (nI_idx hl (by decide)), nI_clamp (by omega), h99, if_pos (by decide)]
theorem pB_7 {b : ts} {p l : Nat} {v : Int32} (hl : l < 900) (h99 : gA b 99 l = nI 7) : cR_perform_79 (nI p) (nI l) v b = (if v = ((0 : Int32)) then (if am_idx (nI p) 300 = true then some (wA b 121 (nI p).toNatClampNeg (gA b 103 l)) else none) else (if am_idx (nI p) 300 = true then some (wA b 121 (nI p).toNatClampNeg (nI l + ((1 : Int32)))) else none)) := by
    unfold cR_perform_79
    rw [if_pos (nI_idx hl (by decide)), nI_clamp (by omega), h99, if_neg (by decide), if_neg (by decide), if_pos (by decide)]
theorem pB_8 {b : ts} {p l : Nat} {v : Int32} (hl : l < 900) (h99 : gA b 99 l = nI 8) : cR_perform_79 (nI p) (nI l) v b = (if v < ((0 : Int32)) then cR_perform_263 (nI p) b else (if (lg_cmp (((gI b 1152 0).toInt64) + v.toInt64) ((1000000000 : Int64))) ≤ ((0 : Int32)) then (cR_calendar (nI p) ((1 : Int32)) ((gI b 1152 0) + v) b).bind (fun s15 => some s15) else cR_perform_263 (nI p) b)) := by
    unfold cR_perform_79
    rw [if_pos (nI_idx hl (by decide)), nI_clamp (by omega), h99, if_neg (by decide), if_neg (by decide), if_neg (by decide), if_pos (by decide)]
theorem pB_9 {b : ts} {p l : Nat} {v : Int32} (hl : l < 900) (h99 : gA b 99 l = nI 9) : cR_perform_79 (nI p) (nI l) v b = (cR_seize (nI p) (gA b 100 l) v b).bind (fun s21 => some s21) := by
    unfold cR_perform_79
    rw [if_pos (nI_idx hl (by decide)), nI_clamp (by omega), h99, if_neg (by decide), if_neg (by decide), if_neg (by decide), if_neg (by decide), if_pos (by decide)]
theorem pB_10 {b : ts} {p l : Nat} {v : Int32} (hl : l < 900) (h99 : gA b 99 l = nI 10) : cR_perform_79 (nI p) (nI l) v b = (cR_free (nI p) (gA b 100 l) b).bind (fun s25 => some s25) := by
    unfold cR_perform_79
    rw [if_pos (nI_idx hl (by decide)), nI_clamp (by omega), h99, if_neg (by decide), if_neg (by decide), if_neg (by decide), if_neg (by decide), if_neg (by decide), if_pos (by decide)]
theorem pB_11 {b : ts} {p l : Nat} {v : Int32} (hl : l < 900) (h99 : gA b 99 l = nI 11) : cR_perform_79 (nI p) (nI l) v b = (cR_exchange (nI p) (gA b 100 l) v ((1 : Int32)) b).bind (fun s2 => some s2) := by
    unfold cR_perform_79
    rw [if_pos (nI_idx hl (by decide)), nI_clamp (by omega), h99, if_neg (by decide), if_neg (by decide), if_neg (by decide), if_neg (by decide), if_neg (by decide), if_neg (by decide), if_pos (by decide), if_pos (by decide), cR_perform_341]
theorem pB_12 {b : ts} {p l : Nat} {v : Int32} (hl : l < 900) (h99 : gA b 99 l = nI 12) : cR_perform_79 (nI p) (nI l) v b = (cR_exchange (nI p) (gA b 100 l) v ((0 : Int32)) b).bind (fun s2 => some s2) := by
    unfold cR_perform_79
    rw [if_pos (nI_idx hl (by decide)), nI_clamp (by omega), h99, if_neg (by decide), if_neg (by decide), if_neg (by decide), if_neg (by decide), if_neg (by decide), if_neg (by decide), if_neg (by decide), if_pos (by decide), if_neg (by decide), cR_perform_341]
theorem pB_13 {b : ts} {p l : Nat} {v : Int32} (hl : l < 900) (h99 : gA b 99 l = nI 13) : cR_perform_79 (nI p) (nI l) v b = (if v = ((0 : Int32)) then (cR_waits (nI p) ((4 : Int32)) ((-2 : Int32)) b).bind (fun s33 => (if am_idx (gI s33 1185 0) 300 = true then some (wI (wA s33 139 (gI s33 1185 0).toNatClampNeg (nI p)) 1185 0 ((gI (wA s33 139 (gI s33 1185 0).toNatClampNeg (nI p)) 1185 0) + ((1 : Int32)))) else none)) else some b) := by
    unfold cR_perform_79
    rw [if_pos (nI_idx hl (by decide)), nI_clamp (by omega), h99, if_neg (by decide), if_neg (by decide), if_neg (by decide), if_neg (by decide), if_neg (by decide), if_neg (by decide), if_neg (by decide), if_neg (by decide), if_pos (by decide)]
theorem pB_14 {b : ts} {p l : Nat} {v : Int32} (hl : l < 900) (h99 : gA b 99 l = nI 14) : cR_perform_79 (nI p) (nI l) v b = (cR_startOne (nI p) (nI l) b).bind (fun s39 => some s39) := by
    unfold cR_perform_79
    rw [if_pos (nI_idx hl (by decide)), nI_clamp (by omega), h99, if_neg (by decide), if_neg (by decide), if_neg (by decide), if_neg (by decide), if_neg (by decide), if_neg (by decide), if_neg (by decide), if_neg (by decide), if_neg (by decide), if_pos (by decide)]
theorem pB_15 {b : ts} {p l : Nat} {v : Int32} (hl : l < 900) (h99 : gA b 99 l = nI 15) : cR_perform_79 (nI p) (nI l) v b = (cR_other (nI p) v ((1 : Int32)) b).bind (fun s2 => some s2) := by
    unfold cR_perform_79
    rw [if_pos (nI_idx hl (by decide)), nI_clamp (by omega), h99, if_neg (by decide), if_neg (by decide), if_neg (by decide), if_neg (by decide), if_neg (by decide), if_neg (by decide), if_neg (by decide), if_neg (by decide), if_neg (by decide), if_neg (by decide), if_pos (by decide), if_pos (by decide), cR_perform_410]
theorem pB_16 {b : ts} {p l : Nat} {v : Int32} (hl : l < 900) (h99 : gA b 99 l = nI 16) : cR_perform_79 (nI p) (nI l) v b = (cR_other (nI p) v ((0 : Int32)) b).bind (fun s2 => some s2) := by
    unfold cR_perform_79
    rw [if_pos (nI_idx hl (by decide)), nI_clamp (by omega), h99, if_neg (by decide), if_neg (by decide), if_neg (by decide), if_neg (by decide), if_neg (by decide), if_neg (by decide), if_neg (by decide), if_neg (by decide), if_neg (by decide), if_neg (by decide), if_neg (by decide), if_pos (by decide), if_neg (by decide), cR_perform_410]
theorem pB_17 {b : ts} {p l : Nat} {v : Int32} (hl : l < 900) (h99 : gA b 99 l = nI 17) : cR_perform_79 (nI p) (nI l) v b = (if ((1000 : Int32)) ≤ (gI b 1161 0) then (if am_idx ((gI b 1161 0) - (gI b 1161 0) / ((1000 : Int32)) * ((1000 : Int32))) 1000 = true then cR_perform_458 v ((gI b 1161 0) - (gI b 1161 0) / ((1000 : Int32)) * ((1000 : Int32))) (gA b 116 ((gI b 1161 0) - (gI b 1161 0) / ((1000 : Int32)) * ((1000 : Int32))).toNatClampNeg) b else none) else cR_perform_458 v ((gI b 1161 0) - (gI b 1161 0) / ((1000 : Int32)) * ((1000 : Int32))) (gI b 1152 0) b) := by
    unfold cR_perform_79
    rw [if_pos (nI_idx hl (by decide)), nI_clamp (by omega), h99, if_neg (by decide), if_neg (by decide), if_neg (by decide), if_neg (by decide), if_neg (by decide), if_neg (by decide), if_neg (by decide), if_neg (by decide), if_neg (by decide), if_neg (by decide), if_neg (by decide), if_neg (by decide), if_pos (by decide)]
theorem pB_18 {b : ts} {p l : Nat} {v : Int32} (hl : l < 900) (h99 : gA b 99 l = nI 18) : cR_perform_79 (nI p) (nI l) v b = (cR_finish (nI p) ((0 : Int32)) b).bind (fun s50 => some s50) := by
    unfold cR_perform_79
    rw [if_pos (nI_idx hl (by decide)), nI_clamp (by omega), h99, if_neg (by decide), if_neg (by decide), if_neg (by decide), if_neg (by decide), if_neg (by decide), if_neg (by decide), if_neg (by decide), if_neg (by decide), if_neg (by decide), if_neg (by decide), if_neg (by decide), if_neg (by decide), if_neg (by decide), if_pos (by decide)]
theorem pB_24 {b : ts} {p l : Nat} {v : Int32} (hl : l < 900) (h99 : gA b 99 l = nI 24) : cR_perform_79 (nI p) (nI l) v b = (if am_idx ((((8 : Int32)) * nI p) + (gA b 100 l)) 2400 = true then some (wA b 127 ((((8 : Int32)) * nI p) + (gA b 100 l)).toNatClampNeg v) else none) := by
    unfold cR_perform_79
    rw [if_pos (nI_idx hl (by decide)), nI_clamp (by omega), h99, if_neg (by decide), if_neg (by decide), if_neg (by decide), if_neg (by decide), if_neg (by decide), if_neg (by decide), if_neg (by decide), if_neg (by decide), if_neg (by decide), if_neg (by decide), if_neg (by decide), if_neg (by decide), if_neg (by decide), if_neg (by decide), if_neg (by decide), if_neg (by decide), if_neg (by decide), if_neg (by decide), if_neg (by decide), if_pos (by decide)]
theorem pB_25 {b : ts} {p l : Nat} {v : Int32} (hl : l < 900) (h99 : gA b 99 l = nI 25) : cR_perform_79 (nI p) (nI l) v b = (if am_idx (gA b 100 l) 16 = true then some (wA b 118 (gA b 100 l).toNatClampNeg v) else none) := by
    unfold cR_perform_79
    rw [if_pos (nI_idx hl (by decide)), nI_clamp (by omega), h99, if_neg (by decide), if_neg (by decide), if_neg (by decide), if_neg (by decide), if_neg (by decide), if_neg (by decide), if_neg (by decide), if_neg (by decide), if_neg (by decide), if_neg (by decide), if_neg (by decide), if_neg (by decide), if_neg (by decide), if_neg (by decide), if_neg (by decide), if_neg (by decide), if_neg (by decide), if_neg (by decide), if_neg (by decide), if_neg (by decide), if_pos (by decide)]
