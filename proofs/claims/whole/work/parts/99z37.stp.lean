/-! ===== one turn of the law's loop ===== -/
section STEP
section V
variable {X : bi_X} {d : Nat} {s : bi_St} {M : Ms6} {b b' a a' : Nat} {K : Int32 → bi_St → Prop} {E : Nat → bi_St → Prop} {y4 x0 x1 x2 x3 x4 : Int32}
theorem no_feed : ∀ e, oFeed M x0 x1 x2 x3 x4 ≠ .inl e := fun e h => by
  unfold oFeed at h
  by_cases hx : M.1.2 + 20 ≤ 700
  · rw [if_pos hx] at h; cases h
  · rw [if_neg hx] at h; cases h
theorem no_fault : ∀ e, oFault M ≠ .inl e := fun e h => by unfold oFault at h; cases h
theorem no_undo : ∀ e, oUndo M ≠ .inl e := fun e h => by
  unfold oUndo at h
  revert h
  cases mH M with
  | nil => intro h; cases h
  | cons S H => intro h; cases h
theorem no_restore : ∀ e, oRestore M ≠ .inl e := fun e h => by
  unfold oRestore at h
  revert h
  cases M.2.2.2.1 with
  | none => intro h; cases h
  | some x => intro h; cases h
set_option maxHeartbeats 4000000 in
theorem law_step (hS : RLw s) (hin : ¬ (((Int32.ofNat X.1) - (6 : Int32)) < y4) → bi_in y4 X.1 = true ∧ bi_in (y4 + (1 : Int32)) X.1 = true ∧ bi_in (y4 + (2 : Int32)) X.1 = true ∧ bi_in (y4 + (3 : Int32)) X.1 = true ∧ bi_in (y4 + (4 : Int32)) X.1 = true ∧ bi_in (y4 + (5 : Int32)) X.1 = true) (hend : (((Int32.ofNat X.1) - (6 : Int32)) < y4) → K (1 : Int32) s) (hF : ¬ (((Int32.ofNat X.1) - (6 : Int32)) < y4) → ∀ t, nxt s t → at_L_law_23 X (d + 63) K E t (y4 + (6 : Int32))) : at_L_law_23 X (d + 63) K E s y4 := by
  obtain ⟨M, b, b', a, a', ho, hC, hR⟩ := hS
  refine go_L_law_23 ⟨hend, fun hn => ?_⟩
  obtain ⟨i0, i1, i2, i3, i4, i5⟩ := hin hn
  have hF := hF hn
  refine ⟨i0, ?_⟩
  refine ⟨fun _ => ⟨i1, i2, i3, i4, i5, P_call (d := d + 62) (K0 := K 0) ho hR (cC_feed (d := d + 61) ho hC) (ok_feed ho) no_feed (fun t ht => cR_feed (d := d + 61) ho ht) hF (fun v t h => ⟨i1, i2, i3, i4, i5, h⟩)⟩, fun _ => ?_⟩
  refine ⟨fun _ => ⟨i1, (L_tell (K0 := K 0) (E := fun _ _ => False) ho hC hR hF).mono (fun r t h => ⟨i1, h⟩) (fun _ _ h => h)⟩, fun _ => ?_⟩
  refine ⟨fun _ => ⟨i1, i2, i3, (L_query (K0 := K 0) (E := fun _ _ => False) ho hC hR hF).mono (fun r t h => ⟨i1, i2, i3, h⟩) (fun _ _ h => h)⟩, fun _ => ?_⟩
  refine ⟨fun _ => P_call (d := d + 62) (K0 := K 0) ho hR (cC_fault (d := d + 62) ho hC) (okOu_r ho) no_fault (fun t ht => cR_fault (d := d + 62) ho ht) hF (fun v t h => h), fun _ => ?_⟩
  refine ⟨fun _ => ⟨i1, (L_count (d := d + 54) (K0 := K 0) (E := fun _ _ => False) ho hC hR hF).mono (fun r t h => ⟨i1, h⟩) (fun _ _ h => h)⟩, fun _ => ?_⟩
  refine ⟨fun _ => ⟨i1, i2, (L_role (K0 := K 0) (E := fun _ _ => False) ho hC hR hF).mono (fun r t h => ⟨i1, i2, h⟩) (fun _ _ h => h)⟩, fun _ => ?_⟩
  refine ⟨fun _ => ⟨i1, i2, (L_cell (d := d + 54) (K0 := K 0) (E := fun _ _ => False) ho hC hR hF).mono (fun r t h => ⟨i1, i2, h⟩) (fun _ _ h => h)⟩, fun _ => ?_⟩
  refine ⟨fun _ => ⟨i1, i2, (L_policy (K0 := K 0) (E := fun _ _ => False) ho hC hR hF).mono (fun r t h => ⟨i1, i2, h⟩) (fun _ _ h => h)⟩, fun _ => ?_⟩
  refine ⟨fun _ => ⟨i1, i2, (L_view (K0 := K 0) (E := fun _ _ => False) ho hC hR hF).mono (fun r t h => ⟨i1, i2, h⟩) (fun _ _ h => h)⟩, fun _ => ?_⟩
  refine ⟨fun _ => ⟨i1, (L_asked (K0 := K 0) (E := fun _ _ => False) ho hC hR hF).mono (fun r t h => ⟨i1, h⟩) (fun _ _ h => h)⟩, fun _ => ?_⟩
  refine ⟨fun _ => ⟨i1, i2, (L_step (K0 := K 0) (E := fun _ _ => False) ho hC hR hF).mono (fun r t h => ⟨i1, i2, h⟩) (fun _ _ h => h)⟩, fun _ => ?_⟩
  refine ⟨fun _ => ⟨i1, i2, i3, i4, i5, (L_insert (K0 := K 0) (E := fun _ _ => False) ho hC hR hF).mono (fun r t h => ⟨i1, i2, i3, i4, i5, h⟩) (fun _ _ h => h)⟩, fun _ => ?_⟩
  refine ⟨fun _ => ⟨i1, i2, i3, i4, (L_update (K0 := K 0) (E := fun _ _ => False) ho hC hR hF).mono (fun r t h => ⟨i1, i2, i3, i4, h⟩) (fun _ _ h => h)⟩, fun _ => ?_⟩
  refine ⟨fun _ => ⟨i1, i2, (L_delete (K0 := K 0) (E := fun _ _ => False) ho hC hR hF).mono (fun r t h => ⟨i1, i2, h⟩) (fun _ _ h => h)⟩, fun _ => ?_⟩
  refine ⟨fun _ => ⟨i1, i2, i3, fun hf => (L_grant (w := false) (K0 := K 0) (E := fun _ _ => False) ho hC hR hF).mono (fun r t h => ⟨i1, i2, i3, fun _ => h, fun z => absurd hf z⟩) (fun _ _ h => h), fun hf => (L_grant (w := true) (K0 := K 0) (E := fun _ _ => False) ho hC hR hF).mono (fun r t h => ⟨i1, i2, i3, fun z => absurd z hf, fun _ => h⟩) (fun _ _ h => h)⟩, fun _ => ?_⟩
  refine ⟨fun _ => ⟨i1, i2, fun hf => (L_turn (w := false) (K0 := K 0) (E := fun _ _ => False) ho hC hR hF).mono (fun r t h => ⟨i1, i2, fun _ => h, fun z => absurd hf z⟩) (fun _ _ h => h), fun hf => (L_turn (w := true) (K0 := K 0) (E := fun _ _ => False) ho hC hR hF).mono (fun r t h => ⟨i1, i2, fun z => absurd z hf, fun _ => h⟩) (fun _ _ h => h)⟩, fun _ => ?_⟩
  refine ⟨fun _ => P_call (d := d + 62) (K0 := K 0) ho hR (cC_undo (d := d + 59) ho hC) (ok_undo ho) no_undo (fun t ht => cR_undo (d := d + 59) ho ht (len40 hC)) hF (fun v t h => h), fun _ => ?_⟩
  refine ⟨fun _ => ⟨i1, (L_readers (K0 := K 0) (E := fun _ _ => False) ho hC hR hF).mono (fun r t h => ⟨i1, h⟩) (fun _ _ h => h)⟩, fun _ => ?_⟩
  refine ⟨fun _ => ⟨i1, i2, (L_toSee (K0 := K 0) (E := fun _ _ => False) ho hC hR hF).mono (fun r t h => ⟨i1, i2, h⟩) (fun _ _ h => h)⟩, fun _ => ?_⟩
  refine ⟨fun _ => ⟨i1, i2, (L_escapes (K0 := K 0) (E := fun _ _ => False) ho hC hR hF).mono (fun r t h => ⟨i1, i2, h⟩) (fun _ _ h => h)⟩, fun _ => ?_⟩
  refine ⟨fun _ => ⟨i1, i2, i3, (L_may (K0 := K 0) (E := fun _ _ => False) ho hC hR hF).mono (fun r t h => ⟨i1, i2, i3, h⟩) (fun _ _ h => h)⟩, fun _ => ?_⟩
  refine ⟨fun _ => ⟨i1, i2, i3, fun hf => (L_see (w := false) (K0 := K 0) (E := fun _ _ => False) ho hC hR hF).mono (fun r t h => ⟨i1, i2, i3, fun _ => h, fun z => absurd hf z⟩) (fun _ _ h => h), fun hf => (L_see (w := true) (K0 := K 0) (E := fun _ _ => False) ho hC hR hF).mono (fun r t h => ⟨i1, i2, i3, fun z => absurd z hf, fun _ => h⟩) (fun _ _ h => h)⟩, fun _ => ?_⟩
  refine ⟨fun _ => P_void (d := d + 62) ho hR (cC_forget (d := d + 61) ho hC) (ok_forget ho) (fun t ht => cR_forget (d := d + 62) ho ht) hF, fun _ => ?_⟩
  refine ⟨fun _ => ⟨i1, (L_meant (K0 := K 0) (E := fun _ _ => False) ho hC hR hF).mono (fun r t h => ⟨i1, h⟩) (fun _ _ h => h)⟩, fun _ => ?_⟩
  refine ⟨fun _ => ⟨i1, (L_look (K0 := K 0) (E := fun _ _ => False) ho hC hR hF).mono (fun r t h => ⟨i1, h⟩) (fun _ _ h => h)⟩, fun _ => ?_⟩
  refine ⟨fun _ => ⟨i1, i2, i3, (L_lapses (K0 := K 0) (E := fun _ _ => False) ho hC hR hF).mono (fun r t h => ⟨i1, i2, i3, h⟩) (fun _ _ h => h)⟩, fun _ => ?_⟩
  refine ⟨fun _ => ⟨i1, i2, i3, (L_years (K0 := K 0) (E := fun _ _ => False) ho hC hR hF).mono (fun r t h => ⟨i1, i2, i3, h⟩) (fun _ _ h => h)⟩, fun _ => ?_⟩
  refine ⟨fun _ => P_void (d := d + 62) ho hR (cC_image (d := d + 61) ho hC) (ok_image ho) (fun t ht => cR_image (d := d + 61) ho ht (len40 hC)) hF, fun _ => ?_⟩
  refine ⟨fun _ => P_call (d := d + 62) (K0 := K 0) ho hR (cC_restore (d := d + 61) ho hC) (ok_restore ho) no_restore (fun t ht => cR_restore (d := d + 61) ho ht (im40 hC)) hF (fun v t h => h), fun _ => ?_⟩
  exact hF s ⟨by omega, M, b, b', a, a', ho, hC, hR⟩
end V
end STEP
