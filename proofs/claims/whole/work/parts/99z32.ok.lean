/-! ===== every outcome keeps what a state keeps to ===== -/
section OKS
def okOu (o : Ou) : Prop := ∀ v M', o = .inr (v, M') → okM M'
section V
variable {M : Ms6} {x y z w x0 x1 x2 x3 x4 : Int32} {l : Nat → Int32} {f : Bool}
theorem okOu_l {e : Nat × Nat} : okOu (.inl e) := fun v M' h => by cases h
theorem okOu_r {v : Int32} {M' : Ms6} (h : okM M') : okOu (.inr (v, M')) := fun v2 M2 e => by injection e with e; injection e with e1 e2; rw [← e2]; exact h
theorem okOu_if {c : Prop} [Decidable c] {a b : Ou} (h1 : c → okOu a) (h2 : ¬ c → okOu b) : okOu (if c then a else b) := by
  by_cases h : c
  · rw [if_pos h]; exact h1 h
  · rw [if_neg h]; exact h2 h
/-- on and given as before -/
theorem ok_same {S : Sta} (ho : okM M) (h1 : S.1 = (mSt M).1) (h2 : S.2.1 = (mSt M).2.1) : okM (doM M S) := ok_do ho ⟨⟨ho.2.1.1.1.1, fun r hr => by rw [h1]; exact ho.2.1.1.1.2.1 r hr, fun r a b => by rw [h1]; exact ho.2.1.1.1.2.2 r a b⟩, fun i a b => by rw [h2]; exact ho.2.1.1.2 i a b⟩
theorem ok_delete (ho : okM M) : okOu (oDelete M x y) := okOu_if (fun _ => okOu_if (fun _ => okOu_if (fun _ => okOu_r (ok_same ho rfl rfl)) (fun _ => okOu_r ho)) (fun _ => okOu_r ho)) (fun _ => okOu_l)
theorem ok_update (ho : okM M) : okOu (oUpdate M x y z w) := okOu_if (fun _ => okOu_if (fun _ => okOu_if (fun _ => okOu_if (fun _ => okOu_if (fun _ => okOu_if (fun _ => okOu_r (ok_same ho rfl rfl)) (fun _ => okOu_r (ok_rf ho))) (fun _ => okOu_r ho)) (fun _ => okOu_r ho)) (fun _ => okOu_r (ok_rf ho))) (fun _ => okOu_l)) (fun _ => okOu_l)
theorem ok_insert (ho : okM M) : okOu (oInsert M x l) := okOu_if (fun _ => okOu_if (fun _ => okOu_r (ok_same ho rfl rfl)) (fun _ => okOu_r (ok_rf ho))) (fun _ => okOu_l)
theorem ok_undo (ho : okM M) : okOu (oUndo M) := by
  unfold oUndo
  have h := ho.2.1.2
  revert h
  show (∀ S, S ∈ mH M → wfS (mR M) S ∧ onb (mp M) S) → _
  cases mH M with
  | nil => intro _; exact okOu_r ho
  | cons S H => intro h; exact okOu_r (ok_up ho (h S (List.mem_cons_self)) (fun T hT => h T (List.mem_cons_of_mem _ hT)))
theorem ok_grant (ho : okM M) : okOu (oGrant M x y f) := okOu_if (fun hx => okOu_if (fun hy => okOu_if (fun _ => okOu_r (ok_rf ho)) (fun _ => okOu_r (ok_do ho (by
  have hR6 : mR M ≤ 6 := ho.1.2.1
  obtain ⟨i, hi, e, enx⟩ := nIn_y (n := mR M) (by omega) hx
  obtain ⟨j, hj, e2, eny⟩ := nIn_y (n := mR M) (by omega) hy
  rw [enx, eny]
  refine ⟨⟨hR6, fun r hr => ?_, fun r h1 h2 => ?_⟩, fun q a b => ho.2.1.1.2 q a b⟩
  · show sub6 (va_up (mSt M).1 i ((mSt M).1 i ^^^ s1 j) r)
    unfold va_up
    by_cases er : r = i
    · rw [if_pos er]
      intro q h1 h2
      rw [tb_xor, ho.2.1.1.1.2.1 i (by omega) q h1 h2, sub6_s1 (show j < 6 by omega) q h1 h2]; rfl
    · rw [if_neg er]; exact ho.2.1.1.1.2.1 r hr
  · show va_up (mSt M).1 i ((mSt M).1 i ^^^ s1 j) r = 0
    unfold va_up
    rw [if_neg (by omega)]; exact ho.2.1.1.1.2.2 r h1 h2)))) (fun _ => okOu_l)) (fun _ => okOu_l)
theorem ok_turn (ho : okM M) : okOu (oTurn M x f) := okOu_if (fun hx => okOu_if (fun _ => okOu_r (ok_rf ho)) (fun _ => okOu_r (ok_do ho (by
  have hp8 : mp M ≤ 8 := ho.1.2.2.1
  obtain ⟨i, hi, e, enx⟩ := nIn_y (n := mp M) (by omega) hx
  rw [enx]
  refine ⟨⟨ho.2.1.1.1.1, ho.2.1.1.1.2.1, ho.2.1.1.1.2.2⟩, fun q a b => ?_⟩
  show tb ((mSt M).2.1 ^^^ s1 i) q = false
  rw [tb_xor, ho.2.1.1.2 q a b, tb_s1 (by omega) b, decide_eq_false (by omega)]; rfl)))) (fun _ => okOu_l)
theorem ok_see (ho : okM M) : okOu (oSee M x y f) := okOu_if (fun _ => okOu_if (fun _ => okOu_if (fun _ => okOu_r ⟨ho.1, ho.2.1, ho.2.2.1, ho.2.2.2⟩) (fun _ => okOu_r ⟨ho.1, ho.2.1, ho.2.2.1, ho.2.2.2⟩)) (fun _ => okOu_l)) (fun _ => okOu_l)
theorem ok_forget (ho : okM M) : okM (foM M) := ⟨ho.1, ho.2.1, ho.2.2.1, ho.2.2.2⟩
theorem ok_image (ho : okM M) : okM (imM M) := ⟨ho.1, ho.2.1, ho.2.1, ho.2.2.2⟩
theorem ok_restore (ho : okM M) : okOu (oRestore M) := by
  unfold oRestore
  cases hi : M.2.2.2.1 with
  | none => exact okOu_r ho
  | some x =>
    have h : okX (mR M) (mp M) x := by have := ho.2.2.1; rw [hi] at this; exact this
    exact okOu_r ⟨ho.1, h, ho.2.2.1, ho.2.2.2⟩
theorem ok_feed (ho : okM M) : okOu (oFeed M x0 x1 x2 x3 x4) := okOu_if (fun _ => okOu_r ho) (fun _ => okOu_r ho)
end V
end OKS
