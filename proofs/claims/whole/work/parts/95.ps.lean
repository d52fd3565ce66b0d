section PS
variable {X : bi_X} {j pc : Nat} {lv : bi_Lv} {st : List Value} {M : bi_Mem}
/-- references lie only in the cells made, below 80 -/
def bi_PS (M : bi_Mem) : Prop := ∀ a k, (M.1.length ≤ a ∨ 80 ≤ k) → bi_P M a k = none
def bi_a80 (M : bi_Mem) : Bool := M.1.all (fun q => !(Nat.beq q.1 16) || Nat.ble q.2 80)
def bi_pr (x : Bool) (M M' : bi_Mem) : Prop := x = true → bi_a80 M = true → bi_PS M → bi_PS M'
theorem bi_pr.rf {x : Bool} {M M' : bi_Mem} (h : M'.1 = M.1 := by rfl) (h2 : bi_P M' = bi_P M := by rfl) : bi_pr x M M' := by
  intro _ _ hp a k hk
  show bi_P M' a k = none
  rw [h2]
  exact hp a k (by rw [← h]; exact hk)
theorem bi_pr.ex1 {x : Bool} {M : bi_Mem} : bi_pr x M (bi_ex1 M) := fun _ _ h => h
theorem bi_pr.mk {x : Bool} {M : bi_Mem} {q : Nat × Nat} : bi_pr x M (bi_mk M q) := by
  intro _ _ hp a k hk
  show bi_clr M.2.2.2.2 M.1.length none a k = none
  unfold bi_clr
  by_cases h : a = M.1.length
  · rw [if_pos h]
  · rw [if_neg h]
    refine hp a k ?_
    rcases hk with hk | hk
    · have hk : (M.1 ++ [q]).length ≤ a := hk
      rw [List.length_append] at hk
      exact Or.inl (Nat.le_trans (Nat.le_add_right _ _) hk)
    · exact Or.inr hk
theorem bi_pr_up {x : Bool} {M : bi_Mem} {a k : Nat} {v : Option Nat} (h0 : x = true → bi_a80 M = true → a < M.1.length ∧ k < 80) : bi_pr x M (bi_setP M (bi_up (bi_P M) a k v)) := by
  intro hx ha hp b i hk
  obtain ⟨h1, h2⟩ := h0 hx ha
  have hk : M.1.length ≤ b ∨ 80 ≤ i := hk
  show bi_up (bi_P M) a k v b i = none
  unfold bi_up
  by_cases hb : b = a
  · rw [if_pos hb]
    unfold va_up
    rw [if_neg (by omega)]
    rw [← hb]
    exact hp b i hk
  · rw [if_neg hb]
    exact hp b i hk
theorem bi_nf80 : (List.range 13).all (fun c => Nat.ble (bi_nf c) 80) = true := by decide +kernel
theorem bi_pr.up {o i c k a jj : Nat} {M : bi_Mem} {v : Option Nat} (hlf : bi_lf o i = some (c, k)) : bi_pr (Nat.beq (bi_kd M a).1 c && bi_fok jj c k) M (bi_setP M (bi_up (bi_P M) a k v)) := by
  refine bi_pr_up fun hx _ => ?_
  simp only [Bool.and_eq_true] at hx
  have h1 := Nat.eq_of_beq_eq_true hx.1
  obtain ⟨-, h2, h3⟩ := bi_lf_w hlf
  have h4 := Nat.le_of_ble_eq_true (List.all_eq_true.mp bi_nf80 c (List.mem_range.mpr h2))
  exact ⟨bi_kd_lt (c := (bi_kd M a).1) (n := (bi_kd M a).2) rfl (by omega), by omega⟩
theorem bi_pr.upA {a y : Nat} {i : Int32} {M : bi_Mem} {v : Option Nat} : bi_pr (Nat.beq (bi_kd M a).1 16 && bi_in i (bi_kd M a).2 && Nat.beq (bi_kd M y).1 7) M (bi_setP M (bi_up (bi_P M) a i.toNatClampNeg v)) := by
  refine bi_pr_up fun hx ha => ?_
  simp only [Bool.and_eq_true] at hx
  have h1 := Nat.eq_of_beq_eq_true hx.1.1
  have hl : a < M.1.length := bi_kd_lt (c := (bi_kd M a).1) (n := (bi_kd M a).2) rfl (by omega)
  have h2 : i.toNatClampNeg < (bi_kd M a).2 := by
    have h3 := hx.1.2
    simp only [bi_in, Bool.and_eq_true, decide_eq_true_eq] at h3
    exact h3.2
  have h5 : bi_kd M a ∈ M.1 := by
    unfold bi_kd
    rw [List.getD_eq_getElem?_getD, List.getElem?_eq_getElem hl]
    exact List.getElem_mem hl
  have h6 := List.all_eq_true.mp ha _ h5
  rw [h1] at h6
  have h7 : (bi_kd M a).2 ≤ 80 := Nat.le_of_ble_eq_true (by simpa using h6)
  exact ⟨hl, by omega⟩
theorem bi_ps_ldI (k : Nat) (pc : Nat) {x : Bool} {r : bi_R} (h : bi_ldI k pc lv st M = some (x, r)) : bi_pr x M (bi_rmm r) := by
  simp only [bi_ldI] at h
  repeat' split at h
  all_goals first
    | (cases h; done)
    | (cases h; exact bi_pr.rf)
    | (cases h; exact bi_pr.mk)
    | (cases h; exact bi_pr.up (by assumption))
    | (cases h; exact bi_pr.upA)
    | (cases h; exact bi_pr.ex1)
    | (revert h; generalize Nat.beq _ 4999 = z; cases z <;> intro h <;> cases h <;> exact bi_pr.rf)
    | (revert h; generalize Nat.blt _ 13 = z; cases z <;> intro h <;> first | (cases h; done) | (cases h; exact bi_pr.rf) | (cases h; exact bi_pr.mk) | (cases h; exact bi_pr.ex1))
    | (revert h; rename_i z _; cases z <;> intro h <;> cases h <;> exact bi_pr.rf)
theorem bi_ps_ldL (k : Nat) (pc : Nat) {x : Bool} {r : bi_R} (h : bi_ldL k pc lv st M = some (x, r)) : bi_pr x M (bi_rmm r) := by
  simp only [bi_ldL] at h
  repeat' split at h
  all_goals first
    | (cases h; done)
    | (cases h; exact bi_pr.rf)
    | (cases h; exact bi_pr.mk)
    | (cases h; exact bi_pr.up (by assumption))
    | (cases h; exact bi_pr.upA)
    | (cases h; exact bi_pr.ex1)
    | (revert h; generalize Nat.beq _ 4999 = z; cases z <;> intro h <;> cases h <;> exact bi_pr.rf)
    | (revert h; generalize Nat.blt _ 13 = z; cases z <;> intro h <;> first | (cases h; done) | (cases h; exact bi_pr.rf) | (cases h; exact bi_pr.mk) | (cases h; exact bi_pr.ex1))
    | (revert h; rename_i z _; cases z <;> intro h <;> cases h <;> exact bi_pr.rf)
theorem bi_ps_ldA (k : Nat) (pc : Nat) {x : Bool} {r : bi_R} (h : bi_ldA k pc lv st M = some (x, r)) : bi_pr x M (bi_rmm r) := by
  simp only [bi_ldA] at h
  repeat' split at h
  all_goals first
    | (cases h; done)
    | (cases h; exact bi_pr.rf)
    | (cases h; exact bi_pr.mk)
    | (cases h; exact bi_pr.up (by assumption))
    | (cases h; exact bi_pr.upA)
    | (cases h; exact bi_pr.ex1)
    | (revert h; generalize Nat.beq _ 4999 = z; cases z <;> intro h <;> cases h <;> exact bi_pr.rf)
    | (revert h; generalize Nat.blt _ 13 = z; cases z <;> intro h <;> first | (cases h; done) | (cases h; exact bi_pr.rf) | (cases h; exact bi_pr.mk) | (cases h; exact bi_pr.ex1))
    | (revert h; rename_i z _; cases z <;> intro h <;> cases h <;> exact bi_pr.rf)
theorem bi_ps_stI (n : Nat) (k : Nat) (pc : Nat) {x : Bool} {r : bi_R} (h : bi_stI n k pc lv st M = some (x, r)) : bi_pr x M (bi_rmm r) := by
  simp only [bi_stI] at h
  repeat' split at h
  all_goals first
    | (cases h; done)
    | (cases h; exact bi_pr.rf)
    | (cases h; exact bi_pr.mk)
    | (cases h; exact bi_pr.up (by assumption))
    | (cases h; exact bi_pr.upA)
    | (cases h; exact bi_pr.ex1)
    | (revert h; generalize Nat.beq _ 4999 = z; cases z <;> intro h <;> cases h <;> exact bi_pr.rf)
    | (revert h; generalize Nat.blt _ 13 = z; cases z <;> intro h <;> first | (cases h; done) | (cases h; exact bi_pr.rf) | (cases h; exact bi_pr.mk) | (cases h; exact bi_pr.ex1))
    | (revert h; rename_i z _; cases z <;> intro h <;> cases h <;> exact bi_pr.rf)
theorem bi_ps_stL (n : Nat) (k : Nat) (pc : Nat) {x : Bool} {r : bi_R} (h : bi_stL n k pc lv st M = some (x, r)) : bi_pr x M (bi_rmm r) := by
  simp only [bi_stL] at h
  repeat' split at h
  all_goals first
    | (cases h; done)
    | (cases h; exact bi_pr.rf)
    | (cases h; exact bi_pr.mk)
    | (cases h; exact bi_pr.up (by assumption))
    | (cases h; exact bi_pr.upA)
    | (cases h; exact bi_pr.ex1)
    | (revert h; generalize Nat.beq _ 4999 = z; cases z <;> intro h <;> cases h <;> exact bi_pr.rf)
    | (revert h; generalize Nat.blt _ 13 = z; cases z <;> intro h <;> first | (cases h; done) | (cases h; exact bi_pr.rf) | (cases h; exact bi_pr.mk) | (cases h; exact bi_pr.ex1))
    | (revert h; rename_i z _; cases z <;> intro h <;> cases h <;> exact bi_pr.rf)
theorem bi_ps_stA (n : Nat) (k : Nat) (pc : Nat) {x : Bool} {r : bi_R} (h : bi_stA n k pc lv st M = some (x, r)) : bi_pr x M (bi_rmm r) := by
  simp only [bi_stA] at h
  repeat' split at h
  all_goals first
    | (cases h; done)
    | (cases h; exact bi_pr.rf)
    | (cases h; exact bi_pr.mk)
    | (cases h; exact bi_pr.up (by assumption))
    | (cases h; exact bi_pr.upA)
    | (cases h; exact bi_pr.ex1)
    | (revert h; generalize Nat.beq _ 4999 = z; cases z <;> intro h <;> cases h <;> exact bi_pr.rf)
    | (revert h; generalize Nat.blt _ 13 = z; cases z <;> intro h <;> first | (cases h; done) | (cases h; exact bi_pr.rf) | (cases h; exact bi_pr.mk) | (cases h; exact bi_pr.ex1))
    | (revert h; rename_i z _; cases z <;> intro h <;> cases h <;> exact bi_pr.rf)
theorem bi_ps_iinc (n : Nat) (k : Nat) (w : Int) (pc : Nat) {x : Bool} {r : bi_R} (h : bi_iinc n k w pc lv st M = some (x, r)) : bi_pr x M (bi_rmm r) := by
  simp only [bi_iinc] at h
  repeat' split at h
  all_goals first
    | (cases h; done)
    | (cases h; exact bi_pr.rf)
    | (cases h; exact bi_pr.mk)
    | (cases h; exact bi_pr.up (by assumption))
    | (cases h; exact bi_pr.upA)
    | (cases h; exact bi_pr.ex1)
    | (revert h; generalize Nat.beq _ 4999 = z; cases z <;> intro h <;> cases h <;> exact bi_pr.rf)
    | (revert h; generalize Nat.blt _ 13 = z; cases z <;> intro h <;> first | (cases h; done) | (cases h; exact bi_pr.rf) | (cases h; exact bi_pr.mk) | (cases h; exact bi_pr.ex1))
    | (revert h; rename_i z _; cases z <;> intro h <;> cases h <;> exact bi_pr.rf)
theorem bi_ps_op2 (f2 : Int32 → Int32 → Int32) (pc : Nat) {x : Bool} {r : bi_R} (h : bi_op2 f2 pc lv st M = some (x, r)) : bi_pr x M (bi_rmm r) := by
  simp only [bi_op2] at h
  repeat' split at h
  all_goals first
    | (cases h; done)
    | (cases h; exact bi_pr.rf)
    | (cases h; exact bi_pr.mk)
    | (cases h; exact bi_pr.up (by assumption))
    | (cases h; exact bi_pr.upA)
    | (cases h; exact bi_pr.ex1)
    | (revert h; generalize Nat.beq _ 4999 = z; cases z <;> intro h <;> cases h <;> exact bi_pr.rf)
    | (revert h; generalize Nat.blt _ 13 = z; cases z <;> intro h <;> first | (cases h; done) | (cases h; exact bi_pr.rf) | (cases h; exact bi_pr.mk) | (cases h; exact bi_pr.ex1))
    | (revert h; rename_i z _; cases z <;> intro h <;> cases h <;> exact bi_pr.rf)
theorem bi_ps_op2d (f2 : Int32 → Int32 → Int32) (pc : Nat) {x : Bool} {r : bi_R} (h : bi_op2d f2 pc lv st M = some (x, r)) : bi_pr x M (bi_rmm r) := by
  simp only [bi_op2d] at h
  repeat' split at h
  all_goals first
    | (cases h; done)
    | (cases h; exact bi_pr.rf)
    | (cases h; exact bi_pr.mk)
    | (cases h; exact bi_pr.up (by assumption))
    | (cases h; exact bi_pr.upA)
    | (cases h; exact bi_pr.ex1)
    | (revert h; generalize Nat.beq _ 4999 = z; cases z <;> intro h <;> cases h <;> exact bi_pr.rf)
    | (revert h; generalize Nat.blt _ 13 = z; cases z <;> intro h <;> first | (cases h; done) | (cases h; exact bi_pr.rf) | (cases h; exact bi_pr.mk) | (cases h; exact bi_pr.ex1))
    | (revert h; rename_i z _; cases z <;> intro h <;> cases h <;> exact bi_pr.rf)
theorem bi_ps_op1 (f1 : Int32 → Int32) (pc : Nat) {x : Bool} {r : bi_R} (h : bi_op1 f1 pc lv st M = some (x, r)) : bi_pr x M (bi_rmm r) := by
  simp only [bi_op1] at h
  repeat' split at h
  all_goals first
    | (cases h; done)
    | (cases h; exact bi_pr.rf)
    | (cases h; exact bi_pr.mk)
    | (cases h; exact bi_pr.up (by assumption))
    | (cases h; exact bi_pr.upA)
    | (cases h; exact bi_pr.ex1)
    | (revert h; generalize Nat.beq _ 4999 = z; cases z <;> intro h <;> cases h <;> exact bi_pr.rf)
    | (revert h; generalize Nat.blt _ 13 = z; cases z <;> intro h <;> first | (cases h; done) | (cases h; exact bi_pr.rf) | (cases h; exact bi_pr.mk) | (cases h; exact bi_pr.ex1))
    | (revert h; rename_i z _; cases z <;> intro h <;> cases h <;> exact bi_pr.rf)
theorem bi_ps_opL (fL : Int64 → Int64 → Int64) (pc : Nat) {x : Bool} {r : bi_R} (h : bi_opL fL pc lv st M = some (x, r)) : bi_pr x M (bi_rmm r) := by
  simp only [bi_opL] at h
  repeat' split at h
  all_goals first
    | (cases h; done)
    | (cases h; exact bi_pr.rf)
    | (cases h; exact bi_pr.mk)
    | (cases h; exact bi_pr.up (by assumption))
    | (cases h; exact bi_pr.upA)
    | (cases h; exact bi_pr.ex1)
    | (revert h; generalize Nat.beq _ 4999 = z; cases z <;> intro h <;> cases h <;> exact bi_pr.rf)
    | (revert h; generalize Nat.blt _ 13 = z; cases z <;> intro h <;> first | (cases h; done) | (cases h; exact bi_pr.rf) | (cases h; exact bi_pr.mk) | (cases h; exact bi_pr.ex1))
    | (revert h; rename_i z _; cases z <;> intro h <;> cases h <;> exact bi_pr.rf)
theorem bi_ps_if1 (cd : ClassFile.Cond) (pc : Nat) (off : Int) {x : Bool} {r : bi_R} (h : bi_if1 cd pc off lv st M = some (x, r)) : bi_pr x M (bi_rmm r) := by
  simp only [bi_if1] at h
  repeat' split at h
  all_goals first
    | (cases h; done)
    | (cases h; exact bi_pr.rf)
    | (cases h; exact bi_pr.mk)
    | (cases h; exact bi_pr.up (by assumption))
    | (cases h; exact bi_pr.upA)
    | (cases h; exact bi_pr.ex1)
    | (revert h; generalize Nat.beq _ 4999 = z; cases z <;> intro h <;> cases h <;> exact bi_pr.rf)
    | (revert h; generalize Nat.blt _ 13 = z; cases z <;> intro h <;> first | (cases h; done) | (cases h; exact bi_pr.rf) | (cases h; exact bi_pr.mk) | (cases h; exact bi_pr.ex1))
    | (revert h; rename_i z _; cases z <;> intro h <;> cases h <;> exact bi_pr.rf)
theorem bi_ps_if2 (cd : ClassFile.Cond) (pc : Nat) (off : Int) {x : Bool} {r : bi_R} (h : bi_if2 cd pc off lv st M = some (x, r)) : bi_pr x M (bi_rmm r) := by
  simp only [bi_if2] at h
  repeat' split at h
  all_goals first
    | (cases h; done)
    | (cases h; exact bi_pr.rf)
    | (cases h; exact bi_pr.mk)
    | (cases h; exact bi_pr.up (by assumption))
    | (cases h; exact bi_pr.upA)
    | (cases h; exact bi_pr.ex1)
    | (revert h; generalize Nat.beq _ 4999 = z; cases z <;> intro h <;> cases h <;> exact bi_pr.rf)
    | (revert h; generalize Nat.blt _ 13 = z; cases z <;> intro h <;> first | (cases h; done) | (cases h; exact bi_pr.rf) | (cases h; exact bi_pr.mk) | (cases h; exact bi_pr.ex1))
    | (revert h; rename_i z _; cases z <;> intro h <;> cases h <;> exact bi_pr.rf)
theorem bi_ps_go (pc : Nat) (off : Int) {x : Bool} {r : bi_R} (h : bi_go pc off lv st M = some (x, r)) : bi_pr x M (bi_rmm r) := by
  simp only [bi_go] at h
  repeat' split at h
  all_goals first
    | (cases h; done)
    | (cases h; exact bi_pr.rf)
    | (cases h; exact bi_pr.mk)
    | (cases h; exact bi_pr.up (by assumption))
    | (cases h; exact bi_pr.upA)
    | (cases h; exact bi_pr.ex1)
    | (revert h; generalize Nat.beq _ 4999 = z; cases z <;> intro h <;> cases h <;> exact bi_pr.rf)
    | (revert h; generalize Nat.blt _ 13 = z; cases z <;> intro h <;> first | (cases h; done) | (cases h; exact bi_pr.rf) | (cases h; exact bi_pr.mk) | (cases h; exact bi_pr.ex1))
    | (revert h; rename_i z _; cases z <;> intro h <;> cases h <;> exact bi_pr.rf)
theorem bi_ps_sw (df : Int) (lo : Int) (hi : Int) (offs : Array Int) (pc : Nat) {x : Bool} {r : bi_R} (h : bi_sw df lo hi offs pc lv st M = some (x, r)) : bi_pr x M (bi_rmm r) := by
  simp only [bi_sw] at h
  repeat' split at h
  all_goals first
    | (cases h; done)
    | (cases h; exact bi_pr.rf)
    | (cases h; exact bi_pr.mk)
    | (cases h; exact bi_pr.up (by assumption))
    | (cases h; exact bi_pr.upA)
    | (cases h; exact bi_pr.ex1)
    | (revert h; generalize Nat.beq _ 4999 = z; cases z <;> intro h <;> cases h <;> exact bi_pr.rf)
    | (revert h; generalize Nat.blt _ 13 = z; cases z <;> intro h <;> first | (cases h; done) | (cases h; exact bi_pr.rf) | (cases h; exact bi_pr.mk) | (cases h; exact bi_pr.ex1))
    | (revert h; rename_i z _; cases z <;> intro h <;> cases h <;> exact bi_pr.rf)
theorem bi_ps_getf (o : Nat) (i : Nat) (pc : Nat) {x : Bool} {r : bi_R} (h : bi_getf o i pc lv st M = some (x, r)) : bi_pr x M (bi_rmm r) := by
  simp only [bi_getf] at h
  repeat' split at h
  all_goals first
    | (cases h; done)
    | (cases h; exact bi_pr.rf)
    | (cases h; exact bi_pr.mk)
    | (cases h; exact bi_pr.up (by assumption))
    | (cases h; exact bi_pr.upA)
    | (cases h; exact bi_pr.ex1)
    | (revert h; generalize Nat.beq _ 4999 = z; cases z <;> intro h <;> cases h <;> exact bi_pr.rf)
    | (revert h; generalize Nat.blt _ 13 = z; cases z <;> intro h <;> first | (cases h; done) | (cases h; exact bi_pr.rf) | (cases h; exact bi_pr.mk) | (cases h; exact bi_pr.ex1))
    | (revert h; rename_i z _; cases z <;> intro h <;> cases h <;> exact bi_pr.rf)
theorem bi_ps_putf (j : Nat) (o : Nat) (i : Nat) (pc : Nat) {x : Bool} {r : bi_R} (h : bi_putf j o i pc lv st M = some (x, r)) : bi_pr x M (bi_rmm r) := by
  simp only [bi_putf] at h
  repeat' split at h
  all_goals first
    | (cases h; done)
    | (cases h; exact bi_pr.rf)
    | (cases h; exact bi_pr.mk)
    | (cases h; exact bi_pr.up (by assumption))
    | (cases h; exact bi_pr.upA)
    | (cases h; exact bi_pr.ex1)
    | (revert h; generalize Nat.beq _ 4999 = z; cases z <;> intro h <;> cases h <;> exact bi_pr.rf)
    | (revert h; generalize Nat.blt _ 13 = z; cases z <;> intro h <;> first | (cases h; done) | (cases h; exact bi_pr.rf) | (cases h; exact bi_pr.mk) | (cases h; exact bi_pr.ex1))
    | (revert h; rename_i z _; cases z <;> intro h <;> cases h <;> exact bi_pr.rf)
theorem bi_ps_iald (X : bi_X) (pc : Nat) {x : Bool} {r : bi_R} (h : bi_iald X pc lv st M = some (x, r)) : bi_pr x M (bi_rmm r) := by
  simp only [bi_iald] at h
  repeat' split at h
  all_goals first
    | (cases h; done)
    | (cases h; exact bi_pr.rf)
    | (cases h; exact bi_pr.mk)
    | (cases h; exact bi_pr.up (by assumption))
    | (cases h; exact bi_pr.upA)
    | (cases h; exact bi_pr.ex1)
    | (revert h; generalize Nat.beq _ 4999 = z; cases z <;> intro h <;> cases h <;> exact bi_pr.rf)
    | (revert h; generalize Nat.blt _ 13 = z; cases z <;> intro h <;> first | (cases h; done) | (cases h; exact bi_pr.rf) | (cases h; exact bi_pr.mk) | (cases h; exact bi_pr.ex1))
    | (revert h; rename_i z _; cases z <;> intro h <;> cases h <;> exact bi_pr.rf)
theorem bi_ps_bald (pc : Nat) {x : Bool} {r : bi_R} (h : bi_bald pc lv st M = some (x, r)) : bi_pr x M (bi_rmm r) := by
  simp only [bi_bald] at h
  repeat' split at h
  all_goals first
    | (cases h; done)
    | (cases h; exact bi_pr.rf)
    | (cases h; exact bi_pr.mk)
    | (cases h; exact bi_pr.up (by assumption))
    | (cases h; exact bi_pr.upA)
    | (cases h; exact bi_pr.ex1)
    | (revert h; generalize Nat.beq _ 4999 = z; cases z <;> intro h <;> cases h <;> exact bi_pr.rf)
    | (revert h; generalize Nat.blt _ 13 = z; cases z <;> intro h <;> first | (cases h; done) | (cases h; exact bi_pr.rf) | (cases h; exact bi_pr.mk) | (cases h; exact bi_pr.ex1))
    | (revert h; rename_i z _; cases z <;> intro h <;> cases h <;> exact bi_pr.rf)
theorem bi_ps_lald (pc : Nat) {x : Bool} {r : bi_R} (h : bi_lald pc lv st M = some (x, r)) : bi_pr x M (bi_rmm r) := by
  simp only [bi_lald] at h
  repeat' split at h
  all_goals first
    | (cases h; done)
    | (cases h; exact bi_pr.rf)
    | (cases h; exact bi_pr.mk)
    | (cases h; exact bi_pr.up (by assumption))
    | (cases h; exact bi_pr.upA)
    | (cases h; exact bi_pr.ex1)
    | (revert h; generalize Nat.beq _ 4999 = z; cases z <;> intro h <;> cases h <;> exact bi_pr.rf)
    | (revert h; generalize Nat.blt _ 13 = z; cases z <;> intro h <;> first | (cases h; done) | (cases h; exact bi_pr.rf) | (cases h; exact bi_pr.mk) | (cases h; exact bi_pr.ex1))
    | (revert h; rename_i z _; cases z <;> intro h <;> cases h <;> exact bi_pr.rf)
theorem bi_ps_aald (pc : Nat) {x : Bool} {r : bi_R} (h : bi_aald pc lv st M = some (x, r)) : bi_pr x M (bi_rmm r) := by
  simp only [bi_aald] at h
  repeat' split at h
  all_goals first
    | (cases h; done)
    | (cases h; exact bi_pr.rf)
    | (cases h; exact bi_pr.mk)
    | (cases h; exact bi_pr.up (by assumption))
    | (cases h; exact bi_pr.upA)
    | (cases h; exact bi_pr.ex1)
    | (revert h; generalize Nat.beq _ 4999 = z; cases z <;> intro h <;> cases h <;> exact bi_pr.rf)
    | (revert h; generalize Nat.blt _ 13 = z; cases z <;> intro h <;> first | (cases h; done) | (cases h; exact bi_pr.rf) | (cases h; exact bi_pr.mk) | (cases h; exact bi_pr.ex1))
    | (revert h; rename_i z _; cases z <;> intro h <;> cases h <;> exact bi_pr.rf)
theorem bi_ps_iast (pc : Nat) {x : Bool} {r : bi_R} (h : bi_iast pc lv st M = some (x, r)) : bi_pr x M (bi_rmm r) := by
  simp only [bi_iast] at h
  repeat' split at h
  all_goals first
    | (cases h; done)
    | (cases h; exact bi_pr.rf)
    | (cases h; exact bi_pr.mk)
    | (cases h; exact bi_pr.up (by assumption))
    | (cases h; exact bi_pr.upA)
    | (cases h; exact bi_pr.ex1)
    | (revert h; generalize Nat.beq _ 4999 = z; cases z <;> intro h <;> cases h <;> exact bi_pr.rf)
    | (revert h; generalize Nat.blt _ 13 = z; cases z <;> intro h <;> first | (cases h; done) | (cases h; exact bi_pr.rf) | (cases h; exact bi_pr.mk) | (cases h; exact bi_pr.ex1))
    | (revert h; rename_i z _; cases z <;> intro h <;> cases h <;> exact bi_pr.rf)
theorem bi_ps_bast (pc : Nat) {x : Bool} {r : bi_R} (h : bi_bast pc lv st M = some (x, r)) : bi_pr x M (bi_rmm r) := by
  simp only [bi_bast] at h
  repeat' split at h
  all_goals first
    | (cases h; done)
    | (cases h; exact bi_pr.rf)
    | (cases h; exact bi_pr.mk)
    | (cases h; exact bi_pr.up (by assumption))
    | (cases h; exact bi_pr.upA)
    | (cases h; exact bi_pr.ex1)
    | (revert h; generalize Nat.beq _ 4999 = z; cases z <;> intro h <;> cases h <;> exact bi_pr.rf)
    | (revert h; generalize Nat.blt _ 13 = z; cases z <;> intro h <;> first | (cases h; done) | (cases h; exact bi_pr.rf) | (cases h; exact bi_pr.mk) | (cases h; exact bi_pr.ex1))
    | (revert h; rename_i z _; cases z <;> intro h <;> cases h <;> exact bi_pr.rf)
theorem bi_ps_last (pc : Nat) {x : Bool} {r : bi_R} (h : bi_last pc lv st M = some (x, r)) : bi_pr x M (bi_rmm r) := by
  simp only [bi_last] at h
  repeat' split at h
  all_goals first
    | (cases h; done)
    | (cases h; exact bi_pr.rf)
    | (cases h; exact bi_pr.mk)
    | (cases h; exact bi_pr.up (by assumption))
    | (cases h; exact bi_pr.upA)
    | (cases h; exact bi_pr.ex1)
    | (revert h; generalize Nat.beq _ 4999 = z; cases z <;> intro h <;> cases h <;> exact bi_pr.rf)
    | (revert h; generalize Nat.blt _ 13 = z; cases z <;> intro h <;> first | (cases h; done) | (cases h; exact bi_pr.rf) | (cases h; exact bi_pr.mk) | (cases h; exact bi_pr.ex1))
    | (revert h; rename_i z _; cases z <;> intro h <;> cases h <;> exact bi_pr.rf)
theorem bi_ps_aast (pc : Nat) {x : Bool} {r : bi_R} (h : bi_aast pc lv st M = some (x, r)) : bi_pr x M (bi_rmm r) := by
  simp only [bi_aast] at h
  repeat' split at h
  all_goals first
    | (cases h; done)
    | (cases h; exact bi_pr.rf)
    | (cases h; exact bi_pr.mk)
    | (cases h; exact bi_pr.up (by assumption))
    | (cases h; exact bi_pr.upA)
    | (cases h; exact bi_pr.ex1)
    | (revert h; generalize Nat.beq _ 4999 = z; cases z <;> intro h <;> cases h <;> exact bi_pr.rf)
    | (revert h; generalize Nat.blt _ 13 = z; cases z <;> intro h <;> first | (cases h; done) | (cases h; exact bi_pr.rf) | (cases h; exact bi_pr.mk) | (cases h; exact bi_pr.ex1))
    | (revert h; rename_i z _; cases z <;> intro h <;> cases h <;> exact bi_pr.rf)
theorem bi_ps_alen (X : bi_X) (pc : Nat) {x : Bool} {r : bi_R} (h : bi_alen X pc lv st M = some (x, r)) : bi_pr x M (bi_rmm r) := by
  simp only [bi_alen] at h
  repeat' split at h
  all_goals first
    | (cases h; done)
    | (cases h; exact bi_pr.rf)
    | (cases h; exact bi_pr.mk)
    | (cases h; exact bi_pr.up (by assumption))
    | (cases h; exact bi_pr.upA)
    | (cases h; exact bi_pr.ex1)
    | (revert h; generalize Nat.beq _ 4999 = z; cases z <;> intro h <;> cases h <;> exact bi_pr.rf)
    | (revert h; generalize Nat.blt _ 13 = z; cases z <;> intro h <;> first | (cases h; done) | (cases h; exact bi_pr.rf) | (cases h; exact bi_pr.mk) | (cases h; exact bi_pr.ex1))
    | (revert h; rename_i z _; cases z <;> intro h <;> cases h <;> exact bi_pr.rf)
theorem bi_ps_new (j : Nat) (o : Nat) (i : Nat) (pc : Nat) {x : Bool} {r : bi_R} (h : bi_new j o i pc lv st M = some (x, r)) : bi_pr x M (bi_rmm r) := by
  simp only [bi_new, bi_new1] at h
  repeat' split at h
  all_goals first
    | (cases h; done)
    | (cases h; exact bi_pr.rf)
    | (cases h; exact bi_pr.mk)
    | (cases h; exact bi_pr.up (by assumption))
    | (cases h; exact bi_pr.upA)
    | (cases h; exact bi_pr.ex1)
    | (revert h; generalize Nat.beq _ 4999 = z; cases z <;> intro h <;> cases h <;> exact bi_pr.rf)
    | (revert h; generalize Nat.blt _ 13 = z; cases z <;> intro h <;> first | (cases h; done) | (cases h; exact bi_pr.rf) | (cases h; exact bi_pr.mk) | (cases h; exact bi_pr.ex1))
    | (revert h; rename_i z _; cases z <;> intro h <;> cases h <;> exact bi_pr.rf)
theorem bi_ps_newa (t : ArrayType) (pc : Nat) {x : Bool} {r : bi_R} (h : bi_newa t pc lv st M = some (x, r)) : bi_pr x M (bi_rmm r) := by
  simp only [bi_newa] at h
  repeat' split at h
  all_goals first
    | (cases h; done)
    | (cases h; exact bi_pr.rf)
    | (cases h; exact bi_pr.mk)
    | (cases h; exact bi_pr.up (by assumption))
    | (cases h; exact bi_pr.upA)
    | (cases h; exact bi_pr.ex1)
    | (revert h; generalize Nat.beq _ 4999 = z; cases z <;> intro h <;> cases h <;> exact bi_pr.rf)
    | (revert h; generalize Nat.blt _ 13 = z; cases z <;> intro h <;> first | (cases h; done) | (cases h; exact bi_pr.rf) | (cases h; exact bi_pr.mk) | (cases h; exact bi_pr.ex1))
    | (revert h; rename_i z _; cases z <;> intro h <;> cases h <;> exact bi_pr.rf)
theorem bi_ps_anew (o : Nat) (i : Nat) (pc : Nat) {x : Bool} {r : bi_R} (h : bi_anew o i pc lv st M = some (x, r)) : bi_pr x M (bi_rmm r) := by
  simp only [bi_anew] at h
  repeat' split at h
  all_goals first
    | (cases h; done)
    | (cases h; exact bi_pr.rf)
    | (cases h; exact bi_pr.mk)
    | (cases h; exact bi_pr.up (by assumption))
    | (cases h; exact bi_pr.upA)
    | (cases h; exact bi_pr.ex1)
    | (revert h; generalize Nat.beq _ 4999 = z; cases z <;> intro h <;> cases h <;> exact bi_pr.rf)
    | (revert h; generalize Nat.blt _ 13 = z; cases z <;> intro h <;> first | (cases h; done) | (cases h; exact bi_pr.rf) | (cases h; exact bi_pr.mk) | (cases h; exact bi_pr.ex1))
    | (revert h; rename_i z _; cases z <;> intro h <;> cases h <;> exact bi_pr.rf)
theorem bi_ps_inv (o : Nat) (i : Nat) (pc : Nat) (V : Nat) {x : Bool} {r : bi_R} (h : bi_inv o i pc V lv st M = some (x, r)) : bi_pr x M (bi_rmm r) := by
  simp only [bi_inv, bi_slen, bi_chat, bi_copy, bi_call] at h
  repeat' split at h
  all_goals first
    | (cases h; done)
    | (cases h; exact bi_pr.rf)
    | (cases h; exact bi_pr.mk)
    | (cases h; exact bi_pr.up (by assumption))
    | (cases h; exact bi_pr.upA)
    | (cases h; exact bi_pr.ex1)
    | (revert h; generalize Nat.beq _ 4999 = z; cases z <;> intro h <;> cases h <;> exact bi_pr.rf)
    | (revert h; generalize Nat.blt _ 13 = z; cases z <;> intro h <;> first | (cases h; done) | (cases h; exact bi_pr.rf) | (cases h; exact bi_pr.mk) | (cases h; exact bi_pr.ex1))
    | (revert h; rename_i z _; cases z <;> intro h <;> cases h <;> exact bi_pr.rf)
theorem bi_ps_ldc (o : Nat) (i : Nat) (pc : Nat) {x : Bool} {r : bi_R} (h : bi_ldc o i pc lv st M = some (x, r)) : bi_pr x M (bi_rmm r) := by
  simp only [bi_ldc] at h
  repeat' split at h
  all_goals first
    | (cases h; done)
    | (cases h; exact bi_pr.rf)
    | (cases h; exact bi_pr.mk)
    | (cases h; exact bi_pr.up (by assumption))
    | (cases h; exact bi_pr.upA)
    | (cases h; exact bi_pr.ex1)
    | (revert h; generalize Nat.beq _ 4999 = z; cases z <;> intro h <;> cases h <;> exact bi_pr.rf)
    | (revert h; generalize Nat.blt _ 13 = z; cases z <;> intro h <;> first | (cases h; done) | (cases h; exact bi_pr.rf) | (cases h; exact bi_pr.mk) | (cases h; exact bi_pr.ex1))
    | (revert h; rename_i z _; cases z <;> intro h <;> cases h <;> exact bi_pr.rf)
theorem bi_ps_dup (pc : Nat) {x : Bool} {r : bi_R} (h : bi_dup pc lv st M = some (x, r)) : bi_pr x M (bi_rmm r) := by
  simp only [bi_dup] at h
  repeat' split at h
  all_goals first
    | (cases h; done)
    | (cases h; exact bi_pr.rf)
    | (cases h; exact bi_pr.mk)
    | (cases h; exact bi_pr.up (by assumption))
    | (cases h; exact bi_pr.upA)
    | (cases h; exact bi_pr.ex1)
    | (revert h; generalize Nat.beq _ 4999 = z; cases z <;> intro h <;> cases h <;> exact bi_pr.rf)
    | (revert h; generalize Nat.blt _ 13 = z; cases z <;> intro h <;> first | (cases h; done) | (cases h; exact bi_pr.rf) | (cases h; exact bi_pr.mk) | (cases h; exact bi_pr.ex1))
    | (revert h; rename_i z _; cases z <;> intro h <;> cases h <;> exact bi_pr.rf)
theorem bi_ps_dup2 (pc : Nat) {x : Bool} {r : bi_R} (h : bi_dup2 pc lv st M = some (x, r)) : bi_pr x M (bi_rmm r) := by
  simp only [bi_dup2] at h
  repeat' split at h
  all_goals first
    | (cases h; done)
    | (cases h; exact bi_pr.rf)
    | (cases h; exact bi_pr.mk)
    | (cases h; exact bi_pr.up (by assumption))
    | (cases h; exact bi_pr.upA)
    | (cases h; exact bi_pr.ex1)
    | (revert h; generalize Nat.beq _ 4999 = z; cases z <;> intro h <;> cases h <;> exact bi_pr.rf)
    | (revert h; generalize Nat.blt _ 13 = z; cases z <;> intro h <;> first | (cases h; done) | (cases h; exact bi_pr.rf) | (cases h; exact bi_pr.mk) | (cases h; exact bi_pr.ex1))
    | (revert h; rename_i z _; cases z <;> intro h <;> cases h <;> exact bi_pr.rf)
theorem bi_ps_pop (pc : Nat) {x : Bool} {r : bi_R} (h : bi_pop pc lv st M = some (x, r)) : bi_pr x M (bi_rmm r) := by
  simp only [bi_pop] at h
  repeat' split at h
  all_goals first
    | (cases h; done)
    | (cases h; exact bi_pr.rf)
    | (cases h; exact bi_pr.mk)
    | (cases h; exact bi_pr.up (by assumption))
    | (cases h; exact bi_pr.upA)
    | (cases h; exact bi_pr.ex1)
    | (revert h; generalize Nat.beq _ 4999 = z; cases z <;> intro h <;> cases h <;> exact bi_pr.rf)
    | (revert h; generalize Nat.blt _ 13 = z; cases z <;> intro h <;> first | (cases h; done) | (cases h; exact bi_pr.rf) | (cases h; exact bi_pr.mk) | (cases h; exact bi_pr.ex1))
    | (revert h; rename_i z _; cases z <;> intro h <;> cases h <;> exact bi_pr.rf)
theorem bi_ps_i2l (pc : Nat) {x : Bool} {r : bi_R} (h : bi_i2l pc lv st M = some (x, r)) : bi_pr x M (bi_rmm r) := by
  simp only [bi_i2l] at h
  repeat' split at h
  all_goals first
    | (cases h; done)
    | (cases h; exact bi_pr.rf)
    | (cases h; exact bi_pr.mk)
    | (cases h; exact bi_pr.up (by assumption))
    | (cases h; exact bi_pr.upA)
    | (cases h; exact bi_pr.ex1)
    | (revert h; generalize Nat.beq _ 4999 = z; cases z <;> intro h <;> cases h <;> exact bi_pr.rf)
    | (revert h; generalize Nat.blt _ 13 = z; cases z <;> intro h <;> first | (cases h; done) | (cases h; exact bi_pr.rf) | (cases h; exact bi_pr.mk) | (cases h; exact bi_pr.ex1))
    | (revert h; rename_i z _; cases z <;> intro h <;> cases h <;> exact bi_pr.rf)
theorem bi_ps_l2i (pc : Nat) {x : Bool} {r : bi_R} (h : bi_l2i pc lv st M = some (x, r)) : bi_pr x M (bi_rmm r) := by
  simp only [bi_l2i] at h
  repeat' split at h
  all_goals first
    | (cases h; done)
    | (cases h; exact bi_pr.rf)
    | (cases h; exact bi_pr.mk)
    | (cases h; exact bi_pr.up (by assumption))
    | (cases h; exact bi_pr.upA)
    | (cases h; exact bi_pr.ex1)
    | (revert h; generalize Nat.beq _ 4999 = z; cases z <;> intro h <;> cases h <;> exact bi_pr.rf)
    | (revert h; generalize Nat.blt _ 13 = z; cases z <;> intro h <;> first | (cases h; done) | (cases h; exact bi_pr.rf) | (cases h; exact bi_pr.mk) | (cases h; exact bi_pr.ex1))
    | (revert h; rename_i z _; cases z <;> intro h <;> cases h <;> exact bi_pr.rf)
theorem bi_ps_lcmp (pc : Nat) {x : Bool} {r : bi_R} (h : bi_lcmp pc lv st M = some (x, r)) : bi_pr x M (bi_rmm r) := by
  simp only [bi_lcmp] at h
  repeat' split at h
  all_goals first
    | (cases h; done)
    | (cases h; exact bi_pr.rf)
    | (cases h; exact bi_pr.mk)
    | (cases h; exact bi_pr.up (by assumption))
    | (cases h; exact bi_pr.upA)
    | (cases h; exact bi_pr.ex1)
    | (revert h; generalize Nat.beq _ 4999 = z; cases z <;> intro h <;> cases h <;> exact bi_pr.rf)
    | (revert h; generalize Nat.blt _ 13 = z; cases z <;> intro h <;> first | (cases h; done) | (cases h; exact bi_pr.rf) | (cases h; exact bi_pr.mk) | (cases h; exact bi_pr.ex1))
    | (revert h; rename_i z _; cases z <;> intro h <;> cases h <;> exact bi_pr.rf)
theorem bi_ps_lshl (pc : Nat) {x : Bool} {r : bi_R} (h : bi_lshl pc lv st M = some (x, r)) : bi_pr x M (bi_rmm r) := by
  simp only [bi_lshl] at h
  repeat' split at h
  all_goals first
    | (cases h; done)
    | (cases h; exact bi_pr.rf)
    | (cases h; exact bi_pr.mk)
    | (cases h; exact bi_pr.up (by assumption))
    | (cases h; exact bi_pr.upA)
    | (cases h; exact bi_pr.ex1)
    | (revert h; generalize Nat.beq _ 4999 = z; cases z <;> intro h <;> cases h <;> exact bi_pr.rf)
    | (revert h; generalize Nat.blt _ 13 = z; cases z <;> intro h <;> first | (cases h; done) | (cases h; exact bi_pr.rf) | (cases h; exact bi_pr.mk) | (cases h; exact bi_pr.ex1))
    | (revert h; rename_i z _; cases z <;> intro h <;> cases h <;> exact bi_pr.rf)
theorem bi_ps_rets {x : Bool} {r : bi_R} (h : bi_iret j st M = some (x, r) ∨ bi_lret j st M = some (x, r) ∨ bi_vret j M = some (x, r)) : bi_pr x M (bi_rmm r) := by
  rcases h with h | h | h
  · unfold bi_iret at h; repeat' split at h
    all_goals first | (cases h; done) | (cases h; exact bi_pr.rf)
  · unfold bi_lret at h; repeat' split at h
    all_goals first | (cases h; done) | (cases h; exact bi_pr.rf)
  · unfold bi_vret at h; repeat' split at h
    all_goals first | (cases h; done) | (cases h; exact bi_pr.rf)
theorem bi_ps_nx {b0 : Bool} {pc' : Nat} {lv' : bi_Lv} {st' : List Value} {x : Bool} {r : bi_R} (h : bi_nxc b0 pc' lv' st' M = some (x, r)) : bi_pr x M (bi_rmm r) := by cases h; exact bi_pr.rf
theorem bi_stp_ps {x : Bool} {r : bi_R} (h : bi_stp X j pc lv st M = some (x, r)) : bi_pr x M (bi_rmm r) := by
  unfold bi_stp at h
  split at h
  · unfold bi_step at h
    split at h
    all_goals first
      | (cases h; done)
      | exact bi_ps_nx h
      | exact bi_ps_ldI _ _ h
      | exact bi_ps_ldL _ _ h
      | exact bi_ps_ldA _ _ h
      | exact bi_ps_stI _ _ _ h
      | exact bi_ps_stL _ _ _ h
      | exact bi_ps_stA _ _ _ h
      | exact bi_ps_iinc _ _ _ _ h
      | exact bi_ps_op2 _ _ h
      | exact bi_ps_op2d _ _ h
      | exact bi_ps_op1 _ _ h
      | exact bi_ps_opL _ _ h
      | exact bi_ps_if1 _ _ _ h
      | exact bi_ps_if2 _ _ _ h
      | exact bi_ps_go _ _ h
      | exact bi_ps_sw _ _ _ _ _ h
      | exact bi_ps_getf _ _ _ h
      | exact bi_ps_putf _ _ _ _ h
      | exact bi_ps_iald _ _ h
      | exact bi_ps_bald _ h
      | exact bi_ps_lald _ h
      | exact bi_ps_aald _ h
      | exact bi_ps_iast _ h
      | exact bi_ps_bast _ h
      | exact bi_ps_last _ h
      | exact bi_ps_aast _ h
      | exact bi_ps_alen _ _ h
      | exact bi_ps_new _ _ _ _ h
      | exact bi_ps_newa _ _ h
      | exact bi_ps_anew _ _ _ h
      | exact bi_ps_inv _ _ _ _ h
      | exact bi_ps_ldc _ _ _ h
      | exact bi_ps_dup _ h
      | exact bi_ps_dup2 _ h
      | exact bi_ps_pop _ h
      | exact bi_ps_i2l _ h
      | exact bi_ps_l2i _ h
      | exact bi_ps_lcmp _ h
      | exact bi_ps_lshl _ h
      | exact bi_ps_rets (Or.inl h)
      | exact bi_ps_rets (Or.inr (Or.inl h))
      | exact bi_ps_rets (st := []) (Or.inr (Or.inr h))
  · cases h
end PS
