/-! ===== what a step that doesn't simply go on is ===== -/
section INV
variable {X : bi_X} {j pc : Nat} {lv : bi_Lv} {st : List Value} {M : bi_Mem}
theorem bi_args_inv : ∀ (n : Nat) (acc st as r : List Value), bi_args n acc st = some (as, r) → ∃ ps : List Value, st = ps ++ r ∧ as = ps.reverse ++ acc ∧ ps.length = n := by
  intro n
  induction n with
  | zero => intro acc st as r h; cases h; exact ⟨[], rfl, rfl, rfl⟩
  | succ n ih =>
    intro acc st as r h
    cases st with
    | nil => cases h
    | cons v t =>
      obtain ⟨ps, h1, h2, h3⟩ := ih _ _ _ _ h
      exact ⟨v :: ps, by rw [h1]; rfl, by rw [h2]; simp, by simp [h3]⟩
theorem bi_args_st {n : Nat} {as r : List Value} (h : bi_args n [] st = some (as, r)) : st = as.reverse ++ r ∧ as.length = n := by
  obtain ⟨ps, h1, h2, h3⟩ := bi_args_inv _ _ _ _ _ h
  rw [List.append_nil] at h2
  subst h2
  exact ⟨by rw [List.reverse_reverse]; exact h1, by rw [List.length_reverse]; exact h3⟩

theorem bi_il_ldI (k : Nat) (pc : Nat) {x : Bool} {r : bi_R} (h : bi_ldI k pc lv st M = some (x, r)) : ∃ q, r = .inl q := by
  simp only [bi_ldI] at h
  repeat' split at h
  all_goals first
    | (cases h; done)
    | (cases h; exact ⟨_, rfl⟩)
    | (revert h; generalize Nat.beq _ 4999 = z; cases z <;> intro h <;> cases h <;> exact ⟨_, rfl⟩)
theorem bi_il_ldL (k : Nat) (pc : Nat) {x : Bool} {r : bi_R} (h : bi_ldL k pc lv st M = some (x, r)) : ∃ q, r = .inl q := by
  simp only [bi_ldL] at h
  repeat' split at h
  all_goals first
    | (cases h; done)
    | (cases h; exact ⟨_, rfl⟩)
    | (revert h; generalize Nat.beq _ 4999 = z; cases z <;> intro h <;> cases h <;> exact ⟨_, rfl⟩)
theorem bi_il_ldA (k : Nat) (pc : Nat) {x : Bool} {r : bi_R} (h : bi_ldA k pc lv st M = some (x, r)) : ∃ q, r = .inl q := by
  simp only [bi_ldA] at h
  repeat' split at h
  all_goals first
    | (cases h; done)
    | (cases h; exact ⟨_, rfl⟩)
    | (revert h; generalize Nat.beq _ 4999 = z; cases z <;> intro h <;> cases h <;> exact ⟨_, rfl⟩)
theorem bi_il_stI (n : Nat) (k : Nat) (pc : Nat) {x : Bool} {r : bi_R} (h : bi_stI n k pc lv st M = some (x, r)) : ∃ q, r = .inl q := by
  simp only [bi_stI] at h
  repeat' split at h
  all_goals first
    | (cases h; done)
    | (cases h; exact ⟨_, rfl⟩)
    | (revert h; generalize Nat.beq _ 4999 = z; cases z <;> intro h <;> cases h <;> exact ⟨_, rfl⟩)
theorem bi_il_stL (n : Nat) (k : Nat) (pc : Nat) {x : Bool} {r : bi_R} (h : bi_stL n k pc lv st M = some (x, r)) : ∃ q, r = .inl q := by
  simp only [bi_stL] at h
  repeat' split at h
  all_goals first
    | (cases h; done)
    | (cases h; exact ⟨_, rfl⟩)
    | (revert h; generalize Nat.beq _ 4999 = z; cases z <;> intro h <;> cases h <;> exact ⟨_, rfl⟩)
theorem bi_il_stA (n : Nat) (k : Nat) (pc : Nat) {x : Bool} {r : bi_R} (h : bi_stA n k pc lv st M = some (x, r)) : ∃ q, r = .inl q := by
  simp only [bi_stA] at h
  repeat' split at h
  all_goals first
    | (cases h; done)
    | (cases h; exact ⟨_, rfl⟩)
    | (revert h; generalize Nat.beq _ 4999 = z; cases z <;> intro h <;> cases h <;> exact ⟨_, rfl⟩)
theorem bi_il_iinc (n : Nat) (k : Nat) (w : Int) (pc : Nat) {x : Bool} {r : bi_R} (h : bi_iinc n k w pc lv st M = some (x, r)) : ∃ q, r = .inl q := by
  simp only [bi_iinc] at h
  repeat' split at h
  all_goals first
    | (cases h; done)
    | (cases h; exact ⟨_, rfl⟩)
    | (revert h; generalize Nat.beq _ 4999 = z; cases z <;> intro h <;> cases h <;> exact ⟨_, rfl⟩)
theorem bi_il_op2 (f2 : Int32 → Int32 → Int32) (pc : Nat) {x : Bool} {r : bi_R} (h : bi_op2 f2 pc lv st M = some (x, r)) : ∃ q, r = .inl q := by
  simp only [bi_op2] at h
  repeat' split at h
  all_goals first
    | (cases h; done)
    | (cases h; exact ⟨_, rfl⟩)
    | (revert h; generalize Nat.beq _ 4999 = z; cases z <;> intro h <;> cases h <;> exact ⟨_, rfl⟩)
theorem bi_il_op2d (f2 : Int32 → Int32 → Int32) (pc : Nat) {x : Bool} {r : bi_R} (h : bi_op2d f2 pc lv st M = some (x, r)) : ∃ q, r = .inl q := by
  simp only [bi_op2d] at h
  repeat' split at h
  all_goals first
    | (cases h; done)
    | (cases h; exact ⟨_, rfl⟩)
    | (revert h; generalize Nat.beq _ 4999 = z; cases z <;> intro h <;> cases h <;> exact ⟨_, rfl⟩)
theorem bi_il_op1 (f1 : Int32 → Int32) (pc : Nat) {x : Bool} {r : bi_R} (h : bi_op1 f1 pc lv st M = some (x, r)) : ∃ q, r = .inl q := by
  simp only [bi_op1] at h
  repeat' split at h
  all_goals first
    | (cases h; done)
    | (cases h; exact ⟨_, rfl⟩)
    | (revert h; generalize Nat.beq _ 4999 = z; cases z <;> intro h <;> cases h <;> exact ⟨_, rfl⟩)
theorem bi_il_opL (fL : Int64 → Int64 → Int64) (pc : Nat) {x : Bool} {r : bi_R} (h : bi_opL fL pc lv st M = some (x, r)) : ∃ q, r = .inl q := by
  simp only [bi_opL] at h
  repeat' split at h
  all_goals first
    | (cases h; done)
    | (cases h; exact ⟨_, rfl⟩)
    | (revert h; generalize Nat.beq _ 4999 = z; cases z <;> intro h <;> cases h <;> exact ⟨_, rfl⟩)
theorem bi_il_if1 (cd : ClassFile.Cond) (pc : Nat) (off : Int) {x : Bool} {r : bi_R} (h : bi_if1 cd pc off lv st M = some (x, r)) : ∃ q, r = .inl q := by
  simp only [bi_if1] at h
  repeat' split at h
  all_goals first
    | (cases h; done)
    | (cases h; exact ⟨_, rfl⟩)
    | (revert h; generalize Nat.beq _ 4999 = z; cases z <;> intro h <;> cases h <;> exact ⟨_, rfl⟩)
theorem bi_il_if2 (cd : ClassFile.Cond) (pc : Nat) (off : Int) {x : Bool} {r : bi_R} (h : bi_if2 cd pc off lv st M = some (x, r)) : ∃ q, r = .inl q := by
  simp only [bi_if2] at h
  repeat' split at h
  all_goals first
    | (cases h; done)
    | (cases h; exact ⟨_, rfl⟩)
    | (revert h; generalize Nat.beq _ 4999 = z; cases z <;> intro h <;> cases h <;> exact ⟨_, rfl⟩)
theorem bi_il_go (pc : Nat) (off : Int) {x : Bool} {r : bi_R} (h : bi_go pc off lv st M = some (x, r)) : ∃ q, r = .inl q := by
  simp only [bi_go] at h
  repeat' split at h
  all_goals first
    | (cases h; done)
    | (cases h; exact ⟨_, rfl⟩)
    | (revert h; generalize Nat.beq _ 4999 = z; cases z <;> intro h <;> cases h <;> exact ⟨_, rfl⟩)
theorem bi_il_sw (df : Int) (lo : Int) (hi : Int) (offs : Array Int) (pc : Nat) {x : Bool} {r : bi_R} (h : bi_sw df lo hi offs pc lv st M = some (x, r)) : ∃ q, r = .inl q := by
  simp only [bi_sw] at h
  repeat' split at h
  all_goals first
    | (cases h; done)
    | (cases h; exact ⟨_, rfl⟩)
    | (revert h; generalize Nat.beq _ 4999 = z; cases z <;> intro h <;> cases h <;> exact ⟨_, rfl⟩)
theorem bi_il_getf (o : Nat) (i : Nat) (pc : Nat) {x : Bool} {r : bi_R} (h : bi_getf o i pc lv st M = some (x, r)) : ∃ q, r = .inl q := by
  simp only [bi_getf] at h
  repeat' split at h
  all_goals first
    | (cases h; done)
    | (cases h; exact ⟨_, rfl⟩)
    | (revert h; generalize Nat.beq _ 4999 = z; cases z <;> intro h <;> cases h <;> exact ⟨_, rfl⟩)
theorem bi_il_putf (j : Nat) (o : Nat) (i : Nat) (pc : Nat) {x : Bool} {r : bi_R} (h : bi_putf j o i pc lv st M = some (x, r)) : ∃ q, r = .inl q := by
  simp only [bi_putf] at h
  repeat' split at h
  all_goals first
    | (cases h; done)
    | (cases h; exact ⟨_, rfl⟩)
    | (revert h; generalize Nat.beq _ 4999 = z; cases z <;> intro h <;> cases h <;> exact ⟨_, rfl⟩)
theorem bi_il_iald (X : bi_X) (pc : Nat) {x : Bool} {r : bi_R} (h : bi_iald X pc lv st M = some (x, r)) : ∃ q, r = .inl q := by
  simp only [bi_iald] at h
  repeat' split at h
  all_goals first
    | (cases h; done)
    | (cases h; exact ⟨_, rfl⟩)
    | (revert h; generalize Nat.beq _ 4999 = z; cases z <;> intro h <;> cases h <;> exact ⟨_, rfl⟩)
theorem bi_il_bald (pc : Nat) {x : Bool} {r : bi_R} (h : bi_bald pc lv st M = some (x, r)) : ∃ q, r = .inl q := by
  simp only [bi_bald] at h
  repeat' split at h
  all_goals first
    | (cases h; done)
    | (cases h; exact ⟨_, rfl⟩)
    | (revert h; generalize Nat.beq _ 4999 = z; cases z <;> intro h <;> cases h <;> exact ⟨_, rfl⟩)
theorem bi_il_lald (pc : Nat) {x : Bool} {r : bi_R} (h : bi_lald pc lv st M = some (x, r)) : ∃ q, r = .inl q := by
  simp only [bi_lald] at h
  repeat' split at h
  all_goals first
    | (cases h; done)
    | (cases h; exact ⟨_, rfl⟩)
    | (revert h; generalize Nat.beq _ 4999 = z; cases z <;> intro h <;> cases h <;> exact ⟨_, rfl⟩)
theorem bi_il_aald (pc : Nat) {x : Bool} {r : bi_R} (h : bi_aald pc lv st M = some (x, r)) : ∃ q, r = .inl q := by
  simp only [bi_aald] at h
  repeat' split at h
  all_goals first
    | (cases h; done)
    | (cases h; exact ⟨_, rfl⟩)
    | (revert h; generalize Nat.beq _ 4999 = z; cases z <;> intro h <;> cases h <;> exact ⟨_, rfl⟩)
theorem bi_il_iast (pc : Nat) {x : Bool} {r : bi_R} (h : bi_iast pc lv st M = some (x, r)) : ∃ q, r = .inl q := by
  simp only [bi_iast] at h
  repeat' split at h
  all_goals first
    | (cases h; done)
    | (cases h; exact ⟨_, rfl⟩)
    | (revert h; generalize Nat.beq _ 4999 = z; cases z <;> intro h <;> cases h <;> exact ⟨_, rfl⟩)
theorem bi_il_bast (pc : Nat) {x : Bool} {r : bi_R} (h : bi_bast pc lv st M = some (x, r)) : ∃ q, r = .inl q := by
  simp only [bi_bast] at h
  repeat' split at h
  all_goals first
    | (cases h; done)
    | (cases h; exact ⟨_, rfl⟩)
    | (revert h; generalize Nat.beq _ 4999 = z; cases z <;> intro h <;> cases h <;> exact ⟨_, rfl⟩)
theorem bi_il_last (pc : Nat) {x : Bool} {r : bi_R} (h : bi_last pc lv st M = some (x, r)) : ∃ q, r = .inl q := by
  simp only [bi_last] at h
  repeat' split at h
  all_goals first
    | (cases h; done)
    | (cases h; exact ⟨_, rfl⟩)
    | (revert h; generalize Nat.beq _ 4999 = z; cases z <;> intro h <;> cases h <;> exact ⟨_, rfl⟩)
theorem bi_il_aast (pc : Nat) {x : Bool} {r : bi_R} (h : bi_aast pc lv st M = some (x, r)) : ∃ q, r = .inl q := by
  simp only [bi_aast] at h
  repeat' split at h
  all_goals first
    | (cases h; done)
    | (cases h; exact ⟨_, rfl⟩)
    | (revert h; generalize Nat.beq _ 4999 = z; cases z <;> intro h <;> cases h <;> exact ⟨_, rfl⟩)
theorem bi_il_alen (X : bi_X) (pc : Nat) {x : Bool} {r : bi_R} (h : bi_alen X pc lv st M = some (x, r)) : ∃ q, r = .inl q := by
  simp only [bi_alen] at h
  repeat' split at h
  all_goals first
    | (cases h; done)
    | (cases h; exact ⟨_, rfl⟩)
    | (revert h; generalize Nat.beq _ 4999 = z; cases z <;> intro h <;> cases h <;> exact ⟨_, rfl⟩)
theorem bi_il_newa (t : ArrayType) (pc : Nat) {x : Bool} {r : bi_R} (h : bi_newa t pc lv st M = some (x, r)) : ∃ q, r = .inl q := by
  simp only [bi_newa] at h
  repeat' split at h
  all_goals first
    | (cases h; done)
    | (cases h; exact ⟨_, rfl⟩)
    | (revert h; generalize Nat.beq _ 4999 = z; cases z <;> intro h <;> cases h <;> exact ⟨_, rfl⟩)
theorem bi_il_anew (o : Nat) (i : Nat) (pc : Nat) {x : Bool} {r : bi_R} (h : bi_anew o i pc lv st M = some (x, r)) : ∃ q, r = .inl q := by
  simp only [bi_anew] at h
  repeat' split at h
  all_goals first
    | (cases h; done)
    | (cases h; exact ⟨_, rfl⟩)
    | (revert h; generalize Nat.beq _ 4999 = z; cases z <;> intro h <;> cases h <;> exact ⟨_, rfl⟩)
theorem bi_il_ldc (o : Nat) (i : Nat) (pc : Nat) {x : Bool} {r : bi_R} (h : bi_ldc o i pc lv st M = some (x, r)) : ∃ q, r = .inl q := by
  simp only [bi_ldc] at h
  repeat' split at h
  all_goals first
    | (cases h; done)
    | (cases h; exact ⟨_, rfl⟩)
    | (revert h; generalize Nat.beq _ 4999 = z; cases z <;> intro h <;> cases h <;> exact ⟨_, rfl⟩)
theorem bi_il_dup (pc : Nat) {x : Bool} {r : bi_R} (h : bi_dup pc lv st M = some (x, r)) : ∃ q, r = .inl q := by
  simp only [bi_dup] at h
  repeat' split at h
  all_goals first
    | (cases h; done)
    | (cases h; exact ⟨_, rfl⟩)
    | (revert h; generalize Nat.beq _ 4999 = z; cases z <;> intro h <;> cases h <;> exact ⟨_, rfl⟩)
theorem bi_il_dup2 (pc : Nat) {x : Bool} {r : bi_R} (h : bi_dup2 pc lv st M = some (x, r)) : ∃ q, r = .inl q := by
  simp only [bi_dup2] at h
  repeat' split at h
  all_goals first
    | (cases h; done)
    | (cases h; exact ⟨_, rfl⟩)
    | (revert h; generalize Nat.beq _ 4999 = z; cases z <;> intro h <;> cases h <;> exact ⟨_, rfl⟩)
theorem bi_il_pop (pc : Nat) {x : Bool} {r : bi_R} (h : bi_pop pc lv st M = some (x, r)) : ∃ q, r = .inl q := by
  simp only [bi_pop] at h
  repeat' split at h
  all_goals first
    | (cases h; done)
    | (cases h; exact ⟨_, rfl⟩)
    | (revert h; generalize Nat.beq _ 4999 = z; cases z <;> intro h <;> cases h <;> exact ⟨_, rfl⟩)
theorem bi_il_i2l (pc : Nat) {x : Bool} {r : bi_R} (h : bi_i2l pc lv st M = some (x, r)) : ∃ q, r = .inl q := by
  simp only [bi_i2l] at h
  repeat' split at h
  all_goals first
    | (cases h; done)
    | (cases h; exact ⟨_, rfl⟩)
    | (revert h; generalize Nat.beq _ 4999 = z; cases z <;> intro h <;> cases h <;> exact ⟨_, rfl⟩)
theorem bi_il_l2i (pc : Nat) {x : Bool} {r : bi_R} (h : bi_l2i pc lv st M = some (x, r)) : ∃ q, r = .inl q := by
  simp only [bi_l2i] at h
  repeat' split at h
  all_goals first
    | (cases h; done)
    | (cases h; exact ⟨_, rfl⟩)
    | (revert h; generalize Nat.beq _ 4999 = z; cases z <;> intro h <;> cases h <;> exact ⟨_, rfl⟩)
theorem bi_il_lcmp (pc : Nat) {x : Bool} {r : bi_R} (h : bi_lcmp pc lv st M = some (x, r)) : ∃ q, r = .inl q := by
  simp only [bi_lcmp] at h
  repeat' split at h
  all_goals first
    | (cases h; done)
    | (cases h; exact ⟨_, rfl⟩)
    | (revert h; generalize Nat.beq _ 4999 = z; cases z <;> intro h <;> cases h <;> exact ⟨_, rfl⟩)
theorem bi_il_lshl (pc : Nat) {x : Bool} {r : bi_R} (h : bi_lshl pc lv st M = some (x, r)) : ∃ q, r = .inl q := by
  simp only [bi_lshl] at h
  repeat' split at h
  all_goals first
    | (cases h; done)
    | (cases h; exact ⟨_, rfl⟩)
    | (revert h; generalize Nat.beq _ 4999 = z; cases z <;> intro h <;> cases h <;> exact ⟨_, rfl⟩)
theorem bi_il_nx {b0 : Bool} {pc' : Nat} {lv' : bi_Lv} {st' : List Value} {x : Bool} {r : bi_R} (h : bi_nxc b0 pc' lv' st' M = some (x, r)) : ∃ q, r = .inl q := by cases h; exact ⟨_, rfl⟩
/-- a step is one that goes on, or a throw, or a call, or a return -/
theorem bi_stp_inv {x : Bool} {r : bi_R} (h : bi_stp X j pc lv st M = some (x, r)) : (∃ q, r = .inl q) ∨ (∃ q n, bi_fe j pc = some (.new q, n) ∧ bi_new j (bi_mi j).1 q pc lv st M = some (x, r)) ∨ (∃ q n, bi_fe j pc = some (.invokevirtual q, n) ∧ bi_inv (bi_mi j).1 q pc 0 lv st M = some (x, r)) ∨ (∃ q n, bi_fe j pc = some (.invokestatic q, n) ∧ bi_inv (bi_mi j).1 q pc 1 lv st M = some (x, r)) ∨ (∃ q n, bi_fe j pc = some (.invokespecial q, n) ∧ bi_inv (bi_mi j).1 q pc 2 lv st M = some (x, r)) ∨
    (∃ n, bi_fe j pc = some (.ireturn, n) ∧ bi_iret j st M = some (x, r)) ∨ (∃ n, bi_fe j pc = some (.lreturn, n) ∧ bi_lret j st M = some (x, r)) ∨ ∃ n, bi_fe j pc = some (.return_, n) ∧ bi_vret j M = some (x, r) := by
  unfold bi_stp at h
  split at h
  · rename_i i n hf
    unfold bi_step at h
    split at h
    all_goals first
      | (cases h; done)
      | exact Or.inr (Or.inl ⟨_, _, hf, h⟩)
      | exact Or.inr (Or.inr (Or.inl ⟨_, _, hf, h⟩))
      | exact Or.inr (Or.inr (Or.inr (Or.inl ⟨_, _, hf, h⟩)))
      | exact Or.inr (Or.inr (Or.inr (Or.inr (Or.inl ⟨_, _, hf, h⟩))))
      | exact Or.inr (Or.inr (Or.inr (Or.inr (Or.inr (Or.inl ⟨_, hf, h⟩)))))
      | exact Or.inr (Or.inr (Or.inr (Or.inr (Or.inr (Or.inr (Or.inl ⟨_, hf, h⟩))))))
      | exact Or.inr (Or.inr (Or.inr (Or.inr (Or.inr (Or.inr (Or.inr ⟨_, hf, h⟩))))))
      | exact Or.inl (bi_il_nx h)
      | exact Or.inl (bi_il_ldI _ _ h)
      | exact Or.inl (bi_il_ldL _ _ h)
      | exact Or.inl (bi_il_ldA _ _ h)
      | exact Or.inl (bi_il_stI _ _ _ h)
      | exact Or.inl (bi_il_stL _ _ _ h)
      | exact Or.inl (bi_il_stA _ _ _ h)
      | exact Or.inl (bi_il_iinc _ _ _ _ h)
      | exact Or.inl (bi_il_op2 _ _ h)
      | exact Or.inl (bi_il_op2d _ _ h)
      | exact Or.inl (bi_il_op1 _ _ h)
      | exact Or.inl (bi_il_opL _ _ h)
      | exact Or.inl (bi_il_if1 _ _ _ h)
      | exact Or.inl (bi_il_if2 _ _ _ h)
      | exact Or.inl (bi_il_go _ _ h)
      | exact Or.inl (bi_il_sw _ _ _ _ _ h)
      | exact Or.inl (bi_il_getf _ _ _ h)
      | exact Or.inl (bi_il_putf _ _ _ _ h)
      | exact Or.inl (bi_il_iald _ _ h)
      | exact Or.inl (bi_il_bald _ h)
      | exact Or.inl (bi_il_lald _ h)
      | exact Or.inl (bi_il_aald _ h)
      | exact Or.inl (bi_il_iast _ h)
      | exact Or.inl (bi_il_bast _ h)
      | exact Or.inl (bi_il_last _ h)
      | exact Or.inl (bi_il_aast _ h)
      | exact Or.inl (bi_il_alen _ _ h)
      | exact Or.inl (bi_il_newa _ _ h)
      | exact Or.inl (bi_il_anew _ _ _ h)
      | exact Or.inl (bi_il_ldc _ _ _ h)
      | exact Or.inl (bi_il_dup _ h)
      | exact Or.inl (bi_il_dup2 _ h)
      | exact Or.inl (bi_il_pop _ h)
      | exact Or.inl (bi_il_i2l _ h)
      | exact Or.inl (bi_il_l2i _ h)
      | exact Or.inl (bi_il_lcmp _ h)
      | exact Or.inl (bi_il_lshl _ h)
  · cases h
/-- the shape of a call -/
def bi_CV (j' : Nat) (as r st : List Value) (M : bi_Mem) : Prop := ∃ (a : Nat) (as' : List Value), as = .ref a :: as' ∧ Nat.beq (bi_kd M a).1 (bi_mi j').1 = true ∧ bi_a1 as' = true ∧ as'.length = bi_na j' ∧ st = as'.reverse ++ .ref a :: r
def bi_CS (j' : Nat) (as r st : List Value) : Prop := bi_a1 as = true ∧ as.length = bi_na j' ∧ st = as.reverse ++ r
theorem bi_callV_inv {j' : Nat} {as r : List Value} {M' : bi_Mem} {x : Bool} {j2 : Nat} (h : bi_call true j2 st M = some (x, .inr (.inr (.inr (j', as, r, M'))))) (hx : x = true) : j' = j2 ∧ M' = M ∧ bi_cats r = true ∧ bi_CV j' as r st M := by
  unfold bi_call at h
  split at h
  · rename_i as0 r0 ha
    simp only [cond_true] at h
    split at h
    · rename_i a r1
      subst hx
      have h1 := (Prod.mk.inj (Option.some.inj h)).1
      have h2 := (Prod.mk.inj (Option.some.inj h)).2
      cases h2
      simp only [Bool.and_eq_true] at h1
      obtain ⟨e1, e2⟩ := bi_args_st ha
      exact ⟨rfl, rfl, h1.1.2, a, as0, rfl, h1.1.1, h1.2, e2, e1⟩
    · cases h
  · cases h
theorem bi_callS_inv {j' : Nat} {as r : List Value} {M' : bi_Mem} {x : Bool} {j2 : Nat} (h : bi_call false j2 st M = some (x, .inr (.inr (.inr (j', as, r, M'))))) (hx : x = true) : j' = j2 ∧ M' = M ∧ bi_cats r = true ∧ bi_CS j' as r st := by
  unfold bi_call at h
  split at h
  · rename_i as0 r0 ha
    simp only [cond_false] at h
    subst hx
    have h1 := (Prod.mk.inj (Option.some.inj h)).1
    have h2 := (Prod.mk.inj (Option.some.inj h)).2
    cases h2
    simp only [Bool.and_eq_true] at h1
    obtain ⟨e1, e2⟩ := bi_args_st ha
    exact ⟨rfl, rfl, h1.1, h1.2, e2, e1⟩
  · cases h
theorem bi_call_c {V : Bool} {j2 : Nat} {x : Bool} {r : bi_R} (h : bi_call V j2 st M = some (x, r)) : ∃ q, r = .inr (.inr (.inr q)) := by
  unfold bi_call at h
  split at h
  · cases V with
    | true =>
      simp only [cond_true] at h
      split at h
      · cases h; exact ⟨_, rfl⟩
      · cases h
    | false => simp only [cond_false] at h; cases h; exact ⟨_, rfl⟩
  · cases h
/-- an invocation: of a method by a call, or another that goes on -/
theorem bi_inv_inv {o q V : Nat} {x : Bool} {r : bi_R} (h : bi_inv o q pc V lv st M = some (x, r)) : (∃ z, r = .inl z) ∨ ∃ kd j2, bi_lm o q = some (kd, j2) ∧ ((V = 0 ∧ kd = 0 ∧ bi_call true j2 st M = some (x, r)) ∨ (V = 1 ∧ (kd = 1 ∨ kd = 3 ∨ kd = 5) ∧ bi_call false j2 st M = some (x, r)) ∨ (V = 2 ∧ (kd = 2 ∨ kd = 4) ∧ bi_call true j2 st M = some (x, r))) := by
  unfold bi_inv at h
  split at h
  · rename_i kd j2 hl
    split at h
    · exact Or.inr ⟨_, _, hl, Or.inl ⟨rfl, rfl, h⟩⟩
    · unfold bi_slen at h; split at h
      · cases h; exact Or.inl ⟨_, rfl⟩
      · cases h
    · unfold bi_chat at h; split at h
      · cases h; exact Or.inl ⟨_, rfl⟩
      · cases h
    · exact Or.inr ⟨_, _, hl, Or.inr (Or.inl ⟨rfl, Or.inl rfl, h⟩)⟩
    · exact Or.inr ⟨_, _, hl, Or.inr (Or.inl ⟨rfl, Or.inr (Or.inl rfl), h⟩)⟩
    · exact Or.inr ⟨_, _, hl, Or.inr (Or.inl ⟨rfl, Or.inr (Or.inr rfl), h⟩)⟩
    · unfold bi_copy at h; split at h
      · cases h; exact Or.inl ⟨_, rfl⟩
      · cases h
    · exact Or.inr ⟨_, _, hl, Or.inr (Or.inr ⟨rfl, Or.inl rfl, h⟩)⟩
    · exact Or.inr ⟨_, _, hl, Or.inr (Or.inr ⟨rfl, Or.inr rfl, h⟩)⟩
    · split at h
      · cases h; exact Or.inl ⟨_, rfl⟩
      · cases h
    · cases h
  · cases h
/-- what a call is -/
theorem bi_stp_call {j' : Nat} {as r : List Value} {M' : bi_Mem} (h : bi_stp X j pc lv st M = some (true, .inr (.inr (.inr (j', as, r, M'))))) : M' = M ∧ bi_cats r = true ∧
    ((∃ q n, bi_fe j pc = some (.invokevirtual q, n) ∧ bi_lm (bi_mi j).1 q = some (0, j') ∧ bi_CV j' as r st M) ∨ (∃ q n kd, bi_fe j pc = some (.invokestatic q, n) ∧ (kd = 1 ∨ kd = 3 ∨ kd = 5) ∧ bi_lm (bi_mi j).1 q = some (kd, j') ∧ bi_CS j' as r st) ∨ ∃ q n kd, bi_fe j pc = some (.invokespecial q, n) ∧ (kd = 2 ∨ kd = 4) ∧ bi_lm (bi_mi j).1 q = some (kd, j') ∧ bi_CV j' as r st M) := by
  rcases bi_stp_inv h with ⟨_, h⟩ | ⟨q, n, hf, h⟩ | ⟨q, n, hf, h⟩ | ⟨q, n, hf, h⟩ | ⟨q, n, hf, h⟩ | ⟨n, hf, h⟩ | ⟨n, hf, h⟩ | ⟨n, hf, h⟩
  · cases h
  · exfalso
    unfold bi_new at h
    split at h
    · revert h; generalize Nat.blt _ 13 = z; cases z
      · intro h; simp only [cond_false] at h; split at h <;> simp at h
      · intro h; simp [bi_new1] at h
    · cases h
  · rcases bi_inv_inv h with ⟨_, h⟩ | ⟨kd, j2, hl, ⟨-, hk, hc⟩ | ⟨hV, -⟩ | ⟨hV, -⟩⟩
    · cases h
    · obtain ⟨e1, e2, e3, e4⟩ := bi_callV_inv hc rfl
      subst e1 hk
      exact ⟨e2, e3, Or.inl ⟨q, n, hf, hl, e4⟩⟩
    · cases hV
    · cases hV
  · rcases bi_inv_inv h with ⟨_, h⟩ | ⟨kd, j2, hl, ⟨hV, -⟩ | ⟨-, hk, hc⟩ | ⟨hV, -⟩⟩
    · cases h
    · cases hV
    · obtain ⟨e1, e2, e3, e4⟩ := bi_callS_inv hc rfl
      subst e1
      exact ⟨e2, e3, Or.inr (Or.inl ⟨q, n, kd, hf, hk, hl, e4⟩)⟩
    · cases hV
  · rcases bi_inv_inv h with ⟨_, h⟩ | ⟨kd, j2, hl, ⟨hV, -⟩ | ⟨hV, -⟩ | ⟨-, hk, hc⟩⟩
    · cases h
    · cases hV
    · cases hV
    · obtain ⟨e1, e2, e3, e4⟩ := bi_callV_inv hc rfl
      subst e1
      exact ⟨e2, e3, Or.inr (Or.inr ⟨q, n, kd, hf, hk, hl, e4⟩)⟩
  · exfalso; unfold bi_iret at h; split at h <;> simp at h
  · exfalso; unfold bi_lret at h; split at h <;> simp at h
  · exfalso; unfold bi_vret at h; split at h <;> simp at h
/-- what a throw is -/
theorem bi_stp_thr {E : Nat} {M' : bi_Mem} (h : bi_stp X j pc lv st M = some (true, .inr (.inr (.inl (E, M'))))) : M' = bi_ex1 M ∧ ∃ q n ic, bi_fe j pc = some (.new q, n) ∧ bi_lc (bi_mi j).1 q = some E ∧ ¬ E < 13 ∧ bi_fe j (pc + 3) = some (.dup, 1) ∧ bi_fe j (pc + 4) = some (.invokespecial ic, 3) ∧ bi_fe j (pc + 7) = some (.athrow, 1) ∧ (bi_mi j).1 = 11 ∧ (E = 100 ∧ q = 179 ∧ ic = 181 ∨ E = 101 ∧ q = 339 ∧ ic = 341) ∧ bi_cats st = true := by
  rcases bi_stp_inv h with ⟨_, h⟩ | ⟨q, n, hf, h⟩ | ⟨q, n, hf, h⟩ | ⟨q, n, hf, h⟩ | ⟨q, n, hf, h⟩ | ⟨n, hf, h⟩ | ⟨n, hf, h⟩ | ⟨n, hf, h⟩
  · cases h
  · unfold bi_new at h
    split at h
    · rename_i c0 hlc
      cases hb : Nat.blt c0 13 with
      | true => rw [hb] at h; simp [bi_new1] at h
      | false =>
        rw [hb] at h
        simp only [cond_false] at h
        split at h
        · rename_i ic f1 f2 f3
          have h1 := (Prod.mk.inj (Option.some.inj h)).1
          have h2 := (Prod.mk.inj (Option.some.inj h)).2
          cases h2
          simp only [Bool.and_eq_true, Bool.or_eq_true] at h1
          refine ⟨rfl, q, n, ic, hf, hlc, fun z => ?_, f1, f2, f3, Nat.eq_of_beq_eq_true h1.1.1, ?_, h1.2⟩
          · have : Nat.blt E 13 = true := by rw [Nat.blt_eq]; exact z
            rw [this] at hb; cases hb
          · rcases h1.1.2 with ⟨⟨a1, a2⟩, a3⟩ | ⟨⟨a1, a2⟩, a3⟩
            · exact Or.inl ⟨Nat.eq_of_beq_eq_true a1, Nat.eq_of_beq_eq_true a2, Nat.eq_of_beq_eq_true a3⟩
            · exact Or.inr ⟨Nat.eq_of_beq_eq_true a1, Nat.eq_of_beq_eq_true a2, Nat.eq_of_beq_eq_true a3⟩
        · cases h
    · cases h
  · rcases bi_inv_inv h with ⟨_, h⟩ | ⟨kd, j2, hl, ⟨-, -, hc⟩ | ⟨hV, -⟩ | ⟨hV, -⟩⟩
    · cases h
    · obtain ⟨_, h⟩ := bi_call_c hc; cases h
    · cases hV
    · cases hV
  · rcases bi_inv_inv h with ⟨_, h⟩ | ⟨kd, j2, hl, ⟨hV, -⟩ | ⟨-, -, hc⟩ | ⟨hV, -⟩⟩
    · cases h
    · cases hV
    · obtain ⟨_, h⟩ := bi_call_c hc; cases h
    · cases hV
  · rcases bi_inv_inv h with ⟨_, h⟩ | ⟨kd, j2, hl, ⟨hV, -⟩ | ⟨hV, -⟩ | ⟨-, -, hc⟩⟩
    · cases h
    · cases hV
    · cases hV
    · obtain ⟨_, h⟩ := bi_call_c hc; cases h
  · exfalso; unfold bi_iret at h; split at h <;> simp at h
  · exfalso; unfold bi_lret at h; split at h <;> simp at h
  · exfalso; unfold bi_vret at h; split at h <;> simp at h
/-- what a return is -/
theorem bi_stp_ret {v : Option Value} {M' : bi_Mem} (h : bi_stp X j pc lv st M = some (true, .inr (.inl (v, M')))) : M' = M ∧ ((∃ n x, bi_fe j pc = some (.ireturn, n) ∧ st = [.int x] ∧ v = some (.int x) ∧ ((bi_mi j).2.2.1 = 1 ∨ (bi_mi j).2.2.1 = 2 ∧ bi_bool x = true)) ∨ (∃ n x, bi_fe j pc = some (.lreturn, n) ∧ st = [.long x] ∧ v = some (.long x) ∧ (bi_mi j).2.2.1 = 3) ∨ ∃ n, bi_fe j pc = some (.return_, n) ∧ v = none ∧ (bi_mi j).2.2.1 = 0) := by
  rcases bi_stp_inv h with ⟨_, h⟩ | ⟨q, n, hf, h⟩ | ⟨q, n, hf, h⟩ | ⟨q, n, hf, h⟩ | ⟨q, n, hf, h⟩ | ⟨n, hf, h⟩ | ⟨n, hf, h⟩ | ⟨n, hf, h⟩
  · cases h
  · exfalso
    unfold bi_new at h
    split at h
    · revert h; generalize Nat.blt _ 13 = z; cases z
      · intro h; simp only [cond_false] at h; split at h <;> simp at h
      · intro h; simp [bi_new1] at h
    · cases h
  · rcases bi_inv_inv h with ⟨_, h⟩ | ⟨kd, j2, hl, ⟨-, -, hc⟩ | ⟨hV, -⟩ | ⟨hV, -⟩⟩
    · cases h
    · obtain ⟨_, h⟩ := bi_call_c hc; cases h
    · cases hV
    · cases hV
  · rcases bi_inv_inv h with ⟨_, h⟩ | ⟨kd, j2, hl, ⟨hV, -⟩ | ⟨-, -, hc⟩ | ⟨hV, -⟩⟩
    · cases h
    · cases hV
    · obtain ⟨_, h⟩ := bi_call_c hc; cases h
    · cases hV
  · rcases bi_inv_inv h with ⟨_, h⟩ | ⟨kd, j2, hl, ⟨hV, -⟩ | ⟨hV, -⟩ | ⟨-, -, hc⟩⟩
    · cases h
    · cases hV
    · cases hV
    · obtain ⟨_, h⟩ := bi_call_c hc; cases h
  · unfold bi_iret at h
    split at h
    · cases h; exact ⟨rfl, Or.inl ⟨n, _, hf, rfl, rfl, Or.inl (by assumption)⟩⟩
    · have h1 := (Prod.mk.inj (Option.some.inj h)).1
      have h2 := (Prod.mk.inj (Option.some.inj h)).2
      cases h2
      exact ⟨rfl, Or.inl ⟨n, _, hf, rfl, rfl, Or.inr ⟨by assumption, h1⟩⟩⟩
    · cases h
  · unfold bi_lret at h
    split at h
    · cases h; exact ⟨rfl, Or.inr (Or.inl ⟨n, _, hf, rfl, rfl, by assumption⟩)⟩
    · cases h
  · unfold bi_vret at h
    split at h
    · cases h; exact ⟨rfl, Or.inr (Or.inr ⟨n, hf, rfl, by assumption⟩)⟩
    · cases h
/-- a method that never throws -/
theorem bi_nt_ex : ∀ (n d j : Nat) (q : bi_S) (o : Option Value ⊕ Nat) (M' : bi_Mem), bi_nt j = true → bi_ex X n d j q = some (o, M') → ∃ v, o = .inl v := by
  intro n
  induction n with
  | zero => intro d j q o M' _ h; simp [bi_ex] at h
  | succ n ih =>
    intro d j q o M' hj h
    obtain ⟨pc, lv, st, M⟩ := q
    rw [bi_ex] at h
    cases hs : bi_stp X j pc lv st M with
    | none => rw [hs] at h; simp at h
    | some r =>
      rw [hs] at h
      obtain ⟨x, r⟩ := r
      cases x with
      | false => simp at h
      | true =>
        rcases r with q' | ⟨v1, M1⟩ | ⟨E, M1⟩ | ⟨j', as, r, M1⟩
        · exact ih _ _ _ _ _ hj h
        · cases h; exact ⟨v1, rfl⟩
        · obtain ⟨-, q, n1, ic, hf, hlc, hE, -⟩ := bi_stp_thr hs
          have hl := bi_len hf
          simp only [Bool.and_eq_true] at hl
          have h3 := hl.2
          unfold bi_nok at h3
          simp only [hlc, hj] at h3
          have : Nat.blt E 13 = true := by simpa using h3
          rw [Nat.blt_eq] at this
          exact absurd this hE
        · have hnj : bi_nt j' = true := by
            obtain ⟨-, -, hc⟩ := bi_stp_call hs
            rcases hc with ⟨q, n1, hf, hlm, -⟩ | ⟨q, n1, kd, hf, hk, hlm, -⟩ | ⟨q, n1, kd, hf, hk, hlm, -⟩
            all_goals
              have hl := bi_len hf
              simp only [Bool.and_eq_true] at hl
              have h3 := hl.2
              unfold bi_nok at h3
              simp only [hlm, hj] at h3
            · simpa using h3
            · rcases hk with rfl | rfl | rfl <;> (simp at h3; first | exact h3 | exact h3.1)
            · rcases hk with rfl | rfl <;> simpa using h3
          cases d with
          | zero => simp at h
          | succ d' =>
            simp only at h
            cases hc : bi_ex X n d' j' (0, bi_ent as, [], M1) with
            | none => rw [hc] at h; simp at h
            | some z =>
              rw [hc] at h
              obtain ⟨v2 | E, M2⟩ := z
              · exact ih _ _ _ _ _ hj h
              · obtain ⟨v, hv⟩ := ih _ _ _ _ _ hnj hc
                cases hv
end INV
