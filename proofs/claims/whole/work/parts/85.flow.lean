/-! ===== any instruction that goes on; what steps and runs do to the room; which runs never throw ===== -/
section FLOW
/-- texts: their length, their signs (two methods of the JDK's own) -/
def bi_StrOK (D : va_G) (cA : Nat → ClassId) (bs b : Nat) (tx : Nat → Nat) (X : bi_X) (l : Launch) (Sx : State → Heap → Prop) : Prop :=
  ∀ (j : Nat) (p : Program) (e : Env) (R : Room) (s : State) (m : MethodId) (args : Array Value) (below : List Frame) (meth : Method) (c : Code) (Q : State → Prop) (M : bi_Mem) (lv : bi_Lv) (st : List Value) (pc : Nat) (H : Heap) (locs : List Loc) (ls : Array Slot) (cells slots : Nat) (s' : bi_S) (q z : Nat),
    bi_Fx D cA bs b tx X j p s m args meth c → Sx s s.heap → bi_Pt D cA bs b tx j s M lv H locs ls → bi_Kt D cA bs b tx j p l e R s m args below meth c Q cells slots M s' → decode (bi_mc j) pc = .ok (.invokevirtual q, 3) → 12 ≤ R.frames → 200 ≤ R.locals → cells ≤ R.cells → slots ≤ R.slots →
    (bi_lm (bi_mi j).1 q = some (8, z) ∧ bi_slen (pc + 3) lv st M = some (true, .inl s') ∨ bi_lm (bi_mi j).1 q = some (9, z) ∧ bi_chat (pc + 3) lv st M = some (true, .inl s')) →
    W p l e R s m args below meth c H locs cells slots Q (F0 m pc ls (bi_vs (bi_ad bs b tx) st))
variable {D : va_G} {cA : Nat → ClassId} {bs b : Nat} {tx : Nat → Nat} {X : bi_X} {j : Nat} {p : Program} {l : Launch} {e : Env} {R : Room} {s : State} {m : MethodId} {args : Array Value} {below : List Frame} {meth : Method} {c : Code} {Q : State → Prop} {Sx : State → Heap → Prop}
variable {M : bi_Mem} {lv : bi_Lv} {st : List Value} {pc : Nat} {H : Heap} {locs : List Loc} {ls : Array Slot} {cells slots : Nat} {s' : bi_S}
theorem bi_stepW (hStr : bi_StrOK D cA bs b tx X l Sx) (hSx : Sx s s.heap) (F : bi_Fx D cA bs b tx X j p s m args meth c) (P : bi_Pt D cA bs b tx j s M lv H locs ls) (k : bi_Kt D cA bs b tx j p l e R s m args below meth c Q cells slots M s') (hfr : 12 ≤ R.frames) (hlo : 200 ≤ R.locals) (hsz : s.heap.size + cells ≤ bs + bi_cn M) (hrc : cells + (bi_cn s'.2.2.2 - bi_cn M) ≤ R.cells) (hrs : slots + (bi_sn s'.2.2.2 - bi_sn M) ≤ R.slots) (h : bi_stp X j pc lv st M = some (true, .inl s')) : W p l e R s m args below meth c H locs cells slots Q (F0 m pc ls (bi_vs (bi_ad bs b tx) st)) := by
  unfold bi_stp at h
  split at h
  · rename_i i n hf
    have hdg := bi_dec hf
    have hl := bi_len hf
    simp only [Bool.and_eq_true] at hl
    obtain ⟨⟨h1, hko⟩, -⟩ := hl
    unfold bi_step at h
    split at h
    all_goals first | (simp only [bi_ilk] at h1; have hn := Nat.eq_of_beq_eq_true h1; subst hn) | skip
    all_goals first
      | exact bi_s_aload F P k hdg h
      | exact bi_s_aload_n F P k hdg h
      | exact bi_s_iload F P k hdg h
      | exact bi_s_iload_n F P k hdg h
      | exact bi_s_lload F P k hdg h
      | exact bi_s_lload_n F P k hdg h
      | exact bi_s_astore F P k hdg h
      | exact bi_s_astore_n F P k hdg h
      | exact bi_s_istore F P k hdg h
      | exact bi_s_istore_n F P k hdg h
      | exact bi_s_lstore F P k hdg h
      | exact bi_s_lstore_n F P k hdg h
      | exact bi_s_iconst F P k hdg h
      | exact bi_s_bipush F P k hdg h
      | exact bi_s_sipush F P k hdg h
      | exact bi_s_lconst F P k hdg h
      | exact bi_s_iinc F P k hdg h
      | exact bi_s_iadd F P k hdg h
      | exact bi_s_isub F P k hdg h
      | exact bi_s_imul F P k hdg h
      | exact bi_s_iand F P k hdg h
      | exact bi_s_ior F P k hdg h
      | exact bi_s_ixor F P k hdg h
      | exact bi_s_ishl F P k hdg h
      | exact bi_s_ishr F P k hdg h
      | exact bi_s_iushr F P k hdg h
      | exact bi_s_idiv F P k hdg h
      | exact bi_s_irem F P k hdg h
      | exact bi_s_ineg F P k hdg h
      | exact bi_s_i2b F P k hdg h
      | exact bi_s_i2l F P k hdg h
      | exact bi_s_l2i F P k hdg h
      | exact bi_s_lor F P k hdg h
      | exact bi_s_lsub F P k hdg h
      | exact bi_s_lshl F P k hdg h
      | exact bi_s_lcmp F P k hdg h
      | exact bi_s_dup F P k hdg h
      | exact bi_s_dup2 F P k hdg h
      | exact bi_s_pop F P k hdg h
      | exact bi_s_goto F P k hdg h
      | exact bi_s_ifCond F P k hdg h
      | exact bi_s_if_icmp F P k hdg h
      | exact bi_s_tableswitch F P k hdg h
      | exact bi_s_getfield F P k hdg h
      | exact bi_s_putfield F P k hdg h
      | exact bi_s_iaload F P k hdg h
      | exact bi_s_baload F P k hdg h
      | exact bi_s_laload F P k hdg h
      | exact bi_s_aaload F P k hdg h
      | exact bi_s_iastore F P k hdg h
      | exact bi_s_bastore F P k hdg h
      | exact bi_s_lastore F P k hdg h
      | exact bi_s_aastore F P k hdg h
      | exact bi_s_arraylength F P k hdg h
      | exact bi_s_ldc F P k hdg hko h
      | exact bi_s_ldc_w F P k hdg hko h
      | exact bi_s_ldc2_w F P k hdg hko h
      | exact bi_s_new F P k hdg hsz hrc hrs h
      | exact bi_s_newarray F P k hdg hsz hrc hrs h
      | exact bi_s_anewarray F P k hdg hsz hrc hrs h
      | (unfold bi_iret at h; split at h <;> simp at h; done)
      | (unfold bi_lret at h; split at h <;> simp at h; done)
      | (unfold bi_vret at h; split at h <;> simp at h; done)
      | skip
    all_goals first | (cases h; done) | skip
    · unfold bi_inv at h
      split at h
      · rename_i kd jj hlm
        split at h
        all_goals first
          | exact hStr j p e R s m args below meth c Q M lv st pc H locs ls cells slots s' _ _ F hSx P k hdg hfr hlo (by omega) (by omega) (Or.inl ⟨hlm, h⟩)
          | exact hStr j p e R s m args below meth c Q M lv st pc H locs ls cells slots s' _ _ F hSx P k hdg hfr hlo (by omega) (by omega) (Or.inr ⟨hlm, h⟩)
          | (unfold bi_call at h; repeat' split at h) <;> simp at h
          | (cases h; done)
          | (rename_i hv; cases hv)
      · cases h
    · unfold bi_inv at h
      split at h
      · rename_i kd jj hlm
        split at h
        all_goals first
          | exact bi_s_copy F P k hdg hlm (by omega) (by omega) h
          | (unfold bi_call at h; repeat' split at h) <;> simp at h
          | (cases h; done)
          | (rename_i hv; cases hv)
      · cases h
    · unfold bi_inv at h
      split at h
      · rename_i kd jj hlm
        split at h
        all_goals first
          | (split at h
             · exact bi_s_objinit F P k hdg hlm (by omega) (by omega) rfl h
             · cases h)
          | (unfold bi_call at h; repeat' split at h) <;> simp at h
          | (cases h; done)
          | (rename_i hv; cases hv)
      · cases h
  · cases h
/-- the memory that a step leaves -/
def bi_rmm : bi_R → bi_Mem
  | .inl s => s.2.2.2
  | .inr (.inl q) => q.2
  | .inr (.inr (.inl q)) => q.2
  | .inr (.inr (.inr q)) => q.2.2.2
def bi_le (M M' : bi_Mem) : Prop := bi_cn M ≤ bi_cn M' ∧ bi_sn M ≤ bi_sn M'
theorem bi_le.rf : bi_le M M := ⟨Nat.le_refl _, Nat.le_refl _⟩
theorem bi_le.tr {M1 M2 M3 : bi_Mem} (h : bi_le M1 M2) (h' : bi_le M2 M3) : bi_le M1 M3 := ⟨Nat.le_trans h.1 h'.1, Nat.le_trans h.2 h'.2⟩
theorem bi_le.mk {q : Nat × Nat} : bi_le M (bi_mk M q) := ⟨Nat.le_succ _, Nat.le_add_right _ _⟩
theorem bi_le.ex1 : bi_le M (bi_ex1 M) := ⟨Nat.le_succ _, Nat.le_add_right _ _⟩

theorem bi_mo_ldI (k : Nat) (pc : Nat) {x : Bool} {r : bi_R} (h : bi_ldI k pc lv st M = some (x, r)) : bi_le M (bi_rmm r) := by
  simp only [bi_ldI] at h
  repeat' split at h
  all_goals first
    | (cases h; done)
    | (cases h; exact bi_le.rf)
    | (cases h; exact bi_le.mk)
    | (cases h; exact bi_le.ex1)
    | (revert h; generalize Nat.beq _ 4999 = z; cases z <;> intro h <;> cases h <;> exact bi_le.rf)
    | (revert h; generalize Nat.blt _ 13 = z; cases z <;> intro h <;> first | (cases h; done) | (cases h; exact bi_le.rf) | (cases h; exact bi_le.mk) | (cases h; exact bi_le.ex1))
    | (revert h; rename_i z _; cases z <;> intro h <;> cases h <;> exact bi_le.rf)
theorem bi_mo_ldL (k : Nat) (pc : Nat) {x : Bool} {r : bi_R} (h : bi_ldL k pc lv st M = some (x, r)) : bi_le M (bi_rmm r) := by
  simp only [bi_ldL] at h
  repeat' split at h
  all_goals first
    | (cases h; done)
    | (cases h; exact bi_le.rf)
    | (cases h; exact bi_le.mk)
    | (cases h; exact bi_le.ex1)
    | (revert h; generalize Nat.beq _ 4999 = z; cases z <;> intro h <;> cases h <;> exact bi_le.rf)
    | (revert h; generalize Nat.blt _ 13 = z; cases z <;> intro h <;> first | (cases h; done) | (cases h; exact bi_le.rf) | (cases h; exact bi_le.mk) | (cases h; exact bi_le.ex1))
    | (revert h; rename_i z _; cases z <;> intro h <;> cases h <;> exact bi_le.rf)
theorem bi_mo_ldA (k : Nat) (pc : Nat) {x : Bool} {r : bi_R} (h : bi_ldA k pc lv st M = some (x, r)) : bi_le M (bi_rmm r) := by
  simp only [bi_ldA] at h
  repeat' split at h
  all_goals first
    | (cases h; done)
    | (cases h; exact bi_le.rf)
    | (cases h; exact bi_le.mk)
    | (cases h; exact bi_le.ex1)
    | (revert h; generalize Nat.beq _ 4999 = z; cases z <;> intro h <;> cases h <;> exact bi_le.rf)
    | (revert h; generalize Nat.blt _ 13 = z; cases z <;> intro h <;> first | (cases h; done) | (cases h; exact bi_le.rf) | (cases h; exact bi_le.mk) | (cases h; exact bi_le.ex1))
    | (revert h; rename_i z _; cases z <;> intro h <;> cases h <;> exact bi_le.rf)
theorem bi_mo_stI (n : Nat) (k : Nat) (pc : Nat) {x : Bool} {r : bi_R} (h : bi_stI n k pc lv st M = some (x, r)) : bi_le M (bi_rmm r) := by
  simp only [bi_stI] at h
  repeat' split at h
  all_goals first
    | (cases h; done)
    | (cases h; exact bi_le.rf)
    | (cases h; exact bi_le.mk)
    | (cases h; exact bi_le.ex1)
    | (revert h; generalize Nat.beq _ 4999 = z; cases z <;> intro h <;> cases h <;> exact bi_le.rf)
    | (revert h; generalize Nat.blt _ 13 = z; cases z <;> intro h <;> first | (cases h; done) | (cases h; exact bi_le.rf) | (cases h; exact bi_le.mk) | (cases h; exact bi_le.ex1))
    | (revert h; rename_i z _; cases z <;> intro h <;> cases h <;> exact bi_le.rf)
theorem bi_mo_stL (n : Nat) (k : Nat) (pc : Nat) {x : Bool} {r : bi_R} (h : bi_stL n k pc lv st M = some (x, r)) : bi_le M (bi_rmm r) := by
  simp only [bi_stL] at h
  repeat' split at h
  all_goals first
    | (cases h; done)
    | (cases h; exact bi_le.rf)
    | (cases h; exact bi_le.mk)
    | (cases h; exact bi_le.ex1)
    | (revert h; generalize Nat.beq _ 4999 = z; cases z <;> intro h <;> cases h <;> exact bi_le.rf)
    | (revert h; generalize Nat.blt _ 13 = z; cases z <;> intro h <;> first | (cases h; done) | (cases h; exact bi_le.rf) | (cases h; exact bi_le.mk) | (cases h; exact bi_le.ex1))
    | (revert h; rename_i z _; cases z <;> intro h <;> cases h <;> exact bi_le.rf)
theorem bi_mo_stA (n : Nat) (k : Nat) (pc : Nat) {x : Bool} {r : bi_R} (h : bi_stA n k pc lv st M = some (x, r)) : bi_le M (bi_rmm r) := by
  simp only [bi_stA] at h
  repeat' split at h
  all_goals first
    | (cases h; done)
    | (cases h; exact bi_le.rf)
    | (cases h; exact bi_le.mk)
    | (cases h; exact bi_le.ex1)
    | (revert h; generalize Nat.beq _ 4999 = z; cases z <;> intro h <;> cases h <;> exact bi_le.rf)
    | (revert h; generalize Nat.blt _ 13 = z; cases z <;> intro h <;> first | (cases h; done) | (cases h; exact bi_le.rf) | (cases h; exact bi_le.mk) | (cases h; exact bi_le.ex1))
    | (revert h; rename_i z _; cases z <;> intro h <;> cases h <;> exact bi_le.rf)
theorem bi_mo_iinc (n : Nat) (k : Nat) (w : Int) (pc : Nat) {x : Bool} {r : bi_R} (h : bi_iinc n k w pc lv st M = some (x, r)) : bi_le M (bi_rmm r) := by
  simp only [bi_iinc] at h
  repeat' split at h
  all_goals first
    | (cases h; done)
    | (cases h; exact bi_le.rf)
    | (cases h; exact bi_le.mk)
    | (cases h; exact bi_le.ex1)
    | (revert h; generalize Nat.beq _ 4999 = z; cases z <;> intro h <;> cases h <;> exact bi_le.rf)
    | (revert h; generalize Nat.blt _ 13 = z; cases z <;> intro h <;> first | (cases h; done) | (cases h; exact bi_le.rf) | (cases h; exact bi_le.mk) | (cases h; exact bi_le.ex1))
    | (revert h; rename_i z _; cases z <;> intro h <;> cases h <;> exact bi_le.rf)
theorem bi_mo_op2 (f2 : Int32 → Int32 → Int32) (pc : Nat) {x : Bool} {r : bi_R} (h : bi_op2 f2 pc lv st M = some (x, r)) : bi_le M (bi_rmm r) := by
  simp only [bi_op2] at h
  repeat' split at h
  all_goals first
    | (cases h; done)
    | (cases h; exact bi_le.rf)
    | (cases h; exact bi_le.mk)
    | (cases h; exact bi_le.ex1)
    | (revert h; generalize Nat.beq _ 4999 = z; cases z <;> intro h <;> cases h <;> exact bi_le.rf)
    | (revert h; generalize Nat.blt _ 13 = z; cases z <;> intro h <;> first | (cases h; done) | (cases h; exact bi_le.rf) | (cases h; exact bi_le.mk) | (cases h; exact bi_le.ex1))
    | (revert h; rename_i z _; cases z <;> intro h <;> cases h <;> exact bi_le.rf)
theorem bi_mo_op2d (f2 : Int32 → Int32 → Int32) (pc : Nat) {x : Bool} {r : bi_R} (h : bi_op2d f2 pc lv st M = some (x, r)) : bi_le M (bi_rmm r) := by
  simp only [bi_op2d] at h
  repeat' split at h
  all_goals first
    | (cases h; done)
    | (cases h; exact bi_le.rf)
    | (cases h; exact bi_le.mk)
    | (cases h; exact bi_le.ex1)
    | (revert h; generalize Nat.beq _ 4999 = z; cases z <;> intro h <;> cases h <;> exact bi_le.rf)
    | (revert h; generalize Nat.blt _ 13 = z; cases z <;> intro h <;> first | (cases h; done) | (cases h; exact bi_le.rf) | (cases h; exact bi_le.mk) | (cases h; exact bi_le.ex1))
    | (revert h; rename_i z _; cases z <;> intro h <;> cases h <;> exact bi_le.rf)
theorem bi_mo_op1 (f1 : Int32 → Int32) (pc : Nat) {x : Bool} {r : bi_R} (h : bi_op1 f1 pc lv st M = some (x, r)) : bi_le M (bi_rmm r) := by
  simp only [bi_op1] at h
  repeat' split at h
  all_goals first
    | (cases h; done)
    | (cases h; exact bi_le.rf)
    | (cases h; exact bi_le.mk)
    | (cases h; exact bi_le.ex1)
    | (revert h; generalize Nat.beq _ 4999 = z; cases z <;> intro h <;> cases h <;> exact bi_le.rf)
    | (revert h; generalize Nat.blt _ 13 = z; cases z <;> intro h <;> first | (cases h; done) | (cases h; exact bi_le.rf) | (cases h; exact bi_le.mk) | (cases h; exact bi_le.ex1))
    | (revert h; rename_i z _; cases z <;> intro h <;> cases h <;> exact bi_le.rf)
theorem bi_mo_opL (fL : Int64 → Int64 → Int64) (pc : Nat) {x : Bool} {r : bi_R} (h : bi_opL fL pc lv st M = some (x, r)) : bi_le M (bi_rmm r) := by
  simp only [bi_opL] at h
  repeat' split at h
  all_goals first
    | (cases h; done)
    | (cases h; exact bi_le.rf)
    | (cases h; exact bi_le.mk)
    | (cases h; exact bi_le.ex1)
    | (revert h; generalize Nat.beq _ 4999 = z; cases z <;> intro h <;> cases h <;> exact bi_le.rf)
    | (revert h; generalize Nat.blt _ 13 = z; cases z <;> intro h <;> first | (cases h; done) | (cases h; exact bi_le.rf) | (cases h; exact bi_le.mk) | (cases h; exact bi_le.ex1))
    | (revert h; rename_i z _; cases z <;> intro h <;> cases h <;> exact bi_le.rf)
theorem bi_mo_if1 (cd : ClassFile.Cond) (pc : Nat) (off : Int) {x : Bool} {r : bi_R} (h : bi_if1 cd pc off lv st M = some (x, r)) : bi_le M (bi_rmm r) := by
  simp only [bi_if1] at h
  repeat' split at h
  all_goals first
    | (cases h; done)
    | (cases h; exact bi_le.rf)
    | (cases h; exact bi_le.mk)
    | (cases h; exact bi_le.ex1)
    | (revert h; generalize Nat.beq _ 4999 = z; cases z <;> intro h <;> cases h <;> exact bi_le.rf)
    | (revert h; generalize Nat.blt _ 13 = z; cases z <;> intro h <;> first | (cases h; done) | (cases h; exact bi_le.rf) | (cases h; exact bi_le.mk) | (cases h; exact bi_le.ex1))
    | (revert h; rename_i z _; cases z <;> intro h <;> cases h <;> exact bi_le.rf)
theorem bi_mo_if2 (cd : ClassFile.Cond) (pc : Nat) (off : Int) {x : Bool} {r : bi_R} (h : bi_if2 cd pc off lv st M = some (x, r)) : bi_le M (bi_rmm r) := by
  simp only [bi_if2] at h
  repeat' split at h
  all_goals first
    | (cases h; done)
    | (cases h; exact bi_le.rf)
    | (cases h; exact bi_le.mk)
    | (cases h; exact bi_le.ex1)
    | (revert h; generalize Nat.beq _ 4999 = z; cases z <;> intro h <;> cases h <;> exact bi_le.rf)
    | (revert h; generalize Nat.blt _ 13 = z; cases z <;> intro h <;> first | (cases h; done) | (cases h; exact bi_le.rf) | (cases h; exact bi_le.mk) | (cases h; exact bi_le.ex1))
    | (revert h; rename_i z _; cases z <;> intro h <;> cases h <;> exact bi_le.rf)
theorem bi_mo_go (pc : Nat) (off : Int) {x : Bool} {r : bi_R} (h : bi_go pc off lv st M = some (x, r)) : bi_le M (bi_rmm r) := by
  simp only [bi_go] at h
  repeat' split at h
  all_goals first
    | (cases h; done)
    | (cases h; exact bi_le.rf)
    | (cases h; exact bi_le.mk)
    | (cases h; exact bi_le.ex1)
    | (revert h; generalize Nat.beq _ 4999 = z; cases z <;> intro h <;> cases h <;> exact bi_le.rf)
    | (revert h; generalize Nat.blt _ 13 = z; cases z <;> intro h <;> first | (cases h; done) | (cases h; exact bi_le.rf) | (cases h; exact bi_le.mk) | (cases h; exact bi_le.ex1))
    | (revert h; rename_i z _; cases z <;> intro h <;> cases h <;> exact bi_le.rf)
theorem bi_mo_sw (df : Int) (lo : Int) (hi : Int) (offs : Array Int) (pc : Nat) {x : Bool} {r : bi_R} (h : bi_sw df lo hi offs pc lv st M = some (x, r)) : bi_le M (bi_rmm r) := by
  simp only [bi_sw] at h
  repeat' split at h
  all_goals first
    | (cases h; done)
    | (cases h; exact bi_le.rf)
    | (cases h; exact bi_le.mk)
    | (cases h; exact bi_le.ex1)
    | (revert h; generalize Nat.beq _ 4999 = z; cases z <;> intro h <;> cases h <;> exact bi_le.rf)
    | (revert h; generalize Nat.blt _ 13 = z; cases z <;> intro h <;> first | (cases h; done) | (cases h; exact bi_le.rf) | (cases h; exact bi_le.mk) | (cases h; exact bi_le.ex1))
    | (revert h; rename_i z _; cases z <;> intro h <;> cases h <;> exact bi_le.rf)
theorem bi_mo_getf (o : Nat) (i : Nat) (pc : Nat) {x : Bool} {r : bi_R} (h : bi_getf o i pc lv st M = some (x, r)) : bi_le M (bi_rmm r) := by
  simp only [bi_getf] at h
  repeat' split at h
  all_goals first
    | (cases h; done)
    | (cases h; exact bi_le.rf)
    | (cases h; exact bi_le.mk)
    | (cases h; exact bi_le.ex1)
    | (revert h; generalize Nat.beq _ 4999 = z; cases z <;> intro h <;> cases h <;> exact bi_le.rf)
    | (revert h; generalize Nat.blt _ 13 = z; cases z <;> intro h <;> first | (cases h; done) | (cases h; exact bi_le.rf) | (cases h; exact bi_le.mk) | (cases h; exact bi_le.ex1))
    | (revert h; rename_i z _; cases z <;> intro h <;> cases h <;> exact bi_le.rf)
theorem bi_mo_putf (j : Nat) (o : Nat) (i : Nat) (pc : Nat) {x : Bool} {r : bi_R} (h : bi_putf j o i pc lv st M = some (x, r)) : bi_le M (bi_rmm r) := by
  simp only [bi_putf] at h
  repeat' split at h
  all_goals first
    | (cases h; done)
    | (cases h; exact bi_le.rf)
    | (cases h; exact bi_le.mk)
    | (cases h; exact bi_le.ex1)
    | (revert h; generalize Nat.beq _ 4999 = z; cases z <;> intro h <;> cases h <;> exact bi_le.rf)
    | (revert h; generalize Nat.blt _ 13 = z; cases z <;> intro h <;> first | (cases h; done) | (cases h; exact bi_le.rf) | (cases h; exact bi_le.mk) | (cases h; exact bi_le.ex1))
    | (revert h; rename_i z _; cases z <;> intro h <;> cases h <;> exact bi_le.rf)
theorem bi_mo_iald (X : bi_X) (pc : Nat) {x : Bool} {r : bi_R} (h : bi_iald X pc lv st M = some (x, r)) : bi_le M (bi_rmm r) := by
  simp only [bi_iald] at h
  repeat' split at h
  all_goals first
    | (cases h; done)
    | (cases h; exact bi_le.rf)
    | (cases h; exact bi_le.mk)
    | (cases h; exact bi_le.ex1)
    | (revert h; generalize Nat.beq _ 4999 = z; cases z <;> intro h <;> cases h <;> exact bi_le.rf)
    | (revert h; generalize Nat.blt _ 13 = z; cases z <;> intro h <;> first | (cases h; done) | (cases h; exact bi_le.rf) | (cases h; exact bi_le.mk) | (cases h; exact bi_le.ex1))
    | (revert h; rename_i z _; cases z <;> intro h <;> cases h <;> exact bi_le.rf)
theorem bi_mo_bald (pc : Nat) {x : Bool} {r : bi_R} (h : bi_bald pc lv st M = some (x, r)) : bi_le M (bi_rmm r) := by
  simp only [bi_bald] at h
  repeat' split at h
  all_goals first
    | (cases h; done)
    | (cases h; exact bi_le.rf)
    | (cases h; exact bi_le.mk)
    | (cases h; exact bi_le.ex1)
    | (revert h; generalize Nat.beq _ 4999 = z; cases z <;> intro h <;> cases h <;> exact bi_le.rf)
    | (revert h; generalize Nat.blt _ 13 = z; cases z <;> intro h <;> first | (cases h; done) | (cases h; exact bi_le.rf) | (cases h; exact bi_le.mk) | (cases h; exact bi_le.ex1))
    | (revert h; rename_i z _; cases z <;> intro h <;> cases h <;> exact bi_le.rf)
theorem bi_mo_lald (pc : Nat) {x : Bool} {r : bi_R} (h : bi_lald pc lv st M = some (x, r)) : bi_le M (bi_rmm r) := by
  simp only [bi_lald] at h
  repeat' split at h
  all_goals first
    | (cases h; done)
    | (cases h; exact bi_le.rf)
    | (cases h; exact bi_le.mk)
    | (cases h; exact bi_le.ex1)
    | (revert h; generalize Nat.beq _ 4999 = z; cases z <;> intro h <;> cases h <;> exact bi_le.rf)
    | (revert h; generalize Nat.blt _ 13 = z; cases z <;> intro h <;> first | (cases h; done) | (cases h; exact bi_le.rf) | (cases h; exact bi_le.mk) | (cases h; exact bi_le.ex1))
    | (revert h; rename_i z _; cases z <;> intro h <;> cases h <;> exact bi_le.rf)
theorem bi_mo_aald (pc : Nat) {x : Bool} {r : bi_R} (h : bi_aald pc lv st M = some (x, r)) : bi_le M (bi_rmm r) := by
  simp only [bi_aald] at h
  repeat' split at h
  all_goals first
    | (cases h; done)
    | (cases h; exact bi_le.rf)
    | (cases h; exact bi_le.mk)
    | (cases h; exact bi_le.ex1)
    | (revert h; generalize Nat.beq _ 4999 = z; cases z <;> intro h <;> cases h <;> exact bi_le.rf)
    | (revert h; generalize Nat.blt _ 13 = z; cases z <;> intro h <;> first | (cases h; done) | (cases h; exact bi_le.rf) | (cases h; exact bi_le.mk) | (cases h; exact bi_le.ex1))
    | (revert h; rename_i z _; cases z <;> intro h <;> cases h <;> exact bi_le.rf)
theorem bi_mo_iast (pc : Nat) {x : Bool} {r : bi_R} (h : bi_iast pc lv st M = some (x, r)) : bi_le M (bi_rmm r) := by
  simp only [bi_iast] at h
  repeat' split at h
  all_goals first
    | (cases h; done)
    | (cases h; exact bi_le.rf)
    | (cases h; exact bi_le.mk)
    | (cases h; exact bi_le.ex1)
    | (revert h; generalize Nat.beq _ 4999 = z; cases z <;> intro h <;> cases h <;> exact bi_le.rf)
    | (revert h; generalize Nat.blt _ 13 = z; cases z <;> intro h <;> first | (cases h; done) | (cases h; exact bi_le.rf) | (cases h; exact bi_le.mk) | (cases h; exact bi_le.ex1))
    | (revert h; rename_i z _; cases z <;> intro h <;> cases h <;> exact bi_le.rf)
theorem bi_mo_bast (pc : Nat) {x : Bool} {r : bi_R} (h : bi_bast pc lv st M = some (x, r)) : bi_le M (bi_rmm r) := by
  simp only [bi_bast] at h
  repeat' split at h
  all_goals first
    | (cases h; done)
    | (cases h; exact bi_le.rf)
    | (cases h; exact bi_le.mk)
    | (cases h; exact bi_le.ex1)
    | (revert h; generalize Nat.beq _ 4999 = z; cases z <;> intro h <;> cases h <;> exact bi_le.rf)
    | (revert h; generalize Nat.blt _ 13 = z; cases z <;> intro h <;> first | (cases h; done) | (cases h; exact bi_le.rf) | (cases h; exact bi_le.mk) | (cases h; exact bi_le.ex1))
    | (revert h; rename_i z _; cases z <;> intro h <;> cases h <;> exact bi_le.rf)
theorem bi_mo_last (pc : Nat) {x : Bool} {r : bi_R} (h : bi_last pc lv st M = some (x, r)) : bi_le M (bi_rmm r) := by
  simp only [bi_last] at h
  repeat' split at h
  all_goals first
    | (cases h; done)
    | (cases h; exact bi_le.rf)
    | (cases h; exact bi_le.mk)
    | (cases h; exact bi_le.ex1)
    | (revert h; generalize Nat.beq _ 4999 = z; cases z <;> intro h <;> cases h <;> exact bi_le.rf)
    | (revert h; generalize Nat.blt _ 13 = z; cases z <;> intro h <;> first | (cases h; done) | (cases h; exact bi_le.rf) | (cases h; exact bi_le.mk) | (cases h; exact bi_le.ex1))
    | (revert h; rename_i z _; cases z <;> intro h <;> cases h <;> exact bi_le.rf)
theorem bi_mo_aast (pc : Nat) {x : Bool} {r : bi_R} (h : bi_aast pc lv st M = some (x, r)) : bi_le M (bi_rmm r) := by
  simp only [bi_aast] at h
  repeat' split at h
  all_goals first
    | (cases h; done)
    | (cases h; exact bi_le.rf)
    | (cases h; exact bi_le.mk)
    | (cases h; exact bi_le.ex1)
    | (revert h; generalize Nat.beq _ 4999 = z; cases z <;> intro h <;> cases h <;> exact bi_le.rf)
    | (revert h; generalize Nat.blt _ 13 = z; cases z <;> intro h <;> first | (cases h; done) | (cases h; exact bi_le.rf) | (cases h; exact bi_le.mk) | (cases h; exact bi_le.ex1))
    | (revert h; rename_i z _; cases z <;> intro h <;> cases h <;> exact bi_le.rf)
theorem bi_mo_alen (X : bi_X) (pc : Nat) {x : Bool} {r : bi_R} (h : bi_alen X pc lv st M = some (x, r)) : bi_le M (bi_rmm r) := by
  simp only [bi_alen] at h
  repeat' split at h
  all_goals first
    | (cases h; done)
    | (cases h; exact bi_le.rf)
    | (cases h; exact bi_le.mk)
    | (cases h; exact bi_le.ex1)
    | (revert h; generalize Nat.beq _ 4999 = z; cases z <;> intro h <;> cases h <;> exact bi_le.rf)
    | (revert h; generalize Nat.blt _ 13 = z; cases z <;> intro h <;> first | (cases h; done) | (cases h; exact bi_le.rf) | (cases h; exact bi_le.mk) | (cases h; exact bi_le.ex1))
    | (revert h; rename_i z _; cases z <;> intro h <;> cases h <;> exact bi_le.rf)
theorem bi_mo_new (j : Nat) (o : Nat) (i : Nat) (pc : Nat) {x : Bool} {r : bi_R} (h : bi_new j o i pc lv st M = some (x, r)) : bi_le M (bi_rmm r) := by
  simp only [bi_new, bi_new1] at h
  repeat' split at h
  all_goals first
    | (cases h; done)
    | (cases h; exact bi_le.rf)
    | (cases h; exact bi_le.mk)
    | (cases h; exact bi_le.ex1)
    | (revert h; generalize Nat.beq _ 4999 = z; cases z <;> intro h <;> cases h <;> exact bi_le.rf)
    | (revert h; generalize Nat.blt _ 13 = z; cases z <;> intro h <;> first | (cases h; done) | (cases h; exact bi_le.rf) | (cases h; exact bi_le.mk) | (cases h; exact bi_le.ex1))
    | (revert h; rename_i z _; cases z <;> intro h <;> cases h <;> exact bi_le.rf)
theorem bi_mo_newa (t : ArrayType) (pc : Nat) {x : Bool} {r : bi_R} (h : bi_newa t pc lv st M = some (x, r)) : bi_le M (bi_rmm r) := by
  simp only [bi_newa] at h
  repeat' split at h
  all_goals first
    | (cases h; done)
    | (cases h; exact bi_le.rf)
    | (cases h; exact bi_le.mk)
    | (cases h; exact bi_le.ex1)
    | (revert h; generalize Nat.beq _ 4999 = z; cases z <;> intro h <;> cases h <;> exact bi_le.rf)
    | (revert h; generalize Nat.blt _ 13 = z; cases z <;> intro h <;> first | (cases h; done) | (cases h; exact bi_le.rf) | (cases h; exact bi_le.mk) | (cases h; exact bi_le.ex1))
    | (revert h; rename_i z _; cases z <;> intro h <;> cases h <;> exact bi_le.rf)
theorem bi_mo_anew (o : Nat) (i : Nat) (pc : Nat) {x : Bool} {r : bi_R} (h : bi_anew o i pc lv st M = some (x, r)) : bi_le M (bi_rmm r) := by
  simp only [bi_anew] at h
  repeat' split at h
  all_goals first
    | (cases h; done)
    | (cases h; exact bi_le.rf)
    | (cases h; exact bi_le.mk)
    | (cases h; exact bi_le.ex1)
    | (revert h; generalize Nat.beq _ 4999 = z; cases z <;> intro h <;> cases h <;> exact bi_le.rf)
    | (revert h; generalize Nat.blt _ 13 = z; cases z <;> intro h <;> first | (cases h; done) | (cases h; exact bi_le.rf) | (cases h; exact bi_le.mk) | (cases h; exact bi_le.ex1))
    | (revert h; rename_i z _; cases z <;> intro h <;> cases h <;> exact bi_le.rf)
theorem bi_mo_inv (o : Nat) (i : Nat) (pc : Nat) (V : Nat) {x : Bool} {r : bi_R} (h : bi_inv o i pc V lv st M = some (x, r)) : bi_le M (bi_rmm r) := by
  simp only [bi_inv, bi_slen, bi_chat, bi_copy, bi_call] at h
  repeat' split at h
  all_goals first
    | (cases h; done)
    | (cases h; exact bi_le.rf)
    | (cases h; exact bi_le.mk)
    | (cases h; exact bi_le.ex1)
    | (revert h; generalize Nat.beq _ 4999 = z; cases z <;> intro h <;> cases h <;> exact bi_le.rf)
    | (revert h; generalize Nat.blt _ 13 = z; cases z <;> intro h <;> first | (cases h; done) | (cases h; exact bi_le.rf) | (cases h; exact bi_le.mk) | (cases h; exact bi_le.ex1))
    | (revert h; rename_i z _; cases z <;> intro h <;> cases h <;> exact bi_le.rf)
theorem bi_mo_ldc (o : Nat) (i : Nat) (pc : Nat) {x : Bool} {r : bi_R} (h : bi_ldc o i pc lv st M = some (x, r)) : bi_le M (bi_rmm r) := by
  simp only [bi_ldc] at h
  repeat' split at h
  all_goals first
    | (cases h; done)
    | (cases h; exact bi_le.rf)
    | (cases h; exact bi_le.mk)
    | (cases h; exact bi_le.ex1)
    | (revert h; generalize Nat.beq _ 4999 = z; cases z <;> intro h <;> cases h <;> exact bi_le.rf)
    | (revert h; generalize Nat.blt _ 13 = z; cases z <;> intro h <;> first | (cases h; done) | (cases h; exact bi_le.rf) | (cases h; exact bi_le.mk) | (cases h; exact bi_le.ex1))
    | (revert h; rename_i z _; cases z <;> intro h <;> cases h <;> exact bi_le.rf)
theorem bi_mo_dup (pc : Nat) {x : Bool} {r : bi_R} (h : bi_dup pc lv st M = some (x, r)) : bi_le M (bi_rmm r) := by
  simp only [bi_dup] at h
  repeat' split at h
  all_goals first
    | (cases h; done)
    | (cases h; exact bi_le.rf)
    | (cases h; exact bi_le.mk)
    | (cases h; exact bi_le.ex1)
    | (revert h; generalize Nat.beq _ 4999 = z; cases z <;> intro h <;> cases h <;> exact bi_le.rf)
    | (revert h; generalize Nat.blt _ 13 = z; cases z <;> intro h <;> first | (cases h; done) | (cases h; exact bi_le.rf) | (cases h; exact bi_le.mk) | (cases h; exact bi_le.ex1))
    | (revert h; rename_i z _; cases z <;> intro h <;> cases h <;> exact bi_le.rf)
theorem bi_mo_dup2 (pc : Nat) {x : Bool} {r : bi_R} (h : bi_dup2 pc lv st M = some (x, r)) : bi_le M (bi_rmm r) := by
  simp only [bi_dup2] at h
  repeat' split at h
  all_goals first
    | (cases h; done)
    | (cases h; exact bi_le.rf)
    | (cases h; exact bi_le.mk)
    | (cases h; exact bi_le.ex1)
    | (revert h; generalize Nat.beq _ 4999 = z; cases z <;> intro h <;> cases h <;> exact bi_le.rf)
    | (revert h; generalize Nat.blt _ 13 = z; cases z <;> intro h <;> first | (cases h; done) | (cases h; exact bi_le.rf) | (cases h; exact bi_le.mk) | (cases h; exact bi_le.ex1))
    | (revert h; rename_i z _; cases z <;> intro h <;> cases h <;> exact bi_le.rf)
theorem bi_mo_pop (pc : Nat) {x : Bool} {r : bi_R} (h : bi_pop pc lv st M = some (x, r)) : bi_le M (bi_rmm r) := by
  simp only [bi_pop] at h
  repeat' split at h
  all_goals first
    | (cases h; done)
    | (cases h; exact bi_le.rf)
    | (cases h; exact bi_le.mk)
    | (cases h; exact bi_le.ex1)
    | (revert h; generalize Nat.beq _ 4999 = z; cases z <;> intro h <;> cases h <;> exact bi_le.rf)
    | (revert h; generalize Nat.blt _ 13 = z; cases z <;> intro h <;> first | (cases h; done) | (cases h; exact bi_le.rf) | (cases h; exact bi_le.mk) | (cases h; exact bi_le.ex1))
    | (revert h; rename_i z _; cases z <;> intro h <;> cases h <;> exact bi_le.rf)
theorem bi_mo_i2l (pc : Nat) {x : Bool} {r : bi_R} (h : bi_i2l pc lv st M = some (x, r)) : bi_le M (bi_rmm r) := by
  simp only [bi_i2l] at h
  repeat' split at h
  all_goals first
    | (cases h; done)
    | (cases h; exact bi_le.rf)
    | (cases h; exact bi_le.mk)
    | (cases h; exact bi_le.ex1)
    | (revert h; generalize Nat.beq _ 4999 = z; cases z <;> intro h <;> cases h <;> exact bi_le.rf)
    | (revert h; generalize Nat.blt _ 13 = z; cases z <;> intro h <;> first | (cases h; done) | (cases h; exact bi_le.rf) | (cases h; exact bi_le.mk) | (cases h; exact bi_le.ex1))
    | (revert h; rename_i z _; cases z <;> intro h <;> cases h <;> exact bi_le.rf)
theorem bi_mo_l2i (pc : Nat) {x : Bool} {r : bi_R} (h : bi_l2i pc lv st M = some (x, r)) : bi_le M (bi_rmm r) := by
  simp only [bi_l2i] at h
  repeat' split at h
  all_goals first
    | (cases h; done)
    | (cases h; exact bi_le.rf)
    | (cases h; exact bi_le.mk)
    | (cases h; exact bi_le.ex1)
    | (revert h; generalize Nat.beq _ 4999 = z; cases z <;> intro h <;> cases h <;> exact bi_le.rf)
    | (revert h; generalize Nat.blt _ 13 = z; cases z <;> intro h <;> first | (cases h; done) | (cases h; exact bi_le.rf) | (cases h; exact bi_le.mk) | (cases h; exact bi_le.ex1))
    | (revert h; rename_i z _; cases z <;> intro h <;> cases h <;> exact bi_le.rf)
theorem bi_mo_lcmp (pc : Nat) {x : Bool} {r : bi_R} (h : bi_lcmp pc lv st M = some (x, r)) : bi_le M (bi_rmm r) := by
  simp only [bi_lcmp] at h
  repeat' split at h
  all_goals first
    | (cases h; done)
    | (cases h; exact bi_le.rf)
    | (cases h; exact bi_le.mk)
    | (cases h; exact bi_le.ex1)
    | (revert h; generalize Nat.beq _ 4999 = z; cases z <;> intro h <;> cases h <;> exact bi_le.rf)
    | (revert h; generalize Nat.blt _ 13 = z; cases z <;> intro h <;> first | (cases h; done) | (cases h; exact bi_le.rf) | (cases h; exact bi_le.mk) | (cases h; exact bi_le.ex1))
    | (revert h; rename_i z _; cases z <;> intro h <;> cases h <;> exact bi_le.rf)
theorem bi_mo_lshl (pc : Nat) {x : Bool} {r : bi_R} (h : bi_lshl pc lv st M = some (x, r)) : bi_le M (bi_rmm r) := by
  simp only [bi_lshl] at h
  repeat' split at h
  all_goals first
    | (cases h; done)
    | (cases h; exact bi_le.rf)
    | (cases h; exact bi_le.mk)
    | (cases h; exact bi_le.ex1)
    | (revert h; generalize Nat.beq _ 4999 = z; cases z <;> intro h <;> cases h <;> exact bi_le.rf)
    | (revert h; generalize Nat.blt _ 13 = z; cases z <;> intro h <;> first | (cases h; done) | (cases h; exact bi_le.rf) | (cases h; exact bi_le.mk) | (cases h; exact bi_le.ex1))
    | (revert h; rename_i z _; cases z <;> intro h <;> cases h <;> exact bi_le.rf)
theorem bi_mo_rets {x : Bool} {r : bi_R} (h : bi_iret j st M = some (x, r) ∨ bi_lret j st M = some (x, r) ∨ bi_vret j M = some (x, r)) : bi_le M (bi_rmm r) := by
  rcases h with h | h | h
  · unfold bi_iret at h; repeat' split at h
    all_goals first | (cases h; done) | (cases h; exact bi_le.rf)
  · unfold bi_lret at h; repeat' split at h
    all_goals first | (cases h; done) | (cases h; exact bi_le.rf)
  · unfold bi_vret at h; repeat' split at h
    all_goals first | (cases h; done) | (cases h; exact bi_le.rf)
theorem bi_mo_nx {b0 : Bool} {pc' : Nat} {lv' : bi_Lv} {st' : List Value} {x : Bool} {r : bi_R} (h : bi_nxc b0 pc' lv' st' M = some (x, r)) : bi_le M (bi_rmm r) := by cases h; exact bi_le.rf
theorem bi_stp_mo {x : Bool} {r : bi_R} (h : bi_stp X j pc lv st M = some (x, r)) : bi_le M (bi_rmm r) := by
  unfold bi_stp at h
  split at h
  · unfold bi_step at h
    split at h
    all_goals first
      | (cases h; done)
      | exact bi_mo_nx h
      | exact bi_mo_ldI _ _ h
      | exact bi_mo_ldL _ _ h
      | exact bi_mo_ldA _ _ h
      | exact bi_mo_stI _ _ _ h
      | exact bi_mo_stL _ _ _ h
      | exact bi_mo_stA _ _ _ h
      | exact bi_mo_iinc _ _ _ _ h
      | exact bi_mo_op2 _ _ h
      | exact bi_mo_op2d _ _ h
      | exact bi_mo_op1 _ _ h
      | exact bi_mo_opL _ _ h
      | exact bi_mo_if1 _ _ _ h
      | exact bi_mo_if2 _ _ _ h
      | exact bi_mo_go _ _ h
      | exact bi_mo_sw _ _ _ _ _ h
      | exact bi_mo_getf _ _ _ h
      | exact bi_mo_putf _ _ _ _ h
      | exact bi_mo_iald _ _ h
      | exact bi_mo_bald _ h
      | exact bi_mo_lald _ h
      | exact bi_mo_aald _ h
      | exact bi_mo_iast _ h
      | exact bi_mo_bast _ h
      | exact bi_mo_last _ h
      | exact bi_mo_aast _ h
      | exact bi_mo_alen _ _ h
      | exact bi_mo_new _ _ _ _ h
      | exact bi_mo_newa _ _ h
      | exact bi_mo_anew _ _ _ h
      | exact bi_mo_inv _ _ _ _ h
      | exact bi_mo_ldc _ _ _ h
      | exact bi_mo_dup _ h
      | exact bi_mo_dup2 _ h
      | exact bi_mo_pop _ h
      | exact bi_mo_i2l _ h
      | exact bi_mo_l2i _ h
      | exact bi_mo_lcmp _ h
      | exact bi_mo_lshl _ h
      | exact bi_mo_rets (Or.inl h)
      | exact bi_mo_rets (Or.inr (Or.inl h))
      | exact bi_mo_rets (st := []) (Or.inr (Or.inr h))
  · cases h
theorem bi_ex_mo : ∀ (n d j : Nat) (q : bi_S) (v : Option Value ⊕ Nat) (M' : bi_Mem), bi_ex X n d j q = some (v, M') → bi_le q.2.2.2 M' := by
  intro n
  induction n with
  | zero => intro d j q v M' h; simp [bi_ex] at h
  | succ n ih =>
    intro d j q v M' h
    obtain ⟨pc, lv, st, M⟩ := q
    rw [bi_ex] at h
    cases hs : bi_stp X j pc lv st M with
    | none => rw [hs] at h; simp at h
    | some r =>
      rw [hs] at h
      obtain ⟨x, r⟩ := r
      have hm := bi_stp_mo hs
      cases x with
      | false => simp at h
      | true =>
        rcases r with q' | ⟨v1, M1⟩ | ⟨E, M1⟩ | ⟨j', as, r, M1⟩
        · exact hm.tr (ih _ _ _ _ _ h)
        · cases h; exact hm
        · cases h; exact hm
        · cases d with
          | zero => simp at h
          | succ d' =>
            simp only at h
            cases hc : bi_ex X n d' j' (0, bi_ent as, [], M1) with
            | none => rw [hc] at h; simp at h
            | some z =>
              rw [hc] at h
              obtain ⟨v2 | E, M2⟩ := z
              · exact (hm.tr (ih _ _ _ _ _ hc)).tr (ih _ _ _ _ _ h)
              · simp only at h
                cases hh : bi_hnd j pc E with
                | none => rw [hh] at h; cases h; exact hm.tr (ih _ _ _ _ _ hc)
                | some z => rw [hh] at h; exact (hm.tr (ih _ _ _ _ _ hc)).tr (ih _ _ _ _ _ h)
end FLOW
