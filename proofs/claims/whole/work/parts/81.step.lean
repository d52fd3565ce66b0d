/-! ===== one instruction ===== -/
section STEP
/-- what holds of the method's class, tables, and of the heap below -/
def bi_En (D : va_G) (cA : Nat → ClassId) (tx : Nat → Nat) (U : State) : Prop := va_K D vwCl (bi_tys cA) U ∧ va_AO RX7 U ∧ (∀ (q : Nat) (t : String × Nat × String), bi_tn[q]? = some t → vk_R t.1 t.2.1 t.2.2 (tx q) U) ∧ (∀ t ∈ bi_N9, va_Nw (.methodLinkNest t.1 t.2.1 t.2.2 "PolicyRows") U) ∧ va_Nc "java/lang/IllegalArgumentException" "java/util/NoSuchElementException" U ∧ va_Nw (.castable "java/util/NoSuchElementException" "java/util/NoSuchElementException") U ∧ va_Nw (.castable "java/lang/IllegalArgumentException" "java/lang/IllegalArgumentException") U
def bi_Bs (bs b : Nat) (X : bi_X) (U : State) (H : Heap) : Prop := va_X b X.1 X.2 U H ∧ b < bs ∧ bs ≤ H.size
def bi_Fx (D : va_G) (cA : Nat → ClassId) (bs b : Nat) (tx : Nat → Nat) (X : bi_X) (j : Nat) (p : Program) (s : State) (m : MethodId) (args : Array Value) (meth : Method) (c : Code) : Prop :=
  p.tables.exec = Jvm.exec ∧ c.code = bi_mc j ∧ c.maxLocals = (bi_mi j).2.1 ∧ s.vm.findClass (bi_ow (bi_mi j).1) = some m.cls ∧ (∀ w ∈ bi_T9, w.before args s = true) ∧ ((bi_mi j).2.2.2 = true → meth.name = "<init>") ∧ bi_En D cA tx s ∧ bi_Bs bs b X s s.heap
def bi_Pt (D : va_G) (cA : Nat → ClassId) (bs b : Nat) (tx : Nat → Nat) (j : Nat) (s : State) (M : bi_Mem) (lv : bi_Lv) (H : Heap) (locs : List Loc) (ls : Array Slot) : Prop := bi_W9 D cA bs b tx M H ∧ va_S (bi_A bs) s.heap H locs ∧ lv_has ls (bi_mi j).2.1 (bi_lvv (bi_ad bs b tx) lv)
variable {D : va_G} {cA : Nat → ClassId} {bs b : Nat} {tx : Nat → Nat} {X : bi_X} {j : Nat} {p : Program} {l : Launch} {e : Env} {R : Room} {s : State} {m : MethodId} {args : Array Value} {below : List Frame} {meth : Method} {c : Code} {Q : State → Prop}
variable {M : bi_Mem} {lv : bi_Lv} {st : List Value} {pc : Nat} {H : Heap} {locs : List Loc} {ls : Array Slot} {cells slots : Nat} {s' : bi_S}
/-- what is to be shown of the next state -/
def bi_Kt (D : va_G) (cA : Nat → ClassId) (bs b : Nat) (tx : Nat → Nat) (j : Nat) (p : Program) (l : Launch) (e : Env) (R : Room) (s : State) (m : MethodId) (args : Array Value) (below : List Frame) (meth : Method) (c : Code) (Q : State → Prop) (cells slots : Nat) (M : bi_Mem) (s' : bi_S) : Prop :=
  ∀ (H1 : Heap) (locs1 : List Loc) (ls1 : Array Slot), bi_Pt D cA bs b tx j s s'.2.2.2 s'.2.1 H1 locs1 ls1 → W p l e R s m args below meth c H1 locs1 (cells + (bi_cn s'.2.2.2 - bi_cn M)) (slots + (bi_sn s'.2.2.2 - bi_sn M)) Q (F0 m s'.1 ls1 (bi_vs (bi_ad bs b tx) s'.2.2.1))
theorem bi_Kt.same (k : bi_Kt D cA bs b tx j p l e R s m args below meth c Q cells slots M s') {pc' : Nat} {lv' : bi_Lv} {st' : List Value} {M' : bi_Mem} (h : s' = (pc', lv', st', M')) (hc : bi_cn M' = bi_cn M) (hs : bi_sn M' = bi_sn M) {H1 : Heap} {locs1 : List Loc} {ls1 : Array Slot} (P : bi_Pt D cA bs b tx j s M' lv' H1 locs1 ls1) : W p l e R s m args below meth c H1 locs1 cells slots Q (F0 m pc' ls1 (bi_vs (bi_ad bs b tx) st')) := by
  subst h
  have := k H1 locs1 ls1 P
  simp only [hc, hs, Nat.sub_self, Nat.add_zero] at this
  exact this

theorem bi_s_iload {q : Nat} (F : bi_Fx D cA bs b tx X j p s m args meth c) (P : bi_Pt D cA bs b tx j s M lv H locs ls) (k : bi_Kt D cA bs b tx j p l e R s m args below meth c Q cells slots M s') (hdg : decode (bi_mc j) pc = .ok (.iload q, 2)) (h : bi_ldI q (pc + 2) lv st M = some (true, .inl s')) : W p l e R s m args below meth c H locs cells slots Q (F0 m pc ls (bi_vs (bi_ad bs b tx) st)) := by
  unfold bi_ldI at h
  split at h
  · rename_i x hk
    cases h
    exact lv_iload F.1 F.2.1 hdg (bi_lvv_at P.2.2 hk) (k.same rfl rfl rfl P)
  · cases h
theorem bi_s_iload_n {q : Fin 4} (F : bi_Fx D cA bs b tx X j p s m args meth c) (P : bi_Pt D cA bs b tx j s M lv H locs ls) (k : bi_Kt D cA bs b tx j p l e R s m args below meth c Q cells slots M s') (hdg : decode (bi_mc j) pc = .ok (.iload_n q, 1)) (h : bi_ldI q.val (pc + 1) lv st M = some (true, .inl s')) : W p l e R s m args below meth c H locs cells slots Q (F0 m pc ls (bi_vs (bi_ad bs b tx) st)) := by
  unfold bi_ldI at h
  split at h
  · rename_i x hk
    cases h
    exact lv_iload_n F.1 F.2.1 hdg rfl (bi_lvv_at P.2.2 hk) (k.same rfl rfl rfl P)
  · cases h
theorem bi_s_lload {q : Nat} (F : bi_Fx D cA bs b tx X j p s m args meth c) (P : bi_Pt D cA bs b tx j s M lv H locs ls) (k : bi_Kt D cA bs b tx j p l e R s m args below meth c Q cells slots M s') (hdg : decode (bi_mc j) pc = .ok (.lload q, 2)) (h : bi_ldL q (pc + 2) lv st M = some (true, .inl s')) : W p l e R s m args below meth c H locs cells slots Q (F0 m pc ls (bi_vs (bi_ad bs b tx) st)) := by
  unfold bi_ldL at h
  split at h
  · rename_i x hk
    cases h
    exact lv_lload F.1 F.2.1 hdg (bi_lvv_at P.2.2 hk) (k.same rfl rfl rfl P)
  · cases h
theorem bi_s_lload_n {q : Fin 4} (F : bi_Fx D cA bs b tx X j p s m args meth c) (P : bi_Pt D cA bs b tx j s M lv H locs ls) (k : bi_Kt D cA bs b tx j p l e R s m args below meth c Q cells slots M s') (hdg : decode (bi_mc j) pc = .ok (.lload_n q, 1)) (h : bi_ldL q.val (pc + 1) lv st M = some (true, .inl s')) : W p l e R s m args below meth c H locs cells slots Q (F0 m pc ls (bi_vs (bi_ad bs b tx) st)) := by
  unfold bi_ldL at h
  split at h
  · rename_i x hk
    cases h
    exact lv_lload_n F.1 F.2.1 hdg rfl (bi_lvv_at P.2.2 hk) (k.same rfl rfl rfl P)
  · cases h
theorem bi_s_aload {q : Nat} (F : bi_Fx D cA bs b tx X j p s m args meth c) (P : bi_Pt D cA bs b tx j s M lv H locs ls) (k : bi_Kt D cA bs b tx j p l e R s m args below meth c Q cells slots M s') (hdg : decode (bi_mc j) pc = .ok (.aload q, 2)) (h : bi_ldA q (pc + 2) lv st M = some (true, .inl s')) : W p l e R s m args below meth c H locs cells slots Q (F0 m pc ls (bi_vs (bi_ad bs b tx) st)) := by
  unfold bi_ldA at h
  split at h
  · rename_i x hk
    cases h
    exact lv_aload F.1 F.2.1 hdg (bi_lvv_at P.2.2 hk) (k.same rfl rfl rfl P)
  · cases h
theorem bi_s_aload_n {q : Fin 4} (F : bi_Fx D cA bs b tx X j p s m args meth c) (P : bi_Pt D cA bs b tx j s M lv H locs ls) (k : bi_Kt D cA bs b tx j p l e R s m args below meth c Q cells slots M s') (hdg : decode (bi_mc j) pc = .ok (.aload_n q, 1)) (h : bi_ldA q.val (pc + 1) lv st M = some (true, .inl s')) : W p l e R s m args below meth c H locs cells slots Q (F0 m pc ls (bi_vs (bi_ad bs b tx) st)) := by
  unfold bi_ldA at h
  split at h
  · rename_i x hk
    cases h
    exact lv_aload_n F.1 F.2.1 hdg rfl (bi_lvv_at P.2.2 hk) (k.same rfl rfl rfl P)
  · cases h
theorem bi_s_istore {q : Nat} (F : bi_Fx D cA bs b tx X j p s m args meth c) (P : bi_Pt D cA bs b tx j s M lv H locs ls) (k : bi_Kt D cA bs b tx j p l e R s m args below meth c Q cells slots M s') (hdg : decode (bi_mc j) pc = .ok (.istore q, 2)) (h : bi_stI (bi_mi j).2.1 q (pc + 2) lv st M = some (true, .inl s')) : W p l e R s m args below meth c H locs cells slots Q (F0 m pc ls (bi_vs (bi_ad bs b tx) st)) := by
  unfold bi_stI at h
  split at h
  · rename_i x r
    unfold bi_nxc at h
    have hlt := of_decide_eq_true (Prod.mk.inj (Option.some.inj h)).1
    have h2 := (Prod.mk.inj (Option.some.inj h)).2
    cases h2
    exact lv_istore F.1 F.2.1 hdg P.2.2 hlt (bi_lvv_sto (bi_ad bs b tx) lv q (.int x)) (fun ls1 hl => k.same rfl rfl rfl ⟨P.1, P.2.1, hl⟩)
  · cases h
theorem bi_s_istore_n {q : Fin 4} (F : bi_Fx D cA bs b tx X j p s m args meth c) (P : bi_Pt D cA bs b tx j s M lv H locs ls) (k : bi_Kt D cA bs b tx j p l e R s m args below meth c Q cells slots M s') (hdg : decode (bi_mc j) pc = .ok (.istore_n q, 1)) (h : bi_stI (bi_mi j).2.1 q.val (pc + 1) lv st M = some (true, .inl s')) : W p l e R s m args below meth c H locs cells slots Q (F0 m pc ls (bi_vs (bi_ad bs b tx) st)) := by
  unfold bi_stI at h
  split at h
  · rename_i x r
    unfold bi_nxc at h
    have hlt := of_decide_eq_true (Prod.mk.inj (Option.some.inj h)).1
    have h2 := (Prod.mk.inj (Option.some.inj h)).2
    cases h2
    exact lv_istore_n F.1 F.2.1 hdg rfl P.2.2 hlt (bi_lvv_sto (bi_ad bs b tx) lv q.val (.int x)) (fun ls1 hl => k.same rfl rfl rfl ⟨P.1, P.2.1, hl⟩)
  · cases h
theorem bi_s_lstore {q : Nat} (F : bi_Fx D cA bs b tx X j p s m args meth c) (P : bi_Pt D cA bs b tx j s M lv H locs ls) (k : bi_Kt D cA bs b tx j p l e R s m args below meth c Q cells slots M s') (hdg : decode (bi_mc j) pc = .ok (.lstore q, 2)) (h : bi_stL (bi_mi j).2.1 q (pc + 2) lv st M = some (true, .inl s')) : W p l e R s m args below meth c H locs cells slots Q (F0 m pc ls (bi_vs (bi_ad bs b tx) st)) := by
  unfold bi_stL at h
  split at h
  · rename_i x r
    unfold bi_nxc at h
    have hlt := of_decide_eq_true (Prod.mk.inj (Option.some.inj h)).1
    have h2 := (Prod.mk.inj (Option.some.inj h)).2
    cases h2
    exact lv_lstore F.1 F.2.1 hdg P.2.2 hlt (bi_lvv_sto2 (bi_ad bs b tx) lv q (.long x)) (fun ls1 hl => k.same rfl rfl rfl ⟨P.1, P.2.1, hl⟩)
  · cases h
theorem bi_s_lstore_n {q : Fin 4} (F : bi_Fx D cA bs b tx X j p s m args meth c) (P : bi_Pt D cA bs b tx j s M lv H locs ls) (k : bi_Kt D cA bs b tx j p l e R s m args below meth c Q cells slots M s') (hdg : decode (bi_mc j) pc = .ok (.lstore_n q, 1)) (h : bi_stL (bi_mi j).2.1 q.val (pc + 1) lv st M = some (true, .inl s')) : W p l e R s m args below meth c H locs cells slots Q (F0 m pc ls (bi_vs (bi_ad bs b tx) st)) := by
  unfold bi_stL at h
  split at h
  · rename_i x r
    unfold bi_nxc at h
    have hlt := of_decide_eq_true (Prod.mk.inj (Option.some.inj h)).1
    have h2 := (Prod.mk.inj (Option.some.inj h)).2
    cases h2
    exact lv_lstore_n F.1 F.2.1 hdg rfl P.2.2 hlt (bi_lvv_sto2 (bi_ad bs b tx) lv q.val (.long x)) (fun ls1 hl => k.same rfl rfl rfl ⟨P.1, P.2.1, hl⟩)
  · cases h
theorem bi_s_astore {q : Nat} (F : bi_Fx D cA bs b tx X j p s m args meth c) (P : bi_Pt D cA bs b tx j s M lv H locs ls) (k : bi_Kt D cA bs b tx j p l e R s m args below meth c Q cells slots M s') (hdg : decode (bi_mc j) pc = .ok (.astore q, 2)) (h : bi_stA (bi_mi j).2.1 q (pc + 2) lv st M = some (true, .inl s')) : W p l e R s m args below meth c H locs cells slots Q (F0 m pc ls (bi_vs (bi_ad bs b tx) st)) := by
  unfold bi_stA at h
  split at h
  · rename_i x r
    unfold bi_nxc at h
    have hlt := of_decide_eq_true (Prod.mk.inj (Option.some.inj h)).1
    have h2 := (Prod.mk.inj (Option.some.inj h)).2
    cases h2
    exact lv_astore F.1 F.2.1 hdg P.2.2 hlt (bi_lvv_sto (bi_ad bs b tx) lv q (.ref x)) (fun ls1 hl => k.same rfl rfl rfl ⟨P.1, P.2.1, hl⟩)
  · cases h
theorem bi_s_astore_n {q : Fin 4} (F : bi_Fx D cA bs b tx X j p s m args meth c) (P : bi_Pt D cA bs b tx j s M lv H locs ls) (k : bi_Kt D cA bs b tx j p l e R s m args below meth c Q cells slots M s') (hdg : decode (bi_mc j) pc = .ok (.astore_n q, 1)) (h : bi_stA (bi_mi j).2.1 q.val (pc + 1) lv st M = some (true, .inl s')) : W p l e R s m args below meth c H locs cells slots Q (F0 m pc ls (bi_vs (bi_ad bs b tx) st)) := by
  unfold bi_stA at h
  split at h
  · rename_i x r
    unfold bi_nxc at h
    have hlt := of_decide_eq_true (Prod.mk.inj (Option.some.inj h)).1
    have h2 := (Prod.mk.inj (Option.some.inj h)).2
    cases h2
    exact lv_astore_n F.1 F.2.1 hdg rfl P.2.2 hlt (bi_lvv_sto (bi_ad bs b tx) lv q.val (.ref x)) (fun ls1 hl => k.same rfl rfl rfl ⟨P.1, P.2.1, hl⟩)
  · cases h
theorem bi_s_iinc {q : Nat} {w : Int} (F : bi_Fx D cA bs b tx X j p s m args meth c) (P : bi_Pt D cA bs b tx j s M lv H locs ls) (k : bi_Kt D cA bs b tx j p l e R s m args below meth c Q cells slots M s') (hdg : decode (bi_mc j) pc = .ok (.iinc q w, 3)) (h : bi_iinc (bi_mi j).2.1 q w (pc + 3) lv st M = some (true, .inl s')) : W p l e R s m args below meth c H locs cells slots Q (F0 m pc ls (bi_vs (bi_ad bs b tx) st)) := by
  unfold bi_iinc at h
  split at h
  · rename_i x hk
    unfold bi_nxc at h
    have hlt := of_decide_eq_true (Prod.mk.inj (Option.some.inj h)).1
    have h2 := (Prod.mk.inj (Option.some.inj h)).2
    cases h2
    obtain ⟨z, hz⟩ := bi_lvv_ix (ad := bi_ad bs b tx) hk
    exact lv_iinc F.1 F.2.1 hdg P.2.2 hz rfl hlt (bi_lvv_sto (bi_ad bs b tx) lv q (.int (x + Int32.ofInt w))) (fun ls1 hl => k.same rfl rfl rfl ⟨P.1, P.2.1, hl⟩)
  · cases h
theorem bi_s_iconst {q : Int} (F : bi_Fx D cA bs b tx X j p s m args meth c) (P : bi_Pt D cA bs b tx j s M lv H locs ls) (k : bi_Kt D cA bs b tx j p l e R s m args below meth c Q cells slots M s') (hdg : decode (bi_mc j) pc = .ok (.iconst q, 1)) (h : bi_nx (pc + 1) lv (.int (Int32.ofInt q) :: st) M = some (true, .inl s')) : W p l e R s m args below meth c H locs cells slots Q (F0 m pc ls (bi_vs (bi_ad bs b tx) st)) := by
  cases h
  exact lv_iconst F.1 F.2.1 hdg rfl (k.same rfl rfl rfl P)
theorem bi_s_bipush {q : Int} (F : bi_Fx D cA bs b tx X j p s m args meth c) (P : bi_Pt D cA bs b tx j s M lv H locs ls) (k : bi_Kt D cA bs b tx j p l e R s m args below meth c Q cells slots M s') (hdg : decode (bi_mc j) pc = .ok (.bipush q, 2)) (h : bi_nx (pc + 2) lv (.int ((Int8.ofInt q).toInt32) :: st) M = some (true, .inl s')) : W p l e R s m args below meth c H locs cells slots Q (F0 m pc ls (bi_vs (bi_ad bs b tx) st)) := by
  cases h
  exact lv_bipush F.1 F.2.1 hdg rfl (k.same rfl rfl rfl P)
theorem bi_s_sipush {q : Int} (F : bi_Fx D cA bs b tx X j p s m args meth c) (P : bi_Pt D cA bs b tx j s M lv H locs ls) (k : bi_Kt D cA bs b tx j p l e R s m args below meth c Q cells slots M s') (hdg : decode (bi_mc j) pc = .ok (.sipush q, 3)) (h : bi_nx (pc + 3) lv (.int ((Int16.ofInt q).toInt32) :: st) M = some (true, .inl s')) : W p l e R s m args below meth c H locs cells slots Q (F0 m pc ls (bi_vs (bi_ad bs b tx) st)) := by
  cases h
  exact lv_sipush F.1 F.2.1 hdg rfl (k.same rfl rfl rfl P)
theorem bi_s_lconst {q : Fin 2} (F : bi_Fx D cA bs b tx X j p s m args meth c) (P : bi_Pt D cA bs b tx j s M lv H locs ls) (k : bi_Kt D cA bs b tx j p l e R s m args below meth c Q cells slots M s') (hdg : decode (bi_mc j) pc = .ok (.lconst q, 1)) (h : bi_nx (pc + 1) lv (.long (Int64.ofNat q.val) :: st) M = some (true, .inl s')) : W p l e R s m args below meth c H locs cells slots Q (F0 m pc ls (bi_vs (bi_ad bs b tx) st)) := by
  cases h
  exact lv_lconst F.1 F.2.1 hdg rfl (k.same rfl rfl rfl P)
theorem bi_s_iadd  (F : bi_Fx D cA bs b tx X j p s m args meth c) (P : bi_Pt D cA bs b tx j s M lv H locs ls) (k : bi_Kt D cA bs b tx j p l e R s m args below meth c Q cells slots M s') (hdg : decode (bi_mc j) pc = .ok (.iadd, 1)) (h : bi_op2 (fun x y => x + y) (pc + 1) lv st M = some (true, .inl s')) : W p l e R s m args below meth c H locs cells slots Q (F0 m pc ls (bi_vs (bi_ad bs b tx) st)) := by
  unfold bi_op2 at h
  split at h
  · cases h
    exact lv_iadd F.1 F.2.1 hdg (k.same rfl rfl rfl P)
  · cases h
theorem bi_s_isub  (F : bi_Fx D cA bs b tx X j p s m args meth c) (P : bi_Pt D cA bs b tx j s M lv H locs ls) (k : bi_Kt D cA bs b tx j p l e R s m args below meth c Q cells slots M s') (hdg : decode (bi_mc j) pc = .ok (.isub, 1)) (h : bi_op2 (fun x y => x - y) (pc + 1) lv st M = some (true, .inl s')) : W p l e R s m args below meth c H locs cells slots Q (F0 m pc ls (bi_vs (bi_ad bs b tx) st)) := by
  unfold bi_op2 at h
  split at h
  · cases h
    exact lv_isub F.1 F.2.1 hdg (k.same rfl rfl rfl P)
  · cases h
theorem bi_s_imul  (F : bi_Fx D cA bs b tx X j p s m args meth c) (P : bi_Pt D cA bs b tx j s M lv H locs ls) (k : bi_Kt D cA bs b tx j p l e R s m args below meth c Q cells slots M s') (hdg : decode (bi_mc j) pc = .ok (.imul, 1)) (h : bi_op2 (fun x y => x * y) (pc + 1) lv st M = some (true, .inl s')) : W p l e R s m args below meth c H locs cells slots Q (F0 m pc ls (bi_vs (bi_ad bs b tx) st)) := by
  unfold bi_op2 at h
  split at h
  · cases h
    exact lv_imul F.1 F.2.1 hdg (k.same rfl rfl rfl P)
  · cases h
theorem bi_s_iand  (F : bi_Fx D cA bs b tx X j p s m args meth c) (P : bi_Pt D cA bs b tx j s M lv H locs ls) (k : bi_Kt D cA bs b tx j p l e R s m args below meth c Q cells slots M s') (hdg : decode (bi_mc j) pc = .ok (.iand, 1)) (h : bi_op2 (fun x y => x &&& y) (pc + 1) lv st M = some (true, .inl s')) : W p l e R s m args below meth c H locs cells slots Q (F0 m pc ls (bi_vs (bi_ad bs b tx) st)) := by
  unfold bi_op2 at h
  split at h
  · cases h
    exact lv_iand F.1 F.2.1 hdg (k.same rfl rfl rfl P)
  · cases h
theorem bi_s_ior  (F : bi_Fx D cA bs b tx X j p s m args meth c) (P : bi_Pt D cA bs b tx j s M lv H locs ls) (k : bi_Kt D cA bs b tx j p l e R s m args below meth c Q cells slots M s') (hdg : decode (bi_mc j) pc = .ok (.ior, 1)) (h : bi_op2 (fun x y => x ||| y) (pc + 1) lv st M = some (true, .inl s')) : W p l e R s m args below meth c H locs cells slots Q (F0 m pc ls (bi_vs (bi_ad bs b tx) st)) := by
  unfold bi_op2 at h
  split at h
  · cases h
    exact lv_ior F.1 F.2.1 hdg (k.same rfl rfl rfl P)
  · cases h
theorem bi_s_ixor  (F : bi_Fx D cA bs b tx X j p s m args meth c) (P : bi_Pt D cA bs b tx j s M lv H locs ls) (k : bi_Kt D cA bs b tx j p l e R s m args below meth c Q cells slots M s') (hdg : decode (bi_mc j) pc = .ok (.ixor, 1)) (h : bi_op2 (fun x y => x ^^^ y) (pc + 1) lv st M = some (true, .inl s')) : W p l e R s m args below meth c H locs cells slots Q (F0 m pc ls (bi_vs (bi_ad bs b tx) st)) := by
  unfold bi_op2 at h
  split at h
  · cases h
    exact lv_ixor F.1 F.2.1 hdg (k.same rfl rfl rfl P)
  · cases h
theorem bi_s_ishl  (F : bi_Fx D cA bs b tx X j p s m args meth c) (P : bi_Pt D cA bs b tx j s M lv H locs ls) (k : bi_Kt D cA bs b tx j p l e R s m args below meth c Q cells slots M s') (hdg : decode (bi_mc j) pc = .ok (.ishl, 1)) (h : bi_op2 (fun x y => x <<< (y &&& 31)) (pc + 1) lv st M = some (true, .inl s')) : W p l e R s m args below meth c H locs cells slots Q (F0 m pc ls (bi_vs (bi_ad bs b tx) st)) := by
  unfold bi_op2 at h
  split at h
  · cases h
    exact lv_ishl F.1 F.2.1 hdg (k.same rfl rfl rfl P)
  · cases h
theorem bi_s_ishr  (F : bi_Fx D cA bs b tx X j p s m args meth c) (P : bi_Pt D cA bs b tx j s M lv H locs ls) (k : bi_Kt D cA bs b tx j p l e R s m args below meth c Q cells slots M s') (hdg : decode (bi_mc j) pc = .ok (.ishr, 1)) (h : bi_op2 (fun x y => x >>> (y &&& 31)) (pc + 1) lv st M = some (true, .inl s')) : W p l e R s m args below meth c H locs cells slots Q (F0 m pc ls (bi_vs (bi_ad bs b tx) st)) := by
  unfold bi_op2 at h
  split at h
  · cases h
    exact lv_ishr F.1 F.2.1 hdg (k.same rfl rfl rfl P)
  · cases h
theorem bi_s_iushr  (F : bi_Fx D cA bs b tx X j p s m args meth c) (P : bi_Pt D cA bs b tx j s M lv H locs ls) (k : bi_Kt D cA bs b tx j p l e R s m args below meth c Q cells slots M s') (hdg : decode (bi_mc j) pc = .ok (.iushr, 1)) (h : bi_op2 (fun x y => (x.toUInt32 >>> (y.toUInt32 &&& Int32.toUInt32 31)).toInt32) (pc + 1) lv st M = some (true, .inl s')) : W p l e R s m args below meth c H locs cells slots Q (F0 m pc ls (bi_vs (bi_ad bs b tx) st)) := by
  unfold bi_op2 at h
  split at h
  · cases h
    exact lv_iushr F.1 F.2.1 hdg rfl (k.same rfl rfl rfl P)
  · cases h
theorem bi_s_idiv  (F : bi_Fx D cA bs b tx X j p s m args meth c) (P : bi_Pt D cA bs b tx j s M lv H locs ls) (k : bi_Kt D cA bs b tx j p l e R s m args below meth c Q cells slots M s') (hdg : decode (bi_mc j) pc = .ok (.idiv, 1)) (h : bi_op2d (fun x y => x / y) (pc + 1) lv st M = some (true, .inl s')) : W p l e R s m args below meth c H locs cells slots Q (F0 m pc ls (bi_vs (bi_ad bs b tx) st)) := by
  unfold bi_op2d at h
  split at h
  · rename_i y x r
    unfold bi_nxc at h
    have hne := (Prod.mk.inj (Option.some.inj h)).1
    have h2 := (Prod.mk.inj (Option.some.inj h)).2
    cases h2
    exact lv_idiv F.1 F.2.1 hdg (by simpa using hne) (k.same rfl rfl rfl P)
  · cases h
theorem bi_s_irem  (F : bi_Fx D cA bs b tx X j p s m args meth c) (P : bi_Pt D cA bs b tx j s M lv H locs ls) (k : bi_Kt D cA bs b tx j p l e R s m args below meth c Q cells slots M s') (hdg : decode (bi_mc j) pc = .ok (.irem, 1)) (h : bi_op2d (fun x y => x - x / y * y) (pc + 1) lv st M = some (true, .inl s')) : W p l e R s m args below meth c H locs cells slots Q (F0 m pc ls (bi_vs (bi_ad bs b tx) st)) := by
  unfold bi_op2d at h
  split at h
  · rename_i y x r
    unfold bi_nxc at h
    have hne := (Prod.mk.inj (Option.some.inj h)).1
    have h2 := (Prod.mk.inj (Option.some.inj h)).2
    cases h2
    exact lv_irem F.1 F.2.1 hdg (by simpa using hne) (k.same rfl rfl rfl P)
  · cases h
theorem bi_s_ineg  (F : bi_Fx D cA bs b tx X j p s m args meth c) (P : bi_Pt D cA bs b tx j s M lv H locs ls) (k : bi_Kt D cA bs b tx j p l e R s m args below meth c Q cells slots M s') (hdg : decode (bi_mc j) pc = .ok (.ineg, 1)) (h : bi_op1 (fun x => -x) (pc + 1) lv st M = some (true, .inl s')) : W p l e R s m args below meth c H locs cells slots Q (F0 m pc ls (bi_vs (bi_ad bs b tx) st)) := by
  unfold bi_op1 at h
  split at h
  · cases h
    exact lv_ineg F.1 F.2.1 hdg (k.same rfl rfl rfl P)
  · cases h
theorem bi_s_i2b  (F : bi_Fx D cA bs b tx X j p s m args meth c) (P : bi_Pt D cA bs b tx j s M lv H locs ls) (k : bi_Kt D cA bs b tx j p l e R s m args below meth c Q cells slots M s') (hdg : decode (bi_mc j) pc = .ok (.i2b, 1)) (h : bi_op1 (fun x => x.toInt8.toInt32) (pc + 1) lv st M = some (true, .inl s')) : W p l e R s m args below meth c H locs cells slots Q (F0 m pc ls (bi_vs (bi_ad bs b tx) st)) := by
  unfold bi_op1 at h
  split at h
  · cases h
    exact lv_i2b F.1 F.2.1 hdg rfl (k.same rfl rfl rfl P)
  · cases h
theorem bi_s_i2l  (F : bi_Fx D cA bs b tx X j p s m args meth c) (P : bi_Pt D cA bs b tx j s M lv H locs ls) (k : bi_Kt D cA bs b tx j p l e R s m args below meth c Q cells slots M s') (hdg : decode (bi_mc j) pc = .ok (.i2l, 1)) (h : bi_i2l (pc + 1) lv st M = some (true, .inl s')) : W p l e R s m args below meth c H locs cells slots Q (F0 m pc ls (bi_vs (bi_ad bs b tx) st)) := by
  unfold bi_i2l at h
  split at h
  · cases h
    exact lv_i2l F.1 F.2.1 hdg rfl (k.same rfl rfl rfl P)
  · cases h
theorem bi_s_l2i  (F : bi_Fx D cA bs b tx X j p s m args meth c) (P : bi_Pt D cA bs b tx j s M lv H locs ls) (k : bi_Kt D cA bs b tx j p l e R s m args below meth c Q cells slots M s') (hdg : decode (bi_mc j) pc = .ok (.l2i, 1)) (h : bi_l2i (pc + 1) lv st M = some (true, .inl s')) : W p l e R s m args below meth c H locs cells slots Q (F0 m pc ls (bi_vs (bi_ad bs b tx) st)) := by
  unfold bi_l2i at h
  split at h
  · cases h
    exact lv_l2i F.1 F.2.1 hdg rfl (k.same rfl rfl rfl P)
  · cases h
theorem bi_s_lor  (F : bi_Fx D cA bs b tx X j p s m args meth c) (P : bi_Pt D cA bs b tx j s M lv H locs ls) (k : bi_Kt D cA bs b tx j p l e R s m args below meth c Q cells slots M s') (hdg : decode (bi_mc j) pc = .ok (.lor, 1)) (h : bi_opL (fun x y => x ||| y) (pc + 1) lv st M = some (true, .inl s')) : W p l e R s m args below meth c H locs cells slots Q (F0 m pc ls (bi_vs (bi_ad bs b tx) st)) := by
  unfold bi_opL at h
  split at h
  · cases h
    exact lv_lor F.1 F.2.1 hdg (k.same rfl rfl rfl P)
  · cases h
theorem bi_s_lsub  (F : bi_Fx D cA bs b tx X j p s m args meth c) (P : bi_Pt D cA bs b tx j s M lv H locs ls) (k : bi_Kt D cA bs b tx j p l e R s m args below meth c Q cells slots M s') (hdg : decode (bi_mc j) pc = .ok (.lsub, 1)) (h : bi_opL (fun x y => x - y) (pc + 1) lv st M = some (true, .inl s')) : W p l e R s m args below meth c H locs cells slots Q (F0 m pc ls (bi_vs (bi_ad bs b tx) st)) := by
  unfold bi_opL at h
  split at h
  · cases h
    exact lv_lsub F.1 F.2.1 hdg (k.same rfl rfl rfl P)
  · cases h
theorem bi_s_lshl  (F : bi_Fx D cA bs b tx X j p s m args meth c) (P : bi_Pt D cA bs b tx j s M lv H locs ls) (k : bi_Kt D cA bs b tx j p l e R s m args below meth c Q cells slots M s') (hdg : decode (bi_mc j) pc = .ok (.lshl, 1)) (h : bi_lshl (pc + 1) lv st M = some (true, .inl s')) : W p l e R s m args below meth c H locs cells slots Q (F0 m pc ls (bi_vs (bi_ad bs b tx) st)) := by
  unfold bi_lshl at h
  split at h
  · cases h
    exact lv_lshl F.1 F.2.1 hdg rfl (k.same rfl rfl rfl P)
  · cases h
theorem bi_s_lcmp  (F : bi_Fx D cA bs b tx X j p s m args meth c) (P : bi_Pt D cA bs b tx j s M lv H locs ls) (k : bi_Kt D cA bs b tx j p l e R s m args below meth c Q cells slots M s') (hdg : decode (bi_mc j) pc = .ok (.lcmp, 1)) (h : bi_lcmp (pc + 1) lv st M = some (true, .inl s')) : W p l e R s m args below meth c H locs cells slots Q (F0 m pc ls (bi_vs (bi_ad bs b tx) st)) := by
  unfold bi_lcmp at h
  split at h
  · cases h
    exact W.lcmp F.1 F.2.1 hdg (k.same rfl rfl rfl P)
  · cases h
theorem bi_s_dup  (F : bi_Fx D cA bs b tx X j p s m args meth c) (P : bi_Pt D cA bs b tx j s M lv H locs ls) (k : bi_Kt D cA bs b tx j p l e R s m args below meth c Q cells slots M s') (hdg : decode (bi_mc j) pc = .ok (.dup, 1)) (h : bi_dup (pc + 1) lv st M = some (true, .inl s')) : W p l e R s m args below meth c H locs cells slots Q (F0 m pc ls (bi_vs (bi_ad bs b tx) st)) := by
  unfold bi_dup at h
  split at h
  · unfold bi_nxc at h
    have hc := (Prod.mk.inj (Option.some.inj h)).1
    have h2 := (Prod.mk.inj (Option.some.inj h)).2
    cases h2
    exact lv_dup F.1 F.2.1 hdg (by rw [bi_v_cat]; exact Nat.eq_of_beq_eq_true hc) (k.same rfl rfl rfl P)
  · cases h
theorem bi_s_dup2  (F : bi_Fx D cA bs b tx X j p s m args meth c) (P : bi_Pt D cA bs b tx j s M lv H locs ls) (k : bi_Kt D cA bs b tx j p l e R s m args below meth c Q cells slots M s') (hdg : decode (bi_mc j) pc = .ok (.dup2, 1)) (h : bi_dup2 (pc + 1) lv st M = some (true, .inl s')) : W p l e R s m args below meth c H locs cells slots Q (F0 m pc ls (bi_vs (bi_ad bs b tx) st)) := by
  unfold bi_dup2 at h
  split at h
  · unfold bi_nxc at h
    have hc := (Prod.mk.inj (Option.some.inj h)).1
    have h2 := (Prod.mk.inj (Option.some.inj h)).2
    cases h2
    simp only [Bool.and_eq_true] at hc
    exact lv_dup2_11 F.1 F.2.1 hdg (by rw [bi_v_cat]; exact Nat.eq_of_beq_eq_true hc.1) (by rw [bi_v_cat]; exact Nat.eq_of_beq_eq_true hc.2) (k.same rfl rfl rfl P)
  · cases h
theorem bi_s_pop  (F : bi_Fx D cA bs b tx X j p s m args meth c) (P : bi_Pt D cA bs b tx j s M lv H locs ls) (k : bi_Kt D cA bs b tx j p l e R s m args below meth c Q cells slots M s') (hdg : decode (bi_mc j) pc = .ok (.pop, 1)) (h : bi_pop (pc + 1) lv st M = some (true, .inl s')) : W p l e R s m args below meth c H locs cells slots Q (F0 m pc ls (bi_vs (bi_ad bs b tx) st)) := by
  unfold bi_pop at h
  split at h
  · unfold bi_nxc at h
    have hc := (Prod.mk.inj (Option.some.inj h)).1
    have h2 := (Prod.mk.inj (Option.some.inj h)).2
    cases h2
    exact lv_pop F.1 F.2.1 hdg (by rw [bi_v_cat]; exact Nat.eq_of_beq_eq_true hc) (k.same rfl rfl rfl P)
  · cases h
theorem bi_tg_eq {off : Int} {t : Nat} (h : bi_tg pc off = some t) : (pc : Int) + off = (t : Int) := by
  unfold bi_tg at h
  split at h
  · rename_i z hz
    cases h
    rw [hz]
    rfl
  · cases h
theorem bi_s_goto {off : Int} (F : bi_Fx D cA bs b tx X j p s m args meth c) (P : bi_Pt D cA bs b tx j s M lv H locs ls) (k : bi_Kt D cA bs b tx j p l e R s m args below meth c Q cells slots M s') (hdg : decode (bi_mc j) pc = .ok (.goto off, 3)) (h : bi_go pc off lv st M = some (true, .inl s')) : W p l e R s m args below meth c H locs cells slots Q (F0 m pc ls (bi_vs (bi_ad bs b tx) st)) := by
  unfold bi_go at h
  split at h
  · rename_i t ht
    cases h
    exact lv_goto F.1 F.2.1 hdg (bi_tg_eq ht) (k.same rfl rfl rfl P)
  · cases h
theorem bi_s_ifCond {q : ClassFile.Cond} {off : Int} (F : bi_Fx D cA bs b tx X j p s m args meth c) (P : bi_Pt D cA bs b tx j s M lv H locs ls) (k : bi_Kt D cA bs b tx j p l e R s m args below meth c Q cells slots M s') (hdg : decode (bi_mc j) pc = .ok (.ifCond q off, 3)) (h : bi_if1 q pc off lv st M = some (true, .inl s')) : W p l e R s m args below meth c H locs cells slots Q (F0 m pc ls (bi_vs (bi_ad bs b tx) st)) := by
  unfold bi_if1 at h
  split at h
  · rename_i ht
    split at h
    · cases h
      refine lv_if_eq F.1 F.2.1 hdg (bi_tg_eq ht) (fun hq => ?_) (fun hq => ?_)
      · exact k.same (by rw [if_pos hq]) rfl rfl P
      · exact k.same (by first | rw [if_neg hq] | simp [hq]) rfl rfl P
    · cases h
      refine lv_if_ne F.1 F.2.1 hdg (bi_tg_eq ht) (fun hq => ?_) (fun hq => ?_)
      · exact k.same (by rw [if_pos hq]) rfl rfl P
      · exact k.same (by first | rw [if_neg hq] | simp [hq]) rfl rfl P
    · cases h
      refine lv_if_lt F.1 F.2.1 hdg (bi_tg_eq ht) (fun hq => ?_) (fun hq => ?_)
      · exact k.same (by rw [if_pos hq]) rfl rfl P
      · exact k.same (by first | rw [if_neg hq] | simp [hq]) rfl rfl P
    · cases h
      refine lv_if_ge F.1 F.2.1 hdg (bi_tg_eq ht) (fun hq => ?_) (fun hq => ?_)
      · exact k.same (by rw [if_pos hq]) rfl rfl P
      · exact k.same (by first | rw [if_neg hq] | simp [hq]) rfl rfl P
    · cases h
      refine lv_if_gt F.1 F.2.1 hdg (bi_tg_eq ht) (fun hq => ?_) (fun hq => ?_)
      · exact k.same (by rw [if_pos hq]) rfl rfl P
      · exact k.same (by first | rw [if_neg hq] | simp [hq]) rfl rfl P
    · cases h
      refine lv_if_le F.1 F.2.1 hdg (bi_tg_eq ht) (fun hq => ?_) (fun hq => ?_)
      · exact k.same (by rw [if_pos hq]) rfl rfl P
      · exact k.same (by first | rw [if_neg hq] | simp [hq]) rfl rfl P
  · cases h
theorem bi_s_if_icmp {q : ClassFile.Cond} {off : Int} (F : bi_Fx D cA bs b tx X j p s m args meth c) (P : bi_Pt D cA bs b tx j s M lv H locs ls) (k : bi_Kt D cA bs b tx j p l e R s m args below meth c Q cells slots M s') (hdg : decode (bi_mc j) pc = .ok (.if_icmp q off, 3)) (h : bi_if2 q pc off lv st M = some (true, .inl s')) : W p l e R s m args below meth c H locs cells slots Q (F0 m pc ls (bi_vs (bi_ad bs b tx) st)) := by
  unfold bi_if2 at h
  split at h
  · rename_i ht
    split at h
    · cases h
      refine lv_icmp_eq F.1 F.2.1 hdg (bi_tg_eq ht) (fun hq => ?_) (fun hq => ?_)
      · exact k.same (by rw [if_pos hq]) rfl rfl P
      · exact k.same (by first | rw [if_neg hq] | simp [hq]) rfl rfl P
    · cases h
      refine lv_icmp_ne F.1 F.2.1 hdg (bi_tg_eq ht) (fun hq => ?_) (fun hq => ?_)
      · exact k.same (by rw [if_pos hq]) rfl rfl P
      · exact k.same (by first | rw [if_neg hq] | simp [hq]) rfl rfl P
    · cases h
      refine lv_icmp_lt F.1 F.2.1 hdg (bi_tg_eq ht) (fun hq => ?_) (fun hq => ?_)
      · exact k.same (by rw [if_pos hq]) rfl rfl P
      · exact k.same (by first | rw [if_neg hq] | simp [hq]) rfl rfl P
    · cases h
      refine lv_icmp_ge F.1 F.2.1 hdg (bi_tg_eq ht) (fun hq => ?_) (fun hq => ?_)
      · exact k.same (by rw [if_pos hq]) rfl rfl P
      · exact k.same (by first | rw [if_neg hq] | simp [hq]) rfl rfl P
    · cases h
      refine lv_icmp_gt F.1 F.2.1 hdg (bi_tg_eq ht) (fun hq => ?_) (fun hq => ?_)
      · exact k.same (by rw [if_pos hq]) rfl rfl P
      · exact k.same (by first | rw [if_neg hq] | simp [hq]) rfl rfl P
    · cases h
      refine lv_icmp_le F.1 F.2.1 hdg (bi_tg_eq ht) (fun hq => ?_) (fun hq => ?_)
      · exact k.same (by rw [if_pos hq]) rfl rfl P
      · exact k.same (by first | rw [if_neg hq] | simp [hq]) rfl rfl P
  · cases h
theorem bi_s_tableswitch {df lo hi : Int} {offs : Array Int} {n : Nat} (F : bi_Fx D cA bs b tx X j p s m args meth c) (P : bi_Pt D cA bs b tx j s M lv H locs ls) (k : bi_Kt D cA bs b tx j p l e R s m args below meth c Q cells slots M s') (hdg : decode (bi_mc j) pc = .ok (.tableswitch df lo hi offs, n)) (h : bi_sw df lo hi offs pc lv st M = some (true, .inl s')) : W p l e R s m args below meth c H locs cells slots Q (F0 m pc ls (bi_vs (bi_ad bs b tx) st)) := by
  unfold bi_sw at h
  split at h
  · rename_i x r
    split at h
    · rename_i t ht
      cases h
      unfold bi_swt at ht
      split at ht
      · rename_i hc
        exact lv_tableOut F.1 F.2.1 hdg hc (bi_tg_eq ht) (k.same rfl rfl rfl P)
      · rename_i hc
        split at ht
        · rename_i off ho
          exact lv_tableIn F.1 F.2.1 hdg (fun z => hc (Or.inl z)) (fun z => hc (Or.inr z)) ho (bi_tg_eq ht) (k.same rfl rfl rfl P)
        · cases ht
    · cases h
  · cases h
end STEP
