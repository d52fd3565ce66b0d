/-! ===== the law's start ===== -/
section START
def R_law : String := "PolicyRowsLaw"
def lw_P (b : Addr) (xs : List Int32) (args : Array Value) (s : State) : Prop := args = #[.ref b] ∧ s.IntsAt b xs ∧ xs.length ≤ 3072 ∧ (Jvm.Cond.and given_1 narrow_1).before args s = true
def lw_Q (_ : Array Value) (s : State) (o : Outcome) (t : State) : Prop := o = .returned (some (.int 1)) ∧ Framed s o t [] 601024 7293034
def lw_Z (below : List Frame) (a : Array Value) (s : State) : State → Prop := fun t => ∃ o, t.status = .running ∧ Ended t below o ∧ lw_Q a s o t
theorem lw_ret {p : Program} {l : Launch} {e : Env} {s : State} {m : MethodId} {below : List Frame} {meth : Method} {c : Code} {b : Nat} (hx : p.tables.exec = Jvm.exec) (hb : c.code = code) (hr : meth.sig.returnType = ret) (hlocks : meth.locks = false) {pc : Nat} {H : Heap} {ls : Array Slot} (hdg : decode code pc = .ok (.ireturn, 1)) : W p l e room_1 s m #[Value.ref b] below meth c H [] 601024 7293034 (lw_Z below #[Value.ref b] s) (F0 m pc ls [.int 1]) := by
  intro T hT X
  obtain ⟨fs, hret, hrun, hended, hW, hframe⟩ := X.leave (v := some (.int 1)) (hlocks := hlocks) (fun h => by rw [hr] at h; cases h)
  have hmeth' : T.vm.method? m = some meth := X.method'
  refine ⟨T.setFrames fs, ?_, .returned (some (.int 1)), hrun, hended, rfl, ⟨_, rfl⟩, hW, hframe⟩
  jvm_step X.here [X.here.top, hx, hb, hdg, hmeth', hr, ret, narrow_b1]
  (try refine ⟨rfl, ?_⟩); (try refine ⟨rfl, ?_⟩)
  first | (intro acts; rw [hret _ acts rfl rfl rfl]) | rw [hret _ _ rfl rfl rfl]
  exact Steps.refl _
def lw_At (p : Program) (s : State) (m : MethodId) (meth : Method) (c : Code) (b L : Nat) (xs : Nat → Int32) : Prop :=
  p.tables.exec = Jvm.exec ∧ c.code = code ∧ meth.sig.returnType = ret ∧ c.maxLocals = 7 ∧ s.vm.findClass R_law = some m.cls ∧ (∀ w ∈ lw_tbl, w.before #[Value.ref b] s = true) ∧ va_X b L xs s s.heap ∧ b < s.heap.size ∧ meth.locks = false ∧ (Jvm.Cond.and given_1 narrow_1).before #[Value.ref b] s = true
def bi_inst : List Nat := [117, 380, 314, 407, 279, 85, 216, 414, 35, 273, 366, 27, 1411]
theorem bi_inst_ck : (List.range 13).all (fun k => decide (tables_1[bi_inst.getD k 0]? = some (.instantiable (bi_Rc k) (bi_nf k)))) = true := by decide +kernel
theorem bi_vwl : vwCl.length = 13 := by decide +kernel
variable {s : State} {args : Array Value}
theorem bi_arr {ty : FieldType} (h : (Cond.arrayClass ty).before args s = true) : ∃ cA : ClassId, ArrOfT s cA ty ∧ s.vm.findClass ("[" ++ ty.toString) = some cA := by
  obtain ⟨c, k, comp, h1, h2, h3⟩ := Cond.arrayClass_spec h
  exact ⟨c, fun n z => ⟨fun k h => (by cases h), k, h2, comp, h3⟩, h1⟩
theorem bi_arrO {C : String} (h : (Cond.arrayOver (.object C)).before args s = true) : ∃ cA : ClassId, ArrOfT s cA (.object C) ∧ va_RA s cA (.object C) := by
  obtain ⟨comp, c, k, h1, h2, h3, h4, h5⟩ := Cond.arrayOver_spec h
  exact ⟨c, fun n z => ⟨fun k h => (by cases h), k, h3, comp, h4⟩, k, comp, h3, h4, h1, h5⟩
theorem bi_start_K (hts : ∀ w ∈ lw_tbl, w.before args s = true) : ∃ (D : va_G) (cA : Nat → ClassId), va_K D vwCl (bi_tys cA) s ∧ va_AO RX7 s := by
  have ht : ∀ w ∈ tables_1, w.before args s = true := fun w hw => hts w (List.mem_append_right _ hw)
  have hk : ∀ k : Nat, ∃ q : ClassId × (Nat → Nat), k < 13 → u_Kn s (bi_Rc k) (bi_tb k) (bi_nf k) q.1 q.2 := by
    intro k
    by_cases h : k < 13
    · have h1 := of_decide_eq_true (List.all_eq_true.mp bi_inst_ck k (List.mem_range.mpr h))
      obtain ⟨cC, iS, hK⟩ := u_known (C := bi_Rc k) (T := bi_tb k) (N := bi_nf k) (n := bi_nf k) (ws := bi_T9) (fun w hw => hts w (List.mem_filter.mp hw).1) (bi_cl h).2.1 (ht _ (List.mem_of_getElem? h1))
      exact ⟨(cC, iS), fun _ => hK⟩
    · exact ⟨(0, fun _ => 0), fun h' => absurd h' h⟩
  obtain ⟨f, hf⟩ := Classical.axiomOfChoice hk
  obtain ⟨c13, a13, b13⟩ := bi_arr (ht (.arrayClass .byte) (List.mem_of_getElem? (i := 83) (by decide +kernel)))
  obtain ⟨c14, a14, b14⟩ := bi_arr (ht (.arrayClass .int) (List.mem_of_getElem? (i := 115) (by decide +kernel)))
  obtain ⟨c15, a15, b15⟩ := bi_arr (ht (.arrayClass .boolean) (List.mem_of_getElem? (i := 1636) (by decide +kernel)))
  obtain ⟨c17, a17, b17⟩ := bi_arr (ht (.arrayClass .long) (List.mem_of_getElem? (i := 2054) (by decide +kernel)))
  have hao : (Cond.arrayOver (.object RX7)).before args s = true := ht _ (List.mem_of_getElem? (i := 413) (by decide +kernel))
  obtain ⟨c16, a16, b16⟩ := bi_arrO hao
  refine ⟨(fun k => (f k).1, fun k => (f k).2), fun k => if k = 13 then c13 else if k = 14 then c14 else if k = 15 then c15 else if k = 16 then c16 else c17, ⟨fun c q hq => ?_, fun k q hq => ?_⟩, va_AO.of hao⟩
  · have hc : c < 13 := by
      have := (List.getElem?_eq_some_iff.mp hq).1
      rw [bi_vwl] at this
      exact this
    have h1 := (bi_cl hc).1
    rw [hq] at h1
    cases h1
    exact hf c hc
  · match k, hq with
    | 0, hq => cases hq; exact ⟨a13, b13⟩
    | 1, hq => cases hq; exact ⟨a14, b14⟩
    | 2, hq => cases hq; exact ⟨a15, b15⟩
    | 3, hq => cases hq; exact ⟨a16, b16⟩
    | 4, hq => cases hq; exact ⟨a17, b17⟩
    | k + 5, hq => simp [bi_tys] at hq
end START
