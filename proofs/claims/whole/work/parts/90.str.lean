/-! ===== texts: String's own methods ===== -/
section STR
abbrev bi_bfD : String := "Ljava/util/function/BiFunction;"
theorem bi_z9_19 : Cond.initialized RJ0 ∈ bi_T9 := bi_in9 (p := 19) (by decide +kernel) rfl
theorem bi_z9_20 : Cond.initialized RJ1 ∈ bi_T9 := bi_in9 (p := 20) (by decide +kernel) rfl
theorem bi_z9_21 : Cond.initialized RJ3 ∈ bi_T9 := bi_in9 (p := 21) (by decide +kernel) rfl
theorem bi_z9_708 : Cond.instanceMethod yJ0_length_8abf5 ∈ bi_T9 := bi_in9 (p := 708) (by decide +kernel) rfl
theorem bi_z9_709 : Cond.selects RJ0 yJ0_length_8abf5 yJ0_length_8abf5 ∈ bi_T9 := bi_in9 (p := 709) (by decide +kernel) rfl
set_option maxRecDepth 100000 in
theorem bi_z9_710 : Cond.code yJ0_length_8abf5 cJ0_length_8abf5 1 (some .int) ∈ bi_T9 := bi_in9 (p := 710) rfl rfl
theorem bi_z9_711 : Cond.methodLink RJ0 335 yJ0_coder_7d493 ∈ bi_T9 := bi_in9 (p := 711) (by decide +kernel) rfl
theorem bi_z9_712 : Cond.instanceMethod yJ0_coder_7d493 ∈ bi_T9 := bi_in9 (p := 712) (by decide +kernel) rfl
theorem bi_z9_713 : Cond.selects RJ0 yJ0_coder_7d493 yJ0_coder_7d493 ∈ bi_T9 := bi_in9 (p := 713) (by decide +kernel) rfl
set_option maxRecDepth 100000 in
theorem bi_z9_714 : Cond.code yJ0_coder_7d493 cJ0_coder_7d493 1 (some .byte) ∈ bi_T9 := bi_in9 (p := 714) rfl rfl
theorem bi_z9_715 : Cond.fieldLink RJ0 38 RJ0 "COMPACT_STRINGS" "Z" ∈ bi_T9 := bi_in9 (p := 715) (by decide +kernel) rfl
theorem bi_z9_718 : Cond.instanceMethod yJ0_charAt_5068e ∈ bi_T9 := bi_in9 (p := 718) (by decide +kernel) rfl
theorem bi_z9_719 : Cond.selects RJ0 yJ0_charAt_5068e yJ0_charAt_5068e ∈ bi_T9 := bi_in9 (p := 719) (by decide +kernel) rfl
set_option maxRecDepth 100000 in
theorem bi_z9_720 : Cond.code yJ0_charAt_5068e cJ0_charAt_5068e 2 (some .char) ∈ bi_T9 := bi_in9 (p := 720) rfl rfl
theorem bi_z9_721 : Cond.methodLink RJ0 492 yJ0_isLatin1_aae02 ∈ bi_T9 := bi_in9 (p := 721) (by decide +kernel) rfl
theorem bi_z9_722 : Cond.instanceMethod yJ0_isLatin1_aae02 ∈ bi_T9 := bi_in9 (p := 722) (by decide +kernel) rfl
theorem bi_z9_723 : Cond.selects RJ0 yJ0_isLatin1_aae02 yJ0_isLatin1_aae02 ∈ bi_T9 := bi_in9 (p := 723) (by decide +kernel) rfl
set_option maxRecDepth 100000 in
theorem bi_z9_724 : Cond.code yJ0_isLatin1_aae02 cJ0_isLatin1_aae02 1 (some .boolean) ∈ bi_T9 := bi_in9 (p := 724) rfl rfl
theorem bi_z9_725 : Cond.methodLink RJ0 495 yJ1_charAt_3b067 ∈ bi_T9 := bi_in9 (p := 725) (by decide +kernel) rfl
theorem bi_z9_726 : Cond.static yJ1_charAt_3b067 ∈ bi_T9 := bi_in9 (p := 726) (by decide +kernel) rfl
set_option maxRecDepth 100000 in
theorem bi_z9_727 : Cond.code yJ1_charAt_3b067 cJ1_charAt_3b067 2 (some .char) ∈ bi_T9 := bi_in9 (p := 727) rfl rfl
theorem bi_z9_728 : Cond.methodLink RJ1 9 yJ0_checkIndex_df160 ∈ bi_T9 := bi_in9 (p := 728) (by decide +kernel) rfl
theorem bi_z9_729 : Cond.static yJ0_checkIndex_df160 ∈ bi_T9 := bi_in9 (p := 729) (by decide +kernel) rfl
set_option maxRecDepth 100000 in
theorem bi_z9_730 : Cond.code yJ0_checkIndex_df160 cJ0_checkIndex_df160 2 none ∈ bi_T9 := bi_in9 (p := 730) rfl rfl
theorem bi_z9_731 : Cond.fieldLink RJ0 1053 RJ3 "SIOOBE_FORMATTER" bi_bfD ∈ bi_T9 := bi_in9 (p := 731) (by decide +kernel) rfl
theorem bi_z9_733 : Cond.methodLink RJ0 1059 yJ3_checkIndex_8e157 ∈ bi_T9 := bi_in9 (p := 733) (by decide +kernel) rfl
theorem bi_z9_734 : Cond.static yJ3_checkIndex_8e157 ∈ bi_T9 := bi_in9 (p := 734) (by decide +kernel) rfl
set_option maxRecDepth 100000 in
theorem bi_z9_735 : Cond.code yJ3_checkIndex_8e157 cJ3_checkIndex_8e157 3 (some .int) ∈ bi_T9 := bi_in9 (p := 735) rfl rfl
theorem bi_z9_2073 : Cond.fieldLink RJ0 9 RJ0 "value" "[B" ∈ bi_T9 := bi_in9 (p := 2073) (by decide +kernel) rfl
theorem bi_z9_2074 : Cond.fieldLink RJ0 15 RJ0 "coder" "B" ∈ bi_T9 := bi_in9 (p := 2074) (by decide +kernel) rfl
def bi_tlen : List Nat := bi_TX.map List.length
def bi_tbyt : List (List Int32) := bi_TX.map (fun t => t.map Int32.ofNat)
def bi_Sx (bs : Nat) (tx adV : Nat → Nat) (U : State) (H : Heap) : Prop := vk_S 25 bi_tlen bi_tbyt tx adV (bi_A bs) U H ∧ va_Z RJ0 "COMPACT_STRINGS" "Z" (.int 1) (bi_A bs) U H ∧ va_Zq RJ3 "SIOOBE_FORMATTER" bi_bfD (bi_A bs) U H
theorem bi_SxK_ok {bs : Nat} {tx adV : Nat → Nat} : bi_SxK bs (bi_Sx bs tx adV) := fun _ _ _ _ hW hk h => ⟨vk_S.moved hW.alike (h.1.kept hk), va_Z.moved hW.alike (h.2.1.kept hk), va_Zq.moved hW.alike (h.2.2.kept hk)⟩
def bi_Qk (v : Option Value) : Array Value → State → Outcome → State → Prop := fun _ u oc t => oc = .returned v ∧ t.heap = u.heap
def bi_rk (k : Nat) : Room := { frames := k, cells := 0, slots := 0, locals := 30 * k }
abbrev bi_Mk (l : Launch) (Sx : State → Heap → Prop) (bs : Nat) (y : MethodName) (cc : ByteArray) (mL : Nat) (ret : Option FieldType) (k : Nat) (as : List Value) (v : Option Value) : Prop := Met l y (.code y cc mL ret :: bi_T9) (bi_rk k) (va_Pc as (fun U => Sx U U.heap)) (bi_Qk v) 0 0 (bi_A bs)
variable {D : va_G} {cA : Nat → ClassId} {bs b : Nat} {tx adV : Nat → Nat} {X : bi_X} {j : Nat} {p : Program} {l : Launch} {e : Env} {R : Room} {s : State} {m : MethodId} {args : Array Value} {below : List Frame} {meth : Method} {c : Code} {Q : State → Prop} {Sx : State → Heap → Prop}
variable {pc : Nat} {H : Heap} {locs : List Loc} {ls : Array Slot} {cells slots : Nat}
theorem bi_Sx.blind (hSK : bi_SxK bs Sx) {av : List Value} : FrameBlind (va_Pc av (fun U => Sx U U.heap)) := fun a U g mk q => ⟨q.1, hSK U (U.calling g mk a) U.heap U.heap (State.WarmedH.refl U) (fun _ _ _ => rfl) q.2⟩
/-- behind a call that leaves the heap -/
theorem bi_kK {v : Option Value} {st0 rest : List Value} {a : Array Value} (hr : va_Run p l e R s m args below meth c H locs cells slots 0 0 (F0 m pc ls st0) rest (bi_Qk v a) (bi_A bs)) (hS : va_S (bi_A bs) s.heap H locs)
    (kk : ∀ locs1 : List Loc, va_S (bi_A bs) s.heap H locs1 → W p l e R s m args below meth c H locs1 cells slots Q (F0 m (pc + 3) ls (v.toList ++ rest))) : W p l e R s m args below meth c H locs cells slots Q (F0 m pc ls st0) := by
  intro T hT Y
  obtain ⟨v2, st₀, t, T', L, h0, Y', hL, e1, e2, ⟨hv, hh⟩, go⟩ := hr T hT Y
  cases hv
  obtain ⟨t2, a1, b1⟩ := kk (locs ++ L) ⟨hS.1, hS.2.1, fun q hq => (List.mem_append.mp hq).elim (hS.2.2 q) (hL q)⟩ T' (by rw [e1, hh, h0]) Y'
  exact ⟨t2, go t2 a1, b1⟩
theorem bi_kS {cc cc' : ByteArray} {nL mL k index n : Nat} {own : String} {y : MethodName} {ret : Option FieldType} {as rest : List Value} {v : Option Value} (S : CallFix p m c cc nL s args bi_T9 own) (hM : bi_Mk l Sx bs y cc' mL ret k as v) (hSK : bi_SxK bs Sx) (hSx : Sx s s.heap) (hS : va_S (bi_A bs) s.heap H locs)
    (hc : Cond.code y cc' mL ret ∈ bi_T9) (hl : Cond.methodLink own index y ∈ bi_T9) (hst : Cond.static y ∈ bi_T9) (hi : Cond.initialized y.cls ∈ bi_T9) (hy : y.cls ≠ "java/lang/invoke/MethodHandle" ∧ y.cls ≠ "java/lang/invoke/VarHandle") (hd : (parseMethodDescriptor y.desc).map (fun d => d.parameters.length) = some n) (hal : as.length = n)
    (hfr : k + 1 ≤ R.frames) (hlo : 8 + (mL + 11) + 30 * k ≤ R.locals) (hce : cells ≤ R.cells ∧ slots ≤ R.slots) (hsz : ls.size = nL) (h8 : (rest.map fun v => v.category).sum ≤ 8) (hdg : decode cc pc = .ok (.invokestatic index, 3))
    (kk : ∀ locs1 : List Loc, va_S (bi_A bs) s.heap H locs1 → W p l e R s m args below meth c H locs1 cells slots Q (F0 m (pc + 3) ls (v.toList ++ rest))) : W p l e R s m args below meth c H locs cells slots Q (F0 m pc ls (as.reverse ++ rest)) := by
  have ht := S.2.2.2.2
  have hlen : ∀ sig, parseMethodDescriptor y.desc = some sig → n = sig.parameters.length := fun sig h => by rw [h] at hd; exact (Option.some.inj hd).symm
  have hws : ∀ w ∈ Cond.code y cc' mL ret :: bi_T9, ∀ (a' : Array Value) (U : State), s.WarmedH U.vm → w.before a' U = true := pay_in ht (fun w hw => (List.mem_cons.mp hw).elim (fun z => by rw [z]; exact bi_good hc) (fun z => bi_good z))
  have cw : CallB R s args own index y cc' mL ret (Cond.code y cc' mL ret :: bi_T9) (bi_rk k) 0 0 n := ⟨rfl, rfl, hfr, hlo, hws, List.mem_cons_self, ht _ hc, ht _ hi, hy, hlen, ht _ hl⟩
  have hpre : ∀ U : State, U.heap = H → s.WarmedH U.vm → va_Pc as (fun U => Sx U U.heap) as.toArray U := fun U hU hW => ⟨rfl, by show Sx U U.heap; rw [hU]; exact hSK s U s.heap H hW hS.2.1 hSx⟩
  exact bi_kK (va_runS (As := as) (g := F0 m pc ls (as.reverse ++ rest)) (rest := rest) S hM ⟨cw, ht _ hst⟩ ⟨bi_Sx.blind hSK, hpre⟩ rfl hal hsz rfl (lv_room h8) hdg ⟨hce.1, hce.2⟩) hS kk
theorem bi_kV {cc cc' : ByteArray} {nL mL k index n a : Nat} {own : String} {y : MethodName} {ret : Option FieldType} {as rest : List Value} {v : Option Value} (S : CallFix p m c cc nL s args bi_T9 own) (hM : bi_Mk l Sx bs y cc' mL ret k (.ref a :: as) v) (hSK : bi_SxK bs Sx) (hSx : Sx s s.heap) (hS : va_S (bi_A bs) s.heap H locs)
    (hc : Cond.code y cc' mL ret ∈ bi_T9) (hl : Cond.methodLink own index y ∈ bi_T9) (hst : Cond.instanceMethod y ∈ bi_T9) (hse : Cond.selects y.cls y y ∈ bi_T9) (hi : Cond.initialized y.cls ∈ bi_T9) (hy : y.cls ≠ "java/lang/invoke/MethodHandle" ∧ y.cls ≠ "java/lang/invoke/VarHandle") (hd : (parseMethodDescriptor y.desc).map (fun d => d.parameters.length) = some n) (hal : as.length = n)
    (hrec : ∃ cell : Cell, H[a]? = some cell ∧ cell.vm.isStatics = false ∧ s.vm.findClass y.cls = some cell.cls)
    (hfr : k + 1 ≤ R.frames) (hlo : 8 + (mL + 11) + 30 * k ≤ R.locals) (hce : cells ≤ R.cells ∧ slots ≤ R.slots) (hsz : ls.size = nL) (h8 : (rest.map fun v => v.category).sum ≤ 8) (hdg : decode cc pc = .ok (.invokevirtual index, 3))
    (kk : ∀ locs1 : List Loc, va_S (bi_A bs) s.heap H locs1 → W p l e R s m args below meth c H locs1 cells slots Q (F0 m (pc + 3) ls (v.toList ++ rest))) : W p l e R s m args below meth c H locs cells slots Q (F0 m pc ls (as.reverse ++ .ref a :: rest)) := by
  have ht := S.2.2.2.2
  have hlen : ∀ sig, parseMethodDescriptor y.desc = some sig → n = sig.parameters.length := fun sig h => by rw [h] at hd; exact (Option.some.inj hd).symm
  have hws : ∀ w ∈ Cond.code y cc' mL ret :: bi_T9, ∀ (a' : Array Value) (U : State), s.WarmedH U.vm → w.before a' U = true := pay_in ht (fun w hw => (List.mem_cons.mp hw).elim (fun z => by rw [z]; exact bi_good hc) (fun z => bi_good z))
  have cw : CallB R s args own index y cc' mL ret (Cond.code y cc' mL ret :: bi_T9) (bi_rk k) 0 0 n := ⟨rfl, rfl, hfr, hlo, hws, List.mem_cons_self, ht _ hc, ht _ hi, hy, hlen, ht _ hl⟩
  have hpre : ∀ U : State, U.heap = H → s.WarmedH U.vm → va_Pc (.ref a :: as) (fun U => Sx U U.heap) (Value.ref a :: as).toArray U := fun U hU hW => ⟨rfl, by show Sx U U.heap; rw [hU]; exact hSK s U s.heap H hW hS.2.1 hSx⟩
  exact bi_kK (va_runV (C := y.cls) (b := a) (As := as) (g := F0 m pc ls (as.reverse ++ .ref a :: rest)) (rest := rest) S hM ⟨cw, ht _ hst, ht _ hse⟩ ⟨bi_Sx.blind hSK, hrec, hpre⟩ rfl hal hsz rfl (lv_room h8) hdg ⟨hce.1, hce.2⟩) hS kk
/-- a body: what stands at its start -/
theorem bi_kB {y : MethodName} {cc : ByteArray} {mL k : Nat} {ret : Option FieldType} {as : List Value} {v : Option Value} (hy : plainName y.cls = true) (hal : (lg_sl as).length ≤ mL)
    (body : ∀ (p : Program) (e : Env) (s : State) (m : MethodId) (below : List Frame) (meth : Method) (c : Code) (ls : Array Slot), CallFix p m c cc mL s as.toArray bi_T9 y.cls → meth.sig.returnType = ret → meth.locks = false → Sx s s.heap → lv_has ls mL (lv_args 0 as) → W p l e (bi_rk k) s m as.toArray below meth c s.heap [] 0 0 (MQ below (bi_Qk v) as.toArray s 0 0 (bi_A bs)) (F0 m 0 ls [])) : bi_Mk l Sx bs y cc mL ret k as v := by
  refine Met.ofW (cc := cc) (maxL := mL) (ret := ret) (ws' := bi_T9) hy rfl ?_
  intro p e s m args below meth c s₁ B hml hv
  obtain ⟨rfl, hSx⟩ := hv
  rw [lg_entry_eq]
  exact body p e s m below meth c _ ⟨B.exec, B.bytes, hml, findClass_of_methodNamed B.named, fun w hw => atoms_spec (ws := Cond.code y cc mL ret :: bi_T9) B.pre w (List.mem_cons_of_mem _ hw)⟩ B.returns B.notSynchronized hSx (lv_entry as hal)
/-- Preconditions.checkIndex -/
theorem bi_m_pci {i n : Int32} {f : Value} (hf : f = .null ∨ ∃ t, f = .ref t) (h0 : ¬ i < 0) (h1 : i < n) : bi_Mk l Sx bs yJ3_checkIndex_8e157 cJ3_checkIndex_8e157 3 (some .int) 1 [.int i, .int n, f] (some (.int i)) := by
  refine bi_kB (by decide +kernel) (by rcases hf with rfl | ⟨t, rfl⟩ <;> exact Nat.le_refl 3) ?_
  intro p e s m below meth c ls S hret hlk hSx hl
  have l0 := hl.2.2 (0, .int i) List.mem_cons_self
  have l1 := hl.2.2 (1, .int n) (List.mem_cons_of_mem _ List.mem_cons_self)
  refine lv_iload_n (k := 0) S.1 S.2.1 (by decide +kernel) rfl l0 ?_
  refine lv_if_lt (off := 8) (tgt := 9) S.1 S.2.1 (by decide +kernel) (by decide) (fun h => absurd h h0) (fun _ => ?_)
  refine lv_iload_n (k := 0) S.1 S.2.1 (by decide +kernel) rfl l0 ?_
  refine lv_iload_n (k := 1) S.1 S.2.1 (by decide +kernel) rfl l1 ?_
  refine lv_icmp_lt (off := 10) (tgt := 16) S.1 S.2.1 (by decide +kernel) (by decide) (fun _ => ?_) (fun h => absurd h1 h)
  refine lv_iload_n (k := 0) S.1 S.2.1 (by decide +kernel) rfl l0 ?_
  exact W.iret S.1 S.2.1 hret (fun t ht _ => ⟨rfl, ht⟩) (fun q hq => by cases hq) (by decide +kernel) hlk
/-- String.checkIndex -/
theorem bi_m_sci {i n : Int32} (h0 : ¬ i < 0) (h1 : i < n) : bi_Mk l (bi_Sx bs tx adV) bs yJ0_checkIndex_df160 cJ0_checkIndex_df160 2 none 2 [.int i, .int n] none := by
  refine bi_kB (by decide +kernel) (Nat.le_refl 2) ?_
  intro p e s m below meth c ls S hret hlk hSx hl
  have l0 := hl.2.2 (0, .int i) List.mem_cons_self
  have l1 := hl.2.2 (1, .int n) (List.mem_cons_of_mem _ List.mem_cons_self)
  refine lv_iload_n (k := 0) S.1 S.2.1 (by decide +kernel) rfl l0 ?_
  refine lv_iload_n (k := 1) S.1 S.2.1 (by decide +kernel) rfl l1 ?_
  have hlk1 : (Cond.fieldLink RJ0 1053 RJ3 "SIOOBE_FORMATTER" bi_bfD).before _ s = true := S.2.2.2.2 _ bi_z9_731
  obtain ⟨f, hf, hZ⟩ : ∃ f : Value, (f = .null ∨ ∃ t, f = .ref t) ∧ va_Z RJ3 "SIOOBE_FORMATTER" bi_bfD f (bi_A bs) s s.heap := by
    rcases hSx.2.2 with h | ⟨t, h⟩
    · exact ⟨_, Or.inl rfl, h⟩
    · exact ⟨_, Or.inr ⟨t, rfl⟩, h⟩
  have hcat : f.category = 1 := by rcases hf with rfl | ⟨t, rfl⟩ <;> rfl
  refine va_gets S.1 S.2.1 hZ va_S.rf S.2.2.2.1 hlk1 (fun _ h => h) (by decide +kernel) ?_
  refine bi_kS (as := [.int i, .int n, f]) (rest := []) (n := 3) (index := 1059) S (bi_m_pci hf h0 h1) bi_SxK_ok hSx va_S.rf bi_z9_735 bi_z9_733 bi_z9_734 bi_z9_21 (by decide +kernel) (by decide +kernel) rfl (by decide) (by decide) ⟨Nat.le_refl _, Nat.le_refl _⟩ hl.1 (by decide) (by decide +kernel) (fun locs1 hS1 => ?_)
  refine lv_pop S.1 S.2.1 (by decide +kernel) rfl ?_
  exact bi_vret_any S.1 S.2.1 hret (fun t ht _ => ⟨rfl, ht⟩) hS1.2.2 (by decide +kernel) hlk
theorem bi_tl_ck : (List.range 25).all (fun q => decide (bi_tlen.getD q 0 = (bi_TX.getD q []).length) && decide ((Int32.ofNat (bi_tlen.getD q 0)) >>> ((0 : Int32) &&& 31) = Int32.ofNat (bi_tlen.getD q 0)) && Nat.blt (bi_tlen.getD q 0) 100 && (List.range (bi_tlen.getD q 0)).all (fun i => decide (((((bi_tbyt.getD q []).getD i 0) &&& 255).toUInt32 % 65536).toInt32 = Int32.ofNat ((bi_TX.getD q []).getD i 0)) && decide (narrow .char (.int (Int32.ofNat ((bi_TX.getD q []).getD i 0))) = .int (Int32.ofNat ((bi_TX.getD q []).getD i 0))))) = true := by decide +kernel
theorem bi_in_lt {i : Int32} {N : Nat} (hN : N < 100) (h0 : ¬ i < 0) (h : i.toNatClampNeg < N) : i < Int32.ofNat N := by
  rw [Int32.lt_iff_toInt_lt]
  have hz0 : (0 : Int) ≤ i.toInt := by
    have := Int32.not_lt.mp h0
    simpa using Int32.le_iff_toInt_le.mp this
  have h1 : (i.toNatClampNeg : Int) = i.toInt := Int.toNat_of_nonneg hz0
  have h2 : (Int32.ofNat N).toInt = (N : Int) := by
    rw [Int32.toInt_ofNat_of_lt (by omega)]
  rw [h2]
  omega
/-- StringLatin1.charAt -/
theorem bi_m_lca {q : Nat} {i : Int32} (hq : q < 25) (h0 : ¬ i < 0) (h1 : i.toNatClampNeg < bi_tlen.getD q 0) : bi_Mk l (bi_Sx bs tx adV) bs yJ1_charAt_3b067 cJ1_charAt_3b067 2 (some .char) 3 [.ref (adV q), .int i] (some (.int (Int32.ofNat ((bi_TX.getD q []).getD i.toNatClampNeg 0)))) := by
  have hck := List.all_eq_true.mp bi_tl_ck q (List.mem_range.mpr hq)
  simp only [Bool.and_eq_true, decide_eq_true_eq, Nat.blt_eq] at hck
  obtain ⟨⟨⟨c1, c2⟩, c3⟩, c4⟩ := hck
  have c5 := List.all_eq_true.mp c4 i.toNatClampNeg (List.mem_range.mpr h1)
  simp only [Bool.and_eq_true, decide_eq_true_eq] at c5
  refine bi_kB (by decide +kernel) (Nat.le_refl 2) ?_
  intro p e s m below meth c ls S hret hlk hSx hl
  have l0 := hl.2.2 (0, .ref (adV q)) List.mem_cons_self
  have l1 := hl.2.2 (1, .int i) (List.mem_cons_of_mem _ List.mem_cons_self)
  have hT := (hSx.1.1 q hq).2.2.2
  refine lv_iload_n (k := 1) S.1 S.2.1 (by decide +kernel) rfl l1 ?_
  refine lv_aload_n (k := 0) S.1 S.2.1 (by decide +kernel) rfl l0 ?_
  refine va_tlen S.1 S.2.1 hT va_S.rf rfl (by decide +kernel) ?_
  refine bi_kS (as := [.int i, .int (Int32.ofNat (bi_tlen.getD q 0))]) (rest := []) (n := 2) (index := 9) S (bi_m_sci (tx := tx) (adV := adV) h0 (bi_in_lt c3 h0 h1)) bi_SxK_ok hSx va_S.rf bi_z9_730 bi_z9_728 bi_z9_729 bi_z9_19 (by decide +kernel) (by decide +kernel) rfl (by decide) (by decide) ⟨Nat.le_refl _, Nat.le_refl _⟩ hl.1 (by decide) (by decide +kernel) (fun locs1 hS1 => ?_)
  refine lv_aload_n (k := 0) S.1 S.2.1 (by decide +kernel) rfl l0 ?_
  refine lv_iload_n (k := 1) S.1 S.2.1 (by decide +kernel) rfl l1 ?_
  refine va_tb S.1 S.2.1 hT hS1 (fun z => z.elim (fun z => h0 z) (fun z => absurd h1 (Nat.not_lt.mpr z))) rfl (by decide +kernel) ?_
  refine lv_sipush (n := 255) S.1 S.2.1 (by decide +kernel) (v := 255) (by decide) ?_
  refine lv_iand S.1 S.2.1 (by decide +kernel) ?_
  refine lv_i2c S.1 S.2.1 (by decide +kernel) c5.1 ?_
  exact W.zret (ty := .char) S.1 S.2.1 hret c5.2 (fun t ht _ => ⟨rfl, ht⟩) hS1.2.2 (by decide +kernel) hlk
/-- String.isLatin1 -/
theorem bi_m_lat {q : Nat} (hq : q < 25) : bi_Mk l (bi_Sx bs tx adV) bs yJ0_isLatin1_aae02 cJ0_isLatin1_aae02 1 (some .boolean) 1 [.ref (tx q)] (some (.int 1)) := by
  refine bi_kB (by decide +kernel) (Nat.le_refl 1) ?_
  intro p e s m below meth c ls S hret hlk hSx hl
  have l0 := hl.2.2 (0, .ref (tx q)) List.mem_cons_self
  have hO := (hSx.1.1 q hq).2.1
  have hlk1 : (Cond.fieldLink RJ0 38 RJ0 "COMPACT_STRINGS" "Z").before _ s = true := S.2.2.2.2 _ bi_z9_715
  have hlk2 : (Cond.fieldLink RJ0 15 RJ0 "coder" "B").before _ s = true := S.2.2.2.2 _ bi_z9_2074
  refine va_gets S.1 S.2.1 hSx.2.1 va_S.rf S.2.2.2.1 hlk1 (fun _ h => h) (by decide +kernel) ?_
  refine lv_if_eq (off := 14) (tgt := 17) S.1 S.2.1 (by decide +kernel) (by decide) (fun h => absurd h (by decide)) (fun _ => ?_)
  refine lv_aload_n (k := 0) S.1 S.2.1 (by decide +kernel) rfl l0 ?_
  refine vk_getf S.1 S.2.1 hO va_S.rf S.2.2.2.1 hlk2 (fun _ h => h) (by decide +kernel) ?_
  refine lv_if_ne (off := 7) (tgt := 17) S.1 S.2.1 (by decide +kernel) (by decide) (fun h => absurd rfl h) (fun _ => ?_)
  refine lv_iconst (n := 1) (v := 1) S.1 S.2.1 (by decide +kernel) (by decide) ?_
  refine lv_goto (off := 4) (tgt := 18) S.1 S.2.1 (by decide +kernel) (by decide) ?_
  exact W.zret (ty := .boolean) S.1 S.2.1 hret rfl (fun t ht _ => ⟨rfl, ht⟩) (fun q hq => by cases hq) (by decide +kernel) hlk
/-- String.coder -/
theorem bi_m_cod {q : Nat} (hq : q < 25) : bi_Mk l (bi_Sx bs tx adV) bs yJ0_coder_7d493 cJ0_coder_7d493 1 (some .byte) 1 [.ref (tx q)] (some (.int 0)) := by
  refine bi_kB (by decide +kernel) (Nat.le_refl 1) ?_
  intro p e s m below meth c ls S hret hlk hSx hl
  have l0 := hl.2.2 (0, .ref (tx q)) List.mem_cons_self
  have hO := (hSx.1.1 q hq).2.1
  have hlk1 : (Cond.fieldLink RJ0 38 RJ0 "COMPACT_STRINGS" "Z").before _ s = true := S.2.2.2.2 _ bi_z9_715
  have hlk2 : (Cond.fieldLink RJ0 15 RJ0 "coder" "B").before _ s = true := S.2.2.2.2 _ bi_z9_2074
  refine va_gets S.1 S.2.1 hSx.2.1 va_S.rf S.2.2.2.1 hlk1 (fun _ h => h) (by decide +kernel) ?_
  refine lv_if_eq (off := 10) (tgt := 13) S.1 S.2.1 (by decide +kernel) (by decide) (fun h => absurd h (by decide)) (fun _ => ?_)
  refine lv_aload_n (k := 0) S.1 S.2.1 (by decide +kernel) rfl l0 ?_
  refine vk_getf S.1 S.2.1 hO va_S.rf S.2.2.2.1 hlk2 (fun _ h => h) (by decide +kernel) ?_
  refine lv_goto (off := 4) (tgt := 14) S.1 S.2.1 (by decide +kernel) (by decide) ?_
  exact W.zret (ty := .byte) S.1 S.2.1 hret (by decide) (fun t ht _ => ⟨rfl, ht⟩) (fun q hq => by cases hq) (by decide +kernel) hlk
/-- String.length -/
theorem bi_m_len {q : Nat} (hq : q < 25) : bi_Mk l (bi_Sx bs tx adV) bs yJ0_length_8abf5 cJ0_length_8abf5 1 (some .int) 4 [.ref (tx q)] (some (.int (Int32.ofNat ((bi_TX.getD q []).length)))) := by
  have hck := List.all_eq_true.mp bi_tl_ck q (List.mem_range.mpr hq)
  simp only [Bool.and_eq_true, decide_eq_true_eq, Nat.blt_eq] at hck
  obtain ⟨⟨⟨c1, c2⟩, c3⟩, c4⟩ := hck
  refine bi_kB (by decide +kernel) (Nat.le_refl 1) ?_
  intro p e s m below meth c ls S hret hlk hSx hl
  have l0 := hl.2.2 (0, .ref (tx q)) List.mem_cons_self
  have hV := (hSx.1.1 q hq).2.2.1
  have hT := (hSx.1.1 q hq).2.2.2
  have hlk1 : (Cond.fieldLink RJ0 9 RJ0 "value" "[B").before _ s = true := S.2.2.2.2 _ bi_z9_2073
  refine lv_aload_n (k := 0) S.1 S.2.1 (by decide +kernel) rfl l0 ?_
  refine vk_getf S.1 S.2.1 hV va_S.rf S.2.2.2.1 hlk1 (fun _ h => h) (by decide +kernel) ?_
  refine va_tlen S.1 S.2.1 hT va_S.rf rfl (by decide +kernel) ?_
  refine lv_aload_n (k := 0) S.1 S.2.1 (by decide +kernel) rfl l0 ?_
  refine bi_kV (as := []) (a := tx q) (rest := [.int (Int32.ofNat (bi_tlen.getD q 0))]) (n := 0) (index := 335) S (bi_m_cod hq) bi_SxK_ok hSx va_S.rf bi_z9_714 bi_z9_711 bi_z9_712 bi_z9_713 bi_z9_19 (by decide +kernel) (by decide +kernel) rfl (vk_recv hSx.1 hq va_S.rf) (by decide) (by decide) ⟨Nat.le_refl _, Nat.le_refl _⟩ hl.1 (by show 1 + 0 ≤ 8; decide) (by decide +kernel) (fun locs1 hS1 => ?_)
  refine lv_ishr S.1 S.2.1 (by decide +kernel) ?_
  rw [c2, c1]
  exact W.iret S.1 S.2.1 hret (fun t ht _ => ⟨rfl, ht⟩) hS1.2.2 (by decide +kernel) hlk
/-- String.charAt -/
theorem bi_m_cha {q : Nat} {i : Int32} (hq : q < 25) (h0 : ¬ i < 0) (h1 : i.toNatClampNeg < bi_tlen.getD q 0) : bi_Mk l (bi_Sx bs tx adV) bs yJ0_charAt_5068e cJ0_charAt_5068e 2 (some .char) 4 [.ref (tx q), .int i] (some (.int (Int32.ofNat ((bi_TX.getD q []).getD i.toNatClampNeg 0)))) := by
  have hck := List.all_eq_true.mp bi_tl_ck q (List.mem_range.mpr hq)
  simp only [Bool.and_eq_true, decide_eq_true_eq, Nat.blt_eq] at hck
  obtain ⟨⟨⟨c1, c2⟩, c3⟩, c4⟩ := hck
  have c5 := List.all_eq_true.mp c4 i.toNatClampNeg (List.mem_range.mpr h1)
  simp only [Bool.and_eq_true, decide_eq_true_eq] at c5
  refine bi_kB (by decide +kernel) (Nat.le_refl 2) ?_
  intro p e s m below meth c ls S hret hlk hSx hl
  have l0 := hl.2.2 (0, .ref (tx q)) List.mem_cons_self
  have l1 := hl.2.2 (1, .int i) (List.mem_cons_of_mem _ List.mem_cons_self)
  have hV := (hSx.1.1 q hq).2.2.1
  have hlk1 : (Cond.fieldLink RJ0 9 RJ0 "value" "[B").before _ s = true := S.2.2.2.2 _ bi_z9_2073
  refine lv_aload_n (k := 0) S.1 S.2.1 (by decide +kernel) rfl l0 ?_
  refine bi_kV (as := []) (a := tx q) (rest := []) (n := 0) (index := 492) S (bi_m_lat hq) bi_SxK_ok hSx va_S.rf bi_z9_724 bi_z9_721 bi_z9_722 bi_z9_723 bi_z9_19 (by decide +kernel) (by decide +kernel) rfl (vk_recv hSx.1 hq va_S.rf) (by decide) (by decide) ⟨Nat.le_refl _, Nat.le_refl _⟩ hl.1 (by decide) (by decide +kernel) (fun locs1 hS1 => ?_)
  refine lv_if_eq (off := 12) (tgt := 16) S.1 S.2.1 (by decide +kernel) (by decide) (fun h => absurd h (by decide)) (fun _ => ?_)
  refine lv_aload_n (k := 0) S.1 S.2.1 (by decide +kernel) rfl l0 ?_
  refine vk_getf S.1 S.2.1 hV hS1 S.2.2.2.1 hlk1 (fun _ h => h) (by decide +kernel) ?_
  refine lv_iload_n (k := 1) S.1 S.2.1 (by decide +kernel) rfl l1 ?_
  refine bi_kS (as := [.ref (adV q), .int i]) (rest := []) (n := 2) (index := 495) S (bi_m_lca (tx := tx) hq h0 h1) bi_SxK_ok hSx hS1 bi_z9_727 bi_z9_725 bi_z9_726 bi_z9_20 (by decide +kernel) (by decide +kernel) rfl (by decide) (by decide) ⟨Nat.le_refl _, Nat.le_refl _⟩ hl.1 (by decide) (by decide +kernel) (fun locs2 hS2 => ?_)
  exact W.zret (ty := .char) S.1 S.2.1 hret c5.2 (fun t ht _ => ⟨rfl, ht⟩) hS2.2.2 (by decide +kernel) hlk
theorem bi_adT {a : Nat} (h : 5000 ≤ a) : bi_ad bs b tx a = tx (a - 5000) := by
  unfold bi_ad
  rw [if_neg (by omega), if_neg (by omega)]
set_option maxHeartbeats 4000000 in
theorem bi_str_ok : bi_StrOK D cA bs b tx X l (bi_Sx bs tx adV) := by
  intro j p e R s m args below meth c Q M lv st pc H locs ls cells slots s' q z F hSx P k hdg hfr hlo hrc hrs h
  have S : CallFix p m c (bi_mc j) (bi_mi j).2.1 s args bi_T9 (bi_ow (bi_mi j).1) := ⟨F.1, F.2.1, F.2.2.1, F.2.2.2.1, F.2.2.2.2.1⟩
  rcases h with ⟨hlm, h⟩ | ⟨hlm, h⟩
  · have hw := bi_lm_w hlm
    unfold bi_ck at hw
    split at hw
    rotate_left
    · cases hw
    simp only [Bool.and_eq_true] at hw
    unfold bi_slen at h
    split at h
    · rename_i a r
      unfold bi_nxc at h
      have h1 := (Prod.mk.inj (Option.some.inj h)).1
      have h2 := (Prod.mk.inj (Option.some.inj h)).2
      cases h2
      simp only [Bool.and_eq_true, Nat.blt_eq] at h1
      have g1 := Nat.le_of_ble_eq_true h1.1.1
      have hq : a - 5000 < 25 := Nat.sub_lt_left_of_lt_add g1 h1.1.2
      have h8 := bi_cats_le (ad := bi_ad bs b tx) h1.2
      have hst : bi_vs (bi_ad bs b tx) (.ref a :: r) = ([] : List Value).reverse ++ .ref (tx (a - 5000)) :: bi_vs (bi_ad bs b tx) r := by
        show Value.ref (bi_ad bs b tx a) :: _ = _
        rw [bi_adT g1]; rfl
      rw [hst]
      generalize a - 5000 = t at hq k
      refine bi_kV (as := []) (a := tx t) (n := 0) S (bi_m_len hq) bi_SxK_ok hSx P.2.1 bi_z9_710 (bi_at9_in hw.1) bi_z9_708 bi_z9_709 bi_z9_19 (by decide +kernel) (by decide +kernel) rfl (vk_recv hSx.1 hq P.2.1) (by omega) (by omega) ⟨hrc, hrs⟩ P.2.2.1 h8 hdg (fun locs1 hS1 => ?_)
      exact k.same rfl rfl rfl ⟨P.1, hS1, P.2.2⟩
    · cases h
  · have hw := bi_lm_w hlm
    unfold bi_ck at hw
    split at hw
    rotate_left
    · cases hw
    simp only [Bool.and_eq_true] at hw
    unfold bi_chat at h
    split at h
    · rename_i i a r
      unfold bi_nxc at h
      have h1 := (Prod.mk.inj (Option.some.inj h)).1
      have h2 := (Prod.mk.inj (Option.some.inj h)).2
      cases h2
      simp only [Bool.and_eq_true, Nat.blt_eq] at h1
      have g1 := Nat.le_of_ble_eq_true h1.1.1.1
      have hq : a - 5000 < 25 := Nat.sub_lt_left_of_lt_add g1 h1.1.1.2
      have h8 := bi_cats_le (ad := bi_ad bs b tx) h1.2
      have hin := h1.1.2
      have hst : bi_vs (bi_ad bs b tx) (.int i :: .ref a :: r) = ([.int i] : List Value).reverse ++ .ref (tx (a - 5000)) :: bi_vs (bi_ad bs b tx) r := by
        show Value.int i :: Value.ref (bi_ad bs b tx a) :: _ = _
        rw [bi_adT g1]; rfl
      rw [hst]
      generalize a - 5000 = t at hq k hin
      have hck := List.all_eq_true.mp bi_tl_ck t (List.mem_range.mpr hq)
      simp only [Bool.and_eq_true, decide_eq_true_eq] at hck
      have i2 : ¬ i < 0 ∧ i.toNatClampNeg < bi_tlen.getD t 0 := by
        rw [hck.1.1.1]
        simpa [bi_in] using hin
      refine bi_kV (as := [.int i]) (a := tx t) (n := 1) S (bi_m_cha hq i2.1 i2.2) bi_SxK_ok hSx P.2.1 bi_z9_720 (bi_at9_in hw.1) bi_z9_718 bi_z9_719 bi_z9_19 (by decide +kernel) (by decide +kernel) rfl (vk_recv hSx.1 hq P.2.1) (by omega) (by omega) ⟨hrc, hrs⟩ P.2.2.1 h8 hdg (fun locs1 hS1 => ?_)
      exact k.same rfl rfl rfl ⟨P.1, hS1, P.2.2⟩
    · cases h
end STR
