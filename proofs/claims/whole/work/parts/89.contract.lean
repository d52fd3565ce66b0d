/-! ===== every method of the system, by its run ===== -/
section CTR
abbrev bi_NSE : String := "java/util/NoSuchElementException"
abbrev bi_IAE : String := "java/lang/IllegalArgumentException"
def bi_bad (X : String) : List Cond := [.castable X X, .declares (Bundle.init0 "java/lang/RuntimeException"), .declares (Bundle.init0 "java/lang/Exception"), .declares (Bundle.init0 "java/lang/Throwable")]
abbrev bi_nms : List String := ["java/lang/RuntimeException", "java/lang/Exception"]
theorem bi_w_k100 : Cond.classLink RX11 179 bi_NSE ∈ bi_T9 := bi_in9 (p := 920) (by decide +kernel) rfl
theorem bi_w_k101 : Cond.classLink RX11 339 bi_IAE ∈ bi_T9 := bi_in9 (p := 604) (by decide +kernel) rfl
theorem bi_w_i100 : Cond.initialized bi_NSE ∈ bi_T9 := bi_in9 (p := 23) (by decide +kernel) rfl
theorem bi_w_i101 : Cond.initialized bi_IAE ∈ bi_T9 := bi_in9 (p := 17) (by decide +kernel) rfl
theorem bi_w_l100 : Cond.classLink RL 19 bi_NSE ∈ bi_T9 := bi_in9 (p := 908) (by decide +kernel) rfl
theorem bi_w_l101 : Cond.classLink RL 13 bi_IAE ∈ bi_T9 := bi_in9 (p := 595) (by decide +kernel) rfl
theorem bi_in9f {L : List Cond} (h : (L.filter goodWord).all (fun w => decide (w ∈ tables_1)) = true) : ∀ w ∈ L.filter goodWord, w ∈ bi_T9 := fun w hw => List.mem_filter.mpr ⟨List.mem_append_right _ (of_decide_eq_true (List.all_eq_true.mp h w hw)), (List.mem_filter.mp hw).2⟩
theorem bi_at100 : ((vx_at0 RX11 181 bi_NSE bi_nms).filter goodWord).all (fun w => decide (w ∈ tables_1)) = true := by decide +kernel
theorem bi_at101 : ((vx_at0 RX11 341 bi_IAE bi_nms).filter goodWord).all (fun w => decide (w ∈ tables_1)) = true := by decide +kernel
theorem bi_ng100 : ((vx_at0 RX11 181 bi_NSE bi_nms).filter (fun w => !goodWord w)).all (fun w => decide (w ∈ bi_bad bi_NSE)) = true := by decide +kernel
theorem bi_ng101 : ((vx_at0 RX11 341 bi_IAE bi_nms).filter (fun w => !goodWord w)).all (fun w => decide (w ∈ bi_bad bi_IAE)) = true := by decide +kernel
theorem bi_ot100 : (Cond.classLink RX11 179 bi_NSE :: Cond.initialized bi_NSE :: vx_at0 RX11 181 bi_NSE bi_nms).all vx_ot = true := by decide +kernel
theorem bi_ot101 : (Cond.classLink RX11 339 bi_IAE :: Cond.initialized bi_IAE :: vx_at0 RX11 341 bi_IAE bi_nms).all vx_ot = true := by decide +kernel
theorem bi_fit100 : Bundle.fit bi_NSE = true := by decide +kernel
theorem bi_fit101 : Bundle.fit bi_IAE = true := by decide +kernel
theorem bi_fitn : ∀ n ∈ bi_nms, Bundle.fit n = true := by decide +kernel
/-- rows of a table of exceptions, side by side -/
def bi_hz (j : Nat) : List (Nat × Nat × Nat × Nat) → List (Nat × Nat × Nat × Nat × Nat) → Bool
  | [], [] => true
  | (a, b, h, ct) :: t, (a', b', E, pc', k) :: t' => Nat.beq a a' && Nat.beq b b' && (Nat.beq ct 19 && Nat.beq E 100 || Nat.beq ct 13 && Nat.beq E 101 && t.isEmpty) && (match bi_fe j h with
    | some (.astore q, 2) => Nat.beq q k && Nat.beq pc' (h + 2)
    | some (.astore_n q, 1) => Nat.beq q.val k && Nat.beq pc' (h + 1)
    | _ => false) && Nat.blt k (bi_mi j).2.1 && bi_hz j t t'
  | _, _ => false
def bi_hj (j : Nat) : Bool := match bi_lk j bi_HT with
  | none => (bi_hh j).isEmpty
  | some rows => bi_hz j (bi_hh j) rows && Nat.beq (bi_mi j).1 13 && !(bi_hh j).isEmpty
theorem bi_hj_ck : (List.range 295).all bi_hj = true := by decide +kernel
theorem bi_hz_find {j pc E : Nat} {q0 : Nat × Nat × Nat × Nat × Nat} : ∀ (hh : List (Nat × Nat × Nat × Nat)) (rows : List (Nat × Nat × Nat × Nat × Nat)), bi_hz j hh rows = true → rows.find? (fun q => Nat.ble q.1 pc && Nat.blt pc q.2.1 && Nat.beq q.2.2.1 E) = some q0 →
    ∃ (pre : List ExceptionTableEntry) (x : ExceptionTableEntry) (suf : List ExceptionTableEntry), tableOf hh = pre ++ x :: suf ∧ covers x pc = true ∧ (x.catchType = 19 ∧ E = 100 ∨ x.catchType = 13 ∧ E = 101) ∧ (bi_fe j x.handlerPc = some (.astore q0.2.2.2.2, 2) ∧ q0.2.2.2.1 = x.handlerPc + 2 ∨ ∃ z : Fin 4, bi_fe j x.handlerPc = some (.astore_n z, 1) ∧ z.val = q0.2.2.2.2 ∧ q0.2.2.2.1 = x.handlerPc + 1) ∧ q0.2.2.2.2 < (bi_mi j).2.1 ∧ ∀ z ∈ pre, covers z pc = false ∨ (z.catchType = 19 ∧ E = 101) := by
  intro hh
  induction hh with
  | nil => intro rows h hf; cases rows with
    | nil => cases hf
    | cons _ _ => cases h
  | cons y t ih =>
    intro rows h hf
    cases rows with
    | nil => obtain ⟨_, _, _, _⟩ := y; cases h
    | cons y' t' =>
      obtain ⟨a, b, hp, ct⟩ := y
      obtain ⟨a', b', E', pc', k⟩ := y'
      simp only [bi_hz, Bool.and_eq_true, Bool.or_eq_true, Nat.blt_eq] at h
      obtain ⟨⟨⟨⟨⟨h1, h2⟩, h3⟩, h4⟩, h5⟩, h6⟩ := h
      have h1 := Nat.eq_of_beq_eq_true h1
      have h2 := Nat.eq_of_beq_eq_true h2
      subst h1 h2
      rw [List.find?_cons] at hf
      cases hq : (Nat.ble a pc && Nat.blt pc b && Nat.beq E' E) with
      | true =>
        simp only [hq] at hf
        cases hf
        simp only [Bool.and_eq_true, Nat.blt_eq] at hq
        have hE := Nat.eq_of_beq_eq_true hq.2
        subst hE
        refine ⟨[], ⟨a, b, hp, ct⟩, tableOf t, rfl, ?_, ?_, ?_, h5, fun z hz => by cases hz⟩
        · simp only [covers, Bool.and_eq_true, decide_eq_true_eq]
          exact ⟨Nat.le_of_ble_eq_true hq.1.1, hq.1.2⟩
        · rcases h3 with h3 | h3
          · exact Or.inl ⟨Nat.eq_of_beq_eq_true h3.1, Nat.eq_of_beq_eq_true h3.2⟩
          · exact Or.inr ⟨Nat.eq_of_beq_eq_true h3.1.1, Nat.eq_of_beq_eq_true h3.1.2⟩
        · show bi_fe j hp = _ ∧ _ ∨ ∃ z : Fin 4, bi_fe j hp = _ ∧ _
          revert h4
          split
          · rename_i q hf2
            intro h4
            simp only [Bool.and_eq_true] at h4
            exact Or.inl ⟨by rw [hf2, Nat.eq_of_beq_eq_true h4.1], Nat.eq_of_beq_eq_true h4.2⟩
          · rename_i q hf2
            intro h4
            simp only [Bool.and_eq_true] at h4
            exact Or.inr ⟨q, hf2, Nat.eq_of_beq_eq_true h4.1, Nat.eq_of_beq_eq_true h4.2⟩
          · intro h4; cases h4
      | false =>
        simp only [hq] at hf
        obtain ⟨pre, x, suf, e1, e2, e3, e4, e5, e6⟩ := ih t' h6 hf
        refine ⟨⟨a, b, hp, ct⟩ :: pre, x, suf, by show _ :: tableOf t = _; rw [e1]; rfl, e2, e3, e4, e5, fun z hz => ?_⟩
        rcases List.mem_cons.mp hz with rfl | hz
        · rcases h3 with h3 | h3
          · cases hcv : covers (⟨a, b, hp, ct⟩ : ExceptionTableEntry) pc with
            | false => exact Or.inl rfl
            | true =>
              refine Or.inr ⟨Nat.eq_of_beq_eq_true h3.1, ?_⟩
              have hE' := Nat.eq_of_beq_eq_true h3.2
              rcases e3 with ⟨-, e3⟩ | ⟨-, e3⟩
              · exfalso
                simp only [covers, Bool.and_eq_true, decide_eq_true_eq] at hcv
                have z1 : Nat.ble a pc = true := Nat.ble_eq_true_of_le hcv.1
                have z2 : Nat.blt pc b = true := by rw [Nat.blt_eq]; exact hcv.2
                rw [z1, z2, hE', e3] at hq
                simp at hq
              · exact e3
          · have : t = [] := List.isEmpty_iff.mp h3.2
            subst this
            cases t' with
            | nil => cases hf
            | cons _ _ => cases h6
        · exact e6 z hz
theorem bi_a1_len {ad : Nat → Nat} : ∀ {vs : List Value}, bi_a1 vs = true → (lg_sl (bi_vs ad vs)).length = vs.length := by
  intro vs
  induction vs with
  | nil => intro _; rfl
  | cons v t ih =>
    intro h
    simp only [bi_a1, List.all_cons, Bool.and_eq_true] at h
    have h1 := Nat.eq_of_beq_eq_true h.1
    have e1 : ¬ (bi_v ad v).category = 2 := by rw [bi_v_cat, h1]; decide
    have ih := ih h.2
    unfold lg_sl bi_vs at ih ⊢
    simp only [List.map_cons, List.flatMap_cons, if_neg e1, List.length_append, List.length_cons, List.length_nil]
    omega
theorem bi_lvv_args {ad : Nat → Nat} : ∀ (as : List Value) (i : Nat), lv_args i (bi_vs ad as) = bi_lvv ad (lv_args i as) := by
  intro as
  induction as with
  | nil => intro i; rfl
  | cons v t ih =>
    intro i
    show (i, bi_v ad v) :: lv_args (if (bi_v ad v).category = 2 then i + 2 else i + 1) (bi_vs ad t) = (i, bi_v ad v) :: bi_lvv ad (lv_args (if v.category = 2 then i + 2 else i + 1) t)
    rw [bi_v_cat, ih]
variable {D : va_G} {cA : Nat → ClassId} {bs b : Nat} {tx : Nat → Nat} {X : bi_X} {j : Nat} {p : Program} {l : Launch} {e : Env} {R : Room} {s : State} {m : MethodId} {args : Array Value} {below : List Frame} {meth : Method} {c : Code} {Q : State → Prop} {Sx : State → Heap → Prop}
/-- a return of nothing, whatever lies on the stack -/
theorem bi_vret_any {cc : ByteArray} {Qc : Array Value → State → Outcome → State → Prop} {free : Addr → Prop} {H : Heap} {locs : List Loc} {cells slots : Nat} (hexec : p.tables.exec = Jvm.exec) (hb : c.code = cc) (hr : meth.sig.returnType = none)
    (hq : ∀ t : State, t.heap = H → s.WarmedH t.vm → Qc args s (.returned none) t) (hf : ∀ q ∈ locs, free q.base)
    {pc : Nat} {ls : Array Slot} {st0 : List Value} (hdg : decode cc pc = .ok (.return_, 1)) (hlocks : meth.locks = false) : W p l e R s m args below meth c H locs cells slots (MQ below Qc args s cells slots free) (F0 m pc ls st0) := by
  intro T hT Y
  obtain ⟨fs, hret, hrun, hended, hW, hframe⟩ := Y.leave (v := none) (hlocks := hlocks) (fun _ => rfl)
  have hmeth' : T.vm.method? m = some meth := Y.method'
  refine ⟨T.setFrames fs, ?_, .returned none, hrun, hended, hq _ hT hW, locs, ⟨⟨_, rfl⟩, hW, hframe⟩, hf⟩
  jvm_step Y.here [Y.here.top, hexec, hb, hdg, hmeth', hr]
  (try refine ⟨rfl, ?_⟩); (try refine ⟨rfl, ?_⟩)
  first | (intro acts; rw [hret _ acts rfl rfl rfl]) | rw [hret _ _ rfl rfl rfl]
  exact Steps.refl _
set_option maxHeartbeats 4000000 in
/-- a method returns -/
theorem bi_exitW {M0 Mf M1 : bi_Mem} {o : Option Value ⊕ Nat} {v : Option Value} {lv : bi_Lv} {st : List Value} {pc : Nat} {H : Heap} {locs : List Loc} {ls : Array Slot} {XC : String → State → State → Prop} (F : bi_Fx D cA bs b tx X j p s m args meth c) (hret : meth.sig.returnType = bi_rt (bi_mi j).2.2.1) (hlk : meth.locks = false)
    (hst : bi_stp X j pc lv st M1 = some (true, .inr (.inl (v, Mf)))) (ho : o = .inl v) (P : bi_Pt D cA bs b tx j s M1 lv H locs ls) : W p l e R s m args below meth c H locs (bi_cn M1 - bi_cn M0) (bi_sn M1 - bi_sn M0) (vx_MQ below (bi_Qc D cA bs b tx o Mf) XC args s (bi_cn Mf - bi_cn M0) (bi_sn Mf - bi_sn M0) (bi_A bs)) (F0 m pc ls (bi_vs (bi_ad bs b tx) st)) := by
  obtain ⟨rfl, hr⟩ := bi_stp_ret hst
  rcases hr with ⟨n, x, hf, rfl, rfl, hr⟩ | ⟨n, x, hf, rfl, rfl, hr⟩ | ⟨n, hf, rfl, hr⟩
  · have hl := bi_len hf
    simp only [Bool.and_eq_true, bi_ilk] at hl
    have hn := Nat.eq_of_beq_eq_true hl.1.1
    subst hn
    rcases hr with hr | ⟨hr, hz⟩
    · rw [hr] at hret
      exact vx_ret (W.iret F.1 F.2.1 hret (fun t ht _ => ⟨⟨_, ho, rfl, by rw [ht]; exact P.1⟩, P.2.1.F ht⟩) P.2.1.2.2 (bi_dec hf) hlk)
    · rw [hr] at hret
      have hx : x = 0 ∨ x = 1 := by simpa [bi_bool] using hz
      exact vx_ret (W.zret (ty := .boolean) F.1 F.2.1 hret (by rcases hx with rfl | rfl <;> rfl) (fun t ht _ => ⟨⟨_, ho, rfl, by rw [ht]; exact P.1⟩, P.2.1.F ht⟩) P.2.1.2.2 (bi_dec hf) hlk)
  · have hl := bi_len hf
    simp only [Bool.and_eq_true, bi_ilk] at hl
    have hn := Nat.eq_of_beq_eq_true hl.1.1
    subst hn
    rw [hr] at hret
    exact vx_ret (W.lret F.1 F.2.1 hret (fun t ht _ => ⟨⟨_, ho, rfl, by rw [ht]; exact P.1⟩, P.2.1.F ht⟩) P.2.1.2.2 (bi_dec hf) hlk)
  · have hl := bi_len hf
    simp only [Bool.and_eq_true, bi_ilk] at hl
    have hn := Nat.eq_of_beq_eq_true hl.1.1
    subst hn
    rw [hr] at hret
    exact vx_ret (bi_vret_any F.1 F.2.1 hret (fun t ht _ => ⟨⟨_, ho, rfl, by rw [ht]; exact P.1⟩, P.2.1.F ht⟩) P.2.1.2.2 (bi_dec hf) hlk)
theorem bi_W9_ex1 {M : bi_Mem} {H H1 : Heap} (h : bi_W9 D cA bs b tx M H) (hz : H.size ≤ H1.size) (hk : ∀ q : Nat, q < H.size → H1[q]? = H[q]?) : bi_W9 D cA bs b tx (bi_ex1 M) H1 := by
  obtain ⟨h1, h2, h3, h4, h5⟩ := h
  refine ⟨fun k q hq => (h1 k q hq).kept (hk q.1 ((h1 k q hq).lt)), fun z => ?_, h3, h4, Nat.le_succ_of_le h5⟩
  have z : M.2.1.1 + 1 = M.1.length := z
  omega
set_option maxHeartbeats 4000000 in
/-- a method throws -/
theorem bi_thrW {M0 Mf M1 : bi_Mem} {o : Option Value ⊕ Nat} {E : Nat} {lv : bi_Lv} {st : List Value} {pc : Nat} {H : Heap} {locs : List Loc} {ls : Array Slot} {Qc : Array Value → State → Outcome → State → Prop} (hl : l.stackTraces = false) (F : bi_Fx D cA bs b tx X j p s m args meth c) (G : bi_Gx bs b X Sx s s.heap) (hlk : meth.locks = false) (htab : ∀ x ∈ c.exceptionTable.toList, False)
    (hfr : 12 ≤ R.frames) (hlo : 200 ≤ R.locals) (hrc : bi_cn Mf - bi_cn M0 ≤ R.cells) (hrs : bi_sn Mf - bi_sn M0 ≤ R.slots) (hle : bi_le M0 M1)
    (hst : bi_stp X j pc lv st M1 = some (true, .inr (.inr (.inl (E, Mf))))) (ho : o = .inr E) (P : bi_Pt D cA bs b tx j s M1 lv H locs ls) : W p l e R s m args below meth c H locs (bi_cn M1 - bi_cn M0) (bi_sn M1 - bi_sn M0) (vx_MQ below Qc (bi_XC D cA bs b tx o Mf) args s (bi_cn Mf - bi_cn M0) (bi_sn Mf - bi_sn M0) (bi_A bs)) (F0 m pc ls (bi_vs (bi_ad bs b tx) st)) := by
  obtain ⟨rfl, q, n, ic, hf, hlc, hE13, f1, f2, f3, hown, hcase, hcats⟩ := bi_stp_thr hst
  have hl1 := bi_len hf
  simp only [Bool.and_eq_true, bi_ilk] at hl1
  have hn := Nat.eq_of_beq_eq_true hl1.1.1
  subst hn
  have hc8 := bi_cats_le (ad := bi_ad bs b tx) hcats
  have e1 : bi_cn M1 - bi_cn M0 + 1 = bi_cn (bi_ex1 M1) - bi_cn M0 := by have := hle.1; show M1.2.1.1 - M0.2.1.1 + 1 = M1.2.1.1 + 1 - M0.2.1.1; have : M0.2.1.1 ≤ M1.2.1.1 := hle.1; omega
  have e2 : bi_sn M1 - bi_sn M0 + 6 = bi_sn (bi_ex1 M1) - bi_sn M0 := by show M1.2.1.2 - M0.2.1.2 + 6 = M1.2.1.2 + 6 - M0.2.1.2; have : M0.2.1.2 ≤ M1.2.1.2 := hle.2; omega
  have hown' : s.vm.findClass RX11 = some m.cls := by
    have := F.2.2.2.1
    rw [hown] at this
    exact this
  have hx : ∀ (cls : String), cls = bi_xn E → ∀ t : State, s.vm.Alike t.vm → H.size ≤ t.heap.size → (∀ q : Nat, q < H.size → t.heap[q]? = H[q]?) → bi_XC D cA bs b tx o (bi_ex1 M1) cls s t := by
    intro cls hcls t _ hz hk
    refine ⟨⟨E, ho, hcls, bi_W9_ex1 P.1 hz hk⟩, ⟨Nat.le_trans P.2.1.1 hz, fun q h1 h2 => ?_⟩⟩
    rw [hk q (Nat.lt_of_lt_of_le h1 P.2.1.1)]
    exact P.2.1.2.1 q h1 h2
  have hsize : ls.size = c.maxLocals := P.2.2.1.trans F.2.2.1.symm
  rcases hcase with ⟨rfl, rfl, rfl⟩ | ⟨rfl, rfl, rfl⟩
  · exact vx_throw0 (own := RX11) (cls := bi_NSE) (names := bi_nms) F.1 F.2.1 hl hown' bi_fit100 bi_fitn (F.2.2.2.2.1 _ bi_w_k100) (F.2.2.2.2.1 _ bi_w_i100)
      (vx_hat (B := bi_bad bi_NSE) (fun w hw => F.2.2.2.2.1 _ (bi_in9f bi_at100 w hw)) (fun w hw => of_decide_eq_true (List.all_eq_true.mp bi_ng100 w hw)) (fun w hw => by
        rcases List.mem_cons.mp hw with rfl | hw
        · exact va_Nw.use rfl F.2.2.2.2.2.2.1.2.2.2.2.2.1
        rcases List.mem_cons.mp hw with rfl | hw
        · exact va_Nw.use rfl G.2.2.2.2.1
        rcases List.mem_cons.mp hw with rfl | hw
        · exact va_Nw.use rfl G.2.2.2.2.2.1
        rw [List.mem_singleton] at hw
        rw [hw]
        exact va_Nw.use rfl G.2.2.2.2.2.2))
      (fun w hw => List.all_eq_true.mp bi_ot100 w hw) G.2.1 G.2.2.1 P.2.1 hsize (bi_dec hf) (bi_dec f1) (bi_dec f2) (bi_dec f3) (fun x hx => (htab x hx).elim) (by show 2 + 3 < R.frames; omega) (by show ((bi_vs (bi_ad bs b tx) st).map fun v => v.category).sum + (13 * (2 + 1) + 42) ≤ R.locals; omega) (by rw [e1]; exact hrc) (by rw [e2]; exact hrs) hlk (hx _ rfl) P.2.1.2.2 (Nat.le_of_eq e1) (Nat.le_of_eq e2)
  · exact vx_throw0 (own := RX11) (cls := bi_IAE) (names := bi_nms) F.1 F.2.1 hl hown' bi_fit101 bi_fitn (F.2.2.2.2.1 _ bi_w_k101) (F.2.2.2.2.1 _ bi_w_i101)
      (vx_hat (B := bi_bad bi_IAE) (fun w hw => F.2.2.2.2.1 _ (bi_in9f bi_at101 w hw)) (fun w hw => of_decide_eq_true (List.all_eq_true.mp bi_ng101 w hw)) (fun w hw => by
        rcases List.mem_cons.mp hw with rfl | hw
        · exact va_Nw.use rfl F.2.2.2.2.2.2.1.2.2.2.2.2.2
        rcases List.mem_cons.mp hw with rfl | hw
        · exact va_Nw.use rfl G.2.2.2.2.1
        rcases List.mem_cons.mp hw with rfl | hw
        · exact va_Nw.use rfl G.2.2.2.2.2.1
        rw [List.mem_singleton] at hw
        rw [hw]
        exact va_Nw.use rfl G.2.2.2.2.2.2))
      (fun w hw => List.all_eq_true.mp bi_ot101 w hw) G.2.1 G.2.2.1 P.2.1 hsize (bi_dec hf) (bi_dec f1) (bi_dec f2) (bi_dec f3) (fun x hx => (htab x hx).elim) (by show 2 + 3 < R.frames; omega) (by show ((bi_vs (bi_ad bs b tx) st).map fun v => v.category).sum + (13 * (2 + 1) + 42) ≤ R.locals; omega) (by rw [e1]; exact hrc) (by rw [e2]; exact hrs) hlk (hx _ (by decide)) P.2.1.2.2 (Nat.le_of_eq e1) (Nat.le_of_eq e2)
set_option maxHeartbeats 4000000 in
/-- a throw is caught -/
theorem bi_catW {E pc pc' k : Nat} {lv : bi_Lv} {H : Heap} {locs : List Loc} {ls : Array Slot} {rest : List Value} {q : Addr} {ce : Cell} {cells slots : Nat} (F : bi_Fx D cA bs b tx X j p s m args meth c) (htab : c.exceptionTable.toList = tableOf (bi_hh j)) (hj : j < 294) (hh : bi_hnd j pc E = some (pc', k)) (hl : lv_has ls (bi_mi j).2.1 (bi_lvv (bi_ad bs b tx) lv)) (hce : H[q]? = some ce) (hcv : ce.vm = .none) (hcl : s.vm.findClass (bi_xn E) = some ce.cls)
    (kk : ∀ ls1 : Array Slot, lv_has ls1 (bi_mi j).2.1 (bi_lvv (bi_ad bs b tx) (bi_drop lv k)) → W p l e R s m args below meth c H locs cells slots Q (F0 m pc' ls1 [])) : vx_W p l e R s m args below meth c H locs cells slots Q (F0 m pc ls rest) q := by
  have hj1 := List.all_eq_true.mp bi_hj_ck j (List.mem_range.mpr (Nat.lt_succ_of_lt hj))
  unfold bi_hj at hj1
  unfold bi_hnd at hh
  cases hr : bi_lk j bi_HT with
  | none => rw [hr] at hh; cases hh
  | some rows =>
    rw [hr] at hh hj1
    simp only [Bool.and_eq_true] at hh hj1
    split at hh
    · rename_i q0 hfind
      cases hh
      obtain ⟨pre, x, suf, a1, a2, a3, a4, a5, a6⟩ := bi_hz_find _ _ hj1.1.1 hfind
      have hown : s.vm.findClass RL = some m.cls := by
        have := F.2.2.2.1
        rw [Nat.eq_of_beq_eq_true hj1.1.2] at this
        exact this
      have go : ∀ (name : String), (Cond.classLink RL x.catchType name).before args s = true → (Cond.castable (bi_xn E) name).before args s = true → x.catchType ≠ 0 → (∀ z ∈ pre, covers z pc = false ∨ (z.catchType ≠ 0 ∧ ∃ nm : String, (Cond.classLink RL z.catchType nm).before args s = true ∧ va_Nc (bi_xn E) nm s)) → vx_W p l e R s m args below meth c H locs cells slots Q (F0 m pc ls rest) q := by
        intro name w1 w2 h0 hp
        refine vx_catch hown pre x suf (htab.trans a1) hp a2 h0 w1 w2 hce hcv hcl ?_
        have sub : ∀ {ls1 : Array Slot}, lv_has ls1 (bi_mi j).2.1 ((q0.2.2.2.2, Value.ref q) :: (bi_lvv (bi_ad bs b tx) lv).filter (fun z => !(z.1 == q0.2.2.2.2) && !(z.1 + 1 == q0.2.2.2.2 && z.2.category == 2))) → lv_has ls1 (bi_mi j).2.1 (bi_lvv (bi_ad bs b tx) (bi_drop lv q0.2.2.2.2)) := by
          intro ls1 h
          refine ⟨h.1, h.2.1, fun z hz => h.2.2 z (List.mem_cons_of_mem _ ?_)⟩
          rw [bi_lvv_filter (bi_ad bs b tx) lv (fun i k => !(i == q0.2.2.2.2) && !(i + 1 == q0.2.2.2.2 && k == 2))]
          exact hz
        rcases a4 with ⟨f1, f2⟩ | ⟨z, f1, f2, f3⟩
        · exact lv_astore F.1 F.2.1 (bi_dec f1) hl a5 rfl (fun ls1 hl1 => by rw [← f2]; exact kk ls1 (sub hl1))
        · refine lv_astore_n F.1 F.2.1 (bi_dec f1) f2 hl a5 rfl (fun ls1 hl1 => by rw [← f3]; exact kk ls1 (sub hl1))
      rcases a3 with ⟨b1, rfl⟩ | ⟨b1, rfl⟩
      · refine go bi_NSE (by rw [b1]; exact F.2.2.2.2.1 _ bi_w_l100) (va_Nw.use rfl F.2.2.2.2.2.2.1.2.2.2.2.2.1) (by rw [b1]; decide) (fun z hz => ?_)
        rcases a6 z hz with h | ⟨-, h⟩
        · exact Or.inl h
        · exact absurd h (by decide)
      · refine go bi_IAE (by rw [b1]; exact F.2.2.2.2.1 _ bi_w_l101) (va_Nw.use rfl F.2.2.2.2.2.2.1.2.2.2.2.2.2) (by rw [b1]; decide) (fun z hz => ?_)
        rcases a6 z hz with h | ⟨h, -⟩
        · exact Or.inl h
        · exact Or.inr ⟨by rw [h]; decide, bi_NSE, by rw [h]; exact F.2.2.2.2.1 _ bi_w_l100, F.2.2.2.2.2.2.1.2.2.2.2.1⟩
    · cases hh
theorem bi_ht_nil (hj : j < 294) (h : bi_hh j = []) {pc E : Nat} : bi_hnd j pc E = none := by
  have hj1 := List.all_eq_true.mp bi_hj_ck j (List.mem_range.mpr (Nat.lt_succ_of_lt hj))
  unfold bi_hj at hj1
  unfold bi_hnd
  cases hr : bi_lk j bi_HT with
  | none => rfl
  | some rows =>
    rw [hr, h] at hj1
    simp at hj1
set_option maxHeartbeats 4000000 in
theorem bi_ct1 {d : Nat} (hl : l.stackTraces = false) (hStr : bi_StrOK D cA bs b tx X l Sx) (hSK : bi_SxK bs Sx) (hCt : ∀ d', d = d' + 1 → bi_Ct D cA bs b tx X Sx l d') : bi_Ct D cA bs b tx X Sx l d := by
  intro n j as M M' o hj hm ho hex hal ha1
  have mf := bi_mfm (Nat.lt_succ_of_lt hj)
  unfold bi_mf at mf
  simp only [Bool.and_eq_true, decide_eq_true_eq, Bool.or_eq_true] at mf
  obtain ⟨⟨⟨⟨⟨⟨⟨⟨e1, e2⟩, e3⟩, e4⟩, e5⟩, e6⟩, e7⟩, e8⟩, e9⟩ := mf
  have hplain : plainName (bi_my j).cls = true := by
    rcases e2 with e2 | e2
    · exact e2
    · exact absurd (Nat.eq_of_beq_eq_true e2) hm
  have hmo := bi_ex_mo _ _ _ _ _ _ hex
  have fx : ∀ {p : Program} {e : Env} {s : State} {m : MethodId} {args : Array Value} {below : List Frame} {meth : Method} {c : Code} {s₁ : State}, BodyLoose p l (bi_my j) (headSpec (bi_cw j :: bi_T9) (bi_rm d M M')) (bi_mc j) (bi_mi j).2.1 (bi_rt (bi_mi j).2.2.1) e s m args below meth c s₁ → c.maxLocals = (bi_mi j).2.1 → bi_En D cA tx s → bi_Gx bs b X Sx s s.heap → bi_Fx D cA bs b tx X j p s m args meth c := by
    intro p e s m args below meth c s₁ B hml hEn hGx
    refine ⟨B.exec, B.bytes, hml, by rw [← e1]; exact findClass_of_methodNamed B.named, fun w hw => atoms_spec (ws := bi_cw j :: bi_T9) B.pre w (List.mem_cons_of_mem _ hw), fun hc => ?_, hEn, hGx.1⟩
    rw [e9] at hc
    rw [(name_of_methodNamed B.named B.method).1]
    exact of_decide_eq_true hc
  cases hhh : bi_hh j with
  | nil =>
    refine vx_ofW (cc := bi_mc j) (maxL := (bi_mi j).2.1) (ret := bi_rt (bi_mi j).2.2.1) (ws' := bi_T9) hplain (by rw [bi_cw_nil hhh]) ?_
    intro p e s m args below meth c s₁ B hml htab hv
    obtain ⟨rfl, hEn, hGx, hW9, hsz⟩ := hv
    have F := fx B hml hEn hGx
    have hlv := lv_entry (bi_vs (bi_ad bs b tx) as) (n := (bi_mi j).2.1) (by rw [bi_a1_len ha1]; exact hal)
    rw [lg_entry_eq]
    generalize (lg_sl (bi_vs (bi_ad bs b tx) as) ++ List.replicate ((bi_mi j).2.1 - (lg_sl (bi_vs (bi_ad bs b tx) as)).length) Slot.unset).toArray = ls at hlv ⊢
    rw [bi_lvv_args] at hlv
    have k := bi_body (R := bi_rm d M M') (Q := vx_MQ below (bi_Qc D cA bs b tx o M') (bi_XC D cA bs b tx o M') (bi_vs (bi_ad bs b tx) as).toArray s (bi_cn M' - bi_cn M) (bi_sn M' - bi_sn M) (bi_A bs)) (M0 := M) (Mf := M') (o := o) (e := e) (below := below) hStr hSK hCt F hGx (Nat.le_refl _) (Nat.le_refl _) hsz (Nat.le_refl _) (Nat.le_refl _) (fun z => by omega)
      (fun v M1 lv st pc H locs ls hst ho2 hle P => bi_exitW F B.returns B.notSynchronized hst ho2 P)
      (fun E M1 lv st pc H locs ls hst ho2 hle P => bi_thrW hl F hGx B.notSynchronized htab (by show 12 ≤ d + 12; omega) (by show 200 ≤ 40 * d + 200; omega) (Nat.le_refl _) (Nat.le_refl _) hle hst ho2 P)
      (fun E pc H locs ls rest q ce ho2 hw hS hce hcv hcl => vx_out (fun x hx => (htab x hx).elim) B.notSynchronized hce hcv hcl (fun t ht _ => ⟨⟨E, ho2, rfl, by rw [ht]; exact hw⟩, hS.F ht⟩) hS.2.2 (Nat.le_refl _) (Nat.le_refl _))
      (fun E pc pc' k lv H locs ls rest q ce cells slots hh => by rw [bi_ht_nil hj hhh] at hh; cases hh)
      n 0 (bi_ent as) [] M s.heap [] ls hex bi_le.rf ⟨hW9, va_S.rf, hlv⟩
    simp only [Nat.sub_self] at k
    exact k
  | cons q0 hh0 =>
    obtain ⟨v0, hv0⟩ : ∃ v, o = .inl v := by
      rcases ho with h | h
      · rw [hhh] at h; cases h
      · exact h
    refine vx_ofWH (cc := bi_mc j) (maxL := (bi_mi j).2.1) (ret := bi_rt (bi_mi j).2.2.1) (hh := q0 :: hh0) (ws' := bi_T9) hplain (by rw [bi_cw_cons hhh]) ?_
    intro p e s m args below meth c s₁ B hml hv
    obtain ⟨rfl, hEn, hGx, hW9, hsz⟩ := hv
    have F := fx B hml hEn hGx
    have hcode : (Cond.codeWith (bi_my j) (bi_mc j) (bi_mi j).2.1 (bi_rt (bi_mi j).2.2.1) (q0 :: hh0)).before (bi_vs (bi_ad bs b tx) as).toArray s = true := by
      rw [← bi_cw_cons hhh]
      exact F.2.2.2.2.1 _ (bi_cwm hj)
    have htab : c.exceptionTable.toList = tableOf (bi_hh j) := by rw [hhh]; exact vx_table (x := bi_my j) B hcode
    have hlv := lv_entry (bi_vs (bi_ad bs b tx) as) (n := (bi_mi j).2.1) (by rw [bi_a1_len ha1]; exact hal)
    rw [lg_entry_eq]
    generalize (lg_sl (bi_vs (bi_ad bs b tx) as) ++ List.replicate ((bi_mi j).2.1 - (lg_sl (bi_vs (bi_ad bs b tx) as)).length) Slot.unset).toArray = ls at hlv ⊢
    rw [bi_lvv_args] at hlv
    have k := bi_body (R := bi_rm d M M') (Q := vx_MQ below (bi_Qc D cA bs b tx o M') (bi_XC D cA bs b tx o M') (bi_vs (bi_ad bs b tx) as).toArray s (bi_cn M' - bi_cn M) (bi_sn M' - bi_sn M) (bi_A bs)) (M0 := M) (Mf := M') (o := o) (e := e) (below := below) hStr hSK hCt F hGx (Nat.le_refl _) (Nat.le_refl _) hsz (Nat.le_refl _) (Nat.le_refl _) (fun z => by omega)
      (fun v M1 lv st pc H locs ls hst ho2 hle P => bi_exitW F B.returns B.notSynchronized hst ho2 P)
      (fun E M1 lv st pc H locs ls hst ho2 hle P => by rw [hv0] at ho2; cases ho2)
      (fun E pc H locs ls rest q ce ho2 hw hS hce hcv hcl => by rw [hv0] at ho2; cases ho2)
      (fun E pc pc' k lv H locs ls rest q ce cells slots hh hE hl2 hce hcv hcl kk => bi_catW F htab hj hh hl2 hce hcv hcl kk)
      n 0 (bi_ent as) [] M s.heap [] ls hex bi_le.rf ⟨hW9, va_S.rf, hlv⟩
    simp only [Nat.sub_self] at k
    exact k
/-- every method, however deep it calls -/
theorem bi_contract (hl : l.stackTraces = false) (hStr : bi_StrOK D cA bs b tx X l Sx) (hSK : bi_SxK bs Sx) : ∀ d, bi_Ct D cA bs b tx X Sx l d := by
  intro d
  induction d with
  | zero => exact bi_ct1 hl hStr hSK (fun d' h => by omega)
  | succ d ih => exact bi_ct1 hl hStr hSK (fun d' h => (Nat.succ.inj h) ▸ ih)
end CTR
