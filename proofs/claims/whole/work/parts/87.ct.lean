/-! ===== contracts: what a call of a method of the system does ===== -/
section CT
def bi_xn (E : Nat) : String := if E = 100 then "java/util/NoSuchElementException" else "java/lang/IllegalArgumentException"
def bi_Nd (U : State) : Prop := va_Nw (.declares (Bundle.init0 "java/lang/RuntimeException")) U ∧ va_Nw (.declares (Bundle.init0 "java/lang/Exception")) U ∧ va_Nw (.declares (Bundle.init0 "java/lang/Throwable")) U
def bi_Gx (bs b : Nat) (X : bi_X) (Sx : State → Heap → Prop) (U : State) (H : Heap) : Prop := bi_Bs bs b X U H ∧ vx_Zq Bundle.tN "UNASSIGNED_STACK" Bundle.steD (bi_A bs) U H ∧ vx_Zq Bundle.tN "SUPPRESSED_SENTINEL" Bundle.listD (bi_A bs) U H ∧ Sx U H ∧ bi_Nd U
def bi_SxK (bs : Nat) (Sx : State → Heap → Prop) : Prop := ∀ (u U : State) (H H1 : Heap), u.WarmedH U.vm → (∀ q : Nat, q < H.size → ¬ bi_A bs q → H1[q]? = H[q]?) → Sx u H → Sx U H1
def bi_Wd (D : va_G) (cA : Nat → ClassId) (bs b : Nat) (tx : Nat → Nat) (X : bi_X) (Sx : State → Heap → Prop) (M : bi_Mem) (U : State) : Prop := bi_En D cA tx U ∧ bi_Gx bs b X Sx U U.heap ∧ bi_W9 D cA bs b tx M U.heap ∧ U.heap.size ≤ bs + bi_cn M
def bi_Qc (D : va_G) (cA : Nat → ClassId) (bs b : Nat) (tx : Nat → Nat) (o : Option Value ⊕ Nat) (M' : bi_Mem) : Array Value → State → Outcome → State → Prop := fun _ u oc t => (∃ v, o = .inl v ∧ oc = .returned v ∧ bi_W9 D cA bs b tx M' t.heap) ∧ va_F (bi_A bs) u t
def bi_XC (D : va_G) (cA : Nat → ClassId) (bs b : Nat) (tx : Nat → Nat) (o : Option Value ⊕ Nat) (M' : bi_Mem) : String → State → State → Prop := fun E u t => (∃ x, o = .inr x ∧ E = bi_xn x ∧ bi_W9 D cA bs b tx M' t.heap) ∧ va_F (bi_A bs) u t
def bi_rm (d : Nat) (M M' : bi_Mem) : Room := { frames := d + 12, cells := bi_cn M' - bi_cn M, slots := bi_sn M' - bi_sn M, locals := 40 * d + 200 }
/-- every method that can be called, d calls deep -/
def bi_Ct (D : va_G) (cA : Nat → ClassId) (bs b : Nat) (tx : Nat → Nat) (X : bi_X) (Sx : State → Heap → Prop) (l : Launch) (d : Nat) : Prop :=
  ∀ (n j : Nat) (as : List Value) (M M' : bi_Mem) (o : Option Value ⊕ Nat), j < 294 → (bi_mi j).1 ≠ 15 → (bi_hh j = [] ∨ ∃ v, o = .inl v) → bi_ex X n d j (0, bi_ent as, [], M) = some (o, M') → as.length ≤ (bi_mi j).2.1 → bi_a1 as = true →
    vx_Met l (bi_my j) (bi_cw j :: bi_T9) (bi_rm d M M') (va_Pc (bi_vs (bi_ad bs b tx) as) (bi_Wd D cA bs b tx X Sx M)) (bi_Qc D cA bs b tx o M') (bi_XC D cA bs b tx o M') (bi_cn M' - bi_cn M) (bi_sn M' - bi_sn M) (bi_A bs)
variable {D : va_G} {cA : Nat → ClassId} {bs b : Nat} {tx : Nat → Nat} {X : bi_X} {j : Nat} {p : Program} {l : Launch} {e : Env} {R : Room} {s : State} {m : MethodId} {args : Array Value} {below : List Frame} {meth : Method} {c : Code} {Q : State → Prop} {Sx : State → Heap → Prop}
variable {M : bi_Mem} {lv : bi_Lv} {st : List Value} {pc : Nat} {H : Heap} {locs : List Loc} {ls : Array Slot} {cells slots : Nat} {s' : bi_S} {U : State}
theorem bi_En.warm (hW : s.WarmedH U.vm) (h : bi_En D cA tx s) : bi_En D cA tx U := ⟨va_K.moved hW.alike h.1, va_AO.moved hW.alike h.2.1, fun q t ht => vk_R.warm hW (h.2.2.1 q t ht), fun t ht => va_Nw.warmM hW (h.2.2.2.1 t ht), va_Nc.moved hW.alike h.2.2.2.2.1, va_Nw.warmC hW h.2.2.2.2.2.1, va_Nw.warmC hW h.2.2.2.2.2.2⟩
theorem bi_Gx.go (hK : bi_SxK bs Sx) (hW : s.WarmedH U.vm) (hS : va_S (bi_A bs) s.heap H locs) (h : bi_Gx bs b X Sx s s.heap) : bi_Gx bs b X Sx U H :=
  ⟨⟨va_X.moved hW.alike (va_X.kept h.1.1 (hS.2.1 b (Nat.lt_of_lt_of_le h.1.2.1 h.1.2.2) (fun z : bs ≤ b => absurd z (Nat.not_le.mpr h.1.2.1)))), h.1.2.1, Nat.le_trans h.1.2.2 hS.1⟩, vx_Zq.moved hW.alike (h.2.1.kept hS.2.1), vx_Zq.moved hW.alike (h.2.2.1.kept hS.2.1), hK s U s.heap H hW hS.2.1 h.2.2.2.1, va_Nw.warmD hW h.2.2.2.2.1, va_Nw.warmD hW h.2.2.2.2.2.1, va_Nw.warmD hW h.2.2.2.2.2.2⟩
theorem bi_Wd.blind (hK : bi_SxK bs Sx) {av : List Value} : FrameBlind (va_Pc av (bi_Wd D cA bs b tx X Sx M)) := fun a U g mk q => ⟨q.1, bi_En.warm (s := U) (U := U.calling g mk a) (State.WarmedH.refl U) q.2.1, bi_Gx.go (s := U) (U := U.calling g mk a) (H := U.heap) (locs := []) hK (State.WarmedH.refl U) va_S.rf q.2.2.1, q.2.2.2.1, q.2.2.2.2⟩
theorem bi_good {w : Cond} (h : w ∈ bi_T9) : w ∈ bi_T9 ∧ ((w.onTables && w.keeps) = true ∨ ∃ ty, w = .arrayClass ty) := ⟨h, good_of_word (List.mem_filter.mp h).2⟩
theorem bi_cw_nil (h : bi_hh j = []) : bi_cw j = .code (bi_my j) (bi_mc j) (bi_mi j).2.1 (bi_rt (bi_mi j).2.2.1) := by unfold bi_cw; rw [h]
theorem bi_cw_cons {q : Nat × Nat × Nat × Nat} {hh : List (Nat × Nat × Nat × Nat)} (h : bi_hh j = q :: hh) : bi_cw j = .codeWith (bi_my j) (bi_mc j) (bi_mi j).2.1 (bi_rt (bi_mi j).2.2.1) (q :: hh) := by unfold bi_cw; rw [h]
/-- calls: room for arguments, objects are of the system's classes -/
def bi_vk (q : Nat × Nat × Nat) : Bool := match q.2.1 with
  | 0 => Nat.blt (bi_mi q.2.2).1 13 && Nat.ble (bi_na q.2.2 + 1) (bi_mi q.2.2).2.1
  | 2 => Nat.blt (bi_mi q.2.2).1 13 && Nat.ble (bi_na q.2.2 + 1) (bi_mi q.2.2).2.1
  | 4 => Nat.blt (bi_mi q.2.2).1 13 && Nat.ble (bi_na q.2.2 + 1) (bi_mi q.2.2).2.1
  | _ => Nat.blt 5 q.2.1 || Nat.ble (bi_na q.2.2) (bi_mi q.2.2).2.1
theorem bi_vk_ck : (List.range 16).all (fun o => (bi_ML.getD o []).all bi_vk) = true := by decide +kernel
theorem bi_vk_w {o i k jj : Nat} (h : bi_lm o i = some (k, jj)) : bi_vk (i, k, jj) = true := by
  have ho : o < 16 := by
    rcases Nat.lt_or_ge o 16 with h1 | h1
    · exact h1
    · unfold bi_lm at h
      rw [List.getD_eq_getElem?_getD, List.getElem?_eq_none (show bi_ML.length ≤ o from h1)] at h
      cases h
  exact List.all_eq_true.mp (List.all_eq_true.mp bi_vk_ck o (List.mem_range.mpr ho)) _ (bi_lkm h)
theorem bi_vs_app {ad : Nat → Nat} (a c : List Value) : bi_vs ad (a ++ c) = bi_vs ad a ++ bi_vs ad c := List.map_append
theorem bi_vs_rev {ad : Nat → Nat} (a : List Value) : bi_vs ad a.reverse = (bi_vs ad a).reverse := List.map_reverse
theorem bi_vs_len {ad : Nat → Nat} (a : List Value) : (bi_vs ad a).length = a.length := List.length_map _
theorem bi_vx_of {mc ms : Nat} {g : JFrame} {rest : List Value} {Qa : State → Outcome → State → Prop} {XC : String → State → State → Prop} {free : Addr → Prop} (h : va_Run p l e R s m args below meth c H locs cells slots mc ms g rest Qa free) : vx_Run p l e R s m args below meth c H locs cells slots mc ms g rest Qa XC free := fun T hT Y => Or.inl (h T hT Y)
theorem bi_Met_of {y : MethodName} {ws : List Cond} {rm : Room} {Pc : Array Value → State → Prop} {v : Option Value} {M2 : bi_Mem} {mc ms : Nat} {free : Addr → Prop} (h : vx_Met l y ws rm Pc (bi_Qc D cA bs b tx (.inl v) M2) (bi_XC D cA bs b tx (.inl v) M2) mc ms free) : Met l y ws rm Pc (bi_Qc D cA bs b tx (.inl v) M2) mc ms free := by
  intro p e ha hc hk s m args below hf happ hp hk'
  obtain ⟨n, o, h1, h2, h3, h4⟩ := h p e ha hc hk s m args below hf happ hp hk'
  refine ⟨n, o, h1, h2, h3, ?_⟩
  rcases h4 with h4 | ⟨_, _, E, ce, L, hx, _⟩
  · exact h4
  · obtain ⟨⟨x, hx, _⟩, _⟩ := hx
    cases hx
set_option maxHeartbeats 20000000 in
set_option maxRecDepth 4000 in
/-- a call of the method j', whose run is known -/
theorem bi_run_call {d n : Nat} {j' : Nat} {as r : List Value} {M1 M2 : bi_Mem} {o : Option Value ⊕ Nat} (hCt : bi_Ct D cA bs b tx X Sx l d) (hSK : bi_SxK bs Sx) (F : bi_Fx D cA bs b tx X j p s m args meth c) (G : bi_Gx bs b X Sx s s.heap) (P : bi_Pt D cA bs b tx j s M lv H locs ls) (hHs : H.size ≤ bs + bi_cn M)
    (hcall : bi_stp X j pc lv st M = some (true, .inr (.inr (.inr (j', as, r, M1))))) (hex : bi_ex X n d j' (0, bi_ent as, [], M) = some (o, M2)) (hm : (bi_mi j').1 ≠ 15) (ho : bi_hh j' = [] ∨ ∃ v, o = .inl v) (hfr : d + 13 ≤ R.frames) (hlo : 40 * d + 240 ≤ R.locals) (hf : cells + (bi_cn M2 - bi_cn M) ≤ R.cells ∧ slots + (bi_sn M2 - bi_sn M) ≤ R.slots) :
    vx_Run p l e R s m args below meth c H locs cells slots (bi_cn M2 - bi_cn M) (bi_sn M2 - bi_sn M) (F0 m pc ls (bi_vs (bi_ad bs b tx) st)) (bi_vs (bi_ad bs b tx) r) (bi_Qc D cA bs b tx o M2 #[]) (bi_XC D cA bs b tx o M2) (bi_A bs) := by
  obtain ⟨hM1, hcats, hc⟩ := bi_stp_call hcall
  have S : CallFix p m c (bi_mc j) (bi_mi j).2.1 s args bi_T9 (bi_ow (bi_mi j).1) := ⟨F.1, F.2.1, F.2.2.1, F.2.2.2.1, F.2.2.2.2.1⟩
  have hjj : j' < 294 := by
    rcases hc with ⟨q, _, _, hlm, _⟩ | ⟨q, _, kd, _, hk, hlm, _⟩ | ⟨q, _, kd, _, hk, hlm, _⟩
    all_goals
      have hw := bi_lm_w hlm
      unfold bi_ck at hw
      split at hw
      rotate_left
      · cases hw
      · simp only [Bool.and_eq_true, Bool.or_eq_true, Nat.blt_eq] at hw
        have := hw.2
        omega
  have mf := bi_mfm (Nat.lt_succ_of_lt hjj)
  unfold bi_mf at mf
  simp only [Bool.and_eq_true, decide_eq_true_eq, Bool.or_eq_true] at mf
  obtain ⟨⟨⟨⟨⟨⟨⟨⟨e1, e2⟩, e3⟩, e4⟩, e5⟩, e6⟩, e7⟩, e8⟩, e9⟩ := mf
  have hml := Nat.le_of_ble_eq_true e7
  have hcwm := bi_cwm hjj
  have hws : ∀ w ∈ bi_cw j' :: bi_T9, ∀ (a' : Array Value) (U : State), s.WarmedH U.vm → w.before a' U = true := pay_in F.2.2.2.2.1 (fun w hw => (List.mem_cons.mp hw).elim (fun z => by rw [z]; exact bi_good hcwm) (fun z => bi_good z))
  have hini : (Cond.initialized (bi_my j').cls).before args s = true := by rw [e1]; exact F.2.2.2.2.1 _ (bi_at9_in e6)
  have hlen : ∀ sig, parseMethodDescriptor (bi_my j').desc = some sig → bi_na j' = sig.parameters.length := fun sig h => by rw [h] at e5; exact (Option.some.inj e5).symm
  have hpre : ∀ U : State, U.heap = H → s.WarmedH U.vm → va_Pc (bi_vs (bi_ad bs b tx) as) (bi_Wd D cA bs b tx X Sx M) (bi_vs (bi_ad bs b tx) as).toArray U := fun U hU hW => ⟨rfl, bi_En.warm hW F.2.2.2.2.2.2.1, by rw [hU]; exact bi_Gx.go hSK hW P.2.1 G, by rw [hU]; exact P.1, by rw [hU]; exact hHs⟩
  have hroom : (bi_rm d M M2).frames + 1 ≤ R.frames ∧ 8 + ((bi_mi j').2.1 + 11) + (bi_rm d M M2).locals ≤ R.locals := ⟨hfr, by show 8 + ((bi_mi j').2.1 + 11) + (40 * d + 200) ≤ _; omega⟩
  have hW8 : 2 * (F0 m pc ls (bi_vs (bi_ad bs b tx) st)).monitorRoom + ((bi_vs (bi_ad bs b tx) r).map fun v => v.category).sum ≤ 8 := lv_room (bi_cats_le hcats)
  rcases hc with ⟨q, n1, hf1, hlm, a, as', rfl, hka, ha1, hal, hst⟩ | ⟨q, n1, kd, hf1, hk, hlm, ha1, hal, hst⟩ | ⟨q, n1, kd, hf1, hk, hlm, a, as', rfl, hka, ha1, hal, hst⟩
  · have hl := bi_len hf1
    simp only [Bool.and_eq_true, bi_ilk] at hl
    have hn := Nat.eq_of_beq_eq_true hl.1.1
    subst hn
    have hv := bi_vk_w hlm
    simp only [bi_vk, Bool.and_eq_true, Nat.blt_eq] at hv
    have hnl := Nat.le_of_ble_eq_true hv.2
    have hw := bi_lm_w hlm
    unfold bi_ck at hw
    split at hw
    rotate_left
    · cases hw
    simp only [Bool.and_eq_true] at hw
    have hh0 : bi_hh j' = [] := List.isEmpty_iff.mp hw.1.2
    have hM := hCt n j' (.ref a :: as') M M2 o hjj hm ho hex (by rw [List.length_cons]; omega) (by simp only [bi_a1, List.all_cons, Bool.and_eq_true]; exact ⟨rfl, ha1⟩)
    rw [bi_cw_nil hh0] at hM hws
    have hka := bi_kd_beq hka
    obtain ⟨g1, g2⟩ := P.1.at hka (by omega)
    have hsel : (Cond.selects (bi_my j').cls (bi_my j') (bi_my j')).before args s = true := by
      have h9 := hw.1.1.2
      unfold bi_sel at h9
      cases hb : Nat.blt (bi_sp j') 5000 with
      | true => rw [hb] at h9; simp only [cond_true] at h9; exact F.2.2.2.2.1 _ (bi_at9_in h9)
      | false => rw [hb] at h9; simp only [cond_false] at h9; exact F.2.2.2.2.1 _ (bi_at9s_in h9)
    have hcode : (Cond.code (bi_my j') (bi_mc j') (bi_mi j').2.1 (bi_rt (bi_mi j').2.2.1)).before args s = true := by rw [← bi_cw_nil hh0]; exact F.2.2.2.2.1 _ hcwm
    have hrec := va_recv F.2.2.2.2.2.2.1.1 P.1.1 (bi_cl hv.1).1 (bi_obj hka hv.1)
    rw [(bi_cl hv.1).2.2.2.2, ← e1] at hrec
    have hlk : (Cond.methodLink (bi_ow (bi_mi j).1) q (bi_my j')).before args s = true := F.2.2.2.2.1 _ (bi_at9_in hw.1.1.1.1)
    have cw : CallB R s args (bi_ow (bi_mi j).1) q (bi_my j') (bi_mc j') (bi_mi j').2.1 (bi_rt (bi_mi j').2.2.1) (Cond.code (bi_my j') (bi_mc j') (bi_mi j').2.1 (bi_rt (bi_mi j').2.2.1) :: bi_T9) (bi_rm d M M2) (bi_cn M2 - bi_cn M) (bi_sn M2 - bi_sn M) (bi_na j') := ⟨rfl, rfl, hroom.1, hroom.2, hws, List.mem_cons_self, hcode, hini, ⟨e3, e4⟩, hlen, hlk⟩
    have hin : (Cond.instanceMethod (bi_my j')).before args s = true := F.2.2.2.2.1 _ (bi_at9_in hw.1.1.1.2)
    exact vx_runV (b := bi_ad bs b tx a) (As := bi_vs (bi_ad bs b tx) as') S hM ⟨cw, hin, hsel⟩
      ⟨bi_Wd.blind hSK, by rw [g2]; exact hrec, hpre⟩ rfl (by rw [bi_vs_len]; exact hal) P.2.2.1 (by show bi_vs (bi_ad bs b tx) st = _; rw [hst, bi_vs_app, bi_vs_rev]; rfl) hW8 (bi_dec hf1) hf
  · have hl := bi_len hf1
    simp only [Bool.and_eq_true, bi_ilk] at hl
    have hn := Nat.eq_of_beq_eq_true hl.1.1
    subst hn
    have hv := bi_vk_w hlm
    have hnl : bi_na j' ≤ (bi_mi j').2.1 := by
      rcases hk with rfl | rfl | rfl <;> simp only [bi_vk] at hv <;> exact Nat.le_of_ble_eq_true (by simpa using hv)
    have hw := bi_lm_w hlm
    unfold bi_ck at hw
    split at hw
    rotate_left
    · cases hw
    have hM := hCt n j' as M M2 o hjj hm ho hex (by omega) ha1
    have hstk : (F0 m pc ls (bi_vs (bi_ad bs b tx) st)).stack = (bi_vs (bi_ad bs b tx) as).reverse ++ bi_vs (bi_ad bs b tx) r := by show bi_vs (bi_ad bs b tx) st = _; rw [hst, bi_vs_app, bi_vs_rev]
    rcases hk with rfl | rfl | rfl
    · simp only [Bool.and_eq_true] at hw
      have hh0 : bi_hh j' = [] := List.isEmpty_iff.mp hw.1.2
      rw [bi_cw_nil hh0] at hM hws
      have hcode : (Cond.code (bi_my j') (bi_mc j') (bi_mi j').2.1 (bi_rt (bi_mi j').2.2.1)).before args s = true := by rw [← bi_cw_nil hh0]; exact F.2.2.2.2.1 _ hcwm
      have hlk : (Cond.methodLink (bi_ow (bi_mi j).1) q (bi_my j')).before args s = true := F.2.2.2.2.1 _ (bi_at9_in hw.1.1.1)
      have cw : CallB R s args (bi_ow (bi_mi j).1) q (bi_my j') (bi_mc j') (bi_mi j').2.1 (bi_rt (bi_mi j').2.2.1) (Cond.code (bi_my j') (bi_mc j') (bi_mi j').2.1 (bi_rt (bi_mi j').2.2.1) :: bi_T9) (bi_rm d M M2) (bi_cn M2 - bi_cn M) (bi_sn M2 - bi_sn M) (bi_na j') := ⟨rfl, rfl, hroom.1, hroom.2, hws, List.mem_cons_self, hcode, hini, ⟨e3, e4⟩, hlen, hlk⟩
      have hin : (Cond.static (bi_my j')).before args s = true := F.2.2.2.2.1 _ (bi_at9_in hw.1.1.2)
      exact vx_runS (As := bi_vs (bi_ad bs b tx) as) S hM ⟨cw, hin⟩
        ⟨bi_Wd.blind hSK, hpre⟩ rfl (by rw [bi_vs_len]; exact hal) P.2.2.1 hstk hW8 (bi_dec hf1) hf
    · simp only [Bool.and_eq_true, decide_eq_true_eq] at hw
      have hh0 : bi_hh j' = [] := List.isEmpty_iff.mp hw.1.2
      have hnt : bi_nt j' = true := by
        have h3 := hl.2
        simp only [bi_nok, hlm] at h3
        simp at h3
        exact h3.1
      obtain ⟨v, rfl⟩ := bi_nt_ex _ _ _ _ _ _ hnt hex
      rw [bi_cw_nil hh0] at hM hws
      have hcode : (Cond.code (bi_my j') (bi_mc j') (bi_mi j').2.1 (bi_rt (bi_mi j').2.2.1)).before args s = true := by rw [← bi_cw_nil hh0]; exact F.2.2.2.2.1 _ hcwm
      have hlk : (Cond.methodLinkNest (bi_ow (bi_mi j).1) q (bi_my j') "PolicyRows").before args s = true := va_Nw.use (w := .methodLinkNest (bi_ow (bi_mi j).1) q (bi_my j') "PolicyRows") rfl (F.2.2.2.2.2.2.1.2.2.2.1 (bi_ow (bi_mi j).1, q, bi_my j') hw.1.1.1)
      have cw : va_CN R s args (bi_ow (bi_mi j).1) q (bi_my j') "PolicyRows" (bi_mc j') (bi_mi j').2.1 (bi_rt (bi_mi j').2.2.1) (Cond.code (bi_my j') (bi_mc j') (bi_mi j').2.1 (bi_rt (bi_mi j').2.2.1) :: bi_T9) (bi_rm d M M2) (bi_cn M2 - bi_cn M) (bi_sn M2 - bi_sn M) (bi_na j') := ⟨⟨rfl, rfl, hroom.1, hroom.2, hws, List.mem_cons_self⟩, hcode, hini, ⟨e3, e4⟩, hlen, hlk⟩
      have hin : (Cond.static (bi_my j')).before args s = true := F.2.2.2.2.1 _ (bi_at9_in hw.1.1.2)
      exact bi_vx_of (va_runSN (host := "PolicyRows") (As := bi_vs (bi_ad bs b tx) as) S (bi_Met_of hM) ⟨cw, hin, trivial⟩
        ⟨bi_Wd.blind hSK, hpre⟩ rfl (by rw [bi_vs_len]; exact hal) P.2.2.1 hstk hW8 (bi_dec hf1) hf)
    · simp only [Bool.and_eq_true, Bool.not_eq_true'] at hw
      cases hhh : bi_hh j' with
      | nil => rw [hhh] at hw; exact absurd hw.1.2 (by decide)
      | cons q0 hh =>
        rw [bi_cw_cons hhh] at hM hws
        have hcode : (Cond.codeWith (bi_my j') (bi_mc j') (bi_mi j').2.1 (bi_rt (bi_mi j').2.2.1) (q0 :: hh)).before args s = true := by rw [← bi_cw_cons hhh]; exact F.2.2.2.2.1 _ hcwm
        exact vx_runSX (As := bi_vs (bi_ad bs b tx) as) S hM ⟨⟨rfl, rfl, hroom.1, hroom.2, hws, List.mem_cons_self⟩, hcode, hini, ⟨e3, e4⟩, hlen, F.2.2.2.2.1 _ (bi_at9_in hw.1.1.1), F.2.2.2.2.1 _ (bi_at9_in hw.1.1.2)⟩
          ⟨bi_Wd.blind hSK, hpre⟩ rfl (by rw [bi_vs_len]; exact hal) P.2.2.1 hstk hW8 (bi_dec hf1) hf
  · have hl := bi_len hf1
    simp only [Bool.and_eq_true, bi_ilk] at hl
    have hn := Nat.eq_of_beq_eq_true hl.1.1
    subst hn
    have hv := bi_vk_w hlm
    have hv2 : (bi_mi j').1 < 13 ∧ bi_na j' + 1 ≤ (bi_mi j').2.1 := by
      rcases hk with rfl | rfl <;> simp only [bi_vk, Bool.and_eq_true, Nat.blt_eq] at hv <;> exact ⟨hv.1, Nat.le_of_ble_eq_true hv.2⟩
    have hw := bi_lm_w hlm
    unfold bi_ck at hw
    split at hw
    rotate_left
    · cases hw
    have hM := hCt n j' (.ref a :: as') M M2 o hjj hm ho hex (by rw [List.length_cons]; omega) (by simp only [bi_a1, List.all_cons, Bool.and_eq_true]; exact ⟨rfl, ha1⟩)
    have hstk : (F0 m pc ls (bi_vs (bi_ad bs b tx) st)).stack = (bi_vs (bi_ad bs b tx) as').reverse ++ .ref (bi_ad bs b tx a) :: bi_vs (bi_ad bs b tx) r := by show bi_vs (bi_ad bs b tx) st = _; rw [hst, bi_vs_app, bi_vs_rev]; rfl
    have hnt : bi_nt j' = true := by
      have h3 := hl.2
      simp only [bi_nok, hlm] at h3
      rcases hk with rfl | rfl <;> simpa using h3
    obtain ⟨v, rfl⟩ := bi_nt_ex _ _ _ _ _ _ hnt hex
    rcases hk with rfl | rfl
    · simp only [Bool.and_eq_true, decide_eq_true_eq] at hw
      have hh0 : bi_hh j' = [] := List.isEmpty_iff.mp hw.1.1.1.2
      have hr0 : (bi_mi j').2.2.1 = 0 := Nat.eq_of_beq_eq_true hw.1.2
      rw [bi_cw_nil hh0, hr0] at hM hws
      have hcode : (Cond.code (bi_my j') (bi_mc j') (bi_mi j').2.1 none).before args s = true := by
        have := F.2.2.2.2.1 _ hcwm
        rw [bi_cw_nil hh0, hr0] at this
        exact this
      have hlk : (Cond.methodLink (bi_ow (bi_mi j).1) q (bi_my j')).before args s = true := F.2.2.2.2.1 _ (bi_at9_in hw.1.1.1.1.1)
      have cw : CallB R s args (bi_ow (bi_mi j).1) q (bi_my j') (bi_mc j') (bi_mi j').2.1 none (Cond.code (bi_my j') (bi_mc j') (bi_mi j').2.1 none :: bi_T9) (bi_rm d M M2) (bi_cn M2 - bi_cn M) (bi_sn M2 - bi_sn M) (bi_na j') := ⟨rfl, rfl, hroom.1, hroom.2, hws, List.mem_cons_self, hcode, hini, ⟨e3, e4⟩, hlen, hlk⟩
      have hin : (Cond.instanceMethod (bi_my j')).before args s = true := F.2.2.2.2.1 _ (bi_at9_in hw.1.1.1.1.2)
      exact bi_vx_of (va_runI (b := bi_ad bs b tx a) (As := bi_vs (bi_ad bs b tx) as') S (bi_Met_of hM) ⟨cw, hw.1.1.2, hin⟩
        ⟨bi_Wd.blind hSK, hpre⟩ rfl (by rw [bi_vs_len]; exact hal) P.2.2.1 hstk hW8 (bi_dec hf1) hf)
    · simp only [Bool.and_eq_true, decide_eq_true_eq] at hw
      have hh0 : bi_hh j' = [] := List.isEmpty_iff.mp hw.1.1.1.2
      have hr0 : (bi_mi j').2.2.1 = 0 := Nat.eq_of_beq_eq_true hw.1.2
      rw [bi_cw_nil hh0, hr0] at hM hws
      have hcode : (Cond.code (bi_my j') (bi_mc j') (bi_mi j').2.1 none).before args s = true := by
        have := F.2.2.2.2.1 _ hcwm
        rw [bi_cw_nil hh0, hr0] at this
        exact this
      have hlk : (Cond.methodLinkNest (bi_ow (bi_mi j).1) q (bi_my j') "PolicyRows").before args s = true := va_Nw.use (w := .methodLinkNest (bi_ow (bi_mi j).1) q (bi_my j') "PolicyRows") rfl (F.2.2.2.2.2.2.1.2.2.2.1 (bi_ow (bi_mi j).1, q, bi_my j') hw.1.1.1.1.1)
      have cw : va_CN R s args (bi_ow (bi_mi j).1) q (bi_my j') "PolicyRows" (bi_mc j') (bi_mi j').2.1 none (Cond.code (bi_my j') (bi_mc j') (bi_mi j').2.1 none :: bi_T9) (bi_rm d M M2) (bi_cn M2 - bi_cn M) (bi_sn M2 - bi_sn M) (bi_na j') := ⟨⟨rfl, rfl, hroom.1, hroom.2, hws, List.mem_cons_self⟩, hcode, hini, ⟨e3, e4⟩, hlen, hlk⟩
      have hin : (Cond.instanceMethod (bi_my j')).before args s = true := F.2.2.2.2.1 _ (bi_at9_in hw.1.1.1.1.2)
      exact bi_vx_of (va_runIN (host := "PolicyRows") (b := bi_ad bs b tx a) (As := bi_vs (bi_ad bs b tx) as') S (bi_Met_of hM) ⟨cw, hw.1.1.2, hin⟩
        ⟨bi_Wd.blind hSK, hpre⟩ rfl (by rw [bi_vs_len]; exact hal) P.2.2.1 hstk hW8 (bi_dec hf1) hf)
/-- behind a call -/
theorem bi_callK {mc ms : Nat} {M2 : bi_Mem} {o : Option Value ⊕ Nat} {st0 rest : List Value} (hr : vx_Run p l e R s m args below meth c H locs cells slots mc ms (F0 m pc ls st0) rest (bi_Qc D cA bs b tx o M2 #[]) (bi_XC D cA bs b tx o M2) (bi_A bs)) (hS : va_S (bi_A bs) s.heap H locs)
    (kv : ∀ (v : Option Value) (H1 : Heap) (locs1 : List Loc), o = .inl v → bi_W9 D cA bs b tx M2 H1 → va_S (bi_A bs) s.heap H1 locs1 → W p l e R s m args below meth c H1 locs1 (cells + mc) (slots + ms) Q (F0 m (pc + 3) ls (v.toList ++ rest)))
    (kx : ∀ (x : Nat) (H1 : Heap) (locs1 : List Loc) (q : Addr) (ce : Cell), o = .inr x → bi_W9 D cA bs b tx M2 H1 → va_S (bi_A bs) s.heap H1 locs1 → H1[q]? = some ce → ce.vm = .none → s.vm.findClass (bi_xn x) = some ce.cls → vx_W p l e R s m args below meth c H1 locs1 (cells + mc) (slots + ms) Q (F0 m pc ls rest) q) :
    W p l e R s m args below meth c H locs cells slots Q (F0 m pc ls st0) := by
  intro T hT Y
  rcases hr T hT Y with ⟨v, st₀, t, T', L, h0, Y', hL, e1, e2, ⟨⟨v2, ho, hv, hw⟩, hF⟩, go⟩ | ⟨q, st₀, t, T', L, E, ce, h0, Y', hL, e1, e2, ⟨⟨x, ho, hE, hw⟩, hF⟩, hce, hcv, hcl, go⟩
  · cases hv
    obtain ⟨k1, k2, k3⟩ := vx_keep h0 e1 hS (fun _ _ z => z) (fun _ z => z) hL hF
    obtain ⟨t2, a1, b1⟩ := kv v T'.heap (locs ++ L) ho (by rw [e1]; exact hw) k3 T' rfl Y'
    exact ⟨t2, go t2 a1, b1⟩
  · obtain ⟨k1, k2, k3⟩ := vx_keep h0 e1 hS (fun _ _ z => z) (fun _ z => z) hL hF
    obtain ⟨t2, a1, b1⟩ := kx x T'.heap (locs ++ L) q ce ho (by rw [e1]; exact hw) k3 (by rw [e1]; exact hce) hcv (by rw [← hE]; exact hcl) T' rfl Y'
    exact ⟨t2, go.trans a1, b1⟩
end CT
