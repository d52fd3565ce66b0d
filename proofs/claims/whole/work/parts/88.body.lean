/-! ===== a whole body ===== -/
section BODY
variable {D : va_G} {cA : Nat → ClassId} {bs b : Nat} {tx : Nat → Nat} {X : bi_X} {j : Nat} {p : Program} {l : Launch} {e : Env} {R : Room} {s : State} {m : MethodId} {args : Array Value} {below : List Frame} {meth : Method} {c : Code} {Q : State → Prop} {Sx : State → Heap → Prop}
theorem bi_ex_det {n n' d : Nat} {q : bi_S} {o o' : bi_Out} (h : bi_ex X n d j q = some o) (h' : bi_ex X n' d j q = some o') : o = o' := by
  have h1 := bi_ex_le h (Nat.le_add_right n n')
  have h2 := bi_ex_le h' (Nat.le_add_left n' n)
  exact Option.some.inj (h1.symm.trans h2)
theorem bi_nm9 : ∀ t ∈ bi_N9, t.2.2 ≠ bi_my 269 ∧ t.2.2 ≠ bi_my 270 := by decide +kernel
theorem bi_mt_ck : (List.range 295).all (fun j => !(Nat.beq (bi_mi j).1 15) || (Nat.beq j 269 || Nat.beq j 270)) = true := by decide +kernel
theorem bi_mt {jj : Nat} (h : jj < 295) (h2 : (bi_mi jj).1 = 15) : jj = 269 ∨ jj = 270 := by
  have h1 := List.all_eq_true.mp bi_mt_ck jj (List.mem_range.mpr h)
  rw [h2] at h1
  simp only [Bool.or_eq_true] at h1
  rcases h1 with h1 | h1 | h1
  · exact absurd h1 (by decide)
  · exact Or.inl (Nat.eq_of_beq_eq_true h1)
  · exact Or.inr (Nat.eq_of_beq_eq_true h1)
theorem bi_max_T {d : Nat} {x y : Int32} {M : bi_Mem} : bi_T X d 269 (0, [(0, .int x), (1, .int y)], [], M) (fun o => o = (.inl (some (.int (if x < y then y else x))), M)) := by
  refine bi_Tr 3 (s' := ((if x < y then 9 else 5), [(0, .int x), (1, .int y)], [], M)) rfl (bi_Tif (fun hc => ?_) (fun hc => ?_))
  · refine bi_Tr 1 (s' := (10, [(0, .int x), (1, .int y)], [.int y], M)) rfl ?_
    exact bi_Tv rfl rfl (by rw [if_pos hc])
  · refine bi_Tr 2 (s' := (10, [(0, .int x), (1, .int y)], [.int x], M)) rfl ?_
    exact bi_Tv rfl rfl (by rw [if_neg hc])
theorem bi_min_T {d : Nat} {x y : Int32} {M : bi_Mem} : bi_T X d 270 (0, [(0, .int x), (1, .int y)], [], M) (fun o => o = (.inl (some (.int (if y < x then y else x))), M)) := by
  refine bi_Tr 3 (s' := ((if y < x then 9 else 5), [(0, .int x), (1, .int y)], [], M)) rfl (bi_Tif (fun hc => ?_) (fun hc => ?_))
  · refine bi_Tr 1 (s' := (10, [(0, .int x), (1, .int y)], [.int y], M)) rfl ?_
    exact bi_Tv rfl rfl (by rw [if_pos hc])
  · refine bi_Tr 2 (s' := (10, [(0, .int x), (1, .int y)], [.int x], M)) rfl ?_
    exact bi_Tv rfl rfl (by rw [if_neg hc])
theorem bi_mm_st {jj : Nat} {M : bi_Mem} (hj : jj = 269 ∨ jj = 270) {v w : Value} : bi_stp X jj 0 (bi_ent [v, w]) [] M = match v with
    | .int x => some (true, .inl (1, bi_ent [.int x, w], [.int x], M))
    | _ => none := by
  rcases hj with rfl | rfl <;> cases v <;> rfl
theorem bi_mm_st2 {jj : Nat} {M : bi_Mem} (hj : jj = 269 ∨ jj = 270) {x : Int32} {w : Value} : bi_stp X jj 1 (bi_ent [.int x, w]) [.int x] M = match w with
    | .int y => some (true, .inl (2, bi_ent [.int x, .int y], [.int y, .int x], M))
    | _ => none := by
  rcases hj with rfl | rfl <;> cases w <;> rfl
theorem bi_mm_ex {n d jj : Nat} {as : List Value} {M M2 : bi_Mem} {o : Option Value ⊕ Nat} (hj : jj = 269 ∨ jj = 270) (hl : as.length = 2) (h : bi_ex X n d jj (0, bi_ent as, [], M) = some (o, M2)) : ∃ x y : Int32, as = [.int x, .int y] ∧ M2 = M ∧ o = .inl (some (.int (if jj = 269 then (if x < y then y else x) else (if y < x then y else x)))) := by
  obtain ⟨v, w, rfl⟩ : ∃ v w, as = [v, w] := by
    match as, hl with
    | [v, w], _ => exact ⟨v, w, rfl⟩
  have hv : ∃ x, v = .int x := by
    cases n with
    | zero => simp [bi_ex] at h
    | succ n =>
      rw [bi_ex, bi_mm_st hj] at h
      cases v with
      | int x => exact ⟨x, rfl⟩
      | _ => simp at h
  obtain ⟨x, rfl⟩ := hv
  have hw : ∃ y, w = .int y := by
    cases n with
    | zero => simp [bi_ex] at h
    | succ n =>
      rw [bi_ex, bi_mm_st hj] at h
      simp only at h
      cases n with
      | zero => simp [bi_ex] at h
      | succ n =>
        rw [bi_ex, bi_mm_st2 hj] at h
        cases w with
        | int y => exact ⟨y, rfl⟩
        | _ => simp at h
  obtain ⟨y, rfl⟩ := hw
  rcases hj with rfl | rfl
  · obtain ⟨n2, o2, h2, h3⟩ := bi_max_T (X := X) (d := d) (x := x) (y := y) (M := M)
    have := bi_ex_det h h2
    rw [h3] at this
    cases this
    exact ⟨x, y, rfl, rfl, by rw [if_pos rfl]⟩
  · obtain ⟨n2, o2, h2, h3⟩ := bi_min_T (X := X) (d := d) (x := x) (y := y) (M := M)
    have := bi_ex_det h h2
    rw [h3] at this
    cases this
    exact ⟨x, y, rfl, rfl, by rw [if_neg (show ¬ 270 = 269 by decide)]⟩
/-- the callee of a call: whether it has a table -/
theorem bi_call_hh {pc : Nat} {lv : bi_Lv} {st : List Value} {M M1 : bi_Mem} {j' : Nat} {as r : List Value} (h : bi_stp X j pc lv st M = some (true, .inr (.inr (.inr (j', as, r, M1))))) : (bi_hh j' = [] ∨ j = 294) ∧ j' < 294 := by
  obtain ⟨-, -, hc⟩ := bi_stp_call h
  rcases hc with ⟨q, n, hf, hlm, -⟩ | ⟨q, n, kd, hf, hk, hlm, -⟩ | ⟨q, n, kd, hf, hk, hlm, -⟩
  · have hw := bi_lm_w hlm
    unfold bi_ck at hw
    split at hw
    · simp only [Bool.and_eq_true, Bool.or_eq_true, Nat.blt_eq] at hw
      exact ⟨Or.inl (List.isEmpty_iff.mp hw.1.2), by have := hw.2; omega⟩
    · cases hw
  · have hl := bi_len hf
    simp only [Bool.and_eq_true] at hl
    have h3 := hl.2
    simp only [bi_nok, hlm] at h3
    have hw := bi_lm_w hlm
    unfold bi_ck at hw
    split at hw
    · rcases hk with rfl | rfl | rfl
      · simp only [Bool.and_eq_true, Bool.or_eq_true, Nat.blt_eq] at hw
        exact ⟨Or.inl (List.isEmpty_iff.mp hw.1.2), by have := hw.2; omega⟩
      · simp only [Bool.and_eq_true, Bool.or_eq_true, Nat.blt_eq] at hw
        exact ⟨Or.inl (List.isEmpty_iff.mp hw.1.2), by have := hw.2; omega⟩
      · simp only [Bool.and_eq_true, Bool.or_eq_true, Nat.blt_eq] at hw
        refine ⟨Or.inr ?_, by have := hw.2; omega⟩
        simp at h3
        exact h3.2
    · cases hw
  · have hw := bi_lm_w hlm
    unfold bi_ck at hw
    split at hw
    · rcases hk with rfl | rfl
      · simp only [Bool.and_eq_true, Bool.or_eq_true, Nat.blt_eq] at hw
        exact ⟨Or.inl (List.isEmpty_iff.mp hw.1.1.1.2), by have := hw.2; omega⟩
      · simp only [Bool.and_eq_true, Bool.or_eq_true, Nat.blt_eq] at hw
        exact ⟨Or.inl (List.isEmpty_iff.mp hw.1.1.1.2), by have := hw.2; omega⟩
    · cases hw
theorem bi_W9_0 {M : bi_Mem} {H : Heap} {lv : bi_Lv} {locs : List Loc} {ls : Array Slot} (P : bi_Pt D cA bs b tx j s M lv H locs ls) {M2 : bi_Mem} {H1 : Heap} {locs1 : List Loc} (h1 : bi_W9 D cA bs b tx M2 H1) (h2 : va_S (bi_A bs) s.heap H1 locs1) : bi_Pt D cA bs b tx j s M2 lv H1 locs1 ls := ⟨h1, h2, P.2.2⟩
/-- what comes out of a run: no reference; one of two exceptions -/
theorem bi_ex_res : ∀ (n d j : Nat) (q : bi_S) (o : Option Value ⊕ Nat) (M' : bi_Mem), bi_ex X n d j q = some (o, M') → (∀ E, o = .inr E → E = 100 ∨ E = 101) ∧ ∀ v, o = .inl v → ∀ ad : Nat → Nat, bi_vs ad v.toList = v.toList := by
  intro n
  induction n with
  | zero => intro d j q o M' h; simp [bi_ex] at h
  | succ n ih =>
    intro d j q o M' h
    obtain ⟨pc, lv, st, M⟩ := q
    rw [bi_ex] at h
    cases hs : bi_stp X j pc lv st M with
    | none => rw [hs] at h; simp at h
    | some r =>
      rw [hs] at h
      obtain ⟨x, r⟩ := r
      cases x with
      | false => simp at h
      | true =>
        rcases r with q' | ⟨v1, M1⟩ | ⟨E, M1⟩ | ⟨j', as, r, M1⟩
        · exact ih _ _ _ _ _ h
        · cases h
          refine ⟨fun E hE => (by cases hE), fun v hv ad => ?_⟩
          cases hv
          obtain ⟨-, ⟨_, y, -, -, rfl, -⟩ | ⟨_, y, -, -, rfl, -⟩ | ⟨_, -, rfl, -⟩⟩ := bi_stp_ret hs <;> rfl
        · cases h
          refine ⟨fun E hE => ?_, fun v hv => by cases hv⟩
          cases hE
          obtain ⟨-, _, _, _, -, -, -, -, -, -, -, hE, -⟩ := bi_stp_thr hs
          rcases hE with ⟨h1, -⟩ | ⟨h1, -⟩
          · exact Or.inl h1
          · exact Or.inr h1
        · cases d with
          | zero => simp at h
          | succ d' =>
            simp only at h
            cases hc : bi_ex X n d' j' (0, bi_ent as, [], M1) with
            | none => rw [hc] at h; simp at h
            | some z =>
              rw [hc] at h
              obtain ⟨v2 | E, M2⟩ := z
              · exact ih _ _ _ _ _ h
              · simp only at h
                cases hh : bi_hnd j pc E with
                | none => rw [hh] at h; cases h; exact ih _ _ _ _ _ hc
                | some z => rw [hh] at h; exact ih _ _ _ _ _ h
set_option maxHeartbeats 4000000 in
/-- from a point of the method to its end -/
theorem bi_body {d : Nat} (hStr : bi_StrOK D cA bs b tx X l Sx) (hSK : bi_SxK bs Sx) (hCt : ∀ d', d = d' + 1 → bi_Ct D cA bs b tx X Sx l d') (F : bi_Fx D cA bs b tx X j p s m args meth c) (G : bi_Gx bs b X Sx s s.heap) (hfr : d + 12 ≤ R.frames) (hlo : 40 * d + 200 ≤ R.locals)
    {M0 Mf : bi_Mem} {o : Option Value ⊕ Nat} (hs0 : s.heap.size ≤ bs + bi_cn M0) (hrc : bi_cn Mf - bi_cn M0 ≤ R.cells) (hrs : bi_sn Mf - bi_sn M0 ≤ R.slots) (hlaw : j = 294 → ∃ v, o = .inl v)
    (hexit : ∀ (v : Option Value) (M1 : bi_Mem) (lv : bi_Lv) (st : List Value) (pc : Nat) (H : Heap) (locs : List Loc) (ls : Array Slot), bi_stp X j pc lv st M1 = some (true, .inr (.inl (v, Mf))) → o = .inl v → bi_le M0 M1 → bi_Pt D cA bs b tx j s M1 lv H locs ls → W p l e R s m args below meth c H locs (bi_cn M1 - bi_cn M0) (bi_sn M1 - bi_sn M0) Q (F0 m pc ls (bi_vs (bi_ad bs b tx) st)))
    (hthr : ∀ (E : Nat) (M1 : bi_Mem) (lv : bi_Lv) (st : List Value) (pc : Nat) (H : Heap) (locs : List Loc) (ls : Array Slot), bi_stp X j pc lv st M1 = some (true, .inr (.inr (.inl (E, Mf)))) → o = .inr E → bi_le M0 M1 → bi_Pt D cA bs b tx j s M1 lv H locs ls → W p l e R s m args below meth c H locs (bi_cn M1 - bi_cn M0) (bi_sn M1 - bi_sn M0) Q (F0 m pc ls (bi_vs (bi_ad bs b tx) st)))
    (hout : ∀ (E pc : Nat) (H : Heap) (locs : List Loc) (ls : Array Slot) (rest : List Value) (q : Addr) (ce : Cell), o = .inr E → bi_W9 D cA bs b tx Mf H → va_S (bi_A bs) s.heap H locs → H[q]? = some ce → ce.vm = .none → s.vm.findClass (bi_xn E) = some ce.cls → vx_W p l e R s m args below meth c H locs (bi_cn Mf - bi_cn M0) (bi_sn Mf - bi_sn M0) Q (F0 m pc ls rest) q)
    (hcat : ∀ (E pc pc' k : Nat) (lv : bi_Lv) (H : Heap) (locs : List Loc) (ls : Array Slot) (rest : List Value) (q : Addr) (ce : Cell) (cells slots : Nat), bi_hnd j pc E = some (pc', k) → (E = 100 ∨ E = 101) → lv_has ls (bi_mi j).2.1 (bi_lvv (bi_ad bs b tx) lv) → H[q]? = some ce → ce.vm = .none → s.vm.findClass (bi_xn E) = some ce.cls → (∀ ls1 : Array Slot, lv_has ls1 (bi_mi j).2.1 (bi_lvv (bi_ad bs b tx) (bi_drop lv k)) → W p l e R s m args below meth c H locs cells slots Q (F0 m pc' ls1 [])) → vx_W p l e R s m args below meth c H locs cells slots Q (F0 m pc ls rest) q) :
    ∀ (n pc : Nat) (lv : bi_Lv) (st : List Value) (M : bi_Mem) (H : Heap) (locs : List Loc) (ls : Array Slot), bi_ex X n d j (pc, lv, st, M) = some (o, Mf) → bi_le M0 M → bi_Pt D cA bs b tx j s M lv H locs ls → W p l e R s m args below meth c H locs (bi_cn M - bi_cn M0) (bi_sn M - bi_sn M0) Q (F0 m pc ls (bi_vs (bi_ad bs b tx) st)) := by
  intro n
  induction n with
  | zero => intro pc lv st M H locs ls h; simp [bi_ex] at h
  | succ n ih =>
    intro pc lv st M H locs ls h hle P
    have hmo := bi_ex_mo _ _ _ _ _ _ h
    rw [bi_ex] at h
    cases hs : bi_stp X j pc lv st M with
    | none => rw [hs] at h; simp at h
    | some r =>
      rw [hs] at h
      obtain ⟨x, r⟩ := r
      have hm := bi_stp_mo hs
      cases x with
      | false => simp at h
      | true =>
        rcases r with q' | ⟨v1, M1⟩ | ⟨E, M1⟩ | ⟨j', as, r, M1⟩
        · have hmq := bi_ex_mo _ _ _ _ _ _ h
          have hm' : bi_le M q'.2.2.2 := hm
          refine bi_stepW hStr G.2.2.2.1 F P (s' := q') (fun H1 locs1 ls1 P1 => ?_) (by omega) (by omega) (by have := hle.1; show s.heap.size + (bi_cn M - bi_cn M0) ≤ _; omega) ?_ ?_ hs
          · have k := ih q'.1 q'.2.1 q'.2.2.1 q'.2.2.2 H1 locs1 ls1 h (hle.tr hm') P1
            have e1 : bi_cn M - bi_cn M0 + (bi_cn q'.2.2.2 - bi_cn M) = bi_cn q'.2.2.2 - bi_cn M0 := by have := hle.1; have := hm'.1; omega
            have e2 : bi_sn M - bi_sn M0 + (bi_sn q'.2.2.2 - bi_sn M) = bi_sn q'.2.2.2 - bi_sn M0 := by have := hle.2; have := hm'.2; omega
            rw [e1, e2]
            exact k
          · have := hle.1; have := hm'.1; have := hmq.1; omega
          · have := hle.2; have := hm'.2; have := hmq.2; omega
        · cases h
          exact hexit v1 M lv st pc H locs ls hs rfl hle P
        · cases h
          exact hthr E M lv st pc H locs ls hs rfl hle P
        · cases d with
          | zero => simp at h
          | succ d' =>
            simp only at h
            obtain ⟨hM1, hcats, hcc⟩ := bi_stp_call hs
            subst hM1
            cases hc : bi_ex X n d' j' (0, bi_ent as, [], M1) with
            | none => rw [hc] at h; simp at h
            | some z =>
              rw [hc] at h
              obtain ⟨o2, M2⟩ := z
              have hm2 : bi_le M1 M2 := bi_ex_mo _ _ _ _ _ _ hc
              obtain ⟨hh1, hjj⟩ := bi_call_hh hs
              by_cases hmath : (bi_mi j').1 = 15
              · have hj' := bi_mt (Nat.lt_succ_of_lt hjj) hmath
                rcases hcc with ⟨q, n1, hf1, hlm, -⟩ | ⟨q, n1, kd, hf1, hk, hlm, ha1, hal, hst⟩ | ⟨q, n1, kd, hf1, hk, hlm, -⟩
                · have hv := bi_vk_w hlm
                  simp only [bi_vk, Bool.and_eq_true, Nat.blt_eq] at hv
                  omega
                · have hna : bi_na j' = 2 := by rcases hj' with rfl | rfl <;> rfl
                  obtain ⟨x, y, rfl, rfl, rfl⟩ := bi_mm_ex hj' (hal.trans hna) hc
                  simp only at h
                  have k := ih (pc + 3) lv _ M2 H locs ls h hle P
                  have hl := bi_len hf1
                  simp only [Bool.and_eq_true, bi_ilk] at hl
                  have hn := Nat.eq_of_beq_eq_true hl.1.1
                  subst hn
                  have hw := bi_lm_w hlm
                  have hini : (Cond.initialized "java/lang/Math").before args s = true := by
                    have mf := bi_mfm (Nat.lt_succ_of_lt hjj)
                    unfold bi_mf at mf
                    simp only [Bool.and_eq_true] at mf
                    have h6 := bi_at9_in mf.1.1.1.2
                    rw [hmath] at h6
                    exact F.2.2.2.2.1 _ h6
                  have hcw := F.2.2.2.2.1 _ (bi_cwm hjj)
                  have hb8 := bi_cats_le (ad := bi_ad bs b tx) hcats
                  have hkd : kd = 1 := by
                    unfold bi_ck at hw
                    rcases hk with rfl | rfl | rfl
                    · rfl
                    · rcases hj' with rfl | rfl
                      · split at hw
                        · simp only [Bool.and_eq_true, decide_eq_true_eq] at hw
                          exact absurd rfl (bi_nm9 _ hw.1.1.1).1
                        · cases hw
                      · split at hw
                        · simp only [Bool.and_eq_true, decide_eq_true_eq] at hw
                          exact absurd rfl (bi_nm9 _ hw.1.1.1).2
                        · cases hw
                    · rcases hj' with rfl | rfl
                      · split at hw
                        · simp only [Bool.and_eq_true] at hw
                          exact absurd hw.1.2 (by decide)
                        · cases hw
                      · split at hw
                        · simp only [Bool.and_eq_true] at hw
                          exact absurd hw.1.2 (by decide)
                        · cases hw
                  subst hkd
                  unfold bi_ck at hw
                  split at hw
                  rotate_left
                  · cases hw
                  simp only [Bool.and_eq_true] at hw
                  have hlink := F.2.2.2.2.1 _ (bi_at9_in hw.1.1.1)
                  have hstat := F.2.2.2.2.1 _ (bi_at9_in hw.1.1.2)
                  have hst2 : bi_vs (bi_ad bs b tx) st = .int y :: .int x :: bi_vs (bi_ad bs b tx) r := by rw [hst]; rfl
                  rw [hst2]
                  have hcs : bi_cn M2 - bi_cn M0 ≤ R.cells := by have := hmo.1; have := hle.1; show bi_cn M2 - bi_cn M0 ≤ _; have : bi_cn M2 ≤ bi_cn Mf := hmo.1; omega
                  have hss : bi_sn M2 - bi_sn M0 ≤ R.slots := by have : bi_sn M2 ≤ bi_sn Mf := hmo.2; omega
                  rcases hj' with rfl | rfl
                  · rw [if_pos rfl] at k
                    exact va_mmax F.1 F.2.1 (F.2.2.1.trans P.2.2.1.symm) F.2.2.2.1 hlink hstat hini hcw (by omega) (by omega) hcs hss (bi_dec hf1) k
                  · rw [if_neg (by decide)] at k
                    exact va_mmin F.1 F.2.1 (F.2.2.1.trans P.2.2.1.symm) F.2.2.2.1 hlink hstat hini hcw (by omega) (by omega) hcs hss (bi_dec hf1) k
                · have hv := bi_vk_w hlm
                  rcases hk with rfl | rfl <;> simp only [bi_vk, Bool.and_eq_true, Nat.blt_eq] at hv <;> omega
              · have hend : bi_le M2 Mf := by
                  obtain ⟨v2 | E, rfl⟩ : ∃ z : Option Value ⊕ Nat, o2 = z := ⟨o2, rfl⟩
                  · exact bi_ex_mo _ _ _ _ _ _ h
                  · simp only at h
                    cases hh : bi_hnd j pc E with
                    | none => rw [hh] at h; cases h; exact bi_le.rf
                    | some z => rw [hh] at h; exact bi_ex_mo _ _ _ _ _ _ h
                have hoo : bi_hh j' = [] ∨ ∃ v, o2 = .inl v := by
                  rcases hh1 with hh1 | hh1
                  · exact Or.inl hh1
                  · obtain ⟨v, hv⟩ := hlaw hh1
                    cases o2 with
                    | inl v2 => exact Or.inr ⟨v2, rfl⟩
                    | inr E =>
                      exfalso
                      simp only at h
                      have : bi_hnd j pc E = none := by rw [hh1]; rfl
                      rw [this] at h
                      cases h
                      cases hv
                refine bi_W_size fun hsz => ?_
                have hHs : H.size ≤ bs + bi_cn M1 := by have := hle.1; omega
                have e1 : bi_cn M1 - bi_cn M0 + (bi_cn M2 - bi_cn M1) = bi_cn M2 - bi_cn M0 := by have := hle.1; have := hm2.1; omega
                have e2 : bi_sn M1 - bi_sn M0 + (bi_sn M2 - bi_sn M1) = bi_sn M2 - bi_sn M0 := by have := hle.2; have := hm2.2; omega
                refine bi_callK (bi_run_call (hCt d' rfl) hSK F G P hHs hs hc hmath hoo (by omega) (by omega) ⟨by rw [e1]; have := hend.1; omega, by rw [e2]; have := hend.2; omega⟩) P.2.1 (fun v H1 locs1 ho hw hS1 => ?_) (fun E H1 locs1 q ce ho hw hS1 hce hcv hcl => ?_)
                · subst ho
                  simp only at h
                  rw [e1, e2]
                  have k := ih (pc + 3) lv (v.toList ++ r) M2 H1 locs1 ls h (hle.tr hm2) (bi_W9_0 P hw hS1)
                  have ev : bi_vs (bi_ad bs b tx) (v.toList ++ r) = v.toList ++ bi_vs (bi_ad bs b tx) r := by
                    rw [bi_vs_app, (bi_ex_res _ _ _ _ _ _ hc).2 v rfl]
                  rw [ev] at k
                  exact k
                · subst ho
                  simp only at h
                  rw [e1, e2]
                  cases hh : bi_hnd j pc E with
                  | none =>
                    rw [hh] at h
                    cases h
                    exact hout E pc H1 locs1 ls _ q ce rfl hw hS1 hce hcv hcl
                  | some z =>
                    rw [hh] at h
                    refine hcat E pc z.1 z.2 lv H1 locs1 ls _ q ce _ _ hh ((bi_ex_res _ _ _ _ _ _ hc).1 E rfl) P.2.2 hce hcv hcl (fun ls1 hl1 => ?_)
                    exact ih z.1 _ [] M2 H1 locs1 ls1 h (hle.tr hm2) ⟨hw, hS1, hl1⟩
end BODY
