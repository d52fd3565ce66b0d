/-! ===== arrays, constants, new cells ===== -/
section ARR
variable {D : va_G} {cA : Nat → ClassId} {bs b : Nat} {tx : Nat → Nat} {X : bi_X} {j : Nat} {p : Program} {l : Launch} {e : Env} {R : Room} {s : State} {m : MethodId} {args : Array Value} {below : List Frame} {meth : Method} {c : Code} {Q : State → Prop}
variable {M : bi_Mem} {lv : bi_Lv} {st : List Value} {pc : Nat} {H : Heap} {locs : List Loc} {ls : Array Slot} {cells slots : Nat} {s' : bi_S}
theorem bi_s_iaload  (F : bi_Fx D cA bs b tx X j p s m args meth c) (P : bi_Pt D cA bs b tx j s M lv H locs ls) (k : bi_Kt D cA bs b tx j p l e R s m args below meth c Q cells slots M s') (hdg : decode (bi_mc j) pc = .ok (.iaload, 1))  (h : bi_iald X (pc + 1) lv st M = some (true, .inl s')) : W p l e R s m args below meth c H locs cells slots Q (F0 m pc ls (bi_vs (bi_ad bs b tx) st)) := by
  unfold bi_iald at h
  split at h
  · rename_i i a r
    cases hb : Nat.beq a 4999 with
    | true =>
      rw [hb] at h
      simp only [cond_true] at h
      unfold bi_nxc at h
      have h1 := (Prod.mk.inj (Option.some.inj h)).1
      have h2 := (Prod.mk.inj (Option.some.inj h)).2
      cases h2
      have ea := Nat.eq_of_beq_eq_true hb
      subst ea
      obtain ⟨hX, hb1, hb2⟩ := F.2.2.2.2.2.2.2
      exact va_sld F.1 F.2.1 hX (Nat.lt_of_lt_of_le hb1 hb2) (fun z : bs ≤ b => absurd z (Nat.not_le.mpr hb1)) P.2.1 (bi_in_iff.mp h1) hdg (k.same rfl rfl rfl P)
    | false =>
      rw [hb] at h
      simp only [cond_false] at h
      unfold bi_nxc at h
      have h1 := (Prod.mk.inj (Option.some.inj h)).1
      have h2 := (Prod.mk.inj (Option.some.inj h)).2
      cases h2
      simp only [Bool.and_eq_true] at h1
      have hk := bi_kd_beq h1.1
      obtain ⟨q1, q2⟩ := P.1.at hk (by decide)
      show W p l e R s m args below meth c H locs cells slots Q (F0 m pc ls (.int i :: .ref (bi_ad bs b tx a) :: bi_vs (bi_ad bs b tx) r))
      rw [q2]
      exact va_iald F.1 F.2.1 F.2.2.2.2.2.2.1.1 P.1.1 a 1 (bi_arrI hk (Or.inr (Or.inl rfl))) rfl (bi_in_iff.mp h1.2) hdg (k.same rfl rfl rfl P)
  · cases h
theorem bi_s_baload  (F : bi_Fx D cA bs b tx X j p s m args meth c) (P : bi_Pt D cA bs b tx j s M lv H locs ls) (k : bi_Kt D cA bs b tx j p l e R s m args below meth c Q cells slots M s') (hdg : decode (bi_mc j) pc = .ok (.baload, 1))  (h : bi_bald (pc + 1) lv st M = some (true, .inl s')) : W p l e R s m args below meth c H locs cells slots Q (F0 m pc ls (bi_vs (bi_ad bs b tx) st)) := by
  unfold bi_bald at h
  split at h
  · rename_i i a r
    unfold bi_nxc at h
    have h1 := (Prod.mk.inj (Option.some.inj h)).1
    have h2 := (Prod.mk.inj (Option.some.inj h)).2
    cases h2
    simp only [Bool.and_eq_true, Bool.or_eq_true] at h1
    rcases h1 with ⟨hq | hq, hi⟩
    · have hk := bi_kd_beq hq
      obtain ⟨q1, q2⟩ := P.1.at hk (by decide)
      show W p l e R s m args below meth c H locs cells slots Q (F0 m pc ls (.int i :: .ref (bi_ad bs b tx a) :: bi_vs (bi_ad bs b tx) r))
      rw [q2]
      exact va_bald F.1 F.2.1 F.2.2.2.2.2.2.1.1 P.1.1 a 0 (bi_arrI hk (Or.inl rfl)) rfl (bi_in_iff.mp hi) hdg (k.same rfl rfl rfl P)
    · have hk := bi_kd_beq hq
      obtain ⟨q1, q2⟩ := P.1.at hk (by decide)
      show W p l e R s m args below meth c H locs cells slots Q (F0 m pc ls (.int i :: .ref (bi_ad bs b tx a) :: bi_vs (bi_ad bs b tx) r))
      rw [q2]
      exact va_zald F.1 F.2.1 F.2.2.2.2.2.2.1.1 P.1.1 a 2 (bi_arrI hk (Or.inr (Or.inr rfl))) rfl (bi_in_iff.mp hi) hdg (k.same rfl rfl rfl P)
  · cases h
theorem bi_s_laload  (F : bi_Fx D cA bs b tx X j p s m args meth c) (P : bi_Pt D cA bs b tx j s M lv H locs ls) (k : bi_Kt D cA bs b tx j p l e R s m args below meth c Q cells slots M s') (hdg : decode (bi_mc j) pc = .ok (.laload, 1))  (h : bi_lald (pc + 1) lv st M = some (true, .inl s')) : W p l e R s m args below meth c H locs cells slots Q (F0 m pc ls (bi_vs (bi_ad bs b tx) st)) := by
  unfold bi_lald at h
  split at h
  · rename_i i a r
    unfold bi_nxc at h
    have h1 := (Prod.mk.inj (Option.some.inj h)).1
    have h2 := (Prod.mk.inj (Option.some.inj h)).2
    cases h2
    simp only [Bool.and_eq_true] at h1
    have hk := bi_kd_beq h1.1
    obtain ⟨q1, q2⟩ := P.1.at hk (by decide)
    show W p l e R s m args below meth c H locs cells slots Q (F0 m pc ls (.int i :: .ref (bi_ad bs b tx a) :: bi_vs (bi_ad bs b tx) r))
    rw [q2]
    exact va_lald F.1 F.2.1 F.2.2.2.2.2.2.1.1 P.1.1 a 4 (bi_arrL hk) rfl (bi_in_iff.mp h1.2) hdg (k.same rfl rfl rfl P)
  · cases h
theorem bi_s_aaload  (F : bi_Fx D cA bs b tx X j p s m args meth c) (P : bi_Pt D cA bs b tx j s M lv H locs ls) (k : bi_Kt D cA bs b tx j p l e R s m args below meth c Q cells slots M s') (hdg : decode (bi_mc j) pc = .ok (.aaload, 1))  (h : bi_aald (pc + 1) lv st M = some (true, .inl s')) : W p l e R s m args below meth c H locs cells slots Q (F0 m pc ls (bi_vs (bi_ad bs b tx) st)) := by
  unfold bi_aald at h
  split at h
  · rename_i i a r
    unfold bi_nxc at h
    have h1 := (Prod.mk.inj (Option.some.inj h)).1
    have h2 := (Prod.mk.inj (Option.some.inj h)).2
    cases h2
    simp only [Bool.and_eq_true] at h1
    have hk := bi_kd_beq h1.1.1
    obtain ⟨q1, q2⟩ := P.1.at hk (by decide)
    obtain ⟨z, hz⟩ := Option.isSome_iff_exists.mp h1.2
    show W p l e R s m args below meth c H locs cells slots Q (F0 m pc ls (.int i :: .ref (bi_ad bs b tx a) :: bi_vs (bi_ad bs b tx) r))
    rw [q2]
    refine va_aldq F.1 F.2.1 F.2.2.2.2.2.2.1.1 P.1.1 a 3 (bi_arrP hk) rfl (bi_in_iff.mp h1.1.2) hdg ?_
    have kk := k.same rfl rfl rfl P
    rw [hz] at kk ⊢
    exact kk
  · cases h
theorem bi_el_I {ad : Nat → Nat} {a q n : Nat} (hk : bi_kd M a = (q, n)) (hc : q = 13 ∨ q = 14 ∨ q = 15) : bi_el ad cA M a (bi_kd M a) = .inl (cA q, n, .inl (bi_I M a)) := by
  rw [hk]; rcases hc with rfl | rfl | rfl <;> rfl
theorem bi_s_iastore  (F : bi_Fx D cA bs b tx X j p s m args meth c) (P : bi_Pt D cA bs b tx j s M lv H locs ls) (k : bi_Kt D cA bs b tx j p l e R s m args below meth c Q cells slots M s') (hdg : decode (bi_mc j) pc = .ok (.iastore, 1))  (h : bi_iast (pc + 1) lv st M = some (true, .inl s')) : W p l e R s m args below meth c H locs cells slots Q (F0 m pc ls (bi_vs (bi_ad bs b tx) st)) := by
  unfold bi_iast at h
  split at h
  · rename_i x i a r
    unfold bi_nxc at h
    have h1 := (Prod.mk.inj (Option.some.inj h)).1
    have h2 := (Prod.mk.inj (Option.some.inj h)).2
    cases h2
    simp only [Bool.and_eq_true] at h1
    have hk := bi_kd_beq h1.1
    obtain ⟨q1, q2⟩ := P.1.at hk (by decide)
    show W p l e R s m args below meth c H locs cells slots Q (F0 m pc ls (.int x :: .int i :: .ref (bi_ad bs b tx a) :: bi_vs (bi_ad bs b tx) r))
    rw [q2]
    refine va_iast F.1 F.2.1 F.2.2.2.2.2.2.1.1 P.1.1 bi_wl_D (bi_S_rf P.2.1) a 1 (bi_arrI hk (Or.inr (Or.inl rfl))) rfl (bi_in_iff.mp h1.2) hdg (k.put P rfl rfl ?_ (fun z hz => ⟨bi_up_ne hz, rfl, rfl⟩))
    show _ = bi_el (bi_ad bs b tx) cA _ a (bi_kd M a)
    rw [hk]
    show _ = (Sum.inl (cA 14, (bi_kd M a).2, .inl (bi_up (bi_I M) a i.toNatClampNeg x a)) : va_E)
    rw [bi_up_eq]
    rfl
  · cases h
theorem bi_s_lastore  (F : bi_Fx D cA bs b tx X j p s m args meth c) (P : bi_Pt D cA bs b tx j s M lv H locs ls) (k : bi_Kt D cA bs b tx j p l e R s m args below meth c Q cells slots M s') (hdg : decode (bi_mc j) pc = .ok (.lastore, 1))  (h : bi_last (pc + 1) lv st M = some (true, .inl s')) : W p l e R s m args below meth c H locs cells slots Q (F0 m pc ls (bi_vs (bi_ad bs b tx) st)) := by
  unfold bi_last at h
  split at h
  · rename_i x i a r
    unfold bi_nxc at h
    have h1 := (Prod.mk.inj (Option.some.inj h)).1
    have h2 := (Prod.mk.inj (Option.some.inj h)).2
    cases h2
    simp only [Bool.and_eq_true] at h1
    have hk := bi_kd_beq h1.1
    obtain ⟨q1, q2⟩ := P.1.at hk (by decide)
    show W p l e R s m args below meth c H locs cells slots Q (F0 m pc ls (.long x :: .int i :: .ref (bi_ad bs b tx a) :: bi_vs (bi_ad bs b tx) r))
    rw [q2]
    refine va_last F.1 F.2.1 F.2.2.2.2.2.2.1.1 P.1.1 bi_wl_D (bi_S_rf P.2.1) a 4 (bi_arrL hk) rfl (bi_in_iff.mp h1.2) hdg (k.put P rfl rfl ?_ (fun z hz => ⟨rfl, bi_up_ne hz, rfl⟩))
    show _ = bi_el (bi_ad bs b tx) cA _ a (bi_kd M a)
    rw [hk]
    show _ = (Sum.inl (cA 17, (bi_kd M a).2, .inr (.inl (bi_up (bi_L M) a i.toNatClampNeg x a))) : va_E)
    rw [bi_up_eq]
    rfl
  · cases h
theorem bi_s_bastore  (F : bi_Fx D cA bs b tx X j p s m args meth c) (P : bi_Pt D cA bs b tx j s M lv H locs ls) (k : bi_Kt D cA bs b tx j p l e R s m args below meth c Q cells slots M s') (hdg : decode (bi_mc j) pc = .ok (.bastore, 1))  (h : bi_bast (pc + 1) lv st M = some (true, .inl s')) : W p l e R s m args below meth c H locs cells slots Q (F0 m pc ls (bi_vs (bi_ad bs b tx) st)) := by
  unfold bi_bast at h
  split at h
  · rename_i x i a r
    unfold bi_nxc at h
    have h1 := (Prod.mk.inj (Option.some.inj h)).1
    have h2 := (Prod.mk.inj (Option.some.inj h)).2
    cases h2
    simp only [Bool.and_eq_true, Bool.or_eq_true] at h1
    rcases h1 with ⟨hq | hq, hi⟩
    · skip
      have hk := bi_kd_beq hq
      obtain ⟨q1, q2⟩ := P.1.at hk (by decide)
      show W p l e R s m args below meth c H locs cells slots Q (F0 m pc ls (.int x :: .int i :: .ref (bi_ad bs b tx a) :: bi_vs (bi_ad bs b tx) r))
      rw [q2]
      refine va_bast F.1 F.2.1 F.2.2.2.2.2.2.1.1 P.1.1 bi_wl_D (bi_S_rf P.2.1) a 0 (bi_arrI hk (Or.inl rfl)) rfl (bi_in_iff.mp hi) hdg (k.put P rfl rfl ?_ (fun z hz => ⟨bi_up_ne hz, rfl, rfl⟩))
      show _ = bi_el (bi_ad bs b tx) cA _ a (bi_kd M a)
      have hq1 := Nat.eq_of_beq_eq_true hq
      rw [hq1]
      rw [hk]
      show _ = (Sum.inl (cA 13, (bi_kd M a).2, .inl (bi_up (bi_I M) a i.toNatClampNeg (bi_nar 13 x) a)) : va_E)
      rw [bi_up_eq]
      rfl
    · skip
      have hk := bi_kd_beq hq
      obtain ⟨q1, q2⟩ := P.1.at hk (by decide)
      show W p l e R s m args below meth c H locs cells slots Q (F0 m pc ls (.int x :: .int i :: .ref (bi_ad bs b tx a) :: bi_vs (bi_ad bs b tx) r))
      rw [q2]
      refine va_zast F.1 F.2.1 F.2.2.2.2.2.2.1.1 P.1.1 bi_wl_D (bi_S_rf P.2.1) a 2 (bi_arrI hk (Or.inr (Or.inr rfl))) rfl (bi_in_iff.mp hi) hdg (k.put P rfl rfl ?_ (fun z hz => ⟨bi_up_ne hz, rfl, rfl⟩))
      show _ = bi_el (bi_ad bs b tx) cA _ a (bi_kd M a)
      have hq1 := Nat.eq_of_beq_eq_true hq
      rw [hq1]
      rw [hk]
      show _ = (Sum.inl (cA 15, (bi_kd M a).2, .inl (bi_up (bi_I M) a i.toNatClampNeg (bi_nar 15 x) a)) : va_E)
      rw [bi_up_eq]
      rfl
  · cases h
theorem bi_s_aastore  (F : bi_Fx D cA bs b tx X j p s m args meth c) (P : bi_Pt D cA bs b tx j s M lv H locs ls) (k : bi_Kt D cA bs b tx j p l e R s m args below meth c Q cells slots M s') (hdg : decode (bi_mc j) pc = .ok (.aastore, 1))  (h : bi_aast (pc + 1) lv st M = some (true, .inl s')) : W p l e R s m args below meth c H locs cells slots Q (F0 m pc ls (bi_vs (bi_ad bs b tx) st)) := by
  unfold bi_aast at h
  split at h
  · rename_i x i a r
    unfold bi_nxc at h
    have h1 := (Prod.mk.inj (Option.some.inj h)).1
    have h2 := (Prod.mk.inj (Option.some.inj h)).2
    cases h2
    simp only [Bool.and_eq_true] at h1
    have hk := bi_kd_beq h1.1.1
    have hk7 := bi_kd_beq h1.2
    obtain ⟨q1, q2⟩ := P.1.at hk (by decide)
    obtain ⟨q3, q4⟩ := P.1.at hk7 (by decide)
    show W p l e R s m args below meth c H locs cells slots Q (F0 m pc ls (.ref (bi_ad bs b tx x) :: .int i :: .ref (bi_ad bs b tx a) :: bi_vs (bi_ad bs b tx) r))
    rw [q2, q4]
    refine va_astq (r := (RX7, TX7, 9)) F.1 F.2.1 F.2.2.2.2.2.2.1.1 P.1.1 bi_wl_D (bi_S_rf P.2.1) a 3 x 7 (bi_arrP hk) rfl (bi_obj hk7 (by decide)) rfl (bi_in_iff.mp h1.1.2) hdg (k.put P rfl rfl ?_ (fun z hz => ⟨rfl, rfl, bi_up_ne hz⟩))
    show _ = bi_el (bi_ad bs b tx) cA _ a (bi_kd M a)
    rw [hk]
    show _ = (Sum.inl (cA 16, (bi_kd M a).2, .inr (.inr (.inr (.inr (fun z => (bi_up (bi_P M) a i.toNatClampNeg (some x) a z).map (bi_ad bs b tx)))))) : va_E)
    rw [bi_up_eq]
    congr 7
    funext z
    by_cases hz : z = i.toNatClampNeg
    · simp [va_up, hz, q4]
    · simp [va_up, hz]
  · cases h
theorem bi_s_arraylength  (F : bi_Fx D cA bs b tx X j p s m args meth c) (P : bi_Pt D cA bs b tx j s M lv H locs ls) (k : bi_Kt D cA bs b tx j p l e R s m args below meth c Q cells slots M s') (hdg : decode (bi_mc j) pc = .ok (.arraylength, 1))  (h : bi_alen X (pc + 1) lv st M = some (true, .inl s')) : W p l e R s m args below meth c H locs cells slots Q (F0 m pc ls (bi_vs (bi_ad bs b tx) st)) := by
  unfold bi_alen at h
  split at h
  · rename_i a r
    cases hb : Nat.beq a 4999 with
    | true =>
      rw [hb] at h
      simp only [cond_true] at h
      cases h
      have ea := Nat.eq_of_beq_eq_true hb
      subst ea
      obtain ⟨hX, hb1, hb2⟩ := F.2.2.2.2.2.2.2
      exact va_slen F.1 F.2.1 hX (Nat.lt_of_lt_of_le hb1 hb2) (fun z : bs ≤ b => absurd z (Nat.not_le.mpr hb1)) P.2.1 hdg (k.same rfl rfl rfl P)
    | false =>
      rw [hb] at h
      simp only [cond_false] at h
      unfold bi_nxc at h
      have h1 := (Prod.mk.inj (Option.some.inj h)).1
      have h2 := (Prod.mk.inj (Option.some.inj h)).2
      cases h2
      simp only [Bool.and_eq_true, Nat.blt_eq] at h1
      have hk : bi_kd M a = ((bi_kd M a).1, (bi_kd M a).2) := rfl
      obtain ⟨q1, q2⟩ := P.1.at hk (by omega)
      show W p l e R s m args below meth c H locs cells slots Q (F0 m pc ls (.ref (bi_ad bs b tx a) :: bi_vs (bi_ad bs b tx) r))
      rw [q2]
      have kk := k.same rfl rfl rfl P
      have hc : (bi_kd M a).1 = 13 ∨ (bi_kd M a).1 = 14 ∨ (bi_kd M a).1 = 15 ∨ (bi_kd M a).1 = 16 ∨ (bi_kd M a).1 = 17 := by omega
      rcases hc with hc | hc | hc | hc | hc <;> rw [hc] at hk
      · exact va_alen F.1 F.2.1 F.2.2.2.2.2.2.1.1 P.1.1 a 0 (bi_arrI hk (Or.inl rfl)) (ty := .byte) rfl rfl hdg kk
      · exact va_alen F.1 F.2.1 F.2.2.2.2.2.2.1.1 P.1.1 a 1 (bi_arrI hk (Or.inr (Or.inl rfl))) (ty := .int) rfl rfl hdg kk
      · exact va_alen F.1 F.2.1 F.2.2.2.2.2.2.1.1 P.1.1 a 2 (bi_arrI hk (Or.inr (Or.inr rfl))) (ty := .boolean) rfl rfl hdg kk
      · exact va_alen F.1 F.2.1 F.2.2.2.2.2.2.1.1 P.1.1 a 3 (bi_arrP hk) (ty := .object RX7) rfl rfl hdg kk
      · exact va_alen F.1 F.2.1 F.2.2.2.2.2.2.1.1 P.1.1 a 4 (bi_arrL hk) (ty := .long) rfl rfl hdg kk
  · cases h
theorem bi_kw {o q : Nat} {v : Value} (h : bi_lq o q = some v) : bi_kk o (q, v) = true := by
  have ho : o < 16 := by
    rcases Nat.lt_or_ge o 16 with h1 | h1
    · exact h1
    · unfold bi_lq at h
      rw [List.getD_eq_getElem?_getD, List.getElem?_eq_none (show bi_KL.length ≤ o from h1)] at h
      cases h
  exact List.all_eq_true.mp (List.all_eq_true.mp bi_kk_ck o (List.mem_range.mpr ho)) _ (bi_lkm h)
theorem bi_kwI {o q : Nat} {v : Int32} (h : bi_lq o q = some (.int v)) : Cond.constant (bi_ow o) q v ∈ bi_T9 := by
  have h1 := bi_kw h
  unfold bi_kk at h1
  split at h1
  · rename_i e; cases e; exact bi_at9_in h1
  · rename_i e; cases e
  · rename_i e; cases e
  · cases h1
theorem bi_kwL {o q : Nat} {v : Int64} (h : bi_lq o q = some (.long v)) : Cond.constantLong (bi_ow o) q v ∈ bi_T9 := by
  have h1 := bi_kw h
  unfold bi_kk at h1
  split at h1
  · rename_i e; cases e
  · rename_i e; cases e; exact bi_at9_in h1
  · rename_i e; cases e
  · cases h1
theorem bi_kwR {o i a : Nat} (h : bi_lq o i = some (.ref a)) : ∃ (q : Nat) (t : String), a = q + 5000 ∧ bi_tn[q]? = some (bi_ow o, i, t) := by
  have h1 := bi_kw h
  unfold bi_kk at h1
  split at h1
  · rename_i e; cases e
  · rename_i e; cases e
  · rename_i e; cases e
    simp only [Bool.and_eq_true, decide_eq_true_eq] at h1
    have h9 := h1.1.1.1
    rw [Nat.ble_eq] at h9
    have h8 := h1.1.2
    generalize hq : a - 5000 = q at h8
    exact ⟨q, _, by omega, h8⟩
  · cases h1
theorem bi_s_ldc {q : Nat} (F : bi_Fx D cA bs b tx X j p s m args meth c) (P : bi_Pt D cA bs b tx j s M lv H locs ls) (k : bi_Kt D cA bs b tx j p l e R s m args below meth c Q cells slots M s') (hdg : decode (bi_mc j) pc = .ok (.ldc q, 2)) (hko : bi_kok j (.ldc q) = true) (h : bi_ldc (bi_mi j).1 q (pc + 2) lv st M = some (true, .inl s')) : W p l e R s m args below meth c H locs cells slots Q (F0 m pc ls (bi_vs (bi_ad bs b tx) st)) := by
  unfold bi_ldc at h
  split at h
  · rename_i v hv
    cases h
    unfold bi_kok at hko
    simp only at hko
    rw [hv] at hko
    cases v with
    | int x => exact lv_ldc F.1 F.2.1 F.2.2.2.1 (F.2.2.2.2.1 _ (bi_kwI hv)) hdg (k.same rfl rfl rfl P)
    | ref a =>
      obtain ⟨z, t, ea, w2⟩ := bi_kwR hv
      have hZ : vk_R (bi_ow (bi_mi j).1) q t (tx z) s := F.2.2.2.2.2.2.1.2.2.1 z (bi_ow (bi_mi j).1, q, t) w2
      have kk := k.same rfl rfl rfl P
      have e1 : bi_vs (bi_ad bs b tx) (.ref a :: st) = .ref (tx z) :: bi_vs (bi_ad bs b tx) st := by
        show Value.ref (bi_ad bs b tx a) :: _ = _
        have e : ∀ n : Nat, n = z + 5000 → bi_ad bs b tx n = tx z := by
          intro n hn
          have e2 : n - 5000 = z := by omega
          unfold bi_ad
          rw [if_neg (by omega), if_neg (by omega), e2]
        rw [e a ea]
        rfl
      rw [e1] at kk
      exact va_ldcS F.1 F.2.1 F.2.2.2.1 hZ hdg kk
    | _ => simp at hko
  · cases h
theorem bi_s_ldc_w {q : Nat} (F : bi_Fx D cA bs b tx X j p s m args meth c) (P : bi_Pt D cA bs b tx j s M lv H locs ls) (k : bi_Kt D cA bs b tx j p l e R s m args below meth c Q cells slots M s') (hdg : decode (bi_mc j) pc = .ok (.ldc_w q, 3)) (hko : bi_kok j (.ldc_w q) = true) (h : bi_ldc (bi_mi j).1 q (pc + 3) lv st M = some (true, .inl s')) : W p l e R s m args below meth c H locs cells slots Q (F0 m pc ls (bi_vs (bi_ad bs b tx) st)) := by
  unfold bi_ldc at h
  split at h
  · rename_i v hv
    cases h
    unfold bi_kok at hko
    simp only at hko
    rw [hv] at hko
    cases v with
    | int x => exact lv_ldcw F.1 F.2.1 F.2.2.2.1 (F.2.2.2.2.1 _ (bi_kwI hv)) hdg (k.same rfl rfl rfl P)
    | _ => simp at hko
  · cases h
theorem bi_s_ldc2_w {q : Nat} (F : bi_Fx D cA bs b tx X j p s m args meth c) (P : bi_Pt D cA bs b tx j s M lv H locs ls) (k : bi_Kt D cA bs b tx j p l e R s m args below meth c Q cells slots M s') (hdg : decode (bi_mc j) pc = .ok (.ldc2_w q, 3)) (hko : bi_kok j (.ldc2_w q) = true) (h : bi_ldc (bi_mi j).1 q (pc + 3) lv st M = some (true, .inl s')) : W p l e R s m args below meth c H locs cells slots Q (F0 m pc ls (bi_vs (bi_ad bs b tx) st)) := by
  unfold bi_ldc at h
  split at h
  · rename_i v hv
    cases h
    unfold bi_kok at hko
    simp only at hko
    rw [hv] at hko
    cases v with
    | long x => exact lv_ldc2 F.1 F.2.1 F.2.2.2.1 (F.2.2.2.2.1 _ (bi_kwL hv)) hdg (k.same rfl rfl rfl P)
    | _ => simp at hko
  · cases h
/-- one cell more -/
theorem bi_clr_ne {α : Type} {f : Nat → Nat → α} {a z : Nat} {v : α} (h : z ≠ a) : bi_clr f a v z = f z := by unfold bi_clr; rw [if_neg h]
theorem bi_clr_eq {α : Type} {f : Nat → Nat → α} {a : Nat} {v : α} : bi_clr f a v a = fun _ => v := by unfold bi_clr; rw [if_pos rfl]
theorem bi_kd_mk {q : Nat × Nat} {a : Nat} (h : a < M.1.length) : bi_kd (bi_mk M q) a = bi_kd M a := by
  unfold bi_kd
  show (M.1 ++ [q]).getD a _ = _
  rw [List.getD_eq_getElem?_getD, List.getElem?_append_left h, List.getD_eq_getElem?_getD]
theorem bi_kd_mk2 {q : Nat × Nat} : bi_kd (bi_mk M q) M.1.length = q := by
  unfold bi_kd
  show (M.1 ++ [q]).getD _ _ = _
  rw [List.getD_eq_getElem?_getD, List.getElem?_append_right (Nat.le_refl _), Nat.sub_self]
  rfl
theorem bi_wl_mk {ad : Nat → Nat} {q : Nat × Nat} : bi_wl ad cA bs (bi_mk M q) = bi_wl ad cA bs M ++ [(bs + M.1.length, bi_el ad cA (bi_mk M q) M.1.length q)] := by
  unfold bi_wl
  have hl : (bi_mk M q).1.length = M.1.length + 1 := by show (M.1 ++ [q]).length = _; simp
  rw [hl, List.range_succ, List.map_append]
  congr 1
  · apply List.map_congr_left
    intro a ha
    have ha := List.mem_range.mp ha
    have hne : a ≠ M.1.length := by omega
    rw [bi_kd_mk ha]
    have e1 : bi_I (bi_mk M q) a = bi_I M a := bi_clr_ne hne
    have e2 : bi_L (bi_mk M q) a = bi_L M a := bi_clr_ne hne
    have e3 : bi_P (bi_mk M q) a = bi_P M a := bi_clr_ne hne
    have e4 : ∀ z, bi_fv ad (bi_mk M q) a z = bi_fv ad M a z := by
      intro z; funext w; unfold bi_fv; rw [e1, e2, e3]
    unfold bi_el
    rw [e1, e2, e3, e4]
  · simp only [List.map_cons, List.map_nil]
    rw [bi_kd_mk2]
theorem bi_ok_mk {q : Nat × Nat} (h : bi_ok M) (hl : M.1.length < 4999) (hq : (q.1 < 13 ∧ q.2 = bi_nf q.1) ∨ (13 ≤ q.1 ∧ q.1 < 18)) : bi_ok (bi_mk M q) := by
  obtain ⟨h1, h2, h3⟩ := h
  have hln : (bi_mk M q).1.length = M.1.length + 1 := by show (M.1 ++ [q]).length = _; simp
  refine ⟨fun a ha => ?_, by omega, ?_⟩
  · rw [hln] at ha
    rcases Nat.lt_or_ge a M.1.length with z | z
    · rw [bi_kd_mk z]; exact h1 a z
    · have : a = M.1.length := by omega
      subst this
      rw [bi_kd_mk2]; exact hq
  · rw [hln]
    show M.1.length + 1 ≤ M.2.1.1 + 1
    omega
theorem bi_W_size {g : JFrame} (h : H.size ≤ s.heap.size + cells → W p l e R s m args below meth c H locs cells slots Q g) : W p l e R s m args below meth c H locs cells slots Q g := fun T hT X => h (by rw [← hT]; exact X.heapSize) T hT X
/-- behind a new cell -/
theorem bi_Kt.mk {q : Nat × Nat} {pc' : Nat} {st' : List Value} (k : bi_Kt D cA bs b tx j p l e R s m args below meth c Q cells slots M (pc', lv, st', bi_mk M q)) (P : bi_Pt D cA bs b tx j s M lv H locs ls) (hl : M.1.length < 4999) (hq : (q.1 < 13 ∧ q.2 = bi_nf q.1) ∨ (13 ≤ q.1 ∧ q.1 < 18)) {H1 : Heap} (hz : H.size = bs + M.1.length) (h1 : va_at D vwCl (bs + M.1.length, bi_el (bi_ad bs b tx) cA (bi_mk M q) M.1.length q) H1) (h2 : H1.size = H.size + 1) (h3 : ∀ z, z < H.size → H1[z]? = H[z]?) :
    W p l e R s m args below meth c H1 locs (cells + 1) (slots + q.2) Q (F0 m pc' ls (bi_vs (bi_ad bs b tx) st')) := by
  obtain ⟨⟨p1, p2, p3⟩, hS, hlv⟩ := P
  have e1 : bi_cn (bi_mk M q) - bi_cn M = 1 := by show M.2.1.1 + 1 - M.2.1.1 = 1; omega
  have e2 : bi_sn (bi_mk M q) - bi_sn M = q.2 := by show M.2.1.2 + q.2 - M.2.1.2 = q.2; omega
  have hln : (bi_mk M q).1.length = M.1.length + 1 := by show (M.1 ++ [q]).length = _; simp
  have kk := k H1 locs ls ⟨⟨?_, ?_, bi_ok_mk p3 hl hq⟩, ⟨Nat.le_trans hS.1 (by omega), fun z g1 g2 => (h3 z (Nat.lt_of_lt_of_le g1 hS.1)).trans (hS.2.1 z g1 g2), hS.2.2⟩, hlv⟩
  · simp only [e1, e2] at kk
    exact kk
  · rw [bi_wl_mk]
    refine va_P.app (p1.kept fun z x hx => h3 x.1 ((p1 z x hx).lt)) (fun z x hx => ?_)
    have hz0 : z < 1 := (List.getElem?_eq_some_iff.mp hx).1
    rw [show z = 0 by omega] at hx
    cases hx
    exact h1
  · intro _
    rw [hln]
    omega
theorem bi_defl {cc : Nat} (hc : cc < 13) {ad : Nat → Nat} {M' : bi_Mem} {a : Nat} (h1 : bi_I M' a = fun _ => 0) (h2 : bi_L M' a = fun _ => 0) (h3 : bi_P M' a = fun _ => none) : ∀ z, z < bi_nf cc → defaultValue (bi_ty cc z) = vp_V ((List.range (bi_nf cc)).map (bi_fv ad M' a cc)) z := by
  intro z hz
  have tk := bi_tk_of hc hz
  unfold bi_tk at tk
  simp only [Bool.and_eq_true, decide_eq_true_eq] at tk
  have ty := tk.1.1
  have e : vp_V ((List.range (bi_nf cc)).map (bi_fv ad M' a cc)) z = bi_fv ad M' a cc z := by
    simp [vp_V, List.getElem?_range hz, hz]
  rw [e]
  unfold bi_fv
  rw [h1, h2, h3]
  revert ty
  cases bi_ty cc z <;> split <;> simp_all [defaultValue, va_rf]
theorem bi_s_new {q : Nat} (F : bi_Fx D cA bs b tx X j p s m args meth c) (P : bi_Pt D cA bs b tx j s M lv H locs ls) (k : bi_Kt D cA bs b tx j p l e R s m args below meth c Q cells slots M s') (hdg : decode (bi_mc j) pc = .ok (.new q, 3)) (hsz : s.heap.size + cells ≤ bs + bi_cn M) (hrc : cells + (bi_cn s'.2.2.2 - bi_cn M) ≤ R.cells) (hrs : slots + (bi_sn s'.2.2.2 - bi_sn M) ≤ R.slots) (h : bi_new j (bi_mi j).1 q pc lv st M = some (true, .inl s')) : W p l e R s m args below meth c H locs cells slots Q (F0 m pc ls (bi_vs (bi_ad bs b tx) st)) := by
  unfold bi_new at h
  split at h
  · rename_i c0 hlc
    cases hb : Nat.blt c0 13 with
    | false =>
      rw [hb] at h
      simp only [cond_false] at h
      split at h <;> simp at h
    | true =>
      rw [hb] at h
      simp only [cond_true] at h
      have hc : c0 < 13 := by rw [Nat.blt_eq] at hb; exact hb
      unfold bi_new1 at h
      unfold bi_nxc at h
      have h1 := (Prod.mk.inj (Option.some.inj h)).1
      have h2 := (Prod.mk.inj (Option.some.inj h)).2
      cases h2
      simp only [Bool.and_eq_true, Nat.blt_eq] at h1
      have hcn : M.2.1.1 = M.1.length := Nat.eq_of_beq_eq_true h1.1
      obtain ⟨w1, w2, w3⟩ := bi_lc_w hlc hc
      obtain ⟨g1, g2, g3, g4, g5⟩ := bi_cl hc
      rw [← g5] at w1 w2 w3
      have hKn := F.2.2.2.2.2.2.1.1.1 c0 _ g1
      refine bi_W_size fun hsz2 => ?_
      have hz : H.size = bs + M.1.length := Nat.le_antisymm (by have := hsz; show H.size ≤ _; rw [← hcn]; exact Nat.le_trans hsz2 hsz) (P.1.2.1 hcn)
      have e1 : bi_cn (bi_mk M (c0, bi_nf c0)) - bi_cn M = 1 := by show M.2.1.1 + 1 - M.2.1.1 = 1; omega
      have e2 : bi_sn (bi_mk M (c0, bi_nf c0)) - bi_sn M = bi_nf c0 := by show M.2.1.2 + bi_nf c0 - M.2.1.2 = _; omega
      simp only [e1, e2] at hrc hrs
      refine W.newcK F.1 F.2.1 F.2.2.2.1 (F.2.2.2.2.1 _ w1) (F.2.2.2.2.1 _ w2) (F.2.2.2.2.1 _ w3) rfl hdg hrc hrs hKn.2.1 hz fun H1 kC hkC x1 x2 x3 => ?_
      have kk := k.mk P h1.2 (Or.inl ⟨hc, rfl⟩) (H1 := H1) hz ?_ (by rw [x2, hz]) (fun z hz2 => x3 z (by omega))
      · have e3 : bi_vs (bi_ad bs b tx) (.ref M.1.length :: st) = .ref (bs + M.1.length) :: bi_vs (bi_ad bs b tx) st := by
          show Value.ref (bi_ad bs b tx M.1.length) :: _ = _
          rw [bi_ad_lt h1.2]
          rfl
        rw [e3] at kk
        exact kk
      · have hel : bi_el (bi_ad bs b tx) cA (bi_mk M (c0, bi_nf c0)) M.1.length (c0, bi_nf c0) = .inr (c0, (List.range (bi_nf c0)).map (bi_fv (bi_ad bs b tx) (bi_mk M (c0, bi_nf c0)) M.1.length c0)) := by
          unfold bi_el
          simp only [hb]
          rfl
        rw [hel]
        exact ⟨_, g1, (u_born (bi_ty c0) F.2.2.2.2.1 g2 hKn hkC x1 g3).to (bi_defl hc bi_clr_eq bi_clr_eq bi_clr_eq)⟩
  · cases h
end ARR
