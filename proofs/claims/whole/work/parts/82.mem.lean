/-! ===== instructions that look at the memory ===== -/
section MEM
variable {D : va_G} {cA : Nat → ClassId} {bs b : Nat} {tx : Nat → Nat} {X : bi_X} {j : Nat} {p : Program} {l : Launch} {e : Env} {R : Room} {s : State} {m : MethodId} {args : Array Value} {below : List Frame} {meth : Method} {c : Code} {Q : State → Prop}
variable {M : bi_Mem} {lv : bi_Lv} {st : List Value} {pc : Nat} {H : Heap} {locs : List Loc} {ls : Array Slot} {cells slots : Nat} {s' : bi_S}
theorem bi_S_tr {A : Nat → Prop} {H0 H H1 : Heap} {locs locs1 : List Loc} (h1 : va_S A H0 H locs) (h2 : va_S A H H1 locs1) : va_S A H0 H1 locs1 := ⟨Nat.le_trans h1.1 h2.1, fun q hq hA => (h2.2.1 q (Nat.lt_of_lt_of_le hq h1.1) hA).trans (h1.2.1 q hq hA), h2.2.2⟩
theorem bi_S_rf {A : Nat → Prop} {H0 H : Heap} {locs : List Loc} (h1 : va_S A H0 H locs) : va_S A H H locs := ⟨Nat.le_refl _, fun _ _ _ => rfl, h1.2.2⟩
theorem bi_W9.at {a c n : Nat} (h : bi_W9 D cA bs b tx M H) (hk : bi_kd M a = (c, n)) (hc : c ≠ 99) : a < M.1.length ∧ bi_ad bs b tx a = bs + a := by
  have h1 := bi_kd_lt hk hc
  exact ⟨h1, bi_ad_lt (Nat.lt_of_lt_of_le h1 h.2.2.2.1)⟩
theorem bi_W9.nf {a c n : Nat} (h : bi_W9 D cA bs b tx M H) (hk : bi_kd M a = (c, n)) (hc : c < 13) : n = bi_nf c := by
  have h1 := h.2.2.1 a (bi_kd_lt hk (by omega))
  rw [hk] at h1
  rcases h1 with h1 | h1
  · exact h1.2
  · simp only at h1; omega
theorem bi_kd_beq {a c : Nat} (h : Nat.beq (bi_kd M a).1 c = true) : bi_kd M a = (c, (bi_kd M a).2) := by rw [← Nat.eq_of_beq_eq_true h]
/-- behind a store into the cell a -/
theorem bi_Kt.put {a : Nat} {x : va_E} {pc' : Nat} {st' : List Value} {M' : bi_Mem} (k : bi_Kt D cA bs b tx j p l e R s m args below meth c Q cells slots M (pc', lv, st', M')) (P : bi_Pt D cA bs b tx j s M lv H locs ls) (hk : M'.1 = M.1) (hc : M'.2.1 = M.2.1) (hx : x = bi_el (bi_ad bs b tx) cA M' a (bi_kd M' a)) (ho : ∀ z, z ≠ a → bi_I M' z = bi_I M z ∧ bi_L M' z = bi_L M z ∧ bi_P M' z = bi_P M z) :
    ∀ (H1 : Heap) (locs1 : List Loc), va_P D vwCl ((bi_wl (bi_ad bs b tx) cA bs M).set a (bs + a, x)) H1 → va_D (bi_A bs) ((bi_wl (bi_ad bs b tx) cA bs M).set a (bs + a, x)) → va_S (bi_A bs) H H1 locs1 → W p l e R s m args below meth c H1 locs1 cells slots Q (F0 m pc' ls (bi_vs (bi_ad bs b tx) st')) := by
  intro H1 locs1 h1 _ h3
  rw [bi_wl_set hk hx ho] at h1
  obtain ⟨⟨-, q2, q3, q4, q5⟩, hS, hl⟩ := P
  refine k.same rfl (by show M'.2.1.1 = _; rw [hc]) (by show M'.2.1.2 = _; rw [hc]) ⟨⟨h1, fun z => ?_, fun z hz => ?_, ?_, ?_⟩, bi_S_tr hS h3, hl⟩
  · rw [hk]; rw [hk, hc] at z; exact Nat.le_trans (q2 z) h3.1
  · have e1 : bi_kd M' z = bi_kd M z := by unfold bi_kd; rw [hk]
    rw [e1]; rw [hk] at hz; exact q3 z hz
  · rw [hk]; exact q4
  · rw [hk, hc]; exact q5
theorem bi_fv_0 {ad : Nat → Nat} {a c k : Nat} (h : (bi_ft c k).1 = 0 ∨ (bi_ft c k).1 = 1) : bi_fv ad M a c k = .int (bi_I M a k) := by
  unfold bi_fv
  rcases h with h | h <;> rw [h] <;> rfl
theorem bi_fv_2 {ad : Nat → Nat} {a c k : Nat} (h : (bi_ft c k).1 = 2) : bi_fv ad M a c k = .long (bi_L M a k) := by unfold bi_fv; rw [h]; rfl
theorem bi_fv_3 {ad : Nat → Nat} {a c k : Nat} (h : (bi_ft c k).1 = 3) : bi_fv ad M a c k = va_rf ((bi_P M a k).map ad) := by unfold bi_fv; rw [h]; rfl
/-- a field is read -/
theorem bi_s_getfield {q : Nat} (F : bi_Fx D cA bs b tx X j p s m args meth c) (P : bi_Pt D cA bs b tx j s M lv H locs ls) (k : bi_Kt D cA bs b tx j p l e R s m args below meth c Q cells slots M s') (hdg : decode (bi_mc j) pc = .ok (.getfield q, 3)) (h : bi_getf (bi_mi j).1 q (pc + 3) lv st M = some (true, .inl s')) : W p l e R s m args below meth c H locs cells slots Q (F0 m pc ls (bi_vs (bi_ad bs b tx) st)) := by
  unfold bi_getf at h
  split at h
  · rename_i c0 k0 a r hlf
    obtain ⟨w1, w2, w3⟩ := bi_lf_w hlf
    obtain ⟨g1, g2, g3, g4, g5⟩ := bi_cl w2
    have row : ∀ {v : Value}, bi_kd M a = (c0, (bi_kd M a).2) → bi_fv (bi_ad bs b tx) M a c0 k0 = v → W p l e R s m args below meth c H locs cells slots Q (F0 m (pc + 3) ls (v :: bi_vs (bi_ad bs b tx) r)) → W p l e R s m args below meth c H locs cells slots Q (F0 m pc ls (bi_vs (bi_ad bs b tx) (.ref a :: r))) := by
      intro v hk hv kk
      obtain ⟨h1, h2⟩ := P.1.at hk (by omega)
      have hn := P.1.nf hk w2
      rw [hn] at hk
      show W p l e R s m args below meth c H locs cells slots Q (F0 m pc ls (.ref (bi_ad bs b tx a) :: bi_vs (bi_ad bs b tx) r))
      rw [h2]
      exact va_get F.1 F.2.1 F.2.2.2.2.1 g2 F.2.2.2.1 F.2.2.2.2.2.2.1.1 P.1.1 a (bi_obj hk w2) g1 k0 w3 (F.2.2.2.2.1 _ w1) (fun _ z => z) (by rw [List.getElem?_map, List.getElem?_range w3]; exact congrArg some hv) hdg kk
    split at h
    · rename_i ht
      unfold bi_nxc at h
      have h1 := (Prod.mk.inj (Option.some.inj h)).1
      have h2 := (Prod.mk.inj (Option.some.inj h)).2
      cases h2
      exact row (bi_kd_beq h1) (bi_fv_0 (Or.inl ht)) (k.same rfl rfl rfl P)
    · rename_i ht
      unfold bi_nxc at h
      have h1 := (Prod.mk.inj (Option.some.inj h)).1
      have h2 := (Prod.mk.inj (Option.some.inj h)).2
      cases h2
      exact row (bi_kd_beq h1) (bi_fv_0 (Or.inr ht)) (k.same rfl rfl rfl P)
    · rename_i ht
      unfold bi_nxc at h
      have h1 := (Prod.mk.inj (Option.some.inj h)).1
      have h2 := (Prod.mk.inj (Option.some.inj h)).2
      cases h2
      exact row (bi_kd_beq h1) (bi_fv_2 ht) (k.same rfl rfl rfl P)
    · rename_i ht
      unfold bi_nxc at h
      have h1 := (Prod.mk.inj (Option.some.inj h)).1
      have h2 := (Prod.mk.inj (Option.some.inj h)).2
      cases h2
      simp only [Bool.and_eq_true] at h1
      obtain ⟨z, hz⟩ := Option.isSome_iff_exists.mp h1.2
      refine row (v := .ref (bi_ad bs b tx z)) (bi_kd_beq h1.1) (by rw [bi_fv_3 ht, hz]; rfl) ?_
      have kk := k.same rfl rfl rfl P
      rw [hz] at kk
      exact kk
    · cases h
  · cases h
theorem bi_fs_set {ad : Nat → Nat} {M' : bi_Mem} {a c n k : Nat} {v : Value} (hv : bi_fv ad M' a c k = v) (ho : ∀ z, z ≠ k → bi_fv ad M' a c z = bi_fv ad M a c z) : ((List.range n).map (bi_fv ad M a c)).set k v = (List.range n).map (bi_fv ad M' a c) := by
  apply List.ext_getElem?
  intro z
  by_cases hz : z = k
  · subst hz
    by_cases hl : z < n
    · rw [List.getElem?_set_self (by simpa using hl), List.getElem?_map, List.getElem?_range hl]
      exact congrArg some hv.symm
    · rw [List.getElem?_eq_none (by simpa using Nat.le_of_not_lt hl), List.getElem?_eq_none (by simpa using Nat.le_of_not_lt hl)]
  · rw [List.getElem?_set_ne (Ne.symm hz), List.getElem?_map, List.getElem?_map]
    by_cases hl : z < n
    · rw [List.getElem?_range hl]
      exact congrArg some (ho z hz).symm
    · rw [List.getElem?_eq_none (by simpa using Nat.le_of_not_lt hl)]
      rfl
theorem bi_el_obj {ad : Nat → Nat} {a c n : Nat} (hk : bi_kd M a = (c, n)) (hc : c < 13) : bi_el ad cA M a (bi_kd M a) = .inr (c, (List.range n).map (bi_fv ad M a c)) := by
  have h1 := bi_wl_get (ad := ad) (cA := cA) (bs := 0) (bi_kd_lt hk (by omega))
  rw [bi_obj hk hc] at h1
  exact (Prod.mk.inj (Option.some.inj h1)).2.symm
/-- a field is put: the row of it -/
theorem bi_putrow {q a c0 k0 : Nat} {v : Value} {r : List Value} {M' : bi_Mem} (F : bi_Fx D cA bs b tx X j p s m args meth c) (P : bi_Pt D cA bs b tx j s M lv H locs ls) (k : bi_Kt D cA bs b tx j p l e R s m args below meth c Q cells slots M (pc + 3, lv, r, M')) (hdg : decode (bi_mc j) pc = .ok (.putfield q, 3)) (hlf : bi_lf (bi_mi j).1 q = some (c0, k0)) (hk : Nat.beq (bi_kd M a).1 c0 = true) (hok : bi_fok j c0 k0 = true)
    (hn : narrow (bi_ty c0 k0) (bi_v (bi_ad bs b tx) v) = bi_v (bi_ad bs b tx) v) (hf : fits (bi_ty c0 k0) (bi_v (bi_ad bs b tx) v) = true) (hK : M'.1 = M.1) (hC : M'.2.1 = M.2.1) (hv : bi_fv (bi_ad bs b tx) M' a c0 k0 = bi_v (bi_ad bs b tx) v) (ho : ∀ z, z ≠ k0 → bi_fv (bi_ad bs b tx) M' a c0 z = bi_fv (bi_ad bs b tx) M a c0 z) (ho2 : ∀ z, z ≠ a → bi_I M' z = bi_I M z ∧ bi_L M' z = bi_L M z ∧ bi_P M' z = bi_P M z) :
    W p l e R s m args below meth c H locs cells slots Q (F0 m pc ls (bi_vs (bi_ad bs b tx) (v :: .ref a :: r))) := by
  obtain ⟨w1, w2, w3⟩ := bi_lf_w hlf
  obtain ⟨g1, g2, g3, g4, g5⟩ := bi_cl w2
  have hk := bi_kd_beq hk
  obtain ⟨h1, h2⟩ := P.1.at hk (by omega)
  have hnf := P.1.nf hk w2
  rw [hnf] at hk
  have tk := bi_tk_of w2 w3
  unfold bi_tk at tk
  simp only [Bool.and_eq_true, decide_eq_true_eq] at tk
  have hk' : bi_kd M' a = (c0, bi_nf c0) := by unfold bi_kd at hk ⊢; rw [hK]; exact hk
  have hx : Sum.inr (c0, ((List.range (bi_nf c0)).map (bi_fv (bi_ad bs b tx) M a c0)).set k0 (bi_v (bi_ad bs b tx) v)) = bi_el (bi_ad bs b tx) cA M' a (bi_kd M' a) := by
    rw [bi_el_obj hk' w2, bi_fs_set hv ho]
  show W p l e R s m args below meth c H locs cells slots Q (F0 m pc ls (bi_v (bi_ad bs b tx) v :: .ref (bi_ad bs b tx a) :: bi_vs (bi_ad bs b tx) r))
  rw [h2]
  unfold bi_fok at hok
  cases hfin : (bi_ft c0 k0).2 with
  | false =>
    exact va_put F.1 F.2.1 F.2.2.2.2.1 g2 (bi_ty c0) g3 g4 F.2.2.2.1 F.2.2.2.2.2.2.1.1 P.1.1 bi_wl_D (bi_S_rf P.2.1) a (bi_obj hk w2) g1 k0 w3 (F.2.2.2.2.1 _ w1) (fun _ z => z) (tk.1.2.trans hfin) (g3 k0 w3) hn hf (by simpa using w3) hdg (k.put P hK hC hx ho2)
  | true =>
    rw [hfin] at hok
    simp only [Bool.not_true, Bool.false_or, Bool.and_eq_true] at hok
    exact va_putF F.1 F.2.1 F.2.2.2.2.1 g2 (bi_ty c0) g3 g4 F.2.2.2.1 F.2.2.2.2.2.2.1.1 P.1.1 bi_wl_D (bi_S_rf P.2.1) a (bi_obj hk w2) g1 k0 w3 (F.2.2.2.2.1 _ w1) (fun _ z => z) (tk.1.2.trans hfin) (F.2.2.2.2.2.1 hok.1) (by rw [tk.2, Nat.eq_of_beq_eq_true hok.2]) (g3 k0 w3) hn hf (by simpa using w3) hdg (k.put P hK hC hx ho2)
theorem bi_up_ne {α : Type} {f : Nat → Nat → α} {a k z : Nat} {v : α} (h : z ≠ a) : bi_up f a k v z = f z := by unfold bi_up; rw [if_neg h]
theorem bi_up_eq {α : Type} {f : Nat → Nat → α} {a k : Nat} {v : α} : bi_up f a k v a = va_up (f a) k v := by unfold bi_up; rw [if_pos rfl]
theorem bi_s_putfield {q : Nat} (F : bi_Fx D cA bs b tx X j p s m args meth c) (P : bi_Pt D cA bs b tx j s M lv H locs ls) (k : bi_Kt D cA bs b tx j p l e R s m args below meth c Q cells slots M s') (hdg : decode (bi_mc j) pc = .ok (.putfield q, 3)) (h : bi_putf j (bi_mi j).1 q (pc + 3) lv st M = some (true, .inl s')) : W p l e R s m args below meth c H locs cells slots Q (F0 m pc ls (bi_vs (bi_ad bs b tx) st)) := by
  unfold bi_putf at h
  split at h
  · rename_i c0 k0 v a r hlf
    obtain ⟨w1, w2, w3⟩ := bi_lf_w hlf
    have tk := bi_tk_of w2 w3
    unfold bi_tk at tk
    simp only [Bool.and_eq_true, decide_eq_true_eq] at tk
    have ty := tk.1.1
    split at h
    · rename_i x ht
      unfold bi_nxc at h
      have h1 := (Prod.mk.inj (Option.some.inj h)).1
      have h2 := (Prod.mk.inj (Option.some.inj h)).2
      cases h2
      simp only [Bool.and_eq_true] at h1
      rw [ht] at ty
      have ety : bi_ty c0 k0 = .int := by revert ty; cases bi_ty c0 k0 <;> simp
      refine bi_putrow F P k hdg hlf h1.1 h1.2 (by rw [ety]; rfl) (by rw [ety]; rfl) rfl rfl ?_ (fun z hz => ?_) (fun z hz => ⟨bi_up_ne hz, rfl, rfl⟩)
      · rw [bi_fv_0 (Or.inl ht)]
        show Value.int (bi_up (bi_I M) a k0 x a k0) = _
        rw [bi_up_eq]; simp [va_up, bi_v]
      · unfold bi_fv
        show (match (bi_ft c0 z).1 with | 2 => Value.long (bi_L M a z) | 3 => va_rf ((bi_P M a z).map _) | _ => .int (bi_up (bi_I M) a k0 x a z)) = _
        rw [bi_up_eq]; simp [va_up, hz]
        rfl
    · rename_i x ht
      unfold bi_nxc at h
      have h1 := (Prod.mk.inj (Option.some.inj h)).1
      have h2 := (Prod.mk.inj (Option.some.inj h)).2
      cases h2
      simp only [Bool.and_eq_true] at h1
      rw [ht] at ty
      have ety : bi_ty c0 k0 = .boolean := by revert ty; cases bi_ty c0 k0 <;> simp
      have hx : x = 0 ∨ x = 1 := by simpa using h1.2
      refine bi_putrow F P k hdg hlf h1.1.1 h1.1.2 (by rw [ety]; rcases hx with rfl | rfl <;> rfl) (by rw [ety]; rcases hx with rfl | rfl <;> rfl) rfl rfl ?_ (fun z hz => ?_) (fun z hz => ⟨bi_up_ne hz, rfl, rfl⟩)
      · rw [bi_fv_0 (Or.inr ht)]
        show Value.int (bi_up (bi_I M) a k0 x a k0) = _
        rw [bi_up_eq]; simp [va_up, bi_v]
      · unfold bi_fv
        show (match (bi_ft c0 z).1 with | 2 => Value.long (bi_L M a z) | 3 => va_rf ((bi_P M a z).map _) | _ => .int (bi_up (bi_I M) a k0 x a z)) = _
        rw [bi_up_eq]; simp [va_up, hz]
        rfl
    · rename_i x ht
      unfold bi_nxc at h
      have h1 := (Prod.mk.inj (Option.some.inj h)).1
      have h2 := (Prod.mk.inj (Option.some.inj h)).2
      cases h2
      simp only [Bool.and_eq_true] at h1
      rw [ht] at ty
      have ety : bi_ty c0 k0 = .long := by revert ty; cases bi_ty c0 k0 <;> simp
      refine bi_putrow F P k hdg hlf h1.1 h1.2 (by rw [ety]; rfl) (by rw [ety]; rfl) rfl rfl ?_ (fun z hz => ?_) (fun z hz => ⟨rfl, bi_up_ne hz, rfl⟩)
      · rw [bi_fv_2 ht]
        show Value.long (bi_up (bi_L M) a k0 x a k0) = _
        rw [bi_up_eq]; simp [va_up, bi_v]
      · unfold bi_fv
        show (match (bi_ft c0 z).1 with | 2 => Value.long (bi_up (bi_L M) a k0 x a z) | 3 => va_rf ((bi_P M a z).map _) | _ => .int (bi_I M a z)) = _
        rw [bi_up_eq]; simp [va_up, hz]
        rfl
    · rename_i x ht
      unfold bi_nxc at h
      have h1 := (Prod.mk.inj (Option.some.inj h)).1
      have h2 := (Prod.mk.inj (Option.some.inj h)).2
      cases h2
      simp only [Bool.and_eq_true] at h1
      rw [ht] at ty
      have ety : (∃ z, bi_ty c0 k0 = .object z) ∨ ∃ z, bi_ty c0 k0 = .array z := by revert ty; cases bi_ty c0 k0 <;> simp
      refine bi_putrow F P k hdg hlf h1.1 h1.2 (by rcases ety with ⟨z, hz⟩ | ⟨z, hz⟩ <;> rw [hz] <;> rfl) (by rcases ety with ⟨z, hz⟩ | ⟨z, hz⟩ <;> rw [hz] <;> rfl) rfl rfl ?_ (fun z hz => ?_) (fun z hz => ⟨rfl, rfl, bi_up_ne hz⟩)
      · rw [bi_fv_3 ht]
        show va_rf ((bi_up (bi_P M) a k0 (some x) a k0).map _) = _
        rw [bi_up_eq]; simp [va_up, bi_v, va_rf]
      · unfold bi_fv
        show (match (bi_ft c0 z).1 with | 2 => Value.long (bi_L M a z) | 3 => va_rf ((bi_up (bi_P M) a k0 (some x) a z).map _) | _ => .int (bi_I M a z)) = _
        rw [bi_up_eq]; simp [va_up, hz]
        rfl
    · cases h
  · cases h
end MEM
