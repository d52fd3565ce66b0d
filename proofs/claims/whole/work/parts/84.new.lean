/-! ===== new arrays, Object's constructor, copies ===== -/
section NEWA
variable {D : va_G} {cA : Nat → ClassId} {bs b : Nat} {tx : Nat → Nat} {X : bi_X} {j : Nat} {p : Program} {l : Launch} {e : Env} {R : Room} {s : State} {m : MethodId} {args : Array Value} {below : List Frame} {meth : Method} {c : Code} {Q : State → Prop}
variable {M : bi_Mem} {lv : bi_Lv} {st : List Value} {pc : Nat} {H : Heap} {locs : List Loc} {ls : Array Slot} {cells slots : Nat} {s' : bi_S}
/-- an array's class is the one that its name says -/
theorem bi_arrcls {ty : FieldType} {t0 : Nat} {ca cb : ClassId} (hK : va_K D vwCl (bi_tys cA) s) (ht : (bi_tys cA)[t0]? = some (ca, ty)) (hty : ∀ C, ty ≠ .object C) (h : s.vm.findClass ("[" ++ ty.toString) = some cb) : cb = ca := by
  have h1 := (hK.2 t0 _ ht).2
  cases ty with
  | object C => exact absurd rfl (hty C)
  | _ => exact Option.some.inj (h.symm.trans h1)
theorem bi_arrclsO {ca cb : ClassId} {C : String} {t0 : Nat} (hK : va_K D vwCl (bi_tys cA) s) (ht : (bi_tys cA)[t0]? = some (ca, .object C)) (h : s.vm.findClass ("[" ++ (FieldType.object C).toString) = some cb) : cb = ca := by
  obtain ⟨_, _, _, _, _, h1⟩ := (hK.2 t0 _ ht).2
  exact Option.some.inj (h.symm.trans h1)
theorem bi_s_newarray {t : ArrayType} (F : bi_Fx D cA bs b tx X j p s m args meth c) (P : bi_Pt D cA bs b tx j s M lv H locs ls) (k : bi_Kt D cA bs b tx j p l e R s m args below meth c Q cells slots M s') (hdg : decode (bi_mc j) pc = .ok (.newarray t, 2)) (hsz : s.heap.size + cells ≤ bs + bi_cn M) (hrc : cells + (bi_cn s'.2.2.2 - bi_cn M) ≤ R.cells) (hrs : slots + (bi_sn s'.2.2.2 - bi_sn M) ≤ R.slots) (h : bi_newa t (pc + 2) lv st M = some (true, .inl s')) : W p l e R s m args below meth c H locs cells slots Q (F0 m pc ls (bi_vs (bi_ad bs b tx) st)) := by
  unfold bi_newa at h
  split at h
  · rename_i n r
    have h1 := (Prod.mk.inj (Option.some.inj h)).1
    have h2 := (Prod.mk.inj (Option.some.inj h)).2
    cases h2
    simp only [Bool.and_eq_true, Nat.blt_eq, Bool.not_eq_true', decide_eq_false_iff_not] at h1
    have hcn : M.2.1.1 = M.1.length := Nat.eq_of_beq_eq_true h1.1.1
    have hn := h1.2.1.1
    have hN := h1.2.1.2
    have hby : n.toNatClampNeg * 8 ≤ 536870912 := by omega
    refine bi_W_size fun hsz2 => ?_
    have hz : H.size = bs + M.1.length := Nat.le_antisymm (by show H.size ≤ _; rw [← hcn]; exact Nat.le_trans hsz2 hsz) (P.1.2.1 hcn)
    have e1 : bi_cn (bi_mk M (bi_at t, n.toNatClampNeg)) - bi_cn M = 1 := by show M.2.1.1 + 1 - M.2.1.1 = 1; omega
    have e2 : bi_sn (bi_mk M (bi_at t, n.toNatClampNeg)) - bi_sn M = n.toNatClampNeg := by show M.2.1.2 + n.toNatClampNeg - M.2.1.2 = _; omega
    simp only [e1, e2] at hrc hrs
    have e3 : bi_vs (bi_ad bs b tx) (.ref M.1.length :: r) = .ref (bs + M.1.length) :: bi_vs (bi_ad bs b tx) r := by
      show Value.ref (bi_ad bs b tx M.1.length) :: _ = _
      rw [bi_ad_lt h1.1.2]
      rfl
    cases t with
    | boolean =>
      have hw9 : (Cond.arrayClass .boolean).before args s = true := F.2.2.2.2.1 _ bi_w_aboolean
      refine va_newaK (atype := .boolean) F.1 F.2.1 hw9 rfl hdg rfl hn rfl (Nat.le_trans (Nat.mul_le_mul_left _ (by decide : componentBytes .boolean ≤ 8)) hby) hrc hrs hz fun H1 ca x1 x2 x3 x4 x5 => ?_
      have hca := bi_arrcls (t0 := 2) F.2.2.2.2.2.2.1.1 rfl (by intro C; exact fun z => by cases z) x5
      subst hca
      have kk := k.mk P h1.1.2 (Or.inr ⟨(by decide : (13 : Nat) ≤ 15), (by decide : (15 : Nat) < 18)⟩) (H1 := H1) hz ?_ (by rw [x2, hz]) (fun z hz2 => x3 z (by omega))
      · rw [e3] at kk
        exact kk
      · show H1[bs + M.1.length]? = some (vp_cell (cA 15) (n.toNatClampNeg, _))
        rw [x1]
        congr 1
        show _ = vp_cell (cA 15) (n.toNatClampNeg, .inl (bi_clr (bi_I M) M.1.length 0 M.1.length))
        rw [bi_clr_eq]
        rfl
    | byte =>
      have hw9 : (Cond.arrayClass .byte).before args s = true := F.2.2.2.2.1 _ bi_w_abyte
      refine va_newaK (atype := .byte) F.1 F.2.1 hw9 rfl hdg rfl hn rfl (Nat.le_trans (Nat.mul_le_mul_left _ (by decide : componentBytes .byte ≤ 8)) hby) hrc hrs hz fun H1 ca x1 x2 x3 x4 x5 => ?_
      have hca := bi_arrcls (t0 := 0) F.2.2.2.2.2.2.1.1 rfl (by intro C; exact fun z => by cases z) x5
      subst hca
      have kk := k.mk P h1.1.2 (Or.inr ⟨(by decide : (13 : Nat) ≤ 13), (by decide : (13 : Nat) < 18)⟩) (H1 := H1) hz ?_ (by rw [x2, hz]) (fun z hz2 => x3 z (by omega))
      · rw [e3] at kk
        exact kk
      · show H1[bs + M.1.length]? = some (vp_cell (cA 13) (n.toNatClampNeg, _))
        rw [x1]
        congr 1
        show _ = vp_cell (cA 13) (n.toNatClampNeg, .inl (bi_clr (bi_I M) M.1.length 0 M.1.length))
        rw [bi_clr_eq]
        rfl
    | int =>
      have hw9 : (Cond.arrayClass .int).before args s = true := F.2.2.2.2.1 _ bi_w_aint
      refine va_newaK (atype := .int) F.1 F.2.1 hw9 rfl hdg rfl hn rfl (Nat.le_trans (Nat.mul_le_mul_left _ (by decide : componentBytes .int ≤ 8)) hby) hrc hrs hz fun H1 ca x1 x2 x3 x4 x5 => ?_
      have hca := bi_arrcls (t0 := 1) F.2.2.2.2.2.2.1.1 rfl (by intro C; exact fun z => by cases z) x5
      subst hca
      have kk := k.mk P h1.1.2 (Or.inr ⟨(by decide : (13 : Nat) ≤ 14), (by decide : (14 : Nat) < 18)⟩) (H1 := H1) hz ?_ (by rw [x2, hz]) (fun z hz2 => x3 z (by omega))
      · rw [e3] at kk
        exact kk
      · show H1[bs + M.1.length]? = some (vp_cell (cA 14) (n.toNatClampNeg, _))
        rw [x1]
        congr 1
        show _ = vp_cell (cA 14) (n.toNatClampNeg, .inl (bi_clr (bi_I M) M.1.length 0 M.1.length))
        rw [bi_clr_eq]
        rfl
    | long =>
      have hw9 : (Cond.arrayClass .long).before args s = true := F.2.2.2.2.1 _ bi_w_along
      refine va_newaK (atype := .long) F.1 F.2.1 hw9 rfl hdg rfl hn rfl (Nat.le_trans (Nat.mul_le_mul_left _ (by decide : componentBytes .long ≤ 8)) hby) hrc hrs hz fun H1 ca x1 x2 x3 x4 x5 => ?_
      have hca := bi_arrcls (t0 := 4) F.2.2.2.2.2.2.1.1 rfl (by intro C; exact fun z => by cases z) x5
      subst hca
      have kk := k.mk P h1.1.2 (Or.inr ⟨(by decide : (13 : Nat) ≤ 17), (by decide : (17 : Nat) < 18)⟩) (H1 := H1) hz ?_ (by rw [x2, hz]) (fun z hz2 => x3 z (by omega))
      · rw [e3] at kk
        exact kk
      · show H1[bs + M.1.length]? = some (vp_cell (cA 17) (n.toNatClampNeg, _))
        rw [x1]
        congr 1
        show _ = vp_cell (cA 17) (n.toNatClampNeg, .inr (.inl (bi_clr (bi_L M) M.1.length 0 M.1.length)))
        rw [bi_clr_eq]
        rfl
    | _ => exact absurd h1.2.2 (by decide)
  · cases h
theorem bi_s_anewarray {q : Nat} (F : bi_Fx D cA bs b tx X j p s m args meth c) (P : bi_Pt D cA bs b tx j s M lv H locs ls) (k : bi_Kt D cA bs b tx j p l e R s m args below meth c Q cells slots M s') (hdg : decode (bi_mc j) pc = .ok (.anewarray q, 3)) (hsz : s.heap.size + cells ≤ bs + bi_cn M) (hrc : cells + (bi_cn s'.2.2.2 - bi_cn M) ≤ R.cells) (hrs : slots + (bi_sn s'.2.2.2 - bi_sn M) ≤ R.slots) (h : bi_anew (bi_mi j).1 q (pc + 3) lv st M = some (true, .inl s')) : W p l e R s m args below meth c H locs cells slots Q (F0 m pc ls (bi_vs (bi_ad bs b tx) st)) := by
  unfold bi_anew at h
  split at h
  · rename_i n r
    have h1 := (Prod.mk.inj (Option.some.inj h)).1
    have h2 := (Prod.mk.inj (Option.some.inj h)).2
    cases h2
    simp only [Bool.and_eq_true, Nat.blt_eq, Bool.not_eq_true', decide_eq_false_iff_not] at h1
    have hcn : M.2.1.1 = M.1.length := Nat.eq_of_beq_eq_true h1.1.1
    have hn := h1.2.1.1.1
    have hN := h1.2.1.1.2
    have ho := Nat.eq_of_beq_eq_true h1.2.1.2
    have hq := Nat.eq_of_beq_eq_true h1.2.2
    refine bi_W_size fun hsz2 => ?_
    have hz : H.size = bs + M.1.length := Nat.le_antisymm (by show H.size ≤ _; rw [← hcn]; exact Nat.le_trans hsz2 hsz) (P.1.2.1 hcn)
    have e1 : bi_cn (bi_mk M (16, n.toNatClampNeg)) - bi_cn M = 1 := by show M.2.1.1 + 1 - M.2.1.1 = 1; omega
    have e2 : bi_sn (bi_mk M (16, n.toNatClampNeg)) - bi_sn M = n.toNatClampNeg := by show M.2.1.2 + n.toNatClampNeg - M.2.1.2 = _; omega
    simp only [e1, e2] at hrc hrs
    have e3 : bi_vs (bi_ad bs b tx) (.ref M.1.length :: r) = .ref (bs + M.1.length) :: bi_vs (bi_ad bs b tx) r := by
      show Value.ref (bi_ad bs b tx M.1.length) :: _ = _
      rw [bi_ad_lt h1.1.2]
      rfl
    obtain ⟨w1, -, -⟩ := bi_lc_w (o := (bi_mi j).1) (i := q) (c := 7) (by rw [ho, hq]; rfl) (by decide)
    refine W.anew (C := RX7) F.1 F.2.1 F.2.2.2.1 (F.2.2.2.2.1 _ w1) (va_AO.use F.2.2.2.2.2.2.1.2.1) rfl hdg rfl hn (by omega) hrc hrs fun ca kA comp f1 f2 f3 f4 => ?_
    have hca := bi_arrclsO (t0 := 3) F.2.2.2.2.2.2.1.1 rfl f1
    subst hca
    generalize hH1 : H.push ({ cls := cA 16, slots := Array.replicate n.toNatClampNeg .null, vm := .none } : Cell) = H1
    have z1 : H1.size = H.size + 1 := by rw [← hH1, Array.size_push]
    have x1 : H1[H.size]? = some (arrV (cA 16) n.toNatClampNeg (fun _ => .null)) := by rw [← hH1, Array.getElem?_push_size, ← arrV_new]
    have o1 : ∀ q : Nat, q < H.size → H1[q]? = H[q]? := fun q hq => by rw [← hH1, Array.getElem?_push, if_neg (Nat.ne_of_lt hq)]
    have kk := k.mk P h1.1.2 (Or.inr ⟨(by decide : (13 : Nat) ≤ 16), (by decide : (16 : Nat) < 18)⟩) (H1 := H1) hz ?_ z1 o1
    · rw [e3] at kk
      rw [hz]
      exact kk
    · show H1[bs + M.1.length]? = some (vp_cell (cA 16) (n.toNatClampNeg, .inr (.inr (.inr (.inr (fun z => (bi_clr (bi_P M) M.1.length none M.1.length z).map (bi_ad bs b tx)))))))
      rw [← hz, x1, bi_clr_eq, vp_cell_q]
      rfl
  · cases h
theorem bi_cats_le {r : List Value} {ad : Nat → Nat} (h : bi_cats r = true) : ((bi_vs ad r).map fun v => v.category).sum ≤ 8 := by
  unfold bi_cats at h
  have e : (bi_vs ad r).map (fun v => v.category) = r.map (fun v => v.category) := by
    unfold bi_vs
    rw [List.map_map]
    apply List.map_congr_left
    intro v _
    exact bi_v_cat ad v
  rw [e]
  exact Nat.le_of_ble_eq_true h
theorem bi_s_objinit {q z : Nat} (F : bi_Fx D cA bs b tx X j p s m args meth c) (P : bi_Pt D cA bs b tx j s M lv H locs ls) (k : bi_Kt D cA bs b tx j p l e R s m args below meth c Q cells slots M s') (hdg : decode (bi_mc j) pc = .ok (.invokespecial q, 3)) (hl : bi_lm (bi_mi j).1 q = some (6, z)) (hfr : 1 ≤ R.frames) (hlo : 100 ≤ R.locals) {a : Nat} {r : List Value} (hst : st = .ref a :: r) (h : bi_nxc (bi_cats r) (pc + 3) lv r M = some (true, .inl s')) : W p l e R s m args below meth c H locs cells slots Q (F0 m pc ls (bi_vs (bi_ad bs b tx) st)) := by
  subst hst
  have h1 := (Prod.mk.inj (Option.some.inj h)).1
  have h2 := (Prod.mk.inj (Option.some.inj h)).2
  cases h2
  have hw := bi_lm_w hl
  unfold bi_ck at hw
  split at hw
  · simp only [Bool.and_eq_true] at hw
    have hs := bi_cats_le (ad := bi_ad bs b tx) h1
    refine W.objInit F.1 F.2.1 F.2.2.2.1 (F.2.2.2.2.1 _ (bi_at9_in hw.1)) (F.2.2.2.2.1 _ bi_w_oi) (F.2.2.2.2.1 _ bi_w_oc) rfl (by show ls.size = _; rw [F.2.2.1]; exact P.2.2.1) rfl hdg hfr (by show 2 * 0 + ((bi_vs (bi_ad bs b tx) r).map fun v => v.category).sum + 12 ≤ R.locals; omega) ?_
    exact k.same rfl rfl rfl P
  · cases hw
theorem bi_s_copy {q z : Nat} (F : bi_Fx D cA bs b tx X j p s m args meth c) (P : bi_Pt D cA bs b tx j s M lv H locs ls) (k : bi_Kt D cA bs b tx j p l e R s m args below meth c Q cells slots M s') (hdg : decode (bi_mc j) pc = .ok (.invokestatic q, 3)) (hl : bi_lm (bi_mi j).1 q = some (7, z)) (hfr : 1 ≤ R.frames) (hlo : 100 ≤ R.locals) (h : bi_copy (pc + 3) lv st M = some (true, .inl s')) : W p l e R s m args below meth c H locs cells slots Q (F0 m pc ls (bi_vs (bi_ad bs b tx) st)) := by
  unfold bi_copy at h
  split at h
  · rename_i n dp y sp a r
    have h1 := (Prod.mk.inj (Option.some.inj h)).1
    have h2 := (Prod.mk.inj (Option.some.inj h)).2
    cases h2
    simp only [Bool.and_eq_true, Bool.not_eq_true', decide_eq_false_iff_not] at h1
    obtain ⟨⟨⟨⟨hka, hky⟩, ⟨hn, hsp⟩, hdp⟩, ha, hy⟩, hr⟩ := h1
    have hka := bi_kd_beq hka
    have hky := bi_kd_beq hky
    obtain ⟨q1, q2⟩ := P.1.at hka (by decide)
    obtain ⟨q3, q4⟩ := P.1.at hky (by decide)
    have hw := bi_lm_w hl
    unfold bi_ck at hw
    split at hw
    · simp only [Bool.and_eq_true] at hw
      have hs := bi_cats_le (ad := bi_ad bs b tx) hr
      show W p l e R s m args below meth c H locs cells slots Q (F0 m pc ls (.int n :: .int dp :: .ref (bi_ad bs b tx y) :: .int sp :: .ref (bi_ad bs b tx a) :: bi_vs (bi_ad bs b tx) r))
      rw [q2, q4]
      refine va_copyi (ty := .int) F.1 F.2.1 (by rw [F.2.2.1]; exact P.2.2.1.symm) F.2.2.2.1 (F.2.2.2.2.1 _ (bi_at9_in hw.1)) (F.2.2.2.2.1 _ bi_w_cn) (F.2.2.2.2.1 _ bi_w_cs) (F.2.2.2.2.1 _ bi_w_ci) F.2.2.2.2.2.2.1.1 P.1.1 bi_wl_D (bi_S_rf P.2.1) a y 1 1 (bi_arrI hka (Or.inr (Or.inl rfl))) (bi_arrI hky (Or.inr (Or.inl rfl))) rfl rfl rfl hsp hdp hn (Nat.le_of_ble_eq_true ha) (Nat.le_of_ble_eq_true hy) (fun _ _ => rfl) hfr (Nat.le_trans (Nat.add_le_add hs (by decide : nativeFrameWords "java/lang/System" "arraycopy" 5 + 11 ≤ 60)) (by omega)) hdg (k.put P rfl rfl ?_ (fun z hz => ⟨?_, rfl, rfl⟩))
      · show _ = bi_el (bi_ad bs b tx) cA _ y (bi_kd M y)
        rw [hky]
        show _ = (Sum.inl (cA 14, (bi_kd M y).2, .inl (bi_row (bi_I M) y _ y)) : va_E)
        unfold bi_row
        rw [if_pos rfl]
      · show bi_row (bi_I M) y _ z = _
        unfold bi_row
        rw [if_neg hz]
    · cases hw
  · cases h
end NEWA
