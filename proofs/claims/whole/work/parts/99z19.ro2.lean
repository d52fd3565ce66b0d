/-! ===== calls that change nothing: role, cell, readers, lapses ===== -/
section RO2
theorem ifT {α : Type} {c : Bool} {x y : α} (h : c = true) : (if c = true then x else y) = x := if_pos h
theorem ifF {α : Type} {c : Bool} {x y : α} (h : c = false) : (if c = true then x else y) = y := if_neg (by rw [h]; exact Bool.false_ne_true)
def roleV (M : Ms6) (r i : Nat) : Int32 := if i = 0 then M.2.2.1.1.1 r else if i = 1 then clo M.2.2.1.1.1 (s1 r) else if i = 2 then bo (reads M.2.1.2.2.1 M.2.1.2.2.2.1 M.2.2.1.1 r) M.2.2.1.1.2.2.1 else bo (po_of M.2.1.2.2.2.1 (clo M.2.2.1.1.1 (s1 r)) M.2.2.1.1.2.1 0) M.2.1.2.2.1
def oRole (M : Ms6) (x y : Int32) : Ou := if nIn x M.2.1.2.1 = true then (if nIn y 4 = true then .inr (roleV M (nX x) (nX y), M) else .inl (100, 1)) else .inl (100, 1)
def oCell (M : Ms6) (x y : Int32) : Ou := if nIn x M.2.2.1.1.2.2.1 = true then (if nIn y M.2.1.1 = true then .inr (M.2.2.1.1.2.2.2 (nX x) (nX y), M) else .inl (100, 1)) else .inl (100, 1)
def oReaders (M : Ms6) (x : Int32) : Ou := if nIn x M.2.2.1.1.2.2.1 = true then .inr (bo (fun u => reads M.2.1.2.2.1 M.2.1.2.2.2.1 M.2.2.1.1 u (nX x)) M.2.1.2.1, M) else .inl (100, 1)
def oLapses (M : Ms6) (x y z : Int32) : Ou := if nIn x M.2.1.2.1 = true then (if nIn y M.2.2.1.1.2.2.1 = true then (if nIn z 11 = true then .inr (lp M.2.1.2.2.1 M.2.1.2.2.2.1 M.2.2.1.1 (nX x) (nX y) z (2 ^ M.2.1.2.2.1), M) else .inl (101, 2)) else .inl (100, 1)) else .inl (100, 1)
section V
variable {X : bi_X} {d : Nat} {s : bi_St} {M : Ms6} {b b' a a' : Nat} {x y z : Int32}
theorem cC_role (ho : okM M) (hC : RCl s b b' a a' M) : CtC X (d + 6) 128 [.ref 0, .int x, .int y] s M (oRole M x y) := CtC_ro ho hC (fun K E kT kF => by
  have hR6 := ho.1.2.1
  refine en_X11_role (ct_needRole hC (fun hx => ?_) (fun hx => kF 100 1 s (ifF hx) fsc.refl))
  obtain ⟨r, hr, e, en⟩ := nIn_y (by omega) hx
  rw [hC.1.1.1, hC.1.1.2.2.1]
  have hS := isS_31 hC.1.2.2.1
  refine ⟨hC.1.2.1.1, hS, ct_sitJ ho hC (fun t ft hJ => ?_)⟩
  have hT := RCl_sc ho hC ft
  have yes : ∀ n v u, nIn y 4 = true → nX y = n → roleV M r n = v → fsc s u → K v u := fun n v u h1 h2 h3 hu => kT v u (by unfold oRole; rw [ifT hx, ifT h1, en, h2, h3]) hu
  rw [hT.1.1.2.2.1, e, zI_nat (by omega)]
  refine ⟨fun z => ⟨hS, in_zI (by omega) (by omega), ?_⟩, fun n0 => ⟨fun z => ⟨in_zI (by omega) (by omega), ?_⟩, fun n1 => ⟨fun z => ct_rowsRead hJ (by omega) (fun u hu => ?_), fun n2 => ⟨fun z => ct_become (by omega) (fun u hu u5 u6 _ => ?_), fun n3 => ?_⟩⟩⟩⟩
  · subst z; exact yes 0 _ t rfl rfl (hT.2.2.2.2.1.1.2.2.2.1.2.2.2.2.1 r (by omega)).symm ft
  · subst z; exact yes 1 _ t rfl rfl (hJ.2.2.2.2.2.2 r (by omega)).symm ft
  · subst z; exact yes 2 _ u rfl rfl rfl (ft.f hu wA_sc)
  · subst z
    have hTu := RCl_sc ho hT (fsc.refl.f hu wA_sc)
    rw [hTu.1.1.2.2.1, hTu.2.2.2.2.1.1.2.2.2.1.2.2.2.1]
    have hJu := JC_fr hu hJ
    exact ⟨hS, ct_applying (cmd := 0) hJu.1 hJu.2.1 (by rw [u6, hJ.2.2.2.2.2.2 r (by omega)]) (by omega) (yes 3 _ u rfl rfl rfl (ft.f hu wA_sc))⟩
  · exact kF 100 1 t (by unfold oRole; rw [ifT hx, ifF ((((nL0.s n0).s n1).s n2).s n3 |>.f (by omega))]) ft)
theorem ct_policiesOf {K : Int32 → bi_St → Prop} {E : Nat → bi_St → Prop} {C R p r : Nat} {f : Nat → Pol} {S : Sta} (hj : RC s 0 C R p f S) (hr : r < 6) (k : ∀ t, fr wF s t → K (bo (po_of f (clo S.1 (s1 r)) S.2.1 0) p) t) : cI X (d + 3) 225 [.ref 77, .int (zI r)] s K E := by
  refine en_X12_policiesOf (ct_laysUser (b0 := 0) hj hr (fun t ht t4 t43 _ => ?_))
  have hjt := RC_fr ht hj
  have hp8 := hjt.1.2.1
  have k := k t ht
  have loop : ∀ n i, n + i = p → at_X12_policiesOf_10 X (d + 3) K E t (bo (po_of f (clo S.1 (s1 r)) S.2.1 0) i) (zI i) := by
    intro n
    induction n with
    | zero =>
      intro i h1
      refine go_X12_policiesOf_10 ?_
      rw [hjt.1.2.2.1, zI_le (by omega) (by omega)]
      refine ⟨fun _ => ?_, fun z => by omega⟩
      rw [show i = p by omega]; exact k
    | succ n ih =>
      intro i h1
      refine go_X12_policiesOf_10 ?_
      rw [hjt.1.2.2.1, zI_le (by omega) (by omega)]
      refine ⟨fun z => by omega, fun _ => ct_isOf (cmd := 0) (b0 := 0) hjt.1 t43 (by omega) (by omega) (by omega) ?_⟩
      rw [show st_g t 90 (0 + 6) = S.2.1 from hjt.2.1.2.2.2.1, b2i_ne0, zI_add1]
      have := ih (i + 1) (by omega)
      rw [bo] at this
      refine ⟨fun z => ?_, fun z => ?_⟩
      · rw [if_neg (by rw [z]; exact Bool.false_ne_true)] at this
        rw [Int32.or_zero]; exact this
      · rw [if_pos (by simpa using z)] at this; exact this
  exact loop p 0 (by omega)
theorem cR_role (ho : okM M) (hR : RRf s M) : CtR X (d + 7) 226 [.ref 77, .int x, .int y] s M (oRole M x y) := CtR_ro ho hR (fun K kT kF => by
  have hR6 := ho.1.2.1
  have f0 : fsr s (st_p s 77 0 0) := fsr_0
  have h0 : st_g (st_p s 77 0 0) 77 0 = 0 := g_p_eq _ _ _ _
  have hT := RRf_sr ho hR f0
  refine en_X12_role ?_
  generalize st_p s 77 0 (0 : Int32) = t at f0 h0 hT
  have no : oRole M x y = .inl (100, 1) → K 0 (st_p t 77 0 1) := fun e => kF 100 1 0 _ e (f0.p (by omega) (by unfold impR impS; omega)) (g_p_eq _ _ _ _)
  refine ct_isRole h0 hT.2.1.2.2.2.2 (fun hx => ⟨fun z => absurd z (by decide), fun _ => ct_isWhat (n := 3) (by omega) h0 (fun hy => ⟨fun _ => ?_, fun z => absurd (by decide) z⟩) (fun hy => ⟨fun z => absurd rfl z, fun _ => no (by unfold oRole; rw [ifT hx, ifF hy])⟩)⟩) (fun hx => ⟨fun _ => no (ifF hx), fun z => absurd rfl z⟩)
  obtain ⟨r, hr, e, en⟩ := nIn_y (by omega) hx
  have hc := RC_of ho hT
  have yes : ∀ n v u, nX y = n → roleV M r n = v → fsr s u → st_g u 77 0 = 0 → K v u := fun n v u h2 h3 hu u0 => kT v u (by unfold oRole; rw [ifT hx, ifT hy, en, h2, h3]) hu u0
  rw [e, zI_nat (by omega)]
  refine ⟨fun n0 => ⟨fun n1 => ⟨fun n2 => ct_policiesOf hc (by omega) (fun u hu => ?_), fun z => ct_readsOf (b0 := 0) hc (by omega) (fun u hu => ?_)⟩, fun z => ?_⟩, fun z => ⟨in_zI (by omega) (by omega), ?_⟩⟩
  · obtain ⟨i, hi, ei, eni⟩ := nIn_y (by omega) hy
    have hi3 : i = 3 := by
      by_cases h : i < 3
      · exact absurd ei ((((nL0.s n0).s n1).s n2) i h)
      · omega
    exact yes 3 _ u (by rw [eni, hi3]) rfl (f0.f hu wF_sr) (fr0 hu rfl h0)
  · have z := Decidable.of_not_not z
    subst z; exact yes 2 _ u rfl rfl (f0.f hu wF_sr) (fr0 hu rfl h0)
  · have z := Decidable.of_not_not z
    subst z
    refine ct_hasOf (b0 := 0) (R := M.2.1.2.1) (by omega) (by omega) hR6 hT.2.1.2.2.2.2 (fun q hq => ?_) (fun q h1 h2 => ?_) ?_
    · rw [hT.2.2.1.1.2.2.2.2.1 q hq]; exact ho.2.1.1.1.2.1 q hq
    · rw [hT.2.2.1.1.2.2.2.2.1 q h2]; exact ho.2.1.1.1.2.2 q h1 h2
    · exact yes 1 _ t rfl (clo_congr (fun q hq => (hT.2.2.1.1.2.2.2.2.1 q hq).symm) _) f0 h0
  · have z := Decidable.of_not_not z
    subst z
    have hG := hT.2.2.1.1.2.2.2.2.1 r (by omega)
    rw [Nat.zero_add] at hG
    exact yes 0 _ t rfl hG.symm f0 h0)
theorem nIn_neg {n : Nat} (h : x < 0) : nIn x n = false := by unfold nIn; rw [decide_eq_true h]; rfl
theorem nIn_le {n : Nat} (hn : n + 1 < 2147483648) (h0 : ¬ x < 0) (h : x ≤ zI n) : nIn x (n + 1) = true := by
  obtain ⟨i, h1, e⟩ := zI_of h0
  subst e
  exact nIn_zI hn (by have := (zI_le h1 (by omega)).mp h; omega)
theorem nIn_gt {n : Nat} (hn : n + 1 < 2147483648) (h : ¬ x ≤ zI n) : nIn x (n + 1) = false := by
  cases hx : nIn x (n + 1)
  · rfl
  · obtain ⟨i, h1, e, _⟩ := nIn_y hn hx
    subst e
    exact absurd ((zI_le (by omega) (by omega)).mpr (by omega)) h
theorem okN (hC : RCl s b b' a a' M) : M.2.2.1.1.2.2.1 ≤ 16 := hC.2.2.2.2.1.1.2.2.2.1.2.1
theorem okNr (hR : RRf s M) : M.2.2.1.1.2.2.1 ≤ 16 := hR.2.2.1.1.2.1
theorem cC_cell (ho : okM M) (hC : RCl s b b' a a' M) : CtC X (d + 3) 129 [.ref 0, .int x, .int y] s M (oCell M x y) := CtC_ro ho hC (fun K E kT kF => by
  have h16 := okN hC
  have hC4 := ho.1.1.2
  refine en_X11_cell (ct_needRow hC (fun hx => ct_needColumn hC (fun hy => ?_) (fun hy => kF 100 1 s (by unfold oCell; rw [ifT hx, ifF hy]) fsc.refl)) (fun hx => kF 100 1 s (ifF hx) fsc.refl))
  obtain ⟨r, hr, e, en⟩ := nIn_y (by omega) hx
  obtain ⟨c, hc, e2, en2⟩ := nIn_y (by omega) hy
  rw [hC.1.1.2.2.1, e, e2]
  refine ⟨isS_31 hC.1.2.2.1, ct_numberAt (isS_31 hC.1.2.2.1) (by omega) (by omega) (kT _ s ?_ fsc.refl)⟩
  unfold oCell; rw [ifT hx, ifT hy, en, en2, hC.2.2.2.2.1.1.2.2.2.1.2.2.2.2.2 r c hr hc])
theorem cR_cell (ho : okM M) (hR : RRf s M) : CtR X (d + 3) 227 [.ref 77, .int x, .int y] s M (oCell M x y) := CtR_ro ho hR (fun K kT kF => by
  have h16 := okNr hR
  have hC4 := ho.1.1.2
  have hC1 := ho.1.1.1
  have f0 : fsr s (st_p s 77 0 0) := fsr_0
  have h0 : st_g (st_p s 77 0 0) 77 0 = 0 := g_p_eq _ _ _ _
  have hT := RRf_sr ho hR f0
  refine en_X12_cell ?_
  generalize st_p s 77 0 (0 : Int32) = t at f0 h0 hT
  have no : oCell M x y = .inl (100, 1) → K 0 (st_p t 77 0 (zI 1)) := fun e => kF 100 1 0 _ e (f0.p (by omega) (by unfold impR impS; omega)) (g_p_eq _ _ _ _)
  have e28 : st_g t 77 28 - 1 = zI (M.2.1.1 - 1) := by rw [hT.2.1.2.2.2.1, zI_sub1 hC1]
  refine ct_isRow h0 hT.2.2.1.1.2.2.1 (fun hx => ⟨fun z => absurd z (by decide), fun _ => ?_⟩) (fun hx => ⟨fun _ => no (ifF hx), fun z => absurd rfl z⟩)
  rw [e28]
  refine ct_withinR (by omega) (ct_rightB (n := 1) h0 (by omega) (fun hy => ⟨fun _ => ?_, fun z => absurd (by decide) z⟩) (fun hy => ⟨fun z => absurd rfl z, fun _ => no ?_⟩))
  · rw [show M.2.1.1 - 1 + 1 = M.2.1.1 by omega] at hy
    obtain ⟨r, hr, e, en⟩ := nIn_y (by omega) hx
    obtain ⟨c, hc, e2, en2⟩ := nIn_y (by omega) hy
    have ei : (8 : Int32) + (4 : Int32) * x + y = zI (8 + 4 * r + c) := by
      rw [e, e2, show (4 : Int32) * zI r = zI (4 * r) from zI_mul 4 r, show (8 : Int32) + zI (4 * r) = zI (8 + 4 * r) from zI_add 8 _, zI_add]
    rw [ei, zI_nat (by omega)]
    refine ⟨in_zI (by omega) (by omega), kT _ t ?_ f0 h0⟩
    have hv := hT.2.2.1.1.2.2.2.2.2 r c hr hc
    rw [show 0 + 8 + 4 * r + c = 8 + 4 * r + c by omega] at hv
    unfold oCell; rw [ifT hx, ifT hy, en, en2, hv]
  · rw [show M.2.1.1 - 1 + 1 = M.2.1.1 by omega] at hy
    unfold oCell; rw [ifT hx, ifF hy])
theorem cC_readers (ho : okM M) (hC : RCl s b b' a a' M) : CtC X (d + 6) 140 [.ref 0, .int x] s M (oReaders M x) := CtC_ro ho hC (fun K E kT kF => by
  have h16 := okN hC
  refine en_X11_readers (ct_needRow hC (fun hx => ?_) (fun hx => kF 100 1 s (ifF hx) fsc.refl))
  obtain ⟨r, hr, e, en⟩ := nIn_y (by omega) hx
  rw [hC.1.1.1, hC.1.1.2.2.1]
  refine ⟨hC.1.2.1.1, isS_31 hC.1.2.2.1, ct_sitJ ho hC (fun t ft hJ => ?_)⟩
  rw [e]
  exact ct_readersOf hJ hr (fun u hu => kT _ u (by unfold oReaders; rw [ifT hx, en]) (ft.f hu wA_sc)))
theorem cR_readers (ho : okM M) (hR : RRf s M) : CtR X (d + 5) 250 [.ref 77, .int x] s M (oReaders M x) := CtR_ro ho hR (fun K kT kF => by
  have h16 := okNr hR
  have hR6 := ho.1.2.1
  have f0 : fsr s (st_p s 77 0 0) := fsr_0
  have h0 : st_g (st_p s 77 0 0) 77 0 = 0 := g_p_eq _ _ _ _
  have hT := RRf_sr ho hR f0
  refine en_X12_readers ?_
  generalize st_p s 77 0 (0 : Int32) = t at f0 h0 hT
  refine ct_isRow h0 hT.2.2.1.1.2.2.1 (fun hx => ⟨fun _ => ?_, fun z => absurd (by decide) z⟩) (fun hx => ⟨fun z => absurd rfl z, fun _ => kF 100 1 0 _ (ifF hx) (f0.p (by omega) (by unfold impR impS; omega)) (g_p_eq _ _ _ _)⟩)
  obtain ⟨r, hr, e, en⟩ := nIn_y (by omega) hx
  have hv : oReaders M x = .inr (bo (fun u => reads M.2.1.2.2.1 M.2.1.2.2.2.1 M.2.2.1.1 u r) M.2.1.2.1, M) := by unfold oReaders; rw [ifT hx, en]
  rw [e]
  have loop : ∀ n i u, n + i = M.2.1.2.1 → fsr s u → st_g u 77 0 = 0 → RC u 0 M.2.1.1 M.2.1.2.1 M.2.1.2.2.1 M.2.1.2.2.2.1 M.2.2.1.1 → at_X12_readers_19 X (d + 5) K (fun _ _ => False) u (zI r) (bo (fun u => reads M.2.1.2.2.1 M.2.1.2.2.2.1 M.2.2.1.1 u r) i) (zI i) := by
    intro n
    induction n with
    | zero =>
      intro i u h1 fu u0 hc
      refine go_X12_readers_19 ?_
      rw [hc.2.2.2, zI_le (by omega) (by omega)]
      refine ⟨fun _ => kT _ u ?_ fu u0, fun z => by omega⟩
      rw [hv, show i = M.2.1.2.1 by omega]
    | succ n ih =>
      intro i u h1 fu u0 hc
      refine go_X12_readers_19 ?_
      rw [hc.2.2.2, zI_le (by omega) (by omega)]
      refine ⟨fun z => by omega, fun _ => ct_doesRead (b0 := 0) hc (by omega) hr (fun w hw => ?_)⟩
      have := ih (i + 1) w (by omega) (fu.f hw wF_sr) (fr0 hw rfl u0) (RC_fr hw hc)
      rw [bo] at this
      rw [b2i_ne0, zI_add1]
      refine ⟨fun z => ?_, fun z => ?_⟩
      · rw [if_neg (by rw [z]; exact Bool.false_ne_true)] at this
        rw [Int32.or_zero]; exact this
      · rw [if_pos (by simpa using z)] at this; exact this
  exact loop M.2.1.2.1 0 t (by omega) f0 h0 (RC_of ho hT))
theorem cC_lapses (ho : okM M) (hC : RCl s b b' a a' M) : CtC X (d + 6) 148 [.ref 0, .int x, .int y, .int z] s M (oLapses M x y z) := CtC_ro ho hC (fun K E kT kF => by
  have h16 := okN hC
  have hR6 := ho.1.2.1
  refine en_X11_lapses (ct_needRole hC (fun hx => ct_needRow hC (fun hy => ?_) (fun hy => kF 100 1 s (by unfold oLapses; rw [ifT hx, ifF hy]) fsc.refl)) (fun hx => kF 100 1 s (ifF hx) fsc.refl))
  obtain ⟨u, hu, e, en⟩ := nIn_y (by omega) hx
  obtain ⟨r, hr, e2, en2⟩ := nIn_y (by omega) hy
  refine ⟨fun h => kF 101 2 s (by unfold oLapses; rw [ifT hx, ifT hy, ifF (nIn_neg h)]) fsc.refl, fun h => ⟨fun h2 => ?_, fun h2 => kF 101 2 s (by unfold oLapses; rw [ifT hx, ifT hy, ifF (nIn_gt (n := 10) (by omega) h2)]) fsc.refl⟩⟩
  have hz : nIn z 11 = true := nIn_le (n := 10) (by omega) h h2
  rw [hC.1.1.1, hC.1.1.2.2.1]
  refine ⟨hC.1.2.1.1, isS_31 hC.1.2.2.1, ct_sitJ ho hC (fun t ft hJ => ?_)⟩
  rw [e, e2]
  exact ct_chance hJ hr (by omega) ho.2.1.1.2 (fun w hw => kT _ w (by unfold oLapses; rw [ifT hx, ifT hy, ifT hz, en, en2]) (ft.f hw wA_sc)))
theorem cR_lapses (ho : okM M) (hR : RRf s M) : CtR X (d + 4) 262 [.ref 77, .int x, .int y, .int z] s M (oLapses M x y z) := CtR_ro ho hR (fun K kT kF => by
  have h16 := okNr hR
  have hR6 := ho.1.2.1
  have f0 : fsr s (st_p s 77 0 0) := fsr_0
  have h0 : st_g (st_p s 77 0 0) 77 0 = 0 := g_p_eq _ _ _ _
  have hT := RRf_sr ho hR f0
  refine en_X12_lapses ?_
  generalize st_p s 77 0 (0 : Int32) = t at f0 h0 hT
  have no : ∀ c, (c = 1 ∨ c = 2) → (∃ e, oLapses M x y z = .inl (e, c)) → K 0 (st_p t 77 0 (zI c)) := fun c _ ⟨e, he⟩ => kF e c 0 _ he (f0.p (by omega) (by unfold impR impS; omega)) (g_p_eq _ _ _ _)
  refine ct_isRole h0 hT.2.1.2.2.2.2 (fun hx => ⟨fun z => absurd z (by decide), fun _ => ct_isRow h0 hT.2.2.1.1.2.2.1 (fun hy => ⟨fun z => absurd z (by decide), fun _ => ?_⟩) (fun hy => ⟨fun _ => no 1 (Or.inl rfl) ⟨100, by unfold oLapses; rw [ifT hx, ifF hy]⟩, fun z => absurd rfl z⟩)⟩) (fun hx => ⟨fun _ => no 1 (Or.inl rfl) ⟨100, ifF hx⟩, fun z => absurd rfl z⟩)
  refine ct_withinR (n := 10) (by omega) (ct_rightB (n := 2) h0 (by omega) (fun hz => ⟨fun _ => ?_, fun z => absurd (by decide) z⟩) (fun hz => ⟨fun z => absurd rfl z, fun _ => no 2 (Or.inr rfl) ⟨101, by unfold oLapses; rw [ifT hx, ifT hy, ifF hz]⟩⟩))
  obtain ⟨u, hu, e, en⟩ := nIn_y (by omega) hx
  obtain ⟨r, hr, e2, en2⟩ := nIn_y (by omega) hy
  rw [e, e2]
  exact ct_lapsesL (d := d) (RC_of ho hT) hr (by omega) (fun w hw => kT _ w (by unfold oLapses; rw [ifT hx, ifT hy, ifT hz, en, en2]) (f0.f hw wT_sr) (fr0 hw rfl h0)))
end V
end RO2
