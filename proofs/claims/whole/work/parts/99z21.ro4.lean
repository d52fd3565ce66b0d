/-! ===== calls that change nothing: policy, view, asked, step ===== -/
section RO4
def polV (M : Ms6) (i j : Nat) : Int32 := if j = 0 then b2i (mf M i).1 else if j = 1 then (mf M i).2.1 else if j = 2 then zI (mf M i).2.2.1 else if j = 3 then b2i (tb (mSt M).2.1 i) else if j = 4 then plI (mf M i).2.2.2.1 else if j = 5 then plI (mf M i).2.2.2.2 else zI (wgt (mR M) (mp M) (mf M) (mSt M) i)
def oPolicy (M : Ms6) (x y : Int32) : Ou := if nIn x (mp M) = true then (if nIn y 7 = true then .inr (polV M (nX x) (nX y), M) else .inl (100, 1)) else .inl (100, 1)
abbrev mv (M : Ms6) : Nat := M.2.1.2.2.2.2.1
abbrev mw (M : Ms6) : Nat → Vw := M.2.1.2.2.2.2.2
def vwV (M : Ms6) (w j : Nat) : Int32 := if j = 0 then (mw M w).1 else if j = 1 then b2i (mw M w).2.1 else if j = 2 then (mw M w).2.2.1 else if j = 3 then zI (mw M w).2.2.2.2.length else b2i (mw M w).2.2.2.1
def oView (M : Ms6) (x y : Int32) : Ou := if nIn x (mv M) = true then (if nIn y 5 = true then .inr (vwV M (nX x) (nX y), M) else .inl (100, 1)) else .inl (100, 1)
def askV (n : Pn) (j : Nat) : Int32 := if j = 0 then (if n.2.2.2.2.2.1 = -1 then zI (bc n.2.2.1 16) else -1) else if j = 1 then n.2.2.1 else if j = 2 then n.2.2.2.2.2.1 else if j = 3 then n.2.2.2.2.2.2.1 else if j = 4 then zI n.1.length else if j = 5 then n.2.2.2.2.2.2.2.1 else if j = 6 then n.2.2.2.2.2.2.2.2 else zI n.2.1
def askO (o : Option Pn) (j : Nat) : Int32 := match o with
  | none => -1
  | some n => askV n j
def oAsked (M : Ms6) (x : Int32) : Ou := if nIn x 8 = true then .inr (askO M.2.2.2.2.1 (nX x), M) else .inl (100, 1)
def stpV (n : Pn) (q : Sp) (i j : Nat) : Int32 := if j = 0 then zI q.1 else if j = 1 then q.2.1 else if j = 2 then zI q.2.2.1 else if j = 3 then b2i q.2.2.2.1 else if j = 4 then n.2.2.2.1 i else n.2.2.2.2.1 i
def stpO (n : Pn) (x y : Int32) (M : Ms6) : Ou := if nIn x n.1.length = true then (if nIn y 6 = true then (match n.1[nX x]? with
  | none => .inl (100, 1)
  | some q => .inr (stpV n q (nX x) (nX y), M)) else .inl (100, 1)) else .inl (100, 1)
def oStep (M : Ms6) (x y : Int32) : Ou := match M.2.2.2.2.1 with
  | none => .inl (100, 1)
  | some n => stpO n x y M
section V
variable {X : bi_X} {d : Nat} {s : bi_St} {M : Ms6} {b b' a a' : Nat} {x y z : Int32}
theorem nIn_ge {n : Nat} (hn : n < 2147483648) (h : zI n ≤ x) : nIn x n = false := by
  unfold nIn
  rw [decide_eq_false (fun z => absurd (Int32.lt_of_lt_of_le z h) (Int32.lt_irrefl)), Bool.and_false]
theorem nIn_mk {n : Nat} (h : ¬ x < 0) (h2 : ¬ zI n ≤ x) : nIn x n = true := by
  unfold nIn
  rw [decide_eq_false h, decide_eq_true (Int32.not_le.mp h2)]; rfl
theorem isR_of (h : st_isB b) : st_isR (b + 8) := by rcases h with h | h <;> (unfold st_isR; omega)
theorem ct_costO {K : Int32 → bi_St → Prop} {E : Nat → bi_St → Prop} {C : Nat} {r : Int32} {P : Option Lp} (hb : st_isR b) (hr : rlo s b C r P) (hc : cso s b r P) (k : K (plI P) s) : cI X (d + 1) 68 [.ref b, .int r] s K E := by
  cases P with
  | none => have hr : r = -1 := hr; rw [hr]; exact ct_costOfN hb k
  | some P =>
    obtain ⟨n, e, h⟩ := hr
    have := rl_le h
    rw [e]
    refine ct_costOf hb h ?_
    rw [hc P n rfl e (by omega)]; exact k
theorem cC_policy (ho : okM M) (hC : RCl s b b' a a' M) : CtC X (d + 6) 130 [.ref 0, .int x, .int y] s M (oPolicy M x y) := CtC_ro ho hC (fun K E kT kF => by
  have hp8 : mp M ≤ 8 := ho.1.2.2.1
  refine en_X11_policy (ct_needPolicy hC (fun hx => ?_) (fun hx => kF 100 1 s (ifF hx) fsc.refl))
  obtain ⟨i, hi, e, enx⟩ := nIn_y (n := mp M) (by omega) hx
  have yes : ∀ n v u, nIn y 7 = true → nX y = n → polV M i n = v → fsc s u → K v u := fun n v u h1 h2 h3 hu => kT v u (by unfold oPolicy; rw [ifT hx, ifT h1, enx, h2, h3]) hu
  rw [hC.1.1.1, hC.1.1.2.2.1, e, zI_nat (by omega)]
  have hb := hC.1.2.1.1
  have hS := isS_31 hC.1.2.2.1
  have hB := hC.2.2.2.1.1.2.2.2.2 i hi
  have hX := hC.2.2.2.1.2.1 i hi
  have i8 : bi_in (zI i) 8 = true := in_zI (by omega) (by omega)
  refine ⟨fun z => ⟨hb, ct_bit (by omega) ?_⟩, fun n0 => ⟨fun z => ⟨hb, i8, ?_⟩, fun n1 => ⟨fun z => ⟨hb, i8, ?_⟩, fun n2 => ⟨fun z => ⟨hS, ct_bit (by omega) ?_⟩, fun n3 => ⟨fun z => ⟨hb, hb, i8, ct_costO (isR_of hb) hB.2.2.2.2.2.1 hX.1 ?_⟩, fun n4 => ⟨fun z => ⟨hb, hb, i8, ct_costO (isR_of hb) hB.2.2.2.2.2.2 hX.2 ?_⟩, fun n5 => ⟨fun z => ⟨hb, hS, ct_sitJ ho hC (fun t ft hJ => ct_weightC hJ hi (fun u hu => ?_))⟩, fun n6 => ?_⟩⟩⟩⟩⟩⟩⟩
  · subst z; exact yes 0 _ s rfl rfl (congrArg b2i hB.1.symm) fsc.refl
  · subst z; exact yes 1 _ s rfl rfl hB.2.1.symm fsc.refl
  · subst z; exact yes 2 _ s rfl rfl hB.2.2.1.symm fsc.refl
  · subst z; exact yes 3 _ s rfl rfl (congrArg (fun v => b2i (tb v i)) hC.2.2.2.2.1.1.2.2.2.1.2.2.2.1.symm) fsc.refl
  · subst z; exact yes 4 _ s rfl rfl rfl fsc.refl
  · subst z; exact yes 5 _ s rfl rfl rfl fsc.refl
  · subst z; exact yes 6 _ u rfl rfl rfl (ft.f hu wA_sc)
  · exact kF 100 1 s (by unfold oPolicy; rw [ifT hx, ifF (((((((nL0.s n0).s n1).s n2).s n3).s n4).s n5).s n6 |>.f (by omega))]) fsc.refl)
theorem cR_policy (ho : okM M) (hR : RRf s M) : CtR X (d + 6) 228 [.ref 77, .int x, .int y] s M (oPolicy M x y) := CtR_ro ho hR (fun K kT kF => by
  have hp8 : mp M ≤ 8 := ho.1.2.2.1
  have f0 : fsr s (st_p s 77 0 0) := fsr_0
  have h0 : st_g (st_p s 77 0 0) 77 0 = 0 := g_p_eq _ _ _ _
  have hT := RRf_sr ho hR f0
  refine en_X12_policy ?_
  generalize st_p s 77 0 (0 : Int32) = t at f0 h0 hT
  have no : oPolicy M x y = .inl (100, 1) → at_X12_policy_40 X (d + 6) K (fun _ _ => False) (st_p t 77 0 1) := fun e => go_X12_policy_40 (kF 100 1 0 _ e (f0.p (by omega) (by unfold impR impS; omega)) (g_p_eq _ _ _ _))
  rw [hT.2.1.1.2.2.1]
  refine ⟨fun h => ct_rightN h0 (by decide) ⟨fun _ => no (ifF (nIn_neg h)), fun z => absurd rfl z⟩, fun h => ⟨fun h2 => ct_rightN h0 (by decide) ⟨fun _ => no (ifF (nIn_ge (by omega) h2)), fun z => absurd rfl z⟩, fun h2 => ct_rightY h0 ⟨fun z => absurd z (by decide), fun _ => ?_⟩⟩⟩
  have hx : nIn x (mp M) = true := nIn_mk h h2
  refine ct_isWhat (n := 6) (by omega) h0 (fun hy => ⟨fun _ => ?_, fun z => absurd (by decide) z⟩) (fun hy => ⟨fun z => absurd rfl z, fun _ => no (by unfold oPolicy; rw [ifT hx, ifF hy])⟩)
  obtain ⟨i, hi, e, enx⟩ := nIn_y (by omega) hx
  obtain ⟨j, hj, e2, eny⟩ := nIn_y (by omega) hy
  have hB := hT.2.1.1.2.2.2 i hi
  have hX := hT.2.1.2.1 i hi
  have yes : ∀ n v u, nX y = n → polV M i n = v → fsr s u → st_g u 77 0 = 0 → K v u := fun n v u h2 h3 hu u0 => kT v u (by unfold oPolicy; rw [ifT hx, ifT hy, enx, h2, h3]) hu u0
  have e7 : ∀ k, (7 : Int32) * zI i + zI k = zI (7 * i + k) := fun k => by rw [show (7 : Int32) * zI i = zI (7 * i) from zI_mul 7 i, zI_add]
  have at7 : ∀ k, k < 7 → polV M i j = st_g t 83 (7 * i + k) → bi_in ((7 : Int32) * zI i + zI k) 56 = true ∧ K (st_g t 83 ((7 : Int32) * zI i + zI k).toNatClampNeg) t := fun k hk hv => by
    rw [e7, zI_nat (by omega)]
    exact ⟨in_zI (by omega) (by omega), yes j _ t eny hv f0 h0⟩
  rw [e]
  refine ⟨fun z => ⟨rfl, ?_⟩, fun n3 => ⟨fun z => at7 5 (by omega) ?_, fun n4 => ⟨fun z => at7 6 (by omega) ?_, fun n5 => ⟨fun z => ct_weightR (RC_of ho hT) hi (fun u hu => yes 6 _ u (by rw [z]; rfl) rfl (f0.f hu wT_sr) (fr0 hu rfl h0)), fun n6 => ?_⟩⟩⟩⟩
  · rw [tb_b2i (by omega)]
    have h6 : st_g t 90 6 = (mSt M).2.1 := hT.2.2.1.1.2.2.2.1
    exact yes 3 _ t (by rw [z]; rfl) (congrArg (fun v => b2i (tb v i)) h6.symm) f0 h0
  · rw [hX.1, show j = 4 by rw [z] at eny; exact eny.symm]; rfl
  · rw [hX.2, show j = 5 by rw [z] at eny; exact eny.symm]; rfl
  · have hj3 : j = 0 ∨ j = 1 ∨ j = 2 := by
      by_cases k3 : j = 3
      · rw [k3] at e2; exact absurd e2 n3
      by_cases k4 : j = 4
      · rw [k4] at e2; exact absurd e2 n4
      by_cases k5 : j = 5
      · rw [k5] at e2; exact absurd e2 n5
      by_cases k6 : j = 6
      · rw [k6] at e2; exact absurd e2 n6
      omega
    rw [e2]
    refine at7 j hj ?_
    rcases hj3 with hj | hj | hj <;> rw [hj]
    · exact hB.1.symm
    · exact hB.2.1.symm
    · exact hB.2.2.1.symm)
theorem cC_view (ho : okM M) (hC : RCl s b b' a a' M) : CtC X (d + 3) 131 [.ref 0, .int x, .int y] s M (oView M x y) := CtC_ro ho hC (fun K E kT kF => by
  have hv3 : mv M ≤ 3 := ho.1.2.2.2.1.1
  refine en_X11_view (ct_needView hC (fun hx => ?_) (fun hx => kF 100 1 s (ifF hx) fsc.refl))
  obtain ⟨w, hw, e, enx⟩ := nIn_y (n := mv M) (by omega) hx
  have yes : ∀ n v, nIn y 5 = true → nX y = n → vwV M w n = v → K v s := fun n v h1 h2 h3 => kT v s (by unfold oView; rw [ifT hx, ifT h1, enx, h2, h3]) fsc.refl
  rw [hC.1.1.1, e, zI_nat (by omega)]
  have hb := hC.1.2.1.1
  obtain ⟨c1, c2, c3, n, c4, c5⟩ := hC.2.2.2.1.2.2.1.2 w hw
  have i3 : bi_in (zI w) 3 = true := in_zI (by omega) (by omega)
  rw [c1, c3, c4]
  refine ⟨fun z => ⟨hb, i3, ?_⟩, fun n0 => ⟨fun z => ⟨hb, ct_bit (by omega) ?_⟩, fun n1 => ⟨fun z => ⟨hb, i3, ?_⟩, fun n2 => ⟨fun z => ⟨hb, hb, i3, ct_costOf (isR_of hb) c5.1 ?_⟩, fun n3 => ⟨fun z => ⟨hb, hb, i3, ct_isSilent (isR_of hb) c5.1 ?_⟩, fun n4 => ?_⟩⟩⟩⟩⟩
  · subst z; exact yes 0 _ rfl rfl rfl
  · subst z; rw [c2]; exact yes 1 _ rfl rfl rfl
  · subst z; exact yes 2 _ rfl rfl rfl
  · subst z; rw [c5.2.1]; exact yes 3 _ rfl rfl rfl
  · subst z
    rw [c5.2.2, b2i_ne0]
    have hy := yes 4 _ rfl rfl rfl
    refine ⟨fun z => ?_, fun z => ?_⟩
    · rw [show vwV M w 4 = 0 from (show b2i (mw M w).2.2.2.1 = 0 by rw [z]; rfl)] at hy; exact hy
    · rw [show vwV M w 4 = 1 from (show b2i (mw M w).2.2.2.1 = 1 by rw [(Bool.not_eq_false _).mp z]; rfl)] at hy; exact hy
  · exact kF 100 1 s (by unfold oView; rw [ifT hx, ifF (((((nL0.s n0).s n1).s n2).s n3).s n4 |>.f (by omega))]) fsc.refl)
theorem cR_view (ho : okM M) (hR : RRf s M) : CtR X (d + 3) 229 [.ref 77, .int x, .int y] s M (oView M x y) := CtR_ro ho hR (fun K kT kF => by
  have hv3 : mv M ≤ 3 := ho.1.2.2.2.1.1
  have f0 : fsr s (st_p s 77 0 0) := fsr_0
  have h0 : st_g (st_p s 77 0 0) 77 0 = 0 := g_p_eq _ _ _ _
  have hT := RRf_sr ho hR f0
  refine en_X12_view ?_
  generalize st_p s 77 0 (0 : Int32) = t at f0 h0 hT
  have no : oView M x y = .inl (100, 1) → K 0 (st_p t 77 0 1) := fun e => kF 100 1 0 _ e (f0.p (by omega) (by unfold impR impS; omega)) (g_p_eq _ _ _ _)
  rw [hT.2.1.2.2.1.1]
  refine ⟨fun h => ct_rightN h0 (by decide) ⟨fun _ => no (ifF (nIn_neg h)), fun z => absurd rfl z⟩, fun h => ⟨fun h2 => ct_rightN h0 (by decide) ⟨fun _ => no (ifF (nIn_ge (by omega) h2)), fun z => absurd rfl z⟩, fun h2 => ct_rightY h0 ⟨fun z => absurd z (by decide), fun _ => ?_⟩⟩⟩
  have hx : nIn x (mv M) = true := nIn_mk h h2
  refine ct_isWhat (n := 4) (by omega) h0 (fun hy => ⟨fun _ => ?_, fun z => absurd (by decide) z⟩) (fun hy => ⟨fun z => absurd rfl z, fun _ => no (by unfold oView; rw [ifT hx, ifF hy])⟩)
  obtain ⟨w, hw, e, enx⟩ := nIn_y (by omega) hx
  obtain ⟨j, hj, e2, eny⟩ := nIn_y (by omega) hy
  obtain ⟨c1, c2, c3, -, c4, c5⟩ := hT.2.1.2.2.1.2 w hw
  have yes : ∀ v, vwV M w j = v → K v t := fun v h3 => kT v t (by unfold oView; rw [ifT hx, ifT hy, enx, eny, h3]) f0 h0
  have e6 : (6 : Int32) * zI w = zI (6 * w) := zI_mul 6 w
  rw [e, e2, e6, show (3 : Int32) = zI 3 from rfl, zI_le (by omega) (by omega), zI_add1, zI_add, zI_add, zI_nat (by omega), zI_nat (by omega)]
  refine ⟨fun h3 => ⟨in_zI (by omega) (by omega), yes _ ?_⟩, fun h3 => ⟨in_zI (by omega) (by omega), yes _ ?_⟩⟩
  · have : j = 3 ∨ j = 4 := by omega
    rcases this with rfl | rfl
    · exact c4.symm
    · exact c5.symm
  · have : j = 0 ∨ j = 1 ∨ j = 2 := by omega
    rcases this with rfl | rfl | rfl
    · exact c1.symm
    · exact c2.symm
    · exact c3.symm)
theorem cC_asked (ho : okM M) (hC : RCl s b b' a a' M) : CtC X (d + 3) 132 [.ref 0, .int x] s M (oAsked M x) := CtC_ro ho hC (fun K E kT kF => by
  refine en_X11_asked ⟨fun h => kF 100 1 s (ifF (nIn_neg h)) fsc.refl, fun h => ⟨fun h2 => ?_, fun h2 => kF 100 1 s (ifF (nIn_gt (n := 7) (by omega) h2)) fsc.refl⟩⟩
  have hx : nIn x 8 = true := nIn_le (n := 7) (by omega) h h2
  have hpl := hC.2.2.2.2.2.2.1
  have hok := ho.2.2.2
  obtain ⟨j, hj, e, enx⟩ := nIn_y (by omega) hx
  rw [hpl.1]
  have yes : ∀ v, askO M.2.2.2.2.1 j = v → K v s := fun v hv => kT v s (by unfold oAsked; rw [ifT hx, enx, hv]) fsc.refl
  revert yes hpl hok
  cases M.2.2.2.2.1 with
  | none => intro hpl hok yes; exact ⟨fun _ => yes _ rfl, fun z => absurd rfl z⟩
  | some n =>
    intro hpl hok yes
    obtain ⟨a1, a2, a3, a4, a5, a6, a7⟩ := hpl.2.1
    refine ⟨fun z => absurd z (show ¬ (1 : Int32) = 0 by decide), fun _ => en_X3_outcome ?_⟩
    rw [a1, a2, a3, a4, a5, a6, a7, e]
    refine ⟨fun z => ?_, fun n0 => ⟨fun z => ?_, fun n1 => ⟨fun z => ?_, fun n2 => ⟨fun z => ?_, fun n3 => ⟨fun z => ?_, fun n4 => ⟨fun z => ?_, fun n5 => ⟨fun z => ?_, fun n6 => ?_⟩⟩⟩⟩⟩⟩⟩
    · have hj := (zI_eq (b := 0) (by omega) (by omega)).mp z
      rw [hj] at yes
      refine ⟨fun h => yes _ ?_, fun h => ct_bitCount hok.2 (yes _ ?_)⟩
      · show (if _ then _ else _) = _; rw [if_neg h]
      · show (if _ then _ else _) = _; rw [if_pos (Decidable.of_not_not h)]
    · have hj := (zI_eq (b := 1) (by omega) (by omega)).mp z; rw [hj] at yes; exact yes _ rfl
    · have hj := (zI_eq (b := 2) (by omega) (by omega)).mp z; rw [hj] at yes; exact yes _ rfl
    · have hj := (zI_eq (b := 3) (by omega) (by omega)).mp z; rw [hj] at yes; exact yes _ rfl
    · have hj := (zI_eq (b := 4) (by omega) (by omega)).mp z; rw [hj] at yes; exact yes _ rfl
    · have hj := (zI_eq (b := 5) (by omega) (by omega)).mp z; rw [hj] at yes; exact yes _ rfl
    · have hj := (zI_eq (b := 6) (by omega) (by omega)).mp z; rw [hj] at yes; exact yes _ rfl
    · have hj7 : j = 7 := by
        by_cases h : j < 7
        · exact absurd rfl ((((((((nL0.s n0).s n1).s n2).s n3).s n4).s n5).s n6) j h)
        · omega
      rw [hj7] at yes; exact yes _ rfl)
theorem cR_asked (ho : okM M) (hR : RRf s M) : CtR X (d + 3) 238 [.ref 77, .int x] s M (oAsked M x) := CtR_ro ho hR (fun K kT kF => by
  have f0 : fsr s (st_p s 77 0 0) := fsr_0
  have h0 : st_g (st_p s 77 0 0) 77 0 = 0 := g_p_eq _ _ _ _
  have hT := RRf_sr ho hR f0
  refine en_X12_asked ?_
  generalize st_p s 77 0 (0 : Int32) = t at f0 h0 hT
  refine ct_isWhat (n := 7) (by omega) h0 (fun hx => ⟨fun _ => ?_, fun z => absurd (by decide) z⟩) (fun hx => ⟨fun z => absurd rfl z, fun _ => kF 100 1 0 _ (ifF hx) (f0.p (by omega) (by unfold impR impS; omega)) (g_p_eq _ _ _ _)⟩)
  have hpl := hT.2.2.2.1
  obtain ⟨j, hj, e, enx⟩ := nIn_y (by omega) hx
  rw [hpl.1]
  have yes : ∀ v, askO M.2.2.2.2.1 j = v → K v t := fun v hv => kT v t (by unfold oAsked; rw [ifT hx, enx, hv]) f0 h0
  revert yes hpl
  cases M.2.2.2.2.1 with
  | none => intro hpl yes; exact ⟨fun _ => yes _ rfl, fun z => absurd rfl z⟩
  | some n =>
    intro hpl yes
    obtain ⟨-, a0, a1, a2, a3, a4, a5, a6, a7⟩ := hpl.2.1
    refine ⟨fun z => absurd z (show ¬ (1 : Int32) = 0 by decide), fun _ => ?_⟩
    rw [e, zI_nat (by omega)]
    refine ⟨in_zI (by omega) (by omega), yes _ ?_⟩
    have : j = 0 ∨ j = 1 ∨ j = 2 ∨ j = 3 ∨ j = 4 ∨ j = 5 ∨ j = 6 ∨ j = 7 := by omega
    rcases this with rfl | rfl | rfl | rfl | rfl | rfl | rfl | rfl
    · exact a0.symm
    · exact a1.symm
    · exact a2.symm
    · exact a3.symm
    · exact a4.symm
    · exact a5.symm
    · exact a6.symm
    · exact a7.symm)
theorem cC_step (ho : okM M) (hC : RCl s b b' a a' M) : CtC X (d + 3) 133 [.ref 0, .int x, .int y] s M (oStep M x y) := CtC_ro ho hC (fun K E kT kF => by
  have hpl := hC.2.2.2.2.2.2.1
  have hst := hC.2.2.2.2.2.1
  have hok := ho.2.2.2
  refine en_X11_step ?_
  rw [hpl.1]
  have yes : ∀ v, oStep M x y = .inr (v, M) → K v s := fun v hv => kT v s hv fsc.refl
  have no : oStep M x y = .inl (100, 1) → E 100 (st_ex s) := fun hv => kF 100 1 s hv fsc.refl
  unfold oStep at yes no
  revert yes no hpl hok
  cases M.2.2.2.2.1 with
  | none => intro hpl hok yes no; exact ⟨fun _ => no rfl, fun z => absurd rfl z⟩
  | some n =>
    intro hpl hok yes no
    have yes : ∀ v, stpO n x y M = .inr (v, M) → K v s := yes
    have no : stpO n x y M = .inl (100, 1) → E 100 (st_ex s) := no
    have hl := hok.1
    refine ⟨fun z => absurd z (show ¬ (1 : Int32) = 0 by decide), fun _ => ?_⟩
    rw [hpl.2.1.1]
    refine ⟨fun h => no (ifF (nIn_neg h)), fun h => ⟨fun h2 => no (ifF (nIn_ge (by omega) h2)), fun h2 => ?_⟩⟩
    have hx : nIn x n.1.length = true := nIn_mk h h2
    refine ⟨fun h => no (by unfold stpO; rw [ifT hx, ifF (nIn_neg h)]), fun h => ⟨fun h2 => ?_, fun h2 => no (by unfold stpO; rw [ifT hx, ifF (nIn_gt (n := 5) (by omega) h2)])⟩⟩
    have hy : nIn y 6 = true := nIn_le (n := 5) (by omega) h h2
    obtain ⟨i, hi, e, enx⟩ := nIn_y (by omega) hx
    obtain ⟨j, hj, e2, eny⟩ := nIn_y (by omega) hy
    have hq := List.getElem?_eq_getElem hi
    generalize n.1[i] = q at hq
    obtain ⟨b1, b2, b3, b4, b5, b6⟩ := hpl.2.2 i q hq
    have yes : ∀ v, stpV n q i j = v → K v s := fun v hv => yes v (by unfold stpO; rw [ifT hx, ifT hy, enx, hq, eny, ← hv])
    rw [e, zI_nat (by omega)]
    refine ⟨in_zI (by omega) (by omega), hst.1 i (by omega), en_X7_detail (hst.1 i (by omega)) ?_⟩
    rw [b1, b2, b3, b4, b5, b6, e2, b2i_ne0]
    refine ⟨fun z => ?_, fun n0 => ⟨fun z => ?_, fun n1 => ⟨fun z => ?_, fun n2 => ⟨fun z => ?_, fun n3 => ⟨fun z => ?_, fun n4 => ?_⟩⟩⟩⟩⟩
    · have hj := (zI_eq (b := 0) (by omega) (by omega)).mp z; rw [hj] at yes; exact yes _ rfl
    · have hj := (zI_eq (b := 1) (by omega) (by omega)).mp z; rw [hj] at yes; exact yes _ rfl
    · have hj := (zI_eq (b := 2) (by omega) (by omega)).mp z; rw [hj] at yes; exact yes _ rfl
    · have hj := (zI_eq (b := 3) (by omega) (by omega)).mp z; rw [hj] at yes
      exact ⟨fun z => yes _ (show b2i q.2.2.2.1 = 0 by rw [z]; rfl), fun z => yes _ (show b2i q.2.2.2.1 = 1 by rw [(Bool.not_eq_false _).mp z]; rfl)⟩
    · have hj := (zI_eq (b := 4) (by omega) (by omega)).mp z; rw [hj] at yes; exact yes _ rfl
    · have hj5 : j = 5 := by
        by_cases h : j < 5
        · exact absurd rfl ((((((nL0.s n0).s n1).s n2).s n3).s n4) j h)
        · omega
      rw [hj5] at yes; exact yes _ rfl)
theorem cR_step (ho : okM M) (hR : RRf s M) : CtR X (d + 3) 239 [.ref 77, .int x, .int y] s M (oStep M x y) := CtR_ro ho hR (fun K kT kF => by
  have f0 : fsr s (st_p s 77 0 0) := fsr_0
  have h0 : st_g (st_p s 77 0 0) 77 0 = 0 := g_p_eq _ _ _ _
  have hT := RRf_sr ho hR f0
  have hok := ho.2.2.2
  refine en_X12_step ?_
  generalize st_p s 77 0 (0 : Int32) = t at f0 h0 hT
  have hpl := hT.2.2.2.1
  rw [hpl.1]
  have yes : ∀ v, oStep M x y = .inr (v, M) → K v t := fun v hv => kT v t hv f0 h0
  have no : oStep M x y = .inl (100, 1) → at_X12_step_46 X (d + 3) K (fun _ _ => False) (st_p t 77 0 1) := fun e => go_X12_step_46 (kF 100 1 0 _ e (f0.p (by omega) (by unfold impR impS; omega)) (g_p_eq _ _ _ _))
  unfold oStep at yes no
  revert yes no hpl hok
  cases M.2.2.2.2.1 with
  | none => intro hok hpl yes no; exact ⟨fun _ => ct_rightN h0 (by decide) ⟨fun _ => no rfl, fun z => absurd rfl z⟩, fun z => absurd rfl z⟩
  | some n =>
    intro hok hpl yes no
    have yes : ∀ v, stpO n x y M = .inr (v, M) → K v t := yes
    have no : stpO n x y M = .inl (100, 1) → at_X12_step_46 X (d + 3) K (fun _ _ => False) (st_p t 77 0 1) := no
    have hl := hok.1
    refine ⟨fun z => absurd z (show ¬ (1 : Int32) = 0 by decide), fun _ => ?_⟩
    rw [hpl.2.1.1]
    refine ⟨fun h => ct_rightN h0 (by decide) ⟨fun _ => no (ifF (nIn_neg h)), fun z => absurd rfl z⟩, fun h => ⟨fun h2 => ct_rightN h0 (by decide) ⟨fun _ => no (ifF (nIn_ge (by omega) h2)), fun z => absurd rfl z⟩, fun h2 => ct_rightY h0 ⟨fun z => absurd z (by decide), fun _ => ?_⟩⟩⟩
    have hx : nIn x n.1.length = true := nIn_mk h h2
    refine ct_isWhat (n := 5) (by omega) h0 (fun hy => ⟨fun _ => ?_, fun z => absurd (by decide) z⟩) (fun hy => ⟨fun z => absurd rfl z, fun _ => no (by unfold stpO; rw [ifT hx, ifF hy])⟩)
    obtain ⟨i, hi, e, enx⟩ := nIn_y (by omega) hx
    obtain ⟨j, hj, e2, eny⟩ := nIn_y (by omega) hy
    have hq := List.getElem?_eq_getElem hi
    generalize n.1[i] = q at hq
    obtain ⟨b1, b2, b3, b4, b5, b6⟩ := hpl.2.2 i q hq
    have yes : ∀ v, stpV n q i j = v → K v t := fun v hv => yes v (by unfold stpO; rw [ifT hx, ifT hy, enx, hq, eny, ← hv])
    have e6 : (6 : Int32) * zI i = zI (6 * i) := zI_mul 6 i
    rw [e, e2, e6, show (4 : Int32) = zI 4 from rfl, zI_le (by omega) (by omega), zI_add, zI_nat (by omega), zI_nat (by omega), zI_eq (by omega) (by omega)]
    refine ⟨fun h4 => ⟨fun n4 => ⟨in_zI (by omega) (by omega), yes _ ?_⟩, fun k4 => ⟨in_zI (by omega) (by omega), yes _ ?_⟩⟩, fun h4 => ⟨in_zI (by omega) (by omega), yes _ ?_⟩⟩
    · rw [show j = 5 by omega]; exact b6.symm
    · rw [show j = 4 by omega]; exact b5.symm
    · have : j = 0 ∨ j = 1 ∨ j = 2 ∨ j = 3 := by omega
      rcases this with rfl | rfl | rfl | rfl
      · exact b1.symm
      · exact b2.symm
      · exact b3.symm
      · exact b4.symm)
end V
end RO4
