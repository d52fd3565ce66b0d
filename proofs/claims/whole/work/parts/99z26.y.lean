/-! ===== years ===== -/
section YRS
def yS (C R p : Nat) (f : Nat → Pol) (q : Sta × Int32 × Int32) : Nat → Sta × Int32 × Int32
  | 0 => q
  | n + 1 => ((yr C R p f (yS C R p f q n).1 (yS C R p f q n).2.1).2.1, (yr C R p f (yS C R p f q n).1 (yS C R p f q n).2.1).2.2, (yS C R p f q n).2.2 + b2i (yr C R p f (yS C R p f q n).1 (yS C R p f q n).2.1).1)
theorem yS_s {C R p : Nat} {f : Nat → Pol} {q : Sta × Int32 × Int32} {n : Nat} : yS C R p f q (n + 1) = ((yr C R p f (yS C R p f q n).1 (yS C R p f q n).2.1).2.1, (yr C R p f (yS C R p f q n).1 (yS C R p f q n).2.1).2.2, (yS C R p f q n).2.2 + b2i (yr C R p f (yS C R p f q n).1 (yS C R p f q n).2.1).1) := by rw [yS]
theorem pr1 {α β : Type} (a : α) (b : β) : (a, b).1 = a := rfl
theorem pr2 {α β : Type} (a : α) (b : β) : (a, b).2 = b := rfl
theorem yS_1 {C R p : Nat} {f : Nat → Pol} {q : Sta × Int32 × Int32} {n : Nat} : (yS C R p f q (n + 1)).1 = (yr C R p f (yS C R p f q n).1 (yS C R p f q n).2.1).2.1 := (congrArg Prod.fst yS_s).trans (pr1 _ _)
theorem yS_2 {C R p : Nat} {f : Nat → Pol} {q : Sta × Int32 × Int32} {n : Nat} : (yS C R p f q (n + 1)).2.1 = (yr C R p f (yS C R p f q n).1 (yS C R p f q n).2.1).2.2 := (congrArg Prod.fst ((congrArg Prod.snd yS_s).trans (pr2 _ _))).trans (pr1 _ _)
theorem yS_3 {C R p : Nat} {f : Nat → Pol} {q : Sta × Int32 × Int32} {n : Nat} : (yS C R p f q (n + 1)).2.2 = (yS C R p f q n).2.2 + b2i (yr C R p f (yS C R p f q n).1 (yS C R p f q n).2.1).1 := (congrArg Prod.snd ((congrArg Prod.snd yS_s).trans (pr2 _ _))).trans (pr2 _ _)
theorem yS_0 {C R p : Nat} {f : Nat → Pol} {q : Sta × Int32 × Int32} : yS C R p f q 0 = q := by rw [yS]
def yE (M : Ms6) (x : Int32) (n : Nat) : Sta × Int32 × Int32 := if mR M = 0 then (mSt M, x, 0) else yS (mC M) (mR M) (mp M) (mf M) (mSt M, x, 0) n
def yV (M : Ms6) (q : Sta × Int32 × Int32) (y : Int32) : Int32 := if y = 0 then q.2.2 else if y = 1 then zI q.1.2.2.1 else zI (sg (mR M) (mp M) (mf M) q.1)
def oYears (M : Ms6) (x n y : Int32) : Ou := if nIn y 3 = true then (if nIn n 61 = true then .inr (yV M (yE M x (nX n)) y, M) else .inl (101, 2)) else .inl (100, 1)
def fs4 (s t : bi_St) : Prop := t.1 = s.1 ∧ (∀ c k, (c < 45 ∨ (51 ≤ c ∧ c < 57) ∨ 64 < c) → st_g t c k = st_g s c k) ∧ (∀ i, i ≠ 7 → i ≠ 8 → st_gp t i = st_gp s i) ∧ ∀ k, st_gl t 112 k = st_gl s 112 k
theorem fs4.trans {s t u : bi_St} (h : fs4 s t) (k : fs4 t u) : fs4 s u := ⟨k.1.trans h.1, fun c q hc => (k.2.1 c q hc).trans (h.2.1 c q hc), fun i h1 h2 => (k.2.2.1 i h1 h2).trans (h.2.2.1 i h1 h2), fun q => (k.2.2.2 q).trans (h.2.2.2 q)⟩
theorem fs4.f {V : Nat → Nat → Bool} {s t u : bi_St} (h : fs4 s t) (k : fr V t u) (hv : ∀ c q, (c < 45 ∨ (51 ≤ c ∧ c < 57) ∨ 64 < c) → V c q = false) : fs4 s u := h.trans ⟨k.1, fun c q hc => k.g (hv c q hc), fun i _ _ => k.2.1 i, fun q => k.2.2.2 112 q (Or.inl (hv 112 q (by omega)))⟩
theorem wYr_s4 : ∀ c q, (c < 45 ∨ (51 ≤ c ∧ c < 57) ∨ 64 < c) → wYr c q = false := fun c q h => by
  unfold wYr
  rw [wY_ne (by omega) (by omega) (by omega) (by omega) (by omega) (by omega) (by omega), beq_ne (show c ≠ 61 by omega)]; rfl
theorem RCl_s4 {s t : bi_St} {b b' a a' : Nat} {M : Ms6} (ho : okM M) (h : RCl s b b' a a' M) (k : fs4 s t) : RCl t b b' a a' M :=
  RCl_keep ho h (fun c q hh => k.2.1 c q (by
    have hb := isB_r h.1.2.1.1; have hb' := isB_r h.1.2.1.2.1; have ha := h.1.2.2.1
    unfold impC at hh; omega)) (fun i hi => k.2.2.1 i (by omega) (by omega))
section V
variable {X : bi_X} {d : Nat} {s : bi_St} {M : Ms6} {b b' a a' : Nat} {x y n : Int32}
theorem yV0 {q : Sta × Int32 × Int32} : yV M q 0 = q.2.2 := rfl
theorem yV1 {q : Sta × Int32 × Int32} : yV M q 1 = zI q.1.2.2.1 := rfl
theorem yV2 {q : Sta × Int32 × Int32} (h0 : ¬ y = 0) (h1 : ¬ y = 1) : yV M q y = zI (sg (mR M) (mp M) (mf M) q.1) := by unfold yV; rw [if_neg h0, if_neg h1]
theorem cC_years (ho : okM M) (hC : RCl s b b' a a' M) : CtC X (d + 7) 149 [.ref 0, .int x, .int n, .int y] s M (oYears M x n y) := fun K E kT kF => by
  have hR6 : mR M ≤ 6 := ho.1.2.1
  have hb := isB_r hC.1.2.1.1
  have hb' := isB_r hC.1.2.1.2.1
  have ha := hC.1.2.2.1
  have no : ∀ e c, oYears M x n y = .inl (e, c) → E e (st_ex s) := fun e c h => kF e c _ b b' a a' h (fcl_ex fsc.refl) (RCl_ex ho hC)
  refine en_X11_years (ct_need (n := 3) rfl (fun hy => ⟨fun h => no 101 2 (by unfold oYears; rw [ifT hy, ifF (nIn_neg h)]), fun h => ⟨fun h2 => ?_, fun h2 => no 101 2 (by unfold oYears; rw [ifT hy, ifF (nIn_gt (n := 60) (by omega) h2)])⟩⟩) (fun hy => no 100 1 (ifF hy)))
  have hn : nIn n 61 = true := nIn_le (n := 60) (by omega) h h2
  obtain ⟨N, hN, e, en0⟩ := nIn_y (by omega) hn
  have hv : oYears M x n y = .inr (yV M (yE M x N) y, M) := by unfold oYears; rw [ifT hy, ifT hn, en0]
  rw [hC.1.1.2.2.1]
  refine ⟨isS_31 ha, ct_copyFrom (show st_isS 45 by unfold st_isS; omega) (isS_31 ha) (by omega) hC.2.2.2.2.1 (fun t t1 tp tg tl hS => ?_)⟩
  have f1 : fs4 s t := ⟨t1, fun c k hc => tg c k (by omega), fun i _ _ => tp i, fun k => tl 112 k⟩
  have hT := RCl_s4 ho hC f1
  rw [hT.1.1.1]
  refine ⟨hC.1.2.1.1, ct_sit hC.1.2.1.1 (show st_isS 45 by unfold st_isS; omega) (fun u hu h58 => ?_)⟩
  have g : ∀ c q, c ≠ 58 → st_g u c q = st_g t c q := fun c q hc => by rw [hu.g (beq_ne hc)]; rfl
  have gu : ∀ c q, c ≠ 58 → c ≠ 61 → st_g (st_p u 61 1 x) c q = st_g t c q := fun c q h1 h2 => by rw [g_p_a h2]; exact g c q h1
  have hSC := hS.1.2.2.2.1
  have hJ : JC (st_p u 61 1 x) b 45 (mC M) (mR M) (mp M) (mf M) (mSt M) := by
    refine ⟨BC_fr (fun c q h1 h2 => gu _ _ (by omega) (by omega)) hT.2.2.2.1.1, ?_, ?_, SC_fr (fun c q h1 h2 => gu _ _ (by omega) (by omega)) hSC, by rw [gu _ _ (by omega) (by omega)]; exact hT.2.2.2.1.2.2.2.2, hR6, fun v hv => ?_⟩
    · rw [show st_gp (st_p u 61 1 x) 7 = st_gp u 7 from rfl, hu.2.1, gp_pp, if_neg (by omega), gp_pp, if_pos rfl]
    · rw [show st_gp (st_p u 61 1 x) 8 = st_gp u 8 from rfl, hu.2.1, gp_pp, if_pos rfl]
    · rw [g_p_a (by omega), h58 v hv]
      exact clo_congr (fun r hr => hSC.2.2.2.2.1 r hr) _
  have hA : HA (st_p u 61 1 x) 45 (mC M) (mH M).length (mSt M) (mH M) := HA_fr (fun c q h1 h2 => gu _ _ (by omega) (by omega)) hS.1
  have h61 : st_g (st_p u 61 1 x) 61 1 = x := g_p_eq _ _ _ _
  have f2 : fs4 s (st_p u 61 1 x) := f1.trans ⟨hu.1, fun c k hc => gu c k (by omega) (by omega), fun i h1 h2 => by rw [show st_gp (st_p u 61 1 x) i = st_gp u i from rfl, hu.2.1, gp_pp, if_neg h2, gp_pp, if_neg h1], fun q => by rw [show st_gl (st_p u 61 1 x) 112 q = st_gl u 112 q from rfl, hu.2.2.2 112 q (Or.inl rfl)]; rfl⟩
  generalize st_p u 61 1 x = u at hJ hA h61 f2
  have fin : ∀ q t, fs4 s t → JC t b 45 (mC M) (mR M) (mp M) (mf M) q.1 → yE M x N = q → ((¬ y = 0) → ((¬ y = (1 : Int32)) → cI X (d + 6) 3 [.ref 62] t (fun (r4 : Int32) (s4 : bi_St) => K r4 s4) (fun _ _ => False)) ∧ (¬ (¬ y = (1 : Int32)) → K (st_g t 45 0) t)) ∧ (¬ (¬ y = 0) → K q.2.2 t) := fun q t ft hj hq => by
    have yes : ∀ v t, yV M q y = v → fs4 s t → K v t := fun v t hv2 ft => kT v M t b b' a a' (by rw [hv, hq, hv2]) ⟨by rw [ft.1]; exact ⟨rfl, rfl⟩, fun c k hc => ft.2.1 c k (by omega), ft.2.2.2⟩ (RCl_s4 ho hC ft)
    refine ⟨fun h0 => ⟨fun h1 => ct_sightsC hj (fun w hw => yes _ w (yV2 h0 h1) (ft.f hw (fun c q hc => wA_sc c q (by omega)))), fun h1 => ?_⟩, fun h0 => ?_⟩
    · have h1 := Decidable.of_not_not h1
      refine yes _ t ?_ ft
      rw [h1]; exact hj.2.2.2.1.2.2.1.symm
    · have h0 := Decidable.of_not_not h0
      exact yes _ t (by rw [h0]; rfl) ft
  rw [e]
  by_cases hR0 : mR M = 0
  · refine go_X11_years_63 ?_
    have hq : yE M x N = (mSt M, x, 0) := if_pos hR0
    have hTu := RCl_s4 ho hC f2
    rw [hTu.1.1.1, hTu.2.2.2.1.2.2.2.2, show M.2.1.2.1 = 0 from hR0]
    exact ⟨fun _ => fin _ u f2 hJ hq, fun _ => ⟨hC.1.2.1.1, ⟨fun _ => fin _ u f2 hJ hq, fun z => absurd (show (zI 0 : Int32) ≤ 0 by decide) z⟩⟩⟩
  · have hq : yE M x N = yS (mC M) (mR M) (mp M) (mf M) (mSt M, x, 0) N := if_neg hR0
    have loop : ∀ m i t m' H', m + i = N → fs4 s t → JC t b 45 (mC M) (mR M) (mp M) (mf M) (yS (mC M) (mR M) (mp M) (mf M) (mSt M, x, 0) i).1 → HA t 45 (mC M) m' (yS (mC M) (mR M) (mp M) (mf M) (mSt M, x, 0) i).1 H' → st_g t 61 1 = (yS (mC M) (mR M) (mp M) (mf M) (mSt M, x, 0) i).2.1 → at_X11_years_63 X (d + 7) K E t (zI N) y (yS (mC M) (mR M) (mp M) (mf M) (mSt M, x, 0) i).2.2 (zI i) := by
      intro m
      induction m with
      | zero =>
        intro i t m' H' h1 ft hj hA h61
        refine go_X11_years_63 ?_
        rw [zI_le (by omega) (by omega)]
        exact ⟨fun _ => fin _ t ft hj (by rw [hq, show N = i by omega]), fun h => by omega⟩
      | succ m ih =>
        intro i t m' H' h1 ft hj hA h61
        refine go_X11_years_63 ?_
        have hTt := RCl_s4 ho hC ft
        rw [zI_le (by omega) (by omega), hTt.1.1.1, hTt.2.2.2.1.2.2.2.2]
        refine ⟨fun h => by omega, fun _ => ⟨hC.1.2.1.1, ⟨fun h => ?_, fun _ => ct_passYear hj hA hTt.2.2.2.1.2.2.2.1 ho.1.1.1 (by omega) h61 (fun w m2 H2 hw hj2 hA2 h612 => ?_)⟩⟩⟩
        · have : mR M ≤ 0 := (zI_le (b := 0) (show mR M < _ by omega) (by omega)).mp h
          omega
        · have := ih (i + 1) w m2 H2 (by omega) (ft.f hw wYr_s4) (by rw [yS_1]; exact hj2) (by rw [yS_1]; exact hA2) (by rw [yS_2]; exact h612)
          rw [yS_3] at this
          rw [zI_add1, b2i_ne0]
          refine ⟨fun hz => ?_, fun hz => ?_⟩
          · rw [show (yr (mC M) (mR M) (mp M) (mf M) (yS (mC M) (mR M) (mp M) (mf M) (mSt M, x, 0) i).1 (yS (mC M) (mR M) (mp M) (mf M) (mSt M, x, 0) i).2.1).1 = false from hz] at this; exact this
          · rw [show (yr (mC M) (mR M) (mp M) (mf M) (yS (mC M) (mR M) (mp M) (mf M) (mSt M, x, 0) i).1 (yS (mC M) (mR M) (mp M) (mf M) (mSt M, x, 0) i).2.1).1 = true from (Bool.not_eq_false _).mp hz] at this; exact this
    have k := loop N 0 u (mH M).length (mH M) (by omega) f2 (by rw [yS_0]; exact hJ) (by rw [yS_0]; exact hA) (by rw [yS_0]; exact h61)
    rw [yS_0] at k; exact k
theorem wHp_sr : ∀ c q, (c < 77 ∨ impR c q ∨ impS c q ∨ c = 79 ∨ c = 112) → wHp c q = false := fun c q h => by
  cases hv : wHp c q
  · rfl
  · unfold wHp wX at hv
    rw [wF_sr c q h] at hv
    simp only [Bool.false_or, Bool.or_eq_true, Bool.and_eq_true, Nat.beq_eq, Nat.ble_eq] at hv; unfold impR impS at h; omega
theorem cR_years (ho : okM M) (hR : RRf s M) : CtR X (d + 6) 265 [.ref 77, .int x, .int n, .int y] s M (oYears M x n y) := CtR_ro ho hR (fun K kT kF => by
  have hR6 : mR M ≤ 6 := ho.1.2.1
  have hC4 : mC M ≤ 4 := ho.1.1.2
  have f0 : fsr s (st_p s 77 0 0) := fsr_0
  have h0 : st_g (st_p s 77 0 0) 77 0 = 0 := g_p_eq _ _ _ _
  have hT := RRf_sr ho hR f0
  refine en_X12_years ?_
  generalize st_p s 77 0 (0 : Int32) = t at f0 h0 hT
  refine ct_isWhat (n := 2) (by omega) h0 (fun hy => ⟨fun z => absurd z (by decide), fun _ => ct_withinR (n := 60) (by omega) (ct_rightB (n := 2) h0 (by omega) (fun hn => ⟨fun _ => ct_tries (fun v hv h72 => ?_), fun z => absurd (by decide) z⟩) (fun hn => ⟨fun z => absurd rfl z, fun _ => kF 101 2 0 _ (by unfold oYears; rw [ifT hy, ifF hn]) (f0.p (by omega) (by unfold impR impS; omega)) (g_p_eq _ _ _ _)⟩))⟩) (fun hy => ⟨fun _ => kF 100 1 0 _ (ifF hy) (f0.p (by omega) (by unfold impR impS; omega)) (g_p_eq _ _ _ _), fun z => absurd rfl z⟩)
  obtain ⟨N, hN, e, en0⟩ := nIn_y (by omega) hn
  have hv' : oYears M x n y = .inr (yV M (yE M x N) y, M) := by unfold oYears; rw [ifT hy, ifT hn, en0]
  have w72 : ∀ c q, (c < 77 ∨ impR c q ∨ impS c q ∨ c = 79 ∨ c = 112) → (Nat.beq c 90 && Nat.ble 72 q) = false := fun c q h => by
    cases hv : (Nat.beq c 90 && Nat.ble 72 q)
    · rfl
    · simp only [Bool.and_eq_true, Nat.beq_eq, Nat.ble_eq] at hv; unfold impR impS at h; omega
  have fv : fsr s (st_p v 77 65 x) := (f0.f hv w72).p (by omega) (by unfold impR impS; omega)
  have v0 : st_g (st_p v 77 65 x) 77 0 = 0 := by rw [g_p_k (by omega)]; exact fr0 hv rfl h0
  have hTv := RRf_sr ho hR fv
  have hc0 := RC_of ho hTv
  have hS72 : SR (st_p v 77 65 x) 72 (mC M) (mSt M) := (SN_SR (by omega)).mp (SN_cp (s := t) (w := 90) (b := 0) hC4 (fun q hq => by rw [g_p_a (by omega), h72 q hq, Nat.zero_add]) ((SN_SR (by omega)).mpr hT.2.2.1.1))
  have hc : RC (st_p v 77 65 x) 72 (mC M) (mR M) (mp M) (mf M) (mSt M) := ⟨hc0.1, hS72, hc0.2.2.1, hc0.2.2.2⟩
  have h65 : st_g (st_p v 77 65 x) 77 65 = x := g_p_eq _ _ _ _
  generalize st_p v 77 65 x = u at fv v0 hTv hc h65
  have fin : ∀ q t, fsr s t → st_g t 77 0 = 0 → RC t 72 (mC M) (mR M) (mp M) (mf M) q.1 → yE M x N = q → ((¬ y = 0) → ((¬ y = (1 : Int32)) → cI X (d + 5) 218 [.ref 77, .int (72 : Int32)] t (fun (r5 : Int32) (s5 : bi_St) => K r5 s5) (fun _ _ => False)) ∧ (¬ (¬ y = (1 : Int32)) → bi_in (79 : Int32) 144 = true ∧ (K (st_g t 90 ((79 : Int32)).toNatClampNeg) t))) ∧ (¬ (¬ y = 0) → K q.2.2 t) := fun q t ft t0 hj hq => by
    have yes : ∀ v t, yV M q y = v → fsr s t → st_g t 77 0 = 0 → K v t := fun v t hv2 ft t0 => kT v t (by rw [hv', hq, hv2]) ft t0
    refine ⟨fun h0 => ⟨fun h1 => ct_sightsR (b0 := 72) hj (fun w hw => yes _ w (yV2 h0 h1) (ft.f hw wF_sr) (fr0 hw rfl t0)), fun h1 => ⟨rfl, ?_⟩⟩, fun h0 => ?_⟩
    · have h1 := Decidable.of_not_not h1
      refine yes _ t ?_ ft t0
      rw [h1]; exact hj.2.1.2.2.1.symm
    · have h0 := Decidable.of_not_not h0
      exact yes _ t (by rw [h0]; rfl) ft t0
  rw [e]
  by_cases hR0 : mR M = 0
  · refine go_X12_years_46 ?_
    have hq : yE M x N = (mSt M, x, 0) := if_pos hR0
    rw [hTv.2.1.2.2.2.2, show M.2.1.2.1 = 0 from hR0]
    exact ⟨fun _ => fin _ u fv v0 hc hq, fun _ => ⟨fun _ => fin _ u fv v0 hc hq, fun z => absurd (show (zI 0 : Int32) ≤ 0 by decide) z⟩⟩
  · have hq : yE M x N = yS (mC M) (mR M) (mp M) (mf M) (mSt M, x, 0) N := if_neg hR0
    have loop : ∀ m i t, m + i = N → fsr s t → st_g t 77 0 = 0 → RC t 72 (mC M) (mR M) (mp M) (mf M) (yS (mC M) (mR M) (mp M) (mf M) (mSt M, x, 0) i).1 → st_g t 77 65 = (yS (mC M) (mR M) (mp M) (mf M) (mSt M, x, 0) i).2.1 → at_X12_years_46 X (d + 6) K (fun _ _ => False) t (zI N) y (yS (mC M) (mR M) (mp M) (mf M) (mSt M, x, 0) i).2.2 (zI i) := by
      intro m
      induction m with
      | zero =>
        intro i t h1 ft t0 hj h65
        refine go_X12_years_46 ?_
        rw [zI_le (by omega) (by omega)]
        exact ⟨fun _ => fin _ t ft t0 hj (by rw [hq, show N = i by omega]), fun h => by omega⟩
      | succ m ih =>
        intro i t h1 ft t0 hj h65
        refine go_X12_years_46 ?_
        have hTt := RRf_sr ho hR ft
        rw [zI_le (by omega) (by omega), hTt.2.1.2.2.2.2]
        refine ⟨fun h => by omega, fun _ => ⟨fun h => ?_, fun _ => ct_happens hj hTt.2.1.2.2.2.1 ho.1.1.1 (by omega) h65 (fun w hw hj2 h652 => ?_)⟩⟩
        · have : mR M ≤ 0 := (zI_le (b := 0) (show mR M < _ by omega) (by omega)).mp h
          omega
        · have := ih (i + 1) w (by omega) (ft.f hw wHp_sr) (fr0 hw rfl t0) (by rw [yS_1]; exact hj2) (by rw [yS_2]; exact h652)
          rw [yS_3] at this
          rw [zI_add1, b2i_ne0]
          refine ⟨fun hz => ?_, fun hz => ?_⟩
          · rw [show (yr (mC M) (mR M) (mp M) (mf M) (yS (mC M) (mR M) (mp M) (mf M) (mSt M, x, 0) i).1 (yS (mC M) (mR M) (mp M) (mf M) (mSt M, x, 0) i).2.1).1 = false from hz] at this; exact this
          · rw [show (yr (mC M) (mR M) (mp M) (mf M) (yS (mC M) (mR M) (mp M) (mf M) (mSt M, x, 0) i).1 (yS (mC M) (mR M) (mp M) (mf M) (mSt M, x, 0) i).2.1).1 = true from (Bool.not_eq_false _).mp hz] at this; exact this
    have k := loop N 0 u (by omega) fv v0 (by rw [yS_0]; exact hc) (by rw [yS_0]; exact h65)
    rw [yS_0] at k; exact k)
end V
end YRS
