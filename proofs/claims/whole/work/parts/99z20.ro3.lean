/-! ===== calls that change nothing: may, toSee, escapes, meant, look ===== -/
section RO3
abbrev mp (M : Ms6) : Nat := M.2.1.2.2.1
abbrev mf (M : Ms6) : Nat → Pol := M.2.1.2.2.2.1
abbrev mSt (M : Ms6) : Sta := M.2.2.1.1
abbrev mR (M : Ms6) : Nat := M.2.1.2.1
abbrev mC (M : Ms6) : Nat := M.2.1.1
abbrev mn (M : Ms6) : Nat := M.2.2.1.1.2.2.1
def oMay (M : Ms6) (x y z : Int32) : Ou := if nIn x (mR M) = true then (if nIn y (mn M) = true then (if z = 0 then .inr (b2i (reads (mp M) (mf M) (mSt M) (nX x) (nX y)), M) else if z = 2 then .inr (b2i (reads (mp M) (mf M) (mSt M) (nX x) (nX y) && pUp (mp M) (mf M) (mSt M) (nX x) (nX y) 2), M) else if z = 3 then .inr (b2i (reads (mp M) (mf M) (mSt M) (nX x) (nX y) && pUp (mp M) (mf M) (mSt M) (nX x) (nX y) 3), M) else .inl (100, 1)) else .inl (100, 1)) else .inl (100, 1)
noncomputable def oToSee (M : Ms6) (x y : Int32) : Ou := if nIn x (mR M) = true then (if nIn y (mn M) = true then .inr (Classical.epsilon (isBest (rdw (mp M) (mf M) (mSt M) (nX x) (nX y)) cnt (2 ^ mR M)), M) else .inl (100, 1)) else .inl (100, 1)
def sT (R p : Nat) (f : Nat → Pol) (S : Sta) (aim : Nat) (g : Nat → Nat → Nat → Bool) (C n : Nat) : Qs := sr3 R p f S aim g C n (0, -1, (fun _ => 0, 0))
def oEscapes (M : Ms6) (x y : Int32) : Ou := if nIn x (mR M) = true then (if nIn y 2 = true then .inr ((if y = 0 then (sT (mR M) (mp M) (mf M) (mSt M) 0 (gE (mp M) (mf M) (mSt M) (nX x)) (mC M) (mn M)).1 else (sT (mR M) (mp M) (mf M) (mSt M) 0 (gE (mp M) (mf M) (mSt M) (nX x)) (mC M) (mn M)).2.1), M) else .inl (100, 1)) else .inl (100, 1)
def gMM (M : Ms6) : Nat → Nat → Nat → Bool := gM (mp M) (mf M) (mSt M) M.2.2.1.2.2.1 M.2.2.1.2.2.2
def oMeant (M : Ms6) (y : Int32) : Ou := if nIn y 3 = true then .inr ((if y = 2 then b2i (allB (soW (mp M) (mf M) (mSt M) M.2.2.1.2.2.2) M.2.2.1.2.2.1) else if y = 0 then (sT (mR M) (mp M) (mf M) (mSt M) 1 (gMM M) (mC M) (mn M)).1 else (sT (mR M) (mp M) (mf M) (mSt M) 1 (gMM M) (mC M) (mn M)).2.1), M) else .inl (100, 1)
def lkB (M : Ms6) : Int32 × Nat := bst (fun u => cntS (mp M) (mf M) (mSt M) u (gl3 (gMM M) (mC M) (mn M) [])) (mR M)
def oLook (M : Ms6) (y : Int32) : Ou := if nIn y 2 = true then .inr ((if y = 0 then (lkB M).1 else zI (lkB M).2), M) else .inl (100, 1)
theorem isBest_uq {g : Nat → Bool} {c : Nat → Nat} {N : Nat} {v v' : Int32} (h : isBest g c N v) (k : isBest g c N v') : v = v' := by
  rcases h with ⟨h1, h2⟩ | ⟨n, n1, n2, n3, n4⟩
  · rcases k with ⟨k1, k2⟩ | ⟨n', m1, m2, m3, m4⟩
    · rw [h1, k1]
    · rw [h2 n' m1] at m3; cases m3
  · rcases k with ⟨k1, k2⟩ | ⟨n', m1, m2, m3, m4⟩
    · rw [k2 n n1] at n3; cases n3
    · have a := n4 n' m1 m3
      have b := m4 n n1 n3
      rw [n2, m2, show n = n' by omega]
theorem sr1_T {R p : Nat} {f : Nat → Pol} {S : Sta} {aim : Nat} {g : Nat → Nat → Nat → Bool} {r c : Nat} {q q' : Qs} (h : q.1 = q'.1 ∧ q.2.1 = q'.2.1) : ∀ n, (sr1 R p f S aim g r c n q).1 = (sr1 R p f S aim g r c n q').1 ∧ (sr1 R p f S aim g r c n q).2.1 = (sr1 R p f S aim g r c n q').2.1 := by
  intro n
  induction n with
  | zero => exact h
  | succ n ih =>
    rw [sr1, sr1]
    split
    · unfold stp
      simp only
      rw [ih.1, ih.2]
      exact ⟨rfl, rfl⟩
    · exact ih
theorem sr2_T {R p : Nat} {f : Nat → Pol} {S : Sta} {aim : Nat} {g : Nat → Nat → Nat → Bool} {r : Nat} {q q' : Qs} (h : q.1 = q'.1 ∧ q.2.1 = q'.2.1) : ∀ n, (sr2 R p f S aim g r n q).1 = (sr2 R p f S aim g r n q').1 ∧ (sr2 R p f S aim g r n q).2.1 = (sr2 R p f S aim g r n q').2.1 := by
  intro n
  induction n with
  | zero => exact h
  | succ n ih => rw [sr2, sr2]; exact sr1_T ih 19
theorem sr3_T {R p : Nat} {f : Nat → Pol} {S : Sta} {aim : Nat} {g : Nat → Nat → Nat → Bool} {C : Nat} {q q' : Qs} (h : q.1 = q'.1 ∧ q.2.1 = q'.2.1) : ∀ n, (sr3 R p f S aim g C n q).1 = (sr3 R p f S aim g C n q').1 ∧ (sr3 R p f S aim g C n q).2.1 = (sr3 R p f S aim g C n q').2.1 := by
  intro n
  induction n with
  | zero => exact h
  | succ n ih => rw [sr3, sr3]; exact sr2_T ih C
section V
variable {X : bi_X} {d : Nat} {s : bi_St} {M : Ms6} {b b' a a' : Nat} {x y z : Int32}
theorem cC_may (ho : okM M) (hC : RCl s b b' a a' M) : CtC X (d + 6) 143 [.ref 0, .int x, .int y, .int z] s M (oMay M x y z) := CtC_ro ho hC (fun K E kT kF => by
  have h16 := okN hC
  have hR6 := ho.1.2.1
  refine en_X11_may (ct_needRole hC (fun hx => ct_needRow hC (fun hy => ?_) (fun hy => kF 100 1 s (by unfold oMay; rw [ifT hx, ifF hy]) fsc.refl)) (fun hx => kF 100 1 s (ifF hx) fsc.refl))
  obtain ⟨u, hu, e, enx⟩ := nIn_y (by omega) hx
  obtain ⟨r, hr, e2, eny⟩ := nIn_y (by omega) hy
  have hov : ∀ o', (if z = 0 then Sum.inr (b2i (reads (mp M) (mf M) (mSt M) u r), M) else if z = 2 then .inr (b2i (reads (mp M) (mf M) (mSt M) u r && pUp (mp M) (mf M) (mSt M) u r 2), M) else if z = 3 then .inr (b2i (reads (mp M) (mf M) (mSt M) u r && pUp (mp M) (mf M) (mSt M) u r 3), M) else .inl (100, 1)) = o' → oMay M x y z = o' := fun o' ho' => by unfold oMay; rw [ifT hx, ifT hy, enx, eny]; exact ho'
  -- the three ways alike
  have go : ∀ cmd, cmd ≤ 4 → z = zI cmd → oMay M x y z = .inr (b2i (reads (mp M) (mf M) (mSt M) u r && pUp (mp M) (mf M) (mSt M) u r cmd), M) → st_isB (st_gp s 0) ∧ (st_isS (st_gp s 2) ∧ (cV X (d + 5) 24 [.ref 57, .ref (st_gp s 0), .ref (st_gp s 2)] s (fun (s3 : bi_St) => cV X (d + 5) 26 [.ref 57, .int x] s3 (fun (s4 : bi_St) => cV X (d + 5) 27 [.ref 57, .int y] s4 (fun (s5 : bi_St) => cI X (d + 5) 31 [.ref 57, .int (0 : Int32), .int (0 : Int32)] s5 (fun (r6 : Int32) (s6 : bi_St) => ((r6 = 0) → K (0 : Int32) s6) ∧ (¬ (r6 = 0) → cI X (d + 5) 31 [.ref 57, .int z, .int (0 : Int32)] s6 (fun (r7 : Int32) (s7 : bi_St) => ((r7 = 0) → K (0 : Int32) s7) ∧ (¬ (r7 = 0) → K (1 : Int32) s7)) (fun _ _ => False))) (fun _ _ => False)) (fun _ _ => False)) (fun _ _ => False)) (fun _ _ => False))) := by
    intro cmd hcmd hz hov
    rw [hC.1.1.1, hC.1.1.2.2.1, e, e2, hz]
    refine ⟨hC.1.2.1.1, isS_31 hC.1.2.2.1, ct_sitJ ho hC (fun t ft hJ => ct_become (by omega) (fun t1 h1 t15 t16 _ => ?_))⟩
    have hJ1 := JC_fr h1 hJ
    refine ct_take hJ1.2.2.1 hJ1.2.2.2.1.1 (by omega) (fun t2 h2 l2 q2 => ?_)
    have hJ2 := JC_fr h2 hJ1
    have f2 : fsc s t2 := (ft.f h1 wA_sc).f h2 wA_sc
    have henv : envC t2 (mC M) (en (mSt M) u r) := JC_env hJ2 hr (fun c hc => by rw [l2 c hc, h2.g (wA_sc _ _ (by have := hC.1.2.2.1; omega))]) (by rw [q2]; exact t15) (by rw [q2, t16]; exact hJ.2.2.2.2.2.2 u (by omega))
    refine ct_allowsJ (cmd := 0) (how := false) hJ2 henv (by omega) (fun t3 h3 => ?_)
    have wH_sc : ∀ c q, (c < 57 ∨ 64 < c) → wH c q = false := fun c q h => by
      cases hv : wH c q
      · rfl
      · simp only [wH, Bool.or_eq_true, Bool.and_eq_true, Nat.beq_eq, Nat.ble_eq] at hv; omega
    have f3 := f2.f h3 wH_sc
    rw [b2i_ne0]
    refine ⟨fun hz0 => kT _ t3 ?_ f3, fun hz0 => ?_⟩
    · rw [hov]
      have : reads (mp M) (mf M) (mSt M) u r = false := hz0
      rw [this]; rfl
    · have hrd : reads (mp M) (mf M) (mSt M) u r = true := (Bool.not_eq_false _).mp hz0
      have hJ3 : JC t3 b a (mC M) (mR M) (mp M) (mf M) (mSt M) := JC_W h3 (fun c q h1 h2 => by
        cases hv : wH c q
        · rfl
        · simp only [wH, Bool.or_eq_true, Bool.and_eq_true, Nat.beq_eq, Nat.ble_eq] at hv; omega) hJ2
      have henv3 : envC t3 (mC M) (en (mSt M) u r) := ⟨fun c hc => by rw [h3.g (wH_ne (by omega) (by omega))]; exact henv.1 c hc, by rw [h3.g (show wH 57 5 = false from rfl)]; exact henv.2.1, by rw [h3.g (show wH 57 6 = false from rfl)]; exact henv.2.2⟩
      refine ct_allowsJ (cmd := cmd) (how := false) hJ3 henv3 hcmd (fun t4 h4 => ?_)
      rw [b2i_ne0]
      refine ⟨fun hy0 => kT _ t4 ?_ (f3.f h4 wH_sc), fun hy0 => kT _ t4 ?_ (f3.f h4 wH_sc)⟩
      · rw [hov, hrd]
        have : pUp (mp M) (mf M) (mSt M) u r cmd = false := hy0
        rw [this]; rfl
      · rw [hov, hrd]
        have : pUp (mp M) (mf M) (mSt M) u r cmd = true := by simpa [pUp] using hy0
        rw [this]; rfl
  refine ⟨fun h0 => go 0 (by omega) h0 (hov _ ?_), fun n0 => ⟨fun h2 => go 2 (by omega) h2 (hov _ (by rw [if_neg n0, if_pos h2])), fun n2 => ⟨fun h3 => go 3 (by omega) h3 (hov _ (by rw [if_neg n0, if_neg n2, if_pos h3])), fun n3 => kF 100 1 s (hov _ (by rw [if_neg n0, if_neg n2, if_neg n3])) fsc.refl⟩⟩⟩
  rw [if_pos h0]
  have : pUp (mp M) (mf M) (mSt M) u r 0 = reads (mp M) (mf M) (mSt M) u r := rfl
  rw [this, Bool.and_self])
theorem cR_may (ho : okM M) (hR : RRf s M) : CtR X (d + 5) 251 [.ref 77, .int x, .int y, .int z] s M (oMay M x y z) := CtR_ro ho hR (fun K kT kF => by
  have h16 := okNr hR
  have hR6 := ho.1.2.1
  have f0 : fsr s (st_p s 77 0 0) := fsr_0
  have h0 : st_g (st_p s 77 0 0) 77 0 = 0 := g_p_eq _ _ _ _
  have hT := RRf_sr ho hR f0
  refine en_X12_may ?_
  generalize st_p s 77 0 (0 : Int32) = t at f0 h0 hT
  have no : oMay M x y z = .inl (100, 1) → at_X12_may_48 X (d + 5) K (fun _ _ => False) (st_p t 77 0 1) := fun e => go_X12_may_48 (kF 100 1 0 _ e (f0.p (by omega) (by unfold impR impS; omega)) (g_p_eq _ _ _ _))
  refine ct_isRole h0 hT.2.1.2.2.2.2 (fun hx => ⟨fun z => absurd z (by decide), fun _ => ct_isRow h0 hT.2.2.1.1.2.2.1 (fun hy => ⟨fun z => absurd z (by decide), fun _ => ?_⟩) (fun hy => ⟨fun _ => no (by unfold oMay; rw [ifT hx, ifF hy]), fun z => absurd rfl z⟩)⟩) (fun hx => ⟨fun _ => no (ifF hx), fun z => absurd rfl z⟩)
  obtain ⟨u, hu, e, enx⟩ := nIn_y (by omega) hx
  obtain ⟨r, hr, e2, eny⟩ := nIn_y (by omega) hy
  have hov : ∀ o', (if z = 0 then Sum.inr (b2i (reads (mp M) (mf M) (mSt M) u r), M) else if z = 2 then .inr (b2i (reads (mp M) (mf M) (mSt M) u r && pUp (mp M) (mf M) (mSt M) u r 2), M) else if z = 3 then .inr (b2i (reads (mp M) (mf M) (mSt M) u r && pUp (mp M) (mf M) (mSt M) u r 3), M) else .inl (100, 1)) = o' → oMay M x y z = o' := fun o' ho' => by unfold oMay; rw [ifT hx, ifT hy, enx, eny]; exact ho'
  have hc := RC_of ho hT
  have fin : ∀ v w, oMay M x y z = .inr (b2i v, M) → fsr s w → st_g w 77 0 = 0 → ((b2i v = 0) → at_X12_may_82 X (d + 5) K (fun _ _ => False) w) ∧ (¬ (b2i v = 0) → at_X12_may_78 X (d + 5) K (fun _ _ => False) w) := fun v w hv fw w0 => by
    cases v
    · exact ⟨fun _ => go_X12_may_82 (kT _ w hv fw w0), fun z => absurd rfl z⟩
    · exact ⟨fun z => absurd z (by decide), fun _ => go_X12_may_78 (kT _ w hv fw w0)⟩
  rw [e, e2]
  refine ⟨fun z0 => ct_rightY h0 ⟨fun _ => ⟨fun n => absurd z0 n, fun _ => ct_doesRead (b0 := 0) hc (by omega) hr (fun w hw => fin _ w (hov _ (by rw [if_pos z0])) (f0.f hw wF_sr) (fr0 hw rfl h0))⟩, fun z => absurd (by decide) z⟩, fun n0 => ⟨fun z2 => ct_rightY h0 ⟨fun _ => ⟨fun _ => ?_, fun n => absurd n0 n⟩, fun z => absurd (by decide) z⟩, fun n2 => ⟨fun n3 => ct_rightN h0 (by decide) ⟨fun z => absurd rfl z, fun _ => no (hov _ (by rw [if_neg n0, if_neg n2, if_neg n3]))⟩, fun z3 => ct_rightY h0 ⟨fun _ => ⟨fun _ => ?_, fun n => absurd n0 n⟩, fun z => absurd (by decide) z⟩⟩⟩⟩
  · rw [z2]
    exact ct_isUsed (b0 := 0) (cmd := 2) hc (by omega) hr (by omega) (fun w hw => fin _ w (hov _ (by rw [if_neg n0, if_pos z2])) (f0.f hw wF_sr) (fr0 hw rfl h0))
  · have z3 := Decidable.of_not_not z3
    rw [z3]
    exact ct_isUsed (b0 := 0) (cmd := 3) hc (by omega) hr (by omega) (fun w hw => fin _ w (hov _ (by rw [if_neg n0, if_neg n2, if_pos z3])) (f0.f hw wF_sr) (fr0 hw rfl h0)))
theorem cC_toSee (ho : okM M) (hC : RCl s b b' a a' M) : CtC X (d + 6) 141 [.ref 0, .int x, .int y] s M (oToSee M x y) := CtC_ro ho hC (fun K E kT kF => by
  have h16 := okN hC
  have hR6 := ho.1.2.1
  refine en_X11_toSee (ct_needRole hC (fun hx => ct_needRow hC (fun hy => ?_) (fun hy => kF 100 1 s (by unfold oToSee; rw [ifT hx, ifF hy]) fsc.refl)) (fun hx => kF 100 1 s (ifF hx) fsc.refl))
  obtain ⟨u, hu, e, enx⟩ := nIn_y (by omega) hx
  obtain ⟨r, hr, e2, eny⟩ := nIn_y (by omega) hy
  rw [hC.1.1.1, hC.1.1.2.2.1]
  refine ⟨hC.1.2.1.1, isS_31 hC.1.2.2.1, ct_sitJ ho hC (fun t ft hJ => ?_)⟩
  rw [e, e2]
  refine ct_rolesLacking hJ hr (by omega) (fun w v hw hv => kT v w ?_ (ft.f hw wA_sc))
  unfold oToSee; rw [ifT hx, ifT hy, enx, eny, isBest_uq (Classical.epsilon_spec ⟨v, hv⟩) hv])
theorem cR_toSee (ho : okM M) (hR : RRf s M) : CtR X (d + 4) 252 [.ref 77, .int x, .int y] s M (oToSee M x y) := CtR_ro ho hR (fun K kT kF => by
  have h16 := okNr hR
  have hR6 := ho.1.2.1
  have f0 : fsr s (st_p s 77 0 0) := fsr_0
  have h0 : st_g (st_p s 77 0 0) 77 0 = 0 := g_p_eq _ _ _ _
  have hT := RRf_sr ho hR f0
  refine en_X12_toSee ?_
  generalize st_p s 77 0 (0 : Int32) = t at f0 h0 hT
  have no : oToSee M x y = .inl (100, 1) → K 0 (st_p t 77 0 1) := fun e => kF 100 1 0 _ e (f0.p (by omega) (by unfold impR impS; omega)) (g_p_eq _ _ _ _)
  refine ct_isRole h0 hT.2.1.2.2.2.2 (fun hx => ⟨fun z => absurd z (by decide), fun _ => ct_isRow h0 hT.2.2.1.1.2.2.1 (fun hy => ⟨fun _ => ?_, fun z => absurd (by decide) z⟩) (fun hy => ⟨fun z => absurd rfl z, fun _ => no (by unfold oToSee; rw [ifT hx, ifF hy])⟩)⟩) (fun hx => ⟨fun _ => no (ifF hx), fun z => absurd rfl z⟩)
  obtain ⟨u, hu, e, enx⟩ := nIn_y (by omega) hx
  obtain ⟨r, hr, e2, eny⟩ := nIn_y (by omega) hy
  rw [e, e2]
  refine ct_toSeeL (d := d) (RC_of ho hT) hr hu (fun w v hw hv => kT v w ?_ (f0.f hw wT_sr) (fr0 hw rfl h0))
  unfold oToSee; rw [ifT hx, ifT hy, enx, eny, isBest_uq (Classical.epsilon_spec ⟨v, hv⟩) hv])
theorem cC_escapes (ho : okM M) (hC : RCl s b b' a a' M) : CtC X (d + 7) 142 [.ref 0, .int x, .int y] s M (oEscapes M x y) := CtC_ro ho hC (fun K E kT kF => by
  have hR6 := ho.1.2.1
  refine en_X11_escapes (ct_needRole hC (fun hx => ct_need (n := 2) rfl (fun hy => ?_) (fun hy => kF 100 1 s (by unfold oEscapes; rw [ifT hx, ifF hy]) fsc.refl)) (fun hx => kF 100 1 s (ifF hx) fsc.refl))
  obtain ⟨u, hu, e, enx⟩ := nIn_y (by omega) hx
  rw [hC.1.1.1, hC.1.1.2.2.1]
  refine ⟨hC.1.2.1.1, isS_31 hC.1.2.2.1, ct_sitJ ho hC (fun t ft hJ => ?_)⟩
  have hTt := RCl_sc ho hC ft
  refine ct_search (aim := 0) (u := u) (T := (fun u => st_g t 64 u, st_g t 62 3)) hJ hTt.2.2.2.2.1.2.1 hTt.2.2.2.1.2.2.2.1 (by omega) (fun z => by omega) (fun _ => ⟨by omega, e⟩) ⟨fun _ _ => rfl, rfl⟩ (fun w hw hq => ?_)
  rw [if_pos rfl] at hq
  have hT := sr3_T (R := mR M) (p := mp M) (f := mf M) (S := mSt M) (aim := 0) (g := gE (mp M) (mf M) (mSt M) u) (C := mC M) (q := (0, -1, (fun u => st_g t 64 u, st_g t 62 3))) (q' := (0, -1, (fun _ => 0, 0))) ⟨rfl, rfl⟩ (mn M)
  have fw := ft.f hw wS_sc
  refine ⟨fun n0 => kT _ w ?_ fw, fun k0 => kT _ w ?_ fw⟩
  · unfold oEscapes sT; rw [ifT hx, ifT hy, enx, if_neg n0, hq.2.1, hT.2]
  · unfold oEscapes sT; rw [ifT hx, ifT hy, enx, if_pos (Decidable.of_not_not k0), hq.1, hT.1])
theorem cR_escapes (ho : okM M) (hR : RRf s M) : CtR X (d + 6) 255 [.ref 77, .int x, .int y] s M (oEscapes M x y) := CtR_ro ho hR (fun K kT kF => by
  have hR6 := ho.1.2.1
  have f0 : fsr s (st_p s 77 0 0) := fsr_0
  have h0 : st_g (st_p s 77 0 0) 77 0 = 0 := g_p_eq _ _ _ _
  have hT := RRf_sr ho hR f0
  refine en_X12_escapes ?_
  generalize st_p s 77 0 (0 : Int32) = t at f0 h0 hT
  have no : oEscapes M x y = .inl (100, 1) → K 0 (st_p t 77 0 1) := fun e => kF 100 1 0 _ e (f0.p (by omega) (by unfold impR impS; omega)) (g_p_eq _ _ _ _)
  refine ct_isRole h0 hT.2.1.2.2.2.2 (fun hx => ⟨fun z => absurd z (by decide), fun _ => ct_isWhat (n := 1) (by omega) h0 (fun hy => ⟨fun _ => ?_, fun z => absurd (by decide) z⟩) (fun hy => ⟨fun z => absurd rfl z, fun _ => no (by unfold oEscapes; rw [ifT hx, ifF hy])⟩)⟩) (fun hx => ⟨fun _ => no (ifF hx), fun z => absurd rfl z⟩)
  obtain ⟨u, hu, e, enx⟩ := nIn_y (by omega) hx
  rw [e]
  refine ct_escapesL (d := d) (T := (fun _ => 0, 0)) (RC_of ho hT) hT.2.1.2.2.2.1 (by omega) (fun w hw => kT _ w ?_ (f0.f hw wT_sr) (fr0 hw rfl h0))
  unfold oEscapes sT; rw [ifT hx, ifT hy, enx])
theorem cC_meant (ho : okM M) (hC : RCl s b b' a a' M) : CtC X (d + 7) 146 [.ref 0, .int y] s M (oMeant M y) := CtC_ro ho hC (fun K E kT kF => by
  refine en_X11_meant (ct_need (n := 3) rfl (fun hy => ?_) (fun hy => kF 100 1 s (ifF hy) fsc.refl))
  rw [hC.1.1.1, hC.1.1.2.2.1]
  refine ⟨hC.1.2.1.1, isS_31 hC.1.2.2.1, ct_sitJ ho hC (fun t ft hJ => ?_)⟩
  have hTt := RCl_sc ho hC ft
  have hW := hTt.2.2.2.2.1.2.1
  refine ⟨fun n2 => ct_search (aim := 1) (u := 0) (T := (fun u => st_g t 64 u, st_g t 62 3)) hJ hW hTt.2.2.2.1.2.2.2.1 (by omega) (fun z => by omega) (fun z => by omega) ⟨fun _ _ => rfl, rfl⟩ (fun w hw hq => ?_), fun k2 => ct_seenAstray hJ hW (fun w hw => ?_)⟩
  · rw [if_neg (by omega)] at hq
    have hT := sr3_T (R := mR M) (p := mp M) (f := mf M) (S := mSt M) (aim := 1) (g := gMM M) (C := mC M) (q := (0, -1, (fun u => st_g t 64 u, st_g t 62 3))) (q' := (0, -1, (fun _ => 0, 0))) ⟨rfl, rfl⟩ (mn M)
    have fw := ft.f hw wS_sc
    refine ⟨fun n0 => kT _ w ?_ fw, fun k0 => kT _ w ?_ fw⟩
    · unfold oMeant sT; rw [ifT hy, if_neg n2, if_neg n0, hq.2.1]; exact congrArg (fun v => Sum.inr (v, M)) hT.2.symm
    · unfold oMeant sT; rw [ifT hy, if_neg n2, if_pos (Decidable.of_not_not k0), hq.1]; exact congrArg (fun v => Sum.inr (v, M)) hT.1.symm
  · have k2 := Decidable.of_not_not k2
    have hm8 := hW.1
    have hv : ∀ v, (allB (soW (mp M) (mf M) (mSt M) M.2.2.1.2.2.2) M.2.2.1.2.2.1) = v → oMeant M y = .inr (b2i v, M) := fun v e => by unfold oMeant; rw [ifT hy, if_pos k2, e]
    refine ⟨fun nz => kT _ w (hv false ?_) (ft.f hw wA_sc), fun z => kT _ w (hv true ?_) (ft.f hw wA_sc)⟩
    · obtain ⟨q, hq, hb⟩ := tb_ne0.mp nz
      rw [tb_bo (by omega) hq, Bool.and_eq_true] at hb
      have hqm := of_decide_eq_true hb.1
      cases hal : allB (soW (mp M) (mf M) (mSt M) M.2.2.1.2.2.2) M.2.2.1.2.2.1
      · rfl
      · have := allB_iff.mp hal q hqm
        rw [this] at hb; exact absurd hb.2 (by decide)
    · have z := Decidable.of_not_not z
      refine allB_iff.mpr (fun i hi => ?_)
      have := tb_eq0.mp z i (by omega)
      rw [tb_bo (by omega) (by omega), decide_eq_true hi] at this
      simpa using this)
theorem cR_meant (ho : okM M) (hR : RRf s M) : CtR X (d + 6) 260 [.ref 77, .int y] s M (oMeant M y) := CtR_ro ho hR (fun K kT kF => by
  have f0 : fsr s (st_p s 77 0 0) := fsr_0
  have h0 : st_g (st_p s 77 0 0) 77 0 = 0 := g_p_eq _ _ _ _
  have hT := RRf_sr ho hR f0
  refine en_X12_meant ?_
  generalize st_p s 77 0 (0 : Int32) = t at f0 h0 hT
  refine ct_isWhat (n := 2) (by omega) h0 (fun hy => ⟨fun _ => ⟨fun n2 => ?_, fun k2 => ?_⟩, fun z => absurd (by decide) z⟩) (fun hy => ⟨fun z => absurd rfl z, fun _ => kF 100 1 0 _ (ifF hy) (f0.p (by omega) (by unfold impR impS; omega)) (g_p_eq _ _ _ _)⟩)
  · refine ct_meantL (d := d) (T := (fun _ => 0, 0)) (RC_of ho hT) hT.2.2.1.2.2.2 hT.2.1.2.2.2.1 (fun w hw => kT _ w ?_ (f0.f hw wT_sr) (fr0 hw rfl h0))
    unfold oMeant sT; rw [ifT hy, if_neg n2]; rfl
  · refine ct_isSeen (b0 := 0) (RC_of ho hT) hT.2.2.1.2.2.2 (fun w hw => ?_)
    have hv : ∀ v, (allB (soW (mp M) (mf M) (mSt M) M.2.2.1.2.2.2) M.2.2.1.2.2.1) = v → oMeant M y = .inr (b2i v, M) := fun v e => by unfold oMeant; rw [ifT hy, if_pos (Decidable.of_not_not k2), e]
    rw [b2i_ne0]
    exact ⟨fun z => kT _ w (hv false z) (f0.f hw wF_sr) (fr0 hw rfl h0), fun z => kT _ w (hv true (by simpa using z)) (f0.f hw wF_sr) (fr0 hw rfl h0)⟩)
theorem cC_look (ho : okM M) (hC : RCl s b b' a a' M) : CtC X (d + 7) 147 [.ref 0, .int y] s M (oLook M y) := CtC_ro ho hC (fun K E kT kF => by
  have h16 : mn M ≤ 16 := okN hC
  have hR6 : mR M ≤ 6 := ho.1.2.1
  refine en_X11_look (ct_need (n := 2) rfl (fun hy => ?_) (fun hy => kF 100 1 s (ifF hy) fsc.refl))
  rw [hC.1.1.1, hC.1.1.2.2.1]
  refine ⟨hC.1.2.1.1, isS_31 hC.1.2.2.1, ct_sitJ ho hC (fun t ft hJ => ct_readyToLook hJ (fun t1 h1 h63 h62 => ?_))⟩
  have f1 := ft.f h1 wK_sc
  have hT1 := RCl_sc ho hC f1
  have hJ1 := JC_wK h1 hJ
  refine ct_search (aim := 2) (u := 0) (T := (fun u => st_g t1 64 u, st_g t1 62 3)) hJ1 hT1.2.2.2.2.1.2.1 hT1.2.2.2.1.2.2.2.1 (by omega) (fun _ u hu => (h63 u hu).1) (fun z => by omega) ⟨fun _ _ => rfl, rfl⟩ (fun w hw hq => ?_)
  rw [if_neg (by omega)] at hq
  have fw := f1.f hw wS_sc
  have hTw := RCl_sc ho hC fw
  have hgl := sr3_gl (R := mR M) (p := mp M) (f := mf M) (S := mSt M) (T := (fun u => st_g t1 64 u, st_g t1 62 3)) (g := gMM M) (C := mC M) (M := []) (q := (0, -1, (fun u => st_g t1 64 u, st_g t1 62 3))) rfl (mn M)
  have hmem := gl3_mem (g := gMM M) (C := mC M) (N := mn M) (mn M) (Nat.le_refl _)
  have k64 : ∀ u, u < 6 → st_g w 64 u = (Tm (mR M) (mp M) (mf M) (mSt M) (fun u => st_g t1 64 u, st_g t1 62 3) (gl3 (gMM M) (mC M) (mn M) [])).1 u := fun u hu => by rw [hq.2.2.1 u hu]; exact congrArg (fun z => z.1 u) hgl
  have k62 : st_g w 62 3 = (Tm (mR M) (mp M) (mf M) (mSt M) (fun u => st_g t1 64 u, st_g t1 62 3) (gl3 (gMM M) (mC M) (mn M) [])).2 := by rw [hq.2.2.2]; exact congrArg (fun z => z.2) hgl
  have b16 : ∀ u, u < mR M → ∀ q, 16 ≤ q → q < 32 → tb (st_g w 64 u) q = false := fun u hu q h1 h2 => by
    rw [k64 u (by omega)]
    exact Tm_16 (fun q _ _ => by show tb (st_g t1 64 u) q = false; rw [(h63 u hu).2, tb_0]) _ (fun x hx => by have := hmem x hx; omega) q h1 h2
  have hcn : ∀ u, u < mR M → bc (st_g w 64 u) 16 + (tb (st_g w 62 3) u).toNat = cntS (mp M) (mf M) (mSt M) u (gl3 (gMM M) (mC M) (mn M) []) := fun u hu => by
    rw [k64 u (by omega), k62]
    exact (cntS_eq (T := (fun u => st_g t1 64 u, st_g t1 62 3)) hR6 h16 hu (h63 u hu).2 h62 _ hmem).1.symm
  refine ct_roleToLookBy (hw.2.1 7 |>.trans hJ1.2.1) hC.1.2.1.1 hTw.2.2.2.1.2.2.2.2 hR6 b16 hcn ?_
  have hb := bst_ok (c := fun u => cntS (mp M) (mf M) (mSt M) u (gl3 (gMM M) (mC M) (mn M) [])) (mR M) hR6
  have hlk : lkB M = bst (fun u => cntS (mp M) (mf M) (mSt M) u (gl3 (gMM M) (mC M) (mn M) [])) (mR M) := rfl
  rw [← hlk] at hb ⊢
  refine ⟨fun n0 => ⟨fun n1 => ?_, fun k1 => kT _ w ?_ fw⟩, fun k0 => kT _ w ?_ fw⟩
  · rcases hb with hb | ⟨u, hu, hb⟩
    · rw [hb] at n1; exact absurd rfl n1
    · rw [hb]
      refine ct_setsOf (by omega) (b16 u hu) (kT _ w ?_ fw)
      unfold oLook; rw [ifT hy, if_neg n0, hb, hcn u hu]
  · have k1 := Decidable.of_not_not k1
    rcases hb with hb | ⟨u, hu, hb⟩
    · unfold oLook; rw [ifT hy, if_neg n0, hb]; rfl
    · rw [hb] at k1; exact absurd k1 (zI_m1 (by omega))
  · unfold oLook; rw [ifT hy, if_pos (Decidable.of_not_not k0)])
theorem cR_look (ho : okM M) (hR : RRf s M) : CtR X (d + 6) 261 [.ref 77, .int y] s M (oLook M y) := CtR_ro ho hR (fun K kT kF => by
  have f0 : fsr s (st_p s 77 0 0) := fsr_0
  have h0 : st_g (st_p s 77 0 0) 77 0 = 0 := g_p_eq _ _ _ _
  have hT := RRf_sr ho hR f0
  refine en_X12_look ?_
  generalize st_p s 77 0 (0 : Int32) = t at f0 h0 hT
  refine ct_isWhat (n := 1) (by omega) h0 (fun hy => ⟨fun _ => ?_, fun z => absurd (by decide) z⟩) (fun hy => ⟨fun z => absurd rfl z, fun _ => kF 100 1 0 _ (ifF hy) (f0.p (by omega) (by unfold impR impS; omega)) (g_p_eq _ _ _ _)⟩)
  refine ct_lookL (d := d) (RC_of ho hT) hT.2.2.1.2.2.2 hT.2.1.2.2.2.1 (fun w hw => kT _ w ?_ (f0.f hw wL_sr) (fr0 hw rfl h0))
  unfold oLook; rw [ifT hy]; rfl)
end V
end RO3
