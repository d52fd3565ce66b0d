/-! ===== calls that write: delete, update, insert, undo ===== -/
section WR1
def oDelete (M : Ms6) (x y : Int32) : Ou := if nIn x (mR M) = true then (if nIn y (mn M) = true then (if (reads (mp M) (mf M) (mSt M) (nX x) (nX y) && pUp (mp M) (mf M) (mSt M) (nX x) (nX y) 3) = true then .inr (1, doM M (delS (mSt M) (nX y))) else .inr (0, M)) else .inr (0, M)) else .inl (100, 1)
def oUpdate (M : Ms6) (x y z w : Int32) : Ou := if nIn x (mR M) = true then (if nIn z (mC M) = true then (if nmb w = true then (if nIn y (mn M) = true then (if (reads (mp M) (mf M) (mSt M) (nX x) (nX y) && pUp (mp M) (mf M) (mSt M) (nX x) (nX y) 2) = true then (if po_let (mp M) (mf M) (en (cs (mSt M) (nX y) (nX z) w) (nX x) (nX y)) (mSt M).2.1 2 true = true then .inr (1, doM M (cs (mSt M) (nX y) (nX z) w)) else .inr (-1, rfM M)) else .inr (0, M)) else .inr (0, M)) else .inr (-1, rfM M)) else .inl (100, 1)) else .inl (100, 1)
def okIn (M : Ms6) (u : Nat) (l : Nat → Int32) : Bool := decide (mn M < 16) && (allB (fun c => nmb (l c)) (mC M) && insOK (mp M) (mf M) (mSt M) u l)
def oInsert (M : Ms6) (x : Int32) (l : Nat → Int32) : Ou := if nIn x (mR M) = true then (if okIn M (nX x) l = true then .inr (zI (mn M + 1), doM M (insS (mSt M) l)) else .inr (-1, rfM M)) else .inl (100, 1)
def undO (M : Ms6) (H : List Sta) : Ou := match H with
  | [] => .inr (-1, M)
  | S :: H => .inr (zI H.length, upX M S H (mrf M))
def oUndo (M : Ms6) : Ou := undO M (mH M)
section V
variable {X : bi_X} {d : Nat} {s : bi_St} {M : Ms6} {b b' a a' : Nat} {x y z w : Int32} {l : Nat → Int32}
theorem no_row {n : Nat} (hn : n < 2147483648) (h : nIn y n = false) : ∀ q, q < n → y ≠ zI q := fun q hq e => by
  rw [e, nIn_zI hn hq] at h; cases h
theorem len40r (hR : RRf s M) (hC : (mH M).length ≤ 40) : (mH M).length ≤ 40 := hC
theorem cC_delete (ho : okM M) (hC : RCl s b b' a a' M) : CtC X (d + 6) 136 [.ref 0, .int x, .int y] s M (oDelete M x y) := CtC_w ho hC (fun K E kT kR kW kF => by
  have h16 : mn M ≤ 16 := okN hC
  have hR6 : mR M ≤ 6 := ho.1.2.1
  refine en_X11_delete (ct_needRole hC (fun hx => ?_) (fun hx => kF 100 1 s (ifF hx) fsc.refl))
  obtain ⟨u, hu, e, enx⟩ := nIn_y (n := mR M) (by omega) hx
  rw [hC.1.1.1, hC.1.1.2.2.1]
  refine ⟨hC.1.2.1.1, isS_31 hC.1.2.2.1, ct_sitJ ho hC (fun t ft hJ => ?_)⟩
  cases hy : nIn y (mn M)
  · exact ct_drop_no hJ (no_row (n := mn M) (by omega) hy) ⟨fun _ => kT _ t (by unfold oDelete; rw [ifT hx, ifF hy]) ft, fun z => absurd rfl z⟩
  · obtain ⟨r, hr, e2, eny⟩ := nIn_y (n := mn M) (by omega) hy
    rw [e, e2]
    refine ct_drop hJ (HA_sc hC ft) (by omega) hr (fun v hv h => ⟨fun _ => kT _ v ?_ (ft.f hv wA_sc), fun z => absurd rfl z⟩) (fun v hv h _ hA => ⟨fun z => absurd z (by decide), fun _ => kW _ v (delS (mSt M) r) (kpH M) ?_ (ft.w hC.1.2.2.1 hv) (by rw [kpH_len (len40 hC)]; exact hA)⟩)
    · unfold oDelete; rw [ifT hx, ifT hy, enx, eny, ifF h]
    · unfold oDelete; rw [ifT hx, ifT hy, enx, eny, ifT h]; rfl)
theorem cR_delete (ho : okM M) (hR : RRf s M) (hm : (mH M).length ≤ 40) : CtR X (d + 5) 247 [.ref 77, .int x, .int y] s M (oDelete M x y) := CtR_w ho hR (fun K kT kR kW kF => by
  have h16 : mn M ≤ 16 := okNr hR
  have hR6 : mR M ≤ 6 := ho.1.2.1
  have f0 : fsr s (st_p s 77 0 0) := fsr_0
  have h0 : st_g (st_p s 77 0 0) 77 0 = 0 := g_p_eq _ _ _ _
  have hT := RRf_sr ho hR f0
  refine en_X12_delete ?_
  generalize st_p s 77 0 (0 : Int32) = t at f0 h0 hT
  refine ct_isRole h0 hT.2.1.2.2.2.2 (fun hx => ⟨fun z => absurd z (by decide), fun _ => ?_⟩) (fun hx => ⟨fun _ => kF 100 1 0 _ (ifF hx) (f0.p (by omega) (by unfold impR impS; omega)) (g_p_eq _ _ _ _), fun z => absurd rfl z⟩)
  obtain ⟨u, hu, e, enx⟩ := nIn_y (n := mR M) (by omega) hx
  cases hy : nIn y (mn M)
  · exact ct_isUsed_no (b0 := 0) (RC_of ho hT) (no_row (n := mn M) (by omega) hy) ⟨fun z => absurd rfl z, fun _ => kT _ t (by unfold oDelete; rw [ifT hx, ifF hy]) f0 h0⟩
  · obtain ⟨r, hr, e2, eny⟩ := nIn_y (n := mn M) (by omega) hy
    rw [e, e2]
    refine ct_isUsed (b0 := 0) (cmd := 3) (RC_of ho hT) (by omega) hr (by omega) (fun v hv => ?_)
    have fv := f0.f hv wF_sr
    have v0 := fr0 hv rfl h0
    rw [b2i_ne0]
    refine ⟨fun h => ct_keepsM ho hR fv v0 hm (fun q hq fq q0 hS h40 hA => ct_deletes (b0 := 0) ho.1.1.2 hS hr (fun q2 hq2 hS2 => kW _ q2 (delS (mSt M) r) (kpH M) ?_ (fq.f hq2 wX_sx) (fr0 hq2 rfl q0) hS2 (by rw [hq2.g rfl]; exact h40) (AR_cp ho.1.1.2 _ _ (fun z _ => hq2.g rfl) hA))), fun h => kT _ v ?_ fv v0⟩
    · unfold oDelete; rw [ifT hx, ifT hy, enx, eny, ifT ((Bool.not_eq_false _).mp h)]; rfl
    · unfold oDelete; rw [ifT hx, ifT hy, enx, eny, ifF (Decidable.of_not_not h)])
theorem cC_update (ho : okM M) (hC : RCl s b b' a a' M) : CtC X (d + 6) 135 [.ref 0, .int x, .int y, .int z, .int w] s M (oUpdate M x y z w) := CtC_w ho hC (fun K E kT kR kW kF => by
  have h16 : mn M ≤ 16 := okN hC
  have hR6 : mR M ≤ 6 := ho.1.2.1
  have hC4 : mC M ≤ 4 := ho.1.1.2
  refine en_X11_update (ct_needRole hC (fun hx => ct_needColumn hC (fun hz => ?_) (fun hz => kF 100 1 s (by unfold oUpdate; rw [ifT hx, ifF hz]) fsc.refl)) (fun hx => kF 100 1 s (ifF hx) fsc.refl))
  obtain ⟨u, hu, e, enx⟩ := nIn_y (n := mR M) (by omega) hx
  obtain ⟨c, hc, e3, enz⟩ := nIn_y (n := mC M) (by omega) hz
  rw [hC.1.1.1, hC.1.1.2.2.1]
  refine ⟨hC.1.2.1.1, isS_31 hC.1.2.2.1, ct_sitJ ho hC (fun t ft hJ => ?_)⟩
  cases hw : nmb w
  · refine ct_change_no hJ ⟨fun _ => ⟨fun n => absurd rfl n, fun _ => ⟨rfl, rfl, kR _ t ?_ ft⟩⟩, fun h => absurd (hw.symm.trans h) (by decide)⟩
    unfold oUpdate; rw [ifT hx, ifT hz, ifF hw]
  cases hy : nIn y (mn M)
  · refine ct_change_no hJ ⟨fun h => absurd (hw.symm.trans h) (by decide), fun _ => ⟨no_row (n := mn M) (by omega) hy, ⟨fun _ => kT _ t ?_ ft, fun n => absurd (by decide) n⟩⟩⟩
    unfold oUpdate; rw [ifT hx, ifT hz, ifT hw, ifF hy]
  · obtain ⟨r, hr, e2, eny⟩ := nIn_y (n := mn M) (by omega) hy
    rw [e, e2, e3]
    refine ct_change hJ (HA_sc hC ft) (by omega) hr hc hw (fun v hv h => ⟨fun _ => kT _ v ?_ (ft.f hv wA_sc), fun n => absurd (by decide) n⟩) (fun v hv h h2 => ⟨fun n => absurd rfl n, fun _ => ⟨rfl, rfl, kR _ v ?_ (ft.f hv wA_sc)⟩⟩) (fun v hv h h2 _ hA => ⟨fun _ => kW _ v (cs (mSt M) r c w) (kpH M) ?_ (ft.w hC.1.2.2.1 hv) (by rw [kpH_len (len40 hC)]; exact hA), fun n => absurd (by decide) n⟩)
    · unfold oUpdate; rw [ifT hx, ifT hz, ifT hw, ifT hy, enx, eny, ifF h]
    · unfold oUpdate; rw [ifT hx, ifT hz, ifT hw, ifT hy, enx, eny, enz, ifT h, ifF h2]
    · unfold oUpdate; rw [ifT hx, ifT hz, ifT hw, ifT hy, enx, eny, enz, ifT h, ifT h2]; rfl)
theorem cR_update (ho : okM M) (hR : RRf s M) (hm : (mH M).length ≤ 40) : CtR X (d + 5) 246 [.ref 77, .int x, .int y, .int z, .int w] s M (oUpdate M x y z w) := CtR_w ho hR (fun K kT kR kW kF => by
  have h16 : mn M ≤ 16 := okNr hR
  have hR6 : mR M ≤ 6 := ho.1.2.1
  have hC4 : mC M ≤ 4 := ho.1.1.2
  have hC1 : 1 ≤ mC M := ho.1.1.1
  have f0 : fsr s (st_p s 77 0 0) := fsr_0
  have h0 : st_g (st_p s 77 0 0) 77 0 = 0 := g_p_eq _ _ _ _
  have hT := RRf_sr ho hR f0
  refine en_X12_update ?_
  generalize st_p s 77 0 (0 : Int32) = t at f0 h0 hT
  have no : oUpdate M x y z w = .inl (100, 1) → K 0 (st_p t 77 0 (zI 1)) := fun e => kF 100 1 0 _ e (f0.p (by omega) (by unfold impR impS; omega)) (g_p_eq _ _ _ _)
  have e28 : st_g t 77 28 - 1 = zI (mC M - 1) := by rw [hT.2.1.2.2.2.1, zI_sub1 hC1]
  refine ct_isRole h0 hT.2.1.2.2.2.2 (fun hx => ⟨fun z => absurd z (by decide), fun _ => ?_⟩) (fun hx => ⟨fun _ => no (ifF hx), fun z => absurd rfl z⟩)
  rw [e28]
  refine ct_withinR (by omega) (ct_rightB (n := 1) h0 (by omega) (fun hz => ⟨fun _ => ct_isNumR ?_, fun z => absurd (by decide) z⟩) (fun hz => ⟨fun z => absurd rfl z, fun _ => no ?_⟩))
  · rw [show mC M - 1 + 1 = mC M by omega] at hz
    obtain ⟨u, hu, e, enx⟩ := nIn_y (n := mR M) (by omega) hx
    obtain ⟨c, hc, e3, enz⟩ := nIn_y (n := mC M) (by omega) hz
    cases hw : nmb w
    · refine ⟨fun n => absurd rfl n, fun _ => ct_refuses (kR _ t ?_ f0 h0)⟩
      unfold oUpdate; rw [ifT hx, ifT hz, ifF hw]
    refine ⟨fun _ => ?_, fun n => absurd (by decide) n⟩
    cases hy : nIn y (mn M)
    · refine ct_isUsed_no (b0 := 0) (RC_of ho hT) (no_row (n := mn M) (by omega) hy) ⟨fun n => absurd rfl n, fun _ => kT _ t ?_ f0 h0⟩
      unfold oUpdate; rw [ifT hx, ifT hz, ifT hw, ifF hy]
    · obtain ⟨r, hr, e2, eny⟩ := nIn_y (n := mn M) (by omega) hy
      rw [e, e2, e3]
      refine ct_isUsed (b0 := 0) (cmd := 2) (RC_of ho hT) (by omega) hr (by omega) (fun v hv => ?_)
      have fv := f0.f hv wF_sr
      have v0 := fr0 hv rfl h0
      rw [b2i_ne0]
      refine ⟨fun h => ct_isChecked (b0 := 0) (RC_of ho (RRf_sr ho hR fv)) (by omega) hr hc (fun v2 hv2 => ?_), fun h => kT _ v ?_ fv v0⟩
      · have fv2 := fv.f hv2 wF_sr
        have v20 := fr0 hv2 rfl v0
        have h := (Bool.not_eq_false _).mp h
        rw [b2i_ne0]
        have ei : (8 : Int32) + (4 : Int32) * zI r + zI c = zI (8 + 4 * r + c) := by rw [show (4 : Int32) * zI r = zI (4 * r) from zI_mul 4 r, show (8 : Int32) + zI (4 * r) = zI (8 + 4 * r) from zI_add 8 _, zI_add]
        rw [ei, zI_nat (by omega)]
        refine ⟨fun h2 => ct_keepsM ho hR fv2 v20 hm (fun q hq fq q0 hS h40 hA => ⟨in_zI (by omega) (by omega), kW _ _ (cs (mSt M) r c w) (kpH M) ?_ fq.p (by rw [g_p_a (by omega)]; exact q0) (by have h9 := SR_cs (b0 := 0) (r := r) (v := w) hC4 hS hc; rw [show 0 + 8 + 4 * r + c = 8 + 4 * r + c by omega] at h9; exact h9) (by rw [g_p_a (by omega)]; exact h40) (AR_cp ho.1.1.2 _ _ (fun z _ => g_p_a (by omega)) hA)⟩), fun h2 => ct_refuses (kR _ v2 ?_ fv2 v20)⟩
        · unfold oUpdate; rw [ifT hx, ifT hz, ifT hw, ifT hy, enx, eny, enz, ifT h, ifT ((Bool.not_eq_false _).mp h2)]; rfl
        · unfold oUpdate; rw [ifT hx, ifT hz, ifT hw, ifT hy, enx, eny, enz, ifT h, ifF (Decidable.of_not_not h2)]
      · unfold oUpdate; rw [ifT hx, ifT hz, ifT hw, ifT hy, enx, eny, ifF (Decidable.of_not_not h)]
  · rw [show mC M - 1 + 1 = mC M by omega] at hz
    unfold oUpdate; rw [ifT hx, ifF hz])
theorem cC_undo (ho : okM M) (hC : RCl s b b' a a' M) : CtC X (d + 3) 139 [.ref 0] s M (oUndo M) := CtC_w ho hC (fun K E kT kR kW kF => by
  refine en_X11_undo ?_
  have hA := hC.2.2.2.2.1.1
  have ha := hC.1.2.2.1
  have hl := len40 hC
  rw [hC.1.1.2.2.1]
  refine ⟨isS_31 ha, ?_⟩
  cases hH : mH M with
  | nil =>
    have h4 : st_g s a 4 = 0 := by have := hA.2.2.1; rw [show M.2.2.1.2.1 = [] from hH] at this; exact this
    exact ct_takeBack_no (isS_31 ha) h4 ⟨fun _ => kT _ s (by unfold oUndo; rw [hH]; rfl) fsc.refl, fun z => absurd rfl z⟩
  | cons S' H' =>
    rw [show M.2.2.1.2.1 = S' :: H' from hH, List.length_cons] at hA
    rw [hH, List.length_cons] at hl
    refine ct_takeBack hA (fun t ht hAt => ⟨fun z => absurd z (by decide), fun _ => ?_⟩)
    have hsw : fsw a s t := fsc.refl.w ha (ht.mono (wW_wY a))
    rw [ht.2.1 2, hC.1.1.2.2.1, hAt.2.2.1]
    exact ⟨isS_31 ha, kW _ t S' H' (by unfold oUndo; rw [hH]; rfl) hsw hAt⟩)
theorem cR_undo (ho : okM M) (hR : RRf s M) (hm : (mH M).length ≤ 40) : CtR X (d + 3) 206 [.ref 77] s M (oUndo M) := CtR_w ho hR (fun K kT kR kW kF => by
  have hS := hR.2.2.1
  cases hH : mH M with
  | nil =>
    have h4 : st_g s 77 40 = 0 := by have := hS.2.2.1; rw [show M.2.2.1.2.1 = [] from hH] at this; exact this
    exact ct_undoR_no h4 (kT _ _ (by unfold oUndo; rw [hH]; rfl) fsr_0 (g_p_eq _ _ _ _))
  | cons S' H' =>
    have hA := hS.2.1
    have h40 := hS.2.2.1
    rw [show M.2.2.1.2.1 = S' :: H' from hH, List.length_cons] at hA h40
    rw [hH, List.length_cons] at hm
    refine ct_undoR ho.1.1.2 (by omega) h40 hA (fun t ht t0 t40 hSt hAt => kW _ t S' H' (by unfold oUndo; rw [hH]; rfl) ((fsx_of fsr.refl).f ht (fun c q h => ?_)) t0 hSt t40 hAt)
    cases hv : ((Nat.beq c 90 && Nat.blt q 72) || (Nat.beq c 77 && (Nat.beq q 0 || Nat.beq q 40)))
    · rfl
    · simp only [Bool.or_eq_true, Bool.and_eq_true, Nat.beq_eq] at hv; unfold impR at h; omega)
end V
end WR1
