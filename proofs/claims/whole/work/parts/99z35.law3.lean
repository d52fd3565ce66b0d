/-! ===== the law's calls: tell, query, grant, turn, and those without a throw ===== -/
section LAW3
def tlb (X : bi_X) (d jR : Nat) (asR : List Value) (K0 F : bi_St → Prop) (r3 : Int32) (s3 : bi_St) : Prop := cI X d jR asR s3 (fun (r4 : Int32) (s4 : bi_St) => cI X d 162 [.ref 77] s4 (fun (r5 : Int32) (s5 : bi_St) => ((r5 = r3) → ((¬ r3 = 0) → F s5) ∧ (¬ (¬ r3 = 0) → bi_in (0 : Int32) 1 = true ∧ (((r4 = 0) → (((lg_cmp (st_gl s5 112 ((0 : Int32)).toNatClampNeg) (0 : Int64)) = 0) → F s5) ∧ (¬ ((lg_cmp (st_gl s5 112 ((0 : Int32)).toNatClampNeg) (0 : Int64)) = 0) → K0 s5)) ∧ (¬ (r4 = 0) → (((lg_cmp (st_gl s5 112 ((0 : Int32)).toNatClampNeg) (1 : Int64)) = 0) → F s5) ∧ (¬ ((lg_cmp (st_gl s5 112 ((0 : Int32)).toNatClampNeg) (1 : Int64)) = 0) → K0 s5))))) ∧ (¬ (r5 = r3) → K0 s5)) (fun _ _ => False)) (fun _ _ => False)
section V
variable {X : bi_X} {d d' jR : Nat} {asR : List Value} {s : bi_St} {M : Ms6} {o : Ou} {b b' a a' : Nat} {K0 F : bi_St → Prop} {E : Nat → bi_St → Prop} {x1 x2 x3 : Int32} {w : Bool}
theorem tlb_val {v : Int32} {M' : Ms6} {u : Int64} (hu : (v = 0 → u = 0) ∧ (¬ v = 0 → u = 1)) (ho : o = .inr (v, M')) (hR : CtR X d jR asR (st_pl s 112 0 u) M o) (k : ∀ t, frr (st_pl s 112 0 u) t → RRf t M' → F t) : tlb X d jR asR K0 F 0 (st_pl s 112 0 u) := by
  refine hR _ (fun v' M2 t h1 ft t0 hr => en_X12_thrown ?_) (fun e c v' t h1 _ _ _ => by rw [ho] at h1; cases h1)
  have hv : v' = v ∧ M2 = M' := by rw [ho] at h1; injection h1 with h1; injection h1 with h1 h2; exact ⟨h1.symm, h2.symm⟩
  have kk := k t ft (by rw [← hv.2]; exact hr)
  rw [t0, hv.1]
  refine ⟨fun _ => ⟨fun z => absurd rfl z, fun _ => ⟨rfl, fun hz => ⟨fun _ => kk, fun z => absurd ?_ z⟩, fun hz => ⟨fun _ => kk, fun z => absurd ?_ z⟩⟩⟩, fun z => absurd rfl z⟩
  · rw [lg_0, show ((0 : Int32)).toNatClampNeg = 0 from rfl, ft.2.2.2 0, gl_out, hu.1 hz]
  · rw [lg_0, show ((0 : Int32)).toNatClampNeg = 0 from rfl, ft.2.2.2 0, gl_out, hu.2 hz]
theorem tlb_thr {e c : Nat} (hc : 1 ≤ c ∧ c ≤ 2) (ho : o = .inl (e, c)) (hR : CtR X d jR asR s M o) (k : ∀ t, frr s t → RRf t M → F t) : tlb X d jR asR K0 F (zI c) s := by
  refine hR _ (fun v' M2 t h1 _ _ _ => by rw [ho] at h1; cases h1) (fun e' c' v' t h1 ft t0 hr => en_X12_thrown ?_)
  have hcc : c' = c := by rw [ho] at h1; injection h1 with h1; injection h1 with h1 h2; exact h2.symm
  have hz : ¬ zI c = 0 := fun z => by have := (zI_eq (b := 0) (show c < 2147483648 by omega) (by omega)).mp z; omega
  rw [t0, hcc]
  exact ⟨fun _ => ⟨fun _ => k t ft hr, fun z => absurd hz z⟩, fun z => absurd rfl z⟩
theorem lb_v {v : Int32} {u : Int64} {M' : Ms6} {t : bi_St} (hu : (v = 0 → u = 0) ∧ (¬ v = 0 → u = 1)) (hR : RRf s M) (ho : okM M) (hok : okM M') (e : o = .inr (v, M')) (ft : fcl 0 s t) (hCt : RCl t b b' a a' M') (cR : ∀ t, RRf t M → CtR X d' jR asR t M o) (hF : ∀ t, nxt s t → F t) : tlb X d' jR asR K0 F 0 (st_pl t 112 0 u) := by
  have hR' : RRf (st_pl t 112 0 u) M := RRf_hi ho hR (fun c k hc => ft.2.1 c k hc)
  refine tlb_val hu e (cR _ hR') (fun t2 f2 hR2 => hF t2 ⟨?_, M', b, b', a, a', hok, RCl_lo hok hCt (fun c k hc => f2.2.1 c k hc) (fun i => f2.2.2.1 i), hR2⟩)
  have h1 : t2.1 = t.1 := f2.1
  have h2 := ft.1
  rw [h1]; omega
theorem lb_t {e c : Nat} {t : bi_St} (hR : RRf s M) (ho : okM M) (hc : 1 ≤ c ∧ c ≤ 2) (he : o = .inl (e, c)) (ft : fcl 1 s t) (hCt : RCl t b b' a a' M) (cR : ∀ t, RRf t M → CtR X d' jR asR t M o) (hF : ∀ t, nxt s t → F t) : tlb X d' jR asR K0 F (zI c) t := by
  have hR' : RRf t M := RRf_hi ho hR (fun c k hc => ft.2.1 c k hc)
  refine tlb_thr hc he (cR _ hR') (fun t2 f2 hR2 => hF t2 ⟨?_, M, b, b', a, a', ho, RCl_lo ho hCt (fun c k hc => f2.2.1 c k hc) (fun i => f2.2.2.1 i), hR2⟩)
  have h1 : t2.1 = t.1 := f2.1
  have h2 := ft.1
  rw [h1]; omega
theorem L_grant (ho : okM M) (hC : RCl s b b' a a' M) (hR : RRf s M) (hF : ∀ t, nxt s t → F t) : cI X (d + 62) 283 [.ref 0, .int x1, .int x2, .int (b2i w), .ref 112] s (tlb X (d + 62) 248 [.ref 77, .int x1, .int x2, .int (b2i w)] K0 F) E := by
  have h1 : oc1 (oGrant M x1 x2 w) := by unfold oGrant; repeat (first | exact oc1_r | exact oc1_l | apply oc1_if)
  have cR : ∀ t, RRf t M → CtR X (d + 62) 248 [.ref 77, .int x1, .int x2, .int (b2i w)] t M (oGrant M x1 x2 w) := fun t ht => cR_grant (d := d + 57) ho ht (len40 hC)
  refine en_L_grant (cC_grant (d := d + 56) ho hC _ _ (fun v M' t _ _ _ _ e ft hCt => ⟨fun hz => ⟨rfl, lb_v ⟨fun _ => rfl, fun z => absurd hz z⟩ hR ho (ok_grant ho v M' e) e ft hCt cR hF⟩, fun hz => ⟨rfl, lb_v ⟨fun z => absurd z hz, fun _ => rfl⟩ hR ho (ok_grant ho v M' e) e ft hCt cR hF⟩⟩) (fun e c t _ _ _ _ eo ft hCt => ?_))
  obtain ⟨e1, c1⟩ := h1 e c eo
  subst e1; subst c1
  exact ⟨fun _ => lb_t (c := 1) hR ho (by omega) eo ft hCt cR hF, fun z => absurd rfl z⟩
theorem L_turn (ho : okM M) (hC : RCl s b b' a a' M) (hR : RRf s M) (hF : ∀ t, nxt s t → F t) : cI X (d + 62) 284 [.ref 0, .int x1, .int (b2i w), .ref 112] s (tlb X (d + 62) 249 [.ref 77, .int x1, .int (b2i w)] K0 F) E := by
  have h1 : oc1 (oTurn M x1 w) := by unfold oTurn; repeat (first | exact oc1_r | exact oc1_l | apply oc1_if)
  have cR : ∀ t, RRf t M → CtR X (d + 62) 249 [.ref 77, .int x1, .int (b2i w)] t M (oTurn M x1 w) := fun t ht => cR_turn (d := d + 57) ho ht (len40 hC)
  refine en_L_turn (cC_turn (d := d + 56) ho hC _ _ (fun v M' t _ _ _ _ e ft hCt => ⟨fun hz => ⟨rfl, lb_v ⟨fun _ => rfl, fun z => absurd hz z⟩ hR ho (ok_turn ho v M' e) e ft hCt cR hF⟩, fun hz => ⟨rfl, lb_v ⟨fun z => absurd z hz, fun _ => rfl⟩ hR ho (ok_turn ho v M' e) e ft hCt cR hF⟩⟩) (fun e c t _ _ _ _ eo ft hCt => ?_))
  obtain ⟨e1, c1⟩ := h1 e c eo
  subst e1; subst c1
  exact ⟨fun _ => lb_t (c := 1) hR ho (by omega) eo ft hCt cR hF, fun z => absurd rfl z⟩
theorem L_tell (ho : okM M) (hC : RCl s b b' a a' M) (hR : RRf s M) (hF : ∀ t, nxt s t → F t) : cI X (d + 62) 271 [.ref 0, .int x1, .ref 112] s (tl X (d + 62) 202 [.ref 77, .int x1] K0 F) E := by
  have hl : ∀ e c, oTell M x1 = .inl (e, c) → e = 101 ∧ c = 1 := fun e c h => by
    unfold oTell at h
    by_cases hx : nIn x1 (M.1.2 + 1) = true
    · rw [if_pos hx] at h
      cases hr : txt M.1.1 (nX x1) with
      | inl q => rw [hr] at h; cases h
      | inr q => rw [hr] at h; cases h
    · rw [if_neg hx] at h; injection h with h; injection h with h1 h2; exact ⟨h1.symm, h2.symm⟩
  refine en_L_tell (cC_tell (d := d + 1) ho hC (fun v M' t _ _ _ _ e ft hCt hok hT => ⟨rfl, lw_v hR ho hok e ft hCt (fun t ht => cR_tell (d := d + 52) ho ht hT) hF⟩) (fun e c t _ _ _ _ eo ft hCt => ?_))
  obtain ⟨e1, c1⟩ := hl e c eo
  subst e1; subst c1
  refine ⟨fun _ => lw_t (c := 1) hR ho (by omega) eo ft hCt (fun t ht => cR_tell (d := d + 52) ho ht (fun T hx _ => ?_)) hF, fun z => absurd rfl z⟩
  unfold oTell at eo
  rw [if_pos hx] at eo
  cases hr : txt M.1.1 (nX x1) with
  | inl q => rw [hr] at eo; cases eo
  | inr q => rw [hr] at eo; cases eo
theorem q_l (e c : Nat) (h : oQuery M x1 x2 x3 = .inl (e, c)) : ((e = 100 ∧ c = 1) ∨ (e = 101 ∧ c = 2)) ∧ ¬ (nIn x1 (mR M) = true ∧ tgO M x2 = true ∧ nIn x3 (M.1.2 + 1) = true) := by
  unfold oQuery at h
  by_cases hx : nIn x1 (mR M) = true
  · rw [if_pos hx] at h
    by_cases hy : tgO M x2 = true
    · rw [if_pos hy] at h
      by_cases hz : nIn x3 (M.1.2 + 1) = true
      · rw [if_pos hz] at h
        cases hr : cnd M.1.1 (nX x3) (mC M) (mR M) 5 0 [] with
        | inl q => rw [hr] at h; cases h
        | inr q => rw [hr] at h; cases h
      · rw [if_neg hz] at h; injection h with h; injection h with h1 h2
        exact ⟨Or.inr ⟨h1.symm, h2.symm⟩, fun z => hz z.2.2⟩
    · rw [if_neg hy] at h; injection h with h; injection h with h1 h2
      exact ⟨Or.inl ⟨h1.symm, h2.symm⟩, fun z => hy z.2.1⟩
  · rw [if_neg hx] at h; injection h with h; injection h with h1 h2
    exact ⟨Or.inl ⟨h1.symm, h2.symm⟩, fun z => hx z.1⟩
/-- calls without a throw -/
theorem P_call {jC : Nat} {asC : List Value} (ho : okM M) (hR : RRf s M) (cC : CtC X d jC asC s M o) (hok : okOu o) (hn : ∀ e, o ≠ .inl e) (cR : ∀ t, RRf t M → CtR X d jR asR t M o) (hF : ∀ t, nxt s t → F t) {K : Int32 → bi_St → Prop} (kk : ∀ v t, cI X d jR asR t (fun (r2 : Int32) (s2 : bi_St) => ((v = r2) → F s2) ∧ (¬ (v = r2) → K0 s2)) (fun _ _ => False) → K v t) : cI X d jC asC s K (fun _ _ => False) :=
  cC K _ (fun v M' t b b' a a' e ft hCt => kk v t (cR t (RRf_hi ho hR (fun c k hc => ft.2.1 c k hc)) _ (fun v2 M2 t2 e2 f2 _ hR2 => by
    have hv : v2 = v ∧ M2 = M' := by rw [e] at e2; injection e2 with e2; injection e2 with h1 h2; exact ⟨h1.symm, h2.symm⟩
    have hokm := hok v M' e
    refine ⟨fun _ => hF t2 ⟨?_, M', b, b', a, a', hokm, RCl_lo hokm hCt (fun c k hc => f2.2.1 c k hc) (fun i => f2.2.2.1 i), by rw [← hv.2]; exact hR2⟩, fun z => absurd hv.1.symm z⟩
    have h1 : t2.1 = t.1 := f2.1
    have h2 := ft.1
    rw [h1]; omega) (fun e2 c v2 t2 h _ _ _ => absurd h (hn _)))) (fun e c t _ _ _ _ h _ _ => absurd h (hn _))
theorem P_void {jC : Nat} {asC : List Value} {M' : Ms6} (ho : okM M) (hR : RRf s M) (cC : CvC X d jC asC s M') (hok : okM M') (cR : ∀ t, RRf t M → CvR X d jR asR t M') (hF : ∀ t, nxt s t → F t) : cV X d jC asC s (fun t => cV X d jR asR t F (fun _ _ => False)) (fun _ _ => False) :=
  cC _ _ (fun t b b' a a' ft hCt => cR t (RRf_hi ho hR (fun c k hc => ft.2.1 c k hc)) _ (fun t2 f2 hR2 => hF t2 (by
    refine ⟨?_, M', b, b', a, a', hok, RCl_lo hok hCt (fun c k hc => f2.2.1 c k hc) (fun i => f2.2.2.1 i), hR2⟩
    have h1 : t2.1 = t.1 := f2.1
    have h2 := ft.1
    rw [h1]; omega)))
end V
end LAW3
