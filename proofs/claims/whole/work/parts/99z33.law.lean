/-! ===== the law's calls ===== -/
section LAW
/-- both hold M, n calls on -/
def RLw (s : bi_St) : Prop := ∃ M b b' a a', okM M ∧ RCl s b b' a a' M ∧ RRf s M
def nxt (s t : bi_St) : Prop := (t.1.1 ≤ s.1.1 + 1 ∧ t.1.2 ≤ s.1.2 + 6) ∧ RLw t
section V
variable {X : bi_X} {d d' j jR : Nat} {as asR : List Value} {s : bi_St} {M : Ms6} {o : Ou} {b b' a a' : Nat} {K0 F : bi_St → Prop} {K : Int32 → bi_St → Prop} {E : Nat → bi_St → Prop}
theorem lw_v {v : Int32} {M' : Ms6} {t : bi_St} (hR : RRf s M) (ho : okM M) (hok : okM M') (e : o = .inr (v, M')) (ft : fcl 0 s t) (hCt : RCl t b b' a a' M') (cR : ∀ t, RRf t M → CtR X d' jR asR t M o) (hF : ∀ t, nxt s t → F t) : tl X d' jR asR K0 F 0 (st_pl t 112 0 v.toInt64) := by
  have hR' : RRf (st_pl t 112 0 v.toInt64) M := RRf_hi ho hR (fun c k hc => ft.2.1 c k hc)
  refine tl_val e (cR _ hR') (fun t2 f2 hR2 => hF t2 ⟨?_, M', b, b', a, a', hok, RCl_lo hok hCt (fun c k hc => f2.2.1 c k hc) (fun i => f2.2.2.1 i), hR2⟩)
  have h1 : t2.1 = t.1 := f2.1
  have h2 := ft.1
  rw [h1]; omega
theorem lw_t {e c : Nat} {t : bi_St} (hR : RRf s M) (ho : okM M) (hc : 1 ≤ c ∧ c ≤ 2) (he : o = .inl (e, c)) (ft : fcl 1 s t) (hCt : RCl t b b' a a' M) (cR : ∀ t, RRf t M → CtR X d' jR asR t M o) (hF : ∀ t, nxt s t → F t) : tl X d' jR asR K0 F (zI c) t := by
  have hR' : RRf t M := RRf_hi ho hR (fun c k hc => ft.2.1 c k hc)
  refine tl_thr hc he (cR _ hR') (fun t2 f2 hR2 => hF t2 ⟨?_, M, b, b', a, a', ho, RCl_lo ho hCt (fun c k hc => f2.2.1 c k hc) (fun i => f2.2.2.1 i), hR2⟩)
  have h1 : t2.1 = t.1 := f2.1
  have h2 := ft.1
  rw [h1]; omega
/-- one call of the law: the class, then the reference -/
theorem lw (ho : okM M) (hC : RCl s b b' a a' M) (hR : RRf s M) (cC : CtC X d j as s M o) (hok : okOu o) (hc : ∀ e c, o = .inl (e, c) → 1 ≤ c ∧ c ≤ 2) (cR : ∀ t, RRf t M → CtR X d' jR asR t M o) (hF : ∀ t, nxt s t → F t) (kV : ∀ v t, tl X d' jR asR K0 F 0 (st_pl t 112 0 v.toInt64) → K v t) (kE : ∀ e c t, o = .inl (e, c) → tl X d' jR asR K0 F (zI c) t → E e t) : cI X d j as s K E :=
  cC K E (fun v M' t _ _ _ _ e ft hCt => kV v t (lw_v hR ho (hok v M' e) e ft hCt cR hF)) (fun e c t _ _ _ _ eo ft hCt => kE e c t eo (lw_t hR ho (hc e c eo) eo ft hCt cR hF))
/-- the outcome throws 100 alone, or 101 as 2 besides -/
def oc1 (o : Ou) : Prop := ∀ e c, o = .inl (e, c) → e = 100 ∧ c = 1
def oc2 (o : Ou) : Prop := ∀ e c, o = .inl (e, c) → (e = 100 ∧ c = 1) ∨ (e = 101 ∧ c = 2)
theorem oc1_r {v : Int32} {M' : Ms6} : oc1 (.inr (v, M')) := fun e c h => by cases h
theorem oc1_l : oc1 (.inl (100, 1)) := fun e c h => by injection h with h; injection h with h1 h2; exact ⟨h1.symm, h2.symm⟩
theorem oc1_if {c : Prop} [Decidable c] {p q : Ou} (h1 : oc1 p) (h2 : oc1 q) : oc1 (if c then p else q) := by
  by_cases h : c
  · rw [if_pos h]; exact h1
  · rw [if_neg h]; exact h2
theorem oc1_c (h : oc1 o) : ∀ e c, o = .inl (e, c) → 1 ≤ c ∧ c ≤ 2 := fun e c he => by have := (h e c he).2; omega
theorem okOu_ro {v : Int32} (ho : okM M) : okOu (.inr (v, M)) := okOu_r ho
variable {x1 x2 : Int32}
theorem L_count (ho : okM M) (hC : RCl s b b' a a' M) (hR : RRf s M) (hF : ∀ t, nxt s t → F t) : cI X (d + 8) 273 [.ref 0, .int x1, .ref 112] s (tl X (d + 8) 221 [.ref 77, .int x1] K0 F) E := by
  have h1 : oc1 (oCount M x1) := oc1_if oc1_r oc1_l
  refine en_L_count (lw ho hC hR (cC_count (d := d + 1) ho hC) (okOu_if (fun _ => okOu_r ho) (fun _ => okOu_l)) (oc1_c h1) (fun t ht => cR_count (d := d + 1) ho ht) hF (fun v t h => ⟨rfl, h⟩) (fun e c t he h => ?_))
  obtain ⟨e1, c1⟩ := h1 e c he
  subst e1; subst c1
  exact ⟨fun _ => h, fun z => absurd rfl z⟩
theorem L_cell (ho : okM M) (hC : RCl s b b' a a' M) (hR : RRf s M) (hF : ∀ t, nxt s t → F t) : cI X (d + 8) 275 [.ref 0, .int x1, .int x2, .ref 112] s (tl X (d + 8) 227 [.ref 77, .int x1, .int x2] K0 F) E := by
  have h1 : oc1 (oCell M x1 x2) := oc1_if (oc1_if oc1_r oc1_l) oc1_l
  refine en_L_cell (lw ho hC hR (cC_cell (d := d + 4) ho hC) (okOu_if (fun _ => okOu_if (fun _ => okOu_r ho) (fun _ => okOu_l)) (fun _ => okOu_l)) (oc1_c h1) (fun t ht => cR_cell (d := d + 5) ho ht) hF (fun v t h => ⟨rfl, h⟩) (fun e c t he h => ?_))
  obtain ⟨e1, c1⟩ := h1 e c he
  subst e1; subst c1
  exact ⟨fun _ => h, fun z => absurd rfl z⟩
end V
end LAW
