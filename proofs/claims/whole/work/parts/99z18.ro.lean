/-! ===== calls that change nothing: count, role, cell, readers ===== -/
section RO
theorem CtC_ro {X : bi_X} {d j : Nat} {as : List Value} {s : bi_St} {M : Ms6} {o : Ou} {b b' a a' : Nat} (ho : okM M) (hC : RCl s b b' a a' M) (h : ∀ (K : Int32 → bi_St → Prop) (E : Nat → bi_St → Prop), (∀ v t, o = .inr (v, M) → fsc s t → K v t) → (∀ e c t, o = .inl (e, c) → fsc s t → E e (st_ex t)) → cI X d j as s K E) : CtC X d j as s M o :=
  fun K E kT kF => h K E (fun v t e hf => kT v M t b b' a a' e (fcl_sc hf) (RCl_sc ho hC hf)) (fun e c t eo hf => kF e c (st_ex t) b b' a a' eo (fcl_ex hf) (RCl_ex ho (RCl_sc ho hC hf)))
theorem CtR_ro {X : bi_X} {d j : Nat} {as : List Value} {s : bi_St} {M : Ms6} {o : Ou} (ho : okM M) (hR : RRf s M) (h : ∀ (K : Int32 → bi_St → Prop), (∀ v t, o = .inr (v, M) → fsr s t → st_g t 77 0 = 0 → K v t) → (∀ e c v t, o = .inl (e, c) → fsr s t → st_g t 77 0 = zI c → K v t) → cI X d j as s K (fun _ _ => False)) : CtR X d j as s M o :=
  fun K kT kF => h K (fun v t e hf h0 => kT v M t e hf.1 h0 (RRf_sr ho hR hf)) (fun e c v t eo hf h0 => kF e c v t eo hf.1 h0 (RRf_sr ho hR hf))
def cntV (M : Ms6) (i : Nat) : Int32 := if i = 0 then zI M.2.1.2.1 else if i = 1 then zI M.2.1.1 else if i = 2 then zI M.2.2.1.1.2.2.1 else if i = 3 then zI M.2.1.2.2.1 else if i = 4 then zI M.2.1.2.2.2.2.1 else if i = 5 then zI (sg M.2.1.2.1 M.2.1.2.2.1 M.2.1.2.2.2.1 M.2.2.1.1) else if i = 6 then ndl M.2.1.2.1 M.2.1.2.2.1 M.2.1.2.2.2.1 M.2.2.1.1 else if i = 7 then zI M.2.2.1.2.1.length else if i = 8 then zI M.2.2.1.2.2.1 else if i = 9 then zI M.1.2 else M.2.2.2.2.2.1 (i - 10)
def oCount (M : Ms6) (x : Int32) : Ou := if nIn x 13 = true then .inr (cntV M (nX x), M) else .inl (100, 1)
/-- below n x is nothing -/
def nL (x : Int32) (n : Nat) : Prop := ∀ i, i < n → ¬ x = zI i
theorem nL0 {x : Int32} : nL x 0 := fun i hi => absurd hi (Nat.not_lt_zero i)
theorem nL.s {x : Int32} {n : Nat} (h : nL x n) (k : ¬ x = zI n) : nL x (n + 1) := fun i hi => by
  by_cases e : i = n
  · rw [e]; exact k
  · exact h i (by omega)
theorem nL.f {x : Int32} {n : Nat} (h : nL x n) (hn : n < 2147483648) : nIn x n = false := nIn_no hn h
theorem wA_sc : ∀ c q, (c < 57 ∨ 64 < c) → wA c q = false := fun c q h => by
  cases hv : wA c q
  · rfl
  · simp only [wA, Bool.or_eq_true, Bool.and_eq_true, Nat.beq_eq, Nat.ble_eq] at hv; omega
theorem wK_sc : ∀ c q, (c < 57 ∨ 64 < c) → wK c q = false := fun c q h => by
  cases hv : wK c q
  · rfl
  · simp only [wK, wS, wA, Bool.or_eq_true, Bool.and_eq_true, Nat.beq_eq, Nat.ble_eq] at hv; omega
theorem wS_sc : ∀ c q, (c < 57 ∨ 64 < c) → wS c q = false := fun c q h => by
  cases hv : wS c q
  · rfl
  · simp only [wS, wA, Bool.or_eq_true, Bool.and_eq_true, Nat.beq_eq, Nat.ble_eq] at hv; omega
theorem wL_sr : ∀ c q, (c < 77 ∨ impR c q ∨ impS c q ∨ c = 79 ∨ c = 112) → wL c q = false := fun c q h => by
  cases hv : wL c q
  · rfl
  · simp only [wL, wT, wF, Bool.or_eq_true, Bool.and_eq_true, Nat.beq_eq, Nat.ble_eq] at hv
    unfold impR impS at h; omega
theorem wT_sr : ∀ c q, (c < 77 ∨ impR c q ∨ impS c q ∨ c = 79 ∨ c = 112) → wT c q = false := fun c q h => by
  cases hv : wT c q
  · rfl
  · have := wL_sr c q h; unfold wL at this; rw [hv] at this; exact this
theorem wF_sr : ∀ c q, (c < 77 ∨ impR c q ∨ impS c q ∨ c = 79 ∨ c = 112) → wF c q = false := fun c q h => by
  cases hv : wF c q
  · rfl
  · have := wT_sr c q h; unfold wT at this; rw [hv] at this; exact this
/-- the reference's thrown stays over what it may change -/
theorem fr0 {V : Nat → Nat → Bool} {t u : bi_St} (k : fr V t u) (hv : V 77 0 = false) (h : st_g t 77 0 = 0) : st_g u 77 0 = 0 := by rw [k.g hv]; exact h
section CNT
variable {X : bi_X} {d : Nat} {s : bi_St} {M : Ms6} {b b' a a' : Nat} {x : Int32}
theorem cC_count (ho : okM M) (hC : RCl s b b' a a' M) : CtC X (d + 6) 127 [.ref 0, .int x] s M (oCount M x) := CtC_ro ho hC (fun K E kT kF => by
  refine en_X11_count ?_
  rw [hC.1.1.1, hC.1.1.2.2.1]
  refine ⟨hC.1.2.1.1, isS_31 hC.1.2.2.1, ct_sitJ ho hC (fun t ft hJ => ?_)⟩
  have hT := RCl_sc ho hC ft
  have yes : ∀ n v u, nIn x 13 = true → nX x = n → cntV M n = v → fsc s u → K v u := fun n v u h1 h2 h3 hu => kT v u (by unfold oCount; rw [if_pos h1, h2, h3]) hu
  have hr := hT.2.2.2.2.2.2.2.2.1
  rw [hT.1.1.1, hT.1.1.2.2.1]
  have hb := hC.1.2.1.1
  have hS := isS_31 hC.1.2.2.1
  refine ⟨fun z => ⟨hb, ?_⟩, fun n0 => ⟨fun z => ⟨hb, ?_⟩, fun n1 => ⟨fun z => ⟨hS, ?_⟩, fun n2 => ⟨fun z => ⟨hb, ?_⟩, fun n3 => ⟨fun z => ⟨hb, ?_⟩, fun n4 => ⟨fun z => ct_sightsC hJ (fun u hu => ?_), fun n5 => ⟨fun z => ct_needlessC hJ ho.2.1.1.2 (fun u hu => ?_), fun n6 => ⟨fun z => ⟨hS, ?_⟩, fun n7 => ⟨fun z => ⟨hS, ?_⟩, fun n8 => ⟨fun z => ?_, fun n9 => ⟨fun z => ?_, fun n10 => ⟨fun z => ?_, fun n11 => ⟨fun z => ?_, fun n12 => ?_⟩⟩⟩⟩⟩⟩⟩⟩⟩⟩⟩⟩⟩
  · subst z; exact yes 0 _ t rfl rfl hT.2.2.2.1.2.2.2.2.symm ft
  · subst z; exact yes 1 _ t rfl rfl hT.2.2.2.1.2.2.2.1.symm ft
  · subst z; exact yes 2 _ t rfl rfl hT.2.2.2.2.1.1.2.2.2.1.2.2.1.symm ft
  · subst z; exact yes 3 _ t rfl rfl hT.2.2.2.1.1.2.2.2.1.symm ft
  · subst z; exact yes 4 _ t rfl rfl hT.2.2.2.1.2.2.1.1.symm ft
  · subst z; exact yes 5 _ u rfl rfl rfl (ft.f hu wA_sc)
  · subst z; exact yes 6 _ u rfl rfl rfl (ft.f hu wA_sc)
  · subst z; exact yes 7 _ t rfl rfl hT.2.2.2.2.1.1.2.2.1.symm ft
  · subst z; exact yes 8 _ t rfl rfl hT.2.2.2.2.1.2.1.2.1.symm ft
  · subst z; exact yes 9 _ t rfl rfl hT.2.1.2.1.symm ft
  · subst z; exact ⟨rfl, yes 10 _ t rfl rfl (hr 0 (by omega)).symm ft⟩
  · subst z; exact ⟨rfl, yes 11 _ t rfl rfl (hr 1 (by omega)).symm ft⟩
  · subst z; exact ⟨rfl, yes 12 _ t rfl rfl (hr 2 (by omega)).symm ft⟩
  · refine kF 100 1 t ?_ ft
    unfold oCount; rw [if_neg]; rw [(((((((((((((nL0.s n0).s n1).s n2).s n3).s n4).s n5).s n6).s n7).s n8).s n9).s n10).s n11).s n12).f (by omega)]; exact Bool.false_ne_true)
theorem cR_count (ho : okM M) (hR : RRf s M) : CtR X (d + 7) 221 [.ref 77, .int x] s M (oCount M x) := CtR_ro ho hR (fun K kT kF => by
  refine en_X12_count (ct_withinR (n := 12) (by omega) (ct_rightB (n := 1) (g_p_eq _ _ _ _) (by omega) (fun hx => ⟨fun _ => ?_, fun z => absurd (by decide) z⟩) (fun hx => ⟨fun z => absurd rfl z, fun _ => kF 100 1 0 _ (by unfold oCount; rw [if_neg (by rw [hx]; exact Bool.false_ne_true)]) (fsr_0.p (by omega) (by unfold impR impS; omega)) (g_p_eq _ _ _ _)⟩)))
  have f0 : fsr s (st_p s 77 0 0) := fsr_0
  have h0 : st_g (st_p s 77 0 0) 77 0 = 0 := g_p_eq _ _ _ _
  have hT := RRf_sr ho hR f0
  generalize st_p s 77 0 (0 : Int32) = t at f0 h0 hT
  have yes : ∀ n v u, nX x = n → cntV M n = v → fsr s u → st_g u 77 0 = 0 → K v u := fun n v u h2 h3 hu u0 => kT v u (by unfold oCount; rw [if_pos hx, h2, h3]) hu u0
  have hr := hT.2.2.2.2.2.1
  have hc := RC_of ho hT
  refine ⟨fun z => ?_, fun n0 => ⟨fun z => ?_, fun n1 => ⟨fun z => ⟨rfl, ?_⟩, fun n2 => ⟨fun z => ?_, fun n3 => ⟨fun z => ?_, fun n4 => ⟨fun z => ct_sightsR (b0 := 0) hc (fun u hu => ?_), fun n5 => ⟨fun z => ct_needlessR (d := d) hc (fun u hu => ?_), fun n6 => ⟨fun z => ?_, fun n7 => ⟨fun z => ?_, fun n8 => ⟨fun z => ?_, fun n9 => ?_⟩⟩⟩⟩⟩⟩⟩⟩⟩⟩
  · subst z; exact yes 0 _ t rfl hT.2.1.2.2.2.2.symm f0 h0
  · subst z; exact yes 1 _ t rfl hT.2.1.2.2.2.1.symm f0 h0
  · subst z; exact yes 2 _ t rfl hT.2.2.1.1.2.2.1.symm f0 h0
  · subst z; exact yes 3 _ t rfl hT.2.1.1.2.2.1.symm f0 h0
  · subst z; exact yes 4 _ t rfl hT.2.1.2.2.1.1.symm f0 h0
  · subst z; exact yes 5 _ u rfl rfl (f0.f hu wF_sr) (fr0 hu rfl h0)
  · subst z; exact yes 6 _ u rfl rfl (f0.f hu wT_sr) (fr0 hu rfl h0)
  · subst z; exact yes 7 _ t rfl hT.2.2.1.2.2.1.symm f0 h0
  · subst z; exact yes 8 _ t rfl hT.2.2.1.2.2.2.2.1.symm f0 h0
  · subst z; exact yes 9 _ t rfl hT.1.2.1.symm f0 h0
  · obtain ⟨i, hi, e, _⟩ := nIn_y (by omega) hx
    have hi10 : i = 10 ∨ i = 11 ∨ i = 12 := by
      by_cases h : i < 10
      · exact absurd e (((((((((((nL0.s n0).s n1).s n2).s n3).s n4).s n5).s n6).s n7).s n8).s n9) i h)
      · omega
    rcases hi10 with rfl | rfl | rfl
    · subst e; exact ⟨rfl, yes 10 _ t rfl (hr 0 (by omega)).symm f0 h0⟩
    · subst e; exact ⟨rfl, yes 11 _ t rfl (hr 1 (by omega)).symm f0 h0⟩
    · subst e; exact ⟨rfl, yes 12 _ t rfl (hr 2 (by omega)).symm f0 h0⟩)
end CNT
end RO
