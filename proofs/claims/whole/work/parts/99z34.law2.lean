/-! ===== the law's calls, one by one ===== -/
section LAW2
section V
variable {X : bi_X} {d : Nat} {s : bi_St} {M : Ms6} {b b' a a' : Nat} {K0 F : bi_St → Prop} {E : Nat → bi_St → Prop} {x1 x2 x3 x4 x5 : Int32} {w : Bool} {o : Ou}
theorem oc2_r {v : Int32} {M' : Ms6} : oc2 (.inr (v, M')) := fun e c h => by cases h
theorem oc2_l : oc2 (.inl (100, 1)) := fun e c h => by injection h with h; injection h with h1 h2; exact Or.inl ⟨h1.symm, h2.symm⟩
theorem oc2_m : oc2 (.inl (101, 2)) := fun e c h => by injection h with h; injection h with h1 h2; exact Or.inr ⟨h1.symm, h2.symm⟩
theorem oc2_if {c : Prop} [Decidable c] {p q : Ou} (h1 : oc2 p) (h2 : oc2 q) : oc2 (if c then p else q) := by
  by_cases h : c
  · rw [if_pos h]; exact h1
  · rw [if_neg h]; exact h2
theorem oc2_c (h : oc2 o) : ∀ e c, o = .inl (e, c) → 1 ≤ c ∧ c ≤ 2 := fun e c he => by rcases h e c he with h | h <;> omega
theorem okOu_j {c : Prop} [Decidable c] {p q : Ou} (h1 : okOu p) (h2 : okOu q) : okOu (if c then p else q) := okOu_if (fun _ => h1) (fun _ => h2)
theorem stp_oc : oc1 (oStep M x1 x2) := by
  unfold oStep
  cases M.2.2.2.2.1 with
  | none => exact oc1_l
  | some n =>
    refine oc1_if (oc1_if ?_ oc1_l) oc1_l
    cases n.1[nX x1]? with
    | none => exact oc1_l
    | some q => exact oc1_r
theorem stp_ok (ho : okM M) : okOu (oStep M x1 x2) := by
  unfold oStep
  cases M.2.2.2.2.1 with
  | none => exact okOu_l
  | some n =>
    refine okOu_j (okOu_j ?_ okOu_l) okOu_l
    cases n.1[nX x1]? with
    | none => exact okOu_l
    | some q => exact okOu_r ho
theorem L_role (ho : okM M) (hC : RCl s b b' a a' M) (hR : RRf s M) (hF : ∀ t, nxt s t → F t) : cI X (d + 62) 274 [.ref 0, .int x1, .int x2, .ref 112] s (tl X (d + 62) 226 [.ref 77, .int x1, .int x2] K0 F) E := by
  have h1 : oc1 (oRole M x1 x2) := by unfold oRole; repeat (first | exact oc1_r | exact oc1_l | apply oc1_if)
  refine en_L_role (lw ho hC hR (cC_role (d := d + 55) ho hC) (by unfold oRole; repeat (first | exact okOu_r ho | exact okOu_l | apply okOu_j)) (oc1_c h1) (fun t ht => cR_role (d := d + 55) ho ht) hF (fun v t h => ⟨rfl, h⟩) (fun e c t he h => ?_))
  obtain ⟨e1, c1⟩ := h1 e c he
  subst e1; subst c1
  exact ⟨fun _ => h, fun z => absurd rfl z⟩
theorem L_readers (ho : okM M) (hC : RCl s b b' a a' M) (hR : RRf s M) (hF : ∀ t, nxt s t → F t) : cI X (d + 62) 285 [.ref 0, .int x1, .ref 112] s (tl X (d + 62) 250 [.ref 77, .int x1] K0 F) E := by
  have h1 : oc1 (oReaders M x1) := by unfold oReaders; repeat (first | exact oc1_r | exact oc1_l | apply oc1_if)
  refine en_L_readers (lw ho hC hR (cC_readers (d := d + 55) ho hC) (by unfold oReaders; repeat (first | exact okOu_r ho | exact okOu_l | apply okOu_j)) (oc1_c h1) (fun t ht => cR_readers (d := d + 57) ho ht) hF (fun v t h => ⟨rfl, h⟩) (fun e c t he h => ?_))
  obtain ⟨e1, c1⟩ := h1 e c he
  subst e1; subst c1
  exact ⟨fun _ => h, fun z => absurd rfl z⟩
theorem L_may (ho : okM M) (hC : RCl s b b' a a' M) (hR : RRf s M) (hF : ∀ t, nxt s t → F t) : cI X (d + 62) 288 [.ref 0, .int x1, .int x2, .int x3, .ref 112] s (tl X (d + 62) 251 [.ref 77, .int x1, .int x2, .int x3] K0 F) E := by
  have h1 : oc1 (oMay M x1 x2 x3) := by unfold oMay; repeat (first | exact oc1_r | exact oc1_l | apply oc1_if)
  refine en_L_may (lw ho hC hR (cC_may (d := d + 55) ho hC) (by unfold oMay; repeat (first | exact okOu_r ho | exact okOu_l | apply okOu_j)) (oc1_c h1) (fun t ht => cR_may (d := d + 57) ho ht) hF (fun v t h => ⟨rfl, h⟩) (fun e c t he h => ?_))
  obtain ⟨e1, c1⟩ := h1 e c he
  subst e1; subst c1
  exact ⟨fun _ => h, fun z => absurd rfl z⟩
theorem L_toSee (ho : okM M) (hC : RCl s b b' a a' M) (hR : RRf s M) (hF : ∀ t, nxt s t → F t) : cI X (d + 62) 286 [.ref 0, .int x1, .int x2, .ref 112] s (tl X (d + 62) 252 [.ref 77, .int x1, .int x2] K0 F) E := by
  have h1 : oc1 (oToSee M x1 x2) := by unfold oToSee; repeat (first | exact oc1_r | exact oc1_l | apply oc1_if)
  refine en_L_toSee (lw ho hC hR (cC_toSee (d := d + 55) ho hC) (by unfold oToSee; repeat (first | exact okOu_r ho | exact okOu_l | apply okOu_j)) (oc1_c h1) (fun t ht => cR_toSee (d := d + 58) ho ht) hF (fun v t h => ⟨rfl, h⟩) (fun e c t he h => ?_))
  obtain ⟨e1, c1⟩ := h1 e c he
  subst e1; subst c1
  exact ⟨fun _ => h, fun z => absurd rfl z⟩
theorem L_escapes (ho : okM M) (hC : RCl s b b' a a' M) (hR : RRf s M) (hF : ∀ t, nxt s t → F t) : cI X (d + 62) 287 [.ref 0, .int x1, .int x2, .ref 112] s (tl X (d + 62) 255 [.ref 77, .int x1, .int x2] K0 F) E := by
  have h1 : oc1 (oEscapes M x1 x2) := by unfold oEscapes; repeat (first | exact oc1_r | exact oc1_l | apply oc1_if)
  refine en_L_escapes (lw ho hC hR (cC_escapes (d := d + 54) ho hC) (by unfold oEscapes; repeat (first | exact okOu_r ho | exact okOu_l | apply okOu_j)) (oc1_c h1) (fun t ht => cR_escapes (d := d + 56) ho ht) hF (fun v t h => ⟨rfl, h⟩) (fun e c t he h => ?_))
  obtain ⟨e1, c1⟩ := h1 e c he
  subst e1; subst c1
  exact ⟨fun _ => h, fun z => absurd rfl z⟩
theorem L_meant (ho : okM M) (hC : RCl s b b' a a' M) (hR : RRf s M) (hF : ∀ t, nxt s t → F t) : cI X (d + 62) 290 [.ref 0, .int x1, .ref 112] s (tl X (d + 62) 260 [.ref 77, .int x1] K0 F) E := by
  have h1 : oc1 (oMeant M x1) := by unfold oMeant; repeat (first | exact oc1_r | exact oc1_l | apply oc1_if)
  refine en_L_meant (lw ho hC hR (cC_meant (d := d + 54) ho hC) (by unfold oMeant; repeat (first | exact okOu_r ho | exact okOu_l | apply okOu_j)) (oc1_c h1) (fun t ht => cR_meant (d := d + 56) ho ht) hF (fun v t h => ⟨rfl, h⟩) (fun e c t he h => ?_))
  obtain ⟨e1, c1⟩ := h1 e c he
  subst e1; subst c1
  exact ⟨fun _ => h, fun z => absurd rfl z⟩
theorem L_look (ho : okM M) (hC : RCl s b b' a a' M) (hR : RRf s M) (hF : ∀ t, nxt s t → F t) : cI X (d + 62) 291 [.ref 0, .int x1, .ref 112] s (tl X (d + 62) 261 [.ref 77, .int x1] K0 F) E := by
  have h1 : oc1 (oLook M x1) := by unfold oLook; repeat (first | exact oc1_r | exact oc1_l | apply oc1_if)
  refine en_L_look (lw ho hC hR (cC_look (d := d + 54) ho hC) (by unfold oLook; repeat (first | exact okOu_r ho | exact okOu_l | apply okOu_j)) (oc1_c h1) (fun t ht => cR_look (d := d + 56) ho ht) hF (fun v t h => ⟨rfl, h⟩) (fun e c t he h => ?_))
  obtain ⟨e1, c1⟩ := h1 e c he
  subst e1; subst c1
  exact ⟨fun _ => h, fun z => absurd rfl z⟩
theorem L_policy (ho : okM M) (hC : RCl s b b' a a' M) (hR : RRf s M) (hF : ∀ t, nxt s t → F t) : cI X (d + 62) 276 [.ref 0, .int x1, .int x2, .ref 112] s (tl X (d + 62) 228 [.ref 77, .int x1, .int x2] K0 F) E := by
  have h1 : oc1 (oPolicy M x1 x2) := by unfold oPolicy; repeat (first | exact oc1_r | exact oc1_l | apply oc1_if)
  refine en_L_policy (lw ho hC hR (cC_policy (d := d + 55) ho hC) (by unfold oPolicy; repeat (first | exact okOu_r ho | exact okOu_l | apply okOu_j)) (oc1_c h1) (fun t ht => cR_policy (d := d + 56) ho ht) hF (fun v t h => ⟨rfl, h⟩) (fun e c t he h => ?_))
  obtain ⟨e1, c1⟩ := h1 e c he
  subst e1; subst c1
  exact ⟨fun _ => h, fun z => absurd rfl z⟩
theorem L_view (ho : okM M) (hC : RCl s b b' a a' M) (hR : RRf s M) (hF : ∀ t, nxt s t → F t) : cI X (d + 62) 277 [.ref 0, .int x1, .int x2, .ref 112] s (tl X (d + 62) 229 [.ref 77, .int x1, .int x2] K0 F) E := by
  have h1 : oc1 (oView M x1 x2) := by unfold oView; repeat (first | exact oc1_r | exact oc1_l | apply oc1_if)
  refine en_L_view (lw ho hC hR (cC_view (d := d + 58) ho hC) (by unfold oView; repeat (first | exact okOu_r ho | exact okOu_l | apply okOu_j)) (oc1_c h1) (fun t ht => cR_view (d := d + 59) ho ht) hF (fun v t h => ⟨rfl, h⟩) (fun e c t he h => ?_))
  obtain ⟨e1, c1⟩ := h1 e c he
  subst e1; subst c1
  exact ⟨fun _ => h, fun z => absurd rfl z⟩
theorem L_asked (ho : okM M) (hC : RCl s b b' a a' M) (hR : RRf s M) (hF : ∀ t, nxt s t → F t) : cI X (d + 62) 278 [.ref 0, .int x1, .ref 112] s (tl X (d + 62) 238 [.ref 77, .int x1] K0 F) E := by
  have h1 : oc1 (oAsked M x1) := by unfold oAsked; repeat (first | exact oc1_r | exact oc1_l | apply oc1_if)
  refine en_L_asked (lw ho hC hR (cC_asked (d := d + 58) ho hC) (by unfold oAsked; repeat (first | exact okOu_r ho | exact okOu_l | apply okOu_j)) (oc1_c h1) (fun t ht => cR_asked (d := d + 59) ho ht) hF (fun v t h => ⟨rfl, h⟩) (fun e c t he h => ?_))
  obtain ⟨e1, c1⟩ := h1 e c he
  subst e1; subst c1
  exact ⟨fun _ => h, fun z => absurd rfl z⟩
theorem L_step (ho : okM M) (hC : RCl s b b' a a' M) (hR : RRf s M) (hF : ∀ t, nxt s t → F t) : cI X (d + 62) 279 [.ref 0, .int x1, .int x2, .ref 112] s (tl X (d + 62) 239 [.ref 77, .int x1, .int x2] K0 F) E := by
  have h1 : oc1 (oStep M x1 x2) := stp_oc
  refine en_L_step (lw ho hC hR (cC_step (d := d + 58) ho hC) (stp_ok ho) (oc1_c h1) (fun t ht => cR_step (d := d + 59) ho ht) hF (fun v t h => ⟨rfl, h⟩) (fun e c t he h => ?_))
  obtain ⟨e1, c1⟩ := h1 e c he
  subst e1; subst c1
  exact ⟨fun _ => h, fun z => absurd rfl z⟩
theorem L_lapses (ho : okM M) (hC : RCl s b b' a a' M) (hR : RRf s M) (hF : ∀ t, nxt s t → F t) : cI X (d + 62) 292 [.ref 0, .int x1, .int x2, .int x3, .ref 112] s (tl X (d + 62) 262 [.ref 77, .int x1, .int x2, .int x3] K0 F) E := by
  have h1 : oc2 (oLapses M x1 x2 x3) := by unfold oLapses; repeat (first | exact oc2_r | exact oc2_l | exact oc2_m | apply oc2_if)
  refine en_L_lapses (lw ho hC hR (cC_lapses (d := d + 55) ho hC) (by unfold oLapses; repeat (first | exact okOu_r ho | exact okOu_l | apply okOu_j)) (oc2_c h1) (fun t ht => cR_lapses (d := d + 58) ho ht) hF (fun v t h => ⟨rfl, h⟩) (fun e c t he h => ?_))
  rcases h1 e c he with ⟨e1, c1⟩ | ⟨e1, c1⟩
  · subst e1; subst c1
    exact ⟨fun _ => h, fun z => absurd rfl z⟩
  · subst e1; subst c1
    exact ⟨fun z => absurd z (by decide), fun _ => ⟨fun _ => h, fun z => absurd rfl z⟩⟩
theorem L_years (ho : okM M) (hC : RCl s b b' a a' M) (hR : RRf s M) (hF : ∀ t, nxt s t → F t) : cI X (d + 62) 293 [.ref 0, .int x1, .int x2, .int x3, .ref 112] s (tl X (d + 62) 265 [.ref 77, .int x1, .int x2, .int x3] K0 F) E := by
  have h1 : oc2 (oYears M x1 x2 x3) := by unfold oYears; repeat (first | exact oc2_r | exact oc2_l | exact oc2_m | apply oc2_if)
  refine en_L_years (lw ho hC hR (cC_years (d := d + 54) ho hC) (by unfold oYears; repeat (first | exact okOu_r ho | exact okOu_l | apply okOu_j)) (oc2_c h1) (fun t ht => cR_years (d := d + 56) ho ht) hF (fun v t h => ⟨rfl, h⟩) (fun e c t he h => ?_))
  rcases h1 e c he with ⟨e1, c1⟩ | ⟨e1, c1⟩
  · subst e1; subst c1
    exact ⟨fun _ => h, fun z => absurd rfl z⟩
  · subst e1; subst c1
    exact ⟨fun z => absurd z (by decide), fun _ => ⟨fun _ => h, fun z => absurd rfl z⟩⟩
theorem L_delete (ho : okM M) (hC : RCl s b b' a a' M) (hR : RRf s M) (hF : ∀ t, nxt s t → F t) : cI X (d + 62) 282 [.ref 0, .int x1, .int x2, .ref 112] s (tl X (d + 62) 247 [.ref 77, .int x1, .int x2] K0 F) E := by
  have h1 : oc1 (oDelete M x1 x2) := by unfold oDelete; repeat (first | exact oc1_r | exact oc1_l | apply oc1_if)
  refine en_L_delete (lw ho hC hR (cC_delete (d := d + 55) ho hC) (ok_delete ho) (oc1_c h1) (fun t ht => cR_delete (d := d + 57) ho ht (len40 hC)) hF (fun v t h => ⟨rfl, h⟩) (fun e c t he h => ?_))
  obtain ⟨e1, c1⟩ := h1 e c he
  subst e1; subst c1
  exact ⟨fun _ => h, fun z => absurd rfl z⟩
theorem L_update (ho : okM M) (hC : RCl s b b' a a' M) (hR : RRf s M) (hF : ∀ t, nxt s t → F t) : cI X (d + 62) 281 [.ref 0, .int x1, .int x2, .int x3, .int x4, .ref 112] s (tl X (d + 62) 246 [.ref 77, .int x1, .int x2, .int x3, .int x4] K0 F) E := by
  have h1 : oc1 (oUpdate M x1 x2 x3 x4) := by unfold oUpdate; repeat (first | exact oc1_r | exact oc1_l | apply oc1_if)
  refine en_L_update (lw ho hC hR (cC_update (d := d + 55) ho hC) (ok_update ho) (oc1_c h1) (fun t ht => cR_update (d := d + 57) ho ht (len40 hC)) hF (fun v t h => ⟨rfl, h⟩) (fun e c t he h => ?_))
  obtain ⟨e1, c1⟩ := h1 e c he
  subst e1; subst c1
  exact ⟨fun _ => h, fun z => absurd rfl z⟩
theorem L_insert (ho : okM M) (hC : RCl s b b' a a' M) (hR : RRf s M) (hF : ∀ t, nxt s t → F t) : cI X (d + 62) 280 [.ref 0, .int x1, .int x2, .int x3, .int x4, .int x5, .ref 112] s (tl X (d + 62) 245 [.ref 77, .int x1, .int x2, .int x3, .int x4, .int x5] K0 F) E := by
  have h1 : oc1 (oInsert M x1 (l4 x2 x3 x4 x5)) := by unfold oInsert; repeat (first | exact oc1_r | exact oc1_l | apply oc1_if)
  refine en_L_insert (lw ho hC hR (cC_insert (d := d + 56) ho hC) (ok_insert ho) (oc1_c h1) (fun t ht => cR_insert (d := d + 57) ho ht (len40 hC)) hF (fun v t h => ⟨rfl, h⟩) (fun e c t he h => ?_))
  obtain ⟨e1, c1⟩ := h1 e c he
  subst e1; subst c1
  exact ⟨fun _ => h, fun z => absurd rfl z⟩
theorem L_see (ho : okM M) (hC : RCl s b b' a a' M) (hR : RRf s M) (hF : ∀ t, nxt s t → F t) : cI X (d + 62) 289 [.ref 0, .int x1, .int x2, .int (b2i w), .ref 112] s (tl X (d + 62) 256 [.ref 77, .int x1, .int x2, .int (b2i w)] K0 F) E := by
  have h1 : oc1 (oSee M x1 x2 w) := by unfold oSee; repeat (first | exact oc1_r | exact oc1_l | apply oc1_if)
  refine en_L_see (lw ho hC hR (cC_see (d := d + 58) ho hC) (ok_see ho) (oc1_c h1) (fun t ht => cR_see (d := d + 59) ho ht) hF (fun v t h => ⟨rfl, h⟩) (fun e c t he h => ?_))
  obtain ⟨e1, c1⟩ := h1 e c he
  subst e1; subst c1
  exact ⟨fun _ => h, fun z => absurd rfl z⟩
end V
end LAW2
