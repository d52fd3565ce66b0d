section CL2
variable {X : bi_X}
def bi_lwq : Nat → bi_S → Option bi_S
  | 0, s => some s
  | n + 1, (pc, lv, st, M) => bif bi_no9 st && bi_a80 M then (match bi_stp (0, fun _ => 0) 294 pc lv st M with
    | some (true, .inl s) => bi_lwq n s
    | some (true, .inr (.inr (.inr (j', as, r, M')))) => (match bi_exq 6000 2035 j' (0, bi_ent as, [], M') with
      | some (v, M2) => bi_lwq n (pc + 3, lv, v.toList ++ r, M2)
      | none => none)
    | _ => none) else none
theorem bi_lwq_T {Q : bi_Out → Prop} : ∀ (n : Nat) (q q' : bi_S), bi_lwq n q = some q' → (bi_T X 2036 294 q' Q → bi_T X 2036 294 q Q) ∧ (bi_PS q.2.2.2 → bi_PS q'.2.2.2) := by
  intro n
  induction n with
  | zero => intro q q' h; rw [bi_lwq] at h; cases h; exact ⟨id, id⟩
  | succ n ih =>
    intro q q' h
    obtain ⟨pc, lv, st, M⟩ := q
    rw [bi_lwq] at h
    cases hc : (bi_no9 st && bi_a80 M) with
    | false => rw [hc] at h; simp at h
    | true =>
      rw [hc] at h
      simp only [cond_true] at h
      simp only [Bool.and_eq_true] at hc
      rw [bi_stp_X (X' := X) hc.1] at h
      cases hs : bi_stp X 294 pc lv st M with
      | none => rw [hs] at h; simp at h
      | some r =>
        rw [hs] at h
        obtain ⟨x, r⟩ := r
        cases x with
        | false => simp at h
        | true =>
          have hps := bi_stp_ps hs rfl hc.2
          rcases r with q1 | ⟨v1, M1⟩ | ⟨E, M1⟩ | ⟨j', as, r, M1⟩
          · obtain ⟨h1, h2⟩ := ih _ _ h
            refine ⟨fun k => ?_, fun hp => h2 (hps hp)⟩
            obtain ⟨n2, o, k1, k2⟩ := h1 k
            exact ⟨n2 + 1, o, by rw [bi_ex, hs]; exact k1, k2⟩
          · simp at h
          · simp at h
          · simp only at h
            cases hq : bi_exq 6000 2035 j' (0, bi_ent as, [], M1) with
            | none => rw [hq] at h; simp at h
            | some z =>
              rw [hq] at h
              obtain ⟨v2, M2⟩ := z
              obtain ⟨a1, a2⟩ := bi_exq_ex (X := X) _ _ _ _ _ _ hq
              obtain ⟨b1, b2⟩ := ih _ _ h
              exact ⟨fun k => bi_Tc (d := 2035) hs rfl ⟨6000, (.inl v2, M2), a1, b1 k⟩, fun hp => b2 (a2 (hps hp))⟩
theorem bi_q0_ex : ∃ q : Option bi_S, q = bi_lwq 13 (0, [(0, .ref 4999)], [], bi_M00) := ⟨_, rfl⟩
noncomputable def bi_q0 : Option bi_S := Classical.choose bi_q0_ex
theorem bi_q0_def : bi_q0 = bi_lwq 13 (0, [(0, .ref 4999)], [], bi_M00) := Classical.choose_spec bi_q0_ex
def st_m0 (i : Nat) : Nat := [7, 19, 31, 37, 7, 31, 15, 7, 31, 0, 67, 68, 69, 70, 71, 72, 73, 74, 75].getD i 0
noncomputable def bi_M1 : bi_Mem := (bi_q0.getD (0, [], [], bi_M00)).2.2.2
/-- the store behind the constructors -/
noncomputable def st_s0 : bi_St := (bi_M1.2.1, bi_M1.2.2.1, bi_M1.2.2.2.1, st_m0)
def bi_q0c (q : Option bi_S) : Bool := match q with
  | some (pc, lv, st, M) => decide (pc = 23) && decide (lv = [(4, .int 0), (3, .ref 112), (2, .ref 77), (1, .ref 0), (0, .ref 4999)]) && decide (st = []) && decide (M.1 = st_K0) && decide (M.2.1 = (113, 25154)) && (List.range 113).all (fun a => (List.range 80).all (fun k => decide (bi_P M a k = st_Pw st_m0 a k)))
  | none => false
set_option maxRecDepth 100000 in
theorem bi_q0_ck : bi_q0c (bi_lwq 13 (0, [(0, .ref 4999)], [], bi_M00)) = true := by decide +kernel
theorem bi_pi_out {a k : Nat} (h : 113 ≤ a ∨ 80 ≤ k) : st_pi a k = none := by
  unfold st_pi
  have : (Nat.blt a 113 && Nat.blt k 80) = false := by
    rw [Bool.eq_false_iff]
    intro hc
    simp only [Bool.and_eq_true, Nat.blt_eq] at hc
    omega
  rw [this]; rfl
theorem bi_q0_eq : bi_q0 = some (23, [(4, .int 0), (3, .ref 112), (2, .ref 77), (1, .ref 0), (0, .ref 4999)], [], st_mm st_s0) ∧ st_s0.1 = (113, 25154) := by
  have hc : bi_q0c bi_q0 = true := (congrArg bi_q0c bi_q0_def).trans bi_q0_ck
  unfold bi_q0c at hc
  have hM0 : bi_M1 = (bi_q0.getD (0, [], [], bi_M00)).2.2.2 := rfl
  cases hq : bi_q0 with
  | none => rw [hq] at hc; cases hc
  | some z =>
    obtain ⟨pc, lv, st, M⟩ := z
    rw [hq] at hc hM0
    simp only [Bool.and_eq_true, decide_eq_true_eq] at hc
    obtain ⟨⟨⟨⟨⟨h1, h2⟩, h3⟩, h4⟩, h5⟩, h6⟩ := hc
    have hM : bi_M1 = M := hM0
    clear hM0
    have hps : bi_PS M := (bi_lwq_T (X := (0, fun _ => 0)) (Q := fun _ => True) _ _ _ (bi_q0_def.symm.trans hq)).2 (fun a k _ => rfl)
    have hP : bi_P M = st_Pw st_m0 := by
      funext a k
      by_cases hak : a < 113 ∧ k < 80
      · exact of_decide_eq_true (List.all_eq_true.mp (List.all_eq_true.mp h6 a (List.mem_range.mpr hak.1)) k (List.mem_range.mpr hak.2))
      · have ho : 113 ≤ a ∨ 80 ≤ k := by omega
        rw [hps a k (by rw [h4]; exact ho)]
        unfold st_Pw
        rw [bi_pi_out ho]
    subst h1 h2 h3
    refine ⟨?_, (congrArg (fun m : bi_Mem => m.2.1) hM).trans h5⟩
    have e1 : st_s0 = (M.2.1, M.2.2.1, M.2.2.2.1, st_m0) := congrArg (fun m : bi_Mem => (m.2.1, m.2.2.1, m.2.2.2.1, st_m0)) hM
    have this : st_mm st_s0 = M := by
      rw [e1]
      show (st_K0, M.2.1, M.2.2.1, M.2.2.2.1, st_Pw st_m0) = M
      rw [← h4, ← hP]
    rw [this]
/-- the law, from its start to its loop -/
theorem bi_to_loop {Q : bi_Out → Prop} (h : bi_T X 2036 294 (23, [(4, .int 0), (3, .ref 112), (2, .ref 77), (1, .ref 0), (0, .ref 4999)], [], st_mm st_s0) Q) : bi_T X 2036 294 (0, [(0, .ref 4999)], [], bi_M00) Q := (bi_lwq_T 13 _ _ (bi_q0_def.symm.trans bi_q0_eq.1)).1 h
end CL2
