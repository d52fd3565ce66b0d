section CLOSED
variable {X : bi_X} {j pc : Nat} {lv : bi_Lv} {st : List Value} {M : bi_Mem}
def bi_no9 (st : List Value) : Bool := st.all (fun v => match v with
  | .ref a => !(Nat.beq a 4999)
  | _ => true)
theorem bi_stp_X {X' : bi_X} (h : bi_no9 st = true) : bi_stp X j pc lv st M = bi_stp X' j pc lv st M := by
  unfold bi_stp
  split
  · unfold bi_step
    split
    all_goals first
      | rfl
      | (unfold bi_iald; split
         · rename_i i a r
           simp only [bi_no9, List.all_cons, Bool.and_eq_true, Bool.not_eq_true'] at h
           rw [h.2.1]; rfl
         · rfl)
      | (unfold bi_alen; split
         · rename_i a r
           simp only [bi_no9, List.all_cons, Bool.and_eq_true, Bool.not_eq_true'] at h
           rw [h.1]; rfl
         · rfl)
  · rfl
/-- a run that never looks at the script -/
def bi_exq : Nat → Nat → Nat → bi_S → Option (Option Value × bi_Mem)
  | 0, _, _, _ => none
  | n + 1, d, j, (pc, lv, st, M) => bif bi_no9 st && bi_a80 M then (match bi_stp (0, fun _ => 0) j pc lv st M with
    | some (true, .inl s) => bi_exq n d j s
    | some (true, .inr (.inl (v, M'))) => some (v, M')
    | some (true, .inr (.inr (.inr (j', as, r, M')))) => (match d with
      | 0 => none
      | d' + 1 => (match bi_exq n d' j' (0, bi_ent as, [], M') with
        | some (v, M2) => bi_exq n (d' + 1) j (pc + 3, lv, v.toList ++ r, M2)
        | none => none))
    | _ => none) else none
theorem bi_exq_ex : ∀ (n d j : Nat) (q : bi_S) (v : Option Value) (M' : bi_Mem), bi_exq n d j q = some (v, M') → bi_ex X n d j q = some (.inl v, M') ∧ (bi_PS q.2.2.2 → bi_PS M') := by
  intro n
  induction n with
  | zero => intro d j q v M' h; simp [bi_exq] at h
  | succ n ih =>
    intro d j q v M' h
    obtain ⟨pc, lv, st, M⟩ := q
    rw [bi_exq] at h
    cases hc : (bi_no9 st && bi_a80 M) with
    | false => rw [hc] at h; simp at h
    | true =>
      rw [hc] at h
      simp only [cond_true] at h
      simp only [Bool.and_eq_true] at hc
      rw [bi_stp_X (X' := X) hc.1] at h
      rw [bi_ex]
      cases hs : bi_stp X j pc lv st M with
      | none => rw [hs] at h; simp at h
      | some r =>
        rw [hs] at h
        obtain ⟨x, r⟩ := r
        cases x with
        | false => simp at h
        | true =>
          have hps := bi_stp_ps hs rfl hc.2
          rcases r with q' | ⟨v1, M1⟩ | ⟨E, M1⟩ | ⟨j', as, r, M1⟩
          · obtain ⟨h1, h2⟩ := ih _ _ _ _ _ h
            exact ⟨h1, fun hp => h2 (hps hp)⟩
          · cases h
            exact ⟨rfl, hps⟩
          · simp at h
          · cases d with
            | zero => simp at h
            | succ d' =>
              simp only at h ⊢
              cases hq : bi_exq n d' j' (0, bi_ent as, [], M1) with
              | none => rw [hq] at h; simp at h
              | some z =>
                rw [hq] at h
                obtain ⟨v2, M2⟩ := z
                obtain ⟨a1, a2⟩ := ih _ _ _ _ _ hq
                obtain ⟨b1, b2⟩ := ih _ _ _ _ _ h
                rw [a1]
                exact ⟨b1, fun hp => b2 (a2 (hps hp))⟩
end CLOSED
