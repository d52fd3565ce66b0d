/-! ===== a text's lines, by tokens ===== -/
section TXT
theorem enM_up {B : Nat → Nat} {N C R : Nat} : ∀ (n : Nat) (m : Ms) (r : Rs), enM B N C R n m = some r → enM B N C R (n + 1) m = some r := by
  intro n
  induction n with
  | zero => intro m r h; cases h
  | succ n ih =>
    intro m r h
    rw [enM] at h ⊢
    cases hs : stpM B N C R m with
    | inl m' => rw [hs] at h; exact ih m' r h
    | inr r' => rw [hs] at h; exact h
theorem enM_le {B : Nat → Nat} {N C R n : Nat} {m : Ms} {r : Rs} (h : enM B N C R n m = some r) : ∀ k, enM B N C R (n + k) m = some r := by
  intro k
  induction k with
  | zero => exact h
  | succ k ih => exact enM_up _ _ _ ih
theorem Ends.det {B : Nat → Nat} {N C R : Nat} {m : Ms} {r r' : Rs} (h : Ends B N C R m r) (k : Ends B N C R m r') : r = r' := by
  obtain ⟨n, hn⟩ := h
  obtain ⟨n', hn'⟩ := k
  have a := enM_le hn n'
  have b := enM_le hn' n
  rw [Nat.add_comm] at b
  rw [a] at b
  injection b
/-- a step goes past a token -/
theorem stp_adv {B : Nat → Nat} {N C R : Nat} {m m' : Ms} (hq : m.2.1 ≤ N) (h : stpM B N C R m = .inl m') : m.2.1 < m'.2.1 ∧ m'.2.1 ≤ N := by
  obtain ⟨mo, q, out, w, tst, dep, sil⟩ := m
  have hq : q ≤ N := hq
  have a1 : tK B N q ≠ 0 → q < tE B N q ∧ tE B N q ≤ N := tok_adv hq
  have a2 : tK B N q ≠ 0 → q < tE B N (tE B N q) ∧ tE B N (tE B N q) ≤ N := fun z => by
    have := a1 z
    have := tE_le (B := B) (N := N) (q := tE B N q) (by omega)
    omega
  have k1 : kn B N q < 25 → tK B N q ≠ 0 := fun z => by have := (kn_lt z).1; omega
  have g1 : tG B N q ≠ 0 → tK B N q ≠ 0 := fun z => by have := G_K z; omega
  have res : ∀ q' mm, m' = mm → mm.2.1 = q' → q < q' ∧ q' ≤ N → (((mo, q, out, w, tst, dep, sil) : Ms).2.1 < m'.2.1 ∧ m'.2.1 ≤ N) := fun q' mm e1 e2 e3 => by rw [e1, e2]; exact e3
  cases mo with
  | some x =>
    have h : stO B N C R x.1 x.2 (q, out, w, tst, dep, sil) = .inl m' := h
    unfold stO at h
    simp only at h
    split at h
    · rename_i hc
      split at h
      · cases h
      · injection h with h
        exact res _ _ h.symm rfl (a1 (k1 (by omega)))
    · split at h
      · rename_i hc
        split at h
        · unfold opn at h
          split at h
          · injection h with h
            exact res _ _ h.symm rfl (a2 (k1 (by omega)))
          · cases h
        · cases h
      · split at h
        · rename_i hc
          unfold opn at h
          split at h
          · injection h with h
            exact res _ _ h.symm rfl (a1 (g1 (by omega)))
          · cases h
        · unfold prt gotO at h
          simp only at h
          split at h
          · rename_i hc
            split at h
            · cases h
            · injection h with h
              exact res _ _ h.symm rfl (a1 (by omega))
          · split at h
            · rename_i hc
              split at h
              · split at h
                · cases h
                · split at h
                  · cases h
                  · split at h
                    · cases h
                    · injection h with h
                      exact res _ _ h.symm rfl (a2 (by omega))
              · split at h
                · injection h with h
                  exact res _ _ h.symm rfl (a1 (by omega))
                · split at h
                  · injection h with h
                    exact res _ _ h.symm rfl (a1 (by omega))
                  · cases h
            · cases h
  | none =>
    have h : stP B N (q, out, w, tst, dep, sil) = .inl m' := h
    unfold stP psh at h
    simp only at h
    split at h
    · injection h with h
      exact res _ _ h.symm rfl (a1 (k1 (by omega)))
    · split at h
      · injection h with h
        exact res _ _ h.symm rfl (a1 (k1 (by omega)))
      · split at h
        · injection h with h
          exact res _ _ h.symm rfl (a1 (g1 (by omega)))
        · split at h
          · injection h with h
            exact res _ _ h.symm rfl (a1 (g1 (by omega)))
          · split at h
            · injection h with h
              exact res _ _ h.symm rfl (a1 (g1 (by omega)))
            · split at h
              · injection h with h
                exact res _ _ h.symm rfl (a1 (g1 (by omega)))
              · split at h
                · injection h with h
                  exact res _ _ h.symm rfl (a1 (g1 (by omega)))
                · split at h
                  · injection h with h
                    exact res _ _ h.symm rfl (a1 (g1 (by omega)))
                  · split at h
                    · unfold cls at h
                      simp only at h
                      split at h
                      · injection h with h
                        exact res _ _ h.symm rfl (a1 (g1 (by omega)))
                      · cases h
                    · split at h <;> cases h
theorem ends_ex {B : Nat → Nat} {N C R : Nat} : ∀ (k : Nat) (m : Ms), m.2.1 ≤ N → N - m.2.1 ≤ k → ∃ r, Ends B N C R m r := by
  intro k
  induction k with
  | zero =>
    intro m h1 h2
    cases hs : stpM B N C R m with
    | inr r => exact ⟨r, .fin _ _ hs⟩
    | inl m' => have := stp_adv h1 hs; omega
  | succ k ih =>
    intro m h1 h2
    cases hs : stpM B N C R m with
    | inr r => exact ⟨r, .fin _ _ hs⟩
    | inl m' =>
      have := stp_adv h1 hs
      obtain ⟨r, hr⟩ := ih m' (by omega) (by omega)
      exact ⟨r, .go _ _ _ hs hr⟩
/-- what the expression at q comes to -/
noncomputable def exr (B : Nat → Nat) (N C R q : Nat) : Rs := Classical.epsilon (fun r => Ends B N C R (m0 q) r)
theorem exr_ok {B : Nat → Nat} {N C R q : Nat} (hq : q ≤ N) : Ends B N C R (m0 q) (exr B N C R q) := Classical.epsilon_spec (p := fun r => Ends B N C R (m0 q) r) (ends_ex (N - q) (m0 q) hq (Nat.le_refl _))
theorem exr_eq {B : Nat → Nat} {N C R q : Nat} {r : Rs} (hq : q ≤ N) (h : Ends B N C R (m0 q) r) : exr B N C R q = r := (exr_ok hq).det h
/-- the fault of a number that must be below mx; 0 without -/
def nmF (B : Nat → Nat) (N q mx fk : Nat) : Nat := if tK B N q = 2 then (if 4 < tL B N q then 2 else if mx ≤ tV B N q then fk else 0) else 1
abbrev Fl (α : Type) : Type := (Nat × Nat) ⊕ α
def rdRole (B : Nat → Nat) (N R : Nat) : Nat → Nat → Int32 → Fl (Int32 × Nat)
  | 0, q, w => .inr (w, q)
  | n + 1, q, w => if tK B N q = 2 then (if nmF B N q R 3 = 0 then rdRole B N R n (tE B N q) (w ||| s1 (tV B N q)) else .inl (nmF B N q R 3, tS B N q)) else .inr (w, q)
def mnq (B : Nat → Nat) (N q : Nat) : Nat := if tG B N q = 45 then tE B N q else q
def rdRow (B : Nat → Nat) (N : Nat) : Nat → Nat → Nat → (Nat → Int32) → Fl ((Nat → Int32) × Nat)
  | 0, _, q, l => .inr (l, q)
  | m + 1, c, q, l => if nmF B N (mnq B N q) 100 2 = 0 then rdRow B N m (c + 1) (tE B N (mnq B N q)) (va_up l c (if tG B N q = 45 then - zI (tV B N (mnq B N q)) else zI (tV B N (mnq B N q)))) else .inl (nmF B N (mnq B N q) 100 2, tS B N (mnq B N q))
noncomputable def rdOpt (B : Nat → Nat) (N C R q kw : Nat) : Fl (Option Lp × Nat) := if kn B N q = kw then (match exr B N C R (tE B N q) with
  | .inl e => .inl e
  | .inr x => .inr (some x.2.1, x.1)) else .inr (none, q)
noncomputable def rdPol (B : Nat → Nat) (N C R : Nat) (rs : Bool) (q : Nat) : Fl (Pol × Nat) :=
  if kn B N q ≠ 10 ∧ nmF B N q R 3 ≠ 0 then .inl (nmF B N q R 3, tS B N q)
  else if 4 < kn B N (tE B N q) then .inl (1, tS B N (tE B N q))
  else match rdOpt B N C R (tE B N (tE B N q)) 11 with
    | .inl e => .inl e
    | .inr x => match rdOpt B N C R x.2 12 with
      | .inl e => .inl e
      | .inr y => .inr ((rs, (if kn B N q = 10 then -1 else zI (tV B N q)), kn B N (tE B N q), x.1, y.1), y.2)
def rdOwn (B : Nat → Nat) (N R q : Nat) : Fl (Int32 × Nat) := if kn B N q = 14 then .inr (-1, tE B N q) else if kn B N q = 15 then (if nmF B N (tE B N q) R 3 = 0 then .inr (zI (tV B N (tE B N q)), tE B N (tE B N q)) else .inl (nmF B N (tE B N q) R 3, tS B N (tE B N q))) else .inl (1, tS B N q)
def rdOf (B : Nat → Nat) (N v q : Nat) : Fl (Int32 × Nat) := if kn B N q = 17 then (if nmF B N (tE B N q) v 3 = 0 then .inr (zI (tV B N (tE B N q)), tE B N (tE B N q)) else .inl (nmF B N (tE B N q) v 3, tS B N (tE B N q))) else .inr (-1, q)
def barq (B : Nat → Nat) (N q : Nat) : Nat := if kn B N q = 16 then tE B N q else q
noncomputable def rdVw (B : Nat → Nat) (N C R v q : Nat) : Fl (Vw × Nat) := match rdOwn B N R q with
  | .inl e => .inl e
  | .inr x => match rdOf B N v (barq B N x.2) with
    | .inl e => .inl e
    | .inr y => if kn B N y.2 = 18 then (match exr B N C R (tE B N y.2) with
      | .inl e => .inl e
      | .inr z => .inr ((x.1, decide (kn B N x.2 = 16), y.1, z.2.2, z.2.1), z.1)) else .inl (1, tS B N y.2)
/-- columns, roles and what they were given, rows, policies, views -/
abbrev Tx : Type := (Nat × Nat) × (Nat → Int32) × (Nat × (Nat → Nat → Int32)) × (Nat × (Nat → Pol)) × (Nat × (Nat → Vw))
def xC (T : Tx) : Nat := T.1.1
def xR (T : Tx) : Nat := T.1.2
def xG (T : Tx) : Nat → Int32 := T.2.1
def xn (T : Tx) : Nat := T.2.2.1.1
def xc (T : Tx) : Nat → Nat → Int32 := T.2.2.1.2
def xp (T : Tx) : Nat := T.2.2.2.1.1
def xf (T : Tx) : Nat → Pol := T.2.2.2.1.2
def xv (T : Tx) : Nat := T.2.2.2.2.1
def xg (T : Tx) : Nat → Vw := T.2.2.2.2.2
def tx0 (C : Nat) : Tx := ((C, 0), fun _ => 0, (0, fun _ _ => 0), (0, fun _ => (false, 0, 0, none, none)), (0, fun _ => (0, false, 0, false, [])))
def txR (T : Tx) (w : Int32) : Tx := ((xC T, xR T + 1), va_up (xG T) (xR T) w, T.2.2)
def txW (T : Tx) (l : Nat → Int32) : Tx := (T.1, T.2.1, (xn T + 1, va_up (xc T) (xn T) l), T.2.2.2)
def txP (T : Tx) (x : Pol) : Tx := (T.1, T.2.1, T.2.2.1, (xp T + 1, va_up (xf T) (xp T) x), T.2.2.2.2)
def txV (T : Tx) (x : Vw) : Tx := (T.1, T.2.1, T.2.2.1, T.2.2.2.1, (xv T + 1, va_up (xg T) (xv T) x))
def fmap {α β : Type} (g : α → β) (x : Fl (α × Nat)) : Fl (β × Nat) := match x with
  | .inl e => .inl e
  | .inr y => .inr (g y.1, y.2)
noncomputable def lin (B : Nat → Nat) (N : Nat) (T : Tx) (q : Nat) : Fl (Tx × Nat) :=
  if kn B N q = 6 then (if xR T = 6 then .inl (2, tS B N q) else fmap (txR T) (rdRole B N (xR T) 701 (tE B N q) 0))
  else if kn B N q = 7 then (if xn T = 16 then .inl (2, tS B N q) else fmap (txW T) (rdRow B N (xC T) 0 (tE B N q) (fun _ => 0)))
  else if kn B N q = 8 ∨ kn B N q = 9 then (if xp T = 8 then .inl (2, tS B N q) else fmap (txP T) (rdPol B N (xC T) (xR T) (decide (kn B N q = 9)) (tE B N q)))
  else if kn B N q = 13 then (if xv T = 3 then .inl (2, tS B N q) else fmap (txV T) (rdVw B N (xC T) (xR T) (xv T) (tE B N q)))
  else .inl (1, tS B N q)
noncomputable def lns (B : Nat → Nat) (N : Nat) : Nat → Tx → Nat → Fl Tx
  | 0, T, _ => .inr T
  | k + 1, T, q => if tK B N q = 0 then .inr T else match lin B N T q with
    | .inl e => .inl e
    | .inr x => if tG B N x.2 = 59 then lns B N k x.1 (tE B N x.2) else .inl (1, tS B N x.2)
def clF (B : Nat → Nat) (N q : Nat) : Nat := if nmF B N q 5 2 = 0 then (if tV B N q = 0 then 2 else 0) else nmF B N q 5 2
noncomputable def txt (B : Nat → Nat) (N : Nat) : Fl Tx :=
  if kn B N 0 = 5 then (if clF B N (tE B N 0) = 0 then (if tG B N (tE B N (tE B N 0)) = 59 then lns B N 701 (tx0 (tV B N (tE B N 0))) (tE B N (tE B N (tE B N 0))) else .inl (1, tS B N (tE B N (tE B N 0)))) else .inl (clF B N (tE B N 0), tS B N (tE B N 0)))
  else lns B N 701 (tx0 2) 0
/-- conditions of a query, from the i-th on -/
noncomputable def cnd (B : Nat → Nat) (N C R : Nat) : Nat → Nat → List (Lp × Bool) → Fl (List (Lp × Bool))
  | 0, q, _ => .inl (if canB B N q then 2 else 1, tS B N q)
  | n + 1, q, D => match exr B N C R q with
    | .inl e => .inl e
    | .inr x => if tK B N x.1 = 0 then .inr (D ++ [(x.2.1, x.2.2)]) else if tG B N x.1 = 44 then cnd B N C R n (tE B N x.1) (D ++ [(x.2.1, x.2.2)]) else .inl (1, tS B N x.1)
end TXT
