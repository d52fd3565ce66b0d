/-! ===== the machine that reads an expression ===== -/
section MACH
/-- q, out, waits (the top first), tested, depth, silent -/
abbrev Mx : Type := Nat × Lp × List Nat × (Nat → Bool) × Nat × Bool
/-- before an operand (may 'not' stand, how many did), or (none) behind one -/
abbrev Ms : Type := Option (Bool × Nat) × Mx
/-- a fault and its place; or the next token, the rule, whether it is silent -/
abbrev Rs : Type := (Nat × Nat) ⊕ (Nat × Lp × Bool)
def strg (o : Nat) : Nat := if o = 13 then 1 else if o = 12 then 2 else if o = 5 then 3 else if o = 10 ∨ o = 11 then 4 else if o = 6 ∨ o = 7 then 5 else 6
def pop (k : Nat) : Lp → List Nat → Lp × List Nat
  | out, [] => (out, [])
  | out, o :: w => if 14 ≤ o then (out, o :: w) else if k ≤ strg o then pop k (out ++ [(o, 0)]) w else (out, o :: w)
def hasO (w : List Nat) : Bool := w.any (fun o => Nat.ble 14 o)
def weak (k : Nat) : List Nat → Prop
  | [] => True
  | o :: _ => 14 ≤ o ∨ strg o < k
theorem pop_op {k o : Nat} {out : Lp} {w : List Nat} (h1 : o < 14) (h2 : k ≤ strg o) : pop k out (o :: w) = pop k (out ++ [(o, 0)]) w := by
  rw [pop, if_neg (by omega), if_pos h2]
theorem pop_weak {k : Nat} {out : Lp} {w : List Nat} (h : weak k w) : pop k out w = (out, w) := by
  cases w with
  | nil => rfl
  | cons o w =>
    rw [pop]
    by_cases h1 : 14 ≤ o
    · rw [if_pos h1]
    · rw [if_neg h1]
      rcases h with h | h
      · exact absurd h h1
      · rw [if_neg (by omega)]
def canB (B : Nat → Nat) (N q : Nat) : Bool := decide (tK B N q = 2) || (decide (tK B N q = 1) || decide (tG B N q = 40))
def flt (k p : Nat) : Ms ⊕ Rs := .inr (.inl (k, p))
def opn (B : Nat → Nat) (N o q : Nat) (sil : Bool) (m : Mx) : Ms ⊕ Rs := if m.2.2.2.2.1 < 6 then .inl (some (true, 0), (q, m.2.1, o :: m.2.2.1, va_up m.2.2.2.1 (m.2.2.2.2.1 + 1) false, m.2.2.2.2.1 + 1, sil)) else flt (if canB B N q then 2 else 1) (tS B N q)
def gotO (q : Nat) (o : Nat × Nat) (m : Mx) : Ms ⊕ Rs := .inl (none, (q, m.2.1 ++ [o], m.2.2))
def prt (B : Nat → Nat) (N C R : Nat) (m : Mx) : Ms ⊕ Rs :=
  if tK B N m.1 = 2 then (if 4 < tL B N m.1 then flt 2 (tS B N m.1) else gotO (tE B N m.1) (0, tV B N m.1) m)
  else if tK B N m.1 = 1 then
    (if kn B N m.1 = 20 then
      (if tK B N (tE B N m.1) ≠ 2 then flt 1 (tS B N (tE B N m.1)) else if 4 < tL B N (tE B N m.1) then flt 2 (tS B N (tE B N m.1)) else if R ≤ tV B N (tE B N m.1) then flt 3 (tS B N (tE B N m.1)) else gotO (tE B N (tE B N m.1)) (3, tV B N (tE B N m.1)) m)
    else if kn B N m.1 = 19 then gotO (tE B N m.1) (2, 0) m
    else if tL B N m.1 = 1 ∧ B (tS B N m.1) - 97 < C then gotO (tE B N m.1) (1, B (tS B N m.1) - 97) m
    else flt 3 (tS B N m.1))
  else flt 1 (tS B N m.1)
def stO (B : Nat → Nat) (N C R : Nat) (mn : Bool) (nots : Nat) (m : Mx) : Ms ⊕ Rs :=
  if mn = true ∧ kn B N m.1 = 24 then (if nots = 6 then flt 2 (tS B N m.1) else .inl (some (mn, nots + 1), (tE B N m.1, m.2.1, 5 :: m.2.2.1, m.2.2.2)))
  else if kn B N m.1 = 21 then (if tG B N (tE B N m.1) = 40 then opn B N 15 (tE B N (tE B N m.1)) false m else flt 1 (tS B N (tE B N m.1)))
  else if tG B N m.1 = 40 then opn B N 14 (tE B N m.1) m.2.2.2.2.2 m
  else prt B N C R m
def psh (q o k : Nat) (mn : Bool) (tst : Nat → Bool) (sil : Bool) (m : Mx) : Ms ⊕ Rs := .inl (some (mn, 0), (q, (pop k m.2.1 m.2.2.1).1, o :: (pop k m.2.1 m.2.2.1).2, tst, m.2.2.2.2.1, sil))
def cls (q : Nat) (m : Mx) : Ms ⊕ Rs := match (pop 0 m.2.1 m.2.2.1).2 with
  | o :: w => .inl (none, (q, (if o = 15 then (pop 0 m.2.1 m.2.2.1).1 ++ [(4, 0)] else (pop 0 m.2.1 m.2.2.1).1), w, m.2.2.2.1, m.2.2.2.2.1 - 1, m.2.2.2.2.2))
  | [] => flt 9 9
def stP (B : Nat → Nat) (N : Nat) (m : Mx) : Ms ⊕ Rs :=
  if kn B N m.1 = 22 then psh (tE B N m.1) 12 2 true (va_up m.2.2.2.1 m.2.2.2.2.1 false) m.2.2.2.2.2 m
  else if kn B N m.1 = 23 then psh (tE B N m.1) 13 1 true (va_up m.2.2.2.1 m.2.2.2.2.1 false) m.2.2.2.2.2 m
  else if tG B N m.1 = 60 ∧ m.2.2.2.1 m.2.2.2.2.1 = false then psh (tE B N m.1) 10 4 false (va_up m.2.2.2.1 m.2.2.2.2.1 true) m.2.2.2.2.2 m
  else if tG B N m.1 = 61 ∧ m.2.2.2.1 m.2.2.2.2.1 = false then psh (tE B N m.1) 11 4 false (va_up m.2.2.2.1 m.2.2.2.2.1 true) m.2.2.2.2.2 m
  else if tG B N m.1 = 43 then psh (tE B N m.1) 6 5 false m.2.2.2.1 m.2.2.2.2.2 m
  else if tG B N m.1 = 45 then psh (tE B N m.1) 7 5 false m.2.2.2.1 m.2.2.2.2.2 m
  else if tG B N m.1 = 42 then psh (tE B N m.1) 8 6 false m.2.2.2.1 m.2.2.2.2.2 m
  else if tG B N m.1 = 47 then psh (tE B N m.1) 9 6 false m.2.2.2.1 (m.2.2.2.2.2 && (decide (tK B N (tE B N m.1) = 2) && (!(decide (4 < tL B N (tE B N m.1))) && !(decide (tV B N (tE B N m.1) = 0))))) m
  else if tG B N m.1 = 41 ∧ hasO m.2.2.1 = true then cls (tE B N m.1) m
  else if 1 < m.2.2.2.2.1 then flt 1 (tS B N m.1) else .inr (.inr (m.1, (pop 0 m.2.1 m.2.2.1).1, m.2.2.2.2.2))
def stpM (B : Nat → Nat) (N C R : Nat) (m : Ms) : Ms ⊕ Rs := match m.1 with
  | some x => stO B N C R x.1 x.2 m.2
  | none => stP B N m.2
def enM (B : Nat → Nat) (N C R : Nat) : Nat → Ms → Option Rs
  | 0, _ => none
  | n + 1, m => match stpM B N C R m with
    | .inl m' => enM B N C R n m'
    | .inr r => some r
def Ends (B : Nat → Nat) (N C R : Nat) (m : Ms) (r : Rs) : Prop := ∃ n, enM B N C R n m = some r
theorem Ends.fin {B : Nat → Nat} {N C R : Nat} (m : Ms) (r : Rs) (h : stpM B N C R m = .inr r) : Ends B N C R m r := ⟨1, by rw [enM, h]⟩
theorem Ends.go {B : Nat → Nat} {N C R : Nat} (m m' : Ms) (r : Rs) (h : stpM B N C R m = .inl m') (k : Ends B N C R m' r) : Ends B N C R m r := k.elim fun n hn => ⟨n + 1, by rw [enM, h]; exact hn⟩
theorem Ends.same {B : Nat → Nat} {N C R : Nat} {m m' : Ms} {r : Rs} (h : stpM B N C R m = stpM B N C R m') (k : Ends B N C R m' r) : Ends B N C R m r := k.elim fun n hn => ⟨n, by
  cases n with
  | zero => exact hn
  | succ n => rw [enM, h]; exact hn⟩
theorem Ends.ind {B : Nat → Nat} {N C R : Nat} {r : Rs} {p : Ms → Prop} (f : ∀ m, stpM B N C R m = .inr r → p m) (g : ∀ m m', stpM B N C R m = .inl m' → p m' → p m) (m : Ms) (h : Ends B N C R m r) : p m := by
  obtain ⟨n, hn⟩ := h
  induction n generalizing m with
  | zero => cases hn
  | succ n ih =>
    rw [enM] at hn
    cases hs : stpM B N C R m with
    | inl m' => rw [hs] at hn; exact g m m' hs (ih m' hn)
    | inr r' => rw [hs] at hn; injection hn with hn; rw [hn] at hs; exact f m hs
def Sim (B : Nat → Nat) (N C R : Nat) (m m' : Ms) : Prop := ∀ r, Ends B N C R m' r → Ends B N C R m r
theorem Sim.refl {B : Nat → Nat} {N C R : Nat} (m : Ms) : Sim B N C R m m := fun _ h => h
theorem Sim.trans {B : Nat → Nat} {N C R : Nat} {a b c : Ms} (h : Sim B N C R a b) (k : Sim B N C R b c) : Sim B N C R a c := fun r hr => h r (k r hr)
theorem Sim.step {B : Nat → Nat} {N C R : Nat} {a b : Ms} (h : stpM B N C R a = .inl b) : Sim B N C R a b := fun r hr => .go a b r h hr
/-- the least strength that goes at this token -/
def lvl (B : Nat → Nat) (N q : Nat) (t : Bool) : Nat := if kn B N q = 22 then 2 else if kn B N q = 23 then 1 else if (tG B N q = 60 ∨ tG B N q = 61) ∧ t = false then 4 else if tG B N q = 43 ∨ tG B N q = 45 then 5 else if tG B N q = 42 ∨ tG B N q = 47 then 6 else 0
theorem kn_G {B : Nat → Nat} {N q : Nat} (h : kn B N q < 25) : tG B N q = 0 := by
  have := (kn_lt h).1
  unfold tG; rw [if_neg (by omega)]
theorem stP_pop {B : Nat → Nat} {N q o dep : Nat} {out : Lp} {w : List Nat} {tst : Nat → Bool} {sil : Bool} (ho : o < 14) (hs : lvl B N q (tst dep) ≤ strg o) : stP B N (q, out, o :: w, tst, dep, sil) = stP B N (q, out ++ [(o, 0)], w, tst, dep, sil) := by
  have hO : hasO (o :: w) = hasO w := by unfold hasO; rw [List.any_cons, ble_f ho, Bool.false_or]
  have pp : ∀ k, k ≤ strg o → pop k out (o :: w) = pop k (out ++ [(o, 0)]) w := fun k hk => pop_op ho hk
  have p0 := pp 0 (Nat.zero_le _)
  unfold lvl at hs
  unfold stP psh cls
  simp only [hO, p0]
  by_cases c1 : kn B N q = 22
  · simp only [c1, if_true] at hs ⊢; rw [pp 2 hs]
  · by_cases c2 : kn B N q = 23
    · simp only [if_neg c1, if_pos c2] at hs ⊢; rw [pp 1 hs]
    · simp only [if_neg c1, if_neg c2] at hs ⊢
      by_cases c3 : (tG B N q = 60 ∨ tG B N q = 61) ∧ tst dep = false
      · rw [if_pos c3] at hs
        rw [pp 4 hs]
        rcases c3.1 with c | c
        · simp only [if_pos (And.intro c c3.2)]
        · have : ¬ (tG B N q = 60 ∧ tst dep = false) := by omega
          simp only [if_neg this, if_pos (And.intro c c3.2)]
      · rw [if_neg c3] at hs
        have n60 : ¬ (tG B N q = 60 ∧ tst dep = false) := fun z => c3 ⟨Or.inl z.1, z.2⟩
        have n61 : ¬ (tG B N q = 61 ∧ tst dep = false) := fun z => c3 ⟨Or.inr z.1, z.2⟩
        simp only [if_neg n60, if_neg n61]
        by_cases c4 : tG B N q = 43 ∨ tG B N q = 45
        · rw [if_pos c4] at hs
          rw [pp 5 hs]
          rcases c4 with c | c
          · simp only [if_pos c]
          · have : ¬ tG B N q = 43 := by omega
            simp only [if_neg this, if_pos c]
        · rw [if_neg c4] at hs
          have n43 : ¬ tG B N q = 43 := fun z => c4 (Or.inl z)
          have n45 : ¬ tG B N q = 45 := fun z => c4 (Or.inr z)
          simp only [if_neg n43, if_neg n45]
          by_cases c5 : tG B N q = 42 ∨ tG B N q = 47
          · rw [if_pos c5] at hs
            rw [pp 6 hs]
          · have n42 : ¬ tG B N q = 42 := fun z => c5 (Or.inl z)
            have n47 : ¬ tG B N q = 47 := fun z => c5 (Or.inr z)
            rw [if_neg n42, if_neg n47, if_neg n42, if_neg n47]
theorem Sim.pop {B : Nat → Nat} {N C R q o dep : Nat} {out : Lp} {w : List Nat} {tst : Nat → Bool} {sil : Bool} (ho : o < 14) (hs : lvl B N q (tst dep) ≤ strg o) : Sim B N C R (none, (q, out, o :: w, tst, dep, sil)) (none, (q, out ++ [(o, 0)], w, tst, dep, sil)) := by
  have e : stpM B N C R (none, (q, out, o :: w, tst, dep, sil)) = stpM B N C R (none, (q, out ++ [(o, 0)], w, tst, dep, sil)) := stP_pop ho hs
  exact fun r hr => hr.same e
/-- binary operations that wait -/
def bin (w : List Nat) : Nat := w.countP (fun o => Nat.ble 6 o && Nat.ble o 13)
theorem bin_c {o : Nat} {w : List Nat} (h : 6 ≤ o ∧ o ≤ 13) : bin (o :: w) = bin w + 1 := by
  unfold bin; rw [List.countP_cons, Nat.ble_eq_true_of_le h.1, Nat.ble_eq_true_of_le h.2]; rfl
theorem bin_n {o : Nat} {w : List Nat} (h : o < 6 ∨ 13 < o) : bin (o :: w) = bin w := by
  unfold bin
  rw [List.countP_cons]
  rcases h with h | h
  · rw [ble_f h]; rfl
  · rw [ble_f h, Bool.and_false]; rfl
def okf (C : Nat) (out : Lp) (h : Nat) : Prop := ∀ P, ok_p C P h → ok_p C (out ++ P) 0
theorem okf_nil (C : Nat) : okf C [] 0 := fun _ h => h
theorem okf_snoc {C : Nat} {out : Lp} {h : Nat} {o : Nat × Nat} (hk : okf C out h) (h1 : op_ok C o) (h2 : op_n o.1 ≤ h) (h3 : h - op_n o.1 < 64) : okf C (out ++ [o]) (h - op_n o.1 + 1) := fun P hP => by
  rw [List.append_assoc]
  exact hk _ ⟨h1, h2, h3, hP⟩
theorem okf_ok {C : Nat} {out : Lp} (h : okf C out 1) : ok_p C out 0 := by
  have := h [] rfl
  rw [List.append_nil] at this; exact this
end MACH
