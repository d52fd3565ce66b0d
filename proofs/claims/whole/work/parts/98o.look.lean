/-! ===== whom to look by next ===== -/
section LOOK
abbrev Gs : Type := Nat × Nat × Nat
/-- the guesses, the newest first -/
def gl1 (g : Nat → Nat → Nat → Bool) (r c : Nat) : Nat → List Gs → List Gs
  | 0, M => M
  | j + 1, M => if g r c j then (r, c, j) :: gl1 g r c j M else gl1 g r c j M
def gl2 (g : Nat → Nat → Nat → Bool) (r : Nat) : Nat → List Gs → List Gs
  | 0, M => M
  | c + 1, M => gl1 g r c 19 (gl2 g r c M)
def gl3 (g : Nat → Nat → Nat → Bool) (C : Nat) : Nat → List Gs → List Gs
  | 0, M => M
  | r + 1, M => gl2 g r C (gl3 g C r M)
def Tm (R p : Nat) (f : Nat → Pol) (S : Sta) (T : (Nat → Int32) × Int32) : List Gs → (Nat → Int32) × Int32
  | [] => T
  | x :: M => lkq R p f S x.1 x.2.1 x.2.2 (Tm R p f S T M)
theorem sr1_gl {R p : Nat} {f : Nat → Pol} {S : Sta} {T : (Nat → Int32) × Int32} {g : Nat → Nat → Nat → Bool} {r c : Nat} {M : List Gs} {q : Qs} (h : q.2.2 = Tm R p f S T M) : ∀ n, (sr1 R p f S 2 g r c n q).2.2 = Tm R p f S T (gl1 g r c n M) := by
  intro n
  induction n with
  | zero => exact h
  | succ n ih =>
    rw [sr1, gl1]
    by_cases hg : g r c n = true
    · rw [if_pos hg, if_pos hg]
      show lkq R p f S r c n (sr1 R p f S 2 g r c n q).2.2 = _
      rw [ih]; rfl
    · rw [if_neg hg, if_neg hg]; exact ih
theorem sr2_gl {R p : Nat} {f : Nat → Pol} {S : Sta} {T : (Nat → Int32) × Int32} {g : Nat → Nat → Nat → Bool} {r : Nat} {M : List Gs} {q : Qs} (h : q.2.2 = Tm R p f S T M) : ∀ n, (sr2 R p f S 2 g r n q).2.2 = Tm R p f S T (gl2 g r n M) := by
  intro n
  induction n with
  | zero => exact h
  | succ n ih => rw [sr2, gl2]; exact sr1_gl ih 19
theorem sr3_gl {R p : Nat} {f : Nat → Pol} {S : Sta} {T : (Nat → Int32) × Int32} {g : Nat → Nat → Nat → Bool} {C : Nat} {M : List Gs} {q : Qs} (h : q.2.2 = Tm R p f S T M) : ∀ n, (sr3 R p f S 2 g C n q).2.2 = Tm R p f S T (gl3 g C n M) := by
  intro n
  induction n with
  | zero => exact h
  | succ n ih => rw [sr3, gl3]; exact sr2_gl ih C
theorem gl1_len {g : Nat → Nat → Nat → Bool} {r c : Nat} {M : List Gs} : ∀ n, (gl1 g r c n M).length ≤ M.length + n := by
  intro n
  induction n with
  | zero => exact Nat.le_refl _
  | succ n ih =>
    rw [gl1]
    by_cases hg : g r c n = true
    · rw [if_pos hg, List.length_cons]; omega
    · rw [if_neg hg]; omega
theorem gl2_len {g : Nat → Nat → Nat → Bool} {r : Nat} {M : List Gs} : ∀ n, (gl2 g r n M).length ≤ M.length + 19 * n := by
  intro n
  induction n with
  | zero => exact Nat.le_refl _
  | succ n ih =>
    rw [gl2]
    have := gl1_len (g := g) (r := r) (c := n) (M := gl2 g r n M) 19
    omega
theorem gl3_len {g : Nat → Nat → Nat → Bool} {C : Nat} (hC : C ≤ 4) : ∀ n, (gl3 g C n []).length ≤ 76 * n := by
  intro n
  induction n with
  | zero => exact Nat.le_refl _
  | succ n ih =>
    rw [gl3]
    have := gl2_len (g := g) (r := n) (M := gl3 g C n []) C
    omega
/-- the set that role u reads at a guess -/
def se (p : Nat) (f : Nat → Pol) (S : Sta) (u : Nat) (x : Gs) : Int32 := bo (reads p f (cs S x.1 x.2.1 (vv x.2.2)) u) S.2.2.1
def kf (p : Nat) (f : Nat → Pol) (S : Sta) (u : Nat) (x : Gs) : Option Nat := if tq p f S x.1 x.2.1 x.2.2 u then some x.1 else none
theorem reads_cs_ne {p : Nat} {f : Nat → Pol} {S : Sta} {r c u q : Nat} {v : Int32} (h : q ≠ r) : reads p f (cs S r c v) u q = reads p f S u q := by
  unfold reads
  have : en (cs S r c v) u q = en S u q := by
    unfold en cs
    simp [h]
  rw [this]; rfl
theorem se_tb {p : Nat} {f : Nat → Pol} {S : Sta} {u : Nat} {x : Gs} (hn : S.2.2.1 ≤ 16) {q : Nat} (hq : q < S.2.2.1) : tb (se p f S u x) q = (reads p f S u q != (decide (kf p f S u x = some q))) := by
  unfold se kf
  rw [tb_bo (by omega) (by omega)]
  simp only [hq, decide_true, Bool.true_and]
  by_cases hqr : q = x.1
  · subst hqr
    unfold tq
    cases h1 : reads p f (cs S x.1 x.2.1 (vv x.2.2)) u x.1 <;> cases h2 : reads p f S u x.1 <;> simp
  · rw [reads_cs_ne hqr]
    have : ¬ x.1 = q := fun z => hqr z.symm
    by_cases ht : tq p f S x.1 x.2.1 x.2.2 u = true
    · simp [ht, this]
    · simp [ht]
theorem se_eq {p : Nat} {f : Nat → Pol} {S : Sta} {u : Nat} {x y : Gs} (hn : S.2.2.1 ≤ 16) (hx : x.1 < S.2.2.1) (hy : y.1 < S.2.2.1) : (se p f S u x = se p f S u y) ↔ kf p f S u x = kf p f S u y := by
  constructor
  · intro h
    have key : ∀ q, q < S.2.2.1 → (kf p f S u x = some q ↔ kf p f S u y = some q) := fun q hq => by
      have h1 := se_tb (p := p) (f := f) (u := u) (x := x) hn hq
      have h2 := se_tb (p := p) (f := f) (u := u) (x := y) hn hq
      rw [h, h2] at h1
      by_cases a : kf p f S u x = some q <;> by_cases b : kf p f S u y = some q <;> simp_all
    cases hkx : kf p f S u x with
    | none =>
      cases hky : kf p f S u y with
      | none => rfl
      | some q =>
        have hq : q = y.1 := by
          unfold kf at hky
          by_cases ht : tq p f S y.1 y.2.1 y.2.2 u = true
          · rw [if_pos ht] at hky; injection hky with hky; exact hky.symm
          · rw [if_neg ht] at hky; cases hky
        have := (key q (by omega)).mpr hky
        rw [hkx] at this; cases this
    | some q =>
      have hq : q = x.1 := by
        unfold kf at hkx
        by_cases ht : tq p f S x.1 x.2.1 x.2.2 u = true
        · rw [if_pos ht] at hkx; injection hkx with hkx; exact hkx.symm
        · rw [if_neg ht] at hkx; cases hkx
      exact ((key q (by omega)).mp hkx).symm
  · intro h
    apply tb_ext
    intro q hq
    by_cases hqn : q < S.2.2.1
    · rw [se_tb hn hqn, se_tb hn hqn, h]
    · unfold se
      rw [tb_bo (by omega) hq, tb_bo (by omega) hq]; simp [hqn]
def cntS (p : Nat) (f : Nat → Pol) (S : Sta) (u : Nat) : List Gs → Nat
  | [] => 0
  | x :: M => cntS p f S u M + (if M.any (fun y => decide (se p f S u y = se p f S u x)) then 0 else 1)
theorem bc_or {x : Int32} {r : Nat} (hr : r < 16) (h : tb x r = false) : bc (x ||| s1 r) 16 = bc x 16 + 1 := by
  have := bc_flip (x := x ||| s1 r) (y := x) (u := r) (by rw [tb_or, tb_s1 (by omega) (by omega)]; simp) h (fun q hq => by
    by_cases h32 : q < 32
    · rw [tb_or, tb_s1 (by omega) h32]; simp [hq]
    · unfold tb; rw [BitVec.getLsbD_of_ge _ _ (by omega), BitVec.getLsbD_of_ge _ _ (by omega)]) 16
  rw [this]; simp [hr]
theorem or_s1 {x : Int32} {r : Nat} (hr : r < 32) (h : tb x r = true) : x ||| s1 r = x := tb_ext fun q hq => by
  rw [tb_or, tb_s1 hr hq]
  by_cases hqr : q = r
  · subst hqr; rw [h]; rfl
  · simp [hqr]
theorem cntS_eq {R p : Nat} {f : Nat → Pol} {S : Sta} {T : (Nat → Int32) × Int32} {u : Nat} (hR : R ≤ 6) (hn : S.2.2.1 ≤ 16) (hu : u < R) (hT1 : T.1 u = 0) (hT2 : T.2 = 0) : ∀ M : List Gs, (∀ x, x ∈ M → x.1 < S.2.2.1) →
    cntS p f S u M = bc ((Tm R p f S T M).1 u) 16 + (tb (Tm R p f S T M).2 u).toNat ∧ (∀ r, r < 16 → (tb ((Tm R p f S T M).1 u) r = true ↔ ∃ y, y ∈ M ∧ kf p f S u y = some r)) ∧ (tb (Tm R p f S T M).2 u = true ↔ ∃ y, y ∈ M ∧ kf p f S u y = none) := by
  intro M
  induction M with
  | nil =>
    intro _
    refine ⟨?_, fun r hr => ?_, ?_⟩
    · show 0 = bc (T.1 u) 16 + (tb T.2 u).toNat
      rw [hT1, hT2, tb_0]
      have : bc 0 16 = 0 := by decide
      rw [this]; rfl
    · show tb (T.1 u) r = true ↔ _
      rw [hT1, tb_0]; simp
    · show tb T.2 u = true ↔ _
      rw [hT2, tb_0]; simp
  | cons x M ih =>
    intro hM
    have hx := hM x (by simp)
    obtain ⟨i1, i2, i3⟩ := ih (fun y hy => hM y (by simp [hy]))
    have hany : (M.any (fun y => decide (se p f S u y = se p f S u x)) = true) ↔ ∃ y, y ∈ M ∧ kf p f S u y = kf p f S u x := by
      rw [List.any_eq_true]
      constructor
      · rintro ⟨y, h1, h2⟩; exact ⟨y, h1, (se_eq hn (hM y (by simp [h1])) hx).mp (of_decide_eq_true h2)⟩
      · rintro ⟨y, h1, h2⟩; exact ⟨y, h1, decide_eq_true ((se_eq hn (hM y (by simp [h1])) hx).mpr h2)⟩
    have eT1 : (Tm R p f S T (x :: M)).1 u = if tq p f S x.1 x.2.1 x.2.2 u = true then (Tm R p f S T M).1 u ||| s1 x.1 else (Tm R p f S T M).1 u := by
      show (if u < R ∧ tq p f S x.1 x.2.1 x.2.2 u = true then _ else _) = _
      simp only [hu, true_and]
    have eT2 : tb (Tm R p f S T (x :: M)).2 u = (tb (Tm R p f S T M).2 u || !(tq p f S x.1 x.2.1 x.2.2 u)) := by
      show tb ((Tm R p f S T M).2 ||| bo (fun u => !(tq p f S x.1 x.2.1 x.2.2 u)) R) u = _
      rw [tb_or, tb_bo (by omega) (by omega)]; simp [hu]
    cases ht : tq p f S x.1 x.2.1 x.2.2 u with
    | true =>
      have hk : kf p f S u x = some x.1 := by unfold kf; rw [ht]; rfl
      rw [ht, if_pos rfl] at eT1
      rw [ht] at eT2
      simp only [Bool.not_true, Bool.or_false] at eT2
      rw [eT1, eT2]
      refine ⟨?_, fun r hr => ?_, ?_⟩
      · rw [cntS, i1]
        by_cases hb : tb ((Tm R p f S T M).1 u) x.1 = true
        · have : M.any (fun y => decide (se p f S u y = se p f S u x)) = true := hany.mpr (by
            obtain ⟨y, h1, h2⟩ := (i2 x.1 (by omega)).mp hb
            exact ⟨y, h1, by rw [h2, hk]⟩)
          rw [this, or_s1 (by omega) hb]; simp
        · have : ¬ M.any (fun y => decide (se p f S u y = se p f S u x)) = true := fun z => hb (by
            obtain ⟨y, h1, h2⟩ := hany.mp z
            exact (i2 x.1 (by omega)).mpr ⟨y, h1, by rw [h2, hk]⟩)
          rw [if_neg this, bc_or (by omega) (by simpa using hb)]; omega
      · rw [tb_or, Bool.or_eq_true, i2 r hr, tb_s1 (by omega) (by omega), decide_eq_true_eq]
        constructor
        · rintro (⟨y, h1, h2⟩ | h)
          · exact ⟨y, by simp [h1], h2⟩
          · exact ⟨x, by simp, by rw [hk, h]⟩
        · rintro ⟨y, h1, h2⟩
          rcases List.mem_cons.mp h1 with h | h
          · subst h; rw [hk] at h2; injection h2 with h2; exact Or.inr h2.symm
          · exact Or.inl ⟨y, h, h2⟩
      · rw [i3]
        constructor
        · rintro ⟨y, h1, h2⟩; exact ⟨y, by simp [h1], h2⟩
        · rintro ⟨y, h1, h2⟩
          rcases List.mem_cons.mp h1 with h | h
          · subst h; rw [hk] at h2; cases h2
          · exact ⟨y, h, h2⟩
    | false =>
      have hk : kf p f S u x = none := by unfold kf; rw [ht]; rfl
      rw [ht, if_neg (by simp)] at eT1
      rw [ht] at eT2
      simp only [Bool.not_false, Bool.or_true] at eT2
      rw [eT1, eT2]
      refine ⟨?_, fun r hr => ?_, ?_⟩
      · rw [cntS, i1]
        cases hb : tb (Tm R p f S T M).2 u with
        | true =>
          have : M.any (fun y => decide (se p f S u y = se p f S u x)) = true := hany.mpr (by
            obtain ⟨y, h1, h2⟩ := i3.mp hb
            exact ⟨y, h1, by rw [h2, hk]⟩)
          rw [this]; simp
        | false =>
          have : ¬ M.any (fun y => decide (se p f S u y = se p f S u x)) = true := fun z => by
            obtain ⟨y, h1, h2⟩ := hany.mp z
            have := i3.mpr ⟨y, h1, by rw [h2, hk]⟩
            rw [hb] at this; cases this
          rw [if_neg this]; simp
      · rw [i2 r hr]
        constructor
        · rintro ⟨y, h1, h2⟩; exact ⟨y, by simp [h1], h2⟩
        · rintro ⟨y, h1, h2⟩
          rcases List.mem_cons.mp h1 with h | h
          · subst h; rw [hk] at h2; cases h2
          · exact ⟨y, h, h2⟩
      · simp only [true_iff]
        exact ⟨x, by simp, hk⟩
theorem gl1_mem {g : Nat → Nat → Nat → Bool} {r c N : Nat} {M : List Gs} (hr : r < N) (hM : ∀ x, x ∈ M → x.1 < N) : ∀ n x, x ∈ gl1 g r c n M → x.1 < N := by
  intro n
  induction n with
  | zero => exact hM
  | succ n ih =>
    intro x hx
    rw [gl1] at hx
    by_cases hg : g r c n = true
    · rw [if_pos hg] at hx
      rcases List.mem_cons.mp hx with h | h
      · rw [h]; exact hr
      · exact ih x h
    · rw [if_neg hg] at hx; exact ih x hx
theorem gl2_mem {g : Nat → Nat → Nat → Bool} {r N : Nat} {M : List Gs} (hr : r < N) (hM : ∀ x, x ∈ M → x.1 < N) : ∀ n x, x ∈ gl2 g r n M → x.1 < N := by
  intro n
  induction n with
  | zero => exact hM
  | succ n ih => intro x hx; rw [gl2] at hx; exact gl1_mem hr ih 19 x hx
theorem gl3_mem {g : Nat → Nat → Nat → Bool} {C N : Nat} : ∀ n, n ≤ N → ∀ x, x ∈ gl3 g C n [] → x.1 < N := by
  intro n
  induction n with
  | zero => intro _ x hx; cases hx
  | succ n ih => intro hn x hx; rw [gl3] at hx; exact gl2_mem (by omega) (ih (by omega)) C x hx
/-- the best role -/
def bst (c : Nat → Nat) : Nat → Int32 × Nat
  | 0 => (-1, 0)
  | u + 1 => if (bst c u).2 < c u then (zI u, c u) else bst c u
theorem bst_congr {c e : Nat → Nat} {n : Nat} (h : ∀ u, u < n → c u = e u) : bst c n = bst e n := by
  induction n with
  | zero => rfl
  | succ n ih => rw [bst, bst, ih (fun u hu => h u (by omega)), h n (by omega)]
theorem bst_ok {c : Nat → Nat} : ∀ n, n ≤ 6 → (bst c n = (-1, 0) ∨ ∃ u, u < n ∧ bst c n = (zI u, c u)) := by
  intro n
  induction n with
  | zero => intro _; exact Or.inl rfl
  | succ n ih =>
    intro hn
    rw [bst]
    by_cases h : (bst c n).2 < c n
    · rw [if_pos h]; exact Or.inr ⟨n, by omega, rfl⟩
    · rw [if_neg h]
      rcases ih (by omega) with h | ⟨u, h1, h2⟩
      · exact Or.inl h
      · exact Or.inr ⟨u, by omega, h2⟩
end LOOK
