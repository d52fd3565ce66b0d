/-! ===== writes ===== -/
section WR
def l4 (x0 x1 x2 x3 : Int32) (c : Nat) : Int32 := if c = 0 then x0 else if c = 1 then x1 else if c = 2 then x2 else x3
/-- what a write of the row b0 may change of the reference -/
def wX (b0 a k : Nat) : Bool := wF a k || (Nat.beq a 90 && (Nat.ble b0 k && Nat.blt k (b0 + 72)))
theorem wF_wX (b0 a k : Nat) (h : wF a k = true) : wX b0 a k = true := by unfold wX; rw [h]; rfl
theorem w90_wX (b0 a k : Nat) (h : (Nat.beq a 90 && (Nat.ble b0 k && Nat.blt k (b0 + 72))) = true) : wX b0 a k = true := by unfold wX; rw [h]; simp
theorem wX_in {b0 z : Nat} (hz : z < 72) : wX b0 90 (b0 + z) = true := by
  apply w90_wX
  have h1 : Nat.ble b0 (b0 + z) = true := Nat.ble_eq_true_of_le (by omega)
  have h2 : Nat.blt (b0 + z) (b0 + 72) = true := by rw [Nat.blt_eq]; omega
  rw [h1, h2]; rfl
theorem wX_ne {b0 a k : Nat} (h1 : a ≠ 93) (h2 : a ≠ 92) (h3 : a ≠ 77) (h4 : a ≠ 90) : wX b0 a k = false := by
  unfold wX
  rw [wF_ne h1 h2 h3, beq_ne h4]; rfl
/-- a line that a user may insert -/
def insOK (p : Nat) (f : Nat → Pol) (S : Sta) (u : Nat) (l : Nat → Int32) : Bool := po_let p f (l, zI u, clo S.1 (s1 u)) S.2.1 1 true
theorem ct_inserts {X : bi_X} {d : Nat} {K : Int32 → bi_St → Prop} {E : Nat → bi_St → Prop} {s : bi_St} {b0 C R p u : Nat} {f : Nat → Pol} {S : Sta} {x0 x1 x2 x3 : Int32} (hj : RC s b0 C R p f S) (h28 : st_g s 77 28 = zI C) (h1C : 1 ≤ C) (hu : u < 6)
    (k0 : ∀ t, fr wF s t → (S.2.2.1 = 16 ∨ insOK p f S u (l4 x0 x1 x2 x3) = false) → K 0 t)
    (k1 : ∀ t, fr (wX b0) s t → S.2.2.1 < 16 → insOK p f S u (l4 x0 x1 x2 x3) = true → SR t b0 C (insS S (l4 x0 x1 x2 x3)) → K 1 t) : cI X (d + 3) 241 [.ref 77, .int (zI b0), .int (zI u), .int x0, .int x1, .int x2, .int x3] s K E := by
  have hn := hj.2.1.2.1
  have hC := hj.1.1
  have hb0 := hj.2.1.1
  have e7 : zI b0 + 7 = zI (b0 + 7) := zI_add b0 7
  have e1 : ((1 : Int32)).toNatClampNeg = 1 := rfl
  have e2 : ((2 : Int32)).toNatClampNeg = 2 := rfl
  have e3 : ((3 : Int32)).toNatClampNeg = 3 := rfl
  refine en_X12_inserts ?_
  rw [e7, zI_nat (by omega), hj.2.1.2.2.1]
  refine ⟨in_zI (by omega) (by omega), fun hne => ?_, fun heq => k0 s fr.refl (Or.inl ((zI_eq (b := 16) (by omega) (by omega)).mp (Decidable.of_not_not heq)))⟩
  have hne : S.2.2.1 < 16 := by
    have : ¬ S.2.2.1 = 16 := fun z => hne (by rw [z]; rfl)
    omega
  refine ct_laysUser hj hu (fun t ht h4 h43 _ => ?_)
  have t28 : st_g t 77 28 = zI C := by rw [ht.g rfl]; exact h28
  have fin : ∀ t', fr wF t t' → (∀ c, c < C → st_g t' 92 c = l4 x0 x1 x2 x3 c) → st_g t' 92 4 = zI u → st_g t' 77 43 = clo S.1 (s1 u) → cI X (d + 2) 215 [.ref 77, .int (zI b0), .int (1 : Int32), .int (1 : Int32)] t' (fun (r2 : Int32) (s2 : bi_St) => ((¬ r2 = 0) → at_X12_inserts_104 X (d + 2 + 1) K E s2 (zI b0) ((0 : Int32))) ∧ (¬ (¬ r2 = 0) → K (0 : Int32) s2)) (fun _ _ => False) := by
    intro t' ht' hl h4' h43'
    have hj' := RC_fr (ht.trans ht') hj
    refine ct_doLetJ (cmd := 1) (how := true) (e := (l4 x0 x1 x2 x3, zI u, clo S.1 (s1 u))) hj' ⟨hl, h4', h43'⟩ (by omega) (fun t2 ht2 => ?_)
    have hj2 := RC_fr (ht2.mono wD_wF) hj'
    have hft : fr wF s t2 := ht.trans (ht'.trans (ht2.mono wD_wF))
    rw [b2i_ne0]
    refine ⟨fun h => ct_insertsL (l := l4 x0 x1 x2 x3) hC hj2.2.1 hne (fun c hc => by rw [ht2.g (wD_ne (by omega) (by omega))]; exact hl c hc) (fun t3 ht3 hs3 => k1 t3 ((hft.mono (wF_wX b0)).trans (ht3.mono (w90_wX b0))) hne (by unfold insOK; simpa using h) hs3), fun h => k0 t2 hft (Or.inr (Decidable.of_not_not h))⟩
  have g28 : ∀ (w : bi_St) q v, st_g (st_p w 92 q v) 77 28 = st_g w 77 28 := fun w q v => g_p_a (by omega)
  rw [toN0, e1, e2, e3]
  simp only [g28, t28]
  have c1 : (zI C ≤ 1) ↔ C ≤ 1 := zI_le (b := 1) (by omega) (by omega)
  have c2 : (zI C ≤ 2) ↔ C ≤ 2 := zI_le (b := 2) (by omega) (by omega)
  have c3 : (zI C ≤ 3) ↔ C ≤ 3 := zI_le (b := 3) (by omega) (by omega)
  rw [c1, c2, c3]
  have fr4 : ∀ v0 v1 v2 v3 : Int32, fr wF t (st_p (st_p (st_p (st_p t 92 0 v0) 92 1 v1) 92 2 v2) 92 3 v3) := fun v0 v1 v2 v3 => (((fr.refl.p rfl).p rfl).p rfl).p rfl
  have g92 : ∀ (v0 v1 v2 v3 : Int32) c, c < 4 → st_g (st_p (st_p (st_p (st_p t 92 0 v0) 92 1 v1) 92 2 v2) 92 3 v3) 92 c = l4 v0 v1 v2 v3 c := fun v0 v1 v2 v3 c hc => by
    have : c = 0 ∨ c = 1 ∨ c = 2 ∨ c = 3 := by omega
    rcases this with h | h | h | h <;> subst h
    · rw [g_p_k (by omega), g_p_k (by omega), g_p_k (by omega), g_p_eq]; rfl
    · rw [g_p_k (by omega), g_p_k (by omega), g_p_eq]; rfl
    · rw [g_p_k (by omega), g_p_eq]; rfl
    · rw [g_p_eq]; rfl
  have all : ∀ v1 v2 v3 : Int32, (1 < C → v1 = x1) → (2 < C → v2 = x2) → (3 < C → v3 = x3) → cI X (d + 2) 215 [.ref 77, .int (zI b0), .int (1 : Int32), .int (1 : Int32)] (st_p (st_p (st_p (st_p t 92 0 x0) 92 1 v1) 92 2 v2) 92 3 v3) (fun (r2 : Int32) (s2 : bi_St) => ((¬ r2 = 0) → at_X12_inserts_104 X (d + 2 + 1) K E s2 (zI b0) ((0 : Int32))) ∧ (¬ (¬ r2 = 0) → K (0 : Int32) s2)) (fun _ _ => False) := by
    intro v1 v2 v3 h1 h2 h3
    refine fin _ (fr4 x0 v1 v2 v3) (fun c hc => ?_) ?_ ?_
    · rw [g92 _ _ _ _ c (by omega)]
      have : c = 0 ∨ c = 1 ∨ c = 2 ∨ c = 3 := by omega
      rcases this with h | h | h | h <;> subst h
      · rfl
      · show v1 = x1; exact h1 hc
      · show v2 = x2; exact h2 hc
      · show v3 = x3; exact h3 hc
    · rw [g_p_k (by omega), g_p_k (by omega), g_p_k (by omega), g_p_k (by omega)]; exact h4
    · rw [g_p_a (by omega), g_p_a (by omega), g_p_a (by omega), g_p_a (by omega)]; exact h43
  refine ⟨rfl, fun a1 => ⟨rfl, fun a2 => ⟨rfl, fun a3 => ⟨rfl, all _ _ _ (fun z => by omega) (fun z => by omega) (fun z => by omega)⟩, fun a3 => ⟨rfl, all _ _ _ (fun z => by omega) (fun z => by omega) (fun z => by omega)⟩⟩, fun a2 => ⟨rfl, fun a3 => ⟨rfl, all _ _ _ (fun z => by omega) (fun z => by omega) (fun z => by omega)⟩, fun a3 => ⟨rfl, all _ _ _ (fun z => by omega) (fun z => by omega) (fun z => by omega)⟩⟩⟩, fun a1 => ⟨rfl, fun a2 => ⟨rfl, fun a3 => ⟨rfl, all _ _ _ (fun _ => rfl) (fun z => by omega) (fun z => by omega)⟩, fun a3 => ⟨rfl, all _ _ _ (fun _ => rfl) (fun z => by omega) (fun z => by omega)⟩⟩, fun a2 => ⟨rfl, fun a3 => ⟨rfl, all _ _ _ (fun _ => rfl) (fun _ => rfl) (fun z => by omega)⟩, fun a3 => ⟨rfl, all _ _ _ (fun _ => rfl) (fun _ => rfl) (fun _ => rfl)⟩⟩⟩⟩
theorem delS_get {S : Sta} {r q c : Nat} : (delS S r).2.2.2 q c = if q < r then S.2.2.2 q c else S.2.2.2 (q + 1) c := by
  show (if q < r then S.2.2.2 q else S.2.2.2 (q + 1)) c = _
  by_cases h : q < r
  · rw [if_pos h, if_pos h]
  · rw [if_neg h, if_neg h]
theorem ct_deletes {X : bi_X} {d : Nat} {K : bi_St → Prop} {E : Nat → bi_St → Prop} {s : bi_St} {b0 C r : Nat} {S : Sta} (hC : C ≤ 4) (hS : SR s b0 C S) (hr : r < S.2.2.1)
    (k : ∀ t, fr (wX b0) s t → SR t b0 C (delS S r) → K t) : cV X d 244 [.ref 77, .int (zI b0), .int (zI r)] s K E := by
  have hb0 := hS.1
  have hn := hS.2.1
  have e7 : zI b0 + 7 = zI (b0 + 7) := zI_add b0 7
  have e8 : zI b0 + 8 = zI (b0 + 8) := zI_add b0 8
  have e84 : ∀ n, (8 : Int32) + 4 * zI n = zI (8 + 4 * n) := fun n => by
    have e1 : (4 : Int32) * zI n = zI (4 * n) := zI_mul 4 n
    have : (8 : Int32) = zI 8 := rfl
    rw [e1, this, zI_add]
  -- the last row's zeros
  have zeros : ∀ t, fr (wX b0) s t → SR t b0 C (delS S r) → ∀ e n (w : bi_St), e = 4 - n → n ≤ 4 → fr (wX b0) t w → (∀ q, q < b0 + 8 + 4 * (S.2.2.1 - 1) → b0 ≤ q → st_g w 90 q = st_g t 90 q) → at_X12_deletes_66 X d K E w (zI b0) (zI n) := by
    intro t ht hs e
    have keep : ∀ w : bi_St, (∀ q, q < b0 + 8 + 4 * (S.2.2.1 - 1) → b0 ≤ q → st_g w 90 q = st_g t 90 q) → SR w b0 C (delS S r) := fun w hw => by
      obtain ⟨h0, h1, h2, h3, h4, h5⟩ := hs
      refine ⟨h0, h1, by rw [hw _ (by omega) (by omega)]; exact h2, by rw [hw _ (by omega) (by omega)]; exact h3, fun q hq => by rw [hw _ (by omega) (by omega)]; exact h4 q hq, fun q c hq hc => ?_⟩
      have hq' : q < S.2.2.1 - 1 := hq
      rw [hw _ (by omega) (by omega)]; exact h5 q c hq hc
    induction e with
    | zero =>
      intro n w he hn4 hw hq
      have : n = 4 := by omega
      subst this
      exact go_X12_deletes_66 ⟨fun _ => k w (ht.trans hw) (keep w hq), fun z => absurd (by decide) z⟩
    | succ e ih =>
      intro n w he hn4 hw hq
      have g7 : st_g w 90 (b0 + 7) = zI (S.2.2.1 - 1) := (keep w hq).2.2.1
      have e9 : zI (b0 + 8) + 4 * zI (S.2.2.1 - 1) + zI n = zI (b0 + 8 + 4 * (S.2.2.1 - 1) + n) := z84
      refine go_X12_deletes_66 ⟨fun z => ?_, fun _ => ?_⟩
      · have := (zI_le (a := 4) (by omega) (by omega)).mp z; omega
      · rw [e7, e8, zI_nat (a := b0 + 7) (by omega), g7, e9, zI_nat (a := b0 + 8 + 4 * (S.2.2.1 - 1) + n) (by omega), zI_add1]
        refine ⟨in_zI (by omega) (by omega), in_zI (by omega) (by omega), ih (n + 1) _ (by omega) (by omega) (hw.p (by rw [show b0 + 8 + 4 * (S.2.2.1 - 1) + n = b0 + (8 + 4 * (S.2.2.1 - 1) + n) by omega]; exact wX_in (by omega))) (fun q hq1 hq2 => by rw [g_p_k (by omega)]; exact hq q hq1 hq2)⟩
  have loop : ∀ e n (t : bi_St), e = 8 + 4 * (S.2.2.1 - 1) - n → 8 + 4 * r ≤ n → n ≤ 8 + 4 * (S.2.2.1 - 1) → fr (wX b0) s t → (∀ q, (q < 8 + 4 * r ∨ n ≤ q) → st_g t 90 (b0 + q) = st_g s 90 (b0 + q)) → (∀ q, 8 + 4 * r ≤ q → q < n → st_g t 90 (b0 + q) = st_g s 90 (b0 + q + 4)) → at_X12_deletes_7 X d K E t (zI b0) (zI n) := by
    intro e
    induction e with
    | zero =>
      intro n t he hn1 hn2 ht h1 h2
      have hnn : n = 8 + 4 * (S.2.2.1 - 1) := by omega
      have g7 : st_g t 90 (b0 + 7) = zI S.2.2.1 := by rw [h1 7 (Or.inl (by omega))]; exact hS.2.2.1
      refine go_X12_deletes_7 ?_
      rw [e7, zI_nat (a := b0 + 7) (by omega), g7, zI_sub1 (by omega), e84, hnn]
      refine ⟨in_zI (by omega) (by omega), fun _ => ⟨in_zI (by omega) (by omega), in_zI (by omega) (by omega), ?_⟩, fun z => absurd ((zI_le (by omega) (by omega)).mpr (Nat.le_refl _)) z⟩
      refine zeros _ (ht.p (wX_in (z := 7) (by omega))) ⟨hb0, ?_, ?_, ?_, fun q hq => ?_, fun q c hq hc => ?_⟩ 4 0 _ (by omega) (by omega) fr.refl (fun _ _ _ => rfl)
      · show S.2.2.1 - 1 ≤ 16; omega
      · rw [g_p_eq]; rfl
      · rw [g_p_k (by omega), h1 6 (Or.inl (by omega))]; exact hS.2.2.2.1
      · rw [g_p_k (by omega), h1 q (Or.inl (by omega))]; exact hS.2.2.2.2.1 q hq
      · have hq : q < S.2.2.1 - 1 := hq
        rw [delS_get, g_p_k (by omega), show b0 + 8 + 4 * q + c = b0 + (8 + 4 * q + c) by omega]
        by_cases hqr : q < r
        · rw [if_pos hqr, h1 _ (Or.inl (by omega)), show b0 + (8 + 4 * q + c) = b0 + 8 + 4 * q + c by omega]; exact hS.2.2.2.2.2 q c (by omega) hc
        · rw [if_neg hqr, h2 _ (by omega) (by omega), show b0 + (8 + 4 * q + c) + 4 = b0 + 8 + 4 * (q + 1) + c by omega]; exact hS.2.2.2.2.2 (q + 1) c (by omega) hc
    | succ e ih =>
      intro n t he hn1 hn2 ht h1 h2
      have g7 : st_g t 90 (b0 + 7) = zI S.2.2.1 := by rw [h1 7 (Or.inl (by omega))]; exact hS.2.2.1
      have e10 : zI (b0 + n) + 4 = zI (b0 + n + 4) := zI_add _ 4
      refine go_X12_deletes_7 ?_
      rw [e7, zI_nat (a := b0 + 7) (by omega), g7, zI_sub1 (by omega), e84, zI_add, e10, zI_nat (a := b0 + n + 4) (by omega), zI_nat (a := b0 + n) (by omega), zI_add1]
      refine ⟨in_zI (by omega) (by omega), fun z => ?_, fun _ => ⟨in_zI (by omega) (by omega), in_zI (by omega) (by omega), ih (n + 1) _ (by omega) (by omega) (by omega) (ht.p (wX_in (by omega))) (fun q hq => ?_) (fun q hq1 hq2 => ?_)⟩⟩
      · rw [zI_le (by omega) (by omega)] at z; omega
      · rw [g_p_k (by omega)]; exact h1 q (by omega)
      · rw [g_p]
        by_cases hqn : q = n
        · subst hqn; rw [if_pos ⟨rfl, rfl⟩, Nat.add_assoc, h1 (q + 4) (Or.inr (by omega))]
        · rw [if_neg (fun z => hqn (by have := z.2; omega))]; exact h2 q hq1 (by omega)
  refine en_X12_deletes ?_
  rw [e84]
  exact loop (8 + 4 * (S.2.2.1 - 1) - (8 + 4 * r)) (8 + 4 * r) s rfl (by omega) (by omega) fr.refl (fun _ _ => rfl) (fun q h1 h2 => by omega)
end WR
