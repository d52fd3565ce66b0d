/-! ===== the reference keeps, undoes, inserts, deletes ===== -/
section RWR
/-- keeps(): what the reference's acts are behind it -/
theorem ct_keeps {X : bi_X} {d : Nat} {K : bi_St → Prop} {E : Nat → bi_St → Prop} {s : bi_St} {C m : Nat} {S : Sta} {H : List Sta} (hC : C ≤ 4) (hm : m ≤ 40) (h40 : st_g s 77 40 = zI m) (hS : SR s 0 C S) (hA : AR C s 91 m H)
    (k : ∀ t, fr (fun a k => Nat.beq a 91 || (Nat.beq a 77 && Nat.beq k 40)) s t → st_g t 77 40 = zI (m39 m + 1) → AR C t 91 (m39 m + 1) (S :: h39 m H) → K t) : cV X d 204 [.ref 77] s K E := by
  have hm39 : m39 m < 40 := by unfold m39; by_cases h : m < 40 <;> simp [h]
  have go : ∀ t, fr (fun a k => Nat.beq a 91 || (Nat.beq a 77 && Nat.beq k 40)) s t → st_g t 77 40 = zI (m39 m) → AR C t 91 (m39 m) (h39 m H) → at_X12_keeps_52 X d K E t 0 := by
    intro t ht t40 tA
    have loop : ∀ e n (w : bi_St), e = 72 - n → n ≤ 72 → fr (fun a k => Nat.beq a 91) t w → (∀ q, q < 72 * m39 m → st_g w 91 q = st_g t 91 q) → (∀ q, q < n → st_g w 91 (72 * m39 m + q) = st_g t 90 q) → at_X12_keeps_52 X d K E w (zI n) := by
      intro e
      induction e with
      | zero =>
        intro n w he hn hw h1 h2
        have : n = 72 := by omega
        subst this
        have w40 : st_g w 77 40 = zI (m39 m) := by rw [hw.g rfl]; exact t40
        refine go_X12_keeps_52 ⟨fun _ => ?_, fun z => absurd (by decide) z⟩
        rw [w40, zI_add1]
        refine k _ ((ht.trans (hw.mono (fun a k h => by rw [h]; rfl))).p rfl) (by rw [g_p_eq]) ⟨?_, ?_⟩
        · refine SN_cp (w := 90) (b := 0) (s := s) hC (fun q hq => ?_) hS.2
          rw [g_p_a (by omega), h2 q hq, ht.g rfl, Nat.zero_add]
        · exact AR_cp hC _ _ (fun q hq => by rw [g_p_a (by omega)]; exact h1 q hq) tA
      | succ e ih =>
        intro n w he hn hw h1 h2
        have w40 : st_g w 77 40 = zI (m39 m) := by rw [hw.g rfl]; exact t40
        have e1 : (72 : Int32) * zI (m39 m) + zI n = zI (72 * m39 m + n) := by
          have : (72 : Int32) * zI (m39 m) = zI (72 * m39 m) := zI_mul 72 _
          rw [this, zI_add]
        refine go_X12_keeps_52 ⟨fun z => ?_, fun _ => ?_⟩
        · have := (zI_le (a := 72) (by omega) (by omega)).mp z; omega
        · rw [w40, e1, zI_nat (a := 72 * m39 m + n) (by omega), zI_nat (a := n) (by omega), zI_add1]
          refine ⟨in_zI (by omega) (by omega), in_zI (by omega) (by omega), ih (n + 1) _ (by omega) (by omega) (hw.p rfl) (fun q hq => by rw [g_p_k (by omega)]; exact h1 q hq) (fun q hq => ?_)⟩
          rw [g_p]
          by_cases hqn : q = n
          · subst hqn; rw [if_pos ⟨rfl, rfl⟩, hw.g rfl]
          · rw [if_neg (fun z => hqn (by have := z.2; omega))]; exact h2 q (by omega)
    exact loop 72 0 t (by omega) (by omega) fr.refl (fun _ _ => rfl) (fun q hq => by omega)
  refine en_X12_keeps ⟨fun hne => ?_, fun heq => ?_⟩
  · have hlt : m < 40 := by
      have : ¬ m = 40 := fun z => hne (by rw [h40, z]; rfl)
      omega
    refine go s fr.refl (by rw [h40]; unfold m39; simp [hlt]) ?_
    unfold m39 h39; simp only [hlt, if_true]; exact hA
  · have heq := Decidable.of_not_not heq
    rw [h40] at heq
    have hm40 : m = 40 := (zI_eq (b := 40) (by omega) (by omega)).mp heq
    have m9 : m39 m = 39 := by unfold m39; simp [hm40]
    have h9 : h39 m H = H.dropLast := by unfold h39; simp [hm40]
    have loop : ∀ e n (w : bi_St), e = 2880 - n → 72 ≤ n → n ≤ 2880 → fr (fun a k => Nat.beq a 91) s w → (∀ q, q + 72 < n → st_g w 91 q = st_g s 91 (q + 72)) → (∀ q, n ≤ q + 72 → st_g w 91 q = st_g s 91 q) → at_X12_keeps_12 X d K E w (zI n) := by
      intro e
      induction e with
      | zero =>
        intro n w he hn1 hn hw h1 h2
        have : n = 2880 := by omega
        subst this
        have w40 : st_g w 77 40 = zI 40 := by rw [hw.g rfl, h40, hm40]
        refine go_X12_keeps_12 ⟨fun _ => ?_, fun z => absurd (by decide) z⟩
        rw [w40]
        refine go _ ((hw.mono (fun a k h => by rw [h]; rfl)).p rfl) (by rw [g_p_eq, m9]; rfl) ?_
        rw [m9, h9]
        rw [hm40] at hA
        exact AR_shift (s := s) hC 39 H (fun q hq => by rw [g_p_a (by omega)]; exact h1 q (by omega)) hA
      | succ e ih =>
        intro n w he hn1 hn hw h1 h2
        have e1 : zI n - 72 = zI (n - 72) := zI_sub (m := 72) hn1
        refine go_X12_keeps_12 ⟨fun z => ?_, fun _ => ?_⟩
        · have := (zI_le (a := 2880) (by omega) (by omega)).mp z; omega
        · rw [e1, zI_nat (a := n - 72) (by omega), zI_nat (a := n) (by omega), zI_add1]
          refine ⟨in_zI (by omega) (by omega), in_zI (by omega) (by omega), ih (n + 1) _ (by omega) (by omega) (by omega) (hw.p rfl) (fun q hq => ?_) (fun q hq => by rw [g_p_k (by omega)]; exact h2 q (by omega))⟩
          rw [g_p]
          by_cases hqn : q = n - 72
          · rw [if_pos ⟨rfl, hqn⟩, h2 n (by omega), hqn]; congr 1; omega
          · rw [if_neg (fun z => hqn z.2)]; exact h1 q (by omega)
    exact loop 2808 72 s (by omega) (by omega) (by omega) fr.refl (fun q hq => by omega) (fun _ _ => rfl)
/-- undo() of the reference -/
theorem ct_undoR {X : bi_X} {d : Nat} {K : Int32 → bi_St → Prop} {E : Nat → bi_St → Prop} {s : bi_St} {C m : Nat} {S' : Sta} {H : List Sta} (hC : C ≤ 4) (hm : m < 40) (h40 : st_g s 77 40 = zI (m + 1)) (hA : AR C s 91 (m + 1) (S' :: H))
    (k : ∀ t, fr (fun a k => (Nat.beq a 90 && Nat.blt k 72) || (Nat.beq a 77 && (Nat.beq k 0 || Nat.beq k 40))) s t → st_g t 77 0 = 0 → st_g t 77 40 = zI m → SR t 0 C S' → AR C t 91 m H → K (zI m) t) : cI X d 206 [.ref 77] s K E := by
  have g40 : st_g (st_p s 77 0 0) 77 40 = zI (m + 1) := by rw [g_p_k (by omega)]; exact h40
  have e1 : zI (m + 1) - 1 = zI m := by rw [zI_sub1 (by omega)]; rfl
  refine en_X12_undo ?_
  rw [g40, e1]
  refine ⟨fun _ => ?_, fun z => ?_⟩
  · have f0 : fr (fun a k => (Nat.beq a 90 && Nat.blt k 72) || (Nat.beq a 77 && (Nat.beq k 0 || Nat.beq k 40))) s (st_p (st_p s 77 0 0) 77 40 (zI m)) := (fr.refl.p rfl).p rfl
    have loop : ∀ e n (w : bi_St), e = 72 - n → n ≤ 72 → fr (fun a k => Nat.beq a 90 && Nat.blt k 72) (st_p (st_p s 77 0 0) 77 40 (zI m)) w → (∀ q, q < n → st_g w 90 q = st_g s 91 (72 * m + q)) → at_X12_undo_26 X d K E w (zI n) := by
      intro e
      induction e with
      | zero =>
        intro n w he hn hw h1
        have : n = 72 := by omega
        subst this
        have w40 : st_g w 77 40 = zI m := by rw [hw.g rfl, g_p_eq]
        refine go_X12_undo_26 ⟨fun _ => ?_, fun z => absurd (by decide) z⟩
        rw [w40]
        have w91 : ∀ q, st_g w 91 q = st_g s 91 q := fun q => by rw [hw.g rfl, g_p_a (by omega), g_p_a (by omega)]
        refine k w (f0.trans (hw.mono (fun a k h => by rw [h]; rfl))) (by rw [hw.g rfl, g_p_k (by omega), g_p_eq]) w40 ((SN_SR (by omega)).mp (SN_cp (w := 91) (b := 72 * m) (s := s) hC (fun q hq => by rw [Nat.zero_add]; exact h1 q hq) hA.1)) (AR_cp hC _ _ (fun q _ => w91 q) hA.2)
      | succ e ih =>
        intro n w he hn hw h1
        have w40 : st_g w 77 40 = zI m := by rw [hw.g rfl, g_p_eq]
        have e2 : (72 : Int32) * zI m + zI n = zI (72 * m + n) := by
          have : (72 : Int32) * zI m = zI (72 * m) := zI_mul 72 _
          rw [this, zI_add]
        refine go_X12_undo_26 ⟨fun z => ?_, fun _ => ?_⟩
        · have := (zI_le (a := 72) (by omega) (by omega)).mp z; omega
        · rw [w40, e2, zI_nat (a := 72 * m + n) (by omega), zI_nat (a := n) (by omega), zI_add1]
          have hb : (Nat.beq 90 90 && Nat.blt n 72) = true := by
            have : Nat.blt n 72 = true := by rw [Nat.blt_eq]; omega
            rw [this]; rfl
          refine ⟨in_zI (by omega) (by omega), in_zI (by omega) (by omega), ih (n + 1) _ (by omega) (by omega) (hw.p hb) (fun q hq => ?_)⟩
          rw [g_p]
          by_cases hqn : q = n
          · subst hqn; rw [if_pos ⟨rfl, rfl⟩, hw.g rfl, g_p_a (by omega), g_p_a (by omega)]
          · rw [if_neg (fun z => hqn z.2)]; exact h1 q (by omega)
    exact loop 72 0 _ (by omega) (by omega) fr.refl (fun q hq => by omega)
  · have z := Decidable.of_not_not z
    have := (zI_eq (b := 0) (by omega) (by omega)).mp z
    omega
theorem ct_undoR_no {X : bi_X} {d : Nat} {K : Int32 → bi_St → Prop} {E : Nat → bi_St → Prop} {s : bi_St} (h40 : st_g s 77 40 = 0) (k : K (-1) (st_p s 77 0 0)) : cI X d 206 [.ref 77] s K E := by
  have g40 : st_g (st_p s 77 0 0) 77 40 = 0 := by rw [g_p_k (by omega)]; exact h40
  refine en_X12_undo ?_
  rw [g40]
  exact ⟨fun z => absurd rfl z, fun _ => k⟩
theorem insS_get {S : Sta} {l : Nat → Int32} {q c : Nat} : (insS S l).2.2.2 q c = if q = S.2.2.1 then l c else S.2.2.2 q c := by
  show (if q = S.2.2.1 then l else S.2.2.2 q) c = _
  by_cases h : q = S.2.2.1
  · rw [if_pos h, if_pos h]
  · rw [if_neg h, if_neg h]
/-- inserts(): the line is the numbers as far as the columns go -/
def lnI (C : Nat) (x : Nat → Int32) (c : Nat) : Int32 := if c < C then x c else 0
theorem ct_insertsL {X : bi_X} {d : Nat} {K : Int32 → bi_St → Prop} {E : Nat → bi_St → Prop} {s : bi_St} {b0 C : Nat} {S : Sta} {l : Nat → Int32} (hC : C ≤ 4) (hS : SR s b0 C S) (hn : S.2.2.1 < 16) (hl : ∀ c, c < C → st_g s 92 c = l c)
    (k : ∀ t, fr (fun a k => Nat.beq a 90 && (Nat.ble b0 k && Nat.blt k (b0 + 72))) s t → SR t b0 C (insS S l) → K 1 t) : at_X12_inserts_104 X (d + 1) K E s (zI b0) 0 := by
  have hb0 := hS.1
  have e7 : zI b0 + 7 = zI (b0 + 7) := zI_add b0 7
  have e8 : zI b0 + 8 = zI (b0 + 8) := zI_add b0 8
  have hw : ∀ z, z < 72 → (Nat.beq 90 90 && (Nat.ble b0 (b0 + z) && Nat.blt (b0 + z) (b0 + 72))) = true := fun z hz => by
    have h1 : Nat.ble b0 (b0 + z) = true := Nat.ble_eq_true_of_le (by omega)
    have h2 : Nat.blt (b0 + z) (b0 + 72) = true := by rw [Nat.blt_eq]; omega
    rw [h1, h2]; rfl
  have loop : ∀ e n (t : bi_St), e = 4 - n → n ≤ 4 → fr (fun a k => Nat.beq a 90 && (Nat.ble b0 k && Nat.blt k (b0 + 72))) s t → (∀ q, (q < b0 + 8 + 4 * S.2.2.1 ∨ b0 + 8 + 4 * S.2.2.1 + n ≤ q) → st_g t 90 q = st_g s 90 q) → (∀ c, c < n → st_g t 90 (b0 + 8 + 4 * S.2.2.1 + c) = st_g s 92 c) → at_X12_inserts_104 X (d + 1) K E t (zI b0) (zI n) := by
    intro e
    induction e with
    | zero =>
      intro n t he hn4 ht h1 h2
      have : n = 4 := by omega
      subst this
      refine go_X12_inserts_104 ⟨fun _ => ?_, fun z => absurd (by decide) z⟩
      have g7 : st_g t 90 (b0 + 7) = zI S.2.2.1 := by rw [h1 _ (Or.inl (by omega))]; exact hS.2.2.1
      rw [e7, zI_nat (by omega), g7, zI_add1]
      refine ⟨in_zI (by omega) (by omega), in_zI (by omega) (by omega), k _ (ht.p (hw 7 (by omega))) ⟨hb0, ?_, ?_, ?_, fun r hr => ?_, fun r c hr hc => ?_⟩⟩
      · show S.2.2.1 + 1 ≤ 16; omega
      · rw [g_p_eq]; rfl
      · rw [g_p_k (by omega), h1 _ (Or.inl (by omega))]; exact hS.2.2.2.1
      · rw [g_p_k (by omega), h1 _ (Or.inl (by omega))]; exact hS.2.2.2.2.1 r hr
      · have hr : r < S.2.2.1 + 1 := hr
        rw [insS_get, g_p_k (by omega)]
        by_cases hrn : r = S.2.2.1
        · rw [if_pos hrn, hrn, h2 c (by omega)]; exact hl c hc
        · rw [if_neg hrn, h1 _ (Or.inl (by omega))]; exact hS.2.2.2.2.2 r c (by omega) hc
    | succ e ih =>
      intro n t he hn4 ht h1 h2
      have g7 : st_g t 90 (b0 + 7) = zI S.2.2.1 := by rw [h1 _ (Or.inl (by omega))]; exact hS.2.2.1
      have e9 : zI (b0 + 8) + 4 * zI S.2.2.1 + zI n = zI (b0 + 8 + 4 * S.2.2.1 + n) := z84
      refine go_X12_inserts_104 ⟨fun z => ?_, fun _ => ?_⟩
      · have := (zI_le (a := 4) (by omega) (by omega)).mp z; omega
      · rw [e7, e8, zI_nat (a := b0 + 7) (by omega), g7, e9, zI_nat (a := b0 + 8 + 4 * S.2.2.1 + n) (by omega), zI_nat (a := n) (by omega), zI_add1]
        refine ⟨in_zI (by omega) (by omega), in_zI (by omega) (by omega), in_zI (by omega) (by omega), ih (n + 1) _ (by omega) (by omega) (ht.p (by rw [show b0 + 8 + 4 * S.2.2.1 + n = b0 + (8 + 4 * S.2.2.1 + n) by omega]; exact hw _ (by omega))) (fun q hq => by rw [g_p_k (by omega)]; exact h1 q (by omega)) (fun c hc => ?_)⟩
        rw [g_p]
        by_cases hcn : c = n
        · subst hcn; rw [if_pos ⟨rfl, rfl⟩, ht.g rfl]
        · rw [if_neg (fun z => hcn (by have := z.2; omega))]; exact h2 c (by omega)
  exact loop 4 0 s (by omega) (by omega) fr.refl (fun _ _ => rfl) (fun c hc => by omega)
end RWR
