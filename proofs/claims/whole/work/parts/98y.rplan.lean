/-! ===== the order of steps, of the reference ===== -/
section RPLAN
def RQ (s : bi_St) (Q : (Nat → Int32) → Sp → Prop) (L : List Sp) : Prop := ∀ i x, L[i]? = some x → Q (fun k => st_g s 94 (6 * i + k)) x
def Rok (s : bi_St) (Q : (Nat → Int32) → Sp → Prop) : Prop := (∀ v w x, (∀ k, k < 6 → v k = w k) → Q v x → Q w x) ∧ ∀ v x, Q v x → x.2.2.1 < 2147483648 ∧ x.1 ≤ 2 ∧ v 0 = zI x.1 ∧ v 2 = zI x.2.2.1 ∧ v 3 = b2i x.2.2.2.1 ∧ (x.1 = 1 → ∃ w, w < 3 ∧ v 1 = zI w ∧ st_g s 85 (6 * w + 1) = b2i x.2.2.2.2.2.2) ∧ (x.1 ≠ 1 → x.2.2.2.2.2.2 = false)
theorem ct_mayGoR {X : bi_X} {d : Nat} {K : Int32 → bi_St → Prop} {E : Nat → bi_St → Prop} {s : bi_St} {Q : (Nat → Int32) → Sp → Prop} {L : List Sp} {j : Nat} (hQ : Rok s Q) (hP : RQ s Q L) (hl : L.length ≤ 9) (h1 : 1 ≤ j) (hj : j < L.length) (k : K (b2i (mgAt L j)) s) : cI X d 233 [.ref 77, .int (zI j)] s K E := by
  have hx : L[j]? = some L[j] := List.getElem?_eq_getElem (by omega)
  have hy : L[j - 1]? = some L[j - 1] := List.getElem?_eq_getElem (by omega)
  have hm : mgAt L j = mg L[j] L[j - 1] := by unfold mgAt; rw [hx, hy]
  obtain ⟨a1, a2, a3, a4, a5, a6, a7⟩ := hQ.2 _ _ (hP j _ hx)
  obtain ⟨b1, b2, b3, b4, b5, b6, b7⟩ := hQ.2 _ _ (hP (j - 1) _ hy)
  rw [hm] at k
  generalize L[j] = x at a1 a2 a3 a4 a5 a6 a7 k
  generalize L[j - 1] = y at b1 b2 b3 b4 b5 b6 b7 k
  have a3 : st_g s 94 (6 * j) = zI x.1 := a3
  have e0 : (6 : Int32) * zI j = zI (6 * j) := zI_mul 6 j
  have e6 : zI (6 * j) - 6 = zI (6 * (j - 1)) := by
    have : zI (6 * j) - 6 = zI (6 * j - 6) := zI_sub (m := 6) (by omega)
    rw [this]; congr 1; omega
  have e2 : ∀ n, zI n + 2 = zI (n + 2) := fun n => zI_add n 2
  have e3 : ∀ n, zI n + 3 = zI (n + 3) := fun n => zI_add n 3
  have e1 : ∀ n, zI n + 1 = zI (n + 1) := fun n => zI_add1 n
  unfold mg at k
  refine en_X12_mayGoAhead ?_
  have b3 : st_g s 94 (6 * (j - 1)) = zI y.1 := b3
  have b4 : st_g s 94 (6 * (j - 1) + 2) = zI y.2.2.1 := b4
  have b5 : st_g s 94 (6 * (j - 1) + 3) = b2i y.2.2.2.1 := b5
  have a4 : st_g s 94 (6 * j + 2) = zI x.2.2.1 := a4
  have a5 : st_g s 94 (6 * j + 3) = b2i x.2.2.2.1 := a5
  have c0 : (zI x.1 = 0) ↔ x.1 = 0 := zI_eq (b := 0) (by omega) (by omega)
  have c1 : (zI y.1 = 1) ↔ y.1 = 1 := zI_eq (b := 1) (by omega) (by omega)
  have h90 : ∀ z : Bool, z = false → y.2.2.2.2.2.2 = z → ¬ x.1 = 0 → x.2.2.1 < y.2.2.1 → x.2.2.2.1 = false → at_X12_mayGoAhead_90 X d K E s (zI (6 * (j - 1))) := by
    intro z hz hy6 h0 hlt hs
    rw [hz] at hy6
    refine go_X12_mayGoAhead_90 ?_
    rw [e3, zI_nat (by omega), b5, b2i_eq1]
    rw [decide_eq_false h0, decide_eq_true hlt, hs, hy6] at k
    refine ⟨in_zI (by omega) (by omega), fun h => go_X12_mayGoAhead_114 ?_, fun h => ⟨fun z => absurd rfl z, fun _ => ?_⟩⟩
    · have h : y.2.2.2.1 = false := by simpa using h
      rw [h] at k; exact k
    · rw [Decidable.of_not_not h] at k; exact k
  rw [e0, e6, e2, e2, e3, e3, e1, zI_nat (a := 6 * j) (by omega), zI_nat (a := 6 * j + 2) (by omega), zI_nat (a := 6 * j + 3) (by omega), zI_nat (a := 6 * (j - 1)) (by omega), zI_nat (a := 6 * (j - 1) + 2) (by omega), zI_nat (a := 6 * (j - 1) + 3) (by omega), zI_nat (a := 6 * (j - 1) + 1) (by omega), a3, a4, a5, b3, b4, b5, c0, c1, zI_lt a1 b1, b2i_eq1, b2i_eq1]
  refine ⟨in_zI (by omega) (by omega), fun h => go_X12_mayGoAhead_38 ?_, fun h => ⟨in_zI (by omega) (by omega), in_zI (by omega) (by omega), fun hlt => ⟨in_zI (by omega) (by omega), fun hs => ⟨in_zI (by omega) (by omega), fun hk => ?_, fun hk => ⟨in_zI (by omega) (by omega), ?_⟩⟩, fun hs => ?_⟩, fun hlt => go_X12_mayGoAhead_38 ?_⟩⟩
  · rw [decide_eq_true h] at k; exact k
  · exact h90 _ rfl (b7 hk) h hlt (by simpa using hs)
  · have hk := Decidable.of_not_not hk
    obtain ⟨w, w1, w2, w3⟩ := b6 hk
    have w2 : st_g s 94 (6 * (j - 1) + 1) = zI w := w2
    have e8 : (6 : Int32) * zI w = zI (6 * w) := zI_mul 6 w
    have hs : x.2.2.2.1 = false := by simpa using hs
    rw [w2, e8, e1, zI_nat (a := 6 * w + 1) (by omega), w3, b2i_eq1]
    refine ⟨in_zI (by omega) (by omega), fun hbr => h90 _ rfl (by simpa using hbr) h hlt hs, fun hbr => ⟨in_zI (by omega) (by omega), fun _ => go_X12_mayGoAhead_114 ?_, fun _ => ⟨fun _ => go_X12_mayGoAhead_114 ?_, fun z => absurd (by decide) z⟩⟩⟩
    · rw [decide_eq_false h, decide_eq_true hlt, hs, Decidable.of_not_not hbr] at k
      simp only [Bool.not_false, Bool.true_and, Bool.false_or, Bool.not_true, Bool.and_false] at k; exact k
    · rw [decide_eq_false h, decide_eq_true hlt, hs, Decidable.of_not_not hbr] at k
      simp only [Bool.not_false, Bool.true_and, Bool.false_or, Bool.not_true, Bool.and_false] at k; exact k
  · rw [decide_eq_false h, decide_eq_true hlt, Decidable.of_not_not hs] at k; exact k
  · rw [decide_eq_false h, decide_eq_false hlt] at k; exact k
theorem ct_plans {X : bi_X} {d : Nat} {K : bi_St → Prop} {E : Nat → bi_St → Prop} {s : bi_St} {Q : (Nat → Int32) → Sp → Prop} {L : List Sp} (hQ : Rok s Q) (hP : RQ s Q L) (hl : L.length ≤ 9) (h1 : 1 ≤ L.length) (h49 : st_g s 77 49 = zI L.length)
    (k : ∀ t, fr (fun a _ => Nat.beq a 94) s t → RQ t Q (srt 72 L) → K t) : cV X (d + 1) 234 [.ref 77] s K E := by
  obtain ⟨F, hF⟩ : ∃ F, F = srt 72 L := ⟨_, rfl⟩
  rw [← hF] at k
  have swap : ∀ (t : bi_St) j, 1 ≤ j → j < 9 → (∀ t', fr (fun a _ => Nat.beq a 94) t t' → (∀ q, st_g t' 94 q = if 6 * j ≤ q ∧ q < 6 * j + 6 then st_g t 94 (q - 6) else if 6 * (j - 1) ≤ q ∧ q < 6 * (j - 1) + 6 then st_g t 94 (q + 6) else st_g t 94 q) → at_X12_plans_2 X (d + 1) K E t' 1) →
      ∀ e n (w : bi_St), e = 6 - n → n ≤ 6 → fr (fun a _ => Nat.beq a 94) t w → (∀ q, st_g w 94 q = if 6 * j ≤ q ∧ q < 6 * j + n then st_g t 94 (q - 6) else if 6 * (j - 1) ≤ q ∧ q < 6 * (j - 1) + n then st_g t 94 (q + 6) else st_g t 94 q) → at_X12_plans_26 X (d + 1) K E w (zI j) (zI n) := by
    intro t j hj1 hj9 hk e
    have e0 : (6 : Int32) * zI j = zI (6 * j) := zI_mul 6 j
    have e6 : zI (6 * j) - 6 = zI (6 * (j - 1)) := by
      have : zI (6 * j) - 6 = zI (6 * j - 6) := zI_sub (m := 6) (by omega)
      rw [this]; congr 1; omega
    induction e with
    | zero =>
      intro n w he hn hw hq
      have : n = 6 := by omega
      subst this
      exact go_X12_plans_26 ⟨fun _ => hk w hw hq, fun z => absurd (by decide) z⟩
    | succ e ih =>
      intro n w he hn hw hq
      refine go_X12_plans_26 ⟨fun z => ?_, fun _ => ?_⟩
      · have := (zI_le (a := 6) (by omega) (by omega)).mp z; omega
      · rw [e0, e6, zI_add, zI_add, zI_nat (a := 6 * j + n) (by omega), zI_nat (a := 6 * (j - 1) + n) (by omega), zI_add1]
        refine ⟨in_zI (by omega) (by omega), in_zI (by omega) (by omega), in_zI (by omega) (by omega), in_zI (by omega) (by omega), ih (n + 1) _ (by omega) (by omega) ((hw.p rfl).p rfl) (fun q => ?_)⟩
        rw [g_p]
        by_cases h1 : q = 6 * (j - 1) + n
        · rw [if_pos ⟨rfl, h1⟩, if_neg (by omega), if_pos ⟨by omega, by omega⟩, hq, if_neg (by omega), if_neg (by omega)]
          congr 1; omega
        · rw [if_neg (fun z => h1 z.2), g_p]
          by_cases h2 : q = 6 * j + n
          · rw [if_pos ⟨rfl, h2⟩, if_pos ⟨by omega, by omega⟩, hq, if_neg (by omega), if_neg (by omega)]
            congr 1; omega
          · rw [if_neg (fun z => h2 z.2), hq]
            by_cases h3 : 6 * j ≤ q ∧ q < 6 * j + n
            · rw [if_pos h3, if_pos ⟨by omega, by omega⟩]
            · rw [if_neg h3, if_neg (show ¬ (6 * j ≤ q ∧ q < 6 * j + (n + 1)) by omega)]
              by_cases h4 : 6 * (j - 1) ≤ q ∧ q < 6 * (j - 1) + n
              · rw [if_pos h4, if_pos ⟨by omega, by omega⟩]
              · rw [if_neg h4, if_neg (show ¬ (6 * (j - 1) ≤ q ∧ q < 6 * (j - 1) + (n + 1)) by omega)]
  have loop : ∀ n (M : List Sp), M.length = L.length → inv (cst M) ≤ n → F = srt n M → ∀ e j (t : bi_St), e = M.length - j → 1 ≤ j → j ≤ M.length → nx M (M.length - 1) 1 = nx M e j → fr (fun a _ => Nat.beq a 94) s t → RQ t Q M → at_X12_plans_2 X (d + 1) K E t (zI j) := by
    intro n
    induction n with
    | zero =>
      intro M hML hi he e
      induction e with
      | zero =>
        intro j t hje hj1 hjl hnx ht hM
        refine go_X12_plans_2 ⟨fun _ => k t ht (by rw [he]; exact hM), fun z => absurd ?_ z⟩
        have : j = L.length := by omega
        rw [ht.g rfl, h49, this]; exact (zI_le (by omega) (by omega)).mpr (Nat.le_refl _)
      | succ e ih =>
        intro j t hje hj1 hjl hnx ht hM
        have hQt : Rok t Q := ⟨hQ.1, fun v x hv => by obtain ⟨q1, q2, q3, q4, q5, q6, q7⟩ := hQ.2 v x hv; exact ⟨q1, q2, q3, q4, q5, fun h => by obtain ⟨w, w1, w2, w3⟩ := q6 h; exact ⟨w, w1, w2, by rw [ht.g rfl]; exact w3⟩, q7⟩⟩
        refine go_X12_plans_2 ⟨fun z => ?_, fun _ => ct_mayGoR hQt hM (by omega) hj1 (by omega) ?_⟩
        · rw [ht.g rfl, h49, zI_le (by omega) (by omega)] at z; omega
        · rw [b2i_ne0, zI_add1]
          refine ⟨fun h => ?_, fun h => ih (j + 1) t (by omega) (by omega) (by omega) (by rw [hnx, nx, if_neg (by rw [Decidable.of_not_not h]; simp)]) ht hM⟩
          have h : mgAt M j = true := by simpa using h
          have := inv_swL hj1 h
          omega
    | succ n ihn =>
      intro M hML hi he e
      induction e with
      | zero =>
        intro j t hje hj1 hjl hnx ht hM
        refine go_X12_plans_2 ⟨fun _ => k t ht ?_, fun z => absurd ?_ z⟩
        · rw [srt, hnx] at he; rw [he]; exact hM
        · have : j = L.length := by omega
          rw [ht.g rfl, h49, this]; exact (zI_le (by omega) (by omega)).mpr (Nat.le_refl _)
      | succ e ih =>
        intro j t hje hj1 hjl hnx ht hM
        have hQt : Rok t Q := ⟨hQ.1, fun v x hv => by obtain ⟨q1, q2, q3, q4, q5, q6, q7⟩ := hQ.2 v x hv; exact ⟨q1, q2, q3, q4, q5, fun h => by obtain ⟨w, w1, w2, w3⟩ := q6 h; exact ⟨w, w1, w2, by rw [ht.g rfl]; exact w3⟩, q7⟩⟩
        refine go_X12_plans_2 ⟨fun z => ?_, fun _ => ct_mayGoR hQt hM (by omega) hj1 (by omega) ?_⟩
        · rw [ht.g rfl, h49, zI_le (by omega) (by omega)] at z; omega
        · rw [b2i_ne0, zI_add1]
          refine ⟨fun h => ?_, fun h => ih (j + 1) t (by omega) (by omega) (by omega) (by rw [hnx, nx, if_neg (by rw [Decidable.of_not_not h]; simp)]) ht hM⟩
          have h : mgAt M j = true := by simpa using h
          have hdec := inv_swL hj1 h
          have hjM : j < M.length := by omega
          have hx : M[j]? = some M[j] := List.getElem?_eq_getElem hjM
          have hy : M[j - 1]? = some M[j - 1] := List.getElem?_eq_getElem (by omega)
          refine swap t j hj1 (by omega) (fun t' ht' hq' => ?_) 6 0 t (by omega) (by omega) fr.refl (fun q => by rw [if_neg (by omega), if_neg (by omega)])
          rw [srt, hnx, nx, if_pos h] at he
          refine ihn (swL M j) (by rw [swL_len]; exact hML) (by omega) he ((swL M j).length - 1) 1 t' rfl (by omega) (by rw [swL_len]; omega) rfl (ht.trans ht') (fun i x hix => ?_)
          rw [swL_get hj1 hx hy] at hix
          by_cases h2 : i = j
          · rw [if_pos h2] at hix
            refine hQ.1 _ _ _ (fun q hq => ?_) (hM (j - 1) x (by rw [hy]; exact hix))
            show st_g t 94 (6 * (j - 1) + q) = st_g t' 94 (6 * i + q)
            rw [hq', if_pos ⟨by omega, by omega⟩]; congr 1; omega
          · rw [if_neg h2] at hix
            by_cases h1 : i = j - 1
            · rw [if_pos h1] at hix
              refine hQ.1 _ _ _ (fun q hq => ?_) (hM j x (by rw [hx]; exact hix))
              show st_g t 94 (6 * j + q) = st_g t' 94 (6 * i + q)
              rw [hq', if_neg (by omega), if_pos ⟨by omega, by omega⟩]; congr 1; omega
            · rw [if_neg h1] at hix
              refine hQ.1 _ _ _ (fun q hq => ?_) (hM i x hix)
              show st_g t 94 (6 * i + q) = st_g t' 94 (6 * i + q)
              rw [hq', if_neg (by omega), if_neg (by omega)]
  have hi : inv (cst L) ≤ 72 := by
    have h := inv_le (cst L)
    have e : (cst L).length = L.length := by unfold cst; simp
    rw [e] at h
    have h9 : L.length * (L.length - 1) ≤ 9 * 8 := Nat.mul_le_mul hl (by omega)
    omega
  exact en_X12_plans (loop 72 L rfl hi hF (L.length - 1) 1 s rfl (by omega) h1 rfl fr.refl hP)
end RPLAN
