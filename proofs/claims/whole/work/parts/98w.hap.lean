/-! ===== years of the reference ===== -/
section HAP
theorem wfS_G {R : Nat} {S S' : Sta} (h : wfS R S) (hG : S'.1 = S.1) : wfS R S' := by
  obtain ⟨h1, h2, h3⟩ := h
  exact ⟨h1, fun r hr => by rw [hG]; exact h2 r hr, fun r h4 h5 => by rw [hG]; exact h3 r h4 h5⟩
theorem RC_wX {s t : bi_St} {b0 C R p : Nat} {f : Nat → Pol} {S S' : Sta} (h : fr (wX b0) s t) (hj : RC s b0 C R p f S) (hS : SR t b0 C S') (hG : S'.1 = S.1) : RC t b0 C R p f S' := by
  obtain ⟨h1, h2, h3, h4⟩ := hj
  exact ⟨BR_fr (h.g rfl) (fun k => h.g (wX_ne (by omega) (by omega) (by omega) (by omega))) (fun k => h.g (wX_ne (by omega) (by omega) (by omega) (by omega))) h1, hS, wfS_G h3 hG, by rw [h.g rfl]; exact h4⟩
theorem RC_p {s : bi_St} {b0 C R p : Nat} {f : Nat → Pol} {S : Sta} {a k : Nat} {v : Int32} (h : a = 108 ∨ (a = 77 ∧ k ≠ 27 ∧ k ≠ 29)) (hj : RC s b0 C R p f S) : RC (st_p s a k v) b0 C R p f S := by
  obtain ⟨h1, h2, h3, h4⟩ := hj
  rcases h with h | ⟨h, h27, h29⟩
  · subst h
    exact ⟨BR_fr (g_p_a (by omega)) (fun k => g_p_a (by omega)) (fun k => g_p_a (by omega)) h1, SR_fr (fun k _ _ => g_p_a (by omega)) h1.1 h2, h3, by rw [g_p_a (by omega)]; exact h4⟩
  · subst h
    exact ⟨BR_fr (g_p_k (by omega)) (fun k => g_p_a (by omega)) (fun k => g_p_a (by omega)) h1, SR_fr (fun k _ _ => g_p_a (by omega)) h1.1 h2, h3, by rw [g_p_k (by omega)]; exact h4⟩
/-- what a year may change of the reference -/
def wHp (a k : Nat) : Bool := wX 72 a k || (Nat.beq a 108 || (Nat.beq a 77 && Nat.beq k 65))
theorem wX_wHp (a k : Nat) (h : wX 72 a k = true) : wHp a k = true := by unfold wHp; rw [h]; rfl
theorem wF_wHp (a k : Nat) (h : wF a k = true) : wHp a k = true := wX_wHp a k (wF_wX 72 a k h)
theorem ct_happens {X : bi_X} {d : Nat} {K : Int32 → bi_St → Prop} {E : Nat → bi_St → Prop} {s : bi_St} {C R p : Nat} {f : Nat → Pol} {S : Sta} {sd : Int32} (hj : RC s 72 C R p f S) (h28 : st_g s 77 28 = zI C) (h1C : 1 ≤ C) (h1R : 1 ≤ R) (hsd : st_g s 77 65 = sd)
    (k : ∀ t, fr wHp s t → RC t 72 C R p f (yr C R p f S sd).2.1 → st_g t 77 65 = (yr C R p f S sd).2.2 → K (b2i (yr C R p f S sd).1) t) : cI X (d + 5) 264 [.ref 77] s K E := by
  have hC := hj.1.1
  have hR := hj.2.2.1.1
  have hn16 := hj.2.1.2.1
  have hu : dw (sx sd) R < R := dw_lt (by omega)
  have e79 : ((79 : Int32)).toNatClampNeg = 79 := rfl
  refine en_X12_happens ?_
  rw [hj.2.2.2]
  refine ct_drawR (by omega) (by omega) hsd (ct_drawR (n := 3) (by omega) (by omega) (g_p_eq _ _ _ _) ?_)
  have f2 : fr wHp s (st_p (st_p s 77 65 (sx sd)) 77 65 (sx (sx sd))) := (fr.refl.p rfl).p rfl
  have hj2 : RC (st_p (st_p s 77 65 (sx sd)) 77 65 (sx (sx sd))) 72 C R p f S := RC_p (Or.inr ⟨rfl, by omega, by omega⟩) (RC_p (Or.inr ⟨rfl, by omega, by omega⟩) hj)
  have s2 : st_g (st_p (st_p s 77 65 (sx sd)) 77 65 (sx (sx sd))) 77 65 = sx (sx sd) := g_p_eq _ _ _ _
  have c2 : st_g (st_p (st_p s 77 65 (sx sd)) 77 65 (sx (sx sd))) 77 28 = zI C := by rw [g_p_k (by omega), g_p_k (by omega)]; exact h28
  generalize st_p (st_p s 77 65 (sx sd)) 77 65 (sx (sx sd)) = t2 at f2 hj2 s2 c2
  have h3 := dw_lt (x := sx (sx sd)) (n := 3) (by omega)
  have e0 : (zI (dw (sx (sx sd)) 3) = 0) ↔ dw (sx (sx sd)) 3 = 0 := zI_eq (b := 0) (by omega) (by omega)
  have e2 : (zI (dw (sx (sx sd)) 3) = 2) ↔ dw (sx (sx sd)) 3 = 2 := zI_eq (b := 2) (by omega) (by omega)
  have hmany : st_g t2 90 79 = zI S.2.2.1 := hj2.2.1.2.2.1
  rw [e0, e2, e79, hmany]
  refine ⟨fun hne => ⟨rfl, ?_⟩, fun heq => ?_⟩
  · have en0 : (zI S.2.2.1 = 0) ↔ S.2.2.1 = 0 := zI_eq (b := 0) (by omega) (by omega)
    rw [en0]
    refine ⟨fun hn0 => ⟨rfl, ct_drawR (by omega) (by omega) s2 ?_⟩, fun hn0 => ?_⟩
    · have f3 : fr wHp s (st_p t2 77 65 (sx (sx (sx sd)))) := f2.p rfl
      have hj3 : RC (st_p t2 77 65 (sx (sx (sx sd)))) 72 C R p f S := RC_p (Or.inr ⟨rfl, by omega, by omega⟩) hj2
      have s3 : st_g (st_p t2 77 65 (sx (sx (sx sd)))) 77 65 = sx (sx (sx sd)) := g_p_eq _ _ _ _
      have c3 : st_g (st_p t2 77 65 (sx (sx (sx sd)))) 77 28 = zI C := by rw [g_p_k (by omega)]; exact c2
      generalize st_p t2 77 65 (sx (sx (sx sd))) = t3 at f3 hj3 s3 c3
      have hr : dw (sx (sx (sx sd))) S.2.2.1 < S.2.2.1 := dw_lt (by omega)
      refine ⟨fun hn2 => ?_, fun h2 => ?_⟩
      · rw [c3]
        refine ct_drawR (by omega) (by omega) s3 (ct_drawR (n := 10) (by omega) (by omega) (g_p_eq _ _ _ _) ?_)
        have f5 : fr wHp s (st_p (st_p t3 77 65 (sx (sx (sx (sx sd))))) 77 65 (sx (sx (sx (sx (sx sd)))))) := (f3.p rfl).p rfl
        have s5 : st_g (st_p (st_p t3 77 65 (sx (sx (sx (sx sd))))) 77 65 (sx (sx (sx (sx (sx sd)))))) 77 65 = sx (sx (sx (sx (sx sd)))) := g_p_eq _ _ _ _
        have hj5 : RC (st_p (st_p t3 77 65 (sx (sx (sx (sx sd))))) 77 65 (sx (sx (sx (sx (sx sd)))))) 72 C R p f S := RC_p (Or.inr ⟨rfl, by omega, by omega⟩) (RC_p (Or.inr ⟨rfl, by omega, by omega⟩) hj3)
        generalize st_p (st_p t3 77 65 (sx (sx (sx (sx sd))))) 77 65 (sx (sx (sx (sx (sx sd))))) = t5 at f5 s5 hj5
        have hc : dw (sx (sx (sx (sx sd)))) C < C := dw_lt (by omega)
        unfold yr at k
        rw [if_neg hne, if_neg hn0, if_neg hn2] at k
        refine ct_isUsed (b0 := 72) (cmd := 2) hj5 (by omega) hr (by omega) (fun t6 ht6 => ?_)
        rw [b2i_ne0]
        refine ⟨fun h => go_X12_happens_185 ?_, fun h => ct_isChecked (b0 := 72) (RC_fr ht6 hj5) (by omega) hr hc (fun t7 ht7 => ?_)⟩
        · rw [h, Bool.false_and] at k
          exact k t6 (f5.trans (ht6.mono wF_wHp)) (RC_fr ht6 hj5) (by rw [ht6.g rfl]; exact s5)
        · have h : (reads p f S (dw (sx sd) R) (dw (sx (sx (sx sd))) S.2.2.1) && pUp p f S (dw (sx sd) R) (dw (sx (sx (sx sd))) S.2.2.1) 2) = true := by simpa using h
          have h67 := ht6.trans ht7
          have hj7 := RC_fr h67 hj5
          rw [h, Bool.true_and] at k
          rw [b2i_ne0]
          refine ⟨fun h2 => ?_, fun h2 => go_X12_happens_185 ?_⟩
          · have e80 : ((80 : Int32) + (4 : Int32) * zI (dw (sx (sx (sx sd))) S.2.2.1)) + zI (dw (sx (sx (sx (sx sd)))) C) = zI (80 + 4 * dw (sx (sx (sx sd))) S.2.2.1 + dw (sx (sx (sx (sx sd)))) C) := z84 (k := 80)
            rw [e80, zI_nat (a := 80 + 4 * dw (sx (sx (sx sd))) S.2.2.1 + dw (sx (sx (sx (sx sd)))) C) (by omega)]
            refine ⟨in_zI (by omega) (by omega), ?_⟩
            have h2 : po_let p f (en (cs S (dw (sx (sx (sx sd))) S.2.2.1) (dw (sx (sx (sx (sx sd)))) C) (zI (dw (sx (sx (sx (sx (sx sd))))) 10))) (dw (sx sd) R) (dw (sx (sx (sx sd))) S.2.2.1)) S.2.1 2 true = true := by simpa using h2
            rw [h2] at k
            have f8 : fr (wX 72) t7 (st_p t7 90 (80 + 4 * dw (sx (sx (sx sd))) S.2.2.1 + dw (sx (sx (sx (sx sd)))) C) (zI (dw (sx (sx (sx (sx (sx sd))))) 10))) := fr.refl.p (by rw [show 80 + 4 * dw (sx (sx (sx sd))) S.2.2.1 + dw (sx (sx (sx (sx sd)))) C = 72 + (8 + 4 * dw (sx (sx (sx sd))) S.2.2.1 + dw (sx (sx (sx (sx sd)))) C) by omega]; exact wX_in (by omega))
            exact k _ (f5.trans ((h67.mono wF_wHp).trans (f8.mono wX_wHp))) (RC_wX f8 hj7 (SR_cs (b0 := 72) hC hj7.2.1 hc) rfl) (by rw [g_p_a (by omega), h67.g rfl]; exact s5)
          · rw [Decidable.of_not_not h2] at k
            exact k t7 (f5.trans (h67.mono wF_wHp)) hj7 (by rw [h67.g rfl]; exact s5)
      · have h2 := Decidable.of_not_not h2
        unfold yr at k
        rw [if_neg hne, if_neg hn0, if_pos h2] at k
        refine ct_isUsed (b0 := 72) (cmd := 3) hj3 (by omega) hr (by omega) (fun t6 ht6 => ?_)
        have hj6 := RC_fr ht6 hj3
        rw [b2i_ne0]
        refine ⟨fun h => ct_deletes (b0 := 72) hC hj6.2.1 hr (fun t7 ht7 hs7 => ?_), fun h => ?_⟩
        · have h : (reads p f S (dw (sx sd) R) (dw (sx (sx (sx sd))) S.2.2.1) && pUp p f S (dw (sx sd) R) (dw (sx (sx (sx sd))) S.2.2.1) 3) = true := by simpa using h
          rw [h] at k
          exact k t7 (f3.trans ((ht6.mono wF_wHp).trans (ht7.mono wX_wHp))) (RC_wX ht7 hj6 hs7 rfl) (by rw [ht7.g rfl, ht6.g rfl]; exact s3)
        · rw [Decidable.of_not_not h] at k
          exact k t6 (f3.trans (ht6.mono wF_wHp)) hj6 (by rw [ht6.g rfl]; exact s3)
    · unfold yr at k
      rw [if_neg hne, if_pos (Decidable.of_not_not hn0)] at k
      exact k t2 f2 hj2 s2
  · have heq := Decidable.of_not_not heq
    unfold yr at k
    rw [if_pos heq] at k
    have e1 : ((1 : Int32)).toNatClampNeg = 1 := rfl
    have e2 : ((2 : Int32)).toNatClampNeg = 2 := rfl
    have e3 : ((3 : Int32)).toNatClampNeg = 3 := rfl
    have loop : ∀ e n (t : bi_St), e = 4 - n → n ≤ 4 → fr wHp s t → RC t 72 C R p f S → st_g t 77 28 = zI C → st_g t 77 65 = sxi (min n C) (sx (sx sd)) → (∀ c, c < n → st_g t 108 c = yl C (sx (sx sd)) c) → at_X12_happens_21 X (d + 5) K E t (zI (dw (sx sd) R)) (zI n) := by
      intro e
      induction e with
      | zero =>
        intro n t he hn ht hjt hct hst hlt
        have : n = 4 := by omega
        subst this
        have hmin : min 4 C = C := by omega
        rw [hmin] at hst
        refine go_X12_happens_21 ⟨fun _ => ⟨rfl, rfl, rfl, rfl, ?_⟩, fun z => absurd (by decide) z⟩
        rw [toN0, e1, e2, e3, hlt 0 (by omega), hlt 1 (by omega), hlt 2 (by omega), hlt 3 (by omega)]
        refine ct_inserts (b0 := 72) hjt hct h1C (by omega) (fun t' ht' h => ⟨by decide, ?_⟩) (fun t' ht' h1 h2 h3 => ⟨by decide, ?_⟩)
        · have hc : (decide (S.2.2.1 < 16) && insOK p f S (dw (sx sd) R) (yl4 C (sx (sx sd)))) = false := by
            rcases h with h | h
            · simp [h]
            · have h : insOK p f S (dw (sx sd) R) (yl4 C (sx (sx sd))) = false := h
              simp [h]
          rw [hc] at k
          exact k t' (ht.trans (ht'.mono wF_wHp)) (RC_fr ht' hjt) (by rw [ht'.g rfl]; exact hst)
        · have h2 : insOK p f S (dw (sx sd) R) (yl4 C (sx (sx sd))) = true := h2
          have hc : (decide (S.2.2.1 < 16) && insOK p f S (dw (sx sd) R) (yl4 C (sx (sx sd)))) = true := by simp [h1, h2]
          rw [hc] at k
          exact k t' (ht.trans (ht'.mono wX_wHp)) (RC_wX ht' hjt h3 rfl) (by rw [ht'.g rfl]; exact hst)
      | succ e ih =>
        intro n t he hn ht hjt hct hst hlt
        refine go_X12_happens_21 ⟨fun z => ?_, fun _ => ?_⟩
        · have := (zI_le (a := 4) (by omega) (by omega)).mp z; omega
        · rw [hct, zI_le (by omega) (by omega), zI_add1]
          refine ⟨fun hCn => ⟨in_zI (by omega) (by omega), ?_⟩, fun hCn => ct_drawR (n := 10) (by omega) (by omega) hst ⟨in_zI (by omega) (by omega), ?_⟩⟩
          · rw [zI_nat (by omega)]
            refine ih (n + 1) _ (by omega) (by omega) (ht.p rfl) (RC_p (Or.inl rfl) hjt) (by rw [g_p_a (by omega)]; exact hct) (by rw [g_p_a (by omega), hst, show min n C = min (n + 1) C by omega]) (fun c hc => ?_)
            rw [g_p]
            by_cases hcn : c = n
            · subst hcn; rw [if_pos ⟨rfl, rfl⟩]; unfold yl; rw [if_neg (by omega)]
            · rw [if_neg (fun z => hcn z.2)]; exact hlt c (by omega)
          · rw [zI_nat (by omega)]
            have hm : min n C = n := by omega
            have hm1 : min (n + 1) C = n + 1 := by omega
            rw [hm]
            refine ih (n + 1) _ (by omega) (by omega) ((ht.p rfl).p rfl) (RC_p (Or.inl rfl) (RC_p (Or.inr ⟨rfl, by omega, by omega⟩) hjt)) (by rw [g_p_a (by omega), g_p_k (by omega)]; exact hct) (by rw [g_p_a (by omega), g_p_eq, hm1]; rfl) (fun c hc => ?_)
            rw [g_p]
            by_cases hcn : c = n
            · subst hcn; rw [if_pos ⟨rfl, rfl⟩]; unfold yl; rw [if_pos (by omega)]; rfl
            · rw [if_neg (fun z => hcn z.2), g_p_a (by omega)]; exact hlt c (by omega)
    exact loop 4 0 t2 (by omega) (by omega) f2 hj2 c2 (by rw [Nat.zero_min]; exact s2) (fun c hc => by omega)
end HAP
