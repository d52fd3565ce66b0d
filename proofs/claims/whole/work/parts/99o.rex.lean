/-! ===== the reference's expression: what is out, what waits ===== -/
section REX
def wd1 (o : Nat × Nat) : List Nat := if o.1 ≤ 3 then [rop o.1, rarg o] else [rop o.1]
def wds (P : Lp) : List Nat := P.flatMap wd1
theorem wds_snoc (P : Lp) (o : Nat × Nat) : wds (P ++ [o]) = wds P ++ wd1 o := by unfold wds; rw [List.flatMap_append]; simp
theorem wd1_len (o : Nat × Nat) : (wd1 o).length ≤ 2 ∧ 1 ≤ (wd1 o).length := by unfold wd1; by_cases h : o.1 ≤ 3 <;> simp [h]
def wa (o : Nat) : Nat := if 14 ≤ o then o else rop o
def WOk (w : List Nat) : Prop := ∀ x, x ∈ w → 5 ≤ x ∧ x ≤ 15
/-- what is out from place lo on, what waits -/
def RW (s : bi_St) (lo : Nat) (out : Lp) (w : List Nat) : Prop := WOk w ∧ st_g s 77 19 = zI (lo + (wds out).length) ∧ (∀ k x, (wds out)[k]? = some x → st_g s 80 (lo + k) = zI x) ∧ st_g s 77 20 = zI w.length ∧ ∀ j x, w[j]? = some x → st_g s 81 (w.length - 1 - j) = zI (wa x)
/-- what laying of an expression's words may change -/
def wWd (lo a k : Nat) : Bool := (Nat.beq a 80 && Nat.ble lo k) || (Nat.beq a 81 || (Nat.beq a 77 && (Nat.ble 19 k && Nat.ble k 20)))
theorem wWd_ne {lo a k : Nat} (h1 : a ≠ 80 ∨ k < lo) (h2 : a ≠ 81) (h3 : a ≠ 77 ∨ k < 19 ∨ 20 < k) : wWd lo a k = false := by
  unfold wWd
  have e1 : (Nat.beq a 80 && Nat.ble lo k) = false := by
    rcases h1 with h | h
    · rw [beq_ne h]; rfl
    · rw [ble_f h, Bool.and_false]
  have e3 : (Nat.beq a 77 && (Nat.ble 19 k && Nat.ble k 20)) = false := by
    rcases h3 with h | h | h
    · rw [beq_ne h]; rfl
    · rw [ble_f h, Bool.false_and, Bool.and_false]
    · rw [ble_f h, Bool.and_false, Bool.and_false]
  rw [e1, beq_ne h2, e3]; rfl
theorem w80 {lo k : Nat} (h : lo ≤ k) : wWd lo 80 k = true := by unfold wWd; rw [Nat.ble_eq_true_of_le h]; rfl
theorem ct_puts {X : bi_X} {d : Nat} {K : bi_St → Prop} {E : Nat → bi_St → Prop} {s : bi_St} {n : Nat} {v : Int32} (h : st_g s 77 19 = zI n) (hn : n < 1400) (k : K (st_p (st_p s 80 n v) 77 19 (zI (n + 1)))) : cV X d 184 [.ref 77, .int v] s K E := by
  refine en_X12_puts ?_
  rw [h, zI_nat (by omega), g_p_a (by omega), h, zI_add1]
  exact ⟨in_zI hn (by omega), k⟩
theorem rop_b {o : Nat} (h : 5 ≤ o ∧ o ≤ 13) : 3 ≤ rop o ∧ rop o ≤ 11 := by
  have : ∀ o : Fin 14, 5 ≤ o.1 → 3 ≤ rop o.1 ∧ rop o.1 ≤ 11 := by decide
  exact this ⟨o, by omega⟩ h.1
theorem strg_b {o : Nat} : 1 ≤ strg o ∧ strg o ≤ 6 := by
  unfold strg
  split
  · omega
  · split
    · omega
    · split
      · omega
      · split
        · omega
        · split <;> omega
theorem ct_strength {X : bi_X} {d : Nat} {K : Int32 → bi_St → Prop} {E : Nat → bi_St → Prop} {s : bi_St} {o : Nat} (h : 5 ≤ o ∧ o ≤ 13) (k : K (zI (strg o)) s) : cI X d 186 [.int (zI (rop o))] s K E := by
  have hr := rop_b h
  have e : ∀ n : Nat, n < 2147483648 → (zI (rop o) = OfNat.ofNat n ↔ rop o = n) := fun n hn => zI_eq (by omega) hn
  refine en_X12_strength ?_
  rw [e 5 (by omega), e 4 (by omega), e 3 (by omega), e 6 (by omega), e 7 (by omega), e 8 (by omega), e 9 (by omega)]
  have ho : o = 5 ∨ o = 6 ∨ o = 7 ∨ o = 8 ∨ o = 9 ∨ o = 10 ∨ o = 11 ∨ o = 12 ∨ o = 13 := by omega
  rcases ho with h | h | h | h | h | h | h | h | h <;> subst h <;> simp [rop] <;> exact k
/-- drops: all that is at least as strong goes out -/
theorem ct_drops {X : bi_X} {d : Nat} {K : bi_St → Prop} {E : Nat → bi_St → Prop} {lo kk : Nat} (hk : kk ≤ 6) : ∀ (w : List Nat) (out : Lp) (s : bi_St), RW s lo out w → lo + (wds out).length + w.length ≤ 1390 → w.length ≤ 940 →
    (∀ t, fr (wWd lo) s t → RW t lo (pop kk out w).1 (pop kk out w).2 → K t) → cV X (d + 1) 187 [.ref 77, .int (zI kk)] s K E ∧ at_X12_drops_0 X (d + 1) K E s (zI kk) := by
  intro w
  induction w with
  | nil =>
    intro out s hR hb hw k
    have k := k s fr.refl hR
    have h20 : st_g s 77 20 = zI 0 := hR.2.2.2.1
    refine ⟨en_X12_drops ?_, go_X12_drops_0 ?_⟩
    all_goals rw [h20]
    all_goals exact ⟨fun _ => k, fun z => absurd (by decide) z⟩
  | cons o w ih =>
    intro out s hR hb hw k
    obtain ⟨r1, r2, r3, r4, r5⟩ := hR
    have ho := r1 o (by simp)
    have hlen : (o :: w).length = w.length + 1 := rfl
    rw [hlen] at r4 r5 hb hw
    have htop : st_g s 81 w.length = zI (wa o) := by
      have := r5 0 o (by simp)
      rw [show w.length + 1 - 1 - 0 = w.length by omega] at this; exact this
    have hwa : wa o < 2147483648 := by
      unfold wa
      by_cases h : 14 ≤ o
      · rw [if_pos h]; omega
      · rw [if_neg h]; have := rop_b (o := o) (by omega); omega
    have e20 : zI (w.length + 1) - 1 = zI w.length := by rw [zI_sub1 (by omega)]; rfl
    have e14 : (zI (wa o) < 14) ↔ wa o < 14 := zI_lt (b := 14) hwa (by omega)
    rw [pop] at k
    have body : cI X d 185 [.int (zI (wa o))] s (fun (r1 : Int32) (s1 : bi_St) => ((¬ r1 = 0) → K s1) ∧ (¬ (¬ r1 = 0) → bi_in ((st_g s1 77 20) - (1 : Int32)) 950 = true ∧ (cI X d 186 [.int (st_g s1 81 (((st_g s1 77 20) - (1 : Int32))).toNatClampNeg)] s1 (fun (r2 : Int32) (s2 : bi_St) => ((r2 < zI kk) → K s2) ∧ (¬ (r2 < zI kk) → bi_in (st_g (st_p s2 77 20 ((st_g s2 77 20) - (1 : Int32))) 77 20) 950 = true ∧ (cV X d 184 [.ref 77, .int (st_g (st_p s2 77 20 ((st_g s2 77 20) - (1 : Int32))) 81 ((st_g (st_p s2 77 20 ((st_g s2 77 20) - (1 : Int32))) 77 20)).toNatClampNeg)] (st_p s2 77 20 ((st_g s2 77 20) - (1 : Int32))) (fun (s3 : bi_St) => at_X12_drops_0 X (d + 1) K E s3 (zI kk)) (fun _ _ => False)))) (fun _ _ => False)))) (fun _ _ => False) := by
      refine en_X12_isOpen ?_
      rw [e14]
      by_cases h14 : 14 ≤ o
      · rw [if_pos h14] at k
        have ew : wa o = o := by unfold wa; rw [if_pos h14]
        rw [ew]
        exact ⟨fun z => by omega, fun _ => ⟨fun _ => k s fr.refl ⟨r1, r2, r3, r4, r5⟩, fun z => absurd (by decide) z⟩⟩
      · rw [if_neg h14] at k
        have ew : wa o = rop o := by unfold wa; rw [if_neg h14]
        have hrb := rop_b (o := o) (by omega)
        have hsb := strg_b (o := o)
        refine ⟨fun _ => ⟨fun z => absurd rfl z, fun _ => ?_⟩, fun z => by omega⟩
        rw [r4, e20, zI_nat (by omega), htop, ew]
        refine ⟨in_zI (by omega) (by omega), ct_strength (by omega) ?_⟩
        rw [r4, e20, zI_lt (by omega) (by omega), g_p_eq, zI_nat (by omega), g_p_a (by omega), htop, ew]
        refine ⟨fun hlt => ?_, fun hge => ⟨in_zI (by omega) (by omega), ?_⟩⟩
        · rw [if_neg (by omega)] at k; exact k s fr.refl ⟨r1, r2, r3, r4, r5⟩
        · rw [if_pos (by omega)] at k
          have f1 : fr (wWd lo) s (st_p s 77 20 (zI w.length)) := fr.refl.p (by unfold wWd; rfl)
          refine ct_puts (n := lo + (wds out).length) (by rw [g_p_k (by omega)]; exact r2) (by omega) ?_
          have hw1 : wd1 (o, 0) = [rop o] := by unfold wd1; rw [if_neg (show ¬ (o, 0).1 ≤ 3 from by show ¬ o ≤ 3; omega)]
          have hwl : (wds (out ++ [(o, 0)])).length = (wds out).length + 1 := by rw [wds_snoc, hw1, List.length_append]; rfl
          have f2 : fr (wWd lo) s (st_p (st_p (st_p s 77 20 (zI w.length)) 80 (lo + (wds out).length) (zI (rop o))) 77 19 (zI (lo + (wds out).length + 1))) := (f1.p (w80 (by omega))).p (by unfold wWd; rfl)
          refine (ih (out ++ [(o, 0)]) _ ⟨fun x hx => r1 x (by simp [hx]), ?_, fun j x hj => ?_, ?_, fun j x hj => ?_⟩ (by omega) (by omega) (fun t ht hRt => k t (f2.trans ht) hRt)).2
          · rw [g_p_eq, hwl]; rfl
          · rw [g_p_a (by omega)]
            rw [wds_snoc, hw1] at hj
            by_cases hjl : j < (wds out).length
            · rw [List.getElem?_append_left hjl] at hj
              rw [g_p_k (by omega), g_p_a (by omega)]; exact r3 j x hj
            · have hjl2 := (List.getElem?_eq_some_iff.mp hj).1
              rw [List.length_append] at hjl2
              simp only [List.length_cons, List.length_nil] at hjl2
              have : j = (wds out).length := by omega
              subst this
              rw [List.getElem?_append_right (Nat.le_refl _), Nat.sub_self] at hj
              injection hj with hj
              rw [g_p_eq, ← hj]
          · rw [g_p_k (by omega), g_p_a (by omega), g_p_eq]
          · rw [g_p_a (by omega), g_p_a (by omega), g_p_a (by omega)]
            have hjl := (List.getElem?_eq_some_iff.mp hj).1
            have := r5 (j + 1) x (by rw [List.getElem?_cons_succ]; exact hj)
            rw [show w.length + 1 - 1 - (j + 1) = w.length - 1 - j by omega] at this; exact this
    refine ⟨en_X12_drops ?_, go_X12_drops_0 ?_⟩
    all_goals rw [r4, e20, zI_nat (by omega), htop]
    all_goals refine ⟨fun z => ?_, fun _ => ⟨in_zI (by omega) (by omega), body⟩⟩
    all_goals have := (zI_le (b := 0) (show w.length + 1 < 2147483648 by omega) (by omega)).mp z
    all_goals omega
theorem ct_waitsFor {X : bi_X} {d : Nat} {K : bi_St → Prop} {E : Nat → bi_St → Prop} {s : bi_St} {lo o : Nat} {out : Lp} {w : List Nat} (hR : RW s lo out w) (hw : w.length < 950) (ho : 5 ≤ o ∧ o ≤ 15) (k : ∀ t, fr (wWd lo) s t → RW t lo out (o :: w) → K t) : cV X d 188 [.ref 77, .int (zI (wa o))] s K E := by
  obtain ⟨r1, r2, r3, r4, r5⟩ := hR
  refine en_X12_waitsFor ?_
  rw [r4, zI_nat (by omega), g_p_a (by omega), r4, zI_add1]
  refine ⟨in_zI (by omega) (by omega), k _ ((fr.refl.p (by unfold wWd; rfl)).p (by unfold wWd; rfl)) ⟨fun x hx => ?_, ?_, fun j x hj => ?_, ?_, fun j x hj => ?_⟩⟩
  · rcases List.mem_cons.mp hx with h | h
    · rw [h]; exact ho
    · exact r1 x h
  · rw [g_p_k (by omega), g_p_a (by omega)]; exact r2
  · rw [g_p_a (by omega), g_p_a (by omega)]; exact r3 j x hj
  · rw [g_p_eq]; rfl
  · rw [g_p_a (by omega)]
    rw [List.length_cons]
    cases j with
    | zero =>
      rw [List.getElem?_cons_zero] at hj
      injection hj with hj
      rw [show w.length + 1 - 1 - 0 = w.length by omega, g_p_eq, hj]
    | succ j =>
      rw [List.getElem?_cons_succ] at hj
      have hjl := (List.getElem?_eq_some_iff.mp hj).1
      rw [g_p_k (by omega)]
      have := r5 j x hj
      rw [show w.length + 1 - 1 - (j + 1) = w.length - 1 - j by omega]; exact this
end REX
