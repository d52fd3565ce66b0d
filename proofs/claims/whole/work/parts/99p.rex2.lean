/-! ===== the reference's expression: faults, parentheses ===== -/
section REX2
theorem ct_strengthA {X : bi_X} {d : Nat} {K : Int32 → bi_St → Prop} {E : Nat → bi_St → Prop} {s : bi_St} {x : Int32} (k : ∀ v, K v s) : cI X d 186 [.int x] s K E :=
  en_X12_strength ⟨fun _ => ⟨fun _ => ⟨fun _ => ⟨fun _ => k _, fun _ => ⟨fun _ => ⟨fun _ => k _, fun _ => ⟨fun _ => k _, fun _ => k _⟩⟩, fun _ => k _⟩⟩, fun _ => k _⟩, fun _ => k _⟩, fun _ => k _⟩
/-- drops, whatever waits -/
theorem ct_dropsL {X : bi_X} {d : Nat} {K : bi_St → Prop} {E : Nat → bi_St → Prop} {lo : Nat} {y : Int32} : ∀ (n t : Nat) (s : bi_St), st_g s 77 20 = zI n → st_g s 77 19 = zI t → lo ≤ t → t + n ≤ 1390 → n ≤ 940 →
    (∀ u t', fr (wWd lo) s u → st_g u 77 19 = zI t' → t ≤ t' → t' ≤ t + n → K u) → cV X (d + 1) 187 [.ref 77, .int y] s K E ∧ at_X12_drops_0 X (d + 1) K E s y := by
  intro n
  induction n with
  | zero =>
    intro t s h20 h19 hlo hb hn k
    have k := k s t fr.refl h19 (Nat.le_refl _) (by omega)
    refine ⟨en_X12_drops ?_, go_X12_drops_0 ?_⟩
    all_goals rw [h20]
    all_goals exact ⟨fun _ => k, fun z => absurd (by decide) z⟩
  | succ n ih =>
    intro t s h20 h19 hlo hb hn k
    have ks := k s t fr.refl h19 (Nat.le_refl _) (by omega)
    have e20 : zI (n + 1) - 1 = zI n := by rw [zI_sub1 (by omega)]; rfl
    have body : ∀ x, cI X d 185 [.int x] s (fun (r1 : Int32) (s1 : bi_St) => ((¬ r1 = 0) → K s1) ∧ (¬ (¬ r1 = 0) → bi_in ((st_g s1 77 20) - (1 : Int32)) 950 = true ∧ (cI X d 186 [.int (st_g s1 81 (((st_g s1 77 20) - (1 : Int32))).toNatClampNeg)] s1 (fun (r2 : Int32) (s2 : bi_St) => ((r2 < y) → K s2) ∧ (¬ (r2 < y) → bi_in (st_g (st_p s2 77 20 ((st_g s2 77 20) - (1 : Int32))) 77 20) 950 = true ∧ (cV X d 184 [.ref 77, .int (st_g (st_p s2 77 20 ((st_g s2 77 20) - (1 : Int32))) 81 ((st_g (st_p s2 77 20 ((st_g s2 77 20) - (1 : Int32))) 77 20)).toNatClampNeg)] (st_p s2 77 20 ((st_g s2 77 20) - (1 : Int32))) (fun (s3 : bi_St) => at_X12_drops_0 X (d + 1) K E s3 y) (fun _ _ => False)))) (fun _ _ => False)))) (fun _ _ => False) := by
      intro x
      have more : bi_in ((st_g s 77 20) - (1 : Int32)) 950 = true ∧ (cI X d 186 [.int (st_g s 81 (((st_g s 77 20) - (1 : Int32))).toNatClampNeg)] s (fun (r2 : Int32) (s2 : bi_St) => ((r2 < y) → K s2) ∧ (¬ (r2 < y) → bi_in (st_g (st_p s2 77 20 ((st_g s2 77 20) - (1 : Int32))) 77 20) 950 = true ∧ (cV X d 184 [.ref 77, .int (st_g (st_p s2 77 20 ((st_g s2 77 20) - (1 : Int32))) 81 ((st_g (st_p s2 77 20 ((st_g s2 77 20) - (1 : Int32))) 77 20)).toNatClampNeg)] (st_p s2 77 20 ((st_g s2 77 20) - (1 : Int32))) (fun (s3 : bi_St) => at_X12_drops_0 X (d + 1) K E s3 y) (fun _ _ => False)))) (fun _ _ => False)) := by
        rw [h20, e20]
        refine ⟨in_zI (by omega) (by omega), ct_strengthA (fun v => ⟨fun _ => ks, fun _ => ?_⟩)⟩
        rw [h20, e20, g_p_eq]
        refine ⟨in_zI (by omega) (by omega), ct_puts (n := t) (by rw [g_p_k (by omega)]; exact h19) (by omega) ?_⟩
        have f2 : ∀ v, fr (wWd lo) s (st_p (st_p (st_p s 77 20 (zI n)) 80 t v) 77 19 (zI (t + 1))) := fun v => ((fr.refl.p (by unfold wWd; rfl)).p (w80 hlo)).p (by unfold wWd; rfl)
        exact (ih (t + 1) _ (by rw [g_p_k (by omega), g_p_a (by omega), g_p_eq]) (g_p_eq _ _ _ _) (by omega) (by omega) (by omega) (fun u t' hu a1 a2 a3 => k u t' ((f2 _).trans hu) a1 (by omega) (by omega))).2
      exact en_X12_isOpen ⟨fun _ => ⟨fun z => absurd rfl z, fun _ => more⟩, fun _ => ⟨fun _ => ks, fun z => absurd (by decide) z⟩⟩
    refine ⟨en_X12_drops ?_, go_X12_drops_0 ?_⟩
    all_goals rw [h20, e20]
    all_goals refine ⟨fun z => ?_, fun _ => ⟨in_zI (by omega) (by omega), body _⟩⟩
    all_goals have := (zI_le (b := 0) (show n + 1 < 2147483648 by omega) (by omega)).mp z
    all_goals omega
theorem ct_isOpened {X : bi_X} {d : Nat} {K : Int32 → bi_St → Prop} {E : Nat → bi_St → Prop} {s : bi_St} {lo : Nat} {out : Lp} {w : List Nat} (hR : RW s lo out w) (hw : w.length ≤ 940) (k : K (b2i (hasO w)) s) : cI X (d + 1) 192 [.ref 77] s K E := by
  obtain ⟨r1, r2, r3, r4, r5⟩ := hR
  have loop : ∀ (M : List Nat) (i : Nat), M = w.drop i → i ≤ w.length → hasO w = hasO M → at_X12_isOpened_7 X (d + 1) K E s (zI (w.length - i) - 1) := by
    intro M
    induction M with
    | nil =>
      intro i hM hi he
      have hil : w.length ≤ i := by
        have := congrArg List.length hM
        rw [List.length_drop] at this
        have h0 : ([] : List Nat).length = 0 := rfl
        omega
      rw [he] at k
      rw [show w.length - i = 0 by omega]
      exact go_X12_isOpened_7 ⟨fun _ => ⟨fun _ => k, fun z => absurd (by decide) z⟩, fun z => absurd (by decide) z⟩
    | cons o M ih =>
      intro i hM hi he
      obtain ⟨h1, h2, h3⟩ := drop_cons hM
      have h81 := r5 i o h1
      have ho := r1 o (List.mem_of_getElem? h1)
      have hwa : wa o < 2147483648 := by
        unfold wa
        by_cases h : 14 ≤ o
        · rw [if_pos h]; omega
        · rw [if_neg h]; have := rop_b (o := o) (by omega); omega
      have e14 : (zI (wa o) < 14) ↔ wa o < 14 := zI_lt (b := 14) hwa (by omega)
      rw [zI_sub1 (by omega), show w.length - i - 1 = w.length - 1 - i by omega]
      refine go_X12_isOpened_7 ⟨fun z => absurd z (zI_nn (by omega)), fun _ => ⟨in_zI (by omega) (by omega), ?_⟩⟩
      rw [zI_nat (by omega), h81]
      refine en_X12_isOpen ?_
      rw [e14]
      unfold hasO at he
      rw [List.any_cons] at he
      by_cases h14 : 14 ≤ o
      · have ew : wa o = o := by unfold wa; rw [if_pos h14]
        rw [Nat.ble_eq_true_of_le h14, Bool.true_or] at he
        have he : hasO w = true := he
        rw [he] at k
        rw [ew]
        exact ⟨fun z => by omega, fun _ => ⟨fun _ => ⟨fun z => absurd z (zI_nn (by omega)), fun _ => k⟩, fun z => absurd (by decide) z⟩⟩
      · have ew : wa o = rop o := by unfold wa; rw [if_neg h14]
        have hrb := rop_b (o := o) (by omega)
        rw [ble_f (by omega), Bool.false_or] at he
        refine ⟨fun _ => ⟨fun z => absurd rfl z, fun _ => ?_⟩, fun z => by omega⟩
        have := ih (i + 1) h2 (by omega) he
        rw [show w.length - 1 - i = w.length - (i + 1) by omega, show zI (w.length - (i + 1)) + (-1 : Int32) = zI (w.length - (i + 1)) - 1 from (Int32.sub_eq_add_neg _ _).symm]
        exact this
  refine en_X12_isOpened ?_
  rw [r4]
  exact loop w 0 rfl (by omega) rfl
theorem ct_wrong {X : bi_X} {d : Nat} {K : bi_St → Prop} {E : Nat → bi_St → Prop} {s : bi_St} {f : Nat} {p : Int32} (h3 : st_g s 77 3 = 0) (h9 : st_g s 77 9 = p) (k : K (st_p (st_p s 77 3 (zI f)) 77 4 p)) : cV X d 176 [.ref 77, .int (zI f)] s K E := by
  refine en_X12_wrong ⟨fun _ => ?_, fun z => absurd h3 z⟩
  rw [g_p_k (by omega), h9]; exact k
theorem ct_isGoodY {X : bi_X} {d : Nat} {K : Int32 → bi_St → Prop} {E : Nat → bi_St → Prop} {s : bi_St} (h3 : st_g s 77 3 = 0) (k : K 1 s) : cI X d 177 [.ref 77] s K E := en_X12_isGood ⟨fun z => absurd h3 z, fun _ => k⟩
theorem ct_isGoodN {X : bi_X} {d : Nat} {K : Int32 → bi_St → Prop} {E : Nat → bi_St → Prop} {s : bi_St} (h3 : ¬ st_g s 77 3 = 0) (k : K 0 s) : cI X d 177 [.ref 77] s K E := en_X12_isGood ⟨fun _ => k, fun z => absurd h3 z⟩
def cwt (w : List Nat) : Nat := w.countP (fun o => !(Nat.beq o 14))
theorem cwt_c {o : Nat} {w : List Nat} (h : o ≠ 14) : cwt (o :: w) = cwt w + 1 := by unfold cwt; rw [List.countP_cons, beq_ne h]; rfl
theorem cwt_14 {w : List Nat} : cwt (14 :: w) = cwt w := by unfold cwt; rw [List.countP_cons]; rfl
theorem cwt_le (w : List Nat) : cwt w ≤ w.length := List.countP_le_length
theorem pop_cwt {k : Nat} : ∀ (w : List Nat) (out : Lp), WOk w → (pop k out w).1.length + cwt (pop k out w).2 = out.length + cwt w ∧ (wds (pop k out w).1).length + (pop k out w).2.length = (wds out).length + w.length ∧ (pop k out w).2.length ≤ w.length ∧ (wds out).length ≤ (wds (pop k out w).1).length ∧ WOk (pop k out w).2 ∧ (pop k out w).2.countP (fun o => Nat.ble 14 o) = w.countP (fun o => Nat.ble 14 o) := by
  intro w
  induction w with
  | nil => intro out h; exact ⟨rfl, rfl, Nat.le_refl _, Nat.le_refl _, h, rfl⟩
  | cons o w ih =>
    intro out h
    rw [pop]
    have ho := h o (by simp)
    by_cases h14 : 14 ≤ o
    · rw [if_pos h14]; exact ⟨rfl, rfl, Nat.le_refl _, Nat.le_refl _, h, rfl⟩
    · rw [if_neg h14]
      by_cases hk : k ≤ strg o
      · rw [if_pos hk]
        obtain ⟨a1, a2, a3, a4, a5, a6⟩ := ih (out ++ [(o, 0)]) (fun x hx => h x (by simp [hx]))
        have hl : (out ++ [(o, 0)]).length = out.length + 1 := by rw [List.length_append]; rfl
        have hw1 : (wds (out ++ [(o, 0)])).length = (wds out).length + 1 := by rw [wds_snoc, List.length_append]; unfold wd1; rw [if_neg (show ¬ (o, 0).1 ≤ 3 from by show ¬ o ≤ 3; omega)]; rfl
        rw [cwt_c (by omega), List.length_cons, List.countP_cons, ble_f (by omega)]
        refine ⟨by omega, by omega, by omega, by omega, a5, by rw [a6]; rfl⟩
      · rw [if_neg hk]; exact ⟨rfl, rfl, Nat.le_refl _, Nat.le_refl _, h, rfl⟩
end REX2
