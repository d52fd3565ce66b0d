/-! ===== the reference's expression: parentheses open ===== -/
section REX4
theorem knI_eq {k n : Nat} (hk : k ≤ 25) (hn : n < 25) : (knI k = zI n) ↔ k = n := by
  unfold knI
  by_cases h : k = 25
  · rw [if_pos h]
    refine ⟨fun z => absurd z.symm (zI_m1 (by omega)), fun z => by omega⟩
  · rw [if_neg h]; exact zI_eq (by omega) (by omega)
theorem nar0 : bi_nar 15 (0 : Int32) = 0 := rfl
theorem nar1 : bi_nar 15 (1 : Int32) = 1 := rfl
theorem opns_c {o : Nat} {w : List Nat} (h : 14 ≤ o) : opns (o :: w) = opns w + 1 := by unfold opns; rw [List.countP_cons, Nat.ble_eq_true_of_le h]; rfl
theorem opns_n {o : Nat} {w : List Nat} (h : o < 14) : opns (o :: w) = opns w := by unfold opns; rw [List.countP_cons, ble_f h]; rfl
theorem g77 {lo : Nat} {s t : bi_St} (h : fr (wWd lo) s t) {k : Nat} (hk : k < 19 ∨ 20 < k) : st_g t 77 k = st_g s 77 k := h.g (wWd_ne (by omega) (by omega) (by omega))
theorem RT_wWd {lo : Nat} {s t : bi_St} {B : Nat → Nat} {N q : Nat} (h : fr (wWd lo) s t) (hr : RT s B N q) : RT t B N q := by
  obtain ⟨a1, a2, a3, a4, a5, a6, a7, a8⟩ := hr
  refine ⟨a1, by rw [g77 h (by omega)]; exact a2, by rw [g77 h (by omega)]; exact a3, by rw [g77 h (by omega)]; exact a4, by rw [g77 h (by omega)]; exact a5, by rw [g77 h (by omega)]; exact a6, fun z => by rw [g77 h (by omega)]; exact a7 z, fun z => ?_⟩
  rw [h.2.2.2 77 13 (Or.inl (wWd_ne (by omega) (by omega) (by omega)))]; exact a8 z
theorem RB_wWd {lo : Nat} {s t : bi_St} {B : Nat → Nat} {N : Nat} (h : fr (wWd lo) s t) (hr : RB s B N) : RB t B N := RB_fr (g77 h (by omega)) (fun k => h.g (wWd_ne (by omega) (by omega) (by omega))) hr
theorem RW_rk {s t : bi_St} {lo : Nat} {out : Lp} {w : List Nat} (h : fr wRk s t) (hR : RW s lo out w) : RW t lo out w := RW_fr (h.g rfl) (h.g rfl) (fun k => h.g (wRk_ne (by omega))) (fun k => h.g (wRk_ne (by omega))) hR
theorem ct_open {X : bi_X} {d : Nat} {K : bi_St → Prop} {E : Nat → bi_St → Prop} {s : bi_St} {B : Nat → Nat} {N C R lo q1 o dep : Nat} {out : Lp} {w : List Nat} {tst : Nat → Bool} {sil : Bool} (ho : o = 14 ∨ o = 15) (hB : RB s B N) (hT : RT s B N q1) (h40 : tG B N q1 = 40) (h3 : st_g s 77 3 = 0) (h14 : st_g s 77 14 = zI C) (h15 : st_g s 77 15 = zI R) (hCR : C ≤ 4 ∧ R ≤ 6) (hW : RW s lo out w) (hwl : w.length < 940) (h21 : st_g s 77 21 = zI dep) (hdep : dep = 1 + opns w ∧ dep ≤ 6) (ht : ∀ j, 1 ≤ j → j ≤ dep → st_g s 82 j = b2i (tst j)) (h22 : st_g s 77 22 = zI (out.length + cwt (o :: w))) (h23 : st_g s 77 23 = b2i sil)
    (kY : dep < 6 → ∀ t, fr (wEx lo) s t → RM t B N C R lo (tE B N q1, out, o :: w, va_up tst (dep + 1) false, dep + 1, sil) → st_g t 77 23 = b2i sil → at_X12_operand_18 X (d + 5) K E t 1 0)
    (kN : ¬ dep < 6 → ∀ t, fr (wEb lo) s t → st_g t 77 3 = zI (if canB B N (tE B N q1) then 2 else 1) → st_g t 77 4 = zI (tS B N (tE B N q1)) → st_g t 77 20 = zI (w.length + 1) → st_g t 77 19 = zI (lo + (wds out).length) → K t) :
    cV X (d + 4) 188 [.ref 77, .int (zI (wa o))] s (fun (s19 : bi_St) => cV X (d + 4) 172 [.ref 77] s19 (fun (s20 : bi_St) => cV X (d + 4) 190 [.ref 77] s20 (fun (s21 : bi_St) => at_X12_operand_198 X (d + 5) K E s21 ((1 : Int32)) ((1 : Int32))) (fun _ _ => False)) (fun _ _ => False)) (fun _ _ => False) := by
  have hE := tE_le (B := B) hT.1
  have hN := hB.1
  refine ct_waitsFor hW (by omega) (by omega) (fun t ht1 hW1 => ?_)
  have hB1 := RB_wWd ht1 hB
  refine ct_goM (lo := lo) hB1 hE.2.1 (by rw [g77 ht1 (by omega)]; exact hT.2.1) (fun u hu hBu hTu => ?_)
  have fsu : fr (wEx lo) s u := (ht1.mono wWd_wEx).trans (hu.mono wRk_wEx)
  have hWu := RW_rk hu hW1
  have u3 : st_g u 77 3 = 0 := by rw [hu.g rfl, g77 ht1 (by omega)]; exact h3
  have u21 : st_g u 77 21 = zI dep := by rw [hu.g rfl, g77 ht1 (by omega)]; exact h21
  have e6 : ((6 : Int32) ≤ zI dep) ↔ 6 ≤ dep := zI_le (a := 6) (by omega) (by omega)
  have hr4 := rK_le (B := B) (N := N) (q := tE B N q1)
  have e2 : (zI (rK B N (tE B N q1)) = 2) ↔ tK B N (tE B N q1) = 2 := by rw [← rK_2]; exact zI_eq (b := 2) (by omega) (by omega)
  have e1 : (zI (rK B N (tE B N q1)) = 1) ↔ tK B N (tE B N q1) = 1 := by rw [← rK_1]; exact zI_eq (b := 1) (by omega) (by omega)
  refine en_X12_deeper ?_
  rw [u21, e6, hTu.2.2.1, e2, e1]
  have bad : ¬ dep < 6 → ∀ f, f = (if canB B N (tE B N q1) then 2 else 1) → cV X (d + 3) 176 [.ref 77, .int (zI f)] u (fun (s1 : bi_St) => at_X12_operand_198 X (d + 5) K E s1 ((1 : Int32)) ((1 : Int32))) (fun _ _ => False) := fun hd f hf => by
    have hf0 : ¬ zI f = 0 := fun z => by
      have hf3 : f < 2147483648 := by rw [hf]; split <;> omega
      have := (zI_eq (b := 0) hf3 (by omega)).mp z
      rw [hf] at this
      split at this <;> omega
    refine ct_wrong u3 hTu.2.2.2.1 (bad198 (by rw [g_p_k (by omega), g_p_eq]; exact hf0) (kN hd _ (fsu.b) ?_ ?_ ?_ ?_))
    · rw [g_p_k (by omega), g_p_eq, hf]
    · rw [g_p_eq]
    · rw [g_p_k (by omega), g_p_k (by omega)]; exact hWu.2.2.2.1
    · rw [g_p_k (by omega), g_p_k (by omega)]; exact hWu.2.1
  refine ⟨fun h6 => ⟨fun k2 => bad (by omega) 2 ?_, fun n2 => ⟨fun k1 => bad (by omega) 2 ?_, fun n1 => ct_isSignR (c := 40) (fun i hi => (hBu.2.2 i hi).1) hTu rfl (by omega) ?_⟩⟩, fun h6 => ?_⟩
  · have : canB B N (tE B N q1) = true := by unfold canB; rw [decide_eq_true k2]; rfl
    rw [this]; rfl
  · have : canB B N (tE B N q1) = true := by unfold canB; rw [decide_eq_true k1]; simp
    rw [this]; rfl
  · rw [b2i_ne0]
    refine ⟨fun z => bad (by omega) 1 ?_, fun z => bad (by omega) 2 ?_⟩
    · have z : ¬ tG B N (tE B N q1) = 40 := by simpa using z
      have : canB B N (tE B N q1) = false := by unfold canB; rw [decide_eq_false n2, decide_eq_false n1, decide_eq_false z]; rfl
      rw [this]; rfl
    · have z : tG B N (tE B N q1) = 40 := by simpa using z
      have : canB B N (tE B N q1) = true := by unfold canB; rw [decide_eq_true z]; simp
      rw [this]; rfl
  · have hd : dep < 6 := by omega
    rw [zI_add1, g_p_eq, zI_nat (by omega), nar0]
    refine ⟨in_zI (by omega) (by omega), go_X12_operand_198 (go_X12_operand_4 ⟨fun z => absurd z (by decide), fun _ => ct_isGoodY ?_ ⟨fun z => absurd z (by decide), fun _ => kY hd _ ((fsu.p (wEx_77 (by omega))).p wEx_82) ⟨?_, ?_, ?_, ?_, ?_, hCR, ?_, ?_, ?_, fun j h1 h2 => ?_, ?_⟩ ?_⟩⟩)⟩
    · rw [g_p_a (by omega), g_p_k (by omega)]; exact u3
    · exact RB_fr (by rw [g_p_a (by omega), g_p_k (by omega)]) (fun k => by rw [g_p_a (by omega), g_p_a (by omega)]) hBu
    · obtain ⟨a1, a2, a3, a4, a5, a6, a7, a8⟩ := hTu
      have g : ∀ k, k ≠ 21 → st_g (st_p (st_p u 77 21 (zI (dep + 1))) 82 (dep + 1) 0) 77 k = st_g u 77 k := fun k hk => by rw [g_p_a (by omega), g_p_k hk]
      exact ⟨a1, by rw [g _ (by omega)]; exact a2, by rw [g _ (by omega)]; exact a3, by rw [g _ (by omega)]; exact a4, by rw [g _ (by omega)]; exact a5, by rw [g _ (by omega)]; exact a6, fun z => by rw [g _ (by omega)]; exact a7 z, fun z => by rw [gl_p, gl_p]; exact a8 z⟩
    · rw [g_p_a (by omega), g_p_k (by omega)]; exact u3
    · rw [g_p_a (by omega), g_p_k (by omega), hu.g rfl, g77 ht1 (by omega)]; exact h14
    · rw [g_p_a (by omega), g_p_k (by omega), hu.g rfl, g77 ht1 (by omega)]; exact h15
    · exact RW_fr (by rw [g_p_a (by omega), g_p_k (by omega)]) (by rw [g_p_a (by omega), g_p_k (by omega)]) (fun k => by rw [g_p_a (by omega), g_p_a (by omega)]) (fun k => by rw [g_p_a (by omega), g_p_a (by omega)]) hWu
    · rw [g_p_a (by omega), g_p_eq]
    · show dep + 1 = 1 + opns (o :: w) ∧ dep + 1 ≤ 6
      rw [opns_c (by omega)]; omega
    · show st_g (st_p (st_p u 77 21 (zI (dep + 1))) 82 (dep + 1) 0) 82 j = b2i (va_up tst (dep + 1) false j)
      have h2 : j ≤ dep + 1 := h2
      rw [va_upe]
      by_cases hj : j = dep + 1
      · rw [if_pos hj, hj, g_p_eq]; rfl
      · rw [if_neg hj, g_p_k hj, g_p_a (by omega), hu.g (wRk_ne (by omega)), ht1.g (wWd_ne (by omega) (by omega) (by omega))]
        exact ht j h1 (by omega)
    · rw [g_p_a (by omega), g_p_k (by omega), hu.g rfl, g77 ht1 (by omega)]; exact h22
    · rw [g_p_a (by omega), g_p_k (by omega), hu.g rfl, g77 ht1 (by omega)]; exact h23
end REX4
