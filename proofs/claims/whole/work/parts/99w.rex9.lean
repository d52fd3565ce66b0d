/-! ===== the reference's expression: a step behind an operand ===== -/
section REX9
theorem RM_23 {s : bi_St} {B : Nat → Nat} {N C R lo : Nat} {m : Mx} {v : Int32} (h : RM s B N C R lo m) : RM (st_p s 77 23 v) B N C R lo m := by
  obtain ⟨hB, hT, h3, h14, h15, hCR, hW, h21, hdep, htst, h22⟩ := RM_get h
  have g : ∀ a k, (a ≠ 77 ∨ k ≠ 23) → st_g (st_p s 77 23 v) a k = st_g s a k := fun a k hh => by rw [g_p, if_neg (by omega)]
  exact ⟨RB_fr (g _ _ (by omega)) (fun k => g _ _ (by omega)) hB, RT_eq (fun k h1 h2 => g _ _ (by omega)) (gl_p _ _ _ _ _ _) hT, by rw [g _ _ (by omega)]; exact h3, by rw [g _ _ (by omega)]; exact h14, by rw [g _ _ (by omega)]; exact h15, hCR, RW_fr (g _ _ (by omega)) (g _ _ (by omega)) (fun k => g _ _ (by omega)) (fun k => g _ _ (by omega)) hW, by rw [g _ _ (by omega)]; exact h21, hdep, fun j h1 h2 => by rw [g _ _ (by omega)]; exact htst j h1 h2, by rw [g _ _ (by omega)]; exact h22⟩
theorem ct_moreStep {X : bi_X} {d : Nat} {K : bi_St → Prop} {E : Nat → bi_St → Prop} {s : bi_St} {B : Nat → Nat} {N C R lo q dep : Nat} {out : Lp} {w : List Nat} {tst : Nat → Bool} {sil : Bool} (h : RM s B N C R lo (q, out, w, tst, dep, sil)) (hb : RMb lo 1 (q, out, w, tst, dep, sil)) (hs : st_g s 77 23 = b2i sil)
    (kO : ∀ mn' mx' t, stP B N (q, out, w, tst, dep, sil) = .inl (some (mn', 0), mx') → fr (wEx lo) s t → RM t B N C R lo mx' → RMb lo 0 mx' → (st_g t 77 23 = b2i mx'.2.2.2.2.2 ∨ (tK B N mx'.1 = 2 ∧ 4 < tL B N mx'.1)) → cV X (d + 6) 191 [.ref 77, .int (b2i mn')] t (fun u => at_X12_expression_398 X (d + 7) K E u 1) (fun _ _ => False))
    (kP : ∀ mx' t, stP B N (q, out, w, tst, dep, sil) = .inl (none, mx') → fr (wEx lo) s t → RM t B N C R lo mx' → RMb lo 1 mx' → st_g t 77 23 = b2i mx'.2.2.2.2.2 → at_X12_expression_398 X (d + 7) K E t 1)
    (kN : stP B N (q, out, w, tst, dep, sil) = flt 1 (tS B N q) → ∀ t, fr (wEb lo) s t → st_g t 77 3 = zI 1 → st_g t 77 4 = zI (tS B N q) → K t)
    (kT : ∀ P, stP B N (q, out, w, tst, dep, sil) = .inr (.inr (q, P, sil)) → ∀ t, fr (wEx lo) s t → RB t B N → RT t B N q → st_g t 77 3 = 0 → st_g t 77 19 = zI (lo + (wds P).length + 1) → (∀ k x, (wds P)[k]? = some x → st_g t 80 (lo + k) = zI x) → st_g t 80 (lo + (wds P).length) = 0 → st_g t 77 22 = zI P.length → st_g t 77 23 = b2i sil → 2 * (lo + (wds P).length) ≤ 3 * q + 1 → K t) : at_X12_expression_39 X (d + 7) K E s 1 := by
  obtain ⟨hB, hT, h3, h14, h15, hCR, hW, h21, hdep, htst, h22⟩ := RM_get h
  simp only at hT hW h21 hdep htst h22
  have hN := hB.1
  have hqN := hT.1
  have hbB : ∀ i, i < N → B i < 256 := fun i hi => (hB.2.2 i hi).1
  have hd1 : 1 ≤ dep := by omega
  -- and, or
  have m22 : kn B N q = 22 → at_X12_expression_67 X (d + 7) K E s 1 (knI (kn B N q)) := fun k22 => by
    have h0 : tK B N q ≠ 0 := by have := (kn_lt (B := B) (N := N) (q := q) (by omega)).1; omega
    have hst : stP B N (q, out, w, tst, dep, sil) = psh (tE B N q) 12 2 true (va_up tst dep false) sil (q, out, w, tst, dep, sil) := by unfold stP; rw [if_pos k22]
    rw [hst] at kO
    rw [k22]
    refine go_X12_expression_67 ⟨fun z => absurd rfl z, fun _ => ct_dropsM (kk := 2) h hb (by omega) (fun t ht hRM hRb t23 => ⟨fun z => absurd rfl z, fun _ => ?_⟩)⟩
    exact ct_pshT (d := d + 5) (o := 12) false hRM hRb (by omega) h0 (fun v hv hR' hb' v23 => kO true _ v rfl (ht.trans hv) hR' hb' (Or.inl (by rw [v23, t23]; exact hs)))
  have m23 : kn B N q = 23 → at_X12_expression_67 X (d + 7) K E s 1 (knI (kn B N q)) := fun k23 => by
    have h0 : tK B N q ≠ 0 := by have := (kn_lt (B := B) (N := N) (q := q) (by omega)).1; omega
    have hst : stP B N (q, out, w, tst, dep, sil) = psh (tE B N q) 13 1 true (va_up tst dep false) sil (q, out, w, tst, dep, sil) := by
      unfold stP
      rw [if_neg (show ¬ kn B N (q, out, w, tst, dep, sil).1 = 22 from fun z => by have z : kn B N q = 22 := z; omega), if_pos k23]
    rw [hst] at kO
    rw [k23]
    refine go_X12_expression_67 ⟨fun _ => ct_dropsM (kk := 1) h hb (by omega) (fun t ht hRM hRb t23 => ⟨fun _ => ?_, fun z => absurd (by decide) z⟩), fun z => absurd (by decide) z⟩
    exact ct_pshT (d := d + 5) (o := 13) false hRM hRb (by omega) h0 (fun v hv hR' hb' v23 => kO true _ v rfl (ht.trans hv) hR' hb' (Or.inl (by rw [v23, t23]; exact hs)))
  refine go_X12_expression_39 ⟨fun z => absurd z (by decide), fun _ => ct_isGoodY h3 ⟨fun z => absurd z (by decide), fun _ => ct_knownWord hN hT ?_⟩⟩
  have e22 : (knI (kn B N q) = 22) ↔ kn B N q = 22 := knI_eq (n := 22) kn_le (by omega)
  have e23 : (knI (kn B N q) = 23) ↔ kn B N q = 23 := knI_eq (n := 23) kn_le (by omega)
  rw [e22, e23]
  refine ⟨m22, fun n22 => ⟨fun n23 => ?_, fun k23 => m23 (Decidable.of_not_not k23)⟩⟩
  -- what follows no test
  have m216 : ¬ (tG B N q = 60 ∧ tst dep = false) → ¬ (tG B N q = 61 ∧ tst dep = false) → at_X12_expression_216 X (d + 7) K E s 1 := fun n60 n61 => by
    have hst : stP B N (q, out, w, tst, dep, sil) = (if tG B N q = 43 then psh (tE B N q) 6 5 false tst sil (q, out, w, tst, dep, sil)
        else if tG B N q = 45 then psh (tE B N q) 7 5 false tst sil (q, out, w, tst, dep, sil)
        else if tG B N q = 42 then psh (tE B N q) 8 6 false tst sil (q, out, w, tst, dep, sil)
        else if tG B N q = 47 then psh (tE B N q) 9 6 false tst (sil && (decide (tK B N (tE B N q) = 2) && (!(decide (4 < tL B N (tE B N q))) && !(decide (tV B N (tE B N q) = 0))))) (q, out, w, tst, dep, sil)
        else if tG B N q = 41 ∧ hasO w = true then cls (tE B N q) (q, out, w, tst, dep, sil)
        else if 1 < dep then flt 1 (tS B N q) else .inr (.inr (q, (pop 0 out w).1, sil))) := by
      unfold stP
      rw [if_neg (show ¬ kn B N (q, out, w, tst, dep, sil).1 = 22 from n22), if_neg (show ¬ kn B N (q, out, w, tst, dep, sil).1 = 23 from n23), if_neg (show ¬ (tG B N (q, out, w, tst, dep, sil).1 = 60 ∧ _) from n60), if_neg (show ¬ (tG B N (q, out, w, tst, dep, sil).1 = 61 ∧ _) from n61)]
    have m234 : (tG B N q = 43 ∨ tG B N q = 45) → at_X12_expression_234 X (d + 7) K E s 1 := fun hg => by
      have h0 : tK B N q ≠ 0 := by have := G_K (show tG B N q ≠ 0 by omega); omega
      refine go_X12_expression_234 (ct_dropsM (kk := 5) h hb (by omega) (fun t ht hRM hRb t23 => ct_isSignR (c := 43) hbB hRM.2.1 rfl (by omega) ?_))
      rw [b2i_ne0]
      refine ⟨fun z => ?_, fun z => ?_⟩
      · have z : ¬ tG B N q = 43 := by simpa using z
        rw [if_neg z, if_pos (show tG B N q = 45 by omega)] at hst
        exact ct_pshN (d := d + 5) (o := 7) hRM hRb (by omega) h0 (fun v hv hR' hb' v23 => kO false _ v (by rw [hst]; rfl) (ht.trans hv) hR' hb' (Or.inl (by rw [v23, t23]; exact hs)))
      · have z : tG B N q = 43 := by simpa using z
        rw [if_pos z] at hst
        exact ct_pshN (d := d + 5) (o := 6) hRM hRb (by omega) h0 (fun v hv hR' hb' v23 => kO false _ v (by rw [hst]; rfl) (ht.trans hv) hR' hb' (Or.inl (by rw [v23, t23]; exact hs)))
    have m299 : (tG B N q = 42 ∨ tG B N q = 47) → at_X12_expression_299 X (d + 7) K E s 1 := fun hg => by
      have h0 : tK B N q ≠ 0 := by have := G_K (show tG B N q ≠ 0 by omega); omega
      rw [if_neg (show ¬ tG B N q = 43 by omega), if_neg (show ¬ tG B N q = 45 by omega)] at hst
      refine go_X12_expression_299 (ct_isSignR (c := 47) hbB hT rfl (by omega) (ct_dropsM (kk := 6) h hb (by omega) (fun t ht hRM hRb t23 => ?_)))
      rw [b2i_ne0]
      refine ⟨fun z => ?_, fun z => ?_⟩
      · have z' : ¬ tG B N q = 47 := by simpa using z
        rw [if_pos (show tG B N q = 42 by omega)] at hst
        exact ct_pshN (d := d + 5) (o := 8) hRM hRb (by omega) h0 (fun v hv hR' hb' v23 => ⟨fun _ => go_X12_expression_365 (kO false _ v (by rw [hst]; rfl) (ht.trans hv) hR' hb' (Or.inl (by rw [v23, t23]; exact hs))), fun z2 => absurd z z2⟩)
      · have z' : tG B N q = 47 := by simpa using z
        rw [if_neg (show ¬ tG B N q = 42 by omega), if_pos z'] at hst
        refine ct_pshN (d := d + 5) (o := 9) hRM hRb (by omega) h0 (fun v hv hR' hb' v23 => ⟨fun z2 => absurd z2 z, fun _ => ?_⟩)
        have hTv := hR'.2.1
        simp only at hTv
        have hr4 := rK_le (B := B) (N := N) (q := tE B N q)
        have e2 : (zI (rK B N (tE B N q)) = 2) ↔ tK B N (tE B N q) = 2 := by rw [← rK_2]; exact zI_eq (b := 2) (by omega) (by omega)
        rw [hTv.2.2.1, e2, hTv.2.2.2.2.2.1]
        have no : (sil && (decide (tK B N (tE B N q) = 2) && (!(decide (4 < tL B N (tE B N q))) && !(decide (tV B N (tE B N q) = 0))))) = false → at_X12_expression_360 X (d + 7) K E v 1 := fun hf => go_X12_expression_360 (go_X12_expression_365 (kO false (tE B N q, (pop 6 out w).1, 9 :: (pop 6 out w).2, tst, dep, (sil && (decide (tK B N (tE B N q) = 2) && (!(decide (4 < tL B N (tE B N q))) && !(decide (tV B N (tE B N q) = 0)))))) _ (by rw [hst]; rfl) ((ht.trans hv).p (wEx_77 (by omega))) (RM_23 hR') hb' (Or.inl (by rw [g_p_eq]; exact (congrArg b2i hf).symm))))
        refine ⟨fun n2 => no (by rw [decide_eq_false n2]; simp), fun k2 => ?_⟩
        have k2 := Decidable.of_not_not k2
        have hv2 := tV_lt k2
        have e0 : (zI (tV B N (tE B N q)) = 0) ↔ tV B N (tE B N q) = 0 := zI_eq (b := 0) (by omega) (by omega)
        rw [if_pos k2, e0]
        refine ⟨fun nz => go_X12_expression_365 (kO false (tE B N q, (pop 6 out w).1, 9 :: (pop 6 out w).2, tst, dep, (sil && (decide (tK B N (tE B N q) = 2) && (!(decide (4 < tL B N (tE B N q))) && !(decide (tV B N (tE B N q) = 0)))))) v (by rw [hst]; rfl) (ht.trans hv) hR' hb' ?_), fun z0 => no (by rw [decide_eq_true (Decidable.of_not_not z0)]; simp)⟩
        by_cases h4 : 4 < tL B N (tE B N q)
        · exact Or.inr ⟨k2, h4⟩
        · refine Or.inl ?_
          show _ = b2i (sil && (decide (tK B N (tE B N q) = 2) && (!(decide (4 < tL B N (tE B N q))) && !(decide (tV B N (tE B N q) = 0)))))
          rw [v23, t23, hs, decide_eq_true k2, decide_eq_false h4, decide_eq_false nz]; simp
    refine go_X12_expression_216 (ct_isSignR (c := 43) hbB hT rfl (by omega) ?_)
    rw [b2i_ne0]
    refine ⟨fun z => m234 (Or.inl (by simpa using z)), fun z => ct_isSignR (c := 45) hbB hT rfl (by omega) ?_⟩
    have n43 : ¬ tG B N q = 43 := by simpa using z
    rw [b2i_ne0]
    refine ⟨fun z => ct_isSignR (c := 42) hbB hT rfl (by omega) ?_, fun z => m234 (Or.inr (by simpa using z))⟩
    have n45 : ¬ tG B N q = 45 := by simpa using z
    rw [b2i_ne0]
    refine ⟨fun z => m299 (Or.inl (by simpa using z)), fun z => ct_isSignR (c := 47) hbB hT rfl (by omega) ?_⟩
    have n42 : ¬ tG B N q = 42 := by simpa using z
    rw [b2i_ne0]
    refine ⟨fun z => ct_isSignR (c := 41) hbB hT rfl (by omega) ?_, fun z => m299 (Or.inr (by simpa using z))⟩
    have n47 : ¬ tG B N q = 47 := by simpa using z
    rw [if_neg n43, if_neg n45, if_neg n42, if_neg n47] at hst
    have fin : ¬ (tG B N q = 41 ∧ hasO w = true) → at_X12_expression_396 X (d + 7) K E s := fun hn => by
      rw [if_neg hn] at hst
      refine ct_endE (d := d + 5) h hb (fun hd t ht t3 t4 => kN (by rw [hst, if_pos hd]) t ht t3 t4) (fun hd t a1 a2 a3 a4 a5 a6 a7 a8 a9 a10 => kT _ (by rw [hst, if_neg hd]) t a1 a2 a3 a4 a5 a6 a7 a8 (by rw [a9]; exact hs) a10)
    rw [b2i_ne0]
    refine ⟨fun z => fin (fun hh => by rw [decide_eq_true hh.1] at z; cases z), fun z => ct_isOpened (d := d + 5) hW (by unfold RMb at hb; simp only at hb; omega) ?_⟩
    have k41 : tG B N q = 41 := by simpa using z
    rw [b2i_ne0]
    refine ⟨fun z => fin (fun hh => by rw [hh.2] at z; cases z), fun z => ?_⟩
    have hO : hasO w = true := by simpa using z
    rw [if_pos ⟨k41, hO⟩] at hst
    have h0 : tK B N q ≠ 0 := by have := G_K (show tG B N q ≠ 0 by omega); omega
    exact ct_closes (d := d + 4) h hb h0 hO (fun t mx' hc ht hR hRb hsil t23 => kP mx' t (by rw [hst]; exact hc) ht hR hRb (by rw [t23, hsil]; exact hs))
  have m147 : (tG B N q = 60 ∨ tG B N q = 61) → at_X12_expression_147 X (d + 7) K E s 1 := fun hg => by
    have h0 : tK B N q ≠ 0 := by have := G_K (show tG B N q ≠ 0 by omega); omega
    refine go_X12_expression_147 ?_
    rw [h21, zI_nat (by omega), htst dep hd1 (Nat.le_refl _), b2i_ne0]
    refine ⟨in_zI (by omega) (by omega), fun ht => m216 (fun z => ht z.2) (fun z => ht z.2), fun ht => ?_⟩
    have ht0 := Decidable.of_not_not ht
    refine ct_dropsM (kk := 4) h hb (by omega) (fun t ht hRM hRb t23 => ct_isSignR (c := 60) hbB hRM.2.1 rfl (by omega) ?_)
    rw [b2i_ne0]
    refine ⟨fun z => ?_, fun z => ?_⟩
    · have z : ¬ tG B N q = 60 := by simpa using z
      have hst : stP B N (q, out, w, tst, dep, sil) = psh (tE B N q) 11 4 false (va_up tst dep true) sil (q, out, w, tst, dep, sil) := by
        unfold stP
        rw [if_neg (show ¬ kn B N (q, out, w, tst, dep, sil).1 = 22 from n22), if_neg (show ¬ kn B N (q, out, w, tst, dep, sil).1 = 23 from n23), if_neg (show ¬ (tG B N (q, out, w, tst, dep, sil).1 = 60 ∧ _) from fun y => z y.1), if_pos (show (tG B N (q, out, w, tst, dep, sil).1 = 61 ∧ _) from ⟨show tG B N q = 61 by omega, ht0⟩)]
      exact ct_pshT (d := d + 5) (o := 11) true hRM hRb (by omega) h0 (fun v hv hR' hb' v23 => kO false _ v (by rw [hst]; rfl) (ht.trans hv) hR' hb' (Or.inl (by rw [v23, t23]; exact hs)))
    · have z : tG B N q = 60 := by simpa using z
      have hst : stP B N (q, out, w, tst, dep, sil) = psh (tE B N q) 10 4 false (va_up tst dep true) sil (q, out, w, tst, dep, sil) := by
        unfold stP
        rw [if_neg (show ¬ kn B N (q, out, w, tst, dep, sil).1 = 22 from n22), if_neg (show ¬ kn B N (q, out, w, tst, dep, sil).1 = 23 from n23), if_pos (show (tG B N (q, out, w, tst, dep, sil).1 = 60 ∧ _) from ⟨z, ht0⟩)]
      exact ct_pshT (d := d + 5) (o := 10) true hRM hRb (by omega) h0 (fun v hv hR' hb' v23 => kO false _ v (by rw [hst]; rfl) (ht.trans hv) hR' hb' (Or.inl (by rw [v23, t23]; exact hs)))
  refine ct_isSignR (c := 60) hbB hT rfl (by omega) ?_
  rw [b2i_ne0]
  refine ⟨fun z => m147 (Or.inl (by simpa using z)), fun z => ct_isSignR (c := 61) hbB hT rfl (by omega) ?_⟩
  have n60 : ¬ tG B N q = 60 := by simpa using z
  rw [b2i_ne0]
  refine ⟨fun z => m216 (fun y => n60 y.1) (fun y => ?_), fun z => m147 (Or.inr (by simpa using z))⟩
  rw [decide_eq_true y.1] at z; cases z
end REX9
