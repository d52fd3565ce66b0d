/-! ===== the reference's expression: a step before an operand ===== -/
section REX7
theorem ct_operandStep {X : bi_X} {d : Nat} {K : bi_St → Prop} {E : Nat → bi_St → Prop} {s : bi_St} {B : Nat → Nat} {N C R lo q dep nots : Nat} {out : Lp} {w : List Nat} {tst : Nat → Bool} {sil mn : Bool} (h : RM s B N C R lo (q, out, w, tst, dep, sil)) (hb : RMb lo 0 (q, out, w, tst, dep, sil)) (hs : st_g s 77 23 = b2i sil ∨ (tK B N q = 2 ∧ 4 < tL B N q)) (hnots : nots ≤ 6)
    (kO : ∀ mn' nots' mx' t, stO B N C R mn nots (q, out, w, tst, dep, sil) = .inl (some (mn', nots'), mx') → fr (wEx lo) s t → RM t B N C R lo mx' → RMb lo 0 mx' → st_g t 77 23 = b2i mx'.2.2.2.2.2 → nots' ≤ 6 → at_X12_operand_18 X (d + 6) K E t (b2i mn') (zI nots'))
    (kP : ∀ mx' t, stO B N C R mn nots (q, out, w, tst, dep, sil) = .inl (none, mx') → fr (wEx lo) s t → RM t B N C R lo mx' → RMb lo 1 mx' → st_g t 77 23 = b2i mx'.2.2.2.2.2 → K t)
    (kN : ∀ f p t n top, stO B N C R mn nots (q, out, w, tst, dep, sil) = flt f p → 1 ≤ f → f ≤ 3 → fr (wEb lo) s t → st_g t 77 3 = zI f → st_g t 77 4 = zI p → st_g t 77 20 = zI n → st_g t 77 19 = zI top → lo ≤ top → top + n ≤ 1390 → n ≤ 940 → K t) : at_X12_operand_18 X (d + 6) K E s (b2i mn) (zI nots) := by
  obtain ⟨hB, hT, h3, h14, h15, hCR, hW, h21, hdep, htst, h22⟩ := RM_get h
  simp only at hT hW h21 hdep htst h22
  unfold RMb at hb
  simp only at hb
  have hN := hB.1
  have hE := tE_le (B := B) hT.1
  have hS := tS_le (B := B) hT.1
  have s19 := hW.2.1
  have s20 := hW.2.2.2.1
  have hbB : ∀ i, i < N → B i < 256 := fun i hi => (hB.2.2 i hi).1
  have h85 : ¬ (mn = true ∧ kn B N q = 24) → at_X12_operand_85 X (d + 6) K E s (b2i mn) := by
    intro hno
    have hst : stO B N C R mn nots (q, out, w, tst, dep, sil) = (if kn B N q = 21 then (if tG B N (tE B N q) = 40 then opn B N 15 (tE B N (tE B N q)) false (q, out, w, tst, dep, sil) else flt 1 (tS B N (tE B N q))) else if tG B N q = 40 then opn B N 14 (tE B N q) sil (q, out, w, tst, dep, sil) else prt B N C R (q, out, w, tst, dep, sil)) := by
      unfold stO; rw [if_neg hno]
    rw [hst] at kO kP kN
    refine go_X12_operand_85 (ct_isGoodY h3 ⟨fun z => absurd z (by decide), fun _ => ct_knownWord hN hT ?_⟩)
    have e21 : (knI (kn B N q) = 21) ↔ kn B N q = 21 := knI_eq (n := 21) kn_le (by omega)
    rw [e21]
    refine ⟨fun n21 => go_X12_operand_105 ⟨fun _ => go_X12_operand_146 (ct_isGoodY h3 ⟨fun z => absurd z (by decide), fun _ => ct_isSignR (c := 40) hbB hT rfl (by omega) ?_⟩), fun z => absurd rfl z⟩, fun k21 => ⟨fun z => absurd z (by decide), fun _ => ?_⟩⟩
    · rw [if_neg n21] at kO kP kN
      rw [b2i_ne0]
      refine ⟨fun n40 => ?_, fun k40 => ⟨fun z => absurd z (by decide), fun _ => ⟨fun _ => ?_, fun z => absurd rfl z⟩⟩⟩
      · have n40 : ¬ tG B N q = 40 := by simpa using n40
        rw [if_neg n40] at kO kP kN
        refine go_X12_operand_166 ⟨fun _ => go_X12_operand_198 (go_X12_operand_4 ⟨fun _ => go_X12_operand_201 (ct_part (d := d) h (by omega) (fun q' o t hp ho ht hRM h23 hlong hqq => ?_) (fun f p t top hp f1 f3 ht t3 t4 t20 t19 hl1 hl2 => ?_)), fun z => absurd rfl z⟩), fun z => absurd rfl z⟩
        · refine kP (q', out ++ [o], w, tst, dep, sil) t (by rw [hp]; rfl) ht hRM ?_ ?_
          · unfold RMb
            simp only
            rw [wds_snoc, List.length_append]
            have := (wd1_len o).1
            omega
          · rw [h23]
            rcases hs with hs | hs
            · exact hs
            · exact absurd hs.2 (hlong hs.1)
        · exact kN f p t w.length top hp f1 f3 ht t3 t4 t20 t19 hl1 (by omega) (by omega)
      · have k40 : tG B N q = 40 := by simpa using k40
        rw [if_pos k40] at kO kP kN
        have hk3 := G_K (show tG B N q ≠ 0 by omega)
        have hadv := tok_adv (B := B) hT.1 (show tK B N q ≠ 0 by omega)
        have hs' : st_g s 77 23 = b2i sil := by rcases hs with z | z; exact z; omega
        refine ct_open (d := d + 1) (o := 14) (tst := tst) (sil := sil) (Or.inl rfl) hB hT k40 h3 h14 h15 hCR hW (by omega) h21 hdep htst (by rw [cwt_14]; exact h22) hs' (fun hd t ht hRM t23 => ?_) (fun hd t ht t3 t4 t20 t19 => ?_)
        · refine kO true 0 _ t (by unfold opn; rw [if_pos hd]) ht hRM ?_ t23 (by omega)
          unfold RMb
          simp only [List.length_cons]
          omega
        · refine kN (if canB B N (tE B N q) then 2 else 1) (tS B N (tE B N q)) t (w.length + 1) (lo + (wds out).length) (by unfold opn; rw [if_neg hd]) ?_ ?_ ht t3 t4 t20 t19 (by omega) (by omega) (by omega)
          · split <;> omega
          · split <;> omega
    · have k21 := Decidable.of_not_not k21
      rw [if_pos k21] at kO kP kN
      have hk1 := (kn_lt (B := B) (N := N) (q := q) (by omega)).1
      have hadv := tok_adv (B := B) hT.1 (show tK B N q ≠ 0 by omega)
      rw [h22, zI_add1]
      have f1 : fr (wEx lo) s (st_p (st_p s 77 22 (zI (out.length + cwt w + 1))) 77 23 (0 : Int32)) := (fr.refl.p (wEx_77 (by omega))).p (wEx_77 (by omega))
      have g1 : ∀ a k, (a ≠ 77 ∨ (k ≠ 22 ∧ k ≠ 23)) → st_g (st_p (st_p s 77 22 (zI (out.length + cwt w + 1))) 77 23 (0 : Int32)) a k = st_g s a k := fun a k hh => by rw [g_p, if_neg (by omega), g_p, if_neg (by omega)]
      have g122 : st_g (st_p (st_p s 77 22 (zI (out.length + cwt w + 1))) 77 23 (0 : Int32)) 77 22 = zI (out.length + cwt w + 1) := by rw [g_p_k (by omega), g_p_eq]
      have g123 : st_g (st_p (st_p s 77 22 (zI (out.length + cwt w + 1))) 77 23 (0 : Int32)) 77 23 = b2i false := g_p_eq _ _ _ _
      have hB1 : RB (st_p (st_p s 77 22 (zI (out.length + cwt w + 1))) 77 23 (0 : Int32)) B N := RB_fr (g1 _ _ (by omega)) (fun k => g1 _ _ (by omega)) hB
      have hW1 : RW (st_p (st_p s 77 22 (zI (out.length + cwt w + 1))) 77 23 (0 : Int32)) lo out w := RW_fr (g1 _ _ (by omega)) (g1 _ _ (by omega)) (fun k => g1 _ _ (by omega)) (fun k => g1 _ _ (by omega)) hW
      generalize st_p (st_p s 77 22 (zI (out.length + cwt w + 1))) 77 23 (0 : Int32) = s1' at f1 g1 g122 g123 hB1 hW1
      refine ct_goM (lo := lo) hB1 hE.2.1 (by rw [g1 _ _ (by omega)]; exact hT.2.1) (fun u hu hBu hTu => ?_)
      have fsu := f1.trans (hu.mono (wRk_wEx (lo := lo)))
      have hWu := RW_rk hu hW1
      have gu : ∀ k, k = 3 ∨ k = 14 ∨ k = 15 ∨ k = 21 → st_g u 77 k = st_g s 77 k := fun k hk => by rw [hu.g (by rcases hk with rfl | rfl | rfl | rfl <;> rfl), g1 _ _ (by omega)]
      have u3 : st_g u 77 3 = 0 := by rw [gu _ (by omega)]; exact h3
      refine ct_isSignR (c := 40) hbB hTu rfl (by omega) ?_
      rw [b2i_ne0]
      refine ⟨fun k40 => ?_, fun n40 => ?_⟩
      · have k40 : tG B N (tE B N q) = 40 := by simpa using k40
        rw [if_pos k40] at kO kP kN
        have hk3 := G_K (show tG B N (tE B N q) ≠ 0 by omega)
        have hadv2 := tok_adv (B := B) hTu.1 (show tK B N (tE B N q) ≠ 0 by omega)
        refine go_X12_operand_146 (ct_isGoodY u3 ⟨fun z => absurd z (by decide), fun _ => ct_isSignR (c := 40) hbB hTu rfl (by omega) ?_⟩)
        rw [decide_eq_true k40]
        refine ⟨fun z => absurd z (by decide), fun _ => ⟨fun z => absurd z (by decide), fun _ => ⟨fun z => absurd z (by decide), fun _ => ?_⟩⟩⟩
        refine ct_open (d := d + 1) (o := 15) (tst := tst) (sil := false) (Or.inr rfl) hBu hTu k40 u3 (by rw [gu _ (by omega)]; exact h14) (by rw [gu _ (by omega)]; exact h15) hCR hWu (by omega) (by rw [gu _ (by omega)]; exact h21) hdep (fun j h1 h2 => by rw [hu.g (wRk_ne (by omega)), g1 _ _ (by omega)]; exact htst j h1 h2) (by rw [cwt_c (by omega), hu.g rfl]; exact g122) (by rw [hu.g rfl]; exact g123) (fun hd t ht hRM t23 => ?_) (fun hd t ht t3 t4 t20 t19 => ?_)
        · refine kO true 0 _ t (by unfold opn; rw [if_pos hd]) (fsu.trans ht) hRM ?_ t23 (by omega)
          unfold RMb
          simp only [List.length_cons]
          omega
        · refine kN (if canB B N (tE B N (tE B N q)) then 2 else 1) (tS B N (tE B N (tE B N q))) t (w.length + 1) (lo + (wds out).length) (by unfold opn; rw [if_neg hd]) ?_ ?_ ((fsu.mono wEx_wEb).trans ht) t3 t4 t20 t19 (by omega) (by omega) (by omega)
          · split <;> omega
          · split <;> omega
      · have n40 : ¬ tG B N (tE B N q) = 40 := by simpa using n40
        rw [if_neg n40] at kO kP kN
        refine ct_wrong (f := 1) u3 hTu.2.2.2.1 (bad146 (by rw [g_p_k (by omega), g_p_eq]; decide) (kN 1 _ _ w.length (lo + (wds out).length) rfl (by omega) (by omega) (fsu.b) ?_ ?_ ?_ ?_ (by omega) (by omega) (by omega)))
        · rw [g_p_k (by omega), g_p_eq]
        · rw [g_p_eq]
        · rw [g_p_k (by omega), g_p_k (by omega)]; exact hWu.2.2.2.1
        · rw [g_p_k (by omega), g_p_k (by omega)]; exact hWu.2.1
  refine go_X12_operand_18 (ct_isGoodY h3 ⟨fun z => absurd z (by decide), fun _ => ?_⟩)
  rw [b2i_ne0]
  refine ⟨fun hf => h85 (fun z => by rw [hf] at z; cases z.1), fun hmn => ct_knownWord hN hT ?_⟩
  have hmn : mn = true := by simpa using hmn
  have e24 : (knI (kn B N q) = 24) ↔ kn B N q = 24 := knI_eq (n := 24) kn_le (by omega)
  have e6 : (zI nots = 6) ↔ nots = 6 := zI_eq (b := 6) (by omega) (by omega)
  rw [e24, e6]
  refine ⟨fun n24 => h85 (fun z => n24 z.2), fun k24 => ?_⟩
  have k24 := Decidable.of_not_not k24
  have hst : stO B N C R mn nots (q, out, w, tst, dep, sil) = (if nots = 6 then flt 2 (tS B N q) else .inl (some (mn, nots + 1), (tE B N q, out, 5 :: w, tst, dep, sil))) := by
    unfold stO; rw [if_pos ⟨hmn, k24⟩]
  rw [hst] at kO kP kN
  have hk1 := (kn_lt (B := B) (N := N) (q := q) (by omega)).1
  have hadv := tok_adv (B := B) hT.1 (show tK B N q ≠ 0 by omega)
  have hs' : st_g s 77 23 = b2i sil := by rcases hs with z | z; exact z; omega
  refine ⟨fun n6 => go_X12_operand_50 (ct_isGoodY h3 ⟨fun _ => ?_, fun z => absurd (by decide) z⟩), fun k6 => ct_wrong (f := 2) h3 hT.2.2.2.1 (bad50 (by rw [g_p_k (by omega), g_p_eq]; decide) ?_)⟩
  · rw [if_neg n6] at kO kP kN
    refine ct_waitsFor (o := 5) hW (by omega) (by omega) (fun t ht hWt => ?_)
    rw [g77 ht (by omega), h22, zI_add1]
    have ft : fr (wEx lo) s (st_p t 77 22 (zI (out.length + cwt w + 1))) := (ht.mono wWd_wEx).p (wEx_77 (by omega))
    have gt : ∀ a k, (a ≠ 77 ∨ k ≠ 22) → st_g (st_p t 77 22 (zI (out.length + cwt w + 1))) a k = st_g t a k := fun a k hh => by rw [g_p, if_neg (by omega)]
    have hBt : RB (st_p t 77 22 (zI (out.length + cwt w + 1))) B N := RB_fr (gt _ _ (by omega)) (fun k => gt _ _ (by omega)) (RB_wWd ht hB)
    refine ct_goM (lo := lo) hBt hE.2.1 (by rw [gt _ _ (by omega), g77 ht (by omega)]; exact hT.2.1) (fun u hu hBu hTu => ?_)
    have gu : ∀ k, k = 3 ∨ k = 14 ∨ k = 15 ∨ k = 21 ∨ k = 23 → st_g u 77 k = st_g s 77 k := fun k hk => by rw [hu.g (by rcases hk with rfl | rfl | rfl | rfl | rfl <;> rfl), gt _ _ (by omega), g77 ht (by omega)]
    rw [zI_add1]
    refine kO mn (nots + 1) (tE B N q, out, 5 :: w, tst, dep, sil) u rfl (ft.trans (hu.mono wRk_wEx)) ⟨hBu, hTu, by rw [gu _ (by omega)]; exact h3, by rw [gu _ (by omega)]; exact h14, by rw [gu _ (by omega)]; exact h15, hCR, RW_rk hu (RW_fr (gt _ _ (by omega)) (gt _ _ (by omega)) (fun k => gt _ _ (by omega)) (fun k => gt _ _ (by omega)) hWt), by rw [gu _ (by omega)]; exact h21, ?_, fun j h1 h2 => ?_, ?_⟩ ?_ (by rw [gu _ (by omega)]; exact hs') (by omega)
    · show dep = 1 + opns (5 :: w) ∧ dep ≤ 6
      rw [opns_n (by omega)]; exact hdep
    · rw [hu.g (wRk_ne (by omega)), gt _ _ (by omega), ht.g (wWd_ne (by omega) (by omega) (by omega))]; exact htst j h1 h2
    · rw [hu.g rfl, g_p_eq]
      show zI _ = zI (out.length + cwt (5 :: w))
      rw [cwt_c (by omega)]; rfl
    · unfold RMb
      simp only [List.length_cons]
      omega
  · have k6 := Decidable.of_not_not k6
    rw [if_pos k6] at kO kP kN
    refine kN 2 _ _ w.length (lo + (wds out).length) rfl (by omega) (by omega) (fr.refl.b) ?_ ?_ ?_ ?_ (by omega) (by omega) (by omega)
    · rw [g_p_k (by omega), g_p_eq]
    · rw [g_p_eq]
    · rw [g_p_k (by omega), g_p_k (by omega)]; exact s20
    · rw [g_p_k (by omega), g_p_k (by omega)]; exact s19
end REX7
