/-! ===== the reference's expression: a part, the whole of it ===== -/
section REX6
theorem RM_get {s : bi_St} {B : Nat → Nat} {N C R lo : Nat} {m : Mx} (h : RM s B N C R lo m) : RB s B N ∧ RT s B N m.1 ∧ st_g s 77 3 = 0 ∧ st_g s 77 14 = zI C ∧ st_g s 77 15 = zI R ∧ (C ≤ 4 ∧ R ≤ 6) ∧ RW s lo m.2.1 m.2.2.1 ∧ st_g s 77 21 = zI m.2.2.2.2.1 ∧ (m.2.2.2.2.1 = 1 + opns m.2.2.1 ∧ m.2.2.2.2.1 ≤ 6) ∧ (∀ j, 1 ≤ j → j ≤ m.2.2.2.2.1 → st_g s 82 j = b2i (m.2.2.2.1 j)) ∧ st_g s 77 22 = zI (m.2.1.length + cwt m.2.2.1) := h
theorem ct_part {X : bi_X} {d : Nat} {K : bi_St → Prop} {E : Nat → bi_St → Prop} {s : bi_St} {B : Nat → Nat} {N C R lo q dep : Nat} {out : Lp} {w : List Nat} {tst : Nat → Bool} {sil : Bool} (h : RM s B N C R lo (q, out, w, tst, dep, sil)) (hb : lo + (wds out).length ≤ 1380)
    (kY : ∀ q' o t, prt B N C R (q, out, w, tst, dep, sil) = gotO q' o (q, out, w, tst, dep, sil) → o.1 ≤ 3 → fr (wEx lo) s t → RM t B N C R lo (q', out ++ [o], w, tst, dep, sil) → st_g t 77 23 = st_g s 77 23 → (tK B N q = 2 → ¬ 4 < tL B N q) → q < q' → K t)
    (kN : ∀ f p t top, prt B N C R (q, out, w, tst, dep, sil) = flt f p → 1 ≤ f → f ≤ 3 → fr (wEb lo) s t → st_g t 77 3 = zI f → st_g t 77 4 = zI p → st_g t 77 20 = zI w.length → st_g t 77 19 = zI top → lo ≤ top → top ≤ lo + (wds out).length + 2 → K t) : cV X (d + 5) 189 [.ref 77] s K E := by
  obtain ⟨hB, hT, h3, h14, h15, hCR, hW, h21, hdep, htst, h22⟩ := RM_get h
  simp only at hT hW h21 hdep htst h22
  have hN := hB.1
  have hE := tE_le (B := B) hT.1
  have hS := tS_le (B := B) hT.1
  have hr4 := rK_le (B := B) (N := N) (q := q)
  have hl := tL_lt (B := B) hT.1
  have e2 : (zI (rK B N q) = 2) ↔ tK B N q = 2 := by rw [← rK_2]; exact zI_eq (b := 2) (by omega) (by omega)
  have e1 : (zI (rK B N q) = 1) ↔ tK B N q = 1 := by rw [← rK_1]; exact zI_eq (b := 1) (by omega) (by omega)
  obtain ⟨n, hn⟩ : ∃ n, n = lo + (wds out).length := ⟨_, rfl⟩
  rw [← hn] at hb
  -- the good end: the words are out, the token at q1 is gone by
  have good : ∀ (F : bi_St → Int32) (u : bi_St) (q1 : Nat) (o : Nat × Nat), F (st_p (st_p u 80 n (zI (rop o.1))) 77 19 (zI (n + 1))) = zI (rarg o) → fr (wEx lo) s u → RB u B N → RT u B N q1 → q ≤ q1 → tK B N q1 ≠ 0 → st_g u 77 3 = 0 → (∀ k, k = 14 ∨ k = 15 ∨ k = 21 ∨ k = 23 → st_g u 77 k = st_g s 77 k) → (∀ k, st_g u 82 k = st_g s 82 k) → RW u lo out w → st_g u 77 22 = zI (out.length + cwt w + 1) → o.1 ≤ 3 → prt B N C R (q, out, w, tst, dep, sil) = gotO (tE B N q1) o (q, out, w, tst, dep, sil) → (tK B N q = 2 → ¬ 4 < tL B N q) →
      cV X (d + 4) 184 [.ref 77, .int (zI (rop o.1))] u (fun s13 => cV X (d + 4) 184 [.ref 77, .int (F s13)] s13 (fun s14 => at_X12_part_141 X (d + 5) K E s14) (fun _ _ => False)) (fun _ _ => False) := by
    intro F u q1 o hF hu hBu hTu hqq hk0 u3 uk u82 hWu u22 ho hprt hlong
    have hE1 := tE_le (B := B) hTu.1
    have hadv := tok_adv (B := B) hTu.1 hk0
    have hW2 := RW_two ho hWu
    have u19 : st_g u 77 19 = zI n := by rw [hn]; exact hWu.2.1
    refine ct_puts u19 (by omega) ?_
    rw [hF]
    refine ct_puts (n := n + 1) (g_p_eq _ _ _ _) (by omega) ?_
    rw [← hn] at hW2
    have f2 : fr (wEx lo) s (st_p (st_p (st_p (st_p u 80 n (zI (rop o.1))) 77 19 (zI (n + 1))) 80 (n + 1) (zI (rarg o))) 77 19 (zI (n + 1 + 1))) := (((hu.p (wWd_wEx _ _ (w80 (by omega)))).p (wEx_77 (by omega))).p (wWd_wEx _ _ (w80 (by omega)))).p (wEx_77 (by omega))
    have g : ∀ a k, a ≠ 80 → (a ≠ 77 ∨ k ≠ 19) → st_g (st_p (st_p (st_p (st_p u 80 n (zI (rop o.1))) 77 19 (zI (n + 1))) 80 (n + 1) (zI (rarg o))) 77 19 (zI (n + 1 + 1))) a k = st_g u a k := fun a k h1 h2 => by
      rw [g_p, if_neg (by omega), g_p_a h1, g_p, if_neg (by omega), g_p_a h1]
    have hB2 : RB (st_p (st_p (st_p (st_p u 80 n (zI (rop o.1))) 77 19 (zI (n + 1))) 80 (n + 1) (zI (rarg o))) 77 19 (zI (n + 1 + 1))) B N := RB_fr (g _ _ (by omega) (by omega)) (fun k => g _ _ (by omega) (by omega)) hBu
    generalize st_p (st_p (st_p (st_p u 80 n (zI (rop o.1))) 77 19 (zI (n + 1))) 80 (n + 1) (zI (rarg o))) 77 19 (zI (n + 1 + 1)) = v at f2 g hB2 hW2
    refine go_X12_part_141 (ct_isGoodY (by rw [g _ _ (by omega) (by omega)]; exact u3) ⟨fun z => absurd z (by decide), fun _ => ct_goM (lo := lo) hB2 hE1.2.1 (by rw [g _ _ (by omega) (by omega)]; exact hTu.2.1) (fun x hx hBx hTx => go_X12_part_152 (kY (tE B N q1) o x hprt ho (f2.trans (hx.mono wRk_wEx)) ⟨hBx, hTx, ?_, ?_, ?_, hCR, RW_rk hx hW2, ?_, hdep, fun j h1 h2 => ?_, ?_⟩ ?_ hlong (by omega)))⟩)
    · rw [hx.g rfl, g _ _ (by omega) (by omega)]; exact u3
    · rw [hx.g rfl, g _ _ (by omega) (by omega), uk _ (by omega)]; exact h14
    · rw [hx.g rfl, g _ _ (by omega) (by omega), uk _ (by omega)]; exact h15
    · rw [hx.g rfl, g _ _ (by omega) (by omega), uk _ (by omega)]; exact h21
    · rw [hx.g (wRk_ne (by omega)), g _ _ (by omega) (by omega), u82]; exact htst j h1 h2
    · rw [hx.g rfl, g _ _ (by omega) (by omega), u22]
      show zI _ = zI ((out ++ [o]).length + cwt w)
      rw [List.length_append]; simp only [List.length_cons, List.length_nil]; congr 1; omega
    · rw [hx.g rfl, g _ _ (by omega) (by omega), uk _ (by omega)]
  -- the bad end: two words more, nothing is gone by
  have bad : ∀ (u : bi_St) (f p : Nat) (a : Int32) (b : bi_St → Int32), fr (wEb lo) s u → 1 ≤ f → f ≤ 3 → st_g u 77 3 = zI f → st_g u 77 4 = zI p → st_g u 77 20 = zI w.length → st_g u 77 19 = zI n → prt B N C R (q, out, w, tst, dep, sil) = flt f p →
      cV X (d + 4) 184 [.ref 77, .int a] u (fun s13 => cV X (d + 4) 184 [.ref 77, .int (b s13)] s13 (fun s14 => at_X12_part_141 X (d + 5) K E s14) (fun _ _ => False)) (fun _ _ => False) := by
    intro u f p a b hu f1 f3 u3 u4 u20 u19 hprt
    have hf0 : ¬ zI f = 0 := fun z => by have := (zI_eq (b := 0) (by omega) (by omega)).mp z; omega
    refine ct_puts u19 (by omega) (ct_puts (n := n + 1) (g_p_eq _ _ _ _) (by omega) ?_)
    have g : ∀ k, k ≠ 19 → st_g (st_p (st_p (st_p (st_p u 80 n a) 77 19 (zI (n + 1))) 80 (n + 1) (b (st_p (st_p u 80 n a) 77 19 (zI (n + 1))))) 77 19 (zI (n + 1 + 1))) 77 k = st_g u 77 k := fun k hk => by rw [g_p_k hk, g_p_a (by omega), g_p_k hk, g_p_a (by omega)]
    refine go_X12_part_141 (ct_isGoodN (by rw [g _ (by omega), u3]; exact hf0) ⟨fun _ => go_X12_part_152 (kN f p _ (n + 1 + 1) hprt f1 f3 ((((hu.p (wWd_wEb _ _ (w80 (by omega)))).p (wEb_77 (by omega))).p (wWd_wEb _ _ (w80 (by omega)))).p (wEb_77 (by omega))) ?_ ?_ ?_ (g_p_eq _ _ _ _) (by omega) (by omega)), fun z => absurd rfl z⟩)
    · rw [g _ (by omega)]; exact u3
    · rw [g _ (by omega)]; exact u4
    · rw [g _ (by omega)]; exact u20
  have s19 : st_g s 77 19 = zI n := by rw [hn]; exact hW.2.1
  have s20 := hW.2.2.2.1
  refine en_X12_part (ct_isGoodY h3 ⟨fun _ => ?_, fun z => absurd (by decide) z⟩)
  rw [hT.2.2.1, e2, e1]
  refine ⟨fun n2 => ⟨fun n1 => ?_, fun k1 => ?_⟩, fun k2 => ?_⟩
  · -- neither a number nor a word
    have hprt : prt B N C R (q, out, w, tst, dep, sil) = flt 1 (tS B N q) := by unfold prt; rw [if_neg n2, if_neg n1]
    refine ct_wrong (f := 1) h3 hT.2.2.2.1 (go_X12_part_141 (ct_isGoodN (by rw [g_p_k (by omega), g_p_eq]; decide) ⟨fun _ => go_X12_part_152 (kN 1 _ _ n hprt (by omega) (by omega) (fr.refl.b) ?_ ?_ ?_ ?_ (by omega) (by omega)), fun z => absurd rfl z⟩))
    · rw [g_p_k (by omega), g_p_eq]
    · rw [g_p_eq]
    · rw [g_p_k (by omega), g_p_k (by omega)]; exact s20
    · rw [g_p_k (by omega), g_p_k (by omega)]; exact s19
  · have k1 := Decidable.of_not_not k1
    refine ct_knownWord hN hT ?_
    have e20 : (knI (kn B N q) = 20) ↔ kn B N q = 20 := knI_eq (n := 20) kn_le (by omega)
    rw [e20, h22, zI_add1]
    have f1 : fr (wEx lo) s (st_p s 77 22 (zI (out.length + cwt w + 1))) := fr.refl.p (wEx_77 (by omega))
    have g1 : ∀ a k, (a ≠ 77 ∨ k ≠ 22) → st_g (st_p s 77 22 (zI (out.length + cwt w + 1))) a k = st_g s a k := fun a k hh => by rw [g_p, if_neg (by omega)]
    have g122 : st_g (st_p s 77 22 (zI (out.length + cwt w + 1))) 77 22 = zI (out.length + cwt w + 1) := g_p_eq _ _ _ _
    have hT1 : RT (st_p s 77 22 (zI (out.length + cwt w + 1))) B N q := by
      obtain ⟨a1, a2, a3, a4, a5, a6, a7, a8⟩ := hT
      exact ⟨a1, by rw [g1 _ _ (by omega)]; exact a2, by rw [g1 _ _ (by omega)]; exact a3, by rw [g1 _ _ (by omega)]; exact a4, by rw [g1 _ _ (by omega)]; exact a5, by rw [g1 _ _ (by omega)]; exact a6, fun z => by rw [g1 _ _ (by omega)]; exact a7 z, a8⟩
    have hB1 : RB (st_p s 77 22 (zI (out.length + cwt w + 1))) B N := RB_fr (g1 _ _ (by omega)) (fun k => g1 _ _ (by omega)) hB
    have hW1 : RW (st_p s 77 22 (zI (out.length + cwt w + 1))) lo out w := RW_fr (g1 _ _ (by omega)) (g1 _ _ (by omega)) (fun k => g1 _ _ (by omega)) (fun k => g1 _ _ (by omega)) hW
    generalize st_p s 77 22 (zI (out.length + cwt w + 1)) = s1' at f1 g1 g122 hT1 hB1 hW1
    have hbB : ∀ i, i < N → B i < 256 := fun i hi => (hB.2.2 i hi).1
    refine ⟨fun n20 => ct_columnWord hN hT1 hCR.1 (by rw [g1 _ _ (by omega)]; exact h14) k1 hbB ?_, fun k20 => ?_⟩
    · have hp0 : prt B N C R (q, out, w, tst, dep, sil) = (if kn B N q = 19 then gotO (tE B N q) (2, 0) (q, out, w, tst, dep, sil) else if tL B N q = 1 ∧ B (tS B N q) - 97 < C then gotO (tE B N q) (1, B (tS B N q) - 97) (q, out, w, tst, dep, sil) else flt 3 (tS B N q)) := by
        unfold prt; rw [if_neg n2, if_pos k1, if_neg n20]
      by_cases k19 : kn B N q = 19
      · rw [if_pos k19] at hp0 ⊢
        refine ⟨fun _ => go_X12_part_123 ?_, fun z => absurd (by decide) z⟩
        have := good (fun _ => zI (rarg (2, 0))) s1' q (2, 0) rfl f1 hB1 hT1 (Nat.le_refl _) (by omega) (by rw [g1 _ _ (by omega)]; exact h3) (fun k hk => g1 _ _ (by omega)) (fun k => g1 _ _ (by omega)) hW1 g122 (by show 2 ≤ 3; omega) hp0 (fun z => absurd z n2)
        exact cV.mono this (fun a ha => cV.mono ha (fun b hb' => go_X12_part_133 hb') (fun _ _ z => z)) (fun _ _ z => z)
      · rw [if_neg k19] at hp0 ⊢
        by_cases hcol : tL B N q = 1 ∧ B (tS B N q) - 97 < C
        · rw [if_pos hcol] at hp0 ⊢
          refine ⟨fun _ => go_X12_part_123 ?_, fun z => absurd (zI_m1 (by omega)) z⟩
          have := good (fun _ => zI (rarg (1, B (tS B N q) - 97))) s1' q (1, B (tS B N q) - 97) rfl f1 hB1 hT1 (Nat.le_refl _) (by omega) (by rw [g1 _ _ (by omega)]; exact h3) (fun k hk => g1 _ _ (by omega)) (fun k => g1 _ _ (by omega)) hW1 g122 (by show 1 ≤ 3; omega) hp0 (fun z => absurd z n2)
          exact cV.mono this (fun a ha => cV.mono ha (fun b hb' => go_X12_part_133 hb') (fun _ _ z => z)) (fun _ _ z => z)
        · rw [if_neg hcol] at hp0 ⊢
          refine ⟨fun z => absurd rfl z, fun _ => ct_wrong (f := 3) (by rw [g1 _ _ (by omega)]; exact h3) hT1.2.2.2.1 (go_X12_part_123 ?_)⟩
          have := bad (st_p (st_p s1' 77 3 (zI 3)) 77 4 (zI (tS B N q))) 3 (tS B N q) 2 (fun _ => -1) (f1.b) (by omega) (by omega) (by rw [g_p_k (by omega), g_p_eq]) (g_p_eq _ _ _ _) (by rw [g_p_k (by omega), g_p_k (by omega), g1 _ _ (by omega)]; exact s20) (by rw [g_p_k (by omega), g_p_k (by omega), g1 _ _ (by omega)]; exact s19) hp0
          exact cV.mono this (fun a ha => cV.mono ha (fun b hb' => go_X12_part_133 hb') (fun _ _ z => z)) (fun _ _ z => z)
    · have k20 := Decidable.of_not_not k20
      have hp0 : prt B N C R (q, out, w, tst, dep, sil) = (if tK B N (tE B N q) ≠ 2 then flt 1 (tS B N (tE B N q)) else if 4 < tL B N (tE B N q) then flt 2 (tS B N (tE B N q)) else if R ≤ tV B N (tE B N q) then flt 3 (tS B N (tE B N q)) else gotO (tE B N (tE B N q)) (3, tV B N (tE B N q)) (q, out, w, tst, dep, sil)) := by
        unfold prt; rw [if_neg n2, if_pos k1, if_pos k20]
      refine ct_goM (lo := lo) hB1 hE.2.1 hT1.2.1 (fun u hu hBu hTu => ?_)
      have fsu := f1.trans (hu.mono (wRk_wEx (lo := lo)))
      have hWu := RW_rk hu hW1
      have u3 : st_g u 77 3 = 0 := by rw [hu.g rfl, g1 _ _ (by omega)]; exact h3
      have u19 : st_g u 77 19 = zI n := by rw [hn]; exact hWu.2.1
      have u20 := hWu.2.2.2.1
      have hr4' := rK_le (B := B) (N := N) (q := tE B N q)
      have hl' := tL_lt (B := B) hTu.1
      have e2' : (zI (rK B N (tE B N q)) = 2) ↔ tK B N (tE B N q) = 2 := by rw [← rK_2]; exact zI_eq (b := 2) (by omega) (by omega)
      have e4' : (zI (tL B N (tE B N q)) ≤ 4) ↔ tL B N (tE B N q) ≤ 4 := zI_le (b := 4) (by omega) (by omega)
      have u15 : st_g u 77 15 = zI R := by rw [hu.g rfl, g1 _ _ (by omega)]; exact h15
      refine en_X12_roleHere (en_X12_oneHere (ct_isGoodY u3 ⟨fun _ => ?_, fun z => absurd (by decide) z⟩))
      rw [hTu.2.2.1, e2', hTu.2.2.2.2.1, e4', u15]
      have wr : ∀ f, 1 ≤ f → f ≤ 3 → prt B N C R (q, out, w, tst, dep, sil) = flt f (tS B N (tE B N q)) → cV X (d + 2) 176 [.ref 77, .int (zI f)] u (fun (s2 : bi_St) => cV X (d + 4) 184 [.ref 77, .int (12 : Int32)] s2 (fun (s8 : bi_St) => cV X (d + 4) 184 [.ref 77, .int (st_g s2 77 11)] s8 (fun (s9 : bi_St) => at_X12_part_133 X (d + 5) K E s9) (fun _ _ => False)) (fun _ _ => False)) (fun _ _ => False) := fun f f1' f3' hp => by
        refine ct_wrong u3 hTu.2.2.2.1 ?_
        have := bad (st_p (st_p u 77 3 (zI f)) 77 4 (zI (tS B N (tE B N q)))) f (tS B N (tE B N q)) 12 (fun _ => st_g (st_p (st_p u 77 3 (zI f)) 77 4 (zI (tS B N (tE B N q)))) 77 11) (fsu.b) f1' f3' (by rw [g_p_k (by omega), g_p_eq]) (g_p_eq _ _ _ _) (by rw [g_p_k (by omega), g_p_k (by omega)]; exact u20) (by rw [g_p_k (by omega), g_p_k (by omega)]; exact u19) hp
        exact cV.mono this (fun a ha => cV.mono ha (fun b hb' => go_X12_part_133 hb') (fun _ _ z => z)) (fun _ _ z => z)
      refine ⟨fun k2' => ⟨fun l4 => ?_, fun l4 => wr 2 (by omega) (by omega) (by rw [hp0, if_neg (fun z => z k2'), if_pos (by omega)])⟩, fun k2' => wr 1 (by omega) (by omega) (by rw [hp0, if_pos k2'])⟩
      have hv := tV_lt k2'
      have u11 : st_g u 77 11 = zI (tV B N (tE B N q)) := by rw [hTu.2.2.2.2.2.1, if_pos k2']
      rw [u11, zI_lt (by omega) (by omega)]
      refine ⟨fun hlt => ?_, fun hge => wr 3 (by omega) (by omega) (by rw [hp0, if_neg (fun z => z k2'), if_neg (by omega), if_pos (by omega)])⟩
      have := good (fun _ => zI (rarg (3, tV B N (tE B N q)))) u (tE B N q) (3, tV B N (tE B N q)) rfl fsu hBu hTu hE.1 (by omega) u3 (fun k hk => by rw [hu.g (by rcases hk with rfl | rfl | rfl | rfl <;> rfl), g1 _ _ (by omega)]) (fun k => by rw [hu.g (wRk_ne (by omega)), g1 _ _ (by omega)]) hWu (by rw [hu.g rfl]; exact g122) (by show 3 ≤ 3; omega) (by rw [hp0, if_neg (fun z => z k2'), if_neg (by omega), if_neg (by omega)]) (fun z => absurd z n2)
      exact cV.mono this (fun a ha => cV.mono ha (fun b hb' => go_X12_part_133 hb') (fun _ _ z => z)) (fun _ _ z => z)
  · have k2 := Decidable.of_not_not k2
    have e4 : (zI (tL B N q) ≤ 4) ↔ tL B N q ≤ 4 := zI_le (b := 4) (by omega) (by omega)
    have hv := tV_lt k2
    have s11 : st_g s 77 11 = zI (tV B N q) := by rw [hT.2.2.2.2.2.1, if_pos k2]
    rw [hT.2.2.2.2.1, e4]
    refine ⟨fun l4 => go_X12_part_29 ?_, fun l4 => ct_wrong (f := 2) h3 hT.2.2.2.1 (go_X12_part_29 ?_)⟩
    · have hp0 : prt B N C R (q, out, w, tst, dep, sil) = gotO (tE B N q) (0, tV B N q) (q, out, w, tst, dep, sil) := by unfold prt; rw [if_pos k2, if_neg (show ¬ 4 < tL B N (q, out, w, tst, dep, sil).1 from by show ¬ 4 < tL B N q; omega)]
      rw [h22, zI_add1]
      have g1 : ∀ a k, (a ≠ 77 ∨ k ≠ 22) → st_g (st_p s 77 22 (zI (out.length + cwt w + 1))) a k = st_g s a k := fun a k hh => by rw [g_p, if_neg (by omega)]
      have hT1 : RT (st_p s 77 22 (zI (out.length + cwt w + 1))) B N q := by
        obtain ⟨a1, a2, a3, a4, a5, a6, a7, a8⟩ := hT
        exact ⟨a1, by rw [g1 _ _ (by omega)]; exact a2, by rw [g1 _ _ (by omega)]; exact a3, by rw [g1 _ _ (by omega)]; exact a4, by rw [g1 _ _ (by omega)]; exact a5, by rw [g1 _ _ (by omega)]; exact a6, fun z => by rw [g1 _ _ (by omega)]; exact a7 z, a8⟩
      exact good (fun s15 => st_g s15 77 11) (st_p s 77 22 (zI (out.length + cwt w + 1))) q (0, tV B N q) (by show st_g (st_p (st_p (st_p s 77 22 (zI (out.length + cwt w + 1))) 80 n (zI (rop 0))) 77 19 (zI (n + 1))) 77 11 = zI (tV B N q); rw [g_p_k (by omega), g_p_a (by omega), g_p_k (by omega)]; exact s11) (fr.refl.p (wEx_77 (by omega))) (RB_fr (g1 _ _ (by omega)) (fun k => g1 _ _ (by omega)) hB) hT1 (Nat.le_refl _) (by omega) (by rw [g1 _ _ (by omega)]; exact h3) (fun k hk => g1 _ _ (by omega)) (fun k => g1 _ _ (by omega)) (RW_fr (g1 _ _ (by omega)) (g1 _ _ (by omega)) (fun k => g1 _ _ (by omega)) (fun k => g1 _ _ (by omega)) hW) (g_p_eq _ _ _ _) (by show 0 ≤ 3; omega) hp0 (fun _ => by omega)
    · have hp0 : prt B N C R (q, out, w, tst, dep, sil) = flt 2 (tS B N q) := by unfold prt; rw [if_pos k2, if_pos (show 4 < tL B N (q, out, w, tst, dep, sil).1 from by show 4 < tL B N q; omega)]
      exact bad _ 2 (tS B N q) 1 (fun s15 => st_g s15 77 11) (fr.refl.b.p (wEb_77 (by omega))) (by omega) (by omega) (by rw [g_p_k (by omega), g_p_k (by omega), g_p_eq]) (by rw [g_p_k (by omega), g_p_eq]) (by rw [g_p_k (by omega), g_p_k (by omega), g_p_k (by omega)]; exact s20) (by rw [g_p_k (by omega), g_p_k (by omega), g_p_k (by omega)]; exact s19) hp0
end REX6
