/-! ===== the reference's expression: pushing, closing, ending ===== -/
section REX8
theorem RT_eq {s t : bi_St} {B : Nat → Nat} {N q : Nat} (h : ∀ k, 7 ≤ k → k ≤ 12 → st_g t 77 k = st_g s 77 k) (hl : st_gl t 77 13 = st_gl s 77 13) (hT : RT s B N q) : RT t B N q := by
  obtain ⟨a1, a2, a3, a4, a5, a6, a7, a8⟩ := hT
  exact ⟨a1, by rw [h _ (by omega) (by omega)]; exact a2, by rw [h _ (by omega) (by omega)]; exact a3, by rw [h _ (by omega) (by omega)]; exact a4, by rw [h _ (by omega) (by omega)]; exact a5, by rw [h _ (by omega) (by omega)]; exact a6, fun z => by rw [h _ (by omega) (by omega)]; exact a7 z, fun z => by rw [hl]; exact a8 z⟩
theorem ct_dropsM {X : bi_X} {d : Nat} {K : bi_St → Prop} {E : Nat → bi_St → Prop} {s : bi_St} {B : Nat → Nat} {N C R lo q dep kk : Nat} {out : Lp} {w : List Nat} {tst : Nat → Bool} {sil : Bool} (h : RM s B N C R lo (q, out, w, tst, dep, sil)) (hb : RMb lo 1 (q, out, w, tst, dep, sil)) (hk : kk ≤ 6)
    (k : ∀ t, fr (wEx lo) s t → RM t B N C R lo (q, (pop kk out w).1, (pop kk out w).2, tst, dep, sil) → RMb lo 1 (q, (pop kk out w).1, (pop kk out w).2, tst, dep, sil) → st_g t 77 23 = st_g s 77 23 → K t) : cV X (d + 1) 187 [.ref 77, .int (zI kk)] s K E := by
  obtain ⟨hB, hT, h3, h14, h15, hCR, hW, h21, hdep, htst, h22⟩ := RM_get h
  simp only at hT hW h21 hdep htst h22
  have hN := hB.1
  have hqN := hT.1
  unfold RMb at hb
  simp only at hb
  refine (ct_drops (d := d) hk w out s hW (by omega) (by omega) (fun t ht hWt => ?_)).1
  obtain ⟨a1, a2, a3, a4, a5, a6⟩ := pop_cwt (k := kk) w out hW.1
  refine k t (ht.mono wWd_wEx) ⟨RB_wWd ht hB, RT_wWd ht hT, by rw [g77 ht (by omega)]; exact h3, by rw [g77 ht (by omega)]; exact h14, by rw [g77 ht (by omega)]; exact h15, hCR, hWt, by rw [g77 ht (by omega)]; exact h21, ?_, fun j h1 h2 => ?_, ?_⟩ ?_ (g77 ht (by omega))
  · show dep = 1 + opns (pop kk out w).2 ∧ dep ≤ 6
    unfold opns at hdep ⊢
    rw [a6]; exact hdep
  · rw [ht.g (wWd_ne (by omega) (by omega) (by omega))]; exact htst j h1 h2
  · rw [g77 ht (by omega)]
    show _ = zI ((pop kk out w).1.length + cwt (pop kk out w).2)
    rw [a1]; exact h22
  · unfold RMb
    simp only
    omega
theorem ct_pshC {X : bi_X} {d : Nat} {F : bi_St → Prop} {s t u : bi_St} {B : Nat → Nat} {N C R lo q dep o : Nat} {out : Lp} {w : List Nat} {tst tst' : Nat → Bool} {sil : Bool} (h : RM s B N C R lo (q, out, w, tst, dep, sil)) (hb : RMb lo 1 (q, out, w, tst, dep, sil)) (ho : 6 ≤ o ∧ o ≤ 13) (h0 : tK B N q ≠ 0) (ht : fr (wWd lo) s t) (hWt : RW t lo out (o :: w)) (hu : fr (wEx lo) t u) (hg : ∀ a k, a ≠ 82 → (a ≠ 77 ∨ k ≠ 22) → st_g u a k = st_g t a k) (h82 : ∀ j, 1 ≤ j → j ≤ dep → st_g u 82 j = b2i (tst' j)) (h22 : st_g u 77 22 = zI (out.length + cwt w + 1))
    (k : ∀ v, fr (wEx lo) s v → RM v B N C R lo (tE B N q, out, o :: w, tst', dep, sil) → RMb lo 0 (tE B N q, out, o :: w, tst', dep, sil) → st_g v 77 23 = st_g s 77 23 → F v) : cV X (d + 1) 172 [.ref 77] u F (fun _ _ => False) := by
  obtain ⟨hB, hT, h3, h14, h15, hCR, hW, h21, hdep, htst, _⟩ := RM_get h
  simp only at hT hW h21 hdep htst
  have hN := hB.1
  have hE := tE_le (B := B) hT.1
  have hadv := tok_adv (B := B) hT.1 h0
  unfold RMb at hb
  simp only at hb
  have hBu : RB u B N := RB_fr (hg _ _ (by omega) (by omega)) (fun k => hg _ _ (by omega) (by omega)) (RB_wWd ht hB)
  refine ct_goM (lo := lo) hBu hE.2.1 (by rw [hg _ _ (by omega) (by omega), g77 ht (by omega)]; exact hT.2.1) (fun v hv hBv hTv => ?_)
  have gv : ∀ k, (k = 3 ∨ k = 14 ∨ k = 15 ∨ k = 21 ∨ k = 23) → st_g v 77 k = st_g s 77 k := fun k hk => by rw [hv.g (by rcases hk with rfl | rfl | rfl | rfl | rfl <;> rfl), hg _ _ (by omega) (by omega), g77 ht (by omega)]
  refine k v ((ht.mono wWd_wEx).trans (hu.trans (hv.mono wRk_wEx))) ⟨hBv, hTv, by rw [gv _ (by omega)]; exact h3, by rw [gv _ (by omega)]; exact h14, by rw [gv _ (by omega)]; exact h15, hCR, RW_rk hv (RW_fr (hg _ _ (by omega) (by omega)) (hg _ _ (by omega) (by omega)) (fun k => hg _ _ (by omega) (by omega)) (fun k => hg _ _ (by omega) (by omega)) hWt), by rw [gv _ (by omega)]; exact h21, ?_, fun j h1 h2 => ?_, ?_⟩ ?_ (gv _ (by omega))
  · show dep = 1 + opns (o :: w) ∧ dep ≤ 6
    rw [opns_n (by omega)]; exact hdep
  · rw [hv.g (wRk_ne (by omega))]; exact h82 j h1 h2
  · rw [hv.g rfl, h22]
    show zI _ = zI (out.length + cwt (o :: w))
    rw [cwt_c (by omega)]; rfl
  · unfold RMb
    simp only [List.length_cons]
    omega
theorem ct_pshT {X : bi_X} {d : Nat} {F : bi_St → Prop} {s : bi_St} {B : Nat → Nat} {N C R lo q dep o : Nat} {out : Lp} {w : List Nat} {tst : Nat → Bool} {sil : Bool} (tv : Bool) (h : RM s B N C R lo (q, out, w, tst, dep, sil)) (hb : RMb lo 1 (q, out, w, tst, dep, sil)) (ho : 6 ≤ o ∧ o ≤ 13) (h0 : tK B N q ≠ 0)
    (k : ∀ v, fr (wEx lo) s v → RM v B N C R lo (tE B N q, out, o :: w, va_up tst dep tv, dep, sil) → RMb lo 0 (tE B N q, out, o :: w, va_up tst dep tv, dep, sil) → st_g v 77 23 = st_g s 77 23 → F v) :
    cV X (d + 1) 188 [.ref 77, .int (zI (wa o))] s (fun s11 => bi_in (st_g s11 77 21) 9 = true ∧ (cV X (d + 1) 172 [.ref 77] (st_p (st_p s11 82 ((st_g s11 77 21)).toNatClampNeg (bi_nar 15 (b2i tv))) 77 22 ((st_g (st_p s11 82 ((st_g s11 77 21)).toNatClampNeg (bi_nar 15 (b2i tv))) 77 22) + (1 : Int32))) F (fun _ _ => False))) (fun _ _ => False) := by
  obtain ⟨hB, hT, h3, h14, h15, hCR, hW, h21, hdep, htst, h22⟩ := RM_get h
  simp only at hT hW h21 hdep htst h22
  have hN := hB.1
  have hqN := hT.1
  have hb' := hb
  unfold RMb at hb'
  simp only at hb'
  refine ct_waitsFor hW (by omega) (by omega) (fun t ht hWt => ?_)
  have t21 : st_g t 77 21 = zI dep := by rw [g77 ht (by omega)]; exact h21
  have t22 : st_g t 77 22 = zI (out.length + cwt w) := by rw [g77 ht (by omega)]; exact h22
  have en : bi_nar 15 (b2i tv) = b2i tv := by cases tv <;> rfl
  rw [t21, zI_nat (by omega), g_p_a (by omega), t22, zI_add1, en]
  refine ⟨in_zI (by omega) (by omega), ct_pshC (t := t) (tst' := va_up tst dep tv) h hb ho h0 ht hWt ((fr.refl.p wEx_82).p (wEx_77 (by omega))) (fun a k h1 h2 => by rw [g_p, if_neg (by omega), g_p_a h1]) (fun j h1 h2 => ?_) (g_p_eq _ _ _ _) k⟩
  rw [g_p_a (by omega), va_upe]
  by_cases hj : j = dep
  · rw [if_pos hj, hj, g_p_eq]
  · rw [if_neg hj, g_p_k hj, ht.g (wWd_ne (by omega) (by omega) (by omega))]; exact htst j h1 h2
theorem ct_pshN {X : bi_X} {d : Nat} {F : bi_St → Prop} {s : bi_St} {B : Nat → Nat} {N C R lo q dep o : Nat} {out : Lp} {w : List Nat} {tst : Nat → Bool} {sil : Bool} (h : RM s B N C R lo (q, out, w, tst, dep, sil)) (hb : RMb lo 1 (q, out, w, tst, dep, sil)) (ho : 6 ≤ o ∧ o ≤ 13) (h0 : tK B N q ≠ 0)
    (k : ∀ v, fr (wEx lo) s v → RM v B N C R lo (tE B N q, out, o :: w, tst, dep, sil) → RMb lo 0 (tE B N q, out, o :: w, tst, dep, sil) → st_g v 77 23 = st_g s 77 23 → F v) :
    cV X (d + 1) 188 [.ref 77, .int (zI (wa o))] s (fun s11 => cV X (d + 1) 172 [.ref 77] (st_p s11 77 22 ((st_g s11 77 22) + (1 : Int32))) F (fun _ _ => False)) (fun _ _ => False) := by
  obtain ⟨hB, hT, h3, h14, h15, hCR, hW, h21, hdep, htst, h22⟩ := RM_get h
  simp only at hT hW h21 hdep htst h22
  have hN := hB.1
  have hqN := hT.1
  have hb' := hb
  unfold RMb at hb'
  simp only at hb'
  refine ct_waitsFor hW (by omega) (by omega) (fun t ht hWt => ?_)
  have t22 : st_g t 77 22 = zI (out.length + cwt w) := by rw [g77 ht (by omega)]; exact h22
  rw [t22, zI_add1]
  refine ct_pshC (t := t) (tst' := tst) h hb ho h0 ht hWt (fr.refl.p (wEx_77 (by omega))) (fun a k h1 h2 => by rw [g_p, if_neg (by omega)]) (fun j h1 h2 => ?_) (g_p_eq _ _ _ _) k
  rw [g_p_a (by omega), ht.g (wWd_ne (by omega) (by omega) (by omega))]; exact htst j h1 h2
theorem pop_opn : ∀ (w : List Nat) (out : Lp), WOk w → hasO w = true → ∃ o w', (pop 0 out w).2 = o :: w' ∧ 14 ≤ o := by
  intro w
  induction w with
  | nil => intro out h hO; cases hO
  | cons o w ih =>
    intro out h hO
    rw [pop]
    by_cases h14 : 14 ≤ o
    · rw [if_pos h14]; exact ⟨o, w, rfl, h14⟩
    · rw [if_neg h14, if_pos (Nat.zero_le _)]
      refine ih _ (fun x hx => h x (by simp [hx])) ?_
      unfold hasO at hO ⊢
      rw [List.any_cons, ble_f (by omega), Bool.false_or] at hO; exact hO
theorem pop_nil : ∀ (w : List Nat) (out : Lp), opns w = 0 → (pop 0 out w).2 = [] := by
  intro w
  induction w with
  | nil => intro out _; rfl
  | cons o w ih =>
    intro out h
    by_cases h14 : 14 ≤ o
    · rw [opns_c h14] at h; omega
    · rw [opns_n (by omega)] at h
      rw [pop, if_neg h14, if_pos (Nat.zero_le _)]
      exact ih _ h
theorem opns_hasO : ∀ (w : List Nat), hasO w = true → 1 ≤ opns w := by
  intro w
  induction w with
  | nil => intro h; cases h
  | cons o w ih =>
    intro h
    by_cases h14 : 14 ≤ o
    · rw [opns_c h14]; omega
    · rw [opns_n (by omega)]
      refine ih ?_
      unfold hasO at h ⊢
      rw [List.any_cons, ble_f (by omega), Bool.false_or] at h; exact h
theorem RW_pop {s : bi_St} {lo o : Nat} {out : Lp} {w : List Nat} (h : RW s lo out (o :: w)) : RW (st_p s 77 20 (zI w.length)) lo out w := by
  obtain ⟨r1, r2, r3, r4, r5⟩ := h
  refine ⟨fun x hx => r1 x (by simp [hx]), by rw [g_p_k (by omega)]; exact r2, fun k x hk => by rw [g_p_a (by omega)]; exact r3 k x hk, g_p_eq _ _ _ _, fun j x hj => ?_⟩
  have hjl := (List.getElem?_eq_some_iff.mp hj).1
  have := r5 (j + 1) x (by rw [List.getElem?_cons_succ]; exact hj)
  rw [List.length_cons, show w.length + 1 - 1 - (j + 1) = w.length - 1 - j by omega] at this
  rw [g_p_a (by omega)]; exact this
theorem RW_put {s : bi_St} {lo : Nat} {out : Lp} {w : List Nat} {o : Nat × Nat} (h3 : 3 < o.1) (h : RW s lo out w) : RW (st_p (st_p s 80 (lo + (wds out).length) (zI (rop o.1))) 77 19 (zI (lo + (wds out).length + 1))) lo (out ++ [o]) w := by
  obtain ⟨r1, r2, r3, r4, r5⟩ := h
  have hw1 : wd1 o = [rop o.1] := by unfold wd1; rw [if_neg (by omega)]
  have hwl : (wds (out ++ [o])).length = (wds out).length + 1 := by rw [wds_snoc, hw1, List.length_append]; rfl
  refine ⟨r1, by rw [g_p_eq, hwl]; rfl, fun j x hj => ?_, by rw [g_p_k (by omega), g_p_a (by omega)]; exact r4, fun j x hj => by rw [g_p_a (by omega), g_p_a (by omega)]; exact r5 j x hj⟩
  rw [g_p_a (by omega)]
  rw [wds_snoc, hw1] at hj
  by_cases hjl : j < (wds out).length
  · rw [List.getElem?_append_left hjl] at hj
    rw [g_p_k (by omega)]; exact r3 j x hj
  · have hjl2 := (List.getElem?_eq_some_iff.mp hj).1
    rw [List.length_append] at hjl2
    simp only [List.length_cons, List.length_nil] at hjl2
    rw [List.getElem?_append_right (by omega)] at hj
    have hj0 : j = (wds out).length := by omega
    subst hj0
    rw [Nat.sub_self, List.getElem?_cons_zero] at hj
    injection hj with hj
    rw [g_p_eq, hj]
theorem ct_closes {X : bi_X} {d : Nat} {K : bi_St → Prop} {E : Nat → bi_St → Prop} {s : bi_St} {B : Nat → Nat} {N C R lo q dep : Nat} {out : Lp} {w : List Nat} {tst : Nat → Bool} {sil : Bool} (h : RM s B N C R lo (q, out, w, tst, dep, sil)) (hb : RMb lo 1 (q, out, w, tst, dep, sil)) (h0 : tK B N q ≠ 0) (hO : hasO w = true)
    (k : ∀ t mx', cls (tE B N q) (q, out, w, tst, dep, sil) = .inl (none, mx') → fr (wEx lo) s t → RM t B N C R lo mx' → RMb lo 1 mx' → mx'.2.2.2.2.2 = sil → st_g t 77 23 = st_g s 77 23 → K t) : cV X (d + 2) 193 [.ref 77] s K E := by
  obtain ⟨o, w', hp, ho⟩ := pop_opn w out h.2.2.2.2.2.2.1.1 hO
  refine en_X12_closes (ct_dropsM (kk := 0) h hb (by omega) (fun t ht hRM hRb t23 => ?_))
  have hc : cls (tE B N q) (q, out, w, tst, dep, sil) = .inl (none, (tE B N q, (if o = 15 then (pop 0 out w).1 ++ [(4, 0)] else (pop 0 out w).1), w', tst, dep - 1, sil)) := by unfold cls; rw [hp]
  have k := fun v a b c d => k v _ hc a b c rfl d
  rw [hp] at hRM hRb
  generalize (pop 0 out w).1 = P at hRM hRb k hc
  obtain ⟨hB, hT, h3, h14, h15, hCR, hW, h21, hdep, htst, h22⟩ := RM_get hRM
  simp only at hT hW h21 hdep htst h22
  have hN := hB.1
  have hE := tE_le (B := B) hT.1
  have hadv := tok_adv (B := B) hT.1 h0
  unfold RMb at hRb
  simp only [List.length_cons] at hRb
  have ho2 := hW.1 o (by simp)
  have t20 : st_g t 77 20 = zI (w'.length + 1) := hW.2.2.2.1
  have t81 : st_g t 81 w'.length = zI o := by
    have := hW.2.2.2.2 0 o (by simp)
    rw [List.length_cons, show w'.length + 1 - 1 - 0 = w'.length by omega] at this
    unfold wa at this
    rw [if_pos ho] at this; exact this
  have e20 : zI (w'.length + 1) - 1 = zI w'.length := by rw [zI_sub1 (by omega)]; rfl
  have e15 : (zI o = 15) ↔ o = 15 := zI_eq (b := 15) (by omega) (by omega)
  rw [opns_c ho] at hdep
  rw [t20, e20, g_p_eq, zI_nat (by omega), g_p_a (by omega), t81, e15, g_p_k (by omega), h21]
  have hW1 := RW_pop hW
  have ed : zI dep - 1 = zI (dep - 1) := zI_sub1 (by omega)
  -- what follows both ways
  have fin : ∀ (u : bi_St) (P' : Lp), fr (wEx lo) t u → (∀ a k, a ≠ 80 → (a ≠ 77 ∨ (k ≠ 19 ∧ k ≠ 20)) → st_g u a k = st_g t a k) → RW u lo P' w' → (if o = 15 then P ++ [(4, 0)] else P) = P' → P'.length + cwt w' = P.length + cwt (o :: w') → (wds P').length ≤ (wds P).length + 1 →
      cV X (d + 1) 172 [.ref 77] (st_p u 77 21 (zI (dep - 1))) K (fun _ _ => False) := by
    intro u P' fu gu hWu hP' hl hw
    rw [hP'] at k
    have g1 : ∀ a k, (a ≠ 77 ∨ k ≠ 21) → st_g (st_p u 77 21 (zI (dep - 1))) a k = st_g u a k := fun a k hh => by rw [g_p, if_neg (by omega)]
    refine ct_goM (lo := lo) (RB_fr (by rw [g1 _ _ (by omega), gu _ _ (by omega) (by omega)]) (fun k => by rw [g1 _ _ (by omega), gu _ _ (by omega) (by omega)]) hB) hE.2.1 (by rw [g1 _ _ (by omega), gu _ _ (by omega) (by omega)]; exact hT.2.1) (fun v hv hBv hTv => ?_)
    have gv : ∀ k, (k = 3 ∨ k = 14 ∨ k = 15 ∨ k = 22 ∨ k = 23) → st_g v 77 k = st_g t 77 k := fun k hk => by rw [hv.g (by rcases hk with rfl | rfl | rfl | rfl | rfl <;> rfl), g1 _ _ (by omega), gu _ _ (by omega) (by omega)]
    refine k v (ht.trans ((fu.p (wEx_77 (by omega))).trans (hv.mono wRk_wEx))) ⟨hBv, hTv, by rw [gv _ (by omega)]; exact h3, by rw [gv _ (by omega)]; exact h14, by rw [gv _ (by omega)]; exact h15, hCR, RW_rk hv (RW_fr (g1 _ _ (by omega)) (g1 _ _ (by omega)) (fun k => g1 _ _ (by omega)) (fun k => g1 _ _ (by omega)) hWu), by rw [hv.g rfl, g_p_eq], ?_, fun j h1 h2 => ?_, ?_⟩ ?_ (by rw [gv _ (by omega)]; exact t23)
    · show dep - 1 = 1 + opns w' ∧ dep - 1 ≤ 6
      omega
    · have h2 : j ≤ dep - 1 := h2
      rw [hv.g (wRk_ne (by omega)), g1 _ _ (by omega), gu _ _ (by omega) (by omega)]; exact htst j h1 (by omega)
    · rw [gv _ (by omega), h22]
      show _ = zI (P'.length + cwt w')
      rw [hl]
    · unfold RMb
      simp only
      omega
  refine ⟨in_zI (by omega) (by omega), fun n15 => ?_, fun k15 => ?_⟩
  · rw [ed]
    have h14' : o = 14 := by omega
    subst h14'
    refine fin _ P (fr.refl.p (wEx_77 (by omega))) (fun a k h1 h2 => by rw [g_p, if_neg (by omega)]) hW1 (if_neg n15) (by rw [cwt_14]) (by omega)
  · have k15 := Decidable.of_not_not k15
    subst k15
    have u19 : st_g (st_p t 77 20 (zI w'.length)) 77 19 = zI (lo + (wds P).length) := by rw [g_p_k (by omega)]; exact hW.2.1
    refine ct_puts (n := lo + (wds P).length) u19 (by omega) ?_
    have hW2 := RW_put (o := (4, 0)) (by show 3 < 4; omega) hW1
    rw [g_p_k (by omega), g_p_a (by omega), g_p_k (by omega), h21, ed]
    refine fin _ (P ++ [(4, 0)]) (((fr.refl.p (wEx_77 (by omega))).p (wWd_wEx _ _ (w80 (by omega)))).p (wEx_77 (by omega))) (fun a k h1 h2 => by rw [g_p, if_neg (by omega), g_p_a h1, g_p, if_neg (by omega)]) hW2 (if_pos rfl) ?_ ?_
    · rw [cwt_c (by omega), List.length_append, show [((4 : Nat), (0 : Nat))].length = 1 from rfl]; omega
    · rw [wds_snoc, List.length_append]
      have : (wd1 (4, 0)).length = 1 := rfl
      omega
/-- the end of an expression -/
theorem ct_endE {X : bi_X} {d : Nat} {K : bi_St → Prop} {E : Nat → bi_St → Prop} {s : bi_St} {B : Nat → Nat} {N C R lo q dep : Nat} {out : Lp} {w : List Nat} {tst : Nat → Bool} {sil : Bool} (h : RM s B N C R lo (q, out, w, tst, dep, sil)) (hb : RMb lo 1 (q, out, w, tst, dep, sil))
    (kN : 1 < dep → ∀ t, fr (wEb lo) s t → st_g t 77 3 = zI 1 → st_g t 77 4 = zI (tS B N q) → K t)
    (kT : ¬ 1 < dep → ∀ t, fr (wEx lo) s t → RB t B N → RT t B N q → st_g t 77 3 = 0 → st_g t 77 19 = zI (lo + (wds (pop 0 out w).1).length + 1) → (∀ k x, (wds (pop 0 out w).1)[k]? = some x → st_g t 80 (lo + k) = zI x) → st_g t 80 (lo + (wds (pop 0 out w).1).length) = 0 → st_g t 77 22 = zI (pop 0 out w).1.length → st_g t 77 23 = st_g s 77 23 → 2 * (lo + (wds (pop 0 out w).1).length) ≤ 3 * q + 1 → K t) : at_X12_expression_396 X (d + 2) K E s := by
  have hRM := h
  obtain ⟨hB, hT, h3, h14, h15, hCR, hW, h21, hdep, htst, h22⟩ := RM_get h
  simp only at hT hW h21 hdep htst h22
  have hN := hB.1
  have hqN := hT.1
  have hb' := hb
  unfold RMb at hb'
  simp only at hb'
  have e1 : (zI dep ≤ 1) ↔ dep ≤ 1 := zI_le (b := 1) (by omega) (by omega)
  refine go_X12_expression_396 (go_X12_expression_398 (go_X12_expression_39 ⟨fun _ => go_X12_expression_401 (ct_isGoodY h3 ⟨fun z => absurd z (by decide), fun _ => ?_⟩), fun z => absurd rfl z⟩))
  rw [h21, e1]
  refine ⟨fun hd => go_X12_expression_421 (ct_dropsM (kk := 0) h hb (by omega) (fun t ht hRM hRb t23 => ?_)), fun hd => ct_wrong (f := 1) h3 hT.2.2.2.1 (go_X12_expression_421 ?_)⟩
  · obtain ⟨a1, a2, a3, a4, a5, a6⟩ := pop_cwt (k := 0) w out hW.1
    have hnil := pop_nil w out (by omega)
    have kT := kT (by omega)
    rw [hnil] at hRM hRb a1
    rw [show cwt ([] : List Nat) = 0 from rfl] at a1
    generalize (pop 0 out w).1 = P at hRM hRb kT a1
    obtain ⟨tB, tT, t3, t14, t15, _, tW, t21, _, _, t22⟩ := RM_get hRM
    simp only at tT tW t22
    unfold RMb at hRb
    simp only [List.length_nil] at hRb
    refine ct_puts (n := lo + (wds P).length) tW.2.1 (by omega) ?_
    have g : ∀ a k, a ≠ 80 → (a ≠ 77 ∨ k ≠ 19) → st_g (st_p (st_p t 80 (lo + (wds P).length) 0) 77 19 (zI (lo + (wds P).length + 1))) a k = st_g t a k := fun a k h1 h2 => by rw [g_p, if_neg (by omega), g_p_a h1]
    refine kT _ ((ht.p (wWd_wEx _ _ (w80 (by omega)))).p (wEx_77 (by omega))) (RB_fr (g _ _ (by omega) (by omega)) (fun k => g _ _ (by omega) (by omega)) tB) (RT_eq (fun k h1 h2 => g _ _ (by omega) (by omega)) (by rw [gl_p, gl_p]) tT) (by rw [g _ _ (by omega) (by omega)]; exact t3) (g_p_eq _ _ _ _) (fun j x hj => ?_) ?_ ?_ (by rw [g _ _ (by omega) (by omega)]; exact t23) (by omega)
    · have hjl := (List.getElem?_eq_some_iff.mp hj).1
      rw [g_p_a (by omega), g_p_k (by omega)]; exact tW.2.2.1 j x hj
    · rw [g_p_a (by omega), g_p_eq]
    · rw [g _ _ (by omega) (by omega), t22]
      show zI (P.length + 0) = _
      rfl
  · refine (ct_dropsL (d := d) (lo := lo) (y := 0) w.length (lo + (wds out).length) _ ?_ ?_ (by omega) (by omega) (by omega) (fun u t' hu b1 b2 b3 => ct_puts b1 (by omega) (kN (by omega) _ ?_ ?_ ?_))).1
    · rw [g_p_k (by omega), g_p_k (by omega)]; exact hW.2.2.2.1
    · rw [g_p_k (by omega), g_p_k (by omega)]; exact hW.2.1
    · exact ((fr.refl.b.trans (hu.mono wWd_wEb)).p (wWd_wEb _ _ (w80 (by omega)))).p (wEb_77 (by omega))
    · rw [g_p_k (by omega), g_p_a (by omega), g77 hu (by omega), g_p_k (by omega), g_p_eq]
    · rw [g_p_k (by omega), g_p_a (by omega), g77 hu (by omega), g_p_eq]
end REX8
