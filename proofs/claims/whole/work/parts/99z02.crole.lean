/-! ===== the class reads roles and rows ===== -/
section CROLE
theorem CT_fr {s t : bi_St} {B : Nat → Nat} {N q : Nat} (h : ∀ k, 3 ≤ k → k ≤ 7 → st_g t 1 k = st_g s 1 k) (hC : CT s B N q) : CT t B N q := by
  obtain ⟨y1, y2, y3, y4, y5⟩ := hC
  exact ⟨y1, by rw [h _ (by omega) (by omega)]; exact y2, by rw [h _ (by omega) (by omega)]; exact y3, by rw [h _ (by omega) (by omega)]; exact y4, fun hh => by rw [h _ (by omega) (by omega), h _ (by omega) (by omega)]; exact y5 hh⟩
theorem wF_Tx {b a : Nat} : ∀ c k : Nat, (c = 1 ∧ 9 ≤ k) → wTx b a c k := fun c k h => Or.inl ⟨h.1, by omega⟩
theorem tE_K {B : Nat → Nat} {N q : Nat} (hq : q ≤ N) (hN : 700 ≤ q) (hN2 : N ≤ 700) : tK B N q = 0 := by
  have := (tS_le (B := B) hq).1
  unfold tK kX
  rw [if_pos (by omega)]
theorem sub6_s1 {v : Nat} (h : v < 6) : sub6 (s1 v) := fun q h1 h2 => by rw [tb_s1 (by omega) h2, decide_eq_false (by omega)]
theorem ct_readRole {X : bi_X} {d : Nat} {K : Int32 → bi_St → Prop} {E : Nat → bi_St → Prop} {s : bi_St} {B : Nat → Nat} {N b a q sz lo : Nat} {T : Tx} (h : CX s B N b a T q sz lo) (hk : kn B N q = 6)
    (kF : ∀ e t, lin B N T q = .inl e → fg (wTx b a) s t → st_g t 1 9 = zI e.1 → st_g t 1 10 = zI e.2 → 1 ≤ e.1 → e.1 ≤ 3 → K 0 t)
    (kT : ∀ x t sz' lo', lin B N T q = .inr x → fg (wTx b a) s t → CX t B N b a x.1 x.2 sz' lo' → q < x.2 → K 1 t) : cI X (d + 3) 106 [.ref 43] s K E := by
  obtain ⟨⟨hT, hC, h9⟩, ⟨g4, g5, hb, ha⟩, ⟨b0, b1, b2, b8⟩, ⟨c1, c2, c3, c4, c5, c6⟩, ⟨hE, hlo, hsz⟩, ⟨hp, hv⟩, hbits, hA⟩ := h
  have hbr := isB_r hb
  have har := isS_r ha
  have hN := hT.1
  have h0 : tK B N q ≠ 0 := by have := (kn_lt (B := B) (N := N) (q := q) (by omega)).1; omega
  have hadv := tok_adv (B := B) hC.1 h0
  have hlin : lin B N T q = if xR T = 6 then .inl (2, tS B N q) else fmap (txR T) (rdRole B N (xR T) 701 (tE B N q) 0) := by unfold lin; rw [if_pos hk]
  rw [hlin] at kF kT
  have e6 : (zI (xR T) < 6) ↔ xR T < 6 := zI_lt (b := 6) (by omega) (by omega)
  refine en_X9_readRole ?_
  rw [g4, b1, e6]
  refine ⟨hb, fun hR => ?_, fun hR => ct_refC (f := 2) hC (fun t ht t9 t10 => ⟨rfl, kF (2, tS B N q) t (if_pos (by omega)) (ht.mono wF_Tx) t9 t10 (by show 1 ≤ 2; omega) (by show 2 ≤ 3; omega)⟩)⟩
  rw [if_neg (show ¬ xR T = 6 by omega)] at kF kT
  obtain ⟨r0, hr0⟩ : ∃ r0, rdRole B N (xR T) 701 (tE B N q) 0 = r0 := ⟨_, rfl⟩
  rw [hr0] at kF kT
  obtain ⟨W0, hW0⟩ : ∃ W0 : Nat → Nat → Prop, W0 = fun c k => (c = 1 ∧ 3 ≤ k ∧ k ≤ 8) ∨ (c = a + 2 ∧ k = xR T) := ⟨_, rfl⟩
  have wTx0 : ∀ c k, W0 c k → wTx b a c k := fun c k hh => by rw [hW0] at hh; unfold wTx; omega
  have w1 : ∀ k, 3 ≤ k → k ≤ 8 → W0 1 k := fun k h1 h2 => by rw [hW0]; exact Or.inl ⟨rfl, h1, h2⟩
  have wn : ∀ c k, (c ≠ 1 ∨ k < 3 ∨ 8 < k) → (c ≠ a + 2 ∨ k ≠ xR T) → ¬ W0 c k := fun c k h1 h2 hh => by rw [hW0] at hh; omega
  have fin : ∀ u q' w, fg W0 s u → TB u B N → CT u B N q' → st_g u (a + 2) (xR T) = w → sub6 w → r0 = .inr (w, q') → q < q' → st_isB (st_gp u 4) ∧ K 1 (st_p u (st_gp u 4) 1 (st_g u (st_gp u 4) 1 + 1)) := by
    intro u q' w fu hTu hCu uw hw hr hq'
    have u4 : st_gp u 4 = b := by rw [fu.2.1 _ (by omega)]; exact g4
    have ub : ∀ k, st_g u b k = st_g s b k := fun k => fu.g (wn _ _ (by omega) (by omega))
    rw [u4, ub, b1, zI_add1]
    have gt : ∀ c k, (c ≠ 1 ∨ k < 3 ∨ 8 < k) → (c ≠ a + 2 ∨ k ≠ xR T) → (c ≠ b ∨ k ≠ 1) → st_g (st_p u b 1 (zI (xR T + 1))) c k = st_g s c k := fun c k h1 h2 h3 => by rw [g_p, if_neg (by omega)]; exact fu.g (wn _ _ h1 h2)
    refine ⟨hb, kT (txR T w, q') _ sz lo (by rw [hr]; rfl) ((fu.mono wTx0).p (Or.inr (Or.inr (Or.inl (by omega))))) ?_ hq'⟩
    have hKP : KP s (st_p u b 1 (zI (xR T + 1))) b (xp T) (xv T) := KP_same (gt _ _ (by omega) (by omega) (by omega)) (gt _ _ (by omega) (by omega) (by omega)) (fun j k h1 h2 => gt _ _ (by omega) (by omega) (by omega))
    refine ⟨⟨TB_fr (g_p_a (by omega)) (fun k => g_p_a (by omega)) hTu, CT_fr (fun k h1 h2 => g_p_a (by omega)) hCu, by rw [gt _ _ (by omega) (by omega) (by omega)]; exact h9⟩, ⟨u4, by rw [gp_p, fu.2.1 _ (by omega)]; exact g5, hb, ha⟩, ⟨by rw [gt _ _ (by omega) (by omega) (by omega)]; exact b0, g_p_eq _ _ _ _, by rw [gt _ _ (by omega) (by omega) (by omega)]; exact b2, by rw [gt _ _ (by omega) (by omega) (by omega)]; exact b8⟩, ⟨c1, c2, by show xR T + 1 ≤ 6; omega, c4, c5, c6⟩, ⟨RE_eq (fun k => gt _ _ (by omega) (by omega) (by omega)) (fun k => gt _ _ (by omega) (by omega) (by omega)) hE, by show lo ≤ q'; omega, hsz⟩, ⟨BKp_KP hKP hp, BKv_KP hKP hv⟩, ⟨fun i h1 h2 => by rw [gt _ _ (by omega) (by omega) (by omega)]; exact hbits.1 i h1 h2, fun i h1 h2 => by rw [gt _ _ (by omega) (by omega) (by omega)]; exact hbits.2 i h1 h2⟩, ?_⟩
    obtain ⟨a1, a2, a3, a4, a5, a6, a7, a8⟩ := hA
    have eG : ∀ r, xG (txR T w) r = if r = xR T then w else xG T r := fun r => va_upe _ _ _ _
    refine ⟨by rw [gt _ _ (by omega) (by omega) (by omega)]; exact a1, fun r hr => ?_, fun r h1 h2 => ?_, fun r hr => ?_, fun r c h1 h2 => by rw [gt _ _ (by omega) (by omega) (by omega)]; exact a5 r c h1 h2, by rw [gt _ _ (by omega) (by omega) (by omega)]; exact a6, by rw [gt _ _ (by omega) (by omega) (by omega)]; exact a7, by rw [gt _ _ (by omega) (by omega) (by omega)]; exact a8⟩
    · rw [eG]
      by_cases hrr : r = xR T
      · rw [if_pos hrr, hrr, g_p_a (by omega)]; exact uw
      · rw [if_neg hrr, gt _ _ (by omega) (by omega) (by omega)]; exact a2 r hr
    · have h1 : xR T + 1 ≤ r := h1
      rw [eG, if_neg (by omega)]; exact a3 r (by omega) h2
    · rw [eG]
      by_cases hrr : r = xR T
      · rw [if_pos hrr]; exact hw
      · rw [if_neg hrr]; exact a4 r hr
  have loop : ∀ n i q' w u, n + i = 701 → i ≤ q' → fg W0 s u → TB u B N → CT u B N q' → st_g u (a + 2) (xR T) = w → sub6 w → r0 = rdRole B N (xR T) n q' w → q < q' → at_X9_readRole_32 X (d + 3) K E u (zI (xR T)) (zI i) := by
    intro n
    induction n with
    | zero => intro i q' w u h1 h2 fu hTu hCu _ _ _ _; have := hCu.1; omega
    | succ n ih =>
      intro i q' w u h1 h2 fu hTu hCu uw hw hr hq'
      have hq'N := hCu.1
      have hk := tK_le (B := B) (N := N) (q := q')
      have e2 : (zI (tK B N q') = 2) ↔ tK B N q' = 2 := zI_eq (b := 2) (by omega) (by omega)
      have e7 : ((700 : Int32) ≤ zI i) ↔ 700 ≤ i := zI_le (a := 700) (by omega) (by omega)
      rw [rdRole] at hr
      refine go_X9_readRole_32 ?_
      rw [hCu.2.1, e2, e7]
      refine ⟨fun h7 => ?_, fun h7 => ⟨fun n2 => ?_, fun k2 => ?_⟩⟩
      · have := tE_K (B := B) hq'N (by omega) hN
        rw [if_neg (by omega)] at hr
        exact fin u q' w fu hTu hCu uw hw hr hq'
      · rw [if_neg n2] at hr
        exact fin u q' w fu hTu hCu uw hw hr hq'
      · have k2 := Decidable.of_not_not k2
        rw [if_pos k2] at hr
        have hadv2 := tok_adv (B := B) hq'N (show tK B N q' ≠ 0 by omega)
        refine ct_needN (m := xR T) (fk := 3) hCu rfl (by omega) (by omega) (fun z _ u6 hlt => ⟨fun _ => ?_, fun z => absurd (by decide) z⟩) (fun z t ht t9 t10 => ⟨fun z => absurd rfl z, fun _ => ?_⟩)
        · rw [if_pos z] at hr
          rw [u6, fu.2.1 _ (by omega), g5, zI_nat (by omega), uw]
          refine ⟨ha, in_zI hR (by omega), in_zI hR (by omega), ?_⟩
          have fu2 : fg W0 s (st_p u (a + 2) (xR T) (w ||| ((1 : Int32) <<< (zI (tV B N q') &&& 31)))) := fu.p (by rw [hW0]; exact Or.inr ⟨rfl, rfl⟩)
          refine ct_advC (TB_fr (g_p_a (by omega)) (fun k => g_p_a (by omega)) hTu) (CT_fr (fun k h1 h2 => g_p_a (by omega)) hCu) (fun t ht hTt hCt => ?_)
          rw [zI_add1]
          exact ih (i + 1) (tE B N q') (w ||| s1 (tV B N q')) t (by omega) (by omega) (fu2.tk ht w1) hTt hCt (by rw [ht.g (wTk_ne (by omega)), g_p_eq]; rfl) (sub6_or hw (sub6_s1 (by omega))) hr (by omega)
        · rw [if_neg z] at hr
          exact kF (nmF B N q' (xR T) 3, tS B N q') t (by rw [hr]; rfl) ((fu.mono wTx0).trans (ht.mono wF_Tx)) t9 t10 (by show 1 ≤ nmF B N q' (xR T) 3; omega) (nmF_le (by omega))
  refine ct_advC hT hC (fun t ht hTt hCt => ?_)
  exact loop 701 0 (tE B N q) 0 t (by omega) (by omega) (fg.refl.tk ht w1) hTt hCt (by rw [ht.g (wTk_ne (by omega)), hA.2.1 _ hR, hA.2.2.1 _ (Nat.le_refl _) hR]) (fun q h1 h2 => tb_0 q) hr0.symm (by omega)
theorem ct_readRow {X : bi_X} {d : Nat} {K : Int32 → bi_St → Prop} {E : Nat → bi_St → Prop} {s : bi_St} {B : Nat → Nat} {N b a q sz lo : Nat} {T : Tx} (h : CX s B N b a T q sz lo) (hk : kn B N q = 7)
    (kF : ∀ e t, lin B N T q = .inl e → fg (wTx b a) s t → st_g t 1 9 = zI e.1 → st_g t 1 10 = zI e.2 → 1 ≤ e.1 → e.1 ≤ 3 → K 0 t)
    (kT : ∀ x t sz' lo', lin B N T q = .inr x → fg (wTx b a) s t → CX t B N b a x.1 x.2 sz' lo' → q < x.2 → K 1 t) : cI X (d + 3) 107 [.ref 43] s K E := by
  obtain ⟨⟨hT, hC, h9⟩, ⟨g4, g5, hb, ha⟩, ⟨b0, b1, b2, b8⟩, ⟨c1, c2, c3, c4, c5, c6⟩, ⟨hE, hlo, hsz⟩, ⟨hp, hv⟩, hbits, hA⟩ := h
  have hbr := isB_r hb
  have har := isS_r ha
  have hN := hT.1
  have h0 : tK B N q ≠ 0 := by have := (kn_lt (B := B) (N := N) (q := q) (by omega)).1; omega
  have hadv := tok_adv (B := B) hC.1 h0
  have hlin : lin B N T q = if xn T = 16 then .inl (2, tS B N q) else fmap (txW T) (rdRow B N (xC T) 0 (tE B N q) (fun _ => 0)) := by unfold lin; rw [if_neg (by omega), if_pos hk]
  rw [hlin] at kF kT
  have e6 : (zI (xn T) < 16) ↔ xn T < 16 := zI_lt (b := 16) (by omega) (by omega)
  refine en_X9_readRow ?_
  rw [g5, hA.1, e6]
  refine ⟨ha, fun hR => ?_, fun hR => ct_refC (f := 2) hC (fun t ht t9 t10 => ⟨rfl, kF (2, tS B N q) t (if_pos (by omega)) (ht.mono wF_Tx) t9 t10 (by show 1 ≤ 2; omega) (by show 2 ≤ 3; omega)⟩)⟩
  rw [if_neg (show ¬ xn T = 16 by omega)] at kF kT
  obtain ⟨r0, hr0⟩ : ∃ r0, rdRow B N (xC T) 0 (tE B N q) (fun _ => 0) = r0 := ⟨_, rfl⟩
  rw [hr0] at kF kT
  obtain ⟨W0, hW0⟩ : ∃ W0 : Nat → Nat → Prop, W0 = fun c k => (c = 1 ∧ 3 ≤ k ∧ k ≤ 8) ∨ (c = a + 1 ∧ 4 * xn T ≤ k) := ⟨_, rfl⟩
  have wTx0 : ∀ c k, W0 c k → wTx b a c k := fun c k hh => by rw [hW0] at hh; unfold wTx; omega
  have w1 : ∀ k, 3 ≤ k → k ≤ 8 → W0 1 k := fun k h1 h2 => by rw [hW0]; exact Or.inl ⟨rfl, h1, h2⟩
  have wn : ∀ c k, (c ≠ 1 ∨ k < 3 ∨ 8 < k) → (c ≠ a + 1 ∨ k < 4 * xn T) → ¬ W0 c k := fun c k h1 h2 hh => by rw [hW0] at hh; omega
  have fin : ∀ u q' l, fg W0 s u → TB u B N → CT u B N q' → (∀ c, c < xC T → st_g u (a + 1) (4 * xn T + c) = l c) → r0 = .inr (l, q') → q < q' → st_isS (st_gp u 5) ∧ K 1 (st_p u (st_gp u 5) 0 (st_g u (st_gp u 5) 0 + 1)) := by
    intro u q' l fu hTu hCu ul hr hq'
    have u5 : st_gp u 5 = a := by rw [fu.2.1 _ (by omega)]; exact g5
    have ua : st_g u a 0 = zI (xn T) := by rw [fu.g (wn _ _ (by omega) (by omega))]; exact hA.1
    rw [u5, ua, zI_add1]
    have gt : ∀ c k, (c ≠ 1 ∨ k < 3 ∨ 8 < k) → (c ≠ a + 1 ∨ k < 4 * xn T) → (c ≠ a ∨ k ≠ 0) → st_g (st_p u a 0 (zI (xn T + 1))) c k = st_g s c k := fun c k h1 h2 h3 => by rw [g_p, if_neg (by omega)]; exact fu.g (wn _ _ h1 h2)
    refine ⟨ha, kT (txW T l, q') _ sz lo (by rw [hr]; rfl) ((fu.mono wTx0).p (Or.inr (Or.inr (Or.inr (by omega))))) ?_ hq'⟩
    have hKP : KP s (st_p u a 0 (zI (xn T + 1))) b (xp T) (xv T) := KP_same (gt _ _ (by omega) (by omega) (by omega)) (gt _ _ (by omega) (by omega) (by omega)) (fun j k h1 h2 => gt _ _ (by omega) (by omega) (by omega))
    refine ⟨⟨TB_fr (g_p_a (by omega)) (fun k => g_p_a (by omega)) hTu, CT_fr (fun k h1 h2 => g_p_a (by omega)) hCu, by rw [gt _ _ (by omega) (by omega) (by omega)]; exact h9⟩, ⟨by rw [gp_p, fu.2.1 _ (by omega)]; exact g4, u5, hb, ha⟩, ⟨by rw [gt _ _ (by omega) (by omega) (by omega)]; exact b0, by rw [gt _ _ (by omega) (by omega) (by omega)]; exact b1, by rw [gt _ _ (by omega) (by omega) (by omega)]; exact b2, by rw [gt _ _ (by omega) (by omega) (by omega)]; exact b8⟩, ⟨c1, c2, c3, by show xn T + 1 ≤ 16; omega, c5, c6⟩, ⟨RE_eq (fun k => gt _ _ (by omega) (by omega) (by omega)) (fun k => gt _ _ (by omega) (by omega) (by omega)) hE, by show lo ≤ q'; omega, hsz⟩, ⟨BKp_KP hKP hp, BKv_KP hKP hv⟩, ⟨fun i h1 h2 => by rw [gt _ _ (by omega) (by omega) (by omega)]; exact hbits.1 i h1 h2, fun i h1 h2 => by rw [gt _ _ (by omega) (by omega) (by omega)]; exact hbits.2 i h1 h2⟩, ?_⟩
    obtain ⟨a1, a2, a3, a4, a5, a6, a7, a8⟩ := hA
    refine ⟨g_p_eq _ _ _ _, fun r hr => by rw [gt _ _ (by omega) (by omega) (by omega)]; exact a2 r hr, a3, a4, fun r c h1 h2 => ?_, by rw [gt _ _ (by omega) (by omega) (by omega)]; exact a6, by rw [gt _ _ (by omega) (by omega) (by omega)]; exact a7, by rw [gt _ _ (by omega) (by omega) (by omega)]; exact a8⟩
    have h1 : r < xn T + 1 := h1
    have h2 : c < xC T := h2
    show _ = va_up (xc T) (xn T) l r c
    rw [va_upe]
    by_cases hrr : r = xn T
    · rw [if_pos hrr, hrr, g_p_a (by omega)]; exact ul c h2
    · rw [if_neg hrr, gt _ _ (by omega) (by omega) (by omega)]; exact a5 r c (by omega) h2
  have loop : ∀ m c q' l u, m + c = xC T → fg W0 s u → TB u B N → CT u B N q' → (∀ c', c' < c → st_g u (a + 1) (4 * xn T + c') = l c') → r0 = rdRow B N m c q' l → q < q' → at_X9_readRow_32 X (d + 3) K E u (zI (xn T)) (zI c) := by
    intro m
    induction m with
    | zero =>
      intro c q' l u h1 fu hTu hCu ul hr hq'
      refine go_X9_readRow_32 ?_
      rw [fu.2.1 4 (by omega), g4, fu.g (wn b 0 (by omega) (by omega)), b0, zI_le (by omega) (by omega)]
      refine ⟨hb, fun _ => ?_, fun z => by omega⟩
      have : c = xC T := by omega
      subst this
      exact fin u q' l fu hTu hCu ul hr hq'
    | succ m ih =>
      intro c q' l u h1 fu hTu hCu ul hr hq'
      have hq'N := hCu.1
      rw [rdRow] at hr
      -- behind a sign, or without
      have num : ∀ (sg : Bool) q1 u1, q' ≤ q1 → fg W0 s u1 → TB u1 B N → CT u1 B N q1 → (∀ k, st_g u1 (a + 1) k = st_g u (a + 1) k) → mnq B N q' = q1 → (tG B N q' = 45 ↔ sg = true) → ∀ x : bi_St → Int32, (∀ s4 : bi_St, st_g s4 1 6 = zI (tV B N q1) → x s4 = if sg then - zI (tV B N q1) else zI (tV B N q1)) → ∀ F : bi_St → Prop, (∀ s4, st_gp s4 5 = a → cV X (d + 2) 75 [.ref a, .int (zI (xn T)), .int (zI c), .int (x s4)] s4 (fun s5 => cV X (d + 2) 94 [.ref 1] s5 (fun s6 => at_X9_readRow_32 X (d + 3) K E s6 (zI (xn T)) (zI c + 1)) (fun _ _ => False)) (fun _ _ => False) → F s4) →
          cI X (d + 2) 101 [.ref 1, .int (99 : Int32), .int (2 : Int32)] u1 (fun (r4 : Int32) (s4 : bi_St) => ((¬ r4 = 0) → st_isS (st_gp s4 5) ∧ F s4) ∧ (¬ (¬ r4 = 0) → K (0 : Int32) s4)) (fun _ _ => False) := by
        intro sg q1 u1 hqq fu1 hTu1 hCu1 hsame hmn hsg x hx F hF
        rw [hmn] at hr
        refine ct_needN (m := 100) (fk := 2) hCu1 rfl (by omega) (by omega) (fun z k2 u6 hlt => ⟨fun _ => ⟨by rw [fu1.2.1 5 (by omega), g5]; exact ha, hF _ (by rw [fu1.2.1 5 (by omega)]; exact g5) ?_⟩, fun z => absurd (by decide) z⟩) (fun z t ht t9 t10 => ⟨fun z => absurd rfl z, fun _ => ?_⟩)
        · rw [if_pos z] at hr
          have hadv2 := tok_adv (B := B) hCu1.1 (show tK B N q1 ≠ 0 by omega)
          refine ct_setNumber ha (by omega) (by omega) ?_
          have fu2 : ∀ v, fg W0 s (st_p u1 (a + 1) (4 * xn T + c) v) := fun v => fu1.p (by rw [hW0]; exact Or.inr ⟨rfl, by omega⟩)
          refine ct_advC (TB_fr (g_p_a (by omega)) (fun k => g_p_a (by omega)) hTu1) (CT_fr (fun k h1 h2 => g_p_a (by omega)) hCu1) (fun t ht hTt hCt => ?_)
          rw [zI_add1]
          refine ih (c + 1) (tE B N q1) _ t (by omega) ((fu2 _).tk ht w1) hTt hCt (fun c' hc' => ?_) hr (by omega)
          rw [ht.g (wTk_ne (by omega)), va_upe, g_p]
          by_cases hcc : c' = c
          · rw [if_pos (by omega), if_pos hcc, hx _ u6]
            by_cases h45 : tG B N q' = 45
            · rw [if_pos h45, if_pos (hsg.mp h45)]
            · rw [if_neg h45, if_neg (fun z => h45 (hsg.mpr z))]
          · rw [if_neg (by omega), if_neg hcc, hsame]; exact ul c' (by omega)
        · rw [if_neg z] at hr
          exact kF (nmF B N q1 100 2, tS B N q1) t (by rw [hr]; rfl) ((fu1.mono wTx0).trans (ht.mono wF_Tx)) t9 t10 (by show 1 ≤ nmF B N q1 100 2; omega) (nmF_le (by omega))
      refine go_X9_readRow_32 ?_
      rw [fu.2.1 4 (by omega), g4, fu.g (wn b 0 (by omega) (by omega)), b0, zI_le (by omega) (by omega)]
      refine ⟨hb, fun z => by omega, fun _ => ct_isSignC (c := 45) hTu hCu (by omega) ?_⟩
      rw [b2i_ne0]
      refine ⟨fun z => ?_, fun z => ?_⟩
      · have z' : ¬ tG B N q' = 45 := by simpa using z
        refine num false q' u (Nat.le_refl _) fu hTu hCu (fun _ => rfl) (by unfold mnq; rw [if_neg z']) ⟨fun y => absurd y z', fun y => by cases y⟩ (fun s4 => st_g s4 1 6) (fun s4 h6 => h6) _ (fun s4 h5 h4 => ?_)
        rw [h5]
        exact ⟨fun _ => h4, fun y => absurd z y⟩
      · have z' : tG B N q' = 45 := by simpa using z
        have hadv2 := tok_adv (B := B) hq'N (show tK B N q' ≠ 0 by have := G_K (show tG B N q' ≠ 0 by omega); omega)
        refine ct_advC hTu hCu (fun u1 hu1 hTu1 hCu1 => ?_)
        refine num true (tE B N q') u1 (by omega) (fu.tk hu1 w1) hTu1 hCu1 (fun _ => hu1.g (wTk_ne (by omega))) (by unfold mnq; rw [if_pos z']) ⟨fun _ => rfl, fun _ => z'⟩ (fun s4 => - (st_g s4 1 6)) (fun s4 h6 => by rw [h6]; rfl) _ (fun s4 h5 h4 => ?_)
        rw [h5]
        exact ⟨fun y => absurd y z, fun _ => h4⟩
  refine ct_advC hT hC (fun t ht hTt hCt => ?_)
  exact loop (xC T) 0 (tE B N q) (fun _ => 0) t (by omega) (fg.refl.tk ht w1) hTt hCt (fun c' hc' => by omega) hr0.symm (by omega)
end CROLE
