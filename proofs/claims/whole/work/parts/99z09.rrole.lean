/-! ===== the reference reads roles and rows ===== -/
section RROLE
theorem wLn_77 {k : Nat} (h1 : 3 ≤ k) (h2 : k ≤ 23) : wLn 77 k := Or.inl ⟨rfl, h1, h2⟩
theorem wLg_77 {k : Nat} (h1 : 7 ≤ k) (h2 : k ≤ 23) : wLg 77 k := Or.inl ⟨rfl, h1, h2⟩
theorem wLg_89 {k : Nat} : wLg 89 k := Or.inr (Or.inr (Or.inr (Or.inr rfl)))
theorem wLn_89 {k : Nat} : wLn 89 k := Or.inr (Or.inr (Or.inr (Or.inr rfl)))
theorem wLg_rk : ∀ q, 7 ≤ q → q ≤ 13 → wLg 77 q := fun q h1 h2 => wLg_77 (by omega) (by omega)
theorem nz3 {f : Nat} (h1 : 1 ≤ f) (h3 : f ≤ 3) : ¬ zI f = 0 := fun z => by
  have := (zI_eq (b := 0) (show f < 2147483648 by omega) (by omega)).mp z
  omega
theorem ct_readsRole {X : bi_X} {d : Nat} {K : bi_St → Prop} {E : Nat → bi_St → Prop} {s : bi_St} {B : Nat → Nat} {N q1 lo : Nat} {T : Tx} (h : RXt s B N 0 T q1 lo) (hq1 : 1 ≤ q1) (hR : xR T < 6)
    (kF : ∀ e t, rdRole B N (xR T) 701 q1 0 = .inl e → fh wLn s t → st_g t 77 3 = zI e.1 → st_g t 77 4 = zI e.2 → 1 ≤ e.1 → e.1 ≤ 3 → K t)
    (kT : ∀ x t, rdRole B N (xR T) 701 q1 0 = .inr x → fh wLg s t → RXt t B N 0 (txR T x.1) x.2 lo → K t) : cV X (d + 4) 196 [.ref 77] s K E := by
  obtain ⟨r0, hr0⟩ : ∃ r0, rdRole B N (xR T) 701 q1 0 = r0 := ⟨_, rfl⟩
  rw [hr0] at kF kT
  have fin : ∀ u q' w, fh wLg s u → RXt u B N 0 T q' lo → r0 = .inr (w, q') → bi_in (st_g u 77 15) 72 = true ∧ K (st_p (st_p u 89 (st_g u 77 15).toNatClampNeg w) 77 15 (st_g (st_p u 89 (st_g u 77 15).toNatClampNeg w) 77 15 + 1)) := by
    intro u q' w fu hX hr
    obtain ⟨⟨hB, hT, h3⟩, ⟨r14, r15, r16, r17, r18, r19⟩, ⟨c2, c3, c4, c5, c6, hl⟩, hG, hcl, hP, hV⟩ := hX
    rw [r15, zI_nat (by omega), g_p_a (by omega), r15, zI_add1]
    have g : ∀ c k, (c ≠ 89 ∨ k ≠ xR T) → (c ≠ 77 ∨ k ≠ 15) → st_g (st_p (st_p u 89 (xR T) w) 77 15 (zI (xR T + 1))) c k = st_g u c k := fun c k h1 h2 => by rw [g_p, if_neg (by omega), g_p, if_neg (by omega)]
    refine ⟨in_zI (by omega) (by omega), kT (w, q') _ hr ((fu.p (Or.inr (Or.inr (Or.inr (Or.inr rfl))))).p (wLg_77 (by omega) (by omega))) ⟨⟨RB_fr (g _ _ (by omega) (by omega)) (fun k => g _ _ (by omega) (by omega)) hB, RT_eq (fun k h1 h2 => g _ _ (by omega) (by omega)) (by rw [gl_p, gl_p]) hT, by rw [g _ _ (by omega) (by omega)]; exact h3⟩, ⟨by rw [g _ _ (by omega) (by omega)]; exact r14, g_p_eq _ _ _ _, by rw [g _ _ (by omega) (by omega)]; exact r16, by rw [g _ _ (by omega) (by omega)]; exact r17, by rw [g _ _ (by omega) (by omega)]; exact r18, by rw [g _ _ (by omega) (by omega)]; exact r19⟩, ⟨c2, by show xR T + 1 ≤ 6; omega, c4, c5, c6, hl⟩, fun r hr => ?_, fun r c h1 h2 => by rw [g _ _ (by omega) (by omega)]; exact hcl r c h1 h2, RP_keep (fun k _ => g _ _ (by omega) (by omega)) (Nat.le_refl _) (fun k _ => g _ _ (by omega) (by omega)) hP, RVw_keep (fun k _ => g _ _ (by omega) (by omega)) (Nat.le_refl _) (fun k _ => g _ _ (by omega) (by omega)) hV⟩⟩
    show _ = va_up (xG T) (xR T) w r
    rw [va_upe]
    by_cases hrr : r = xR T
    · rw [if_pos hrr, hrr, g_p_a (by omega), g_p_eq]
    · rw [if_neg hrr, g _ _ (by omega) (by omega)]; exact hG r hr
  have loop : ∀ n q' w u, 702 ≤ n + q' → fh wLg s u → RXt u B N 0 T q' lo → r0 = rdRole B N (xR T) n q' w → at_X12_readsRole_2 X (d + 4) K E u w := by
    intro n
    induction n with
    | zero => intro q' w u h1 fu hX _; have := hX.1.2.1.1; have := hX.1.1.1; omega
    | succ n ih =>
      intro q' w u h1 fu hX hr
      have hT := hX.1.2.1
      have hB := hX.1.1
      have h3 := hX.1.2.2
      have r15 := hX.2.1.2.1
      have hl := hX.2.2.1.2.2.2.2.2
      have hr4 := rK_le (B := B) (N := N) (q := q')
      have e2 : (zI (rK B N q') = 2) ↔ tK B N q' = 2 := by rw [← rK_2]; exact zI_eq (b := 2) (by omega) (by omega)
      rw [rdRole] at hr
      refine go_X12_readsRole_2 (ct_isGoodY h3 ⟨fun z => absurd z (by decide), fun _ => ?_⟩)
      rw [hT.2.2.1, e2]
      refine ⟨fun n2 => ct_isGoodY h3 ⟨fun _ => ?_, fun z => absurd (by decide) z⟩, fun k2 => ?_⟩
      · rw [if_neg n2] at hr
        exact fin u q' w fu hX hr
      · have k2 := Decidable.of_not_not k2
        rw [if_pos k2] at hr
        refine ct_roleHere hB hT h3 r15 (by omega) (fun hn _ hlt => ?_) (fun hn v => ?_)
        · rw [if_pos hn] at hr
          refine ct_isGoodY h3 ⟨fun _ => ct_goR hB hT (fun t ht hBt hTt => ?_), fun z => absurd (by decide) z⟩
          have hadv := tok_adv (B := B) hT.1 (show tK B N q' ≠ 0 by omega)
          exact ih (tE B N q') (w ||| s1 (tV B N q')) t (by omega) (fu.rk ht wLg_rk) (RXt_tok hX ht hBt hTt (by omega)) hr
        · rw [if_neg hn] at hr
          have hf3 := nmF_le (B := B) (N := N) (q := q') (m := xR T) (show 3 ≤ 3 by omega)
          have t3 : st_g (st_p (st_p u 77 3 (zI (nmF B N q' (xR T) 3))) 77 4 (zI (tS B N q'))) 77 3 = zI (nmF B N q' (xR T) 3) := by rw [g_p_k (by omega), g_p_eq]
          refine ct_isGoodN (by rw [t3]; exact nz3 (by omega) hf3) ⟨fun z => absurd rfl z, fun _ => kF (nmF B N q' (xR T) 3, tS B N q') _ hr (fu.b) t3 (g_p_eq _ _ _ _) (by show 1 ≤ nmF B N q' (xR T) 3; omega) hf3⟩
  exact en_X12_readsRole (loop 701 q1 0 s (by omega) fh.refl h hr0.symm)
theorem ct_readsRow {X : bi_X} {d : Nat} {K : bi_St → Prop} {E : Nat → bi_St → Prop} {s : bi_St} {B : Nat → Nat} {N q1 lo : Nat} {T : Tx} (h : RXt s B N 0 T q1 lo) (hR : xn T < 16)
    (kF : ∀ e t, rdRow B N (xC T) 0 q1 (fun _ => 0) = .inl e → fh wLn s t → st_g t 77 3 = zI e.1 → st_g t 77 4 = zI e.2 → 1 ≤ e.1 → e.1 ≤ 3 → K t)
    (kT : ∀ x t, rdRow B N (xC T) 0 q1 (fun _ => 0) = .inr x → fh wLg s t → RXt t B N 0 (txW T x.1) x.2 lo → K t) : cV X (d + 4) 197 [.ref 77] s K E := by
  obtain ⟨r0, hr0⟩ : ∃ r0, rdRow B N (xC T) 0 q1 (fun _ => 0) = r0 := ⟨_, rfl⟩
  rw [hr0] at kF kT
  have hC4 := h.2.2.1.1
  have eix : ∀ c, c < 4 → (8 : Int32) + (4 : Int32) * zI (xn T) + zI c = zI (8 + 4 * xn T + c) := fun c hc => by
    rw [show (4 : Int32) * zI (xn T) = zI (4 * xn T) from zI_mul 4 _, show (8 : Int32) + zI (4 * xn T) = zI (8 + 4 * xn T) from zI_add 8 _, zI_add]
  -- behind a fault the columns are gone through
  have badL : ∀ m c u e, m + c = xC T → r0 = .inl e → fh wLn s u → st_g u 77 14 = zI (xC T) → st_g u 77 16 = zI (xn T) → st_g u 77 3 = zI e.1 → st_g u 77 4 = zI e.2 → 1 ≤ e.1 → e.1 ≤ 3 → at_X12_readsRow_2 X (d + 4) K E u (zI c) := by
    intro m
    induction m with
    | zero =>
      intro c u e h1 hr fu u14 u16 u3 u4 e1 e3
      refine go_X12_readsRow_2 ?_
      rw [u14, zI_le (by omega) (by omega)]
      exact ⟨fun _ => ct_isGoodN (by rw [u3]; exact nz3 e1 e3) ⟨fun _ => go_X12_readsRow_98 (kF e u hr fu u3 u4 e1 e3), fun z => absurd rfl z⟩, fun z => by omega⟩
    | succ m ih =>
      intro c u e h1 hr fu u14 u16 u3 u4 e1 e3
      have hb : ¬ st_g u 77 3 = 0 := by rw [u3]; exact nz3 e1 e3
      refine go_X12_readsRow_2 ?_
      rw [u14, zI_le (by omega) (by omega)]
      refine ⟨fun z => by omega, fun _ => ct_isGoodN hb ⟨fun _ => go_X12_readsRow_30 ⟨fun _ => go_X12_readsRow_40 (ct_numberN hb ⟨fun _ => ?_, fun z => absurd rfl z⟩), fun z => absurd rfl z⟩, fun z => absurd rfl z⟩⟩
      rw [u16, eix c (by omega), zI_nat (by omega), zI_add1]
      refine ⟨in_zI (by omega) (by omega), ih (c + 1) _ e (by omega) hr (fu.p (Or.inr (Or.inr (Or.inr (Or.inr rfl))))) ?_ ?_ ?_ ?_ e1 e3⟩
      · rw [g_p_a (by omega)]; exact u14
      · rw [g_p_a (by omega)]; exact u16
      · rw [g_p_a (by omega)]; exact u3
      · rw [g_p_a (by omega)]; exact u4
  have loop : ∀ m c q' l u, m + c = xC T → q1 ≤ q' → fh wLg s u → RXt u B N 0 T q' lo → (∀ c', c' < c → st_g u 89 (8 + 4 * xn T + c') = l c') → r0 = rdRow B N m c q' l → at_X12_readsRow_2 X (d + 4) K E u (zI c) := by
    intro m
    induction m with
    | zero =>
      intro c q' l u h1 hqq fu hX ul hr
      obtain ⟨⟨hB, hT, h3⟩, ⟨r14, r15, r16, r17, r18, r19⟩, ⟨c2, c3, c4, c5, c6, hl⟩, hG, hcl, hP, hV⟩ := hX
      refine go_X12_readsRow_2 ?_
      rw [r14, zI_le (by omega) (by omega)]
      refine ⟨fun _ => ct_isGoodY h3 ⟨fun z => absurd z (by decide), fun _ => go_X12_readsRow_98 ?_⟩, fun z => by omega⟩
      rw [r16, zI_add1]
      have g : ∀ c k, (c ≠ 77 ∨ k ≠ 16) → st_g (st_p u 77 16 (zI (xn T + 1))) c k = st_g u c k := fun c k h1 => by rw [g_p, if_neg (by omega)]
      refine kT (l, q') _ hr (fu.p (wLg_77 (by omega) (by omega))) ⟨⟨RB_fr (g _ _ (by omega)) (fun k => g _ _ (by omega)) hB, RT_eq (fun k h1 h2 => g _ _ (by omega)) (gl_p _ _ _ _ _ _) hT, by rw [g _ _ (by omega)]; exact h3⟩, ⟨by rw [g _ _ (by omega)]; exact r14, by rw [g _ _ (by omega)]; exact r15, g_p_eq _ _ _ _, by rw [g _ _ (by omega)]; exact r17, by rw [g _ _ (by omega)]; exact r18, by rw [g _ _ (by omega)]; exact r19⟩, ⟨c2, c3, by show xn T + 1 ≤ 16; omega, c5, c6, hl⟩, fun r hr => by rw [g _ _ (by omega)]; exact hG r hr, fun r c' h1 h2 => ?_, RP_keep (fun k _ => g _ _ (by omega)) (Nat.le_refl _) (fun k _ => g _ _ (by omega)) hP, RVw_keep (fun k _ => g _ _ (by omega)) (Nat.le_refl _) (fun k _ => g _ _ (by omega)) hV⟩
      have h1 : r < xn T + 1 := h1
      have h2 : c' < xC T := h2
      show _ = va_up (xc T) (xn T) l r c'
      rw [va_upe, g _ _ (by omega)]
      by_cases hrr : r = xn T
      · rw [if_pos hrr, hrr]; exact ul c' (by omega)
      · rw [if_neg hrr]; exact hcl r c' (by omega) h2
    | succ m ih =>
      intro c q' l u h1 hqq fu hX ul hr
      rw [rdRow] at hr
      have hX' := hX
      obtain ⟨⟨hB, hT, h3⟩, ⟨r14, r15, r16, r17, r18, r19⟩, ⟨c2, c3, c4, c5, c6, hl⟩, hG, hcl, hP, hV⟩ := hX
      have hbB : ∀ i, i < N → B i < 256 := fun i hi => (hB.2.2 i hi).1
      -- the number itself
      have num : ∀ (sg : Bool) qn u1, q' ≤ qn → fh wLg s u1 → RXt u1 B N 0 T qn lo → (∀ k, st_g u1 89 k = st_g u 89 k) → mnq B N q' = qn → (tG B N q' = 45 ↔ sg = true) → at_X12_readsRow_40 X (d + 4) K E u1 (zI c) (b2i sg) := by
        intro sg qn u1 hqn fu1 hX1 hsame hmn hsg
        rw [hmn] at hr
        obtain ⟨⟨hB1, hT1, h31⟩, ⟨r141, r151, r161, r171, r181, r191⟩, _, hG1, hcl1, hP1, hV1⟩ := hX1
        refine go_X12_readsRow_40 (ct_number (l := 0) (m := 99) hB1 hT1 h31 (by omega) (by omega) (fun hn k2 t ht hBt hTt => ?_) (fun hn v => ?_))
        · rw [show (99 : Nat) + 1 = 100 from rfl, numF_0] at hn
          rw [if_pos hn] at hr
          have hadv := tok_adv (B := B) hT1.1 (show tK B N qn ≠ 0 by omega)
          have gt : ∀ c k, (c ≠ 77 ∨ k < 7 ∨ 13 < k) → st_g t c k = st_g u1 c k := fun c k hh => ht.g (by
            cases hv : wRk c k
            · rfl
            · have := wRk_i hv; omega)
          have hXt : RXt t B N 0 T (tE B N qn) lo := RXt_tok (c := 0) ⟨⟨hB1, hT1, h31⟩, ⟨r141, r151, r161, r171, r181, r191⟩, ⟨c2, c3, c4, c5, c6, by omega⟩, hG1, hcl1, hP1, hV1⟩ ht hBt hTt (by omega)
          have go : ∀ x, x = (if tG B N q' = 45 then - zI (tV B N qn) else zI (tV B N qn)) → bi_in (zI (8 + 4 * xn T + c)) 72 = true ∧ at_X12_readsRow_2 X (d + 4) K E (st_p t 89 (8 + 4 * xn T + c) x) (zI (c + 1)) := by
            intro x hx
            have g : ∀ c' k, (c' ≠ 89 ∨ k ≠ 8 + 4 * xn T + c) → st_g (st_p t 89 (8 + 4 * xn T + c) x) c' k = st_g t c' k := fun c' k h1 => by rw [g_p, if_neg (by omega)]
            obtain ⟨⟨hBt', hTt', h3t⟩, ⟨t14, t15, t16, t17, t18, t19⟩, _, hGt, hclt, hPt, hVt⟩ := hXt
            refine ⟨in_zI (by omega) (by omega), ih (c + 1) (tE B N qn) (va_up l c x) _ (by omega) (by omega) ((fu1.rk ht wLg_rk).p (Or.inr (Or.inr (Or.inr (Or.inr rfl))))) ⟨⟨RB_fr (g _ _ (by omega)) (fun k => g _ _ (by omega)) hBt', RT_eq (fun k h1 h2 => g _ _ (by omega)) (gl_p _ _ _ _ _ _) hTt', by rw [g _ _ (by omega)]; exact h3t⟩, ⟨by rw [g _ _ (by omega)]; exact t14, by rw [g _ _ (by omega)]; exact t15, by rw [g _ _ (by omega)]; exact t16, by rw [g _ _ (by omega)]; exact t17, by rw [g _ _ (by omega)]; exact t18, by rw [g _ _ (by omega)]; exact t19⟩, ⟨c2, c3, c4, c5, c6, by omega⟩, fun r hr => by rw [g _ _ (by omega)]; exact hGt r hr, fun r c h1 h2 => by rw [g _ _ (by omega)]; exact hclt r c h1 h2, RP_keep (fun k _ => g _ _ (by omega)) (Nat.le_refl _) (fun k _ => g _ _ (by omega)) hPt, RVw_keep (fun k _ => g _ _ (by omega)) (Nat.le_refl _) (fun k _ => g _ _ (by omega)) hVt⟩ (fun c' hc' => ?_) ?_⟩
            · rw [va_upe, g_p]
              by_cases hcc : c' = c
              · rw [if_pos (by omega), if_pos hcc]
              · rw [if_neg (by omega), if_neg hcc, gt _ _ (by omega), hsame]; exact ul c' (by omega)
            · rw [hx]; exact hr
          rw [gt _ _ (by omega), r161, eix c (by omega), zI_nat (by omega), zI_add1, b2i_ne0]
          refine ⟨fun z => go _ ?_, fun z => go _ ?_⟩
          · rw [if_neg (fun y => by have := hsg.mp y; rw [this] at z; cases z)]
          · have z : sg = true := by simpa using z
            rw [if_pos (hsg.mpr z), Int32.zero_sub]
        · rw [show (99 : Nat) + 1 = 100 from rfl, numF_0] at hn ⊢
          rw [if_neg hn] at hr
          have hf3 := nmF_le (B := B) (N := N) (q := qn) (m := 100) (show 2 ≤ 3 by omega)
          have go : ∀ x, bi_in (zI (8 + 4 * xn T + c)) 72 = true ∧ at_X12_readsRow_2 X (d + 4) K E (st_p (st_p (st_p u1 77 3 (zI (nmF B N qn 100 2))) 77 4 (zI (tS B N qn))) 89 (8 + 4 * xn T + c) x) (zI (c + 1)) := by
            intro x
            refine ⟨in_zI (by omega) (by omega), badL m (c + 1) _ (nmF B N qn 100 2, tS B N qn) (by omega) hr (fu1.b.p wLn_89) ?_ ?_ ?_ ?_ (by show 1 ≤ nmF B N qn 100 2; omega) hf3⟩
            · rw [g_p_a (by omega), g_p_k (by omega), g_p_k (by omega)]; exact r141
            · rw [g_p_a (by omega), g_p_k (by omega), g_p_k (by omega)]; exact r161
            · rw [g_p_a (by omega), g_p_k (by omega), g_p_eq]
            · rw [g_p_a (by omega), g_p_eq]
          rw [g_p_k (by omega), g_p_k (by omega), r161, eix c (by omega), zI_nat (by omega), zI_add1]
          exact ⟨fun _ => go _, fun _ => go _⟩
      refine go_X12_readsRow_2 ?_
      rw [r14, zI_le (by omega) (by omega)]
      refine ⟨fun z => by omega, fun _ => ct_isGoodY h3 ⟨fun z => absurd z (by decide), fun _ => ct_isSignR (c := 45) hbB hT rfl (by omega) ?_⟩⟩
      rw [b2i_ne0]
      refine ⟨fun z => go_X12_readsRow_30 ⟨fun _ => num false q' u (Nat.le_refl _) fu hX' (fun _ => rfl) ?_ ⟨fun y => ?_, fun y => by cases y⟩, fun y => absurd rfl y⟩, fun z => ⟨fun y => absurd y (by decide), fun _ => ct_goR hB hT (fun t ht hBt hTt => ?_)⟩⟩
      · have z : ¬ tG B N q' = 45 := by simpa using z
        unfold mnq; rw [if_neg z]
      · have z : ¬ tG B N q' = 45 := by simpa using z
        exact absurd y z
      · have z : tG B N q' = 45 := by simpa using z
        have hadv := tok_adv (B := B) hT.1 (show tK B N q' ≠ 0 by have := G_K (show tG B N q' ≠ 0 by omega); omega)
        exact num true (tE B N q') t (by omega) (fu.rk ht wLg_rk) (RXt_tok hX' ht hBt hTt (by omega)) (fun k => ht.g (wRk_ne (by omega))) (by unfold mnq; rw [if_pos z]) ⟨fun _ => rfl, fun _ => z⟩
  exact en_X12_readsRow (loop (xC T) 0 q1 (fun _ => 0) s (by omega) (Nat.le_refl _) fh.refl h (fun c' hc' => by omega) hr0.symm)
end RROLE
