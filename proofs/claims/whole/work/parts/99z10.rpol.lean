/-! ===== the reference reads a policy ===== -/
section RPOL
theorem RXt_p {s : bi_St} {B : Nat → Nat} {N c q lo a k : Nat} {T : Tx} {v : Int32} (h : RXt s B N c T q lo) (hk : (a = 84 ∧ 7 * xp T ≤ k) ∨ (a = 86 ∧ 6 * xv T ≤ k)) : RXt (st_p s a k v) B N c T q lo := by
  obtain ⟨⟨hB, hT, h3⟩, ⟨r14, r15, r16, r17, r18, r19⟩, hc, hG, hcl, hP, hV⟩ := h
  have g : ∀ c' k', (c' ≠ 84 ∨ k' < 7 * xp T) → (c' ≠ 86 ∨ k' < 6 * xv T) → st_g (st_p s a k v) c' k' = st_g s c' k' := fun c' k' h1 h2 => by rw [g_p, if_neg (by omega)]
  exact ⟨⟨RB_fr (g _ _ (by omega) (by omega)) (fun k => g _ _ (by omega) (by omega)) hB, RT_eq (fun k h1 h2 => g _ _ (by omega) (by omega)) (gl_p _ _ _ _ _ _) hT, by rw [g _ _ (by omega) (by omega)]; exact h3⟩, ⟨by rw [g _ _ (by omega) (by omega)]; exact r14, by rw [g _ _ (by omega) (by omega)]; exact r15, by rw [g _ _ (by omega) (by omega)]; exact r16, by rw [g _ _ (by omega) (by omega)]; exact r17, by rw [g _ _ (by omega) (by omega)]; exact r18, by rw [g _ _ (by omega) (by omega)]; exact r19⟩, hc, fun r hr => by rw [g _ _ (by omega) (by omega)]; exact hG r hr, fun r c h1 h2 => by rw [g _ _ (by omega) (by omega)]; exact hcl r c h1 h2, RP_keep (fun k _ => g _ _ (by omega) (by omega)) (Nat.le_refl _) (fun k hk => g _ _ (by omega) (by omega)) hP, RVw_keep (fun k _ => g _ _ (by omega) (by omega)) (Nat.le_refl _) (fun k hk => g _ _ (by omega) (by omega)) hV⟩
theorem wEx_no {lo c k : Nat} (h1 : c ≠ 77 ∨ k < 3 ∨ (4 < k ∧ k < 7) ∨ (13 < k ∧ k < 19) ∨ 23 < k) (h2 : c ≠ 80 ∨ k < lo) (h3 : c ≠ 81 ∧ c ≠ 82) : wEx lo c k = false := by
  cases hv : wEx lo c k
  · rfl
  · have := wEx_i hv; omega
theorem RXt_expr {s t : bi_St} {B : Nat → Nat} {N c q q' lo : Nat} {T : Tx} {P : Lp} {sil : Bool} (h : RXt s B N c T q lo) (hE : EXt s t B N lo q' P sil) : RXt t B N 3 T q' (lo + (wds P).length + 1) := by
  obtain ⟨⟨_, _, _⟩, ⟨r14, r15, r16, r17, r18, r19⟩, ⟨c2, c3, c4, c5, c6, _⟩, hG, hcl, hP, hV⟩ := h
  obtain ⟨ht, hB, hT, h3, t19, hrc, t22, t23, hb⟩ := hE
  have g : ∀ c k, (c ≠ 77 ∨ k < 3 ∨ (4 < k ∧ k < 7) ∨ (13 < k ∧ k < 19) ∨ 23 < k) → (c ≠ 80 ∨ k < lo) → (c ≠ 81 ∧ c ≠ 82) → st_g t c k = st_g s c k := fun c k h1 h2 h3 => ht.g (wEx_no h1 h2 h3)
  exact ⟨⟨hB, hT, h3⟩, ⟨by rw [g _ _ (by omega) (by omega) (by omega)]; exact r14, by rw [g _ _ (by omega) (by omega) (by omega)]; exact r15, by rw [g _ _ (by omega) (by omega) (by omega)]; exact r16, by rw [g _ _ (by omega) (by omega) (by omega)]; exact r17, by rw [g _ _ (by omega) (by omega) (by omega)]; exact r18, t19⟩, ⟨c2, c3, c4, c5, c6, by omega⟩, fun r hr => by rw [g _ _ (by omega) (by omega) (by omega)]; exact hG r hr, fun r c h1 h2 => by rw [g _ _ (by omega) (by omega) (by omega)]; exact hcl r c h1 h2, RP_keep (fun k hk => g _ _ (by omega) (by omega) (by omega)) (by omega) (fun k _ => g _ _ (by omega) (by omega) (by omega)) hP, RVw_keep (fun k hk => g _ _ (by omega) (by omega) (by omega)) (by omega) (fun k _ => g _ _ (by omega) (by omega) (by omega)) hV⟩
theorem fh.ex {s t u : bi_St} {lo : Nat} (h : fh wLg s t) (k : fr (wEx lo) t u) : fh wLg s u := h.f k (fun a q hq => by have := wEx_i hq; unfold wLg; omega) (fun q => wEx_no (by omega) (by omega) (by omega))
theorem fh.eb {s t u : bi_St} {lo : Nat} (h : fh wLg s t) (k : fr (wEb lo) t u) : fh wLn s u := (h.mono wLg_wLn).f k (fun a q hq => by have := wEb_i hq; unfold wLn; omega) (fun q => by
  cases hv : wEb lo 112 q
  · rfl
  · have := wEb_i hv; omega)
theorem wLg_84 {k : Nat} : wLg 84 k := Or.inr (Or.inr (Or.inl rfl))
theorem wLg_86 {k : Nat} : wLg 86 k := Or.inr (Or.inr (Or.inr (Or.inl rfl)))
theorem wLn_84 {k : Nat} : wLn 84 k := Or.inr (Or.inr (Or.inl rfl))
theorem wLn_86 {k : Nat} : wLn 86 k := Or.inr (Or.inr (Or.inr (Or.inl rfl)))
theorem knI_neg {k : Nat} (hk : k ≤ 25) : (knI k < 0) ↔ k = 25 := by
  unfold knI
  by_cases h : k = 25
  · rw [if_pos h]; exact ⟨fun _ => h, fun _ => by decide⟩
  · rw [if_neg h]; exact ⟨fun z => absurd z (zI_nn (by omega)), fun z => absurd z h⟩
theorem ct_readsPolicy {X : bi_X} {d : Nat} {K : bi_St → Prop} {E : Nat → bi_St → Prop} {s : bi_St} {B : Nat → Nat} {N q1 lo : Nat} {T : Tx} {rs : Bool} (h : RXt s B N 0 T q1 lo) (hR : xp T < 8)
    (kF : ∀ e t, rdPol B N (xC T) (xR T) rs q1 = .inl e → fh wLn s t → st_g t 77 3 = zI e.1 → st_g t 77 4 = zI e.2 → 1 ≤ e.1 → e.1 ≤ 3 → K t)
    (kT : ∀ x t lo', rdPol B N (xC T) (xR T) rs q1 = .inr x → fh wLg s t → RXt t B N 3 (txP T x.1) x.2 lo' → K t) : cV X (d + 8) 198 [.ref 77, .int (b2i rs)] s K E := by
  have e7 : (7 : Int32) * zI (xp T) = zI (7 * xp T) := zI_mul 7 _
  have ea : ∀ j, zI (7 * xp T) + zI j = zI (7 * xp T + j) := fun j => zI_add _ j
  -- behind a fault
  have badP : ∀ m w u e, m + w = 2 → rdPol B N (xC T) (xR T) rs q1 = .inl e → fh wLn s u → st_g u 77 3 = zI e.1 → st_g u 77 4 = zI e.2 → 1 ≤ e.1 → e.1 ≤ 3 → at_X12_readsPolicy_100 X (d + 8) K E u (zI (7 * xp T)) (zI w) := by
    intro m
    induction m with
    | zero =>
      intro w u e h1 hr fu u3 u4 e1 e3
      have e2 : ((2 : Int32) ≤ zI w) ↔ 2 ≤ w := zI_le (a := 2) (by omega) (by omega)
      refine go_X12_readsPolicy_100 ?_
      rw [e2]
      exact ⟨fun _ => ct_isGoodN (by rw [u3]; exact nz3 e1 e3) ⟨fun _ => go_X12_readsPolicy_213 (kF e u hr fu u3 u4 e1 e3), fun z => absurd rfl z⟩, fun z => by omega⟩
    | succ m ih =>
      intro w u e h1 hr fu u3 u4 e1 e3
      have e2 : ((2 : Int32) ≤ zI w) ↔ 2 ≤ w := zI_le (a := 2) (by omega) (by omega)
      refine go_X12_readsPolicy_100 ?_
      rw [e2, show zI (7 * xp T) + 3 = zI (7 * xp T + 3) from ea 3, show zI (7 * xp T) + 5 = zI (7 * xp T + 5) from ea 5, zI_add, zI_add, zI_nat (by omega), zI_nat (by omega)]
      refine ⟨fun z => by omega, fun _ => ⟨in_zI (by omega) (by omega), in_zI (by omega) (by omega), ct_isGoodN (by rw [g_p_a (by omega), g_p_a (by omega), u3]; exact nz3 e1 e3) ⟨fun _ => go_X12_readsPolicy_190 ?_, fun z => absurd rfl z⟩⟩⟩
      rw [zI_add1]
      exact ih (w + 1) _ e (by omega) hr ((fu.p wLn_84).p wLn_84) (by rw [g_p_a (by omega), g_p_a (by omega)]; exact u3) (by rw [g_p_a (by omega), g_p_a (by omega)]; exact u4) e1 e3
  -- 'using' (w = 0), 'check' (1)
  have opt : ∀ w u q' lo', w < 2 → fh wLg s u → RXt u B N 3 T q' lo' → (∀ e, rdOpt B N (xC T) (xR T) q' (11 + w) = .inl e → rdPol B N (xC T) (xR T) rs q1 = .inl e) →
      (∀ U v q'' lo'', rdOpt B N (xC T) (xR T) q' (11 + w) = .inr (U, q'') → fh wLg s v → RXt v B N 3 T q'' lo'' → (∀ k, k ≠ 7 * xp T + 3 + w → k ≠ 7 * xp T + 5 + w → st_g v 84 k = st_g u 84 k) → (∀ k, k < lo' → st_g v 80 k = st_g u 80 k) → lo' ≤ lo'' → ro v lo'' (st_g v 84 (7 * xp T + 3 + w)) U → st_g v 84 (7 * xp T + 5 + w) = plI U → at_X12_readsPolicy_100 X (d + 8) K E v (zI (7 * xp T)) (zI (w + 1))) →
      at_X12_readsPolicy_100 X (d + 8) K E u (zI (7 * xp T)) (zI w) := by
    intro w u q' lo' hw fu hX hbad next
    have e2 : ((2 : Int32) ≤ zI w) ↔ 2 ≤ w := zI_le (a := 2) (by omega) (by omega)
    have e11 : (11 : Int32) + zI w = zI (11 + w) := zI_add 11 w
    refine go_X12_readsPolicy_100 ?_
    rw [e2, show zI (7 * xp T) + 3 = zI (7 * xp T + 3) from ea 3, show zI (7 * xp T) + 5 = zI (7 * xp T + 5) from ea 5, zI_add, zI_add, zI_nat (by omega), zI_nat (by omega), e11]
    refine ⟨fun z => by omega, fun _ => ⟨in_zI (by omega) (by omega), in_zI (by omega) (by omega), ?_⟩⟩
    have f0 : fh wLg s (st_p (st_p u 84 (7 * xp T + 3 + w) (-1)) 84 (7 * xp T + 5 + w) (-1)) := (fu.p wLg_84).p wLg_84
    have hX0 : RXt (st_p (st_p u 84 (7 * xp T + 3 + w) (-1)) 84 (7 * xp T + 5 + w) (-1)) B N 3 T q' lo' := RXt_p (RXt_p hX (Or.inl ⟨rfl, by omega⟩)) (Or.inl ⟨rfl, by omega⟩)
    have g0 : ∀ c k, (c ≠ 84 ∨ (k ≠ 7 * xp T + 3 + w ∧ k ≠ 7 * xp T + 5 + w)) → st_g (st_p (st_p u 84 (7 * xp T + 3 + w) (-1)) 84 (7 * xp T + 5 + w) (-1)) c k = st_g u c k := fun c k hh => by rw [g_p, if_neg (by omega), g_p, if_neg (by omega)]
    have a3 : st_g (st_p (st_p u 84 (7 * xp T + 3 + w) (-1)) 84 (7 * xp T + 5 + w) (-1)) 84 (7 * xp T + 3 + w) = -1 := by rw [g_p_k (by omega), g_p_eq]
    have a5 : st_g (st_p (st_p u 84 (7 * xp T + 3 + w) (-1)) 84 (7 * xp T + 5 + w) (-1)) 84 (7 * xp T + 5 + w) = -1 := g_p_eq _ _ _ _
    generalize st_p (st_p u 84 (7 * xp T + 3 + w) (-1)) 84 (7 * xp T + 5 + w) (-1) = u0 at f0 hX0 g0 a3 a5
    have hX0' := hX0
    obtain ⟨⟨hB, hT, h3⟩, ⟨r14, r15, r16, r17, r18, r19⟩, ⟨c2, c3, c4, c5, c6, hl⟩, hG, hcl, hP, hV⟩ := hX0
    have ek : (knI (kn B N q') = zI (11 + w)) ↔ kn B N q' = 11 + w := knI_eq (n := 11 + w) kn_le (by omega)
    refine ct_isGoodY h3 ⟨fun z => absurd z (by decide), fun _ => ct_knownWord hB.1 hT ?_⟩
    rw [ek]
    refine ⟨fun hk => ?_, fun hk => go_X12_readsPolicy_190 ?_⟩
    · have h0 : tK B N q' ≠ 0 := by have := (kn_lt (B := B) (N := N) (q := q') (by omega)).1; omega
      have hadv := tok_adv (B := B) hT.1 h0
      refine ct_goR hB hT (fun t ht hBt hTt => ?_)
      have hXt : RXt t B N 0 T (tE B N q') lo' := RXt_tok hX0' ht hBt hTt (by omega)
      have ft : fh wLg s t := f0.rk ht wLg_rk
      have hXt1 : RXt (st_p t 84 (7 * xp T + 3 + w) (zI lo')) B N 0 T (tE B N q') lo' := RXt_p hXt (Or.inl ⟨rfl, by omega⟩)
      rw [hXt.2.1.2.2.2.2.2]
      refine ⟨in_zI (by omega) (by omega), ?_⟩
      obtain ⟨⟨hB1, hT1, h31⟩, ⟨r141, r151, _, _, _, r191⟩, ⟨_, _, _, _, _, hl1⟩, _⟩ := id hXt1
      refine ct_expression (d := d) (C := xC T) (R := xR T) (r := exr B N (xC T) (xR T) (tE B N q')) hB1 hT1 h31 r141 r151 ⟨c2, c3⟩ r191 (by omega) (exr_ok hT1.1) (fun v f p he f1 f3 hv v3 v4 => ?_) (fun v q'' P sil he hE => ?_)
      · have ho : rdOpt B N (xC T) (xR T) q' (11 + w) = .inl (f, p) := by unfold rdOpt; rw [if_pos hk, he]
        refine ⟨in_zI (by omega) (by omega), go_X12_readsPolicy_190 ?_⟩
        rw [zI_add1]
        exact badP (1 - w) (w + 1) _ (f, p) (by omega) (hbad _ ho) (((ft.p wLg_84).eb hv).p wLn_84) (by rw [g_p_a (by omega)]; exact v3) (by rw [g_p_a (by omega)]; exact v4) f1 f3
      · have ho : rdOpt B N (xC T) (xR T) q' (11 + w) = .inr (some P, q'') := by unfold rdOpt; rw [if_pos hk, he]
        have hXv := RXt_expr hXt1 hE
        obtain ⟨hv, hBv, hTv, v3, v19, hrc, v22, v23, hbv⟩ := hE
        refine ⟨in_zI (by omega) (by omega), go_X12_readsPolicy_190 ?_⟩
        rw [zI_add1, v22]
        have gv : ∀ k, k ≠ 7 * xp T + 5 + w → st_g (st_p v 84 (7 * xp T + 5 + w) (zI P.length)) 84 k = st_g (st_p t 84 (7 * xp T + 3 + w) (zI lo')) 84 k := fun k hh => by rw [g_p_k hh, hv.g (wEx_no (by omega) (by omega) (by omega))]
        refine next (some P) _ q'' (lo' + (wds P).length + 1) ho (((ft.p wLg_84).ex hv).p wLg_84) (RXt_p hXv (Or.inl ⟨rfl, by omega⟩)) (fun k h1 h2 => ?_) (fun k hk => ?_) (by omega) ⟨lo', ?_, by omega, rc_fr (fun k => g_p_a (by omega)) _ _ hrc⟩ (g_p_eq _ _ _ _)
        · rw [gv k h2, g_p_k h1, ht.g (wRk_ne (by omega)), g0 _ _ (by omega)]
        · rw [g_p_a (by omega), hv.g (wEx_no (by omega) (by omega) (by omega)), g_p_a (by omega), ht.g (wRk_ne (by omega)), g0 _ _ (by omega)]
        · rw [gv _ (by omega), g_p_eq]
    · have ho : rdOpt B N (xC T) (xR T) q' (11 + w) = .inr (none, q') := by unfold rdOpt; rw [if_neg hk]
      rw [zI_add1]
      exact next none u0 q' lo' ho f0 hX0' (fun k h1 h2 => g0 _ _ (by omega)) (fun k _ => g0 _ _ (by omega)) (Nat.le_refl _) a3 a5
  -- from the role's token on
  have s45 : ∀ u, fh wLg s u → RXt u B N 0 T q1 lo → tK B N q1 ≠ 0 → ¬ (kn B N q1 ≠ 10 ∧ nmF B N q1 (xR T) 3 ≠ 0) → st_g u 84 (7 * xp T) = b2i rs → st_g u 84 (7 * xp T + 1) = (if kn B N q1 = 10 then -1 else zI (tV B N q1)) → at_X12_readsPolicy_45 X (d + 8) K E u (zI (7 * xp T)) := by
    intro u fu hX hk1 hno u0 u1
    have hpol : rdPol B N (xC T) (xR T) rs q1 = if 4 < kn B N (tE B N q1) then .inl (1, tS B N (tE B N q1))
      else match rdOpt B N (xC T) (xR T) (tE B N (tE B N q1)) 11 with
        | .inl e => .inl e
        | .inr x => match rdOpt B N (xC T) (xR T) x.2 12 with
          | .inl e => .inl e
          | .inr y => .inr ((rs, (if kn B N q1 = 10 then -1 else zI (tV B N q1)), kn B N (tE B N q1), x.1, y.1), y.2) := by
      unfold rdPol; rw [if_neg hno]; rfl
    have hadv := tok_adv (B := B) hX.1.2.1.1 hk1
    have hlq := hX.2.2.1.2.2.2.2.2
    refine go_X12_readsPolicy_45 (ct_isGoodY hX.1.2.2 ⟨fun _ => ct_goR hX.1.1 hX.1.2.1 (fun t ht hBt hTt => ct_knownWord hBt.1 hTt ?_), fun z => absurd (by decide) z⟩)
    have hXt : RXt t B N 0 T (tE B N q1) lo := RXt_tok hX ht hBt hTt (by omega)
    have ft := fu.rk ht wLg_rk
    have hkl := kn_le (B := B) (N := N) (q := tE B N q1)
    have s71 : 4 < kn B N (tE B N q1) → at_X12_readsPolicy_71 X (d + 8) K E t (zI (7 * xp T)) (knI (kn B N (tE B N q1))) := fun h4 => by
      rw [if_pos h4] at hpol
      refine go_X12_readsPolicy_71 (ct_wrong (f := 1) hXt.1.2.2 hTt.2.2.2.1 (go_X12_readsPolicy_76 (ct_isGoodN (by rw [g_p_k (by omega), g_p_eq]; decide) ⟨fun z => absurd rfl z, fun _ => kF (1, tS B N (tE B N q1)) _ hpol (ft.b) (by rw [g_p_k (by omega), g_p_eq]) (g_p_eq _ _ _ _) (by show 1 ≤ 1; omega) (by show 1 ≤ 3; omega)⟩)))
    rw [knI_neg hkl]
    refine ⟨fun h25 => s71 (by omega), fun n25 => ?_⟩
    have ekn : knI (kn B N (tE B N q1)) = zI (kn B N (tE B N q1)) := by unfold knI; rw [if_neg n25]
    rw [show (knI (kn B N (tE B N q1)) ≤ 4) ↔ kn B N (tE B N q1) ≤ 4 by rw [ekn]; exact zI_le (b := 4) (by omega) (by omega)]
    refine ⟨fun h4 => ?_, fun h4 => s71 (by omega)⟩
    rw [if_neg (show ¬ 4 < kn B N (tE B N q1) by omega)] at hpol
    have hk2 := (kn_lt (B := B) (N := N) (q := tE B N q1) (by omega)).1
    have hadv2 := tok_adv (B := B) hTt.1 (by omega)
    refine go_X12_readsPolicy_76 (ct_isGoodY hXt.1.2.2 ⟨fun _ => ?_, fun z => absurd (by decide) z⟩)
    rw [show zI (7 * xp T) + 2 = zI (7 * xp T + 2) from ea 2, zI_nat (by omega), ekn]
    have hX2 : RXt (st_p t 84 (7 * xp T + 2) (zI (kn B N (tE B N q1)))) B N 0 T (tE B N q1) lo := RXt_p hXt (Or.inl ⟨rfl, by omega⟩)
    refine ⟨in_zI (by omega) (by omega), ct_goR hX2.1.1 hX2.1.2.1 (fun v hv hBv hTv => ?_)⟩
    have hXv : RXt v B N 3 T (tE B N (tE B N q1)) lo := RXt_tok hX2 hv hBv hTv (by omega)
    have gv : ∀ k, k ≠ 7 * xp T + 2 → st_g v 84 k = st_g u 84 k := fun k hh => by rw [hv.g (wRk_ne (by omega)), g_p_k hh, ht.g (wRk_ne (by omega))]
    have v2 : st_g v 84 (7 * xp T + 2) = zI (kn B N (tE B N q1)) := by rw [hv.g (wRk_ne (by omega)), g_p_eq]
    have fv : fh wLg s v := (ft.p wLg_84).rk hv wLg_rk
    refine opt 0 v _ lo (by omega) fv hXv (fun e he => ?_) (fun U w q3 lo3 ho fw hXw gw lw hlw roU plU => ?_)
    · have he : rdOpt B N (xC T) (xR T) (tE B N (tE B N q1)) 11 = .inl e := he
      rw [he] at hpol; exact hpol
    · have ho : rdOpt B N (xC T) (xR T) (tE B N (tE B N q1)) 11 = .inr (U, q3) := ho
      rw [ho] at hpol
      simp only at hpol
      refine opt 1 w q3 lo3 (by omega) fw hXw (fun e he => ?_) (fun W y q4 lo4 ho2 fy hXy gy ly hly roW plW => ?_)
      · have he : rdOpt B N (xC T) (xR T) q3 12 = .inl e := he
        rw [he] at hpol; exact hpol
      · have ho2 : rdOpt B N (xC T) (xR T) q3 12 = .inr (W, q4) := ho2
        rw [ho2] at hpol
        simp only at hpol
        have e22 : ((2 : Int32) ≤ zI (1 + 1)) ↔ 2 ≤ 2 := zI_le (a := 2) (by omega) (by omega)
        refine go_X12_readsPolicy_100 ?_
        rw [e22]
        refine ⟨fun _ => ct_isGoodY hXy.1.2.2 ⟨fun z => absurd z (by decide), fun _ => go_X12_readsPolicy_213 ?_⟩, fun z => absurd (Nat.le_refl 2) z⟩
        obtain ⟨⟨hBy, hTy, h3y⟩, ⟨y14, y15, y16, y17, y18, y19⟩, ⟨c2, c3, c4, c5, c6, hl⟩, hG, hcl, hP, hV⟩ := hXy
        rw [y17, zI_add1]
        have g : ∀ c k, (c ≠ 77 ∨ k ≠ 17) → st_g (st_p y 77 17 (zI (xp T + 1))) c k = st_g y c k := fun c k h1 => by rw [g_p, if_neg (by omega)]
        refine kT ((rs, (if kn B N q1 = 10 then -1 else zI (tV B N q1)), kn B N (tE B N q1), U, W), q4) _ lo4 hpol (fy.p (wLg_77 (by omega) (by omega))) ⟨⟨RB_fr (g _ _ (by omega)) (fun k => g _ _ (by omega)) hBy, RT_eq (fun k h1 h2 => g _ _ (by omega)) (gl_p _ _ _ _ _ _) hTy, by rw [g _ _ (by omega)]; exact h3y⟩, ⟨by rw [g _ _ (by omega)]; exact y14, by rw [g _ _ (by omega)]; exact y15, by rw [g _ _ (by omega)]; exact y16, g_p_eq _ _ _ _, by rw [g _ _ (by omega)]; exact y18, by rw [g _ _ (by omega)]; exact y19⟩, ⟨c2, c3, c4, by show xp T + 1 ≤ 8; omega, c6, hl⟩, fun r hr => by rw [g _ _ (by omega)]; exact hG r hr, fun r c' h1 h2 => by rw [g _ _ (by omega)]; exact hcl r c' h1 h2, fun i hi => ?_, RVw_keep (fun k _ => g _ _ (by omega)) (Nat.le_refl _) (fun k _ => g _ _ (by omega)) hV⟩
        have hi : i < xp T + 1 := hi
        have hP' := RP_keep (t := st_p y 77 17 (zI (xp T + 1))) (fun k _ => g _ _ (by omega)) (Nat.le_refl _) (fun k _ => g _ _ (by omega)) hP
        show _ = b2i (va_up (xf T) (xp T) _ i).1 ∧ _ = (va_up (xf T) (xp T) _ i).2.1 ∧ _ = zI (va_up (xf T) (xp T) _ i).2.2.1 ∧ ro _ lo4 _ (va_up (xf T) (xp T) _ i).2.2.2.1 ∧ ro _ lo4 _ (va_up (xf T) (xp T) _ i).2.2.2.2 ∧ _ = plI (va_up (xf T) (xp T) _ i).2.2.2.1 ∧ _ = plI (va_up (xf T) (xp T) _ i).2.2.2.2
        rw [va_upe]
        by_cases hip : i = xp T
        · rw [if_pos hip, hip]
          have k80 : ∀ k, st_g (st_p y 77 17 (zI (xp T + 1))) 80 k = st_g y 80 k := fun k => g _ _ (by omega)
          refine ⟨?_, ?_, ?_, ?_, ?_, ?_, ?_⟩
          · rw [g _ _ (by omega), gy _ (by omega) (by omega), gw _ (by omega) (by omega), gv _ (by omega)]; exact u0
          · rw [g _ _ (by omega), gy _ (by omega) (by omega), gw _ (by omega) (by omega), gv _ (by omega)]; exact u1
          · rw [g _ _ (by omega), gy _ (by omega) (by omega), gw _ (by omega) (by omega)]; exact v2
          · rw [g _ _ (by omega), gy _ (by omega) (by omega)]
            exact ro_keep (fun k _ => k80 k) (Nat.le_refl _) (ro_keep ly hly roU)
          · rw [g _ _ (by omega)]
            exact ro_keep (fun k _ => k80 k) (Nat.le_refl _) roW
          · rw [g _ _ (by omega), gy _ (by omega) (by omega)]; exact plU
          · rw [g _ _ (by omega)]; exact plW
        · rw [if_neg hip]
          exact hP' i (by omega)
  have r17 := h.2.1.2.2.2.1
  refine en_X12_readsPolicy ?_
  rw [r17, e7, zI_nat (by omega), show zI (7 * xp T) + 1 = zI (7 * xp T + 1) from ea 1, zI_nat (by omega)]
  have f0 : fh wLg s (st_p (st_p s 84 (7 * xp T) (b2i rs)) 84 (7 * xp T + 1) (-1)) := (fh.refl.p wLg_84).p wLg_84
  have hX0 : RXt (st_p (st_p s 84 (7 * xp T) (b2i rs)) 84 (7 * xp T + 1) (-1)) B N 0 T q1 lo := RXt_p (RXt_p h (Or.inl ⟨rfl, by omega⟩)) (Or.inl ⟨rfl, by omega⟩)
  have z0 : st_g (st_p (st_p s 84 (7 * xp T) (b2i rs)) 84 (7 * xp T + 1) (-1)) 84 (7 * xp T) = b2i rs := by rw [g_p_k (by omega), g_p_eq]
  have z1 : st_g (st_p (st_p s 84 (7 * xp T) (b2i rs)) 84 (7 * xp T + 1) (-1)) 84 (7 * xp T + 1) = -1 := g_p_eq _ _ _ _
  generalize st_p (st_p s 84 (7 * xp T) (b2i rs)) 84 (7 * xp T + 1) (-1) = s0 at f0 hX0 z0 z1
  refine ⟨in_zI (by omega) (by omega), in_zI (by omega) (by omega), ct_knownWord hX0.1.1.1 hX0.1.2.1 ?_⟩
  have e10 : (knI (kn B N q1) = 10) ↔ kn B N q1 = 10 := knI_eq (n := 10) kn_le (by omega)
  rw [e10]
  refine ⟨fun k10 => s45 s0 f0 hX0 (by have := (kn_lt (B := B) (N := N) (q := q1) (by omega)).1; omega) (fun y => y.1 k10) z0 (by rw [if_pos k10]; exact z1), fun n10 => ct_roleHere hX0.1.1 hX0.1.2.1 hX0.1.2.2 hX0.2.1.2.1 (by have := hX0.2.2.1.2.1; omega) (fun hn k2 hlt => ⟨in_zI (by omega) (by omega), s45 _ (f0.p wLg_84) (RXt_p hX0 (Or.inl ⟨rfl, by omega⟩)) (by omega) (fun y => y.2 hn) (by rw [g_p_k (by omega)]; exact z0) (by rw [if_neg n10, g_p_eq])⟩) (fun hn v => ⟨in_zI (by omega) (by omega), ?_⟩)⟩
  have hpol : rdPol B N (xC T) (xR T) rs q1 = .inl (nmF B N q1 (xR T) 3, tS B N q1) := by unfold rdPol; rw [if_pos ⟨n10, hn⟩]
  have hf3 := nmF_le (B := B) (N := N) (q := q1) (m := xR T) (show 3 ≤ 3 by omega)
  refine go_X12_readsPolicy_45 (ct_isGoodN (by rw [g_p_a (by omega), g_p_k (by omega), g_p_eq]; exact nz3 (by omega) hf3) ⟨fun z => absurd rfl z, fun _ => kF _ _ hpol (f0.b.p wLn_84) ?_ ?_ (by show 1 ≤ nmF B N q1 (xR T) 3; omega) hf3⟩)
  · rw [g_p_a (by omega), g_p_k (by omega), g_p_eq]
  · rw [g_p_a (by omega), g_p_eq]
end RPOL
