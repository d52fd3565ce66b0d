/-! ===== the class reads a policy ===== -/
section CPOL2
theorem CA_eq {s t : bi_St} {a : Nat} {T T' : Tx} (h : ∀ c k, a ≤ c → c ≤ a + 5 → st_g t c k = st_g s c k) (e1 : xn T' = xn T) (e2 : ∀ r, xG T' r = xG T r) (e3 : xR T' = xR T) (e4 : xC T' = xC T) (e5 : ∀ r c, xc T' r c = xc T r c) (hA : CA s a T) : CA t a T' := by
  obtain ⟨a1, a2, a3, a4, a5, a6, a7, a8⟩ := hA
  exact ⟨by rw [h _ _ (by omega) (by omega), e1]; exact a1, fun r hr => by rw [h _ _ (by omega) (by omega), e2]; exact a2 r hr, fun r h1 h2 => by rw [e2]; exact a3 r (by omega) h2, fun r hr => by rw [e2]; exact a4 r hr, fun r c h1 h2 => by rw [h _ _ (by omega) (by omega), e5]; exact a5 r c (by omega) (by omega), by rw [h _ _ (by omega) (by omega)]; exact a6, by rw [h _ _ (by omega) (by omega)]; exact a7, by rw [h _ _ (by omega) (by omega)]; exact a8⟩
theorem tb_if {x : Int32} {p i : Nat} {c : Prop} [Decidable c] (hp : p < 32) (hi : i < 32) : tb (x ||| (if c then s1 p else 0)) i = (tb x i || (decide c && decide (i = p))) := by
  rw [tb_or]
  by_cases hc : c
  · rw [if_pos hc, tb_s1 hp hi, decide_eq_true hc]; simp
  · rw [if_neg hc, tb_0, decide_eq_false hc]; simp
theorem ct_readPolicy {X : bi_X} {d : Nat} {K : Int32 → bi_St → Prop} {E : Nat → bi_St → Prop} {s : bi_St} {B : Nat → Nat} {N b a q sz lo : Nat} {T : Tx} (h : CX s B N b a T q sz lo) (hk : kn B N q = 8 ∨ kn B N q = 9)
    (kF : ∀ e t, lin B N T q = .inl e → fg (wTx b a) s t → st_g t 1 9 = zI e.1 → st_g t 1 10 = zI e.2 → 1 ≤ e.1 → e.1 ≤ 3 → K 0 t)
    (kT : ∀ x t sz' lo', lin B N T q = .inr x → fg (wTx b a) s t → CX t B N b a x.1 x.2 sz' lo' → q < x.2 → K 1 t) : cI X (d + 58) 108 [.ref 43] s K E := by
  obtain ⟨⟨hT, hC, h9⟩, ⟨g4, g5, hb, ha⟩, ⟨b0, b1, b2, b8⟩, ⟨c1, c2, c3, c4, c5, c6⟩, ⟨hE, hlo, hsz⟩, ⟨hp, hv⟩, hbits, hA⟩ := h
  have hbr := isB_r hb
  have har := isS_r ha
  have hN := hT.1
  have hlin : lin B N T q = if xp T = 8 then .inl (2, tS B N q) else fmap (txP T) (rdPol B N (xC T) (xR T) (decide (kn B N q = 9)) (tE B N q)) := by unfold lin; rw [if_neg (by omega), if_neg (by omega), if_pos hk]
  rw [hlin] at kF kT
  have e8 : (zI (xp T) < 8) ↔ xp T < 8 := zI_lt (b := 8) (by omega) (by omega)
  refine en_X9_readPolicy ?_
  simp only [gp_p, g4, b2, e8]
  refine ⟨hb, fun hR => ?_, fun hR => ct_refC (f := 2) hC (fun t ht t9 t10 => ⟨rfl, kF (2, tS B N q) t (if_pos (by omega)) (ht.mono wF_Tx) t9 t10 (by show 1 ≤ 2; omega) (by show 2 ≤ 3; omega)⟩)⟩
  rw [if_neg (show ¬ xp T = 8 by omega)] at kF kT
  rw [zI_nat (by omega)]
  have gb2 : ∀ v w, st_g (st_p (st_p s (b + 3) (xp T) v) (b + 4) (xp T) w) b 2 = zI (xp T) := fun v w => by rw [g_p_a (by omega), g_p_a (by omega)]; exact b2
  rw [gb2, zI_add1]
  refine ⟨hb, in_zI hR (by omega), hb, in_zI hR (by omega), hb, ?_⟩
  obtain ⟨W1, hW1⟩ : ∃ W1 : Nat → Nat → Prop, W1 = fun c k => (c = 1 ∧ 3 ≤ k) ∨ c = 44 ∨ (c = b ∧ (k = 2 ∨ k = 3)) ∨ ((b + 1 ≤ c ∧ c ≤ b + 4) ∧ k = xp T) ∨ (b + 8 ≤ c ∧ c ≤ b + 11 ∧ ¬ (c = b + 8 ∧ k = 3)) := ⟨_, rfl⟩
  have wTx1 : ∀ c k, W1 c k → wTx b a c k := fun c k hh => by rw [hW1] at hh; unfold wTx; omega
  have wy : ∀ c k, ((c = 1 ∧ 3 ≤ k) ∨ c = 44 ∨ (c = b ∧ (k = 2 ∨ k = 3)) ∨ ((b + 1 ≤ c ∧ c ≤ b + 4) ∧ k = xp T) ∨ (b + 8 ≤ c ∧ c ≤ b + 11 ∧ ¬ (c = b + 8 ∧ k = 3))) → W1 c k := fun c k hh => by rw [hW1]; exact hh
  have wn : ∀ c k, ¬ ((c = 1 ∧ 3 ≤ k) ∨ c = 44 ∨ (c = b ∧ (k = 2 ∨ k = 3)) ∨ ((b + 1 ≤ c ∧ c ≤ b + 4) ∧ k = xp T) ∨ (b + 8 ≤ c ∧ c ≤ b + 11 ∧ ¬ (c = b + 8 ∧ k = 3))) → ¬ W1 c k := fun c k hh => by rw [hW1]; exact hh
  have f0 : fg W1 s (st_p (st_p (st_p s (b + 3) (xp T) (-1)) (b + 4) (xp T) (-1)) b 2 (zI (xp T + 1))) := ((fg.refl.p (wy _ _ (by omega))).p (wy _ _ (by omega))).p (wy _ _ (by omega))
  have g0 : ∀ c k, (c ≠ b + 3 ∧ c ≠ b + 4 ∨ k ≠ xp T) → (c ≠ b ∨ k ≠ 2) → st_g (st_p (st_p (st_p s (b + 3) (xp T) (-1)) (b + 4) (xp T) (-1)) b 2 (zI (xp T + 1))) c k = st_g s c k := fun c k h1 h2 => by rw [g_p, if_neg (by omega), g_p, if_neg (by omega), g_p, if_neg (by omega)]
  have s3 : st_g (st_p (st_p (st_p s (b + 3) (xp T) (-1)) (b + 4) (xp T) (-1)) b 2 (zI (xp T + 1))) (b + 3) (xp T) = -1 := by rw [g_p_a (by omega), g_p_a (by omega), g_p_eq]
  have s4 : st_g (st_p (st_p (st_p s (b + 3) (xp T) (-1)) (b + 4) (xp T) (-1)) b 2 (zI (xp T + 1))) (b + 4) (xp T) = -1 := by rw [g_p_a (by omega), g_p_eq]
  have s2 : st_g (st_p (st_p (st_p s (b + 3) (xp T) (-1)) (b + 4) (xp T) (-1)) b 2 (zI (xp T + 1))) b 2 = zI (xp T + 1) := g_p_eq _ _ _ _
  have s4g : st_gp (st_p (st_p (st_p s (b + 3) (xp T) (-1)) (b + 4) (xp T) (-1)) b 2 (zI (xp T + 1))) 4 = b := g4
  generalize st_p (st_p (st_p s (b + 3) (xp T) (-1)) (b + 4) (xp T) (-1)) b 2 (zI (xp T + 1)) = s0 at f0 g0 s3 s4 s2 s4g
  -- the end: nothing is wanting
  obtain ⟨V3, hV3⟩ : ∃ V3, V3 = (st_g s b 3 ||| (if kn B N q = 9 then s1 (xp T) else 0)) := ⟨_, rfl⟩
  have fin : ∀ u q4 sz4 lo4 (x : Pol), fg W1 s u → TB u B N → CT u B N q4 → st_g u 1 9 = 0 → RE u (b + 8) sz4 lo4 → lo4 ≤ q4 → sz4 ≤ 2 * (xp T + 1) + xv T → (∀ C n P sil, rx s (b + 8) C n P sil → rx u (b + 8) C n P sil) → st_g u b 3 = V3 → st_g u b 2 = zI (xp T + 1) → x.1 = decide (kn B N q = 9) → st_g u (b + 1) (xp T) = x.2.1 → st_g u (b + 2) (xp T) = zI x.2.2.1 → x.2.2.1 ≤ 4 → (x.2.1 = -1 ∨ ∃ r, r < 6 ∧ x.2.1 = zI r) → prl u (b + 8) (xC T) (st_g u (b + 3) (xp T)) x.2.2.2.1 → prl u (b + 8) (xC T) (st_g u (b + 4) (xp T)) x.2.2.2.2 → rdPol B N (xC T) (xR T) (decide (kn B N q = 9)) (tE B N q) = .inr (x, q4) → q < q4 → K 1 u := by
    intro u q4 sz4 lo4 x fu hTu hCu u9 hEu hlo4 hsz4 hkeep u3 u2 x1 x2 x3 x4 x5 x6 x7 hr hq4
    have hKP : KP s u b (xp T) (xv T) := ⟨fun i hi => ⟨by rw [u3, hV3, tb_if (by omega) (by omega), decide_eq_false (show ¬ i = xp T by omega)]; simp, fun j h1 h2 => fu.g (wn _ _ (by omega))⟩, fun i hi => ⟨by rw [fu.g (wn _ _ (by omega))], fun j h1 h2 => fu.g (wn _ _ (by omega))⟩, hkeep⟩
    have hp' := BKp_KP hKP hp
    have hv' := BKv_KP hKP hv
    refine kT (txP T x, q4) u sz4 lo4 (by rw [hr]; rfl) (fu.mono wTx1) ⟨⟨hTu, hCu, u9⟩, ⟨by rw [fu.2.1 _ (by omega)]; exact g4, by rw [fu.2.1 _ (by omega)]; exact g5, hb, ha⟩, ⟨by rw [fu.g (wn _ _ (by omega))]; exact b0, by rw [fu.g (wn _ _ (by omega))]; exact b1, u2, by rw [fu.g (wn _ _ (by omega))]; exact b8⟩, ⟨c1, c2, c3, c4, by show xp T + 1 ≤ 8; omega, c6⟩, ⟨hEu, hlo4, hsz4⟩, ⟨fun i hi => ?_, hv'⟩, ⟨fun i h1 h2 => ?_, fun i h1 h2 => by rw [fu.g (wn _ _ (by omega))]; exact hbits.2 i h1 h2⟩, CA_eq (fun c k h1 h2 => fu.g (wn _ _ (by omega))) rfl (fun _ => rfl) rfl rfl (fun _ _ => rfl) hA⟩ hq4
    · have hi : i < xp T + 1 := hi
      show _ = (va_up (xf T) (xp T) x i).1 ∧ _ = (va_up (xf T) (xp T) x i).2.1 ∧ _ = zI (va_up (xf T) (xp T) x i).2.2.1 ∧ (va_up (xf T) (xp T) x i).2.2.1 ≤ 4 ∧ ((va_up (xf T) (xp T) x i).2.1 = -1 ∨ ∃ r, r < 6 ∧ (va_up (xf T) (xp T) x i).2.1 = zI r) ∧ prl u (b + 8) (xC T) (st_g u (b + 3) i) (va_up (xf T) (xp T) x i).2.2.2.1 ∧ prl u (b + 8) (xC T) (st_g u (b + 4) i) (va_up (xf T) (xp T) x i).2.2.2.2
      rw [va_upe]
      by_cases hip : i = xp T
      · rw [if_pos hip, hip]
        refine ⟨?_, x2, x3, x4, x5, x6, x7⟩
        rw [u3, hV3, tb_if (by omega) (by omega), hbits.1 _ (Nat.le_refl _) (by omega), x1]; simp
      · rw [if_neg hip]
        exact hp' i (by omega)
    · have h1 : xp T + 1 ≤ i := h1
      rw [u3, hV3, tb_if (by omega) (by omega), hbits.1 i (by omega) h2, decide_eq_false (show ¬ i = xp T by omega)]; simp
  have bad : ∀ u e, fg W1 s u → st_g u 1 9 = zI e.1 → st_g u 1 10 = zI e.2 → 1 ≤ e.1 → e.1 ≤ 3 → rdPol B N (xC T) (xR T) (decide (kn B N q = 9)) (tE B N q) = .inl e → K 0 u := fun u e fu u9 u10 e1 e3 hr => kF e u (by rw [hr]; rfl) (fu.mono wTx1) u9 u10 e1 e3
  have nz : ∀ n, 1 ≤ n → n ≤ 3 → ¬ zI n = 0 := fun n h1 h3 z => by have := (zI_eq (b := 0) (show n < 2147483648 by omega) (by omega)).mp z; omega
  have wOp1 : ∀ j, 3 ≤ j → j ≤ 4 → ∀ c k, wOp b j (xp T) c k → W1 c k := fun j h1 h2 c k hh => wy c k (by unfold wOp wRl2 at hh; omega)
  have hCt : CT s0 B N q := CT_fr (fun k h1 h2 => g0 _ _ (by omega) (by omega)) hC
  have hTt : TB s0 B N := TB_fr (g0 _ _ (by omega) (by omega)) (fun k => g0 _ _ (by omega) (by omega)) hT
  refine ct_readWhose (d := d + 53) (b := b) (R := xR T) hTt hCt hb s4g (by rw [g0 _ _ (by omega) (by omega)]; exact b1) c3 hR hk (fun hc t ht t9 t10 => ⟨fun z => absurd rfl z, fun _ => ?_⟩) (fun hc hc2 t ht t9 t10 => ⟨fun z => absurd rfl z, fun _ => ?_⟩) (fun hc hc2 t ht hTt2 hCt2 hq2 t3 t1 hlt t2 => ⟨fun _ => ?_, fun z => absurd (by decide) z⟩)
  · refine bad t (nmF B N (tE B N q) (xR T) 3, tS B N (tE B N q)) (f0.trans (ht.mono (fun c k hh => wy c k (by omega)))) t9 t10 (by show 1 ≤ nmF B N (tE B N q) (xR T) 3; have := hc.2; omega) (nmF_le (by omega)) ?_
    unfold rdPol; rw [if_pos hc]
  · refine bad t (1, tS B N (tE B N (tE B N q))) (f0.trans (ht.mono (fun c k hh => wy c k (by omega)))) t9 t10 (by show 1 ≤ 1; omega) (by show 1 ≤ 3; omega) ?_
    unfold rdPol; rw [if_neg hc, if_pos hc2]
  have hpol : rdPol B N (xC T) (xR T) (decide (kn B N q = 9)) (tE B N q) = match rdOpt B N (xC T) (xR T) (tE B N (tE B N (tE B N q))) 11 with
    | .inl e => .inl e
    | .inr x => match rdOpt B N (xC T) (xR T) x.2 12 with
      | .inl e => .inl e
      | .inr y => .inr ((decide (kn B N q = 9), (if kn B N (tE B N q) = 10 then -1 else zI (tV B N (tE B N q))), kn B N (tE B N (tE B N q)), x.1, y.1), y.2) := by
    unfold rdPol; rw [if_neg hc, if_neg hc2]; rfl
  have ft := f0.trans (ht.mono (fun c k hh => wy c k (by omega)))
  have gt : ∀ c k, ¬ ((c = 1 ∧ 3 ≤ k ∧ k ≤ 8) ∨ (c = b ∧ k = 3) ∨ ((c = b + 1 ∨ c = b + 2) ∧ k = xp T)) → (c ≠ b + 3 ∧ c ≠ b + 4 ∨ k ≠ xp T) → (c ≠ b ∨ k ≠ 2) → st_g t c k = st_g s c k := fun c k h1 h2 h3 => by rw [ht.g h1, g0 _ _ h2 h3]
  have t4g : st_gp t 4 = b := by rw [ht.2.1 _ (by omega)]; exact s4g
  have tb0 : st_g t b 0 = zI (xC T) := by rw [gt _ _ (by omega) (by omega) (by omega)]; exact b0
  have tb1 : st_g t b 1 = zI (xR T) := by rw [gt _ _ (by omega) (by omega) (by omega)]; exact b1
  have tb2 : st_g t b 2 = zI (xp T + 1) := by rw [ht.g (by omega)]; exact s2
  have tb3 : st_g t b 3 = V3 := by rw [t3, g0 _ _ (by omega) (by omega), hV3]
  have t33 : st_g t (b + 3) (xp T) = -1 := by rw [ht.g (by omega)]; exact s3
  have t44 : st_g t (b + 4) (xp T) = -1 := by rw [ht.g (by omega)]; exact s4
  have t9 : st_g t 1 9 = 0 := by rw [gt _ _ (by omega) (by omega) (by omega)]; exact h9
  rw [t4g, tb0, tb1]
  refine ⟨hb, hb, hb, en_X4_aim (st_isR_B hb) ?_⟩
  have fu0 : fg W1 s (st_p (st_p (st_pp t 6 (b + 8)) 44 2 (zI (xC T))) 44 3 (zI (xR T))) := ((ft.pp).p (wy _ _ (by omega))).p (wy _ _ (by omega))
  have gu : ∀ c k, c ≠ 44 → st_g (st_p (st_p (st_pp t 6 (b + 8)) 44 2 (zI (xC T))) 44 3 (zI (xR T))) c k = st_g t c k := fun c k h1 => by rw [g_p_a h1, g_p_a h1, g_pp]
  have u44a : st_g (st_p (st_p (st_pp t 6 (b + 8)) 44 2 (zI (xC T))) 44 3 (zI (xR T))) 44 2 = zI (xC T) := by rw [g_p_k (by omega), g_p_eq]
  have u44b : st_g (st_p (st_p (st_pp t 6 (b + 8)) 44 2 (zI (xC T))) 44 3 (zI (xR T))) 44 3 = zI (xR T) := g_p_eq _ _ _ _
  have u6 : st_gp (st_p (st_p (st_pp t 6 (b + 8)) 44 2 (zI (xC T))) 44 3 (zI (xR T))) 6 = b + 8 := by rw [gp_p, gp_p, gp_pp, if_pos rfl]
  have u4 : st_gp (st_p (st_p (st_pp t 6 (b + 8)) 44 2 (zI (xC T))) 44 3 (zI (xR T))) 4 = b := by rw [gp_p, gp_p, gp_pp, if_neg (by omega)]; exact t4g
  generalize st_p (st_p (st_pp t 6 (b + 8)) 44 2 (zI (xC T))) 44 3 (zI (xR T)) = u at fu0 gu u44a u44b u6 u4
  have hTu : TB u B N := TB_fr (gu _ _ (by omega)) (fun k => gu _ _ (by omega)) hTt2
  have hCu : CT u B N (tE B N (tE B N (tE B N q))) := CT_fr (fun k h1 h2 => gu _ _ (by omega)) hCt2
  have hEu : RE u (b + 8) sz lo := RE_eq (fun k => by rw [gu _ _ (by omega), gt _ _ (by omega) (by omega) (by omega)]) (fun k => by rw [gu _ _ (by omega), gt _ _ (by omega) (by omega) (by omega)]) hE
  have keepu : ∀ C n P sil, rx s (b + 8) C n P sil → rx u (b + 8) C n P sil := fun C n P sil hr => rx_fr (fun c k h1 h2 => by rw [gu _ _ (by omega), gt _ _ (by omega) (by omega) (by omega)]) hr
  have hrole : (if kn B N (tE B N q) = 10 then (-1 : Int32) else zI (tV B N (tE B N q))) = -1 ∨ ∃ r, r < 6 ∧ (if kn B N (tE B N q) = 10 then (-1 : Int32) else zI (tV B N (tE B N q))) = zI r := by
    by_cases h10 : kn B N (tE B N q) = 10
    · rw [if_pos h10]; exact Or.inl rfl
    · rw [if_neg h10]; exact Or.inr ⟨_, by have := hlt h10; omega, rfl⟩
  -- from 'check' on
  have s129 : ∀ v q3 sz3 lo3 (U : Option Lp), fg W1 s v → TB v B N → CT v B N q3 → st_g v 1 9 = 0 → st_gp v 6 = b + 8 → st_g v 44 2 = zI (xC T) → st_g v 44 3 = zI (xR T) → RE v (b + 8) sz3 lo3 → lo3 ≤ q3 → sz3 ≤ 2 * xp T + 1 + xv T → (∀ C n P sil, rx s (b + 8) C n P sil → rx v (b + 8) C n P sil) → st_g v b 3 = V3 → st_g v b 2 = zI (xp T + 1) → st_g v (b + 1) (xp T) = (if kn B N (tE B N q) = 10 then -1 else zI (tV B N (tE B N q))) → st_g v (b + 2) (xp T) = zI (kn B N (tE B N (tE B N q))) → prl v (b + 8) (xC T) (st_g v (b + 3) (xp T)) U → st_g v (b + 4) (xp T) = -1 → rdOpt B N (xC T) (xR T) (tE B N (tE B N (tE B N q))) 11 = .inr (U, q3) → q < q3 → at_X9_readPolicy_129 X (d + 58) K E v (zI (xp T)) := by
    intro v q3 sz3 lo3 U fv hTv hCv v9 v6 v44a v44b hEv hlo3 hsz3 hkeep v3 v2 v1 v2' hU v4 hopt hq3
    rw [hopt] at hpol
    simp only at hpol
    refine go_X9_readPolicy_129 ⟨fun z => absurd v9 z, fun _ => ?_⟩
    refine ct_opt (d := d) (b := b) (p := xp T) (j := 4) (jw := 13) (pn := (zI (xp T)).toNatClampNeg) (F := fun s => at_X9_readPolicy_174 X (d + 58) K E s) (zI_nat (by omega)) hTv hCv hb (by rw [fv.2.1 _ (by omega)]; exact g4) v6 v44a v44b ⟨c2, c3⟩ hEv (by omega) hlo3 hR (by omega) (by omega) (fun hn => ?_) (fun e w hkw he hw w9 w10 e1 e3 => ?_) (fun x w hkw he hw w9 hTw hCw hqw hEw hlw hkw2 wj hrx _ => ?_)
    · have hn : kn B N q3 ≠ 12 := hn
      have ho : rdOpt B N (xC T) (xR T) q3 12 = .inr (none, q3) := by unfold rdOpt; rw [if_neg hn]
      rw [ho] at hpol
      simp only at hpol
      exact go_X9_readPolicy_174 ⟨fun z => absurd v9 z, fun _ => fin v q3 sz3 lo3 (decide (kn B N q = 9), (if kn B N (tE B N q) = 10 then -1 else zI (tV B N (tE B N q))), kn B N (tE B N (tE B N q)), U, none) fv hTv hCv v9 hEv hlo3 (by omega) hkeep v3 v2 rfl v1 v2' (by show kn B N (tE B N (tE B N q)) ≤ 4; omega) hrole hU v4 hpol hq3⟩
    · have hkw : kn B N q3 = 12 := hkw
      have ho : rdOpt B N (xC T) (xR T) q3 12 = .inl e := by unfold rdOpt; rw [if_pos hkw, he]
      rw [ho] at hpol
      simp only at hpol
      refine go_X9_readPolicy_174 ⟨fun _ => bad w e (fv.trans (hw.mono (wOp1 4 (by omega) (by omega)))) w9 w10 e1 e3 hpol, fun z => absurd (fun y => ?_) z⟩
      rw [w9] at y; exact nz _ e1 e3 y
    · have hkw : kn B N q3 = 12 := hkw
      have ho : rdOpt B N (xC T) (xR T) q3 12 = .inr (some x.2.1, x.1) := by unfold rdOpt; rw [if_pos hkw, he]
      rw [ho] at hpol
      simp only at hpol
      have gw : ∀ c k, ¬ wOp b 4 (xp T) c k → st_g w c k = st_g v c k := fun c k hh => hw.g hh
      have wno : ∀ c k, (c ≠ 1) → (c ≠ 44 ∨ k ≠ 4) → (c < b + 8 ∨ b + 11 < c) → (c ≠ b + 4 ∨ k ≠ xp T) → ¬ wOp b 4 (xp T) c k := fun c k h1 h2 h3 h4 hh => by unfold wOp wRl2 at hh; omega
      refine go_X9_readPolicy_174 ⟨fun z => absurd (by rw [w9]; exact v9) z, fun _ => fin w x.1 (sz3 + 1) (lo3 + x.2.1.length) (decide (kn B N q = 9), (if kn B N (tE B N q) = 10 then -1 else zI (tV B N (tE B N q))), kn B N (tE B N (tE B N q)), U, some x.2.1) (fv.trans (hw.mono (wOp1 4 (by omega) (by omega)))) hTw hCw (by rw [w9]; exact v9) hEw hlw (by omega) (fun C n P sil hr => hkw2 _ _ _ _ (hkeep _ _ _ _ hr)) (by rw [gw _ _ (wno _ _ (by omega) (by omega) (by omega) (by omega))]; exact v3) (by rw [gw _ _ (wno _ _ (by omega) (by omega) (by omega) (by omega))]; exact v2) rfl (by rw [gw _ _ (wno _ _ (by omega) (by omega) (by omega) (by omega))]; exact v1) (by rw [gw _ _ (wno _ _ (by omega) (by omega) (by omega) (by omega))]; exact v2') (by show kn B N (tE B N (tE B N q)) ≤ 4; omega) hrole ?_ ⟨sz3, x.2.2, wj, hrx⟩ hpol (by omega)⟩
      rw [gw _ _ (wno _ _ (by omega) (by omega) (by omega) (by omega))]
      exact prl_KP hkw2 hU
  refine ct_opt (d := d) (b := b) (p := xp T) (j := 3) (jw := 12) (F := fun s => at_X9_readPolicy_129 X (d + 58) K E s (zI (xp T))) rfl hTu hCu hb u4 u6 u44a u44b ⟨c2, c3⟩ hEu (by omega) (by omega) hR (by omega) (by omega) (fun hn => ?_) (fun e w hkw he hw w9 w10 e1 e3 => ?_) (fun x w hkw he hw w9 hTw hCw hqw hEw hlw hkw2 wj hrx w6 => ?_)
  · have hn : kn B N (tE B N (tE B N (tE B N q))) ≠ 11 := hn
    exact s129 u _ sz lo none fu0 hTu hCu (by rw [gu _ _ (by omega)]; exact t9) u6 u44a u44b hEu (by omega) (by omega) keepu (by rw [gu _ _ (by omega)]; exact tb3) (by rw [gu _ _ (by omega)]; exact tb2) (by rw [gu _ _ (by omega)]; exact t1) (by rw [gu _ _ (by omega)]; exact t2) (by rw [gu _ _ (by omega)]; exact t33) (by rw [gu _ _ (by omega)]; exact t44) (by unfold rdOpt; rw [if_neg hn]) (by omega)
  · have hkw : kn B N (tE B N (tE B N (tE B N q))) = 11 := hkw
    have ho : rdOpt B N (xC T) (xR T) (tE B N (tE B N (tE B N q))) 11 = .inl e := by unfold rdOpt; rw [if_pos hkw, he]
    rw [ho] at hpol
    simp only at hpol
    have w9n : ¬ st_g w 1 9 = 0 := by rw [w9]; exact nz _ e1 e3
    exact go_X9_readPolicy_129 ⟨fun _ => go_X9_readPolicy_174 ⟨fun _ => bad w e (fu0.trans (hw.mono (wOp1 3 (by omega) (by omega)))) w9 w10 e1 e3 hpol, fun z => absurd w9n z⟩, fun z => absurd w9n z⟩
  · have hkw : kn B N (tE B N (tE B N (tE B N q))) = 11 := hkw
    have gw : ∀ c k, ¬ wOp b 3 (xp T) c k → st_g w c k = st_g u c k := fun c k hh => hw.g hh
    have wno : ∀ c k, (c ≠ 1) → (c ≠ 44 ∨ k ≠ 4) → (c < b + 8 ∨ b + 11 < c) → (c ≠ b + 3 ∨ k ≠ xp T) → ¬ wOp b 3 (xp T) c k := fun c k h1 h2 h3 h4 hh => by unfold wOp wRl2 at hh; omega
    refine s129 w x.1 (sz + 1) (lo + x.2.1.length) (some x.2.1) (fu0.trans (hw.mono (wOp1 3 (by omega) (by omega)))) hTw hCw (by rw [w9, gu _ _ (by omega)]; exact t9) w6 (by rw [gw _ _ (wno _ _ (by omega) (by omega) (by omega) (by omega))]; exact u44a) (by rw [gw _ _ (wno _ _ (by omega) (by omega) (by omega) (by omega))]; exact u44b) hEw hlw (by omega) (fun C n P sil hr => hkw2 _ _ _ _ (keepu _ _ _ _ hr)) ?_ ?_ ?_ ?_ ⟨sz, x.2.2, wj, hrx⟩ ?_ (by unfold rdOpt; rw [if_pos hkw, he]) (by omega)
    · rw [gw _ _ (wno _ _ (by omega) (by omega) (by omega) (by omega)), gu _ _ (by omega)]; exact tb3
    · rw [gw _ _ (wno _ _ (by omega) (by omega) (by omega) (by omega)), gu _ _ (by omega)]; exact tb2
    · rw [gw _ _ (wno _ _ (by omega) (by omega) (by omega) (by omega)), gu _ _ (by omega)]; exact t1
    · rw [gw _ _ (wno _ _ (by omega) (by omega) (by omega) (by omega)), gu _ _ (by omega)]; exact t2
    · rw [gw _ _ (wno _ _ (by omega) (by omega) (by omega) (by omega)), gu _ _ (by omega)]; exact t44
end CPOL2
