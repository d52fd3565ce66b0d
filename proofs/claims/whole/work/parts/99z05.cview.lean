/-! ===== the class reads a view ===== -/
section CVIEW
theorem ct_readOwner {X : bi_X} {d : Nat} {K : Int32 → bi_St → Prop} {E : Nat → bi_St → Prop} {s : bi_St} {B : Nat → Nat} {N b q R v : Nat} (hT : TB s B N) (hC : CT s B N q) (hb : st_isB b) (g4 : st_gp s 4 = b) (b1 : st_g s b 1 = zI R) (hR : R ≤ 6) (hv : v < 3)
    (kF : ∀ e t, rdOwn B N R q = .inl e → fg (fun c k => (c = 1 ∧ 3 ≤ k) ∨ (c = b + 5 ∧ k = v)) s t → st_g t 1 9 = zI e.1 → st_g t 1 10 = zI e.2 → 1 ≤ e.1 → e.1 ≤ 3 → K 0 t)
    (kT : ∀ x t, rdOwn B N R q = .inr x → fg (fun c k => (c = 1 ∧ 3 ≤ k ∧ k ≤ 8) ∨ (c = b + 5 ∧ k = v)) s t → TB t B N → CT t B N x.2 → q < x.2 → st_g t (b + 5) v = x.1 → (x.1 = -1 ∨ ∃ r, r < 6 ∧ x.1 = zI r) → K 1 t) : cI X (d + 4) 112 [.ref 43, .int (zI v)] s K E := by
  have hbr := isB_r hb
  obtain ⟨W0, hW0⟩ : ∃ W0 : Nat → Nat → Prop, W0 = fun c k => (c = 1 ∧ 3 ≤ k ∧ k ≤ 8) ∨ (c = b + 5 ∧ k = v) := ⟨_, rfl⟩
  rw [← hW0] at kT
  have w1 : ∀ k, 3 ≤ k → k ≤ 8 → W0 1 k := fun k h1 h2 => by rw [hW0]; exact Or.inl ⟨rfl, h1, h2⟩
  have w5 : W0 (b + 5) v := by rw [hW0]; exact Or.inr ⟨rfl, rfl⟩
  have wm : ∀ c k, W0 c k → (fun c k => (c = 1 ∧ 3 ≤ k) ∨ (c = b + 5 ∧ k = v)) c k := fun c k hh => by rw [hW0] at hh; omega
  have wf : ∀ c k, (c = 1 ∧ 9 ≤ k) → (fun c k => (c = 1 ∧ 3 ≤ k) ∨ (c = b + 5 ∧ k = v)) c k := fun c k hh => Or.inl ⟨hh.1, by omega⟩
  have f0 : fg W0 s (st_p s (b + 5) v (-1)) := fg.refl.p w5
  have hT0 : TB (st_p s (b + 5) v (-1)) B N := TB_fr (g_p_a (by omega)) (fun k => g_p_a (by omega)) hT
  have hC0 : CT (st_p s (b + 5) v (-1)) B N q := CT_fr (fun k h1 h2 => g_p_a (by omega)) hC
  have s5 : st_g (st_p s (b + 5) v (-1)) (b + 5) v = -1 := g_p_eq _ _ _ _
  have sg4 : st_gp (st_p s (b + 5) v (-1)) 4 = b := g4
  have sb1 : st_g (st_p s (b + 5) v (-1)) b 1 = zI R := by rw [g_p_a (by omega)]; exact b1
  refine en_X9_readOwner ?_
  rw [g4, zI_nat (by omega)]
  refine ⟨hb, in_zI hv (by omega), ?_⟩
  generalize st_p s (b + 5) v (-1) = s0 at f0 hT0 hC0 s5 sg4 sb1
  refine ct_isWord (j := 22) hT0 hC0 (by omega) ?_
  rw [b2i_ne0, show wPm 22 = 14 from rfl]
  refine ⟨fun n14 => ct_isWord (j := 23) hT0 hC0 (by omega) ?_, fun k14 => ?_⟩
  · have n14 : ¬ kn B N q = 14 := by simpa using n14
    rw [b2i_ne0, show wPm 23 = 15 from rfl]
    refine ⟨fun k15 => ?_, fun n15 => ?_⟩
    · have k15 : kn B N q = 15 := by simpa using k15
      have h0 : tK B N q ≠ 0 := by have := (kn_lt (B := B) (N := N) (q := q) (by omega)).1; omega
      have hadv := tok_adv (B := B) hC.1 h0
      have hr : rdOwn B N R q = (if nmF B N (tE B N q) R 3 = 0 then .inr (zI (tV B N (tE B N q)), tE B N (tE B N q)) else .inl (nmF B N (tE B N q) R 3, tS B N (tE B N q))) := by unfold rdOwn; rw [if_neg n14, if_pos k15]
      rw [hr] at kF kT
      refine ct_advC hT0 hC0 (fun t ht hTt hCt => ?_)
      have t4 : st_gp t 4 = b := by rw [ht.2.1]; exact sg4
      rw [t4, ht.g (wTk_ne (by omega)), sb1]
      refine ⟨hb, ct_needN (m := R) (fk := 3) hCt rfl (by omega) (by omega) (fun hn k2 u6 hlt => ⟨fun _ => ⟨by rw [t4]; exact hb, in_zI hv (by omega), ?_⟩, fun z => absurd (by decide) z⟩) (fun hn u hu u9 u10 => ⟨fun z => absurd rfl z, fun _ => kF (nmF B N (tE B N q) R 3, tS B N (tE B N q)) u (if_neg hn) (((f0.tk ht w1).mono wm).trans (hu.mono wf)) u9 u10 (by show 1 ≤ nmF B N (tE B N q) R 3; omega) (nmF_le (by omega))⟩)⟩
      rw [if_pos hn] at kT
      rw [t4, u6]
      have hadv2 := tok_adv (B := B) hCt.1 (show tK B N (tE B N q) ≠ 0 by omega)
      refine ct_advC (TB_fr (g_p_a (by omega)) (fun k => g_p_a (by omega)) hTt) (CT_fr (fun k h1 h2 => g_p_a (by omega)) hCt) (fun u hu hTu hCu => kT _ u rfl (((f0.tk ht w1).p w5).tk hu w1) hTu hCu (by show q < tE B N (tE B N q); omega) ?_ (Or.inr ⟨_, by omega, rfl⟩))
      rw [hu.g (wTk_ne (by omega)), g_p_eq]
    · have n15 : ¬ kn B N q = 15 := by simpa using n15
      exact ct_refC (f := 1) hC0 (fun u hu u9 u10 => ⟨rfl, kF (1, tS B N q) u (by unfold rdOwn; rw [if_neg n14, if_neg n15]) ((f0.mono wm).trans (hu.mono wf)) u9 u10 (by show 1 ≤ 1; omega) (by show 1 ≤ 3; omega)⟩)
  · have k14 : kn B N q = 14 := by simpa using k14
    have h0 : tK B N q ≠ 0 := by have := (kn_lt (B := B) (N := N) (q := q) (by omega)).1; omega
    have hadv := tok_adv (B := B) hC.1 h0
    refine ct_advC hT0 hC0 (fun t ht hTt hCt => kT (-1, tE B N q) t (by unfold rdOwn; rw [if_pos k14]) (f0.tk ht w1) hTt hCt (by show q < tE B N q; omega) (by rw [ht.g (wTk_ne (by omega))]; exact s5) (Or.inl rfl))
theorem ct_readOf {X : bi_X} {d : Nat} {K : Int32 → bi_St → Prop} {E : Nat → bi_St → Prop} {s : bi_St} {B : Nat → Nat} {N b q v : Nat} (hT : TB s B N) (hC : CT s B N q) (hb : st_isB b) (g4 : st_gp s 4 = b) (hv : v < 3)
    (kF : ∀ e t, rdOf B N v q = .inl e → fg (fun c k => (c = 1 ∧ 3 ≤ k) ∨ (c = b + 6 ∧ k = v)) s t → st_g t 1 9 = zI e.1 → st_g t 1 10 = zI e.2 → 1 ≤ e.1 → e.1 ≤ 3 → K 0 t)
    (kT : ∀ x t, rdOf B N v q = .inr x → fg (fun c k => (c = 1 ∧ 3 ≤ k ∧ k ≤ 8) ∨ (c = b + 6 ∧ k = v)) s t → TB t B N → CT t B N x.2 → q ≤ x.2 → st_g t (b + 6) v = x.1 → (x.1 = -1 ∨ ∃ r, r < v ∧ x.1 = zI r) → K 1 t) : cI X (d + 4) 113 [.ref 43, .int (zI v)] s K E := by
  have hbr := isB_r hb
  obtain ⟨W0, hW0⟩ : ∃ W0 : Nat → Nat → Prop, W0 = fun c k => (c = 1 ∧ 3 ≤ k ∧ k ≤ 8) ∨ (c = b + 6 ∧ k = v) := ⟨_, rfl⟩
  rw [← hW0] at kT
  have w1 : ∀ k, 3 ≤ k → k ≤ 8 → W0 1 k := fun k h1 h2 => by rw [hW0]; exact Or.inl ⟨rfl, h1, h2⟩
  have w5 : W0 (b + 6) v := by rw [hW0]; exact Or.inr ⟨rfl, rfl⟩
  have wm : ∀ c k, W0 c k → (fun c k => (c = 1 ∧ 3 ≤ k) ∨ (c = b + 6 ∧ k = v)) c k := fun c k hh => by rw [hW0] at hh; omega
  have wf : ∀ c k, (c = 1 ∧ 9 ≤ k) → (fun c k => (c = 1 ∧ 3 ≤ k) ∨ (c = b + 6 ∧ k = v)) c k := fun c k hh => Or.inl ⟨hh.1, by omega⟩
  have f0 : fg W0 s (st_p s (b + 6) v (-1)) := fg.refl.p w5
  have hT0 : TB (st_p s (b + 6) v (-1)) B N := TB_fr (g_p_a (by omega)) (fun k => g_p_a (by omega)) hT
  have hC0 : CT (st_p s (b + 6) v (-1)) B N q := CT_fr (fun k h1 h2 => g_p_a (by omega)) hC
  have s5 : st_g (st_p s (b + 6) v (-1)) (b + 6) v = -1 := g_p_eq _ _ _ _
  have sg4 : st_gp (st_p s (b + 6) v (-1)) 4 = b := g4
  refine en_X9_readOf ?_
  rw [g4, zI_nat (by omega)]
  refine ⟨hb, in_zI hv (by omega), ?_⟩
  generalize st_p s (b + 6) v (-1) = s0 at f0 hT0 hC0 s5 sg4
  refine ct_isWord (j := 24) hT0 hC0 (by omega) ?_
  rw [b2i_ne0, show wPm 24 = 17 from rfl]
  refine ⟨fun k17 => ?_, fun n17 => ?_⟩
  · have k17 : kn B N q = 17 := by simpa using k17
    have h0 : tK B N q ≠ 0 := by have := (kn_lt (B := B) (N := N) (q := q) (by omega)).1; omega
    have hadv := tok_adv (B := B) hC.1 h0
    have hr : rdOf B N v q = (if nmF B N (tE B N q) v 3 = 0 then .inr (zI (tV B N (tE B N q)), tE B N (tE B N q)) else .inl (nmF B N (tE B N q) v 3, tS B N (tE B N q))) := by unfold rdOf; rw [if_pos k17]
    rw [hr] at kF kT
    refine ct_advC hT0 hC0 (fun t ht hTt hCt => ?_)
    have t4 : st_gp t 4 = b := by rw [ht.2.1]; exact sg4
    refine ct_needN (m := v) (fk := 3) hCt rfl (by omega) (by omega) (fun hn k2 u6 hlt => ⟨fun _ => ⟨by rw [t4]; exact hb, in_zI hv (by omega), ?_⟩, fun z => absurd (by decide) z⟩) (fun hn u hu u9 u10 => ⟨fun z => absurd rfl z, fun _ => kF (nmF B N (tE B N q) v 3, tS B N (tE B N q)) u (if_neg hn) (((f0.tk ht w1).mono wm).trans (hu.mono wf)) u9 u10 (by show 1 ≤ nmF B N (tE B N q) v 3; omega) (nmF_le (by omega))⟩)
    rw [if_pos hn] at kT
    rw [t4, u6]
    have hadv2 := tok_adv (B := B) hCt.1 (show tK B N (tE B N q) ≠ 0 by omega)
    refine ct_advC (TB_fr (g_p_a (by omega)) (fun k => g_p_a (by omega)) hTt) (CT_fr (fun k h1 h2 => g_p_a (by omega)) hCt) (fun u hu hTu hCu => kT _ u rfl (((f0.tk ht w1).p w5).tk hu w1) hTu hCu (by show q ≤ tE B N (tE B N q); omega) ?_ (Or.inr ⟨_, hlt, rfl⟩))
    rw [hu.g (wTk_ne (by omega)), g_p_eq]
  · have n17 : ¬ kn B N q = 17 := by simpa using n17
    exact kT (-1, q) s0 (by unfold rdOf; rw [if_neg n17]) f0 hT0 hC0 (Nat.le_refl _) s5 (Or.inl rfl)
set_option maxHeartbeats 1000000 in
theorem ct_readView {X : bi_X} {d : Nat} {K : Int32 → bi_St → Prop} {E : Nat → bi_St → Prop} {s : bi_St} {B : Nat → Nat} {N b a q sz lo : Nat} {T : Tx} (h : CX s B N b a T q sz lo) (hk : kn B N q = 13)
    (kF : ∀ e t, lin B N T q = .inl e → fg (wTx b a) s t → st_g t 1 9 = zI e.1 → st_g t 1 10 = zI e.2 → 1 ≤ e.1 → e.1 ≤ 3 → K 0 t)
    (kT : ∀ x t sz' lo', lin B N T q = .inr x → fg (wTx b a) s t → CX t B N b a x.1 x.2 sz' lo' → q < x.2 → K 1 t) : cI X (d + 58) 111 [.ref 43] s K E := by
  obtain ⟨⟨hT, hC, h9⟩, ⟨g4, g5, hb, ha⟩, ⟨b0, b1, b2, b8⟩, ⟨c1, c2, c3, c4, c5, c6⟩, ⟨hE, hlo, hsz⟩, ⟨hp, hv⟩, hbits, hA⟩ := h
  have hbr := isB_r hb
  have har := isS_r ha
  have hN := hT.1
  have h0 : tK B N q ≠ 0 := by have := (kn_lt (B := B) (N := N) (q := q) (by omega)).1; omega
  have hadv := tok_adv (B := B) hC.1 h0
  have hlin : lin B N T q = if xv T = 3 then .inl (2, tS B N q) else fmap (txV T) (rdVw B N (xC T) (xR T) (xv T) (tE B N q)) := by unfold lin; rw [if_neg (by omega), if_neg (by omega), if_neg (by omega), if_pos hk]
  rw [hlin] at kF kT
  have e8 : (zI (xv T) < 3) ↔ xv T < 3 := zI_lt (b := 3) (by omega) (by omega)
  refine en_X9_readView ?_
  rw [g4, b8, e8]
  refine ⟨hb, fun hR => ?_, fun hR => ct_refC (f := 2) hC (fun t ht t9 t10 => ⟨rfl, kF (2, tS B N q) t (if_pos (by omega)) (ht.mono wF_Tx) t9 t10 (by show 1 ≤ 2; omega) (by show 2 ≤ 3; omega)⟩)⟩
  rw [if_neg (show ¬ xv T = 3 by omega)] at kF kT
  obtain ⟨W1, hW1⟩ : ∃ W1 : Nat → Nat → Prop, W1 = fun c k => (c = 1 ∧ 3 ≤ k) ∨ c = 44 ∨ (c = b ∧ (k = 8 ∨ k = 9)) ∨ ((b + 5 ≤ c ∧ c ≤ b + 7) ∧ k = xv T) ∨ (b + 8 ≤ c ∧ c ≤ b + 11 ∧ ¬ (c = b + 8 ∧ k = 3)) := ⟨_, rfl⟩
  have wTx1 : ∀ c k, W1 c k → wTx b a c k := fun c k hh => by rw [hW1] at hh; unfold wTx; omega
  have wy : ∀ c k, ((c = 1 ∧ 3 ≤ k) ∨ c = 44 ∨ (c = b ∧ (k = 8 ∨ k = 9)) ∨ ((b + 5 ≤ c ∧ c ≤ b + 7) ∧ k = xv T) ∨ (b + 8 ≤ c ∧ c ≤ b + 11 ∧ ¬ (c = b + 8 ∧ k = 3))) → W1 c k := fun c k hh => by rw [hW1]; exact hh
  have wn : ∀ c k, ¬ ((c = 1 ∧ 3 ≤ k) ∨ c = 44 ∨ (c = b ∧ (k = 8 ∨ k = 9)) ∨ ((b + 5 ≤ c ∧ c ≤ b + 7) ∧ k = xv T) ∨ (b + 8 ≤ c ∧ c ≤ b + 11 ∧ ¬ (c = b + 8 ∧ k = 3))) → ¬ W1 c k := fun c k hh => by rw [hW1]; exact hh
  have w1 : ∀ k, 3 ≤ k → k ≤ 8 → W1 1 k := fun k h1 h2 => wy _ _ (Or.inl ⟨rfl, h1⟩)
  have bad : ∀ u e, fg W1 s u → st_g u 1 9 = zI e.1 → st_g u 1 10 = zI e.2 → 1 ≤ e.1 → e.1 ≤ 3 → rdVw B N (xC T) (xR T) (xv T) (tE B N q) = .inl e → K 0 u := fun u e fu u9 u10 e1 e3 hr => kF e u (by rw [hr]; rfl) (fu.mono wTx1) u9 u10 e1 e3
  have fin : ∀ u q4 sz4 lo4 (x : Vw) V9, fg W1 s u → TB u B N → CT u B N q4 → st_g u 1 9 = 0 → RE u (b + 8) sz4 lo4 → lo4 ≤ q4 → sz4 ≤ 2 * xp T + (xv T + 1) → (∀ C n P sil, rx s (b + 8) C n P sil → rx u (b + 8) C n P sil) → st_g u b 9 = V9 → V9 = (st_g s b 9 ||| (if x.2.1 = true then s1 (xv T) else 0)) → st_g u b 8 = zI (xv T + 1) → st_g u (b + 5) (xv T) = x.1 → st_g u (b + 6) (xv T) = x.2.2.1 → (∃ n, st_g u (b + 7) (xv T) = zI n ∧ rx u (b + 8) (xC T) n x.2.2.2.2 x.2.2.2.1) → (x.1 = -1 ∨ ∃ r, r < 6 ∧ x.1 = zI r) → (x.2.2.1 = -1 ∨ ∃ r, r < xv T ∧ x.2.2.1 = zI r) → rdVw B N (xC T) (xR T) (xv T) (tE B N q) = .inr (x, q4) → q < q4 → K 1 u := by
    intro u q4 sz4 lo4 x V9 fu hTu hCu u9 hEu hlo4 hsz4 hkeep ub9 hV9 u8 x1 x2 x3 x4 x5 hr hq4
    have hKP : KP s u b (xp T) (xv T) := ⟨fun i hi => ⟨by rw [fu.g (wn _ _ (by omega))], fun j h1 h2 => fu.g (wn _ _ (by omega))⟩, fun i hi => ⟨by rw [ub9, hV9, tb_if (by omega) (by omega), decide_eq_false (show ¬ i = xv T by omega)]; simp, fun j h1 h2 => fu.g (wn _ _ (by omega))⟩, hkeep⟩
    have hp' := BKp_KP hKP hp
    have hv' := BKv_KP hKP hv
    refine kT (txV T x, q4) u sz4 lo4 (by rw [hr]; rfl) (fu.mono wTx1) ⟨⟨hTu, hCu, u9⟩, ⟨by rw [fu.2.1 _ (by omega)]; exact g4, by rw [fu.2.1 _ (by omega)]; exact g5, hb, ha⟩, ⟨by rw [fu.g (wn _ _ (by omega))]; exact b0, by rw [fu.g (wn _ _ (by omega))]; exact b1, by rw [fu.g (wn _ _ (by omega))]; exact b2, u8⟩, ⟨c1, c2, c3, c4, c5, by show xv T + 1 ≤ 3; omega⟩, ⟨hEu, hlo4, hsz4⟩, ⟨hp', fun i hi => ?_⟩, ⟨fun i h1 h2 => by rw [fu.g (wn _ _ (by omega))]; exact hbits.1 i h1 h2, fun i h1 h2 => ?_⟩, CA_eq (fun c k h1 h2 => fu.g (wn _ _ (by omega))) rfl (fun _ => rfl) rfl rfl (fun _ _ => rfl) hA⟩ hq4
    · have hi : i < xv T + 1 := hi
      show _ = (va_up (xg T) (xv T) x i).1 ∧ _ = (va_up (xg T) (xv T) x i).2.1 ∧ _ = (va_up (xg T) (xv T) x i).2.2.1 ∧ (∃ n, st_g u (b + 7) i = zI n ∧ rx u (b + 8) (xC T) n (va_up (xg T) (xv T) x i).2.2.2.2 (va_up (xg T) (xv T) x i).2.2.2.1) ∧ ((va_up (xg T) (xv T) x i).1 = -1 ∨ ∃ r, r < 6 ∧ (va_up (xg T) (xv T) x i).1 = zI r) ∧ ((va_up (xg T) (xv T) x i).2.2.1 = -1 ∨ ∃ r, r < i ∧ (va_up (xg T) (xv T) x i).2.2.1 = zI r)
      rw [va_upe]
      by_cases hip : i = xv T
      · rw [if_pos hip, hip]
        refine ⟨x1, ?_, x2, x3, x4, x5⟩
        rw [ub9, hV9, tb_if (by omega) (by omega), hbits.2 _ (Nat.le_refl _) (by omega)]; simp
      · rw [if_neg hip]
        exact hv' i (by omega)
    · have h1 : xv T + 1 ≤ i := h1
      rw [ub9, hV9, tb_if (by omega) (by omega), hbits.2 i (by omega) h2, decide_eq_false (show ¬ i = xv T by omega)]; simp
  -- from 'of' on
  have s73 : ∀ u x q2 V9, rdOwn B N (xR T) (tE B N q) = .inr x → barq B N x.2 = q2 → fg (fun c k => (c = 1 ∧ 3 ≤ k ∧ k ≤ 8) ∨ (c = b ∧ k = 9) ∨ (c = b + 5 ∧ k = xv T)) s u → TB u B N → CT u B N q2 → q < q2 → st_g u (b + 5) (xv T) = x.1 → (x.1 = -1 ∨ ∃ r, r < 6 ∧ x.1 = zI r) → st_g u b 9 = V9 → V9 = (st_g s b 9 ||| (if decide (kn B N x.2 = 16) = true then s1 (xv T) else 0)) → at_X9_readView_73 X (d + 58) K E u (zI (xv T)) := by
    intro u x q2 V9 hown hq2 fu' hTu hCu hqq u5 hx1 ub9 hV9
    have fu : fg W1 s u := fu'.mono (fun c k hh => wy c k (by omega))
    have u4 : st_gp u 4 = b := by rw [fu.2.1 _ (by omega)]; exact g4
    have hvw : rdVw B N (xC T) (xR T) (xv T) (tE B N q) = match rdOf B N (xv T) q2 with
      | .inl e => .inl e
      | .inr y => if kn B N y.2 = 18 then (match exr B N (xC T) (xR T) (tE B N y.2) with
        | .inl e => .inl e
        | .inr z => .inr ((x.1, decide (kn B N x.2 = 16), y.1, z.2.2, z.2.1), z.1)) else .inl (1, tS B N y.2) := by
      unfold rdVw; rw [hown]; simp only; rw [hq2]; rfl
    refine go_X9_readView_73 (ct_readOf (d := d + 53) (b := b) hTu hCu hb u4 hR (fun e t he ht t9 t10 e1 e3 => ⟨fun z => absurd rfl z, fun _ => ?_⟩) (fun y t hof ht hTt hCt hqt t6 hy => ⟨fun _ => ?_, fun z => absurd (by decide) z⟩))
    · rw [he] at hvw
      exact bad t e (fu.trans (ht.mono (fun c k hh => wy c k (by omega)))) t9 t10 e1 e3 hvw
    rw [hof] at hvw
    simp only at hvw
    have ft' : fg (fun c k => (c = 1 ∧ 3 ≤ k ∧ k ≤ 8) ∨ (c = b ∧ k = 9) ∨ ((c = b + 5 ∨ c = b + 6) ∧ k = xv T)) s t := (fu'.mono (fun c k hh => by omega)).trans (ht.mono (fun c k hh => by omega))
    have ft : fg W1 s t := ft'.mono (fun c k hh => wy c k (by omega))
    refine ct_isWord (j := 21) hTt hCt (by omega) ?_
    rw [b2i_ne0, show wPm 21 = 18 from rfl]
    refine ⟨fun k18 => ?_, fun n18 => ct_refC (f := 1) hCt (fun w hw w9 w10 => ⟨rfl, ?_⟩)⟩
    · have k18 : kn B N y.2 = 18 := by simpa using k18
      rw [if_pos k18] at hvw
      have h02 : tK B N y.2 ≠ 0 := by have := (kn_lt (B := B) (N := N) (q := y.2) (by omega)).1; omega
      have hadv2 := tok_adv (B := B) hCt.1 h02
      refine ct_advC hTt hCt (fun w hw hTw hCw => ?_)
      have fw' : fg (fun c k => (c = 1 ∧ 3 ≤ k ∧ k ≤ 8) ∨ (c = b ∧ k = 9) ∨ ((c = b + 5 ∨ c = b + 6) ∧ k = xv T)) s w := ft'.tk hw (fun k h1 h2 => Or.inl ⟨rfl, h1, h2⟩)
      have gw : ∀ c k, ¬ ((c = 1 ∧ 3 ≤ k ∧ k ≤ 8) ∨ (c = b ∧ k = 9) ∨ ((c = b + 5 ∨ c = b + 6) ∧ k = xv T)) → st_g w c k = st_g s c k := fun c k hh => fw'.g hh
      have w4 : st_gp w 4 = b := by rw [fw'.2.1 _ (by omega)]; exact g4
      have w5 : st_g w (b + 5) (xv T) = x.1 := by rw [hw.g (wTk_ne (by omega)), ht.g (by omega)]; exact u5
      have w6 : st_g w (b + 6) (xv T) = y.1 := by rw [hw.g (wTk_ne (by omega))]; exact t6
      have w9 : st_g w b 9 = V9 := by rw [hw.g (wTk_ne (by omega)), ht.g (by omega)]; exact ub9
      rw [w4, gw b 0 (by omega), gw b 1 (by omega), b0, b1]
      refine ⟨hb, hb, hb, en_X4_aim (st_isR_B hb) ?_⟩
      have fm : fg W1 s (st_p (st_p (st_pp w 6 (b + 8)) 44 2 (zI (xC T))) 44 3 (zI (xR T))) := (((fw'.mono (fun c k hh => wy c k (by omega))).pp).p (wy _ _ (by omega))).p (wy _ _ (by omega))
      have gm : ∀ c k, c ≠ 44 → st_g (st_p (st_p (st_pp w 6 (b + 8)) 44 2 (zI (xC T))) 44 3 (zI (xR T))) c k = st_g w c k := fun c k h1 => by rw [g_p_a h1, g_p_a h1, g_pp]
      have m44a : st_g (st_p (st_p (st_pp w 6 (b + 8)) 44 2 (zI (xC T))) 44 3 (zI (xR T))) 44 2 = zI (xC T) := by rw [g_p_k (by omega), g_p_eq]
      have m44b : st_g (st_p (st_p (st_pp w 6 (b + 8)) 44 2 (zI (xC T))) 44 3 (zI (xR T))) 44 3 = zI (xR T) := g_p_eq _ _ _ _
      have m6 : st_gp (st_p (st_p (st_pp w 6 (b + 8)) 44 2 (zI (xC T))) 44 3 (zI (xR T))) 6 = b + 8 := by rw [gp_p, gp_p, gp_pp, if_pos rfl]
      have m4 : st_gp (st_p (st_p (st_pp w 6 (b + 8)) 44 2 (zI (xC T))) 44 3 (zI (xR T))) 4 = b := by rw [gp_p, gp_p, gp_pp, if_neg (by omega)]; exact w4
      generalize st_p (st_p (st_pp w 6 (b + 8)) 44 2 (zI (xC T))) 44 3 (zI (xR T)) = m at fm gm m44a m44b m6 m4
      rw [m4]
      have hTm : TB m B N := TB_fr (gm _ _ (by omega)) (fun k => gm _ _ (by omega)) hTw
      have hCm : CT m B N (tE B N y.2) := CT_fr (fun k h1 h2 => gm _ _ (by omega)) hCw
      have hEm : RE m (b + 8) sz lo := RE_eq (fun k => by rw [gm _ _ (by omega), gw _ _ (by omega)]) (fun k => by rw [gm _ _ (by omega), gw _ _ (by omega)]) hE
      have keepm : ∀ C n P sil, rx s (b + 8) C n P sil → rx m (b + 8) C n P sil := fun C n P sil hr => rx_fr (fun c k h1 h2 => by rw [gm _ _ (by omega), gw _ _ (by omega)]) hr
      refine ⟨hb, ct_ruleX (d := d) (r := b + 8) hTm hCm c2 c3 hEm (by rw [st_rnB hb]; omega) (by omega) m6 m44a m44b (fun e n he hn n9 n10 e1 e3 _ => ?_) (fun z n he hn hTn hCn hqn hEn hln hrx hkeep n9 _ _ => ?_)⟩
      all_goals rw [zI_nat (by omega)]
      all_goals have n4 : st_gp n 4 = b := by rw [hn.2.1 _ (by omega)]; exact m4
      all_goals have n8 : ∀ v7, st_g (st_p n (b + 7) (xv T) v7) b 8 = zI (xv T) := fun v7 => by rw [g_p_a (by omega), hn.g (by unfold wRl2; omega), gm _ _ (by omega), gw _ _ (by omega)]; exact b8
      all_goals simp only [gp_p, n4, n8, zI_add1]
      all_goals have fn : ∀ v7, fg W1 s (st_p (st_p n (b + 7) (xv T) v7) b 8 (zI (xv T + 1))) := fun v7 => ((fm.trans (hn.mono (fun c k hh => wy c k (by unfold wRl2 at hh; omega)))).p (wy _ _ (by omega))).p (wy _ _ (by omega))
      all_goals refine ⟨in_zI hR (by omega), hb, hb, in_zI hR (by omega), ?_⟩
      · rw [he] at hvw
        simp only at hvw
        refine ⟨fun _ => bad _ e (fn _) ?_ ?_ e1 e3 hvw, fun z => absurd (by rw [g_p_a (by omega), g_p_eq]) z⟩
        · rw [g_p_a (by omega), g_p_a (by omega)]; exact n9
        · rw [g_p_a (by omega), g_p_a (by omega)]; exact n10
      · rw [he] at hvw
        simp only at hvw
        have gn : ∀ v7 c k, c ≠ b + 7 → (c ≠ b ∨ k ≠ 8) → st_g (st_p (st_p n (b + 7) (xv T) v7) b 8 (zI (xv T + 1))) c k = st_g n c k := fun v7 c k h1 h2 => by rw [g_p, if_neg (by omega), g_p_a h1]
        have gnw : ∀ c k, c ≠ 1 → c ≠ 44 → (c < b + 8 ∨ b + 11 < c) → st_g n c k = st_g w c k := fun c k h1 h2 h3 => by rw [hn.g (by unfold wRl2; omega), gm _ _ h2]
        have keepn : ∀ C n' P sil, rx n (b + 8) C n' P sil → rx (st_p (st_p n (b + 7) (xv T) (zI sz)) b 8 (zI (xv T + 1))) (b + 8) C n' P sil := fun C n' P sil hr => rx_fr (fun c k h1 h2 => gn _ _ _ (by omega) (by omega)) hr
        refine ⟨fun y' => absurd y' (by rw [g_p_a (by omega), g_p_eq]; exact zI_m1 (by have := hE.2.1; have := st_rn_le (b := b + 8); omega)), fun _ => fin _ z.1 (sz + 1) (lo + z.2.1.length) (x.1, decide (kn B N x.2 = 16), y.1, z.2.2, z.2.1) V9 (fn _) (TB_fr (gn _ _ _ (by omega) (by omega)) (fun k => gn _ _ _ (by omega) (by omega)) hTn) (CT_fr (fun k h1 h2 => gn _ _ _ (by omega) (by omega)) hCn) ?_ (RE_eq (fun k => gn _ _ _ (by omega) (by omega)) (fun k => gn _ _ _ (by omega) (by omega)) hEn) hln (by omega) (fun C n' P sil hr => keepn _ _ _ _ (hkeep _ _ _ _ (keepm _ _ _ _ hr))) ?_ hV9 (g_p_eq _ _ _ _) ?_ ?_ ⟨sz, by rw [g_p_a (by omega), g_p_eq], keepn _ _ _ _ hrx⟩ hx1 hy hvw (by omega)⟩
        · rw [gn _ _ _ (by omega) (by omega), n9, gm _ _ (by omega), gw _ _ (by omega)]; exact h9
        · rw [gn _ _ _ (by omega) (by omega), gnw _ _ (by omega) (by omega) (by omega)]; exact w9
        · rw [gn _ _ _ (by omega) (by omega), gnw _ _ (by omega) (by omega) (by omega)]; exact w5
        · rw [gn _ _ _ (by omega) (by omega), gnw _ _ (by omega) (by omega) (by omega)]; exact w6
    · have n18 : ¬ kn B N y.2 = 18 := by simpa using n18
      rw [if_neg n18] at hvw
      exact bad w (1, tS B N y.2) (ft.trans (hw.mono (fun c k hh => wy c k (by omega)))) w9 w10 (by show 1 ≤ 1; omega) (by show 1 ≤ 3; omega) hvw
  refine ct_advC hT hC (fun t ht hTt hCt => ?_)
  have f0 : fg (fun c k => (c = 1 ∧ 3 ≤ k ∧ k ≤ 8) ∨ (c = b ∧ k = 9) ∨ (c = b + 5 ∧ k = xv T)) s t := fg.refl.tk ht (fun k h1 h2 => Or.inl ⟨rfl, h1, h2⟩)
  refine ct_readOwner (d := d + 53) (b := b) (R := xR T) hTt hCt hb (by rw [ht.2.1]; exact g4) (by rw [ht.g (wTk_ne (by omega))]; exact b1) c3 hR (fun e u he hu u9 u10 e1 e3 => ⟨fun z => absurd rfl z, fun _ => ?_⟩) (fun x u hown hu hTu hCu hqu u5 hx => ⟨fun _ => ?_, fun z => absurd (by decide) z⟩)
  · refine bad u e ((f0.mono (fun c k hh => wy c k (by omega))).trans (hu.mono (fun c k hh => wy c k (by omega)))) u9 u10 e1 e3 ?_
    unfold rdVw; rw [he]
  · have fu : fg (fun c k => (c = 1 ∧ 3 ≤ k ∧ k ≤ 8) ∨ (c = b ∧ k = 9) ∨ (c = b + 5 ∧ k = xv T)) s u := f0.trans (hu.mono (fun c k hh => by omega))
    have ub9 : st_g u b 9 = st_g s b 9 := by rw [hu.g (by omega), ht.g (wTk_ne (by omega))]
    refine ct_isWord (j := 20) hTu hCu (by omega) ?_
    rw [b2i_ne0, show wPm 20 = 16 from rfl]
    refine ⟨fun n16 => ?_, fun k16 => ?_⟩
    · have n16 : ¬ kn B N x.2 = 16 := by simpa using n16
      refine s73 u x x.2 _ hown (by unfold barq; rw [if_neg n16]) fu hTu hCu (by omega) u5 hx ub9 ?_
      rw [if_neg (by simpa using n16), Int32.or_zero]
    · have k16 : kn B N x.2 = 16 := by simpa using k16
      have h02 : tK B N x.2 ≠ 0 := by have := (kn_lt (B := B) (N := N) (q := x.2) (by omega)).1; omega
      have hadv2 := tok_adv (B := B) hCu.1 h02
      have u4 : st_gp u 4 = b := by rw [fu.2.1 _ (by omega)]; exact g4
      rw [u4, ub9]
      refine ⟨hb, ct_advC (TB_fr (g_p_a (by omega)) (fun k => g_p_a (by omega)) hTu) (CT_fr (fun k h1 h2 => g_p_a (by omega)) hCu) (fun w hw hTw hCw => ?_)⟩
      refine s73 w x (tE B N x.2) _ hown (by unfold barq; rw [if_pos k16]) ((fu.p (Or.inr (Or.inl ⟨rfl, rfl⟩))).tk hw (fun k h1 h2 => Or.inl ⟨rfl, h1, h2⟩)) hTw hCw (by omega) (by rw [hw.g (wTk_ne (by omega)), g_p_a (by omega)]; exact u5) hx (by rw [hw.g (wTk_ne (by omega)), g_p_eq]) ?_
      rw [if_pos (by simpa using k16)]; rfl
end CVIEW
