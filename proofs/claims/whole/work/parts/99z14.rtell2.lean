/-! ===== the reference is told a text, is asked conditions ===== -/
section ADV
theorem stp_fin {B : Nat → Nat} {N C R : Nat} {m : Ms} {x : Nat × Lp × Bool} (h : stpM B N C R m = .inr (.inr x)) : x.1 = m.2.1 := by
  obtain ⟨mo, q, out, w, tst, dep, sil⟩ := m
  cases mo with
  | some y =>
    have h : stO B N C R y.1 y.2 (q, out, w, tst, dep, sil) = .inr (.inr x) := h
    unfold stO at h
    simp only at h
    split at h
    · split at h <;> cases h
    · split at h
      · split at h
        · unfold opn at h
          split at h <;> cases h
        · cases h
      · split at h
        · unfold opn at h
          split at h <;> cases h
        · unfold prt gotO at h
          simp only at h
          split at h
          · split at h <;> cases h
          · split at h
            · split at h
              · split at h
                · cases h
                · split at h
                  · cases h
                  · split at h <;> cases h
              · split at h
                · cases h
                · split at h <;> cases h
            · cases h
  | none =>
    have h : stP B N (q, out, w, tst, dep, sil) = .inr (.inr x) := h
    unfold stP psh at h
    simp only at h
    split at h
    · cases h
    · split at h
      · cases h
      · split at h
        · cases h
        · split at h
          · cases h
          · split at h
            · cases h
            · split at h
              · cases h
              · split at h
                · cases h
                · split at h
                  · cases h
                  · split at h
                    · unfold cls at h
                      simp only at h
                      split at h <;> cases h
                    · split at h
                      · cases h
                      · injection h with h
                        injection h with h
                        rw [← h]
theorem ends_ge {B : Nat → Nat} {N C R : Nat} {m : Ms} {x : Nat × Lp × Bool} (hm : m.2.1 ≤ N) (h : Ends B N C R m (.inr x)) : m.2.1 ≤ x.1 ∧ x.1 ≤ N := by
  refine Ends.ind (p := fun m => m.2.1 ≤ N → m.2.1 ≤ x.1 ∧ x.1 ≤ N) (fun m hs hq => ?_) (fun m m' hs ih hq => ?_) m h hm
  · have := stp_fin hs; omega
  · have := stp_adv hq hs
    have := ih this.2
    omega
theorem exr_ge {B : Nat → Nat} {N C R q : Nat} {x : Nat × Lp × Bool} (hq : q ≤ N) (h : exr B N C R q = .inr x) : q ≤ x.1 ∧ x.1 ≤ N := by
  have := exr_ok (B := B) (N := N) (C := C) (R := R) hq
  rw [h] at this
  exact ends_ge (m := m0 q) hq this
theorem rdOpt_ge {B : Nat → Nat} {N C R q kw : Nat} {x : Option Lp × Nat} (hq : q ≤ N) (h : rdOpt B N C R q kw = .inr x) : q ≤ x.2 ∧ x.2 ≤ N := by
  unfold rdOpt at h
  have hE := tE_le (B := B) hq
  split at h
  · split at h
    · cases h
    · rename_i y hy
      injection h with h
      have := exr_ge hE.2.1 hy
      rw [← h]
      exact ⟨by show q ≤ y.1; omega, this.2⟩
  · injection h with h
    rw [← h]; exact ⟨Nat.le_refl _, hq⟩
theorem rdRole_ge {B : Nat → Nat} {N R : Nat} : ∀ n q w x, q ≤ N → rdRole B N R n q w = .inr x → q ≤ x.2 ∧ x.2 ≤ N := by
  intro n
  induction n with
  | zero => intro q w x hq h; rw [rdRole] at h; injection h with h; rw [← h]; exact ⟨Nat.le_refl _, hq⟩
  | succ n ih =>
    intro q w x hq h
    rw [rdRole] at h
    have hE := tE_le (B := B) hq
    split at h
    · split at h
      · have := ih _ _ _ hE.2.1 h; omega
      · cases h
    · injection h with h; rw [← h]; exact ⟨Nat.le_refl _, hq⟩
theorem rdRow_ge {B : Nat → Nat} {N : Nat} : ∀ m c q l x, q ≤ N → rdRow B N m c q l = .inr x → q ≤ x.2 ∧ x.2 ≤ N := by
  intro m
  induction m with
  | zero => intro c q l x hq h; rw [rdRow] at h; injection h with h; rw [← h]; exact ⟨Nat.le_refl _, hq⟩
  | succ m ih =>
    intro c q l x hq h
    rw [rdRow] at h
    have hE := tE_le (B := B) hq
    have hm : q ≤ mnq B N q ∧ mnq B N q ≤ N := by unfold mnq; split <;> omega
    have hE2 := tE_le (B := B) hm.2
    split at h
    · have := ih _ _ _ _ hE2.2.1 h; omega
    · cases h
theorem lin_ge {B : Nat → Nat} {N q : Nat} {T : Tx} {x : Tx × Nat} (hq : q ≤ N) (h : lin B N T q = .inr x) : q ≤ x.2 ∧ x.2 ≤ N := by
  have hE := tE_le (B := B) hq
  have hE2 := tE_le (B := B) hE.2.1
  have hE3 := tE_le (B := B) hE2.2.1
  have mp : ∀ {α : Type} (g : α → Tx) (y : Fl (α × Nat)), fmap g y = .inr x → (∀ z, y = .inr z → q ≤ z.2 ∧ z.2 ≤ N) → q ≤ x.2 ∧ x.2 ≤ N := by
    intro α g y hy hz
    cases y with
    | inl e => cases hy
    | inr z => have := hz z rfl; unfold fmap at hy; injection hy with hy; rw [← hy]; exact this
  unfold lin at h
  split at h
  · split at h
    · cases h
    · refine mp _ _ h (fun z hz => ?_)
      have := rdRole_ge _ _ _ _ hE.2.1 hz; omega
  · split at h
    · split at h
      · cases h
      · refine mp _ _ h (fun z hz => ?_)
        have := rdRow_ge _ _ _ _ _ hE.2.1 hz; omega
    · split at h
      · split at h
        · cases h
        · refine mp _ _ h (fun z hz => ?_)
          unfold rdPol at hz
          split at hz
          · cases hz
          · split at hz
            · cases hz
            · split at hz
              · cases hz
              · rename_i y hy
                have h1 := rdOpt_ge hE3.2.1 hy
                split at hz
                · cases hz
                · rename_i y2 hy2
                  have h2 := rdOpt_ge h1.2 hy2
                  injection hz with hz
                  rw [← hz]
                  exact ⟨by show q ≤ y2.2; omega, h2.2⟩
      · split at h
        · split at h
          · cases h
          · refine mp _ _ h (fun z hz => ?_)
            unfold rdVw at hz
            split at hz
            · cases hz
            · rename_i y hy
              have h1 : q ≤ y.2 ∧ y.2 ≤ N := by
                unfold rdOwn at hy
                split at hy
                · injection hy with hy; rw [← hy]; exact ⟨by show q ≤ tE B N (tE B N q); omega, hE2.2.1⟩
                · split at hy
                  · split at hy
                    · injection hy with hy; rw [← hy]; exact ⟨by show q ≤ tE B N (tE B N (tE B N q)); omega, hE3.2.1⟩
                    · cases hy
                  · cases hy
              have h2 : q ≤ barq B N y.2 ∧ barq B N y.2 ≤ N := by
                have := tE_le (B := B) h1.2
                unfold barq; split <;> omega
              split at hz
              · cases hz
              · rename_i y2 hy2
                have h3 : q ≤ y2.2 ∧ y2.2 ≤ N := by
                  have g1 := tE_le (B := B) h2.2
                  have g2 := tE_le (B := B) g1.2.1
                  unfold rdOf at hy2
                  split at hy2
                  · split at hy2
                    · injection hy2 with hy2; rw [← hy2]; exact ⟨by show q ≤ tE B N (tE B N (barq B N y.2)); omega, g2.2.1⟩
                    · cases hy2
                  · injection hy2 with hy2; rw [← hy2]; exact h2
                have g3 := tE_le (B := B) h3.2
                split at hz
                · split at hz
                  · cases hz
                  · rename_i y3 hy3
                    have h4 := exr_ge g3.2.1 hy3
                    injection hz with hz
                    rw [← hz]
                    exact ⟨by show q ≤ y3.1; omega, h4.2⟩
                · cases hz
        · cases h
theorem lin_adv {B : Nat → Nat} {N q : Nat} {T : Tx} {x : Tx × Nat} (hq : q ≤ N) (h : lin B N T q = .inr x) (h59 : tG B N x.2 = 59) : q < tE B N x.2 := by
  have h1 := lin_ge hq h
  have h2 := tok_adv (B := B) h1.2 (show tK B N x.2 ≠ 0 by have := G_K (show tG B N x.2 ≠ 0 by omega); omega)
  omega
end ADV
section RTELL2
theorem ct_readsFrom {X : bi_X} {d : Nat} {K : bi_St → Prop} {E : Nat → bi_St → Prop} {s : bi_St} {B : Nat → Nat} {N : Nat} (hN : N ≤ 700) (hB : ∀ i, i < N → B i < 256 ∧ st_g s 78 i = zI (B i))
    (k : ∀ t, fh (fun c k => c = 77 ∧ ((2 ≤ k ∧ k ≤ 13) ∨ k = 19)) s t → RB t B N → RT t B N 0 → st_g t 77 2 = 0 → st_g t 77 3 = 0 → st_g t 77 4 = -1 → st_g t 77 19 = zI 0 → K t) : cV X (d + 2) 201 [.ref 77, .int (zI N)] s K E := by
  refine en_X12_readsFrom ?_
  have y : ∀ k, ((2 ≤ k ∧ k ≤ 13) ∨ k = 19) → (fun c k => c = 77 ∧ ((2 ≤ k ∧ k ≤ 13) ∨ k = 19)) 77 k := fun k h => ⟨rfl, h⟩
  have f1 : fh (fun c k => c = 77 ∧ ((2 ≤ k ∧ k ≤ 13) ∨ k = 19)) s (st_p (st_p (st_p (st_p (st_p (st_p s 77 2 (0 : Int32)) 77 4 (-1 : Int32)) 77 3 (0 : Int32)) 77 6 (zI N)) 77 7 (0 : Int32)) 77 19 (0 : Int32)) := (((((fh.refl.p (y 2 (by omega))).p (y 4 (by omega))).p (y 3 (by omega))).p (y 6 (by omega))).p (y 7 (by omega))).p (y 19 (by omega))
  have u2 : st_g (st_p (st_p (st_p (st_p (st_p (st_p s 77 2 (0 : Int32)) 77 4 (-1 : Int32)) 77 3 (0 : Int32)) 77 6 (zI N)) 77 7 (0 : Int32)) 77 19 (0 : Int32)) 77 2 = 0 := by rw [g_p_k (by omega), g_p_k (by omega), g_p_k (by omega), g_p_k (by omega), g_p_k (by omega), g_p_eq]
  have u4 : st_g (st_p (st_p (st_p (st_p (st_p (st_p s 77 2 (0 : Int32)) 77 4 (-1 : Int32)) 77 3 (0 : Int32)) 77 6 (zI N)) 77 7 (0 : Int32)) 77 19 (0 : Int32)) 77 4 = -1 := by rw [g_p_k (by omega), g_p_k (by omega), g_p_k (by omega), g_p_k (by omega), g_p_eq]
  have u3 : st_g (st_p (st_p (st_p (st_p (st_p (st_p s 77 2 (0 : Int32)) 77 4 (-1 : Int32)) 77 3 (0 : Int32)) 77 6 (zI N)) 77 7 (0 : Int32)) 77 19 (0 : Int32)) 77 3 = 0 := by rw [g_p_k (by omega), g_p_k (by omega), g_p_k (by omega), g_p_eq]
  have u6 : st_g (st_p (st_p (st_p (st_p (st_p (st_p s 77 2 (0 : Int32)) 77 4 (-1 : Int32)) 77 3 (0 : Int32)) 77 6 (zI N)) 77 7 (0 : Int32)) 77 19 (0 : Int32)) 77 6 = zI N := by rw [g_p_k (by omega), g_p_k (by omega), g_p_eq]
  have u7 : st_g (st_p (st_p (st_p (st_p (st_p (st_p s 77 2 (0 : Int32)) 77 4 (-1 : Int32)) 77 3 (0 : Int32)) 77 6 (zI N)) 77 7 (0 : Int32)) 77 19 (0 : Int32)) 77 7 = zI 0 := by rw [g_p_k (by omega), g_p_eq]; rfl
  have u19 : st_g (st_p (st_p (st_p (st_p (st_p (st_p s 77 2 (0 : Int32)) 77 4 (-1 : Int32)) 77 3 (0 : Int32)) 77 6 (zI N)) 77 7 (0 : Int32)) 77 19 (0 : Int32)) 77 19 = zI 0 := g_p_eq _ _ _ _
  generalize st_p (st_p (st_p (st_p (st_p (st_p s 77 2 (0 : Int32)) 77 4 (-1 : Int32)) 77 3 (0 : Int32)) 77 6 (zI N)) 77 7 (0 : Int32)) 77 19 (0 : Int32) = u at f1 u2 u4 u3 u6 u7 u19
  have hBu : RB u B N := ⟨hN, u6, fun i hi => ⟨(hB i hi).1, by rw [f1.g (by omega)]; exact (hB i hi).2⟩⟩
  refine ct_goM (lo := 0) hBu (Nat.zero_le _) u7 (fun t ht hBt hTt => k t (f1.rk ht (fun q h1 h2 => ⟨rfl, by omega⟩)) hBt hTt (by rw [ht.g rfl]; exact u2) (by rw [ht.g rfl]; exact u3) (by rw [ht.g rfl]; exact u4) (by rw [ht.g rfl]; exact u19))
theorem ct_tellR {X : bi_X} {d : Nat} {K : Int32 → bi_St → Prop} {E : Nat → bi_St → Prop} {s : bi_St} {B : Nat → Nat} {N m : Nat} (hm : m ≤ 700) (hN : N ≤ m) (h2 : st_g s 77 2 = zI m) (hB : ∀ i, i < m → B i < 256 ∧ st_g s 78 i = zI (B i))
    (kF : ∀ e t, txt B N = .inl e → fh wTf s t → st_g t 77 0 = 0 → st_g t 77 2 = 0 → st_g t 77 4 = zI e.2 → st_g t 79 0 = st_g s 79 0 + 1 → K (zI e.1) t)
    (kT : ∀ T t, txt B N = .inr T → fh wTs s t → st_g t 77 0 = 0 → st_g t 77 2 = 0 → st_g t 77 4 = -1 → RFin t T → K 0 t) : cI X (d + 10) 202 [.ref 77, .int (zI N)] s K E := by
  obtain ⟨r0, hr0⟩ : ∃ r0, txt B N = r0 := ⟨_, rfl⟩
  rw [hr0] at kF kT
  have b136 : ∀ u e, r0 = .inl e → fh wTf s u → st_g u 77 0 = 0 → st_g u 77 2 = 0 → st_g u 79 0 = st_g s 79 0 → st_g u 77 3 = zI e.1 → st_g u 77 4 = zI e.2 → 1 ≤ e.1 → e.1 ≤ 3 → at_X12_tell_136 X (d + 10) K E u := by
    intro u e hr fu u0 u2 u79 u3 u4 e1 e3
    refine go_X12_tell_136 (ct_isGoodN (by rw [u3]; exact nz3 e1 e3) ⟨fun z => absurd rfl z, fun _ => ⟨rfl, rfl, ?_⟩⟩)
    rw [show ((0 : Int32)).toNatClampNeg = 0 from rfl, g_p_a (by omega), u3, u79]
    exact kF e _ hr (fu.p (by unfold wTf; omega)) (by rw [g_p_a (by omega)]; exact u0) (by rw [g_p_a (by omega)]; exact u2) (by rw [g_p_a (by omega)]; exact u4) (g_p_eq _ _ _ _)
  have b115 : ∀ u e, r0 = .inl e → fh wTf s u → st_g u 77 0 = 0 → st_g u 77 2 = 0 → st_g u 79 0 = st_g s 79 0 → st_g u 77 3 = zI e.1 → st_g u 77 4 = zI e.2 → 1 ≤ e.1 → e.1 ≤ 3 → at_X12_tell_115 X (d + 10) K E u := fun u e hr fu u0 u2 u79 u3 u4 e1 e3 =>
    go_X12_tell_115 (ct_isGoodN (by rw [u3]; exact nz3 e1 e3) ⟨fun _ => b136 u e hr fu u0 u2 u79 u3 u4 e1 e3, fun z => absurd rfl z⟩)
  have loop : ∀ k q T u lo, 701 ≤ k + q → fh wTs s u → fh wTf s u → RXt u B N 0 T q lo → st_g u 77 0 = 0 → st_g u 77 2 = 0 → st_g u 77 4 = -1 → st_g u 79 0 = st_g s 79 0 → r0 = lns B N k T q → at_X12_tell_115 X (d + 10) K E u := by
    intro k
    induction k with
    | zero => intro q T u lo h1 fu fu' hX _ _ _ _ _; have := hX.1.2.1.1; have := hX.1.1.1; omega
    | succ k ih =>
      intro q T u lo h1 fu fu' hX u0 u2 u4 u79 hr
      have hT := hX.1.2.1
      have hr4 := rK_le (B := B) (N := N) (q := q)
      have e0 : (zI (rK B N q) = 0) ↔ tK B N q = 0 := by rw [← rK_0]; exact zI_eq (b := 0) (by omega) (by omega)
      rw [lns] at hr
      refine go_X12_tell_115 (ct_isGoodY hX.1.2.2 ⟨fun z => absurd z (by decide), fun _ => ?_⟩)
      rw [hT.2.2.1, e0]
      refine ⟨fun k0 => ?_, fun n0 => ?_⟩
      · rw [if_pos k0] at hr
        exact ct_taken fu hX u0 u2 u4 (fun t ft t0 t2 t4 hF => kT T t hr ft t0 t2 t4 hF)
      · rw [if_neg n0] at hr
        have hadv := tok_adv (B := B) hT.1 n0
        refine ct_line (d := d) hX (fun e t he ht t3 t4 e1 e3 => b115 t e ?_ (fu'.trans (ht.mono wLn_wTf)) (by rw [ht.g (by unfold wLn; omega)]; exact u0) (by rw [ht.g (by unfold wLn; omega)]; exact u2) (by rw [ht.g (by unfold wLn; omega)]; exact u79) t3 t4 e1 e3) (fun x t lo' he h59 ht hXt => ?_)
        · rcases he with he | ⟨x, he, n59, hee⟩
          · rw [he] at hr; exact hr
          · rw [he] at hr
            simp only at hr
            rw [if_neg n59] at hr
            rw [hr, hee]
        · rw [he] at hr
          simp only at hr
          rw [if_pos h59] at hr
          by_cases hq : q < tE B N x.2
          · exact ih (tE B N x.2) x.1 t lo' (by omega) (fu.trans (ht.mono wLg_wTs)) (fu'.trans ((ht.mono wLg_wLn).mono wLn_wTf)) hXt (by rw [ht.g (by unfold wLg; omega)]; exact u0) (by rw [ht.g (by unfold wLg; omega)]; exact u2) (by rw [ht.g (by unfold wLg; omega)]; exact u4) (by rw [ht.g (by unfold wLg; omega)]; exact u79) hr
          · exfalso
            exact hq (lin_adv hT.1 he h59)
  -- the first token is read
  have start : ∀ u, fh wTs s u → fh wTf s u → RB u B N → RT u B N 0 → st_g u 77 0 = 0 → st_g u 77 2 = 0 → st_g u 77 3 = 0 → st_g u 77 4 = -1 → st_g u 79 0 = st_g s 79 0 → st_g u 77 14 = zI 2 → st_g u 77 15 = zI 0 → st_g u 77 16 = zI 0 → st_g u 77 17 = zI 0 → st_g u 77 18 = zI 0 → st_g u 77 19 = zI 0 → (∀ k, k < 72 → st_g u 89 k = 0) →
      cI X (d + 9) 175 [.ref 77] u (fun (r5 : Int32) (s5 : bi_St) => ((¬ r5 = (5 : Int32)) → at_X12_tell_115 X (d + 10) K E s5) ∧ (¬ (¬ r5 = (5 : Int32)) → cV X (d + 9) 172 [.ref 77] s5 (fun (s6 : bi_St) => cI X (d + 9) 180 [.ref 77, .int (1 : Int32), .int (4 : Int32)] s6 (fun (r7 : Int32) (s7 : bi_St) => cI X (d + 9) 178 [.ref 77, .int (59 : Int32)] (st_p s7 77 14 r7) (fun (r8 : Int32) (s8 : bi_St) => cV X (d + 9) 179 [.ref 77, .int r8] s8 (fun (s9 : bi_St) => at_X12_tell_115 X (d + 10) K E s9) (fun _ _ => False)) (fun _ _ => False)) (fun _ _ => False)) (fun _ _ => False))) (fun _ _ => False) := by
    intro u fu fu' hBu hTu u0 u2 u3 u4 u79 u14 u15 u16 u17 u18 u19 u89
    have hN7 := hBu.1
    have X0 : ∀ C v q, C ≤ 4 → RB v B N → RT v B N q → st_g v 77 14 = zI C → (∀ c k, (c ≠ 77 ∨ ((k < 7 ∨ 14 < k))) → st_g v c k = st_g u c k) → RXt v B N 0 (tx0 C) q 0 := fun C v q hC hBv hTv v14 gv =>
      ⟨⟨hBv, hTv, by rw [gv _ _ (by omega)]; exact u3⟩, ⟨v14, by rw [gv _ _ (by omega)]; exact u15, by rw [gv _ _ (by omega)]; exact u16, by rw [gv _ _ (by omega)]; exact u17, by rw [gv _ _ (by omega)]; exact u18, by rw [gv _ _ (by omega)]; exact u19⟩, ⟨hC, by show 0 ≤ 6; omega, by show 0 ≤ 16; omega, by show 0 ≤ 8; omega, by show 0 ≤ 3; omega, by omega⟩, fun r hr => by rw [gv _ _ (by omega)]; exact u89 r (by omega), fun r c h1 _ => absurd h1 (Nat.not_lt_zero r), fun i hi => absurd hi (Nat.not_lt_zero i), fun i hi => absurd hi (Nat.not_lt_zero i)⟩
    have e5 : (knI (kn B N 0) = 5) ↔ kn B N 0 = 5 := knI_eq (n := 5) kn_le (by omega)
    refine ct_knownWord hN7 hTu ?_
    rw [e5]
    refine ⟨fun n5 => loop 701 0 (tx0 2) u 0 (by omega) fu fu' (X0 2 u 0 (by omega) hBu hTu u14 (fun _ _ _ => rfl)) u0 u2 u4 u79 (by rw [← hr0]; unfold txt; rw [if_neg n5]), fun k5 => ?_⟩
    have k5 := Decidable.of_not_not k5
    have hr : r0 = (if clF B N (tE B N 0) = 0 then (if tG B N (tE B N (tE B N 0)) = 59 then lns B N 701 (tx0 (tV B N (tE B N 0))) (tE B N (tE B N (tE B N 0))) else .inl (1, tS B N (tE B N (tE B N 0)))) else .inl (clF B N (tE B N 0), tS B N (tE B N 0))) := by rw [← hr0]; unfold txt; rw [if_pos k5]
    have wr : ∀ q, 7 ≤ q → q ≤ 13 → wTs 77 q := fun q h1 h2 => Or.inl ⟨rfl, by omega⟩
    have wr' : ∀ q, 7 ≤ q → q ≤ 13 → wTf 77 q := fun q h1 h2 => Or.inl ⟨rfl, by omega⟩
    refine ct_goR hBu hTu (fun t ht hBt hTt => ?_)
    have gt : ∀ c k, (c ≠ 77 ∨ k < 7 ∨ 13 < k) → st_g t c k = st_g u c k := fun c k hh => ht.g (by
      cases hv : wRk c k
      · rfl
      · have := wRk_i hv; omega)
    have t3 : st_g t 77 3 = 0 := by rw [gt _ _ (by omega)]; exact u3
    refine ct_number (l := 1) (m := 4) hBt hTt t3 (by omega) (by omega) (fun hn k2 v hv hBv hTv => ?_) (fun hn x => ?_)
    · rw [show (4 : Nat) + 1 = 5 from rfl, numF_1] at hn
      rw [if_pos hn] at hr
      have hv5 : tV B N (tE B N 0) < 5 ∧ tV B N (tE B N 0) ≠ 0 := by
        unfold clF nmF at hn
        rw [if_pos k2] at hn
        by_cases h4 : 4 < tL B N (tE B N 0)
        · rw [if_pos h4, if_neg (by omega)] at hn; omega
        · rw [if_neg h4] at hn
          by_cases h5 : 5 ≤ tV B N (tE B N 0)
          · rw [if_pos h5, if_neg (by omega)] at hn; omega
          · rw [if_neg h5, if_pos rfl] at hn
            by_cases h0 : tV B N (tE B N 0) = 0
            · rw [if_pos h0] at hn; omega
            · omega
      have gv : ∀ c k, (c ≠ 77 ∨ k < 7 ∨ 13 < k) → st_g v c k = st_g u c k := fun c k hh => by rw [hv.g (by
        cases hw : wRk c k
        · rfl
        · have := wRk_i hw; omega), gt c k hh]
      have g : ∀ c k, (c ≠ 77 ∨ k ≠ 14) → st_g (st_p v 77 14 (zI (tV B N (tE B N 0)))) c k = st_g v c k := fun c k hh => by rw [g_p, if_neg (by omega)]
      have hX : RXt (st_p v 77 14 (zI (tV B N (tE B N 0)))) B N 0 (tx0 (tV B N (tE B N 0))) (tE B N (tE B N 0)) 0 := X0 _ _ _ (by omega) (RB_fr (g _ _ (by omega)) (fun k => g _ _ (by omega)) hBv) (RT_eq (fun k h1 h2 => g _ _ (by omega)) (gl_p _ _ _ _ _ _) hTv) (g_p_eq _ _ _ _) (fun c k hh => by rw [g _ _ (by omega), gv _ _ (by omega)])
      have fv : fh wTs s (st_p v 77 14 (zI (tV B N (tE B N 0)))) := ((fu.rk ht wr).rk hv wr).p (Or.inl ⟨rfl, by omega⟩)
      have fv' : fh wTf s (st_p v 77 14 (zI (tV B N (tE B N 0)))) := ((fu'.rk ht wr').rk hv wr').p (Or.inl ⟨rfl, by omega⟩)
      have gw : ∀ c k, (c ≠ 77 ∨ k < 7 ∨ 14 < k) → st_g (st_p v 77 14 (zI (tV B N (tE B N 0)))) c k = st_g u c k := fun c k hh => by rw [g _ _ (by omega), gv _ _ (by omega)]
      generalize st_p v 77 14 (zI (tV B N (tE B N 0))) = w at hX fv fv' gw
      refine ct_isSignR (c := 59) (fun i hi => (hX.1.1.2.2 i hi).1) hX.1.2.1 rfl (by omega) (ct_needR (c := tG B N (tE B N (tE B N 0)) = 59) hX.1.1 hX.1.2.1 hX.1.2.2 (fun h59 y hy hBy hTy => ?_) (fun n59 => ?_))
      · rw [if_pos h59] at hr
        have gy : ∀ c k, (c ≠ 77 ∨ k < 7 ∨ 14 < k) → st_g y c k = st_g u c k := fun c k hh => by rw [hy.g (by
          cases hw : wRk c k
          · rfl
          · have := wRk_i hw; omega), gw c k hh]
        exact loop 701 _ _ y 0 (by omega) (fv.rk hy wr) (fv'.rk hy wr') (RXt_tok hX hy hBy hTy (by omega)) (by rw [gy _ _ (by omega)]; exact u0) (by rw [gy _ _ (by omega)]; exact u2) (by rw [gy _ _ (by omega)]; exact u4) (by rw [gy _ _ (by omega)]; exact u79) hr
      · rw [if_neg n59] at hr
        refine b115 _ (1, tS B N (tE B N (tE B N 0))) hr ((fv'.p (Or.inl ⟨rfl, by omega⟩)).p (Or.inl ⟨rfl, by omega⟩)) ?_ ?_ ?_ (by rw [g_p_k (by omega), g_p_eq]) (g_p_eq _ _ _ _) (by show 1 ≤ 1; omega) (by show 1 ≤ 3; omega)
        · rw [g_p_k (by omega), g_p_k (by omega), gw _ _ (by omega)]; exact u0
        · rw [g_p_k (by omega), g_p_k (by omega), gw _ _ (by omega)]; exact u2
        · rw [g_p_a (by omega), g_p_a (by omega), gw _ _ (by omega)]; exact u79
    · rw [show (4 : Nat) + 1 = 5 from rfl, numF_1] at hn ⊢
      rw [if_neg hn] at hr
      have hc3 : clF B N (tE B N 0) ≤ 3 := by
        have := nmF_le (B := B) (N := N) (q := tE B N 0) (m := 5) (show 2 ≤ 3 by omega)
        unfold clF; split
        · split <;> omega
        · exact this
      have z3 : st_g (st_p (st_p (st_p t 77 3 (zI (clF B N (tE B N 0)))) 77 4 (zI (tS B N (tE B N 0)))) 77 14 x) 77 3 = zI (clF B N (tE B N 0)) := by rw [g_p_k (by omega), g_p_k (by omega), g_p_eq]
      refine ct_isSignA (fun v => ct_needN' (by rw [z3]; exact nz3 (by omega) hc3) (b115 _ (clF B N (tE B N 0), tS B N (tE B N 0)) hr ((((fu'.rk ht wr').p (Or.inl ⟨rfl, by omega⟩)).p (Or.inl ⟨rfl, by omega⟩)).p (Or.inl ⟨rfl, by omega⟩)) ?_ ?_ ?_ z3 ?_ (by show 1 ≤ clF B N (tE B N 0); omega) hc3))
      · rw [g_p_k (by omega), g_p_k (by omega), g_p_k (by omega), gt _ _ (by omega)]; exact u0
      · rw [g_p_k (by omega), g_p_k (by omega), g_p_k (by omega), gt _ _ (by omega)]; exact u2
      · rw [g_p_a (by omega), g_p_a (by omega), g_p_a (by omega), gt _ _ (by omega)]; exact u79
      · rw [g_p_k (by omega), g_p_eq]
  -- rows are cleared
  have clear : ∀ n i u, n + i = 72 → fh (fun c k => (c = 77 ∧ (k = 0 ∨ (14 ≤ k ∧ k ≤ 18))) ∨ c = 89) s u → st_g u 77 0 = 0 → st_g u 77 14 = zI 2 → st_g u 77 15 = zI 0 → st_g u 77 16 = zI 0 → st_g u 77 17 = zI 0 → st_g u 77 18 = zI 0 → (∀ k, k < i → st_g u 89 k = 0) → at_X12_tell_59 X (d + 10) K E u (zI N) (zI i) := by
    intro n
    induction n with
    | zero =>
      intro i u h1 fu u0 u14 u15 u16 u17 u18 u89
      have e72 : ((72 : Int32) ≤ zI i) ↔ 72 ≤ i := zI_le (a := 72) (by omega) (by omega)
      refine go_X12_tell_59 ?_
      rw [e72]
      refine ⟨fun _ => ct_readsFrom (d := d + 7) (by omega) (fun i hi => ⟨(hB i (by omega)).1, by rw [fu.g (by omega)]; exact (hB i (by omega)).2⟩) (fun t ht hBt hTt t2 t3 t4 t19 => ?_), fun z => by omega⟩
      have gt : ∀ c k, (c ≠ 77 ∨ (k < 2 ∨ (13 < k ∧ k ≠ 19))) → st_g t c k = st_g u c k := fun c k hh => ht.g (by omega)
      exact start t ((fu.mono (fun c k hh => by unfold wTs; omega)).trans (ht.mono (fun c k hh => by unfold wTs; omega))) ((fu.mono (fun c k hh => by unfold wTf; omega)).trans (ht.mono (fun c k hh => by unfold wTf; omega))) hBt hTt (by rw [gt _ _ (by omega)]; exact u0) t2 t3 t4 (by rw [gt _ _ (by omega), fu.g (by omega)]) (by rw [gt _ _ (by omega)]; exact u14) (by rw [gt _ _ (by omega)]; exact u15) (by rw [gt _ _ (by omega)]; exact u16) (by rw [gt _ _ (by omega)]; exact u17) (by rw [gt _ _ (by omega)]; exact u18) t19 (fun k hk => by rw [gt _ _ (by omega)]; exact u89 k (by omega))
    | succ n ih =>
      intro i u h1 fu u0 u14 u15 u16 u17 u18 u89
      have e72 : ((72 : Int32) ≤ zI i) ↔ 72 ≤ i := zI_le (a := 72) (by omega) (by omega)
      refine go_X12_tell_59 ?_
      rw [e72, zI_nat (by omega), zI_add1]
      refine ⟨fun z => by omega, fun _ => ⟨in_zI (by omega) (by omega), ih (i + 1) _ (by omega) (fu.p (Or.inr rfl)) ?_ ?_ ?_ ?_ ?_ ?_ (fun k hk => ?_)⟩⟩
      · rw [g_p_a (by omega)]; exact u0
      · rw [g_p_a (by omega)]; exact u14
      · rw [g_p_a (by omega)]; exact u15
      · rw [g_p_a (by omega)]; exact u16
      · rw [g_p_a (by omega)]; exact u17
      · rw [g_p_a (by omega)]; exact u18
      · rw [g_p]
        by_cases hki : k = i
        · rw [if_pos ⟨rfl, hki⟩]
        · rw [if_neg (fun z => hki z.2)]; exact u89 k (by omega)
  refine en_X12_tell ⟨fun z => absurd z (zI_nn (by omega)), fun _ => ?_⟩
  rw [g_p_k (by omega), h2, zI_lt (by omega) (by omega)]
  refine ⟨fun z => by omega, fun _ => ct_rightY (g_p_eq _ _ _ _) ⟨fun _ => clear 72 0 _ rfl ?_ ?_ ?_ ?_ ?_ ?_ (g_p_eq _ _ _ _) (fun k hk => by omega), fun z => absurd (by decide) z⟩⟩
  · exact (((((fh.refl.p (Or.inl ⟨rfl, by omega⟩)).p (Or.inl ⟨rfl, by omega⟩)).p (Or.inl ⟨rfl, by omega⟩)).p (Or.inl ⟨rfl, by omega⟩)).p (Or.inl ⟨rfl, by omega⟩)).p (Or.inl ⟨rfl, by omega⟩)
  · rw [g_p_k (by omega), g_p_k (by omega), g_p_k (by omega), g_p_k (by omega), g_p_k (by omega), g_p_eq]
  · rw [g_p_k (by omega), g_p_k (by omega), g_p_k (by omega), g_p_k (by omega), g_p_eq]; rfl
  · rw [g_p_k (by omega), g_p_k (by omega), g_p_k (by omega), g_p_eq]; rfl
  · rw [g_p_k (by omega), g_p_k (by omega), g_p_eq]; rfl
  · rw [g_p_k (by omega), g_p_eq]; rfl
/-- no such text -/
theorem ct_tellRN {X : bi_X} {d : Nat} {K : Int32 → bi_St → Prop} {E : Nat → bi_St → Prop} {s : bi_St} {m : Nat} {x : Int32} (h2 : st_g s 77 2 = zI m) (hx : x < 0 ∨ zI m < x) (k : K 0 (st_p (st_p s 77 0 0) 77 0 1)) : cI X (d + 1) 202 [.ref 77, .int x] s K E := by
  refine en_X12_tell ⟨fun z => ct_rightN (g_p_eq _ _ _ _) (by decide) ⟨fun z => absurd rfl z, fun _ => k⟩, fun n => ⟨fun z => ct_rightN (g_p_eq _ _ _ _) (by decide) ⟨fun z => absurd rfl z, fun _ => k⟩, fun z => ?_⟩⟩
  rw [g_p_k (by omega), h2] at z
  rcases hx with h | h
  · exact absurd h n
  · exact absurd h z
end RTELL2
