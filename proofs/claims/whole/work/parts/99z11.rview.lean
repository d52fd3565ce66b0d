/-! ===== the reference reads a view ===== -/
section RVIEW
theorem RXt_bad3 {s : bi_St} {f : Nat} {p : Int32} (h1 : 1 ≤ f) (h3 : f ≤ 3) : ¬ st_g (st_p (st_p s 77 3 (zI f)) 77 4 p) 77 3 = 0 := by rw [g_p_k (by omega), g_p_eq]; exact nz3 h1 h3
set_option maxHeartbeats 1000000 in
theorem ct_readsView {X : bi_X} {d : Nat} {K : bi_St → Prop} {E : Nat → bi_St → Prop} {s : bi_St} {B : Nat → Nat} {N q1 lo : Nat} {T : Tx} (h : RXt s B N 0 T q1 lo) (hR : xv T < 3)
    (kF : ∀ e t, rdVw B N (xC T) (xR T) (xv T) q1 = .inl e → fh wLn s t → st_g t 77 3 = zI e.1 → st_g t 77 4 = zI e.2 → 1 ≤ e.1 → e.1 ≤ 3 → K t)
    (kT : ∀ x t lo', rdVw B N (xC T) (xR T) (xv T) q1 = .inr x → fh wLg s t → RXt t B N 3 (txV T x.1) x.2 lo' → K t) : cV X (d + 8) 199 [.ref 77] s K E := by
  have e6 : (6 : Int32) * zI (xv T) = zI (6 * xv T) := zI_mul 6 _
  have ea : ∀ j, zI (6 * xv T) + zI j = zI (6 * xv T + j) := fun j => zI_add _ j
  -- from 'where' on, its fault behind us
  have tail : ∀ (u : bi_St) (e : Nat × Nat), rdVw B N (xC T) (xR T) (xv T) q1 = .inl e → fh wLn s u → st_g u 77 3 = zI e.1 → st_g u 77 4 = zI e.2 → 1 ≤ e.1 → e.1 ≤ 3 → bi_in (zI (6 * xv T + 3)) 18 = true ∧ (cV X (d + 7) 194 [.ref 77] (st_p u 86 (6 * xv T + 3) (st_g u 77 19)) (fun (s20 : bi_St) => bi_in (zI (6 * xv T + 4)) 18 = true ∧ ((((st_g (st_p s20 86 (6 * xv T + 4) (st_g s20 77 22)) 77 23) = 0) → bi_in (zI (6 * xv T + 5)) 18 = true ∧ (cI X (d + 7) 177 [.ref 77] (st_p (st_p s20 86 (6 * xv T + 4) (st_g s20 77 22)) 86 (6 * xv T + 5) (0 : Int32)) (fun (r21 : Int32) (s21 : bi_St) => ((r21 = 0) → at_X12_readsView_248 X (d + 8) K E s21) ∧ (¬ (r21 = 0) → at_X12_readsView_248 X (d + 8) K E (st_p s21 77 18 ((st_g s21 77 18) + (1 : Int32))))) (fun _ _ => False))) ∧ (¬ ((st_g (st_p s20 86 (6 * xv T + 4) (st_g s20 77 22)) 77 23) = 0) → bi_in (zI (6 * xv T + 5)) 18 = true ∧ (cI X (d + 7) 177 [.ref 77] (st_p (st_p s20 86 (6 * xv T + 4) (st_g s20 77 22)) 86 (6 * xv T + 5) (1 : Int32)) (fun (r22 : Int32) (s22 : bi_St) => ((r22 = 0) → at_X12_readsView_248 X (d + 8) K E s22) ∧ (¬ (r22 = 0) → at_X12_readsView_248 X (d + 8) K E (st_p s22 77 18 ((st_g s22 77 18) + (1 : Int32))))) (fun _ _ => False))))) (fun _ _ => False)) := by
    intro u e hr fu u3 u4 e1 e3
    have hb : ¬ st_g u 77 3 = 0 := by rw [u3]; exact nz3 e1 e3
    refine ⟨in_zI (by omega) (by omega), ct_expressionN (by rw [g_p_a (by omega)]; exact hb) ⟨in_zI (by omega) (by omega), ?_⟩⟩
    have f2 := ((fu.p (wLn_86 (k := 6 * xv T + 3)) (v := st_g u 77 19)).p (wLn_77 (k := 22) (by omega) (by omega)) (v := 0)).p (wLn_77 (k := 23) (by omega) (by omega)) (v := 1)
    have y3 : st_g (st_p (st_p (st_p u 86 (6 * xv T + 3) (st_g u 77 19)) 77 22 (0 : Int32)) 77 23 (1 : Int32)) 77 3 = zI e.1 := by rw [g_p_k (by omega), g_p_k (by omega), g_p_a (by omega)]; exact u3
    have y4 : st_g (st_p (st_p (st_p u 86 (6 * xv T + 3) (st_g u 77 19)) 77 22 (0 : Int32)) 77 23 (1 : Int32)) 77 4 = zI e.2 := by rw [g_p_k (by omega), g_p_k (by omega), g_p_a (by omega)]; exact u4
    generalize st_p (st_p (st_p u 86 (6 * xv T + 3) (st_g u 77 19)) 77 22 (0 : Int32)) 77 23 (1 : Int32) = y at f2 y3 y4
    have fin : ∀ x x', bi_in (zI (6 * xv T + 5)) 18 = true ∧ (cI X (d + 7) 177 [.ref 77] (st_p (st_p y 86 (6 * xv T + 4) x) 86 (6 * xv T + 5) x') (fun (r21 : Int32) (s21 : bi_St) => ((r21 = 0) → at_X12_readsView_248 X (d + 8) K E s21) ∧ (¬ (r21 = 0) → at_X12_readsView_248 X (d + 8) K E (st_p s21 77 18 ((st_g s21 77 18) + (1 : Int32))))) (fun _ _ => False)) := fun x x' =>
      ⟨in_zI (by omega) (by omega), ct_isGoodN (by rw [g_p_a (by omega), g_p_a (by omega), y3]; exact nz3 e1 e3) ⟨fun _ => go_X12_readsView_248 (kF e _ hr ((f2.p wLn_86).p wLn_86) (by rw [g_p_a (by omega), g_p_a (by omega)]; exact y3) (by rw [g_p_a (by omega), g_p_a (by omega)]; exact y4) e1 e3), fun z => absurd rfl z⟩⟩
    exact ⟨fun _ => fin _ _, fun _ => fin _ _⟩
  have ok : ∀ j, j ≤ 5 → zI (6 * xv T) + zI j = zI (6 * xv T + j) := fun j _ => ea j
  -- 'where', good or behind a fault
  have s165b : ∀ u q' e, RT u B N q' → N ≤ 700 → rdVw B N (xC T) (xR T) (xv T) q1 = .inl e → fh wLn s u → st_g u 77 3 = zI e.1 → st_g u 77 4 = zI e.2 → 1 ≤ e.1 → e.1 ≤ 3 → at_X12_readsView_165 X (d + 8) K E u (zI (6 * xv T)) := by
    intro u q' e hT hN hr fu u3 u4 e1 e3
    have hb : ¬ st_g u 77 3 = 0 := by rw [u3]; exact nz3 e1 e3
    refine go_X12_readsView_165 (ct_knownWord hN hT ?_)
    rw [show zI (6 * xv T) + 3 = zI (6 * xv T + 3) from ea 3, show zI (6 * xv T) + 4 = zI (6 * xv T + 4) from ea 4, show zI (6 * xv T) + 5 = zI (6 * xv T + 5) from ea 5, zI_nat (by omega), zI_nat (by omega), zI_nat (by omega)]
    exact ⟨fun _ => ct_needN' hb (tail u e hr fu u3 u4 e1 e3), fun _ => ct_needN' hb (tail u e hr fu u3 u4 e1 e3)⟩
  have s165 : ∀ u x y q2 lo2, rdOwn B N (xR T) q1 = .inr x → rdOf B N (xv T) (barq B N x.2) = .inr y → y.2 = q2 → fh wLg s u → RXt u B N 0 T q2 lo2 → st_g u 86 (6 * xv T) = x.1 → st_g u 86 (6 * xv T + 1) = b2i (decide (kn B N x.2 = 16)) → st_g u 86 (6 * xv T + 2) = y.1 → at_X12_readsView_165 X (d + 8) K E u (zI (6 * xv T)) := by
    intro u x y q2 lo2 hown hof hy2 fu hX u0 u1 u2
    have hvw : rdVw B N (xC T) (xR T) (xv T) q1 = if kn B N q2 = 18 then (match exr B N (xC T) (xR T) (tE B N q2) with
        | .inl e => .inl e
        | .inr z => .inr ((x.1, decide (kn B N x.2 = 16), y.1, z.2.2, z.2.1), z.1)) else .inl (1, tS B N q2) := by
      unfold rdVw; rw [hown]; simp only; rw [hof]; simp only; rw [hy2]; rfl
    obtain ⟨⟨hB, hT, h3⟩, ⟨r14, r15, r16, r17, r18, r19⟩, ⟨c2, c3, c4, c5, c6, hl⟩, hG, hcl, hP, hV⟩ := id hX
    have hN := hB.1
    have e18 : (knI (kn B N q2) = 18) ↔ kn B N q2 = 18 := knI_eq (n := 18) kn_le (by omega)
    refine go_X12_readsView_165 (ct_knownWord hN hT ?_)
    rw [show zI (6 * xv T) + 3 = zI (6 * xv T + 3) from ea 3, show zI (6 * xv T) + 4 = zI (6 * xv T + 4) from ea 4, show zI (6 * xv T) + 5 = zI (6 * xv T + 5) from ea 5, zI_nat (by omega), zI_nat (by omega), zI_nat (by omega), e18]
    refine ⟨fun n18 => ?_, fun k18 => ?_⟩
    · rw [if_neg n18] at hvw
      refine ct_needR (c := False) hB hT h3 (fun z => absurd z id) (fun _ => tail _ (1, tS B N q2) hvw (fu.b) (by rw [g_p_k (by omega), g_p_eq]) (g_p_eq _ _ _ _) (by show 1 ≤ 1; omega) (by show 1 ≤ 3; omega))
    · have k18 := Decidable.of_not_not k18
      rw [if_pos k18] at hvw
      have h0 : tK B N q2 ≠ 0 := by have := (kn_lt (B := B) (N := N) (q := q2) (by omega)).1; omega
      have hadv := tok_adv (B := B) hT.1 h0
      refine ct_needR (c := True) hB hT h3 (fun _ t ht hBt hTt => ?_) (fun z => absurd trivial z)
      have hXt : RXt t B N 0 T (tE B N q2) lo2 := RXt_tok hX ht hBt hTt (by omega)
      have ft : fh wLg s t := fu.rk ht wLg_rk
      rw [hXt.2.1.2.2.2.2.2]
      have hXt1 : RXt (st_p t 86 (6 * xv T + 3) (zI lo2)) B N 0 T (tE B N q2) lo2 := RXt_p hXt (Or.inr ⟨rfl, by omega⟩)
      obtain ⟨⟨hB1, hT1, h31⟩, ⟨r141, r151, _, _, _, r191⟩, ⟨_, _, _, _, _, hl1⟩, _⟩ := id hXt1
      refine ⟨in_zI (by omega) (by omega), ct_expression (d := d) (C := xC T) (R := xR T) (r := exr B N (xC T) (xR T) (tE B N q2)) hB1 hT1 h31 r141 r151 ⟨c2, c3⟩ r191 (by omega) (exr_ok hT1.1) (fun v f p he f1 f3 hv v3 v4 => ?_) (fun v q'' P sil he hE => ?_)⟩
      · rw [he] at hvw
        simp only at hvw
        have fv := (ft.p (wLg_86 (k := 6 * xv T + 3)) (v := zI lo2)).eb hv
        have fin : ∀ x x', bi_in (zI (6 * xv T + 5)) 18 = true ∧ (cI X (d + 7) 177 [.ref 77] (st_p (st_p v 86 (6 * xv T + 4) x) 86 (6 * xv T + 5) x') (fun (r21 : Int32) (s21 : bi_St) => ((r21 = 0) → at_X12_readsView_248 X (d + 8) K E s21) ∧ (¬ (r21 = 0) → at_X12_readsView_248 X (d + 8) K E (st_p s21 77 18 ((st_g s21 77 18) + (1 : Int32))))) (fun _ _ => False)) := fun x x' =>
          ⟨in_zI (by omega) (by omega), ct_isGoodN (by rw [g_p_a (by omega), g_p_a (by omega), v3]; exact nz3 f1 f3) ⟨fun _ => go_X12_readsView_248 (kF (f, p) _ hvw ((fv.p wLn_86).p wLn_86) (by rw [g_p_a (by omega), g_p_a (by omega)]; exact v3) (by rw [g_p_a (by omega), g_p_a (by omega)]; exact v4) f1 f3), fun z => absurd rfl z⟩⟩
        exact ⟨in_zI (by omega) (by omega), fun _ => fin _ _, fun _ => fin _ _⟩
      · rw [he] at hvw
        simp only at hvw
        have hXv := RXt_expr hXt1 hE
        obtain ⟨hv, hBv, hTv, v3, v19, hrc, v22, v23, hbv⟩ := hE
        have fv := (ft.p (wLg_86 (k := 6 * xv T + 3)) (v := zI lo2)).ex hv
        have gv : ∀ k, st_g v 86 k = st_g (st_p t 86 (6 * xv T + 3) (zI lo2)) 86 k := fun k => hv.g (wEx_no (by omega) (by omega) (by omega))
        have gt : ∀ k, k ≠ 6 * xv T + 3 → st_g v 86 k = st_g u 86 k := fun k hh => by rw [gv, g_p_k hh, ht.g (wRk_ne (by omega))]
        have v33 : st_g v 86 (6 * xv T + 3) = zI lo2 := by rw [gv, g_p_eq]
        have fin : bi_in (zI (6 * xv T + 5)) 18 = true ∧ (cI X (d + 7) 177 [.ref 77] (st_p (st_p v 86 (6 * xv T + 4) (zI P.length)) 86 (6 * xv T + 5) (b2i sil)) (fun (r21 : Int32) (s21 : bi_St) => ((r21 = 0) → at_X12_readsView_248 X (d + 8) K E s21) ∧ (¬ (r21 = 0) → at_X12_readsView_248 X (d + 8) K E (st_p s21 77 18 ((st_g s21 77 18) + (1 : Int32))))) (fun _ _ => False)) := by
          refine ⟨in_zI (by omega) (by omega), ct_isGoodY (by rw [g_p_a (by omega), g_p_a (by omega)]; exact v3) ⟨fun z => absurd z (by decide), fun _ => go_X12_readsView_248 ?_⟩⟩
          have hXw : RXt (st_p (st_p v 86 (6 * xv T + 4) (zI P.length)) 86 (6 * xv T + 5) (b2i sil)) B N 3 T q'' (lo2 + (wds P).length + 1) := RXt_p (RXt_p hXv (Or.inr ⟨rfl, by omega⟩)) (Or.inr ⟨rfl, by omega⟩)
          have gw : ∀ k, k ≠ 6 * xv T + 4 → k ≠ 6 * xv T + 5 → st_g (st_p (st_p v 86 (6 * xv T + 4) (zI P.length)) 86 (6 * xv T + 5) (b2i sil)) 86 k = st_g v 86 k := fun k h1 h2 => by rw [g_p_k h2, g_p_k h1]
          have w4 : st_g (st_p (st_p v 86 (6 * xv T + 4) (zI P.length)) 86 (6 * xv T + 5) (b2i sil)) 86 (6 * xv T + 4) = zI P.length := by rw [g_p_k (by omega), g_p_eq]
          have w5 : st_g (st_p (st_p v 86 (6 * xv T + 4) (zI P.length)) 86 (6 * xv T + 5) (b2i sil)) 86 (6 * xv T + 5) = b2i sil := g_p_eq _ _ _ _
          have w80 : ∀ k, st_g (st_p (st_p v 86 (6 * xv T + 4) (zI P.length)) 86 (6 * xv T + 5) (b2i sil)) 80 k = st_g v 80 k := fun k => by rw [g_p_a (by omega), g_p_a (by omega)]
          have fw : fh wLg s (st_p (st_p v 86 (6 * xv T + 4) (zI P.length)) 86 (6 * xv T + 5) (b2i sil)) := (fv.p wLg_86).p wLg_86
          generalize st_p (st_p v 86 (6 * xv T + 4) (zI P.length)) 86 (6 * xv T + 5) (b2i sil) = w at hXw gw w4 w5 w80 fw
          obtain ⟨⟨hBy, hTy, h3y⟩, ⟨y14, y15, y16, y17, y18, y19⟩, ⟨_, _, _, _, _, hly⟩, hGy, hcly, hPy, hVy⟩ := hXw
          rw [y18, zI_add1]
          have g : ∀ c k, (c ≠ 77 ∨ k ≠ 18) → st_g (st_p w 77 18 (zI (xv T + 1))) c k = st_g w c k := fun c k h1 => by rw [g_p, if_neg (by omega)]
          refine kT ((x.1, decide (kn B N x.2 = 16), y.1, sil, P), q'') _ (lo2 + (wds P).length + 1) hvw (fw.p (wLg_77 (by omega) (by omega))) ⟨⟨RB_fr (g _ _ (by omega)) (fun k => g _ _ (by omega)) hBy, RT_eq (fun k h1 h2 => g _ _ (by omega)) (gl_p _ _ _ _ _ _) hTy, by rw [g _ _ (by omega)]; exact h3y⟩, ⟨by rw [g _ _ (by omega)]; exact y14, by rw [g _ _ (by omega)]; exact y15, by rw [g _ _ (by omega)]; exact y16, by rw [g _ _ (by omega)]; exact y17, g_p_eq _ _ _ _, by rw [g _ _ (by omega)]; exact y19⟩, ⟨c2, c3, c4, c5, by show xv T + 1 ≤ 3; omega, hly⟩, fun r hr => by rw [g _ _ (by omega)]; exact hGy r hr, fun r c' h1 h2 => by rw [g _ _ (by omega)]; exact hcly r c' h1 h2, RP_keep (fun k _ => g _ _ (by omega)) (Nat.le_refl _) (fun k _ => g _ _ (by omega)) hPy, fun i hi => ?_⟩
          have hi : i < xv T + 1 := hi
          have hV' := RVw_keep (t := st_p w 77 18 (zI (xv T + 1))) (fun k _ => g _ _ (by omega)) (Nat.le_refl _) (fun k _ => g _ _ (by omega)) hVy
          show _ = (va_up (xg T) (xv T) _ i).1 ∧ _ = b2i (va_up (xg T) (xv T) _ i).2.1 ∧ _ = (va_up (xg T) (xv T) _ i).2.2.1 ∧ ro _ _ _ (some (va_up (xg T) (xv T) _ i).2.2.2.2) ∧ _ = zI (va_up (xg T) (xv T) _ i).2.2.2.2.length ∧ _ = b2i (va_up (xg T) (xv T) _ i).2.2.2.1
          rw [va_upe]
          by_cases hip : i = xv T
          · rw [if_pos hip, hip]
            refine ⟨?_, ?_, ?_, ⟨lo2, ?_, Nat.lt_succ_self _, rc_fr (fun k => by rw [g _ _ (by omega), w80]) _ _ hrc⟩, ?_, ?_⟩
            · rw [g _ _ (by omega), gw _ (by omega) (by omega), gt _ (by omega)]; exact u0
            · rw [g _ _ (by omega), gw _ (by omega) (by omega), gt _ (by omega)]; exact u1
            · rw [g _ _ (by omega), gw _ (by omega) (by omega), gt _ (by omega)]; exact u2
            · rw [g _ _ (by omega), gw _ (by omega) (by omega)]; exact v33
            · rw [g _ _ (by omega)]; exact w4
            · rw [g _ _ (by omega)]; exact w5
          · rw [if_neg hip]
            exact hV' i (by omega)
        rw [v22, g_p_a (by omega), v23, b2i_ne0]
        refine ⟨in_zI (by omega) (by omega), fun z => ?_, fun z => ?_⟩
        · rw [z] at fin; exact fin
        · have z : sil = true := by simpa using z
          rw [z] at fin; exact fin
  -- 'of'
  have s116 : ∀ u x q2 lo2, rdOwn B N (xR T) q1 = .inr x → barq B N x.2 = q2 → fh wLg s u → RXt u B N 0 T q2 lo2 → st_g u 86 (6 * xv T) = x.1 → st_g u 86 (6 * xv T + 1) = b2i (decide (kn B N x.2 = 16)) → at_X12_readsView_116 X (d + 8) K E u (zI (6 * xv T)) := by
    intro u x q2 lo2 hown hq2 fu hX u0 u1
    refine go_X12_readsView_116 ?_
    rw [show zI (6 * xv T) + 2 = zI (6 * xv T + 2) from ea 2, zI_nat (by omega)]
    have hX2 : RXt (st_p u 86 (6 * xv T + 2) (-1)) B N 0 T q2 lo2 := RXt_p hX (Or.inr ⟨rfl, by omega⟩)
    have f2 : fh wLg s (st_p u 86 (6 * xv T + 2) (-1)) := fu.p wLg_86
    have g2 : ∀ k, k ≠ 6 * xv T + 2 → st_g (st_p u 86 (6 * xv T + 2) (-1)) 86 k = st_g u 86 k := fun k hh => g_p_k hh
    have a2 : st_g (st_p u 86 (6 * xv T + 2) (-1)) 86 (6 * xv T + 2) = -1 := g_p_eq _ _ _ _
    generalize st_p u 86 (6 * xv T + 2) (-1) = u2 at hX2 f2 g2 a2
    have e17 : (knI (kn B N q2) = 17) ↔ kn B N q2 = 17 := knI_eq (n := 17) kn_le (by omega)
    refine ⟨in_zI (by omega) (by omega), ct_knownWord hX2.1.1.1 hX2.1.2.1 ?_⟩
    rw [e17]
    refine ⟨fun n17 => ?_, fun k17 => ?_⟩
    · exact s165 u2 x (-1, q2) q2 lo2 hown (by rw [hq2]; unfold rdOf; rw [if_neg n17]) rfl f2 hX2 (by rw [g2 _ (by omega)]; exact u0) (by rw [g2 _ (by omega)]; exact u1) a2
    · have k17 := Decidable.of_not_not k17
      have h0 : tK B N q2 ≠ 0 := by have := (kn_lt (B := B) (N := N) (q := q2) (by omega)).1; omega
      have hadv := tok_adv (B := B) hX2.1.2.1.1 h0
      have hl := hX2.2.2.1.2.2.2.2.2
      have hof : rdOf B N (xv T) (barq B N x.2) = (if nmF B N (tE B N q2) (xv T) 3 = 0 then .inr (zI (tV B N (tE B N q2)), tE B N (tE B N q2)) else .inl (nmF B N (tE B N q2) (xv T) 3, tS B N (tE B N q2))) := by rw [hq2]; unfold rdOf; rw [if_pos k17]
      refine ct_goR hX2.1.1 hX2.1.2.1 (fun t ht hBt hTt => ?_)
      have hXt : RXt t B N 0 T (tE B N q2) lo2 := RXt_tok hX2 ht hBt hTt (by omega)
      have ft : fh wLg s t := f2.rk ht wLg_rk
      have gt : ∀ k, st_g t 86 k = st_g u2 86 k := fun k => ht.g (wRk_ne (by omega))
      rw [hXt.2.1.2.2.2.2.1]
      refine ct_oneHere hBt hTt hXt.1.2.2 (by omega) (fun hn k2 hlt => ⟨in_zI (by omega) (by omega), ?_⟩) (fun hn v => ⟨in_zI (by omega) (by omega), ?_⟩)
      · rw [if_pos hn] at hof
        have hXv : RXt (st_p t 86 (6 * xv T + 2) (zI (tV B N (tE B N q2)))) B N 0 T (tE B N q2) lo2 := RXt_p hXt (Or.inr ⟨rfl, by omega⟩)
        refine ct_isGoodY hXv.1.2.2 ⟨fun z => absurd z (by decide), fun _ => ct_goR hXv.1.1 hXv.1.2.1 (fun w hw hBw hTw => ?_)⟩
        have hadv2 := tok_adv (B := B) hTt.1 (show tK B N (tE B N q2) ≠ 0 by omega)
        have gw : ∀ k, k ≠ 6 * xv T + 2 → st_g w 86 k = st_g u 86 k := fun k hh => by rw [hw.g (wRk_ne (by omega)), g_p_k hh, gt, g2 k hh]
        exact s165 w x (zI (tV B N (tE B N q2)), tE B N (tE B N q2)) (tE B N (tE B N q2)) lo2 hown hof rfl ((ft.p wLg_86).rk hw wLg_rk) (RXt_tok hXv hw hBw hTw (by omega)) (by rw [gw _ (by omega)]; exact u0) (by rw [gw _ (by omega)]; exact u1) (by rw [hw.g (wRk_ne (by omega)), g_p_eq])
      · rw [if_neg hn] at hof
        have hf3 := nmF_le (B := B) (N := N) (q := tE B N q2) (m := xv T) (show 3 ≤ 3 by omega)
        have hvw : rdVw B N (xC T) (xR T) (xv T) q1 = .inl (nmF B N (tE B N q2) (xv T) 3, tS B N (tE B N q2)) := by unfold rdVw; rw [hown]; simp only; rw [hof]
        have b3 : st_g (st_p (st_p (st_p t 77 3 (zI (nmF B N (tE B N q2) (xv T) 3))) 77 4 (zI (tS B N (tE B N q2)))) 86 (6 * xv T + 2) v) 77 3 = zI (nmF B N (tE B N q2) (xv T) 3) := by rw [g_p_a (by omega), g_p_k (by omega), g_p_eq]
        refine ct_isGoodN (by rw [b3]; exact nz3 (by omega) hf3) ⟨fun _ => s165b _ (tE B N q2) _ (RT_eq (fun k h1 h2 => by rw [g_p_a (by omega), g_p_k (by omega), g_p_k (by omega)]) (by rw [gl_p, gl_p, gl_p]) hTt) hBt.1 hvw (ft.b.p wLn_86) b3 (by rw [g_p_a (by omega), g_p_eq]) (by show 1 ≤ nmF B N (tE B N q2) (xv T) 3; omega) hf3, fun z => absurd rfl z⟩
  -- 'barrier'
  have s70 : ∀ u x lo2, rdOwn B N (xR T) q1 = .inr x → fh wLg s u → RXt u B N 0 T x.2 lo2 → st_g u 86 (6 * xv T) = x.1 → at_X12_readsView_70 X (d + 8) K E u (zI (6 * xv T)) := by
    intro u x lo2 hown fu hX u0
    have e16 : (knI (kn B N x.2) = 16) ↔ kn B N x.2 = 16 := knI_eq (n := 16) kn_le (by omega)
    refine go_X12_readsView_70 (ct_isGoodY hX.1.2.2 ⟨fun _ => ct_knownWord hX.1.1.1 hX.1.2.1 ?_, fun z => absurd (by decide) z⟩)
    rw [e16, show zI (6 * xv T) + 1 = zI (6 * xv T + 1) from ea 1, zI_nat (by omega), g_p_eq, g_p_eq]
    have hX1 : ∀ v, RXt (st_p u 86 (6 * xv T + 1) v) B N 0 T x.2 lo2 := fun v => RXt_p hX (Or.inr ⟨rfl, by omega⟩)
    refine ⟨fun n16 => ⟨in_zI (by omega) (by omega), in_zI (by omega) (by omega), fun _ => s116 _ x x.2 lo2 hown (by unfold barq; rw [if_neg n16]) (fu.p wLg_86) (hX1 _) (by rw [g_p_k (by omega)]; exact u0) (by rw [g_p_eq, decide_eq_false n16]; rfl), fun z => absurd (by decide) z⟩, fun k16 => ⟨in_zI (by omega) (by omega), in_zI (by omega) (by omega), fun z => absurd rfl z, fun _ => ?_⟩⟩
    have k16 := Decidable.of_not_not k16
    have h0 : tK B N x.2 ≠ 0 := by have := (kn_lt (B := B) (N := N) (q := x.2) (by omega)).1; omega
    have hadv := tok_adv (B := B) hX.1.2.1.1 h0
    have hl := hX.2.2.1.2.2.2.2.2
    refine ct_goR (hX1 _).1.1 (hX1 _).1.2.1 (fun t ht hBt hTt => s116 t x (tE B N x.2) lo2 hown (by unfold barq; rw [if_pos k16]) ((fu.p wLg_86).rk ht wLg_rk) (RXt_tok (hX1 _) ht hBt hTt (by omega)) (by rw [ht.g (wRk_ne (by omega)), g_p_k (by omega)]; exact u0) (by rw [ht.g (wRk_ne (by omega)), g_p_eq, decide_eq_true k16]; rfl))
  have bad70 : ∀ u e, rdVw B N (xC T) (xR T) (xv T) q1 = .inl e → fh wLn s u → st_g u 77 3 = zI e.1 → st_g u 77 4 = zI e.2 → 1 ≤ e.1 → e.1 ≤ 3 → at_X12_readsView_70 X (d + 8) K E u (zI (6 * xv T)) := fun u e hr fu u3 u4 e1 e3 =>
    go_X12_readsView_70 (ct_isGoodN (by rw [u3]; exact nz3 e1 e3) ⟨fun z => absurd rfl z, fun _ => kF e u hr fu u3 u4 e1 e3⟩)
  have r18 := h.2.1.2.2.2.2.1
  have hl := h.2.2.1.2.2.2.2.2
  refine en_X12_readsView ?_
  rw [r18, e6, zI_nat (by omega)]
  have hX0 : RXt (st_p s 86 (6 * xv T) (-1)) B N 0 T q1 lo := RXt_p h (Or.inr ⟨rfl, by omega⟩)
  have f0 : fh wLg s (st_p s 86 (6 * xv T) (-1)) := fh.refl.p wLg_86
  have a0 : st_g (st_p s 86 (6 * xv T) (-1)) 86 (6 * xv T) = -1 := g_p_eq _ _ _ _
  generalize st_p s 86 (6 * xv T) (-1) = s0 at hX0 f0 a0
  have e15 : (knI (kn B N q1) = 15) ↔ kn B N q1 = 15 := knI_eq (n := 15) kn_le (by omega)
  have e14 : (knI (kn B N q1) = 14) ↔ kn B N q1 = 14 := knI_eq (n := 14) kn_le (by omega)
  refine ⟨in_zI (by omega) (by omega), ct_knownWord hX0.1.1.1 hX0.1.2.1 ?_⟩
  rw [e15]
  refine ⟨fun n15 => ct_knownWord hX0.1.1.1 hX0.1.2.1 ?_, fun k15 => ?_⟩
  · rw [e14]
    refine ⟨fun n14 => ?_, fun k14 => ?_⟩
    · have hown : rdOwn B N (xR T) q1 = .inl (1, tS B N q1) := by unfold rdOwn; rw [if_neg n14, if_neg n15]
      exact ct_needR (c := False) hX0.1.1 hX0.1.2.1 hX0.1.2.2 (fun z => absurd z id) (fun _ => bad70 _ (1, tS B N q1) (by unfold rdVw; rw [hown]) (f0.b) (by rw [g_p_k (by omega), g_p_eq]) (g_p_eq _ _ _ _) (by show 1 ≤ 1; omega) (by show 1 ≤ 3; omega))
    · have k14 := Decidable.of_not_not k14
      have h0 : tK B N q1 ≠ 0 := by have := (kn_lt (B := B) (N := N) (q := q1) (by omega)).1; omega
      have hadv := tok_adv (B := B) hX0.1.2.1.1 h0
      exact ct_needR (c := True) hX0.1.1 hX0.1.2.1 hX0.1.2.2 (fun _ t ht hBt hTt => s70 t (-1, tE B N q1) lo (by unfold rdOwn; rw [if_pos k14]) (f0.rk ht wLg_rk) (RXt_tok hX0 ht hBt hTt (by show 2 * lo ≤ 3 * tE B N q1 + 0; omega)) (by rw [ht.g (wRk_ne (by omega))]; exact a0)) (fun z => absurd trivial z)
  · have k15 := Decidable.of_not_not k15
    have n14 : ¬ kn B N q1 = 14 := by omega
    have h0 : tK B N q1 ≠ 0 := by have := (kn_lt (B := B) (N := N) (q := q1) (by omega)).1; omega
    have hadv := tok_adv (B := B) hX0.1.2.1.1 h0
    have hown : rdOwn B N (xR T) q1 = (if nmF B N (tE B N q1) (xR T) 3 = 0 then .inr (zI (tV B N (tE B N q1)), tE B N (tE B N q1)) else .inl (nmF B N (tE B N q1) (xR T) 3, tS B N (tE B N q1))) := by unfold rdOwn; rw [if_neg n14, if_pos k15]
    refine ct_goR hX0.1.1 hX0.1.2.1 (fun t ht hBt hTt => ?_)
    have hXt : RXt t B N 0 T (tE B N q1) lo := RXt_tok hX0 ht hBt hTt (by omega)
    have ft : fh wLg s t := f0.rk ht wLg_rk
    refine ct_roleHere hBt hTt hXt.1.2.2 hXt.2.1.2.1 (by have := hXt.2.2.1.2.1; omega) (fun hn k2 hlt => ⟨in_zI (by omega) (by omega), ?_⟩) (fun hn v => ⟨in_zI (by omega) (by omega), ?_⟩)
    · rw [if_pos hn] at hown
      have hXv : RXt (st_p t 86 (6 * xv T) (zI (tV B N (tE B N q1)))) B N 0 T (tE B N q1) lo := RXt_p hXt (Or.inr ⟨rfl, by omega⟩)
      refine ct_isGoodY hXv.1.2.2 ⟨fun z => absurd z (by decide), fun _ => ct_goR hXv.1.1 hXv.1.2.1 (fun w hw hBw hTw => ?_)⟩
      have hadv2 := tok_adv (B := B) hTt.1 (show tK B N (tE B N q1) ≠ 0 by omega)
      exact s70 w (zI (tV B N (tE B N q1)), tE B N (tE B N q1)) lo hown ((ft.p wLg_86).rk hw wLg_rk) (RXt_tok hXv hw hBw hTw (by show 2 * lo ≤ 3 * tE B N (tE B N q1) + 0; omega)) (by rw [hw.g (wRk_ne (by omega)), g_p_eq])
    · rw [if_neg hn] at hown
      have hf3 := nmF_le (B := B) (N := N) (q := tE B N q1) (m := xR T) (show 3 ≤ 3 by omega)
      have b3 : st_g (st_p (st_p (st_p t 77 3 (zI (nmF B N (tE B N q1) (xR T) 3))) 77 4 (zI (tS B N (tE B N q1)))) 86 (6 * xv T) v) 77 3 = zI (nmF B N (tE B N q1) (xR T) 3) := by rw [g_p_a (by omega), g_p_k (by omega), g_p_eq]
      refine ct_isGoodN (by rw [b3]; exact nz3 (by omega) hf3) ⟨fun _ => bad70 _ (nmF B N (tE B N q1) (xR T) 3, tS B N (tE B N q1)) (by unfold rdVw; rw [hown]) (ft.b.p wLn_86) b3 (by rw [g_p_a (by omega), g_p_eq]) (by show 1 ≤ nmF B N (tE B N q1) (xR T) 3; omega) hf3, fun z => absurd rfl z⟩
end RVIEW
