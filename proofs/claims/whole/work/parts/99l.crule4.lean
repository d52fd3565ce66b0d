/-! ===== the class's reader of rules: sums, tests, nots, ands, ors ===== -/
section CRULE4
theorem weak_mono {a b : Nat} {w : List Nat} (h : weak a w) (hab : a ≤ b) : weak b w := by
  cases w with
  | nil => trivial
  | cons o w =>
    rcases h with z | z
    · exact Or.inl z
    · exact Or.inr (by omega)
theorem stP_60 {B : Nat → Nat} {N q : Nat} (h : tG B N q ≠ 0) : ¬ kn B N q = 22 ∧ ¬ kn B N q = 23 := by
  have := G_kn h
  omega
theorem sp_sum {X : bi_X} {D : Nat} {B : Nat → Nat} {N C R dp : Nat} (hdp : dp < 6) (hp : Spc X (D + 6) 57 B N C R dp 4 6 5 (dp + 2) (pL B N)) : Spc X (D + 7) 56 B N C R dp 3 5 4 (dp + 2) (pL B N) := by
  intro K E s b lo q c out w tst sil mn nots h hpre hwk hbin hok hJ _ kF kT
  obtain ⟨m, hm⟩ : ∃ m : Ms, m = (some (mn, nots), (q, out, w, tst, dp + 1, sil)) := ⟨_, rfl⟩
  rw [← hm] at kF kT
  have loop : ∀ f q1 out1 sil1 tst1 (t : bi_St) i, N - q1 ≤ f → i ≤ q1 → fr (wRs b lo) s t → CS t B N C R b lo c q1 out1 sil1 → okf C out1 (bin w + 1) → lo + out1.length + w.length ≤ q1 → q ≤ q1 → (∀ j, j < dp + 2 → tst1 j = tst j) → lvl B N q1 (tst1 (dp + 1)) ≤ 5 → Sim B N C R m (none, (q1, out1, w, tst1, dp + 1, sil1)) → at_X4_readSum_12 X (D + 7) K E t (zI dp) (zI i) := by
    intro f
    induction f with
    | zero =>
      intro q1 out1 sil1 tst1 t i hf hi ht hc hok1 hJ1 hqq htst hlv hsim
      have hN := CS_N hc
      have h0 := lvl_end (B := B) (t := tst1 (dp + 1)) (show N ≤ q1 by omega) hN.1
      have k1 := kT t q1 out1 sil1 tst1 ht hc hok1 hJ1 (by rw [hm]; exact hqq) htst (by omega) hsim
      have g0 : tG B N q1 = 0 := by
        have hS := tS_le (B := B) hN.1
        have k0 : tK B N q1 = 0 := by unfold tK kX; rw [if_pos (by omega)]
        unfold tG; rw [if_neg (by omega)]
      refine go_X4_readSum_12 ⟨fun _ => k1, fun _ => ct_isSignC (c := 43) hc.2.2.2.1 hc.2.2.2.2.1 (by omega) ?_⟩
      rw [decide_eq_false (by omega)]
      refine ⟨fun z => absurd rfl z, fun _ => ct_isSignC (c := 45) hc.2.2.2.1 hc.2.2.2.2.1 (by omega) ?_⟩
      rw [decide_eq_false (by omega)]
      exact ⟨fun _ => k1, fun z => absurd rfl z⟩
    | succ f ih =>
      intro q1 out1 sil1 tst1 t i hf hi ht hc hok1 hJ1 hqq htst hlv hsim
      have hN := CS_N hc
      have hT := hc.2.2.2.1
      have hq := hc.2.2.2.2.1
      have stop : ¬ (tG B N q1 = 43 ∨ tG B N q1 = 45) → K 1 t := fun hno => kT t q1 out1 sil1 tst1 ht hc hok1 hJ1 (by rw [hm]; exact hqq) htst (by rcases lvl_cases (B := B) (N := N) (q := q1) (t := tst1 (dp + 1)) with h | h | h | h | h | h <;> first | omega | exact absurd h.2 hno) hsim
      have go : (tG B N q1 = 43 ∨ tG B N q1 = 45) → cI X (D + 6) 97 [.ref 1, .int (43 : Int32)] t (fun (r3 : Int32) (s3 : bi_St) => cV X (D + 6) 94 [.ref 1] s3 (fun (s4 : bi_St) => cI X (D + 6) 57 [.ref 44, .int (zI dp)] s4 (fun (r5 : Int32) (s5 : bi_St) => ((¬ r5 = 0) → st_isR (st_gp s5 6) ∧ (((r3 = 0) → cV X (D + 6) 64 [.ref (st_gp s5 6), .int (7 : Int32), .int (0 : Int32)] s5 (fun (s6 : bi_St) => at_X4_readSum_12 X (D + 6 + 1) K E s6 (zI dp) ((zI i + (1 : Int32)))) (fun _ _ => False)) ∧ (¬ (r3 = 0) → cV X (D + 6) 64 [.ref (st_gp s5 6), .int (6 : Int32), .int (0 : Int32)] s5 (fun (s7 : bi_St) => at_X4_readSum_12 X (D + 6 + 1) K E s7 (zI dp) ((zI i + (1 : Int32)))) (fun _ _ => False)))) ∧ (¬ (¬ r5 = 0) → K (0 : Int32) s5)) (fun _ _ => False)) (fun _ _ => False)) (fun _ _ => False) := by
        intro hop
        have h3 := G_K (show tG B N q1 ≠ 0 by omega)
        have hk25 := stP_60 (show tG B N q1 ≠ 0 by omega)
        have hadv := tok_adv (B := B) hN.1 (show tK B N q1 ≠ 0 by omega)
        obtain ⟨o, ho⟩ : ∃ o, o = (if tG B N q1 = 43 then 6 else 7) := ⟨_, rfl⟩
        have ho67 : o = 6 ∨ o = 7 := by rw [ho]; by_cases z : tG B N q1 = 43 <;> simp [z]
        have hst : stpM B N C R (none, (q1, out1, w, tst1, dp + 1, sil1)) = .inl (some (false, 0), (tE B N q1, out1, o :: w, tst1, dp + 1, sil1)) := by
          show stP B N _ = _
          unfold stP psh
          simp only [pop_weak hwk]
          rw [if_neg hk25.1, if_neg hk25.2, if_neg (fun z => by omega), if_neg (fun z => by omega)]
          by_cases z : tG B N q1 = 43
          · rw [if_pos z, ho, if_pos z]
          · rw [if_neg z, if_pos (by omega), ho, if_neg z]
        have hsim2 := hsim.trans (Sim.step hst)
        have pc : pc1 B N q1 = 1 := by unfold pc1; rw [if_neg (by omega)]
        have ew : bin (o :: w) = bin w + 1 := bin_c (by omega)
        have hso : strg o = 5 := by rcases ho67 with z | z <;> rw [z] <;> rfl
        refine ct_isSignC (c := 43) hT hq (by omega) (ct_adv hc (fun u hu hcu => ?_))
        rw [pc] at hcu
        have hsu := ht.trans hu
        refine hp _ _ u b lo (tE B N q1) (c + 1) out1 (o :: w) tst1 sil1 false 0 hcu (fun z => by cases z.1) (Or.inr (by omega)) (by omega) (by rw [ew]; exact hok1) (by rw [List.length_cons]; omega) (fun z => by omega) (fun v fk p hv a1 a2 a3 a4 a5 he => ⟨fun z => absurd rfl z, fun _ => kF v fk p ((hsu.mono wRs_wRf).trans hv) a1 a2 a3 a4 a5 (hsim2 _ he)⟩) (fun v q2 out2 sil3 tst2 hv hcv hok2 hJ2 hmn htst2 hlv2 hsim3 => ⟨fun _ => ⟨by rw [hcv.2.2.2.2.2.1]; exact h.1, ?_⟩, fun z => absurd (by decide) z⟩)
        have hmn : tE B N q1 ≤ q2 := hmn
        rw [List.length_cons] at hJ2
        rw [ew] at hok2
        have hN2 := CS_N hcv
        have hsim4 := (hsim2.trans hsim3).trans (Sim.pop (by omega) (by rw [hso]; exact hlv2))
        rw [hcv.2.2.2.2.2.1, b2i_ne0]
        have fin : ∀ x, x = zI o → cV X (D + 6) 64 [.ref b, .int x, .int (0 : Int32)] v (fun s8 => at_X4_readSum_12 X (D + 6 + 1) K E s8 (zI dp) (zI i + (1 : Int32))) (fun _ _ => False) := by
          intro x hx
          subst hx
          refine ct_add (o := (o, 0)) hcv (by omega) (fun v2 hv2 hcv2 => ?_)
          rw [zI_add1]
          refine ih q2 (out2 ++ [(o, 0)]) sil3 tst2 v2 (i + 1) (by omega) (by omega) ((hsu.trans hv).trans hv2) hcv2 (bin_ok (by omega) hok2 (by omega)) ?_ (by omega) (fun j hj => by rw [htst2 j hj, htst j hj]) hlv2 hsim4
          rw [List.length_append]; simp only [List.length_cons, List.length_nil]; omega
        refine ⟨fun z => fin 7 ?_, fun z => fin 6 ?_⟩
        · have z : ¬ tG B N q1 = 43 := by simpa using z
          rw [ho, if_neg z]; rfl
        · have z : tG B N q1 = 43 := by simpa using z
          rw [ho, if_pos z]; rfl
      refine go_X4_readSum_12 ⟨fun z => stop (fun hop => ?_), fun _ => ct_isSignC (c := 43) hT hq (by omega) ?_⟩
      · have := (zI_le (a := 700) (by omega) (by omega)).mp z
        have hS := tS_le (B := B) hN.1
        have k0 : tK B N q1 = 0 := by unfold tK kX; rw [if_pos (by omega)]
        have := G_K (show tG B N q1 ≠ 0 by omega)
        omega
      · rw [b2i_ne0]
        refine ⟨fun z => go (Or.inl (by simpa using z)), fun z => ct_isSignC (c := 45) hT hq (by omega) ?_⟩
        have z : ¬ tG B N q1 = 43 := by simpa using z
        rw [b2i_ne0]
        refine ⟨fun z2 => stop (fun y => ?_), fun z2 => go (Or.inr (by simpa using z2))⟩
        have z2 : ¬ tG B N q1 = 45 := by simpa using z2
        omega
  refine en_X4_readSum (hp _ _ s b lo q c out w tst sil mn nots h hpre (weak_mono hwk (by omega)) (by omega) hok hJ (fun z => by omega) (fun v fk p hv a1 a2 a3 a4 a5 he => ⟨fun z => absurd rfl z, fun _ => kF v fk p hv a1 a2 a3 a4 a5 (by rw [hm]; exact he)⟩) (fun v q2 out2 sil3 tst2 hv hcv hok2 hJ2 hmn htst2 hlv hsim3 => ⟨fun _ => loop (N - q2) q2 out2 sil3 tst2 v 0 (by omega) (by omega) hv hcv hok2 hJ2 hmn htst2 hlv (by rw [hm]; exact hsim3), fun z => absurd (by decide) z⟩))
theorem sp_test {X : bi_X} {D : Nat} {B : Nat → Nat} {N C R dp : Nat} (hdp : dp < 6) (hp : Spc X (D + 7) 56 B N C R dp 3 5 4 (dp + 2) (pL B N)) : Spc X (D + 8) 55 B N C R dp 2 4 2 (dp + 1) (pL B N) := by
  intro K E s b lo q c out w tst sil mn nots h hpre hwk hbin hok hJ htf kF kT
  have htf := htf rfl
  obtain ⟨m, hm⟩ : ∃ m : Ms, m = (some (mn, nots), (q, out, w, tst, dp + 1, sil)) := ⟨_, rfl⟩
  rw [← hm] at kF kT
  refine en_X4_readTest (hp _ _ s b lo q c out w tst sil mn nots h hpre (weak_mono hwk (by omega)) (by omega) hok hJ (fun z => by omega) (fun v fk p hv a1 a2 a3 a4 a5 he => ⟨fun z => absurd rfl z, fun _ => kF v fk p hv a1 a2 a3 a4 a5 (by rw [hm]; exact he)⟩) (fun t q1 out1 sil1 tst1 ht hc hok1 hJ1 hqq htst hlv hsim => ⟨fun _ => ?_, fun z => absurd (by decide) z⟩))
  rw [← hm] at hsim
  have hqq : q ≤ q1 := hqq
  have hN := CS_N hc
  have hT := hc.2.2.2.1
  have hq := hc.2.2.2.2.1
  have ht1 : tst1 (dp + 1) = false := by rw [htst _ (by omega)]; exact htf
  have go : ∀ o, ((tG B N q1 = 60 ∧ o = 10) ∨ (tG B N q1 = 61 ∧ o = 11)) → cV X (D + 7) 94 [.ref 1] t (fun (s3 : bi_St) => cI X (D + 7) 56 [.ref 44, .int (zI dp)] s3 (fun (r4 : Int32) (s4 : bi_St) => ((¬ r4 = 0) → st_isR (st_gp s4 6) ∧ cV X (D + 7) 64 [.ref (st_gp s4 6), .int (zI o), .int (0 : Int32)] s4 (fun (s5 : bi_St) => K (1 : Int32) s5) (fun _ _ => False)) ∧ (¬ (¬ r4 = 0) → K (0 : Int32) s4)) (fun _ _ => False)) (fun _ _ => False) := by
    intro o hop
    have h3 := G_K (show tG B N q1 ≠ 0 by omega)
    have hk25 := stP_60 (show tG B N q1 ≠ 0 by omega)
    have hadv := tok_adv (B := B) hN.1 (show tK B N q1 ≠ 0 by omega)
    have hst : stpM B N C R (none, (q1, out1, w, tst1, dp + 1, sil1)) = .inl (some (false, 0), (tE B N q1, out1, o :: w, va_up tst1 (dp + 1) true, dp + 1, sil1)) := by
      show stP B N _ = _
      unfold stP psh
      simp only [pop_weak hwk]
      rw [if_neg hk25.1, if_neg hk25.2]
      rcases hop with ⟨z, y⟩ | ⟨z, y⟩
      · rw [if_pos ⟨z, ht1⟩, y]
      · rw [if_neg (fun x => by omega), if_pos ⟨z, ht1⟩, y]
    have hsim2 := hsim.trans (Sim.step hst)
    have pc : pc1 B N q1 = 1 := by unfold pc1; rw [if_neg (by omega)]
    have ew : bin (o :: w) = bin w + 1 := bin_c (by omega)
    have hso : strg o = 4 := by rcases hop with ⟨_, z⟩ | ⟨_, z⟩ <;> rw [z] <;> rfl
    refine ct_adv hc (fun u hu hcu => ?_)
    rw [pc] at hcu
    have hsu := ht.trans hu
    refine hp _ _ u b lo (tE B N q1) (c + 1) out1 (o :: w) (va_up tst1 (dp + 1) true) sil1 false 0 hcu (fun z => by cases z.1) (Or.inr (by omega)) (by omega) (by rw [ew]; exact hok1) (by rw [List.length_cons]; omega) (fun z => by omega) (fun v fk p hv a1 a2 a3 a4 a5 he => ⟨fun z => absurd rfl z, fun _ => kF v fk p ((hsu.mono wRs_wRf).trans hv) a1 a2 a3 a4 a5 (hsim2 _ he)⟩) (fun v q2 out2 sil3 tst2 hv hcv hok2 hJ2 hmn htst2 hlv2 hsim3 => ⟨fun _ => ⟨by rw [hcv.2.2.2.2.2.1]; exact h.1, ?_⟩, fun z => absurd (by decide) z⟩)
    have hmn : tE B N q1 ≤ q2 := hmn
    rw [List.length_cons] at hJ2
    rw [ew] at hok2
    have hN2 := CS_N hcv
    have tt : tst2 (dp + 1) = true := by rw [htst2 _ (by omega), va_upe, if_pos rfl]
    have hsim4 := (hsim2.trans hsim3).trans (Sim.pop (by omega) (by rw [hso]; exact hlv2))
    rw [hcv.2.2.2.2.2.1]
    refine ct_add (o := (o, 0)) hcv (by omega) (fun v2 hv2 hcv2 => ?_)
    refine kT v2 q2 (out2 ++ [(o, 0)]) sil3 tst2 ((hsu.trans hv).trans hv2) hcv2 (bin_ok (by omega) hok2 (by omega)) ?_ (by rw [hm]; show q ≤ q2; omega) (fun j hj => ?_) ?_ hsim4
    · rw [List.length_append]; simp only [List.length_cons, List.length_nil]; omega
    · rw [htst2 j (by omega), va_upe, if_neg (by omega), htst j (by omega)]
    · rw [tt] at hlv2 ⊢
      rcases lvl_cases (B := B) (N := N) (q := q2) (t := true) with h | h | h | h | h | h <;> first | omega | (have := h.2.2; cases this)
  refine ct_isSignC (c := 60) hT hq (by omega) ?_
  have sel : ∀ (o : Nat) (b2 : Bool) (s4 : bi_St), (b2 = true → o = 10) → (b2 = false → o = 11) → cV X (D + 7) 64 [.ref (st_gp s4 6), .int (zI o), .int (0 : Int32)] s4 (fun (s5 : bi_St) => K (1 : Int32) s5) (fun _ _ => False) → (((b2i b2 = 0) → cV X (D + 7) 64 [.ref (st_gp s4 6), .int (11 : Int32), .int (0 : Int32)] s4 (fun (s5 : bi_St) => K (1 : Int32) s5) (fun _ _ => False)) ∧ (¬ (b2i b2 = 0) → cV X (D + 7) 64 [.ref (st_gp s4 6), .int (10 : Int32), .int (0 : Int32)] s4 (fun (s6 : bi_St) => K (1 : Int32) s6) (fun _ _ => False))) := by
    intro o b2 s4 h1 h2 hh
    rw [b2i_ne0]
    refine ⟨fun z => ?_, fun z => ?_⟩
    · rw [h2 z] at hh; exact hh
    · rw [h1 (by simpa using z)] at hh; exact hh
  obtain ⟨b2, hb2⟩ : ∃ b2, b2 = decide (tG B N q1 = 60) := ⟨_, rfl⟩
  rw [← hb2]
  refine ⟨fun z => ?_, fun z => ct_isSignC (c := 61) hT hq (by omega) ?_⟩
  · rw [b2i_ne0] at z
    have z' : b2 = true := by simpa using z
    have z60 : tG B N q1 = 60 := by rw [hb2] at z'; simpa using z'
    refine cV.mono (go 10 (Or.inl ⟨z60, rfl⟩)) (fun s3 h3 => cI.mono h3 (fun r4 s4 h4 => ⟨fun hr => ⟨(h4.1 hr).1, sel 10 b2 s4 (fun _ => rfl) (fun y => by rw [z'] at y; cases y) (h4.1 hr).2⟩, h4.2⟩) (fun _ _ y => y)) (fun _ _ y => y)
  · rw [b2i_ne0] at z
    have z' : b2 = false := Decidable.of_not_not z
    have z60 : ¬ tG B N q1 = 60 := by rw [hb2] at z'; simpa using z'
    rw [b2i_ne0]
    refine ⟨fun y => ?_, fun y => ?_⟩
    · have y : tG B N q1 = 61 := by simpa using y
      refine cV.mono (go 11 (Or.inr ⟨y, rfl⟩)) (fun s3 h3 => cI.mono h3 (fun r4 s4 h4 => ⟨fun hr => ⟨(h4.1 hr).1, sel 11 b2 s4 (fun x => by rw [z'] at x; cases x) (fun _ => rfl) (h4.1 hr).2⟩, h4.2⟩) (fun _ _ y => y)) (fun _ _ y => y)
    · have y : ¬ tG B N q1 = 61 := by simpa using y
      refine kT t q1 out1 sil1 tst1 ht hc hok1 hJ1 (by rw [hm]; exact hqq) (fun j hj => htst j (by omega)) ?_ hsim
      rcases lvl_cases (B := B) (N := N) (q := q1) (t := tst1 (dp + 1)) with h | h | h | h | h | h <;> omega
end CRULE4
