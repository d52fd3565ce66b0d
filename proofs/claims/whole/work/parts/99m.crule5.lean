/-! ===== the class's reader of rules: nots, ands, ors ===== -/
section CRULE5
def nts (n : Nat) (w : List Nat) : List Nat := List.replicate n 5 ++ w
theorem nts_s {n : Nat} {w : List Nat} : nts (n + 1) w = 5 :: nts n w := by unfold nts; rw [List.replicate_succ]; rfl
theorem nts_len {n : Nat} {w : List Nat} : (nts n w).length = n + w.length := by unfold nts; rw [List.length_append, List.length_replicate]
theorem nts_bin {n : Nat} {w : List Nat} : bin (nts n w) = bin w := by
  induction n with
  | zero => rfl
  | succ n ih => rw [nts_s, bin_n (by omega), ih]
theorem nts_weak {n : Nat} {w : List Nat} (h : weak 3 w) : weak 4 (nts n w) := by
  cases n with
  | zero => exact weak_mono h (by omega)
  | succ n => rw [nts_s]; exact Or.inr (by decide)
theorem sp_not {X : bi_X} {D : Nat} {B : Nat → Nat} {N C R dp : Nat} (hdp : dp < 6) (hp : Spc X (D + 8) 55 B N C R dp 2 4 2 (dp + 1) (pL B N)) : Spc X (D + 9) 54 B N C R dp 2 3 2 (dp + 1) (pU B N) := by
  intro K E s b lo q c out w tst sil mn nots h hpre hwk hbin hok hJ htf kF kT
  have htf' := htf rfl
  obtain ⟨rfl, rfl⟩ := hpre
  obtain ⟨m, hm⟩ : ∃ m : Ms, m = (some (true, 0), (q, out, w, tst, dp + 1, sil)) := ⟨_, rfl⟩
  rw [← hm] at kF kT
  -- nots are put behind their test
  have put : ∀ n k q' out' sil' tst' (t : bi_St), fr (wRs b lo) s t → CS t B N C R b lo (c + zI n) q' out' sil' → okf C out' (bin w + 1) → lo + out'.length + (n + w.length) ≤ q' → q ≤ q' → (∀ j, j < dp + 1 → tst' j = tst j) → lvl B N q' (tst' (dp + 1)) ≤ 2 → Sim B N C R m (none, (q', out', nts n w, tst', dp + 1, sil')) → n + k < 2147483648 → at_X4_readNot_72 X (D + 9) K E t (zI (n + k)) (zI k) := by
    intro n
    induction n with
    | zero =>
      intro k q' out' sil' tst' t ht hc hok' hJ' hqq htst hlv hsim hk
      have hc : CS t B N C R b lo c q' out' sil' := by
        have e : c + zI 0 = c := Int32.add_zero c
        rw [e] at hc; exact hc
      refine go_X4_readNot_72 ⟨fun _ => kT t q' out' sil' tst' ht hc hok' (by omega) (by rw [hm]; exact hqq) htst hlv hsim, fun z => absurd ?_ z⟩
      exact (zI_le (by omega) (by omega)).mpr (by omega)
    | succ n ih =>
      intro k q' out' sil' tst' t ht hc hok' hJ' hqq htst hlv hsim hk
      have hN := CS_N hc
      have e : c + zI (n + 1) = c + zI n + 1 := by rw [Int32.add_assoc, zI_add1]
      rw [e] at hc
      rw [nts_s] at hsim
      refine go_X4_readNot_72 ⟨fun z => ?_, fun _ => ⟨by rw [hc.2.2.2.2.2.1]; exact h.1, ?_⟩⟩
      · rw [zI_le (by omega) (by omega)] at z; omega
      · rw [hc.2.2.2.2.2.1]
        refine ct_add (o := (5, 0)) hc (by omega) (fun u hu hcu => ?_)
        rw [zI_add1, show n + 1 + k = n + (k + 1) by omega]
        have h3 : strg 5 = 3 := rfl
        refine ih (k + 1) q' (out' ++ [(5, 0)]) sil' tst' u (ht.trans hu) hcu ?_ ?_ hqq htst hlv (hsim.trans (Sim.pop (by omega) (by rw [h3]; omega))) (by omega)
        · have := okf_snoc (o := (5, 0)) hok' ⟨by show 5 ≤ 13; omega, by show 0 ≤ 9999; omega, fun z => absurd (show (5 : Nat) = 1 from z) (by decide), fun z => absurd (show (5 : Nat) = 3 from z) (by decide)⟩ (by show 1 ≤ bin w + 1; omega) (by show bin w + 1 - 1 < 64; omega)
          exact this
        · rw [List.length_append]; simp only [List.length_cons, List.length_nil]; omega
  have test : ∀ n q1 (t : bi_St), n ≤ 6 → fr (wRs b lo) s t → CS t B N C R b lo (c + zI n) q1 out sil → lo + out.length + (n + w.length) ≤ q1 → q ≤ q1 → ¬ kn B N q1 = 24 → Sim B N C R m (some (true, n), (q1, out, nts n w, tst, dp + 1, sil)) →
      cI X (D + 8) 55 [.ref 44, .int (zI dp)] t (fun (r1 : Int32) (s1 : bi_St) => ((¬ r1 = 0) → at_X4_readNot_72 X (D + 8 + 1) K E s1 (zI n) ((0 : Int32))) ∧ (¬ (¬ r1 = 0) → K (0 : Int32) s1)) (fun _ _ => False) := by
    intro n q1 t hn ht hc hJ1 hqq hnk hsim
    refine hp _ _ t b lo q1 (c + zI n) out (nts n w) tst sil true n hc (fun z => hnk z.2) (nts_weak hwk) (by rw [nts_bin]; omega) (by rw [nts_bin]; exact hok) (by rw [nts_len]; exact hJ1) (fun _ => htf') (fun v fk p hv a1 a2 a3 a4 a5 he => ⟨fun z => absurd rfl z, fun _ => kF v fk p ((ht.mono wRs_wRf).trans hv) a1 a2 a3 a4 a5 (hsim _ he)⟩) (fun v q2 out2 sil3 tst2 hv hcv hok2 hJ2 hmn htst2 hlv2 hsim3 => ⟨fun _ => ?_, fun z => absurd (by decide) z⟩)
    have hmn : q1 ≤ q2 := hmn
    rw [nts_len] at hJ2
    rw [nts_bin] at hok2
    exact put n 0 q2 out2 sil3 tst2 v (ht.trans hv) hcv hok2 hJ2 (by omega) htst2 hlv2 (hsim.trans hsim3) (by omega)
  have loop : ∀ f n q1 (t : bi_St), n + f = 6 → fr (wRs b lo) s t → CS t B N C R b lo (c + zI n) q1 out sil → lo + out.length + (n + w.length) ≤ q1 → q ≤ q1 → Sim B N C R m (some (true, n), (q1, out, nts n w, tst, dp + 1, sil)) → at_X4_readNot_2 X (D + 9) K E t (zI dp) (zI n) := by
    intro f
    induction f with
    | zero =>
      intro n q1 t hnf ht hc hJ1 hqq hsim
      have : n = 6 := by omega
      subst this
      have hN := CS_N hc
      have hS := tS_le (B := B) hN.1
      refine go_X4_readNot_2 ⟨fun _ => ⟨fun z => absurd rfl z, fun _ => ct_isWord (j := 2) hc.2.2.2.1 hc.2.2.2.2.1 (by omega) ?_⟩, fun z => absurd (by decide) z⟩
      rw [b2i_ne0]
      refine ⟨fun z => test 6 q1 t (by omega) ht hc hJ1 hqq (show ¬ kn B N q1 = wPm 2 by simpa using z) hsim, fun z => ct_refuse (f := 2) (b := b) (lo := lo) hc.2.2.2.2.1 (fun u hu u9 u10 => ⟨rfl, kF u 2 _ ((ht.mono wRs_wRf).trans hu) u9 u10 (by omega) (by omega) hS.2 (hsim _ (.fin _ _ ?_))⟩)⟩
      have z : kn B N q1 = 24 := (show kn B N q1 = wPm 2 by simpa using z)
      show stO B N C R true 6 _ = _
      unfold stO
      rw [if_pos ⟨rfl, z⟩, if_pos rfl]; rfl
    | succ f ih =>
      intro n q1 t hnf ht hc hJ1 hqq hsim
      have hN := CS_N hc
      have en6 : ¬ (zI n = 6) := fun z => by have := (zI_eq (b := 6) (by omega) (by omega)).mp z; omega
      refine go_X4_readNot_2 ⟨fun z => ?_, fun _ => ct_isWord (j := 2) hc.2.2.2.1 hc.2.2.2.2.1 (by omega) ?_⟩
      · have := (zI_le (a := 6) (by omega) (by omega)).mp z; omega
      · rw [b2i_ne0]
        refine ⟨fun z => ⟨fun _ => test n q1 t (by omega) ht hc hJ1 hqq (show ¬ kn B N q1 = wPm 2 by simpa using z) hsim, fun y => absurd en6 y⟩, fun z => ?_⟩
        have z : kn B N q1 = 24 := (show kn B N q1 = wPm 2 by simpa using z)
        have hk1 := (kn_lt (B := B) (N := N) (q := q1) (by omega)).1
        have hadv := tok_adv (B := B) hN.1 (show tK B N q1 ≠ 0 by omega)
        refine ct_adv hc (fun u hu hcu => ?_)
        rw [pc1_1 (by omega), Int32.add_assoc, zI_add1] at hcu
        rw [zI_add1]
        refine ih (n + 1) (tE B N q1) u (by omega) (ht.trans hu) hcu (by omega) (by omega) (hsim.trans (Sim.step ?_))
        show stO B N C R true n _ = _
        unfold stO
        rw [if_pos ⟨rfl, z⟩, if_neg (by omega), nts_s]
  have hc0 : CS s B N C R b lo (c + zI 0) q out sil := by
    have e : c + zI 0 = c := Int32.add_zero c
    rw [e]; exact h
  exact en_X4_readNot (loop 6 0 q s rfl fr.refl hc0 (by omega) (by omega) (by rw [hm]; exact Sim.refl _))
theorem sp_and {X : bi_X} {D : Nat} {B : Nat → Nat} {N C R dp : Nat} (hdp : dp < 6) (hp : Spc X (D + 9) 54 B N C R dp 2 3 2 (dp + 1) (pU B N)) : Spc X (D + 10) 53 B N C R dp 1 2 1 (dp + 1) (pU B N) := by
  intro K E s b lo q c out w tst sil mn nots h hpre hwk hbin hok hJ htf kF kT
  obtain ⟨m, hm⟩ : ∃ m : Ms, m = (some (mn, nots), (q, out, w, tst, dp + 1, sil)) := ⟨_, rfl⟩
  rw [← hm] at kF kT
  have loop : ∀ f q1 out1 sil1 tst1 (t : bi_St) i, N - q1 ≤ f → i ≤ q1 → fr (wRs b lo) s t → CS t B N C R b lo c q1 out1 sil1 → okf C out1 (bin w + 1) → lo + out1.length + w.length ≤ q1 → q ≤ q1 → (∀ j, j < dp + 1 → tst1 j = tst j) → lvl B N q1 (tst1 (dp + 1)) ≤ 2 → Sim B N C R m (none, (q1, out1, w, tst1, dp + 1, sil1)) → at_X4_readAnd_12 X (D + 10) K E t (zI dp) (zI i) := by
    intro f
    induction f with
    | zero =>
      intro q1 out1 sil1 tst1 t i hf hi ht hc hok1 hJ1 hqq htst hlv hsim
      have hN := CS_N hc
      have h0 := lvl_end (B := B) (t := tst1 (dp + 1)) (show N ≤ q1 by omega) hN.1
      have k1 := kT t q1 out1 sil1 tst1 ht hc hok1 hJ1 (by rw [hm]; exact hqq) htst (by omega) hsim
      have k25 : kn B N q1 = 25 := by
        have hS := tS_le (B := B) hN.1
        have k0 : tK B N q1 = 0 := by unfold tK kX; rw [if_pos (by omega)]
        unfold kn; rw [if_neg (by omega)]
      refine go_X4_readAnd_12 ⟨fun _ => k1, fun _ => ct_isWord (j := 1) hc.2.2.2.1 hc.2.2.2.2.1 (by omega) ?_⟩
      rw [decide_eq_false (show ¬ kn B N q1 = wPm 1 from by rw [k25]; decide)]
      exact ⟨fun _ => k1, fun z => absurd rfl z⟩
    | succ f ih =>
      intro q1 out1 sil1 tst1 t i hf hi ht hc hok1 hJ1 hqq htst hlv hsim
      have hN := CS_N hc
      have stop : ¬ kn B N q1 = 22 → K 1 t := fun hno => kT t q1 out1 sil1 tst1 ht hc hok1 hJ1 (by rw [hm]; exact hqq) htst (by rcases lvl_cases (B := B) (N := N) (q := q1) (t := tst1 (dp + 1)) with h | h | h | h | h | h <;> omega) hsim
      refine go_X4_readAnd_12 ⟨fun z => stop (fun hop => ?_), fun _ => ct_isWord (j := 1) hc.2.2.2.1 hc.2.2.2.2.1 (by omega) ?_⟩
      · have := (zI_le (a := 700) (by omega) (by omega)).mp z
        have hS := tS_le (B := B) hN.1
        have k0 : tK B N q1 = 0 := by unfold tK kX; rw [if_pos (by omega)]
        have := (kn_lt (B := B) (N := N) (q := q1) (by omega)).1
        omega
      · rw [b2i_ne0]
        refine ⟨fun z => stop (show ¬ kn B N q1 = wPm 1 by simpa using z), fun z => ?_⟩
        have hop : kn B N q1 = 22 := (show kn B N q1 = wPm 1 by simpa using z)
        have hk1 := (kn_lt (B := B) (N := N) (q := q1) (by omega)).1
        have hadv := tok_adv (B := B) hN.1 (show tK B N q1 ≠ 0 by omega)
        have hst : stpM B N C R (none, (q1, out1, w, tst1, dp + 1, sil1)) = .inl (some (true, 0), (tE B N q1, out1, 12 :: w, va_up tst1 (dp + 1) false, dp + 1, sil1)) := by
          show stP B N _ = _
          unfold stP psh
          simp only [pop_weak hwk]
          rw [if_pos hop]
        have hsim2 := hsim.trans (Sim.step hst)
        have ew : bin (12 :: w) = bin w + 1 := bin_c (by omega)
        refine ct_adv hc (fun u hu hcu => ?_)
        rw [pc1_1 (by omega)] at hcu
        have hsu := ht.trans hu
        refine hp _ _ u b lo (tE B N q1) (c + 1) out1 (12 :: w) (va_up tst1 (dp + 1) false) sil1 true 0 hcu ⟨rfl, rfl⟩ (Or.inr (by decide)) (by omega) (by rw [ew]; exact hok1) (by rw [List.length_cons]; omega) (fun _ => by rw [va_upe, if_pos rfl]) (fun v fk p hv a1 a2 a3 a4 a5 he => ⟨fun z => absurd rfl z, fun _ => kF v fk p ((hsu.mono wRs_wRf).trans hv) a1 a2 a3 a4 a5 (hsim2 _ he)⟩) (fun v q2 out2 sil3 tst2 hv hcv hok2 hJ2 hmn htst2 hlv2 hsim3 => ⟨fun _ => ⟨by rw [hcv.2.2.2.2.2.1]; exact h.1, ?_⟩, fun z => absurd (by decide) z⟩)
        have hmn : tE B N q1 ≤ q2 := hmn
        rw [List.length_cons] at hJ2
        rw [ew] at hok2
        have hN2 := CS_N hcv
        have hso : strg 12 = 2 := rfl
        have hsim4 := (hsim2.trans hsim3).trans (Sim.pop (by omega) (by rw [hso]; exact hlv2))
        rw [hcv.2.2.2.2.2.1]
        refine ct_add (o := (12, 0)) hcv (by omega) (fun v2 hv2 hcv2 => ?_)
        rw [zI_add1]
        refine ih q2 (out2 ++ [(12, 0)]) sil3 tst2 v2 (i + 1) (by omega) (by omega) ((hsu.trans hv).trans hv2) hcv2 (bin_ok (by omega) hok2 (by omega)) ?_ (by omega) (fun j hj => by rw [htst2 j hj, va_upe, if_neg (by omega), htst j hj]) hlv2 hsim4
        rw [List.length_append]; simp only [List.length_cons, List.length_nil]; omega
  refine en_X4_readAnd (hp _ _ s b lo q c out w tst sil mn nots h hpre (weak_mono hwk (by omega)) (by omega) hok hJ htf (fun v fk p hv a1 a2 a3 a4 a5 he => ⟨fun z => absurd rfl z, fun _ => kF v fk p hv a1 a2 a3 a4 a5 (by rw [hm]; exact he)⟩) (fun v q2 out2 sil3 tst2 hv hcv hok2 hJ2 hmn htst2 hlv hsim3 => ⟨fun _ => loop (N - q2) q2 out2 sil3 tst2 v 0 (by omega) (by omega) hv hcv hok2 hJ2 hmn htst2 hlv (by rw [hm]; exact hsim3), fun z => absurd (by decide) z⟩))
theorem sp_or {X : bi_X} {D : Nat} {B : Nat → Nat} {N C R dp : Nat} (hdp : dp < 6) (hp : Spc X (D + 10) 53 B N C R dp 1 2 1 (dp + 1) (pU B N)) : Spc X (D + 11) 52 B N C R dp 0 1 0 (dp + 1) (pU B N) := by
  intro K E s b lo q c out w tst sil mn nots h hpre hwk hbin hok hJ htf kF kT
  have hN0 := CS_N h
  have hS0 := tS_le (B := B) hN0.1
  have hno : canB B N q = false → Ends B N C R (some (mn, nots), (q, out, w, tst, dp + 1, sil)) (.inl (1, tS B N q)) := fun hcb => by
    unfold canB at hcb
    rw [Bool.or_eq_false_iff, Bool.or_eq_false_iff] at hcb
    have n2 : ¬ tK B N q = 2 := by simpa using hcb.1
    have n1 : ¬ tK B N q = 1 := by simpa using hcb.2.1
    have n40 : ¬ tG B N q = 40 := by simpa using hcb.2.2
    have k25 : ¬ kn B N q < 25 := fun z => n1 (kn_lt z).1
    refine .fin _ _ ?_
    show stO B N C R mn nots _ = _
    unfold stO
    rw [if_neg (fun z => by have z2 : kn B N q = 24 := z.2; omega), if_neg (show ¬ kn B N (q, out, w, tst, dp + 1, sil).1 = 21 from by show ¬ kn B N q = 21; omega), if_neg n40]
    unfold prt
    rw [if_neg n2, if_neg n1]; rfl
  obtain ⟨m, hm⟩ : ∃ m : Ms, m = (some (mn, nots), (q, out, w, tst, dp + 1, sil)) := ⟨_, rfl⟩
  rw [← hm] at kF kT hno
  have loop : ∀ f q1 out1 sil1 tst1 (t : bi_St) i, N - q1 ≤ f → i ≤ q1 → fr (wRs b lo) s t → CS t B N C R b lo c q1 out1 sil1 → okf C out1 (bin w + 1) → lo + out1.length + w.length ≤ q1 → q ≤ q1 → (∀ j, j < dp + 1 → tst1 j = tst j) → lvl B N q1 (tst1 (dp + 1)) ≤ 1 → Sim B N C R m (none, (q1, out1, w, tst1, dp + 1, sil1)) → at_X4_readOr_43 X (D + 11) K E t (zI dp) (zI i) := by
    intro f
    induction f with
    | zero =>
      intro q1 out1 sil1 tst1 t i hf hi ht hc hok1 hJ1 hqq htst hlv hsim
      have hN := CS_N hc
      have h0 := lvl_end (B := B) (t := tst1 (dp + 1)) (show N ≤ q1 by omega) hN.1
      have k1 := kT t q1 out1 sil1 tst1 ht hc hok1 hJ1 (by rw [hm]; exact hqq) htst (by omega) hsim
      have k25 : kn B N q1 = 25 := by
        have hS := tS_le (B := B) hN.1
        have k0 : tK B N q1 = 0 := by unfold tK kX; rw [if_pos (by omega)]
        unfold kn; rw [if_neg (by omega)]
      refine go_X4_readOr_43 ⟨fun _ => k1, fun _ => ct_isWord (j := 0) hc.2.2.2.1 hc.2.2.2.2.1 (by omega) ?_⟩
      rw [decide_eq_false (show ¬ kn B N q1 = wPm 0 from by rw [k25]; decide)]
      exact ⟨fun _ => k1, fun z => absurd rfl z⟩
    | succ f ih =>
      intro q1 out1 sil1 tst1 t i hf hi ht hc hok1 hJ1 hqq htst hlv hsim
      have hN := CS_N hc
      have stop : ¬ kn B N q1 = 23 → K 1 t := fun hno => kT t q1 out1 sil1 tst1 ht hc hok1 hJ1 (by rw [hm]; exact hqq) htst (by rcases lvl_cases (B := B) (N := N) (q := q1) (t := tst1 (dp + 1)) with h | h | h | h | h | h <;> omega) hsim
      refine go_X4_readOr_43 ⟨fun z => stop (fun hop => ?_), fun _ => ct_isWord (j := 0) hc.2.2.2.1 hc.2.2.2.2.1 (by omega) ?_⟩
      · have := (zI_le (a := 700) (by omega) (by omega)).mp z
        have hS := tS_le (B := B) hN.1
        have k0 : tK B N q1 = 0 := by unfold tK kX; rw [if_pos (by omega)]
        have := (kn_lt (B := B) (N := N) (q := q1) (by omega)).1
        omega
      · rw [b2i_ne0]
        refine ⟨fun z => stop (show ¬ kn B N q1 = wPm 0 by simpa using z), fun z => ?_⟩
        have hop : kn B N q1 = 23 := (show kn B N q1 = wPm 0 by simpa using z)
        have hk1 := (kn_lt (B := B) (N := N) (q := q1) (by omega)).1
        have hadv := tok_adv (B := B) hN.1 (show tK B N q1 ≠ 0 by omega)
        have hst : stpM B N C R (none, (q1, out1, w, tst1, dp + 1, sil1)) = .inl (some (true, 0), (tE B N q1, out1, 13 :: w, va_up tst1 (dp + 1) false, dp + 1, sil1)) := by
          show stP B N _ = _
          unfold stP psh
          simp only [pop_weak hwk]
          rw [if_neg (by omega), if_pos hop]
        have hsim2 := hsim.trans (Sim.step hst)
        have ew : bin (13 :: w) = bin w + 1 := bin_c (by omega)
        refine ct_adv hc (fun u hu hcu => ?_)
        rw [pc1_1 (by omega)] at hcu
        have hsu := ht.trans hu
        refine hp _ _ u b lo (tE B N q1) (c + 1) out1 (13 :: w) (va_up tst1 (dp + 1) false) sil1 true 0 hcu ⟨rfl, rfl⟩ (Or.inr (by decide)) (by omega) (by rw [ew]; exact hok1) (by rw [List.length_cons]; omega) (fun _ => by rw [va_upe, if_pos rfl]) (fun v fk p hv a1 a2 a3 a4 a5 he => ⟨fun z => absurd rfl z, fun _ => kF v fk p ((hsu.mono wRs_wRf).trans hv) a1 a2 a3 a4 a5 (hsim2 _ he)⟩) (fun v q2 out2 sil3 tst2 hv hcv hok2 hJ2 hmn htst2 hlv2 hsim3 => ⟨fun _ => ⟨by rw [hcv.2.2.2.2.2.1]; exact h.1, ?_⟩, fun z => absurd (by decide) z⟩)
        have hmn : tE B N q1 ≤ q2 := hmn
        rw [List.length_cons] at hJ2
        rw [ew] at hok2
        have hN2 := CS_N hcv
        have hso : strg 13 = 1 := rfl
        have hsim4 := (hsim2.trans hsim3).trans (Sim.pop (by omega) (by rw [hso]; exact hlv2))
        rw [hcv.2.2.2.2.2.1]
        refine ct_add (o := (13, 0)) hcv (by omega) (fun v2 hv2 hcv2 => ?_)
        rw [zI_add1]
        refine ih q2 (out2 ++ [(13, 0)]) sil3 tst2 v2 (i + 1) (by omega) (by omega) ((hsu.trans hv).trans hv2) hcv2 (bin_ok (by omega) hok2 (by omega)) ?_ (by omega) (fun j hj => by rw [htst2 j hj, va_upe, if_neg (by omega), htst j hj]) hlv2 hsim4
        rw [List.length_append]; simp only [List.length_cons, List.length_nil]; omega
  refine en_X4_readOr (ct_canBegin h.2.2.2.1 h.2.2.2.2.1 ?_)
  rw [b2i_ne0]
  refine ⟨fun hcb => ⟨fun _ => ?_, fun z => absurd ((zI_lt (b := 6) (by omega) (by omega)).mpr hdp) z⟩, fun hcb => ct_refuse (f := 1) (b := b) (lo := lo) h.2.2.2.2.1 (fun t ht h9 h10 => ⟨rfl, kF t 1 _ ht h9 h10 (by omega) (by omega) hS0.2 (hno (Decidable.of_not_not hcb))⟩)⟩
  exact (hp _ _ s b lo q c out w tst sil mn nots h hpre (weak_mono hwk (by omega)) (by omega) hok hJ htf (fun v fk p hv a1 a2 a3 a4 a5 he => ⟨fun z => absurd rfl z, fun _ => kF v fk p hv a1 a2 a3 a4 a5 (by rw [hm]; exact he)⟩) (fun v q2 out2 sil3 tst2 hv hcv hok2 hJ2 hmn htst2 hlv hsim3 => ⟨fun _ => loop (N - q2) q2 out2 sil3 tst2 v 0 (by omega) (by omega) hv hcv hok2 hJ2 hmn htst2 hlv (by rw [hm]; exact hsim3), fun z => absurd (by decide) z⟩))
/-- every depth -/
theorem sp_all {X : bi_X} {B : Nat → Nat} {N C R : Nat} : ∀ e dp, e + dp = 5 → ∀ k, Spc X (9 * e + 11 + k) 52 B N C R dp 0 1 0 (dp + 1) (pU B N) := by
  intro e
  induction e with
  | zero =>
    intro dp hdp k
    have := sp_or (D := k) (X := X) (B := B) (N := N) (C := C) (R := R) (dp := dp) (by omega) (sp_and (by omega) (sp_not (by omega) (sp_test (by omega) (sp_sum (by omega) (sp_product (by omega) (sp_part (by omega) (fun h => by omega)))))))
    rw [show 9 * 0 + 11 + k = k + 11 by omega]; exact this
  | succ e ih =>
    intro dp hdp k
    have ih := ih (dp + 1) (by omega)
    have := sp_or (D := 9 * e + 9 + k) (X := X) (B := B) (N := N) (C := C) (R := R) (dp := dp) (by omega) (sp_and (by omega) (sp_not (by omega) (sp_test (by omega) (sp_sum (by omega) (sp_product (by omega) (sp_part (by omega) (fun _ j => by rw [show 9 * e + 9 + k + 2 + j = 9 * e + 11 + (k + j) by omega]; exact ih (k + j))))))))
    rw [show 9 * (e + 1) + 11 + k = 9 * e + 9 + k + 11 by omega]; exact this
end CRULE5
