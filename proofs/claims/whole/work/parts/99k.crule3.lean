/-! ===== the class's reader of rules: the whole ===== -/
section CRULE3
theorem G_kn {B : Nat → Nat} {N q : Nat} (h : tG B N q ≠ 0) : ¬ kn B N q < 25 := fun z => h (kn_G z)
theorem G_K {B : Nat → Nat} {N q : Nat} (h : tG B N q ≠ 0) : tK B N q = 3 := by
  unfold tG at h
  by_cases h3 : tK B N q = 3
  · exact h3
  · rw [if_neg h3] at h; exact absurd rfl h
theorem lvl_cases {B : Nat → Nat} {N q : Nat} {t : Bool} : (lvl B N q t = 2 ∧ kn B N q = 22) ∨ (lvl B N q t = 1 ∧ kn B N q = 23) ∨ (lvl B N q t = 4 ∧ (tG B N q = 60 ∨ tG B N q = 61) ∧ t = false) ∨ (lvl B N q t = 5 ∧ (tG B N q = 43 ∨ tG B N q = 45)) ∨ (lvl B N q t = 6 ∧ (tG B N q = 42 ∨ tG B N q = 47)) ∨ (lvl B N q t = 0) := by
  unfold lvl
  by_cases c1 : kn B N q = 22
  · rw [if_pos c1]; exact Or.inl ⟨rfl, c1⟩
  · rw [if_neg c1]
    by_cases c2 : kn B N q = 23
    · rw [if_pos c2]; exact Or.inr (Or.inl ⟨rfl, c2⟩)
    · rw [if_neg c2]
      by_cases c3 : (tG B N q = 60 ∨ tG B N q = 61) ∧ t = false
      · rw [if_pos c3]; exact Or.inr (Or.inr (Or.inl ⟨rfl, c3⟩))
      · rw [if_neg c3]
        by_cases c4 : tG B N q = 43 ∨ tG B N q = 45
        · rw [if_pos c4]; exact Or.inr (Or.inr (Or.inr (Or.inl ⟨rfl, c4⟩)))
        · rw [if_neg c4]
          by_cases c5 : tG B N q = 42 ∨ tG B N q = 47
          · rw [if_pos c5]; exact Or.inr (Or.inr (Or.inr (Or.inr (Or.inl ⟨rfl, c5⟩))))
          · rw [if_neg c5]; exact Or.inr (Or.inr (Or.inr (Or.inr (Or.inr rfl))))
theorem lvl_end {B : Nat → Nat} {N q : Nat} {t : Bool} (h : N ≤ q) (h2 : q ≤ N) : lvl B N q t = 0 := by
  have hS := tS_le (B := B) h2
  have k0 : tK B N q = 0 := by unfold tK kX; rw [if_pos (by omega)]
  have g0 : tG B N q = 0 := by unfold tG; rw [if_neg (by omega)]
  have k25 : kn B N q = 25 := by unfold kn; rw [if_neg (by omega)]
  rcases lvl_cases (B := B) (N := N) (q := q) (t := t) with h | h | h | h | h | h <;> omega
theorem tok_adv {B : Nat → Nat} {N q : Nat} (hq : q ≤ N) (h : tK B N q ≠ 0) : q < tE B N q ∧ tE B N q ≤ N := by
  have h1 := tK_0 (B := B) hq h
  have h2 := tS_le (B := B) hq
  have h3 := tE_le (B := B) hq
  omega
theorem bin_ok {C : Nat} {out : Lp} {o h : Nat} (ho : 6 ≤ o ∧ o ≤ 13) (hk : okf C out (h + 1 + 1)) (hh : h < 64) : okf C (out ++ [(o, 0)]) (h + 1) := by
  have n2 : op_n o = 2 := by unfold op_n; rw [if_neg (by omega), if_neg (by omega)]
  have := okf_snoc (o := (o, 0)) hk ⟨by show o ≤ 13; omega, by show 0 ≤ 9999; omega, fun z => by have z : o = 1 := z; omega, fun z => by have z : o = 3 := z; omega⟩ (by show op_n o ≤ _; omega) (by show h + 1 + 1 - op_n o < 64; omega)
  have e : h + 1 + 1 - op_n (o, 0).1 + 1 = h + 1 := by show h + 1 + 1 - op_n o + 1 = h + 1; omega
  rw [e] at this; exact this
theorem sp_product {X : bi_X} {D : Nat} {B : Nat → Nat} {N C R dp : Nat} (hdp : dp < 6) (hp : Spc X (D + 5) 58 B N C R dp 5 7 6 (dp + 2) (pL B N)) : Spc X (D + 6) 57 B N C R dp 4 6 5 (dp + 2) (pL B N) := by
  intro K E s b lo q c out w tst sil mn nots h hpre hwk hbin hok hJ _ kF kT
  obtain ⟨m, hm⟩ : ∃ m : Ms, m = (some (mn, nots), (q, out, w, tst, dp + 1, sil)) := ⟨_, rfl⟩
  rw [← hm] at kF kT
  have loop : ∀ f q1 out1 sil1 tst1 (t : bi_St) i, N - q1 ≤ f → i ≤ q1 → fr (wRs b lo) s t → CS t B N C R b lo c q1 out1 sil1 → okf C out1 (bin w + 1) → lo + out1.length + w.length ≤ q1 → q ≤ q1 → (∀ j, j < dp + 2 → tst1 j = tst j) → Sim B N C R m (none, (q1, out1, w, tst1, dp + 1, sil1)) → at_X4_readProduct_12 X (D + 6) K E t (zI dp) (zI i) := by
    intro f
    induction f with
    | zero =>
      intro q1 out1 sil1 tst1 t i hf hi ht hc hok1 hJ1 hqq htst hsim
      have hN := CS_N hc
      have h0 := lvl_end (B := B) (t := tst1 (dp + 1)) (show N ≤ q1 by omega) hN.1
      have k1 := kT t q1 out1 sil1 tst1 ht hc hok1 hJ1 (by rw [hm]; exact hqq) htst (by omega) hsim
      have g0 : tG B N q1 = 0 := by
        have hS := tS_le (B := B) hN.1
        have k0 : tK B N q1 = 0 := by unfold tK kX; rw [if_pos (by omega)]
        unfold tG; rw [if_neg (by omega)]
      refine go_X4_readProduct_12 ⟨fun _ => go_X4_readProduct_125 k1, fun _ => ct_isSignC (c := 42) hc.2.2.2.1 hc.2.2.2.2.1 (by omega) ?_⟩
      rw [decide_eq_false (by omega)]
      refine ⟨fun z => absurd rfl z, fun _ => ct_isSignC (c := 47) hc.2.2.2.1 hc.2.2.2.2.1 (by omega) ?_⟩
      rw [decide_eq_false (by omega)]
      exact ⟨fun _ => go_X4_readProduct_125 k1, fun z => absurd rfl z⟩
    | succ f ih =>
      intro q1 out1 sil1 tst1 t i hf hi ht hc hok1 hJ1 hqq htst hsim
      have hN := CS_N hc
      have hT := hc.2.2.2.1
      have hq := hc.2.2.2.2.1
      have stop : ¬ (tG B N q1 = 42 ∨ tG B N q1 = 47) → K 1 t := fun hno => kT t q1 out1 sil1 tst1 ht hc hok1 hJ1 (by rw [hm]; exact hqq) htst (by rcases lvl_cases (B := B) (N := N) (q := q1) (t := tst1 (dp + 1)) with h | h | h | h | h | h <;> first | omega | exact absurd h.2 hno) hsim
      have go : (tG B N q1 = 42 ∨ tG B N q1 = 47) → at_X4_readProduct_43 X (D + 6) K E t (zI dp) (zI i) := by
        intro hop
        have h3 := G_K (show tG B N q1 ≠ 0 by omega)
        have hk25 := G_kn (show tG B N q1 ≠ 0 by omega)
        have hadv := tok_adv (B := B) hN.1 (show tK B N q1 ≠ 0 by omega)
        obtain ⟨o, ho⟩ : ∃ o, o = (if tG B N q1 = 42 then 8 else 9) := ⟨_, rfl⟩
        obtain ⟨sil2, hs2⟩ : ∃ sil2, sil2 = (if tG B N q1 = 42 then sil1 else sil1 && (decide (tK B N (tE B N q1) = 2) && (!(decide (4 < tL B N (tE B N q1))) && !(decide (tV B N (tE B N q1) = 0))))) := ⟨_, rfl⟩
        have ho89 : o = 8 ∨ o = 9 := by rw [ho]; by_cases z : tG B N q1 = 42 <;> simp [z]
        have hst : stpM B N C R (none, (q1, out1, w, tst1, dp + 1, sil1)) = .inl (some (false, 0), (tE B N q1, out1, o :: w, tst1, dp + 1, sil2)) := by
          show stP B N _ = _
          unfold stP psh
          simp only [pop_weak hwk]
          rw [if_neg (by omega), if_neg (by omega), if_neg (fun z => by omega), if_neg (fun z => by omega), if_neg (by omega), if_neg (by omega)]
          by_cases z : tG B N q1 = 42
          · rw [if_pos z, ho, hs2, if_pos z, if_pos z]
          · rw [if_neg z, if_pos (by omega), ho, hs2, if_neg z, if_neg z]
        have hsim2 := hsim.trans (Sim.step hst)
        have pc : pc1 B N q1 = 1 := by unfold pc1; rw [if_neg (by omega)]
        have ew : bin (o :: w) = bin w + 1 := bin_c (by omega)
        have part : ∀ (u : bi_St), fr (wRs b lo) s u → CS u B N C R b lo (c + 1) (tE B N q1) out1 sil2 → at_X4_readProduct_90 X (D + 6) K E u (zI dp) (zI i) (b2i (decide (tG B N q1 = 42))) := by
          intro u hu hcu
          refine go_X4_readProduct_90 (hp _ _ u b lo (tE B N q1) (c + 1) out1 (o :: w) tst1 sil2 false 0 hcu (fun z => by cases z.1) (Or.inr (by rcases ho89 with z | z <;> rw [z] <;> decide)) (by omega) (by rw [ew]; exact hok1) (by rw [List.length_cons]; omega) (fun z => by omega) (fun v fk p hv a1 a2 a3 a4 a5 he => ⟨fun z => absurd rfl z, fun _ => kF v fk p ((hu.mono wRs_wRf).trans hv) a1 a2 a3 a4 a5 (hsim2 _ he)⟩) (fun v q2 out2 sil3 tst2 hv hcv hok2 hJ2 hmn htst2 hlv hsim3 => ⟨fun _ => ⟨by rw [hcv.2.2.2.2.2.1]; exact h.1, ?_⟩, fun z => absurd (by decide) z⟩))
          have hmn : tE B N q1 ≤ q2 := hmn
          rw [List.length_cons] at hJ2
          rw [ew] at hok2
          have hN2 := CS_N hcv
          have hso : strg o = 6 := by rcases ho89 with z | z <;> rw [z] <;> rfl
          have hsim4 := (hsim2.trans hsim3).trans (Sim.pop (by omega) (by rw [hso]; exact hlv))
          rw [hcv.2.2.2.2.2.1, b2i_ne0]
          have fin : ∀ x, x = zI o → cV X (D + 5) 64 [.ref b, .int x, .int (0 : Int32)] v (fun s8 => at_X4_readProduct_12 X (D + 5 + 1) K E s8 (zI dp) (zI i + (1 : Int32))) (fun _ _ => False) := by
            intro x hx
            subst hx
            refine ct_add (o := (o, 0)) hcv (by omega) (fun v2 hv2 hcv2 => ?_)
            rw [zI_add1]
            refine ih q2 (out2 ++ [(o, 0)]) sil3 tst2 v2 (i + 1) (by omega) (by omega) ((hu.trans hv).trans hv2) hcv2 (bin_ok (by omega) hok2 (by omega)) ?_ (by omega) (fun j hj => by rw [htst2 j hj, htst j hj]) hsim4
            rw [List.length_append]; simp only [List.length_cons, List.length_nil]; omega
          refine ⟨fun z => fin 9 ?_, fun z => fin 8 ?_⟩
          · have z : ¬ tG B N q1 = 42 := by simpa using z
            rw [ho, if_neg z]; rfl
          · have z : tG B N q1 = 42 := by simpa using z
            rw [ho, if_pos z]; rfl
        refine go_X4_readProduct_43 (ct_isSignC (c := 42) hT hq (by omega) (ct_adv hc (fun u hu hcu => ?_)))
        rw [pc] at hcu
        have hsu := ht.trans hu
        rw [b2i_ne0]
        refine ⟨fun z => part u hsu ?_, fun z => ?_⟩
        · have z : tG B N q1 = 42 := by simpa using z
          rw [hs2, if_pos z]; exact hcu
        · have z : ¬ tG B N q1 = 42 := by simpa using z
          rw [if_neg z] at hs2
          have h1le := tK_le (B := B) (N := N) (q := tE B N q1)
          have e2 : (zI (tK B N (tE B N q1)) = 2) ↔ tK B N (tE B N q1) = 2 := zI_eq (b := 2) (by omega) (by omega)
          have sf : sil2 = false → at_X4_readProduct_85 X (D + 6) K E u (zI dp) (zI i) (b2i (decide (tG B N q1 = 42))) := fun hsf => by
            obtain ⟨hc2, hf2⟩ := CS_sil hcu false
            exact go_X4_readProduct_85 (part _ (hsu.trans hf2) (by rw [hsf]; exact hc2))
          rw [hcu.2.2.2.2.1.2.1, e2]
          refine ⟨fun nk2 => sf (by rw [hs2, decide_eq_false nk2]; simp), fun k2 => ?_⟩
          have k2 := Decidable.of_not_not k2
          obtain ⟨a7, a6⟩ := hcu.2.2.2.2.1.2.2.2.2 k2
          have hv := tV_lt k2
          rw [a6]
          by_cases h4 : 4 < tL B N (tE B N q1)
          · rw [if_pos h4]
            exact ⟨fun y => absurd rfl y, fun _ => sf (by rw [hs2, decide_eq_true h4]; simp)⟩
          · rw [if_neg h4]
            have ez : (zI (tV B N (tE B N q1)) = 0) ↔ tV B N (tE B N q1) = 0 := zI_eq (b := 0) (by omega) (by omega)
            rw [ez]
            refine ⟨fun y => part u hsu ?_, fun y => sf (by rw [hs2, decide_eq_true (Decidable.of_not_not y)]; simp)⟩
            have : sil2 = sil1 := by rw [hs2, decide_eq_true k2, decide_eq_false h4, decide_eq_false y]; simp
            rw [this]; exact hcu
      refine go_X4_readProduct_12 ⟨fun z => go_X4_readProduct_125 (stop (fun hop => ?_)), fun _ => ct_isSignC (c := 42) hT hq (by omega) ?_⟩
      · have := (zI_le (a := 700) (by omega) (by omega)).mp z
        have hS := tS_le (B := B) hN.1
        have k0 : tK B N q1 = 0 := by unfold tK kX; rw [if_pos (by omega)]
        have := G_K (show tG B N q1 ≠ 0 by omega)
        omega
      · rw [b2i_ne0]
        refine ⟨fun z => go (Or.inl (by simpa using z)), fun z => ct_isSignC (c := 47) hT hq (by omega) ?_⟩
        have z : ¬ tG B N q1 = 42 := by simpa using z
        rw [b2i_ne0]
        refine ⟨fun z2 => go_X4_readProduct_125 (stop (fun y => ?_)), fun z2 => go (Or.inr (by simpa using z2))⟩
        have z2 : ¬ tG B N q1 = 47 := by simpa using z2
        omega
  refine en_X4_readProduct (hp _ _ s b lo q c out w tst sil mn nots h hpre (by cases w with | nil => trivial | cons o w => rcases hwk with z | z; exact Or.inl z; exact Or.inr (by omega)) (by omega) hok hJ (fun z => by omega) (fun v fk p hv a1 a2 a3 a4 a5 he => ⟨fun z => absurd rfl z, fun _ => kF v fk p hv a1 a2 a3 a4 a5 (by rw [hm]; exact he)⟩) (fun v q2 out2 sil3 tst2 hv hcv hok2 hJ2 hmn htst2 hlv hsim3 => ⟨fun _ => loop (N - q2) q2 out2 sil3 tst2 v 0 (by omega) (by omega) hv hcv hok2 hJ2 hmn htst2 (by rw [hm]; exact hsim3), fun z => absurd (by decide) z⟩))
end CRULE3
