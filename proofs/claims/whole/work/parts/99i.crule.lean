/-! ===== the class's reader of rules: parts ===== -/
section CRULE
def wRs (b lo a k : Nat) : Bool := wTk a k || ((Nat.beq a 44 && Nat.beq k 4) || ((Nat.beq a (b + 1) && Nat.ble lo k) || (Nat.beq a b && Nat.beq k 4)))
def wRf (b lo a k : Nat) : Bool := wRs b lo a k || (Nat.beq a 1 && (Nat.ble 9 k && Nat.ble k 10))
theorem wTk_wRs {b lo : Nat} (a k : Nat) (h : wTk a k = true) : wRs b lo a k = true := by unfold wRs; rw [h]; rfl
theorem wRs_wRf {b lo : Nat} (a k : Nat) (h : wRs b lo a k = true) : wRf b lo a k = true := by unfold wRf; rw [h]; rfl
theorem isR_ge {b : Nat} (h : st_isR b) : 3 ≤ b ∧ b + 3 ≤ 30 := by rcases h with z | z | z <;> omega
theorem wRs_1 {b lo k : Nat} (h : st_isR b) (hk : k < 3 ∨ 8 < k) : wRs b lo 1 k = false := by
  have := isR_ge h
  unfold wRs wTk
  rw [beq_ne (show 1 ≠ 44 by omega), beq_ne (show 1 ≠ b + 1 by omega), beq_ne (show 1 ≠ b by omega)]
  rcases hk with h | h
  · rw [ble_f h]; rfl
  · rw [ble_f h]; simp
theorem wRs_ne {b lo a k : Nat} (h1 : a ≠ 1) (h2 : a ≠ 44 ∨ k ≠ 4) (h3 : a ≠ b + 1 ∨ k < lo) (h4 : a ≠ b ∨ k ≠ 4) : wRs b lo a k = false := by
  unfold wRs
  rw [wTk_ne h1]
  have e2 : (Nat.beq a 44 && Nat.beq k 4) = false := by
    rcases h2 with h | h
    · rw [beq_ne h]; rfl
    · rw [beq_ne h, Bool.and_false]
  have e3 : (Nat.beq a (b + 1) && Nat.ble lo k) = false := by
    rcases h3 with h | h
    · rw [beq_ne h]; rfl
    · rw [ble_f h, Bool.and_false]
  have e4 : (Nat.beq a b && Nat.beq k 4) = false := by
    rcases h4 with h | h
    · rw [beq_ne h]; rfl
    · rw [beq_ne h, Bool.and_false]
  rw [e2, e3, e4]; rfl
/-- the class reads a rule: the token q, what is out from place lo of rules b on, whether silent; c: what was passed beyond it -/
def CS (s : bi_St) (B : Nat → Nat) (N C R b lo : Nat) (c : Int32) (q : Nat) (out : Lp) (sil : Bool) : Prop := st_isR b ∧ C ≤ 4 ∧ R ≤ 6 ∧ TB s B N ∧ CT s B N q ∧ st_gp s 6 = b ∧ st_g s 44 2 = zI C ∧ st_g s 44 3 = zI R ∧ st_g s 44 4 = b2i sil ∧ st_g s b 4 = zI (lo + out.length) ∧ (∀ k (hk : k < out.length), st_g s (b + 1) (lo + k) = cw out[k]) ∧ st_g s 1 8 = c + zI out.length
theorem CS_N {s : bi_St} {B : Nat → Nat} {N C R b lo q : Nat} {c : Int32} {out : Lp} {sil : Bool} (h : CS s B N C R b lo c q out sil) : q ≤ N ∧ N ≤ 700 := ⟨h.2.2.2.2.1.1, h.2.2.2.1.1⟩
theorem CS_B {s : bi_St} {B : Nat → Nat} {N C R b lo q : Nat} {c : Int32} {out : Lp} {sil : Bool} (h : CS s B N C R b lo c q out sil) : ∀ i, i < N → B i < 256 := fun i hi => (h.2.2.2.1.2.2 i hi).1
theorem ct_adv {X : bi_X} {d : Nat} {K : bi_St → Prop} {E : Nat → bi_St → Prop} {s : bi_St} {B : Nat → Nat} {N C R b lo q : Nat} {c : Int32} {out : Lp} {sil : Bool} (h : CS s B N C R b lo c q out sil)
    (k : ∀ t, fr (wRs b lo) s t → CS t B N C R b lo (c + pc1 B N q) (tE B N q) out sil → K t) : cV X (d + 1) 94 [.ref 1] s K E := by
  obtain ⟨h1, h2, h3, h4, h5, h6, h7, h8, h9, h10, h11, h12⟩ := h
  have hb := isR_ge h1
  refine ct_advance h4 h5 (fun t ht hc h18 => k t (ht.mono wTk_wRs) ⟨h1, h2, h3, TB_tk ht h4, hc, by rw [ht.gp]; exact h6, by rw [ht.g (wTk_ne (by omega))]; exact h7, by rw [ht.g (wTk_ne (by omega))]; exact h8, by rw [ht.g (wTk_ne (by omega))]; exact h9, by rw [ht.g (wTk_ne (by omega))]; exact h10, fun k hk => by rw [ht.g (wTk_ne (by omega))]; exact h11 k hk, ?_⟩)
  rw [h18, h12, Int32.add_assoc, Int32.add_assoc, Int32.add_comm (zI out.length)]
theorem cw_zI (a b : Nat) : zI a ||| (zI b <<< ((4 : Int32) &&& 31)) = cw (a, b) := rfl
theorem ct_add {X : bi_X} {d : Nat} {K : bi_St → Prop} {E : Nat → bi_St → Prop} {s : bi_St} {B : Nat → Nat} {N C R b lo q : Nat} {c : Int32} {out : Lp} {sil : Bool} {o : Nat × Nat} (h : CS s B N C R b lo (c + 1) q out sil) (hl : lo + out.length < 700)
    (k : ∀ t, fr (wRs b lo) s t → CS t B N C R b lo c q (out ++ [o]) sil → K t) : cV X d 64 [.ref b, .int (zI o.1), .int (zI o.2)] s K E := by
  obtain ⟨h1, h2, h3, h4, h5, h6, h7, h8, h9, h10, h11, h12⟩ := h
  have hb := isR_ge h1
  refine en_X5_add h1 ?_
  rw [h10, cw_zI, zI_nat (by omega)]
  refine ⟨fun z => ?_, fun _ => ⟨in_zI (by omega) (by omega), ?_⟩⟩
  · have := (zI_le (a := 700) (by omega) (by omega)).mp z; omega
  · rw [g_p_a (by omega), h10, zI_add1]
    have w1 : wRs b lo (b + 1) (lo + out.length) = true := by unfold wRs; rw [beq_rf (b + 1), Nat.ble_eq_true_of_le (by omega)]; simp
    have w2 : wRs b lo b 4 = true := by unfold wRs; rw [beq_rf b]; simp
    have len : (out ++ [o]).length = out.length + 1 := by rw [List.length_append]; rfl
    refine k _ ((fr.refl.p w1).p w2) ⟨h1, h2, h3, TB_fr ?_ (fun q => ?_) h4, ?_, h6, ?_, ?_, ?_, ?_, fun j hj => ?_, ?_⟩
    · rw [g_p_a (by omega), g_p_a (by omega)]
    · rw [g_p_a (by omega), g_p_a (by omega)]
    · obtain ⟨a1, a2, a3, a4, a5⟩ := h5
      have g1 : ∀ q, st_g (st_p (st_p s (b + 1) (lo + out.length) (cw (o.1, o.2))) b 4 (zI (lo + out.length + 1))) 1 q = st_g s 1 q := fun q => by rw [g_p_a (by omega), g_p_a (by omega)]
      exact ⟨a1, by rw [g1]; exact a2, by rw [g1]; exact a3, by rw [g1]; exact a4, fun hh => by rw [g1, g1]; exact a5 hh⟩
    · rw [g_p_a (by omega), g_p_a (by omega)]; exact h7
    · rw [g_p_a (by omega), g_p_a (by omega)]; exact h8
    · rw [g_p_a (by omega), g_p_a (by omega)]; exact h9
    · rw [g_p_eq, len]; rfl
    · rw [g_p_a (by omega)]
      rw [len] at hj
      by_cases hj2 : j = out.length
      · subst hj2
        rw [g_p_eq]; congr 1; simp
      · rw [g_p_k (by omega), h11 j (by omega)]
        congr 1
        rw [List.getElem_append_left]
    · rw [g_p_a (by omega), g_p_a (by omega), h12, len, Int32.add_assoc, Int32.add_comm 1, zI_add1]
theorem ct_refuse {X : bi_X} {d : Nat} {K : Int32 → bi_St → Prop} {E : Nat → bi_St → Prop} {s : bi_St} {B : Nat → Nat} {N q b lo f : Nat} (h : CT s B N q)
    (k : ∀ t, fr (wRf b lo) s t → st_g t 1 9 = zI f → st_g t 1 10 = zI (tS B N q) → K 0 t) : cI X d 99 [.ref 1, .int (zI f)] s K E := by
  have w1 : ∀ k, k = 9 ∨ k = 10 → wRf b lo 1 k = true := fun k hk => by rcases hk with rfl | rfl <;> (unfold wRf; simp)
  refine en_X8_refuse (k _ ((fr.refl.p (w1 9 (Or.inl rfl))).p (w1 10 (Or.inr rfl))) ?_ ?_)
  · rw [g_p_k (by omega), g_p_eq]
  · rw [g_p_eq, g_p_k (by omega)]; exact h.2.2.1
def FK (K : Int32 → bi_St → Prop) (s : bi_St) (B : Nat → Nat) (N C R b lo : Nat) (m : Ms) : Prop := ∀ t f p, fr (wRf b lo) s t → st_g t 1 9 = zI f → st_g t 1 10 = zI p → 1 ≤ f → f ≤ 3 → p ≤ N → Ends B N C R m (.inl (f, p)) → K 0 t
def TK (K : Int32 → bi_St → Prop) (s : bi_St) (B : Nat → Nat) (N C R b lo : Nat) (c : Int32) (m : Ms) (w : List Nat) (tst : Nat → Bool) (dep cl L : Nat) : Prop := ∀ t q' out' sil' tst', fr (wRs b lo) s t → CS t B N C R b lo c q' out' sil' → okf C out' (bin w + 1) → lo + out'.length + w.length ≤ q' → m.2.1 ≤ q' → (∀ j, j < cl → tst' j = tst j) → lvl B N q' (tst' dep) ≤ L → Sim B N C R m (none, (q', out', w, tst', dep, sil')) → K 1 t
def pL (B : Nat → Nat) (N : Nat) (mn : Bool) (nots q : Nat) : Prop := ¬ (mn = true ∧ kn B N q = 24)
def pU (B : Nat → Nat) (N : Nat) (mn : Bool) (nots q : Nat) : Prop := mn = true ∧ nots = 0
def Spc (X : bi_X) (D j : Nat) (B : Nat → Nat) (N C R dp bc lv L cl : Nat) (pre : Bool → Nat → Nat → Prop) : Prop :=
  ∀ (K : Int32 → bi_St → Prop) (E : Nat → bi_St → Prop) (s : bi_St) (b lo q : Nat) (c : Int32) (out : Lp) (w : List Nat) (tst : Nat → Bool) (sil mn : Bool) (nots : Nat), CS s B N C R b lo c q out sil → pre mn nots q → weak lv w → bin w ≤ 5 * dp + bc → okf C out (bin w) → lo + out.length + w.length ≤ q → (cl = dp + 1 → tst (dp + 1) = false) →
    FK K s B N C R b lo (some (mn, nots), (q, out, w, tst, dp + 1, sil)) → TK K s B N C R b lo c (some (mn, nots), (q, out, w, tst, dp + 1, sil)) w tst (dp + 1) cl L → cI X D j [.ref 44, .int (zI dp)] s K E
theorem lvl_le {B : Nat → Nat} {N q : Nat} {t : Bool} : lvl B N q t ≤ 6 := by
  unfold lvl
  split
  · omega
  · split
    · omega
    · split
      · omega
      · split
        · omega
        · split <;> omega
theorem FK_mono {K : Int32 → bi_St → Prop} {s s' : bi_St} {B : Nat → Nat} {N C R b lo : Nat} {m m' : Ms} (h : FK K s B N C R b lo m) (hf : fr (wRs b lo) s s') (hs : Sim B N C R m m') : FK K s' B N C R b lo m' := fun t f p ht a b c d e he => h t f p ((hf.mono wRs_wRf).trans ht) a b c d e (hs _ he)
theorem ct_passSign {X : bi_X} {d : Nat} {K : Int32 → bi_St → Prop} {E : Nat → bi_St → Prop} {s : bi_St} {B : Nat → Nat} {N C R b lo q ch : Nat} {c : Int32} {out : Lp} {sil : Bool} (h : CS s B N C R b lo c q out sil) (hc : 0 < ch ∧ ch < 128)
    (kF : ¬ tG B N q = ch → ∀ t, fr (wRf b lo) s t → st_g t 1 9 = zI 1 → st_g t 1 10 = zI (tS B N q) → K 0 t)
    (kT : tG B N q = ch → ∀ t, fr (wRs b lo) s t → CS t B N C R b lo (c + pc1 B N q) (tE B N q) out sil → K 1 t) : cI X (d + 2) 100 [.ref 1, .int (zI ch)] s K E := by
  refine en_X8_passSign (ct_isSignC (c := ch) h.2.2.2.1 h.2.2.2.2.1 hc ?_)
  rw [b2i_ne0]
  refine ⟨fun hy => ct_adv h (fun t ht hs => kT (by simpa using hy) t ht hs), fun hn => ct_refuse (f := 1) (b := b) (lo := lo) h.2.2.2.2.1 (fun t ht h9 h10 => ⟨rfl, kF (by simpa using hn) t ht h9 h10⟩)⟩
theorem ct_canBegin {X : bi_X} {d : Nat} {K : Int32 → bi_St → Prop} {E : Nat → bi_St → Prop} {s : bi_St} {B : Nat → Nat} {N q : Nat} (hT : TB s B N) (hq : CT s B N q) (k : K (b2i (canB B N q)) s) : cI X (d + 1) 51 [.ref 44] s K E := by
  have h1le := tK_le (B := B) (N := N) (q := q)
  have e2 : (zI (tK B N q) = 2) ↔ tK B N q = 2 := zI_eq (b := 2) (by omega) (by omega)
  have e1 : (zI (tK B N q) = 1) ↔ tK B N q = 1 := zI_eq (b := 1) (by omega) (by omega)
  refine en_X4_canBegin ?_
  rw [hq.2.1, e2, e1]
  unfold canB at k
  refine ⟨fun h => ?_, fun h => ⟨fun h' => ?_, fun h' => ct_isSignC (c := 40) hT hq (by omega) ?_⟩⟩
  · rw [decide_eq_true h] at k; exact k
  · rw [decide_eq_true h', Bool.true_or, Bool.or_true] at k; exact k
  · rw [decide_eq_false h, decide_eq_false h', Bool.false_or, Bool.false_or] at k
    rw [b2i_ne0]
    refine ⟨fun hz => ?_, fun hz => ?_⟩
    · rw [hz] at k; exact k
    · rw [show decide (tG B N q = 40) = true by simpa using hz] at k; exact k
/-- what stands in parentheses: o is what opened it -/
theorem ct_within {X : bi_X} {D : Nat} {K : Int32 → bi_St → Prop} {E : Nat → bi_St → Prop} {s : bi_St} {B : Nat → Nat} {N C R b lo q dp o : Nat} {c : Int32} {out : Lp} {sil : Bool} {w : List Nat} {tst : Nat → Bool} {m : Ms} (hor : dp + 1 < 6 → Spc X (D + 2) 52 B N C R (dp + 1) 0 1 0 (dp + 2) (pU B N)) (hdp : dp < 6)
    (h : CS s B N C R b lo c q out sil) (ho : o = 14 ∨ o = 15) (hw : bin w ≤ 5 * dp + 5) (hok : okf C out (bin w)) (hJ : lo + out.length + w.length ≤ q)
    (hy : tG B N q = 40 → stpM B N C R m = opn B N o (tE B N q) sil (q, out, w, tst, dp + 1, sil)) (hn : ¬ tG B N q = 40 → Ends B N C R m (.inl (1, tS B N q)))
    (kF : FK K s B N C R b lo m)
    (kT : ∀ t q' out' sil' tst', fr (wRs b lo) s t → CS t B N C R b lo c q' out' sil' → okf C out' (bin w + 1) → lo + out'.length + w.length + 1 ≤ q' → q ≤ q' → lo + out'.length < 700 → (∀ j, j < dp + 2 → tst' j = tst j) → Sim B N C R m (none, (q', (if o = 15 then out' ++ [(4, 0)] else out'), w, tst', dp + 1, sil')) → K 1 t) : cI X (D + 3) 61 [.ref 44, .int (zI dp)] s K E := by
  have hN := CS_N h
  have hS := tS_le (B := B) hN.1
  have hE := tE_le (B := B) hN.1
  refine en_X4_readWithin (ct_passSign (ch := 40) h (by omega) (fun hne t ht h9 h10 => ⟨fun _ => kF t 1 _ ht h9 h10 (by omega) (by omega) hS.2 (hn hne), fun z => absurd rfl z⟩) (fun h40 t ht hc => ⟨fun z => absurd z (by decide), fun _ => ?_⟩))
  have hy := hy h40
  have h3 : tK B N q ≠ 0 := by
    intro z
    unfold tG at h40
    rw [if_neg (by omega)] at h40; omega
  have hlt := tK_0 (B := B) hN.1 h3
  have pc0 : pc1 B N q = 0 := by unfold pc1; rw [if_pos (Or.inl h40)]
  rw [pc0, Int32.add_zero] at hc
  have hN1 := CS_N hc
  have hS1 := tS_le (B := B) hN1.1
  rw [zI_add1]
  have ew : bin (o :: w) = bin w := bin_n (by omega)
  by_cases hd : dp + 1 < 6
  · have step : stpM B N C R m = .inl (some (true, 0), (tE B N q, out, o :: w, va_up tst (dp + 1 + 1) false, dp + 1 + 1, sil)) := by
      rw [hy]; unfold opn; rw [if_pos (show dp + 1 < 6 by omega)]
    refine hor hd _ _ t b lo (tE B N q) c out (o :: w) (va_up tst (dp + 1 + 1) false) sil true 0 hc ⟨rfl, rfl⟩ (Or.inl (by omega)) (by rw [ew]; omega) (by rw [ew]; exact hok) (by rw [List.length_cons]; omega) (fun _ => by rw [va_upe, if_pos rfl]) (fun u f p hu u9 u10 f1 f3 hp he => ⟨fun _ => kF u f p ((ht.mono wRs_wRf).trans hu) u9 u10 f1 f3 hp (.go _ _ _ step he), fun z => absurd rfl z⟩) (fun u q2 out2 sil2 tst2 hu hcu hok2 hJ2 hmono htst hlv hsim => ⟨fun z => absurd z (by decide), fun _ => ?_⟩)
    have hmono : tE B N q ≤ q2 := hmono
    have hE2 := tE_le (B := B) (CS_N hcu).1
    have hN2 := CS_N hcu
    have hS2 := tS_le (B := B) hN2.1
    have hl0 : lvl B N q2 (tst2 (dp + 1 + 1)) = 0 := by omega
    rw [ew] at hok2
    rw [List.length_cons] at hJ2
    have hsim' : Sim B N C R m (none, (q2, out2, o :: w, tst2, dp + 1 + 1, sil2)) := (Sim.step step).trans hsim
    have hP : ∀ y, stP B N (q2, out2, o :: w, tst2, dp + 1 + 1, sil2) = y → stpM B N C R (none, (q2, out2, o :: w, tst2, dp + 1 + 1, sil2)) = y := fun y h => h
    have k22 : ¬ kn B N q2 = 22 := fun z => by unfold lvl at hl0; rw [if_pos z] at hl0; omega
    have k23 : ¬ kn B N q2 = 23 := fun z => by unfold lvl at hl0; rw [if_neg k22, if_pos z] at hl0; omega
    have c60 : ¬ ((tG B N q2 = 60 ∨ tG B N q2 = 61) ∧ tst2 (dp + 1 + 1) = false) := fun z => by unfold lvl at hl0; rw [if_neg k22, if_neg k23, if_pos z] at hl0; omega
    have c43 : ¬ (tG B N q2 = 43 ∨ tG B N q2 = 45) := fun z => by unfold lvl at hl0; rw [if_neg k22, if_neg k23, if_neg c60, if_pos z] at hl0; omega
    have c42 : ¬ (tG B N q2 = 42 ∨ tG B N q2 = 47) := fun z => by unfold lvl at hl0; rw [if_neg k22, if_neg k23, if_neg c60, if_neg c43, if_pos z] at hl0; omega
    have hO : hasO (o :: w) = true := by unfold hasO; rw [List.any_cons, Nat.ble_eq_true_of_le (by omega)]; rfl
    have base : ∀ y, (if tG B N q2 = 41 ∧ hasO (o :: w) = true then cls (tE B N q2) (q2, out2, o :: w, tst2, dp + 1 + 1, sil2) else if 1 < dp + 1 + 1 then flt 1 (tS B N q2) else .inr (.inr (q2, (pop 0 out2 (o :: w)).1, sil2))) = y → stpM B N C R (none, (q2, out2, o :: w, tst2, dp + 1 + 1, sil2)) = y := fun y hyy => by
      refine hP y ?_
      unfold stP
      rw [if_neg k22, if_neg k23, if_neg (fun z => c60 ⟨Or.inl z.1, z.2⟩), if_neg (fun z => c60 ⟨Or.inr z.1, z.2⟩), if_neg (fun z => c43 (Or.inl z)), if_neg (fun z => c43 (Or.inr z)), if_neg (fun z => c42 (Or.inl z)), if_neg (fun z => c42 (Or.inr z))]
      exact hyy
    refine ct_passSign (ch := 41) hcu (by omega) (fun hne v hv v9 v10 => ⟨fun _ => kF v 1 _ (((ht.trans hu).mono wRs_wRf).trans hv) v9 v10 (by omega) (by omega) hS2.2 (hsim' _ (.fin _ _ (base _ (by rw [if_neg (fun z => hne z.1), if_pos (by omega)]; rfl)))), fun z => absurd rfl z⟩) (fun h41 v hv hcv => ⟨fun z => absurd z (by decide), fun _ => ?_⟩)
    have h32 : tK B N q2 ≠ 0 := by
      intro z
      unfold tG at h41
      rw [if_neg (by omega)] at h41; omega
    have hlt2 := tK_0 (B := B) hN2.1 h32
    have pc2 : pc1 B N q2 = 0 := by unfold pc1; rw [if_pos (Or.inr h41)]
    rw [pc2, Int32.add_zero] at hcv
    have e0 : pop 0 out2 (o :: w) = (out2, o :: w) := pop_weak (Or.inl (by omega))
    refine kT v (tE B N q2) out2 sil2 tst2 ((ht.trans hu).trans hv) hcv hok2 (by omega) (by omega) (by omega) (fun j hj => ?_) (hsim'.trans (Sim.step (base _ ?_)))
    · rw [htst j hj, va_upe, if_neg (by omega)]
    · rw [if_pos ⟨h41, hO⟩]; unfold cls; rw [e0]; rfl
  · have hdp5 : dp = 5 := by omega
    subst hdp5
    have hE1 : Ends B N C R m (.inl ((if canB B N (tE B N q) then 2 else 1), tS B N (tE B N q))) := .fin _ _ (by rw [hy]; unfold opn; rw [if_neg (by omega)]; rfl)
    have ref : ∀ f, f = (if canB B N (tE B N q) then 2 else 1) → cI X (D + 1) 99 [.ref 1, .int (zI f)] t (fun r4 s4 => bi_bool r4 = true ∧ ((r4 = 0 → K 0 s4) ∧ (¬ r4 = 0 → cI X (D + 2) 100 [.ref 1, .int (41 : Int32)] s4 (fun (r3 : Int32) (s3 : bi_St) => ((r3 = 0) → K (0 : Int32) s3) ∧ (¬ (r3 = 0) → K (1 : Int32) s3)) (fun _ _ => False)))) (fun _ _ => False) := fun f hf => by
      refine ct_refuse (b := b) (lo := lo) hc.2.2.2.2.1 (fun u hu u9 u10 => ⟨rfl, fun _ => kF u f _ ((ht.mono wRs_wRf).trans hu) u9 u10 ?_ ?_ hS1.2 (by rw [hf]; exact hE1), fun z => absurd rfl z⟩)
      · rw [hf]; split <;> omega
      · rw [hf]; split <;> omega
    refine en_X4_readOr (ct_canBegin hc.2.2.2.1 hc.2.2.2.2.1 ?_)
    rw [b2i_ne0]
    refine ⟨fun hcb => ⟨fun z => absurd z (by decide), fun _ => ref 2 ?_⟩, fun hcb => ref 1 ?_⟩
    · have hcb : canB B N (tE B N q) = true := by simpa using hcb
      rw [hcb]; rfl
    · rw [Decidable.of_not_not hcb]; rfl
end CRULE
