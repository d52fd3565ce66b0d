/-! ===== the class's reader of rules: a part ===== -/
section CRULE2
theorem ct_needNum {X : bi_X} {d : Nat} {K : Int32 → bi_St → Prop} {E : Nat → bi_St → Prop} {s : bi_St} {B : Nat → Nat} {N q b lo M f3 : Nat} {x0 : Int32} (hN : N ≤ 700) (hq : CT s B N q) (hx : ∀ v, v < 10000 → (zI v ≤ x0 ↔ v < M))
    (kF : ∀ f, ((tK B N q ≠ 2 ∧ f = 1) ∨ (tK B N q = 2 ∧ 4 < tL B N q ∧ f = 2) ∨ (tK B N q = 2 ∧ ¬ 4 < tL B N q ∧ M ≤ tV B N q ∧ f = f3)) → ∀ t, fr (wRf b lo) s t → st_g t 1 9 = zI f → st_g t 1 10 = zI (tS B N q) → K 0 t)
    (kT : tK B N q = 2 → ¬ 4 < tL B N q → tV B N q < M → K 1 s) : cI X (d + 1) 101 [.ref 1, .int x0, .int (zI f3)] s K E := by
  have h1le := tK_le (B := B) (N := N) (q := q)
  have e2 : (zI (tK B N q) = 2) ↔ tK B N q = 2 := zI_eq (b := 2) (by omega) (by omega)
  refine en_X8_needNumber ?_
  rw [hq.2.1, e2]
  refine ⟨fun h2 => ?_, fun h2 => ct_refuse (f := 1) (b := b) (lo := lo) hq (fun t ht h9 h10 => ⟨rfl, kF 1 (Or.inl ⟨h2, rfl⟩) t ht h9 h10⟩)⟩
  obtain ⟨a7, a6⟩ := hq.2.2.2.2 h2
  have hv := tV_lt h2
  rw [a7, b2i_ne0]
  refine ⟨fun h4 => ?_, fun h4 => ct_refuse (f := 2) (b := b) (lo := lo) hq (fun t ht h9 h10 => ⟨rfl, kF 2 (Or.inr (Or.inl ⟨h2, by simpa using h4, rfl⟩)) t ht h9 h10⟩)⟩
  have h4 : ¬ 4 < tL B N q := by simpa using h4
  rw [a6, if_neg h4, hx _ hv]
  refine ⟨fun hm => kT h2 h4 hm, fun hm => ct_refuse (b := b) (lo := lo) hq (fun t ht h9 h10 => ⟨fun _ => kF f3 (Or.inr (Or.inr ⟨h2, h4, by omega, rfl⟩)) t ht h9 h10, fun z => absurd rfl z⟩)⟩
theorem stO_L {B : Nat → Nat} {N C R : Nat} {mn : Bool} {nots : Nat} {m : Mx} (h : pL B N mn nots m.1) : stpM B N C R (some (mn, nots), m) = (if kn B N m.1 = 21 then (if tG B N (tE B N m.1) = 40 then opn B N 15 (tE B N (tE B N m.1)) false m else flt 1 (tS B N (tE B N m.1))) else if tG B N m.1 = 40 then opn B N 14 (tE B N m.1) m.2.2.2.2.2 m else prt B N C R m) := by
  show stO B N C R mn nots m = _
  unfold stO
  rw [if_neg h]
theorem CS_sil {s : bi_St} {B : Nat → Nat} {N C R b lo q : Nat} {c : Int32} {out : Lp} {sil : Bool} (h : CS s B N C R b lo c q out sil) (v : Bool) : CS (st_p s 44 4 (b2i v)) B N C R b lo c q out v ∧ fr (wRs b lo) s (st_p s 44 4 (b2i v)) := by
  obtain ⟨h1, h2, h3, h4, h5, h6, h7, h8, h9, h10, h11, h12⟩ := h
  have hb := isR_ge h1
  have g : ∀ a q, a ≠ 44 → st_g (st_p s 44 4 (b2i v)) a q = st_g s a q := fun a q h => g_p_a h
  obtain ⟨a1, a2, a3, a4, a5⟩ := h5
  refine ⟨⟨h1, h2, h3, TB_fr (g _ _ (by omega)) (fun q => g _ _ (by omega)) h4, ⟨a1, by rw [g _ _ (by omega)]; exact a2, by rw [g _ _ (by omega)]; exact a3, by rw [g _ _ (by omega)]; exact a4, fun hh => by rw [g _ _ (by omega), g _ _ (by omega)]; exact a5 hh⟩, h6, by rw [g_p_k (by omega)]; exact h7, by rw [g_p_k (by omega)]; exact h8, g_p_eq _ _ _ _, by rw [g _ _ (by omega)]; exact h10, fun k hk => by rw [g _ _ (by omega)]; exact h11 k hk, by rw [g _ _ (by omega)]; exact h12⟩, fr.refl.p (by unfold wRs; simp)⟩
theorem pc1_1 {B : Nat → Nat} {N q : Nat} (h : tK B N q ≠ 3) : pc1 B N q = 1 := by
  unfold pc1 tG
  rw [if_neg h]; rfl
theorem kn_25 {B : Nat → Nat} {N q : Nat} (h : tL B N q = 1) : kn B N q = 25 := by
  unfold kn; rw [if_neg (fun z => z.2.2 h)]
theorem ct_columnNamed {X : bi_X} {d : Nat} {K : Int32 → bi_St → Prop} {E : Nat → bi_St → Prop} {s : bi_St} {B : Nat → Nat} {N q C : Nat} (hT : TB s B N) (hC : C ≤ 4) (hq : CT s B N q) (hk : tK B N q = 1)
    (kN : ¬ (tL B N q = 1 ∧ B (tS B N q) - 97 < C) → K (-1) s) (kY : tL B N q = 1 → B (tS B N q) - 97 < C → K (zI (B (tS B N q) - 97)) s) : cI X d 98 [.ref 1, .int (zI C)] s K E := by
  have hN := hT.1
  have hS := tS_le (B := B) hq.1
  have hE := tE_le (B := B) hq.1
  have h0 := tK_0 (B := B) hq.1 (by omega)
  have hb := hT.2.2 _ h0.1
  have hl := tK_lt hk _ (Nat.le_refl _) h0.2
  unfold isLt at hl
  rw [Bool.and_eq_true] at hl
  have h97 := Nat.le_of_ble_eq_true hl.1
  have h122 := Nat.le_of_ble_eq_true hl.2
  have es : sb (B (tS B N q)) = zI (B (tS B N q)) := by unfold sb; rw [if_pos (by omega)]
  have e1 : (zI (tK B N q) = 1) ↔ tK B N q = 1 := zI_eq (b := 1) (by omega) (by omega)
  have e97 : zI (B (tS B N q)) - 97 = zI (B (tS B N q) - 97) := zI_sub (m := 97) (by omega)
  have eL : (zI (tE B N q - tS B N q) = 1) ↔ tL B N q = 1 := zI_eq (b := 1) (by omega) (by omega)
  refine en_X8_columnNamed ?_
  rw [hq.2.1, hq.2.2.1, hq.2.2.2.1, e1, zI_sub hE.2.2, eL, zI_nat (by omega), hb.2, es, e97, zI_le (by omega) (by omega)]
  refine ⟨fun h => absurd hk h, fun _ => ⟨fun h1 => ⟨in_zI (by omega) (by omega), fun hc => kN (fun z => by omega), fun hc => kY h1 (by omega)⟩, fun h1 => kN (fun z => h1 z.1)⟩⟩
theorem sp_part {X : bi_X} {D : Nat} {B : Nat → Nat} {N C R dp : Nat} (hdp : dp < 6) (hor : dp + 1 < 6 → ∀ k, Spc X (D + 2 + k) 52 B N C R (dp + 1) 0 1 0 (dp + 2) (pU B N)) : Spc X (D + 5) 58 B N C R dp 5 7 6 (dp + 2) (pL B N) := by
  intro K E s b lo q c out w tst sil mn nots h hpre _ hbin hok hJ _ kF kT
  have hN := CS_N h
  have hS := tS_le (B := B) hN.1
  have hE := tE_le (B := B) hN.1
  have hC := h.2.1
  have hR := h.2.2.1
  have hT := h.2.2.2.1
  have hq := h.2.2.2.2.1
  have hstep := stO_L (C := C) (R := R) (m := (q, out, w, tst, dp + 1, sil)) hpre
  simp only at hstep
  have h1le := tK_le (B := B) (N := N) (q := q)
  have e1 : (zI (tK B N q) = 1) ↔ tK B N q = 1 := zI_eq (b := 1) (by omega) (by omega)
  have hoo : ∀ o : Nat × Nat, op_ok C o → o.1 ≤ 3 → okf C (out ++ [o]) (bin w + 1) := fun o ho h3 => by
    have n0 : op_n o.1 = 0 := by unfold op_n; rw [if_pos h3]
    have := okf_snoc hok ho (by rw [n0]; omega) (by rw [n0]; omega)
    rw [n0, Nat.sub_zero] at this; exact this
  -- an operand is out, and its token passed
  have got : ∀ (o : Nat × Nat) (s1 : bi_St) {D' : Nat}, fr (wRs b lo) s s1 → CS s1 B N C R b lo c q out sil → tK B N q ≠ 0 → tK B N q ≠ 3 → op_ok C o → o.1 ≤ 3 → stpM B N C R (some (mn, nots), (q, out, w, tst, dp + 1, sil)) = gotO (tE B N q) o (q, out, w, tst, dp + 1, sil) →
      cV X (D' + 1) 64 [.ref b, .int (zI o.1), .int (zI o.2)] s1 (fun s3 => cV X (D' + 1) 94 [.ref 1] s3 (fun s4 => K 1 s4) (fun _ _ => False)) (fun _ _ => False) := by
    intro o s1 D' h01 hs1 hk0 hk3 ho ho3 hst
    have hlt := tK_0 (B := B) hN.1 hk0
    have hs1' : CS s1 B N C R b lo (c - 1 + 1) q out sil := by rw [Int32.sub_add_cancel]; exact hs1
    refine ct_add hs1' (by omega) (fun t ht hct => ct_adv hct (fun u hu hcu => ?_))
    rw [pc1_1 hk3, Int32.sub_add_cancel] at hcu
    refine kT u (tE B N q) (out ++ [o]) sil tst ((h01.trans ht).trans hu) hcu (hoo o ho ho3) ?_ hE.1 (fun _ _ => rfl) lvl_le (Sim.step hst)
    rw [List.length_append]; simp only [List.length_cons, List.length_nil]; omega
  refine en_X4_readPart ?_
  rw [hq.2.1, e1]
  refine ⟨fun hk1 => ct_isSignC (c := 40) hT hq (by omega) ?_, fun hk1 => ?_⟩
  · have nk : ¬ kn B N q = 21 := fun z => hk1 (kn_lt (by omega)).1
    rw [if_neg nk] at hstep
    rw [b2i_ne0]
    refine ⟨fun h40 => ?_, fun h40 => ?_⟩
    · have h40 : ¬ tG B N q = 40 := by simpa using h40
      rw [if_neg h40] at hstep
      unfold prt at hstep
      refine ct_needNum (b := b) (lo := lo) (M := 10000) (f3 := 2) hN.2 hq (fun v hv => ?_) (fun f hf t ht h9 h10 => ⟨fun z => absurd rfl z, fun _ => ?_⟩) (fun h2 h4 _ => ⟨fun _ => ?_, fun z => absurd (by decide) z⟩)
      · have : (zI v ≤ 9999) ↔ v ≤ 9999 := zI_le (b := 9999) (by omega) (by omega)
        rw [this]; omega
      · rcases hf with ⟨a1, a2⟩ | ⟨a1, a2, a3⟩ | ⟨a1, a2, a3, a4⟩
        · subst a2
          rw [if_neg a1, if_neg hk1] at hstep
          exact kF t 1 _ ht h9 h10 (by omega) (by omega) hS.2 (.fin _ _ hstep)
        · subst a3
          rw [if_pos a1, if_pos a2] at hstep
          exact kF t 2 _ ht h9 h10 (by omega) (by omega) hS.2 (.fin _ _ hstep)
        · have := tV_lt a1; omega
      · rw [if_pos h2, if_neg h4] at hstep
        obtain ⟨a7, a6⟩ := hq.2.2.2.2 h2
        rw [if_neg h4] at a6
        have hv := tV_lt h2
        refine ⟨by rw [h.2.2.2.2.2.1]; exact h.1, ?_⟩
        rw [h.2.2.2.2.2.1, a6]
        exact got (0, tV B N q) s fr.refl h (by omega) (by omega) ⟨by show 0 ≤ 13; omega, by show tV B N q ≤ 9999; omega, fun z => absurd (show (0 : Nat) = 1 from z) (by decide), fun z => absurd (show (0 : Nat) = 3 from z) (by decide)⟩ (by show 0 ≤ 3; omega) hstep
    · have h40 : tG B N q = 40 := by simpa using h40
      rw [if_pos h40] at hstep
      refine ct_within (D := D + 1) (o := 14) (w := w) (tst := tst) (m := (some (mn, nots), (q, out, w, tst, dp + 1, sil))) (fun hd => hor hd 1) hdp h (Or.inl rfl) hbin hok hJ (fun _ => hstep) (fun z => absurd h40 z) (fun t f p ht a1 a2 a3 a4 a5 he => ⟨rfl, kF t f p ht a1 a2 a3 a4 a5 he⟩) (fun t q' out' sil' tst' ht hct hok' hJ' hmn _ htst hsim => ⟨rfl, kT t q' out' sil' tst' ht hct hok' (by omega) hmn htst lvl_le ?_⟩)
      rw [if_neg (by omega)] at hsim; exact hsim
  · have hk1 := Decidable.of_not_not hk1
    have hG : tG B N q = 0 := by unfold tG; rw [if_neg (by omega)]
    have hlt := tK_0 (B := B) hN.1 (by omega)
    rw [if_neg (show ¬ tG B N q = 40 by omega)] at hstep
    have hgp := h.2.2.2.2.2.1
    refine en_X4_readWord ?_
    rw [h.2.2.2.2.2.2.1]
    refine ct_columnNamed hT hC hq hk1 (fun hcol => ⟨fun _ => ct_isWord (j := 3) hT hq (by omega) ?_, fun z => absurd rfl z⟩) (fun hl hcol => ⟨fun z => absurd z (zI_m1 (by omega)), fun _ => ⟨by rw [hgp]; exact h.1, ?_⟩⟩)
    · rw [b2i_ne0]
      refine ⟨fun hme => ct_isWord (j := 4) hT hq (by omega) ?_, fun hme => ⟨by rw [hgp]; exact h.1, ?_⟩⟩
      · have hme : ¬ kn B N q = 19 := (show ¬ kn B N q = wPm 3 by simpa using hme)
        rw [b2i_ne0]
        refine ⟨fun hhas => ct_isWord (j := 5) hT hq (by omega) ?_, fun hhas => ?_⟩
        · have hhas : ¬ kn B N q = 20 := (show ¬ kn B N q = wPm 4 by simpa using hhas)
          rw [b2i_ne0]
          refine ⟨fun hpk => ct_adv h (fun t ht hct => ?_), fun hpk => ct_refuse (f := 3) (b := b) (lo := lo) hq (fun t ht h9 h10 => ⟨rfl, rfl, kF t 3 _ ht h9 h10 (by omega) (by omega) hS.2 (.fin _ _ ?_)⟩)⟩
          · have hpk : kn B N q = 21 := (show kn B N q = wPm 5 by simpa using hpk)
            rw [if_pos hpk] at hstep
            rw [pc1_1 (by omega)] at hct
            obtain ⟨hc2, hf2⟩ := CS_sil hct false
            have hJ2 : lo + out.length + w.length ≤ tE B N q := by omega
            refine ct_within (D := D) (o := 15) (w := w) (tst := tst) (m := (some (mn, nots), (q, out, w, tst, dp + 1, sil))) (fun hd => hor hd 0) hdp hc2 (Or.inr rfl) hbin hok hJ2 (fun h40 => by rw [hstep, if_pos h40]; rfl) (fun h40 => .fin _ _ (by rw [hstep, if_neg h40]; rfl)) (fun u f p hu a1 a2 a3 a4 a5 he => ⟨fun z => absurd rfl z, fun _ => ⟨rfl, kF u f p (((ht.trans hf2).mono wRs_wRf).trans hu) a1 a2 a3 a4 a5 he⟩⟩) (fun u q' out' sil' tst' hu hcu hok' hJ' hmn hl' htst hsim => ⟨fun _ => ⟨by rw [hcu.2.2.2.2.2.1]; exact h.1, ?_⟩, fun z => absurd (by decide) z⟩)
            rw [hcu.2.2.2.2.2.1]
            rw [if_pos rfl] at hsim
            refine ct_add (o := (4, 0)) hcu hl' (fun v hv hcv => ⟨rfl, kT v q' (out' ++ [(4, 0)]) sil' tst' (((ht.trans hf2).trans hu).trans hv) hcv ?_ ?_ (show q ≤ q' by omega) htst lvl_le hsim⟩)
            · have := okf_snoc (o := (4, 0)) hok' ⟨by show 4 ≤ 13; omega, by show 0 ≤ 9999; omega, fun z => absurd (show (4 : Nat) = 1 from z) (by decide), fun z => absurd (show (4 : Nat) = 3 from z) (by decide)⟩ (by show 1 ≤ bin w + 1; omega) (by show bin w + 1 - 1 < 64; omega)
              exact this
            · rw [List.length_append]; simp only [List.length_cons, List.length_nil]; omega
          · have hpk : ¬ kn B N q = 21 := (show ¬ kn B N q = wPm 5 by simpa using hpk)
            rw [hstep, if_neg hpk]
            unfold prt
            rw [if_neg (show ¬ tK B N (q, out, w, tst, dp + 1, sil).1 = 2 from by show ¬ tK B N q = 2; omega), if_pos hk1, if_neg hhas, if_neg hme, if_neg hcol]; rfl
        · have hhas : kn B N q = 20 := (show kn B N q = wPm 4 by simpa using hhas)
          rw [if_neg (by omega)] at hstep
          unfold prt at hstep
          rw [if_neg (show ¬ tK B N (q, out, w, tst, dp + 1, sil).1 = 2 from by show ¬ tK B N q = 2; omega), if_pos hk1, if_pos hhas] at hstep
          simp only at hstep
          refine en_X4_readHas (ct_adv h (fun t ht hct => ?_))
          rw [pc1_1 (by omega)] at hct
          have hN1 := CS_N hct
          have hS1 := tS_le (B := B) hN1.1
          have hE1 := tE_le (B := B) hN1.1
          rw [hct.2.2.2.2.2.2.2.1]
          refine ct_needNum (b := b) (lo := lo) (M := R) (f3 := 3) hN.2 hct.2.2.2.2.1 (fun v hv => ?_) (fun f hf u hu h9 h10 => ⟨fun z => absurd rfl z, fun _ => ⟨rfl, rfl, ?_⟩⟩) (fun h2 h4 hm => ⟨fun _ => ⟨by rw [hct.2.2.2.2.2.1]; exact h.1, ?_⟩, fun z => absurd (by decide) z⟩)
          · cases R with
            | zero =>
              refine ⟨fun z => ?_, fun z => by omega⟩
              have z : zI v ≤ (-1 : Int32) := z
              rw [Int32.le_iff_toInt_le, zI_int (by omega)] at z
              have e : (-1 : Int32).toInt = -1 := by decide
              omega
            | succ R =>
              rw [zI_sub1 (by omega), zI_le (by omega) (by omega)]; omega
          · rcases hf with ⟨a1, a2⟩ | ⟨a1, a2, a3⟩ | ⟨a1, a2, a3, a4⟩
            · subst a2
              rw [if_pos a1] at hstep
              exact kF u 1 _ ((ht.mono wRs_wRf).trans hu) h9 h10 (by omega) (by omega) hS1.2 (.fin _ _ hstep)
            · subst a3
              rw [if_neg (fun z => z a1), if_pos a2] at hstep
              exact kF u 2 _ ((ht.mono wRs_wRf).trans hu) h9 h10 (by omega) (by omega) hS1.2 (.fin _ _ hstep)
            · subst a4
              rw [if_neg (fun z => z a1), if_neg a2, if_pos a3] at hstep
              exact kF u 3 _ ((ht.mono wRs_wRf).trans hu) h9 h10 (by omega) (by omega) hS1.2 (.fin _ _ hstep)
          · rw [if_neg (fun z => z h2), if_neg h4, if_neg (by omega)] at hstep
            obtain ⟨a7, a6⟩ := hct.2.2.2.2.1.2.2.2.2 h2
            rw [if_neg h4] at a6
            rw [hct.2.2.2.2.2.1, a6]
            have hlt1 := tK_0 (B := B) hN1.1 (show tK B N (tE B N q) ≠ 0 by omega)
            refine ct_add (o := (3, tV B N (tE B N q))) hct (by omega) (fun u hu hcu => ct_adv hcu (fun v hv hcv => ⟨rfl, rfl, ?_⟩))
            rw [pc1_1 (by omega)] at hcv
            have hb := isR_ge h.1
            obtain ⟨x1, x2, x3, x4, x5, x6, x7, x8, x9, x10, x11, x12⟩ := hcv
            have g : ∀ a y, a ≠ 1 → st_g (st_p v 1 8 ((st_g v 1 8) - (1 : Int32))) a y = st_g v a y := fun a y hh => g_p_a hh
            have g1 : ∀ y, y ≠ 8 → st_g (st_p v 1 8 ((st_g v 1 8) - (1 : Int32))) 1 y = st_g v 1 y := fun y hh => g_p_k hh
            obtain ⟨y1, y2, y3, y4, y5⟩ := x5
            refine kT _ (tE B N (tE B N q)) (out ++ [(3, tV B N (tE B N q))]) sil tst (((ht.trans hu).trans hv).p (by unfold wRs wTk; simp)) ⟨x1, x2, x3, TB_fr (g1 _ (by omega)) (fun y => g _ _ (by omega)) x4, ⟨y1, by rw [g1 _ (by omega)]; exact y2, by rw [g1 _ (by omega)]; exact y3, by rw [g1 _ (by omega)]; exact y4, fun hh => by rw [g1 _ (by omega), g1 _ (by omega)]; exact y5 hh⟩, x6, by rw [g _ _ (by omega)]; exact x7, by rw [g _ _ (by omega)]; exact x8, by rw [g _ _ (by omega)]; exact x9, by rw [g _ _ (by omega)]; exact x10, fun k hk => by rw [g _ _ (by omega)]; exact x11 k hk, ?_⟩ (hoo _ ⟨by show 3 ≤ 13; omega, by show tV B N (tE B N q) ≤ 9999; have := tV_lt h2; omega, fun z => absurd (show (3 : Nat) = 1 from z) (by decide), fun _ => by show tV B N (tE B N q) < 6; omega⟩ (by show 3 ≤ 3; omega)) ?_ (show q ≤ tE B N (tE B N q) by omega) (fun _ _ => rfl) lvl_le (Sim.step hstep)
            · rw [g_p_eq, x12, Int32.add_assoc, Int32.add_comm 1, ← Int32.add_assoc, Int32.add_sub_cancel]
            · rw [List.length_append]; simp only [List.length_cons, List.length_nil]; omega
      · have hme : kn B N q = 19 := (show kn B N q = wPm 3 by simpa using hme)
        rw [if_neg (by omega)] at hstep
        unfold prt at hstep
        rw [if_neg (show ¬ tK B N (q, out, w, tst, dp + 1, sil).1 = 2 from by show ¬ tK B N q = 2; omega), if_pos hk1, if_neg (show ¬ kn B N (q, out, w, tst, dp + 1, sil).1 = 20 from by show ¬ kn B N q = 20; omega), if_pos hme] at hstep
        rw [hgp]
        have := got (2, 0) s (D' := D + 2) fr.refl h (by omega) (by omega) ⟨by show 2 ≤ 13; omega, by show 0 ≤ 9999; omega, fun z => absurd (show (2 : Nat) = 1 from z) (by decide), fun z => absurd (show (2 : Nat) = 3 from z) (by decide)⟩ (by show 2 ≤ 3; omega) hstep
        exact cV.mono this (fun s3 h3 => cV.mono h3 (fun s4 h4 => ⟨rfl, h4⟩) (fun _ _ z => z)) (fun _ _ z => z)
    · have nk := kn_25 (B := B) (N := N) hl
      rw [if_neg (by omega)] at hstep
      unfold prt at hstep
      rw [if_neg (show ¬ tK B N (q, out, w, tst, dp + 1, sil).1 = 2 from by show ¬ tK B N q = 2; omega), if_pos hk1, if_neg (show ¬ kn B N (q, out, w, tst, dp + 1, sil).1 = 20 from by show ¬ kn B N q = 20; omega), if_neg (show ¬ kn B N (q, out, w, tst, dp + 1, sil).1 = 19 from by show ¬ kn B N q = 19; omega), if_pos ⟨hl, hcol⟩] at hstep
      rw [hgp]
      have := got (1, B (tS B N q) - 97) s (D' := D + 2) fr.refl h (by omega) (by omega) ⟨by show 1 ≤ 13; omega, by show B (tS B N q) - 97 ≤ 9999; omega, fun _ => hcol, fun z => absurd (show (1 : Nat) = 3 from z) (by decide)⟩ (by show 1 ≤ 3; omega) hstep
      exact cV.mono this (fun s3 h3 => cV.mono h3 (fun s4 h4 => ⟨rfl, h4⟩) (fun _ _ z => z)) (fun _ _ z => z)
end CRULE2
