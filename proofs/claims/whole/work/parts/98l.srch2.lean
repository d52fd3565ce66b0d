/-! ===== the class's search, whole ===== -/
section SRCH2
def pUp (p : Nat) (f : Nat → Pol) (S : Sta) (u r cmd : Nat) : Bool := po_let p f (en S u r) S.2.1 cmd false
theorem b2i_and {a b : Bool} : b2i (a && b) = if a then b2i b else 0 := by cases a <;> rfl
theorem ct_canChange {X : bi_X} {d : Nat} {K : Int32 → bi_St → Prop} {E : Nat → bi_St → Prop} {s : bi_St} {b a C R p u r : Nat} {f : Nat → Pol} {S : Sta} (hj : JC s b a C R p f S) (hu : u < 6) (hr : r < S.2.2.1) (hl : ∀ c, c < C → st_g s 59 c = S.2.2.2 r c) (k : ∀ t, fr wA s t → (∀ q, st_g t 59 q = st_g s 59 q) → st_g t 57 5 = zI u → st_g t 57 6 = clo S.1 (s1 u) → K (b2i (reads p f S u r && pUp p f S u r 2)) t) : cI X (d + 4) 15 [.ref 62, .int (zI u)] s K E := by
  refine en_X1_canChange (ct_become hu (fun t1 ht1 h5 h6 h59 => ?_))
  have hj1 := JC_fr ht1 hj
  have h6 : st_g t1 57 6 = clo S.1 (s1 u) := by rw [h6]; exact hj.2.2.2.2.2.2 u hu
  have he : envC t1 C (en S u r) := ⟨fun c hc => by rw [h59]; exact hl c hc, h5, h6⟩
  refine ct_allowsJ (cmd := 0) (how := false) hj1 he (by omega) (fun t2 ht2 => ?_)
  have hj2 := JC_fr (ht2.mono wH_wA) hj1
  have e1 : po_let p f (en S u r) S.2.1 0 false = reads p f S u r := rfl
  have k2 := k t2 (ht1.trans (ht2.mono wH_wA)) (fun q => by rw [ht2.g (wH_ne (by omega) (by omega)), h59]) (by rw [ht2.g rfl]; exact h5) (by rw [ht2.g rfl]; exact h6)
  rw [e1, b2i_ne0]
  refine ⟨fun h => by rw [h] at k2; exact k2, fun h => ct_allowsJ (cmd := 2) (how := false) hj2 (envC_fr ht2 he) (by omega) (fun t3 ht3 => ?_)⟩
  have h : reads p f S u r = true := by simpa using h
  have h13 := ht2.trans ht3
  have k3 := k t3 (ht1.trans (h13.mono wH_wA)) (fun q => by rw [h13.g (wH_ne (by omega) (by omega)), h59]) (by rw [h13.g rfl]; exact h5) (by rw [h13.g rfl]; exact h6)
  rw [h, Bool.true_and] at k3
  have e2 : po_let p f (en S u r) S.2.1 2 false = pUp p f S u r 2 := rfl
  rw [e2, b2i_ne0]
  refine ⟨fun h => by rw [h] at k3; exact k3, fun h => ?_⟩
  have h : pUp p f S u r 2 = true := by simpa using h
  rw [h] at k3; exact k3
theorem ct_isSo {X : bi_X} {d : Nat} {K : Int32 → bi_St → Prop} {E : Nat → bi_St → Prop} {s : bi_St} {b a C R p m i : Nat} {f : Nat → Pol} {S : Sta} {W : Wt} (hj : JC s b a C R p f S) (hw : WC s a m W) (hi : i < m) (hr : (W i).2.1 < S.2.2.1) (hl : ∀ c, c < C → st_g s 59 c = S.2.2.2 (W i).2.1 c) (k : ∀ t, fr wA s t → K (b2i (soW p f S W i)) t) : cI X (d + 4) 18 [.ref 62, .int (zI i)] s K E := by
  have hm8 := hw.1
  have hS := hj.2.2.2.1.1
  obtain ⟨w1, w2, w3, w4, w5⟩ := hw.2.2 i hi
  refine en_X1_isSo ⟨by rw [hj.2.2.1]; exact hS, in_zI (by omega) (by omega), ?_⟩
  rw [hj.2.2.1, zI_nat (by omega), w1]
  refine ct_become w2 (fun t1 ht1 h5 h6 h59 => ?_)
  have hj1 := JC_fr ht1 hj
  have he : envC t1 C (en S (W i).1 (W i).2.1) := ⟨fun c hc => by rw [h59]; exact hl c hc, h5, by rw [h6]; exact hj.2.2.2.2.2.2 _ w2⟩
  refine ct_allowsJ (cmd := 0) (how := false) hj1 he (by omega) (fun t2 ht2 => ?_)
  have ht : fr wA s t2 := ht1.trans (ht2.mono wH_wA)
  have hj2 := JC_fr ht hj
  have hw2 := WC_wS hS (ht.mono wA_wS) hw
  refine ⟨by rw [hj2.2.2.1]; exact hS, ?_⟩
  rw [hj2.2.2.1]
  refine ct_bit (by omega) ?_
  rw [(hw2.2.2 i hi).2.2.2.2]
  have k := k t2 ht
  have e1 : po_let p f (en S (W i).1 (W i).2.1) S.2.1 0 false = reads p f S (W i).1 (W i).2.1 := rfl
  rw [e1]
  unfold soW at k
  simp only [hr, decide_true, Bool.true_and] at k
  cases h1 : reads p f S (W i).1 (W i).2.1 <;> cases h2 : (W i).2.2 <;> rw [h1, h2] at k
  · exact ⟨fun _ => ⟨fun z => absurd rfl z, fun _ => k⟩, fun z => absurd (fun w => absurd w (by decide)) z⟩
  · exact ⟨fun z => absurd rfl z, fun _ => ⟨fun _ => k, fun z => absurd (fun w => absurd w (by decide)) z⟩⟩
  · exact ⟨fun _ => ⟨fun _ => k, fun z => absurd (fun w => absurd w (by decide)) z⟩, fun z => absurd (fun w => absurd w (by decide)) z⟩
  · exact ⟨fun z => absurd rfl z, fun _ => ⟨fun z => absurd rfl z, fun _ => k⟩⟩
theorem ct_seenAstray {X : bi_X} {d : Nat} {K : Int32 → bi_St → Prop} {E : Nat → bi_St → Prop} {s : bi_St} {b a C R p m : Nat} {f : Nat → Pol} {S : Sta} {W : Wt} (hj : JC s b a C R p f S) (hw : WC s a m W) (k : ∀ t, fr wA s t → K (bo (fun i => !(soW p f S W i)) m) t) : cI X (d + 5) 16 [.ref 62] s K E := by
  have hm8 := hw.1
  have hC := hj.1.2.1
  have hS := hj.2.2.2.1.1
  have hn16 := hj.2.2.2.1.2.1
  have ha1 : a + 1 ≠ 59 ∧ a + 1 ≠ 57 ∧ a + 1 ≠ 60 := by rcases hS with z | z | z | z <;> omega
  have loop : ∀ e n (t : bi_St), e = m - n → n ≤ m → fr wA s t → at_X1_seenAstray_12 X (d + 5) K E t (bo (fun i => !(soW p f S W i)) n) (zI n) a := by
    intro e
    induction e with
    | zero =>
      intro n t he hn ht
      have : n = m := by omega
      subst this
      have hwt := WC_wS hS (ht.mono wA_wS) hw
      refine go_X1_seenAstray_12 hS ⟨fun _ => k t ht, fun z => absurd ?_ z⟩
      rw [hwt.2.1]; exact (zI_le (by omega) (by omega)).mpr (Nat.le_refl _)
    | succ e ih =>
      intro n t he hn ht
      have hjt := JC_fr ht hj
      have hwt := WC_wS hS (ht.mono wA_wS) hw
      obtain ⟨w1, w2, w3, w4, w5⟩ := hwt.2.2 n (by omega)
      refine go_X1_seenAstray_12 hS ⟨fun z => ?_, fun _ => ⟨in_zI (by omega) (by omega), ?_⟩⟩
      · rw [hwt.2.1, zI_le (by omega) (by omega)] at z; omega
      · rw [zI_nat (show n < 2147483648 by omega), w3, hjt.2.2.2.1.2.2.1, zI_le (by omega) (by omega), zI_add1]
        refine ⟨fun hge => ⟨in_zI (by omega) (by omega), ct_take hjt.2.2.1 hS w4 (fun t1 ht1 _ _ => ⟨fun _ => ?_, fun z => absurd rfl z⟩)⟩, fun hlt => ⟨in_zI (by omega) (by omega), ct_take hjt.2.2.1 hS w4 (fun t1 ht1 hl _ => ⟨fun z => absurd z (by decide), fun _ => ?_⟩)⟩⟩
        · have ih := ih (n + 1) t1 (by omega) (by omega) (ht.trans ht1)
          rw [bo_succ] at ih
          have : soW p f S W n = false := by
            unfold soW
            have : ¬ (W n).2.1 < S.2.2.1 := by omega
            simp [this]
          rw [this] at ih; exact ih
        · have hj1 := JC_fr ht1 hjt
          have hw1 := WC_wS hS (ht1.mono wA_wS) hwt
          have hrn : (W n).2.1 < S.2.2.1 := by omega
          refine ct_isSo hj1 hw1 (by omega) hrn (fun c hc => ?_) (fun t2 ht2 => ?_)
          · rw [hl c (by omega)]; exact hjt.2.2.2.1.2.2.2.2.2 _ c hrn hc
          · have ih := ih (n + 1) t2 (by omega) (by omega) (ht.trans (ht1.trans ht2))
            rw [bo_succ] at ih
            rw [b2i_ne0]
            refine ⟨fun h => ?_, fun h => ?_⟩
            · rw [h] at ih; exact ih
            · have h : soW p f S W n = true := by simpa using h
              rw [h] at ih; rw [Int32.or_zero]; exact ih
  refine en_X1_seenAstray ⟨by rw [hj.2.2.1]; exact hS, ?_⟩
  rw [hj.2.2.1]
  exact loop m 0 s (by omega) (by omega) fr.refl
theorem ct_seenOf {X : bi_X} {d : Nat} {K : Int32 → bi_St → Prop} {E : Nat → bi_St → Prop} {s : bi_St} {a m r : Nat} {W : Wt} (hg : st_gp s 8 = a) (hS : st_isS a) (hw : WC s a m W) (hr : r < 16) (k : K (bo (fun i => decide ((W i).2.1 = r)) m) s) : cI X d 17 [.ref 62, .int (zI r)] s K E := by
  have hm8 := hw.1
  have loop : ∀ e n, e = m - n → n ≤ m → at_X1_seenOf_4 X d K E s (zI r) (bo (fun i => decide ((W i).2.1 = r)) n) (zI n) := by
    intro e
    induction e with
    | zero =>
      intro n he hn
      have : n = m := by omega
      subst this
      refine go_X1_seenOf_4 ⟨by rw [hg]; exact hS, fun _ => k, fun z => absurd ?_ z⟩
      rw [hg, hw.2.1]; exact (zI_le (by omega) (by omega)).mpr (Nat.le_refl _)
    | succ e ih =>
      intro n he hn
      have ih := ih (n + 1) (by omega) (by omega)
      obtain ⟨w1, w2, w3, w4, w5⟩ := hw.2.2 n (by omega)
      refine go_X1_seenOf_4 ⟨by rw [hg]; exact hS, fun z => ?_, fun _ => ⟨by rw [hg]; exact hS, in_zI (by omega) (by omega), ?_⟩⟩
      · rw [hg, hw.2.1, zI_le (by omega) (by omega)] at z; omega
      · rw [hg, zI_nat (show n < 2147483648 by omega), w3, zI_eq (by omega) (by omega), zI_add1]
        rw [bo_succ] at ih
        refine ⟨fun h => ?_, fun h => ?_⟩
        · rw [if_neg (by simp [h])] at ih; rw [Int32.or_zero]; exact ih
        · rw [if_pos (by simp [Decidable.of_not_not h])] at ih; exact ih
  exact en_X1_seenOf (loop m 0 (by omega) (by omega))
/-- what is tried: of escapes, of what was meant -/
def gE (p : Nat) (f : Nat → Pol) (S : Sta) (u r c j : Nat) : Bool := !(decide (S.2.2.2 r c = vv j)) && ((reads p f S u r && pUp p f S u r 2) && (po_let p f (en (cs S r c (vv j)) u r) S.2.1 2 true && !(reads p f (cs S r c (vv j)) u r)))
def gM (p : Nat) (f : Nat → Pol) (S : Sta) (m : Nat) (W : Wt) (r c j : Nat) : Bool := !(decide (S.2.2.2 r c = vv j)) && allB (soW p f (cs S r c (vv j)) W) m
theorem soW_cs {p : Nat} {f : Nat → Pol} {S : Sta} {W : Wt} {r c i : Nat} {v : Int32} (hr : r < S.2.2.1) : soW p f (cs S r c v) W i = if (W i).2.1 = r then (reads p f (cs S r c v) (W i).1 r == (W i).2.2) else soW p f S W i := by
  by_cases h : (W i).2.1 = r
  · rw [if_pos h]
    unfold soW
    have e : (cs S r c v).2.2.1 = S.2.2.1 := rfl
    rw [e, h]; simp [hr]
  · rw [if_neg h]
    unfold soW
    have e : (cs S r c v).2.2.1 = S.2.2.1 := rfl
    have e2 : reads p f (cs S r c v) (W i).1 (W i).2.1 = reads p f S (W i).1 (W i).2.1 := by
      unfold reads
      have : en (cs S r c v) (W i).1 (W i).2.1 = en S (W i).1 (W i).2.1 := by
        unfold en cs
        simp [h]
      rw [this]; rfl
    rw [e, e2]
theorem gM_split {p : Nat} {f : Nat → Pol} {S : Sta} {m : Nat} {W : Wt} {r c j aim u : Nat} (hr : r < S.2.2.1) (ha : aim ≠ 0) : allB (soW p f (cs S r c (vv j)) W) m = (allB (fun i => decide ((W i).2.1 = r) || soW p f S W i) m && ft p f S m W aim u r c j) := by
  unfold ft
  rw [if_neg ha, Bool.eq_iff_iff, Bool.and_eq_true, allB_iff, allB_iff, allB_iff]
  constructor
  · intro h
    refine ⟨fun i hi => ?_, fun i hi => ?_⟩
    · have := h i hi
      rw [soW_cs hr] at this
      by_cases hc : (W i).2.1 = r
      · simp [hc]
      · rw [if_neg hc] at this; simp [this]
    · have := h i hi
      rw [soW_cs hr] at this
      by_cases hc : (W i).2.1 = r
      · rw [if_pos hc] at this; rw [this]; simp
      · simp [hc]
  · rintro ⟨h1, h2⟩ i hi
    rw [soW_cs hr]
    have a := h1 i hi
    have b := h2 i hi
    by_cases hc : (W i).2.1 = r
    · rw [if_pos hc]; simpa [hc] using b
    · rw [if_neg hc]; simpa [hc] using a
theorem ct_search {X : bi_X} {d : Nat} {K : bi_St → Prop} {E : Nat → bi_St → Prop} {s : bi_St} {b a C R p m aim u : Nat} {f : Nat → Pol} {S : Sta} {W : Wt} {T : (Nat → Int32) × Int32} {y : Int32} (hj : JC s b a C R p f S) (hw : WC s a m W) (hcol : st_g s b 0 = zI C) (ha : aim ≤ 2) (h63 : aim = 2 → ∀ u, u < R → st_g s 63 u = bo (reads p f S u) S.2.2.1) (hu : aim = 0 → u < 6 ∧ y = zI u)
    (hT : (∀ u, u < 6 → st_g s 64 u = T.1 u) ∧ st_g s 62 3 = T.2)
    (k : ∀ t, fr wS s t → mQs t (sr3 R p f S aim (if aim = 0 then gE p f S u else gM p f S m W) C S.2.2.1 (0, -1, T)) → K t) : cV X (d + 6) 14 [.ref 62, .int (zI aim), .int y] s K E := by
  have hS := hj.2.2.2.1.1
  have hC := hj.1.2.1
  have hn16 := hj.2.2.2.1.2.1
  have hm8 := hw.1
  have ha1 : a + 1 ≠ 59 ∧ a + 1 ≠ 57 ∧ a + 1 ≠ 60 := by rcases hS with z | z | z | z <;> omega
  have hb : b ≤ 19 := by rcases hj.1.1 with z | z <;> omega
  have e0 : (zI aim = 0) ↔ aim = 0 := zI_eq (b := 0) (by omega) (by omega)
  have loop : ∀ x, (aim ≠ 0 → x = bo (fun i => !(soW p f S W i)) m) → ∀ e n (t : bi_St), e = S.2.2.1 - n → n ≤ S.2.2.1 → fr wS s t → mQs t (sr3 R p f S aim (if aim = 0 then gE p f S u else gM p f S m W) C n (0, -1, T)) → at_X1_search_26 X (d + 6) K E t (zI aim) y x (zI n) := by
    intro x hx e
    induction e with
    | zero =>
      intro n t he hn ht hq
      have : n = S.2.2.1 := by omega
      subst this
      have hjt := JC_wS ht hj
      refine go_X1_search_26 ⟨by rw [hjt.2.2.1]; exact hS, fun _ => k t ht hq, fun z => absurd ?_ z⟩
      rw [hjt.2.2.1, hjt.2.2.2.1.2.2.1]; exact (zI_le (by omega) (by omega)).mpr (Nat.le_refl _)
    | succ e ih =>
      intro n t he hn ht hq
      have hjt := JC_wS ht hj
      have hnr : n < S.2.2.1 := by omega
      refine go_X1_search_26 ⟨by rw [hjt.2.2.1]; exact hS, fun z => ?_, fun _ => ct_take hjt.2.2.1 hS (by omega) (fun t1 ht1 hl _ => ?_)⟩
      · rw [hjt.2.2.1, hjt.2.2.2.1.2.2.1, zI_le (by omega) (by omega)] at z; omega
      · have ht1' : fr wS s t1 := ht.trans (ht1.mono wA_wS)
        have hj1 := JC_wS ht1' hj
        have hw1 := WC_wS hS ht1' hw
        have hq1 := mQs_fr ht1 hq
        have hl1 : ∀ c, c < C → st_g t1 59 c = S.2.2.2 n c := fun c hc => by rw [hl c (by omega)]; exact hjt.2.2.2.1.2.2.2.2.2 n c hnr hc
        rw [e0, zI_add1]
        refine ⟨fun hne => ?_, fun heq => ?_⟩
        · refine ct_seenOf hj1.2.2.1 hS hw1 (by omega) ?_
          have hxx := hx hne
          have key : (x &&& (bo (fun i => decide ((W i).2.1 = n)) m ^^^ -1) = 0) ↔ allB (fun i => decide ((W i).2.1 = n) || soW p f S W i) m = true := by
            rw [hxx, tb_eq0, allB_iff]
            constructor
            · intro h i hi
              have := h i (by omega)
              rw [tb_and, tb_not (by omega), tb_bo (by omega) (by omega), tb_bo (by omega) (by omega)] at this
              simp only [hi, decide_true, Bool.true_and] at this
              cases h1 : soW p f S W i <;> cases h2 : decide ((W i).2.1 = n) <;> rw [h1, h2] at this <;> simp_all
            · intro h i hi
              rw [tb_and, tb_not hi, tb_bo (by omega) hi, tb_bo (by omega) hi]
              by_cases him : i < m
              · have := h i him
                simp only [him, decide_true, Bool.true_and]
                cases h1 : soW p f S W i <;> cases h2 : decide ((W i).2.1 = n) <;> rw [h1, h2] at this <;> simp_all
              · simp [him]
          rw [key]
          have gsp : ∀ c j, gM p f S m W n c j = (!(decide (S.2.2.2 n c = vv j)) && (allB (fun i => decide ((W i).2.1 = n) || soW p f S W i) m && ft p f S m W aim u n c j)) := fun c j => by
            unfold gM; rw [gM_split (aim := aim) (u := u) hnr hne]
          refine ⟨fun h => ih (n + 1) t1 (by omega) (by omega) ht1' ?_, fun h => ?_⟩
          · rw [sr3, sr2_none C _ (fun c j _ _ => ?_)]
            · exact hq1
            · rw [if_neg hne, gsp c j]
              have h : allB (fun i => decide ((W i).2.1 = n) || soW p f S W i) m = false := by simpa using h
              rw [h]; simp
          · have h := Decidable.of_not_not h
            refine ct_tryNumbers (u := u) (g := if aim = 0 then gE p f S u else gM p f S m W) hj hw hcol hnr ha h63 ⟨ht1', hq1, fun z => absurd z hne⟩ hl1 (fun c j _ _ => ?_) (fun t2 ht2 => ih (n + 1) t2 (by omega) (by omega) ht2.1 ht2.2.1)
            rw [if_neg hne, gsp c j, h, Bool.true_and]
        · have heq := Decidable.of_not_not heq
          obtain ⟨hu6, hy⟩ := hu heq
          rw [hy]
          refine ct_canChange hj1 hu6 hnr hl1 (fun t2 ht2 h59 h5 h6 => ?_)
          have ht2' := ht1'.trans (ht2.mono wA_wS)
          have hq2 := mQs_fr ht2 hq1
          rw [b2i_ne0]
          rw [hy] at ih
          refine ⟨fun h => ih (n + 1) t2 (by omega) (by omega) ht2' ?_, fun h => ?_⟩
          · rw [sr3, sr2_none C _ (fun c j _ _ => ?_)]
            · exact hq2
            · rw [if_pos heq]; unfold gE; rw [h]; simp
          · have h : (reads p f S u n && pUp p f S u n 2) = true := by simpa using h
            refine ct_tryNumbers (u := u) (g := if aim = 0 then gE p f S u else gM p f S m W) hj hw hcol hnr ha h63 ⟨ht2', hq2, fun _ => ⟨h5, h6⟩⟩ (fun c hc => by rw [h59]; exact hl1 c hc) (fun c j _ _ => ?_) (fun t3 ht3 => ih (n + 1) t3 (by omega) (by omega) ht3.1 ht3.2.1)
            rw [if_pos heq]
            unfold gE ft
            rw [h, if_pos heq, Bool.true_and]
  have h0 : fr wS s (st_p (st_p s 62 4 0) 62 5 (-1)) := (fr.refl.p rfl).p rfl
  have hq0 : mQs (st_p (st_p s 62 4 0) 62 5 (-1)) (0, -1, T) := ⟨by rw [g_p_k (by omega), g_p_eq], by rw [g_p_eq], fun u hu => by rw [g_p_a (by omega), g_p_a (by omega)]; exact hT.1 u hu, by rw [g_p_k (by omega), g_p_k (by omega)]; exact hT.2⟩
  refine en_X1_search ?_
  rw [e0]
  refine ⟨fun hne => ct_seenAstray (JC_wS h0 hj) (WC_wS hS h0 hw) (fun t ht => loop _ (fun _ => rfl) S.2.2.1 0 t (by omega) (by omega) (h0.trans (ht.mono wA_wS)) (mQs_fr ht hq0)), fun heq => loop _ (fun z => absurd (Decidable.of_not_not heq) z) S.2.2.1 0 _ (by omega) (by omega) h0 hq0⟩
end SRCH2
