/-! ===== the reference's escapes and guesses ===== -/
section REFS
theorem ct_isUsed {X : bi_X} {d : Nat} {K : Int32 → bi_St → Prop} {E : Nat → bi_St → Prop} {s : bi_St} {b0 C R p u r cmd : Nat} {f : Nat → Pol} {S : Sta} (hj : RC s b0 C R p f S) (hu : u < 6) (hr : r < S.2.2.1) (hcmd : cmd ≤ 4) (k : ∀ t, fr wF s t → K (b2i (reads p f S u r && pUp p f S u r cmd)) t) : cI X (d + 4) 242 [.ref 77, .int (zI b0), .int (zI u), .int (zI r), .int (zI cmd)] s K E := by
  have hn := hj.2.1.2.1
  have hb0 := hj.2.1.1
  have e7 : zI b0 + 7 = zI (b0 + 7) := zI_add b0 7
  refine en_X12_isUsed ⟨fun z => absurd z (zI_nn (by omega)), fun _ => ?_⟩
  rw [e7, zI_nat (by omega), hj.2.1.2.2.1]
  refine ⟨in_zI (by omega) (by omega), fun z => ?_, fun _ => ct_doesRead hj hu hr (fun t1 ht1 => ?_)⟩
  · rw [zI_le (by omega) (by omega)] at z; omega
  · have hj1 := RC_fr ht1 hj
    rw [b2i_ne0]
    refine ⟨fun h => ?_, fun h => ?_⟩
    · have h : reads p f S u r = true := by simpa using h
      refine ct_laysUser hj1 hu (fun t2 ht2 h1 h2 _ => ct_laysRow hb0 (by omega) (fun t3 ht3 h3 h4 h5 => ?_))
      have hj3 := RC_fr ht3 (RC_fr ht2 hj1)
      refine ct_doLetJ (how := false) hj3 (RC_env (u := u) (r := r) hj3 hr (fun c hc => by rw [h3 c hc, ht3.g (wF_ne (by omega) (by omega) (by omega))]) (by rw [h4]; exact h1) (by rw [h5]; exact h2)) hcmd (fun t4 ht4 => ⟨b2i_bool _, ?_⟩)
      have := k t4 (ht1.trans (ht2.trans (ht3.trans (ht4.mono wD_wF))))
      rw [h, Bool.true_and] at this
      exact this
    · have := k t1 ht1
      rw [Decidable.of_not_not h] at this
      exact this
theorem ct_isUsed_no {X : bi_X} {d : Nat} {K : Int32 → bi_St → Prop} {E : Nat → bi_St → Prop} {s : bi_St} {b0 C R p : Nat} {f : Nat → Pol} {S : Sta} {u r cmd : Int32} (hj : RC s b0 C R p f S) (hr : ∀ q, q < S.2.2.1 → r ≠ zI q) (k : K 0 s) : cI X (d + 1) 242 [.ref 77, .int (zI b0), .int u, .int r, .int cmd] s K E := by
  have hn := hj.2.1.2.1
  have hb0 := hj.2.1.1
  have e7 : zI b0 + 7 = zI (b0 + 7) := zI_add b0 7
  refine en_X12_isUsed ⟨fun _ => k, fun hnn => ?_⟩
  rw [e7, zI_nat (by omega), hj.2.1.2.2.1]
  refine ⟨in_zI (by omega) (by omega), fun _ => k, fun z => ?_⟩
  obtain ⟨q, hq, rfl⟩ := zI_of hnn
  rw [zI_le (by omega) hq] at z
  exact absurd rfl (hr q (by omega))
theorem envR_cs {t : bi_St} {b0 C R p : Nat} {f : Nat → Pol} {S : Sta} {u r c : Nat} {v : Int32} (hj : RC t b0 C R p f S) (hr : r < S.2.2.1) (hc : c < C) (h1 : ∀ c, c < 4 → st_g t 92 c = st_g t 90 (b0 + 8 + 4 * r + c)) (h2 : st_g t 92 4 = zI u) (h3 : st_g t 77 43 = clo S.1 (s1 u)) : envR (st_p t 92 c v) C (en (cs S r c v) u r) := by
  have hC := hj.1.1
  refine ⟨fun q hq => ?_, by rw [g_p_k (by omega)]; exact h2, by rw [g_p_a (by omega)]; exact h3⟩
  show _ = (if r = r then va_up (S.2.2.2 r) c v else S.2.2.2 r) q
  rw [if_pos rfl, va_upe, g_p]
  by_cases hqc : q = c
  · simp [hqc]
  · simp only [hqc, and_false, if_false]
    rw [h1 q (by omega)]; exact hj.2.1.2.2.2.2.2 r q hr hq
theorem ct_isChecked {X : bi_X} {d : Nat} {K : Int32 → bi_St → Prop} {E : Nat → bi_St → Prop} {s : bi_St} {b0 C R p u r c : Nat} {f : Nat → Pol} {S : Sta} {v : Int32} (hj : RC s b0 C R p f S) (hu : u < 6) (hr : r < S.2.2.1) (hc : c < C) (k : ∀ t, fr wF s t → K (b2i (po_let p f (en (cs S r c v) u r) S.2.1 2 true)) t) : cI X (d + 3) 243 [.ref 77, .int (zI b0), .int (zI u), .int (zI r), .int (zI c), .int v] s K E := by
  have hn := hj.2.1.2.1
  have hC := hj.1.1
  have hb0 := hj.2.1.1
  refine en_X12_isChecked (ct_laysUser hj hu (fun t2 ht2 h1 h2 _ => ct_laysRow hb0 (by omega) (fun t3 ht3 h3 h4 h5 => ⟨in_zI (by omega) (by omega), ?_⟩)))
  have hj3 := RC_fr ht3 (RC_fr ht2 hj)
  rw [zI_nat (by omega)]
  have h4f : fr wF t3 (st_p t3 92 c v) := fr.refl.p rfl
  have hj4 := RC_fr h4f hj3
  exact ct_doLetJ (cmd := 2) (how := true) hj4 (envR_cs hj3 hr hc (fun c hc => by rw [h3 c hc, ht3.g (wF_ne (by omega) (by omega) (by omega))]) (by rw [h4]; exact h1) (by rw [h5]; exact h2)) (by omega) (fun t5 ht5 => ⟨b2i_bool _, k t5 (ht2.trans (ht3.trans (h4f.trans (ht5.mono wD_wF))))⟩)
theorem SR_cs {t : bi_St} {C : Nat} {S : Sta} {r c b0 : Nat} {v : Int32} (hC : C ≤ 4) (hs : SR t b0 C S) (hc : c < C) : SR (st_p t 90 (b0 + 8 + 4 * r + c) v) b0 C (cs S r c v) := by
  obtain ⟨h0, h2, h3, h4, h5, h6⟩ := hs
  refine ⟨h0, h2, by rw [g_p_k (by omega)]; exact h3, by rw [g_p_k (by omega)]; exact h4, fun q hq => by rw [g_p_k (by omega)]; exact h5 q hq, fun q z hq hz => ?_⟩
  show _ = (if q = r then va_up (S.2.2.2 r) c v else S.2.2.2 q) z
  rw [g_p]
  by_cases hqr : q = r
  · subst hqr
    rw [if_pos rfl, va_upe]
    by_cases hzc : z = c
    · rw [if_pos ⟨rfl, by rw [hzc]⟩, if_pos hzc]
    · rw [if_neg (fun w => hzc (by have := w.2; omega)), if_neg hzc]; exact h6 q z hq hz
  · rw [if_neg (fun w => hqr (by have := w.2; omega)), if_neg hqr]; exact h6 q z hq hz
theorem z84 {r c k : Nat} : (zI k + (4 : Int32) * zI r) + zI c = zI (k + 4 * r + c) := by
  have e1 : (4 : Int32) * zI r = zI (4 * r) := zI_mul 4 r
  rw [e1, zI_add, zI_add]
theorem ct_isEscape {X : bi_X} {d : Nat} {K : Int32 → bi_St → Prop} {E : Nat → bi_St → Prop} {s : bi_St} {C R p u r c j : Nat} {f : Nat → Pol} {S : Sta} (hj : RC s 0 C R p f S) (hu : u < 6) (hr : r < S.2.2.1) (hc : c < C) (k : ∀ t, fr wT s t → K (b2i (gE p f S u r c j)) t) : cI X (d + 5) 253 [.ref 77, .int (zI u), .int (zI r), .int (zI c), .int (vv j)] s K E := by
  have hn := hj.2.1.2.1
  have hC := hj.1.1
  have e8 : ((8 : Int32) + (4 : Int32) * zI r) + zI c = zI (8 + 4 * r + c) := z84 (k := 8)
  have e80 : ((80 : Int32) + (4 : Int32) * zI r) + zI c = zI (80 + 4 * r + c) := z84 (k := 80)
  refine en_X12_isEscape ?_
  rw [e8, e80, zI_nat (show 8 + 4 * r + c < 2147483648 by omega), zI_nat (show 80 + 4 * r + c < 2147483648 by omega)]
  have hcell : st_g s 90 (8 + 4 * r + c) = S.2.2.2 r c := by have := hj.2.1.2.2.2.2.2 r c hr hc; simpa using this
  rw [hcell]
  have no : ∀ t, fr wT s t → gE p f S u r c j = false → K 0 t := fun t ht h => by have := k t ht; rw [h] at this; exact this
  refine ⟨in_zI (by omega) (by omega), fun h => no s fr.refl (by unfold gE; simp [h]), fun h => ct_isUsed (b0 := 0) (cmd := 2) hj hu hr (by omega) (fun t1 ht1 => ?_)⟩
  rw [b2i_ne0]
  refine ⟨fun h1 => no t1 (ht1.mono wF_wT) (by unfold gE; rw [h1]; simp), fun h1 => ct_isChecked (b0 := 0) (RC_fr ht1 hj) hu hr hc (fun t2 ht2 => ?_)⟩
  have h1 : (reads p f S u r && pUp p f S u r 2) = true := by simpa using h1
  have ht12 : fr wT s t2 := (ht1.trans ht2).mono wF_wT
  rw [b2i_ne0]
  refine ⟨fun h2 => ct_tries (fun t3 ht3 hq => ⟨in_zI (by omega) (by omega), ?_⟩), fun h2 => no t2 ht12 (by unfold gE; rw [Decidable.of_not_not h2]; simp)⟩
  have h2 : po_let p f (en (cs S r c (vv j)) u r) S.2.1 2 true = true := by simpa using h2
  have hj2 := RC_wT ht12 hj
  have ht3' : fr wT s (st_p t3 90 (80 + 4 * r + c) (vv j)) := (ht12.trans (ht3.mono w90_wT)).p (wT_hi (by omega))
  have hj3 := RC_wT ht3' hj
  refine ct_doesRead (b0 := 72) (S := cs S r c (vv j)) ⟨hj3.1, SR_cs (b0 := 72) hC (SR_72 hC hj2.2.1 hq) hc, hj3.2.2.1, hj3.2.2.2⟩ hu hr (fun t4 ht4 => ?_)
  have k := k t4 (ht3'.trans (ht4.mono wF_wT))
  unfold gE at k
  rw [h1, h2] at k
  have h' : decide (S.2.2.2 r c = vv j) = false := by simp [h]
  rw [h'] at k
  simp only [Bool.not_false, Bool.true_and] at k
  rw [b2i_ne0]
  refine ⟨fun h3 => ?_, fun h3 => ?_⟩
  · have h3 : reads p f (cs S r c (vv j)) u r = true := by simpa using h3
    rw [h3] at k; exact k
  · rw [Decidable.of_not_not h3] at k; exact k
theorem WR_wT {s t : bi_St} {m : Nat} {W : Wt} (h : fr wT s t) (hw : WR s m W) : WR t m W := by
  obtain ⟨h1, h2, h3⟩ := hw
  have e : ∀ k, st_g t 106 k = st_g s 106 k := fun k => h.g (wT_ne (by omega) (by omega) (by omega) (Or.inl (by omega)))
  exact ⟨h1, by rw [h.g rfl]; exact h2, fun i hi => by rw [e, e, e]; exact h3 i hi⟩
theorem ct_isSeen {X : bi_X} {d : Nat} {K : Int32 → bi_St → Prop} {E : Nat → bi_St → Prop} {s : bi_St} {b0 C R p m : Nat} {f : Nat → Pol} {S : Sta} {W : Wt} (hj : RC s b0 C R p f S) (hw : WR s m W) (k : ∀ t, fr wF s t → K (b2i (allB (soW p f S W) m)) t) : cI X (d + 4) 258 [.ref 77, .int (zI b0)] s K E := by
  have hm8 := hw.1
  have hb0 := hj.2.1.1
  have hn := hj.2.1.2.1
  have e7 : zI b0 + 7 = zI (b0 + 7) := zI_add b0 7
  have loop : ∀ e n (t : bi_St), e = m - n → n ≤ m → fr wF s t → allB (soW p f S W) n = true → at_X12_isSeen_2 X (d + 4) K E t (zI b0) (zI n) := by
    intro e
    induction e with
    | zero =>
      intro n t he hn ht hall
      have : n = m := by omega
      subst this
      have hwt := WR_wT (ht.mono wF_wT) hw
      have k := k t ht
      rw [hall] at k
      refine go_X12_isSeen_2 ⟨fun _ => k, fun z => absurd ?_ z⟩
      rw [hwt.2.1]; exact (zI_le (by omega) (by omega)).mpr (Nat.le_refl _)
    | succ e ih =>
      intro n t he hn2 ht hall
      have hwt := WR_wT (ht.mono wF_wT) hw
      have hjt := RC_fr ht hj
      obtain ⟨w1, w2, w3, w4, w5⟩ := hwt.2.2 n (by omega)
      have e0 : (3 : Int32) * zI n = zI (3 * n) := zI_mul 3 n
      have e1 : zI (3 * n) + 1 = zI (3 * n + 1) := zI_add1 _
      have e2 : zI (3 * n) + 2 = zI (3 * n + 2) := zI_add (3 * n) 2
      have no : ∀ t, fr wF s t → soW p f S W n = false → K 0 t := fun t ht h => by
        have k := k t ht
        have : allB (soW p f S W) m = false := by
          rw [← Bool.not_eq_true, allB_iff]
          intro z
          have := z n (by omega)
          rw [h] at this; cases this
        rw [this] at k; exact k
      refine go_X12_isSeen_2 ⟨fun z => ?_, fun _ => ?_⟩
      · rw [hwt.2.1, zI_le (by omega) (by omega)] at z; omega
      · rw [e0, e1, e2, e7, zI_nat (show b0 + 7 < 2147483648 by omega), zI_nat (show 3 * n + 1 < 2147483648 by omega), zI_nat (show 3 * n < 2147483648 by omega), zI_nat (show 3 * n + 2 < 2147483648 by omega), w1, w3, hjt.2.1.2.2.1, zI_le (by omega) (by omega)]
        refine ⟨in_zI (by omega) (by omega), in_zI (by omega) (by omega), fun hge => no t ht (by unfold soW; have : ¬ (W n).2.1 < S.2.2.1 := by { omega }; simp [this]), fun hlt => ⟨in_zI (by omega) (by omega), ct_doesRead hjt w2 (by omega) (fun t1 ht1 => ⟨in_zI (by omega) (by omega), ?_⟩)⟩⟩
        have ht1' := ht.trans ht1
        have hw1 := WR_wT (ht1'.mono wF_wT) hw
        rw [(hw1.2.2 n (by omega)).2.2.2.2, zI_add1]
        have hso : soW p f S W n = (reads p f S (W n).1 (W n).2.1 == (W n).2.2) := by
          unfold soW
          have : (W n).2.1 < S.2.2.1 := by omega
          simp [this]
        have yes : soW p f S W n = true → at_X12_isSeen_2 X (d + 4) K E t1 (zI b0) (zI (n + 1)) := fun h => ih (n + 1) t1 (by omega) (by omega) ht1' (by rw [allB, hall, h]; rfl)
        have no1 := no t1 ht1'
        rw [hso] at yes no1
        cases h1 : reads p f S (W n).1 (W n).2.1 <;> cases h2 : (W n).2.2 <;> rw [h1, h2] at yes no1
        · exact ⟨fun _ => ⟨fun _ => yes rfl, fun z => absurd rfl z⟩, fun z => absurd (fun w => absurd w (by decide)) z⟩
        · exact ⟨fun z => absurd rfl z, fun _ => ⟨fun z => absurd z (by decide), fun _ => no1 rfl⟩⟩
        · exact ⟨fun _ => ⟨fun z => absurd z (by decide), fun _ => no1 rfl⟩, fun z => absurd (fun w => absurd w (by decide)) z⟩
        · exact ⟨fun z => absurd rfl z, fun _ => ⟨fun _ => yes rfl, fun z => absurd rfl z⟩⟩
  exact en_X12_isSeen (loop m 0 s (by omega) (by omega) fr.refl rfl)
/-- a guess; where it is one, the second row of the reference is that state -/
theorem ct_isGuess {X : bi_X} {d : Nat} {K : Int32 → bi_St → Prop} {E : Nat → bi_St → Prop} {s : bi_St} {C R p r c j m : Nat} {f : Nat → Pol} {S : Sta} {W : Wt} (hj : RC s 0 C R p f S) (hw : WR s m W) (hr : r < S.2.2.1) (hc : c < C) (k : ∀ t, fr wT s t → (gM p f S m W r c j = true → RC t 72 C R p f (cs S r c (vv j))) → K (b2i (gM p f S m W r c j)) t) : cI X (d + 5) 259 [.ref 77, .int (zI r), .int (zI c), .int (vv j)] s K E := by
  have hn := hj.2.1.2.1
  have hC := hj.1.1
  have e8 : ((8 : Int32) + (4 : Int32) * zI r) + zI c = zI (8 + 4 * r + c) := z84 (k := 8)
  have e80 : ((80 : Int32) + (4 : Int32) * zI r) + zI c = zI (80 + 4 * r + c) := z84 (k := 80)
  refine en_X12_isGuess ?_
  rw [e8, e80, zI_nat (show 8 + 4 * r + c < 2147483648 by omega), zI_nat (show 80 + 4 * r + c < 2147483648 by omega)]
  have hcell : st_g s 90 (8 + 4 * r + c) = S.2.2.2 r c := by have := hj.2.1.2.2.2.2.2 r c hr hc; simpa using this
  rw [hcell]
  refine ⟨in_zI (by omega) (by omega), fun h => ct_tries (fun t3 ht3 hq => ⟨in_zI (by omega) (by omega), ?_⟩), fun h => ?_⟩
  · have ht3' : fr wT s (st_p t3 90 (80 + 4 * r + c) (vv j)) := (ht3.mono w90_wT).p (wT_hi (by omega))
    have hj3 := RC_wT ht3' hj
    have hR : RC (st_p t3 90 (80 + 4 * r + c) (vv j)) 72 C R p f (cs S r c (vv j)) := ⟨hj3.1, SR_cs (b0 := 72) hC (SR_72 hC hj.2.1 hq) hc, hj3.2.2.1, hj3.2.2.2⟩
    refine ct_isSeen (b0 := 72) hR (WR_wT ht3' hw) (fun t4 ht4 => ⟨b2i_bool _, ?_⟩)
    have k := k t4 (ht3'.trans (ht4.mono wF_wT)) (fun _ => RC_fr ht4 hR)
    have h' : decide (S.2.2.2 r c = vv j) = false := by simp [h]
    unfold gM at k
    rw [h', Bool.not_false, Bool.true_and] at k
    exact k
  · have h := Decidable.of_not_not h
    have hg : gM p f S m W r c j = false := by unfold gM; simp [h]
    have k := k s fr.refl (fun z => by rw [hg] at z; cases z)
    rw [hg] at k; exact k
end REFS
