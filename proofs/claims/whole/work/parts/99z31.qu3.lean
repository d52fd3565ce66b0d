/-! ===== query: the reference ===== -/
section QUERY3
theorem swL_mem {L : List Sp} {j : Nat} {x : Sp} (h : x ∈ swL L j) : x ∈ L := by
  unfold swL at h
  cases h1 : L[j]? with
  | none => rw [h1] at h; exact h
  | some p =>
    cases h2 : L[j - 1]? with
    | none => rw [h1, h2] at h; exact h
    | some q =>
      rw [h1, h2] at h
      have h : x ∈ (L.set (j - 1) p).set j q := h
      rcases List.mem_or_eq_of_mem_set h with h | h
      · rcases List.mem_or_eq_of_mem_set h with h | h
        · exact h
        · rw [h]; exact List.mem_of_getElem? h1
      · rw [h]; exact List.mem_of_getElem? h2
theorem srt_mem : ∀ n L x, x ∈ srt n L → x ∈ L := by
  intro n
  induction n with
  | zero => intro L x h; exact h
  | succ n ih =>
    intro L x h
    rw [srt] at h
    cases hj : nx L (L.length - 1) 1 with
    | none => rw [hj] at h; exact h
    | some j =>
      rw [hj] at h
      exact swL_mem (ih (swL L j) x h)
theorem lay0_0 {p : Nat} {f : Nat → Pol} {S : Sta} {g : Nat → Vw} {u : Nat} {tgt : Int32} {D : List (Lp × Bool)} {x : Sp} (h : x ∈ lay0 p f S g u tgt D) (h0 : x.1 = 0) : x.2.2.2.2.1 = tasF (chn g 3 tgt u) u := by
  unfold lay0 at h
  rcases List.mem_cons.mp h with h | h
  · rw [h]
  · rcases List.mem_append.mp h with h | h
    · obtain ⟨e, _, he⟩ := List.mem_map.mp h
      rw [← he] at h0; exact absurd h0 (by show ¬ 1 = 0; omega)
    · obtain ⟨i, hi⟩ := List.mem_iff_getElem?.mp h
      rw [mkDs_get] at hi
      cases hd : D[i]? with
      | none => rw [hd] at hi; cases hi
      | some q =>
        rw [hd] at hi
        have hi : some (mkD u (0 + i) q) = some x := hi
        injection hi with hi
        rw [← hi] at h0; exact absurd h0 (by show ¬ 2 = 0; omega)
section V
variable {X : bi_X} {d : Nat} {s : bi_St} {M : Ms6} {x y z : Int32}
theorem m1_of {y : Int32} (h : ¬ y < -1) (h2 : y < 0) : y = -1 := by
  apply Int32.toInt_inj.mp
  have a1 : ¬ y.toInt < (-1 : Int32).toInt := fun z => h (Int32.lt_iff_toInt_lt.mpr z)
  have a2 : y.toInt < (0 : Int32).toInt := Int32.lt_iff_toInt_lt.mp h2
  have e1 : (-1 : Int32).toInt = -1 := by decide
  have e0 : (0 : Int32).toInt = 0 := by decide
  rw [e1] at a1 ⊢
  rw [e0] at a2
  omega
theorem tg_lt (h : y < -1) : tgO M y = false := tgO_n (fun z => by rw [z] at h; exact absurd h (by decide)) (nIn_neg (Int32.lt_trans h (by decide)))
theorem tg_ge (hv : mv M ≤ 3) (h : zI (mv M) ≤ y) : tgO M y = false := tgO_n (fun z => by
  rw [z] at h
  exact absurd (Int32.lt_of_le_of_lt h (show (-1 : Int32) < 0 by decide)) (zI_nn (by omega))) (nIn_ge (by omega) h)
theorem tg_in (h : ¬ y < -1) (h2 : ¬ zI (mv M) ≤ y) : tgO M y = true := by
  by_cases h0 : y < 0
  · rw [m1_of h h0]; exact tgO_m1
  · exact tgO_y (nIn_mk h0 h2)
theorem roc_88 {t : bi_St} {C : Nat} {x : Int32} {P : Lp} (h : roc t 88 x (some P)) (k : ok_p C P 0) : rco t 88 C x (some P) := by
  obtain ⟨n, h1, h2, h3⟩ := h
  exact ⟨n, h1, h2, h3, k⟩
set_option maxHeartbeats 1000000 in
theorem cR_query (ho : okM M) (hR : RRf s M) (hQ : okQu M x y z) : CtR X (d + 8) 237 [.ref 77, .int x, .int y, .int z] s M (oQuery M x y z) := fun K kT kF => by
  have hR6 : mR M ≤ 6 := ho.1.2.1
  have hC4 : mC M ≤ 4 := ho.1.1.2
  have hv3 : mv M ≤ 3 := ho.1.2.2.2.1.1
  have f0 : fsr s (st_p s 77 0 0) := fsr_0
  have h0 : st_g (st_p s 77 0 0) 77 0 = 0 := g_p_eq _ _ _ _
  have hT := RRf_sr ho hR f0
  refine en_X12_query ?_
  generalize st_p s 77 0 (0 : Int32) = t at f0 h0 hT
  have hm := hT.1.1
  have no : ∀ e c, (c = 1 ∨ c = 2) → oQuery M x y z = .inl (e, c) → at_X12_query_64 X (d + 8) K (fun _ _ => False) (st_p t 77 0 (zI c)) := fun e c hc h => by
    have f1 : fsr s (st_p t 77 0 (zI c)) := f0.p (by omega) (by unfold impR impS; omega)
    exact go_X12_query_64 (kF e c 0 _ h f1.1 (g_p_eq _ _ _ _) (RRf_sr ho hR f1))
  refine ct_isRole h0 hT.2.1.2.2.2.2 (fun hx => ⟨fun z => absurd z (by decide), fun _ => ?_⟩) (fun hx => ⟨fun _ => no 100 1 (Or.inl rfl) (ifF hx), fun z => absurd rfl z⟩)
  obtain ⟨u, hu, e, enx⟩ := nIn_y (n := mR M) (by omega) hx
  rw [show st_g t 77 30 = zI (mv M) from hT.2.1.2.2.1.1]
  refine ⟨fun h => ct_rightN h0 (by decide) ⟨fun _ => no 100 1 (Or.inl rfl) (by unfold oQuery; rw [ifT hx, ifF (tg_lt h)]), fun z => absurd rfl z⟩, fun h => ⟨fun h2 => ct_rightN h0 (by decide) ⟨fun _ => no 100 1 (Or.inl rfl) (by unfold oQuery; rw [ifT hx, ifF (tg_ge hv3 h2)]), fun z => absurd rfl z⟩, fun h2 => ct_rightY h0 ⟨fun z => absurd z (by decide), fun _ => ?_⟩⟩⟩
  have hy : tgO M y = true := tg_in h h2
  rw [hT.1.2.1]
  refine ⟨fun h => ct_rightN h0 (by decide) ⟨fun z => absurd rfl z, fun _ => no 101 2 (Or.inr rfl) (by unfold oQuery; rw [ifT hx, ifT hy, ifF (nIn_neg h)])⟩, fun h => ⟨fun h2 => ct_rightN h0 (by decide) ⟨fun z => absurd rfl z, fun _ => no 101 2 (Or.inr rfl) (by unfold oQuery; rw [ifT hx, ifT hy, ifF (nIn_gt (n := M.1.2) (by omega) (Int32.not_le.mpr h2))])⟩, fun h2 => ct_rightY h0 ⟨fun _ => ?_, fun z => absurd (by decide) z⟩⟩⟩
  have hz : nIn z (M.1.2 + 1) = true := nIn_m hm h (Int32.not_lt.mp h2)
  obtain ⟨N, hN, e3, enz⟩ := nIn_y (by omega) hz
  have hov : ∀ r, cnd M.1.1 N (mC M) (mR M) 5 0 [] = r → oQuery M x y z = queO M u y r := fun r hr => by unfold oQuery; rw [ifT hx, ifT hy, ifT hz, enx, enz, hr]
  rw [g_p_k (show 27 ≠ 14 by omega), show st_g t 77 28 = zI (mC M) from hT.2.1.2.2.2.1, show st_g t 77 27 = zI (mR M) from hT.2.1.2.2.2.2, e3, e]
  refine ct_readsFrom (by omega) (fun i hi => ⟨(hT.1.2.2 i (by omega)).1, by rw [g_p_a (by omega), g_p_a (by omega)]; exact (hT.1.2.2 i (by omega)).2⟩) (fun v fv hB hTk v2 v3 v4 v19 => ?_)
  have g0 : fh (fun c k => c = 77 ∧ 2 ≤ k ∧ k ≤ 19) t v := ((fh.refl.p ⟨rfl, by omega, by omega⟩).p ⟨rfl, by omega, by omega⟩).trans (fv.mono (fun c k hh => ⟨hh.1, by omega, by omega⟩))
  have v14 : st_g v 77 14 = zI (mC M) := by rw [fv.g (by omega), g_p_k (by omega)]; exact g_p_eq _ _ _ _
  have v15 : st_g v 77 15 = zI (mR M) := by rw [fv.g (by omega)]; exact g_p_eq _ _ _ _
  refine ct_condR (s := t) (B := M.1.1) (N := N) (C := mC M) (R := mR M) ⟨hC4, hR6⟩ (fun er w hr fw w0 w2 w4 w79 => ?_) (fun D w hr hD5 fw w0 w2 w4 hDR w48 => ?_) (g0.mono (fun c k hh => by unfold wQf; omega)) (g0.mono (fun c k hh => by unfold wQs; omega)) hB hTk (by rw [g0.g (by omega)]; exact h0) v2 v3 v4 (g0.g (by omega)) v14 v15 v19
  · have g : ∀ c k, ¬ wQf c k → st_g w c k = st_g t c k := fun c k h => fw.g h
    refine kT _ (flM M er) w (hov _ hr) (f0.1.trans ⟨fw.1, fun c k hc => g c k (by unfold wQf; omega), fw.2.1, fw.2.2.2⟩) w0 ?_
    obtain ⟨_, hk, hst, ⟨l1, l2⟩, ⟨i1, i2⟩, h79, hf⟩ := hT
    refine ⟨⟨by show 0 ≤ 700; omega, w2, fun i hi => absurd hi (Nat.not_lt_zero i)⟩, BkR_fr (fun q h1 h2 => g _ _ (by unfold wQf; omega)) (fun c q hc => g _ _ (by unfold wQf; omega)) hk, StR_fr hC4 (g _ _ (by unfold wQf; omega)) (g _ _ (by unfold wQf; omega)) (fun k _ => g _ _ (by unfold wQf; omega)) (fun c k hc => g _ _ (by unfold wQf; omega)) hst, ⟨by rw [g _ _ (by unfold wQf; omega)]; exact l1, opt_mono (fun n hn => PlR_fr (fun c q hc => g _ _ (by unfold wQf; omega)) hn) l2⟩, ⟨by rw [g _ _ (by unfold wQf; omega)]; exact i1, opt_mono (fun x hx => ImR_fr hC4 (fun c q hc => g _ _ (by unfold wQf; omega)) hx) i2⟩, fun i hi => ?_, w4⟩
    show _ = rf0 M i
    unfold rf0
    by_cases ei : i = 0
    · rw [if_pos ei, ei, w79, h79 0 (by omega)]
    · rw [if_neg ei, g _ _ (by unfold wQf; omega)]; exact h79 i hi
  · have hokD := hQ D hx hy hz (by rw [enz]; exact hr)
    have g : ∀ c k, ¬ wQs c k → st_g w c k = st_g t c k := fun c k h => fw.g h
    have hkw : BkR w M.2.1 := BkR_fr (fun q h1 h2 => g _ _ (by unfold wQs; omega)) (fun c q hc => g _ _ (by unfold wQs; omega)) hT.2.1
    have hSw : StR w (mC M) M.2.2.1 := StR_fr hC4 (g _ _ (by unfold wQs; omega)) (g _ _ (by unfold wQs; omega)) (fun k _ => g _ _ (by unfold wQs; omega)) (fun c k hc => g _ _ (by unfold wQs; omega)) hT.2.2.1
    have hcw : RC w 0 (mC M) (mR M) (mp M) (mf M) (mSt M) := ⟨hkw.1, hSw.1, ho.2.1.1.1, hkw.2.2.2.2⟩
    have hDw : DR w (mC M) D := fun i q hq => ⟨roc_88 (hDR i q hq).1 (hokD i q hq).1, (hDR i q hq).2⟩
    have h9 := qL_len (M := M) (u := u) (tgt := y) hD5
    have htk := tok_y ho hy
    have hta : qT M u y < 6 := tasF_lt ho.1.2.2.2.1 3 y u htk (by omega)
    refine ct_laysSteps (d := d + 4) hcw hkw.2.1 ho.1.2.2.2.2.1 ho.1.2.2.2.2.2 (fun i q hq => (hokD i q hq).2) hkw.2.2.1 ho.1.2.2.2.1 hDw hD5 (by omega) htk (fun w2' f2 hP2 h49 h97 => ?_)
    refine ct_plans (d := d + 6) (RS_ok w2' (mC M)) hP2 (show (lay0 (mp M) (mf M) (mSt M) (mw M) u y D).length ≤ 9 by omega) h9.2.2 h49 (fun w3 f3 hP3 => ?_)
    have hP3 : RQ w3 (RS w3 (mC M)) (qL M u y D) := fun i q hq => RS_fr (fun k => f3.g rfl) (fun k => f3.g rfl) (fun k => f3.g rfl) (hP3 i q hq)
    have hc2 : RC w2' 0 (mC M) (mR M) (mp M) (mf M) (mSt M) := RC_W f2 rfl rfl (fun k => wRl_ne (by omega) (by omega) (by omega) (by omega) (by omega) (by omega) (by omega)) (fun k => wRl_ne (by omega) (by omega) (by omega) (by omega) (by omega) (by omega) (by omega)) (fun k _ => wRl_ne (by omega) (by omega) (by omega) (by omega) (by omega) (by omega) (by omega)) hcw
    have hc3 : RC w3 0 (mC M) (mR M) (mp M) (mf M) (mSt M) := RC_W f3 rfl rfl (fun k => rfl) (fun k => rfl) (fun k _ => rfl) hc2
    have w349 : st_g w3 77 49 = zI (qL M u y D).length := by rw [f3.g rfl, h49, h9.2.1]
    refine ct_runs (d := d + 2) (tas := qT M u y) hc3 hP3 h9.1 w349 (by rw [f3.g rfl]; exact h97) hta (fun i q hq h0 => lay0_0 (srt_mem 72 _ q (List.mem_of_getElem? hq)) h0) (fun w4' f4 hZ h970 h971 h974 h975 h976 h977 => ?_)
    -- cells that stay from w on
    have gw : ∀ c k, ¬ (92 ≤ c ∧ c ≤ 97) → c ≠ 101 → c ≠ 102 → ¬ (c = 77 ∧ (k = 43 ∨ k = 44 ∨ k = 45 ∨ k = 46 ∨ k = 47 ∨ k = 49)) → st_g w4' c k = st_g w c k := fun c k h1 h2 h3 h4 => by
      rw [f4.g (by
        cases hv : wRx c k
        · rfl
        · simp only [wRx, wRy, wF, Bool.or_eq_true, Bool.and_eq_true, Nat.beq_eq, Nat.ble_eq] at hv; omega), f3.g (beq_ne (by omega)), f2.g (by
        cases hv : wRl c k
        · rfl
        · simp only [wRl, wF, Bool.or_eq_true, Bool.and_eq_true, Nat.beq_eq, Nat.ble_eq] at hv; omega)]
    have ga : ∀ c k, ¬ (92 ≤ c ∧ c ≤ 97) → c ≠ 101 → c ≠ 102 → ¬ (c = 77 ∧ (k = 43 ∨ k = 44 ∨ k = 45 ∨ k = 46 ∨ k = 47 ∨ k = 49)) → ¬ wQs c k → st_g w4' c k = st_g t c k := fun c k h1 h2 h3 h4 h5 => (gw c k h1 h2 h3 h4).trans (g c k h5)
    refine kT _ (quM M u y D) w4' (hov _ hr) (f0.1.trans ⟨by rw [f4.1, f3.1, f2.1]; exact fw.1, fun c k hc => ga c k (by omega) (by omega) (by omega) (by omega) (by unfold wQs; omega), fun i => by rw [f4.2.1, f3.2.1, f2.2.1]; exact fw.2.1 i, fun k => by rw [f4.2.2.2 112 k (Or.inl rfl), f3.2.2.2 112 k (Or.inl rfl), f2.2.2.2 112 k (Or.inl rfl)]; exact fw.2.2.2 k⟩) (by rw [gw _ _ (by omega) (by omega) (by omega) (by omega)]; exact w0) ?_
    refine ⟨⟨by show 0 ≤ 700; omega, by rw [gw _ _ (by omega) (by omega) (by omega) (by omega)]; exact w2, fun i hi => absurd hi (Nat.not_lt_zero i)⟩, BkR_fr (fun q h1 h2 => gw _ _ (by omega) (by omega) (by omega) (by omega)) (fun c q hc => gw _ _ (by omega) (by omega) (by omega) (by omega)) hkw, StR_fr hC4 (gw _ _ (by omega) (by omega) (by omega) (by omega)) (gw _ _ (by omega) (by omega) (by omega) (by omega)) (fun k _ => gw _ _ (by omega) (by omega) (by omega) (by omega)) (fun c k hc => gw _ _ (by omega) (by omega) (by omega) (by omega)) hSw, ⟨by rw [gw _ _ (by omega) (by omega) (by omega) (by omega)]; exact w48, ⟨⟨by rw [f4.g rfl]; exact w349, h970, h971, hZ.2.1, hZ.2.2.1, h974, h975, h976, h977⟩, fun i q hq => ?_⟩⟩, ⟨by rw [ga _ _ (by omega) (by omega) (by omega) (by omega) (by unfold wQs; omega)]; exact hT.2.2.2.2.1.1, opt_mono (fun x hx => ImR_fr hC4 (fun c k hc => ga _ _ (by omega) (by omega) (by omega) (by omega) (by unfold wQs; omega)) hx) hT.2.2.2.2.1.2⟩, fun i hi => by rw [ga _ _ (by omega) (by omega) (by omega) (by omega) (by unfold wQs; omega)]; exact hT.2.2.2.2.2.1 i hi, by rw [gw _ _ (by omega) (by omega) (by omega) (by omega)]; exact w4⟩
    have hq : (qL M u y D)[i]? = some q := hq
    have hi := (List.getElem?_eq_some_iff.mp hq).1
    have hs := hP3 i q hq
    have g94 : ∀ k, st_g w4' 94 k = st_g w3 94 k := fun k => f4.g rfl
    have hz := hZ.1 i hi
    refine ⟨?_, ?_, ?_, ?_, hz.1, hz.2⟩
    · rw [g94]; exact hs.2.2.2.1
    · rw [g94]; exact hs.2.2.2.2.1
    · rw [g94]; exact hs.2.2.2.2.2.1
    · rw [g94]; exact hs.2.2.2.2.2.2.1
end V
end QUERY3
