/-! ===== the class's writes ===== -/
section CWR
def nmb (x : Int32) : Bool := decide (¬ x < -99) && decide (¬ 99 < x)
theorem ct_isNumber {X : bi_X} {d : Nat} {K : Int32 → bi_St → Prop} {E : Nat → bi_St → Prop} {s : bi_St} {x : Int32} (k : K (b2i (nmb x)) s) : cI X d 115 [.int x] s K E := by
  unfold nmb at k
  refine en_X10_isNumber ⟨fun h => ?_, fun h => ⟨fun h2 => ?_, fun h2 => ?_⟩⟩
  · rw [decide_eq_false (fun z => z h)] at k; exact k
  · rw [decide_eq_true h, decide_eq_false (fun z => z h2)] at k; exact k
  · rw [decide_eq_true h, decide_eq_true h2] at k; exact k
def wY (a c k : Nat) : Bool := wA c k || wW a c k
theorem wA_wY (a c k : Nat) (h : wA c k = true) : wY a c k = true := by unfold wY; rw [h]; rfl
theorem wW_wY (a c k : Nat) (h : wW a c k = true) : wY a c k = true := by unfold wY; rw [h]; simp
theorem wY_ne {a c k : Nat} (h1 : c ≠ 60) (h2 : c ≠ 59) (h3 : c ≠ 57) (h4 : c ≠ a) (h5 : c ≠ a + 1) (h6 : c ≠ a + 2) (h7 : c ≠ a + 3) : wY a c k = false := by
  unfold wY
  rw [wA_ne h1 h2 h3, wW_ne h4 h5 h6 h7]; rfl
/-- the judge sits over the new state, if what roles were given is as before -/
theorem JC_wr {s t : bi_St} {b a C R p : Nat} {f : Nat → Pol} {S S' : Sta} (h : fr (wY a) s t) (hj : JC s b a C R p f S) (hS : SC t a C S') (hG : S'.1 = S.1) : JC t b a C R p f S' := by
  obtain ⟨h1, h2, h3, h4, h5, h6, h7⟩ := hj
  have hb : b ≤ 19 := by rcases h1.1 with z | z <;> omega
  have ha : 31 ≤ a ∧ a ≤ 51 := by rcases h4.1 with z | z | z | z <;> omega
  exact ⟨BC_fr (fun c k x y => h.g (wY_ne (by omega) (by omega) (by omega) (by omega) (by omega) (by omega) (by omega))) h1, by rw [h.gp]; exact h2, by rw [h.gp]; exact h3, hS, by rw [h.g (wY_ne (by omega) (by omega) (by omega) (by omega) (by omega) (by omega) (by omega))]; exact h5, h6, fun u hu => by rw [hG, h.g (wY_ne (by omega) (by omega) (by omega) (by omega) (by omega) (by omega) (by omega))]; exact h7 u hu⟩
theorem HA_wA {s t : bi_St} {a C m : Nat} {S : Sta} {H : List Sta} (h : fr wA s t) (hh : HA s a C m S H) : HA t a C m S H := by
  obtain ⟨h1, h2, h3, h4, h5⟩ := hh
  have ha : 31 ≤ a ∧ a ≤ 51 := by rcases h4.1 with z | z | z | z <;> omega
  exact ⟨h1, h2, by rw [h.g (wA_ne (by omega) (by omega) (by omega))]; exact h3, SC_fr (fun c k _ _ => h.g (wA_ne (by omega) (by omega) (by omega))) h4, AC_congr h1 _ _ _ (fun i j _ _ => by unfold ae; rw [h.g (wA_ne (by omega) (by omega) (by omega))]) h5⟩
theorem ct_canReach {X : bi_X} {d : Nat} {K : Int32 → bi_St → Prop} {E : Nat → bi_St → Prop} {s : bi_St} {b a C R p u r cmd : Nat} {f : Nat → Pol} {S : Sta} (hj : JC s b a C R p f S) (hu : u < 6) (hr : r < S.2.2.1) (hcmd : cmd ≤ 4)
    (k : ∀ t, fr wA s t → (∀ c, c < C → st_g t 59 c = S.2.2.2 r c) → st_g t 57 5 = zI u → st_g t 57 6 = clo S.1 (s1 u) → K (b2i (reads p f S u r && pUp p f S u r cmd)) t) : cI X (d + 4) 119 [.ref 61, .int (zI u), .int (zI r), .int (zI cmd)] s K E := by
  have hS := hj.2.2.2.1.1
  have hC := hj.1.2.1
  have hn16 := hj.2.2.2.1.2.1
  have ha1 : a + 1 ≠ 59 ∧ a + 1 ≠ 57 ∧ a + 1 ≠ 60 := by rcases hS with z | z | z | z <;> omega
  refine en_X10_canReach ⟨fun z => absurd z (zI_nn (by omega)), fun _ => ⟨by rw [hj.2.2.1]; exact hS, fun _ => ?_, fun z => ?_⟩⟩
  · refine ct_become hu (fun t1 ht1 h5 h6 _ => ?_)
    have hj1 := JC_fr ht1 hj
    refine ct_take hj1.2.2.1 hS (by omega) (fun t2 ht2 hl h57 => ?_)
    have hj2 := JC_fr ht2 hj1
    have h5' : st_g t2 57 5 = zI u := by rw [h57]; exact h5
    have h6' : st_g t2 57 6 = clo S.1 (s1 u) := by rw [h57, h6]; exact hj.2.2.2.2.2.2 u hu
    have hl' : ∀ c, c < C → st_g t2 59 c = S.2.2.2 r c := fun c hc => by rw [hl c (by omega)]; exact hj1.2.2.2.1.2.2.2.2.2 r c hr hc
    have he : envC t2 C (en S u r) := ⟨hl', h5', h6'⟩
    refine ct_allowsJ (cmd := 0) (how := false) hj2 he (by omega) (fun t3 ht3 => ?_)
    have hj3 := JC_fr (ht3.mono wH_wA) hj2
    have f3 : fr wA s t3 := ht1.trans (ht2.trans (ht3.mono wH_wA))
    have k3 := k t3 f3 (fun c hc => by rw [ht3.g (wH_ne (by omega) (by omega))]; exact hl' c hc) (by rw [ht3.g rfl]; exact h5') (by rw [ht3.g rfl]; exact h6')
    have e1 : po_let p f (en S u r) S.2.1 0 false = reads p f S u r := rfl
    rw [e1, b2i_ne0]
    refine ⟨fun h => by rw [h] at k3; exact k3, fun h => ct_allowsJ (cmd := cmd) (how := false) hj3 (envC_fr ht3 he) hcmd (fun t4 ht4 => ?_)⟩
    have h : reads p f S u r = true := by simpa using h
    have h34 := ht3.trans ht4
    have k4 := k t4 (ht1.trans (ht2.trans (h34.mono wH_wA))) (fun c hc => by rw [h34.g (wH_ne (by omega) (by omega))]; exact hl' c hc) (by rw [h34.g rfl]; exact h5') (by rw [h34.g rfl]; exact h6')
    rw [h, Bool.true_and] at k4
    have e2 : po_let p f (en S u r) S.2.1 cmd false = pUp p f S u r cmd := rfl
    rw [e2, b2i_ne0]
    refine ⟨fun h => by rw [h] at k4; exact k4, fun h => ?_⟩
    have h : pUp p f S u r cmd = true := by simpa using h
    rw [h] at k4; exact k4
  · rw [hj.2.2.1, hj.2.2.2.1.2.2.1] at z; exact absurd ((zI_lt (by omega) (by omega)).mpr hr) z
theorem ct_canReach_no {X : bi_X} {d : Nat} {K : Int32 → bi_St → Prop} {E : Nat → bi_St → Prop} {s : bi_St} {b a C R p : Nat} {f : Nat → Pol} {S : Sta} {u r cmd : Int32} (hj : JC s b a C R p f S) (hr : ∀ q, q < S.2.2.1 → r ≠ zI q) (k : K 0 s) : cI X (d + 1) 119 [.ref 61, .int u, .int r, .int cmd] s K E := by
  have hS := hj.2.2.2.1.1
  have hn16 := hj.2.2.2.1.2.1
  refine en_X10_canReach ⟨fun _ => k, fun hnn => ⟨by rw [hj.2.2.1]; exact hS, fun z => ?_, fun _ => k⟩⟩
  rw [hj.2.2.1, hj.2.2.2.1.2.2.1] at z
  obtain ⟨q, hq, rfl⟩ := zI_of hnn
  rw [zI_lt hq (by omega)] at z
  exact absurd rfl (hr q z)
theorem ct_putLine {X : bi_X} {d : Nat} {K : Int32 → bi_St → Prop} {E : Nat → bi_St → Prop} {s : bi_St} {b a C R p u m : Nat} {f : Nat → Pol} {S : Sta} {H : List Sta} {l : Nat → Int32} (hj : JC s b a C R p f S) (hh : HA s a C m S H) (hcol : st_g s b 0 = zI C) (hu : u < 6) (hl : ∀ c, c < C → st_g s 59 c = l c)
    (k0 : ∀ t, fr wA s t → (S.2.2.1 = 16 ∨ allB (fun c => nmb (l c)) C = false ∨ insOK p f S u l = false) → K 0 t)
    (k1 : ∀ t, fr (wY a) s t → S.2.2.1 < 16 → allB (fun c => nmb (l c)) C = true → insOK p f S u l = true → JC t b a C R p f (insS S l) → HA t a C (m39 m + 1) (insS S l) (S :: h39 m H) → K 1 t) : cI X (d + 4) 116 [.ref 61, .int (zI u)] s K E := by
  have hS := hj.2.2.2.1.1
  have hC := hj.1.2.1
  have hn16 := hj.2.2.2.1.2.1
  have hb : b ≤ 19 := by rcases hj.1.1 with z | z <;> omega
  have ha : 31 ≤ a ∧ a ≤ 51 := by rcases hS with z | z | z | z <;> omega
  have loop : S.2.2.1 < 16 → ∀ e n (t : bi_St), e = 4 - n → n ≤ 4 → fr wA s t → (∀ c, c < C → st_g t 59 c = l c) → (∀ c, c < n → c < C → nmb (l c) = true) → at_X10_putLine_21 X (d + 4) K E t (zI u) (zI n) a := by
    intro hlt e
    induction e with
    | zero =>
      intro n t he hn ht hlt2 hnm
      have : n = 4 := by omega
      subst this
      have hall : allB (fun c => nmb (l c)) C = true := allB_iff.mpr (fun c hc => hnm c (by omega) hc)
      refine go_X10_putLine_21 hS ⟨fun _ => ?_, fun z => absurd (by decide) z⟩
      refine ct_become hu (fun t1 ht1 h5 h6 h59 => ?_)
      have hjt := JC_fr ht hj
      have hj1 := JC_fr ht1 hjt
      refine ct_allowsJ (cmd := 1) (how := true) (e := (l, zI u, clo S.1 (s1 u))) hj1 ⟨fun c hc => by rw [h59]; exact hlt2 c hc, h5, by rw [h6]; exact hjt.2.2.2.2.2.2 u hu⟩ (by omega) (fun t2 ht2 => ?_)
      have f2 : fr wA s t2 := ht.trans (ht1.trans (ht2.mono wH_wA))
      rw [b2i_ne0]
      refine ⟨fun h => ct_noteInsert (l := l) (HA_wA f2 hh) hlt (fun c hc => by rw [ht2.g (wH_ne (by omega) (by omega)), h59]; exact hlt2 c hc) (fun t3 ht3 hh3 => ?_), fun h => k0 t2 f2 (Or.inr (Or.inr (Decidable.of_not_not h)))⟩
      have f3 : fr (wY a) s t3 := (f2.mono (wA_wY a)).trans (ht3.mono (wW_wY a))
      exact k1 t3 f3 hlt hall (by unfold insOK; simpa using h) (JC_wr f3 hj hh3.2.2.2.1 rfl) hh3
    | succ e ih =>
      intro n t he hn ht hlt2 hnm
      have hjt := JC_fr ht hj
      have hct : st_g t b 0 = zI C := by rw [ht.g (wA_ne (by omega) (by omega) (by omega))]; exact hcol
      refine go_X10_putLine_21 hS ⟨fun z => ?_, fun _ => ⟨by rw [hjt.2.1]; exact hjt.1.1, ?_⟩⟩
      · have := (zI_le (a := 4) (by omega) (by omega)).mp z; omega
      · rw [hjt.2.1, hct, zI_lt (by omega) (by omega), zI_nat (by omega), zI_add1]
        refine ⟨fun hnC => ⟨in_zI (by omega) (by omega), ?_⟩, fun hnC => ⟨in_zI (by omega) (by omega), in_zI (by omega) (by omega), ?_⟩⟩
        · rw [hlt2 n hnC]
          refine ct_isNumber ?_
          rw [b2i_ne0]
          refine ⟨fun h => ih (n + 1) t (by omega) (by omega) ht hlt2 (fun c hc hcC => ?_), fun h => k0 t ht (Or.inr (Or.inl ?_))⟩
          · by_cases hcn : c = n
            · subst hcn; simpa using h
            · exact hnm c (by omega) hcC
          · have h := Decidable.of_not_not h
            rw [← Bool.not_eq_true, allB_iff]
            intro z
            have := z n hnC
            rw [h] at this; cases this
        · rw [g_p_eq]
          refine ct_isNumber ?_
          have e0 : nmb 0 = true := by decide
          rw [e0]
          refine ⟨fun _ => ih (n + 1) _ (by omega) (by omega) (ht.p rfl) (fun c hc => by rw [g_p_k (by omega)]; exact hlt2 c hc) (fun c hc hcC => hnm c (by omega) hcC), fun z => absurd (by decide) z⟩
  refine en_X10_putLine ⟨by rw [hj.2.2.1]; exact hS, fun z => ?_, fun z => ?_⟩
  · rw [hj.2.2.1, hj.2.2.2.1.2.2.1] at z
    have hlt : S.2.2.1 < 16 := (zI_lt (b := 16) (by omega) (by omega)).mp z
    rw [hj.2.2.1]
    exact loop hlt 4 0 s (by omega) (by omega) fr.refl hl (fun c hc => by omega)
  · rw [hj.2.2.1, hj.2.2.2.1.2.2.1] at z
    have : ¬ S.2.2.1 < 16 := fun w => z ((zI_lt (b := 16) (by omega) (by omega)).mpr w)
    exact k0 s fr.refl (Or.inl (by omega))
/-- an update of a cell that there is -/
theorem ct_change {X : bi_X} {d : Nat} {K : Int32 → bi_St → Prop} {E : Nat → bi_St → Prop} {s : bi_St} {b a C R p u r c m : Nat} {f : Nat → Pol} {S : Sta} {H : List Sta} {v : Int32} (hj : JC s b a C R p f S) (hh : HA s a C m S H) (hu : u < 6) (hr : r < S.2.2.1) (hc : c < C) (hv : nmb v = true)
    (k0 : ∀ t, fr wA s t → (reads p f S u r && pUp p f S u r 2) = false → K 0 t)
    (kn : ∀ t, fr wA s t → (reads p f S u r && pUp p f S u r 2) = true → po_let p f (en (cs S r c v) u r) S.2.1 2 true = false → K (-1) t)
    (k1 : ∀ t, fr (wY a) s t → (reads p f S u r && pUp p f S u r 2) = true → po_let p f (en (cs S r c v) u r) S.2.1 2 true = true → JC t b a C R p f (cs S r c v) → HA t a C (m39 m + 1) (cs S r c v) (S :: h39 m H) → K 1 t) : cI X (d + 5) 117 [.ref 61, .int (zI u), .int (zI r), .int (zI c), .int v] s K E := by
  have hC := hj.1.2.1
  have hS := hj.2.2.2.1.1
  refine en_X10_change (ct_isNumber ?_)
  rw [hv]
  refine ⟨fun _ => ct_canReach (cmd := 2) hj hu hr (by omega) (fun t1 ht1 hl h5 h6 => ?_), fun z => absurd (by decide) z⟩
  rw [b2i_ne0]
  refine ⟨fun h => k0 t1 ht1 h, fun h => ⟨fun z => absurd z (zI_nn (by omega)), fun _ => ⟨fun _ => ⟨in_zI (by omega) (by omega), ?_⟩, fun z => ?_⟩⟩⟩
  · have h : (reads p f S u r && pUp p f S u r 2) = true := by simpa using h
    rw [zI_nat (by omega)]
    have f2 : fr wA s (st_p t1 59 c v) := ht1.p rfl
    have hj2 := JC_fr f2 hj
    have hln : lnC (st_p t1 59 c v) C S r c v := fun q hq => by
      rw [va_upe, g_p]
      by_cases hqc : q = c
      · simp [hqc]
      · simp [hqc]; exact hl q hq
    refine ct_allowsJ (cmd := 2) (how := true) hj2 (envC_cs hln (by rw [g_p_a (by omega)]; exact h5) (by rw [g_p_a (by omega)]; exact h6)) (by omega) (fun t3 ht3 => ?_)
    have f3 : fr wA s t3 := f2.trans (ht3.mono wH_wA)
    have hj3 := JC_fr f3 hj
    rw [b2i_ne0]
    refine ⟨fun h2 => ⟨by rw [hj3.2.2.1]; exact hS, ?_⟩, fun h2 => kn t3 f3 h (Decidable.of_not_not h2)⟩
    rw [hj3.2.2.1]
    refine ct_noteUpdate (HA_wA f3 hh) hr hc (fun t4 ht4 hh4 => ?_)
    have f4 : fr (wY a) s t4 := (f3.mono (wA_wY a)).trans (ht4.mono (wW_wY a))
    exact k1 t4 f4 h (by simpa using h2) (JC_wr f4 hj hh4.2.2.2.1 rfl) hh4
  · exact absurd ((zI_lt (b := 4) (by omega) (by omega)).mpr (by omega)) z
theorem ct_change_no {X : bi_X} {d : Nat} {K : Int32 → bi_St → Prop} {E : Nat → bi_St → Prop} {s : bi_St} {b a C R p : Nat} {f : Nat → Pol} {S : Sta} {u r c v : Int32} (hj : JC s b a C R p f S)
    (k : (nmb v = false → K (-1) s) ∧ (nmb v = true → (∀ q, q < S.2.2.1 → r ≠ zI q) ∧ K 0 s)) : cI X (d + 2) 117 [.ref 61, .int u, .int r, .int c, .int v] s K E := by
  refine en_X10_change (ct_isNumber ?_)
  rw [b2i_ne0]
  refine ⟨fun h => ?_, fun h => k.1 (Decidable.of_not_not h)⟩
  have h : nmb v = true := by simpa using h
  obtain ⟨k1, k2⟩ := k.2 h
  exact ct_canReach_no hj k1 ⟨fun _ => k2, fun z => absurd rfl z⟩
theorem ct_drop {X : bi_X} {d : Nat} {K : Int32 → bi_St → Prop} {E : Nat → bi_St → Prop} {s : bi_St} {b a C R p u r m : Nat} {f : Nat → Pol} {S : Sta} {H : List Sta} (hj : JC s b a C R p f S) (hh : HA s a C m S H) (hu : u < 6) (hr : r < S.2.2.1)
    (k0 : ∀ t, fr wA s t → (reads p f S u r && pUp p f S u r 3) = false → K 0 t)
    (k1 : ∀ t, fr (wY a) s t → (reads p f S u r && pUp p f S u r 3) = true → JC t b a C R p f (delS S r) → HA t a C (m39 m + 1) (delS S r) (S :: h39 m H) → K 1 t) : cI X (d + 5) 118 [.ref 61, .int (zI u), .int (zI r)] s K E := by
  have hS := hj.2.2.2.1.1
  refine en_X10_drop (ct_canReach (cmd := 3) hj hu hr (by omega) (fun t1 ht1 _ _ _ => ?_))
  have hj1 := JC_fr ht1 hj
  rw [b2i_ne0]
  refine ⟨fun h => ⟨by rw [hj1.2.2.1]; exact hS, ?_⟩, fun h => k0 t1 ht1 (Decidable.of_not_not h)⟩
  rw [hj1.2.2.1]
  refine ct_noteDelete (HA_wA ht1 hh) hr (fun t4 ht4 hh4 => ?_)
  have f4 : fr (wY a) s t4 := (ht1.mono (wA_wY a)).trans (ht4.mono (wW_wY a))
  exact k1 t4 f4 (by simpa using h) (JC_wr f4 hj hh4.2.2.2.1 rfl) hh4
theorem ct_drop_no {X : bi_X} {d : Nat} {K : Int32 → bi_St → Prop} {E : Nat → bi_St → Prop} {s : bi_St} {b a C R p : Nat} {f : Nat → Pol} {S : Sta} {u r : Int32} (hj : JC s b a C R p f S) (hr : ∀ q, q < S.2.2.1 → r ≠ zI q) (k : K 0 s) : cI X (d + 2) 118 [.ref 61, .int u, .int r] s K E := by
  exact en_X10_drop (ct_canReach_no hj hr ⟨fun z => absurd rfl z, fun _ => k⟩)
end CWR
