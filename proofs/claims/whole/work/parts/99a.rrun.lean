/-! ===== a query's run, of the reference ===== -/
section RRUN
theorem RC_W {W : Nat → Nat → Bool} {s t : bi_St} {C R p : Nat} {f : Nat → Pol} {S : Sta} (h : fr W s t) (h27 : W 77 27 = false) (h29 : W 77 29 = false) (h83 : ∀ k, W 83 k = false) (h87 : ∀ k, W 87 k = false) (h90 : ∀ k, k < 72 → W 90 k = false) (hj : RC s 0 C R p f S) : RC t 0 C R p f S :=
  ⟨BR_fr (h.g h29) (fun k => h.g (h83 k)) (fun k => h.g (h87 k)) hj.1, SR_fr (fun k _ hk => h.g (h90 k (by omega))) hj.1.1 hj.2.1, hj.2.2.1, by rw [h.g h27]; exact hj.2.2.2⟩
def wRy (a k : Nat) : Bool := wF a k || (Nat.beq a 77 && (Nat.ble 44 k && Nat.ble k 45))
theorem wF_wRy (a k : Nat) (h : wF a k = true) : wRy a k = true := by unfold wRy; rw [h]; rfl
theorem wRy_ne {a k : Nat} (h1 : a ≠ 93) (h2 : a ≠ 92) (h3 : a ≠ 77) : wRy a k = false := by unfold wRy; rw [wF_ne h1 h2 h3, beq_ne h3]; rfl
theorem wE_wRy (a k : Nat) (h : wE a k = true) : wRy a k = true := by
  unfold wE at h
  rw [Bool.or_eq_true, Bool.and_eq_true, Bool.and_eq_true] at h
  rcases h with h | ⟨h1, h2, h3⟩
  · have := Nat.eq_of_beq_eq_true h; subst this; rfl
  · have := Nat.eq_of_beq_eq_true h1; subst this
    have h2 := Nat.le_of_ble_eq_true h2
    have h3 := Nat.le_of_ble_eq_true h3
    have : k = 44 ∨ k = 45 ∨ k = 46 := by omega
    rcases this with rfl | rfl | rfl <;> rfl
/-- what lies of a step -/
def RS (s : bi_St) (C : Nat) (v : Nat → Int32) (x : Sp) : Prop := x.1 ≤ 2 ∧ x.2.2.1 < 2147483648 ∧ x.2.2.2.2.1 < 6 ∧ v 0 = zI x.1 ∧ v 1 = x.2.1 ∧ v 2 = zI x.2.2.1 ∧ v 3 = b2i x.2.2.2.1 ∧ v 4 = zI x.2.2.2.2.1 ∧ (x.1 = 1 → ∃ w, w < 3 ∧ v 1 = zI w ∧ st_g s 85 (6 * w + 1) = b2i x.2.2.2.2.2.2) ∧ (x.1 ≠ 1 → x.2.2.2.2.2.2 = false) ∧ (x.1 = 1 → ∃ P, x.2.2.2.2.2.1 = some P ∧ rco s 87 C (v 5) x.2.2.2.2.2.1) ∧ (x.1 = 2 → ∃ P, x.2.2.2.2.2.1 = some P ∧ rco s 88 C (v 5) x.2.2.2.2.2.1)
theorem RS_ok (s : bi_St) (C : Nat) : Rok s (RS s C) := by
  refine ⟨fun v w x h hv => ?_, fun v x h => ⟨h.2.1, h.1, h.2.2.2.1, h.2.2.2.2.2.1, h.2.2.2.2.2.2.1, h.2.2.2.2.2.2.2.2.1, h.2.2.2.2.2.2.2.2.2.1⟩⟩
  obtain ⟨c1, c2, c3, c4, c5, c6, c7, c8, c9, c10, c11, c12⟩ := hv
  refine ⟨c1, c2, c3, by rw [← h 0 (by omega)]; exact c4, by rw [← h 1 (by omega)]; exact c5, by rw [← h 2 (by omega)]; exact c6, by rw [← h 3 (by omega)]; exact c7, by rw [← h 4 (by omega)]; exact c8, ?_, c10, ?_, ?_⟩
  · rw [← h 1 (by omega)]; exact c9
  · rw [← h 5 (by omega)]; exact c11
  · rw [← h 5 (by omega)]; exact c12
theorem ct_doesPass {X : bi_X} {d : Nat} {K : Int32 → bi_St → Prop} {E : Nat → bi_St → Prop} {s : bi_St} {C R p i r tas : Nat} {f : Nat → Pol} {S : Sta} {x : Sp} {z : Zq} (hj : RC s 0 C R p f S) (hi : i < 9) (hx : RS s C (fun k => st_g s 94 (6 * i + k)) x) (hr : r < S.2.2.1) (h0 : x.1 = 0 → x.2.2.2.2.1 = tas)
    (h44 : st_g s 77 44 = z.2.2.2.2.1) (h45 : st_g s 77 45 = z.2.2.2.2.2)
    (k : ∀ t, fr wRy s t → st_g t 77 46 = b2i (!(decide (x.1 = 0)) && (evo (en S x.2.2.2.2.1 r) x.2.2.2.2.2.1).2.2.1) → st_g t 77 44 = (q1 S (reads p f S tas r) r i x z).2.2.2.2.2.1 → st_g t 77 45 = (q1 S (reads p f S tas r) r i x z).2.2.2.2.2.2 → K (b2i (q1 S (reads p f S tas r) r i x z).1) t) : cI X (d + 4) 235 [.ref 77, .int (zI i), .int (zI r)] s K E := by
  obtain ⟨c1, c2, c3, c4, c5, c6, c7, c8, c9, c10, c11, c12⟩ := hx
  have hn := hj.2.1.2.1
  have hC := hj.1.1
  have c4 : st_g s 94 (6 * i) = zI x.1 := c4
  have e0 : (6 : Int32) * zI i = zI (6 * i) := zI_mul 6 i
  have e4 : zI (6 * i) + 4 = zI (6 * i + 4) := zI_add _ 4
  have e5 : zI (6 * i) + 5 = zI (6 * i + 5) := zI_add _ 5
  have z0' : (zI x.1 = 0) ↔ x.1 = 0 := zI_eq (b := 0) (by omega) (by omega)
  have z1' : (zI x.1 = 1) ↔ x.1 = 1 := zI_eq (b := 1) (by omega) (by omega)
  refine en_X12_doesPass ?_
  rw [e0, e4, e5, zI_nat (a := 6 * i) (by omega), zI_nat (a := 6 * i + 4) (by omega), zI_nat (a := 6 * i + 5) (by omega), c4, z0']
  refine ⟨in_zI (by omega) (by omega), in_zI (by omega) (by omega), fun hk => ?_, fun hk => ?_⟩
  · have hq1 : q1 S (reads p f S tas r) r i x z = (ev_ok (evo (en S x.2.2.2.2.1 r) x.2.2.2.2.2.1), q1e (evo (en S x.2.2.2.2.1 r) x.2.2.2.2.2.1) r i (q1z (reads p f S tas r) i z)) := by unfold q1; rw [if_neg hk]
    rw [hq1, decide_eq_false hk] at k
    have c8 : st_g s 94 (6 * i + 4) = zI x.2.2.2.2.1 := c8
    rw [c8]
    refine ct_laysUser (b0 := 0) hj c3 (fun t ht t4 t43 _ => ct_laysRow (b0 := 0) (by omega) (by omega) (fun t2 ht2 u92 u4 u77 => ?_))
    have hs2 : fr wF s t2 := ht.trans ht2
    have hj2 := RC_fr hs2 hj
    have env : envR t2 C (en S x.2.2.2.2.1 r) := RC_env hj2 hr (fun c hc => by rw [u92 c hc, ht2.g (wF_ne (by omega) (by omega) (by omega))]) (by rw [u4]; exact t4) (by rw [u77]; exact t43)
    have g94 : ∀ q, st_g (st_p t2 77 47 (1 : Int32)) 94 q = st_g s 94 q := fun q => by rw [g_p_a (by omega), hs2.g (wF_ne (by omega) (by omega) (by omega))]
    rw [g94, g94, c4, z1']
    have fin : ∀ (bb : Nat), (bb = 87 ∨ bb = 88) → ∀ P, x.2.2.2.2.2.1 = some P → rco s bb C (st_g s 94 (6 * i + 5)) x.2.2.2.2.2.1 → cI X (d + 3) 210 [.ref 77, .ref bb, .int (st_g s 94 (6 * i + 5))] (st_p t2 77 47 (1 : Int32)) (fun r3 s3 => bi_bool r3 = true ∧ K r3 s3) (fun _ _ => False) := by
      intro bb hbb P hP hrc
      rw [hP] at hrc k
      obtain ⟨n, hn1, hn2, hn3, hn4⟩ := hrc
      rw [hn1]
      have hsb : ∀ q, st_g (st_p t2 77 47 (1 : Int32)) bb q = st_g s bb q := fun q => by
        rcases hbb with rfl | rfl <;> rw [g_p_a (by omega), hs2.g (wF_ne (by omega) (by omega) (by omega))]
      refine ct_doesHold (e := en S x.2.2.2.2.1 r) (tl := true) hbb hC (rc_fr hsb _ _ hn3) hn4 (by rw [g_p_eq]; rfl) (fun c hc => by rw [g_p_a (by omega)]; exact env.1 c hc) (by rw [g_p_a (by omega)]; exact env.2.1) (by rw [g_p_k (by omega)]; exact env.2.2) (fun w hw w46 w44 w45 => ⟨b2i_bool _, ?_⟩)
      have g44 : st_g (st_p t2 77 47 (1 : Int32)) 77 44 = z.2.2.2.2.1 := by rw [g_p_k (by omega), hs2.g rfl]; exact h44
      have g45 : st_g (st_p t2 77 47 (1 : Int32)) 77 45 = z.2.2.2.2.2 := by rw [g_p_k (by omega), hs2.g rfl]; exact h45
      refine k w (((hs2.mono wF_wRy).p rfl).trans (hw.mono wE_wRy)) ?_ ?_ ?_
      · rw [w46]; simp [evo]
      · rw [w44, g44]; rfl
      · rw [w45, g45]; rfl
    refine ⟨in_zI (by omega) (by omega), fun h1 => ⟨in_zI (by omega) (by omega), ?_⟩, fun h1 => ⟨in_zI (by omega) (by omega), ?_⟩⟩
    · obtain ⟨P, hP, hrc⟩ := c12 (by omega)
      exact fin 88 (Or.inr rfl) P hP hrc
    · obtain ⟨P, hP, hrc⟩ := c11 (Decidable.of_not_not h1)
      exact fin 87 (Or.inl rfl) P hP hrc
  · have hk := Decidable.of_not_not hk
    have hq1 : q1 S (reads p f S tas r) r i x z = (reads p f S tas r, q1z (reads p f S tas r) i z) := by unfold q1; rw [if_pos hk]
    rw [hq1, decide_eq_true hk] at k
    have c8 : st_g s 94 (6 * i + 4) = zI tas := by rw [← h0 hk]; exact c8
    rw [c8]
    refine ct_doesRead (b0 := 0) hj (by rw [← h0 hk]; exact c3) hr (fun t ht => ⟨b2i_bool _, k _ ((ht.mono wF_wRy).p rfl) (by rw [g_p_eq]; rfl) ?_ ?_⟩)
    · rw [g_p_k (by omega), ht.g rfl]; exact h44
    · rw [g_p_k (by omega), ht.g rfl]; exact h45
def wRx (a k : Nat) : Bool := wRy a k || (Nat.ble 95 a && Nat.ble a 97)
theorem wRy_wRx (a k : Nat) (h : wRy a k = true) : wRx a k = true := by unfold wRx; rw [h]; rfl
theorem wRx_ne {a k : Nat} (h1 : a ≠ 93) (h2 : a ≠ 92) (h3 : a ≠ 77) (h4 : a < 95 ∨ 97 < a) : wRx a k = false := by
  unfold wRx; rw [wRy_ne h1 h2 h3]
  rcases h4 with h | h
  · rw [ble_f h]; rfl
  · rw [ble_f h]; simp
def RZ (t : bi_St) (n : Nat) (z : Zq) : Prop := (∀ i, i < n → st_g t 95 i = z.1 i ∧ st_g t 96 i = z.2.1 i) ∧ st_g t 97 2 = z.2.2.1 ∧ st_g t 97 3 = z.2.2.2.1 ∧ st_g t 77 44 = z.2.2.2.2.1 ∧ st_g t 77 45 = z.2.2.2.2.2
theorem RS_fr {s t : bi_St} {C : Nat} {v : Nat → Int32} {x : Sp} (h85 : ∀ k, st_g t 85 k = st_g s 85 k) (h87 : ∀ k, st_g t 87 k = st_g s 87 k) (h88 : ∀ k, st_g t 88 k = st_g s 88 k) (h : RS s C v x) : RS t C v x := by
  obtain ⟨c1, c2, c3, c4, c5, c6, c7, c8, c9, c10, c11, c12⟩ := h
  exact ⟨c1, c2, c3, c4, c5, c6, c7, c8, fun h => by obtain ⟨w, w1, w2, w3⟩ := c9 h; exact ⟨w, w1, w2, by rw [h85]; exact w3⟩, c10, fun h => by obtain ⟨P, h1, h2⟩ := c11 h; exact ⟨P, h1, rco_fr h87 h2⟩, fun h => by obtain ⟨P, h1, h2⟩ := c12 h; exact ⟨P, h1, rco_fr h88 h2⟩⟩
theorem RQ_fr {s t : bi_St} {C : Nat} {L : List Sp} (h : ∀ a k, (a = 85 ∨ a = 87 ∨ a = 88 ∨ a = 94) → st_g t a k = st_g s a k) (hP : RQ s (RS s C) L) : RQ t (RS t C) L := fun i x hx => by
  have := RS_fr (fun k => h 85 k (by simp)) (fun k => h 87 k (by simp)) (fun k => h 88 k (by simp)) (hP i x hx)
  have e : (fun k => st_g t 94 (6 * i + k)) = fun k => st_g s 94 (6 * i + k) := funext fun k => h 94 _ (by simp)
  rw [e]; exact this
theorem ct_runs {X : bi_X} {d : Nat} {K : bi_St → Prop} {E : Nat → bi_St → Prop} {s : bi_St} {C R p tas : Nat} {f : Nat → Pol} {S : Sta} {L : List Sp} (hj : RC s 0 C R p f S) (hP : RQ s (RS s C) L) (hl : L.length ≤ 9) (h49 : st_g s 77 49 = zI L.length) (h7 : st_g s 97 7 = zI tas) (htas : tas < 6)
    (h0 : ∀ (i : Nat) (x : Sp), L[i]? = some x → x.1 = 0 → x.2.2.2.2.1 = tas)
    (k : ∀ t, fr wRx s t → RZ t L.length (qA S (reads p f S tas) L S.2.2.1 0 0 z0).2 → st_g t 97 0 = (if (qA S (reads p f S tas) L S.2.2.1 0 0 z0).2.2.2.1 = -1 then zI (bc (qans (qA S (reads p f S tas) L S.2.2.1 0 0 z0)) 16) else -1) → st_g t 97 1 = qans (qA S (reads p f S tas) L S.2.2.1 0 0 z0) → st_g t 97 4 = zI L.length → st_g t 97 5 = (qA S (reads p f S tas) L S.2.2.1 0 0 z0).2.2.2.2.2.1 → st_g t 97 6 = (qA S (reads p f S tas) L S.2.2.1 0 0 z0).2.2.2.2.2.2 → st_g t 97 7 = zI tas → K t) : cV X (d + 5) 236 [.ref 77] s K E := by
  have hn := hj.2.1.2.1
  obtain ⟨F, hF⟩ : ∃ F, F = qA S (reads p f S tas) L S.2.2.1 0 0 z0 := ⟨_, rfl⟩
  rw [← hF] at k
  have rcx : ∀ t, fr wRx s t → RC t 0 C R p f S := fun t ht => RC_W ht rfl rfl (fun k => wRx_ne (by omega) (by omega) (by omega) (by omega)) (fun k => wRx_ne (by omega) (by omega) (by omega) (by omega)) (fun k _ => wRx_ne (by omega) (by omega) (by omega) (by omega)) hj
  have rqx : ∀ t, fr wRx s t → RQ t (RS t C) L := fun t ht => RQ_fr (fun a k h => ht.g (by rcases h with rfl | rfl | rfl | rfl <;> exact wRx_ne (by omega) (by omega) (by omega) (by omega))) hP
  have inn : ∀ r, r < S.2.2.1 → ∀ ans (M : List Sp) (i : Nat) (z : Zq) (t : bi_St), M = L.drop i → i ≤ 9 → fr wRx s t → RZ t L.length z → st_g t 97 7 = zI tas →
      (∀ u, fr wRx s u → RZ u L.length (qR S (reads p f S tas r) r M i z).2 → st_g u 97 7 = zI tas → at_X12_runs_181 X (d + 5) K E u ans (zI r) (b2i (qR S (reads p f S tas r) r M i z).1)) → at_X12_runs_97 X (d + 5) K E t ans (zI r) (b2i (reads p f S tas r)) 1 (zI i) := by
    intro r hr ans M
    obtain ⟨rd, hrd⟩ : ∃ rd, rd = reads p f S tas r := ⟨_, rfl⟩
    induction M with
    | nil =>
      intro i z t hM hi ht hz t7 kk
      have : L.length ≤ i := by
        have := congrArg List.length hM
        rw [List.length_drop] at this
        have h0 : ([] : List Sp).length = 0 := rfl
        omega
      refine go_X12_runs_97 ⟨fun _ => kk t ht hz t7, fun y => absurd ?_ y⟩
      rw [ht.g rfl, h49]; exact (zI_le (by omega) (by omega)).mpr this
    | cons x M ih =>
      intro i z t hM hi ht hz t7 kk
      obtain ⟨hx, hM', hiL⟩ := drop_cons hM
      rw [← hrd] at ih kk ⊢
      have done : ∀ u b, fr wRx s u → RZ u L.length (q1 S rd r i x z).2 → st_g u 97 7 = zI tas → b = (q1 S rd r i x z).1 → at_X12_runs_175 X (d + 5) K E u ans (zI r) (b2i rd) (b2i b) (zI i) := by
        intro u b hu huz u7 hb
        rw [qR] at kk
        refine go_X12_runs_175 ?_
        rw [zI_add1]
        cases b with
        | true =>
          rw [if_pos hb.symm] at kk
          exact ih (i + 1) _ u hM' (by omega) hu huz u7 kk
        | false =>
          rw [if_neg (by rw [← hb]; simp)] at kk
          have kk := kk u hu huz u7
          exact go_X12_runs_97 ⟨fun _ => kk, fun _ => ⟨fun _ => kk, fun y => absurd rfl y⟩⟩
      have fin : ∀ v, v = b2i rd → cI X (d + 4) 235 [.ref 77, .int (zI i), .int (zI r)] (st_p (st_p t 96 i ((st_g t 96 i) + (1 : Int32))) 95 i ((st_g (st_p t 96 i ((st_g t 96 i) + (1 : Int32))) 95 i) + v)) (fun r4 s4 => ((¬ (st_g s4 77 46) = 0) → bi_in (2 : Int32) 8 = true ∧ (bi_in (3 : Int32) 8 = true ∧ (at_X12_runs_175 X (d + 4 + 1) K E (st_p (st_p s4 97 ((2 : Int32)).toNatClampNeg (zI r)) 97 ((3 : Int32)).toNatClampNeg (zI i)) ans (zI r) (b2i rd) r4 (zI i)))) ∧ (¬ (¬ (st_g s4 77 46) = 0) → at_X12_runs_175 X (d + 4 + 1) K E s4 ans (zI r) (b2i rd) r4 (zI i))) (fun _ _ => False) := by
        intro v hv
        have f1 : fr wRx s (st_p (st_p t 96 i ((st_g t 96 i) + (1 : Int32))) 95 i ((st_g (st_p t 96 i ((st_g t 96 i) + (1 : Int32))) 95 i) + v)) := (ht.p rfl).p rfl
        have z1 : RZ (st_p (st_p t 96 i ((st_g t 96 i) + (1 : Int32))) 95 i ((st_g (st_p t 96 i ((st_g t 96 i) + (1 : Int32))) 95 i) + v)) L.length (q1z rd i z) := by
          refine ⟨fun j hjl => ?_, ?_, ?_, ?_, ?_⟩
          · simp only [q1z]
            rw [va_upe, va_upe]
            by_cases hji : j = i
            · subst hji
              rw [g_p_eq, g_p_a (by omega), g_p_a (by omega), g_p_eq, (hz.1 j hjl).1, (hz.1 j hjl).2, hv]; simp
            · rw [g_p_k hji, g_p_a (by omega), g_p_a (by omega), g_p_k hji, if_neg hji, if_neg hji]; exact hz.1 j hjl
          · rw [g_p_a (by omega), g_p_a (by omega)]; exact hz.2.1
          · rw [g_p_a (by omega), g_p_a (by omega)]; exact hz.2.2.1
          · rw [g_p_a (by omega), g_p_a (by omega)]; exact hz.2.2.2.1
          · rw [g_p_a (by omega), g_p_a (by omega)]; exact hz.2.2.2.2
        have t7' : st_g (st_p (st_p t 96 i ((st_g t 96 i) + (1 : Int32))) 95 i ((st_g (st_p t 96 i ((st_g t 96 i) + (1 : Int32))) 95 i) + v)) 97 7 = zI tas := by rw [g_p_a (by omega), g_p_a (by omega)]; exact t7
        generalize st_p (st_p t 96 i ((st_g t 96 i) + (1 : Int32))) 95 i ((st_g (st_p t 96 i ((st_g t 96 i) + (1 : Int32))) 95 i) + v) = u0 at f1 z1 t7'
        refine ct_doesPass (tas := tas) (x := x) (z := z) (rcx _ f1) (by omega) (rqx _ f1 i x hx) hr (h0 i x hx) z1.2.2.2.1 z1.2.2.2.2 (fun w hw w46 w44 w45 => ?_)
        rw [← hrd] at w44 w45 ⊢
        have hsw : fr wRx s w := f1.trans (hw.mono wRy_wRx)
        have w9 : ∀ a q, a = 95 ∨ a = 96 ∨ a = 97 → st_g w a q = st_g u0 a q := fun a q h => hw.g (wRy_ne (by omega) (by omega) (by omega))
        have hq : (q1 S rd r i x z).2.1 = (q1z rd i z).1 ∧ (q1 S rd r i x z).2.2.1 = (q1z rd i z).2.1 := by
          unfold q1
          by_cases hk : x.1 = 0
          · rw [if_pos hk]; exact ⟨rfl, rfl⟩
          · rw [if_neg hk]; exact ⟨rfl, rfl⟩
        rw [w46, b2i_ne0]
        refine ⟨fun hfl => ⟨rfl, rfl, done _ _ ((hsw.p rfl).p rfl) ⟨fun j hjl => ?_, ?_, ?_, ?_, ?_⟩ ?_ rfl⟩, fun hfl => done _ _ hsw ⟨fun j hjl => ?_, ?_, ?_, w44, w45⟩ ?_ rfl⟩
        · rw [g_p_a (by omega), g_p_a (by omega), g_p_a (by omega), g_p_a (by omega), w9 _ _ (by omega), w9 _ _ (by omega), hq.1, hq.2]; exact z1.1 j hjl
        · have hfl : (!decide (x.1 = 0) && (evo (en S x.2.2.2.2.1 r) x.2.2.2.2.2.1).2.2.1) = true := by simpa using hfl
          rw [Bool.and_eq_true] at hfl
          have hk : ¬ x.1 = 0 := by simpa using hfl.1
          show st_g (st_p (st_p w 97 2 (zI r)) 97 3 (zI i)) 97 2 = _
          rw [g_p_k (by omega), g_p_eq]; unfold q1; rw [if_neg hk]; simp only [q1e, hfl.2, if_true]
        · have hfl : (!decide (x.1 = 0) && (evo (en S x.2.2.2.2.1 r) x.2.2.2.2.2.1).2.2.1) = true := by simpa using hfl
          rw [Bool.and_eq_true] at hfl
          have hk : ¬ x.1 = 0 := by simpa using hfl.1
          show st_g (st_p (st_p w 97 2 (zI r)) 97 3 (zI i)) 97 3 = _
          rw [g_p_eq]; unfold q1; rw [if_neg hk]; simp only [q1e, hfl.2, if_true]
        · rw [g_p_a (by omega), g_p_a (by omega)]; exact w44
        · rw [g_p_a (by omega), g_p_a (by omega)]; exact w45
        · show st_g (st_p (st_p w 97 2 (zI r)) 97 3 (zI i)) 97 7 = _
          rw [g_p_k (by omega), g_p_k (by omega), w9 _ _ (by omega)]; exact t7'
        · rw [w9 _ _ (by omega), w9 _ _ (by omega), hq.1, hq.2]; exact z1.1 j hjl
        · have hfl := Decidable.of_not_not hfl
          rw [w9 _ _ (by omega), z1.2.1]
          unfold q1
          by_cases hk : x.1 = 0
          · rw [if_pos hk]
          · rw [decide_eq_false hk] at hfl
            have hfl : (evo (en S x.2.2.2.2.1 r) x.2.2.2.2.2.1).2.2.1 = false := by simpa using hfl
            rw [if_neg hk]; simp only [q1e, hfl]; rfl
        · have hfl := Decidable.of_not_not hfl
          rw [w9 _ _ (by omega), z1.2.2.1]
          unfold q1
          by_cases hk : x.1 = 0
          · rw [if_pos hk]
          · rw [decide_eq_false hk] at hfl
            have hfl : (evo (en S x.2.2.2.2.1 r) x.2.2.2.2.2.1).2.2.1 = false := by simpa using hfl
            rw [if_neg hk]; simp only [q1e, hfl]; rfl
        · rw [w9 _ _ (by omega)]; exact t7'
      refine go_X12_runs_97 ⟨fun y => ?_, fun _ => ⟨fun y => absurd y (by decide), fun _ => ?_⟩⟩
      · rw [ht.g rfl, h49, zI_le (by omega) (by omega)] at y; omega
      · have hin : bi_in (zI i) 9 = true := in_zI (by omega) (by omega)
        rw [zI_nat (by omega)]
        refine ⟨hin, hin, hin, fun y => ⟨hin, ?_⟩, fun y => ⟨hin, ?_⟩⟩
        · rw [b2i_ne0] at y; exact fin 0 (by rw [y]; rfl)
        · rw [b2i_ne0] at y
          have y : rd = true := by simpa using y
          exact fin 1 (by rw [y]; rfl)
  have last : ∀ ans (z : Zq) (t : bi_St), fr wRx s t → RZ t L.length z → st_g t 97 7 = zI tas → F = (ans, z) → at_X12_runs_202 X (d + 5) K E t ans := by
    intro ans z t ht hz t7 he
    have hq : qans F = if z.2.2.1 = -1 then ans else 0 := by rw [he]; rfl
    have hFz : F.2 = z := by rw [he]
    rw [hq, hFz] at k
    have t49 : st_g t 77 49 = zI L.length := by rw [ht.g rfl]; exact h49
    have k2 : ∀ v0 v1 (u : bi_St), u = st_p (st_p (st_p (st_p (st_p t 97 0 v0) 97 1 v1) 97 4 (zI L.length)) 97 5 (z.2.2.2.2.1)) 97 6 (z.2.2.2.2.2) → v0 = (if z.2.2.1 = -1 then zI (bc (if z.2.2.1 = -1 then ans else 0) 16) else -1) → v1 = (if z.2.2.1 = -1 then ans else 0) → K u := by
      intro v0 v1 u hu e0 e1
      subst hu
      refine k _ (((((ht.p rfl).p rfl).p rfl).p rfl).p rfl) ⟨fun j hjl => ?_, ?_, ?_, ?_, ?_⟩ ?_ ?_ ?_ ?_ ?_ ?_
      · iterate 10 rw [g_p_a (by omega)]
        exact hz.1 j hjl
      · iterate 5 rw [g_p_k (by omega)]
        exact hz.2.1
      · iterate 5 rw [g_p_k (by omega)]
        exact hz.2.2.1
      · iterate 5 rw [g_p_a (by omega)]
        exact hz.2.2.2.1
      · iterate 5 rw [g_p_a (by omega)]
        exact hz.2.2.2.2
      · iterate 4 rw [g_p_k (by omega)]
        rw [g_p_eq]; exact e0
      · iterate 3 rw [g_p_k (by omega)]
        rw [g_p_eq]; exact e1
      · iterate 2 rw [g_p_k (by omega)]
        rw [g_p_eq]
      · rw [g_p_k (by omega), g_p_eq]
      · rw [g_p_eq]
      · iterate 5 rw [g_p_k (by omega)]
        exact t7
    refine go_X12_runs_202 ?_
    have g77 : ∀ k (v0 v1 : Int32), st_g (st_p (st_p t 97 ((0 : Int32)).toNatClampNeg v0) 97 ((1 : Int32)).toNatClampNeg v1) 77 k = st_g t 77 k := fun k v0 v1 => by rw [g_p_a (by omega), g_p_a (by omega)]
    have g772 : ∀ k (v0 v1 v4 : Int32), st_g (st_p (st_p (st_p t 97 ((0 : Int32)).toNatClampNeg v0) 97 ((1 : Int32)).toNatClampNeg v1) 97 ((4 : Int32)).toNatClampNeg v4) 77 k = st_g t 77 k := fun k v0 v1 v4 => by rw [g_p_a (by omega), g_p_a (by omega), g_p_a (by omega)]
    have g773 : ∀ k (v0 v1 v4 v5 : Int32), st_g (st_p (st_p (st_p (st_p t 97 ((0 : Int32)).toNatClampNeg v0) 97 ((1 : Int32)).toNatClampNeg v1) 97 ((4 : Int32)).toNatClampNeg v4) 97 ((5 : Int32)).toNatClampNeg v5) 77 k = st_g t 77 k := fun k v0 v1 v4 v5 => by rw [g_p_a (by omega), g_p_a (by omega), g_p_a (by omega), g_p_a (by omega)]
    have z2 : st_g t 97 ((2 : Int32)).toNatClampNeg = z.2.2.1 := hz.2.1
    rw [z2]
    refine ⟨rfl, fun hf => ⟨fun _ => ⟨rfl, fun _ => ⟨rfl, rfl, rfl, rfl, ?_⟩, fun y => absurd rfl y⟩, fun y => absurd rfl y⟩, fun hf => ⟨fun y => absurd y (by decide), fun _ => ct_bits ⟨rfl, fun y => absurd y (by decide), fun _ => ⟨rfl, rfl, rfl, rfl, ?_⟩⟩⟩⟩
    · rw [g77, g772, g773, t49, hz.2.2.2.1, hz.2.2.2.2]
      exact k2 (-1) 0 _ rfl (by rw [if_neg hf]) (by rw [if_neg hf])
    · have hf := Decidable.of_not_not hf
      rw [g77, g772, g773, t49, hz.2.2.2.1, hz.2.2.2.2]
      exact k2 _ ans _ rfl (by rw [if_pos hf, if_pos hf]) (by rw [if_pos hf])
  have loop : ∀ n r ans (z : Zq) (t : bi_St), n = S.2.2.1 - r → r ≤ S.2.2.1 → fr wRx s t → RZ t L.length z → st_g t 97 7 = zI tas → F = qA S (reads p f S tas) L n r ans z → at_X12_runs_56 X (d + 5) K E t ans (zI r) := by
    intro n
    induction n with
    | zero =>
      intro r ans z t hnr hr ht hz t7 he
      refine go_X12_runs_56 ⟨rfl, fun _ => last ans z t ht hz t7 he, fun y => absurd ?_ y⟩
      show st_g t 90 7 ≤ _
      have : st_g t 90 (0 + 7) = zI S.2.2.1 := (rcx t ht).2.1.2.2.1
      rw [this]; exact (zI_le (by omega) (by omega)).mpr (by omega)
    | succ n ih =>
      intro r ans z t hnr hr ht hz t7 he
      rw [qA] at he
      have z2 : st_g t 97 ((2 : Int32)).toNatClampNeg = z.2.2.1 := hz.2.1
      have z7 : st_g t 97 ((7 : Int32)).toNatClampNeg = zI tas := t7
      refine go_X12_runs_56 ⟨rfl, fun y => ?_, fun _ => ?_⟩
      · have y : st_g t 90 (0 + 7) ≤ zI r := y
        rw [(rcx t ht).2.1.2.2.1, zI_le (by omega) (by omega)] at y; omega
      · rw [z2, z7]
        refine ⟨rfl, fun h => ?_, fun h => ⟨rfl, ?_⟩⟩
        · rw [if_neg h] at he; exact last ans z t ht hz t7 he
        · rw [if_pos (Decidable.of_not_not h)] at he
          refine ct_doesRead (b0 := 0) (rcx t ht) htas (by omega) (fun t1 ht1 => ?_)
          have hs1 : fr wRx s t1 := ht.trans (ht1.mono fun a k h => wRy_wRx a k (wF_wRy a k h))
          have hz1 : RZ t1 L.length z := ⟨fun j hjl => by rw [ht1.g (wF_ne (by omega) (by omega) (by omega)), ht1.g (wF_ne (by omega) (by omega) (by omega))]; exact hz.1 j hjl, by rw [ht1.g (wF_ne (by omega) (by omega) (by omega))]; exact hz.2.1, by rw [ht1.g (wF_ne (by omega) (by omega) (by omega))]; exact hz.2.2.1, by rw [ht1.g rfl]; exact hz.2.2.2.1, by rw [ht1.g rfl]; exact hz.2.2.2.2⟩
          refine inn r (by omega) ans L 0 z t1 rfl (by omega) hs1 hz1 (by rw [ht1.g (wF_ne (by omega) (by omega) (by omega))]; exact t7) (fun u hu huz u7 => go_X12_runs_181 ?_)
          rw [b2i_ne0, zI_add1]
          refine ⟨fun hb => ?_, fun hb => ?_⟩
          · rw [if_neg (by rw [hb]; simp)] at he
            rw [Int32.or_zero]
            exact ih (r + 1) ans _ u (by omega) (by omega) hu huz u7 he
          · have hb : (qR S (reads p f S tas r) r L 0 z).1 = true := by simpa using hb
            rw [if_pos hb] at he
            exact ih (r + 1) (ans ||| s1 r) _ u (by omega) (by omega) hu huz u7 he
  have init : ∀ n i (t : bi_St), n = 9 - i → i ≤ 9 → fr wRx s t → (∀ j, j < i → st_g t 95 j = 0 ∧ st_g t 96 j = 0) → st_g t 97 2 = -1 → st_g t 97 3 = -1 → st_g t 77 44 = 0 → st_g t 77 45 = 0 → st_g t 97 7 = zI tas → at_X12_runs_28 X (d + 5) K E t 0 (zI i) := by
    intro n
    induction n with
    | zero =>
      intro i t hni hi ht hz a2 a3 a4 a5 t7
      have : i = 9 := by omega
      subst this
      exact go_X12_runs_28 ⟨fun _ => loop S.2.2.1 0 0 z0 t (by omega) (by omega) ht ⟨fun j hjl => hz j (by omega), a2, a3, a4, a5⟩ t7 hF, fun y => absurd (by decide) y⟩
    | succ n ih =>
      intro i t hni hi ht hz a2 a3 a4 a5 t7
      refine go_X12_runs_28 ⟨fun y => ?_, fun _ => ?_⟩
      · have := (zI_le (a := 9) (by omega) (by omega)).mp y; omega
      · have hin : bi_in (zI i) 9 = true := in_zI (by omega) (by omega)
        rw [zI_nat (by omega), zI_add1]
        refine ⟨hin, hin, ih (i + 1) _ (by omega) (by omega) ((ht.p rfl).p rfl) (fun j hjl => ?_) ?_ ?_ ?_ ?_ ?_⟩
        · by_cases hji : j = i
          · subst hji
            rw [g_p_a (by omega), g_p_eq, g_p_eq]; exact ⟨rfl, rfl⟩
          · rw [g_p_a (by omega), g_p_k hji, g_p_k hji, g_p_a (by omega)]; exact hz j (by omega)
        · rw [g_p_a (by omega), g_p_a (by omega)]; exact a2
        · rw [g_p_a (by omega), g_p_a (by omega)]; exact a3
        · rw [g_p_a (by omega), g_p_a (by omega)]; exact a4
        · rw [g_p_a (by omega), g_p_a (by omega)]; exact a5
        · rw [g_p_a (by omega), g_p_a (by omega)]; exact t7
  refine en_X12_runs ⟨rfl, rfl, init 9 0 _ rfl (by omega) ((((fr.refl.p rfl).p rfl).p rfl).p rfl) (fun j hj => by omega) ?_ ?_ ?_ ?_ ?_⟩
  · show st_g (st_p (st_p (st_p (st_p s 77 44 (0 : Int32)) 77 45 (0 : Int32)) 97 2 (-1 : Int32)) 97 3 (-1 : Int32)) 97 2 = -1
    rw [g_p_k (by omega), g_p_eq]
  · show st_g (st_p (st_p (st_p (st_p s 77 44 (0 : Int32)) 77 45 (0 : Int32)) 97 2 (-1 : Int32)) 97 3 (-1 : Int32)) 97 3 = -1
    rw [g_p_eq]
  · rw [g_p_a (by omega), g_p_a (by omega), g_p_k (by omega), g_p_eq]
  · rw [g_p_a (by omega), g_p_a (by omega), g_p_eq]
  · show st_g (st_p (st_p (st_p (st_p s 77 44 (0 : Int32)) 77 45 (0 : Int32)) 97 2 (-1 : Int32)) 97 3 (-1 : Int32)) 97 7 = zI tas
    rw [g_p_k (by omega), g_p_k (by omega), g_p_a (by omega), g_p_a (by omega)]; exact h7
end RRUN
