/-! ===== who reads what ===== -/
section READ
/-- what acts change: given, on, how many rows, cells -/
abbrev Sta : Type := (Nat → Int32) × Int32 × Nat × (Nat → Nat → Int32)
def en (S : Sta) (u r : Nat) : ev_E := (S.2.2.2 r, zI u, clo S.1 (s1 u))
def reads (p : Nat) (f : Nat → Pol) (S : Sta) (u r : Nat) : Bool := po_let p f (en S u r) S.2.1 0 false
def SC (s : bi_St) (a C : Nat) (S : Sta) : Prop := st_isS a ∧ S.2.2.1 ≤ 16 ∧ st_g s a 0 = zI S.2.2.1 ∧ st_g s a 3 = S.2.1 ∧ (∀ r, r < 6 → st_g s (a + 2) r = S.1 r) ∧ ∀ r c, r < S.2.2.1 → c < C → st_g s (a + 1) (4 * r + c) = S.2.2.2 r c
def SR (s : bi_St) (b0 C : Nat) (S : Sta) : Prop := b0 ≤ 72 ∧ S.2.2.1 ≤ 16 ∧ st_g s 90 (b0 + 7) = zI S.2.2.1 ∧ st_g s 90 (b0 + 6) = S.2.1 ∧ (∀ r, r < 6 → st_g s 90 (b0 + r) = S.1 r) ∧ ∀ r c, r < S.2.2.1 → c < C → st_g s 90 (b0 + 8 + 4 * r + c) = S.2.2.2 r c
def wfS (R : Nat) (S : Sta) : Prop := R ≤ 6 ∧ (∀ r, r < 6 → sub6 (S.1 r)) ∧ ∀ r, R ≤ r → r < 6 → S.1 r = 0
/-- what judging may change of the class -/
def wA (a k : Nat) : Bool := Nat.beq a 60 || (Nat.beq a 59 || (Nat.beq a 57 && Nat.ble 5 k))
theorem beq_ne {a b : Nat} (h : a ≠ b) : Nat.beq a b = false := by rw [Bool.eq_false_iff]; intro z; exact h (Nat.eq_of_beq_eq_true z)
theorem wA_ne {a k : Nat} (h1 : a ≠ 60) (h2 : a ≠ 59) (h3 : a ≠ 57) : wA a k = false := by
  unfold wA
  rw [beq_ne h1, beq_ne h2, beq_ne h3]; rfl
theorem wH_wA (a k : Nat) (h : wH a k = true) : wA a k = true := by
  unfold wH at h
  unfold wA
  simp only [Bool.or_eq_true, Bool.and_eq_true, Nat.ble_eq, Nat.beq_eq] at h ⊢
  omega
def JC (s : bi_St) (b a C R p : Nat) (f : Nat → Pol) (S : Sta) : Prop := BC s b C p f ∧ st_gp s 7 = b ∧ st_gp s 8 = a ∧ SC s a C S ∧ st_g s b 1 = zI R ∧ R ≤ 6 ∧ ∀ u, u < 6 → st_g s 58 u = clo S.1 (s1 u)
theorem SC_fr {s t : bi_St} {a C : Nat} {S : Sta} (h : ∀ c k, a ≤ c → c ≤ a + 2 → st_g t c k = st_g s c k) (hs : SC s a C S) : SC t a C S := by
  obtain ⟨h1, h2, h3, h4, h5, h6⟩ := hs
  exact ⟨h1, h2, by rw [h a 0 (by omega) (by omega)]; exact h3, by rw [h a 3 (by omega) (by omega)]; exact h4, fun r hr => by rw [h (a + 2) r (by omega) (by omega)]; exact h5 r hr, fun r c hr hc => by rw [h (a + 1) _ (by omega) (by omega)]; exact h6 r c hr hc⟩
theorem SR_fr {s t : bi_St} {b0 C : Nat} {S : Sta} (h : ∀ k, b0 ≤ k → k < b0 + 72 → st_g t 90 k = st_g s 90 k) (hC : C ≤ 4) (hs : SR s b0 C S) : SR t b0 C S := by
  obtain ⟨h0, h2, h3, h4, h5, h6⟩ := hs
  exact ⟨h0, h2, by rw [h _ (by omega) (by omega)]; exact h3, by rw [h _ (by omega) (by omega)]; exact h4, fun r hr => by rw [h _ (by omega) (by omega)]; exact h5 r hr, fun r c hr hc => by rw [h _ (by omega) (by omega)]; exact h6 r c hr hc⟩
theorem JC_fr {s t : bi_St} {b a C R p : Nat} {f : Nat → Pol} {S : Sta} (h : fr wA s t) (hj : JC s b a C R p f S) : JC t b a C R p f S := by
  obtain ⟨h1, h2, h3, h4, h5, h6, h7⟩ := hj
  have hb : b ≤ 19 := by rcases h1.1 with z | z <;> omega
  have ha : a ≤ 51 := by rcases h4.1 with z | z | z | z <;> omega
  exact ⟨BC_fr (fun c k x y => h.g (wA_ne (by omega) (by omega) (by omega))) h1, by rw [h.gp]; exact h2, by rw [h.gp]; exact h3, SC_fr (fun c k x y => h.g (wA_ne (by omega) (by omega) (by omega))) h4, by rw [h.g (wA_ne (by omega) (by omega) (by omega))]; exact h5, h6, fun u hu => by rw [h.g (wA_ne (by omega) (by omega) (by omega))]; exact h7 u hu⟩
theorem ct_become {X : bi_X} {d : Nat} {K : bi_St → Prop} {E : Nat → bi_St → Prop} {s : bi_St} {u : Nat} (hu : u < 6) (k : ∀ t, fr wA s t → st_g t 57 5 = zI u → st_g t 57 6 = st_g s 58 u → (∀ c, st_g t 59 c = st_g s 59 c) → K t) : cV X d 26 [.ref 57, .int (zI u)] s K E := by
  refine en_X2_become ⟨fun z => absurd z (zI_nn (by omega)), fun _ => ⟨fun z => ?_, fun _ => ⟨in_zI (by omega) (by omega), ?_⟩⟩⟩
  · have := (zI_le (a := 6) (by omega) (by omega)).mp z; omega
  · rw [zI_nat (by omega), g_p_a (by omega)]
    exact k _ ((fr.refl.p rfl).p rfl) (by rw [g_p_k (by omega), g_p_eq]) (by rw [g_p_eq]) (fun c => by rw [g_p_a (by omega), g_p_a (by omega)])
theorem ct_numberAt {X : bi_X} {d : Nat} {K : Int32 → bi_St → Prop} {E : Nat → bi_St → Prop} {s : bi_St} {a r c : Nat} (hS : st_isS a) (hr : r < 16) (hc : c < 4) (k : K (st_g s (a + 1) (4 * r + c)) s) : cI X (d + 1) 74 [.ref a, .int (zI r), .int (zI c)] s K E := by
  refine en_X6_numberAt hS (en_X6_isCell hS ⟨fun z => absurd z (zI_nn (by omega)), fun _ => ⟨fun z => ?_, fun _ => ⟨fun z => absurd z (zI_nn (by omega)), fun _ => ⟨fun z => ?_, fun _ => ⟨fun z => absurd z (by decide), fun _ => ?_⟩⟩⟩⟩⟩)
  · have := (zI_le (a := 16) (by omega) (by omega)).mp z; omega
  · have := (zI_le (a := 4) (by omega) (by omega)).mp z; omega
  · have e : zI r * 4 + zI c = zI (4 * r + c) := by
      have : zI r * 4 = zI (r * 4) := zI_mul r 4
      rw [this, zI_add, Nat.mul_comm]
    rw [e, zI_nat (by omega)]
    exact ⟨in_zI (by omega) (by omega), k⟩
theorem ct_take {X : bi_X} {d : Nat} {K : bi_St → Prop} {E : Nat → bi_St → Prop} {s : bi_St} {a r : Nat} (ha : st_gp s 8 = a) (hS : st_isS a) (hr : r < 16) (k : ∀ t, fr wA s t → (∀ c, c < 4 → st_g t 59 c = st_g s (a + 1) (4 * r + c)) → (∀ q, st_g t 57 q = st_g s 57 q) → K t) : cV X (d + 2) 27 [.ref 57, .int (zI r)] s K E := by
  have ha1 : a + 1 ≠ 59 := by rcases hS with z | z | z | z <;> omega
  have loop : ∀ m n (t : bi_St), m = 4 - n → n ≤ 4 → fr (fun c _ => Nat.beq c 59) s t → (∀ c, c < n → st_g t 59 c = st_g s (a + 1) (4 * r + c)) → at_X2_take_2 X (d + 2) K E t (zI r) (zI n) := by
    intro m
    induction m with
    | zero =>
      intro n t hm hn ht hl
      have : n = 4 := by omega
      subst this
      refine go_X2_take_2 ⟨fun _ => k t (ht.mono fun a k h => ?_) hl (fun q => ht.g rfl), fun z => absurd (by decide) z⟩
      unfold wA; rw [h]; simp
    | succ m ih =>
      intro n t hm hn ht hl
      refine go_X2_take_2 ⟨fun z => ?_, fun _ => ⟨by rw [ht.gp, ha]; exact hS, ?_⟩⟩
      · have := (zI_le (a := 4) (by omega) (by omega)).mp z; omega
      · rw [ht.gp, ha]
        refine ct_numberAt hS hr (by omega) ⟨in_zI (by omega) (by omega), ?_⟩
        rw [zI_nat (by omega), zI_add1]
        refine ih (n + 1) _ (by omega) (by omega) (ht.p rfl) (fun c hc => ?_)
        rw [g_p]
        by_cases hcn : c = n
        · subst hcn; simp; exact ht.g (beq_ne ha1)
        · simp [hcn]; exact hl c (by omega)
  exact en_X2_take (loop 4 0 s (by omega) (by omega) fr.refl (fun c hc => by omega))
/-- the judge is set for a user and a row -/
theorem JC_env {s : bi_St} {b a C R p : Nat} {f : Nat → Pol} {S : Sta} {u r : Nat} (hj : JC s b a C R p f S) (hr : r < S.2.2.1) (h1 : ∀ c, c < 4 → st_g s 59 c = st_g s (a + 1) (4 * r + c)) (h2 : st_g s 57 5 = zI u) (h3 : st_g s 57 6 = clo S.1 (s1 u)) : envC s C (en S u r) := by
  refine ⟨fun c hc => ?_, h2, h3⟩
  have := hj.1.2.1
  rw [h1 c (by omega)]
  exact hj.2.2.2.1.2.2.2.2.2 r c hr hc
theorem ct_allowsJ {X : bi_X} {d : Nat} {K : Int32 → bi_St → Prop} {E : Nat → bi_St → Prop} {s : bi_St} {b a C R p cmd : Nat} {f : Nat → Pol} {S : Sta} {e : ev_E} {how : Bool} (hj : JC s b a C R p f S) (he : envC s C e) (hcmd : cmd ≤ 4) (k : ∀ t, fr wH s t → K (b2i (po_let p f e S.2.1 cmd how)) t) : cI X (d + 3) 31 [.ref 57, .int (zI cmd), .int (b2i how)] s K E := by
  refine ct_allows hj.1 hj.2.1 (by rw [hj.2.2.1]; exact hj.2.2.2.1.1) he hcmd (fun t ht => ?_)
  rw [hj.2.2.1, hj.2.2.2.1.2.2.2.1]
  exact k t ht
theorem ct_rowsRead {X : bi_X} {d : Nat} {K : Int32 → bi_St → Prop} {E : Nat → bi_St → Prop} {s : bi_St} {b a C R p u : Nat} {f : Nat → Pol} {S : Sta} (hj : JC s b a C R p f S) (hu : u < 6) (k : ∀ t, fr wA s t → K (bo (reads p f S u) S.2.2.1) t) : cI X (d + 4) 32 [.ref 57, .int (zI u)] s K E := by
  have hn := hj.2.2.2.1.2.1
  have hS := hj.2.2.2.1.1
  have loop : ∀ m n (t : bi_St), m = S.2.2.1 - n → n ≤ S.2.2.1 → fr wA s t → st_g t 57 5 = zI u → st_g t 57 6 = clo S.1 (s1 u) → at_X2_rowsRead_9 X (d + 4) K E t (bo (reads p f S u) n) (zI n) := by
    intro m
    induction m with
    | zero =>
      intro n t hm hn2 ht h5 h6
      have : n = S.2.2.1 := by omega
      subst this
      have hjt := JC_fr ht hj
      refine go_X2_rowsRead_9 ⟨by rw [hjt.2.2.1]; exact hS, fun _ => k t ht, fun z => absurd ?_ z⟩
      rw [hjt.2.2.1, hjt.2.2.2.1.2.2.1]
      exact (zI_le (by omega) (by omega)).mpr (Nat.le_refl _)
    | succ m ih =>
      intro n t hm hn2 ht h5 h6
      have hjt := JC_fr ht hj
      refine go_X2_rowsRead_9 ⟨by rw [hjt.2.2.1]; exact hS, fun z => ?_, fun _ => ?_⟩
      · rw [hjt.2.2.1, hjt.2.2.2.1.2.2.1, zI_le (by omega) (by omega)] at z; omega
      · refine ct_take hjt.2.2.1 hS (by omega) (fun t1 ht1 hl h57 => ?_)
        have hj1 := JC_fr ht1 hjt
        have ha1 : a + 1 ≠ 59 ∧ a + 1 ≠ 57 ∧ a + 1 ≠ 60 := by rcases hS with z | z | z | z <;> omega
        refine ct_allowsJ (cmd := 0) (how := false) hj1 (JC_env (u := u) (r := n) hj1 (by omega) (fun c hc => by rw [hl c hc, ht1.g (wA_ne ha1.2.2 ha1.1 ha1.2.1)]) (by rw [h57]; exact h5) (by rw [h57]; exact h6)) (by omega) (fun t2 ht2 => ?_)
        have ih := ih (n + 1) t2 (by omega) (by omega) (ht.trans (ht1.trans (ht2.mono wH_wA))) (by rw [ht2.g rfl, h57]; exact h5) (by rw [ht2.g rfl, h57]; exact h6)
        rw [b2i_ne0, zI_add1]
        rw [bo_succ] at ih
        refine ⟨fun hb => ?_, fun hb => ?_⟩
        · have hb : reads p f S u n = false := hb
          rw [hb] at ih; rw [Int32.or_zero]; exact ih
        · have hb : reads p f S u n = true := by unfold reads; simpa using hb
          rw [hb] at ih; exact ih
  refine en_X2_rowsRead (ct_become hu (fun t ht h5 h6 _ => loop S.2.2.1 0 t (by omega) (by omega) ht h5 ?_))
  rw [h6]; exact hj.2.2.2.2.2.2 u hu
theorem ct_readersOf {X : bi_X} {d : Nat} {K : Int32 → bi_St → Prop} {E : Nat → bi_St → Prop} {s : bi_St} {b a C R p r : Nat} {f : Nat → Pol} {S : Sta} (hj : JC s b a C R p f S) (hr : r < S.2.2.1) (k : ∀ t, fr wA s t → K (bo (fun u => reads p f S u r) R) t) : cI X (d + 4) 33 [.ref 57, .int (zI r)] s K E := by
  have hn := hj.2.2.2.1.2.1
  have hS := hj.2.2.2.1.1
  have hB := hj.1.1
  have hR := hj.2.2.2.2.2.1
  have ha1 : a + 1 ≠ 59 ∧ a + 1 ≠ 57 ∧ a + 1 ≠ 60 := by rcases hS with z | z | z | z <;> omega
  have loop : ∀ m n (t : bi_St), m = R - n → n ≤ R → fr wA s t → (∀ c, c < 4 → st_g t 59 c = st_g s (a + 1) (4 * r + c)) → at_X2_readersOf_9 X (d + 4) K E t (bo (fun u => reads p f S u r) n) (zI n) := by
    intro m
    induction m with
    | zero =>
      intro n t hm hn2 ht hl
      have : n = R := by omega
      subst this
      have hjt := JC_fr ht hj
      refine go_X2_readersOf_9 ⟨by rw [hjt.2.1]; exact hB, fun _ => k t ht, fun z => absurd ?_ z⟩
      rw [hjt.2.1, hjt.2.2.2.2.1]
      exact (zI_le (by omega) (by omega)).mpr (Nat.le_refl _)
    | succ m ih =>
      intro n t hm hn2 ht hl
      have hjt := JC_fr ht hj
      refine go_X2_readersOf_9 ⟨by rw [hjt.2.1]; exact hB, fun z => ?_, fun _ => ?_⟩
      · rw [hjt.2.1, hjt.2.2.2.2.1, zI_le (by omega) (by omega)] at z; omega
      · refine ct_become (by omega) (fun t1 ht1 h5 h6 h59 => ?_)
        have hj1 := JC_fr ht1 hjt
        refine ct_allowsJ (cmd := 0) (how := false) hj1 (JC_env (u := n) (r := r) hj1 hr (fun c hc => by rw [h59, hl c hc, ht1.g (wA_ne ha1.2.2 ha1.1 ha1.2.1), ht.g (wA_ne ha1.2.2 ha1.1 ha1.2.1)]) h5 (by rw [h6]; exact hjt.2.2.2.2.2.2 n (by omega))) (by omega) (fun t2 ht2 => ?_)
        have ih := ih (n + 1) t2 (by omega) (by omega) (ht.trans (ht1.trans (ht2.mono wH_wA))) (fun c hc => by rw [ht2.g (wH_ne (by omega) (by omega)), h59]; exact hl c hc)
        rw [b2i_ne0, zI_add1]
        rw [bo_succ] at ih
        refine ⟨fun hb => ?_, fun hb => ?_⟩
        · have hb : reads p f S n r = false := hb
          rw [hb] at ih; rw [Int32.or_zero]; exact ih
        · have hb : reads p f S n r = true := by unfold reads; simpa using hb
          rw [hb] at ih; exact ih
  exact en_X2_readersOf (ct_take hj.2.2.1 hS (by omega) (fun t ht hl _ => loop R 0 t (by omega) (by omega) ht hl))
/-- what reading may change of the reference -/
def wF (a k : Nat) : Bool := Nat.beq a 93 || (Nat.beq a 92 || (Nat.beq a 77 && (Nat.beq k 43 || (Nat.ble 46 k && Nat.ble k 47))))
theorem wF_ne {a k : Nat} (h1 : a ≠ 93) (h2 : a ≠ 92) (h3 : a ≠ 77) : wF a k = false := by
  unfold wF
  rw [beq_ne h1, beq_ne h2, beq_ne h3]; rfl
theorem wD_wF (a k : Nat) (h : wD a k = true) : wF a k = true := by
  unfold wD at h
  unfold wF
  simp only [Bool.or_eq_true, Bool.and_eq_true, Nat.ble_eq, Nat.beq_eq] at h ⊢
  omega
def RC (s : bi_St) (b0 C R p : Nat) (f : Nat → Pol) (S : Sta) : Prop := BR s C p f ∧ SR s b0 C S ∧ wfS R S ∧ st_g s 77 27 = zI R
theorem RC_fr {s t : bi_St} {b0 C R p : Nat} {f : Nat → Pol} {S : Sta} (h : fr wF s t) (hj : RC s b0 C R p f S) : RC t b0 C R p f S := by
  obtain ⟨h1, h2, h3, h4⟩ := hj
  exact ⟨BR_fr (h.g rfl) (fun k => h.g (wF_ne (by omega) (by omega) (by omega))) (fun k => h.g (wF_ne (by omega) (by omega) (by omega))) h1, SR_fr (fun k _ _ => h.g (wF_ne (by omega) (by omega) (by omega))) h1.1 h2, h3, by rw [h.g rfl]; exact h4⟩
theorem ct_laysUser {X : bi_X} {d : Nat} {K : bi_St → Prop} {E : Nat → bi_St → Prop} {s : bi_St} {b0 C R p u : Nat} {f : Nat → Pol} {S : Sta} (hj : RC s b0 C R p f S) (hu : u < 6) (k : ∀ t, fr wF s t → st_g t 92 4 = zI u → st_g t 77 43 = clo S.1 (s1 u) → (∀ c, c < 4 → st_g t 92 c = st_g s 92 c) → K t) : cV X (d + 1) 211 [.ref 77, .int (zI b0), .int (zI u)] s K E := by
  obtain ⟨h1, h2, h3, h4⟩ := hj
  refine en_X12_laysUser ⟨rfl, ?_⟩
  have e4 : ((4 : Int32)).toNatClampNeg = 4 := rfl
  rw [e4]
  have hg : ∀ r, r < 6 → st_g (st_p s 92 4 (zI u)) 90 (b0 + r) = S.1 r := fun r hr => by rw [g_p_a (by omega)]; exact h2.2.2.2.2.1 r hr
  refine ct_hasOf h2.1 hu h3.1 (by rw [g_p_a (by omega)]; exact h4) (fun r hr => by rw [hg r hr]; exact h3.2.1 r hr) (fun r hr hr6 => by rw [hg r hr6]; exact h3.2.2 r hr hr6) ?_
  refine k _ ((fr.refl.p rfl).p rfl) (by rw [g_p_a (by omega), g_p_eq]) ?_ (fun c hc => by rw [g_p_a (by omega), g_p_k (by omega)])
  rw [g_p_eq]
  exact clo_congr hg _
theorem ct_laysRow {X : bi_X} {d : Nat} {K : bi_St → Prop} {E : Nat → bi_St → Prop} {s : bi_St} {b0 r : Nat} (hb : b0 ≤ 72) (hr : r < 16) (k : ∀ t, fr wF s t → (∀ c, c < 4 → st_g t 92 c = st_g s 90 (b0 + 8 + 4 * r + c)) → st_g t 92 4 = st_g s 92 4 → (∀ q, st_g t 77 q = st_g s 77 q) → K t) : cV X d 212 [.ref 77, .int (zI b0), .int (zI r)] s K E := by
  have loop : ∀ m n (t : bi_St), m = 4 - n → n ≤ 4 → fr (fun c q => Nat.beq c 92 && Nat.blt q 4) s t → (∀ c, c < n → st_g t 92 c = st_g s 90 (b0 + 8 + 4 * r + c)) → at_X12_laysRow_2 X d K E t (zI b0) (zI r) (zI n) := by
    intro m
    induction m with
    | zero =>
      intro n t hm hn ht hl
      have : n = 4 := by omega
      subst this
      refine go_X12_laysRow_2 ⟨fun _ => k t (ht.mono fun a k h => ?_) hl (ht.g rfl) (fun q => ht.g rfl), fun z => absurd (by decide) z⟩
      rw [Bool.and_eq_true] at h
      unfold wF; rw [h.1]; simp
    | succ m ih =>
      intro n t hm hn ht hl
      have e : zI b0 + 8 + 4 * zI r + zI n = zI (b0 + 8 + 4 * r + n) := by
        have e1 : (4 : Int32) * zI r = zI (4 * r) := zI_mul 4 r
        have e2 : zI b0 + 8 = zI (b0 + 8) := zI_add b0 8
        rw [e1, e2, zI_add, zI_add]
      refine go_X12_laysRow_2 ⟨fun z => ?_, fun _ => ?_⟩
      · have := (zI_le (a := 4) (by omega) (by omega)).mp z; omega
      · rw [e, zI_nat (a := n) (by omega), zI_nat (by omega), zI_add1]
        refine ⟨in_zI (by omega) (by omega), in_zI (by omega) (by omega), ?_⟩
        refine ih (n + 1) _ (by omega) (by omega) (ht.p (by simp; omega)) (fun c hc => ?_)
        rw [g_p]
        by_cases hcn : c = n
        · subst hcn; simp; exact ht.g rfl
        · simp [hcn]; exact hl c (by omega)
  exact en_X12_laysRow (loop 4 0 s (by omega) (by omega) fr.refl (fun c hc => by omega))
theorem RC_env {s : bi_St} {b0 C R p : Nat} {f : Nat → Pol} {S : Sta} {u r : Nat} (hj : RC s b0 C R p f S) (hr : r < S.2.2.1) (h1 : ∀ c, c < 4 → st_g s 92 c = st_g s 90 (b0 + 8 + 4 * r + c)) (h2 : st_g s 92 4 = zI u) (h3 : st_g s 77 43 = clo S.1 (s1 u)) : envR s C (en S u r) := by
  refine ⟨fun c hc => ?_, h2, h3⟩
  have := hj.1.1
  rw [h1 c (by omega)]
  exact hj.2.1.2.2.2.2.2 r c hr hc
theorem ct_doLetJ {X : bi_X} {d : Nat} {K : Int32 → bi_St → Prop} {E : Nat → bi_St → Prop} {s : bi_St} {b0 C R p cmd : Nat} {f : Nat → Pol} {S : Sta} {e : ev_E} {how : Bool} (hj : RC s b0 C R p f S) (he : envR s C e) (hcmd : cmd ≤ 4) (k : ∀ t, fr wD s t → K (b2i (po_let p f e S.2.1 cmd how)) t) : cI X (d + 2) 215 [.ref 77, .int (zI b0), .int (zI cmd), .int (b2i how)] s K E := by
  refine ct_doLet hcmd hj.2.1.1 hj.1 he (fun t ht => ?_)
  rw [hj.2.1.2.2.2.1]; exact k t ht
theorem ct_doesRead {X : bi_X} {d : Nat} {K : Int32 → bi_St → Prop} {E : Nat → bi_St → Prop} {s : bi_St} {b0 C R p u r : Nat} {f : Nat → Pol} {S : Sta} (hj : RC s b0 C R p f S) (hu : u < 6) (hr : r < S.2.2.1) (k : ∀ t, fr wF s t → K (b2i (reads p f S u r)) t) : cI X (d + 3) 216 [.ref 77, .int (zI b0), .int (zI u), .int (zI r)] s K E := by
  have hn := hj.2.1.2.1
  refine en_X12_doesRead (ct_laysUser hj hu (fun t ht h1 h2 _ => ct_laysRow hj.2.1.1 (by omega) (fun t2 ht2 h3 h4 h5 => ?_)))
  have hj2 := RC_fr ht2 (RC_fr ht hj)
  refine ct_doLetJ (cmd := 0) (how := false) hj2 (RC_env (u := u) (r := r) hj2 hr (fun c hc => by rw [h3 c hc, ht2.g (wF_ne (by omega) (by omega) (by omega))]) (by rw [h4]; exact h1) (by rw [h5]; exact h2)) (by omega) (fun t3 ht3 => ⟨b2i_bool _, k t3 (ht.trans (ht2.trans (ht3.mono wD_wF)))⟩)
theorem ct_readsOf {X : bi_X} {d : Nat} {K : Int32 → bi_St → Prop} {E : Nat → bi_St → Prop} {s : bi_St} {b0 C R p u : Nat} {f : Nat → Pol} {S : Sta} (hj : RC s b0 C R p f S) (hu : u < 6) (k : ∀ t, fr wF s t → K (bo (reads p f S u) S.2.2.1) t) : cI X (d + 4) 217 [.ref 77, .int (zI b0), .int (zI u)] s K E := by
  have hn := hj.2.1.2.1
  have hb0 := hj.2.1.1
  have e7 : zI b0 + 7 = zI (b0 + 7) := zI_add b0 7
  have loop : ∀ m n (t : bi_St), m = S.2.2.1 - n → n ≤ S.2.2.1 → fr wF s t → at_X12_readsOf_5 X (d + 4) K E t (zI b0) (zI u) (bo (reads p f S u) n) (zI n) := by
    intro m
    induction m with
    | zero =>
      intro n t hm hn2 ht
      have : n = S.2.2.1 := by omega
      subst this
      have hjt := RC_fr ht hj
      refine go_X12_readsOf_5 ?_
      rw [e7, zI_nat (by omega), hjt.2.1.2.2.1]
      exact ⟨in_zI (by omega) (by omega), fun _ => k t ht, fun z => absurd ((zI_le (by omega) (by omega)).mpr (Nat.le_refl _)) z⟩
    | succ m ih =>
      intro n t hm hn2 ht
      have hjt := RC_fr ht hj
      refine go_X12_readsOf_5 ?_
      rw [e7, zI_nat (by omega), hjt.2.1.2.2.1]
      refine ⟨in_zI (by omega) (by omega), fun z => ?_, fun _ => ct_doesRead hjt hu (by omega) (fun t2 ht2 => ?_)⟩
      · rw [zI_le (by omega) (by omega)] at z; omega
      · have ih := ih (n + 1) t2 (by omega) (by omega) (ht.trans ht2)
        rw [b2i_ne0, zI_add1]
        rw [bo_succ] at ih
        refine ⟨fun hb => ?_, fun hb => ?_⟩
        · rw [hb] at ih; rw [Int32.or_zero]; exact ih
        · have hb : reads p f S u n = true := by simpa using hb
          rw [hb] at ih; exact ih
  exact en_X12_readsOf (loop S.2.2.1 0 s (by omega) (by omega) fr.refl)
end READ
