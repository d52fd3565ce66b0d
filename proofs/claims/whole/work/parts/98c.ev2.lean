/-! ===== rules: the class's and the reference's ===== -/
section EV2
def rl (s : bi_St) (b C n : Nat) (P : List (Nat × Nat)) : Prop := ∃ lo sz, st_g s b 5 = zI sz ∧ sz ≤ st_rn b ∧ n < sz ∧ (if n = 0 then lo = 0 else st_g s (b + 2) (n - 1) = zI lo) ∧ st_g s (b + 2) n = zI (lo + P.length) ∧ lo + P.length ≤ 700 ∧ (∀ k (hk : k < P.length), st_g s (b + 1) (lo + k) = cw P[k]) ∧ ok_p C P 0
def rlo (s : bi_St) (b C : Nat) (r : Int32) (P : Option (List (Nat × Nat))) : Prop := match P with
  | none => r = -1
  | some P => ∃ n, r = zI n ∧ rl s b C n P
def evo (e : ev_E) (P : Option (List (Nat × Nat))) : ev_Q := match P with
  | none => (1, fun _ => 1, false, 0, 0)
  | some P => ev e P
theorem st_rn_le {b : Nat} : st_rn b ≤ 19 := by
  unfold st_rn
  cases Nat.beq b 3 <;> simp
theorem ct_holds {X : bi_X} {d : Nat} {K : Int32 → bi_St → Prop} {E : Nat → bi_St → Prop} {b C : Nat} {e : ev_E} (hb : st_isR b) (hC : C ≤ 4) {s : bi_St} {r : Int32} {P : Option (List (Nat × Nat))} (hr : rlo s b C r P)
    (hl : ∀ c, c < C → st_g s 59 c = e.1 c) (hme : st_g s 57 5 = e.2.1) (hmi : st_g s 57 6 = e.2.2)
    (k : ∀ t, fr wH s t → st_g t 57 7 = b2i (evo e P).2.2.1 → st_g t 57 8 = (evo e P).2.2.2.1 → st_g t 57 9 = (evo e P).2.2.2.2 → K (b2i (ev_ok (evo e P))) t) : cI X (d + 1) 34 [.ref 57, .ref b, .int r] s K E := by
  have hb1 : (b ≠ 57 ∧ b ≠ 60) ∧ (b + 1 ≠ 57 ∧ b + 1 ≠ 60) ∧ b + 2 ≠ 57 ∧ b + 2 ≠ 60 := by rcases hb with h | h | h <;> omega
  refine en_X2_holds hb ?_
  have h0 : ∀ s0, s0 = st_p (st_p (st_p s 57 7 0) 57 8 0) 57 9 0 → fr wH s s0 ∧ st_g s0 57 7 = 0 ∧ st_g s0 57 8 = 0 ∧ st_g s0 57 9 = 0 := by
    intro s0 h; subst h
    exact ⟨((fr.refl.p rfl).p rfl).p rfl, by rw [g_p_k (by omega), g_p_k (by omega), g_p_eq], by rw [g_p_k (by omega), g_p_eq], by rw [g_p_eq]⟩
  obtain ⟨hfr, z7, z8, z9⟩ := h0 _ rfl
  generalize st_p (st_p (st_p s 57 7 0) 57 8 0) 57 9 0 = s0 at hfr z7 z8 z9
  cases P with
  | none =>
    have hr : r = -1 := hr
    subst hr
    refine en_X5_isRule hb ⟨fun _ => ?_, fun z => absurd (by decide) z⟩
    exact ⟨fun z => absurd rfl z, fun _ => k s0 hfr z7 z8 z9⟩
  | some P =>
    obtain ⟨n, rfl, lo, sz, e1, e2, e3, e4, e5, e6, e7, e8⟩ := hr
    have hrn := st_rn_le (b := b)
    refine en_X5_isRule hb ⟨fun z => absurd z (zI_nn (by omega)), fun _ => ⟨fun z => ?_, fun _ => ?_⟩⟩
    · rw [hfr.g (wH_ne hb1.1.2 hb1.1.1), e1, zI_le (by omega) (by omega)] at z; omega
    · refine ⟨fun _ => ⟨in_zI (by omega) (by omega), ?_⟩, fun z => absurd (by decide) z⟩
      have hgo : ∀ v : Int32, v = zI lo → at_X2_holds_42 X (d + 1) K E s0 0 (st_g s0 (b + 2) (zI n).toNatClampNeg) v b := by
        intro v hv
        subst hv
        rw [zI_nat (by omega), hfr.g (wH_ne hb1.2.2.2 hb1.2.2.1), e5]
        refine ct_holdsL (e := e) hb hC P lo (0, fun _ => 0, false, 0, 0) _ e8 e6 (fun k hk => ?_) (by omega) (fun k hk => by omega) z7 z8 z9 (fun c hc => ?_) ?_ ?_ (fun t ht => k t (hfr.trans ht))
        · rw [hfr.g (wH_ne hb1.2.1.2 hb1.2.1.1)]; exact e7 k hk
        · rw [hfr.g (wH_ne (by omega) (by omega))]; exact hl c hc
        · rw [hfr.g rfl]; exact hme
        · rw [hfr.g rfl]; exact hmi
      refine en_X5_startOf hb ⟨fun z => ?_, fun z => ⟨fun z2 => ?_, fun _ => ⟨?_, ?_⟩⟩⟩
      · have : n = 0 := by
          have := (zI_le (b := 0) (show n < 2147483648 by omega) (by omega)).mp z
          omega
        rw [if_pos this] at e4
        exact hgo 0 (by rw [e4]; rfl)
      · rw [hfr.g (wH_ne hb1.1.2 hb1.1.1), e1, zI_lt (by omega) (by omega)] at z2; omega
      · have hn : ¬ n = 0 := fun h => z (by subst h; decide)
        have : zI n - 1 = zI (n - 1) := zI_sub (m := 1) (by omega)
        rw [this]; exact in_zI (by omega) (by omega)
      · have hn : ¬ n = 0 := fun h => z (by subst h; decide)
        have : zI n - 1 = zI (n - 1) := zI_sub (m := 1) (by omega)
        rw [this]
        rw [if_neg hn] at e4
        refine hgo _ ?_
        rw [zI_nat (by omega), hfr.g (wH_ne hb1.2.2.2 hb1.2.2.1), e4]
def rop (o : Nat) : Nat := [1, 2, 2, 12, 13, 3, 8, 9, 10, 11, 6, 7, 4, 5].getD o 0
def rarg (o : Nat × Nat) : Nat := if o.1 = 2 then 4 else o.2
/-- the reference's words of a rule, from place i of cell a -/
def rc (s : bi_St) (a : Nat) : List (Nat × Nat) → Nat → Prop
  | [], i => i < 1400 ∧ st_g s a i = 0
  | o :: P, i => i < 1400 ∧ st_g s a i = zI (rop o.1) ∧ (if o.1 ≤ 3 then i + 1 < 1400 ∧ st_g s a (i + 1) = zI (rarg o) ∧ rc s a P (i + 2) else rc s a P (i + 1))
/-- what doesHold() may change of the reference -/
def wE (a k : Nat) : Bool := Nat.beq a 93 || (Nat.beq a 77 && (Nat.ble 44 k && Nat.ble k 46))
theorem wE_ne {a k : Nat} (h1 : a ≠ 93) (h2 : a ≠ 77) : wE a k = false := by
  unfold wE
  rw [Bool.or_eq_false_iff, Bool.and_eq_false_iff]
  exact ⟨by rw [Bool.eq_false_iff]; intro z; exact h1 (Nat.eq_of_beq_eq_true z), Or.inl (by rw [Bool.eq_false_iff]; intro z; exact h2 (Nat.eq_of_beq_eq_true z))⟩
theorem rc_fr {s t : bi_St} {a : Nat} (h : ∀ k, st_g t a k = st_g s a k) : ∀ (P : List (Nat × Nat)) (i : Nat), rc s a P i → rc t a P i := by
  intro P
  induction P with
  | nil => intro i h1; exact ⟨h1.1, by rw [h]; exact h1.2⟩
  | cons o P ih =>
    intro i h1
    refine ⟨h1.1, by rw [h]; exact h1.2.1, ?_⟩
    by_cases h3 : o.1 ≤ 3
    · rw [if_pos h3]
      have := h1.2.2
      rw [if_pos h3] at this
      exact ⟨this.1, by rw [h]; exact this.2.1, ih _ this.2.2⟩
    · rw [if_neg h3]
      have := h1.2.2
      rw [if_neg h3] at this
      exact ih _ this
theorem ct_works {X : bi_X} {d : Nat} {K : Int32 → bi_St → Prop} {E : Nat → bi_St → Prop} {s : bi_St} {o : Nat} {x y : Int32} {f : Bool} (h0 : 6 ≤ o) (h1 : o ≤ 13) (hf : st_g s 77 46 = b2i f)
    (k : ∀ t, fr wE s t → (∀ q, st_g t 93 q = st_g s 93 q) → st_g t 77 46 = b2i (f || (decide (o = 9) && decide (y = 0))) → st_g t 77 44 = st_g s 77 44 → st_g t 77 45 = st_g s 77 45 → K (ev_v2 o x y) t) : cI X d 209 [.ref 77, .int (zI (rop o)), .int x, .int y] s K E := by
  have e1 : ∀ a b : Nat, a < 2147483648 → b < 2147483648 → (zI b = OfNat.ofNat a ↔ b = a) := fun a b ha hb => zI_eq hb ha
  have ks : ¬ o = 9 → K (ev_v2 o x y) s := fun h => k s fr.refl (fun _ => rfl) (by rw [hf]; simp [h]) rfl rfl
  have hr : rop o < 2147483648 := by
    have : ∀ o : Fin 14, rop o.1 < 2147483648 := by decide
    exact this ⟨o, by omega⟩
  refine en_X12_works ?_
  rw [e1 4 _ (by omega) hr, e1 5 _ (by omega) hr, e1 6 _ (by omega) hr, e1 7 _ (by omega) hr, e1 8 _ (by omega) hr, e1 9 _ (by omega) hr, e1 10 _ (by omega) hr]
  have ho : o = 6 ∨ o = 7 ∨ o = 8 ∨ o = 9 ∨ o = 10 ∨ o = 11 ∨ o = 12 ∨ o = 13 := by omega
  rcases ho with h | h | h | h | h | h | h | h <;> subst h
  · have := ks (by omega); simpa [rop, ev_v2] using this
  · have := ks (by omega); simpa [rop, ev_v2] using this
  · have := ks (by omega); simpa [rop, ev_v2] using this
  · simp only [rop, List.getD_eq_getElem?_getD]
    simp
    refine ⟨fun hy => ?_, fun hy => ?_⟩
    · have := k s fr.refl (fun _ => rfl) (by rw [hf]; simp [hy]) rfl rfl
      simpa [ev_v2, hy] using this
    · have := k (st_p s 77 46 1) (fr.refl.p rfl) (fun q => g_p_a (by omega)) (by rw [g_p_eq]; simp [hy, b2i]) (g_p_k (by omega)) (g_p_k (by omega))
      simpa [ev_v2, hy] using this
  · have := ks (by omega)
    simp only [rop, List.getD_eq_getElem?_getD]
    simp
    refine ⟨fun hy => ?_, fun hy => ?_⟩
    · simpa [ev_v2, nlt_of_le hy, b2i] using this
    · have hy := lt_of_nle (fun z => nlt_of_le z hy)
      simpa [ev_v2, hy, b2i] using this
  · have := ks (by omega)
    simp only [rop, List.getD_eq_getElem?_getD]
    simp
    refine ⟨fun hy => ?_, fun hy => ?_⟩
    · simpa [ev_v2, hy, b2i] using this
    · simpa [ev_v2, hy, b2i] using this
  · have := ks (by omega)
    simp only [rop, List.getD_eq_getElem?_getD]
    simp
    refine ⟨fun hy => ?_, fun hy => ⟨fun hz => ?_, fun hz => ?_⟩⟩
    · simpa [ev_v2, hy, b2i] using this
    · simpa [ev_v2, hy, hz, b2i] using this
    · simpa [ev_v2, hy, hz, b2i] using this
  · have := ks (by omega)
    simp only [rop, List.getD_eq_getElem?_getD]
    simp
    refine ⟨fun hy => ?_, fun hy => ⟨fun hz => ?_, fun hz => ?_⟩⟩
    · simpa [ev_v2, hy, b2i] using this
    · simpa [ev_v2, hy, hz, b2i] using this
    · simpa [ev_v2, hy, hz, b2i] using this
theorem rop_lt (o : Nat) : rop o < 14 := by
  by_cases h : o < 14
  · have : ∀ o : Fin 14, rop o.1 < 14 := by decide
    exact this ⟨o, h⟩
  · unfold rop
    rw [List.getD_eq_getElem?_getD, List.getElem?_eq_none (by simp; omega)]; simp
theorem rop_ne0 {o : Nat} (h : o ≤ 13) : rop o ≠ 0 := by
  have : ∀ o : Fin 14, rop o.1 ≠ 0 := by decide
  exact this ⟨o, by omega⟩
theorem ct_doesHoldL {X : bi_X} {d : Nat} {K : Int32 → bi_St → Prop} {E : Nat → bi_St → Prop} {b C : Nat} {e : ev_E} {tl : Bool} {p0 p1 : Int32} (hb : b = 87 ∨ b = 88) (hC : C ≤ 4) :
    ∀ (P : List (Nat × Nat)) (i : Nat) (q : ev_Q) (s : bi_St), ok_p C P q.1 → rc s b P i → q.1 ≤ 64 → (∀ k, k < q.1 → st_g s 93 k = q.2.1 k) →
      st_g s 77 46 = b2i q.2.2.1 → st_g s 77 47 = b2i tl → st_g s 77 44 = p0 + (if tl then q.2.2.2.1 else 0) → st_g s 77 45 = p1 + (if tl then q.2.2.2.2 else 0) → (∀ c, c < C → st_g s 92 c = e.1 c) → st_g s 92 4 = e.2.1 → st_g s 77 43 = e.2.2 →
      (∀ t, fr wE s t → st_g t 77 46 = b2i (ev_s e P q).2.2.1 → st_g t 77 44 = p0 + (if tl then (ev_s e P q).2.2.2.1 else 0) → st_g t 77 45 = p1 + (if tl then (ev_s e P q).2.2.2.2 else 0) → K (b2i (ev_ok (ev_s e P q))) t) →
      at_X12_doesHold_10 X (d + 1) K E s (zI q.1) (zI i) b := by
  have hb1 : b ≠ 93 ∧ b ≠ 77 := by rcases hb with h | h <;> omega
  have hk : ∀ s : bi_St, bi_kd (st_mm s) b = (14, 1400) := by rcases hb with h | h <;> subst h <;> intro s <;> rfl
  have hn : Nat.beq b 4999 = false := by rcases hb with h | h <;> subst h <;> rfl
  intro P
  induction P with
  | nil =>
    intro i q s hp hrc hq hstk hf htl hpk hsm hl hme hmi k
    have k : K (b2i (ev_ok q)) s := k s fr.refl hf hpk hsm
    have hp : q.1 = 1 := hp
    obtain ⟨hi, h0⟩ := hrc
    have e0 := hstk 0 (by omega)
    refine go_X12_doesHold_10 (a0 := 0) hk hn ⟨in_zI hi (by omega), ?_⟩
    rw [zI_nat (by omega), h0]
    refine ⟨fun _ => ⟨fun hf2 => ?_, fun hf2 => ⟨rfl, fun hz => ?_, fun hz => ?_⟩⟩, fun z => absurd rfl z⟩
    · rw [hf, b2i_ne0] at hf2
      have : ev_ok q = false := by simp [ev_ok, hf2]
      rw [this] at k
      exact go_X12_doesHold_248 (a0 := 0) (n0 := 0) k
    · rw [toN0, e0] at hz
      have : ev_ok q = false := by simp [ev_ok, hz]
      rw [this] at k
      exact go_X12_doesHold_248 (a0 := 0) (n0 := 0) k
    · rw [toN0, e0] at hz
      rw [hf, b2i_ne0] at hf2
      have : ev_ok q = true := by simp [ev_ok, hz]; simpa using hf2
      rw [this] at k
      exact k
  | cons o P ih =>
    intro i q s hp hrc hq hstk hf htl hpk hsm hl hme hmi k
    obtain ⟨ho, hno, h64, hp⟩ := hp
    obtain ⟨hi, hw, hrc⟩ := hrc
    have a1 := ho.1
    have a2 := ho.2.1
    have hstep := ev_1_h (e := e) hno
    have hev : ev_s e (o :: P) q = ev_s e P (ev_1 e q o) := rfl
    rw [hev] at k
    have hr := rop_lt o.1
    have next : ∀ t j, fr wE s t → rc t b P j → (∀ k, k < q.1 - op_n o.1 + 1 → st_g t 93 k = (ev_1 e q o).2.1 k) → st_g t 77 46 = b2i (ev_1 e q o).2.2.1 → st_g t 77 44 = p0 + (if tl then (ev_1 e q o).2.2.2.1 else 0) → st_g t 77 45 = p1 + (if tl then (ev_1 e q o).2.2.2.2 else 0) →
        at_X12_doesHold_225 X (d + 1) K E t (zI (q.1 - op_n o.1 + 1)) (zI j) b := by
      intro t j ht hrt hs h6 h4 h5
      refine go_X12_doesHold_225 (a0 := 0) hk hn ?_
      rw [← hstep]
      refine ih j (ev_1 e q o) t (by rw [hstep]; exact hp) hrt (by rw [hstep]; omega) (by rw [hstep]; exact hs) h6 (by rw [ht.g rfl]; exact htl) h4 h5 (fun c hc => ?_) ?_ ?_ (fun u hu => k u (ht.trans hu))
      · rw [ht.g (wE_ne (by omega) (by omega))]; exact hl c hc
      · rw [ht.g (wE_ne (by omega) (by omega))]; exact hme
      · rw [ht.g rfl]; exact hmi
    have e1 : ∀ a : Nat, a < 2147483648 → (zI (rop o.1) = OfNat.ofNat a ↔ rop o.1 = a) := fun a ha => zI_eq (by omega) ha
    refine go_X12_doesHold_10 (a0 := 0) hk hn ⟨in_zI hi (by omega), ?_⟩
    rw [zI_nat (by omega), hw, zI_add1]
    refine ⟨fun z => absurd ((zI_eq (b := 0) (by omega) (by omega)).mp z) (rop_ne0 a1), fun _ => ⟨in_zI hi (by omega), ?_⟩⟩
    rw [e1 1 (by omega), e1 2 (by omega), e1 12 (by omega), e1 3 (by omega), e1 13 (by omega)]
    by_cases h3 : o.1 ≤ 3
    · rw [if_pos h3] at hrc
      obtain ⟨hi1, hw1, hrc⟩ := hrc
      have n0 : op_n o.1 = 0 := by unfold op_n; rw [if_pos h3]
      rw [n0] at next h64
      have go : at_X12_doesHold_45 X (d + 1) K E s (zI q.1) (zI (i + 1)) (zI (rop o.1)) b := by
        have nx : ∀ v, v = ev_v0 e o → at_X12_doesHold_225 X (d + 1) K E (st_p s 93 q.1 v) (zI (q.1 + 1)) (zI (i + 1 + 1)) b := by
          intro v hv
          refine next _ _ (fr.refl.p rfl) (rc_fr (fun k => g_p_a hb1.1) _ _ hrc) (fun k hk => ?_) ?_ ?_ ?_
          · simp only [ev_1, if_pos h3]
            rw [va_upe, g_p]
            by_cases hk2 : k = q.1
            · simp [hk2, hv]
            · simp only [hk2, and_false, if_false]
              exact hstk k (by omega)
          · simp only [ev_1, if_pos h3]; rw [g_p_a (by omega)]; exact hf
          · simp only [ev_1, if_pos h3]; rw [g_p_a (by omega)]; exact hpk
          · simp only [ev_1, if_pos h3]; rw [g_p_a (by omega)]; exact hsm
        have hra : rarg o ≤ 9999 := by unfold rarg; by_cases h : o.1 = 2 <;> simp [h]; omega
        refine go_X12_doesHold_45 (a0 := 0) hk hn ?_
        rw [e1 1 (by omega), e1 2 (by omega), zI_nat (a := i + 1) (by omega), hw1, zI_nat (a := rarg o) (by omega), zI_nat (a := q.1) (by omega), zI_add1, zI_add1]
        have hio := in_zI hi1 (show 1400 < 2147483648 by omega)
        have hpi : bi_in (zI q.1) 950 = true := in_zI (by omega) (by omega)
        have h0123 : o.1 = 0 ∨ o.1 = 1 ∨ o.1 = 2 ∨ o.1 = 3 := by omega
        rcases h0123 with h | h | h | h
        · have r0 : rop o.1 = 1 := by rw [h]; rfl
          rw [r0]
          refine ⟨fun z => absurd rfl z, fun _ => ⟨hio, hpi, nx _ ?_⟩⟩
          simp [ev_v0, rarg, h]
        · have r0 : rop o.1 = 2 := by rw [h]; rfl
          rw [r0]
          have hc := ho.2.2.1 h
          have ra : rarg o = o.2 := by simp [rarg, h]
          rw [ra]
          refine ⟨fun _ => ⟨fun z => absurd rfl z, fun _ => ⟨hio, in_zI (by omega) (by omega), hpi, nx _ ?_⟩⟩, fun z => absurd (by decide) z⟩
          rw [hl _ hc]; simp [ev_v0, h]
        · have r0 : rop o.1 = 2 := by rw [h]; rfl
          rw [r0]
          have ra : rarg o = 4 := by simp [rarg, h]
          rw [ra]
          refine ⟨fun _ => ⟨fun z => absurd rfl z, fun _ => ⟨hio, in_zI (by omega) (by omega), hpi, nx _ ?_⟩⟩, fun z => absurd (by decide) z⟩
          rw [hme]; simp [ev_v0, h]
        · have r0 : rop o.1 = 12 := by rw [h]; rfl
          rw [r0]
          have hc := ho.2.2.2 h
          have ra : rarg o = o.2 := by simp [rarg, h]
          rw [ra]
          refine ⟨fun _ => ⟨fun _ => ⟨hio, hpi, nx _ ?_⟩, fun z => absurd (by decide) z⟩, fun z => absurd (by decide) z⟩
          rw [hmi, tb_b2i (by omega)]; simp [ev_v0, h]
      refine ⟨fun _ => go, fun n1 => ⟨fun _ => go, fun n2 => ⟨fun n12 => ?_, fun _ => go⟩⟩⟩
      exfalso
      have h0123 : o.1 = 0 ∨ o.1 = 1 ∨ o.1 = 2 ∨ o.1 = 3 := by omega
      rcases h0123 with h | h | h | h <;> rw [h] at n1 n2 n12
      · exact n1 rfl
      · exact n2 rfl
      · exact n2 rfl
      · exact n12 rfl
    · rw [if_neg h3] at hrc
      have hge : ∀ o : Fin 14, ¬ o.1 ≤ 3 → ¬ rop o.1 = 1 ∧ ¬ rop o.1 = 2 ∧ ¬ rop o.1 = 12 := by decide
      obtain ⟨n1, n2, n12⟩ := hge ⟨o.1, by omega⟩ h3
      refine ⟨fun z => absurd z n1, fun _ => ⟨fun z => absurd z n2, fun _ => ⟨fun _ => ⟨fun m3 => ⟨fun m13 => ?_, fun m13 => ?_⟩, fun m3 => ?_⟩, fun z => absurd n12 z⟩⟩⟩
      · have h6 : 6 ≤ o.1 := by
          by_cases h4 : o.1 = 4
          · rw [h4] at m13; exact absurd rfl m13
          · by_cases h5 : o.1 = 5
            · rw [h5] at m3; exact absurd rfl m3
            · omega
        have n2 : op_n o.1 = 2 := by unfold op_n; rw [if_neg (by omega), if_neg (by omega)]
        rw [n2] at hno h64 next
        have es : zI q.1 + (-1) = zI (q.1 - 1) := by
          have : zI q.1 = zI (q.1 - 1) + 1 := by rw [zI_add1]; congr 1; omega
          rw [this, Int32.add_assoc]
          show zI (q.1 - 1) + 0 = _
          rw [Int32.add_zero]
        have es1 : zI (q.1 - 1) - 1 = zI (q.1 - 2) := by
          rw [show q.1 - 2 = (q.1 - 1) - 1 by omega]; exact zI_sub (m := 1) (by omega)
        rw [es, es1]
        refine ⟨in_zI (by omega) (by omega), in_zI (by omega) (by omega), ?_⟩
        rw [zI_nat (by omega), zI_nat (by omega), hstk _ (by omega), hstk _ (by omega)]
        refine ct_works h6 (by omega) hf (fun t ht h93 h46 h44 h45 => ⟨in_zI (by omega) (by omega), ?_⟩)
        rw [show q.1 - 1 = q.1 - 2 + 1 by omega]
        refine next _ _ (ht.p rfl) (rc_fr (fun k => by rw [g_p_a hb1.1]; exact ht.g (wE_ne hb1.1 hb1.2)) _ _ hrc) (fun k hk => ?_) ?_ ?_ ?_
        · simp only [ev_1, if_neg h3, if_neg (show ¬ o.1 = 4 by omega), if_neg (show ¬ o.1 = 5 by omega)]
          rw [va_upe, g_p]
          by_cases hk2 : k = q.1 - 2
          · simp [hk2, show q.1 - 2 + 1 = q.1 - 1 by omega]
          · simp only [hk2, and_false, if_false]
            rw [h93]; exact hstk k (by omega)
        · simp only [ev_1, if_neg h3, if_neg (show ¬ o.1 = 4 by omega), if_neg (show ¬ o.1 = 5 by omega)]
          rw [g_p_a (by omega), show q.1 - 2 + 1 = q.1 - 1 by omega] at *; exact h46
        · simp only [ev_1, if_neg h3, if_neg (show ¬ o.1 = 4 by omega), if_neg (show ¬ o.1 = 5 by omega)]
          rw [g_p_a (by omega), h44]; exact hpk
        · simp only [ev_1, if_neg h3, if_neg (show ¬ o.1 = 4 by omega), if_neg (show ¬ o.1 = 5 by omega)]
          rw [g_p_a (by omega), h45]; exact hsm
      · have h4 : o.1 = 4 := by
          have : ∀ o : Fin 14, rop o.1 = 13 → o.1 = 4 := by decide
          exact this ⟨o.1, by omega⟩ (Decidable.of_not_not m13)
        have n2 : op_n o.1 = 1 := by unfold op_n; rw [if_neg (by omega), if_pos (by omega)]
        rw [n2] at hno h64 next
        rw [show q.1 - 1 + 1 = q.1 by omega] at next
        have es : zI q.1 - 1 = zI (q.1 - 1) := zI_sub (m := 1) hno
        have hev1 : ev_1 e q o = (q.1, q.2.1, q.2.2.1, q.2.2.2.1 + 1, q.2.2.2.2 + q.2.1 (q.1 - 1)) := by
          simp only [ev_1, if_neg h3, if_pos h4]
        rw [hev1] at next
        have g47 : ∀ v, st_g (st_p s 77 44 v) 77 47 = st_g s 77 47 := fun v => g_p_k (by omega)
        have g45 : ∀ v, st_g (st_p s 77 44 v) 77 45 = st_g s 77 45 := fun v => g_p_k (by omega)
        have g93 : ∀ v k, st_g (st_p s 77 44 v) 93 k = st_g s 93 k := fun v k => g_p_a (by omega)
        rw [es, g47, g47, g45, g45, g93, g93, zI_nat (by omega), hstk _ (by omega), htl]
        have nx : ∀ v w, v = p0 + (if tl then q.2.2.2.1 + 1 else 0) → w = p1 + (if tl then q.2.2.2.2 + q.2.1 (q.1 - 1) else 0) → at_X12_doesHold_225 X (d + 1) K E (st_p (st_p s 77 44 v) 77 45 w) (zI q.1) (zI (i + 1)) b := by
          intro v w hv hw
          refine next _ _ ((fr.refl.p rfl).p rfl) (rc_fr (fun k => by rw [g_p_a hb1.2, g_p_a hb1.2]) _ _ hrc) (fun k hk => ?_) ?_ ?_ ?_
          · rw [g_p_a (by omega), g_p_a (by omega)]; exact hstk k hk
          · rw [g_p_k (by omega), g_p_k (by omega)]; exact hf
          · rw [g_p_k (by omega), g_p_eq]; exact hv
          · rw [g_p_eq]; exact hw
        refine ⟨fun z => ⟨fun _ => nx _ _ ?_ ?_, fun z2 => absurd z z2⟩, fun z => ⟨fun z2 => absurd z2 z, fun _ => ⟨in_zI (by omega) (by omega), nx _ _ ?_ ?_⟩⟩⟩
        · rw [b2i_ne0] at z; rw [hpk, z]; simp
        · rw [b2i_ne0] at z; rw [hsm, z]; simp
        · rw [b2i_ne0] at z; rw [hpk]; simp [z, Int32.add_assoc]
        · rw [b2i_ne0] at z; rw [hsm]; simp [z, Int32.add_assoc]
      · have h5 : o.1 = 5 := by
          have : ∀ o : Fin 14, rop o.1 = 3 → o.1 = 5 := by decide
          exact this ⟨o.1, by omega⟩ (Decidable.of_not_not m3)
        have n2 : op_n o.1 = 1 := by unfold op_n; rw [if_neg (by omega), if_pos (by omega)]
        rw [n2] at hno h64 next
        rw [show q.1 - 1 + 1 = q.1 by omega] at next
        have es : zI q.1 - 1 = zI (q.1 - 1) := zI_sub (m := 1) hno
        have hev1 : ev_1 e q o = (q.1, va_up q.2.1 (q.1 - 1) (b2i (decide (q.2.1 (q.1 - 1) = 0))), q.2.2) := by
          simp only [ev_1, if_neg h3, if_neg (show ¬ o.1 = 4 by omega), if_pos h5]
        rw [hev1] at next
        rw [es, zI_nat (by omega), hstk _ (by omega)]
        have nx : ∀ v, v = b2i (decide (q.2.1 (q.1 - 1) = 0)) → at_X12_doesHold_225 X (d + 1) K E (st_p s 93 (q.1 - 1) v) (zI q.1) (zI (i + 1)) b := by
          intro v hv
          refine next _ _ (fr.refl.p rfl) (rc_fr (fun k => by rw [g_p_a hb1.1]) _ _ hrc) (fun k hk => ?_) ?_ ?_ ?_
          · show _ = va_up _ _ _ _
            rw [va_upe, g_p]
            by_cases hk2 : k = q.1 - 1
            · simp [hk2, hv]
            · simp only [hk2, and_false, if_false]
              exact hstk k (by omega)
          · rw [g_p_a (by omega)]; exact hf
          · rw [g_p_a (by omega)]; exact hpk
          · rw [g_p_a (by omega)]; exact hsm
        have hin : bi_in (zI (q.1 - 1)) 950 = true := in_zI (by omega) (by omega)
        exact ⟨hin, fun z => ⟨hin, nx _ (by simp [z, b2i])⟩, fun z => ⟨hin, nx _ (by simp [Decidable.of_not_not z, b2i])⟩⟩
def rco (s : bi_St) (a C : Nat) (v : Int32) (P : Option (List (Nat × Nat))) : Prop := match P with
  | none => v = -1
  | some P => ∃ n, v = zI n ∧ n < 1400 ∧ rc s a P n ∧ ok_p C P 0
theorem rc_lt {s : bi_St} {a : Nat} {P : List (Nat × Nat)} {i : Nat} (h : rc s a P i) : i < 1400 := by
  cases P with
  | nil => exact h.1
  | cons => exact h.1
theorem ct_doesHold {X : bi_X} {d : Nat} {K : Int32 → bi_St → Prop} {E : Nat → bi_St → Prop} {b C : Nat} {e : ev_E} {tl : Bool} (hb : b = 87 ∨ b = 88) (hC : C ≤ 4) {s : bi_St} {P : List (Nat × Nat)} {n : Nat} (hr : rc s b P n) (hp : ok_p C P 0)
    (htl : st_g s 77 47 = b2i tl) (hl : ∀ c, c < C → st_g s 92 c = e.1 c) (hme : st_g s 92 4 = e.2.1) (hmi : st_g s 77 43 = e.2.2)
    (k : ∀ t, fr wE s t → st_g t 77 46 = b2i (ev e P).2.2.1 → st_g t 77 44 = st_g s 77 44 + (if tl then (ev e P).2.2.2.1 else 0) → st_g t 77 45 = st_g s 77 45 + (if tl then (ev e P).2.2.2.2 else 0) → K (b2i (ev_ok (ev e P))) t) : cI X (d + 1) 210 [.ref 77, .ref b, .int (zI n)] s K E := by
  have hb1 : b ≠ 93 ∧ b ≠ 77 := by rcases hb with h | h <;> omega
  have hk : ∀ s : bi_St, bi_kd (st_mm s) b = (14, 1400) := by rcases hb with h | h <;> subst h <;> intro s <;> rfl
  have hn : Nat.beq b 4999 = false := by rcases hb with h | h <;> subst h <;> rfl
  refine en_X12_doesHold hk hn ?_
  have f0 : fr wE s (st_p s 77 46 0) := fr.refl.p rfl
  refine ct_doesHoldL (e := e) (tl := tl) (p0 := st_g s 77 44) (p1 := st_g s 77 45) hb hC P n (0, fun _ => 0, false, 0, 0) _ hp (rc_fr (fun k => g_p_a hb1.2) _ _ hr) (by omega) (fun k hk => by omega) (by rw [g_p_eq]; rfl) (by rw [g_p_k (by omega)]; exact htl) ?_ ?_ (fun c hc => ?_) ?_ ?_ (fun t ht => k t (f0.trans ht))
  · rw [g_p_k (by omega)]; simp
  · rw [g_p_k (by omega)]; simp
  · rw [g_p_a (by omega)]; exact hl c hc
  · rw [g_p_a (by omega)]; exact hme
  · rw [g_p_k (by omega)]; exact hmi
end EV2
