/-! ===== how a rule is worked out: on both sides alike ===== -/
section EV
abbrev ev_E : Type := (Nat → Int32) × Int32 × Int32
abbrev ev_Q : Type := Nat × (Nat → Int32) × Bool × Int32 × Int32
def ev_v0 (e : ev_E) (o : Nat × Nat) : Int32 := if o.1 = 1 then e.1 o.2 else if o.1 = 2 then e.2.1 else if o.1 = 3 then b2i (tb e.2.2 o.2) else zI o.2
def ev_v2 (o : Nat) (x y : Int32) : Int32 := if o = 6 then x + y else if o = 7 then x - y else if o = 8 then x * y else if o = 9 then (if y = 0 then 0 else x / y) else if o = 10 then b2i (decide (x < y)) else if o = 11 then b2i (decide (x = y)) else if o = 12 then b2i (decide (¬ x = 0) && decide (¬ y = 0)) else b2i (decide (¬ x = 0) || decide (¬ y = 0))
def ev_1 (e : ev_E) (q : ev_Q) (o : Nat × Nat) : ev_Q :=
  if o.1 ≤ 3 then (q.1 + 1, va_up q.2.1 q.1 (ev_v0 e o), q.2.2)
  else if o.1 = 4 then (q.1, q.2.1, q.2.2.1, q.2.2.2.1 + 1, q.2.2.2.2 + q.2.1 (q.1 - 1))
  else if o.1 = 5 then (q.1, va_up q.2.1 (q.1 - 1) (b2i (decide (q.2.1 (q.1 - 1) = 0))), q.2.2)
  else (q.1 - 1, va_up q.2.1 (q.1 - 2) (ev_v2 o.1 (q.2.1 (q.1 - 2)) (q.2.1 (q.1 - 1))), q.2.2.1 || (decide (o.1 = 9) && decide (q.2.1 (q.1 - 1) = 0)), q.2.2.2)
def ev_s (e : ev_E) (P : List (Nat × Nat)) (q : ev_Q) : ev_Q := P.foldl (ev_1 e) q
def ev (e : ev_E) (P : List (Nat × Nat)) : ev_Q := ev_s e P (0, fun _ => 0, false, 0, 0)
def ev_ok (q : ev_Q) : Bool := decide (¬ q.2.1 0 = 0) && !q.2.2.1
def op_n (o : Nat) : Nat := if o ≤ 3 then 0 else if o ≤ 5 then 1 else 2
/-- an operation that may stand, with C columns -/
def op_ok (C : Nat) (o : Nat × Nat) : Prop := o.1 ≤ 13 ∧ o.2 ≤ 9999 ∧ (o.1 = 1 → o.2 < C) ∧ (o.1 = 3 → o.2 < 6)
def ok_p (C : Nat) : List (Nat × Nat) → Nat → Prop
  | [], h => h = 1
  | o :: P, h => op_ok C o ∧ op_n o.1 ≤ h ∧ h - op_n o.1 < 64 ∧ ok_p C P (h - op_n o.1 + 1)
theorem ev_1_h {e : ev_E} {q : ev_Q} {o : Nat × Nat} (h : op_n o.1 ≤ q.1) : (ev_1 e q o).1 = q.1 - op_n o.1 + 1 := by
  unfold ev_1 op_n at *
  by_cases h1 : o.1 ≤ 3
  · simp [h1]
  · by_cases h2 : o.1 = 4
    · simp [h1, h2] at *; omega
    · by_cases h3 : o.1 = 5
      · simp [h3] at *; omega
      · have : ¬ o.1 ≤ 5 := by omega
        simp [h1, h2, h3, this] at *; omega
/-- the class's word of an operation -/
def cw (o : Nat × Nat) : Int32 := zI o.1 ||| (zI o.2 <<< ((4 : Int32) &&& 31))
theorem tb_zI {n p : Nat} (h : p < 32) : tb (zI n) p = n.testBit p := by
  unfold tb zI
  rw [Int32.toBitVec_ofNat', BitVec.getLsbD_ofNat]; simp [h]
theorem tb_zI_hi {n k p : Nat} (hn : n < 2 ^ k) (hp : k ≤ p) (h : p < 32) : tb (zI n) p = false := by
  rw [tb_zI h]
  exact Nat.testBit_lt_two_pow (Nat.lt_of_lt_of_le hn (Nat.pow_le_pow_right (by omega) hp))
theorem tb_shl4 {x : Int32} {p : Nat} (h : p < 32) : tb (x <<< ((4 : Int32) &&& 31)) p = (decide (4 ≤ p) && tb x (p - 4)) := by
  unfold tb
  rw [Int32.toBitVec_shiftLeft]
  have : (((4 : Int32) &&& 31).toBitVec.smod 32).toNat = 4 := by decide
  rw [BitVec.shiftLeft_eq', this, BitVec.getLsbD_shiftLeft]
  by_cases h4 : 4 ≤ p
  · have : ¬ p < 4 := by omega
    simp [h4, this, h]
  · have : p < 4 := by omega
    simp [h4, this]
theorem tb_shr4 {x : Int32} {p : Nat} (h : p + 4 < 32) : tb (x >>> ((4 : Int32) &&& 31)) p = tb x (p + 4) := by
  unfold tb
  rw [Int32.toBitVec_shiftRight]
  have : (((4 : Int32) &&& 31).toBitVec.smod 32).toNat = 4 := by decide
  rw [BitVec.sshiftRight', this, BitVec.getLsbD_sshiftRight]
  have h1 : ¬ 32 ≤ p := by omega
  have h2 : 4 + p < 32 := by omega
  have h3 : ¬ 28 ≤ p := by omega
  simp [h1, h2, h3, Nat.add_comm]
theorem tb_shr4_hi {x : Int32} {p : Nat} (h : 32 ≤ p + 4) (hp : p < 32) (hx : tb x 31 = false) : tb (x >>> ((4 : Int32) &&& 31)) p = false := by
  unfold tb at *
  rw [Int32.toBitVec_shiftRight]
  have : (((4 : Int32) &&& 31).toBitVec.smod 32).toNat = 4 := by decide
  rw [BitVec.sshiftRight', this, BitVec.getLsbD_sshiftRight]
  have h1 : ¬ 32 ≤ p := by omega
  have h2 : ¬ 4 + p < 32 := by omega
  have h3 : x.toBitVec.msb = false := by rw [BitVec.msb_eq_getLsbD_last]; exact hx
  simp [h1, h2, h3]
theorem tb_15 {p : Nat} (h : p < 32) : tb 15 p = decide (p < 4) := by
  have : ∀ p : Fin 32, tb 15 p.1 = decide (p.1 < 4) := by decide
  exact this ⟨p, h⟩
theorem cw_op {o : Nat × Nat} (h1 : o.1 < 16) (h2 : o.2 ≤ 9999) : cw o &&& 15 = zI o.1 := by
  apply tb_ext
  intro p hp
  unfold cw
  rw [tb_and, tb_or, tb_shl4 hp, tb_15 hp]
  by_cases h4 : p < 4
  · have : ¬ 4 ≤ p := by omega
    simp [h4, this]
  · rw [tb_zI_hi (k := 4) h1 (by omega) hp]; simp [h4]
theorem cw_arg {o : Nat × Nat} (h1 : o.1 < 16) (h2 : o.2 ≤ 9999) : cw o >>> ((4 : Int32) &&& 31) = zI o.2 := by
  apply tb_ext
  intro p hp
  have hh : ∀ q, 14 ≤ q → q < 32 → tb (zI o.2) q = false := fun q h3 h4 => tb_zI_hi (k := 14) (by omega) h3 h4
  by_cases h4 : p + 4 < 32
  · rw [tb_shr4 h4]
    unfold cw
    rw [tb_or, tb_shl4 h4, tb_zI_hi (k := 4) h1 (by omega) h4]
    simp
  · rw [tb_shr4_hi (by omega) hp, hh p (by omega) hp]
    unfold cw
    rw [tb_or, tb_shl4 (by omega), tb_zI_hi (k := 4) h1 (by omega) (by omega), hh _ (by omega) (by omega)]
    simp
/-- what holds() may change of the class -/
def wH (a k : Nat) : Bool := Nat.beq a 60 || (Nat.beq a 57 && Nat.ble 7 k)
theorem wH_ne {a k : Nat} (h1 : a ≠ 60) (h2 : a ≠ 57) : wH a k = false := by
  unfold wH
  rw [Bool.or_eq_false_iff, Bool.and_eq_false_iff]
  exact ⟨by rw [Bool.eq_false_iff]; intro z; exact h1 (Nat.eq_of_beq_eq_true z), Or.inl (by rw [Bool.eq_false_iff]; intro z; exact h2 (Nat.eq_of_beq_eq_true z))⟩
theorem ct_ofNone {X : bi_X} {d : Nat} {K : Int32 → bi_St → Prop} {E : Nat → bi_St → Prop} {s : bi_St} {o : Nat × Nat} {e : ev_E} {C : Nat} (hC : C ≤ 4) (h0 : o.1 ≤ 3) (ho : op_ok C o)
    (h1 : ∀ c, c < C → st_g s 59 c = e.1 c) (h2 : st_g s 57 5 = e.2.1) (h3 : st_g s 57 6 = e.2.2) (k : K (ev_v0 e o) s) : cI X d 35 [.ref 57, .int (zI o.1), .int (zI o.2)] s K E := by
  obtain ⟨a1, a2, a3, a4⟩ := ho
  refine en_X2_ofNone ?_
  unfold ev_v0 at k
  refine ⟨fun hc => ?_, fun hc => ?_⟩
  · rw [litI, zI_eq (by omega) (by omega)] at hc
    have := a3 hc
    refine ⟨fun hc2 => ?_, fun hc2 => ?_⟩
    · rw [litI, zI_le (by omega) (by omega)] at hc2
      have : (4 : Nat) ≤ o.2 := hc2
      omega
    · rw [if_pos hc] at k
      rw [zI_nat (by omega), h1 _ this]
      exact ⟨in_zI (by omega) (by omega), k⟩
  · rw [litI, zI_eq (by omega) (by omega)] at hc
    rw [if_neg hc] at k
    refine ⟨fun hc2 => ?_, fun hc2 => ?_⟩
    · rw [litI, zI_eq (by omega) (by omega)] at hc2
      rw [if_pos hc2] at k
      rw [h2]; exact k
    · rw [litI, zI_eq (by omega) (by omega)] at hc2
      rw [if_neg hc2] at k
      refine ⟨fun hc3 => ?_, fun hc3 => ?_⟩
      · rw [litI, zI_eq (by omega) (by omega)] at hc3
        rw [if_pos hc3] at k
        have := a4 hc3
        rw [h3, tb_b2i (by omega)]
        exact k
      · rw [litI, zI_eq (by omega) (by omega)] at hc3
        rw [if_neg hc3] at k
        exact k
theorem lt_of_nle {x y : Int32} (h : ¬ y ≤ x) : x < y := by
  rw [Int32.le_iff_toInt_le] at h; rw [Int32.lt_iff_toInt_lt]; omega
theorem nlt_of_le {x y : Int32} (h : y ≤ x) : ¬ x < y := by
  rw [Int32.le_iff_toInt_le] at h; rw [Int32.lt_iff_toInt_lt]; omega
theorem ct_ofTwo {X : bi_X} {d : Nat} {K : Int32 → bi_St → Prop} {E : Nat → bi_St → Prop} {s : bi_St} {o : Nat} {x y : Int32} {f : Bool} (h0 : 6 ≤ o) (h1 : o ≤ 13) (hf : st_g s 57 7 = b2i f)
    (k : ∀ t, fr wH s t → (∀ q, st_g t 60 q = st_g s 60 q) → st_g t 57 7 = b2i (f || (decide (o = 9) && decide (y = 0))) → st_g t 57 8 = st_g s 57 8 → st_g t 57 9 = st_g s 57 9 → K (ev_v2 o x y) t) : cI X d 37 [.ref 57, .int (zI o), .int x, .int y] s K E := by
  have e1 : ∀ a : Nat, a < 2147483648 → (zI o = OfNat.ofNat a ↔ o = a) := fun a ha => zI_eq (by omega) ha
  refine en_X2_ofTwo ?_
  have ks : ¬ o = 9 → K (ev_v2 o x y) s := fun h => k s fr.refl (fun _ => rfl) (by rw [hf]; simp [h]) rfl rfl
  unfold ev_v2 at ks k
  rw [e1 6 (by omega), e1 7 (by omega), e1 8 (by omega), e1 9 (by omega), e1 10 (by omega), e1 11 (by omega), e1 12 (by omega)]
  refine ⟨fun hc => ?_, fun hc => ⟨fun hc2 => ?_, fun hc2 => ⟨fun hc3 => ?_, fun hc3 => ⟨fun hc4 => ?_, fun hc4 => ⟨fun hc5 => ?_, fun hc5 => ⟨fun hc6 => ?_, fun hc6 => ⟨fun hc7 => ?_, fun hc7 => ?_⟩⟩⟩⟩⟩⟩⟩
  · have := ks (by omega); simpa [hc] using this
  · have := ks (by omega); simpa [hc2] using this
  · have := ks (by omega); simpa [hc3] using this
  · rw [hf]
    have f0 : b2i f ||| 0 = b2i f := by cases f <;> rfl
    have f1 : b2i f ||| 1 = b2i true := by cases f <;> rfl
    rw [f0, f1]
    have k2 := fun v => k (st_p s 57 7 v) (fr.refl.p rfl) (fun q => g_p_a (by omega)) 
    refine ⟨fun hy => ⟨b2i_bool _, fun _ => ⟨hy, ?_⟩, fun hn => absurd hy hn⟩, fun hy => ⟨b2i_bool _, fun hn => absurd hn hy, fun _ => ?_⟩⟩
    · have := k2 (b2i f) (by rw [g_p_eq]; simp [hy]) (g_p_k (by omega)) (g_p_k (by omega))
      simpa [hc4, hy] using this
    · have hy := Decidable.of_not_not hy
      have := k2 (b2i true) (by rw [g_p_eq]; simp [hy, hc4]) (g_p_k (by omega)) (g_p_k (by omega))
      simpa [hc4, hy] using this
  · have := ks (by omega)
    refine ⟨fun hy => ?_, fun hy => ?_⟩
    · simpa [hc5, nlt_of_le hy, b2i] using this
    · simpa [hc5, lt_of_nle hy, b2i] using this
  · have := ks (by omega)
    refine ⟨fun hy => ?_, fun hy => ?_⟩
    · simpa [hc6, hy, b2i] using this
    · simpa [hc6, Decidable.of_not_not hy, b2i] using this
  · have := ks (by omega)
    refine ⟨fun hy => ?_, fun hy => ⟨fun hz => ?_, fun hz => ?_⟩⟩
    · simpa [hc7, hy, b2i] using this
    · simpa [hc7, hy, hz, b2i] using this
    · simpa [hc7, hy, hz, b2i] using this
  · have h13 : o = 13 := by omega
    have := ks (by omega)
    refine ⟨fun hy => ?_, fun hy => ⟨fun hz => ?_, fun hz => ?_⟩⟩
    · simpa [h13, hy, b2i] using this
    · simpa [h13, Decidable.of_not_not hy, hz, b2i] using this
    · simpa [h13, hy, hz, b2i] using this
theorem va_upe {α : Type} (f : Nat → α) (k : Nat) (v : α) (i : Nat) : va_up f k v i = if i = k then v else f i := by
  unfold va_up
  by_cases h : i = k
  · simp [h]
  · simp [h]
theorem ct_holdsL {X : bi_X} {d : Nat} {K : Int32 → bi_St → Prop} {E : Nat → bi_St → Prop} {b C : Nat} {e : ev_E} (hb : st_isR b) (hC : C ≤ 4) :
    ∀ (P : List (Nat × Nat)) (i : Nat) (q : ev_Q) (s : bi_St), ok_p C P q.1 → i + P.length ≤ 700 → (∀ k (hk : k < P.length), st_g s (b + 1) (i + k) = cw P[k]) → q.1 ≤ 64 → (∀ k, k < q.1 → st_g s 60 k = q.2.1 k) →
      st_g s 57 7 = b2i q.2.2.1 → st_g s 57 8 = q.2.2.2.1 → st_g s 57 9 = q.2.2.2.2 → (∀ c, c < C → st_g s 59 c = e.1 c) → st_g s 57 5 = e.2.1 → st_g s 57 6 = e.2.2 →
      (∀ t, fr wH s t → st_g t 57 7 = b2i (ev_s e P q).2.2.1 → st_g t 57 8 = (ev_s e P q).2.2.2.1 → st_g t 57 9 = (ev_s e P q).2.2.2.2 → K (b2i (ev_ok (ev_s e P q))) t) →
      at_X2_holds_42 X (d + 1) K E s (zI q.1) (zI (i + P.length)) (zI i) b := by
  have hb1 : b + 1 ≠ 57 ∧ b + 1 ≠ 59 ∧ b + 1 ≠ 60 := by rcases hb with h | h | h <;> omega
  intro P
  induction P with
  | nil =>
    intro i q s hp hi hcode hq hstk hf hpk hsm hl hme hmi k
    have k := k s fr.refl hf hpk hsm
    have hp : q.1 = 1 := hp
    simp only [List.length_nil, Nat.add_zero] at *
    have e0 := hstk 0 (by omega)
    have k : K (b2i (ev_ok q)) s := k
    refine go_X2_holds_42 hb ⟨fun _ => ⟨rfl, fun hz => ?_, fun hz => ⟨fun hf2 => ?_, fun hf2 => ?_⟩⟩, fun hc => absurd ((zI_le (by omega) (by omega)).mpr (Nat.le_refl i)) hc⟩
    · rw [toN0, e0] at hz
      have : ev_ok q = false := by simp [ev_ok, hz]
      rw [this] at k
      exact go_X2_holds_221 k
    · rw [hf, b2i_ne0] at hf2
      have : ev_ok q = false := by simp [ev_ok, hf2]
      rw [this] at k
      exact go_X2_holds_221 k
    · rw [toN0, e0] at hz
      rw [hf, b2i_ne0] at hf2
      have : ev_ok q = true := by simp [ev_ok, hz]; simpa using hf2
      rw [this] at k
      exact k
  | cons o P ih =>
    intro i q s hp hi hcode hq hstk hf hpk hsm hl hme hmi k
    obtain ⟨ho, hn, h64, hp⟩ := hp
    have hlen : (o :: P).length = P.length + 1 := rfl
    have c0 : st_g s (b + 1) i = cw o := hcode 0 (by rw [hlen]; omega)
    have a1 := ho.1
    have a2 := ho.2.1
    have hstep := ev_1_h (e := e) hn
    have hev : ev_s e (o :: P) q = ev_s e P (ev_1 e q o) := rfl
    rw [hev] at k
    rw [hlen] at hi
    rw [hlen, show i + (P.length + 1) = (i + 1) + P.length by omega]
    have hcode' : ∀ t : bi_St, fr wH s t → ∀ k (hk : k < P.length), st_g t (b + 1) (i + 1 + k) = cw P[k] := fun t ht k hk => by
      rw [ht.g (wH_ne hb1.2.2 hb1.1), show i + 1 + k = i + (k + 1) by omega]
      exact hcode (k + 1) (by rw [hlen]; omega)
    have next : ∀ t v, fr wH s t → q.1 - op_n o.1 < 64 → (∀ k, k < q.1 - op_n o.1 + 1 → st_g (st_p t 60 (q.1 - op_n o.1) v) 60 k = (ev_1 e q o).2.1 k) → st_g t 57 7 = b2i (ev_1 e q o).2.2.1 → st_g t 57 8 = (ev_1 e q o).2.2.2.1 → st_g t 57 9 = (ev_1 e q o).2.2.2.2 →
        at_X2_holds_192 X (d + 1) K E (st_p t 60 (q.1 - op_n o.1) v) (zI (q.1 - op_n o.1)) (zI (i + 1 + P.length)) (zI i) b := by
      intro t v ht hlt hs h7 h8 h9
      refine go_X2_holds_192 hb ?_
      rw [zI_add1, zI_add1, ← hstep]
      have ht2 : fr wH s (st_p t 60 (q.1 - op_n o.1) v) := ht.p rfl
      refine ih (i + 1) (ev_1 e q o) _ (by rw [hstep]; exact hp) (by omega) (hcode' _ ht2) (by rw [hstep]; omega) (by rw [hstep]; exact hs) (by rw [g_p_a (by omega)]; exact h7) (by rw [g_p_a (by omega)]; exact h8) (by rw [g_p_a (by omega)]; exact h9) (fun c hc => ?_) ?_ ?_ (fun u hu => k u (ht2.trans hu))
      · rw [ht2.g (wH_ne (by omega) (by omega))]; exact hl c hc
      · rw [ht2.g rfl]; exact hme
      · rw [ht2.g rfl]; exact hmi
    refine go_X2_holds_42 hb ⟨fun hc => ?_, fun _ => ⟨in_zI (by omega) (by omega), in_zI (by omega) (by omega), ?_⟩⟩
    · rw [zI_le (by omega) (by omega)] at hc; omega
    · rw [zI_nat (show i < 2147483648 by omega), c0, cw_op (by omega) a2, cw_arg (by omega) a2]
      have e1 : ∀ a : Nat, a < 2147483648 → ((OfNat.ofNat a : Int32) < zI o.1 ↔ a < o.1) := fun a ha => zI_lt ha (by omega)
      rw [e1 3 (by omega), e1 5 (by omega)]
      have e2 : ∀ a : Nat, a < 2147483648 → (zI q.1 < (OfNat.ofNat a : Int32) ↔ q.1 < a) := fun a ha => zI_lt (by omega) ha
      rw [e2 2 (by omega), e2 1 (by omega), e2 0 (by omega)]
      refine ⟨fun h3 => ⟨fun h5 => ?_, fun h5 => ?_⟩, fun h3 => ?_⟩
      · have n2 : op_n o.1 = 2 := by unfold op_n; rw [if_neg (by omega), if_neg (by omega)]
        rw [n2] at hn h64 next
        refine ⟨fun z => by omega, fun _ => ?_⟩
        have es : zI q.1 - 2 = zI (q.1 - 2) := zI_sub hn
        have es1 : zI (q.1 - 2) + 1 = zI (q.1 - 1) := by rw [zI_add1]; congr 1; omega
        rw [es, es1]
        refine ⟨fun _ => ⟨fun _ => ⟨fun _ => ⟨in_zI h64 (by omega), in_zI (by omega) (by omega), ?_⟩, fun z => absurd (by decide) z⟩, fun z => absurd (by decide) z⟩, fun z => absurd ((zI_lt (by omega) (by omega)).mpr h64) z⟩
        rw [zI_nat (by omega), zI_nat (by omega), hstk _ (by omega), hstk _ (by omega)]
        refine ct_ofTwo (by omega) (by omega) hf (fun t ht h60 h7 h8 h9 => ⟨in_zI h64 (by omega), next t _ ht h64 (fun k hk => ?_) ?_ ?_ ?_⟩)
        · simp only [ev_1, if_neg (show ¬ o.1 ≤ 3 by omega), if_neg (show ¬ o.1 = 4 by omega), if_neg (show ¬ o.1 = 5 by omega)]
          rw [va_upe, g_p]
          by_cases hk2 : k = q.1 - 2
          · simp [hk2]
          · simp only [hk2, and_false, if_false]
            rw [h60, hstk k (by omega)]
        · simp only [ev_1, if_neg (show ¬ o.1 ≤ 3 by omega), if_neg (show ¬ o.1 = 4 by omega), if_neg (show ¬ o.1 = 5 by omega)]
          exact h7
        · simp only [ev_1, if_neg (show ¬ o.1 ≤ 3 by omega), if_neg (show ¬ o.1 = 4 by omega), if_neg (show ¬ o.1 = 5 by omega)]
          rw [h8]; exact hpk
        · simp only [ev_1, if_neg (show ¬ o.1 ≤ 3 by omega), if_neg (show ¬ o.1 = 4 by omega), if_neg (show ¬ o.1 = 5 by omega)]
          rw [h9]; exact hsm
      · have n2 : op_n o.1 = 1 := by unfold op_n; rw [if_neg (by omega), if_pos (by omega)]
        rw [n2] at hn h64 next
        refine ⟨fun z => by omega, fun _ => ?_⟩
        have es : zI q.1 - 1 = zI (q.1 - 1) := zI_sub hn
        rw [es]
        refine ⟨fun _ => ⟨fun _ => ⟨fun z => absurd rfl z, fun _ => ⟨in_zI h64 (by omega), ?_⟩⟩, fun z => absurd (by decide) z⟩, fun z => absurd ((zI_lt (by omega) (by omega)).mpr h64) z⟩
        rw [zI_nat (by omega), hstk _ (by omega)]
        refine en_X2_ofOne ⟨fun h5' => ?_, fun h5' => ?_⟩
        · rw [litI, zI_eq (by omega) (by omega)] at h5'
          have h4 : o.1 = 4 := by have : ¬ o.1 = 5 := h5'; omega
          refine ⟨in_zI h64 (by omega), next _ _ ((fr.refl.p rfl).p rfl) h64 (fun k hk => ?_) ?_ ?_ ?_⟩
          · simp only [ev_1, h4, if_true, if_neg (show ¬ 4 ≤ 3 by omega)]
            rw [g_p]
            by_cases hk2 : k = q.1 - 1
            · simp [hk2]
            · simp only [hk2, and_false, if_false]
              rw [g_p_a (by omega), g_p_a (by omega), hstk k (by omega)]
          · simp only [ev_1, h4, if_true, if_neg (show ¬ 4 ≤ 3 by omega)]
            rw [g_p_k (by omega), g_p_k (by omega)]; exact hf
          · simp only [ev_1, h4, if_true, if_neg (show ¬ 4 ≤ 3 by omega)]
            rw [g_p_k (by omega), g_p_eq, hpk]
          · simp only [ev_1, h4, if_true, if_neg (show ¬ 4 ≤ 3 by omega)]
            rw [g_p_eq, g_p_k (by omega), hsm]
        · have h5' := Decidable.of_not_not h5'
          rw [litI, zI_eq (by omega) (by omega)] at h5'
          have h5' : o.1 = 5 := h5'
          have nx := fun v (hv : v = b2i (decide (q.2.1 (q.1 - 1) = 0))) => next s v fr.refl h64 (fun k hk => by
            simp only [ev_1, h5', if_true, if_neg (show ¬ 5 ≤ 3 by omega), if_neg (show ¬ 5 = 4 by omega)]
            rw [va_upe, g_p]
            by_cases hk2 : k = q.1 - 1
            · simp [hk2, hv]
            · simp only [hk2, and_false, if_false]
              rw [hstk k (by omega)]) (by
            simp only [ev_1, h5', if_true, if_neg (show ¬ 5 ≤ 3 by omega), if_neg (show ¬ 5 = 4 by omega)]; exact hf) (by
            simp only [ev_1, h5', if_true, if_neg (show ¬ 5 ≤ 3 by omega), if_neg (show ¬ 5 = 4 by omega)]; exact hpk) (by
            simp only [ev_1, h5', if_true, if_neg (show ¬ 5 ≤ 3 by omega), if_neg (show ¬ 5 = 4 by omega)]; exact hsm)
          refine ⟨fun hz => ⟨in_zI h64 (by omega), nx _ (by simp [hz, b2i])⟩, fun hz => ⟨in_zI h64 (by omega), nx _ (by simp [Decidable.of_not_not hz, b2i])⟩⟩
      · have n2 : op_n o.1 = 0 := by unfold op_n; rw [if_pos (by omega)]
        rw [n2] at hn h64 next
        refine ⟨fun z => by omega, fun _ => ?_⟩
        have es : zI q.1 - 0 = zI (q.1 - 0) := zI_sub hn
        rw [es]
        refine ⟨fun _ => ⟨fun z => absurd rfl z, fun _ => ?_⟩, fun z => absurd ((zI_lt (by omega) (by omega)).mpr h64) z⟩
        rw [zI_nat (by omega)]
        refine ct_ofNone hC (by omega) ho hl hme hmi ⟨in_zI h64 (by omega), next s _ fr.refl h64 (fun k hk => ?_) ?_ ?_ ?_⟩
        · simp only [ev_1, if_pos (show o.1 ≤ 3 by omega)]
          rw [va_upe, g_p]
          by_cases hk2 : k = q.1
          · simp [hk2]
          · have : ¬ k = q.1 - 0 := by omega
            simp only [hk2, this, and_false, if_false]
            rw [hstk k (by omega)]
        · simp only [ev_1, if_pos (show o.1 ≤ 3 by omega)]; exact hf
        · simp only [ev_1, if_pos (show o.1 ≤ 3 by omega)]; exact hpk
        · simp only [ev_1, if_pos (show o.1 ≤ 3 by omega)]; exact hsm
end EV
