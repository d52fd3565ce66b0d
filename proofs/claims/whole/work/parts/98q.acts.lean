/-! ===== acts of the class, and how they are undone ===== -/
section ACTS
def insS (S : Sta) (l : Nat → Int32) : Sta := (S.1, S.2.1, S.2.2.1 + 1, fun q => if q = S.2.2.1 then l else S.2.2.2 q)
def delS (S : Sta) (r : Nat) : Sta := (S.1, S.2.1, S.2.2.1 - 1, fun q => if q < r then S.2.2.2 q else S.2.2.2 (q + 1))
def gifS (S : Sta) (r o : Nat) : Sta := (va_up S.1 r (S.1 r ^^^ s1 o), S.2)
def sameGO (S S' : Sta) : Prop := S'.2.1 = S.2.1 ∧ ∀ r, r < 6 → S'.1 r = S.1 r
/-- the entry e takes the state S back to S' -/
def un (C : Nat) (e : Nat → Int32) (S S' : Sta) : Prop :=
  (e 0 = 0 ∧ S'.2.2.1 + 1 = S.2.2.1 ∧ sameGO S S' ∧ ∀ r c, r < S'.2.2.1 → c < C → S'.2.2.2 r c = S.2.2.2 r c) ∨
  (∃ r c, e 0 = 1 ∧ e 1 = zI r ∧ e 2 = zI c ∧ r < S.2.2.1 ∧ c < C ∧ S'.2.2.1 = S.2.2.1 ∧ sameGO S S' ∧ ∀ q z, q < S.2.2.1 → z < C → S'.2.2.2 q z = if q = r ∧ z = c then e 3 else S.2.2.2 q z) ∨
  (∃ r, e 0 = 2 ∧ e 1 = zI r ∧ r ≤ S.2.2.1 ∧ S'.2.2.1 = S.2.2.1 + 1 ∧ S'.2.2.1 ≤ 16 ∧ sameGO S S' ∧ ∀ q z, q < S'.2.2.1 → z < C → S'.2.2.2 q z = if q < r then S.2.2.2 q z else if q = r then e (2 + z) else S.2.2.2 (q - 1) z) ∨
  (∃ r o, e 0 = 3 ∧ e 1 = zI r ∧ e 2 = zI o ∧ r < 6 ∧ o < 6 ∧ S'.2.2.1 = S.2.2.1 ∧ S'.2.1 = S.2.1 ∧ (∀ q, q < 6 → S'.1 q = if q = r then S.1 r ^^^ s1 o else S.1 q) ∧ ∀ q z, q < S.2.2.1 → z < C → S'.2.2.2 q z = S.2.2.2 q z) ∨
  (∃ i, e 0 = 4 ∧ e 1 = zI i ∧ i < 8 ∧ S'.2.2.1 = S.2.2.1 ∧ S'.2.1 = S.2.1 ^^^ s1 i ∧ (∀ q, q < 6 → S'.1 q = S.1 q) ∧ ∀ q z, q < S.2.2.1 → z < C → S'.2.2.2 q z = S.2.2.2 q z)
def AC (C : Nat) (F : Nat → Nat → Int32) : Nat → Sta → List Sta → Prop
  | 0, _, H => H = []
  | _ + 1, _, [] => False
  | m + 1, S, S' :: H => un C (F m) S S' ∧ AC C F m S' H
theorem un_congr {C : Nat} {e e' : Nat → Int32} {S S' : Sta} (hC : C ≤ 4) (h : ∀ j, j < 6 → e j = e' j) (k : un C e S S') : un C e' S S' := by
  have h0 := h 0 (by omega); have h1 := h 1 (by omega); have h2 := h 2 (by omega); have h3 := h 3 (by omega)
  unfold un at k ⊢
  rw [h0, h1, h2, h3] at k
  rcases k with k | k | ⟨r, k1, k2, k3, k4, k5, k6, k7⟩ | k | k
  · exact Or.inl k
  · exact Or.inr (Or.inl k)
  · refine Or.inr (Or.inr (Or.inl ⟨r, k1, k2, k3, k4, k5, k6, fun q z hq hz => ?_⟩))
    rw [k7 q z hq hz, h (2 + z) (by omega)]
  · exact Or.inr (Or.inr (Or.inr (Or.inl k)))
  · exact Or.inr (Or.inr (Or.inr (Or.inr k)))
theorem AC_congr {C : Nat} {F F' : Nat → Nat → Int32} (hC : C ≤ 4) : ∀ m S H, (∀ i j, i < m → j < 6 → F i j = F' i j) → AC C F m S H → AC C F' m S H := by
  intro m
  induction m with
  | zero => intro S H _ h; exact h
  | succ m ih =>
    intro S H h k
    cases H with
    | nil => exact k
    | cons S' H => exact ⟨un_congr hC (fun j hj => h m j (by omega) hj) k.1, ih S' H (fun i j hi hj => h i j (by omega) hj) k.2⟩
theorem AC_len {C : Nat} {F : Nat → Nat → Int32} : ∀ m S H, AC C F m S H → H.length = m := by
  intro m
  induction m with
  | zero => intro S H h; rw [show H = [] from h]; rfl
  | succ m ih =>
    intro S H k
    cases H with
    | nil => exact absurd k id
    | cons S' H => rw [List.length_cons, ih S' H k.2]
theorem AC_shift {C : Nat} {F : Nat → Nat → Int32} : ∀ m S H, AC C F (m + 1) S H → AC C (fun i => F (i + 1)) m S H.dropLast := by
  intro m
  induction m with
  | zero =>
    intro S H h
    have := AC_len _ _ _ h
    cases H with
    | nil => exact absurd h id
    | cons S' H =>
      cases H with
      | nil => rfl
      | cons => simp at this
  | succ m ih =>
    intro S H h
    cases H with
    | nil => exact absurd h id
    | cons S' H =>
      have hl := AC_len _ _ _ h.2
      cases H with
      | nil => simp at hl
      | cons S2 H2 =>
        rw [List.dropLast_cons_of_ne_nil (by simp)]
        exact ⟨h.1, ih S' (S2 :: H2) h.2⟩
def ae (s : bi_St) (a i j : Nat) : Int32 := st_g s (a + 3) (6 * i + j)
def m39 (m : Nat) : Nat := if m < 40 then m else 39
def h39 (m : Nat) (H : List Sta) : List Sta := if m < 40 then H else H.dropLast
/-- the class's acts -/
def HA (s : bi_St) (a C m : Nat) (S : Sta) (H : List Sta) : Prop := C ≤ 4 ∧ m ≤ 40 ∧ st_g s a 4 = zI m ∧ SC s a C S ∧ AC C (ae s a) m S H
/-- what an act may change of the state a -/
def wW (a c k : Nat) : Bool := Nat.beq c (a + 1) || (Nat.beq c (a + 2) || (Nat.beq c (a + 3) || (Nat.beq c a && (Nat.beq k 0 || (Nat.beq k 3 || Nat.beq k 4)))))
theorem wW_ne {a c k : Nat} (h0 : c ≠ a) (h1 : c ≠ a + 1) (h2 : c ≠ a + 2) (h3 : c ≠ a + 3) : wW a c k = false := by
  unfold wW
  rw [beq_ne h0, beq_ne h1, beq_ne h2, beq_ne h3]; rfl
theorem beq_rf (a : Nat) : Nat.beq a a = true := by rw [Nat.beq_eq]
theorem wW_1 (a k : Nat) : wW a (a + 1) k = true := by unfold wW; rw [beq_rf]; rfl
theorem wW_2 (a k : Nat) : wW a (a + 2) k = true := by unfold wW; rw [beq_rf]; simp
theorem wW_3 (a k : Nat) : wW a (a + 3) k = true := by unfold wW; rw [beq_rf]; simp
theorem wW_0 (a : Nat) : wW a a 0 = true ∧ wW a a 3 = true ∧ wW a a 4 = true := by unfold wW; rw [beq_rf]; simp
theorem mul6 (m : Nat) : zI m * 6 = zI (6 * m) := by
  have : zI m * 6 = zI (m * 6) := zI_mul m 6
  rw [this, Nat.mul_comm]
theorem mul4 (m : Nat) : zI m * 4 = zI (4 * m) := by
  have : zI m * 4 = zI (m * 4) := zI_mul m 4
  rw [this, Nat.mul_comm]
theorem zI_sub1 {n : Nat} (h : 1 ≤ n) : zI n - 1 = zI (n - 1) := zI_sub (m := 1) h
theorem ct_noteAct {X : bi_X} {d : Nat} {K : Int32 → bi_St → Prop} {E : Nat → bi_St → Prop} {s : bi_St} {a C m : Nat} {S : Sta} {H : List Sta} {kd wh : Int32} (hS : st_isS a) (hC : C ≤ 4) (hm : m ≤ 40) (h4 : st_g s a 4 = zI m) (hA : AC C (ae s a) m S H)
    (k : ∀ t, fr (fun c q => Nat.beq c (a + 3) || (Nat.beq c a && Nat.beq q 4)) s t → st_g t a 4 = zI (m39 m + 1) → ae t a (m39 m) 0 = kd → ae t a (m39 m) 1 = wh → AC C (ae t a) (m39 m) S (h39 m H) → K (zI (6 * m39 m + 2)) t) : cI X d 76 [.ref a, .int kd, .int wh] s K E := by
  have go : ∀ t, fr (fun c q => Nat.beq c (a + 3) || (Nat.beq c a && Nat.beq q 4)) s t → st_g t a 4 = zI (m39 m) → AC C (ae t a) (m39 m) S (h39 m H) → at_X6_noteAct_36 X d K E t kd wh a := by
    intro t ht h4t hAt
    have hm39 : m39 m < 40 := by unfold m39; by_cases h : m < 40 <;> simp [h]
    refine go_X6_noteAct_36 hS ?_
    have e1 : zI (6 * m39 m) + 1 = zI (6 * m39 m + 1) := zI_add1 _
    have e2 : zI (6 * m39 m) + 2 = zI (6 * m39 m + 2) := zI_add _ 2
    rw [h4t, mul6, e1, e2, zI_nat (show 6 * m39 m < 2147483648 by omega), zI_nat (show 6 * m39 m + 1 < 2147483648 by omega)]
    refine ⟨in_zI (by omega) (by omega), in_zI (by omega) (by omega), ?_⟩
    rw [g_p_a (by omega), g_p_a (by omega), h4t, zI_add1]
    refine k _ (((ht.p ?_).p ?_).p ?_) (by rw [g_p_eq]) ?_ ?_ (AC_congr hC _ _ _ (fun i j hi hj => ?_) hAt)
    · rw [beq_rf]; rfl
    · rw [beq_rf]; rfl
    · rw [beq_rf]; simp
    · unfold ae; rw [g_p_a (by omega), g_p_k (by omega)]; exact g_p_eq _ _ _ _
    · unfold ae; rw [g_p_a (by omega), g_p_eq]
    · unfold ae; rw [g_p_a (by omega), g_p_k (by omega), g_p_k (by omega)]
  refine en_X6_noteAct hS ⟨fun hlt => ?_, fun hge => ?_⟩
  · rw [h4] at hlt
    have hlt : m < 40 := (zI_lt (b := 40) (by omega) (by omega)).mp hlt
    refine go s fr.refl (by rw [h4]; unfold m39; simp [hlt]) ?_
    unfold m39 h39; simp only [hlt, if_true]; exact hA
  · rw [h4] at hge
    have hge : ¬ m < 40 := fun z => hge ((zI_lt (b := 40) (by omega) (by omega)).mpr z)
    have hm40 : m = 40 := by omega
    have e4 : st_g (st_p s a 4 39) a 4 = zI 39 := by rw [g_p_eq]; rfl
    have e6 : ((6 : Int32)).toNatClampNeg = 6 := rfl
    rw [e4, mul6, e6, toN0, zI_nat (show 6 * 39 < 2147483648 by omega)]
    refine ⟨⟨by decide, by decide, by decide, by omega, by omega⟩, ?_⟩
    have m9 : m39 m = 39 := by unfold m39; simp [hge]
    have h9 : h39 m H = H.dropLast := by unfold h39; simp [hge]
    refine go _ ((fr.refl.p (by rw [beq_rf]; simp)).cp (fun k => by rw [beq_rf]; rfl)) ?_ ?_
    · rw [g_cp, if_neg (fun z => by have := z.1; omega), e4, m9]
    · rw [m9, h9]
      rw [hm40] at hA
      refine AC_congr hC 39 S _ (fun i j hi hj => ?_) (AC_shift 39 S H hA)
      unfold ae
      rw [g_cp, if_pos ⟨rfl, by omega, by omega⟩, g_p_a (by omega)]
      congr 1
      omega
theorem SC_get {s : bi_St} {a C : Nat} {S : Sta} (h : SC s a C S) : st_isS a ∧ S.2.2.1 ≤ 16 ∧ st_g s a 0 = zI S.2.2.1 ∧ st_g s a 3 = S.2.1 ∧ (∀ r, r < 6 → st_g s (a + 2) r = S.1 r) ∧ ∀ r c, r < S.2.2.1 → c < C → st_g s (a + 1) (4 * r + c) = S.2.2.2 r c := h
theorem ct_noteInsert {X : bi_X} {d : Nat} {K : bi_St → Prop} {E : Nat → bi_St → Prop} {s : bi_St} {a C m : Nat} {S : Sta} {H : List Sta} {l : Nat → Int32} (hh : HA s a C m S H) (hn : S.2.2.1 < 16) (hl : ∀ c, c < C → st_g s 59 c = l c)
    (k : ∀ t, fr (wW a) s t → HA t a C (m39 m + 1) (insS S l) (S :: h39 m H) → K t) : cV X (d + 1) 77 [.ref a, .ref 59] s K E := by
  obtain ⟨hC, hm, h4, hSC, hA⟩ := hh
  obtain ⟨hS, hn16, h0, h3, hG, hc⟩ := hSC
  have hm39 : m39 m < 40 := by unfold m39; by_cases h : m < 40 <;> simp [h]
  have e4 : ((4 : Int32)).toNatClampNeg = 4 := rfl
  refine en_X6_noteInsert hS ⟨fun z => ?_, fun _ => ⟨fun _ => ?_, fun z => absurd (by decide) z⟩⟩
  · rw [h0] at z; have := (zI_le (a := 16) (by omega) (by omega)).mp z; omega
  · rw [h0, mul4, e4, toN0, zI_nat (show 4 * S.2.2.1 < 2147483648 by omega)]
    refine ⟨⟨by decide, zI_nn (by omega), by decide, by omega, by omega⟩, ?_⟩
    have hcp : ∀ q z, st_g (st_cp s 59 0 (a + 1) (4 * S.2.2.1) 4) q z = if q = a + 1 ∧ 4 * S.2.2.1 ≤ z ∧ z < 4 * S.2.2.1 + 4 then st_g s 59 (0 + (z - 4 * S.2.2.1)) else st_g s q z := fun q z => g_cp _ _ _ _ _ _ _ _
    have hne : ∀ q z, q ≠ a + 1 → st_g (st_cp s 59 0 (a + 1) (4 * S.2.2.1) 4) q z = st_g s q z := fun q z h => by rw [hcp, if_neg (fun w => h w.1)]
    refine ct_noteAct (S := S) (H := H) (m := m) hS hC hm (by rw [hne _ _ (by omega)]; exact h4) (AC_congr hC _ _ _ (fun i j _ _ => by unfold ae; rw [hne _ _ (by omega)]) hA) (fun t ht t4 tk tw tA => ?_)
    have hf : fr (wW a) s (st_p t a 0 (st_g t a 0 + 1)) := ((((fr.refl : fr (wW a) s s).cp (fun k => wW_1 a k)).trans (ht.mono (fun c q hz => ?_))).p (wW_0 a).1)
    · have g0 : st_g t a 0 = zI S.2.2.1 := by rw [ht.g (by rw [beq_ne (show a ≠ a + 3 by omega)]; simp; rfl), hne _ _ (by omega)]; exact h0
      refine k _ hf ⟨hC, by omega, by rw [g_p_k (by omega)]; exact t4, ⟨hS, ?_, ?_, ?_, fun r hr => ?_, fun r c hr hc2 => ?_⟩, ⟨Or.inl ⟨?_, rfl, ⟨rfl, fun _ _ => rfl⟩, fun r c hr hc2 => ?_⟩, AC_congr hC _ _ _ (fun i j _ _ => by unfold ae; rw [g_p_a (by omega)]) tA⟩⟩
      · show S.2.2.1 + 1 ≤ 16; omega
      · rw [g_p_eq, g0, zI_add1]; rfl
      · rw [g_p_k (by omega), ht.g (by rw [beq_ne (show a ≠ a + 3 by omega)]; simp; rfl), hne _ _ (by omega)]; exact h3
      · rw [g_p_a (by omega), ht.g (by rw [beq_ne (show a + 2 ≠ a + 3 by omega), beq_ne (show a + 2 ≠ a by omega)]; rfl), hne _ _ (by omega)]; exact hG r hr
      · rw [g_p_a (by omega), ht.g (by rw [beq_ne (show a + 1 ≠ a + 3 by omega), beq_ne (show a + 1 ≠ a by omega)]; rfl), hcp]
        show _ = (if r = S.2.2.1 then l else S.2.2.2 r) c
        have hr : r < S.2.2.1 + 1 := hr
        by_cases hrn : r = S.2.2.1
        · rw [if_pos ⟨rfl, by omega, by omega⟩, if_pos hrn, show 0 + (4 * r + c - 4 * S.2.2.1) = c by omega]; exact hl c hc2
        · rw [if_neg (fun z => by have := z.2.1; omega), if_neg hrn]; exact hc r c (by omega) hc2
      · show ae (st_p t a 0 (st_g t a 0 + 1)) a (m39 m) 0 = 0
        unfold ae at tk ⊢
        rw [g_p_a (by omega)]; exact tk
      · show S.2.2.2 r c = (if r = S.2.2.1 then l else S.2.2.2 r) c
        rw [if_neg (by omega)]
    · simp only [Bool.or_eq_true, Bool.and_eq_true, Nat.beq_eq] at hz
      rcases hz with hz | ⟨h1, h2⟩
      · rw [hz]; exact wW_3 a q
      · rw [h1, h2]; exact (wW_0 a).2.2
/-- what noteAct may change -/
def wN (a c q : Nat) : Bool := Nat.beq c (a + 3) || (Nat.beq c a && Nat.beq q 4)
theorem wN_wW (a c q : Nat) (hz : wN a c q = true) : wW a c q = true := by
  unfold wN at hz
  simp only [Bool.or_eq_true, Bool.and_eq_true, Nat.beq_eq] at hz
  rcases hz with hz | ⟨h1, h2⟩
  · rw [hz]; exact wW_3 a q
  · rw [h1, h2]; exact (wW_0 a).2.2
theorem wN_a {a q : Nat} (h : q ≠ 4) : wN a a q = false := by
  unfold wN
  rw [beq_ne (show a ≠ a + 3 by omega), beq_ne h]; simp
theorem wN_ne {a c q : Nat} (h1 : c ≠ a + 3) (h2 : c ≠ a) : wN a c q = false := by
  unfold wN
  rw [beq_ne h1, beq_ne h2]; rfl
/-- the state is as it was where noteAct was at work -/
theorem SC_wN {s t : bi_St} {a C : Nat} {S : Sta} (h : fr (wN a) s t) (hs : SC s a C S) : SC t a C S := by
  obtain ⟨h1, h2, h3, h4, h5, h6⟩ := hs
  exact ⟨h1, h2, by rw [h.g (wN_a (by omega))]; exact h3, by rw [h.g (wN_a (by omega))]; exact h4, fun r hr => by rw [h.g (wN_ne (by omega) (by omega))]; exact h5 r hr, fun r c hr hc => by rw [h.g (wN_ne (by omega) (by omega))]; exact h6 r c hr hc⟩
theorem ct_setNumber {X : bi_X} {d : Nat} {K : bi_St → Prop} {E : Nat → bi_St → Prop} {s : bi_St} {a r c : Nat} {v : Int32} (hS : st_isS a) (hr : r < 16) (hc : c < 4) (k : K (st_p s (a + 1) (4 * r + c) v)) : cV X (d + 1) 75 [.ref a, .int (zI r), .int (zI c), .int v] s K E := by
  refine en_X6_setNumber hS (en_X6_isCell hS ⟨fun z => absurd z (zI_nn (by omega)), fun _ => ⟨fun z => ?_, fun _ => ⟨fun z => absurd z (zI_nn (by omega)), fun _ => ⟨fun z => ?_, fun _ => ⟨fun z => absurd z (by decide), fun _ => ?_⟩⟩⟩⟩⟩)
  · have := (zI_le (a := 16) (by omega) (by omega)).mp z; omega
  · have := (zI_le (a := 4) (by omega) (by omega)).mp z; omega
  · rw [mul4, zI_add, zI_nat (by omega)]
    exact ⟨in_zI (by omega) (by omega), k⟩
theorem SC_cs {s : bi_St} {a C r c : Nat} {S : Sta} {v : Int32} (hC : C ≤ 4) (hs : SC s a C S) (hc : c < C) : SC (st_p s (a + 1) (4 * r + c) v) a C (cs S r c v) := by
  obtain ⟨h1, h2, h3, h4, h5, h6⟩ := hs
  refine ⟨h1, h2, by rw [g_p_a (by omega)]; exact h3, by rw [g_p_a (by omega)]; exact h4, fun q hq => by rw [g_p_a (by omega)]; exact h5 q hq, fun q z hq hz => ?_⟩
  show _ = (if q = r then va_up (S.2.2.2 r) c v else S.2.2.2 q) z
  rw [g_p]
  by_cases hqr : q = r
  · subst hqr
    rw [if_pos rfl, va_upe]
    by_cases hzc : z = c
    · rw [if_pos ⟨rfl, by rw [hzc]⟩, if_pos hzc]
    · rw [if_neg (fun w => hzc (by have := w.2; omega)), if_neg hzc]; exact h6 q z hq hz
  · rw [if_neg (fun w => hqr (by have := w.2; omega)), if_neg hqr]; exact h6 q z hq hz
theorem ct_noteUpdate {X : bi_X} {d : Nat} {K : bi_St → Prop} {E : Nat → bi_St → Prop} {s : bi_St} {a C m r c : Nat} {S : Sta} {H : List Sta} {v : Int32} (hh : HA s a C m S H) (hr : r < S.2.2.1) (hc : c < C)
    (k : ∀ t, fr (wW a) s t → HA t a C (m39 m + 1) (cs S r c v) (S :: h39 m H) → K t) : cV X (d + 2) 78 [.ref a, .int (zI r), .int (zI c), .int v] s K E := by
  obtain ⟨hC, hm, h4, hSC, hA⟩ := hh
  have hS := hSC.1
  have hn16 := hSC.2.1
  have hm39 : m39 m < 40 := by unfold m39; by_cases h : m < 40 <;> simp [h]
  refine en_X6_noteUpdate hS (ct_noteAct (S := S) (H := H) (m := m) hS hC hm h4 hA (fun t ht t4 tk tw tA => ⟨in_zI (by omega) (by omega), ?_⟩))
  have ht : fr (wN a) s t := ht
  rw [zI_nat (by omega)]
  refine ct_numberAt hS (by omega) (by omega) ⟨by rw [zI_add1]; exact in_zI (by omega) (by omega), ?_⟩
  rw [zI_add1, zI_nat (by omega), g_p_a (by omega)]
  have hcell : st_g t (a + 1) (4 * r + c) = S.2.2.2 r c := by rw [ht.g (wN_ne (by omega) (by omega))]; exact hSC.2.2.2.2.2 r c hr hc
  rw [hcell]
  refine ct_setNumber hS (by omega) (by omega) (k _ ?_ ⟨hC, by omega, ?_, ?_, ⟨Or.inr (Or.inl ⟨r, c, ?_, ?_, ?_, hr, hc, rfl, ⟨rfl, fun _ _ => rfl⟩, fun q z hq hz => ?_⟩), ?_⟩⟩)
  · exact (((ht.mono (wN_wW a)).p (wW_3 a _)).p (wW_3 a _)).p (wW_1 a _)
  · rw [g_p_a (by omega), g_p_a (by omega), g_p_a (by omega)]; exact t4
  · refine SC_cs hC ?_ hc
    have := SC_wN ht hSC
    exact SC_wN (s := t) ((fr.refl.p (by unfold wN; rw [beq_rf]; rfl)).p (by unfold wN; rw [beq_rf]; rfl)) this
  · show ae _ a (m39 m) 0 = 1
    unfold ae at tk ⊢
    rw [g_p_a (by omega), g_p_k (by omega), g_p_k (by omega)]; exact tk
  · show ae _ a (m39 m) 1 = zI r
    unfold ae at tw ⊢
    rw [g_p_a (by omega), g_p_k (by omega), g_p_k (by omega)]; exact tw
  · show ae _ a (m39 m) 2 = zI c
    unfold ae
    rw [g_p_a (by omega), g_p_k (by omega), g_p_eq]
  · show S.2.2.2 q z = if q = r ∧ z = c then ae _ a (m39 m) 3 else (if q = r then va_up (S.2.2.2 r) c v else S.2.2.2 q) z
    unfold ae
    rw [g_p_a (by omega)]
    by_cases hqr : q = r
    · subst hqr
      by_cases hzc : z = c
      · subst hzc
        rw [if_pos ⟨rfl, rfl⟩]
        exact (g_p_eq _ _ _ _).symm
      · rw [if_neg (fun w => hzc w.2), if_pos rfl, va_upe, if_neg hzc]
    · rw [if_neg (fun w => hqr w.1), if_neg hqr]
  · exact AC_congr hC _ _ _ (fun i j hi hj => by unfold ae; rw [g_p_a (by omega), g_p_k (by omega), g_p_k (by omega)]) tA
theorem ct_noteGift {X : bi_X} {d : Nat} {K : bi_St → Prop} {E : Nat → bi_St → Prop} {s : bi_St} {a C m r o : Nat} {S : Sta} {H : List Sta} (hh : HA s a C m S H) (hr : r < 6) (ho : o < 6)
    (k : ∀ t, fr (wW a) s t → HA t a C (m39 m + 1) (gifS S r o) (S :: h39 m H) → K t) : cV X (d + 1) 80 [.ref a, .int (zI r), .int (zI o)] s K E := by
  obtain ⟨hC, hm, h4, hSC, hA⟩ := hh
  have hS := hSC.1
  have hm39 : m39 m < 40 := by unfold m39; by_cases h : m < 40 <;> simp [h]
  refine en_X6_noteGift hS (ct_noteAct (S := S) (H := H) (m := m) hS hC hm h4 hA (fun t ht t4 tk tw tA => ⟨in_zI (by omega) (by omega), in_zI (by omega) (by omega), in_zI (by omega) (by omega), ?_⟩))
  have ht : fr (wN a) s t := ht
  rw [zI_nat (a := 6 * m39 m + 2) (by omega), zI_nat (a := r) (by omega), g_p_a (by omega)]
  obtain ⟨_, h2, h30, h33, hG, hcl⟩ := SC_wN ht hSC
  rw [hG r hr]
  refine k _ (((ht.mono (wN_wW a)).p (wW_3 a _)).p (wW_2 a _)) ⟨hC, by omega, ?_, ⟨hS, h2, ?_, ?_, fun q hq => ?_, fun q z hq hz => ?_⟩, ⟨Or.inr (Or.inr (Or.inr (Or.inl ⟨r, o, ?_, ?_, ?_, hr, ho, rfl, rfl, fun q hq => ?_, fun _ _ _ _ => rfl⟩))), ?_⟩⟩
  · rw [g_p_a (by omega), g_p_a (by omega)]; exact t4
  · rw [g_p_a (by omega), g_p_a (by omega)]; exact h30
  · rw [g_p_a (by omega), g_p_a (by omega)]; exact h33
  · show _ = va_up S.1 r (S.1 r ^^^ s1 o) q
    rw [va_upe, g_p]
    by_cases hqr : q = r
    · rw [if_pos ⟨rfl, hqr⟩, if_pos hqr]; rfl
    · rw [if_neg (fun w => hqr w.2), if_neg hqr, g_p_a (by omega)]; exact hG q hq
  · rw [g_p_a (by omega), g_p_a (by omega)]; exact hcl q z hq hz
  · show ae _ a (m39 m) 0 = 3
    unfold ae at tk ⊢
    rw [g_p_a (by omega), g_p_k (by omega)]; exact tk
  · show ae _ a (m39 m) 1 = zI r
    unfold ae at tw ⊢
    rw [g_p_a (by omega), g_p_k (by omega)]; exact tw
  · show ae _ a (m39 m) 2 = zI o
    unfold ae
    rw [g_p_a (by omega), g_p_eq]
  · show S.1 q = if q = r then va_up S.1 r (S.1 r ^^^ s1 o) r ^^^ s1 o else va_up S.1 r (S.1 r ^^^ s1 o) q
    by_cases hqr : q = r
    · rw [if_pos hqr, va_upe, if_pos rfl, xor_xor, hqr]
    · rw [if_neg hqr, va_upe, if_neg hqr]
  · exact AC_congr hC _ _ _ (fun i j hi hj => by unfold ae; rw [g_p_a (by omega), g_p_k (by omega)]) tA
theorem ct_noteSwitch {X : bi_X} {d : Nat} {K : bi_St → Prop} {E : Nat → bi_St → Prop} {s : bi_St} {a C m i : Nat} {S : Sta} {H : List Sta} (hh : HA s a C m S H) (hi : i < 8)
    (k : ∀ t, fr (wW a) s t → HA t a C (m39 m + 1) (sw S (S.2.1 ^^^ s1 i)) (S :: h39 m H) → K t) : cV X (d + 1) 81 [.ref a, .int (zI i)] s K E := by
  obtain ⟨hC, hm, h4, hSC, hA⟩ := hh
  have hS := hSC.1
  have hm39 : m39 m < 40 := by unfold m39; by_cases h : m < 40 <;> simp [h]
  refine en_X6_noteSwitch hS (ct_noteAct (S := S) (H := H) (m := m) hS hC hm h4 hA (fun t ht t4 tk tw tA => ?_))
  have ht : fr (wN a) s t := ht
  obtain ⟨_, h2, h30, h33, hG, hcl⟩ := SC_wN ht hSC
  rw [h33]
  refine k _ ((ht.mono (wN_wW a)).p (wW_0 a).2.1) ⟨hC, by omega, ?_, ⟨hS, h2, ?_, ?_, fun q hq => ?_, fun q z hq hz => ?_⟩, ⟨Or.inr (Or.inr (Or.inr (Or.inr ⟨i, ?_, ?_, hi, rfl, ?_, fun _ _ => rfl, fun _ _ _ _ => rfl⟩))), ?_⟩⟩
  · rw [g_p_k (by omega)]; exact t4
  · rw [g_p_k (by omega)]; exact h30
  · rw [g_p_eq]; rfl
  · rw [g_p_a (by omega)]; exact hG q hq
  · rw [g_p_a (by omega)]; exact hcl q z hq hz
  · show ae _ a (m39 m) 0 = 4
    unfold ae at tk ⊢
    rw [g_p_a (by omega)]; exact tk
  · show ae _ a (m39 m) 1 = zI i
    unfold ae at tw ⊢
    rw [g_p_a (by omega)]; exact tw
  · show S.2.1 = (S.2.1 ^^^ s1 i) ^^^ s1 i
    rw [xor_xor]
  · exact AC_congr hC _ _ _ (fun i j hi hj => by unfold ae; rw [g_p_a (by omega)]) tA
theorem ct_noteDelete {X : bi_X} {d : Nat} {K : bi_St → Prop} {E : Nat → bi_St → Prop} {s : bi_St} {a C m r : Nat} {S : Sta} {H : List Sta} (hh : HA s a C m S H) (hr : r < S.2.2.1)
    (k : ∀ t, fr (wW a) s t → HA t a C (m39 m + 1) (delS S r) (S :: h39 m H) → K t) : cV X (d + 1) 79 [.ref a, .int (zI r)] s K E := by
  obtain ⟨hC, hm, h4, hSC, hA⟩ := hh
  have hS := hSC.1
  have hn16 := hSC.2.1
  have hm39 : m39 m < 40 := by unfold m39; by_cases h : m < 40 <;> simp [h]
  have e4 : ((4 : Int32)).toNatClampNeg = 4 := rfl
  refine en_X6_noteDelete hS ⟨fun z => absurd z (zI_nn (by omega)), fun _ => ⟨fun _ => ?_, fun z => ?_⟩⟩
  · refine ct_noteAct (S := S) (H := H) (m := m) hS hC hm h4 hA (fun t ht t4 tk tw tA => ?_)
    have ht : fr (wN a) s t := ht
    obtain ⟨_, h2, h30, h33, hG, hcl⟩ := SC_wN ht hSC
    have e44 : zI (4 * r) + 4 = zI (4 * r + 4) := zI_add _ 4
    rw [mul4, e44, e4, zI_nat (a := 4 * r) (by omega), zI_nat (a := 4 * r + 4) (by omega), zI_nat (a := 6 * m39 m + 2) (by omega)]
    have g0 : st_g (st_cp t (a + 1) (4 * r) (a + 3) (6 * m39 m + 2) 4) a 0 = zI S.2.2.1 := by rw [g_cp, if_neg (fun z => by have := z.1; omega)]; exact h30
    rw [g0, zI_sub1 (by omega), g_p_eq, zI_sub (by omega), mul4, zI_nat (a := 4 * (S.2.2.1 - 1 - r)) (by omega)]
    refine ⟨⟨zI_nn (by omega), zI_nn (by omega), by decide, by omega, by omega⟩, ⟨zI_nn (by omega), zI_nn (by omega), zI_nn (by omega), by omega, by omega⟩, ?_⟩
    have hfin : ∀ q z, q ≠ a + 1 → q ≠ a → q ≠ a + 3 → st_g (st_cp (st_p (st_cp t (a + 1) (4 * r) (a + 3) (6 * m39 m + 2) 4) a 0 (zI (S.2.2.1 - 1))) (a + 1) (4 * r + 4) (a + 1) (4 * r) (4 * (S.2.2.1 - 1 - r))) q z = st_g t q z := fun q z n1 n2 n3 => by
      rw [g_cp, if_neg (fun w => n1 w.1), g_p_a n2, g_cp, if_neg (fun w => n3 w.1)]
    have hact : ∀ z, st_g (st_cp (st_p (st_cp t (a + 1) (4 * r) (a + 3) (6 * m39 m + 2) 4) a 0 (zI (S.2.2.1 - 1))) (a + 1) (4 * r + 4) (a + 1) (4 * r) (4 * (S.2.2.1 - 1 - r))) (a + 3) z = if 6 * m39 m + 2 ≤ z ∧ z < 6 * m39 m + 2 + 4 then st_g t (a + 1) (4 * r + (z - (6 * m39 m + 2))) else st_g t (a + 3) z := fun z => by
      rw [g_cp, if_neg (fun w => by have := w.1; omega), g_p_a (by omega), g_cp]
      by_cases hz : 6 * m39 m + 2 ≤ z ∧ z < 6 * m39 m + 2 + 4
      · rw [if_pos ⟨rfl, hz⟩, if_pos hz]
      · rw [if_neg (fun w => hz w.2), if_neg hz]
    have hstate : ∀ q, st_g (st_cp (st_p (st_cp t (a + 1) (4 * r) (a + 3) (6 * m39 m + 2) 4) a 0 (zI (S.2.2.1 - 1))) (a + 1) (4 * r + 4) (a + 1) (4 * r) (4 * (S.2.2.1 - 1 - r))) a q = if q = 0 then zI (S.2.2.1 - 1) else st_g t a q := fun q => by
      rw [g_cp, if_neg (fun w => by have := w.1; omega), g_p]
      by_cases hq : q = 0
      · rw [if_pos ⟨rfl, hq⟩, if_pos hq]
      · rw [if_neg (fun w => hq w.2), if_neg hq, g_cp, if_neg (fun w => by have := w.1; omega)]
    have hcell : ∀ z, st_g (st_cp (st_p (st_cp t (a + 1) (4 * r) (a + 3) (6 * m39 m + 2) 4) a 0 (zI (S.2.2.1 - 1))) (a + 1) (4 * r + 4) (a + 1) (4 * r) (4 * (S.2.2.1 - 1 - r))) (a + 1) z = if 4 * r ≤ z ∧ z < 4 * r + 4 * (S.2.2.1 - 1 - r) then st_g t (a + 1) (z + 4) else st_g t (a + 1) z := fun z => by
      rw [g_cp]
      by_cases hz : 4 * r ≤ z ∧ z < 4 * r + 4 * (S.2.2.1 - 1 - r)
      · rw [if_pos ⟨rfl, hz⟩, if_pos hz, g_p_a (by omega), g_cp, if_neg (fun w => by have := w.1; omega)]
        congr 1
        omega
      · rw [if_neg (fun w => hz w.2), if_neg hz, g_p_a (by omega), g_cp, if_neg (fun w => by have := w.1; omega)]
    have hfr : fr (wW a) s (st_cp (st_p (st_cp t (a + 1) (4 * r) (a + 3) (6 * m39 m + 2) 4) a 0 (zI (S.2.2.1 - 1))) (a + 1) (4 * r + 4) (a + 1) (4 * r) (4 * (S.2.2.1 - 1 - r))) := (((ht.mono (wN_wW a)).cp (fun k => wW_3 a k)).p (wW_0 a).1).cp (fun k => wW_1 a k)
    generalize st_cp (st_p (st_cp t (a + 1) (4 * r) (a + 3) (6 * m39 m + 2) 4) a 0 (zI (S.2.2.1 - 1))) (a + 1) (4 * r + 4) (a + 1) (4 * r) (4 * (S.2.2.1 - 1 - r)) = w at hfin hact hstate hcell hfr
    refine k w hfr ⟨hC, by omega, ?_, ⟨hS, ?_, ?_, ?_, fun q hq => ?_, fun q z hq hz => ?_⟩, ⟨Or.inr (Or.inr (Or.inl ⟨r, ?_, ?_, ?_, ?_, hn16, ⟨rfl, fun _ _ => rfl⟩, fun q z hq hz => ?_⟩)), ?_⟩⟩
    · rw [hstate]; exact t4
    · show S.2.2.1 - 1 ≤ 16; omega
    · rw [hstate]; rfl
    · rw [hstate]; exact h33
    · rw [hfin _ _ (by omega) (by omega) (by omega)]; exact hG q hq
    · have hq : q < S.2.2.1 - 1 := hq
      show _ = (if q < r then S.2.2.2 q else S.2.2.2 (q + 1)) z
      rw [hcell]
      by_cases hqr : q < r
      · rw [if_neg (fun w => by have := w.1; omega), if_pos hqr]; exact hcl q z (by omega) hz
      · rw [if_pos ⟨by omega, by omega⟩, if_neg hqr, show 4 * q + z + 4 = 4 * (q + 1) + z by omega]; exact hcl (q + 1) z (by omega) hz
    · show ae w a (m39 m) 0 = 2
      unfold ae at tk ⊢
      rw [hact, if_neg (fun w => by have := w.1; omega)]; exact tk
    · show ae w a (m39 m) 1 = zI r
      unfold ae at tw ⊢
      rw [hact, if_neg (fun w => by have := w.1; omega)]; exact tw
    · show r ≤ S.2.2.1 - 1; omega
    · show S.2.2.1 = S.2.2.1 - 1 + 1; omega
    · show S.2.2.2 q z = if q < r then (if q < r then S.2.2.2 q else S.2.2.2 (q + 1)) z else if q = r then ae w a (m39 m) (2 + z) else (if q - 1 < r then S.2.2.2 (q - 1) else S.2.2.2 (q - 1 + 1)) z
      by_cases hqr : q < r
      · rw [if_pos hqr, if_pos hqr]
      · rw [if_neg hqr]
        by_cases hqe : q = r
        · rw [if_pos hqe]
          unfold ae
          rw [hact, if_pos ⟨by omega, by omega⟩, show 4 * r + (6 * m39 m + (2 + z) - (6 * m39 m + 2)) = 4 * r + z by omega, hqe]
          exact (hcl r z hr hz).symm
        · rw [if_neg hqe, if_neg (by omega), show q - 1 + 1 = q by omega]
    · exact AC_congr hC _ _ _ (fun i j hi hj => by unfold ae; rw [hact, if_neg (fun w => by have := w.1; omega)]) tA
  · rw [hSC.2.2.1] at z; exact absurd ((zI_lt (by omega) (by omega)).mpr hr) z
end ACTS
