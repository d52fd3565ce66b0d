/-! ===== what roles are lacking; lapses ===== -/
section LACK
def isBest (g : Nat → Bool) (c : Nat → Nat) (N : Nat) (v : Int32) : Prop := (v = -1 ∧ ∀ n, n < N → g n = false) ∨ ∃ n, n < N ∧ v = zI n ∧ g n = true ∧ ∀ m, m < N → g m = true → c n < c m ∨ (c n = c m ∧ n ≤ m)
theorem isBest_uniq {g : Nat → Bool} {c : Nat → Nat} {N : Nat} {v w : Int32} (h : isBest g c N v) (k : isBest g c N w) : v = w := by
  rcases h with ⟨h1, h2⟩ | ⟨n, h1, h2, h3, h4⟩
  · rcases k with ⟨k1, k2⟩ | ⟨m, k1, k2, k3, k4⟩
    · rw [h1, k1]
    · rw [h2 m k1] at k3; cases k3
  · rcases k with ⟨k1, k2⟩ | ⟨m, k1, k2, k3, k4⟩
    · rw [k2 n h1] at h3; cases h3
    · have a := h4 m k1 k3
      have b := k4 n h1 h3
      have : n = m := by omega
      rw [h2, k2, this]
def cnt (n : Nat) : Nat := bc (zI n) 16
theorem s1_pow {R : Nat} (h : R ≤ 30) : s1 R = zI (2 ^ R) := by
  have : ∀ R : Fin 31, s1 R.1 = zI (2 ^ R.1) := by decide
  exact this ⟨R, by omega⟩
theorem pow_le64 {R : Nat} (h : R ≤ 6) : 2 ^ R ≤ 64 := Nat.pow_le_pow_right (by omega) h
theorem pow_le256 {R : Nat} (h : R ≤ 8) : 2 ^ R ≤ 256 := Nat.pow_le_pow_right (by omega) h
theorem bc_hi {x : Int32} {n : Nat} (h : ∀ q, n ≤ q → q < 32 → tb x q = false) : ∀ m, n ≤ m → m ≤ 32 → bc x m = bc x n := by
  intro m hm
  induction hm with
  | refl => intro _; rfl
  | step hm ih => intro h2; rw [bc, ih (by omega), h _ hm (by omega)]; rfl
theorem tb_small {n R q : Nat} (h : n < 2 ^ R) (h1 : R ≤ q) (h2 : q < 32) : tb (zI n) q = false := tb_zI_hi h h1 h2
theorem cnt_le {n R : Nat} (hR : R ≤ 16) (h : n < 2 ^ R) : cnt n ≤ R := by
  unfold cnt
  rw [bc_hi (n := R) (fun q h1 h2 => tb_small h h1 h2) 16 hR (by omega)]
  exact bc_le _ _
/-- whether the user reads the row with roles x besides -/
def rdw (p : Nat) (f : Nat → Pol) (S : Sta) (u r : Nat) (n : Nat) : Bool := po_let p f (S.2.2.2 r, zI u, clo S.1 (s1 u ||| zI n)) S.2.1 0 false
theorem ct_readsWith {X : bi_X} {d : Nat} {K : Int32 → bi_St → Prop} {E : Nat → bi_St → Prop} {s : bi_St} {b a C R p u r n : Nat} {f : Nat → Pol} {S : Sta} (hj : JC s b a C R p f S) (hr : r < S.2.2.1) (hl : ∀ c, c < 4 → st_g s 59 c = st_g s (a + 1) (4 * r + c)) (k : ∀ t, fr wA s t → (∀ c, st_g t 59 c = st_g s 59 c) → K (b2i (rdw p f S u r n)) t) : cI X (d + 4) 8 [.ref 62, .int (zI u), .int (zI n)] s K E := by
  have hS := hj.2.2.2.1.1
  have ha1 : a + 1 ≠ 59 ∧ a + 1 ≠ 57 ∧ a + 1 ≠ 60 := by rcases hS with z | z | z | z <;> omega
  have ha2 : a + 2 ≠ 57 := by rcases hS with z | z | z | z <;> omega
  refine en_X1_readsWith (ct_allHadBy (a := a) hj.2.2.1 hS ?_)
  have e1 : clo (fun r => st_g (st_p s 57 5 (zI u)) (a + 2) r) (((1 : Int32) <<< (zI u &&& 31)) ||| zI n) = clo S.1 (s1 u ||| zI n) := clo_congr (fun q hq => by
    show st_g (st_p s 57 5 (zI u)) (a + 2) q = S.1 q
    rw [g_p_a ha2]; exact hj.2.2.2.1.2.2.2.2.1 q hq) _
  rw [e1]
  have h1 : fr wA s (st_p (st_p s 57 5 (zI u)) 57 6 (clo S.1 (s1 u ||| zI n))) := (fr.refl.p rfl).p rfl
  have hj1 := JC_fr h1 hj
  refine ct_allowsJ (cmd := 0) (how := false) (e := (S.2.2.2 r, zI u, clo S.1 (s1 u ||| zI n))) hj1 ⟨fun c hc => ?_, ?_, ?_⟩ (by omega) (fun t ht => ⟨b2i_bool _, k t (h1.trans (ht.mono wH_wA)) (fun c => by rw [ht.g (wH_ne (by omega) (by omega)), g_p_a (by omega), g_p_a (by omega)])⟩)
  · have := hj.1.2.1
    rw [g_p_a (by omega), g_p_a (by omega), hl c (by omega)]
    exact hj.2.2.2.1.2.2.2.2.2 r c hr hc
  · rw [g_p_k (by omega), g_p_eq]
  · rw [g_p_eq]
theorem ct_rolesLacking {X : bi_X} {d : Nat} {K : Int32 → bi_St → Prop} {E : Nat → bi_St → Prop} {s : bi_St} {b a C R p u r : Nat} {f : Nat → Pol} {S : Sta} (hj : JC s b a C R p f S) (hr : r < S.2.2.1) (hu : u < 6) (k : ∀ t v, fr wA s t → isBest (rdw p f S u r) cnt (2 ^ R) v → K v t) : cI X (d + 5) 7 [.ref 62, .int (zI u), .int (zI r)] s K E := by
  have hS := hj.2.2.2.1.1
  have hR := hj.2.2.2.2.2.1
  have hn16 := hj.2.2.2.1.2.1
  have hp64 := pow_le64 hR
  have ha1 : a + 1 ≠ 59 ∧ a + 1 ≠ 57 ∧ a + 1 ≠ 60 := by rcases hS with z | z | z | z <;> omega
  have inner : ∀ w, w ≤ R → (∀ m, m < 2 ^ R → rdw p f S u r m = true → w ≤ cnt m) → (∀ t, fr wA s t → (∀ c, c < 4 → st_g t 59 c = st_g s (a + 1) (4 * r + c)) → (∀ m, m < 2 ^ R → rdw p f S u r m = true → w + 1 ≤ cnt m) → at_X1_rolesLacking_10 X (d + 5) K E t (zI u) (zI (w + 1))) →
      ∀ m n (t : bi_St), m = 2 ^ R - n → n ≤ 2 ^ R → fr wA s t → (∀ c, c < 4 → st_g t 59 c = st_g s (a + 1) (4 * r + c)) → (∀ m, m < n → rdw p f S u r m = true → w + 1 ≤ cnt m) → at_X1_rolesLacking_27 X (d + 5) K E t (zI u) (zI w) (zI n) := by
    intro w hw hall hk m
    induction m with
    | zero =>
      intro n t hm hn ht hl hq
      have : n = 2 ^ R := by omega
      subst this
      have hjt := JC_fr ht hj
      refine go_X1_rolesLacking_27 ⟨by rw [hjt.2.1]; exact hjt.1.1, fun _ => by rw [zI_add1]; exact hk t ht hl hq, fun z => absurd ?_ z⟩
      rw [hjt.2.1, hjt.2.2.2.2.1]
      show s1 R ≤ _
      rw [s1_pow (by omega)]; exact (zI_le (by omega) (by omega)).mpr (Nat.le_refl _)
    | succ m ih =>
      intro n t hm hn ht hl hq
      have hjt := JC_fr ht hj
      refine go_X1_rolesLacking_27 ⟨by rw [hjt.2.1]; exact hjt.1.1, fun z => ?_, fun _ => ?_⟩
      · rw [hjt.2.1, hjt.2.2.2.2.1] at z
        have z : s1 R ≤ zI n := z
        rw [s1_pow (by omega), zI_le (by omega) (by omega)] at z; omega
      · have hnR : n < 2 ^ R := by omega
        have hc := cnt_le (R := R) (by omega) hnR
        refine ct_bitCount (fun q h1 h2 => tb_small hnR (by omega) h2) ?_
        have e1 : (zI (bc (zI n) 16) = zI w) ↔ cnt n = w := zI_eq (by have := bc_le (zI n) 16; omega) (by omega)
        rw [e1, zI_add1]
        refine ⟨fun hne => ih (n + 1) t (by omega) (by omega) ht hl (fun q hq1 hq2 => ?_), fun heq => ?_⟩
        · by_cases hqn : q = n
          · subst hqn; have := hall q (by omega) hq2; omega
          · exact hq q (by omega) hq2
        · have heq := Decidable.of_not_not heq
          refine ct_readsWith hjt hr (fun c hc => by rw [hl c hc, ht.g (wA_ne ha1.2.2 ha1.1 ha1.2.1)]) (fun t2 ht2 h59 => ?_)
          rw [b2i_ne0]
          refine ⟨fun hb => ih (n + 1) t2 (by omega) (by omega) (ht.trans ht2) (fun c hc => by rw [h59]; exact hl c hc) (fun q hq1 hq2 => ?_), fun hb => k t2 _ (ht.trans ht2) (Or.inr ⟨n, hnR, rfl, by simpa using hb, fun q hq1 hq2 => ?_⟩)⟩
          · by_cases hqn : q = n
            · subst hqn; rw [hb] at hq2; cases hq2
            · exact hq q (by omega) hq2
          · have h1 := hall q hq1 hq2
            by_cases hqn : q < n
            · have := hq q hqn hq2; omega
            · omega
  have outer : ∀ m w (t : bi_St), m = R + 1 - w → w ≤ R + 1 → fr wA s t → (∀ c, c < 4 → st_g t 59 c = st_g s (a + 1) (4 * r + c)) → (∀ m, m < 2 ^ R → rdw p f S u r m = true → w ≤ cnt m) → at_X1_rolesLacking_10 X (d + 5) K E t (zI u) (zI w) := by
    intro m
    induction m with
    | zero =>
      intro w t hm hw ht hl hq
      have hjt := JC_fr ht hj
      refine go_X1_rolesLacking_10 ⟨by rw [hjt.2.1]; exact hjt.1.1, fun _ => k t _ ht (Or.inl ⟨rfl, fun n hn => ?_⟩), fun z => absurd ?_ z⟩
      · cases hb : rdw p f S u r n with
        | false => rfl
        | true => have := hq n hn hb; have := cnt_le (R := R) (by omega) hn; omega
      · rw [hjt.2.1, hjt.2.2.2.2.1]; exact (zI_lt (by omega) (by omega)).mpr (by omega)
    | succ m ih =>
      intro w t hm hw ht hl hq
      have hjt := JC_fr ht hj
      refine go_X1_rolesLacking_10 ⟨by rw [hjt.2.1]; exact hjt.1.1, fun z => ?_, fun _ => ?_⟩
      · rw [hjt.2.1, hjt.2.2.2.2.1, zI_lt (by omega) (by omega)] at z; omega
      · exact inner w (by omega) hq (fun t2 ht2 hl2 hq2 => ih (w + 1) t2 (by omega) (by omega) ht2 hl2 hq2) (2 ^ R) 0 t (Nat.sub_zero _).symm (Nat.zero_le _) ht hl (fun q hq1 => by omega)
  exact en_X1_rolesLacking (ct_take hj.2.2.1 hS (by omega) (fun t ht hl _ => outer (R + 1) 0 t (by omega) (by omega) ht hl (fun m _ _ => by omega)))
/-- the state with roles x given to u besides -/
def gv (S : Sta) (u : Nat) (x : Int32) : Sta := (va_up S.1 u (S.1 u ||| x), S.2)
theorem clo_gv {S : Sta} {u : Nat} {x : Int32} (hu : u < 6) (hG : ∀ r, r < 6 → sub6 (S.1 r)) (hx : sub6 x) : clo (gv S u x).1 (s1 u) = clo S.1 (s1 u ||| x) := by
  have hG' : ∀ r, r < 6 → sub6 ((gv S u x).1 r) := fun r hr => by
    show sub6 (va_up S.1 u (S.1 u ||| x) r)
    rw [va_upe]
    by_cases h : r = u
    · rw [if_pos h]; exact sub6_or (hG u hu) hx
    · rw [if_neg h]; exact hG r hr
  have h1 := clo_isCl hG' (s1_sub6 hu)
  have h2 := clo_isCl hG (sub6_or (s1_sub6 hu) hx)
  have key : ∀ y, tb y u = true → (clsd (gv S u x).1 y ↔ clsd S.1 y ∧ le32 x y) := by
    intro y hy
    constructor
    · intro h
      have hu' : le32 (S.1 u ||| x) y := by
        have := h u hu hy
        have e : (gv S u x).1 u = S.1 u ||| x := by show va_up _ _ _ _ = _; rw [va_upe]; simp
        rw [e] at this; exact this
      refine ⟨fun r hr hb => ?_, (le_or2 _ _).trans hu'⟩
      by_cases hru : r = u
      · subst hru; exact (le_or1 _ _).trans hu'
      · have := h r hr hb
        have e : (gv S u x).1 r = S.1 r := by show va_up _ _ _ _ = _; rw [va_upe, if_neg hru]
        rw [e] at this; exact this
    · rintro ⟨h, hx⟩ r hr hb
      show le32 (va_up S.1 u (S.1 u ||| x) r) y
      rw [va_upe]
      by_cases hru : r = u
      · rw [if_pos hru]; exact or_le (h u hu hy) hx
      · rw [if_neg hru]; exact h r hr hb
  have hs : ∀ y, le32 (s1 u) y → tb y u = true := fun y h => h u (by omega) (by rw [tb_s1 (by omega) (by omega)]; simp)
  have hux : ∀ y, le32 (s1 u ||| x) y → le32 (s1 u) y ∧ le32 x y := fun y h => ⟨(le_or1 _ _).trans h, (le_or2 _ _).trans h⟩
  refine isCl_uniq (G := S.1) (x := s1 u ||| x) ?_ h2
  have hk := (key _ (hs _ h1.1)).mp h1.2.1
  refine ⟨or_le h1.1 hk.2, hk.1, fun z hz1 hz2 => h1.2.2 z (hux z hz1).1 ((key z (hs z (hux z hz1).1)).mpr ⟨hz2, (hux z hz1).2⟩)⟩
theorem sub6_small {n R : Nat} (hR : R ≤ 6) (h : n < 2 ^ R) : sub6 (zI n) := fun q h1 h2 => tb_small h (by omega) h2
theorem reads_gv {p : Nat} {f : Nat → Pol} {S : Sta} {u r n R : Nat} (hu : u < 6) (hG : ∀ r, r < 6 → sub6 (S.1 r)) (hR : R ≤ 6) (h : n < 2 ^ R) : reads p f (gv S u (zI n)) u r = rdw p f S u r n := by
  unfold reads rdw en
  rw [clo_gv hu hG (sub6_small hR h)]; rfl
theorem bc_flip {x y : Int32} {u : Nat} (hx : tb x u = true) (hy : tb y u = false) (h : ∀ q, q ≠ u → tb x q = tb y q) : ∀ n, bc x n = bc y n + (if u < n then 1 else 0) := by
  intro n
  induction n with
  | zero => simp [bc]
  | succ n ih =>
    rw [bc, bc, ih]
    by_cases hun : n = u
    · subst hun
      rw [hx, hy]
      simp
    · rw [h n hun]
      by_cases h1 : u < n
      · have : u < n + 1 := by omega
        simp [h1, this]; omega
      · have : ¬ u < n + 1 := by omega
        simp [h1, this]
theorem isBest_of {p : Nat} {f : Nat → Pol} {S : Sta} {u r R : Nat} (hR : R ≤ 6) (hu : u < R) {v : Int32} (h : isBest (fun n => !(n.testBit u) && rdw p f S u r n) cnt (2 ^ R) v) : isBest (rdw p f S u r) cnt (2 ^ R) v := by
  have red : ∀ m, m < 2 ^ R → m.testBit u = true → rdw p f S u r m = true → ∃ q, q < 2 ^ R ∧ (!(q.testBit u) && rdw p f S u r q) = true ∧ cnt q < cnt m := by
    intro m hm hb hg
    have hxor : ∀ q, (m ^^^ 2 ^ u).testBit q = (m.testBit q != decide (u = q)) := fun q => by rw [Nat.testBit_xor, Nat.testBit_two_pow]
    have htb : ∀ q, q < 32 → tb (zI (m ^^^ 2 ^ u)) q = (tb (zI m) q != decide (u = q)) := fun q hq => by rw [tb_zI hq, tb_zI hq, hxor]
    refine ⟨m ^^^ 2 ^ u, Nat.xor_lt_two_pow hm (Nat.pow_lt_pow_right (by omega) hu), ?_, ?_⟩
    · rw [hxor, hb]
      have e1 : s1 u ||| zI (m ^^^ 2 ^ u) = s1 u ||| zI m := tb_ext fun q hq => by
        rw [tb_or, tb_or, htb q hq, tb_s1 (by omega) hq]
        by_cases h : q = u
        · simp [h]
        · have : ¬ u = q := fun z => h z.symm
          simp [h, this]
      unfold rdw at hg ⊢
      rw [e1, hg]; simp
    · unfold cnt
      have := bc_flip (x := zI m) (y := zI (m ^^^ 2 ^ u)) (u := u) (by rw [tb_zI (by omega)]; exact hb) (by rw [htb u (by omega), tb_zI (by omega), hb]; simp) (fun q hq => by
        by_cases h32 : q < 32
        · rw [htb q h32]; have : ¬ u = q := fun z => hq z.symm
          simp [this]
        · unfold tb; rw [BitVec.getLsbD_of_ge _ _ (by omega), BitVec.getLsbD_of_ge _ _ (by omega)]) 16
      have : u < 16 := by omega
      simp only [this, if_true] at *
      omega
  rcases h with ⟨h1, h2⟩ | ⟨n, h1, h2, h3, h4⟩
  · refine Or.inl ⟨h1, fun n hn => ?_⟩
    cases hg : rdw p f S u r n with
    | false => rfl
    | true =>
      cases hb : n.testBit u with
      | false => have := h2 n hn; simp only [hb, hg] at this; cases this
      | true => obtain ⟨q, q1, q2, _⟩ := red n hn hb hg; have := h2 q q1; simp only at this; rw [q2] at this; cases this
  · simp only [Bool.and_eq_true] at h3
    refine Or.inr ⟨n, h1, h2, h3.2, fun m hm hg => ?_⟩
    cases hb : m.testBit u with
    | false => exact h4 m hm (by simp [hb, hg])
    | true => obtain ⟨q, q1, q2, q3⟩ := red m hm hb hg; have := h4 q q1 q2; omega
theorem isBest_no {g : Nat → Bool} {c : Nat → Nat} {n : Nat} {v : Int32} (h : isBest g c n v) (hg : g n = false) : isBest g c (n + 1) v := by
  rcases h with ⟨h1, h2⟩ | ⟨m, h1, h2, h3, h4⟩
  · refine Or.inl ⟨h1, fun q hq => ?_⟩
    by_cases hqn : q = n
    · rw [hqn]; exact hg
    · exact h2 q (by omega)
  · refine Or.inr ⟨m, by omega, h2, h3, fun q hq hgq => ?_⟩
    by_cases hqn : q = n
    · rw [hqn, hg] at hgq; cases hgq
    · exact h4 q (by omega) hgq
theorem isBest_new {g : Nat → Bool} {c : Nat → Nat} {n : Nat} {v : Int32} (h : isBest g c n v) (hg : g n = true) (hb : ∀ m, m < n → v = zI m → c n < c m) : isBest g c (n + 1) (zI n) := by
  refine Or.inr ⟨n, by omega, rfl, hg, fun q hq hgq => ?_⟩
  by_cases hqn : q = n
  · subst hqn; exact Or.inr ⟨rfl, Nat.le_refl _⟩
  · rcases h with ⟨h1, h2⟩ | ⟨m, h1, h2, h3, h4⟩
    · rw [h2 q (by omega)] at hgq; cases hgq
    · have := hb m h1 h2
      have := h4 q (by omega) hgq
      omega
theorem isBest_old {g : Nat → Bool} {c : Nat → Nat} {n m : Nat} (hn : n < 2147483648) (h : isBest g c n (zI m)) (hmn : m < n) (hb : ¬ c n < c m) : isBest g c (n + 1) (zI m) := by
  rcases h with ⟨h1, h2⟩ | ⟨q, h1, h2, h3, h4⟩
  · exact absurd h1 (zI_m1 (by omega))
  · have : m = q := (zI_eq (by omega) (by omega)).mp h2
    subst this
    refine Or.inr ⟨m, by omega, rfl, h3, fun z hz hgz => ?_⟩
    by_cases hzn : z = n
    · subst hzn; omega
    · exact h4 z (by omega) hgz
theorem ct_toSeeL {X : bi_X} {d : Nat} {K : Int32 → bi_St → Prop} {E : Nat → bi_St → Prop} {s : bi_St} {C R p u r : Nat} {f : Nat → Pol} {S : Sta} (hj : RC s 0 C R p f S) (hr : r < S.2.2.1) (hu : u < R) (k : ∀ t v, fr wT s t → isBest (rdw p f S u r) cnt (2 ^ R) v → K v t) :
    at_X12_toSee_28 X (d + 4) K E s (zI u) (zI r) (-1) 0 := by
  have hC := hj.1.1
  have hR := hj.2.2.1.1
  have hp64 := pow_le64 hR
  have loop : ∀ m n v (t : bi_St), m = 2 ^ R - n → n ≤ 2 ^ R → fr wT s t → isBest (fun n => !(n.testBit u) && rdw p f S u r n) cnt n v → at_X12_toSee_28 X (d + 4) K E t (zI u) (zI r) v (zI n) := by
    intro m
    induction m with
    | zero =>
      intro n v t hm hn ht hb
      have : n = 2 ^ R := by omega
      subst this
      refine go_X12_toSee_28 ⟨fun _ => k t v ht (isBest_of hR hu hb), fun z => absurd ?_ z⟩
      rw [(RC_wT ht hj).2.2.2]
      show s1 R ≤ _
      rw [s1_pow (by omega)]; exact (zI_le (by omega) (by omega)).mpr (Nat.le_refl _)
    | succ m ih =>
      intro n v t hm hn ht hb
      have hnR : n < 2 ^ R := by omega
      have e72 : (72 : Int32) + zI u = zI (72 + u) := zI_add 72 u
      refine go_X12_toSee_28 ⟨fun z => ?_, fun _ => ?_⟩
      · rw [(RC_wT ht hj).2.2.2] at z
        have z : s1 R ≤ zI n := z
        rw [s1_pow (by omega), zI_le (by omega) (by omega)] at z; omega
      · rw [tb_bit1 (by omega), tb_zI (by omega), zI_add1]
        refine ⟨fun hbit => ih (n + 1) v t (by omega) (by omega) ht (isBest_no hb (by simp [hbit])), fun hbit => ?_⟩
        have hbit : n.testBit u = false := by simpa using hbit
        have body : ∀ t1, fr wT s t1 → (∀ m, m < n → v = zI m → cnt n < cnt m) → cV X (d + 3) 207 [.ref 77] t1 (fun s3 => bi_in ((72 : Int32) + zI u) 144 = true ∧ (bi_in ((72 : Int32) + zI u) 144 = true ∧ (cI X (d + 3) 216 [.ref 77, .int (72 : Int32), .int (zI u), .int (zI r)] (st_p s3 90 (((72 : Int32) + zI u)).toNatClampNeg ((st_g s3 90 (((72 : Int32) + zI u)).toNatClampNeg) ||| zI n)) (fun (r4 : Int32) (s4 : bi_St) => ((r4 = 0) → at_X12_toSee_28 X (d + 3 + 1) K E s4 (zI u) (zI r) v (zI (n + 1))) ∧ (¬ (r4 = 0) → at_X12_toSee_28 X (d + 3 + 1) K E s4 (zI u) (zI r) (zI n) (zI (n + 1)))) (fun _ _ => False)))) (fun _ _ => False) := by
          intro t1 ht1 hlt
          have hj1 := RC_wT ht1 hj
          refine ct_tries (fun t2 ht2 hq => ?_)
          rw [e72, zI_nat (by omega)]
          refine ⟨in_zI (by omega) (by omega), in_zI (by omega) (by omega), ?_⟩
          have h12 : fr wT s (st_p t2 90 (72 + u) (st_g t2 90 (72 + u) ||| zI n)) := (ht1.trans (ht2.mono w90_wT)).p (wT_hi (by omega))
          have hj2 := RC_wT h12 hj
          have hsr : SR (st_p t2 90 (72 + u) (st_g t2 90 (72 + u) ||| zI n)) 72 C (gv S u (zI n)) := by
            obtain ⟨h0, h2, h3, h4, h5, h6⟩ := SR_72 hC hj1.2.1 hq
            refine ⟨h0, h2, by rw [g_p_k (by omega)]; exact h3, by rw [g_p_k (by omega)]; exact h4, fun q hq => ?_, fun q c hq hc => by rw [g_p_k (by omega)]; exact h6 q c hq hc⟩
            show _ = va_up S.1 u (S.1 u ||| zI n) q
            rw [va_upe, g_p]
            by_cases hqu : q = u
            · rw [if_pos ⟨rfl, by rw [hqu]⟩, if_pos hqu, h5 u (by omega)]
            · rw [if_neg (fun z => hqu (by have := z.2; omega)), if_neg hqu]; exact h5 q hq
          have hwf : wfS R (gv S u (zI n)) := by
            obtain ⟨w1, w2, w3⟩ := hj.2.2.1
            refine ⟨w1, fun q hq => ?_, fun q hq hq6 => ?_⟩
            · show sub6 (va_up S.1 u (S.1 u ||| zI n) q)
              rw [va_upe]
              by_cases hqu : q = u
              · rw [if_pos hqu]; exact sub6_or (w2 u (by omega)) (sub6_small hR hnR)
              · rw [if_neg hqu]; exact w2 q hq
            · show va_up S.1 u (S.1 u ||| zI n) q = 0
              rw [va_upe, if_neg (by omega)]; exact w3 q hq hq6
          refine ct_doesRead (b0 := 72) (S := gv S u (zI n)) ⟨hj2.1, hsr, hwf, hj2.2.2.2⟩ (by omega) hr (fun t3 ht3 => ?_)
          rw [b2i_ne0, reads_gv (by omega) hj.2.2.1.2.1 hR hnR]
          have h13 := h12.trans (ht3.mono wF_wT)
          refine ⟨fun hg => ih (n + 1) v t3 (by omega) (by omega) h13 (isBest_no hb (by simp [hg])), fun hg => ih (n + 1) (zI n) t3 (by omega) (by omega) h13 (isBest_new hb ?_ hlt)⟩
          have hg : rdw p f S u r n = true := by simpa using hg
          simp [hbit, hg]
        refine ⟨fun hv => body t ht (fun m hm hvm => ?_), fun hv => ?_⟩
        · rw [hvm] at hv; exact absurd hv (zI_m1 (by omega))
        · rcases hb with ⟨h1, h2⟩ | ⟨q, h1, h2, h3, h4⟩
          · exact absurd h1 hv
          · have hb : isBest (fun n => !(n.testBit u) && rdw p f S u r n) cnt n v := Or.inr ⟨q, h1, h2, h3, h4⟩
            refine ct_bits (ct_bits ?_)
            have b1 := bc_le (zI n) 16
            have b2 := bc_le v 16
            rw [zI_lt (by omega) (by omega)]
            refine ⟨fun hlt => body t ht (fun m hm hvm => ?_), fun hlt => ih (n + 1) v t (by omega) (by omega) ht ?_⟩
            · rw [hvm] at hlt; exact hlt
            · rw [h2] at hlt hb ⊢; exact isBest_old (by omega) hb h1 hlt
  exact loop (2 ^ R) 0 (-1) s (Nat.sub_zero _).symm (Nat.zero_le _) fr.refl (Or.inl ⟨rfl, fun n hn => by omega⟩)
end LACK
