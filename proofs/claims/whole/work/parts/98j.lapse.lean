/-! ===== lapses ===== -/
section LAPSE
def ch (on q : Int32) (n : Nat) : Nat → Int32
  | 0 => 1
  | i + 1 => if tb on i then ch on q n i * (if tb (zI n) i then 10 - q else q) else ch on q n i
theorem ch_hi {on q : Int32} {n p : Nat} (h : ∀ i, p ≤ i → i < 32 → tb on i = false) : ∀ m, p ≤ m → m ≤ 32 → ch on q n m = ch on q n p := by
  intro m hm
  induction hm with
  | refl => intro _; rfl
  | step hm ih => intro h2; rw [ch, h _ hm (by omega), ih (by omega)]; simp
def lps (on : Int32) (n : Nat) : Bool := decide ((zI n &&& (on ^^^ -1)) = 0)
def lp (p : Nat) (f : Nat → Pol) (S : Sta) (u r : Nat) (q : Int32) : Nat → Int32
  | 0 => 0
  | n + 1 => if lps S.2.1 n && reads p f (sw S (zI n)) u r then lp p f S u r q n + ch S.2.1 q n p else lp p f S u r q n
theorem lps_bit {on : Int32} {n i : Nat} (h : lps on n = true) (hi : i < 32) (hb : tb (zI n) i = true) : tb on i = true := by
  unfold lps at h
  rw [decide_eq_true_eq, tb_eq0] at h
  have := h i hi
  rw [tb_and, tb_not hi, hb] at this
  simpa using this
theorem lp_hi {p : Nat} {f : Nat → Pol} {S : Sta} {u r : Nat} {q : Int32} (h : ∀ i, p ≤ i → i < 32 → tb S.2.1 i = false) (hp : p ≤ 8) : ∀ m, 2 ^ p ≤ m → m ≤ 256 → lp p f S u r q m = lp p f S u r q (2 ^ p) := by
  intro m hm
  induction hm with
  | refl => intro _; rfl
  | step hm ih =>
    intro h2
    rename_i m
    rw [lp, ih (by omega)]
    have : lps S.2.1 m = false := by
      rw [Bool.eq_false_iff]
      intro hl
      obtain ⟨i, h3, h4⟩ := Nat.exists_ge_and_testBit_of_ge_two_pow hm
      have hi : i < 32 := by
        by_cases hc : i < 8
        · omega
        · have : m < 2 ^ i := Nat.lt_of_lt_of_le (show m < 2 ^ 8 by omega) (Nat.pow_le_pow_right (by omega) (by omega))
          rw [Nat.testBit_lt_two_pow this] at h4; cases h4
      have := lps_bit hl hi (by rw [tb_zI hi]; exact h4)
      rw [h i h3 hi] at this; cases this
    simp [this]
theorem ct_chanceOf {X : bi_X} {d : Nat} {K : Int32 → bi_St → Prop} {E : Nat → bi_St → Prop} {s : bi_St} {on q : Int32} {n : Nat} (k : K (ch on q n 8) s) : cI X (d + 1) 10 [.int (zI n), .int on, .int q] s K E := by
  have loop : ∀ m i, m = 8 - i → i ≤ 8 → at_X1_chanceOf_5 X (d + 1) K E s (zI n) on q (ch on q n i) (zI i) := by
    intro m
    induction m with
    | zero =>
      intro i hm hi
      have : i = 8 := by omega
      subst this
      exact go_X1_chanceOf_5 ⟨fun _ => k, fun z => absurd (by decide) z⟩
    | succ m ih =>
      intro i hm hi
      have ih := ih (i + 1) (by omega) (by omega)
      rw [ch] at ih
      refine go_X1_chanceOf_5 ⟨fun z => ?_, fun _ => ct_bit (by omega) ?_⟩
      · have := (zI_le (a := 8) (by omega) (by omega)).mp z; omega
      · rw [b2i_eq1, zI_add1]
        refine ⟨fun hb => ?_, fun hb => ct_bit (by omega) ?_⟩
        · rw [if_neg hb] at ih; exact ih
        · rw [if_pos (Decidable.of_not_not hb)] at ih
          rw [b2i_eq1]
          refine ⟨fun hc => ?_, fun hc => ?_⟩
          · rw [if_neg hc] at ih; exact ih
          · rw [if_pos (Decidable.of_not_not hc)] at ih; exact ih
  exact en_X1_chanceOf (loop 8 0 (by omega) (by omega))
theorem ct_chance {X : bi_X} {d : Nat} {K : Int32 → bi_St → Prop} {E : Nat → bi_St → Prop} {s : bi_St} {b a C R p u r : Nat} {f : Nat → Pol} {S : Sta} {q : Int32} (hj : JC s b a C R p f S) (hr : r < S.2.2.1) (hu : u < 6) (hon : ∀ i, p ≤ i → i < 32 → tb S.2.1 i = false) (k : ∀ t, fr wA s t → K (lp p f S u r q (2 ^ p)) t) : cI X (d + 4) 9 [.ref 62, .int (zI u), .int (zI r), .int q] s K E := by
  have hS := hj.2.2.2.1.1
  have hn16 := hj.2.2.2.1.2.1
  have hp8 := hj.1.2.2.1
  have ha1 : a + 1 ≠ 59 ∧ a + 1 ≠ 57 ∧ a + 1 ≠ 60 := by rcases hS with z | z | z | z <;> omega
  refine en_X1_chanceToRead (ct_become hu (fun t1 ht1 h5 h6 _ => ?_))
  have hj1 := JC_fr ht1 hj
  refine ct_take hj1.2.2.1 hS (by omega) (fun t2 ht2 hl h57 => ?_)
  have hj2 := JC_fr ht2 hj1
  have he : envC t2 C (en S u r) := JC_env hj2 hr (fun c hc => by rw [hl c hc, ht2.g (wA_ne ha1.2.2 ha1.1 ha1.2.1)]) (by rw [h57]; exact h5) (by rw [h57, h6]; exact hj.2.2.2.2.2.2 u hu)
  refine ⟨by rw [hj2.2.2.1]; exact hS, ?_⟩
  have hon2 : st_g t2 (st_gp t2 8) 3 = S.2.1 := by rw [hj2.2.2.1]; exact hj2.2.2.2.1.2.2.2.1
  rw [hon2]
  refine ct_applying (cmd := 0) hj2.1 hj2.2.1 he.2.2 (by omega) (ct_holding (how := false) hj2.1 hj2.2.1 he (fun t3 ht3 => ?_))
  have ht : fr wA s t3 := ht1.trans (ht2.trans (ht3.mono wH_wA))
  have hj3 := JC_fr ht hj
  have loop : ∀ m n, m = 256 - n → n ≤ 256 → at_X1_chanceToRead_58 X (d + 4) K E t3 q S.2.1 (bo (po_of f (en S u r).2.2 S.2.1 0) p) (bo (fun i => tb (bo (po_of f (en S u r).2.2 S.2.1 0) p) i && po_h f (en S u r) false i) p) (lp p f S u r q n) (zI n) := by
    intro m
    induction m with
    | zero =>
      intro n hm hn
      have : n = 256 := by omega
      subst this
      refine go_X1_chanceToRead_58 ⟨fun _ => ?_, fun z => absurd (by decide) z⟩
      rw [lp_hi hon hp8 256 (pow_le256 hp8) (by omega)]; exact k t3 ht
    | succ m ih =>
      intro n hm hn
      have ih := ih (n + 1) (by omega) (by omega)
      rw [lp] at ih
      refine go_X1_chanceToRead_58 ⟨fun z => ?_, fun _ => ?_⟩
      · have := (zI_le (a := 256) (by omega) (by omega)).mp z; omega
      · rw [zI_add1]
        refine ⟨fun hb => ?_, fun hb => ?_⟩
        · have : lps S.2.1 n = false := decide_eq_false hb
          rw [this] at ih; exact ih
        · have hb := Decidable.of_not_not hb
          have hls : lps S.2.1 n = true := decide_eq_true hb
          have hsub : ∀ i, i < 32 → tb (zI n) i = true → tb S.2.1 i = true := fun i hi => lps_bit hls hi
          refine ct_lets (x' := po_of f (en S u r).2.2 (zI n) 0) (h' := po_h f (en S u r) false) hj3.1 hj3.2.1 (fun i hi => ?_) (fun i hi hx => ?_) ?_
          · rw [tb_and, tb_bo (by omega) hi]
            by_cases hip : i < p
            · simp only [hip, decide_true, Bool.true_and]
              unfold po_of
              cases h1 : tb (zI n) i
              · simp
              · rw [hsub i hi h1]; simp
            · simp [hip]
          · have h1 : po_of f (en S u r).2.2 S.2.1 0 i = true := by
              unfold po_of at hx ⊢
              cases h1 : tb (zI n) i
              · rw [h1] at hx; simp at hx
              · rw [h1] at hx; rw [hsub i (by omega) h1]; exact hx
            rw [tb_bo (by omega) (by omega), tb_bo (by omega) (by omega), h1]; simp [hi]
          · have e1 : po_lt p f (po_of f (en S u r).2.2 (zI n) 0) (po_h f (en S u r) false) = reads p f (sw S (zI n)) u r := rfl
            rw [e1, b2i_ne0]
            rw [hls, Bool.true_and] at ih
            refine ⟨fun h0 => ?_, fun h0 => ct_chanceOf ?_⟩
            · rw [h0] at ih; exact ih
            · have h0 : reads p f (sw S (zI n)) u r = true := by simpa using h0
              rw [h0, if_pos rfl] at ih
              rw [ch_hi hon 8 hp8 (by omega)]; exact ih
  exact loop 256 0 (by omega) (by omega)
theorem ct_lapsesL {X : bi_X} {d : Nat} {K : Int32 → bi_St → Prop} {E : Nat → bi_St → Prop} {s : bi_St} {C R p u r : Nat} {f : Nat → Pol} {S : Sta} {q : Int32} (hj : RC s 0 C R p f S) (hr : r < S.2.2.1) (hu : u < 6) (k : ∀ t, fr wT s t → K (lp p f S u r q (2 ^ p)) t) :
    at_X12_lapses_44 X (d + 4) K E s (zI u) (zI r) q 0 0 := by
  have hC := hj.1.1
  have hp8 := hj.1.2.1
  have hp256 := pow_le256 hp8
  have e6 : ((6 : Int32)).toNatClampNeg = 6 := rfl
  have e78 : ((78 : Int32)).toNatClampNeg = 78 := rfl
  have inner : ∀ n acc (t : bi_St), n < 2 ^ p → fr wT s t → lps S.2.1 n = true → (∀ t2 v, fr wT s t2 → v = (if reads p f (sw S (zI n)) u r then acc + ch S.2.1 q n p else acc) → at_X12_lapses_44 X (d + 4) K E t2 (zI u) (zI r) q v (zI (n + 1))) → ∀ m i, m = p - i → i ≤ p → at_X12_lapses_79 X (d + 4) K E t (zI u) (zI r) q acc (zI n) (ch S.2.1 q n i) (zI i) := by
    intro n acc t hn ht hls hk m
    have hjt := RC_wT ht hj
    induction m with
    | zero =>
      intro i hm hi
      have : i = p := by omega
      subst this
      refine go_X12_lapses_79 ⟨fun _ => ct_tries (fun t2 ht2 hq => ⟨rfl, ?_⟩), fun z => absurd ?_ z⟩
      · rw [e78]
        have h12 : fr wT s (st_p t2 90 78 (zI n)) := (ht.trans (ht2.mono w90_wT)).p rfl
        have hj2 := RC_wT h12 hj
        refine ct_doesRead (b0 := 72) (S := sw S (zI n)) ⟨hj2.1, SR_on (SR_72 hC hjt.2.1 hq), hj2.2.2.1, hj2.2.2.2⟩ hu hr (fun t3 ht3 => ?_)
        rw [b2i_ne0, zI_add1]
        have h13 := h12.trans (ht3.mono wF_wT)
        refine ⟨fun h0 => hk t3 _ h13 (by rw [h0]; simp), fun h0 => hk t3 _ h13 ?_⟩
        have h0 : reads i f (sw S (zI n)) u r = true := by simpa using h0
        rw [h0]; simp
      · rw [hjt.1.2.2.1]; exact (zI_le (by omega) (by omega)).mpr (Nat.le_refl _)
    | succ m ih =>
      intro i hm hi
      have ih := ih (i + 1) (by omega) (by omega)
      rw [ch] at ih
      refine go_X12_lapses_79 ⟨fun z => ?_, fun _ => ⟨rfl, ?_⟩⟩
      · rw [hjt.1.2.2.1, zI_le (by omega) (by omega)] at z; omega
      · have hon : st_g t 90 6 = S.2.1 := hjt.2.1.2.2.2.1
        rw [e6, hon, tb_bit1 (by omega), tb_bit1 (by omega), zI_add1]
        refine ⟨fun hb => ?_, fun hb => ⟨fun hc => ?_, fun hc => ?_⟩⟩
        · rw [if_neg hb] at ih; exact ih
        · rw [if_pos (Decidable.of_not_not hb), if_neg hc] at ih; exact ih
        · rw [if_pos (Decidable.of_not_not hb), if_pos (Decidable.of_not_not hc)] at ih; exact ih
  have outer : ∀ m n (t : bi_St), m = 2 ^ p - n → n ≤ 2 ^ p → fr wT s t → at_X12_lapses_44 X (d + 4) K E t (zI u) (zI r) q (lp p f S u r q n) (zI n) := by
    intro m
    induction m with
    | zero =>
      intro n t hm hn ht
      have : n = 2 ^ p := by omega
      subst this
      refine go_X12_lapses_44 ⟨fun _ => k t ht, fun z => absurd ?_ z⟩
      rw [(RC_wT ht hj).1.2.2.1]
      show s1 p ≤ _
      rw [s1_pow (by omega)]; exact (zI_le (by omega) (by omega)).mpr (Nat.le_refl _)
    | succ m ih =>
      intro n t hm hn ht
      have hjt := RC_wT ht hj
      refine go_X12_lapses_44 ⟨fun z => ?_, fun _ => ⟨rfl, ?_⟩⟩
      · rw [hjt.1.2.2.1] at z
        have z : s1 p ≤ zI n := z
        rw [s1_pow (by omega), zI_le (by omega) (by omega)] at z; omega
      · have hon : st_g t 90 6 = S.2.1 := hjt.2.1.2.2.2.1
        rw [e6, hon, zI_add1]
        refine ⟨fun h0 => ?_, fun h0 => ?_⟩
        · have hls : lps S.2.1 n = true := decide_eq_true h0
          refine inner n _ t (by omega) ht hls (fun t2 v ht2 hv => ?_) p 0 (by omega) (by omega)
          have ih := ih (n + 1) t2 (by omega) (by omega) ht2
          rw [lp, hls, Bool.true_and] at ih
          rw [hv]; exact ih
        · have hls : lps S.2.1 n = false := decide_eq_false h0
          have ih := ih (n + 1) t (by omega) (by omega) ht
          rw [lp, hls] at ih
          exact ih
  exact outer (2 ^ p) 0 s (Nat.sub_zero _).symm (Nat.zero_le _) fr.refl
end LAPSE
