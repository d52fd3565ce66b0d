/-! ===== which roles a role has: the least set that is closed ===== -/
section HAS
def sub6 (x : Int32) : Prop := ∀ q, 6 ≤ q → q < 32 → tb x q = false
def le32 (x y : Int32) : Prop := ∀ q, q < 32 → tb x q = true → tb y q = true
theorem le32.trans {x y z : Int32} (h : le32 x y) (k : le32 y z) : le32 x z := fun q hq hx => k q hq (h q hq hx)
theorem le32.refl (x : Int32) : le32 x x := fun _ _ h => h
theorem le32.antisymm {x y : Int32} (h : le32 x y) (k : le32 y x) : x = y := tb_ext fun q hq => by
  cases h1 : tb x q
  · cases h2 : tb y q
    · rfl
    · rw [k q hq h2] at h1; cases h1
  · exact (h q hq h1).symm
theorem le_or1 (x y : Int32) : le32 x (x ||| y) := fun q _ h => by rw [tb_or, h]; rfl
theorem le_or2 (x y : Int32) : le32 y (x ||| y) := fun q _ h => by rw [tb_or, h]; simp
theorem or_le {x y z : Int32} (h : le32 x z) (k : le32 y z) : le32 (x ||| y) z := fun q hq hx => by
  rw [tb_or, Bool.or_eq_true] at hx
  exact hx.elim (h q hq) (k q hq)
def clsd (G : Nat → Int32) (y : Int32) : Prop := ∀ r, r < 6 → tb y r = true → le32 (G r) y
def isCl (G : Nat → Int32) (x y : Int32) : Prop := le32 x y ∧ clsd G y ∧ ∀ z, le32 x z → clsd G z → le32 y z
theorem isCl_uniq {G : Nat → Int32} {x y z : Int32} (h : isCl G x y) (k : isCl G x z) : y = z := le32.antisymm (h.2.2 z k.1 k.2.1) (k.2.2 y h.1 h.2.1)
/-- one round, in place: as far as role r -/
def cl_r (G : Nat → Int32) : Nat → Int32 → Int32
  | 0, y => y
  | r + 1, y => if tb (cl_r G r y) r then cl_r G r y ||| G r else cl_r G r y
def cl_n (G : Nat → Int32) : Nat → Int32 → Int32
  | 0, y => y
  | n + 1, y => cl_r G 6 (cl_n G n y)
def clo (G : Nat → Int32) (x : Int32) : Int32 := cl_n G 6 x
theorem cl_r_le (G : Nat → Int32) (y : Int32) : ∀ r, le32 y (cl_r G r y) := by
  intro r
  induction r with
  | zero => exact le32.refl y
  | succ r ih =>
    rw [cl_r]
    by_cases h : tb (cl_r G r y) r = true
    · rw [if_pos h]; exact ih.trans (le_or1 _ _)
    · rw [if_neg h]; exact ih
theorem cl_r_mono (G : Nat → Int32) (y : Int32) : ∀ r k, le32 (cl_r G r y) (cl_r G (r + k) y) := by
  intro r k
  induction k with
  | zero => exact le32.refl _
  | succ k ih =>
    rw [← Nat.add_assoc, cl_r]
    by_cases h : tb (cl_r G (r + k) y) (r + k) = true
    · rw [if_pos h]; exact ih.trans (le_or1 _ _)
    · rw [if_neg h]; exact ih
theorem cl_r_min {G : Nat → Int32} {y z : Int32} (hz : clsd G z) (h : le32 y z) : ∀ r, r ≤ 6 → le32 (cl_r G r y) z := by
  intro r
  induction r with
  | zero => intro _; exact h
  | succ r ih =>
    intro hr
    have ih := ih (by omega)
    rw [cl_r]
    by_cases hb : tb (cl_r G r y) r = true
    · rw [if_pos hb]; exact or_le ih (hz r (by omega) (ih r (by omega) hb))
    · rw [if_neg hb]; exact ih
theorem cl_r_fix {G : Nat → Int32} {y : Int32} (h : cl_r G 6 y = y) : clsd G y := by
  have he : ∀ r, r ≤ 6 → cl_r G r y = y := fun r hr => le32.antisymm (by
    have := cl_r_mono G y r (6 - r)
    rw [show r + (6 - r) = 6 by omega, h] at this
    exact this) (cl_r_le G y r)
  intro r hr hb
  have h1 := he (r + 1) (by omega)
  rw [cl_r, he r (by omega), if_pos hb] at h1
  have := le_or2 y (G r)
  rw [h1] at this
  exact this
theorem sub6_or {x y : Int32} (h : sub6 x) (k : sub6 y) : sub6 (x ||| y) := fun q h1 h2 => by rw [tb_or, h q h1 h2, k q h1 h2]; rfl
theorem cl_r_sub {G : Nat → Int32} (hG : ∀ r, r < 6 → sub6 (G r)) {y : Int32} (h : sub6 y) : ∀ r, r ≤ 6 → sub6 (cl_r G r y) := by
  intro r
  induction r with
  | zero => intro _; exact h
  | succ r ih =>
    intro hr
    have ih := ih (by omega)
    rw [cl_r]
    by_cases hb : tb (cl_r G r y) r = true
    · rw [if_pos hb]; exact sub6_or ih (hG r (by omega))
    · rw [if_neg hb]; exact ih
def c6 (y : Int32) : Nat := (tb y 0).toNat + (tb y 1).toNat + (tb y 2).toNat + (tb y 3).toNat + (tb y 4).toNat + (tb y 5).toNat
theorem toNat_le1 (b : Bool) : b.toNat ≤ 1 := by cases b <;> simp
theorem c6_le (y : Int32) : c6 y ≤ 6 := by
  have h0 := toNat_le1 (tb y 0); have h1 := toNat_le1 (tb y 1); have h2 := toNat_le1 (tb y 2)
  have h3 := toNat_le1 (tb y 3); have h4 := toNat_le1 (tb y 4); have h5 := toNat_le1 (tb y 5)
  unfold c6; omega
theorem c6_lt {x y : Int32} (h : le32 x y) (hs : sub6 y) (hne : ¬ x = y) : c6 x < c6 y := by
  have hm : ∀ q, q < 32 → (tb x q).toNat ≤ (tb y q).toNat := fun q hq => by
    cases h1 : tb x q
    · simp
    · rw [h q hq h1]; simp
  have hex : ∃ q, q < 6 ∧ (tb x q).toNat < (tb y q).toNat := by
    by_cases hh : ∃ q, q < 6 ∧ (tb x q).toNat < (tb y q).toNat
    · exact hh
    · exfalso
      apply hne
      apply tb_ext
      intro q hq
      by_cases h6 : q < 6
      · have := hm q hq
        have h2 : ¬ (tb x q).toNat < (tb y q).toNat := fun z => hh ⟨q, h6, z⟩
        cases hx : tb x q <;> cases hy : tb y q <;> simp_all
      · have hy := hs q (by omega) hq
        rw [hy]
        cases hx : tb x q
        · rfl
        · rw [h q hq hx] at hy; cases hy
  obtain ⟨q, h6, hlt⟩ := hex
  have m0 := hm 0 (by omega); have m1 := hm 1 (by omega); have m2 := hm 2 (by omega)
  have m3 := hm 3 (by omega); have m4 := hm 4 (by omega); have m5 := hm 5 (by omega)
  unfold c6
  have : q = 0 ∨ q = 1 ∨ q = 2 ∨ q = 3 ∨ q = 4 ∨ q = 5 := by omega
  rcases this with h | h | h | h | h | h <;> subst h <;> omega
theorem c6_full {y : Int32} (h : 6 ≤ c6 y) : ∀ q, q < 6 → tb y q = true := by
  have h0 := toNat_le1 (tb y 0); have h1 := toNat_le1 (tb y 1); have h2 := toNat_le1 (tb y 2)
  have h3 := toNat_le1 (tb y 3); have h4 := toNat_le1 (tb y 4); have h5 := toNat_le1 (tb y 5)
  unfold c6 at h
  have key : ∀ b : Bool, b.toNat = 1 → b = true := fun b hb => by cases b <;> simp_all
  intro q hq
  have : q = 0 ∨ q = 1 ∨ q = 2 ∨ q = 3 ∨ q = 4 ∨ q = 5 := by omega
  rcases this with z | z | z | z | z | z <;> subst z <;> exact key _ (by omega)
theorem cl_n_sub {G : Nat → Int32} (hG : ∀ r, r < 6 → sub6 (G r)) {y : Int32} (h : sub6 y) : ∀ n, sub6 (cl_n G n y) := by
  intro n
  induction n with
  | zero => exact h
  | succ n ih => rw [cl_n]; exact cl_r_sub hG ih 6 (by omega)
theorem clsd_fix {G : Nat → Int32} {y : Int32} (h : clsd G y) : cl_r G 6 y = y := le32.antisymm (cl_r_min h (le32.refl y) 6 (by omega)) (cl_r_le G y 6)
theorem cl_n_cl {G : Nat → Int32} (hG : ∀ r, r < 6 → sub6 (G r)) {y : Int32} (h : sub6 y) : ∀ n, clsd G (cl_n G n y) ∨ n ≤ c6 (cl_n G n y) := by
  intro n
  induction n with
  | zero => exact Or.inr (by omega)
  | succ n ih =>
    rw [cl_n]
    rcases ih with ih | ih
    · left; rw [clsd_fix ih]; exact ih
    · by_cases he : cl_r G 6 (cl_n G n y) = cl_n G n y
      · left; rw [he]; exact cl_r_fix he
      · right
        have := c6_lt (cl_r_le G (cl_n G n y) 6) (cl_r_sub hG (cl_n_sub hG h n) 6 (by omega)) (fun z => he z.symm)
        omega
theorem cl_n_le (G : Nat → Int32) (y : Int32) : ∀ n, le32 y (cl_n G n y) := by
  intro n
  induction n with
  | zero => exact le32.refl y
  | succ n ih => rw [cl_n]; exact ih.trans (cl_r_le _ _ _)
theorem cl_n_min {G : Nat → Int32} {y z : Int32} (hz : clsd G z) (h : le32 y z) : ∀ n, le32 (cl_n G n y) z := by
  intro n
  induction n with
  | zero => exact h
  | succ n ih => rw [cl_n]; exact cl_r_min hz ih 6 (by omega)
theorem clo_isCl {G : Nat → Int32} (hG : ∀ r, r < 6 → sub6 (G r)) {y : Int32} (h : sub6 y) : isCl G y (clo G y) := by
  refine ⟨cl_n_le G y 6, ?_, fun z h1 h2 => cl_n_min h2 h1 6⟩
  rcases cl_n_cl hG h 6 with k | k
  · exact k
  · intro r hr _ q hq hb
    by_cases h6 : q < 6
    · exact c6_full k q h6
    · rw [hG r hr q (by omega) hq] at hb; cases hb
theorem clo_sub {G : Nat → Int32} (hG : ∀ r, r < 6 → sub6 (G r)) {y : Int32} (h : sub6 y) : sub6 (clo G y) := cl_n_sub hG h 6
theorem clo_congr {G H : Nat → Int32} (h : ∀ r, r < 6 → G r = H r) (y : Int32) : clo G y = clo H y := by
  have h1 : ∀ r y, r ≤ 6 → cl_r G r y = cl_r H r y := by
    intro r y
    induction r with
    | zero => intro _; rfl
    | succ r ih => intro hr; rw [cl_r, cl_r, ih (by omega), h r (by omega)]
  have h2 : ∀ n y, cl_n G n y = cl_n H n y := by
    intro n y
    induction n with
    | zero => rfl
    | succ n ih => rw [cl_n, cl_n, ih, h1 6 _ (by omega)]
  exact h2 6 y
theorem s1_sub6 {u : Nat} (h : u < 6) : sub6 (s1 u) := fun q h1 h2 => by rw [tb_s1 (by omega) h2]; simp; omega
/-- the class works it out -/
theorem ct_allHadBy {X : bi_X} {d : Nat} {K : Int32 → bi_St → Prop} {E : Nat → bi_St → Prop} {s : bi_St} {x : Int32} {a : Nat} (ha : st_gp s 8 = a) (hS : st_isS a) (k : K (clo (fun r => st_g s (a + 2) r) x) s) : cI X (d + 1) 25 [.ref 57, .int x] s K E := by
  have inner : ∀ (y : Int32) (n : Nat), n < 6 → (at_X2_allHadBy_4 X (d + 1) K E s (cl_r (fun r => st_g s (a + 2) r) 6 y) (zI (n + 1))) → ∀ m r, m = 6 - r → r ≤ 6 → at_X2_allHadBy_13 X (d + 1) K E s (cl_r (fun r => st_g s (a + 2) r) r y) (zI n) (zI r) := by
    intro y n hn hk m
    induction m with
    | zero =>
      intro r hm hr
      have : r = 6 := by omega
      subst this
      exact go_X2_allHadBy_13 ⟨fun _ => by rw [zI_add1]; exact hk, fun z => absurd (by decide) z⟩
    | succ m ih =>
      intro r hm hr
      have ih := ih (r + 1) (by omega) (by omega)
      refine go_X2_allHadBy_13 ⟨fun z => ?_, fun _ => ct_bit (by omega) ?_⟩
      · have := (zI_le (a := 6) (by omega) (by omega)).mp z; omega
      · rw [b2i_eq1, zI_add1]
        rw [cl_r] at ih
        refine ⟨fun hb => ?_, fun hb => ⟨by rw [ha]; exact hS, in_zI (by omega) (by omega), ?_⟩⟩
        · rw [if_neg hb] at ih; rw [Int32.or_zero]; exact ih
        · rw [if_pos (Decidable.of_not_not hb)] at ih
          rw [zI_nat (by omega), ha]; exact ih
  have outer : ∀ m n, m = 6 - n → n ≤ 6 → at_X2_allHadBy_4 X (d + 1) K E s (cl_n (fun r => st_g s (a + 2) r) n x) (zI n) := by
    intro m
    induction m with
    | zero =>
      intro n hm hn
      have : n = 6 := by omega
      subst this
      exact go_X2_allHadBy_4 ⟨fun _ => k, fun z => absurd (by decide) z⟩
    | succ m ih =>
      intro n hm hn
      have ih := ih (n + 1) (by omega) (by omega)
      refine go_X2_allHadBy_4 ⟨fun z => ?_, fun _ => ?_⟩
      · have := (zI_le (a := 6) (by omega) (by omega)).mp z; omega
      · exact inner _ n (by omega) ih 6 0 (by omega) (by omega)
  exact en_X2_allHadBy (outer 6 0 (by omega) (by omega))
/-- judge.sit -/
theorem ct_sit {X : bi_X} {d : Nat} {K : bi_St → Prop} {E : Nat → bi_St → Prop} {s : bi_St} {b a : Nat} (hb : st_isB b) (hS : st_isS a)
    (k : ∀ t, fr (fun c _ => Nat.beq c 58) (st_pp (st_pp s 7 b) 8 a) t → (∀ u, u < 6 → st_g t 58 u = clo (fun r => st_g s (a + 2) r) (s1 u)) → K t) : cV X (d + 2) 24 [.ref 57, .ref b, .ref a] s K E := by
  refine en_X2_sit hb hS ?_
  have ha58 : a + 2 ≠ 58 := by rcases hS with h | h | h | h <;> omega
  have loop : ∀ m n (t : bi_St), m = 6 - n → n ≤ 6 → fr (fun c _ => Nat.beq c 58) (st_pp (st_pp s 7 b) 8 a) t → (∀ u, u < n → st_g t 58 u = clo (fun r => st_g s (a + 2) r) (s1 u)) → at_X2_sit_12 X (d + 2) K E t (zI n) := by
    intro m
    induction m with
    | zero =>
      intro n t hm hn ht hh
      have : n = 6 := by omega
      subst this
      exact go_X2_sit_12 ⟨fun _ => k t ht hh, fun z => absurd (by decide) z⟩
    | succ m ih =>
      intro n t hm hn ht hh
      refine go_X2_sit_12 ⟨fun z => ?_, fun _ => ?_⟩
      · have := (zI_le (a := 6) (by omega) (by omega)).mp z; omega
      · have h8 : st_gp t 8 = a := by rw [ht.gp, gp_pp]; simp
        refine ct_allHadBy h8 hS ⟨in_zI (by omega) (by omega), ?_⟩
        rw [zI_nat (by omega), zI_add1]
        refine ih (n + 1) _ (by omega) (by omega) (ht.p rfl) (fun u hu => ?_)
        have e1 : clo (fun r => st_g t (a + 2) r) (s1 n) = clo (fun r => st_g s (a + 2) r) (s1 n) := clo_congr (fun r _ => by
          show st_g t (a + 2) r = st_g s (a + 2) r
          rw [ht.g (by rw [Bool.eq_false_iff]; intro z; exact ha58 (Nat.eq_of_beq_eq_true z)), g_pp, g_pp]) _
        rw [g_p]
        by_cases hun : u = n
        · subst hun; simp; exact e1
        · simp [hun]; exact hh u (by omega)
  exact loop 6 0 _ (by omega) (by omega) fr.refl (fun u hu => by omega)
/-- the reference works it out -/
theorem ct_hasOf {X : bi_X} {d : Nat} {K : Int32 → bi_St → Prop} {E : Nat → bi_St → Prop} {s : bi_St} {b0 u R : Nat} (hb0 : b0 ≤ 72) (hu : u < 6) (hR : R ≤ 6) (h27 : st_g s 77 27 = zI R) (hG : ∀ r, r < 6 → sub6 (st_g s 90 (b0 + r))) (hz : ∀ r, R ≤ r → r < 6 → st_g s 90 (b0 + r) = 0)
    (k : K (clo (fun r => st_g s 90 (b0 + r)) (s1 u)) s) : cI X d 208 [.ref 77, .int (zI b0), .int (zI u)] s K E := by
  have hcl := clo_isCl (G := fun r => st_g s 90 (b0 + r)) hG (s1_sub6 hu)
  -- one round of the reference
  have inner : ∀ (was : Int32), le32 (s1 u) was → sub6 was → le32 was (clo (fun r => st_g s 90 (b0 + r)) (s1 u)) → (∀ y, le32 was y → sub6 y → le32 y (clo (fun r => st_g s 90 (b0 + r)) (s1 u)) → (∀ r, r < R → tb was r = true → le32 (st_g s 90 (b0 + r)) y) → at_X12_hasOf_7 X d K E s (zI b0) y was) →
      ∀ m n y, m = R - n → n ≤ R → le32 was y → sub6 y → le32 y (clo (fun r => st_g s 90 (b0 + r)) (s1 u)) → (∀ r, r < n → tb was r = true → le32 (st_g s 90 (b0 + r)) y) → at_X12_hasOf_19 X d K E s (zI b0) y was (zI n) := by
    intro was hw hws hwc hk m
    induction m with
    | zero =>
      intro n y hm hn h1 h2 h3 h4
      have : n = R := by omega
      subst this
      refine go_X12_hasOf_19 ⟨fun _ => hk y h1 h2 h3 h4, fun z => absurd ?_ z⟩
      rw [h27]; exact (zI_le (by omega) (by omega)).mpr (Nat.le_refl n)
    | succ m ih =>
      intro n y hm hn h1 h2 h3 h4
      refine go_X12_hasOf_19 ⟨fun z => ?_, fun _ => ?_⟩
      · rw [h27, zI_le (by omega) (by omega)] at z; omega
      · rw [tb_bit1 (by omega), zI_add1, zI_add, zI_nat (by omega)]
        refine ⟨fun hb => ?_, fun hb => ⟨in_zI (by omega) (by omega), ?_⟩⟩
        · rw [Int32.or_zero]
          refine ih (n + 1) y (by omega) (by omega) h1 h2 h3 (fun r hr hbr => ?_)
          by_cases hrn : r = n
          · subst hrn; exact absurd hbr hb
          · exact h4 r (by omega) hbr
        · have hb := Decidable.of_not_not hb
          refine ih (n + 1) _ (by omega) (by omega) (h1.trans (le_or1 _ _)) (sub6_or h2 (hG n (by omega))) (or_le h3 ?_) (fun r hr hbr => ?_)
          · exact hcl.2.1 n (by omega) (hwc n (by omega) hb)
          · by_cases hrn : r = n
            · subst hrn; exact le_or2 _ _
            · exact (h4 r (by omega) hbr).trans (le_or1 _ _)
  have outer : ∀ m was y, 7 - c6 y ≤ m → le32 (s1 u) y → le32 was y → sub6 y → le32 y (clo (fun r => st_g s 90 (b0 + r)) (s1 u)) → (was = 0 ∨ ∀ r, r < R → tb was r = true → le32 (st_g s 90 (b0 + r)) y) → at_X12_hasOf_7 X d K E s (zI b0) y was := by
    intro m
    induction m with
    | zero => intro was y hm; have := c6_le y; omega
    | succ m ih =>
      intro was y hm h1 h2 h3 h4 h5
      refine go_X12_hasOf_7 ⟨fun he => ?_, fun he => ?_⟩
      · subst he
        have hc : clsd (fun r => st_g s 90 (b0 + r)) was := by
          intro r hr hb
          rcases h5 with h5 | h5
          · rw [h5, tb_0] at hb; cases hb
          · by_cases hrR : r < R
            · exact h5 r hrR hb
            · intro q hq hqb
              have e0 : st_g s 90 (b0 + r) = 0 := hz r (by omega) hr
              have hqb : tb (st_g s 90 (b0 + r)) q = true := hqb
              rw [e0, tb_0] at hqb; cases hqb
        have : was = clo (fun r => st_g s 90 (b0 + r)) (s1 u) := le32.antisymm h4 (hcl.2.2 was h1 hc)
        rw [this]; exact k
      · refine inner y h1 h3 h4 (fun z z1 z2 z3 z4 => ?_) R 0 y (by omega) (by omega) (le32.refl y) h3 h4 (fun r hr => by omega)
        by_cases hyz : y = z
        · -- nothing came: it ends at the head
          subst hyz
          refine go_X12_hasOf_7 ⟨fun _ => ?_, fun z => absurd rfl z⟩
          have hc : clsd (fun r => st_g s 90 (b0 + r)) y := by
            intro r hr hb
            by_cases hrR : r < R
            · exact z4 r hrR hb
            · intro q hq hqb
              have e0 : st_g s 90 (b0 + r) = 0 := hz r (by omega) hr
              have hqb : tb (st_g s 90 (b0 + r)) q = true := hqb
              rw [e0, tb_0] at hqb; cases hqb
          have : y = clo (fun r => st_g s 90 (b0 + r)) (s1 u) := le32.antisymm h4 (hcl.2.2 y h1 hc)
          rw [this]; exact k
        · have := c6_lt z1 z2 hyz
          have := c6_le z
          exact ih y z (by omega) (h1.trans z1) z1 z2 z3 (Or.inr z4)
  exact en_X12_hasOf (outer 7 0 (s1 u) (by omega) (le32.refl _) (fun q _ h => by rw [tb_0] at h; cases h) (s1_sub6 hu) hcl.1 (Or.inl rfl))
end HAS
