/-! ===== ints, bits, the store's reads and writes, frames ===== -/
section I32
def zI (n : Nat) : Int32 := Int32.ofNat n
theorem zI_int {n : Nat} (h : n < 2147483648) : (zI n).toInt = (n : Int) := by
  unfold zI
  exact Int32.toInt_ofNat_of_lt h
theorem zI_add1 (n : Nat) : zI n + 1 = zI (n + 1) := by
  unfold zI
  rw [Int32.ofNat_add]; rfl
theorem zI_add (n m : Nat) : zI n + zI m = zI (n + m) := by
  unfold zI
  rw [Int32.ofNat_add]
theorem zI_mul (n m : Nat) : zI n * zI m = zI (n * m) := by
  unfold zI
  rw [Int32.ofNat_mul]
theorem zI_sub {n m : Nat} (h : m ≤ n) : zI n - zI m = zI (n - m) := by
  have : zI n = zI (n - m) + zI m := by rw [zI_add, Nat.sub_add_cancel h]
  rw [this, Int32.add_sub_cancel]
theorem zI_le {a b : Nat} (ha : a < 2147483648) (hb : b < 2147483648) : (zI a ≤ zI b) ↔ a ≤ b := by
  rw [Int32.le_iff_toInt_le, zI_int ha, zI_int hb]; omega
theorem zI_lt {a b : Nat} (ha : a < 2147483648) (hb : b < 2147483648) : (zI a < zI b) ↔ a < b := by
  rw [Int32.lt_iff_toInt_lt, zI_int ha, zI_int hb]; omega
theorem zI_eq {a b : Nat} (ha : a < 2147483648) (hb : b < 2147483648) : (zI a = zI b) ↔ a = b := by
  rw [← Int32.toInt_inj, zI_int ha, zI_int hb]; omega
theorem zI_nn {a : Nat} (ha : a < 2147483648) : ¬ zI a < 0 := by
  show ¬ zI a < zI 0
  rw [zI_lt ha (by omega)]; omega
theorem zI_nat {a : Nat} (ha : a < 2147483648) : (zI a).toNatClampNeg = a := by
  rw [← Int32.toNat_toInt, zI_int ha]; omega
theorem zI_m1 {a : Nat} (ha : a < 2147483648) : ¬ zI a = -1 := by
  intro h
  have := congrArg Int32.toInt h
  rw [zI_int ha] at this
  have e : (-1 : Int32).toInt = -1 := by decide
  omega
theorem zI_of {x : Int32} (h : ¬ x < 0) : ∃ n, n < 2147483648 ∧ x = zI n := by
  have h0 : ¬ x.toInt < 0 := by
    intro hh; exact h (Int32.lt_iff_toInt_lt.mpr hh)
  have h1 := Int32.toInt_lt x
  refine ⟨x.toInt.toNat, by omega, ?_⟩
  rw [← Int32.toInt_inj, zI_int (by omega)]
  omega
end I32
section BITS
/-- the bit p of x -/
def tb (x : Int32) (p : Nat) : Bool := x.toBitVec.getLsbD p
theorem tb_ext {x y : Int32} (h : ∀ p, p < 32 → tb x p = tb y p) : x = y := by
  apply Int32.toBitVec_inj.mp
  exact BitVec.eq_of_getLsbD_eq h
theorem tb_or (x y : Int32) (p : Nat) : tb (x ||| y) p = (tb x p || tb y p) := by unfold tb; simp
theorem tb_and (x y : Int32) (p : Nat) : tb (x &&& y) p = (tb x p && tb y p) := by unfold tb; simp
theorem tb_xor (x y : Int32) (p : Nat) : tb (x ^^^ y) p = (tb x p != tb y p) := by unfold tb; simp
theorem tb_0 (p : Nat) : tb 0 p = false := by unfold tb; simp
theorem tb_m1 {p : Nat} (h : p < 32) : tb (-1) p = true := by
  have : ∀ p : Fin 32, tb (-1) p.1 = true := by decide
  exact this ⟨p, h⟩
theorem tb_not {x : Int32} {p : Nat} (h : p < 32) : tb (x ^^^ (-1)) p = !(tb x p) := by
  rw [tb_xor, tb_m1 h]; simp
theorem zI_31 {p : Nat} (h : p < 32) : zI p &&& 31 = zI p := by
  have : ∀ p : Fin 32, zI p.1 &&& 31 = zI p.1 := by decide
  exact this ⟨p, h⟩
theorem tb_shr1 {x : Int32} {p : Nat} (h : p < 32) : ((x >>> (zI p &&& 31)) &&& 1) = if tb x p then 1 else 0 := by
  rw [zI_31 h]
  apply tb_ext
  intro q hq
  have e1 : tb 1 q = decide (q = 0) := by
    have : ∀ q : Fin 32, tb 1 q.1 = decide (q.1 = 0) := by decide
    exact this ⟨q, hq⟩
  rw [tb_and, e1]
  by_cases h0 : q = 0
  · subst h0
    have e2 : tb (x >>> zI p) 0 = tb x p := by
      unfold tb
      rw [Int32.toBitVec_shiftRight]
      have : ((zI p).toBitVec.smod 32).toNat = p := by
        have : ∀ p : Fin 32, ((zI p.1).toBitVec.smod 32).toNat = p.1 := by decide
        exact this ⟨p, h⟩
      rw [BitVec.sshiftRight', this, BitVec.getLsbD_sshiftRight]
      simp [h]
    rw [e2]
    cases tb x p <;> simp <;> decide
  · simp only [h0, decide_false, Bool.and_false]
    cases tb x p
    · simp [tb_0]
    · simp only [if_true]; rw [e1]; simp [h0]
theorem tb_bit1 {x : Int32} {p : Nat} (h : p < 32) : (((x >>> (zI p &&& 31)) &&& 1) = 1) ↔ tb x p = true := by
  rw [tb_shr1 h]; cases tb x p <;> simp
theorem tb_bit0 {x : Int32} {p : Nat} (h : p < 32) : (((x >>> (zI p &&& 31)) &&& 1) = 0) ↔ tb x p = false := by
  rw [tb_shr1 h]; cases tb x p <;> simp
/-- the bit p alone -/
def s1 (p : Nat) : Int32 := (1 : Int32) <<< (zI p &&& 31)
theorem tb_s1 {p q : Nat} (hp : p < 32) (hq : q < 32) : tb (s1 p) q = decide (q = p) := by
  have : ∀ p q : Fin 32, tb (s1 p.1) q.1 = decide (q.1 = p.1) := by decide
  exact this ⟨p, hp⟩ ⟨q, hq⟩
/-- the bits p below n with f -/
def bo (f : Nat → Bool) : Nat → Int32
  | 0 => 0
  | n + 1 => if f n then bo f n ||| s1 n else bo f n
theorem tb_bo {f : Nat → Bool} {n p : Nat} (hn : n ≤ 32) (hp : p < 32) : tb (bo f n) p = (decide (p < n) && f p) := by
  induction n with
  | zero => simp [bo, tb_0]
  | succ n ih =>
    have ih := ih (by omega)
    rw [bo]
    by_cases hf : f n = true
    · rw [if_pos hf, tb_or, ih, tb_s1 (by omega) hp]
      by_cases h1 : p < n
      · have : p < n + 1 := by omega
        have : ¬ p = n := by omega
        simp [*]
      · by_cases h2 : p = n
        · subst h2; simp [hf]
        · have : ¬ p < n + 1 := by omega
          simp [*]
    · rw [if_neg hf, ih]
      by_cases h1 : p < n
      · have : p < n + 1 := by omega
        simp [*]
      · by_cases h2 : p = n
        · subst h2; simp [hf]
        · have : ¬ p < n + 1 := by omega
          simp [*]
theorem bo_congr {f g : Nat → Bool} {n : Nat} (h : ∀ p, p < n → f p = g p) : bo f n = bo g n := by
  induction n with
  | zero => rfl
  | succ n ih =>
    rw [bo, bo, ih (fun p hp => h p (by omega)), h n (by omega)]
theorem bo_bo {f : Nat → Bool} {n : Nat} (hn : n ≤ 32) {x : Int32} (h : ∀ p, p < 32 → tb x p = (decide (p < n) && f p)) : x = bo f n := tb_ext fun p hp => by rw [h p hp, tb_bo hn hp]
theorem tb_ne0 {x : Int32} : ¬ x = 0 ↔ ∃ p, p < 32 ∧ tb x p = true := by
  constructor
  · intro h
    by_cases hx : ∃ p, p < 32 ∧ tb x p = true
    · exact hx
    · exact absurd (tb_ext fun p hp => by
        rw [tb_0]
        cases hb : tb x p
        · rfl
        · exact absurd ⟨p, hp, hb⟩ hx) h
  · intro ⟨p, _, hp⟩ h
    rw [h, tb_0] at hp; cases hp
theorem tb_eq0 {x : Int32} : x = 0 ↔ ∀ p, p < 32 → tb x p = false := by
  constructor
  · intro h p _; rw [h, tb_0]
  · intro h; exact tb_ext fun p hp => by rw [h p hp, tb_0]
end BITS
section ST
theorem in_zI {a n : Nat} (h : a < n) (hn : n < 2147483648) : bi_in (zI a) n = true := by
  unfold bi_in
  rw [zI_nat (by omega)]
  simp [zI_nn (show a < 2147483648 by omega), h]
theorem in_lt {x : Int32} {n : Nat} (h : bi_in x n = true) : ∃ a, a < n ∧ a < 2147483648 ∧ x = zI a := by
  unfold bi_in at h
  simp only [Bool.and_eq_true, Bool.not_eq_true', decide_eq_false_iff_not, decide_eq_true_eq] at h
  obtain ⟨a, h1, h2⟩ := zI_of h.1
  subst h2
  rw [zI_nat h1] at h
  exact ⟨a, h.2, h1, rfl⟩
theorem g_p (s : bi_St) (a k : Nat) (v : Int32) (b q : Nat) : st_g (st_p s a k v) b q = if b = a ∧ q = k then v else st_g s b q := by
  unfold st_g st_p bi_up va_up
  by_cases h1 : b = a
  · subst h1
    by_cases h2 : q = k
    · simp [h2]
    · simp [h2]
  · simp [h1]
theorem g_p_eq (s : bi_St) (a k : Nat) (v : Int32) : st_g (st_p s a k v) a k = v := by rw [g_p]; simp
theorem g_p_a {s : bi_St} {a k : Nat} {v : Int32} {b q : Nat} (h : b ≠ a) : st_g (st_p s a k v) b q = st_g s b q := by rw [g_p]; simp [h]
theorem g_p_k {s : bi_St} {a k : Nat} {v : Int32} {b q : Nat} (h : q ≠ k) : st_g (st_p s a k v) b q = st_g s b q := by rw [g_p]; simp [h]
theorem g_pl (s : bi_St) (a k : Nat) (v : Int64) (b q : Nat) : st_g (st_pl s a k v) b q = st_g s b q := rfl
theorem g_pp (s : bi_St) (i x : Nat) (b q : Nat) : st_g (st_pp s i x) b q = st_g s b q := rfl
theorem g_ex (s : bi_St) (b q : Nat) : st_g (st_ex s) b q = st_g s b q := rfl
theorem gp_p (s : bi_St) (a k : Nat) (v : Int32) (i : Nat) : st_gp (st_p s a k v) i = st_gp s i := rfl
theorem gp_pl (s : bi_St) (a k : Nat) (v : Int64) (i : Nat) : st_gp (st_pl s a k v) i = st_gp s i := rfl
theorem gp_ex (s : bi_St) (i : Nat) : st_gp (st_ex s) i = st_gp s i := rfl
theorem gp_pp (s : bi_St) (i x j : Nat) : st_gp (st_pp s i x) j = if j = i then x else st_gp s j := by
  unfold st_gp st_pp va_up
  by_cases h : j = i
  · simp [h]
  · simp [h]
theorem gp_cp (s : bi_St) (a sp b dp n i : Nat) : st_gp (st_cp s a sp b dp n) i = st_gp s i := rfl
theorem g_cp (s : bi_St) (a sp b dp n c k : Nat) : st_g (st_cp s a sp b dp n) c k = if c = b ∧ dp ≤ k ∧ k < dp + n then st_g s a (sp + (k - dp)) else st_g s c k := by
  unfold st_g st_cp bi_row va_cpy
  by_cases h1 : c = b
  · subst h1
    by_cases h2 : dp ≤ k ∧ k < dp + n
    · simp [h2]
    · simp [h2]
  · simp [h1]
theorem gl_p (s : bi_St) (a k : Nat) (v : Int32) (b q : Nat) : st_gl (st_p s a k v) b q = st_gl s b q := rfl
theorem gl_pl (s : bi_St) (a k : Nat) (v : Int64) (b q : Nat) : st_gl (st_pl s a k v) b q = if b = a ∧ q = k then v else st_gl s b q := by
  unfold st_gl st_pl bi_up va_up
  by_cases h1 : b = a
  · subst h1
    by_cases h2 : q = k
    · simp [h2]
    · simp [h2]
  · simp [h1]
/-- t is s but for the ints in W, the longs in cells of V -/
def fr (W : Nat → Nat → Bool) (s t : bi_St) : Prop := t.1 = s.1 ∧ (∀ i, st_gp t i = st_gp s i) ∧ (∀ a k, W a k = false → st_g t a k = st_g s a k) ∧ ∀ a k, (W a k = false ∨ (k ≠ 13 ∧ a ≠ 112)) → st_gl t a k = st_gl s a k
theorem fr.refl {W : Nat → Nat → Bool} {s : bi_St} : fr W s s := ⟨rfl, fun _ => rfl, fun _ _ _ => rfl, fun _ _ _ => rfl⟩
theorem fr.trans {W : Nat → Nat → Bool} {s t u : bi_St} (h : fr W s t) (k : fr W t u) : fr W s u := ⟨k.1.trans h.1, fun i => (k.2.1 i).trans (h.2.1 i), fun a q hw => (k.2.2.1 a q hw).trans (h.2.2.1 a q hw), fun a q hw => (k.2.2.2 a q hw).trans (h.2.2.2 a q hw)⟩
theorem fr.mono {W V : Nat → Nat → Bool} {s t : bi_St} (h : fr W s t) (hv : ∀ a k, W a k = true → V a k = true) : fr V s t := by
  have hh : ∀ a k, V a k = false → W a k = false := fun a k hv' => by
    cases hw : W a k
    · rfl
    · rw [hv a k hw] at hv'; cases hv'
  exact ⟨h.1, h.2.1, fun a k hw => h.2.2.1 a k (hh a k hw), fun a k hw => h.2.2.2 a k (hw.imp (hh a k) id)⟩
theorem fr.p {W : Nat → Nat → Bool} {s t : bi_St} {a k : Nat} {v : Int32} (h : fr W s t) (hw : W a k = true) : fr W s (st_p t a k v) := by
  refine ⟨h.1, h.2.1, fun b q hb => ?_, h.2.2.2⟩
  rw [g_p]
  by_cases hc : b = a ∧ q = k
  · rw [hc.1, hc.2, hw] at hb; cases hb
  · rw [if_neg hc]; exact h.2.2.1 b q hb
theorem fr.pl {W : Nat → Nat → Bool} {s t : bi_St} {a k : Nat} {v : Int64} (h : fr W s t) (hw : W a k = true) (hk : k = 13 ∨ a = 112) : fr W s (st_pl t a k v) := by
  refine ⟨h.1, h.2.1, h.2.2.1, fun b q hb => ?_⟩
  rw [gl_pl]
  by_cases hc : b = a ∧ q = k
  · rw [hc.1, hc.2, hw] at hb
    rcases hb with hb | hb
    · cases hb
    · omega
  · rw [if_neg hc]; exact h.2.2.2 b q hb
theorem fr.cp {W : Nat → Nat → Bool} {s t : bi_St} {a sp b dp n : Nat} (h : fr W s t) (hw : ∀ k, W b k = true) : fr W s (st_cp t a sp b dp n) := by
  refine ⟨h.1, h.2.1, fun c q hb => ?_, h.2.2.2⟩
  rw [g_cp]
  by_cases hc : c = b
  · rw [hc, hw q] at hb; cases hb
  · rw [if_neg (fun z => hc z.1)]; exact h.2.2.1 c q hb
theorem fr.g {W : Nat → Nat → Bool} {s t : bi_St} (h : fr W s t) {a k : Nat} (hw : W a k = false) : st_g t a k = st_g s a k := h.2.2.1 a k hw
theorem fr.gp {W : Nat → Nat → Bool} {s t : bi_St} (h : fr W s t) (i : Nat) : st_gp t i = st_gp s i := h.2.1 i
theorem toN0 : ((0 : Int32)).toNatClampNeg = 0 := rfl
theorem ex1 {d n : Nat} (h : n + 1 ≤ d) : ∃ e, d = e + 1 ∧ n ≤ e := ⟨d - 1, by omega, by omega⟩
end ST
section LIT
theorem litI (k : Nat) : (OfNat.ofNat k : Int32) = zI (OfNat.ofNat k) := rfl
def b2i (b : Bool) : Int32 := if b then 1 else 0
theorem b2i_ne0 (b : Bool) : (b2i b = 0) ↔ b = false := by cases b <;> simp [b2i]
theorem b2i_eq1 (b : Bool) : (b2i b = 1) ↔ b = true := by cases b <;> simp [b2i]
theorem b2i_bool (b : Bool) : bi_bool (b2i b) = true := by cases b <;> rfl
theorem tb_b2i {x : Int32} {p : Nat} (h : p < 32) : ((x >>> (zI p &&& 31)) &&& 1) = b2i (tb x p) := by rw [tb_shr1 h]; rfl
end LIT
