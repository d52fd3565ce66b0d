/-! ===== how many bits a set has, further ===== -/
section PC
theorem pcn_eq {n : Nat} (h : n < 65536) : pn5 (pn4 (pn3 (pn2 (pn1 n)))) = pcn n := by
  have := List.all_eq_true.mp (List.all_eq_true.mp pcn_ck (n / 256) (List.mem_range.mpr (by omega))) (n % 256) (List.mem_range.mpr (by omega))
  rw [Nat.div_add_mod] at this
  exact Nat.eq_of_beq_eq_true this
theorem zI_and (a b : Nat) : zI a &&& zI b = zI (a &&& b) := by
  apply tb_ext
  intro p hp
  rw [tb_and, tb_zI hp, tb_zI hp, tb_zI hp, Nat.testBit_and]
theorem zI_or (a b : Nat) : zI a ||| zI b = zI (a ||| b) := by
  apply tb_ext
  intro p hp
  rw [tb_or, tb_zI hp, tb_zI hp, tb_zI hp, Nat.testBit_or]
theorem zI_ushr {n : Nat} (hn : n < 4294967296) {k : Int32} {m : Nat} (hk : (k.toUInt32 &&& Int32.toUInt32 31).toBitVec.toNat = m) (hm : m < 32) : ((zI n).toUInt32 >>> (k.toUInt32 &&& Int32.toUInt32 31)).toInt32 = zI (n >>> m) := by
  apply Int32.toBitVec_inj.mp
  unfold zI
  rw [Int32.toBitVec_ofNat']
  show ((Int32.ofNat n).toUInt32 >>> (k.toUInt32 &&& Int32.toUInt32 31)).toBitVec = _
  rw [UInt32.toBitVec_shiftRight]
  show (Int32.ofNat n).toBitVec >>> ((k.toUInt32 &&& Int32.toUInt32 31).toBitVec % 32) = _
  rw [Int32.toBitVec_ofNat']
  apply BitVec.eq_of_toNat_eq
  rw [BitVec.ushiftRight_eq', BitVec.toNat_ushiftRight, BitVec.toNat_umod, hk, BitVec.toNat_ofNat, BitVec.toNat_ofNat, Nat.mod_eq_of_lt (show n < 2 ^ 32 by omega)]
  have : m % BitVec.toNat (32 : BitVec 32) = m := Nat.mod_eq_of_lt hm
  rw [this, Nat.mod_eq_of_lt]
  exact Nat.lt_of_le_of_lt (Nat.shiftRight_le n m) (by omega)
theorem pj_eq {n : Nat} (h : n < 65536) : pj5 (pj4 (pj3 (pj2 (pj1 (zI n))))) = zI (pcn n) := by
  have b1 : pn1 n < 65536 := by unfold pn1; omega
  have b2 : pn2 (pn1 n) < 131072 := by
    have h1 : (pn1 n &&& 858993459) ≤ pn1 n := Nat.and_le_left
    have h2 : ((pn1 n >>> 2) &&& 858993459) ≤ pn1 n >>> 2 := Nat.and_le_left
    have h3 : pn1 n >>> 2 ≤ pn1 n := Nat.shiftRight_le _ _
    unfold pn2; omega
  have b3 : pn3 (pn2 (pn1 n)) < 262144 := by
    have h1 : ((pn2 (pn1 n) + (pn2 (pn1 n) >>> 4)) &&& 252645135) ≤ pn2 (pn1 n) + (pn2 (pn1 n) >>> 4) := Nat.and_le_left
    have h3 : pn2 (pn1 n) >>> 4 ≤ pn2 (pn1 n) := Nat.shiftRight_le _ _
    unfold pn3; omega
  have b4 : pn4 (pn3 (pn2 (pn1 n))) < 524288 := by
    have h3 : pn3 (pn2 (pn1 n)) >>> 8 ≤ pn3 (pn2 (pn1 n)) := Nat.shiftRight_le _ _
    unfold pn4; omega
  have e1 : pj1 (zI n) = zI (pn1 n) := by
    unfold pj1 pn1
    rw [zI_ushr (m := 1) (by omega) rfl (by omega)]
    have : (1431655765 : Int32) = zI 1431655765 := rfl
    rw [this, zI_and]
    have h1 : ((n >>> 1) &&& 1431655765) ≤ n >>> 1 := Nat.and_le_left
    have h2 : n >>> 1 ≤ n := Nat.shiftRight_le _ _
    rw [zI_sub (by omega)]
  have e2 : pj2 (zI (pn1 n)) = zI (pn2 (pn1 n)) := by
    unfold pj2 pn2
    rw [zI_ushr (m := 2) (by omega) rfl (by omega)]
    have : (858993459 : Int32) = zI 858993459 := rfl
    rw [this, zI_and, zI_and, zI_add]
  have e3 : pj3 (zI (pn2 (pn1 n))) = zI (pn3 (pn2 (pn1 n))) := by
    unfold pj3 pn3
    rw [zI_ushr (m := 4) (by omega) rfl (by omega)]
    have : (252645135 : Int32) = zI 252645135 := rfl
    rw [this, zI_add, zI_and]
  have e4 : pj4 (zI (pn3 (pn2 (pn1 n)))) = zI (pn4 (pn3 (pn2 (pn1 n)))) := by
    unfold pj4 pn4
    rw [zI_ushr (m := 8) (by omega) rfl (by omega), zI_add]
  have e5 : pj5 (zI (pn4 (pn3 (pn2 (pn1 n))))) = zI (pn5 (pn4 (pn3 (pn2 (pn1 n))))) := by
    unfold pj5 pn5
    rw [zI_ushr (m := 16) (by omega) rfl (by omega)]
    have : (63 : Int32) = zI 63 := rfl
    rw [this, zI_add, zI_and]
  rw [e1, e2, e3, e4, e5, pcn_eq h]
/-- how many of the first n bits x has -/
def bc (x : Int32) : Nat → Nat
  | 0 => 0
  | n + 1 => bc x n + (tb x n).toNat
theorem bc_le (x : Int32) (n : Nat) : bc x n ≤ n := by
  induction n with
  | zero => exact Nat.le_refl 0
  | succ n ih => have := toNat_le1 (tb x n); rw [bc]; omega
theorem zI_of16 {x : Int32} (h : ∀ q, 16 ≤ q → q < 32 → tb x q = false) : ∃ n, n < 65536 ∧ x = zI n := by
  refine ⟨x.toBitVec.toNat % 65536, Nat.mod_lt _ (by omega), tb_ext fun p hp => ?_⟩
  rw [tb_zI hp, show 65536 = 2 ^ 16 from rfl, Nat.testBit_mod_two_pow]
  by_cases h16 : p < 16
  · simp only [h16, decide_true, Bool.true_and]; rfl
  · rw [h p (by omega) hp]; simp [h16]
def pk (n : Nat) : Nat → Nat
  | 0 => 0
  | k + 1 => pk n k + (n / 2 ^ k) % 2
theorem pk_pcn (n : Nat) : pk n 16 = pcn n := by
  simp only [pk, Nat.reducePow, Nat.zero_add, pcn]
theorem bc_pk (n : Nat) : ∀ k, k ≤ 32 → bc (zI n) k = pk n k := by
  intro k
  induction k with
  | zero => intro _; rfl
  | succ k ih =>
    intro hk
    rw [bc, pk, ih (by omega), tb_zI (by omega), Nat.testBit_eq_decide_div_mod_eq]
    have := Nat.mod_two_eq_zero_or_one (n / 2 ^ k)
    rcases this with h | h <;> simp [h]
theorem pcn_bc {n : Nat} (h : n < 65536) : pcn n = bc (zI n) 16 := by rw [bc_pk n 16 (by omega), pk_pcn]
theorem ct_bitCount {X : bi_X} {d : Nat} {K : Int32 → bi_St → Prop} {E : Nat → bi_St → Prop} {s : bi_St} {x : Int32} (h : ∀ q, 16 ≤ q → q < 32 → tb x q = false) (k : K (zI (bc x 16)) s) : cI X d 268 [.int x] s K E := by
  obtain ⟨n, h1, h2⟩ := zI_of16 h
  refine en_J6_bitCount_0f7a4 ?_
  have e : pj5 (pj4 (pj3 (pj2 (pj1 x)))) = zI (bc x 16) := by rw [h2, pj_eq h1, pcn_bc h1]
  have : K (pj5 (pj4 (pj3 (pj2 (pj1 x))))) s := by rw [e]; exact k
  exact this
theorem ct_bits {X : bi_X} {d : Nat} {K : Int32 → bi_St → Prop} {E : Nat → bi_St → Prop} {s : bi_St} {x : Int32} (k : K (zI (bc x 16)) s) : cI X d 166 [.int x] s K E := by
  have loop : ∀ m n, m = 16 - n → n ≤ 16 → at_X12_bits_4 X d K E s x (zI (bc x n)) (zI n) := by
    intro m
    induction m with
    | zero =>
      intro n hm hn
      have : n = 16 := by omega
      subst this
      exact go_X12_bits_4 ⟨fun _ => k, fun z => absurd (by decide) z⟩
    | succ m ih =>
      intro n hm hn
      refine go_X12_bits_4 ⟨fun z => ?_, fun _ => ?_⟩
      · have := (zI_le (a := 16) (by omega) (by omega)).mp z; omega
      · have ih := ih (n + 1) (by omega) (by omega)
        rw [bc] at ih
        rw [tb_b2i (by omega), zI_add1]
        have : b2i (tb x n) = zI (tb x n).toNat := by cases tb x n <;> rfl
        rw [this, zI_add]; exact ih
  exact en_X12_bits (loop 16 0 (by omega) (by omega))
theorem bo_16 {f : Nat → Bool} {n : Nat} (h : n ≤ 16) : ∀ q, 16 ≤ q → q < 32 → tb (bo f n) q = false := fun q h1 h2 => by
  rw [tb_bo (by omega) h2]
  have : ¬ q < n := by omega
  simp [this]
end PC
