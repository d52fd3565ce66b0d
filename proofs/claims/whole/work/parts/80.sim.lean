/-! ===== the plain machine stands for the machine: addresses, the world, its facts ===== -/
section SIM
def bi_ad (bs b : Nat) (tx : Nat → Nat) (a : Nat) : Nat := if a < 4999 then bs + a else if a = 4999 then b else tx (a - 5000)
def bi_v (ad : Nat → Nat) : Value → Value
  | .ref a => .ref (ad a)
  | v => v
def bi_vs (ad : Nat → Nat) (st : List Value) : List Value := st.map (bi_v ad)
def bi_lvv (ad : Nat → Nat) (lv : bi_Lv) : List (Nat × Value) := lv.map (fun q => (q.1, bi_v ad q.2))
theorem bi_v_cat (ad : Nat → Nat) (v : Value) : (bi_v ad v).category = v.category := by cases v <;> rfl
theorem bi_lvv_filter (ad : Nat → Nat) (lv : bi_Lv) (f : Nat → Nat → Bool) : (bi_lvv ad lv).filter (fun q => f q.1 q.2.category) = bi_lvv ad (lv.filter (fun q => f q.1 q.2.category)) := by
  unfold bi_lvv
  rw [List.filter_map]
  congr 1
  apply List.filter_congr
  intro q _
  simp only [Function.comp, bi_v_cat]
theorem bi_lvv_sto (ad : Nat → Nat) (lv : bi_Lv) (i : Nat) (v : Value) : (i, bi_v ad v) :: (bi_lvv ad lv).filter (fun q => !(q.1 == i) && !(q.1 + 1 == i && q.2.category == 2)) = bi_lvv ad (bi_sto lv i v) := by
  rw [bi_lvv_filter ad lv (fun a c => !(a == i) && !(a + 1 == i && c == 2))]
  rfl
theorem bi_lvv_sto2 (ad : Nat → Nat) (lv : bi_Lv) (i : Nat) (v : Value) : (i, bi_v ad v) :: (bi_lvv ad lv).filter (fun q => !(q.1 == i) && (!(q.1 == i + 1) && !(q.1 + 1 == i && q.2.category == 2))) = bi_lvv ad (bi_sto2 lv i v) := by
  rw [bi_lvv_filter ad lv (fun a c => !(a == i) && (!(a == i + 1) && !(a + 1 == i && c == 2)))]
  rfl
theorem bi_lvv_lk {ad : Nat → Nat} {lv : bi_Lv} {k : Nat} {v : Value} (h : bi_lk k lv = some v) : (k, bi_v ad v) ∈ bi_lvv ad lv := List.mem_map.mpr ⟨(k, v), bi_lk_mem h, rfl⟩
theorem bi_lvv_at {ad : Nat → Nat} {lv : bi_Lv} {k n : Nat} {v : Value} {ls : Array Slot} (hl : lv_has ls n (bi_lvv ad lv)) (h : bi_lk k lv = some v) : ls[k]? = some (.val (bi_v ad v)) := hl.2.2 _ (bi_lvv_lk h)
theorem bi_lvv_ix {ad : Nat → Nat} {lv : bi_Lv} {k : Nat} {v : Value} (h : bi_lk k lv = some v) : ∃ q : Nat, (bi_lvv ad lv)[q]? = some (k, bi_v ad v) := List.getElem?_of_mem (bi_lvv_lk h)
/-- what a field holds, what a cell holds -/
def bi_fv (ad : Nat → Nat) (M : bi_Mem) (a c k : Nat) : Value := match (bi_ft c k).1 with
  | 2 => .long (bi_L M a k)
  | 3 => va_rf ((bi_P M a k).map ad)
  | _ => .int (bi_I M a k)
def bi_el (ad : Nat → Nat) (cA : Nat → ClassId) (M : bi_Mem) (a : Nat) (q : Nat × Nat) : va_E :=
  bif Nat.blt q.1 13 then .inr (q.1, (List.range q.2).map (bi_fv ad M a q.1)) else .inl (cA q.1, q.2, bif Nat.beq q.1 17 then .inr (.inl (bi_L M a)) else bif Nat.beq q.1 16 then .inr (.inr (.inr (.inr (fun k => (bi_P M a k).map ad)))) else .inl (bi_I M a))
def bi_wl (ad : Nat → Nat) (cA : Nat → ClassId) (bs : Nat) (M : bi_Mem) : va_W := (List.range M.1.length).map (fun a => (bs + a, bi_el ad cA M a (bi_kd M a)))
theorem bi_wl_get {ad : Nat → Nat} {cA : Nat → ClassId} {bs : Nat} {M : bi_Mem} {a : Nat} (h : a < M.1.length) : (bi_wl ad cA bs M)[a]? = some (bs + a, bi_el ad cA M a (bi_kd M a)) := by
  unfold bi_wl
  rw [List.getElem?_map, List.getElem?_range h]
  rfl
theorem bi_wl_inv {ad : Nat → Nat} {cA : Nat → ClassId} {bs : Nat} {M : bi_Mem} {a : Nat} {q : Nat × va_E} (h : (bi_wl ad cA bs M)[a]? = some q) : a < M.1.length ∧ q = (bs + a, bi_el ad cA M a (bi_kd M a)) := by
  have hl : a < M.1.length := by
    have := (List.getElem?_eq_some_iff.mp h).1
    simpa [bi_wl] using this
  rw [bi_wl_get hl] at h
  exact ⟨hl, (Option.some.inj h).symm⟩
theorem bi_kd_lt {M : bi_Mem} {a c n : Nat} (h : bi_kd M a = (c, n)) (hc : c ≠ 99) : a < M.1.length := by
  rcases Nat.lt_or_ge a M.1.length with h1 | h1
  · exact h1
  · unfold bi_kd at h
    rw [List.getD_eq_getElem?_getD, List.getElem?_eq_none h1] at h
    cases h
    exact absurd rfl hc
def bi_A (bs : Nat) : Nat → Prop := fun q => bs ≤ q
theorem bi_wl_D {ad : Nat → Nat} {cA : Nat → ClassId} {bs : Nat} {M : bi_Mem} : va_D (bi_A bs) (bi_wl ad cA bs M) := by
  refine ⟨fun i j x y hi hj hxy => ?_, fun k q hk => ?_⟩
  · obtain ⟨-, rfl⟩ := bi_wl_inv hi
    obtain ⟨-, rfl⟩ := bi_wl_inv hj
    simp only at hxy
    omega
  · obtain ⟨-, rfl⟩ := bi_wl_inv hk
    show bs ≤ bs + k
    omega
theorem bi_wl_set {ad : Nat → Nat} {cA : Nat → ClassId} {bs : Nat} {M M' : bi_Mem} {a : Nat} {x : va_E} (hk : M'.1 = M.1) (hx : x = bi_el ad cA M' a (bi_kd M' a)) (ho : ∀ z, z ≠ a → bi_I M' z = bi_I M z ∧ bi_L M' z = bi_L M z ∧ bi_P M' z = bi_P M z) : (bi_wl ad cA bs M).set a (bs + a, x) = bi_wl ad cA bs M' := by
  apply List.ext_getElem?
  intro z
  by_cases hz : z = a
  · subst hz
    by_cases hl : z < M.1.length
    · rw [List.getElem?_set_self (by simpa [bi_wl] using hl), bi_wl_get (by rw [hk]; exact hl), hx]
    · rw [List.getElem?_eq_none (by simpa [bi_wl] using Nat.le_of_not_lt hl), List.getElem?_eq_none (by simpa [bi_wl, hk] using Nat.le_of_not_lt hl)]
  · rw [List.getElem?_set_ne (Ne.symm hz)]
    by_cases hl : z < M.1.length
    · rw [bi_wl_get hl, bi_wl_get (by rw [hk]; exact hl)]
      obtain ⟨h1, h2, h3⟩ := ho z hz
      have e1 : bi_kd M' z = bi_kd M z := by unfold bi_kd; rw [hk]
      have e2 : ∀ c, bi_fv ad M' z c = bi_fv ad M z c := by
        intro c; funext k; unfold bi_fv; rw [h1, h2, h3]
      rw [e1]
      unfold bi_el
      rw [h1, h2, h3, e2]
    · rw [List.getElem?_eq_none (by simpa [bi_wl] using Nat.le_of_not_lt hl), List.getElem?_eq_none (by simpa [bi_wl, hk] using Nat.le_of_not_lt hl)]
def bi_ok (M : bi_Mem) : Prop := (∀ a, a < M.1.length → ((bi_kd M a).1 < 13 ∧ (bi_kd M a).2 = bi_nf (bi_kd M a).1) ∨ (13 ≤ (bi_kd M a).1 ∧ (bi_kd M a).1 < 18)) ∧ M.1.length ≤ 4999 ∧ M.1.length ≤ M.2.1.1
def bi_W9 (D : va_G) (cA : Nat → ClassId) (bs b : Nat) (tx : Nat → Nat) (M : bi_Mem) (H : Heap) : Prop := va_P D vwCl (bi_wl (bi_ad bs b tx) cA bs M) H ∧ (M.2.1.1 = M.1.length → bs + M.1.length ≤ H.size) ∧ bi_ok M
def bi_tys (cA : Nat → ClassId) : List (ClassId × FieldType) := [(cA 13, .byte), (cA 14, .int), (cA 15, .boolean), (cA 16, .object RX7), (cA 17, .long)]
theorem bi_obj {ad : Nat → Nat} {cA : Nat → ClassId} {bs : Nat} {M : bi_Mem} {a c n : Nat} (hk : bi_kd M a = (c, n)) (hc : c < 13) : (bi_wl ad cA bs M)[a]? = some (bs + a, .inr (c, (List.range n).map (bi_fv ad M a c))) := by
  rw [bi_wl_get (bi_kd_lt hk (by omega)), hk]
  unfold bi_el
  have : Nat.blt c 13 = true := by rw [Nat.blt_eq]; exact hc
  simp only [this]
  rfl
theorem bi_arrI {ad : Nat → Nat} {cA : Nat → ClassId} {bs : Nat} {M : bi_Mem} {a c n : Nat} (hk : bi_kd M a = (c, n)) (hc : c = 13 ∨ c = 14 ∨ c = 15) : (bi_wl ad cA bs M)[a]? = some (bs + a, .inl (cA c, n, .inl (bi_I M a))) := by
  rw [bi_wl_get (bi_kd_lt hk (by omega)), hk]
  rcases hc with rfl | rfl | rfl <;> rfl
theorem bi_arrL {ad : Nat → Nat} {cA : Nat → ClassId} {bs : Nat} {M : bi_Mem} {a n : Nat} (hk : bi_kd M a = (17, n)) : (bi_wl ad cA bs M)[a]? = some (bs + a, .inl (cA 17, n, .inr (.inl (bi_L M a)))) := by
  rw [bi_wl_get (bi_kd_lt hk (by omega)), hk]; rfl
theorem bi_arrP {ad : Nat → Nat} {cA : Nat → ClassId} {bs : Nat} {M : bi_Mem} {a n : Nat} (hk : bi_kd M a = (16, n)) : (bi_wl ad cA bs M)[a]? = some (bs + a, .inl (cA 16, n, .inr (.inr (.inr (.inr (fun k => (bi_P M a k).map ad)))))) := by
  rw [bi_wl_get (bi_kd_lt hk (by omega)), hk]; rfl
theorem bi_ad_lt {bs b : Nat} {tx : Nat → Nat} {a : Nat} (h : a < 4999) : bi_ad bs b tx a = bs + a := by unfold bi_ad; rw [if_pos h]
theorem bi_in_iff {i : Int32} {n : Nat} : bi_in i n = true ↔ vp_in i n := by
  unfold bi_in vp_in
  simp only [Bool.and_eq_true, Bool.not_eq_true', decide_eq_false_iff_not, decide_eq_true_eq]
  constructor
  · intro h z; rcases z with z | z
    · exact h.1 z
    · omega
  · intro h
    exact ⟨fun z => h (Or.inl z), by
      rcases Nat.lt_or_ge i.toNatClampNeg n with q | q
      · exact q
      · exact absurd (Or.inr q) h⟩
end SIM
