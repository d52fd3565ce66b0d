/-! ===== rules: an instruction that asks for something; ends; calls ===== -/
section STR
variable {X : bi_X} {d j pc : Nat} {lv : bi_Lv} {r : List Value} {s : bi_St} {Q : bi_Out → Prop}
theorem st_pi_inj {a k i : Nat} (h : st_pi a k = some (.inr i)) {a' k' : Nat} (h' : st_pi a' k' = some (.inr i)) : a' = a ∧ k' = k := by
  have bd : ∀ {a k : Nat} {z : Nat ⊕ Nat}, st_pi a k = some z → a < 113 ∧ k < 80 := by
    intro a k z hz
    unfold st_pi at hz
    cases hb : (Nat.blt a 113 && Nat.blt k 80) with
    | false => rw [hb] at hz; cases hz
    | true =>
      simp only [Bool.and_eq_true, Nat.blt_eq] at hb
      exact hb
  have h1 := bd h
  have h2 := bd h'
  have ck := List.all_eq_true.mp (List.all_eq_true.mp st_pi_ck a (List.mem_range.mpr h1.1)) k (List.mem_range.mpr h1.2)
  rw [h] at ck
  simp only [Bool.and_eq_true] at ck
  have e1 : a' = a := by
    have c1 := List.all_eq_true.mp ck.1 a' (List.mem_range.mpr h2.1)
    cases hb : Nat.beq a' a with
    | true => exact Nat.eq_of_beq_eq_true hb
    | false =>
      rw [hb, Bool.false_or] at c1
      have c2 := List.all_eq_true.mp c1 k' (List.mem_range.mpr h2.2)
      rw [h'] at c2
      simp at c2
  subst e1
  refine ⟨rfl, ?_⟩
  have c1 := List.all_eq_true.mp ck.2 k' (List.mem_range.mpr h2.2)
  cases hb : Nat.beq k' k with
  | true => exact Nat.eq_of_beq_eq_true hb
  | false =>
    rw [hb, h'] at c1
    simp at c1
theorem st_Pw_up {m : Nat → Nat} {a k i x : Nat} (h : st_pi a k = some (.inr i)) : bi_up (st_Pw m) a k (some x) = st_Pw (va_up m i x) := by
  funext a' k'
  by_cases he : a' = a ∧ k' = k
  · obtain ⟨rfl, rfl⟩ := he
    simp [bi_up, st_Pw, h, va_up]
  · have hl : bi_up (st_Pw m) a k (some x) a' k' = st_Pw m a' k' := by
      unfold bi_up
      by_cases ha : a' = a
      · subst ha
        rw [if_pos rfl]
        have hz : k' ≠ k := fun z => he ⟨rfl, z⟩
        simp [va_up, hz]
      · rw [if_neg ha]
    rw [hl]
    unfold st_Pw
    cases hp : st_pi a' k' with
    | none => rfl
    | some z =>
      cases z with
      | inl c => rfl
      | inr i' =>
        have : i' ≠ i := fun e => he (st_pi_inj h (by rw [hp, e]))
        simp [va_up, this]
theorem st_mm_pp {a k i x : Nat} (h : st_pi a k = some (.inr i)) : bi_setP (st_mm s) (bi_up (bi_P (st_mm s)) a k (some x)) = st_mm (st_pp s i x) := by
  show (st_K0, s.1, s.2.1, s.2.2.1, bi_up (st_Pw s.2.2.2) a k (some x)) = _
  rw [st_Pw_up h]
  rfl
/-- two ways -/
theorem bi_Tif {c : Prop} [hc : Decidable c] {a b : Nat} {st : List Value} {M : bi_Mem} (h1 : c → bi_T X d j (a, lv, st, M) Q) (h2 : ¬ c → bi_T X d j (b, lv, st, M) Q) : bi_T X d j ((if c then a else b), lv, st, M) Q := by
  by_cases h : c
  · rw [if_pos h]; exact h1 h
  · rw [if_neg h]; exact h2 h
theorem bi_stp_eq {i : Instr} {n : Nat} {st : List Value} {M : bi_Mem} (hf : bi_fe j pc = some (i, n)) : bi_stp X j pc lv st M = bi_step X j i pc lv st M := by unfold bi_stp; rw [hf]
theorem bi_Tial {a n : Nat} {i : Int32} (hf : bi_fe j pc = some (.iaload, 1)) (ha : Nat.beq a 4999 = false) (hk : bi_kd (st_mm s) a = (14, n)) (hi : bi_in i n = true) (k : bi_T X d j (pc + 1, lv, .int (st_g s a i.toNatClampNeg) :: r, st_mm s) Q) : bi_T X d j (pc, lv, .int i :: .ref a :: r, st_mm s) Q :=
  bi_T1 (b := true) (by rw [bi_stp_eq hf]; simp only [bi_step, bi_iald, ha, hk, hi]; rfl) rfl k
theorem bi_Tbal {a n q : Nat} {i : Int32} (hf : bi_fe j pc = some (.baload, 1)) (hk : bi_kd (st_mm s) a = (q, n)) (hq : (Nat.beq q 13 || Nat.beq q 15) = true) (hi : bi_in i n = true) (k : bi_T X d j (pc + 1, lv, .int (st_g s a i.toNatClampNeg) :: r, st_mm s) Q) : bi_T X d j (pc, lv, .int i :: .ref a :: r, st_mm s) Q :=
  bi_T1 (b := true) (by rw [bi_stp_eq hf]; simp only [bi_step, bi_bald, hk, hi, hq]; rfl) rfl k
theorem bi_Tsal {i : Int32} (hf : bi_fe j pc = some (.iaload, 1)) (hi : bi_in i X.1 = true) (k : bi_T X d j (pc + 1, lv, .int (X.2 i.toNatClampNeg) :: r, st_mm s) Q) : bi_T X d j (pc, lv, .int i :: .ref 4999 :: r, st_mm s) Q :=
  bi_T1 (b := true) (by rw [bi_stp_eq hf]; simp only [bi_step, bi_iald, hi]; rfl) rfl k
theorem bi_Tlal {a n : Nat} {i : Int32} (hf : bi_fe j pc = some (.laload, 1)) (hk : bi_kd (st_mm s) a = (17, n)) (hi : bi_in i n = true) (k : bi_T X d j (pc + 1, lv, .long (st_gl s a i.toNatClampNeg) :: r, st_mm s) Q) : bi_T X d j (pc, lv, .int i :: .ref a :: r, st_mm s) Q :=
  bi_T1 (b := true) (by rw [bi_stp_eq hf]; simp only [bi_step, bi_lald, hk, hi]; rfl) rfl k
theorem bi_Taal {i : Int32} (hf : bi_fe j pc = some (.aaload, 1)) (hi : bi_in i 9 = true) (k : bi_T X d j (pc + 1, lv, .ref (st_gp s (10 + i.toNatClampNeg)) :: r, st_mm s) Q) : bi_T X d j (pc, lv, .int i :: .ref 66 :: r, st_mm s) Q := by
  have hlt : i.toNatClampNeg < 9 := by simp only [bi_in, Bool.and_eq_true, decide_eq_true_eq] at hi; exact hi.2
  have hp : bi_P (st_mm s) 66 i.toNatClampNeg = some (st_gp s (10 + i.toNatClampNeg)) := by
    show st_Pw _ 66 _ = _
    have e1 : Nat.blt i.toNatClampNeg 80 = true := by rw [Nat.blt_eq]; omega
    have e2 : Nat.blt i.toNatClampNeg 9 = true := by rw [Nat.blt_eq]; exact hlt
    have e3 : st_pi 66 i.toNatClampNeg = some (.inr (10 + i.toNatClampNeg)) := by
      unfold st_pi
      rw [e1, e2]
      rfl
    unfold st_Pw
    rw [e3]
    rfl
  have hk : bi_kd (st_mm s) 66 = (16, 9) := rfl
  exact bi_T1 (b := true) (by rw [bi_stp_eq hf]; simp only [bi_step, bi_aald, hk, hi, hp]; rfl) rfl k
theorem bi_Tias {a n : Nat} {i x : Int32} (hf : bi_fe j pc = some (.iastore, 1)) (hk : bi_kd (st_mm s) a = (14, n)) (hi : bi_in i n = true) (k : bi_T X d j (pc + 1, lv, r, st_mm (st_p s a i.toNatClampNeg x)) Q) : bi_T X d j (pc, lv, .int x :: .int i :: .ref a :: r, st_mm s) Q :=
  bi_T1 (b := true) (by rw [bi_stp_eq hf]; simp only [bi_step, bi_iast, hk, hi]; rfl) rfl k
theorem bi_Tbas {a n q : Nat} {i x : Int32} (hf : bi_fe j pc = some (.bastore, 1)) (hk : bi_kd (st_mm s) a = (q, n)) (hq : (Nat.beq q 13 || Nat.beq q 15) = true) (hi : bi_in i n = true) (k : bi_T X d j (pc + 1, lv, r, st_mm (st_p s a i.toNatClampNeg (bi_nar q x))) Q) : bi_T X d j (pc, lv, .int x :: .int i :: .ref a :: r, st_mm s) Q :=
  bi_T1 (b := true) (by rw [bi_stp_eq hf]; simp only [bi_step, bi_bast, hk, hi, hq]; rfl) rfl k
theorem bi_Tlas {a n : Nat} {i : Int32} {x : Int64} (hf : bi_fe j pc = some (.lastore, 1)) (hk : bi_kd (st_mm s) a = (17, n)) (hi : bi_in i n = true) (k : bi_T X d j (pc + 1, lv, r, st_mm (st_pl s a i.toNatClampNeg x)) Q) : bi_T X d j (pc, lv, .long x :: .int i :: .ref a :: r, st_mm s) Q :=
  bi_T1 (b := true) (by rw [bi_stp_eq hf]; simp only [bi_step, bi_last, hk, hi]; rfl) rfl k
theorem bi_Taas {x : Nat} {i : Int32} (hf : bi_fe j pc = some (.aastore, 1)) (hx : st_isp x) (hi : bi_in i 9 = true) (k : bi_T X d j (pc + 1, lv, r, st_mm (st_pp s (10 + i.toNatClampNeg) x)) Q) : bi_T X d j (pc, lv, .ref x :: .int i :: .ref 66 :: r, st_mm s) Q := by
  have hlt : i.toNatClampNeg < 9 := by simp only [bi_in, Bool.and_eq_true, decide_eq_true_eq] at hi; exact hi.2
  have e1 : Nat.blt i.toNatClampNeg 80 = true := by rw [Nat.blt_eq]; omega
  have e2 : Nat.blt i.toNatClampNeg 9 = true := by rw [Nat.blt_eq]; exact hlt
  have e3 : st_pi 66 i.toNatClampNeg = some (.inr (10 + i.toNatClampNeg)) := by
    unfold st_pi
    rw [e1, e2]
    rfl
  have hk : bi_kd (st_mm s) 66 = (16, 9) := rfl
  have hk2 : bi_kd (st_mm s) x = (7, 9) := st_kp0 hx
  refine bi_T1 (b := true) ?_ rfl k
  rw [bi_stp_eq hf, ← st_mm_pp e3]
  simp only [bi_step, bi_aast, hk, hk2, hi]
  rfl
theorem bi_Tgi {a o i c n q : Nat} (hf : bi_fe j pc = some (.getfield i, 3)) (hl : bi_lf (bi_mi j).1 i = some (c, q)) (ht : Nat.ble (bi_ft c q).1 1 = true) (hk : bi_kd (st_mm s) a = (c, n)) (k : bi_T X d j (pc + 3, lv, .int (st_g s a q) :: r, st_mm s) Q) : bi_T X d j (pc, lv, .ref a :: r, st_mm s) Q := by
  refine bi_T1 (b := true) ?_ rfl k
  rw [bi_stp_eq hf]
  simp only [bi_step, bi_getf, hl, hk]
  have : (bi_ft c q).1 = 0 ∨ (bi_ft c q).1 = 1 := by
    have := Nat.le_of_ble_eq_true ht
    omega
  rcases this with h | h
  · rw [h]; simp; rfl
  · rw [h]; simp; rfl
theorem bi_Tgr {a i c n q x : Nat} (hf : bi_fe j pc = some (.getfield i, 3)) (hl : bi_lf (bi_mi j).1 i = some (c, q)) (ht : (bi_ft c q).1 = 3) (hk : bi_kd (st_mm s) a = (c, n)) (hp : bi_P (st_mm s) a q = some x) (k : bi_T X d j (pc + 3, lv, .ref x :: r, st_mm s) Q) : bi_T X d j (pc, lv, .ref a :: r, st_mm s) Q := by
  refine bi_T1 (b := true) ?_ rfl k
  rw [bi_stp_eq hf]
  simp only [bi_step, bi_getf, hl, hk, ht, hp]
  simp
theorem bi_Tpi {a i c n q : Nat} {x : Int32} (hf : bi_fe j pc = some (.putfield i, 3)) (hl : bi_lf (bi_mi j).1 i = some (c, q)) (ht : (bi_ft c q).1 = 0) (ho : bi_fok j c q = true) (hk : bi_kd (st_mm s) a = (c, n)) (k : bi_T X d j (pc + 3, lv, r, st_mm (st_p s a q x)) Q) : bi_T X d j (pc, lv, .int x :: .ref a :: r, st_mm s) Q := by
  refine bi_T1 (b := true) ?_ rfl k
  rw [bi_stp_eq hf]
  simp only [bi_step, bi_putf, hl, hk, ht, ho]
  simp
  rfl
theorem bi_Tpz {a i c n q : Nat} {x : Int32} (hf : bi_fe j pc = some (.putfield i, 3)) (hl : bi_lf (bi_mi j).1 i = some (c, q)) (ht : (bi_ft c q).1 = 1) (ho : bi_fok j c q = true) (hk : bi_kd (st_mm s) a = (c, n)) (hz : bi_bool x = true) (k : bi_T X d j (pc + 3, lv, r, st_mm (st_p s a q x)) Q) : bi_T X d j (pc, lv, .int x :: .ref a :: r, st_mm s) Q := by
  refine bi_T1 (b := true) ?_ rfl k
  rw [bi_stp_eq hf]
  unfold bi_bool at hz
  simp only [bi_step, bi_putf, hl, hk, ht, ho, hz]
  simp
  rfl
/-- a reference that changes is put -/
theorem bi_Tpr {a i c n q x z : Nat} (hf : bi_fe j pc = some (.putfield i, 3)) (hl : bi_lf (bi_mi j).1 i = some (c, q)) (ht : (bi_ft c q).1 = 3) (ho : bi_fok j c q = true) (hk : bi_kd (st_mm s) a = (c, n)) (hp : st_pi a q = some (.inr z)) (k : bi_T X d j (pc + 3, lv, r, st_mm (st_pp s z x)) Q) : bi_T X d j (pc, lv, .ref x :: .ref a :: r, st_mm s) Q := by
  refine bi_T1 (b := true) ?_ rfl k
  rw [bi_stp_eq hf, ← st_mm_pp hp]
  simp only [bi_step, bi_putf, hl, hk, ht, ho]
  simp
theorem bi_Tdiv {x y : Int32} (hf : bi_fe j pc = some (.idiv, 1)) (hy : ¬ y = 0) (k : bi_T X d j (pc + 1, lv, .int (x / y) :: r, st_mm s) Q) : bi_T X d j (pc, lv, .int y :: .int x :: r, st_mm s) Q :=
  bi_T1 (b := true) (by rw [bi_stp_eq hf]; simp only [bi_step, bi_op2d, hy, decide_false, Bool.not_false]) rfl k
theorem bi_Trem {x y : Int32} (hf : bi_fe j pc = some (.irem, 1)) (hy : ¬ y = 0) (k : bi_T X d j (pc + 1, lv, .int (x - x / y * y) :: r, st_mm s) Q) : bi_T X d j (pc, lv, .int y :: .int x :: r, st_mm s) Q :=
  bi_T1 (b := true) (by rw [bi_stp_eq hf]; simp only [bi_step, bi_op2d, hy, decide_false, Bool.not_false]) rfl k
theorem bi_Tcpy {a b n0 n1 i z : Nat} {sp dp n : Int32} (hf : bi_fe j pc = some (.invokestatic i, 3)) (hl : bi_lm (bi_mi j).1 i = some (7, z)) (ha : bi_kd (st_mm s) a = (14, n0)) (hb : bi_kd (st_mm s) b = (14, n1)) (hr : bi_cats r = true)
    (h1 : ¬ sp < 0) (h2 : ¬ dp < 0) (h3 : ¬ n < 0) (h4 : sp.toNatClampNeg + n.toNatClampNeg ≤ n0) (h5 : dp.toNatClampNeg + n.toNatClampNeg ≤ n1)
    (k : bi_T X d j (pc + 3, lv, r, st_mm (st_cp s a sp.toNatClampNeg b dp.toNatClampNeg n.toNatClampNeg)) Q) : bi_T X d j (pc, lv, .int n :: .int dp :: .ref b :: .int sp :: .ref a :: r, st_mm s) Q := by
  refine bi_T1 (b := true) ?_ rfl k
  rw [bi_stp_eq hf]
  simp only [bi_step, bi_inv, hl, bi_copy, ha, hb, hr, h1, h2, h3, Nat.ble_eq_true_of_le h4, Nat.ble_eq_true_of_le h5]
  rfl
/-- what comes of a method: an int, a long, nothing; or a throw -/
def st_RI (K : Int32 → bi_St → Prop) (E : Nat → bi_St → Prop) : bi_Out → Prop := fun o => (∃ v t, o = (.inl (some (.int v)), st_mm t) ∧ K v t) ∨ ∃ e t, o = (.inr e, st_mm t) ∧ E e t
def st_RL (K : Int64 → bi_St → Prop) (E : Nat → bi_St → Prop) : bi_Out → Prop := fun o => (∃ v t, o = (.inl (some (.long v)), st_mm t) ∧ K v t) ∨ ∃ e t, o = (.inr e, st_mm t) ∧ E e t
def st_RV (K : bi_St → Prop) (E : Nat → bi_St → Prop) : bi_Out → Prop := fun o => (∃ t, o = (.inl none, st_mm t) ∧ K t) ∨ ∃ e t, o = (.inr e, st_mm t) ∧ E e t
def cI (X : bi_X) (d j : Nat) (as : List Value) (s : bi_St) (K : Int32 → bi_St → Prop) (E : Nat → bi_St → Prop) : Prop := bi_T X d j (0, bi_ent as, [], st_mm s) (st_RI K E)
def cL (X : bi_X) (d j : Nat) (as : List Value) (s : bi_St) (K : Int64 → bi_St → Prop) (E : Nat → bi_St → Prop) : Prop := bi_T X d j (0, bi_ent as, [], st_mm s) (st_RL K E)
def cV (X : bi_X) (d j : Nat) (as : List Value) (s : bi_St) (K : bi_St → Prop) (E : Nat → bi_St → Prop) : Prop := bi_T X d j (0, bi_ent as, [], st_mm s) (st_RV K E)
theorem st_RI.mono {K K' : Int32 → bi_St → Prop} {E E' : Nat → bi_St → Prop} (hk : ∀ v t, K v t → K' v t) (he : ∀ e t, E e t → E' e t) : ∀ o, st_RI K E o → st_RI K' E' o := fun _ h => h.elim (fun ⟨v, t, e, q⟩ => Or.inl ⟨v, t, e, hk v t q⟩) (fun ⟨v, t, e, q⟩ => Or.inr ⟨v, t, e, he v t q⟩)
theorem st_RL.mono {K K' : Int64 → bi_St → Prop} {E E' : Nat → bi_St → Prop} (hk : ∀ v t, K v t → K' v t) (he : ∀ e t, E e t → E' e t) : ∀ o, st_RL K E o → st_RL K' E' o := fun _ h => h.elim (fun ⟨v, t, e, q⟩ => Or.inl ⟨v, t, e, hk v t q⟩) (fun ⟨v, t, e, q⟩ => Or.inr ⟨v, t, e, he v t q⟩)
theorem st_RV.mono {K K' : bi_St → Prop} {E E' : Nat → bi_St → Prop} (hk : ∀ t, K t → K' t) (he : ∀ e t, E e t → E' e t) : ∀ o, st_RV K E o → st_RV K' E' o := fun _ h => h.elim (fun ⟨t, e, q⟩ => Or.inl ⟨t, e, hk t q⟩) (fun ⟨v, t, e, q⟩ => Or.inr ⟨v, t, e, he v t q⟩)
theorem cI.mono {as : List Value} {K K' : Int32 → bi_St → Prop} {E E' : Nat → bi_St → Prop} (h : cI X d j as s K E) (hk : ∀ v t, K v t → K' v t) (he : ∀ e t, E e t → E' e t) : cI X d j as s K' E' := bi_T_mono h (st_RI.mono hk he)
theorem cL.mono {as : List Value} {K K' : Int64 → bi_St → Prop} {E E' : Nat → bi_St → Prop} (h : cL X d j as s K E) (hk : ∀ v t, K v t → K' v t) (he : ∀ e t, E e t → E' e t) : cL X d j as s K' E' := bi_T_mono h (st_RL.mono hk he)
theorem cV.mono {as : List Value} {K K' : bi_St → Prop} {E E' : Nat → bi_St → Prop} (h : cV X d j as s K E) (hk : ∀ t, K t → K' t) (he : ∀ e t, E e t → E' e t) : cV X d j as s K' E' := bi_T_mono h (st_RV.mono hk he)
theorem bi_TcI {st : List Value} {j' : Nat} {as : List Value} {b : Bool} {M : bi_Mem} (h : bi_stp X j pc lv st M = some (b, .inr (.inr (.inr (j', as, r, st_mm s))))) (hb : b = true)
    (k : cI X d j' as s (fun v t => bi_T X (d + 1) j (pc + 3, lv, .int v :: r, st_mm t) Q) (fun e t => bi_kc X (d + 1) j pc lv r Q (.inr e, st_mm t))) : bi_T X (d + 1) j (pc, lv, st, M) Q :=
  bi_Tc h hb (bi_T_mono k fun _ q => q.elim (fun ⟨v, t, e, q⟩ => by rw [e]; exact q) (fun ⟨v, t, e, q⟩ => by rw [e]; exact q))
theorem bi_TcL {st : List Value} {j' : Nat} {as : List Value} {b : Bool} {M : bi_Mem} (h : bi_stp X j pc lv st M = some (b, .inr (.inr (.inr (j', as, r, st_mm s))))) (hb : b = true)
    (k : cL X d j' as s (fun v t => bi_T X (d + 1) j (pc + 3, lv, .long v :: r, st_mm t) Q) (fun e t => bi_kc X (d + 1) j pc lv r Q (.inr e, st_mm t))) : bi_T X (d + 1) j (pc, lv, st, M) Q :=
  bi_Tc h hb (bi_T_mono k fun _ q => q.elim (fun ⟨v, t, e, q⟩ => by rw [e]; exact q) (fun ⟨v, t, e, q⟩ => by rw [e]; exact q))
theorem bi_TcV {st : List Value} {j' : Nat} {as : List Value} {b : Bool} {M : bi_Mem} (h : bi_stp X j pc lv st M = some (b, .inr (.inr (.inr (j', as, r, st_mm s))))) (hb : b = true)
    (k : cV X d j' as s (fun t => bi_T X (d + 1) j (pc + 3, lv, r, st_mm t) Q) (fun e t => bi_kc X (d + 1) j pc lv r Q (.inr e, st_mm t))) : bi_T X (d + 1) j (pc, lv, st, M) Q :=
  bi_Tc h hb (bi_T_mono k fun _ q => q.elim (fun ⟨t, e, q⟩ => by rw [e]; exact q) (fun ⟨v, t, e, q⟩ => by rw [e]; exact q))
/-- a call of an object at a place that isn't known outright -/
theorem bi_TcO {a i j' : Nat} {st : List Value} {as : List Value} (hf : bi_fe j pc = some (.invokevirtual i, 3)) (hl : bi_lm (bi_mi j).1 i = some (0, j')) (hst : bi_args (bi_na j') [] st = some (as, .ref a :: r)) {c n : Nat} (hk : bi_kd (st_mm s) a = (c, n)) (hc : c = (bi_mi j').1) (hr : (bi_cats r && bi_a1 as) = true) : bi_stp X j pc lv st (st_mm s) = some (true, .inr (.inr (.inr (j', .ref a :: as, r, st_mm s)))) := by
  rw [bi_stp_eq hf]
  simp only [bi_step, bi_inv, hl, bi_call, hst, hk, ← hc]
  simp only [Bool.and_eq_true] at hr
  simp [hr.1, hr.2]
theorem bi_Tww {lv' : bi_Lv} {st : List Value} {M : bi_Mem} (k : bi_T X d j (pc, lv', st, M) Q) (h1 : bi_nd lv' = true) (h2 : bi_nd lv = true) (h : bi_sb lv' lv) : bi_T X d j (pc, lv, st, M) Q := bi_Tw h1 h2 h k
/-- a switch -/
theorem bi_Tsw {x : Int32} {df lo hi : Int} {offs : Array Int} {n : Nat} (hf : bi_fe j pc = some (.tableswitch df lo hi offs, n)) (h : ∀ t, bi_swt df lo hi offs pc x = some t → bi_T X d j (t, lv, r, st_mm s) Q) (hs : bi_swt df lo hi offs pc x ≠ none) : bi_T X d j (pc, lv, .int x :: r, st_mm s) Q := by
  cases ht : bi_swt df lo hi offs pc x with
  | none => exact absurd ht hs
  | some t =>
    refine bi_T1 (b := true) ?_ rfl (h t ht)
    rw [bi_stp_eq hf]
    simp only [bi_step, bi_sw, ht]
theorem bi_Tsl {q i z : Nat} (hf : bi_fe j pc = some (.invokevirtual i, 3)) (hl : bi_lm (bi_mi j).1 i = some (8, z)) (hq : q < 25) (hr : bi_cats r = true) (k : bi_T X d j (pc + 3, lv, .int (Int32.ofNat ((bi_TX.getD q []).length)) :: r, st_mm s) Q) : bi_T X d j (pc, lv, .ref (q + 5000) :: r, st_mm s) Q := by
  refine bi_T1 (b := true) ?_ rfl k
  rw [bi_stp_eq hf]
  have e1 : Nat.ble 5000 (q + 5000) = true := Nat.ble_eq_true_of_le (by omega)
  have e2 : Nat.blt (q + 5000) 5025 = true := by rw [Nat.blt_eq]; omega
  simp only [bi_step, bi_inv, hl, bi_slen, e1, e2, hr, Nat.add_sub_cancel]
  rfl
theorem bi_Tch {q i z : Nat} {x : Int32} (hf : bi_fe j pc = some (.invokevirtual i, 3)) (hl : bi_lm (bi_mi j).1 i = some (9, z)) (hq : q < 25) (hr : bi_cats r = true) (hi : bi_in x ((bi_TX.getD q []).length) = true) (k : bi_T X d j (pc + 3, lv, .int (Int32.ofNat ((bi_TX.getD q []).getD x.toNatClampNeg 0)) :: r, st_mm s) Q) : bi_T X d j (pc, lv, .int x :: .ref (q + 5000) :: r, st_mm s) Q := by
  refine bi_T1 (b := true) ?_ rfl k
  rw [bi_stp_eq hf]
  have e1 : Nat.ble 5000 (q + 5000) = true := Nat.ble_eq_true_of_le (by omega)
  have e2 : Nat.blt (q + 5000) 5025 = true := by rw [Nat.blt_eq]; omega
  simp only [bi_step, bi_inv, hl, bi_chat, e1, e2, hr, hi, Nat.add_sub_cancel]
  rfl
/-- a switch's rest -/
theorem bi_swd {x : Int32} {df lo hi : Int} {offs : Array Int} {t : Nat} (ht : bi_swt df lo hi offs pc x = some t) (h : ¬ x.toInt < lo → ¬ hi < x.toInt → False) : bi_tg pc df = some t := by
  unfold bi_swt at ht
  by_cases hc : x.toInt < lo ∨ hi < x.toInt
  · rw [if_pos hc] at ht; exact ht
  · exact absurd (h (fun z => hc (Or.inl z)) (fun z => hc (Or.inr z))) id
theorem bi_swn {x : Int32} {df lo hi : Int} {offs : Array Int} {b : Nat} (h1 : bi_tg pc df = some b) (h2 : offs.toList.all (fun o => (bi_tg pc o).isSome) = true) (h3 : hi - lo < offs.size) : bi_swt df lo hi offs pc x ≠ none := by
  unfold bi_swt
  by_cases hc : x.toInt < lo ∨ hi < x.toInt
  · rw [if_pos hc, h1]; simp
  · rw [if_neg hc]
    have hlt : (x.toInt - lo).toNat < offs.size := by omega
    rw [Array.getElem?_eq_getElem hlt]
    have := List.all_eq_true.mp h2 _ (Array.getElem_mem_toList hlt)
    intro z
    simp only at z
    rw [z] at this
    cases this
end STR
