/-! ===== sights, weights, what is needless ===== -/
section SIGHT
def sumN (g : Nat → Nat) : Nat → Nat
  | 0 => 0
  | n + 1 => sumN g n + g n
theorem sumN_congr {g h : Nat → Nat} {n : Nat} (e : ∀ i, i < n → g i = h i) : sumN g n = sumN h n := by
  induction n with
  | zero => rfl
  | succ n ih => rw [sumN, sumN, ih (fun i hi => e i (by omega)), e n (by omega)]
theorem sumN_le {g : Nat → Nat} {n M : Nat} (e : ∀ i, i < n → g i ≤ M) : sumN g n ≤ n * M := by
  induction n with
  | zero => simp [sumN]
  | succ n ih =>
    have := ih (fun i hi => e i (by omega))
    have := e n (by omega)
    rw [sumN, Nat.succ_mul]; omega
theorem bc_ext {x : Int32} {g : Nat → Bool} {n : Nat} (h : ∀ q, q < 32 → tb x q = (decide (q < n) && g q)) : ∀ m, n ≤ m → m ≤ 32 → bc x m = sumN (fun q => (g q).toNat) n := by
  have h1 : ∀ m, m ≤ n → m ≤ 32 → bc x m = sumN (fun q => (g q).toNat) m := by
    intro m
    induction m with
    | zero => intro _ _; rfl
    | succ m ih =>
      intro h1 h2
      rw [bc, sumN, ih (by omega) (by omega), h m (by omega)]
      have : m < n := by omega
      simp [this]
  intro m hm
  induction hm with
  | refl => intro h2; exact h1 n (Nat.le_refl n) h2
  | step hm ih =>
    intro h2
    rw [bc, ih (by omega), h _ (by omega)]
    have : ¬ _ < n := Nat.not_lt.mpr hm
    simp [this]
theorem bc_bo {g : Nat → Bool} {n : Nat} (h : n ≤ 16) : bc (bo g n) 16 = sumN (fun q => (g q).toNat) n := bc_ext (fun q hq => tb_bo (by omega) hq) 16 h (by omega)
/-- sights -/
def sg (R p : Nat) (f : Nat → Pol) (S : Sta) : Nat := sumN (fun u => bc (bo (reads p f S u) S.2.2.1) 16) R
theorem ct_sightsC {X : bi_X} {d : Nat} {K : Int32 → bi_St → Prop} {E : Nat → bi_St → Prop} {s : bi_St} {b a C R p : Nat} {f : Nat → Pol} {S : Sta} (hj : JC s b a C R p f S) (k : ∀ t, fr wA s t → K (zI (sg R p f S)) t) : cI X (d + 5) 3 [.ref 62] s K E := by
  have hR := hj.2.2.2.2.2.1
  have hn := hj.2.2.2.1.2.1
  have loop : ∀ m n (t : bi_St), m = R - n → n ≤ R → fr wA s t → at_X1_sights_4 X (d + 5) K E t (zI (sumN (fun u => bc (bo (reads p f S u) S.2.2.1) 16) n)) (zI n) := by
    intro m
    induction m with
    | zero =>
      intro n t hm hn ht
      have : n = R := by omega
      subst this
      have hjt := JC_fr ht hj
      refine go_X1_sights_4 ⟨by rw [hjt.2.1]; exact hjt.1.1, fun _ => k t ht, fun z => absurd ?_ z⟩
      rw [hjt.2.1, hjt.2.2.2.2.1]; exact (zI_le (by omega) (by omega)).mpr (Nat.le_refl _)
    | succ m ih =>
      intro n t hm hn2 ht
      have hjt := JC_fr ht hj
      refine go_X1_sights_4 ⟨by rw [hjt.2.1]; exact hjt.1.1, fun z => ?_, fun _ => ct_rowsRead hjt (by omega) (fun t2 ht2 => ct_bitCount (bo_16 hn) ?_)⟩
      · rw [hjt.2.1, hjt.2.2.2.2.1, zI_le (by omega) (by omega)] at z; omega
      · rw [zI_add, zI_add1]; exact ih (n + 1) t2 (by omega) (by omega) (ht.trans ht2)
  exact en_X1_sights (loop R 0 s (by omega) (by omega) fr.refl)
theorem ct_sightsR {X : bi_X} {d : Nat} {K : Int32 → bi_St → Prop} {E : Nat → bi_St → Prop} {s : bi_St} {b0 C R p : Nat} {f : Nat → Pol} {S : Sta} (hj : RC s b0 C R p f S) (k : ∀ t, fr wF s t → K (zI (sg R p f S)) t) : cI X (d + 5) 218 [.ref 77, .int (zI b0)] s K E := by
  have hR := hj.2.2.1.1
  have loop : ∀ m n (t : bi_St), m = R - n → n ≤ R → fr wF s t → at_X12_sights_4 X (d + 5) K E t (zI b0) (zI (sumN (fun u => bc (bo (reads p f S u) S.2.2.1) 16) n)) (zI n) := by
    intro m
    induction m with
    | zero =>
      intro n t hm hn ht
      have : n = R := by omega
      subst this
      have hjt := RC_fr ht hj
      refine go_X12_sights_4 ⟨fun _ => k t ht, fun z => absurd ?_ z⟩
      rw [hjt.2.2.2]; exact (zI_le (by omega) (by omega)).mpr (Nat.le_refl _)
    | succ m ih =>
      intro n t hm hn2 ht
      have hjt := RC_fr ht hj
      refine go_X12_sights_4 ⟨fun z => ?_, fun _ => ct_readsOf hjt (by omega) (fun t2 ht2 => ct_bits ?_)⟩
      · rw [hjt.2.2.2, zI_le (by omega) (by omega)] at z; omega
      · rw [zI_add, zI_add1]; exact ih (n + 1) t2 (by omega) (by omega) (ht.trans ht2)
  exact en_X12_sights (loop R 0 s (by omega) (by omega) fr.refl)
/-- the state with the policy i switched -/
def sw (S : Sta) (v : Int32) : Sta := (S.1, v, S.2.2)
/-- whether a couple turns, if i is switched -/
def tn (p : Nat) (f : Nat → Pol) (S : Sta) (u r i : Nat) : Bool := reads p f (sw S (S.2.1 ^^^ s1 i)) u r != reads p f S u r
def wgt (R p : Nat) (f : Nat → Pol) (S : Sta) (i : Nat) : Nat := sumN (fun u => sumN (fun r => (tn p f S u r i).toNat) S.2.2.1) R
theorem tb_255 {q : Nat} (h : q < 32) : tb 255 q = decide (q < 8) := by
  have : ∀ q : Fin 32, tb 255 q.1 = decide (q.1 < 8) := by decide
  exact this ⟨q, h⟩
theorem ct_turning {X : bi_X} {d : Nat} {K : Int32 → bi_St → Prop} {E : Nat → bi_St → Prop} {s : bi_St} {b a C R p u r : Nat} {f : Nat → Pol} {S : Sta} (hj : JC s b a C R p f S) (he : envC s C (en S u r)) (k : ∀ t, fr wH s t → K (bo (tn p f S u r) p) t) : cI X (d + 3) 6 [.ref 62] s K E := by
  obtain ⟨hB, h7, h8, hSC, h1, hR, hh⟩ := hj
  have hp8 := hB.2.2.1
  have hon : st_g s (st_gp s 8) 3 = S.2.1 := by rw [h8]; exact hSC.2.2.2.1
  have hof : ∀ (v : Int32) i, i < 32 → tb (bo (po_of f (en S u r).2.2 255 0) p &&& v) i = (decide (i < p) && po_of f (en S u r).2.2 v 0 i) := by
    intro v i hi
    rw [tb_and, tb_bo (by omega) hi]
    by_cases hip : i < p
    · have : tb 255 i = true := by rw [tb_255 hi]; simp; omega
      simp only [hip, decide_true, Bool.true_and, po_of, this]
      cases tb v i <;> simp
    · simp [hip]
  refine en_X1_turning ⟨by rw [h8]; exact hSC.1, ?_⟩
  rw [hon]
  refine ct_applying (cmd := 0) hB h7 he.2.2 (by omega) (ct_holding (how := false) hB h7 he (fun t ht => ?_))
  have hBt := BC_wH ht hB
  have h7t : st_gp t 7 = b := by rw [ht.gp]; exact h7
  have hhold : ∀ v i, i < p → po_of f (en S u r).2.2 v 0 i = true → tb (bo (fun i => tb (bo (po_of f (en S u r).2.2 255 0) p) i && po_h f (en S u r) false i) p) i = po_h f (en S u r) false i := by
    intro v i hi hx
    have h255 : po_of f (en S u r).2.2 255 0 i = true := by
      have : tb 255 i = true := by rw [tb_255 (by omega)]; simp; omega
      unfold po_of at hx ⊢
      rw [this]
      cases hv : tb v i
      · rw [hv] at hx; simp at hx
      · rw [hv] at hx; exact hx
    rw [tb_bo (by omega) (by omega), tb_bo (by omega) (by omega), h255]; simp [hi]
  refine ct_lets (x' := po_of f (en S u r).2.2 S.2.1 0) (h' := po_h f (en S u r) false) hBt h7t (hof _) (hhold _) ?_
  have loop : ∀ m n, m = p - n → n ≤ p → at_X1_turning_52 X (d + 3) K E t S.2.1 (bo (po_of f (en S u r).2.2 255 0) p) (bo (fun i => tb (bo (po_of f (en S u r).2.2 255 0) p) i && po_h f (en S u r) false i) p) (b2i (reads p f S u r)) (bo (tn p f S u r) n) (zI n) := by
    intro m
    induction m with
    | zero =>
      intro n hm hn
      have : n = p := by omega
      subst this
      refine go_X1_turning_52 ⟨by rw [h7t]; exact hB.1, fun _ => k t ht, fun z => absurd ?_ z⟩
      rw [h7t, hBt.2.2.2.1]; exact (zI_le (by omega) (by omega)).mpr (Nat.le_refl _)
    | succ m ih =>
      intro n hm hn
      have ih := ih (n + 1) (by omega) (by omega)
      refine go_X1_turning_52 ⟨by rw [h7t]; exact hB.1, fun z => ?_, fun _ => ?_⟩
      · rw [h7t, hBt.2.2.2.1, zI_le (by omega) (by omega)] at z; omega
      · refine ct_lets (x' := po_of f (en S u r).2.2 (S.2.1 ^^^ s1 n) 0) (h' := po_h f (en S u r) false) hBt h7t (hof _) (hhold _) ?_
        have e1 : po_lt p f (po_of f (en S u r).2.2 (S.2.1 ^^^ s1 n) 0) (po_h f (en S u r) false) = reads p f (sw S (S.2.1 ^^^ s1 n)) u r := rfl
        rw [e1, zI_add1]
        rw [bo_succ] at ih
        have e2 : (b2i (reads p f (sw S (S.2.1 ^^^ s1 n)) u r) = b2i (reads p f S u r)) ↔ tn p f S u r n = false := by
          unfold tn
          cases reads p f (sw S (S.2.1 ^^^ s1 n)) u r <;> cases reads p f S u r <;> simp [b2i]
        rw [e2]
        refine ⟨fun hb => ?_, fun hb => ?_⟩
        · rw [hb] at ih; rw [Int32.or_zero]; exact ih
        · have hb : tn p f S u r n = true := by simpa using hb
          rw [hb] at ih; exact ih
  exact loop p 0 (by omega) (by omega)
theorem ct_weightC {X : bi_X} {d : Nat} {K : Int32 → bi_St → Prop} {E : Nat → bi_St → Prop} {s : bi_St} {b a C R p i : Nat} {f : Nat → Pol} {S : Sta} (hj : JC s b a C R p f S) (hi : i < p) (k : ∀ t, fr wA s t → K (zI (wgt R p f S i)) t) : cI X (d + 4) 4 [.ref 62, .int (zI i)] s K E := by
  have hR := hj.2.2.2.2.2.1
  have hp8 := hj.1.2.2.1
  have hn16 := hj.2.2.2.1.2.1
  have hS := hj.2.2.2.1.1
  have ha1 : a + 1 ≠ 59 ∧ a + 1 ≠ 57 ∧ a + 1 ≠ 60 := by rcases hS with z | z | z | z <;> omega
  have inner : ∀ u acc, u < R → (∀ t, fr wA s t → at_X1_weight_4 X (d + 4) K E t (zI i) (zI (acc + sumN (fun r => (tn p f S u r i).toNat) S.2.2.1)) (zI (u + 1))) →
      ∀ m n (t : bi_St), m = S.2.2.1 - n → n ≤ S.2.2.1 → fr wA s t → st_g t 57 5 = zI u → st_g t 57 6 = clo S.1 (s1 u) → at_X1_weight_29 X (d + 4) K E t (zI i) (zI (acc + sumN (fun r => (tn p f S u r i).toNat) n)) (zI u) (zI n) := by
    intro u acc hu hk m
    induction m with
    | zero =>
      intro n t hm hn ht h5 h6
      have : n = S.2.2.1 := by omega
      subst this
      have hjt := JC_fr ht hj
      refine go_X1_weight_29 ⟨by rw [hjt.2.2.1]; exact hS, fun _ => by rw [zI_add1]; exact hk t ht, fun z => absurd ?_ z⟩
      rw [hjt.2.2.1, hjt.2.2.2.1.2.2.1]; exact (zI_le (by omega) (by omega)).mpr (Nat.le_refl _)
    | succ m ih =>
      intro n t hm hn ht h5 h6
      have hjt := JC_fr ht hj
      refine go_X1_weight_29 ⟨by rw [hjt.2.2.1]; exact hS, fun z => ?_, fun _ => ct_take hjt.2.2.1 hS (by omega) (fun t1 ht1 hl h57 => ?_)⟩
      · rw [hjt.2.2.1, hjt.2.2.2.1.2.2.1, zI_le (by omega) (by omega)] at z; omega
      · have hj1 := JC_fr ht1 hjt
        refine ct_turning hj1 (JC_env (u := u) (r := n) hj1 (by omega) (fun c hc => by rw [hl c hc, ht1.g (wA_ne ha1.2.2 ha1.1 ha1.2.1)]) (by rw [h57]; exact h5) (by rw [h57]; exact h6)) (fun t2 ht2 => ct_bit (by omega) ?_)
        have e1 : b2i (tb (bo (tn p f S u n) p) i) = zI (tn p f S u n i).toNat := by
          rw [tb_bo (by omega) (by omega)]; simp only [hi, decide_true, Bool.true_and]; cases tn p f S u n i <;> rfl
        rw [e1, zI_add, zI_add1, Nat.add_assoc acc]
        exact ih (n + 1) t2 (by omega) (by omega) (ht.trans (ht1.trans (ht2.mono wH_wA))) (by rw [ht2.g rfl, h57]; exact h5) (by rw [ht2.g rfl, h57]; exact h6)
  have outer : ∀ m n (t : bi_St), m = R - n → n ≤ R → fr wA s t → at_X1_weight_4 X (d + 4) K E t (zI i) (zI (sumN (fun u => sumN (fun r => (tn p f S u r i).toNat) S.2.2.1) n)) (zI n) := by
    intro m
    induction m with
    | zero =>
      intro n t hm hn ht
      have : n = R := by omega
      subst this
      have hjt := JC_fr ht hj
      refine go_X1_weight_4 ⟨by rw [hjt.2.1]; exact hjt.1.1, fun _ => k t ht, fun z => absurd ?_ z⟩
      rw [hjt.2.1, hjt.2.2.2.2.1]; exact (zI_le (by omega) (by omega)).mpr (Nat.le_refl _)
    | succ m ih =>
      intro n t hm hn ht
      have hjt := JC_fr ht hj
      refine go_X1_weight_4 ⟨by rw [hjt.2.1]; exact hjt.1.1, fun z => ?_, fun _ => ct_become (by omega) (fun t1 ht1 h5 h6 _ => ?_)⟩
      · rw [hjt.2.1, hjt.2.2.2.2.1, zI_le (by omega) (by omega)] at z; omega
      · exact inner n _ (by omega) (fun t2 ht2 => ih (n + 1) t2 (by omega) (by omega) ht2) S.2.2.1 0 t1 (by omega) (by omega) (ht.trans ht1) h5 (by rw [h6]; exact hjt.2.2.2.2.2.2 n (by omega))
  exact en_X1_weight (outer R 0 s (by omega) (by omega) fr.refl)
/-- the policies that are on and matter for none -/
def ndl (R p : Nat) (f : Nat → Pol) (S : Sta) : Int32 := bo (fun i => tb S.2.1 i && !(anyB (fun u => anyB (fun r => tn p f S u r i) S.2.2.1) R)) p
theorem ct_needlessC {X : bi_X} {d : Nat} {K : Int32 → bi_St → Prop} {E : Nat → bi_St → Prop} {s : bi_St} {b a C R p : Nat} {f : Nat → Pol} {S : Sta} (hj : JC s b a C R p f S) (hon : ∀ q, p ≤ q → q < 32 → tb S.2.1 q = false) (k : ∀ t, fr wA s t → K (ndl R p f S) t) : cI X (d + 4) 5 [.ref 62] s K E := by
  have hR := hj.2.2.2.2.2.1
  have hp8 := hj.1.2.2.1
  have hn16 := hj.2.2.2.1.2.1
  have hS := hj.2.2.2.1.1
  have ha1 : a + 1 ≠ 59 ∧ a + 1 ≠ 57 ∧ a + 1 ≠ 60 := by rcases hS with z | z | z | z <;> omega
  have inner : ∀ u (g : Nat → Bool), u < R → (∀ t, fr wA s t → at_X1_needless_4 X (d + 4) K E t (bo (fun i => g i || anyB (fun r => tn p f S u r i) S.2.2.1) p) (zI (u + 1))) →
      ∀ m n (t : bi_St), m = S.2.2.1 - n → n ≤ S.2.2.1 → fr wA s t → st_g t 57 5 = zI u → st_g t 57 6 = clo S.1 (s1 u) → at_X1_needless_28 X (d + 4) K E t (bo (fun i => g i || anyB (fun r => tn p f S u r i) n) p) (zI u) (zI n) := by
    intro u g hu hk m
    induction m with
    | zero =>
      intro n t hm hn ht h5 h6
      have : n = S.2.2.1 := by omega
      subst this
      have hjt := JC_fr ht hj
      refine go_X1_needless_28 ⟨by rw [hjt.2.2.1]; exact hS, fun _ => by rw [zI_add1]; exact hk t ht, fun z => absurd ?_ z⟩
      rw [hjt.2.2.1, hjt.2.2.2.1.2.2.1]; exact (zI_le (by omega) (by omega)).mpr (Nat.le_refl _)
    | succ m ih =>
      intro n t hm hn ht h5 h6
      have hjt := JC_fr ht hj
      refine go_X1_needless_28 ⟨by rw [hjt.2.2.1]; exact hS, fun z => ?_, fun _ => ct_take hjt.2.2.1 hS (by omega) (fun t1 ht1 hl h57 => ?_)⟩
      · rw [hjt.2.2.1, hjt.2.2.2.1.2.2.1, zI_le (by omega) (by omega)] at z; omega
      · have hj1 := JC_fr ht1 hjt
        refine ct_turning hj1 (JC_env (u := u) (r := n) hj1 (by omega) (fun c hc => by rw [hl c hc, ht1.g (wA_ne ha1.2.2 ha1.1 ha1.2.1)]) (by rw [h57]; exact h5) (by rw [h57]; exact h6)) (fun t2 ht2 => ?_)
        have e1 : bo (fun i => g i || anyB (fun r => tn p f S u r i) n) p ||| bo (tn p f S u n) p = bo (fun i => g i || anyB (fun r => tn p f S u r i) (n + 1)) p := bo_bo (by omega) (fun q hq => by
          rw [tb_or, tb_bo (by omega) hq, tb_bo (by omega) hq, anyB]
          by_cases hqp : q < p
          · simp [hqp, Bool.or_assoc]
          · simp [hqp])
        rw [e1, zI_add1]
        exact ih (n + 1) t2 (by omega) (by omega) (ht.trans (ht1.trans (ht2.mono wH_wA))) (by rw [ht2.g rfl, h57]; exact h5) (by rw [ht2.g rfl, h57]; exact h6)
  have outer : ∀ m n (t : bi_St), m = R - n → n ≤ R → fr wA s t → at_X1_needless_4 X (d + 4) K E t (bo (fun i => anyB (fun u => anyB (fun r => tn p f S u r i) S.2.2.1) n) p) (zI n) := by
    intro m
    induction m with
    | zero =>
      intro n t hm hn ht
      have : n = R := by omega
      subst this
      have hjt := JC_fr ht hj
      refine go_X1_needless_4 ⟨by rw [hjt.2.1]; exact hjt.1.1, fun _ => ⟨by rw [hjt.2.2.1]; exact hS, ?_⟩, fun z => absurd ?_ z⟩
      · rw [hjt.2.2.1, hjt.2.2.2.1.2.2.2.1]
        have e1 : S.2.1 &&& (bo (fun i => anyB (fun u => anyB (fun r => tn p f S u r i) S.2.2.1) n) p ^^^ -1) = ndl n p f S := bo_bo (by omega) (fun q hq => by
          rw [tb_and, tb_not hq, tb_bo (by omega) hq]
          by_cases hqp : q < p
          · simp [hqp]
          · rw [hon q (by omega) hq]; simp [hqp])
        rw [e1]; exact k t ht
      · rw [hjt.2.1, hjt.2.2.2.2.1]; exact (zI_le (by omega) (by omega)).mpr (Nat.le_refl _)
    | succ m ih =>
      intro n t hm hn ht
      have hjt := JC_fr ht hj
      refine go_X1_needless_4 ⟨by rw [hjt.2.1]; exact hjt.1.1, fun z => ?_, fun _ => ct_become (by omega) (fun t1 ht1 h5 h6 _ => ?_)⟩
      · rw [hjt.2.1, hjt.2.2.2.2.1, zI_le (by omega) (by omega)] at z; omega
      · have := inner n (fun i => anyB (fun u => anyB (fun r => tn p f S u r i) S.2.2.1) n) (by omega) (fun t2 ht2 => ih (n + 1) t2 (by omega) (by omega) ht2) S.2.2.1 0 t1 (by omega) (by omega) (ht.trans ht1) h5 (by rw [h6]; exact hjt.2.2.2.2.2.2 n (by omega))
        simp only [anyB, Bool.or_false] at this
        exact this
  have e0 : bo (fun i => anyB (fun u => anyB (fun r => tn p f S u r i) S.2.2.1) 0) p = 0 := tb_ext fun q hq => by rw [tb_bo (by omega) hq, tb_0]; simp [anyB]
  have := outer R 0 s (by omega) (by omega) fr.refl
  rw [e0] at this
  exact en_X1_needless this
/-- what trying may change of the reference -/
def wT (a k : Nat) : Bool := wF a k || (Nat.beq a 90 && Nat.ble 72 k)
theorem wF_wT (a k : Nat) (h : wF a k = true) : wT a k = true := by unfold wT; rw [h]; rfl
theorem wT_ne {a k : Nat} (h1 : a ≠ 93) (h2 : a ≠ 92) (h3 : a ≠ 77) (h4 : a ≠ 90 ∨ k < 72) : wT a k = false := by
  unfold wT
  rw [wF_ne h1 h2 h3]
  rcases h4 with h4 | h4
  · rw [beq_ne h4]; rfl
  · have : Nat.ble 72 k = false := by rw [Bool.eq_false_iff]; intro z; have := Nat.le_of_ble_eq_true z; omega
    rw [this]; simp
theorem wT_hi {k : Nat} (h : 72 ≤ k) : wT 90 k = true := by
  unfold wT
  have : Nat.ble 72 k = true := Nat.ble_eq_true_of_le h
  rw [this]; simp
theorem RC_wT {s t : bi_St} {C R p : Nat} {f : Nat → Pol} {S : Sta} (h : fr wT s t) (hj : RC s 0 C R p f S) : RC t 0 C R p f S := by
  obtain ⟨h1, h2, h3, h4⟩ := hj
  exact ⟨BR_fr (h.g rfl) (fun k => h.g (wT_ne (by omega) (by omega) (by omega) (Or.inl (by omega)))) (fun k => h.g (wT_ne (by omega) (by omega) (by omega) (Or.inl (by omega)))) h1, SR_fr (fun k _ hk => h.g (wT_ne (by omega) (by omega) (by omega) (Or.inr (by omega)))) h1.1 h2, h3, by rw [h.g rfl]; exact h4⟩
/-- the second row is the state S -/
theorem ct_tries {X : bi_X} {d : Nat} {K : bi_St → Prop} {E : Nat → bi_St → Prop} {s : bi_St} (k : ∀ t, fr (fun a k => Nat.beq a 90 && Nat.ble 72 k) s t → (∀ q, q < 72 → st_g t 90 (72 + q) = st_g s 90 q) → K t) : cV X d 207 [.ref 77] s K E := by
  have loop : ∀ m n (t : bi_St), m = 72 - n → n ≤ 72 → fr (fun a k => Nat.beq a 90 && Nat.ble 72 k) s t → (∀ q, q < n → st_g t 90 (72 + q) = st_g s 90 q) → at_X12_tries_2 X d K E t (zI n) := by
    intro m
    induction m with
    | zero =>
      intro n t hm hn ht hq
      have : n = 72 := by omega
      subst this
      exact go_X12_tries_2 ⟨fun _ => k t ht hq, fun z => absurd (by decide) z⟩
    | succ m ih =>
      intro n t hm hn ht hq
      have e : (72 : Int32) + zI n = zI (72 + n) := zI_add 72 n
      refine go_X12_tries_2 ⟨fun z => ?_, fun _ => ?_⟩
      · have := (zI_le (a := 72) (by omega) (by omega)).mp z; omega
      · rw [e, zI_nat (a := 72 + n) (by omega), zI_nat (a := n) (by omega), zI_add1]
        refine ⟨in_zI (by omega) (by omega), in_zI (by omega) (by omega), ih (n + 1) _ (by omega) (by omega) (ht.p (by simp)) (fun q hq2 => ?_)⟩
        rw [g_p]
        by_cases hqn : q = n
        · subst hqn; simp; exact ht.g (by have : Nat.ble 72 q = false := by { rw [Bool.eq_false_iff]; intro z; have := Nat.le_of_ble_eq_true z; omega }
                                          rw [this]; simp)
        · have : ¬ 72 + q = 72 + n := by omega
          rw [if_neg (fun z => this z.2)]; exact hq q (by omega)
  exact en_X12_tries (loop 72 0 s (by omega) (by omega) fr.refl (fun q hq => by omega))
theorem w90_wT (a k : Nat) (h : (Nat.beq a 90 && Nat.ble 72 k) = true) : wT a k = true := by unfold wT; rw [h]; simp
theorem SR_72 {s t : bi_St} {C : Nat} {S : Sta} (hC : C ≤ 4) (hs : SR s 0 C S) (h : ∀ q, q < 72 → st_g t 90 (72 + q) = st_g s 90 q) : SR t 72 C S := by
  obtain ⟨h0, h2, h3, h4, h5, h6⟩ := hs
  refine ⟨by omega, h2, ?_, ?_, fun r hr => ?_, fun r c hr hc => ?_⟩
  · rw [h 7 (by omega)]; simpa using h3
  · rw [h 6 (by omega)]; simpa using h4
  · rw [h r (by omega)]; have := h5 r hr; simpa using this
  · rw [show 72 + 8 + 4 * r + c = 72 + (8 + 4 * r + c) by omega, h _ (by omega)]
    have := h6 r c hr hc
    simpa using this
theorem SR_on {t : bi_St} {C : Nat} {S : Sta} {v : Int32} (hs : SR t 72 C S) : SR (st_p t 90 78 v) 72 C (sw S v) := by
  obtain ⟨h0, h2, h3, h4, h5, h6⟩ := hs
  exact ⟨h0, h2, by rw [g_p_k (by omega)]; exact h3, by rw [g_p_eq]; rfl, fun r hr => by rw [g_p_k (by omega)]; exact h5 r hr, fun r c hr hc => by rw [g_p_k (by omega)]; exact h6 r c hr hc⟩
theorem toBV_s1 {i : Nat} (h : i < 32) : (s1 i).toBitVec = BitVec.twoPow 32 i := by
  have : ∀ i : Fin 32, (s1 i.1).toBitVec = BitVec.twoPow 32 i.1 := by decide
  exact this ⟨i, h⟩
theorem add_s1 {x : Int32} {i : Nat} (hi : i < 32) (h : tb x i = false) : x + s1 i = x ^^^ s1 i := by
  have h0 : x.toBitVec &&& (s1 i).toBitVec = 0#32 := by
    apply BitVec.eq_of_getLsbD_eq
    intro q hq
    have : tb (x &&& s1 i) q = false := by
      rw [tb_and, tb_s1 hi hq]
      by_cases hqi : q = i
      · subst hqi; rw [h]; rfl
      · simp [hqi]
    simpa [tb] using this
  have e1 : x + s1 i = x ||| s1 i := by
    apply Int32.toBitVec_inj.mp
    rw [Int32.toBitVec_add, Int32.toBitVec_or, BitVec.add_eq_or_of_and_eq_zero _ _ h0]
  rw [e1]
  apply tb_ext
  intro q hq
  rw [tb_or, tb_xor, tb_s1 hi hq]
  by_cases hqi : q = i
  · subst hqi; rw [h]; simp
  · simp [hqi]
theorem xor_xor (x y : Int32) : (x ^^^ y) ^^^ y = x := tb_ext fun q _ => by
  rw [tb_xor, tb_xor]; cases tb x q <;> cases tb y q <;> rfl
theorem sub_s1 {x : Int32} {i : Nat} (hi : i < 32) (h : tb x i = true) : x - s1 i = x ^^^ s1 i := by
  have h1 : tb (x ^^^ s1 i) i = false := by rw [tb_xor, tb_s1 hi hi, h]; simp
  have := add_s1 hi h1
  rw [xor_xor] at this
  have e : x - s1 i = ((x ^^^ s1 i) + s1 i) - s1 i := by rw [this]
  rw [e, Int32.add_sub_cancel]
theorem ct_weightR {X : bi_X} {d : Nat} {K : Int32 → bi_St → Prop} {E : Nat → bi_St → Prop} {s : bi_St} {C R p i : Nat} {f : Nat → Pol} {S : Sta} (hj : RC s 0 C R p f S) (hi : i < p) (k : ∀ t, fr wT s t → K (zI (wgt R p f S i)) t) : cI X (d + 5) 219 [.ref 77, .int (zI i)] s K E := by
  have hp8 := hj.1.2.1
  have hC := hj.1.1
  have hR := hj.2.2.1.1
  have hn := hj.2.1.2.1
  have e6 : ((6 : Int32)).toNatClampNeg = 6 := rfl
  have e78 : ((78 : Int32)).toNatClampNeg = 78 := rfl
  have loop : ∀ m n (t : bi_St), m = R - n → n ≤ R → fr wT s t → RC t 72 C R p f (sw S (S.2.1 ^^^ s1 i)) → at_X12_weight_55 X (d + 5) K E t (zI (sumN (fun u => sumN (fun r => (tn p f S u r i).toNat) S.2.2.1) n)) (zI n) := by
    intro m
    induction m with
    | zero =>
      intro n t hm hn ht h72
      have : n = R := by omega
      subst this
      refine go_X12_weight_55 ⟨fun _ => k t ht, fun z => absurd ?_ z⟩
      rw [h72.2.2.2]; exact (zI_le (by omega) (by omega)).mpr (Nat.le_refl _)
    | succ m ih =>
      intro n t hm hn2 ht h72
      refine go_X12_weight_55 ⟨fun z => ?_, fun _ => ?_⟩
      · rw [h72.2.2.2, zI_le (by omega) (by omega)] at z; omega
      · refine ct_readsOf (b0 := 0) (RC_wT ht hj) (by omega) (fun t1 ht1 => ?_)
        refine ct_readsOf (b0 := 72) (RC_fr ht1 h72) (by omega) (fun t2 ht2 => ct_bits ?_)
        have e1 : bc (bo (reads p f S n) S.2.2.1 ^^^ bo (reads p f (sw S (S.2.1 ^^^ s1 i)) n) (sw S (S.2.1 ^^^ s1 i)).2.2.1) 16 = sumN (fun r => (tn p f S n r i).toNat) S.2.2.1 := bc_ext (fun q hq => by
          have e2 : (sw S (S.2.1 ^^^ s1 i)).2.2.1 = S.2.2.1 := rfl
          rw [e2, tb_xor, tb_bo (by omega) hq, tb_bo (by omega) hq]
          unfold tn
          by_cases hqn : q < S.2.2.1
          · simp only [hqn, decide_true, Bool.true_and]
            cases reads p f S n q <;> cases reads p f (sw S (S.2.1 ^^^ s1 i)) n q <;> rfl
          · simp [hqn]) 16 hn (by omega)
        rw [e1, zI_add, zI_add1]
        exact ih (n + 1) t2 (by omega) (by omega) (ht.trans ((ht1.trans ht2).mono wF_wT)) (RC_fr ht2 (RC_fr ht1 h72))
  refine en_X12_weight (ct_tries (fun t ht hq => ⟨rfl, ?_⟩))
  rw [e6, e78]
  have ht' := ht.mono w90_wT
  have hon : st_g t 90 6 = S.2.1 := by rw [ht'.g rfl]; exact hj.2.1.2.2.2.1
  have hR72 : ∀ v, v = S.2.1 ^^^ s1 i → at_X12_weight_55 X (d + 5) K E (st_p t 90 78 v) 0 0 := fun v hv => by
    subst hv
    have h1 : fr wT s (st_p t 90 78 (S.2.1 ^^^ s1 i)) := ht'.p rfl
    have hr := RC_wT h1 hj
    exact loop R 0 _ (by omega) (by omega) h1 ⟨hr.1, SR_on (SR_72 hC hj.2.1 hq), hr.2.2.1, hr.2.2.2⟩
  rw [hon, tb_bit1 (by omega)]
  refine ⟨fun hb => ⟨rfl, rfl, hR72 _ ?_⟩, fun hb => ⟨rfl, rfl, hR72 _ ?_⟩⟩
  · exact add_s1 (by omega) (by simpa using hb)
  · exact sub_s1 (by omega) (Decidable.of_not_not hb)
theorem sumN_0 {g : Nat → Nat} {n : Nat} : sumN g n = 0 ↔ ∀ i, i < n → g i = 0 := by
  induction n with
  | zero => simp [sumN]
  | succ n ih =>
    rw [sumN]
    constructor
    · intro h i hi
      by_cases hin : i = n
      · subst hin; omega
      · exact ih.mp (by omega) i (by omega)
    · intro h
      have := ih.mpr (fun i hi => h i (by omega))
      have := h n (by omega)
      omega
theorem wgt_0 {R p : Nat} {f : Nat → Pol} {S : Sta} {i : Nat} : wgt R p f S i = 0 ↔ anyB (fun u => anyB (fun r => tn p f S u r i) S.2.2.1) R = false := by
  unfold wgt
  rw [sumN_0, ← Bool.not_eq_true, anyB_iff]
  constructor
  · rintro h ⟨u, hu, h2⟩
    rw [anyB_iff] at h2
    obtain ⟨r, hr, h3⟩ := h2
    have := sumN_0.mp (h u hu) r hr
    rw [h3] at this; simp at this
  · intro h u hu
    rw [sumN_0]
    intro r hr
    cases h3 : tn p f S u r i
    · rfl
    · exact absurd ⟨u, hu, anyB_iff.mpr ⟨r, hr, h3⟩⟩ h
theorem wgt_lt {R p : Nat} {f : Nat → Pol} {S : Sta} {i : Nat} (hR : R ≤ 6) (hn : S.2.2.1 ≤ 16) : wgt R p f S i ≤ 96 := by
  have h1 : ∀ u, u < R → sumN (fun r => (tn p f S u r i).toNat) S.2.2.1 ≤ 16 := fun u _ => by
    have := sumN_le (g := fun r => (tn p f S u r i).toNat) (n := S.2.2.1) (M := 1) (fun r _ => toNat_le1 _)
    omega
  have := sumN_le h1
  unfold wgt; omega
theorem ct_needlessR {X : bi_X} {d : Nat} {K : Int32 → bi_St → Prop} {E : Nat → bi_St → Prop} {s : bi_St} {C R p : Nat} {f : Nat → Pol} {S : Sta} (hj : RC s 0 C R p f S) (k : ∀ t, fr wT s t → K (ndl R p f S) t) : cI X (d + 6) 220 [.ref 77] s K E := by
  have hp8 := hj.1.2.1
  have hR := hj.2.2.1.1
  have hn := hj.2.1.2.1
  have e6 : ((6 : Int32)).toNatClampNeg = 6 := rfl
  have loop : ∀ m n (t : bi_St), m = p - n → n ≤ p → fr wT s t → at_X12_needless_4 X (d + 6) K E t (bo (fun i => tb S.2.1 i && !(anyB (fun u => anyB (fun r => tn p f S u r i) S.2.2.1) R)) n) (zI n) := by
    intro m
    induction m with
    | zero =>
      intro n t hm hn ht
      have : n = p := by omega
      subst this
      have hjt := RC_wT ht hj
      refine go_X12_needless_4 ⟨fun _ => k t ht, fun z => absurd ?_ z⟩
      rw [hjt.1.2.2.1]; exact (zI_le (by omega) (by omega)).mpr (Nat.le_refl _)
    | succ m ih =>
      intro n t hm hn2 ht
      have hjt := RC_wT ht hj
      refine go_X12_needless_4 ⟨fun z => ?_, fun _ => ⟨rfl, ?_⟩⟩
      · rw [hjt.1.2.2.1, zI_le (by omega) (by omega)] at z; omega
      · have hon : st_g t 90 6 = S.2.1 := hjt.2.1.2.2.2.1
        rw [e6, hon, tb_bit1 (by omega), zI_add1]
        refine ⟨fun hb => ?_, fun hb => ct_weightR hjt (by omega) (fun t2 ht2 => ?_)⟩
        · have ih := ih (n + 1) t (by omega) (by omega) ht
          rw [bo_succ] at ih
          have hb : tb S.2.1 n = false := by simpa using hb
          rw [hb] at ih; rw [Int32.or_zero]; exact ih
        · have hb := Decidable.of_not_not hb
          have ih := ih (n + 1) t2 (by omega) (by omega) (ht.trans ht2)
          rw [bo_succ, hb] at ih
          have hw := wgt_lt (i := n) (p := p) (f := f) hR hn
          have e0 : (zI (wgt R p f S n) = 0) ↔ wgt R p f S n = 0 := zI_eq (b := 0) (by omega) (by omega)
          rw [e0, wgt_0]
          refine ⟨fun h => ?_, fun h => ?_⟩
          · have h : anyB (fun u => anyB (fun r => tn p f S u r n) S.2.2.1) R = true := by simpa using h
            rw [h] at ih; rw [Int32.or_zero]; exact ih
          · rw [Decidable.of_not_not h] at ih; exact ih
  exact en_X12_needless (loop p 0 s (by omega) (by omega) fr.refl)
end SIGHT
