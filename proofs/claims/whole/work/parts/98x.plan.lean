/-! ===== the order of steps ===== -/
section PLAN
/-- a step: kind, which, cost, silent, as, rule, barrier -/
abbrev Sp : Type := Nat × Int32 × Nat × Bool × Nat × Option Lp × Bool
def mg (x y : Sp) : Bool := !(decide (x.1 = 0)) && (decide (x.2.2.1 < y.2.2.1) && (x.2.2.2.1 || (y.2.2.2.1 && !y.2.2.2.2.2.2)))
def mgAt (L : List Sp) (j : Nat) : Bool := match L[j]?, L[j - 1]? with
  | some x, some y => mg x y
  | _, _ => false
/-- the first from j on, of n tries -/
def nx (L : List Sp) : Nat → Nat → Option Nat
  | 0, _ => none
  | n + 1, j => if mgAt L j then some j else nx L n (j + 1)
def swL (L : List Sp) (j : Nat) : List Sp := match L[j]?, L[j - 1]? with
  | some x, some y => (L.set (j - 1) x).set j y
  | _, _ => L
def srt : Nat → List Sp → List Sp
  | 0, L => L
  | n + 1, L => match nx L (L.length - 1) 1 with
    | none => L
    | some j => srt n (swL L j)
def inv : List Nat → Nat
  | [] => 0
  | x :: xs => xs.countP (fun y => decide (y < x)) + inv xs
theorem inv_le : ∀ L : List Nat, inv L ≤ L.length * (L.length - 1) := by
  intro L
  induction L with
  | nil => exact Nat.le_refl 0
  | cons x xs ih =>
    have h1 : xs.countP (fun y => decide (y < x)) ≤ xs.length := List.countP_le_length
    rw [inv, List.length_cons, Nat.add_sub_cancel]
    have h2 : xs.length * (xs.length - 1) ≤ xs.length * xs.length := Nat.mul_le_mul_left _ (by omega)
    have h3 : (xs.length + 1) * xs.length = xs.length * xs.length + xs.length := Nat.succ_mul _ _
    by_cases h0 : xs.length = 0
    · have : xs = [] := List.length_eq_zero_iff.mp h0
      subst this
      simp [inv]
    · have h4 : xs.length * (xs.length - 1) + xs.length = xs.length * xs.length := by
        have := Nat.mul_sub_one xs.length xs.length
        have h5 : xs.length ≤ xs.length * xs.length := Nat.le_mul_of_pos_left _ (by omega)
        omega
      omega
theorem inv_swap {a b : Nat} (h : b < a) (B : List Nat) : ∀ A : List Nat, inv (A ++ b :: a :: B) + 1 = inv (A ++ a :: b :: B) := by
  intro A
  induction A with
  | nil =>
    simp only [List.nil_append, inv, List.countP_cons]
    have h1 : ¬ a < b := by omega
    simp [h, h1]; omega
  | cons x A ih =>
    simp only [List.cons_append, inv]
    have : (A ++ b :: a :: B).countP (fun y => decide (y < x)) = (A ++ a :: b :: B).countP (fun y => decide (y < x)) := by
      simp only [List.countP_append, List.countP_cons]; omega
    rw [this]; omega
def cst (L : List Sp) : List Nat := L.map (fun x => x.2.2.1)
theorem split2 {L : List Sp} {j : Nat} {x y : Sp} (hj : 1 ≤ j) (hx : L[j]? = some x) (hy : L[j - 1]? = some y) : L = L.take (j - 1) ++ y :: x :: L.drop (j + 1) := by
  obtain ⟨h1, h2⟩ := List.getElem?_eq_some_iff.mp hx
  obtain ⟨h3, h4⟩ := List.getElem?_eq_some_iff.mp hy
  have e1 : L.drop (j - 1) = y :: L.drop j := by
    rw [List.drop_eq_getElem_cons h3, h4, show j - 1 + 1 = j by omega]
  have e2 : L.drop j = x :: L.drop (j + 1) := by rw [List.drop_eq_getElem_cons h1, h2]
  calc L = L.take (j - 1) ++ L.drop (j - 1) := (List.take_append_drop _ _).symm
    _ = L.take (j - 1) ++ y :: x :: L.drop (j + 1) := by rw [e1, e2]
theorem swL_get {L : List Sp} {j : Nat} {x y : Sp} (hj : 1 ≤ j) (hx : L[j]? = some x) (hy : L[j - 1]? = some y) (k : Nat) : (swL L j)[k]? = if k = j then some y else if k = j - 1 then some x else L[k]? := by
  obtain ⟨h1, -⟩ := List.getElem?_eq_some_iff.mp hx
  have e : swL L j = (L.set (j - 1) x).set j y := by unfold swL; rw [hx, hy]
  rw [e, List.getElem?_set, List.getElem?_set, List.length_set]
  by_cases hkj : k = j
  · subst hkj; simp [h1]
  · by_cases hk1 : k = j - 1
    · have h2 : ¬ j = k := fun z => hkj z.symm
      have h3 : j - 1 < L.length := by omega
      rw [if_neg h2, if_neg hkj, if_pos hk1, if_pos hk1.symm, if_pos (by omega)]
    · have h2 : ¬ j = k := fun z => hkj z.symm
      have h3 : ¬ j - 1 = k := fun z => hk1 z.symm
      rw [if_neg h2, if_neg hkj, if_neg hk1, if_neg h3]
theorem swL_eq {L : List Sp} {j : Nat} {x y : Sp} (hj : 1 ≤ j) (hx : L[j]? = some x) (hy : L[j - 1]? = some y) : swL L j = L.take (j - 1) ++ x :: y :: L.drop (j + 1) := by
  obtain ⟨h1, -⟩ := List.getElem?_eq_some_iff.mp hx
  apply List.ext_getElem?
  intro k
  rw [swL_get hj hx hy]
  have hl : (L.take (j - 1)).length = j - 1 := by rw [List.length_take]; omega
  by_cases hk : k < j - 1
  · rw [List.getElem?_append_left (by omega), List.getElem?_take, if_neg (by omega), if_neg (by omega), if_pos hk]
  · rw [List.getElem?_append_right (by omega), hl]
    by_cases hk1 : k = j - 1
    · rw [if_neg (by omega), if_pos hk1, hk1, Nat.sub_self]; rfl
    · by_cases hkj : k = j
      · rw [if_pos hkj, hkj, show j - (j - 1) = 1 by omega]; rfl
      · rw [if_neg hkj, if_neg hk1, show k - (j - 1) = (k - (j + 1)) + 2 by omega]
        show _ = (L.drop (j + 1))[k - (j + 1)]?
        rw [List.getElem?_drop]
        congr 1
        omega
theorem swL_len {L : List Sp} {j : Nat} : (swL L j).length = L.length := by
  unfold swL
  cases L[j]? with
  | none => rfl
  | some x =>
    cases L[j - 1]? with
    | none => rfl
    | some y => simp
theorem inv_swL {L : List Sp} {j : Nat} (hj : 1 ≤ j) (h : mgAt L j = true) : inv (cst (swL L j)) + 1 = inv (cst L) := by
  unfold mgAt at h
  cases hx : L[j]? with
  | none => rw [hx] at h; cases h
  | some x =>
    cases hy : L[j - 1]? with
    | none => rw [hx, hy] at h; cases h
    | some y =>
      rw [hx, hy] at h
      simp only [mg, Bool.and_eq_true, decide_eq_true_eq] at h
      have e1 := split2 hj hx hy
      have e2 := swL_eq hj hx hy
      have e3 : cst L = (L.take (j - 1)).map (fun x => x.2.2.1) ++ y.2.2.1 :: x.2.2.1 :: (L.drop (j + 1)).map (fun x => x.2.2.1) := by
        unfold cst
        conv => lhs; rw [e1]
        simp
      have e4 : cst (swL L j) = (L.take (j - 1)).map (fun x => x.2.2.1) ++ x.2.2.1 :: y.2.2.1 :: (L.drop (j + 1)).map (fun x => x.2.2.1) := by
        unfold cst
        rw [e2]; simp
      rw [e3, e4]
      exact inv_swap h.2.1 _ _
theorem nx_some {L : List Sp} : ∀ n j i, nx L n j = some i → j ≤ i ∧ i < j + n ∧ mgAt L i = true := by
  intro n
  induction n with
  | zero => intro j i h; cases h
  | succ n ih =>
    intro j i h
    rw [nx] at h
    by_cases hm : mgAt L j = true
    · rw [if_pos hm] at h; injection h with h; subst h; exact ⟨by omega, by omega, hm⟩
    · rw [if_neg hm] at h; obtain ⟨h1, h2, h3⟩ := ih _ _ h; exact ⟨by omega, by omega, h3⟩
theorem mgAt_lt {L : List Sp} {j : Nat} (h : mgAt L j = true) : j < L.length := by
  unfold mgAt at h
  cases hx : L[j]? with
  | none => rw [hx] at h; cases h
  | some x => exact (List.getElem?_eq_some_iff.mp hx).1
/-- the class's steps: by what lies at the places -/
def PQ (s : bi_St) (Q : Nat → Sp → Prop) (L : List Sp) : Prop := (∀ i, i < 9 → st_isp (st_gp s (10 + i))) ∧ (∀ i j, i < 9 → j < 9 → st_gp s (10 + i) = st_gp s (10 + j) → i = j) ∧ ∀ i x, L[i]? = some x → Q (st_gp s (10 + i)) x
/-- only the places of steps differ -/
def fp (s t : bi_St) : Prop := t.1 = s.1 ∧ (∀ a k, st_g t a k = st_g s a k) ∧ (∀ a k, st_gl t a k = st_gl s a k) ∧ ∀ i, (i < 10 ∨ 18 < i) → st_gp t i = st_gp s i
theorem fp.refl {s : bi_St} : fp s s := ⟨rfl, fun _ _ => rfl, fun _ _ => rfl, fun _ _ => rfl⟩
theorem ct_mayGoC {X : bi_X} {d : Nat} {K : Int32 → bi_St → Prop} {E : Nat → bi_St → Prop} {s : bi_St} {a b : Nat} {x y : Sp} (ha : st_isp a) (hb : st_isp b) (hc : x.2.2.1 < 2147483648 ∧ y.2.2.1 < 2147483648 ∧ x.1 ≤ 2) (x0 : st_g s a 0 = zI x.1) (x2 : st_g s a 2 = zI x.2.2.1) (y2 : st_g s b 2 = zI y.2.2.1) (x5 : st_g s a 5 = b2i x.2.2.2.1) (y5 : st_g s b 5 = b2i y.2.2.2.1) (y6 : st_g s b 6 = b2i y.2.2.2.2.2.2) (k : K (b2i (mg x y)) s) : cI X d 89 [.ref a, .ref b] s K E := by
  unfold mg at k
  refine en_X7_mayGoAheadOf ha hb ?_
  have e0 : (zI x.1 = 0) ↔ x.1 = 0 := zI_eq (b := 0) (by omega) (by omega)
  rw [x0, x2, y2, x5, y5, y6, e0, zI_lt hc.1 hc.2.1, b2i_ne0, b2i_ne0, b2i_ne0]
  refine ⟨fun h => ?_, fun h => ⟨fun h1 => ⟨fun h2 => ?_, fun h2 => ⟨fun h3 => ?_, fun h3 => ⟨fun h4 => ?_, fun h4 => ?_⟩⟩⟩, fun h1 => ?_⟩⟩
  · rw [decide_eq_true h] at k; exact k
  · have h2 : x.2.2.2.1 = true := by simpa using h2
    rw [decide_eq_false h, decide_eq_true h1, h2] at k; exact k
  · rw [decide_eq_false h, decide_eq_true h1, Decidable.of_not_not h2, h3] at k; exact k
  · have h3 : y.2.2.2.1 = true := by simpa using h3
    have h4 : y.2.2.2.2.2.2 = true := by simpa using h4
    rw [decide_eq_false h, decide_eq_true h1, Decidable.of_not_not h2, h3, h4] at k; exact k
  · have h3 : y.2.2.2.1 = true := by simpa using h3
    rw [decide_eq_false h, decide_eq_true h1, Decidable.of_not_not h2, h3, Decidable.of_not_not h4] at k; exact k
  · rw [decide_eq_false h, decide_eq_false h1] at k; exact k
/-- what a place must say of its step, for the order -/
def Qok (s : bi_St) (Q : Nat → Sp → Prop) : Prop := ∀ a x, st_isp a → Q a x → x.2.2.1 < 2147483648 ∧ x.1 ≤ 2 ∧ st_g s a 0 = zI x.1 ∧ st_g s a 2 = zI x.2.2.1 ∧ st_g s a 5 = b2i x.2.2.2.1 ∧ st_g s a 6 = b2i x.2.2.2.2.2.2
theorem ct_firstGo {X : bi_X} {d : Nat} {K : Int32 → bi_St → Prop} {E : Nat → bi_St → Prop} {s : bi_St} {Q : Nat → Sp → Prop} {L : List Sp} (hQ : Qok s Q) (hP : PQ s Q L) (hl : L.length ≤ 9) (h1 : 1 ≤ L.length) (h2 : st_g s 65 2 = zI L.length)
    (k : K (match nx L (L.length - 1) 1 with | none => -1 | some j => zI j) s) : cI X (d + 1) 45 [.ref 65] s K E := by
  have loop : ∀ n j, n = L.length - j → 1 ≤ j → j ≤ L.length → nx L (L.length - 1) 1 = nx L n j → at_X3_firstThatMayGoAhead_2 X (d + 1) K E s (zI j) := by
    intro n
    induction n with
    | zero =>
      intro j hn hj hjl he
      have : j = L.length := by omega
      rw [he] at k
      refine go_X3_firstThatMayGoAhead_2 ⟨fun _ => k, fun z => absurd ?_ z⟩
      rw [h2, this]; exact (zI_le (by omega) (by omega)).mpr (Nat.le_refl _)
    | succ n ih =>
      intro j hn hj hjl he
      have hx : L[j]? = some L[j] := List.getElem?_eq_getElem (by omega)
      have hy : L[j - 1]? = some L[j - 1] := List.getElem?_eq_getElem (by omega)
      obtain ⟨a1, a2, a3, a4, a5, a6⟩ := hQ _ _ (hP.1 j (by omega)) (hP.2.2 j _ hx)
      obtain ⟨b1, b2, b3, b4, b5, b6⟩ := hQ _ _ (hP.1 (j - 1) (by omega)) (hP.2.2 (j - 1) _ hy)
      refine go_X3_firstThatMayGoAhead_2 ⟨fun z => ?_, fun _ => ?_⟩
      · rw [h2, zI_le (by omega) (by omega)] at z; omega
      · rw [zI_sub1 hj, zI_nat (a := j) (by omega), zI_nat (a := j - 1) (by omega)]
        refine ⟨in_zI (by omega) (by omega), hP.1 j (by omega), in_zI (by omega) (by omega), hP.1 (j - 1) (by omega), ct_mayGoC (hP.1 j (by omega)) (hP.1 (j - 1) (by omega)) ⟨a1, b1, a2⟩ a3 a4 b4 a5 b5 b6 ?_⟩
        have hm : mgAt L j = mg L[j] L[j - 1] := by unfold mgAt; rw [hx, hy]
        rw [b2i_ne0, ← hm, zI_add1]
        rw [nx] at he
        refine ⟨fun h => ih (j + 1) (by omega) (by omega) (by omega) (by rw [he, if_neg (by rw [h]; simp)]), fun h => ?_⟩
        have h : mgAt L j = true := by simpa using h
        rw [he, if_pos h] at k
        exact k
  exact en_X3_firstThatMayGoAhead (loop (L.length - 1) 1 rfl (by omega) h1 rfl)
theorem ct_order {X : bi_X} {d : Nat} {K : bi_St → Prop} {E : Nat → bi_St → Prop} {s : bi_St} {Q : Nat → Sp → Prop} {L : List Sp} (hQ : Qok s Q) (hP : PQ s Q L) (hl : L.length ≤ 9) (h1 : 1 ≤ L.length) (h2 : st_g s 65 2 = zI L.length)
    (k : ∀ t, fp s t → PQ t Q (srt 72 L) → K t) : cV X (d + 2) 44 [.ref 65] s K E := by
  obtain ⟨F, hF⟩ : ∃ F, F = srt 72 L := ⟨_, rfl⟩
  rw [← hF] at k
  have loop : ∀ n w (t : bi_St) (M : List Sp), fp s t → PQ t Q M → M.length = L.length → inv (cst M) ≤ n → w + n ≤ 72 → F = srt n M → at_X3_order_2 X (d + 2) K E t (zI w) := by
    intro n
    induction n with
    | zero =>
      intro w t M ht hM hML hi hw he
      have hQt : Qok t Q := fun a x ha hq => by rw [ht.2.1, ht.2.1, ht.2.1, ht.2.1]; exact hQ a x ha hq
      refine go_X3_order_2 ⟨fun z => ?_, fun _ => ct_firstGo hQt hM (by omega) (by omega) (by rw [ht.2.1, hML]; exact h2) ?_⟩
      · have := (zI_le (a := 81) (by omega) (by omega)).mp z; omega
      · cases hn : nx M (M.length - 1) 1 with
        | none =>
          refine ⟨fun z => absurd z (by decide), fun _ => k t ht ?_⟩
          rw [he]; exact hM
        | some j =>
          obtain ⟨j1, j2, j3⟩ := nx_some _ _ _ hn
          have := inv_swL j1 j3
          omega
    | succ n ih =>
      intro w t M ht hM hML hi hw he
      have hQt : Qok t Q := fun a x ha hq => by rw [ht.2.1, ht.2.1, ht.2.1, ht.2.1]; exact hQ a x ha hq
      refine go_X3_order_2 ⟨fun z => ?_, fun _ => ct_firstGo hQt hM (by omega) (by omega) (by rw [ht.2.1, hML]; exact h2) ?_⟩
      · have := (zI_le (a := 81) (by omega) (by omega)).mp z; omega
      · rw [srt] at he
        cases hn : nx M (M.length - 1) 1 with
        | none =>
          rw [hn] at he
          refine ⟨fun z => absurd z (by decide), fun _ => k t ht ?_⟩
          rw [he]; exact hM
        | some j =>
          rw [hn] at he
          obtain ⟨j1, j2, j3⟩ := nx_some _ _ _ hn
          have hjl := mgAt_lt j3
          have hdec := inv_swL j1 j3
          refine ⟨fun _ => ?_, fun z => absurd ((zI_le (a := 1) (by omega) (by omega)).mpr j1) z⟩
          show bi_in (zI j) 9 = true ∧ _
          rw [zI_sub1 j1, zI_nat (a := j) (by omega), zI_nat (a := j - 1) (by omega), zI_add1]
          refine ⟨in_zI (by omega) (by omega), hM.1 j (by omega), in_zI (by omega) (by omega), hM.1 (j - 1) (by omega), in_zI (by omega) (by omega), in_zI (by omega) (by omega), ?_⟩
          have hgp : ∀ i, st_gp (st_pp (st_pp t (10 + j) (st_gp t (10 + (j - 1)))) (10 + (j - 1)) (st_gp t (10 + j))) (10 + i) = if i = j - 1 then st_gp t (10 + j) else if i = j then st_gp t (10 + (j - 1)) else st_gp t (10 + i) := fun i => by
            rw [gp_pp, gp_pp]
            by_cases h1 : i = j - 1
            · rw [if_pos (by omega), if_pos h1]
            · rw [if_neg (by omega), if_neg h1]
              by_cases h2 : i = j
              · rw [if_pos (by omega), if_pos h2]
              · rw [if_neg (by omega), if_neg h2]
          have hx : M[j]? = some M[j] := List.getElem?_eq_getElem hjl
          have hy : M[j - 1]? = some M[j - 1] := List.getElem?_eq_getElem (by omega)
          refine ih (w + 1) _ (swL M j) ⟨ht.1, ht.2.1, ht.2.2.1, fun i hi => ?_⟩ ⟨fun i hi => ?_, fun i i' hi hi' h => ?_, fun i x hix => ?_⟩ (by rw [swL_len]; exact hML) (by omega) (by omega) he
          · rw [gp_pp, gp_pp, if_neg (by omega), if_neg (by omega)]; exact ht.2.2.2 i hi
          · rw [hgp]
            by_cases h1 : i = j - 1
            · rw [if_pos h1]; exact hM.1 j (by omega)
            · rw [if_neg h1]
              by_cases h2 : i = j
              · rw [if_pos h2]; exact hM.1 (j - 1) (by omega)
              · rw [if_neg h2]; exact hM.1 i hi
          · rw [hgp, hgp] at h
            have tau : ∀ i, i < 9 → (if i = j - 1 then st_gp t (10 + j) else if i = j then st_gp t (10 + (j - 1)) else st_gp t (10 + i)) = st_gp t (10 + (if i = j - 1 then j else if i = j then j - 1 else i)) := fun i _ => by
              by_cases h1 : i = j - 1
              · rw [if_pos h1, if_pos h1]
              · rw [if_neg h1, if_neg h1]
                by_cases h2 : i = j
                · rw [if_pos h2, if_pos h2]
                · rw [if_neg h2, if_neg h2]
            rw [tau i hi, tau i' hi'] at h
            have b1 : (if i = j - 1 then j else if i = j then j - 1 else i) < 9 := by
              by_cases h1 : i = j - 1
              · rw [if_pos h1]; omega
              · rw [if_neg h1]
                by_cases h2 : i = j
                · rw [if_pos h2]; omega
                · rw [if_neg h2]; omega
            have b2 : (if i' = j - 1 then j else if i' = j then j - 1 else i') < 9 := by
              by_cases h1 : i' = j - 1
              · rw [if_pos h1]; omega
              · rw [if_neg h1]
                by_cases h2 : i' = j
                · rw [if_pos h2]; omega
                · rw [if_neg h2]; omega
            have := hM.2.1 _ _ b1 b2 h
            clear b1 b2 h tau
            (repeat' split at this) <;> omega
          · rw [swL_get j1 hx hy] at hix
            rw [hgp]
            by_cases h2 : i = j
            · rw [if_pos h2] at hix
              rw [if_neg (by omega), if_pos h2]
              exact hM.2.2 (j - 1) x (by rw [hy]; exact hix)
            · rw [if_neg h2] at hix
              by_cases h1 : i = j - 1
              · rw [if_pos h1] at hix
                rw [if_pos h1]
                exact hM.2.2 j x (by rw [hx]; exact hix)
              · rw [if_neg h1] at hix
                rw [if_neg h1, if_neg h2]
                exact hM.2.2 i x hix
  have hi : inv (cst L) ≤ 72 := by
    have h := inv_le (cst L)
    have e : (cst L).length = L.length := by unfold cst; simp
    rw [e] at h
    have h9 : L.length * (L.length - 1) ≤ 9 * 8 := Nat.mul_le_mul hl (by omega)
    omega
  exact en_X3_order (loop 72 0 s L fp.refl hP rfl hi (by omega) hF)
end PLAN
