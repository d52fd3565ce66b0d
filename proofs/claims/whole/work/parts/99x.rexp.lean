/-! ===== the reference's expression, the whole of it ===== -/
section REXP
theorem bad39 {X : bi_X} {d : Nat} {K : bi_St → Prop} {E : Nat → bi_St → Prop} {s : bi_St} {lo n t : Nat} {y : Int32} (h3 : ¬ st_g s 77 3 = 0) (h20 : st_g s 77 20 = zI n) (h19 : st_g s 77 19 = zI t) (hlo : lo ≤ t) (hb : t + n ≤ 1390) (hn : n ≤ 940) (k : ∀ u, fr (wWd lo) s u → K u) : at_X12_expression_39 X (d + 2) K E s y := by
  have h401 : at_X12_expression_401 X (d + 2) K E s := by
    refine go_X12_expression_401 (ct_isGoodN h3 ⟨fun _ => go_X12_expression_421 ?_, fun z => absurd rfl z⟩)
    refine (ct_dropsL (lo := lo) n t s h20 h19 hlo hb hn (fun u t' hu a1 a2 a3 => ct_puts a1 (by omega) (k _ ((hu.p (w80 (by omega))).p ?_)))).1
    unfold wWd; rfl
  exact go_X12_expression_39 ⟨fun _ => h401, fun _ => ct_isGoodN h3 ⟨fun _ => h401, fun z => absurd rfl z⟩⟩
theorem rc_wds {t : bi_St} : ∀ (P : Lp) (lo : Nat), lo + (wds P).length < 1400 → (∀ k x, (wds P)[k]? = some x → st_g t 80 (lo + k) = zI x) → st_g t 80 (lo + (wds P).length) = 0 → rc t 80 P lo := by
  intro P
  induction P with
  | nil => intro lo h1 h2 h3; exact ⟨h1, h3⟩
  | cons o P ih =>
    intro lo h1 h2 h3
    have hw : wds (o :: P) = wd1 o ++ wds P := by unfold wds; rw [List.flatMap_cons]
    rw [hw, List.length_append] at h1 h3
    rw [hw] at h2
    by_cases ho : o.1 ≤ 3
    · have e1 : wd1 o = [rop o.1, rarg o] := by unfold wd1; rw [if_pos ho]
      rw [e1] at h1 h2 h3
      simp only [List.length_cons, List.length_nil] at h1 h3
      have a0 := h2 0 (rop o.1) rfl
      have a1 := h2 1 (rarg o) rfl
      refine ⟨by omega, a0, ?_⟩
      rw [if_pos ho]
      refine ⟨by omega, a1, ih (lo + 2) (by omega) (fun k x hk => ?_) (by rw [show lo + 2 + (wds P).length = lo + (0 + 1 + 1 + (wds P).length) by omega]; exact h3)⟩
      rw [show lo + 2 + k = lo + (k + 2) by omega]
      exact h2 (k + 2) x hk
    · have e1 : wd1 o = [rop o.1] := by unfold wd1; rw [if_neg ho]
      rw [e1] at h1 h2 h3
      simp only [List.length_cons, List.length_nil] at h1 h3
      have a0 := h2 0 (rop o.1) rfl
      refine ⟨by omega, a0, ?_⟩
      rw [if_neg ho]
      refine ih (lo + 1) (by omega) (fun k x hk => ?_) (by rw [show lo + 1 + (wds P).length = lo + (0 + 1 + (wds P).length) by omega]; exact h3)
      rw [show lo + 1 + k = lo + (k + 1) by omega]
      exact h2 (k + 1) x hk
/-- a rule that ends below lo stays -/
theorem rc_low {s t : bi_St} {a b lo : Nat} (h : ∀ k, k < lo → st_g t b k = st_g s a k) : ∀ (P : Lp) (i : Nat), i + (wds P).length < lo → rc s a P i → rc t b P i := by
  intro P
  induction P with
  | nil => intro i h1 h2; exact ⟨h2.1, by rw [h i (by have : (wds ([] : Lp)).length = 0 := rfl; omega)]; exact h2.2⟩
  | cons o P ih =>
    intro i h1 h2
    have hw : wds (o :: P) = wd1 o ++ wds P := by unfold wds; rw [List.flatMap_cons]
    rw [hw, List.length_append] at h1
    obtain ⟨r1, r2, r3⟩ := h2
    by_cases ho : o.1 ≤ 3
    · have e1 : (wd1 o).length = 2 := by unfold wd1; rw [if_pos ho]; rfl
      rw [if_pos ho] at r3
      refine ⟨r1, by rw [h i (by omega)]; exact r2, ?_⟩
      rw [if_pos ho]
      exact ⟨r3.1, by rw [h _ (by omega)]; exact r3.2.1, ih (i + 2) (by omega) r3.2.2⟩
    · have e1 : (wd1 o).length = 1 := by unfold wd1; rw [if_neg ho]; rfl
      rw [if_neg ho] at r3
      refine ⟨r1, by rw [h i (by omega)]; exact r2, ?_⟩
      rw [if_neg ho]
      exact ih (i + 1) (by omega) r3
/-- what a good expression leaves -/
def EXt (s t : bi_St) (B : Nat → Nat) (N lo q' : Nat) (P : Lp) (sil : Bool) : Prop := fr (wEx lo) s t ∧ RB t B N ∧ RT t B N q' ∧ st_g t 77 3 = 0 ∧ st_g t 77 19 = zI (lo + (wds P).length + 1) ∧ rc t 80 P lo ∧ st_g t 77 22 = zI P.length ∧ st_g t 77 23 = b2i sil ∧ 2 * (lo + (wds P).length) ≤ 3 * q' + 1
/-- at a state of the machine -/
def ExG (X : bi_X) (d : Nat) (K : bi_St → Prop) (E : Nat → bi_St → Prop) (s0 : bi_St) (B : Nat → Nat) (N C R lo : Nat) (m : Ms) : Prop := ∀ s, fr (wEx lo) s0 s → RM s B N C R lo m.2 → match m.1 with
  | some x => RMb lo 0 m.2 → (st_g s 77 23 = b2i m.2.2.2.2.2.2 ∨ (tK B N m.2.1 = 2 ∧ 4 < tL B N m.2.1)) → x.2 ≤ 6 → at_X12_operand_18 X (d + 6) (fun u => at_X12_expression_39 X (d + 7) K E u 1) (fun _ _ => False) s (b2i x.1) (zI x.2)
  | none => RMb lo 1 m.2 → st_g s 77 23 = b2i m.2.2.2.2.2.2 → at_X12_expression_39 X (d + 7) K E s 1
theorem ct_exprM {X : bi_X} {d : Nat} {K : bi_St → Prop} {E : Nat → bi_St → Prop} {s0 : bi_St} {B : Nat → Nat} {N C R lo : Nat} {r : Rs}
    (kF : ∀ t f p, r = .inl (f, p) → 1 ≤ f → f ≤ 3 → fr (wEb lo) s0 t → st_g t 77 3 = zI f → st_g t 77 4 = zI p → K t)
    (kT : ∀ t q' P sil, r = .inr (q', P, sil) → EXt s0 t B N lo q' P sil → K t) (m : Ms) (hm : Ends B N C R m r) : ExG X d K E s0 B N C R lo m := by
  have badG : ∀ (t s : bi_St) f p n top, fr (wEx lo) s0 s → r = .inl (f, p) → 1 ≤ f → f ≤ 3 → fr (wEb lo) s t → st_g t 77 3 = zI f → st_g t 77 4 = zI p → st_g t 77 20 = zI n → st_g t 77 19 = zI top → lo ≤ top → top + n ≤ 1390 → n ≤ 940 → at_X12_expression_39 X (d + 7) K E t 1 := by
    intro t s f p n top h0 hr f1 f3 ht t3 t4 t20 t19 hl1 hl2 hl3
    refine bad39 (d := d + 5) (lo := lo) (fun z => ?_) t20 t19 hl1 hl2 hl3 (fun u hu => kF u f p hr f1 f3 (((h0.mono wEx_wEb).trans ht).trans (hu.mono wWd_wEb)) (by rw [g77 hu (by omega)]; exact t3) (by rw [g77 hu (by omega)]; exact t4))
    rw [t3] at z
    have := (zI_eq (b := 0) (show f < 2147483648 by omega) (by omega)).mp z
    omega
  refine Ends.ind (p := ExG X d K E s0 B N C R lo) (fun m hst => ?_) (fun m m' hst ih => ?_) m hm
  · intro s hs hRM
    obtain ⟨mo, q, out, w, tst, dep, sil⟩ := m
    cases mo with
    | some x =>
      obtain ⟨mn, nots⟩ := x
      intro hb h23 hn
      have hst : stO B N C R mn nots (q, out, w, tst, dep, sil) = .inr r := hst
      refine ct_operandStep (d := d) hRM hb h23 hn (fun _ _ _ _ z => ?_) (fun _ _ z => ?_) (fun f p t n top z f1 f3 ht t3 t4 t20 t19 hl1 hl2 hl3 => ?_)
      · rw [hst] at z; cases z
      · rw [hst] at z; cases z
      · have hr : r = .inl (f, p) := by rw [hst] at z; unfold flt at z; injection z
        exact badG t s f p n top hs hr f1 f3 ht t3 t4 t20 t19 hl1 hl2 hl3
    | none =>
      intro hb h23
      have hst : stP B N (q, out, w, tst, dep, sil) = .inr r := hst
      refine ct_moreStep (d := d) hRM hb h23 (fun _ _ _ z => ?_) (fun _ _ z => ?_) (fun z t ht t3 t4 => ?_) (fun P z t a1 a2 a3 a4 a5 a6 a7 a8 a9 a10 => ?_)
      · rw [hst] at z; cases z
      · rw [hst] at z; cases z
      · have hr : r = .inl (1, tS B N q) := by rw [hst] at z; unfold flt at z; injection z
        exact kF t 1 (tS B N q) hr (by omega) (by omega) ((hs.mono wEx_wEb).trans ht) t3 t4
      · have hr : r = .inr (q, P, sil) := by rw [hst] at z; injection z
        have hqN : q ≤ N := a3.1
        have hN := a2.1
        exact kT t q P sil hr ⟨hs.trans a1, a2, a3, a4, a5, rc_wds P lo (by omega) a6 a7, a8, a9, a10⟩
  · intro s hs hRM
    obtain ⟨mo, q, out, w, tst, dep, sil⟩ := m
    cases mo with
    | some x =>
      obtain ⟨mn, nots⟩ := x
      intro hb h23 hn
      have hst : stO B N C R mn nots (q, out, w, tst, dep, sil) = .inl m' := hst
      refine ct_operandStep (d := d) hRM hb h23 hn (fun mn' nots' mx' t z ht hR hRb t23 hn' => ?_) (fun mx' t z ht hR hRb t23 => ?_) (fun f p t n top z f1 f3 ht t3 t4 t20 t19 hl1 hl2 hl3 => ?_)
      · have hm' : m' = (some (mn', nots'), mx') := by rw [hst] at z; injection z
        subst hm'
        exact ih t (hs.trans ht) hR hRb (Or.inl t23) hn'
      · have hm' : m' = (none, mx') := by rw [hst] at z; injection z
        subst hm'
        exact ih t (hs.trans ht) hR hRb t23
      · rw [hst] at z; cases z
    | none =>
      intro hb h23
      have hst : stP B N (q, out, w, tst, dep, sil) = .inl m' := hst
      refine ct_moreStep (d := d) hRM hb h23 (fun mn' mx' t z ht hR hRb t23 => ?_) (fun mx' t z ht hR hRb t23 => ?_) (fun z t ht t3 t4 => ?_) (fun P z t a1 a2 a3 a4 a5 a6 a7 a8 a9 a10 => ?_)
      · have hm' : m' = (some (mn', 0), mx') := by rw [hst] at z; injection z
        subst hm'
        have h18 := ih t (hs.trans ht) hR hRb t23 (by show 0 ≤ 6; omega)
        have hop : cV X (d + 6) 191 [.ref 77, .int (b2i mn')] t (fun u => at_X12_expression_39 X (d + 7) K E u 1) (fun _ _ => False) := en_X12_operand (go_X12_operand_4 ⟨fun z => absurd z (by decide), fun _ => ct_isGoodY hR.2.2.1 ⟨fun z => absurd z (by decide), fun _ => h18⟩⟩)
        exact cV.mono hop (fun u hu => go_X12_expression_398 hu) (fun _ _ z => z)
      · have hm' : m' = (none, mx') := by rw [hst] at z; injection z
        subst hm'
        exact go_X12_expression_398 (ih t (hs.trans ht) hR hRb t23)
      · rw [hst] at z; cases z
      · rw [hst] at z; cases z
theorem ct_expression {X : bi_X} {d : Nat} {K : bi_St → Prop} {E : Nat → bi_St → Prop} {s : bi_St} {B : Nat → Nat} {N C R lo q : Nat} {r : Rs} (hB : RB s B N) (hT : RT s B N q) (h3 : st_g s 77 3 = 0) (h14 : st_g s 77 14 = zI C) (h15 : st_g s 77 15 = zI R) (hCR : C ≤ 4 ∧ R ≤ 6) (h19 : st_g s 77 19 = zI lo) (hlo : 2 * lo ≤ 3 * q) (hr : Ends B N C R (m0 q) r)
    (kF : ∀ t f p, r = .inl (f, p) → 1 ≤ f → f ≤ 3 → fr (wEb lo) s t → st_g t 77 3 = zI f → st_g t 77 4 = zI p → K t)
    (kT : ∀ t q' P sil, r = .inr (q', P, sil) → EXt s t B N lo q' P sil → K t) : cV X (d + 7) 194 [.ref 77] s K E := by
  have hN := hB.1
  have hqN := hT.1
  have f1 : fr (wEx lo) s (st_p (st_p s 77 22 (0 : Int32)) 77 23 (1 : Int32)) := (fr.refl.p (wEx_77 (by omega))).p (wEx_77 (by omega))
  refine en_X12_expression (ct_isGoodY (by rw [g_p_k (by omega), g_p_k (by omega)]; exact h3) ⟨fun _ => en_X12_deeper ⟨fun z => ?_, fun _ => ?_⟩, fun z => absurd (by decide) z⟩)
  · rw [g_p_eq] at z; exact absurd z (by decide)
  · rw [g_p_eq, g_p_eq, show (0 : Int32) + 1 = zI 1 from rfl, zI_nat (by omega), nar0]
    refine ⟨in_zI (by omega) (by omega), ?_⟩
    have fu : fr (wEx lo) s (st_p (st_p (st_p (st_p (st_p (st_p s 77 22 (0 : Int32)) 77 23 (1 : Int32)) 77 20 (0 : Int32)) 77 21 (0 : Int32)) 77 21 (zI 1)) 82 1 0) := ((((f1.p (wEx_77 (by omega))).p (wEx_77 (by omega))).p (wEx_77 (by omega))).p wEx_82)
    have gu : ∀ a k, (a ≠ 77 ∨ (k < 20 ∨ 23 < k)) → a ≠ 82 → st_g (st_p (st_p (st_p (st_p (st_p (st_p s 77 22 (0 : Int32)) 77 23 (1 : Int32)) 77 20 (0 : Int32)) 77 21 (0 : Int32)) 77 21 (zI 1)) 82 1 0) a k = st_g s a k := fun a k h1 h2 => by
      rw [g_p_a h2, g_p, if_neg (by omega), g_p, if_neg (by omega), g_p, if_neg (by omega), g_p, if_neg (by omega), g_p, if_neg (by omega)]
    have u20 : st_g (st_p (st_p (st_p (st_p (st_p (st_p s 77 22 (0 : Int32)) 77 23 (1 : Int32)) 77 20 (0 : Int32)) 77 21 (0 : Int32)) 77 21 (zI 1)) 82 1 0) 77 20 = zI 0 := by rw [g_p_a (by omega), g_p_k (by omega), g_p_k (by omega), g_p_eq]; rfl
    have u21 : st_g (st_p (st_p (st_p (st_p (st_p (st_p s 77 22 (0 : Int32)) 77 23 (1 : Int32)) 77 20 (0 : Int32)) 77 21 (0 : Int32)) 77 21 (zI 1)) 82 1 0) 77 21 = zI 1 := by rw [g_p_a (by omega), g_p_eq]
    have u22 : st_g (st_p (st_p (st_p (st_p (st_p (st_p s 77 22 (0 : Int32)) 77 23 (1 : Int32)) 77 20 (0 : Int32)) 77 21 (0 : Int32)) 77 21 (zI 1)) 82 1 0) 77 22 = zI 0 := by rw [g_p_a (by omega), g_p_k (by omega), g_p_k (by omega), g_p_k (by omega), g_p_k (by omega), g_p_eq]; rfl
    have u23 : st_g (st_p (st_p (st_p (st_p (st_p (st_p s 77 22 (0 : Int32)) 77 23 (1 : Int32)) 77 20 (0 : Int32)) 77 21 (0 : Int32)) 77 21 (zI 1)) 82 1 0) 77 23 = b2i true := by rw [g_p_a (by omega), g_p_k (by omega), g_p_k (by omega), g_p_k (by omega), g_p_eq]; rfl
    have u82 : st_g (st_p (st_p (st_p (st_p (st_p (st_p s 77 22 (0 : Int32)) 77 23 (1 : Int32)) 77 20 (0 : Int32)) 77 21 (0 : Int32)) 77 21 (zI 1)) 82 1 0) 82 1 = 0 := g_p_eq _ _ _ _
    have ul : st_gl (st_p (st_p (st_p (st_p (st_p (st_p s 77 22 (0 : Int32)) 77 23 (1 : Int32)) 77 20 (0 : Int32)) 77 21 (0 : Int32)) 77 21 (zI 1)) 82 1 0) 77 13 = st_gl s 77 13 := rfl
    generalize st_p (st_p (st_p (st_p (st_p (st_p s 77 22 (0 : Int32)) 77 23 (1 : Int32)) 77 20 (0 : Int32)) 77 21 (0 : Int32)) 77 21 (zI 1)) 82 1 0 = u at fu gu u20 u21 u22 u23 u82 ul
    have hRM : RM u B N C R lo (m0 q).2 := by
      refine ⟨RB_fr (gu _ _ (by omega) (by omega)) (fun k => gu _ _ (by omega) (by omega)) hB, RT_eq (fun k h1 h2 => gu _ _ (by omega) (by omega)) ul hT, by rw [gu _ _ (by omega) (by omega)]; exact h3, by rw [gu _ _ (by omega) (by omega)]; exact h14, by rw [gu _ _ (by omega) (by omega)]; exact h15, hCR, ⟨fun x hx => absurd hx (List.not_mem_nil), ?_, fun k x hk => ?_, u20, fun j x hj => ?_⟩, u21, ⟨rfl, by show 1 ≤ 6; omega⟩, fun j h1 h2 => ?_, u22⟩
      · rw [gu _ _ (by omega) (by omega)]; exact h19
      · exact absurd hk (by simp [m0, wds])
      · exact absurd hj (by simp [m0])
      · have h2 : j ≤ 1 := h2
        rw [show j = 1 by omega, u82]; rfl
    have hg := ct_exprM (X := X) (d := d) (K := K) (E := E) kF kT (m0 q) hr u fu hRM
    have h18 := hg (by unfold RMb; show 2 * (lo + 0 + 0) ≤ 3 * q + 0 ∧ 0 ≤ q; omega) (Or.inl u23) (by show 0 ≤ 6; omega)
    exact en_X12_operand (go_X12_operand_4 ⟨fun z => absurd z (by decide), fun _ => ct_isGoodY hRM.2.2.1 ⟨fun z => absurd z (by decide), fun _ => h18⟩⟩)
/-- behind a fault an expression does nothing but reset its cost -/
theorem ct_expressionN {X : bi_X} {d : Nat} {K : bi_St → Prop} {E : Nat → bi_St → Prop} {s : bi_St} (h3 : ¬ st_g s 77 3 = 0) (k : K (st_p (st_p s 77 22 (0 : Int32)) 77 23 (1 : Int32))) : cV X (d + 1) 194 [.ref 77] s K E :=
  en_X12_expression (ct_isGoodN (by rw [g_p_k (by omega), g_p_k (by omega)]; exact h3) ⟨fun z => absurd rfl z, fun _ => k⟩)
end REXP
