/-! ===== a query's steps are laid, of the reference ===== -/
section RLAY
def plI (P : Option Lp) : Int32 := match P with
  | none => -1
  | some P => zI P.length
def RX (s : bi_St) (p : Nat) (f : Nat → Pol) : Prop := ∀ i, i < p → st_g s 83 (7 * i + 5) = plI (f i).2.2.2.1 ∧ st_g s 83 (7 * i + 6) = plI (f i).2.2.2.2
def VR (s : bi_St) (C v : Nat) (g : Nat → Vw) : Prop := st_g s 77 30 = zI v ∧ ∀ w, w < v → st_g s 85 (6 * w) = (g w).1 ∧ st_g s 85 (6 * w + 1) = b2i (g w).2.1 ∧ st_g s 85 (6 * w + 2) = (g w).2.2.1 ∧ rco s 87 C (st_g s 85 (6 * w + 3)) (some (g w).2.2.2.2) ∧ st_g s 85 (6 * w + 4) = zI (g w).2.2.2.2.length ∧ st_g s 85 (6 * w + 5) = b2i (g w).2.2.2.1
def DR (s : bi_St) (C : Nat) (D : List (Lp × Bool)) : Prop := ∀ i x, D[i]? = some x → rco s 88 C (st_g s 98 i) (some x.1) ∧ st_g s 99 i = zI x.1.length ∧ st_g s 100 i = b2i x.2
theorem VR_fr {s t : bi_St} {C v : Nat} {g : Nat → Vw} (h30 : st_g t 77 30 = st_g s 77 30) (h85 : ∀ k, st_g t 85 k = st_g s 85 k) (h87 : ∀ k, st_g t 87 k = st_g s 87 k) (h : VR s C v g) : VR t C v g :=
  ⟨by rw [h30]; exact h.1, fun w hw => by obtain ⟨a1, a2, a3, a4, a5, a6⟩ := h.2 w hw; simp only [h85]; exact ⟨a1, a2, a3, rco_fr h87 a4, a5, a6⟩⟩
theorem DR_fr {s t : bi_St} {C : Nat} {D : List (Lp × Bool)} (h : ∀ a k, (a = 88 ∨ a = 98 ∨ a = 99 ∨ a = 100) → st_g t a k = st_g s a k) (hd : DR s C D) : DR t C D := fun i x hx => by
  obtain ⟨h1, h2, h3⟩ := hd i x hx
  rw [h 98 _ (by simp), h 99 _ (by simp), h 100 _ (by simp)]
  exact ⟨rco_fr (fun k => h 88 k (by simp)) h1, h2, h3⟩
theorem ct_policyCostR {X : bi_X} {d : Nat} {K : Int32 → bi_St → Prop} {E : Nat → bi_St → Prop} {s : bi_St} {C R p u : Nat} {f : Nat → Pol} {S : Sta} (hj : RC s 0 C R p f S) (hx : RX s p f) (hpl : ∀ i, i < p → plen (f i).2.2.2.1 ≤ 700) (hu : u < 6) (k : ∀ t, fr wF s t → K (zI (pcost p f (clo S.1 (s1 u)) S.2.1)) t) : cI X (d + 2) 231 [.ref 77, .int (zI u)] s K E := by
  have hp := hj.1.2.1
  refine en_X12_policyCost (ct_laysUser (b0 := 0) hj hu (fun t ht t4 t43 _ => ?_))
  have hjt := RC_fr ht hj
  have k := k t ht
  have on : st_g t 90 (0 + 6) = S.2.1 := hjt.2.1.2.2.2.1
  have hxt : RX t p f := fun i hi => by rw [ht.g (wF_ne (by omega) (by omega) (by omega)), ht.g (wF_ne (by omega) (by omega) (by omega))]; exact hx i hi
  have loop : ∀ m n, m = p - n → n ≤ p → at_X12_policyCost_10 X (d + 2) K E t (zI (1 + sumN (fun i => if po_of f (clo S.1 (s1 u)) S.2.1 0 i then plen (f i).2.2.2.1 else 0) n)) (zI n) := by
    intro m
    induction m with
    | zero =>
      intro n hm hn
      have : n = p := by omega
      subst this
      refine go_X12_policyCost_10 ?_
      rw [hjt.1.2.2.1]
      exact ⟨fun _ => k, fun z => absurd ((zI_le (by omega) (by omega)).mpr (Nat.le_refl _)) z⟩
    | succ m ih =>
      intro n hm hn
      have ih := ih (n + 1) (by omega) (by omega)
      rw [sumN_s] at ih
      have e7 : (7 : Int32) * zI n + 5 = zI (7 * n + 5) := z7 (n := 5) (by omega) (by omega)
      refine go_X12_policyCost_10 ?_
      rw [hjt.1.2.2.1]
      refine ⟨fun z => ?_, fun _ => ct_isOf (b0 := 0) (cmd := 0) hjt.1 t43 (by omega) (by omega) (by omega) ?_⟩
      · rw [zI_le (by omega) (by omega)] at z; omega
      · rw [on, b2i_ne0, zI_add1, Int32.add_zero, e7, zI_nat (by omega), (hxt n (by omega)).1]
        refine ⟨fun h => ?_, fun h => ⟨in_zI (by omega) (by omega), fun h2 => ?_, fun h2 => ⟨in_zI (by omega) (by omega), ?_⟩⟩⟩
        · rw [if_neg (by rw [h]; simp)] at ih; exact ih
        · have h : po_of f (clo S.1 (s1 u)) S.2.1 0 n = true := by simpa using h
          rw [if_pos h] at ih
          cases hP : (f n).2.2.2.1 with
          | none => rw [hP] at ih; exact ih
          | some P =>
            have := hpl n (by omega)
            rw [hP] at h2 this
            have this : P.length ≤ 700 := this
            exact absurd h2 (zI_m1 (by omega))
        · have h : po_of f (clo S.1 (s1 u)) S.2.1 0 n = true := by simpa using h
          rw [if_pos h] at ih
          cases hP : (f n).2.2.2.1 with
          | none => rw [hP] at h2; exact absurd rfl h2
          | some P =>
            rw [hP] at ih
            show at_X12_policyCost_10 X (d + 1 + 1) K E t (_ + zI P.length) _
            rw [zI_add, show 1 + sumN (fun i => if po_of f (clo S.1 (s1 u)) S.2.1 0 i then plen (f i).2.2.2.1 else 0) n + P.length = 1 + (sumN (fun i => if po_of f (clo S.1 (s1 u)) S.2.1 0 i then plen (f i).2.2.2.1 else 0) n + P.length) by omega]
            exact ih
  exact loop p 0 (by omega) (by omega)
def w94 (a k : Nat) : Bool := Nat.beq a 94 || (Nat.beq a 77 && Nat.beq k 49)
theorem ct_laysStep {X : bi_X} {d : Nat} {K : bi_St → Prop} {E : Nat → bi_St → Prop} {s : bi_St} {n : Nat} {x0 x1 x2 x3 x4 x5 : Int32} (hn : n < 9) (h49 : st_g s 77 49 = zI n)
    (k : ∀ t, fr w94 s t → st_g t 77 49 = zI (n + 1) → (∀ q, q < 6 * n → st_g t 94 q = st_g s 94 q) → st_g t 94 (6 * n) = x0 → st_g t 94 (6 * n + 1) = x1 → st_g t 94 (6 * n + 2) = x2 → st_g t 94 (6 * n + 3) = x3 → st_g t 94 (6 * n + 4) = x4 → st_g t 94 (6 * n + 5) = x5 → K t) : cV X d 230 [.ref 77, .int x0, .int x1, .int x2, .int x3, .int x4, .int x5] s K E := by
  have e0 : (6 : Int32) * zI n = zI (6 * n) := zI_mul 6 n
  have e1 : zI (6 * n) + 1 = zI (6 * n + 1) := zI_add _ 1
  have e2 : zI (6 * n) + 2 = zI (6 * n + 2) := zI_add _ 2
  have e3 : zI (6 * n) + 3 = zI (6 * n + 3) := zI_add _ 3
  have e4 : zI (6 * n) + 4 = zI (6 * n + 4) := zI_add _ 4
  have e5 : zI (6 * n) + 5 = zI (6 * n + 5) := zI_add _ 5
  refine en_X12_laysStep ?_
  rw [h49, e0, e1, e2, e3, e4, e5, zI_nat (a := 6 * n) (by omega), zI_nat (a := 6 * n + 1) (by omega), zI_nat (a := 6 * n + 2) (by omega), zI_nat (a := 6 * n + 3) (by omega), zI_nat (a := 6 * n + 4) (by omega), zI_nat (a := 6 * n + 5) (by omega)]
  refine ⟨in_zI (by omega) (by omega), in_zI (by omega) (by omega), in_zI (by omega) (by omega), in_zI (by omega) (by omega), in_zI (by omega) (by omega), in_zI (by omega) (by omega), ?_⟩
  refine k _ (((((((fr.refl.p rfl).p rfl).p rfl).p rfl).p rfl).p rfl).p rfl) ?_ (fun q hq => ?_) ?_ ?_ ?_ ?_ ?_ ?_
  · rw [g_p_eq]
    iterate 6 rw [g_p_a (by omega)]
    rw [h49, zI_add1]
  · rw [g_p_a (by omega)]
    iterate 6 rw [g_p_k (by omega)]
  all_goals simp [g_p]
def wRl (a k : Nat) : Bool := wF a k || (Nat.beq a 94 || (Nat.beq a 97 || (Nat.beq a 101 || (Nat.beq a 102 || (Nat.beq a 77 && Nat.beq k 49)))))
theorem wRl_ne {a k : Nat} (h1 : a ≠ 93) (h2 : a ≠ 92) (h3 : a ≠ 77) (h4 : a ≠ 94) (h5 : a ≠ 97) (h6 : a ≠ 101) (h7 : a ≠ 102) : wRl a k = false := by
  unfold wRl; rw [wF_ne h1 h2 h3, beq_ne h4, beq_ne h5, beq_ne h6, beq_ne h7, beq_ne h3]; rfl
theorem wF_wRl (a k : Nat) (h : wF a k = true) : wRl a k = true := by unfold wRl; rw [h]; rfl
theorem w94_wRl (a k : Nat) (h : w94 a k = true) : wRl a k = true := by
  unfold w94 at h
  rw [Bool.or_eq_true, Bool.and_eq_true] at h
  rcases h with h | ⟨h1, h2⟩
  · have := Nat.eq_of_beq_eq_true h; subst this; unfold wRl; simp
  · have := Nat.eq_of_beq_eq_true h1; subst this
    have := Nat.eq_of_beq_eq_true h2; subst this; rfl
theorem ct_laysSteps {X : bi_X} {d : Nat} {K : bi_St → Prop} {E : Nat → bi_St → Prop} {s : bi_St} {C R p u v : Nat} {f : Nat → Pol} {S : Sta} {g : Nat → Vw} {tgt : Int32} {D : List (Lp × Bool)} (hj : RC s 0 C R p f S) (hx : RX s p f) (hpl : ∀ i, i < p → plen (f i).2.2.2.1 ≤ 700) (hgl : ∀ w, w < v → (g w).2.2.2.2.length ≤ 700) (hDl : ∀ (i : Nat) (x : Lp × Bool), D[i]? = some x → x.1.length ≤ 700) (hv : VR s C v g) (hg : vok g v) (hD : DR s C D) (hD5 : D.length ≤ 5) (hu : u < 6) (htgt : tok v 3 tgt)
    (k : ∀ t, fr wRl s t → RQ t (RS t C) (lay0 p f S g u tgt D) → st_g t 77 49 = zI (lay0 p f S g u tgt D).length → st_g t 97 7 = zI (tasF (chn g 3 tgt u) u) → K t) : cV X (d + 3) 232 [.ref 77, .int (zI u), .int tgt, .int (zI D.length)] s K E := by
  have hv3 := hg.1
  have hcl := chn_len (g := g) 3 tgt u
  obtain ⟨c, hc⟩ : ∃ c, c = chn g 3 tgt u := ⟨_, rfl⟩
  obtain ⟨m, hm⟩ : ∃ m, m = (chn g 3 tgt u).length := ⟨_, rfl⟩
  obtain ⟨tas, htas⟩ : ∃ tas, tas = tasF (chn g 3 tgt u) u := ⟨_, rfl⟩
  have htas6 : tas < 6 := by rw [htas]; exact tasF_lt hg 3 tgt u htgt hu
  obtain ⟨L0, hL0⟩ : ∃ L0, L0 = lay0 p f S g u tgt D := ⟨_, rfl⟩
  have hlen : L0.length = 1 + m + D.length := by rw [hL0, lay0_len, hm]
  rw [← hL0, ← htas] at k
  have vr : ∀ t, fr wRl s t → VR t C v g := fun t ht => VR_fr (ht.g rfl) (fun k => ht.g (wRl_ne (by omega) (by omega) (by omega) (by omega) (by omega) (by omega) (by omega))) (fun k => ht.g (wRl_ne (by omega) (by omega) (by omega) (by omega) (by omega) (by omega) (by omega))) hv
  have rcx : ∀ t, fr wRl s t → RC t 0 C R p f S := fun t ht => RC_W ht rfl rfl (fun k => wRl_ne (by omega) (by omega) (by omega) (by omega) (by omega) (by omega) (by omega)) (fun k => wRl_ne (by omega) (by omega) (by omega) (by omega) (by omega) (by omega) (by omega)) (fun k _ => wRl_ne (by omega) (by omega) (by omega) (by omega) (by omega) (by omega) (by omega)) hj
  have dr : ∀ t, fr wRl s t → DR t C D := fun t ht => DR_fr (fun a k h => ht.g (by rcases h with rfl | rfl | rfl | rfl <;> exact wRl_ne (by omega) (by omega) (by omega) (by omega) (by omega) (by omega) (by omega))) hD
  have rsx : ∀ (t t' : bi_St) v x, fr w94 t t' → RS t C v x → RS t' C v x := fun t t' v x ht h => RS_fr (fun k => ht.g rfl) (fun k => ht.g rfl) (fun k => ht.g rfl) h
  have RPs : ∀ (t t' : bi_St) n, fr w94 t t' → (∀ q, q < 6 * n → st_g t' 94 q = st_g t 94 q) → (∀ j x, j < n → L0[j]? = some x → RS t C (fun k => st_g t 94 (6 * j + k)) x) → ∀ j x, j < n → L0[j]? = some x → RS t' C (fun k => st_g t' 94 (6 * j + k)) x := fun t t' n ht h94 h j x hjn hjx => (RS_ok t' C).1 _ _ x (fun k hk => (h94 _ (by omega)).symm) (rsx _ _ _ _ ht (h j x hjn hjx))
  have conds : ∀ e i (t : bi_St), e = D.length - i → i ≤ D.length → fr wRl s t → st_g t 77 49 = zI (1 + m + i) → st_g t 97 7 = zI tas → (∀ j x, j < 1 + m + i → L0[j]? = some x → RS t C (fun k => st_g t 94 (6 * j + k)) x) → at_X12_laysSteps_199 X (d + 3) K E t (zI u) (zI D.length) (zI i) := by
    intro e
    induction e with
    | zero =>
      intro i t he hi ht a49 a7 hr
      have : i = D.length := by omega
      subst this
      exact go_X12_laysSteps_199 ⟨fun _ => k t ht (fun j x hjx => hr j x (by have := (List.getElem?_eq_some_iff.mp hjx).1; omega) hjx) (by rw [a49, hlen]) a7, fun z => absurd ((zI_le (by omega) (by omega)).mpr (Nat.le_refl _)) z⟩
    | succ e ih =>
      intro i t he hi ht a49 a7 hr
      have hDi : D[i]? = some D[i] := List.getElem?_eq_getElem (by omega)
      obtain ⟨d1, d2, d3⟩ := dr t ht i _ hDi
      have hin : bi_in (zI i) 5 = true := in_zI (by omega) (by omega)
      refine go_X12_laysSteps_199 ⟨fun z => ?_, fun _ => ⟨hin, hin, hin, ct_laysStep (n := 1 + m + i) (by omega) a49 (fun t2 ht2 b49 b94 b0 b1 b2 b3 b4 b5 => ?_)⟩⟩
      · rw [zI_le (by omega) (by omega)] at z; omega
      · rw [zI_nat (by omega)] at b2 b3 b5
        rw [zI_add1]
        refine ih (i + 1) t2 (by omega) (by omega) (ht.trans (ht2.mono w94_wRl)) b49 (by rw [ht2.g rfl]; exact a7) (fun j x hjn hjx => ?_)
        by_cases hje : j = 1 + m + i
        · subst hje
          rw [hL0] at hjx
          unfold lay0 at hjx
          rw [show 1 + m + i = m + i + 1 by omega, List.getElem?_cons_succ, List.getElem?_append_right (by rw [List.length_map, List.length_reverse]; omega), List.length_map, List.length_reverse, ← hm, mkDs_get, show m + i - m = i by omega, hDi] at hjx
          injection hjx with hjx
          rw [← hjx, Nat.zero_add]
          have hdl := hDl i _ hDi
          refine ⟨Nat.le_refl 2, ?_, hu, b0, b1, ?_, ?_, b4, fun h => absurd (show (2 : Nat) = 1 from h) (by decide), fun _ => rfl, fun h => absurd (show (2 : Nat) = 1 from h) (by decide), fun _ => ⟨_, rfl, ?_⟩⟩
          · show (D[i]).1.length < _; omega
          · show st_g t2 94 _ = _; rw [b2]; exact d2
          · show st_g t2 94 _ = _; rw [b3]; exact d3
          · show rco t2 88 C (st_g t2 94 _) _
            rw [b5]; exact rco_fr (fun k => ht2.g rfl) d1
        · exact RPs t t2 (1 + m + i) ht2 b94 hr j x (by omega) hjx
  have whs : ∀ e (t : bi_St), e ≤ m → fr wRl s t → (∀ j x, j < m → c[j]? = some x → st_g t 101 j = zI x.1 ∧ st_g t 102 j = zI x.2 ∧ x.1 < v ∧ x.2 < 6) → st_g t 77 49 = zI (1 + (m - e)) → st_g t 97 7 = zI tas → (∀ j x, j < 1 + (m - e) → L0[j]? = some x → RS t C (fun k => st_g t 94 (6 * j + k)) x) → at_X12_laysSteps_115 X (d + 3) K E t (zI u) (zI D.length) (zI e - 1) := by
    intro e
    induction e with
    | zero =>
      intro t he ht hch a49 a7 hr
      refine go_X12_laysSteps_115 ⟨fun _ => conds D.length 0 t (by omega) (by omega) ht (by rw [a49]; rfl) a7 (fun j x hjn hjx => hr j x (by omega) hjx), fun z => absurd (by decide) z⟩
    | succ e ih =>
      intro t he ht hch a49 a7 hr
      rw [zI_sub1 (by omega), show e + 1 - 1 = e by omega]
      obtain ⟨ce, hce⟩ : ∃ ce, c[e]? = some ce := ⟨_, List.getElem?_eq_getElem (by rw [hc, ← hm]; omega)⟩
      obtain ⟨w1, w2, w3, w4⟩ := hch e _ (by omega) hce
      obtain ⟨g1, g2, g3, g4, g5, g6⟩ := (vr t ht).2 _ w3
      have hin : bi_in (zI e) 3 = true := in_zI (by omega) (by omega)
      have e0 : (6 : Int32) * zI ce.1 = zI (6 * ce.1) := zI_mul 6 _
      have e3 : zI (6 * ce.1) + 3 = zI (6 * ce.1 + 3) := zI_add _ 3
      have e4 : zI (6 * ce.1) + 4 = zI (6 * ce.1 + 4) := zI_add _ 4
      have e5 : zI (6 * ce.1) + 5 = zI (6 * ce.1 + 5) := zI_add _ 5
      refine go_X12_laysSteps_115 ⟨fun z => absurd z (zI_nn (by omega)), fun _ => ?_⟩
      rw [zI_nat (by omega), w1, w2, e0, e3, e4, e5, zI_nat (a := 6 * ce.1 + 3) (by omega), zI_nat (a := 6 * ce.1 + 4) (by omega), zI_nat (a := 6 * ce.1 + 5) (by omega), g5, g6]
      refine ⟨hin, hin, in_zI (by omega) (by omega), hin, in_zI (by omega) (by omega), hin, hin, in_zI (by omega) (by omega), ct_laysStep (n := 1 + (m - (e + 1))) (by omega) a49 (fun t2 ht2 b49 b94 b0 b1 b2 b3 b4 b5 => ?_)⟩
      rw [show zI e + (-1 : Int32) = zI e - 1 from (Int32.sub_eq_add_neg _ _).symm]
      refine ih t2 (by omega) (ht.trans (ht2.mono w94_wRl)) (fun j x hjm hjx => ?_) (by rw [b49]; congr 1; omega) (by rw [ht2.g rfl]; exact a7) (fun j x hjn hjx => ?_)
      · rw [ht2.g rfl, ht2.g rfl]; exact hch j x hjm hjx
      · by_cases hje : j = 1 + (m - (e + 1))
        · subst hje
          rw [hL0] at hjx
          unfold lay0 at hjx
          rw [show 1 + (m - (e + 1)) = m - (e + 1) + 1 by omega, List.getElem?_cons_succ, List.getElem?_append_left (by rw [List.length_map, List.length_reverse]; omega), List.getElem?_map, List.getElem?_reverse (by omega), ← hm, show m - 1 - (m - (e + 1)) = e by omega, ← hc, hce] at hjx
          injection hjx with hjx
          rw [← hjx]
          have hdl := hgl _ w3
          refine ⟨(by decide : (1 : Nat) ≤ 2), ?_, w4, b0, b1, b2, b3, b4, fun _ => ⟨_, (by omega : ce.1 < 3), b1, ?_⟩, fun h => absurd rfl h, fun _ => ⟨_, rfl, ?_⟩, fun h => absurd (show (1 : Nat) = 2 from h) (by decide)⟩
          · show (g ce.1).2.2.2.2.length < _; omega
          · rw [ht2.g rfl]; exact g2
          · show rco t2 87 C (st_g t2 94 _) _
            rw [b5]; exact rco_fr (fun k => ht2.g rfl) g4
        · exact RPs t t2 (1 + (m - (e + 1))) ht2 b94 hr j x (by omega) hjx
  have coll : ∀ n kk tgt' as (t : bi_St), n + kk = 3 → tok v n tgt' → as < 6 → c.drop kk = chn g n tgt' as → kk ≤ m → tasF (chn g n tgt' as) as = tas → fr wRl s t → (∀ j x, j < kk → c[j]? = some x → st_g t 101 j = zI x.1 ∧ st_g t 102 j = zI x.2 ∧ x.1 < v ∧ x.2 < 6) → at_X12_laysSteps_9 X (d + 3) K E t (zI u) (zI D.length) (zI kk) (zI as) tgt' := by
    have stop : ∀ n kk as (t : bi_St), n + kk = 3 → as < 6 → c.drop kk = [] → kk ≤ m → as = tas → fr wRl s t → (∀ j x, j < kk → c[j]? = some x → st_g t 101 j = zI x.1 ∧ st_g t 102 j = zI x.2 ∧ x.1 < v ∧ x.2 < 6) → at_X12_laysSteps_9 X (d + 3) K E t (zI u) (zI D.length) (zI kk) (zI as) (-1) := by
      intro n kk as t hnk has hd hk hta ht hch
      have hkm : kk = m := by
        have := congrArg List.length hd
        rw [List.length_drop, hc, ← hm] at this
        have h0 : ([] : List (Nat × Nat)).length = 0 := rfl
        omega
      subst hkm hta
      refine go_X12_laysSteps_9 ⟨fun _ => ?_, fun z => absurd rfl z⟩
      have f1 : fr wRl s (st_p t 77 49 (0 : Int32)) := ht.p rfl
      have g49 : st_g (st_p t 77 49 (0 : Int32)) 77 49 = zI 0 := g_p_eq _ _ _ _
      have gch : ∀ a q, a = 101 ∨ a = 102 → st_g (st_p t 77 49 (0 : Int32)) a q = st_g t a q := fun a q h => g_p_a (by omega)
      generalize st_p t 77 49 (0 : Int32) = t1 at f1 g49 gch
      refine ct_policyCostR (rcx _ f1) (fun i hi => by rw [f1.g (wRl_ne (by omega) (by omega) (by omega) (by omega) (by omega) (by omega) (by omega)), f1.g (wRl_ne (by omega) (by omega) (by omega) (by omega) (by omega) (by omega) (by omega))]; exact hx i hi) hpl has (fun t2 ht2 => ?_)
      have f2 : fr wRl s t2 := f1.trans (ht2.mono wF_wRl)
      refine ct_laysStep (n := 0) (by omega) (by rw [ht2.g rfl]; exact g49) (fun t3 ht3 b49 b94 b0 b1 b2 b3 b4 b5 => ⟨rfl, ?_⟩)
      have f3 : fr wRl s t3 := f2.trans (ht3.mono w94_wRl)
      refine whs kk _ (by omega) (f3.p rfl) (fun j x hjm hjx => ?_) (by rw [g_p_a (by omega), b49]; congr 1; omega) (g_p_eq _ _ _ _) (fun j x hjn hjx => ?_)
      · rw [g_p_a (by omega), g_p_a (by omega), ht3.g rfl, ht3.g rfl, ht2.g (wF_ne (by omega) (by omega) (by omega)), ht2.g (wF_ne (by omega) (by omega) (by omega)), gch _ _ (by omega), gch _ _ (by omega)]
        exact hch j x hjm hjx
      · have hj0 : j = 0 := by omega
        subst hj0
        rw [hL0] at hjx
        unfold lay0 at hjx
        rw [List.getElem?_cons_zero] at hjx
        injection hjx with hjx
        rw [← hjx, ← htas]
        have hcl0 : pcost p f (clo S.1 (s1 as)) S.2.1 < 6000 := pcost_lt hj.1.2.1 hpl
        have g94 : ∀ q v, st_g (st_p t3 97 ((7 : Int32)).toNatClampNeg v) 94 q = st_g t3 94 q := fun q v => g_p_a (by omega)
        refine ⟨(by decide : (0 : Nat) ≤ 2), ?_, has, ?_, ?_, ?_, ?_, ?_, fun h => absurd (show (0 : Nat) = 1 from h) (by decide), fun _ => rfl, fun h => absurd (show (0 : Nat) = 1 from h) (by decide), fun h => absurd (show (0 : Nat) = 2 from h) (by decide)⟩
        · show pcost _ _ _ _ < _; omega
        · show st_g (st_p t3 97 _ _) 94 _ = _; rw [g94]; exact b0
        · show st_g (st_p t3 97 _ _) 94 _ = _; rw [g94]; exact b1
        · show st_g (st_p t3 97 _ _) 94 _ = _; rw [g94]; exact b2
        · show st_g (st_p t3 97 _ _) 94 _ = _; rw [g94]; exact b3
        · show st_g (st_p t3 97 _ _) 94 _ = _; rw [g94]; exact b4
    intro n
    induction n with
    | zero =>
      intro kk tgt' as t hnk ht has hd hk hta hf hch
      rcases ht with h | ⟨w, h1, -⟩
      · subst h; exact stop 0 kk as t hnk has hd hk hta hf hch
      · omega
    | succ n ih =>
      intro kk tgt' as t hnk ht has hd hk hta hf hch
      rcases ht with h | ⟨w, h1, h2, h3⟩
      · subst h
        rw [chn_m1] at hd hta
        exact stop (n + 1) kk as t hnk has hd hk hta hf hch
      · subst h3
        rw [chn_c (by omega)] at hd hta
        rw [tasF] at hta
        obtain ⟨hce, hd', hkl⟩ := drop_cons hd.symm
        rw [hc, ← hm] at hkl
        obtain ⟨g1, g2, g3, g4, g5, g6⟩ := (vr t hf).2 w h2
        have e0 : (6 : Int32) * zI w = zI (6 * w) := zI_mul 6 w
        have e2 : zI (6 * w) + 2 = zI (6 * w + 2) := zI_add _ 2
        have hin3 : bi_in (zI kk) 3 = true := in_zI (by omega) (by omega)
        have go : ∀ av, av = asOf g w as → at_X12_laysSteps_41 X (d + 3) K E t (zI u) (zI D.length) (zI kk) (zI av) (zI w) := by
          intro av hav
          have hav6 : av < 6 := by rw [hav]; exact asOf_lt hg h2 has
          refine go_X12_laysSteps_41 ?_
          rw [e0, e2, zI_nat (a := kk) (by omega), zI_nat (a := 6 * w + 2) (by omega), g_p_a (by omega), g_p_a (by omega), g3, zI_add1]
          subst hav
          refine ⟨hin3, hin3, in_zI (by omega) (by omega), ih (kk + 1) _ _ _ (by omega) (tok_of hg h2 h1) hav6 hd'.symm (by omega) hta ((hf.p rfl).p rfl) (fun j x hjk hjx => ?_)⟩
          by_cases hje : j = kk
          · subst hje
            rw [hce] at hjx
            injection hjx with hjx
            subst hjx
            rw [g_p_a (by omega), g_p_eq, g_p_eq]; exact ⟨rfl, rfl, h2, hav6⟩
          · rw [g_p_a (by omega), g_p_k hje, g_p_k hje, g_p_a (by omega)]; exact hch j x (by omega) hjx
        refine go_X12_laysSteps_9 ⟨fun z => absurd z (zI_m1 (by omega)), fun _ => ?_⟩
        rw [e0, zI_nat (a := 6 * w) (by omega), g1]
        refine ⟨in_zI (by omega) (by omega), fun ho => go as (by unfold asOf; rw [if_pos ho]), fun ho => ⟨in_zI (by omega) (by omega), ?_⟩⟩
        rcases (hg.2 w h2).1 with h | ⟨r, hr1, hr2⟩
        · exact absurd h ho
        · have hav : asOf g w as = r := by unfold asOf; rw [if_neg ho, hr2, zI_nat (by omega)]
          rw [hr2]
          exact go r hav.symm
  exact en_X12_laysSteps (coll 3 0 tgt u s (by omega) htgt hu (by rw [hc]; rfl) (by omega) htas.symm fr.refl (fun j x hj' => by omega))
end RLAY
