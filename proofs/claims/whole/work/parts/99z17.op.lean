/-! ===== calls: what both sides owe ===== -/
section OP
def nIn (x : Int32) (n : Nat) : Bool := !(decide (x < 0)) && decide (x < zI n)
def nX (x : Int32) : Nat := x.toNatClampNeg
theorem nIn_y {x : Int32} {n : Nat} (hn : n < 2147483648) (h : nIn x n = true) : ∃ i, i < n ∧ x = zI i ∧ nX x = i := by
  unfold nIn at h
  simp only [Bool.and_eq_true, Bool.not_eq_true', decide_eq_false_iff_not, decide_eq_true_eq] at h
  obtain ⟨i, h1, h2⟩ := zI_of h.1
  subst h2
  exact ⟨i, (zI_lt h1 hn).mp h.2, rfl, zI_nat h1⟩
theorem nIn_zI {i n : Nat} (hn : n < 2147483648) (h : i < n) : nIn (zI i) n = true := by
  unfold nIn
  rw [decide_eq_false (zI_nn (by omega)), decide_eq_true ((zI_lt (by omega) hn).mpr h)]; rfl
theorem nIn_no {x : Int32} {n : Nat} (hn : n < 2147483648) (h : ∀ i, i < n → ¬ x = zI i) : nIn x n = false := by
  cases hx : nIn x n
  · rfl
  · obtain ⟨i, h1, h2, _⟩ := nIn_y hn hx
    exact absurd h2 (h i h1)
theorem nX_zI {i : Nat} (h : i < 2147483648) : nX (zI i) = i := zI_nat h
/-- a throw (its kind, the law's number for it), or an answer and what is then -/
abbrev Ou : Type := (Nat × Nat) ⊕ (Int32 × Ms6)
/-- the class went on, n exceptions were made -/
def fcl (n : Nat) (s t : bi_St) : Prop := (t.1.1 = s.1.1 + n ∧ t.1.2 = s.1.2 + 6 * n) ∧ (∀ c k, 77 ≤ c → st_g t c k = st_g s c k) ∧ ∀ k, st_gl t 112 k = st_gl s 112 k
/-- the reference went on -/
def frr (s t : bi_St) : Prop := t.1 = s.1 ∧ (∀ c k, c < 77 → st_g t c k = st_g s c k) ∧ (∀ i, st_gp t i = st_gp s i) ∧ ∀ k, st_gl t 112 k = st_gl s 112 k
def CtC (X : bi_X) (d j : Nat) (as : List Value) (s : bi_St) (M : Ms6) (o : Ou) : Prop := ∀ (K : Int32 → bi_St → Prop) (E : Nat → bi_St → Prop), (∀ v M' t b b' a a', o = .inr (v, M') → fcl 0 s t → RCl t b b' a a' M' → K v t) → (∀ e c t b b' a a', o = .inl (e, c) → fcl 1 s t → RCl t b b' a a' M → E e t) → cI X d j as s K E
def CtR (X : bi_X) (d j : Nat) (as : List Value) (s : bi_St) (M : Ms6) (o : Ou) : Prop := ∀ (K : Int32 → bi_St → Prop), (∀ v M' t, o = .inr (v, M') → frr s t → st_g t 77 0 = 0 → RRf t M' → K v t) → (∀ e c v t, o = .inl (e, c) → frr s t → st_g t 77 0 = zI c → RRf t M → K v t) → cI X d j as s K (fun _ _ => False)
/-- scratch of the class -/
def fsc (s t : bi_St) : Prop := t.1 = s.1 ∧ (∀ c k, (c < 57 ∨ 64 < c) → st_g t c k = st_g s c k) ∧ (∀ i, i ≠ 7 → i ≠ 8 → st_gp t i = st_gp s i) ∧ ∀ k, st_gl t 112 k = st_gl s 112 k
theorem fsc.refl {s : bi_St} : fsc s s := ⟨rfl, fun _ _ _ => rfl, fun _ _ _ => rfl, fun _ => rfl⟩
theorem fsc.trans {s t u : bi_St} (h : fsc s t) (k : fsc t u) : fsc s u := ⟨k.1.trans h.1, fun c q hc => (k.2.1 c q hc).trans (h.2.1 c q hc), fun i h1 h2 => (k.2.2.1 i h1 h2).trans (h.2.2.1 i h1 h2), fun q => (k.2.2.2 q).trans (h.2.2.2 q)⟩
theorem fsc.f {V : Nat → Nat → Bool} {s t u : bi_St} (h : fsc s t) (k : fr V t u) (hv : ∀ c q, (c < 57 ∨ 64 < c) → V c q = false) : fsc s u := h.trans ⟨k.1, fun c q hc => k.g (hv c q hc), fun i _ _ => k.2.1 i, fun q => k.2.2.2 112 q (Or.inl (hv 112 q (by omega)))⟩
theorem RCl_sc {s t : bi_St} {b b' a a' : Nat} {M : Ms6} (ho : okM M) (h : RCl s b b' a a' M) (k : fsc s t) : RCl t b b' a a' M :=
  RCl_keep ho h (fun c q hh => k.2.1 c q (by
    have hb := isB_r h.1.2.1.1; have hb' := isB_r h.1.2.1.2.1; have ha := h.1.2.2.1
    unfold impC at hh; omega)) (fun i hi => k.2.2.1 i (by omega) (by omega))
theorem RCl_ex {s : bi_St} {b b' a a' : Nat} {M : Ms6} (ho : okM M) (h : RCl s b b' a a' M) : RCl (st_ex s) b b' a a' M := RCl_lo ho h (fun _ _ _ => rfl) (fun _ => rfl)
theorem fcl_sc {s t : bi_St} (k : fsc s t) : fcl 0 s t := ⟨by rw [k.1]; exact ⟨rfl, rfl⟩, fun c q hc => k.2.1 c q (by omega), k.2.2.2⟩
theorem fcl_ex {s t : bi_St} (k : fsc s t) : fcl 1 s (st_ex t) := by
  refine ⟨?_, fun c q hc => k.2.1 c q (by omega), k.2.2.2⟩
  show t.1.1 + 1 = s.1.1 + 1 ∧ t.1.2 + 6 = s.1.2 + 6 * 1
  rw [k.1]; exact ⟨rfl, rfl⟩
theorem ct_need {X : bi_X} {d : Nat} {K : bi_St → Prop} {E : Nat → bi_St → Prop} {s : bi_St} {x y : Int32} {n : Nat} (hy : y = zI n) (kY : nIn x n = true → K s) (kN : nIn x n = false → E 100 (st_ex s)) : cV X d 159 [.int x, .int y] s K E := by
  subst hy
  unfold nIn at kY kN
  refine en_X11_needOneOf ⟨fun h => kN ?_, fun h => ⟨fun h2 => kY ?_, fun h2 => kN ?_⟩⟩
  · rw [decide_eq_true h]; rfl
  · rw [decide_eq_false h, decide_eq_true h2]; rfl
  · rw [decide_eq_false h2, Bool.and_false]
section NEEDS
variable {X : bi_X} {d : Nat} {K : bi_St → Prop} {E : Nat → bi_St → Prop} {s : bi_St} {b b' a a' : Nat} {M : Ms6} {x : Int32}
theorem ct_needRole (h : RCl s b b' a a' M) (kY : nIn x M.2.1.2.1 = true → K s) (kN : nIn x M.2.1.2.1 = false → E 100 (st_ex s)) : cV X (d + 1) 154 [.ref 0, .int x] s K E :=
  en_X11_needRole (by rw [h.1.1.1]; exact ⟨h.1.2.1.1, ct_need h.2.2.2.1.2.2.2.2 kY kN⟩)
theorem ct_needView (h : RCl s b b' a a' M) (kY : nIn x M.2.1.2.2.2.2.1 = true → K s) (kN : nIn x M.2.1.2.2.2.2.1 = false → E 100 (st_ex s)) : cV X (d + 1) 155 [.ref 0, .int x] s K E :=
  en_X11_needView (by rw [h.1.1.1]; exact ⟨h.1.2.1.1, ct_need h.2.2.2.1.2.2.1.1 kY kN⟩)
theorem ct_needPolicy (h : RCl s b b' a a' M) (kY : nIn x M.2.1.2.2.1 = true → K s) (kN : nIn x M.2.1.2.2.1 = false → E 100 (st_ex s)) : cV X (d + 1) 156 [.ref 0, .int x] s K E :=
  en_X11_needPolicy (by rw [h.1.1.1]; exact ⟨h.1.2.1.1, ct_need h.2.2.2.1.1.2.2.2.1 kY kN⟩)
theorem ct_needRow (h : RCl s b b' a a' M) (kY : nIn x M.2.2.1.1.2.2.1 = true → K s) (kN : nIn x M.2.2.1.1.2.2.1 = false → E 100 (st_ex s)) : cV X (d + 1) 157 [.ref 0, .int x] s K E :=
  en_X11_needRow (by rw [h.1.1.2.2.1]; exact ⟨isS_31 h.1.2.2.1, ct_need h.2.2.2.2.1.1.2.2.2.1.2.2.1 kY kN⟩)
theorem ct_needColumn (h : RCl s b b' a a' M) (kY : nIn x M.2.1.1 = true → K s) (kN : nIn x M.2.1.1 = false → E 100 (st_ex s)) : cV X (d + 1) 158 [.ref 0, .int x] s K E :=
  en_X11_needColumn (by rw [h.1.1.1]; exact ⟨h.1.2.1.1, ct_need h.2.2.2.1.2.2.2.1 kY kN⟩)
/-- the judge sits -/
theorem ct_sitJ (ho : okM M) (h : RCl s b b' a a' M) (k : ∀ t, fsc s t → JC t b a M.2.1.1 M.2.1.2.1 M.2.1.2.2.1 M.2.1.2.2.2.1 M.2.2.1.1 → K t) : cV X (d + 2) 24 [.ref 57, .ref b, .ref a] s K E := by
  have hb := h.1.2.1.1
  have ha := isS_31 h.1.2.2.1
  have hbr := isB_r hb
  have har := h.1.2.2.1
  obtain ⟨hBC, _, _, _, hR⟩ := h.2.2.2.1
  have hSC := h.2.2.2.2.1.1.2.2.2.1
  refine ct_sit hb ha (fun t ht h58 => ?_)
  have g : ∀ c q, c ≠ 58 → st_g t c q = st_g s c q := fun c q hc => by rw [ht.g (beq_ne hc)]; rfl
  refine k t ⟨ht.1, fun c q hc => g c q (by omega), fun i h1 h2 => by rw [ht.2.1, gp_pp, if_neg h2, gp_pp, if_neg h1], fun q => by rw [ht.2.2.2 112 q (Or.inl rfl)]; rfl⟩ ⟨BC_fr (fun c q h1 h2 => g _ _ (by omega)) hBC, by rw [ht.2.1, gp_pp, if_neg (by omega), gp_pp, if_pos rfl], by rw [ht.2.1, gp_pp, if_pos rfl], SC_fr (fun c q h1 h2 => g _ _ (by omega)) hSC, by rw [g _ _ (by omega)]; exact hR, ho.1.2.1, fun u hu => ?_⟩
  rw [h58 u hu]
  exact clo_congr (fun r hr => hSC.2.2.2.2.1 r hr) _
end NEEDS
/-- scratch of the reference -/
def fsr (s t : bi_St) : Prop := frr s t ∧ ∀ c k, (impR c k ∨ impS c k ∨ c = 79) → st_g t c k = st_g s c k
theorem fsr.refl {s : bi_St} : fsr s s := ⟨⟨rfl, fun _ _ _ => rfl, fun _ => rfl, fun _ => rfl⟩, fun _ _ _ => rfl⟩
theorem frr.trans {s t u : bi_St} (h : frr s t) (k : frr t u) : frr s u := ⟨k.1.trans h.1, fun c q hc => (k.2.1 c q hc).trans (h.2.1 c q hc), fun i => (k.2.2.1 i).trans (h.2.2.1 i), fun q => (k.2.2.2 q).trans (h.2.2.2 q)⟩
theorem fsr.trans {s t u : bi_St} (h : fsr s t) (k : fsr t u) : fsr s u := ⟨h.1.trans k.1, fun c q hc => (k.2 c q hc).trans (h.2 c q hc)⟩
theorem fsr.f {V : Nat → Nat → Bool} {s t u : bi_St} (h : fsr s t) (k : fr V t u) (hv : ∀ c q, (c < 77 ∨ impR c q ∨ impS c q ∨ c = 79 ∨ c = 112) → V c q = false) : fsr s u :=
  h.trans ⟨⟨k.1, fun c q hc => k.g (hv c q (Or.inl hc)), fun i => k.2.1 i, fun q => k.2.2.2 112 q (Or.inl (hv 112 q (by omega)))⟩, fun c q hc => k.g (hv c q (by rcases hc with h | h | h; exact Or.inr (Or.inl h); exact Or.inr (Or.inr (Or.inl h)); exact Or.inr (Or.inr (Or.inr (Or.inl h)))))⟩
theorem fsr.p {s t : bi_St} {c k : Nat} {v : Int32} (h : fsr s t) (hc : 77 ≤ c) (hi : ¬ (impR c k ∨ impS c k ∨ c = 79)) : fsr s (st_p t c k v) := by
  refine h.trans ⟨⟨rfl, fun c' q hc' => g_p_a (by omega), fun _ => rfl, fun _ => rfl⟩, fun c' q hh => ?_⟩
  rw [g_p]
  by_cases he : c' = c ∧ q = k
  · rw [he.1, he.2] at hh; exact absurd hh hi
  · rw [if_neg he]
theorem fsr_0 {s : bi_St} {v : Int32} : fsr s (st_p s 77 0 v) := fsr.refl.p (by omega) (by unfold impR impS; omega)
theorem RRf_sr {s t : bi_St} {M : Ms6} (ho : okM M) (h : RRf s M) (k : fsr s t) : RRf t M := RRf_keep ho h k.2
theorem RC_of {s : bi_St} {M : Ms6} (ho : okM M) (h : RRf s M) : RC s 0 M.2.1.1 M.2.1.2.1 M.2.1.2.2.1 M.2.1.2.2.2.1 M.2.2.1.1 := ⟨h.2.1.1, h.2.2.1.1, ho.2.1.1.1, h.2.1.2.2.2.2⟩
section RIGHT
variable {X : bi_X} {d : Nat} {K : Int32 → bi_St → Prop} {E : Nat → bi_St → Prop} {s : bi_St} {x : Int32}
theorem ct_isRole {n : Nat} (h0 : st_g s 77 0 = 0) (h27 : st_g s 77 27 = zI n) (kY : nIn x n = true → K 1 s) (kN : nIn x n = false → K 0 (st_p s 77 0 1)) : cI X (d + 1) 222 [.ref 77, .int x] s K E := by
  unfold nIn at kY kN
  refine en_X12_isRole ?_
  rw [h27]
  refine ⟨fun h => ct_rightN h0 (by decide) ⟨rfl, kN (by rw [decide_eq_true h]; rfl)⟩, fun h => ⟨fun h2 => ct_rightN h0 (by decide) ⟨rfl, kN ?_⟩, fun h2 => ct_rightY h0 ⟨rfl, kY ?_⟩⟩⟩
  · rw [decide_eq_false (fun z => absurd (Int32.lt_of_lt_of_le z h2) (Int32.lt_irrefl)), Bool.and_false]
  · rw [decide_eq_false h, decide_eq_true (Int32.not_le.mp h2)]; rfl
theorem ct_isRow {n : Nat} (h0 : st_g s 77 0 = 0) (h7 : st_g s 90 7 = zI n) (kY : nIn x n = true → K 1 s) (kN : nIn x n = false → K 0 (st_p s 77 0 1)) : cI X (d + 1) 223 [.ref 77, .int x] s K E := by
  unfold nIn at kY kN
  refine en_X12_isRow ?_
  rw [show ((7 : Int32)).toNatClampNeg = 7 from rfl, h7]
  refine ⟨fun h => ct_rightN h0 (by decide) ⟨rfl, kN (by rw [decide_eq_true h]; rfl)⟩, fun h => ⟨rfl, fun h2 => ct_rightN h0 (by decide) ⟨rfl, kN ?_⟩, fun h2 => ct_rightY h0 ⟨rfl, kY ?_⟩⟩⟩
  · rw [decide_eq_false (fun z => absurd (Int32.lt_of_lt_of_le z h2) (Int32.lt_irrefl)), Bool.and_false]
  · rw [decide_eq_false h, decide_eq_true (Int32.not_le.mp h2)]; rfl
theorem ct_withinR {n : Nat} (hn : n + 1 < 2147483648) (k : K (b2i (nIn x (n + 1))) s) : cI X d 164 [.int x, .int (0 : Int32), .int (zI n)] s K E := by
  unfold nIn at k
  refine en_X12_within ⟨fun h => ?_, fun h => ⟨fun h2 => ?_, fun h2 => ?_⟩⟩
  · rw [decide_eq_true h] at k; exact k
  · obtain ⟨i, h1, h3⟩ := zI_of h
    subst h3
    have := (zI_lt (by omega) h1).mp h2
    have h4 : ¬ zI i < zI (n + 1) := fun z => by have := (zI_lt h1 hn).mp z; omega
    rw [decide_eq_false h4, Bool.and_false] at k; exact k
  · obtain ⟨i, h1, h3⟩ := zI_of h
    subst h3
    have : ¬ n < i := fun z => h2 ((zI_lt (by omega) h1).mpr z)
    rw [decide_eq_false h, decide_eq_true ((zI_lt h1 hn).mpr (by omega))] at k; exact k
theorem ct_rightB {c : Bool} {n : Nat} (h0 : st_g s 77 0 = 0) (hn : 1 ≤ n ∧ n ≤ 2) (kY : c = true → K 1 s) (kN : c = false → K 0 (st_p s 77 0 (zI n))) : cI X d 163 [.ref 77, .int (b2i c), .int (zI n)] s K E := by
  cases c
  · refine ct_rightN h0 (fun z => ?_) (kN rfl)
    have := (zI_eq (b := 0) (show n < 2147483648 by omega) (by omega)).mp z; omega
  · exact ct_rightY h0 (kY rfl)
theorem ct_isWhat {n : Nat} (hn : n + 1 < 2147483648) (h0 : st_g s 77 0 = 0) (kY : nIn x (n + 1) = true → K 1 s) (kN : nIn x (n + 1) = false → K 0 (st_p s 77 0 1)) : cI X (d + 1) 224 [.ref 77, .int x, .int (zI n)] s K E :=
  en_X12_isWhat (ct_withinR hn (ct_rightB (n := 1) h0 (by omega) (fun z => ⟨rfl, kY z⟩) (fun z => ⟨rfl, kN z⟩)))
end RIGHT
/-- what the law does with the reference's answer -/
def tl (X : bi_X) (d jR : Nat) (asR : List Value) (K0 F : bi_St → Prop) (r3 : Int32) (s3 : bi_St) : Prop := cI X d jR asR s3 (fun (r4 : Int32) (s4 : bi_St) => cI X d 162 [.ref 77] s4 (fun (r5 : Int32) (s5 : bi_St) => ((r5 = r3) → ((¬ r3 = 0) → F s5) ∧ (¬ (¬ r3 = 0) → bi_in (0 : Int32) 1 = true ∧ ((((lg_cmp (st_gl s5 112 ((0 : Int32)).toNatClampNeg) (r4).toInt64) = 0) → F s5) ∧ (¬ ((lg_cmp (st_gl s5 112 ((0 : Int32)).toNatClampNeg) (r4).toInt64) = 0) → K0 s5)))) ∧ (¬ (r5 = r3) → K0 s5)) (fun _ _ => False)) (fun _ _ => False)
theorem gl_out (s : bi_St) (v : Int64) : st_gl (st_pl s 112 0 v) 112 0 = v := by rw [gl_pl, if_pos ⟨rfl, rfl⟩]
theorem tl_val {X : bi_X} {d jR : Nat} {asR : List Value} {K0 F : bi_St → Prop} {s : bi_St} {v : Int32} {M : Ms6} {M' : Ms6} {o : Ou} (ho : o = .inr (v, M')) (hR : CtR X d jR asR (st_pl s 112 0 v.toInt64) M o) (k : ∀ t, frr (st_pl s 112 0 v.toInt64) t → RRf t M' → F t) : tl X d jR asR K0 F 0 (st_pl s 112 0 v.toInt64) := by
  refine hR _ (fun v' M2 t h1 ft t0 hr => en_X12_thrown ?_) (fun e c v' t h1 _ _ _ => by rw [ho] at h1; cases h1)
  have hv : v' = v ∧ M2 = M' := by rw [ho] at h1; injection h1 with h1; injection h1 with h1 h2; exact ⟨h1.symm, h2.symm⟩
  rw [t0]
  refine ⟨fun _ => ⟨fun z => absurd rfl z, fun _ => ⟨rfl, fun _ => k t ft (by rw [← hv.2]; exact hr), fun z => absurd ?_ z⟩⟩, fun z => absurd rfl z⟩
  rw [lg_0, show ((0 : Int32)).toNatClampNeg = 0 from rfl, ft.2.2.2 0, gl_out, hv.1]
theorem tl_thr {X : bi_X} {d jR : Nat} {asR : List Value} {K0 F : bi_St → Prop} {s : bi_St} {e c : Nat} {M : Ms6} {o : Ou} (hc : 1 ≤ c ∧ c ≤ 2) (ho : o = .inl (e, c)) (hR : CtR X d jR asR s M o) (k : ∀ t, frr s t → RRf t M → F t) : tl X d jR asR K0 F (zI c) s := by
  refine hR _ (fun v' M2 t h1 _ _ _ => by rw [ho] at h1; cases h1) (fun e' c' v' t h1 ft t0 hr => en_X12_thrown ?_)
  have hcc : c' = c := by rw [ho] at h1; injection h1 with h1; injection h1 with h1 h2; exact h2.symm
  have hz : ¬ zI c = 0 := fun z => by have := (zI_eq (b := 0) (show c < 2147483648 by omega) (by omega)).mp z; omega
  rw [t0, hcc]
  exact ⟨fun _ => ⟨fun _ => k t ft hr, fun z => absurd hz z⟩, fun z => absurd rfl z⟩
end OP
