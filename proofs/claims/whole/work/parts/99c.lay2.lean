/-! ===== a query's steps are laid, of the class: the whole ===== -/
section LAY2
def plen (P : Option Lp) : Nat := match P with
  | none => 0
  | some P => P.length
def pcost (p : Nat) (f : Nat → Pol) (mine on : Int32) : Nat := 1 + sumN (fun i => if po_of f mine on 0 i then plen (f i).2.2.2.1 else 0) p
/-- costs of the policies' rules, of the class: b their rules -/
def cso (s : bi_St) (b : Nat) (r : Int32) (P : Option Lp) : Prop := ∀ Q n, P = some Q → r = zI n → n < 19 → st_g s (b + 3) n = zI Q.length
def BX (s : bi_St) (b p : Nat) (f : Nat → Pol) : Prop := ∀ i, i < p → cso s (b + 8) (st_g s (b + 3) i) (f i).2.2.2.1 ∧ cso s (b + 8) (st_g s (b + 4) i) (f i).2.2.2.2
theorem BX_fr {s t : bi_St} {b p : Nat} {f : Nat → Pol} (h : ∀ a k, b ≤ a → a ≤ b + 11 → st_g t a k = st_g s a k) (hb : BX s b p f) : BX t b p f := fun i hi => by
  obtain ⟨h1, h2⟩ := hb i hi
  rw [h _ _ (by omega) (by omega), h _ _ (by omega) (by omega)]
  exact ⟨fun Q n a b c => by rw [h _ _ (by omega) (by omega)]; exact h1 Q n a b c, fun Q n a b c => by rw [h _ _ (by omega) (by omega)]; exact h2 Q n a b c⟩
theorem plen_le {s : bi_St} {b C : Nat} {r : Int32} {P : Option Lp} (h : rlo s b C r P) : plen P ≤ 700 := by
  cases P with
  | none => exact Nat.zero_le _
  | some P => obtain ⟨n, -, hr⟩ := h; exact (rl_le hr).1
theorem pcost_lt {p : Nat} {f : Nat → Pol} {mine on : Int32} (hp : p ≤ 8) (h : ∀ i, i < p → plen (f i).2.2.2.1 ≤ 700) : pcost p f mine on < 6000 := by
  have : sumN (fun i => if po_of f mine on 0 i then plen (f i).2.2.2.1 else 0) p ≤ p * 700 := sumN_le (fun i hi => by
    show (if po_of f mine on 0 i then plen (f i).2.2.2.1 else 0) ≤ 700
    by_cases ho : po_of f mine on 0 i = true
    · rw [if_pos ho]; exact h i hi
    · rw [if_neg ho]; omega)
  have : p * 700 ≤ 8 * 700 := Nat.mul_le_mul_right _ hp
  unfold pcost; omega
theorem sumN_s {g : Nat → Nat} {n : Nat} : sumN g (n + 1) = sumN g n + g n := rfl
theorem ct_policyCostC {X : bi_X} {d : Nat} {K : Int32 → bi_St → Prop} {E : Nat → bi_St → Prop} {s : bi_St} {b a C R p u : Nat} {f : Nat → Pol} {S : Sta} (hj : JC s b a C R p f S) (hx : BX s b p f) (hu : u < 6) (k : ∀ t, fr wA s t → K (zI (pcost p f (clo S.1 (s1 u)) S.2.1)) t) : cI X (d + 3) 43 [.ref 57, .int (zI u)] s K E := by
  have hp := hj.1.2.2.1
  have hb := hj.1.1
  have hb19 : b ≤ 19 := by rcases hb with z | z <;> omega
  have hb8 : st_isR (b + 8) := by rcases hb with z | z <;> subst z; exact Or.inr (Or.inl rfl); exact Or.inr (Or.inr rfl)
  refine en_X3_policyCost (ct_become hu (fun t ht t5 t6 _ => ?_))
  have hjt := JC_fr ht hj
  have hS := hjt.2.2.2.1.1
  have hm : st_g t 57 6 = clo S.1 (s1 u) := by rw [t6]; exact hj.2.2.2.2.2.2 u hu
  rw [hjt.2.2.1, hjt.2.2.2.1.2.2.2.1]
  refine ⟨hS, ct_applying (cmd := 0) (on := S.2.1) hjt.1 hjt.2.1 hm (by omega) ?_⟩
  have k := k t ht
  have hxt : BX t b p f := BX_fr (fun a k _ _ => ht.g (wA_ne (by omega) (by omega) (by omega))) hx
  have loop : ∀ m n, m = p - n → n ≤ p → at_X3_policyCost_23 X (d + 3) K E t (bo (po_of f (clo S.1 (s1 u)) S.2.1 0) p) (zI (1 + sumN (fun i => if po_of f (clo S.1 (s1 u)) S.2.1 0 i then plen (f i).2.2.2.1 else 0) n)) (zI n) := by
    intro m
    induction m with
    | zero =>
      intro n hm hn
      have : n = p := by omega
      subst this
      refine go_X3_policyCost_23 ?_
      rw [hjt.2.1, hjt.1.2.2.2.1]
      exact ⟨hb, fun _ => k, fun z => absurd ((zI_le (by omega) (by omega)).mpr (Nat.le_refl _)) z⟩
    | succ m ih =>
      intro n hm hn
      obtain ⟨q1, q2, q3, q4, q5, q6, q7⟩ := hjt.1.2.2.2.2 n (by omega)
      have ih := ih (n + 1) (by omega) (by omega)
      rw [sumN_s] at ih
      refine go_X3_policyCost_23 ?_
      rw [hjt.2.1, hjt.1.2.2.2.1]
      refine ⟨hb, fun z => ?_, fun _ => ⟨hb, in_zI (by omega) (by omega), ct_bit (by omega) ?_⟩⟩
      · rw [zI_le (by omega) (by omega)] at z; omega
      · rw [b2i_eq1, tb_bo (by omega) (by omega), decide_eq_true (show n < p by omega), Bool.true_and, zI_add1, zI_nat (by omega), Int32.add_zero, hjt.2.1]
        refine ⟨fun h => ?_, fun h => ⟨fun h2 => ?_, fun h2 => ⟨hb, ?_⟩⟩⟩
        · rw [if_neg h] at ih; exact ih
        · rw [if_pos (Decidable.of_not_not h)] at ih
          cases hP : (f n).2.2.2.1 with
          | none => rw [hP] at ih; exact ih
          | some P =>
            rw [hP] at q6
            obtain ⟨nn, e1, e2⟩ := q6
            have := rl_le e2
            rw [h2] at e1
            exact absurd e1.symm (zI_m1 (by omega))
        · rw [if_pos (Decidable.of_not_not h)] at ih
          cases hP : (f n).2.2.2.1 with
          | none => rw [hP] at q6; exact absurd q6 h2
          | some P =>
            rw [hP] at q6 ih
            obtain ⟨nn, e1, e2⟩ := q6
            have hlt := rl_le e2
            have hc := (hxt n (by omega)).1 P nn hP e1 hlt.2.1
            rw [e1]
            refine ct_costOf hb8 e2 ?_
            rw [hc, zI_add, show 1 + sumN (fun i => if po_of f (clo S.1 (s1 u)) S.2.1 0 i then plen (f i).2.2.2.1 else 0) n + P.length = 1 + (sumN (fun i => if po_of f (clo S.1 (s1 u)) S.2.1 0 i then plen (f i).2.2.2.1 else 0) n + P.length) by omega]
            exact ih
  exact loop p 0 (by omega) (by omega)
/-- conditions, of the class -/
def DC (s : bi_St) (C : Nat) (D : List (Lp × Bool)) : Prop := D.length ≤ 5 ∧ st_g s 3 5 = zI D.length ∧ ∀ i x, D[i]? = some x → rx s 3 C i x.1 x.2
theorem DC_fr {s t : bi_St} {C : Nat} {D : List (Lp × Bool)} (h : ∀ a k, 3 ≤ a → a ≤ 6 → st_g t a k = st_g s a k) (hd : DC s C D) : DC t C D :=
  ⟨hd.1, by rw [h _ _ (by omega) (by omega)]; exact hd.2.1, fun i x hx => rx_fr (fun a k h1 h2 => h a k h1 h2) (hd.2.2 i x hx)⟩
/-- the steps in their first order -/
def mkDs (u : Nat) : Nat → List (Lp × Bool) → List Sp
  | _, [] => []
  | i, x :: D => mkD u i x :: mkDs u (i + 1) D
theorem mkDs_get {u : Nat} : ∀ (D : List (Lp × Bool)) i j, (mkDs u i D)[j]? = (D[j]?).map (mkD u (i + j)) := by
  intro D
  induction D with
  | nil => intro i j; simp [mkDs]
  | cons x D ih =>
    intro i j
    cases j with
    | zero => simp [mkDs]
    | succ j => rw [mkDs, List.getElem?_cons_succ, ih, List.getElem?_cons_succ]; congr 2; omega
theorem mkDs_len {u : Nat} : ∀ (D : List (Lp × Bool)) i, (mkDs u i D).length = D.length := by
  intro D
  induction D with
  | nil => intro i; rfl
  | cons x D ih => intro i; rw [mkDs, List.length_cons, ih, List.length_cons]
def lay0 (p : Nat) (f : Nat → Pol) (S : Sta) (g : Nat → Vw) (u : Nat) (tgt : Int32) (D : List (Lp × Bool)) : List Sp :=
  (0, -1, pcost p f (clo S.1 (s1 (tasF (chn g 3 tgt u) u))) S.2.1, false, tasF (chn g 3 tgt u) u, none, false) :: ((chn g 3 tgt u).reverse.map (mkV g) ++ mkDs u 0 D)
theorem lay0_len {p : Nat} {f : Nat → Pol} {S : Sta} {g : Nat → Vw} {u : Nat} {tgt : Int32} {D : List (Lp × Bool)} : (lay0 p f S g u tgt D).length = 1 + (chn g 3 tgt u).length + D.length := by
  unfold lay0
  rw [List.length_cons, List.length_append, List.length_map, List.length_reverse, mkDs_len]; omega
theorem ct_lay {X : bi_X} {d : Nat} {K : bi_St → Prop} {E : Nat → bi_St → Prop} {s : bi_St} {b a C R p u v : Nat} {f : Nat → Pol} {S : Sta} {g : Nat → Vw} {tgt : Int32} {D : List (Lp × Bool)} (hj : JC s b a C R p f S) (hx : BX s b p f) (hv : VC s b C v g) (hg : vok g v) (hD : DC s C D) (hu : u < 6) (htgt : tok v 3 tgt)
    (hp1 : ∀ i, i < 9 → st_isp (st_gp s (10 + i))) (hp2 : ∀ i j, i < 9 → j < 9 → st_gp s (10 + i) = st_gp s (10 + j) → i = j)
    (k : ∀ t, fr wLy s t → PQ t (QS t b C) (lay0 p f S g u tgt D) → (∀ i, i < (lay0 p f S g u tgt D).length → st_g t (st_gp t (10 + i)) 7 = 0 ∧ st_g t (st_gp t (10 + i)) 8 = 0) → st_g t 65 1 = 1 → st_g t 65 2 = zI (lay0 p f S g u tgt D).length → st_g t 65 8 = zI (tasF (chn g 3 tgt u) u) → K t) : cV X (d + 4) 40 [.ref 65, .ref 57, .ref 3, .int (zI u), .int tgt] s K E := by
  have hb := hj.1.1
  have hb19 : b ≤ 19 := by rcases hb with z | z <;> omega
  have hR3 : st_isR 3 := Or.inl rfl
  have hcl := chn_len (g := g) 3 tgt u
  obtain ⟨m, hm⟩ : ∃ m, m = (chn g 3 tgt u).length := ⟨_, rfl⟩
  obtain ⟨tas, htas⟩ : ∃ tas, tas = tasF (chn g 3 tgt u) u := ⟨_, rfl⟩
  have htas6 : tas < 6 := by rw [htas]; exact tasF_lt hg 3 tgt u htgt hu
  have hlen : (lay0 p f S g u tgt D).length = 1 + m + D.length := by rw [lay0_len, hm]
  have hD5 := hD.1
  have lo : ∀ t, fr wLy s t → ∀ a k, a ≤ 30 → st_g t a k = st_g s a k := fun t ht a k ha => ht.g (wLy_lo (by omega) (by omega))
  refine en_X3_lay hR3 ?_
  have f1 : fr wLy s (st_p s 65 1 (1 : Int32)) := fr.refl.p (by unfold wLy; rfl)
  have g1 : st_g (st_p s 65 1 (1 : Int32)) 65 1 = 1 := g_p_eq _ _ _ _
  generalize st_p s 65 1 (1 : Int32) = s1' at f1 g1
  have hj1 := JC_W f1 (fun a k h1 h2 => wLy_lo h1 h2) hj
  rw [hj1.2.1]
  refine ⟨hb, en_X3_viewsDownFrom hb (ct_viewsDown hb (VC_fr (fun a k _ _ => lo _ f1 a k (by omega)) hv) hg 3 0 tgt u (by omega) htgt ?_)⟩
  rw [Nat.zero_add, ← hm, hj1.2.1]
  refine ⟨hb, en_X3_layWheres hb ?_⟩
  have hL := fun (K' : Int32 → bi_St → Prop) => ct_layWheresL (X := X) (d := d) (K := K') (E := fun _ _ => False) (s := s1') (c := chn g 3 tgt u) (m := m) (W := fun a _ => Nat.ble 67 a && Nat.ble a 75) hb (VC_fr (fun a k _ _ => lo _ f1 a k (by omega)) hv) hg (fun i hi => by rw [f1.gp]; exact hp1 i hi) (fun i j hi hj' h => hp2 i j hi hj' (by rw [f1.gp, f1.gp] at h; exact h)) hm.symm (by omega) (fun pl k h => by rcases h with rfl | rfl | rfl | rfl | rfl | rfl | rfl | rfl | rfl <;> rfl) (fun a k h => by rw [ble_f (by omega)]; rfl)
  refine hL _ 3 0 tgt u s1' (by omega) htgt hu rfl (by omega) fr.refl (fun j e hj' => by omega) (fun t ht hq => ?_)
  rw [← htas]
  have fst : fr wLy s t := f1.trans (ht.mono fun a k h => by unfold wLy; rw [h]; simp)
  have t1 : st_g t 65 1 = 1 := by rw [ht.g rfl]; exact g1
  have f2 : fr wLy s (st_p t 65 8 (zI tas)) := fst.p (by unfold wLy; rfl)
  have q2 : ∀ j e, (chn g 3 tgt u)[j]? = some e → QQ (st_p t 65 8 (zI tas)) b C (st_gp s (10 + (m - j))) (mkV g e) := fun j e hje => by
    rw [← f1.gp]
    have hge : 67 ≤ st_gp s1' (10 + (m - j)) := by rw [f1.gp]; exact (isp_ge (hp1 _ (by omega))).1
    exact QQ_fr hb19 (fun k => g_p_a (by omega)) (fun c k hc => g_p_a (by omega)) (hq j e hje)
  have g21 : st_g (st_p t 65 8 (zI tas)) 65 1 = 1 := by rw [g_p_k (by omega)]; exact t1
  have g28 : st_g (st_p t 65 8 (zI tas)) 65 8 = zI tas := g_p_eq _ _ _ _
  generalize st_p t 65 8 (zI tas) = s2 at f2 q2 g21 g28
  obtain ⟨pl, epl⟩ : ∃ pl, pl = st_gp s (10 + 0) := ⟨_, rfl⟩
  have hpl : st_isp pl := by rw [epl]; exact hp1 0 (by omega)
  have hge := isp_ge hpl
  have gp2 : ∀ t, fr wLy s t → st_gp t (10 + ((0 : Int32)).toNatClampNeg) = pl := fun t ht => by rw [ht.gp, epl]; rfl
  rw [gp2 _ f2, g28]
  refine ⟨rfl, hpl, en_X7_set hpl ?_⟩
  have wpl : ∀ k, wLy pl k = true := fun k => wLy_isp hpl
  obtain ⟨s3, hs3⟩ : ∃ s3, s3 = st_p (st_p (st_p (st_p (st_p (st_p (st_p (st_p s2 pl 0 (0 : Int32)) pl 1 (-1 : Int32)) pl 3 (zI tas)) pl 4 (-1 : Int32)) pl 5 (0 : Int32)) pl 6 (0 : Int32)) pl 7 (0 : Int32)) pl 8 (0 : Int32) := ⟨_, rfl⟩
  have f3 : fr wLy s s3 := by
    rw [hs3]
    exact (((((((f2.p (wpl _)).p (wpl _)).p (wpl _)).p (wpl _)).p (wpl _)).p (wpl _)).p (wpl _)).p (wpl _)
  have o3 : ∀ c k, c ≠ pl → st_g s3 c k = st_g s2 c k := fun c k hc => by rw [hs3]; iterate 8 rw [g_p_a hc]
  rw [← hs3, gp2 _ f3, o3 _ _ (by omega), g28]
  refine ⟨rfl, hpl, ct_policyCostC (JC_W f3 (fun a k h1 h2 => wLy_lo h1 h2) hj) (BX_fr (fun a k _ _ => lo _ f3 a k (by omega)) hx) htas6 (fun s4 h4 => ?_)⟩
  obtain ⟨cst0, hcst⟩ : ∃ c, c = pcost p f (clo S.1 (s1 tas)) S.2.1 := ⟨_, rfl⟩
  rw [← hcst]
  have hcl0 : cst0 < 6000 := by rw [hcst]; exact pcost_lt hj.1.2.2.1 (fun i hi => plen_le (hj.1.2.2.2.2 i hi).2.2.2.2.2.1)
  have f4 : fr wLy s s4 := f3.trans (h4.mono wA_wLy)
  have e1 : (1 : Int32) + zI m = zI (1 + m) := zI_add 1 m
  rw [e1]
  obtain ⟨s5, hs5⟩ : ∃ s5, s5 = st_p (st_p s4 pl 2 (zI cst0)) 65 2 (zI (1 + m)) := ⟨_, rfl⟩
  have f5 : fr wLy s s5 := by rw [hs5]; exact (f4.p (wpl _)).p (by unfold wLy; rfl)
  rw [← hs5]
  have o5 : ∀ c k, 67 ≤ c → c ≤ 75 → c ≠ pl → st_g s5 c k = st_g s2 c k := fun c k h1 h2 hc => by rw [hs5, g_p_a (by omega), g_p_a hc, h4.g (wA_ne (by omega) (by omega) (by omega)), o3 c k hc]
  have hpl5 : ∀ k, k ≠ 2 → st_g s5 pl k = st_g s3 pl k := fun k hk => by rw [hs5, g_p_a (by omega), g_p_k hk, h4.g (wA_ne (by omega) (by omega) (by omega))]
  have Q0 : QQ s5 b C pl (0, -1, cst0, false, tas, none, false) := by
    refine ⟨⟨by show 0 ≤ 2; omega, by show cst0 < _; omega, htas6, ?_, ?_, ?_, ?_, ?_, ?_, fun h => absurd (show (0 : Nat) = 1 from h) (by decide), fun h => absurd (show (0 : Nat) = 2 from h) (by decide)⟩, ?_, ?_⟩
    · rw [hpl5 _ (by omega), hs3]; simp [g_p]; rfl
    · rw [hpl5 _ (by omega), hs3]; simp [g_p]
    · rw [hs5, g_p_a (by omega), g_p_eq]
    · rw [hpl5 _ (by omega), hs3]; simp [g_p]
    · rw [hpl5 _ (by omega), hs3]; simp [g_p]; rfl
    · rw [hpl5 _ (by omega), hs3]; simp [g_p]; rfl
    · rw [hpl5 _ (by omega), hs3]; simp [g_p]
    · rw [hpl5 _ (by omega), hs3]; simp [g_p]
  obtain ⟨L0, hL0⟩ : ∃ L0, L0 = lay0 p f S g u tgt D := ⟨_, rfl⟩
  have base : ∀ i x, i < 1 + m → L0[i]? = some x → QQ s5 b C (st_gp s (10 + i)) x := by
    intro i x hi hix
    rw [hL0] at hix
    unfold lay0 at hix
    cases i with
    | zero =>
      rw [List.getElem?_cons_zero] at hix
      injection hix with hix
      rw [← hix, ← epl, ← htas, ← hcst]; exact Q0
    | succ i =>
      rw [List.getElem?_cons_succ, List.getElem?_append_left (by rw [List.length_map, List.length_reverse]; omega), List.getElem?_map, List.getElem?_reverse (by omega), ← hm] at hix
      cases hc : (chn g 3 tgt u)[m - 1 - i]? with
      | none => rw [hc] at hix; cases hix
      | some e =>
        rw [hc] at hix
        injection hix with hix
        rw [← hix]
        have := q2 _ e hc
        rw [show m - (m - 1 - i) = i + 1 by omega] at this
        have hi2 := isp_ge (hp1 (i + 1) (by omega))
        have hne : st_gp s (10 + (i + 1)) ≠ pl := fun h => by have := hp2 (i + 1) 0 (by omega) (by omega) (by rw [h, epl]); omega
        exact QQ_fr hb19 (fun k => o5 _ _ hi2.1 hi2.2 hne) (fun c k hc => by rw [lo _ f5 c k hc, lo _ f2 c k hc]) this
  have loop : ∀ n i (t : bi_St), n = D.length - i → i ≤ D.length → fr wLy s t → st_g t 65 1 = 1 → st_g t 65 2 = zI (1 + m + i) → st_g t 65 8 = zI tas → (∀ j x, j < 1 + m + i → L0[j]? = some x → QQ t b C (st_gp s (10 + j)) x) → at_X3_lay_76 X (d + 4) K E t (zI u) (zI i) 3 := by
    intro n
    induction n with
    | zero =>
      intro i t hni hi ht a1 a2 a8 hq
      have : i = D.length := by omega
      subst this
      have hDt := DC_fr (fun a k _ _ => lo t ht a k (by omega)) hD
      refine go_X3_lay_76 hR3 ⟨fun _ => ?_, fun z => absurd ?_ z⟩
      · rw [← hL0] at k hlen
        refine k t ht ⟨fun i hi => by rw [ht.gp]; exact hp1 i hi, fun i j hi hj' h => hp2 i j hi hj' (by rw [ht.gp, ht.gp] at h; exact h), fun i x hix => ?_⟩ (fun i hi => ?_) a1 (by rw [a2, hlen]) (by rw [a8, htas])
        · rw [ht.gp]
          exact (hq i x (by have := (List.getElem?_eq_some_iff.mp hix).1; omega) hix).1
        · rw [ht.gp]
          exact (hq i L0[i] (by omega) (List.getElem?_eq_getElem hi)).2
      · rw [hDt.2.1]; exact (zI_le (by omega) (by omega)).mpr (Nat.le_refl _)
    | succ n ih =>
      intro i t hni hi ht a1 a2 a8 hq
      have hDt := DC_fr (fun a k _ _ => lo t ht a k (by omega)) hD
      have hDi : D[i]? = some D[i] := List.getElem?_eq_getElem (by omega)
      have hrx := hDt.2.2 i _ hDi
      have hPL := rl_le hrx.1
      obtain ⟨pl', epl'⟩ : ∃ pl', pl' = st_gp s (10 + (1 + m + i)) := ⟨_, rfl⟩
      have hpl' : st_isp pl' := by rw [epl']; exact hp1 _ (by omega)
      have hge' := isp_ge hpl'
      have wpl' : ∀ k, wLy pl' k = true := fun k => wLy_isp hpl'
      have hin : bi_in (zI (1 + m + i)) 9 = true := in_zI (by omega) (by omega)
      refine go_X3_lay_76 hR3 ⟨fun z => ?_, fun _ => ⟨fun z => ?_, fun _ => ?_⟩⟩
      · rw [hDt.2.1, zI_le (by omega) (by omega)] at z; omega
      · rw [a2] at z; have := (zI_le (a := 9) (by omega) (by omega)).mp z; omega
      · rw [a2, zI_nat (by omega), ht.gp, ← epl']
        refine ⟨hin, hpl', en_X7_set hpl' ?_⟩
        obtain ⟨t2, ht2⟩ : ∃ t2, t2 = st_p (st_p (st_p (st_p (st_p (st_p (st_p (st_p t pl' 0 (2 : Int32)) pl' 1 (zI i)) pl' 3 (zI u)) pl' 4 (-1 : Int32)) pl' 5 (0 : Int32)) pl' 6 (0 : Int32)) pl' 7 (0 : Int32)) pl' 8 (0 : Int32) := ⟨_, rfl⟩
        have ft2 : fr wLy s t2 := by
          rw [ht2]
          exact (((((((ht.p (wpl' _)).p (wpl' _)).p (wpl' _)).p (wpl' _)).p (wpl' _)).p (wpl' _)).p (wpl' _)).p (wpl' _)
        have ot2 : ∀ c k, c ≠ pl' → st_g t2 c k = st_g t c k := fun c k hc => by rw [ht2]; iterate 8 rw [g_p_a hc]
        rw [← ht2, ot2 _ _ (by omega), a2, zI_nat (by omega), ft2.gp, ← epl']
        refine ⟨hin, hpl', ct_follow hR3 hpl' (rx_fr (fun a k _ _ => ot2 a k (by omega)) hrx) ?_⟩
        obtain ⟨t3, ht3⟩ : ∃ t3, t3 = st_p (st_p (st_p t2 pl' 4 (zI i)) pl' 2 (zI (D[i]).1.length)) pl' 5 (b2i (D[i]).2) := ⟨_, rfl⟩
        have ft3 : fr wLy s t3 := by rw [ht3]; exact ((ft2.p (wpl' _)).p (wpl' _)).p (wpl' _)
        have ot3 : ∀ c k, c ≠ pl' → st_g t3 c k = st_g t c k := fun c k hc => by
          rw [ht3, g_p_a hc, g_p_a hc, g_p_a hc]; exact ot2 c k hc
        rw [← ht3, ot3 _ _ (by omega), a2, zI_add1, zI_add1]
        refine ih (i + 1) _ (by omega) (by omega) (ft3.p (by unfold wLy; rfl)) (by rw [g_p_k (by omega), ot3 _ _ (by omega)]; exact a1) (by rw [g_p_eq]; rfl) (by rw [g_p_k (by omega), ot3 _ _ (by omega)]; exact a8) (fun j x hj' hjx => ?_)
        have hj9 : j < 9 := by omega
        have hgj := isp_ge (hp1 j hj9)
        have keep : QQ t3 b C (st_gp s (10 + j)) x → QQ (st_p t3 65 2 (zI (1 + m + i + 1))) b C (st_gp s (10 + j)) x := fun h => QQ_fr hb19 (fun k => g_p_a (by omega)) (fun c k hc => g_p_a (by omega)) h
        refine keep ?_
        by_cases hje : j = 1 + m + i
        · subst hje
          rw [hL0] at hjx
          unfold lay0 at hjx
          rw [show 1 + m + i = m + i + 1 by omega, List.getElem?_cons_succ, List.getElem?_append_right (by rw [List.length_map, List.length_reverse]; omega), List.length_map, List.length_reverse, ← hm, mkDs_get, show m + i - m = i by omega, hDi] at hjx
          injection hjx with hjx
          rw [← hjx, ← epl', ht3, ht2, Nat.zero_add]
          have := QQ_set (s := t) (b := b) (C := C) (kd := 2) (bb := 3) (bar := false) (wh := zI i) (as := u) hpl' (Or.inr ⟨rfl, rfl⟩) hb19 hu hrx
          refine QQ_fr hb19 (fun k => ?_) (fun c k hc => ?_) this
          · by_cases hk6 : k = 6
            · subst hk6; rw [g_p_eq]; simp [g_p]; rfl
            · conv => rhs; rw [g_p_k hk6]
              rfl
          · conv => rhs; rw [g_p_a (show c ≠ pl' by omega)]
            rfl
        · have hne : st_gp s (10 + j) ≠ pl' := fun h => hje (hp2 j (1 + m + i) hj9 (by omega) (by rw [h, epl']))
          exact QQ_fr hb19 (fun k => ot3 _ _ hne) (fun c k hc => by rw [lo _ ft3 c k hc, lo _ ht c k hc]) (hq j x (by omega) hjx)
  refine loop D.length 0 s5 (by omega) (by omega) f5 ?_ ?_ ?_ (fun j x hj' hjx => base j x (by omega) hjx)
  · rw [hs5, g_p_k (by omega), g_p_a (by omega), h4.g (wA_ne (by omega) (by omega) (by omega)), o3 _ _ (by omega)]; exact g21
  · rw [hs5, g_p_eq]; rfl
  · rw [hs5, g_p_k (by omega), g_p_a (by omega), h4.g (wA_ne (by omega) (by omega) (by omega)), o3 _ _ (by omega)]; exact g28
end LAY2
