/-! ===== whom to look by: the class's and the reference's ways ===== -/
section LOOK2
def wK (a k : Nat) : Bool := wS a k || Nat.beq a 63
theorem wS_wK (a k : Nat) (h : wS a k = true) : wK a k = true := by unfold wK; rw [h]; rfl
theorem wA_wK (a k : Nat) (h : wA a k = true) : wK a k = true := wS_wK a k (wA_wS a k h)
theorem wK_ne {a k : Nat} (h1 : a ≠ 60) (h2 : a ≠ 59) (h3 : a ≠ 57) (h4 : a ≠ 64) (h5 : a ≠ 62) (h6 : a ≠ 63) : wK a k = false := by
  unfold wK
  rw [wS_ne h1 h2 h3 h4 h5, beq_ne h6]; rfl
theorem JC_wK {s t : bi_St} {b a C R p : Nat} {f : Nat → Pol} {S : Sta} (h : fr wK s t) (hj : JC s b a C R p f S) : JC t b a C R p f S := by
  obtain ⟨h1, h2, h3, h4, h5, h6, h7⟩ := hj
  have hb : b ≤ 19 := by rcases h1.1 with z | z <;> omega
  have ha : a ≤ 51 := by rcases h4.1 with z | z | z | z <;> omega
  exact ⟨BC_fr (fun c k x y => h.g (wK_ne (by omega) (by omega) (by omega) (by omega) (by omega) (by omega))) h1, by rw [h.gp]; exact h2, by rw [h.gp]; exact h3, SC_fr (fun c k x y => h.g (wK_ne (by omega) (by omega) (by omega) (by omega) (by omega) (by omega))) h4, by rw [h.g (wK_ne (by omega) (by omega) (by omega) (by omega) (by omega) (by omega))]; exact h5, h6, fun u hu => by rw [h.g (wK_ne (by omega) (by omega) (by omega) (by omega) (by omega) (by omega))]; exact h7 u hu⟩
theorem WC_wK {s t : bi_St} {a m : Nat} {W : Wt} (hS : st_isS a) (h : fr wK s t) (hw : WC s a m W) : WC t a m W := by
  have ha : a ≤ 51 := by rcases hS with z | z | z | z <;> omega
  exact WC_fr (fun c k x y => h.g (wK_ne (by omega) (by omega) (by omega) (by omega) (by omega) (by omega))) hw
theorem ct_readyToLook {X : bi_X} {d : Nat} {K : bi_St → Prop} {E : Nat → bi_St → Prop} {s : bi_St} {b a C R p : Nat} {f : Nat → Pol} {S : Sta} (hj : JC s b a C R p f S) (k : ∀ t, fr wK s t → (∀ u, u < R → st_g t 63 u = bo (reads p f S u) S.2.2.1 ∧ st_g t 64 u = 0) → st_g t 62 3 = 0 → K t) : cV X (d + 5) 11 [.ref 62] s K E := by
  have hR := hj.2.2.2.2.2.1
  have loop : ∀ m n (t : bi_St), m = R - n → n ≤ R → fr wK s t → (∀ u, u < n → st_g t 63 u = bo (reads p f S u) S.2.2.1 ∧ st_g t 64 u = 0) → st_g t 62 3 = 0 → at_X1_readyToLook_7 X (d + 5) K E t (zI n) := by
    intro m
    induction m with
    | zero =>
      intro n t hm hn ht h1 h2
      have : n = R := by omega
      subst this
      have hjt := JC_wK ht hj
      refine go_X1_readyToLook_7 ⟨by rw [hjt.2.1]; exact hjt.1.1, fun _ => k t ht h1 h2, fun z => absurd ?_ z⟩
      rw [hjt.2.1, hjt.2.2.2.2.1]; exact (zI_le (by omega) (by omega)).mpr (Nat.le_refl _)
    | succ m ih =>
      intro n t hm hn ht h1 h2
      have hjt := JC_wK ht hj
      refine go_X1_readyToLook_7 ⟨by rw [hjt.2.1]; exact hjt.1.1, fun z => ?_, fun _ => ct_rowsRead hjt (by omega) (fun t2 ht2 => ⟨in_zI (by omega) (by omega), in_zI (by omega) (by omega), ?_⟩)⟩
      · rw [hjt.2.1, hjt.2.2.2.2.1, zI_le (by omega) (by omega)] at z; omega
      · rw [zI_nat (by omega), zI_add1]
        refine ih (n + 1) _ (by omega) (by omega) (((ht.trans (ht2.mono wA_wK)).p rfl).p rfl) (fun u hu => ?_) ?_
        · rw [g_p_a (by omega), g_p, g_p]
          by_cases hun : u = n
          · subst hun; simp
          · simp only [hun, and_false, if_false]
            rw [g_p_a (by omega), ht2.g rfl, ht2.g rfl]; exact h1 u (by omega)
        · rw [g_p_a (by omega), g_p_a (by omega), ht2.g rfl]; exact h2
  exact en_X1_readyToLook (loop R 0 _ (by omega) (by omega) (fr.refl.p rfl) (fun u hu => by omega) (g_p_eq _ _ _ _))
theorem ct_setsOf {X : bi_X} {d : Nat} {K : Int32 → bi_St → Prop} {E : Nat → bi_St → Prop} {s : bi_St} {u : Nat} (hu : u < 6) (h16 : ∀ q, 16 ≤ q → q < 32 → tb (st_g s 64 u) q = false) (k : K (zI (bc (st_g s 64 u) 16 + (tb (st_g s 62 3) u).toNat)) s) : cI X (d + 1) 12 [.ref 62, .int (zI u)] s K E := by
  refine en_X1_setsOf ⟨in_zI (by omega) (by omega), ?_⟩
  rw [zI_nat (by omega)]
  refine ct_bitCount h16 (ct_bit (by omega) ?_)
  have : b2i (tb (st_g s 62 3) u) = zI (tb (st_g s 62 3) u).toNat := by cases tb (st_g s 62 3) u <;> rfl
  rw [this, zI_add]; exact k
theorem ct_roleToLookBy {X : bi_X} {d : Nat} {K : Int32 → bi_St → Prop} {E : Nat → bi_St → Prop} {s : bi_St} {b R : Nat} {c : Nat → Nat} (h7 : st_gp s 7 = b) (hb : st_isB b) (h1 : st_g s b 1 = zI R) (hR : R ≤ 6) (h16 : ∀ u, u < R → ∀ q, 16 ≤ q → q < 32 → tb (st_g s 64 u) q = false) (hc : ∀ u, u < R → bc (st_g s 64 u) 16 + (tb (st_g s 62 3) u).toNat = c u) (k : K (bst c R).1 s) : cI X (d + 2) 13 [.ref 62] s K E := by
  have hcl : ∀ u, u < R → c u ≤ 17 := fun u hu => by
    rw [← hc u hu]
    have := bc_le (st_g s 64 u) 16
    have := toNat_le1 (tb (st_g s 62 3) u)
    omega
  have hbl : ∀ n, n ≤ R → (bst c n).2 ≤ 17 := by
    intro n
    induction n with
    | zero => intro _; exact Nat.zero_le _
    | succ n ih =>
      intro hn
      rw [bst]
      by_cases h : (bst c n).2 < c n
      · rw [if_pos h]; exact hcl n (by omega)
      · rw [if_neg h]; exact ih (by omega)
  have loop : ∀ m n, m = R - n → n ≤ R → at_X1_roleToLookBy_6 X (d + 2) K E s (bst c n).1 (zI (bst c n).2) (zI n) := by
    intro m
    induction m with
    | zero =>
      intro n hm hn
      have : n = R := by omega
      subst this
      refine go_X1_roleToLookBy_6 ⟨by rw [h7]; exact hb, fun _ => k, fun z => absurd ?_ z⟩
      rw [h7, h1]; exact (zI_le (by omega) (by omega)).mpr (Nat.le_refl _)
    | succ m ih =>
      intro n hm hn
      have ih := ih (n + 1) (by omega) (by omega)
      have b1 := hbl n (by omega)
      have b2 := hcl n (by omega)
      refine go_X1_roleToLookBy_6 ⟨by rw [h7]; exact hb, fun z => ?_, fun _ => ct_setsOf (by omega) (h16 n (by omega)) ?_⟩
      · rw [h7, h1, zI_le (by omega) (by omega)] at z; omega
      · rw [hc n (by omega), zI_le (by omega) (by omega), zI_add1]
        rw [bst] at ih
        refine ⟨fun h => ?_, fun h => ct_setsOf (by omega) (h16 n (by omega)) ?_⟩
        · rw [if_neg (by omega)] at ih; exact ih
        · rw [hc n (by omega)]
          rw [if_pos (by omega)] at ih; exact ih
  exact en_X1_roleToLookBy (loop R 0 (by omega) (by omega))
/-- what the reference's look may change -/
def wL (a k : Nat) : Bool := wT a k || Nat.beq a 107
theorem wT_wL (a k : Nat) (h : wT a k = true) : wL a k = true := by unfold wL; rw [h]; rfl
theorem wF_wL (a k : Nat) (h : wF a k = true) : wL a k = true := wT_wL a k (wF_wT a k h)
theorem wL_ne {a k : Nat} (h1 : a ≠ 93) (h2 : a ≠ 92) (h3 : a ≠ 77) (h4 : a ≠ 90 ∨ k < 72) (h5 : a ≠ 107) : wL a k = false := by
  unfold wL
  rw [wT_ne h1 h2 h3 h4, beq_ne h5]; rfl
theorem RC_wL {s t : bi_St} {C R p : Nat} {f : Nat → Pol} {S : Sta} (h : fr wL s t) (hj : RC s 0 C R p f S) : RC t 0 C R p f S := by
  obtain ⟨h1, h2, h3, h4⟩ := hj
  exact ⟨BR_fr (h.g rfl) (fun k => h.g (wL_ne (by omega) (by omega) (by omega) (Or.inl (by omega)) (by omega))) (fun k => h.g (wL_ne (by omega) (by omega) (by omega) (Or.inl (by omega)) (by omega))) h1, SR_fr (fun k _ hk => h.g (wL_ne (by omega) (by omega) (by omega) (Or.inr (by omega)) (by omega))) h1.1 h2, h3, by rw [h.g rfl]; exact h4⟩
theorem WR_wL {s t : bi_St} {m : Nat} {W : Wt} (h : fr wL s t) (hw : WR s m W) : WR t m W := by
  obtain ⟨h1, h2, h3⟩ := hw
  have e : ∀ k, st_g t 106 k = st_g s 106 k := fun k => h.g (wL_ne (by omega) (by omega) (by omega) (Or.inl (by omega)) (by omega))
  exact ⟨h1, by rw [h.g rfl]; exact h2, fun i hi => by rw [e, e, e]; exact h3 i hi⟩
/-- the sets that lie in setsAll -/
def mS (t : bi_St) (R p : Nat) (f : Nat → Pol) (S : Sta) : List Gs → Prop
  | [] => True
  | x :: M => (∀ u, u < R → st_g t 107 (6 * M.length + u) = se p f S u x) ∧ mS t R p f S M
theorem mS_fr {s t : bi_St} {R p : Nat} {f : Nat → Pol} {S : Sta} (hR : R ≤ 6) : ∀ M : List Gs, (∀ k, k < 6 * M.length → st_g t 107 k = st_g s 107 k) → mS s R p f S M → mS t R p f S M := by
  intro M
  induction M with
  | nil => intro _ _; trivial
  | cons x M ih =>
    intro h hm
    refine ⟨fun u hu => ?_, ih (fun k hk => h k (by rw [List.length_cons]; omega)) hm.2⟩
    rw [h _ (by rw [List.length_cons]; omega)]; exact hm.1 u hu
/-- the loops that count unlike sets -/
theorem ct_lookC {X : bi_X} {d : Nat} {K : Int32 → bi_St → Prop} {E : Nat → bi_St → Prop} {s : bi_St} {R p : Nat} {f : Nat → Pol} {S : Sta} {w : Int32} {M : List Gs} (hR : R ≤ 6) (h27 : st_g s 77 27 = zI R) (hM : mS s R p f S M) (hlen : M.length ≤ 1216)
    (k : K (if w = 0 then (bst (fun u => cntS p f S u M) R).1 else zI (bst (fun u => cntS p f S u M) R).2) s) : at_X12_look_136 X (d + 1) K E s w (zI M.length) (-1) 0 0 := by
  have drop_mS : ∀ n, mS s R p f S (M.drop n) := by
    intro n
    induction n with
    | zero => exact hM
    | succ n ih =>
      rw [← List.drop_drop]
      cases hd : M.drop n with
      | nil => rw [List.drop_nil]; trivial
      | cons x L => rw [hd] at ih; exact ih.2
  have cnt_le : ∀ u (L : List Gs), cntS p f S u L ≤ L.length := by
    intro u L
    induction L with
    | nil => exact Nat.le_refl _
    | cons x L ih =>
      rw [cntS, List.length_cons]
      by_cases h : L.any (fun y => decide (se p f S u y = se p f S u x)) = true
      · rw [if_pos h]; omega
      · rw [if_neg h]; omega
  have bst_le : ∀ n, (bst (fun u => cntS p f S u M) n).2 ≤ 1216 := by
    intro n
    induction n with
    | zero => exact Nat.zero_le _
    | succ n ih =>
      rw [bst]
      by_cases h : (bst (fun u => cntS p f S u M) n).2 < cntS p f S n M
      · rw [if_pos h]; have := cnt_le n M; show cntS p f S n M ≤ 1216; omega
      · rw [if_neg h]; exact ih
  -- the last a of M, and the one ahead of them
  have step : ∀ a, a < M.length → ∃ x, M.drop (M.length - (a + 1)) = x :: M.drop (M.length - a) := by
    intro a ha
    have h1 : M.length - (a + 1) < M.length := by omega
    refine ⟨M[M.length - (a + 1)], ?_⟩
    rw [List.drop_eq_getElem_cons h1, show M.length - (a + 1) + 1 = M.length - a by omega]
  have inner : ∀ u a x y3 y4 y6, u < R → a < M.length → (∀ v, st_g s 107 (6 * a + v) = st_g s 107 (6 * a + v)) → st_g s 107 (6 * a + u) = se p f S u x →
      (∀ v, v = b2i (!((M.drop (M.length - a)).any (fun y => decide (se p f S u y = se p f S u x)))) → at_X12_look_217 X (d + 1) K E s w (zI M.length) y3 y4 (zI u) y6 (zI a) v) →
      ∀ e n, e = a - n → n ≤ a → ∀ v, v = b2i (!((M.drop (M.length - n)).any (fun y => decide (se p f S u y = se p f S u x)))) → at_X12_look_163 X (d + 1) K E s w (zI M.length) y3 y4 (zI u) y6 (zI a) v (zI n) := by
    intro u a x y3 y4 y6 hu ha _ hx hk e
    induction e with
    | zero =>
      intro n he hn v hv
      have : n = a := by omega
      subst this
      exact go_X12_look_163 ⟨fun _ => hk v hv, fun z => absurd ((zI_le (by omega) (by omega)).mpr (Nat.le_refl _)) z⟩
    | succ e ih =>
      intro n he hn v hv
      obtain ⟨y, hy⟩ := step n (by omega)
      have hmy := drop_mS (M.length - (n + 1))
      rw [hy] at hmy
      have hl : (M.drop (M.length - n)).length = n := by rw [List.length_drop]; omega
      have hyu := hmy.1 u hu
      rw [hl] at hyu
      have e6 : ∀ z, (6 : Int32) * zI z + zI u = zI (6 * z + u) := fun z => by
        have : (6 : Int32) * zI z = zI (6 * z) := zI_mul 6 z
        rw [this, zI_add]
      have stop : ∀ b : Bool, (M.drop (M.length - n)).any (fun y => decide (se p f S u y = se p f S u x)) = true → (M.drop (M.length - a)).any (fun y => decide (se p f S u y = se p f S u x)) = true := by
        intro _ h
        rw [List.any_eq_true] at h ⊢
        obtain ⟨z, z1, z2⟩ := h
        refine ⟨z, ?_, z2⟩
        rw [show M.length - n = (M.length - a) + (a - n) by omega, ← List.drop_drop] at z1
        exact List.mem_of_mem_drop z1
      refine go_X12_look_163 ⟨fun z => ?_, fun _ => ?_⟩
      · rw [zI_le (by omega) (by omega)] at z; omega
      · rw [hv, b2i_ne0]
        refine ⟨fun h => ?_, fun h => ?_⟩
        · have h' : (M.drop (M.length - n)).any (fun y => decide (se p f S u y = se p f S u x)) = true := by simpa using h
          exact hk _ (by rw [h', stop true h'])
        · have h' : (M.drop (M.length - n)).any (fun y => decide (se p f S u y = se p f S u x)) = false := by simpa using h
          rw [e6, e6, zI_nat (show 6 * a + u < 2147483648 by omega), zI_nat (show 6 * n + u < 2147483648 by omega), hx, hyu, zI_add1]
          refine ⟨in_zI (by omega) (by omega), in_zI (by omega) (by omega), fun heq => ih (n + 1) (by omega) (by omega) _ ?_, fun hne => ih (n + 1) (by omega) (by omega) _ ?_⟩
          · rw [hy, List.any_cons, decide_eq_true heq.symm]; rfl
          · rw [hy, List.any_cons, h', decide_eq_false (fun z => hne z.symm)]; rfl
  have mid : ∀ u y3 y4, u < R → (∀ v, v = zI (cntS p f S u M) → (y4 < v → at_X12_look_255 X (d + 1) K E s w (zI M.length) (zI u) v (zI u)) ∧ (¬ y4 < v → at_X12_look_255 X (d + 1) K E s w (zI M.length) y3 y4 (zI u))) →
      ∀ e n, e = M.length - n → n ≤ M.length → at_X12_look_151 X (d + 1) K E s w (zI M.length) y3 y4 (zI u) (zI (cntS p f S u (M.drop (M.length - n)))) (zI n) := by
    intro u y3 y4 hu hk e
    induction e with
    | zero =>
      intro n he hn
      have hn' : n = M.length := by omega
      rw [hn', Nat.sub_self, List.drop_zero]
      exact go_X12_look_151 ⟨fun _ => hk _ rfl, fun z => absurd ((zI_le (by omega) (by omega)).mpr (Nat.le_refl _)) z⟩
    | succ e ih =>
      intro n he hn
      obtain ⟨x, hx⟩ := step n (by omega)
      have hmx := drop_mS (M.length - (n + 1))
      rw [hx] at hmx
      have hl : (M.drop (M.length - n)).length = n := by rw [List.length_drop]; omega
      have hxu := hmx.1 u hu
      rw [hl] at hxu
      have ih := ih (n + 1) (by omega) (by omega)
      rw [hx, cntS] at ih
      refine go_X12_look_151 ⟨fun z => ?_, fun _ => ?_⟩
      · rw [zI_le (by omega) (by omega)] at z; omega
      · refine inner u n x y3 y4 _ hu (by omega) (fun _ => rfl) hxu (fun v hv => ?_) n 0 (by omega) (by omega) _ ?_
        · subst hv
          refine go_X12_look_217 ⟨fun h => ?_, fun h => ?_⟩
          · rw [b2i_ne0] at h
            have h : (M.drop (M.length - n)).any (fun y => decide (se p f S u y = se p f S u x)) = true := by simpa using h
            rw [if_pos h, Nat.add_zero] at ih
            rw [Int32.add_zero, zI_add1]; exact ih
          · rw [b2i_ne0] at h
            have h : ¬ (M.drop (M.length - n)).any (fun y => decide (se p f S u y = se p f S u x)) = true := by simpa using h
            rw [if_neg h] at ih
            rw [zI_add1, zI_add1]; exact ih
        · rw [Nat.sub_zero, List.drop_length]; rfl
  have outer : ∀ e n, e = R - n → n ≤ R → at_X12_look_136 X (d + 1) K E s w (zI M.length) (bst (fun u => cntS p f S u M) n).1 (zI (bst (fun u => cntS p f S u M) n).2) (zI n) := by
    intro e
    induction e with
    | zero =>
      intro n he hn
      have : n = R := by omega
      subst this
      refine go_X12_look_136 ⟨fun _ => ⟨fun hw => ?_, fun hw => ?_⟩, fun z => absurd ?_ z⟩
      · rw [if_neg hw] at k; exact k
      · rw [if_pos (Decidable.of_not_not hw)] at k; exact k
      · rw [h27]; exact (zI_le (by omega) (by omega)).mpr (Nat.le_refl _)
    | succ e ih =>
      intro n he hn
      have ih := ih (n + 1) (by omega) (by omega)
      rw [bst] at ih
      have b1 := bst_le n
      have b2 := cnt_le n M
      refine go_X12_look_136 ⟨fun z => ?_, fun _ => ?_⟩
      · rw [h27, zI_le (by omega) (by omega)] at z; omega
      · have := mid n (bst (fun u => cntS p f S u M) n).1 (zI (bst (fun u => cntS p f S u M) n).2) (by omega) (fun v hv => by
          subst hv
          rw [zI_lt (by omega) (by omega)]
          refine ⟨fun h => go_X12_look_255 ?_, fun h => go_X12_look_255 ?_⟩
          · rw [zI_add1]; rw [if_pos h] at ih; exact ih
          · rw [zI_add1]; rw [if_neg h] at ih; exact ih) M.length 0 (by omega) (by omega)
        rw [Nat.sub_zero, List.drop_length] at this
        exact this
  exact outer R 0 (by omega) (by omega)
theorem Tm_16 {R p : Nat} {f : Nat → Pol} {S : Sta} {T : (Nat → Int32) × Int32} {u : Nat} (hT : ∀ q, 16 ≤ q → q < 32 → tb (T.1 u) q = false) : ∀ M : List Gs, (∀ x, x ∈ M → x.1 < 16) → ∀ q, 16 ≤ q → q < 32 → tb ((Tm R p f S T M).1 u) q = false := by
  intro M
  induction M with
  | nil => intro _; exact hT
  | cons x M ih =>
    intro hM q h1 h2
    have ih := ih (fun y hy => hM y (by simp [hy])) q h1 h2
    have hx := hM x (by simp)
    show tb (if u < R ∧ tq p f S x.1 x.2.1 x.2.2 u = true then (Tm R p f S T M).1 u ||| s1 x.1 else (Tm R p f S T M).1 u) q = false
    by_cases h : u < R ∧ tq p f S x.1 x.2.1 x.2.2 u = true
    · rw [if_pos h, tb_or, ih, tb_s1 (by omega) h2]
      have : ¬ q = x.1 := by omega
      simp [this]
    · rw [if_neg h]; exact ih
theorem ct_lookL {X : bi_X} {d : Nat} {K : Int32 → bi_St → Prop} {E : Nat → bi_St → Prop} {s : bi_St} {C R p m : Nat} {f : Nat → Pol} {S : Sta} {W : Wt} {w : Int32} (hj : RC s 0 C R p f S) (hw : WR s m W) (h28 : st_g s 77 28 = zI C)
    (k : ∀ t, fr wL s t → K (if w = 0 then (bst (fun u => cntS p f S u (gl3 (gM p f S m W) C S.2.2.1 [])) R).1 else zI (bst (fun u => cntS p f S u (gl3 (gM p f S m W) C S.2.2.1 [])) R).2) t) : at_X12_look_20 X (d + 6) K E s w 0 0 := by
  have hn := hj.2.1.2.1
  have hC := hj.1.1
  have hR := hj.2.2.1.1
  have e7 : ((7 : Int32)).toNatClampNeg = 7 := rfl
  have sets : ∀ r c j (M : List Gs), r < S.2.2.1 → c < C → M.length < 1216 → (∀ t, fr wL s t → mS t R p f S ((r, c, j) :: M) → at_X12_look_110 X (d + 6) K E t w (zI (M.length + 1)) (zI r) (zI c) (vv j)) → ∀ e n (t : bi_St), e = R - n → n ≤ R → fr wL s t → RC t 72 C R p f (cs S r c (vv j)) → mS t R p f S M → (∀ u, u < n → st_g t 107 (6 * M.length + u) = se p f S u (r, c, j)) → at_X12_look_72 X (d + 6) K E t w (zI M.length) (zI r) (zI c) (vv j) (zI n) := by
    intro r c j M hr hc hlen hk e
    induction e with
    | zero =>
      intro n t he hn ht h72 hM hu
      have : n = R := by omega
      subst this
      refine go_X12_look_72 ⟨fun _ => by rw [zI_add1]; exact hk t ht ⟨hu, hM⟩, fun z => absurd ?_ z⟩
      rw [h72.2.2.2]; exact (zI_le (by omega) (by omega)).mpr (Nat.le_refl _)
    | succ e ih =>
      intro n t he hn2 ht h72 hM hu
      have e6 : (6 : Int32) * zI M.length + zI n = zI (6 * M.length + n) := by
        have : (6 : Int32) * zI M.length = zI (6 * M.length) := zI_mul 6 _
        rw [this, zI_add]
      refine go_X12_look_72 ⟨fun z => ?_, fun _ => ct_readsOf (b0 := 72) h72 (by omega) (fun t2 ht2 => ?_)⟩
      · rw [h72.2.2.2, zI_le (by omega) (by omega)] at z; omega
      · rw [e6, zI_nat (by omega), zI_add1]
        refine ⟨in_zI (by omega) (by omega), ?_⟩
        have f2 : fr wL s (st_p t2 107 (6 * M.length + n) (bo (reads p f (cs S r c (vv j)) n) (cs S r c (vv j)).2.2.1)) := (ht.trans (ht2.mono wF_wL)).p rfl
        have hr2 := RC_fr ht2 h72
        have hr3 : RC (st_p t2 107 (6 * M.length + n) (bo (reads p f (cs S r c (vv j)) n) (cs S r c (vv j)).2.2.1)) 72 C R p f (cs S r c (vv j)) := by
          obtain ⟨a1, a2, a3, a4⟩ := hr2
          exact ⟨BR_fr (g_p_a (by omega)) (fun k => g_p_a (by omega)) (fun k => g_p_a (by omega)) a1, SR_fr (fun k _ _ => g_p_a (by omega)) hC a2, a3, by rw [g_p_a (by omega)]; exact a4⟩
        have e107 : ∀ k, st_g t2 107 k = st_g t 107 k := fun k => ht2.g (wF_ne (by omega) (by omega) (by omega))
        refine ih (n + 1) _ (by omega) (by omega) f2 hr3 (mS_fr hR M (fun k hk => by rw [g_p_k (by omega), e107]) hM) (fun u hu2 => ?_)
        rw [g_p]
        by_cases hun : u = n
        · subst hun; simp; rfl
        · rw [if_neg (fun z => hun (by have := z.2; omega)), e107]; exact hu u (by omega)
  have in1 : ∀ r c (M : List Gs), r < S.2.2.1 → c < C → M.length + 19 ≤ 1216 → (∀ t, fr wL s t → mS t R p f S (gl1 (gM p f S m W) r c 19 M) → at_X12_look_34 X (d + 6) K E t w (zI (gl1 (gM p f S m W) r c 19 M).length) (zI r) (zI (c + 1))) → ∀ e n (t : bi_St), e = 19 - n → n ≤ 19 → fr wL s t → mS t R p f S (gl1 (gM p f S m W) r c n M) → at_X12_look_47 X (d + 6) K E t w (zI (gl1 (gM p f S m W) r c n M).length) (zI r) (zI c) (vv n) := by
    intro r c M hr hc hlen hk e
    induction e with
    | zero =>
      intro n t he hn ht hM
      have : n = 19 := by omega
      subst this
      exact go_X12_look_47 ⟨fun _ => by rw [zI_add1]; exact hk t ht hM, fun z => absurd ((vv_19 (by omega)).2.mpr rfl) z⟩
    | succ e ih =>
      intro n t he hn2 ht hM
      have hl := gl1_len (g := gM p f S m W) (r := r) (c := c) (M := M) n
      refine go_X12_look_47 ⟨fun z => ?_, fun _ => ct_isGuess (RC_wL ht hj) (WR_wL ht hw) hr hc (fun t2 ht2 h72 => ?_)⟩
      · have := (vv_19 (by omega)).2.mp z; omega
      · have ht2' := ht.trans (ht2.mono wT_wL)
        have hM2 : mS t2 R p f S (gl1 (gM p f S m W) r c n M) := mS_fr hR _ (fun k _ => ht2.g (wT_ne (by omega) (by omega) (by omega) (Or.inl (by omega)))) hM
        rw [b2i_ne0]
        refine ⟨fun h => ?_, fun h => ?_⟩
        · have h : gM p f S m W r c n = true := by simpa using h
          refine sets r c n (gl1 (gM p f S m W) r c n M) hr hc (by omega) (fun t3 ht3 hM3 => go_X12_look_110 ?_) R 0 t2 (by omega) (by omega) ht2' (h72 h) hM2 (fun u hu => by omega)
          have ih := ih (n + 1) t3 (by omega) (by omega) ht3
          rw [gl1, if_pos h] at ih
          rw [vv_add1]; exact ih hM3
        · refine go_X12_look_110 ?_
          have ih := ih (n + 1) t2 (by omega) (by omega) ht2'
          rw [gl1, Decidable.of_not_not h] at ih
          rw [vv_add1]; exact ih hM2
  have in2 : ∀ r (M : List Gs), r < S.2.2.1 → M.length + 76 ≤ 1216 → (∀ t, fr wL s t → mS t R p f S (gl2 (gM p f S m W) r C M) → at_X12_look_20 X (d + 6) K E t w (zI (gl2 (gM p f S m W) r C M).length) (zI (r + 1))) → ∀ e n (t : bi_St), e = C - n → n ≤ C → fr wL s t → mS t R p f S (gl2 (gM p f S m W) r n M) → at_X12_look_34 X (d + 6) K E t w (zI (gl2 (gM p f S m W) r n M).length) (zI r) (zI n) := by
    intro r M hr hlen hk e
    induction e with
    | zero =>
      intro n t he hn ht hM
      have : n = C := by omega
      subst this
      refine go_X12_look_34 ⟨fun _ => by rw [zI_add1]; exact hk t ht hM, fun z => absurd ?_ z⟩
      rw [ht.g rfl, h28]; exact (zI_le (by omega) (by omega)).mpr (Nat.le_refl _)
    | succ e ih =>
      intro n t he hn2 ht hM
      have hl := gl2_len (g := gM p f S m W) (r := r) (M := M) n
      refine go_X12_look_34 ⟨fun z => ?_, fun _ => ?_⟩
      · rw [ht.g rfl, h28, zI_le (by omega) (by omega)] at z; omega
      · have := in1 r n (gl2 (gM p f S m W) r n M) hr (by omega) (by omega) (fun t2 ht2 hM2 => ih (n + 1) t2 (by omega) (by omega) ht2 hM2) 19 0 t (by omega) (by omega) ht hM
        rw [vv_0] at this
        exact this
  have in3 : ∀ e n (t : bi_St), e = S.2.2.1 - n → n ≤ S.2.2.1 → fr wL s t → mS t R p f S (gl3 (gM p f S m W) C n []) → at_X12_look_20 X (d + 6) K E t w (zI (gl3 (gM p f S m W) C n []).length) (zI n) := by
    intro e
    induction e with
    | zero =>
      intro n t he hn2 ht hM
      have : n = S.2.2.1 := by omega
      subst this
      have hl := gl3_len (g := gM p f S m W) hC S.2.2.1
      have hjt := RC_wL ht hj
      refine go_X12_look_20 ⟨rfl, fun _ => ct_lookC hR hjt.2.2.2 hM (by omega) (k t ht), fun z => absurd ?_ z⟩
      rw [e7, hjt.2.1.2.2.1]; exact (zI_le (by omega) (by omega)).mpr (Nat.le_refl _)
    | succ e ih =>
      intro n t he hn2 ht hM
      have hl := gl3_len (g := gM p f S m W) hC n
      refine go_X12_look_20 ⟨rfl, fun z => ?_, fun _ => ?_⟩
      · rw [e7, (RC_wL ht hj).2.1.2.2.1, zI_le (by omega) (by omega)] at z; omega
      · exact in2 n _ (by omega) (by omega) (fun t2 ht2 hM2 => ih (n + 1) t2 (by omega) (by omega) ht2 hM2) C 0 t (by omega) (by omega) ht hM
  exact in3 S.2.2.1 0 s (by omega) (by omega) fr.refl trivial
end LOOK2
