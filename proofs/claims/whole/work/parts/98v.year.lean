/-! ===== years by a seed ===== -/
section YEAR
def sx (x : Int32) : Int32 := x * 1103515245 + 12345
def sxi : Nat → Int32 → Int32
  | 0, x => x
  | n + 1, x => sx (sxi n x)
def dw (x : Int32) (n : Nat) : Nat := ((x >>> ((16 : Int32) &&& 31)) &&& 32767).toNatClampNeg % n
theorem tb_32767 {p : Nat} (h : p < 32) : tb 32767 p = decide (p < 15) := by
  have : ∀ p : Fin 32, tb 32767 p.1 = decide (p.1 < 15) := by decide
  exact this ⟨p, h⟩
theorem and_32767 (x : Int32) : ∃ w, w < 65536 ∧ x &&& 32767 = zI w := zI_of16 (fun q h1 h2 => by
  rw [tb_and, tb_32767 h2]
  have : ¬ q < 15 := by omega
  simp [this])
theorem zI_div {a b : Nat} (ha : a < 2147483648) (hb : b < 2147483648) (h0 : 0 < b) : zI a / zI b = zI (a / b) := by
  rw [← Int32.toInt_inj, Int32.toInt_div, zI_int ha, zI_int hb, zI_int (Nat.lt_of_le_of_lt (Nat.div_le_self a b) ha)]
  have : (a : Int).tdiv (b : Int) = ((a / b : Nat) : Int) := by
    rw [Int.ofNat_tdiv]
  rw [this]
  have hd := Nat.div_le_self a b
  apply Int.bmod_eq_of_le
  · have : (0 : Int) ≤ ((a / b : Nat) : Int) := Int.natCast_nonneg _
    omega
  · omega
theorem zI_rem {a b : Nat} (ha : a < 2147483648) (hb : b < 2147483648) (h0 : 0 < b) : zI a - zI a / zI b * zI b = zI (a % b) := by
  rw [zI_div ha hb h0, zI_mul, zI_sub (Nat.div_mul_le_self a b)]
  congr 1
  have := Nat.div_add_mod a b
  rw [Nat.mul_comm] at this
  omega
theorem dr_eq {x : Int32} {n : Nat} (hn : n < 2147483648) (h0 : 0 < n) : ((x >>> ((16 : Int32) &&& 31)) &&& 32767) - ((x >>> ((16 : Int32) &&& 31)) &&& 32767) / zI n * zI n = zI (dw x n) := by
  unfold dw
  obtain ⟨w, h1, h2⟩ := and_32767 (x >>> ((16 : Int32) &&& 31))
  rw [h2, zI_rem (by omega) hn h0, zI_nat (by omega)]
theorem dw_lt {x : Int32} {n : Nat} (h : 0 < n) : dw x n < n := Nat.mod_lt _ h
theorem ct_drawC {X : bi_X} {d : Nat} {K : Int32 → bi_St → Prop} {E : Nat → bi_St → Prop} {s : bi_St} {n : Nat} {sd : Int32} (hn : n < 2147483648) (h0 : 0 < n) (h : st_g s 61 1 = sd) (k : K (zI (dw (sx sd) n)) (st_p s 61 1 (sx sd))) : cI X d 121 [.ref 61, .int (zI n)] s K E := by
  refine en_X10_draw ⟨fun z => ?_, fun _ => ⟨fun z => ?_, ?_⟩⟩
  · have := (zI_le (b := 0) hn (by omega)).mp z; omega
  · have := (zI_eq (b := 0) hn (by omega)).mp z; omega
  · rw [g_p_eq, h]
    have : sd * 1103515245 + 12345 = sx sd := rfl
    rw [this, dr_eq hn h0]; exact k
theorem ct_drawR {X : bi_X} {d : Nat} {K : Int32 → bi_St → Prop} {E : Nat → bi_St → Prop} {s : bi_St} {n : Nat} {sd : Int32} (hn : n < 2147483648) (h0 : 0 < n) (h : st_g s 77 65 = sd) (k : K (zI (dw (sx sd) n)) (st_p s 77 65 (sx sd))) : cI X d 263 [.ref 77, .int (zI n)] s K E := by
  refine en_X12_draw ⟨fun z => ?_, ?_⟩
  · have := (zI_eq (b := 0) hn (by omega)).mp z; omega
  · rw [g_p_eq, h]
    have : sd * 1103515245 + 12345 = sx sd := rfl
    rw [this, dr_eq hn h0]; exact k
def yl (C : Nat) (sd : Int32) (c : Nat) : Int32 := if c < C then zI (dw (sxi (c + 1) sd) 10) else 0
def yl4 (C : Nat) (sd : Int32) : Nat → Int32 := l4 (yl C sd 0) (yl C sd 1) (yl C sd 2) (yl C sd 3)
theorem yl4_eq {C : Nat} {sd : Int32} {c : Nat} (h : c < 4) : yl4 C sd c = yl C sd c := by
  have : c = 0 ∨ c = 1 ∨ c = 2 ∨ c = 3 := by omega
  rcases this with h | h | h | h <;> subst h <;> rfl
/-- what comes of a year: done, the state, the seed -/
def yr (C R p : Nat) (f : Nat → Pol) (S : Sta) (sd : Int32) : Bool × Sta × Int32 :=
  if dw (sx (sx sd)) 3 = 0 then
    (if decide (S.2.2.1 < 16) && insOK p f S (dw (sx sd) R) (yl4 C (sx (sx sd))) then (true, insS S (yl4 C (sx (sx sd))), sxi C (sx (sx sd))) else (false, S, sxi C (sx (sx sd))))
  else if S.2.2.1 = 0 then (false, S, sx (sx sd))
  else if dw (sx (sx sd)) 3 = 2 then
    (if reads p f S (dw (sx sd) R) (dw (sx (sx (sx sd))) S.2.2.1) && pUp p f S (dw (sx sd) R) (dw (sx (sx (sx sd))) S.2.2.1) 3 then (true, delS S (dw (sx (sx (sx sd))) S.2.2.1), sx (sx (sx sd))) else (false, S, sx (sx (sx sd))))
  else
    (if (reads p f S (dw (sx sd) R) (dw (sx (sx (sx sd))) S.2.2.1) && pUp p f S (dw (sx sd) R) (dw (sx (sx (sx sd))) S.2.2.1) 2) && po_let p f (en (cs S (dw (sx (sx (sx sd))) S.2.2.1) (dw (sx (sx (sx (sx sd)))) C) (zI (dw (sx (sx (sx (sx (sx sd))))) 10))) (dw (sx sd) R) (dw (sx (sx (sx sd))) S.2.2.1)) S.2.1 2 true then (true, cs S (dw (sx (sx (sx sd))) S.2.2.1) (dw (sx (sx (sx (sx sd)))) C) (zI (dw (sx (sx (sx (sx (sx sd))))) 10)), sx (sx (sx (sx (sx sd))))) else (false, S, sx (sx (sx (sx (sx sd))))))
theorem nmb_10 {n : Nat} (h : n < 10) : nmb (zI n) = true := by
  have : ∀ n : Fin 10, nmb (zI n.1) = true := by decide
  exact this ⟨n, h⟩
/-- what a year may change of the class -/
def wYr (c k : Nat) : Bool := wY 45 c k || (Nat.beq c 61 && Nat.beq k 1)
theorem wY_wYr (c k : Nat) (h : wY 45 c k = true) : wYr c k = true := by unfold wYr; rw [h]; rfl
theorem wA_wYr (c k : Nat) (h : wA c k = true) : wYr c k = true := wY_wYr c k (wA_wY 45 c k h)
theorem wYr_ne {c k : Nat} (h1 : c ≠ 60) (h2 : c ≠ 59) (h3 : c ≠ 57) (h4 : c ≠ 45) (h5 : c ≠ 46) (h6 : c ≠ 47) (h7 : c ≠ 48) (h8 : c ≠ 61) : wYr c k = false := by
  unfold wYr
  rw [wY_ne h1 h2 h3 h4 h5 h6 h7, beq_ne h8]; rfl
theorem JC_61 {s : bi_St} {b a C R p : Nat} {f : Nat → Pol} {S : Sta} {k : Nat} {v : Int32} (hj : JC s b a C R p f S) : JC (st_p s 61 k v) b a C R p f S := by
  obtain ⟨h1, h2, h3, h4, h5, h6, h7⟩ := hj
  have hb : b ≤ 19 := by rcases h1.1 with z | z <;> omega
  have ha : a ≤ 51 := by rcases h4.1 with z | z | z | z <;> omega
  exact ⟨BC_fr (fun c k x y => g_p_a (by omega)) h1, h2, h3, SC_fr (fun c k x y => g_p_a (by omega)) h4, by rw [g_p_a (by omega)]; exact h5, h6, fun u hu => by rw [g_p_a (by omega)]; exact h7 u hu⟩
theorem HA_61 {s : bi_St} {a C m : Nat} {S : Sta} {H : List Sta} {k : Nat} {v : Int32} (hh : HA s a C m S H) : HA (st_p s 61 k v) a C m S H := by
  obtain ⟨h1, h2, h3, h4, h5⟩ := hh
  have ha : a ≤ 51 := by rcases h4.1 with z | z | z | z <;> omega
  exact ⟨h1, h2, by rw [g_p_a (by omega)]; exact h3, SC_fr (fun c k _ _ => g_p_a (by omega)) h4, AC_congr h1 _ _ _ (fun i j _ _ => by unfold ae; rw [g_p_a (by omega)]) h5⟩
theorem ct_passYear {X : bi_X} {d : Nat} {K : Int32 → bi_St → Prop} {E : Nat → bi_St → Prop} {s : bi_St} {b C R p m : Nat} {f : Nat → Pol} {S : Sta} {H : List Sta} {sd : Int32} (hj : JC s b 45 C R p f S) (hh : HA s 45 C m S H) (hcol : st_g s b 0 = zI C) (h1C : 1 ≤ C) (h1R : 1 ≤ R) (hsd : st_g s 61 1 = sd)
    (k : ∀ t m' H', fr wYr s t → JC t b 45 C R p f (yr C R p f S sd).2.1 → HA t 45 C m' (yr C R p f S sd).2.1 H' → st_g t 61 1 = (yr C R p f S sd).2.2 → K (b2i (yr C R p f S sd).1) t) : cI X (d + 6) 120 [.ref 61] s K E := by
  have hC := hj.1.2.1
  have hR := hj.2.2.2.2.2.1
  have hn16 := hj.2.2.2.1.2.1
  have hb : b ≤ 19 := by rcases hj.1.1 with z | z <;> omega
  have hu : dw (sx sd) R < R := dw_lt (by omega)
  refine en_X10_passYear ⟨by rw [hj.2.1]; exact hj.1.1, ?_⟩
  rw [hj.2.1, hj.2.2.2.2.1]
  refine ct_drawC (by omega) (by omega) hsd (ct_drawC (n := 3) (by omega) (by omega) (g_p_eq _ _ _ _) ?_)
  have f2 : fr wYr s (st_p (st_p s 61 1 (sx sd)) 61 1 (sx (sx sd))) := (fr.refl.p rfl).p rfl
  have hj2 : JC (st_p (st_p s 61 1 (sx sd)) 61 1 (sx (sx sd))) b 45 C R p f S := JC_61 (JC_61 hj)
  have hh2 : HA (st_p (st_p s 61 1 (sx sd)) 61 1 (sx (sx sd))) 45 C m S H := HA_61 (HA_61 hh)
  have s2 : st_g (st_p (st_p s 61 1 (sx sd)) 61 1 (sx (sx sd))) 61 1 = sx (sx sd) := g_p_eq _ _ _ _
  have c2 : st_g (st_p (st_p s 61 1 (sx sd)) 61 1 (sx (sx sd))) b 0 = zI C := by rw [g_p_a (by omega), g_p_a (by omega)]; exact hcol
  generalize st_p (st_p s 61 1 (sx sd)) 61 1 (sx (sx sd)) = t2 at f2 hj2 hh2 s2 c2
  have h3 := dw_lt (x := sx (sx sd)) (n := 3) (by omega)
  have e0 : (zI (dw (sx (sx sd)) 3) = 0) ↔ dw (sx (sx sd)) 3 = 0 := zI_eq (b := 0) (by omega) (by omega)
  have e2 : (zI (dw (sx (sx sd)) 3) = 2) ↔ dw (sx (sx sd)) 3 = 2 := zI_eq (b := 2) (by omega) (by omega)
  rw [e0, e2]
  refine ⟨fun hne => ?_, fun heq => ?_⟩
  · refine ⟨by rw [hj2.2.2.1]; exact hj2.2.2.2.1.1, ?_⟩
    rw [hj2.2.2.1, hj2.2.2.2.1.2.2.1]
    have e1 : ((1 : Int32) ≤ zI S.2.2.1) ↔ 1 ≤ S.2.2.1 := zI_le (a := 1) (by omega) (by omega)
    rw [e1]
    refine ⟨fun hn1 => ⟨hj2.2.2.2.1.1, ct_drawC (by omega) (by omega) s2 ?_⟩, fun hn0 => ?_⟩
    · have f3 : fr wYr s (st_p t2 61 1 (sx (sx (sx sd)))) := f2.p rfl
      have hj3 : JC (st_p t2 61 1 (sx (sx (sx sd)))) b 45 C R p f S := JC_61 hj2
      have hh3 : HA (st_p t2 61 1 (sx (sx (sx sd)))) 45 C m S H := HA_61 hh2
      have s3 : st_g (st_p t2 61 1 (sx (sx (sx sd)))) 61 1 = sx (sx (sx sd)) := g_p_eq _ _ _ _
      have c3 : st_g (st_p t2 61 1 (sx (sx (sx sd)))) b 0 = zI C := by rw [g_p_a (by omega)]; exact c2
      generalize st_p t2 61 1 (sx (sx (sx sd))) = t3 at f3 hj3 hh3 s3 c3
      have hr : dw (sx (sx (sx sd))) S.2.2.1 < S.2.2.1 := dw_lt (by omega)
      have hn0 : ¬ S.2.2.1 = 0 := by omega
      refine ⟨fun hn2 => ⟨by rw [hj3.2.1]; exact hj3.1.1, ?_⟩, fun h2 => ?_⟩
      · rw [hj3.2.1, c3]
        refine ct_drawC (by omega) (by omega) s3 (ct_drawC (n := 10) (by omega) (by omega) (g_p_eq _ _ _ _) ?_)
        have f5 : fr wYr s (st_p (st_p t3 61 1 (sx (sx (sx (sx sd))))) 61 1 (sx (sx (sx (sx (sx sd)))))) := (f3.p rfl).p rfl
        have s5 : st_g (st_p (st_p t3 61 1 (sx (sx (sx (sx sd))))) 61 1 (sx (sx (sx (sx (sx sd)))))) 61 1 = sx (sx (sx (sx (sx sd)))) := g_p_eq _ _ _ _
        have hj5 : JC (st_p (st_p t3 61 1 (sx (sx (sx (sx sd))))) 61 1 (sx (sx (sx (sx (sx sd)))))) b 45 C R p f S := JC_61 (JC_61 hj3)
        have hh5 : HA (st_p (st_p t3 61 1 (sx (sx (sx (sx sd))))) 61 1 (sx (sx (sx (sx (sx sd)))))) 45 C m S H := HA_61 (HA_61 hh3)
        generalize st_p (st_p t3 61 1 (sx (sx (sx (sx sd))))) 61 1 (sx (sx (sx (sx (sx sd))))) = t5 at f5 s5 hj5 hh5
        have hc : dw (sx (sx (sx (sx sd)))) C < C := dw_lt (by omega)
        have hv := nmb_10 (dw_lt (x := sx (sx (sx (sx (sx sd))))) (n := 10) (by omega))
        unfold yr at k
        rw [if_neg hne, if_neg hn0, if_neg hn2] at k
        refine ct_change hj5 hh5 (by omega) hr hc hv (fun t ht h => ⟨fun _ => ?_, fun z => absurd (by decide) z⟩) (fun t ht h1 h2 => ⟨fun _ => ?_, fun z => absurd (by decide) z⟩) (fun t ht h1 h2 hjt hht => ⟨fun z => absurd rfl z, fun _ => ?_⟩)
        · rw [h, Bool.false_and] at k
          exact k t m H (f5.trans (ht.mono wA_wYr)) (JC_fr ht hj5) (HA_wA ht hh5) (by rw [ht.g rfl]; exact s5)
        · rw [h1, h2, Bool.and_false] at k
          exact k t m H (f5.trans (ht.mono wA_wYr)) (JC_fr ht hj5) (HA_wA ht hh5) (by rw [ht.g rfl]; exact s5)
        · rw [h1, h2, Bool.true_and] at k
          exact k t _ _ (f5.trans (ht.mono wY_wYr)) hjt hht (by rw [ht.g rfl]; exact s5)
      · have h2 := Decidable.of_not_not h2
        unfold yr at k
        rw [if_neg hne, if_neg hn0, if_pos h2] at k
        refine ct_drop hj3 hh3 (by omega) hr (fun t ht h => ⟨by decide, ?_⟩) (fun t ht h hjt hht => ⟨by decide, ?_⟩)
        · rw [h] at k
          exact k t m H (f3.trans (ht.mono wA_wYr)) (JC_fr ht hj3) (HA_wA ht hh3) (by rw [ht.g rfl]; exact s3)
        · rw [h] at k
          exact k t _ _ (f3.trans (ht.mono wY_wYr)) hjt hht (by rw [ht.g rfl]; exact s3)
    · unfold yr at k
      rw [if_neg hne, if_pos (by omega)] at k
      exact k t2 m H f2 hj2 hh2 s2
  · have heq := Decidable.of_not_not heq
    unfold yr at k
    rw [if_pos heq] at k
    have loop : ∀ e n (t : bi_St), e = C - n → n ≤ C → fr wYr s t → JC t b 45 C R p f S → HA t 45 C m S H → st_g t b 0 = zI C → st_g t 61 1 = sxi n (sx (sx sd)) → (∀ c, c < n → st_g t 59 c = yl4 C (sx (sx sd)) c) → at_X10_passYear_27 X (d + 6) K E t (zI (dw (sx sd) R)) (zI n) := by
      intro e
      induction e with
      | zero =>
        intro n t he hn ht hjt hht hct hst hlt
        have : n = C := by omega
        subst this
        have fin : cI X (d + 5) 116 [.ref 61, .int (zI (dw (sx sd) R))] t (fun (r8 : Int32) (s8 : bi_St) => bi_bool r8 = true ∧ (K r8 s8)) (fun _ _ => False) := by
          refine ct_putLine (l := yl4 n (sx (sx sd))) hjt hht hct (by omega) hlt (fun t' ht' h => ⟨by decide, ?_⟩) (fun t' ht' h1 h2 h3 hj' hh' => ⟨by decide, ?_⟩)
          · have hc : (decide (S.2.2.1 < 16) && insOK p f S (dw (sx sd) R) (yl4 n (sx (sx sd)))) = false := by
              rcases h with h | h | h
              · simp [h]
              · exfalso
                rw [← Bool.not_eq_true, allB_iff] at h
                refine h (fun c hc => ?_)
                rw [yl4_eq (by omega)]
                unfold yl
                rw [if_pos hc]
                exact nmb_10 (dw_lt (by omega))
              · simp [h]
            rw [hc] at k
            exact k t' m H (ht.trans (ht'.mono wA_wYr)) (JC_fr ht' hjt) (HA_wA ht' hht) (by rw [ht'.g rfl]; exact hst)
          · have hc : (decide (S.2.2.1 < 16) && insOK p f S (dw (sx sd) R) (yl4 n (sx (sx sd)))) = true := by simp [h1, h3]
            rw [hc] at k
            exact k t' _ _ (ht.trans (ht'.mono wY_wYr)) hj' hh' (by rw [ht'.g rfl]; exact hst)
        refine go_X10_passYear_27 ⟨by rw [hjt.2.1]; exact hjt.1.1, fun _ => fin, fun z => absurd ?_ z⟩
        rw [hjt.2.1, hct]; exact (zI_le (by omega) (by omega)).mpr (Nat.le_refl _)
      | succ e ih =>
        intro n t he hn ht hjt hht hct hst hlt
        refine go_X10_passYear_27 ⟨by rw [hjt.2.1]; exact hjt.1.1, fun z => ?_, fun _ => ⟨fun z => ?_, fun _ => ?_⟩⟩
        · rw [hjt.2.1, hct, zI_le (by omega) (by omega)] at z; omega
        · have := (zI_le (a := 4) (by omega) (by omega)).mp z; omega
        · refine ct_drawC (n := 10) (by omega) (by omega) hst ⟨in_zI (by omega) (by omega), ?_⟩
          rw [zI_nat (by omega), zI_add1]
          have f59 : fr wA (st_p t 61 1 (sx (sxi n (sx (sx sd))))) (st_p (st_p t 61 1 (sx (sxi n (sx (sx sd))))) 59 n (zI (dw (sx (sxi n (sx (sx sd)))) 10))) := fr.refl.p rfl
          refine ih (n + 1) _ (by omega) (by omega) ((ht.p rfl).p rfl) (JC_fr f59 (JC_61 hjt)) (HA_wA f59 (HA_61 hht)) (by rw [g_p_a (by omega), g_p_a (by omega)]; exact hct) (by rw [g_p_a (by omega), g_p_eq]; rfl) (fun c hc => ?_)
          rw [g_p]
          by_cases hcn : c = n
          · subst hcn
            rw [if_pos ⟨rfl, rfl⟩, yl4_eq (by omega)]
            unfold yl
            rw [if_pos (by omega)]; rfl
          · rw [if_neg (fun z => hcn z.2), g_p_a (by omega)]; exact hlt c (by omega)
    exact loop C 0 t2 (by omega) (by omega) f2 hj2 hh2 c2 s2 (fun c hc => by omega)
end YEAR
