/-! ===== undoing, on both sides ===== -/
section UNDO
theorem ct_takeBack_no {X : bi_X} {d : Nat} {K : Int32 → bi_St → Prop} {E : Nat → bi_St → Prop} {s : bi_St} {a : Nat} (hS : st_isS a) (h4 : st_g s a 4 = 0) (k : K 0 s) : cI X (d + 1) 82 [.ref a] s K E := by
  refine en_X6_takeBack hS ⟨fun z => ?_, fun _ => k⟩
  rw [h4] at z; exact absurd z (by decide)
theorem ct_bringBack {X : bi_X} {d : Nat} {K : bi_St → Prop} {E : Nat → bi_St → Prop} {s : bi_St} {a r i n : Nat} (hS : st_isS a) (h0 : st_g s a 0 = zI n) (hn : n < 16) (hr : r ≤ n) (hi : i + 4 ≤ 240)
    (k : ∀ t, fr (fun c q => Nat.beq c (a + 1) || (Nat.beq c a && Nat.beq q 0)) s t → st_g t a 0 = zI (n + 1) → (∀ z, st_g t (a + 1) z = if 4 * r ≤ z ∧ z < 4 * r + 4 then st_g s (a + 3) (i + (z - 4 * r)) else if 4 * r + 4 ≤ z ∧ z < 4 * n + 4 then st_g s (a + 1) (z - 4) else st_g s (a + 1) z) → K t) : cV X d 83 [.ref a, .int (zI r), .int (zI i)] s K E := by
  have e4 : ((4 : Int32)).toNatClampNeg = 4 := rfl
  have e44 : zI (4 * r) + 4 = zI (4 * r + 4) := zI_add _ 4
  refine en_X6_bringBack hS ⟨fun z => ?_, fun _ => ⟨fun z => absurd z (zI_nn (by omega)), fun _ => ⟨fun _ => ?_, fun z => ?_⟩⟩⟩
  · rw [h0] at z; have := (zI_le (a := 16) (by omega) (by omega)).mp z; omega
  · rw [h0, mul4, e44, zI_sub hr, mul4, e4, zI_nat (a := 4 * r) (by omega), zI_nat (a := 4 * r + 4) (by omega), zI_nat (a := 4 * (n - r)) (by omega), zI_nat (a := i) (by omega)]
    refine ⟨⟨zI_nn (by omega), zI_nn (by omega), zI_nn (by omega), by omega, by omega⟩, ⟨zI_nn (by omega), zI_nn (by omega), by decide, by omega, by omega⟩, ?_⟩
    have g0 : st_g (st_cp (st_cp s (a + 1) (4 * r) (a + 1) (4 * r + 4) (4 * (n - r))) (a + 3) i (a + 1) (4 * r) 4) a 0 = zI n := by
      rw [g_cp, if_neg (fun w => by have := w.1; omega), g_cp, if_neg (fun w => by have := w.1; omega)]; exact h0
    rw [g0, zI_add1]
    refine k _ (((fr.refl.cp (fun k => by rw [beq_rf]; rfl)).cp (fun k => by rw [beq_rf]; rfl)).p (by rw [beq_rf]; simp)) (by rw [g_p_eq]) (fun z => ?_)
    rw [g_p_a (by omega), g_cp]
    by_cases h1 : 4 * r ≤ z ∧ z < 4 * r + 4
    · rw [if_pos ⟨rfl, h1⟩, if_pos h1, g_cp, if_neg (fun w => by have := w.1; omega)]
    · rw [if_neg (fun w => h1 w.2), if_neg h1, g_cp]
      by_cases h2 : 4 * r + 4 ≤ z ∧ z < 4 * n + 4
      · rw [if_pos ⟨rfl, by omega, by omega⟩, if_pos h2]
        congr 1
        omega
      · rw [if_neg (fun w => h2 ⟨w.2.1, by omega⟩), if_neg h2]
  · rw [h0] at z; exact absurd ((zI_le (by omega) (by omega)).mpr hr) z
theorem ct_takeBack {X : bi_X} {d : Nat} {K : Int32 → bi_St → Prop} {E : Nat → bi_St → Prop} {s : bi_St} {a C m : Nat} {S S' : Sta} {H : List Sta} (hh : HA s a C (m + 1) S (S' :: H)) (k : ∀ t, fr (wW a) s t → HA t a C m S' H → K 1 t) : cI X (d + 2) 82 [.ref a] s K E := by
  obtain ⟨hC, hm, h4, hSC, hU, hA⟩ := hh
  have hSC0 := hSC
  obtain ⟨hS, hn16, h0, h3, hG, hcl⟩ := hSC
  have eac : zI (m + 1) - 1 = zI m := by rw [zI_sub1 (by omega)]; rfl
  have e2 : zI (6 * m) + 2 = zI (6 * m + 2) := zI_add _ 2
  have e21 : zI (6 * m + 2) - 1 = zI (6 * m + 1) := by rw [zI_sub1 (by omega)]; rfl
  have e22 : zI (6 * m + 2) - 2 = zI (6 * m) := by
    have : zI (6 * m + 2) - 2 = zI (6 * m + 2 - 2) := zI_sub (m := 2) (by omega)
    rw [this]; rfl
  have e23 : zI (6 * m + 2) + 1 = zI (6 * m + 3) := zI_add1 _
  refine en_X6_takeBack hS ⟨fun _ => ?_, fun z => ?_⟩
  · rw [h4, eac]
    have f1 : fr (wW a) s (st_p s a 4 (zI m)) := fr.refl.p (wW_0 a).2.2
    have g4 : st_g (st_p s a 4 (zI m)) a 4 = zI m := g_p_eq _ _ _ _
    have gq : ∀ q, q ≠ 4 → st_g (st_p s a 4 (zI m)) a q = st_g s a q := fun q hq => g_p_k hq
    have gc : ∀ c q, c ≠ a → st_g (st_p s a 4 (zI m)) c q = st_g s c q := fun c q hc => g_p_a hc
    generalize st_p s a 4 (zI m) = t at f1 g4 gq gc
    rw [g4, mul6, e2, e21, e22, e23, zI_nat (a := 6 * m) (by omega), zI_nat (a := 6 * m + 1) (by omega), zI_nat (a := 6 * m + 2) (by omega), zI_nat (a := 6 * m + 3) (by omega), gc (a + 3) _ (by omega), gc (a + 3) _ (by omega), gc (a + 3) _ (by omega), gc (a + 3) _ (by omega), gq 0 (by omega), gq 3 (by omega), h0, h3]
    have hAt : ∀ w : bi_St, (∀ q, st_g w (a + 3) q = st_g t (a + 3) q) → AC C (ae w a) m S' H := fun w hw => AC_congr hC _ _ _ (fun i j _ _ => by unfold ae; rw [hw, gc _ _ (by omega)]) hA
    have hF : ∀ j, ae s a m j = st_g s (a + 3) (6 * m + j) := fun _ => rfl
    refine ⟨in_zI (by omega) (by omega), in_zI (by omega) (by omega), ?_⟩
    unfold un at hU
    simp only [hF, Nat.add_zero] at hU
    rcases hU with ⟨u0, u1, u2, u3⟩ | ⟨r, c, u0, u1, u2, u3, u4, u5, u6, u7⟩ | ⟨r, u0, u1, u2, u3, u4, u5, u6⟩ | ⟨r, o, u0, u1, u2, u3, u4, u5, u6, u7, u8⟩ | ⟨i, u0, u1, u2, u3, u4, u5, u6⟩
    · rw [u0]
      refine ⟨fun _ => en_J9_max_7cf53 ⟨fun z => ?_, fun _ => go_X6_takeBack_166 ?_⟩, fun z => absurd rfl z⟩
      · rw [zI_sub1 (by omega)] at z; exact absurd z (zI_nn (by omega))
      · rw [zI_sub1 (by omega)]
        refine k _ (f1.p (wW_0 a).1) ⟨hC, by omega, by rw [g_p_k (by omega)]; exact g4, ⟨hS, by omega, ?_, ?_, fun q hq => ?_, fun q z hq hz => ?_⟩, hAt _ (fun q => g_p_a (by omega))⟩
        · rw [g_p_eq]; congr 1; omega
        · rw [g_p_k (by omega), gq 3 (by omega), h3, u2.1]
        · rw [g_p_a (by omega), gc _ _ (by omega), hG q hq, u2.2 q hq]
        · rw [g_p_a (by omega), gc _ _ (by omega), hcl q z (by omega) hz, u3 q z hq hz]
    · rw [u0, u1, u2]
      refine ⟨fun z => absurd z (by decide), fun _ => ⟨fun _ => ⟨in_zI (by omega) (by omega), in_zI (by omega) (by omega), ct_setNumber hS (by omega) (by omega) (go_X6_takeBack_166 ?_)⟩, fun z => absurd rfl z⟩⟩
      refine k _ (f1.p (wW_1 a _)) ⟨hC, by omega, by rw [g_p_a (by omega)]; exact g4, ⟨hS, by omega, ?_, ?_, fun q hq => ?_, fun q z hq hz => ?_⟩, hAt _ (fun q => g_p_a (by omega))⟩
      · rw [g_p_a (by omega), gq 0 (by omega), h0, u5]
      · rw [g_p_a (by omega), gq 3 (by omega), h3, u6.1]
      · rw [g_p_a (by omega), gc _ _ (by omega), hG q hq, u6.2 q hq]
      · rw [u7 q z (by omega) hz, g_p]
        by_cases hqz : q = r ∧ z = c
        · rw [if_pos ⟨rfl, by rw [hqz.1, hqz.2]⟩, if_pos hqz]
        · rw [if_neg (fun w => hqz (by have := w.2; omega)), if_neg hqz, gc _ _ (by omega)]; exact hcl q z (by omega) hz
    · rw [u0, u1]
      refine ⟨fun z => absurd z (by decide), fun _ => ⟨fun z => absurd z (by decide), fun _ => ⟨fun _ => ?_, fun z => absurd rfl z⟩⟩⟩
      refine ct_bringBack (n := S.2.2.1) hS (by rw [gq 0 (by omega)]; exact h0) (by omega) u2 (by omega) (fun w hw w0 w1 => go_X6_takeBack_166 ?_)
      have fw : fr (wW a) t w := hw.mono (fun c q hz => by
        simp only [Bool.or_eq_true, Bool.and_eq_true, Nat.beq_eq] at hz
        rcases hz with hz | ⟨h1, h2⟩
        · rw [hz]; exact wW_1 a q
        · rw [h1, h2]; exact (wW_0 a).1)
      have wq : ∀ q, q ≠ 0 → st_g w a q = st_g t a q := fun q hq => hw.g (by rw [beq_ne (show a ≠ a + 1 by omega), beq_ne hq]; simp)
      have wc : ∀ c q, c ≠ a → c ≠ a + 1 → st_g w c q = st_g t c q := fun c q h1 h2 => hw.g (by rw [beq_ne h1, beq_ne h2]; rfl)
      refine k _ (f1.trans fw) ⟨hC, by omega, by rw [wq 4 (by omega)]; exact g4, ⟨hS, u4, by rw [w0, u3], ?_, fun q hq => ?_, fun q z hq hz => ?_⟩, hAt _ (fun q => wc _ _ (by omega) (by omega))⟩
      · rw [wq 3 (by omega), gq 3 (by omega), h3, u5.1]
      · rw [wc _ _ (by omega) (by omega), gc _ _ (by omega), hG q hq, u5.2 q hq]
      · rw [u6 q z hq hz, w1]
        by_cases hqr : q < r
        · rw [if_pos hqr, if_neg (fun w => by have := w.1; omega), if_neg (fun w => by have := w.1; omega), gc _ _ (by omega)]; exact hcl q z (by omega) hz
        · rw [if_neg hqr]
          by_cases hqe : q = r
          · subst hqe
            rw [if_pos rfl, if_pos ⟨by omega, by omega⟩, gc _ _ (by omega)]
            congr 1
            omega
          · rw [if_neg hqe, if_neg (fun w => by have := w.2; omega), if_pos ⟨by omega, by omega⟩, gc _ _ (by omega), show 4 * q + z - 4 = 4 * (q - 1) + z by omega]
            exact hcl (q - 1) z (by omega) hz
    · rw [u0, u1, u2]
      refine ⟨fun z => absurd z (by decide), fun _ => ⟨fun z => absurd z (by decide), fun _ => ⟨fun z => absurd z (by decide), fun _ => ⟨fun _ => ⟨fun z => absurd z (zI_nn (by omega)), fun _ => ⟨fun z => ?_, fun _ => ⟨in_zI (by omega) (by omega), in_zI (by omega) (by omega), in_zI (by omega) (by omega), go_X6_takeBack_166 ?_⟩⟩⟩, fun z => absurd rfl z⟩⟩⟩⟩
      · have := (zI_le (a := 6) (by omega) (by omega)).mp z; omega
      · rw [zI_nat (a := r) (by omega), gc (a + 2) _ (by omega), hG r u3]
        refine k _ (f1.p (wW_2 a _)) ⟨hC, by omega, by rw [g_p_a (by omega)]; exact g4, ⟨hS, by omega, ?_, ?_, fun q hq => ?_, fun q z hq hz => ?_⟩, hAt _ (fun q => g_p_a (by omega))⟩
        · rw [g_p_a (by omega), gq 0 (by omega), h0, u5]
        · rw [g_p_a (by omega), gq 3 (by omega), h3, u6]
        · rw [u7 q hq, g_p]
          by_cases hqr : q = r
          · rw [if_pos ⟨rfl, hqr⟩, if_pos hqr]; rfl
          · rw [if_neg (fun w => hqr w.2), if_neg hqr, gc _ _ (by omega)]; exact hG q hq
        · rw [g_p_a (by omega), gc _ _ (by omega), hcl q z (by omega) hz, u8 q z (by omega) hz]
    · rw [u0, u1]
      refine ⟨fun z => absurd z (by decide), fun _ => ⟨fun z => absurd z (by decide), fun _ => ⟨fun z => absurd z (by decide), fun _ => ⟨fun z => absurd z (by decide), fun _ => go_X6_takeBack_166 ?_⟩⟩⟩⟩
      refine k _ (f1.p (wW_0 a).2.1) ⟨hC, by omega, by rw [g_p_k (by omega)]; exact g4, ⟨hS, by omega, ?_, ?_, fun q hq => ?_, fun q z hq hz => ?_⟩, hAt _ (fun q => g_p_a (by omega))⟩
      · rw [g_p_k (by omega), gq 0 (by omega), h0, u3]
      · rw [g_p_eq, u4]; rfl
      · rw [g_p_a (by omega), gc _ _ (by omega), hG q hq, u5 q hq]
      · rw [g_p_a (by omega), gc _ _ (by omega), hcl q z (by omega) hz, u6 q z (by omega) hz]
  · rw [h4] at z; exact absurd ((zI_le (a := 1) (by omega) (by omega)).mpr (by omega)) z
/-- a row of numbers of the reference is a state -/
def SN (s : bi_St) (w b0 C : Nat) (S : Sta) : Prop := S.2.2.1 ≤ 16 ∧ st_g s w (b0 + 7) = zI S.2.2.1 ∧ st_g s w (b0 + 6) = S.2.1 ∧ (∀ r, r < 6 → st_g s w (b0 + r) = S.1 r) ∧ ∀ r c, r < S.2.2.1 → c < C → st_g s w (b0 + 8 + 4 * r + c) = S.2.2.2 r c
theorem SN_SR {s : bi_St} {b0 C : Nat} {S : Sta} (h : b0 ≤ 72) : SN s 90 b0 C S ↔ SR s b0 C S := ⟨fun k => ⟨h, k⟩, fun k => k.2⟩
theorem SN_cp {s t : bi_St} {w w' b b' C : Nat} {S : Sta} (hC : C ≤ 4) (h : ∀ q, q < 72 → st_g t w' (b' + q) = st_g s w (b + q)) (hs : SN s w b C S) : SN t w' b' C S := by
  obtain ⟨h1, h2, h3, h4, h5⟩ := hs
  exact ⟨h1, by rw [h 7 (by omega)]; exact h2, by rw [h 6 (by omega)]; exact h3, fun r hr => by rw [h r (by omega)]; exact h4 r hr, fun r c hr hc => by rw [show b' + 8 + 4 * r + c = b' + (8 + 4 * r + c) by omega, h _ (by omega), show b + (8 + 4 * r + c) = b + 8 + 4 * r + c by omega]; exact h5 r c hr hc⟩
/-- the reference's acts -/
def AR (C : Nat) (s : bi_St) (w : Nat) : Nat → List Sta → Prop
  | 0, H => H = []
  | _ + 1, [] => False
  | m + 1, S' :: H => SN s w (72 * m) C S' ∧ AR C s w m H
theorem AR_len {C : Nat} {s : bi_St} {w : Nat} : ∀ m H, AR C s w m H → H.length = m := by
  intro m
  induction m with
  | zero => intro H h; rw [show H = [] from h]; rfl
  | succ m ih =>
    intro H k
    cases H with
    | nil => exact absurd k id
    | cons S' H => rw [List.length_cons, ih H k.2]
theorem AR_cp {C : Nat} {s t : bi_St} {w w' : Nat} (hC : C ≤ 4) : ∀ m H, (∀ q, q < 72 * m → st_g t w' q = st_g s w q) → AR C s w m H → AR C t w' m H := by
  intro m
  induction m with
  | zero => intro H _ h; exact h
  | succ m ih =>
    intro H h k
    cases H with
    | nil => exact k
    | cons S' H => exact ⟨SN_cp hC (fun q hq => h _ (by omega)) k.1, ih H (fun q hq => h q (by omega)) k.2⟩
theorem AR_shift {C : Nat} {s t : bi_St} {w : Nat} (hC : C ≤ 4) : ∀ m H, (∀ q, q < 72 * m → st_g t w q = st_g s w (q + 72)) → AR C s w (m + 1) H → AR C t w m H.dropLast := by
  intro m
  induction m with
  | zero =>
    intro H _ h
    have := AR_len _ _ h
    cases H with
    | nil => exact absurd h id
    | cons S' H =>
      cases H with
      | nil => rfl
      | cons => simp at this
  | succ m ih =>
    intro H h k
    cases H with
    | nil => exact absurd k id
    | cons S' H =>
      have hl := AR_len _ _ k.2
      cases H with
      | nil => simp at hl
      | cons S2 H2 =>
        rw [List.dropLast_cons_of_ne_nil (by simp)]
        exact ⟨SN_cp hC (fun q hq => by rw [h _ (by omega)]; congr 1; omega) k.1, ih (S2 :: H2) (fun q hq => h q (by omega)) k.2⟩
end UNDO
