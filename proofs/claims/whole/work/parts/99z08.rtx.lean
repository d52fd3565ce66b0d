/-! ===== the reference reads a text: what it keeps ===== -/
section RTX
/-- t is s but for the ints in W and longs that are not of cell 112 -/
def fh (W : Nat → Nat → Prop) (s t : bi_St) : Prop := t.1 = s.1 ∧ (∀ i, st_gp t i = st_gp s i) ∧ (∀ a k, ¬ W a k → st_g t a k = st_g s a k) ∧ ∀ k, st_gl t 112 k = st_gl s 112 k
theorem fh.refl {W : Nat → Nat → Prop} {s : bi_St} : fh W s s := ⟨rfl, fun _ => rfl, fun _ _ _ => rfl, fun _ => rfl⟩
theorem fh.trans {W : Nat → Nat → Prop} {s t u : bi_St} (h : fh W s t) (k : fh W t u) : fh W s u := ⟨k.1.trans h.1, fun i => (k.2.1 i).trans (h.2.1 i), fun a q hw => (k.2.2.1 a q hw).trans (h.2.2.1 a q hw), fun q => (k.2.2.2 q).trans (h.2.2.2 q)⟩
theorem fh.p {W : Nat → Nat → Prop} {s t : bi_St} {a k : Nat} {v : Int32} (h : fh W s t) (hw : W a k) : fh W s (st_p t a k v) := by
  refine ⟨h.1, h.2.1, fun b q hb => ?_, h.2.2.2⟩
  rw [g_p]
  by_cases hc : b = a ∧ q = k
  · rw [hc.1, hc.2] at hb; exact absurd hw hb
  · rw [if_neg hc]; exact h.2.2.1 b q hb
theorem fh.f {V : Nat → Nat → Bool} {W : Nat → Nat → Prop} {s t u : bi_St} (h : fh W s t) (k : fr V t u) (hw : ∀ a q, V a q = true → W a q) (h1 : ∀ q, V 112 q = false) : fh W s u := by
  refine h.trans ⟨k.1, fun i => k.2.1 i, fun a q hn => k.2.2.1 a q ?_, fun q => k.2.2.2 112 q (Or.inl (h1 q))⟩
  cases hv : V a q
  · rfl
  · exact absurd (hw a q hv) hn
theorem fh.g {W : Nat → Nat → Prop} {s t : bi_St} (h : fh W s t) {a k : Nat} (hw : ¬ W a k) : st_g t a k = st_g s a k := h.2.2.1 a k hw
theorem fh.mono {W V : Nat → Nat → Prop} {s t : bi_St} (h : fh W s t) (hv : ∀ a k, W a k → V a k) : fh V s t := ⟨h.1, h.2.1, fun a k hn => h.2.2.1 a k (fun z => hn (hv a k z)), h.2.2.2⟩
theorem wRk_i {a k : Nat} (h : wRk a k = true) : a = 77 ∧ 7 ≤ k ∧ k ≤ 13 := by
  simp only [wRk, Bool.and_eq_true, Nat.beq_eq, Nat.ble_eq] at h
  exact h
theorem wEx_i {lo a k : Nat} (h : wEx lo a k = true) : (a = 77 ∧ ((7 ≤ k ∧ k ≤ 13) ∨ (19 ≤ k ∧ k ≤ 23))) ∨ (a = 80 ∧ lo ≤ k) ∨ a = 81 ∨ a = 82 := by
  simp only [wEx, wRk, wWd, Bool.or_eq_true, Bool.and_eq_true, Nat.beq_eq, Nat.ble_eq] at h
  omega
theorem wEb_i {lo a k : Nat} (h : wEb lo a k = true) : (a = 77 ∧ ((7 ≤ k ∧ k ≤ 13) ∨ (3 ≤ k ∧ k ≤ 4) ∨ (19 ≤ k ∧ k ≤ 23))) ∨ (a = 80 ∧ lo ≤ k) ∨ a = 81 ∨ a = 82 := by
  simp only [wEb, wEx, wRk, wWd, Bool.or_eq_true, Bool.and_eq_true, Nat.beq_eq, Nat.ble_eq] at h
  omega
theorem fh.rk {W : Nat → Nat → Prop} {s t u : bi_St} (h : fh W s t) (k : fr wRk t u) (hw : ∀ q, 7 ≤ q → q ≤ 13 → W 77 q) : fh W s u := h.f k (fun a q hq => by obtain ⟨h1, h2, h3⟩ := wRk_i hq; rw [h1]; exact hw q h2 h3) (fun q => wRk_ne (by omega))
/-- what reading a line may change of the reference -/
def wLn (c k : Nat) : Prop := (c = 77 ∧ 3 ≤ k ∧ k ≤ 23) ∨ (80 ≤ c ∧ c ≤ 82) ∨ c = 84 ∨ c = 86 ∨ c = 89
/-- without a fault -/
def wLg (c k : Nat) : Prop := (c = 77 ∧ 7 ≤ k ∧ k ≤ 23) ∨ (80 ≤ c ∧ c ≤ 82) ∨ c = 84 ∨ c = 86 ∨ c = 89
theorem wLg_wLn (c k : Nat) (h : wLg c k) : wLn c k := by unfold wLg at h; unfold wLn; omega
theorem fh.b {s t : bi_St} {x y : Int32} (h : fh wLg s t) : fh wLn s (st_p (st_p t 77 3 x) 77 4 y) := ((h.mono wLg_wLn).p (Or.inl ⟨rfl, by omega, by omega⟩)).p (Or.inl ⟨rfl, by omega, by omega⟩)
theorem ct_goR {X : bi_X} {d : Nat} {K : bi_St → Prop} {E : Nat → bi_St → Prop} {s : bi_St} {B : Nat → Nat} {N q : Nat} (hB : RB s B N) (hT : RT s B N q) (k : ∀ t, fr wRk s t → RB t B N → RT t B N (tE B N q) → K t) : cV X (d + 1) 172 [.ref 77] s K E := ct_goM (lo := 0) hB (tE_le (B := B) hT.1).2.1 hT.2.1 k
theorem ct_isSignA {X : bi_X} {d : Nat} {K : Int32 → bi_St → Prop} {E : Nat → bi_St → Prop} {s : bi_St} {x : Int32} (k : ∀ v, K v s) : cI X d 178 [.ref 77, .int x] s K E := en_X12_isSign ⟨fun _ => k _, fun _ => ⟨fun _ => k _, fun _ => k _⟩⟩
theorem ct_oneHere {X : bi_X} {d : Nat} {K : Int32 → bi_St → Prop} {E : Nat → bi_St → Prop} {s : bi_St} {B : Nat → Nat} {N q m : Nat} (hB : RB s B N) (hT : RT s B N q) (h3 : st_g s 77 3 = 0) (hm : m < 2147483648)
    (kT : nmF B N q m 3 = 0 → tK B N q = 2 → tV B N q < m → K (zI (tV B N q)) s)
    (kF : nmF B N q m 3 ≠ 0 → ∀ v, K v (st_p (st_p s 77 3 (zI (nmF B N q m 3))) 77 4 (zI (tS B N q)))) : cI X (d + 1) 181 [.ref 77, .int (zI m)] s K E := by
  have hr4 := rK_le (B := B) (N := N) (q := q)
  have hl := tL_lt (B := B) hT.1
  have hN := hB.1
  have e2 : (zI (rK B N q) = 2) ↔ tK B N q = 2 := by rw [← rK_2]; exact zI_eq (b := 2) (by omega) (by omega)
  have e4 : (zI (tL B N q) ≤ 4) ↔ tL B N q ≤ 4 := zI_le (b := 4) (by omega) (by omega)
  refine en_X12_oneHere (ct_isGoodY h3 ⟨fun _ => ?_, fun z => absurd (by decide) z⟩)
  rw [hT.2.2.1, e2, hT.2.2.2.2.1, e4]
  refine ⟨fun k2 => ⟨fun l4 => ?_, fun l4 => ?_⟩, fun n2 => ?_⟩
  · have hv := tV_lt k2
    have s11 : st_g s 77 11 = zI (tV B N q) := by rw [hT.2.2.2.2.2.1, if_pos k2]
    have en : nmF B N q m 3 = if m ≤ tV B N q then 3 else 0 := by unfold nmF; rw [if_pos k2, if_neg (by omega)]
    rw [en] at kT kF
    rw [s11, zI_lt (by omega) hm]
    refine ⟨fun hlt => kT (if_neg (by omega)) k2 hlt, fun hge => ct_wrong (f := 3) h3 hT.2.2.2.1 ?_⟩
    rw [if_pos (show m ≤ tV B N q by omega)] at kF
    exact kF (by omega) _
  · have en : nmF B N q m 3 = 2 := by unfold nmF; rw [if_pos k2, if_pos (by omega)]
    rw [en] at kF
    exact ct_wrong (f := 2) h3 hT.2.2.2.1 (kF (by omega) _)
  · have en : nmF B N q m 3 = 1 := by unfold nmF; rw [if_neg n2]
    rw [en] at kF
    exact ct_wrong (f := 1) h3 hT.2.2.2.1 (kF (by omega) _)
theorem ct_roleHere {X : bi_X} {d : Nat} {K : Int32 → bi_St → Prop} {E : Nat → bi_St → Prop} {s : bi_St} {B : Nat → Nat} {N q m : Nat} (hB : RB s B N) (hT : RT s B N q) (h3 : st_g s 77 3 = 0) (h15 : st_g s 77 15 = zI m) (hm : m < 2147483648)
    (kT : nmF B N q m 3 = 0 → tK B N q = 2 → tV B N q < m → K (zI (tV B N q)) s)
    (kF : nmF B N q m 3 ≠ 0 → ∀ v, K v (st_p (st_p s 77 3 (zI (nmF B N q m 3))) 77 4 (zI (tS B N q)))) : cI X (d + 2) 182 [.ref 77] s K E := by
  refine en_X12_roleHere ?_
  rw [h15]
  exact ct_oneHere hB hT h3 hm kT kF
/-- the fault of a number that must be l or more, and below m -/
def numF (B : Nat → Nat) (N q l m : Nat) : Nat := if tK B N q = 2 then (if 4 < tL B N q ∨ tV B N q < l ∨ m ≤ tV B N q then 2 else 0) else 1
theorem numF_0 {B : Nat → Nat} {N q m : Nat} : numF B N q 0 m = nmF B N q m 2 := by
  unfold numF nmF
  by_cases k2 : tK B N q = 2
  · rw [if_pos k2, if_pos k2]
    by_cases h4 : 4 < tL B N q
    · rw [if_pos (Or.inl h4), if_pos h4]
    · rw [if_neg h4]
      by_cases hm : m ≤ tV B N q
      · rw [if_pos hm, if_pos (Or.inr (Or.inr hm))]
      · rw [if_neg hm, if_neg (by omega)]
  · rw [if_neg k2, if_neg k2]
theorem numF_1 {B : Nat → Nat} {N q : Nat} : numF B N q 1 5 = clF B N q := by
  unfold clF
  rw [← numF_0]
  unfold numF
  by_cases k2 : tK B N q = 2
  · rw [if_pos k2, if_pos k2]
    by_cases h4 : 4 < tL B N q
    · rw [if_pos (Or.inl h4), if_pos (Or.inl h4), if_neg (by omega)]
    · by_cases hm : 5 ≤ tV B N q
      · rw [if_pos (Or.inr (Or.inr hm)), if_pos (Or.inr (Or.inr hm)), if_neg (by omega)]
      · by_cases h0 : tV B N q = 0
        · rw [if_pos (Or.inr (Or.inl (by omega))), if_neg (show ¬ (4 < tL B N q ∨ tV B N q < 0 ∨ 5 ≤ tV B N q) by omega), if_pos rfl, if_pos h0]
        · rw [if_neg (show ¬ (4 < tL B N q ∨ tV B N q < 1 ∨ 5 ≤ tV B N q) by omega), if_neg (show ¬ (4 < tL B N q ∨ tV B N q < 0 ∨ 5 ≤ tV B N q) by omega), if_pos rfl, if_neg h0]
  · rw [if_neg k2, if_neg k2, if_neg (by omega)]
theorem ct_number {X : bi_X} {d : Nat} {K : Int32 → bi_St → Prop} {E : Nat → bi_St → Prop} {s : bi_St} {B : Nat → Nat} {N q l m : Nat} (hB : RB s B N) (hT : RT s B N q) (h3 : st_g s 77 3 = 0) (hl : l < 2147483648) (hm : m + 1 < 2147483648)
    (kT : numF B N q l (m + 1) = 0 → tK B N q = 2 → ∀ t, fr wRk s t → RB t B N → RT t B N (tE B N q) → K (zI (tV B N q)) t)
    (kF : numF B N q l (m + 1) ≠ 0 → ∀ v, K v (st_p (st_p s 77 3 (zI (numF B N q l (m + 1)))) 77 4 (zI (tS B N q)))) : cI X (d + 2) 180 [.ref 77, .int (zI l), .int (zI m)] s K E := by
  have hr4 := rK_le (B := B) (N := N) (q := q)
  have htl := tL_lt (B := B) hT.1
  have hN := hB.1
  have e2 : (zI (rK B N q) = 2) ↔ tK B N q = 2 := by rw [← rK_2]; exact zI_eq (b := 2) (by omega) (by omega)
  have e4 : ((4 : Int32) < zI (tL B N q)) ↔ 4 < tL B N q := zI_lt (a := 4) (by omega) (by omega)
  refine en_X12_number (ct_isGoodY h3 ⟨fun _ => ?_, fun z => absurd (by decide) z⟩)
  rw [hT.2.2.1, e2, hT.2.2.2.2.1, e4]
  have n0 : ∀ f, 1 ≤ f → f ≤ 2 → ¬ st_g (st_p (st_p s 77 3 (zI f)) 77 4 (zI (tS B N q))) 77 3 = 0 := fun f h1 h2 z => by
    rw [g_p_k (by omega), g_p_eq] at z
    have := (zI_eq (b := 0) (show f < 2147483648 by omega) (by omega)).mp z
    omega
  have bad : numF B N q l (m + 1) = 2 → cV X (d + 1) 176 [.ref 77, .int (2 : Int32)] s (fun (s5 : bi_St) => cI X (d + 1) 177 [.ref 77] s5 (fun (r6 : Int32) (s6 : bi_St) => ((r6 = 0) → K (st_g s5 77 11) s6) ∧ (¬ (r6 = 0) → cV X (d + 1) 172 [.ref 77] s6 (fun (s7 : bi_St) => K (st_g s5 77 11) s7) (fun _ _ => False))) (fun _ _ => False)) (fun _ _ => False) := fun en => by
    rw [en] at kF
    exact ct_wrong (f := 2) h3 hT.2.2.2.1 (ct_isGoodN (n0 2 (by omega) (by omega)) ⟨fun _ => kF (by omega) _, fun z => absurd rfl z⟩)
  refine ⟨fun k2 => ⟨fun l4 => bad (by unfold numF; rw [if_pos k2, if_pos (Or.inl l4)]), fun l4 => ?_⟩, fun n2 => ?_⟩
  · have hv := tV_lt k2
    have s11 : st_g s 77 11 = zI (tV B N q) := by rw [hT.2.2.2.2.2.1, if_pos k2]
    rw [s11, zI_lt (by omega) hl, zI_le (by omega) (by omega)]
    refine ⟨fun hlt => bad (by unfold numF; rw [if_pos k2, if_pos (Or.inr (Or.inl hlt))]), fun hge => ⟨fun hle => ?_, fun hgt => bad (by unfold numF; rw [if_pos k2, if_pos (Or.inr (Or.inr (by omega)))])⟩⟩
    have en : numF B N q l (m + 1) = 0 := by unfold numF; rw [if_pos k2, if_neg (by omega)]
    exact ct_isGoodY h3 ⟨fun z => absurd z (by decide), fun _ => ct_goR hB hT (fun t ht hBt hTt => kT en k2 t ht hBt hTt)⟩
  · have en : numF B N q l (m + 1) = 1 := by unfold numF; rw [if_neg n2]
    rw [en] at kF
    exact ct_wrong (f := 1) h3 hT.2.2.2.1 (ct_isGoodN (n0 1 (by omega) (by omega)) ⟨fun _ => kF (by omega) _, fun z => absurd rfl z⟩)
theorem ct_numberN {X : bi_X} {d : Nat} {K : Int32 → bi_St → Prop} {E : Nat → bi_St → Prop} {s : bi_St} {x y : Int32} (h3 : ¬ st_g s 77 3 = 0) (k : K 0 s) : cI X (d + 1) 180 [.ref 77, .int x, .int y] s K E := en_X12_number (ct_isGoodN h3 ⟨fun z => absurd rfl z, fun _ => k⟩)
theorem ct_needR {X : bi_X} {d : Nat} {K : bi_St → Prop} {E : Nat → bi_St → Prop} {s : bi_St} {B : Nat → Nat} {N q : Nat} {c : Prop} [Decidable c] (hB : RB s B N) (hT : RT s B N q) (h3 : st_g s 77 3 = 0)
    (kT : c → ∀ t, fr wRk s t → RB t B N → RT t B N (tE B N q) → K t)
    (kF : ¬ c → K (st_p (st_p s 77 3 (zI 1)) 77 4 (zI (tS B N q)))) : cV X (d + 2) 179 [.ref 77, .int (b2i (decide c))] s K E := by
  refine en_X12_need (ct_isGoodY h3 ⟨fun _ => ?_, fun z => absurd (by decide) z⟩)
  rw [b2i_ne0]
  refine ⟨fun z => ct_wrong (f := 1) h3 hT.2.2.2.1 (kF (by simpa using z)), fun z => ct_goR hB hT (fun t ht hBt hTt => kT (by simpa using z) t ht hBt hTt)⟩
theorem ct_needN' {X : bi_X} {d : Nat} {K : bi_St → Prop} {E : Nat → bi_St → Prop} {s : bi_St} {x : Int32} (h3 : ¬ st_g s 77 3 = 0) (k : K s) : cV X (d + 1) 179 [.ref 77, .int x] s K E := en_X12_need (ct_isGoodN h3 ⟨fun z => absurd rfl z, fun _ => k⟩)
/-- a rule that is out below lo, or none -/
def ro (s : bi_St) (lo : Nat) (x : Int32) (P : Option Lp) : Prop := match P with
  | none => x = -1
  | some P => ∃ n, x = zI n ∧ n + (wds P).length < lo ∧ rc s 80 P n
theorem ro_keep {s t : bi_St} {lo lo' : Nat} {x : Int32} {P : Option Lp} (h : ∀ k, k < lo → st_g t 80 k = st_g s 80 k) (hl : lo ≤ lo') (hr : ro s lo x P) : ro t lo' x P := by
  cases P with
  | none => exact hr
  | some P =>
    obtain ⟨n, h1, h2, h3⟩ := hr
    exact ⟨n, h1, by omega, rc_low h P n h2 h3⟩
def RP (s : bi_St) (lo p : Nat) (f : Nat → Pol) : Prop := ∀ i, i < p → st_g s 84 (7 * i) = b2i (f i).1 ∧ st_g s 84 (7 * i + 1) = (f i).2.1 ∧ st_g s 84 (7 * i + 2) = zI (f i).2.2.1 ∧ ro s lo (st_g s 84 (7 * i + 3)) (f i).2.2.2.1 ∧ ro s lo (st_g s 84 (7 * i + 4)) (f i).2.2.2.2 ∧ st_g s 84 (7 * i + 5) = plI (f i).2.2.2.1 ∧ st_g s 84 (7 * i + 6) = plI (f i).2.2.2.2
def RVw (s : bi_St) (lo v : Nat) (g : Nat → Vw) : Prop := ∀ w, w < v → st_g s 86 (6 * w) = (g w).1 ∧ st_g s 86 (6 * w + 1) = b2i (g w).2.1 ∧ st_g s 86 (6 * w + 2) = (g w).2.2.1 ∧ ro s lo (st_g s 86 (6 * w + 3)) (some (g w).2.2.2.2) ∧ st_g s 86 (6 * w + 4) = zI (g w).2.2.2.2.length ∧ st_g s 86 (6 * w + 5) = b2i (g w).2.2.2.1
theorem RP_keep {s t : bi_St} {lo lo' p : Nat} {f : Nat → Pol} (h : ∀ k, k < lo → st_g t 80 k = st_g s 80 k) (hl : lo ≤ lo') (h84 : ∀ k, k < 7 * p → st_g t 84 k = st_g s 84 k) (hr : RP s lo p f) : RP t lo' p f := fun i hi => by
  obtain ⟨a1, a2, a3, a4, a5, a6, a7⟩ := hr i hi
  refine ⟨by rw [h84 _ (by omega)]; exact a1, by rw [h84 _ (by omega)]; exact a2, by rw [h84 _ (by omega)]; exact a3, ?_, ?_, by rw [h84 _ (by omega)]; exact a6, by rw [h84 _ (by omega)]; exact a7⟩
  · rw [h84 _ (by omega)]; exact ro_keep h hl a4
  · rw [h84 _ (by omega)]; exact ro_keep h hl a5
theorem RVw_keep {s t : bi_St} {lo lo' v : Nat} {g : Nat → Vw} (h : ∀ k, k < lo → st_g t 80 k = st_g s 80 k) (hl : lo ≤ lo') (h86 : ∀ k, k < 6 * v → st_g t 86 k = st_g s 86 k) (hr : RVw s lo v g) : RVw t lo' v g := fun i hi => by
  obtain ⟨a1, a2, a3, a4, a5, a6⟩ := hr i hi
  refine ⟨by rw [h86 _ (by omega)]; exact a1, by rw [h86 _ (by omega)]; exact a2, by rw [h86 _ (by omega)]; exact a3, ?_, by rw [h86 _ (by omega)]; exact a5, by rw [h86 _ (by omega)]; exact a6⟩
  rw [h86 _ (by omega)]; exact ro_keep h hl a4
/-- the reference within a text -/
def RXt (s : bi_St) (B : Nat → Nat) (N c : Nat) (T : Tx) (q lo : Nat) : Prop :=
  (RB s B N ∧ RT s B N q ∧ st_g s 77 3 = 0) ∧
  (st_g s 77 14 = zI (xC T) ∧ st_g s 77 15 = zI (xR T) ∧ st_g s 77 16 = zI (xn T) ∧ st_g s 77 17 = zI (xp T) ∧ st_g s 77 18 = zI (xv T) ∧ st_g s 77 19 = zI lo) ∧
  (xC T ≤ 4 ∧ xR T ≤ 6 ∧ xn T ≤ 16 ∧ xp T ≤ 8 ∧ xv T ≤ 3 ∧ 2 * lo ≤ 3 * q + c) ∧
  (∀ r, r < 6 → st_g s 89 r = xG T r) ∧ (∀ r c, r < xn T → c < xC T → st_g s 89 (8 + 4 * r + c) = xc T r c) ∧
  RP s lo (xp T) (xf T) ∧ RVw s lo (xv T) (xg T)
/-- the same but for the token -/
theorem RXt_tok {s t : bi_St} {B : Nat → Nat} {N c c' q q' lo : Nat} {T : Tx} (h : RXt s B N c T q lo) (ht : fr wRk s t) (hB : RB t B N) (hT : RT t B N q') (hq : 2 * lo ≤ 3 * q' + c') : RXt t B N c' T q' lo := by
  obtain ⟨⟨_, _, h3⟩, ⟨r14, r15, r16, r17, r18, r19⟩, ⟨c2, c3, c4, c5, c6, _⟩, hG, hcl, hP, hV⟩ := h
  have g : ∀ c k, (c ≠ 77 ∨ k < 7 ∨ 13 < k) → st_g t c k = st_g s c k := fun c k hh => ht.g (by
    cases hv : wRk c k
    · rfl
    · have := wRk_i hv; omega)
  exact ⟨⟨hB, hT, by rw [g _ _ (by omega)]; exact h3⟩, ⟨by rw [g _ _ (by omega)]; exact r14, by rw [g _ _ (by omega)]; exact r15, by rw [g _ _ (by omega)]; exact r16, by rw [g _ _ (by omega)]; exact r17, by rw [g _ _ (by omega)]; exact r18, by rw [g _ _ (by omega)]; exact r19⟩, ⟨c2, c3, c4, c5, c6, hq⟩, fun r hr => by rw [g _ _ (by omega)]; exact hG r hr, fun r c h1 h2 => by rw [g _ _ (by omega)]; exact hcl r c h1 h2, RP_keep (fun k _ => g _ _ (by omega)) (Nat.le_refl _) (fun k _ => g _ _ (by omega)) hP, RVw_keep (fun k _ => g _ _ (by omega)) (Nat.le_refl _) (fun k _ => g _ _ (by omega)) hV⟩
end RTX
