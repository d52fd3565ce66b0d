/-! ===== known words, on both sides ===== -/
section WORD
def wW0 : List (List Nat) := [[114, 101, 97, 100], [105, 110, 115, 101, 114, 116], [117, 112, 100, 97, 116, 101], [100, 101, 108, 101, 116, 101], [97, 110, 121], [99, 111, 108, 117, 109, 110, 115], [114, 111, 108, 101], [114, 111, 119], [112, 101, 114, 109, 105, 116], [114, 101, 115, 116, 114, 105, 99, 116], [97, 108, 108], [117, 115, 105, 110, 103], [99, 104, 101, 99, 107], [118, 105, 101, 119], [99, 97, 108, 108, 101, 114], [111, 119, 110, 101, 114], [98, 97, 114, 114, 105, 101, 114], [111, 102], [119, 104, 101, 114, 101], [109, 101], [104, 97, 115], [112, 101, 101, 107], [97, 110, 100], [111, 114], [110, 111, 116]]
def cod (l : List Nat) : Nat := l.foldl (fun c x => c * 32 + (x - 96)) 0
def codK (k : Nat) : Nat := cod (wW0.getD k [])
def fnd (c : Nat) : Nat → Nat → Nat
  | 0, _ => 25
  | n + 1, k => if codK k = c then k else fnd c n (k + 1)
/-- which known word the token is; 25: none -/
def kn (B : Nat → Nat) (N q : Nat) : Nat := if tK B N q = 1 ∧ tL B N q ≤ 8 ∧ tL B N q ≠ 1 then fnd (wcd B (tS B N q) (tL B N q)) 25 0 else 25
theorem fnd_K : ∀ k : Fin 25, fnd (codK k.1) 25 0 = k.1 := by decide +kernel
theorem fnd_le : ∀ n k c, n + k = 25 → fnd c n k ≤ 25 := by
  intro n
  induction n with
  | zero => intro k c _; exact Nat.le_refl _
  | succ n ih =>
    intro k c h
    rw [fnd]
    by_cases hc : codK k = c
    · rw [if_pos hc]; omega
    · rw [if_neg hc]; exact ih _ _ (by omega)
theorem fnd_c : ∀ n k c, n + k = 25 → fnd c n k < 25 → codK (fnd c n k) = c := by
  intro n
  induction n with
  | zero => intro k c _ h; rw [fnd] at h; omega
  | succ n ih =>
    intro k c h h2
    rw [fnd] at h2 ⊢
    by_cases hc : codK k = c
    · rw [if_pos hc]; exact hc
    · rw [if_neg hc] at h2 ⊢; exact ih _ _ (by omega) h2
theorem kn_le {B : Nat → Nat} {N q : Nat} : kn B N q ≤ 25 := by
  unfold kn
  by_cases h : tK B N q = 1 ∧ tL B N q ≤ 8 ∧ tL B N q ≠ 1
  · rw [if_pos h]; exact fnd_le 25 0 _ rfl
  · rw [if_neg h]; omega
theorem kn_lt {B : Nat → Nat} {N q : Nat} (h : kn B N q < 25) : tK B N q = 1 ∧ tL B N q ≤ 8 ∧ tL B N q ≠ 1 ∧ codK (kn B N q) = wcd B (tS B N q) (tL B N q) := by
  unfold kn at h ⊢
  by_cases hc : tK B N q = 1 ∧ tL B N q ≤ 8 ∧ tL B N q ≠ 1
  · rw [if_pos hc] at h ⊢; exact ⟨hc.1, hc.2.1, hc.2.2, fnd_c 25 0 _ rfl h⟩
  · rw [if_neg hc] at h; omega
/-- letters of the token, as a list -/
def lts (B : Nat → Nat) (a : Nat) : Nat → List Nat
  | 0 => []
  | n + 1 => lts B a n ++ [B (a + n)]
theorem lts_len (B : Nat → Nat) (a : Nat) : ∀ n, (lts B a n).length = n := by
  intro n
  induction n with
  | zero => rfl
  | succ n ih => rw [lts, List.length_append, ih]; rfl
theorem lts_get (B : Nat → Nat) (a : Nat) : ∀ n i, i < n → (lts B a n)[i]? = some (B (a + i)) := by
  intro n
  induction n with
  | zero => intro i h; omega
  | succ n ih =>
    intro i h
    rw [lts]
    by_cases hi : i < n
    · rw [List.getElem?_append_left (by rw [lts_len]; exact hi)]; exact ih i hi
    · have : i = n := by omega
      subst this
      rw [List.getElem?_append_right (by rw [lts_len]; exact Nat.le_refl _), lts_len, Nat.sub_self]; rfl
theorem cod_snoc (l : List Nat) (x : Nat) : cod (l ++ [x]) = cod l * 32 + (x - 96) := by unfold cod; rw [List.foldl_append]; rfl
theorem wcd_lts (B : Nat → Nat) (a : Nat) : ∀ n, wcd B a n = cod (lts B a n) := by
  intro n
  induction n with
  | zero => rfl
  | succ n ih => rw [wcd, lts, cod_snoc, ih]
theorem cod_inj : ∀ n (l m : List Nat), l.length = n → (∀ x, x ∈ l → isLt x = true) → (∀ x, x ∈ m → isLt x = true) → cod l = cod m → l = m := by
  have dig : ∀ x, isLt x = true → 1 ≤ x - 96 ∧ x - 96 < 32 ∧ 97 ≤ x := fun x h => by
    unfold isLt at h
    rw [Bool.and_eq_true] at h
    have h3 := Nat.le_of_ble_eq_true h.1
    have h4 := Nat.le_of_ble_eq_true h.2
    omega
  intro n
  induction n with
  | zero =>
    intro l m hl h1 h2 he
    have : l = [] := List.length_eq_zero_iff.mp hl
    subst this
    rcases List.eq_nil_or_concat m with h | ⟨m', y, h⟩
    · rw [h]
    · rw [List.concat_eq_append] at h
      subst h
      rw [cod_snoc] at he
      have := dig y (h2 y (by simp))
      have h0 : cod [] = 0 := rfl
      omega
  | succ n ih =>
    intro l m hl h1 h2 he
    rcases List.eq_nil_or_concat l with h | ⟨l', x, h⟩
    · subst h; cases hl
    · rw [List.concat_eq_append] at h
      subst h
      have dx := dig x (h1 x (by simp))
      rw [cod_snoc] at he
      rcases List.eq_nil_or_concat m with h | ⟨m', y, h⟩
      · subst h
        have h0 : cod [] = 0 := rfl
        omega
      · rw [List.concat_eq_append] at h
        subst h
        have dy := dig y (h2 y (by simp))
        rw [cod_snoc] at he
        have hl' : l'.length = n := by rw [List.length_append] at hl; simp at hl; omega
        have e1 : cod l' = cod m' := by omega
        have e2 : x = y := by omega
        rw [ih l' m' hl' (fun z hz => h1 z (by simp [hz])) (fun z hz => h2 z (by simp [hz])) e1, e2]
/-- the class's string: which word -/
def wPm (j : Nat) : Nat := [23, 22, 24, 19, 20, 21, 5, 6, 7, 8, 9, 13, 11, 12, 10, 0, 1, 2, 3, 4, 16, 18, 14, 15, 17].getD j 25
theorem wPm_ok : ∀ j : Fin 25, wPm j.1 < 25 ∧ wW0.getD (wPm j.1) [] = bi_TX.getD j.1 [] ∧ 2 ≤ (bi_TX.getD j.1 []).length ∧ (bi_TX.getD j.1 []).length ≤ 8 ∧ ((bi_TX.getD j.1 []).all isLt) = true := by decide +kernel
theorem kn_iff {B : Nat → Nat} {N q j : Nat} (hj : j < 25) (hk : tK B N q = 1) : kn B N q = wPm j ↔ lts B (tS B N q) (tL B N q) = bi_TX.getD j [] := by
  obtain ⟨p1, p2, p3, p4, p5⟩ := wPm_ok ⟨j, hj⟩
  simp only at p1 p2 p3 p4 p5
  have hlt := tK_lt hk
  have hal : ∀ x, x ∈ lts B (tS B N q) (tL B N q) → isLt x = true := fun x hx => by
    obtain ⟨i, hi⟩ := List.getElem?_of_mem hx
    have hil : i < tL B N q := by
      have := (List.getElem?_eq_some_iff.mp hi).1
      rw [lts_len] at this; exact this
    rw [lts_get _ _ _ _ hil] at hi
    injection hi with hi
    rw [← hi]
    exact hlt _ (by omega) (by unfold tL at hil; omega)
  refine ⟨fun h => ?_, fun h => ?_⟩
  · obtain ⟨-, -, -, a4⟩ := kn_lt (B := B) (N := N) (q := q) (by rw [h]; exact p1)
    rw [h, wcd_lts] at a4
    unfold codK at a4
    rw [p2] at a4
    exact cod_inj _ _ _ rfl hal (fun x hx => List.all_eq_true.mp p5 x hx) a4.symm
  · have hl : tL B N q = (bi_TX.getD j []).length := by rw [← h, lts_len]
    unfold kn
    rw [if_pos ⟨hk, by omega, by omega⟩, wcd_lts, h, ← p2]
    exact fnd_K ⟨wPm j, p1⟩
theorem ct_isWord {X : bi_X} {d : Nat} {K : Int32 → bi_St → Prop} {E : Nat → bi_St → Prop} {s : bi_St} {B : Nat → Nat} {N q j : Nat} (hT : TB s B N) (hq : CT s B N q) (hj : j < 25) (k : K (b2i (decide (kn B N q = wPm j))) s) : cI X d 96 [.ref 1, .ref (j + 5000)] s K E := by
  have hN := hT.1
  have hS := tS_le (B := B) hq.1
  have hE := tE_le (B := B) hq.1
  obtain ⟨p1, p2, p3, p4, p5⟩ := wPm_ok ⟨j, hj⟩
  simp only at p1 p2 p3 p4 p5
  have hk3 : tK B N q < 2147483648 := by
    unfold tK kX
    by_cases h1 : N ≤ tS B N q
    · rw [if_pos h1]; omega
    · rw [if_neg h1]
      by_cases h2 : isLt (B (tS B N q)) = true
      · rw [if_pos h2]; omega
      · rw [if_neg h2]
        by_cases h3 : isDg (B (tS B N q)) = true
        · rw [if_pos h3]; omega
        · rw [if_neg h3]; omega
  have e1 : (zI (tK B N q) = 1) ↔ tK B N q = 1 := zI_eq (b := 1) hk3 (by omega)
  refine en_X8_isWord hj ?_
  rw [hq.2.1, hq.2.2.1, hq.2.2.2.1, e1, zI_sub hE.2.2]
  refine ⟨fun h => ?_, fun h => ?_⟩
  · have : ¬ kn B N q = wPm j := fun z => h (kn_lt (by rw [z]; exact p1)).1
    rw [decide_eq_false this] at k; exact k
  · have hk := Decidable.of_not_not h
    have hlt := tK_lt hk
    have h0 := tK_0 (B := B) hq.1 (by omega)
    have iff := kn_iff hj hk
    obtain ⟨w, hw⟩ : ∃ w, w = bi_TX.getD j [] := ⟨_, rfl⟩
    rw [← hw] at iff p3 p4 p5 ⊢
    have eL : (zI (tE B N q - tS B N q) = Int32.ofNat w.length) ↔ tL B N q = w.length := zI_eq (b := w.length) (by omega) (by omega)
    rw [eL]
    refine ⟨fun hl => ?_, fun hl => ?_⟩
    · have hl' : tE B N q - tS B N q = w.length := hl
      have loop : ∀ m n, m + n = w.length → (∀ i, i < n → w[i]? = some (B (tS B N q + i))) → at_X8_isWord_28 X d K E s (zI n) j := by
        intro m
        induction m with
        | zero =>
          intro n hm hall
          have hy : kn B N q = wPm j := iff.mpr (by
            apply List.ext_getElem?
            intro i
            by_cases hi : i < w.length
            · rw [lts_get _ _ _ _ (by omega), hall i (by omega)]
            · rw [List.getElem?_eq_none (by rw [lts_len]; omega), List.getElem?_eq_none (by omega)])
          rw [decide_eq_true hy] at k
          refine go_X8_isWord_28 hj ⟨fun _ => k, fun z => absurd ?_ z⟩
          rw [← hw]
          exact (zI_le (a := w.length) (by omega) (by omega)).mpr (by omega)
        | succ m ih =>
          intro n hm hall
          have hb := hT.2.2 (tS B N q + n) (by omega)
          have hlt' := hlt (tS B N q + n) (by omega) (by omega)
          have hwn : w[n]? = some w[n] := List.getElem?_eq_getElem (by omega)
          have hwl : isLt w[n] = true := List.all_eq_true.mp p5 _ (List.getElem_mem _)
          have hw122 : w[n] < 128 := by
            unfold isLt at hwl
            rw [Bool.and_eq_true] at hwl
            have := Nat.le_of_ble_eq_true hwl.2; omega
          have eD : w.getD n 0 = w[n] := by rw [List.getD_eq_getElem?_getD, hwn]; rfl
          refine go_X8_isWord_28 hj ?_
          rw [← hw, hq.2.2.1, zI_add, zI_nat (a := n) (by omega), zI_nat (a := tS B N q + n) (by omega), hb.2, eD, zI_add1]
          have eq2 : (sb (B (tS B N q + n)) = Int32.ofNat w[n]) ↔ B (tS B N q + n) = w[n] := sb_eq hb.1 hw122
          rw [eq2]
          refine ⟨fun z => ?_, fun _ => ⟨in_zI (by omega) (by omega), in_zI (by omega) (by omega), fun he => ?_, fun hne => ?_⟩⟩
          · have := (zI_le (a := w.length) (by omega) (by omega)).mp z; omega
          · refine ih (n + 1) (by omega) (fun i hi => ?_)
            by_cases hin : i = n
            · subst hin; rw [hwn, he]
            · exact hall i (by omega)
          · have hno : ¬ kn B N q = wPm j := fun z => by
              have := iff.mp z
              have h2 := lts_get B (tS B N q) (tL B N q) n (by omega)
              rw [this, hwn] at h2
              injection h2 with h2
              exact hne h2.symm
            rw [decide_eq_false hno] at k; exact k
      exact loop w.length 0 (by omega) (fun i hi => by omega)
    · have hno : ¬ kn B N q = wPm j := fun z => hl (by rw [← iff.mp z, lts_len])
      rw [decide_eq_false hno] at k; exact k
def knI (k : Nat) : Int32 := if k = 25 then -1 else zI k
theorem ct_spelled {X : bi_X} {d : Nat} {K : Int64 → bi_St → Prop} {E : Nat → bi_St → Prop} {s : bi_St} {a b c e f g h i : Int32} (k : K (let v0 := ((((a).toInt64 - (96 : Int64)) <<< (((5 : Int32)).toInt64 &&& 63)) ||| ((b - (96 : Int32))).toInt64)
    let st := fun (v : Int64) (x : Int32) => if x = 0 then v else ((v <<< (((5 : Int32)).toInt64 &&& 63)) ||| ((x - (96 : Int32))).toInt64)
    st (st (st (st (st (st v0 c) e) f) g) h) i) s) : cL X d 173 [.int a, .int b, .int c, .int e, .int f, .int g, .int h, .int i] s K E := by
  simp only at k
  refine en_X12_spelled ⟨fun h1 => ?_, fun h1 => ?_⟩
  all_goals (first | rw [if_pos h1] at k | rw [if_neg h1] at k)
  all_goals refine go_X12_spelled_32 ⟨fun h2 => ?_, fun h2 => ?_⟩
  all_goals (first | rw [if_pos h2] at k | rw [if_neg h2] at k)
  all_goals refine go_X12_spelled_48 ⟨fun h3 => ?_, fun h3 => ?_⟩
  all_goals (first | rw [if_pos h3] at k | rw [if_neg h3] at k)
  all_goals refine go_X12_spelled_66 ⟨fun h4 => ?_, fun h4 => ?_⟩
  all_goals (first | rw [if_pos h4] at k | rw [if_neg h4] at k)
  all_goals refine go_X12_spelled_84 ⟨fun h5 => ?_, fun h5 => ?_⟩
  all_goals (first | rw [if_pos h5] at k | rw [if_neg h5] at k)
  all_goals refine go_X12_spelled_102 ⟨fun h6 => ?_, fun h6 => ?_⟩
  all_goals (first | rw [if_pos h6] at k | rw [if_neg h6] at k)
  all_goals exact go_X12_spelled_120 k
theorem ct_spelled' {X : bi_X} {d : Nat} {K : Int64 → bi_St → Prop} {E : Nat → bi_St → Prop} {s : bi_St} {a b c e f g h i : Int32} {v : Int64} (hv : v = (let v0 := ((((a).toInt64 - (96 : Int64)) <<< (((5 : Int32)).toInt64 &&& 63)) ||| ((b - (96 : Int32))).toInt64)
    let st := fun (v : Int64) (x : Int32) => if x = 0 then v else ((v <<< (((5 : Int32)).toInt64 &&& 63)) ||| ((x - (96 : Int32))).toInt64)
    st (st (st (st (st (st v0 c) e) f) g) h) i)) (k : K v s) : cL X d 173 [.int a, .int b, .int c, .int e, .int f, .int g, .int h, .int i] s K E := by
  subst hv; exact ct_spelled k
theorem ct_letters {X : bi_X} {d : Nat} {K : Int64 → bi_St → Prop} {E : Nat → bi_St → Prop} {s : bi_St} {w : Nat} (hw : w < 25) (k : K (zL (codK w)) s) : cL X (d + 1) 174 [.int (zI w)] s K E := by
  have ec : ∀ n : Nat, n < 2147483648 → (zI w = OfNat.ofNat n ↔ w = n) := fun n hn => zI_eq (by omega) hn
  have fin : ∀ (n : Nat) {Q : Prop}, n < 25 → w = n → (K (zL (codK n)) s → Q) → Q := fun n Q _ h f => f (by rw [← h]; exact k)
  exact en_X12_letters ⟨fun h => fin 0 (by omega) ((ec 0 (by omega)).mp h) (fun kk => ct_spelled' (v := zL (codK 0)) (by decide +kernel) kk), fun n0 => ⟨fun h => fin 1 (by omega) ((ec 1 (by omega)).mp h) (fun kk => ct_spelled' (v := zL (codK 1)) (by decide +kernel) kk), fun n1 => ⟨fun h => fin 2 (by omega) ((ec 2 (by omega)).mp h) (fun kk => ct_spelled' (v := zL (codK 2)) (by decide +kernel) kk), fun n2 => ⟨fun h => fin 3 (by omega) ((ec 3 (by omega)).mp h) (fun kk => ct_spelled' (v := zL (codK 3)) (by decide +kernel) kk), fun n3 => ⟨fun h => fin 4 (by omega) ((ec 4 (by omega)).mp h) (fun kk => ct_spelled' (v := zL (codK 4)) (by decide +kernel) kk), fun n4 => ⟨fun h => fin 5 (by omega) ((ec 5 (by omega)).mp h) (fun kk => ct_spelled' (v := zL (codK 5)) (by decide +kernel) kk), fun n5 => ⟨fun h => fin 6 (by omega) ((ec 6 (by omega)).mp h) (fun kk => ct_spelled' (v := zL (codK 6)) (by decide +kernel) kk), fun n6 => ⟨fun h => fin 7 (by omega) ((ec 7 (by omega)).mp h) (fun kk => ct_spelled' (v := zL (codK 7)) (by decide +kernel) kk), fun n7 => ⟨fun h => fin 8 (by omega) ((ec 8 (by omega)).mp h) (fun kk => ct_spelled' (v := zL (codK 8)) (by decide +kernel) kk), fun n8 => ⟨fun h => fin 9 (by omega) ((ec 9 (by omega)).mp h) (fun kk => ct_spelled' (v := zL (codK 9)) (by decide +kernel) kk), fun n9 => ⟨fun h => fin 10 (by omega) ((ec 10 (by omega)).mp h) (fun kk => ct_spelled' (v := zL (codK 10)) (by decide +kernel) kk), fun n10 => ⟨fun h => fin 11 (by omega) ((ec 11 (by omega)).mp h) (fun kk => ct_spelled' (v := zL (codK 11)) (by decide +kernel) kk), fun n11 => ⟨fun h => fin 12 (by omega) ((ec 12 (by omega)).mp h) (fun kk => ct_spelled' (v := zL (codK 12)) (by decide +kernel) kk), fun n12 => ⟨fun h => fin 13 (by omega) ((ec 13 (by omega)).mp h) (fun kk => ct_spelled' (v := zL (codK 13)) (by decide +kernel) kk), fun n13 => ⟨fun h => fin 14 (by omega) ((ec 14 (by omega)).mp h) (fun kk => ct_spelled' (v := zL (codK 14)) (by decide +kernel) kk), fun n14 => ⟨fun h => fin 15 (by omega) ((ec 15 (by omega)).mp h) (fun kk => ct_spelled' (v := zL (codK 15)) (by decide +kernel) kk), fun n15 => ⟨fun h => fin 16 (by omega) ((ec 16 (by omega)).mp h) (fun kk => ct_spelled' (v := zL (codK 16)) (by decide +kernel) kk), fun n16 => ⟨fun h => fin 17 (by omega) ((ec 17 (by omega)).mp h) (fun kk => ct_spelled' (v := zL (codK 17)) (by decide +kernel) kk), fun n17 => ⟨fun h => fin 18 (by omega) ((ec 18 (by omega)).mp h) (fun kk => ct_spelled' (v := zL (codK 18)) (by decide +kernel) kk), fun n18 => ⟨fun h => fin 19 (by omega) ((ec 19 (by omega)).mp h) (fun kk => ct_spelled' (v := zL (codK 19)) (by decide +kernel) kk), fun n19 => ⟨fun h => fin 20 (by omega) ((ec 20 (by omega)).mp h) (fun kk => ct_spelled' (v := zL (codK 20)) (by decide +kernel) kk), fun n20 => ⟨fun h => fin 21 (by omega) ((ec 21 (by omega)).mp h) (fun kk => ct_spelled' (v := zL (codK 21)) (by decide +kernel) kk), fun n21 => ⟨fun h => fin 22 (by omega) ((ec 22 (by omega)).mp h) (fun kk => ct_spelled' (v := zL (codK 22)) (by decide +kernel) kk), fun n22 => ⟨fun h => fin 23 (by omega) ((ec 23 (by omega)).mp h) (fun kk => ct_spelled' (v := zL (codK 23)) (by decide +kernel) kk), fun n23 => fin 24 (by omega) (by have h0 : ∀ n : Nat, n < 2147483648 → ¬ zI w = OfNat.ofNat n → ¬ w = n := fun n hn h z => h ((ec n hn).mpr z); have := h0 0 (by omega) n0; have := h0 1 (by omega) n1; have := h0 2 (by omega) n2; have := h0 3 (by omega) n3; have := h0 4 (by omega) n4; have := h0 5 (by omega) n5; have := h0 6 (by omega) n6; have := h0 7 (by omega) n7; have := h0 8 (by omega) n8; have := h0 9 (by omega) n9; have := h0 10 (by omega) n10; have := h0 11 (by omega) n11; have := h0 12 (by omega) n12; have := h0 13 (by omega) n13; have := h0 14 (by omega) n14; have := h0 15 (by omega) n15; have := h0 16 (by omega) n16; have := h0 17 (by omega) n17; have := h0 18 (by omega) n18; have := h0 19 (by omega) n19; have := h0 20 (by omega) n20; have := h0 21 (by omega) n21; have := h0 22 (by omega) n22; have := h0 23 (by omega) n23; omega) (fun kk => ct_spelled' (v := zL (codK 24)) (by decide +kernel) kk)⟩⟩⟩⟩⟩⟩⟩⟩⟩⟩⟩⟩⟩⟩⟩⟩⟩⟩⟩⟩⟩⟩⟩⟩
theorem rK_1 {B : Nat → Nat} {N q : Nat} : rK B N q = 1 ↔ tK B N q = 1 := by
  unfold rK
  by_cases h : tK B N q = 3 ∧ isSg (B (tS B N q)) = false
  · rw [if_pos h]; omega
  · rw [if_neg h]
theorem rK_2 {B : Nat → Nat} {N q : Nat} : rK B N q = 2 ↔ tK B N q = 2 := by
  unfold rK
  by_cases h : tK B N q = 3 ∧ isSg (B (tS B N q)) = false
  · rw [if_pos h]; omega
  · rw [if_neg h]
theorem rK_0 {B : Nat → Nat} {N q : Nat} : rK B N q = 0 ↔ tK B N q = 0 := by
  unfold rK
  by_cases h : tK B N q = 3 ∧ isSg (B (tS B N q)) = false
  · rw [if_pos h]; omega
  · rw [if_neg h]
theorem tK_le {B : Nat → Nat} {N q : Nat} : tK B N q ≤ 3 := by
  unfold tK kX
  by_cases h1 : N ≤ tS B N q
  · rw [if_pos h1]; omega
  · rw [if_neg h1]
    by_cases h2 : isLt (B (tS B N q)) = true
    · rw [if_pos h2]; omega
    · rw [if_neg h2]
      by_cases h3 : isDg (B (tS B N q)) = true
      · rw [if_pos h3]; omega
      · rw [if_neg h3]; omega
theorem rK_le {B : Nat → Nat} {N q : Nat} : rK B N q ≤ 4 := by
  have := tK_le (B := B) (N := N) (q := q)
  unfold rK
  by_cases h : tK B N q = 3 ∧ isSg (B (tS B N q)) = false
  · rw [if_pos h]; omega
  · rw [if_neg h]; omega
theorem tL_lt {B : Nat → Nat} {N q : Nat} (h : q ≤ N) : tL B N q ≤ N := by
  have := tE_le (B := B) h
  unfold tL; omega
theorem ct_knownWord {X : bi_X} {d : Nat} {K : Int32 → bi_St → Prop} {E : Nat → bi_St → Prop} {s : bi_St} {B : Nat → Nat} {N q : Nat} (hN : N ≤ 700) (hq : RT s B N q) (k : K (knI (kn B N q)) s) : cI X (d + 2) 175 [.ref 77] s K E := by
  have hr4 := rK_le (B := B) (N := N) (q := q)
  have hl := tL_lt (B := B) hq.1
  have e1 : (zI (rK B N q) = 1) ↔ tK B N q = 1 := by rw [← rK_1]; exact zI_eq (b := 1) (by omega) (by omega)
  have e8 : ((8 : Int32) < zI (tL B N q)) ↔ 8 < tL B N q := zI_lt (a := 8) (by omega) (by omega)
  have e11 : (zI (tL B N q) = 1) ↔ tL B N q = 1 := zI_eq (b := 1) (by omega) (by omega)
  refine en_X12_knownWord ?_
  rw [hq.2.2.1, hq.2.2.2.2.1, e1, e8, e11]
  unfold kn at k
  refine ⟨fun h => ?_, fun h => ⟨fun h2 => ?_, fun h2 => ⟨fun h3 => ?_, fun h3 => ?_⟩⟩⟩
  · rw [if_neg (fun z => h z.1)] at k; exact k
  · rw [if_neg (fun z => by omega)] at k; exact k
  · have h := Decidable.of_not_not h
    rw [if_pos ⟨h, by omega, h3⟩] at k
    have hw := hq.2.2.2.2.2.2.2 h
    rw [show min (tL B N q) 8 = tL B N q by omega] at hw
    have hwl : wcd B (tS B N q) (tL B N q) < 32 ^ (tL B N q) := wcd_lt _ (fun i hi => tK_lt h _ (by omega) (by unfold tL at hi; omega))
    have hwl2 : 32 ^ (tL B N q) ≤ 32 ^ 8 := Nat.pow_le_pow_right (by omega) (by omega)
    have cl : ∀ n : Fin 25, codK n.1 < 32 ^ 8 := by decide +kernel
    obtain ⟨F, hF⟩ : ∃ F, F = fnd (wcd B (tS B N q) (tL B N q)) 25 0 := ⟨_, rfl⟩
    rw [← hF] at k
    have loop : ∀ m n, m + n = 25 → F = fnd (wcd B (tS B N q) (tL B N q)) m n → at_X12_knownWord_29 X (d + 2) K E s (zI n) := by
      intro m
      induction m with
      | zero =>
        intro n hm he
        have : n = 25 := by omega
        subst this
        rw [he] at k
        exact go_X12_knownWord_29 ⟨fun _ => k, fun z => absurd (by decide) z⟩
      | succ m ih =>
        intro n hm he
        have hc := cl ⟨n, by omega⟩
        simp only at hc
        rw [fnd] at he
        refine go_X12_knownWord_29 ⟨fun z => ?_, fun _ => ct_letters (by omega) ?_⟩
        · have := (zI_le (a := 25) (by omega) (by omega)).mp z; omega
        · rw [hw, lg_0, zL_eq (by omega) (by omega), zI_add1]
          refine ⟨fun hne => ?_, fun hy => ?_⟩
          · rw [if_neg hne] at he; exact ih (n + 1) (by omega) he
          · rw [if_pos (Decidable.of_not_not hy)] at he
            rw [he] at k
            unfold knI at k
            rw [if_neg (by omega)] at k; exact k
    exact loop 25 0 rfl hF
  · rw [if_neg (fun z => z.2.2 (Decidable.of_not_not h3))] at k; exact k
theorem ct_isSignR {X : bi_X} {d : Nat} {K : Int32 → bi_St → Prop} {E : Nat → bi_St → Prop} {s : bi_St} {B : Nat → Nat} {N q c : Nat} (hB : ∀ i, i < N → B i < 256) (hq : RT s B N q) (hc : isSg c = true) (hc2 : 0 < c ∧ c < 128) (k : K (b2i (decide (tG B N q = c))) s) : cI X d 178 [.ref 77, .int (zI c)] s K E := by
  have hr4 := rK_le (B := B) (N := N) (q := q)
  have e3 : (zI (rK B N q) = 3) ↔ rK B N q = 3 := zI_eq (b := 3) (by omega) (by omega)
  refine en_X12_isSign ?_
  rw [hq.2.2.1, e3]
  refine ⟨fun h => ?_, fun h => ?_⟩
  · have : ¬ tG B N q = c := fun z => by
      unfold tG at z
      by_cases h3 : tK B N q = 3
      · rw [if_pos h3] at z
        apply h
        unfold rK
        rw [if_neg (fun y => by rw [z, hc] at y; cases y.2)]; exact h3
      · rw [if_neg h3] at z; omega
    rw [decide_eq_false this] at k; exact k
  · have h := Decidable.of_not_not h
    have h3 : tK B N q = 3 := by
      unfold rK at h
      by_cases h4 : tK B N q = 3 ∧ isSg (B (tS B N q)) = false
      · exact h4.1
      · rw [if_neg h4] at h; exact h
    have h0 := tK_0 (B := B) hq.1 (by omega)
    have hb := hB _ h0.1
    have eG : tG B N q = B (tS B N q) := by unfold tG; rw [if_pos h3]
    rw [hq.2.2.2.2.2.2.1 (by omega), zI_eq (by omega) (by omega), ← eG]
    refine ⟨fun h1 => ?_, fun h1 => ?_⟩
    · rw [decide_eq_false h1] at k; exact k
    · rw [decide_eq_true (Decidable.of_not_not h1)] at k; exact k
end WORD
