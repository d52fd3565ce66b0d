/-! ===== tokens, of the reference ===== -/
section RLEX
def zL (n : Nat) : Int64 := Int64.ofNat n
theorem zL_int {n : Nat} (h : n < 9223372036854775808) : (zL n).toInt = (n : Int) := Int64.toInt_ofNat_of_lt h
theorem zL_eq {a b : Nat} (ha : a < 9223372036854775808) (hb : b < 9223372036854775808) : (zL a = zL b) ↔ a = b := by
  rw [← Int64.toInt_inj, zL_int ha, zL_int hb]; omega
theorem zI_zL {n : Nat} (h : n < 2147483648) : (zI n).toInt64 = zL n := by
  rw [← Int64.toInt_inj, Int32.toInt_toInt64, zI_int h, zL_int (by omega)]
theorem zL_sh {n d : Nat} (hn : n < 36028797018963968) (hd : d < 32) : (zL n <<< (((5 : Int32)).toInt64 &&& 63)) ||| zL d = zL (n * 32 + d) := by
  have e5 : (((5 : Int32)).toInt64 &&& 63).toBitVec.smod 64 = 5#64 := by decide
  apply Int64.toBitVec_inj.mp
  rw [Int64.toBitVec_or, Int64.toBitVec_shiftLeft, e5]
  unfold zL
  rw [Int64.toBitVec_ofNat', Int64.toBitVec_ofNat', Int64.toBitVec_ofNat']
  apply BitVec.eq_of_toNat_eq
  rw [BitVec.toNat_or, BitVec.shiftLeft_eq', BitVec.toNat_shiftLeft, BitVec.toNat_ofNat, BitVec.toNat_ofNat, BitVec.toNat_ofNat, BitVec.toNat_ofNat]
  have e : 5 % 2 ^ 64 = 5 := rfl
  have h1 : n * 32 < 18446744073709551616 := by omega
  have h2 : n <<< 5 = n * 32 := by rw [Nat.shiftLeft_eq]
  rw [e, Nat.mod_eq_of_lt (show n < 2 ^ 64 by omega), Nat.mod_eq_of_lt (show d < 2 ^ 64 by omega), Nat.mod_eq_of_lt (show n <<< 5 < 2 ^ 64 by rw [h2]; exact h1), Nat.mod_eq_of_lt (show n * 32 + d < 2 ^ 64 by omega), ← h2, Nat.shiftLeft_add_eq_or_of_lt (by omega)]
theorem lg_0 {x y : Int64} : lg_cmp x y = 0 ↔ x = y := by
  unfold lg_cmp
  by_cases h : x > y
  · rw [if_pos h]
    refine ⟨fun z => absurd z (by decide), fun z => ?_⟩
    subst z
    exact absurd h (Int64.lt_irrefl)
  · rw [if_neg h]
    by_cases h2 : x = y
    · rw [if_pos h2]; exact ⟨fun _ => h2, fun _ => rfl⟩
    · rw [if_neg h2]; exact ⟨fun z => absurd z (by decide), fun z => absurd z h2⟩
/-- a word's code: of k letters from a on -/
def wcd (B : Nat → Nat) (a : Nat) : Nat → Nat
  | 0 => 0
  | k + 1 => wcd B a k * 32 + (B (a + k) - 96)
theorem wcd_lt {B : Nat → Nat} {a : Nat} : ∀ k, (∀ i, i < k → isLt (B (a + i)) = true) → wcd B a k < 32 ^ k := by
  intro k
  induction k with
  | zero => intro _; exact Nat.one_pos
  | succ k ih =>
    intro h
    have h1 := ih (fun i hi => h i (by omega))
    have h2 := h k (by omega)
    unfold isLt at h2
    rw [Bool.and_eq_true] at h2
    have h3 := Nat.le_of_ble_eq_true h2.1
    have h4 := Nat.le_of_ble_eq_true h2.2
    rw [wcd, Nat.pow_succ]; omega
def isSg (c : Nat) : Bool := Nat.beq c 59 || (Nat.beq c 44 || (Nat.beq c 40 || (Nat.beq c 41 || (Nat.beq c 43 || (Nat.beq c 45 || (Nat.beq c 42 || (Nat.beq c 47 || (Nat.beq c 60 || Nat.beq c 61))))))))
def rK (B : Nat → Nat) (N q : Nat) : Nat := if tK B N q = 3 ∧ isSg (B (tS B N q)) = false then 4 else tK B N q
def RB (s : bi_St) (B : Nat → Nat) (N : Nat) : Prop := N ≤ 700 ∧ st_g s 77 6 = zI N ∧ ∀ i, i < N → B i < 256 ∧ st_g s 78 i = zI (B i)
def RT (s : bi_St) (B : Nat → Nat) (N q : Nat) : Prop := q ≤ N ∧ st_g s 77 7 = zI (tE B N q) ∧ st_g s 77 8 = zI (rK B N q) ∧ st_g s 77 9 = zI (tS B N q) ∧ st_g s 77 10 = zI (tL B N q) ∧ st_g s 77 11 = (if tK B N q = 2 then zI (tV B N q) else 0) ∧ (tK B N q ≠ 0 → st_g s 77 12 = zI (B (tS B N q))) ∧ (tK B N q = 1 → st_gl s 77 13 = zL (wcd B (tS B N q) (min (tL B N q) 8)))
def wRk (a k : Nat) : Bool := Nat.beq a 77 && (Nat.ble 7 k && Nat.ble k 13)
theorem wRk_ne {a k : Nat} (h : a ≠ 77) : wRk a k = false := by unfold wRk; rw [beq_ne h]; rfl
theorem RB_fr {s t : bi_St} {B : Nat → Nat} {N : Nat} (h6 : st_g t 77 6 = st_g s 77 6) (h : ∀ k, st_g t 78 k = st_g s 78 k) (hT : RB s B N) : RB t B N :=
  ⟨hT.1, by rw [h6]; exact hT.2.1, fun i hi => by rw [h]; exact hT.2.2 i hi⟩
theorem RB_rk {s t : bi_St} {B : Nat → Nat} {N : Nat} (h : fr wRk s t) (hT : RB s B N) : RB t B N := RB_fr (h.g rfl) (fun k => h.g (wRk_ne (by omega))) hT
theorem ct_byteAt {X : bi_X} {d : Nat} {K : Int32 → bi_St → Prop} {E : Nat → bi_St → Prop} {s : bi_St} {B : Nat → Nat} {N n : Nat} (hT : RB s B N) (hn : n ≤ N) (k : K (zI (if n < N then B n else 0)) s) : cI X d 169 [.ref 77, .int (zI n)] s K E := by
  have hN := hT.1
  refine en_X12_byteAt ?_
  rw [hT.2.1, zI_le (by omega) (by omega)]
  refine ⟨fun h => ?_, fun h => ⟨in_zI (by omega) (by omega), ?_⟩⟩
  · rw [if_neg (by omega)] at k; exact k
  · rw [zI_nat (by omega), (hT.2.2 n (by omega)).2]
    rw [if_pos (by omega)] at k; exact k
theorem ct_isLetter {X : bi_X} {d : Nat} {K : Int32 → bi_St → Prop} {E : Nat → bi_St → Prop} {s : bi_St} {n : Nat} (hn : n < 256) (k : K (b2i (isLt n)) s) : cI X d 170 [.int (zI n)] s K E := by
  have e1 : (zI n < 97) ↔ n < 97 := zI_lt (b := 97) (by omega) (by omega)
  have e2 : ((122 : Int32) < zI n) ↔ 122 < n := zI_lt (a := 122) (by omega) (by omega)
  refine en_X12_isLetter ?_
  rw [e1, e2]
  unfold isLt at k
  refine ⟨fun h => ?_, fun h => ⟨fun h2 => ?_, fun h2 => ?_⟩⟩
  · rw [ble_f h] at k; exact k
  · rw [ble_f h2, Bool.and_false] at k; exact k
  · rw [Nat.ble_eq_true_of_le (by omega), Nat.ble_eq_true_of_le (by omega)] at k; exact k
theorem ct_isDigit {X : bi_X} {d : Nat} {K : Int32 → bi_St → Prop} {E : Nat → bi_St → Prop} {s : bi_St} {n : Nat} (hn : n < 256) (k : K (b2i (isDg n)) s) : cI X d 171 [.int (zI n)] s K E := by
  have e1 : (zI n < 48) ↔ n < 48 := zI_lt (b := 48) (by omega) (by omega)
  have e2 : ((57 : Int32) < zI n) ↔ 57 < n := zI_lt (a := 57) (by omega) (by omega)
  refine en_X12_isDigit ?_
  rw [e1, e2]
  unfold isDg at k
  refine ⟨fun h => ?_, fun h => ⟨fun h2 => ?_, fun h2 => ?_⟩⟩
  · rw [ble_f h] at k; exact k
  · rw [ble_f h2, Bool.and_false] at k; exact k
  · rw [Nat.ble_eq_true_of_le (by omega), Nat.ble_eq_true_of_le (by omega)] at k; exact k
def gsh (X : bi_X) (d : Nat) (K : bi_St → Prop) (E : Nat → bi_St → Prop) (s : bi_St) : Prop := (((st_g s 77 6) ≤ (st_g s 77 7)) → at_X12_goes_50 X (d + 1) K E s) ∧ (¬ ((st_g s 77 6) ≤ (st_g s 77 7)) → cI X d 169 [.ref 77, .int (st_g s 77 7)] s (fun (r1 : Int32) (s1 : bi_St) => ((r1 = (32 : Int32)) → at_X12_goes_37 X (d + 1) K E s1) ∧ (¬ (r1 = (32 : Int32)) → cI X d 169 [.ref 77, .int (st_g s1 77 7)] s1 (fun (r2 : Int32) (s2 : bi_St) => ((¬ r2 = (10 : Int32)) → at_X12_goes_50 X (d + 1) K E s2) ∧ (¬ (¬ r2 = (10 : Int32)) → at_X12_goes_37 X (d + 1) K E s2)) (fun _ _ => False))) (fun _ _ => False))
theorem zI_ne {c n : Nat} (hc : c < 2147483648) (hn : n < 2147483648) (h : c ≠ n) : ¬ zI c = zI n := fun z => h ((zI_eq hc hn).mp z)
theorem ct_goes {X : bi_X} {d : Nat} {K : bi_St → Prop} {E : Nat → bi_St → Prop} {s : bi_St} {B : Nat → Nat} {N q : Nat} (hT : RB s B N) (hq : q ≤ N) (h7 : st_g s 77 7 = zI q)
    (k : ∀ t, fr wRk s t → RT t B N q → K t) : cV X (d + 1) 172 [.ref 77] s K E := by
  have hN := hT.1
  have hS := tS_le (B := B) hq
  have hE := tE_le (B := B) hq
  have tok : ∀ (t : bi_St) a, a = tS B N q → fr wRk s t → st_g t 77 7 = zI a → at_X12_goes_50 X (d + 1) K E t := by
    intro t a ha ht t7
    have haN : a ≤ N := by omega
    refine go_X12_goes_50 ?_
    rw [t7]
    have f1 : fr wRk s (st_p (st_pl (st_p t 77 9 (zI a)) 77 13 (0 : Int64)) 77 11 (0 : Int32)) := ((ht.p rfl).pl rfl (Or.inl rfl)).p rfl
    have g9 : st_g (st_p (st_pl (st_p t 77 9 (zI a)) 77 13 (0 : Int64)) 77 11 (0 : Int32)) 77 9 = zI a := by rw [g_p_k (by omega), g_pl, g_p_eq]
    have g7 : st_g (st_p (st_pl (st_p t 77 9 (zI a)) 77 13 (0 : Int64)) 77 11 (0 : Int32)) 77 7 = zI a := by rw [g_p_k (by omega), g_pl, g_p_k (by omega)]; exact t7
    have g11 : st_g (st_p (st_pl (st_p t 77 9 (zI a)) 77 13 (0 : Int64)) 77 11 (0 : Int32)) 77 11 = 0 := g_p_eq _ _ _ _
    have g13 : st_gl (st_p (st_pl (st_p t 77 9 (zI a)) 77 13 (0 : Int64)) 77 11 (0 : Int32)) 77 13 = zL 0 := by rw [gl_p, gl_pl, if_pos ⟨rfl, rfl⟩]; rfl
    generalize st_p (st_pl (st_p t 77 9 (zI a)) 77 13 (0 : Int64)) 77 11 (0 : Int32) = t1 at f1 g9 g7 g11 g13
    have hT1 := RB_rk f1 hT
    rw [g7]
    refine ct_byteAt hT1 haN ?_
    obtain ⟨c, hc⟩ : ∃ c, c = (if a < N then B a else 0) := ⟨_, rfl⟩
    rw [← hc]
    have hc256 : c < 256 := by
      rw [hc]
      by_cases h : a < N
      · rw [if_pos h]; exact (hT.2.2 a h).1
      · rw [if_neg h]; omega
    have f2 : fr wRk s (st_p t1 77 12 (zI c)) := f1.p rfl
    have e7 : st_g (st_p t1 77 12 (zI c)) 77 7 = zI a := by rw [g_p_k (by omega)]; exact g7
    have e9 : st_g (st_p t1 77 12 (zI c)) 77 9 = zI a := by rw [g_p_k (by omega)]; exact g9
    have e11 : st_g (st_p t1 77 12 (zI c)) 77 11 = 0 := by rw [g_p_k (by omega)]; exact g11
    have e12 : st_g (st_p t1 77 12 (zI c)) 77 12 = zI c := g_p_eq _ _ _ _
    have e13 : st_gl (st_p t1 77 12 (zI c)) 77 13 = zL 0 := by rw [gl_p]; exact g13
    generalize st_p t1 77 12 (zI c) = t2 at f2 e7 e9 e11 e12 e13
    have hT2 := RB_rk f2 hT
    rw [e7, hT2.2.1, zI_lt (by omega) (by omega)]
    refine ⟨fun hlt => ct_isLetter hc256 ?_, fun hlt => go_X12_goes_337 ?_⟩
    · have hca : c = B a := by rw [hc, if_pos hlt]
      rw [b2i_ne0]
      refine ⟨fun hnl => ct_isDigit hc256 ?_, fun hl => ?_⟩
      · have hnl : ¬ isLt (B a) = true := by rw [← hca, hnl]; simp
        rw [b2i_ne0]
        refine ⟨fun hnd => ?_, fun hd => ?_⟩
        · have hnd : ¬ isDg (B a) = true := by rw [← hca, hnd]; simp
          have eK : tK B N q = 3 := by unfold tK kX; rw [← ha, if_neg (by omega), if_neg hnl, if_neg hnd]
          have eE : tE B N q = a + 1 := by unfold tE tX; rw [← ha, if_neg (by omega), if_neg hnl, if_neg hnd]
          have fin : ∀ v, v = zI (rK B N q) → at_X12_goes_337 X (d + 1) K E (st_p (st_p t2 77 7 ((st_g t2 77 7) + (1 : Int32))) 77 8 v) := by
            intro v hv
            refine go_X12_goes_337 (k _ (((f2.p rfl).p rfl).p rfl) ⟨hq, ?_, ?_, ?_, ?_, ?_, fun _ => ?_, fun h => by omega⟩)
            · rw [g_p_k (by omega), g_p_k (by omega), g_p_eq, e7, zI_add1, eE]
            · rw [g_p_k (by omega), g_p_eq, hv]
            · rw [g_p_k (by omega), g_p_k (by omega), g_p_k (by omega), e9, ha]
            · rw [g_p_eq, g_p_k (by omega), g_p_eq, g_p_k (by omega), g_p_k (by omega), e9, e7, zI_add1, zI_sub (by omega)]
              unfold tL; rw [eE, ← ha]
            · rw [g_p_k (by omega), g_p_k (by omega), g_p_k (by omega), e11, if_neg (by omega)]
            · rw [g_p_k (by omega), g_p_k (by omega), g_p_k (by omega), e12, hca, ha]
          have yes : isSg c = true → at_X12_goes_337 X (d + 1) K E (st_p (st_p t2 77 7 ((st_g t2 77 7) + (1 : Int32))) 77 8 (3 : Int32)) := fun hs => fin 3 (by
            unfold rK; rw [if_neg (by rw [← ha, ← hca, hs]; simp), eK]; rfl)
          have ec : ∀ n : Nat, n < 2147483648 → (zI c = OfNat.ofNat n ↔ c = n) := fun n hn => zI_eq (by omega) hn
          rw [ec 59 (by omega), ec 44 (by omega), ec 40 (by omega), ec 41 (by omega), ec 43 (by omega), ec 45 (by omega), ec 42 (by omega), ec 47 (by omega), ec 60 (by omega), ec 61 (by omega)]
          refine ⟨fun h => yes (by rw [h]; rfl), fun n1 => ⟨fun h => yes (by rw [h]; rfl), fun n2 => ⟨fun h => yes (by rw [h]; rfl), fun n3 => ⟨fun h => yes (by rw [h]; rfl), fun n4 => ⟨fun h => yes (by rw [h]; rfl), fun n5 => ⟨fun h => yes (by rw [h]; rfl), fun n6 => ⟨fun h => yes (by rw [h]; rfl), fun n7 => ⟨fun h => yes (by rw [h]; rfl), fun n8 => ⟨fun h => yes (by rw [h]; rfl), fun n9 => ⟨fun n10 => ?_, fun h => yes (by rw [Decidable.of_not_not h]; rfl)⟩⟩⟩⟩⟩⟩⟩⟩⟩⟩
          refine fin 4 ?_
          have : isSg c = false := by unfold isSg; rw [beq_ne n1, beq_ne n2, beq_ne n3, beq_ne n4, beq_ne n5, beq_ne n6, beq_ne n7, beq_ne n8, beq_ne n9, beq_ne n10]; rfl
          unfold rK; rw [if_pos ⟨eK, by rw [← ha, ← hca]; exact this⟩]; rfl
        · have hdg : isDg (B a) = true := by rw [← hca]; simpa using hd
          have eK : tK B N q = 2 := by unfold tK kX; rw [← ha, if_neg (by omega), if_neg hnl, if_pos hdg]
          have eE : tE B N q = scn isDg B N (N - a) a := by unfold tE tX; rw [← ha, if_neg (by omega), if_neg hnl, if_pos hdg]
          have loop : ∀ f n (u : bi_St), f = N - n → a ≤ n → n ≤ N → fr wRk s u → st_g u 77 7 = zI n → st_g u 77 9 = zI a → st_g u 77 11 = zI (dv B a (min (n - a) 4)) → st_g u 77 12 = zI (B a) → tE B N q = scn isDg B N f n → at_X12_goes_187 X (d + 1) K E u := by
            intro f
            induction f with
            | zero =>
              intro n u hf han hn hu u7 u9 u11 u12 he
              have hTu := RB_rk hu hT
              refine go_X12_goes_187 ?_
              rw [u7]
              refine ct_byteAt hTu hn ?_
              rw [if_neg (by omega)]
              refine ct_isDigit (by omega) ⟨fun _ => ?_, fun z => absurd rfl z⟩
              have he : tE B N q = n := he
              refine go_X12_goes_337 (k _ ((hu.p rfl).p rfl) ⟨hq, ?_, ?_, ?_, ?_, ?_, fun _ => ?_, fun h => by omega⟩)
              · rw [g_p_k (by omega), g_p_k (by omega), u7, he]
              · rw [g_p_k (by omega), g_p_eq]; unfold rK; rw [if_neg (by omega), eK]; rfl
              · rw [g_p_k (by omega), g_p_k (by omega), u9, ha]
              · rw [g_p_eq, g_p_k (by omega), g_p_k (by omega), u7, u9, zI_sub han]; unfold tL; rw [he, ← ha]
              · rw [g_p_k (by omega), g_p_k (by omega), u11, if_pos eK]; unfold tV tL; rw [he, ← ha]
              · rw [g_p_k (by omega), g_p_k (by omega), u12, ha]
            | succ f ih =>
              intro n u hf han hn hu u7 u9 u11 u12 he
              have hTu := RB_rk hu hT
              have hbn := hTu.2.2 n (by omega)
              rw [scn] at he
              refine go_X12_goes_187 ?_
              rw [u7]
              refine ct_byteAt hTu hn ?_
              rw [if_pos (by omega)]
              refine ct_isDigit hbn.1 ?_
              rw [b2i_ne0]
              refine ⟨fun hno => ?_, fun hy => ?_⟩
              · rw [if_neg (fun z => by rw [hno] at z; cases z.2)] at he
                refine go_X12_goes_337 (k _ ((hu.p rfl).p rfl) ⟨hq, ?_, ?_, ?_, ?_, ?_, fun _ => ?_, fun h => by omega⟩)
                · rw [g_p_k (by omega), g_p_k (by omega), u7, he]
                · rw [g_p_k (by omega), g_p_eq]; unfold rK; rw [if_neg (by omega), eK]; rfl
                · rw [g_p_k (by omega), g_p_k (by omega), u9, ha]
                · rw [g_p_eq, g_p_k (by omega), g_p_k (by omega), u7, u9, zI_sub han]; unfold tL; rw [he, ← ha]
                · rw [g_p_k (by omega), g_p_k (by omega), u11, if_pos eK]; unfold tV tL; rw [he, ← ha]
                · rw [g_p_k (by omega), g_p_k (by omega), u12, ha]
              · have hy : isDg (B n) = true := by simpa using hy
                rw [if_pos ⟨by omega, hy⟩] at he
                have hdv := hy
                unfold isDg at hdv
                rw [Bool.and_eq_true] at hdv
                have h48 := Nat.le_of_ble_eq_true hdv.1
                have e4 : ((4 : Int32) ≤ zI (n - a)) ↔ 4 ≤ n - a := zI_le (a := 4) (by omega) (by omega)
                rw [u7, u9, zI_sub han, e4, u11]
                refine ⟨fun h4 => go_X12_goes_237 ?_, fun h4 => ?_⟩
                · rw [u7, zI_add1]
                  refine ih (n + 1) _ (by omega) (by omega) (by omega) (hu.p rfl) (g_p_eq _ _ _ _) (by rw [g_p_k (by omega)]; exact u9) ?_ (by rw [g_p_k (by omega)]; exact u12) he
                  rw [g_p_k (by omega), u11, show min (n + 1 - a) 4 = min (n - a) 4 by omega]
                · refine ct_byteAt hTu hn ?_
                  rw [if_pos (by omega)]
                  have ev : (10 : Int32) * zI (dv B a (min (n - a) 4)) + zI (B n) - 48 = zI (dv B a (min (n + 1 - a) 4)) := by
                    have e1 : (10 : Int32) * zI (dv B a (min (n - a) 4)) = zI (10 * dv B a (min (n - a) 4)) := zI_mul 10 _
                    have e2 : zI (10 * dv B a (min (n - a) 4) + B n) - 48 = zI (10 * dv B a (min (n - a) 4) + B n - 48) := zI_sub (m := 48) (by omega)
                    rw [e1, zI_add, e2, show min (n + 1 - a) 4 = (n - a) + 1 by omega, show min (n - a) 4 = n - a by omega, dv, show a + (n - a) = n by omega]; congr 1; omega
                  rw [ev]
                  refine go_X12_goes_237 ?_
                  rw [g_p_k (by omega), u7, zI_add1]
                  exact ih (n + 1) _ (by omega) (by omega) (by omega) ((hu.p rfl).p rfl) (g_p_eq _ _ _ _) (by rw [g_p_k (by omega), g_p_k (by omega)]; exact u9) (by rw [g_p_k (by omega), g_p_eq]) (by rw [g_p_k (by omega), g_p_k (by omega)]; exact u12) he
          exact loop (N - a) a t2 rfl (by omega) haN f2 e7 e9 (by rw [e11, Nat.sub_self]; rfl) (by rw [e12, hca]) eE
      · have hlt2 : isLt (B a) = true := by rw [← hca]; simpa using hl
        have eK : tK B N q = 1 := by unfold tK kX; rw [← ha, if_neg (by omega), if_pos hlt2]
        have eE : tE B N q = scn isLt B N (N - a) a := by unfold tE tX; rw [← ha, if_neg (by omega), if_pos hlt2]
        have loop : ∀ f n (u : bi_St), f = N - n → a ≤ n → n ≤ N → (∀ i, a ≤ i → i < n → isLt (B i) = true) → fr wRk s u → st_g u 77 7 = zI n → st_g u 77 9 = zI a → st_gl u 77 13 = zL (wcd B a (min (n - a) 8)) → st_g u 77 11 = 0 → st_g u 77 12 = zI (B a) → tE B N q = scn isLt B N f n → at_X12_goes_108 X (d + 1) K E u := by
          intro f
          induction f with
          | zero =>
            intro n u hf han hn hall hu u7 u9 u13 u11 u12 he
            have hTu := RB_rk hu hT
            refine go_X12_goes_108 ?_
            rw [u7]
            refine ct_byteAt hTu hn ?_
            rw [if_neg (by omega)]
            refine ct_isLetter (by omega) ⟨fun _ => ?_, fun z => absurd rfl z⟩
            have he : tE B N q = n := he
            refine go_X12_goes_337 (k _ ((hu.p rfl).p rfl) ⟨hq, ?_, ?_, ?_, ?_, ?_, fun _ => ?_, fun _ => ?_⟩)
            · rw [g_p_k (by omega), g_p_k (by omega), u7, he]
            · rw [g_p_k (by omega), g_p_eq]; unfold rK; rw [if_neg (by omega), eK]; rfl
            · rw [g_p_k (by omega), g_p_k (by omega), u9, ha]
            · rw [g_p_eq, g_p_k (by omega), g_p_k (by omega), u7, u9, zI_sub han]; unfold tL; rw [he, ← ha]
            · rw [g_p_k (by omega), g_p_k (by omega), u11, if_neg (by omega)]
            · rw [g_p_k (by omega), g_p_k (by omega), u12, ha]
            · rw [gl_p, gl_p, u13]; unfold tL; rw [he, ← ha]
          | succ f ih =>
            intro n u hf han hn hall hu u7 u9 u13 u11 u12 he
            have hTu := RB_rk hu hT
            have hbn := hTu.2.2 n (by omega)
            rw [scn] at he
            refine go_X12_goes_108 ?_
            rw [u7]
            refine ct_byteAt hTu hn ?_
            rw [if_pos (by omega)]
            refine ct_isLetter hbn.1 ?_
            rw [b2i_ne0]
            refine ⟨fun hno => ?_, fun hy => ?_⟩
            · rw [if_neg (fun z => by rw [hno] at z; cases z.2)] at he
              refine go_X12_goes_337 (k _ ((hu.p rfl).p rfl) ⟨hq, ?_, ?_, ?_, ?_, ?_, fun _ => ?_, fun _ => ?_⟩)
              · rw [g_p_k (by omega), g_p_k (by omega), u7, he]
              · rw [g_p_k (by omega), g_p_eq]; unfold rK; rw [if_neg (by omega), eK]; rfl
              · rw [g_p_k (by omega), g_p_k (by omega), u9, ha]
              · rw [g_p_eq, g_p_k (by omega), g_p_k (by omega), u7, u9, zI_sub han]; unfold tL; rw [he, ← ha]
              · rw [g_p_k (by omega), g_p_k (by omega), u11, if_neg (by omega)]
              · rw [g_p_k (by omega), g_p_k (by omega), u12, ha]
              · rw [gl_p, gl_p, u13]; unfold tL; rw [he, ← ha]
            · have hy : isLt (B n) = true := by simpa using hy
              rw [if_pos ⟨by omega, hy⟩] at he
              have hdv := hy
              unfold isLt at hdv
              rw [Bool.and_eq_true] at hdv
              have h97 := Nat.le_of_ble_eq_true hdv.1
              have h122 := Nat.le_of_ble_eq_true hdv.2
              have hall' : ∀ i, a ≤ i → i < n + 1 → isLt (B i) = true := fun i h1 h2 => by
                by_cases hi : i = n
                · rw [hi]; exact hy
                · exact hall i h1 (by omega)
              have e8 : ((8 : Int32) ≤ zI (n - a)) ↔ 8 ≤ n - a := zI_le (a := 8) (by omega) (by omega)
              rw [u7, u9, zI_sub han, e8, u13]
              refine ⟨fun h8 => go_X12_goes_159 ?_, fun h8 => ?_⟩
              · rw [u7, zI_add1]
                refine ih (n + 1) _ (by omega) (by omega) (by omega) hall' (hu.p rfl) (g_p_eq _ _ _ _) (by rw [g_p_k (by omega)]; exact u9) ?_ (by rw [g_p_k (by omega)]; exact u11) (by rw [g_p_k (by omega)]; exact u12) he
                rw [gl_p, u13, show min (n + 1 - a) 8 = min (n - a) 8 by omega]
              · refine ct_byteAt hTu hn ?_
                rw [if_pos (by omega)]
                have hwl : wcd B a (n - a) < 32 ^ (n - a) := wcd_lt (n - a) (fun i hi => hall (a + i) (by omega) (by omega))
                have hwl2 : 32 ^ (n - a) ≤ 32 ^ 7 := Nat.pow_le_pow_right (by omega) (by omega)
                have ev : (zL (wcd B a (min (n - a) 8)) <<< (((5 : Int32)).toInt64 &&& 63)) ||| ((zI (B n) - (96 : Int32))).toInt64 = zL (wcd B a (min (n + 1 - a) 8)) := by
                  have e1 : zI (B n) - 96 = zI (B n - 96) := zI_sub (m := 96) (by omega)
                  rw [e1, zI_zL (by omega), zL_sh (by rw [show min (n - a) 8 = n - a by omega]; omega) (by omega), show min (n + 1 - a) 8 = (n - a) + 1 by omega, show min (n - a) 8 = n - a by omega, wcd, show a + (n - a) = n by omega]
                rw [ev]
                refine go_X12_goes_159 ?_
                rw [g_pl, u7, zI_add1]
                exact ih (n + 1) _ (by omega) (by omega) (by omega) hall' ((hu.pl rfl (Or.inl rfl)).p rfl) (g_p_eq _ _ _ _) (by rw [g_p_k (by omega), g_pl]; exact u9) (by rw [gl_p, gl_pl, if_pos ⟨rfl, rfl⟩]) (by rw [g_p_k (by omega), g_pl]; exact u11) (by rw [g_p_k (by omega), g_pl]; exact u12) he
        exact loop (N - a) a t2 rfl (by omega) haN (fun i h1 h2 => by omega) f2 e7 e9 (by rw [e13, Nat.sub_self]; rfl) e11 (by rw [e12, hca]) eE
    · have eK : tK B N q = 0 := by unfold tK kX; rw [← ha, if_pos (by omega)]
      have eE : tE B N q = a := by unfold tE tX; rw [← ha, if_pos (by omega)]
      refine k _ ((f2.p rfl).p rfl) ⟨hq, ?_, ?_, ?_, ?_, ?_, fun h => absurd eK h, fun h => by omega⟩
      · rw [g_p_k (by omega), g_p_k (by omega), e7, eE]
      · rw [g_p_k (by omega), g_p_eq]; unfold rK; rw [if_neg (by omega), eK]; rfl
      · rw [g_p_k (by omega), g_p_k (by omega), e9, ha]
      · rw [g_p_eq, g_p_k (by omega), g_p_k (by omega), e7, e9, zI_sub (Nat.le_refl a)]; unfold tL; rw [eE, ← ha]
      · rw [g_p_k (by omega), g_p_k (by omega), e11, if_neg (by omega)]
  have skip : ∀ f n (t : bi_St), f = N - n → n ≤ N → fr wRk s t → st_g t 77 7 = zI n → tS B N q = scn isBl B N f n → gsh X d K E t := by
    intro f
    induction f with
    | zero =>
      intro n t hf hn ht t7 he
      have hTt := RB_rk ht hT
      refine ⟨fun _ => tok t n (by rw [he]; rfl) ht t7, fun z => absurd ?_ z⟩
      rw [hTt.2.1, t7]; exact (zI_le (by omega) (by omega)).mpr (by omega)
    | succ f ih =>
      intro n t hf hn ht t7 he
      have hTt := RB_rk ht hT
      have hbn := hTt.2.2 n (by omega)
      rw [scn] at he
      have yes : isBl (B n) = true → at_X12_goes_37 X (d + 1) K E t := fun hy => by
        rw [if_pos ⟨by omega, hy⟩] at he
        refine go_X12_goes_37 ?_
        rw [t7, zI_add1]
        exact go_X12_goes_0 (ih (n + 1) _ (by omega) (by omega) (ht.p rfl) (g_p_eq _ _ _ _) he)
      unfold gsh
      rw [hTt.2.1, t7, zI_le (by omega) (by omega)]
      refine ⟨fun z => by omega, fun _ => ct_byteAt hTt hn ?_⟩
      have e32 : (zI (B n) = 32) ↔ B n = 32 := zI_eq (b := 32) (by omega) (by omega)
      have e10 : (zI (B n) = 10) ↔ B n = 10 := zI_eq (b := 10) (by omega) (by omega)
      rw [if_pos (by omega), e32, t7]
      refine ⟨fun h => yes (by rw [h]; rfl), fun h1 => ct_byteAt hTt hn ?_⟩
      rw [if_pos (by omega), e10]
      refine ⟨fun h2 => ?_, fun h2 => yes (by rw [Decidable.of_not_not h2]; rfl)⟩
      have hno : isBl (B n) = false := by unfold isBl; rw [beq_ne h1, beq_ne h2]; rfl
      rw [if_neg (fun z => by rw [hno] at z; cases z.2)] at he
      exact tok t n he.symm ht t7
  exact en_X12_goes (skip (N - q) q s rfl hq fr.refl h7 rfl)
end RLEX
