/-! ===== the reference's expression: a part ===== -/
section REX5
theorem RW_two {s : bi_St} {lo : Nat} {out : Lp} {w : List Nat} {o : Nat × Nat} (h3 : o.1 ≤ 3) (hW : RW s lo out w) : RW (st_p (st_p (st_p (st_p s 80 (lo + (wds out).length) (zI (rop o.1))) 77 19 (zI (lo + (wds out).length + 1))) 80 (lo + (wds out).length + 1) (zI (rarg o))) 77 19 (zI (lo + (wds out).length + 1 + 1))) lo (out ++ [o]) w := by
  obtain ⟨r1, r2, r3, r4, r5⟩ := hW
  have hw1 : wd1 o = [rop o.1, rarg o] := by unfold wd1; rw [if_pos h3]
  have hwl : (wds (out ++ [o])).length = (wds out).length + 2 := by rw [wds_snoc, hw1, List.length_append]; rfl
  refine ⟨r1, ?_, fun j x hj => ?_, ?_, fun j x hj => ?_⟩
  · rw [g_p_eq, hwl]; rfl
  · rw [g_p_a (by omega)]
    rw [wds_snoc, hw1] at hj
    by_cases hjl : j < (wds out).length
    · rw [List.getElem?_append_left hjl] at hj
      rw [g_p_k (by omega), g_p_a (by omega), g_p_k (by omega)]; exact r3 j x hj
    · have hjl2 := (List.getElem?_eq_some_iff.mp hj).1
      rw [List.length_append] at hjl2
      simp only [List.length_cons, List.length_nil] at hjl2
      rw [List.getElem?_append_right (by omega)] at hj
      by_cases hj0 : j = (wds out).length
      · subst hj0
        rw [Nat.sub_self, List.getElem?_cons_zero] at hj
        injection hj with hj
        rw [g_p_k (by omega), g_p_a (by omega), g_p_eq, hj]
      · have hj1 : j = (wds out).length + 1 := by omega
        subst hj1
        rw [show (wds out).length + 1 - (wds out).length = 0 + 1 by omega, List.getElem?_cons_succ, List.getElem?_cons_zero] at hj
        injection hj with hj
        rw [show lo + ((wds out).length + 1) = lo + (wds out).length + 1 by omega, g_p_eq, hj]
  · rw [g_p_k (by omega), g_p_a (by omega), g_p_k (by omega), g_p_a (by omega)]; exact r4
  · rw [g_p_a (by omega), g_p_a (by omega), g_p_a (by omega), g_p_a (by omega)]; exact r5 j x hj
theorem lg_pos {x y : Int64} : 0 < lg_cmp x y ↔ y < x := by
  unfold lg_cmp
  by_cases h : x > y
  · rw [if_pos h]; exact ⟨fun _ => h, fun _ => by decide⟩
  · rw [if_neg h]
    by_cases h2 : x = y
    · rw [if_pos h2]; exact ⟨fun z => absurd z (by decide), fun z => absurd z h⟩
    · rw [if_neg h2]; exact ⟨fun z => absurd z (by decide), fun z => absurd z h⟩
theorem zL_lt {a b : Nat} (ha : a < 9223372036854775808) (hb : b < 9223372036854775808) : (zL a < zL b) ↔ a < b := by
  rw [Int64.lt_iff_toInt_lt, zL_int ha, zL_int hb]; omega
theorem zL_I {n : Nat} : (zL n).toInt32 = zI n := by
  unfold zL zI
  rw [Int64.toInt32_ofNat']
theorem ct_columnWord {X : bi_X} {d : Nat} {K : Int32 → bi_St → Prop} {E : Nat → bi_St → Prop} {s : bi_St} {B : Nat → Nat} {N C q : Nat} (hN : N ≤ 700) (hT : RT s B N q) (hC : C ≤ 4) (h14 : st_g s 77 14 = zI C) (hk : tK B N q = 1) (hb : ∀ i, i < N → B i < 256)
    (k : K (if kn B N q = 19 then 4 else if tL B N q = 1 ∧ B (tS B N q) - 97 < C then zI (B (tS B N q) - 97) else -1) s) : cI X d 183 [.ref 77, .int (knI (kn B N q))] s K E := by
  have hl := tL_lt (B := B) hT.1
  have e19 : (knI (kn B N q) = 19) ↔ kn B N q = 19 := knI_eq (n := 19) kn_le (by omega)
  have e1 : (zI (tL B N q) = 1) ↔ tL B N q = 1 := zI_eq (b := 1) (by omega) (by omega)
  have h0 := tK_0 (B := B) hT.1 (by omega)
  have hbb := hb _ h0.1
  have hlt := tK_lt hk _ (Nat.le_refl _) h0.2
  unfold isLt at hlt
  rw [Bool.and_eq_true] at hlt
  have h97 := Nat.le_of_ble_eq_true hlt.1
  refine en_X12_columnWord ?_
  rw [e19, hT.2.2.2.2.1, e1]
  refine ⟨fun n19 => ⟨fun n1 => ?_, fun y1 => ?_⟩, fun y19 => ?_⟩
  · rw [if_neg n19, if_neg (fun z => n1 z.1)] at k; exact k
  · have y1 := Decidable.of_not_not y1
    have hw := hT.2.2.2.2.2.2.2 hk
    rw [y1, show min 1 8 = 1 by omega] at hw
    have e : wcd B (tS B N q) 1 = B (tS B N q) - 96 := by show 0 * 32 + (B (tS B N q + 0) - 96) = _; rw [Nat.add_zero]; omega
    rw [e] at hw
    rw [hw, h14, zI_zL (by omega), lg_pos, zL_lt (by omega) (by omega), zL_I]
    refine ⟨fun hgt => ?_, fun hle => ?_⟩
    · rw [if_neg n19, if_neg (fun z => by omega)] at k; exact k
    · rw [if_neg n19, if_pos ⟨y1, by omega⟩] at k
      rw [zI_sub1 (by omega), show B (tS B N q) - 96 - 1 = B (tS B N q) - 97 by omega]; exact k
  · rw [if_pos (Decidable.of_not_not y19)] at k; exact k
end REX5
