/-- PolicyRows.bit(II)I -/
theorem en_X11_bit {X : bi_X} {d : Nat} {K : Int32 → bi_St → Prop} {E : Nat → bi_St → Prop} {s : bi_St} {x0 : Int32} {x1 : Int32}  (h : K ((x0 >>> (x1 &&& 31)) &&& (1 : Int32)) s) : cI X d 160 [.int x0, .int x1] s K E := by
  show bi_T _ _ _ _ _
  refine bi_Tr 5 (s' := (5, [(0, .int x0), (1, .int x1)], [.int ((x0 >>> (x1 &&& 31)) &&& (1 : Int32))], st_mm s)) rfl ?_
  exact bi_Tv rfl rfl (Or.inl ⟨_, _, rfl, h⟩)
/-- PolicyRows$State.isCell(II)Z -/
theorem en_X6_isCell {X : bi_X} {d : Nat} {K : Int32 → bi_St → Prop} {E : Nat → bi_St → Prop} {s : bi_St} {a0 : Nat} {x0 : Int32} {x1 : Int32} (ha0 : st_isS a0) (h : ((x0 < 0) → K (0 : Int32) s) ∧ (¬ (x0 < 0) → (((16 : Int32) ≤ x0) → K (0 : Int32) s) ∧ (¬ ((16 : Int32) ≤ x0) → ((x1 < 0) → K (0 : Int32) s) ∧ (¬ (x1 < 0) → (((4 : Int32) ≤ x1) → K (0 : Int32) s) ∧ (¬ ((4 : Int32) ≤ x1) → K (1 : Int32) s))))) : cI X d 73 [.ref a0, .int x0, .int x1] s K E := by
  show bi_T _ _ _ _ _
  refine bi_Tr 2 (s' := ((if x0 < 0 then 23 else 4), [(0, .ref a0), (1, .int x0), (2, .int x1)], [], st_mm s)) rfl (bi_Tif (fun hc => ?_) (fun hc => ?_))
  · have h := h.1 hc
    refine bi_Tr 1 (s' := (24, [(0, .ref a0), (1, .int x0), (2, .int x1)], [.int (0 : Int32)], st_mm s)) rfl ?_
    exact bi_Tv rfl rfl (Or.inl ⟨_, _, rfl, h⟩)
  · have h := h.2 hc
    refine bi_Tr 3 (s' := ((if (16 : Int32) ≤ x0 then 23 else 10), [(0, .ref a0), (1, .int x0), (2, .int x1)], [], st_mm s)) rfl (bi_Tif (fun hc => ?_) (fun hc => ?_))
    · have h := h.1 hc
      refine bi_Tr 1 (s' := (24, [(0, .ref a0), (1, .int x0), (2, .int x1)], [.int (0 : Int32)], st_mm s)) rfl ?_
      exact bi_Tv rfl rfl (Or.inl ⟨_, _, rfl, h⟩)
    · have h := h.2 hc
      refine bi_Tr 2 (s' := ((if x1 < 0 then 23 else 14), [(0, .ref a0), (1, .int x0), (2, .int x1)], [], st_mm s)) rfl (bi_Tif (fun hc => ?_) (fun hc => ?_))
      · have h := h.1 hc
        refine bi_Tr 1 (s' := (24, [(0, .ref a0), (1, .int x0), (2, .int x1)], [.int (0 : Int32)], st_mm s)) rfl ?_
        exact bi_Tv rfl rfl (Or.inl ⟨_, _, rfl, h⟩)
      · have h := h.2 hc
        refine bi_Tr 3 (s' := ((if (4 : Int32) ≤ x1 then 23 else 19), [(0, .ref a0), (1, .int x0), (2, .int x1)], [], st_mm s)) rfl (bi_Tif (fun hc => ?_) (fun hc => ?_))
        · have h := h.1 hc
          refine bi_Tr 1 (s' := (24, [(0, .ref a0), (1, .int x0), (2, .int x1)], [.int (0 : Int32)], st_mm s)) rfl ?_
          exact bi_Tv rfl rfl (Or.inl ⟨_, _, rfl, h⟩)
        · have h := h.2 hc
          refine bi_Tr 2 (s' := (24, [(0, .ref a0), (1, .int x0), (2, .int x1)], [.int (1 : Int32)], st_mm s)) rfl ?_
          exact bi_Tv rfl rfl (Or.inl ⟨_, _, rfl, h⟩)
/-- PolicyRows$State.numberAt(II)I -/
theorem en_X6_numberAt {X : bi_X} {d : Nat} {K : Int32 → bi_St → Prop} {E : Nat → bi_St → Prop} {s : bi_St} {a0 : Nat} {x0 : Int32} {x1 : Int32} (ha0 : st_isS a0) (h : cI X d 73 [.ref a0, .int x0, .int x1] s (fun (r1 : Int32) (s1 : bi_St) => ((r1 = 0) → K (0 : Int32) s1) ∧ (¬ (r1 = 0) → bi_in ((x0 * (4 : Int32)) + x1) 64 = true ∧ (K (st_g s1 (a0 + 1) (((x0 * (4 : Int32)) + x1)).toNatClampNeg) s1))) (fun _ _ => False)) : cI X (d + 1) 74 [.ref a0, .int x0, .int x1] s K E := by
  show bi_T _ _ _ _ _
  refine bi_Tr 3 (s' := (3, [(0, .ref a0), (1, .int x0), (2, .int x1)], [.int x1, .int x0, .ref a0], st_mm s)) rfl ?_
  refine bi_TcI (as := [.ref a0, .int x0, .int x1]) (bi_TcO rfl rfl rfl (st_kS0 ha0) rfl rfl) rfl ?_
  refine cI.mono h (fun r1 s1 h => ?_) (fun _ _ h => h.elim)
  refine bi_Tr 1 (s' := ((if r1 = 0 then 22 else 9), [(0, .ref a0), (1, .int x0), (2, .int x1)], [], st_mm s1)) rfl (bi_Tif (fun hc => ?_) (fun hc => ?_))
  · have h := h.1 hc
    refine bi_Tr 1 (s' := (23, [(0, .ref a0), (1, .int x0), (2, .int x1)], [.int (0 : Int32)], st_mm s1)) rfl ?_
    exact bi_Tv rfl rfl (Or.inl ⟨_, _, rfl, h⟩)
  · have h := h.2 hc
    refine bi_Tr 1 (s' := (10, [(0, .ref a0), (1, .int x0), (2, .int x1)], [.ref a0], st_mm s1)) rfl ?_
    refine bi_Tgr rfl rfl rfl (st_kS0 ha0) (st_pS1 ha0) ?_
    refine bi_Tr 5 (s' := (18, [(0, .ref a0), (1, .int x0), (2, .int x1)], [.int ((x0 * (4 : Int32)) + x1), .ref (a0 + 1)], st_mm s1)) rfl ?_
    obtain ⟨hi, h⟩ := h
    refine bi_Tial rfl (by have := ha0; simp only [st_isS] at this; rcases this with h | h | h | h <;> rw [h] <;> rfl) (st_kS1 ha0) hi ?_
    refine bi_Tr 1 (s' := (23, [(0, .ref a0), (1, .int x0), (2, .int x1)], [.int (st_g s1 (a0 + 1) (((x0 * (4 : Int32)) + x1)).toNatClampNeg)], st_mm s1)) rfl ?_
    exact bi_Tv rfl rfl (Or.inl ⟨_, _, rfl, h⟩)
def at_X2_allHadBy_4 (X : bi_X) (d : Nat) (K : Int32 → bi_St → Prop) (E : Nat → bi_St → Prop) (s : bi_St) (y2 : Int32) (y3 : Int32) : Prop := bi_T X d 25 (4, [(0, .ref 57), (2, .int y2), (3, .int y3)], [], st_mm s) (st_RI K E)
def at_X2_allHadBy_13 (X : bi_X) (d : Nat) (K : Int32 → bi_St → Prop) (E : Nat → bi_St → Prop) (s : bi_St) (y2 : Int32) (y3 : Int32) (y4 : Int32) : Prop := bi_T X d 25 (13, [(0, .ref 57), (2, .int y2), (3, .int y3), (4, .int y4)], [], st_mm s) (st_RI K E)
theorem go_X2_allHadBy_4 {X : bi_X} {d : Nat} {K : Int32 → bi_St → Prop} {E : Nat → bi_St → Prop}  {s : bi_St} {y2 : Int32} {y3 : Int32}  (h : (((6 : Int32) ≤ y3) → K y2 s) ∧ (¬ ((6 : Int32) ≤ y3) → at_X2_allHadBy_13 X (d + 1) K E s (y2) (y3) ((0 : Int32)))) : at_X2_allHadBy_4 X (d + 1) K E s y2 y3 := by
  show bi_T _ _ _ _ _
  refine bi_Tr 3 (s' := ((if (6 : Int32) ≤ y3 then 59 else 10), [(0, .ref 57), (2, .int y2), (3, .int y3)], [], st_mm s)) rfl (bi_Tif (fun hc => ?_) (fun hc => ?_))
  · have h := h.1 hc
    refine bi_Tr 1 (s' := (60, [(0, .ref 57), (2, .int y2), (3, .int y3)], [.int y2], st_mm s)) rfl ?_
    exact bi_Tv rfl rfl (Or.inl ⟨_, _, rfl, h⟩)
  · have h := h.2 hc
    refine bi_Tr 2 (s' := (13, [(4, .int (0 : Int32)), (0, .ref 57), (2, .int y2), (3, .int y3)], [], st_mm s)) rfl ?_
    exact bi_Tww h rfl rfl ⟨rfl, rfl, rfl, rfl, trivial⟩
theorem go_X2_allHadBy_13 {X : bi_X} {d : Nat} {K : Int32 → bi_St → Prop} {E : Nat → bi_St → Prop}  {s : bi_St} {y2 : Int32} {y3 : Int32} {y4 : Int32}  (h : (((6 : Int32) ≤ y4) → at_X2_allHadBy_4 X (d + 1) K E s (y2) ((y3 + (1 : Int32)))) ∧ (¬ ((6 : Int32) ≤ y4) → cI X d 160 [.int y2, .int y4] s (fun (r1 : Int32) (s1 : bi_St) => ((¬ r1 = (1 : Int32)) → at_X2_allHadBy_13 X (d + 1) K E s1 ((y2 ||| (0 : Int32))) (y3) ((y4 + (1 : Int32)))) ∧ (¬ (¬ r1 = (1 : Int32)) → st_isS (st_gp s1 8) ∧ (bi_in y4 6 = true ∧ (at_X2_allHadBy_13 X (d + 1) K E s1 ((y2 ||| (st_g s1 ((st_gp s1 8) + 2) (y4).toNatClampNeg))) (y3) ((y4 + (1 : Int32))))))) (fun _ _ => False))) : at_X2_allHadBy_13 X (d + 1) K E s y2 y3 y4 := by
  show bi_T _ _ _ _ _
  refine bi_Tr 3 (s' := ((if (6 : Int32) ≤ y4 then 53 else 20), [(0, .ref 57), (2, .int y2), (3, .int y3), (4, .int y4)], [], st_mm s)) rfl (bi_Tif (fun hc => ?_) (fun hc => ?_))
  · have h := h.1 hc
    refine bi_Tr 2 (s' := (4, [(3, .int (y3 + (1 : Int32))), (0, .ref 57), (2, .int y2), (4, .int y4)], [], st_mm s)) rfl ?_
    exact bi_Tww h rfl rfl ⟨rfl, rfl, rfl, trivial⟩
  · have h := h.2 hc
    refine bi_Tr 3 (s' := (24, [(0, .ref 57), (2, .int y2), (3, .int y3), (4, .int y4)], [.int y4, .int y2, .int y2], st_mm s)) rfl ?_
    refine bi_TcI (as := [.int y2, .int y4]) rfl rfl ?_
    refine cI.mono h (fun r1 s1 h => ?_) (fun _ _ h => h.elim)
    refine bi_Tr 2 (s' := ((if ¬ r1 = (1 : Int32) then 44 else 31), [(0, .ref 57), (2, .int y2), (3, .int y3), (4, .int y4)], [.int y2], st_mm s1)) rfl (bi_Tif (fun hc => ?_) (fun hc => ?_))
    · have h := h.1 hc
      refine bi_Tr 5 (s' := (13, [(4, .int (y4 + (1 : Int32))), (2, .int (y2 ||| (0 : Int32))), (0, .ref 57), (3, .int y3)], [], st_mm s1)) rfl ?_
      exact bi_Tww h rfl rfl ⟨rfl, rfl, rfl, rfl, trivial⟩
    · have h := h.2 hc
      obtain ⟨h0q2_32, h⟩ := h
      refine bi_Tr 2 (s' := (35, [(0, .ref 57), (2, .int y2), (3, .int y3), (4, .int y4)], [.ref (st_gp s1 8), .int y2], st_mm s1)) rfl ?_
      refine bi_Tgr rfl rfl rfl (st_kS0 h0q2_32) (st_pS2 h0q2_32) ?_
      refine bi_Tr 1 (s' := (40, [(0, .ref 57), (2, .int y2), (3, .int y3), (4, .int y4)], [.int y4, .ref ((st_gp s1 8) + 2), .int y2], st_mm s1)) rfl ?_
      obtain ⟨hi, h⟩ := h
      refine bi_Tial rfl (by have := h0q2_32; simp only [st_isS] at this; rcases this with h | h | h | h <;> rw [h] <;> rfl) (st_kS2 h0q2_32) hi ?_
      refine bi_Tr 5 (s' := (13, [(4, .int (y4 + (1 : Int32))), (2, .int (y2 ||| (st_g s1 ((st_gp s1 8) + 2) (y4).toNatClampNeg))), (0, .ref 57), (3, .int y3)], [], st_mm s1)) rfl ?_
      exact bi_Tww h rfl rfl ⟨rfl, rfl, rfl, rfl, trivial⟩
/-- PolicyRows$Judge.allHadBy(I)I -/
theorem en_X2_allHadBy {X : bi_X} {d : Nat} {K : Int32 → bi_St → Prop} {E : Nat → bi_St → Prop} {s : bi_St} {x0 : Int32}  (h : at_X2_allHadBy_4 X (d + 1) K E s (x0) ((0 : Int32))) : cI X (d + 1) 25 [.ref 57, .int x0] s K E := by
  show bi_T _ _ _ _ _
  refine bi_Tr 4 (s' := (4, [(3, .int (0 : Int32)), (2, .int x0), (0, .ref 57), (1, .int x0)], [], st_mm s)) rfl ?_
  exact bi_Tww h rfl rfl ⟨rfl, rfl, rfl, trivial⟩
def at_X2_applying_5 (X : bi_X) (d : Nat) (K : Int32 → bi_St → Prop) (E : Nat → bi_St → Prop) (s : bi_St) (y1 : Int32) (y2 : Int32) (y3 : Int32) (y4 : Int32) : Prop := bi_T X d 28 (5, [(0, .ref 57), (1, .int y1), (2, .int y2), (3, .int y3), (4, .int y4)], [], st_mm s) (st_RI K E)
theorem go_X2_applying_5 {X : bi_X} {d : Nat} {K : Int32 → bi_St → Prop} {E : Nat → bi_St → Prop}  {s : bi_St} {y1 : Int32} {y2 : Int32} {y3 : Int32} {y4 : Int32}  (h : st_isB (st_gp s 7) ∧ ((((st_g s (st_gp s 7) 2) ≤ y4) → K y3 s) ∧ (¬ ((st_g s (st_gp s 7) 2) ≤ y4) → st_isB (st_gp s 7) ∧ (bi_in y4 8 = true ∧ (st_isB (st_gp s 7) ∧ (bi_in y4 8 = true ∧ ((((st_g s ((st_gp s 7) + 1) (y4).toNatClampNeg) = (-1 : Int32)) → cI X d 160 [.int y1, .int y4] s (fun (r1 : Int32) (s1 : bi_St) => ((¬ r1 = (1 : Int32)) → at_X2_applying_5 X (d + 1) K E s1 (y1) (y2) (y3) ((y4 + (1 : Int32)))) ∧ (¬ (¬ r1 = (1 : Int32)) → (((1 : Int32) = 0) → at_X2_applying_5 X (d + 1) K E s1 (y1) (y2) (y3) ((y4 + (1 : Int32)))) ∧ (¬ ((1 : Int32) = 0) → (((st_g s ((st_gp s 7) + 2) (y4).toNatClampNeg) = y2) → at_X2_applying_5 X (d + 1) K E s1 (y1) (y2) ((y3 ||| ((1 : Int32) <<< (y4 &&& 31)))) ((y4 + (1 : Int32)))) ∧ (¬ ((st_g s ((st_gp s 7) + 2) (y4).toNatClampNeg) = y2) → ((¬ (st_g s ((st_gp s 7) + 2) (y4).toNatClampNeg) = (4 : Int32)) → at_X2_applying_5 X (d + 1) K E s1 (y1) (y2) (y3) ((y4 + (1 : Int32)))) ∧ (¬ (¬ (st_g s ((st_gp s 7) + 2) (y4).toNatClampNeg) = (4 : Int32)) → at_X2_applying_5 X (d + 1) K E s1 (y1) (y2) ((y3 ||| ((1 : Int32) <<< (y4 &&& 31)))) ((y4 + (1 : Int32)))))))) (fun _ _ => False)) ∧ (¬ ((st_g s ((st_gp s 7) + 1) (y4).toNatClampNeg) = (-1 : Int32)) → cI X d 160 [.int (st_g s 57 6), .int (st_g s ((st_gp s 7) + 1) (y4).toNatClampNeg)] s (fun (r2 : Int32) (s2 : bi_St) => ((¬ r2 = (1 : Int32)) → cI X d 160 [.int y1, .int y4] s2 (fun (r3 : Int32) (s3 : bi_St) => ((¬ r3 = (1 : Int32)) → at_X2_applying_5 X (d + 1) K E s3 (y1) (y2) (y3) ((y4 + (1 : Int32)))) ∧ (¬ (¬ r3 = (1 : Int32)) → (((0 : Int32) = 0) → at_X2_applying_5 X (d + 1) K E s3 (y1) (y2) (y3) ((y4 + (1 : Int32)))) ∧ (¬ ((0 : Int32) = 0) → (((st_g s ((st_gp s 7) + 2) (y4).toNatClampNeg) = y2) → at_X2_applying_5 X (d + 1) K E s3 (y1) (y2) ((y3 ||| ((1 : Int32) <<< (y4 &&& 31)))) ((y4 + (1 : Int32)))) ∧ (¬ ((st_g s ((st_gp s 7) + 2) (y4).toNatClampNeg) = y2) → ((¬ (st_g s ((st_gp s 7) + 2) (y4).toNatClampNeg) = (4 : Int32)) → at_X2_applying_5 X (d + 1) K E s3 (y1) (y2) (y3) ((y4 + (1 : Int32)))) ∧ (¬ (¬ (st_g s ((st_gp s 7) + 2) (y4).toNatClampNeg) = (4 : Int32)) → at_X2_applying_5 X (d + 1) K E s3 (y1) (y2) ((y3 ||| ((1 : Int32) <<< (y4 &&& 31)))) ((y4 + (1 : Int32)))))))) (fun _ _ => False)) ∧ (¬ (¬ r2 = (1 : Int32)) → cI X d 160 [.int y1, .int y4] s2 (fun (r4 : Int32) (s4 : bi_St) => ((¬ r4 = (1 : Int32)) → at_X2_applying_5 X (d + 1) K E s4 (y1) (y2) (y3) ((y4 + (1 : Int32)))) ∧ (¬ (¬ r4 = (1 : Int32)) → (((1 : Int32) = 0) → at_X2_applying_5 X (d + 1) K E s4 (y1) (y2) (y3) ((y4 + (1 : Int32)))) ∧ (¬ ((1 : Int32) = 0) → (((st_g s ((st_gp s 7) + 2) (y4).toNatClampNeg) = y2) → at_X2_applying_5 X (d + 1) K E s4 (y1) (y2) ((y3 ||| ((1 : Int32) <<< (y4 &&& 31)))) ((y4 + (1 : Int32)))) ∧ (¬ ((st_g s ((st_gp s 7) + 2) (y4).toNatClampNeg) = y2) → ((¬ (st_g s ((st_gp s 7) + 2) (y4).toNatClampNeg) = (4 : Int32)) → at_X2_applying_5 X (d + 1) K E s4 (y1) (y2) (y3) ((y4 + (1 : Int32)))) ∧ (¬ (¬ (st_g s ((st_gp s 7) + 2) (y4).toNatClampNeg) = (4 : Int32)) → at_X2_applying_5 X (d + 1) K E s4 (y1) (y2) ((y3 ||| ((1 : Int32) <<< (y4 &&& 31)))) ((y4 + (1 : Int32)))))))) (fun _ _ => False))) (fun _ _ => False))))))))) : at_X2_applying_5 X (d + 1) K E s y1 y2 y3 y4 := by
  show bi_T _ _ _ _ _
  obtain ⟨h0q0_8, h⟩ := h
  refine bi_Tr 3 (s' := (11, [(0, .ref 57), (1, .int y1), (2, .int y2), (3, .int y3), (4, .int y4)], [.ref (st_gp s 7), .int y4], st_mm s)) rfl ?_
  refine bi_Tgi (o := 0) rfl rfl rfl (st_kB0 h0q0_8) ?_
  refine bi_Tr 1 (s' := ((if (st_g s (st_gp s 7) 2) ≤ y4 then 107 else 17), [(0, .ref 57), (1, .int y1), (2, .int y2), (3, .int y3), (4, .int y4)], [], st_mm s)) rfl (bi_Tif (fun hc => ?_) (fun hc => ?_))
  · have h := h.1 hc
    refine bi_Tr 1 (s' := (108, [(0, .ref 57), (1, .int y1), (2, .int y2), (3, .int y3), (4, .int y4)], [.int y3], st_mm s)) rfl ?_
    exact bi_Tv rfl rfl (Or.inl ⟨_, _, rfl, h⟩)
  · have h := h.2 hc
    obtain ⟨h0q1_18, h⟩ := h
    refine bi_Tr 2 (s' := (21, [(0, .ref 57), (1, .int y1), (2, .int y2), (3, .int y3), (4, .int y4)], [.ref (st_gp s 7)], st_mm s)) rfl ?_
    refine bi_Tgr rfl rfl rfl (st_kB0 h0q1_18) (st_pB4 h0q1_18) ?_
    refine bi_Tr 1 (s' := (26, [(0, .ref 57), (1, .int y1), (2, .int y2), (3, .int y3), (4, .int y4)], [.int y4, .ref ((st_gp s 7) + 1)], st_mm s)) rfl ?_
    obtain ⟨hi, h⟩ := h
    refine bi_Tial rfl (by have := h0q1_18; simp only [st_isB] at this; rcases this with h | h <;> rw [h] <;> rfl) (st_kB1 h0q1_18) hi ?_
    obtain ⟨h43q1_30, h⟩ := h
    refine bi_Tr 3 (s' := (33, [(5, .int (st_g s ((st_gp s 7) + 1) (y4).toNatClampNeg)), (0, .ref 57), (1, .int y1), (2, .int y2), (3, .int y3), (4, .int y4)], [.ref (st_gp s 7)], st_mm s)) rfl ?_
    refine bi_Tgr rfl rfl rfl (st_kB0 h43q1_30) (st_pB5 h43q1_30) ?_
    refine bi_Tr 1 (s' := (38, [(5, .int (st_g s ((st_gp s 7) + 1) (y4).toNatClampNeg)), (0, .ref 57), (1, .int y1), (2, .int y2), (3, .int y3), (4, .int y4)], [.int y4, .ref ((st_gp s 7) + 2)], st_mm s)) rfl ?_
    obtain ⟨hi, h⟩ := h
    refine bi_Tial rfl (by have := h43q1_30; simp only [st_isB] at this; rcases this with h | h <;> rw [h] <;> rfl) (st_kB2 h43q1_30) hi ?_
    refine bi_Tr 4 (s' := ((if (st_g s ((st_gp s 7) + 1) (y4).toNatClampNeg) = (-1 : Int32) then 60 else 47), [(6, .int (st_g s ((st_gp s 7) + 2) (y4).toNatClampNeg)), (5, .int (st_g s ((st_gp s 7) + 1) (y4).toNatClampNeg)), (0, .ref 57), (1, .int y1), (2, .int y2), (3, .int y3), (4, .int y4)], [], st_mm s)) rfl (bi_Tif (fun hc => ?_) (fun hc => ?_))
    · have h := h.1 hc
      refine bi_Tr 5 (s' := (70, [(7, .int (1 : Int32)), (6, .int (st_g s ((st_gp s 7) + 2) (y4).toNatClampNeg)), (5, .int (st_g s ((st_gp s 7) + 1) (y4).toNatClampNeg)), (0, .ref 57), (1, .int y1), (2, .int y2), (3, .int y3), (4, .int y4)], [.int y4, .int y1], st_mm s)) rfl ?_
      refine bi_TcI (as := [.int y1, .int y4]) rfl rfl ?_
      refine cI.mono h (fun r1 s1 h => ?_) (fun _ _ h => h.elim)
      refine bi_Tr 2 (s' := ((if ¬ r1 = (1 : Int32) then 101 else 77), [(7, .int (1 : Int32)), (6, .int (st_g s ((st_gp s 7) + 2) (y4).toNatClampNeg)), (5, .int (st_g s ((st_gp s 7) + 1) (y4).toNatClampNeg)), (0, .ref 57), (1, .int y1), (2, .int y2), (3, .int y3), (4, .int y4)], [], st_mm s1)) rfl (bi_Tif (fun hc => ?_) (fun hc => ?_))
      · have h := h.1 hc
        refine bi_Tr 2 (s' := (5, [(4, .int (y4 + (1 : Int32))), (7, .int (1 : Int32)), (6, .int (st_g s ((st_gp s 7) + 2) (y4).toNatClampNeg)), (5, .int (st_g s ((st_gp s 7) + 1) (y4).toNatClampNeg)), (0, .ref 57), (1, .int y1), (2, .int y2), (3, .int y3)], [], st_mm s1)) rfl ?_
        exact bi_Tww h rfl rfl ⟨rfl, rfl, rfl, rfl, rfl, trivial⟩
      · have h := h.2 hc
        refine bi_Tr 2 (s' := ((if (1 : Int32) = 0 then 101 else 82), [(7, .int (1 : Int32)), (6, .int (st_g s ((st_gp s 7) + 2) (y4).toNatClampNeg)), (5, .int (st_g s ((st_gp s 7) + 1) (y4).toNatClampNeg)), (0, .ref 57), (1, .int y1), (2, .int y2), (3, .int y3), (4, .int y4)], [], st_mm s1)) rfl (bi_Tif (fun hc => ?_) (fun hc => ?_))
        · have h := h.1 hc
          refine bi_Tr 2 (s' := (5, [(4, .int (y4 + (1 : Int32))), (7, .int (1 : Int32)), (6, .int (st_g s ((st_gp s 7) + 2) (y4).toNatClampNeg)), (5, .int (st_g s ((st_gp s 7) + 1) (y4).toNatClampNeg)), (0, .ref 57), (1, .int y1), (2, .int y2), (3, .int y3)], [], st_mm s1)) rfl ?_
          exact bi_Tww h rfl rfl ⟨rfl, rfl, rfl, rfl, rfl, trivial⟩
        · have h := h.2 hc
          refine bi_Tr 3 (s' := ((if (st_g s ((st_gp s 7) + 2) (y4).toNatClampNeg) = y2 then 94 else 88), [(7, .int (1 : Int32)), (6, .int (st_g s ((st_gp s 7) + 2) (y4).toNatClampNeg)), (5, .int (st_g s ((st_gp s 7) + 1) (y4).toNatClampNeg)), (0, .ref 57), (1, .int y1), (2, .int y2), (3, .int y3), (4, .int y4)], [], st_mm s1)) rfl (bi_Tif (fun hc => ?_) (fun hc => ?_))
          · have h := h.1 hc
            refine bi_Tr 8 (s' := (5, [(4, .int (y4 + (1 : Int32))), (3, .int (y3 ||| ((1 : Int32) <<< (y4 &&& 31)))), (7, .int (1 : Int32)), (6, .int (st_g s ((st_gp s 7) + 2) (y4).toNatClampNeg)), (5, .int (st_g s ((st_gp s 7) + 1) (y4).toNatClampNeg)), (0, .ref 57), (1, .int y1), (2, .int y2)], [], st_mm s1)) rfl ?_
            exact bi_Tww h rfl rfl ⟨rfl, rfl, rfl, rfl, rfl, trivial⟩
          · have h := h.2 hc
            refine bi_Tr 3 (s' := ((if ¬ (st_g s ((st_gp s 7) + 2) (y4).toNatClampNeg) = (4 : Int32) then 101 else 94), [(7, .int (1 : Int32)), (6, .int (st_g s ((st_gp s 7) + 2) (y4).toNatClampNeg)), (5, .int (st_g s ((st_gp s 7) + 1) (y4).toNatClampNeg)), (0, .ref 57), (1, .int y1), (2, .int y2), (3, .int y3), (4, .int y4)], [], st_mm s1)) rfl (bi_Tif (fun hc => ?_) (fun hc => ?_))
            · have h := h.1 hc
              refine bi_Tr 2 (s' := (5, [(4, .int (y4 + (1 : Int32))), (7, .int (1 : Int32)), (6, .int (st_g s ((st_gp s 7) + 2) (y4).toNatClampNeg)), (5, .int (st_g s ((st_gp s 7) + 1) (y4).toNatClampNeg)), (0, .ref 57), (1, .int y1), (2, .int y2), (3, .int y3)], [], st_mm s1)) rfl ?_
              exact bi_Tww h rfl rfl ⟨rfl, rfl, rfl, rfl, rfl, trivial⟩
            · have h := h.2 hc
              refine bi_Tr 8 (s' := (5, [(4, .int (y4 + (1 : Int32))), (3, .int (y3 ||| ((1 : Int32) <<< (y4 &&& 31)))), (7, .int (1 : Int32)), (6, .int (st_g s ((st_gp s 7) + 2) (y4).toNatClampNeg)), (5, .int (st_g s ((st_gp s 7) + 1) (y4).toNatClampNeg)), (0, .ref 57), (1, .int y1), (2, .int y2)], [], st_mm s1)) rfl ?_
              exact bi_Tww h rfl rfl ⟨rfl, rfl, rfl, rfl, rfl, trivial⟩
    · have h := h.2 hc
      refine bi_Tr 3 (s' := (53, [(6, .int (st_g s ((st_gp s 7) + 2) (y4).toNatClampNeg)), (5, .int (st_g s ((st_gp s 7) + 1) (y4).toNatClampNeg)), (0, .ref 57), (1, .int y1), (2, .int y2), (3, .int y3), (4, .int y4)], [.int (st_g s ((st_gp s 7) + 1) (y4).toNatClampNeg), .int (st_g s 57 6)], st_mm s)) rfl ?_
      refine bi_TcI (as := [.int (st_g s 57 6), .int (st_g s ((st_gp s 7) + 1) (y4).toNatClampNeg)]) rfl rfl ?_
      refine cI.mono h (fun r2 s2 h => ?_) (fun _ _ h => h.elim)
      refine bi_Tr 2 (s' := ((if ¬ r2 = (1 : Int32) then 64 else 60), [(6, .int (st_g s ((st_gp s 7) + 2) (y4).toNatClampNeg)), (5, .int (st_g s ((st_gp s 7) + 1) (y4).toNatClampNeg)), (0, .ref 57), (1, .int y1), (2, .int y2), (3, .int y3), (4, .int y4)], [], st_mm s2)) rfl (bi_Tif (fun hc => ?_) (fun hc => ?_))
      · have h := h.1 hc
        refine bi_Tr 4 (s' := (70, [(7, .int (0 : Int32)), (6, .int (st_g s ((st_gp s 7) + 2) (y4).toNatClampNeg)), (5, .int (st_g s ((st_gp s 7) + 1) (y4).toNatClampNeg)), (0, .ref 57), (1, .int y1), (2, .int y2), (3, .int y3), (4, .int y4)], [.int y4, .int y1], st_mm s2)) rfl ?_
        refine bi_TcI (as := [.int y1, .int y4]) rfl rfl ?_
        refine cI.mono h (fun r3 s3 h => ?_) (fun _ _ h => h.elim)
        refine bi_Tr 2 (s' := ((if ¬ r3 = (1 : Int32) then 101 else 77), [(7, .int (0 : Int32)), (6, .int (st_g s ((st_gp s 7) + 2) (y4).toNatClampNeg)), (5, .int (st_g s ((st_gp s 7) + 1) (y4).toNatClampNeg)), (0, .ref 57), (1, .int y1), (2, .int y2), (3, .int y3), (4, .int y4)], [], st_mm s3)) rfl (bi_Tif (fun hc => ?_) (fun hc => ?_))
        · have h := h.1 hc
          refine bi_Tr 2 (s' := (5, [(4, .int (y4 + (1 : Int32))), (7, .int (0 : Int32)), (6, .int (st_g s ((st_gp s 7) + 2) (y4).toNatClampNeg)), (5, .int (st_g s ((st_gp s 7) + 1) (y4).toNatClampNeg)), (0, .ref 57), (1, .int y1), (2, .int y2), (3, .int y3)], [], st_mm s3)) rfl ?_
          exact bi_Tww h rfl rfl ⟨rfl, rfl, rfl, rfl, rfl, trivial⟩
        · have h := h.2 hc
          refine bi_Tr 2 (s' := ((if (0 : Int32) = 0 then 101 else 82), [(7, .int (0 : Int32)), (6, .int (st_g s ((st_gp s 7) + 2) (y4).toNatClampNeg)), (5, .int (st_g s ((st_gp s 7) + 1) (y4).toNatClampNeg)), (0, .ref 57), (1, .int y1), (2, .int y2), (3, .int y3), (4, .int y4)], [], st_mm s3)) rfl (bi_Tif (fun hc => ?_) (fun hc => ?_))
          · have h := h.1 hc
            refine bi_Tr 2 (s' := (5, [(4, .int (y4 + (1 : Int32))), (7, .int (0 : Int32)), (6, .int (st_g s ((st_gp s 7) + 2) (y4).toNatClampNeg)), (5, .int (st_g s ((st_gp s 7) + 1) (y4).toNatClampNeg)), (0, .ref 57), (1, .int y1), (2, .int y2), (3, .int y3)], [], st_mm s3)) rfl ?_
            exact bi_Tww h rfl rfl ⟨rfl, rfl, rfl, rfl, rfl, trivial⟩
          · have h := h.2 hc
            refine bi_Tr 3 (s' := ((if (st_g s ((st_gp s 7) + 2) (y4).toNatClampNeg) = y2 then 94 else 88), [(7, .int (0 : Int32)), (6, .int (st_g s ((st_gp s 7) + 2) (y4).toNatClampNeg)), (5, .int (st_g s ((st_gp s 7) + 1) (y4).toNatClampNeg)), (0, .ref 57), (1, .int y1), (2, .int y2), (3, .int y3), (4, .int y4)], [], st_mm s3)) rfl (bi_Tif (fun hc => ?_) (fun hc => ?_))
            · have h := h.1 hc
              refine bi_Tr 8 (s' := (5, [(4, .int (y4 + (1 : Int32))), (3, .int (y3 ||| ((1 : Int32) <<< (y4 &&& 31)))), (7, .int (0 : Int32)), (6, .int (st_g s ((st_gp s 7) + 2) (y4).toNatClampNeg)), (5, .int (st_g s ((st_gp s 7) + 1) (y4).toNatClampNeg)), (0, .ref 57), (1, .int y1), (2, .int y2)], [], st_mm s3)) rfl ?_
              exact bi_Tww h rfl rfl ⟨rfl, rfl, rfl, rfl, rfl, trivial⟩
            · have h := h.2 hc
              refine bi_Tr 3 (s' := ((if ¬ (st_g s ((st_gp s 7) + 2) (y4).toNatClampNeg) = (4 : Int32) then 101 else 94), [(7, .int (0 : Int32)), (6, .int (st_g s ((st_gp s 7) + 2) (y4).toNatClampNeg)), (5, .int (st_g s ((st_gp s 7) + 1) (y4).toNatClampNeg)), (0, .ref 57), (1, .int y1), (2, .int y2), (3, .int y3), (4, .int y4)], [], st_mm s3)) rfl (bi_Tif (fun hc => ?_) (fun hc => ?_))
              · have h := h.1 hc
                refine bi_Tr 2 (s' := (5, [(4, .int (y4 + (1 : Int32))), (7, .int (0 : Int32)), (6, .int (st_g s ((st_gp s 7) + 2) (y4).toNatClampNeg)), (5, .int (st_g s ((st_gp s 7) + 1) (y4).toNatClampNeg)), (0, .ref 57), (1, .int y1), (2, .int y2), (3, .int y3)], [], st_mm s3)) rfl ?_
                exact bi_Tww h rfl rfl ⟨rfl, rfl, rfl, rfl, rfl, trivial⟩
              · have h := h.2 hc
                refine bi_Tr 8 (s' := (5, [(4, .int (y4 + (1 : Int32))), (3, .int (y3 ||| ((1 : Int32) <<< (y4 &&& 31)))), (7, .int (0 : Int32)), (6, .int (st_g s ((st_gp s 7) + 2) (y4).toNatClampNeg)), (5, .int (st_g s ((st_gp s 7) + 1) (y4).toNatClampNeg)), (0, .ref 57), (1, .int y1), (2, .int y2)], [], st_mm s3)) rfl ?_
                exact bi_Tww h rfl rfl ⟨rfl, rfl, rfl, rfl, rfl, trivial⟩
      · have h := h.2 hc
        refine bi_Tr 5 (s' := (70, [(7, .int (1 : Int32)), (6, .int (st_g s ((st_gp s 7) + 2) (y4).toNatClampNeg)), (5, .int (st_g s ((st_gp s 7) + 1) (y4).toNatClampNeg)), (0, .ref 57), (1, .int y1), (2, .int y2), (3, .int y3), (4, .int y4)], [.int y4, .int y1], st_mm s2)) rfl ?_
        refine bi_TcI (as := [.int y1, .int y4]) rfl rfl ?_
        refine cI.mono h (fun r4 s4 h => ?_) (fun _ _ h => h.elim)
        refine bi_Tr 2 (s' := ((if ¬ r4 = (1 : Int32) then 101 else 77), [(7, .int (1 : Int32)), (6, .int (st_g s ((st_gp s 7) + 2) (y4).toNatClampNeg)), (5, .int (st_g s ((st_gp s 7) + 1) (y4).toNatClampNeg)), (0, .ref 57), (1, .int y1), (2, .int y2), (3, .int y3), (4, .int y4)], [], st_mm s4)) rfl (bi_Tif (fun hc => ?_) (fun hc => ?_))
        · have h := h.1 hc
          refine bi_Tr 2 (s' := (5, [(4, .int (y4 + (1 : Int32))), (7, .int (1 : Int32)), (6, .int (st_g s ((st_gp s 7) + 2) (y4).toNatClampNeg)), (5, .int (st_g s ((st_gp s 7) + 1) (y4).toNatClampNeg)), (0, .ref 57), (1, .int y1), (2, .int y2), (3, .int y3)], [], st_mm s4)) rfl ?_
          exact bi_Tww h rfl rfl ⟨rfl, rfl, rfl, rfl, rfl, trivial⟩
        · have h := h.2 hc
          refine bi_Tr 2 (s' := ((if (1 : Int32) = 0 then 101 else 82), [(7, .int (1 : Int32)), (6, .int (st_g s ((st_gp s 7) + 2) (y4).toNatClampNeg)), (5, .int (st_g s ((st_gp s 7) + 1) (y4).toNatClampNeg)), (0, .ref 57), (1, .int y1), (2, .int y2), (3, .int y3), (4, .int y4)], [], st_mm s4)) rfl (bi_Tif (fun hc => ?_) (fun hc => ?_))
          · have h := h.1 hc
            refine bi_Tr 2 (s' := (5, [(4, .int (y4 + (1 : Int32))), (7, .int (1 : Int32)), (6, .int (st_g s ((st_gp s 7) + 2) (y4).toNatClampNeg)), (5, .int (st_g s ((st_gp s 7) + 1) (y4).toNatClampNeg)), (0, .ref 57), (1, .int y1), (2, .int y2), (3, .int y3)], [], st_mm s4)) rfl ?_
            exact bi_Tww h rfl rfl ⟨rfl, rfl, rfl, rfl, rfl, trivial⟩
          · have h := h.2 hc
            refine bi_Tr 3 (s' := ((if (st_g s ((st_gp s 7) + 2) (y4).toNatClampNeg) = y2 then 94 else 88), [(7, .int (1 : Int32)), (6, .int (st_g s ((st_gp s 7) + 2) (y4).toNatClampNeg)), (5, .int (st_g s ((st_gp s 7) + 1) (y4).toNatClampNeg)), (0, .ref 57), (1, .int y1), (2, .int y2), (3, .int y3), (4, .int y4)], [], st_mm s4)) rfl (bi_Tif (fun hc => ?_) (fun hc => ?_))
            · have h := h.1 hc
              refine bi_Tr 8 (s' := (5, [(4, .int (y4 + (1 : Int32))), (3, .int (y3 ||| ((1 : Int32) <<< (y4 &&& 31)))), (7, .int (1 : Int32)), (6, .int (st_g s ((st_gp s 7) + 2) (y4).toNatClampNeg)), (5, .int (st_g s ((st_gp s 7) + 1) (y4).toNatClampNeg)), (0, .ref 57), (1, .int y1), (2, .int y2)], [], st_mm s4)) rfl ?_
              exact bi_Tww h rfl rfl ⟨rfl, rfl, rfl, rfl, rfl, trivial⟩
            · have h := h.2 hc
              refine bi_Tr 3 (s' := ((if ¬ (st_g s ((st_gp s 7) + 2) (y4).toNatClampNeg) = (4 : Int32) then 101 else 94), [(7, .int (1 : Int32)), (6, .int (st_g s ((st_gp s 7) + 2) (y4).toNatClampNeg)), (5, .int (st_g s ((st_gp s 7) + 1) (y4).toNatClampNeg)), (0, .ref 57), (1, .int y1), (2, .int y2), (3, .int y3), (4, .int y4)], [], st_mm s4)) rfl (bi_Tif (fun hc => ?_) (fun hc => ?_))
              · have h := h.1 hc
                refine bi_Tr 2 (s' := (5, [(4, .int (y4 + (1 : Int32))), (7, .int (1 : Int32)), (6, .int (st_g s ((st_gp s 7) + 2) (y4).toNatClampNeg)), (5, .int (st_g s ((st_gp s 7) + 1) (y4).toNatClampNeg)), (0, .ref 57), (1, .int y1), (2, .int y2), (3, .int y3)], [], st_mm s4)) rfl ?_
                exact bi_Tww h rfl rfl ⟨rfl, rfl, rfl, rfl, rfl, trivial⟩
              · have h := h.2 hc
                refine bi_Tr 8 (s' := (5, [(4, .int (y4 + (1 : Int32))), (3, .int (y3 ||| ((1 : Int32) <<< (y4 &&& 31)))), (7, .int (1 : Int32)), (6, .int (st_g s ((st_gp s 7) + 2) (y4).toNatClampNeg)), (5, .int (st_g s ((st_gp s 7) + 1) (y4).toNatClampNeg)), (0, .ref 57), (1, .int y1), (2, .int y2)], [], st_mm s4)) rfl ?_
                exact bi_Tww h rfl rfl ⟨rfl, rfl, rfl, rfl, rfl, trivial⟩
/-- PolicyRows$Judge.applying(II)I -/
theorem en_X2_applying {X : bi_X} {d : Nat} {K : Int32 → bi_St → Prop} {E : Nat → bi_St → Prop} {s : bi_St} {x0 : Int32} {x1 : Int32}  (h : at_X2_applying_5 X (d + 1) K E s (x0) (x1) ((0 : Int32)) ((0 : Int32))) : cI X (d + 1) 28 [.ref 57, .int x0, .int x1] s K E := by
  show bi_T _ _ _ _ _
  refine bi_Tr 4 (s' := (5, [(4, .int (0 : Int32)), (3, .int (0 : Int32)), (0, .ref 57), (1, .int x0), (2, .int x1)], [], st_mm s)) rfl ?_
  exact bi_Tww h rfl rfl ⟨rfl, rfl, rfl, rfl, rfl, trivial⟩
/-- PolicyRows$Judge.become(I)V -/
theorem en_X2_become {X : bi_X} {d : Nat} {K : bi_St → Prop} {E : Nat → bi_St → Prop} {s : bi_St} {x0 : Int32}  (h : ((x0 < 0) → K (st_p (st_p s 57 5 x0) 57 6 (0 : Int32))) ∧ (¬ (x0 < 0) → (((6 : Int32) ≤ x0) → K (st_p (st_p s 57 5 x0) 57 6 (0 : Int32))) ∧ (¬ ((6 : Int32) ≤ x0) → bi_in x0 6 = true ∧ (K (st_p (st_p s 57 5 x0) 57 6 (st_g (st_p s 57 5 x0) 58 (x0).toNatClampNeg)))))) : cV X d 26 [.ref 57, .int x0] s K E := by
  show bi_T _ _ _ _ _
  refine bi_Tr 6 (s' := ((if x0 < 0 then 25 else 10), [(0, .ref 57), (1, .int x0)], [.ref 57], st_mm (st_p s 57 5 x0))) rfl (bi_Tif (fun hc => ?_) (fun hc => ?_))
  · have h := h.1 hc
    refine bi_Tr 2 (s' := (29, [(0, .ref 57), (1, .int x0)], [], st_mm (st_p (st_p s 57 5 x0) 57 6 (0 : Int32)))) rfl ?_
    exact bi_Tv rfl rfl (Or.inl ⟨_, rfl, h⟩)
  · have h := h.2 hc
    refine bi_Tr 3 (s' := ((if (6 : Int32) ≤ x0 then 25 else 16), [(0, .ref 57), (1, .int x0)], [.ref 57], st_mm (st_p s 57 5 x0))) rfl (bi_Tif (fun hc => ?_) (fun hc => ?_))
    · have h := h.1 hc
      refine bi_Tr 2 (s' := (29, [(0, .ref 57), (1, .int x0)], [], st_mm (st_p (st_p s 57 5 x0) 57 6 (0 : Int32)))) rfl ?_
      exact bi_Tv rfl rfl (Or.inl ⟨_, rfl, h⟩)
    · have h := h.2 hc
      refine bi_Tr 3 (s' := (21, [(0, .ref 57), (1, .int x0)], [.int x0, .ref 58, .ref 57], st_mm (st_p s 57 5 x0))) rfl ?_
      obtain ⟨hi, h⟩ := h
      refine bi_Tial rfl rfl rfl hi ?_
      refine bi_Tr 2 (s' := (29, [(0, .ref 57), (1, .int x0)], [], st_mm (st_p (st_p s 57 5 x0) 57 6 (st_g (st_p s 57 5 x0) 58 (x0).toNatClampNeg)))) rfl ?_
      exact bi_Tv rfl rfl (Or.inl ⟨_, rfl, h⟩)
def at_X2_take_2 (X : bi_X) (d : Nat) (K : bi_St → Prop) (E : Nat → bi_St → Prop) (s : bi_St) (y1 : Int32) (y2 : Int32) : Prop := bi_T X d 27 (2, [(0, .ref 57), (1, .int y1), (2, .int y2)], [], st_mm s) (st_RV K E)
theorem go_X2_take_2 {X : bi_X} {d : Nat} {K : bi_St → Prop} {E : Nat → bi_St → Prop}  {s : bi_St} {y1 : Int32} {y2 : Int32}  (h : (((4 : Int32) ≤ y2) → K s) ∧ (¬ ((4 : Int32) ≤ y2) → st_isS (st_gp s 8) ∧ (cI X d 74 [.ref (st_gp s 8), .int y1, .int y2] s (fun (r1 : Int32) (s1 : bi_St) => bi_in y2 4 = true ∧ (at_X2_take_2 X (d + 1) K E (st_p s1 59 (y2).toNatClampNeg r1) (y1) ((y2 + (1 : Int32))))) (fun _ _ => False)))) : at_X2_take_2 X (d + 1) K E s y1 y2 := by
  show bi_T _ _ _ _ _
  refine bi_Tr 3 (s' := ((if (4 : Int32) ≤ y2 then 28 else 7), [(0, .ref 57), (1, .int y1), (2, .int y2)], [], st_mm s)) rfl (bi_Tif (fun hc => ?_) (fun hc => ?_))
  · have h := h.1 hc
    exact bi_Tv rfl rfl (Or.inl ⟨_, rfl, h⟩)
  · have h := h.2 hc
    obtain ⟨h0q1_13, h⟩ := h
    refine bi_Tr 7 (s' := (18, [(0, .ref 57), (1, .int y1), (2, .int y2)], [.int y2, .int y1, .ref (st_gp s 8), .int y2, .ref 59], st_mm s)) rfl ?_
    refine bi_TcI (as := [.ref (st_gp s 8), .int y1, .int y2]) (bi_TcO rfl rfl rfl (st_kS0 h0q1_13) rfl rfl) rfl ?_
    refine cI.mono h (fun r1 s1 h => ?_) (fun _ _ h => h.elim)
    obtain ⟨hi, h⟩ := h
    refine bi_Tias rfl rfl hi ?_
    refine bi_Tr 2 (s' := (2, [(2, .int (y2 + (1 : Int32))), (0, .ref 57), (1, .int y1)], [], st_mm (st_p s1 59 (y2).toNatClampNeg r1))) rfl ?_
    exact bi_Tww h rfl rfl ⟨rfl, rfl, rfl, trivial⟩
/-- PolicyRows$Judge.take(I)V -/
theorem en_X2_take {X : bi_X} {d : Nat} {K : bi_St → Prop} {E : Nat → bi_St → Prop} {s : bi_St} {x0 : Int32}  (h : at_X2_take_2 X (d + 1) K E s (x0) ((0 : Int32))) : cV X (d + 1) 27 [.ref 57, .int x0] s K E := by
  show bi_T _ _ _ _ _
  refine bi_Tr 2 (s' := (2, [(2, .int (0 : Int32)), (0, .ref 57), (1, .int x0)], [], st_mm s)) rfl ?_
  exact bi_Tww h rfl rfl ⟨rfl, rfl, rfl, trivial⟩
