/-- PolicyRows$Rules.clear()V -/
theorem en_X5_clear {X : bi_X} {d : Nat} {K : bi_St → Prop} {E : Nat → bi_St → Prop} {s : bi_St} {a0 : Nat} (ha0 : st_isR a0) (h : K (st_p (st_p (st_p s a0 4 (0 : Int32)) a0 5 (0 : Int32)) a0 6 (0 : Int32))) : cV X d 63 [.ref a0] s K E := by
  show bi_T _ _ _ _ _
  refine bi_Tr 2 (s' := (2, [(0, .ref a0)], [.int (0 : Int32), .ref a0], st_mm s)) rfl ?_
  refine bi_Tpi rfl rfl rfl rfl (st_kR0 ha0) ?_
  refine bi_Tr 2 (s' := (7, [(0, .ref a0)], [.int (0 : Int32), .ref a0], st_mm (st_p s a0 4 (0 : Int32)))) rfl ?_
  refine bi_Tpi rfl rfl rfl rfl (st_kR0 ha0) ?_
  refine bi_Tr 2 (s' := (12, [(0, .ref a0)], [.int (0 : Int32), .ref a0], st_mm (st_p (st_p s a0 4 (0 : Int32)) a0 5 (0 : Int32)))) rfl ?_
  refine bi_Tpi rfl rfl rfl rfl (st_kR0 ha0) ?_
  exact bi_Tv rfl rfl (Or.inl ⟨_, rfl, h⟩)
/-- PolicyRows$Rules.add(II)V -/
theorem en_X5_add {X : bi_X} {d : Nat} {K : bi_St → Prop} {E : Nat → bi_St → Prop} {s : bi_St} {a0 : Nat} {x0 : Int32} {x1 : Int32} (ha0 : st_isR a0) (h : (((700 : Int32) ≤ (st_g s a0 4)) → K s) ∧ (¬ ((700 : Int32) ≤ (st_g s a0 4)) → bi_in (st_g s a0 4) 700 = true ∧ (K (st_p (st_p s (a0 + 1) ((st_g s a0 4)).toNatClampNeg (x0 ||| (x1 <<< ((4 : Int32) &&& 31)))) a0 4 ((st_g (st_p s (a0 + 1) ((st_g s a0 4)).toNatClampNeg (x0 ||| (x1 <<< ((4 : Int32) &&& 31)))) a0 4) + (1 : Int32)))))) : cV X d 64 [.ref a0, .int x0, .int x1] s K E := by
  show bi_T _ _ _ _ _
  refine bi_Tr 1 (s' := (1, [(0, .ref a0), (1, .int x0), (2, .int x1)], [.ref a0], st_mm s)) rfl ?_
  refine bi_Tgi (o := 0) rfl rfl rfl (st_kR0 ha0) ?_
  refine bi_Tr 2 (s' := ((if (700 : Int32) ≤ (st_g s a0 4) then 34 else 10), [(0, .ref a0), (1, .int x0), (2, .int x1)], [], st_mm s)) rfl (bi_Tif (fun hc => ?_) (fun hc => ?_))
  · have h := h.1 hc
    exact bi_Tv rfl rfl (Or.inl ⟨_, rfl, h⟩)
  · have h := h.2 hc
    refine bi_Tr 1 (s' := (11, [(0, .ref a0), (1, .int x0), (2, .int x1)], [.ref a0], st_mm s)) rfl ?_
    refine bi_Tgr rfl rfl rfl (st_kR0 ha0) (st_pR0 ha0) ?_
    refine bi_Tr 1 (s' := (15, [(0, .ref a0), (1, .int x0), (2, .int x1)], [.ref a0, .ref (a0 + 1)], st_mm s)) rfl ?_
    refine bi_Tgi (o := 0) rfl rfl rfl (st_kR0 ha0) ?_
    refine bi_Tr 5 (s' := (23, [(0, .ref a0), (1, .int x0), (2, .int x1)], [.int (x0 ||| (x1 <<< ((4 : Int32) &&& 31))), .int (st_g s a0 4), .ref (a0 + 1)], st_mm s)) rfl ?_
    obtain ⟨hi, h⟩ := h
    refine bi_Tias rfl (st_kR1 ha0) hi ?_
    refine bi_Tr 2 (s' := (26, [(0, .ref a0), (1, .int x0), (2, .int x1)], [.ref a0, .ref a0], st_mm (st_p s (a0 + 1) ((st_g s a0 4)).toNatClampNeg (x0 ||| (x1 <<< ((4 : Int32) &&& 31)))))) rfl ?_
    refine bi_Tgi (o := 0) rfl rfl rfl (st_kR0 ha0) ?_
    refine bi_Tr 2 (s' := (31, [(0, .ref a0), (1, .int x0), (2, .int x1)], [.int ((st_g (st_p s (a0 + 1) ((st_g s a0 4)).toNatClampNeg (x0 ||| (x1 <<< ((4 : Int32) &&& 31)))) a0 4) + (1 : Int32)), .ref a0], st_mm (st_p s (a0 + 1) ((st_g s a0 4)).toNatClampNeg (x0 ||| (x1 <<< ((4 : Int32) &&& 31)))))) rfl ?_
    refine bi_Tpi rfl rfl rfl rfl (st_kR0 ha0) ?_
    exact bi_Tv rfl rfl (Or.inl ⟨_, rfl, h⟩)
/-- PolicyRows$Rules.end(IZ)I -/
theorem en_X5_end {X : bi_X} {d : Nat} {K : Int32 → bi_St → Prop} {E : Nat → bi_St → Prop} {s : bi_St} {a0 : Nat} {x0 : Int32} {x1 : Int32} (ha0 : st_isR a0) (h : (((st_g s a0 5) < (st_g s a0 3)) → bi_in (st_g s a0 5) (st_rn a0) = true ∧ (bi_in (st_g (st_p s (a0 + 2) ((st_g s a0 5)).toNatClampNeg (st_g s a0 4)) a0 5) (st_rn a0) = true ∧ (((x1 = 0) → K ((st_g (st_p (st_p (st_p (st_p s (a0 + 2) ((st_g s a0 5)).toNatClampNeg (st_g s a0 4)) (a0 + 3) ((st_g (st_p s (a0 + 2) ((st_g s a0 5)).toNatClampNeg (st_g s a0 4)) a0 5)).toNatClampNeg x0) a0 6 ((st_g (st_p (st_p s (a0 + 2) ((st_g s a0 5)).toNatClampNeg (st_g s a0 4)) (a0 + 3) ((st_g (st_p s (a0 + 2) ((st_g s a0 5)).toNatClampNeg (st_g s a0 4)) a0 5)).toNatClampNeg x0) a0 6) ||| (0 : Int32))) a0 5 ((st_g (st_p (st_p (st_p s (a0 + 2) ((st_g s a0 5)).toNatClampNeg (st_g s a0 4)) (a0 + 3) ((st_g (st_p s (a0 + 2) ((st_g s a0 5)).toNatClampNeg (st_g s a0 4)) a0 5)).toNatClampNeg x0) a0 6 ((st_g (st_p (st_p s (a0 + 2) ((st_g s a0 5)).toNatClampNeg (st_g s a0 4)) (a0 + 3) ((st_g (st_p s (a0 + 2) ((st_g s a0 5)).toNatClampNeg (st_g s a0 4)) a0 5)).toNatClampNeg x0) a0 6) ||| (0 : Int32))) a0 5) + (1 : Int32))) a0 5) - (1 : Int32)) (st_p (st_p (st_p (st_p s (a0 + 2) ((st_g s a0 5)).toNatClampNeg (st_g s a0 4)) (a0 + 3) ((st_g (st_p s (a0 + 2) ((st_g s a0 5)).toNatClampNeg (st_g s a0 4)) a0 5)).toNatClampNeg x0) a0 6 ((st_g (st_p (st_p s (a0 + 2) ((st_g s a0 5)).toNatClampNeg (st_g s a0 4)) (a0 + 3) ((st_g (st_p s (a0 + 2) ((st_g s a0 5)).toNatClampNeg (st_g s a0 4)) a0 5)).toNatClampNeg x0) a0 6) ||| (0 : Int32))) a0 5 ((st_g (st_p (st_p (st_p s (a0 + 2) ((st_g s a0 5)).toNatClampNeg (st_g s a0 4)) (a0 + 3) ((st_g (st_p s (a0 + 2) ((st_g s a0 5)).toNatClampNeg (st_g s a0 4)) a0 5)).toNatClampNeg x0) a0 6 ((st_g (st_p (st_p s (a0 + 2) ((st_g s a0 5)).toNatClampNeg (st_g s a0 4)) (a0 + 3) ((st_g (st_p s (a0 + 2) ((st_g s a0 5)).toNatClampNeg (st_g s a0 4)) a0 5)).toNatClampNeg x0) a0 6) ||| (0 : Int32))) a0 5) + (1 : Int32)))) ∧ (¬ (x1 = 0) → K ((st_g (st_p (st_p (st_p (st_p s (a0 + 2) ((st_g s a0 5)).toNatClampNeg (st_g s a0 4)) (a0 + 3) ((st_g (st_p s (a0 + 2) ((st_g s a0 5)).toNatClampNeg (st_g s a0 4)) a0 5)).toNatClampNeg x0) a0 6 ((st_g (st_p (st_p s (a0 + 2) ((st_g s a0 5)).toNatClampNeg (st_g s a0 4)) (a0 + 3) ((st_g (st_p s (a0 + 2) ((st_g s a0 5)).toNatClampNeg (st_g s a0 4)) a0 5)).toNatClampNeg x0) a0 6) ||| ((1 : Int32) <<< ((st_g (st_p (st_p s (a0 + 2) ((st_g s a0 5)).toNatClampNeg (st_g s a0 4)) (a0 + 3) ((st_g (st_p s (a0 + 2) ((st_g s a0 5)).toNatClampNeg (st_g s a0 4)) a0 5)).toNatClampNeg x0) a0 5) &&& 31)))) a0 5 ((st_g (st_p (st_p (st_p s (a0 + 2) ((st_g s a0 5)).toNatClampNeg (st_g s a0 4)) (a0 + 3) ((st_g (st_p s (a0 + 2) ((st_g s a0 5)).toNatClampNeg (st_g s a0 4)) a0 5)).toNatClampNeg x0) a0 6 ((st_g (st_p (st_p s (a0 + 2) ((st_g s a0 5)).toNatClampNeg (st_g s a0 4)) (a0 + 3) ((st_g (st_p s (a0 + 2) ((st_g s a0 5)).toNatClampNeg (st_g s a0 4)) a0 5)).toNatClampNeg x0) a0 6) ||| ((1 : Int32) <<< ((st_g (st_p (st_p s (a0 + 2) ((st_g s a0 5)).toNatClampNeg (st_g s a0 4)) (a0 + 3) ((st_g (st_p s (a0 + 2) ((st_g s a0 5)).toNatClampNeg (st_g s a0 4)) a0 5)).toNatClampNeg x0) a0 5) &&& 31)))) a0 5) + (1 : Int32))) a0 5) - (1 : Int32)) (st_p (st_p (st_p (st_p s (a0 + 2) ((st_g s a0 5)).toNatClampNeg (st_g s a0 4)) (a0 + 3) ((st_g (st_p s (a0 + 2) ((st_g s a0 5)).toNatClampNeg (st_g s a0 4)) a0 5)).toNatClampNeg x0) a0 6 ((st_g (st_p (st_p s (a0 + 2) ((st_g s a0 5)).toNatClampNeg (st_g s a0 4)) (a0 + 3) ((st_g (st_p s (a0 + 2) ((st_g s a0 5)).toNatClampNeg (st_g s a0 4)) a0 5)).toNatClampNeg x0) a0 6) ||| ((1 : Int32) <<< ((st_g (st_p (st_p s (a0 + 2) ((st_g s a0 5)).toNatClampNeg (st_g s a0 4)) (a0 + 3) ((st_g (st_p s (a0 + 2) ((st_g s a0 5)).toNatClampNeg (st_g s a0 4)) a0 5)).toNatClampNeg x0) a0 5) &&& 31)))) a0 5 ((st_g (st_p (st_p (st_p s (a0 + 2) ((st_g s a0 5)).toNatClampNeg (st_g s a0 4)) (a0 + 3) ((st_g (st_p s (a0 + 2) ((st_g s a0 5)).toNatClampNeg (st_g s a0 4)) a0 5)).toNatClampNeg x0) a0 6 ((st_g (st_p (st_p s (a0 + 2) ((st_g s a0 5)).toNatClampNeg (st_g s a0 4)) (a0 + 3) ((st_g (st_p s (a0 + 2) ((st_g s a0 5)).toNatClampNeg (st_g s a0 4)) a0 5)).toNatClampNeg x0) a0 6) ||| ((1 : Int32) <<< ((st_g (st_p (st_p s (a0 + 2) ((st_g s a0 5)).toNatClampNeg (st_g s a0 4)) (a0 + 3) ((st_g (st_p s (a0 + 2) ((st_g s a0 5)).toNatClampNeg (st_g s a0 4)) a0 5)).toNatClampNeg x0) a0 5) &&& 31)))) a0 5) + (1 : Int32))))))) ∧ (¬ ((st_g s a0 5) < (st_g s a0 3)) → K (-1 : Int32) s)) : cI X d 65 [.ref a0, .int x0, .int x1] s K E := by
  show bi_T _ _ _ _ _
  refine bi_Tr 1 (s' := (1, [(0, .ref a0), (1, .int x0), (2, .int x1)], [.ref a0], st_mm s)) rfl ?_
  refine bi_Tgi (o := 0) rfl rfl rfl (st_kR0 ha0) ?_
  refine bi_Tr 1 (s' := (5, [(0, .ref a0), (1, .int x0), (2, .int x1)], [.ref a0, .int (st_g s a0 5)], st_mm s)) rfl ?_
  refine bi_Tgi (o := 0) rfl rfl rfl (st_kR0 ha0) ?_
  refine bi_Tr 1 (s' := ((if (st_g s a0 5) < (st_g s a0 3) then 13 else 11), [(0, .ref a0), (1, .int x0), (2, .int x1)], [], st_mm s)) rfl (bi_Tif (fun hc => ?_) (fun hc => ?_))
  · have h := h.1 hc
    refine bi_Tr 1 (s' := (14, [(0, .ref a0), (1, .int x0), (2, .int x1)], [.ref a0], st_mm s)) rfl ?_
    refine bi_Tgr rfl rfl rfl (st_kR0 ha0) (st_pR1 ha0) ?_
    refine bi_Tr 1 (s' := (18, [(0, .ref a0), (1, .int x0), (2, .int x1)], [.ref a0, .ref (a0 + 2)], st_mm s)) rfl ?_
    refine bi_Tgi (o := 0) rfl rfl rfl (st_kR0 ha0) ?_
    refine bi_Tr 1 (s' := (22, [(0, .ref a0), (1, .int x0), (2, .int x1)], [.ref a0, .int (st_g s a0 5), .ref (a0 + 2)], st_mm s)) rfl ?_
    refine bi_Tgi (o := 0) rfl rfl rfl (st_kR0 ha0) ?_
    obtain ⟨hi, h⟩ := h
    refine bi_Tias rfl (st_kR2 ha0) hi ?_
    refine bi_Tr 1 (s' := (27, [(0, .ref a0), (1, .int x0), (2, .int x1)], [.ref a0], st_mm (st_p s (a0 + 2) ((st_g s a0 5)).toNatClampNeg (st_g s a0 4)))) rfl ?_
    refine bi_Tgr rfl rfl rfl (st_kR0 ha0) (st_pR2 ha0) ?_
    refine bi_Tr 1 (s' := (31, [(0, .ref a0), (1, .int x0), (2, .int x1)], [.ref a0, .ref (a0 + 3)], st_mm (st_p s (a0 + 2) ((st_g s a0 5)).toNatClampNeg (st_g s a0 4)))) rfl ?_
    refine bi_Tgi (o := 0) rfl rfl rfl (st_kR0 ha0) ?_
    refine bi_Tr 1 (s' := (35, [(0, .ref a0), (1, .int x0), (2, .int x1)], [.int x0, .int (st_g (st_p s (a0 + 2) ((st_g s a0 5)).toNatClampNeg (st_g s a0 4)) a0 5), .ref (a0 + 3)], st_mm (st_p s (a0 + 2) ((st_g s a0 5)).toNatClampNeg (st_g s a0 4)))) rfl ?_
    obtain ⟨hi, h⟩ := h
    refine bi_Tias rfl (st_kR3 ha0) hi ?_
    refine bi_Tr 2 (s' := (38, [(0, .ref a0), (1, .int x0), (2, .int x1)], [.ref a0, .ref a0], st_mm (st_p (st_p s (a0 + 2) ((st_g s a0 5)).toNatClampNeg (st_g s a0 4)) (a0 + 3) ((st_g (st_p s (a0 + 2) ((st_g s a0 5)).toNatClampNeg (st_g s a0 4)) a0 5)).toNatClampNeg x0))) rfl ?_
    refine bi_Tgi (o := 0) rfl rfl rfl (st_kR0 ha0) ?_
    refine bi_Tr 2 (s' := ((if x1 = 0 then 54 else 45), [(0, .ref a0), (1, .int x0), (2, .int x1)], [.int (st_g (st_p (st_p s (a0 + 2) ((st_g s a0 5)).toNatClampNeg (st_g s a0 4)) (a0 + 3) ((st_g (st_p s (a0 + 2) ((st_g s a0 5)).toNatClampNeg (st_g s a0 4)) a0 5)).toNatClampNeg x0) a0 6), .ref a0], st_mm (st_p (st_p s (a0 + 2) ((st_g s a0 5)).toNatClampNeg (st_g s a0 4)) (a0 + 3) ((st_g (st_p s (a0 + 2) ((st_g s a0 5)).toNatClampNeg (st_g s a0 4)) a0 5)).toNatClampNeg x0))) rfl (bi_Tif (fun hc => ?_) (fun hc => ?_))
    · have h := h.1 hc
      refine bi_Tr 2 (s' := (56, [(0, .ref a0), (1, .int x0), (2, .int x1)], [.int ((st_g (st_p (st_p s (a0 + 2) ((st_g s a0 5)).toNatClampNeg (st_g s a0 4)) (a0 + 3) ((st_g (st_p s (a0 + 2) ((st_g s a0 5)).toNatClampNeg (st_g s a0 4)) a0 5)).toNatClampNeg x0) a0 6) ||| (0 : Int32)), .ref a0], st_mm (st_p (st_p s (a0 + 2) ((st_g s a0 5)).toNatClampNeg (st_g s a0 4)) (a0 + 3) ((st_g (st_p s (a0 + 2) ((st_g s a0 5)).toNatClampNeg (st_g s a0 4)) a0 5)).toNatClampNeg x0))) rfl ?_
      refine bi_Tpi rfl rfl rfl rfl (st_kR0 ha0) ?_
      refine bi_Tr 2 (s' := (61, [(0, .ref a0), (1, .int x0), (2, .int x1)], [.ref a0, .ref a0], st_mm (st_p (st_p (st_p s (a0 + 2) ((st_g s a0 5)).toNatClampNeg (st_g s a0 4)) (a0 + 3) ((st_g (st_p s (a0 + 2) ((st_g s a0 5)).toNatClampNeg (st_g s a0 4)) a0 5)).toNatClampNeg x0) a0 6 ((st_g (st_p (st_p s (a0 + 2) ((st_g s a0 5)).toNatClampNeg (st_g s a0 4)) (a0 + 3) ((st_g (st_p s (a0 + 2) ((st_g s a0 5)).toNatClampNeg (st_g s a0 4)) a0 5)).toNatClampNeg x0) a0 6) ||| (0 : Int32))))) rfl ?_
      refine bi_Tgi (o := 0) rfl rfl rfl (st_kR0 ha0) ?_
      refine bi_Tr 2 (s' := (66, [(0, .ref a0), (1, .int x0), (2, .int x1)], [.int ((st_g (st_p (st_p (st_p s (a0 + 2) ((st_g s a0 5)).toNatClampNeg (st_g s a0 4)) (a0 + 3) ((st_g (st_p s (a0 + 2) ((st_g s a0 5)).toNatClampNeg (st_g s a0 4)) a0 5)).toNatClampNeg x0) a0 6 ((st_g (st_p (st_p s (a0 + 2) ((st_g s a0 5)).toNatClampNeg (st_g s a0 4)) (a0 + 3) ((st_g (st_p s (a0 + 2) ((st_g s a0 5)).toNatClampNeg (st_g s a0 4)) a0 5)).toNatClampNeg x0) a0 6) ||| (0 : Int32))) a0 5) + (1 : Int32)), .ref a0], st_mm (st_p (st_p (st_p s (a0 + 2) ((st_g s a0 5)).toNatClampNeg (st_g s a0 4)) (a0 + 3) ((st_g (st_p s (a0 + 2) ((st_g s a0 5)).toNatClampNeg (st_g s a0 4)) a0 5)).toNatClampNeg x0) a0 6 ((st_g (st_p (st_p s (a0 + 2) ((st_g s a0 5)).toNatClampNeg (st_g s a0 4)) (a0 + 3) ((st_g (st_p s (a0 + 2) ((st_g s a0 5)).toNatClampNeg (st_g s a0 4)) a0 5)).toNatClampNeg x0) a0 6) ||| (0 : Int32))))) rfl ?_
      refine bi_Tpi rfl rfl rfl rfl (st_kR0 ha0) ?_
      refine bi_Tr 1 (s' := (70, [(0, .ref a0), (1, .int x0), (2, .int x1)], [.ref a0], st_mm (st_p (st_p (st_p (st_p s (a0 + 2) ((st_g s a0 5)).toNatClampNeg (st_g s a0 4)) (a0 + 3) ((st_g (st_p s (a0 + 2) ((st_g s a0 5)).toNatClampNeg (st_g s a0 4)) a0 5)).toNatClampNeg x0) a0 6 ((st_g (st_p (st_p s (a0 + 2) ((st_g s a0 5)).toNatClampNeg (st_g s a0 4)) (a0 + 3) ((st_g (st_p s (a0 + 2) ((st_g s a0 5)).toNatClampNeg (st_g s a0 4)) a0 5)).toNatClampNeg x0) a0 6) ||| (0 : Int32))) a0 5 ((st_g (st_p (st_p (st_p s (a0 + 2) ((st_g s a0 5)).toNatClampNeg (st_g s a0 4)) (a0 + 3) ((st_g (st_p s (a0 + 2) ((st_g s a0 5)).toNatClampNeg (st_g s a0 4)) a0 5)).toNatClampNeg x0) a0 6 ((st_g (st_p (st_p s (a0 + 2) ((st_g s a0 5)).toNatClampNeg (st_g s a0 4)) (a0 + 3) ((st_g (st_p s (a0 + 2) ((st_g s a0 5)).toNatClampNeg (st_g s a0 4)) a0 5)).toNatClampNeg x0) a0 6) ||| (0 : Int32))) a0 5) + (1 : Int32))))) rfl ?_
      refine bi_Tgi (o := 0) rfl rfl rfl (st_kR0 ha0) ?_
      refine bi_Tr 2 (s' := (75, [(0, .ref a0), (1, .int x0), (2, .int x1)], [.int ((st_g (st_p (st_p (st_p (st_p s (a0 + 2) ((st_g s a0 5)).toNatClampNeg (st_g s a0 4)) (a0 + 3) ((st_g (st_p s (a0 + 2) ((st_g s a0 5)).toNatClampNeg (st_g s a0 4)) a0 5)).toNatClampNeg x0) a0 6 ((st_g (st_p (st_p s (a0 + 2) ((st_g s a0 5)).toNatClampNeg (st_g s a0 4)) (a0 + 3) ((st_g (st_p s (a0 + 2) ((st_g s a0 5)).toNatClampNeg (st_g s a0 4)) a0 5)).toNatClampNeg x0) a0 6) ||| (0 : Int32))) a0 5 ((st_g (st_p (st_p (st_p s (a0 + 2) ((st_g s a0 5)).toNatClampNeg (st_g s a0 4)) (a0 + 3) ((st_g (st_p s (a0 + 2) ((st_g s a0 5)).toNatClampNeg (st_g s a0 4)) a0 5)).toNatClampNeg x0) a0 6 ((st_g (st_p (st_p s (a0 + 2) ((st_g s a0 5)).toNatClampNeg (st_g s a0 4)) (a0 + 3) ((st_g (st_p s (a0 + 2) ((st_g s a0 5)).toNatClampNeg (st_g s a0 4)) a0 5)).toNatClampNeg x0) a0 6) ||| (0 : Int32))) a0 5) + (1 : Int32))) a0 5) - (1 : Int32))], st_mm (st_p (st_p (st_p (st_p s (a0 + 2) ((st_g s a0 5)).toNatClampNeg (st_g s a0 4)) (a0 + 3) ((st_g (st_p s (a0 + 2) ((st_g s a0 5)).toNatClampNeg (st_g s a0 4)) a0 5)).toNatClampNeg x0) a0 6 ((st_g (st_p (st_p s (a0 + 2) ((st_g s a0 5)).toNatClampNeg (st_g s a0 4)) (a0 + 3) ((st_g (st_p s (a0 + 2) ((st_g s a0 5)).toNatClampNeg (st_g s a0 4)) a0 5)).toNatClampNeg x0) a0 6) ||| (0 : Int32))) a0 5 ((st_g (st_p (st_p (st_p s (a0 + 2) ((st_g s a0 5)).toNatClampNeg (st_g s a0 4)) (a0 + 3) ((st_g (st_p s (a0 + 2) ((st_g s a0 5)).toNatClampNeg (st_g s a0 4)) a0 5)).toNatClampNeg x0) a0 6 ((st_g (st_p (st_p s (a0 + 2) ((st_g s a0 5)).toNatClampNeg (st_g s a0 4)) (a0 + 3) ((st_g (st_p s (a0 + 2) ((st_g s a0 5)).toNatClampNeg (st_g s a0 4)) a0 5)).toNatClampNeg x0) a0 6) ||| (0 : Int32))) a0 5) + (1 : Int32))))) rfl ?_
      exact bi_Tv rfl rfl (Or.inl ⟨_, _, rfl, h⟩)
    · have h := h.2 hc
      refine bi_Tr 2 (s' := (47, [(0, .ref a0), (1, .int x0), (2, .int x1)], [.ref a0, .int (1 : Int32), .int (st_g (st_p (st_p s (a0 + 2) ((st_g s a0 5)).toNatClampNeg (st_g s a0 4)) (a0 + 3) ((st_g (st_p s (a0 + 2) ((st_g s a0 5)).toNatClampNeg (st_g s a0 4)) a0 5)).toNatClampNeg x0) a0 6), .ref a0], st_mm (st_p (st_p s (a0 + 2) ((st_g s a0 5)).toNatClampNeg (st_g s a0 4)) (a0 + 3) ((st_g (st_p s (a0 + 2) ((st_g s a0 5)).toNatClampNeg (st_g s a0 4)) a0 5)).toNatClampNeg x0))) rfl ?_
      refine bi_Tgi (o := 0) rfl rfl rfl (st_kR0 ha0) ?_
      refine bi_Tr 3 (s' := (56, [(0, .ref a0), (1, .int x0), (2, .int x1)], [.int ((st_g (st_p (st_p s (a0 + 2) ((st_g s a0 5)).toNatClampNeg (st_g s a0 4)) (a0 + 3) ((st_g (st_p s (a0 + 2) ((st_g s a0 5)).toNatClampNeg (st_g s a0 4)) a0 5)).toNatClampNeg x0) a0 6) ||| ((1 : Int32) <<< ((st_g (st_p (st_p s (a0 + 2) ((st_g s a0 5)).toNatClampNeg (st_g s a0 4)) (a0 + 3) ((st_g (st_p s (a0 + 2) ((st_g s a0 5)).toNatClampNeg (st_g s a0 4)) a0 5)).toNatClampNeg x0) a0 5) &&& 31))), .ref a0], st_mm (st_p (st_p s (a0 + 2) ((st_g s a0 5)).toNatClampNeg (st_g s a0 4)) (a0 + 3) ((st_g (st_p s (a0 + 2) ((st_g s a0 5)).toNatClampNeg (st_g s a0 4)) a0 5)).toNatClampNeg x0))) rfl ?_
      refine bi_Tpi rfl rfl rfl rfl (st_kR0 ha0) ?_
      refine bi_Tr 2 (s' := (61, [(0, .ref a0), (1, .int x0), (2, .int x1)], [.ref a0, .ref a0], st_mm (st_p (st_p (st_p s (a0 + 2) ((st_g s a0 5)).toNatClampNeg (st_g s a0 4)) (a0 + 3) ((st_g (st_p s (a0 + 2) ((st_g s a0 5)).toNatClampNeg (st_g s a0 4)) a0 5)).toNatClampNeg x0) a0 6 ((st_g (st_p (st_p s (a0 + 2) ((st_g s a0 5)).toNatClampNeg (st_g s a0 4)) (a0 + 3) ((st_g (st_p s (a0 + 2) ((st_g s a0 5)).toNatClampNeg (st_g s a0 4)) a0 5)).toNatClampNeg x0) a0 6) ||| ((1 : Int32) <<< ((st_g (st_p (st_p s (a0 + 2) ((st_g s a0 5)).toNatClampNeg (st_g s a0 4)) (a0 + 3) ((st_g (st_p s (a0 + 2) ((st_g s a0 5)).toNatClampNeg (st_g s a0 4)) a0 5)).toNatClampNeg x0) a0 5) &&& 31)))))) rfl ?_
      refine bi_Tgi (o := 0) rfl rfl rfl (st_kR0 ha0) ?_
      refine bi_Tr 2 (s' := (66, [(0, .ref a0), (1, .int x0), (2, .int x1)], [.int ((st_g (st_p (st_p (st_p s (a0 + 2) ((st_g s a0 5)).toNatClampNeg (st_g s a0 4)) (a0 + 3) ((st_g (st_p s (a0 + 2) ((st_g s a0 5)).toNatClampNeg (st_g s a0 4)) a0 5)).toNatClampNeg x0) a0 6 ((st_g (st_p (st_p s (a0 + 2) ((st_g s a0 5)).toNatClampNeg (st_g s a0 4)) (a0 + 3) ((st_g (st_p s (a0 + 2) ((st_g s a0 5)).toNatClampNeg (st_g s a0 4)) a0 5)).toNatClampNeg x0) a0 6) ||| ((1 : Int32) <<< ((st_g (st_p (st_p s (a0 + 2) ((st_g s a0 5)).toNatClampNeg (st_g s a0 4)) (a0 + 3) ((st_g (st_p s (a0 + 2) ((st_g s a0 5)).toNatClampNeg (st_g s a0 4)) a0 5)).toNatClampNeg x0) a0 5) &&& 31)))) a0 5) + (1 : Int32)), .ref a0], st_mm (st_p (st_p (st_p s (a0 + 2) ((st_g s a0 5)).toNatClampNeg (st_g s a0 4)) (a0 + 3) ((st_g (st_p s (a0 + 2) ((st_g s a0 5)).toNatClampNeg (st_g s a0 4)) a0 5)).toNatClampNeg x0) a0 6 ((st_g (st_p (st_p s (a0 + 2) ((st_g s a0 5)).toNatClampNeg (st_g s a0 4)) (a0 + 3) ((st_g (st_p s (a0 + 2) ((st_g s a0 5)).toNatClampNeg (st_g s a0 4)) a0 5)).toNatClampNeg x0) a0 6) ||| ((1 : Int32) <<< ((st_g (st_p (st_p s (a0 + 2) ((st_g s a0 5)).toNatClampNeg (st_g s a0 4)) (a0 + 3) ((st_g (st_p s (a0 + 2) ((st_g s a0 5)).toNatClampNeg (st_g s a0 4)) a0 5)).toNatClampNeg x0) a0 5) &&& 31)))))) rfl ?_
      refine bi_Tpi rfl rfl rfl rfl (st_kR0 ha0) ?_
      refine bi_Tr 1 (s' := (70, [(0, .ref a0), (1, .int x0), (2, .int x1)], [.ref a0], st_mm (st_p (st_p (st_p (st_p s (a0 + 2) ((st_g s a0 5)).toNatClampNeg (st_g s a0 4)) (a0 + 3) ((st_g (st_p s (a0 + 2) ((st_g s a0 5)).toNatClampNeg (st_g s a0 4)) a0 5)).toNatClampNeg x0) a0 6 ((st_g (st_p (st_p s (a0 + 2) ((st_g s a0 5)).toNatClampNeg (st_g s a0 4)) (a0 + 3) ((st_g (st_p s (a0 + 2) ((st_g s a0 5)).toNatClampNeg (st_g s a0 4)) a0 5)).toNatClampNeg x0) a0 6) ||| ((1 : Int32) <<< ((st_g (st_p (st_p s (a0 + 2) ((st_g s a0 5)).toNatClampNeg (st_g s a0 4)) (a0 + 3) ((st_g (st_p s (a0 + 2) ((st_g s a0 5)).toNatClampNeg (st_g s a0 4)) a0 5)).toNatClampNeg x0) a0 5) &&& 31)))) a0 5 ((st_g (st_p (st_p (st_p s (a0 + 2) ((st_g s a0 5)).toNatClampNeg (st_g s a0 4)) (a0 + 3) ((st_g (st_p s (a0 + 2) ((st_g s a0 5)).toNatClampNeg (st_g s a0 4)) a0 5)).toNatClampNeg x0) a0 6 ((st_g (st_p (st_p s (a0 + 2) ((st_g s a0 5)).toNatClampNeg (st_g s a0 4)) (a0 + 3) ((st_g (st_p s (a0 + 2) ((st_g s a0 5)).toNatClampNeg (st_g s a0 4)) a0 5)).toNatClampNeg x0) a0 6) ||| ((1 : Int32) <<< ((st_g (st_p (st_p s (a0 + 2) ((st_g s a0 5)).toNatClampNeg (st_g s a0 4)) (a0 + 3) ((st_g (st_p s (a0 + 2) ((st_g s a0 5)).toNatClampNeg (st_g s a0 4)) a0 5)).toNatClampNeg x0) a0 5) &&& 31)))) a0 5) + (1 : Int32))))) rfl ?_
      refine bi_Tgi (o := 0) rfl rfl rfl (st_kR0 ha0) ?_
      refine bi_Tr 2 (s' := (75, [(0, .ref a0), (1, .int x0), (2, .int x1)], [.int ((st_g (st_p (st_p (st_p (st_p s (a0 + 2) ((st_g s a0 5)).toNatClampNeg (st_g s a0 4)) (a0 + 3) ((st_g (st_p s (a0 + 2) ((st_g s a0 5)).toNatClampNeg (st_g s a0 4)) a0 5)).toNatClampNeg x0) a0 6 ((st_g (st_p (st_p s (a0 + 2) ((st_g s a0 5)).toNatClampNeg (st_g s a0 4)) (a0 + 3) ((st_g (st_p s (a0 + 2) ((st_g s a0 5)).toNatClampNeg (st_g s a0 4)) a0 5)).toNatClampNeg x0) a0 6) ||| ((1 : Int32) <<< ((st_g (st_p (st_p s (a0 + 2) ((st_g s a0 5)).toNatClampNeg (st_g s a0 4)) (a0 + 3) ((st_g (st_p s (a0 + 2) ((st_g s a0 5)).toNatClampNeg (st_g s a0 4)) a0 5)).toNatClampNeg x0) a0 5) &&& 31)))) a0 5 ((st_g (st_p (st_p (st_p s (a0 + 2) ((st_g s a0 5)).toNatClampNeg (st_g s a0 4)) (a0 + 3) ((st_g (st_p s (a0 + 2) ((st_g s a0 5)).toNatClampNeg (st_g s a0 4)) a0 5)).toNatClampNeg x0) a0 6 ((st_g (st_p (st_p s (a0 + 2) ((st_g s a0 5)).toNatClampNeg (st_g s a0 4)) (a0 + 3) ((st_g (st_p s (a0 + 2) ((st_g s a0 5)).toNatClampNeg (st_g s a0 4)) a0 5)).toNatClampNeg x0) a0 6) ||| ((1 : Int32) <<< ((st_g (st_p (st_p s (a0 + 2) ((st_g s a0 5)).toNatClampNeg (st_g s a0 4)) (a0 + 3) ((st_g (st_p s (a0 + 2) ((st_g s a0 5)).toNatClampNeg (st_g s a0 4)) a0 5)).toNatClampNeg x0) a0 5) &&& 31)))) a0 5) + (1 : Int32))) a0 5) - (1 : Int32))], st_mm (st_p (st_p (st_p (st_p s (a0 + 2) ((st_g s a0 5)).toNatClampNeg (st_g s a0 4)) (a0 + 3) ((st_g (st_p s (a0 + 2) ((st_g s a0 5)).toNatClampNeg (st_g s a0 4)) a0 5)).toNatClampNeg x0) a0 6 ((st_g (st_p (st_p s (a0 + 2) ((st_g s a0 5)).toNatClampNeg (st_g s a0 4)) (a0 + 3) ((st_g (st_p s (a0 + 2) ((st_g s a0 5)).toNatClampNeg (st_g s a0 4)) a0 5)).toNatClampNeg x0) a0 6) ||| ((1 : Int32) <<< ((st_g (st_p (st_p s (a0 + 2) ((st_g s a0 5)).toNatClampNeg (st_g s a0 4)) (a0 + 3) ((st_g (st_p s (a0 + 2) ((st_g s a0 5)).toNatClampNeg (st_g s a0 4)) a0 5)).toNatClampNeg x0) a0 5) &&& 31)))) a0 5 ((st_g (st_p (st_p (st_p s (a0 + 2) ((st_g s a0 5)).toNatClampNeg (st_g s a0 4)) (a0 + 3) ((st_g (st_p s (a0 + 2) ((st_g s a0 5)).toNatClampNeg (st_g s a0 4)) a0 5)).toNatClampNeg x0) a0 6 ((st_g (st_p (st_p s (a0 + 2) ((st_g s a0 5)).toNatClampNeg (st_g s a0 4)) (a0 + 3) ((st_g (st_p s (a0 + 2) ((st_g s a0 5)).toNatClampNeg (st_g s a0 4)) a0 5)).toNatClampNeg x0) a0 6) ||| ((1 : Int32) <<< ((st_g (st_p (st_p s (a0 + 2) ((st_g s a0 5)).toNatClampNeg (st_g s a0 4)) (a0 + 3) ((st_g (st_p s (a0 + 2) ((st_g s a0 5)).toNatClampNeg (st_g s a0 4)) a0 5)).toNatClampNeg x0) a0 5) &&& 31)))) a0 5) + (1 : Int32))))) rfl ?_
      exact bi_Tv rfl rfl (Or.inl ⟨_, _, rfl, h⟩)
  · have h := h.2 hc
    refine bi_Tr 1 (s' := (12, [(0, .ref a0), (1, .int x0), (2, .int x1)], [.int (-1 : Int32)], st_mm s)) rfl ?_
    exact bi_Tv rfl rfl (Or.inl ⟨_, _, rfl, h⟩)
/-- PolicyRows$Rules.isRule(I)Z -/
theorem en_X5_isRule {X : bi_X} {d : Nat} {K : Int32 → bi_St → Prop} {E : Nat → bi_St → Prop} {s : bi_St} {a0 : Nat} {x0 : Int32} (ha0 : st_isR a0) (h : ((x0 < 0) → K (0 : Int32) s) ∧ (¬ (x0 < 0) → (((st_g s a0 5) ≤ x0) → K (0 : Int32) s) ∧ (¬ ((st_g s a0 5) ≤ x0) → K (1 : Int32) s))) : cI X d 66 [.ref a0, .int x0] s K E := by
  show bi_T _ _ _ _ _
  refine bi_Tr 2 (s' := ((if x0 < 0 then 16 else 4), [(0, .ref a0), (1, .int x0)], [], st_mm s)) rfl (bi_Tif (fun hc => ?_) (fun hc => ?_))
  · have h := h.1 hc
    refine bi_Tr 1 (s' := (17, [(0, .ref a0), (1, .int x0)], [.int (0 : Int32)], st_mm s)) rfl ?_
    exact bi_Tv rfl rfl (Or.inl ⟨_, _, rfl, h⟩)
  · have h := h.2 hc
    refine bi_Tr 2 (s' := (6, [(0, .ref a0), (1, .int x0)], [.ref a0, .int x0], st_mm s)) rfl ?_
    refine bi_Tgi (o := 0) rfl rfl rfl (st_kR0 ha0) ?_
    refine bi_Tr 1 (s' := ((if (st_g s a0 5) ≤ x0 then 16 else 12), [(0, .ref a0), (1, .int x0)], [], st_mm s)) rfl (bi_Tif (fun hc => ?_) (fun hc => ?_))
    · have h := h.1 hc
      refine bi_Tr 1 (s' := (17, [(0, .ref a0), (1, .int x0)], [.int (0 : Int32)], st_mm s)) rfl ?_
      exact bi_Tv rfl rfl (Or.inl ⟨_, _, rfl, h⟩)
    · have h := h.2 hc
      refine bi_Tr 2 (s' := (17, [(0, .ref a0), (1, .int x0)], [.int (1 : Int32)], st_mm s)) rfl ?_
      exact bi_Tv rfl rfl (Or.inl ⟨_, _, rfl, h⟩)
/-- PolicyRows$Rules.startOf(I)I -/
theorem en_X5_startOf {X : bi_X} {d : Nat} {K : Int32 → bi_St → Prop} {E : Nat → bi_St → Prop} {s : bi_St} {a0 : Nat} {x0 : Int32} (ha0 : st_isR a0) (h : ((x0 ≤ 0) → K (0 : Int32) s) ∧ (¬ (x0 ≤ 0) → (((st_g s a0 5) < x0) → K (0 : Int32) s) ∧ (¬ ((st_g s a0 5) < x0) → bi_in (x0 - (1 : Int32)) (st_rn a0) = true ∧ (K (st_g s (a0 + 2) ((x0 - (1 : Int32))).toNatClampNeg) s)))) : cI X d 67 [.ref a0, .int x0] s K E := by
  show bi_T _ _ _ _ _
  refine bi_Tr 2 (s' := ((if x0 ≤ 0 then 23 else 4), [(0, .ref a0), (1, .int x0)], [], st_mm s)) rfl (bi_Tif (fun hc => ?_) (fun hc => ?_))
  · have h := h.1 hc
    refine bi_Tr 1 (s' := (24, [(0, .ref a0), (1, .int x0)], [.int (0 : Int32)], st_mm s)) rfl ?_
    exact bi_Tv rfl rfl (Or.inl ⟨_, _, rfl, h⟩)
  · have h := h.2 hc
    refine bi_Tr 2 (s' := (6, [(0, .ref a0), (1, .int x0)], [.ref a0, .int x0], st_mm s)) rfl ?_
    refine bi_Tgi (o := 0) rfl rfl rfl (st_kR0 ha0) ?_
    refine bi_Tr 1 (s' := ((if (st_g s a0 5) < x0 then 23 else 12), [(0, .ref a0), (1, .int x0)], [], st_mm s)) rfl (bi_Tif (fun hc => ?_) (fun hc => ?_))
    · have h := h.1 hc
      refine bi_Tr 1 (s' := (24, [(0, .ref a0), (1, .int x0)], [.int (0 : Int32)], st_mm s)) rfl ?_
      exact bi_Tv rfl rfl (Or.inl ⟨_, _, rfl, h⟩)
    · have h := h.2 hc
      refine bi_Tr 1 (s' := (13, [(0, .ref a0), (1, .int x0)], [.ref a0], st_mm s)) rfl ?_
      refine bi_Tgr rfl rfl rfl (st_kR0 ha0) (st_pR1 ha0) ?_
      refine bi_Tr 3 (s' := (19, [(0, .ref a0), (1, .int x0)], [.int (x0 - (1 : Int32)), .ref (a0 + 2)], st_mm s)) rfl ?_
      obtain ⟨hi, h⟩ := h
      refine bi_Tial rfl (by have := ha0; simp only [st_isR] at this; rcases this with h | h | h <;> rw [h] <;> rfl) (st_kR2 ha0) hi ?_
      refine bi_Tr 1 (s' := (24, [(0, .ref a0), (1, .int x0)], [.int (st_g s (a0 + 2) ((x0 - (1 : Int32))).toNatClampNeg)], st_mm s)) rfl ?_
      exact bi_Tv rfl rfl (Or.inl ⟨_, _, rfl, h⟩)
/-- PolicyRows$Rules.costOf(I)I -/
theorem en_X5_costOf {X : bi_X} {d : Nat} {K : Int32 → bi_St → Prop} {E : Nat → bi_St → Prop} {s : bi_St} {a0 : Nat} {x0 : Int32} (ha0 : st_isR a0) (h : cI X d 66 [.ref a0, .int x0] s (fun (r1 : Int32) (s1 : bi_St) => ((r1 = 0) → K (-1 : Int32) s1) ∧ (¬ (r1 = 0) → bi_in x0 (st_rn a0) = true ∧ (K (st_g s1 (a0 + 3) (x0).toNatClampNeg) s1))) (fun _ _ => False)) : cI X (d + 1) 68 [.ref a0, .int x0] s K E := by
  show bi_T _ _ _ _ _
  refine bi_Tr 2 (s' := (2, [(0, .ref a0), (1, .int x0)], [.int x0, .ref a0], st_mm s)) rfl ?_
  refine bi_TcI (as := [.ref a0, .int x0]) (bi_TcO rfl rfl rfl (st_kR0 ha0) rfl rfl) rfl ?_
  refine cI.mono h (fun r1 s1 h => ?_) (fun _ _ h => h.elim)
  refine bi_Tr 1 (s' := ((if r1 = 0 then 17 else 8), [(0, .ref a0), (1, .int x0)], [], st_mm s1)) rfl (bi_Tif (fun hc => ?_) (fun hc => ?_))
  · have h := h.1 hc
    refine bi_Tr 1 (s' := (18, [(0, .ref a0), (1, .int x0)], [.int (-1 : Int32)], st_mm s1)) rfl ?_
    exact bi_Tv rfl rfl (Or.inl ⟨_, _, rfl, h⟩)
  · have h := h.2 hc
    refine bi_Tr 1 (s' := (9, [(0, .ref a0), (1, .int x0)], [.ref a0], st_mm s1)) rfl ?_
    refine bi_Tgr rfl rfl rfl (st_kR0 ha0) (st_pR2 ha0) ?_
    refine bi_Tr 1 (s' := (13, [(0, .ref a0), (1, .int x0)], [.int x0, .ref (a0 + 3)], st_mm s1)) rfl ?_
    obtain ⟨hi, h⟩ := h
    refine bi_Tial rfl (by have := ha0; simp only [st_isR] at this; rcases this with h | h | h <;> rw [h] <;> rfl) (st_kR3 ha0) hi ?_
    refine bi_Tr 1 (s' := (18, [(0, .ref a0), (1, .int x0)], [.int (st_g s1 (a0 + 3) (x0).toNatClampNeg)], st_mm s1)) rfl ?_
    exact bi_Tv rfl rfl (Or.inl ⟨_, _, rfl, h⟩)
/-- PolicyRows$Rules.isSilent(I)Z -/
theorem en_X5_isSilent {X : bi_X} {d : Nat} {K : Int32 → bi_St → Prop} {E : Nat → bi_St → Prop} {s : bi_St} {a0 : Nat} {x0 : Int32} (ha0 : st_isR a0) (h : cI X d 66 [.ref a0, .int x0] s (fun (r1 : Int32) (s1 : bi_St) => ((r1 = 0) → K (0 : Int32) s1) ∧ (¬ (r1 = 0) → cI X d 160 [.int (st_g s1 a0 6), .int x0] s1 (fun (r2 : Int32) (s2 : bi_St) => ((¬ r2 = (1 : Int32)) → K (0 : Int32) s2) ∧ (¬ (¬ r2 = (1 : Int32)) → K (1 : Int32) s2)) (fun _ _ => False))) (fun _ _ => False)) : cI X (d + 1) 69 [.ref a0, .int x0] s K E := by
  show bi_T _ _ _ _ _
  refine bi_Tr 2 (s' := (2, [(0, .ref a0), (1, .int x0)], [.int x0, .ref a0], st_mm s)) rfl ?_
  refine bi_TcI (as := [.ref a0, .int x0]) (bi_TcO rfl rfl rfl (st_kR0 ha0) rfl rfl) rfl ?_
  refine cI.mono h (fun r1 s1 h => ?_) (fun _ _ h => h.elim)
  refine bi_Tr 1 (s' := ((if r1 = 0 then 24 else 8), [(0, .ref a0), (1, .int x0)], [], st_mm s1)) rfl (bi_Tif (fun hc => ?_) (fun hc => ?_))
  · have h := h.1 hc
    refine bi_Tr 1 (s' := (25, [(0, .ref a0), (1, .int x0)], [.int (0 : Int32)], st_mm s1)) rfl ?_
    exact bi_Tv rfl rfl (Or.inl ⟨_, _, rfl, h⟩)
  · have h := h.2 hc
    refine bi_Tr 1 (s' := (9, [(0, .ref a0), (1, .int x0)], [.ref a0], st_mm s1)) rfl ?_
    refine bi_Tgi (o := 0) rfl rfl rfl (st_kR0 ha0) ?_
    refine bi_Tr 1 (s' := (13, [(0, .ref a0), (1, .int x0)], [.int x0, .int (st_g s1 a0 6)], st_mm s1)) rfl ?_
    refine bi_TcI (as := [.int (st_g s1 a0 6), .int x0]) rfl rfl ?_
    refine cI.mono h (fun r2 s2 h => ?_) (fun _ _ h => h.elim)
    refine bi_Tr 2 (s' := ((if ¬ r2 = (1 : Int32) then 24 else 20), [(0, .ref a0), (1, .int x0)], [], st_mm s2)) rfl (bi_Tif (fun hc => ?_) (fun hc => ?_))
    · have h := h.1 hc
      refine bi_Tr 1 (s' := (25, [(0, .ref a0), (1, .int x0)], [.int (0 : Int32)], st_mm s2)) rfl ?_
      exact bi_Tv rfl rfl (Or.inl ⟨_, _, rfl, h⟩)
    · have h := h.2 hc
      refine bi_Tr 2 (s' := (25, [(0, .ref a0), (1, .int x0)], [.int (1 : Int32)], st_mm s2)) rfl ?_
      exact bi_Tv rfl rfl (Or.inl ⟨_, _, rfl, h⟩)
def at_X6_clear_17 (X : bi_X) (d : Nat) (K : bi_St → Prop) (E : Nat → bi_St → Prop) (s : bi_St) (y1 : Int32) (b0 : Nat) : Prop := bi_T X d 71 (17, [(0, .ref b0), (1, .int y1)], [], st_mm s) (st_RV K E)
theorem go_X6_clear_17 {X : bi_X} {d : Nat} {K : bi_St → Prop} {E : Nat → bi_St → Prop}  {s : bi_St} {y1 : Int32} {b0 : Nat} (hb0 : st_isS b0) (h : (((6 : Int32) ≤ y1) → cV X d 85 [.ref b0] s (fun (s1 : bi_St) => K s1) (fun _ _ => False)) ∧ (¬ ((6 : Int32) ≤ y1) → bi_in y1 6 = true ∧ (at_X6_clear_17 X (d + 1) K E (st_p s (b0 + 2) (y1).toNatClampNeg (0 : Int32)) ((y1 + (1 : Int32))) (b0)))) : at_X6_clear_17 X (d + 1) K E s y1 b0 := by
  show bi_T _ _ _ _ _
  refine bi_Tr 3 (s' := ((if (6 : Int32) ≤ y1 then 36 else 23), [(0, .ref b0), (1, .int y1)], [], st_mm s)) rfl (bi_Tif (fun hc => ?_) (fun hc => ?_))
  · have h := h.1 hc
    refine bi_Tr 1 (s' := (37, [(0, .ref b0), (1, .int y1)], [.ref b0], st_mm s)) rfl ?_
    refine bi_TcV (as := [.ref b0]) (bi_TcO rfl rfl rfl (st_kS0 hb0) rfl rfl) rfl ?_
    refine cV.mono h (fun s1 h => ?_) (fun _ _ h => h.elim)
    exact bi_Tv rfl rfl (Or.inl ⟨_, rfl, h⟩)
  · have h := h.2 hc
    refine bi_Tr 1 (s' := (24, [(0, .ref b0), (1, .int y1)], [.ref b0], st_mm s)) rfl ?_
    refine bi_Tgr rfl rfl rfl (st_kS0 hb0) (st_pS2 hb0) ?_
    refine bi_Tr 2 (s' := (29, [(0, .ref b0), (1, .int y1)], [.int (0 : Int32), .int y1, .ref (b0 + 2)], st_mm s)) rfl ?_
    obtain ⟨hi, h⟩ := h
    refine bi_Tias rfl (st_kS2 hb0) hi ?_
    refine bi_Tr 2 (s' := (17, [(1, .int (y1 + (1 : Int32))), (0, .ref b0)], [], st_mm (st_p s (b0 + 2) (y1).toNatClampNeg (0 : Int32)))) rfl ?_
    exact bi_Tww h rfl rfl ⟨rfl, rfl, trivial⟩
/-- PolicyRows$State.clear()V -/
theorem en_X6_clear {X : bi_X} {d : Nat} {K : bi_St → Prop} {E : Nat → bi_St → Prop} {s : bi_St} {a0 : Nat} (ha0 : st_isS a0) (h : at_X6_clear_17 X (d + 1) K E (st_p (st_p (st_p s a0 0 (0 : Int32)) a0 3 (0 : Int32)) a0 4 (0 : Int32)) ((0 : Int32)) (a0)) : cV X (d + 1) 71 [.ref a0] s K E := by
  show bi_T _ _ _ _ _
  refine bi_Tr 2 (s' := (2, [(0, .ref a0)], [.int (0 : Int32), .ref a0], st_mm s)) rfl ?_
  refine bi_Tpi rfl rfl rfl rfl (st_kS0 ha0) ?_
  refine bi_Tr 2 (s' := (7, [(0, .ref a0)], [.int (0 : Int32), .ref a0], st_mm (st_p s a0 0 (0 : Int32)))) rfl ?_
  refine bi_Tpi rfl rfl rfl rfl (st_kS0 ha0) ?_
  refine bi_Tr 2 (s' := (12, [(0, .ref a0)], [.int (0 : Int32), .ref a0], st_mm (st_p (st_p s a0 0 (0 : Int32)) a0 3 (0 : Int32)))) rfl ?_
  refine bi_Tpi rfl rfl rfl rfl (st_kS0 ha0) ?_
  refine bi_Tr 2 (s' := (17, [(1, .int (0 : Int32)), (0, .ref a0)], [], st_mm (st_p (st_p (st_p s a0 0 (0 : Int32)) a0 3 (0 : Int32)) a0 4 (0 : Int32)))) rfl ?_
  exact bi_Tww h rfl rfl ⟨rfl, rfl, trivial⟩
/-- PolicyRows$State.copyFrom(LPolicyRows$State;)V -/
theorem en_X6_copyFrom {X : bi_X} {d : Nat} {K : bi_St → Prop} {E : Nat → bi_St → Prop} {s : bi_St} {a0 : Nat} {a1 : Nat} (ha0 : st_isS a0) (ha1 : st_isS a1) (h : (¬ (0 : Int32) < 0 ∧ ¬ (0 : Int32) < 0 ∧ ¬ (64 : Int32) < 0 ∧ ((0 : Int32)).toNatClampNeg + ((64 : Int32)).toNatClampNeg ≤ 64 ∧ ((0 : Int32)).toNatClampNeg + ((64 : Int32)).toNatClampNeg ≤ 64) ∧ ((¬ (0 : Int32) < 0 ∧ ¬ (0 : Int32) < 0 ∧ ¬ (6 : Int32) < 0 ∧ ((0 : Int32)).toNatClampNeg + ((6 : Int32)).toNatClampNeg ≤ 6 ∧ ((0 : Int32)).toNatClampNeg + ((6 : Int32)).toNatClampNeg ≤ 6) ∧ ((¬ (0 : Int32) < 0 ∧ ¬ (0 : Int32) < 0 ∧ ¬ (240 : Int32) < 0 ∧ ((0 : Int32)).toNatClampNeg + ((240 : Int32)).toNatClampNeg ≤ 240 ∧ ((0 : Int32)).toNatClampNeg + ((240 : Int32)).toNatClampNeg ≤ 240) ∧ ((¬ (0 : Int32) < 0 ∧ ¬ (0 : Int32) < 0 ∧ ¬ (8 : Int32) < 0 ∧ ((0 : Int32)).toNatClampNeg + ((8 : Int32)).toNatClampNeg ≤ 8 ∧ ((0 : Int32)).toNatClampNeg + ((8 : Int32)).toNatClampNeg ≤ 8) ∧ ((¬ (0 : Int32) < 0 ∧ ¬ (0 : Int32) < 0 ∧ ¬ (8 : Int32) < 0 ∧ ((0 : Int32)).toNatClampNeg + ((8 : Int32)).toNatClampNeg ≤ 8 ∧ ((0 : Int32)).toNatClampNeg + ((8 : Int32)).toNatClampNeg ≤ 8) ∧ (K (st_cp (st_cp (st_cp (st_cp (st_cp (st_p (st_p (st_p (st_p (st_p s a0 0 (st_g s a1 0)) a0 3 (st_g (st_p s a0 0 (st_g s a1 0)) a1 3)) a0 4 (st_g (st_p (st_p s a0 0 (st_g s a1 0)) a0 3 (st_g (st_p s a0 0 (st_g s a1 0)) a1 3)) a1 4)) a0 6 (st_g (st_p (st_p (st_p s a0 0 (st_g s a1 0)) a0 3 (st_g (st_p s a0 0 (st_g s a1 0)) a1 3)) a0 4 (st_g (st_p (st_p s a0 0 (st_g s a1 0)) a0 3 (st_g (st_p s a0 0 (st_g s a1 0)) a1 3)) a1 4)) a1 6)) a0 7 (st_g (st_p (st_p (st_p (st_p s a0 0 (st_g s a1 0)) a0 3 (st_g (st_p s a0 0 (st_g s a1 0)) a1 3)) a0 4 (st_g (st_p (st_p s a0 0 (st_g s a1 0)) a0 3 (st_g (st_p s a0 0 (st_g s a1 0)) a1 3)) a1 4)) a0 6 (st_g (st_p (st_p (st_p s a0 0 (st_g s a1 0)) a0 3 (st_g (st_p s a0 0 (st_g s a1 0)) a1 3)) a0 4 (st_g (st_p (st_p s a0 0 (st_g s a1 0)) a0 3 (st_g (st_p s a0 0 (st_g s a1 0)) a1 3)) a1 4)) a1 6)) a1 7)) (a1 + 1) ((0 : Int32)).toNatClampNeg (a0 + 1) ((0 : Int32)).toNatClampNeg ((64 : Int32)).toNatClampNeg) (a1 + 2) ((0 : Int32)).toNatClampNeg (a0 + 2) ((0 : Int32)).toNatClampNeg ((6 : Int32)).toNatClampNeg) (a1 + 3) ((0 : Int32)).toNatClampNeg (a0 + 3) ((0 : Int32)).toNatClampNeg ((240 : Int32)).toNatClampNeg) (a1 + 4) ((0 : Int32)).toNatClampNeg (a0 + 4) ((0 : Int32)).toNatClampNeg ((8 : Int32)).toNatClampNeg) (a1 + 5) ((0 : Int32)).toNatClampNeg (a0 + 5) ((0 : Int32)).toNatClampNeg ((8 : Int32)).toNatClampNeg))))))) : cV X d 72 [.ref a0, .ref a1] s K E := by
  show bi_T _ _ _ _ _
  refine bi_Tr 2 (s' := (2, [(0, .ref a0), (1, .ref a1)], [.ref a1, .ref a0], st_mm s)) rfl ?_
  refine bi_Tgi (o := 0) rfl rfl rfl (st_kS0 ha1) ?_
  refine bi_Tpi rfl rfl rfl rfl (st_kS0 ha0) ?_
  refine bi_Tr 2 (s' := (10, [(0, .ref a0), (1, .ref a1)], [.ref a1, .ref a0], st_mm (st_p s a0 0 (st_g s a1 0)))) rfl ?_
  refine bi_Tgi (o := 0) rfl rfl rfl (st_kS0 ha1) ?_
  refine bi_Tpi rfl rfl rfl rfl (st_kS0 ha0) ?_
  refine bi_Tr 2 (s' := (18, [(0, .ref a0), (1, .ref a1)], [.ref a1, .ref a0], st_mm (st_p (st_p s a0 0 (st_g s a1 0)) a0 3 (st_g (st_p s a0 0 (st_g s a1 0)) a1 3)))) rfl ?_
  refine bi_Tgi (o := 0) rfl rfl rfl (st_kS0 ha1) ?_
  refine bi_Tpi rfl rfl rfl rfl (st_kS0 ha0) ?_
  refine bi_Tr 2 (s' := (26, [(0, .ref a0), (1, .ref a1)], [.ref a1, .ref a0], st_mm (st_p (st_p (st_p s a0 0 (st_g s a1 0)) a0 3 (st_g (st_p s a0 0 (st_g s a1 0)) a1 3)) a0 4 (st_g (st_p (st_p s a0 0 (st_g s a1 0)) a0 3 (st_g (st_p s a0 0 (st_g s a1 0)) a1 3)) a1 4)))) rfl ?_
  refine bi_Tgi (o := 0) rfl rfl rfl (st_kS0 ha1) ?_
  refine bi_Tpi rfl rfl rfl rfl (st_kS0 ha0) ?_
  refine bi_Tr 2 (s' := (34, [(0, .ref a0), (1, .ref a1)], [.ref a1, .ref a0], st_mm (st_p (st_p (st_p (st_p s a0 0 (st_g s a1 0)) a0 3 (st_g (st_p s a0 0 (st_g s a1 0)) a1 3)) a0 4 (st_g (st_p (st_p s a0 0 (st_g s a1 0)) a0 3 (st_g (st_p s a0 0 (st_g s a1 0)) a1 3)) a1 4)) a0 6 (st_g (st_p (st_p (st_p s a0 0 (st_g s a1 0)) a0 3 (st_g (st_p s a0 0 (st_g s a1 0)) a1 3)) a0 4 (st_g (st_p (st_p s a0 0 (st_g s a1 0)) a0 3 (st_g (st_p s a0 0 (st_g s a1 0)) a1 3)) a1 4)) a1 6)))) rfl ?_
  refine bi_Tgi (o := 0) rfl rfl rfl (st_kS0 ha1) ?_
  refine bi_Tpi rfl rfl rfl rfl (st_kS0 ha0) ?_
  refine bi_Tr 1 (s' := (41, [(0, .ref a0), (1, .ref a1)], [.ref a1], st_mm (st_p (st_p (st_p (st_p (st_p s a0 0 (st_g s a1 0)) a0 3 (st_g (st_p s a0 0 (st_g s a1 0)) a1 3)) a0 4 (st_g (st_p (st_p s a0 0 (st_g s a1 0)) a0 3 (st_g (st_p s a0 0 (st_g s a1 0)) a1 3)) a1 4)) a0 6 (st_g (st_p (st_p (st_p s a0 0 (st_g s a1 0)) a0 3 (st_g (st_p s a0 0 (st_g s a1 0)) a1 3)) a0 4 (st_g (st_p (st_p s a0 0 (st_g s a1 0)) a0 3 (st_g (st_p s a0 0 (st_g s a1 0)) a1 3)) a1 4)) a1 6)) a0 7 (st_g (st_p (st_p (st_p (st_p s a0 0 (st_g s a1 0)) a0 3 (st_g (st_p s a0 0 (st_g s a1 0)) a1 3)) a0 4 (st_g (st_p (st_p s a0 0 (st_g s a1 0)) a0 3 (st_g (st_p s a0 0 (st_g s a1 0)) a1 3)) a1 4)) a0 6 (st_g (st_p (st_p (st_p s a0 0 (st_g s a1 0)) a0 3 (st_g (st_p s a0 0 (st_g s a1 0)) a1 3)) a0 4 (st_g (st_p (st_p s a0 0 (st_g s a1 0)) a0 3 (st_g (st_p s a0 0 (st_g s a1 0)) a1 3)) a1 4)) a1 6)) a1 7)))) rfl ?_
  refine bi_Tgr rfl rfl rfl (st_kS0 ha1) (st_pS1 ha1) ?_
  refine bi_Tr 2 (s' := (46, [(0, .ref a0), (1, .ref a1)], [.ref a0, .int (0 : Int32), .ref (a1 + 1)], st_mm (st_p (st_p (st_p (st_p (st_p s a0 0 (st_g s a1 0)) a0 3 (st_g (st_p s a0 0 (st_g s a1 0)) a1 3)) a0 4 (st_g (st_p (st_p s a0 0 (st_g s a1 0)) a0 3 (st_g (st_p s a0 0 (st_g s a1 0)) a1 3)) a1 4)) a0 6 (st_g (st_p (st_p (st_p s a0 0 (st_g s a1 0)) a0 3 (st_g (st_p s a0 0 (st_g s a1 0)) a1 3)) a0 4 (st_g (st_p (st_p s a0 0 (st_g s a1 0)) a0 3 (st_g (st_p s a0 0 (st_g s a1 0)) a1 3)) a1 4)) a1 6)) a0 7 (st_g (st_p (st_p (st_p (st_p s a0 0 (st_g s a1 0)) a0 3 (st_g (st_p s a0 0 (st_g s a1 0)) a1 3)) a0 4 (st_g (st_p (st_p s a0 0 (st_g s a1 0)) a0 3 (st_g (st_p s a0 0 (st_g s a1 0)) a1 3)) a1 4)) a0 6 (st_g (st_p (st_p (st_p s a0 0 (st_g s a1 0)) a0 3 (st_g (st_p s a0 0 (st_g s a1 0)) a1 3)) a0 4 (st_g (st_p (st_p s a0 0 (st_g s a1 0)) a0 3 (st_g (st_p s a0 0 (st_g s a1 0)) a1 3)) a1 4)) a1 6)) a1 7)))) rfl ?_
  refine bi_Tgr rfl rfl rfl (st_kS0 ha0) (st_pS1 ha0) ?_
  refine bi_Tr 2 (s' := (52, [(0, .ref a0), (1, .ref a1)], [.int (64 : Int32), .int (0 : Int32), .ref (a0 + 1), .int (0 : Int32), .ref (a1 + 1)], st_mm (st_p (st_p (st_p (st_p (st_p s a0 0 (st_g s a1 0)) a0 3 (st_g (st_p s a0 0 (st_g s a1 0)) a1 3)) a0 4 (st_g (st_p (st_p s a0 0 (st_g s a1 0)) a0 3 (st_g (st_p s a0 0 (st_g s a1 0)) a1 3)) a1 4)) a0 6 (st_g (st_p (st_p (st_p s a0 0 (st_g s a1 0)) a0 3 (st_g (st_p s a0 0 (st_g s a1 0)) a1 3)) a0 4 (st_g (st_p (st_p s a0 0 (st_g s a1 0)) a0 3 (st_g (st_p s a0 0 (st_g s a1 0)) a1 3)) a1 4)) a1 6)) a0 7 (st_g (st_p (st_p (st_p (st_p s a0 0 (st_g s a1 0)) a0 3 (st_g (st_p s a0 0 (st_g s a1 0)) a1 3)) a0 4 (st_g (st_p (st_p s a0 0 (st_g s a1 0)) a0 3 (st_g (st_p s a0 0 (st_g s a1 0)) a1 3)) a1 4)) a0 6 (st_g (st_p (st_p (st_p s a0 0 (st_g s a1 0)) a0 3 (st_g (st_p s a0 0 (st_g s a1 0)) a1 3)) a0 4 (st_g (st_p (st_p s a0 0 (st_g s a1 0)) a0 3 (st_g (st_p s a0 0 (st_g s a1 0)) a1 3)) a1 4)) a1 6)) a1 7)))) rfl ?_
  obtain ⟨hi, h⟩ := h
  refine bi_Tcpy (z := 0) rfl rfl (st_kS1 ha1) (st_kS1 ha0) rfl hi.1 hi.2.1 hi.2.2.1 hi.2.2.2.1 hi.2.2.2.2 ?_
  refine bi_Tr 1 (s' := (56, [(0, .ref a0), (1, .ref a1)], [.ref a1], st_mm (st_cp (st_p (st_p (st_p (st_p (st_p s a0 0 (st_g s a1 0)) a0 3 (st_g (st_p s a0 0 (st_g s a1 0)) a1 3)) a0 4 (st_g (st_p (st_p s a0 0 (st_g s a1 0)) a0 3 (st_g (st_p s a0 0 (st_g s a1 0)) a1 3)) a1 4)) a0 6 (st_g (st_p (st_p (st_p s a0 0 (st_g s a1 0)) a0 3 (st_g (st_p s a0 0 (st_g s a1 0)) a1 3)) a0 4 (st_g (st_p (st_p s a0 0 (st_g s a1 0)) a0 3 (st_g (st_p s a0 0 (st_g s a1 0)) a1 3)) a1 4)) a1 6)) a0 7 (st_g (st_p (st_p (st_p (st_p s a0 0 (st_g s a1 0)) a0 3 (st_g (st_p s a0 0 (st_g s a1 0)) a1 3)) a0 4 (st_g (st_p (st_p s a0 0 (st_g s a1 0)) a0 3 (st_g (st_p s a0 0 (st_g s a1 0)) a1 3)) a1 4)) a0 6 (st_g (st_p (st_p (st_p s a0 0 (st_g s a1 0)) a0 3 (st_g (st_p s a0 0 (st_g s a1 0)) a1 3)) a0 4 (st_g (st_p (st_p s a0 0 (st_g s a1 0)) a0 3 (st_g (st_p s a0 0 (st_g s a1 0)) a1 3)) a1 4)) a1 6)) a1 7)) (a1 + 1) ((0 : Int32)).toNatClampNeg (a0 + 1) ((0 : Int32)).toNatClampNeg ((64 : Int32)).toNatClampNeg))) rfl ?_
  refine bi_Tgr rfl rfl rfl (st_kS0 ha1) (st_pS2 ha1) ?_
  refine bi_Tr 2 (s' := (61, [(0, .ref a0), (1, .ref a1)], [.ref a0, .int (0 : Int32), .ref (a1 + 2)], st_mm (st_cp (st_p (st_p (st_p (st_p (st_p s a0 0 (st_g s a1 0)) a0 3 (st_g (st_p s a0 0 (st_g s a1 0)) a1 3)) a0 4 (st_g (st_p (st_p s a0 0 (st_g s a1 0)) a0 3 (st_g (st_p s a0 0 (st_g s a1 0)) a1 3)) a1 4)) a0 6 (st_g (st_p (st_p (st_p s a0 0 (st_g s a1 0)) a0 3 (st_g (st_p s a0 0 (st_g s a1 0)) a1 3)) a0 4 (st_g (st_p (st_p s a0 0 (st_g s a1 0)) a0 3 (st_g (st_p s a0 0 (st_g s a1 0)) a1 3)) a1 4)) a1 6)) a0 7 (st_g (st_p (st_p (st_p (st_p s a0 0 (st_g s a1 0)) a0 3 (st_g (st_p s a0 0 (st_g s a1 0)) a1 3)) a0 4 (st_g (st_p (st_p s a0 0 (st_g s a1 0)) a0 3 (st_g (st_p s a0 0 (st_g s a1 0)) a1 3)) a1 4)) a0 6 (st_g (st_p (st_p (st_p s a0 0 (st_g s a1 0)) a0 3 (st_g (st_p s a0 0 (st_g s a1 0)) a1 3)) a0 4 (st_g (st_p (st_p s a0 0 (st_g s a1 0)) a0 3 (st_g (st_p s a0 0 (st_g s a1 0)) a1 3)) a1 4)) a1 6)) a1 7)) (a1 + 1) ((0 : Int32)).toNatClampNeg (a0 + 1) ((0 : Int32)).toNatClampNeg ((64 : Int32)).toNatClampNeg))) rfl ?_
  refine bi_Tgr rfl rfl rfl (st_kS0 ha0) (st_pS2 ha0) ?_
  refine bi_Tr 2 (s' := (67, [(0, .ref a0), (1, .ref a1)], [.int (6 : Int32), .int (0 : Int32), .ref (a0 + 2), .int (0 : Int32), .ref (a1 + 2)], st_mm (st_cp (st_p (st_p (st_p (st_p (st_p s a0 0 (st_g s a1 0)) a0 3 (st_g (st_p s a0 0 (st_g s a1 0)) a1 3)) a0 4 (st_g (st_p (st_p s a0 0 (st_g s a1 0)) a0 3 (st_g (st_p s a0 0 (st_g s a1 0)) a1 3)) a1 4)) a0 6 (st_g (st_p (st_p (st_p s a0 0 (st_g s a1 0)) a0 3 (st_g (st_p s a0 0 (st_g s a1 0)) a1 3)) a0 4 (st_g (st_p (st_p s a0 0 (st_g s a1 0)) a0 3 (st_g (st_p s a0 0 (st_g s a1 0)) a1 3)) a1 4)) a1 6)) a0 7 (st_g (st_p (st_p (st_p (st_p s a0 0 (st_g s a1 0)) a0 3 (st_g (st_p s a0 0 (st_g s a1 0)) a1 3)) a0 4 (st_g (st_p (st_p s a0 0 (st_g s a1 0)) a0 3 (st_g (st_p s a0 0 (st_g s a1 0)) a1 3)) a1 4)) a0 6 (st_g (st_p (st_p (st_p s a0 0 (st_g s a1 0)) a0 3 (st_g (st_p s a0 0 (st_g s a1 0)) a1 3)) a0 4 (st_g (st_p (st_p s a0 0 (st_g s a1 0)) a0 3 (st_g (st_p s a0 0 (st_g s a1 0)) a1 3)) a1 4)) a1 6)) a1 7)) (a1 + 1) ((0 : Int32)).toNatClampNeg (a0 + 1) ((0 : Int32)).toNatClampNeg ((64 : Int32)).toNatClampNeg))) rfl ?_
  obtain ⟨hi, h⟩ := h
  refine bi_Tcpy (z := 0) rfl rfl (st_kS2 ha1) (st_kS2 ha0) rfl hi.1 hi.2.1 hi.2.2.1 hi.2.2.2.1 hi.2.2.2.2 ?_
  refine bi_Tr 1 (s' := (71, [(0, .ref a0), (1, .ref a1)], [.ref a1], st_mm (st_cp (st_cp (st_p (st_p (st_p (st_p (st_p s a0 0 (st_g s a1 0)) a0 3 (st_g (st_p s a0 0 (st_g s a1 0)) a1 3)) a0 4 (st_g (st_p (st_p s a0 0 (st_g s a1 0)) a0 3 (st_g (st_p s a0 0 (st_g s a1 0)) a1 3)) a1 4)) a0 6 (st_g (st_p (st_p (st_p s a0 0 (st_g s a1 0)) a0 3 (st_g (st_p s a0 0 (st_g s a1 0)) a1 3)) a0 4 (st_g (st_p (st_p s a0 0 (st_g s a1 0)) a0 3 (st_g (st_p s a0 0 (st_g s a1 0)) a1 3)) a1 4)) a1 6)) a0 7 (st_g (st_p (st_p (st_p (st_p s a0 0 (st_g s a1 0)) a0 3 (st_g (st_p s a0 0 (st_g s a1 0)) a1 3)) a0 4 (st_g (st_p (st_p s a0 0 (st_g s a1 0)) a0 3 (st_g (st_p s a0 0 (st_g s a1 0)) a1 3)) a1 4)) a0 6 (st_g (st_p (st_p (st_p s a0 0 (st_g s a1 0)) a0 3 (st_g (st_p s a0 0 (st_g s a1 0)) a1 3)) a0 4 (st_g (st_p (st_p s a0 0 (st_g s a1 0)) a0 3 (st_g (st_p s a0 0 (st_g s a1 0)) a1 3)) a1 4)) a1 6)) a1 7)) (a1 + 1) ((0 : Int32)).toNatClampNeg (a0 + 1) ((0 : Int32)).toNatClampNeg ((64 : Int32)).toNatClampNeg) (a1 + 2) ((0 : Int32)).toNatClampNeg (a0 + 2) ((0 : Int32)).toNatClampNeg ((6 : Int32)).toNatClampNeg))) rfl ?_
  refine bi_Tgr rfl rfl rfl (st_kS0 ha1) (st_pS5 ha1) ?_
  refine bi_Tr 2 (s' := (76, [(0, .ref a0), (1, .ref a1)], [.ref a0, .int (0 : Int32), .ref (a1 + 3)], st_mm (st_cp (st_cp (st_p (st_p (st_p (st_p (st_p s a0 0 (st_g s a1 0)) a0 3 (st_g (st_p s a0 0 (st_g s a1 0)) a1 3)) a0 4 (st_g (st_p (st_p s a0 0 (st_g s a1 0)) a0 3 (st_g (st_p s a0 0 (st_g s a1 0)) a1 3)) a1 4)) a0 6 (st_g (st_p (st_p (st_p s a0 0 (st_g s a1 0)) a0 3 (st_g (st_p s a0 0 (st_g s a1 0)) a1 3)) a0 4 (st_g (st_p (st_p s a0 0 (st_g s a1 0)) a0 3 (st_g (st_p s a0 0 (st_g s a1 0)) a1 3)) a1 4)) a1 6)) a0 7 (st_g (st_p (st_p (st_p (st_p s a0 0 (st_g s a1 0)) a0 3 (st_g (st_p s a0 0 (st_g s a1 0)) a1 3)) a0 4 (st_g (st_p (st_p s a0 0 (st_g s a1 0)) a0 3 (st_g (st_p s a0 0 (st_g s a1 0)) a1 3)) a1 4)) a0 6 (st_g (st_p (st_p (st_p s a0 0 (st_g s a1 0)) a0 3 (st_g (st_p s a0 0 (st_g s a1 0)) a1 3)) a0 4 (st_g (st_p (st_p s a0 0 (st_g s a1 0)) a0 3 (st_g (st_p s a0 0 (st_g s a1 0)) a1 3)) a1 4)) a1 6)) a1 7)) (a1 + 1) ((0 : Int32)).toNatClampNeg (a0 + 1) ((0 : Int32)).toNatClampNeg ((64 : Int32)).toNatClampNeg) (a1 + 2) ((0 : Int32)).toNatClampNeg (a0 + 2) ((0 : Int32)).toNatClampNeg ((6 : Int32)).toNatClampNeg))) rfl ?_
  refine bi_Tgr rfl rfl rfl (st_kS0 ha0) (st_pS5 ha0) ?_
  refine bi_Tr 2 (s' := (83, [(0, .ref a0), (1, .ref a1)], [.int (240 : Int32), .int (0 : Int32), .ref (a0 + 3), .int (0 : Int32), .ref (a1 + 3)], st_mm (st_cp (st_cp (st_p (st_p (st_p (st_p (st_p s a0 0 (st_g s a1 0)) a0 3 (st_g (st_p s a0 0 (st_g s a1 0)) a1 3)) a0 4 (st_g (st_p (st_p s a0 0 (st_g s a1 0)) a0 3 (st_g (st_p s a0 0 (st_g s a1 0)) a1 3)) a1 4)) a0 6 (st_g (st_p (st_p (st_p s a0 0 (st_g s a1 0)) a0 3 (st_g (st_p s a0 0 (st_g s a1 0)) a1 3)) a0 4 (st_g (st_p (st_p s a0 0 (st_g s a1 0)) a0 3 (st_g (st_p s a0 0 (st_g s a1 0)) a1 3)) a1 4)) a1 6)) a0 7 (st_g (st_p (st_p (st_p (st_p s a0 0 (st_g s a1 0)) a0 3 (st_g (st_p s a0 0 (st_g s a1 0)) a1 3)) a0 4 (st_g (st_p (st_p s a0 0 (st_g s a1 0)) a0 3 (st_g (st_p s a0 0 (st_g s a1 0)) a1 3)) a1 4)) a0 6 (st_g (st_p (st_p (st_p s a0 0 (st_g s a1 0)) a0 3 (st_g (st_p s a0 0 (st_g s a1 0)) a1 3)) a0 4 (st_g (st_p (st_p s a0 0 (st_g s a1 0)) a0 3 (st_g (st_p s a0 0 (st_g s a1 0)) a1 3)) a1 4)) a1 6)) a1 7)) (a1 + 1) ((0 : Int32)).toNatClampNeg (a0 + 1) ((0 : Int32)).toNatClampNeg ((64 : Int32)).toNatClampNeg) (a1 + 2) ((0 : Int32)).toNatClampNeg (a0 + 2) ((0 : Int32)).toNatClampNeg ((6 : Int32)).toNatClampNeg))) rfl ?_
  obtain ⟨hi, h⟩ := h
  refine bi_Tcpy (z := 0) rfl rfl (st_kS3 ha1) (st_kS3 ha0) rfl hi.1 hi.2.1 hi.2.2.1 hi.2.2.2.1 hi.2.2.2.2 ?_
  refine bi_Tr 1 (s' := (87, [(0, .ref a0), (1, .ref a1)], [.ref a1], st_mm (st_cp (st_cp (st_cp (st_p (st_p (st_p (st_p (st_p s a0 0 (st_g s a1 0)) a0 3 (st_g (st_p s a0 0 (st_g s a1 0)) a1 3)) a0 4 (st_g (st_p (st_p s a0 0 (st_g s a1 0)) a0 3 (st_g (st_p s a0 0 (st_g s a1 0)) a1 3)) a1 4)) a0 6 (st_g (st_p (st_p (st_p s a0 0 (st_g s a1 0)) a0 3 (st_g (st_p s a0 0 (st_g s a1 0)) a1 3)) a0 4 (st_g (st_p (st_p s a0 0 (st_g s a1 0)) a0 3 (st_g (st_p s a0 0 (st_g s a1 0)) a1 3)) a1 4)) a1 6)) a0 7 (st_g (st_p (st_p (st_p (st_p s a0 0 (st_g s a1 0)) a0 3 (st_g (st_p s a0 0 (st_g s a1 0)) a1 3)) a0 4 (st_g (st_p (st_p s a0 0 (st_g s a1 0)) a0 3 (st_g (st_p s a0 0 (st_g s a1 0)) a1 3)) a1 4)) a0 6 (st_g (st_p (st_p (st_p s a0 0 (st_g s a1 0)) a0 3 (st_g (st_p s a0 0 (st_g s a1 0)) a1 3)) a0 4 (st_g (st_p (st_p s a0 0 (st_g s a1 0)) a0 3 (st_g (st_p s a0 0 (st_g s a1 0)) a1 3)) a1 4)) a1 6)) a1 7)) (a1 + 1) ((0 : Int32)).toNatClampNeg (a0 + 1) ((0 : Int32)).toNatClampNeg ((64 : Int32)).toNatClampNeg) (a1 + 2) ((0 : Int32)).toNatClampNeg (a0 + 2) ((0 : Int32)).toNatClampNeg ((6 : Int32)).toNatClampNeg) (a1 + 3) ((0 : Int32)).toNatClampNeg (a0 + 3) ((0 : Int32)).toNatClampNeg ((240 : Int32)).toNatClampNeg))) rfl ?_
  refine bi_Tgr rfl rfl rfl (st_kS0 ha1) (st_pS8 ha1) ?_
  refine bi_Tr 2 (s' := (92, [(0, .ref a0), (1, .ref a1)], [.ref a0, .int (0 : Int32), .ref (a1 + 4)], st_mm (st_cp (st_cp (st_cp (st_p (st_p (st_p (st_p (st_p s a0 0 (st_g s a1 0)) a0 3 (st_g (st_p s a0 0 (st_g s a1 0)) a1 3)) a0 4 (st_g (st_p (st_p s a0 0 (st_g s a1 0)) a0 3 (st_g (st_p s a0 0 (st_g s a1 0)) a1 3)) a1 4)) a0 6 (st_g (st_p (st_p (st_p s a0 0 (st_g s a1 0)) a0 3 (st_g (st_p s a0 0 (st_g s a1 0)) a1 3)) a0 4 (st_g (st_p (st_p s a0 0 (st_g s a1 0)) a0 3 (st_g (st_p s a0 0 (st_g s a1 0)) a1 3)) a1 4)) a1 6)) a0 7 (st_g (st_p (st_p (st_p (st_p s a0 0 (st_g s a1 0)) a0 3 (st_g (st_p s a0 0 (st_g s a1 0)) a1 3)) a0 4 (st_g (st_p (st_p s a0 0 (st_g s a1 0)) a0 3 (st_g (st_p s a0 0 (st_g s a1 0)) a1 3)) a1 4)) a0 6 (st_g (st_p (st_p (st_p s a0 0 (st_g s a1 0)) a0 3 (st_g (st_p s a0 0 (st_g s a1 0)) a1 3)) a0 4 (st_g (st_p (st_p s a0 0 (st_g s a1 0)) a0 3 (st_g (st_p s a0 0 (st_g s a1 0)) a1 3)) a1 4)) a1 6)) a1 7)) (a1 + 1) ((0 : Int32)).toNatClampNeg (a0 + 1) ((0 : Int32)).toNatClampNeg ((64 : Int32)).toNatClampNeg) (a1 + 2) ((0 : Int32)).toNatClampNeg (a0 + 2) ((0 : Int32)).toNatClampNeg ((6 : Int32)).toNatClampNeg) (a1 + 3) ((0 : Int32)).toNatClampNeg (a0 + 3) ((0 : Int32)).toNatClampNeg ((240 : Int32)).toNatClampNeg))) rfl ?_
  refine bi_Tgr rfl rfl rfl (st_kS0 ha0) (st_pS8 ha0) ?_
  refine bi_Tr 2 (s' := (98, [(0, .ref a0), (1, .ref a1)], [.int (8 : Int32), .int (0 : Int32), .ref (a0 + 4), .int (0 : Int32), .ref (a1 + 4)], st_mm (st_cp (st_cp (st_cp (st_p (st_p (st_p (st_p (st_p s a0 0 (st_g s a1 0)) a0 3 (st_g (st_p s a0 0 (st_g s a1 0)) a1 3)) a0 4 (st_g (st_p (st_p s a0 0 (st_g s a1 0)) a0 3 (st_g (st_p s a0 0 (st_g s a1 0)) a1 3)) a1 4)) a0 6 (st_g (st_p (st_p (st_p s a0 0 (st_g s a1 0)) a0 3 (st_g (st_p s a0 0 (st_g s a1 0)) a1 3)) a0 4 (st_g (st_p (st_p s a0 0 (st_g s a1 0)) a0 3 (st_g (st_p s a0 0 (st_g s a1 0)) a1 3)) a1 4)) a1 6)) a0 7 (st_g (st_p (st_p (st_p (st_p s a0 0 (st_g s a1 0)) a0 3 (st_g (st_p s a0 0 (st_g s a1 0)) a1 3)) a0 4 (st_g (st_p (st_p s a0 0 (st_g s a1 0)) a0 3 (st_g (st_p s a0 0 (st_g s a1 0)) a1 3)) a1 4)) a0 6 (st_g (st_p (st_p (st_p s a0 0 (st_g s a1 0)) a0 3 (st_g (st_p s a0 0 (st_g s a1 0)) a1 3)) a0 4 (st_g (st_p (st_p s a0 0 (st_g s a1 0)) a0 3 (st_g (st_p s a0 0 (st_g s a1 0)) a1 3)) a1 4)) a1 6)) a1 7)) (a1 + 1) ((0 : Int32)).toNatClampNeg (a0 + 1) ((0 : Int32)).toNatClampNeg ((64 : Int32)).toNatClampNeg) (a1 + 2) ((0 : Int32)).toNatClampNeg (a0 + 2) ((0 : Int32)).toNatClampNeg ((6 : Int32)).toNatClampNeg) (a1 + 3) ((0 : Int32)).toNatClampNeg (a0 + 3) ((0 : Int32)).toNatClampNeg ((240 : Int32)).toNatClampNeg))) rfl ?_
  obtain ⟨hi, h⟩ := h
  refine bi_Tcpy (z := 0) rfl rfl (st_kS4 ha1) (st_kS4 ha0) rfl hi.1 hi.2.1 hi.2.2.1 hi.2.2.2.1 hi.2.2.2.2 ?_
  refine bi_Tr 1 (s' := (102, [(0, .ref a0), (1, .ref a1)], [.ref a1], st_mm (st_cp (st_cp (st_cp (st_cp (st_p (st_p (st_p (st_p (st_p s a0 0 (st_g s a1 0)) a0 3 (st_g (st_p s a0 0 (st_g s a1 0)) a1 3)) a0 4 (st_g (st_p (st_p s a0 0 (st_g s a1 0)) a0 3 (st_g (st_p s a0 0 (st_g s a1 0)) a1 3)) a1 4)) a0 6 (st_g (st_p (st_p (st_p s a0 0 (st_g s a1 0)) a0 3 (st_g (st_p s a0 0 (st_g s a1 0)) a1 3)) a0 4 (st_g (st_p (st_p s a0 0 (st_g s a1 0)) a0 3 (st_g (st_p s a0 0 (st_g s a1 0)) a1 3)) a1 4)) a1 6)) a0 7 (st_g (st_p (st_p (st_p (st_p s a0 0 (st_g s a1 0)) a0 3 (st_g (st_p s a0 0 (st_g s a1 0)) a1 3)) a0 4 (st_g (st_p (st_p s a0 0 (st_g s a1 0)) a0 3 (st_g (st_p s a0 0 (st_g s a1 0)) a1 3)) a1 4)) a0 6 (st_g (st_p (st_p (st_p s a0 0 (st_g s a1 0)) a0 3 (st_g (st_p s a0 0 (st_g s a1 0)) a1 3)) a0 4 (st_g (st_p (st_p s a0 0 (st_g s a1 0)) a0 3 (st_g (st_p s a0 0 (st_g s a1 0)) a1 3)) a1 4)) a1 6)) a1 7)) (a1 + 1) ((0 : Int32)).toNatClampNeg (a0 + 1) ((0 : Int32)).toNatClampNeg ((64 : Int32)).toNatClampNeg) (a1 + 2) ((0 : Int32)).toNatClampNeg (a0 + 2) ((0 : Int32)).toNatClampNeg ((6 : Int32)).toNatClampNeg) (a1 + 3) ((0 : Int32)).toNatClampNeg (a0 + 3) ((0 : Int32)).toNatClampNeg ((240 : Int32)).toNatClampNeg) (a1 + 4) ((0 : Int32)).toNatClampNeg (a0 + 4) ((0 : Int32)).toNatClampNeg ((8 : Int32)).toNatClampNeg))) rfl ?_
  refine bi_Tgr rfl rfl rfl (st_kS0 ha1) (st_pS9 ha1) ?_
  refine bi_Tr 2 (s' := (107, [(0, .ref a0), (1, .ref a1)], [.ref a0, .int (0 : Int32), .ref (a1 + 5)], st_mm (st_cp (st_cp (st_cp (st_cp (st_p (st_p (st_p (st_p (st_p s a0 0 (st_g s a1 0)) a0 3 (st_g (st_p s a0 0 (st_g s a1 0)) a1 3)) a0 4 (st_g (st_p (st_p s a0 0 (st_g s a1 0)) a0 3 (st_g (st_p s a0 0 (st_g s a1 0)) a1 3)) a1 4)) a0 6 (st_g (st_p (st_p (st_p s a0 0 (st_g s a1 0)) a0 3 (st_g (st_p s a0 0 (st_g s a1 0)) a1 3)) a0 4 (st_g (st_p (st_p s a0 0 (st_g s a1 0)) a0 3 (st_g (st_p s a0 0 (st_g s a1 0)) a1 3)) a1 4)) a1 6)) a0 7 (st_g (st_p (st_p (st_p (st_p s a0 0 (st_g s a1 0)) a0 3 (st_g (st_p s a0 0 (st_g s a1 0)) a1 3)) a0 4 (st_g (st_p (st_p s a0 0 (st_g s a1 0)) a0 3 (st_g (st_p s a0 0 (st_g s a1 0)) a1 3)) a1 4)) a0 6 (st_g (st_p (st_p (st_p s a0 0 (st_g s a1 0)) a0 3 (st_g (st_p s a0 0 (st_g s a1 0)) a1 3)) a0 4 (st_g (st_p (st_p s a0 0 (st_g s a1 0)) a0 3 (st_g (st_p s a0 0 (st_g s a1 0)) a1 3)) a1 4)) a1 6)) a1 7)) (a1 + 1) ((0 : Int32)).toNatClampNeg (a0 + 1) ((0 : Int32)).toNatClampNeg ((64 : Int32)).toNatClampNeg) (a1 + 2) ((0 : Int32)).toNatClampNeg (a0 + 2) ((0 : Int32)).toNatClampNeg ((6 : Int32)).toNatClampNeg) (a1 + 3) ((0 : Int32)).toNatClampNeg (a0 + 3) ((0 : Int32)).toNatClampNeg ((240 : Int32)).toNatClampNeg) (a1 + 4) ((0 : Int32)).toNatClampNeg (a0 + 4) ((0 : Int32)).toNatClampNeg ((8 : Int32)).toNatClampNeg))) rfl ?_
  refine bi_Tgr rfl rfl rfl (st_kS0 ha0) (st_pS9 ha0) ?_
  refine bi_Tr 2 (s' := (113, [(0, .ref a0), (1, .ref a1)], [.int (8 : Int32), .int (0 : Int32), .ref (a0 + 5), .int (0 : Int32), .ref (a1 + 5)], st_mm (st_cp (st_cp (st_cp (st_cp (st_p (st_p (st_p (st_p (st_p s a0 0 (st_g s a1 0)) a0 3 (st_g (st_p s a0 0 (st_g s a1 0)) a1 3)) a0 4 (st_g (st_p (st_p s a0 0 (st_g s a1 0)) a0 3 (st_g (st_p s a0 0 (st_g s a1 0)) a1 3)) a1 4)) a0 6 (st_g (st_p (st_p (st_p s a0 0 (st_g s a1 0)) a0 3 (st_g (st_p s a0 0 (st_g s a1 0)) a1 3)) a0 4 (st_g (st_p (st_p s a0 0 (st_g s a1 0)) a0 3 (st_g (st_p s a0 0 (st_g s a1 0)) a1 3)) a1 4)) a1 6)) a0 7 (st_g (st_p (st_p (st_p (st_p s a0 0 (st_g s a1 0)) a0 3 (st_g (st_p s a0 0 (st_g s a1 0)) a1 3)) a0 4 (st_g (st_p (st_p s a0 0 (st_g s a1 0)) a0 3 (st_g (st_p s a0 0 (st_g s a1 0)) a1 3)) a1 4)) a0 6 (st_g (st_p (st_p (st_p s a0 0 (st_g s a1 0)) a0 3 (st_g (st_p s a0 0 (st_g s a1 0)) a1 3)) a0 4 (st_g (st_p (st_p s a0 0 (st_g s a1 0)) a0 3 (st_g (st_p s a0 0 (st_g s a1 0)) a1 3)) a1 4)) a1 6)) a1 7)) (a1 + 1) ((0 : Int32)).toNatClampNeg (a0 + 1) ((0 : Int32)).toNatClampNeg ((64 : Int32)).toNatClampNeg) (a1 + 2) ((0 : Int32)).toNatClampNeg (a0 + 2) ((0 : Int32)).toNatClampNeg ((6 : Int32)).toNatClampNeg) (a1 + 3) ((0 : Int32)).toNatClampNeg (a0 + 3) ((0 : Int32)).toNatClampNeg ((240 : Int32)).toNatClampNeg) (a1 + 4) ((0 : Int32)).toNatClampNeg (a0 + 4) ((0 : Int32)).toNatClampNeg ((8 : Int32)).toNatClampNeg))) rfl ?_
  obtain ⟨hi, h⟩ := h
  refine bi_Tcpy (z := 0) rfl rfl (st_kS5 ha1) (st_kS5 ha0) rfl hi.1 hi.2.1 hi.2.2.1 hi.2.2.2.1 hi.2.2.2.2 ?_
  exact bi_Tv rfl rfl (Or.inl ⟨_, rfl, h⟩)
/-- PolicyRows$State.isCell(II)Z -/
theorem en_X6_isCell {X : bi_X} {d : Nat} {K : Int32 → bi_St → Prop} {E : Nat → bi_St → Prop} {s : bi_St} {a0 : Nat} {x0 : Int32} {x1 : Int32} (ha0 : st_isS a0) (h : ((x0 < 0) → K (0 : Int32) s) ∧ (¬ (x0 < 0) → (((16 : Int32) ≤ x0) → K (0 : Int32) s) ∧ (¬ ((16 : Int32) ≤ x0) → ((x1 < 0) → K (0 : Int32) s) ∧ (¬ (x1 < 0) → (((4 : Int32) ≤ x1) → K (0 : Int32) s) ∧ (¬ ((4 : Int32) ≤ x1) → K (1 : Int32) s))))) : cI X d 73 [.ref a0, .int x0, .int x1] s K E := by
  show bi_T _ _ _ _ _
  refine bi_Tr 2 (s' := ((if x0 < 0 then 23 else 4), [(0, .ref a0), (1, .int x0), (2, .int x1)], [], st_mm s)) rfl (bi_Tif (fun hc => ?_) (fun hc => ?_))
  · have h := h.1 hc
    refine bi_Tr 1 (s' := (24, [(0, .ref a0), (1, .int x0), (2, .int x1)], [.int (0 : Int32)], st_mm s)) rfl ?_
    exact bi_Tv rfl rfl (Or.inl ⟨_, _, rfl, h⟩)
  · have h := h.2 hc
    refine bi_Tr 3 (s' := ((if (16 : Int32) ≤ x0 then 23 else 10), [(0, .ref a0), (1, .int x0), (2, .int x1)], [], st_mm s)) rfl (bi_Tif (fun hc => ?_) (fun hc => ?_))
    · have h := h.1 hc
      refine bi_Tr 1 (s' := (24, [(0, .ref a0), (1, .int x0), (2, .int x1)], [.int (0 : Int32)], st_mm s)) rfl ?_
      exact bi_Tv rfl rfl (Or.inl ⟨_, _, rfl, h⟩)
    · have h := h.2 hc
      refine bi_Tr 2 (s' := ((if x1 < 0 then 23 else 14), [(0, .ref a0), (1, .int x0), (2, .int x1)], [], st_mm s)) rfl (bi_Tif (fun hc => ?_) (fun hc => ?_))
      · have h := h.1 hc
        refine bi_Tr 1 (s' := (24, [(0, .ref a0), (1, .int x0), (2, .int x1)], [.int (0 : Int32)], st_mm s)) rfl ?_
        exact bi_Tv rfl rfl (Or.inl ⟨_, _, rfl, h⟩)
      · have h := h.2 hc
        refine bi_Tr 3 (s' := ((if (4 : Int32) ≤ x1 then 23 else 19), [(0, .ref a0), (1, .int x0), (2, .int x1)], [], st_mm s)) rfl (bi_Tif (fun hc => ?_) (fun hc => ?_))
        · have h := h.1 hc
          refine bi_Tr 1 (s' := (24, [(0, .ref a0), (1, .int x0), (2, .int x1)], [.int (0 : Int32)], st_mm s)) rfl ?_
          exact bi_Tv rfl rfl (Or.inl ⟨_, _, rfl, h⟩)
        · have h := h.2 hc
          refine bi_Tr 2 (s' := (24, [(0, .ref a0), (1, .int x0), (2, .int x1)], [.int (1 : Int32)], st_mm s)) rfl ?_
          exact bi_Tv rfl rfl (Or.inl ⟨_, _, rfl, h⟩)
/-- PolicyRows$State.numberAt(II)I -/
theorem en_X6_numberAt {X : bi_X} {d : Nat} {K : Int32 → bi_St → Prop} {E : Nat → bi_St → Prop} {s : bi_St} {a0 : Nat} {x0 : Int32} {x1 : Int32} (ha0 : st_isS a0) (h : cI X d 73 [.ref a0, .int x0, .int x1] s (fun (r1 : Int32) (s1 : bi_St) => ((r1 = 0) → K (0 : Int32) s1) ∧ (¬ (r1 = 0) → bi_in ((x0 * (4 : Int32)) + x1) 64 = true ∧ (K (st_g s1 (a0 + 1) (((x0 * (4 : Int32)) + x1)).toNatClampNeg) s1))) (fun _ _ => False)) : cI X (d + 1) 74 [.ref a0, .int x0, .int x1] s K E := by
  show bi_T _ _ _ _ _
  refine bi_Tr 3 (s' := (3, [(0, .ref a0), (1, .int x0), (2, .int x1)], [.int x1, .int x0, .ref a0], st_mm s)) rfl ?_
  refine bi_TcI (as := [.ref a0, .int x0, .int x1]) (bi_TcO rfl rfl rfl (st_kS0 ha0) rfl rfl) rfl ?_
  refine cI.mono h (fun r1 s1 h => ?_) (fun _ _ h => h.elim)
  refine bi_Tr 1 (s' := ((if r1 = 0 then 22 else 9), [(0, .ref a0), (1, .int x0), (2, .int x1)], [], st_mm s1)) rfl (bi_Tif (fun hc => ?_) (fun hc => ?_))
  · have h := h.1 hc
    refine bi_Tr 1 (s' := (23, [(0, .ref a0), (1, .int x0), (2, .int x1)], [.int (0 : Int32)], st_mm s1)) rfl ?_
    exact bi_Tv rfl rfl (Or.inl ⟨_, _, rfl, h⟩)
  · have h := h.2 hc
    refine bi_Tr 1 (s' := (10, [(0, .ref a0), (1, .int x0), (2, .int x1)], [.ref a0], st_mm s1)) rfl ?_
    refine bi_Tgr rfl rfl rfl (st_kS0 ha0) (st_pS1 ha0) ?_
    refine bi_Tr 5 (s' := (18, [(0, .ref a0), (1, .int x0), (2, .int x1)], [.int ((x0 * (4 : Int32)) + x1), .ref (a0 + 1)], st_mm s1)) rfl ?_
    obtain ⟨hi, h⟩ := h
    refine bi_Tial rfl (by have := ha0; simp only [st_isS] at this; rcases this with h | h | h | h <;> rw [h] <;> rfl) (st_kS1 ha0) hi ?_
    refine bi_Tr 1 (s' := (23, [(0, .ref a0), (1, .int x0), (2, .int x1)], [.int (st_g s1 (a0 + 1) (((x0 * (4 : Int32)) + x1)).toNatClampNeg)], st_mm s1)) rfl ?_
    exact bi_Tv rfl rfl (Or.inl ⟨_, _, rfl, h⟩)
/-- PolicyRows$State.setNumber(III)V -/
theorem en_X6_setNumber {X : bi_X} {d : Nat} {K : bi_St → Prop} {E : Nat → bi_St → Prop} {s : bi_St} {a0 : Nat} {x0 : Int32} {x1 : Int32} {x2 : Int32} (ha0 : st_isS a0) (h : cI X d 73 [.ref a0, .int x0, .int x1] s (fun (r1 : Int32) (s1 : bi_St) => ((r1 = 0) → K s1) ∧ (¬ (r1 = 0) → bi_in ((x0 * (4 : Int32)) + x1) 64 = true ∧ (K (st_p s1 (a0 + 1) (((x0 * (4 : Int32)) + x1)).toNatClampNeg x2)))) (fun _ _ => False)) : cV X (d + 1) 75 [.ref a0, .int x0, .int x1, .int x2] s K E := by
  show bi_T _ _ _ _ _
  refine bi_Tr 3 (s' := (3, [(0, .ref a0), (1, .int x0), (2, .int x1), (3, .int x2)], [.int x1, .int x0, .ref a0], st_mm s)) rfl ?_
  refine bi_TcI (as := [.ref a0, .int x0, .int x1]) (bi_TcO rfl rfl rfl (st_kS0 ha0) rfl rfl) rfl ?_
  refine cI.mono h (fun r1 s1 h => ?_) (fun _ _ h => h.elim)
  refine bi_Tr 1 (s' := ((if r1 = 0 then 20 else 9), [(0, .ref a0), (1, .int x0), (2, .int x1), (3, .int x2)], [], st_mm s1)) rfl (bi_Tif (fun hc => ?_) (fun hc => ?_))
  · have h := h.1 hc
    exact bi_Tv rfl rfl (Or.inl ⟨_, rfl, h⟩)
  · have h := h.2 hc
    refine bi_Tr 1 (s' := (10, [(0, .ref a0), (1, .int x0), (2, .int x1), (3, .int x2)], [.ref a0], st_mm s1)) rfl ?_
    refine bi_Tgr rfl rfl rfl (st_kS0 ha0) (st_pS1 ha0) ?_
    refine bi_Tr 6 (s' := (19, [(0, .ref a0), (1, .int x0), (2, .int x1), (3, .int x2)], [.int x2, .int ((x0 * (4 : Int32)) + x1), .ref (a0 + 1)], st_mm s1)) rfl ?_
    obtain ⟨hi, h⟩ := h
    refine bi_Tias rfl (st_kS1 ha0) hi ?_
    exact bi_Tv rfl rfl (Or.inl ⟨_, rfl, h⟩)
def at_X6_noteAct_36 (X : bi_X) (d : Nat) (K : Int32 → bi_St → Prop) (E : Nat → bi_St → Prop) (s : bi_St) (y1 : Int32) (y2 : Int32) (b0 : Nat) : Prop := bi_T X d 76 (36, [(0, .ref b0), (1, .int y1), (2, .int y2)], [], st_mm s) (st_RI K E)
theorem go_X6_noteAct_36 {X : bi_X} {d : Nat} {K : Int32 → bi_St → Prop} {E : Nat → bi_St → Prop}  {s : bi_St} {y1 : Int32} {y2 : Int32} {b0 : Nat} (hb0 : st_isS b0) (h : bi_in ((st_g s b0 4) * (6 : Int32)) 240 = true ∧ (bi_in (((st_g s b0 4) * (6 : Int32)) + (1 : Int32)) 240 = true ∧ (K (((st_g s b0 4) * (6 : Int32)) + (2 : Int32)) (st_p (st_p (st_p s (b0 + 3) (((st_g s b0 4) * (6 : Int32))).toNatClampNeg y1) (b0 + 3) ((((st_g s b0 4) * (6 : Int32)) + (1 : Int32))).toNatClampNeg y2) b0 4 ((st_g (st_p (st_p s (b0 + 3) (((st_g s b0 4) * (6 : Int32))).toNatClampNeg y1) (b0 + 3) ((((st_g s b0 4) * (6 : Int32)) + (1 : Int32))).toNatClampNeg y2) b0 4) + (1 : Int32)))))) : at_X6_noteAct_36 X d K E s y1 y2 b0 := by
  show bi_T _ _ _ _ _
  refine bi_Tr 1 (s' := (37, [(0, .ref b0), (1, .int y1), (2, .int y2)], [.ref b0], st_mm s)) rfl ?_
  refine bi_Tgi (o := 0) rfl rfl rfl (st_kS0 hb0) ?_
  refine bi_Tr 4 (s' := (45, [(3, .int ((st_g s b0 4) * (6 : Int32))), (0, .ref b0), (1, .int y1), (2, .int y2)], [.ref b0], st_mm s)) rfl ?_
  refine bi_Tgr rfl rfl rfl (st_kS0 hb0) (st_pS5 hb0) ?_
  refine bi_Tr 2 (s' := (50, [(3, .int ((st_g s b0 4) * (6 : Int32))), (0, .ref b0), (1, .int y1), (2, .int y2)], [.int y1, .int ((st_g s b0 4) * (6 : Int32)), .ref (b0 + 3)], st_mm s)) rfl ?_
  obtain ⟨hi, h⟩ := h
  refine bi_Tias rfl (st_kS3 hb0) hi ?_
  refine bi_Tr 1 (s' := (52, [(3, .int ((st_g s b0 4) * (6 : Int32))), (0, .ref b0), (1, .int y1), (2, .int y2)], [.ref b0], st_mm (st_p s (b0 + 3) (((st_g s b0 4) * (6 : Int32))).toNatClampNeg y1))) rfl ?_
  refine bi_Tgr rfl rfl rfl (st_kS0 hb0) (st_pS5 hb0) ?_
  refine bi_Tr 4 (s' := (59, [(3, .int ((st_g s b0 4) * (6 : Int32))), (0, .ref b0), (1, .int y1), (2, .int y2)], [.int y2, .int (((st_g s b0 4) * (6 : Int32)) + (1 : Int32)), .ref (b0 + 3)], st_mm (st_p s (b0 + 3) (((st_g s b0 4) * (6 : Int32))).toNatClampNeg y1))) rfl ?_
  obtain ⟨hi, h⟩ := h
  refine bi_Tias rfl (st_kS3 hb0) hi ?_
  refine bi_Tr 2 (s' := (62, [(3, .int ((st_g s b0 4) * (6 : Int32))), (0, .ref b0), (1, .int y1), (2, .int y2)], [.ref b0, .ref b0], st_mm (st_p (st_p s (b0 + 3) (((st_g s b0 4) * (6 : Int32))).toNatClampNeg y1) (b0 + 3) ((((st_g s b0 4) * (6 : Int32)) + (1 : Int32))).toNatClampNeg y2))) rfl ?_
  refine bi_Tgi (o := 0) rfl rfl rfl (st_kS0 hb0) ?_
  refine bi_Tr 2 (s' := (67, [(3, .int ((st_g s b0 4) * (6 : Int32))), (0, .ref b0), (1, .int y1), (2, .int y2)], [.int ((st_g (st_p (st_p s (b0 + 3) (((st_g s b0 4) * (6 : Int32))).toNatClampNeg y1) (b0 + 3) ((((st_g s b0 4) * (6 : Int32)) + (1 : Int32))).toNatClampNeg y2) b0 4) + (1 : Int32)), .ref b0], st_mm (st_p (st_p s (b0 + 3) (((st_g s b0 4) * (6 : Int32))).toNatClampNeg y1) (b0 + 3) ((((st_g s b0 4) * (6 : Int32)) + (1 : Int32))).toNatClampNeg y2))) rfl ?_
  refine bi_Tpi rfl rfl rfl rfl (st_kS0 hb0) ?_
  refine bi_Tr 3 (s' := (73, [(3, .int ((st_g s b0 4) * (6 : Int32))), (0, .ref b0), (1, .int y1), (2, .int y2)], [.int (((st_g s b0 4) * (6 : Int32)) + (2 : Int32))], st_mm (st_p (st_p (st_p s (b0 + 3) (((st_g s b0 4) * (6 : Int32))).toNatClampNeg y1) (b0 + 3) ((((st_g s b0 4) * (6 : Int32)) + (1 : Int32))).toNatClampNeg y2) b0 4 ((st_g (st_p (st_p s (b0 + 3) (((st_g s b0 4) * (6 : Int32))).toNatClampNeg y1) (b0 + 3) ((((st_g s b0 4) * (6 : Int32)) + (1 : Int32))).toNatClampNeg y2) b0 4) + (1 : Int32))))) rfl ?_
  exact bi_Tv rfl rfl (Or.inl ⟨_, _, rfl, h⟩)
/-- PolicyRows$State.noteAct(II)I -/
theorem en_X6_noteAct {X : bi_X} {d : Nat} {K : Int32 → bi_St → Prop} {E : Nat → bi_St → Prop} {s : bi_St} {a0 : Nat} {x0 : Int32} {x1 : Int32} (ha0 : st_isS a0) (h : (((st_g s a0 4) < (40 : Int32)) → at_X6_noteAct_36 X d K E s (x0) (x1) (a0)) ∧ (¬ ((st_g s a0 4) < (40 : Int32)) → (¬ (6 : Int32) < 0 ∧ ¬ (0 : Int32) < 0 ∧ ¬ ((st_g (st_p s a0 4 (39 : Int32)) a0 4) * (6 : Int32)) < 0 ∧ ((6 : Int32)).toNatClampNeg + (((st_g (st_p s a0 4 (39 : Int32)) a0 4) * (6 : Int32))).toNatClampNeg ≤ 240 ∧ ((0 : Int32)).toNatClampNeg + (((st_g (st_p s a0 4 (39 : Int32)) a0 4) * (6 : Int32))).toNatClampNeg ≤ 240) ∧ (at_X6_noteAct_36 X d K E (st_cp (st_p s a0 4 (39 : Int32)) (a0 + 3) ((6 : Int32)).toNatClampNeg (a0 + 3) ((0 : Int32)).toNatClampNeg (((st_g (st_p s a0 4 (39 : Int32)) a0 4) * (6 : Int32))).toNatClampNeg) (x0) (x1) (a0)))) : cI X d 76 [.ref a0, .int x0, .int x1] s K E := by
  show bi_T _ _ _ _ _
  refine bi_Tr 1 (s' := (1, [(0, .ref a0), (1, .int x0), (2, .int x1)], [.ref a0], st_mm s)) rfl ?_
  refine bi_Tgi (o := 0) rfl rfl rfl (st_kS0 ha0) ?_
  refine bi_Tr 2 (s' := ((if (st_g s a0 4) < (40 : Int32) then 36 else 9), [(0, .ref a0), (1, .int x0), (2, .int x1)], [], st_mm s)) rfl (bi_Tif (fun hc => ?_) (fun hc => ?_))
  · have h := h.1 hc
    exact bi_Tww h rfl rfl ⟨rfl, rfl, rfl, trivial⟩
  · have h := h.2 hc
    refine bi_Tr 2 (s' := (12, [(0, .ref a0), (1, .int x0), (2, .int x1)], [.int (39 : Int32), .ref a0], st_mm s)) rfl ?_
    refine bi_Tpi rfl rfl rfl rfl (st_kS0 ha0) ?_
    refine bi_Tr 1 (s' := (16, [(0, .ref a0), (1, .int x0), (2, .int x1)], [.ref a0], st_mm (st_p s a0 4 (39 : Int32)))) rfl ?_
    refine bi_Tgr rfl rfl rfl (st_kS0 ha0) (st_pS5 ha0) ?_
    refine bi_Tr 2 (s' := (22, [(0, .ref a0), (1, .int x0), (2, .int x1)], [.ref a0, .int (6 : Int32), .ref (a0 + 3)], st_mm (st_p s a0 4 (39 : Int32)))) rfl ?_
    refine bi_Tgr rfl rfl rfl (st_kS0 ha0) (st_pS5 ha0) ?_
    refine bi_Tr 2 (s' := (27, [(0, .ref a0), (1, .int x0), (2, .int x1)], [.ref a0, .int (0 : Int32), .ref (a0 + 3), .int (6 : Int32), .ref (a0 + 3)], st_mm (st_p s a0 4 (39 : Int32)))) rfl ?_
    refine bi_Tgi (o := 0) rfl rfl rfl (st_kS0 ha0) ?_
    refine bi_Tr 2 (s' := (33, [(0, .ref a0), (1, .int x0), (2, .int x1)], [.int ((st_g (st_p s a0 4 (39 : Int32)) a0 4) * (6 : Int32)), .int (0 : Int32), .ref (a0 + 3), .int (6 : Int32), .ref (a0 + 3)], st_mm (st_p s a0 4 (39 : Int32)))) rfl ?_
    obtain ⟨hi, h⟩ := h
    refine bi_Tcpy (z := 0) rfl rfl (st_kS3 ha0) (st_kS3 ha0) rfl hi.1 hi.2.1 hi.2.2.1 hi.2.2.2.1 hi.2.2.2.2 ?_
    exact bi_Tww h rfl rfl ⟨rfl, rfl, rfl, trivial⟩
/-- PolicyRows$State.noteInsert([I)V -/
theorem en_X6_noteInsert {X : bi_X} {d : Nat} {K : bi_St → Prop} {E : Nat → bi_St → Prop} {s : bi_St} {a0 : Nat} (ha0 : st_isS a0) (h : (((16 : Int32) ≤ (st_g s a0 0)) → K s) ∧ (¬ ((16 : Int32) ≤ (st_g s a0 0)) → (((4 : Int32) ≤ (4 : Int32)) → (¬ (0 : Int32) < 0 ∧ ¬ ((st_g s a0 0) * (4 : Int32)) < 0 ∧ ¬ (4 : Int32) < 0 ∧ ((0 : Int32)).toNatClampNeg + ((4 : Int32)).toNatClampNeg ≤ 4 ∧ (((st_g s a0 0) * (4 : Int32))).toNatClampNeg + ((4 : Int32)).toNatClampNeg ≤ 64) ∧ (cI X d 76 [.ref a0, .int (0 : Int32), .int (st_g (st_cp s 59 ((0 : Int32)).toNatClampNeg (a0 + 1) (((st_g s a0 0) * (4 : Int32))).toNatClampNeg ((4 : Int32)).toNatClampNeg) a0 0)] (st_cp s 59 ((0 : Int32)).toNatClampNeg (a0 + 1) (((st_g s a0 0) * (4 : Int32))).toNatClampNeg ((4 : Int32)).toNatClampNeg) (fun (r1 : Int32) (s1 : bi_St) => K (st_p s1 a0 0 ((st_g s1 a0 0) + (1 : Int32)))) (fun _ _ => False))) ∧ (¬ ((4 : Int32) ≤ (4 : Int32)) → K s))) : cV X (d + 1) 77 [.ref a0, .ref 59] s K E := by
  show bi_T _ _ _ _ _
  refine bi_Tr 1 (s' := (1, [(0, .ref a0), (1, .ref 59)], [.ref a0], st_mm s)) rfl ?_
  refine bi_Tgi (o := 0) rfl rfl rfl (st_kS0 ha0) ?_
  refine bi_Tr 2 (s' := ((if (16 : Int32) ≤ (st_g s a0 0) then 15 else 9), [(0, .ref a0), (1, .ref 59)], [], st_mm s)) rfl (bi_Tif (fun hc => ?_) (fun hc => ?_))
  · have h := h.1 hc
    exact bi_Tv rfl rfl (Or.inl ⟨_, rfl, h⟩)
  · have h := h.2 hc
    refine bi_Tr 4 (s' := ((if (4 : Int32) ≤ (4 : Int32) then 16 else 15), [(0, .ref a0), (1, .ref 59)], [], st_mm s)) rfl (bi_Tif (fun hc => ?_) (fun hc => ?_))
    · have h := h.1 hc
      refine bi_Tr 3 (s' := (19, [(0, .ref a0), (1, .ref 59)], [.ref a0, .int (0 : Int32), .ref 59], st_mm s)) rfl ?_
      refine bi_Tgr rfl rfl rfl (st_kS0 ha0) (st_pS1 ha0) ?_
      refine bi_Tr 1 (s' := (23, [(0, .ref a0), (1, .ref 59)], [.ref a0, .ref (a0 + 1), .int (0 : Int32), .ref 59], st_mm s)) rfl ?_
      refine bi_Tgi (o := 0) rfl rfl rfl (st_kS0 ha0) ?_
      refine bi_Tr 3 (s' := (29, [(0, .ref a0), (1, .ref 59)], [.int (4 : Int32), .int ((st_g s a0 0) * (4 : Int32)), .ref (a0 + 1), .int (0 : Int32), .ref 59], st_mm s)) rfl ?_
      obtain ⟨hi, h⟩ := h
      refine bi_Tcpy (z := 0) rfl rfl rfl (st_kS1 ha0) rfl hi.1 hi.2.1 hi.2.2.1 hi.2.2.2.1 hi.2.2.2.2 ?_
      refine bi_Tr 3 (s' := (35, [(0, .ref a0), (1, .ref 59)], [.ref a0, .int (0 : Int32), .ref a0], st_mm (st_cp s 59 ((0 : Int32)).toNatClampNeg (a0 + 1) (((st_g s a0 0) * (4 : Int32))).toNatClampNeg ((4 : Int32)).toNatClampNeg))) rfl ?_
      refine bi_Tgi (o := 0) rfl rfl rfl (st_kS0 ha0) ?_
      refine bi_TcI (as := [.ref a0, .int (0 : Int32), .int (st_g (st_cp s 59 ((0 : Int32)).toNatClampNeg (a0 + 1) (((st_g s a0 0) * (4 : Int32))).toNatClampNeg ((4 : Int32)).toNatClampNeg) a0 0)]) (bi_TcO rfl rfl rfl (st_kS0 ha0) rfl rfl) rfl ?_
      refine cI.mono h (fun r1 s1 h => ?_) (fun _ _ h => h.elim)
      refine bi_Tr 3 (s' := (44, [(0, .ref a0), (1, .ref 59)], [.ref a0, .ref a0], st_mm s1)) rfl ?_
      refine bi_Tgi (o := 0) rfl rfl rfl (st_kS0 ha0) ?_
      refine bi_Tr 2 (s' := (49, [(0, .ref a0), (1, .ref 59)], [.int ((st_g s1 a0 0) + (1 : Int32)), .ref a0], st_mm s1)) rfl ?_
      refine bi_Tpi rfl rfl rfl rfl (st_kS0 ha0) ?_
      exact bi_Tv rfl rfl (Or.inl ⟨_, rfl, h⟩)
    · have h := h.2 hc
      exact bi_Tv rfl rfl (Or.inl ⟨_, rfl, h⟩)
/-- PolicyRows$State.noteUpdate(III)V -/
theorem en_X6_noteUpdate {X : bi_X} {d : Nat} {K : bi_St → Prop} {E : Nat → bi_St → Prop} {s : bi_St} {a0 : Nat} {x0 : Int32} {x1 : Int32} {x2 : Int32} (ha0 : st_isS a0) (h : cI X d 76 [.ref a0, .int (1 : Int32), .int x0] s (fun (r1 : Int32) (s1 : bi_St) => bi_in r1 240 = true ∧ (cI X d 74 [.ref a0, .int x0, .int x1] (st_p s1 (a0 + 3) (r1).toNatClampNeg x1) (fun (r2 : Int32) (s2 : bi_St) => bi_in (r1 + (1 : Int32)) 240 = true ∧ (cV X d 75 [.ref a0, .int x0, .int x1, .int x2] (st_p s2 (a0 + 3) ((r1 + (1 : Int32))).toNatClampNeg r2) (fun (s3 : bi_St) => K s3) (fun _ _ => False))) (fun _ _ => False))) (fun _ _ => False)) : cV X (d + 1) 78 [.ref a0, .int x0, .int x1, .int x2] s K E := by
  show bi_T _ _ _ _ _
  refine bi_Tr 3 (s' := (3, [(0, .ref a0), (1, .int x0), (2, .int x1), (3, .int x2)], [.int x0, .int (1 : Int32), .ref a0], st_mm s)) rfl ?_
  refine bi_TcI (as := [.ref a0, .int (1 : Int32), .int x0]) (bi_TcO rfl rfl rfl (st_kS0 ha0) rfl rfl) rfl ?_
  refine cI.mono h (fun r1 s1 h => ?_) (fun _ _ h => h.elim)
  refine bi_Tr 2 (s' := (9, [(4, .int r1), (0, .ref a0), (1, .int x0), (2, .int x1), (3, .int x2)], [.ref a0], st_mm s1)) rfl ?_
  refine bi_Tgr rfl rfl rfl (st_kS0 ha0) (st_pS5 ha0) ?_
  refine bi_Tr 2 (s' := (15, [(4, .int r1), (0, .ref a0), (1, .int x0), (2, .int x1), (3, .int x2)], [.int x1, .int r1, .ref (a0 + 3)], st_mm s1)) rfl ?_
  obtain ⟨hi, h⟩ := h
  refine bi_Tias rfl (st_kS3 ha0) hi ?_
  refine bi_Tr 1 (s' := (17, [(4, .int r1), (0, .ref a0), (1, .int x0), (2, .int x1), (3, .int x2)], [.ref a0], st_mm (st_p s1 (a0 + 3) (r1).toNatClampNeg x1))) rfl ?_
  refine bi_Tgr rfl rfl rfl (st_kS0 ha0) (st_pS5 ha0) ?_
  refine bi_Tr 6 (s' := (27, [(4, .int r1), (0, .ref a0), (1, .int x0), (2, .int x1), (3, .int x2)], [.int x1, .int x0, .ref a0, .int (r1 + (1 : Int32)), .ref (a0 + 3)], st_mm (st_p s1 (a0 + 3) (r1).toNatClampNeg x1))) rfl ?_
  refine bi_TcI (as := [.ref a0, .int x0, .int x1]) (bi_TcO rfl rfl rfl (st_kS0 ha0) rfl rfl) rfl ?_
  refine cI.mono h (fun r2 s2 h => ?_) (fun _ _ h => h.elim)
  obtain ⟨hi, h⟩ := h
  refine bi_Tias rfl (st_kS3 ha0) hi ?_
  refine bi_Tr 4 (s' := (35, [(4, .int r1), (0, .ref a0), (1, .int x0), (2, .int x1), (3, .int x2)], [.int x2, .int x1, .int x0, .ref a0], st_mm (st_p s2 (a0 + 3) ((r1 + (1 : Int32))).toNatClampNeg r2))) rfl ?_
  refine bi_TcV (as := [.ref a0, .int x0, .int x1, .int x2]) (bi_TcO rfl rfl rfl (st_kS0 ha0) rfl rfl) rfl ?_
  refine cV.mono h (fun s3 h => ?_) (fun _ _ h => h.elim)
  exact bi_Tv rfl rfl (Or.inl ⟨_, rfl, h⟩)
/-- PolicyRows$State.noteDelete(I)V -/
theorem en_X6_noteDelete {X : bi_X} {d : Nat} {K : bi_St → Prop} {E : Nat → bi_St → Prop} {s : bi_St} {a0 : Nat} {x0 : Int32} (ha0 : st_isS a0) (h : ((x0 < 0) → K s) ∧ (¬ (x0 < 0) → ((x0 < (st_g s a0 0)) → cI X d 76 [.ref a0, .int (2 : Int32), .int x0] s (fun (r1 : Int32) (s1 : bi_St) => (¬ (x0 * (4 : Int32)) < 0 ∧ ¬ r1 < 0 ∧ ¬ (4 : Int32) < 0 ∧ ((x0 * (4 : Int32))).toNatClampNeg + ((4 : Int32)).toNatClampNeg ≤ 64 ∧ (r1).toNatClampNeg + ((4 : Int32)).toNatClampNeg ≤ 240) ∧ ((¬ ((x0 * (4 : Int32)) + (4 : Int32)) < 0 ∧ ¬ (x0 * (4 : Int32)) < 0 ∧ ¬ (((st_g (st_p (st_cp s1 (a0 + 1) ((x0 * (4 : Int32))).toNatClampNeg (a0 + 3) (r1).toNatClampNeg ((4 : Int32)).toNatClampNeg) a0 0 ((st_g (st_cp s1 (a0 + 1) ((x0 * (4 : Int32))).toNatClampNeg (a0 + 3) (r1).toNatClampNeg ((4 : Int32)).toNatClampNeg) a0 0) - (1 : Int32))) a0 0) - x0) * (4 : Int32)) < 0 ∧ (((x0 * (4 : Int32)) + (4 : Int32))).toNatClampNeg + ((((st_g (st_p (st_cp s1 (a0 + 1) ((x0 * (4 : Int32))).toNatClampNeg (a0 + 3) (r1).toNatClampNeg ((4 : Int32)).toNatClampNeg) a0 0 ((st_g (st_cp s1 (a0 + 1) ((x0 * (4 : Int32))).toNatClampNeg (a0 + 3) (r1).toNatClampNeg ((4 : Int32)).toNatClampNeg) a0 0) - (1 : Int32))) a0 0) - x0) * (4 : Int32))).toNatClampNeg ≤ 64 ∧ ((x0 * (4 : Int32))).toNatClampNeg + ((((st_g (st_p (st_cp s1 (a0 + 1) ((x0 * (4 : Int32))).toNatClampNeg (a0 + 3) (r1).toNatClampNeg ((4 : Int32)).toNatClampNeg) a0 0 ((st_g (st_cp s1 (a0 + 1) ((x0 * (4 : Int32))).toNatClampNeg (a0 + 3) (r1).toNatClampNeg ((4 : Int32)).toNatClampNeg) a0 0) - (1 : Int32))) a0 0) - x0) * (4 : Int32))).toNatClampNeg ≤ 64) ∧ (K (st_cp (st_p (st_cp s1 (a0 + 1) ((x0 * (4 : Int32))).toNatClampNeg (a0 + 3) (r1).toNatClampNeg ((4 : Int32)).toNatClampNeg) a0 0 ((st_g (st_cp s1 (a0 + 1) ((x0 * (4 : Int32))).toNatClampNeg (a0 + 3) (r1).toNatClampNeg ((4 : Int32)).toNatClampNeg) a0 0) - (1 : Int32))) (a0 + 1) (((x0 * (4 : Int32)) + (4 : Int32))).toNatClampNeg (a0 + 1) ((x0 * (4 : Int32))).toNatClampNeg ((((st_g (st_p (st_cp s1 (a0 + 1) ((x0 * (4 : Int32))).toNatClampNeg (a0 + 3) (r1).toNatClampNeg ((4 : Int32)).toNatClampNeg) a0 0 ((st_g (st_cp s1 (a0 + 1) ((x0 * (4 : Int32))).toNatClampNeg (a0 + 3) (r1).toNatClampNeg ((4 : Int32)).toNatClampNeg) a0 0) - (1 : Int32))) a0 0) - x0) * (4 : Int32))).toNatClampNeg)))) (fun _ _ => False)) ∧ (¬ (x0 < (st_g s a0 0)) → K s))) : cV X (d + 1) 79 [.ref a0, .int x0] s K E := by
  show bi_T _ _ _ _ _
  refine bi_Tr 2 (s' := ((if x0 < 0 then 12 else 4), [(0, .ref a0), (1, .int x0)], [], st_mm s)) rfl (bi_Tif (fun hc => ?_) (fun hc => ?_))
  · have h := h.1 hc
    exact bi_Tv rfl rfl (Or.inl ⟨_, rfl, h⟩)
  · have h := h.2 hc
    refine bi_Tr 2 (s' := (6, [(0, .ref a0), (1, .int x0)], [.ref a0, .int x0], st_mm s)) rfl ?_
    refine bi_Tgi (o := 0) rfl rfl rfl (st_kS0 ha0) ?_
    refine bi_Tr 1 (s' := ((if x0 < (st_g s a0 0) then 13 else 12), [(0, .ref a0), (1, .int x0)], [], st_mm s)) rfl (bi_Tif (fun hc => ?_) (fun hc => ?_))
    · have h := h.1 hc
      refine bi_Tr 3 (s' := (16, [(0, .ref a0), (1, .int x0)], [.int x0, .int (2 : Int32), .ref a0], st_mm s)) rfl ?_
      refine bi_TcI (as := [.ref a0, .int (2 : Int32), .int x0]) (bi_TcO rfl rfl rfl (st_kS0 ha0) rfl rfl) rfl ?_
      refine cI.mono h (fun r1 s1 h => ?_) (fun _ _ h => h.elim)
      refine bi_Tr 6 (s' := (25, [(3, .int (x0 * (4 : Int32))), (2, .int r1), (0, .ref a0), (1, .int x0)], [.ref a0], st_mm s1)) rfl ?_
      refine bi_Tgr rfl rfl rfl (st_kS0 ha0) (st_pS1 ha0) ?_
      refine bi_Tr 2 (s' := (30, [(3, .int (x0 * (4 : Int32))), (2, .int r1), (0, .ref a0), (1, .int x0)], [.ref a0, .int (x0 * (4 : Int32)), .ref (a0 + 1)], st_mm s1)) rfl ?_
      refine bi_Tgr rfl rfl rfl (st_kS0 ha0) (st_pS5 ha0) ?_
      refine bi_Tr 2 (s' := (35, [(3, .int (x0 * (4 : Int32))), (2, .int r1), (0, .ref a0), (1, .int x0)], [.int (4 : Int32), .int r1, .ref (a0 + 3), .int (x0 * (4 : Int32)), .ref (a0 + 1)], st_mm s1)) rfl ?_
      obtain ⟨hi, h⟩ := h
      refine bi_Tcpy (z := 0) rfl rfl (st_kS1 ha0) (st_kS3 ha0) rfl hi.1 hi.2.1 hi.2.2.1 hi.2.2.2.1 hi.2.2.2.2 ?_
      refine bi_Tr 2 (s' := (40, [(3, .int (x0 * (4 : Int32))), (2, .int r1), (0, .ref a0), (1, .int x0)], [.ref a0, .ref a0], st_mm (st_cp s1 (a0 + 1) ((x0 * (4 : Int32))).toNatClampNeg (a0 + 3) (r1).toNatClampNeg ((4 : Int32)).toNatClampNeg))) rfl ?_
      refine bi_Tgi (o := 0) rfl rfl rfl (st_kS0 ha0) ?_
      refine bi_Tr 2 (s' := (45, [(3, .int (x0 * (4 : Int32))), (2, .int r1), (0, .ref a0), (1, .int x0)], [.int ((st_g (st_cp s1 (a0 + 1) ((x0 * (4 : Int32))).toNatClampNeg (a0 + 3) (r1).toNatClampNeg ((4 : Int32)).toNatClampNeg) a0 0) - (1 : Int32)), .ref a0], st_mm (st_cp s1 (a0 + 1) ((x0 * (4 : Int32))).toNatClampNeg (a0 + 3) (r1).toNatClampNeg ((4 : Int32)).toNatClampNeg))) rfl ?_
      refine bi_Tpi rfl rfl rfl rfl (st_kS0 ha0) ?_
      refine bi_Tr 1 (s' := (49, [(3, .int (x0 * (4 : Int32))), (2, .int r1), (0, .ref a0), (1, .int x0)], [.ref a0], st_mm (st_p (st_cp s1 (a0 + 1) ((x0 * (4 : Int32))).toNatClampNeg (a0 + 3) (r1).toNatClampNeg ((4 : Int32)).toNatClampNeg) a0 0 ((st_g (st_cp s1 (a0 + 1) ((x0 * (4 : Int32))).toNatClampNeg (a0 + 3) (r1).toNatClampNeg ((4 : Int32)).toNatClampNeg) a0 0) - (1 : Int32))))) rfl ?_
      refine bi_Tgr rfl rfl rfl (st_kS0 ha0) (st_pS1 ha0) ?_
      refine bi_Tr 4 (s' := (56, [(3, .int (x0 * (4 : Int32))), (2, .int r1), (0, .ref a0), (1, .int x0)], [.ref a0, .int ((x0 * (4 : Int32)) + (4 : Int32)), .ref (a0 + 1)], st_mm (st_p (st_cp s1 (a0 + 1) ((x0 * (4 : Int32))).toNatClampNeg (a0 + 3) (r1).toNatClampNeg ((4 : Int32)).toNatClampNeg) a0 0 ((st_g (st_cp s1 (a0 + 1) ((x0 * (4 : Int32))).toNatClampNeg (a0 + 3) (r1).toNatClampNeg ((4 : Int32)).toNatClampNeg) a0 0) - (1 : Int32))))) rfl ?_
      refine bi_Tgr rfl rfl rfl (st_kS0 ha0) (st_pS1 ha0) ?_
      refine bi_Tr 2 (s' := (61, [(3, .int (x0 * (4 : Int32))), (2, .int r1), (0, .ref a0), (1, .int x0)], [.ref a0, .int (x0 * (4 : Int32)), .ref (a0 + 1), .int ((x0 * (4 : Int32)) + (4 : Int32)), .ref (a0 + 1)], st_mm (st_p (st_cp s1 (a0 + 1) ((x0 * (4 : Int32))).toNatClampNeg (a0 + 3) (r1).toNatClampNeg ((4 : Int32)).toNatClampNeg) a0 0 ((st_g (st_cp s1 (a0 + 1) ((x0 * (4 : Int32))).toNatClampNeg (a0 + 3) (r1).toNatClampNeg ((4 : Int32)).toNatClampNeg) a0 0) - (1 : Int32))))) rfl ?_
      refine bi_Tgi (o := 0) rfl rfl rfl (st_kS0 ha0) ?_
      refine bi_Tr 4 (s' := (68, [(3, .int (x0 * (4 : Int32))), (2, .int r1), (0, .ref a0), (1, .int x0)], [.int (((st_g (st_p (st_cp s1 (a0 + 1) ((x0 * (4 : Int32))).toNatClampNeg (a0 + 3) (r1).toNatClampNeg ((4 : Int32)).toNatClampNeg) a0 0 ((st_g (st_cp s1 (a0 + 1) ((x0 * (4 : Int32))).toNatClampNeg (a0 + 3) (r1).toNatClampNeg ((4 : Int32)).toNatClampNeg) a0 0) - (1 : Int32))) a0 0) - x0) * (4 : Int32)), .int (x0 * (4 : Int32)), .ref (a0 + 1), .int ((x0 * (4 : Int32)) + (4 : Int32)), .ref (a0 + 1)], st_mm (st_p (st_cp s1 (a0 + 1) ((x0 * (4 : Int32))).toNatClampNeg (a0 + 3) (r1).toNatClampNeg ((4 : Int32)).toNatClampNeg) a0 0 ((st_g (st_cp s1 (a0 + 1) ((x0 * (4 : Int32))).toNatClampNeg (a0 + 3) (r1).toNatClampNeg ((4 : Int32)).toNatClampNeg) a0 0) - (1 : Int32))))) rfl ?_
      obtain ⟨hi, h⟩ := h
      refine bi_Tcpy (z := 0) rfl rfl (st_kS1 ha0) (st_kS1 ha0) rfl hi.1 hi.2.1 hi.2.2.1 hi.2.2.2.1 hi.2.2.2.2 ?_
      exact bi_Tv rfl rfl (Or.inl ⟨_, rfl, h⟩)
    · have h := h.2 hc
      exact bi_Tv rfl rfl (Or.inl ⟨_, rfl, h⟩)
/-- PolicyRows$State.noteGift(II)V -/
theorem en_X6_noteGift {X : bi_X} {d : Nat} {K : bi_St → Prop} {E : Nat → bi_St → Prop} {s : bi_St} {a0 : Nat} {x0 : Int32} {x1 : Int32} (ha0 : st_isS a0) (h : cI X d 76 [.ref a0, .int (3 : Int32), .int x0] s (fun (r1 : Int32) (s1 : bi_St) => bi_in r1 240 = true ∧ (bi_in x0 6 = true ∧ (bi_in x0 6 = true ∧ (K (st_p (st_p s1 (a0 + 3) (r1).toNatClampNeg x1) (a0 + 2) (x0).toNatClampNeg ((st_g (st_p s1 (a0 + 3) (r1).toNatClampNeg x1) (a0 + 2) (x0).toNatClampNeg) ^^^ ((1 : Int32) <<< (x1 &&& 31)))))))) (fun _ _ => False)) : cV X (d + 1) 80 [.ref a0, .int x0, .int x1] s K E := by
  show bi_T _ _ _ _ _
  refine bi_Tr 3 (s' := (3, [(0, .ref a0), (1, .int x0), (2, .int x1)], [.int x0, .int (3 : Int32), .ref a0], st_mm s)) rfl ?_
  refine bi_TcI (as := [.ref a0, .int (3 : Int32), .int x0]) (bi_TcO rfl rfl rfl (st_kS0 ha0) rfl rfl) rfl ?_
  refine cI.mono h (fun r1 s1 h => ?_) (fun _ _ h => h.elim)
  refine bi_Tr 2 (s' := (8, [(3, .int r1), (0, .ref a0), (1, .int x0), (2, .int x1)], [.ref a0], st_mm s1)) rfl ?_
  refine bi_Tgr rfl rfl rfl (st_kS0 ha0) (st_pS5 ha0) ?_
  refine bi_Tr 2 (s' := (13, [(3, .int r1), (0, .ref a0), (1, .int x0), (2, .int x1)], [.int x1, .int r1, .ref (a0 + 3)], st_mm s1)) rfl ?_
  obtain ⟨hi, h⟩ := h
  refine bi_Tias rfl (st_kS3 ha0) hi ?_
  refine bi_Tr 1 (s' := (15, [(3, .int r1), (0, .ref a0), (1, .int x0), (2, .int x1)], [.ref a0], st_mm (st_p s1 (a0 + 3) (r1).toNatClampNeg x1))) rfl ?_
  refine bi_Tgr rfl rfl rfl (st_kS0 ha0) (st_pS2 ha0) ?_
  refine bi_Tr 2 (s' := (20, [(3, .int r1), (0, .ref a0), (1, .int x0), (2, .int x1)], [.int x0, .ref (a0 + 2), .int x0, .ref (a0 + 2)], st_mm (st_p s1 (a0 + 3) (r1).toNatClampNeg x1))) rfl ?_
  obtain ⟨hi, h⟩ := h
  refine bi_Tial rfl (by have := ha0; simp only [st_isS] at this; rcases this with h | h | h | h <;> rw [h] <;> rfl) (st_kS2 ha0) hi ?_
  refine bi_Tr 4 (s' := (25, [(3, .int r1), (0, .ref a0), (1, .int x0), (2, .int x1)], [.int ((st_g (st_p s1 (a0 + 3) (r1).toNatClampNeg x1) (a0 + 2) (x0).toNatClampNeg) ^^^ ((1 : Int32) <<< (x1 &&& 31))), .int x0, .ref (a0 + 2)], st_mm (st_p s1 (a0 + 3) (r1).toNatClampNeg x1))) rfl ?_
  obtain ⟨hi, h⟩ := h
  refine bi_Tias rfl (st_kS2 ha0) hi ?_
  exact bi_Tv rfl rfl (Or.inl ⟨_, rfl, h⟩)
/-- PolicyRows$State.noteSwitch(I)V -/
theorem en_X6_noteSwitch {X : bi_X} {d : Nat} {K : bi_St → Prop} {E : Nat → bi_St → Prop} {s : bi_St} {a0 : Nat} {x0 : Int32} (ha0 : st_isS a0) (h : cI X d 76 [.ref a0, .int (4 : Int32), .int x0] s (fun (r1 : Int32) (s1 : bi_St) => K (st_p s1 a0 3 ((st_g s1 a0 3) ^^^ ((1 : Int32) <<< (x0 &&& 31))))) (fun _ _ => False)) : cV X (d + 1) 81 [.ref a0, .int x0] s K E := by
  show bi_T _ _ _ _ _
  refine bi_Tr 3 (s' := (3, [(0, .ref a0), (1, .int x0)], [.int x0, .int (4 : Int32), .ref a0], st_mm s)) rfl ?_
  refine bi_TcI (as := [.ref a0, .int (4 : Int32), .int x0]) (bi_TcO rfl rfl rfl (st_kS0 ha0) rfl rfl) rfl ?_
  refine cI.mono h (fun r1 s1 h => ?_) (fun _ _ h => h.elim)
  refine bi_Tr 3 (s' := (9, [(0, .ref a0), (1, .int x0)], [.ref a0, .ref a0], st_mm s1)) rfl ?_
  refine bi_Tgi (o := 0) rfl rfl rfl (st_kS0 ha0) ?_
  refine bi_Tr 4 (s' := (16, [(0, .ref a0), (1, .int x0)], [.int ((st_g s1 a0 3) ^^^ ((1 : Int32) <<< (x0 &&& 31))), .ref a0], st_mm s1)) rfl ?_
  refine bi_Tpi rfl rfl rfl rfl (st_kS0 ha0) ?_
  exact bi_Tv rfl rfl (Or.inl ⟨_, rfl, h⟩)
def at_X6_takeBack_166 (X : bi_X) (d : Nat) (K : Int32 → bi_St → Prop) (E : Nat → bi_St → Prop) (s : bi_St)  : Prop := bi_T X d 82 (166, [], [], st_mm s) (st_RI K E)
theorem go_X6_takeBack_166 {X : bi_X} {d : Nat} {K : Int32 → bi_St → Prop} {E : Nat → bi_St → Prop}  {s : bi_St}   (h : K (1 : Int32) s) : at_X6_takeBack_166 X (d + 1) K E s  := by
  show bi_T _ _ _ _ _
  refine bi_Tr 1 (s' := (167, [], [.int (1 : Int32)], st_mm s)) rfl ?_
  exact bi_Tv rfl rfl (Or.inl ⟨_, _, rfl, h⟩)
/-- PolicyRows$State.takeBack()Z -/
theorem en_X6_takeBack {X : bi_X} {d : Nat} {K : Int32 → bi_St → Prop} {E : Nat → bi_St → Prop} {s : bi_St} {a0 : Nat} (ha0 : st_isS a0) (h : (((1 : Int32) ≤ (st_g s a0 4)) → bi_in ((((st_g (st_p s a0 4 ((st_g s a0 4) - (1 : Int32))) a0 4) * (6 : Int32)) + (2 : Int32)) - (1 : Int32)) 240 = true ∧ (bi_in ((((st_g (st_p s a0 4 ((st_g s a0 4) - (1 : Int32))) a0 4) * (6 : Int32)) + (2 : Int32)) - (2 : Int32)) 240 = true ∧ ((((st_g (st_p s a0 4 ((st_g s a0 4) - (1 : Int32))) (a0 + 3) (((((st_g (st_p s a0 4 ((st_g s a0 4) - (1 : Int32))) a0 4) * (6 : Int32)) + (2 : Int32)) - (2 : Int32))).toNatClampNeg) = (0 : Int32)) → cI X d 269 [.int ((st_g (st_p s a0 4 ((st_g s a0 4) - (1 : Int32))) a0 0) - (1 : Int32)), .int (0 : Int32)] (st_p s a0 4 ((st_g s a0 4) - (1 : Int32))) (fun (r1 : Int32) (s1 : bi_St) => at_X6_takeBack_166 X (d + 1) K E (st_p s1 a0 0 r1)) (fun _ _ => False)) ∧ (¬ ((st_g (st_p s a0 4 ((st_g s a0 4) - (1 : Int32))) (a0 + 3) (((((st_g (st_p s a0 4 ((st_g s a0 4) - (1 : Int32))) a0 4) * (6 : Int32)) + (2 : Int32)) - (2 : Int32))).toNatClampNeg) = (0 : Int32)) → (((st_g (st_p s a0 4 ((st_g s a0 4) - (1 : Int32))) (a0 + 3) (((((st_g (st_p s a0 4 ((st_g s a0 4) - (1 : Int32))) a0 4) * (6 : Int32)) + (2 : Int32)) - (2 : Int32))).toNatClampNeg) = (1 : Int32)) → bi_in (((st_g (st_p s a0 4 ((st_g s a0 4) - (1 : Int32))) a0 4) * (6 : Int32)) + (2 : Int32)) 240 = true ∧ (bi_in ((((st_g (st_p s a0 4 ((st_g s a0 4) - (1 : Int32))) a0 4) * (6 : Int32)) + (2 : Int32)) + (1 : Int32)) 240 = true ∧ (cV X d 75 [.ref a0, .int (st_g (st_p s a0 4 ((st_g s a0 4) - (1 : Int32))) (a0 + 3) (((((st_g (st_p s a0 4 ((st_g s a0 4) - (1 : Int32))) a0 4) * (6 : Int32)) + (2 : Int32)) - (1 : Int32))).toNatClampNeg), .int (st_g (st_p s a0 4 ((st_g s a0 4) - (1 : Int32))) (a0 + 3) ((((st_g (st_p s a0 4 ((st_g s a0 4) - (1 : Int32))) a0 4) * (6 : Int32)) + (2 : Int32))).toNatClampNeg), .int (st_g (st_p s a0 4 ((st_g s a0 4) - (1 : Int32))) (a0 + 3) (((((st_g (st_p s a0 4 ((st_g s a0 4) - (1 : Int32))) a0 4) * (6 : Int32)) + (2 : Int32)) + (1 : Int32))).toNatClampNeg)] (st_p s a0 4 ((st_g s a0 4) - (1 : Int32))) (fun (s2 : bi_St) => at_X6_takeBack_166 X (d + 1) K E s2) (fun _ _ => False)))) ∧ (¬ ((st_g (st_p s a0 4 ((st_g s a0 4) - (1 : Int32))) (a0 + 3) (((((st_g (st_p s a0 4 ((st_g s a0 4) - (1 : Int32))) a0 4) * (6 : Int32)) + (2 : Int32)) - (2 : Int32))).toNatClampNeg) = (1 : Int32)) → (((st_g (st_p s a0 4 ((st_g s a0 4) - (1 : Int32))) (a0 + 3) (((((st_g (st_p s a0 4 ((st_g s a0 4) - (1 : Int32))) a0 4) * (6 : Int32)) + (2 : Int32)) - (2 : Int32))).toNatClampNeg) = (2 : Int32)) → cV X d 83 [.ref a0, .int (st_g (st_p s a0 4 ((st_g s a0 4) - (1 : Int32))) (a0 + 3) (((((st_g (st_p s a0 4 ((st_g s a0 4) - (1 : Int32))) a0 4) * (6 : Int32)) + (2 : Int32)) - (1 : Int32))).toNatClampNeg), .int (((st_g (st_p s a0 4 ((st_g s a0 4) - (1 : Int32))) a0 4) * (6 : Int32)) + (2 : Int32))] (st_p s a0 4 ((st_g s a0 4) - (1 : Int32))) (fun (s3 : bi_St) => at_X6_takeBack_166 X (d + 1) K E s3) (fun _ _ => False)) ∧ (¬ ((st_g (st_p s a0 4 ((st_g s a0 4) - (1 : Int32))) (a0 + 3) (((((st_g (st_p s a0 4 ((st_g s a0 4) - (1 : Int32))) a0 4) * (6 : Int32)) + (2 : Int32)) - (2 : Int32))).toNatClampNeg) = (2 : Int32)) → (((st_g (st_p s a0 4 ((st_g s a0 4) - (1 : Int32))) (a0 + 3) (((((st_g (st_p s a0 4 ((st_g s a0 4) - (1 : Int32))) a0 4) * (6 : Int32)) + (2 : Int32)) - (2 : Int32))).toNatClampNeg) = (3 : Int32)) → (((st_g (st_p s a0 4 ((st_g s a0 4) - (1 : Int32))) (a0 + 3) (((((st_g (st_p s a0 4 ((st_g s a0 4) - (1 : Int32))) a0 4) * (6 : Int32)) + (2 : Int32)) - (1 : Int32))).toNatClampNeg) < 0) → at_X6_takeBack_166 X (d + 1) K E (st_p s a0 4 ((st_g s a0 4) - (1 : Int32)))) ∧ (¬ ((st_g (st_p s a0 4 ((st_g s a0 4) - (1 : Int32))) (a0 + 3) (((((st_g (st_p s a0 4 ((st_g s a0 4) - (1 : Int32))) a0 4) * (6 : Int32)) + (2 : Int32)) - (1 : Int32))).toNatClampNeg) < 0) → (((6 : Int32) ≤ (st_g (st_p s a0 4 ((st_g s a0 4) - (1 : Int32))) (a0 + 3) (((((st_g (st_p s a0 4 ((st_g s a0 4) - (1 : Int32))) a0 4) * (6 : Int32)) + (2 : Int32)) - (1 : Int32))).toNatClampNeg)) → at_X6_takeBack_166 X (d + 1) K E (st_p s a0 4 ((st_g s a0 4) - (1 : Int32)))) ∧ (¬ ((6 : Int32) ≤ (st_g (st_p s a0 4 ((st_g s a0 4) - (1 : Int32))) (a0 + 3) (((((st_g (st_p s a0 4 ((st_g s a0 4) - (1 : Int32))) a0 4) * (6 : Int32)) + (2 : Int32)) - (1 : Int32))).toNatClampNeg)) → bi_in (st_g (st_p s a0 4 ((st_g s a0 4) - (1 : Int32))) (a0 + 3) (((((st_g (st_p s a0 4 ((st_g s a0 4) - (1 : Int32))) a0 4) * (6 : Int32)) + (2 : Int32)) - (1 : Int32))).toNatClampNeg) 6 = true ∧ (bi_in (((st_g (st_p s a0 4 ((st_g s a0 4) - (1 : Int32))) a0 4) * (6 : Int32)) + (2 : Int32)) 240 = true ∧ (bi_in (st_g (st_p s a0 4 ((st_g s a0 4) - (1 : Int32))) (a0 + 3) (((((st_g (st_p s a0 4 ((st_g s a0 4) - (1 : Int32))) a0 4) * (6 : Int32)) + (2 : Int32)) - (1 : Int32))).toNatClampNeg) 6 = true ∧ (at_X6_takeBack_166 X (d + 1) K E (st_p (st_p s a0 4 ((st_g s a0 4) - (1 : Int32))) (a0 + 2) ((st_g (st_p s a0 4 ((st_g s a0 4) - (1 : Int32))) (a0 + 3) (((((st_g (st_p s a0 4 ((st_g s a0 4) - (1 : Int32))) a0 4) * (6 : Int32)) + (2 : Int32)) - (1 : Int32))).toNatClampNeg)).toNatClampNeg ((st_g (st_p s a0 4 ((st_g s a0 4) - (1 : Int32))) (a0 + 2) ((st_g (st_p s a0 4 ((st_g s a0 4) - (1 : Int32))) (a0 + 3) (((((st_g (st_p s a0 4 ((st_g s a0 4) - (1 : Int32))) a0 4) * (6 : Int32)) + (2 : Int32)) - (1 : Int32))).toNatClampNeg)).toNatClampNeg) ^^^ ((1 : Int32) <<< ((st_g (st_p s a0 4 ((st_g s a0 4) - (1 : Int32))) (a0 + 3) ((((st_g (st_p s a0 4 ((st_g s a0 4) - (1 : Int32))) a0 4) * (6 : Int32)) + (2 : Int32))).toNatClampNeg) &&& 31)))))))))) ∧ (¬ ((st_g (st_p s a0 4 ((st_g s a0 4) - (1 : Int32))) (a0 + 3) (((((st_g (st_p s a0 4 ((st_g s a0 4) - (1 : Int32))) a0 4) * (6 : Int32)) + (2 : Int32)) - (2 : Int32))).toNatClampNeg) = (3 : Int32)) → at_X6_takeBack_166 X (d + 1) K E (st_p (st_p s a0 4 ((st_g s a0 4) - (1 : Int32))) a0 3 ((st_g (st_p s a0 4 ((st_g s a0 4) - (1 : Int32))) a0 3) ^^^ ((1 : Int32) <<< ((st_g (st_p s a0 4 ((st_g s a0 4) - (1 : Int32))) (a0 + 3) (((((st_g (st_p s a0 4 ((st_g s a0 4) - (1 : Int32))) a0 4) * (6 : Int32)) + (2 : Int32)) - (1 : Int32))).toNatClampNeg) &&& 31))))))))))) ∧ (¬ ((1 : Int32) ≤ (st_g s a0 4)) → K (0 : Int32) s)) : cI X (d + 1) 82 [.ref a0] s K E := by
  show bi_T _ _ _ _ _
  refine bi_Tr 1 (s' := (1, [(0, .ref a0)], [.ref a0], st_mm s)) rfl ?_
  refine bi_Tgi (o := 0) rfl rfl rfl (st_kS0 ha0) ?_
  refine bi_Tr 2 (s' := ((if (1 : Int32) ≤ (st_g s a0 4) then 10 else 8), [(0, .ref a0)], [], st_mm s)) rfl (bi_Tif (fun hc => ?_) (fun hc => ?_))
  · have h := h.1 hc
    refine bi_Tr 2 (s' := (12, [(0, .ref a0)], [.ref a0, .ref a0], st_mm s)) rfl ?_
    refine bi_Tgi (o := 0) rfl rfl rfl (st_kS0 ha0) ?_
    refine bi_Tr 2 (s' := (17, [(0, .ref a0)], [.int ((st_g s a0 4) - (1 : Int32)), .ref a0], st_mm s)) rfl ?_
    refine bi_Tpi rfl rfl rfl rfl (st_kS0 ha0) ?_
    refine bi_Tr 1 (s' := (21, [(0, .ref a0)], [.ref a0], st_mm (st_p s a0 4 ((st_g s a0 4) - (1 : Int32))))) rfl ?_
    refine bi_Tgi (o := 0) rfl rfl rfl (st_kS0 ha0) ?_
    refine bi_Tr 6 (s' := (31, [(1, .int (((st_g (st_p s a0 4 ((st_g s a0 4) - (1 : Int32))) a0 4) * (6 : Int32)) + (2 : Int32))), (0, .ref a0)], [.ref a0], st_mm (st_p s a0 4 ((st_g s a0 4) - (1 : Int32))))) rfl ?_
    refine bi_Tgr rfl rfl rfl (st_kS0 ha0) (st_pS5 ha0) ?_
    refine bi_Tr 3 (s' := (37, [(1, .int (((st_g (st_p s a0 4 ((st_g s a0 4) - (1 : Int32))) a0 4) * (6 : Int32)) + (2 : Int32))), (0, .ref a0)], [.int ((((st_g (st_p s a0 4 ((st_g s a0 4) - (1 : Int32))) a0 4) * (6 : Int32)) + (2 : Int32)) - (1 : Int32)), .ref (a0 + 3)], st_mm (st_p s a0 4 ((st_g s a0 4) - (1 : Int32))))) rfl ?_
    obtain ⟨hi, h⟩ := h
    refine bi_Tial rfl (by have := ha0; simp only [st_isS] at this; rcases this with h | h | h | h <;> rw [h] <;> rfl) (st_kS3 ha0) hi ?_
    refine bi_Tr 2 (s' := (40, [(2, .int (st_g (st_p s a0 4 ((st_g s a0 4) - (1 : Int32))) (a0 + 3) (((((st_g (st_p s a0 4 ((st_g s a0 4) - (1 : Int32))) a0 4) * (6 : Int32)) + (2 : Int32)) - (1 : Int32))).toNatClampNeg)), (1, .int (((st_g (st_p s a0 4 ((st_g s a0 4) - (1 : Int32))) a0 4) * (6 : Int32)) + (2 : Int32))), (0, .ref a0)], [.ref a0], st_mm (st_p s a0 4 ((st_g s a0 4) - (1 : Int32))))) rfl ?_
    refine bi_Tgr rfl rfl rfl (st_kS0 ha0) (st_pS5 ha0) ?_
    refine bi_Tr 3 (s' := (46, [(2, .int (st_g (st_p s a0 4 ((st_g s a0 4) - (1 : Int32))) (a0 + 3) (((((st_g (st_p s a0 4 ((st_g s a0 4) - (1 : Int32))) a0 4) * (6 : Int32)) + (2 : Int32)) - (1 : Int32))).toNatClampNeg)), (1, .int (((st_g (st_p s a0 4 ((st_g s a0 4) - (1 : Int32))) a0 4) * (6 : Int32)) + (2 : Int32))), (0, .ref a0)], [.int ((((st_g (st_p s a0 4 ((st_g s a0 4) - (1 : Int32))) a0 4) * (6 : Int32)) + (2 : Int32)) - (2 : Int32)), .ref (a0 + 3)], st_mm (st_p s a0 4 ((st_g s a0 4) - (1 : Int32))))) rfl ?_
    obtain ⟨hi, h⟩ := h
    refine bi_Tial rfl (by have := ha0; simp only [st_isS] at this; rcases this with h | h | h | h <;> rw [h] <;> rfl) (st_kS3 ha0) hi ?_
    refine bi_Tsw rfl (fun t ht => ?_) (bi_swn (b := 154) rfl (by decide) (by decide))
    by_cases hc : (st_g (st_p s a0 4 ((st_g s a0 4) - (1 : Int32))) (a0 + 3) (((((st_g (st_p s a0 4 ((st_g s a0 4) - (1 : Int32))) a0 4) * (6 : Int32)) + (2 : Int32)) - (2 : Int32))).toNatClampNeg) = (0 : Int32)
    · rw [hc] at ht; cases ht
      have h := h.1 hc
      refine bi_Tr 2 (s' := (78, [(2, .int (st_g (st_p s a0 4 ((st_g s a0 4) - (1 : Int32))) (a0 + 3) (((((st_g (st_p s a0 4 ((st_g s a0 4) - (1 : Int32))) a0 4) * (6 : Int32)) + (2 : Int32)) - (1 : Int32))).toNatClampNeg)), (1, .int (((st_g (st_p s a0 4 ((st_g s a0 4) - (1 : Int32))) a0 4) * (6 : Int32)) + (2 : Int32))), (0, .ref a0)], [.ref a0, .ref a0], st_mm (st_p s a0 4 ((st_g s a0 4) - (1 : Int32))))) rfl ?_
      refine bi_Tgi (o := 0) rfl rfl rfl (st_kS0 ha0) ?_
      refine bi_Tr 3 (s' := (84, [(2, .int (st_g (st_p s a0 4 ((st_g s a0 4) - (1 : Int32))) (a0 + 3) (((((st_g (st_p s a0 4 ((st_g s a0 4) - (1 : Int32))) a0 4) * (6 : Int32)) + (2 : Int32)) - (1 : Int32))).toNatClampNeg)), (1, .int (((st_g (st_p s a0 4 ((st_g s a0 4) - (1 : Int32))) a0 4) * (6 : Int32)) + (2 : Int32))), (0, .ref a0)], [.int (0 : Int32), .int ((st_g (st_p s a0 4 ((st_g s a0 4) - (1 : Int32))) a0 0) - (1 : Int32)), .ref a0], st_mm (st_p s a0 4 ((st_g s a0 4) - (1 : Int32))))) rfl ?_
      refine bi_TcI (as := [.int ((st_g (st_p s a0 4 ((st_g s a0 4) - (1 : Int32))) a0 0) - (1 : Int32)), .int (0 : Int32)]) rfl rfl ?_
      refine cI.mono h (fun r1 s1 h => ?_) (fun _ _ h => h.elim)
      refine bi_Tpi rfl rfl rfl rfl (st_kS0 ha0) ?_
      refine bi_Tr 1 (s' := (166, [(2, .int (st_g (st_p s a0 4 ((st_g s a0 4) - (1 : Int32))) (a0 + 3) (((((st_g (st_p s a0 4 ((st_g s a0 4) - (1 : Int32))) a0 4) * (6 : Int32)) + (2 : Int32)) - (1 : Int32))).toNatClampNeg)), (1, .int (((st_g (st_p s a0 4 ((st_g s a0 4) - (1 : Int32))) a0 4) * (6 : Int32)) + (2 : Int32))), (0, .ref a0)], [], st_mm (st_p s1 a0 0 r1))) rfl ?_
      exact bi_Tww h rfl rfl trivial
    have h := h.2 hc
    have hn0 := lv_neT hc (a := 0) rfl
    by_cases hc : (st_g (st_p s a0 4 ((st_g s a0 4) - (1 : Int32))) (a0 + 3) (((((st_g (st_p s a0 4 ((st_g s a0 4) - (1 : Int32))) a0 4) * (6 : Int32)) + (2 : Int32)) - (2 : Int32))).toNatClampNeg) = (1 : Int32)
    · rw [hc] at ht; cases ht
      have h := h.1 hc
      refine bi_Tr 3 (s' := (96, [(2, .int (st_g (st_p s a0 4 ((st_g s a0 4) - (1 : Int32))) (a0 + 3) (((((st_g (st_p s a0 4 ((st_g s a0 4) - (1 : Int32))) a0 4) * (6 : Int32)) + (2 : Int32)) - (1 : Int32))).toNatClampNeg)), (1, .int (((st_g (st_p s a0 4 ((st_g s a0 4) - (1 : Int32))) a0 4) * (6 : Int32)) + (2 : Int32))), (0, .ref a0)], [.ref a0, .int (st_g (st_p s a0 4 ((st_g s a0 4) - (1 : Int32))) (a0 + 3) (((((st_g (st_p s a0 4 ((st_g s a0 4) - (1 : Int32))) a0 4) * (6 : Int32)) + (2 : Int32)) - (1 : Int32))).toNatClampNeg), .ref a0], st_mm (st_p s a0 4 ((st_g s a0 4) - (1 : Int32))))) rfl ?_
      refine bi_Tgr rfl rfl rfl (st_kS0 ha0) (st_pS5 ha0) ?_
      refine bi_Tr 1 (s' := (100, [(2, .int (st_g (st_p s a0 4 ((st_g s a0 4) - (1 : Int32))) (a0 + 3) (((((st_g (st_p s a0 4 ((st_g s a0 4) - (1 : Int32))) a0 4) * (6 : Int32)) + (2 : Int32)) - (1 : Int32))).toNatClampNeg)), (1, .int (((st_g (st_p s a0 4 ((st_g s a0 4) - (1 : Int32))) a0 4) * (6 : Int32)) + (2 : Int32))), (0, .ref a0)], [.int (((st_g (st_p s a0 4 ((st_g s a0 4) - (1 : Int32))) a0 4) * (6 : Int32)) + (2 : Int32)), .ref (a0 + 3), .int (st_g (st_p s a0 4 ((st_g s a0 4) - (1 : Int32))) (a0 + 3) (((((st_g (st_p s a0 4 ((st_g s a0 4) - (1 : Int32))) a0 4) * (6 : Int32)) + (2 : Int32)) - (1 : Int32))).toNatClampNeg), .ref a0], st_mm (st_p s a0 4 ((st_g s a0 4) - (1 : Int32))))) rfl ?_
      obtain ⟨hi, h⟩ := h
      refine bi_Tial rfl (by have := ha0; simp only [st_isS] at this; rcases this with h | h | h | h <;> rw [h] <;> rfl) (st_kS3 ha0) hi ?_
      refine bi_Tr 1 (s' := (102, [(2, .int (st_g (st_p s a0 4 ((st_g s a0 4) - (1 : Int32))) (a0 + 3) (((((st_g (st_p s a0 4 ((st_g s a0 4) - (1 : Int32))) a0 4) * (6 : Int32)) + (2 : Int32)) - (1 : Int32))).toNatClampNeg)), (1, .int (((st_g (st_p s a0 4 ((st_g s a0 4) - (1 : Int32))) a0 4) * (6 : Int32)) + (2 : Int32))), (0, .ref a0)], [.ref a0, .int (st_g (st_p s a0 4 ((st_g s a0 4) - (1 : Int32))) (a0 + 3) ((((st_g (st_p s a0 4 ((st_g s a0 4) - (1 : Int32))) a0 4) * (6 : Int32)) + (2 : Int32))).toNatClampNeg), .int (st_g (st_p s a0 4 ((st_g s a0 4) - (1 : Int32))) (a0 + 3) (((((st_g (st_p s a0 4 ((st_g s a0 4) - (1 : Int32))) a0 4) * (6 : Int32)) + (2 : Int32)) - (1 : Int32))).toNatClampNeg), .ref a0], st_mm (st_p s a0 4 ((st_g s a0 4) - (1 : Int32))))) rfl ?_
      refine bi_Tgr rfl rfl rfl (st_kS0 ha0) (st_pS5 ha0) ?_
      refine bi_Tr 3 (s' := (108, [(2, .int (st_g (st_p s a0 4 ((st_g s a0 4) - (1 : Int32))) (a0 + 3) (((((st_g (st_p s a0 4 ((st_g s a0 4) - (1 : Int32))) a0 4) * (6 : Int32)) + (2 : Int32)) - (1 : Int32))).toNatClampNeg)), (1, .int (((st_g (st_p s a0 4 ((st_g s a0 4) - (1 : Int32))) a0 4) * (6 : Int32)) + (2 : Int32))), (0, .ref a0)], [.int ((((st_g (st_p s a0 4 ((st_g s a0 4) - (1 : Int32))) a0 4) * (6 : Int32)) + (2 : Int32)) + (1 : Int32)), .ref (a0 + 3), .int (st_g (st_p s a0 4 ((st_g s a0 4) - (1 : Int32))) (a0 + 3) ((((st_g (st_p s a0 4 ((st_g s a0 4) - (1 : Int32))) a0 4) * (6 : Int32)) + (2 : Int32))).toNatClampNeg), .int (st_g (st_p s a0 4 ((st_g s a0 4) - (1 : Int32))) (a0 + 3) (((((st_g (st_p s a0 4 ((st_g s a0 4) - (1 : Int32))) a0 4) * (6 : Int32)) + (2 : Int32)) - (1 : Int32))).toNatClampNeg), .ref a0], st_mm (st_p s a0 4 ((st_g s a0 4) - (1 : Int32))))) rfl ?_
      obtain ⟨hi, h⟩ := h
      refine bi_Tial rfl (by have := ha0; simp only [st_isS] at this; rcases this with h | h | h | h <;> rw [h] <;> rfl) (st_kS3 ha0) hi ?_
      refine bi_TcV (as := [.ref a0, .int (st_g (st_p s a0 4 ((st_g s a0 4) - (1 : Int32))) (a0 + 3) (((((st_g (st_p s a0 4 ((st_g s a0 4) - (1 : Int32))) a0 4) * (6 : Int32)) + (2 : Int32)) - (1 : Int32))).toNatClampNeg), .int (st_g (st_p s a0 4 ((st_g s a0 4) - (1 : Int32))) (a0 + 3) ((((st_g (st_p s a0 4 ((st_g s a0 4) - (1 : Int32))) a0 4) * (6 : Int32)) + (2 : Int32))).toNatClampNeg), .int (st_g (st_p s a0 4 ((st_g s a0 4) - (1 : Int32))) (a0 + 3) (((((st_g (st_p s a0 4 ((st_g s a0 4) - (1 : Int32))) a0 4) * (6 : Int32)) + (2 : Int32)) + (1 : Int32))).toNatClampNeg)]) (bi_TcO rfl rfl rfl (st_kS0 ha0) rfl rfl) rfl ?_
      refine cV.mono h (fun s2 h => ?_) (fun _ _ h => h.elim)
      refine bi_Tr 1 (s' := (166, [(2, .int (st_g (st_p s a0 4 ((st_g s a0 4) - (1 : Int32))) (a0 + 3) (((((st_g (st_p s a0 4 ((st_g s a0 4) - (1 : Int32))) a0 4) * (6 : Int32)) + (2 : Int32)) - (1 : Int32))).toNatClampNeg)), (1, .int (((st_g (st_p s a0 4 ((st_g s a0 4) - (1 : Int32))) a0 4) * (6 : Int32)) + (2 : Int32))), (0, .ref a0)], [], st_mm s2)) rfl ?_
      exact bi_Tww h rfl rfl trivial
    have h := h.2 hc
    have hn1 := lv_neT hc (a := 1) rfl
    by_cases hc : (st_g (st_p s a0 4 ((st_g s a0 4) - (1 : Int32))) (a0 + 3) (((((st_g (st_p s a0 4 ((st_g s a0 4) - (1 : Int32))) a0 4) * (6 : Int32)) + (2 : Int32)) - (2 : Int32))).toNatClampNeg) = (2 : Int32)
    · rw [hc] at ht; cases ht
      have h := h.1 hc
      refine bi_Tr 3 (s' := (118, [(2, .int (st_g (st_p s a0 4 ((st_g s a0 4) - (1 : Int32))) (a0 + 3) (((((st_g (st_p s a0 4 ((st_g s a0 4) - (1 : Int32))) a0 4) * (6 : Int32)) + (2 : Int32)) - (1 : Int32))).toNatClampNeg)), (1, .int (((st_g (st_p s a0 4 ((st_g s a0 4) - (1 : Int32))) a0 4) * (6 : Int32)) + (2 : Int32))), (0, .ref a0)], [.int (((st_g (st_p s a0 4 ((st_g s a0 4) - (1 : Int32))) a0 4) * (6 : Int32)) + (2 : Int32)), .int (st_g (st_p s a0 4 ((st_g s a0 4) - (1 : Int32))) (a0 + 3) (((((st_g (st_p s a0 4 ((st_g s a0 4) - (1 : Int32))) a0 4) * (6 : Int32)) + (2 : Int32)) - (1 : Int32))).toNatClampNeg), .ref a0], st_mm (st_p s a0 4 ((st_g s a0 4) - (1 : Int32))))) rfl ?_
      refine bi_TcV (as := [.ref a0, .int (st_g (st_p s a0 4 ((st_g s a0 4) - (1 : Int32))) (a0 + 3) (((((st_g (st_p s a0 4 ((st_g s a0 4) - (1 : Int32))) a0 4) * (6 : Int32)) + (2 : Int32)) - (1 : Int32))).toNatClampNeg), .int (((st_g (st_p s a0 4 ((st_g s a0 4) - (1 : Int32))) a0 4) * (6 : Int32)) + (2 : Int32))]) (bi_TcO rfl rfl rfl (st_kS0 ha0) rfl rfl) rfl ?_
      refine cV.mono h (fun s3 h => ?_) (fun _ _ h => h.elim)
      refine bi_Tr 1 (s' := (166, [(2, .int (st_g (st_p s a0 4 ((st_g s a0 4) - (1 : Int32))) (a0 + 3) (((((st_g (st_p s a0 4 ((st_g s a0 4) - (1 : Int32))) a0 4) * (6 : Int32)) + (2 : Int32)) - (1 : Int32))).toNatClampNeg)), (1, .int (((st_g (st_p s a0 4 ((st_g s a0 4) - (1 : Int32))) a0 4) * (6 : Int32)) + (2 : Int32))), (0, .ref a0)], [], st_mm s3)) rfl ?_
      exact bi_Tww h rfl rfl trivial
    have h := h.2 hc
    have hn2 := lv_neT hc (a := 2) rfl
    by_cases hc : (st_g (st_p s a0 4 ((st_g s a0 4) - (1 : Int32))) (a0 + 3) (((((st_g (st_p s a0 4 ((st_g s a0 4) - (1 : Int32))) a0 4) * (6 : Int32)) + (2 : Int32)) - (2 : Int32))).toNatClampNeg) = (3 : Int32)
    · rw [hc] at ht; cases ht
      have h := h.1 hc
      refine bi_Tr 2 (s' := ((if (st_g (st_p s a0 4 ((st_g s a0 4) - (1 : Int32))) (a0 + 3) (((((st_g (st_p s a0 4 ((st_g s a0 4) - (1 : Int32))) a0 4) * (6 : Int32)) + (2 : Int32)) - (1 : Int32))).toNatClampNeg) < 0 then 166 else 128), [(2, .int (st_g (st_p s a0 4 ((st_g s a0 4) - (1 : Int32))) (a0 + 3) (((((st_g (st_p s a0 4 ((st_g s a0 4) - (1 : Int32))) a0 4) * (6 : Int32)) + (2 : Int32)) - (1 : Int32))).toNatClampNeg)), (1, .int (((st_g (st_p s a0 4 ((st_g s a0 4) - (1 : Int32))) a0 4) * (6 : Int32)) + (2 : Int32))), (0, .ref a0)], [], st_mm (st_p s a0 4 ((st_g s a0 4) - (1 : Int32))))) rfl (bi_Tif (fun hc => ?_) (fun hc => ?_))
      · have h := h.1 hc
        exact bi_Tww h rfl rfl trivial
      · have h := h.2 hc
        refine bi_Tr 3 (s' := ((if (6 : Int32) ≤ (st_g (st_p s a0 4 ((st_g s a0 4) - (1 : Int32))) (a0 + 3) (((((st_g (st_p s a0 4 ((st_g s a0 4) - (1 : Int32))) a0 4) * (6 : Int32)) + (2 : Int32)) - (1 : Int32))).toNatClampNeg) then 166 else 134), [(2, .int (st_g (st_p s a0 4 ((st_g s a0 4) - (1 : Int32))) (a0 + 3) (((((st_g (st_p s a0 4 ((st_g s a0 4) - (1 : Int32))) a0 4) * (6 : Int32)) + (2 : Int32)) - (1 : Int32))).toNatClampNeg)), (1, .int (((st_g (st_p s a0 4 ((st_g s a0 4) - (1 : Int32))) a0 4) * (6 : Int32)) + (2 : Int32))), (0, .ref a0)], [], st_mm (st_p s a0 4 ((st_g s a0 4) - (1 : Int32))))) rfl (bi_Tif (fun hc => ?_) (fun hc => ?_))
        · have h := h.1 hc
          exact bi_Tww h rfl rfl trivial
        · have h := h.2 hc
          refine bi_Tr 1 (s' := (135, [(2, .int (st_g (st_p s a0 4 ((st_g s a0 4) - (1 : Int32))) (a0 + 3) (((((st_g (st_p s a0 4 ((st_g s a0 4) - (1 : Int32))) a0 4) * (6 : Int32)) + (2 : Int32)) - (1 : Int32))).toNatClampNeg)), (1, .int (((st_g (st_p s a0 4 ((st_g s a0 4) - (1 : Int32))) a0 4) * (6 : Int32)) + (2 : Int32))), (0, .ref a0)], [.ref a0], st_mm (st_p s a0 4 ((st_g s a0 4) - (1 : Int32))))) rfl ?_
          refine bi_Tgr rfl rfl rfl (st_kS0 ha0) (st_pS2 ha0) ?_
          refine bi_Tr 2 (s' := (140, [(2, .int (st_g (st_p s a0 4 ((st_g s a0 4) - (1 : Int32))) (a0 + 3) (((((st_g (st_p s a0 4 ((st_g s a0 4) - (1 : Int32))) a0 4) * (6 : Int32)) + (2 : Int32)) - (1 : Int32))).toNatClampNeg)), (1, .int (((st_g (st_p s a0 4 ((st_g s a0 4) - (1 : Int32))) a0 4) * (6 : Int32)) + (2 : Int32))), (0, .ref a0)], [.int (st_g (st_p s a0 4 ((st_g s a0 4) - (1 : Int32))) (a0 + 3) (((((st_g (st_p s a0 4 ((st_g s a0 4) - (1 : Int32))) a0 4) * (6 : Int32)) + (2 : Int32)) - (1 : Int32))).toNatClampNeg), .ref (a0 + 2), .int (st_g (st_p s a0 4 ((st_g s a0 4) - (1 : Int32))) (a0 + 3) (((((st_g (st_p s a0 4 ((st_g s a0 4) - (1 : Int32))) a0 4) * (6 : Int32)) + (2 : Int32)) - (1 : Int32))).toNatClampNeg), .ref (a0 + 2)], st_mm (st_p s a0 4 ((st_g s a0 4) - (1 : Int32))))) rfl ?_
          obtain ⟨hi, h⟩ := h
          refine bi_Tial rfl (by have := ha0; simp only [st_isS] at this; rcases this with h | h | h | h <;> rw [h] <;> rfl) (st_kS2 ha0) hi ?_
          refine bi_Tr 2 (s' := (143, [(2, .int (st_g (st_p s a0 4 ((st_g s a0 4) - (1 : Int32))) (a0 + 3) (((((st_g (st_p s a0 4 ((st_g s a0 4) - (1 : Int32))) a0 4) * (6 : Int32)) + (2 : Int32)) - (1 : Int32))).toNatClampNeg)), (1, .int (((st_g (st_p s a0 4 ((st_g s a0 4) - (1 : Int32))) a0 4) * (6 : Int32)) + (2 : Int32))), (0, .ref a0)], [.ref a0, .int (1 : Int32), .int (st_g (st_p s a0 4 ((st_g s a0 4) - (1 : Int32))) (a0 + 2) ((st_g (st_p s a0 4 ((st_g s a0 4) - (1 : Int32))) (a0 + 3) (((((st_g (st_p s a0 4 ((st_g s a0 4) - (1 : Int32))) a0 4) * (6 : Int32)) + (2 : Int32)) - (1 : Int32))).toNatClampNeg)).toNatClampNeg), .int (st_g (st_p s a0 4 ((st_g s a0 4) - (1 : Int32))) (a0 + 3) (((((st_g (st_p s a0 4 ((st_g s a0 4) - (1 : Int32))) a0 4) * (6 : Int32)) + (2 : Int32)) - (1 : Int32))).toNatClampNeg), .ref (a0 + 2)], st_mm (st_p s a0 4 ((st_g s a0 4) - (1 : Int32))))) rfl ?_
          refine bi_Tgr rfl rfl rfl (st_kS0 ha0) (st_pS5 ha0) ?_
          refine bi_Tr 1 (s' := (147, [(2, .int (st_g (st_p s a0 4 ((st_g s a0 4) - (1 : Int32))) (a0 + 3) (((((st_g (st_p s a0 4 ((st_g s a0 4) - (1 : Int32))) a0 4) * (6 : Int32)) + (2 : Int32)) - (1 : Int32))).toNatClampNeg)), (1, .int (((st_g (st_p s a0 4 ((st_g s a0 4) - (1 : Int32))) a0 4) * (6 : Int32)) + (2 : Int32))), (0, .ref a0)], [.int (((st_g (st_p s a0 4 ((st_g s a0 4) - (1 : Int32))) a0 4) * (6 : Int32)) + (2 : Int32)), .ref (a0 + 3), .int (1 : Int32), .int (st_g (st_p s a0 4 ((st_g s a0 4) - (1 : Int32))) (a0 + 2) ((st_g (st_p s a0 4 ((st_g s a0 4) - (1 : Int32))) (a0 + 3) (((((st_g (st_p s a0 4 ((st_g s a0 4) - (1 : Int32))) a0 4) * (6 : Int32)) + (2 : Int32)) - (1 : Int32))).toNatClampNeg)).toNatClampNeg), .int (st_g (st_p s a0 4 ((st_g s a0 4) - (1 : Int32))) (a0 + 3) (((((st_g (st_p s a0 4 ((st_g s a0 4) - (1 : Int32))) a0 4) * (6 : Int32)) + (2 : Int32)) - (1 : Int32))).toNatClampNeg), .ref (a0 + 2)], st_mm (st_p s a0 4 ((st_g s a0 4) - (1 : Int32))))) rfl ?_
          obtain ⟨hi, h⟩ := h
          refine bi_Tial rfl (by have := ha0; simp only [st_isS] at this; rcases this with h | h | h | h <;> rw [h] <;> rfl) (st_kS3 ha0) hi ?_
          refine bi_Tr 2 (s' := (150, [(2, .int (st_g (st_p s a0 4 ((st_g s a0 4) - (1 : Int32))) (a0 + 3) (((((st_g (st_p s a0 4 ((st_g s a0 4) - (1 : Int32))) a0 4) * (6 : Int32)) + (2 : Int32)) - (1 : Int32))).toNatClampNeg)), (1, .int (((st_g (st_p s a0 4 ((st_g s a0 4) - (1 : Int32))) a0 4) * (6 : Int32)) + (2 : Int32))), (0, .ref a0)], [.int ((st_g (st_p s a0 4 ((st_g s a0 4) - (1 : Int32))) (a0 + 2) ((st_g (st_p s a0 4 ((st_g s a0 4) - (1 : Int32))) (a0 + 3) (((((st_g (st_p s a0 4 ((st_g s a0 4) - (1 : Int32))) a0 4) * (6 : Int32)) + (2 : Int32)) - (1 : Int32))).toNatClampNeg)).toNatClampNeg) ^^^ ((1 : Int32) <<< ((st_g (st_p s a0 4 ((st_g s a0 4) - (1 : Int32))) (a0 + 3) ((((st_g (st_p s a0 4 ((st_g s a0 4) - (1 : Int32))) a0 4) * (6 : Int32)) + (2 : Int32))).toNatClampNeg) &&& 31))), .int (st_g (st_p s a0 4 ((st_g s a0 4) - (1 : Int32))) (a0 + 3) (((((st_g (st_p s a0 4 ((st_g s a0 4) - (1 : Int32))) a0 4) * (6 : Int32)) + (2 : Int32)) - (1 : Int32))).toNatClampNeg), .ref (a0 + 2)], st_mm (st_p s a0 4 ((st_g s a0 4) - (1 : Int32))))) rfl ?_
          obtain ⟨hi, h⟩ := h
          refine bi_Tias rfl (st_kS2 ha0) hi ?_
          refine bi_Tr 1 (s' := (166, [(2, .int (st_g (st_p s a0 4 ((st_g s a0 4) - (1 : Int32))) (a0 + 3) (((((st_g (st_p s a0 4 ((st_g s a0 4) - (1 : Int32))) a0 4) * (6 : Int32)) + (2 : Int32)) - (1 : Int32))).toNatClampNeg)), (1, .int (((st_g (st_p s a0 4 ((st_g s a0 4) - (1 : Int32))) a0 4) * (6 : Int32)) + (2 : Int32))), (0, .ref a0)], [], st_mm (st_p (st_p s a0 4 ((st_g s a0 4) - (1 : Int32))) (a0 + 2) ((st_g (st_p s a0 4 ((st_g s a0 4) - (1 : Int32))) (a0 + 3) (((((st_g (st_p s a0 4 ((st_g s a0 4) - (1 : Int32))) a0 4) * (6 : Int32)) + (2 : Int32)) - (1 : Int32))).toNatClampNeg)).toNatClampNeg ((st_g (st_p s a0 4 ((st_g s a0 4) - (1 : Int32))) (a0 + 2) ((st_g (st_p s a0 4 ((st_g s a0 4) - (1 : Int32))) (a0 + 3) (((((st_g (st_p s a0 4 ((st_g s a0 4) - (1 : Int32))) a0 4) * (6 : Int32)) + (2 : Int32)) - (1 : Int32))).toNatClampNeg)).toNatClampNeg) ^^^ ((1 : Int32) <<< ((st_g (st_p s a0 4 ((st_g s a0 4) - (1 : Int32))) (a0 + 3) ((((st_g (st_p s a0 4 ((st_g s a0 4) - (1 : Int32))) a0 4) * (6 : Int32)) + (2 : Int32))).toNatClampNeg) &&& 31)))))) rfl ?_
          exact bi_Tww h rfl rfl trivial
    have h := h.2 hc
    have hn3 := lv_neT hc (a := 3) rfl
    have ht : bi_tg 47 107 = some t := bi_swd ht (fun h1 h2 => by omega)
    cases ht
    refine bi_Tr 2 (s' := (156, [(2, .int (st_g (st_p s a0 4 ((st_g s a0 4) - (1 : Int32))) (a0 + 3) (((((st_g (st_p s a0 4 ((st_g s a0 4) - (1 : Int32))) a0 4) * (6 : Int32)) + (2 : Int32)) - (1 : Int32))).toNatClampNeg)), (1, .int (((st_g (st_p s a0 4 ((st_g s a0 4) - (1 : Int32))) a0 4) * (6 : Int32)) + (2 : Int32))), (0, .ref a0)], [.ref a0, .ref a0], st_mm (st_p s a0 4 ((st_g s a0 4) - (1 : Int32))))) rfl ?_
    refine bi_Tgi (o := 0) rfl rfl rfl (st_kS0 ha0) ?_
    refine bi_Tr 4 (s' := (163, [(2, .int (st_g (st_p s a0 4 ((st_g s a0 4) - (1 : Int32))) (a0 + 3) (((((st_g (st_p s a0 4 ((st_g s a0 4) - (1 : Int32))) a0 4) * (6 : Int32)) + (2 : Int32)) - (1 : Int32))).toNatClampNeg)), (1, .int (((st_g (st_p s a0 4 ((st_g s a0 4) - (1 : Int32))) a0 4) * (6 : Int32)) + (2 : Int32))), (0, .ref a0)], [.int ((st_g (st_p s a0 4 ((st_g s a0 4) - (1 : Int32))) a0 3) ^^^ ((1 : Int32) <<< ((st_g (st_p s a0 4 ((st_g s a0 4) - (1 : Int32))) (a0 + 3) (((((st_g (st_p s a0 4 ((st_g s a0 4) - (1 : Int32))) a0 4) * (6 : Int32)) + (2 : Int32)) - (1 : Int32))).toNatClampNeg) &&& 31))), .ref a0], st_mm (st_p s a0 4 ((st_g s a0 4) - (1 : Int32))))) rfl ?_
    refine bi_Tpi rfl rfl rfl rfl (st_kS0 ha0) ?_
    exact bi_Tww h rfl rfl trivial
  · have h := h.2 hc
    refine bi_Tr 1 (s' := (9, [(0, .ref a0)], [.int (0 : Int32)], st_mm s)) rfl ?_
    exact bi_Tv rfl rfl (Or.inl ⟨_, _, rfl, h⟩)
/-- PolicyRows$State.bringBack(II)V -/
theorem en_X6_bringBack {X : bi_X} {d : Nat} {K : bi_St → Prop} {E : Nat → bi_St → Prop} {s : bi_St} {a0 : Nat} {x0 : Int32} {x1 : Int32} (ha0 : st_isS a0) (h : (((16 : Int32) ≤ (st_g s a0 0)) → K s) ∧ (¬ ((16 : Int32) ≤ (st_g s a0 0)) → ((x0 < 0) → K s) ∧ (¬ (x0 < 0) → ((x0 ≤ (st_g s a0 0)) → (¬ (x0 * (4 : Int32)) < 0 ∧ ¬ ((x0 * (4 : Int32)) + (4 : Int32)) < 0 ∧ ¬ (((st_g s a0 0) - x0) * (4 : Int32)) < 0 ∧ ((x0 * (4 : Int32))).toNatClampNeg + ((((st_g s a0 0) - x0) * (4 : Int32))).toNatClampNeg ≤ 64 ∧ (((x0 * (4 : Int32)) + (4 : Int32))).toNatClampNeg + ((((st_g s a0 0) - x0) * (4 : Int32))).toNatClampNeg ≤ 64) ∧ ((¬ x1 < 0 ∧ ¬ (x0 * (4 : Int32)) < 0 ∧ ¬ (4 : Int32) < 0 ∧ (x1).toNatClampNeg + ((4 : Int32)).toNatClampNeg ≤ 240 ∧ ((x0 * (4 : Int32))).toNatClampNeg + ((4 : Int32)).toNatClampNeg ≤ 64) ∧ (K (st_p (st_cp (st_cp s (a0 + 1) ((x0 * (4 : Int32))).toNatClampNeg (a0 + 1) (((x0 * (4 : Int32)) + (4 : Int32))).toNatClampNeg ((((st_g s a0 0) - x0) * (4 : Int32))).toNatClampNeg) (a0 + 3) (x1).toNatClampNeg (a0 + 1) ((x0 * (4 : Int32))).toNatClampNeg ((4 : Int32)).toNatClampNeg) a0 0 ((st_g (st_cp (st_cp s (a0 + 1) ((x0 * (4 : Int32))).toNatClampNeg (a0 + 1) (((x0 * (4 : Int32)) + (4 : Int32))).toNatClampNeg ((((st_g s a0 0) - x0) * (4 : Int32))).toNatClampNeg) (a0 + 3) (x1).toNatClampNeg (a0 + 1) ((x0 * (4 : Int32))).toNatClampNeg ((4 : Int32)).toNatClampNeg) a0 0) + (1 : Int32)))))) ∧ (¬ (x0 ≤ (st_g s a0 0)) → K s)))) : cV X d 83 [.ref a0, .int x0, .int x1] s K E := by
  show bi_T _ _ _ _ _
  refine bi_Tr 1 (s' := (1, [(0, .ref a0), (1, .int x0), (2, .int x1)], [.ref a0], st_mm s)) rfl ?_
  refine bi_Tgi (o := 0) rfl rfl rfl (st_kS0 ha0) ?_
  refine bi_Tr 2 (s' := ((if (16 : Int32) ≤ (st_g s a0 0) then 21 else 9), [(0, .ref a0), (1, .int x0), (2, .int x1)], [], st_mm s)) rfl (bi_Tif (fun hc => ?_) (fun hc => ?_))
  · have h := h.1 hc
    exact bi_Tv rfl rfl (Or.inl ⟨_, rfl, h⟩)
  · have h := h.2 hc
    refine bi_Tr 2 (s' := ((if x0 < 0 then 21 else 13), [(0, .ref a0), (1, .int x0), (2, .int x1)], [], st_mm s)) rfl (bi_Tif (fun hc => ?_) (fun hc => ?_))
    · have h := h.1 hc
      exact bi_Tv rfl rfl (Or.inl ⟨_, rfl, h⟩)
    · have h := h.2 hc
      refine bi_Tr 2 (s' := (15, [(0, .ref a0), (1, .int x0), (2, .int x1)], [.ref a0, .int x0], st_mm s)) rfl ?_
      refine bi_Tgi (o := 0) rfl rfl rfl (st_kS0 ha0) ?_
      refine bi_Tr 1 (s' := ((if x0 ≤ (st_g s a0 0) then 22 else 21), [(0, .ref a0), (1, .int x0), (2, .int x1)], [], st_mm s)) rfl (bi_Tif (fun hc => ?_) (fun hc => ?_))
      · have h := h.1 hc
        refine bi_Tr 5 (s' := (27, [(3, .int (x0 * (4 : Int32))), (0, .ref a0), (1, .int x0), (2, .int x1)], [.ref a0], st_mm s)) rfl ?_
        refine bi_Tgr rfl rfl rfl (st_kS0 ha0) (st_pS1 ha0) ?_
        refine bi_Tr 2 (s' := (32, [(3, .int (x0 * (4 : Int32))), (0, .ref a0), (1, .int x0), (2, .int x1)], [.ref a0, .int (x0 * (4 : Int32)), .ref (a0 + 1)], st_mm s)) rfl ?_
        refine bi_Tgr rfl rfl rfl (st_kS0 ha0) (st_pS1 ha0) ?_
        refine bi_Tr 4 (s' := (39, [(3, .int (x0 * (4 : Int32))), (0, .ref a0), (1, .int x0), (2, .int x1)], [.ref a0, .int ((x0 * (4 : Int32)) + (4 : Int32)), .ref (a0 + 1), .int (x0 * (4 : Int32)), .ref (a0 + 1)], st_mm s)) rfl ?_
        refine bi_Tgi (o := 0) rfl rfl rfl (st_kS0 ha0) ?_
        refine bi_Tr 4 (s' := (46, [(3, .int (x0 * (4 : Int32))), (0, .ref a0), (1, .int x0), (2, .int x1)], [.int (((st_g s a0 0) - x0) * (4 : Int32)), .int ((x0 * (4 : Int32)) + (4 : Int32)), .ref (a0 + 1), .int (x0 * (4 : Int32)), .ref (a0 + 1)], st_mm s)) rfl ?_
        obtain ⟨hi, h⟩ := h
        refine bi_Tcpy (z := 0) rfl rfl (st_kS1 ha0) (st_kS1 ha0) rfl hi.1 hi.2.1 hi.2.2.1 hi.2.2.2.1 hi.2.2.2.2 ?_
        refine bi_Tr 1 (s' := (50, [(3, .int (x0 * (4 : Int32))), (0, .ref a0), (1, .int x0), (2, .int x1)], [.ref a0], st_mm (st_cp s (a0 + 1) ((x0 * (4 : Int32))).toNatClampNeg (a0 + 1) (((x0 * (4 : Int32)) + (4 : Int32))).toNatClampNeg ((((st_g s a0 0) - x0) * (4 : Int32))).toNatClampNeg))) rfl ?_
        refine bi_Tgr rfl rfl rfl (st_kS0 ha0) (st_pS5 ha0) ?_
        refine bi_Tr 2 (s' := (55, [(3, .int (x0 * (4 : Int32))), (0, .ref a0), (1, .int x0), (2, .int x1)], [.ref a0, .int x1, .ref (a0 + 3)], st_mm (st_cp s (a0 + 1) ((x0 * (4 : Int32))).toNatClampNeg (a0 + 1) (((x0 * (4 : Int32)) + (4 : Int32))).toNatClampNeg ((((st_g s a0 0) - x0) * (4 : Int32))).toNatClampNeg))) rfl ?_
        refine bi_Tgr rfl rfl rfl (st_kS0 ha0) (st_pS1 ha0) ?_
        refine bi_Tr 2 (s' := (60, [(3, .int (x0 * (4 : Int32))), (0, .ref a0), (1, .int x0), (2, .int x1)], [.int (4 : Int32), .int (x0 * (4 : Int32)), .ref (a0 + 1), .int x1, .ref (a0 + 3)], st_mm (st_cp s (a0 + 1) ((x0 * (4 : Int32))).toNatClampNeg (a0 + 1) (((x0 * (4 : Int32)) + (4 : Int32))).toNatClampNeg ((((st_g s a0 0) - x0) * (4 : Int32))).toNatClampNeg))) rfl ?_
        obtain ⟨hi, h⟩ := h
        refine bi_Tcpy (z := 0) rfl rfl (st_kS3 ha0) (st_kS1 ha0) rfl hi.1 hi.2.1 hi.2.2.1 hi.2.2.2.1 hi.2.2.2.2 ?_
        refine bi_Tr 2 (s' := (65, [(3, .int (x0 * (4 : Int32))), (0, .ref a0), (1, .int x0), (2, .int x1)], [.ref a0, .ref a0], st_mm (st_cp (st_cp s (a0 + 1) ((x0 * (4 : Int32))).toNatClampNeg (a0 + 1) (((x0 * (4 : Int32)) + (4 : Int32))).toNatClampNeg ((((st_g s a0 0) - x0) * (4 : Int32))).toNatClampNeg) (a0 + 3) (x1).toNatClampNeg (a0 + 1) ((x0 * (4 : Int32))).toNatClampNeg ((4 : Int32)).toNatClampNeg))) rfl ?_
        refine bi_Tgi (o := 0) rfl rfl rfl (st_kS0 ha0) ?_
        refine bi_Tr 2 (s' := (70, [(3, .int (x0 * (4 : Int32))), (0, .ref a0), (1, .int x0), (2, .int x1)], [.int ((st_g (st_cp (st_cp s (a0 + 1) ((x0 * (4 : Int32))).toNatClampNeg (a0 + 1) (((x0 * (4 : Int32)) + (4 : Int32))).toNatClampNeg ((((st_g s a0 0) - x0) * (4 : Int32))).toNatClampNeg) (a0 + 3) (x1).toNatClampNeg (a0 + 1) ((x0 * (4 : Int32))).toNatClampNeg ((4 : Int32)).toNatClampNeg) a0 0) + (1 : Int32)), .ref a0], st_mm (st_cp (st_cp s (a0 + 1) ((x0 * (4 : Int32))).toNatClampNeg (a0 + 1) (((x0 * (4 : Int32)) + (4 : Int32))).toNatClampNeg ((((st_g s a0 0) - x0) * (4 : Int32))).toNatClampNeg) (a0 + 3) (x1).toNatClampNeg (a0 + 1) ((x0 * (4 : Int32))).toNatClampNeg ((4 : Int32)).toNatClampNeg))) rfl ?_
        refine bi_Tpi rfl rfl rfl rfl (st_kS0 ha0) ?_
        exact bi_Tv rfl rfl (Or.inl ⟨_, rfl, h⟩)
      · have h := h.2 hc
        exact bi_Tv rfl rfl (Or.inl ⟨_, rfl, h⟩)
/-- PolicyRows$State.noteSeen(IIZ)Z -/
theorem en_X6_noteSeen {X : bi_X} {d : Nat} {K : Int32 → bi_St → Prop} {E : Nat → bi_St → Prop} {s : bi_St} {a0 : Nat} {x0 : Int32} {x1 : Int32} {x2 : Int32} (ha0 : st_isS a0) (h : (((st_g s a0 6) < (8 : Int32)) → bi_in (st_g s a0 6) 8 = true ∧ (bi_in (st_g (st_p s (a0 + 4) ((st_g s a0 6)).toNatClampNeg x0) a0 6) 8 = true ∧ (((x2 = 0) → K (1 : Int32) (st_p (st_p (st_p (st_p s (a0 + 4) ((st_g s a0 6)).toNatClampNeg x0) (a0 + 5) ((st_g (st_p s (a0 + 4) ((st_g s a0 6)).toNatClampNeg x0) a0 6)).toNatClampNeg x1) a0 7 ((st_g (st_p (st_p s (a0 + 4) ((st_g s a0 6)).toNatClampNeg x0) (a0 + 5) ((st_g (st_p s (a0 + 4) ((st_g s a0 6)).toNatClampNeg x0) a0 6)).toNatClampNeg x1) a0 7) ||| (0 : Int32))) a0 6 ((st_g (st_p (st_p (st_p s (a0 + 4) ((st_g s a0 6)).toNatClampNeg x0) (a0 + 5) ((st_g (st_p s (a0 + 4) ((st_g s a0 6)).toNatClampNeg x0) a0 6)).toNatClampNeg x1) a0 7 ((st_g (st_p (st_p s (a0 + 4) ((st_g s a0 6)).toNatClampNeg x0) (a0 + 5) ((st_g (st_p s (a0 + 4) ((st_g s a0 6)).toNatClampNeg x0) a0 6)).toNatClampNeg x1) a0 7) ||| (0 : Int32))) a0 6) + (1 : Int32)))) ∧ (¬ (x2 = 0) → K (1 : Int32) (st_p (st_p (st_p (st_p s (a0 + 4) ((st_g s a0 6)).toNatClampNeg x0) (a0 + 5) ((st_g (st_p s (a0 + 4) ((st_g s a0 6)).toNatClampNeg x0) a0 6)).toNatClampNeg x1) a0 7 ((st_g (st_p (st_p s (a0 + 4) ((st_g s a0 6)).toNatClampNeg x0) (a0 + 5) ((st_g (st_p s (a0 + 4) ((st_g s a0 6)).toNatClampNeg x0) a0 6)).toNatClampNeg x1) a0 7) ||| ((1 : Int32) <<< ((st_g (st_p (st_p s (a0 + 4) ((st_g s a0 6)).toNatClampNeg x0) (a0 + 5) ((st_g (st_p s (a0 + 4) ((st_g s a0 6)).toNatClampNeg x0) a0 6)).toNatClampNeg x1) a0 6) &&& 31)))) a0 6 ((st_g (st_p (st_p (st_p s (a0 + 4) ((st_g s a0 6)).toNatClampNeg x0) (a0 + 5) ((st_g (st_p s (a0 + 4) ((st_g s a0 6)).toNatClampNeg x0) a0 6)).toNatClampNeg x1) a0 7 ((st_g (st_p (st_p s (a0 + 4) ((st_g s a0 6)).toNatClampNeg x0) (a0 + 5) ((st_g (st_p s (a0 + 4) ((st_g s a0 6)).toNatClampNeg x0) a0 6)).toNatClampNeg x1) a0 7) ||| ((1 : Int32) <<< ((st_g (st_p (st_p s (a0 + 4) ((st_g s a0 6)).toNatClampNeg x0) (a0 + 5) ((st_g (st_p s (a0 + 4) ((st_g s a0 6)).toNatClampNeg x0) a0 6)).toNatClampNeg x1) a0 6) &&& 31)))) a0 6) + (1 : Int32))))))) ∧ (¬ ((st_g s a0 6) < (8 : Int32)) → K (0 : Int32) s)) : cI X d 84 [.ref a0, .int x0, .int x1, .int x2] s K E := by
  show bi_T _ _ _ _ _
  refine bi_Tr 1 (s' := (1, [(0, .ref a0), (1, .int x0), (2, .int x1), (3, .int x2)], [.ref a0], st_mm s)) rfl ?_
  refine bi_Tgi (o := 0) rfl rfl rfl (st_kS0 ha0) ?_
  refine bi_Tr 2 (s' := ((if (st_g s a0 6) < (8 : Int32) then 11 else 9), [(0, .ref a0), (1, .int x0), (2, .int x1), (3, .int x2)], [], st_mm s)) rfl (bi_Tif (fun hc => ?_) (fun hc => ?_))
  · have h := h.1 hc
    refine bi_Tr 1 (s' := (12, [(0, .ref a0), (1, .int x0), (2, .int x1), (3, .int x2)], [.ref a0], st_mm s)) rfl ?_
    refine bi_Tgr rfl rfl rfl (st_kS0 ha0) (st_pS8 ha0) ?_
    refine bi_Tr 1 (s' := (16, [(0, .ref a0), (1, .int x0), (2, .int x1), (3, .int x2)], [.ref a0, .ref (a0 + 4)], st_mm s)) rfl ?_
    refine bi_Tgi (o := 0) rfl rfl rfl (st_kS0 ha0) ?_
    refine bi_Tr 1 (s' := (20, [(0, .ref a0), (1, .int x0), (2, .int x1), (3, .int x2)], [.int x0, .int (st_g s a0 6), .ref (a0 + 4)], st_mm s)) rfl ?_
    obtain ⟨hi, h⟩ := h
    refine bi_Tias rfl (st_kS4 ha0) hi ?_
    refine bi_Tr 1 (s' := (22, [(0, .ref a0), (1, .int x0), (2, .int x1), (3, .int x2)], [.ref a0], st_mm (st_p s (a0 + 4) ((st_g s a0 6)).toNatClampNeg x0))) rfl ?_
    refine bi_Tgr rfl rfl rfl (st_kS0 ha0) (st_pS9 ha0) ?_
    refine bi_Tr 1 (s' := (26, [(0, .ref a0), (1, .int x0), (2, .int x1), (3, .int x2)], [.ref a0, .ref (a0 + 5)], st_mm (st_p s (a0 + 4) ((st_g s a0 6)).toNatClampNeg x0))) rfl ?_
    refine bi_Tgi (o := 0) rfl rfl rfl (st_kS0 ha0) ?_
    refine bi_Tr 1 (s' := (30, [(0, .ref a0), (1, .int x0), (2, .int x1), (3, .int x2)], [.int x1, .int (st_g (st_p s (a0 + 4) ((st_g s a0 6)).toNatClampNeg x0) a0 6), .ref (a0 + 5)], st_mm (st_p s (a0 + 4) ((st_g s a0 6)).toNatClampNeg x0))) rfl ?_
    obtain ⟨hi, h⟩ := h
    refine bi_Tias rfl (st_kS5 ha0) hi ?_
    refine bi_Tr 2 (s' := (33, [(0, .ref a0), (1, .int x0), (2, .int x1), (3, .int x2)], [.ref a0, .ref a0], st_mm (st_p (st_p s (a0 + 4) ((st_g s a0 6)).toNatClampNeg x0) (a0 + 5) ((st_g (st_p s (a0 + 4) ((st_g s a0 6)).toNatClampNeg x0) a0 6)).toNatClampNeg x1))) rfl ?_
    refine bi_Tgi (o := 0) rfl rfl rfl (st_kS0 ha0) ?_
    refine bi_Tr 2 (s' := ((if x2 = 0 then 49 else 40), [(0, .ref a0), (1, .int x0), (2, .int x1), (3, .int x2)], [.int (st_g (st_p (st_p s (a0 + 4) ((st_g s a0 6)).toNatClampNeg x0) (a0 + 5) ((st_g (st_p s (a0 + 4) ((st_g s a0 6)).toNatClampNeg x0) a0 6)).toNatClampNeg x1) a0 7), .ref a0], st_mm (st_p (st_p s (a0 + 4) ((st_g s a0 6)).toNatClampNeg x0) (a0 + 5) ((st_g (st_p s (a0 + 4) ((st_g s a0 6)).toNatClampNeg x0) a0 6)).toNatClampNeg x1))) rfl (bi_Tif (fun hc => ?_) (fun hc => ?_))
    · have h := h.1 hc
      refine bi_Tr 2 (s' := (51, [(0, .ref a0), (1, .int x0), (2, .int x1), (3, .int x2)], [.int ((st_g (st_p (st_p s (a0 + 4) ((st_g s a0 6)).toNatClampNeg x0) (a0 + 5) ((st_g (st_p s (a0 + 4) ((st_g s a0 6)).toNatClampNeg x0) a0 6)).toNatClampNeg x1) a0 7) ||| (0 : Int32)), .ref a0], st_mm (st_p (st_p s (a0 + 4) ((st_g s a0 6)).toNatClampNeg x0) (a0 + 5) ((st_g (st_p s (a0 + 4) ((st_g s a0 6)).toNatClampNeg x0) a0 6)).toNatClampNeg x1))) rfl ?_
      refine bi_Tpi rfl rfl rfl rfl (st_kS0 ha0) ?_
      refine bi_Tr 2 (s' := (56, [(0, .ref a0), (1, .int x0), (2, .int x1), (3, .int x2)], [.ref a0, .ref a0], st_mm (st_p (st_p (st_p s (a0 + 4) ((st_g s a0 6)).toNatClampNeg x0) (a0 + 5) ((st_g (st_p s (a0 + 4) ((st_g s a0 6)).toNatClampNeg x0) a0 6)).toNatClampNeg x1) a0 7 ((st_g (st_p (st_p s (a0 + 4) ((st_g s a0 6)).toNatClampNeg x0) (a0 + 5) ((st_g (st_p s (a0 + 4) ((st_g s a0 6)).toNatClampNeg x0) a0 6)).toNatClampNeg x1) a0 7) ||| (0 : Int32))))) rfl ?_
      refine bi_Tgi (o := 0) rfl rfl rfl (st_kS0 ha0) ?_
      refine bi_Tr 2 (s' := (61, [(0, .ref a0), (1, .int x0), (2, .int x1), (3, .int x2)], [.int ((st_g (st_p (st_p (st_p s (a0 + 4) ((st_g s a0 6)).toNatClampNeg x0) (a0 + 5) ((st_g (st_p s (a0 + 4) ((st_g s a0 6)).toNatClampNeg x0) a0 6)).toNatClampNeg x1) a0 7 ((st_g (st_p (st_p s (a0 + 4) ((st_g s a0 6)).toNatClampNeg x0) (a0 + 5) ((st_g (st_p s (a0 + 4) ((st_g s a0 6)).toNatClampNeg x0) a0 6)).toNatClampNeg x1) a0 7) ||| (0 : Int32))) a0 6) + (1 : Int32)), .ref a0], st_mm (st_p (st_p (st_p s (a0 + 4) ((st_g s a0 6)).toNatClampNeg x0) (a0 + 5) ((st_g (st_p s (a0 + 4) ((st_g s a0 6)).toNatClampNeg x0) a0 6)).toNatClampNeg x1) a0 7 ((st_g (st_p (st_p s (a0 + 4) ((st_g s a0 6)).toNatClampNeg x0) (a0 + 5) ((st_g (st_p s (a0 + 4) ((st_g s a0 6)).toNatClampNeg x0) a0 6)).toNatClampNeg x1) a0 7) ||| (0 : Int32))))) rfl ?_
      refine bi_Tpi rfl rfl rfl rfl (st_kS0 ha0) ?_
      refine bi_Tr 1 (s' := (65, [(0, .ref a0), (1, .int x0), (2, .int x1), (3, .int x2)], [.int (1 : Int32)], st_mm (st_p (st_p (st_p (st_p s (a0 + 4) ((st_g s a0 6)).toNatClampNeg x0) (a0 + 5) ((st_g (st_p s (a0 + 4) ((st_g s a0 6)).toNatClampNeg x0) a0 6)).toNatClampNeg x1) a0 7 ((st_g (st_p (st_p s (a0 + 4) ((st_g s a0 6)).toNatClampNeg x0) (a0 + 5) ((st_g (st_p s (a0 + 4) ((st_g s a0 6)).toNatClampNeg x0) a0 6)).toNatClampNeg x1) a0 7) ||| (0 : Int32))) a0 6 ((st_g (st_p (st_p (st_p s (a0 + 4) ((st_g s a0 6)).toNatClampNeg x0) (a0 + 5) ((st_g (st_p s (a0 + 4) ((st_g s a0 6)).toNatClampNeg x0) a0 6)).toNatClampNeg x1) a0 7 ((st_g (st_p (st_p s (a0 + 4) ((st_g s a0 6)).toNatClampNeg x0) (a0 + 5) ((st_g (st_p s (a0 + 4) ((st_g s a0 6)).toNatClampNeg x0) a0 6)).toNatClampNeg x1) a0 7) ||| (0 : Int32))) a0 6) + (1 : Int32))))) rfl ?_
      exact bi_Tv rfl rfl (Or.inl ⟨_, _, rfl, h⟩)
    · have h := h.2 hc
      refine bi_Tr 2 (s' := (42, [(0, .ref a0), (1, .int x0), (2, .int x1), (3, .int x2)], [.ref a0, .int (1 : Int32), .int (st_g (st_p (st_p s (a0 + 4) ((st_g s a0 6)).toNatClampNeg x0) (a0 + 5) ((st_g (st_p s (a0 + 4) ((st_g s a0 6)).toNatClampNeg x0) a0 6)).toNatClampNeg x1) a0 7), .ref a0], st_mm (st_p (st_p s (a0 + 4) ((st_g s a0 6)).toNatClampNeg x0) (a0 + 5) ((st_g (st_p s (a0 + 4) ((st_g s a0 6)).toNatClampNeg x0) a0 6)).toNatClampNeg x1))) rfl ?_
      refine bi_Tgi (o := 0) rfl rfl rfl (st_kS0 ha0) ?_
      refine bi_Tr 3 (s' := (51, [(0, .ref a0), (1, .int x0), (2, .int x1), (3, .int x2)], [.int ((st_g (st_p (st_p s (a0 + 4) ((st_g s a0 6)).toNatClampNeg x0) (a0 + 5) ((st_g (st_p s (a0 + 4) ((st_g s a0 6)).toNatClampNeg x0) a0 6)).toNatClampNeg x1) a0 7) ||| ((1 : Int32) <<< ((st_g (st_p (st_p s (a0 + 4) ((st_g s a0 6)).toNatClampNeg x0) (a0 + 5) ((st_g (st_p s (a0 + 4) ((st_g s a0 6)).toNatClampNeg x0) a0 6)).toNatClampNeg x1) a0 6) &&& 31))), .ref a0], st_mm (st_p (st_p s (a0 + 4) ((st_g s a0 6)).toNatClampNeg x0) (a0 + 5) ((st_g (st_p s (a0 + 4) ((st_g s a0 6)).toNatClampNeg x0) a0 6)).toNatClampNeg x1))) rfl ?_
      refine bi_Tpi rfl rfl rfl rfl (st_kS0 ha0) ?_
      refine bi_Tr 2 (s' := (56, [(0, .ref a0), (1, .int x0), (2, .int x1), (3, .int x2)], [.ref a0, .ref a0], st_mm (st_p (st_p (st_p s (a0 + 4) ((st_g s a0 6)).toNatClampNeg x0) (a0 + 5) ((st_g (st_p s (a0 + 4) ((st_g s a0 6)).toNatClampNeg x0) a0 6)).toNatClampNeg x1) a0 7 ((st_g (st_p (st_p s (a0 + 4) ((st_g s a0 6)).toNatClampNeg x0) (a0 + 5) ((st_g (st_p s (a0 + 4) ((st_g s a0 6)).toNatClampNeg x0) a0 6)).toNatClampNeg x1) a0 7) ||| ((1 : Int32) <<< ((st_g (st_p (st_p s (a0 + 4) ((st_g s a0 6)).toNatClampNeg x0) (a0 + 5) ((st_g (st_p s (a0 + 4) ((st_g s a0 6)).toNatClampNeg x0) a0 6)).toNatClampNeg x1) a0 6) &&& 31)))))) rfl ?_
      refine bi_Tgi (o := 0) rfl rfl rfl (st_kS0 ha0) ?_
      refine bi_Tr 2 (s' := (61, [(0, .ref a0), (1, .int x0), (2, .int x1), (3, .int x2)], [.int ((st_g (st_p (st_p (st_p s (a0 + 4) ((st_g s a0 6)).toNatClampNeg x0) (a0 + 5) ((st_g (st_p s (a0 + 4) ((st_g s a0 6)).toNatClampNeg x0) a0 6)).toNatClampNeg x1) a0 7 ((st_g (st_p (st_p s (a0 + 4) ((st_g s a0 6)).toNatClampNeg x0) (a0 + 5) ((st_g (st_p s (a0 + 4) ((st_g s a0 6)).toNatClampNeg x0) a0 6)).toNatClampNeg x1) a0 7) ||| ((1 : Int32) <<< ((st_g (st_p (st_p s (a0 + 4) ((st_g s a0 6)).toNatClampNeg x0) (a0 + 5) ((st_g (st_p s (a0 + 4) ((st_g s a0 6)).toNatClampNeg x0) a0 6)).toNatClampNeg x1) a0 6) &&& 31)))) a0 6) + (1 : Int32)), .ref a0], st_mm (st_p (st_p (st_p s (a0 + 4) ((st_g s a0 6)).toNatClampNeg x0) (a0 + 5) ((st_g (st_p s (a0 + 4) ((st_g s a0 6)).toNatClampNeg x0) a0 6)).toNatClampNeg x1) a0 7 ((st_g (st_p (st_p s (a0 + 4) ((st_g s a0 6)).toNatClampNeg x0) (a0 + 5) ((st_g (st_p s (a0 + 4) ((st_g s a0 6)).toNatClampNeg x0) a0 6)).toNatClampNeg x1) a0 7) ||| ((1 : Int32) <<< ((st_g (st_p (st_p s (a0 + 4) ((st_g s a0 6)).toNatClampNeg x0) (a0 + 5) ((st_g (st_p s (a0 + 4) ((st_g s a0 6)).toNatClampNeg x0) a0 6)).toNatClampNeg x1) a0 6) &&& 31)))))) rfl ?_
      refine bi_Tpi rfl rfl rfl rfl (st_kS0 ha0) ?_
      refine bi_Tr 1 (s' := (65, [(0, .ref a0), (1, .int x0), (2, .int x1), (3, .int x2)], [.int (1 : Int32)], st_mm (st_p (st_p (st_p (st_p s (a0 + 4) ((st_g s a0 6)).toNatClampNeg x0) (a0 + 5) ((st_g (st_p s (a0 + 4) ((st_g s a0 6)).toNatClampNeg x0) a0 6)).toNatClampNeg x1) a0 7 ((st_g (st_p (st_p s (a0 + 4) ((st_g s a0 6)).toNatClampNeg x0) (a0 + 5) ((st_g (st_p s (a0 + 4) ((st_g s a0 6)).toNatClampNeg x0) a0 6)).toNatClampNeg x1) a0 7) ||| ((1 : Int32) <<< ((st_g (st_p (st_p s (a0 + 4) ((st_g s a0 6)).toNatClampNeg x0) (a0 + 5) ((st_g (st_p s (a0 + 4) ((st_g s a0 6)).toNatClampNeg x0) a0 6)).toNatClampNeg x1) a0 6) &&& 31)))) a0 6 ((st_g (st_p (st_p (st_p s (a0 + 4) ((st_g s a0 6)).toNatClampNeg x0) (a0 + 5) ((st_g (st_p s (a0 + 4) ((st_g s a0 6)).toNatClampNeg x0) a0 6)).toNatClampNeg x1) a0 7 ((st_g (st_p (st_p s (a0 + 4) ((st_g s a0 6)).toNatClampNeg x0) (a0 + 5) ((st_g (st_p s (a0 + 4) ((st_g s a0 6)).toNatClampNeg x0) a0 6)).toNatClampNeg x1) a0 7) ||| ((1 : Int32) <<< ((st_g (st_p (st_p s (a0 + 4) ((st_g s a0 6)).toNatClampNeg x0) (a0 + 5) ((st_g (st_p s (a0 + 4) ((st_g s a0 6)).toNatClampNeg x0) a0 6)).toNatClampNeg x1) a0 6) &&& 31)))) a0 6) + (1 : Int32))))) rfl ?_
      exact bi_Tv rfl rfl (Or.inl ⟨_, _, rfl, h⟩)
  · have h := h.2 hc
    refine bi_Tr 1 (s' := (10, [(0, .ref a0), (1, .int x0), (2, .int x1), (3, .int x2)], [.int (0 : Int32)], st_mm s)) rfl ?_
    exact bi_Tv rfl rfl (Or.inl ⟨_, _, rfl, h⟩)
/-- PolicyRows$State.forgetSeen()V -/
theorem en_X6_forgetSeen {X : bi_X} {d : Nat} {K : bi_St → Prop} {E : Nat → bi_St → Prop} {s : bi_St} {a0 : Nat} (ha0 : st_isS a0) (h : K (st_p (st_p s a0 6 (0 : Int32)) a0 7 (0 : Int32))) : cV X d 85 [.ref a0] s K E := by
  show bi_T _ _ _ _ _
  refine bi_Tr 2 (s' := (2, [(0, .ref a0)], [.int (0 : Int32), .ref a0], st_mm s)) rfl ?_
  refine bi_Tpi rfl rfl rfl rfl (st_kS0 ha0) ?_
  refine bi_Tr 2 (s' := (7, [(0, .ref a0)], [.int (0 : Int32), .ref a0], st_mm (st_p s a0 6 (0 : Int32)))) rfl ?_
  refine bi_Tpi rfl rfl rfl rfl (st_kS0 ha0) ?_
  exact bi_Tv rfl rfl (Or.inl ⟨_, rfl, h⟩)
def at_X8_put_3 (X : bi_X) (d : Nat) (K : bi_St → Prop) (E : Nat → bi_St → Prop) (s : bi_St) (y1 : Int32) (y2 : Int32) : Prop := bi_T X d 92 (3, [(0, .ref 1), (1, .int y1), (2, .int y2)], [], st_mm s) (st_RV K E)
theorem go_X8_put_3 {X : bi_X} {d : Nat} {K : bi_St → Prop} {E : Nat → bi_St → Prop}  {s : bi_St} {y1 : Int32} {y2 : Int32}  (h : ((y2 < 0) → K s) ∧ (¬ (y2 < 0) → (((700 : Int32) ≤ (st_g s 1 1)) → K s) ∧ (¬ ((700 : Int32) ≤ (st_g s 1 1)) → bi_in (st_g s 1 1) 700 = true ∧ (at_X8_put_3 X d K E (st_p (st_p s 2 ((st_g s 1 1)).toNatClampNeg (bi_nar 13 ((y1 >>> (y2 &&& 31))).toInt8.toInt32)) 1 1 ((st_g (st_p s 2 ((st_g s 1 1)).toNatClampNeg (bi_nar 13 ((y1 >>> (y2 &&& 31))).toInt8.toInt32)) 1 1) + (1 : Int32))) (y1) ((y2 + (-8 : Int32))))))) : at_X8_put_3 X d K E s y1 y2 := by
  show bi_T _ _ _ _ _
  refine bi_Tr 2 (s' := ((if y2 < 0 then 46 else 7), [(0, .ref 1), (1, .int y1), (2, .int y2)], [], st_mm s)) rfl (bi_Tif (fun hc => ?_) (fun hc => ?_))
  · have h := h.1 hc
    exact bi_Tv rfl rfl (Or.inl ⟨_, rfl, h⟩)
  · have h := h.2 hc
    refine bi_Tr 4 (s' := ((if (700 : Int32) ≤ (st_g s 1 1) then 46 else 17), [(0, .ref 1), (1, .int y1), (2, .int y2)], [], st_mm s)) rfl (bi_Tif (fun hc => ?_) (fun hc => ?_))
    · have h := h.1 hc
      exact bi_Tv rfl rfl (Or.inl ⟨_, rfl, h⟩)
    · have h := h.2 hc
      refine bi_Tr 8 (s' := (29, [(0, .ref 1), (1, .int y1), (2, .int y2)], [.int ((y1 >>> (y2 &&& 31))).toInt8.toInt32, .int (st_g s 1 1), .ref 2], st_mm s)) rfl ?_
      obtain ⟨hi, h⟩ := h
      refine bi_Tbas rfl rfl rfl hi ?_
      refine bi_Tr 8 (s' := (3, [(2, .int (y2 + (-8 : Int32))), (0, .ref 1), (1, .int y1)], [], st_mm (st_p (st_p s 2 ((st_g s 1 1)).toNatClampNeg (bi_nar 13 ((y1 >>> (y2 &&& 31))).toInt8.toInt32)) 1 1 ((st_g (st_p s 2 ((st_g s 1 1)).toNatClampNeg (bi_nar 13 ((y1 >>> (y2 &&& 31))).toInt8.toInt32)) 1 1) + (1 : Int32))))) rfl ?_
      exact bi_Tww h rfl rfl ⟨rfl, rfl, rfl, trivial⟩
/-- PolicyRows$Tape.put(I)V -/
theorem en_X8_put {X : bi_X} {d : Nat} {K : bi_St → Prop} {E : Nat → bi_St → Prop} {s : bi_St} {x0 : Int32}  (h : at_X8_put_3 X d K E s (x0) ((24 : Int32))) : cV X d 92 [.ref 1, .int x0] s K E := by
  show bi_T _ _ _ _ _
  refine bi_Tr 2 (s' := (3, [(2, .int (24 : Int32)), (0, .ref 1), (1, .int x0)], [], st_mm s)) rfl ?_
  exact bi_Tww h rfl rfl ⟨rfl, rfl, rfl, trivial⟩
/-- PolicyRows$Tape.begin(I)V -/
theorem en_X8_begin {X : bi_X} {d : Nat} {K : bi_St → Prop} {E : Nat → bi_St → Prop} {s : bi_St} {x0 : Int32}  (h : cI X d 270 [.int x0, .int (st_g s 1 1)] s (fun (r1 : Int32) (s1 : bi_St) => cV X d 94 [.ref 1] (st_p (st_p (st_p (st_p (st_p (st_p s1 1 2 r1) 1 3 (0 : Int32)) 1 4 (0 : Int32)) 1 5 (0 : Int32)) 1 9 (0 : Int32)) 1 10 (-1 : Int32)) (fun (s2 : bi_St) => K s2) (fun _ _ => False)) (fun _ _ => False)) : cV X (d + 1) 93 [.ref 1, .int x0] s K E := by
  show bi_T _ _ _ _ _
  refine bi_Tr 4 (s' := (6, [(0, .ref 1), (1, .int x0)], [.int (st_g s 1 1), .int x0, .ref 1], st_mm s)) rfl ?_
  refine bi_TcI (as := [.int x0, .int (st_g s 1 1)]) rfl rfl ?_
  refine cI.mono h (fun r1 s1 h => ?_) (fun _ _ h => h.elim)
  refine bi_Tr 17 (s' := (38, [(0, .ref 1), (1, .int x0)], [.ref 1], st_mm (st_p (st_p (st_p (st_p (st_p (st_p s1 1 2 r1) 1 3 (0 : Int32)) 1 4 (0 : Int32)) 1 5 (0 : Int32)) 1 9 (0 : Int32)) 1 10 (-1 : Int32)))) rfl ?_
  refine bi_TcV (as := [.ref 1]) rfl rfl ?_
  refine cV.mono h (fun s2 h => ?_) (fun _ _ h => h.elim)
  exact bi_Tv rfl rfl (Or.inl ⟨_, rfl, h⟩)
def at_X8_advance_32 (X : bi_X) (d : Nat) (K : bi_St → Prop) (E : Nat → bi_St → Prop) (s : bi_St)  : Prop := bi_T X d 94 (32, [(0, .ref 1)], [], st_mm s) (st_RV K E)
def at_X8_advance_84 (X : bi_X) (d : Nat) (K : bi_St → Prop) (E : Nat → bi_St → Prop) (s : bi_St)  : Prop := bi_T X d 94 (84, [(0, .ref 1)], [], st_mm s) (st_RV K E)
def at_X8_advance_71 (X : bi_X) (d : Nat) (K : bi_St → Prop) (E : Nat → bi_St → Prop) (s : bi_St)  : Prop := bi_T X d 94 (71, [(0, .ref 1)], [], st_mm s) (st_RV K E)
def at_X8_advance_188 (X : bi_X) (d : Nat) (K : bi_St → Prop) (E : Nat → bi_St → Prop) (s : bi_St) (y1 : Int32) : Prop := bi_T X d 94 (188, [(0, .ref 1), (1, .int y1)], [], st_mm s) (st_RV K E)
def at_X8_advance_136 (X : bi_X) (d : Nat) (K : bi_St → Prop) (E : Nat → bi_St → Prop) (s : bi_St)  : Prop := bi_T X d 94 (136, [(0, .ref 1)], [], st_mm s) (st_RV K E)
def at_X8_advance_264 (X : bi_X) (d : Nat) (K : bi_St → Prop) (E : Nat → bi_St → Prop) (s : bi_St)  : Prop := bi_T X d 94 (264, [(0, .ref 1)], [], st_mm s) (st_RV K E)
def at_X8_advance_205 (X : bi_X) (d : Nat) (K : bi_St → Prop) (E : Nat → bi_St → Prop) (s : bi_St)  : Prop := bi_T X d 94 (205, [(0, .ref 1)], [], st_mm s) (st_RV K E)
def at_X8_advance_279 (X : bi_X) (d : Nat) (K : bi_St → Prop) (E : Nat → bi_St → Prop) (s : bi_St)  : Prop := bi_T X d 94 (279, [], [], st_mm s) (st_RV K E)
def at_X8_advance_257 (X : bi_X) (d : Nat) (K : bi_St → Prop) (E : Nat → bi_St → Prop) (s : bi_St)  : Prop := bi_T X d 94 (257, [(0, .ref 1)], [], st_mm s) (st_RV K E)
theorem go_X8_advance_32 {X : bi_X} {d : Nat} {K : bi_St → Prop} {E : Nat → bi_St → Prop}  {s : bi_St}   (h : (((st_g s 1 2) ≤ (st_g s 1 5)) → at_X8_advance_84 X (d + 1) K E s) ∧ (¬ ((st_g s 1 2) ≤ (st_g s 1 5)) → bi_in (st_g s 1 5) 700 = true ∧ ((((st_g s 2 ((st_g s 1 5)).toNatClampNeg) = (32 : Int32)) → at_X8_advance_71 X (d + 1) K E s) ∧ (¬ ((st_g s 2 ((st_g s 1 5)).toNatClampNeg) = (32 : Int32)) → bi_in (st_g s 1 5) 700 = true ∧ (((¬ (st_g s 2 ((st_g s 1 5)).toNatClampNeg) = (10 : Int32)) → at_X8_advance_84 X (d + 1) K E s) ∧ (¬ (¬ (st_g s 2 ((st_g s 1 5)).toNatClampNeg) = (10 : Int32)) → at_X8_advance_71 X (d + 1) K E s)))))) : at_X8_advance_32 X (d + 1) K E s  := by
  show bi_T _ _ _ _ _
  refine bi_Tr 5 (s' := ((if (st_g s 1 2) ≤ (st_g s 1 5) then 84 else 43), [(0, .ref 1)], [], st_mm s)) rfl (bi_Tif (fun hc => ?_) (fun hc => ?_))
  · have h := h.1 hc
    exact bi_Tww h rfl rfl ⟨rfl, trivial⟩
  · have h := h.2 hc
    refine bi_Tr 4 (s' := (51, [(0, .ref 1)], [.int (st_g s 1 5), .ref 2], st_mm s)) rfl ?_
    obtain ⟨hi, h⟩ := h
    refine bi_Tbal rfl rfl rfl hi ?_
    refine bi_Tr 2 (s' := ((if (st_g s 2 ((st_g s 1 5)).toNatClampNeg) = (32 : Int32) then 71 else 57), [(0, .ref 1)], [], st_mm s)) rfl (bi_Tif (fun hc => ?_) (fun hc => ?_))
    · have h := h.1 hc
      exact bi_Tww h rfl rfl ⟨rfl, trivial⟩
    · have h := h.2 hc
      refine bi_Tr 4 (s' := (65, [(0, .ref 1)], [.int (st_g s 1 5), .ref 2], st_mm s)) rfl ?_
      obtain ⟨hi, h⟩ := h
      refine bi_Tbal rfl rfl rfl hi ?_
      refine bi_Tr 2 (s' := ((if ¬ (st_g s 2 ((st_g s 1 5)).toNatClampNeg) = (10 : Int32) then 84 else 71), [(0, .ref 1)], [], st_mm s)) rfl (bi_Tif (fun hc => ?_) (fun hc => ?_))
      · have h := h.1 hc
        exact bi_Tww h rfl rfl ⟨rfl, trivial⟩
      · have h := h.2 hc
        exact bi_Tww h rfl rfl ⟨rfl, trivial⟩
theorem go_X8_advance_84 {X : bi_X} {d : Nat} {K : bi_St → Prop} {E : Nat → bi_St → Prop}  {s : bi_St}   (h : (((st_g (st_p s 1 4 (st_g s 1 5)) 1 4) < (st_g (st_p s 1 4 (st_g s 1 5)) 1 2)) → bi_in (st_g (st_p s 1 4 (st_g s 1 5)) 1 4) 700 = true ∧ ((((st_g (st_p s 1 4 (st_g s 1 5)) 2 ((st_g (st_p s 1 4 (st_g s 1 5)) 1 4)).toNatClampNeg) < (97 : Int32)) → at_X8_advance_188 X (d + 1) K E (st_p s 1 4 (st_g s 1 5)) ((st_g (st_p s 1 4 (st_g s 1 5)) 2 ((st_g (st_p s 1 4 (st_g s 1 5)) 1 4)).toNatClampNeg))) ∧ (¬ ((st_g (st_p s 1 4 (st_g s 1 5)) 2 ((st_g (st_p s 1 4 (st_g s 1 5)) 1 4)).toNatClampNeg) < (97 : Int32)) → (((122 : Int32) < (st_g (st_p s 1 4 (st_g s 1 5)) 2 ((st_g (st_p s 1 4 (st_g s 1 5)) 1 4)).toNatClampNeg)) → at_X8_advance_188 X (d + 1) K E (st_p s 1 4 (st_g s 1 5)) ((st_g (st_p s 1 4 (st_g s 1 5)) 2 ((st_g (st_p s 1 4 (st_g s 1 5)) 1 4)).toNatClampNeg))) ∧ (¬ ((122 : Int32) < (st_g (st_p s 1 4 (st_g s 1 5)) 2 ((st_g (st_p s 1 4 (st_g s 1 5)) 1 4)).toNatClampNeg)) → at_X8_advance_136 X (d + 1) K E (st_p (st_p s 1 4 (st_g s 1 5)) 1 3 (1 : Int32)))))) ∧ (¬ ((st_g (st_p s 1 4 (st_g s 1 5)) 1 4) < (st_g (st_p s 1 4 (st_g s 1 5)) 1 2)) → K (st_p (st_p s 1 4 (st_g s 1 5)) 1 3 (0 : Int32)))) : at_X8_advance_84 X (d + 1) K E s  := by
  show bi_T _ _ _ _ _
  refine bi_Tr 9 (s' := ((if (st_g (st_p s 1 4 (st_g s 1 5)) 1 4) < (st_g (st_p s 1 4 (st_g s 1 5)) 1 2) then 109 else 103), [(0, .ref 1)], [], st_mm (st_p s 1 4 (st_g s 1 5)))) rfl (bi_Tif (fun hc => ?_) (fun hc => ?_))
  · have h := h.1 hc
    refine bi_Tr 4 (s' := (117, [(0, .ref 1)], [.int (st_g (st_p s 1 4 (st_g s 1 5)) 1 4), .ref 2], st_mm (st_p s 1 4 (st_g s 1 5)))) rfl ?_
    obtain ⟨hi, h⟩ := h
    refine bi_Tbal rfl rfl rfl hi ?_
    refine bi_Tr 4 (s' := ((if (st_g (st_p s 1 4 (st_g s 1 5)) 2 ((st_g (st_p s 1 4 (st_g s 1 5)) 1 4)).toNatClampNeg) < (97 : Int32) then 188 else 125), [(1, .int (st_g (st_p s 1 4 (st_g s 1 5)) 2 ((st_g (st_p s 1 4 (st_g s 1 5)) 1 4)).toNatClampNeg)), (0, .ref 1)], [], st_mm (st_p s 1 4 (st_g s 1 5)))) rfl (bi_Tif (fun hc => ?_) (fun hc => ?_))
    · have h := h.1 hc
      exact bi_Tww h rfl rfl ⟨rfl, rfl, trivial⟩
    · have h := h.2 hc
      refine bi_Tr 3 (s' := ((if (122 : Int32) < (st_g (st_p s 1 4 (st_g s 1 5)) 2 ((st_g (st_p s 1 4 (st_g s 1 5)) 1 4)).toNatClampNeg) then 188 else 131), [(1, .int (st_g (st_p s 1 4 (st_g s 1 5)) 2 ((st_g (st_p s 1 4 (st_g s 1 5)) 1 4)).toNatClampNeg)), (0, .ref 1)], [], st_mm (st_p s 1 4 (st_g s 1 5)))) rfl (bi_Tif (fun hc => ?_) (fun hc => ?_))
      · have h := h.1 hc
        exact bi_Tww h rfl rfl ⟨rfl, rfl, trivial⟩
      · have h := h.2 hc
        refine bi_Tr 3 (s' := (136, [(1, .int (st_g (st_p s 1 4 (st_g s 1 5)) 2 ((st_g (st_p s 1 4 (st_g s 1 5)) 1 4)).toNatClampNeg)), (0, .ref 1)], [], st_mm (st_p (st_p s 1 4 (st_g s 1 5)) 1 3 (1 : Int32)))) rfl ?_
        exact bi_Tww h rfl rfl ⟨rfl, trivial⟩
  · have h := h.2 hc
    refine bi_Tr 3 (s' := (108, [(0, .ref 1)], [], st_mm (st_p (st_p s 1 4 (st_g s 1 5)) 1 3 (0 : Int32)))) rfl ?_
    exact bi_Tv rfl rfl (Or.inl ⟨_, rfl, h⟩)
theorem go_X8_advance_71 {X : bi_X} {d : Nat} {K : bi_St → Prop} {E : Nat → bi_St → Prop}  {s : bi_St}   (h : at_X8_advance_32 X (d + 1) K E (st_p s 1 5 ((st_g s 1 5) + (1 : Int32)))) : at_X8_advance_71 X (d + 1) K E s  := by
  show bi_T _ _ _ _ _
  refine bi_Tr 7 (s' := (32, [(0, .ref 1)], [], st_mm (st_p s 1 5 ((st_g s 1 5) + (1 : Int32))))) rfl ?_
  exact bi_Tww h rfl rfl ⟨rfl, trivial⟩
theorem go_X8_advance_188 {X : bi_X} {d : Nat} {K : bi_St → Prop} {E : Nat → bi_St → Prop}  {s : bi_St} {y1 : Int32}  (h : ((y1 < (48 : Int32)) → at_X8_advance_264 X (d + 1) K E s) ∧ (¬ (y1 < (48 : Int32)) → (((57 : Int32) < y1) → at_X8_advance_264 X (d + 1) K E s) ∧ (¬ ((57 : Int32) < y1) → at_X8_advance_205 X (d + 1) K E (st_p s 1 3 (2 : Int32))))) : at_X8_advance_188 X (d + 1) K E s y1 := by
  show bi_T _ _ _ _ _
  refine bi_Tr 3 (s' := ((if y1 < (48 : Int32) then 264 else 194), [(0, .ref 1), (1, .int y1)], [], st_mm s)) rfl (bi_Tif (fun hc => ?_) (fun hc => ?_))
  · have h := h.1 hc
    exact bi_Tww h rfl rfl ⟨rfl, trivial⟩
  · have h := h.2 hc
    refine bi_Tr 3 (s' := ((if (57 : Int32) < y1 then 264 else 200), [(0, .ref 1), (1, .int y1)], [], st_mm s)) rfl (bi_Tif (fun hc => ?_) (fun hc => ?_))
    · have h := h.1 hc
      exact bi_Tww h rfl rfl ⟨rfl, trivial⟩
    · have h := h.2 hc
      refine bi_Tr 3 (s' := (205, [(0, .ref 1), (1, .int y1)], [], st_mm (st_p s 1 3 (2 : Int32)))) rfl ?_
      exact bi_Tww h rfl rfl ⟨rfl, trivial⟩
theorem go_X8_advance_136 {X : bi_X} {d : Nat} {K : bi_St → Prop} {E : Nat → bi_St → Prop}  {s : bi_St}   (h : (((st_g s 1 2) ≤ (st_g s 1 5)) → at_X8_advance_279 X (d + 1) K E s) ∧ (¬ ((st_g s 1 2) ≤ (st_g s 1 5)) → bi_in (st_g s 1 5) 700 = true ∧ ((((st_g s 2 ((st_g s 1 5)).toNatClampNeg) < (97 : Int32)) → at_X8_advance_279 X (d + 1) K E s) ∧ (¬ ((st_g s 2 ((st_g s 1 5)).toNatClampNeg) < (97 : Int32)) → bi_in (st_g s 1 5) 700 = true ∧ ((((122 : Int32) < (st_g s 2 ((st_g s 1 5)).toNatClampNeg)) → at_X8_advance_279 X (d + 1) K E s) ∧ (¬ ((122 : Int32) < (st_g s 2 ((st_g s 1 5)).toNatClampNeg)) → at_X8_advance_136 X (d + 1) K E (st_p s 1 5 ((st_g s 1 5) + (1 : Int32))))))))) : at_X8_advance_136 X (d + 1) K E s  := by
  show bi_T _ _ _ _ _
  refine bi_Tr 5 (s' := ((if (st_g s 1 2) ≤ (st_g s 1 5) then 279 else 147), [(0, .ref 1)], [], st_mm s)) rfl (bi_Tif (fun hc => ?_) (fun hc => ?_))
  · have h := h.1 hc
    exact bi_Tww h rfl rfl trivial
  · have h := h.2 hc
    refine bi_Tr 4 (s' := (155, [(0, .ref 1)], [.int (st_g s 1 5), .ref 2], st_mm s)) rfl ?_
    obtain ⟨hi, h⟩ := h
    refine bi_Tbal rfl rfl rfl hi ?_
    refine bi_Tr 2 (s' := ((if (st_g s 2 ((st_g s 1 5)).toNatClampNeg) < (97 : Int32) then 279 else 161), [(0, .ref 1)], [], st_mm s)) rfl (bi_Tif (fun hc => ?_) (fun hc => ?_))
    · have h := h.1 hc
      exact bi_Tww h rfl rfl trivial
    · have h := h.2 hc
      refine bi_Tr 4 (s' := (169, [(0, .ref 1)], [.int (st_g s 1 5), .ref 2], st_mm s)) rfl ?_
      obtain ⟨hi, h⟩ := h
      refine bi_Tbal rfl rfl rfl hi ?_
      refine bi_Tr 2 (s' := ((if (122 : Int32) < (st_g s 2 ((st_g s 1 5)).toNatClampNeg) then 279 else 175), [(0, .ref 1)], [], st_mm s)) rfl (bi_Tif (fun hc => ?_) (fun hc => ?_))
      · have h := h.1 hc
        exact bi_Tww h rfl rfl trivial
      · have h := h.2 hc
        refine bi_Tr 7 (s' := (136, [(0, .ref 1)], [], st_mm (st_p s 1 5 ((st_g s 1 5) + (1 : Int32))))) rfl ?_
        exact bi_Tww h rfl rfl ⟨rfl, trivial⟩
theorem go_X8_advance_264 {X : bi_X} {d : Nat} {K : bi_St → Prop} {E : Nat → bi_St → Prop}  {s : bi_St}   (h : at_X8_advance_279 X (d + 1) K E (st_p (st_p s 1 3 (3 : Int32)) 1 5 ((st_g (st_p s 1 3 (3 : Int32)) 1 5) + (1 : Int32)))) : at_X8_advance_264 X (d + 1) K E s  := by
  show bi_T _ _ _ _ _
  refine bi_Tr 9 (s' := (279, [(0, .ref 1)], [], st_mm (st_p (st_p s 1 3 (3 : Int32)) 1 5 ((st_g (st_p s 1 3 (3 : Int32)) 1 5) + (1 : Int32))))) rfl ?_
  exact bi_Tww h rfl rfl trivial
theorem go_X8_advance_205 {X : bi_X} {d : Nat} {K : bi_St → Prop} {E : Nat → bi_St → Prop}  {s : bi_St}   (h : (((st_g s 1 2) ≤ (st_g s 1 5)) → at_X8_advance_257 X (d + 1) K E s) ∧ (¬ ((st_g s 1 2) ≤ (st_g s 1 5)) → bi_in (st_g s 1 5) 700 = true ∧ ((((st_g s 2 ((st_g s 1 5)).toNatClampNeg) < (48 : Int32)) → at_X8_advance_257 X (d + 1) K E s) ∧ (¬ ((st_g s 2 ((st_g s 1 5)).toNatClampNeg) < (48 : Int32)) → bi_in (st_g s 1 5) 700 = true ∧ ((((57 : Int32) < (st_g s 2 ((st_g s 1 5)).toNatClampNeg)) → at_X8_advance_257 X (d + 1) K E s) ∧ (¬ ((57 : Int32) < (st_g s 2 ((st_g s 1 5)).toNatClampNeg)) → at_X8_advance_205 X (d + 1) K E (st_p s 1 5 ((st_g s 1 5) + (1 : Int32))))))))) : at_X8_advance_205 X (d + 1) K E s  := by
  show bi_T _ _ _ _ _
  refine bi_Tr 5 (s' := ((if (st_g s 1 2) ≤ (st_g s 1 5) then 257 else 216), [(0, .ref 1)], [], st_mm s)) rfl (bi_Tif (fun hc => ?_) (fun hc => ?_))
  · have h := h.1 hc
    exact bi_Tww h rfl rfl ⟨rfl, trivial⟩
  · have h := h.2 hc
    refine bi_Tr 4 (s' := (224, [(0, .ref 1)], [.int (st_g s 1 5), .ref 2], st_mm s)) rfl ?_
    obtain ⟨hi, h⟩ := h
    refine bi_Tbal rfl rfl rfl hi ?_
    refine bi_Tr 2 (s' := ((if (st_g s 2 ((st_g s 1 5)).toNatClampNeg) < (48 : Int32) then 257 else 230), [(0, .ref 1)], [], st_mm s)) rfl (bi_Tif (fun hc => ?_) (fun hc => ?_))
    · have h := h.1 hc
      exact bi_Tww h rfl rfl ⟨rfl, trivial⟩
    · have h := h.2 hc
      refine bi_Tr 4 (s' := (238, [(0, .ref 1)], [.int (st_g s 1 5), .ref 2], st_mm s)) rfl ?_
      obtain ⟨hi, h⟩ := h
      refine bi_Tbal rfl rfl rfl hi ?_
      refine bi_Tr 2 (s' := ((if (57 : Int32) < (st_g s 2 ((st_g s 1 5)).toNatClampNeg) then 257 else 244), [(0, .ref 1)], [], st_mm s)) rfl (bi_Tif (fun hc => ?_) (fun hc => ?_))
      · have h := h.1 hc
        exact bi_Tww h rfl rfl ⟨rfl, trivial⟩
      · have h := h.2 hc
        refine bi_Tr 7 (s' := (205, [(0, .ref 1)], [], st_mm (st_p s 1 5 ((st_g s 1 5) + (1 : Int32))))) rfl ?_
        exact bi_Tww h rfl rfl ⟨rfl, trivial⟩
theorem go_X8_advance_279 {X : bi_X} {d : Nat} {K : bi_St → Prop} {E : Nat → bi_St → Prop}  {s : bi_St}   (h : K s) : at_X8_advance_279 X (d + 1) K E s  := by
  show bi_T _ _ _ _ _
  exact bi_Tv rfl rfl (Or.inl ⟨_, rfl, h⟩)
theorem go_X8_advance_257 {X : bi_X} {d : Nat} {K : bi_St → Prop} {E : Nat → bi_St → Prop}  {s : bi_St}   (h : cV X d 95 [.ref 1] s (fun (s3 : bi_St) => at_X8_advance_279 X (d + 1) K E s3) (fun _ _ => False)) : at_X8_advance_257 X (d + 1) K E s  := by
  show bi_T _ _ _ _ _
  refine bi_Tr 1 (s' := (258, [(0, .ref 1)], [.ref 1], st_mm s)) rfl ?_
  refine bi_TcV (as := [.ref 1]) rfl rfl ?_
  refine cV.mono h (fun s3 h => ?_) (fun _ _ h => h.elim)
  refine bi_Tr 1 (s' := (279, [(0, .ref 1)], [], st_mm s3)) rfl ?_
  exact bi_Tww h rfl rfl trivial
/-- PolicyRows$Tape.advance()V -/
theorem en_X8_advance {X : bi_X} {d : Nat} {K : bi_St → Prop} {E : Nat → bi_St → Prop} {s : bi_St}   (h : cI X d 97 [.ref 1, .int (40 : Int32)] s (fun (r1 : Int32) (s1 : bi_St) => ((¬ r1 = 0) → at_X8_advance_32 X (d + 1) K E (st_p s1 1 8 ((st_g s 1 8) + (0 : Int32)))) ∧ (¬ (¬ r1 = 0) → cI X d 97 [.ref 1, .int (41 : Int32)] s1 (fun (r2 : Int32) (s2 : bi_St) => ((r2 = 0) → at_X8_advance_32 X (d + 1) K E (st_p s2 1 8 ((st_g s 1 8) + (1 : Int32)))) ∧ (¬ (r2 = 0) → at_X8_advance_32 X (d + 1) K E (st_p s2 1 8 ((st_g s 1 8) + (0 : Int32))))) (fun _ _ => False))) (fun _ _ => False)) : cV X (d + 1) 94 [.ref 1] s K E := by
  show bi_T _ _ _ _ _
  refine bi_Tr 5 (s' := (8, [(0, .ref 1)], [.int (40 : Int32), .ref 1, .int (st_g s 1 8), .ref 1], st_mm s)) rfl ?_
  refine bi_TcI (as := [.ref 1, .int (40 : Int32)]) rfl rfl ?_
  refine cI.mono h (fun r1 s1 h => ?_) (fun _ _ h => h.elim)
  refine bi_Tr 1 (s' := ((if ¬ r1 = 0 then 23 else 14), [(0, .ref 1)], [.int (st_g s 1 8), .ref 1], st_mm s1)) rfl (bi_Tif (fun hc => ?_) (fun hc => ?_))
  · have h := h.1 hc
    refine bi_Tr 4 (s' := (32, [(0, .ref 1)], [], st_mm (st_p s1 1 8 ((st_g s 1 8) + (0 : Int32))))) rfl ?_
    exact bi_Tww h rfl rfl ⟨rfl, trivial⟩
  · have h := h.2 hc
    refine bi_Tr 2 (s' := (17, [(0, .ref 1)], [.int (41 : Int32), .ref 1, .int (st_g s 1 8), .ref 1], st_mm s1)) rfl ?_
    refine bi_TcI (as := [.ref 1, .int (41 : Int32)]) rfl rfl ?_
    refine cI.mono h (fun r2 s2 h => ?_) (fun _ _ h => h.elim)
    refine bi_Tr 1 (s' := ((if r2 = 0 then 27 else 23), [(0, .ref 1)], [.int (st_g s 1 8), .ref 1], st_mm s2)) rfl (bi_Tif (fun hc => ?_) (fun hc => ?_))
    · have h := h.1 hc
      refine bi_Tr 3 (s' := (32, [(0, .ref 1)], [], st_mm (st_p s2 1 8 ((st_g s 1 8) + (1 : Int32))))) rfl ?_
      exact bi_Tww h rfl rfl ⟨rfl, trivial⟩
    · have h := h.2 hc
      refine bi_Tr 4 (s' := (32, [(0, .ref 1)], [], st_mm (st_p s2 1 8 ((st_g s 1 8) + (0 : Int32))))) rfl ?_
      exact bi_Tww h rfl rfl ⟨rfl, trivial⟩
def at_X8_workOutNumber_32 (X : bi_X) (d : Nat) (K : bi_St → Prop) (E : Nat → bi_St → Prop) (s : bi_St) (y1 : Int32) : Prop := bi_T X d 95 (32, [(0, .ref 1), (1, .int y1)], [], st_mm s) (st_RV K E)
theorem go_X8_workOutNumber_32 {X : bi_X} {d : Nat} {K : bi_St → Prop} {E : Nat → bi_St → Prop}  {s : bi_St} {y1 : Int32}  (h : (((st_g s 1 5) ≤ y1) → K s) ∧ (¬ ((st_g s 1 5) ≤ y1) → ((¬ (st_g s 1 7) = 0) → K s) ∧ (¬ (¬ (st_g s 1 7) = 0) → bi_in y1 700 = true ∧ (at_X8_workOutNumber_32 X d K E (st_p s 1 6 ((((st_g s 1 6) * (10 : Int32)) + (st_g s 2 (y1).toNatClampNeg)) - (48 : Int32))) ((y1 + (1 : Int32))))))) : at_X8_workOutNumber_32 X d K E s y1 := by
  show bi_T _ _ _ _ _
  refine bi_Tr 4 (s' := ((if (st_g s 1 5) ≤ y1 then 74 else 40), [(0, .ref 1), (1, .int y1)], [], st_mm s)) rfl (bi_Tif (fun hc => ?_) (fun hc => ?_))
  · have h := h.1 hc
    exact bi_Tv rfl rfl (Or.inl ⟨_, rfl, h⟩)
  · have h := h.2 hc
    refine bi_Tr 3 (s' := ((if ¬ (st_g s 1 7) = 0 then 74 else 47), [(0, .ref 1), (1, .int y1)], [], st_mm s)) rfl (bi_Tif (fun hc => ?_) (fun hc => ?_))
    · have h := h.1 hc
      exact bi_Tv rfl rfl (Or.inl ⟨_, rfl, h⟩)
    · have h := h.2 hc
      refine bi_Tr 8 (s' := (60, [(0, .ref 1), (1, .int y1)], [.int y1, .ref 2, .int ((st_g s 1 6) * (10 : Int32)), .ref 1], st_mm s)) rfl ?_
      obtain ⟨hi, h⟩ := h
      refine bi_Tbal rfl rfl rfl hi ?_
      refine bi_Tr 6 (s' := (32, [(1, .int (y1 + (1 : Int32))), (0, .ref 1)], [], st_mm (st_p s 1 6 ((((st_g s 1 6) * (10 : Int32)) + (st_g s 2 (y1).toNatClampNeg)) - (48 : Int32))))) rfl ?_
      exact bi_Tww h rfl rfl ⟨rfl, rfl, trivial⟩
/-- PolicyRows$Tape.workOutNumber()V -/
theorem en_X8_workOutNumber {X : bi_X} {d : Nat} {K : bi_St → Prop} {E : Nat → bi_St → Prop} {s : bi_St}   (h : ((((st_g s 1 5) - (st_g s 1 4)) ≤ (4 : Int32)) → at_X8_workOutNumber_32 X d K E (st_p (st_p s 1 7 (0 : Int32)) 1 6 (0 : Int32)) ((st_g (st_p (st_p s 1 7 (0 : Int32)) 1 6 (0 : Int32)) 1 4))) ∧ (¬ (((st_g s 1 5) - (st_g s 1 4)) ≤ (4 : Int32)) → at_X8_workOutNumber_32 X d K E (st_p (st_p s 1 7 (1 : Int32)) 1 6 (0 : Int32)) ((st_g (st_p (st_p s 1 7 (1 : Int32)) 1 6 (0 : Int32)) 1 4)))) : cV X d 95 [.ref 1] s K E := by
  show bi_T _ _ _ _ _
  refine bi_Tr 8 (s' := ((if ((st_g s 1 5) - (st_g s 1 4)) ≤ (4 : Int32) then 18 else 14), [(0, .ref 1)], [.ref 1], st_mm s)) rfl (bi_Tif (fun hc => ?_) (fun hc => ?_))
  · have h := h.1 hc
    refine bi_Tr 1 (s' := (19, [(0, .ref 1)], [.int (0 : Int32), .ref 1], st_mm s)) rfl ?_
    refine bi_Tpz rfl rfl rfl rfl rfl rfl ?_
    refine bi_Tr 6 (s' := (32, [(1, .int (st_g (st_p (st_p s 1 7 (0 : Int32)) 1 6 (0 : Int32)) 1 4)), (0, .ref 1)], [], st_mm (st_p (st_p s 1 7 (0 : Int32)) 1 6 (0 : Int32)))) rfl ?_
    exact bi_Tww h rfl rfl ⟨rfl, rfl, trivial⟩
  · have h := h.2 hc
    refine bi_Tr 2 (s' := (19, [(0, .ref 1)], [.int (1 : Int32), .ref 1], st_mm s)) rfl ?_
    refine bi_Tpz rfl rfl rfl rfl rfl rfl ?_
    refine bi_Tr 6 (s' := (32, [(1, .int (st_g (st_p (st_p s 1 7 (1 : Int32)) 1 6 (0 : Int32)) 1 4)), (0, .ref 1)], [], st_mm (st_p (st_p s 1 7 (1 : Int32)) 1 6 (0 : Int32)))) rfl ?_
    exact bi_Tww h rfl rfl ⟨rfl, rfl, trivial⟩
def at_X8_isWord_28 (X : bi_X) (d : Nat) (K : Int32 → bi_St → Prop) (E : Nat → bi_St → Prop) (s : bi_St) (y2 : Int32) (q : Nat) : Prop := bi_T X d 96 (28, [(0, .ref 1), (1, .ref (q + 5000)), (2, .int y2)], [], st_mm s) (st_RI K E)
theorem go_X8_isWord_28 {X : bi_X} {d : Nat} {K : Int32 → bi_St → Prop} {E : Nat → bi_St → Prop}  {s : bi_St} {y2 : Int32} {q : Nat} (hq : q < 25) (h : (((Int32.ofNat ((bi_TX.getD q []).length)) ≤ y2) → K (1 : Int32) s) ∧ (¬ ((Int32.ofNat ((bi_TX.getD q []).length)) ≤ y2) → bi_in ((st_g s 1 4) + y2) 700 = true ∧ (bi_in y2 ((bi_TX.getD q []).length) = true ∧ ((((st_g s 2 (((st_g s 1 4) + y2)).toNatClampNeg) = (Int32.ofNat ((bi_TX.getD q []).getD (y2).toNatClampNeg 0))) → at_X8_isWord_28 X d K E s ((y2 + (1 : Int32))) (q)) ∧ (¬ ((st_g s 2 (((st_g s 1 4) + y2)).toNatClampNeg) = (Int32.ofNat ((bi_TX.getD q []).getD (y2).toNatClampNeg 0))) → K (0 : Int32) s))))) : at_X8_isWord_28 X d K E s y2 q := by
  show bi_T _ _ _ _ _
  refine bi_Tr 2 (s' := (30, [(0, .ref 1), (1, .ref (q + 5000)), (2, .int y2)], [.ref (q + 5000), .int y2], st_mm s)) rfl ?_
  refine bi_Tsl (z := 0) rfl rfl hq rfl ?_
  refine bi_Tr 1 (s' := ((if (Int32.ofNat ((bi_TX.getD q []).length)) ≤ y2 then 63 else 36), [(0, .ref 1), (1, .ref (q + 5000)), (2, .int y2)], [], st_mm s)) rfl (bi_Tif (fun hc => ?_) (fun hc => ?_))
  · have h := h.1 hc
    refine bi_Tr 1 (s' := (64, [(0, .ref 1), (1, .ref (q + 5000)), (2, .int y2)], [.int (1 : Int32)], st_mm s)) rfl ?_
    exact bi_Tv rfl rfl (Or.inl ⟨_, _, rfl, h⟩)
  · have h := h.2 hc
    refine bi_Tr 6 (s' := (46, [(0, .ref 1), (1, .ref (q + 5000)), (2, .int y2)], [.int ((st_g s 1 4) + y2), .ref 2], st_mm s)) rfl ?_
    obtain ⟨hi, h⟩ := h
    refine bi_Tbal rfl rfl rfl hi ?_
    refine bi_Tr 2 (s' := (49, [(0, .ref 1), (1, .ref (q + 5000)), (2, .int y2)], [.int y2, .ref (q + 5000), .int (st_g s 2 (((st_g s 1 4) + y2)).toNatClampNeg)], st_mm s)) rfl ?_
    obtain ⟨hi, h⟩ := h
    refine bi_Tch (z := 0) rfl rfl hq rfl hi ?_
    refine bi_Tr 1 (s' := ((if (st_g s 2 (((st_g s 1 4) + y2)).toNatClampNeg) = (Int32.ofNat ((bi_TX.getD q []).getD (y2).toNatClampNeg 0)) then 57 else 55), [(0, .ref 1), (1, .ref (q + 5000)), (2, .int y2)], [], st_mm s)) rfl (bi_Tif (fun hc => ?_) (fun hc => ?_))
    · have h := h.1 hc
      refine bi_Tr 2 (s' := (28, [(2, .int (y2 + (1 : Int32))), (0, .ref 1), (1, .ref (q + 5000))], [], st_mm s)) rfl ?_
      exact bi_Tww h rfl rfl ⟨rfl, rfl, rfl, trivial⟩
    · have h := h.2 hc
      refine bi_Tr 1 (s' := (56, [(0, .ref 1), (1, .ref (q + 5000)), (2, .int y2)], [.int (0 : Int32)], st_mm s)) rfl ?_
      exact bi_Tv rfl rfl (Or.inl ⟨_, _, rfl, h⟩)
/-- PolicyRows$Tape.isWord(Ljava/lang/String;)Z -/
theorem en_X8_isWord {X : bi_X} {d : Nat} {K : Int32 → bi_St → Prop} {E : Nat → bi_St → Prop} {s : bi_St} {q : Nat} (hq : q < 25) (h : ((¬ (st_g s 1 3) = (1 : Int32)) → K (0 : Int32) s) ∧ (¬ (¬ (st_g s 1 3) = (1 : Int32)) → ((((st_g s 1 5) - (st_g s 1 4)) = (Int32.ofNat ((bi_TX.getD q []).length))) → at_X8_isWord_28 X d K E s ((0 : Int32)) (q)) ∧ (¬ (((st_g s 1 5) - (st_g s 1 4)) = (Int32.ofNat ((bi_TX.getD q []).length))) → K (0 : Int32) s))) : cI X d 96 [.ref 1, .ref (q + 5000)] s K E := by
  show bi_T _ _ _ _ _
  refine bi_Tr 4 (s' := ((if ¬ (st_g s 1 3) = (1 : Int32) then 24 else 8), [(0, .ref 1), (1, .ref (q + 5000))], [], st_mm s)) rfl (bi_Tif (fun hc => ?_) (fun hc => ?_))
  · have h := h.1 hc
    refine bi_Tr 1 (s' := (25, [(0, .ref 1), (1, .ref (q + 5000))], [.int (0 : Int32)], st_mm s)) rfl ?_
    exact bi_Tv rfl rfl (Or.inl ⟨_, _, rfl, h⟩)
  · have h := h.2 hc
    refine bi_Tr 6 (s' := (18, [(0, .ref 1), (1, .ref (q + 5000))], [.ref (q + 5000), .int ((st_g s 1 5) - (st_g s 1 4))], st_mm s)) rfl ?_
    refine bi_Tsl (z := 0) rfl rfl hq rfl ?_
    refine bi_Tr 1 (s' := ((if ((st_g s 1 5) - (st_g s 1 4)) = (Int32.ofNat ((bi_TX.getD q []).length)) then 26 else 24), [(0, .ref 1), (1, .ref (q + 5000))], [], st_mm s)) rfl (bi_Tif (fun hc => ?_) (fun hc => ?_))
    · have h := h.1 hc
      refine bi_Tr 2 (s' := (28, [(2, .int (0 : Int32)), (0, .ref 1), (1, .ref (q + 5000))], [], st_mm s)) rfl ?_
      exact bi_Tww h rfl rfl ⟨rfl, rfl, rfl, trivial⟩
    · have h := h.2 hc
      refine bi_Tr 1 (s' := (25, [(0, .ref 1), (1, .ref (q + 5000))], [.int (0 : Int32)], st_mm s)) rfl ?_
      exact bi_Tv rfl rfl (Or.inl ⟨_, _, rfl, h⟩)
/-- PolicyRows$Tape.isSign(C)Z -/
theorem en_X8_isSign {X : bi_X} {d : Nat} {K : Int32 → bi_St → Prop} {E : Nat → bi_St → Prop} {s : bi_St} {x0 : Int32}  (h : ((¬ (st_g s 1 3) = (3 : Int32)) → K (0 : Int32) s) ∧ (¬ (¬ (st_g s 1 3) = (3 : Int32)) → bi_in (st_g s 1 4) 700 = true ∧ (((¬ (st_g s 2 ((st_g s 1 4)).toNatClampNeg) = x0) → K (0 : Int32) s) ∧ (¬ (¬ (st_g s 2 ((st_g s 1 4)).toNatClampNeg) = x0) → K (1 : Int32) s)))) : cI X d 97 [.ref 1, .int x0] s K E := by
  show bi_T _ _ _ _ _
  refine bi_Tr 4 (s' := ((if ¬ (st_g s 1 3) = (3 : Int32) then 25 else 8), [(0, .ref 1), (1, .int x0)], [], st_mm s)) rfl (bi_Tif (fun hc => ?_) (fun hc => ?_))
  · have h := h.1 hc
    refine bi_Tr 1 (s' := (26, [(0, .ref 1), (1, .int x0)], [.int (0 : Int32)], st_mm s)) rfl ?_
    exact bi_Tv rfl rfl (Or.inl ⟨_, _, rfl, h⟩)
  · have h := h.2 hc
    refine bi_Tr 4 (s' := (16, [(0, .ref 1), (1, .int x0)], [.int (st_g s 1 4), .ref 2], st_mm s)) rfl ?_
    obtain ⟨hi, h⟩ := h
    refine bi_Tbal rfl rfl rfl hi ?_
    refine bi_Tr 2 (s' := ((if ¬ (st_g s 2 ((st_g s 1 4)).toNatClampNeg) = x0 then 25 else 21), [(0, .ref 1), (1, .int x0)], [], st_mm s)) rfl (bi_Tif (fun hc => ?_) (fun hc => ?_))
    · have h := h.1 hc
      refine bi_Tr 1 (s' := (26, [(0, .ref 1), (1, .int x0)], [.int (0 : Int32)], st_mm s)) rfl ?_
      exact bi_Tv rfl rfl (Or.inl ⟨_, _, rfl, h⟩)
    · have h := h.2 hc
      refine bi_Tr 2 (s' := (26, [(0, .ref 1), (1, .int x0)], [.int (1 : Int32)], st_mm s)) rfl ?_
      exact bi_Tv rfl rfl (Or.inl ⟨_, _, rfl, h⟩)
/-- PolicyRows$Tape.columnNamed(I)I -/
theorem en_X8_columnNamed {X : bi_X} {d : Nat} {K : Int32 → bi_St → Prop} {E : Nat → bi_St → Prop} {s : bi_St} {x0 : Int32}  (h : ((¬ (st_g s 1 3) = (1 : Int32)) → K (-1 : Int32) s) ∧ (¬ (¬ (st_g s 1 3) = (1 : Int32)) → ((((st_g s 1 5) - (st_g s 1 4)) = (1 : Int32)) → bi_in (st_g s 1 4) 700 = true ∧ (((x0 ≤ ((st_g s 2 ((st_g s 1 4)).toNatClampNeg) - (97 : Int32))) → K (-1 : Int32) s) ∧ (¬ (x0 ≤ ((st_g s 2 ((st_g s 1 4)).toNatClampNeg) - (97 : Int32))) → K ((st_g s 2 ((st_g s 1 4)).toNatClampNeg) - (97 : Int32)) s))) ∧ (¬ (((st_g s 1 5) - (st_g s 1 4)) = (1 : Int32)) → K (-1 : Int32) s))) : cI X d 98 [.ref 1, .int x0] s K E := by
  show bi_T _ _ _ _ _
  refine bi_Tr 4 (s' := ((if ¬ (st_g s 1 3) = (1 : Int32) then 21 else 8), [(0, .ref 1), (1, .int x0)], [], st_mm s)) rfl (bi_Tif (fun hc => ?_) (fun hc => ?_))
  · have h := h.1 hc
    refine bi_Tr 1 (s' := (22, [(0, .ref 1), (1, .int x0)], [.int (-1 : Int32)], st_mm s)) rfl ?_
    exact bi_Tv rfl rfl (Or.inl ⟨_, _, rfl, h⟩)
  · have h := h.2 hc
    refine bi_Tr 7 (s' := ((if ((st_g s 1 5) - (st_g s 1 4)) = (1 : Int32) then 23 else 21), [(0, .ref 1), (1, .int x0)], [], st_mm s)) rfl (bi_Tif (fun hc => ?_) (fun hc => ?_))
    · have h := h.1 hc
      refine bi_Tr 4 (s' := (31, [(0, .ref 1), (1, .int x0)], [.int (st_g s 1 4), .ref 2], st_mm s)) rfl ?_
      obtain ⟨hi, h⟩ := h
      refine bi_Tbal rfl rfl rfl hi ?_
      refine bi_Tr 6 (s' := ((if x0 ≤ ((st_g s 2 ((st_g s 1 4)).toNatClampNeg) - (97 : Int32)) then 45 else 41), [(2, .int ((st_g s 2 ((st_g s 1 4)).toNatClampNeg) - (97 : Int32))), (0, .ref 1), (1, .int x0)], [], st_mm s)) rfl (bi_Tif (fun hc => ?_) (fun hc => ?_))
      · have h := h.1 hc
        refine bi_Tr 1 (s' := (46, [(2, .int ((st_g s 2 ((st_g s 1 4)).toNatClampNeg) - (97 : Int32))), (0, .ref 1), (1, .int x0)], [.int (-1 : Int32)], st_mm s)) rfl ?_
        exact bi_Tv rfl rfl (Or.inl ⟨_, _, rfl, h⟩)
      · have h := h.2 hc
        refine bi_Tr 2 (s' := (46, [(2, .int ((st_g s 2 ((st_g s 1 4)).toNatClampNeg) - (97 : Int32))), (0, .ref 1), (1, .int x0)], [.int ((st_g s 2 ((st_g s 1 4)).toNatClampNeg) - (97 : Int32))], st_mm s)) rfl ?_
        exact bi_Tv rfl rfl (Or.inl ⟨_, _, rfl, h⟩)
    · have h := h.2 hc
      refine bi_Tr 1 (s' := (22, [(0, .ref 1), (1, .int x0)], [.int (-1 : Int32)], st_mm s)) rfl ?_
      exact bi_Tv rfl rfl (Or.inl ⟨_, _, rfl, h⟩)
/-- PolicyRows$Tape.refuse(I)Z -/
theorem en_X8_refuse {X : bi_X} {d : Nat} {K : Int32 → bi_St → Prop} {E : Nat → bi_St → Prop} {s : bi_St} {x0 : Int32}  (h : K (0 : Int32) (st_p (st_p s 1 9 x0) 1 10 (st_g (st_p s 1 9 x0) 1 4))) : cI X d 99 [.ref 1, .int x0] s K E := by
  show bi_T _ _ _ _ _
  refine bi_Tr 8 (s' := (14, [(0, .ref 1), (1, .int x0)], [.int (0 : Int32)], st_mm (st_p (st_p s 1 9 x0) 1 10 (st_g (st_p s 1 9 x0) 1 4)))) rfl ?_
  exact bi_Tv rfl rfl (Or.inl ⟨_, _, rfl, h⟩)
/-- PolicyRows$Tape.passSign(C)Z -/
theorem en_X8_passSign {X : bi_X} {d : Nat} {K : Int32 → bi_St → Prop} {E : Nat → bi_St → Prop} {s : bi_St} {x0 : Int32}  (h : cI X d 97 [.ref 1, .int x0] s (fun (r1 : Int32) (s1 : bi_St) => ((¬ r1 = 0) → cV X d 94 [.ref 1] s1 (fun (s2 : bi_St) => K (1 : Int32) s2) (fun _ _ => False)) ∧ (¬ (¬ r1 = 0) → cI X d 99 [.ref 1, .int (1 : Int32)] s1 (fun (r3 : Int32) (s3 : bi_St) => bi_bool r3 = true ∧ (K r3 s3)) (fun _ _ => False))) (fun _ _ => False)) : cI X (d + 1) 100 [.ref 1, .int x0] s K E := by
  show bi_T _ _ _ _ _
  refine bi_Tr 2 (s' := (2, [(0, .ref 1), (1, .int x0)], [.int x0, .ref 1], st_mm s)) rfl ?_
  refine bi_TcI (as := [.ref 1, .int x0]) rfl rfl ?_
  refine cI.mono h (fun r1 s1 h => ?_) (fun _ _ h => h.elim)
  refine bi_Tr 1 (s' := ((if ¬ r1 = 0 then 14 else 8), [(0, .ref 1), (1, .int x0)], [], st_mm s1)) rfl (bi_Tif (fun hc => ?_) (fun hc => ?_))
  · have h := h.1 hc
    refine bi_Tr 1 (s' := (15, [(0, .ref 1), (1, .int x0)], [.ref 1], st_mm s1)) rfl ?_
    refine bi_TcV (as := [.ref 1]) rfl rfl ?_
    refine cV.mono h (fun s2 h => ?_) (fun _ _ h => h.elim)
    refine bi_Tr 1 (s' := (19, [(0, .ref 1), (1, .int x0)], [.int (1 : Int32)], st_mm s2)) rfl ?_
    exact bi_Tv rfl rfl (Or.inl ⟨_, _, rfl, h⟩)
  · have h := h.2 hc
    refine bi_Tr 2 (s' := (10, [(0, .ref 1), (1, .int x0)], [.int (1 : Int32), .ref 1], st_mm s1)) rfl ?_
    refine bi_TcI (as := [.ref 1, .int (1 : Int32)]) rfl rfl ?_
    refine cI.mono h (fun r3 s3 h => ?_) (fun _ _ h => h.elim)
    obtain ⟨hi, h⟩ := h
    exact bi_Tv rfl hi (Or.inl ⟨_, _, rfl, h⟩)
/-- PolicyRows$Tape.needNumber(II)Z -/
theorem en_X8_needNumber {X : bi_X} {d : Nat} {K : Int32 → bi_St → Prop} {E : Nat → bi_St → Prop} {s : bi_St} {x0 : Int32} {x1 : Int32}  (h : (((st_g s 1 3) = (2 : Int32)) → (((st_g s 1 7) = 0) → (((st_g s 1 6) ≤ x0) → K (1 : Int32) s) ∧ (¬ ((st_g s 1 6) ≤ x0) → cI X d 99 [.ref 1, .int x1] s (fun (r1 : Int32) (s1 : bi_St) => ((r1 = 0) → K (0 : Int32) s1) ∧ (¬ (r1 = 0) → K (1 : Int32) s1)) (fun _ _ => False))) ∧ (¬ ((st_g s 1 7) = 0) → cI X d 99 [.ref 1, .int (2 : Int32)] s (fun (r2 : Int32) (s2 : bi_St) => bi_bool r2 = true ∧ (K r2 s2)) (fun _ _ => False))) ∧ (¬ ((st_g s 1 3) = (2 : Int32)) → cI X d 99 [.ref 1, .int (1 : Int32)] s (fun (r3 : Int32) (s3 : bi_St) => bi_bool r3 = true ∧ (K r3 s3)) (fun _ _ => False))) : cI X (d + 1) 101 [.ref 1, .int x0, .int x1] s K E := by
  show bi_T _ _ _ _ _
  refine bi_Tr 4 (s' := ((if (st_g s 1 3) = (2 : Int32) then 14 else 8), [(0, .ref 1), (1, .int x0), (2, .int x1)], [], st_mm s)) rfl (bi_Tif (fun hc => ?_) (fun hc => ?_))
  · have h := h.1 hc
    refine bi_Tr 3 (s' := ((if (st_g s 1 7) = 0 then 27 else 21), [(0, .ref 1), (1, .int x0), (2, .int x1)], [], st_mm s)) rfl (bi_Tif (fun hc => ?_) (fun hc => ?_))
    · have h := h.1 hc
      refine bi_Tr 4 (s' := ((if (st_g s 1 6) ≤ x0 then 43 else 35), [(0, .ref 1), (1, .int x0), (2, .int x1)], [], st_mm s)) rfl (bi_Tif (fun hc => ?_) (fun hc => ?_))
      · have h := h.1 hc
        refine bi_Tr 2 (s' := (48, [(0, .ref 1), (1, .int x0), (2, .int x1)], [.int (1 : Int32)], st_mm s)) rfl ?_
        exact bi_Tv rfl rfl (Or.inl ⟨_, _, rfl, h⟩)
      · have h := h.2 hc
        refine bi_Tr 2 (s' := (37, [(0, .ref 1), (1, .int x0), (2, .int x1)], [.int x1, .ref 1], st_mm s)) rfl ?_
        refine bi_TcI (as := [.ref 1, .int x1]) rfl rfl ?_
        refine cI.mono h (fun r1 s1 h => ?_) (fun _ _ h => h.elim)
        refine bi_Tr 1 (s' := ((if r1 = 0 then 47 else 43), [(0, .ref 1), (1, .int x0), (2, .int x1)], [], st_mm s1)) rfl (bi_Tif (fun hc => ?_) (fun hc => ?_))
        · have h := h.1 hc
          refine bi_Tr 1 (s' := (48, [(0, .ref 1), (1, .int x0), (2, .int x1)], [.int (0 : Int32)], st_mm s1)) rfl ?_
          exact bi_Tv rfl rfl (Or.inl ⟨_, _, rfl, h⟩)
        · have h := h.2 hc
          refine bi_Tr 2 (s' := (48, [(0, .ref 1), (1, .int x0), (2, .int x1)], [.int (1 : Int32)], st_mm s1)) rfl ?_
          exact bi_Tv rfl rfl (Or.inl ⟨_, _, rfl, h⟩)
    · have h := h.2 hc
      refine bi_Tr 2 (s' := (23, [(0, .ref 1), (1, .int x0), (2, .int x1)], [.int (2 : Int32), .ref 1], st_mm s)) rfl ?_
      refine bi_TcI (as := [.ref 1, .int (2 : Int32)]) rfl rfl ?_
      refine cI.mono h (fun r2 s2 h => ?_) (fun _ _ h => h.elim)
      obtain ⟨hi, h⟩ := h
      exact bi_Tv rfl hi (Or.inl ⟨_, _, rfl, h⟩)
  · have h := h.2 hc
    refine bi_Tr 2 (s' := (10, [(0, .ref 1), (1, .int x0), (2, .int x1)], [.int (1 : Int32), .ref 1], st_mm s)) rfl ?_
    refine bi_TcI (as := [.ref 1, .int (1 : Int32)]) rfl rfl ?_
    refine cI.mono h (fun r3 s3 h => ?_) (fun _ _ h => h.elim)
    obtain ⟨hi, h⟩ := h
    exact bi_Tv rfl hi (Or.inl ⟨_, _, rfl, h⟩)
/-- java/lang/Integer.bitCount(I)I -/
theorem en_J6_bitCount_0f7a4 {X : bi_X} {d : Nat} {K : Int32 → bi_St → Prop} {E : Nat → bi_St → Prop} {s : bi_St} {x0 : Int32}  (h : K ((((((((x0 - (((x0).toUInt32 >>> (((1 : Int32)).toUInt32 &&& Int32.toUInt32 31)).toInt32 &&& (1431655765 : Int32))) &&& (858993459 : Int32)) + ((((x0 - (((x0).toUInt32 >>> (((1 : Int32)).toUInt32 &&& Int32.toUInt32 31)).toInt32 &&& (1431655765 : Int32)))).toUInt32 >>> (((2 : Int32)).toUInt32 &&& Int32.toUInt32 31)).toInt32 &&& (858993459 : Int32))) + (((((x0 - (((x0).toUInt32 >>> (((1 : Int32)).toUInt32 &&& Int32.toUInt32 31)).toInt32 &&& (1431655765 : Int32))) &&& (858993459 : Int32)) + ((((x0 - (((x0).toUInt32 >>> (((1 : Int32)).toUInt32 &&& Int32.toUInt32 31)).toInt32 &&& (1431655765 : Int32)))).toUInt32 >>> (((2 : Int32)).toUInt32 &&& Int32.toUInt32 31)).toInt32 &&& (858993459 : Int32)))).toUInt32 >>> (((4 : Int32)).toUInt32 &&& Int32.toUInt32 31)).toInt32) &&& (252645135 : Int32)) + (((((((x0 - (((x0).toUInt32 >>> (((1 : Int32)).toUInt32 &&& Int32.toUInt32 31)).toInt32 &&& (1431655765 : Int32))) &&& (858993459 : Int32)) + ((((x0 - (((x0).toUInt32 >>> (((1 : Int32)).toUInt32 &&& Int32.toUInt32 31)).toInt32 &&& (1431655765 : Int32)))).toUInt32 >>> (((2 : Int32)).toUInt32 &&& Int32.toUInt32 31)).toInt32 &&& (858993459 : Int32))) + (((((x0 - (((x0).toUInt32 >>> (((1 : Int32)).toUInt32 &&& Int32.toUInt32 31)).toInt32 &&& (1431655765 : Int32))) &&& (858993459 : Int32)) + ((((x0 - (((x0).toUInt32 >>> (((1 : Int32)).toUInt32 &&& Int32.toUInt32 31)).toInt32 &&& (1431655765 : Int32)))).toUInt32 >>> (((2 : Int32)).toUInt32 &&& Int32.toUInt32 31)).toInt32 &&& (858993459 : Int32)))).toUInt32 >>> (((4 : Int32)).toUInt32 &&& Int32.toUInt32 31)).toInt32) &&& (252645135 : Int32))).toUInt32 >>> (((8 : Int32)).toUInt32 &&& Int32.toUInt32 31)).toInt32) + ((((((((x0 - (((x0).toUInt32 >>> (((1 : Int32)).toUInt32 &&& Int32.toUInt32 31)).toInt32 &&& (1431655765 : Int32))) &&& (858993459 : Int32)) + ((((x0 - (((x0).toUInt32 >>> (((1 : Int32)).toUInt32 &&& Int32.toUInt32 31)).toInt32 &&& (1431655765 : Int32)))).toUInt32 >>> (((2 : Int32)).toUInt32 &&& Int32.toUInt32 31)).toInt32 &&& (858993459 : Int32))) + (((((x0 - (((x0).toUInt32 >>> (((1 : Int32)).toUInt32 &&& Int32.toUInt32 31)).toInt32 &&& (1431655765 : Int32))) &&& (858993459 : Int32)) + ((((x0 - (((x0).toUInt32 >>> (((1 : Int32)).toUInt32 &&& Int32.toUInt32 31)).toInt32 &&& (1431655765 : Int32)))).toUInt32 >>> (((2 : Int32)).toUInt32 &&& Int32.toUInt32 31)).toInt32 &&& (858993459 : Int32)))).toUInt32 >>> (((4 : Int32)).toUInt32 &&& Int32.toUInt32 31)).toInt32) &&& (252645135 : Int32)) + (((((((x0 - (((x0).toUInt32 >>> (((1 : Int32)).toUInt32 &&& Int32.toUInt32 31)).toInt32 &&& (1431655765 : Int32))) &&& (858993459 : Int32)) + ((((x0 - (((x0).toUInt32 >>> (((1 : Int32)).toUInt32 &&& Int32.toUInt32 31)).toInt32 &&& (1431655765 : Int32)))).toUInt32 >>> (((2 : Int32)).toUInt32 &&& Int32.toUInt32 31)).toInt32 &&& (858993459 : Int32))) + (((((x0 - (((x0).toUInt32 >>> (((1 : Int32)).toUInt32 &&& Int32.toUInt32 31)).toInt32 &&& (1431655765 : Int32))) &&& (858993459 : Int32)) + ((((x0 - (((x0).toUInt32 >>> (((1 : Int32)).toUInt32 &&& Int32.toUInt32 31)).toInt32 &&& (1431655765 : Int32)))).toUInt32 >>> (((2 : Int32)).toUInt32 &&& Int32.toUInt32 31)).toInt32 &&& (858993459 : Int32)))).toUInt32 >>> (((4 : Int32)).toUInt32 &&& Int32.toUInt32 31)).toInt32) &&& (252645135 : Int32))).toUInt32 >>> (((8 : Int32)).toUInt32 &&& Int32.toUInt32 31)).toInt32)).toUInt32 >>> (((16 : Int32)).toUInt32 &&& Int32.toUInt32 31)).toInt32) &&& (63 : Int32)) s) : cI X d 268 [.int x0] s K E := by
  show bi_T _ _ _ _ _
  refine bi_Tr 41 (s' := (52, [(0, .int (((((((x0 - (((x0).toUInt32 >>> (((1 : Int32)).toUInt32 &&& Int32.toUInt32 31)).toInt32 &&& (1431655765 : Int32))) &&& (858993459 : Int32)) + ((((x0 - (((x0).toUInt32 >>> (((1 : Int32)).toUInt32 &&& Int32.toUInt32 31)).toInt32 &&& (1431655765 : Int32)))).toUInt32 >>> (((2 : Int32)).toUInt32 &&& Int32.toUInt32 31)).toInt32 &&& (858993459 : Int32))) + (((((x0 - (((x0).toUInt32 >>> (((1 : Int32)).toUInt32 &&& Int32.toUInt32 31)).toInt32 &&& (1431655765 : Int32))) &&& (858993459 : Int32)) + ((((x0 - (((x0).toUInt32 >>> (((1 : Int32)).toUInt32 &&& Int32.toUInt32 31)).toInt32 &&& (1431655765 : Int32)))).toUInt32 >>> (((2 : Int32)).toUInt32 &&& Int32.toUInt32 31)).toInt32 &&& (858993459 : Int32)))).toUInt32 >>> (((4 : Int32)).toUInt32 &&& Int32.toUInt32 31)).toInt32) &&& (252645135 : Int32)) + (((((((x0 - (((x0).toUInt32 >>> (((1 : Int32)).toUInt32 &&& Int32.toUInt32 31)).toInt32 &&& (1431655765 : Int32))) &&& (858993459 : Int32)) + ((((x0 - (((x0).toUInt32 >>> (((1 : Int32)).toUInt32 &&& Int32.toUInt32 31)).toInt32 &&& (1431655765 : Int32)))).toUInt32 >>> (((2 : Int32)).toUInt32 &&& Int32.toUInt32 31)).toInt32 &&& (858993459 : Int32))) + (((((x0 - (((x0).toUInt32 >>> (((1 : Int32)).toUInt32 &&& Int32.toUInt32 31)).toInt32 &&& (1431655765 : Int32))) &&& (858993459 : Int32)) + ((((x0 - (((x0).toUInt32 >>> (((1 : Int32)).toUInt32 &&& Int32.toUInt32 31)).toInt32 &&& (1431655765 : Int32)))).toUInt32 >>> (((2 : Int32)).toUInt32 &&& Int32.toUInt32 31)).toInt32 &&& (858993459 : Int32)))).toUInt32 >>> (((4 : Int32)).toUInt32 &&& Int32.toUInt32 31)).toInt32) &&& (252645135 : Int32))).toUInt32 >>> (((8 : Int32)).toUInt32 &&& Int32.toUInt32 31)).toInt32) + ((((((((x0 - (((x0).toUInt32 >>> (((1 : Int32)).toUInt32 &&& Int32.toUInt32 31)).toInt32 &&& (1431655765 : Int32))) &&& (858993459 : Int32)) + ((((x0 - (((x0).toUInt32 >>> (((1 : Int32)).toUInt32 &&& Int32.toUInt32 31)).toInt32 &&& (1431655765 : Int32)))).toUInt32 >>> (((2 : Int32)).toUInt32 &&& Int32.toUInt32 31)).toInt32 &&& (858993459 : Int32))) + (((((x0 - (((x0).toUInt32 >>> (((1 : Int32)).toUInt32 &&& Int32.toUInt32 31)).toInt32 &&& (1431655765 : Int32))) &&& (858993459 : Int32)) + ((((x0 - (((x0).toUInt32 >>> (((1 : Int32)).toUInt32 &&& Int32.toUInt32 31)).toInt32 &&& (1431655765 : Int32)))).toUInt32 >>> (((2 : Int32)).toUInt32 &&& Int32.toUInt32 31)).toInt32 &&& (858993459 : Int32)))).toUInt32 >>> (((4 : Int32)).toUInt32 &&& Int32.toUInt32 31)).toInt32) &&& (252645135 : Int32)) + (((((((x0 - (((x0).toUInt32 >>> (((1 : Int32)).toUInt32 &&& Int32.toUInt32 31)).toInt32 &&& (1431655765 : Int32))) &&& (858993459 : Int32)) + ((((x0 - (((x0).toUInt32 >>> (((1 : Int32)).toUInt32 &&& Int32.toUInt32 31)).toInt32 &&& (1431655765 : Int32)))).toUInt32 >>> (((2 : Int32)).toUInt32 &&& Int32.toUInt32 31)).toInt32 &&& (858993459 : Int32))) + (((((x0 - (((x0).toUInt32 >>> (((1 : Int32)).toUInt32 &&& Int32.toUInt32 31)).toInt32 &&& (1431655765 : Int32))) &&& (858993459 : Int32)) + ((((x0 - (((x0).toUInt32 >>> (((1 : Int32)).toUInt32 &&& Int32.toUInt32 31)).toInt32 &&& (1431655765 : Int32)))).toUInt32 >>> (((2 : Int32)).toUInt32 &&& Int32.toUInt32 31)).toInt32 &&& (858993459 : Int32)))).toUInt32 >>> (((4 : Int32)).toUInt32 &&& Int32.toUInt32 31)).toInt32) &&& (252645135 : Int32))).toUInt32 >>> (((8 : Int32)).toUInt32 &&& Int32.toUInt32 31)).toInt32)).toUInt32 >>> (((16 : Int32)).toUInt32 &&& Int32.toUInt32 31)).toInt32))], [.int ((((((((x0 - (((x0).toUInt32 >>> (((1 : Int32)).toUInt32 &&& Int32.toUInt32 31)).toInt32 &&& (1431655765 : Int32))) &&& (858993459 : Int32)) + ((((x0 - (((x0).toUInt32 >>> (((1 : Int32)).toUInt32 &&& Int32.toUInt32 31)).toInt32 &&& (1431655765 : Int32)))).toUInt32 >>> (((2 : Int32)).toUInt32 &&& Int32.toUInt32 31)).toInt32 &&& (858993459 : Int32))) + (((((x0 - (((x0).toUInt32 >>> (((1 : Int32)).toUInt32 &&& Int32.toUInt32 31)).toInt32 &&& (1431655765 : Int32))) &&& (858993459 : Int32)) + ((((x0 - (((x0).toUInt32 >>> (((1 : Int32)).toUInt32 &&& Int32.toUInt32 31)).toInt32 &&& (1431655765 : Int32)))).toUInt32 >>> (((2 : Int32)).toUInt32 &&& Int32.toUInt32 31)).toInt32 &&& (858993459 : Int32)))).toUInt32 >>> (((4 : Int32)).toUInt32 &&& Int32.toUInt32 31)).toInt32) &&& (252645135 : Int32)) + (((((((x0 - (((x0).toUInt32 >>> (((1 : Int32)).toUInt32 &&& Int32.toUInt32 31)).toInt32 &&& (1431655765 : Int32))) &&& (858993459 : Int32)) + ((((x0 - (((x0).toUInt32 >>> (((1 : Int32)).toUInt32 &&& Int32.toUInt32 31)).toInt32 &&& (1431655765 : Int32)))).toUInt32 >>> (((2 : Int32)).toUInt32 &&& Int32.toUInt32 31)).toInt32 &&& (858993459 : Int32))) + (((((x0 - (((x0).toUInt32 >>> (((1 : Int32)).toUInt32 &&& Int32.toUInt32 31)).toInt32 &&& (1431655765 : Int32))) &&& (858993459 : Int32)) + ((((x0 - (((x0).toUInt32 >>> (((1 : Int32)).toUInt32 &&& Int32.toUInt32 31)).toInt32 &&& (1431655765 : Int32)))).toUInt32 >>> (((2 : Int32)).toUInt32 &&& Int32.toUInt32 31)).toInt32 &&& (858993459 : Int32)))).toUInt32 >>> (((4 : Int32)).toUInt32 &&& Int32.toUInt32 31)).toInt32) &&& (252645135 : Int32))).toUInt32 >>> (((8 : Int32)).toUInt32 &&& Int32.toUInt32 31)).toInt32) + ((((((((x0 - (((x0).toUInt32 >>> (((1 : Int32)).toUInt32 &&& Int32.toUInt32 31)).toInt32 &&& (1431655765 : Int32))) &&& (858993459 : Int32)) + ((((x0 - (((x0).toUInt32 >>> (((1 : Int32)).toUInt32 &&& Int32.toUInt32 31)).toInt32 &&& (1431655765 : Int32)))).toUInt32 >>> (((2 : Int32)).toUInt32 &&& Int32.toUInt32 31)).toInt32 &&& (858993459 : Int32))) + (((((x0 - (((x0).toUInt32 >>> (((1 : Int32)).toUInt32 &&& Int32.toUInt32 31)).toInt32 &&& (1431655765 : Int32))) &&& (858993459 : Int32)) + ((((x0 - (((x0).toUInt32 >>> (((1 : Int32)).toUInt32 &&& Int32.toUInt32 31)).toInt32 &&& (1431655765 : Int32)))).toUInt32 >>> (((2 : Int32)).toUInt32 &&& Int32.toUInt32 31)).toInt32 &&& (858993459 : Int32)))).toUInt32 >>> (((4 : Int32)).toUInt32 &&& Int32.toUInt32 31)).toInt32) &&& (252645135 : Int32)) + (((((((x0 - (((x0).toUInt32 >>> (((1 : Int32)).toUInt32 &&& Int32.toUInt32 31)).toInt32 &&& (1431655765 : Int32))) &&& (858993459 : Int32)) + ((((x0 - (((x0).toUInt32 >>> (((1 : Int32)).toUInt32 &&& Int32.toUInt32 31)).toInt32 &&& (1431655765 : Int32)))).toUInt32 >>> (((2 : Int32)).toUInt32 &&& Int32.toUInt32 31)).toInt32 &&& (858993459 : Int32))) + (((((x0 - (((x0).toUInt32 >>> (((1 : Int32)).toUInt32 &&& Int32.toUInt32 31)).toInt32 &&& (1431655765 : Int32))) &&& (858993459 : Int32)) + ((((x0 - (((x0).toUInt32 >>> (((1 : Int32)).toUInt32 &&& Int32.toUInt32 31)).toInt32 &&& (1431655765 : Int32)))).toUInt32 >>> (((2 : Int32)).toUInt32 &&& Int32.toUInt32 31)).toInt32 &&& (858993459 : Int32)))).toUInt32 >>> (((4 : Int32)).toUInt32 &&& Int32.toUInt32 31)).toInt32) &&& (252645135 : Int32))).toUInt32 >>> (((8 : Int32)).toUInt32 &&& Int32.toUInt32 31)).toInt32)).toUInt32 >>> (((16 : Int32)).toUInt32 &&& Int32.toUInt32 31)).toInt32) &&& (63 : Int32))], st_mm s)) rfl ?_
  exact bi_Tv rfl rfl (Or.inl ⟨_, _, rfl, h⟩)
/-- java/lang/Math.max(II)I -/
theorem en_J9_max_7cf53 {X : bi_X} {d : Nat} {K : Int32 → bi_St → Prop} {E : Nat → bi_St → Prop} {s : bi_St} {x0 : Int32} {x1 : Int32}  (h : ((x0 < x1) → K x1 s) ∧ (¬ (x0 < x1) → K x0 s)) : cI X d 269 [.int x0, .int x1] s K E := by
  show bi_T _ _ _ _ _
  refine bi_Tr 3 (s' := ((if x0 < x1 then 9 else 5), [(0, .int x0), (1, .int x1)], [], st_mm s)) rfl (bi_Tif (fun hc => ?_) (fun hc => ?_))
  · have h := h.1 hc
    refine bi_Tr 1 (s' := (10, [(0, .int x0), (1, .int x1)], [.int x1], st_mm s)) rfl ?_
    exact bi_Tv rfl rfl (Or.inl ⟨_, _, rfl, h⟩)
  · have h := h.2 hc
    refine bi_Tr 2 (s' := (10, [(0, .int x0), (1, .int x1)], [.int x0], st_mm s)) rfl ?_
    exact bi_Tv rfl rfl (Or.inl ⟨_, _, rfl, h⟩)
/-- java/lang/Math.min(II)I -/
theorem en_J9_min_7cf53 {X : bi_X} {d : Nat} {K : Int32 → bi_St → Prop} {E : Nat → bi_St → Prop} {s : bi_St} {x0 : Int32} {x1 : Int32}  (h : ((x1 < x0) → K x1 s) ∧ (¬ (x1 < x0) → K x0 s)) : cI X d 270 [.int x0, .int x1] s K E := by
  show bi_T _ _ _ _ _
  refine bi_Tr 3 (s' := ((if x1 < x0 then 9 else 5), [(0, .int x0), (1, .int x1)], [], st_mm s)) rfl (bi_Tif (fun hc => ?_) (fun hc => ?_))
  · have h := h.1 hc
    refine bi_Tr 1 (s' := (10, [(0, .int x0), (1, .int x1)], [.int x1], st_mm s)) rfl ?_
    exact bi_Tv rfl rfl (Or.inl ⟨_, _, rfl, h⟩)
  · have h := h.2 hc
    refine bi_Tr 2 (s' := (10, [(0, .int x0), (1, .int x1)], [.int x0], st_mm s)) rfl ?_
    exact bi_Tv rfl rfl (Or.inl ⟨_, _, rfl, h⟩)
